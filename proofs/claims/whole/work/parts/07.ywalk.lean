/-! the reference's walks -/
section
variable {C G m b : Int32} {t p s r : Nat → Int32} {N : Nat}
theorem zy_cmp_56 {post : Int32 → Prop} {J : Int32 → Prop} {i j k : Nat} {z : Int32} (hN : N ≤ 128) (hi : i + k < N) (hj : j + k < N) (he : zs_t t (i + k) = zs_t t (j + k) → J (nI (k + 1))) (hl : zs_t t (i + k) < zs_t t (j + k) → post (-1)) (hg : zs_t t (j + k) < zs_t t (i + k) → post 1) : wY_cmpSuf_56 post J (nI i) (nI j) (nI k) 0 0 C G (nI N) m b t p s r := by
  refine br_t rfl (br_t rfl ⟨zt_ina (by omega), zt_ina (by omega), ?_⟩)
  rw [zt_ain (a := t) (i := i) (k := k) (by omega), zt_ain (a := t) (i := j) (k := k) (by omega)]
  by_cases c : zs_t t (i + k) = zs_t t (j + k)
  · exact br_t (zt_e c) (nm_r (nI_1 k) (he c))
  · refine br_f (zt_ne c) ⟨zt_ina (by omega), zt_ina (by omega), ?_⟩
    by_cases d : zs_t t (i + k) < zs_t t (j + k)
    · exact br_f (zt_nle (by omega)) (hl d)
    · exact br_t (zt_le (by omega)) (hg (by omega))
theorem zy_cmp_lp {post : Int32 → Prop} {i j : Nat} (hN : N ≤ 128) (hi : i < N) (hj : j < N) (hp : ∀ x : Int32, (x < 0 ↔ zs_B (zs_t t) N i j) → post x) : ∀ d k, k + d = N → i + k ≤ N → j + k ≤ N → (∀ q, q < k → zs_t t (i + q) = zs_t t (j + q)) → wY_cmpSuf_2 post (nI i) (nI j) C G (nI N) m b t p s r (d + 1) (nI k) := by
  intro d
  induction d with
  | zero =>
    intro k hk hik hjk hq
    refine br_t (nI_le (by omega) (by omega)) (hp 0 ⟨fun z => absurd z (by decide), fun z => ?_⟩)
    have e : i = j := by omega
    rw [e] at z
    exact absurd z (zs_B_ir (by omega))
  | succ d ih =>
    intro k hk hik hjk hq
    refine br_f (nI_ge (by omega) (by omega)) ?_
    by_cases c1 : i + k < N
    · refine br_t (zt_alt c1 hN) ?_
      by_cases c2 : j + k < N
      · refine br_t (zt_alt c2 hN) (br_t rfl ?_)
        refine zy_cmp_56 (z := 0) hN c1 c2 (fun c => ih (k + 1) (by omega) (by omega) (by omega) ?_) (fun c => hp (-1) ⟨fun _ => ?_, fun _ => by decide⟩) (fun c => hp 1 ⟨fun z => absurd z (by decide), fun z => ?_⟩)
        · intro q hq'
          by_cases z : q = k
          · rw [z]; exact c
          · exact hq q (by omega)
        · have e : zs_L (zs_t t) N i j = k := zs_L_of ⟨by omega, by omega, hq, fun _ _ => by omega⟩
          unfold zs_B zs_H
          rw [e]
          exact ⟨c2, Or.inr c⟩
        · have e : zs_L (zs_t t) N i j = k := zs_L_of ⟨by omega, by omega, hq, fun _ _ => by omega⟩
          unfold zs_B zs_H at z
          rw [e] at z
          omega
      · refine br_f (zt_anlt (by omega) (by omega)) (br_t rfl ?_)
        refine br_t rfl (br_f (by decide) (hp 1 ⟨fun z => absurd z (by decide), fun z => ?_⟩))
        have e : zs_L (zs_t t) N i j = k := zs_L_of ⟨by omega, by omega, hq, fun _ h => absurd h c2⟩
        unfold zs_B zs_H at z
        rw [e] at z
        omega
    · refine br_f (zt_anlt (by omega) (by omega)) ?_
      have e : zs_L (zs_t t) N i j = k := zs_L_of ⟨by omega, by omega, hq, fun h => absurd h c1⟩
      by_cases c2 : j + k < N
      · refine br_t (zt_alt c2 hN) (br_f (by decide) (br_t rfl (br_f (by decide) (hp (-1) ⟨fun _ => ?_, fun _ => by decide⟩))))
        unfold zs_B zs_H
        rw [e]
        exact ⟨c2, Or.inl (by omega)⟩
      · refine br_f (zt_anlt (by omega) (by omega)) (br_f (by decide) (br_f (by decide) (hp 0 ⟨fun z => absurd z (by decide), fun z => ?_⟩)))
        unfold zs_B zs_H at z
        rw [e] at z
        omega
theorem zy_cmp {post : Int32 → Prop} {i j : Nat} (hN : N ≤ 128) (hi : i < N) (hj : j < N) (hp : ∀ x : Int32, (x < 0 ↔ zs_B (zs_t t) N i j) → post x) : wpY_cmpSuf post (C, G, nI N, m, b, t, p, s, r) (nI i) (nI j) :=
  ⟨N + 1, zy_cmp_lp hN hi hj hp N 0 (by omega) (by omega) (by omega) (fun q hq => absurd hq (Nat.not_lt_zero _))⟩
theorem zy_lcp_lp {post : Int32 → Prop} {i j : Nat} (hN : N ≤ 128) (hp : post (nI (zs_L (zs_t t) N i j))) : ∀ d k, k + d = N → i + k ≤ N → j + k ≤ N → (∀ q, q < k → zs_t t (i + q) = zs_t t (j + q)) → wY_lcpSuf_5 post (nI i) (nI j) C G (nI N) m b t p s r (d + 1) (nI k) (nI k) := by
  intro d
  induction d with
  | zero =>
    intro k hk hik hjk hq
    have e : zs_L (zs_t t) N i j = k := zs_L_of ⟨hik, hjk, hq, fun a b => by omega⟩
    rw [e] at hp
    exact br_t (nI_le (by omega) (by omega)) hp
  | succ d ih =>
    intro k hk hik hjk hq
    refine br_f (nI_ge (by omega) (by omega)) ?_
    by_cases c1 : i + k < N
    · refine br_f (zt_anle c1 hN) ?_
      by_cases c2 : j + k < N
      · refine br_t (zt_alt c2 hN) ⟨zt_ina (by omega), zt_ina (by omega), ?_⟩
        rw [zt_ain (a := t) (i := i) (k := k) (by omega), zt_ain (a := t) (i := j) (k := k) (by omega)]
        by_cases c : zs_t t (i + k) = zs_t t (j + k)
        · refine br_t (zt_e c) (nm_r (nI_1 k) (nm_r (nI_1 k) (ih (k + 1) (by omega) (by omega) (by omega) ?_)))
          intro q hq'
          by_cases z : q = k
          · rw [z]; exact c
          · exact hq q (by omega)
        · have e : zs_L (zs_t t) N i j = k := zs_L_of ⟨hik, hjk, hq, fun _ _ => c⟩
          rw [e] at hp
          exact br_f (zt_ne c) hp
      · have e : zs_L (zs_t t) N i j = k := zs_L_of ⟨hik, hjk, hq, fun _ h => absurd h c2⟩
        rw [e] at hp
        exact br_f (zt_anlt (by omega) (by omega)) hp
    · have e : zs_L (zs_t t) N i j = k := zs_L_of ⟨hik, hjk, hq, fun h => absurd h c1⟩
      rw [e] at hp
      exact br_t (zt_ale (by omega) (by omega)) hp
theorem zy_lcp {post : Int32 → Prop} {i j : Nat} (hN : N ≤ 128) (hi : i < N) (hj : j < N) (hp : post (nI (zs_L (zs_t t) N i j))) : wpY_lcpSuf post (C, G, nI N, m, b, t, p, s, r) (nI i) (nI j) :=
  ⟨N + 1, zy_lcp_lp hN hp N 0 (by omega) (by omega) (by omega) (fun q hq => absurd hq (Nat.not_lt_zero _))⟩
/-- the ranks as the reference makes them -/
def zs_Y (t : Nat → Int) (n k : Nat) (s r : Nat → Int32) : Prop := ∀ i, i < k → r i = nI (zs_K t n i) ∧ s (zs_K t n i) = nI i
theorem zy_bi_lp {post : Int32 → SY → Prop} {J : Int32 → (Nat → Int32) → (Nat → Int32) → (Nat → Int32) → (Nat → Int32) → Prop} {i : Nat} (hN : N ≤ 128) (hi : i < N) (hp : J (nI (i + 1)) t p (upd s (zs_K (zs_t t) N i) (nI i)) (upd r i (nI (zs_K (zs_t t) N i)))) : ∀ d j, j + d = N → wY_build_23 post J (nI i) C G (nI N) m b t p s r (d + 1) (nI (zs_S (fun q => zs_u (zs_b (zs_t t) N q i)) j)) (nI j) := by
  intro d
  induction d with
  | zero =>
    intro j hj
    have e : j = N := by omega
    have hk := zs_K_n (t := zs_t t) hi
    rw [e]
    refine br_t (nI_le (by omega) (by omega)) ?_
    show vp_in (nI i) 128 ∧ ∀ a : Nat → Int32, a = upd r (nI i).toNatClampNeg (nI (zs_K (zs_t t) N i)) → (vp_in (nI (zs_K (zs_t t) N i)) 128 ∧ ∀ a' : Nat → Int32, a' = upd s (nI (zs_K (zs_t t) N i)).toNatClampNeg (nI i) → ∀ x : Int32, x = nI i + 1 → J x t p a' a)
    rw [zt_cl (i := i) (by omega), zt_cl (i := zs_K (zs_t t) N i) (by omega)]
    exact ⟨zt_in (by omega), nm_e ⟨zt_in (by omega), nm_e (nm_r (nI_1 i) hp)⟩⟩
  | succ d ih =>
    intro j hj
    refine br_f (nI_ge (by omega) (by omega)) (zy_cmp hN (by omega) hi (fun x hx => ?_))
    have h := ih (j + 1) (by omega)
    have e : zs_S (fun q => zs_u (zs_b (zs_t t) N q i)) (j + 1) = zs_S (fun q => zs_u (zs_b (zs_t t) N q i)) j + zs_u (zs_b (zs_t t) N j i) := rfl
    rw [e] at h
    by_cases c : zs_B (zs_t t) N j i
    · rw [zs_b_iff.mpr c] at h
      exact br_f (fun z => Int32.not_lt.mpr z (hx.mpr c)) (nm_r (nI_1 _) (nm_r (nI_1 j) h))
    · rw [zs_b_f c] at h
      exact br_t (Int32.not_lt.mp (fun z => c (hx.mp z))) (nm_r (nI_1 j) h)
theorem zy_bo_lp {post : Int32 → SY → Prop} (hN : N ≤ 128) (hp : ∀ s' r' : Nat → Int32, zs_Y (zs_t t) N N s' r' → post 1 (C, G, nI N, m, 1, t, p, s', r')) : ∀ d k, k + d = N → ∀ s' r' : Nat → Int32, zs_Y (zs_t t) N k s' r' → wY_build_11 post C G (nI N) m b (d + 1) (nI k) t p s' r' := by
  intro d
  induction d with
  | zero =>
    intro k hk s' r' h
    have e : k = N := by omega
    rw [e] at h
    exact br_t (nI_le (by omega) (by omega)) (hp s' r' h)
  | succ d ih =>
    intro k hk s' r' h
    refine br_f (nI_ge (by omega) (by omega)) ⟨N + 1, zy_bi_lp hN (by omega) (ih (k + 1) (by omega) _ _ ?_) N 0 (by omega)⟩
    intro i hi
    by_cases c : i = k
    · rw [c, pk_us, pk_us]
      exact ⟨rfl, rfl⟩
    · have hne : zs_K (zs_t t) N i ≠ zs_K (zs_t t) N k := fun z => c (zs_K_inj (by omega) (by omega) z)
      rw [pk_un c, pk_un hne]
      exact h i (by omega)
theorem zy_build {post : Int32 → SY → Prop} (h0 : 0 < N) (hN : N ≤ 128) (hp : ∀ s' r' : Nat → Int32, zs_Y (zs_t t) N N s' r' → post 1 (C, G, nI N, m, 1, t, p, s', r')) : wpY_build post (C, G, nI N, m, b, t, p, s, r) :=
  br_f (nI_ne0 h0 (by omega)) ⟨N + 1, zy_bo_lp hN hp N 0 (by omega) s r (fun i hi => absurd hi (Nat.not_lt_zero _))⟩
theorem zy_di_lp {post : Int32 → Prop} {J : Int32 → Int32 → Prop} {i T : Nat} (hN : N ≤ 128) (hi : i < N) (hp : J (nI (T + (N - i - zs_P (zs_t t) N i))) (nI (i + 1))) : ∀ d j, j + d = i → wY_distinctSubstrings_26 post J (nI T) (nI i) C G (nI N) m b t p s r (d + 1) (nI (zs_X (fun _ => true) (fun q => zs_L (zs_t t) N i q) j)) (nI j) := by
  intro d
  induction d with
  | zero =>
    intro j hj
    have e : j = i := by omega
    have hb : zs_P (zs_t t) N i ≤ N - i := zs_P_le (fun q hq => (zs_L_le (Nat.le_of_lt hi) (by omega)).1)
    rw [e]
    refine br_t (nI_le (by omega) (by omega)) (nm_r ?_ (nm_r (nI_1 i) hp))
    show nI T + (nI N - nI i - nI (zs_P (zs_t t) N i)) = _
    rw [pk_sub (Nat.le_of_lt hi), pk_sub hb, nI_add]
  | succ d ih =>
    intro j hj
    have h := ih (j + 1) (by omega)
    have a1 := zs_L_le (t := zs_t t) (n := N) (i := i) (j := j) (Nat.le_of_lt hi) (by omega)
    have a3 : zs_X (fun _ => true) (fun q => zs_L (zs_t t) N i q) j ≤ N := zs_X_le (fun q hq _ => by have := zs_L_le (t := zs_t t) (n := N) (i := i) (j := q) (Nat.le_of_lt hi) (by omega); omega)
    refine br_f (nI_ge (by omega) (by omega)) (zy_lcp hN hi (by omega) ?_)
    rw [zs_X_s] at h
    by_cases c : zs_X (fun _ => true) (fun q => zs_L (zs_t t) N i q) j < zs_L (zs_t t) N i j
    · rw [if_pos ⟨rfl, c⟩] at h
      exact br_f (nI_ge c (by omega)) (nm_r (nI_1 j) h)
    · rw [if_neg (fun z => c z.2)] at h
      exact br_t (nI_le (by omega) (by omega)) (nm_r (nI_1 j) h)
theorem zy_do_lp {post : Int32 → Prop} (hN : N ≤ 128) (hp : post (nI (zs_S (fun i => N - i - zs_P (zs_t t) N i) N))) : ∀ d k, k + d = N → wY_distinctSubstrings_13 post C G (nI N) m b t p s r (d + 1) (nI (zs_S (fun i => N - i - zs_P (zs_t t) N i) k)) (nI k) := by
  intro d
  induction d with
  | zero =>
    intro k hk
    have e : k = N := by omega
    rw [e]
    exact br_t (nI_le (by omega) (by omega)) hp
  | succ d ih =>
    intro k hk
    exact br_f (nI_ge (by omega) (by omega)) ⟨k + 1, zy_di_lp hN (by omega) (ih (k + 1) (by omega)) k 0 (by omega)⟩
theorem zy_dist {post : Int32 → Prop} (hN : N ≤ 128) (hb : ¬ b = 0) (hp : post (nI (zs_S (fun i => N - i - zs_P (zs_t t) N i) N))) : wpY_distinctSubstrings post (C, G, nI N, m, b, t, p, s, r) :=
  br_f hb ⟨N + 1, zy_do_lp hN hp N 0 (by omega)⟩
/-- v is the greatest length that pairs share, those before (i, j) in the order of the walk -/
def zs_V (t : Nat → Int) (n i j v : Nat) : Prop := v ≤ n ∧ (∀ a c, a < c → c < n → (a < i ∨ (a = i ∧ c < j)) → zs_L t n a c ≤ v) ∧ (v = 0 ∨ ∃ a c, a < c ∧ c < n ∧ zs_L t n a c = v)
theorem zy_li_lp {post : Int32 → Prop} {J : Int32 → Int32 → Prop} {i : Nat} (hN : N ≤ 128) (hi : i < N) (hp : ∀ v, zs_V (zs_t t) N (i + 1) 0 v → J (nI v) (nI (i + 1))) : ∀ d j v, i < j → j + d = N → zs_V (zs_t t) N i j v → wY_longestRepeat_25 post J (nI i) C G (nI N) m b t p s r (d + 1) (nI v) (nI j) := by
  intro d
  induction d with
  | zero =>
    intro j v hij hj hv
    refine br_t (nI_le (by omega) (by omega)) (nm_r (nI_1 i) (hp v ⟨hv.1, fun a c h1 h2 h3 => hv.2.1 a c h1 h2 ?_, hv.2.2⟩))
    omega
  | succ d ih =>
    intro j v hij hj hv
    have a1 := zs_L_le (t := zs_t t) (n := N) (i := i) (j := j) (Nat.le_of_lt hi) (by omega)
    have hv1 := hv.1
    refine br_f (nI_ge (by omega) (by omega)) (zy_lcp hN hi (by omega) ?_)
    by_cases c : v < zs_L (zs_t t) N i j
    · refine br_f (nI_ge c (by omega)) (nm_r (nI_1 j) (ih (j + 1) _ (by omega) (by omega) ⟨by omega, fun x y h1 h2 h3 => ?_, Or.inr ⟨i, j, hij, by omega, rfl⟩⟩))
      by_cases z : x = i ∧ y = j
      · rw [z.1, z.2]; exact Nat.le_refl _
      · have := hv.2.1 x y h1 h2 (by omega)
        omega
    · refine br_t (nI_le (by omega) (by omega)) (nm_r (nI_1 j) (ih (j + 1) v (by omega) (by omega) ⟨hv1, fun x y h1 h2 h3 => ?_, hv.2.2⟩))
      by_cases z : x = i ∧ y = j
      · rw [z.1, z.2]; omega
      · exact hv.2.1 x y h1 h2 (by omega)
theorem zy_lo_lp {post : Int32 → Prop} (hN : N ≤ 128) (hp : ∀ v, zs_top (zs_t t) N v → post (nI v)) : ∀ d k v, k + d = N → zs_V (zs_t t) N k 0 v → wY_longestRepeat_13 post C G (nI N) m b t p s r (d + 1) (nI v) (nI k) := by
  intro d
  induction d with
  | zero =>
    intro k v hk hv
    exact br_t (nI_le (by omega) (by omega)) (hp v ⟨fun i j h1 h2 => hv.2.1 i j h1 h2 (by omega), hv.2.2⟩)
  | succ d ih =>
    intro k v hk hv
    exact br_f (nI_ge (by omega) (by omega)) (nm_r (nI_1 k) ⟨N - (k + 1) + 1, zy_li_lp hN (by omega) (fun v' hv' => ih (k + 1) v' (by omega) hv') (N - (k + 1)) (k + 1) v (by omega) (by omega) ⟨hv.1, fun a c h1 h2 h3 => hv.2.1 a c h1 h2 (by omega), hv.2.2⟩⟩)
theorem zy_long {post : Int32 → Prop} (hN : N ≤ 128) (hb : ¬ b = 0) (hp : ∀ v, zs_top (zs_t t) N v → post (nI v)) : wpY_longestRepeat post (C, G, nI N, m, b, t, p, s, r) :=
  br_f hb ⟨N + 1, zy_lo_lp hN hp N 0 0 (by omega) ⟨Nat.zero_le _, fun a c _ _ h => absurd h (by omega), Or.inl rfl⟩⟩
end
