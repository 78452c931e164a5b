/-! the class's walks: shared lengths, the order, the sort, ranks, shared lengths of neighbours -/
section
variable {C G m b : Int32} {t p s r l : Nat → Int32} {N : Nat}
theorem zx_sbs_lp {post : Int32 → Prop} {i j mo : Nat} (hN : N ≤ 128) (h1 : i + mo ≤ N) (h2 : j + mo ≤ N) (h3 : i + mo = N ∨ j + mo = N) (hp : post (nI (zs_L (zs_t t) N i j))) : ∀ d k, k + d = mo → (∀ q, q < k → zs_t t (i + q) = zs_t t (j + q)) → wX_sharedBySuffixes_22 post (nI i) (nI j) (nI mo) C G (nI N) m b t p s r l (d + 1) (nI k) := by
  intro d
  induction d with
  | zero =>
    intro k hk hq
    have e : zs_L (zs_t t) N i j = mo := zs_L_of ⟨h1, h2, fun q hq' => hq q (by omega), fun a b => by omega⟩
    rw [e] at hp
    exact br_t (nI_le (by omega) (by omega)) hp
  | succ d ih =>
    intro k hk hq
    refine br_f (nI_ge (by omega) (by omega)) ⟨zt_ina (by omega), zt_ina (by omega), ?_⟩
    rw [zt_ain (a := t) (i := i) (k := k) (by omega), zt_ain (a := t) (i := j) (k := k) (by omega)]
    by_cases c : zs_t t (i + k) = zs_t t (j + k)
    · refine br_t (zt_e c) (nm_r (nI_1 k) (ih (k + 1) (by omega) ?_))
      intro q hq'
      by_cases z : q = k
      · rw [z]; exact c
      · exact hq q (by omega)
    · refine br_f (zt_ne c) ?_
      have e : zs_L (zs_t t) N i j = k := zs_L_of ⟨by omega, by omega, hq, fun _ _ => c⟩
      rw [e] at hp
      exact hp
theorem zx_sbs {post : Int32 → Prop} {i j : Nat} (hN : N ≤ 128) (hi : i < N) (hj : j < N) (hp : post (nI (zs_L (zs_t t) N i j))) : wpX_sharedBySuffixes post (C, G, nI N, m, b, t, p, s, r, l) (nI i) (nI j) := by
  by_cases c : i ≤ j
  · refine br_t (nI_le c (by omega)) (nm_r (pk_sub (Nat.le_of_lt hj)) ⟨N - j + 1, ?_⟩)
    exact zx_sbs_lp hN (by omega) (by omega) (Or.inr (by omega)) hp (N - j) 0 (by omega) (fun q hq => absurd hq (Nat.not_lt_zero _))
  · refine br_f (nI_ge (by omega) (by omega)) (nm_r (pk_sub (Nat.le_of_lt hi)) ⟨N - i + 1, ?_⟩)
    exact zx_sbs_lp hN (by omega) (by omega) (Or.inl (by omega)) hp (N - i) 0 (by omega) (fun q hq => absurd hq (Nat.not_lt_zero _))
theorem zx_below {post : Int32 → Prop} {i j : Nat} (hN : N ≤ 128) (hi : i < N) (hj : j < N) (hp : post (zs_n (zs_b (zs_t t) N i j))) : wpX_isSuffixBelow post (C, G, nI N, m, b, t, p, s, r, l) (nI i) (nI j) := by
  unfold wpX_isSuffixBelow
  dsimp only
  refine zx_sbs hN hi hj ?_
  have g := zs_L_gp (t := zs_t t) (Nat.le_of_lt hi) (Nat.le_of_lt hj)
  have gb : zs_b (zs_t t) N i j = true ↔ zs_H (zs_t t) N (zs_t t) N i j (zs_L (zs_t t) N i j) := zs_b_iff
  generalize zs_L (zs_t t) N i j = q at g gb ⊢
  obtain ⟨g1, g2, _, _⟩ := g
  by_cases c1 : j + q < N
  · refine br_t (zt_alt c1 hN) ?_
    by_cases c2 : i + q < N
    · refine br_t (zt_alt c2 hN) ⟨zt_ina (by omega), zt_ina (by omega), ?_⟩
      rw [zt_ain (a := t) (i := i) (k := q) (by omega), zt_ain (a := t) (i := j) (k := q) (by omega)]
      by_cases c3 : zs_t t (i + q) < zs_t t (j + q)
      · have e : zs_b (zs_t t) N i j = true := gb.mpr ⟨c1, Or.inr c3⟩
        rw [e] at hp
        exact br_f (zt_nle (by omega)) hp
      · have e : zs_b (zs_t t) N i j = false := by
          cases z : zs_b (zs_t t) N i j with
          | false => rfl
          | true =>
            exfalso
            rcases (gb.mp z).2 with z1 | z1
            · omega
            · exact c3 z1
        rw [e] at hp
        exact br_t (zt_le (by omega)) hp
    · have e : zs_b (zs_t t) N i j = true := gb.mpr ⟨c1, Or.inl (by omega)⟩
      rw [e] at hp
      exact br_f (zt_anlt (by omega) (by omega)) hp
  · have e : zs_b (zs_t t) N i j = false := by
      cases z : zs_b (zs_t t) N i j with
      | false => rfl
      | true => exact absurd (gb.mp z).1 c1
    rw [e] at hp
    exact br_f (zt_anlt (by omega) (by omega)) hp
theorem zx_fin {s' : Nat → Int32} {g : Nat → Nat} {lo k : Nat} (hk : k ≤ N - (lo + 1)) (h1 : ∀ q, q < k → s' q = nI (g q)) (h2 : ∀ q, k ≤ q → q < N - (lo + 1) → s' (q + 1) = nI (g q) ∧ zs_B (zs_t t) N lo (g q)) : ∀ q, q < N - lo → upd s' k (nI lo) q = nI (zs_ins g k lo q) := by
  intro q hq
  by_cases c1 : q < k
  · rw [pk_un (show q ≠ k by omega), h1 q c1]
    exact congrArg nI (if_pos c1).symm
  · by_cases c2 : q = k
    · rw [c2, pk_us]
      exact congrArg nI ((if_neg (Nat.lt_irrefl k)).trans (if_pos rfl)).symm
    · rw [pk_un c2]
      have e := (h2 (q - 1) (by omega) (by omega)).1
      rw [show q - 1 + 1 = q by omega] at e
      rw [e]
      exact congrArg nI ((if_neg c1).trans (if_neg c2)).symm
theorem zx_ins_lp {post : SX → Prop} {lo : Nat} {g : Nat → Nat} (hN : N ≤ 128) (hlo : lo + 1 ≤ N) (hI : zs_I (zs_t t) N (lo + 1) g) (hp : ∀ (s' : Nat → Int32) (g' : Nat → Nat), zs_I (zs_t t) N lo g' → (∀ q, q < N - lo → s' q = nI (g' q)) → post (C, G, nI N, m, b, t, p, s', r, l)) : ∀ (k : Nat) (s' : Nat → Int32), k ≤ N - (lo + 1) → (∀ q, q < k → s' q = nI (g q)) → (∀ q, k ≤ q → q < N - (lo + 1) → s' (q + 1) = nI (g q) ∧ zs_B (zs_t t) N lo (g q)) → wX_insertSuffix_2 post (nI lo) C G (nI N) m b (k + 1) (nI k) t p s' r l := by
  intro k
  induction k with
  | zero =>
    intro s' hk h1 h2
    refine br_t (by decide) ⟨zt_in (by omega), nm_e ?_⟩
    rw [zt_cl (i := 0) (by omega)]
    exact hp _ (zs_ins g 0 lo) (zs_I_ins hlo hI hk (fun q hq => absurd hq (Nat.succ_ne_zero q)) (fun q hq hq' => (h2 q hq hq').2)) (zx_fin hk h1 h2)
  | succ k ih =>
    intro s' hk h1 h2
    refine br_f (nI_nle (by omega) (by omega)) ?_
    rw [nI_pred k, zt_an (a := s') (i := k) (by omega), h1 k (by omega), zt_cl (i := k + 1) (by omega)]
    obtain ⟨a1, a2, a3⟩ := hI k (by omega)
    refine ⟨zt_in (by omega), zx_below hN (by omega) a2 ?_⟩
    cases hb : zs_b (zs_t t) N lo (g k) with
    | false =>
      refine br_t rfl ⟨zt_in (by omega), nm_e ?_⟩
      refine hp _ (zs_ins g (k + 1) lo) (zs_I_ins hlo hI hk (fun q hq z => ?_) (fun q hq hq' => (h2 q hq hq').2)) (zx_fin hk h1 h2)
      have hqk : q = k := by omega
      rw [hqk] at z
      rw [zs_b_iff.mpr z] at hb
      exact Bool.noConfusion hb
    | true =>
      refine br_f (by decide) ⟨zt_in (by omega), zt_in (by omega), nm_e (nm_r (pk_m1 k) (ih _ (by omega) ?_ ?_))⟩
      · intro q hq
        rw [pk_un (show q ≠ k + 1 by omega)]
        exact h1 q (by omega)
      · intro q hq hq'
        by_cases c : q = k
        · rw [c, pk_us]
          exact ⟨rfl, zs_b_iff.mp hb⟩
        · rw [pk_un (show q + 1 ≠ k + 1 by omega)]
          exact h2 q (by omega) hq'
theorem zx_ins {post : SX → Prop} {lo k : Nat} {g : Nat → Nat} (hN : N ≤ 128) (hlo : lo + 1 ≤ N) (hk : k = N - (lo + 1)) (hI : zs_I (zs_t t) N (lo + 1) g) (hs : ∀ q, q < N - (lo + 1) → s q = nI (g q)) (hp : ∀ (s' : Nat → Int32) (g' : Nat → Nat), zs_I (zs_t t) N lo g' → (∀ q, q < N - lo → s' q = nI (g' q)) → post (C, G, nI N, m, b, t, p, s', r, l)) : wpX_insertSuffix post (C, G, nI N, m, b, t, p, s, r, l) (nI lo) (nI k) :=
  ⟨k + 1, zx_ins_lp hN hlo hI hp k s (by omega) (fun q hq => hs q (by omega)) (fun q hq hq' => absurd hq' (by omega))⟩
theorem zx_sort_lp {post : SX → Prop} (hN : N ≤ 128) (hp : ∀ (s' : Nat → Int32) (g' : Nat → Nat), zs_I (zs_t t) N 0 g' → (∀ q, q < N → s' q = nI (g' q)) → post (C, G, nI N, m, b, t, p, s', r, l)) : ∀ d k, k + d = N → ∀ (s' : Nat → Int32) (g : Nat → Nat), zs_I (zs_t t) N d g → (∀ q, q < N - d → s' q = nI (g q)) → wX_sortSuffixes_2 post (d + 1) (nI k) C G (nI N) m b t p s' r l := by
  intro d
  induction d with
  | zero =>
    intro k hk s' g hI hs
    exact br_t (nI_le (by omega) (by omega)) (hp s' g hI (fun q hq => hs q (by omega)))
  | succ d ih =>
    intro k hk s' g hI hs
    have e : nI N - 1 - nI k = nI d := by
      have e1 : nI N - 1 = nI (N - 1) := pk_sub (a := N) (b := 1) (by omega)
      rw [e1, pk_sub (a := N - 1) (b := k) (by omega)]
      exact congrArg nI (by omega)
    refine br_f (nI_ge (by omega) (by omega)) (nm_r e (zx_ins hN (by omega) (by omega) hI hs (fun s'' g' hI' hs' => ?_)))
    exact nm_r (nI_1 k) (ih (k + 1) (by omega) s'' g' hI' hs')
theorem zx_sort {post : SX → Prop} (hN : N ≤ 128) (hp : ∀ (s' : Nat → Int32) (g' : Nat → Nat), zs_O (zs_t t) N g' → (∀ q, q < N → s' q = nI (g' q)) → post (C, G, nI N, m, b, t, p, s', r, l)) : wpX_sortSuffixes post (C, G, nI N, m, b, t, p, s, r, l) :=
  ⟨N + 1, zx_sort_lp hN (fun s' g' hI hs => hp s' g' (zs_I_O hI) hs) N 0 (by omega) s (fun _ => 0) (fun q hq => absurd hq (by omega)) (fun q hq => absurd hq (by omega))⟩
theorem zx_rk_lp {post : SX → Prop} {g : Nat → Nat} (hN : N ≤ 128) (hO : zs_O (zs_t t) N g) (hs : ∀ q, q < N → s q = nI (g q)) (hp : ∀ r' : Nat → Int32, (∀ q, q < N → r' (g q) = nI q) → post (C, G, nI N, m, b, t, p, s, r', l)) : ∀ d k, k + d = N → ∀ r' : Nat → Int32, (∀ q, q < k → r' (g q) = nI q) → wX_fillRanks_2 post C G (nI N) m b (d + 1) (nI k) t p s r' l := by
  intro d
  induction d with
  | zero =>
    intro k hk r' hr
    exact br_t (nI_le (by omega) (by omega)) (hp r' (fun q hq => hr q (by omega)))
  | succ d ih =>
    intro k hk r' hr
    obtain ⟨a1, a2⟩ := hO k (by omega)
    refine br_f (nI_ge (by omega) (by omega)) ?_
    rw [zt_an (a := s) (i := k) (by omega), hs k (by omega), zt_cl (i := g k) (by omega)]
    refine ⟨zt_in (by omega), zt_in (by omega), nm_e (nm_r (nI_1 k) (ih (k + 1) (by omega) _ (fun q hq => ?_)))⟩
    by_cases c : q = k
    · rw [c, pk_us]
    · have hne : g q ≠ g k := by
        intro z
        have a3 := (hO q (by omega)).2
        rw [z] at a3
        omega
      rw [pk_un hne]
      exact hr q (by omega)
theorem zx_rk {post : SX → Prop} {g : Nat → Nat} (hN : N ≤ 128) (hO : zs_O (zs_t t) N g) (hs : ∀ q, q < N → s q = nI (g q)) (hp : ∀ r' : Nat → Int32, (∀ q, q < N → r' (g q) = nI q) → post (C, G, nI N, m, b, t, p, s, r', l)) : wpX_fillRanks post (C, G, nI N, m, b, t, p, s, r, l) :=
  ⟨N + 1, zx_rk_lp hN hO hs hp N 0 (by omega) r (fun q hq => absurd hq (Nat.not_lt_zero _))⟩
theorem zx_lc_lp {post : SX → Prop} {g : Nat → Nat} (hN : N ≤ 128) (hO : zs_O (zs_t t) N g) (hs : ∀ q, q < N → s q = nI (g q)) (hp : ∀ l' : Nat → Int32, (∀ q, q < N → l' q = nI (zs_l (zs_t t) N g q)) → post (C, G, nI N, m, b, t, p, s, r, l')) : ∀ d k, k + 1 + d = N → ∀ l' : Nat → Int32, (∀ q, q < k + 1 → l' q = nI (zs_l (zs_t t) N g q)) → wX_fillLcps_9 post C G (nI N) m b (d + 1) (nI (k + 1)) t p s r l' := by
  intro d
  induction d with
  | zero =>
    intro k hk l' hl
    exact br_t (nI_le (by omega) (by omega)) (hp l' (fun q hq => hl q (by omega)))
  | succ d ih =>
    intro k hk l' hl
    have a1 := (hO k (by omega)).1
    have a2 := (hO (k + 1) (by omega)).1
    refine br_f (nI_ge (by omega) (by omega)) ?_
    rw [nI_pred k, zt_an (a := s) (i := k) (by omega), zt_an (a := s) (i := k + 1) (by omega), hs k (by omega), hs (k + 1) (by omega), zt_cl (i := k + 1) (by omega)]
    refine ⟨zt_in (by omega), zt_in (by omega), zx_sbs hN a1 a2 ⟨zt_in (by omega), nm_e (nm_r (nI_1 (k + 1)) (ih (k + 1) (by omega) _ (fun q hq => ?_)))⟩⟩
    by_cases c : q = k + 1
    · rw [c, pk_us]
      exact congrArg nI (if_neg (Nat.succ_ne_zero k)).symm
    · rw [pk_un c]
      exact hl q (by omega)
theorem zx_lc {post : SX → Prop} {g : Nat → Nat} (h0 : 0 < N) (hN : N ≤ 128) (hO : zs_O (zs_t t) N g) (hs : ∀ q, q < N → s q = nI (g q)) (hp : ∀ l' : Nat → Int32, (∀ q, q < N → l' q = nI (zs_l (zs_t t) N g q)) → post (C, G, nI N, m, b, t, p, s, r, l')) : wpX_fillLcps post (C, G, nI N, m, b, t, p, s, r, l) := by
  refine nm_e ⟨N - 1 + 1, ?_⟩
  refine zx_lc_lp hN hO hs hp (N - 1) 0 (by omega) _ (fun q hq => ?_)
  have c : q = 0 := by omega
  rw [c, pk_us]
  rfl
theorem zx_build {post : Int32 → SX → Prop} (h0 : 0 < N) (hN : N ≤ 128) (hp : ∀ (s' r' l' : Nat → Int32) (g : Nat → Nat), zs_O (zs_t t) N g → (∀ q, q < N → s' q = nI (g q)) → (∀ q, q < N → r' (g q) = nI q) → (∀ q, q < N → l' q = nI (zs_l (zs_t t) N g q)) → post 1 (C, G, nI N, m, 1, t, p, s', r', l')) : wpX_build post (C, G, nI N, m, b, t, p, s, r, l) := by
  unfold wpX_build
  dsimp only
  refine br_f (nI_ne0 h0 (by omega)) ?_
  refine zx_sort hN (fun s' g hO hs => ?_)
  refine zx_rk hN hO hs (fun r' hr => ?_)
  refine zx_lc h0 hN hO hs (fun l' hl => ?_)
  exact hp s' r' l' g hO hs hr hl
end
