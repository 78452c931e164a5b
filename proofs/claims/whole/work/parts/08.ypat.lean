/-! the reference's walks: the pattern -/
section
variable {C G b : Int32} {t p s r : Nat → Int32} {N M : Nat}
theorem zy_slp_lp {post : Int32 → Prop} {i : Nat} (hN : N ≤ 128) (hM : M ≤ 128) (hi : i < N) (hp : post (zs_n (zs_q (zs_t t) N (zs_t p) M i))) : ∀ d k, k + d = M → i + k ≤ N → (∀ q, q < k → zs_t t (i + q) = zs_t p q) → wY_sufLessPat_2 post (nI i) C G (nI N) (nI M) b t p s r (d + 1) (nI k) := by
  intro d
  induction d with
  | zero =>
    intro k hk hik hq
    have e : zs_q (zs_t t) N (zs_t p) M i = false := zs_h_f (l := k) ⟨hik, by omega, fun q hq' => by rw [Nat.zero_add]; exact hq q hq', fun _ z => absurd z (by omega)⟩ (Or.inl (by omega))
    rw [e] at hp
    exact br_t (nI_le (by omega) (by omega)) hp
  | succ d ih =>
    intro k hk hik hq
    refine br_f (nI_ge (by omega) (by omega)) ?_
    by_cases c1 : i + k < N
    · refine br_t (zt_alt c1 hN) ⟨zt_ina (by omega), zt_in (by omega), ?_⟩
      rw [zt_ain (a := t) (i := i) (k := k) (by omega), zt_an (a := p) (i := k) (by omega)]
      by_cases c : zs_t t (i + k) = zs_t p k
      · refine br_t (zt_e c) (nm_r (nI_1 k) (ih (k + 1) (by omega) (by omega) ?_))
        intro q hq'
        by_cases z : q = k
        · rw [z]; exact c
        · exact hq q (by omega)
      · have g : zs_gp (zs_t t) N (zs_t p) M i 0 k := ⟨hik, by omega, fun q hq' => by rw [Nat.zero_add]; exact hq q hq', fun _ _ => by rw [Nat.zero_add]; exact c⟩
        refine br_f (zt_ne c) ⟨zt_ina (by omega), zt_in (by omega), ?_⟩
        by_cases c3 : zs_t t (i + k) < zs_t p k
        · have e : zs_q (zs_t t) N (zs_t p) M i = true := zs_h_t g (by omega) (Or.inr c3)
          rw [e] at hp
          exact br_f (zt_nle (by omega)) hp
        · have e : zs_q (zs_t t) N (zs_t p) M i = false := zs_h_f g (Or.inr ⟨c1, c3⟩)
          rw [e] at hp
          exact br_t (zt_le (by omega)) hp
    · have e : zs_q (zs_t t) N (zs_t p) M i = true := zs_h_t (l := k) ⟨hik, by omega, fun q hq' => by rw [Nat.zero_add]; exact hq q hq', fun h => absurd h c1⟩ (by omega) (Or.inl (by omega))
      rw [e] at hp
      exact br_f (zt_anlt (by omega) (by omega)) hp
theorem zy_slp {post : Int32 → Prop} {i : Nat} (hN : N ≤ 128) (hM : M ≤ 128) (hi : i < N) (hp : post (zs_n (zs_q (zs_t t) N (zs_t p) M i))) : wpY_sufLessPat post (C, G, nI N, nI M, b, t, p, s, r) (nI i) :=
  ⟨M + 1, zy_slp_lp hN hM hi hp M 0 (by omega) (by omega) (fun q hq => absurd hq (Nat.not_lt_zero _))⟩
theorem zy_occ_lp {post : Int32 → Prop} {i : Nat} (hN : N ≤ 128) (hM : M ≤ 128) (him : i + M ≤ N) (hp : post (zs_n (zs_o (zs_t t) N (zs_t p) M i))) : ∀ d k, k + d = M → (∀ q, q < k → zs_t t (i + q) = zs_t p q) → wY_occursAt_21 post (nI i) C G (nI N) (nI M) b t p s r (d + 1) (nI k) := by
  intro d
  induction d with
  | zero =>
    intro k hk hq
    have e : zs_o (zs_t t) N (zs_t p) M i = true := zs_o_t him (fun q hq' => hq q (by omega))
    rw [e] at hp
    exact br_t (nI_le (by omega) (by omega)) hp
  | succ d ih =>
    intro k hk hq
    refine br_f (nI_ge (by omega) (by omega)) ⟨zt_ina (by omega), zt_in (by omega), ?_⟩
    rw [zt_ain (a := t) (i := i) (k := k) (by omega), zt_an (a := p) (i := k) (by omega)]
    by_cases c : zs_t t (i + k) = zs_t p k
    · refine br_t (zt_e c) (nm_r (nI_1 k) (ih (k + 1) (by omega) ?_))
      intro q hq'
      by_cases z : q = k
      · rw [z]; exact c
      · exact hq q (by omega)
    · have e : zs_o (zs_t t) N (zs_t p) M i = false := zs_o_f (by omega) (Or.inr ⟨k, by omega, c⟩)
      rw [e] at hp
      exact br_f (zt_ne c) hp
theorem zy_occ {post : Int32 → Prop} {i : Nat} (hN : N ≤ 128) (hM : M ≤ 128) (hi : i < N) (hp : post (zs_n (zs_o (zs_t t) N (zs_t p) M i))) : wpY_occursAt post (C, G, nI N, nI M, b, t, p, s, r) (nI i) := by
  refine br_f (nI_pos (by omega)) ?_
  by_cases c : i + M ≤ N
  · have h : nI i + nI M ≤ nI N := by
      rw [nI_add]
      exact nI_le c (by omega)
    exact br_t h ⟨M + 1, zy_occ_lp hN hM c hp M 0 (by omega) (fun q hq => absurd hq (Nat.not_lt_zero _))⟩
  · have h : ¬ nI i + nI M ≤ nI N := by
      rw [nI_add]
      exact nI_ge (by omega) (by omega)
    have e : zs_o (zs_t t) N (zs_t p) M i = false := zs_o_f (by omega) (Or.inl (by omega))
    rw [e] at hp
    exact br_f h hp
theorem zy_count_lp {post : Int32 → Prop} (hN : N ≤ 128) (hM : M ≤ 128) (hp : post (nI (zs_c (zs_o (zs_t t) N (zs_t p) M) N))) : ∀ d k, k + d = N → wY_count_25 post C G (nI N) (nI M) b t p s r (d + 1) (nI (zs_c (zs_o (zs_t t) N (zs_t p) M) k)) (nI k) := by
  intro d
  induction d with
  | zero =>
    intro k hk
    have e : k = N := by omega
    rw [e]
    exact br_t (nI_le (by omega) (by omega)) hp
  | succ d ih =>
    intro k hk
    refine br_f (nI_ge (by omega) (by omega)) (zy_occ hN hM (by omega) ?_)
    have h := ih (k + 1) (by omega)
    cases ho : zs_o (zs_t t) N (zs_t p) M k with
    | false =>
      rw [zs_c_f ho] at h
      exact br_t rfl (nm_r (nI_1 k) h)
    | true =>
      rw [zs_c_t ho] at h
      exact br_f (by decide) (nm_r (nI_1 _) (nm_r (nI_1 k) h))
theorem zy_count {post : Int32 → Prop} (hN : N ≤ 128) (hM : M ≤ 128) (hb : ¬ b = 0) (hp : post (nI (zs_c (zs_o (zs_t t) N (zs_t p) M) N))) : wpY_count post (C, G, nI N, nI M, b, t, p, s, r) := by
  refine br_f hb ?_
  by_cases c : M = 0
  · have e : zs_c (zs_o (zs_t t) N (zs_t p) M) N = N := zs_c_all (fun j hj => zs_o_t (by omega) (fun k hk => absurd hk (by omega)))
    rw [e] at hp
    exact br_t (congrArg nI c) hp
  · exact br_f (nI_ne0 (by omega) (by omega)) ⟨N + 1, zy_count_lp hN hM hp N 0 (by omega)⟩
theorem zy_range_lp {post : Int32 → Prop} (hN : N ≤ 128) (hM : M ≤ 128) (hp : post (nI (zs_c (zs_q (zs_t t) N (zs_t p) M) N))) : ∀ d k, k + d = N → wY_rangeStart_22 post C G (nI N) (nI M) b t p s r (d + 1) (nI (zs_c (zs_q (zs_t t) N (zs_t p) M) k)) (nI k) := by
  intro d
  induction d with
  | zero =>
    intro k hk
    have e : k = N := by omega
    rw [e]
    exact br_t (nI_le (by omega) (by omega)) hp
  | succ d ih =>
    intro k hk
    refine br_f (nI_ge (by omega) (by omega)) (zy_slp hN hM (by omega) ?_)
    have h := ih (k + 1) (by omega)
    cases ho : zs_q (zs_t t) N (zs_t p) M k with
    | false =>
      rw [zs_c_f ho] at h
      exact br_t rfl (nm_r (nI_1 k) h)
    | true =>
      rw [zs_c_t ho] at h
      exact br_f (by decide) (nm_r (nI_1 _) (nm_r (nI_1 k) h))
theorem zy_range {post : Int32 → Prop} (hN : N ≤ 128) (hM : M ≤ 128) (hb : ¬ b = 0) (hp : post (nI (zs_c (zs_q (zs_t t) N (zs_t p) M) N))) : wpY_rangeStart post (C, G, nI N, nI M, b, t, p, s, r) := by
  refine br_f hb ?_
  by_cases c : M = 0
  · have e : zs_c (zs_q (zs_t t) N (zs_t p) M) N = 0 := zs_c_none (fun j hj => zs_h_f (l := 0) ⟨by omega, by omega, fun k hk => absurd hk (Nat.not_lt_zero _), fun _ z => absurd z (by omega)⟩ (Or.inl (by omega)))
    rw [e] at hp
    exact br_t (congrArg nI c) hp
  · exact br_f (nI_ne0 (by omega) (by omega)) ⟨N + 1, zy_range_lp hN hM hp N 0 (by omega)⟩
theorem zy_locate_lp {post : Int32 → Prop} {k : Nat} (hN : N ≤ 128) (hM : M ≤ 128) (hk : k < 2 ^ 31) : ∀ d i, i + d = N → post (zs_w (zs_o (zs_t t) N (zs_t p) M) k d i) → wY_locate_30 post (nI k) C G (nI N) (nI M) b t p s r (d + 1) (nI (zs_c (zs_o (zs_t t) N (zs_t p) M) i)) (nI i) := by
  intro d
  induction d with
  | zero =>
    intro i hi hp
    exact br_t (nI_le (by omega) (by omega)) hp
  | succ d ih =>
    intro i hi hp
    have hc := zs_c_le (o := zs_o (zs_t t) N (zs_t p) M) i
    have e : zs_w (zs_o (zs_t t) N (zs_t p) M) k (d + 1) i = if zs_o (zs_t t) N (zs_t p) M i = true ∧ zs_c (zs_o (zs_t t) N (zs_t p) M) i = k then nI i else zs_w (zs_o (zs_t t) N (zs_t p) M) k d (i + 1) := rfl
    rw [e] at hp
    refine br_f (nI_ge (by omega) (by omega)) (zy_occ hN hM (by omega) ?_)
    cases ho : zs_o (zs_t t) N (zs_t p) M i with
    | false =>
      rw [if_neg (fun z => by rw [ho] at z; exact Bool.noConfusion z.1)] at hp
      have h := ih (i + 1) (by omega) hp
      rw [zs_c_f ho] at h
      exact br_t rfl (nm_r (nI_1 i) h)
    | true =>
      refine br_f (by decide) ?_
      by_cases c : zs_c (zs_o (zs_t t) N (zs_t p) M) i = k
      · rw [if_pos ⟨ho, c⟩] at hp
        exact br_t (congrArg nI c) hp
      · rw [if_neg (fun z => c z.2)] at hp
        have h := ih (i + 1) (by omega) hp
        rw [zs_c_t ho] at h
        exact br_f (fun z => c ((nI_eq (by omega) hk).mp z)) (nm_r (nI_1 _) (nm_r (nI_1 i) h))
theorem zy_locate {post : Int32 → Prop} {k : Nat} (hN : N ≤ 128) (hM : M ≤ 128) (hb : ¬ b = 0) (hk : k < 2 ^ 31) (hp : post (zs_w (zs_o (zs_t t) N (zs_t p) M) k N 0)) : wpY_locate post (C, G, nI N, nI M, b, t, p, s, r) (nI k) := by
  have hc := zs_c_le (o := zs_o (zs_t t) N (zs_t p) M) N
  unfold wpY_locate
  dsimp only
  refine br_f hb (zy_count hN hM hb (br_f (nI_pos hk) ?_))
  by_cases c : k < zs_c (zs_o (zs_t t) N (zs_t p) M) N
  · exact br_t (nI_lt c (by omega)) ⟨N + 1, zy_locate_lp hN hM hk N 0 (by omega) hp⟩
  · have e := zs_w_none (o := zs_o (zs_t t) N (zs_t p) M) (k := k) N 0 (by rw [Nat.zero_add]; omega)
    rw [e] at hp
    exact br_f (nI_nlt (by omega) hk) hp
theorem zy_locate_neg {post : Int32 → Prop} {k : Int32} (hN : N ≤ 128) (hM : M ≤ 128) (hb : ¬ b = 0) (hk : k < 0) (hp : post (-1)) : wpY_locate post (C, G, nI N, nI M, b, t, p, s, r) k := by
  unfold wpY_locate
  dsimp only
  exact br_f hb (zy_count hN hM hb (br_t hk hp))
end
