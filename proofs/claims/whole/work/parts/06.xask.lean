/-! the class's walks: the pattern, the counts, the sums -/
def zs_q (t : Nat → Int) (n : Nat) (p : Nat → Int) (m i : Nat) : Bool := zs_h t n p m i 0
/-- where the k-th place with the property stands, d places left from i on -/
def zs_w (o : Nat → Bool) (k : Nat) : Nat → Nat → Int32
  | 0 => fun _ => -1
  | d + 1 => fun i => if o i = true ∧ zs_c o i = k then nI i else zs_w o k d (i + 1)
theorem zs_w_none {o : Nat → Bool} {k : Nat} : ∀ d i, zs_c o (i + d) ≤ k → zs_w o k d i = -1 := by
  intro d
  induction d with
  | zero => intro i _; rfl
  | succ d ih =>
    intro i h
    have e : zs_w o k (d + 1) i = if o i = true ∧ zs_c o i = k then nI i else zs_w o k d (i + 1) := rfl
    have hn : ¬ (o i = true ∧ zs_c o i = k) := by
      intro z
      have h1 := zs_c_t z.1
      have h2 := zs_c_mono (o := o) (i := i + 1) d
      rw [show i + 1 + d = i + (d + 1) by omega] at h2
      omega
    rw [e, if_neg hn]
    exact ih (i + 1) (by rw [show i + 1 + d = i + (d + 1) by omega]; exact h)
theorem zs_l_le {t : Nat → Int} {n : Nat} {g : Nat → Nat} (h : zs_O t n g) {r : Nat} (hr : r < n) : zs_l t n g r ≤ n - g r := by
  rw [zs_M_r h hr]
  exact zs_M_le (fun j hj _ => (zs_L_le (Nat.le_of_lt hj) (Nat.le_of_lt (h r hr).1)).2)
section
variable {C G b : Int32} {t p s r l : Nat → Int32} {N M : Nat}
theorem zx_swp_lp {post : Int32 → Prop} {i mo : Nat} (hN : N ≤ 128) (hM : M ≤ 128) (h1 : i + mo ≤ N) (h2 : mo ≤ M) (h3 : i + mo = N ∨ mo = M) (hp : post (nI (zs_G (zs_t t) N (zs_t p) M i 0))) : ∀ d k, k + d = mo → (∀ q, q < k → zs_t t (i + q) = zs_t p q) → wX_sharedWithPattern_27 post (nI i) (nI mo) C G (nI N) (nI M) b t p s r l (d + 1) (nI k) := by
  intro d
  induction d with
  | zero =>
    intro k hk hq
    have e : zs_G (zs_t t) N (zs_t p) M i 0 = mo := zs_G_of ⟨h1, by omega, fun q hq' => by rw [Nat.zero_add]; exact hq q (by omega), fun a b => by omega⟩
    rw [e] at hp
    exact br_t (nI_le (by omega) (by omega)) hp
  | succ d ih =>
    intro k hk hq
    refine br_f (nI_ge (by omega) (by omega)) ⟨zt_ina (by omega), zt_in (by omega), ?_⟩
    rw [zt_ain (a := t) (i := i) (k := k) (by omega), zt_an (a := p) (i := k) (by omega)]
    by_cases c : zs_t t (i + k) = zs_t p k
    · refine br_t (zt_e c) (nm_r (nI_1 k) (ih (k + 1) (by omega) ?_))
      intro q hq'
      by_cases z : q = k
      · rw [z]; exact c
      · exact hq q (by omega)
    · refine br_f (zt_ne c) ?_
      have e : zs_G (zs_t t) N (zs_t p) M i 0 = k := zs_G_of ⟨by omega, by omega, fun q hq' => by rw [Nat.zero_add]; exact hq q hq', fun _ _ => by rw [Nat.zero_add]; exact c⟩
      rw [e] at hp
      exact hp
theorem zx_swp {post : Int32 → Prop} {i : Nat} (hN : N ≤ 128) (hM : M ≤ 128) (hi : i < N) (hp : post (nI (zs_G (zs_t t) N (zs_t p) M i 0))) : wpX_sharedWithPattern post (C, G, nI N, nI M, b, t, p, s, r, l) (nI i) := by
  refine nm_r (pk_sub (Nat.le_of_lt hi)) ?_
  by_cases c : M ≤ N - i
  · refine br_t (nI_le c (by omega)) ⟨M + 1, ?_⟩
    exact zx_swp_lp hN hM (by omega) (by omega) (Or.inr rfl) hp M 0 (by omega) (fun q hq => absurd hq (Nat.not_lt_zero _))
  · refine br_f (nI_ge (by omega) (by omega)) ⟨N - i + 1, ?_⟩
    exact zx_swp_lp hN hM (by omega) (by omega) (Or.inl (by omega)) hp (N - i) 0 (by omega) (fun q hq => absurd hq (Nat.not_lt_zero _))
theorem zx_occ {post : Int32 → Prop} {i : Nat} (hN : N ≤ 128) (hM : M ≤ 128) (hi : i < N) (hp : post (zs_n (zs_o (zs_t t) N (zs_t p) M i))) : wpX_patternOccursAt post (C, G, nI N, nI M, b, t, p, s, r, l) (nI i) := by
  unfold wpX_patternOccursAt
  dsimp only
  refine zx_swp hN hM hi ?_
  have g := (zs_gp_G (t := zs_t t) (n := N) (p := zs_t p) (m := M) (i := i) (j := 0) (Nat.le_of_lt hi) (Nat.zero_le M)).2.1
  by_cases c : zs_G (zs_t t) N (zs_t p) M i 0 = M
  · have e : zs_o (zs_t t) N (zs_t p) M i = true := decide_eq_true c
    rw [e] at hp
    exact br_t (congrArg nI c) hp
  · have e : zs_o (zs_t t) N (zs_t p) M i = false := decide_eq_false c
    rw [e] at hp
    exact br_f (fun z => c ((nI_eq (by omega) (by omega)).mp z)) hp
theorem zx_bp {post : Int32 → Prop} {i : Nat} (hN : N ≤ 128) (hM : M ≤ 128) (hi : i < N) (hp : post (zs_n (zs_q (zs_t t) N (zs_t p) M i))) : wpX_isSuffixBelowPattern post (C, G, nI N, nI M, b, t, p, s, r, l) (nI i) := by
  unfold wpX_isSuffixBelowPattern
  dsimp only
  refine zx_swp hN hM hi ?_
  have g := zs_gp_G (t := zs_t t) (n := N) (p := zs_t p) (m := M) (i := i) (j := 0) (Nat.le_of_lt hi) (Nat.zero_le M)
  generalize zs_G (zs_t t) N (zs_t p) M i 0 = q at g ⊢
  have g1 := g.1
  have g2 := g.2.1
  by_cases c1 : q < M
  · refine br_t (nI_lt c1 (by omega)) ?_
    by_cases c2 : i + q < N
    · refine br_t (zt_alt c2 hN) ⟨zt_ina (by omega), zt_in (by omega), ?_⟩
      rw [zt_ain (a := t) (i := i) (k := q) (by omega), zt_an (a := p) (i := q) (by omega)]
      by_cases c3 : zs_t t (i + q) < zs_t p q
      · have e : zs_q (zs_t t) N (zs_t p) M i = true := zs_h_t g c1 (Or.inr c3)
        rw [e] at hp
        exact br_f (zt_nle (by omega)) hp
      · have e : zs_q (zs_t t) N (zs_t p) M i = false := zs_h_f g (Or.inr ⟨c2, c3⟩)
        rw [e] at hp
        exact br_t (zt_le (by omega)) hp
    · have e : zs_q (zs_t t) N (zs_t p) M i = true := zs_h_t g c1 (Or.inl (by omega))
      rw [e] at hp
      exact br_f (zt_anlt (by omega) (by omega)) hp
  · have e : zs_q (zs_t t) N (zs_t p) M i = false := zs_h_f g (Or.inl (by omega))
    rw [e] at hp
    exact br_f (nI_nlt (by omega) (by omega)) hp
theorem zx_count_lp {post : Int32 → Prop} (hN : N ≤ 128) (hM : M ≤ 128) (hp : post (nI (zs_c (zs_o (zs_t t) N (zs_t p) M) N))) : ∀ d k, k + d = N → wX_count_13 post C G (nI N) (nI M) b t p s r l (d + 1) (nI (zs_c (zs_o (zs_t t) N (zs_t p) M) k)) (nI k) := by
  intro d
  induction d with
  | zero =>
    intro k hk
    have e : k = N := by omega
    rw [e]
    exact br_t (nI_le (by omega) (by omega)) hp
  | succ d ih =>
    intro k hk
    refine br_f (nI_ge (by omega) (by omega)) (zx_occ hN hM (by omega) ?_)
    have h := ih (k + 1) (by omega)
    cases ho : zs_o (zs_t t) N (zs_t p) M k with
    | false =>
      rw [zs_c_f ho] at h
      exact br_t rfl (nm_r (nI_1 k) h)
    | true =>
      rw [zs_c_t ho] at h
      exact br_f (by decide) (nm_r (nI_1 _) (nm_r (nI_1 k) h))
theorem zx_count {post : Int32 → Prop} (hN : N ≤ 128) (hM : M ≤ 128) (hb : ¬ b = 0) (hp : post (nI (zs_c (zs_o (zs_t t) N (zs_t p) M) N))) : wpX_count post (C, G, nI N, nI M, b, t, p, s, r, l) :=
  br_f hb ⟨N + 1, zx_count_lp hN hM hp N 0 (by omega)⟩
theorem zx_range_lp {post : Int32 → Prop} (hN : N ≤ 128) (hM : M ≤ 128) (hp : post (nI (zs_c (zs_q (zs_t t) N (zs_t p) M) N))) : ∀ d k, k + d = N → wX_rangeStart_13 post C G (nI N) (nI M) b t p s r l (d + 1) (nI (zs_c (zs_q (zs_t t) N (zs_t p) M) k)) (nI k) := by
  intro d
  induction d with
  | zero =>
    intro k hk
    have e : k = N := by omega
    rw [e]
    exact br_t (nI_le (by omega) (by omega)) hp
  | succ d ih =>
    intro k hk
    refine br_f (nI_ge (by omega) (by omega)) (zx_bp hN hM (by omega) ?_)
    have h := ih (k + 1) (by omega)
    cases ho : zs_q (zs_t t) N (zs_t p) M k with
    | false =>
      rw [zs_c_f ho] at h
      exact br_t rfl (nm_r (nI_1 k) h)
    | true =>
      rw [zs_c_t ho] at h
      exact br_f (by decide) (nm_r (nI_1 _) (nm_r (nI_1 k) h))
theorem zx_range {post : Int32 → Prop} (hN : N ≤ 128) (hM : M ≤ 128) (hb : ¬ b = 0) (hp : post (nI (zs_c (zs_q (zs_t t) N (zs_t p) M) N))) : wpX_rangeStart post (C, G, nI N, nI M, b, t, p, s, r, l) :=
  br_f hb ⟨N + 1, zx_range_lp hN hM hp N 0 (by omega)⟩
theorem zx_locate_lp {post : Int32 → Prop} {k : Nat} (hN : N ≤ 128) (hM : M ≤ 128) (hk : k < 2 ^ 31) : ∀ d i, i + d = N → post (zs_w (zs_o (zs_t t) N (zs_t p) M) k d i) → wX_locate_17 post (nI k) C G (nI N) (nI M) b t p s r l (d + 1) (nI (zs_c (zs_o (zs_t t) N (zs_t p) M) i)) (nI i) := by
  intro d
  induction d with
  | zero =>
    intro i hi hp
    exact br_t (nI_le (by omega) (by omega)) hp
  | succ d ih =>
    intro i hi hp
    have hc := zs_c_le (o := zs_o (zs_t t) N (zs_t p) M) i
    have e : zs_w (zs_o (zs_t t) N (zs_t p) M) k (d + 1) i = if zs_o (zs_t t) N (zs_t p) M i = true ∧ zs_c (zs_o (zs_t t) N (zs_t p) M) i = k then nI i else zs_w (zs_o (zs_t t) N (zs_t p) M) k d (i + 1) := rfl
    rw [e] at hp
    refine br_f (nI_ge (by omega) (by omega)) (zx_occ hN hM (by omega) ?_)
    cases ho : zs_o (zs_t t) N (zs_t p) M i with
    | false =>
      rw [if_neg (fun z => by rw [ho] at z; exact Bool.noConfusion z.1)] at hp
      have h := ih (i + 1) (by omega) hp
      rw [zs_c_f ho] at h
      exact br_t rfl (nm_r (nI_1 i) h)
    | true =>
      refine br_f (by decide) ?_
      by_cases c : zs_c (zs_o (zs_t t) N (zs_t p) M) i = k
      · rw [if_pos ⟨ho, c⟩] at hp
        exact br_t (congrArg nI c) hp
      · rw [if_neg (fun z => c z.2)] at hp
        have h := ih (i + 1) (by omega) hp
        rw [zs_c_t ho] at h
        exact br_f (fun z => c ((nI_eq (by omega) hk).mp z)) (nm_r (nI_1 _) (nm_r (nI_1 i) h))
theorem zx_dist_lp {post : Int32 → Prop} {g : Nat → Nat} (hN : N ≤ 128) (hO : zs_O (zs_t t) N g) (hs : ∀ q, q < N → s q = nI (g q)) (hl : ∀ q, q < N → l q = nI (zs_l (zs_t t) N g q)) (hp : post (nI (zs_S (fun q => N - g q - zs_l (zs_t t) N g q) N))) : ∀ d k, k + d = N → wX_distinctSubstrings_13 post C G (nI N) (nI M) b t p s r l (d + 1) (nI (zs_S (fun q => N - g q - zs_l (zs_t t) N g q) k)) (nI k) := by
  intro d
  induction d with
  | zero =>
    intro k hk
    have e : k = N := by omega
    rw [e]
    exact br_t (nI_le (by omega) (by omega)) hp
  | succ d ih =>
    intro k hk
    have a1 := (hO k (by omega)).1
    have a2 := zs_l_le hO (r := k) (by omega)
    refine br_f (nI_ge (by omega) (by omega)) ?_
    rw [zt_an (a := s) (i := k) (by omega), zt_an (a := l) (i := k) (by omega), hs k (by omega), hl k (by omega), pk_sub (Nat.le_of_lt a1), pk_sub a2, nI_add]
    exact ⟨zt_in (by omega), zt_in (by omega), nm_e (nm_r (nI_1 k) (ih (k + 1) (by omega)))⟩
theorem zx_dist {post : Int32 → Prop} {g : Nat → Nat} (hN : N ≤ 128) (hb : ¬ b = 0) (hO : zs_O (zs_t t) N g) (hs : ∀ q, q < N → s q = nI (g q)) (hl : ∀ q, q < N → l q = nI (zs_l (zs_t t) N g q)) (hp : post (nI (zs_S (fun q => N - g q - zs_l (zs_t t) N g q) N))) : wpX_distinctSubstrings post (C, G, nI N, nI M, b, t, p, s, r, l) :=
  br_f hb ⟨N + 1, zx_dist_lp hN hO hs hl hp N 0 (by omega)⟩
theorem zx_long_lp {post : Int32 → Prop} {g : Nat → Nat} (hN : N ≤ 128) (hO : zs_O (zs_t t) N g) (hl : ∀ q, q < N → l q = nI (zs_l (zs_t t) N g q)) (hp : post (nI (zs_X (fun _ => true) (zs_l (zs_t t) N g) N))) : ∀ d k, k + d = N → wX_longestRepeat_13 post C G (nI N) (nI M) b t p s r l (d + 1) (nI (zs_X (fun _ => true) (zs_l (zs_t t) N g) k)) (nI k) := by
  intro d
  induction d with
  | zero =>
    intro k hk
    have e : k = N := by omega
    rw [e]
    exact br_t (nI_le (by omega) (by omega)) hp
  | succ d ih =>
    intro k hk
    have a2 := zs_l_le hO (r := k) (by omega)
    have a3 : zs_X (fun _ => true) (zs_l (zs_t t) N g) k ≤ N := zs_X_le (fun j hj _ => by have := zs_l_le hO (r := j) (by omega); omega)
    have h := ih (k + 1) (by omega)
    refine br_f (nI_ge (by omega) (by omega)) ?_
    rw [zt_an (a := l) (i := k) (by omega), hl k (by omega)]
    refine ⟨zt_in (by omega), ?_⟩
    rw [zs_X_s] at h
    by_cases c : zs_X (fun _ => true) (zs_l (zs_t t) N g) k < zs_l (zs_t t) N g k
    · rw [if_pos ⟨rfl, c⟩] at h
      exact br_f (nI_ge c (by omega)) ⟨zt_in (by omega), nm_e (nm_r (nI_1 k) h)⟩
    · rw [if_neg (fun z => c z.2)] at h
      exact br_t (nI_le (by omega) (by omega)) (nm_r (nI_1 k) h)
theorem zx_long {post : Int32 → Prop} {g : Nat → Nat} (hN : N ≤ 128) (hb : ¬ b = 0) (hO : zs_O (zs_t t) N g) (hl : ∀ q, q < N → l q = nI (zs_l (zs_t t) N g q)) (hp : post (nI (zs_X (fun _ => true) (zs_l (zs_t t) N g) N))) : wpX_longestRepeat post (C, G, nI N, nI M, b, t, p, s, r, l) :=
  br_f hb ⟨N + 1, zx_long_lp hN hO hl hp N 0 (by omega)⟩
end
