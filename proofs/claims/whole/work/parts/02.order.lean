/-! what two places share (two sequences), the order of the suffixes, ranks -/
def zs_Gf (t : Nat → Int) (n : Nat) (p : Nat → Int) (m : Nat) : Nat → Nat → Nat → Nat
  | 0 => fun _ _ => 0
  | f + 1 => fun i j => if i < n ∧ j < m ∧ t i = p j then zs_Gf t n p m f (i + 1) (j + 1) + 1 else 0
/-- how many symbols are shared from place i of (t, n) and place j of (p, m) -/
def zs_G (t : Nat → Int) (n : Nat) (p : Nat → Int) (m : Nat) (i j : Nat) : Nat := zs_Gf t n p m n i j
def zs_gp (t : Nat → Int) (n : Nat) (p : Nat → Int) (m : Nat) (i j l : Nat) : Prop :=
  i + l ≤ n ∧ j + l ≤ m ∧ (∀ k, k < l → t (i + k) = p (j + k)) ∧ (i + l < n → j + l < m → t (i + l) ≠ p (j + l))
theorem zs_gp_f (t : Nat → Int) (n : Nat) (p : Nat → Int) (m : Nat) : ∀ f i j, i ≤ n → j ≤ m → n ≤ i + f → zs_gp t n p m i j (zs_Gf t n p m f i j) := by
  intro f
  induction f with
  | zero =>
    intro i j hi hj hf
    exact ⟨by show i + 0 ≤ n; omega, by show j + 0 ≤ m; omega, fun k hk => absurd hk (Nat.not_lt_zero _), fun h => absurd h (by show ¬ i + 0 < n; omega)⟩
  | succ f ih =>
    intro i j hi hj hf
    by_cases c : i < n ∧ j < m ∧ t i = p j
    · have e : zs_Gf t n p m (f + 1) i j = zs_Gf t n p m f (i + 1) (j + 1) + 1 := if_pos c
      obtain ⟨h1, h2, h3, h4⟩ := ih (i + 1) (j + 1) (by omega) (by omega) (by omega)
      rw [e]
      generalize zs_Gf t n p m f (i + 1) (j + 1) = l at h1 h2 h3 h4 ⊢
      refine ⟨by omega, by omega, ?_, ?_⟩
      · intro k hk
        cases k with
        | zero => exact c.2.2
        | succ k =>
          have e1 := h3 k (by omega)
          rw [show i + (k + 1) = i + 1 + k by omega, show j + (k + 1) = j + 1 + k by omega]
          exact e1
      · rw [show i + (l + 1) = i + 1 + l by omega, show j + (l + 1) = j + 1 + l by omega]
        exact h4
    · have e : zs_Gf t n p m (f + 1) i j = 0 := if_neg c
      rw [e]
      exact ⟨by omega, by omega, fun k hk => absurd hk (Nat.not_lt_zero _), fun h h' h'' => c ⟨h, h', h''⟩⟩
theorem zs_gp_G {t : Nat → Int} {n : Nat} {p : Nat → Int} {m i j : Nat} (hi : i ≤ n) (hj : j ≤ m) : zs_gp t n p m i j (zs_G t n p m i j) := zs_gp_f t n p m n i j hi hj (by omega)
theorem zs_gp_u {t : Nat → Int} {n : Nat} {p : Nat → Int} {m i j l l' : Nat} (h : zs_gp t n p m i j l) (h' : zs_gp t n p m i j l') : l = l' := by
  obtain ⟨a1, a2, a3, a4⟩ := h
  obtain ⟨b1, b2, b3, b4⟩ := h'
  rcases Nat.lt_trichotomy l l' with c | c | c
  · exact absurd (b3 l c) (a4 (by omega) (by omega))
  · exact c
  · exact absurd (a3 l' c) (b4 (by omega) (by omega))
theorem zs_G_of {t : Nat → Int} {n : Nat} {p : Nat → Int} {m i j l : Nat} (h : zs_gp t n p m i j l) : zs_G t n p m i j = l :=
  zs_gp_u (zs_gp_G (by have := h.1; omega) (by have := h.2.1; omega)) h
/-- below, between two sequences -/
def zs_H (t : Nat → Int) (n : Nat) (p : Nat → Int) (m : Nat) (i j l : Nat) : Prop := j + l < m ∧ (n ≤ i + l ∨ t (i + l) < p (j + l))
def zs_h (t : Nat → Int) (n : Nat) (p : Nat → Int) (m : Nat) (i j : Nat) : Bool :=
  decide (j + zs_G t n p m i j < m ∧ (n ≤ i + zs_G t n p m i j ∨ t (i + zs_G t n p m i j) < p (j + zs_G t n p m i j)))
theorem zs_h_iff {t : Nat → Int} {n : Nat} {p : Nat → Int} {m i j : Nat} : zs_h t n p m i j = true ↔ zs_H t n p m i j (zs_G t n p m i j) := by
  unfold zs_h zs_H
  exact ⟨of_decide_eq_true, decide_eq_true⟩
/-- the suffixes of one text -/
def zs_L (t : Nat → Int) (n i j : Nat) : Nat := zs_G t n t n i j
def zs_b (t : Nat → Int) (n i j : Nat) : Bool := zs_h t n t n i j
def zs_B (t : Nat → Int) (n i j : Nat) : Prop := zs_H t n t n i j (zs_L t n i j)
theorem zs_b_iff {t : Nat → Int} {n i j : Nat} : zs_b t n i j = true ↔ zs_B t n i j := zs_h_iff
theorem zs_L_gp {t : Nat → Int} {n i j : Nat} (hi : i ≤ n) (hj : j ≤ n) : zs_gp t n t n i j (zs_L t n i j) := zs_gp_G hi hj
theorem zs_L_of {t : Nat → Int} {n i j l : Nat} (h : zs_gp t n t n i j l) : zs_L t n i j = l := zs_G_of h
theorem zs_gp_c {t : Nat → Int} {n i j l : Nat} (h : zs_gp t n t n i j l) : zs_gp t n t n j i l :=
  ⟨h.2.1, h.1, fun k hk => (h.2.2.1 k hk).symm, fun a b e => h.2.2.2 b a e.symm⟩
theorem zs_L_c {t : Nat → Int} {n i j : Nat} (hi : i ≤ n) (hj : j ≤ n) : zs_L t n i j = zs_L t n j i := zs_L_of (zs_gp_c (zs_L_gp hj hi))
theorem zs_B_ir {t : Nat → Int} {n i : Nat} (hi : i ≤ n) : ¬ zs_B t n i i := by
  have e : zs_L t n i i = n - i := zs_L_of ⟨by omega, by omega, fun _ _ => rfl, fun h => absurd h (by omega)⟩
  intro h
  have h1 := h.1
  rw [e] at h1
  omega
theorem zs_B_tot {t : Nat → Int} {n i j : Nat} (hi : i < n) (hj : j < n) (hne : i ≠ j) : zs_B t n i j ∨ zs_B t n j i := by
  have h := zs_L_gp (t := t) (Nat.le_of_lt hi) (Nat.le_of_lt hj)
  have e := zs_L_c (t := t) (Nat.le_of_lt hj) (Nat.le_of_lt hi)
  unfold zs_B zs_H
  rw [e]
  obtain ⟨h1, h2, _, h4⟩ := h
  generalize zs_L t n i j = l at h1 h2 h4 ⊢
  by_cases c1 : i + l < n
  · by_cases c2 : j + l < n
    · have h5 := h4 c1 c2
      have h6 : t (i + l) < t (j + l) ∨ t (j + l) < t (i + l) := by omega
      rcases h6 with h | h
      · exact Or.inl ⟨c2, Or.inr h⟩
      · exact Or.inr ⟨c1, Or.inr h⟩
    · exact Or.inr ⟨c1, Or.inl (by omega)⟩
  · exact Or.inl ⟨by omega, Or.inl (by omega)⟩
theorem zs_B_tr {t : Nat → Int} {n i j k : Nat} (hi : i ≤ n) (hj : j ≤ n) (hk : k ≤ n) (h1 : zs_B t n i j) (h2 : zs_B t n j k) :
    ((zs_L t n i j ≤ zs_L t n j k ∧ zs_L t n i k = zs_L t n i j) ∨ (zs_L t n j k ≤ zs_L t n i j ∧ zs_L t n i k = zs_L t n j k)) ∧ zs_B t n i k := by
  have p := zs_L_gp (t := t) hi hj
  have q := zs_L_gp (t := t) hj hk
  unfold zs_B zs_H at h1 h2
  generalize zs_L t n i j = x at p h1 ⊢
  generalize zs_L t n j k = y at q h2 ⊢
  obtain ⟨p1, p2, p3, p4⟩ := p
  obtain ⟨q1, q2, q3, q4⟩ := q
  obtain ⟨a1, a2⟩ := h1
  obtain ⟨b1, b2⟩ := h2
  rcases Nat.lt_trichotomy x y with c | c | c
  · have e3 := q3 x c
    have e : zs_L t n i k = x := zs_L_of ⟨p1, by omega, fun m hm => (p3 m hm).trans (q3 m (by omega)), fun h h' => by omega⟩
    refine ⟨Or.inl ⟨by omega, e⟩, ?_⟩
    unfold zs_B zs_H
    rw [e]
    exact ⟨by omega, by omega⟩
  · subst c
    have e : zs_L t n i k = x := zs_L_of ⟨p1, by omega, fun m hm => (p3 m hm).trans (q3 m (by omega)), fun h h' => by omega⟩
    refine ⟨Or.inl ⟨by omega, e⟩, ?_⟩
    unfold zs_B zs_H
    rw [e]
    exact ⟨by omega, by omega⟩
  · have e3 := p3 y c
    have e : zs_L t n i k = y := zs_L_of ⟨by omega, by omega, fun m hm => (p3 m (by omega)).trans (q3 m hm), fun h h' => by omega⟩
    refine ⟨Or.inr ⟨by omega, e⟩, ?_⟩
    unfold zs_B zs_H
    rw [e]
    exact ⟨by omega, by omega⟩
theorem zs_B_as {t : Nat → Int} {n i j : Nat} (hi : i ≤ n) (hj : j ≤ n) (h1 : zs_B t n i j) (h2 : zs_B t n j i) : False :=
  zs_B_ir hi (zs_B_tr hi hj hi h1 h2).2
theorem zs_b_f {t : Nat → Int} {n i j : Nat} (h : ¬ zs_B t n i j) : zs_b t n i j = false := by
  cases c : zs_b t n i j with
  | false => rfl
  | true => exact absurd (zs_b_iff.mp c) h
/-- how many of the suffixes from lo on are below suffix i -/
def zs_R (t : Nat → Int) (n lo i : Nat) : Nat := zs_S (fun j => zs_u (decide (lo ≤ j) && zs_b t n j i)) n
theorem zs_R_pt {t : Nat → Int} {n lo i k : Nat} (hi : i ≤ n) (hk : k ≤ n) (h : zs_B t n i k) (j : Nat) (hj : j < n) : zs_u (decide (lo ≤ j) && zs_b t n j i) ≤ zs_u (decide (lo ≤ j) && zs_b t n j k) := by
  apply zs_u_le
  intro e
  rw [Bool.and_eq_true] at e ⊢
  exact ⟨e.1, zs_b_iff.mpr (zs_B_tr (Nat.le_of_lt hj) hi hk (zs_b_iff.mp e.2) h).2⟩
theorem zs_R_le {t : Nat → Int} {n lo i k : Nat} (hi : i ≤ n) (hk : k ≤ n) (h : zs_B t n i k) : zs_R t n lo i ≤ zs_R t n lo k :=
  zs_S_le n (zs_R_pt hi hk h)
theorem zs_R_lt {t : Nat → Int} {n lo i k : Nat} (hl : lo ≤ i) (hi : i < n) (hk : k ≤ n) (h : zs_B t n i k) : zs_R t n lo i < zs_R t n lo k := by
  refine zs_S_lt (q := i) n hi (zs_R_pt (Nat.le_of_lt hi) hk h) ?_
  show zs_u (decide (lo ≤ i) && zs_b t n i i) < zs_u (decide (lo ≤ i) && zs_b t n i k)
  rw [zs_b_f (zs_B_ir (Nat.le_of_lt hi)), zs_b_iff.mpr h, decide_eq_true hl]
  decide
theorem zs_R_bd {t : Nat → Int} {n lo i : Nat} : zs_R t n lo i ≤ n - lo := by
  rw [← zs_S_ge lo n]
  refine zs_S_le n (fun j _ => zs_u_le (fun e => ?_))
  rw [Bool.and_eq_true] at e
  exact e.1
theorem zs_R_st {t : Nat → Int} {n lo i : Nat} (h : lo < n) : zs_R t n lo i = zs_R t n (lo + 1) i + zs_u (zs_b t n lo i) := by
  refine zs_S_one (q := lo) n h (fun j hj hne => ?_) ?_
  · by_cases c : lo ≤ j
    · show zs_u (decide (lo ≤ j) && zs_b t n j i) = zs_u (decide (lo + 1 ≤ j) && zs_b t n j i)
      rw [decide_eq_true c, decide_eq_true (show lo + 1 ≤ j by omega)]
    · show zs_u (decide (lo ≤ j) && zs_b t n j i) = zs_u (decide (lo + 1 ≤ j) && zs_b t n j i)
      rw [decide_eq_false c, decide_eq_false (show ¬ lo + 1 ≤ j by omega)]
  · show zs_u (decide (lo ≤ lo) && zs_b t n lo i) = zs_u (decide (lo + 1 ≤ lo) && zs_b t n lo i) + zs_u (zs_b t n lo i)
    rw [decide_eq_true (Nat.le_refl lo), decide_eq_false (show ¬ lo + 1 ≤ lo by omega)]
    cases zs_b t n lo i <;> rfl
/-- the rank of suffix i, as it is counted -/
def zs_K (t : Nat → Int) (n i : Nat) : Nat := zs_S (fun j => zs_u (zs_b t n j i)) n
theorem zs_R_0 {t : Nat → Int} {n i : Nat} : zs_R t n 0 i = zs_K t n i := by
  refine zs_S_eq n (fun j _ => ?_)
  show zs_u (decide (0 ≤ j) && zs_b t n j i) = zs_u (zs_b t n j i)
  rw [decide_eq_true (Nat.zero_le j)]
  rfl
theorem zs_K_lt {t : Nat → Int} {n i k : Nat} (hi : i < n) (hk : k ≤ n) (h : zs_B t n i k) : zs_K t n i < zs_K t n k := by
  rw [← zs_R_0, ← zs_R_0]
  exact zs_R_lt (Nat.zero_le _) hi hk h
theorem zs_K_n {t : Nat → Int} {n i : Nat} (hi : i < n) : zs_K t n i < n := by
  have h : zs_K t n i < zs_S (fun _ => 1) n := by
    refine zs_S_lt (q := i) n hi (fun j _ => zs_u_1 _) ?_
    show zs_u (zs_b t n i i) < 1
    rw [zs_b_f (zs_B_ir (Nat.le_of_lt hi))]
    decide
  rw [zs_S_1] at h
  exact h
theorem zs_K_B {t : Nat → Int} {n i k : Nat} (hi : i < n) (hk : k < n) (h : zs_K t n i < zs_K t n k) : zs_B t n i k := by
  by_cases c : i = k
  · subst c; omega
  · rcases zs_B_tot (t := t) hi hk c with d | d
    · exact d
    · have := zs_K_lt hk (Nat.le_of_lt hi) d
      omega
theorem zs_K_inj {t : Nat → Int} {n i k : Nat} (hi : i < n) (hk : k < n) (h : zs_K t n i = zs_K t n k) : i = k := by
  by_cases c : i = k
  · exact c
  · rcases zs_B_tot (t := t) hi hk c with d | d
    · have := zs_K_lt hi (Nat.le_of_lt hk) d
      omega
    · have := zs_K_lt hk (Nat.le_of_lt hi) d
      omega
/-- the suffixes from lo on stand sorted in g -/
def zs_I (t : Nat → Int) (n lo : Nat) (g : Nat → Nat) : Prop := ∀ s, s < n - lo → lo ≤ g s ∧ g s < n ∧ zs_R t n lo (g s) = s
def zs_ins (g : Nat → Nat) (p st : Nat) : Nat → Nat := fun s => if s < p then g s else if s = p then st else g (s - 1)
theorem zs_I_ins {t : Nat → Int} {n lo p : Nat} {g : Nat → Nat} (hlo : lo + 1 ≤ n) (h : zs_I t n (lo + 1) g) (hp : p ≤ n - (lo + 1)) (h0 : ∀ s, s + 1 = p → ¬ zs_B t n lo (g s)) (h1 : ∀ s, p ≤ s → s < n - (lo + 1) → zs_B t n lo (g s)) : zs_I t n lo (zs_ins g p lo) := by
  have hpr : ∀ s, s + 1 = p → zs_B t n (g s) lo := by
    intro s hs
    obtain ⟨a1, a2, a3⟩ := h s (by omega)
    rcases zs_B_tot (t := t) (i := lo) (j := g s) (by omega) a2 (by omega) with d | d
    · exact absurd d (h0 s hs)
    · exact d
  intro s hs
  have hst : ∀ i, zs_R t n lo i = zs_R t n (lo + 1) i + zs_u (zs_b t n lo i) := fun i => zs_R_st (by omega)
  by_cases c1 : s < p
  · have e : zs_ins g p lo s = g s := if_pos c1
    obtain ⟨a1, a2, a3⟩ := h s (by omega)
    rw [e]
    refine ⟨by omega, a2, ?_⟩
    have hn : ¬ zs_B t n lo (g s) := by
      intro d
      obtain ⟨b1, b2, b3⟩ := h (p - 1) (by omega)
      have d1 := hpr (p - 1) (by omega)
      have d2 := (zs_B_tr (Nat.le_of_lt b2) (by omega) (Nat.le_of_lt a2) d1 d).2
      have d3 := zs_R_lt (lo := lo + 1) b1 b2 (Nat.le_of_lt a2) d2
      omega
    rw [hst, zs_b_f hn, a3]
    rfl
  · by_cases c2 : s = p
    · have e : zs_ins g p lo s = lo := (if_neg c1).trans (if_pos c2)
      rw [e]
      refine ⟨Nat.le_refl _, by omega, ?_⟩
      rw [hst, zs_b_f (zs_B_ir (t := t) (n := n) (i := lo) (by omega))]
      show zs_R t n (lo + 1) lo + 0 = s
      have u1 : zs_R t n (lo + 1) lo ≤ p := by
        by_cases c3 : p < n - (lo + 1)
        · obtain ⟨a1, a2, a3⟩ := h p c3
          have := zs_R_le (lo := lo + 1) (by omega) (Nat.le_of_lt a2) (h1 p (Nat.le_refl _) c3)
          omega
        · have := zs_R_bd (t := t) (n := n) (lo := lo + 1) (i := lo)
          omega
      have u2 : p ≤ zs_R t n (lo + 1) lo := by
        by_cases c3 : p = 0
        · omega
        · obtain ⟨a1, a2, a3⟩ := h (p - 1) (by omega)
          have := zs_R_lt (lo := lo + 1) a1 a2 (by omega) (hpr (p - 1) (by omega))
          omega
      omega
    · have e : zs_ins g p lo s = g (s - 1) := (if_neg c1).trans (if_neg c2)
      obtain ⟨a1, a2, a3⟩ := h (s - 1) (by omega)
      rw [e]
      refine ⟨by omega, a2, ?_⟩
      rw [hst, zs_b_iff.mpr (h1 (s - 1) (by omega) (by omega)), a3]
      show s - 1 + 1 = s
      omega
/-- the whole order -/
def zs_O (t : Nat → Int) (n : Nat) (g : Nat → Nat) : Prop := ∀ s, s < n → g s < n ∧ zs_K t n (g s) = s
theorem zs_I_O {t : Nat → Int} {n : Nat} {g : Nat → Nat} (h : zs_I t n 0 g) : zs_O t n g := by
  intro s hs
  obtain ⟨_, a2, a3⟩ := h s (by omega)
  rw [zs_R_0] at a3
  exact ⟨a2, a3⟩
theorem zs_O_i {t : Nat → Int} {n i : Nat} {g : Nat → Nat} (h : zs_O t n g) (hi : i < n) : g (zs_K t n i) = i := by
  obtain ⟨a1, a2⟩ := h (zs_K t n i) (zs_K_n hi)
  exact zs_K_inj a1 hi a2
