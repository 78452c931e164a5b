/-! the sum of the shared lengths of neighbours, and the greatest -/
/-- the greatest length that suffix i shares with one below it, among those before m -/
def zs_M (t : Nat → Int) (n m i : Nat) : Nat := zs_X (fun j => zs_b t n j i) (fun j => zs_L t n j i) m
/-- the greatest length that suffix i shares with an earlier one -/
def zs_P (t : Nat → Int) (n i : Nat) : Nat := zs_X (fun _ => true) (fun j => zs_L t n i j) i
theorem zs_M_ge {t : Nat → Int} {n m i j : Nat} (hj : j < m) (h : zs_B t n j i) : zs_L t n j i ≤ zs_M t n m i :=
  zs_X_ge (p := fun j => zs_b t n j i) (f := fun j => zs_L t n j i) hj (zs_b_iff.mpr h)
theorem zs_M_le {t : Nat → Int} {n m i v : Nat} (h : ∀ j, j < m → zs_B t n j i → zs_L t n j i ≤ v) : zs_M t n m i ≤ v :=
  zs_X_le (p := fun j => zs_b t n j i) (f := fun j => zs_L t n j i) (fun j hj hp => h j hj (zs_b_iff.mp hp))
theorem zs_M_at {t : Nat → Int} {n i : Nat} (m : Nat) : zs_M t n m i = 0 ∨ ∃ j, j < m ∧ zs_B t n j i ∧ zs_L t n j i = zs_M t n m i := by
  rcases zs_X_at (p := fun j => zs_b t n j i) (f := fun j => zs_L t n j i) m with h | ⟨j, h1, h2, h3⟩
  · exact Or.inl h
  · exact Or.inr ⟨j, h1, zs_b_iff.mp h2, h3⟩
theorem zs_M_f {t : Nat → Int} {n m i : Nat} (h : ¬ zs_B t n m i) : zs_M t n (m + 1) i = zs_M t n m i :=
  zs_X_f (p := fun j => zs_b t n j i) (f := fun j => zs_L t n j i) (zs_b_f h)
theorem zs_M_t {t : Nat → Int} {n m i : Nat} (h : zs_B t n m i) : (zs_M t n m i ≤ zs_L t n m i → zs_M t n (m + 1) i = zs_L t n m i) ∧ (zs_L t n m i ≤ zs_M t n m i → zs_M t n (m + 1) i = zs_M t n m i) := by
  have e : zs_M t n (m + 1) i = if zs_b t n m i = true ∧ zs_M t n m i < zs_L t n m i then zs_L t n m i else zs_M t n m i := rfl
  by_cases c : zs_M t n m i < zs_L t n m i
  · rw [e, if_pos ⟨zs_b_iff.mpr h, c⟩]
    exact ⟨fun _ => rfl, fun z => by omega⟩
  · rw [e, if_neg (fun z => c z.2)]
    exact ⟨fun z => by omega, fun _ => rfl⟩
theorem zs_P_ge {t : Nat → Int} {n i j : Nat} (hj : j < i) : zs_L t n i j ≤ zs_P t n i :=
  zs_X_ge (p := fun _ => true) (f := fun j => zs_L t n i j) hj rfl
theorem zs_P_le {t : Nat → Int} {n i v : Nat} (h : ∀ j, j < i → zs_L t n i j ≤ v) : zs_P t n i ≤ v :=
  zs_X_le (p := fun _ => true) (f := fun j => zs_L t n i j) (fun j hj _ => h j hj)
/-- one more suffix -/
theorem zs_F_st {t : Nat → Int} {n m : Nat} (hm : m < n) : zs_S (fun i => zs_M t n (m + 1) i) m + zs_M t n m m = zs_S (fun i => zs_M t n m i) m + zs_P t n m := by
  have hm' : m ≤ n := Nat.le_of_lt hm
  rcases zs_least (fun i => zs_b t n m i) (fun i => zs_K t n i) m with h | ⟨q, hq, hb, hl⟩
  · have e1 : zs_S (fun i => zs_M t n (m + 1) i) m = zs_S (fun i => zs_M t n m i) m := by
      refine zs_S_eq m (fun i hi => zs_M_f (fun z => ?_))
      have z1 := zs_b_iff.mpr z
      have z2 : zs_b t n m i = false := h i hi
      rw [z2] at z1
      exact Bool.noConfusion z1
    have hB : ∀ j, j < m → zs_B t n j m := by
      intro j hj
      rcases zs_B_tot (t := t) (n := n) (i := j) (j := m) (by omega) hm (by omega) with d | d
      · exact d
      · have z1 := zs_b_iff.mpr d
        have z2 : zs_b t n m j = false := h j hj
        rw [z2] at z1
        exact Bool.noConfusion z1
    have e2 : zs_M t n m m = zs_P t n m := by
      refine Nat.le_antisymm (zs_M_le (fun j hj _ => ?_)) (zs_P_le (fun j hj => ?_))
      · rw [zs_L_c (t := t) (n := n) (i := j) (j := m) (by omega) hm']
        exact zs_P_ge hj
      · rw [zs_L_c (t := t) (n := n) (i := m) (j := j) hm' (by omega)]
        exact zs_M_ge hj (hB j hj)
    omega
  · have hB : zs_B t n m q := zs_b_iff.mp hb
    have hq' : q ≤ n := by omega
    have hup : ∀ i, i < m → zs_B t n m i → i ≠ q → zs_B t n q i := by
      intro i hi hbi hne
      have d : zs_K t n q ≤ zs_K t n i := hl i hi (zs_b_iff.mpr hbi)
      rcases zs_B_tot (t := t) (n := n) (i := q) (j := i) (by omega) (by omega) (fun z => hne z.symm) with z | z
      · exact z
      · have := zs_K_lt (t := t) (n := n) (by omega) hq' z
        omega
    have hlo : ∀ j, j < m → zs_B t n j q → zs_B t n j m := by
      intro j hj hbj
      rcases zs_B_tot (t := t) (n := n) (i := j) (j := m) (by omega) hm (by omega) with z | z
      · exact z
      · have d : zs_K t n q ≤ zs_K t n j := hl j hj (zs_b_iff.mpr z)
        have := zs_K_lt (t := t) (n := n) (by omega) hq' hbj
        omega
    have f1 : ∀ i, i < m → i ≠ q → zs_M t n (m + 1) i = zs_M t n m i := by
      intro i hi hne
      by_cases c : zs_B t n m i
      · have d1 := hup i hi c hne
        have d2 := (zs_B_tr hm' hq' (by omega) hB d1).1
        have d3 := zs_M_ge (m := m) hq d1
        exact (zs_M_t c).2 (by omega)
      · exact zs_M_f c
    have g1 : zs_M t n m q ≤ zs_M t n m m := by
      refine zs_M_le (fun j hj hbj => ?_)
      have d1 := hlo j hj hbj
      have d2 := (zs_B_tr (by omega) hm' hq' d1 hB).1
      have d3 := zs_M_ge (m := m) hj d1
      omega
    have g2 : zs_M t n m q ≤ zs_L t n m q := by
      refine zs_M_le (fun j hj hbj => ?_)
      have d1 := hlo j hj hbj
      have d2 := (zs_B_tr (by omega) hm' hq' d1 hB).1
      omega
    have g3 : zs_M t n m q = zs_M t n m m ∨ zs_L t n m q ≤ zs_M t n m q := by
      rcases zs_M_at (t := t) (n := n) (i := m) m with z | ⟨j, hj, hbj, e⟩
      · omega
      · have d1 := zs_B_tr (by omega) hm' hq' hbj hB
        have d2 := zs_M_ge (m := m) hj d1.2
        have d3 := d1.1
        omega
    have f2 : zs_M t n (m + 1) q = zs_M t n m q + (zs_L t n m q - zs_M t n m q) := by
      rw [(zs_M_t hB).1 g2]
      omega
    have e1 := zs_S_one (f := fun i => zs_M t n (m + 1) i) (g := fun i => zs_M t n m i) (q := q) m hq f1 f2
    have p1 : zs_M t n m m ≤ zs_P t n m := by
      refine zs_M_le (fun j hj _ => ?_)
      rw [zs_L_c (t := t) (n := n) (i := j) (j := m) (by omega) hm']
      exact zs_P_ge hj
    have p2 : zs_L t n m q ≤ zs_P t n m := zs_P_ge hq
    have p3 : zs_P t n m ≤ zs_M t n m m ∨ zs_P t n m ≤ zs_L t n m q := by
      by_cases c : zs_M t n m m ≤ zs_L t n m q
      · refine Or.inr (zs_P_le (fun j hj => ?_))
        rcases zs_B_tot (t := t) (n := n) (i := j) (j := m) (by omega) hm (by omega) with z | z
        · have d1 := zs_M_ge (m := m) hj z
          rw [zs_L_c (t := t) (n := n) (i := m) (j := j) hm' (by omega)]
          omega
        · by_cases d : j = q
          · rw [d]; exact Nat.le_refl _
          · have d1 := (zs_B_tr hm' hq' (by omega) hB (hup j hj z d)).1
            omega
      · refine Or.inl (zs_P_le (fun j hj => ?_))
        rcases zs_B_tot (t := t) (n := n) (i := j) (j := m) (by omega) hm (by omega) with z | z
        · have d1 := zs_M_ge (m := m) hj z
          rw [zs_L_c (t := t) (n := n) (i := m) (j := j) hm' (by omega)]
          omega
        · by_cases d : j = q
          · rw [d]; omega
          · have d1 := (zs_B_tr hm' hq' (by omega) hB (hup j hj z d)).1
            omega
    omega
theorem zs_F {t : Nat → Int} {n : Nat} : ∀ m, m ≤ n → zs_S (fun i => zs_M t n m i) m = zs_S (fun i => zs_P t n i) m := by
  intro m
  induction m with
  | zero => intro _; rfl
  | succ m ih =>
    intro h
    have h1 := ih (by omega)
    have h2 := zs_F_st (t := t) (n := n) (m := m) (by omega)
    have h3 : zs_M t n (m + 1) m = zs_M t n m m := zs_M_f (zs_B_ir (by omega))
    show zs_S (fun i => zs_M t n (m + 1) i) m + zs_M t n (m + 1) m = zs_S (fun i => zs_P t n i) m + zs_P t n m
    omega
theorem zs_L_le {t : Nat → Int} {n i j : Nat} (hi : i ≤ n) (hj : j ≤ n) : zs_L t n i j ≤ n - i ∧ zs_L t n i j ≤ n - j := by
  have h := zs_L_gp (t := t) hi hj
  have h1 := h.1
  have h2 := h.2.1
  omega
/-- the shared length that stands at rank r -/
def zs_l (t : Nat → Int) (n : Nat) (g : Nat → Nat) (r : Nat) : Nat := if r = 0 then 0 else zs_L t n (g (r - 1)) (g r)
theorem zs_M_r {t : Nat → Int} {n : Nat} {g : Nat → Nat} (h : zs_O t n g) {r : Nat} (hr : r < n) : zs_l t n g r = zs_M t n n (g r) := by
  obtain ⟨a1, a2⟩ := h r hr
  by_cases c : r = 0
  · have e : zs_l t n g r = 0 := if_pos c
    rw [e]
    refine Nat.le_antisymm (Nat.zero_le _) (zs_M_le (fun j hj hb => ?_))
    have := zs_K_lt hj (Nat.le_of_lt a1) hb
    omega
  · have e : zs_l t n g r = zs_L t n (g (r - 1)) (g r) := if_neg c
    obtain ⟨b1, b2⟩ := h (r - 1) (by omega)
    have hb : zs_B t n (g (r - 1)) (g r) := zs_K_B b1 a1 (by omega)
    rw [e]
    refine Nat.le_antisymm (zs_M_ge b1 hb) (zs_M_le (fun j hj hbj => ?_))
    have d1 := zs_K_lt hj (Nat.le_of_lt a1) hbj
    by_cases d : zs_K t n j = r - 1
    · have d2 := zs_K_inj hj b1 (d.trans b2.symm)
      rw [d2]
      exact Nat.le_refl _
    · have d2 : zs_B t n j (g (r - 1)) := zs_K_B hj b1 (by omega)
      have d3 := (zs_B_tr (Nat.le_of_lt hj) (Nat.le_of_lt b1) (Nat.le_of_lt a1) d2 hb).1
      omega
/-- the number of distinct substrings, both ways -/
theorem zs_dist {t : Nat → Int} {n : Nat} {g : Nat → Nat} (h : zs_O t n g) : zs_S (fun r => n - g r - zs_l t n g r) n = zs_S (fun i => n - i - zs_P t n i) n := by
  have e1 : zs_S (fun r => n - g r - zs_l t n g r) n = zs_S (fun r => (fun i => n - i - zs_M t n n i) (g r)) n :=
    zs_S_eq n (fun r hr => congrArg (fun z => n - g r - z) (zs_M_r h hr))
  have e2 := zs_S_perm (S := g) (C := fun i => zs_K t n i) h (fun i hi => ⟨zs_K_n hi, zs_O_i h hi⟩) (fun i => n - i - zs_M t n n i)
  have e3 : zs_S (fun i => n - i - zs_M t n n i + zs_M t n n i) n = zs_S (fun i => n - i - zs_M t n n i) n + zs_S (fun i => zs_M t n n i) n := zs_S_add (fun i => n - i - zs_M t n n i) (fun i => zs_M t n n i) n
  have e4 : zs_S (fun i => n - i - zs_P t n i + zs_P t n i) n = zs_S (fun i => n - i - zs_P t n i) n + zs_S (fun i => zs_P t n i) n := zs_S_add (fun i => n - i - zs_P t n i) (fun i => zs_P t n i) n
  have e5 := zs_F (t := t) (n := n) n (Nat.le_refl n)
  have e6 : zs_S (fun i => n - i - zs_M t n n i + zs_M t n n i) n = zs_S (fun i => n - i) n := by
    refine zs_S_eq n (fun i hi => ?_)
    have : zs_M t n n i ≤ n - i := zs_M_le (fun j hj _ => (zs_L_le (Nat.le_of_lt hj) (Nat.le_of_lt hi)).2)
    omega
  have e7 : zs_S (fun i => n - i - zs_P t n i + zs_P t n i) n = zs_S (fun i => n - i) n := by
    refine zs_S_eq n (fun i hi => ?_)
    have : zs_P t n i ≤ n - i := zs_P_le (fun j hj => (zs_L_le (Nat.le_of_lt hi) (by omega)).1)
    omega
  have e8 : zs_S (fun r => n - g r - zs_l t n g r) n = zs_S (fun i => n - i - zs_M t n n i) n := e1.trans e2
  omega
/-- v is the greatest length that two suffixes share -/
def zs_top (t : Nat → Int) (n v : Nat) : Prop := (∀ i j, i < j → j < n → zs_L t n i j ≤ v) ∧ (v = 0 ∨ ∃ i j, i < j ∧ j < n ∧ zs_L t n i j = v)
theorem zs_top_u {t : Nat → Int} {n v w : Nat} (h : zs_top t n v) (h' : zs_top t n w) : v = w := by
  obtain ⟨a1, a2⟩ := h
  obtain ⟨b1, b2⟩ := h'
  have c1 : v ≤ w := by
    rcases a2 with z | ⟨i, j, h1, h2, h3⟩
    · omega
    · have := b1 i j h1 h2; omega
  have c2 : w ≤ v := by
    rcases b2 with z | ⟨i, j, h1, h2, h3⟩
    · omega
    · have := a1 i j h1 h2; omega
  omega
theorem zs_top_X {t : Nat → Int} {n : Nat} {g : Nat → Nat} (h : zs_O t n g) : zs_top t n (zs_X (fun _ => true) (zs_l t n g) n) := by
  have key : ∀ i j, i < n → j < n → zs_B t n i j → zs_L t n i j ≤ zs_X (fun _ => true) (zs_l t n g) n := by
    intro i j hi hj hb
    have h1 := zs_M_ge hi hb
    have h2 := zs_M_r h (zs_K_n (t := t) hj)
    rw [zs_O_i h hj] at h2
    have h3 := zs_X_ge (p := fun _ => true) (f := zs_l t n g) (zs_K_n (t := t) hj) rfl
    omega
  refine ⟨fun i j hij hj => ?_, ?_⟩
  · rcases zs_B_tot (t := t) (n := n) (i := i) (j := j) (by omega) hj (by omega) with z | z
    · exact key i j (by omega) hj z
    · rw [zs_L_c (t := t) (n := n) (i := i) (j := j) (by omega) (by omega)]
      exact key j i hj (by omega) z
  · rcases zs_X_at (p := fun _ => true) (f := zs_l t n g) n with z | ⟨r, hr, _, e⟩
    · exact Or.inl z
    · by_cases c : r = 0
      · have e1 : zs_l t n g r = 0 := if_pos c
        exact Or.inl (e.symm.trans e1)
      · have e1 : zs_l t n g r = zs_L t n (g (r - 1)) (g r) := if_neg c
        obtain ⟨a1, a2⟩ := h r hr
        obtain ⟨b1, b2⟩ := h (r - 1) (by omega)
        rw [← e, e1]
        rcases Nat.lt_trichotomy (g (r - 1)) (g r) with d | d | d
        · exact Or.inr ⟨_, _, d, a1, rfl⟩
        · rw [d] at b2; omega
        · exact Or.inr ⟨_, _, d, b1, zs_L_c (Nat.le_of_lt a1) (Nat.le_of_lt b1)⟩
