section
/-! sums, greatest values, least elements over an initial part of the naturals -/
def zs_S (f : Nat → Nat) : Nat → Nat
  | 0 => 0
  | m + 1 => zs_S f m + f m
theorem zs_S_le {f g : Nat → Nat} : ∀ m, (∀ i, i < m → f i ≤ g i) → zs_S f m ≤ zs_S g m := by
  intro m
  induction m with
  | zero => intro _; exact Nat.le_refl _
  | succ m ih =>
    intro h
    have h1 := ih (fun i hi => h i (by omega))
    have h2 := h m (by omega)
    show zs_S f m + f m ≤ zs_S g m + g m
    omega
theorem zs_S_eq {f g : Nat → Nat} (m : Nat) (h : ∀ i, i < m → f i = g i) : zs_S f m = zs_S g m :=
  Nat.le_antisymm (zs_S_le m fun i hi => Nat.le_of_eq (h i hi)) (zs_S_le m fun i hi => Nat.le_of_eq (h i hi).symm)
theorem zs_S_one {f g : Nat → Nat} {q d : Nat} : ∀ m, q < m → (∀ i, i < m → i ≠ q → f i = g i) → f q = g q + d → zs_S f m = zs_S g m + d := by
  intro m
  induction m with
  | zero => intro h; exact absurd h (Nat.not_lt_zero _)
  | succ m ih =>
    intro hq h e
    show zs_S f m + f m = zs_S g m + g m + d
    by_cases c : q = m
    · subst c
      have h1 := zs_S_eq (f := f) (g := g) q (fun i hi => h i (by omega) (by omega))
      omega
    · have h1 := ih (by omega) (fun i hi => h i (by omega)) e
      have h2 := h m (by omega) (by omega)
      omega
theorem zs_S_lt {f g : Nat → Nat} {q : Nat} : ∀ m, q < m → (∀ i, i < m → f i ≤ g i) → f q < g q → zs_S f m < zs_S g m := by
  intro m
  induction m with
  | zero => intro h; exact absurd h (Nat.not_lt_zero _)
  | succ m ih =>
    intro hq h e
    show zs_S f m + f m < zs_S g m + g m
    by_cases c : q = m
    · subst c
      have h1 := zs_S_le (f := f) (g := g) q (fun i hi => h i (by omega))
      omega
    · have h1 := ih (by omega) (fun i hi => h i (by omega)) e
      have h2 := h m (by omega)
      omega
theorem zs_S_add (f g : Nat → Nat) : ∀ m, zs_S (fun i => f i + g i) m = zs_S f m + zs_S g m := by
  intro m
  induction m with
  | zero => rfl
  | succ m ih =>
    show zs_S (fun i => f i + g i) m + (f m + g m) = zs_S f m + f m + (zs_S g m + g m)
    omega
theorem zs_S_0 : ∀ m, zs_S (fun _ => 0) m = 0 := by
  intro m
  induction m with
  | zero => rfl
  | succ m ih =>
    show zs_S (fun _ => 0) m + 0 = 0
    omega
theorem zs_S_1 : ∀ m, zs_S (fun _ => 1) m = m := by
  intro m
  induction m with
  | zero => rfl
  | succ m ih =>
    show zs_S (fun _ => 1) m + 1 = m + 1
    omega
theorem zs_S_c {f : Nat → Nat} {c : Nat} : ∀ m, (∀ i, i < m → f i ≤ c) → zs_S f m ≤ m * c := by
  intro m
  induction m with
  | zero => intro _; exact Nat.zero_le _
  | succ m ih =>
    intro h
    have h1 := ih (fun i hi => h i (by omega))
    have h2 := h m (by omega)
    show zs_S f m + f m ≤ (m + 1) * c
    rw [Nat.succ_mul]
    omega
theorem zs_S_swap (f : Nat → Nat → Nat) (p : Nat) : ∀ m, zs_S (fun i => zs_S (f i) p) m = zs_S (fun j => zs_S (fun i => f i j) m) p := by
  intro m
  induction m with
  | zero => exact (zs_S_0 p).symm
  | succ m ih =>
    have h1 := zs_S_add (fun j => zs_S (fun i => f i j) m) (f m) p
    exact (congrArg (fun z => z + zs_S (f m) p) ih).trans h1.symm
/-- a sum over a permutation of the places -/
theorem zs_S_perm {n : Nat} {S C : Nat → Nat} (hS : ∀ r, r < n → S r < n ∧ C (S r) = r) (hC : ∀ i, i < n → C i < n ∧ S (C i) = i) (g : Nat → Nat) : zs_S (fun r => g (S r)) n = zs_S g n := by
  have h1 : ∀ r, r < n → g (S r) = zs_S (fun i => if S r = i then g i else 0) n := by
    intro r hr
    have e := zs_S_one (f := fun i => if S r = i then g i else 0) (g := fun _ => 0) (q := S r) (d := g (S r)) n (hS r hr).1 (fun i _ hne => if_neg (fun h => hne h.symm)) (by simp)
    rw [e, zs_S_0]
    omega
  have h2 : ∀ i, i < n → zs_S (fun r => if S r = i then g i else 0) n = g i := by
    intro i hi
    have e := zs_S_one (f := fun r => if S r = i then g i else 0) (g := fun _ => 0) (q := C i) (d := g i) n (hC i hi).1 (fun r hr hne => if_neg (fun h => hne (by rw [← h]; exact (hS r hr).2.symm))) (by simp [(hC i hi).2])
    rw [e, zs_S_0]
    omega
  exact (zs_S_eq n h1).trans ((zs_S_swap (fun r i => if S r = i then g i else 0) n n).trans (zs_S_eq n h2))
/-- 1 or 0 -/
def zs_u (b : Bool) : Nat := cond b 1 0
theorem zs_u_le {a b : Bool} (h : a = true → b = true) : zs_u a ≤ zs_u b := by
  cases a with
  | false => exact Nat.zero_le _
  | true => rw [h rfl]; exact Nat.le_refl _
theorem zs_u_1 (b : Bool) : zs_u b ≤ 1 := by
  cases b with
  | false => exact Nat.zero_le _
  | true => exact Nat.le_refl _
theorem zs_S_ge (lo : Nat) : ∀ m, zs_S (fun j => zs_u (decide (lo ≤ j))) m = m - lo := by
  intro m
  induction m with
  | zero => exact (Nat.zero_sub _).symm
  | succ m ih =>
    show zs_S (fun j => zs_u (decide (lo ≤ j))) m + zs_u (decide (lo ≤ m)) = m + 1 - lo
    by_cases c : lo ≤ m
    · rw [decide_eq_true c]
      show _ + 1 = _
      omega
    · rw [decide_eq_false c]
      show _ + 0 = _
      omega
/-- the greatest f j over the j < m that p takes, 0 if there is none -/
def zs_X (p : Nat → Bool) (f : Nat → Nat) : Nat → Nat
  | 0 => 0
  | m + 1 => if p m = true ∧ zs_X p f m < f m then f m else zs_X p f m
theorem zs_X_s {p : Nat → Bool} {f : Nat → Nat} (m : Nat) : zs_X p f (m + 1) = if p m = true ∧ zs_X p f m < f m then f m else zs_X p f m := rfl
theorem zs_X_f {p : Nat → Bool} {f : Nat → Nat} {m : Nat} (h : p m = false) : zs_X p f (m + 1) = zs_X p f m := if_neg (fun c => by rw [h] at c; exact Bool.noConfusion c.1)
theorem zs_X_mono {p : Nat → Bool} {f : Nat → Nat} (m : Nat) : zs_X p f m ≤ zs_X p f (m + 1) := by
  rw [zs_X_s]
  by_cases c : p m = true ∧ zs_X p f m < f m
  · rw [if_pos c]; omega
  · rw [if_neg c]; exact Nat.le_refl _
theorem zs_X_ge {p : Nat → Bool} {f : Nat → Nat} : ∀ {m j : Nat}, j < m → p j = true → f j ≤ zs_X p f m := by
  intro m
  induction m with
  | zero => intro j h; exact absurd h (Nat.not_lt_zero _)
  | succ m ih =>
    intro j h hp
    by_cases c : j = m
    · subst c
      rw [zs_X_s]
      by_cases d : p j = true ∧ zs_X p f j < f j
      · rw [if_pos d]; exact Nat.le_refl _
      · rw [if_neg d]
        have : ¬ zs_X p f j < f j := fun z => d ⟨hp, z⟩
        omega
    · have h1 := ih (j := j) (by omega) hp
      have h2 := zs_X_mono (p := p) (f := f) m
      omega
theorem zs_X_le {p : Nat → Bool} {f : Nat → Nat} {v : Nat} : ∀ {m : Nat}, (∀ j, j < m → p j = true → f j ≤ v) → zs_X p f m ≤ v := by
  intro m
  induction m with
  | zero => intro _; exact Nat.zero_le _
  | succ m ih =>
    intro h
    rw [zs_X_s]
    by_cases d : p m = true ∧ zs_X p f m < f m
    · rw [if_pos d]; exact h m (by omega) d.1
    · rw [if_neg d]; exact ih (fun j hj => h j (by omega))
theorem zs_X_at {p : Nat → Bool} {f : Nat → Nat} : ∀ m : Nat, zs_X p f m = 0 ∨ ∃ j, j < m ∧ p j = true ∧ f j = zs_X p f m := by
  intro m
  induction m with
  | zero => exact Or.inl rfl
  | succ m ih =>
    rw [zs_X_s]
    by_cases d : p m = true ∧ zs_X p f m < f m
    · rw [if_pos d]; exact Or.inr ⟨m, by omega, d.1, rfl⟩
    · rw [if_neg d]
      rcases ih with h | ⟨j, hj, h1, h2⟩
      · exact Or.inl h
      · exact Or.inr ⟨j, by omega, h1, h2⟩
/-- of the places that p takes one with the least measure -/
theorem zs_least (p : Nat → Bool) (mu : Nat → Nat) : ∀ m, (∀ i, i < m → p i = false) ∨ ∃ q, q < m ∧ p q = true ∧ ∀ i, i < m → p i = true → mu q ≤ mu i := by
  intro m
  induction m with
  | zero => exact Or.inl (fun i h => absurd h (Nat.not_lt_zero _))
  | succ m ih =>
    cases c : p m with
    | false =>
      rcases ih with h | ⟨q, h1, h2, h3⟩
      · refine Or.inl (fun i hi => ?_)
        by_cases d : i = m
        · rw [d]; exact c
        · exact h i (by omega)
      · refine Or.inr ⟨q, by omega, h2, fun i hi hp => ?_⟩
        by_cases d : i = m
        · rw [d, c] at hp; exact Bool.noConfusion hp
        · exact h3 i (by omega) hp
    | true =>
      rcases ih with h | ⟨q, h1, h2, h3⟩
      · refine Or.inr ⟨m, by omega, c, fun i hi hp => ?_⟩
        by_cases d : i = m
        · rw [d]; exact Nat.le_refl _
        · rw [h i (by omega)] at hp; exact Bool.noConfusion hp
      · by_cases e : mu m < mu q
        · refine Or.inr ⟨m, by omega, c, fun i hi hp => ?_⟩
          by_cases d : i = m
          · rw [d]; exact Nat.le_refl _
          · have := h3 i (by omega) hp; omega
        · refine Or.inr ⟨q, by omega, h2, fun i hi hp => ?_⟩
          by_cases d : i = m
          · rw [d]; omega
          · exact h3 i (by omega) hp
end
section
/-! what two places share (two sequences), the order of the suffixes, ranks -/
def zs_Gf (t : Nat → Int) (n : Nat) (p : Nat → Int) (m : Nat) : Nat → Nat → Nat → Nat
  | 0 => fun _ _ => 0
  | f + 1 => fun i j => if i < n ∧ j < m ∧ t i = p j then zs_Gf t n p m f (i + 1) (j + 1) + 1 else 0
/-- how many symbols are shared from place i of (t, n) and place j of (p, m) -/
def zs_G (t : Nat → Int) (n : Nat) (p : Nat → Int) (m : Nat) (i j : Nat) : Nat := zs_Gf t n p m n i j
def zs_gp (t : Nat → Int) (n : Nat) (p : Nat → Int) (m : Nat) (i j l : Nat) : Prop :=
  i + l ≤ n ∧ j + l ≤ m ∧ (∀ k, k < l → t (i + k) = p (j + k)) ∧ (i + l < n → j + l < m → t (i + l) ≠ p (j + l))
theorem zs_gp_f (t : Nat → Int) (n : Nat) (p : Nat → Int) (m : Nat) : ∀ f i j, i ≤ n → j ≤ m → n ≤ i + f → zs_gp t n p m i j (zs_Gf t n p m f i j) := by
  intro f
  induction f with
  | zero =>
    intro i j hi hj hf
    exact ⟨by show i + 0 ≤ n; omega, by show j + 0 ≤ m; omega, fun k hk => absurd hk (Nat.not_lt_zero _), fun h => absurd h (by show ¬ i + 0 < n; omega)⟩
  | succ f ih =>
    intro i j hi hj hf
    by_cases c : i < n ∧ j < m ∧ t i = p j
    · have e : zs_Gf t n p m (f + 1) i j = zs_Gf t n p m f (i + 1) (j + 1) + 1 := if_pos c
      obtain ⟨h1, h2, h3, h4⟩ := ih (i + 1) (j + 1) (by omega) (by omega) (by omega)
      rw [e]
      generalize zs_Gf t n p m f (i + 1) (j + 1) = l at h1 h2 h3 h4 ⊢
      refine ⟨by omega, by omega, ?_, ?_⟩
      · intro k hk
        cases k with
        | zero => exact c.2.2
        | succ k =>
          have e1 := h3 k (by omega)
          rw [show i + (k + 1) = i + 1 + k by omega, show j + (k + 1) = j + 1 + k by omega]
          exact e1
      · rw [show i + (l + 1) = i + 1 + l by omega, show j + (l + 1) = j + 1 + l by omega]
        exact h4
    · have e : zs_Gf t n p m (f + 1) i j = 0 := if_neg c
      rw [e]
      exact ⟨by omega, by omega, fun k hk => absurd hk (Nat.not_lt_zero _), fun h h' h'' => c ⟨h, h', h''⟩⟩
theorem zs_gp_G {t : Nat → Int} {n : Nat} {p : Nat → Int} {m i j : Nat} (hi : i ≤ n) (hj : j ≤ m) : zs_gp t n p m i j (zs_G t n p m i j) := zs_gp_f t n p m n i j hi hj (by omega)
theorem zs_gp_u {t : Nat → Int} {n : Nat} {p : Nat → Int} {m i j l l' : Nat} (h : zs_gp t n p m i j l) (h' : zs_gp t n p m i j l') : l = l' := by
  obtain ⟨a1, a2, a3, a4⟩ := h
  obtain ⟨b1, b2, b3, b4⟩ := h'
  rcases Nat.lt_trichotomy l l' with c | c | c
  · exact absurd (b3 l c) (a4 (by omega) (by omega))
  · exact c
  · exact absurd (a3 l' c) (b4 (by omega) (by omega))
theorem zs_G_of {t : Nat → Int} {n : Nat} {p : Nat → Int} {m i j l : Nat} (h : zs_gp t n p m i j l) : zs_G t n p m i j = l :=
  zs_gp_u (zs_gp_G (by have := h.1; omega) (by have := h.2.1; omega)) h
/-- below, between two sequences -/
def zs_H (t : Nat → Int) (n : Nat) (p : Nat → Int) (m : Nat) (i j l : Nat) : Prop := j + l < m ∧ (n ≤ i + l ∨ t (i + l) < p (j + l))
def zs_h (t : Nat → Int) (n : Nat) (p : Nat → Int) (m : Nat) (i j : Nat) : Bool :=
  decide (j + zs_G t n p m i j < m ∧ (n ≤ i + zs_G t n p m i j ∨ t (i + zs_G t n p m i j) < p (j + zs_G t n p m i j)))
theorem zs_h_iff {t : Nat → Int} {n : Nat} {p : Nat → Int} {m i j : Nat} : zs_h t n p m i j = true ↔ zs_H t n p m i j (zs_G t n p m i j) := by
  unfold zs_h zs_H
  exact ⟨of_decide_eq_true, decide_eq_true⟩
/-- the suffixes of one text -/
def zs_L (t : Nat → Int) (n i j : Nat) : Nat := zs_G t n t n i j
def zs_b (t : Nat → Int) (n i j : Nat) : Bool := zs_h t n t n i j
def zs_B (t : Nat → Int) (n i j : Nat) : Prop := zs_H t n t n i j (zs_L t n i j)
theorem zs_b_iff {t : Nat → Int} {n i j : Nat} : zs_b t n i j = true ↔ zs_B t n i j := zs_h_iff
theorem zs_L_gp {t : Nat → Int} {n i j : Nat} (hi : i ≤ n) (hj : j ≤ n) : zs_gp t n t n i j (zs_L t n i j) := zs_gp_G hi hj
theorem zs_L_of {t : Nat → Int} {n i j l : Nat} (h : zs_gp t n t n i j l) : zs_L t n i j = l := zs_G_of h
theorem zs_gp_c {t : Nat → Int} {n i j l : Nat} (h : zs_gp t n t n i j l) : zs_gp t n t n j i l :=
  ⟨h.2.1, h.1, fun k hk => (h.2.2.1 k hk).symm, fun a b e => h.2.2.2 b a e.symm⟩
theorem zs_L_c {t : Nat → Int} {n i j : Nat} (hi : i ≤ n) (hj : j ≤ n) : zs_L t n i j = zs_L t n j i := zs_L_of (zs_gp_c (zs_L_gp hj hi))
theorem zs_B_ir {t : Nat → Int} {n i : Nat} (hi : i ≤ n) : ¬ zs_B t n i i := by
  have e : zs_L t n i i = n - i := zs_L_of ⟨by omega, by omega, fun _ _ => rfl, fun h => absurd h (by omega)⟩
  intro h
  have h1 := h.1
  rw [e] at h1
  omega
theorem zs_B_tot {t : Nat → Int} {n i j : Nat} (hi : i < n) (hj : j < n) (hne : i ≠ j) : zs_B t n i j ∨ zs_B t n j i := by
  have h := zs_L_gp (t := t) (Nat.le_of_lt hi) (Nat.le_of_lt hj)
  have e := zs_L_c (t := t) (Nat.le_of_lt hj) (Nat.le_of_lt hi)
  unfold zs_B zs_H
  rw [e]
  obtain ⟨h1, h2, _, h4⟩ := h
  generalize zs_L t n i j = l at h1 h2 h4 ⊢
  by_cases c1 : i + l < n
  · by_cases c2 : j + l < n
    · have h5 := h4 c1 c2
      have h6 : t (i + l) < t (j + l) ∨ t (j + l) < t (i + l) := by omega
      rcases h6 with h | h
      · exact Or.inl ⟨c2, Or.inr h⟩
      · exact Or.inr ⟨c1, Or.inr h⟩
    · exact Or.inr ⟨c1, Or.inl (by omega)⟩
  · exact Or.inl ⟨by omega, Or.inl (by omega)⟩
theorem zs_B_tr {t : Nat → Int} {n i j k : Nat} (hi : i ≤ n) (hj : j ≤ n) (hk : k ≤ n) (h1 : zs_B t n i j) (h2 : zs_B t n j k) :
    ((zs_L t n i j ≤ zs_L t n j k ∧ zs_L t n i k = zs_L t n i j) ∨ (zs_L t n j k ≤ zs_L t n i j ∧ zs_L t n i k = zs_L t n j k)) ∧ zs_B t n i k := by
  have p := zs_L_gp (t := t) hi hj
  have q := zs_L_gp (t := t) hj hk
  unfold zs_B zs_H at h1 h2
  generalize zs_L t n i j = x at p h1 ⊢
  generalize zs_L t n j k = y at q h2 ⊢
  obtain ⟨p1, p2, p3, p4⟩ := p
  obtain ⟨q1, q2, q3, q4⟩ := q
  obtain ⟨a1, a2⟩ := h1
  obtain ⟨b1, b2⟩ := h2
  rcases Nat.lt_trichotomy x y with c | c | c
  · have e3 := q3 x c
    have e : zs_L t n i k = x := zs_L_of ⟨p1, by omega, fun m hm => (p3 m hm).trans (q3 m (by omega)), fun h h' => by omega⟩
    refine ⟨Or.inl ⟨by omega, e⟩, ?_⟩
    unfold zs_B zs_H
    rw [e]
    exact ⟨by omega, by omega⟩
  · subst c
    have e : zs_L t n i k = x := zs_L_of ⟨p1, by omega, fun m hm => (p3 m hm).trans (q3 m (by omega)), fun h h' => by omega⟩
    refine ⟨Or.inl ⟨by omega, e⟩, ?_⟩
    unfold zs_B zs_H
    rw [e]
    exact ⟨by omega, by omega⟩
  · have e3 := p3 y c
    have e : zs_L t n i k = y := zs_L_of ⟨by omega, by omega, fun m hm => (p3 m (by omega)).trans (q3 m hm), fun h h' => by omega⟩
    refine ⟨Or.inr ⟨by omega, e⟩, ?_⟩
    unfold zs_B zs_H
    rw [e]
    exact ⟨by omega, by omega⟩
theorem zs_B_as {t : Nat → Int} {n i j : Nat} (hi : i ≤ n) (hj : j ≤ n) (h1 : zs_B t n i j) (h2 : zs_B t n j i) : False :=
  zs_B_ir hi (zs_B_tr hi hj hi h1 h2).2
theorem zs_b_f {t : Nat → Int} {n i j : Nat} (h : ¬ zs_B t n i j) : zs_b t n i j = false := by
  cases c : zs_b t n i j with
  | false => rfl
  | true => exact absurd (zs_b_iff.mp c) h
/-- how many of the suffixes from lo on are below suffix i -/
def zs_R (t : Nat → Int) (n lo i : Nat) : Nat := zs_S (fun j => zs_u (decide (lo ≤ j) && zs_b t n j i)) n
theorem zs_R_pt {t : Nat → Int} {n lo i k : Nat} (hi : i ≤ n) (hk : k ≤ n) (h : zs_B t n i k) (j : Nat) (hj : j < n) : zs_u (decide (lo ≤ j) && zs_b t n j i) ≤ zs_u (decide (lo ≤ j) && zs_b t n j k) := by
  apply zs_u_le
  intro e
  rw [Bool.and_eq_true] at e ⊢
  exact ⟨e.1, zs_b_iff.mpr (zs_B_tr (Nat.le_of_lt hj) hi hk (zs_b_iff.mp e.2) h).2⟩
theorem zs_R_le {t : Nat → Int} {n lo i k : Nat} (hi : i ≤ n) (hk : k ≤ n) (h : zs_B t n i k) : zs_R t n lo i ≤ zs_R t n lo k :=
  zs_S_le n (zs_R_pt hi hk h)
theorem zs_R_lt {t : Nat → Int} {n lo i k : Nat} (hl : lo ≤ i) (hi : i < n) (hk : k ≤ n) (h : zs_B t n i k) : zs_R t n lo i < zs_R t n lo k := by
  refine zs_S_lt (q := i) n hi (zs_R_pt (Nat.le_of_lt hi) hk h) ?_
  show zs_u (decide (lo ≤ i) && zs_b t n i i) < zs_u (decide (lo ≤ i) && zs_b t n i k)
  rw [zs_b_f (zs_B_ir (Nat.le_of_lt hi)), zs_b_iff.mpr h, decide_eq_true hl]
  decide
theorem zs_R_bd {t : Nat → Int} {n lo i : Nat} : zs_R t n lo i ≤ n - lo := by
  rw [← zs_S_ge lo n]
  refine zs_S_le n (fun j _ => zs_u_le (fun e => ?_))
  rw [Bool.and_eq_true] at e
  exact e.1
theorem zs_R_st {t : Nat → Int} {n lo i : Nat} (h : lo < n) : zs_R t n lo i = zs_R t n (lo + 1) i + zs_u (zs_b t n lo i) := by
  refine zs_S_one (q := lo) n h (fun j hj hne => ?_) ?_
  · by_cases c : lo ≤ j
    · show zs_u (decide (lo ≤ j) && zs_b t n j i) = zs_u (decide (lo + 1 ≤ j) && zs_b t n j i)
      rw [decide_eq_true c, decide_eq_true (show lo + 1 ≤ j by omega)]
    · show zs_u (decide (lo ≤ j) && zs_b t n j i) = zs_u (decide (lo + 1 ≤ j) && zs_b t n j i)
      rw [decide_eq_false c, decide_eq_false (show ¬ lo + 1 ≤ j by omega)]
  · show zs_u (decide (lo ≤ lo) && zs_b t n lo i) = zs_u (decide (lo + 1 ≤ lo) && zs_b t n lo i) + zs_u (zs_b t n lo i)
    rw [decide_eq_true (Nat.le_refl lo), decide_eq_false (show ¬ lo + 1 ≤ lo by omega)]
    cases zs_b t n lo i <;> rfl
/-- the rank of suffix i, as it is counted -/
def zs_K (t : Nat → Int) (n i : Nat) : Nat := zs_S (fun j => zs_u (zs_b t n j i)) n
theorem zs_R_0 {t : Nat → Int} {n i : Nat} : zs_R t n 0 i = zs_K t n i := by
  refine zs_S_eq n (fun j _ => ?_)
  show zs_u (decide (0 ≤ j) && zs_b t n j i) = zs_u (zs_b t n j i)
  rw [decide_eq_true (Nat.zero_le j)]
  rfl
theorem zs_K_lt {t : Nat → Int} {n i k : Nat} (hi : i < n) (hk : k ≤ n) (h : zs_B t n i k) : zs_K t n i < zs_K t n k := by
  rw [← zs_R_0, ← zs_R_0]
  exact zs_R_lt (Nat.zero_le _) hi hk h
theorem zs_K_n {t : Nat → Int} {n i : Nat} (hi : i < n) : zs_K t n i < n := by
  have h : zs_K t n i < zs_S (fun _ => 1) n := by
    refine zs_S_lt (q := i) n hi (fun j _ => zs_u_1 _) ?_
    show zs_u (zs_b t n i i) < 1
    rw [zs_b_f (zs_B_ir (Nat.le_of_lt hi))]
    decide
  rw [zs_S_1] at h
  exact h
theorem zs_K_B {t : Nat → Int} {n i k : Nat} (hi : i < n) (hk : k < n) (h : zs_K t n i < zs_K t n k) : zs_B t n i k := by
  by_cases c : i = k
  · subst c; omega
  · rcases zs_B_tot (t := t) hi hk c with d | d
    · exact d
    · have := zs_K_lt hk (Nat.le_of_lt hi) d
      omega
theorem zs_K_inj {t : Nat → Int} {n i k : Nat} (hi : i < n) (hk : k < n) (h : zs_K t n i = zs_K t n k) : i = k := by
  by_cases c : i = k
  · exact c
  · rcases zs_B_tot (t := t) hi hk c with d | d
    · have := zs_K_lt hi (Nat.le_of_lt hk) d
      omega
    · have := zs_K_lt hk (Nat.le_of_lt hi) d
      omega
/-- the suffixes from lo on stand sorted in g -/
def zs_I (t : Nat → Int) (n lo : Nat) (g : Nat → Nat) : Prop := ∀ s, s < n - lo → lo ≤ g s ∧ g s < n ∧ zs_R t n lo (g s) = s
def zs_ins (g : Nat → Nat) (p st : Nat) : Nat → Nat := fun s => if s < p then g s else if s = p then st else g (s - 1)
theorem zs_I_ins {t : Nat → Int} {n lo p : Nat} {g : Nat → Nat} (hlo : lo + 1 ≤ n) (h : zs_I t n (lo + 1) g) (hp : p ≤ n - (lo + 1)) (h0 : ∀ s, s + 1 = p → ¬ zs_B t n lo (g s)) (h1 : ∀ s, p ≤ s → s < n - (lo + 1) → zs_B t n lo (g s)) : zs_I t n lo (zs_ins g p lo) := by
  have hpr : ∀ s, s + 1 = p → zs_B t n (g s) lo := by
    intro s hs
    obtain ⟨a1, a2, a3⟩ := h s (by omega)
    rcases zs_B_tot (t := t) (i := lo) (j := g s) (by omega) a2 (by omega) with d | d
    · exact absurd d (h0 s hs)
    · exact d
  intro s hs
  have hst : ∀ i, zs_R t n lo i = zs_R t n (lo + 1) i + zs_u (zs_b t n lo i) := fun i => zs_R_st (by omega)
  by_cases c1 : s < p
  · have e : zs_ins g p lo s = g s := if_pos c1
    obtain ⟨a1, a2, a3⟩ := h s (by omega)
    rw [e]
    refine ⟨by omega, a2, ?_⟩
    have hn : ¬ zs_B t n lo (g s) := by
      intro d
      obtain ⟨b1, b2, b3⟩ := h (p - 1) (by omega)
      have d1 := hpr (p - 1) (by omega)
      have d2 := (zs_B_tr (Nat.le_of_lt b2) (by omega) (Nat.le_of_lt a2) d1 d).2
      have d3 := zs_R_lt (lo := lo + 1) b1 b2 (Nat.le_of_lt a2) d2
      omega
    rw [hst, zs_b_f hn, a3]
    rfl
  · by_cases c2 : s = p
    · have e : zs_ins g p lo s = lo := (if_neg c1).trans (if_pos c2)
      rw [e]
      refine ⟨Nat.le_refl _, by omega, ?_⟩
      rw [hst, zs_b_f (zs_B_ir (t := t) (n := n) (i := lo) (by omega))]
      show zs_R t n (lo + 1) lo + 0 = s
      have u1 : zs_R t n (lo + 1) lo ≤ p := by
        by_cases c3 : p < n - (lo + 1)
        · obtain ⟨a1, a2, a3⟩ := h p c3
          have := zs_R_le (lo := lo + 1) (by omega) (Nat.le_of_lt a2) (h1 p (Nat.le_refl _) c3)
          omega
        · have := zs_R_bd (t := t) (n := n) (lo := lo + 1) (i := lo)
          omega
      have u2 : p ≤ zs_R t n (lo + 1) lo := by
        by_cases c3 : p = 0
        · omega
        · obtain ⟨a1, a2, a3⟩ := h (p - 1) (by omega)
          have := zs_R_lt (lo := lo + 1) a1 a2 (by omega) (hpr (p - 1) (by omega))
          omega
      omega
    · have e : zs_ins g p lo s = g (s - 1) := (if_neg c1).trans (if_neg c2)
      obtain ⟨a1, a2, a3⟩ := h (s - 1) (by omega)
      rw [e]
      refine ⟨by omega, a2, ?_⟩
      rw [hst, zs_b_iff.mpr (h1 (s - 1) (by omega) (by omega)), a3]
      show s - 1 + 1 = s
      omega
/-- the whole order -/
def zs_O (t : Nat → Int) (n : Nat) (g : Nat → Nat) : Prop := ∀ s, s < n → g s < n ∧ zs_K t n (g s) = s
theorem zs_I_O {t : Nat → Int} {n : Nat} {g : Nat → Nat} (h : zs_I t n 0 g) : zs_O t n g := by
  intro s hs
  obtain ⟨_, a2, a3⟩ := h s (by omega)
  rw [zs_R_0] at a3
  exact ⟨a2, a3⟩
theorem zs_O_i {t : Nat → Int} {n i : Nat} {g : Nat → Nat} (h : zs_O t n g) (hi : i < n) : g (zs_K t n i) = i := by
  obtain ⟨a1, a2⟩ := h (zs_K t n i) (zs_K_n hi)
  exact zs_K_inj a1 hi a2
end
section
/-! the sum of the shared lengths of neighbours, and the greatest -/
/-- the greatest length that suffix i shares with one below it, among those before m -/
def zs_M (t : Nat → Int) (n m i : Nat) : Nat := zs_X (fun j => zs_b t n j i) (fun j => zs_L t n j i) m
/-- the greatest length that suffix i shares with an earlier one -/
def zs_P (t : Nat → Int) (n i : Nat) : Nat := zs_X (fun _ => true) (fun j => zs_L t n i j) i
theorem zs_M_ge {t : Nat → Int} {n m i j : Nat} (hj : j < m) (h : zs_B t n j i) : zs_L t n j i ≤ zs_M t n m i :=
  zs_X_ge (p := fun j => zs_b t n j i) (f := fun j => zs_L t n j i) hj (zs_b_iff.mpr h)
theorem zs_M_le {t : Nat → Int} {n m i v : Nat} (h : ∀ j, j < m → zs_B t n j i → zs_L t n j i ≤ v) : zs_M t n m i ≤ v :=
  zs_X_le (p := fun j => zs_b t n j i) (f := fun j => zs_L t n j i) (fun j hj hp => h j hj (zs_b_iff.mp hp))
theorem zs_M_at {t : Nat → Int} {n i : Nat} (m : Nat) : zs_M t n m i = 0 ∨ ∃ j, j < m ∧ zs_B t n j i ∧ zs_L t n j i = zs_M t n m i := by
  rcases zs_X_at (p := fun j => zs_b t n j i) (f := fun j => zs_L t n j i) m with h | ⟨j, h1, h2, h3⟩
  · exact Or.inl h
  · exact Or.inr ⟨j, h1, zs_b_iff.mp h2, h3⟩
theorem zs_M_f {t : Nat → Int} {n m i : Nat} (h : ¬ zs_B t n m i) : zs_M t n (m + 1) i = zs_M t n m i :=
  zs_X_f (p := fun j => zs_b t n j i) (f := fun j => zs_L t n j i) (zs_b_f h)
theorem zs_M_t {t : Nat → Int} {n m i : Nat} (h : zs_B t n m i) : (zs_M t n m i ≤ zs_L t n m i → zs_M t n (m + 1) i = zs_L t n m i) ∧ (zs_L t n m i ≤ zs_M t n m i → zs_M t n (m + 1) i = zs_M t n m i) := by
  have e : zs_M t n (m + 1) i = if zs_b t n m i = true ∧ zs_M t n m i < zs_L t n m i then zs_L t n m i else zs_M t n m i := rfl
  by_cases c : zs_M t n m i < zs_L t n m i
  · rw [e, if_pos ⟨zs_b_iff.mpr h, c⟩]
    exact ⟨fun _ => rfl, fun z => by omega⟩
  · rw [e, if_neg (fun z => c z.2)]
    exact ⟨fun z => by omega, fun _ => rfl⟩
theorem zs_P_ge {t : Nat → Int} {n i j : Nat} (hj : j < i) : zs_L t n i j ≤ zs_P t n i :=
  zs_X_ge (p := fun _ => true) (f := fun j => zs_L t n i j) hj rfl
theorem zs_P_le {t : Nat → Int} {n i v : Nat} (h : ∀ j, j < i → zs_L t n i j ≤ v) : zs_P t n i ≤ v :=
  zs_X_le (p := fun _ => true) (f := fun j => zs_L t n i j) (fun j hj _ => h j hj)
/-- one more suffix -/
theorem zs_F_st {t : Nat → Int} {n m : Nat} (hm : m < n) : zs_S (fun i => zs_M t n (m + 1) i) m + zs_M t n m m = zs_S (fun i => zs_M t n m i) m + zs_P t n m := by
  have hm' : m ≤ n := Nat.le_of_lt hm
  rcases zs_least (fun i => zs_b t n m i) (fun i => zs_K t n i) m with h | ⟨q, hq, hb, hl⟩
  · have e1 : zs_S (fun i => zs_M t n (m + 1) i) m = zs_S (fun i => zs_M t n m i) m := by
      refine zs_S_eq m (fun i hi => zs_M_f (fun z => ?_))
      have z1 := zs_b_iff.mpr z
      have z2 : zs_b t n m i = false := h i hi
      rw [z2] at z1
      exact Bool.noConfusion z1
    have hB : ∀ j, j < m → zs_B t n j m := by
      intro j hj
      rcases zs_B_tot (t := t) (n := n) (i := j) (j := m) (by omega) hm (by omega) with d | d
      · exact d
      · have z1 := zs_b_iff.mpr d
        have z2 : zs_b t n m j = false := h j hj
        rw [z2] at z1
        exact Bool.noConfusion z1
    have e2 : zs_M t n m m = zs_P t n m := by
      refine Nat.le_antisymm (zs_M_le (fun j hj _ => ?_)) (zs_P_le (fun j hj => ?_))
      · rw [zs_L_c (t := t) (n := n) (i := j) (j := m) (by omega) hm']
        exact zs_P_ge hj
      · rw [zs_L_c (t := t) (n := n) (i := m) (j := j) hm' (by omega)]
        exact zs_M_ge hj (hB j hj)
    omega
  · have hB : zs_B t n m q := zs_b_iff.mp hb
    have hq' : q ≤ n := by omega
    have hup : ∀ i, i < m → zs_B t n m i → i ≠ q → zs_B t n q i := by
      intro i hi hbi hne
      have d : zs_K t n q ≤ zs_K t n i := hl i hi (zs_b_iff.mpr hbi)
      rcases zs_B_tot (t := t) (n := n) (i := q) (j := i) (by omega) (by omega) (fun z => hne z.symm) with z | z
      · exact z
      · have := zs_K_lt (t := t) (n := n) (by omega) hq' z
        omega
    have hlo : ∀ j, j < m → zs_B t n j q → zs_B t n j m := by
      intro j hj hbj
      rcases zs_B_tot (t := t) (n := n) (i := j) (j := m) (by omega) hm (by omega) with z | z
      · exact z
      · have d : zs_K t n q ≤ zs_K t n j := hl j hj (zs_b_iff.mpr z)
        have := zs_K_lt (t := t) (n := n) (by omega) hq' hbj
        omega
    have f1 : ∀ i, i < m → i ≠ q → zs_M t n (m + 1) i = zs_M t n m i := by
      intro i hi hne
      by_cases c : zs_B t n m i
      · have d1 := hup i hi c hne
        have d2 := (zs_B_tr hm' hq' (by omega) hB d1).1
        have d3 := zs_M_ge (m := m) hq d1
        exact (zs_M_t c).2 (by omega)
      · exact zs_M_f c
    have g1 : zs_M t n m q ≤ zs_M t n m m := by
      refine zs_M_le (fun j hj hbj => ?_)
      have d1 := hlo j hj hbj
      have d2 := (zs_B_tr (by omega) hm' hq' d1 hB).1
      have d3 := zs_M_ge (m := m) hj d1
      omega
    have g2 : zs_M t n m q ≤ zs_L t n m q := by
      refine zs_M_le (fun j hj hbj => ?_)
      have d1 := hlo j hj hbj
      have d2 := (zs_B_tr (by omega) hm' hq' d1 hB).1
      omega
    have g3 : zs_M t n m q = zs_M t n m m ∨ zs_L t n m q ≤ zs_M t n m q := by
      rcases zs_M_at (t := t) (n := n) (i := m) m with z | ⟨j, hj, hbj, e⟩
      · omega
      · have d1 := zs_B_tr (by omega) hm' hq' hbj hB
        have d2 := zs_M_ge (m := m) hj d1.2
        have d3 := d1.1
        omega
    have f2 : zs_M t n (m + 1) q = zs_M t n m q + (zs_L t n m q - zs_M t n m q) := by
      rw [(zs_M_t hB).1 g2]
      omega
    have e1 := zs_S_one (f := fun i => zs_M t n (m + 1) i) (g := fun i => zs_M t n m i) (q := q) m hq f1 f2
    have p1 : zs_M t n m m ≤ zs_P t n m := by
      refine zs_M_le (fun j hj _ => ?_)
      rw [zs_L_c (t := t) (n := n) (i := j) (j := m) (by omega) hm']
      exact zs_P_ge hj
    have p2 : zs_L t n m q ≤ zs_P t n m := zs_P_ge hq
    have p3 : zs_P t n m ≤ zs_M t n m m ∨ zs_P t n m ≤ zs_L t n m q := by
      by_cases c : zs_M t n m m ≤ zs_L t n m q
      · refine Or.inr (zs_P_le (fun j hj => ?_))
        rcases zs_B_tot (t := t) (n := n) (i := j) (j := m) (by omega) hm (by omega) with z | z
        · have d1 := zs_M_ge (m := m) hj z
          rw [zs_L_c (t := t) (n := n) (i := m) (j := j) hm' (by omega)]
          omega
        · by_cases d : j = q
          · rw [d]; exact Nat.le_refl _
          · have d1 := (zs_B_tr hm' hq' (by omega) hB (hup j hj z d)).1
            omega
      · refine Or.inl (zs_P_le (fun j hj => ?_))
        rcases zs_B_tot (t := t) (n := n) (i := j) (j := m) (by omega) hm (by omega) with z | z
        · have d1 := zs_M_ge (m := m) hj z
          rw [zs_L_c (t := t) (n := n) (i := m) (j := j) hm' (by omega)]
          omega
        · by_cases d : j = q
          · rw [d]; omega
          · have d1 := (zs_B_tr hm' hq' (by omega) hB (hup j hj z d)).1
            omega
    omega
theorem zs_F {t : Nat → Int} {n : Nat} : ∀ m, m ≤ n → zs_S (fun i => zs_M t n m i) m = zs_S (fun i => zs_P t n i) m := by
  intro m
  induction m with
  | zero => intro _; rfl
  | succ m ih =>
    intro h
    have h1 := ih (by omega)
    have h2 := zs_F_st (t := t) (n := n) (m := m) (by omega)
    have h3 : zs_M t n (m + 1) m = zs_M t n m m := zs_M_f (zs_B_ir (by omega))
    show zs_S (fun i => zs_M t n (m + 1) i) m + zs_M t n (m + 1) m = zs_S (fun i => zs_P t n i) m + zs_P t n m
    omega
theorem zs_L_le {t : Nat → Int} {n i j : Nat} (hi : i ≤ n) (hj : j ≤ n) : zs_L t n i j ≤ n - i ∧ zs_L t n i j ≤ n - j := by
  have h := zs_L_gp (t := t) hi hj
  have h1 := h.1
  have h2 := h.2.1
  omega
/-- the shared length that stands at rank r -/
def zs_l (t : Nat → Int) (n : Nat) (g : Nat → Nat) (r : Nat) : Nat := if r = 0 then 0 else zs_L t n (g (r - 1)) (g r)
theorem zs_M_r {t : Nat → Int} {n : Nat} {g : Nat → Nat} (h : zs_O t n g) {r : Nat} (hr : r < n) : zs_l t n g r = zs_M t n n (g r) := by
  obtain ⟨a1, a2⟩ := h r hr
  by_cases c : r = 0
  · have e : zs_l t n g r = 0 := if_pos c
    rw [e]
    refine Nat.le_antisymm (Nat.zero_le _) (zs_M_le (fun j hj hb => ?_))
    have := zs_K_lt hj (Nat.le_of_lt a1) hb
    omega
  · have e : zs_l t n g r = zs_L t n (g (r - 1)) (g r) := if_neg c
    obtain ⟨b1, b2⟩ := h (r - 1) (by omega)
    have hb : zs_B t n (g (r - 1)) (g r) := zs_K_B b1 a1 (by omega)
    rw [e]
    refine Nat.le_antisymm (zs_M_ge b1 hb) (zs_M_le (fun j hj hbj => ?_))
    have d1 := zs_K_lt hj (Nat.le_of_lt a1) hbj
    by_cases d : zs_K t n j = r - 1
    · have d2 := zs_K_inj hj b1 (d.trans b2.symm)
      rw [d2]
      exact Nat.le_refl _
    · have d2 : zs_B t n j (g (r - 1)) := zs_K_B hj b1 (by omega)
      have d3 := (zs_B_tr (Nat.le_of_lt hj) (Nat.le_of_lt b1) (Nat.le_of_lt a1) d2 hb).1
      omega
/-- the number of distinct substrings, both ways -/
theorem zs_dist {t : Nat → Int} {n : Nat} {g : Nat → Nat} (h : zs_O t n g) : zs_S (fun r => n - g r - zs_l t n g r) n = zs_S (fun i => n - i - zs_P t n i) n := by
  have e1 : zs_S (fun r => n - g r - zs_l t n g r) n = zs_S (fun r => (fun i => n - i - zs_M t n n i) (g r)) n :=
    zs_S_eq n (fun r hr => congrArg (fun z => n - g r - z) (zs_M_r h hr))
  have e2 := zs_S_perm (S := g) (C := fun i => zs_K t n i) h (fun i hi => ⟨zs_K_n hi, zs_O_i h hi⟩) (fun i => n - i - zs_M t n n i)
  have e3 : zs_S (fun i => n - i - zs_M t n n i + zs_M t n n i) n = zs_S (fun i => n - i - zs_M t n n i) n + zs_S (fun i => zs_M t n n i) n := zs_S_add (fun i => n - i - zs_M t n n i) (fun i => zs_M t n n i) n
  have e4 : zs_S (fun i => n - i - zs_P t n i + zs_P t n i) n = zs_S (fun i => n - i - zs_P t n i) n + zs_S (fun i => zs_P t n i) n := zs_S_add (fun i => n - i - zs_P t n i) (fun i => zs_P t n i) n
  have e5 := zs_F (t := t) (n := n) n (Nat.le_refl n)
  have e6 : zs_S (fun i => n - i - zs_M t n n i + zs_M t n n i) n = zs_S (fun i => n - i) n := by
    refine zs_S_eq n (fun i hi => ?_)
    have : zs_M t n n i ≤ n - i := zs_M_le (fun j hj _ => (zs_L_le (Nat.le_of_lt hj) (Nat.le_of_lt hi)).2)
    omega
  have e7 : zs_S (fun i => n - i - zs_P t n i + zs_P t n i) n = zs_S (fun i => n - i) n := by
    refine zs_S_eq n (fun i hi => ?_)
    have : zs_P t n i ≤ n - i := zs_P_le (fun j hj => (zs_L_le (Nat.le_of_lt hi) (by omega)).1)
    omega
  have e8 : zs_S (fun r => n - g r - zs_l t n g r) n = zs_S (fun i => n - i - zs_M t n n i) n := e1.trans e2
  omega
/-- v is the greatest length that two suffixes share -/
def zs_top (t : Nat → Int) (n v : Nat) : Prop := (∀ i j, i < j → j < n → zs_L t n i j ≤ v) ∧ (v = 0 ∨ ∃ i j, i < j ∧ j < n ∧ zs_L t n i j = v)
theorem zs_top_u {t : Nat → Int} {n v w : Nat} (h : zs_top t n v) (h' : zs_top t n w) : v = w := by
  obtain ⟨a1, a2⟩ := h
  obtain ⟨b1, b2⟩ := h'
  have c1 : v ≤ w := by
    rcases a2 with z | ⟨i, j, h1, h2, h3⟩
    · omega
    · have := b1 i j h1 h2; omega
  have c2 : w ≤ v := by
    rcases b2 with z | ⟨i, j, h1, h2, h3⟩
    · omega
    · have := a1 i j h1 h2; omega
  omega
theorem zs_top_X {t : Nat → Int} {n : Nat} {g : Nat → Nat} (h : zs_O t n g) : zs_top t n (zs_X (fun _ => true) (zs_l t n g) n) := by
  have key : ∀ i j, i < n → j < n → zs_B t n i j → zs_L t n i j ≤ zs_X (fun _ => true) (zs_l t n g) n := by
    intro i j hi hj hb
    have h1 := zs_M_ge hi hb
    have h2 := zs_M_r h (zs_K_n (t := t) hj)
    rw [zs_O_i h hj] at h2
    have h3 := zs_X_ge (p := fun _ => true) (f := zs_l t n g) (zs_K_n (t := t) hj) rfl
    omega
  refine ⟨fun i j hij hj => ?_, ?_⟩
  · rcases zs_B_tot (t := t) (n := n) (i := i) (j := j) (by omega) hj (by omega) with z | z
    · exact key i j (by omega) hj z
    · rw [zs_L_c (t := t) (n := n) (i := i) (j := j) (by omega) (by omega)]
      exact key j i hj (by omega) z
  · rcases zs_X_at (p := fun _ => true) (f := zs_l t n g) n with z | ⟨r, hr, _, e⟩
    · exact Or.inl z
    · by_cases c : r = 0
      · have e1 : zs_l t n g r = 0 := if_pos c
        exact Or.inl (e.symm.trans e1)
      · have e1 : zs_l t n g r = zs_L t n (g (r - 1)) (g r) := if_neg c
        obtain ⟨a1, a2⟩ := h r hr
        obtain ⟨b1, b2⟩ := h (r - 1) (by omega)
        rw [← e, e1]
        rcases Nat.lt_trichotomy (g (r - 1)) (g r) with d | d | d
        · exact Or.inr ⟨_, _, d, a1, rfl⟩
        · rw [d] at b2; omega
        · exact Or.inr ⟨_, _, d, b1, zs_L_c (Nat.le_of_lt a1) (Nat.le_of_lt b1)⟩
end
section
/-! small tools: stores, numbers, the text as integers (the first rows are the kit's rows to paste) -/
theorem pk_us {f : Nat → Int32} {k : Nat} {x : Int32} : upd f k x k = x := if_pos rfl
theorem pk_un {f : Nat → Int32} {k j : Nat} {x : Int32} (h : j ≠ k) : upd f k x j = f j := if_neg h
theorem pk_sub {a b : Nat} (h : b ≤ a) : nI a - nI b = nI (a - b) := by
  obtain ⟨c, rfl⟩ : ∃ c, a = c + b := ⟨a - b, by omega⟩
  rw [← nI_add, Int32.add_sub_cancel, Nat.add_sub_cancel]
theorem pk_m1 (n : Nat) : nI (n + 1) + (-1) = nI n := by
  rw [← nI_1, Int32.add_assoc, show (1 : Int32) + (-1) = 0 from rfl, Int32.add_zero]
theorem pk_ix (x : Int32) {n : Nat} (hn : n < 2 ^ 31) : x < 0 ∨ nI n ≤ x ∨ ∃ j : Nat, j < n ∧ x = nI j := by
  by_cases h : x < 0
  · exact Or.inl h
  · obtain ⟨j, hj, rfl⟩ := nI_of h
    by_cases h2 : j < n
    · exact Or.inr (Or.inr ⟨j, h2, rfl⟩)
    · exact Or.inr (Or.inl (nI_le (by omega) hj))
/-- an array of ints as integers -/
def zs_t (a : Nat → Int32) : Nat → Int := fun i => (a i).toInt
theorem zt_e {a b : Nat → Int32} {i j : Nat} (h : zs_t a i = zs_t b j) : a i = b j := Int32.toInt_inj.mp h
theorem zt_ne {a b : Nat → Int32} {i j : Nat} (h : zs_t a i ≠ zs_t b j) : ¬ a i = b j := fun z => h (congrArg Int32.toInt z)
theorem zt_lt {a b : Nat → Int32} {i j : Nat} (h : zs_t a i < zs_t b j) : a i < b j := Int32.lt_iff_toInt_lt.mpr h
theorem zt_nlt {a b : Nat → Int32} {i j : Nat} (h : ¬ zs_t a i < zs_t b j) : ¬ a i < b j := fun z => h (Int32.lt_iff_toInt_lt.mp z)
theorem zt_le {a b : Nat → Int32} {i j : Nat} (h : zs_t a i ≤ zs_t b j) : a i ≤ b j := Int32.le_iff_toInt_le.mpr h
theorem zt_nle {a b : Nat → Int32} {i j : Nat} (h : ¬ zs_t a i ≤ zs_t b j) : ¬ a i ≤ b j := fun z => h (Int32.le_iff_toInt_le.mp z)
theorem zt_in {i : Nat} (h : i < 128) : vp_in (nI i) 128 := vp_in_nI h (by decide)
theorem zt_ina {i k : Nat} (h : i + k < 128) : vp_in (nI i + nI k) 128 := by
  rw [nI_add]
  exact vp_in_nI h (by decide)
theorem zt_cl {i : Nat} (h : i < 128) : (nI i).toNatClampNeg = i := nI_clamp (by omega)
theorem zt_cla {i k : Nat} (h : i + k < 128) : (nI i + nI k).toNatClampNeg = i + k := by
  rw [nI_add]
  exact nI_clamp (by omega)
/-- 1 or 0, as an answer -/
def zs_n (b : Bool) : Int32 := cond b 1 0
/-- the pattern occurs at i -/
def zs_o (t : Nat → Int) (n : Nat) (p : Nat → Int) (m i : Nat) : Bool := decide (zs_G t n p m i 0 = m)
theorem zs_o_t {t : Nat → Int} {n : Nat} {p : Nat → Int} {m i : Nat} (h : i + m ≤ n) (e : ∀ k, k < m → t (i + k) = p k) : zs_o t n p m i = true := by
  refine decide_eq_true (zs_G_of ⟨h, by omega, fun k hk => ?_, fun _ z => absurd z (by omega)⟩)
  rw [Nat.zero_add]
  exact e k hk
theorem zs_o_f {t : Nat → Int} {n : Nat} {p : Nat → Int} {m i : Nat} (hi : i ≤ n) (h : n < i + m ∨ ∃ k, k < m ∧ t (i + k) ≠ p k) : zs_o t n p m i = false := by
  refine decide_eq_false (fun z => ?_)
  have g := zs_gp_G (t := t) (p := p) (m := m) (j := 0) hi (Nat.zero_le m)
  rw [z] at g
  obtain ⟨g1, g2, g3, g4⟩ := g
  rcases h with h | ⟨k, hk, h⟩
  · omega
  · have := g3 k hk
    rw [Nat.zero_add] at this
    exact h this
/-- how many places before i have the property -/
def zs_c (o : Nat → Bool) (i : Nat) : Nat := zs_S (fun j => zs_u (o j)) i
theorem zs_c_t {o : Nat → Bool} {i : Nat} (h : o i = true) : zs_c o (i + 1) = zs_c o i + 1 := by
  show zs_S (fun j => zs_u (o j)) i + zs_u (o i) = zs_S (fun j => zs_u (o j)) i + 1
  rw [h]
  rfl
theorem zs_c_f {o : Nat → Bool} {i : Nat} (h : o i = false) : zs_c o (i + 1) = zs_c o i := by
  show zs_S (fun j => zs_u (o j)) i + zs_u (o i) = zs_S (fun j => zs_u (o j)) i
  rw [h]
  rfl
theorem zs_c_le {o : Nat → Bool} : ∀ i, zs_c o i ≤ i := by
  intro i
  have h := zs_S_le (f := fun j => zs_u (o j)) (g := fun _ => 1) i (fun j _ => zs_u_1 _)
  rw [zs_S_1] at h
  exact h
theorem zs_c_mono {o : Nat → Bool} {i : Nat} : ∀ d, zs_c o i ≤ zs_c o (i + d) := by
  intro d
  induction d with
  | zero => exact Nat.le_refl _
  | succ d ih =>
    have : zs_c o (i + (d + 1)) = zs_c o (i + d) + zs_u (o (i + d)) := rfl
    omega
theorem zs_c_all {o : Nat → Bool} {i : Nat} (h : ∀ j, j < i → o j = true) : zs_c o i = i := by
  have e := zs_S_eq (f := fun j => zs_u (o j)) (g := fun _ => 1) i (fun j hj => by show zs_u (o j) = 1; rw [h j hj]; rfl)
  rw [zs_S_1] at e
  exact e
theorem zs_c_none {o : Nat → Bool} {i : Nat} (h : ∀ j, j < i → o j = false) : zs_c o i = 0 := by
  have e := zs_S_eq (f := fun j => zs_u (o j)) (g := fun _ => 0) i (fun j hj => by show zs_u (o j) = 0; rw [h j hj]; rfl)
  rw [zs_S_0] at e
  exact e
/-- a suffix is below the pattern -/
theorem zs_h_t {t : Nat → Int} {n : Nat} {p : Nat → Int} {m i l : Nat} (g : zs_gp t n p m i 0 l) (h : l < m) (h' : n ≤ i + l ∨ t (i + l) < p l) : zs_h t n p m i 0 = true := by
  refine zs_h_iff.mpr ?_
  rw [zs_G_of g]
  refine ⟨by omega, ?_⟩
  rw [Nat.zero_add]
  exact h'
theorem zs_h_f {t : Nat → Int} {n : Nat} {p : Nat → Int} {m i l : Nat} (g : zs_gp t n p m i 0 l) (h : m ≤ l ∨ (i + l < n ∧ ¬ t (i + l) < p l)) : zs_h t n p m i 0 = false := by
  cases c : zs_h t n p m i 0 with
  | false => rfl
  | true =>
    have z := zs_h_iff.mp c
    rw [zs_G_of g] at z
    obtain ⟨z1, z2⟩ := z
    rw [Nat.zero_add] at z1 z2
    exfalso
    rcases h with h | ⟨h1, h2⟩
    · omega
    · rcases z2 with z2 | z2
      · omega
      · exact h2 z2
theorem zt_alt {j l N : Nat} (h : j + l < N) (hN : N ≤ 128) : nI j + nI l < nI N := by
  rw [nI_add]
  exact nI_lt h (by omega)
theorem zt_anlt {j l N : Nat} (h : N ≤ j + l) (hb : j + l ≤ 1000) : ¬ nI j + nI l < nI N := by
  rw [nI_add]
  exact nI_nlt h (by omega)
theorem zt_ale {j l N : Nat} (h : N ≤ j + l) (hb : j + l ≤ 1000) : nI N ≤ nI j + nI l := by
  rw [nI_add]
  exact nI_le h (by omega)
theorem zt_anle {j l N : Nat} (h : j + l < N) (hN : N ≤ 128) : ¬ nI N ≤ nI j + nI l := by
  rw [nI_add]
  exact nI_ge h (by omega)
theorem zt_ain {a : Nat → Int32} {i k : Nat} (h : i + k < 128) : a (nI i + nI k).toNatClampNeg = a (i + k) := by
  rw [zt_cla h]
theorem zt_an {a : Nat → Int32} {i : Nat} (h : i < 128) : a (nI i).toNatClampNeg = a i := by
  rw [zt_cl h]
end
section
/-! the class's walks: shared lengths, the order, the sort, ranks, shared lengths of neighbours -/
section
variable {C G m b : Int32} {t p s r l : Nat → Int32} {N : Nat}
theorem zx_sbs_lp {post : Int32 → Prop} {i j mo : Nat} (hN : N ≤ 128) (h1 : i + mo ≤ N) (h2 : j + mo ≤ N) (h3 : i + mo = N ∨ j + mo = N) (hp : post (nI (zs_L (zs_t t) N i j))) : ∀ d k, k + d = mo → (∀ q, q < k → zs_t t (i + q) = zs_t t (j + q)) → wX_sharedBySuffixes_22 post (nI i) (nI j) (nI mo) C G (nI N) m b t p s r l (d + 1) (nI k) := by
  intro d
  induction d with
  | zero =>
    intro k hk hq
    have e : zs_L (zs_t t) N i j = mo := zs_L_of ⟨h1, h2, fun q hq' => hq q (by omega), fun a b => by omega⟩
    rw [e] at hp
    exact br_t (nI_le (by omega) (by omega)) hp
  | succ d ih =>
    intro k hk hq
    refine br_f (nI_ge (by omega) (by omega)) ⟨zt_ina (by omega), zt_ina (by omega), ?_⟩
    rw [zt_ain (a := t) (i := i) (k := k) (by omega), zt_ain (a := t) (i := j) (k := k) (by omega)]
    by_cases c : zs_t t (i + k) = zs_t t (j + k)
    · refine br_t (zt_e c) (nm_r (nI_1 k) (ih (k + 1) (by omega) ?_))
      intro q hq'
      by_cases z : q = k
      · rw [z]; exact c
      · exact hq q (by omega)
    · refine br_f (zt_ne c) ?_
      have e : zs_L (zs_t t) N i j = k := zs_L_of ⟨by omega, by omega, hq, fun _ _ => c⟩
      rw [e] at hp
      exact hp
theorem zx_sbs {post : Int32 → Prop} {i j : Nat} (hN : N ≤ 128) (hi : i < N) (hj : j < N) (hp : post (nI (zs_L (zs_t t) N i j))) : wpX_sharedBySuffixes post (C, G, nI N, m, b, t, p, s, r, l) (nI i) (nI j) := by
  by_cases c : i ≤ j
  · refine br_t (nI_le c (by omega)) (nm_r (pk_sub (Nat.le_of_lt hj)) ⟨N - j + 1, ?_⟩)
    exact zx_sbs_lp hN (by omega) (by omega) (Or.inr (by omega)) hp (N - j) 0 (by omega) (fun q hq => absurd hq (Nat.not_lt_zero _))
  · refine br_f (nI_ge (by omega) (by omega)) (nm_r (pk_sub (Nat.le_of_lt hi)) ⟨N - i + 1, ?_⟩)
    exact zx_sbs_lp hN (by omega) (by omega) (Or.inl (by omega)) hp (N - i) 0 (by omega) (fun q hq => absurd hq (Nat.not_lt_zero _))
theorem zx_below {post : Int32 → Prop} {i j : Nat} (hN : N ≤ 128) (hi : i < N) (hj : j < N) (hp : post (zs_n (zs_b (zs_t t) N i j))) : wpX_isSuffixBelow post (C, G, nI N, m, b, t, p, s, r, l) (nI i) (nI j) := by
  unfold wpX_isSuffixBelow
  dsimp only
  refine zx_sbs hN hi hj ?_
  have g := zs_L_gp (t := zs_t t) (Nat.le_of_lt hi) (Nat.le_of_lt hj)
  have gb : zs_b (zs_t t) N i j = true ↔ zs_H (zs_t t) N (zs_t t) N i j (zs_L (zs_t t) N i j) := zs_b_iff
  generalize zs_L (zs_t t) N i j = q at g gb ⊢
  obtain ⟨g1, g2, _, _⟩ := g
  by_cases c1 : j + q < N
  · refine br_t (zt_alt c1 hN) ?_
    by_cases c2 : i + q < N
    · refine br_t (zt_alt c2 hN) ⟨zt_ina (by omega), zt_ina (by omega), ?_⟩
      rw [zt_ain (a := t) (i := i) (k := q) (by omega), zt_ain (a := t) (i := j) (k := q) (by omega)]
      by_cases c3 : zs_t t (i + q) < zs_t t (j + q)
      · have e : zs_b (zs_t t) N i j = true := gb.mpr ⟨c1, Or.inr c3⟩
        rw [e] at hp
        exact br_f (zt_nle (by omega)) hp
      · have e : zs_b (zs_t t) N i j = false := by
          cases z : zs_b (zs_t t) N i j with
          | false => rfl
          | true =>
            exfalso
            rcases (gb.mp z).2 with z1 | z1
            · omega
            · exact c3 z1
        rw [e] at hp
        exact br_t (zt_le (by omega)) hp
    · have e : zs_b (zs_t t) N i j = true := gb.mpr ⟨c1, Or.inl (by omega)⟩
      rw [e] at hp
      exact br_f (zt_anlt (by omega) (by omega)) hp
  · have e : zs_b (zs_t t) N i j = false := by
      cases z : zs_b (zs_t t) N i j with
      | false => rfl
      | true => exact absurd (gb.mp z).1 c1
    rw [e] at hp
    exact br_f (zt_anlt (by omega) (by omega)) hp
theorem zx_fin {s' : Nat → Int32} {g : Nat → Nat} {lo k : Nat} (hk : k ≤ N - (lo + 1)) (h1 : ∀ q, q < k → s' q = nI (g q)) (h2 : ∀ q, k ≤ q → q < N - (lo + 1) → s' (q + 1) = nI (g q) ∧ zs_B (zs_t t) N lo (g q)) : ∀ q, q < N - lo → upd s' k (nI lo) q = nI (zs_ins g k lo q) := by
  intro q hq
  by_cases c1 : q < k
  · rw [pk_un (show q ≠ k by omega), h1 q c1]
    exact congrArg nI (if_pos c1).symm
  · by_cases c2 : q = k
    · rw [c2, pk_us]
      exact congrArg nI ((if_neg (Nat.lt_irrefl k)).trans (if_pos rfl)).symm
    · rw [pk_un c2]
      have e := (h2 (q - 1) (by omega) (by omega)).1
      rw [show q - 1 + 1 = q by omega] at e
      rw [e]
      exact congrArg nI ((if_neg c1).trans (if_neg c2)).symm
theorem zx_ins_lp {post : SX → Prop} {lo : Nat} {g : Nat → Nat} (hN : N ≤ 128) (hlo : lo + 1 ≤ N) (hI : zs_I (zs_t t) N (lo + 1) g) (hp : ∀ (s' : Nat → Int32) (g' : Nat → Nat), zs_I (zs_t t) N lo g' → (∀ q, q < N - lo → s' q = nI (g' q)) → post (C, G, nI N, m, b, t, p, s', r, l)) : ∀ (k : Nat) (s' : Nat → Int32), k ≤ N - (lo + 1) → (∀ q, q < k → s' q = nI (g q)) → (∀ q, k ≤ q → q < N - (lo + 1) → s' (q + 1) = nI (g q) ∧ zs_B (zs_t t) N lo (g q)) → wX_insertSuffix_2 post (nI lo) C G (nI N) m b (k + 1) (nI k) t p s' r l := by
  intro k
  induction k with
  | zero =>
    intro s' hk h1 h2
    refine br_t (by decide) ⟨zt_in (by omega), nm_e ?_⟩
    rw [zt_cl (i := 0) (by omega)]
    exact hp _ (zs_ins g 0 lo) (zs_I_ins hlo hI hk (fun q hq => absurd hq (Nat.succ_ne_zero q)) (fun q hq hq' => (h2 q hq hq').2)) (zx_fin hk h1 h2)
  | succ k ih =>
    intro s' hk h1 h2
    refine br_f (nI_nle (by omega) (by omega)) ?_
    rw [nI_pred k, zt_an (a := s') (i := k) (by omega), h1 k (by omega), zt_cl (i := k + 1) (by omega)]
    obtain ⟨a1, a2, a3⟩ := hI k (by omega)
    refine ⟨zt_in (by omega), zx_below hN (by omega) a2 ?_⟩
    cases hb : zs_b (zs_t t) N lo (g k) with
    | false =>
      refine br_t rfl ⟨zt_in (by omega), nm_e ?_⟩
      refine hp _ (zs_ins g (k + 1) lo) (zs_I_ins hlo hI hk (fun q hq z => ?_) (fun q hq hq' => (h2 q hq hq').2)) (zx_fin hk h1 h2)
      have hqk : q = k := by omega
      rw [hqk] at z
      rw [zs_b_iff.mpr z] at hb
      exact Bool.noConfusion hb
    | true =>
      refine br_f (by decide) ⟨zt_in (by omega), zt_in (by omega), nm_e (nm_r (pk_m1 k) (ih _ (by omega) ?_ ?_))⟩
      · intro q hq
        rw [pk_un (show q ≠ k + 1 by omega)]
        exact h1 q (by omega)
      · intro q hq hq'
        by_cases c : q = k
        · rw [c, pk_us]
          exact ⟨rfl, zs_b_iff.mp hb⟩
        · rw [pk_un (show q + 1 ≠ k + 1 by omega)]
          exact h2 q (by omega) hq'
theorem zx_ins {post : SX → Prop} {lo k : Nat} {g : Nat → Nat} (hN : N ≤ 128) (hlo : lo + 1 ≤ N) (hk : k = N - (lo + 1)) (hI : zs_I (zs_t t) N (lo + 1) g) (hs : ∀ q, q < N - (lo + 1) → s q = nI (g q)) (hp : ∀ (s' : Nat → Int32) (g' : Nat → Nat), zs_I (zs_t t) N lo g' → (∀ q, q < N - lo → s' q = nI (g' q)) → post (C, G, nI N, m, b, t, p, s', r, l)) : wpX_insertSuffix post (C, G, nI N, m, b, t, p, s, r, l) (nI lo) (nI k) :=
  ⟨k + 1, zx_ins_lp hN hlo hI hp k s (by omega) (fun q hq => hs q (by omega)) (fun q hq hq' => absurd hq' (by omega))⟩
theorem zx_sort_lp {post : SX → Prop} (hN : N ≤ 128) (hp : ∀ (s' : Nat → Int32) (g' : Nat → Nat), zs_I (zs_t t) N 0 g' → (∀ q, q < N → s' q = nI (g' q)) → post (C, G, nI N, m, b, t, p, s', r, l)) : ∀ d k, k + d = N → ∀ (s' : Nat → Int32) (g : Nat → Nat), zs_I (zs_t t) N d g → (∀ q, q < N - d → s' q = nI (g q)) → wX_sortSuffixes_2 post (d + 1) (nI k) C G (nI N) m b t p s' r l := by
  intro d
  induction d with
  | zero =>
    intro k hk s' g hI hs
    exact br_t (nI_le (by omega) (by omega)) (hp s' g hI (fun q hq => hs q (by omega)))
  | succ d ih =>
    intro k hk s' g hI hs
    have e : nI N - 1 - nI k = nI d := by
      have e1 : nI N - 1 = nI (N - 1) := pk_sub (a := N) (b := 1) (by omega)
      rw [e1, pk_sub (a := N - 1) (b := k) (by omega)]
      exact congrArg nI (by omega)
    refine br_f (nI_ge (by omega) (by omega)) (nm_r e (zx_ins hN (by omega) (by omega) hI hs (fun s'' g' hI' hs' => ?_)))
    exact nm_r (nI_1 k) (ih (k + 1) (by omega) s'' g' hI' hs')
theorem zx_sort {post : SX → Prop} (hN : N ≤ 128) (hp : ∀ (s' : Nat → Int32) (g' : Nat → Nat), zs_O (zs_t t) N g' → (∀ q, q < N → s' q = nI (g' q)) → post (C, G, nI N, m, b, t, p, s', r, l)) : wpX_sortSuffixes post (C, G, nI N, m, b, t, p, s, r, l) :=
  ⟨N + 1, zx_sort_lp hN (fun s' g' hI hs => hp s' g' (zs_I_O hI) hs) N 0 (by omega) s (fun _ => 0) (fun q hq => absurd hq (by omega)) (fun q hq => absurd hq (by omega))⟩
theorem zx_rk_lp {post : SX → Prop} {g : Nat → Nat} (hN : N ≤ 128) (hO : zs_O (zs_t t) N g) (hs : ∀ q, q < N → s q = nI (g q)) (hp : ∀ r' : Nat → Int32, (∀ q, q < N → r' (g q) = nI q) → post (C, G, nI N, m, b, t, p, s, r', l)) : ∀ d k, k + d = N → ∀ r' : Nat → Int32, (∀ q, q < k → r' (g q) = nI q) → wX_fillRanks_2 post C G (nI N) m b (d + 1) (nI k) t p s r' l := by
  intro d
  induction d with
  | zero =>
    intro k hk r' hr
    exact br_t (nI_le (by omega) (by omega)) (hp r' (fun q hq => hr q (by omega)))
  | succ d ih =>
    intro k hk r' hr
    obtain ⟨a1, a2⟩ := hO k (by omega)
    refine br_f (nI_ge (by omega) (by omega)) ?_
    rw [zt_an (a := s) (i := k) (by omega), hs k (by omega), zt_cl (i := g k) (by omega)]
    refine ⟨zt_in (by omega), zt_in (by omega), nm_e (nm_r (nI_1 k) (ih (k + 1) (by omega) _ (fun q hq => ?_)))⟩
    by_cases c : q = k
    · rw [c, pk_us]
    · have hne : g q ≠ g k := by
        intro z
        have a3 := (hO q (by omega)).2
        rw [z] at a3
        omega
      rw [pk_un hne]
      exact hr q (by omega)
theorem zx_rk {post : SX → Prop} {g : Nat → Nat} (hN : N ≤ 128) (hO : zs_O (zs_t t) N g) (hs : ∀ q, q < N → s q = nI (g q)) (hp : ∀ r' : Nat → Int32, (∀ q, q < N → r' (g q) = nI q) → post (C, G, nI N, m, b, t, p, s, r', l)) : wpX_fillRanks post (C, G, nI N, m, b, t, p, s, r, l) :=
  ⟨N + 1, zx_rk_lp hN hO hs hp N 0 (by omega) r (fun q hq => absurd hq (Nat.not_lt_zero _))⟩
theorem zx_lc_lp {post : SX → Prop} {g : Nat → Nat} (hN : N ≤ 128) (hO : zs_O (zs_t t) N g) (hs : ∀ q, q < N → s q = nI (g q)) (hp : ∀ l' : Nat → Int32, (∀ q, q < N → l' q = nI (zs_l (zs_t t) N g q)) → post (C, G, nI N, m, b, t, p, s, r, l')) : ∀ d k, k + 1 + d = N → ∀ l' : Nat → Int32, (∀ q, q < k + 1 → l' q = nI (zs_l (zs_t t) N g q)) → wX_fillLcps_9 post C G (nI N) m b (d + 1) (nI (k + 1)) t p s r l' := by
  intro d
  induction d with
  | zero =>
    intro k hk l' hl
    exact br_t (nI_le (by omega) (by omega)) (hp l' (fun q hq => hl q (by omega)))
  | succ d ih =>
    intro k hk l' hl
    have a1 := (hO k (by omega)).1
    have a2 := (hO (k + 1) (by omega)).1
    refine br_f (nI_ge (by omega) (by omega)) ?_
    rw [nI_pred k, zt_an (a := s) (i := k) (by omega), zt_an (a := s) (i := k + 1) (by omega), hs k (by omega), hs (k + 1) (by omega), zt_cl (i := k + 1) (by omega)]
    refine ⟨zt_in (by omega), zt_in (by omega), zx_sbs hN a1 a2 ⟨zt_in (by omega), nm_e (nm_r (nI_1 (k + 1)) (ih (k + 1) (by omega) _ (fun q hq => ?_)))⟩⟩
    by_cases c : q = k + 1
    · rw [c, pk_us]
      exact congrArg nI (if_neg (Nat.succ_ne_zero k)).symm
    · rw [pk_un c]
      exact hl q (by omega)
theorem zx_lc {post : SX → Prop} {g : Nat → Nat} (h0 : 0 < N) (hN : N ≤ 128) (hO : zs_O (zs_t t) N g) (hs : ∀ q, q < N → s q = nI (g q)) (hp : ∀ l' : Nat → Int32, (∀ q, q < N → l' q = nI (zs_l (zs_t t) N g q)) → post (C, G, nI N, m, b, t, p, s, r, l')) : wpX_fillLcps post (C, G, nI N, m, b, t, p, s, r, l) := by
  refine nm_e ⟨N - 1 + 1, ?_⟩
  refine zx_lc_lp hN hO hs hp (N - 1) 0 (by omega) _ (fun q hq => ?_)
  have c : q = 0 := by omega
  rw [c, pk_us]
  rfl
theorem zx_build {post : Int32 → SX → Prop} (h0 : 0 < N) (hN : N ≤ 128) (hp : ∀ (s' r' l' : Nat → Int32) (g : Nat → Nat), zs_O (zs_t t) N g → (∀ q, q < N → s' q = nI (g q)) → (∀ q, q < N → r' (g q) = nI q) → (∀ q, q < N → l' q = nI (zs_l (zs_t t) N g q)) → post 1 (C, G, nI N, m, 1, t, p, s', r', l')) : wpX_build post (C, G, nI N, m, b, t, p, s, r, l) := by
  unfold wpX_build
  dsimp only
  refine br_f (nI_ne0 h0 (by omega)) ?_
  refine zx_sort hN (fun s' g hO hs => ?_)
  refine zx_rk hN hO hs (fun r' hr => ?_)
  refine zx_lc h0 hN hO hs (fun l' hl => ?_)
  exact hp s' r' l' g hO hs hr hl
end
end
section
/-! the class's walks: the pattern, the counts, the sums -/
def zs_q (t : Nat → Int) (n : Nat) (p : Nat → Int) (m i : Nat) : Bool := zs_h t n p m i 0
/-- where the k-th place with the property stands, d places left from i on -/
def zs_w (o : Nat → Bool) (k : Nat) : Nat → Nat → Int32
  | 0 => fun _ => -1
  | d + 1 => fun i => if o i = true ∧ zs_c o i = k then nI i else zs_w o k d (i + 1)
theorem zs_w_none {o : Nat → Bool} {k : Nat} : ∀ d i, zs_c o (i + d) ≤ k → zs_w o k d i = -1 := by
  intro d
  induction d with
  | zero => intro i _; rfl
  | succ d ih =>
    intro i h
    have e : zs_w o k (d + 1) i = if o i = true ∧ zs_c o i = k then nI i else zs_w o k d (i + 1) := rfl
    have hn : ¬ (o i = true ∧ zs_c o i = k) := by
      intro z
      have h1 := zs_c_t z.1
      have h2 := zs_c_mono (o := o) (i := i + 1) d
      rw [show i + 1 + d = i + (d + 1) by omega] at h2
      omega
    rw [e, if_neg hn]
    exact ih (i + 1) (by rw [show i + 1 + d = i + (d + 1) by omega]; exact h)
theorem zs_l_le {t : Nat → Int} {n : Nat} {g : Nat → Nat} (h : zs_O t n g) {r : Nat} (hr : r < n) : zs_l t n g r ≤ n - g r := by
  rw [zs_M_r h hr]
  exact zs_M_le (fun j hj _ => (zs_L_le (Nat.le_of_lt hj) (Nat.le_of_lt (h r hr).1)).2)
section
variable {C G b : Int32} {t p s r l : Nat → Int32} {N M : Nat}
theorem zx_swp_lp {post : Int32 → Prop} {i mo : Nat} (hN : N ≤ 128) (hM : M ≤ 128) (h1 : i + mo ≤ N) (h2 : mo ≤ M) (h3 : i + mo = N ∨ mo = M) (hp : post (nI (zs_G (zs_t t) N (zs_t p) M i 0))) : ∀ d k, k + d = mo → (∀ q, q < k → zs_t t (i + q) = zs_t p q) → wX_sharedWithPattern_27 post (nI i) (nI mo) C G (nI N) (nI M) b t p s r l (d + 1) (nI k) := by
  intro d
  induction d with
  | zero =>
    intro k hk hq
    have e : zs_G (zs_t t) N (zs_t p) M i 0 = mo := zs_G_of ⟨h1, by omega, fun q hq' => by rw [Nat.zero_add]; exact hq q (by omega), fun a b => by omega⟩
    rw [e] at hp
    exact br_t (nI_le (by omega) (by omega)) hp
  | succ d ih =>
    intro k hk hq
    refine br_f (nI_ge (by omega) (by omega)) ⟨zt_ina (by omega), zt_in (by omega), ?_⟩
    rw [zt_ain (a := t) (i := i) (k := k) (by omega), zt_an (a := p) (i := k) (by omega)]
    by_cases c : zs_t t (i + k) = zs_t p k
    · refine br_t (zt_e c) (nm_r (nI_1 k) (ih (k + 1) (by omega) ?_))
      intro q hq'
      by_cases z : q = k
      · rw [z]; exact c
      · exact hq q (by omega)
    · refine br_f (zt_ne c) ?_
      have e : zs_G (zs_t t) N (zs_t p) M i 0 = k := zs_G_of ⟨by omega, by omega, fun q hq' => by rw [Nat.zero_add]; exact hq q hq', fun _ _ => by rw [Nat.zero_add]; exact c⟩
      rw [e] at hp
      exact hp
theorem zx_swp {post : Int32 → Prop} {i : Nat} (hN : N ≤ 128) (hM : M ≤ 128) (hi : i < N) (hp : post (nI (zs_G (zs_t t) N (zs_t p) M i 0))) : wpX_sharedWithPattern post (C, G, nI N, nI M, b, t, p, s, r, l) (nI i) := by
  refine nm_r (pk_sub (Nat.le_of_lt hi)) ?_
  by_cases c : M ≤ N - i
  · refine br_t (nI_le c (by omega)) ⟨M + 1, ?_⟩
    exact zx_swp_lp hN hM (by omega) (by omega) (Or.inr rfl) hp M 0 (by omega) (fun q hq => absurd hq (Nat.not_lt_zero _))
  · refine br_f (nI_ge (by omega) (by omega)) ⟨N - i + 1, ?_⟩
    exact zx_swp_lp hN hM (by omega) (by omega) (Or.inl (by omega)) hp (N - i) 0 (by omega) (fun q hq => absurd hq (Nat.not_lt_zero _))
theorem zx_occ {post : Int32 → Prop} {i : Nat} (hN : N ≤ 128) (hM : M ≤ 128) (hi : i < N) (hp : post (zs_n (zs_o (zs_t t) N (zs_t p) M i))) : wpX_patternOccursAt post (C, G, nI N, nI M, b, t, p, s, r, l) (nI i) := by
  unfold wpX_patternOccursAt
  dsimp only
  refine zx_swp hN hM hi ?_
  have g := (zs_gp_G (t := zs_t t) (n := N) (p := zs_t p) (m := M) (i := i) (j := 0) (Nat.le_of_lt hi) (Nat.zero_le M)).2.1
  by_cases c : zs_G (zs_t t) N (zs_t p) M i 0 = M
  · have e : zs_o (zs_t t) N (zs_t p) M i = true := decide_eq_true c
    rw [e] at hp
    exact br_t (congrArg nI c) hp
  · have e : zs_o (zs_t t) N (zs_t p) M i = false := decide_eq_false c
    rw [e] at hp
    exact br_f (fun z => c ((nI_eq (by omega) (by omega)).mp z)) hp
theorem zx_bp {post : Int32 → Prop} {i : Nat} (hN : N ≤ 128) (hM : M ≤ 128) (hi : i < N) (hp : post (zs_n (zs_q (zs_t t) N (zs_t p) M i))) : wpX_isSuffixBelowPattern post (C, G, nI N, nI M, b, t, p, s, r, l) (nI i) := by
  unfold wpX_isSuffixBelowPattern
  dsimp only
  refine zx_swp hN hM hi ?_
  have g := zs_gp_G (t := zs_t t) (n := N) (p := zs_t p) (m := M) (i := i) (j := 0) (Nat.le_of_lt hi) (Nat.zero_le M)
  generalize zs_G (zs_t t) N (zs_t p) M i 0 = q at g ⊢
  have g1 := g.1
  have g2 := g.2.1
  by_cases c1 : q < M
  · refine br_t (nI_lt c1 (by omega)) ?_
    by_cases c2 : i + q < N
    · refine br_t (zt_alt c2 hN) ⟨zt_ina (by omega), zt_in (by omega), ?_⟩
      rw [zt_ain (a := t) (i := i) (k := q) (by omega), zt_an (a := p) (i := q) (by omega)]
      by_cases c3 : zs_t t (i + q) < zs_t p q
      · have e : zs_q (zs_t t) N (zs_t p) M i = true := zs_h_t g c1 (Or.inr c3)
        rw [e] at hp
        exact br_f (zt_nle (by omega)) hp
      · have e : zs_q (zs_t t) N (zs_t p) M i = false := zs_h_f g (Or.inr ⟨c2, c3⟩)
        rw [e] at hp
        exact br_t (zt_le (by omega)) hp
    · have e : zs_q (zs_t t) N (zs_t p) M i = true := zs_h_t g c1 (Or.inl (by omega))
      rw [e] at hp
      exact br_f (zt_anlt (by omega) (by omega)) hp
  · have e : zs_q (zs_t t) N (zs_t p) M i = false := zs_h_f g (Or.inl (by omega))
    rw [e] at hp
    exact br_f (nI_nlt (by omega) (by omega)) hp
theorem zx_count_lp {post : Int32 → Prop} (hN : N ≤ 128) (hM : M ≤ 128) (hp : post (nI (zs_c (zs_o (zs_t t) N (zs_t p) M) N))) : ∀ d k, k + d = N → wX_count_13 post C G (nI N) (nI M) b t p s r l (d + 1) (nI (zs_c (zs_o (zs_t t) N (zs_t p) M) k)) (nI k) := by
  intro d
  induction d with
  | zero =>
    intro k hk
    have e : k = N := by omega
    rw [e]
    exact br_t (nI_le (by omega) (by omega)) hp
  | succ d ih =>
    intro k hk
    refine br_f (nI_ge (by omega) (by omega)) (zx_occ hN hM (by omega) ?_)
    have h := ih (k + 1) (by omega)
    cases ho : zs_o (zs_t t) N (zs_t p) M k with
    | false =>
      rw [zs_c_f ho] at h
      exact br_t rfl (nm_r (nI_1 k) h)
    | true =>
      rw [zs_c_t ho] at h
      exact br_f (by decide) (nm_r (nI_1 _) (nm_r (nI_1 k) h))
theorem zx_count {post : Int32 → Prop} (hN : N ≤ 128) (hM : M ≤ 128) (hb : ¬ b = 0) (hp : post (nI (zs_c (zs_o (zs_t t) N (zs_t p) M) N))) : wpX_count post (C, G, nI N, nI M, b, t, p, s, r, l) :=
  br_f hb ⟨N + 1, zx_count_lp hN hM hp N 0 (by omega)⟩
theorem zx_range_lp {post : Int32 → Prop} (hN : N ≤ 128) (hM : M ≤ 128) (hp : post (nI (zs_c (zs_q (zs_t t) N (zs_t p) M) N))) : ∀ d k, k + d = N → wX_rangeStart_13 post C G (nI N) (nI M) b t p s r l (d + 1) (nI (zs_c (zs_q (zs_t t) N (zs_t p) M) k)) (nI k) := by
  intro d
  induction d with
  | zero =>
    intro k hk
    have e : k = N := by omega
    rw [e]
    exact br_t (nI_le (by omega) (by omega)) hp
  | succ d ih =>
    intro k hk
    refine br_f (nI_ge (by omega) (by omega)) (zx_bp hN hM (by omega) ?_)
    have h := ih (k + 1) (by omega)
    cases ho : zs_q (zs_t t) N (zs_t p) M k with
    | false =>
      rw [zs_c_f ho] at h
      exact br_t rfl (nm_r (nI_1 k) h)
    | true =>
      rw [zs_c_t ho] at h
      exact br_f (by decide) (nm_r (nI_1 _) (nm_r (nI_1 k) h))
theorem zx_range {post : Int32 → Prop} (hN : N ≤ 128) (hM : M ≤ 128) (hb : ¬ b = 0) (hp : post (nI (zs_c (zs_q (zs_t t) N (zs_t p) M) N))) : wpX_rangeStart post (C, G, nI N, nI M, b, t, p, s, r, l) :=
  br_f hb ⟨N + 1, zx_range_lp hN hM hp N 0 (by omega)⟩
theorem zx_locate_lp {post : Int32 → Prop} {k : Nat} (hN : N ≤ 128) (hM : M ≤ 128) (hk : k < 2 ^ 31) : ∀ d i, i + d = N → post (zs_w (zs_o (zs_t t) N (zs_t p) M) k d i) → wX_locate_17 post (nI k) C G (nI N) (nI M) b t p s r l (d + 1) (nI (zs_c (zs_o (zs_t t) N (zs_t p) M) i)) (nI i) := by
  intro d
  induction d with
  | zero =>
    intro i hi hp
    exact br_t (nI_le (by omega) (by omega)) hp
  | succ d ih =>
    intro i hi hp
    have hc := zs_c_le (o := zs_o (zs_t t) N (zs_t p) M) i
    have e : zs_w (zs_o (zs_t t) N (zs_t p) M) k (d + 1) i = if zs_o (zs_t t) N (zs_t p) M i = true ∧ zs_c (zs_o (zs_t t) N (zs_t p) M) i = k then nI i else zs_w (zs_o (zs_t t) N (zs_t p) M) k d (i + 1) := rfl
    rw [e] at hp
    refine br_f (nI_ge (by omega) (by omega)) (zx_occ hN hM (by omega) ?_)
    cases ho : zs_o (zs_t t) N (zs_t p) M i with
    | false =>
      rw [if_neg (fun z => by rw [ho] at z; exact Bool.noConfusion z.1)] at hp
      have h := ih (i + 1) (by omega) hp
      rw [zs_c_f ho] at h
      exact br_t rfl (nm_r (nI_1 i) h)
    | true =>
      refine br_f (by decide) ?_
      by_cases c : zs_c (zs_o (zs_t t) N (zs_t p) M) i = k
      · rw [if_pos ⟨ho, c⟩] at hp
        exact br_t (congrArg nI c) hp
      · rw [if_neg (fun z => c z.2)] at hp
        have h := ih (i + 1) (by omega) hp
        rw [zs_c_t ho] at h
        exact br_f (fun z => c ((nI_eq (by omega) hk).mp z)) (nm_r (nI_1 _) (nm_r (nI_1 i) h))
theorem zx_dist_lp {post : Int32 → Prop} {g : Nat → Nat} (hN : N ≤ 128) (hO : zs_O (zs_t t) N g) (hs : ∀ q, q < N → s q = nI (g q)) (hl : ∀ q, q < N → l q = nI (zs_l (zs_t t) N g q)) (hp : post (nI (zs_S (fun q => N - g q - zs_l (zs_t t) N g q) N))) : ∀ d k, k + d = N → wX_distinctSubstrings_13 post C G (nI N) (nI M) b t p s r l (d + 1) (nI (zs_S (fun q => N - g q - zs_l (zs_t t) N g q) k)) (nI k) := by
  intro d
  induction d with
  | zero =>
    intro k hk
    have e : k = N := by omega
    rw [e]
    exact br_t (nI_le (by omega) (by omega)) hp
  | succ d ih =>
    intro k hk
    have a1 := (hO k (by omega)).1
    have a2 := zs_l_le hO (r := k) (by omega)
    refine br_f (nI_ge (by omega) (by omega)) ?_
    rw [zt_an (a := s) (i := k) (by omega), zt_an (a := l) (i := k) (by omega), hs k (by omega), hl k (by omega), pk_sub (Nat.le_of_lt a1), pk_sub a2, nI_add]
    exact ⟨zt_in (by omega), zt_in (by omega), nm_e (nm_r (nI_1 k) (ih (k + 1) (by omega)))⟩
theorem zx_dist {post : Int32 → Prop} {g : Nat → Nat} (hN : N ≤ 128) (hb : ¬ b = 0) (hO : zs_O (zs_t t) N g) (hs : ∀ q, q < N → s q = nI (g q)) (hl : ∀ q, q < N → l q = nI (zs_l (zs_t t) N g q)) (hp : post (nI (zs_S (fun q => N - g q - zs_l (zs_t t) N g q) N))) : wpX_distinctSubstrings post (C, G, nI N, nI M, b, t, p, s, r, l) :=
  br_f hb ⟨N + 1, zx_dist_lp hN hO hs hl hp N 0 (by omega)⟩
theorem zx_long_lp {post : Int32 → Prop} {g : Nat → Nat} (hN : N ≤ 128) (hO : zs_O (zs_t t) N g) (hl : ∀ q, q < N → l q = nI (zs_l (zs_t t) N g q)) (hp : post (nI (zs_X (fun _ => true) (zs_l (zs_t t) N g) N))) : ∀ d k, k + d = N → wX_longestRepeat_13 post C G (nI N) (nI M) b t p s r l (d + 1) (nI (zs_X (fun _ => true) (zs_l (zs_t t) N g) k)) (nI k) := by
  intro d
  induction d with
  | zero =>
    intro k hk
    have e : k = N := by omega
    rw [e]
    exact br_t (nI_le (by omega) (by omega)) hp
  | succ d ih =>
    intro k hk
    have a2 := zs_l_le hO (r := k) (by omega)
    have a3 : zs_X (fun _ => true) (zs_l (zs_t t) N g) k ≤ N := zs_X_le (fun j hj _ => by have := zs_l_le hO (r := j) (by omega); omega)
    have h := ih (k + 1) (by omega)
    refine br_f (nI_ge (by omega) (by omega)) ?_
    rw [zt_an (a := l) (i := k) (by omega), hl k (by omega)]
    refine ⟨zt_in (by omega), ?_⟩
    rw [zs_X_s] at h
    by_cases c : zs_X (fun _ => true) (zs_l (zs_t t) N g) k < zs_l (zs_t t) N g k
    · rw [if_pos ⟨rfl, c⟩] at h
      exact br_f (nI_ge c (by omega)) ⟨zt_in (by omega), nm_e (nm_r (nI_1 k) h)⟩
    · rw [if_neg (fun z => c z.2)] at h
      exact br_t (nI_le (by omega) (by omega)) (nm_r (nI_1 k) h)
theorem zx_long {post : Int32 → Prop} {g : Nat → Nat} (hN : N ≤ 128) (hb : ¬ b = 0) (hO : zs_O (zs_t t) N g) (hl : ∀ q, q < N → l q = nI (zs_l (zs_t t) N g q)) (hp : post (nI (zs_X (fun _ => true) (zs_l (zs_t t) N g) N))) : wpX_longestRepeat post (C, G, nI N, nI M, b, t, p, s, r, l) :=
  br_f hb ⟨N + 1, zx_long_lp hN hO hl hp N 0 (by omega)⟩
end
end
section
/-! the reference's walks -/
section
variable {C G m b : Int32} {t p s r : Nat → Int32} {N : Nat}
theorem zy_cmp_56 {post : Int32 → Prop} {J : Int32 → Prop} {i j k : Nat} {z : Int32} (hN : N ≤ 128) (hi : i + k < N) (hj : j + k < N) (he : zs_t t (i + k) = zs_t t (j + k) → J (nI (k + 1))) (hl : zs_t t (i + k) < zs_t t (j + k) → post (-1)) (hg : zs_t t (j + k) < zs_t t (i + k) → post 1) : wY_cmpSuf_56 post J (nI i) (nI j) (nI k) 0 0 C G (nI N) m b t p s r := by
  refine br_t rfl (br_t rfl ⟨zt_ina (by omega), zt_ina (by omega), ?_⟩)
  rw [zt_ain (a := t) (i := i) (k := k) (by omega), zt_ain (a := t) (i := j) (k := k) (by omega)]
  by_cases c : zs_t t (i + k) = zs_t t (j + k)
  · exact br_t (zt_e c) (nm_r (nI_1 k) (he c))
  · refine br_f (zt_ne c) ⟨zt_ina (by omega), zt_ina (by omega), ?_⟩
    by_cases d : zs_t t (i + k) < zs_t t (j + k)
    · exact br_f (zt_nle (by omega)) (hl d)
    · exact br_t (zt_le (by omega)) (hg (by omega))
theorem zy_cmp_lp {post : Int32 → Prop} {i j : Nat} (hN : N ≤ 128) (hi : i < N) (hj : j < N) (hp : ∀ x : Int32, (x < 0 ↔ zs_B (zs_t t) N i j) → post x) : ∀ d k, k + d = N → i + k ≤ N → j + k ≤ N → (∀ q, q < k → zs_t t (i + q) = zs_t t (j + q)) → wY_cmpSuf_2 post (nI i) (nI j) C G (nI N) m b t p s r (d + 1) (nI k) := by
  intro d
  induction d with
  | zero =>
    intro k hk hik hjk hq
    refine br_t (nI_le (by omega) (by omega)) (hp 0 ⟨fun z => absurd z (by decide), fun z => ?_⟩)
    have e : i = j := by omega
    rw [e] at z
    exact absurd z (zs_B_ir (by omega))
  | succ d ih =>
    intro k hk hik hjk hq
    refine br_f (nI_ge (by omega) (by omega)) ?_
    by_cases c1 : i + k < N
    · refine br_t (zt_alt c1 hN) ?_
      by_cases c2 : j + k < N
      · refine br_t (zt_alt c2 hN) (br_t rfl ?_)
        refine zy_cmp_56 (z := 0) hN c1 c2 (fun c => ih (k + 1) (by omega) (by omega) (by omega) ?_) (fun c => hp (-1) ⟨fun _ => ?_, fun _ => by decide⟩) (fun c => hp 1 ⟨fun z => absurd z (by decide), fun z => ?_⟩)
        · intro q hq'
          by_cases z : q = k
          · rw [z]; exact c
          · exact hq q (by omega)
        · have e : zs_L (zs_t t) N i j = k := zs_L_of ⟨by omega, by omega, hq, fun _ _ => by omega⟩
          unfold zs_B zs_H
          rw [e]
          exact ⟨c2, Or.inr c⟩
        · have e : zs_L (zs_t t) N i j = k := zs_L_of ⟨by omega, by omega, hq, fun _ _ => by omega⟩
          unfold zs_B zs_H at z
          rw [e] at z
          omega
      · refine br_f (zt_anlt (by omega) (by omega)) (br_t rfl ?_)
        refine br_t rfl (br_f (by decide) (hp 1 ⟨fun z => absurd z (by decide), fun z => ?_⟩))
        have e : zs_L (zs_t t) N i j = k := zs_L_of ⟨by omega, by omega, hq, fun _ h => absurd h c2⟩
        unfold zs_B zs_H at z
        rw [e] at z
        omega
    · refine br_f (zt_anlt (by omega) (by omega)) ?_
      have e : zs_L (zs_t t) N i j = k := zs_L_of ⟨by omega, by omega, hq, fun h => absurd h c1⟩
      by_cases c2 : j + k < N
      · refine br_t (zt_alt c2 hN) (br_f (by decide) (br_t rfl (br_f (by decide) (hp (-1) ⟨fun _ => ?_, fun _ => by decide⟩))))
        unfold zs_B zs_H
        rw [e]
        exact ⟨c2, Or.inl (by omega)⟩
      · refine br_f (zt_anlt (by omega) (by omega)) (br_f (by decide) (br_f (by decide) (hp 0 ⟨fun z => absurd z (by decide), fun z => ?_⟩)))
        unfold zs_B zs_H at z
        rw [e] at z
        omega
theorem zy_cmp {post : Int32 → Prop} {i j : Nat} (hN : N ≤ 128) (hi : i < N) (hj : j < N) (hp : ∀ x : Int32, (x < 0 ↔ zs_B (zs_t t) N i j) → post x) : wpY_cmpSuf post (C, G, nI N, m, b, t, p, s, r) (nI i) (nI j) :=
  ⟨N + 1, zy_cmp_lp hN hi hj hp N 0 (by omega) (by omega) (by omega) (fun q hq => absurd hq (Nat.not_lt_zero _))⟩
theorem zy_lcp_lp {post : Int32 → Prop} {i j : Nat} (hN : N ≤ 128) (hp : post (nI (zs_L (zs_t t) N i j))) : ∀ d k, k + d = N → i + k ≤ N → j + k ≤ N → (∀ q, q < k → zs_t t (i + q) = zs_t t (j + q)) → wY_lcpSuf_5 post (nI i) (nI j) C G (nI N) m b t p s r (d + 1) (nI k) (nI k) := by
  intro d
  induction d with
  | zero =>
    intro k hk hik hjk hq
    have e : zs_L (zs_t t) N i j = k := zs_L_of ⟨hik, hjk, hq, fun a b => by omega⟩
    rw [e] at hp
    exact br_t (nI_le (by omega) (by omega)) hp
  | succ d ih =>
    intro k hk hik hjk hq
    refine br_f (nI_ge (by omega) (by omega)) ?_
    by_cases c1 : i + k < N
    · refine br_f (zt_anle c1 hN) ?_
      by_cases c2 : j + k < N
      · refine br_t (zt_alt c2 hN) ⟨zt_ina (by omega), zt_ina (by omega), ?_⟩
        rw [zt_ain (a := t) (i := i) (k := k) (by omega), zt_ain (a := t) (i := j) (k := k) (by omega)]
        by_cases c : zs_t t (i + k) = zs_t t (j + k)
        · refine br_t (zt_e c) (nm_r (nI_1 k) (nm_r (nI_1 k) (ih (k + 1) (by omega) (by omega) (by omega) ?_)))
          intro q hq'
          by_cases z : q = k
          · rw [z]; exact c
          · exact hq q (by omega)
        · have e : zs_L (zs_t t) N i j = k := zs_L_of ⟨hik, hjk, hq, fun _ _ => c⟩
          rw [e] at hp
          exact br_f (zt_ne c) hp
      · have e : zs_L (zs_t t) N i j = k := zs_L_of ⟨hik, hjk, hq, fun _ h => absurd h c2⟩
        rw [e] at hp
        exact br_f (zt_anlt (by omega) (by omega)) hp
    · have e : zs_L (zs_t t) N i j = k := zs_L_of ⟨hik, hjk, hq, fun h => absurd h c1⟩
      rw [e] at hp
      exact br_t (zt_ale (by omega) (by omega)) hp
theorem zy_lcp {post : Int32 → Prop} {i j : Nat} (hN : N ≤ 128) (hi : i < N) (hj : j < N) (hp : post (nI (zs_L (zs_t t) N i j))) : wpY_lcpSuf post (C, G, nI N, m, b, t, p, s, r) (nI i) (nI j) :=
  ⟨N + 1, zy_lcp_lp hN hp N 0 (by omega) (by omega) (by omega) (fun q hq => absurd hq (Nat.not_lt_zero _))⟩
/-- the ranks as the reference makes them -/
def zs_Y (t : Nat → Int) (n k : Nat) (s r : Nat → Int32) : Prop := ∀ i, i < k → r i = nI (zs_K t n i) ∧ s (zs_K t n i) = nI i
theorem zy_bi_lp {post : Int32 → SY → Prop} {J : Int32 → (Nat → Int32) → (Nat → Int32) → (Nat → Int32) → (Nat → Int32) → Prop} {i : Nat} (hN : N ≤ 128) (hi : i < N) (hp : J (nI (i + 1)) t p (upd s (zs_K (zs_t t) N i) (nI i)) (upd r i (nI (zs_K (zs_t t) N i)))) : ∀ d j, j + d = N → wY_build_23 post J (nI i) C G (nI N) m b t p s r (d + 1) (nI (zs_S (fun q => zs_u (zs_b (zs_t t) N q i)) j)) (nI j) := by
  intro d
  induction d with
  | zero =>
    intro j hj
    have e : j = N := by omega
    have hk := zs_K_n (t := zs_t t) hi
    rw [e]
    refine br_t (nI_le (by omega) (by omega)) ?_
    show vp_in (nI i) 128 ∧ ∀ a : Nat → Int32, a = upd r (nI i).toNatClampNeg (nI (zs_K (zs_t t) N i)) → (vp_in (nI (zs_K (zs_t t) N i)) 128 ∧ ∀ a' : Nat → Int32, a' = upd s (nI (zs_K (zs_t t) N i)).toNatClampNeg (nI i) → ∀ x : Int32, x = nI i + 1 → J x t p a' a)
    rw [zt_cl (i := i) (by omega), zt_cl (i := zs_K (zs_t t) N i) (by omega)]
    exact ⟨zt_in (by omega), nm_e ⟨zt_in (by omega), nm_e (nm_r (nI_1 i) hp)⟩⟩
  | succ d ih =>
    intro j hj
    refine br_f (nI_ge (by omega) (by omega)) (zy_cmp hN (by omega) hi (fun x hx => ?_))
    have h := ih (j + 1) (by omega)
    have e : zs_S (fun q => zs_u (zs_b (zs_t t) N q i)) (j + 1) = zs_S (fun q => zs_u (zs_b (zs_t t) N q i)) j + zs_u (zs_b (zs_t t) N j i) := rfl
    rw [e] at h
    by_cases c : zs_B (zs_t t) N j i
    · rw [zs_b_iff.mpr c] at h
      exact br_f (fun z => Int32.not_lt.mpr z (hx.mpr c)) (nm_r (nI_1 _) (nm_r (nI_1 j) h))
    · rw [zs_b_f c] at h
      exact br_t (Int32.not_lt.mp (fun z => c (hx.mp z))) (nm_r (nI_1 j) h)
theorem zy_bo_lp {post : Int32 → SY → Prop} (hN : N ≤ 128) (hp : ∀ s' r' : Nat → Int32, zs_Y (zs_t t) N N s' r' → post 1 (C, G, nI N, m, 1, t, p, s', r')) : ∀ d k, k + d = N → ∀ s' r' : Nat → Int32, zs_Y (zs_t t) N k s' r' → wY_build_11 post C G (nI N) m b (d + 1) (nI k) t p s' r' := by
  intro d
  induction d with
  | zero =>
    intro k hk s' r' h
    have e : k = N := by omega
    rw [e] at h
    exact br_t (nI_le (by omega) (by omega)) (hp s' r' h)
  | succ d ih =>
    intro k hk s' r' h
    refine br_f (nI_ge (by omega) (by omega)) ⟨N + 1, zy_bi_lp hN (by omega) (ih (k + 1) (by omega) _ _ ?_) N 0 (by omega)⟩
    intro i hi
    by_cases c : i = k
    · rw [c, pk_us, pk_us]
      exact ⟨rfl, rfl⟩
    · have hne : zs_K (zs_t t) N i ≠ zs_K (zs_t t) N k := fun z => c (zs_K_inj (by omega) (by omega) z)
      rw [pk_un c, pk_un hne]
      exact h i (by omega)
theorem zy_build {post : Int32 → SY → Prop} (h0 : 0 < N) (hN : N ≤ 128) (hp : ∀ s' r' : Nat → Int32, zs_Y (zs_t t) N N s' r' → post 1 (C, G, nI N, m, 1, t, p, s', r')) : wpY_build post (C, G, nI N, m, b, t, p, s, r) :=
  br_f (nI_ne0 h0 (by omega)) ⟨N + 1, zy_bo_lp hN hp N 0 (by omega) s r (fun i hi => absurd hi (Nat.not_lt_zero _))⟩
theorem zy_di_lp {post : Int32 → Prop} {J : Int32 → Int32 → Prop} {i T : Nat} (hN : N ≤ 128) (hi : i < N) (hp : J (nI (T + (N - i - zs_P (zs_t t) N i))) (nI (i + 1))) : ∀ d j, j + d = i → wY_distinctSubstrings_26 post J (nI T) (nI i) C G (nI N) m b t p s r (d + 1) (nI (zs_X (fun _ => true) (fun q => zs_L (zs_t t) N i q) j)) (nI j) := by
  intro d
  induction d with
  | zero =>
    intro j hj
    have e : j = i := by omega
    have hb : zs_P (zs_t t) N i ≤ N - i := zs_P_le (fun q hq => (zs_L_le (Nat.le_of_lt hi) (by omega)).1)
    rw [e]
    refine br_t (nI_le (by omega) (by omega)) (nm_r ?_ (nm_r (nI_1 i) hp))
    show nI T + (nI N - nI i - nI (zs_P (zs_t t) N i)) = _
    rw [pk_sub (Nat.le_of_lt hi), pk_sub hb, nI_add]
  | succ d ih =>
    intro j hj
    have h := ih (j + 1) (by omega)
    have a1 := zs_L_le (t := zs_t t) (n := N) (i := i) (j := j) (Nat.le_of_lt hi) (by omega)
    have a3 : zs_X (fun _ => true) (fun q => zs_L (zs_t t) N i q) j ≤ N := zs_X_le (fun q hq _ => by have := zs_L_le (t := zs_t t) (n := N) (i := i) (j := q) (Nat.le_of_lt hi) (by omega); omega)
    refine br_f (nI_ge (by omega) (by omega)) (zy_lcp hN hi (by omega) ?_)
    rw [zs_X_s] at h
    by_cases c : zs_X (fun _ => true) (fun q => zs_L (zs_t t) N i q) j < zs_L (zs_t t) N i j
    · rw [if_pos ⟨rfl, c⟩] at h
      exact br_f (nI_ge c (by omega)) (nm_r (nI_1 j) h)
    · rw [if_neg (fun z => c z.2)] at h
      exact br_t (nI_le (by omega) (by omega)) (nm_r (nI_1 j) h)
theorem zy_do_lp {post : Int32 → Prop} (hN : N ≤ 128) (hp : post (nI (zs_S (fun i => N - i - zs_P (zs_t t) N i) N))) : ∀ d k, k + d = N → wY_distinctSubstrings_13 post C G (nI N) m b t p s r (d + 1) (nI (zs_S (fun i => N - i - zs_P (zs_t t) N i) k)) (nI k) := by
  intro d
  induction d with
  | zero =>
    intro k hk
    have e : k = N := by omega
    rw [e]
    exact br_t (nI_le (by omega) (by omega)) hp
  | succ d ih =>
    intro k hk
    exact br_f (nI_ge (by omega) (by omega)) ⟨k + 1, zy_di_lp hN (by omega) (ih (k + 1) (by omega)) k 0 (by omega)⟩
theorem zy_dist {post : Int32 → Prop} (hN : N ≤ 128) (hb : ¬ b = 0) (hp : post (nI (zs_S (fun i => N - i - zs_P (zs_t t) N i) N))) : wpY_distinctSubstrings post (C, G, nI N, m, b, t, p, s, r) :=
  br_f hb ⟨N + 1, zy_do_lp hN hp N 0 (by omega)⟩
/-- v is the greatest length that pairs share, those before (i, j) in the order of the walk -/
def zs_V (t : Nat → Int) (n i j v : Nat) : Prop := v ≤ n ∧ (∀ a c, a < c → c < n → (a < i ∨ (a = i ∧ c < j)) → zs_L t n a c ≤ v) ∧ (v = 0 ∨ ∃ a c, a < c ∧ c < n ∧ zs_L t n a c = v)
theorem zy_li_lp {post : Int32 → Prop} {J : Int32 → Int32 → Prop} {i : Nat} (hN : N ≤ 128) (hi : i < N) (hp : ∀ v, zs_V (zs_t t) N (i + 1) 0 v → J (nI v) (nI (i + 1))) : ∀ d j v, i < j → j + d = N → zs_V (zs_t t) N i j v → wY_longestRepeat_25 post J (nI i) C G (nI N) m b t p s r (d + 1) (nI v) (nI j) := by
  intro d
  induction d with
  | zero =>
    intro j v hij hj hv
    refine br_t (nI_le (by omega) (by omega)) (nm_r (nI_1 i) (hp v ⟨hv.1, fun a c h1 h2 h3 => hv.2.1 a c h1 h2 ?_, hv.2.2⟩))
    omega
  | succ d ih =>
    intro j v hij hj hv
    have a1 := zs_L_le (t := zs_t t) (n := N) (i := i) (j := j) (Nat.le_of_lt hi) (by omega)
    have hv1 := hv.1
    refine br_f (nI_ge (by omega) (by omega)) (zy_lcp hN hi (by omega) ?_)
    by_cases c : v < zs_L (zs_t t) N i j
    · refine br_f (nI_ge c (by omega)) (nm_r (nI_1 j) (ih (j + 1) _ (by omega) (by omega) ⟨by omega, fun x y h1 h2 h3 => ?_, Or.inr ⟨i, j, hij, by omega, rfl⟩⟩))
      by_cases z : x = i ∧ y = j
      · rw [z.1, z.2]; exact Nat.le_refl _
      · have := hv.2.1 x y h1 h2 (by omega)
        omega
    · refine br_t (nI_le (by omega) (by omega)) (nm_r (nI_1 j) (ih (j + 1) v (by omega) (by omega) ⟨hv1, fun x y h1 h2 h3 => ?_, hv.2.2⟩))
      by_cases z : x = i ∧ y = j
      · rw [z.1, z.2]; omega
      · exact hv.2.1 x y h1 h2 (by omega)
theorem zy_lo_lp {post : Int32 → Prop} (hN : N ≤ 128) (hp : ∀ v, zs_top (zs_t t) N v → post (nI v)) : ∀ d k v, k + d = N → zs_V (zs_t t) N k 0 v → wY_longestRepeat_13 post C G (nI N) m b t p s r (d + 1) (nI v) (nI k) := by
  intro d
  induction d with
  | zero =>
    intro k v hk hv
    exact br_t (nI_le (by omega) (by omega)) (hp v ⟨fun i j h1 h2 => hv.2.1 i j h1 h2 (by omega), hv.2.2⟩)
  | succ d ih =>
    intro k v hk hv
    exact br_f (nI_ge (by omega) (by omega)) (nm_r (nI_1 k) ⟨N - (k + 1) + 1, zy_li_lp hN (by omega) (fun v' hv' => ih (k + 1) v' (by omega) hv') (N - (k + 1)) (k + 1) v (by omega) (by omega) ⟨hv.1, fun a c h1 h2 h3 => hv.2.1 a c h1 h2 (by omega), hv.2.2⟩⟩)
theorem zy_long {post : Int32 → Prop} (hN : N ≤ 128) (hb : ¬ b = 0) (hp : ∀ v, zs_top (zs_t t) N v → post (nI v)) : wpY_longestRepeat post (C, G, nI N, m, b, t, p, s, r) :=
  br_f hb ⟨N + 1, zy_lo_lp hN hp N 0 0 (by omega) ⟨Nat.zero_le _, fun a c _ _ h => absurd h (by omega), Or.inl rfl⟩⟩
end
end
section
/-! the reference's walks: the pattern -/
section
variable {C G b : Int32} {t p s r : Nat → Int32} {N M : Nat}
theorem zy_slp_lp {post : Int32 → Prop} {i : Nat} (hN : N ≤ 128) (hM : M ≤ 128) (hi : i < N) (hp : post (zs_n (zs_q (zs_t t) N (zs_t p) M i))) : ∀ d k, k + d = M → i + k ≤ N → (∀ q, q < k → zs_t t (i + q) = zs_t p q) → wY_sufLessPat_2 post (nI i) C G (nI N) (nI M) b t p s r (d + 1) (nI k) := by
  intro d
  induction d with
  | zero =>
    intro k hk hik hq
    have e : zs_q (zs_t t) N (zs_t p) M i = false := zs_h_f (l := k) ⟨hik, by omega, fun q hq' => by rw [Nat.zero_add]; exact hq q hq', fun _ z => absurd z (by omega)⟩ (Or.inl (by omega))
    rw [e] at hp
    exact br_t (nI_le (by omega) (by omega)) hp
  | succ d ih =>
    intro k hk hik hq
    refine br_f (nI_ge (by omega) (by omega)) ?_
    by_cases c1 : i + k < N
    · refine br_t (zt_alt c1 hN) ⟨zt_ina (by omega), zt_in (by omega), ?_⟩
      rw [zt_ain (a := t) (i := i) (k := k) (by omega), zt_an (a := p) (i := k) (by omega)]
      by_cases c : zs_t t (i + k) = zs_t p k
      · refine br_t (zt_e c) (nm_r (nI_1 k) (ih (k + 1) (by omega) (by omega) ?_))
        intro q hq'
        by_cases z : q = k
        · rw [z]; exact c
        · exact hq q (by omega)
      · have g : zs_gp (zs_t t) N (zs_t p) M i 0 k := ⟨hik, by omega, fun q hq' => by rw [Nat.zero_add]; exact hq q hq', fun _ _ => by rw [Nat.zero_add]; exact c⟩
        refine br_f (zt_ne c) ⟨zt_ina (by omega), zt_in (by omega), ?_⟩
        by_cases c3 : zs_t t (i + k) < zs_t p k
        · have e : zs_q (zs_t t) N (zs_t p) M i = true := zs_h_t g (by omega) (Or.inr c3)
          rw [e] at hp
          exact br_f (zt_nle (by omega)) hp
        · have e : zs_q (zs_t t) N (zs_t p) M i = false := zs_h_f g (Or.inr ⟨c1, c3⟩)
          rw [e] at hp
          exact br_t (zt_le (by omega)) hp
    · have e : zs_q (zs_t t) N (zs_t p) M i = true := zs_h_t (l := k) ⟨hik, by omega, fun q hq' => by rw [Nat.zero_add]; exact hq q hq', fun h => absurd h c1⟩ (by omega) (Or.inl (by omega))
      rw [e] at hp
      exact br_f (zt_anlt (by omega) (by omega)) hp
theorem zy_slp {post : Int32 → Prop} {i : Nat} (hN : N ≤ 128) (hM : M ≤ 128) (hi : i < N) (hp : post (zs_n (zs_q (zs_t t) N (zs_t p) M i))) : wpY_sufLessPat post (C, G, nI N, nI M, b, t, p, s, r) (nI i) :=
  ⟨M + 1, zy_slp_lp hN hM hi hp M 0 (by omega) (by omega) (fun q hq => absurd hq (Nat.not_lt_zero _))⟩
theorem zy_occ_lp {post : Int32 → Prop} {i : Nat} (hN : N ≤ 128) (hM : M ≤ 128) (him : i + M ≤ N) (hp : post (zs_n (zs_o (zs_t t) N (zs_t p) M i))) : ∀ d k, k + d = M → (∀ q, q < k → zs_t t (i + q) = zs_t p q) → wY_occursAt_21 post (nI i) C G (nI N) (nI M) b t p s r (d + 1) (nI k) := by
  intro d
  induction d with
  | zero =>
    intro k hk hq
    have e : zs_o (zs_t t) N (zs_t p) M i = true := zs_o_t him (fun q hq' => hq q (by omega))
    rw [e] at hp
    exact br_t (nI_le (by omega) (by omega)) hp
  | succ d ih =>
    intro k hk hq
    refine br_f (nI_ge (by omega) (by omega)) ⟨zt_ina (by omega), zt_in (by omega), ?_⟩
    rw [zt_ain (a := t) (i := i) (k := k) (by omega), zt_an (a := p) (i := k) (by omega)]
    by_cases c : zs_t t (i + k) = zs_t p k
    · refine br_t (zt_e c) (nm_r (nI_1 k) (ih (k + 1) (by omega) ?_))
      intro q hq'
      by_cases z : q = k
      · rw [z]; exact c
      · exact hq q (by omega)
    · have e : zs_o (zs_t t) N (zs_t p) M i = false := zs_o_f (by omega) (Or.inr ⟨k, by omega, c⟩)
      rw [e] at hp
      exact br_f (zt_ne c) hp
theorem zy_occ {post : Int32 → Prop} {i : Nat} (hN : N ≤ 128) (hM : M ≤ 128) (hi : i < N) (hp : post (zs_n (zs_o (zs_t t) N (zs_t p) M i))) : wpY_occursAt post (C, G, nI N, nI M, b, t, p, s, r) (nI i) := by
  refine br_f (nI_pos (by omega)) ?_
  by_cases c : i + M ≤ N
  · have h : nI i + nI M ≤ nI N := by
      rw [nI_add]
      exact nI_le c (by omega)
    exact br_t h ⟨M + 1, zy_occ_lp hN hM c hp M 0 (by omega) (fun q hq => absurd hq (Nat.not_lt_zero _))⟩
  · have h : ¬ nI i + nI M ≤ nI N := by
      rw [nI_add]
      exact nI_ge (by omega) (by omega)
    have e : zs_o (zs_t t) N (zs_t p) M i = false := zs_o_f (by omega) (Or.inl (by omega))
    rw [e] at hp
    exact br_f h hp
theorem zy_count_lp {post : Int32 → Prop} (hN : N ≤ 128) (hM : M ≤ 128) (hp : post (nI (zs_c (zs_o (zs_t t) N (zs_t p) M) N))) : ∀ d k, k + d = N → wY_count_25 post C G (nI N) (nI M) b t p s r (d + 1) (nI (zs_c (zs_o (zs_t t) N (zs_t p) M) k)) (nI k) := by
  intro d
  induction d with
  | zero =>
    intro k hk
    have e : k = N := by omega
    rw [e]
    exact br_t (nI_le (by omega) (by omega)) hp
  | succ d ih =>
    intro k hk
    refine br_f (nI_ge (by omega) (by omega)) (zy_occ hN hM (by omega) ?_)
    have h := ih (k + 1) (by omega)
    cases ho : zs_o (zs_t t) N (zs_t p) M k with
    | false =>
      rw [zs_c_f ho] at h
      exact br_t rfl (nm_r (nI_1 k) h)
    | true =>
      rw [zs_c_t ho] at h
      exact br_f (by decide) (nm_r (nI_1 _) (nm_r (nI_1 k) h))
theorem zy_count {post : Int32 → Prop} (hN : N ≤ 128) (hM : M ≤ 128) (hb : ¬ b = 0) (hp : post (nI (zs_c (zs_o (zs_t t) N (zs_t p) M) N))) : wpY_count post (C, G, nI N, nI M, b, t, p, s, r) := by
  refine br_f hb ?_
  by_cases c : M = 0
  · have e : zs_c (zs_o (zs_t t) N (zs_t p) M) N = N := zs_c_all (fun j hj => zs_o_t (by omega) (fun k hk => absurd hk (by omega)))
    rw [e] at hp
    exact br_t (congrArg nI c) hp
  · exact br_f (nI_ne0 (by omega) (by omega)) ⟨N + 1, zy_count_lp hN hM hp N 0 (by omega)⟩
theorem zy_range_lp {post : Int32 → Prop} (hN : N ≤ 128) (hM : M ≤ 128) (hp : post (nI (zs_c (zs_q (zs_t t) N (zs_t p) M) N))) : ∀ d k, k + d = N → wY_rangeStart_22 post C G (nI N) (nI M) b t p s r (d + 1) (nI (zs_c (zs_q (zs_t t) N (zs_t p) M) k)) (nI k) := by
  intro d
  induction d with
  | zero =>
    intro k hk
    have e : k = N := by omega
    rw [e]
    exact br_t (nI_le (by omega) (by omega)) hp
  | succ d ih =>
    intro k hk
    refine br_f (nI_ge (by omega) (by omega)) (zy_slp hN hM (by omega) ?_)
    have h := ih (k + 1) (by omega)
    cases ho : zs_q (zs_t t) N (zs_t p) M k with
    | false =>
      rw [zs_c_f ho] at h
      exact br_t rfl (nm_r (nI_1 k) h)
    | true =>
      rw [zs_c_t ho] at h
      exact br_f (by decide) (nm_r (nI_1 _) (nm_r (nI_1 k) h))
theorem zy_range {post : Int32 → Prop} (hN : N ≤ 128) (hM : M ≤ 128) (hb : ¬ b = 0) (hp : post (nI (zs_c (zs_q (zs_t t) N (zs_t p) M) N))) : wpY_rangeStart post (C, G, nI N, nI M, b, t, p, s, r) := by
  refine br_f hb ?_
  by_cases c : M = 0
  · have e : zs_c (zs_q (zs_t t) N (zs_t p) M) N = 0 := zs_c_none (fun j hj => zs_h_f (l := 0) ⟨by omega, by omega, fun k hk => absurd hk (Nat.not_lt_zero _), fun _ z => absurd z (by omega)⟩ (Or.inl (by omega)))
    rw [e] at hp
    exact br_t (congrArg nI c) hp
  · exact br_f (nI_ne0 (by omega) (by omega)) ⟨N + 1, zy_range_lp hN hM hp N 0 (by omega)⟩
theorem zy_locate_lp {post : Int32 → Prop} {k : Nat} (hN : N ≤ 128) (hM : M ≤ 128) (hk : k < 2 ^ 31) : ∀ d i, i + d = N → post (zs_w (zs_o (zs_t t) N (zs_t p) M) k d i) → wY_locate_30 post (nI k) C G (nI N) (nI M) b t p s r (d + 1) (nI (zs_c (zs_o (zs_t t) N (zs_t p) M) i)) (nI i) := by
  intro d
  induction d with
  | zero =>
    intro i hi hp
    exact br_t (nI_le (by omega) (by omega)) hp
  | succ d ih =>
    intro i hi hp
    have hc := zs_c_le (o := zs_o (zs_t t) N (zs_t p) M) i
    have e : zs_w (zs_o (zs_t t) N (zs_t p) M) k (d + 1) i = if zs_o (zs_t t) N (zs_t p) M i = true ∧ zs_c (zs_o (zs_t t) N (zs_t p) M) i = k then nI i else zs_w (zs_o (zs_t t) N (zs_t p) M) k d (i + 1) := rfl
    rw [e] at hp
    refine br_f (nI_ge (by omega) (by omega)) (zy_occ hN hM (by omega) ?_)
    cases ho : zs_o (zs_t t) N (zs_t p) M i with
    | false =>
      rw [if_neg (fun z => by rw [ho] at z; exact Bool.noConfusion z.1)] at hp
      have h := ih (i + 1) (by omega) hp
      rw [zs_c_f ho] at h
      exact br_t rfl (nm_r (nI_1 i) h)
    | true =>
      refine br_f (by decide) ?_
      by_cases c : zs_c (zs_o (zs_t t) N (zs_t p) M) i = k
      · rw [if_pos ⟨ho, c⟩] at hp
        exact br_t (congrArg nI c) hp
      · rw [if_neg (fun z => c z.2)] at hp
        have h := ih (i + 1) (by omega) hp
        rw [zs_c_t ho] at h
        exact br_f (fun z => c ((nI_eq (by omega) hk).mp z)) (nm_r (nI_1 _) (nm_r (nI_1 i) h))
theorem zy_locate {post : Int32 → Prop} {k : Nat} (hN : N ≤ 128) (hM : M ≤ 128) (hb : ¬ b = 0) (hk : k < 2 ^ 31) (hp : post (zs_w (zs_o (zs_t t) N (zs_t p) M) k N 0)) : wpY_locate post (C, G, nI N, nI M, b, t, p, s, r) (nI k) := by
  have hc := zs_c_le (o := zs_o (zs_t t) N (zs_t p) M) N
  unfold wpY_locate
  dsimp only
  refine br_f hb (zy_count hN hM hb (br_f (nI_pos hk) ?_))
  by_cases c : k < zs_c (zs_o (zs_t t) N (zs_t p) M) N
  · exact br_t (nI_lt c (by omega)) ⟨N + 1, zy_locate_lp hN hM hk N 0 (by omega) hp⟩
  · have e := zs_w_none (o := zs_o (zs_t t) N (zs_t p) M) (k := k) N 0 (by rw [Nat.zero_add]; omega)
    rw [e] at hp
    exact br_f (nI_nlt (by omega) hk) hp
theorem zy_locate_neg {post : Int32 → Prop} {k : Int32} (hN : N ≤ 128) (hM : M ≤ 128) (hb : ¬ b = 0) (hk : k < 0) (hp : post (-1)) : wpY_locate post (C, G, nI N, nI M, b, t, p, s, r) k := by
  unfold wpY_locate
  dsimp only
  exact br_f hb (zy_count hN hM hb (br_t hk hp))
end
end
section
/-! the relation, and what is owed -/
/-- built: the same order on both sides, the class's shared lengths beside it -/
def zr_bt (t xs xr xl ys yr : Nat → Int32) (N : Nat) : Prop :=
  ∃ g : Nat → Nat, zs_O (zs_t t) N g ∧ (∀ q, q < N → xs q = nI (g q)) ∧ (∀ q, q < N → ys q = nI (g q)) ∧ (∀ q, q < N → xr q = nI (zs_K (zs_t t) N q)) ∧ (∀ q, q < N → yr q = nI (zs_K (zs_t t) N q)) ∧ (∀ q, q < N → xl q = nI (zs_l (zs_t t) N g q))
def i_Rel (_ : Nat) (u : SX) (v : SY) : Prop :=
  ∃ (C N M : Nat) (G b : Int32) (t p xs xr xl ys yr : Nat → Int32), u = (nI C, G, nI N, nI M, b, t, p, xs, xr, xl) ∧ v = (nI C, G, nI N, nI M, b, t, p, ys, yr) ∧ C ≤ 128 ∧ N ≤ C ∧ M ≤ C ∧ (b = 0 ∨ (b = 1 ∧ zr_bt t xs xr xl ys yr N))
theorem i_up {k : Nat} {u : SX} {v : SY} (h : i_Rel k u v) : i_Rel (k + 2) u v := h
theorem zr_0 {k C : Nat} {G : Int32} (hC : C ≤ 128) : i_Rel k (nI C, G, 0, 0, 0, (fun _ => 0), (fun _ => 0), (fun _ => 0), (fun _ => 0), (fun _ => 0)) (nI C, G, 0, 0, 0, (fun _ => 0), (fun _ => 0), (fun _ => 0), (fun _ => 0)) :=
  ⟨C, 0, 0, G, 0, _, _, _, _, _, _, _, rfl, rfl, hC, Nat.zero_le _, Nat.zero_le _, Or.inl rfl⟩
theorem zr_sig {W : (SY → Prop) → Prop} {x : Int32} {C : Nat} (hC : C ≤ 128) (hW : ∀ post : SY → Prop, wY_init_66 post x (nI C) 0 0 0 0 0 (fun _ => 0) (fun _ => 0) (fun _ => 0) (fun _ => 0) → W post) : wpX_clamp (fun r_2 => W (fun v => i_Rel 2 (nI C, r_2, 0, 0, 0, (fun _ => 0), (fun _ => 0), (fun _ => 0), (fun _ => 0), (fun _ => 0)) v)) x 1 64 := by
  refine br_c (fun h1 => br_c (fun h2 => hW _ ?_) (fun h2 => hW _ ?_)) (fun h1 => hW _ ?_)
  · exact br_t h1 (br_t h2 (zr_0 (k := 2) hC))
  · exact br_t h1 (br_f h2 (zr_0 (k := 2) hC))
  · exact br_f h1 (zr_0 (k := 2) hC)
theorem i_vc0 (k0 : Int32) (k1 : Int32) : wpX_init (fun u => wpY_init (fun v => i_Rel 2 u v) k0 k1) k0 k1 := by
  unfold wpX_init
  refine br_c (fun h1 => br_c (fun h2 => ?_) (fun h2 => ?_)) (fun h1 => ?_)
  · obtain ⟨C, hC, rfl⟩ := nI_of2 (x := k0) (M := 128) (n := 128) (by decide) (Int32.not_lt.mpr (Int32.le_trans (by decide) h1)) h2
    exact zr_sig (W := fun post => wpY_init post (nI C) k1) hC (fun post h => br_t h1 (br_t h2 h))
  · exact zr_sig (W := fun post => wpY_init post k0 k1) (C := 128) (by omega) (fun post h => br_t h1 (br_f h2 h))
  · exact zr_sig (W := fun post => wpY_init post k0 k1) (C := 8) (by omega) (fun post h => br_f h1 h)
theorem i_vc_clear {k : Nat} {u : SX} {v : SY} (I : i_Rel k u v) (hk : k + 2 ≤ 1026) : wpX_clear (fun u' => wpY_clear (fun v' => i_Rel (k + 2) u' v') v) u := by
  obtain ⟨C, N, M, G, b, t, p, xs, xr, xl, ys, yr, rfl, rfl, hC, hN, hM, hb⟩ := I
  exact ⟨C, 0, M, G, 0, t, p, xs, xr, xl, ys, yr, rfl, rfl, hC, Nat.zero_le _, hM, Or.inl rfl⟩
theorem i_vc_append {k : Nat} {u : SX} {v : SY} (I : i_Rel k u v) (hk : k + 2 ≤ 1026) (v1 : Int32) : wpX_append (fun r u' => wpY_append (fun r' v' => r' = r ∧ i_Rel (k + 2) u' v') v v1) u v1 := by
  have I' := I
  obtain ⟨C, N, M, G, b, t, p, xs, xr, xl, ys, yr, rfl, rfl, hC, hN, hM, hb⟩ := I
  unfold wpX_append
  dsimp only
  refine br_c (fun h1 => ?_) (fun h1 => br_c (fun h2 => ?_) (fun h2 => ?_))
  · exact br_t rfl (br_t h1 ⟨rfl, I'⟩)
  · exact br_t rfl (br_f h1 (br_f (Int32.not_lt.mpr h2) ⟨rfl, I'⟩))
  · have h2' : v1 < G := Int32.not_le.mp h2
    refine br_f (by decide) ?_
    by_cases c : N < C
    · refine br_t (nI_lt c (by omega)) ⟨zt_in (by omega), nm_e (nm_r (nI_1 N) ?_)⟩
      exact br_f h1 (br_t h2' (br_f (fun z => absurd ((nI_eq (by omega) (by omega)).mp z) (by omega)) ⟨zt_in (by omega), nm_e (nm_r (nI_1 N) ⟨rfl, C, N + 1, M, G, 0, _, p, xs, xr, xl, ys, yr, rfl, rfl, hC, c, hM, Or.inl rfl⟩)⟩))
    · have e : N = C := by omega
      exact br_f (nI_nlt (by omega) (by omega)) (br_f h1 (br_t h2' (br_t (congrArg nI e) ⟨rfl, I'⟩)))
theorem i_vc_length {k : Nat} {u : SX} {v : SY} (I : i_Rel k u v) (hk : k + 2 ≤ 1026) : wpX_length (fun r => wpY_length (fun r' => r' = r ∧ i_Rel (k + 2) u v) v) u := by
  have I' := I
  obtain ⟨C, N, M, G, b, t, p, xs, xr, xl, ys, yr, rfl, rfl, hC, hN, hM, hb⟩ := I
  exact ⟨rfl, I'⟩
theorem i_vc_symbolAt {k : Nat} {u : SX} {v : SY} (I : i_Rel k u v) (hk : k + 2 ≤ 1026) (v1 : Int32) : wpX_symbolAt (fun r => wpY_symbolAt (fun r' => r' = r ∧ i_Rel (k + 2) u v) v v1) u v1 := by
  have I' := I
  obtain ⟨C, N, M, G, b, t, p, xs, xr, xl, ys, yr, rfl, rfl, hC, hN, hM, hb⟩ := I
  unfold wpX_symbolAt
  dsimp only
  refine br_c (fun h1 => ?_) (fun h1 => br_c (fun h2 => ?_) (fun h2 => ?_))
  · exact br_t rfl (br_t h1 ⟨rfl, I'⟩)
  · exact br_t rfl (br_f h1 (br_f (Int32.not_lt.mpr h2) ⟨rfl, I'⟩))
  · have h2' : v1 < nI N := Int32.not_le.mp h2
    have hi : vp_in v1 128 := by
      obtain ⟨j, hj, rfl⟩ := nI_of h1
      rw [nI_ltI hj (by omega)] at h2'
      exact zt_in (by omega)
    exact br_f (by decide) ⟨hi, br_f h1 (br_t h2' ⟨hi, rfl, I'⟩)⟩
theorem i_vc_build {k : Nat} {u : SX} {v : SY} (I : i_Rel k u v) (hk : k + 2 ≤ 1026) : wpX_build (fun r u' => wpY_build (fun r' v' => r' = r ∧ i_Rel (k + 2) u' v') v) u := by
  have I' := I
  obtain ⟨C, N, M, G, b, t, p, xs, xr, xl, ys, yr, rfl, rfl, hC, hN, hM, hb⟩ := I
  by_cases c : N = 0
  · exact br_t (congrArg nI c) (br_t (congrArg nI c) ⟨rfl, I'⟩)
  · refine zx_build (by omega) (by omega) (fun s' r' l' g hO hs hr hl => ?_)
    refine zy_build (by omega) (by omega) (fun s'' r'' hY => ?_)
    refine ⟨rfl, C, N, M, G, 1, t, p, s', r', l', s'', r'', rfl, rfl, hC, hN, hM, Or.inr ⟨rfl, g, hO, hs, fun q hq => ?_, fun q hq => ?_, fun q hq => (hY q hq).1, hl⟩⟩
    · obtain ⟨a1, a2⟩ := hO q hq
      have a3 := (hY (g q) a1).2
      rw [a2] at a3
      exact a3
    · have a3 := hr (zs_K (zs_t t) N q) (zs_K_n hq)
      rw [zs_O_i hO hq] at a3
      exact a3
theorem i_vc_isBuilt {k : Nat} {u : SX} {v : SY} (I : i_Rel k u v) (hk : k + 2 ≤ 1026) : wpX_isBuilt (fun r => wpY_isBuilt (fun r' => r' = r ∧ i_Rel (k + 2) u v) v) u := by
  have I' := I
  obtain ⟨C, N, M, G, b, t, p, xs, xr, xl, ys, yr, rfl, rfl, hC, hN, hM, hb⟩ := I
  rcases hb with rfl | ⟨rfl, _⟩
  · exact ⟨rfl, rfl, rfl, I'⟩
  · exact ⟨rfl, rfl, rfl, I'⟩
theorem i_vc_suffixAt {k : Nat} {u : SX} {v : SY} (I : i_Rel k u v) (hk : k + 2 ≤ 1026) (v1 : Int32) : wpX_suffixAt (fun r => wpY_suffixAt (fun r' => r' = r ∧ i_Rel (k + 2) u v) v v1) u v1 := by
  have I' := I
  obtain ⟨C, N, M, G, b, t, p, xs, xr, xl, ys, yr, rfl, rfl, hC, hN, hM, hb⟩ := I
  rcases hb with rfl | ⟨rfl, g, hO, hxs, hys, hxr, hyr, hxl⟩
  · exact br_t rfl (br_t rfl ⟨rfl, I'⟩)
  · unfold wpX_suffixAt
    dsimp only
    refine br_f (by decide) (br_c (fun h1 => ?_) (fun h1 => br_c (fun h2 => ?_) (fun h2 => ?_)))
    · exact br_t rfl (br_f (by decide) (br_t h1 ⟨rfl, I'⟩))
    · exact br_t rfl (br_f (by decide) (br_f h1 (br_f (Int32.not_lt.mpr h2) ⟨rfl, I'⟩)))
    · have h2' : v1 < nI N := Int32.not_le.mp h2
      obtain ⟨j, hj, rfl⟩ := nI_of h1
      have h3 : j < N := (nI_ltI hj (by omega)).mp h2'
      have hi : vp_in (nI j) 128 := zt_in (by omega)
      refine br_f (by decide) ⟨hi, br_f (by decide) (br_f h1 (br_t h2' ⟨hi, ?_, I'⟩))⟩
      rw [zt_cl (i := j) (by omega), hxs j h3, hys j h3]
theorem i_vc_rankOf {k : Nat} {u : SX} {v : SY} (I : i_Rel k u v) (hk : k + 2 ≤ 1026) (v1 : Int32) : wpX_rankOf (fun r => wpY_rankOf (fun r' => r' = r ∧ i_Rel (k + 2) u v) v v1) u v1 := by
  have I' := I
  obtain ⟨C, N, M, G, b, t, p, xs, xr, xl, ys, yr, rfl, rfl, hC, hN, hM, hb⟩ := I
  rcases hb with rfl | ⟨rfl, g, hO, hxs, hys, hxr, hyr, hxl⟩
  · exact br_t rfl (br_t rfl ⟨rfl, I'⟩)
  · unfold wpX_rankOf
    dsimp only
    refine br_f (by decide) (br_c (fun h1 => ?_) (fun h1 => br_c (fun h2 => ?_) (fun h2 => ?_)))
    · exact br_t rfl (br_f (by decide) (br_t h1 ⟨rfl, I'⟩))
    · exact br_t rfl (br_f (by decide) (br_f h1 (br_f (Int32.not_lt.mpr h2) ⟨rfl, I'⟩)))
    · have h2' : v1 < nI N := Int32.not_le.mp h2
      obtain ⟨j, hj, rfl⟩ := nI_of h1
      have h3 : j < N := (nI_ltI hj (by omega)).mp h2'
      have hi : vp_in (nI j) 128 := zt_in (by omega)
      refine br_f (by decide) ⟨hi, br_f (by decide) (br_f h1 (br_t h2' ⟨hi, ?_, I'⟩))⟩
      rw [zt_cl (i := j) (by omega), hxr j h3, hyr j h3]
theorem i_vc_lcpAt {k : Nat} {u : SX} {v : SY} (I : i_Rel k u v) (hk : k + 2 ≤ 1026) (v1 : Int32) : wpX_lcpAt (fun r => wpY_lcpAt (fun r' => r' = r ∧ i_Rel (k + 2) u v) v v1) u v1 := by
  have I' := I
  obtain ⟨C, N, M, G, b, t, p, xs, xr, xl, ys, yr, rfl, rfl, hC, hN, hM, hb⟩ := I
  rcases hb with rfl | ⟨rfl, g, hO, hxs, hys, hxr, hyr, hxl⟩
  · exact br_t rfl (br_t rfl ⟨rfl, I'⟩)
  · unfold wpX_lcpAt
    dsimp only
    refine br_f (by decide) (br_c (fun h1 => ?_) (fun h1 => br_c (fun h2 => ?_) (fun h2 => ?_)))
    · exact br_t rfl (br_f (by decide) (br_t h1 ⟨rfl, I'⟩))
    · exact br_t rfl (br_f (by decide) (br_f h1 (br_f (Int32.not_lt.mpr h2) ⟨rfl, I'⟩)))
    · have h2' : v1 < nI N := Int32.not_le.mp h2
      obtain ⟨j, hj, rfl⟩ := nI_of h1
      have h3 : j < N := (nI_ltI hj (by omega)).mp h2'
      have hi : vp_in (nI j) 128 := zt_in (by omega)
      rw [zt_cl (i := j) (by omega), hxl j h3]
      refine br_f (by decide) ⟨hi, ?_⟩
      unfold wpY_lcpAt
      dsimp only
      refine br_f (by decide) (br_f h1 (br_t h2' ?_))
      cases j with
      | zero => exact br_t rfl ⟨rfl, I'⟩
      | succ j =>
        refine br_f (nI_ne0 (Nat.succ_pos j) hj) ?_
        rw [nI_pred j, zt_cl (i := j) (by omega), zt_cl (i := j + 1) (by omega), hys j (by omega), hys (j + 1) h3]
        exact ⟨zt_in (by omega), hi, zy_lcp (by omega) (hO j (by omega)).1 (hO (j + 1) h3).1 ⟨congrArg nI (if_neg (Nat.succ_ne_zero j)).symm, I'⟩⟩
theorem i_vc_patClear {k : Nat} {u : SX} {v : SY} (I : i_Rel k u v) (hk : k + 2 ≤ 1026) : wpX_patClear (fun u' => wpY_patClear (fun v' => i_Rel (k + 2) u' v') v) u := by
  obtain ⟨C, N, M, G, b, t, p, xs, xr, xl, ys, yr, rfl, rfl, hC, hN, hM, hb⟩ := I
  exact ⟨C, N, 0, G, b, t, p, xs, xr, xl, ys, yr, rfl, rfl, hC, hN, Nat.zero_le _, hb⟩
theorem i_vc_patAppend {k : Nat} {u : SX} {v : SY} (I : i_Rel k u v) (hk : k + 2 ≤ 1026) (v1 : Int32) : wpX_patAppend (fun r u' => wpY_patAppend (fun r' v' => r' = r ∧ i_Rel (k + 2) u' v') v v1) u v1 := by
  have I' := I
  obtain ⟨C, N, M, G, b, t, p, xs, xr, xl, ys, yr, rfl, rfl, hC, hN, hM, hb⟩ := I
  unfold wpX_patAppend
  dsimp only
  refine br_c (fun h1 => ?_) (fun h1 => br_c (fun h2 => ?_) (fun h2 => ?_))
  · exact br_t rfl (br_t h1 ⟨rfl, I'⟩)
  · exact br_t rfl (br_f h1 (br_f (Int32.not_lt.mpr h2) ⟨rfl, I'⟩))
  · have h2' : v1 < G := Int32.not_le.mp h2
    refine br_f (by decide) ?_
    by_cases c : M < C
    · refine br_t (nI_lt c (by omega)) ⟨zt_in (by omega), nm_e (nm_r (nI_1 M) ?_)⟩
      exact br_f h1 (br_t h2' (br_f (fun z => absurd ((nI_eq (by omega) (by omega)).mp z) (by omega)) ⟨zt_in (by omega), nm_e (nm_r (nI_1 M) ⟨rfl, C, N, M + 1, G, b, t, _, xs, xr, xl, ys, yr, rfl, rfl, hC, hN, c, hb⟩)⟩))
    · have e : M = C := by omega
      exact br_f (nI_nlt (by omega) (by omega)) (br_f h1 (br_t h2' (br_t (congrArg nI e) ⟨rfl, I'⟩)))
theorem i_vc_count {k : Nat} {u : SX} {v : SY} (I : i_Rel k u v) (hk : k + 2 ≤ 1026) : wpX_count (fun r => wpY_count (fun r' => r' = r ∧ i_Rel (k + 2) u v) v) u := by
  have I' := I
  obtain ⟨C, N, M, G, b, t, p, xs, xr, xl, ys, yr, rfl, rfl, hC, hN, hM, hb⟩ := I
  rcases hb with rfl | ⟨rfl, g, hO, hxs, hys, hxr, hyr, hxl⟩
  · exact br_t rfl (br_t rfl ⟨rfl, I'⟩)
  · exact zx_count (by omega) (by omega) (by decide) (zy_count (by omega) (by omega) (by decide) ⟨rfl, I'⟩)
theorem i_vc_rangeStart {k : Nat} {u : SX} {v : SY} (I : i_Rel k u v) (hk : k + 2 ≤ 1026) : wpX_rangeStart (fun r => wpY_rangeStart (fun r' => r' = r ∧ i_Rel (k + 2) u v) v) u := by
  have I' := I
  obtain ⟨C, N, M, G, b, t, p, xs, xr, xl, ys, yr, rfl, rfl, hC, hN, hM, hb⟩ := I
  rcases hb with rfl | ⟨rfl, g, hO, hxs, hys, hxr, hyr, hxl⟩
  · exact br_t rfl (br_t rfl ⟨rfl, I'⟩)
  · exact zx_range (by omega) (by omega) (by decide) (zy_range (by omega) (by omega) (by decide) ⟨rfl, I'⟩)
theorem i_vc_locate {k : Nat} {u : SX} {v : SY} (I : i_Rel k u v) (hk : k + 2 ≤ 1026) (v1 : Int32) : wpX_locate (fun r => wpY_locate (fun r' => r' = r ∧ i_Rel (k + 2) u v) v v1) u v1 := by
  have I' := I
  obtain ⟨C, N, M, G, b, t, p, xs, xr, xl, ys, yr, rfl, rfl, hC, hN, hM, hb⟩ := I
  rcases hb with rfl | ⟨rfl, g, hO, hxs, hys, hxr, hyr, hxl⟩
  · exact br_t rfl (br_t rfl ⟨rfl, I'⟩)
  · by_cases h1 : v1 < 0
    · exact br_f (by decide) (br_f (Int32.not_le.mpr h1) (zy_locate_neg (by omega) (by omega) (by decide) h1 ⟨rfl, I'⟩))
    · obtain ⟨j, hj, rfl⟩ := nI_of h1
      exact br_f (by decide) (br_t (Int32.not_lt.mp h1) ⟨N + 1, zx_locate_lp (by omega) (by omega) hj N 0 (by omega) (zy_locate (by omega) (by omega) (by decide) hj ⟨rfl, I'⟩)⟩)
theorem i_vc_distinctSubstrings {k : Nat} {u : SX} {v : SY} (I : i_Rel k u v) (hk : k + 2 ≤ 1026) : wpX_distinctSubstrings (fun r => wpY_distinctSubstrings (fun r' => r' = r ∧ i_Rel (k + 2) u v) v) u := by
  have I' := I
  obtain ⟨C, N, M, G, b, t, p, xs, xr, xl, ys, yr, rfl, rfl, hC, hN, hM, hb⟩ := I
  rcases hb with rfl | ⟨rfl, g, hO, hxs, hys, hxr, hyr, hxl⟩
  · exact br_t rfl (br_t rfl ⟨rfl, I'⟩)
  · exact zx_dist (by omega) (by decide) hO hxs hxl (zy_dist (by omega) (by decide) ⟨congrArg nI (zs_dist hO).symm, I'⟩)
theorem i_vc_longestRepeat {k : Nat} {u : SX} {v : SY} (I : i_Rel k u v) (hk : k + 2 ≤ 1026) : wpX_longestRepeat (fun r => wpY_longestRepeat (fun r' => r' = r ∧ i_Rel (k + 2) u v) v) u := by
  have I' := I
  obtain ⟨C, N, M, G, b, t, p, xs, xr, xl, ys, yr, rfl, rfl, hC, hN, hM, hb⟩ := I
  rcases hb with rfl | ⟨rfl, g, hO, hxs, hys, hxr, hyr, hxl⟩
  · exact br_t rfl (br_t rfl ⟨rfl, I'⟩)
  · exact zx_long (by omega) (by decide) hO hxl (zy_long (by omega) (by decide) (fun v hv => ⟨congrArg nI (zs_top_u hv (zs_top_X hO)), I'⟩))
end
