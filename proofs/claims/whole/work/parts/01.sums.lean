/-! sums, greatest values, least elements over an initial part of the naturals -/
def zs_S (f : Nat → Nat) : Nat → Nat
  | 0 => 0
  | m + 1 => zs_S f m + f m
theorem zs_S_le {f g : Nat → Nat} : ∀ m, (∀ i, i < m → f i ≤ g i) → zs_S f m ≤ zs_S g m := by
  intro m
  induction m with
  | zero => intro _; exact Nat.le_refl _
  | succ m ih =>
    intro h
    have h1 := ih (fun i hi => h i (by omega))
    have h2 := h m (by omega)
    show zs_S f m + f m ≤ zs_S g m + g m
    omega
theorem zs_S_eq {f g : Nat → Nat} (m : Nat) (h : ∀ i, i < m → f i = g i) : zs_S f m = zs_S g m :=
  Nat.le_antisymm (zs_S_le m fun i hi => Nat.le_of_eq (h i hi)) (zs_S_le m fun i hi => Nat.le_of_eq (h i hi).symm)
theorem zs_S_one {f g : Nat → Nat} {q d : Nat} : ∀ m, q < m → (∀ i, i < m → i ≠ q → f i = g i) → f q = g q + d → zs_S f m = zs_S g m + d := by
  intro m
  induction m with
  | zero => intro h; exact absurd h (Nat.not_lt_zero _)
  | succ m ih =>
    intro hq h e
    show zs_S f m + f m = zs_S g m + g m + d
    by_cases c : q = m
    · subst c
      have h1 := zs_S_eq (f := f) (g := g) q (fun i hi => h i (by omega) (by omega))
      omega
    · have h1 := ih (by omega) (fun i hi => h i (by omega)) e
      have h2 := h m (by omega) (by omega)
      omega
theorem zs_S_lt {f g : Nat → Nat} {q : Nat} : ∀ m, q < m → (∀ i, i < m → f i ≤ g i) → f q < g q → zs_S f m < zs_S g m := by
  intro m
  induction m with
  | zero => intro h; exact absurd h (Nat.not_lt_zero _)
  | succ m ih =>
    intro hq h e
    show zs_S f m + f m < zs_S g m + g m
    by_cases c : q = m
    · subst c
      have h1 := zs_S_le (f := f) (g := g) q (fun i hi => h i (by omega))
      omega
    · have h1 := ih (by omega) (fun i hi => h i (by omega)) e
      have h2 := h m (by omega)
      omega
theorem zs_S_add (f g : Nat → Nat) : ∀ m, zs_S (fun i => f i + g i) m = zs_S f m + zs_S g m := by
  intro m
  induction m with
  | zero => rfl
  | succ m ih =>
    show zs_S (fun i => f i + g i) m + (f m + g m) = zs_S f m + f m + (zs_S g m + g m)
    omega
theorem zs_S_0 : ∀ m, zs_S (fun _ => 0) m = 0 := by
  intro m
  induction m with
  | zero => rfl
  | succ m ih =>
    show zs_S (fun _ => 0) m + 0 = 0
    omega
theorem zs_S_1 : ∀ m, zs_S (fun _ => 1) m = m := by
  intro m
  induction m with
  | zero => rfl
  | succ m ih =>
    show zs_S (fun _ => 1) m + 1 = m + 1
    omega
theorem zs_S_c {f : Nat → Nat} {c : Nat} : ∀ m, (∀ i, i < m → f i ≤ c) → zs_S f m ≤ m * c := by
  intro m
  induction m with
  | zero => intro _; exact Nat.zero_le _
  | succ m ih =>
    intro h
    have h1 := ih (fun i hi => h i (by omega))
    have h2 := h m (by omega)
    show zs_S f m + f m ≤ (m + 1) * c
    rw [Nat.succ_mul]
    omega
theorem zs_S_swap (f : Nat → Nat → Nat) (p : Nat) : ∀ m, zs_S (fun i => zs_S (f i) p) m = zs_S (fun j => zs_S (fun i => f i j) m) p := by
  intro m
  induction m with
  | zero => exact (zs_S_0 p).symm
  | succ m ih =>
    have h1 := zs_S_add (fun j => zs_S (fun i => f i j) m) (f m) p
    exact (congrArg (fun z => z + zs_S (f m) p) ih).trans h1.symm
/-- a sum over a permutation of the places -/
theorem zs_S_perm {n : Nat} {S C : Nat → Nat} (hS : ∀ r, r < n → S r < n ∧ C (S r) = r) (hC : ∀ i, i < n → C i < n ∧ S (C i) = i) (g : Nat → Nat) : zs_S (fun r => g (S r)) n = zs_S g n := by
  have h1 : ∀ r, r < n → g (S r) = zs_S (fun i => if S r = i then g i else 0) n := by
    intro r hr
    have e := zs_S_one (f := fun i => if S r = i then g i else 0) (g := fun _ => 0) (q := S r) (d := g (S r)) n (hS r hr).1 (fun i _ hne => if_neg (fun h => hne h.symm)) (by simp)
    rw [e, zs_S_0]
    omega
  have h2 : ∀ i, i < n → zs_S (fun r => if S r = i then g i else 0) n = g i := by
    intro i hi
    have e := zs_S_one (f := fun r => if S r = i then g i else 0) (g := fun _ => 0) (q := C i) (d := g i) n (hC i hi).1 (fun r hr hne => if_neg (fun h => hne (by rw [← h]; exact (hS r hr).2.symm))) (by simp [(hC i hi).2])
    rw [e, zs_S_0]
    omega
  exact (zs_S_eq n h1).trans ((zs_S_swap (fun r i => if S r = i then g i else 0) n n).trans (zs_S_eq n h2))
/-- 1 or 0 -/
def zs_u (b : Bool) : Nat := cond b 1 0
theorem zs_u_le {a b : Bool} (h : a = true → b = true) : zs_u a ≤ zs_u b := by
  cases a with
  | false => exact Nat.zero_le _
  | true => rw [h rfl]; exact Nat.le_refl _
theorem zs_u_1 (b : Bool) : zs_u b ≤ 1 := by
  cases b with
  | false => exact Nat.zero_le _
  | true => exact Nat.le_refl _
theorem zs_S_ge (lo : Nat) : ∀ m, zs_S (fun j => zs_u (decide (lo ≤ j))) m = m - lo := by
  intro m
  induction m with
  | zero => exact (Nat.zero_sub _).symm
  | succ m ih =>
    show zs_S (fun j => zs_u (decide (lo ≤ j))) m + zs_u (decide (lo ≤ m)) = m + 1 - lo
    by_cases c : lo ≤ m
    · rw [decide_eq_true c]
      show _ + 1 = _
      omega
    · rw [decide_eq_false c]
      show _ + 0 = _
      omega
/-- the greatest f j over the j < m that p takes, 0 if there is none -/
def zs_X (p : Nat → Bool) (f : Nat → Nat) : Nat → Nat
  | 0 => 0
  | m + 1 => if p m = true ∧ zs_X p f m < f m then f m else zs_X p f m
theorem zs_X_s {p : Nat → Bool} {f : Nat → Nat} (m : Nat) : zs_X p f (m + 1) = if p m = true ∧ zs_X p f m < f m then f m else zs_X p f m := rfl
theorem zs_X_f {p : Nat → Bool} {f : Nat → Nat} {m : Nat} (h : p m = false) : zs_X p f (m + 1) = zs_X p f m := if_neg (fun c => by rw [h] at c; exact Bool.noConfusion c.1)
theorem zs_X_mono {p : Nat → Bool} {f : Nat → Nat} (m : Nat) : zs_X p f m ≤ zs_X p f (m + 1) := by
  rw [zs_X_s]
  by_cases c : p m = true ∧ zs_X p f m < f m
  · rw [if_pos c]; omega
  · rw [if_neg c]; exact Nat.le_refl _
theorem zs_X_ge {p : Nat → Bool} {f : Nat → Nat} : ∀ {m j : Nat}, j < m → p j = true → f j ≤ zs_X p f m := by
  intro m
  induction m with
  | zero => intro j h; exact absurd h (Nat.not_lt_zero _)
  | succ m ih =>
    intro j h hp
    by_cases c : j = m
    · subst c
      rw [zs_X_s]
      by_cases d : p j = true ∧ zs_X p f j < f j
      · rw [if_pos d]; exact Nat.le_refl _
      · rw [if_neg d]
        have : ¬ zs_X p f j < f j := fun z => d ⟨hp, z⟩
        omega
    · have h1 := ih (j := j) (by omega) hp
      have h2 := zs_X_mono (p := p) (f := f) m
      omega
theorem zs_X_le {p : Nat → Bool} {f : Nat → Nat} {v : Nat} : ∀ {m : Nat}, (∀ j, j < m → p j = true → f j ≤ v) → zs_X p f m ≤ v := by
  intro m
  induction m with
  | zero => intro _; exact Nat.zero_le _
  | succ m ih =>
    intro h
    rw [zs_X_s]
    by_cases d : p m = true ∧ zs_X p f m < f m
    · rw [if_pos d]; exact h m (by omega) d.1
    · rw [if_neg d]; exact ih (fun j hj => h j (by omega))
theorem zs_X_at {p : Nat → Bool} {f : Nat → Nat} : ∀ m : Nat, zs_X p f m = 0 ∨ ∃ j, j < m ∧ p j = true ∧ f j = zs_X p f m := by
  intro m
  induction m with
  | zero => exact Or.inl rfl
  | succ m ih =>
    rw [zs_X_s]
    by_cases d : p m = true ∧ zs_X p f m < f m
    · rw [if_pos d]; exact Or.inr ⟨m, by omega, d.1, rfl⟩
    · rw [if_neg d]
      rcases ih with h | ⟨j, hj, h1, h2⟩
      · exact Or.inl h
      · exact Or.inr ⟨j, by omega, h1, h2⟩
/-- of the places that p takes one with the least measure -/
theorem zs_least (p : Nat → Bool) (mu : Nat → Nat) : ∀ m, (∀ i, i < m → p i = false) ∨ ∃ q, q < m ∧ p q = true ∧ ∀ i, i < m → p i = true → mu q ≤ mu i := by
  intro m
  induction m with
  | zero => exact Or.inl (fun i h => absurd h (Nat.not_lt_zero _))
  | succ m ih =>
    cases c : p m with
    | false =>
      rcases ih with h | ⟨q, h1, h2, h3⟩
      · refine Or.inl (fun i hi => ?_)
        by_cases d : i = m
        · rw [d]; exact c
        · exact h i (by omega)
      · refine Or.inr ⟨q, by omega, h2, fun i hi hp => ?_⟩
        by_cases d : i = m
        · rw [d, c] at hp; exact Bool.noConfusion hp
        · exact h3 i (by omega) hp
    | true =>
      rcases ih with h | ⟨q, h1, h2, h3⟩
      · refine Or.inr ⟨m, by omega, c, fun i hi hp => ?_⟩
        by_cases d : i = m
        · rw [d]; exact Nat.le_refl _
        · rw [h i (by omega)] at hp; exact Bool.noConfusion hp
      · by_cases e : mu m < mu q
        · refine Or.inr ⟨m, by omega, c, fun i hi hp => ?_⟩
          by_cases d : i = m
          · rw [d]; exact Nat.le_refl _
          · have := h3 i (by omega) hp; omega
        · refine Or.inr ⟨q, by omega, h2, fun i hi hp => ?_⟩
          by_cases d : i = m
          · rw [d]; omega
          · exact h3 i (by omega) hp
