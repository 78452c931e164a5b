/-! small tools: stores, numbers, the text as integers (the first rows are the kit's rows to paste) -/
theorem pk_us {f : Nat → Int32} {k : Nat} {x : Int32} : upd f k x k = x := if_pos rfl
theorem pk_un {f : Nat → Int32} {k j : Nat} {x : Int32} (h : j ≠ k) : upd f k x j = f j := if_neg h
theorem pk_sub {a b : Nat} (h : b ≤ a) : nI a - nI b = nI (a - b) := by
  obtain ⟨c, rfl⟩ : ∃ c, a = c + b := ⟨a - b, by omega⟩
  rw [← nI_add, Int32.add_sub_cancel, Nat.add_sub_cancel]
theorem pk_m1 (n : Nat) : nI (n + 1) + (-1) = nI n := by
  rw [← nI_1, Int32.add_assoc, show (1 : Int32) + (-1) = 0 from rfl, Int32.add_zero]
theorem pk_ix (x : Int32) {n : Nat} (hn : n < 2 ^ 31) : x < 0 ∨ nI n ≤ x ∨ ∃ j : Nat, j < n ∧ x = nI j := by
  by_cases h : x < 0
  · exact Or.inl h
  · obtain ⟨j, hj, rfl⟩ := nI_of h
    by_cases h2 : j < n
    · exact Or.inr (Or.inr ⟨j, h2, rfl⟩)
    · exact Or.inr (Or.inl (nI_le (by omega) hj))
/-- an array of ints as integers -/
def zs_t (a : Nat → Int32) : Nat → Int := fun i => (a i).toInt
theorem zt_e {a b : Nat → Int32} {i j : Nat} (h : zs_t a i = zs_t b j) : a i = b j := Int32.toInt_inj.mp h
theorem zt_ne {a b : Nat → Int32} {i j : Nat} (h : zs_t a i ≠ zs_t b j) : ¬ a i = b j := fun z => h (congrArg Int32.toInt z)
theorem zt_lt {a b : Nat → Int32} {i j : Nat} (h : zs_t a i < zs_t b j) : a i < b j := Int32.lt_iff_toInt_lt.mpr h
theorem zt_nlt {a b : Nat → Int32} {i j : Nat} (h : ¬ zs_t a i < zs_t b j) : ¬ a i < b j := fun z => h (Int32.lt_iff_toInt_lt.mp z)
theorem zt_le {a b : Nat → Int32} {i j : Nat} (h : zs_t a i ≤ zs_t b j) : a i ≤ b j := Int32.le_iff_toInt_le.mpr h
theorem zt_nle {a b : Nat → Int32} {i j : Nat} (h : ¬ zs_t a i ≤ zs_t b j) : ¬ a i ≤ b j := fun z => h (Int32.le_iff_toInt_le.mp z)
theorem zt_in {i : Nat} (h : i < 128) : vp_in (nI i) 128 := vp_in_nI h (by decide)
theorem zt_ina {i k : Nat} (h : i + k < 128) : vp_in (nI i + nI k) 128 := by
  rw [nI_add]
  exact vp_in_nI h (by decide)
theorem zt_cl {i : Nat} (h : i < 128) : (nI i).toNatClampNeg = i := nI_clamp (by omega)
theorem zt_cla {i k : Nat} (h : i + k < 128) : (nI i + nI k).toNatClampNeg = i + k := by
  rw [nI_add]
  exact nI_clamp (by omega)
/-- 1 or 0, as an answer -/
def zs_n (b : Bool) : Int32 := cond b 1 0
/-- the pattern occurs at i -/
def zs_o (t : Nat → Int) (n : Nat) (p : Nat → Int) (m i : Nat) : Bool := decide (zs_G t n p m i 0 = m)
theorem zs_o_t {t : Nat → Int} {n : Nat} {p : Nat → Int} {m i : Nat} (h : i + m ≤ n) (e : ∀ k, k < m → t (i + k) = p k) : zs_o t n p m i = true := by
  refine decide_eq_true (zs_G_of ⟨h, by omega, fun k hk => ?_, fun _ z => absurd z (by omega)⟩)
  rw [Nat.zero_add]
  exact e k hk
theorem zs_o_f {t : Nat → Int} {n : Nat} {p : Nat → Int} {m i : Nat} (hi : i ≤ n) (h : n < i + m ∨ ∃ k, k < m ∧ t (i + k) ≠ p k) : zs_o t n p m i = false := by
  refine decide_eq_false (fun z => ?_)
  have g := zs_gp_G (t := t) (p := p) (m := m) (j := 0) hi (Nat.zero_le m)
  rw [z] at g
  obtain ⟨g1, g2, g3, g4⟩ := g
  rcases h with h | ⟨k, hk, h⟩
  · omega
  · have := g3 k hk
    rw [Nat.zero_add] at this
    exact h this
/-- how many places before i have the property -/
def zs_c (o : Nat → Bool) (i : Nat) : Nat := zs_S (fun j => zs_u (o j)) i
theorem zs_c_t {o : Nat → Bool} {i : Nat} (h : o i = true) : zs_c o (i + 1) = zs_c o i + 1 := by
  show zs_S (fun j => zs_u (o j)) i + zs_u (o i) = zs_S (fun j => zs_u (o j)) i + 1
  rw [h]
  rfl
theorem zs_c_f {o : Nat → Bool} {i : Nat} (h : o i = false) : zs_c o (i + 1) = zs_c o i := by
  show zs_S (fun j => zs_u (o j)) i + zs_u (o i) = zs_S (fun j => zs_u (o j)) i
  rw [h]
  rfl
theorem zs_c_le {o : Nat → Bool} : ∀ i, zs_c o i ≤ i := by
  intro i
  have h := zs_S_le (f := fun j => zs_u (o j)) (g := fun _ => 1) i (fun j _ => zs_u_1 _)
  rw [zs_S_1] at h
  exact h
theorem zs_c_mono {o : Nat → Bool} {i : Nat} : ∀ d, zs_c o i ≤ zs_c o (i + d) := by
  intro d
  induction d with
  | zero => exact Nat.le_refl _
  | succ d ih =>
    have : zs_c o (i + (d + 1)) = zs_c o (i + d) + zs_u (o (i + d)) := rfl
    omega
theorem zs_c_all {o : Nat → Bool} {i : Nat} (h : ∀ j, j < i → o j = true) : zs_c o i = i := by
  have e := zs_S_eq (f := fun j => zs_u (o j)) (g := fun _ => 1) i (fun j hj => by show zs_u (o j) = 1; rw [h j hj]; rfl)
  rw [zs_S_1] at e
  exact e
theorem zs_c_none {o : Nat → Bool} {i : Nat} (h : ∀ j, j < i → o j = false) : zs_c o i = 0 := by
  have e := zs_S_eq (f := fun j => zs_u (o j)) (g := fun _ => 0) i (fun j hj => by show zs_u (o j) = 0; rw [h j hj]; rfl)
  rw [zs_S_0] at e
  exact e
/-- a suffix is below the pattern -/
theorem zs_h_t {t : Nat → Int} {n : Nat} {p : Nat → Int} {m i l : Nat} (g : zs_gp t n p m i 0 l) (h : l < m) (h' : n ≤ i + l ∨ t (i + l) < p l) : zs_h t n p m i 0 = true := by
  refine zs_h_iff.mpr ?_
  rw [zs_G_of g]
  refine ⟨by omega, ?_⟩
  rw [Nat.zero_add]
  exact h'
theorem zs_h_f {t : Nat → Int} {n : Nat} {p : Nat → Int} {m i l : Nat} (g : zs_gp t n p m i 0 l) (h : m ≤ l ∨ (i + l < n ∧ ¬ t (i + l) < p l)) : zs_h t n p m i 0 = false := by
  cases c : zs_h t n p m i 0 with
  | false => rfl
  | true =>
    have z := zs_h_iff.mp c
    rw [zs_G_of g] at z
    obtain ⟨z1, z2⟩ := z
    rw [Nat.zero_add] at z1 z2
    exfalso
    rcases h with h | ⟨h1, h2⟩
    · omega
    · rcases z2 with z2 | z2
      · omega
      · exact h2 z2
theorem zt_alt {j l N : Nat} (h : j + l < N) (hN : N ≤ 128) : nI j + nI l < nI N := by
  rw [nI_add]
  exact nI_lt h (by omega)
theorem zt_anlt {j l N : Nat} (h : N ≤ j + l) (hb : j + l ≤ 1000) : ¬ nI j + nI l < nI N := by
  rw [nI_add]
  exact nI_nlt h (by omega)
theorem zt_ale {j l N : Nat} (h : N ≤ j + l) (hb : j + l ≤ 1000) : nI N ≤ nI j + nI l := by
  rw [nI_add]
  exact nI_le h (by omega)
theorem zt_anle {j l N : Nat} (h : j + l < N) (hN : N ≤ 128) : ¬ nI N ≤ nI j + nI l := by
  rw [nI_add]
  exact nI_ge h (by omega)
theorem zt_ain {a : Nat → Int32} {i k : Nat} (h : i + k < 128) : a (nI i + nI k).toNatClampNeg = a (i + k) := by
  rw [zt_cla h]
theorem zt_an {a : Nat → Int32} {i : Nat} (h : i < 128) : a (nI i).toNatClampNeg = a i := by
  rw [zt_cl h]
