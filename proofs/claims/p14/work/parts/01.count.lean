/-- how many i below n have p -/
noncomputable def qc_n (p : Nat → Prop) : Nat → Nat
  | 0 => 0
  | n + 1 => qc_n p n + @ite Nat (p n) (Classical.propDecidable (p n)) 1 0
theorem qc_t {p : Nat → Prop} {n : Nat} (h : p n) : qc_n p (n + 1) = qc_n p n + 1 := by
  show qc_n p n + _ = _
  rw [if_pos h]
theorem qc_f {p : Nat → Prop} {n : Nat} (h : ¬ p n) : qc_n p (n + 1) = qc_n p n := by
  show qc_n p n + _ = _
  rw [if_neg h, Nat.add_zero]
theorem qc_le {p : Nat → Prop} : ∀ n, qc_n p n ≤ n := by
  intro n
  induction n with
  | zero => exact Nat.le_refl 0
  | succ n ih =>
    by_cases h : p n
    · rw [qc_t h]; omega
    · rw [qc_f h]; omega
theorem qc_mono {p q : Nat → Prop} : ∀ n, (∀ i, i < n → p i → q i) → qc_n p n ≤ qc_n q n := by
  intro n
  induction n with
  | zero => intro _; exact Nat.le_refl 0
  | succ n ih =>
    intro h
    have h1 := ih (fun i hi => h i (by omega))
    by_cases hp : p n
    · rw [qc_t hp, qc_t (h n (by omega) hp)]; omega
    · rw [qc_f hp]
      by_cases hq : q n
      · rw [qc_t hq]; omega
      · rw [qc_f hq]; exact h1
theorem qc_cong {p q : Nat → Prop} (n : Nat) (h : ∀ i, i < n → (p i ↔ q i)) : qc_n p n = qc_n q n :=
  Nat.le_antisymm (qc_mono n fun i hi => (h i hi).mp) (qc_mono n fun i hi => (h i hi).mpr)
theorem qc_lt {p : Nat → Prop} : ∀ n i, i < n → ¬ p i → qc_n p n + 1 ≤ n := by
  intro n
  induction n with
  | zero => intro i hi; omega
  | succ n ih =>
    intro i hi hp
    by_cases e : i = n
    · subst e
      rw [qc_f hp]
      have := qc_le (p := p) i
      omega
    · have h1 := ih i (by omega) hp
      by_cases h : p n
      · rw [qc_t h]; omega
      · rw [qc_f h]; omega
/-- two apart counts within a third -/
theorem qc_add {p q r : Nat → Prop} : ∀ n, (∀ i, i < n → p i → r i) → (∀ i, i < n → q i → r i) → (∀ i, i < n → p i → ¬ q i) → qc_n p n + qc_n q n ≤ qc_n r n := by
  intro n
  induction n with
  | zero => intro _ _ _; exact Nat.le_refl 0
  | succ n ih =>
    intro hp hq hd
    have h1 := ih (fun i hi => hp i (by omega)) (fun i hi => hq i (by omega)) (fun i hi => hd i (by omega))
    by_cases a : p n
    · rw [qc_t a, qc_f (hd n (by omega) a), qc_t (hp n (by omega) a)]; omega
    · rw [qc_f a]
      by_cases b : q n
      · rw [qc_t b, qc_t (hq n (by omega) b)]; omega
      · rw [qc_f b]
        by_cases c : r n
        · rw [qc_t c]; omega
        · rw [qc_f c]; exact h1
/-- a count that two parts cover -/
theorem qc_cov {p q r : Nat → Prop} : ∀ n, (∀ i, i < n → r i → p i ∨ q i) → qc_n r n ≤ qc_n p n + qc_n q n := by
  intro n
  induction n with
  | zero => intro _; exact Nat.le_refl 0
  | succ n ih =>
    intro h
    have h1 := ih (fun i hi => h i (by omega))
    by_cases c : r n
    · rw [qc_t c]
      rcases h n (by omega) c with a | b
      · rw [qc_t a]
        by_cases b : q n
        · rw [qc_t b]; omega
        · rw [qc_f b]; omega
      · rw [qc_t b]
        by_cases a : p n
        · rw [qc_t a]; omega
        · rw [qc_f a]; omega
    · rw [qc_f c]
      have h2 : qc_n p n ≤ qc_n p (n + 1) := by
        by_cases a : p n
        · rw [qc_t a]; omega
        · rw [qc_f a]; exact Nat.le_refl _
      have h3 : qc_n q n ≤ qc_n q (n + 1) := by
        by_cases b : q n
        · rw [qc_t b]; omega
        · rw [qc_f b]; exact Nat.le_refl _
      omega
theorem qc_one {p : Nat → Prop} : ∀ n i, i < n → p i → 1 ≤ qc_n p n := by
  intro n
  induction n with
  | zero => intro i hi; omega
  | succ n ih =>
    intro i hi hp
    by_cases e : i = n
    · subst e; rw [qc_t hp]; omega
    · have h1 := ih i (by omega) hp
      by_cases h : p n
      · rw [qc_t h]; omega
      · rw [qc_f h]; exact h1
theorem qc_zero {p : Nat → Prop} (n : Nat) (h : ∀ i, i < n → ¬ p i) : qc_n p n = 0 := by
  induction n with
  | zero => rfl
  | succ n ih => rw [qc_f (h n (by omega))]; exact ih fun i hi => h i (by omega)
theorem qc_ex {p : Nat → Prop} : ∀ n, 1 ≤ qc_n p n → ∃ i, i < n ∧ p i := by
  intro n
  induction n with
  | zero => intro h; exact absurd h (Nat.not_succ_le_zero 0)
  | succ n ih =>
    intro h
    by_cases a : p n
    · exact ⟨n, by omega, a⟩
    · rw [qc_f a] at h
      obtain ⟨i, hi, hp⟩ := ih h
      exact ⟨i, by omega, hp⟩
/-- one that leaves the count -/
theorem qc_drop {p q : Nat → Prop} : ∀ n i, i < n → p i → ¬ q i → (∀ j, j < n → j ≠ i → (q j ↔ p j)) → qc_n p n = qc_n q n + 1 := by
  intro n
  induction n with
  | zero => intro i hi; omega
  | succ n ih =>
    intro i hi hp hq h
    by_cases e : i = n
    · subst e
      rw [qc_t hp, qc_f hq, qc_cong i (fun j hj => (h j (by omega) (by omega)).symm)]
    · have h1 := ih i (by omega) hp hq (fun j hj => h j (by omega))
      by_cases a : p n
      · rw [qc_t a, qc_t ((h n (by omega) (by omega)).mpr a), h1]
      · rw [qc_f a, qc_f (fun b => a ((h n (by omega) (by omega)).mp b)), h1]
/-- two of them -/
theorem qc_two {p : Nat → Prop} : ∀ n i j, i < j → j < n → p i → p j → 2 ≤ qc_n p n := by
  intro n
  induction n with
  | zero => intro i j _ hj; omega
  | succ n ih =>
    intro i j hij hj hi hp
    by_cases e : j = n
    · subst e
      rw [qc_t hp]
      have := qc_one j i hij hi
      omega
    · have h1 := ih i j hij (by omega) hi hp
      by_cases h : p n
      · rw [qc_t h]; omega
      · rw [qc_f h]; exact h1
theorem qc_three {p : Nat → Prop} : ∀ n i j k, i < j → j < k → k < n → p i → p j → p k → 3 ≤ qc_n p n := by
  intro n
  induction n with
  | zero => intro i j k _ _ hk; omega
  | succ n ih =>
    intro i j k hij hjk hk hi hj hp
    by_cases e : k = n
    · subst e
      rw [qc_t hp]
      have := qc_two k i j hij hjk hi hj
      omega
    · have h1 := ih i j k hij hjk (by omega) hi hj hp
      by_cases h : p n
      · rw [qc_t h]; omega
      · rw [qc_f h]; exact h1
/-- at most one, as no two -/
theorem qc_le1 {p : Nat → Prop} : ∀ n, (∀ i j, i < j → j < n → p i → ¬ p j) → qc_n p n ≤ 1 := by
  intro n
  induction n with
  | zero => intro _; exact Nat.zero_le 1
  | succ n ih =>
    intro h
    by_cases a : p n
    · rw [qc_t a, qc_zero n (fun i hi b => h i n hi (by omega) b a)]; exact Nat.le_refl 1
    · rw [qc_f a]; exact ih fun i j hij hj => h i j hij (by omega)
theorem qc_le2 {p : Nat → Prop} : ∀ n, (∀ i j k, i < j → j < k → k < n → p i → p j → ¬ p k) → qc_n p n ≤ 2 := by
  intro n
  induction n with
  | zero => intro _; exact Nat.zero_le 2
  | succ n ih =>
    intro h
    by_cases a : p n
    · have := qc_le1 n (fun i j hij hj x y => h i j n hij hj (by omega) x y a)
      rw [qc_t a]; omega
    · rw [qc_f a]; exact ih fun i j k hij hjk hk => h i j k hij hjk (by omega)
