section
def bt (x : Int32) (i : Nat) : Bool := x.toBitVec.getLsbD i
theorem b_ext {x y : Int32} (h : ∀ i, i < 32 → bt x i = bt y i) : x = y := Int32.toBitVec_inj.mp (BitVec.eq_of_getLsbD_eq (fun i hi => h i hi))
theorem b_or (x y : Int32) (i : Nat) : bt (x ||| y) i = (bt x i || bt y i) := by unfold bt; rw [Int32.toBitVec_or, BitVec.getLsbD_or]
theorem b_and (x y : Int32) (i : Nat) : bt (x &&& y) i = (bt x i && bt y i) := by unfold bt; rw [Int32.toBitVec_and, BitVec.getLsbD_and]
theorem b_0 (i : Nat) : bt 0 i = false := BitVec.getLsbD_zero
theorem s_l : ∀ n, n < 32 → ((nI n &&& 31).toBitVec.smod 32).toNat = n := by decide +kernel
theorem b_shl (n : Nat) (hn : n < 32) (x : Int32) {i : Nat} (hi : i < 32) : bt (x <<< (nI n &&& 31)) i = (decide (n ≤ i) && bt x (i - n)) := by
  unfold bt
  rw [Int32.toBitVec_shiftLeft]
  show (x.toBitVec <<< ((nI n &&& 31).toBitVec.smod 32).toNat).getLsbD i = _
  rw [s_l n hn, BitVec.getLsbD_shiftLeft]
  rcases Nat.lt_or_ge i n with h | h
  · simp [h, Nat.not_le.mpr h]
  · simp [hi, h, Nat.not_lt.mpr h]
theorem b_sshr (n : Nat) (hn : n < 32) (x : Int32) {i : Nat} (hi : i < 32) : bt (x >>> (nI n &&& 31)) i = if n + i < 32 then bt x (n + i) else bt x 31 := by
  unfold bt
  rw [Int32.toBitVec_shiftRight]
  show (x.toBitVec.sshiftRight ((nI n &&& 31).toBitVec.smod 32).toNat).getLsbD i = _
  rw [s_l n hn, BitVec.getLsbD_sshiftRight, BitVec.msb_eq_getLsbD_last]
  simp [hi]
end
section
/-- how many i below n have p -/
noncomputable def qc_n (p : Nat → Prop) : Nat → Nat
  | 0 => 0
  | n + 1 => qc_n p n + @ite Nat (p n) (Classical.propDecidable (p n)) 1 0
theorem qc_t {p : Nat → Prop} {n : Nat} (h : p n) : qc_n p (n + 1) = qc_n p n + 1 := by
  show qc_n p n + _ = _
  rw [if_pos h]
theorem qc_f {p : Nat → Prop} {n : Nat} (h : ¬ p n) : qc_n p (n + 1) = qc_n p n := by
  show qc_n p n + _ = _
  rw [if_neg h, Nat.add_zero]
theorem qc_le {p : Nat → Prop} : ∀ n, qc_n p n ≤ n := by
  intro n
  induction n with
  | zero => exact Nat.le_refl 0
  | succ n ih =>
    by_cases h : p n
    · rw [qc_t h]; omega
    · rw [qc_f h]; omega
theorem qc_mono {p q : Nat → Prop} : ∀ n, (∀ i, i < n → p i → q i) → qc_n p n ≤ qc_n q n := by
  intro n
  induction n with
  | zero => intro _; exact Nat.le_refl 0
  | succ n ih =>
    intro h
    have h1 := ih (fun i hi => h i (by omega))
    by_cases hp : p n
    · rw [qc_t hp, qc_t (h n (by omega) hp)]; omega
    · rw [qc_f hp]
      by_cases hq : q n
      · rw [qc_t hq]; omega
      · rw [qc_f hq]; exact h1
theorem qc_cong {p q : Nat → Prop} (n : Nat) (h : ∀ i, i < n → (p i ↔ q i)) : qc_n p n = qc_n q n :=
  Nat.le_antisymm (qc_mono n fun i hi => (h i hi).mp) (qc_mono n fun i hi => (h i hi).mpr)
theorem qc_lt {p : Nat → Prop} : ∀ n i, i < n → ¬ p i → qc_n p n + 1 ≤ n := by
  intro n
  induction n with
  | zero => intro i hi; omega
  | succ n ih =>
    intro i hi hp
    by_cases e : i = n
    · subst e
      rw [qc_f hp]
      have := qc_le (p := p) i
      omega
    · have h1 := ih i (by omega) hp
      by_cases h : p n
      · rw [qc_t h]; omega
      · rw [qc_f h]; omega
/-- two apart counts within a third -/
theorem qc_add {p q r : Nat → Prop} : ∀ n, (∀ i, i < n → p i → r i) → (∀ i, i < n → q i → r i) → (∀ i, i < n → p i → ¬ q i) → qc_n p n + qc_n q n ≤ qc_n r n := by
  intro n
  induction n with
  | zero => intro _ _ _; exact Nat.le_refl 0
  | succ n ih =>
    intro hp hq hd
    have h1 := ih (fun i hi => hp i (by omega)) (fun i hi => hq i (by omega)) (fun i hi => hd i (by omega))
    by_cases a : p n
    · rw [qc_t a, qc_f (hd n (by omega) a), qc_t (hp n (by omega) a)]; omega
    · rw [qc_f a]
      by_cases b : q n
      · rw [qc_t b, qc_t (hq n (by omega) b)]; omega
      · rw [qc_f b]
        by_cases c : r n
        · rw [qc_t c]; omega
        · rw [qc_f c]; exact h1
/-- a count that two parts cover -/
theorem qc_cov {p q r : Nat → Prop} : ∀ n, (∀ i, i < n → r i → p i ∨ q i) → qc_n r n ≤ qc_n p n + qc_n q n := by
  intro n
  induction n with
  | zero => intro _; exact Nat.le_refl 0
  | succ n ih =>
    intro h
    have h1 := ih (fun i hi => h i (by omega))
    by_cases c : r n
    · rw [qc_t c]
      rcases h n (by omega) c with a | b
      · rw [qc_t a]
        by_cases b : q n
        · rw [qc_t b]; omega
        · rw [qc_f b]; omega
      · rw [qc_t b]
        by_cases a : p n
        · rw [qc_t a]; omega
        · rw [qc_f a]; omega
    · rw [qc_f c]
      have h2 : qc_n p n ≤ qc_n p (n + 1) := by
        by_cases a : p n
        · rw [qc_t a]; omega
        · rw [qc_f a]; exact Nat.le_refl _
      have h3 : qc_n q n ≤ qc_n q (n + 1) := by
        by_cases b : q n
        · rw [qc_t b]; omega
        · rw [qc_f b]; exact Nat.le_refl _
      omega
theorem qc_one {p : Nat → Prop} : ∀ n i, i < n → p i → 1 ≤ qc_n p n := by
  intro n
  induction n with
  | zero => intro i hi; omega
  | succ n ih =>
    intro i hi hp
    by_cases e : i = n
    · subst e; rw [qc_t hp]; omega
    · have h1 := ih i (by omega) hp
      by_cases h : p n
      · rw [qc_t h]; omega
      · rw [qc_f h]; exact h1
theorem qc_zero {p : Nat → Prop} (n : Nat) (h : ∀ i, i < n → ¬ p i) : qc_n p n = 0 := by
  induction n with
  | zero => rfl
  | succ n ih => rw [qc_f (h n (by omega))]; exact ih fun i hi => h i (by omega)
theorem qc_ex {p : Nat → Prop} : ∀ n, 1 ≤ qc_n p n → ∃ i, i < n ∧ p i := by
  intro n
  induction n with
  | zero => intro h; exact absurd h (Nat.not_succ_le_zero 0)
  | succ n ih =>
    intro h
    by_cases a : p n
    · exact ⟨n, by omega, a⟩
    · rw [qc_f a] at h
      obtain ⟨i, hi, hp⟩ := ih h
      exact ⟨i, by omega, hp⟩
/-- one that leaves the count -/
theorem qc_drop {p q : Nat → Prop} : ∀ n i, i < n → p i → ¬ q i → (∀ j, j < n → j ≠ i → (q j ↔ p j)) → qc_n p n = qc_n q n + 1 := by
  intro n
  induction n with
  | zero => intro i hi; omega
  | succ n ih =>
    intro i hi hp hq h
    by_cases e : i = n
    · subst e
      rw [qc_t hp, qc_f hq, qc_cong i (fun j hj => (h j (by omega) (by omega)).symm)]
    · have h1 := ih i (by omega) hp hq (fun j hj => h j (by omega))
      by_cases a : p n
      · rw [qc_t a, qc_t ((h n (by omega) (by omega)).mpr a), h1]
      · rw [qc_f a, qc_f (fun b => a ((h n (by omega) (by omega)).mp b)), h1]
/-- two of them -/
theorem qc_two {p : Nat → Prop} : ∀ n i j, i < j → j < n → p i → p j → 2 ≤ qc_n p n := by
  intro n
  induction n with
  | zero => intro i j _ hj; omega
  | succ n ih =>
    intro i j hij hj hi hp
    by_cases e : j = n
    · subst e
      rw [qc_t hp]
      have := qc_one j i hij hi
      omega
    · have h1 := ih i j hij (by omega) hi hp
      by_cases h : p n
      · rw [qc_t h]; omega
      · rw [qc_f h]; exact h1
theorem qc_three {p : Nat → Prop} : ∀ n i j k, i < j → j < k → k < n → p i → p j → p k → 3 ≤ qc_n p n := by
  intro n
  induction n with
  | zero => intro i j k _ _ hk; omega
  | succ n ih =>
    intro i j k hij hjk hk hi hj hp
    by_cases e : k = n
    · subst e
      rw [qc_t hp]
      have := qc_two k i j hij hjk hi hj
      omega
    · have h1 := ih i j k hij hjk (by omega) hi hj hp
      by_cases h : p n
      · rw [qc_t h]; omega
      · rw [qc_f h]; exact h1
/-- at most one, as no two -/
theorem qc_le1 {p : Nat → Prop} : ∀ n, (∀ i j, i < j → j < n → p i → ¬ p j) → qc_n p n ≤ 1 := by
  intro n
  induction n with
  | zero => intro _; exact Nat.zero_le 1
  | succ n ih =>
    intro h
    by_cases a : p n
    · rw [qc_t a, qc_zero n (fun i hi b => h i n hi (by omega) b a)]; exact Nat.le_refl 1
    · rw [qc_f a]; exact ih fun i j hij hj => h i j hij (by omega)
theorem qc_le2 {p : Nat → Prop} : ∀ n, (∀ i j k, i < j → j < k → k < n → p i → p j → ¬ p k) → qc_n p n ≤ 2 := by
  intro n
  induction n with
  | zero => intro _; exact Nat.zero_le 2
  | succ n ih =>
    intro h
    by_cases a : p n
    · have := qc_le1 n (fun i j hij hj x y => h i j n hij hj (by omega) x y a)
      rw [qc_t a]; omega
    · rw [qc_f a]; exact ih fun i j k hij hjk hk => h i j k hij hjk (by omega)
end
section
/-- a valid schedule of length at most len: lat latencies, dl delays (below 0: no edge), un units (0: the issue slot alone) -/
def qs_V (n : Nat) (lat : Nat → Int) (dl : Nat → Nat → Int) (un : Nat → Nat) (len : Int) (c : Nat → Int) : Prop :=
  (∀ i, i < n → 0 ≤ c i ∧ c i + lat i ≤ len) ∧
  (∀ i j, i < j → j < n → 0 ≤ dl i j → c i + dl i j ≤ c j) ∧
  (∀ i j k, i < j → j < k → k < n → c i = c j → c j = c k → False) ∧
  (∀ i j, i < j → j < n → c i = c j → un i = un j → un i = 0)
/-- a greatest one of finitely many, not below b -/
theorem qg_max (b : Int) (f : Nat → Int) (p : Nat → Prop) : ∀ m, ∃ r, b ≤ r ∧ (∀ i, i < m → p i → f i ≤ r) ∧ (r = b ∨ ∃ i, i < m ∧ p i ∧ f i = r) := by
  intro m
  induction m with
  | zero => exact ⟨b, Int.le_refl b, fun i hi => absurd hi (Nat.not_lt_zero i), Or.inl rfl⟩
  | succ m ih =>
    obtain ⟨r, hb, hr, ht⟩ := ih
    by_cases hp : p m
    · by_cases hl : f m ≤ r
      · refine ⟨r, hb, fun i hi pi => ?_, ?_⟩
        · by_cases e : i = m
          · subst e; exact hl
          · exact hr i (by omega) pi
        · rcases ht with h | ⟨i, hi, h⟩
          · exact Or.inl h
          · exact Or.inr ⟨i, by omega, h⟩
      · refine ⟨f m, by omega, fun i hi pi => ?_, Or.inr ⟨m, by omega, hp, rfl⟩⟩
        by_cases e : i = m
        · subst e; exact Int.le_refl _
        · have := hr i (by omega) pi
          omega
    · refine ⟨r, hb, fun i hi pi => ?_, ?_⟩
      · by_cases e : i = m
        · subst e; exact absurd pi hp
        · exact hr i (by omega) pi
      · rcases ht with h | ⟨i, hi, h⟩
        · exact Or.inl h
        · exact Or.inr ⟨i, by omega, h⟩
/-- set, or placed below k -/
def qg_P (A : Nat → Prop) (k j : Nat) : Prop := A j ∨ j < k
noncomputable def qg_N (n : Nat) (A : Nat → Prop) (k : Nat) (c : Nat → Int) (x : Int) : Nat := qc_n (fun i => qg_P A k i ∧ c i < x) n
theorem qg_Nmono {n : Nat} {A : Nat → Prop} {k : Nat} {c : Nat → Int} {x y : Int} (h : x ≤ y) : qg_N n A k c x ≤ qg_N n A k c y :=
  qc_mono n fun _ _ p => ⟨p.1, by have := p.2; omega⟩
theorem qg_Nsucc {n : Nat} {A : Nat → Prop} {k : Nat} {c : Nat → Int} {x : Int} (j : Nat) (hj : j < n) (hp : qg_P A k j) (hc : c j = x) : qg_N n A k c x + 1 ≤ qg_N n A k c (x + 1) := by
  have h := qc_add (p := fun i => qg_P A k i ∧ c i < x) (q := fun i => i = j) (r := fun i => qg_P A k i ∧ c i < x + 1) n
    (fun i _ p => ⟨p.1, by have := p.2; omega⟩) (fun i _ q => by subst q; exact ⟨hp, by omega⟩)
    (fun i _ p q => by subst q; have := p.2; omega)
  have h1 := qc_one (p := fun i => i = j) n j hj rfl
  show qc_n _ n + 1 ≤ qc_n _ n
  omega
/-- a cycle that k can't have beside what is placed -/
def qg_B (n : Nat) (un : Nat → Nat) (A : Nat → Prop) (k : Nat) (c : Nat → Int) (t : Int) : Prop :=
  ∃ j, j < n ∧ qg_P A k j ∧ c j = t ∧ ((un j = un k ∧ un k ≠ 0) ∨ ∃ i, i < n ∧ i ≠ j ∧ qg_P A k i ∧ c i = t)
def qg_Q (n : Nat) (dl : Nat → Nat → Int) (un : Nat → Nat) (A : Nat → Prop) (t e : Nat → Int) (k : Nat) (c : Nat → Int) : Prop :=
  (∀ j, j < n → A j → c j = t j) ∧
  (∀ j, j < n → qg_P A k j → e j ≤ c j ∧ c j ≤ e j + (qg_N n A k c (c j) : Int)) ∧
  (∀ i j, i < j → j < n → qg_P A k i → qg_P A k j → 0 ≤ dl i j → c i + dl i j ≤ c j) ∧
  (∀ i j m, i < j → j < m → m < n → qg_P A k i → qg_P A k j → qg_P A k m → c i = c j → c j = c m → False) ∧
  (∀ i j, i < j → j < n → qg_P A k i → qg_P A k j → c i = c j → un i = un j → un i = 0)
/-- from r on there is a cycle that isn't blocked, and the count keeps up with it -/
theorem qg_scan {n : Nat} {un : Nat → Nat} {A : Nat → Prop} {k : Nat} {c : Nat → Int} {r b : Int} (hb : b ≤ r) (h : r ≤ b + (qg_N n A k c r : Int)) : ∃ t, r ≤ t ∧ ¬ qg_B n un A k c t ∧ t ≤ b + (qg_N n A k c t : Int) := by
  have H : ∀ s : Nat, (∃ t, r ≤ t ∧ ¬ qg_B n un A k c t ∧ t ≤ b + (qg_N n A k c t : Int)) ∨ r + (s : Int) ≤ b + (qg_N n A k c (r + (s : Int)) : Int) := by
    intro s
    induction s with
    | zero => exact Or.inr (by simpa using h)
    | succ s ih =>
      rcases ih with h1 | h1
      · exact Or.inl h1
      · by_cases hB : qg_B n un A k c (r + (s : Int))
        · obtain ⟨j, hj, hp, hc, _⟩ := hB
          have h2 := qg_Nsucc j hj hp hc
          refine Or.inr ?_
          have e : r + ((s + 1 : Nat) : Int) = r + (s : Int) + 1 := by omega
          rw [e]
          omega
        · exact Or.inl ⟨r + (s : Int), by omega, hB, h1⟩
  rcases H (n + 1) with h1 | h1
  · exact h1
  · have h2 : qg_N n A k c (r + ((n + 1 : Nat) : Int)) ≤ n := qc_le n
    omega
def qg_up (c : Nat → Int) (k : Nat) (x : Int) : Nat → Int := fun j => if j = k then x else c j
theorem qg_us {c : Nat → Int} {k : Nat} {x : Int} : qg_up c k x k = x := if_pos rfl
theorem qg_un {c : Nat → Int} {k j : Nat} {x : Int} (h : j ≠ k) : qg_up c k x j = c j := if_neg h
theorem qg_step {n : Nat} {dl : Nat → Nat → Int} {un : Nat → Nat} {A : Nat → Prop} {t e : Nat → Int} (hn : n ≤ 10)
    (he : ∀ i j, i < j → j < n → 0 ≤ dl i j → e i + dl i j ≤ e j)
    (hA : ∀ i j, i < j → j < n → ¬ A i → A j → 0 ≤ dl i j → e i + 9 + dl i j ≤ t j)
    {k : Nat} (hk : k < n) {c : Nat → Int} (Q : qg_Q n dl un A t e k c) : ∃ c', qg_Q n dl un A t e (k + 1) c' := by
  obtain ⟨q1, q2, q3, q4, q5⟩ := Q
  by_cases a : A k
  · have E : ∀ j, qg_P A (k + 1) j → qg_P A k j := by
      intro j h
      rcases h with h | h
      · exact Or.inl h
      · by_cases x : j = k
        · subst x; exact Or.inl a
        · exact Or.inr (by omega)
    have E' : ∀ j, qg_P A k j → qg_P A (k + 1) j := fun j h => h.elim Or.inl (fun h => Or.inr (by omega))
    refine ⟨c, q1, fun j hj p => ⟨(q2 j hj (E j p)).1, ?_⟩, fun i j hij hj p q => q3 i j hij hj (E i p) (E j q), fun i j m hij hjm hm p q r => q4 i j m hij hjm hm (E i p) (E j q) (E m r), fun i j hij hj p q => q5 i j hij hj (E i p) (E j q)⟩
    have h1 := (q2 j hj (E j p)).2
    have h2 : qg_N n A k c (c j) ≤ qg_N n A (k + 1) c (c j) := qc_mono n fun i _ p => ⟨E' i p.1, p.2⟩
    omega
  · have nk : ¬ qg_P A k k := fun h => h.elim a (Nat.lt_irrefl k)
    have ne : ∀ j, qg_P A k j → j ≠ k := fun j h x => nk (by rw [x] at h; exact h)
    obtain ⟨r, hb, hr, ht⟩ := qg_max (e k) (fun p => c p + dl p k) (fun p => 0 ≤ dl p k) k
    have hr0 : r ≤ e k + (qg_N n A k c r : Int) := by
      rcases ht with h | ⟨p, hp, hd, h⟩
      · omega
      · have h1 := (q2 p (by omega) (Or.inr hp)).2
        have h2 := he p k hp hk hd
        have h3 : qg_N n A k c (c p) ≤ qg_N n A k c r := qg_Nmono (by omega)
        omega
    obtain ⟨x, hx, hB, hN⟩ := qg_scan (un := un) hb hr0
    have hN9 : qg_N n A k c x + 1 ≤ n := qc_lt n k hk fun h => nk h.1
    have old : ∀ j, qg_P A (k + 1) j → j ≠ k → qg_P A k j := by
      intro j h hj
      rcases h with h | h
      · exact Or.inl h
      · exact Or.inr (by omega)
    have cu : ∀ j, j ≠ k → qg_up c k x j = c j := fun j h => qg_un h
    have ck : qg_up c k x k = x := qg_us
    have hM : ∀ y, qg_N n A k c y ≤ qg_N n A (k + 1) (qg_up c k x) y := fun y => qc_mono n fun i _ p =>
      ⟨p.1.elim Or.inl (fun h => Or.inr (by omega)), by rw [cu i (ne i p.1)]; exact p.2⟩
    refine ⟨qg_up c k x, fun j hj aj => ?_, fun j hj p => ?_, fun i j hij hj p q hd => ?_, fun i j m hij hjm hm p q r h1 h2 => ?_, fun i j hij hj p q h1 h2 => ?_⟩
    · rw [cu j (fun h => a (h ▸ aj))]; exact q1 j hj aj
    · by_cases ej : j = k
      · subst ej
        rw [ck]
        have := hM x
        exact ⟨by omega, by omega⟩
      · rw [cu j ej]
        have h1 := q2 j hj (old j p ej)
        have := hM (c j)
        exact ⟨h1.1, by omega⟩
    · by_cases ej : j = k
      · subst ej
        rw [ck, cu i (by omega)]
        have := hr i hij hd
        omega
      · by_cases ei : i = k
        · subst ei
          have aj : A j := q.elim id (fun h => absurd h (by omega))
          rw [ck, cu j ej, q1 j hj aj]
          have := hA i j hij hj a aj hd
          omega
        · rw [cu i ei, cu j ej]; exact q3 i j hij hj (old i p ei) (old j q ej) hd
    · by_cases e1 : i = k
      · subst e1
        rw [ck, cu j (by omega)] at h1
        rw [cu j (by omega), cu m (by omega)] at h2
        exact hB ⟨j, by omega, old j q (by omega), h1.symm, Or.inr ⟨m, hm, by omega, old m r (by omega), by omega⟩⟩
      · by_cases e2 : j = k
        · subst e2
          rw [ck, cu i e1] at h1
          rw [ck, cu m (by omega)] at h2
          exact hB ⟨i, by omega, old i p e1, h1, Or.inr ⟨m, hm, by omega, old m r (by omega), h2.symm⟩⟩
        · by_cases e3 : m = k
          · subst e3
            rw [cu i e1, cu j e2] at h1
            rw [ck, cu j e2] at h2
            exact hB ⟨j, by omega, old j q e2, h2, Or.inr ⟨i, by omega, by omega, old i p e1, by omega⟩⟩
          · rw [cu i e1, cu j e2] at h1
            rw [cu m e3, cu j e2] at h2
            exact q4 i j m hij hjm hm (old i p e1) (old j q e2) (old m r e3) h1 h2
    · by_cases e1 : i = k
      · subst e1
        rw [ck, cu j (by omega)] at h1
        by_cases z : un i = 0
        · exact z
        · exact absurd ⟨j, hj, old j q (by omega), h1.symm, Or.inl ⟨h2.symm, z⟩⟩ hB
      · by_cases e2 : j = k
        · subst e2
          rw [ck, cu i e1] at h1
          by_cases z : un i = 0
          · exact z
          · exact absurd ⟨i, by omega, old i p e1, h1, Or.inl ⟨h2, by rw [← h2]; exact z⟩⟩ hB
        · rw [cu i e1, cu j e2] at h1
          exact q5 i j hij hj (old i p e1) (old j q e2) h1 h2
/-- GREEDY -/
theorem qg_main {n : Nat} {dl : Nat → Nat → Int} {un : Nat → Nat} {A : Nat → Prop} {t e : Nat → Int} (hn : n ≤ 10)
    (he : ∀ i j, i < j → j < n → 0 ≤ dl i j → e i + dl i j ≤ e j)
    (hA : ∀ i j, i < j → j < n → ¬ A i → A j → 0 ≤ dl i j → e i + 9 + dl i j ≤ t j)
    (ht : ∀ j, j < n → A j → e j = t j)
    (h3 : ∀ i j m, i < j → j < m → m < n → A i → A j → A m → t i = t j → t j = t m → False)
    (h4 : ∀ i j, i < j → j < n → A i → A j → t i = t j → un i = un j → un i = 0) :
    ∃ c : Nat → Int, (∀ j, j < n → A j → c j = t j) ∧ (∀ j, j < n → e j ≤ c j ∧ c j ≤ e j + 9) ∧
      (∀ i j, i < j → j < n → 0 ≤ dl i j → c i + dl i j ≤ c j) ∧
      (∀ i j k, i < j → j < k → k < n → c i = c j → c j = c k → False) ∧
      (∀ i j, i < j → j < n → c i = c j → un i = un j → un i = 0) := by
  have H : ∀ k, k ≤ n → ∃ c, qg_Q n dl un A t e k c := by
    intro k
    induction k with
    | zero =>
      intro _
      have E : ∀ j, qg_P A 0 j → A j := fun j h => h.elim id (fun h => absurd h (Nat.not_lt_zero j))
      refine ⟨t, fun _ _ _ => rfl, fun j hj p => ⟨by have := ht j hj (E j p); omega, by have := ht j hj (E j p); omega⟩, fun i j hij hj p q hd => ?_, fun i j m hij hjm hm p q r => h3 i j m hij hjm hm (E i p) (E j q) (E m r), fun i j hij hj p q => h4 i j hij hj (E i p) (E j q)⟩
      have h1 := he i j hij hj hd
      rw [ht i (by omega) (E i p), ht j hj (E j q)] at h1
      exact h1
    | succ k ih =>
      intro hk
      obtain ⟨c, Q⟩ := ih (by omega)
      exact qg_step hn he hA (by omega) Q
  obtain ⟨c, q1, q2, q3, q4, q5⟩ := H n (Nat.le_refl n)
  refine ⟨c, q1, fun j hj => ⟨(q2 j hj (Or.inr hj)).1, ?_⟩, fun i j hij hj => q3 i j hij hj (Or.inr (by omega)) (Or.inr hj), fun i j k hij hjk hk => q4 i j k hij hjk hk (Or.inr (by omega)) (Or.inr (by omega)) (Or.inr hk), fun i j hij hj => q5 i j hij hj (Or.inr (by omega)) (Or.inr hj)⟩
  have h1 := (q2 j hj (Or.inr hj)).2
  have h2 : qg_N n A n c (c j) + 1 ≤ n := qc_lt n j hj fun h => by have := h.2; omega
  omega
end
section
/-- waits: the delays, but one where two of one scarce unit would share a cycle -/
def qw_W (n : Nat) (dl wt : Nat → Nat → Int) (un : Nat → Nat) : Prop :=
  ∀ i j, i < j → j < n → wt i j = dl i j ∨ (dl i j = 0 ∧ wt i j = 1 ∧ un i = un j ∧ un i ≠ 0)
theorem qw_V {n : Nat} {lat : Nat → Int} {dl wt : Nat → Nat → Int} {un : Nat → Nat} {len : Int} {c : Nat → Int} (hw : qw_W n dl wt un) (V : qs_V n lat dl un len c) {i j : Nat} (hij : i < j) (hj : j < n) (h : 0 ≤ wt i j) : c i + wt i j ≤ c j := by
  rcases hw i j hij hj with e | ⟨e0, e1, e2, e3⟩
  · rw [e] at h ⊢
    exact V.2.1 i j hij hj h
  · have h1 := V.2.1 i j hij hj (by omega)
    by_cases x : c i = c j
    · exact absurd (V.2.2.2 i j hij hj x e2) e3
    · omega
theorem qw_d {n : Nat} {dl wt : Nat → Nat → Int} {un : Nat → Nat} (hw : qw_W n dl wt un) {i j : Nat} (hij : i < j) (hj : j < n) (h : 0 ≤ dl i j) : dl i j ≤ wt i j ∧ 0 ≤ wt i j := by
  rcases hw i j hij hj with e | ⟨e0, e1, _, _⟩
  · omega
  · omega
/-- a schedule that goes on with trial t, the unset ones not before lo -/
def qo_C (n : Nat) (lat : Nat → Int) (dl : Nat → Nat → Int) (un : Nat → Nat) (len : Int) (t lo c : Nat → Int) : Prop :=
  qs_V n lat dl un len c ∧ (∀ i, i < n → t i ≠ -1 → c i = t i) ∧ (∀ i, i < n → t i = -1 → lo i ≤ c i)
/-- what narrowing leaves behind where it answers true -/
def qo_O (n : Nat) (lat : Nat → Int) (wt : Nat → Nat → Int) (un : Nat → Nat) (len : Int) (t e : Nat → Int) : Prop :=
  (∀ i, i < n → t i = -1 → 0 ≤ e i ∧ e i + lat i ≤ len) ∧
  (∀ i, i < n → t i ≠ -1 → e i = t i) ∧
  (∀ i j, i < j → j < n → 0 ≤ wt i j → e i + wt i j ≤ e j) ∧
  (∀ i j k, i < j → j < k → k < n → t i ≠ -1 → t j ≠ -1 → t k ≠ -1 → t i = t j → t j = t k → False) ∧
  (∀ i j, i < j → j < n → t i ≠ -1 → t j ≠ -1 → t i = t j → un i = un j → un i = 0) ∧
  (∀ i j, i < n → j < n → t i = -1 → t j ≠ -1 → e i = t j → un i = un j → un i = 0) ∧
  (∀ i j k, i < n → j < k → k < n → t i = -1 → t j ≠ -1 → t k ≠ -1 → t j = t k → e i ≠ t j)
/-- what narrowing promises -/
def qo_S (n : Nat) (lat : Nat → Int) (dl wt : Nat → Nat → Int) (un : Nat → Nat) (len : Int) (t lo : Nat → Int) (b : Bool) (e : Nat → Int) : Prop :=
  (∀ c, qo_C n lat dl un len t lo c → b = true ∧ ∀ i, i < n → e i ≤ c i) ∧
  (b = true → qo_O n lat wt un len t e)
/-- the first in line -/
def qo_T (n : Nat) (t e : Nat → Int) (i : Nat) : Prop := i < n ∧ t i = -1 ∧ ∀ j, j < n → t j = -1 → e i ≤ e j ∧ (j < i → e i < e j)
/-- its rivals -/
def qo_R (n : Nat) (t e : Nat → Int) (i j : Nat) : Prop := i < j ∧ j < n ∧ t j = -1 ∧ e j = e i
/-- where those left may go once k has cycle x -/
def qo_lk (k : Nat) (x : Int) : Nat → Int := fun j => if k < j then x else x + 1
theorem qo_lkg {k j : Nat} {x : Int} (h : k < j) : qo_lk k x j = x := if_pos h
theorem qo_lkl {k j : Nat} {x : Int} (h : ¬ k < j) : qo_lk k x j = x + 1 := if_neg h
/-- the least one of finitely many -/
theorem qo_least {p : Nat → Prop} : ∀ n, (∃ i, i < n ∧ p i) → ∃ k, k < n ∧ p k ∧ ∀ j, j < k → ¬ p j := by
  intro n
  induction n with
  | zero => intro ⟨i, hi, _⟩; exact absurd hi (Nat.not_lt_zero i)
  | succ n ih =>
    intro ⟨i, hi, hp⟩
    by_cases h : ∃ i, i < n ∧ p i
    · obtain ⟨k, hk, h1, h2⟩ := ih h
      exact ⟨k, by omega, h1, h2⟩
    · refine ⟨i, hi, hp, fun j hj pj => h ⟨j, by omega, pj⟩⟩
/-- NOTHING IS MISSED: a node with a schedule has a child with one -/
theorem qo_kid {n : Nat} {lat : Nat → Int} {dl wt : Nat → Nat → Int} {un : Nat → Nat} {len : Int} {t lo e : Nat → Int} (hw : qw_W n dl wt un) (S : qo_S n lat dl wt un len t lo true e) {i : Nat} (T : qo_T n t e i) {c : Nat → Int} (C : qo_C n lat dl un len t lo c) :
    ∃ k, (k = i ∨ qo_R n t e i k) ∧ ∃ c', qo_C n lat dl un len (qg_up t k (e i)) (qo_lk k (e i)) c' := by
  obtain ⟨hi, ti, ht⟩ := T
  obtain ⟨o1, o2, o3, o4, o5, o6, o7⟩ := S.2 rfl
  have hec := (S.1 c C).2
  obtain ⟨V, c1, c2⟩ := C
  by_cases h : ∃ k, k < n ∧ (t k = -1 ∧ c k = e i)
  · obtain ⟨k, hk, ⟨tk, ck⟩, hmin⟩ := qo_least n h
    have h1 := ht k hk tk
    have h2 := hec k hk
    refine ⟨k, ?_, c, V, fun j hj hz => ?_, fun j hj hz => ?_⟩
    · by_cases x : k = i
      · exact Or.inl x
      · refine Or.inr ⟨?_, hk, tk, by omega⟩
        by_cases y : k < i
        · have := h1.2 y
          omega
        · omega
    · by_cases x : j = k
      · rw [x, qg_us]; exact ck
      · rw [qg_un x] at hz ⊢
        exact c1 j hj hz
    · by_cases x : j = k
      · rw [x, qg_us] at hz
        have := (o1 i hi ti).1
        omega
      · rw [qg_un x] at hz
        have h3 := ht j hj hz
        have h4 := hec j hj
        by_cases y : k < j
        · rw [qo_lkg y]; omega
        · rw [qo_lkl y]
          have h5 := hmin j (by omega)
          have h6 : c j ≠ e i := fun z => h5 ⟨hz, z⟩
          omega
  · have hno : ∀ k, k < n → t k = -1 → c k ≠ e i := fun k hk tk ck => h ⟨k, hk, tk, ck⟩
    have cu : ∀ j, j ≠ i → qg_up c i (e i) j = c j := fun j hj => qg_un hj
    have ci : qg_up c i (e i) i = e i := qg_us
    have hei := hec i hi
    have hs : ∀ j, j < n → c j = e i → t j ≠ -1 ∧ t j = e i := by
      intro j hj x
      have h1 : t j ≠ -1 := fun y => hno j hj y x
      exact ⟨h1, by rw [← c1 j hj h1]; exact x⟩
    refine ⟨i, Or.inl rfl, qg_up c i (e i), ⟨fun j hj => ?_, fun a b hab hb hd => ?_, fun a b d hab hbd hd h1 h2 => ?_, fun a b hab hb h1 h2 => ?_⟩, fun j hj hz => ?_, fun j hj hz => ?_⟩
    · by_cases x : j = i
      · rw [x, ci]; exact o1 i hi ti
      · rw [cu j x]; exact V.1 j hj
    · by_cases x : b = i
      · subst x
        rw [ci, cu a (by omega)]
        have h1 := qw_d hw hab hb hd
        have h2 := o3 a b hab hb h1.2
        by_cases y : t a = -1
        · have h3 := (ht a (by omega) y).2 hab
          omega
        · rw [c1 a (by omega) y, ← o2 a (by omega) y]; omega
      · have h1 := V.2.1 a b hab hb hd
        rw [cu b x]
        by_cases y : a = i
        · subst y; rw [ci]; omega
        · rw [cu a y]; exact h1
    · by_cases xa : a = i
      · subst xa
        rw [ci, cu b (by omega)] at h1
        rw [cu b (by omega), cu d (by omega)] at h2
        have hb' := hs b (by omega) h1.symm
        have hd' := hs d hd (by omega)
        exact o7 a b d hi hbd hd ti hb'.1 hd'.1 (by omega) (by omega)
      · by_cases xb : b = i
        · subst xb
          rw [ci, cu a xa] at h1
          rw [ci, cu d (by omega)] at h2
          have ha' := hs a (by omega) h1
          have hd' := hs d hd h2.symm
          exact o7 b a d hi (by omega) hd ti ha'.1 hd'.1 (by omega) (by omega)
        · by_cases xd : d = i
          · subst xd
            rw [cu a xa, cu b xb] at h1
            rw [ci, cu b xb] at h2
            have ha' := hs a (by omega) (by omega)
            have hb' := hs b (by omega) h2
            exact o7 d a b hi hab (by omega) ti ha'.1 hb'.1 (by omega) (by omega)
          · rw [cu a xa, cu b xb] at h1
            rw [cu b xb, cu d xd] at h2
            exact V.2.2.1 a b d hab hbd hd h1 h2
    · by_cases xa : a = i
      · subst xa
        rw [ci, cu b (by omega)] at h1
        have hb' := hs b hb h1.symm
        exact o6 a b hi hb ti hb'.1 (by omega) h2
      · by_cases xb : b = i
        · subst xb
          rw [ci, cu a xa] at h1
          have ha' := hs a (by omega) h1
          rw [h2]
          exact o6 b a hi (by omega) ti ha'.1 (by omega) h2.symm
        · rw [cu a xa, cu b xb] at h1
          exact V.2.2.2 a b hab hb h1 h2
    · by_cases x : j = i
      · rw [x, qg_us, qg_us]
      · rw [qg_un x] at hz
        rw [qg_un x, qg_un x]
        exact c1 j hj hz
    · by_cases x : j = i
      · rw [x, qg_us] at hz
        have := (o1 i hi ti).1
        omega
      · rw [qg_un x] at hz
        rw [qg_un x]
        have h3 := (ht j hj hz).1
        have h4 := hec j hj
        have h5 := hno j hj hz
        by_cases y : i < j
        · rw [qo_lkg y]; omega
        · rw [qo_lkl y]; omega
/-- a child's schedule is the node's -/
theorem qo_up {n : Nat} {lat : Nat → Int} {dl : Nat → Nat → Int} {un : Nat → Nat} {len : Int} {t : Nat → Int} {k : Nat} {x : Int} {lo c : Nat → Int} (h : t k = -1) (C : qo_C n lat dl un len (qg_up t k x) lo c) : ∀ i, i < n → t i ≠ -1 → c i = t i := by
  intro i hi hz
  have e : i ≠ k := fun e => hz (by rw [e]; exact h)
  have h1 := C.2.1 i hi (by rw [qg_un e]; exact hz)
  rw [qg_un e] at h1
  exact h1
/-- all set, nothing wrong: a schedule -/
theorem qo_acc {n : Nat} {lat : Nat → Int} {dl wt : Nat → Nat → Int} {un : Nat → Nat} {len : Int} {t e : Nat → Int} (hw : qw_W n dl wt un) (O : qo_O n lat wt un len t e) (ha : ∀ i, i < n → t i ≠ -1) (hr : ∀ i, i < n → t i = -1 ∨ (0 ≤ t i ∧ t i + lat i ≤ len)) : qs_V n lat dl un len t := by
  obtain ⟨o1, o2, o3, o4, o5, o6, o7⟩ := O
  refine ⟨fun i hi => (hr i hi).resolve_left (ha i hi), fun i j hij hj hd => ?_, fun i j k hij hjk hk => o4 i j k hij hjk hk (ha i (by omega)) (ha j (by omega)) (ha k hk), fun i j hij hj => o5 i j hij hj (ha i (by omega)) (ha j hj)⟩
  have h1 := qw_d hw hij hj hd
  have h2 := o3 i j hij hj h1.2
  rw [o2 i (by omega) (ha i (by omega)), o2 j hj (ha j hj)] at h2
  omega
end
section
def qd_f : Nat → Nat
  | 0 => 1
  | m + 1 => 1 + (m + 1) * qd_f m
theorem qd_f1 : ∀ m, 1 ≤ qd_f m := by
  intro m
  cases m with
  | zero => exact Nat.le_refl 1
  | succ m => show 1 ≤ 1 + (m + 1) * qd_f m; omega
theorem qd_fm (m : Nat) : qd_f m ≤ qd_f (m + 1) := by
  show qd_f m ≤ 1 + (m + 1) * qd_f m
  rw [Nat.succ_mul]
  omega
theorem qd_f10 : qd_f 10 = 9864101 := by decide +kernel
theorem qd_fle {m : Nat} (h : m ≤ 10) : qd_f m ≤ 9864101 := by
  have H : ∀ d, ∀ m, m + d = 10 → qd_f m ≤ qd_f 10 := by
    intro d
    induction d with
    | zero => intro m hm; rw [show m = 10 by omega]; exact Nat.le_refl _
    | succ d ih => intro m hm; exact Nat.le_trans (qd_fm m) (ih (m + 1) (by omega))
  have := H (10 - m) m (by omega)
  rw [qd_f10] at this
  exact this
noncomputable def qd_u (n : Nat) (t : Nat → Int) : Nat := qc_n (fun i => t i = -1) n
def qd_uN (ch : Nat → Nat) (k x : Nat) : Nat → Nat := fun j => if j = k then x else ch j
theorem qd_uNs {ch : Nat → Nat} {k x : Nat} : qd_uN ch k x k = x := if_pos rfl
theorem qd_uNn {ch : Nat → Nat} {k x j : Nat} (h : j ≠ k) : qd_uN ch k x j = ch j := if_neg h
def qd_uR (rv : Nat → Nat → Prop) (k : Nat) (x : Nat → Prop) : Nat → Nat → Prop := fun j => if j = k then x else rv j
theorem qd_uRs {rv : Nat → Nat → Prop} {k : Nat} {x : Nat → Prop} : qd_uR rv k x k = x := if_pos rfl
theorem qd_uRn {rv : Nat → Nat → Prop} {k j : Nat} {x : Nat → Prop} (h : j ≠ k) : qd_uR rv k x j = rv j := if_neg h
/-- where those left may go, at depth D -/
def qd_lo (D : Nat) (t : Nat → Int) (ch : Nat → Nat) : Nat → Int :=
  match D with
  | 0 => fun _ => 0
  | d + 1 => qo_lk (ch d) (t (ch d))
def qd_St (n : Nat) (lat : Nat → Int) (len : Int) (D : Nat) (t : Nat → Int) (ch : Nat → Nat) : Prop :=
  (∀ i, i < n → t i = -1 ∨ (0 ≤ t i ∧ t i + lat i ≤ len)) ∧ D + qd_u n t ≤ n ∧ (∀ j, j < D → ch j < n ∧ t (ch j) ≠ -1)
def qd_hW (n : Nat) (lat : Nat → Int) (dl wt : Nat → Nat → Int) (un : Nat → Nat) (len : Int) (MX : Nat) (W Rt : Nat → Nat → (Nat → Int) → (Nat → Nat) → (Nat → Nat → Prop) → Prop) (OK : Prop) : Prop :=
  ∀ s D t ch rv, s < MX → qd_St n lat len D t ch →
    (∀ b e, qo_S n lat dl wt un len t (qd_lo D t ch) b e → (b = false → Rt s D t ch rv) ∧ (b = true → (∀ i, i < n → t i ≠ -1) → OK) ∧
      (b = true → ∀ i, qo_T n t e i → W (s + 1) (D + 1) (qg_up t i (e i)) (qd_uN ch D i) (qd_uR rv D (qo_R n t e i)))) → W s D t ch rv
def qd_hR (n : Nat) (lat : Nat → Int) (len : Int) (MX : Nat) (W Rt : Nat → Nat → (Nat → Int) → (Nat → Nat) → (Nat → Nat → Prop) → Prop) : Prop :=
  ∀ s D t ch rv, s < MX → qd_St n lat len (D + 1) t ch →
    (∀ i, ch D < i → i < n → rv D i → (∀ j, ch D < j → j < i → ¬ rv D j) → W (s + 1) (D + 1) (qg_up (qg_up t (ch D) (-1)) i (t (ch D))) (qd_uN ch D i) rv) →
    ((∀ i, ch D < i → i < n → ¬ rv D i) → Rt s D (qg_up t (ch D) (-1)) ch rv) → Rt s (D + 1) t ch rv
theorem qd_u0 {t : Nat → Int} {i : Nat} {x : Int} (h : t i = -1) : qg_up (qg_up t i x) i (-1) = t := by
  funext j
  by_cases e : j = i
  · subst e; rw [qg_us, h]
  · rw [qg_un e, qg_un e]
theorem qd_set {n : Nat} {t : Nat → Int} {i : Nat} {v : Int} (hi : i < n) (h : t i = -1) (hv : v ≠ -1) : qd_u n t = qd_u n (qg_up t i v) + 1 :=
  qc_drop n i hi h (by show ¬ qg_up t i v i = -1; rw [qg_us]; exact hv) (fun j _ hj => by show qg_up t i v j = -1 ↔ t j = -1; rw [qg_un hj])
/-- a child's trial keeps to the rules -/
theorem qd_kid {n : Nat} {lat : Nat → Int} {len : Int} {D : Nat} {t : Nat → Int} {ch ch1 : Nat → Nat} (St : qd_St n lat len D t ch) {i : Nat} {v : Int} (hi : i < n) (h : t i = -1) (hv : 0 ≤ v) (hl : v + lat i ≤ len)
    (hc : ch1 D = i) (ag : ∀ j, j < D → ch1 j = ch j) : qd_St n lat len (D + 1) (qg_up t i v) ch1 := by
  obtain ⟨s1, s2, s3⟩ := St
  refine ⟨fun j hj => ?_, ?_, fun j hj => ?_⟩
  · by_cases e : j = i
    · subst e; rw [qg_us]; exact Or.inr ⟨hv, hl⟩
    · rw [qg_un e]; exact s1 j hj
  · have := qd_set (v := v) hi h (by omega)
    omega
  · by_cases e : j = D
    · subst e; rw [hc, qg_us]; exact ⟨hi, by omega⟩
    · have h1 := s3 j (by omega)
      rw [ag j (by omega)]
      exact ⟨h1.1, by rw [qg_un (fun x => h1.2 (by rw [x]; exact h))]; exact h1.2⟩
/-- THE SEARCH over its rules: a node with m unset takes at most f m steps, and misses nothing -/
theorem qd_node {n : Nat} {lat : Nat → Int} {dl wt : Nat → Nat → Int} {un : Nat → Nat} {len : Int} {MX : Nat} {W Rt : Nat → Nat → (Nat → Int) → (Nat → Nat) → (Nat → Nat → Prop) → Prop} {OK : Prop} {t0 : Nat → Int}
    (hw : qw_W n dl wt un) (hW : qd_hW n lat dl wt un len MX W Rt OK) (hR : qd_hR n lat len MX W Rt)
    (hok : ∀ c, qs_V n lat dl un len c → (∀ i, i < n → t0 i ≠ -1 → c i = t0 i) → OK) :
    ∀ m s D t ch rv, qd_u n t = m → qd_St n lat len D t ch → (∀ i, i < n → t0 i ≠ -1 → t i = t0 i) → s + qd_f m ≤ MX →
      ((∀ c, ¬ qo_C n lat dl un len t (qd_lo D t ch) c) → ∀ s' ch' rv', s ≤ s' → s' < s + qd_f m → (∀ j, j < D → ch' j = ch j ∧ rv' j = rv j) → Rt s' D t ch' rv') → W s D t ch rv := by
  intro m
  induction m with
  | zero =>
    intro s D t ch rv hu St h0 hs hK
    have f1 := qd_f1 0
    refine hW s D t ch rv (by omega) St fun b e S => ⟨fun hb => ?_, fun hb ha => ?_, fun hb i T => ?_⟩
    · refine hK (fun c C => ?_) s ch rv (Nat.le_refl s) (by omega) fun _ _ => ⟨rfl, rfl⟩
      have := (S.1 c C).1
      rw [hb] at this
      exact absurd this (by decide)
    · exact hok t (qo_acc hw (S.2 hb) ha St.1) h0
    · have h1 : 1 ≤ qd_u n t := qc_one n i T.1 T.2.1
      omega
  | succ m ih =>
    intro s D t ch rv hu St h0 hs hK
    have f1 := qd_f1 (m + 1)
    have fe : qd_f (m + 1) = 1 + (m + 1) * qd_f m := rfl
    refine hW s D t ch rv (by omega) St fun b e S => ⟨fun hb => ?_, fun hb ha => ?_, fun hb i T => ?_⟩
    · refine hK (fun c C => ?_) s ch rv (Nat.le_refl s) (by omega) fun _ _ => ⟨rfl, rfl⟩
      have := (S.1 c C).1
      rw [hb] at this
      exact absurd this (by decide)
    · exact hok t (qo_acc hw (S.2 hb) ha St.1) h0
    · subst hb
      have hi := T.1
      have ti := T.2.1
      obtain ⟨o1, o2, o3, o4, o5, o6, o7⟩ := S.2 rfl
      have cl : ∀ k, (k = i ∨ qo_R n t e i k) → i ≤ k ∧ k < n ∧ t k = -1 ∧ e k = e i := by
        intro k h
        rcases h with h | h
        · subst h; exact ⟨Nat.le_refl _, hi, ti, rfl⟩
        · exact ⟨by have := h.1; omega, h.2.1, h.2.2.1, h.2.2.2⟩
      have H : ∀ q k s1 ch1 rv1, n ≤ k + q → (k = i ∨ qo_R n t e i k) → (∀ j, j < k → (j = i ∨ qo_R n t e i j) → ∀ c, ¬ qo_C n lat dl un len (qg_up t j (e i)) (qo_lk j (e i)) c) →
          s ≤ s1 → s1 + qc_n (fun j => k ≤ j ∧ (j = i ∨ qo_R n t e i j)) n * qd_f m ≤ s + qd_f (m + 1) → (∀ j, j < D → ch1 j = ch j ∧ rv1 j = rv j) → ch1 D = k → rv1 D = qo_R n t e i →
          W s1 (D + 1) (qg_up t k (e i)) ch1 rv1 := by
        intro q
        induction q with
        | zero => intro k s1 ch1 rv1 hq hk; have := (cl k hk).2.1; omega
        | succ q ihq =>
          intro k s1 ch1 rv1 hq hk hd hs1 hb hag hck hrk
          obtain ⟨k1, k2, k3, k4⟩ := cl k hk
          have hx := o1 k k2 k3
          rw [k4] at hx
          have hc1 : 1 ≤ qc_n (fun j => k ≤ j ∧ (j = i ∨ qo_R n t e i j)) n := qc_one n k k2 ⟨Nat.le_refl k, hk⟩
          have hF : qd_f m ≤ qc_n (fun j => k ≤ j ∧ (j = i ∨ qo_R n t e i j)) n * qd_f m := Nat.le_mul_of_pos_left _ hc1
          have hset := qd_set (v := e i) k2 k3 (by omega)
          have St1 := qd_kid St k2 k3 hx.1 hx.2 hck fun j hj => (hag j hj).1
          refine ih s1 (D + 1) _ ch1 rv1 (by omega) St1 (fun j hj hz => ?_) (by omega) fun hdead s' ch' rv' hs' hs'' hag' => ?_
          · have hj1 := h0 j hj hz
            have : j ≠ k := fun x => hz (by rw [← hj1, x]; exact k3)
            rw [qg_un this]; exact hj1
          · have hck' : ch' D = k := by rw [(hag' D (by omega)).1]; exact hck
            have hrk' : rv' D = qo_R n t e i := by rw [(hag' D (by omega)).2]; exact hrk
            have hag1 : ∀ j, j < D → ch' j = ch j ∧ rv' j = rv j := fun j hj => by
              rw [(hag' j (by omega)).1, (hag' j (by omega)).2]; exact hag j hj
            have hlo : qd_lo (D + 1) (qg_up t k (e i)) ch1 = qo_lk k (e i) := by
              show qo_lk (ch1 D) (qg_up t k (e i) (ch1 D)) = _
              rw [hck, qg_us]
            rw [hlo] at hdead
            have St2 := qd_kid St k2 k3 hx.1 hx.2 hck' fun j hj => (hag1 j hj).1
            refine hR s' D _ ch' rv' (by omega) St2 (fun i' h1 h2 h3 h4 => ?_) (fun h1 => ?_)
            · rw [hck'] at h1 h4 ⊢
              rw [hrk'] at h3 h4
              rw [qd_u0 k3, qg_us]
              have hcnt : qc_n (fun j => k ≤ j ∧ (j = i ∨ qo_R n t e i j)) n = qc_n (fun j => i' ≤ j ∧ (j = i ∨ qo_R n t e i j)) n + 1 := by
                refine qc_drop n k k2 ⟨Nat.le_refl k, hk⟩ (fun x => by have := x.1; omega) fun j hj hjk => ⟨fun x => ⟨by have := x.1; omega, x.2⟩, fun x => ⟨?_, x.2⟩⟩
                by_cases y : i' ≤ j
                · exact y
                · exfalso
                  rcases x.2 with z | z
                  · have := x.1; omega
                  · exact h4 j (by have := x.1; omega) (by omega) z
              rw [hcnt, Nat.succ_mul] at hb
              refine ihq i' (s' + 1) (qd_uN ch' D i') rv' (by omega) (Or.inr h3) (fun j hj hcj => ?_) (by omega) (by omega) (fun j hj => ?_) qd_uNs hrk'
              · by_cases y : j < k
                · exact hd j y hcj
                · by_cases z : j = k
                  · subst z; exact hdead
                  · exfalso
                    rcases hcj with w | w
                    · omega
                    · exact h4 j (by omega) hj w
              · rw [qd_uNn (by omega)]; exact hag1 j hj
            · rw [hck'] at h1 ⊢
              rw [hrk'] at h1
              rw [qd_u0 k3]
              refine hK (fun c C => ?_) s' ch' rv' (by omega) (by omega) hag1
              obtain ⟨k', hk', c', C'⟩ := qo_kid hw S T C
              by_cases y : k' < k
              · exact hd k' y hk' c' C'
              · by_cases z : k' = k
                · subst z; exact hdead c' C'
                · rcases hk' with w | w
                  · omega
                  · exact h1 k' (by omega) w.2.1 w
      have hcm : qc_n (fun j => i ≤ j ∧ (j = i ∨ qo_R n t e i j)) n ≤ m + 1 := by
        have h1 : qc_n (fun j => i ≤ j ∧ (j = i ∨ qo_R n t e i j)) n ≤ qd_u n t := qc_mono n fun j _ x => (cl j x.2).2.2.1
        omega
      have hmul := Nat.mul_le_mul_right (qd_f m) hcm
      refine H n i (s + 1) _ _ (by omega) (Or.inl rfl) (fun j hj hc => ?_) (by omega) (by omega) (fun j hj => ?_) qd_uNs qd_uRs
      · have := (cl j hc).1
        omega
      · rw [qd_uNn (by omega), qd_uRn (by omega)]; exact ⟨rfl, rfl⟩
theorem qd_main {n : Nat} {lat : Nat → Int} {dl wt : Nat → Nat → Int} {un : Nat → Nat} {len : Int} {MX : Nat} {W Rt : Nat → Nat → (Nat → Int) → (Nat → Nat) → (Nat → Nat → Prop) → Prop} {OK : Prop} {t0 : Nat → Int} {ch : Nat → Nat} {rv : Nat → Nat → Prop}
    (hn : n ≤ 10) (hMX : 9864101 ≤ MX) (hw : qw_W n dl wt un) (hW : qd_hW n lat dl wt un len MX W Rt OK) (hR : qd_hR n lat len MX W Rt)
    (h0 : ∀ i, i < n → t0 i = -1 ∨ (0 ≤ t0 i ∧ t0 i + lat i ≤ len))
    (hok : ∀ c, qs_V n lat dl un len c → (∀ i, i < n → t0 i ≠ -1 → c i = t0 i) → OK)
    (hno : (∀ c, qs_V n lat dl un len c → (∀ i, i < n → t0 i ≠ -1 → c i = t0 i) → False) → ∀ s' ch' rv', s' < MX → Rt s' 0 t0 ch' rv') : W 0 0 t0 ch rv := by
  have hu : qd_u n t0 ≤ n := qc_le n
  have hf := qd_fle (m := qd_u n t0) (by omega)
  refine qd_node hw hW hR hok (qd_u n t0) 0 0 t0 ch rv rfl ⟨h0, by omega, fun j hj => absurd hj (Nat.not_lt_zero j)⟩ (fun _ _ _ => rfl) (by omega) fun hd s' ch' rv' _ hs' _ => hno (fun c V hc => hd c ⟨V, hc, fun i hi _ => (V.1 i hi).1⟩) s' ch' rv' (by omega)
end
section
def qb_S (R : Nat → Int) : Nat → Int
  | 0 => 0
  | k + 1 => qb_S R k + R k
theorem qb_Sc {R Q : Nat → Int} : ∀ k, (∀ j, j < k → R j = Q j) → qb_S R k = qb_S Q k := by
  intro k
  induction k with
  | zero => intro _; rfl
  | succ k ih =>
    intro h
    show qb_S R k + R k = qb_S Q k + Q k
    rw [ih fun j hj => h j (by omega), h k (by omega)]
theorem qb_S0 {R : Nat → Int} : ∀ k, (∀ j, j < k → 0 ≤ R j) → 0 ≤ qb_S R k := by
  intro k
  induction k with
  | zero => intro _; exact Int.le_refl 0
  | succ k ih =>
    intro h
    have h1 := ih fun j hj => h j (by omega)
    have h2 := h k (by omega)
    show 0 ≤ qb_S R k + R k
    omega
/-- steps to go through level k and all below, m levels left: st of its own, w of its cycles enter -/
def qb_B (st w : Nat → Int) : Nat → Nat → Int
  | 0, _ => 0
  | m + 1, k => st k + w k * qb_B st w m (k + 1)
def qb_P (g : Nat → Int) : Nat → Nat → Int
  | 0, _ => 1
  | m + 1, k => g k * qb_P g m (k + 1)
theorem qb_B0 {st w : Nat → Int} {n : Nat} (hs : ∀ i, i < n → 0 ≤ st i) (hw : ∀ i, i < n → 0 ≤ w i) : ∀ m k, k + m ≤ n → 0 ≤ qb_B st w m k := by
  intro m
  induction m with
  | zero => intro k _; exact Int.le_refl 0
  | succ m ih =>
    intro k hk
    have h1 := Int.mul_nonneg (hw k (by omega)) (ih (k + 1) (by omega))
    have h2 := hs k (by omega)
    show 0 ≤ st k + w k * qb_B st w m (k + 1)
    omega
theorem qb_P1 {g : Nat → Int} {n : Nat} (hg : ∀ i, i < n → 1 ≤ g i) : ∀ m k, k + m ≤ n → 1 ≤ qb_P g m k := by
  intro m
  induction m with
  | zero => intro k _; exact Int.le_refl 1
  | succ m ih =>
    intro k hk
    have h1 := ih (k + 1) (by omega)
    have h2 := hg k (by omega)
    have h3 : 1 * 1 ≤ g k * qb_P g m (k + 1) := Int.mul_le_mul h2 h1 (by decide) (by omega)
    show 1 ≤ g k * qb_P g m (k + 1)
    omega
theorem qb_bound {st w g : Nat → Int} {n : Nat} {a : Int} (ha : 0 ≤ a) (hs : ∀ i, i < n → st i + 2 ≤ a) (hw0 : ∀ i, i < n → 0 ≤ w i) (hs0 : ∀ i, i < n → 0 ≤ st i) (hw : ∀ i, i < n → w i ≤ g i) (hg : ∀ i, i < n → a ≤ 2 * g i) :
    ∀ m k, k + (m + 1) ≤ n → qb_B st w (m + 1) k + 2 ≤ a * qb_P g m k := by
  intro m
  induction m with
  | zero =>
    intro k hk
    show st k + w k * 0 + 2 ≤ a * 1
    have := hs k (by omega)
    omega
  | succ m ih =>
    intro k hk
    have h1 := ih (k + 1) (by omega)
    have hB := qb_B0 hs0 hw0 (m + 1) (k + 1) (by omega)
    show st k + w k * qb_B st w (m + 1) (k + 1) + 2 ≤ a * (g k * qb_P g m (k + 1))
    have h2 : w k * qb_B st w (m + 1) (k + 1) ≤ g k * qb_B st w (m + 1) (k + 1) := Int.mul_le_mul_of_nonneg_right (hw k (by omega)) hB
    have g0 : 0 ≤ g k := by
      have := hw k (by omega)
      have := hw0 k (by omega)
      omega
    have h3 : g k * (qb_B st w (m + 1) (k + 1) + 2) ≤ g k * (a * qb_P g m (k + 1)) := Int.mul_le_mul_of_nonneg_left h1 g0
    have h4 : g k * (qb_B st w (m + 1) (k + 1) + 2) = g k * qb_B st w (m + 1) (k + 1) + 2 * g k := by
      rw [Int.mul_add, Int.mul_comm (g k) 2]
    have h5 : g k * (a * qb_P g m (k + 1)) = a * (g k * qb_P g m (k + 1)) := by
      rw [← Int.mul_assoc, Int.mul_comm (g k) a, Int.mul_assoc]
    have h6 := hs k (by omega)
    have h7 := hg k (by omega)
    omega
theorem qb_Pmono {g g' : Nat → Int} {n : Nat} (h0 : ∀ i, i < n → 0 ≤ g i) (h : ∀ i, i < n → g i ≤ g' i) : ∀ m k, k + m ≤ n → 0 ≤ qb_P g m k ∧ qb_P g m k ≤ qb_P g' m k := by
  intro m
  induction m with
  | zero => intro k _; exact ⟨by show (0 : Int) ≤ 1; decide, Int.le_refl 1⟩
  | succ m ih =>
    intro k hk
    have h1 := ih (k + 1) (by omega)
    have h2 := h0 k (by omega)
    have h3 := h k (by omega)
    refine ⟨Int.mul_nonneg h2 h1.1, ?_⟩
    show g k * qb_P g m (k + 1) ≤ g' k * qb_P g' m (k + 1)
    exact Int.mul_le_mul h3 h1.2 h1.1 (by omega)
theorem qb_Pup {g : Nat → Int} (hg : ∀ i, 1 ≤ g i) : ∀ m k, qb_P g m k ≤ qb_P g (m + 1) k := by
  intro m
  induction m with
  | zero =>
    intro k
    show 1 ≤ g k * 1
    have := hg k
    omega
  | succ m ih =>
    intro k
    show g k * qb_P g m (k + 1) ≤ g k * qb_P g (m + 1) (k + 1)
    exact Int.mul_le_mul_of_nonneg_left (ih (k + 1)) (by have := hg k; omega)
theorem qb_Pto {g : Nat → Int} (hg : ∀ i, 1 ≤ g i) (k : Nat) : ∀ d m, qb_P g m k ≤ qb_P g (m + d) k := by
  intro d
  induction d with
  | zero => intro m; exact Int.le_refl _
  | succ d ih => intro m; exact Int.le_trans (ih m) (qb_Pup hg (m + d) k)
/-- heads: the longest chain of edges to each -/
def qh_H (n : Nat) (dl : Nat → Nat → Int) (e : Nat → Int) : Prop :=
  (∀ i, i < n → 0 ≤ e i) ∧ (∀ i j, i < j → j < n → 0 ≤ dl i j → e i + dl i j ≤ e j) ∧ (∀ j, j < n → e j = 0 ∨ ∃ i, i < j ∧ 0 ≤ dl i j ∧ e i + dl i j = e j)
theorem qh_ex (dl : Nat → Nat → Int) : ∀ n, ∃ e, qh_H n dl e := by
  intro n
  induction n with
  | zero => exact ⟨fun _ => 0, fun i h => absurd h (Nat.not_lt_zero i), fun i j _ h => absurd h (Nat.not_lt_zero j), fun j h => absurd h (Nat.not_lt_zero j)⟩
  | succ n ih =>
    obtain ⟨e, h0, h1, h2⟩ := ih
    obtain ⟨r, r0, r1, r2⟩ := qg_max 0 (fun i => e i + dl i n) (fun i => 0 ≤ dl i n) n
    have cu : ∀ j, j ≠ n → qg_up e n r j = e j := fun j h => qg_un h
    have cn : qg_up e n r n = r := qg_us
    refine ⟨qg_up e n r, fun i hi => ?_, fun i j hij hj hd => ?_, fun j hj => ?_⟩
    · by_cases x : i = n
      · rw [x, cn]; exact r0
      · rw [cu i x]; exact h0 i (by omega)
    · by_cases x : j = n
      · subst x
        rw [cn, cu i (by omega)]
        exact r1 i hij hd
      · rw [cu j x, cu i (by omega)]; exact h1 i j hij (by omega) hd
    · by_cases x : j = n
      · subst x
        rw [cn]
        rcases r2 with h | ⟨i, hi, hd, h⟩
        · exact Or.inl h
        · exact Or.inr ⟨i, hi, hd, by rw [cu i (by omega)]; exact h⟩
      · rw [cu j x]
        rcases h2 j (by omega) with h | ⟨i, hi, hd, h⟩
        · exact Or.inl h
        · exact Or.inr ⟨i, hi, hd, by rw [cu i (by omega)]; exact h⟩
/-- in a schedule nobody goes before its head -/
theorem qh_le {n : Nat} {lat : Nat → Int} {dl : Nat → Nat → Int} {un : Nat → Nat} {len : Int} {c e : Nat → Int} (H : qh_H n dl e) (V : qs_V n lat dl un len c) : ∀ j, j < n → e j ≤ c j := by
  intro j
  induction j using Nat.strongRecOn with
  | _ j ih =>
    intro hj
    rcases H.2.2 j hj with h | ⟨i, hi, hd, h⟩
    · have := (V.1 j hj).1
      omega
    · have h1 := ih i hi (by omega)
      have h2 := V.2.1 i j hi hj hd
      omega
/-- one after the other -/
theorem qh_seq {n : Nat} {lat : Nat → Int} {dl : Nat → Nat → Int} {un : Nat → Nat} (hl : ∀ i, i < n → 1 ≤ lat i) (hd : ∀ i j, i < j → j < n → dl i j ≤ lat i) : qs_V n lat dl un (qb_S lat n) (qb_S lat) := by
  have M : ∀ d i, i + d ≤ n → qb_S lat i + (d : Int) ≤ qb_S lat (i + d) := by
    intro d
    induction d with
    | zero => intro i _; simp
    | succ d ih =>
      intro i h
      have h1 := ih i (by omega)
      have h2 := hl (i + d) (by omega)
      have h3 : qb_S lat (i + (d + 1)) = qb_S lat (i + d) + lat (i + d) := rfl
      omega
  have Mle : ∀ i j, i < j → j ≤ n → qb_S lat i + lat i ≤ qb_S lat j := by
    intro i j hij hj
    have h1 := M (j - (i + 1)) (i + 1) (by omega)
    rw [show i + 1 + (j - (i + 1)) = j by omega] at h1
    have h3 : qb_S lat (i + 1) = qb_S lat i + lat i := rfl
    omega
  refine ⟨fun i hi => ⟨qb_S0 i fun j hj => by have := hl j (by omega); omega, Mle i n hi (Nat.le_refl n)⟩, fun i j hij hj h0 => ?_, fun i j k hij hjk hk h1 h2 => ?_, fun i j hij hj h1 h2 => ?_⟩
  · have h1 := Mle i j hij (by omega)
    have h2 := hd i j hij hj
    omega
  · have h3 := Mle i j hij (by omega)
    have h4 := hl i (by omega)
    omega
  · have h3 := Mle i j hij (by omega)
    have h4 := hl i (by omega)
    omega
theorem qh_sum {lat : Nat → Int} : ∀ n, (∀ i, i < n → lat i ≤ 4) → qb_S lat n ≤ 4 * (n : Int) ∧ ∀ i, i < n → qb_S lat n ≤ 4 * (n : Int) - 4 + lat i := by
  intro n
  induction n with
  | zero => intro _; exact ⟨by show (0 : Int) ≤ 4 * ((0 : Nat) : Int); decide, fun i h => absurd h (Nat.not_lt_zero i)⟩
  | succ n ih =>
    intro h
    have h1 := ih fun i hi => h i (by omega)
    have h2 := h n (by omega)
    have h3 : qb_S lat (n + 1) = qb_S lat n + lat n := rfl
    refine ⟨by omega, fun i hi => ?_⟩
    by_cases e : i = n
    · subst e; have := h1.1; omega
    · have := h1.2 i (by omega)
      omega
def qh_g (a b c : Nat) : Nat → Int := fun i => if i = a then 20 else if i = b then 20 else if i = c then 22 else 37
theorem qh_dec : (List.range 9).all (fun a => (List.range 9).all fun b => (List.range 9).all fun c => !(decide (c < b) && decide (b < a)) || decide (40 * qb_P (qh_g a b c) 9 0 < 1000000000000000)) = true := by decide +kernel
theorem qh_prod {a b c : Nat} (h1 : c < b) (h2 : b < a) (h3 : a < 9) : 40 * qb_P (qh_g a b c) 9 0 < 1000000000000000 := by
  have h := qh_dec
  rw [List.all_eq_true] at h
  have ha := h a (List.mem_range.mpr h3)
  rw [List.all_eq_true] at ha
  have hb := ha b (List.mem_range.mpr (by omega))
  rw [List.all_eq_true] at hb
  have hc := hb c (List.mem_range.mpr (by omega))
  have h4 : decide (c < b) = true := decide_eq_true h1
  have h5 : decide (b < a) = true := decide_eq_true h2
  rw [h4, h5] at hc
  exact of_decide_eq_true (by simpa using hc)
theorem qh_31 : 34 * qb_P (fun _ => 31) 9 0 < 1000000000000000 := by decide +kernel
/-- THE REFERENCE'S BOUND: at the least length its search stays below its limit -/
theorem qh_bound {n : Nat} {lat : Nat → Int} {dl : Nat → Nat → Int} {un : Nat → Nat} {L : Int} {e : Nat → Int} (hn0 : 1 ≤ n) (hn : n ≤ 10) (hl : ∀ i, i < n → 1 ≤ lat i ∧ lat i ≤ 4) (hd : ∀ i j, i < j → j < n → dl i j ≤ lat i)
    (H : qh_H n dl e) (hF : ∃ c, qs_V n lat dl un L c) (hL : ∀ c, ¬ qs_V n lat dl un (L - 1) c) :
    qb_B (fun k => L - lat k + 2) (fun k => L - lat k + 1 - e k) n 0 < 1000000000000000 ∧ (∀ k, k < n → e k ≤ L - lat k) := by
  obtain ⟨c0, V0⟩ := hF
  have hw0 : ∀ k, k < n → e k ≤ L - lat k := by
    intro k hk
    have h1 := qh_le H V0 k hk
    have h2 := (V0.1 k hk).2
    omega
  refine ⟨?_, hw0⟩
  have hs0 : ∀ k, k < n → 0 ≤ (fun k => L - lat k + 2) k := by
    intro k hk
    have h1 := hw0 k hk
    have h2 := H.1 k hk
    show 0 ≤ L - lat k + 2
    omega
  have hww : ∀ k, k < n → 0 ≤ (fun k => L - lat k + 1 - e k) k := by
    intro k hk
    have h1 := hw0 k hk
    show 0 ≤ L - lat k + 1 - e k
    omega
  obtain ⟨m, rfl⟩ : ∃ m, n = m + 1 := ⟨n - 1, by omega⟩
  by_cases h31 : L ≤ 31
  · have h := qb_bound (st := fun k => L - lat k + 2) (w := fun k => L - lat k + 1 - e k) (g := fun _ => 31) (n := m + 1) (a := 34) (by decide)
      (fun i hi => by have := (hl i hi).1; show L - lat i + 2 + 2 ≤ 34; omega) hww hs0
      (fun i hi => by have := (hl i hi).1; have := H.1 i hi; show L - lat i + 1 - e i ≤ 31; omega) (fun i _ => by show (34 : Int) ≤ 2 * 31; decide) m 0 (by omega)
    have h2 := qb_Pto (g := fun _ => 31) (fun _ => by show (1 : Int) ≤ 31; decide) 0 (9 - m) m
    rw [show m + (9 - m) = 9 by omega] at h2
    have h3 := qh_31
    omega
  · have hsum : L ≤ qb_S lat (m + 1) := by
      have hq := qh_seq (un := un) (dl := dl) (fun i hi => (hl i hi).1) hd
      by_cases x : L ≤ qb_S lat (m + 1)
      · exact x
      · refine absurd ?_ (hL (qb_S lat))
        exact ⟨fun i hi => ⟨(hq.1 i hi).1, by have := (hq.1 i hi).2; omega⟩, hq.2⟩
    have h37 : ∀ i, i < m + 1 → L - lat i ≤ 36 := by
      intro i hi
      have h1 := (qh_sum (lat := lat) (m + 1) fun i hi => (hl i hi).2).2 i hi
      omega
    obtain ⟨q0, hq0, hq0e⟩ : ∃ q, q < m + 1 ∧ L ≤ e q + lat q + 9 := by
      by_cases x : ∃ q, q < m + 1 ∧ L ≤ e q + lat q + 9
      · exact x
      · exfalso
        obtain ⟨c, _, c2, c3, c4, c5⟩ := qg_main (n := m + 1) (dl := dl) (un := un) (A := fun _ => False) (t := e) (e := e) hn H.2.1 (fun _ _ _ _ _ h => h.elim) (fun _ _ h => h.elim) (fun _ _ _ _ _ _ h => h.elim) (fun _ _ _ _ h => h.elim)
        refine hL c ⟨fun i hi => ?_, c3, c4, c5⟩
        have h1 := c2 i hi
        have h2 := H.1 i hi
        have h3 : ¬ L ≤ e i + lat i + 9 := fun h => x ⟨i, hi, h⟩
        exact ⟨by omega, by omega⟩
    have prev : ∀ j, j < m + 1 → 0 < e j → ∃ i, i < j ∧ e j ≤ e i + lat i := by
      intro j hj h
      rcases H.2.2 j hj with h1 | ⟨i, hi, h0, h1⟩
      · omega
      · have := hd i j hi hj
        exact ⟨i, hi, by omega⟩
    have l0 := hl q0 hq0
    obtain ⟨q1, hq1, hq1e⟩ := prev q0 hq0 (by omega)
    have l1 := hl q1 (by omega)
    obtain ⟨q2, hq2, hq2e⟩ := prev q1 (by omega) (by omega)
    have l2 := hl q2 (by omega)
    obtain ⟨q3, hq3, hq3e⟩ := prev q2 (by omega) (by omega)
    have hg37 : ∀ i, 1 ≤ qh_g q1 q2 q3 i ∧ 20 ≤ qh_g q1 q2 q3 i := by
      intro i
      unfold qh_g
      split
      · exact ⟨by decide, by decide⟩
      · split
        · exact ⟨by decide, by decide⟩
        · split
          · exact ⟨by decide, by decide⟩
          · exact ⟨by decide, by decide⟩
    have h := qb_bound (st := fun k => L - lat k + 2) (w := fun k => L - lat k + 1 - e k) (g := qh_g q1 q2 q3) (n := m + 1) (a := 40) (by decide)
      (fun i hi => by have := h37 i hi; show L - lat i + 2 + 2 ≤ 40; omega) hww hs0
      (fun i hi => by
        have h1 := h37 i hi
        have h2 := H.1 i hi
        show L - lat i + 1 - e i ≤ qh_g q1 q2 q3 i
        unfold qh_g
        split
        · next x => subst x; omega
        · split
          · next x => subst x; omega
          · split
            · next x => subst x; omega
            · omega)
      (fun i _ => by have := (hg37 i).2; omega) m 0 (by omega)
    have h2 := qb_Pto (g := qh_g q1 q2 q3) (fun i => (hg37 i).1) 0 (9 - m) m
    rw [show m + (9 - m) = 9 by omega] at h2
    have h3 := qh_prod hq3 hq2 (show q1 < 9 by omega)
    omega
end
section
/-- the lexicographically least schedule -/
def qs_X (n : Nat) (lat : Nat → Int) (dl : Nat → Nat → Int) (un : Nat → Nat) (len : Int) (c : Nat → Int) : Prop :=
  qs_V n lat dl un len c ∧ ∀ k, k < n → ∀ c', qs_V n lat dl un len c' → (∀ i, i < k → c' i = c i) → c k ≤ c' k
theorem qs_Xu {n : Nat} {lat : Nat → Int} {dl : Nat → Nat → Int} {un : Nat → Nat} {len : Int} {c c' : Nat → Int} (h : qs_X n lat dl un len c) (h' : qs_X n lat dl un len c') : ∀ i, i < n → c i = c' i := by
  intro i
  induction i using Nat.strongRecOn with
  | _ i ih =>
    intro hi
    have h1 := h.2 i hi c' h'.1 fun j hj => (ih j hj (by omega)).symm
    have h2 := h'.2 i hi c h.1 fun j hj => ih j hj (by omega)
    omega
/-- k beside those before it -/
def qr_F (dl : Nat → Nat → Int) (un : Nat → Nat) (k : Nat) (w : Nat → Int) : Prop :=
  (∀ j, j < k → 0 ≤ dl j k → w j + dl j k ≤ w k) ∧ (∀ i j, i < j → j < k → w i = w k → w j = w k → False) ∧ (∀ j, j < k → w j = w k → un j = un k → un j = 0)
theorem qr_Fc {dl : Nat → Nat → Int} {un : Nat → Nat} {k : Nat} {w w' : Nat → Int} (h : ∀ i, i ≤ k → w i = w' i) (F : qr_F dl un k w) : qr_F dl un k w' := by
  obtain ⟨f1, f2, f3⟩ := F
  refine ⟨fun j hj hd => ?_, fun i j hij hj h1 h2 => ?_, fun j hj h1 h2 => ?_⟩
  · rw [← h j (by omega), ← h k (Nat.le_refl k)]; exact f1 j hj hd
  · rw [← h i (by omega), ← h k (Nat.le_refl k)] at h1
    rw [← h j (by omega), ← h k (Nat.le_refl k)] at h2
    exact f2 i j hij hj h1 h2
  · rw [← h j (by omega), ← h k (Nat.le_refl k)] at h1
    exact f3 j hj h1 h2
theorem qr_VF {n : Nat} {lat : Nat → Int} {dl : Nat → Nat → Int} {un : Nat → Nat} {len : Int} {c : Nat → Int} (V : qs_V n lat dl un len c) : ∀ k, k < n → qr_F dl un k c := by
  intro k hk
  obtain ⟨v1, v2, v3, v4⟩ := V
  exact ⟨fun j hj hd => v2 j k hj hk hd, fun i j hij hj h1 h2 => v3 i j k hij hj hk (h1.trans h2.symm) h2, fun j hj h1 h2 => v4 j k hj hk h1 h2⟩
theorem qr_FV {n : Nat} {lat : Nat → Int} {dl : Nat → Nat → Int} {un : Nat → Nat} {len : Int} {c : Nat → Int} (h : ∀ k, k < n → (0 ≤ c k ∧ c k + lat k ≤ len) ∧ qr_F dl un k c) : qs_V n lat dl un len c :=
  ⟨fun i hi => (h i hi).1, fun i j hij hj hd => (h j hj).2.1 i hij hd, fun i j k hij hjk hk h1 h2 => (h k hk).2.2.1 i j hij hjk (h1.trans h2) h2, fun i j hij hj h1 h2 => (h j hj).2.2.2 i hij h1 h2⟩
/-- where the reference's search stands ahead of a step -/
def qr_I (n : Nat) (lat : Nat → Int) (dl : Nat → Nat → Int) (un : Nat → Nat) (len : Int) (k : Nat) (w : Nat → Int) : Prop :=
  k < n ∧ (∀ j, j < k → (0 ≤ w j ∧ w j + lat j ≤ len) ∧ qr_F dl un j w) ∧ (-1 ≤ w k ∧ (w k = -1 ∨ w k + lat k ≤ len)) ∧
  (∀ j, j < k → ∀ c, qs_V n lat dl un len c → (∀ i, i < j → c i = w i) → w j ≤ c j) ∧
  (∀ c, qs_V n lat dl un len c → (∀ i, i < k → c i = w i) → w k < c k)
theorem qr_I0 {n : Nat} {lat : Nat → Int} {dl : Nat → Nat → Int} {un : Nat → Nat} {len : Int} {w : Nat → Int} (hn : 0 < n) (h : w 0 = -1) : qr_I n lat dl un len 0 w :=
  ⟨hn, fun j hj => absurd hj (Nat.not_lt_zero j), ⟨by omega, Or.inl h⟩, fun j hj => absurd hj (Nat.not_lt_zero j), fun c V _ => by have := (V.1 0 hn).1; omega⟩
theorem qr_none {n : Nat} {lat : Nat → Int} {dl : Nat → Nat → Int} {un : Nat → Nat} {len : Int} {w : Nat → Int} (I : qr_I n lat dl un len 0 w) (h : ¬ w 0 + 1 + lat 0 ≤ len) (c : Nat → Int) : ¬ qs_V n lat dl un len c := by
  intro V
  obtain ⟨i0, i1, i2, i3, i4⟩ := I
  have h1 := i4 c V fun i hi => absurd hi (Nat.not_lt_zero i)
  have h2 := (V.1 0 i0).2
  omega
theorem qr_back {n : Nat} {lat : Nat → Int} {dl : Nat → Nat → Int} {un : Nat → Nat} {len : Int} {k : Nat} {w w' : Nat → Int} (I : qr_I n lat dl un len (k + 1) w) (h : ¬ w (k + 1) + 1 + lat (k + 1) ≤ len) (e : ∀ i, i ≤ k → w i = w' i) : qr_I n lat dl un len k w' := by
  obtain ⟨i0, i1, i2, i3, i4⟩ := I
  refine ⟨by omega, fun j hj => ?_, ?_, fun j hj c V hc => ?_, fun c V hc => ?_⟩
  · have h1 := i1 j (by omega)
    rw [← e j (by omega)]
    exact ⟨h1.1, qr_Fc (fun i hi => e i (by omega)) h1.2⟩
  · have h1 := (i1 k (by omega)).1
    rw [← e k (Nat.le_refl k)]
    exact ⟨by omega, Or.inr h1.2⟩
  · rw [← e j (by omega)]
    exact i3 j (by omega) c V fun i hi => by rw [e i (by omega)]; exact hc i hi
  · have hc' : ∀ i, i < k → c i = w i := fun i hi => by rw [e i (by omega)]; exact hc i hi
    have h1 := i3 k (by omega) c V hc'
    rw [← e k (Nat.le_refl k)]
    by_cases x : c k = w k
    · have h2 := i4 c V fun i hi => by
        by_cases y : i = k
        · rw [y]; exact x
        · exact hc' i (by omega)
      have h3 := (V.1 (k + 1) i0).2
      omega
    · omega
theorem qr_at {n : Nat} {lat : Nat → Int} {dl : Nat → Nat → Int} {un : Nat → Nat} {len : Int} {k : Nat} {w : Nat → Int} (I : qr_I n lat dl un len k w) {c : Nat → Int} (V : qs_V n lat dl un len c) (hc : ∀ i, i < k → c i = w i) (x : c k = w k + 1) : qr_F dl un k (qg_up w k (w k + 1)) := by
  refine qr_Fc (w := c) (fun i hi => ?_) (qr_VF V k I.1)
  by_cases y : i = k
  · rw [y, qg_us]; exact x
  · rw [qg_un y]; exact hc i (by omega)
theorem qr_skip {n : Nat} {lat : Nat → Int} {dl : Nat → Nat → Int} {un : Nat → Nat} {len : Int} {k : Nat} {w : Nat → Int} (I : qr_I n lat dl un len k w) (h : w k + 1 + lat k ≤ len) (hF : ¬ qr_F dl un k (qg_up w k (w k + 1))) : qr_I n lat dl un len k (qg_up w k (w k + 1)) := by
  have I' := I
  obtain ⟨i0, i1, i2, i3, i4⟩ := I
  have cu : ∀ j, j ≠ k → qg_up w k (w k + 1) j = w j := fun j h => qg_un h
  refine ⟨i0, fun j hj => ?_, ?_, fun j hj c V hc => ?_, fun c V hc => ?_⟩
  · have h1 := i1 j hj
    rw [cu j (by omega)]
    exact ⟨h1.1, qr_Fc (fun i hi => (cu i (by omega)).symm) h1.2⟩
  · rw [qg_us]; exact ⟨by omega, Or.inr h⟩
  · rw [cu j (by omega)]
    exact i3 j hj c V fun i hi => by have := hc i hi; rw [cu i (by omega)] at this; exact this
  · have hc' : ∀ i, i < k → c i = w i := fun i hi => by have := hc i hi; rw [cu i (by omega)] at this; exact this
    have h1 := i4 c V hc'
    rw [qg_us]
    by_cases x : c k = w k + 1
    · exact absurd (qr_at I' V hc' x) hF
    · omega
theorem qr_pre {n : Nat} {lat : Nat → Int} {dl : Nat → Nat → Int} {un : Nat → Nat} {len : Int} {k : Nat} {w : Nat → Int} (I : qr_I n lat dl un len k w) (h : w k + 1 + lat k ≤ len) (hF : qr_F dl un k (qg_up w k (w k + 1))) :
    (∀ j, j < k + 1 → (0 ≤ qg_up w k (w k + 1) j ∧ qg_up w k (w k + 1) j + lat j ≤ len) ∧ qr_F dl un j (qg_up w k (w k + 1))) ∧
    (∀ j, j < k + 1 → ∀ c, qs_V n lat dl un len c → (∀ i, i < j → c i = qg_up w k (w k + 1) i) → qg_up w k (w k + 1) j ≤ c j) := by
  obtain ⟨i0, i1, i2, i3, i4⟩ := I
  have cu : ∀ j, j ≠ k → qg_up w k (w k + 1) j = w j := fun j h => qg_un h
  refine ⟨fun j hj => ?_, fun j hj c V hc => ?_⟩
  · by_cases y : j = k
    · subst y
      rw [qg_us]
      exact ⟨⟨by omega, h⟩, hF⟩
    · have h1 := i1 j (by omega)
      rw [cu j y]
      exact ⟨h1.1, qr_Fc (fun i hi => (cu i (by omega)).symm) h1.2⟩
  · by_cases y : j = k
    · subst y
      have h1 := i4 c V fun i hi => by have := hc i hi; rw [cu i (by omega)] at this; exact this
      rw [qg_us]
      omega
    · rw [cu j y]
      exact i3 j (by omega) c V fun i hi => by have := hc i hi; rw [cu i (by omega)] at this; exact this
theorem qr_down {n : Nat} {lat : Nat → Int} {dl : Nat → Nat → Int} {un : Nat → Nat} {len : Int} {k : Nat} {w : Nat → Int} (I : qr_I n lat dl un len k w) (h : w k + 1 + lat k ≤ len) (hF : qr_F dl un k (qg_up w k (w k + 1))) (hk : k + 1 < n) :
    qr_I n lat dl un len (k + 1) (qg_up (qg_up w k (w k + 1)) (k + 1) (-1)) := by
  obtain ⟨p1, p2⟩ := qr_pre I h hF
  generalize qg_up w k (w k + 1) = v at p1 p2
  have cu : ∀ j, j ≠ k + 1 → qg_up v (k + 1) (-1) j = v j := fun j h => qg_un h
  refine ⟨hk, fun j hj => ?_, ?_, fun j hj c V hc => ?_, fun c V hc => ?_⟩
  · have h1 := p1 j hj
    rw [cu j (by omega)]
    exact ⟨h1.1, qr_Fc (fun i hi => (cu i (by omega)).symm) h1.2⟩
  · rw [qg_us]; exact ⟨by omega, Or.inl rfl⟩
  · rw [cu j (by omega)]
    exact p2 j hj c V fun i hi => by have := hc i hi; rw [cu i (by omega)] at this; exact this
  · rw [qg_us]
    have := (V.1 (k + 1) hk).1
    omega
theorem qr_done {n : Nat} {lat : Nat → Int} {dl : Nat → Nat → Int} {un : Nat → Nat} {len : Int} {k : Nat} {w : Nat → Int} (I : qr_I n lat dl un len k w) (h : w k + 1 + lat k ≤ len) (hF : qr_F dl un k (qg_up w k (w k + 1))) (hk : k + 1 = n) :
    qs_X n lat dl un len (qg_up w k (w k + 1)) := by
  obtain ⟨p1, p2⟩ := qr_pre I h hF
  exact ⟨qr_FV fun j hj => p1 j (by omega), fun j hj c V hc => p2 j (by omega) c V hc⟩
/-- no one before its head, as far as placed -/
theorem qr_head {n : Nat} {dl : Nat → Nat → Int} {un : Nat → Nat} {e w : Nat → Int} (H : qh_H n dl e) {k : Nat} (hk : k ≤ n) (h : ∀ j, j < k → 0 ≤ w j ∧ qr_F dl un j w) : ∀ j, j < k → e j ≤ w j := by
  intro j
  induction j using Nat.strongRecOn with
  | _ j ih =>
    intro hj
    rcases H.2.2 j (by omega) with h1 | ⟨i, hi, hd, h1⟩
    · have := (h j hj).1
      omega
    · have h2 := ih i hi (by omega)
      have h3 := (h j hj).2.1 i hi hd
      omega
/-- the measure: what is left to do at the levels up to k -/
def qr_R (M e B w : Nat → Int) (j : Nat) : Int := (M j - w j) + (M j - 1 - (if w j < e j then e j - 1 else w j)) * B (j + 1)
def qr_mu (M e B : Nat → Int) (k : Nat) (w : Nat → Int) : Int := qb_S (qr_R M e B w) (k + 1)
theorem qr_Rc {M e B w w' : Nat → Int} {j : Nat} (h : w j = w' j) : qr_R M e B w j = qr_R M e B w' j := by unfold qr_R; rw [h]
theorem qr_muB {M e B : Nat → Int} {k : Nat} {w w' : Nat → Int} (hw : w (k + 1) + 1 = M (k + 1)) (he : e (k + 1) ≤ M (k + 1)) (h : ∀ i, i ≤ k → w i = w' i) : qr_mu M e B (k + 1) w = qr_mu M e B k w' + 1 := by
  have h1 : qr_mu M e B (k + 1) w = qb_S (qr_R M e B w) (k + 1) + qr_R M e B w (k + 1) := rfl
  have h2 : qb_S (qr_R M e B w) (k + 1) = qr_mu M e B k w' := qb_Sc (k + 1) fun j hj => qr_Rc (h j (by omega))
  have h3 : qr_R M e B w (k + 1) = 1 := by
    unfold qr_R
    have h4 : (M (k + 1) - 1 - (if w (k + 1) < e (k + 1) then e (k + 1) - 1 else w (k + 1))) = 0 := by
      split <;> omega
    rw [h4, Int.zero_mul]
    omega
  omega
theorem qr_muS {M e B : Nat → Int} {k : Nat} {w : Nat → Int} (hB : 0 ≤ B (k + 1)) : qr_mu M e B k (qg_up w k (w k + 1)) + 1 ≤ qr_mu M e B k w := by
  have h1 : qr_mu M e B k w = qb_S (qr_R M e B w) k + qr_R M e B w k := rfl
  have h2 : qr_mu M e B k (qg_up w k (w k + 1)) = qb_S (qr_R M e B (qg_up w k (w k + 1))) k + qr_R M e B (qg_up w k (w k + 1)) k := rfl
  have h3 : qb_S (qr_R M e B (qg_up w k (w k + 1))) k = qb_S (qr_R M e B w) k := qb_Sc k fun j hj => qr_Rc (qg_un (by omega))
  have h4 : qr_R M e B (qg_up w k (w k + 1)) k + 1 ≤ qr_R M e B w k := by
    unfold qr_R
    rw [qg_us]
    have h5 : (M k - 1 - (if w k + 1 < e k then e k - 1 else w k + 1)) ≤ (M k - 1 - (if w k < e k then e k - 1 else w k)) := by
      split <;> split <;> omega
    have h6 := Int.mul_le_mul_of_nonneg_right h5 hB
    omega
  omega
theorem qr_muD {M e B : Nat → Int} {k : Nat} {w : Nat → Int} (he : e k ≤ w k + 1) (he1 : 0 ≤ e (k + 1)) (hB : B (k + 1) = M (k + 1) + 1 + (M (k + 1) - e (k + 1)) * B (k + 2)) :
    qr_mu M e B (k + 1) (qg_up (qg_up w k (w k + 1)) (k + 1) (-1)) + 1 = qr_mu M e B k w := by
  generalize hv : qg_up (qg_up w k (w k + 1)) (k + 1) (-1) = v
  have v1 : v (k + 1) = -1 := by rw [← hv]; exact qg_us
  have v2 : v k = w k + 1 := by rw [← hv, qg_un (by omega)]; exact qg_us
  have v3 : ∀ j, j < k → v j = w j := fun j hj => by rw [← hv, qg_un (by omega), qg_un (by omega)]
  have h1 : qr_mu M e B k w = qb_S (qr_R M e B w) k + qr_R M e B w k := rfl
  have h2 : qr_mu M e B (k + 1) v = qb_S (qr_R M e B v) k + qr_R M e B v k + qr_R M e B v (k + 1) := rfl
  have h3 : qb_S (qr_R M e B v) k = qb_S (qr_R M e B w) k := qb_Sc k fun j hj => qr_Rc (v3 j hj)
  have h4 : qr_R M e B v (k + 1) = B (k + 1) := by
    unfold qr_R
    rw [v1, if_pos (by omega), hB]
    have : M (k + 1) - 1 - (e (k + 1) - 1) = M (k + 1) - e (k + 1) := by omega
    rw [this]
    have : M (k + 1) - -1 = M (k + 1) + 1 := by omega
    rw [this]
  have h5 : qr_R M e B v k + B (k + 1) + 1 = qr_R M e B w k := by
    unfold qr_R
    rw [v2, if_neg (by omega)]
    have h6 : (M k - 1 - (if w k < e k then e k - 1 else w k)) = (M k - 1 - (w k + 1)) + 1 := by split <;> omega
    rw [h6, Int.add_mul, Int.one_mul]
    omega
  omega
theorem qr_mu0 {M e B : Nat → Int} {k : Nat} {w : Nat → Int} (hB : ∀ j, j ≤ k → 0 ≤ B (j + 1)) (hw : ∀ j, j ≤ k → w j ≤ M j - 1 ∧ e j ≤ M j) : 0 ≤ qr_mu M e B k w := by
  refine qb_S0 (k + 1) fun j hj => ?_
  have h1 := hw j (by omega)
  have h2 : 0 ≤ (M j - 1 - (if w j < e j then e j - 1 else w j)) := by split <;> omega
  have h3 := Int.mul_nonneg h2 (hB j (by omega))
  unfold qr_R
  omega
end
section
/-- pairs of set ones outside unit u that share a cycle from f to la -/
noncomputable def qn_F (un : Nat → Nat) (t : Nat → Int) (u : Nat) (f la : Int) : Nat → Nat
  | 0 => 0
  | i + 1 => qn_F un t u f la i + @ite Nat (f ≤ t i ∧ t i ≤ la ∧ un i ≠ u) (Classical.propDecidable _) (qc_n (fun j => t j = t i ∧ un j ≠ u) i) 0
theorem qn_Ft {un : Nat → Nat} {t : Nat → Int} {u : Nat} {f la : Int} {i : Nat} (h : f ≤ t i ∧ t i ≤ la ∧ un i ≠ u) : qn_F un t u f la (i + 1) = qn_F un t u f la i + qc_n (fun j => t j = t i ∧ un j ≠ u) i := by
  show qn_F un t u f la i + _ = _
  rw [if_pos h]
theorem qn_Ff {un : Nat → Nat} {t : Nat → Int} {u : Nat} {f la : Int} {i : Nat} (h : ¬ (f ≤ t i ∧ t i ≤ la ∧ un i ≠ u)) : qn_F un t u f la (i + 1) = qn_F un t u f la i := by
  show qn_F un t u f la i + _ = _
  rw [if_neg h, Nat.add_zero]
theorem qn_Fsplit {un : Nat → Nat} {t : Nat → Int} {u : Nat} {f la : Int} (hf : f ≤ la) : ∀ n, qn_F un t u f la n = qn_F un t u f (la - 1) n + qn_F un t u la la n := by
  intro n
  induction n with
  | zero => rfl
  | succ n ih =>
    by_cases h : f ≤ t n ∧ t n ≤ la ∧ un n ≠ u
    · rw [qn_Ft h]
      by_cases x : t n = la
      · rw [qn_Ff (la := la - 1) (fun y => by have := y.2.1; omega), qn_Ft (f := la) ⟨by omega, by omega, h.2.2⟩]; omega
      · rw [qn_Ft (la := la - 1) ⟨h.1, by have := h.2.1; omega, h.2.2⟩, qn_Ff (f := la) (fun y => x (by have := y.1; have := y.2.1; omega))]; omega
    · rw [qn_Ff h, qn_Ff (la := la - 1) (fun y => h ⟨y.1, by have := y.2.1; omega, y.2.2⟩), qn_Ff (f := la) (fun y => h ⟨by have := y.1; omega, y.2.1, y.2.2⟩)]; exact ih
theorem qn_Fempty {un : Nat → Nat} {t : Nat → Int} {u : Nat} {f la : Int} (hf : la < f) : ∀ n, qn_F un t u f la n = 0 := by
  intro n
  induction n with
  | zero => rfl
  | succ n ih => rw [qn_Ff fun y => by have := y.1; have := y.2.1; omega]; exact ih
theorem qn_F1 {un : Nat → Nat} {t : Nat → Int} {u : Nat} {x : Int} : ∀ n, (qc_n (fun j => t j = x ∧ un j ≠ u) n ≤ 1 → qn_F un t u x x n = 0) ∧ (qc_n (fun j => t j = x ∧ un j ≠ u) n = 2 → qn_F un t u x x n = 1) := by
  intro n
  induction n with
  | zero => exact ⟨fun _ => rfl, fun h => absurd h (by show ¬ (0 = 2); decide)⟩
  | succ n ih =>
    by_cases h : t n = x ∧ un n ≠ u
    · have e : qc_n (fun j => t j = t n ∧ un j ≠ u) n = qc_n (fun j => t j = x ∧ un j ≠ u) n := by rw [h.1]
      rw [qc_t (p := fun j => t j = x ∧ un j ≠ u) h, qn_Ft ⟨by omega, by omega, h.2⟩, e]
      refine ⟨fun y => ?_, fun y => ?_⟩
      · have := ih.1 (by omega)
        omega
      · have := ih.1 (by omega)
        omega
    · rw [qc_f (p := fun j => t j = x ∧ un j ≠ u) h, qn_Ff fun y => h ⟨by have := y.1; have := y.2.1; omega, y.2.2⟩]
      exact ih
/-- a stretch holds two a cycle -/
theorem qn_two {n : Nat} {lat : Nat → Int} {dl : Nat → Nat → Int} {un : Nat → Nat} {len : Int} {c : Nat → Int} (V : qs_V n lat dl un len c) (f : Int) : ∀ d : Nat, qc_n (fun i => f ≤ c i ∧ c i ≤ f + (d : Int) - 1) n ≤ 2 * d := by
  intro d
  induction d with
  | zero => rw [qc_zero n fun i _ h => by have := h.1; have := h.2; omega]; exact Nat.le_refl _
  | succ d ih =>
    have h1 := qc_cov (r := fun i => f ≤ c i ∧ c i ≤ f + ((d + 1 : Nat) : Int) - 1) (p := fun i => f ≤ c i ∧ c i ≤ f + (d : Int) - 1) (q := fun i => c i = f + (d : Int)) n (fun i _ h => by
      by_cases x : c i = f + (d : Int)
      · exact Or.inr x
      · exact Or.inl ⟨h.1, by have := h.2; omega⟩)
    have h2 : qc_n (fun i => c i = f + (d : Int)) n ≤ 2 := qc_le2 n fun i j k hij hjk hk a b d => V.2.2.1 i j k hij hjk hk (by omega) (by omega)
    omega
/-- and of a scarce unit one a cycle, none where the cycle is full without it -/
theorem qn_unit {n : Nat} {lat : Nat → Int} {dl : Nat → Nat → Int} {un : Nat → Nat} {len : Int} {c t : Nat → Int} {u : Nat} (V : qs_V n lat dl un len c) (hc : ∀ i, i < n → t i ≠ -1 → c i = t i) (hu : u ≠ 0) {f : Int} (hf : 0 ≤ f) :
    ∀ d : Nat, qc_n (fun i => (f ≤ c i ∧ c i ≤ f + (d : Int) - 1) ∧ un i = u) n + qn_F un t u f (f + (d : Int) - 1) n ≤ d := by
  intro d
  induction d with
  | zero =>
    rw [qc_zero n fun i _ h => by have := h.1.1; have := h.1.2; omega, qn_Fempty (by omega)]
    exact Nat.le_refl _
  | succ d ih =>
    have e : f + ((d + 1 : Nat) : Int) - 1 = f + (d : Int) := by omega
    rw [e]
    have h1 := qc_cov (r := fun i => (f ≤ c i ∧ c i ≤ f + (d : Int)) ∧ un i = u) (p := fun i => (f ≤ c i ∧ c i ≤ f + (d : Int) - 1) ∧ un i = u) (q := fun i => c i = f + (d : Int) ∧ un i = u) n (fun i _ h => by
      by_cases x : c i = f + (d : Int)
      · exact Or.inr ⟨x, h.2⟩
      · exact Or.inl ⟨⟨h.1.1, by have := h.1.2; omega⟩, h.2⟩)
    have h2 := qn_Fsplit (un := un) (t := t) (u := u) (f := f) (la := f + (d : Int)) (by omega) n
    generalize hx : f + (d : Int) = x at *
    have h3 : qc_n (fun i => c i = x ∧ un i = u) n ≤ 1 := qc_le1 n fun i j hij hj a b => by
      have := V.2.2.2 i j hij hj (by omega) (by rw [a.2, b.2])
      rw [a.2] at this
      exact hu this
    have h4 : qc_n (fun i => c i = x ∧ un i = u) n + qc_n (fun j => t j = x ∧ un j ≠ u) n ≤ qc_n (fun i => c i = x) n := qc_add n (fun i _ a => a.1) (fun i hi a => (hc i hi (by have := a.1; omega)).trans a.1) (fun i _ a b => b.2 a.2)
    have h5 : qc_n (fun i => c i = x) n ≤ 2 := qc_le2 n fun i j k hij hjk hk a b d => V.2.2.1 i j k hij hjk hk (by omega) (by omega)
    have h6 := qn_F1 (un := un) (t := t) (u := u) (x := x) n
    by_cases y : qc_n (fun j => t j = x ∧ un j ≠ u) n ≤ 1
    · have := h6.1 y
      omega
    · have := h6.2 (by omega)
      omega
def qn_us (un : Nat → Nat) (u i : Nat) : Prop := u = 0 ∨ un i = u
/-- those that must issue from f to la and use u -/
noncomputable def qn_N (n : Nat) (un : Nat → Nat) (e l : Nat → Int) (u : Nat) (f la : Int) : Nat := qc_n (fun i => f ≤ e i ∧ l i ≤ la ∧ qn_us un u i) n
/-- spare room, as the component takes it -/
noncomputable def qn_sp (n : Nat) (un : Nat → Nat) (t e l : Nat → Int) (u : Nat) (f la : Int) : Int :=
  (la - f + 1) * (if u = 0 then 2 else 1) - (if u ≠ 0 ∧ 0 < qn_N n un e l u f la then (qn_F un t u f la n : Int) else 0) - (qn_N n un e l u f la : Int)
/-- all schedules that go on with the trial lie within the windows -/
def qn_K (n : Nat) (lat : Nat → Int) (dl : Nat → Nat → Int) (un : Nat → Nat) (len : Int) (t lo e l : Nat → Int) : Prop :=
  ∀ c, qo_C n lat dl un len t lo c → ∀ i, i < n → e i ≤ c i ∧ c i ≤ l i
/-- users within a stretch, in a schedule that the windows hold -/
theorem qn_room {n : Nat} {lat : Nat → Int} {dl : Nat → Nat → Int} {un : Nat → Nat} {len : Int} {c t e l : Nat → Int} {u : Nat} {f la : Int} (V : qs_V n lat dl un len c) (hc : ∀ i, i < n → t i ≠ -1 → c i = t i) (hw : ∀ i, i < n → e i ≤ c i ∧ c i ≤ l i) (hf : 0 ≤ f) (hla : f ≤ la) :
    (qn_N n un e l u f la : Int) ≤ (qc_n (fun i => (f ≤ c i ∧ c i ≤ la) ∧ qn_us un u i) n : Int) ∧ (qc_n (fun i => (f ≤ c i ∧ c i ≤ la) ∧ qn_us un u i) n : Int) ≤ qn_sp n un t e l u f la + (qn_N n un e l u f la : Int) := by
  have h1 : qn_N n un e l u f la ≤ qc_n (fun i => (f ≤ c i ∧ c i ≤ la) ∧ qn_us un u i) n := qc_mono n fun i hi a => by
    have := hw i hi
    exact ⟨⟨by have := a.1; omega, by have := a.2.1; omega⟩, a.2.2⟩
  refine ⟨by omega, ?_⟩
  obtain ⟨d, hd⟩ : ∃ d : Nat, la = f + (d : Int) - 1 := ⟨(la - f + 1).toNat, by omega⟩
  unfold qn_sp
  by_cases z : u = 0
  · rw [if_pos z, if_neg (fun y => y.1 z)]
    have h2 := qn_two V f d
    have h3 : qc_n (fun i => (f ≤ c i ∧ c i ≤ la) ∧ qn_us un u i) n ≤ qc_n (fun i => f ≤ c i ∧ c i ≤ f + (d : Int) - 1) n := qc_mono n fun i _ a => by rw [← hd]; exact a.1
    omega
  · rw [if_neg z]
    have h2 := qn_unit (t := t) V hc z hf d
    have h3 : qc_n (fun i => (f ≤ c i ∧ c i ≤ la) ∧ qn_us un u i) n ≤ qc_n (fun i => (f ≤ c i ∧ c i ≤ f + (d : Int) - 1) ∧ un i = u) n := qc_mono n fun i _ a => by
      rw [← hd]
      exact ⟨a.1, a.2.elim (fun y => absurd y z) id⟩
    rw [← hd] at h2 h3
    by_cases y : u ≠ 0 ∧ 0 < qn_N n un e l u f la
    · rw [if_pos y]; omega
    · rw [if_neg y]; omega
/-- a crowded stretch ends all hope -/
theorem qn_crowd {n : Nat} {lat : Nat → Int} {dl : Nat → Nat → Int} {un : Nat → Nat} {len : Int} {t lo e l : Nat → Int} {u : Nat} {f la : Int} (K : qn_K n lat dl un len t lo e l) (hf : 0 ≤ f) (hla : f ≤ la) (h : qn_sp n un t e l u f la < 0) (c : Nat → Int) : ¬ qo_C n lat dl un len t lo c := by
  intro C
  have := qn_room (u := u) C.1 C.2.1 (K c C) hf hla
  omega
/-- a full one is closed to the others -/
theorem qn_out {n : Nat} {lat : Nat → Int} {dl : Nat → Nat → Int} {un : Nat → Nat} {len : Int} {c t e l : Nat → Int} {u : Nat} {f la : Int} (V : qs_V n lat dl un len c) (hc : ∀ i, i < n → t i ≠ -1 → c i = t i) (hw : ∀ i, i < n → e i ≤ c i ∧ c i ≤ l i) (hf : 0 ≤ f) (hla : f ≤ la) (h : qn_sp n un t e l u f la = 0)
    {i : Nat} (hi : i < n) (hu : qn_us un u i) (ho : ¬ (f ≤ e i ∧ l i ≤ la)) : ¬ (f ≤ c i ∧ c i ≤ la) := by
  intro hin
  have h1 := qn_room (u := u) V hc hw hf hla
  have h2 := qc_add (p := fun j => f ≤ e j ∧ l j ≤ la ∧ qn_us un u j) (q := fun j => j = i) (r := fun j => (f ≤ c j ∧ c j ≤ la) ∧ qn_us un u j) n
    (fun j hj a => by have := hw j hj; exact ⟨⟨by have := a.1; omega, by have := a.2.1; omega⟩, a.2.2⟩)
    (fun j _ a => by subst a; exact ⟨hin, hu⟩)
    (fun j _ a b => by subst b; exact ho ⟨a.1, a.2.1⟩)
  have h3 := qc_one (p := fun j => j = i) n i hi rfl
  have h4 : qn_N n un e l u f la = qc_n (fun j => f ≤ e j ∧ l j ≤ la ∧ qn_us un u j) n := rfl
  omega
/-- what a full stretch does to a window that begins inside it and ends outside -/
theorem qn_out1 {n : Nat} {lat : Nat → Int} {dl : Nat → Nat → Int} {un : Nat → Nat} {len : Int} {c t lo e l : Nat → Int} {u : Nat} {f la : Int} (K : qn_K n lat dl un len t lo e l) (hf : 0 ≤ f) (hla : f ≤ la) (h : qn_sp n un t e l u f la = 0)
    {i : Nat} (hi : i < n) (hu : qn_us un u i) (h1 : f ≤ e i ∧ e i ≤ la) (h2 : ¬ (f ≤ l i ∧ l i ≤ la)) (C : qo_C n lat dl un len t lo c) : la + 1 ≤ c i := by
  have hw := K c C i hi
  by_cases x : l i ≤ la
  · omega
  · have := qn_out C.1 C.2.1 (K c C) hf hla h hi hu (fun y => x y.2)
    omega
theorem qn_out2 {n : Nat} {lat : Nat → Int} {dl : Nat → Nat → Int} {un : Nat → Nat} {len : Int} {c t lo e l : Nat → Int} {u : Nat} {f la : Int} (K : qn_K n lat dl un len t lo e l) (hf : 0 ≤ f) (hla : f ≤ la) (h : qn_sp n un t e l u f la = 0)
    {i : Nat} (hi : i < n) (hu : qn_us un u i) (h1 : ¬ (f ≤ e i ∧ e i ≤ la)) (h2 : f ≤ l i ∧ l i ≤ la) (C : qo_C n lat dl un len t lo c) : c i ≤ f - 1 := by
  have hw := K c C i hi
  by_cases x : f ≤ e i
  · omega
  · have := qn_out C.1 C.2.1 (K c C) hf hla h hi hu (fun y => x y.1)
    omega
/-- windows that only shrink where schedules allow it -/
theorem qn_Kc {n : Nat} {lat : Nat → Int} {dl : Nat → Nat → Int} {un : Nat → Nat} {len : Int} {t lo e l e' l' : Nat → Int} (K : qn_K n lat dl un len t lo e l) (h : ∀ i, i < n → e' i = e i ∧ l' i = l i) : qn_K n lat dl un len t lo e' l' := by
  intro c C i hi
  rw [(h i hi).1, (h i hi).2]
  exact K c C i hi
theorem qn_Kge {n : Nat} {lat : Nat → Int} {dl : Nat → Nat → Int} {un : Nat → Nat} {len : Int} {t lo e l : Nat → Int} {j : Nat} {x : Int} (K : qn_K n lat dl un len t lo e l) (h : ∀ c, qo_C n lat dl un len t lo c → x ≤ c j) : qn_K n lat dl un len t lo (qg_up e j x) l := by
  intro c C i hi
  refine ⟨?_, (K c C i hi).2⟩
  by_cases y : i = j
  · rw [y, qg_us]; exact h c C
  · rw [qg_un y]; exact (K c C i hi).1
theorem qn_Kgl {n : Nat} {lat : Nat → Int} {dl : Nat → Nat → Int} {un : Nat → Nat} {len : Int} {t lo e l : Nat → Int} {j : Nat} {x : Int} (K : qn_K n lat dl un len t lo e l) (h : ∀ c, qo_C n lat dl un len t lo c → c j ≤ x) : qn_K n lat dl un len t lo e (qg_up l j x) := by
  intro c C i hi
  refine ⟨(K c C i hi).1, ?_⟩
  by_cases y : i = j
  · rw [y, qg_us]; exact h c C
  · rw [qg_un y]; exact (K c C i hi).2
theorem qn_Ke {n : Nat} {lat : Nat → Int} {dl wt : Nat → Nat → Int} {un : Nat → Nat} {len : Int} {t lo e l : Nat → Int} (hw : qw_W n dl wt un) (K : qn_K n lat dl un len t lo e l) {i j : Nat} (hij : i < j) (hj : j < n) (h : 0 ≤ wt i j) : qn_K n lat dl un len t lo (qg_up e j (e i + wt i j)) l :=
  qn_Kge K fun c C => by
    have h1 := qw_V hw C.1 hij hj h
    have h2 := (K c C i (by omega)).1
    omega
theorem qn_Kl {n : Nat} {lat : Nat → Int} {dl wt : Nat → Nat → Int} {un : Nat → Nat} {len : Int} {t lo e l : Nat → Int} (hw : qw_W n dl wt un) (K : qn_K n lat dl un len t lo e l) {i j : Nat} (hij : i < j) (hj : j < n) (h : 0 ≤ wt i j) : qn_K n lat dl un len t lo e (qg_up l i (l j - wt i j)) :=
  qn_Kgl K fun c C => by
    have h1 := qw_V hw C.1 hij hj h
    have h2 := (K c C j hj).2
    omega
/-- windows at rest: nothing crowded, nothing straddled, edges kept -/
theorem qn_rest {n : Nat} {lat : Nat → Int} {wt : Nat → Nat → Int} {un : Nat → Nat} {len : Int} {t e l : Nat → Int} (hu : ∀ i, i < n → un i ≤ 2)
    (h1 : ∀ i, i < n → t i = -1 → 0 ≤ e i ∧ e i + lat i ≤ len) (h2 : ∀ i, i < n → t i ≠ -1 → e i = t i ∧ l i = t i)
    (h3 : ∀ i j, i < j → j < n → 0 ≤ wt i j → e i + wt i j ≤ e j)
    (h4 : ∀ i j u, i < n → j < n → u ≤ 2 → e i ≤ l j → 0 ≤ qn_sp n un t e l u (e i) (l j) ∧
      (qn_sp n un t e l u (e i) (l j) = 0 → ∀ m, m < n → qn_us un u m → ((e i ≤ e m ∧ e m ≤ l j) ↔ (e i ≤ l m ∧ l m ≤ l j)))) : qo_O n lat wt un len t e := by
  have at1 : ∀ j x u, j < n → t j ≠ -1 → t j = x → u ≤ 2 → 0 ≤ qn_sp n un t e l u x x ∧ (qn_sp n un t e l u x x = 0 → ∀ m, m < n → qn_us un u m → (e m = x ↔ l m = x)) := by
    intro j x u hj tj p hu2
    have p2 := h2 j hj tj
    have h := h4 j j u hj hj hu2 (by omega)
    rw [p2.1, p2.2, p] at h
    refine ⟨h.1, fun hz m hm hum => ?_⟩
    have h' := h.2 hz m hm hum
    constructor
    · intro a
      have := h'.mp ⟨by omega, by omega⟩
      omega
    · intro a
      have := h'.mpr ⟨by omega, by omega⟩
      omega
  have le1 : ∀ u x, u ≠ 0 → 0 < qn_N n un e l u x x → qn_sp n un t e l u x x + (qn_N n un e l u x x : Int) ≤ 1 := by
    intro u x hu0 hN
    unfold qn_sp
    rw [if_neg hu0, if_pos ⟨hu0, hN⟩]
    have : x - x + 1 = 1 := by omega
    rw [this]
    omega
  have sp0 : ∀ x, qn_sp n un t e l 0 x x + (qn_N n un e l 0 x x : Int) = 2 := by
    intro x
    unfold qn_sp
    rw [if_pos rfl, if_neg (fun y => y.1 rfl)]
    have : x - x + 1 = 1 := by omega
    rw [this]
    omega
  have inN : ∀ u x i, e i = x → l i = x → qn_us un u i → x ≤ e i ∧ l i ≤ x ∧ qn_us un u i := fun u x i p q h => ⟨by omega, by omega, h⟩
  have inS : ∀ u x i, i < n → t i ≠ -1 → t i = x → qn_us un u i → x ≤ e i ∧ l i ≤ x ∧ qn_us un u i := fun u x i hi ti p h => inN u x i (by rw [(h2 i hi ti).1]; exact p) (by rw [(h2 i hi ti).2]; exact p) h
  refine ⟨h1, fun i hi ti => (h2 i hi ti).1, h3, fun i j k hij hjk hk ti tj tk e1 e2 => ?_, fun i j hij hj ti tj e1 he => ?_, fun i j hi hj ti tj e1 he => ?_, fun i j k hi hjk hk ti tj tk e1 e2 => ?_⟩
  · have a := (at1 i (t i) 0 (by omega) ti rfl (by omega)).1
    have b := sp0 (t i)
    have d : 3 ≤ qn_N n un e l 0 (t i) (t i) := qc_three n i j k hij hjk hk (inS 0 _ i (by omega) ti rfl (Or.inl rfl)) (inS 0 _ j (by omega) tj e1.symm (Or.inl rfl)) (inS 0 _ k hk tk (by omega) (Or.inl rfl))
    omega
  · by_cases z : un i = 0
    · exact z
    · exfalso
      have a := (at1 i (t i) (un i) (by omega) ti rfl (hu i (by omega))).1
      have d : 2 ≤ qn_N n un e l (un i) (t i) (t i) := qc_two n i j hij hj (inS _ _ i (by omega) ti rfl (Or.inr rfl)) (inS _ _ j hj tj e1.symm (Or.inr he.symm))
      have b := le1 (un i) (t i) z (by omega)
      omega
  · by_cases z : un i = 0
    · exact z
    · exfalso
      have hij : i ≠ j := fun y => tj (by rw [← y]; exact ti)
      have a := at1 j (t j) (un i) hj tj rfl (hu i hi)
      have sj := inS (un i) _ j hj tj rfl (Or.inr he.symm)
      have d : 1 ≤ qn_N n un e l (un i) (t j) (t j) := qc_one n j hj sj
      have b := le1 (un i) (t j) z (by omega)
      have g := (a.2 (by omega) i hi (Or.inr rfl)).mp e1
      have si := inN (un i) (t j) i e1 g (Or.inr rfl)
      have d2 : 2 ≤ qn_N n un e l (un i) (t j) (t j) := by
        by_cases y : i < j
        · exact qc_two n i j y hj si sj
        · exact qc_two n j i (by omega) hi sj si
      omega
  · have a := at1 j (t j) 0 (by omega) tj rfl (by omega)
    have sj := inS 0 (t j) j (by omega) tj rfl (Or.inl rfl)
    have sk := inS 0 (t j) k hk tk e1.symm (Or.inl rfl)
    have d : 2 ≤ qn_N n un e l 0 (t j) (t j) := qc_two n j k hjk hk sj sk
    have b := sp0 (t j)
    have g := (a.2 (by omega) i hi (Or.inl rfl)).mp e2
    have si := inN 0 (t j) i e2 g (Or.inl rfl)
    have ij : i ≠ j := fun y => tj (by rw [← y]; exact ti)
    have ik : i ≠ k := fun y => tk (by rw [← y]; exact ti)
    have d2 : 3 ≤ qn_N n un e l 0 (t j) (t j) := by
      by_cases y : i < j
      · exact qc_three n i j k y hjk hk si sj sk
      · by_cases y2 : i < k
        · exact qc_three n j i k (by omega) y2 hk sj si sk
        · exact qc_three n j k i hjk (by omega) hi sj sk si
    omega
/-- sums of widths -/
theorem qn_Sm {R Q : Nat → Int} : ∀ k, (∀ j, j < k → R j ≤ Q j) → qb_S R k ≤ qb_S Q k := by
  intro k
  induction k with
  | zero => intro _; exact Int.le_refl 0
  | succ k ih =>
    intro h
    have h1 := ih fun j hj => h j (by omega)
    have h2 := h k (by omega)
    show qb_S R k + R k ≤ qb_S Q k + Q k
    omega
theorem qn_Ss {R Q : Nat → Int} : ∀ k i, i < k → (∀ j, j < k → R j ≤ Q j) → R i + 1 ≤ Q i → qb_S R k + 1 ≤ qb_S Q k := by
  intro k
  induction k with
  | zero => intro i hi; exact absurd hi (Nat.not_lt_zero i)
  | succ k ih =>
    intro i hi h hs
    have h2 := h k (by omega)
    show qb_S R k + R k + 1 ≤ qb_S Q k + Q k
    by_cases e : i = k
    · subst e
      have h1 := qn_Sm i fun j hj => h j (by omega)
      omega
    · have h1 := ih i (by omega) (fun j hj => h j (by omega)) hs
      omega
theorem qn_Sb {R : Nat → Int} {b : Int} : ∀ k, (∀ j, j < k → R j ≤ b) → qb_S R k ≤ b * (k : Int) := by
  intro k
  induction k with
  | zero => intro _; show (0 : Int) ≤ b * ((0 : Nat) : Int); simp
  | succ k ih =>
    intro h
    have h1 := ih fun j hj => h j (by omega)
    have h2 := h k (by omega)
    show qb_S R k + R k ≤ b * ((k + 1 : Nat) : Int)
    have h3 : b * ((k + 1 : Nat) : Int) = b * (k : Int) + b := by
      rw [Int.natCast_add, Int.mul_add]
      simp
    omega
end
section
/-! small ints by their values -/
theorem zi_add {a b : Int32} {x y : Int} (ha : a.toInt = x) (hb : b.toInt = y) (h1 : -1000000000 ≤ x + y := by omega) (h2 : x + y ≤ 1000000000 := by omega) : (a + b).toInt = x + y := by
  rw [Int32.toInt_add, ha, hb]
  exact Int.bmod_eq_of_le (by omega) (by omega)
theorem zi_sub {a b : Int32} {x y : Int} (ha : a.toInt = x) (hb : b.toInt = y) (h1 : -1000000000 ≤ x - y := by omega) (h2 : x - y ≤ 1000000000 := by omega) : (a - b).toInt = x - y := by
  rw [Int32.toInt_sub, ha, hb]
  exact Int.bmod_eq_of_le (by omega) (by omega)
theorem zi_mul {a b : Int32} {x y : Int} (ha : a.toInt = x) (hb : b.toInt = y) (h1 : -1000000000 ≤ x * y) (h2 : x * y ≤ 1000000000) : (a * b).toInt = x * y := by
  rw [Int32.toInt_mul, ha, hb]
  exact Int.bmod_eq_of_le (by omega) (by omega)
theorem zi_le {a b : Int32} {x y : Int} (ha : a.toInt = x) (hb : b.toInt = y) : a ≤ b ↔ x ≤ y := by
  rw [Int32.le_iff_toInt_le, ha, hb]
theorem zi_lt {a b : Int32} {x y : Int} (ha : a.toInt = x) (hb : b.toInt = y) : a < b ↔ x < y := by
  rw [Int32.lt_iff_toInt_lt, ha, hb]
theorem zi_eq {a b : Int32} {x y : Int} (ha : a.toInt = x) (hb : b.toInt = y) : a = b ↔ x = y := by
  rw [← Int32.toInt_inj, ha, hb]
theorem zi_nI {n : Nat} (h : n < 2 ^ 31) : (nI n).toInt = (n : Int) := nI_toInt h
theorem zi_of {a : Int32} {x : Int} (ha : a.toInt = x) : a = Int32.ofInt x := by rw [← ha, Int32.ofInt_toInt]
/-- branches by values -/
theorem zi_bl {a b : Int32} {x y : Int} {A B : Prop} (ha : a.toInt = x) (hb : b.toInt = y) (f : x ≤ y → A) (g : y < x → B) : (a ≤ b → A) ∧ (¬ a ≤ b → B) :=
  ⟨fun h => f ((zi_le ha hb).mp h), fun h => g (by have q : ¬ x ≤ y := fun z => h ((zi_le ha hb).mpr z); omega)⟩
theorem zi_bt {a b : Int32} {x y : Int} {A B : Prop} (ha : a.toInt = x) (hb : b.toInt = y) (f : x < y → A) (g : y ≤ x → B) : (a < b → A) ∧ (¬ a < b → B) :=
  ⟨fun h => f ((zi_lt ha hb).mp h), fun h => g (by have q : ¬ x < y := fun z => h ((zi_lt ha hb).mpr z); omega)⟩
theorem zi_be {a b : Int32} {x y : Int} {A B : Prop} (ha : a.toInt = x) (hb : b.toInt = y) (f : x = y → A) (g : x ≠ y → B) : (a = b → A) ∧ (¬ a = b → B) :=
  ⟨fun h => f ((zi_eq ha hb).mp h), fun h => g (fun z => h ((zi_eq ha hb).mpr z))⟩
end
section
/-! values of the block, shared by both sides -/
def zv_lat (ml ll : Int32) (op : Nat → Int32) (i : Nat) : Int32 := if op i = 4 then ml else if op i = 5 then ll else 1
/-- a latency -/
def zv_L (x : Int32) : Prop := ∃ a, 1 ≤ a ∧ a ≤ 4 ∧ x = nI a
theorem zv_latL {ml ll : Int32} {op : Nat → Int32} (h1 : zv_L ml) (h2 : zv_L ll) (i : Nat) : zv_L (zv_lat ml ll op i) := by
  unfold zv_lat
  split
  · exact h1
  · split
    · exact h2
    · exact ⟨1, by decide, by decide, rfl⟩
theorem zv_Li {x : Int32} (h : zv_L x) : 1 ≤ x.toInt ∧ x.toInt ≤ 4 := by
  obtain ⟨a, h1, h2, rfl⟩ := h
  rw [nI_toInt (by omega)]
  omega
/-- the instructions kept: opcodes, fields within -/
def zv_F (n : Nat) (op fd fa fb : Nat → Int32) : Prop :=
  ∀ i, i < n → (∃ o, 1 ≤ o ∧ o ≤ 6 ∧ op i = nI o) ∧ (∃ d, d < 8 ∧ fd i = nI d) ∧ (op i ≠ 1 → ∃ a, a < 8 ∧ fa i = nI a) ∧ (op i = 2 ∨ op i = 3 ∨ op i = 4 → ∃ b, b < 8 ∧ fb i = nI b)
/-- i reads register r -/
def zv_rd (op fd fa fb : Nat → Int32) (i : Nat) (r : Int32) : Prop :=
  ((op i = 2 ∨ op i = 3 ∨ op i = 4) ∧ (fa i = r ∨ fb i = r)) ∨ (op i = 5 ∧ fa i = r) ∨ (op i = 6 ∧ (fa i = r ∨ fd i = r))
def zv_T (op fd fa fb : Nat → Int32) (i j : Nat) : Prop := (op i ≠ 6 ∧ zv_rd op fd fa fb j (fd i)) ∨ (op i = 6 ∧ op j = 5)
def zv_A (op fd fa fb : Nat → Int32) (i j : Nat) : Prop := (op j ≠ 6 ∧ zv_rd op fd fa fb i (fd j)) ∨ (op i = 5 ∧ op j = 6)
def zv_O (op fd : Nat → Int32) (i j : Nat) : Prop := (op i ≠ 6 ∧ op j ≠ 6 ∧ fd i = fd j) ∨ (op i = 6 ∧ op j = 6)
noncomputable def zv_b (p : Prop) (x : Int32) : Int32 := @ite Int32 p (Classical.propDecidable p) x 0
theorem zv_bt {p : Prop} {x : Int32} (h : p) : zv_b p x = x := if_pos h
theorem zv_bf {p : Prop} {x : Int32} (h : ¬ p) : zv_b p x = 0 := if_neg h
/-- the kinds of a pair -/
noncomputable def zv_k (op fd fa fb : Nat → Int32) (i j : Nat) : Int32 := zv_b (zv_T op fd fa fb i j) 1 + zv_b (zv_A op fd fa fb i j) 2 + zv_b (zv_O op fd i j) 4
theorem zv_k8 {op fd fa fb : Nat → Int32} {i j : Nat} : ∃ k, k < 8 ∧ zv_k op fd fa fb i j = nI k := by
  unfold zv_k
  by_cases h1 : zv_T op fd fa fb i j
  · by_cases h2 : zv_A op fd fa fb i j
    · by_cases h3 : zv_O op fd i j
      · rw [zv_bt h1, zv_bt h2, zv_bt h3]; exact ⟨7, by decide, by decide⟩
      · rw [zv_bt h1, zv_bt h2, zv_bf h3]; exact ⟨3, by decide, by decide⟩
    · by_cases h3 : zv_O op fd i j
      · rw [zv_bt h1, zv_bf h2, zv_bt h3]; exact ⟨5, by decide, by decide⟩
      · rw [zv_bt h1, zv_bf h2, zv_bf h3]; exact ⟨1, by decide, by decide⟩
  · by_cases h2 : zv_A op fd fa fb i j
    · by_cases h3 : zv_O op fd i j
      · rw [zv_bf h1, zv_bt h2, zv_bt h3]; exact ⟨6, by decide, by decide⟩
      · rw [zv_bf h1, zv_bt h2, zv_bf h3]; exact ⟨2, by decide, by decide⟩
    · by_cases h3 : zv_O op fd i j
      · rw [zv_bf h1, zv_bf h2, zv_bt h3]; exact ⟨4, by decide, by decide⟩
      · rw [zv_bf h1, zv_bf h2, zv_bf h3]; exact ⟨0, by decide, by decide⟩
/-- the delay for kinds k and latencies a, b, as the reference takes it -/
def zv_d (k a b : Int32) : Int32 :=
  if k = 0 then -1
  else if k &&& 4 = 0 then (if k &&& 1 = 0 then 0 else a)
  else if (if 1 ≤ a - b + 1 then a - b + 1 else 1) ≤ (if k &&& 1 = 0 then 0 else a) then (if k &&& 1 = 0 then 0 else a)
  else (if 1 ≤ a - b + 1 then a - b + 1 else 1)
/-- and as the component takes it -/
def zv_dX (k a b : Int32) : Int32 :=
  if k = 0 then -1
  else if k &&& 1 = 0 then (if k &&& 4 = 0 then 0 else if a ≤ b then 1 else a - b + 1)
  else if a ≤ (if k &&& 4 = 0 then 0 else if a ≤ b then 1 else a - b + 1) then (if k &&& 4 = 0 then 0 else if a ≤ b then 1 else a - b + 1)
  else a
theorem zv_dtab : (List.range 8).all (fun k => (List.range 5).all fun a => (List.range 5).all fun b => (a == 0 || b == 0) || (decide (zv_d (nI k) (nI a) (nI b) = zv_dX (nI k) (nI a) (nI b)) && decide (-1 ≤ (zv_d (nI k) (nI a) (nI b)).toInt ∧ (zv_d (nI k) (nI a) (nI b)).toInt ≤ (nI a).toInt))) = true := by decide +kernel
theorem zv_dd {k a b : Int32} (hk : ∃ q, q < 8 ∧ k = nI q) (ha : zv_L a) (hb : zv_L b) : zv_d k a b = zv_dX k a b ∧ -1 ≤ (zv_d k a b).toInt ∧ (zv_d k a b).toInt ≤ a.toInt := by
  obtain ⟨q, hq, rfl⟩ := hk
  obtain ⟨x, x1, x2, rfl⟩ := ha
  obtain ⟨y, y1, y2, rfl⟩ := hb
  have h := zv_dtab
  rw [List.all_eq_true] at h
  have h1 := h q (List.mem_range.mpr hq)
  rw [List.all_eq_true] at h1
  have h2 := h1 x (List.mem_range.mpr (by omega))
  rw [List.all_eq_true] at h2
  have h3 := h2 y (List.mem_range.mpr (by omega))
  rw [Bool.or_eq_true] at h3
  rcases h3 with h4 | h4
  · rw [Bool.or_eq_true, beq_iff_eq, beq_iff_eq] at h4
    omega
  · rw [Bool.and_eq_true] at h4
    exact ⟨of_decide_eq_true h4.1, of_decide_eq_true h4.2⟩
noncomputable def zv_dl (ml ll : Int32) (op fd fa fb : Nat → Int32) (i j : Nat) : Int32 := zv_d (zv_k op fd fa fb i j) (zv_lat ml ll op i) (zv_lat ml ll op j)
theorem zv_dlI {ml ll : Int32} {op fd fa fb : Nat → Int32} (h1 : zv_L ml) (h2 : zv_L ll) (i j : Nat) : -1 ≤ (zv_dl ml ll op fd fa fb i j).toInt ∧ (zv_dl ml ll op fd fa fb i j).toInt ≤ (zv_lat ml ll op i).toInt :=
  (zv_dd zv_k8 (zv_latL h1 h2 i) (zv_latL h1 h2 j)).2
theorem zv_dlX {ml ll : Int32} {op fd fa fb : Nat → Int32} (h1 : zv_L ml) (h2 : zv_L ll) (i j : Nat) : zv_dX (zv_k op fd fa fb i j) (zv_lat ml ll op i) (zv_lat ml ll op j) = zv_dl ml ll op fd fa fb i j :=
  (zv_dd zv_k8 (zv_latL h1 h2 i) (zv_latL h1 h2 j)).1.symm
/-! masks of registers -/
def zv_m (x : Int32) : Int32 := (1 : Int32) <<< (x &&& 31)
theorem zm_tab1 : (List.range 8).all (fun a => (List.range 8).all fun b => decide (zv_m (nI a) &&& zv_m (nI b) = 0 ↔ a ≠ b)) = true := by decide +kernel
theorem zm_tab2 : (List.range 8).all (fun a => (List.range 8).all fun b => (List.range 8).all fun c => decide (zv_m (nI a) &&& (zv_m (nI b) ||| zv_m (nI c)) = 0 ↔ (a ≠ b ∧ a ≠ c)) && decide ((zv_m (nI b) ||| zv_m (nI c)) &&& zv_m (nI a) = 0 ↔ (a ≠ b ∧ a ≠ c))) = true := by decide +kernel
theorem zm_1 {a b : Nat} (ha : a < 8) (hb : b < 8) : zv_m (nI a) &&& zv_m (nI b) = 0 ↔ a ≠ b := by
  have h := zm_tab1
  rw [List.all_eq_true] at h
  have h1 := h a (List.mem_range.mpr ha)
  rw [List.all_eq_true] at h1
  exact of_decide_eq_true (h1 b (List.mem_range.mpr hb))
theorem zm_2 {a b c : Nat} (ha : a < 8) (hb : b < 8) (hc : c < 8) : (zv_m (nI a) &&& (zv_m (nI b) ||| zv_m (nI c)) = 0 ↔ (a ≠ b ∧ a ≠ c)) ∧ ((zv_m (nI b) ||| zv_m (nI c)) &&& zv_m (nI a) = 0 ↔ (a ≠ b ∧ a ≠ c)) := by
  have h := zm_tab2
  rw [List.all_eq_true] at h
  have h1 := h a (List.mem_range.mpr ha)
  rw [List.all_eq_true] at h1
  have h2 := h1 b (List.mem_range.mpr hb)
  rw [List.all_eq_true] at h2
  have h3 := h2 c (List.mem_range.mpr hc)
  rw [Bool.and_eq_true] at h3
  exact ⟨of_decide_eq_true h3.1, of_decide_eq_true h3.2⟩
/-- the registers that i reads, as bits -/
def zv_rm (op fd fa fb : Nat → Int32) (i : Nat) : Int32 := if op i = 1 then 0 else if op i = 5 then zv_m (fa i) else if op i = 6 then zv_m (fa i) ||| zv_m (fd i) else zv_m (fa i) ||| zv_m (fb i)
def zv_wm (op fd : Nat → Int32) (i : Nat) : Int32 := if op i = 6 then 0 else zv_m (fd i)
theorem zv_nI6 {x : Int32} (h : ∃ o, 1 ≤ o ∧ o ≤ 6 ∧ x = nI o) : x = 1 ∨ x = 2 ∨ x = 3 ∨ x = 4 ∨ x = 5 ∨ x = 6 := by
  obtain ⟨o, h1, h2, rfl⟩ := h
  rcases (show o = 1 ∨ o = 2 ∨ o = 3 ∨ o = 4 ∨ o = 5 ∨ o = 6 by omega) with h | h | h | h | h | h <;> subst h
  · exact Or.inl rfl
  · exact Or.inr (Or.inl rfl)
  · exact Or.inr (Or.inr (Or.inl rfl))
  · exact Or.inr (Or.inr (Or.inr (Or.inl rfl)))
  · exact Or.inr (Or.inr (Or.inr (Or.inr (Or.inl rfl))))
  · exact Or.inr (Or.inr (Or.inr (Or.inr (Or.inr rfl))))
/-- a register's bit among those that i reads -/
theorem zm_rd {n : Nat} {op fd fa fb : Nat → Int32} (F : zv_F n op fd fa fb) {i r : Nat} (hi : i < n) (hr : r < 8) : (zv_m (nI r) &&& zv_rm op fd fa fb i = 0 ↔ ¬ zv_rd op fd fa fb i (nI r)) ∧ (zv_rm op fd fa fb i &&& zv_m (nI r) = 0 ↔ ¬ zv_rd op fd fa fb i (nI r)) := by
  obtain ⟨f1, ⟨d, hd, ed⟩, f3, f4⟩ := F i hi
  have e1 : ∀ a, a < 8 → (nI a = nI r ↔ a = r) := fun a ha => nI_eq (by omega) (by omega)
  have c : ∀ x y : Int32, x &&& y = y &&& x := fun x y => Int32.and_comm x y
  rcases zv_nI6 f1 with h | h | h | h | h | h
  · have e : zv_rm op fd fa fb i = 0 := by unfold zv_rm; rw [if_pos h]
    have hn : ¬ zv_rd op fd fa fb i (nI r) := by
      unfold zv_rd
      rw [h]
      intro z
      rcases z with ⟨z, _⟩ | ⟨z, _⟩ | ⟨z, _⟩
      · rcases z with z | z | z
        · exact absurd z (by decide)
        · exact absurd z (by decide)
        · exact absurd z (by decide)
      · exact absurd z (by decide)
      · exact absurd z (by decide)
    rw [e]
    refine ⟨⟨fun _ => hn, fun _ => ?_⟩, ⟨fun _ => hn, fun _ => ?_⟩⟩
    · exact Int32.and_zero
    · exact Int32.zero_and
  all_goals obtain ⟨a, ha, ea⟩ := f3 (by rw [h]; decide)
  · obtain ⟨b, hb, eb⟩ := f4 (Or.inl h)
    have e : zv_rm op fd fa fb i = zv_m (nI a) ||| zv_m (nI b) := by unfold zv_rm; rw [if_neg (by rw [h]; decide), if_neg (by rw [h]; decide), if_neg (by rw [h]; decide), ea, eb]
    have hz : zv_rd op fd fa fb i (nI r) ↔ (a = r ∨ b = r) := by
      unfold zv_rd
      rw [ea, eb, e1 a ha, e1 b hb]
      exact ⟨fun z => z.elim (fun z => z.2) (fun z => z.elim (fun z => absurd z.1 (by rw [h]; decide)) (fun z => absurd z.1 (by rw [h]; decide))), fun z => Or.inl ⟨Or.inl h, z⟩⟩
    have t := zm_2 hr ha hb
    rw [e, t.1, t.2, hz]
    omega
  · obtain ⟨b, hb, eb⟩ := f4 (Or.inr (Or.inl h))
    have e : zv_rm op fd fa fb i = zv_m (nI a) ||| zv_m (nI b) := by unfold zv_rm; rw [if_neg (by rw [h]; decide), if_neg (by rw [h]; decide), if_neg (by rw [h]; decide), ea, eb]
    have hz : zv_rd op fd fa fb i (nI r) ↔ (a = r ∨ b = r) := by
      unfold zv_rd
      rw [ea, eb, e1 a ha, e1 b hb]
      exact ⟨fun z => z.elim (fun z => z.2) (fun z => z.elim (fun z => absurd z.1 (by rw [h]; decide)) (fun z => absurd z.1 (by rw [h]; decide))), fun z => Or.inl ⟨Or.inr (Or.inl h), z⟩⟩
    have t := zm_2 hr ha hb
    rw [e, t.1, t.2, hz]
    omega
  · obtain ⟨b, hb, eb⟩ := f4 (Or.inr (Or.inr h))
    have e : zv_rm op fd fa fb i = zv_m (nI a) ||| zv_m (nI b) := by unfold zv_rm; rw [if_neg (by rw [h]; decide), if_neg (by rw [h]; decide), if_neg (by rw [h]; decide), ea, eb]
    have hz : zv_rd op fd fa fb i (nI r) ↔ (a = r ∨ b = r) := by
      unfold zv_rd
      rw [ea, eb, e1 a ha, e1 b hb]
      exact ⟨fun z => z.elim (fun z => z.2) (fun z => z.elim (fun z => absurd z.1 (by rw [h]; decide)) (fun z => absurd z.1 (by rw [h]; decide))), fun z => Or.inl ⟨Or.inr (Or.inr h), z⟩⟩
    have t := zm_2 hr ha hb
    rw [e, t.1, t.2, hz]
    omega
  · have e : zv_rm op fd fa fb i = zv_m (nI a) := by unfold zv_rm; rw [if_neg (by rw [h]; decide), if_pos h, ea]
    have hz : zv_rd op fd fa fb i (nI r) ↔ a = r := by
      unfold zv_rd
      rw [ea, e1 a ha]
      exact ⟨fun z => z.elim (fun z => absurd z.1 (by rw [h]; decide)) (fun z => z.elim (fun z => z.2) (fun z => absurd z.1 (by rw [h]; decide))), fun z => Or.inr (Or.inl ⟨h, z⟩)⟩
    rw [e, c (zv_m (nI a)), zm_1 hr ha, hz]
    omega
  · have e : zv_rm op fd fa fb i = zv_m (nI a) ||| zv_m (nI d) := by unfold zv_rm; rw [if_neg (by rw [h]; decide), if_neg (by rw [h]; decide), if_pos h, ea, ed]
    have hz : zv_rd op fd fa fb i (nI r) ↔ (a = r ∨ d = r) := by
      unfold zv_rd
      rw [ea, ed, e1 a ha, e1 d hd]
      exact ⟨fun z => z.elim (fun z => absurd z.1 (by rw [h]; decide)) (fun z => z.elim (fun z => absurd z.1 (by rw [h]; decide)) (fun z => z.2)), fun z => Or.inr (Or.inr ⟨h, z⟩)⟩
    have t := zm_2 hr ha hd
    rw [e, t.1, t.2, hz]
    omega
/-- the component's three tests -/
theorem zm_T {n : Nat} {op fd fa fb : Nat → Int32} (F : zv_F n op fd fa fb) {i j : Nat} (hi : i < n) (hj : j < n) : (¬ zv_wm op fd i &&& zv_rm op fd fa fb j = 0 ∨ (op i = 6 ∧ op j = 5)) ↔ zv_T op fd fa fb i j := by
  obtain ⟨_, ⟨d, hd, ed⟩, _, _⟩ := F i hi
  unfold zv_T zv_wm
  by_cases h : op i = 6
  · rw [if_pos h, Int32.zero_and]
    exact ⟨fun z => z.elim (fun z => absurd rfl z) Or.inr, fun z => z.elim (fun z => absurd h z.1) Or.inr⟩
  · rw [if_neg h, ed, (zm_rd F hj hd).1]
    exact ⟨fun z => z.elim (fun z => Or.inl ⟨h, Classical.not_not.mp z⟩) Or.inr, fun z => z.elim (fun z => Or.inl fun y => y z.2) Or.inr⟩
theorem zm_A {n : Nat} {op fd fa fb : Nat → Int32} (F : zv_F n op fd fa fb) {i j : Nat} (hi : i < n) (hj : j < n) : (¬ zv_rm op fd fa fb i &&& zv_wm op fd j = 0 ∨ (op i = 5 ∧ op j = 6)) ↔ zv_A op fd fa fb i j := by
  obtain ⟨_, ⟨d, hd, ed⟩, _, _⟩ := F j hj
  unfold zv_A zv_wm
  by_cases h : op j = 6
  · rw [if_pos h, Int32.and_zero]
    exact ⟨fun z => z.elim (fun z => absurd rfl z) Or.inr, fun z => z.elim (fun z => absurd h z.1) Or.inr⟩
  · rw [if_neg h, ed, (zm_rd F hi hd).2]
    exact ⟨fun z => z.elim (fun z => Or.inl ⟨h, Classical.not_not.mp z⟩) Or.inr, fun z => z.elim (fun z => Or.inl fun y => y z.2) Or.inr⟩
theorem zm_O {n : Nat} {op fd fa fb : Nat → Int32} (F : zv_F n op fd fa fb) {i j : Nat} (hi : i < n) (hj : j < n) : (¬ zv_wm op fd i &&& zv_wm op fd j = 0 ∨ (op i = 6 ∧ op j = 6)) ↔ zv_O op fd i j := by
  obtain ⟨_, ⟨d, hd, ed⟩, _, _⟩ := F i hi
  obtain ⟨_, ⟨d', hd', ed'⟩, _, _⟩ := F j hj
  unfold zv_O zv_wm
  by_cases h : op i = 6
  · rw [if_pos h, Int32.zero_and]
    exact ⟨fun z => z.elim (fun z => absurd rfl z) Or.inr, fun z => z.elim (fun z => absurd h z.1) Or.inr⟩
  · rw [if_neg h]
    by_cases h' : op j = 6
    · rw [if_pos h', Int32.and_zero]
      exact ⟨fun z => z.elim (fun z => absurd rfl z) Or.inr, fun z => z.elim (fun z => absurd h' z.2.1) Or.inr⟩
    · rw [if_neg h', ed, ed', zm_1 hd hd', nI_eq (by omega) (by omega)]
      exact ⟨fun z => z.elim (fun z => Or.inl ⟨h, h', Classical.not_not.mp z⟩) Or.inr, fun z => z.elim (fun z => Or.inl fun y => y z.2.2) Or.inr⟩
/-- units -/
def zv_un (x : Int32) : Nat := if x = 4 then 2 else if x = 5 then 1 else if x = 6 then 1 else 0
end
section
theorem qs_Vc {n : Nat} {lat : Nat → Int} {dl : Nat → Nat → Int} {un : Nat → Nat} {len : Int} {c c' : Nat → Int} (h : ∀ i, i < n → c i = c' i) (V : qs_V n lat dl un len c) : qs_V n lat dl un len c' := by
  obtain ⟨v1, v2, v3, v4⟩ := V
  refine ⟨fun i hi => ?_, fun i j hij hj hd => ?_, fun i j k hij hjk hk h1 h2 => ?_, fun i j hij hj h1 h2 => ?_⟩
  · rw [← h i hi]; exact v1 i hi
  · rw [← h i (by omega), ← h j hj]; exact v2 i j hij hj hd
  · rw [← h i (by omega), ← h j (by omega)] at h1
    rw [← h j (by omega), ← h k hk] at h2
    exact v3 i j k hij hjk hk h1 h2
  · rw [← h i (by omega), ← h j hj] at h1
    exact v4 i j hij hj h1 h2
theorem qs_Vm {n : Nat} {lat : Nat → Int} {dl : Nat → Nat → Int} {un : Nat → Nat} {len len' : Int} {c : Nat → Int} (h : len ≤ len') (V : qs_V n lat dl un len c) : qs_V n lat dl un len' c :=
  ⟨fun i hi => ⟨(V.1 i hi).1, by have := (V.1 i hi).2; omega⟩, V.2⟩
theorem qs_Xc {n : Nat} {lat : Nat → Int} {dl : Nat → Nat → Int} {un : Nat → Nat} {len : Int} {c c' : Nat → Int} (h : ∀ i, i < n → c i = c' i) (X : qs_X n lat dl un len c) : qs_X n lat dl un len c' := by
  refine ⟨qs_Vc h X.1, fun k hk d V hd => ?_⟩
  rw [← h k hk]
  exact X.2 k hk d V fun i hi => by rw [h i (by omega)]; exact hd i hi
/-- the first i of the least schedule -/
def qx_P (n : Nat) (lat : Nat → Int) (dl : Nat → Nat → Int) (un : Nat → Nat) (len : Int) (i : Nat) (c : Nat → Int) : Prop :=
  (∃ c', qs_V n lat dl un len c' ∧ ∀ j, j < i → c' j = c j) ∧ (∀ j, j < i → ∀ c', qs_V n lat dl un len c' → (∀ k, k < j → c' k = c k) → c j ≤ c' j)
theorem qx_0 {n : Nat} {lat : Nat → Int} {dl : Nat → Nat → Int} {un : Nat → Nat} {len : Int} {c : Nat → Int} (h : ∃ c', qs_V n lat dl un len c') : qx_P n lat dl un len 0 c := by
  obtain ⟨c', V⟩ := h
  exact ⟨⟨c', V, fun j hj => absurd hj (Nat.not_lt_zero j)⟩, fun j hj => absurd hj (Nat.not_lt_zero j)⟩
theorem qx_s {n : Nat} {lat : Nat → Int} {dl : Nat → Nat → Int} {un : Nat → Nat} {len : Int} {i : Nat} {c c1 : Nat → Int} {x : Int} (P : qx_P n lat dl un len i c) (h1 : ∀ j, j < i → c1 j = c j) (h2 : c1 i = x)
    (hlo : ∀ c', qs_V n lat dl un len c' → (∀ k, k < i → c' k = c k) → x ≤ c' i) (hx : ∃ c', qs_V n lat dl un len c' ∧ ∀ j, j < i + 1 → c' j = c1 j) : qx_P n lat dl un len (i + 1) c1 := by
  refine ⟨hx, fun j hj c' V hc => ?_⟩
  by_cases e : j = i
  · subst e
    rw [h2]
    exact hlo c' V fun k hk => by rw [← h1 k hk]; exact hc k hk
  · rw [h1 j (by omega)]
    exact P.2 j (by omega) c' V fun k hk => by rw [← h1 k (by omega)]; exact hc k hk
theorem qx_n {n : Nat} {lat : Nat → Int} {dl : Nat → Nat → Int} {un : Nat → Nat} {len : Int} {c : Nat → Int} (P : qx_P n lat dl un len n c) : qs_X n lat dl un len c := by
  obtain ⟨⟨c', V, h⟩, h2⟩ := P
  exact ⟨qs_Vc h V, h2⟩
/-- heads bound the length from below -/
theorem qx_head {n : Nat} {lat : Nat → Int} {dl : Nat → Nat → Int} {un : Nat → Nat} {len : Int} {c e : Nat → Int} (H : qh_H n dl e) (V : qs_V n lat dl un len c) : ∀ j, j < n → e j + lat j ≤ len := by
  intro j hj
  have h1 := qh_le H V j hj
  have h2 := (V.1 j hj).2
  omega
theorem qx_40 {n : Nat} {lat : Nat → Int} {dl : Nat → Nat → Int} {un : Nat → Nat} (hn : n ≤ 10) (hl : ∀ i, i < n → 1 ≤ lat i ∧ lat i ≤ 4) (hd : ∀ i j, i < j → j < n → dl i j ≤ lat i) : ∃ c, qs_V n lat dl un 40 c := by
  refine ⟨qb_S lat, qs_Vm ?_ (qh_seq (un := un) (fun i hi => (hl i hi).1) hd)⟩
  have := (qh_sum (lat := lat) n fun i hi => (hl i hi).2).1
  omega
end
section
/-! runs: what an instruction computes, and where it writes -/
def zr_ad (fa fb : Nat → Int32) (st : Nat → Int32) (i : Nat) : Int32 := 8 + ((st (fa i).toNatClampNeg + fb i) &&& 7)
def zr_val (op fd fa fb st : Nat → Int32) (i : Nat) : Int32 :=
  if op i = 1 then fa i
  else if op i = 2 then st (fa i).toNatClampNeg + st (fb i).toNatClampNeg
  else if op i = 3 then st (fa i).toNatClampNeg - st (fb i).toNatClampNeg
  else if op i = 4 then st (fa i).toNatClampNeg * st (fb i).toNatClampNeg
  else if op i = 5 then st (zr_ad fa fb st i).toNatClampNeg
  else st (fd i).toNatClampNeg
def zr_tgt (op fd fa fb st : Nat → Int32) (i : Nat) : Int32 := if op i = 6 then zr_ad fa fb st i else fd i
theorem zr_adN (fa fb st : Nat → Int32) (i : Nat) : ∃ a, 8 ≤ a ∧ a < 16 ∧ zr_ad fa fb st i = nI a := by
  obtain ⟨j, hj, e⟩ := pk_andE (st (fa i).toNatClampNeg + fb i) (m := 7) 3 (by decide)
  refine ⟨8 + j, by omega, by omega, ?_⟩
  unfold zr_ad
  rw [e]
  exact nI_add 8 j
theorem zr_tgtN {n : Nat} {op fd fa fb : Nat → Int32} (F : zv_F n op fd fa fb) (st : Nat → Int32) {i : Nat} (hi : i < n) : ∃ a, a < 16 ∧ zr_tgt op fd fa fb st i = nI a := by
  obtain ⟨_, ⟨d, hd, ed⟩, _, _⟩ := F i hi
  unfold zr_tgt
  split
  · obtain ⟨a, _, h, e⟩ := zr_adN fa fb st i
    exact ⟨a, h, e⟩
  · exact ⟨d, by omega, ed⟩
/-- the block in order: the first k done -/
def zr_seq (op fd fa fb st0 : Nat → Int32) : Nat → Nat → Int32
  | 0 => st0
  | k + 1 => upd (zr_seq op fd fa fb st0 k) (zr_tgt op fd fa fb (zr_seq op fd fa fb st0 k) k).toNatClampNeg (zr_val op fd fa fb (zr_seq op fd fa fb st0 k) k)
/-- pending values and targets, the first k computed in order -/
def zr_sv (op fd fa fb st0 pv0 : Nat → Int32) : Nat → Nat → Int32
  | 0 => pv0
  | k + 1 => upd (zr_sv op fd fa fb st0 pv0 k) k (zr_val op fd fa fb (zr_seq op fd fa fb st0 k) k)
def zr_sp (op fd fa fb st0 pt0 : Nat → Int32) : Nat → Nat → Int32
  | 0 => pt0
  | k + 1 => upd (zr_sp op fd fa fb st0 pt0 k) k (zr_tgt op fd fa fb (zr_seq op fd fa fb st0 k) k)
/-- issue at t: values and targets of the first k -/
def zr_iv (op fd fa fb cy st : Nat → Int32) (t : Int32) (pv0 : Nat → Int32) : Nat → Nat → Int32
  | 0 => pv0
  | k + 1 => if cy k = t then upd (zr_iv op fd fa fb cy st t pv0 k) k (zr_val op fd fa fb st k) else zr_iv op fd fa fb cy st t pv0 k
def zr_ip (op fd fa fb cy st : Nat → Int32) (t : Int32) (pt0 : Nat → Int32) : Nat → Nat → Int32
  | 0 => pt0
  | k + 1 => if cy k = t then upd (zr_ip op fd fa fb cy st t pt0 k) k (zr_tgt op fd fa fb st k) else zr_ip op fd fa fb cy st t pt0 k
/-- write at t: the state behind the first k -/
def zr_w (ml ll : Int32) (op cy pv pt : Nat → Int32) (t : Int32) (st0 : Nat → Int32) : Nat → Nat → Int32
  | 0 => st0
  | k + 1 => if cy k + zv_lat ml ll op k - 1 = t then upd (zr_w ml ll op cy pv pt t st0 k) (pt k).toNatClampNeg (pv k) else zr_w ml ll op cy pv pt t st0 k
/-- the length of the cycles, the first k seen -/
def zr_len (ml ll : Int32) (op cy : Nat → Int32) : Nat → Int32
  | 0 => 0
  | k + 1 => if cy k + zv_lat ml ll op k ≤ zr_len ml ll op cy k then zr_len ml ll op cy k else cy k + zv_lat ml ll op k
/-- how many locations differ, the first k seen -/
def zr_df (a b : Nat → Int32) : Nat → Int32
  | 0 => 0
  | k + 1 => if a k = b k then zr_df a b k else zr_df a b k + 1
/-- the machine: state, pending values, pending targets ahead of cycle t -/
def zr_mach (ml ll : Int32) (op fd fa fb cy : Nat → Int32) (n : Nat) (st0 pv0 pt0 : Nat → Int32) : Nat → (Nat → Int32) × (Nat → Int32) × (Nat → Int32)
  | 0 => (st0, pv0, pt0)
  | t + 1 =>
    (zr_w ml ll op cy (zr_iv op fd fa fb cy (zr_mach ml ll op fd fa fb cy n st0 pv0 pt0 t).1 (nI t) (zr_mach ml ll op fd fa fb cy n st0 pv0 pt0 t).2.1 n) (zr_ip op fd fa fb cy (zr_mach ml ll op fd fa fb cy n st0 pv0 pt0 t).1 (nI t) (zr_mach ml ll op fd fa fb cy n st0 pv0 pt0 t).2.2 n) (nI t) (zr_mach ml ll op fd fa fb cy n st0 pv0 pt0 t).1 n,
      zr_iv op fd fa fb cy (zr_mach ml ll op fd fa fb cy n st0 pv0 pt0 t).1 (nI t) (zr_mach ml ll op fd fa fb cy n st0 pv0 pt0 t).2.1 n,
      zr_ip op fd fa fb cy (zr_mach ml ll op fd fa fb cy n st0 pv0 pt0 t).1 (nI t) (zr_mach ml ll op fd fa fb cy n st0 pv0 pt0 t).2.2 n)
end
section
/-- what narrowing keeps: schedules within, windows within those it began with -/
def qn_J (n : Nat) (lat : Nat → Int) (dl : Nat → Nat → Int) (un : Nat → Nat) (len : Int) (t lo e l : Nat → Int) : Prop :=
  qn_K n lat dl un len t lo e l ∧ (∀ i, i < n → t i ≠ -1 → t i ≤ e i ∧ l i ≤ t i) ∧ (∀ i, i < n → t i = -1 → lo i ≤ e i ∧ l i + lat i ≤ len)
theorem qn_J0 {n : Nat} {lat : Nat → Int} {dl : Nat → Nat → Int} {un : Nat → Nat} {len : Int} {t lo e l : Nat → Int} (h1 : ∀ i, i < n → t i ≠ -1 → e i = t i ∧ l i = t i) (h2 : ∀ i, i < n → t i = -1 → e i = lo i ∧ l i = len - lat i) : qn_J n lat dl un len t lo e l := by
  refine ⟨fun c C i hi => ?_, fun i hi ti => ?_, fun i hi ti => ?_⟩
  · by_cases z : t i = -1
    · have h := h2 i hi z
      have h3 := C.2.2 i hi z
      have h4 := (C.1.1 i hi).2
      omega
    · have h := h1 i hi z
      have h3 := C.2.1 i hi z
      omega
  · have h := h1 i hi ti
    omega
  · have h := h2 i hi ti
    omega
theorem qn_Je {n : Nat} {lat : Nat → Int} {dl : Nat → Nat → Int} {un : Nat → Nat} {len : Int} {t lo e l : Nat → Int} {j : Nat} {x : Int} (J : qn_J n lat dl un len t lo e l) (hx : e j ≤ x) (h : ∀ c, qo_C n lat dl un len t lo c → x ≤ c j) : qn_J n lat dl un len t lo (qg_up e j x) l := by
  refine ⟨qn_Kge J.1 h, fun i hi ti => ?_, fun i hi ti => ?_⟩
  · have h1 := J.2.1 i hi ti
    by_cases y : i = j
    · rw [y] at h1 ⊢; rw [qg_us]; omega
    · rw [qg_un y]; exact h1
  · have h1 := J.2.2 i hi ti
    by_cases y : i = j
    · rw [y] at h1 ⊢; rw [qg_us]; omega
    · rw [qg_un y]; exact h1
theorem qn_Jl {n : Nat} {lat : Nat → Int} {dl : Nat → Nat → Int} {un : Nat → Nat} {len : Int} {t lo e l : Nat → Int} {j : Nat} {x : Int} (J : qn_J n lat dl un len t lo e l) (hx : x ≤ l j) (h : ∀ c, qo_C n lat dl un len t lo c → c j ≤ x) : qn_J n lat dl un len t lo e (qg_up l j x) := by
  refine ⟨qn_Kgl J.1 h, fun i hi ti => ?_, fun i hi ti => ?_⟩
  · have h1 := J.2.1 i hi ti
    by_cases y : i = j
    · rw [y] at h1 ⊢; rw [qg_us]; omega
    · rw [qg_un y]; exact h1
  · have h1 := J.2.2 i hi ti
    by_cases y : i = j
    · rw [y] at h1 ⊢; rw [qg_us]; omega
    · rw [qg_un y]; exact h1
theorem qn_Jc {n : Nat} {lat : Nat → Int} {dl : Nat → Nat → Int} {un : Nat → Nat} {len : Int} {t lo e l e' l' : Nat → Int} (J : qn_J n lat dl un len t lo e l) (h : ∀ i, i < n → e' i = e i ∧ l' i = l i) : qn_J n lat dl un len t lo e' l' :=
  ⟨qn_Kc J.1 h, fun i hi ti => by rw [(h i hi).1, (h i hi).2]; exact J.2.1 i hi ti, fun i hi ti => by rw [(h i hi).1, (h i hi).2]; exact J.2.2 i hi ti⟩
/-- edges kept by e: all into the first j, of those into j the first i -/
def qn_E (wt : Nat → Nat → Int) (e : Nat → Int) (j i : Nat) : Prop :=
  (∀ a b, a < b → b < j → 0 ≤ wt a b → e a + wt a b ≤ e b) ∧ (∀ a, a < i → 0 ≤ wt a j → e a + wt a j ≤ e j)
theorem qn_E0 {wt : Nat → Nat → Int} {e : Nat → Int} : qn_E wt e 0 0 := ⟨fun _ b _ h => absurd h (Nat.not_lt_zero b), fun a h => absurd h (Nat.not_lt_zero a)⟩
theorem qn_En {wt : Nat → Nat → Int} {e : Nat → Int} {j : Nat} (E : qn_E wt e j j) : qn_E wt e (j + 1) 0 := by
  refine ⟨fun a b hab hb h => ?_, fun a h => absurd h (Nat.not_lt_zero a)⟩
  by_cases x : b = j
  · subst x; exact E.2 a hab h
  · exact E.1 a b hab (by omega) h
theorem qn_Ek {wt : Nat → Nat → Int} {e : Nat → Int} {j i : Nat} (E : qn_E wt e j i) (h : 0 ≤ wt i j → e i + wt i j ≤ e j) : qn_E wt e j (i + 1) := by
  refine ⟨E.1, fun a ha hw => ?_⟩
  by_cases x : a = i
  · subst x; exact h hw
  · exact E.2 a (by omega) hw
theorem qn_Eu {wt : Nat → Nat → Int} {e : Nat → Int} {j i : Nat} (E : qn_E wt e j i) (hij : i < j) (h : e j ≤ e i + wt i j) : qn_E wt (qg_up e j (e i + wt i j)) j (i + 1) := by
  refine ⟨fun a b hab hb hw => ?_, fun a ha hw => ?_⟩
  · rw [qg_un (show a ≠ j by omega), qg_un (show b ≠ j by omega)]; exact E.1 a b hab hb hw
  · rw [qg_us, qg_un (show a ≠ j by omega)]
    by_cases x : a = i
    · subst x; exact Int.le_refl _
    · have := E.2 a (by omega) hw
      omega
/-- windows that only shrink -/
def qn_D (n : Nat) (e0 l0 e l : Nat → Int) : Prop := ∀ i, i < n → e0 i ≤ e i ∧ l i ≤ l0 i
theorem qn_Dr {n : Nat} {e l : Nat → Int} : qn_D n e l e l := fun _ _ => ⟨Int.le_refl _, Int.le_refl _⟩
theorem qn_De {n : Nat} {e0 l0 e l : Nat → Int} {j : Nat} {x : Int} (D : qn_D n e0 l0 e l) (h : e j ≤ x) : qn_D n e0 l0 (qg_up e j x) l := by
  intro i hi
  have h1 := D i hi
  by_cases y : i = j
  · rw [y] at h1 ⊢; rw [qg_us]; omega
  · rw [qg_un y]; exact h1
theorem qn_Dl {n : Nat} {e0 l0 e l : Nat → Int} {j : Nat} {x : Int} (D : qn_D n e0 l0 e l) (h : x ≤ l j) : qn_D n e0 l0 e (qg_up l j x) := by
  intro i hi
  have h1 := D i hi
  by_cases y : i = j
  · rw [y] at h1 ⊢; rw [qg_us]; omega
  · rw [qg_un y]; exact h1
def qn_w (n : Nat) (e l : Nat → Int) : Int := qb_S (fun i => l i - e i + 1) n
theorem qn_wD {n : Nat} {e0 l0 e l : Nat → Int} (D : qn_D n e0 l0 e l) : qn_w n e l ≤ qn_w n e0 l0 :=
  qn_Sm n fun i hi => by have := D i hi; show l i - e i + 1 ≤ l0 i - e0 i + 1; omega
theorem qn_wDs {n : Nat} {e0 l0 e l : Nat → Int} {j : Nat} (hj : j < n) (D : qn_D n e0 l0 e l) (h : l j - e j + 1 ≤ l0 j - e0 j) : qn_w n e l + 1 ≤ qn_w n e0 l0 :=
  qn_Ss n j hj (fun i hi => by have := D i hi; show l i - e i + 1 ≤ l0 i - e0 i + 1; omega) (by show l j - e j + 1 + 1 ≤ l0 j - e0 j + 1; omega)
theorem qn_w1 {n : Nat} {e l : Nat → Int} (hn : 1 ≤ n) (h : ∀ i, i < n → e i ≤ l i) : 1 ≤ qn_w n e l := by
  have h1 := qn_Sm (R := fun i => if i = 0 then 1 else 0) (Q := fun i => l i - e i + 1) n fun i hi => by
    have := h i hi
    show (if i = 0 then (1 : Int) else 0) ≤ l i - e i + 1
    split <;> omega
  have h2 : ∀ k, 1 ≤ k → qb_S (fun i => if i = 0 then (1 : Int) else 0) k = 1 := by
    intro k
    induction k with
    | zero => intro h; omega
    | succ k ih =>
      intro _
      show qb_S (fun i => if i = 0 then (1 : Int) else 0) k + (if k = 0 then (1 : Int) else 0) = 1
      by_cases z : k = 0
      · subst z; rfl
      · rw [ih (by omega), if_neg z]; rfl
  rw [h2 n hn] at h1
  exact h1
/-- a stretch looked at and left as it is -/
def qn_Z (n : Nat) (un : Nat → Nat) (t e l : Nat → Int) (i j u : Nat) : Prop :=
  e i ≤ l j → 0 ≤ qn_sp n un t e l u (e i) (l j) ∧ (qn_sp n un t e l u (e i) (l j) = 0 → ∀ m, m < n → qn_us un u m → ((e i ≤ e m ∧ e m ≤ l j) ↔ (e i ≤ l m ∧ l m ≤ l j)))
/-- at rest, narrowing has kept its promise -/
theorem qn_fin {n : Nat} {lat : Nat → Int} {dl wt : Nat → Nat → Int} {un : Nat → Nat} {len : Int} {t lo e l : Nat → Int} (hu : ∀ i, i < n → un i ≤ 2) (hlo : ∀ i, i < n → t i = -1 → 0 ≤ lo i) (J : qn_J n lat dl un len t lo e l) (E : qn_E wt e n 0) (h1 : ∀ i, i < n → e i ≤ l i)
    (hZ : ∀ i j u, i < n → j < n → u ≤ 2 → qn_Z n un t e l i j u) : qo_S n lat dl wt un len t lo true e := by
  refine ⟨fun c C => ⟨rfl, fun i hi => (J.1 c C i hi).1⟩, fun _ => qn_rest hu (fun i hi ti => ?_) (fun i hi ti => ?_) (fun i j hij hj hw => E.1 i j hij hj hw) hZ⟩
  · have a := J.2.2 i hi ti
    have b := hlo i hi ti
    have d := h1 i hi
    omega
  · have a := J.2.1 i hi ti
    have d := h1 i hi
    omega
theorem qn_no {n : Nat} {lat : Nat → Int} {dl wt : Nat → Nat → Int} {un : Nat → Nat} {len : Int} {t lo e : Nat → Int} (h : ∀ c, ¬ qo_C n lat dl un len t lo c) : qo_S n lat dl wt un len t lo false e :=
  ⟨fun c C => absurd C (h c), fun h => absurd h (by decide)⟩
end
section
/-! a mask's bits, as the component tests them -/
def zb_t (m : Int32) (i : Nat) : Prop := ¬ (m >>> (nI i &&& 31)) &&& 1 = 0
theorem zb_b1 : ∀ i, i < 32 → bt 1 i = decide (i = 0) := by decide +kernel
theorem zb_1 (x : Int32) : x &&& 1 = 0 ↔ bt x 0 = false := by
  constructor
  · intro h
    have h1 := b_and x 1 0
    rw [h, b_0, zb_b1 0 (by decide)] at h1
    simpa using h1.symm
  · intro h
    refine b_ext fun i hi => ?_
    rw [b_and, b_0, zb_b1 i hi]
    by_cases z : i = 0
    · subst z; rw [h]; rfl
    · rw [decide_eq_false z, Bool.and_false]
theorem zb_bt {m : Int32} {i : Nat} (hi : i < 32) : zb_t m i ↔ bt m i = true := by
  unfold zb_t
  rw [zb_1, b_sshr i hi m (by decide), if_pos (by omega), Nat.add_zero]
  simp
theorem zb_0 {i : Nat} (hi : i < 32) : ¬ zb_t 0 i := by
  rw [zb_bt hi, b_0]
  decide
theorem zb_or {m : Int32} {i j : Nat} (hi : i < 32) (hj : j < 32) : zb_t (m ||| ((1 : Int32) <<< (nI i &&& 31))) j ↔ (zb_t m j ∨ j = i) := by
  rw [zb_bt hj, zb_bt hj, b_or, b_shl i hi 1 hj]
  by_cases h : j = i
  · subst h
    rw [Nat.sub_self, zb_b1 0 (by decide)]
    simp
  · by_cases h2 : i ≤ j
    · rw [zb_b1 (j - i) (by omega), decide_eq_false (show ¬ j - i = 0 by omega)]
      simp [h]
    · rw [decide_eq_false h2]
      simp [h]
end
section
/-- an array by its values -/
def zI (a : Nat → Int32) : Nat → Int := fun i => (a i).toInt
theorem zI_u {a : Nat → Int32} {k : Nat} {v : Int32} : zI (upd a k v) = qg_up (zI a) k v.toInt := by
  funext j
  unfold zI
  by_cases h : j = k
  · subst h; rw [pk_us, qg_us]
  · rw [pk_un h, qg_un h]
theorem zI_eq {a : Nat → Int32} {i : Nat} {x : Int} (h : zI a i = x) : (a i).toInt = x := h
/-- the block as the search sees it: n, latencies, waits, units -/
def xs_H (n : Nat) (ml ll : Int32) (op uo wa : Nat → Int32) (lat : Nat → Int) (wt : Nat → Nat → Int) (un : Nat → Nat) : Prop :=
  1 ≤ n ∧ n ≤ 10 ∧ (∀ i, i < n → (zv_lat ml ll op i).toInt = lat i ∧ 1 ≤ lat i ∧ lat i ≤ 4) ∧ (∀ i j, i < j → j < n → (wa (i * 10 + j)).toInt = wt i j ∧ -1 ≤ wt i j ∧ wt i j ≤ 4) ∧ (∀ i, i < n → uo i = nI (un i) ∧ un i ≤ 2)
/-- windows within, ahead of a round -/
def xs_R (n : Nat) (e l : Nat → Int) : Prop := ∀ i, i < n → 0 ≤ e i ∧ e i ≤ 40 ∧ -1 ≤ l i ∧ l i ≤ 39
theorem xs_Re {n : Nat} {e l : Nat → Int} {j : Nat} {x : Int} (R : xs_R n e l) (h : 0 ≤ x) (h' : x ≤ 40) : xs_R n (qg_up e j x) l := by
  intro i hi
  have h1 := R i hi
  by_cases y : i = j
  · rw [y, qg_us]; rw [y] at h1; omega
  · rw [qg_un y]; exact h1
theorem xs_Rl {n : Nat} {e l : Nat → Int} {j : Nat} {x : Int} (R : xs_R n e l) (h : -1 ≤ x) (h' : x ≤ 39) : xs_R n e (qg_up l j x) := by
  intro i hi
  have h1 := R i hi
  by_cases y : i = j
  · rw [y, qg_us]; rw [y] at h1; omega
  · rw [qg_un y]; exact h1
end
section
/-! what check looks for -/
def zc_U (n : Nat) (cy : Nat → Int32) : Prop := ∃ i, i < n ∧ cy i = -1
noncomputable def zc_B (n : Nat) (dl : Nat → Nat → Int32) (cy : Nat → Int32) : Prop := ∃ i j, i < j ∧ j < n ∧ 0 ≤ (dl i j).toInt ∧ (cy j).toInt < (cy i).toInt + (dl i j).toInt
/-- how many of the first k share i's cycle and have p -/
noncomputable def zc_n (cy : Nat → Int32) (p : Nat → Prop) (i k : Nat) : Nat := qc_n (fun j => cy j = cy i ∧ p j) k
def zc_V (n : Nat) (cy : Nat → Int32) (p : Nat → Prop) (cap : Nat) : Prop := ∃ i, i < n ∧ cap < zc_n cy p i n
theorem zc_ow {n : Nat} {cy : Nat → Int32} {p : Nat → Prop} : zc_V n cy p 1 ↔ ∃ i, i < n ∧ p i ∧ 1 < zc_n cy p i n := by
  constructor
  · intro ⟨i, hi, h⟩
    obtain ⟨j, hj, e, pj⟩ := qc_ex n (show 1 ≤ zc_n cy p i n by omega)
    refine ⟨j, hj, pj, ?_⟩
    have : zc_n cy p j n = zc_n cy p i n := by unfold zc_n; rw [e]
    omega
  · intro ⟨i, hi, _, h⟩
    exact ⟨i, hi, h⟩
theorem zc_cg {n cap : Nat} {cy : Nat → Int32} {p q : Nat → Prop} (h : ∀ i, i < n → (p i ↔ q i)) : zc_V n cy p cap ↔ zc_V n cy q cap := by
  have e : ∀ i, zc_n cy p i n = zc_n cy q i n := fun i => qc_cong n fun j hj => ⟨fun x => ⟨x.1, (h j hj).mp x.2⟩, fun x => ⟨x.1, (h j hj).mpr x.2⟩⟩
  constructor
  · intro ⟨i, hi, x⟩
    exact ⟨i, hi, by rw [← e]; exact x⟩
  · intro ⟨i, hi, x⟩
    exact ⟨i, hi, by rw [e]; exact x⟩
end
section
/-- the head of j as far as the first i before it are seen -/
def qh_P (dl : Nat → Nat → Int) (e : Nat → Int) (j i : Nat) : Prop :=
  0 ≤ e j ∧ (∀ a, a < i → 0 ≤ dl a j → e a + dl a j ≤ e j) ∧ (e j = 0 ∨ ∃ a, a < i ∧ 0 ≤ dl a j ∧ e a + dl a j = e j)
theorem qh_P0 {dl : Nat → Nat → Int} {e : Nat → Int} {j : Nat} (h : e j = 0) : qh_P dl e j 0 := ⟨by omega, fun a ha => absurd ha (Nat.not_lt_zero a), Or.inl h⟩
theorem qh_Pk {dl : Nat → Nat → Int} {e : Nat → Int} {j i : Nat} (P : qh_P dl e j i) (h : 0 ≤ dl i j → e i + dl i j ≤ e j) : qh_P dl e j (i + 1) := by
  obtain ⟨p1, p2, p3⟩ := P
  refine ⟨p1, fun a ha hd => ?_, ?_⟩
  · by_cases x : a = i
    · subst x; exact h hd
    · exact p2 a (by omega) hd
  · rcases p3 with y | ⟨a, ha, y⟩
    · exact Or.inl y
    · exact Or.inr ⟨a, by omega, y⟩
theorem qh_Pu {dl : Nat → Nat → Int} {e : Nat → Int} {j i : Nat} (P : qh_P dl e j i) (hij : i < j) (hd : 0 ≤ dl i j) (h : e j ≤ e i + dl i j) : qh_P dl (qg_up e j (e i + dl i j)) j (i + 1) := by
  obtain ⟨p1, p2, p3⟩ := P
  refine ⟨by rw [qg_us]; omega, fun a ha hda => ?_, Or.inr ⟨i, by omega, hd, ?_⟩⟩
  · rw [qg_us, qg_un (show a ≠ j by omega)]
    by_cases x : a = i
    · subst x; exact Int.le_refl _
    · have := p2 a (by omega) hda
      omega
  · rw [qg_us, qg_un (show i ≠ j by omega)]
theorem qh_HS {dl : Nat → Nat → Int} {e : Nat → Int} {j : Nat} (H : qh_H j dl e) (P : qh_P dl e j j) : qh_H (j + 1) dl e := by
  obtain ⟨h1, h2, h3⟩ := H
  obtain ⟨p1, p2, p3⟩ := P
  refine ⟨fun i hi => ?_, fun a b hab hb hd => ?_, fun b hb => ?_⟩
  · by_cases x : i = j
    · subst x; exact p1
    · exact h1 i (by omega)
  · by_cases x : b = j
    · subst x; exact p2 a hab hd
    · exact h2 a b hab (by omega) hd
  · by_cases x : b = j
    · subst x; exact p3
    · exact h3 b (by omega)
theorem qh_Hc {n : Nat} {dl : Nat → Nat → Int} {e e' : Nat → Int} (h : ∀ i, i < n → e i = e' i) (H : qh_H n dl e) : qh_H n dl e' := by
  obtain ⟨h1, h2, h3⟩ := H
  refine ⟨fun i hi => by rw [← h i hi]; exact h1 i hi, fun a b hab hb hd => by rw [← h a (by omega), ← h b hb]; exact h2 a b hab hb hd, fun b hb => ?_⟩
  rw [← h b hb]
  rcases h3 b hb with y | ⟨a, ha, y1, y2⟩
  · exact Or.inl y
  · exact Or.inr ⟨a, ha, y1, by rw [← h a (by omega)]; exact y2⟩
theorem qh_Hd {n : Nat} {dl dl' : Nat → Nat → Int} {e : Nat → Int} (h : ∀ i j, i < j → j < n → dl i j = dl' i j) (H : qh_H n dl e) : qh_H n dl' e := by
  obtain ⟨h1, h2, h3⟩ := H
  refine ⟨h1, fun a b hab hb hd => by rw [← h a b hab hb] at hd ⊢; exact h2 a b hab hb hd, fun b hb => ?_⟩
  rcases h3 b hb with y | ⟨a, ha, y1, y2⟩
  · exact Or.inl y
  · exact Or.inr ⟨a, ha, by rw [← h a b ha hb]; exact y1, by rw [← h a b ha hb]; exact y2⟩
theorem qh_u {n : Nat} {dl : Nat → Nat → Int} {e e' : Nat → Int} (H : qh_H n dl e) (H' : qh_H n dl e') : ∀ j, j < n → e j = e' j := by
  have one : ∀ {e e' : Nat → Int}, qh_H n dl e → qh_H n dl e' → ∀ j, j < n → e j ≤ e' j := by
    intro e e' H H' j
    induction j using Nat.strongRecOn with
    | _ j ih =>
      intro hj
      rcases H.2.2 j hj with h | ⟨i, hi, hd, h⟩
      · have := H'.1 j hj
        omega
      · have h1 := ih i hi (by omega)
        have h2 := H'.2.1 i j hi hj hd
        omega
  intro j hj
  have h1 := one H H' j hj
  have h2 := one H' H j hj
  omega
/-- the longest chain of the first k -/
def qh_R (lat e : Nat → Int) (k : Nat) (r : Int) : Prop := 0 ≤ r ∧ (∀ i, i < k → e i + lat i ≤ r) ∧ (r = 0 ∨ ∃ i, i < k ∧ r = e i + lat i)
theorem qh_Rc {lat e e' : Nat → Int} {k : Nat} {r : Int} (h : ∀ i, i < k → e i = e' i) (R : qh_R lat e k r) : qh_R lat e' k r := by
  obtain ⟨r0, r1, r2⟩ := R
  refine ⟨r0, fun i hi => by rw [← h i hi]; exact r1 i hi, ?_⟩
  rcases r2 with y | ⟨i, hi, y⟩
  · exact Or.inl y
  · exact Or.inr ⟨i, hi, by rw [← h i hi]; exact y⟩
theorem qh_R0 {lat e : Nat → Int} : qh_R lat e 0 0 := ⟨Int.le_refl 0, fun i hi => absurd hi (Nat.not_lt_zero i), Or.inl rfl⟩
theorem qh_Rk {lat e : Nat → Int} {k : Nat} {r : Int} (R : qh_R lat e k r) (h : e k + lat k ≤ r) : qh_R lat e (k + 1) r := by
  obtain ⟨r0, r1, r2⟩ := R
  refine ⟨r0, fun i hi => ?_, ?_⟩
  · by_cases x : i = k
    · subst x; exact h
    · exact r1 i (by omega)
  · rcases r2 with y | ⟨i, hi, y⟩
    · exact Or.inl y
    · exact Or.inr ⟨i, by omega, y⟩
theorem qh_Ru {lat e : Nat → Int} {k : Nat} {r : Int} (R : qh_R lat e k r) (h : r ≤ e k + lat k) : qh_R lat e (k + 1) (e k + lat k) := by
  obtain ⟨r0, r1, r2⟩ := R
  refine ⟨by omega, fun i hi => ?_, Or.inr ⟨k, by omega, rfl⟩⟩
  by_cases x : i = k
  · subst x; exact Int.le_refl _
  · have := r1 i (by omega)
    omega
theorem qh_Rq {lat e : Nat → Int} {n : Nat} {r r' : Int} (hl : ∀ i, i < n → 1 ≤ lat i) (he : ∀ i, i < n → 0 ≤ e i) (R : qh_R lat e n r) (R' : qh_R lat e n r') : r = r' := by
  obtain ⟨r0, r1, r2⟩ := R
  obtain ⟨s0, s1, s2⟩ := R'
  rcases r2 with y | ⟨i, hi, y⟩
  · rcases s2 with z | ⟨j, hj, z⟩
    · omega
    · have := r1 j hj
      have := hl j hj
      have := he j hj
      omega
  · have a := s1 i hi
    rcases s2 with z | ⟨j, hj, z⟩
    · have := hl i hi
      have := he i hi
      omega
    · have := r1 j hj
      omega
end
section
/-! the component's small methods -/
section
variable {ml ll fn : Int32} {op fd fa fb uo cy ini seq mac pv pt wa tr ea la pl ri : Nat → Int32}
theorem xk_lat {post : Int32 → Prop} {i : Nat} (hi : i < 10) (h : post (zv_lat ml ll op i)) : wpX_latencyOf post (ml, ll, fn, op, fd, fa, fb, uo, cy, ini, seq, mac, pv, pt, wa, tr, ea, la, pl, ri) (nI i) := by
  have hin : vp_in (nI i) 10 := vp_in_nI hi (by omega)
  unfold wpX_latencyOf
  dsimp only
  rw [nI_clamp (show i < 2 ^ 31 by omega)]
  unfold zv_lat at h
  by_cases h4 : op i = 4
  · rw [if_pos h4] at h; exact ⟨hin, br_t h4 h⟩
  · rw [if_neg h4] at h
    by_cases h5 : op i = 5
    · rw [if_pos h5] at h; exact ⟨hin, br_f h4 ⟨hin, br_t h5 h⟩⟩
    · rw [if_neg h5] at h; exact ⟨hin, br_f h4 ⟨hin, br_f h5 h⟩⟩
theorem xk_rd {post : Int32 → Prop} {i : Nat} (hi : i < 10) (h : post (zv_rm op fd fa fb i)) : wpX_readsOf post (ml, ll, fn, op, fd, fa, fb, uo, cy, ini, seq, mac, pv, pt, wa, tr, ea, la, pl, ri) (nI i) := by
  have hin : vp_in (nI i) 10 := vp_in_nI hi (by omega)
  unfold wpX_readsOf
  dsimp only
  rw [nI_clamp (show i < 2 ^ 31 by omega)]
  unfold zv_rm zv_m at h
  refine ⟨hin, nm_e ?_⟩
  by_cases h1 : op i = 1
  · rw [if_pos h1] at h; exact br_t h1 h
  · rw [if_neg h1] at h
    refine br_f h1 ?_
    by_cases h5 : op i = 5
    · rw [if_pos h5] at h; exact br_t h5 ⟨hin, h⟩
    · rw [if_neg h5] at h
      refine br_f h5 ?_
      by_cases h6 : op i = 6
      · rw [if_pos h6] at h; exact br_t h6 ⟨hin, hin, h⟩
      · rw [if_neg h6] at h; exact br_f h6 ⟨hin, hin, h⟩
theorem xk_wr {post : Int32 → Prop} {i : Nat} (hi : i < 10) (h : post (zv_wm op fd i)) : wpX_writesOf post (ml, ll, fn, op, fd, fa, fb, uo, cy, ini, seq, mac, pv, pt, wa, tr, ea, la, pl, ri) (nI i) := by
  have hin : vp_in (nI i) 10 := vp_in_nI hi (by omega)
  unfold wpX_writesOf
  dsimp only
  rw [nI_clamp (show i < 2 ^ 31 by omega)]
  unfold zv_wm zv_m at h
  by_cases h6 : op i = 6
  · rw [if_pos h6] at h; exact ⟨hin, br_t h6 h⟩
  · rw [if_neg h6] at h; exact ⟨hin, br_f h6 ⟨hin, h⟩⟩
theorem xk_99 {post : Int32 → Prop} {n i j : Nat} {x7 : Int32} (hn : n ≤ 10) (F : zv_F n op fd fa fb) (hi : i < n) (hj : j < n) (h1 : zv_O op fd i j → post (x7 ||| 4)) (h0 : ¬ zv_O op fd i j → post x7) : wX_kindsOfPair_99 post (nI i) (nI j) (zv_wm op fd i) (zv_wm op fd j) x7 ml ll fn op fd fa fb uo cy ini seq mac pv pt wa tr ea la pl ri := by
  have t := zm_O F hi hj
  unfold wX_kindsOfPair_99
  rw [nI_clamp (show i < 2 ^ 31 by omega), nI_clamp (show j < 2 ^ 31 by omega)]
  by_cases a : zv_wm op fd i &&& zv_wm op fd j = 0
  · refine br_t a ⟨vp_in_nI (by omega) (by omega), ?_⟩
    by_cases b : op i = 6
    · refine br_t b ⟨vp_in_nI (by omega) (by omega), ?_⟩
      by_cases c : op j = 6
      · exact br_t c (nm_e (h1 (t.mp (Or.inr ⟨b, c⟩))))
      · exact br_f c (h0 (fun z => (t.mpr z).elim (fun y => y a) (fun y => c y.2)))
    · exact br_f b (h0 (fun z => (t.mpr z).elim (fun y => y a) (fun y => b y.1)))
  · exact br_f a (nm_e (h1 (t.mp (Or.inl a))))
theorem xk_65 {post : Int32 → Prop} {n i j : Nat} {x7 : Int32} (hn : n ≤ 10) (F : zv_F n op fd fa fb) (hi : i < n) (hj : j < n)
    (h11 : zv_A op fd fa fb i j → zv_O op fd i j → post (x7 ||| 2 ||| 4)) (h10 : zv_A op fd fa fb i j → ¬ zv_O op fd i j → post (x7 ||| 2)) (h01 : ¬ zv_A op fd fa fb i j → zv_O op fd i j → post (x7 ||| 4)) (h00 : ¬ zv_A op fd fa fb i j → ¬ zv_O op fd i j → post x7) :
    wX_kindsOfPair_65 post (nI i) (nI j) (zv_rm op fd fa fb i) (zv_wm op fd i) (zv_wm op fd j) x7 ml ll fn op fd fa fb uo cy ini seq mac pv pt wa tr ea la pl ri := by
  have t := zm_A F hi hj
  have Y : zv_A op fd fa fb i j → wX_kindsOfPair_93 post (nI i) (nI j) (zv_wm op fd i) (zv_wm op fd j) x7 ml ll fn op fd fa fb uo cy ini seq mac pv pt wa tr ea la pl ri := fun z => nm_e (xk_99 hn F hi hj (h11 z) (h10 z))
  have N : ¬ zv_A op fd fa fb i j → wX_kindsOfPair_99 post (nI i) (nI j) (zv_wm op fd i) (zv_wm op fd j) x7 ml ll fn op fd fa fb uo cy ini seq mac pv pt wa tr ea la pl ri := fun z => xk_99 hn F hi hj (h01 z) (h00 z)
  unfold wX_kindsOfPair_65
  rw [nI_clamp (show i < 2 ^ 31 by omega), nI_clamp (show j < 2 ^ 31 by omega)]
  by_cases a : zv_rm op fd fa fb i &&& zv_wm op fd j = 0
  · refine br_t a ⟨vp_in_nI (by omega) (by omega), ?_⟩
    by_cases b : op i = 5
    · refine br_t b ⟨vp_in_nI (by omega) (by omega), ?_⟩
      by_cases c : op j = 6
      · exact br_t c (Y (t.mp (Or.inr ⟨b, c⟩)))
      · exact br_f c (N (fun z => (t.mpr z).elim (fun y => y a) (fun y => c y.2)))
    · exact br_f b (N (fun z => (t.mpr z).elim (fun y => y a) (fun y => b y.1)))
  · exact br_f a (Y (t.mp (Or.inl a)))
theorem xk_kinds {post : Int32 → Prop} {n i j : Nat} (hn : n ≤ 10) (F : zv_F n op fd fa fb) (hi : i < n) (hj : j < n) (h : post (zv_k op fd fa fb i j)) : wpX_kindsOfPair post (ml, ll, fn, op, fd, fa, fb, uo, cy, ini, seq, mac, pv, pt, wa, tr, ea, la, pl, ri) (nI i) (nI j) := by
  have t := zm_T F hi hj
  have Y : zv_T op fd fa fb i j → wX_kindsOfPair_59 post (nI i) (nI j) (zv_rm op fd fa fb i) (zv_wm op fd i) (zv_wm op fd j) 0 ml ll fn op fd fa fb uo cy ini seq mac pv pt wa tr ea la pl ri := fun z => by
    unfold zv_k at h
    rw [zv_bt z] at h
    refine nm_e (xk_65 hn F hi hj (fun a b => ?_) (fun a b => ?_) (fun a b => ?_) (fun a b => ?_))
    · rw [zv_bt a, zv_bt b] at h; exact h
    · rw [zv_bt a, zv_bf b] at h; exact h
    · rw [zv_bf a, zv_bt b] at h; exact h
    · rw [zv_bf a, zv_bf b] at h; exact h
  have N : ¬ zv_T op fd fa fb i j → wX_kindsOfPair_65 post (nI i) (nI j) (zv_rm op fd fa fb i) (zv_wm op fd i) (zv_wm op fd j) 0 ml ll fn op fd fa fb uo cy ini seq mac pv pt wa tr ea la pl ri := fun z => by
    unfold zv_k at h
    rw [zv_bf z] at h
    refine xk_65 hn F hi hj (fun a b => ?_) (fun a b => ?_) (fun a b => ?_) (fun a b => ?_)
    · rw [zv_bt a, zv_bt b] at h; exact h
    · rw [zv_bt a, zv_bf b] at h; exact h
    · rw [zv_bf a, zv_bt b] at h; exact h
    · rw [zv_bf a, zv_bf b] at h; exact h
  unfold wpX_kindsOfPair
  dsimp only
  refine xk_rd (by omega) (xk_rd (by omega) (xk_wr (by omega) (xk_wr (by omega) ?_)))
  rw [nI_clamp (show i < 2 ^ 31 by omega), nI_clamp (show j < 2 ^ 31 by omega)]
  by_cases a : zv_wm op fd i &&& zv_rm op fd fa fb j = 0
  · refine br_t a ⟨vp_in_nI (by omega) (by omega), ?_⟩
    by_cases b : op i = 6
    · refine br_t b ⟨vp_in_nI (by omega) (by omega), ?_⟩
      by_cases c : op j = 5
      · exact br_t c (Y (t.mp (Or.inr ⟨b, c⟩)))
      · exact br_f c (N (fun z => (t.mpr z).elim (fun y => y a) (fun y => c y.2)))
    · exact br_f b (N (fun z => (t.mpr z).elim (fun y => y a) (fun y => b y.1)))
  · exact br_f a (Y (t.mp (Or.inl a)))
theorem xk_56 {post : Int32 → Prop} {k a g : Int32} (h : post (if k &&& 1 = 0 then g else if a ≤ g then g else a)) : wX_delayOfPair_56 post k a g ml ll fn op fd fa fb uo cy ini seq mac pv pt wa tr ea la pl ri := by
  unfold wX_delayOfPair_56
  by_cases c : k &&& 1 = 0
  · rw [if_pos c] at h; exact br_t c h
  · rw [if_neg c] at h
    refine br_f c ?_
    by_cases d : a ≤ g
    · rw [if_pos d] at h; exact br_t d h
    · rw [if_neg d] at h; exact br_f d h
theorem xk_delay {post : Int32 → Prop} {n i j : Nat} (hn : n ≤ 10) (F : zv_F n op fd fa fb) (L1 : zv_L ml) (L2 : zv_L ll) (hi : i < n) (hj : j < n) (h : post (zv_dl ml ll op fd fa fb i j)) : wpX_delayOfPair post (ml, ll, fn, op, fd, fa, fb, uo, cy, ini, seq, mac, pv, pt, wa, tr, ea, la, pl, ri) (nI i) (nI j) := by
  rw [← zv_dlX L1 L2] at h
  unfold wpX_delayOfPair
  dsimp only
  refine xk_kinds hn F hi hj ?_
  unfold zv_dX at h
  by_cases c : zv_k op fd fa fb i j = 0
  · rw [if_pos c] at h; exact br_t c h
  · rw [if_neg c] at h
    refine br_f c (xk_lat (by omega) (xk_lat (by omega) ?_))
    by_cases d : zv_k op fd fa fb i j &&& 4 = 0
    · rw [if_pos d] at h; exact br_t d (xk_56 h)
    · rw [if_neg d] at h
      refine br_f d ?_
      by_cases e : zv_lat ml ll op i ≤ zv_lat ml ll op j
      · rw [if_pos e] at h; exact br_t e (xk_56 h)
      · rw [if_neg e] at h; exact br_f e (xk_56 h)
theorem xk_share {post : Int32 → Prop} {i j : Nat} (hi : i < 10) (hj : j < 10) (h1 : uo i = uo j ∧ uo i ≠ 0 → post 1) (h0 : ¬ (uo i = uo j ∧ uo i ≠ 0) → post 0) : wpX_shareUnit post (ml, ll, fn, op, fd, fa, fb, uo, cy, ini, seq, mac, pv, pt, wa, tr, ea, la, pl, ri) (nI i) (nI j) := by
  unfold wpX_shareUnit
  dsimp only
  rw [nI_clamp (show i < 2 ^ 31 by omega), nI_clamp (show j < 2 ^ 31 by omega)]
  refine ⟨vp_in_nI hi (by omega), ?_⟩
  by_cases a : uo i = 0
  · exact br_t a (h0 fun z => z.2 a)
  · refine br_f a ⟨vp_in_nI hi (by omega), vp_in_nI hj (by omega), ?_⟩
    by_cases b : uo i = uo j
    · exact br_t b (h1 ⟨b, a⟩)
    · exact br_f b (h0 fun z => b z.1)
theorem xk_uses {post : Int32 → Prop} {i u : Nat} {un : Nat → Nat} (hi : i < 10) (hu : u ≤ 2) (e : uo i = nI (un i)) (e2 : un i ≤ 2) (h1 : qn_us un u i → post 1) (h0 : ¬ qn_us un u i → post 0) : wpX_uses post (ml, ll, fn, op, fd, fa, fb, uo, cy, ini, seq, mac, pv, pt, wa, tr, ea, la, pl, ri) (nI i) (nI u) := by
  unfold wpX_uses
  dsimp only
  rw [nI_clamp (show i < 2 ^ 31 by omega), e]
  refine pk_eq u 0 (fun a => h1 (Or.inl a)) (fun a => ⟨vp_in_nI hi (by omega), ?_⟩)
  exact pk_eq (un i) u (fun b => h1 (Or.inr b)) (fun b => h0 fun z => z.elim a b)
theorem xk_cap {post : Int32 → Prop} {u : Nat} (hu : u ≤ 2) (h : post (nI (if u = 0 then 2 else 1))) : wpX_capacityOf post () (nI u) := by
  unfold wpX_capacityOf
  by_cases a : u = 0
  · rw [if_pos a] at h; subst a; exact br_t rfl h
  · rw [if_neg a] at h
    exact br_f (fun z => a ((nI_eq (b := 0) (by omega) (by omega)).mp z)) h
end
end
section
/-- delays and latencies by their values -/
noncomputable def zv_D (ml ll : Int32) (op fd fa fb : Nat → Int32) (i j : Nat) : Int := (zv_dl ml ll op fd fa fb i j).toInt
def zv_T1 (ml ll : Int32) (op : Nat → Int32) (i : Nat) : Int := (zv_lat ml ll op i).toInt
theorem zv_Dr {ml ll : Int32} {op fd fa fb : Nat → Int32} (L1 : zv_L ml) (L2 : zv_L ll) (i j : Nat) : -1 ≤ zv_D ml ll op fd fa fb i j ∧ zv_D ml ll op fd fa fb i j ≤ zv_T1 ml ll op i ∧ zv_D ml ll op fd fa fb i j ≤ 4 := by
  have h := zv_dlI (op := op) (fd := fd) (fa := fa) (fb := fb) L1 L2 i j
  have h2 := zv_Li (zv_latL (op := op) L1 L2 i)
  unfold zv_D zv_T1
  omega
theorem zv_Tr {ml ll : Int32} {op : Nat → Int32} (L1 : zv_L ml) (L2 : zv_L ll) (i : Nat) : 1 ≤ zv_T1 ml ll op i ∧ zv_T1 ml ll op i ≤ 4 := zv_Li (zv_latL L1 L2 i)
theorem zi_m1 : (-1 : Int32).toInt = -1 := by decide
theorem zi_0 : (0 : Int32).toInt = 0 := by decide
theorem zi_1 : (1 : Int32).toInt = 1 := by decide
/-- what the component waits: w for the pair i, j -/
noncomputable def xw_W (ml ll : Int32) (op fd fa fb uo : Nat → Int32) (i j : Nat) : Int32 := if zv_dl ml ll op fd fa fb i j = 0 ∧ (uo i = uo j ∧ uo i ≠ 0) then 1 else zv_dl ml ll op fd fa fb i j
def xw_J (D : Nat → Nat → Int) (W : Nat → Nat → Int32) (j i : Nat) (wa ea : Nat → Int32) : Prop :=
  qh_H j D (zI ea) ∧ qh_P D (zI ea) j i ∧ (∀ b, b ≤ j → zI ea b ≤ 4 * (b : Int)) ∧ (∀ a b, a < b → (b < j ∨ (b = j ∧ a < i)) → wa (a * 10 + b) = W a b)
def xw_I (D : Nat → Nat → Int) (W : Nat → Nat → Int32) (j : Nat) (wa ea : Nat → Int32) : Prop :=
  qh_H j D (zI ea) ∧ (∀ b, b < j → zI ea b ≤ 4 * (b : Int)) ∧ (∀ a b, a < b → b < j → wa (a * 10 + b) = W a b)
theorem xw_wa {W : Nat → Nat → Int32} {j i : Nat} {wa : Nat → Int32} {x : Int32} (hij : i < j) (hj : j < 10) (hx : x = W i j) (h : ∀ a b, a < b → (b < j ∨ (b = j ∧ a < i)) → wa (a * 10 + b) = W a b) : ∀ a b, a < b → (b < j ∨ (b = j ∧ a < i + 1)) → upd wa (i * 10 + j) x (a * 10 + b) = W a b := by
  intro a b hab hb
  by_cases e : a * 10 + b = i * 10 + j
  · have e1 : a = i ∧ b = j := by omega
    rw [e, pk_us, hx, e1.1, e1.2]
  · rw [pk_un e]
    refine h a b hab ?_
    rcases hb with hb | hb
    · exact Or.inl hb
    · exact Or.inr ⟨hb.1, by have := hb.1; have := hb.2; omega⟩
theorem xw_s {D : Nat → Nat → Int} {W : Nat → Nat → Int32} {j i : Nat} {wa ea : Nat → Int32} {x : Int32} (J : xw_J D W j i wa ea) (hij : i < j) (hj : j < 10) (hx : x = W i j) (h : 0 ≤ D i j → zI ea i + D i j ≤ zI ea j) : xw_J D W j (i + 1) (upd wa (i * 10 + j) x) ea :=
  ⟨J.1, qh_Pk J.2.1 h, J.2.2.1, xw_wa hij hj hx J.2.2.2⟩
theorem xw_u {D : Nat → Nat → Int} {W : Nat → Nat → Int32} {j i : Nat} {wa ea : Nat → Int32} {x v : Int32} (J : xw_J D W j i wa ea) (hij : i < j) (hj : j < 10) (hx : x = W i j) (hd : 0 ≤ D i j) (h4 : D i j ≤ 4) (h : zI ea j ≤ zI ea i + D i j) (hv : v.toInt = zI ea i + D i j) : xw_J D W j (i + 1) (upd wa (i * 10 + j) x) (upd ea j v) := by
  obtain ⟨j1, j2, j3, j4⟩ := J
  refine ⟨?_, ?_, fun b hb => ?_, xw_wa hij hj hx j4⟩
  · exact qh_Hc (fun i hi => by rw [zI_u, qg_un (show i ≠ j by omega)]) j1
  · rw [zI_u, hv]
    exact qh_Pu j2 hij hd h
  · rw [zI_u]
    by_cases y : b = j
    · subst y
      rw [qg_us, hv]
      have := j3 i (by omega)
      omega
    · rw [qg_un y]; exact j3 b hb
theorem xw_n {D : Nat → Nat → Int} {W : Nat → Nat → Int32} {j : Nat} {wa ea : Nat → Int32} (J : xw_J D W j j wa ea) : xw_I D W (j + 1) wa ea :=
  ⟨qh_HS J.1 J.2.1, fun b hb => J.2.2.1 b (by omega), fun a b hab hb => J.2.2.2 a b hab (by omega)⟩
theorem xw_0 {D : Nat → Nat → Int} {W : Nat → Nat → Int32} {j : Nat} {wa ea : Nat → Int32} (I : xw_I D W j wa ea) : xw_J D W j 0 wa (upd ea j 0) := by
  obtain ⟨i1, i2, i3⟩ := I
  refine ⟨?_, ?_, fun b hb => ?_, fun a b hab hb => i3 a b hab (by omega)⟩
  · exact qh_Hc (fun i hi => by rw [zI_u, qg_un (show i ≠ j by omega)]) i1
  · exact qh_P0 (by rw [zI_u, qg_us]; exact zi_0)
  · rw [zI_u]
    by_cases y : b = j
    · subst y; rw [qg_us, zi_0]; omega
    · rw [qg_un y]; exact i2 b (by omega)
section
variable {ml ll fn : Int32} {op fd fa fb uo cy ini seq mac pv pt wa tr ea la pl ri : Nat → Int32} {post : Int32 → St2 → Prop} {J4 : Int32 → Int32 → (Nat → Int32) → (Nat → Int32) → (Nat → Int32) → (Nat → Int32) → (Nat → Int32) → (Nat → Int32) → (Nat → Int32) → (Nat → Int32) → (Nat → Int32) → (Nat → Int32) → (Nat → Int32) → (Nat → Int32) → (Nat → Int32) → (Nat → Int32) → (Nat → Int32) → (Nat → Int32) → (Nat → Int32) → Prop} {J21 : Int32 → (Nat → Int32) → (Nat → Int32) → (Nat → Int32) → (Nat → Int32) → (Nat → Int32) → (Nat → Int32) → (Nat → Int32) → (Nat → Int32) → (Nat → Int32) → (Nat → Int32) → (Nat → Int32) → (Nat → Int32) → (Nat → Int32) → (Nat → Int32) → (Nat → Int32) → (Nat → Int32) → (Nat → Int32) → Prop}
theorem xw_64 {n i j : Nat} {x1 d w : Int32} {D : Nat → Nat → Int} {W : Nat → Nat → Int32} (hn : n ≤ 10) (hij : i < j) (hj : j < n) (hD : d.toInt = D i j) (hD1 : -1 ≤ D i j ∧ D i j ≤ 4) (hw : w = W i j) (J : xw_J D W j i wa ea)
    (ih : ∀ wa' ea', xw_J D W j (i + 1) wa' ea' → J21 (nI (i + 1)) op fd fa fb uo cy ini seq mac pv pt wa' tr ea' la pl ri) :
    wX_longestChain_64 post J4 J21 x1 (nI j) (nI i) d w (nI i * 10 + nI j) ml ll fn op fd fa fb uo cy ini seq mac pv pt wa tr ea la pl ri := by
  unfold wX_longestChain_64
  have e : nI i * 10 + nI j = nI (i * 10 + j) := by rw [show (10 : Int32) = nI 10 from rfl, pk_mul, nI_add]
  have hi0 : 0 ≤ zI ea i := J.1.1 i hij
  have hi1 := J.2.2.1 i (by omega)
  rw [e, nI_clamp (show i * 10 + j < 2 ^ 31 by omega), nI_clamp (show i < 2 ^ 31 by omega), nI_clamp (show j < 2 ^ 31 by omega)]
  refine ⟨vp_in_nI (by omega) (by omega), nm_e ?_⟩
  by_cases c : d = -1
  · refine br_t c (nm_r (nI_1 i) (ih _ _ (xw_s J hij (by omega) hw fun z => ?_)))
    rw [c, zi_m1] at hD
    omega
  · have hd0 : 0 ≤ D i j := by
      have : D i j ≠ -1 := fun z => c (Int32.toInt_inj.mp (by rw [hD, z, zi_m1]))
      omega
    have hs : (ea i + d).toInt = zI ea i + D i j := zi_add rfl hD (by omega) (by omega)
    refine br_f c ⟨vp_in_nI (by omega) (by omega), vp_in_nI (by omega) (by omega), ?_⟩
    refine zi_bl hs (show (ea j).toInt = zI ea j from rfl) (fun q => nm_r (nI_1 i) (ih _ _ (xw_s J hij (by omega) hw fun _ => q))) (fun q => ?_)
    exact ⟨vp_in_nI (by omega) (by omega), vp_in_nI (by omega) (by omega), nm_e (nm_r (nI_1 i) (ih _ _ (xw_u J hij (by omega) hw hd0 hD1.2 (by omega) hs)))⟩
theorem xw_21 {n j : Nat} {x1 : Int32} (hn : n ≤ 10) (F : zv_F n op fd fa fb) (L1 : zv_L ml) (L2 : zv_L ll) (hj : j < n) (I : xw_I (zv_D ml ll op fd fa fb) (xw_W ml ll op fd fa fb uo) j wa ea) (R : qh_R (zv_T1 ml ll op) (zI ea) j x1.toInt) (hx1 : x1.toInt ≤ 40)
    (hk : ∀ wa' ea' x, xw_I (zv_D ml ll op fd fa fb) (xw_W ml ll op fd fa fb uo) (j + 1) wa' ea' → qh_R (zv_T1 ml ll op) (zI ea') (j + 1) x.toInt → x.toInt ≤ 40 → J4 x (nI (j + 1)) op fd fa fb uo cy ini seq mac pv pt wa' tr ea' la pl ri) :
    ∃ m, wX_longestChain_21 post J4 x1 (nI j) ml ll (nI n) m 0 op fd fa fb uo cy ini seq mac pv pt wa tr (upd ea j 0) la pl ri := by
  have R' : ∀ ea' : Nat → Int32, qh_H j (zv_D ml ll op fd fa fb) (zI ea') → qh_R (zv_T1 ml ll op) (zI ea') j x1.toInt := fun ea' h => qh_Rc (qh_u I.1 h) R
  have key := loop_0 (fun m i (s : (Nat → Int32) × (Nat → Int32)) => wX_longestChain_21 post J4 x1 (nI j) ml ll (nI n) m (nI i) op fd fa fb uo cy ini seq mac pv pt (s.1) tr (s.2) la pl ri)
    (fun i s => xw_J (zv_D ml ll op fd fa fb) (xw_W ml ll op fd fa fb uo) j i s.1 s.2) j (wa, upd ea j 0) (xw_0 I) (fun m s J => ?_) (fun m i s hi J ih => ?_)
  · exact key
  · obtain ⟨wa', ea'⟩ := s
    dsimp only at J ⊢
    have I' := xw_n J
    have Rj := R' ea' J.1
    have e0 := J.2.1.1
    have e1 := J.2.2.1 j (Nat.le_refl j)
    have l1 := zv_Tr (op := op) L1 L2 j
    refine br_t (nI_le (Nat.le_refl j) (by omega)) ⟨vp_in_nI (by omega) (by omega), xk_lat (by omega) (nm_e ?_)⟩
    rw [nI_clamp (show j < 2 ^ 31 by omega)]
    have hs2 : (ea' j + zv_lat ml ll op j).toInt = zI ea' j + zv_T1 ml ll op j := zi_add rfl rfl (by unfold zI at *; unfold zv_T1 at *; omega) (by unfold zI at *; unfold zv_T1 at *; omega)
    refine zi_bl hs2 (show x1.toInt = x1.toInt from rfl) (fun q => nm_r (nI_1 j) (hk wa' ea' x1 I' (qh_Rk Rj q) hx1)) (fun q => nm_r (nI_1 j) (hk wa' ea' _ I' ?_ ?_))
    · rw [hs2]; exact qh_Ru Rj (by omega)
    · rw [hs2]; omega
  · obtain ⟨wa', ea'⟩ := s
    dsimp only at J ⊢
    have hr := zv_Dr (op := op) (fd := fd) (fa := fa) (fb := fb) L1 L2 i j
    have step : ∀ w, w = xw_W ml ll op fd fa fb uo i j → wX_longestChain_64 post J4 (wX_longestChain_21 post J4 x1 (nI j) ml ll (nI n) m) x1 (nI j) (nI i) (zv_dl ml ll op fd fa fb i j) w (nI i * 10 + nI j) ml ll (nI n) op fd fa fb uo cy ini seq mac pv pt wa' tr ea' la pl ri := fun w hw =>
      xw_64 hn hi hj (D := zv_D ml ll op fd fa fb) rfl ⟨hr.1, hr.2.2⟩ hw J (fun wa2 ea2 J2 => ih (wa2, ea2) J2)
    refine br_f (nI_ge hi (by omega)) (xk_delay hn F L1 L2 (by omega) hj ?_)
    by_cases c : zv_dl ml ll op fd fa fb i j = 0
    · refine br_t c (xk_share (by omega) (by omega) (fun q => br_f (by decide) (step 1 ?_)) (fun q => br_t rfl (step _ ?_)))
      · unfold xw_W; rw [if_pos ⟨c, q⟩]
      · unfold xw_W; rw [if_neg (fun z => q z.2)]
    · refine br_f c (step _ ?_)
      unfold xw_W; rw [if_neg (fun z => c z.1)]
theorem xw_4 {n : Nat} (hn : n ≤ 10) (F : zv_F n op fd fa fb) (L1 : zv_L ml) (L2 : zv_L ll)
    (h : ∀ wa' ea' x, xw_I (zv_D ml ll op fd fa fb) (xw_W ml ll op fd fa fb uo) n wa' ea' → qh_R (zv_T1 ml ll op) (zI ea') n x.toInt → x.toInt ≤ 40 → post x (ml, ll, nI n, op, fd, fa, fb, uo, cy, ini, seq, mac, pv, pt, wa', tr, ea', la, pl, ri)) : wpX_longestChain post (ml, ll, nI n, op, fd, fa, fb, uo, cy, ini, seq, mac, pv, pt, wa, tr, ea, la, pl, ri) := by
  unfold wpX_longestChain
  dsimp only
  have key := loop_0 (fun m j (s : Int32 × (Nat → Int32) × (Nat → Int32)) => wX_longestChain_4 post ml ll (nI n) m s.1 (nI j) op fd fa fb uo cy ini seq mac pv pt (s.2.1) tr (s.2.2) la pl ri)
    (fun j s => xw_I (zv_D ml ll op fd fa fb) (xw_W ml ll op fd fa fb uo) j s.2.1 s.2.2 ∧ qh_R (zv_T1 ml ll op) (zI s.2.2) j s.1.toInt ∧ s.1.toInt ≤ 40) n (0, wa, ea) ⟨⟨⟨fun i h => absurd h (Nat.not_lt_zero i), fun i j _ h => absurd h (Nat.not_lt_zero j), fun j h => absurd h (Nat.not_lt_zero j)⟩, fun b h => absurd h (Nat.not_lt_zero b), fun a b _ h => absurd h (Nat.not_lt_zero b)⟩, by rw [show ((0 : Int32), wa, ea).1.toInt = 0 from zi_0]; exact qh_R0, by rw [show ((0 : Int32), wa, ea).1.toInt = 0 from zi_0]; decide⟩ (fun m s Q => ?_) (fun m j s hj Q ih => ?_)
  · exact key
  · obtain ⟨x, wa', ea'⟩ := s
    exact br_t (nI_le (Nat.le_refl n) (by omega)) (h wa' ea' x Q.1 Q.2.1 Q.2.2)
  · obtain ⟨x, wa', ea'⟩ := s
    refine br_f (nI_ge hj (by omega)) ⟨vp_in_nI (by omega) (by omega), nm_e ?_⟩
    rw [nI_clamp (show j < 2 ^ 31 by omega)]
    exact xw_21 hn F L1 L2 hj Q.1 Q.2.1 Q.2.2 (fun wa2 ea2 x2 a b c => ih (x2, wa2, ea2) ⟨a, b, c⟩)
end
end
section
def zc_K (n : Nat) (cy : Nat → Int32) : Prop := ∀ i, i < n → cy i = -1 ∨ ∃ c, c ≤ 63 ∧ cy i = nI c
theorem zl_loc {post : Int32 → Prop} {x : Int32} (h0 : (x < 0 ∨ nI 16 ≤ x) → post 0) (h1 : ∀ j, j < 16 → x = nI j → post 1) : wpX_isLocation post () x := by
  rcases pk_ix x (n := 16) (by decide) with a | a | ⟨j, hj, e⟩
  · exact br_t a (h0 (Or.inl a))
  · by_cases b : x < 0
    · exact br_t b (h0 (Or.inl b))
    · exact br_f b (br_t a (h0 (Or.inr a)))
  · subst e
    exact br_f (nI_pos (by omega)) (br_f (nI_ge (b := 16) hj (by decide)) (h1 j hj rfl))
theorem zl_cyc {x : Int32} (h1 : ¬ x < -1) (h2 : x < 64) : x = -1 ∨ ∃ c, c ≤ 63 ∧ x = nI c := by
  have e1 : (-1 : Int32).toInt = -1 := by decide
  have e64 : (64 : Int32).toInt = 64 := by decide
  rw [Int32.lt_iff_toInt_lt, e1] at h1
  rw [Int32.lt_iff_toInt_lt, e64] at h2
  by_cases z : x.toInt = -1
  · exact Or.inl (Int32.toInt_inj.mp (by rw [z, e1]))
  · refine Or.inr ⟨x.toInt.toNat, by omega, Int32.toInt_inj.mp ?_⟩
    rw [nI_toInt (by omega)]
    omega
theorem zl_63 {x : Int32} : x < 64 ↔ x ≤ 63 := by
  have e63 : (63 : Int32).toInt = 63 := by decide
  have e64 : (64 : Int32).toInt = 64 := by decide
  rw [Int32.lt_iff_toInt_lt, Int32.le_iff_toInt_le, e63, e64]
  omega
section
variable {ml ll fn : Int32} {op fd fa fb uo cy ini seq mac pv pt wa tr ea la pl ri : Nat → Int32}
theorem zl_ins {post : Int32 → Prop} {n : Nat} {x : Int32} (hn : n ≤ 10) (hneg : x < 0 → post 0) (hbig : ¬ x < 0 → nI n ≤ x → post 0) (h1 : ∀ j, j < n → x = nI j → post 1) : wpX_isInstr post (ml, ll, nI n, op, fd, fa, fb, uo, cy, ini, seq, mac, pv, pt, wa, tr, ea, la, pl, ri) x := by
  unfold wpX_isInstr
  dsimp only
  by_cases b : x < 0
  · exact br_t b (hneg b)
  · refine br_f b ?_
    by_cases c : nI n ≤ x
    · exact br_t c (hbig b c)
    · rcases pk_ix x (n := n) (by omega) with a | a | ⟨j, hj, e⟩
      · exact absurd a b
      · exact absurd a c
      · exact br_f c (h1 j hj e)
end
end
section
def zl_rg (x : Int32) : Prop := ¬ x < 0 ∧ x ≤ 7
def zl_wf (o d a b : Int32) : Prop := ¬ o < 1 ∧ o ≤ 6 ∧ zl_rg d ∧ (o = 1 ∨ (zl_rg a ∧ (o = 5 ∨ o = 6 ∨ zl_rg b)))
theorem zl_le {x : Int32} {a b : Int32} (h : a.toInt + 1 = b.toInt) : ¬ b ≤ x ↔ x ≤ a := by
  rw [Int32.le_iff_toInt_le, Int32.le_iff_toInt_le]
  omega
theorem zl_rgN {x : Int32} (h : zl_rg x) : ∃ d, d < 8 ∧ x = nI d := by
  obtain ⟨d, hd, e⟩ := nI_of2 (x := x) (M := 7) (n := 7) (by decide) h.1 h.2
  exact ⟨d, by omega, e⟩
theorem zl_reg {post : Int32 → Prop} {x : Int32} (h0 : ¬ zl_rg x → post 0) (h1 : zl_rg x → post 1) : wpX_isRegister post () x := by
  unfold wpX_isRegister
  by_cases a : x < 0
  · exact br_t a (h0 fun z => z.1 a)
  · refine br_f a ?_
    by_cases b : 8 ≤ x
    · exact br_t b (h0 fun z => (zl_le (a := 7) (b := 8) (by decide)).mpr z.2 b)
    · exact br_f b (h1 ⟨a, (zl_le (a := 7) (b := 8) (by decide)).mp b⟩)
theorem zl_wfX {post : Int32 → Prop} {o d a b : Int32} (h0 : ¬ zl_wf o d a b → post 0) (h1 : zl_wf o d a b → post 1) : wpX_isWellFormed post () o d a b := by
  unfold wpX_isWellFormed
  by_cases c1 : o < 1
  · exact br_t c1 (h0 fun z => z.1 c1)
  · refine br_f c1 ?_
    by_cases c2 : 6 < o
    · exact br_t c2 (h0 fun z => Int32.not_le.mpr c2 z.2.1)
    · have c2' : o ≤ 6 := Int32.not_lt.mp c2
      refine br_f c2 (zl_reg (fun c3 => br_t rfl (h0 fun z => c3 z.2.2.1)) (fun c3 => br_f (by decide) ?_))
      by_cases c4 : o = 1
      · exact br_t c4 (h1 ⟨c1, c2', c3, Or.inl c4⟩)
      · refine br_f c4 (zl_reg (fun c5 => br_t rfl (h0 fun z => z.2.2.2.elim c4 (fun y => c5 y.1))) (fun c5 => br_f (by decide) ?_))
        by_cases c6 : o = 5
        · exact br_t c6 (h1 ⟨c1, c2', c3, Or.inr ⟨c5, Or.inl c6⟩⟩)
        · refine br_f c6 ?_
          by_cases c7 : o = 6
          · exact br_t c7 (h1 ⟨c1, c2', c3, Or.inr ⟨c5, Or.inr (Or.inl c7)⟩⟩)
          · exact br_f c7 (zl_reg (fun c8 => br_t rfl (h0 fun z => z.2.2.2.elim c4 (fun y => y.2.elim c6 (fun y => y.elim c7 c8)))) (fun c8 => br_f (by decide) (h1 ⟨c1, c2', c3, Or.inr ⟨c5, Or.inr (Or.inr c8)⟩⟩)))
theorem zl_op {o : Int32} (h1 : ¬ o < 1) (h2 : o ≤ 6) : ∃ a, 1 ≤ a ∧ a ≤ 6 ∧ o = nI a := by
  have e1 : (1 : Int32).toInt = 1 := by decide
  have e6 : (6 : Int32).toInt = 6 := by decide
  rw [Int32.lt_iff_toInt_lt, e1] at h1
  rw [Int32.le_iff_toInt_le, e6] at h2
  refine ⟨o.toInt.toNat, by omega, by omega, Int32.toInt_inj.mp ?_⟩
  rw [nI_toInt (by omega)]
  omega
theorem zl_unit {post : Int32 → Prop} {o : Int32} (h : post (nI (zv_un o))) : wpX_unitFor post () o := by
  unfold wpX_unitFor
  unfold zv_un at h
  by_cases a : o = 4
  · rw [if_pos a] at h; exact br_t a h
  · rw [if_neg a] at h
    refine br_f a ?_
    by_cases b : o = 5
    · rw [if_pos b] at h; exact br_t b h
    · rw [if_neg b] at h
      refine br_f b ?_
      by_cases c : o = 6
      · rw [if_pos c] at h; exact br_t c h
      · rw [if_neg c] at h; exact br_f c h
theorem zl_F {n : Nat} {op fd fa fb : Nat → Int32} {o d a b : Int32} (F : zv_F n op fd fa fb) (w : zl_wf o d a b) : zv_F (n + 1) (upd op n o) (upd fd n d) (upd fa n a) (upd fb n b) := by
  intro i hi
  by_cases e : i = n
  · subst e
    rw [pk_us, pk_us, pk_us, pk_us]
    obtain ⟨w1, w2, w3, w4⟩ := w
    refine ⟨zl_op w1 w2, zl_rgN w3, fun z => ?_, fun z => ?_⟩
    · exact zl_rgN (w4.resolve_left z).1
    · rcases w4 with y | ⟨_, y | y | y⟩
      · rcases z with z | z | z <;> exact absurd (y.symm.trans z) (by decide)
      · rcases z with z | z | z <;> exact absurd (y.symm.trans z) (by decide)
      · rcases z with z | z | z <;> exact absurd (y.symm.trans z) (by decide)
      · exact zl_rgN y
  · rw [pk_un e, pk_un e, pk_un e, pk_un e]
    exact F i (by omega)
end
section
/-! check, both sides against what it looks for -/
noncomputable def zc_i (p : Prop) (a b : Int32) : Int32 := @ite Int32 p (Classical.propDecidable p) a b
theorem zc_it {p : Prop} {a b : Int32} (h : p) : zc_i p a b = a := if_pos h
theorem zc_if {p : Prop} {a b : Int32} (h : ¬ p) : zc_i p a b = b := if_neg h
def zc_B1 (D : Nat → Nat → Int) (c : Nat → Int) (n i : Nat) : Prop := ∀ j, i < j → j < n → 0 ≤ D i j → c i + D i j ≤ c j
theorem zc_st {P : Nat → Prop} {i j : Nat} (h : ∀ b, i < b → b < j → P b) (hj : P j) : ∀ b, i < b → b < j + 1 → P b := by
  intro b h1 h2
  by_cases e : b = j
  · subst e; exact hj
  · exact h b h1 (by omega)
theorem zc_cyr {cy : Nat → Int32} {n : Nat} (K : zc_K n cy) {i : Nat} (hi : i < n) : -1 ≤ zI cy i ∧ zI cy i ≤ 63 := by
  unfold zI
  rcases K i hi with h | ⟨c, hc, h⟩
  · rw [h, zi_m1]; omega
  · rw [h, nI_toInt (by omega)]; omega
noncomputable def zc_ans (n : Nat) (D : Nat → Nat → Int) (op cy : Nat → Int32) (len : Int32) : Int32 :=
  zc_i (n = 0) (-1) (zc_i (zc_U n cy) (-2) (zc_i (¬ ∀ i, i < n → zc_B1 D (zI cy) n i) (-3) (zc_i (zc_V n cy (fun _ => True) 2) (-4) (zc_i (zc_V n cy (fun j => op j = 5 ∨ op j = 6) 1) (-5) (zc_i (zc_V n cy (fun j => op j = 4) 1) (-6) len)))))
section
variable {ml ll fn : Int32} {op fd fa fb uo cy ini seq mac pv pt wa tr ea la pl ri : Nat → Int32} {post : Int32 → Prop}
theorem xc_unset {n : Nat} (hn : n ≤ 10) (h1 : zc_U n cy → post 1) (h0 : ¬ zc_U n cy → post 0) : wpX_hasUnset post (ml, ll, nI n, op, fd, fa, fb, uo, cy, ini, seq, mac, pv, pt, wa, tr, ea, la, pl, ri) := by
  unfold wpX_hasUnset
  dsimp only
  have key := loop_0 (fun m i (_ : Unit) => wX_hasUnset_2 post ml ll (nI n) op fd fa fb uo cy ini seq mac pv pt wa tr ea la pl ri m (nI i)) (fun i _ => ∀ j, j < i → cy j ≠ -1) n () (fun j hj => absurd hj (Nat.not_lt_zero j)) (fun m _ I => ?_) (fun m i _ hi I ih => ?_)
  · exact key
  · exact br_t (nI_le (Nat.le_refl n) (by omega)) (h0 fun ⟨j, hj, e⟩ => I j hj e)
  · refine br_f (nI_ge hi (by omega)) ⟨vp_in_nI (by omega) (by omega), ?_⟩
    rw [nI_clamp (show i < 2 ^ 31 by omega)]
    by_cases e : cy i = -1
    · exact br_t e (h1 ⟨i, hi, e⟩)
    · exact br_f e (nm_r (nI_1 i) (ih () (lt_s I e)))
theorem xc_dep {n : Nat} (hn : n ≤ 10) (F : zv_F n op fd fa fb) (L1 : zv_L ml) (L2 : zv_L ll) (K : zc_K n cy) (h1 : ¬ (∀ i, i < n → zc_B1 (zv_D ml ll op fd fa fb) (zI cy) n i) → post 1) (h0 : (∀ i, i < n → zc_B1 (zv_D ml ll op fd fa fb) (zI cy) n i) → post 0) : wpX_breaksDependence post (ml, ll, nI n, op, fd, fa, fb, uo, cy, ini, seq, mac, pv, pt, wa, tr, ea, la, pl, ri) := by
  unfold wpX_breaksDependence
  dsimp only
  have key := loop_0 (fun m i (_ : Unit) => wX_breaksDependence_2 post ml ll (nI n) op fd fa fb uo cy ini seq mac pv pt wa tr ea la pl ri m (nI i)) (fun i _ => ∀ a, a < i → zc_B1 (zv_D ml ll op fd fa fb) (zI cy) n a) n () (fun j hj => absurd hj (Nat.not_lt_zero j)) (fun m _ I => ?_) (fun m i _ hi I ih => ?_)
  · exact key
  · exact br_t (nI_le (Nat.le_refl n) (by omega)) (h0 I)
  · refine br_f (nI_ge hi (by omega)) (nm_r (nI_1 i) ?_)
    refine pk_loop (fun m2 j (_ : Unit) => wX_breaksDependence_14 post (wX_breaksDependence_2 post ml ll (nI n) op fd fa fb uo cy ini seq mac pv pt wa tr ea la pl ri m) (nI i) ml ll (nI n) op fd fa fb uo cy ini seq mac pv pt wa tr ea la pl ri m2 (nI j)) (fun j _ => i < j ∧ ∀ b, i < b → b < j → 0 ≤ zv_D ml ll op fd fa fb i b → zI cy i + zv_D ml ll op fd fa fb i b ≤ zI cy b) n (i + 1) () (by omega) ⟨by omega, fun b h1 h2 => by omega⟩ (fun m2 _ I2 => ?_) (fun m2 j _ hj I2' ih2 => ?_)
    · exact br_t (nI_le (Nat.le_refl n) (by omega)) (nm_r (nI_1 i) (ih () (lt_s I I2.2)))
    · obtain ⟨hij, I2⟩ := I2'
      have hr := zv_Dr (op := op) (fd := fd) (fa := fa) (fb := fb) L1 L2 i j
      have c1 := zc_cyr K hi
      have c2 := zc_cyr K hj
      refine br_f (nI_ge hj (by omega)) (xk_delay hn F L1 L2 hi hj ?_)
      rw [nI_clamp (show i < 2 ^ 31 by omega), nI_clamp (show j < 2 ^ 31 by omega)]
      refine zi_be (show (zv_dl ml ll op fd fa fb i j).toInt = zv_D ml ll op fd fa fb i j from rfl) zi_m1 (fun q => nm_r (nI_1 j) (ih2 () ⟨by omega, zc_st I2 fun z => by omega⟩)) (fun q => ⟨vp_in_nI (by omega) (by omega), vp_in_nI (by omega) (by omega), ?_⟩)
      have hs : (cy i + zv_dl ml ll op fd fa fb i j).toInt = zI cy i + zv_D ml ll op fd fa fb i j := zi_add rfl rfl (by unfold zI at *; unfold zv_D at *; omega) (by unfold zI at *; unfold zv_D at *; omega)
      refine zi_bl hs (show (cy j).toInt = zI cy j from rfl) (fun q2 => nm_r (nI_1 j) (ih2 () ⟨by omega, zc_st I2 fun _ => q2⟩)) (fun q2 => h1 fun z => ?_)
      have := z i hi j hij hj (by omega)
      omega
theorem xc_over {n u : Nat} {un : Nat → Nat} (hn : n ≤ 10) (hu : u ≤ 2) (hU : ∀ i, i < n → uo i = nI (un i) ∧ un i ≤ 2) (h1 : zc_V n cy (qn_us un u) (if u = 0 then 2 else 1) → post 1) (h0 : ¬ zc_V n cy (qn_us un u) (if u = 0 then 2 else 1) → post 0) : wpX_overfills post (ml, ll, nI n, op, fd, fa, fb, uo, cy, ini, seq, mac, pv, pt, wa, tr, ea, la, pl, ri) (nI u) := by
  unfold wpX_overfills
  dsimp only
  have key := loop_0 (fun m i (_ : Unit) => wX_overfills_2 post (nI u) ml ll (nI n) op fd fa fb uo cy ini seq mac pv pt wa tr ea la pl ri m (nI i)) (fun i _ => ∀ a, a < i → ¬ (if u = 0 then 2 else 1) < zc_n cy (qn_us un u) a n) n () (fun j hj => absurd hj (Nat.not_lt_zero j)) (fun m _ I => ?_) (fun m i _ hi I ih => ?_)
  · exact key
  · exact br_t (nI_le (Nat.le_refl n) (by omega)) (h0 fun ⟨j, hj, e⟩ => I j hj e)
  · refine br_f (nI_ge hi (by omega)) ?_
    have key2 := loop_0 (fun m2 j (s : Nat) => wX_overfills_15 post (wX_overfills_2 post (nI u) ml ll (nI n) op fd fa fb uo cy ini seq mac pv pt wa tr ea la pl ri m) (nI u) (nI i) ml ll (nI n) op fd fa fb uo cy ini seq mac pv pt wa tr ea la pl ri m2 (nI s) (nI j)) (fun j s => s = zc_n cy (qn_us un u) i j) n 0 rfl (fun m2 s I2 => ?_) (fun m2 j s hj I2 ih2 => ?_)
    · exact key2
    · have hs : s ≤ n := by rw [I2]; exact qc_le n
      refine br_t (nI_le (Nat.le_refl n) (by omega)) (xk_cap hu ?_)
      refine pk_le s (if u = 0 then 2 else 1) (fun q => nm_r (nI_1 i) (ih () (lt_s I ?_))) (fun q => h1 ⟨i, hi, ?_⟩) rfl rfl (by omega) (by split <;> omega)
      · rw [← I2]; omega
      · rw [← I2]; exact q
    · refine br_f (nI_ge hj (by omega)) ⟨vp_in_nI (by omega) (by omega), vp_in_nI (by omega) (by omega), ?_⟩
      rw [nI_clamp (show i < 2 ^ 31 by omega), nI_clamp (show j < 2 ^ 31 by omega)]
      by_cases e : cy j = cy i
      · refine br_t e (xk_uses (by omega) hu (hU j hj).1 (hU j hj).2 (fun q => br_f (by decide) (nm_r (nI_1 s) (nm_r (nI_1 j) (ih2 (s + 1) ?_)))) (fun q => br_t rfl (nm_r (nI_1 j) (ih2 s ?_))))
        · rw [I2]; exact (qc_t (p := fun j => cy j = cy i ∧ qn_us un u j) ⟨e, q⟩).symm
        · rw [I2]; exact (qc_f (p := fun j => cy j = cy i ∧ qn_us un u j) (fun z => q z.2)).symm
      · refine br_f e (nm_r (nI_1 j) (ih2 s ?_))
        rw [I2]; exact (qc_f (p := fun j => cy j = cy i ∧ qn_us un u j) (fun z => e z.1)).symm
theorem xc_len {n : Nat} (hn : n ≤ 10) (h : post (zr_len ml ll op cy n)) : wpX_lengthOfCycles post (ml, ll, nI n, op, fd, fa, fb, uo, cy, ini, seq, mac, pv, pt, wa, tr, ea, la, pl, ri) := by
  unfold wpX_lengthOfCycles
  dsimp only
  have key := loop_0 (fun m i (s : Int32) => wX_lengthOfCycles_4 post ml ll (nI n) op fd fa fb uo cy ini seq mac pv pt wa tr ea la pl ri m s (nI i)) (fun i s => s = zr_len ml ll op cy i) n 0 rfl (fun m s I => ?_) (fun m i s hi I ih => ?_)
  · exact key
  · rw [← I] at h
    exact br_t (nI_le (Nat.le_refl n) (by omega)) h
  · refine br_f (nI_ge hi (by omega)) ⟨vp_in_nI (by omega) (by omega), xk_lat (by omega) (nm_e ?_)⟩
    rw [nI_clamp (show i < 2 ^ 31 by omega)]
    have e : zr_len ml ll op cy (i + 1) = if cy i + zv_lat ml ll op i ≤ zr_len ml ll op cy i then zr_len ml ll op cy i else cy i + zv_lat ml ll op i := rfl
    rw [← I] at e
    by_cases c : cy i + zv_lat ml ll op i ≤ s
    · rw [if_pos c] at e
      exact br_t c (nm_r (nI_1 i) (ih _ e.symm))
    · rw [if_neg c] at e
      exact br_f c (nm_r (nI_1 i) (ih _ e.symm))
theorem xc_check {n : Nat} (hn : n ≤ 10) (F : zv_F n op fd fa fb) (L1 : zv_L ml) (L2 : zv_L ll) (K : zc_K n cy) (U : ∀ i, i < n → uo i = nI (zv_un (op i))) (h : post (zc_ans n (zv_D ml ll op fd fa fb) op cy (zr_len ml ll op cy n))) : wpX_check post (ml, ll, nI n, op, fd, fa, fb, uo, cy, ini, seq, mac, pv, pt, wa, tr, ea, la, pl, ri) := by
  have un2 : ∀ x, zv_un x ≤ 2 := fun x => by unfold zv_un; split <;> (try omega); split <;> (try omega); split <;> omega
  have hU : ∀ i, i < n → uo i = nI ((fun i => zv_un (op i)) i) ∧ (fun i => zv_un (op i)) i ≤ 2 := fun i hi => ⟨U i hi, un2 _⟩
  have v0 : zc_V n cy (qn_us (fun i => zv_un (op i)) 0) 2 ↔ zc_V n cy (fun _ => True) 2 := zc_cg fun i hi => ⟨fun _ => trivial, fun _ => Or.inl rfl⟩
  have v1 : zc_V n cy (qn_us (fun i => zv_un (op i)) 1) 1 ↔ zc_V n cy (fun j => op j = 5 ∨ op j = 6) 1 := zc_cg fun i hi => by
    unfold qn_us zv_un
    dsimp only
    rcases zv_nI6 (F i hi).1 with o | o | o | o | o | o <;> rw [o] <;> decide
  have v2 : zc_V n cy (qn_us (fun i => zv_un (op i)) 2) 1 ↔ zc_V n cy (fun j => op j = 4) 1 := zc_cg fun i hi => by
    unfold qn_us zv_un
    dsimp only
    rcases zv_nI6 (F i hi).1 with o | o | o | o | o | o <;> rw [o] <;> decide
  unfold zc_ans at h
  unfold wpX_check
  dsimp only
  refine pk_eq n 0 (fun e => ?_) (fun e => ?_)
  · rw [zc_it e] at h; exact h
  rw [zc_if e] at h
  refine xc_unset hn (fun a => br_f (by decide) ?_) (fun a => br_t rfl ?_)
  · rw [zc_it a] at h; exact h
  rw [zc_if a] at h
  refine xc_dep hn F L1 L2 K (fun b => br_f (by decide) ?_) (fun b => br_t rfl ?_)
  · rw [zc_it b] at h; exact h
  rw [zc_if (fun z => z b)] at h
  refine xc_over (u := 0) hn (by decide) hU (fun c => br_f (by decide) ?_) (fun c => br_t rfl ?_)
  · rw [zc_it (v0.mp c)] at h; exact h
  rw [zc_if (fun z => c (v0.mpr z))] at h
  refine xc_over (u := 1) hn (by decide) hU (fun c => br_f (by decide) ?_) (fun c => br_t rfl ?_)
  · rw [zc_it (v1.mp c)] at h; exact h
  rw [zc_if (fun z => c (v1.mpr z))] at h
  refine xc_over (u := 2) hn (by decide) hU (fun c => br_f (by decide) ?_) (fun c => br_t rfl ?_)
  · rw [zc_it (v2.mp c)] at h; exact h
  rw [zc_if (fun z => c (v2.mpr z))] at h
  exact xc_len hn h
end
theorem zc_neg {cy : Nat → Int32} {n : Nat} (K : zc_K n cy) {i : Nat} (hi : i < n) : 0 ≤ cy i ↔ cy i ≠ -1 := by
  rcases K i hi with h | ⟨c, hc, h⟩
  · rw [h]; decide
  · rw [h]
    refine ⟨fun _ z => ?_, fun _ => nI_pos' (by omega)⟩
    have := congrArg Int32.toInt z
    rw [nI_toInt (by omega), zi_m1] at this
    omega
end
section
/-! runs, both sides against one picture -/
def zr_fill (ini s : Nat → Int32) : Nat → Nat → Int32
  | 0 => s
  | k + 1 => upd (zr_fill ini s k) k (ini k)
theorem zr_uu {a : Nat → Int32} {k : Nat} {x y : Int32} : upd (upd a k x) k y = upd a k y := by
  funext j
  by_cases h : j = k
  · subst h; rw [pk_us, pk_us]
  · rw [pk_un h, pk_un h, pk_un h]
theorem zr_fd {n : Nat} {op fd fa fb : Nat → Int32} (F : zv_F n op fd fa fb) {i : Nat} (hi : i < n) : vp_in (fd i) 16 := by
  obtain ⟨_, ⟨d, hd, e⟩, _, _⟩ := F i hi
  rw [e]; exact vp_in_nI (by omega) (by omega)
theorem zr_fa {n : Nat} {op fd fa fb : Nat → Int32} (F : zv_F n op fd fa fb) {i : Nat} (hi : i < n) (h : op i ≠ 1) : vp_in (fa i) 16 := by
  obtain ⟨_, _, f, _⟩ := F i hi
  obtain ⟨d, hd, e⟩ := f h
  rw [e]; exact vp_in_nI (by omega) (by omega)
theorem zr_fb {n : Nat} {op fd fa fb : Nat → Int32} (F : zv_F n op fd fa fb) {i : Nat} (hi : i < n) (h : op i = 2 ∨ op i = 3 ∨ op i = 4) : vp_in (fb i) 16 := by
  obtain ⟨_, _, _, f⟩ := F i hi
  obtain ⟨d, hd, e⟩ := f h
  rw [e]; exact vp_in_nI (by omega) (by omega)
theorem zr_adI (fa fb st : Nat → Int32) (i : Nat) : vp_in (8 + ((st (fa i).toNatClampNeg + fb i) &&& 7)) 16 := by
  obtain ⟨a, _, h, e⟩ := zr_adN fa fb st i
  unfold zr_ad at e
  rw [e]; exact vp_in_nI h (by omega)
section
variable {ml ll fn : Int32} {op fd fa fb uo cy ini seq mac pv pt wa tr ea la pl ri : Nat → Int32}
theorem xr_cs {post : St2 → Prop} {n i : Nat} (hn : n ≤ 10) (F : zv_F n op fd fa fb) (hi : i < n) (h : post (ml, ll, fn, op, fd, fa, fb, uo, cy, ini, seq, mac, upd pv i (zr_val op fd fa fb seq i), upd pt i (zr_tgt op fd fa fb seq i), wa, tr, ea, la, pl, ri)) : wpX_compute post (ml, ll, fn, op, fd, fa, fb, uo, cy, ini, seq, mac, pv, pt, wa, tr, ea, la, pl, ri) (nI i) := by
  have hin : vp_in (nI i) 10 := vp_in_nI (by omega) (by omega)
  unfold wpX_compute
  dsimp only
  rw [nI_clamp (show i < 2 ^ 31 by omega)]
  unfold zr_val zr_tgt at h
  refine ⟨hin, nm_e ⟨hin, nm_e ⟨hin, nm_e ⟨hin, nm_e ⟨hin, nm_e ?_⟩⟩⟩⟩⟩
  have d1 : vp_in (fd i) 16 := zr_fd F hi
  rcases zv_nI6 (F i hi).1 with o | o | o | o | o | o
  · rw [if_pos o, if_neg (by rw [o]; decide)] at h
    exact br_f (by rw [o]; decide) (br_f (by rw [o]; decide) (br_t o ⟨hin, nm_e h⟩))
  · have a1 : vp_in (fa i) 16 := zr_fa F hi (by rw [o]; decide)
    have b1 : vp_in (fb i) 16 := zr_fb F hi (Or.inl o)
    rw [if_neg (by rw [o]; decide), if_pos o, if_neg (by rw [o]; decide)] at h
    exact br_f (by rw [o]; decide) (br_f (by rw [o]; decide) (br_f (by rw [o]; decide) (br_t o ⟨a1, b1, hin, nm_e h⟩)))
  · have a1 : vp_in (fa i) 16 := zr_fa F hi (by rw [o]; decide)
    have b1 : vp_in (fb i) 16 := zr_fb F hi (Or.inr (Or.inl o))
    rw [if_neg (by rw [o]; decide), if_neg (by rw [o]; decide), if_pos o, if_neg (by rw [o]; decide)] at h
    exact br_f (by rw [o]; decide) (br_f (by rw [o]; decide) (br_f (by rw [o]; decide) (br_f (by rw [o]; decide) (br_t o ⟨a1, b1, hin, nm_e h⟩))))
  · have a1 : vp_in (fa i) 16 := zr_fa F hi (by rw [o]; decide)
    have b1 : vp_in (fb i) 16 := zr_fb F hi (Or.inr (Or.inr o))
    rw [if_neg (by rw [o]; decide), if_neg (by rw [o]; decide), if_neg (by rw [o]; decide), if_pos o, if_neg (by rw [o]; decide)] at h
    exact br_f (by rw [o]; decide) (br_f (by rw [o]; decide) (br_f (by rw [o]; decide) (br_f (by rw [o]; decide) (br_f (by rw [o]; decide) (br_t o ⟨a1, b1, hin, nm_e h⟩)))))
  · have a1 : vp_in (fa i) 16 := zr_fa F hi (by rw [o]; decide)
    rw [if_neg (by rw [o]; decide), if_neg (by rw [o]; decide), if_neg (by rw [o]; decide), if_neg (by rw [o]; decide), if_pos o, if_neg (by rw [o]; decide)] at h
    exact br_f (by rw [o]; decide) (br_f (by rw [o]; decide) (br_f (by rw [o]; decide) (br_f (by rw [o]; decide) (br_f (by rw [o]; decide) (br_f (by rw [o]; decide) (br_t o ⟨a1, zr_adI fa fb seq i, hin, nm_e h⟩))))))
  · have a1 : vp_in (fa i) 16 := zr_fa F hi (by rw [o]; decide)
    rw [if_neg (by rw [o]; decide), if_neg (by rw [o]; decide), if_neg (by rw [o]; decide), if_neg (by rw [o]; decide), if_neg (by rw [o]; decide), if_pos o] at h
    exact br_f (by rw [o]; decide) (br_t (by rw [o]; decide) ⟨d1, hin, nm_e ⟨a1, hin, nm_r zr_uu h⟩⟩)
theorem xr_cm {post : St2 → Prop} {n i : Nat} (hn : n ≤ 10) (F : zv_F n op fd fa fb) (hi : i < n) (h : post (ml, ll, fn, op, fd, fa, fb, uo, cy, ini, seq, mac, upd pv i (zr_val op fd fa fb mac i), upd pt i (zr_tgt op fd fa fb mac i), wa, tr, ea, la, pl, ri)) : wpX_compute_2 post (ml, ll, fn, op, fd, fa, fb, uo, cy, ini, seq, mac, pv, pt, wa, tr, ea, la, pl, ri) (nI i) := by
  have hin : vp_in (nI i) 10 := vp_in_nI (by omega) (by omega)
  unfold wpX_compute_2
  dsimp only
  rw [nI_clamp (show i < 2 ^ 31 by omega)]
  unfold zr_val zr_tgt at h
  refine ⟨hin, nm_e ⟨hin, nm_e ⟨hin, nm_e ⟨hin, nm_e ⟨hin, nm_e ?_⟩⟩⟩⟩⟩
  have d1 : vp_in (fd i) 16 := zr_fd F hi
  rcases zv_nI6 (F i hi).1 with o | o | o | o | o | o
  · rw [if_pos o, if_neg (by rw [o]; decide)] at h
    exact br_f (by rw [o]; decide) (br_f (by rw [o]; decide) (br_t o ⟨hin, nm_e h⟩))
  · have a1 : vp_in (fa i) 16 := zr_fa F hi (by rw [o]; decide)
    have b1 : vp_in (fb i) 16 := zr_fb F hi (Or.inl o)
    rw [if_neg (by rw [o]; decide), if_pos o, if_neg (by rw [o]; decide)] at h
    exact br_f (by rw [o]; decide) (br_f (by rw [o]; decide) (br_f (by rw [o]; decide) (br_t o ⟨a1, b1, hin, nm_e h⟩)))
  · have a1 : vp_in (fa i) 16 := zr_fa F hi (by rw [o]; decide)
    have b1 : vp_in (fb i) 16 := zr_fb F hi (Or.inr (Or.inl o))
    rw [if_neg (by rw [o]; decide), if_neg (by rw [o]; decide), if_pos o, if_neg (by rw [o]; decide)] at h
    exact br_f (by rw [o]; decide) (br_f (by rw [o]; decide) (br_f (by rw [o]; decide) (br_f (by rw [o]; decide) (br_t o ⟨a1, b1, hin, nm_e h⟩))))
  · have a1 : vp_in (fa i) 16 := zr_fa F hi (by rw [o]; decide)
    have b1 : vp_in (fb i) 16 := zr_fb F hi (Or.inr (Or.inr o))
    rw [if_neg (by rw [o]; decide), if_neg (by rw [o]; decide), if_neg (by rw [o]; decide), if_pos o, if_neg (by rw [o]; decide)] at h
    exact br_f (by rw [o]; decide) (br_f (by rw [o]; decide) (br_f (by rw [o]; decide) (br_f (by rw [o]; decide) (br_f (by rw [o]; decide) (br_t o ⟨a1, b1, hin, nm_e h⟩)))))
  · have a1 : vp_in (fa i) 16 := zr_fa F hi (by rw [o]; decide)
    rw [if_neg (by rw [o]; decide), if_neg (by rw [o]; decide), if_neg (by rw [o]; decide), if_neg (by rw [o]; decide), if_pos o, if_neg (by rw [o]; decide)] at h
    exact br_f (by rw [o]; decide) (br_f (by rw [o]; decide) (br_f (by rw [o]; decide) (br_f (by rw [o]; decide) (br_f (by rw [o]; decide) (br_f (by rw [o]; decide) (br_t o ⟨a1, zr_adI fa fb mac i, hin, nm_e h⟩))))))
  · have a1 : vp_in (fa i) 16 := zr_fa F hi (by rw [o]; decide)
    rw [if_neg (by rw [o]; decide), if_neg (by rw [o]; decide), if_neg (by rw [o]; decide), if_neg (by rw [o]; decide), if_neg (by rw [o]; decide), if_pos o] at h
    exact br_f (by rw [o]; decide) (br_t (by rw [o]; decide) ⟨d1, hin, nm_e ⟨a1, hin, nm_r zr_uu h⟩⟩)
theorem xr_fs {post : St2 → Prop} (h : post (ml, ll, fn, op, fd, fa, fb, uo, cy, ini, zr_fill ini seq 16, mac, pv, pt, wa, tr, ea, la, pl, ri)) : wpX_startFromInitial post (ml, ll, fn, op, fd, fa, fb, uo, cy, ini, seq, mac, pv, pt, wa, tr, ea, la, pl, ri) := by
  unfold wpX_startFromInitial
  dsimp only
  have key := loop_0 (fun m i (s : Nat → Int32) => wX_startFromInitial_2 post ml ll fn m (nI i) op fd fa fb uo cy ini s mac pv pt wa tr ea la pl ri) (fun i s => s = zr_fill ini seq i) 16 seq rfl (fun m s I => ?_) (fun m i s hi I ih => ?_)
  · exact key
  · subst I
    exact br_t (nI_le (b := 16) (Nat.le_refl 16) (by decide)) h
  · refine br_f (nI_ge (b := 16) hi (by decide)) ⟨vp_in_nI hi (by omega), vp_in_nI hi (by omega), nm_e (nm_r (nI_1 i) ?_)⟩
    rw [nI_clamp (show i < 2 ^ 31 by omega)]
    exact ih _ (by rw [I]; rfl)
theorem xr_fm {post : St2 → Prop} (h : post (ml, ll, fn, op, fd, fa, fb, uo, cy, ini, seq, zr_fill ini mac 16, pv, pt, wa, tr, ea, la, pl, ri)) : wpX_startFromInitial_2 post (ml, ll, fn, op, fd, fa, fb, uo, cy, ini, seq, mac, pv, pt, wa, tr, ea, la, pl, ri) := by
  unfold wpX_startFromInitial_2
  dsimp only
  have key := loop_0 (fun m i (s : Nat → Int32) => wX_startFromInitial_2_2 post ml ll fn m (nI i) op fd fa fb uo cy ini seq s pv pt wa tr ea la pl ri) (fun i s => s = zr_fill ini mac i) 16 mac rfl (fun m s I => ?_) (fun m i s hi I ih => ?_)
  · exact key
  · subst I
    exact br_t (nI_le (b := 16) (Nat.le_refl 16) (by decide)) h
  · refine br_f (nI_ge (b := 16) hi (by decide)) ⟨vp_in_nI hi (by omega), vp_in_nI hi (by omega), nm_e (nm_r (nI_1 i) ?_)⟩
    rw [nI_clamp (show i < 2 ^ 31 by omega)]
    exact ih _ (by rw [I]; rfl)
theorem xr_seq {post : St2 → Prop} {n : Nat} (hn : n ≤ 10) (F : zv_F n op fd fa fb) (h : post (ml, ll, nI n, op, fd, fa, fb, uo, cy, ini, zr_seq op fd fa fb (zr_fill ini seq 16) n, mac, zr_sv op fd fa fb (zr_fill ini seq 16) pv n, zr_sp op fd fa fb (zr_fill ini seq 16) pt n, wa, tr, ea, la, pl, ri)) : wpX_runSequential post (ml, ll, nI n, op, fd, fa, fb, uo, cy, ini, seq, mac, pv, pt, wa, tr, ea, la, pl, ri) := by
  unfold wpX_runSequential
  dsimp only
  refine xr_fs ?_
  have key := loop_0 (fun m i (s : (Nat → Int32) × (Nat → Int32) × (Nat → Int32)) => wX_runSequential_10 post m (nI i) ml ll (nI n) op fd fa fb uo cy ini (s.1) mac (s.2.1) (s.2.2) wa tr ea la pl ri) (fun i s => s = (zr_seq op fd fa fb (zr_fill ini seq 16) i, zr_sv op fd fa fb (zr_fill ini seq 16) pv i, zr_sp op fd fa fb (zr_fill ini seq 16) pt i)) n (zr_fill ini seq 16, pv, pt) rfl (fun m s I => ?_) (fun m i s hi I ih => ?_)
  · exact key
  · subst I
    exact br_t (nI_le (Nat.le_refl n) (by omega)) h
  · subst I
    have hin : vp_in (nI i) 10 := vp_in_nI (by omega) (by omega)
    refine br_f (nI_ge hi (by omega)) (xr_cs hn F hi ⟨hin, hin, ?_⟩)
    rw [nI_clamp (show i < 2 ^ 31 by omega), pk_us, pk_us]
    obtain ⟨a, ha, e⟩ := zr_tgtN F (zr_seq op fd fa fb (zr_fill ini seq 16) i) hi
    exact ⟨by rw [e]; exact vp_in_nI ha (by omega), nm_e (nm_r (nI_1 i) (ih _ rfl))⟩
theorem xr_iss {post : St2 → Prop} {n : Nat} {t : Int32} (hn : n ≤ 10) (F : zv_F n op fd fa fb) (h : post (ml, ll, nI n, op, fd, fa, fb, uo, cy, ini, seq, mac, zr_iv op fd fa fb cy mac t pv n, zr_ip op fd fa fb cy mac t pt n, wa, tr, ea, la, pl, ri)) : wpX_issueAt post (ml, ll, nI n, op, fd, fa, fb, uo, cy, ini, seq, mac, pv, pt, wa, tr, ea, la, pl, ri) t := by
  unfold wpX_issueAt
  dsimp only
  have key := loop_0 (fun m i (s : (Nat → Int32) × (Nat → Int32)) => wX_issueAt_2 post t m (nI i) ml ll (nI n) op fd fa fb uo cy ini seq mac (s.1) (s.2) wa tr ea la pl ri) (fun i s => s = (zr_iv op fd fa fb cy mac t pv i, zr_ip op fd fa fb cy mac t pt i)) n (pv, pt) rfl (fun m s I => ?_) (fun m i s hi I ih => ?_)
  · exact key
  · subst I
    exact br_t (nI_le (Nat.le_refl n) (by omega)) h
  · subst I
    refine br_f (nI_ge hi (by omega)) ⟨vp_in_nI (by omega) (by omega), ?_⟩
    rw [nI_clamp (show i < 2 ^ 31 by omega)]
    have e1 : zr_iv op fd fa fb cy mac t pv (i + 1) = if cy i = t then upd (zr_iv op fd fa fb cy mac t pv i) i (zr_val op fd fa fb mac i) else zr_iv op fd fa fb cy mac t pv i := rfl
    have e2 : zr_ip op fd fa fb cy mac t pt (i + 1) = if cy i = t then upd (zr_ip op fd fa fb cy mac t pt i) i (zr_tgt op fd fa fb mac i) else zr_ip op fd fa fb cy mac t pt i := rfl
    by_cases c : cy i = t
    · rw [if_pos c] at e1 e2
      exact br_t c (xr_cm hn F hi (nm_r (nI_1 i) (ih (upd (zr_iv op fd fa fb cy mac t pv i) i (zr_val op fd fa fb mac i), upd (zr_ip op fd fa fb cy mac t pt i) i (zr_tgt op fd fa fb mac i)) (by rw [e1, e2]))))
    · rw [if_neg c] at e1 e2
      exact br_f c (nm_r (nI_1 i) (ih (_, _) (by rw [e1, e2])))
theorem xr_wr {post : St2 → Prop} {n : Nat} {t : Int32} (hn : n ≤ 10) (hp : ∀ i, i < n → ∃ a, a < 16 ∧ pt i = nI a) (h : post (ml, ll, nI n, op, fd, fa, fb, uo, cy, ini, seq, zr_w ml ll op cy pv pt t mac n, pv, pt, wa, tr, ea, la, pl, ri)) : wpX_writeAt post (ml, ll, nI n, op, fd, fa, fb, uo, cy, ini, seq, mac, pv, pt, wa, tr, ea, la, pl, ri) t := by
  unfold wpX_writeAt
  dsimp only
  have key := loop_0 (fun m i (s : Nat → Int32) => wX_writeAt_2 post t ml ll (nI n) m (nI i) op fd fa fb uo cy ini seq s pv pt wa tr ea la pl ri) (fun i s => s = zr_w ml ll op cy pv pt t mac i) n mac rfl (fun m s I => ?_) (fun m i s hi I ih => ?_)
  · exact key
  · subst I
    exact br_t (nI_le (Nat.le_refl n) (by omega)) h
  · have hin : vp_in (nI i) 10 := vp_in_nI (by omega) (by omega)
    refine br_f (nI_ge hi (by omega)) ⟨hin, xk_lat (by omega) (nm_e ?_)⟩
    rw [nI_clamp (show i < 2 ^ 31 by omega)]
    have e1 : zr_w ml ll op cy pv pt t mac (i + 1) = if cy i + zv_lat ml ll op i - 1 = t then upd (zr_w ml ll op cy pv pt t mac i) (pt i).toNatClampNeg (pv i) else zr_w ml ll op cy pv pt t mac i := rfl
    rw [← I] at e1
    by_cases c : cy i + zv_lat ml ll op i - 1 = t
    · rw [if_pos c] at e1
      obtain ⟨a, ha, e⟩ := hp i hi
      exact br_t c ⟨hin, hin, by rw [e]; exact vp_in_nI ha (by omega), nm_e (nm_r (nI_1 i) (ih _ e1.symm))⟩
    · rw [if_neg c] at e1
      exact br_f c (nm_r (nI_1 i) (ih _ e1.symm))
end
/-- targets stay within -/
theorem zr_ipN {n : Nat} {op fd fa fb cy st pt : Nat → Int32} {t : Int32} (F : zv_F n op fd fa fb) (hp : ∀ i, i < n → ∃ a, a < 16 ∧ pt i = nI a) : ∀ k, k ≤ n → ∀ i, i < n → ∃ a, a < 16 ∧ zr_ip op fd fa fb cy st t pt k i = nI a := by
  intro k
  induction k with
  | zero => intro _; exact hp
  | succ k ih =>
    intro hk i hi
    have e2 : zr_ip op fd fa fb cy st t pt (k + 1) = if cy k = t then upd (zr_ip op fd fa fb cy st t pt k) k (zr_tgt op fd fa fb st k) else zr_ip op fd fa fb cy st t pt k := rfl
    rw [e2]
    split
    · by_cases e : i = k
      · subst e; rw [pk_us]; exact zr_tgtN F st hi
      · rw [pk_un e]; exact ih (by omega) i hi
    · exact ih (by omega) i hi
theorem zr_spN {n : Nat} {op fd fa fb st pt : Nat → Int32} (F : zv_F n op fd fa fb) : ∀ k, k ≤ n → ∀ i, i < k → ∃ a, a < 16 ∧ zr_sp op fd fa fb st pt k i = nI a := by
  intro k
  induction k with
  | zero => intro _ i hi; exact absurd hi (Nat.not_lt_zero i)
  | succ k ih =>
    intro hk i hi
    have e2 : zr_sp op fd fa fb st pt (k + 1) = upd (zr_sp op fd fa fb st pt k) k (zr_tgt op fd fa fb (zr_seq op fd fa fb st k) k) := rfl
    rw [e2]
    by_cases e : i = k
    · subst e; rw [pk_us]; exact zr_tgtN F _ (by omega)
    · rw [pk_un e]; exact ih (by omega) i (by omega)
theorem zr_machN {n : Nat} {ml ll : Int32} {op fd fa fb cy st pv pt : Nat → Int32} (F : zv_F n op fd fa fb) (hp : ∀ i, i < n → ∃ a, a < 16 ∧ pt i = nI a) : ∀ t, ∀ i, i < n → ∃ a, a < 16 ∧ (zr_mach ml ll op fd fa fb cy n st pv pt t).2.2 i = nI a := by
  intro t
  induction t with
  | zero => exact hp
  | succ t ih => exact zr_ipN F ih n (Nat.le_refl n)
theorem zr_lenN {n : Nat} {ml ll : Int32} {op cy : Nat → Int32} (L1 : zv_L ml) (L2 : zv_L ll) (K : zc_K n cy) (U : ¬ zc_U n cy) : ∀ k, k ≤ n → ∃ T, T ≤ 67 ∧ zr_len ml ll op cy k = nI T := by
  intro k
  induction k with
  | zero => intro _; exact ⟨0, by omega, rfl⟩
  | succ k ih =>
    intro hk
    obtain ⟨T, hT, e⟩ := ih (by omega)
    have e1 : zr_len ml ll op cy (k + 1) = if cy k + zv_lat ml ll op k ≤ zr_len ml ll op cy k then zr_len ml ll op cy k else cy k + zv_lat ml ll op k := rfl
    rcases K k (by omega) with h | ⟨c, hc, h⟩
    · exact absurd ⟨k, by omega, h⟩ U
    · obtain ⟨a, h1, h2, e2⟩ := zv_latL (op := op) L1 L2 k
      rw [e1, e, h, e2, nI_add]
      split
      · exact ⟨T, hT, rfl⟩
      · exact ⟨c + a, by omega, rfl⟩
section
variable {ml ll fn : Int32} {op fd fa fb uo cy ini seq mac pv pt wa tr ea la pl ri : Nat → Int32}
theorem xr_mach {post : St2 → Prop} {n T : Nat} (hn : n ≤ 10) (F : zv_F n op fd fa fb) (hp : ∀ i, i < n → ∃ a, a < 16 ∧ pt i = nI a) (hT : T ≤ 67) (eT : zr_len ml ll op cy n = nI T)
    (h : post (ml, ll, nI n, op, fd, fa, fb, uo, cy, ini, seq, (zr_mach ml ll op fd fa fb cy n (zr_fill ini mac 16) pv pt T).1, (zr_mach ml ll op fd fa fb cy n (zr_fill ini mac 16) pv pt T).2.1, (zr_mach ml ll op fd fa fb cy n (zr_fill ini mac 16) pv pt T).2.2, wa, tr, ea, la, pl, ri)) : wpX_runMachine post (ml, ll, nI n, op, fd, fa, fb, uo, cy, ini, seq, mac, pv, pt, wa, tr, ea, la, pl, ri) := by
  unfold wpX_runMachine
  dsimp only
  refine xr_fm (xc_len hn ?_)
  rw [eT]
  have key := loop_0 (fun m t (s : (Nat → Int32) × (Nat → Int32) × (Nat → Int32)) => wX_runMachine_15 post (nI T) m (nI t) ml ll (nI n) op fd fa fb uo cy ini seq (s.1) (s.2.1) (s.2.2) wa tr ea la pl ri) (fun t s => s = zr_mach ml ll op fd fa fb cy n (zr_fill ini mac 16) pv pt t) T (zr_fill ini mac 16, pv, pt) rfl (fun m s I => ?_) (fun m t s ht I ih => ?_)
  · exact key
  · subst I
    exact br_t (nI_le (Nat.le_refl T) (by omega)) h
  · have hN := zr_machN (ml := ml) (ll := ll) (cy := cy) (st := zr_fill ini mac 16) (pv := pv) F hp t
    have e0 : zr_mach ml ll op fd fa fb cy n (zr_fill ini mac 16) pv pt (t + 1) = (zr_w ml ll op cy (zr_iv op fd fa fb cy s.1 (nI t) s.2.1 n) (zr_ip op fd fa fb cy s.1 (nI t) s.2.2 n) (nI t) s.1 n, zr_iv op fd fa fb cy s.1 (nI t) s.2.1 n, zr_ip op fd fa fb cy s.1 (nI t) s.2.2 n) := by rw [I]; rfl
    rw [← I] at hN
    refine br_f (nI_ge ht (by omega)) (xr_iss hn F (xr_wr hn (zr_ipN F hN n (Nat.le_refl n)) (nm_r (nI_1 t) ?_)))
    exact ih (_, _, _) e0.symm
theorem xr_run {post : Int32 → St2 → Prop} {n : Nat} (hn : n ≤ 10) (F : zv_F n op fd fa fb) (L1 : zv_L ml) (L2 : zv_L ll) (K : zc_K n cy)
    (h0 : n = 0 ∨ zc_U n cy → post (-1) (ml, ll, nI n, op, fd, fa, fb, uo, cy, ini, seq, mac, pv, pt, wa, tr, ea, la, pl, ri))
    (h1 : ¬ n = 0 → ¬ zc_U n cy → ∀ T, T ≤ 67 → zr_len ml ll op cy n = nI T → ∀ S M V P, S = zr_seq op fd fa fb (zr_fill ini seq 16) n → (M, V, P) = zr_mach ml ll op fd fa fb cy n (zr_fill ini mac 16) (zr_sv op fd fa fb (zr_fill ini seq 16) pv n) (zr_sp op fd fa fb (zr_fill ini seq 16) pt n) T → post (zr_df S M 16) (ml, ll, nI n, op, fd, fa, fb, uo, cy, ini, S, M, V, P, wa, tr, ea, la, pl, ri)) : wpX_run post (ml, ll, nI n, op, fd, fa, fb, uo, cy, ini, seq, mac, pv, pt, wa, tr, ea, la, pl, ri) := by
  unfold wpX_run
  dsimp only
  refine pk_eq n 0 (fun e => h0 (Or.inl e)) (fun e => ?_)
  refine xc_unset hn (fun a => br_f (by decide) (h0 (Or.inr a))) (fun a => br_t rfl ?_)
  obtain ⟨T, hT, eT⟩ := zr_lenN (op := op) L1 L2 K a n (Nat.le_refl n)
  refine xr_seq hn F (xr_mach hn F (zr_spN F n (Nat.le_refl n)) hT eT ?_)
  have H := h1 e a T hT eT _ _ _ _ rfl rfl
  generalize zr_mach ml ll op fd fa fb cy n (zr_fill ini mac 16) (zr_sv op fd fa fb (zr_fill ini seq 16) pv n) (zr_sp op fd fa fb (zr_fill ini seq 16) pt n) T = s at H ⊢
  generalize zr_seq op fd fa fb (zr_fill ini seq 16) n = S at H ⊢
  have key := loop_0 (fun m l (x : Int32) => wX_run_28 post ml ll (nI n) op fd fa fb uo cy ini S (s.1) (s.2.1) (s.2.2) wa tr ea la pl ri m x (nI l)) (fun l x => x = zr_df S s.1 l) 16 0 rfl (fun m x I => ?_) (fun m l x hl I ih => ?_)
  · exact key
  · subst I
    exact br_t (nI_le (b := 16) (Nat.le_refl 16) (by decide)) H
  · refine br_f (nI_ge (b := 16) hl (by decide)) ⟨vp_in_nI hl (by omega), vp_in_nI hl (by omega), ?_⟩
    rw [nI_clamp (show l < 2 ^ 31 by omega)]
    have e1 : zr_df S s.1 (l + 1) = if S l = s.1 l then zr_df S s.1 l else zr_df S s.1 l + 1 := rfl
    rw [← I] at e1
    by_cases c : S l = s.1 l
    · rw [if_pos c] at e1
      exact br_t c (nm_r (nI_1 l) (ih _ e1.symm))
    · rw [if_neg c] at e1
      exact br_f c (nm_e (nm_r (nI_1 l) (ih _ e1.symm)))
end
end
section
/-! the component's narrowing -/
theorem zi_m1e {a : Int32} : a = -1 ↔ a.toInt = -1 := by rw [← Int32.toInt_inj, zi_m1]
def xs_O (n : Nat) (lat lo : Nat → Int) (len : Int) (t e l : Nat → Int) (i : Nat) : Prop :=
  (t i ≠ -1 → e i = t i ∧ l i = t i) ∧ (t i = -1 → e i = lo i ∧ l i = len - lat i)
theorem xs_Ou {n : Nat} {lat lo : Nat → Int} {len : Int} {t e l e' l' : Nat → Int} {i : Nat} (h : ∀ j, j < i → xs_O n lat lo len t e l j) (hs : ∀ j, j < i → e' j = e j ∧ l' j = l j) (hi : xs_O n lat lo len t e' l' i) : ∀ j, j < i + 1 → xs_O n lat lo len t e' l' j := by
  intro j hj
  by_cases x : j = i
  · subst x; exact hi
  · have h1 := h j (by omega)
    unfold xs_O at h1 ⊢
    rw [(hs j (by omega)).1, (hs j (by omega)).2]
    exact h1
section
variable {ml ll fn : Int32} {op fd fa fb uo cy ini seq mac pv pt wa tr ea la pl ri : Nat → Int32}
theorem xs_o36 {post : St2 → Prop} {n : Nat} {x2 x3 x4 : Int32} {lat lo : Nat → Int} {wt : Nat → Nat → Int} {un : Nat → Nat} {len : Int} (H : xs_H n ml ll op uo wa lat wt un)
    (hlo : ∀ i, i < n → (nI i ≤ x3 → (x4 + 1).toInt = lo i) ∧ (¬ nI i ≤ x3 → x4.toInt = lo i)) (hlen : x2.toInt = len) (hl2 : 0 ≤ len ∧ len ≤ 40)
    (h : ∀ ea' la', (∀ i, i < n → xs_O n lat lo len (zI tr) (zI ea') (zI la') i) → post (ml, ll, nI n, op, fd, fa, fb, uo, cy, ini, seq, mac, pv, pt, wa, tr, ea', la', pl, ri)) : ∃ m, wX_openWindows_36 post x2 x3 x4 ml ll (nI n) m 0 op fd fa fb uo cy ini seq mac pv pt wa tr ea la pl ri := by
  obtain ⟨n1, n10, hlat, hwt, hun⟩ := H
  have key := loop_0 (fun m i (s : (Nat → Int32) × (Nat → Int32)) => wX_openWindows_36 post x2 x3 x4 ml ll (nI n) m (nI i) op fd fa fb uo cy ini seq mac pv pt wa tr (s.1) (s.2) pl ri) (fun i s => ∀ j, j < i → xs_O n lat lo len (zI tr) (zI s.1) (zI s.2) j) n (ea, la) (fun j hj => absurd hj (Nat.not_lt_zero j)) (fun m s I => ?_) (fun m i s hi I ih => ?_)
  · exact key
  · obtain ⟨e, l⟩ := s
    exact br_t (nI_le (Nat.le_refl n) (by omega)) (h e l I)
  · obtain ⟨e, l⟩ := s
    dsimp only at I ⊢
    have hin : vp_in (nI i) 10 := vp_in_nI (by omega) (by omega)
    refine br_f (nI_ge hi (by omega)) ⟨hin, ?_⟩
    rw [nI_clamp (show i < 2 ^ 31 by omega)]
    have fin : ∀ z : Int32, z.toInt = lo i → zI tr i = -1 → wX_openWindows_108 post (wX_openWindows_36 post x2 x3 x4 ml ll (nI n) m) x2 x3 x4 (nI i) z (nI i) ml ll (nI n) op fd fa fb uo cy ini seq mac pv pt wa tr e l pl ri := by
      intro z hz ht
      unfold wX_openWindows_108
      rw [nI_clamp (show i < 2 ^ 31 by omega)]
      refine ⟨hin, nm_e (xk_lat (by omega) ⟨hin, nm_e (nm_r (nI_1 i) (ih (upd e i z, upd l i (x2 - zv_lat ml ll op i)) (xs_Ou I (fun j hj => ?_) ?_)))⟩)⟩
      · exact ⟨by unfold zI; dsimp only; rw [pk_un (by omega)], by unfold zI; dsimp only; rw [pk_un (by omega)]⟩
      · refine ⟨fun y => absurd ht y, fun _ => ⟨?_, ?_⟩⟩
        · unfold zI; dsimp only; rw [pk_us]; exact hz
        · unfold zI; dsimp only; rw [pk_us]
          have hli := hlat i hi
          exact zi_sub hlen hli.1 (by omega) (by omega)
    by_cases c : tr i = -1
    · refine br_t c ?_
      by_cases d : nI i ≤ x3
      · exact br_t d (fin _ ((hlo i hi).1 d) (zi_m1e.mp c))
      · exact br_f d (fin _ ((hlo i hi).2 d) (zi_m1e.mp c))
    · refine br_f c ⟨hin, hin, nm_e ⟨hin, hin, nm_e (nm_r (nI_1 i) (ih (upd e i (tr i), upd l i (tr i)) (xs_Ou I (fun j hj => ?_) ?_)))⟩⟩
      · exact ⟨by unfold zI; dsimp only; rw [pk_un (by omega)], by unfold zI; dsimp only; rw [pk_un (by omega)]⟩
      · refine ⟨fun _ => ⟨?_, ?_⟩, fun y => absurd (zi_m1e.mpr y) c⟩
        · unfold zI; dsimp only; rw [pk_us]
        · unfold zI; dsimp only; rw [pk_us]
theorem xs_open {post : St2 → Prop} {n D : Nat} {x2 : Int32} {lat : Nat → Int} {wt : Nat → Nat → Int} {un : Nat → Nat} {len : Int} {ch : Nat → Nat} (H : xs_H n ml ll op uo wa lat wt un)
    (hlen : x2.toInt = len) (hl2 : 0 ≤ len ∧ len ≤ 40) (St : qd_St n lat len D (zI tr) ch) (hch : ∀ j, j < D → pl j = nI (ch j))
    (h : ∀ ea' la', (∀ i, i < n → xs_O n lat (qd_lo D (zI tr) ch) len (zI tr) (zI ea') (zI la') i) → post (ml, ll, nI n, op, fd, fa, fb, uo, cy, ini, seq, mac, pv, pt, wa, tr, ea', la', pl, ri)) : wpX_openWindows post (ml, ll, nI n, op, fd, fa, fb, uo, cy, ini, seq, mac, pv, pt, wa, tr, ea, la, pl, ri) (nI D) x2 := by
  have hn := H.2.1
  obtain ⟨s1, s2, s3⟩ := St
  unfold wpX_openWindows
  dsimp only
  cases D with
  | zero =>
    refine br_t rfl ?_
    refine br_t rfl (xs_o36 H (fun i hi => ⟨fun z => ?_, fun _ => zi_0⟩) hlen hl2 h)
    rw [Int32.le_iff_toInt_le, nI_toInt (by omega), zi_m1] at z
    omega
  | succ d =>
    have hc := s3 d (by omega)
    have hne : ¬ nI (d + 1) = 0 := nI_ne0 (by omega) (by omega)
    refine br_f hne ?_
    rw [nI_pred, nI_clamp (show d < 2 ^ 31 by omega), hch d (by omega)]
    refine ⟨vp_in_nI (by omega) (by omega), br_f hne ⟨vp_in_nI (by omega) (by omega), nm_e ?_⟩⟩
    rw [nI_clamp (show ch d < 2 ^ 31 by omega)]
    refine xs_o36 H (fun i hi => ⟨fun z => ?_, fun z => ?_⟩) hlen hl2 h
    · rw [nI_leI (by omega) (by omega)] at z
      show (tr (ch d) + 1).toInt = qo_lk (ch d) (zI tr (ch d)) i
      rw [qo_lkl (by omega)]
      have h1 := (s1 (ch d) hc.1).resolve_left hc.2
      exact zi_add rfl zi_1 (by omega) (by have := (H.2.2.1 (ch d) hc.1).2.1; omega)
    · rw [nI_leI (by omega) (by omega)] at z
      show (tr (ch d)).toInt = qo_lk (ch d) (zI tr (ch d)) i
      rw [qo_lkg (by omega)]
      rfl
end
/-- the pass forward: all edges into the first j, of those into j the first i -/
def xs_P1 (n : Nat) (lat : Nat → Int) (dl wt : Nat → Nat → Int) (un : Nat → Nat) (len : Int) (t lo e0 l : Nat → Int) (j i : Nat) (e : Nat → Int) : Prop :=
  qn_J n lat dl un len t lo e l ∧ (∀ b, b < n → e0 b ≤ e b) ∧ qn_E wt e j i ∧ (∀ b, b < n → 0 ≤ e b ∧ e b ≤ 40 + 4 * (b : Int))
theorem xs_P1k {n : Nat} {lat : Nat → Int} {dl wt : Nat → Nat → Int} {un : Nat → Nat} {len : Int} {t lo e0 l e : Nat → Int} {j i : Nat} (P : xs_P1 n lat dl wt un len t lo e0 l j i e) (h : 0 ≤ wt i j → e i + wt i j ≤ e j) : xs_P1 n lat dl wt un len t lo e0 l j (i + 1) e := ⟨P.1, P.2.1, qn_Ek P.2.2.1 h, P.2.2.2⟩
theorem xs_P1u {n : Nat} {lat : Nat → Int} {dl wt : Nat → Nat → Int} {un : Nat → Nat} {len : Int} {t lo e0 l e : Nat → Int} {j i : Nat} (hw : qw_W n dl wt un) (P : xs_P1 n lat dl wt un len t lo e0 l j i e) (hij : i < j) (hj : j < n) (hd : 0 ≤ wt i j) (h4 : wt i j ≤ 4) (h : e j ≤ e i + wt i j) : xs_P1 n lat dl wt un len t lo e0 l j (i + 1) (qg_up e j (e i + wt i j)) := by
  obtain ⟨p1, p2, p3, p4⟩ := P
  refine ⟨qn_Je p1 h (fun c C => ?_), fun b hb => ?_, qn_Eu p3 hij h, fun b hb => ?_⟩
  · have h1 := qw_V hw C.1 hij hj hd
    have h2 := (p1.1 c C i (by omega)).1
    omega
  · have h1 := p2 b hb
    by_cases y : b = j
    · rw [y, qg_us]; rw [y] at h1; omega
    · rw [qg_un y]; exact h1
  · have h1 := p4 b hb
    by_cases y : b = j
    · have h2 := p4 i (by omega)
      rw [y, qg_us]; rw [y] at h1; omega
    · rw [qg_un y]; exact h1
/-- the pass backward -/
def xs_P2 (n : Nat) (lat : Nat → Int) (dl : Nat → Nat → Int) (un : Nat → Nat) (len : Int) (t lo e l0 : Nat → Int) (k : Nat) (l : Nat → Int) : Prop :=
  qn_J n lat dl un len t lo e l ∧ (∀ b, b < n → l b ≤ l0 b) ∧ (∀ b, k ≤ b → b < n → e b ≤ l b) ∧ (∀ b, b < n → l b ≤ 39 ∧ -37 + 4 * (b : Int) ≤ l b)
theorem xs_P2u {n : Nat} {lat : Nat → Int} {dl wt : Nat → Nat → Int} {un : Nat → Nat} {len : Int} {t lo e l0 l : Nat → Int} {i j : Nat} (hw : qw_W n dl wt un) (P : xs_P2 n lat dl un len t lo e l0 (i + 1) l) (hij : i < j) (hj : j < n) (hd : 0 ≤ wt i j) (h4 : wt i j ≤ 4) (h : l j - wt i j ≤ l i) : xs_P2 n lat dl un len t lo e l0 (i + 1) (qg_up l i (l j - wt i j)) := by
  obtain ⟨p1, p2, p3, p4⟩ := P
  refine ⟨qn_Jl p1 h (fun c C => ?_), fun b hb => ?_, fun b hk hb => ?_, fun b hb => ?_⟩
  · have h1 := qw_V hw C.1 hij hj hd
    have h2 := (p1.1 c C j hj).2
    omega
  · have h1 := p2 b hb
    by_cases y : b = i
    · rw [y, qg_us]; rw [y] at h1; omega
    · rw [qg_un y]; exact h1
  · rw [qg_un (show b ≠ i by omega)]; exact p3 b hk hb
  · have h1 := p4 b hb
    by_cases y : b = i
    · have h2 := p4 j hj
      rw [y, qg_us]; rw [y] at h1; omega
    · rw [qg_un y]; exact h1
section
variable {ml ll fn : Int32} {op fd fa fb uo cy ini seq mac pv pt wa tr ea la pl ri : Nat → Int32}
theorem xs_edges {post : Int32 → St2 → Prop} {n : Nat} {lat lo : Nat → Int} {dl wt : Nat → Nat → Int} {un : Nat → Nat} {len : Int} (H : xs_H n ml ll op uo wa lat wt un) (hw : qw_W n dl wt un) (J : qn_J n lat dl un len (zI tr) lo (zI ea) (zI la)) (R : xs_R n (zI ea) (zI la))
    (h1 : ∀ ea' la', qn_J n lat dl un len (zI tr) lo (zI ea') (zI la') → qn_D n (zI ea) (zI la) (zI ea') (zI la') → qn_E wt (zI ea') n 0 → (∀ i, i < n → 0 ≤ zI ea' i ∧ zI ea' i ≤ zI la' i ∧ zI la' i ≤ 39) → post 1 (ml, ll, nI n, op, fd, fa, fb, uo, cy, ini, seq, mac, pv, pt, wa, tr, ea', la', pl, ri))
    (h0 : ∀ ea' la', (∀ c, ¬ qo_C n lat dl un len (zI tr) lo c) → post 0 (ml, ll, nI n, op, fd, fa, fb, uo, cy, ini, seq, mac, pv, pt, wa, tr, ea', la', pl, ri)) : wpX_narrowByEdges post (ml, ll, nI n, op, fd, fa, fb, uo, cy, ini, seq, mac, pv, pt, wa, tr, ea, la, pl, ri) := by
  obtain ⟨n1, n10, hlat, hwt, hun⟩ := H
  have B : ∀ ea' : Nat → Int32, xs_P1 n lat dl wt un len (zI tr) lo (zI ea) (zI la) n 0 (zI ea') → ∀ k la', k ≤ n → xs_P2 n lat dl un len (zI tr) lo (zI ea') (zI la) k (zI la') → wX_narrowByEdges_84 post ml ll (nI n) (k + 1) (nI k - 1) op fd fa fb uo cy ini seq mac pv pt wa tr ea' la' pl ri := by
    intro ea' P1 k
    induction k with
    | zero =>
      intro la' _ P
      obtain ⟨p1, p2, p3, p4⟩ := P
      refine br_t (by decide) (h1 ea' la' p1 (fun b hb => ⟨P1.2.1 b hb, p2 b hb⟩) P1.2.2.1 (fun b hb => ⟨(P1.2.2.2 b hb).1, p3 b (Nat.zero_le b) hb, (p4 b hb).1⟩))
    | succ i ihk =>
      intro la' hk P
      have hin : vp_in (nI i) 10 := vp_in_nI (by omega) (by omega)
      rw [nI_pred]
      refine br_f (nI_pos (by omega)) (nm_r (nI_1 i) ?_)
      refine pk_loop (fun m j (s : Nat → Int32) => wX_narrowByEdges_92 post (wX_narrowByEdges_84 post ml ll (nI n) (i + 1)) (nI i) ml ll (nI n) m (nI j) op fd fa fb uo cy ini seq mac pv pt wa tr ea' s pl ri) (fun j s => i < j ∧ xs_P2 n lat dl un len (zI tr) lo (zI ea') (zI la) (i + 1) (zI s)) n (i + 1) la' (by omega) ⟨by omega, P⟩ (fun m s I => ?_) (fun m j s hj I ih => ?_)
      · obtain ⟨_, p⟩ := I
        refine br_t (nI_le (Nat.le_refl n) (by omega)) ⟨hin, hin, ?_⟩
        rw [nI_clamp (show i < 2 ^ 31 by omega)]
        refine zi_bl (show (ea' i).toInt = zI ea' i from rfl) (show (s i).toInt = zI s i from rfl) (fun q => nm_r (Int32.sub_eq_add_neg (nI i) 1).symm (ihk s (by omega) ⟨p.1, p.2.1, fun b hb hbn => ?_, p.2.2.2⟩)) (fun q => h0 ea' s (fun c C => ?_))
        · by_cases y : b = i
          · subst y; exact q
          · exact p.2.2.1 b (by omega) hbn
        · have := p.1.1 c C i (by omega)
          omega
      · obtain ⟨hij, p⟩ := I
        have hwj := hwt i j hij hj
        have e : nI i * 10 + nI j = nI (i * 10 + j) := by rw [show (10 : Int32) = nI 10 from rfl, pk_mul, nI_add]
        have hjn : vp_in (nI j) 10 := vp_in_nI (by omega) (by omega)
        refine br_f (nI_ge hj (by omega)) ?_
        rw [e, nI_clamp (show i * 10 + j < 2 ^ 31 by omega), nI_clamp (show i < 2 ^ 31 by omega), nI_clamp (show j < 2 ^ 31 by omega)]
        refine ⟨vp_in_nI (by omega) (by omega), nm_e ?_⟩
        refine zi_be hwj.1 zi_m1 (fun q => nm_r (nI_1 j) (ih s ⟨by omega, p⟩)) (fun q => ⟨hjn, hin, ?_⟩)
        have r1 := p.2.2.2 j hj
        have hs : (s j - wa (i * 10 + j)).toInt = zI s j - wt i j := zi_sub rfl hwj.1 (by omega) (by omega)
        refine zi_bl (show (s i).toInt = zI s i from rfl) hs (fun q2 => nm_r (nI_1 j) (ih s ⟨by omega, p⟩)) (fun q2 => ⟨hjn, hin, nm_e (nm_r (nI_1 j) (ih _ ⟨by omega, ?_⟩))⟩)
        rw [zI_u, hs]
        exact xs_P2u hw p hij hj (by omega) hwj.2.2 (by omega)
  unfold wpX_narrowByEdges
  dsimp only
  have key := loop_0 (fun m j (s : Nat → Int32) => wX_narrowByEdges_2 post ml ll (nI n) m (nI j) op fd fa fb uo cy ini seq mac pv pt wa tr s la pl ri) (fun j s => xs_P1 n lat dl wt un len (zI tr) lo (zI ea) (zI la) j 0 (zI s)) n ea ⟨J, fun b _ => Int.le_refl _, qn_E0, fun b hb => by have := R b hb; omega⟩ (fun m s I => ?_) (fun m j s hj I ih => ?_)
  · exact key
  · refine br_t (nI_le (Nat.le_refl n) (by omega)) (nm_e ⟨n + 1, B s I n la (Nat.le_refl n) ⟨I.1, fun b _ => Int.le_refl _, fun b h h' => by omega, fun b hb => ?_⟩⟩)
    have := R b hb
    omega
  · refine br_f (nI_ge hj (by omega)) ?_
    have key2 := loop_0 (fun m2 i (s : Nat → Int32) => wX_narrowByEdges_12 post (wX_narrowByEdges_2 post ml ll (nI n) m) (nI j) ml ll (nI n) m2 (nI i) op fd fa fb uo cy ini seq mac pv pt wa tr s la pl ri) (fun i s => xs_P1 n lat dl wt un len (zI tr) lo (zI ea) (zI la) j i (zI s)) j s I (fun m2 s I2 => ?_) (fun m2 i s hi I2 ih2 => ?_)
    · exact key2
    · exact br_t (nI_le (Nat.le_refl j) (by omega)) (nm_r (nI_1 j) (ih s ⟨I2.1, I2.2.1, qn_En I2.2.2.1, I2.2.2.2⟩))
    · have hwj := hwt i j hi hj
      have e : nI i * 10 + nI j = nI (i * 10 + j) := by rw [show (10 : Int32) = nI 10 from rfl, pk_mul, nI_add]
      have hin : vp_in (nI i) 10 := vp_in_nI (by omega) (by omega)
      have hjn : vp_in (nI j) 10 := vp_in_nI (by omega) (by omega)
      refine br_f (nI_ge hi (by omega)) ?_
      rw [e, nI_clamp (show i * 10 + j < 2 ^ 31 by omega), nI_clamp (show i < 2 ^ 31 by omega), nI_clamp (show j < 2 ^ 31 by omega)]
      refine ⟨vp_in_nI (by omega) (by omega), nm_e ?_⟩
      refine zi_be hwj.1 zi_m1 (fun q => nm_r (nI_1 i) (ih2 s (xs_P1k I2 fun z => by omega))) (fun q => ⟨hin, hjn, ?_⟩)
      have r1 := I2.2.2.2 i (by omega)
      have hs : (s i + wa (i * 10 + j)).toInt = zI s i + wt i j := zi_add rfl hwj.1 (by omega) (by omega)
      refine zi_bl hs (show (s j).toInt = zI s j from rfl) (fun q2 => nm_r (nI_1 i) (ih2 s (xs_P1k I2 fun _ => q2))) (fun q2 => ⟨hin, hjn, nm_e (nm_r (nI_1 i) (ih2 _ ?_))⟩)
      rw [zI_u, hs]
      exact xs_P1u hw I2 hi hj (by omega) hwj.2.2 (by omega)
end
end
section
theorem qn_Fb {un : Nat → Nat} {t : Nat → Int} {u : Nat} {f la : Int} : ∀ n, n ≤ 10 → qn_F un t u f la n ≤ 10 * n := by
  intro n
  induction n with
  | zero => intro _; exact Nat.le_refl 0
  | succ n ih =>
    intro hn
    have h1 := ih (by omega)
    by_cases h : f ≤ t n ∧ t n ≤ la ∧ un n ≠ u
    · rw [qn_Ft h]
      have := qc_le (p := fun j => t j = t n ∧ un j ≠ u) n
      omega
    · rw [qn_Ff h]; omega
section
variable {ml ll fn : Int32} {op fd fa fb uo cy ini seq mac pv pt wa tr ea la pl ri : Nat → Int32}
theorem xs_full {post : Int32 → Prop} {n u : Nat} {first last : Int32} {lat : Nat → Int} {wt : Nat → Nat → Int} {un : Nat → Nat} {f L : Int} (H : xs_H n ml ll op uo wa lat wt un) (hu : u ≤ 2) (hf : first.toInt = f) (hL : last.toInt = L)
    (h : post (nI (qn_F un (zI tr) u f L n))) : wpX_bundlesFullWithout post (ml, ll, nI n, op, fd, fa, fb, uo, cy, ini, seq, mac, pv, pt, wa, tr, ea, la, pl, ri) first last (nI u) := by
  obtain ⟨n1, n10, hlat, hwt, hun⟩ := H
  unfold wpX_bundlesFullWithout
  dsimp only
  have key := loop_0 (fun m i (s : Nat) => wX_bundlesFullWithout_6 post first last (nI u) ml ll (nI n) op fd fa fb uo cy ini seq mac pv pt wa tr ea la pl ri m (nI s) (nI i)) (fun i s => s = qn_F un (zI tr) u f L i) n 0 rfl (fun m s I => ?_) (fun m i s hi I ih => ?_)
  · exact key
  · rw [← I] at h
    exact br_t (nI_le (Nat.le_refl n) (by omega)) h
  · have hin : vp_in (nI i) 10 := vp_in_nI (by omega) (by omega)
    have hr : (tr i).toInt = zI tr i := rfl
    refine br_f (nI_ge hi (by omega)) ⟨hin, ?_⟩
    rw [nI_clamp (show i < 2 ^ 31 by omega)]
    refine zi_bt hr hf (fun q => nm_r (nI_1 i) (ih s ?_)) (fun q => ⟨hin, ?_⟩)
    · rw [I, qn_Ff (fun z => by have := z.1; omega)]
    refine zi_bt hL hr (fun q2 => nm_r (nI_1 i) (ih s ?_)) (fun q2 => ⟨hin, ?_⟩)
    · rw [I, qn_Ff (fun z => by have := z.2.1; omega)]
    rw [(hun i hi).1]
    refine pk_eq (un i) u (fun q3 => nm_r (nI_1 i) (ih s ?_)) (fun q3 => ?_) rfl rfl (by have := (hun i hi).2; omega) (by omega)
    · rw [I, qn_Ff (fun z => z.2.2 q3)]
    have key2 := loop_0 (fun m2 j (x : Nat) => wX_bundlesFullWithout_51 post (wX_bundlesFullWithout_6 post first last (nI u) ml ll (nI n) op fd fa fb uo cy ini seq mac pv pt wa tr ea la pl ri m) first last (nI u) (nI i) ml ll (nI n) op fd fa fb uo cy ini seq mac pv pt wa tr ea la pl ri m2 (nI x) (nI j)) (fun j x => x = s + qc_n (fun j => zI tr j = zI tr i ∧ un j ≠ u) j) i s rfl (fun m2 x I2 => ?_) (fun m2 j x hj I2 ih2 => ?_)
    · exact key2
    · refine br_t (nI_le (Nat.le_refl i) (by omega)) (nm_r (nI_1 i) (ih x ?_))
      rw [I2, I, qn_Ft ⟨q, q2, q3⟩]
    · have hjn : vp_in (nI j) 10 := vp_in_nI (by omega) (by omega)
      refine br_f (nI_ge hj (by omega)) ⟨hjn, hin, ?_⟩
      rw [nI_clamp (show i < 2 ^ 31 by omega), nI_clamp (show j < 2 ^ 31 by omega)]
      refine zi_be (show (tr j).toInt = zI tr j from rfl) hr (fun a => ⟨hjn, ?_⟩) (fun a => nm_r (nI_1 j) (ih2 x ?_))
      · rw [(hun j (by omega)).1]
        refine pk_eq (un j) u (fun b => nm_r (nI_1 j) (ih2 x ?_)) (fun b => nm_r (nI_1 x) (nm_r (nI_1 j) (ih2 (x + 1) ?_))) rfl rfl (by have := (hun j (by omega)).2; omega) (by omega)
        · rw [I2, qc_f (p := fun j => zI tr j = zI tr i ∧ un j ≠ u) (fun z => z.2 b)]
        · rw [I2, qc_t (p := fun j => zI tr j = zI tr i ∧ un j ≠ u) ⟨a, b⟩]; rfl
      · rw [I2, qc_f (p := fun j => zI tr j = zI tr i ∧ un j ≠ u) (fun z => a z.1)]
theorem xs_spare {post : Int32 → Prop} {n u : Nat} {first last : Int32} {lat : Nat → Int} {wt : Nat → Nat → Int} {un : Nat → Nat} {f L : Int} (H : xs_H n ml ll op uo wa lat wt un) (hu : u ≤ 2) (hf : first.toInt = f) (hL : last.toInt = L) (h0 : 0 ≤ f) (hfL : f ≤ L) (h39 : L ≤ 39)
    (h : ∀ x : Int32, x.toInt = qn_sp n un (zI tr) (zI ea) (zI la) u f L → post x) : wpX_spareRoom post (ml, ll, nI n, op, fd, fa, fb, uo, cy, ini, seq, mac, pv, pt, wa, tr, ea, la, pl, ri) first last (nI u) := by
  have H' := H
  obtain ⟨n1, n10, hlat, hwt, hun⟩ := H
  unfold wpX_spareRoom
  dsimp only
  have key := loop_0 (fun m i (s : Nat) => wX_spareRoom_6 post first last (nI u) ml ll (nI n) op fd fa fb uo cy ini seq mac pv pt wa tr ea la pl ri m (nI s) (nI i)) (fun i s => s = qc_n (fun i => f ≤ zI ea i ∧ zI la i ≤ L ∧ qn_us un u i) i) n 0 rfl (fun m s I => ?_) (fun m i s hi I ih => ?_)
  · exact key
  · have hs : s ≤ n := by rw [I]; exact qc_le n
    have hN : qn_N n un (zI ea) (zI la) u f L = s := I.symm
    have hsI : (nI s).toInt = (s : Int) := nI_toInt (by omega)
    have e1 : (last - first + 1).toInt = L - f + 1 := zi_add (zi_sub hL hf (by omega) (by omega)) zi_1 (by omega) (by omega)
    refine br_t (nI_le (Nat.le_refl n) (by omega)) (xk_cap hu (nm_e ?_))
    by_cases z : u = 0
    · have e2 : ((last - first + 1) * nI (if u = 0 then 2 else 1)).toInt = (L - f + 1) * 2 := by
        rw [if_pos z]
        exact zi_mul e1 (by decide) (by omega) (by omega)
      have e3 : ((last - first + 1) * nI (if u = 0 then 2 else 1) - nI s).toInt = (L - f + 1) * 2 - (s : Int) := zi_sub e2 hsI (by omega) (by omega)
      refine pk_eq u 0 (fun _ => h _ ?_) (fun z' => absurd z z')
      rw [e3]
      unfold qn_sp
      rw [if_pos z, if_neg (fun y => y.1 z), hN]
      omega
    · have e2 : ((last - first + 1) * nI (if u = 0 then 2 else 1)).toInt = L - f + 1 := by
        rw [if_neg z]
        have := zi_mul (y := 1) e1 (show (nI 1).toInt = 1 by decide) (by omega) (by omega)
        rw [this]; omega
      refine pk_eq u 0 (fun z' => absurd z' z) (fun _ => pk_le s 0 (fun y => h _ ?_) (fun y => ?_))
      · rw [zi_sub e2 hsI (by omega) (by omega)]
        unfold qn_sp
        rw [if_neg z, if_neg (fun w => by rw [hN] at w; have := w.2; omega), hN]
        omega
      · refine xs_full H' hu hf hL (nm_e (h _ ?_))
        have hF := qn_Fb (un := un) (t := zI tr) (u := u) (f := f) (la := L) n n10
        have e4 : ((last - first + 1) * nI (if u = 0 then 2 else 1) - nI (qn_F un (zI tr) u f L n)).toInt = L - f + 1 - (qn_F un (zI tr) u f L n : Int) := zi_sub e2 (nI_toInt (by omega)) (by omega) (by omega)
        rw [zi_sub e4 hsI (by omega) (by omega)]
        unfold qn_sp
        rw [if_neg z, if_pos ⟨z, by rw [hN]; exact y⟩, hN]
        omega
  · have hin : vp_in (nI i) 10 := vp_in_nI (by omega) (by omega)
    refine br_f (nI_ge hi (by omega)) ⟨hin, ?_⟩
    rw [nI_clamp (show i < 2 ^ 31 by omega)]
    refine zi_bt (show (ea i).toInt = zI ea i from rfl) hf (fun q => nm_r (nI_1 i) (ih s ?_)) (fun q => ⟨hin, ?_⟩)
    · rw [I, qc_f (p := fun i => f ≤ zI ea i ∧ zI la i ≤ L ∧ qn_us un u i) (fun z => by have := z.1; omega)]
    refine zi_bt hL (show (la i).toInt = zI la i from rfl) (fun q2 => nm_r (nI_1 i) (ih s ?_)) (fun q2 => ?_)
    · rw [I, qc_f (p := fun i => f ≤ zI ea i ∧ zI la i ≤ L ∧ qn_us un u i) (fun z => by have := z.2.1; omega)]
    refine xk_uses (by omega) hu (hun i hi).1 (hun i hi).2 (fun q3 => br_f (by decide) (nm_r (nI_1 s) (nm_r (nI_1 i) (ih (s + 1) ?_)))) (fun q3 => br_t rfl (nm_r (nI_1 i) (ih s ?_)))
    · rw [I, qc_t (p := fun i => f ≤ zI ea i ∧ zI la i ≤ L ∧ qn_us un u i) ⟨q, q2, q3⟩]
    · rw [I, qc_f (p := fun i => f ≤ zI ea i ∧ zI la i ≤ L ∧ qn_us un u i) (fun z => q3 z.2.2)]
theorem xs_k71 {post : Int32 → St2 → Prop} {J6 : Int32 → Int32 → (Nat → Int32) → (Nat → Int32) → (Nat → Int32) → (Nat → Int32) → (Nat → Int32) → (Nat → Int32) → (Nat → Int32) → (Nat → Int32) → (Nat → Int32) → (Nat → Int32) → (Nat → Int32) → (Nat → Int32) → (Nat → Int32) → (Nat → Int32) → (Nat → Int32) → (Nat → Int32) → (Nat → Int32) → Prop} {n u i s : Nat} {first last x6 z0 : Int32} {lat : Nat → Int} {wt : Nat → Nat → Int} {un : Nat → Nat} {S E : Prop} (H : xs_H n ml ll op uo wa lat wt un) (hu : u ≤ 2) (hi : i < n)
    (hS : (x6 = 1 ∧ S) ∨ (x6 = 0 ∧ ¬ S)) (hE : (z0 = 1 ∧ E) ∨ (z0 = 0 ∧ ¬ E))
    (h0 : (qn_us un u i → (S ↔ E)) → J6 (nI s) (nI (i + 1)) op fd fa fb uo cy ini seq mac pv pt wa tr ea la pl ri) (h1 : qn_us un u i → S → ¬ E → J6 (nI (s + 1)) (nI (i + 1)) op fd fa fb uo cy ini seq mac pv pt wa tr (upd ea i (last + 1)) la pl ri) (h2 : qn_us un u i → ¬ S → E → J6 (nI (s + 1)) (nI (i + 1)) op fd fa fb uo cy ini seq mac pv pt wa tr ea (upd la i (first - 1)) pl ri) :
    wX_keepOut_71 post J6 first last (nI u) (nI s) (nI i) x6 z0 ml ll (nI n) op fd fa fb uo cy ini seq mac pv pt wa tr ea la pl ri := by
  have hn := H.2.1
  have hun := H.2.2.2.2 i hi
  have hin : vp_in (nI i) 10 := vp_in_nI (by omega) (by omega)
  unfold wX_keepOut_71
  rw [nI_clamp (show i < 2 ^ 31 by omega)]
  refine xk_uses (by omega) hu hun.1 hun.2 (fun q => br_f (by decide) ?_) (fun q => br_t rfl (nm_r (nI_1 i) (h0 fun z => absurd z q)))
  rcases hS with ⟨rfl, hS⟩ | ⟨rfl, hS⟩
  · rcases hE with ⟨rfl, hE⟩ | ⟨rfl, hE⟩
    · exact br_t rfl (nm_r (nI_1 i) (h0 fun _ => ⟨fun _ => hE, fun _ => hS⟩))
    · exact br_f (by decide) (br_f (by decide) ⟨hin, nm_e (nm_r (nI_1 s) (nm_r (nI_1 i) (h1 q hS hE)))⟩)
  · rcases hE with ⟨rfl, hE⟩ | ⟨rfl, hE⟩
    · exact br_f (by decide) (br_t rfl ⟨hin, nm_e (nm_r (nI_1 s) (nm_r (nI_1 i) (h2 q hS hE)))⟩)
    · exact br_t rfl (nm_r (nI_1 i) (h0 fun _ => ⟨fun z => absurd z hS, fun z => absurd z hE⟩))
theorem xs_keep {post : Int32 → St2 → Prop} {n u : Nat} {first last : Int32} {lat lo : Nat → Int} {dl wt : Nat → Nat → Int} {un : Nat → Nat} {len f L : Int} (H : xs_H n ml ll op uo wa lat wt un) (hu : u ≤ 2) (J : qn_J n lat dl un len (zI tr) lo (zI ea) (zI la)) (R : xs_R n (zI ea) (zI la))
    (hf : first.toInt = f) (hL : last.toInt = L) (hf0 : 0 ≤ f) (hfL : f ≤ L) (h39 : L ≤ 39) (hsp : qn_sp n un (zI tr) (zI ea) (zI la) u f L = 0)
    (h0 : (∀ m, m < n → qn_us un u m → ((f ≤ zI ea m ∧ zI ea m ≤ L) ↔ (f ≤ zI la m ∧ zI la m ≤ L))) → post 0 (ml, ll, nI n, op, fd, fa, fb, uo, cy, ini, seq, mac, pv, pt, wa, tr, ea, la, pl, ri))
    (h1 : ∀ q ea' la', 1 ≤ q → q ≤ 10 → qn_J n lat dl un len (zI tr) lo (zI ea') (zI la') → qn_D n (zI ea) (zI la) (zI ea') (zI la') → xs_R n (zI ea') (zI la') → qn_w n (zI ea') (zI la') + 1 ≤ qn_w n (zI ea) (zI la) → post (nI q) (ml, ll, nI n, op, fd, fa, fb, uo, cy, ini, seq, mac, pv, pt, wa, tr, ea', la', pl, ri)) : wpX_keepOut post (ml, ll, nI n, op, fd, fa, fb, uo, cy, ini, seq, mac, pv, pt, wa, tr, ea, la, pl, ri) first last (nI u) := by
  have n10 := H.2.1
  unfold wpX_keepOut
  dsimp only
  have key := loop_0 (fun m i (s : Nat × (Nat → Int32) × (Nat → Int32)) => wX_keepOut_6 post first last (nI u) ml ll (nI n) m (nI s.1) (nI i) op fd fa fb uo cy ini seq mac pv pt wa tr (s.2.1) (s.2.2) pl ri)
    (fun i s => (∀ b, i ≤ b → s.2.1 b = ea b ∧ s.2.2 b = la b) ∧ s.1 ≤ i ∧ qn_J n lat dl un len (zI tr) lo (zI s.2.1) (zI s.2.2) ∧ qn_D n (zI ea) (zI la) (zI s.2.1) (zI s.2.2) ∧ xs_R n (zI s.2.1) (zI s.2.2) ∧
      ((s.1 = 0 ∧ s.2.1 = ea ∧ s.2.2 = la ∧ ∀ m, m < i → qn_us un u m → ((f ≤ zI ea m ∧ zI ea m ≤ L) ↔ (f ≤ zI la m ∧ zI la m ≤ L))) ∨ (1 ≤ s.1 ∧ qn_w n (zI s.2.1) (zI s.2.2) + 1 ≤ qn_w n (zI ea) (zI la))))
    n (0, ea, la) ⟨fun _ _ => ⟨rfl, rfl⟩, Nat.le_refl 0, J, qn_Dr, R, Or.inl ⟨rfl, rfl, rfl, fun m hm => absurd hm (Nat.not_lt_zero m)⟩⟩ (fun m s I => ?_) (fun m i s hi I ih => ?_)
  · exact key
  · obtain ⟨q, e, l⟩ := s
    obtain ⟨i1, i2, i3, i4, i5, i6⟩ := I
    dsimp only at i1 i2 i3 i4 i5 i6 ⊢
    refine br_t (nI_le (Nat.le_refl n) (by omega)) ?_
    rcases i6 with ⟨rfl, rfl, rfl, a⟩ | ⟨a, b⟩
    · exact h0 a
    · exact h1 q e l a (by omega) i3 i4 i5 b
  · obtain ⟨q, e, l⟩ := s
    obtain ⟨i1, i2, i3, i4, i5, i6⟩ := I
    dsimp only at i1 i2 i3 i4 i5 i6 ⊢
    have hin : vp_in (nI i) 10 := vp_in_nI (by omega) (by omega)
    have ei : e i = ea i := (i1 i (Nat.le_refl i)).1
    have li : l i = la i := (i1 i (Nat.le_refl i)).2
    have eiI : zI e i = zI ea i := by unfold zI; rw [ei]
    have liI : zI l i = zI la i := by unfold zI; rw [li]
    have Ri := R i hi
    have eL : (last + 1).toInt = L + 1 := zi_add hL zi_1 (by omega) (by omega)
    have eF : (first - 1).toInt = f - 1 := zi_sub hf zi_1 (by omega) (by omega)
    have last71 : ∀ x6 z0 : Int32, ((x6 = 1 ∧ (f ≤ zI ea i ∧ zI ea i ≤ L)) ∨ (x6 = 0 ∧ ¬ (f ≤ zI ea i ∧ zI ea i ≤ L))) → ((z0 = 1 ∧ (f ≤ zI la i ∧ zI la i ≤ L)) ∨ (z0 = 0 ∧ ¬ (f ≤ zI la i ∧ zI la i ≤ L))) →
        wX_keepOut_71 post (wX_keepOut_6 post first last (nI u) ml ll (nI n) m) first last (nI u) (nI q) (nI i) x6 z0 ml ll (nI n) op fd fa fb uo cy ini seq mac pv pt wa tr e l pl ri := by
      intro x6 z0 hS hE
      refine xs_k71 H hu hi hS hE (fun a => ih (q, e, l) ⟨fun b hb => i1 b (by omega), by omega, i3, i4, i5, ?_⟩) (fun a b c => ?_) (fun a b c => ?_)
      · rcases i6 with ⟨x1, x2, x3, x4⟩ | x
        · exact Or.inl ⟨x1, x2, x3, lt_s x4 a⟩
        · exact Or.inr x
      · have J' := qn_Je (j := i) (x := L + 1) i3 (by rw [eiI]; omega) (fun c' C => qn_out1 J.1 hf0 hfL hsp hi a b c C)
        have D' := qn_De (j := i) (x := L + 1) i4 (by rw [eiI]; omega)
        have R' := xs_Re (j := i) (x := L + 1) i5 (by omega) (by omega)
        have e1 : zI (upd e i (last + 1)) = qg_up (zI e) i (L + 1) := by rw [zI_u, eL]
        refine ih (q + 1, upd e i (last + 1), l) ⟨fun b' hb => ⟨?_, (i1 b' (by omega)).2⟩, by dsimp only; omega, ?_, ?_, ?_, Or.inr ⟨by dsimp only; omega, ?_⟩⟩
        · show upd e i (last + 1) b' = ea b'
          rw [pk_un (by omega)]; exact (i1 b' (by omega)).1
        · dsimp only; rw [e1]; exact J'
        · dsimp only; rw [e1]; exact D'
        · dsimp only; rw [e1]; exact R'
        · dsimp only
          rw [e1]
          refine qn_wDs hi D' ?_
          rw [qg_us, liI]
          omega
      · have J' := qn_Jl (j := i) (x := f - 1) i3 (by rw [liI]; omega) (fun c' C => qn_out2 J.1 hf0 hfL hsp hi a b c C)
        have D' := qn_Dl (j := i) (x := f - 1) i4 (by rw [liI]; omega)
        have R' := xs_Rl (j := i) (x := f - 1) i5 (by omega) (by omega)
        have e1 : zI (upd l i (first - 1)) = qg_up (zI l) i (f - 1) := by rw [zI_u, eF]
        refine ih (q + 1, e, upd l i (first - 1)) ⟨fun b' hb => ⟨(i1 b' (by omega)).1, ?_⟩, by dsimp only; omega, ?_, ?_, ?_, Or.inr ⟨by dsimp only; omega, ?_⟩⟩
        · show upd l i (first - 1) b' = la b'
          rw [pk_un (by omega)]; exact (i1 b' (by omega)).2
        · dsimp only; rw [e1]; exact J'
        · dsimp only; rw [e1]; exact D'
        · dsimp only; rw [e1]; exact R'
        · dsimp only
          rw [e1]
          refine qn_wDs hi D' ?_
          rw [qg_us, eiI]
          omega
    have last42 : ∀ x6 : Int32, ((x6 = 1 ∧ (f ≤ zI ea i ∧ zI ea i ≤ L)) ∨ (x6 = 0 ∧ ¬ (f ≤ zI ea i ∧ zI ea i ≤ L))) → wX_keepOut_42 post (wX_keepOut_6 post first last (nI u) ml ll (nI n) m) first last (nI u) (nI q) (nI i) x6 ml ll (nI n) op fd fa fb uo cy ini seq mac pv pt wa tr e l pl ri := by
      intro x6 hS
      unfold wX_keepOut_42
      rw [nI_clamp (show i < 2 ^ 31 by omega)]
      refine ⟨hin, zi_bt (show (l i).toInt = zI la i by rw [li]; rfl) hf (fun a => last71 x6 0 hS (Or.inr ⟨rfl, fun z => by omega⟩)) (fun a => ⟨hin, zi_bt hL (show (l i).toInt = zI la i by rw [li]; rfl) (fun b => last71 x6 0 hS (Or.inr ⟨rfl, fun z => by omega⟩)) (fun b => last71 x6 1 hS (Or.inl ⟨rfl, a, b⟩))⟩)⟩
    refine br_f (nI_ge hi (by omega)) ⟨hin, ?_⟩
    rw [nI_clamp (show i < 2 ^ 31 by omega)]
    refine zi_bt (show (e i).toInt = zI ea i by rw [ei]; rfl) hf (fun a => last42 0 (Or.inr ⟨rfl, fun z => by omega⟩)) (fun a => ⟨hin, zi_bt hL (show (e i).toInt = zI ea i by rw [ei]; rfl) (fun b => last42 0 (Or.inr ⟨rfl, fun z => by omega⟩)) (fun b => last42 1 (Or.inl ⟨rfl, a, b⟩))⟩)
end
end
section
/-- where the stretches stand: nothing moved and Q seen, or moved and narrower -/
def xs_S (n : Nat) (lat : Nat → Int) (dl : Nat → Nat → Int) (un : Nat → Nat) (len : Int) (t lo : Nat → Int) (ea la : Nat → Int32) (Q : Prop) (q : Nat) (e l : Nat → Int32) : Prop :=
  qn_J n lat dl un len t lo (zI e) (zI l) ∧ qn_D n (zI ea) (zI la) (zI e) (zI l) ∧ xs_R n (zI e) (zI l) ∧ ((q = 0 ∧ e = ea ∧ l = la ∧ Q) ∨ (1 ≤ q ∧ qn_w n (zI e) (zI l) + 1 ≤ qn_w n (zI ea) (zI la)))
theorem xs_Sq {n : Nat} {lat : Nat → Int} {dl : Nat → Nat → Int} {un : Nat → Nat} {len : Int} {t lo : Nat → Int} {ea la : Nat → Int32} {Q Q' : Prop} {q : Nat} {e l : Nat → Int32} (S : xs_S n lat dl un len t lo ea la Q q e l) (h : e = ea → l = la → Q → Q') : xs_S n lat dl un len t lo ea la Q' q e l := by
  refine ⟨S.1, S.2.1, S.2.2.1, ?_⟩
  rcases S.2.2.2 with ⟨a, b, c, d⟩ | x
  · exact Or.inl ⟨a, b, c, h b c d⟩
  · exact Or.inr x
theorem qn_Dt {n : Nat} {e0 l0 e1 l1 e2 l2 : Nat → Int} (a : qn_D n e0 l0 e1 l1) (b : qn_D n e1 l1 e2 l2) : qn_D n e0 l0 e2 l2 := by
  intro i hi
  have h1 := a i hi
  have h2 := b i hi
  omega
section
variable {ml ll fn : Int32} {op fd fa fb uo cy ini seq mac pv pt wa tr ea la pl ri : Nat → Int32}
theorem xs_stretch {post : Int32 → St2 → Prop} {n : Nat} {lat lo : Nat → Int} {dl wt : Nat → Nat → Int} {un : Nat → Nat} {len : Int} (H : xs_H n ml ll op uo wa lat wt un) (J : qn_J n lat dl un len (zI tr) lo (zI ea) (zI la)) (R : xs_R n (zI ea) (zI la))
    (h0 : (∀ i j u, i < n → j < n → u ≤ 2 → qn_Z n un (zI tr) (zI ea) (zI la) i j u) → post 0 (ml, ll, nI n, op, fd, fa, fb, uo, cy, ini, seq, mac, pv, pt, wa, tr, ea, la, pl, ri))
    (h1 : ∀ q ea' la', 1 ≤ q → q ≤ 3000 → qn_J n lat dl un len (zI tr) lo (zI ea') (zI la') → xs_R n (zI ea') (zI la') → qn_w n (zI ea') (zI la') + 1 ≤ qn_w n (zI ea) (zI la) → post (nI q) (ml, ll, nI n, op, fd, fa, fb, uo, cy, ini, seq, mac, pv, pt, wa, tr, ea', la', pl, ri))
    (hc : ∀ ea' la', (∀ c, ¬ qo_C n lat dl un len (zI tr) lo c) → post (-1) (ml, ll, nI n, op, fd, fa, fb, uo, cy, ini, seq, mac, pv, pt, wa, tr, ea', la', pl, ri)) : wpX_narrowByStretches post (ml, ll, nI n, op, fd, fa, fb, uo, cy, ini, seq, mac, pv, pt, wa, tr, ea, la, pl, ri) := by
  have n10 := H.2.1
  unfold wpX_narrowByStretches
  dsimp only
  have key := loop_0 (fun m i (s : Nat × (Nat → Int32) × (Nat → Int32)) => wX_narrowByStretches_4 post m (nI s.1) (nI i) ml ll (nI n) op fd fa fb uo cy ini seq mac pv pt wa tr (s.2.1) (s.2.2) pl ri)
    (fun i s => s.1 ≤ 300 * i ∧ xs_S n lat dl un len (zI tr) lo ea la (∀ a b u, a < i → b < n → u ≤ 2 → qn_Z n un (zI tr) (zI ea) (zI la) a b u) s.1 s.2.1 s.2.2) n (0, ea, la) ⟨by dsimp only; omega, J, qn_Dr, R, Or.inl ⟨rfl, rfl, rfl, fun a b u h => absurd h (Nat.not_lt_zero a)⟩⟩ (fun m s I => ?_) (fun m i s hi I ih => ?_)
  · exact key
  · obtain ⟨q, e, l⟩ := s
    obtain ⟨b1, S⟩ := I
    dsimp only at b1 S ⊢
    refine br_t (nI_le (Nat.le_refl n) (by omega)) ?_
    rcases S.2.2.2 with ⟨rfl, rfl, rfl, a⟩ | ⟨a, b⟩
    · exact h0 a
    · exact h1 q e l a (by omega) S.1 S.2.2.1 b
  · obtain ⟨q, e, l⟩ := s
    obtain ⟨b1, S⟩ := I
    dsimp only at b1 S ⊢
    refine br_f (nI_ge hi (by omega)) ?_
    have key2 := loop_0 (fun m2 j (s : Nat × (Nat → Int32) × (Nat → Int32)) => wX_narrowByStretches_14 post (wX_narrowByStretches_4 post m) (nI i) m2 (nI s.1) (nI j) ml ll (nI n) op fd fa fb uo cy ini seq mac pv pt wa tr (s.2.1) (s.2.2) pl ri)
      (fun j s => s.1 ≤ 300 * i + 30 * j ∧ xs_S n lat dl un len (zI tr) lo ea la ((∀ a b u, a < i → b < n → u ≤ 2 → qn_Z n un (zI tr) (zI ea) (zI la) a b u) ∧ ∀ b u, b < j → u ≤ 2 → qn_Z n un (zI tr) (zI ea) (zI la) i b u) s.1 s.2.1 s.2.2) n (q, e, l) ⟨by dsimp only; omega, xs_Sq S fun _ _ z => ⟨z, fun b u h => absurd h (Nat.not_lt_zero b)⟩⟩ (fun m2 s I2 => ?_) (fun m2 j s hj I2 ih2 => ?_)
    · exact key2
    · obtain ⟨q2, e2, l2⟩ := s
      obtain ⟨b2, S2⟩ := I2
      dsimp only at b2 S2 ⊢
      refine br_t (nI_le (Nat.le_refl n) (by omega)) (nm_r (nI_1 i) (ih (q2, e2, l2) ⟨by dsimp only; omega, xs_Sq S2 fun _ _ z a b u h1 h2 h3 => ?_⟩))
      by_cases y : a = i
      · subst y; exact z.2 b u h2 h3
      · exact z.1 a b u (by omega) h2 h3
    · obtain ⟨q2, e2, l2⟩ := s
      obtain ⟨b2, S2⟩ := I2
      dsimp only at b2 S2 ⊢
      have hin : vp_in (nI i) 10 := vp_in_nI (by omega) (by omega)
      have hjn : vp_in (nI j) 10 := vp_in_nI (by omega) (by omega)
      have Ri := S2.2.2.1 i hi
      have Rj := S2.2.2.1 j hj
      refine br_f (nI_ge hj (by omega)) ⟨hin, nm_e ⟨hjn, nm_e ?_⟩⟩
      rw [nI_clamp (show i < 2 ^ 31 by omega), nI_clamp (show j < 2 ^ 31 by omega)]
      have hf : (e2 i).toInt = zI e2 i := rfl
      have hL : (l2 j).toInt = zI l2 j := rfl
      by_cases hfl : zI l2 j < zI e2 i
      · refine ⟨1, ?_⟩
        refine br_t ((zi_lt hL hf).mpr hfl) (nm_r (nI_1 j) (ih2 (q2, e2, l2) ⟨by dsimp only; omega, xs_Sq S2 fun x1 x2 z => ⟨z.1, fun b u h h' => ?_⟩⟩))
        by_cases y : b = j
        · subst y
          intro w
          dsimp only at x1 x2
          rw [x1, x2] at hfl
          omega
        · exact z.2 b u (by omega) h'
      · have nlt : ¬ l2 j < e2 i := fun z => hfl ((zi_lt hL hf).mp z)
        have key3 := loop_0 (fun m3 u (s : Nat × (Nat → Int32) × (Nat → Int32)) => wX_narrowByStretches_41 post (wX_narrowByStretches_4 post m) (wX_narrowByStretches_14 post (wX_narrowByStretches_4 post m) (nI i) m2) (nI i) (nI j) (e2 i) (l2 j) m3 (nI s.1) (nI u) ml ll (nI n) op fd fa fb uo cy ini seq mac pv pt wa tr (s.2.1) (s.2.2) pl ri)
          (fun u s => s.1 ≤ 300 * i + 30 * j + 10 * u ∧ xs_S n lat dl un len (zI tr) lo ea la (((∀ a b u, a < i → b < n → u ≤ 2 → qn_Z n un (zI tr) (zI ea) (zI la) a b u) ∧ ∀ b u, b < j → u ≤ 2 → qn_Z n un (zI tr) (zI ea) (zI la) i b u) ∧ (e2 = ea ∧ l2 = la) ∧ ∀ v, v < u → qn_Z n un (zI tr) (zI ea) (zI la) i j v) s.1 s.2.1 s.2.2) 3 (q2, e2, l2) ⟨by dsimp only; omega, xs_Sq S2 fun x1 x2 z => ⟨z, ⟨x1, x2⟩, fun v h => absurd h (Nat.not_lt_zero v)⟩⟩ (fun m3 s I3 => ?_) (fun m3 u s hu I3 ih3 => ?_)
        · exact key3
        · obtain ⟨q3, e3, l3⟩ := s
          obtain ⟨b3, S3⟩ := I3
          dsimp only at b3 S3 ⊢
          refine br_f nlt (br_t (by decide) (nm_r (nI_1 j) (ih2 (q3, e3, l3) ⟨by dsimp only; omega, xs_Sq S3 fun x1 x2 z => ⟨z.1.1, fun b v h h' => ?_⟩⟩)))
          by_cases y : b = j
          · subst y; exact z.2.2 v (by omega)
          · exact z.1.2 b v (by omega) h'
        · obtain ⟨q3, e3, l3⟩ := s
          obtain ⟨b3, S3⟩ := I3
          dsimp only at b3 S3 ⊢
          have hu2 : ¬ (2 : Int32) < nI u := fun z => by
            rw [show (2 : Int32) = nI 2 from rfl, nI_ltI (by omega) (by omega)] at z
            omega
          refine br_f nlt (br_f hu2 (xs_spare H (by omega) hf hL (by omega) (by omega) (by omega) (fun x hx => ?_)))
          refine zi_bl zi_0 hx (fun p => ?_) (fun p => hc e3 l3 (qn_crowd S3.1.1 (by omega) (by omega) p))
          refine zi_be hx zi_0 (fun p0 => ?_) (fun p0 => nm_r (nI_1 u) (ih3 (q3, e3, l3) ⟨by dsimp only; omega, xs_Sq S3 fun x1 x2 z => ⟨z.1, z.2.1, lt_s z.2.2 ?_⟩⟩))
          · refine xs_keep H (by omega) S3.1 S3.2.2.1 hf hL (by omega) (by omega) (by omega) p0 (fun w => ?_) (fun q4 e4 l4 w1 w2 w3 w4 w5 w6 => ?_)
            · refine nm_r (show nI q3 + 0 = nI q3 from Int32.add_zero _) (nm_r (nI_1 u) (ih3 (q3, e3, l3) ⟨by dsimp only; omega, xs_Sq S3 fun x1 x2 z => ⟨z.1, z.2.1, lt_s z.2.2 ?_⟩⟩))
              intro _
              dsimp only at x1 x2
              rw [x1, x2, z.2.1.1, z.2.1.2] at w p0
              exact ⟨by omega, fun _ => w⟩
            · refine nm_r (nI_add q3 q4) (nm_r (nI_1 u) (ih3 (q3 + q4, e4, l4) ⟨by dsimp only; omega, w3, qn_Dt S3.2.1 w4, w5, Or.inr ⟨by dsimp only; omega, ?_⟩⟩))
              have := qn_wD S3.2.1
              dsimp only
              omega
          · intro _
            dsimp only at x1 x2
            rw [x1, x2, z.2.1.1, z.2.1.2] at p p0
            exact ⟨by omega, fun z' => absurd z' p0⟩
theorem xs_chance {post : Int32 → St2 → Prop} {n D : Nat} {x2 : Int32} {lat : Nat → Int} {dl wt : Nat → Nat → Int} {un : Nat → Nat} {len : Int} {ch : Nat → Nat} (H : xs_H n ml ll op uo wa lat wt un) (hw : qw_W n dl wt un)
    (hlen : x2.toInt = len) (hl2 : 0 ≤ len ∧ len ≤ 40) (hll : ∀ i, i < n → lat i ≤ len) (St : qd_St n lat len D (zI tr) ch) (hch : ∀ j, j < D → pl j = nI (ch j))
    (h1 : ∀ ea' la', qo_S n lat dl wt un len (zI tr) (qd_lo D (zI tr) ch) true (zI ea') → post 1 (ml, ll, nI n, op, fd, fa, fb, uo, cy, ini, seq, mac, pv, pt, wa, tr, ea', la', pl, ri))
    (h0 : ∀ ea' la', qo_S n lat dl wt un len (zI tr) (qd_lo D (zI tr) ch) false (zI ea') → post 0 (ml, ll, nI n, op, fd, fa, fb, uo, cy, ini, seq, mac, pv, pt, wa, tr, ea', la', pl, ri)) : wpX_leavesChance post (ml, ll, nI n, op, fd, fa, fb, uo, cy, ini, seq, mac, pv, pt, wa, tr, ea, la, pl, ri) (nI D) x2 := by
  have n1 := H.1
  have n10 := H.2.1
  have hlat := H.2.2.1
  have hun := H.2.2.2.2
  have hlo : ∀ i, i < n → 0 ≤ qd_lo D (zI tr) ch i ∧ qd_lo D (zI tr) ch i ≤ 40 := by
    intro i hi
    cases D with
    | zero => exact ⟨Int.le_refl 0, by show (0 : Int) ≤ 40; decide⟩
    | succ d =>
      have hc := St.2.2 d (by omega)
      have h1 := (St.1 (ch d) hc.1).resolve_left hc.2
      have h2 := (hlat (ch d) hc.1).2.1
      show 0 ≤ qo_lk (ch d) (zI tr (ch d)) i ∧ qo_lk (ch d) (zI tr (ch d)) i ≤ 40
      by_cases y : ch d < i
      · rw [qo_lkg y]; omega
      · rw [qo_lkl y]; omega
  unfold wpX_leavesChance
  dsimp only
  refine xs_open H hlen hl2 St hch (fun ea0 la0 hO => ?_)
  have J0 : qn_J n lat dl un len (zI tr) (qd_lo D (zI tr) ch) (zI ea0) (zI la0) := qn_J0 (fun i hi => (hO i hi).1) (fun i hi => (hO i hi).2)
  have R0 : xs_R n (zI ea0) (zI la0) := by
    intro i hi
    have h2 := hlat i hi
    have h3 := hll i hi
    have h4 := hlo i hi
    by_cases y : zI tr i = -1
    · have := (hO i hi).2 y
      omega
    · have := (hO i hi).1 y
      have := (St.1 i hi).resolve_left y
      omega
  have W0 : qn_w n (zI ea0) (zI la0) ≤ 400 := by
    have h2 := qn_Sb (R := fun i => zI la0 i - zI ea0 i + 1) (b := 40) n (fun i hi => by have := R0 i hi; show zI la0 i - zI ea0 i + 1 ≤ 40; omega)
    unfold qn_w
    omega
  have key := loop_0 (fun m r (s : (Nat → Int32) × (Nat → Int32)) => wX_leavesChance_8 post m (nI r) ml ll (nI n) op fd fa fb uo cy ini seq mac pv pt wa tr (s.1) (s.2) pl ri)
    (fun r s => qn_J n lat dl un len (zI tr) (qd_lo D (zI tr) ch) (zI s.1) (zI s.2) ∧ xs_R n (zI s.1) (zI s.2) ∧ qn_w n (zI s.1) (zI s.2) + (r : Int) ≤ 400 ∧ r ≤ 400) 401 (ea0, la0) ⟨J0, R0, by dsimp only; omega, by omega⟩ (fun m s I => ?_) (fun m r s hr I ih => ?_)
  · exact key
  · have := I.2.2.2
    omega
  · obtain ⟨e, l⟩ := s
    obtain ⟨J, R, W, r4⟩ := I
    dsimp only at J R W ⊢
    refine br_f (nI_ge (b := 401) hr (by decide)) (xs_edges H hw J R (fun e1 l1 J1 D1 E1 O1 => br_f (by decide) ?_) (fun e1 l1 no => br_t rfl (h0 e1 l1 (qn_no no))))
    have W1 := qn_wD D1
    have W2 := qn_w1 (e := zI e1) (l := zI l1) n1 (fun i hi => (O1 i hi).2.1)
    refine xs_stretch H J1 (fun i hi => by have := O1 i hi; omega) (fun z => ?_) (fun q e2 l2 q1 q2 J2 R2 W3 => ?_) (fun e2 l2 no => ?_)
    · refine br_f (by decide) (br_t rfl (h1 e1 l1 (qn_fin (fun i hi => (hun i hi).2) (fun i hi _ => (hlo i hi).1) J1 E1 (fun i hi => (O1 i hi).2.1) z)))
    · refine br_t (nI_lt (a := 0) (by omega) (by omega)) (nm_r (nI_1 r) (ih (e2, l2) ⟨J2, R2, by dsimp only; omega, by omega⟩))
    · exact br_f (by decide) (br_f (by decide) (h0 e2 l2 (qn_no no)))
end
end
section
section
variable {ml ll fn : Int32} {op fd fa fb uo cy ini seq mac pv pt wa tr ea la pl ri : Nat → Int32}
def xf_Q (t e : Nat → Int) (k f : Nat) : Prop := t f = -1 ∧ ∀ j, j < k → t j = -1 → e f ≤ e j ∧ (j < f → e f < e j)
theorem xf_first {post : Int32 → Prop} {n : Nat} (n10 : n ≤ 10) (h0 : (∀ i, i < n → zI tr i ≠ -1) → post (-1)) (h1 : ∀ i, qo_T n (zI tr) (zI ea) i → post (nI i)) : wpX_firstInLine post (ml, ll, nI n, op, fd, fa, fb, uo, cy, ini, seq, mac, pv, pt, wa, tr, ea, la, pl, ri) := by
  unfold wpX_firstInLine
  dsimp only
  have key := loop_0 (fun m k (x : Int32) => wX_firstInLine_4 post ml ll (nI n) op fd fa fb uo cy ini seq mac pv pt wa tr ea la pl ri m x (nI k)) (fun k x => (x = -1 ∧ ∀ i, i < k → zI tr i ≠ -1) ∨ ∃ f, x = nI f ∧ f < k ∧ xf_Q (zI tr) (zI ea) k f) n (-1) (Or.inl ⟨rfl, fun i hi => absurd hi (Nat.not_lt_zero i)⟩) (fun m x I => ?_) (fun m k x hk I ih => ?_)
  · exact key
  · refine br_t (nI_le (Nat.le_refl n) (by omega)) ?_
    rcases I with ⟨rfl, a⟩ | ⟨f, rfl, hf, q1, q2⟩
    · exact h0 a
    · exact h1 f ⟨hf, q1, q2⟩
  · have hkn : vp_in (nI k) 10 := vp_in_nI (by omega) (by omega)
    refine br_f (nI_ge hk (by omega)) ⟨hkn, ?_⟩
    rw [nI_clamp (show k < 2 ^ 31 by omega)]
    by_cases c : tr k = -1
    · have c' : zI tr k = -1 := zi_m1e.mp c
      refine br_t c ?_
      rcases I with ⟨rfl, a⟩ | ⟨f, rfl, hf, q1, q2⟩
      · refine br_t (by decide) (nm_r (nI_1 k) (ih (nI k) (Or.inr ⟨k, rfl, by omega, c', fun j hj tj => ?_⟩)))
        by_cases y : j = k
        · subst y; exact ⟨Int.le_refl _, fun z => absurd z (Nat.lt_irrefl _)⟩
        · exact absurd tj (a j (by omega))
      · refine br_f (nI_pos (by omega)) ⟨hkn, vp_in_nI (by omega) (by omega), ?_⟩
        rw [nI_clamp (show f < 2 ^ 31 by omega)]
        refine zi_bl (show (ea f).toInt = zI ea f from rfl) (show (ea k).toInt = zI ea k from rfl) (fun q => nm_r (nI_1 k) (ih (nI f) (Or.inr ⟨f, rfl, by omega, q1, fun j hj tj => ?_⟩))) (fun q => nm_r (nI_1 k) (ih (nI k) (Or.inr ⟨k, rfl, by omega, c', fun j hj tj => ?_⟩)))
        · by_cases y : j = k
          · subst y; exact ⟨q, fun z => by omega⟩
          · exact q2 j (by omega) tj
        · by_cases y : j = k
          · subst y; exact ⟨Int.le_refl _, fun z => absurd z (Nat.lt_irrefl _)⟩
          · have := (q2 j (by omega) tj).1
            exact ⟨by omega, fun _ => by omega⟩
    · have c' : zI tr k ≠ -1 := fun z => c (zi_m1e.mpr z)
      refine br_f c (nm_r (nI_1 k) (ih x ?_))
      rcases I with ⟨a1, a⟩ | ⟨f, a1, hf, q1, q2⟩
      · exact Or.inl ⟨a1, lt_s a c'⟩
      · refine Or.inr ⟨f, a1, by omega, q1, fun j hj tj => ?_⟩
        by_cases y : j = k
        · subst y; exact absurd tj c'
        · exact q2 j (by omega) tj
theorem xf_place {post : St2 → Prop} {n i D : Nat} (n10 : n ≤ 10) (hi : i < n) (hD : D < 10) (h : ∀ m : Int32, (∀ j, j < n → (zb_t m j ↔ qo_R n (zI tr) (zI ea) i j)) → post (ml, ll, nI n, op, fd, fa, fb, uo, cy, ini, seq, mac, pv, pt, wa, upd tr i (ea i), ea, la, upd pl D (nI i), upd ri D m)) : wpX_place post (ml, ll, nI n, op, fd, fa, fb, uo, cy, ini, seq, mac, pv, pt, wa, tr, ea, la, pl, ri) (nI i) (nI D) := by
  unfold wpX_place
  dsimp only
  have hin : vp_in (nI i) 10 := vp_in_nI (by omega) (by omega)
  have hDn : vp_in (nI D) 10 := vp_in_nI (by omega) (by omega)
  refine nm_r (nI_1 i) ?_
  refine pk_loop (fun m k (x : Int32) => wX_place_7 post (nI i) (nI D) ml ll (nI n) op fd fa fb uo cy ini seq mac pv pt wa tr ea la pl ri m x (nI k)) (fun k x => i < k ∧ ∀ j, j < n → (zb_t x j ↔ (i < j ∧ j < k ∧ zI tr j = -1 ∧ zI ea j = zI ea i))) n (i + 1) 0 (by omega) ⟨by omega, fun j hj => ⟨fun z => absurd z (zb_0 (by omega)), fun z => by have := z.1; have := z.2.1; omega⟩⟩ (fun m x I => ?_) (fun m k x hk I ih => ?_)
  · refine br_t (nI_le (Nat.le_refl n) (by omega)) ?_
    rw [nI_clamp (show i < 2 ^ 31 by omega), nI_clamp (show D < 2 ^ 31 by omega)]
    exact ⟨hDn, nm_e ⟨hDn, nm_e ⟨hin, hin, nm_e (h x I.2)⟩⟩⟩
  · have hkn : vp_in (nI k) 10 := vp_in_nI (by omega) (by omega)
    obtain ⟨hik, I⟩ := I
    refine br_f (nI_ge hk (by omega)) ⟨hkn, ?_⟩
    rw [nI_clamp (show k < 2 ^ 31 by omega), nI_clamp (show i < 2 ^ 31 by omega)]
    have skip : ¬ (i < k ∧ zI tr k = -1 ∧ zI ea k = zI ea i) → ∀ j, j < n → (zb_t x j ↔ (i < j ∧ j < k + 1 ∧ zI tr j = -1 ∧ zI ea j = zI ea i)) := by
      intro no j hj
      rw [I j hj]
      refine ⟨fun z => ⟨z.1, by have := z.2.1; omega, z.2.2⟩, fun z => ⟨z.1, ?_, z.2.2⟩⟩
      by_cases y : j = k
      · subst y; exact absurd ⟨z.1, z.2.2⟩ no
      · have := z.2.1; omega
    by_cases c : tr k = -1
    · refine br_t c ⟨hkn, hin, ?_⟩
      refine zi_be (show (ea k).toInt = zI ea k from rfl) (show (ea i).toInt = zI ea i from rfl) (fun q => nm_e (nm_r (nI_1 k) (ih _ ⟨by omega, fun j hj => ?_⟩))) (fun q => nm_r (nI_1 k) (ih x ⟨by omega, skip fun z => q z.2.2⟩))
      rw [zb_or (by omega) (by omega), I j hj]
      constructor
      · intro z
        rcases z with z | z
        · exact ⟨z.1, by have := z.2.1; omega, z.2.2⟩
        · subst z; exact ⟨hik, by omega, zi_m1e.mp c, q⟩
      · intro z
        by_cases y : j = k
        · exact Or.inr y
        · exact Or.inl ⟨z.1, by have := z.2.1; omega, z.2.2⟩
    · exact br_f c (nm_r (nI_1 k) (ih x ⟨by omega, skip fun z => c (zi_m1e.mpr z.2.1)⟩))
/-- the search's loop at step s, depth D -/
def xf_W (post : Int32 → St2 → Prop) (x2 : Int32) (ml ll : Int32) (op fd fa fb uo cy ini seq mac pv pt wa : Nat → Int32) (n s D : Nat) (t : Nat → Int) (ch : Nat → Nat) (rv : Nat → Nat → Prop) : Prop :=
  ∀ tr ea la pl ri : Nat → Int32, zI tr = t → (∀ j, j < D → pl j = nI (ch j)) → (∀ j, j < D → ∀ i, i < n → (zb_t (ri j) i ↔ rv j i)) → ∀ m, 100000000 < m + s → wX_fits_42 post x2 m (nI D) (nI s) ml ll (nI n) op fd fa fb uo cy ini seq mac pv pt wa tr ea la pl ri
/-- what is asked of an answer of retreat at step s -/
def xf_G (post : Int32 → St2 → Prop) (x2 : Int32) (ml ll : Int32) (op fd fa fb uo cy ini seq mac pv pt wa : Nat → Int32) (NO : Prop) (n s : Nat) (P : Int32 → St2 → Prop) : Prop :=
  (NO → ∀ tr ea la pl ri : Nat → Int32, P 0 (ml, ll, nI n, op, fd, fa, fb, uo, cy, ini, seq, mac, pv, pt, wa, tr, ea, la, pl, ri)) ∧
  (∀ D t ch rv (tr ea la pl ri : Nat → Int32), xf_W post x2 ml ll op fd fa fb uo cy ini seq mac pv pt wa n (s + 1) (D + 1) t ch rv → D + 1 ≤ 10 → zI tr = t → (∀ j, j < D + 1 → pl j = nI (ch j)) → (∀ j, j < D + 1 → ∀ i, i < n → (zb_t (ri j) i ↔ rv j i)) → P (nI (D + 1)) (ml, ll, nI n, op, fd, fa, fb, uo, cy, ini, seq, mac, pv, pt, wa, tr, ea, la, pl, ri))
def xf_R (post : Int32 → St2 → Prop) (x2 : Int32) (ml ll : Int32) (op fd fa fb uo cy ini seq mac pv pt wa : Nat → Int32) (NO : Prop) (n s D : Nat) (t : Nat → Int) (ch : Nat → Nat) (rv : Nat → Nat → Prop) : Prop :=
  ∀ tr ea la pl ri : Nat → Int32, zI tr = t → (∀ j, j < D → pl j = nI (ch j)) → (∀ j, j < D → ∀ i, i < n → (zb_t (ri j) i ↔ rv j i)) → ∀ P, xf_G post x2 ml ll op fd fa fb uo cy ini seq mac pv pt wa NO n s P → ∀ k, D < k → wX_retreat_2 P ml ll (nI n) k (nI D) op fd fa fb uo cy ini seq mac pv pt wa tr ea la pl ri
theorem xf_hR {post : Int32 → St2 → Prop} {x2 : Int32} {n : Nat} {lat : Nat → Int} {len : Int} {NO : Prop} (n10 : n ≤ 10) : qd_hR n lat len 100000000 (xf_W post x2 ml ll op fd fa fb uo cy ini seq mac pv pt wa n) (xf_R post x2 ml ll op fd fa fb uo cy ini seq mac pv pt wa NO n) := by
  intro s D t ch rv hs St hf he tr ea la pl ri ht hpl hri P G k hk
  obtain ⟨s1, s2, s3⟩ := St
  have hcD := s3 D (by omega)
  obtain ⟨k, rfl⟩ : ∃ k', k = k' + 1 := ⟨k - 1, by omega⟩
  have hDn : vp_in (nI D) 10 := vp_in_nI (by omega) (by omega)
  have hcn : vp_in (nI (ch D)) 10 := vp_in_nI (by omega) (by omega)
  refine br_f (nI_nle (by omega) (by omega)) ?_
  rw [nI_pred, nI_clamp (show D < 2 ^ 31 by omega), hpl D (by omega)]
  refine ⟨hDn, nm_e ⟨hcn, nm_e ⟨hcn, nm_e (nm_r (nI_1 (ch D)) ?_)⟩⟩⟩
  rw [nI_clamp (show ch D < 2 ^ 31 by omega)]
  have ht1 : zI (upd tr (ch D) (-1)) = qg_up t (ch D) (-1) := by rw [zI_u, zi_m1, ht]
  refine pk_loop (fun m i (_ : Unit) => wX_retreat_35 P (wX_retreat_2 P ml ll (nI n) k) (nI (D + 1)) (tr (ch D)) ml ll (nI n) op fd fa fb uo cy ini seq mac pv pt wa (upd tr (ch D) (-1)) ea la pl ri m (nI i)) (fun i _ => ch D < i ∧ ∀ j, ch D < j → j < i → ¬ rv D j) n (ch D + 1) () (by omega) ⟨by omega, fun j h1 h2 => by omega⟩ (fun m _ I => ?_) (fun m i _ hi I ih => ?_)
  · refine br_t (nI_le (Nat.le_refl n) (by omega)) (nm_r (pk_m1 D) ?_)
    exact he (fun i h1 h2 => I.2 i h1 h2) _ ea la pl ri ht1 (fun j hj => hpl j (by omega)) (fun j hj => hri j (by omega)) P G k (by omega)
  · refine br_f (nI_ge hi (by omega)) ?_
    rw [nI_pred, nI_clamp (show D < 2 ^ 31 by omega)]
    refine ⟨hDn, ?_⟩
    by_cases b : zb_t (ri D) i
    · refine br_f b ⟨hDn, nm_e ⟨vp_in_nI (by omega) (by omega), nm_e ?_⟩⟩
      rw [nI_clamp (show i < 2 ^ 31 by omega)]
      have hW := hf i I.1 hi ((hri D (by omega) i hi).mp b) I.2
      refine G.2 D _ _ rv _ ea la _ ri hW (by omega) ?_ (fun j hj => ?_) hri
      · rw [zI_u, ht1, ← ht]; rfl
      · by_cases y : j = D
        · subst y; rw [pk_us, qd_uNs]
        · rw [pk_un y, qd_uNn y]; exact hpl j hj
    · refine br_t (Classical.not_not.mp b) (nm_r (nI_1 i) (ih () ⟨by omega, fun j h1 h2 => ?_⟩))
      by_cases y : j = i
      · subst y; exact fun z => b ((hri D (by omega) j hi).mpr z)
      · exact I.2 j h1 (by omega)
theorem xf_hW {post : Int32 → St2 → Prop} {x2 : Int32} {n : Nat} {lat : Nat → Int} {dl wt : Nat → Nat → Int} {un : Nat → Nat} {len : Int} {NO : Prop} (H : xs_H n ml ll op uo wa lat wt un) (hw : qw_W n dl wt un) (hlen : x2.toInt = len) (hl2 : 0 ≤ len ∧ len ≤ 40) (hll : ∀ i, i < n → lat i ≤ len)
    (hno : NO → ∀ tr ea la pl ri : Nat → Int32, post 0 (ml, ll, nI n, op, fd, fa, fb, uo, cy, ini, seq, mac, pv, pt, wa, tr, ea, la, pl, ri)) :
    qd_hW n lat dl wt un len 100000000 (xf_W post x2 ml ll op fd fa fb uo cy ini seq mac pv pt wa n) (xf_R post x2 ml ll op fd fa fb uo cy ini seq mac pv pt wa NO n) (∀ tr ea la pl ri : Nat → Int32, post 1 (ml, ll, nI n, op, fd, fa, fb, uo, cy, ini, seq, mac, pv, pt, wa, tr, ea, la, pl, ri)) := by
  intro s D t ch rv hs St hb tr ea la pl ri ht hpl hri m hm
  subst ht
  have n10 := H.2.1
  obtain ⟨m, rfl⟩ : ∃ m', m = m' + 1 := ⟨m - 1, by omega⟩
  refine br_f (nI_ge (b := 100000000) hs (by decide)) (xs_chance H hw hlen hl2 hll St hpl (fun ea1 la1 S => br_f (by decide) ?_) (fun ea1 la1 S => br_t rfl ?_))
  · obtain ⟨_, b2, b3⟩ := hb true (zI ea1) S
    refine xf_first n10 (fun z => br_f (by decide) (b2 rfl z _ _ _ _ _)) (fun i T => br_t (nI_pos' (by have := T.1; omega)) ?_)
    have hi := T.1
    have hu : 1 ≤ qd_u n (zI tr) := qc_one n i hi T.2.1
    have s2 := St.2.1
    refine xf_place n10 hi (by omega) (fun mk hmk => nm_r (nI_1 D) (nm_r (nI_1 s) ?_))
    refine b3 rfl i T _ ea1 la1 _ _ ?_ (fun j hj => ?_) (fun j hj => ?_) m (by omega)
    · rw [zI_u]; rfl
    · by_cases y : j = D
      · subst y; rw [pk_us, qd_uNs]
      · rw [pk_un y, qd_uNn y]; exact hpl j (by omega)
    · by_cases y : j = D
      · subst y
        rw [pk_us, qd_uRs]
        exact hmk
      · rw [pk_un y, qd_uRn y]; exact hri j (by omega)
  · obtain ⟨b1, _, _⟩ := hb false (zI ea1) S
    have hR := b1 rfl tr ea1 la1 pl ri rfl hpl hri
    unfold wpX_retreat
    dsimp only
    refine ⟨D + 1, hR _ ⟨fun no tr' ea' la' pl' ri' => br_t rfl (hno no _ _ _ _ _), fun D' t' ch' rv' tr' ea' la' pl' ri' hW' hD' e1 e2 e3 => ?_⟩ (D + 1) (by omega)⟩
    exact br_f (nI_ne0 (by omega) (by omega)) (nm_r (nI_1 s) (hW' tr' ea' la' pl' ri' e1 e2 e3 m (by omega)))
theorem xf_fits {post : Int32 → St2 → Prop} {x1 x2 : Int32} {n st : Nat} {lat : Nat → Int} {dl wt : Nat → Nat → Int} {un : Nat → Nat} {len : Int} (hx1 : x1 = nI st) (H : xs_H n ml ll op uo wa lat wt un) (hw : qw_W n dl wt un) (hlen : x2.toInt = len) (hl2 : 0 ≤ len ∧ len ≤ 40) (hll : ∀ i, i < n → lat i ≤ len)
    (hst : st ≤ n) (hcy : ∀ i, i < st → 0 ≤ zI cy i ∧ zI cy i + lat i ≤ len)
    (h1 : ∀ c, qs_V n lat dl un len c → (∀ i, i < st → c i = zI cy i) → ∀ tr ea la pl ri : Nat → Int32, post 1 (ml, ll, nI n, op, fd, fa, fb, uo, cy, ini, seq, mac, pv, pt, wa, tr, ea, la, pl, ri))
    (h0 : (∀ c, qs_V n lat dl un len c → (∀ i, i < st → c i = zI cy i) → False) → ∀ tr ea la pl ri : Nat → Int32, post 0 (ml, ll, nI n, op, fd, fa, fb, uo, cy, ini, seq, mac, pv, pt, wa, tr, ea, la, pl, ri)) : wpX_fits post (ml, ll, nI n, op, fd, fa, fb, uo, cy, ini, seq, mac, pv, pt, wa, tr, ea, la, pl, ri) x1 x2 := by
  subst hx1
  have n10 := H.2.1
  unfold wpX_fits
  dsimp only
  have key := loop_0 (fun m i (s : Nat → Int32) => wX_fits_2 post (nI st) x2 ml ll (nI n) m (nI i) op fd fa fb uo cy ini seq mac pv pt wa s ea la pl ri) (fun i s => ∀ j, j < i → (j < st → s j = cy j) ∧ (¬ j < st → s j = -1)) n tr (fun j hj => absurd hj (Nat.not_lt_zero j)) (fun m s I => ?_) (fun m i s hi I ih => ?_)
  · exact key
  · refine br_t (nI_le (Nat.le_refl n) (by omega)) ⟨100000001, ?_⟩
    have t1 : ∀ i, i < n → (i < st → zI s i = zI cy i) ∧ (¬ i < st → zI s i = -1) := fun i hi => ⟨fun z => by unfold zI; rw [(I i hi).1 z], fun z => by unfold zI; rw [(I i hi).2 z]; exact zi_m1⟩
    have ext : ∀ c : Nat → Int, (∀ i, i < n → zI s i ≠ -1 → c i = zI s i) ↔ (∀ i, i < st → c i = zI cy i) := by
      intro c
      constructor
      · intro z i hi
        rw [← (t1 i (by omega)).1 hi]
        refine z i (by omega) ?_
        rw [(t1 i (by omega)).1 hi]
        have := (hcy i hi).1
        omega
      · intro z i hi hz
        by_cases y : i < st
        · rw [(t1 i hi).1 y]; exact z i y
        · exact absurd ((t1 i hi).2 y) hz
    have hW := xf_hW (post := post) (fd := fd) (fa := fa) (fb := fb) (cy := cy) (ini := ini) (seq := seq) (mac := mac) (pv := pv) (pt := pt) (NO := ∀ c, qs_V n lat dl un len c → (∀ i, i < st → c i = zI cy i) → False) H hw hlen hl2 hll h0
    have hR := xf_hR (post := post) (x2 := x2) (ml := ml) (ll := ll) (op := op) (fd := fd) (fa := fa) (fb := fb) (uo := uo) (cy := cy) (ini := ini) (seq := seq) (mac := mac) (pv := pv) (pt := pt) (wa := wa) (lat := lat) (len := len) (NO := ∀ c, qs_V n lat dl un len c → (∀ i, i < st → c i = zI cy i) → False) n10
    have M := qd_main (t0 := zI s) (ch := fun _ => 0) (rv := fun _ _ => False) n10 (by decide) hw hW hR (fun i hi => ?_) (fun c V hc => h1 c V ((ext c).mp hc)) (fun no s' ch' rv' hs' => ?_)
    · exact M s ea la pl ri rfl (fun j hj => absurd hj (Nat.not_lt_zero j)) (fun j hj => absurd hj (Nat.not_lt_zero j)) 100000001 (by decide)
    · by_cases y : i < st
      · rw [(t1 i hi).1 y]; exact Or.inr (hcy i y)
      · exact Or.inl ((t1 i hi).2 y)
    · intro tr' ea' la' pl' ri' _ _ _ P G k hk
      obtain ⟨k, rfl⟩ : ∃ k', k = k' + 1 := ⟨k - 1, by omega⟩
      exact br_t (by decide) (G.1 (fun c V hc => no c V ((ext c).mpr hc)) _ _ _ _ _)
  · have hin : vp_in (nI i) 10 := vp_in_nI (by omega) (by omega)
    have up : ∀ v : Int32, (i < st → v = cy i) → (¬ i < st → v = -1) → ∀ j, j < i + 1 → (j < st → upd s i v j = cy j) ∧ (¬ j < st → upd s i v j = -1) := by
      intro v v1 v2 j hj
      by_cases y : j = i
      · subst y; rw [pk_us]; exact ⟨v1, v2⟩
      · rw [pk_un y]; exact I j (by omega)
    refine br_f (nI_ge hi (by omega)) ?_
    rw [nI_clamp (show i < 2 ^ 31 by omega)]
    exact pk_le st i (fun q => ⟨hin, nm_e (nm_r (nI_1 i) (ih _ (up (-1) (fun z => by omega) (fun _ => rfl))))⟩) (fun q => ⟨hin, hin, nm_e (nm_r (nI_1 i) (ih _ (up (cy i) (fun _ => rfl) (fun z => absurd q z))))⟩)
end
end
section
/-- the waits of the component are the delays', but for pairs of one scarce unit -/
theorem xh_W {n : Nat} {ml ll : Int32} {op fd fa fb uo : Nat → Int32} (U : ∀ i, i < n → uo i = nI (zv_un (op i))) (un2 : ∀ x, zv_un x ≤ 2) : qw_W n (zv_D ml ll op fd fa fb) (fun i j => (xw_W ml ll op fd fa fb uo i j).toInt) (fun i => zv_un (op i)) := by
  intro i j hij hj
  dsimp only
  unfold xw_W zv_D
  by_cases c : zv_dl ml ll op fd fa fb i j = 0 ∧ (uo i = uo j ∧ uo i ≠ 0)
  · rw [if_pos c]
    refine Or.inr ⟨by rw [c.1]; exact zi_0, zi_1, ?_, ?_⟩
    · have h := c.2.1
      rw [U i (by omega), U j hj] at h
      have h1 := un2 (op i)
      have h2 := un2 (op j)
      exact (nI_eq (by omega) (by omega)).mp h
    · intro z
      apply c.2.2
      rw [U i (by omega), z]
      rfl
  · rw [if_neg c]
    exact Or.inl rfl
theorem zv_un2 (x : Int32) : zv_un x ≤ 2 := by unfold zv_un; split <;> (try omega); split <;> (try omega); split <;> omega
theorem zh_nI {x : Int32} (h : 0 ≤ x.toInt) : x = nI x.toInt.toNat := by
  refine Int32.toInt_inj.mp ?_
  have := x.toInt_lt
  rw [nI_toInt (by omega)]
  omega
section
variable {ml ll fn : Int32} {op fd fa fb uo cy ini seq mac pv pt wa tr ea la pl ri : Nat → Int32}
theorem xh_56 {post : Int32 → St2 → Prop} {J37 : Int32 → Int32 → Int32 → Int32 → (Nat → Int32) → (Nat → Int32) → (Nat → Int32) → (Nat → Int32) → (Nat → Int32) → (Nat → Int32) → (Nat → Int32) → (Nat → Int32) → (Nat → Int32) → (Nat → Int32) → (Nat → Int32) → (Nat → Int32) → (Nat → Int32) → (Nat → Int32) → (Nat → Int32) → (Nat → Int32) → (Nat → Int32) → Prop} {n i L M : Nat} {x3 : Int32} {lat : Nat → Int} {dl wt : Nat → Nat → Int} {un : Nat → Nat} (H : xs_H n ml ll op uo wa lat wt un) (hw : qw_W n dl wt un) (hL : L ≤ 40) (hll : ∀ i, i < n → lat i ≤ (L : Int)) (hi : i < n) (hM : x3 = nI M) (hML : (M : Int) = (L : Int) - lat i)
    {cy0 : Nat → Int32} (P : qx_P n lat dl un L i (zI cy0)) (hr : ∀ j, j < i → 0 ≤ zI cy0 j ∧ zI cy0 j + lat j ≤ (L : Int))
    (h : ∀ cy' tr ea la pl ri : Nat → Int32, qx_P n lat dl un L (i + 1) (zI cy') → (∀ j, j < i + 1 → 0 ≤ zI cy' j ∧ zI cy' j + lat j ≤ (L : Int)) → (∀ j, j ≠ i → cy' j = cy0 j) → J37 (nI (i + 1)) ml ll (nI n) op fd fa fb uo cy' ini seq mac pv pt wa tr ea la pl ri) :
    ∀ d c, c + d = M + 1 → ∀ cy tr ea la pl ri : Nat → Int32, (∀ j, j ≠ i → cy j = cy0 j) → (∀ c', qs_V n lat dl un L c' → (∀ j, j < i → c' j = zI cy0 j) → (c : Int) ≤ c' i) → wX_schedule_56 post J37 (nI L) (nI i) x3 (d + 1) (nI c) ml ll (nI n) op fd fa fb uo cy ini seq mac pv pt wa tr ea la pl ri := by
  have n10 := H.2.1
  have hlat := H.2.2.1
  subst hM
  intro d
  induction d with
  | zero =>
    intro c hc cy tr ea la pl ri hcy hlo
    exfalso
    obtain ⟨c', V, hc'⟩ := P.1
    have h1 := hlo c' V hc'
    have h2 := (V.1 i hi).2
    omega
  | succ d ih =>
    intro c hc cy tr ea la pl ri hcy hlo
    have hin : vp_in (nI i) 10 := vp_in_nI (by omega) (by omega)
    have hli := hlat i hi
    have hcI : (nI c).toInt = (c : Int) := nI_toInt (by omega)
    refine br_f (nI_nlt (by omega) (by omega)) ⟨hin, nm_e ?_⟩
    rw [nI_clamp (show i < 2 ^ 31 by omega)]
    have hold : ∀ j, j ≠ i → upd cy i (nI c) j = cy0 j := fun j hj => by rw [pk_un hj]; exact hcy j hj
    have hz : ∀ j, j < i → zI (upd cy i (nI c)) j = zI cy0 j := fun j hj => by unfold zI; rw [hold j (by omega)]
    have hzi : zI (upd cy i (nI c)) i = (c : Int) := by unfold zI; rw [pk_us]; exact hcI
    have hr1 : ∀ j, j < i + 1 → 0 ≤ zI (upd cy i (nI c)) j ∧ zI (upd cy i (nI c)) j + lat j ≤ (L : Int) := by
      intro j hj
      by_cases y : j = i
      · subst y; rw [hzi]; omega
      · rw [hz j (by omega)]; exact hr j (by omega)
    refine xf_fits (nI_1 i) H hw (nI_toInt (by omega)) ⟨by omega, by omega⟩ hll (by omega) hr1 (fun c' V hc' tr' ea' la' pl' ri' => br_f (by decide) (nm_r (nI_1 i) ?_)) (fun no tr' ea' la' pl' ri' => br_t rfl (nm_r (nI_1 c) (ih (c + 1) (by omega) _ tr' ea' la' pl' ri' hold (fun c' V hc' => ?_))))
    · exact h _ tr' ea' la' pl' ri' (qx_s P hz hzi (fun c2 V2 hc2 => hlo c2 V2 hc2) ⟨c', V, hc'⟩) hr1 hold
    · have h1 := hlo c' V hc'
      by_cases y : c' i = (c : Int)
      · exfalso
        refine no c' V (fun j hj => ?_)
        by_cases x : j = i
        · subst x; rw [hzi]; exact y
        · rw [hz j (by omega)]; exact hc' j (by omega)
      · omega
theorem xh_37 {post : Int32 → St2 → Prop} {n L : Nat} {lat : Nat → Int} {dl wt : Nat → Nat → Int} {un : Nat → Nat} (H : xs_H n ml ll op uo wa lat wt un) (hw : qw_W n dl wt un) (hL : L ≤ 40) (hll : ∀ i, i < n → lat i ≤ (L : Int)) (hV : ∃ c, qs_V n lat dl un L c)
    (h : ∀ cy' tr ea la pl ri : Nat → Int32, qs_X n lat dl un L (zI cy') → (∀ j, n ≤ j → cy' j = cy j) → post (nI L) (ml, ll, nI n, op, fd, fa, fb, uo, cy', ini, seq, mac, pv, pt, wa, tr, ea, la, pl, ri)) : ∃ m, wX_schedule_37 post (nI L) m 0 ml ll (nI n) op fd fa fb uo cy ini seq mac pv pt wa tr ea la pl ri := by
  have n10 := H.2.1
  have hlat := H.2.2.1
  have key := loop_0 (fun m i (s : (Nat → Int32) × (Nat → Int32) × (Nat → Int32) × (Nat → Int32) × (Nat → Int32) × (Nat → Int32)) => wX_schedule_37 post (nI L) m (nI i) ml ll (nI n) op fd fa fb uo (s.1) ini seq mac pv pt wa (s.2.1) (s.2.2.1) (s.2.2.2.1) (s.2.2.2.2.1) (s.2.2.2.2.2))
    (fun i s => qx_P n lat dl un L i (zI s.1) ∧ (∀ j, j < i → 0 ≤ zI s.1 j ∧ zI s.1 j + lat j ≤ (L : Int)) ∧ (∀ j, n ≤ j → s.1 j = cy j)) n (cy, tr, ea, la, pl, ri) ⟨qx_0 hV, fun j hj => absurd hj (Nat.not_lt_zero j), fun _ _ => rfl⟩ (fun m s I => ?_) (fun m i s hi I ih => ?_)
  · exact key
  · obtain ⟨cy1, tr1, ea1, la1, pl1, ri1⟩ := s
    exact br_t (nI_le (Nat.le_refl n) (by omega)) (h cy1 tr1 ea1 la1 pl1 ri1 (qx_n I.1) I.2.2)
  · obtain ⟨cy1, tr1, ea1, la1, pl1, ri1⟩ := s
    obtain ⟨i1, i2, i3⟩ := I
    dsimp only at i1 i2 i3 ⊢
    have hli := hlat i hi
    have hl2 := hll i hi
    refine br_f (nI_ge hi (by omega)) (xk_lat (by omega) (nm_e ?_))
    have e1 : (nI L - zv_lat ml ll op i).toInt = (L : Int) - lat i := zi_sub (nI_toInt (by omega)) hli.1 (by omega) (by omega)
    have e2 := zh_nI (x := nI L - zv_lat ml ll op i) (by omega)
    refine ⟨(nI L - zv_lat ml ll op i).toInt.toNat + 1 + 1, ?_⟩
    exact xh_56 H hw hL hll hi e2 (by omega) i1 i2 (fun cy2 tr2 ea2 la2 pl2 ri2 a b c => ih (cy2, tr2, ea2, la2, pl2, ri2) ⟨a, b, fun j hj => by show cy2 j = cy j; rw [c j (by omega)]; exact i3 j hj⟩) _ 0 (by omega) cy1 tr1 ea1 la1 pl1 ri1 (fun _ _ => rfl) (fun c' V _ => by have := (V.1 i hi).1; omega)
theorem xh_14 {post : Int32 → St2 → Prop} {n : Nat} {lat : Nat → Int} {dl wt : Nat → Nat → Int} {un : Nat → Nat} (H : xs_H n ml ll op uo wa lat wt un) (hw : qw_W n dl wt un) (hdl : ∀ i j, i < j → j < n → dl i j ≤ lat i)
    (h : ∀ L : Nat, L ≤ 40 → (∃ c, qs_V n lat dl un L c) → (∀ len : Int, len < (L : Int) → ∀ c, ¬ qs_V n lat dl un len c) → ∀ cy' tr ea la pl ri : Nat → Int32, qs_X n lat dl un L (zI cy') → (∀ j, n ≤ j → cy' j = cy j) → post (nI L) (ml, ll, nI n, op, fd, fa, fb, uo, cy', ini, seq, mac, pv, pt, wa, tr, ea, la, pl, ri)) :
    ∀ d q : Nat, q + d = 40 → (∀ i, i < n → lat i ≤ (q : Int)) → (∀ len : Int, len < (q : Int) → ∀ c, ¬ qs_V n lat dl un len c) → ∀ tr ea la pl ri : Nat → Int32, wX_schedule_14 post (d + 1) (nI q) ml ll (nI n) op fd fa fb uo cy ini seq mac pv pt wa tr ea la pl ri := by
  have n10 := H.2.1
  have hlat := H.2.2.1
  intro d
  induction d with
  | zero =>
    intro q hq hll hno tr ea la pl ri
    have e : q = 40 := by omega
    subst e
    exact br_t (nI_le (b := 40) (a := 40) (Nat.le_refl 40) (by decide)) (xh_37 H hw (Nat.le_refl 40) hll (qx_40 n10 (fun i hi => (hlat i hi).2) hdl) (h 40 (Nat.le_refl 40) (qx_40 n10 (fun i hi => (hlat i hi).2) hdl) hno))
  | succ d ih =>
    intro q hq hll hno tr ea la pl ri
    refine br_f (nI_ge (b := 40) (by omega) (by decide)) ?_
    refine xf_fits (st := 0) rfl H hw (nI_toInt (by omega)) ⟨by omega, by omega⟩ hll (by omega) (fun i hi => absurd hi (Nat.not_lt_zero i)) (fun c V _ tr' ea' la' pl' ri' => br_f (by decide) ?_) (fun no tr' ea' la' pl' ri' => br_t rfl (nm_r (nI_1 q) ?_))
    · exact xh_37 H hw (by omega) hll ⟨c, V⟩ (h q (by omega) ⟨c, V⟩ hno)
    · refine ih (q + 1) (by omega) (fun i hi => by have := hll i hi; omega) (fun len hlen c V => ?_) tr' ea' la' pl' ri'
      by_cases y : len < (q : Int)
      · exact hno len y c V
      · have e : len = (q : Int) := by omega
        subst e
        exact no c V (fun i hi => absurd hi (Nat.not_lt_zero i))
theorem xh_sched {post : Int32 → St2 → Prop} {n : Nat} (hn : n ≤ 10) (F : zv_F n op fd fa fb) (L1 : zv_L ml) (L2 : zv_L ll) (U : ∀ i, i < n → uo i = nI (zv_un (op i))) (h0 : n = 0 → post 0 (ml, ll, nI n, op, fd, fa, fb, uo, cy, ini, seq, mac, pv, pt, wa, tr, ea, la, pl, ri))
    (h : 1 ≤ n → ∀ L : Nat, L ≤ 40 → (∃ c, qs_V n (zv_T1 ml ll op) (zv_D ml ll op fd fa fb) (fun i => zv_un (op i)) L c) → (∀ len : Int, len < (L : Int) → ∀ c, ¬ qs_V n (zv_T1 ml ll op) (zv_D ml ll op fd fa fb) (fun i => zv_un (op i)) len c) →
      ∀ cy' wa tr ea la pl ri : Nat → Int32, qs_X n (zv_T1 ml ll op) (zv_D ml ll op fd fa fb) (fun i => zv_un (op i)) L (zI cy') → (∀ j, n ≤ j → cy' j = cy j) → post (nI L) (ml, ll, nI n, op, fd, fa, fb, uo, cy', ini, seq, mac, pv, pt, wa, tr, ea, la, pl, ri)) : wpX_schedule post (ml, ll, nI n, op, fd, fa, fb, uo, cy, ini, seq, mac, pv, pt, wa, tr, ea, la, pl, ri) := by
  unfold wpX_schedule
  dsimp only
  refine pk_eq n 0 (fun e => h0 e) (fun e => ?_)
  refine xw_4 hn F L1 L2 (fun wa1 ea1 x IX RX hx => ?_)
  have hx0 := RX.1
  have ex := zh_nI (x := x) hx0
  have H : xs_H n ml ll op uo wa1 (zv_T1 ml ll op) (fun i j => (xw_W ml ll op fd fa fb uo i j).toInt) (fun i => zv_un (op i)) := by
    refine ⟨by omega, hn, fun i hi => ⟨rfl, zv_Tr L1 L2 i⟩, fun i j hij hj => ⟨by rw [IX.2.2 i j hij hj], ?_⟩, fun i hi => ⟨U i hi, zv_un2 _⟩⟩
    have hr := zv_Dr (op := op) (fd := fd) (fa := fa) (fb := fb) L1 L2 i j
    dsimp only
    unfold xw_W
    split
    · rw [zi_1]; omega
    · unfold zv_D at hr; omega
  refine ⟨40 - x.toInt.toNat + 1, ?_⟩
  rw [ex]
  refine xh_14 H (xh_W U zv_un2) (fun i j _ _ => (zv_Dr L1 L2 i j).2.1) (fun L hL hV hno cy' tr' ea' la' pl' ri' hX hk => h (by omega) L hL hV hno cy' wa1 tr' ea' la' pl' ri' hX hk) (40 - (nI x.toInt.toNat).toInt.toNat) x.toInt.toNat ?_ (fun i hi => ?_) (fun len hlen c V => ?_) _ _ _ _ _
  · rw [← ex]; omega
  · have h1 := RX.2.1 i hi
    have h2 := IX.1.1 i hi
    omega
  · have hh := qx_head IX.1 V
    rcases RX.2.2 with y | ⟨i, hi, y⟩
    · have h1 := RX.2.1 0 (by omega)
      have h2 := IX.1.1 0 (by omega)
      have h3 := zv_Tr (op := op) L1 L2 0
      omega
    · have := hh i hi
      omega
end
end
section
/-! a valid schedule on the machine leaves what the order leaves (rests on whole's parts values and run) -/
noncomputable def zp_R (tg : Nat → Nat) (vl st0 : Nat → Int32) (D : Nat → Prop) : Nat → Nat → Int32
  | 0 => st0
  | k + 1 => @ite (Nat → Int32) (D k) (Classical.propDecidable (D k)) (upd (zp_R tg vl st0 D k) (tg k) (vl k)) (zp_R tg vl st0 D k)
theorem zp_t {tg : Nat → Nat} {vl st0 : Nat → Int32} {D : Nat → Prop} {k : Nat} (h : D k) : zp_R tg vl st0 D (k + 1) = upd (zp_R tg vl st0 D k) (tg k) (vl k) := by
  show @ite (Nat → Int32) (D k) (Classical.propDecidable (D k)) _ _ = _
  rw [if_pos h]
theorem zp_f {tg : Nat → Nat} {vl st0 : Nat → Int32} {D : Nat → Prop} {k : Nat} (h : ¬ D k) : zp_R tg vl st0 D (k + 1) = zp_R tg vl st0 D k := by
  show @ite (Nat → Int32) (D k) (Classical.propDecidable (D k)) _ _ = _
  rw [if_neg h]
theorem zp_o {tg : Nat → Nat} {vl st0 : Nat → Int32} {D : Nat → Prop} {k l : Nat} (h : tg k = l → ¬ D k) : zp_R tg vl st0 D (k + 1) l = zp_R tg vl st0 D k l := by
  by_cases d : D k
  · rw [zp_t d, pk_un (fun x => h x.symm d)]
  · rw [zp_f d]
theorem zp_skip {tg : Nat → Nat} {vl st0 : Nat → Int32} {D : Nat → Prop} {l j : Nat} : ∀ m, (∀ i, j ≤ i → i < j + m → tg i = l → ¬ D i) → zp_R tg vl st0 D (j + m) l = zp_R tg vl st0 D j l := by
  intro m
  induction m with
  | zero => intro _; rfl
  | succ m ih =>
    intro h
    rw [show j + (m + 1) = j + m + 1 from rfl, zp_o (h (j + m) (by omega) (by omega))]
    exact ih fun i h1 h2 => h i h1 (by omega)
theorem zp_eq {tg : Nat → Nat} {vl st0 : Nat → Int32} {D E : Nat → Prop} {l : Nat} : ∀ k, (∀ i, i < k → tg i = l → (D i ↔ E i)) → zp_R tg vl st0 D k l = zp_R tg vl st0 E k l := by
  intro k
  induction k with
  | zero => intro _; rfl
  | succ k ih =>
    intro h
    have h1 := ih fun i hi => h i (by omega)
    by_cases e : tg k = l
    · have h2 := h k (by omega) e
      by_cases d : D k
      · rw [zp_t d, zp_t (h2.mp d), e, pk_us, pk_us]
      · rw [zp_f d, zp_f (fun x => d (h2.mpr x))]; exact h1
    · rw [zp_o (fun x => absurd x e), zp_o (fun x => absurd x e)]; exact h1
theorem zp_last {tg : Nat → Nat} {vl st0 : Nat → Int32} {D : Nat → Prop} {i k : Nat} (hi : i < k) (hD : D i) (h : ∀ j, i < j → j < k → tg j = tg i → ¬ D j) : zp_R tg vl st0 D k (tg i) = vl i := by
  have h1 := zp_skip (tg := tg) (vl := vl) (st0 := st0) (D := D) (l := tg i) (j := i + 1) (k - (i + 1)) fun j h1 h2 => h j (by omega) (by omega)
  rw [show i + 1 + (k - (i + 1)) = k by omega] at h1
  rw [h1, zp_t hD, pk_us]
theorem zp_cong {tg tg' : Nat → Nat} {vl vl' st0 : Nat → Int32} {D : Nat → Prop} : ∀ k, (∀ i, i < k → D i → tg i = tg' i ∧ vl i = vl' i) → zp_R tg vl st0 D k = zp_R tg' vl' st0 D k := by
  intro k
  induction k with
  | zero => intro _; rfl
  | succ k ih =>
    intro h
    have h1 := ih fun i hi => h i (by omega)
    by_cases d : D k
    · rw [zp_t d, zp_t d, h1, (h k (by omega) d).1, (h k (by omega) d).2]
    · rw [zp_f d, zp_f d, h1]
/-- ONE CYCLE'S WRITES: done before: D, due now: E; of two that write alike the later is done later -/
theorem zp_write {tg : Nat → Nat} {vl st0 : Nat → Int32} {D E : Nat → Prop} {n : Nat} (hDE : ∀ i, i < n → D i → ¬ E i)
    (ho : ∀ i j, i < j → j < n → tg i = tg j → (D j ∨ E j) → D i ∧ ¬ E i) : zp_R tg vl (zp_R tg vl st0 D n) E n = zp_R tg vl st0 (fun i => D i ∨ E i) n := by
  funext l
  by_cases h : ∃ i, i < n ∧ E i ∧ tg i = l
  · obtain ⟨i, hi, hE, e⟩ := h
    subst e
    rw [zp_last hi hE fun j hj hjn e x => (ho i j hj hjn e.symm (Or.inr x)).2 hE,
      zp_last (D := fun i => D i ∨ E i) hi (Or.inr hE) fun j hj hjn e x => (ho i j hj hjn e.symm x).2 hE]
  · have h0 := zp_skip (tg := tg) (vl := vl) (st0 := zp_R tg vl st0 D n) (D := E) (l := l) (j := 0) n fun i _ hi e x => h ⟨i, by omega, x, e⟩
    rw [Nat.zero_add] at h0
    rw [h0]
    show zp_R tg vl st0 D n l = _
    exact zp_eq n fun i hi e => ⟨Or.inl, fun x => x.elim id (fun y => absurd ⟨i, hi, y, e⟩ h)⟩
/-- WHAT j READS: all writers before it are done, none behind it -/
theorem zp_read {tg : Nat → Nat} {vl st0 : Nat → Int32} {D : Nat → Prop} {n j l : Nat} (hj : j ≤ n) (h1 : ∀ i, i < j → tg i = l → D i) (h2 : ∀ i, j ≤ i → i < n → tg i = l → ¬ D i) : zp_R tg vl st0 D n l = zp_R tg vl st0 (fun _ => True) j l := by
  have h0 := zp_skip (tg := tg) (vl := vl) (st0 := st0) (D := D) (l := l) (j := j) (n - j) fun i a b => h2 i a (by omega)
  rw [show j + (n - j) = n by omega] at h0
  rw [h0]
  exact zp_eq j fun i hi e => ⟨fun _ => trivial, fun _ => h1 i hi e⟩
/-! the block's own targets and values -/
def zp_tg (op fd fa fb st0 : Nat → Int32) (i : Nat) : Nat := (zr_tgt op fd fa fb (zr_seq op fd fa fb st0 i) i).toNatClampNeg
def zp_vl (op fd fa fb st0 : Nat → Int32) (i : Nat) : Int32 := zr_val op fd fa fb (zr_seq op fd fa fb st0 i) i
theorem zp_seq (op fd fa fb st0 : Nat → Int32) : ∀ k, zr_seq op fd fa fb st0 k = zp_R (zp_tg op fd fa fb st0) (zp_vl op fd fa fb st0) st0 (fun _ => True) k := by
  intro k
  induction k with
  | zero => rfl
  | succ k ih =>
    rw [zp_t trivial, ← ih]
    rfl
theorem zp_wR (ml ll : Int32) (op cy pv pt : Nat → Int32) (t : Int32) (st : Nat → Int32) : ∀ k, zr_w ml ll op cy pv pt t st k = zp_R (fun i => (pt i).toNatClampNeg) pv st (fun i => cy i + zv_lat ml ll op i - 1 = t) k := by
  intro k
  induction k with
  | zero => rfl
  | succ k ih =>
    by_cases h : cy k + zv_lat ml ll op k - 1 = t
    · rw [zp_t h, ← ih]
      show (if _ then _ else _) = _
      rw [if_pos h]
    · rw [zp_f h, ← ih]
      show (if _ then _ else _) = _
      rw [if_neg h]
/-- j reads location l -/
def zp_rd (op fd fa fb : Nat → Int32) (j l : Nat) : Prop := (l < 8 ∧ zv_rd op fd fa fb j (nI l)) ∨ (8 ≤ l ∧ l < 16 ∧ op j = 5)
theorem zp_tgt {n : Nat} {op fd fa fb : Nat → Int32} (F : zv_F n op fd fa fb) (st0 : Nat → Int32) {i : Nat} (hi : i < n) : (op i = 6 ∧ 8 ≤ zp_tg op fd fa fb st0 i) ∨ (op i ≠ 6 ∧ zp_tg op fd fa fb st0 i < 8 ∧ fd i = nI (zp_tg op fd fa fb st0 i)) := by
  obtain ⟨_, ⟨d, hd, ed⟩, _, _⟩ := F i hi
  by_cases h : op i = 6
  · refine Or.inl ⟨h, ?_⟩
    obtain ⟨a, h1, h2, e⟩ := zr_adN fa fb (zr_seq op fd fa fb st0 i) i
    unfold zp_tg zr_tgt
    rw [if_pos h, e, nI_clamp (by omega)]
    exact h1
  · refine Or.inr ⟨h, ?_⟩
    have e : zp_tg op fd fa fb st0 i = d := by
      unfold zp_tg zr_tgt
      rw [if_neg h, ed, nI_clamp (by omega)]
    rw [e]
    exact ⟨hd, ed⟩
theorem zp_T {n : Nat} {op fd fa fb : Nat → Int32} (F : zv_F n op fd fa fb) (st0 : Nat → Int32) {i j l : Nat} (hi : i < n) (h1 : zp_tg op fd fa fb st0 i = l) (h2 : zp_rd op fd fa fb j l) : zv_T op fd fa fb i j := by
  rcases zp_tgt F st0 hi with ⟨a, b⟩ | ⟨a, b, e⟩
  · rcases h2 with ⟨x, _⟩ | ⟨_, _, y⟩
    · omega
    · exact Or.inr ⟨a, y⟩
  · rcases h2 with ⟨x, y⟩ | ⟨x, _, _⟩
    · refine Or.inl ⟨a, ?_⟩
      rw [e, h1]; exact y
    · omega
theorem zp_A {n : Nat} {op fd fa fb : Nat → Int32} (F : zv_F n op fd fa fb) (st0 : Nat → Int32) {i j l : Nat} (hj : j < n) (h1 : zp_tg op fd fa fb st0 j = l) (h2 : zp_rd op fd fa fb i l) : zv_A op fd fa fb i j := by
  rcases zp_tgt F st0 hj with ⟨a, b⟩ | ⟨a, b, e⟩
  · rcases h2 with ⟨x, _⟩ | ⟨_, _, y⟩
    · omega
    · exact Or.inr ⟨y, a⟩
  · rcases h2 with ⟨x, y⟩ | ⟨x, _, _⟩
    · refine Or.inl ⟨a, ?_⟩
      rw [e, h1]; exact y
    · omega
theorem zp_O {n : Nat} {op fd fa fb : Nat → Int32} (F : zv_F n op fd fa fb) (st0 : Nat → Int32) {i j : Nat} (hi : i < n) (hj : j < n) (h : zp_tg op fd fa fb st0 i = zp_tg op fd fa fb st0 j) : zv_O op fd i j := by
  rcases zp_tgt F st0 hi with ⟨a, b⟩ | ⟨a, b, e⟩
  · rcases zp_tgt F st0 hj with ⟨a', b'⟩ | ⟨a', b', e'⟩
    · exact Or.inr ⟨a, a'⟩
    · omega
  · rcases zp_tgt F st0 hj with ⟨a', b'⟩ | ⟨a', b', e'⟩
    · omega
    · exact Or.inl ⟨a, a', by rw [e, e', h]⟩
/-- a state that agrees where j reads gives the same value and target -/
theorem zp_same {n : Nat} {op fd fa fb : Nat → Int32} (F : zv_F n op fd fa fb) {j : Nat} (hj : j < n) {st st' : Nat → Int32} (h : ∀ l, zp_rd op fd fa fb j l → st l = st' l) : zr_val op fd fa fb st j = zr_val op fd fa fb st' j ∧ zr_tgt op fd fa fb st j = zr_tgt op fd fa fb st' j := by
  obtain ⟨f1, ⟨d, hd, ed⟩, f3, f4⟩ := F j hj
  have rg : ∀ r, r < 8 → zv_rd op fd fa fb j (nI r) → st (nI r).toNatClampNeg = st' (nI r).toNatClampNeg := fun r hr x => by
    rw [nI_clamp (by omega)]
    exact h r (Or.inl ⟨hr, x⟩)
  rcases zv_nI6 f1 with o | o | o | o | o | o
  · unfold zr_val zr_tgt
    rw [if_pos o, if_pos o, if_neg (by rw [o]; decide), if_neg (by rw [o]; decide)]
    exact ⟨rfl, rfl⟩
  all_goals obtain ⟨a, ha, ea⟩ := f3 (by rw [o]; decide)
  · obtain ⟨b, hb, eb⟩ := f4 (Or.inl o)
    have h1 := rg a ha (Or.inl ⟨Or.inl o, Or.inl ea⟩)
    have h2 := rg b hb (Or.inl ⟨Or.inl o, Or.inr eb⟩)
    rw [← ea] at h1
    rw [← eb] at h2
    unfold zr_val zr_tgt
    simp only [o, h1, h2]
    exact ⟨by simp, by simp⟩
  · obtain ⟨b, hb, eb⟩ := f4 (Or.inr (Or.inl o))
    have h1 := rg a ha (Or.inl ⟨Or.inr (Or.inl o), Or.inl ea⟩)
    have h2 := rg b hb (Or.inl ⟨Or.inr (Or.inl o), Or.inr eb⟩)
    rw [← ea] at h1
    rw [← eb] at h2
    unfold zr_val zr_tgt
    simp only [o, h1, h2]
    exact ⟨by simp, by simp⟩
  · obtain ⟨b, hb, eb⟩ := f4 (Or.inr (Or.inr o))
    have h1 := rg a ha (Or.inl ⟨Or.inr (Or.inr o), Or.inl ea⟩)
    have h2 := rg b hb (Or.inl ⟨Or.inr (Or.inr o), Or.inr eb⟩)
    rw [← ea] at h1
    rw [← eb] at h2
    unfold zr_val zr_tgt
    simp only [o, h1, h2]
    exact ⟨by simp, by simp⟩
  · have h1 := rg a ha (Or.inr (Or.inl ⟨o, ea⟩))
    rw [← ea] at h1
    have e : zr_ad fa fb st j = zr_ad fa fb st' j := by unfold zr_ad; rw [h1]
    have h2 : st (zr_ad fa fb st' j).toNatClampNeg = st' (zr_ad fa fb st' j).toNatClampNeg := by
      obtain ⟨q, q1, q2, eq⟩ := zr_adN fa fb st' j
      rw [eq, nI_clamp (by omega)]
      exact h q (Or.inr ⟨q1, q2, o⟩)
    unfold zr_val zr_tgt
    simp only [o, e, h2]
    exact ⟨by simp, by simp⟩
  · have h1 := rg a ha (Or.inr (Or.inr ⟨o, Or.inl ea⟩))
    have h2 := rg d hd (Or.inr (Or.inr ⟨o, Or.inr ed⟩))
    rw [← ea] at h1
    rw [← ed] at h2
    have e : zr_ad fa fb st j = zr_ad fa fb st' j := by unfold zr_ad; rw [h1]
    unfold zr_val zr_tgt
    simp only [o, e, h2]
    exact ⟨by simp, by simp⟩
/-! delays by kinds -/
theorem zp_dtab : (List.range 8).all (fun k => (List.range 5).all fun a => (List.range 5).all fun b => (a == 0 || b == 0) || (decide (nI k &&& 1 ≠ 0 → (nI a).toInt ≤ (zv_d (nI k) (nI a) (nI b)).toInt) && decide (nI k &&& 2 ≠ 0 → 0 ≤ (zv_d (nI k) (nI a) (nI b)).toInt) && decide (nI k &&& 4 ≠ 0 → (nI a).toInt - (nI b).toInt + 1 ≤ (zv_d (nI k) (nI a) (nI b)).toInt ∧ 0 ≤ (zv_d (nI k) (nI a) (nI b)).toInt))) = true := by decide +kernel
theorem zp_dd {k a b : Int32} (hk : ∃ q, q < 8 ∧ k = nI q) (ha : zv_L a) (hb : zv_L b) : (k &&& 1 ≠ 0 → a.toInt ≤ (zv_d k a b).toInt) ∧ (k &&& 2 ≠ 0 → 0 ≤ (zv_d k a b).toInt) ∧ (k &&& 4 ≠ 0 → a.toInt - b.toInt + 1 ≤ (zv_d k a b).toInt ∧ 0 ≤ (zv_d k a b).toInt) := by
  obtain ⟨q, hq, rfl⟩ := hk
  obtain ⟨x, x1, x2, rfl⟩ := ha
  obtain ⟨y, y1, y2, rfl⟩ := hb
  have h := zp_dtab
  rw [List.all_eq_true] at h
  have h1 := h q (List.mem_range.mpr hq)
  rw [List.all_eq_true] at h1
  have h2 := h1 x (List.mem_range.mpr (by omega))
  rw [List.all_eq_true] at h2
  have h3 := h2 y (List.mem_range.mpr (by omega))
  rw [Bool.or_eq_true] at h3
  rcases h3 with h4 | h4
  · rw [Bool.or_eq_true, beq_iff_eq, beq_iff_eq] at h4
    omega
  · rw [Bool.and_eq_true, Bool.and_eq_true] at h4
    exact ⟨of_decide_eq_true h4.1.1, of_decide_eq_true h4.1.2, of_decide_eq_true h4.2⟩
theorem zp_kb {op fd fa fb : Nat → Int32} {i j : Nat} : (zv_T op fd fa fb i j → zv_k op fd fa fb i j &&& 1 ≠ 0) ∧ (zv_A op fd fa fb i j → zv_k op fd fa fb i j &&& 2 ≠ 0) ∧ (zv_O op fd i j → zv_k op fd fa fb i j &&& 4 ≠ 0) := by
  unfold zv_k
  by_cases h1 : zv_T op fd fa fb i j
  · by_cases h2 : zv_A op fd fa fb i j
    · by_cases h3 : zv_O op fd i j
      · rw [zv_bt h1, zv_bt h2, zv_bt h3]; exact ⟨fun _ => by decide, fun _ => by decide, fun _ => by decide⟩
      · rw [zv_bt h1, zv_bt h2, zv_bf h3]; exact ⟨fun _ => by decide, fun _ => by decide, fun x => absurd x h3⟩
    · by_cases h3 : zv_O op fd i j
      · rw [zv_bt h1, zv_bf h2, zv_bt h3]; exact ⟨fun _ => by decide, fun x => absurd x h2, fun _ => by decide⟩
      · rw [zv_bt h1, zv_bf h2, zv_bf h3]; exact ⟨fun _ => by decide, fun x => absurd x h2, fun x => absurd x h3⟩
  · by_cases h2 : zv_A op fd fa fb i j
    · by_cases h3 : zv_O op fd i j
      · rw [zv_bf h1, zv_bt h2, zv_bt h3]; exact ⟨fun x => absurd x h1, fun _ => by decide, fun _ => by decide⟩
      · rw [zv_bf h1, zv_bt h2, zv_bf h3]; exact ⟨fun x => absurd x h1, fun _ => by decide, fun x => absurd x h3⟩
    · by_cases h3 : zv_O op fd i j
      · rw [zv_bf h1, zv_bf h2, zv_bt h3]; exact ⟨fun x => absurd x h1, fun x => absurd x h2, fun _ => by decide⟩
      · rw [zv_bf h1, zv_bf h2, zv_bf h3]; exact ⟨fun x => absurd x h1, fun x => absurd x h2, fun x => absurd x h3⟩
theorem zp_iv {op fd fa fb cy st : Nat → Int32} {t : Int32} {pv0 pt0 : Nat → Int32} : ∀ k i, ((i < k ∧ cy i = t → zr_iv op fd fa fb cy st t pv0 k i = zr_val op fd fa fb st i ∧ zr_ip op fd fa fb cy st t pt0 k i = zr_tgt op fd fa fb st i) ∧ (¬ (i < k ∧ cy i = t) → zr_iv op fd fa fb cy st t pv0 k i = pv0 i ∧ zr_ip op fd fa fb cy st t pt0 k i = pt0 i)) := by
  intro k
  induction k with
  | zero => intro i; exact ⟨fun h => absurd h.1 (Nat.not_lt_zero i), fun _ => ⟨rfl, rfl⟩⟩
  | succ k ih =>
    intro i
    have e1 : zr_iv op fd fa fb cy st t pv0 (k + 1) = if cy k = t then upd (zr_iv op fd fa fb cy st t pv0 k) k (zr_val op fd fa fb st k) else zr_iv op fd fa fb cy st t pv0 k := rfl
    have e2 : zr_ip op fd fa fb cy st t pt0 (k + 1) = if cy k = t then upd (zr_ip op fd fa fb cy st t pt0 k) k (zr_tgt op fd fa fb st k) else zr_ip op fd fa fb cy st t pt0 k := rfl
    rw [e1, e2]
    by_cases h : cy k = t
    · rw [if_pos h, if_pos h]
      by_cases x : i = k
      · subst x
        rw [pk_us, pk_us]
        exact ⟨fun _ => ⟨rfl, rfl⟩, fun z => absurd ⟨by omega, h⟩ z⟩
      · rw [pk_un x, pk_un x]
        exact ⟨fun z => (ih i).1 ⟨by omega, z.2⟩, fun z => (ih i).2 fun y => z ⟨by omega, y.2⟩⟩
    · rw [if_neg h, if_neg h]
      refine ⟨fun z => (ih i).1 ⟨?_, z.2⟩, fun z => (ih i).2 fun y => z ⟨by omega, y.2⟩⟩
      by_cases x : i = k
      · subst x; exact absurd z.2 h
      · omega
/-- THE MACHINE KEEPS THE ORDER -/
theorem zp_mach {n : Nat} {ml ll : Int32} {op fd fa fb cy : Nat → Int32} {c la : Nat → Nat} (F : zv_F n op fd fa fb) (L1 : zv_L ml) (L2 : zv_L ll)
    (hc : ∀ i, i < n → cy i = nI (c i) ∧ c i ≤ 63) (hl : ∀ i, i < n → zv_lat ml ll op i = nI (la i) ∧ 1 ≤ la i ∧ la i ≤ 4)
    (hd : ∀ i j, i < j → j < n → 0 ≤ (zv_dl ml ll op fd fa fb i j).toInt → (c i : Int) + (zv_dl ml ll op fd fa fb i j).toInt ≤ (c j : Int)) (st0 pv0 pt0 : Nat → Int32) :
    ∀ t, t ≤ 1000 → (zr_mach ml ll op fd fa fb cy n st0 pv0 pt0 t).1 = zp_R (zp_tg op fd fa fb st0) (zp_vl op fd fa fb st0) st0 (fun i => c i + la i ≤ t) n ∧
      ∀ i, i < n → c i < t → (zr_mach ml ll op fd fa fb cy n st0 pv0 pt0 t).2.1 i = zp_vl op fd fa fb st0 i ∧ (zr_mach ml ll op fd fa fb cy n st0 pv0 pt0 t).2.2 i = zr_tgt op fd fa fb (zr_seq op fd fa fb st0 i) i := by
  have latI : ∀ i, i < n → (zv_lat ml ll op i).toInt = (la i : Int) := fun i hi => by rw [(hl i hi).1, nI_toInt (by have := (hl i hi).2.2; omega)]
  have dT : ∀ i j, i < j → j < n → zv_T op fd fa fb i j → c i + la i ≤ c j := by
    intro i j hij hj h
    have h1 := (zp_dd zv_k8 (zv_latL (op := op) L1 L2 i) (zv_latL (op := op) L1 L2 j)).1 ((zp_kb (op := op) (fd := fd) (fa := fa) (fb := fb)).1 h)
    rw [latI i (by omega)] at h1
    have h2 := hd i j hij hj (by unfold zv_dl; omega)
    unfold zv_dl at h2
    omega
  have dA : ∀ i j, i < j → j < n → zv_A op fd fa fb i j → c i ≤ c j := by
    intro i j hij hj h
    have h1 := (zp_dd zv_k8 (zv_latL (op := op) L1 L2 i) (zv_latL (op := op) L1 L2 j)).2.1 ((zp_kb (op := op) (fd := fd) (fa := fa) (fb := fb)).2.1 h)
    have h2 := hd i j hij hj (by unfold zv_dl; omega)
    unfold zv_dl at h2
    omega
  have dO : ∀ i j, i < j → j < n → zv_O op fd i j → c i + la i + 1 ≤ c j + la j := by
    intro i j hij hj h
    have h1 := (zp_dd zv_k8 (zv_latL (op := op) L1 L2 i) (zv_latL (op := op) L1 L2 j)).2.2 ((zp_kb (op := op) (fd := fd) (fa := fa) (fb := fb)).2.2 h)
    rw [latI i (by omega), latI j hj] at h1
    have h2 := hd i j hij hj (by unfold zv_dl; exact h1.2)
    unfold zv_dl at h2
    omega
  intro t
  induction t with
  | zero =>
    intro _
    refine ⟨?_, fun i _ h => absurd h (Nat.not_lt_zero _)⟩
    show st0 = _
    funext l
    have h := zp_skip (tg := zp_tg op fd fa fb st0) (vl := zp_vl op fd fa fb st0) (st0 := st0) (D := fun i => c i + la i ≤ 0) (l := l) (j := 0) n fun i _ hi _ => by
      have := (hl i (by omega)).2.1
      show ¬ c i + la i ≤ 0
      omega
    rw [Nat.zero_add] at h
    rw [h]
    rfl
  | succ t ih =>
    intro ht
    obtain ⟨i1, i2⟩ := ih (by omega)
    have e0 : zr_mach ml ll op fd fa fb cy n st0 pv0 pt0 (t + 1) =
      (zr_w ml ll op cy (zr_iv op fd fa fb cy (zr_mach ml ll op fd fa fb cy n st0 pv0 pt0 t).1 (nI t) (zr_mach ml ll op fd fa fb cy n st0 pv0 pt0 t).2.1 n) (zr_ip op fd fa fb cy (zr_mach ml ll op fd fa fb cy n st0 pv0 pt0 t).1 (nI t) (zr_mach ml ll op fd fa fb cy n st0 pv0 pt0 t).2.2 n) (nI t) (zr_mach ml ll op fd fa fb cy n st0 pv0 pt0 t).1 n,
      zr_iv op fd fa fb cy (zr_mach ml ll op fd fa fb cy n st0 pv0 pt0 t).1 (nI t) (zr_mach ml ll op fd fa fb cy n st0 pv0 pt0 t).2.1 n,
      zr_ip op fd fa fb cy (zr_mach ml ll op fd fa fb cy n st0 pv0 pt0 t).1 (nI t) (zr_mach ml ll op fd fa fb cy n st0 pv0 pt0 t).2.2 n) := rfl
    generalize zr_mach ml ll op fd fa fb cy n st0 pv0 pt0 t = s at i1 i2 e0
    rw [e0]
    have cyt : ∀ i, i < n → (cy i = nI t ↔ c i = t) := fun i hi => by
      rw [(hc i hi).1]
      exact nI_eq (by have := (hc i hi).2; omega) (by omega)
    have hp : ∀ i, i < n → c i < t + 1 → zr_iv op fd fa fb cy s.1 (nI t) s.2.1 n i = zp_vl op fd fa fb st0 i ∧ zr_ip op fd fa fb cy s.1 (nI t) s.2.2 n i = zr_tgt op fd fa fb (zr_seq op fd fa fb st0 i) i := by
      intro j hj h
      have q := zp_iv (op := op) (fd := fd) (fa := fa) (fb := fb) (cy := cy) (st := s.1) (t := nI t) (pv0 := s.2.1) (pt0 := s.2.2) n j
      by_cases x : c j = t
      · have q1 := q.1 ⟨hj, (cyt j hj).mpr x⟩
        rw [q1.1, q1.2]
        exact zp_same F hj fun l hr => by
          rw [i1, zp_seq]
          refine zp_read (by omega) (fun i hi e => ?_) (fun i hi hin e y => ?_)
          · have := dT i j hi hj (zp_T F st0 (by omega) e hr)
            show c i + la i ≤ t
            omega
          · have y' : c i + la i ≤ t := y
            have := (hl i hin).2.1
            by_cases z : i = j
            · subst z; omega
            · have := dA j i (by omega) hin (zp_A F st0 hin e hr)
              omega
      · have q2 := q.2 fun y => x ((cyt j hj).mp y.2)
        rw [q2.1, q2.2]
        exact i2 j hj (by omega)
    refine ⟨?_, hp⟩
    show zr_w ml ll op cy _ _ (nI t) s.1 n = _
    rw [zp_wR]
    have due : ∀ i, i < n → (cy i + zv_lat ml ll op i - 1 = nI t ↔ c i + la i = t + 1) := by
      intro i hi
      have h1 := hc i hi
      have h2 := hl i hi
      rw [h1.1, h2.1, nI_add, show (1 : Int32) = nI 1 from rfl, pk_sub (by omega), nI_eq (by omega) (by omega)]
      omega
    have e1 : zp_R (fun i => (zr_ip op fd fa fb cy s.1 (nI t) s.2.2 n i).toNatClampNeg) (zr_iv op fd fa fb cy s.1 (nI t) s.2.1 n) s.1 (fun i => cy i + zv_lat ml ll op i - 1 = nI t) n = zp_R (zp_tg op fd fa fb st0) (zp_vl op fd fa fb st0) s.1 (fun i => cy i + zv_lat ml ll op i - 1 = nI t) n := by
      refine zp_cong n fun i hi hD => ?_
      have h1 := (due i hi).mp hD
      have h2 := (hl i hi).2.1
      have h3 := hp i hi (by omega)
      exact ⟨by show (zr_ip _ _ _ _ _ _ _ _ n i).toNatClampNeg = _; rw [h3.2]; rfl, h3.1⟩
    rw [e1, i1, zp_write (fun i hi hD hE => ?_) (fun i j hij hj e h => ?_)]
    · funext l
      refine zp_eq n fun i hi _ => ?_
      show (c i + la i ≤ t ∨ cy i + zv_lat ml ll op i - 1 = nI t) ↔ c i + la i ≤ t + 1
      rw [due i hi]
      omega
    · have hD' : c i + la i ≤ t := hD
      have := (due i hi).mp hE
      omega
    · have h1 := dO i j hij hj (zp_O F st0 (by omega) hj e)
      have h2 : c j + la j ≤ t + 1 := by
        rcases h with h | h
        · have h' : c j + la j ≤ t := h
          omega
        · have := (due j hj).mp h
          omega
      refine ⟨by show c i + la i ≤ t; omega, fun x => ?_⟩
      have := (due i (by omega)).mp x
      omega
theorem zp_done {n : Nat} {ml ll : Int32} {op fd fa fb cy : Nat → Int32} {c la : Nat → Nat} (F : zv_F n op fd fa fb) (L1 : zv_L ml) (L2 : zv_L ll)
    (hc : ∀ i, i < n → cy i = nI (c i) ∧ c i ≤ 63) (hl : ∀ i, i < n → zv_lat ml ll op i = nI (la i) ∧ 1 ≤ la i ∧ la i ≤ 4)
    (hd : ∀ i j, i < j → j < n → 0 ≤ (zv_dl ml ll op fd fa fb i j).toInt → (c i : Int) + (zv_dl ml ll op fd fa fb i j).toInt ≤ (c j : Int)) (st0 pv0 pt0 : Nat → Int32) {t : Nat} (ht : t ≤ 1000) (hT : ∀ i, i < n → c i + la i ≤ t) :
    (zr_mach ml ll op fd fa fb cy n st0 pv0 pt0 t).1 = zr_seq op fd fa fb st0 n := by
  rw [(zp_mach F L1 L2 hc hl hd st0 pv0 pt0 t ht).1, zp_seq]
  funext l
  exact zp_eq n fun i hi _ => ⟨fun _ => trivial, fun _ => hT i hi⟩
/-- states that agree where locations are stay so -/
theorem zp_agree {n : Nat} {op fd fa fb st st' : Nat → Int32} (F : zv_F n op fd fa fb) (h : ∀ l, l < 16 → st l = st' l) : ∀ k, k ≤ n → ∀ l, l < 16 → zr_seq op fd fa fb st k l = zr_seq op fd fa fb st' k l := by
  intro k
  induction k with
  | zero => intro _; exact h
  | succ k ih =>
    intro hk l hl
    have i1 := ih (by omega)
    have e := zp_same F (show k < n by omega) (st := zr_seq op fd fa fb st k) (st' := zr_seq op fd fa fb st' k) (fun l hr => i1 l (by
      rcases hr with hr | hr
      · have := hr.1; omega
      · exact hr.2.1))
    have a1 : zr_seq op fd fa fb st (k + 1) = upd (zr_seq op fd fa fb st k) (zr_tgt op fd fa fb (zr_seq op fd fa fb st k) k).toNatClampNeg (zr_val op fd fa fb (zr_seq op fd fa fb st k) k) := rfl
    have a2 : zr_seq op fd fa fb st' (k + 1) = upd (zr_seq op fd fa fb st' k) (zr_tgt op fd fa fb (zr_seq op fd fa fb st' k) k).toNatClampNeg (zr_val op fd fa fb (zr_seq op fd fa fb st' k) k) := rfl
    rw [a1, a2, e.1, e.2]
    by_cases y : l = (zr_tgt op fd fa fb (zr_seq op fd fa fb st' k) k).toNatClampNeg
    · rw [y, pk_us, pk_us]
    · rw [pk_un y, pk_un y]; exact i1 l hl
theorem zp_fill {ini s : Nat → Int32} : ∀ k l, l < k → zr_fill ini s k l = ini l := by
  intro k
  induction k with
  | zero => intro l hl; exact absurd hl (Nat.not_lt_zero l)
  | succ k ih =>
    intro l hl
    show upd (zr_fill ini s k) k (ini k) l = ini l
    by_cases y : l = k
    · rw [y, pk_us]
    · rw [pk_un y]; exact ih l (by omega)
theorem zp_df {a b : Nat → Int32} : ∀ k, (∀ l, l < k → a l = b l) → zr_df a b k = 0 := by
  intro k
  induction k with
  | zero => intro _; rfl
  | succ k ih =>
    intro h
    show (if a k = b k then zr_df a b k else zr_df a b k + 1) = 0
    rw [if_pos (h k (by omega))]
    exact ih fun l hl => h l (by omega)
end
section
/-! what check's answer says of the cycles -/
theorem zq_T {n : Nat} {ml ll : Int32} {op cy : Nat → Int32} (L1 : zv_L ml) (L2 : zv_L ll) (K : zc_K n cy) (U : ¬ zc_U n cy) : ∀ k, k ≤ n → ∃ T, T ≤ 67 ∧ zr_len ml ll op cy k = nI T ∧ (∀ i, i < k → zI cy i + zv_T1 ml ll op i ≤ (T : Int)) ∧ (T = 0 ∨ ∃ i, i < k ∧ (T : Int) = zI cy i + zv_T1 ml ll op i) := by
  intro k
  induction k with
  | zero => intro _; exact ⟨0, by omega, rfl, fun i hi => absurd hi (Nat.not_lt_zero i), Or.inl rfl⟩
  | succ k ih =>
    intro hk
    obtain ⟨T, hT, e, h1, h2⟩ := ih (by omega)
    have e1 : zr_len ml ll op cy (k + 1) = if cy k + zv_lat ml ll op k ≤ zr_len ml ll op cy k then zr_len ml ll op cy k else cy k + zv_lat ml ll op k := rfl
    rcases K k (by omega) with h | ⟨c, hc, h⟩
    · exact absurd ⟨k, by omega, h⟩ U
    · obtain ⟨a, a1, a2, e2⟩ := zv_latL (op := op) L1 L2 k
      have ec : zI cy k = (c : Int) := by unfold zI; rw [h, nI_toInt (by omega)]
      have ea : zv_T1 ml ll op k = (a : Int) := by unfold zv_T1; rw [e2, nI_toInt (by omega)]
      rw [e1, e, h, e2, nI_add]
      by_cases q : c + a ≤ T
      · rw [if_pos ((nI_leI (by omega) (by omega)).mpr q)]
        refine ⟨T, hT, rfl, lt_s h1 (by rw [ec, ea]; omega), ?_⟩
        rcases h2 with h2 | ⟨i, hi, h2⟩
        · exact Or.inl h2
        · exact Or.inr ⟨i, by omega, h2⟩
      · rw [if_neg (fun z => q ((nI_leI (by omega) (by omega)).mp z))]
        refine ⟨c + a, by omega, rfl, fun i hi => ?_, Or.inr ⟨k, by omega, by rw [ec, ea]; omega⟩⟩
        by_cases y : i = k
        · subst y; rw [ec, ea]; omega
        · have := h1 i (by omega)
          omega
theorem zq_e {cy : Nat → Int32} {i j : Nat} : cy i = cy j ↔ zI cy i = zI cy j := by
  unfold zI
  exact Int32.toInt_inj.symm
theorem zq_un {n : Nat} {op fd fa fb : Nat → Int32} (F : zv_F n op fd fa fb) {i j : Nat} (hi : i < n) (hj : j < n) : (zv_un (op i) = zv_un (op j) ∧ zv_un (op i) ≠ 0) ↔ (((op i = 5 ∨ op i = 6) ∧ (op j = 5 ∨ op j = 6)) ∨ (op i = 4 ∧ op j = 4)) := by
  unfold zv_un
  rcases zv_nI6 (F i hi).1 with o | o | o | o | o | o <;> rcases zv_nI6 (F j hj).1 with p | p | p | p | p | p <;> rw [o, p] <;> decide
theorem zq_V {n T : Nat} {ml ll : Int32} {op fd fa fb cy : Nat → Int32} (F : zv_F n op fd fa fb) (K : zc_K n cy) (U : ¬ zc_U n cy) (hd : ∀ i, i < n → zc_B1 (zv_D ml ll op fd fa fb) (zI cy) n i) (h2 : ¬ zc_V n cy (fun _ => True) 2) (hm : ¬ zc_V n cy (fun j => op j = 5 ∨ op j = 6) 1) (hu : ¬ zc_V n cy (fun j => op j = 4) 1)
    (hT : ∀ i, i < n → zI cy i + zv_T1 ml ll op i ≤ (T : Int)) : qs_V n (zv_T1 ml ll op) (zv_D ml ll op fd fa fb) (fun i => zv_un (op i)) (T : Int) (zI cy) := by
  refine ⟨fun i hi => ⟨?_, hT i hi⟩, fun i j hij hj h => hd i (by omega) j hij hj h, fun i j k hij hjk hk e1 e2 => h2 ⟨i, by omega, ?_⟩, fun i j hij hj e1 e2 => ?_⟩
  · rcases K i hi with h | ⟨c, hc, h⟩
    · exact absurd ⟨i, hi, h⟩ U
    · unfold zI; rw [h, nI_toInt (by omega)]; omega
  · have : 3 ≤ zc_n cy (fun _ => True) i n := qc_three n i j k hij hjk hk ⟨rfl, trivial⟩ ⟨(zq_e.mpr e1).symm, trivial⟩ ⟨(zq_e.mpr (e1.trans e2)).symm, trivial⟩
    omega
  · by_cases z : zv_un (op i) = 0
    · exact z
    · exfalso
      rcases (zq_un F (show i < n by omega) hj).mp ⟨e2, z⟩ with ⟨a, b⟩ | ⟨a, b⟩
      · have : 2 ≤ zc_n cy (fun j => op j = 5 ∨ op j = 6) i n := qc_two n i j hij hj ⟨rfl, a⟩ ⟨(zq_e.mpr e1).symm, b⟩
        exact hm ⟨i, by omega, by omega⟩
      · have : 2 ≤ zc_n cy (fun j => op j = 4) i n := qc_two n i j hij hj ⟨rfl, a⟩ ⟨(zq_e.mpr e1).symm, b⟩
        exact hu ⟨i, by omega, by omega⟩
theorem zq_C {n : Nat} {len : Int} {ml ll : Int32} {op fd fa fb cy : Nat → Int32} (F : zv_F n op fd fa fb) (V : qs_V n (zv_T1 ml ll op) (zv_D ml ll op fd fa fb) (fun i => zv_un (op i)) len (zI cy)) :
    ¬ zc_U n cy ∧ (∀ i, i < n → zc_B1 (zv_D ml ll op fd fa fb) (zI cy) n i) ∧ ¬ zc_V n cy (fun _ => True) 2 ∧ ¬ zc_V n cy (fun j => op j = 5 ∨ op j = 6) 1 ∧ ¬ zc_V n cy (fun j => op j = 4) 1 := by
  refine ⟨fun ⟨i, hi, e⟩ => ?_, fun i hi j hij hj h => V.2.1 i j hij hj h, fun ⟨i, hi, e⟩ => ?_, fun ⟨i, hi, e⟩ => ?_, fun ⟨i, hi, e⟩ => ?_⟩
  · have := (V.1 i hi).1
    rw [zi_m1e.mp e |> (fun z => (show zI cy i = -1 from z))] at this
    omega
  · have : zc_n cy (fun _ => True) i n ≤ 2 := qc_le2 n fun a b c hab hbc hc ea eb ec => V.2.2.1 a b c hab hbc hc (zq_e.mp (ea.1.trans eb.1.symm)) (zq_e.mp (eb.1.trans ec.1.symm))
    omega
  · have : zc_n cy (fun j => op j = 5 ∨ op j = 6) i n ≤ 1 := qc_le1 n fun a b hab hb ea eb => by
      have u := (zq_un F (show a < n by omega) hb).mpr (Or.inl ⟨ea.2, eb.2⟩)
      exact u.2 (V.2.2.2 a b hab hb (zq_e.mp (ea.1.trans eb.1.symm)) u.1)
    omega
  · have : zc_n cy (fun j => op j = 4) i n ≤ 1 := qc_le1 n fun a b hab hb ea eb => by
      have u := (zq_un F (show a < n by omega) hb).mpr (Or.inr ⟨ea.2, eb.2⟩)
      exact u.2 (V.2.2.2 a b hab hb (zq_e.mp (ea.1.trans eb.1.symm)) u.1)
    omega
/-- check answers the length of a valid schedule -/
theorem zq_B {n : Nat} {len : Int} {ml ll : Int32} {op fd fa fb cy : Nat → Int32} (hn : 1 ≤ n) (F : zv_F n op fd fa fb) (V : qs_V n (zv_T1 ml ll op) (zv_D ml ll op fd fa fb) (fun i => zv_un (op i)) len (zI cy)) : zc_ans n (zv_D ml ll op fd fa fb) op cy (zr_len ml ll op cy n) = zr_len ml ll op cy n := by
  obtain ⟨c1, c2, c3, c4, c5⟩ := zq_C F V
  unfold zc_ans
  rw [zc_if (show ¬ n = 0 by omega), zc_if c1, zc_if (fun z => z c2), zc_if c3, zc_if c4, zc_if c5]
/-- a positive answer of check is the length of a valid schedule -/
theorem zq_A {n : Nat} {ml ll : Int32} {op fd fa fb cy : Nat → Int32} {x : Int32} (F : zv_F n op fd fa fb) (L1 : zv_L ml) (L2 : zv_L ll) (K : zc_K n cy) (h : 0 < (zc_ans n (zv_D ml ll op fd fa fb) op cy (zr_len ml ll op cy n)).toInt) :
    ∃ T, T ≤ 67 ∧ zr_len ml ll op cy n = nI T ∧ zc_ans n (zv_D ml ll op fd fa fb) op cy (zr_len ml ll op cy n) = nI T ∧ (∀ i, i < n → zI cy i + zv_T1 ml ll op i ≤ (T : Int)) ∧ qs_V n (zv_T1 ml ll op) (zv_D ml ll op fd fa fb) (fun i => zv_un (op i)) (T : Int) (zI cy) := by
  unfold zc_ans at h ⊢
  by_cases a0 : n = 0
  · rw [zc_it a0] at h; exact absurd h (by decide)
  rw [zc_if a0] at h ⊢
  by_cases a1 : zc_U n cy
  · rw [zc_it a1] at h; exact absurd h (by decide)
  rw [zc_if a1] at h ⊢
  by_cases a2 : ∀ i, i < n → zc_B1 (zv_D ml ll op fd fa fb) (zI cy) n i
  · rw [zc_if (fun z => z a2)] at h ⊢
    by_cases a3 : zc_V n cy (fun _ => True) 2
    · rw [zc_it a3] at h; exact absurd h (by decide)
    rw [zc_if a3] at h ⊢
    by_cases a4 : zc_V n cy (fun j => op j = 5 ∨ op j = 6) 1
    · rw [zc_it a4] at h; exact absurd h (by decide)
    rw [zc_if a4] at h ⊢
    by_cases a5 : zc_V n cy (fun j => op j = 4) 1
    · rw [zc_it a5] at h; exact absurd h (by decide)
    rw [zc_if a5] at h ⊢
    obtain ⟨T, hT, e, h1, _⟩ := zq_T (op := op) L1 L2 K a1 n (Nat.le_refl n)
    exact ⟨T, hT, e, e, h1, zq_V F K a1 a2 a3 a4 a5 h1⟩
  · rw [zc_it a2] at h; exact absurd h (by decide)
/-- a valid schedule's run leaves the same values both ways -/
theorem zq_R {n T : Nat} {len : Int} {ml ll : Int32} {op fd fa fb cy ini seq mac pv pt : Nat → Int32} (F : zv_F n op fd fa fb) (L1 : zv_L ml) (L2 : zv_L ll) (K : zc_K n cy) (hT : T ≤ 67) (h1 : ∀ i, i < n → zI cy i + zv_T1 ml ll op i ≤ (T : Int)) (V : qs_V n (zv_T1 ml ll op) (zv_D ml ll op fd fa fb) (fun i => zv_un (op i)) len (zI cy)) {S M V' P : Nat → Int32}
    (eS : S = zr_seq op fd fa fb (zr_fill ini seq 16) n) (eM : (M, V', P) = zr_mach ml ll op fd fa fb cy n (zr_fill ini mac 16) pv pt T) : ∀ l, l < 16 → S l = M l := by
  have cN : ∀ i, i < n → cy i = nI (zI cy i).toNat ∧ (zI cy i).toNat ≤ 63 := by
    intro i hi
    have h0 := (V.1 i hi).1
    have h2 := zc_cyr K hi
    refine ⟨?_, by omega⟩
    have := zh_nI (x := cy i) h0
    exact this
  have lN' : ∀ i, i < n → zv_lat ml ll op i = nI (zv_T1 ml ll op i).toNat ∧ 1 ≤ (zv_T1 ml ll op i).toNat ∧ (zv_T1 ml ll op i).toNat ≤ 4 := by
    intro i hi
    have h2 := zv_Tr (op := op) L1 L2 i
    exact ⟨zh_nI (x := zv_lat ml ll op i) (by unfold zv_T1 at h2; omega), by omega, by omega⟩
  have D := zp_done F L1 L2 cN lN' (fun i j hij hj h => by
    have a := V.2.1 i j hij hj h
    have b := (V.1 i (by omega)).1
    have c := (V.1 j hj).1
    unfold zv_D at a
    omega) (zr_fill ini mac 16) pv pt (t := T) (by omega) (fun i hi => by
    have a := h1 i hi
    have b := (V.1 i hi).1
    have c := zv_Tr (op := op) L1 L2 i
    omega)
  intro l hl
  have eM1 : M = (zr_mach ml ll op fd fa fb cy n (zr_fill ini mac 16) pv pt T).1 := by rw [← eM]
  rw [eM1, D, eS]
  exact zp_agree F (fun l hl => by rw [zp_fill 16 l hl, zp_fill 16 l hl]) n (Nat.le_refl n) l hl
end
section
/-! the law's own helpers, and the calls that it makes -/
theorem zw_cell {post : Int32 → Prop} {L k : Nat} {xs : Nat → Int32} (hL : L ≤ 260) (hk : k ≤ 1000) (h : ∀ v, post v) : wpL_cell post L xs () (nI k) := by
  unfold wpL_cell
  exact pk_le L k (fun _ => h 0) (fun q => ⟨vp_in_nI q (by omega), h _⟩)
theorem zw_m {post : Int32 → Prop} {x y : Int32} {m : Nat} (hy : y = nI m) (hm0 : 0 < m) (hm : m ≤ 100) (h : ∀ r, r < m → post (nI r)) : wpL_m post () x y := by
  subst hy
  have hne : ¬ nI m = 0 := nI_ne0 hm0 (by omega)
  refine ⟨hne, hne, ?_⟩
  have hmI : (nI m).toInt = (m : Int) := nI_toInt (by omega)
  have t1 : (x - x / nI m * nI m).toInt = x.toInt.tmod (m : Int) := by rw [rem_toInt, hmI]
  have t2 := tmod_bounds (a := x.toInt) (M := (m : Int)) (by omega)
  have t3 : (x - x / nI m * nI m + nI m).toInt = x.toInt.tmod (m : Int) + (m : Int) := zi_add t1 hmI (by omega) (by omega)
  have t4 := zh_nI (x := x - x / nI m * nI m + nI m) (by omega)
  generalize x - x / nI m * nI m + nI m = z at t3 t4 ⊢
  rw [t4, pk_rem (by omega) hm0 (by omega)]
  exact h _ (Nat.mod_lt _ hm0)
theorem qc_up {p : Nat → Prop} {i : Nat} : ∀ d, qc_n p i ≤ qc_n p (i + d) := by
  intro d
  induction d with
  | zero => exact Nat.le_refl _
  | succ d ih =>
    by_cases h : p (i + d)
    · rw [show i + (d + 1) = i + d + 1 from rfl, qc_t h]; omega
    · rw [show i + (d + 1) = i + d + 1 from rfl, qc_f h]; exact ih
section
variable {ml ll fn : Int32} {op fd fa fb uo cy ini seq mac pv pt wa tr ea la pl ri : Nat → Int32}
theorem xa_add {post : Int32 → St2 → Prop} {i : Nat} {o d a b : Int32} (hi : i < 10) (w : zl_wf o d a b) (h : post (nI i) (ml, ll, nI (i + 1), upd op i o, upd fd i d, upd fa i a, upd fb i b, upd uo i (nI (zv_un o)), upd cy i (-1), ini, seq, mac, pv, pt, wa, tr, ea, la, pl, ri)) : wpX_addInstr post (ml, ll, nI i, op, fd, fa, fb, uo, cy, ini, seq, mac, pv, pt, wa, tr, ea, la, pl, ri) o d a b := by
  have hin : vp_in (nI i) 10 := vp_in_nI hi (by omega)
  unfold wpX_addInstr
  dsimp only
  refine br_f (nI_ge (b := 10) hi (by decide)) (zl_wfX (fun w' => absurd w w') (fun _ => br_f (by decide) ?_))
  rw [nI_clamp (show i < 2 ^ 31 by omega)]
  exact ⟨hin, nm_e ⟨hin, nm_e ⟨hin, nm_e ⟨hin, nm_e (zl_unit ⟨hin, nm_e ⟨hin, nm_e (nm_r (nI_1 i) h)⟩⟩)⟩⟩⟩⟩
theorem xa_set {post : Int32 → St2 → Prop} {j : Nat} {v : Int32} (hj : j < 16) (h : post 1 (ml, ll, fn, op, fd, fa, fb, uo, cy, upd ini j v, seq, mac, pv, pt, wa, tr, ea, la, pl, ri)) : wpX_setInit post (ml, ll, fn, op, fd, fa, fb, uo, cy, ini, seq, mac, pv, pt, wa, tr, ea, la, pl, ri) (nI j) v := by
  unfold wpX_setInit
  dsimp only
  refine zl_loc (fun a => ?_) (fun j' hj' e => br_f (by decide) ⟨vp_in_nI hj (by omega), nm_e ?_⟩)
  · exfalso
    rcases a with a | a
    · exact nI_pos (by omega) a
    · exact nI_ge (b := 16) hj (by decide) a
  · rw [nI_clamp (show j < 2 ^ 31 by omega)]; exact h
theorem xa_cyc {post : Int32 → St2 → Prop} {n i c : Nat} (n10 : n ≤ 10) (hi : i < n) (hc : c ≤ 63) (h : post 1 (ml, ll, nI n, op, fd, fa, fb, uo, upd cy i (nI c), ini, seq, mac, pv, pt, wa, tr, ea, la, pl, ri)) : wpX_setCycle post (ml, ll, nI n, op, fd, fa, fb, uo, cy, ini, seq, mac, pv, pt, wa, tr, ea, la, pl, ri) (nI i) (nI c) := by
  unfold wpX_setCycle
  dsimp only
  refine zl_ins n10 (fun a => absurd a (nI_pos (by omega))) (fun _ a => absurd a (nI_ge hi (by omega))) (fun _ _ _ => br_f (by decide) (br_f (fun z => ?_) (br_t (nI_lt (b := 64) (by omega) (by decide)) ⟨vp_in_nI (by omega) (by omega), nm_e ?_⟩)))
  · rw [Int32.lt_iff_toInt_lt, nI_toInt (by omega), zi_m1] at z
    omega
  · rw [nI_clamp (show i < 2 ^ 31 by omega)]; exact h
theorem xa_of {post : Int32 → Prop} {n i : Nat} (n10 : n ≤ 10) (hi : i < n) (h : post (cy i)) : wpX_cycleOf post (ml, ll, nI n, op, fd, fa, fb, uo, cy, ini, seq, mac, pv, pt, wa, tr, ea, la, pl, ri) (nI i) := by
  unfold wpX_cycleOf
  dsimp only
  refine zl_ins n10 (fun a => absurd a (nI_pos (by omega))) (fun _ a => absurd a (nI_ge hi (by omega))) (fun _ _ _ => br_f (by decide) ⟨vp_in_nI (by omega) (by omega), ?_⟩)
  rw [nI_clamp (show i < 2 ^ 31 by omega)]; exact h
theorem xa_sv {post : Int32 → Prop} {l : Nat} (hl : l < 16) (h : post (seq l)) : wpX_seqValue post (ml, ll, fn, op, fd, fa, fb, uo, cy, ini, seq, mac, pv, pt, wa, tr, ea, la, pl, ri) (nI l) := by
  unfold wpX_seqValue
  dsimp only
  refine zl_loc (fun a => ?_) (fun _ _ _ => br_f (by decide) ⟨vp_in_nI hl (by omega), ?_⟩)
  · exfalso
    rcases a with a | a
    · exact nI_pos (by omega) a
    · exact nI_ge (b := 16) hl (by decide) a
  · rw [nI_clamp (show l < 2 ^ 31 by omega)]; exact h
theorem xa_mv {post : Int32 → Prop} {l : Nat} (hl : l < 16) (h : post (mac l)) : wpX_machValue post (ml, ll, fn, op, fd, fa, fb, uo, cy, ini, seq, mac, pv, pt, wa, tr, ea, la, pl, ri) (nI l) := by
  unfold wpX_machValue
  dsimp only
  refine zl_loc (fun a => ?_) (fun _ _ _ => br_f (by decide) ⟨vp_in_nI hl (by omega), ?_⟩)
  · exfalso
    rcases a with a | a
    · exact nI_pos (by omega) a
    · exact nI_ge (b := 16) hl (by decide) a
  · rw [nI_clamp (show l < 2 ^ 31 by omega)]; exact h
theorem xa_same {post : Int32 → Prop} (h : ∀ l, l < 16 → seq l = mac l) (hp : post 1) : wpL_sameResults post (ml, ll, fn, op, fd, fa, fb, uo, cy, ini, seq, mac, pv, pt, wa, tr, ea, la, pl, ri) := by
  unfold wpL_sameResults
  dsimp only
  have key := loop_0 (fun m l (_ : Unit) => wL_sameResults_2 post ml ll fn op fd fa fb uo cy ini seq mac pv pt wa tr ea la pl ri m (nI l)) (fun _ _ => True) 16 () trivial (fun m _ _ => ?_) (fun m l _ hl _ ih => ?_)
  · exact key
  · exact br_t (nI_le (b := 16) (Nat.le_refl 16) (by decide)) hp
  · exact br_f (nI_ge (b := 16) hl (by decide)) (xa_sv hl (xa_mv hl (br_t (h l hl) (nm_r (nI_1 l) (ih () trivial)))))
theorem xa_bun {post : Int32 → Prop} {n t : Nat} (n10 : n ≤ 10) (ht : t < 64) (h : qc_n (fun j => cy j = nI t) n ≤ 2) (hp : post (-1)) : wpX_bundleAt post (ml, ll, nI n, op, fd, fa, fb, uo, cy, ini, seq, mac, pv, pt, wa, tr, ea, la, pl, ri) (nI t) 2 := by
  unfold wpX_bundleAt
  dsimp only
  refine br_f (nI_pos (by omega)) (br_f (nI_ge (b := 64) ht (by decide)) (br_t (by decide) ?_))
  have key := loop_0 (fun m i (s : Nat) => wX_bundleAt_21 post (nI t) 2 ml ll (nI n) op fd fa fb uo cy ini seq mac pv pt wa tr ea la pl ri m (nI s) (nI i)) (fun i s => s = qc_n (fun j => cy j = nI t) i) n 0 rfl (fun m s I => ?_) (fun m i s hi I ih => ?_)
  · exact key
  · exact br_t (nI_le (Nat.le_refl n) (by omega)) hp
  · refine br_f (nI_ge hi (by omega)) ⟨vp_in_nI (by omega) (by omega), ?_⟩
    rw [nI_clamp (show i < 2 ^ 31 by omega)]
    by_cases c : cy i = nI t
    · have e1 := qc_t (p := fun j => cy j = nI t) c
      have e2 := qc_up (p := fun j => cy j = nI t) (i := i + 1) (n - (i + 1))
      rw [show i + 1 + (n - (i + 1)) = n by omega] at e2
      refine br_t c (pk_eq s 2 (fun z => by omega) (fun _ => nm_r (nI_1 s) (nm_r (nI_1 i) (ih (s + 1) (by rw [e1, I])))))
    · exact br_f c (nm_r (nI_1 i) (ih s (by rw [qc_f (p := fun j => cy j = nI t) c]; exact I)))
end
end
section
/-! the law's loops, from the last to the first -/
section
variable {ml ll fn : Int32} {op fd fa fb uo cy ini seq mac pv pt wa tr ea la pl ri : Nat → Int32} {ml2 ll2 fn2 : Int32} {op2 fd2 fa2 fb2 uo2 cy2 ini2 seq2 mac2 pv2 pt2 wa2 tr2 ea2 la2 pl2 ri2 : Nat → Int32} {post : Int32 → Prop} {L n S : Nat} {xs : Nat → Int32} {kc ks : Nat}
/-- the block, as both objects hold it -/
def zw_P (n S : Nat) (ml ll : Int32) (op fd fa fb uo : Nat → Int32) : Prop :=
  1 ≤ n ∧ n ≤ 10 ∧ zv_F n op fd fa fb ∧ zv_L ml ∧ zv_L ll ∧ (∀ i, i < n → uo i = nI (zv_un (op i))) ∧ S ≤ 40 ∧ (∀ len : Int, len < (S : Int) → ∀ c, ¬ qs_V n (zv_T1 ml ll op) (zv_D ml ll op fd fa fb) (fun i => zv_un (op i)) len c)
theorem zw_404 {J385 : Int32 → Int32 → Int32 → Int32 → Int32 → (Nat → Int32) → (Nat → Int32) → (Nat → Int32) → (Nat → Int32) → (Nat → Int32) → (Nat → Int32) → (Nat → Int32) → (Nat → Int32) → (Nat → Int32) → (Nat → Int32) → (Nat → Int32) → (Nat → Int32) → (Nat → Int32) → (Nat → Int32) → (Nat → Int32) → (Nat → Int32) → (Nat → Int32) → Int32 → Int32 → Int32 → (Nat → Int32) → (Nat → Int32) → (Nat → Int32) → (Nat → Int32) → (Nat → Int32) → (Nat → Int32) → (Nat → Int32) → (Nat → Int32) → (Nat → Int32) → (Nat → Int32) → (Nat → Int32) → (Nat → Int32) → (Nat → Int32) → (Nat → Int32) → (Nat → Int32) → (Nat → Int32) → (Nat → Int32) → Prop} {k r : Nat} {x10 : Int32} (hL : L ≤ 260) (P : zw_P n S ml ll op fd fa fb uo) (hb : ∀ i, i < n → ∃ c, c ≤ 40 ∧ cy2 i = nI c)
    (hJ : ∀ k', k' ≤ k + n → ∀ cy seq mac pv pt : Nat → Int32, J385 (nI k') (nI (r + 1)) ml ll (nI n) op fd fa fb uo cy ini seq mac pv pt wa tr ea la pl ri ml2 ll2 (nI n) op2 fd2 fa2 fb2 uo2 cy2 ini2 seq2 mac2 pv2 pt2 wa2 tr2 ea2 la2 pl2 ri2) :
    ∀ d i k1, i + d = n → k1 ≤ k + i → k ≤ 200 → ∀ cy : Nat → Int32, (∀ j, j < i → ∃ c, c ≤ 63 ∧ cy j = nI c) → wL_law_404 post L xs J385 (nI n) (nI S) (nI r) x10 kc ks (d + 1) (nI k1) (nI i) ml ll (nI n) op fd fa fb uo cy ini seq mac pv pt wa tr ea la pl ri ml2 ll2 (nI n) op2 fd2 fa2 fb2 uo2 cy2 ini2 seq2 mac2 pv2 pt2 wa2 tr2 ea2 la2 pl2 ri2 := by
  obtain ⟨n1, n10, F, L1, L2, U, S40, hno⟩ := P
  intro d
  induction d with
  | zero =>
    intro i k1 hi hk1 hk cy hcy
    have e : i = n := by omega
    subst e
    have K : zc_K i cy := fun j hj => Or.inr (hcy j hj)
    refine br_t (nI_le (Nat.le_refl i) (by omega)) (xc_check n10 F L1 L2 K U ?_)
    generalize hx : zc_ans i (zv_D ml ll op fd fa fb) op cy (zr_len ml ll op cy i) = x
    refine zi_bl (show x.toInt = x.toInt from rfl) zi_0 (fun _ => nm_r (nI_1 r) (hJ k1 (by omega) cy seq mac pv pt)) (fun q => ?_)
    obtain ⟨T, hT, eT, eA, h1, V⟩ := zq_A (x := x) F L1 L2 K (by rw [hx]; exact q)
    rw [hx] at eA
    have hST : S ≤ T := by
      by_cases z : S ≤ T
      · exact z
      · exact absurd V (hno (T : Int) (by omega) _)
    refine br_t (by rw [eA]; exact nI_le hST (by omega)) (xr_run n10 F L1 L2 K (fun z => ?_) (fun _ nU T' hT' eT' S' M' V' P' eS eM => ?_))
    · exfalso
      rcases z with z | z
      · omega
      · exact (zq_C F V).1 z
    · have eTT : T' = T := (nI_eq (by omega) (by omega)).mp (eT'.symm.trans eT)
      subst eTT
      have same := zq_R F L1 L2 K hT h1 V eS eM
      refine br_t (zp_df 16 same) (xa_same same (br_f (by decide) (nm_r (nI_1 r) (hJ k1 (by omega) cy S' M' V' P'))))
  | succ d ih =>
    intro i k1 hi hk1 hk cy hcy
    have set : ∀ c, c ≤ 63 → wL_law_483 post L xs J385 (wL_law_404 post L xs J385 (nI n) (nI S) (nI r) x10 kc ks (d + 1)) (nI (k1 + 1)) (nI n) (nI S) (nI r) x10 (nI i) (nI c) kc ks ml ll (nI n) op fd fa fb uo cy ini seq mac pv pt wa tr ea la pl ri ml2 ll2 (nI n) op2 fd2 fa2 fb2 uo2 cy2 ini2 seq2 mac2 pv2 pt2 wa2 tr2 ea2 la2 pl2 ri2 := by
      intro c hc
      unfold wL_law_483
      refine xa_cyc n10 (by omega) hc (nm_r (nI_1 i) (ih (i + 1) (k1 + 1) (by omega) (by omega) hk _ (fun j hj => ?_)))
      by_cases y : j = i
      · subst y; exact ⟨c, hc, by rw [pk_us]⟩
      · rw [pk_un y]; exact hcy j (by omega)
    have off : ∀ z : Nat, z ≤ 3 → wL_law_469 post L xs J385 (wL_law_404 post L xs J385 (nI n) (nI S) (nI r) x10 kc ks (d + 1)) (nI (k1 + 1)) (nI n) (nI S) (nI r) x10 (nI i) (nI z) kc ks ml ll (nI n) op fd fa fb uo cy ini seq mac pv pt wa tr ea la pl ri ml2 ll2 (nI n) op2 fd2 fa2 fb2 uo2 cy2 ini2 seq2 mac2 pv2 pt2 wa2 tr2 ea2 la2 pl2 ri2 := by
      intro z hz
      unfold wL_law_469
      obtain ⟨c, hc, e⟩ := hb i (by omega)
      refine xa_of (n := n) n10 (by omega) ?_
      rw [e]
      exact nm_r (nI_add c z) (set (c + z) (by omega))
    refine br_f (nI_ge (by omega) (by omega)) (nm_r (nI_1 k1) (zw_cell hL (by omega) (fun v => zw_m (m := 2) rfl (by decide) (by decide) (fun q hq => ?_))))
    refine pk_eq q 0 (fun _ => zw_m (m := 2 * n + 2) ?_ (by omega) (by omega) (fun c hc => set c (by omega))) (fun _ => zw_m (m := 8) rfl (by decide) (by decide) (fun c hc => ?_))
    · rw [show (2 : Int32) = nI 2 from rfl, pk_mul, nI_add]
    · refine pk_le 5 c (fun h5 => ?_) (fun _ => off 0 (by omega))
      rw [show nI c - 4 = nI (c - 4) by rw [show (4 : Int32) = nI 4 from rfl, pk_sub (by omega)]]
      exact off (c - 4) (by omega)
theorem zw_385 (hL : L ≤ 260) (P : zw_P n S ml ll op fd fa fb uo) (hb : ∀ i, i < n → ∃ c, c ≤ 40 ∧ cy2 i = nI c) (hp : post 1) :
    ∀ d r k, r + d = 3 → k ≤ 100 + 11 * r → ∀ cy seq mac pv pt : Nat → Int32, wL_law_385 post L xs (nI n) (nI S) kc ks (d + 1) (nI k) (nI r) ml ll (nI n) op fd fa fb uo cy ini seq mac pv pt wa tr ea la pl ri ml2 ll2 (nI n) op2 fd2 fa2 fb2 uo2 cy2 ini2 seq2 mac2 pv2 pt2 wa2 tr2 ea2 la2 pl2 ri2 := by
  have n10 := P.2.1
  intro d
  induction d with
  | zero =>
    intro r k hr hk cy seq mac pv pt
    have e : r = 3 := by omega
    subst e
    exact br_t (nI_le (b := 3) (a := 3) (Nat.le_refl 3) (by decide)) hp
  | succ d ih =>
    intro r k hr hk cy seq mac pv pt
    refine br_f (nI_ge (b := 3) (by omega) (by decide)) (nm_r (nI_1 k) (zw_cell hL (by omega) (fun v => ⟨n + 1, ?_⟩)))
    exact zw_404 (k := k + 1) hL P hb (fun k' hk' cy' seq' mac' pv' pt' => ih (r + 1) k' (by omega) (by omega) cy' seq' mac' pv' pt') n 0 (k + 1) (by omega) (by omega) (by omega) cy (fun j hj => absurd hj (Nat.not_lt_zero j))
end
end
section
section
variable {ml ll fn : Int32} {op fd fa fb uo cy ini seq mac pv pt wa tr ea la pl ri : Nat → Int32} {ml2 ll2 fn2 : Int32} {op2 fd2 fa2 fb2 uo2 cy2 ini2 seq2 mac2 pv2 pt2 wa2 tr2 ea2 la2 pl2 ri2 : Nat → Int32} {post : Int32 → Prop} {L n S : Nat} {xs : Nat → Int32} {kc ks : Nat}
theorem zw_335 {k : Nat} (hL : L ≤ 260) (P : zw_P n S ml ll op fd fa fb uo) (hk : k ≤ 100) (V : qs_V n (zv_T1 ml ll op) (zv_D ml ll op fd fa fb) (fun i => zv_un (op i)) (S : Int) (zI cy2)) (hp : post 1) :
    ∃ m, wL_law_335 post L xs (nI k) (nI n) (nI S) kc ks ml ll (nI n) op fd fa fb uo cy ini seq mac pv pt wa tr ea la pl ri ml ll (nI n) op fd fa fb uo cy2 ini2 seq2 mac2 pv2 pt2 wa2 tr2 ea2 la2 pl2 ri2 m 0 := by
  have P' := P
  obtain ⟨n1, n10, F, L1, L2, U, S40, hno⟩ := P
  have hb : ∀ i, i < n → ∃ c, c ≤ 40 ∧ cy2 i = nI c := by
    intro i hi
    have h1 := V.1 i hi
    have h2 := zv_Tr (op := op) L1 L2 i
    have h3 : zI cy2 i = (cy2 i).toInt := rfl
    exact ⟨(cy2 i).toInt.toNat, by omega, zh_nI h1.1⟩
  have K : zc_K n cy2 := fun i hi => by
    obtain ⟨c, hc, e⟩ := hb i hi
    exact Or.inr ⟨c, by omega, e⟩
  have key := loop_0 (fun m t (_ : Unit) => wL_law_335 post L xs (nI k) (nI n) (nI S) kc ks ml ll (nI n) op fd fa fb uo cy ini seq mac pv pt wa tr ea la pl ri ml ll (nI n) op fd fa fb uo cy2 ini2 seq2 mac2 pv2 pt2 wa2 tr2 ea2 la2 pl2 ri2 m (nI t)) (fun _ _ => True) 64 () trivial (fun m _ _ => ?_) (fun m t _ ht _ ih => ?_)
  · exact key
  · refine br_t (nI_le (b := 64) (Nat.le_refl 64) (by decide)) (xr_run n10 F L1 L2 K (fun z => ?_) (fun _ nU T hT eT S' M' V' Q' eS eM => ?_))
    · exfalso
      rcases z with z | z
      · omega
      · exact (zq_C F V).1 z
    · obtain ⟨T2, hT2, eT2, h1, _⟩ := zq_T (op := op) L1 L2 K nU n (Nat.le_refl n)
      have eTT : T2 = T := (nI_eq (by omega) (by omega)).mp (eT2.symm.trans eT)
      subst eTT
      have same := zq_R F L1 L2 K hT h1 V eS eM
      exact br_t (zp_df 16 same) (xa_same same (br_f (by decide) ⟨4, zw_385 hL P' hb hp 3 0 k (by omega) (by omega) cy seq mac pv pt⟩))
  · refine br_f (nI_ge (b := 64) ht (by decide)) (xa_bun n10 ht ?_ (br_t rfl (nm_r (nI_1 t) (ih () trivial))))
    refine qc_le2 n fun a b c hab hbc hc ea eb ec => V.2.2.1 a b c hab hbc hc (zq_e.mp (ea.trans eb.symm)) (zq_e.mp (eb.trans ec.symm))
theorem zw_246 (hL : L ≤ 260) (n1 : 1 ≤ n) (n10 : n ≤ 10) (F : zv_F n op fd fa fb) (L1 : zv_L ml) (L2 : zv_L ll) (U : ∀ i, i < n → uo i = nI (zv_un (op i))) (hp : post 1) :
    ∀ d l k, l + d = 16 → k ≤ 50 + l → ∀ ini ini2 : Nat → Int32, wL_law_246 post L xs (nI n) kc ks (d + 1) (nI k) (nI l) ml ll (nI n) op fd fa fb uo cy ini seq mac pv pt wa tr ea la pl ri ml ll (nI n) op fd fa fb uo cy2 ini2 seq2 mac2 pv2 pt2 wa2 tr2 ea2 la2 pl2 ri2 := by
  intro d
  induction d with
  | zero =>
    intro l k hl hk ini ini2
    have e : l = 16 := by omega
    subst e
    refine br_t (nI_le (b := 16) (a := 16) (Nat.le_refl 16) (by decide)) ?_
    unfold wpX_criticalPath
    dsimp only
    refine xw_4 n10 F L1 L2 (fun wa1 ea1 x IX RX hx => ?_)
    refine xh_sched n10 F L1 L2 U (fun e => by omega) (fun _ S hS hV hno cy3 wa3 tr3 ea3 la3 pl3 ri3 X hk3 => ?_)
    have V : qs_V n (zv_T1 ml ll op) (zv_D ml ll op fd fa fb) (fun i => zv_un (op i)) (S : Int) (zI cy3) := X.1
    have hno : ∀ len : Int, len < (S : Int) → ∀ c, ¬ qs_V n (zv_T1 ml ll op) (zv_D ml ll op fd fa fb) (fun i => zv_un (op i)) len c := hno
    have IX : xw_I (zv_D ml ll op fd fa fb) (xw_W ml ll op fd fa fb uo) n wa1 ea1 := IX
    have RX : qh_R (zv_T1 ml ll op) (zI ea1) n x.toInt := RX
    have hb : ∀ i, i < n → ∃ c, c ≤ 40 ∧ cy3 i = nI c := by
      intro i hi
      have h1 := V.1 i hi
      have h2 := zv_Tr (op := op) L1 L2 i
      have h3 : zI cy3 i = (cy3 i).toInt := rfl
      exact ⟨(cy3 i).toInt.toNat, by omega, zh_nI h1.1⟩
    have K : zc_K n cy3 := fun i hi => by
      obtain ⟨c, hc, e⟩ := hb i hi
      exact Or.inr ⟨c, by omega, e⟩
    have nU := (zq_C F V).1
    obtain ⟨T, hT, eT, h1, h2⟩ := zq_T (op := op) L1 L2 K nU n (Nat.le_refl n)
    obtain ⟨c1, c2, c3, c4, c5⟩ := zq_C F V
    have VT := zq_V (T := T) F K c1 c2 c3 c4 c5 h1
    have eTS : T = S := by
      have a1 : S ≤ T := by
        by_cases z : S ≤ T
        · exact z
        · exact absurd VT (hno (T : Int) (by omega) _)
      rcases h2 with h2 | ⟨i, hi, h2⟩
      · omega
      · have := (V.1 i hi).2
        omega
    subst eTS
    have hcp : x ≤ nI T := by
      rw [Int32.le_iff_toInt_le, nI_toInt (by omega)]
      have hh := qx_head IX.1 V
      rcases RX.2.2 with y | ⟨i, hi, y⟩
      · omega
      · have := hh i hi
        omega
    refine br_t hcp (xc_check n10 F L1 L2 K U (br_t ?_ ?_))
    · rw [zq_B n1 F V, eT]
    · exact zw_335 hL ⟨n1, n10, F, L1, L2, U, hS, hno⟩ (by omega) V hp
  | succ d ih =>
    intro l k hl hk ini ini2
    refine br_f (nI_ge (b := 16) (by omega) (by decide)) (nm_r (nI_1 k) (zw_cell hL (by omega) (fun v => zw_m (m := 41) rfl (by decide) (by decide) (fun q hq => nm_e ?_))))
    exact xa_set (by omega) (xa_set (by omega) (nm_r (nI_1 l) (ih (l + 1) (k + 1) (by omega) (by omega) _ _)))
theorem zw_209 {J74 : Int32 → Int32 → Int32 → Int32 → Int32 → (Nat → Int32) → (Nat → Int32) → (Nat → Int32) → (Nat → Int32) → (Nat → Int32) → (Nat → Int32) → (Nat → Int32) → (Nat → Int32) → (Nat → Int32) → (Nat → Int32) → (Nat → Int32) → (Nat → Int32) → (Nat → Int32) → (Nat → Int32) → (Nat → Int32) → (Nat → Int32) → (Nat → Int32) → Int32 → Int32 → Int32 → (Nat → Int32) → (Nat → Int32) → (Nat → Int32) → (Nat → Int32) → (Nat → Int32) → (Nat → Int32) → (Nat → Int32) → (Nat → Int32) → (Nat → Int32) → (Nat → Int32) → (Nat → Int32) → (Nat → Int32) → (Nat → Int32) → (Nat → Int32) → (Nat → Int32) → (Nat → Int32) → (Nat → Int32) → Prop} {k i : Nat} {o d a b : Int32} (hi : i < 10) (w : zl_wf o d a b)
    (hJ : J74 (nI k) (nI (i + 1)) ml ll (nI (i + 1)) (upd op i o) (upd fd i d) (upd fa i a) (upd fb i b) (upd uo i (nI (zv_un o))) (upd cy i (-1)) ini seq mac pv pt wa tr ea la pl ri ml ll (nI (i + 1)) (upd op i o) (upd fd i d) (upd fa i a) (upd fb i b) (upd uo i (nI (zv_un o))) (upd cy2 i (-1)) ini2 seq2 mac2 pv2 pt2 wa2 tr2 ea2 la2 pl2 ri2) :
    wL_law_209 post L xs J74 (nI k) (nI n) (nI i) o d a b kc ks ml ll (nI i) op fd fa fb uo cy ini seq mac pv pt wa tr ea la pl ri ml ll (nI i) op fd fa fb uo cy2 ini2 seq2 mac2 pv2 pt2 wa2 tr2 ea2 la2 pl2 ri2 := by
  unfold wL_law_209
  exact xa_add hi w (xa_add hi w (nm_r (nI_1 i) hJ))
theorem zw_155 {J74 : Int32 → Int32 → Int32 → Int32 → Int32 → (Nat → Int32) → (Nat → Int32) → (Nat → Int32) → (Nat → Int32) → (Nat → Int32) → (Nat → Int32) → (Nat → Int32) → (Nat → Int32) → (Nat → Int32) → (Nat → Int32) → (Nat → Int32) → (Nat → Int32) → (Nat → Int32) → (Nat → Int32) → (Nat → Int32) → (Nat → Int32) → (Nat → Int32) → Int32 → Int32 → Int32 → (Nat → Int32) → (Nat → Int32) → (Nat → Int32) → (Nat → Int32) → (Nat → Int32) → (Nat → Int32) → (Nat → Int32) → (Nat → Int32) → (Nat → Int32) → (Nat → Int32) → (Nat → Int32) → (Nat → Int32) → (Nat → Int32) → (Nat → Int32) → (Nat → Int32) → (Nat → Int32) → (Nat → Int32) → Prop} {k i o dd : Nat} {a : Int32} (hL : L ≤ 260) (hk : k ≤ 900) (hi : i < 10) (ho : 1 ≤ o) (ho6 : o ≤ 6) (hd : dd < 8) (ha : o = 1 ∨ zl_rg a)
    (hJ : ∀ b, zl_wf (nI o) (nI dd) a b → J74 (nI (k + 1)) (nI (i + 1)) ml ll (nI (i + 1)) (upd op i (nI o)) (upd fd i (nI dd)) (upd fa i a) (upd fb i b) (upd uo i (nI (zv_un (nI o)))) (upd cy i (-1)) ini seq mac pv pt wa tr ea la pl ri ml ll (nI (i + 1)) (upd op i (nI o)) (upd fd i (nI dd)) (upd fa i a) (upd fb i b) (upd uo i (nI (zv_un (nI o)))) (upd cy2 i (-1)) ini2 seq2 mac2 pv2 pt2 wa2 tr2 ea2 la2 pl2 ri2) :
    wL_law_155 post L xs J74 (nI k) (nI n) (nI i) (nI o) (nI dd) a kc ks ml ll (nI i) op fd fa fb uo cy ini seq mac pv pt wa tr ea la pl ri ml ll (nI i) op fd fa fb uo cy2 ini2 seq2 mac2 pv2 pt2 wa2 tr2 ea2 la2 pl2 ri2 := by
  have rg : ∀ q, q < 8 → zl_rg (nI q) := fun q hq => ⟨nI_pos (by omega), nI_le (b := 7) (by omega) (by decide)⟩
  have wf : ∀ b, (o = 1 ∨ o = 5 ∨ o = 6 ∨ zl_rg b) → zl_wf (nI o) (nI dd) a b := by
    intro b hb
    refine ⟨fun z => ?_, nI_le (b := 6) (by omega) (by decide), rg dd hd, ?_⟩
    · rw [show (1 : Int32) = nI 1 from rfl, nI_ltI (by omega) (by omega)] at z
      omega
    · by_cases e : o = 1
      · exact Or.inl (by rw [e]; rfl)
      · refine Or.inr ⟨ha.resolve_left e, ?_⟩
        rcases hb with hb | hb | hb | hb
        · exact absurd hb e
        · exact Or.inl (by rw [hb]; rfl)
        · exact Or.inr (Or.inl (by rw [hb]; rfl))
        · exact Or.inr (Or.inr hb)
  have s173 : wL_law_173 post L xs J74 (nI k) (nI n) (nI i) (nI o) (nI dd) a kc ks ml ll (nI i) op fd fa fb uo cy ini seq mac pv pt wa tr ea la pl ri ml ll (nI i) op fd fa fb uo cy2 ini2 seq2 mac2 pv2 pt2 wa2 tr2 ea2 la2 pl2 ri2 := by
    unfold wL_law_173
    refine nm_r (nI_1 k) (zw_cell hL (by omega) (fun v => zw_m (m := 8) rfl (by decide) (by decide) (fun q hq => ?_)))
    have w := wf (nI q) (Or.inr (Or.inr (Or.inr (rg q hq))))
    exact zw_209 hi w (hJ _ w)
  unfold wL_law_155
  refine pk_eq o 2 (fun _ => s173) (fun h2 => pk_eq o 3 (fun _ => s173) (fun h3 => pk_eq o 4 (fun _ => s173) (fun h4 => ?_)))
  refine nm_r (nI_1 k) (zw_cell hL (by omega) (fun v => zw_m (m := 16) rfl (by decide) (by decide) (fun q hq => nm_e ?_)))
  have w := wf (nI q - 8) (by omega)
  exact zw_209 hi w (hJ _ w)
theorem zw_74 (hL : L ≤ 260) (n1 : 1 ≤ n) (n10 : n ≤ 10) (L1 : zv_L ml) (L2 : zv_L ll) (hp : post 1) :
    ∀ d i k, i + d = n → k ≤ 3 + 4 * i → ∀ op fd fa fb uo cy cy2 : Nat → Int32, zv_F i op fd fa fb → (∀ j, j < i → uo j = nI (zv_un (op j))) → wL_law_74 post L xs (nI n) kc ks (d + 1) (nI k) (nI i) ml ll (nI i) op fd fa fb uo cy ini seq mac pv pt wa tr ea la pl ri ml ll (nI i) op fd fa fb uo cy2 ini2 seq2 mac2 pv2 pt2 wa2 tr2 ea2 la2 pl2 ri2 := by
  intro d
  induction d with
  | zero =>
    intro i k hi hk op fd fa fb uo cy cy2 F U
    have e : i = n := by omega
    subst e
    exact br_t (nI_le (Nat.le_refl i) (by omega)) ⟨17, zw_246 hL n1 n10 F L1 L2 U hp 16 0 k (by omega) (by omega) ini ini2⟩
  | succ d ih =>
    intro i k hi hk op fd fa fb uo cy cy2 F U
    refine br_f (nI_ge (by omega) (by omega)) (nm_r (nI_1 k) (zw_cell hL (by omega) (fun v => zw_m (m := 6) rfl (by decide) (by decide) (fun q hq => nm_r (show (1 : Int32) + nI q = nI (1 + q) from nI_add 1 q) (nm_r (nI_1 (k + 1)) (zw_cell hL (by omega) (fun v2 => zw_m (m := 8) rfl (by decide) (by decide) (fun dd hd => ?_))))))))
    have next : ∀ a b, zl_wf (nI (1 + q)) (nI dd) a b → wL_law_74 post L xs (nI n) kc ks (d + 1) (nI (k + 3 + 1)) (nI (i + 1)) ml ll (nI (i + 1)) (upd op i (nI (1 + q))) (upd fd i (nI dd)) (upd fa i a) (upd fb i b) (upd uo i (nI (zv_un (nI (1 + q))))) (upd cy i (-1)) ini seq mac pv pt wa tr ea la pl ri ml ll (nI (i + 1)) (upd op i (nI (1 + q))) (upd fd i (nI dd)) (upd fa i a) (upd fb i b) (upd uo i (nI (zv_un (nI (1 + q))))) (upd cy2 i (-1)) ini2 seq2 mac2 pv2 pt2 wa2 tr2 ea2 la2 pl2 ri2 := by
      intro a b w
      refine ih (i + 1) (k + 3 + 1) (by omega) (by omega) _ _ _ _ _ _ _ (zl_F F w) (fun j hj => ?_)
      by_cases y : j = i
      · subst y; rw [pk_us, pk_us]
      · rw [pk_un y, pk_un y]; exact U j (by omega)
    refine pk_eq (1 + q) 1 (fun e => nm_r (nI_1 (k + 1 + 1)) (zw_cell hL (by omega) (fun v3 => zw_m (m := 64) rfl (by decide) (by decide) (fun c hc => nm_e ?_)))) (fun e => nm_r (nI_1 (k + 1 + 1)) (zw_cell hL (by omega) (fun v3 => zw_m (m := 8) rfl (by decide) (by decide) (fun c hc => ?_))))
    · exact zw_155 (k := k + 3) hL (by omega) (by omega) (by omega) (by omega) hd (Or.inl e) (fun b w => next _ b w)
    · exact zw_155 (k := k + 3) hL (by omega) (by omega) (by omega) (by omega) hd (Or.inr ⟨nI_pos (by omega), nI_le (b := 7) (by omega) (by decide)⟩) (fun b w => next _ b w)
end
theorem zw_clamp {post : Int32 → Prop} {a : Nat} (h1 : 1 ≤ a) (h4 : a ≤ 4) (h : post (nI a)) : wpX_clampLatency post () (nI a) :=
  br_t (nI_le (a := 1) h1 (by omega)) (br_t (nI_le (b := 4) h4 (by decide)) h)
theorem zw_init {post : St2 → Prop} {a b : Nat} (a1 : 1 ≤ a) (a4 : a ≤ 4) (b1 : 1 ≤ b) (b4 : b ≤ 4) (h : post (nI a, nI b, 0, (fun _ => 0), (fun _ => 0), (fun _ => 0), (fun _ => 0), (fun _ => 0), (fun _ => 0), (fun _ => 0), (fun _ => 0), (fun _ => 0), (fun _ => 0), (fun _ => 0), (fun _ => 0), (fun _ => 0), (fun _ => 0), (fun _ => 0), (fun _ => 0), (fun _ => 0))) : wpX_init post 17 278 (0, 0, 0) (nI a) (nI b) := by
  unfold wpX_init
  dsimp only
  repeat (refine ⟨by decide, ?_⟩)
  exact zw_clamp a1 a4 (zw_clamp b1 b4 h)
end
section
theorem i_vc (xs : Nat → Int32) (L : Nat) (hL : L ≤ 260) : wpL_law (fun r => r = 1) L xs := by
  unfold wpL_law
  refine nm_r (nI_1 0) (zw_cell (k := 0) hL (by omega) (fun v => zw_m (m := 4) rfl (by decide) (by decide) (fun q hq => nm_r (show (1 : Int32) + nI q = nI (1 + q) from nI_add 1 q) (nm_r (nI_1 1) (zw_cell hL (by omega) (fun v2 => zw_m (m := 4) rfl (by decide) (by decide) (fun q2 hq2 => nm_r (show (1 : Int32) + nI q2 = nI (1 + q2) from nI_add 1 q2) ?_)))))))
  refine ⟨17, 278, by decide, by decide, zw_init (by omega) (by omega) (by omega) (by omega) ⟨by decide, by decide, 17, 278, by decide, by decide, zw_init (by omega) (by omega) (by omega) (by omega) ?_⟩⟩
  refine nm_r (nI_1 2) (zw_cell hL (by omega) (fun v3 => zw_m (m := 10) rfl (by decide) (by decide) (fun q3 hq3 => nm_r (show (1 : Int32) + nI q3 = nI (1 + q3) from nI_add 1 q3) ⟨1 + q3 + 1, ?_⟩)))
  exact zw_74 (post := fun r => r = 1) (n := 1 + q3) hL (by omega) (by omega) ⟨1 + q, by omega, by omega, rfl⟩ ⟨1 + q2, by omega, by omega, rfl⟩ rfl (1 + q3) 0 3 (by omega) (by omega) _ _ _ _ _ _ _ (fun i hi => absurd hi (Nat.not_lt_zero i)) (fun i hi => absurd hi (Nat.not_lt_zero i))
end
