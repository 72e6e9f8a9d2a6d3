/-- a valid schedule of length at most len: lat latencies, dl delays (below 0: no edge), un units (0: the issue slot alone) -/
def qs_V (n : Nat) (lat : Nat → Int) (dl : Nat → Nat → Int) (un : Nat → Nat) (len : Int) (c : Nat → Int) : Prop :=
  (∀ i, i < n → 0 ≤ c i ∧ c i + lat i ≤ len) ∧
  (∀ i j, i < j → j < n → 0 ≤ dl i j → c i + dl i j ≤ c j) ∧
  (∀ i j k, i < j → j < k → k < n → c i = c j → c j = c k → False) ∧
  (∀ i j, i < j → j < n → c i = c j → un i = un j → un i = 0)
/-- a greatest one of finitely many, not below b -/
theorem qg_max (b : Int) (f : Nat → Int) (p : Nat → Prop) : ∀ m, ∃ r, b ≤ r ∧ (∀ i, i < m → p i → f i ≤ r) ∧ (r = b ∨ ∃ i, i < m ∧ p i ∧ f i = r) := by
  intro m
  induction m with
  | zero => exact ⟨b, Int.le_refl b, fun i hi => absurd hi (Nat.not_lt_zero i), Or.inl rfl⟩
  | succ m ih =>
    obtain ⟨r, hb, hr, ht⟩ := ih
    by_cases hp : p m
    · by_cases hl : f m ≤ r
      · refine ⟨r, hb, fun i hi pi => ?_, ?_⟩
        · by_cases e : i = m
          · subst e; exact hl
          · exact hr i (by omega) pi
        · rcases ht with h | ⟨i, hi, h⟩
          · exact Or.inl h
          · exact Or.inr ⟨i, by omega, h⟩
      · refine ⟨f m, by omega, fun i hi pi => ?_, Or.inr ⟨m, by omega, hp, rfl⟩⟩
        by_cases e : i = m
        · subst e; exact Int.le_refl _
        · have := hr i (by omega) pi
          omega
    · refine ⟨r, hb, fun i hi pi => ?_, ?_⟩
      · by_cases e : i = m
        · subst e; exact absurd pi hp
        · exact hr i (by omega) pi
      · rcases ht with h | ⟨i, hi, h⟩
        · exact Or.inl h
        · exact Or.inr ⟨i, by omega, h⟩
/-- set, or placed below k -/
def qg_P (A : Nat → Prop) (k j : Nat) : Prop := A j ∨ j < k
noncomputable def qg_N (n : Nat) (A : Nat → Prop) (k : Nat) (c : Nat → Int) (x : Int) : Nat := qc_n (fun i => qg_P A k i ∧ c i < x) n
theorem qg_Nmono {n : Nat} {A : Nat → Prop} {k : Nat} {c : Nat → Int} {x y : Int} (h : x ≤ y) : qg_N n A k c x ≤ qg_N n A k c y :=
  qc_mono n fun _ _ p => ⟨p.1, by have := p.2; omega⟩
theorem qg_Nsucc {n : Nat} {A : Nat → Prop} {k : Nat} {c : Nat → Int} {x : Int} (j : Nat) (hj : j < n) (hp : qg_P A k j) (hc : c j = x) : qg_N n A k c x + 1 ≤ qg_N n A k c (x + 1) := by
  have h := qc_add (p := fun i => qg_P A k i ∧ c i < x) (q := fun i => i = j) (r := fun i => qg_P A k i ∧ c i < x + 1) n
    (fun i _ p => ⟨p.1, by have := p.2; omega⟩) (fun i _ q => by subst q; exact ⟨hp, by omega⟩)
    (fun i _ p q => by subst q; have := p.2; omega)
  have h1 := qc_one (p := fun i => i = j) n j hj rfl
  show qc_n _ n + 1 ≤ qc_n _ n
  omega
/-- a cycle that k can't have beside what is placed -/
def qg_B (n : Nat) (un : Nat → Nat) (A : Nat → Prop) (k : Nat) (c : Nat → Int) (t : Int) : Prop :=
  ∃ j, j < n ∧ qg_P A k j ∧ c j = t ∧ ((un j = un k ∧ un k ≠ 0) ∨ ∃ i, i < n ∧ i ≠ j ∧ qg_P A k i ∧ c i = t)
def qg_Q (n : Nat) (dl : Nat → Nat → Int) (un : Nat → Nat) (A : Nat → Prop) (t e : Nat → Int) (k : Nat) (c : Nat → Int) : Prop :=
  (∀ j, j < n → A j → c j = t j) ∧
  (∀ j, j < n → qg_P A k j → e j ≤ c j ∧ c j ≤ e j + (qg_N n A k c (c j) : Int)) ∧
  (∀ i j, i < j → j < n → qg_P A k i → qg_P A k j → 0 ≤ dl i j → c i + dl i j ≤ c j) ∧
  (∀ i j m, i < j → j < m → m < n → qg_P A k i → qg_P A k j → qg_P A k m → c i = c j → c j = c m → False) ∧
  (∀ i j, i < j → j < n → qg_P A k i → qg_P A k j → c i = c j → un i = un j → un i = 0)
/-- from r on there is a cycle that isn't blocked, and the count keeps up with it -/
theorem qg_scan {n : Nat} {un : Nat → Nat} {A : Nat → Prop} {k : Nat} {c : Nat → Int} {r b : Int} (hb : b ≤ r) (h : r ≤ b + (qg_N n A k c r : Int)) : ∃ t, r ≤ t ∧ ¬ qg_B n un A k c t ∧ t ≤ b + (qg_N n A k c t : Int) := by
  have H : ∀ s : Nat, (∃ t, r ≤ t ∧ ¬ qg_B n un A k c t ∧ t ≤ b + (qg_N n A k c t : Int)) ∨ r + (s : Int) ≤ b + (qg_N n A k c (r + (s : Int)) : Int) := by
    intro s
    induction s with
    | zero => exact Or.inr (by simpa using h)
    | succ s ih =>
      rcases ih with h1 | h1
      · exact Or.inl h1
      · by_cases hB : qg_B n un A k c (r + (s : Int))
        · obtain ⟨j, hj, hp, hc, _⟩ := hB
          have h2 := qg_Nsucc j hj hp hc
          refine Or.inr ?_
          have e : r + ((s + 1 : Nat) : Int) = r + (s : Int) + 1 := by omega
          rw [e]
          omega
        · exact Or.inl ⟨r + (s : Int), by omega, hB, h1⟩
  rcases H (n + 1) with h1 | h1
  · exact h1
  · have h2 : qg_N n A k c (r + ((n + 1 : Nat) : Int)) ≤ n := qc_le n
    omega
def qg_up (c : Nat → Int) (k : Nat) (x : Int) : Nat → Int := fun j => if j = k then x else c j
theorem qg_us {c : Nat → Int} {k : Nat} {x : Int} : qg_up c k x k = x := if_pos rfl
theorem qg_un {c : Nat → Int} {k j : Nat} {x : Int} (h : j ≠ k) : qg_up c k x j = c j := if_neg h
theorem qg_step {n : Nat} {dl : Nat → Nat → Int} {un : Nat → Nat} {A : Nat → Prop} {t e : Nat → Int} (hn : n ≤ 10)
    (he : ∀ i j, i < j → j < n → 0 ≤ dl i j → e i + dl i j ≤ e j)
    (hA : ∀ i j, i < j → j < n → ¬ A i → A j → 0 ≤ dl i j → e i + 9 + dl i j ≤ t j)
    {k : Nat} (hk : k < n) {c : Nat → Int} (Q : qg_Q n dl un A t e k c) : ∃ c', qg_Q n dl un A t e (k + 1) c' := by
  obtain ⟨q1, q2, q3, q4, q5⟩ := Q
  by_cases a : A k
  · have E : ∀ j, qg_P A (k + 1) j → qg_P A k j := by
      intro j h
      rcases h with h | h
      · exact Or.inl h
      · by_cases x : j = k
        · subst x; exact Or.inl a
        · exact Or.inr (by omega)
    have E' : ∀ j, qg_P A k j → qg_P A (k + 1) j := fun j h => h.elim Or.inl (fun h => Or.inr (by omega))
    refine ⟨c, q1, fun j hj p => ⟨(q2 j hj (E j p)).1, ?_⟩, fun i j hij hj p q => q3 i j hij hj (E i p) (E j q), fun i j m hij hjm hm p q r => q4 i j m hij hjm hm (E i p) (E j q) (E m r), fun i j hij hj p q => q5 i j hij hj (E i p) (E j q)⟩
    have h1 := (q2 j hj (E j p)).2
    have h2 : qg_N n A k c (c j) ≤ qg_N n A (k + 1) c (c j) := qc_mono n fun i _ p => ⟨E' i p.1, p.2⟩
    omega
  · have nk : ¬ qg_P A k k := fun h => h.elim a (Nat.lt_irrefl k)
    have ne : ∀ j, qg_P A k j → j ≠ k := fun j h x => nk (by rw [x] at h; exact h)
    obtain ⟨r, hb, hr, ht⟩ := qg_max (e k) (fun p => c p + dl p k) (fun p => 0 ≤ dl p k) k
    have hr0 : r ≤ e k + (qg_N n A k c r : Int) := by
      rcases ht with h | ⟨p, hp, hd, h⟩
      · omega
      · have h1 := (q2 p (by omega) (Or.inr hp)).2
        have h2 := he p k hp hk hd
        have h3 : qg_N n A k c (c p) ≤ qg_N n A k c r := qg_Nmono (by omega)
        omega
    obtain ⟨x, hx, hB, hN⟩ := qg_scan (un := un) hb hr0
    have hN9 : qg_N n A k c x + 1 ≤ n := qc_lt n k hk fun h => nk h.1
    have old : ∀ j, qg_P A (k + 1) j → j ≠ k → qg_P A k j := by
      intro j h hj
      rcases h with h | h
      · exact Or.inl h
      · exact Or.inr (by omega)
    have cu : ∀ j, j ≠ k → qg_up c k x j = c j := fun j h => qg_un h
    have ck : qg_up c k x k = x := qg_us
    have hM : ∀ y, qg_N n A k c y ≤ qg_N n A (k + 1) (qg_up c k x) y := fun y => qc_mono n fun i _ p =>
      ⟨p.1.elim Or.inl (fun h => Or.inr (by omega)), by rw [cu i (ne i p.1)]; exact p.2⟩
    refine ⟨qg_up c k x, fun j hj aj => ?_, fun j hj p => ?_, fun i j hij hj p q hd => ?_, fun i j m hij hjm hm p q r h1 h2 => ?_, fun i j hij hj p q h1 h2 => ?_⟩
    · rw [cu j (fun h => a (h ▸ aj))]; exact q1 j hj aj
    · by_cases ej : j = k
      · subst ej
        rw [ck]
        have := hM x
        exact ⟨by omega, by omega⟩
      · rw [cu j ej]
        have h1 := q2 j hj (old j p ej)
        have := hM (c j)
        exact ⟨h1.1, by omega⟩
    · by_cases ej : j = k
      · subst ej
        rw [ck, cu i (by omega)]
        have := hr i hij hd
        omega
      · by_cases ei : i = k
        · subst ei
          have aj : A j := q.elim id (fun h => absurd h (by omega))
          rw [ck, cu j ej, q1 j hj aj]
          have := hA i j hij hj a aj hd
          omega
        · rw [cu i ei, cu j ej]; exact q3 i j hij hj (old i p ei) (old j q ej) hd
    · by_cases e1 : i = k
      · subst e1
        rw [ck, cu j (by omega)] at h1
        rw [cu j (by omega), cu m (by omega)] at h2
        exact hB ⟨j, by omega, old j q (by omega), h1.symm, Or.inr ⟨m, hm, by omega, old m r (by omega), by omega⟩⟩
      · by_cases e2 : j = k
        · subst e2
          rw [ck, cu i e1] at h1
          rw [ck, cu m (by omega)] at h2
          exact hB ⟨i, by omega, old i p e1, h1, Or.inr ⟨m, hm, by omega, old m r (by omega), h2.symm⟩⟩
        · by_cases e3 : m = k
          · subst e3
            rw [cu i e1, cu j e2] at h1
            rw [ck, cu j e2] at h2
            exact hB ⟨j, by omega, old j q e2, h2, Or.inr ⟨i, by omega, by omega, old i p e1, by omega⟩⟩
          · rw [cu i e1, cu j e2] at h1
            rw [cu m e3, cu j e2] at h2
            exact q4 i j m hij hjm hm (old i p e1) (old j q e2) (old m r e3) h1 h2
    · by_cases e1 : i = k
      · subst e1
        rw [ck, cu j (by omega)] at h1
        by_cases z : un i = 0
        · exact z
        · exact absurd ⟨j, hj, old j q (by omega), h1.symm, Or.inl ⟨h2.symm, z⟩⟩ hB
      · by_cases e2 : j = k
        · subst e2
          rw [ck, cu i e1] at h1
          by_cases z : un i = 0
          · exact z
          · exact absurd ⟨i, by omega, old i p e1, h1, Or.inl ⟨h2, by rw [← h2]; exact z⟩⟩ hB
        · rw [cu i e1, cu j e2] at h1
          exact q5 i j hij hj (old i p e1) (old j q e2) h1 h2
/-- GREEDY -/
theorem qg_main {n : Nat} {dl : Nat → Nat → Int} {un : Nat → Nat} {A : Nat → Prop} {t e : Nat → Int} (hn : n ≤ 10)
    (he : ∀ i j, i < j → j < n → 0 ≤ dl i j → e i + dl i j ≤ e j)
    (hA : ∀ i j, i < j → j < n → ¬ A i → A j → 0 ≤ dl i j → e i + 9 + dl i j ≤ t j)
    (ht : ∀ j, j < n → A j → e j = t j)
    (h3 : ∀ i j m, i < j → j < m → m < n → A i → A j → A m → t i = t j → t j = t m → False)
    (h4 : ∀ i j, i < j → j < n → A i → A j → t i = t j → un i = un j → un i = 0) :
    ∃ c : Nat → Int, (∀ j, j < n → A j → c j = t j) ∧ (∀ j, j < n → e j ≤ c j ∧ c j ≤ e j + 9) ∧
      (∀ i j, i < j → j < n → 0 ≤ dl i j → c i + dl i j ≤ c j) ∧
      (∀ i j k, i < j → j < k → k < n → c i = c j → c j = c k → False) ∧
      (∀ i j, i < j → j < n → c i = c j → un i = un j → un i = 0) := by
  have H : ∀ k, k ≤ n → ∃ c, qg_Q n dl un A t e k c := by
    intro k
    induction k with
    | zero =>
      intro _
      have E : ∀ j, qg_P A 0 j → A j := fun j h => h.elim id (fun h => absurd h (Nat.not_lt_zero j))
      refine ⟨t, fun _ _ _ => rfl, fun j hj p => ⟨by have := ht j hj (E j p); omega, by have := ht j hj (E j p); omega⟩, fun i j hij hj p q hd => ?_, fun i j m hij hjm hm p q r => h3 i j m hij hjm hm (E i p) (E j q) (E m r), fun i j hij hj p q => h4 i j hij hj (E i p) (E j q)⟩
      have h1 := he i j hij hj hd
      rw [ht i (by omega) (E i p), ht j hj (E j q)] at h1
      exact h1
    | succ k ih =>
      intro hk
      obtain ⟨c, Q⟩ := ih (by omega)
      exact qg_step hn he hA (by omega) Q
  obtain ⟨c, q1, q2, q3, q4, q5⟩ := H n (Nat.le_refl n)
  refine ⟨c, q1, fun j hj => ⟨(q2 j hj (Or.inr hj)).1, ?_⟩, fun i j hij hj => q3 i j hij hj (Or.inr (by omega)) (Or.inr hj), fun i j k hij hjk hk => q4 i j k hij hjk hk (Or.inr (by omega)) (Or.inr (by omega)) (Or.inr hk), fun i j hij hj => q5 i j hij hj (Or.inr (by omega)) (Or.inr hj)⟩
  have h1 := (q2 j hj (Or.inr hj)).2
  have h2 : qg_N n A n c (c j) + 1 ≤ n := qc_lt n j hj fun h => by have := h.2; omega
  omega
