def qb_S (R : Nat → Int) : Nat → Int
  | 0 => 0
  | k + 1 => qb_S R k + R k
theorem qb_Sc {R Q : Nat → Int} : ∀ k, (∀ j, j < k → R j = Q j) → qb_S R k = qb_S Q k := by
  intro k
  induction k with
  | zero => intro _; rfl
  | succ k ih =>
    intro h
    show qb_S R k + R k = qb_S Q k + Q k
    rw [ih fun j hj => h j (by omega), h k (by omega)]
theorem qb_S0 {R : Nat → Int} : ∀ k, (∀ j, j < k → 0 ≤ R j) → 0 ≤ qb_S R k := by
  intro k
  induction k with
  | zero => intro _; exact Int.le_refl 0
  | succ k ih =>
    intro h
    have h1 := ih fun j hj => h j (by omega)
    have h2 := h k (by omega)
    show 0 ≤ qb_S R k + R k
    omega
/-- steps to go through level k and all below, m levels left: st of its own, w of its cycles enter -/
def qb_B (st w : Nat → Int) : Nat → Nat → Int
  | 0, _ => 0
  | m + 1, k => st k + w k * qb_B st w m (k + 1)
def qb_P (g : Nat → Int) : Nat → Nat → Int
  | 0, _ => 1
  | m + 1, k => g k * qb_P g m (k + 1)
theorem qb_B0 {st w : Nat → Int} {n : Nat} (hs : ∀ i, i < n → 0 ≤ st i) (hw : ∀ i, i < n → 0 ≤ w i) : ∀ m k, k + m ≤ n → 0 ≤ qb_B st w m k := by
  intro m
  induction m with
  | zero => intro k _; exact Int.le_refl 0
  | succ m ih =>
    intro k hk
    have h1 := Int.mul_nonneg (hw k (by omega)) (ih (k + 1) (by omega))
    have h2 := hs k (by omega)
    show 0 ≤ st k + w k * qb_B st w m (k + 1)
    omega
theorem qb_P1 {g : Nat → Int} {n : Nat} (hg : ∀ i, i < n → 1 ≤ g i) : ∀ m k, k + m ≤ n → 1 ≤ qb_P g m k := by
  intro m
  induction m with
  | zero => intro k _; exact Int.le_refl 1
  | succ m ih =>
    intro k hk
    have h1 := ih (k + 1) (by omega)
    have h2 := hg k (by omega)
    have h3 : 1 * 1 ≤ g k * qb_P g m (k + 1) := Int.mul_le_mul h2 h1 (by decide) (by omega)
    show 1 ≤ g k * qb_P g m (k + 1)
    omega
theorem qb_bound {st w g : Nat → Int} {n : Nat} {a : Int} (ha : 0 ≤ a) (hs : ∀ i, i < n → st i + 2 ≤ a) (hw0 : ∀ i, i < n → 0 ≤ w i) (hs0 : ∀ i, i < n → 0 ≤ st i) (hw : ∀ i, i < n → w i ≤ g i) (hg : ∀ i, i < n → a ≤ 2 * g i) :
    ∀ m k, k + (m + 1) ≤ n → qb_B st w (m + 1) k + 2 ≤ a * qb_P g m k := by
  intro m
  induction m with
  | zero =>
    intro k hk
    show st k + w k * 0 + 2 ≤ a * 1
    have := hs k (by omega)
    omega
  | succ m ih =>
    intro k hk
    have h1 := ih (k + 1) (by omega)
    have hB := qb_B0 hs0 hw0 (m + 1) (k + 1) (by omega)
    show st k + w k * qb_B st w (m + 1) (k + 1) + 2 ≤ a * (g k * qb_P g m (k + 1))
    have h2 : w k * qb_B st w (m + 1) (k + 1) ≤ g k * qb_B st w (m + 1) (k + 1) := Int.mul_le_mul_of_nonneg_right (hw k (by omega)) hB
    have g0 : 0 ≤ g k := by
      have := hw k (by omega)
      have := hw0 k (by omega)
      omega
    have h3 : g k * (qb_B st w (m + 1) (k + 1) + 2) ≤ g k * (a * qb_P g m (k + 1)) := Int.mul_le_mul_of_nonneg_left h1 g0
    have h4 : g k * (qb_B st w (m + 1) (k + 1) + 2) = g k * qb_B st w (m + 1) (k + 1) + 2 * g k := by
      rw [Int.mul_add, Int.mul_comm (g k) 2]
    have h5 : g k * (a * qb_P g m (k + 1)) = a * (g k * qb_P g m (k + 1)) := by
      rw [← Int.mul_assoc, Int.mul_comm (g k) a, Int.mul_assoc]
    have h6 := hs k (by omega)
    have h7 := hg k (by omega)
    omega
theorem qb_Pmono {g g' : Nat → Int} {n : Nat} (h0 : ∀ i, i < n → 0 ≤ g i) (h : ∀ i, i < n → g i ≤ g' i) : ∀ m k, k + m ≤ n → 0 ≤ qb_P g m k ∧ qb_P g m k ≤ qb_P g' m k := by
  intro m
  induction m with
  | zero => intro k _; exact ⟨by show (0 : Int) ≤ 1; decide, Int.le_refl 1⟩
  | succ m ih =>
    intro k hk
    have h1 := ih (k + 1) (by omega)
    have h2 := h0 k (by omega)
    have h3 := h k (by omega)
    refine ⟨Int.mul_nonneg h2 h1.1, ?_⟩
    show g k * qb_P g m (k + 1) ≤ g' k * qb_P g' m (k + 1)
    exact Int.mul_le_mul h3 h1.2 h1.1 (by omega)
theorem qb_Pup {g : Nat → Int} (hg : ∀ i, 1 ≤ g i) : ∀ m k, qb_P g m k ≤ qb_P g (m + 1) k := by
  intro m
  induction m with
  | zero =>
    intro k
    show 1 ≤ g k * 1
    have := hg k
    omega
  | succ m ih =>
    intro k
    show g k * qb_P g m (k + 1) ≤ g k * qb_P g (m + 1) (k + 1)
    exact Int.mul_le_mul_of_nonneg_left (ih (k + 1)) (by have := hg k; omega)
theorem qb_Pto {g : Nat → Int} (hg : ∀ i, 1 ≤ g i) (k : Nat) : ∀ d m, qb_P g m k ≤ qb_P g (m + d) k := by
  intro d
  induction d with
  | zero => intro m; exact Int.le_refl _
  | succ d ih => intro m; exact Int.le_trans (ih m) (qb_Pup hg (m + d) k)
/-- heads: the longest chain of edges to each -/
def qh_H (n : Nat) (dl : Nat → Nat → Int) (e : Nat → Int) : Prop :=
  (∀ i, i < n → 0 ≤ e i) ∧ (∀ i j, i < j → j < n → 0 ≤ dl i j → e i + dl i j ≤ e j) ∧ (∀ j, j < n → e j = 0 ∨ ∃ i, i < j ∧ 0 ≤ dl i j ∧ e i + dl i j = e j)
theorem qh_ex (dl : Nat → Nat → Int) : ∀ n, ∃ e, qh_H n dl e := by
  intro n
  induction n with
  | zero => exact ⟨fun _ => 0, fun i h => absurd h (Nat.not_lt_zero i), fun i j _ h => absurd h (Nat.not_lt_zero j), fun j h => absurd h (Nat.not_lt_zero j)⟩
  | succ n ih =>
    obtain ⟨e, h0, h1, h2⟩ := ih
    obtain ⟨r, r0, r1, r2⟩ := qg_max 0 (fun i => e i + dl i n) (fun i => 0 ≤ dl i n) n
    have cu : ∀ j, j ≠ n → qg_up e n r j = e j := fun j h => qg_un h
    have cn : qg_up e n r n = r := qg_us
    refine ⟨qg_up e n r, fun i hi => ?_, fun i j hij hj hd => ?_, fun j hj => ?_⟩
    · by_cases x : i = n
      · rw [x, cn]; exact r0
      · rw [cu i x]; exact h0 i (by omega)
    · by_cases x : j = n
      · subst x
        rw [cn, cu i (by omega)]
        exact r1 i hij hd
      · rw [cu j x, cu i (by omega)]; exact h1 i j hij (by omega) hd
    · by_cases x : j = n
      · subst x
        rw [cn]
        rcases r2 with h | ⟨i, hi, hd, h⟩
        · exact Or.inl h
        · exact Or.inr ⟨i, hi, hd, by rw [cu i (by omega)]; exact h⟩
      · rw [cu j x]
        rcases h2 j (by omega) with h | ⟨i, hi, hd, h⟩
        · exact Or.inl h
        · exact Or.inr ⟨i, hi, hd, by rw [cu i (by omega)]; exact h⟩
/-- in a schedule nobody goes before its head -/
theorem qh_le {n : Nat} {lat : Nat → Int} {dl : Nat → Nat → Int} {un : Nat → Nat} {len : Int} {c e : Nat → Int} (H : qh_H n dl e) (V : qs_V n lat dl un len c) : ∀ j, j < n → e j ≤ c j := by
  intro j
  induction j using Nat.strongRecOn with
  | _ j ih =>
    intro hj
    rcases H.2.2 j hj with h | ⟨i, hi, hd, h⟩
    · have := (V.1 j hj).1
      omega
    · have h1 := ih i hi (by omega)
      have h2 := V.2.1 i j hi hj hd
      omega
/-- one after the other -/
theorem qh_seq {n : Nat} {lat : Nat → Int} {dl : Nat → Nat → Int} {un : Nat → Nat} (hl : ∀ i, i < n → 1 ≤ lat i) (hd : ∀ i j, i < j → j < n → dl i j ≤ lat i) : qs_V n lat dl un (qb_S lat n) (qb_S lat) := by
  have M : ∀ d i, i + d ≤ n → qb_S lat i + (d : Int) ≤ qb_S lat (i + d) := by
    intro d
    induction d with
    | zero => intro i _; simp
    | succ d ih =>
      intro i h
      have h1 := ih i (by omega)
      have h2 := hl (i + d) (by omega)
      have h3 : qb_S lat (i + (d + 1)) = qb_S lat (i + d) + lat (i + d) := rfl
      omega
  have Mle : ∀ i j, i < j → j ≤ n → qb_S lat i + lat i ≤ qb_S lat j := by
    intro i j hij hj
    have h1 := M (j - (i + 1)) (i + 1) (by omega)
    rw [show i + 1 + (j - (i + 1)) = j by omega] at h1
    have h3 : qb_S lat (i + 1) = qb_S lat i + lat i := rfl
    omega
  refine ⟨fun i hi => ⟨qb_S0 i fun j hj => by have := hl j (by omega); omega, Mle i n hi (Nat.le_refl n)⟩, fun i j hij hj h0 => ?_, fun i j k hij hjk hk h1 h2 => ?_, fun i j hij hj h1 h2 => ?_⟩
  · have h1 := Mle i j hij (by omega)
    have h2 := hd i j hij hj
    omega
  · have h3 := Mle i j hij (by omega)
    have h4 := hl i (by omega)
    omega
  · have h3 := Mle i j hij (by omega)
    have h4 := hl i (by omega)
    omega
theorem qh_sum {lat : Nat → Int} : ∀ n, (∀ i, i < n → lat i ≤ 4) → qb_S lat n ≤ 4 * (n : Int) ∧ ∀ i, i < n → qb_S lat n ≤ 4 * (n : Int) - 4 + lat i := by
  intro n
  induction n with
  | zero => intro _; exact ⟨by show (0 : Int) ≤ 4 * ((0 : Nat) : Int); decide, fun i h => absurd h (Nat.not_lt_zero i)⟩
  | succ n ih =>
    intro h
    have h1 := ih fun i hi => h i (by omega)
    have h2 := h n (by omega)
    have h3 : qb_S lat (n + 1) = qb_S lat n + lat n := rfl
    refine ⟨by omega, fun i hi => ?_⟩
    by_cases e : i = n
    · subst e; have := h1.1; omega
    · have := h1.2 i (by omega)
      omega
def qh_g (a b c : Nat) : Nat → Int := fun i => if i = a then 20 else if i = b then 20 else if i = c then 22 else 37
theorem qh_dec : (List.range 9).all (fun a => (List.range 9).all fun b => (List.range 9).all fun c => !(decide (c < b) && decide (b < a)) || decide (40 * qb_P (qh_g a b c) 9 0 < 1000000000000000)) = true := by decide +kernel
theorem qh_prod {a b c : Nat} (h1 : c < b) (h2 : b < a) (h3 : a < 9) : 40 * qb_P (qh_g a b c) 9 0 < 1000000000000000 := by
  have h := qh_dec
  rw [List.all_eq_true] at h
  have ha := h a (List.mem_range.mpr h3)
  rw [List.all_eq_true] at ha
  have hb := ha b (List.mem_range.mpr (by omega))
  rw [List.all_eq_true] at hb
  have hc := hb c (List.mem_range.mpr (by omega))
  have h4 : decide (c < b) = true := decide_eq_true h1
  have h5 : decide (b < a) = true := decide_eq_true h2
  rw [h4, h5] at hc
  exact of_decide_eq_true (by simpa using hc)
theorem qh_31 : 34 * qb_P (fun _ => 31) 9 0 < 1000000000000000 := by decide +kernel
/-- THE REFERENCE'S BOUND: at the least length its search stays below its limit -/
theorem qh_bound {n : Nat} {lat : Nat → Int} {dl : Nat → Nat → Int} {un : Nat → Nat} {L : Int} {e : Nat → Int} (hn0 : 1 ≤ n) (hn : n ≤ 10) (hl : ∀ i, i < n → 1 ≤ lat i ∧ lat i ≤ 4) (hd : ∀ i j, i < j → j < n → dl i j ≤ lat i)
    (H : qh_H n dl e) (hF : ∃ c, qs_V n lat dl un L c) (hL : ∀ c, ¬ qs_V n lat dl un (L - 1) c) :
    qb_B (fun k => L - lat k + 2) (fun k => L - lat k + 1 - e k) n 0 < 1000000000000000 ∧ (∀ k, k < n → e k ≤ L - lat k) := by
  obtain ⟨c0, V0⟩ := hF
  have hw0 : ∀ k, k < n → e k ≤ L - lat k := by
    intro k hk
    have h1 := qh_le H V0 k hk
    have h2 := (V0.1 k hk).2
    omega
  refine ⟨?_, hw0⟩
  have hs0 : ∀ k, k < n → 0 ≤ (fun k => L - lat k + 2) k := by
    intro k hk
    have h1 := hw0 k hk
    have h2 := H.1 k hk
    show 0 ≤ L - lat k + 2
    omega
  have hww : ∀ k, k < n → 0 ≤ (fun k => L - lat k + 1 - e k) k := by
    intro k hk
    have h1 := hw0 k hk
    show 0 ≤ L - lat k + 1 - e k
    omega
  obtain ⟨m, rfl⟩ : ∃ m, n = m + 1 := ⟨n - 1, by omega⟩
  by_cases h31 : L ≤ 31
  · have h := qb_bound (st := fun k => L - lat k + 2) (w := fun k => L - lat k + 1 - e k) (g := fun _ => 31) (n := m + 1) (a := 34) (by decide)
      (fun i hi => by have := (hl i hi).1; show L - lat i + 2 + 2 ≤ 34; omega) hww hs0
      (fun i hi => by have := (hl i hi).1; have := H.1 i hi; show L - lat i + 1 - e i ≤ 31; omega) (fun i _ => by show (34 : Int) ≤ 2 * 31; decide) m 0 (by omega)
    have h2 := qb_Pto (g := fun _ => 31) (fun _ => by show (1 : Int) ≤ 31; decide) 0 (9 - m) m
    rw [show m + (9 - m) = 9 by omega] at h2
    have h3 := qh_31
    omega
  · have hsum : L ≤ qb_S lat (m + 1) := by
      have hq := qh_seq (un := un) (dl := dl) (fun i hi => (hl i hi).1) hd
      by_cases x : L ≤ qb_S lat (m + 1)
      · exact x
      · refine absurd ?_ (hL (qb_S lat))
        exact ⟨fun i hi => ⟨(hq.1 i hi).1, by have := (hq.1 i hi).2; omega⟩, hq.2⟩
    have h37 : ∀ i, i < m + 1 → L - lat i ≤ 36 := by
      intro i hi
      have h1 := (qh_sum (lat := lat) (m + 1) fun i hi => (hl i hi).2).2 i hi
      omega
    obtain ⟨q0, hq0, hq0e⟩ : ∃ q, q < m + 1 ∧ L ≤ e q + lat q + 9 := by
      by_cases x : ∃ q, q < m + 1 ∧ L ≤ e q + lat q + 9
      · exact x
      · exfalso
        obtain ⟨c, _, c2, c3, c4, c5⟩ := qg_main (n := m + 1) (dl := dl) (un := un) (A := fun _ => False) (t := e) (e := e) hn H.2.1 (fun _ _ _ _ _ h => h.elim) (fun _ _ h => h.elim) (fun _ _ _ _ _ _ h => h.elim) (fun _ _ _ _ h => h.elim)
        refine hL c ⟨fun i hi => ?_, c3, c4, c5⟩
        have h1 := c2 i hi
        have h2 := H.1 i hi
        have h3 : ¬ L ≤ e i + lat i + 9 := fun h => x ⟨i, hi, h⟩
        exact ⟨by omega, by omega⟩
    have prev : ∀ j, j < m + 1 → 0 < e j → ∃ i, i < j ∧ e j ≤ e i + lat i := by
      intro j hj h
      rcases H.2.2 j hj with h1 | ⟨i, hi, h0, h1⟩
      · omega
      · have := hd i j hi hj
        exact ⟨i, hi, by omega⟩
    have l0 := hl q0 hq0
    obtain ⟨q1, hq1, hq1e⟩ := prev q0 hq0 (by omega)
    have l1 := hl q1 (by omega)
    obtain ⟨q2, hq2, hq2e⟩ := prev q1 (by omega) (by omega)
    have l2 := hl q2 (by omega)
    obtain ⟨q3, hq3, hq3e⟩ := prev q2 (by omega) (by omega)
    have hg37 : ∀ i, 1 ≤ qh_g q1 q2 q3 i ∧ 20 ≤ qh_g q1 q2 q3 i := by
      intro i
      unfold qh_g
      split
      · exact ⟨by decide, by decide⟩
      · split
        · exact ⟨by decide, by decide⟩
        · split
          · exact ⟨by decide, by decide⟩
          · exact ⟨by decide, by decide⟩
    have h := qb_bound (st := fun k => L - lat k + 2) (w := fun k => L - lat k + 1 - e k) (g := qh_g q1 q2 q3) (n := m + 1) (a := 40) (by decide)
      (fun i hi => by have := h37 i hi; show L - lat i + 2 + 2 ≤ 40; omega) hww hs0
      (fun i hi => by
        have h1 := h37 i hi
        have h2 := H.1 i hi
        show L - lat i + 1 - e i ≤ qh_g q1 q2 q3 i
        unfold qh_g
        split
        · next x => subst x; omega
        · split
          · next x => subst x; omega
          · split
            · next x => subst x; omega
            · omega)
      (fun i _ => by have := (hg37 i).2; omega) m 0 (by omega)
    have h2 := qb_Pto (g := qh_g q1 q2 q3) (fun i => (hg37 i).1) 0 (9 - m) m
    rw [show m + (9 - m) = 9 by omega] at h2
    have h3 := qh_prod hq3 hq2 (show q1 < 9 by omega)
    omega
