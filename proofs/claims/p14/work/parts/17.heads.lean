/-- the head of j as far as the first i before it are seen -/
def qh_P (dl : Nat → Nat → Int) (e : Nat → Int) (j i : Nat) : Prop :=
  0 ≤ e j ∧ (∀ a, a < i → 0 ≤ dl a j → e a + dl a j ≤ e j) ∧ (e j = 0 ∨ ∃ a, a < i ∧ 0 ≤ dl a j ∧ e a + dl a j = e j)
theorem qh_P0 {dl : Nat → Nat → Int} {e : Nat → Int} {j : Nat} (h : e j = 0) : qh_P dl e j 0 := ⟨by omega, fun a ha => absurd ha (Nat.not_lt_zero a), Or.inl h⟩
theorem qh_Pk {dl : Nat → Nat → Int} {e : Nat → Int} {j i : Nat} (P : qh_P dl e j i) (h : 0 ≤ dl i j → e i + dl i j ≤ e j) : qh_P dl e j (i + 1) := by
  obtain ⟨p1, p2, p3⟩ := P
  refine ⟨p1, fun a ha hd => ?_, ?_⟩
  · by_cases x : a = i
    · subst x; exact h hd
    · exact p2 a (by omega) hd
  · rcases p3 with y | ⟨a, ha, y⟩
    · exact Or.inl y
    · exact Or.inr ⟨a, by omega, y⟩
theorem qh_Pu {dl : Nat → Nat → Int} {e : Nat → Int} {j i : Nat} (P : qh_P dl e j i) (hij : i < j) (hd : 0 ≤ dl i j) (h : e j ≤ e i + dl i j) : qh_P dl (qg_up e j (e i + dl i j)) j (i + 1) := by
  obtain ⟨p1, p2, p3⟩ := P
  refine ⟨by rw [qg_us]; omega, fun a ha hda => ?_, Or.inr ⟨i, by omega, hd, ?_⟩⟩
  · rw [qg_us, qg_un (show a ≠ j by omega)]
    by_cases x : a = i
    · subst x; exact Int.le_refl _
    · have := p2 a (by omega) hda
      omega
  · rw [qg_us, qg_un (show i ≠ j by omega)]
theorem qh_HS {dl : Nat → Nat → Int} {e : Nat → Int} {j : Nat} (H : qh_H j dl e) (P : qh_P dl e j j) : qh_H (j + 1) dl e := by
  obtain ⟨h1, h2, h3⟩ := H
  obtain ⟨p1, p2, p3⟩ := P
  refine ⟨fun i hi => ?_, fun a b hab hb hd => ?_, fun b hb => ?_⟩
  · by_cases x : i = j
    · subst x; exact p1
    · exact h1 i (by omega)
  · by_cases x : b = j
    · subst x; exact p2 a hab hd
    · exact h2 a b hab (by omega) hd
  · by_cases x : b = j
    · subst x; exact p3
    · exact h3 b (by omega)
theorem qh_Hc {n : Nat} {dl : Nat → Nat → Int} {e e' : Nat → Int} (h : ∀ i, i < n → e i = e' i) (H : qh_H n dl e) : qh_H n dl e' := by
  obtain ⟨h1, h2, h3⟩ := H
  refine ⟨fun i hi => by rw [← h i hi]; exact h1 i hi, fun a b hab hb hd => by rw [← h a (by omega), ← h b hb]; exact h2 a b hab hb hd, fun b hb => ?_⟩
  rw [← h b hb]
  rcases h3 b hb with y | ⟨a, ha, y1, y2⟩
  · exact Or.inl y
  · exact Or.inr ⟨a, ha, y1, by rw [← h a (by omega)]; exact y2⟩
theorem qh_Hd {n : Nat} {dl dl' : Nat → Nat → Int} {e : Nat → Int} (h : ∀ i j, i < j → j < n → dl i j = dl' i j) (H : qh_H n dl e) : qh_H n dl' e := by
  obtain ⟨h1, h2, h3⟩ := H
  refine ⟨h1, fun a b hab hb hd => by rw [← h a b hab hb] at hd ⊢; exact h2 a b hab hb hd, fun b hb => ?_⟩
  rcases h3 b hb with y | ⟨a, ha, y1, y2⟩
  · exact Or.inl y
  · exact Or.inr ⟨a, ha, by rw [← h a b ha hb]; exact y1, by rw [← h a b ha hb]; exact y2⟩
theorem qh_u {n : Nat} {dl : Nat → Nat → Int} {e e' : Nat → Int} (H : qh_H n dl e) (H' : qh_H n dl e') : ∀ j, j < n → e j = e' j := by
  have one : ∀ {e e' : Nat → Int}, qh_H n dl e → qh_H n dl e' → ∀ j, j < n → e j ≤ e' j := by
    intro e e' H H' j
    induction j using Nat.strongRecOn with
    | _ j ih =>
      intro hj
      rcases H.2.2 j hj with h | ⟨i, hi, hd, h⟩
      · have := H'.1 j hj
        omega
      · have h1 := ih i hi (by omega)
        have h2 := H'.2.1 i j hi hj hd
        omega
  intro j hj
  have h1 := one H H' j hj
  have h2 := one H' H j hj
  omega
/-- the longest chain of the first k -/
def qh_R (lat e : Nat → Int) (k : Nat) (r : Int) : Prop := 0 ≤ r ∧ (∀ i, i < k → e i + lat i ≤ r) ∧ (r = 0 ∨ ∃ i, i < k ∧ r = e i + lat i)
theorem qh_Rc {lat e e' : Nat → Int} {k : Nat} {r : Int} (h : ∀ i, i < k → e i = e' i) (R : qh_R lat e k r) : qh_R lat e' k r := by
  obtain ⟨r0, r1, r2⟩ := R
  refine ⟨r0, fun i hi => by rw [← h i hi]; exact r1 i hi, ?_⟩
  rcases r2 with y | ⟨i, hi, y⟩
  · exact Or.inl y
  · exact Or.inr ⟨i, hi, by rw [← h i hi]; exact y⟩
theorem qh_R0 {lat e : Nat → Int} : qh_R lat e 0 0 := ⟨Int.le_refl 0, fun i hi => absurd hi (Nat.not_lt_zero i), Or.inl rfl⟩
theorem qh_Rk {lat e : Nat → Int} {k : Nat} {r : Int} (R : qh_R lat e k r) (h : e k + lat k ≤ r) : qh_R lat e (k + 1) r := by
  obtain ⟨r0, r1, r2⟩ := R
  refine ⟨r0, fun i hi => ?_, ?_⟩
  · by_cases x : i = k
    · subst x; exact h
    · exact r1 i (by omega)
  · rcases r2 with y | ⟨i, hi, y⟩
    · exact Or.inl y
    · exact Or.inr ⟨i, by omega, y⟩
theorem qh_Ru {lat e : Nat → Int} {k : Nat} {r : Int} (R : qh_R lat e k r) (h : r ≤ e k + lat k) : qh_R lat e (k + 1) (e k + lat k) := by
  obtain ⟨r0, r1, r2⟩ := R
  refine ⟨by omega, fun i hi => ?_, Or.inr ⟨k, by omega, rfl⟩⟩
  by_cases x : i = k
  · subst x; exact Int.le_refl _
  · have := r1 i (by omega)
    omega
theorem qh_Rq {lat e : Nat → Int} {n : Nat} {r r' : Int} (hl : ∀ i, i < n → 1 ≤ lat i) (he : ∀ i, i < n → 0 ≤ e i) (R : qh_R lat e n r) (R' : qh_R lat e n r') : r = r' := by
  obtain ⟨r0, r1, r2⟩ := R
  obtain ⟨s0, s1, s2⟩ := R'
  rcases r2 with y | ⟨i, hi, y⟩
  · rcases s2 with z | ⟨j, hj, z⟩
    · omega
    · have := r1 j hj
      have := hl j hj
      have := he j hj
      omega
  · have a := s1 i hi
    rcases s2 with z | ⟨j, hj, z⟩
    · have := hl i hi
      have := he i hi
      omega
    · have := r1 j hj
      omega
