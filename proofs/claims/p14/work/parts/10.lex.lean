theorem qs_Vc {n : Nat} {lat : Nat → Int} {dl : Nat → Nat → Int} {un : Nat → Nat} {len : Int} {c c' : Nat → Int} (h : ∀ i, i < n → c i = c' i) (V : qs_V n lat dl un len c) : qs_V n lat dl un len c' := by
  obtain ⟨v1, v2, v3, v4⟩ := V
  refine ⟨fun i hi => ?_, fun i j hij hj hd => ?_, fun i j k hij hjk hk h1 h2 => ?_, fun i j hij hj h1 h2 => ?_⟩
  · rw [← h i hi]; exact v1 i hi
  · rw [← h i (by omega), ← h j hj]; exact v2 i j hij hj hd
  · rw [← h i (by omega), ← h j (by omega)] at h1
    rw [← h j (by omega), ← h k hk] at h2
    exact v3 i j k hij hjk hk h1 h2
  · rw [← h i (by omega), ← h j hj] at h1
    exact v4 i j hij hj h1 h2
theorem qs_Vm {n : Nat} {lat : Nat → Int} {dl : Nat → Nat → Int} {un : Nat → Nat} {len len' : Int} {c : Nat → Int} (h : len ≤ len') (V : qs_V n lat dl un len c) : qs_V n lat dl un len' c :=
  ⟨fun i hi => ⟨(V.1 i hi).1, by have := (V.1 i hi).2; omega⟩, V.2⟩
theorem qs_Xc {n : Nat} {lat : Nat → Int} {dl : Nat → Nat → Int} {un : Nat → Nat} {len : Int} {c c' : Nat → Int} (h : ∀ i, i < n → c i = c' i) (X : qs_X n lat dl un len c) : qs_X n lat dl un len c' := by
  refine ⟨qs_Vc h X.1, fun k hk d V hd => ?_⟩
  rw [← h k hk]
  exact X.2 k hk d V fun i hi => by rw [h i (by omega)]; exact hd i hi
/-- the first i of the least schedule -/
def qx_P (n : Nat) (lat : Nat → Int) (dl : Nat → Nat → Int) (un : Nat → Nat) (len : Int) (i : Nat) (c : Nat → Int) : Prop :=
  (∃ c', qs_V n lat dl un len c' ∧ ∀ j, j < i → c' j = c j) ∧ (∀ j, j < i → ∀ c', qs_V n lat dl un len c' → (∀ k, k < j → c' k = c k) → c j ≤ c' j)
theorem qx_0 {n : Nat} {lat : Nat → Int} {dl : Nat → Nat → Int} {un : Nat → Nat} {len : Int} {c : Nat → Int} (h : ∃ c', qs_V n lat dl un len c') : qx_P n lat dl un len 0 c := by
  obtain ⟨c', V⟩ := h
  exact ⟨⟨c', V, fun j hj => absurd hj (Nat.not_lt_zero j)⟩, fun j hj => absurd hj (Nat.not_lt_zero j)⟩
theorem qx_s {n : Nat} {lat : Nat → Int} {dl : Nat → Nat → Int} {un : Nat → Nat} {len : Int} {i : Nat} {c c1 : Nat → Int} {x : Int} (P : qx_P n lat dl un len i c) (h1 : ∀ j, j < i → c1 j = c j) (h2 : c1 i = x)
    (hlo : ∀ c', qs_V n lat dl un len c' → (∀ k, k < i → c' k = c k) → x ≤ c' i) (hx : ∃ c', qs_V n lat dl un len c' ∧ ∀ j, j < i + 1 → c' j = c1 j) : qx_P n lat dl un len (i + 1) c1 := by
  refine ⟨hx, fun j hj c' V hc => ?_⟩
  by_cases e : j = i
  · subst e
    rw [h2]
    exact hlo c' V fun k hk => by rw [← h1 k hk]; exact hc k hk
  · rw [h1 j (by omega)]
    exact P.2 j (by omega) c' V fun k hk => by rw [← h1 k (by omega)]; exact hc k hk
theorem qx_n {n : Nat} {lat : Nat → Int} {dl : Nat → Nat → Int} {un : Nat → Nat} {len : Int} {c : Nat → Int} (P : qx_P n lat dl un len n c) : qs_X n lat dl un len c := by
  obtain ⟨⟨c', V, h⟩, h2⟩ := P
  exact ⟨qs_Vc h V, h2⟩
/-- heads bound the length from below -/
theorem qx_head {n : Nat} {lat : Nat → Int} {dl : Nat → Nat → Int} {un : Nat → Nat} {len : Int} {c e : Nat → Int} (H : qh_H n dl e) (V : qs_V n lat dl un len c) : ∀ j, j < n → e j + lat j ≤ len := by
  intro j hj
  have h1 := qh_le H V j hj
  have h2 := (V.1 j hj).2
  omega
theorem qx_40 {n : Nat} {lat : Nat → Int} {dl : Nat → Nat → Int} {un : Nat → Nat} (hn : n ≤ 10) (hl : ∀ i, i < n → 1 ≤ lat i ∧ lat i ≤ 4) (hd : ∀ i j, i < j → j < n → dl i j ≤ lat i) : ∃ c, qs_V n lat dl un 40 c := by
  refine ⟨qb_S lat, qs_Vm ?_ (qh_seq (un := un) (fun i hi => (hl i hi).1) hd)⟩
  have := (qh_sum (lat := lat) n fun i hi => (hl i hi).2).1
  omega
