/-- the lexicographically least schedule -/
def qs_X (n : Nat) (lat : Nat → Int) (dl : Nat → Nat → Int) (un : Nat → Nat) (len : Int) (c : Nat → Int) : Prop :=
  qs_V n lat dl un len c ∧ ∀ k, k < n → ∀ c', qs_V n lat dl un len c' → (∀ i, i < k → c' i = c i) → c k ≤ c' k
theorem qs_Xu {n : Nat} {lat : Nat → Int} {dl : Nat → Nat → Int} {un : Nat → Nat} {len : Int} {c c' : Nat → Int} (h : qs_X n lat dl un len c) (h' : qs_X n lat dl un len c') : ∀ i, i < n → c i = c' i := by
  intro i
  induction i using Nat.strongRecOn with
  | _ i ih =>
    intro hi
    have h1 := h.2 i hi c' h'.1 fun j hj => (ih j hj (by omega)).symm
    have h2 := h'.2 i hi c h.1 fun j hj => ih j hj (by omega)
    omega
/-- k beside those before it -/
def qr_F (dl : Nat → Nat → Int) (un : Nat → Nat) (k : Nat) (w : Nat → Int) : Prop :=
  (∀ j, j < k → 0 ≤ dl j k → w j + dl j k ≤ w k) ∧ (∀ i j, i < j → j < k → w i = w k → w j = w k → False) ∧ (∀ j, j < k → w j = w k → un j = un k → un j = 0)
theorem qr_Fc {dl : Nat → Nat → Int} {un : Nat → Nat} {k : Nat} {w w' : Nat → Int} (h : ∀ i, i ≤ k → w i = w' i) (F : qr_F dl un k w) : qr_F dl un k w' := by
  obtain ⟨f1, f2, f3⟩ := F
  refine ⟨fun j hj hd => ?_, fun i j hij hj h1 h2 => ?_, fun j hj h1 h2 => ?_⟩
  · rw [← h j (by omega), ← h k (Nat.le_refl k)]; exact f1 j hj hd
  · rw [← h i (by omega), ← h k (Nat.le_refl k)] at h1
    rw [← h j (by omega), ← h k (Nat.le_refl k)] at h2
    exact f2 i j hij hj h1 h2
  · rw [← h j (by omega), ← h k (Nat.le_refl k)] at h1
    exact f3 j hj h1 h2
theorem qr_VF {n : Nat} {lat : Nat → Int} {dl : Nat → Nat → Int} {un : Nat → Nat} {len : Int} {c : Nat → Int} (V : qs_V n lat dl un len c) : ∀ k, k < n → qr_F dl un k c := by
  intro k hk
  obtain ⟨v1, v2, v3, v4⟩ := V
  exact ⟨fun j hj hd => v2 j k hj hk hd, fun i j hij hj h1 h2 => v3 i j k hij hj hk (h1.trans h2.symm) h2, fun j hj h1 h2 => v4 j k hj hk h1 h2⟩
theorem qr_FV {n : Nat} {lat : Nat → Int} {dl : Nat → Nat → Int} {un : Nat → Nat} {len : Int} {c : Nat → Int} (h : ∀ k, k < n → (0 ≤ c k ∧ c k + lat k ≤ len) ∧ qr_F dl un k c) : qs_V n lat dl un len c :=
  ⟨fun i hi => (h i hi).1, fun i j hij hj hd => (h j hj).2.1 i hij hd, fun i j k hij hjk hk h1 h2 => (h k hk).2.2.1 i j hij hjk (h1.trans h2) h2, fun i j hij hj h1 h2 => (h j hj).2.2.2 i hij h1 h2⟩
/-- where the reference's search stands ahead of a step -/
def qr_I (n : Nat) (lat : Nat → Int) (dl : Nat → Nat → Int) (un : Nat → Nat) (len : Int) (k : Nat) (w : Nat → Int) : Prop :=
  k < n ∧ (∀ j, j < k → (0 ≤ w j ∧ w j + lat j ≤ len) ∧ qr_F dl un j w) ∧ (-1 ≤ w k ∧ (w k = -1 ∨ w k + lat k ≤ len)) ∧
  (∀ j, j < k → ∀ c, qs_V n lat dl un len c → (∀ i, i < j → c i = w i) → w j ≤ c j) ∧
  (∀ c, qs_V n lat dl un len c → (∀ i, i < k → c i = w i) → w k < c k)
theorem qr_I0 {n : Nat} {lat : Nat → Int} {dl : Nat → Nat → Int} {un : Nat → Nat} {len : Int} {w : Nat → Int} (hn : 0 < n) (h : w 0 = -1) : qr_I n lat dl un len 0 w :=
  ⟨hn, fun j hj => absurd hj (Nat.not_lt_zero j), ⟨by omega, Or.inl h⟩, fun j hj => absurd hj (Nat.not_lt_zero j), fun c V _ => by have := (V.1 0 hn).1; omega⟩
theorem qr_none {n : Nat} {lat : Nat → Int} {dl : Nat → Nat → Int} {un : Nat → Nat} {len : Int} {w : Nat → Int} (I : qr_I n lat dl un len 0 w) (h : ¬ w 0 + 1 + lat 0 ≤ len) (c : Nat → Int) : ¬ qs_V n lat dl un len c := by
  intro V
  obtain ⟨i0, i1, i2, i3, i4⟩ := I
  have h1 := i4 c V fun i hi => absurd hi (Nat.not_lt_zero i)
  have h2 := (V.1 0 i0).2
  omega
theorem qr_back {n : Nat} {lat : Nat → Int} {dl : Nat → Nat → Int} {un : Nat → Nat} {len : Int} {k : Nat} {w w' : Nat → Int} (I : qr_I n lat dl un len (k + 1) w) (h : ¬ w (k + 1) + 1 + lat (k + 1) ≤ len) (e : ∀ i, i ≤ k → w i = w' i) : qr_I n lat dl un len k w' := by
  obtain ⟨i0, i1, i2, i3, i4⟩ := I
  refine ⟨by omega, fun j hj => ?_, ?_, fun j hj c V hc => ?_, fun c V hc => ?_⟩
  · have h1 := i1 j (by omega)
    rw [← e j (by omega)]
    exact ⟨h1.1, qr_Fc (fun i hi => e i (by omega)) h1.2⟩
  · have h1 := (i1 k (by omega)).1
    rw [← e k (Nat.le_refl k)]
    exact ⟨by omega, Or.inr h1.2⟩
  · rw [← e j (by omega)]
    exact i3 j (by omega) c V fun i hi => by rw [e i (by omega)]; exact hc i hi
  · have hc' : ∀ i, i < k → c i = w i := fun i hi => by rw [e i (by omega)]; exact hc i hi
    have h1 := i3 k (by omega) c V hc'
    rw [← e k (Nat.le_refl k)]
    by_cases x : c k = w k
    · have h2 := i4 c V fun i hi => by
        by_cases y : i = k
        · rw [y]; exact x
        · exact hc' i (by omega)
      have h3 := (V.1 (k + 1) i0).2
      omega
    · omega
theorem qr_at {n : Nat} {lat : Nat → Int} {dl : Nat → Nat → Int} {un : Nat → Nat} {len : Int} {k : Nat} {w : Nat → Int} (I : qr_I n lat dl un len k w) {c : Nat → Int} (V : qs_V n lat dl un len c) (hc : ∀ i, i < k → c i = w i) (x : c k = w k + 1) : qr_F dl un k (qg_up w k (w k + 1)) := by
  refine qr_Fc (w := c) (fun i hi => ?_) (qr_VF V k I.1)
  by_cases y : i = k
  · rw [y, qg_us]; exact x
  · rw [qg_un y]; exact hc i (by omega)
theorem qr_skip {n : Nat} {lat : Nat → Int} {dl : Nat → Nat → Int} {un : Nat → Nat} {len : Int} {k : Nat} {w : Nat → Int} (I : qr_I n lat dl un len k w) (h : w k + 1 + lat k ≤ len) (hF : ¬ qr_F dl un k (qg_up w k (w k + 1))) : qr_I n lat dl un len k (qg_up w k (w k + 1)) := by
  have I' := I
  obtain ⟨i0, i1, i2, i3, i4⟩ := I
  have cu : ∀ j, j ≠ k → qg_up w k (w k + 1) j = w j := fun j h => qg_un h
  refine ⟨i0, fun j hj => ?_, ?_, fun j hj c V hc => ?_, fun c V hc => ?_⟩
  · have h1 := i1 j hj
    rw [cu j (by omega)]
    exact ⟨h1.1, qr_Fc (fun i hi => (cu i (by omega)).symm) h1.2⟩
  · rw [qg_us]; exact ⟨by omega, Or.inr h⟩
  · rw [cu j (by omega)]
    exact i3 j hj c V fun i hi => by have := hc i hi; rw [cu i (by omega)] at this; exact this
  · have hc' : ∀ i, i < k → c i = w i := fun i hi => by have := hc i hi; rw [cu i (by omega)] at this; exact this
    have h1 := i4 c V hc'
    rw [qg_us]
    by_cases x : c k = w k + 1
    · exact absurd (qr_at I' V hc' x) hF
    · omega
theorem qr_pre {n : Nat} {lat : Nat → Int} {dl : Nat → Nat → Int} {un : Nat → Nat} {len : Int} {k : Nat} {w : Nat → Int} (I : qr_I n lat dl un len k w) (h : w k + 1 + lat k ≤ len) (hF : qr_F dl un k (qg_up w k (w k + 1))) :
    (∀ j, j < k + 1 → (0 ≤ qg_up w k (w k + 1) j ∧ qg_up w k (w k + 1) j + lat j ≤ len) ∧ qr_F dl un j (qg_up w k (w k + 1))) ∧
    (∀ j, j < k + 1 → ∀ c, qs_V n lat dl un len c → (∀ i, i < j → c i = qg_up w k (w k + 1) i) → qg_up w k (w k + 1) j ≤ c j) := by
  obtain ⟨i0, i1, i2, i3, i4⟩ := I
  have cu : ∀ j, j ≠ k → qg_up w k (w k + 1) j = w j := fun j h => qg_un h
  refine ⟨fun j hj => ?_, fun j hj c V hc => ?_⟩
  · by_cases y : j = k
    · subst y
      rw [qg_us]
      exact ⟨⟨by omega, h⟩, hF⟩
    · have h1 := i1 j (by omega)
      rw [cu j y]
      exact ⟨h1.1, qr_Fc (fun i hi => (cu i (by omega)).symm) h1.2⟩
  · by_cases y : j = k
    · subst y
      have h1 := i4 c V fun i hi => by have := hc i hi; rw [cu i (by omega)] at this; exact this
      rw [qg_us]
      omega
    · rw [cu j y]
      exact i3 j (by omega) c V fun i hi => by have := hc i hi; rw [cu i (by omega)] at this; exact this
theorem qr_down {n : Nat} {lat : Nat → Int} {dl : Nat → Nat → Int} {un : Nat → Nat} {len : Int} {k : Nat} {w : Nat → Int} (I : qr_I n lat dl un len k w) (h : w k + 1 + lat k ≤ len) (hF : qr_F dl un k (qg_up w k (w k + 1))) (hk : k + 1 < n) :
    qr_I n lat dl un len (k + 1) (qg_up (qg_up w k (w k + 1)) (k + 1) (-1)) := by
  obtain ⟨p1, p2⟩ := qr_pre I h hF
  generalize qg_up w k (w k + 1) = v at p1 p2
  have cu : ∀ j, j ≠ k + 1 → qg_up v (k + 1) (-1) j = v j := fun j h => qg_un h
  refine ⟨hk, fun j hj => ?_, ?_, fun j hj c V hc => ?_, fun c V hc => ?_⟩
  · have h1 := p1 j hj
    rw [cu j (by omega)]
    exact ⟨h1.1, qr_Fc (fun i hi => (cu i (by omega)).symm) h1.2⟩
  · rw [qg_us]; exact ⟨by omega, Or.inl rfl⟩
  · rw [cu j (by omega)]
    exact p2 j hj c V fun i hi => by have := hc i hi; rw [cu i (by omega)] at this; exact this
  · rw [qg_us]
    have := (V.1 (k + 1) hk).1
    omega
theorem qr_done {n : Nat} {lat : Nat → Int} {dl : Nat → Nat → Int} {un : Nat → Nat} {len : Int} {k : Nat} {w : Nat → Int} (I : qr_I n lat dl un len k w) (h : w k + 1 + lat k ≤ len) (hF : qr_F dl un k (qg_up w k (w k + 1))) (hk : k + 1 = n) :
    qs_X n lat dl un len (qg_up w k (w k + 1)) := by
  obtain ⟨p1, p2⟩ := qr_pre I h hF
  exact ⟨qr_FV fun j hj => p1 j (by omega), fun j hj c V hc => p2 j (by omega) c V hc⟩
/-- no one before its head, as far as placed -/
theorem qr_head {n : Nat} {dl : Nat → Nat → Int} {un : Nat → Nat} {e w : Nat → Int} (H : qh_H n dl e) {k : Nat} (hk : k ≤ n) (h : ∀ j, j < k → 0 ≤ w j ∧ qr_F dl un j w) : ∀ j, j < k → e j ≤ w j := by
  intro j
  induction j using Nat.strongRecOn with
  | _ j ih =>
    intro hj
    rcases H.2.2 j (by omega) with h1 | ⟨i, hi, hd, h1⟩
    · have := (h j hj).1
      omega
    · have h2 := ih i hi (by omega)
      have h3 := (h j hj).2.1 i hi hd
      omega
/-- the measure: what is left to do at the levels up to k -/
def qr_R (M e B w : Nat → Int) (j : Nat) : Int := (M j - w j) + (M j - 1 - (if w j < e j then e j - 1 else w j)) * B (j + 1)
def qr_mu (M e B : Nat → Int) (k : Nat) (w : Nat → Int) : Int := qb_S (qr_R M e B w) (k + 1)
theorem qr_Rc {M e B w w' : Nat → Int} {j : Nat} (h : w j = w' j) : qr_R M e B w j = qr_R M e B w' j := by unfold qr_R; rw [h]
theorem qr_muB {M e B : Nat → Int} {k : Nat} {w w' : Nat → Int} (hw : w (k + 1) + 1 = M (k + 1)) (he : e (k + 1) ≤ M (k + 1)) (h : ∀ i, i ≤ k → w i = w' i) : qr_mu M e B (k + 1) w = qr_mu M e B k w' + 1 := by
  have h1 : qr_mu M e B (k + 1) w = qb_S (qr_R M e B w) (k + 1) + qr_R M e B w (k + 1) := rfl
  have h2 : qb_S (qr_R M e B w) (k + 1) = qr_mu M e B k w' := qb_Sc (k + 1) fun j hj => qr_Rc (h j (by omega))
  have h3 : qr_R M e B w (k + 1) = 1 := by
    unfold qr_R
    have h4 : (M (k + 1) - 1 - (if w (k + 1) < e (k + 1) then e (k + 1) - 1 else w (k + 1))) = 0 := by
      split <;> omega
    rw [h4, Int.zero_mul]
    omega
  omega
theorem qr_muS {M e B : Nat → Int} {k : Nat} {w : Nat → Int} (hB : 0 ≤ B (k + 1)) : qr_mu M e B k (qg_up w k (w k + 1)) + 1 ≤ qr_mu M e B k w := by
  have h1 : qr_mu M e B k w = qb_S (qr_R M e B w) k + qr_R M e B w k := rfl
  have h2 : qr_mu M e B k (qg_up w k (w k + 1)) = qb_S (qr_R M e B (qg_up w k (w k + 1))) k + qr_R M e B (qg_up w k (w k + 1)) k := rfl
  have h3 : qb_S (qr_R M e B (qg_up w k (w k + 1))) k = qb_S (qr_R M e B w) k := qb_Sc k fun j hj => qr_Rc (qg_un (by omega))
  have h4 : qr_R M e B (qg_up w k (w k + 1)) k + 1 ≤ qr_R M e B w k := by
    unfold qr_R
    rw [qg_us]
    have h5 : (M k - 1 - (if w k + 1 < e k then e k - 1 else w k + 1)) ≤ (M k - 1 - (if w k < e k then e k - 1 else w k)) := by
      split <;> split <;> omega
    have h6 := Int.mul_le_mul_of_nonneg_right h5 hB
    omega
  omega
theorem qr_muD {M e B : Nat → Int} {k : Nat} {w : Nat → Int} (he : e k ≤ w k + 1) (he1 : 0 ≤ e (k + 1)) (hB : B (k + 1) = M (k + 1) + 1 + (M (k + 1) - e (k + 1)) * B (k + 2)) :
    qr_mu M e B (k + 1) (qg_up (qg_up w k (w k + 1)) (k + 1) (-1)) + 1 = qr_mu M e B k w := by
  generalize hv : qg_up (qg_up w k (w k + 1)) (k + 1) (-1) = v
  have v1 : v (k + 1) = -1 := by rw [← hv]; exact qg_us
  have v2 : v k = w k + 1 := by rw [← hv, qg_un (by omega)]; exact qg_us
  have v3 : ∀ j, j < k → v j = w j := fun j hj => by rw [← hv, qg_un (by omega), qg_un (by omega)]
  have h1 : qr_mu M e B k w = qb_S (qr_R M e B w) k + qr_R M e B w k := rfl
  have h2 : qr_mu M e B (k + 1) v = qb_S (qr_R M e B v) k + qr_R M e B v k + qr_R M e B v (k + 1) := rfl
  have h3 : qb_S (qr_R M e B v) k = qb_S (qr_R M e B w) k := qb_Sc k fun j hj => qr_Rc (v3 j hj)
  have h4 : qr_R M e B v (k + 1) = B (k + 1) := by
    unfold qr_R
    rw [v1, if_pos (by omega), hB]
    have : M (k + 1) - 1 - (e (k + 1) - 1) = M (k + 1) - e (k + 1) := by omega
    rw [this]
    have : M (k + 1) - -1 = M (k + 1) + 1 := by omega
    rw [this]
  have h5 : qr_R M e B v k + B (k + 1) + 1 = qr_R M e B w k := by
    unfold qr_R
    rw [v2, if_neg (by omega)]
    have h6 : (M k - 1 - (if w k < e k then e k - 1 else w k)) = (M k - 1 - (w k + 1)) + 1 := by split <;> omega
    rw [h6, Int.add_mul, Int.one_mul]
    omega
  omega
theorem qr_mu0 {M e B : Nat → Int} {k : Nat} {w : Nat → Int} (hB : ∀ j, j ≤ k → 0 ≤ B (j + 1)) (hw : ∀ j, j ≤ k → w j ≤ M j - 1 ∧ e j ≤ M j) : 0 ≤ qr_mu M e B k w := by
  refine qb_S0 (k + 1) fun j hj => ?_
  have h1 := hw j (by omega)
  have h2 : 0 ≤ (M j - 1 - (if w j < e j then e j - 1 else w j)) := by split <;> omega
  have h3 := Int.mul_nonneg h2 (hB j (by omega))
  unfold qr_R
  omega
