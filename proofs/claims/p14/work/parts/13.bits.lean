/-! a mask's bits, as the component tests them -/
def zb_t (m : Int32) (i : Nat) : Prop := ¬ (m >>> (nI i &&& 31)) &&& 1 = 0
theorem zb_b1 : ∀ i, i < 32 → bt 1 i = decide (i = 0) := by decide +kernel
theorem zb_1 (x : Int32) : x &&& 1 = 0 ↔ bt x 0 = false := by
  constructor
  · intro h
    have h1 := b_and x 1 0
    rw [h, b_0, zb_b1 0 (by decide)] at h1
    simpa using h1.symm
  · intro h
    refine b_ext fun i hi => ?_
    rw [b_and, b_0, zb_b1 i hi]
    by_cases z : i = 0
    · subst z; rw [h]; rfl
    · rw [decide_eq_false z, Bool.and_false]
theorem zb_bt {m : Int32} {i : Nat} (hi : i < 32) : zb_t m i ↔ bt m i = true := by
  unfold zb_t
  rw [zb_1, b_sshr i hi m (by decide), if_pos (by omega), Nat.add_zero]
  simp
theorem zb_0 {i : Nat} (hi : i < 32) : ¬ zb_t 0 i := by
  rw [zb_bt hi, b_0]
  decide
theorem zb_or {m : Int32} {i j : Nat} (hi : i < 32) (hj : j < 32) : zb_t (m ||| ((1 : Int32) <<< (nI i &&& 31))) j ↔ (zb_t m j ∨ j = i) := by
  rw [zb_bt hj, zb_bt hj, b_or, b_shl i hi 1 hj]
  by_cases h : j = i
  · subst h
    rw [Nat.sub_self, zb_b1 0 (by decide)]
    simp
  · by_cases h2 : i ≤ j
    · rw [zb_b1 (j - i) (by omega), decide_eq_false (show ¬ j - i = 0 by omega)]
      simp [h]
    · rw [decide_eq_false h2]
      simp [h]
