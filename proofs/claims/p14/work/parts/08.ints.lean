/-! small ints by their values -/
theorem zi_add {a b : Int32} {x y : Int} (ha : a.toInt = x) (hb : b.toInt = y) (h1 : -1000000000 ≤ x + y := by omega) (h2 : x + y ≤ 1000000000 := by omega) : (a + b).toInt = x + y := by
  rw [Int32.toInt_add, ha, hb]
  exact Int.bmod_eq_of_le (by omega) (by omega)
theorem zi_sub {a b : Int32} {x y : Int} (ha : a.toInt = x) (hb : b.toInt = y) (h1 : -1000000000 ≤ x - y := by omega) (h2 : x - y ≤ 1000000000 := by omega) : (a - b).toInt = x - y := by
  rw [Int32.toInt_sub, ha, hb]
  exact Int.bmod_eq_of_le (by omega) (by omega)
theorem zi_mul {a b : Int32} {x y : Int} (ha : a.toInt = x) (hb : b.toInt = y) (h1 : -1000000000 ≤ x * y) (h2 : x * y ≤ 1000000000) : (a * b).toInt = x * y := by
  rw [Int32.toInt_mul, ha, hb]
  exact Int.bmod_eq_of_le (by omega) (by omega)
theorem zi_le {a b : Int32} {x y : Int} (ha : a.toInt = x) (hb : b.toInt = y) : a ≤ b ↔ x ≤ y := by
  rw [Int32.le_iff_toInt_le, ha, hb]
theorem zi_lt {a b : Int32} {x y : Int} (ha : a.toInt = x) (hb : b.toInt = y) : a < b ↔ x < y := by
  rw [Int32.lt_iff_toInt_lt, ha, hb]
theorem zi_eq {a b : Int32} {x y : Int} (ha : a.toInt = x) (hb : b.toInt = y) : a = b ↔ x = y := by
  rw [← Int32.toInt_inj, ha, hb]
theorem zi_nI {n : Nat} (h : n < 2 ^ 31) : (nI n).toInt = (n : Int) := nI_toInt h
theorem zi_of {a : Int32} {x : Int} (ha : a.toInt = x) : a = Int32.ofInt x := by rw [← ha, Int32.ofInt_toInt]
/-- branches by values -/
theorem zi_bl {a b : Int32} {x y : Int} {A B : Prop} (ha : a.toInt = x) (hb : b.toInt = y) (f : x ≤ y → A) (g : y < x → B) : (a ≤ b → A) ∧ (¬ a ≤ b → B) :=
  ⟨fun h => f ((zi_le ha hb).mp h), fun h => g (by have q : ¬ x ≤ y := fun z => h ((zi_le ha hb).mpr z); omega)⟩
theorem zi_bt {a b : Int32} {x y : Int} {A B : Prop} (ha : a.toInt = x) (hb : b.toInt = y) (f : x < y → A) (g : y ≤ x → B) : (a < b → A) ∧ (¬ a < b → B) :=
  ⟨fun h => f ((zi_lt ha hb).mp h), fun h => g (by have q : ¬ x < y := fun z => h ((zi_lt ha hb).mpr z); omega)⟩
theorem zi_be {a b : Int32} {x y : Int} {A B : Prop} (ha : a.toInt = x) (hb : b.toInt = y) (f : x = y → A) (g : x ≠ y → B) : (a = b → A) ∧ (¬ a = b → B) :=
  ⟨fun h => f ((zi_eq ha hb).mp h), fun h => g (fun z => h ((zi_eq ha hb).mpr z))⟩
