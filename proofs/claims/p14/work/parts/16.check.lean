/-! what check looks for -/
def zc_U (n : Nat) (cy : Nat → Int32) : Prop := ∃ i, i < n ∧ cy i = -1
noncomputable def zc_B (n : Nat) (dl : Nat → Nat → Int32) (cy : Nat → Int32) : Prop := ∃ i j, i < j ∧ j < n ∧ 0 ≤ (dl i j).toInt ∧ (cy j).toInt < (cy i).toInt + (dl i j).toInt
/-- how many of the first k share i's cycle and have p -/
noncomputable def zc_n (cy : Nat → Int32) (p : Nat → Prop) (i k : Nat) : Nat := qc_n (fun j => cy j = cy i ∧ p j) k
def zc_V (n : Nat) (cy : Nat → Int32) (p : Nat → Prop) (cap : Nat) : Prop := ∃ i, i < n ∧ cap < zc_n cy p i n
theorem zc_ow {n : Nat} {cy : Nat → Int32} {p : Nat → Prop} : zc_V n cy p 1 ↔ ∃ i, i < n ∧ p i ∧ 1 < zc_n cy p i n := by
  constructor
  · intro ⟨i, hi, h⟩
    obtain ⟨j, hj, e, pj⟩ := qc_ex n (show 1 ≤ zc_n cy p i n by omega)
    refine ⟨j, hj, pj, ?_⟩
    have : zc_n cy p j n = zc_n cy p i n := by unfold zc_n; rw [e]
    omega
  · intro ⟨i, hi, _, h⟩
    exact ⟨i, hi, h⟩
theorem zc_cg {n cap : Nat} {cy : Nat → Int32} {p q : Nat → Prop} (h : ∀ i, i < n → (p i ↔ q i)) : zc_V n cy p cap ↔ zc_V n cy q cap := by
  have e : ∀ i, zc_n cy p i n = zc_n cy q i n := fun i => qc_cong n fun j hj => ⟨fun x => ⟨x.1, (h j hj).mp x.2⟩, fun x => ⟨x.1, (h j hj).mpr x.2⟩⟩
  constructor
  · intro ⟨i, hi, x⟩
    exact ⟨i, hi, by rw [← e]; exact x⟩
  · intro ⟨i, hi, x⟩
    exact ⟨i, hi, by rw [e]; exact x⟩
