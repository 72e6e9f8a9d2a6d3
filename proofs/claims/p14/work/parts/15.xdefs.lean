/-- an array by its values -/
def zI (a : Nat → Int32) : Nat → Int := fun i => (a i).toInt
theorem zI_u {a : Nat → Int32} {k : Nat} {v : Int32} : zI (upd a k v) = qg_up (zI a) k v.toInt := by
  funext j
  unfold zI
  by_cases h : j = k
  · subst h; rw [pk_us, qg_us]
  · rw [pk_un h, qg_un h]
theorem zI_eq {a : Nat → Int32} {i : Nat} {x : Int} (h : zI a i = x) : (a i).toInt = x := h
/-- the block as the search sees it: n, latencies, waits, units -/
def xs_H (n : Nat) (ml ll : Int32) (op uo wa : Nat → Int32) (lat : Nat → Int) (wt : Nat → Nat → Int) (un : Nat → Nat) : Prop :=
  1 ≤ n ∧ n ≤ 10 ∧ (∀ i, i < n → (zv_lat ml ll op i).toInt = lat i ∧ 1 ≤ lat i ∧ lat i ≤ 4) ∧ (∀ i j, i < j → j < n → (wa (i * 10 + j)).toInt = wt i j ∧ -1 ≤ wt i j ∧ wt i j ≤ 4) ∧ (∀ i, i < n → uo i = nI (un i) ∧ un i ≤ 2)
/-- windows within, ahead of a round -/
def xs_R (n : Nat) (e l : Nat → Int) : Prop := ∀ i, i < n → 0 ≤ e i ∧ e i ≤ 40 ∧ -1 ≤ l i ∧ l i ≤ 39
theorem xs_Re {n : Nat} {e l : Nat → Int} {j : Nat} {x : Int} (R : xs_R n e l) (h : 0 ≤ x) (h' : x ≤ 40) : xs_R n (qg_up e j x) l := by
  intro i hi
  have h1 := R i hi
  by_cases y : i = j
  · rw [y, qg_us]; rw [y] at h1; omega
  · rw [qg_un y]; exact h1
theorem xs_Rl {n : Nat} {e l : Nat → Int} {j : Nat} {x : Int} (R : xs_R n e l) (h : -1 ≤ x) (h' : x ≤ 39) : xs_R n e (qg_up l j x) := by
  intro i hi
  have h1 := R i hi
  by_cases y : i = j
  · rw [y, qg_us]; rw [y] at h1; omega
  · rw [qg_un y]; exact h1
