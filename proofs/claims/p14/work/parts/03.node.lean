/-- waits: the delays, but one where two of one scarce unit would share a cycle -/
def qw_W (n : Nat) (dl wt : Nat → Nat → Int) (un : Nat → Nat) : Prop :=
  ∀ i j, i < j → j < n → wt i j = dl i j ∨ (dl i j = 0 ∧ wt i j = 1 ∧ un i = un j ∧ un i ≠ 0)
theorem qw_V {n : Nat} {lat : Nat → Int} {dl wt : Nat → Nat → Int} {un : Nat → Nat} {len : Int} {c : Nat → Int} (hw : qw_W n dl wt un) (V : qs_V n lat dl un len c) {i j : Nat} (hij : i < j) (hj : j < n) (h : 0 ≤ wt i j) : c i + wt i j ≤ c j := by
  rcases hw i j hij hj with e | ⟨e0, e1, e2, e3⟩
  · rw [e] at h ⊢
    exact V.2.1 i j hij hj h
  · have h1 := V.2.1 i j hij hj (by omega)
    by_cases x : c i = c j
    · exact absurd (V.2.2.2 i j hij hj x e2) e3
    · omega
theorem qw_d {n : Nat} {dl wt : Nat → Nat → Int} {un : Nat → Nat} (hw : qw_W n dl wt un) {i j : Nat} (hij : i < j) (hj : j < n) (h : 0 ≤ dl i j) : dl i j ≤ wt i j ∧ 0 ≤ wt i j := by
  rcases hw i j hij hj with e | ⟨e0, e1, _, _⟩
  · omega
  · omega
/-- a schedule that goes on with trial t, the unset ones not before lo -/
def qo_C (n : Nat) (lat : Nat → Int) (dl : Nat → Nat → Int) (un : Nat → Nat) (len : Int) (t lo c : Nat → Int) : Prop :=
  qs_V n lat dl un len c ∧ (∀ i, i < n → t i ≠ -1 → c i = t i) ∧ (∀ i, i < n → t i = -1 → lo i ≤ c i)
/-- what narrowing leaves behind where it answers true -/
def qo_O (n : Nat) (lat : Nat → Int) (wt : Nat → Nat → Int) (un : Nat → Nat) (len : Int) (t e : Nat → Int) : Prop :=
  (∀ i, i < n → t i = -1 → 0 ≤ e i ∧ e i + lat i ≤ len) ∧
  (∀ i, i < n → t i ≠ -1 → e i = t i) ∧
  (∀ i j, i < j → j < n → 0 ≤ wt i j → e i + wt i j ≤ e j) ∧
  (∀ i j k, i < j → j < k → k < n → t i ≠ -1 → t j ≠ -1 → t k ≠ -1 → t i = t j → t j = t k → False) ∧
  (∀ i j, i < j → j < n → t i ≠ -1 → t j ≠ -1 → t i = t j → un i = un j → un i = 0) ∧
  (∀ i j, i < n → j < n → t i = -1 → t j ≠ -1 → e i = t j → un i = un j → un i = 0) ∧
  (∀ i j k, i < n → j < k → k < n → t i = -1 → t j ≠ -1 → t k ≠ -1 → t j = t k → e i ≠ t j)
/-- what narrowing promises -/
def qo_S (n : Nat) (lat : Nat → Int) (dl wt : Nat → Nat → Int) (un : Nat → Nat) (len : Int) (t lo : Nat → Int) (b : Bool) (e : Nat → Int) : Prop :=
  (∀ c, qo_C n lat dl un len t lo c → b = true ∧ ∀ i, i < n → e i ≤ c i) ∧
  (b = true → qo_O n lat wt un len t e)
/-- the first in line -/
def qo_T (n : Nat) (t e : Nat → Int) (i : Nat) : Prop := i < n ∧ t i = -1 ∧ ∀ j, j < n → t j = -1 → e i ≤ e j ∧ (j < i → e i < e j)
/-- its rivals -/
def qo_R (n : Nat) (t e : Nat → Int) (i j : Nat) : Prop := i < j ∧ j < n ∧ t j = -1 ∧ e j = e i
/-- where those left may go once k has cycle x -/
def qo_lk (k : Nat) (x : Int) : Nat → Int := fun j => if k < j then x else x + 1
theorem qo_lkg {k j : Nat} {x : Int} (h : k < j) : qo_lk k x j = x := if_pos h
theorem qo_lkl {k j : Nat} {x : Int} (h : ¬ k < j) : qo_lk k x j = x + 1 := if_neg h
/-- the least one of finitely many -/
theorem qo_least {p : Nat → Prop} : ∀ n, (∃ i, i < n ∧ p i) → ∃ k, k < n ∧ p k ∧ ∀ j, j < k → ¬ p j := by
  intro n
  induction n with
  | zero => intro ⟨i, hi, _⟩; exact absurd hi (Nat.not_lt_zero i)
  | succ n ih =>
    intro ⟨i, hi, hp⟩
    by_cases h : ∃ i, i < n ∧ p i
    · obtain ⟨k, hk, h1, h2⟩ := ih h
      exact ⟨k, by omega, h1, h2⟩
    · refine ⟨i, hi, hp, fun j hj pj => h ⟨j, by omega, pj⟩⟩
/-- NOTHING IS MISSED: a node with a schedule has a child with one -/
theorem qo_kid {n : Nat} {lat : Nat → Int} {dl wt : Nat → Nat → Int} {un : Nat → Nat} {len : Int} {t lo e : Nat → Int} (hw : qw_W n dl wt un) (S : qo_S n lat dl wt un len t lo true e) {i : Nat} (T : qo_T n t e i) {c : Nat → Int} (C : qo_C n lat dl un len t lo c) :
    ∃ k, (k = i ∨ qo_R n t e i k) ∧ ∃ c', qo_C n lat dl un len (qg_up t k (e i)) (qo_lk k (e i)) c' := by
  obtain ⟨hi, ti, ht⟩ := T
  obtain ⟨o1, o2, o3, o4, o5, o6, o7⟩ := S.2 rfl
  have hec := (S.1 c C).2
  obtain ⟨V, c1, c2⟩ := C
  by_cases h : ∃ k, k < n ∧ (t k = -1 ∧ c k = e i)
  · obtain ⟨k, hk, ⟨tk, ck⟩, hmin⟩ := qo_least n h
    have h1 := ht k hk tk
    have h2 := hec k hk
    refine ⟨k, ?_, c, V, fun j hj hz => ?_, fun j hj hz => ?_⟩
    · by_cases x : k = i
      · exact Or.inl x
      · refine Or.inr ⟨?_, hk, tk, by omega⟩
        by_cases y : k < i
        · have := h1.2 y
          omega
        · omega
    · by_cases x : j = k
      · rw [x, qg_us]; exact ck
      · rw [qg_un x] at hz ⊢
        exact c1 j hj hz
    · by_cases x : j = k
      · rw [x, qg_us] at hz
        have := (o1 i hi ti).1
        omega
      · rw [qg_un x] at hz
        have h3 := ht j hj hz
        have h4 := hec j hj
        by_cases y : k < j
        · rw [qo_lkg y]; omega
        · rw [qo_lkl y]
          have h5 := hmin j (by omega)
          have h6 : c j ≠ e i := fun z => h5 ⟨hz, z⟩
          omega
  · have hno : ∀ k, k < n → t k = -1 → c k ≠ e i := fun k hk tk ck => h ⟨k, hk, tk, ck⟩
    have cu : ∀ j, j ≠ i → qg_up c i (e i) j = c j := fun j hj => qg_un hj
    have ci : qg_up c i (e i) i = e i := qg_us
    have hei := hec i hi
    have hs : ∀ j, j < n → c j = e i → t j ≠ -1 ∧ t j = e i := by
      intro j hj x
      have h1 : t j ≠ -1 := fun y => hno j hj y x
      exact ⟨h1, by rw [← c1 j hj h1]; exact x⟩
    refine ⟨i, Or.inl rfl, qg_up c i (e i), ⟨fun j hj => ?_, fun a b hab hb hd => ?_, fun a b d hab hbd hd h1 h2 => ?_, fun a b hab hb h1 h2 => ?_⟩, fun j hj hz => ?_, fun j hj hz => ?_⟩
    · by_cases x : j = i
      · rw [x, ci]; exact o1 i hi ti
      · rw [cu j x]; exact V.1 j hj
    · by_cases x : b = i
      · subst x
        rw [ci, cu a (by omega)]
        have h1 := qw_d hw hab hb hd
        have h2 := o3 a b hab hb h1.2
        by_cases y : t a = -1
        · have h3 := (ht a (by omega) y).2 hab
          omega
        · rw [c1 a (by omega) y, ← o2 a (by omega) y]; omega
      · have h1 := V.2.1 a b hab hb hd
        rw [cu b x]
        by_cases y : a = i
        · subst y; rw [ci]; omega
        · rw [cu a y]; exact h1
    · by_cases xa : a = i
      · subst xa
        rw [ci, cu b (by omega)] at h1
        rw [cu b (by omega), cu d (by omega)] at h2
        have hb' := hs b (by omega) h1.symm
        have hd' := hs d hd (by omega)
        exact o7 a b d hi hbd hd ti hb'.1 hd'.1 (by omega) (by omega)
      · by_cases xb : b = i
        · subst xb
          rw [ci, cu a xa] at h1
          rw [ci, cu d (by omega)] at h2
          have ha' := hs a (by omega) h1
          have hd' := hs d hd h2.symm
          exact o7 b a d hi (by omega) hd ti ha'.1 hd'.1 (by omega) (by omega)
        · by_cases xd : d = i
          · subst xd
            rw [cu a xa, cu b xb] at h1
            rw [ci, cu b xb] at h2
            have ha' := hs a (by omega) (by omega)
            have hb' := hs b (by omega) h2
            exact o7 d a b hi hab (by omega) ti ha'.1 hb'.1 (by omega) (by omega)
          · rw [cu a xa, cu b xb] at h1
            rw [cu b xb, cu d xd] at h2
            exact V.2.2.1 a b d hab hbd hd h1 h2
    · by_cases xa : a = i
      · subst xa
        rw [ci, cu b (by omega)] at h1
        have hb' := hs b hb h1.symm
        exact o6 a b hi hb ti hb'.1 (by omega) h2
      · by_cases xb : b = i
        · subst xb
          rw [ci, cu a xa] at h1
          have ha' := hs a (by omega) h1
          rw [h2]
          exact o6 b a hi (by omega) ti ha'.1 (by omega) h2.symm
        · rw [cu a xa, cu b xb] at h1
          exact V.2.2.2 a b hab hb h1 h2
    · by_cases x : j = i
      · rw [x, qg_us, qg_us]
      · rw [qg_un x] at hz
        rw [qg_un x, qg_un x]
        exact c1 j hj hz
    · by_cases x : j = i
      · rw [x, qg_us] at hz
        have := (o1 i hi ti).1
        omega
      · rw [qg_un x] at hz
        rw [qg_un x]
        have h3 := (ht j hj hz).1
        have h4 := hec j hj
        have h5 := hno j hj hz
        by_cases y : i < j
        · rw [qo_lkg y]; omega
        · rw [qo_lkl y]; omega
/-- a child's schedule is the node's -/
theorem qo_up {n : Nat} {lat : Nat → Int} {dl : Nat → Nat → Int} {un : Nat → Nat} {len : Int} {t : Nat → Int} {k : Nat} {x : Int} {lo c : Nat → Int} (h : t k = -1) (C : qo_C n lat dl un len (qg_up t k x) lo c) : ∀ i, i < n → t i ≠ -1 → c i = t i := by
  intro i hi hz
  have e : i ≠ k := fun e => hz (by rw [e]; exact h)
  have h1 := C.2.1 i hi (by rw [qg_un e]; exact hz)
  rw [qg_un e] at h1
  exact h1
/-- all set, nothing wrong: a schedule -/
theorem qo_acc {n : Nat} {lat : Nat → Int} {dl wt : Nat → Nat → Int} {un : Nat → Nat} {len : Int} {t e : Nat → Int} (hw : qw_W n dl wt un) (O : qo_O n lat wt un len t e) (ha : ∀ i, i < n → t i ≠ -1) (hr : ∀ i, i < n → t i = -1 ∨ (0 ≤ t i ∧ t i + lat i ≤ len)) : qs_V n lat dl un len t := by
  obtain ⟨o1, o2, o3, o4, o5, o6, o7⟩ := O
  refine ⟨fun i hi => (hr i hi).resolve_left (ha i hi), fun i j hij hj hd => ?_, fun i j k hij hjk hk => o4 i j k hij hjk hk (ha i (by omega)) (ha j (by omega)) (ha k hk), fun i j hij hj => o5 i j hij hj (ha i (by omega)) (ha j hj)⟩
  have h1 := qw_d hw hij hj hd
  have h2 := o3 i j hij hj h1.2
  rw [o2 i (by omega) (ha i (by omega)), o2 j hj (ha j hj)] at h2
  omega
