/-- what narrowing keeps: schedules within, windows within those it began with -/
def qn_J (n : Nat) (lat : Nat → Int) (dl : Nat → Nat → Int) (un : Nat → Nat) (len : Int) (t lo e l : Nat → Int) : Prop :=
  qn_K n lat dl un len t lo e l ∧ (∀ i, i < n → t i ≠ -1 → t i ≤ e i ∧ l i ≤ t i) ∧ (∀ i, i < n → t i = -1 → lo i ≤ e i ∧ l i + lat i ≤ len)
theorem qn_J0 {n : Nat} {lat : Nat → Int} {dl : Nat → Nat → Int} {un : Nat → Nat} {len : Int} {t lo e l : Nat → Int} (h1 : ∀ i, i < n → t i ≠ -1 → e i = t i ∧ l i = t i) (h2 : ∀ i, i < n → t i = -1 → e i = lo i ∧ l i = len - lat i) : qn_J n lat dl un len t lo e l := by
  refine ⟨fun c C i hi => ?_, fun i hi ti => ?_, fun i hi ti => ?_⟩
  · by_cases z : t i = -1
    · have h := h2 i hi z
      have h3 := C.2.2 i hi z
      have h4 := (C.1.1 i hi).2
      omega
    · have h := h1 i hi z
      have h3 := C.2.1 i hi z
      omega
  · have h := h1 i hi ti
    omega
  · have h := h2 i hi ti
    omega
theorem qn_Je {n : Nat} {lat : Nat → Int} {dl : Nat → Nat → Int} {un : Nat → Nat} {len : Int} {t lo e l : Nat → Int} {j : Nat} {x : Int} (J : qn_J n lat dl un len t lo e l) (hx : e j ≤ x) (h : ∀ c, qo_C n lat dl un len t lo c → x ≤ c j) : qn_J n lat dl un len t lo (qg_up e j x) l := by
  refine ⟨qn_Kge J.1 h, fun i hi ti => ?_, fun i hi ti => ?_⟩
  · have h1 := J.2.1 i hi ti
    by_cases y : i = j
    · rw [y] at h1 ⊢; rw [qg_us]; omega
    · rw [qg_un y]; exact h1
  · have h1 := J.2.2 i hi ti
    by_cases y : i = j
    · rw [y] at h1 ⊢; rw [qg_us]; omega
    · rw [qg_un y]; exact h1
theorem qn_Jl {n : Nat} {lat : Nat → Int} {dl : Nat → Nat → Int} {un : Nat → Nat} {len : Int} {t lo e l : Nat → Int} {j : Nat} {x : Int} (J : qn_J n lat dl un len t lo e l) (hx : x ≤ l j) (h : ∀ c, qo_C n lat dl un len t lo c → c j ≤ x) : qn_J n lat dl un len t lo e (qg_up l j x) := by
  refine ⟨qn_Kgl J.1 h, fun i hi ti => ?_, fun i hi ti => ?_⟩
  · have h1 := J.2.1 i hi ti
    by_cases y : i = j
    · rw [y] at h1 ⊢; rw [qg_us]; omega
    · rw [qg_un y]; exact h1
  · have h1 := J.2.2 i hi ti
    by_cases y : i = j
    · rw [y] at h1 ⊢; rw [qg_us]; omega
    · rw [qg_un y]; exact h1
theorem qn_Jc {n : Nat} {lat : Nat → Int} {dl : Nat → Nat → Int} {un : Nat → Nat} {len : Int} {t lo e l e' l' : Nat → Int} (J : qn_J n lat dl un len t lo e l) (h : ∀ i, i < n → e' i = e i ∧ l' i = l i) : qn_J n lat dl un len t lo e' l' :=
  ⟨qn_Kc J.1 h, fun i hi ti => by rw [(h i hi).1, (h i hi).2]; exact J.2.1 i hi ti, fun i hi ti => by rw [(h i hi).1, (h i hi).2]; exact J.2.2 i hi ti⟩
/-- edges kept by e: all into the first j, of those into j the first i -/
def qn_E (wt : Nat → Nat → Int) (e : Nat → Int) (j i : Nat) : Prop :=
  (∀ a b, a < b → b < j → 0 ≤ wt a b → e a + wt a b ≤ e b) ∧ (∀ a, a < i → 0 ≤ wt a j → e a + wt a j ≤ e j)
theorem qn_E0 {wt : Nat → Nat → Int} {e : Nat → Int} : qn_E wt e 0 0 := ⟨fun _ b _ h => absurd h (Nat.not_lt_zero b), fun a h => absurd h (Nat.not_lt_zero a)⟩
theorem qn_En {wt : Nat → Nat → Int} {e : Nat → Int} {j : Nat} (E : qn_E wt e j j) : qn_E wt e (j + 1) 0 := by
  refine ⟨fun a b hab hb h => ?_, fun a h => absurd h (Nat.not_lt_zero a)⟩
  by_cases x : b = j
  · subst x; exact E.2 a hab h
  · exact E.1 a b hab (by omega) h
theorem qn_Ek {wt : Nat → Nat → Int} {e : Nat → Int} {j i : Nat} (E : qn_E wt e j i) (h : 0 ≤ wt i j → e i + wt i j ≤ e j) : qn_E wt e j (i + 1) := by
  refine ⟨E.1, fun a ha hw => ?_⟩
  by_cases x : a = i
  · subst x; exact h hw
  · exact E.2 a (by omega) hw
theorem qn_Eu {wt : Nat → Nat → Int} {e : Nat → Int} {j i : Nat} (E : qn_E wt e j i) (hij : i < j) (h : e j ≤ e i + wt i j) : qn_E wt (qg_up e j (e i + wt i j)) j (i + 1) := by
  refine ⟨fun a b hab hb hw => ?_, fun a ha hw => ?_⟩
  · rw [qg_un (show a ≠ j by omega), qg_un (show b ≠ j by omega)]; exact E.1 a b hab hb hw
  · rw [qg_us, qg_un (show a ≠ j by omega)]
    by_cases x : a = i
    · subst x; exact Int.le_refl _
    · have := E.2 a (by omega) hw
      omega
/-- windows that only shrink -/
def qn_D (n : Nat) (e0 l0 e l : Nat → Int) : Prop := ∀ i, i < n → e0 i ≤ e i ∧ l i ≤ l0 i
theorem qn_Dr {n : Nat} {e l : Nat → Int} : qn_D n e l e l := fun _ _ => ⟨Int.le_refl _, Int.le_refl _⟩
theorem qn_De {n : Nat} {e0 l0 e l : Nat → Int} {j : Nat} {x : Int} (D : qn_D n e0 l0 e l) (h : e j ≤ x) : qn_D n e0 l0 (qg_up e j x) l := by
  intro i hi
  have h1 := D i hi
  by_cases y : i = j
  · rw [y] at h1 ⊢; rw [qg_us]; omega
  · rw [qg_un y]; exact h1
theorem qn_Dl {n : Nat} {e0 l0 e l : Nat → Int} {j : Nat} {x : Int} (D : qn_D n e0 l0 e l) (h : x ≤ l j) : qn_D n e0 l0 e (qg_up l j x) := by
  intro i hi
  have h1 := D i hi
  by_cases y : i = j
  · rw [y] at h1 ⊢; rw [qg_us]; omega
  · rw [qg_un y]; exact h1
def qn_w (n : Nat) (e l : Nat → Int) : Int := qb_S (fun i => l i - e i + 1) n
theorem qn_wD {n : Nat} {e0 l0 e l : Nat → Int} (D : qn_D n e0 l0 e l) : qn_w n e l ≤ qn_w n e0 l0 :=
  qn_Sm n fun i hi => by have := D i hi; show l i - e i + 1 ≤ l0 i - e0 i + 1; omega
theorem qn_wDs {n : Nat} {e0 l0 e l : Nat → Int} {j : Nat} (hj : j < n) (D : qn_D n e0 l0 e l) (h : l j - e j + 1 ≤ l0 j - e0 j) : qn_w n e l + 1 ≤ qn_w n e0 l0 :=
  qn_Ss n j hj (fun i hi => by have := D i hi; show l i - e i + 1 ≤ l0 i - e0 i + 1; omega) (by show l j - e j + 1 + 1 ≤ l0 j - e0 j + 1; omega)
theorem qn_w1 {n : Nat} {e l : Nat → Int} (hn : 1 ≤ n) (h : ∀ i, i < n → e i ≤ l i) : 1 ≤ qn_w n e l := by
  have h1 := qn_Sm (R := fun i => if i = 0 then 1 else 0) (Q := fun i => l i - e i + 1) n fun i hi => by
    have := h i hi
    show (if i = 0 then (1 : Int) else 0) ≤ l i - e i + 1
    split <;> omega
  have h2 : ∀ k, 1 ≤ k → qb_S (fun i => if i = 0 then (1 : Int) else 0) k = 1 := by
    intro k
    induction k with
    | zero => intro h; omega
    | succ k ih =>
      intro _
      show qb_S (fun i => if i = 0 then (1 : Int) else 0) k + (if k = 0 then (1 : Int) else 0) = 1
      by_cases z : k = 0
      · subst z; rfl
      · rw [ih (by omega), if_neg z]; rfl
  rw [h2 n hn] at h1
  exact h1
/-- a stretch looked at and left as it is -/
def qn_Z (n : Nat) (un : Nat → Nat) (t e l : Nat → Int) (i j u : Nat) : Prop :=
  e i ≤ l j → 0 ≤ qn_sp n un t e l u (e i) (l j) ∧ (qn_sp n un t e l u (e i) (l j) = 0 → ∀ m, m < n → qn_us un u m → ((e i ≤ e m ∧ e m ≤ l j) ↔ (e i ≤ l m ∧ l m ≤ l j)))
/-- at rest, narrowing has kept its promise -/
theorem qn_fin {n : Nat} {lat : Nat → Int} {dl wt : Nat → Nat → Int} {un : Nat → Nat} {len : Int} {t lo e l : Nat → Int} (hu : ∀ i, i < n → un i ≤ 2) (hlo : ∀ i, i < n → t i = -1 → 0 ≤ lo i) (J : qn_J n lat dl un len t lo e l) (E : qn_E wt e n 0) (h1 : ∀ i, i < n → e i ≤ l i)
    (hZ : ∀ i j u, i < n → j < n → u ≤ 2 → qn_Z n un t e l i j u) : qo_S n lat dl wt un len t lo true e := by
  refine ⟨fun c C => ⟨rfl, fun i hi => (J.1 c C i hi).1⟩, fun _ => qn_rest hu (fun i hi ti => ?_) (fun i hi ti => ?_) (fun i j hij hj hw => E.1 i j hij hj hw) hZ⟩
  · have a := J.2.2 i hi ti
    have b := hlo i hi ti
    have d := h1 i hi
    omega
  · have a := J.2.1 i hi ti
    have d := h1 i hi
    omega
theorem qn_no {n : Nat} {lat : Nat → Int} {dl wt : Nat → Nat → Int} {un : Nat → Nat} {len : Int} {t lo e : Nat → Int} (h : ∀ c, ¬ qo_C n lat dl un len t lo c) : qo_S n lat dl wt un len t lo false e :=
  ⟨fun c C => absurd C (h c), fun h => absurd h (by decide)⟩
