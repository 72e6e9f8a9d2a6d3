/-- pairs of set ones outside unit u that share a cycle from f to la -/
noncomputable def qn_F (un : Nat → Nat) (t : Nat → Int) (u : Nat) (f la : Int) : Nat → Nat
  | 0 => 0
  | i + 1 => qn_F un t u f la i + @ite Nat (f ≤ t i ∧ t i ≤ la ∧ un i ≠ u) (Classical.propDecidable _) (qc_n (fun j => t j = t i ∧ un j ≠ u) i) 0
theorem qn_Ft {un : Nat → Nat} {t : Nat → Int} {u : Nat} {f la : Int} {i : Nat} (h : f ≤ t i ∧ t i ≤ la ∧ un i ≠ u) : qn_F un t u f la (i + 1) = qn_F un t u f la i + qc_n (fun j => t j = t i ∧ un j ≠ u) i := by
  show qn_F un t u f la i + _ = _
  rw [if_pos h]
theorem qn_Ff {un : Nat → Nat} {t : Nat → Int} {u : Nat} {f la : Int} {i : Nat} (h : ¬ (f ≤ t i ∧ t i ≤ la ∧ un i ≠ u)) : qn_F un t u f la (i + 1) = qn_F un t u f la i := by
  show qn_F un t u f la i + _ = _
  rw [if_neg h, Nat.add_zero]
theorem qn_Fsplit {un : Nat → Nat} {t : Nat → Int} {u : Nat} {f la : Int} (hf : f ≤ la) : ∀ n, qn_F un t u f la n = qn_F un t u f (la - 1) n + qn_F un t u la la n := by
  intro n
  induction n with
  | zero => rfl
  | succ n ih =>
    by_cases h : f ≤ t n ∧ t n ≤ la ∧ un n ≠ u
    · rw [qn_Ft h]
      by_cases x : t n = la
      · rw [qn_Ff (la := la - 1) (fun y => by have := y.2.1; omega), qn_Ft (f := la) ⟨by omega, by omega, h.2.2⟩]; omega
      · rw [qn_Ft (la := la - 1) ⟨h.1, by have := h.2.1; omega, h.2.2⟩, qn_Ff (f := la) (fun y => x (by have := y.1; have := y.2.1; omega))]; omega
    · rw [qn_Ff h, qn_Ff (la := la - 1) (fun y => h ⟨y.1, by have := y.2.1; omega, y.2.2⟩), qn_Ff (f := la) (fun y => h ⟨by have := y.1; omega, y.2.1, y.2.2⟩)]; exact ih
theorem qn_Fempty {un : Nat → Nat} {t : Nat → Int} {u : Nat} {f la : Int} (hf : la < f) : ∀ n, qn_F un t u f la n = 0 := by
  intro n
  induction n with
  | zero => rfl
  | succ n ih => rw [qn_Ff fun y => by have := y.1; have := y.2.1; omega]; exact ih
theorem qn_F1 {un : Nat → Nat} {t : Nat → Int} {u : Nat} {x : Int} : ∀ n, (qc_n (fun j => t j = x ∧ un j ≠ u) n ≤ 1 → qn_F un t u x x n = 0) ∧ (qc_n (fun j => t j = x ∧ un j ≠ u) n = 2 → qn_F un t u x x n = 1) := by
  intro n
  induction n with
  | zero => exact ⟨fun _ => rfl, fun h => absurd h (by show ¬ (0 = 2); decide)⟩
  | succ n ih =>
    by_cases h : t n = x ∧ un n ≠ u
    · have e : qc_n (fun j => t j = t n ∧ un j ≠ u) n = qc_n (fun j => t j = x ∧ un j ≠ u) n := by rw [h.1]
      rw [qc_t (p := fun j => t j = x ∧ un j ≠ u) h, qn_Ft ⟨by omega, by omega, h.2⟩, e]
      refine ⟨fun y => ?_, fun y => ?_⟩
      · have := ih.1 (by omega)
        omega
      · have := ih.1 (by omega)
        omega
    · rw [qc_f (p := fun j => t j = x ∧ un j ≠ u) h, qn_Ff fun y => h ⟨by have := y.1; have := y.2.1; omega, y.2.2⟩]
      exact ih
/-- a stretch holds two a cycle -/
theorem qn_two {n : Nat} {lat : Nat → Int} {dl : Nat → Nat → Int} {un : Nat → Nat} {len : Int} {c : Nat → Int} (V : qs_V n lat dl un len c) (f : Int) : ∀ d : Nat, qc_n (fun i => f ≤ c i ∧ c i ≤ f + (d : Int) - 1) n ≤ 2 * d := by
  intro d
  induction d with
  | zero => rw [qc_zero n fun i _ h => by have := h.1; have := h.2; omega]; exact Nat.le_refl _
  | succ d ih =>
    have h1 := qc_cov (r := fun i => f ≤ c i ∧ c i ≤ f + ((d + 1 : Nat) : Int) - 1) (p := fun i => f ≤ c i ∧ c i ≤ f + (d : Int) - 1) (q := fun i => c i = f + (d : Int)) n (fun i _ h => by
      by_cases x : c i = f + (d : Int)
      · exact Or.inr x
      · exact Or.inl ⟨h.1, by have := h.2; omega⟩)
    have h2 : qc_n (fun i => c i = f + (d : Int)) n ≤ 2 := qc_le2 n fun i j k hij hjk hk a b d => V.2.2.1 i j k hij hjk hk (by omega) (by omega)
    omega
/-- and of a scarce unit one a cycle, none where the cycle is full without it -/
theorem qn_unit {n : Nat} {lat : Nat → Int} {dl : Nat → Nat → Int} {un : Nat → Nat} {len : Int} {c t : Nat → Int} {u : Nat} (V : qs_V n lat dl un len c) (hc : ∀ i, i < n → t i ≠ -1 → c i = t i) (hu : u ≠ 0) {f : Int} (hf : 0 ≤ f) :
    ∀ d : Nat, qc_n (fun i => (f ≤ c i ∧ c i ≤ f + (d : Int) - 1) ∧ un i = u) n + qn_F un t u f (f + (d : Int) - 1) n ≤ d := by
  intro d
  induction d with
  | zero =>
    rw [qc_zero n fun i _ h => by have := h.1.1; have := h.1.2; omega, qn_Fempty (by omega)]
    exact Nat.le_refl _
  | succ d ih =>
    have e : f + ((d + 1 : Nat) : Int) - 1 = f + (d : Int) := by omega
    rw [e]
    have h1 := qc_cov (r := fun i => (f ≤ c i ∧ c i ≤ f + (d : Int)) ∧ un i = u) (p := fun i => (f ≤ c i ∧ c i ≤ f + (d : Int) - 1) ∧ un i = u) (q := fun i => c i = f + (d : Int) ∧ un i = u) n (fun i _ h => by
      by_cases x : c i = f + (d : Int)
      · exact Or.inr ⟨x, h.2⟩
      · exact Or.inl ⟨⟨h.1.1, by have := h.1.2; omega⟩, h.2⟩)
    have h2 := qn_Fsplit (un := un) (t := t) (u := u) (f := f) (la := f + (d : Int)) (by omega) n
    generalize hx : f + (d : Int) = x at *
    have h3 : qc_n (fun i => c i = x ∧ un i = u) n ≤ 1 := qc_le1 n fun i j hij hj a b => by
      have := V.2.2.2 i j hij hj (by omega) (by rw [a.2, b.2])
      rw [a.2] at this
      exact hu this
    have h4 : qc_n (fun i => c i = x ∧ un i = u) n + qc_n (fun j => t j = x ∧ un j ≠ u) n ≤ qc_n (fun i => c i = x) n := qc_add n (fun i _ a => a.1) (fun i hi a => (hc i hi (by have := a.1; omega)).trans a.1) (fun i _ a b => b.2 a.2)
    have h5 : qc_n (fun i => c i = x) n ≤ 2 := qc_le2 n fun i j k hij hjk hk a b d => V.2.2.1 i j k hij hjk hk (by omega) (by omega)
    have h6 := qn_F1 (un := un) (t := t) (u := u) (x := x) n
    by_cases y : qc_n (fun j => t j = x ∧ un j ≠ u) n ≤ 1
    · have := h6.1 y
      omega
    · have := h6.2 (by omega)
      omega
def qn_us (un : Nat → Nat) (u i : Nat) : Prop := u = 0 ∨ un i = u
/-- those that must issue from f to la and use u -/
noncomputable def qn_N (n : Nat) (un : Nat → Nat) (e l : Nat → Int) (u : Nat) (f la : Int) : Nat := qc_n (fun i => f ≤ e i ∧ l i ≤ la ∧ qn_us un u i) n
/-- spare room, as the component takes it -/
noncomputable def qn_sp (n : Nat) (un : Nat → Nat) (t e l : Nat → Int) (u : Nat) (f la : Int) : Int :=
  (la - f + 1) * (if u = 0 then 2 else 1) - (if u ≠ 0 ∧ 0 < qn_N n un e l u f la then (qn_F un t u f la n : Int) else 0) - (qn_N n un e l u f la : Int)
/-- all schedules that go on with the trial lie within the windows -/
def qn_K (n : Nat) (lat : Nat → Int) (dl : Nat → Nat → Int) (un : Nat → Nat) (len : Int) (t lo e l : Nat → Int) : Prop :=
  ∀ c, qo_C n lat dl un len t lo c → ∀ i, i < n → e i ≤ c i ∧ c i ≤ l i
/-- users within a stretch, in a schedule that the windows hold -/
theorem qn_room {n : Nat} {lat : Nat → Int} {dl : Nat → Nat → Int} {un : Nat → Nat} {len : Int} {c t e l : Nat → Int} {u : Nat} {f la : Int} (V : qs_V n lat dl un len c) (hc : ∀ i, i < n → t i ≠ -1 → c i = t i) (hw : ∀ i, i < n → e i ≤ c i ∧ c i ≤ l i) (hf : 0 ≤ f) (hla : f ≤ la) :
    (qn_N n un e l u f la : Int) ≤ (qc_n (fun i => (f ≤ c i ∧ c i ≤ la) ∧ qn_us un u i) n : Int) ∧ (qc_n (fun i => (f ≤ c i ∧ c i ≤ la) ∧ qn_us un u i) n : Int) ≤ qn_sp n un t e l u f la + (qn_N n un e l u f la : Int) := by
  have h1 : qn_N n un e l u f la ≤ qc_n (fun i => (f ≤ c i ∧ c i ≤ la) ∧ qn_us un u i) n := qc_mono n fun i hi a => by
    have := hw i hi
    exact ⟨⟨by have := a.1; omega, by have := a.2.1; omega⟩, a.2.2⟩
  refine ⟨by omega, ?_⟩
  obtain ⟨d, hd⟩ : ∃ d : Nat, la = f + (d : Int) - 1 := ⟨(la - f + 1).toNat, by omega⟩
  unfold qn_sp
  by_cases z : u = 0
  · rw [if_pos z, if_neg (fun y => y.1 z)]
    have h2 := qn_two V f d
    have h3 : qc_n (fun i => (f ≤ c i ∧ c i ≤ la) ∧ qn_us un u i) n ≤ qc_n (fun i => f ≤ c i ∧ c i ≤ f + (d : Int) - 1) n := qc_mono n fun i _ a => by rw [← hd]; exact a.1
    omega
  · rw [if_neg z]
    have h2 := qn_unit (t := t) V hc z hf d
    have h3 : qc_n (fun i => (f ≤ c i ∧ c i ≤ la) ∧ qn_us un u i) n ≤ qc_n (fun i => (f ≤ c i ∧ c i ≤ f + (d : Int) - 1) ∧ un i = u) n := qc_mono n fun i _ a => by
      rw [← hd]
      exact ⟨a.1, a.2.elim (fun y => absurd y z) id⟩
    rw [← hd] at h2 h3
    by_cases y : u ≠ 0 ∧ 0 < qn_N n un e l u f la
    · rw [if_pos y]; omega
    · rw [if_neg y]; omega
/-- a crowded stretch ends all hope -/
theorem qn_crowd {n : Nat} {lat : Nat → Int} {dl : Nat → Nat → Int} {un : Nat → Nat} {len : Int} {t lo e l : Nat → Int} {u : Nat} {f la : Int} (K : qn_K n lat dl un len t lo e l) (hf : 0 ≤ f) (hla : f ≤ la) (h : qn_sp n un t e l u f la < 0) (c : Nat → Int) : ¬ qo_C n lat dl un len t lo c := by
  intro C
  have := qn_room (u := u) C.1 C.2.1 (K c C) hf hla
  omega
/-- a full one is closed to the others -/
theorem qn_out {n : Nat} {lat : Nat → Int} {dl : Nat → Nat → Int} {un : Nat → Nat} {len : Int} {c t e l : Nat → Int} {u : Nat} {f la : Int} (V : qs_V n lat dl un len c) (hc : ∀ i, i < n → t i ≠ -1 → c i = t i) (hw : ∀ i, i < n → e i ≤ c i ∧ c i ≤ l i) (hf : 0 ≤ f) (hla : f ≤ la) (h : qn_sp n un t e l u f la = 0)
    {i : Nat} (hi : i < n) (hu : qn_us un u i) (ho : ¬ (f ≤ e i ∧ l i ≤ la)) : ¬ (f ≤ c i ∧ c i ≤ la) := by
  intro hin
  have h1 := qn_room (u := u) V hc hw hf hla
  have h2 := qc_add (p := fun j => f ≤ e j ∧ l j ≤ la ∧ qn_us un u j) (q := fun j => j = i) (r := fun j => (f ≤ c j ∧ c j ≤ la) ∧ qn_us un u j) n
    (fun j hj a => by have := hw j hj; exact ⟨⟨by have := a.1; omega, by have := a.2.1; omega⟩, a.2.2⟩)
    (fun j _ a => by subst a; exact ⟨hin, hu⟩)
    (fun j _ a b => by subst b; exact ho ⟨a.1, a.2.1⟩)
  have h3 := qc_one (p := fun j => j = i) n i hi rfl
  have h4 : qn_N n un e l u f la = qc_n (fun j => f ≤ e j ∧ l j ≤ la ∧ qn_us un u j) n := rfl
  omega
/-- what a full stretch does to a window that begins inside it and ends outside -/
theorem qn_out1 {n : Nat} {lat : Nat → Int} {dl : Nat → Nat → Int} {un : Nat → Nat} {len : Int} {c t lo e l : Nat → Int} {u : Nat} {f la : Int} (K : qn_K n lat dl un len t lo e l) (hf : 0 ≤ f) (hla : f ≤ la) (h : qn_sp n un t e l u f la = 0)
    {i : Nat} (hi : i < n) (hu : qn_us un u i) (h1 : f ≤ e i ∧ e i ≤ la) (h2 : ¬ (f ≤ l i ∧ l i ≤ la)) (C : qo_C n lat dl un len t lo c) : la + 1 ≤ c i := by
  have hw := K c C i hi
  by_cases x : l i ≤ la
  · omega
  · have := qn_out C.1 C.2.1 (K c C) hf hla h hi hu (fun y => x y.2)
    omega
theorem qn_out2 {n : Nat} {lat : Nat → Int} {dl : Nat → Nat → Int} {un : Nat → Nat} {len : Int} {c t lo e l : Nat → Int} {u : Nat} {f la : Int} (K : qn_K n lat dl un len t lo e l) (hf : 0 ≤ f) (hla : f ≤ la) (h : qn_sp n un t e l u f la = 0)
    {i : Nat} (hi : i < n) (hu : qn_us un u i) (h1 : ¬ (f ≤ e i ∧ e i ≤ la)) (h2 : f ≤ l i ∧ l i ≤ la) (C : qo_C n lat dl un len t lo c) : c i ≤ f - 1 := by
  have hw := K c C i hi
  by_cases x : f ≤ e i
  · omega
  · have := qn_out C.1 C.2.1 (K c C) hf hla h hi hu (fun y => x y.1)
    omega
/-- windows that only shrink where schedules allow it -/
theorem qn_Kc {n : Nat} {lat : Nat → Int} {dl : Nat → Nat → Int} {un : Nat → Nat} {len : Int} {t lo e l e' l' : Nat → Int} (K : qn_K n lat dl un len t lo e l) (h : ∀ i, i < n → e' i = e i ∧ l' i = l i) : qn_K n lat dl un len t lo e' l' := by
  intro c C i hi
  rw [(h i hi).1, (h i hi).2]
  exact K c C i hi
theorem qn_Kge {n : Nat} {lat : Nat → Int} {dl : Nat → Nat → Int} {un : Nat → Nat} {len : Int} {t lo e l : Nat → Int} {j : Nat} {x : Int} (K : qn_K n lat dl un len t lo e l) (h : ∀ c, qo_C n lat dl un len t lo c → x ≤ c j) : qn_K n lat dl un len t lo (qg_up e j x) l := by
  intro c C i hi
  refine ⟨?_, (K c C i hi).2⟩
  by_cases y : i = j
  · rw [y, qg_us]; exact h c C
  · rw [qg_un y]; exact (K c C i hi).1
theorem qn_Kgl {n : Nat} {lat : Nat → Int} {dl : Nat → Nat → Int} {un : Nat → Nat} {len : Int} {t lo e l : Nat → Int} {j : Nat} {x : Int} (K : qn_K n lat dl un len t lo e l) (h : ∀ c, qo_C n lat dl un len t lo c → c j ≤ x) : qn_K n lat dl un len t lo e (qg_up l j x) := by
  intro c C i hi
  refine ⟨(K c C i hi).1, ?_⟩
  by_cases y : i = j
  · rw [y, qg_us]; exact h c C
  · rw [qg_un y]; exact (K c C i hi).2
theorem qn_Ke {n : Nat} {lat : Nat → Int} {dl wt : Nat → Nat → Int} {un : Nat → Nat} {len : Int} {t lo e l : Nat → Int} (hw : qw_W n dl wt un) (K : qn_K n lat dl un len t lo e l) {i j : Nat} (hij : i < j) (hj : j < n) (h : 0 ≤ wt i j) : qn_K n lat dl un len t lo (qg_up e j (e i + wt i j)) l :=
  qn_Kge K fun c C => by
    have h1 := qw_V hw C.1 hij hj h
    have h2 := (K c C i (by omega)).1
    omega
theorem qn_Kl {n : Nat} {lat : Nat → Int} {dl wt : Nat → Nat → Int} {un : Nat → Nat} {len : Int} {t lo e l : Nat → Int} (hw : qw_W n dl wt un) (K : qn_K n lat dl un len t lo e l) {i j : Nat} (hij : i < j) (hj : j < n) (h : 0 ≤ wt i j) : qn_K n lat dl un len t lo e (qg_up l i (l j - wt i j)) :=
  qn_Kgl K fun c C => by
    have h1 := qw_V hw C.1 hij hj h
    have h2 := (K c C j hj).2
    omega
/-- windows at rest: nothing crowded, nothing straddled, edges kept -/
theorem qn_rest {n : Nat} {lat : Nat → Int} {wt : Nat → Nat → Int} {un : Nat → Nat} {len : Int} {t e l : Nat → Int} (hu : ∀ i, i < n → un i ≤ 2)
    (h1 : ∀ i, i < n → t i = -1 → 0 ≤ e i ∧ e i + lat i ≤ len) (h2 : ∀ i, i < n → t i ≠ -1 → e i = t i ∧ l i = t i)
    (h3 : ∀ i j, i < j → j < n → 0 ≤ wt i j → e i + wt i j ≤ e j)
    (h4 : ∀ i j u, i < n → j < n → u ≤ 2 → e i ≤ l j → 0 ≤ qn_sp n un t e l u (e i) (l j) ∧
      (qn_sp n un t e l u (e i) (l j) = 0 → ∀ m, m < n → qn_us un u m → ((e i ≤ e m ∧ e m ≤ l j) ↔ (e i ≤ l m ∧ l m ≤ l j)))) : qo_O n lat wt un len t e := by
  have at1 : ∀ j x u, j < n → t j ≠ -1 → t j = x → u ≤ 2 → 0 ≤ qn_sp n un t e l u x x ∧ (qn_sp n un t e l u x x = 0 → ∀ m, m < n → qn_us un u m → (e m = x ↔ l m = x)) := by
    intro j x u hj tj p hu2
    have p2 := h2 j hj tj
    have h := h4 j j u hj hj hu2 (by omega)
    rw [p2.1, p2.2, p] at h
    refine ⟨h.1, fun hz m hm hum => ?_⟩
    have h' := h.2 hz m hm hum
    constructor
    · intro a
      have := h'.mp ⟨by omega, by omega⟩
      omega
    · intro a
      have := h'.mpr ⟨by omega, by omega⟩
      omega
  have le1 : ∀ u x, u ≠ 0 → 0 < qn_N n un e l u x x → qn_sp n un t e l u x x + (qn_N n un e l u x x : Int) ≤ 1 := by
    intro u x hu0 hN
    unfold qn_sp
    rw [if_neg hu0, if_pos ⟨hu0, hN⟩]
    have : x - x + 1 = 1 := by omega
    rw [this]
    omega
  have sp0 : ∀ x, qn_sp n un t e l 0 x x + (qn_N n un e l 0 x x : Int) = 2 := by
    intro x
    unfold qn_sp
    rw [if_pos rfl, if_neg (fun y => y.1 rfl)]
    have : x - x + 1 = 1 := by omega
    rw [this]
    omega
  have inN : ∀ u x i, e i = x → l i = x → qn_us un u i → x ≤ e i ∧ l i ≤ x ∧ qn_us un u i := fun u x i p q h => ⟨by omega, by omega, h⟩
  have inS : ∀ u x i, i < n → t i ≠ -1 → t i = x → qn_us un u i → x ≤ e i ∧ l i ≤ x ∧ qn_us un u i := fun u x i hi ti p h => inN u x i (by rw [(h2 i hi ti).1]; exact p) (by rw [(h2 i hi ti).2]; exact p) h
  refine ⟨h1, fun i hi ti => (h2 i hi ti).1, h3, fun i j k hij hjk hk ti tj tk e1 e2 => ?_, fun i j hij hj ti tj e1 he => ?_, fun i j hi hj ti tj e1 he => ?_, fun i j k hi hjk hk ti tj tk e1 e2 => ?_⟩
  · have a := (at1 i (t i) 0 (by omega) ti rfl (by omega)).1
    have b := sp0 (t i)
    have d : 3 ≤ qn_N n un e l 0 (t i) (t i) := qc_three n i j k hij hjk hk (inS 0 _ i (by omega) ti rfl (Or.inl rfl)) (inS 0 _ j (by omega) tj e1.symm (Or.inl rfl)) (inS 0 _ k hk tk (by omega) (Or.inl rfl))
    omega
  · by_cases z : un i = 0
    · exact z
    · exfalso
      have a := (at1 i (t i) (un i) (by omega) ti rfl (hu i (by omega))).1
      have d : 2 ≤ qn_N n un e l (un i) (t i) (t i) := qc_two n i j hij hj (inS _ _ i (by omega) ti rfl (Or.inr rfl)) (inS _ _ j hj tj e1.symm (Or.inr he.symm))
      have b := le1 (un i) (t i) z (by omega)
      omega
  · by_cases z : un i = 0
    · exact z
    · exfalso
      have hij : i ≠ j := fun y => tj (by rw [← y]; exact ti)
      have a := at1 j (t j) (un i) hj tj rfl (hu i hi)
      have sj := inS (un i) _ j hj tj rfl (Or.inr he.symm)
      have d : 1 ≤ qn_N n un e l (un i) (t j) (t j) := qc_one n j hj sj
      have b := le1 (un i) (t j) z (by omega)
      have g := (a.2 (by omega) i hi (Or.inr rfl)).mp e1
      have si := inN (un i) (t j) i e1 g (Or.inr rfl)
      have d2 : 2 ≤ qn_N n un e l (un i) (t j) (t j) := by
        by_cases y : i < j
        · exact qc_two n i j y hj si sj
        · exact qc_two n j i (by omega) hi sj si
      omega
  · have a := at1 j (t j) 0 (by omega) tj rfl (by omega)
    have sj := inS 0 (t j) j (by omega) tj rfl (Or.inl rfl)
    have sk := inS 0 (t j) k hk tk e1.symm (Or.inl rfl)
    have d : 2 ≤ qn_N n un e l 0 (t j) (t j) := qc_two n j k hjk hk sj sk
    have b := sp0 (t j)
    have g := (a.2 (by omega) i hi (Or.inl rfl)).mp e2
    have si := inN 0 (t j) i e2 g (Or.inl rfl)
    have ij : i ≠ j := fun y => tj (by rw [← y]; exact ti)
    have ik : i ≠ k := fun y => tk (by rw [← y]; exact ti)
    have d2 : 3 ≤ qn_N n un e l 0 (t j) (t j) := by
      by_cases y : i < j
      · exact qc_three n i j k y hjk hk si sj sk
      · by_cases y2 : i < k
        · exact qc_three n j i k (by omega) y2 hk sj si sk
        · exact qc_three n j k i hjk (by omega) hi sj sk si
    omega
/-- sums of widths -/
theorem qn_Sm {R Q : Nat → Int} : ∀ k, (∀ j, j < k → R j ≤ Q j) → qb_S R k ≤ qb_S Q k := by
  intro k
  induction k with
  | zero => intro _; exact Int.le_refl 0
  | succ k ih =>
    intro h
    have h1 := ih fun j hj => h j (by omega)
    have h2 := h k (by omega)
    show qb_S R k + R k ≤ qb_S Q k + Q k
    omega
theorem qn_Ss {R Q : Nat → Int} : ∀ k i, i < k → (∀ j, j < k → R j ≤ Q j) → R i + 1 ≤ Q i → qb_S R k + 1 ≤ qb_S Q k := by
  intro k
  induction k with
  | zero => intro i hi; exact absurd hi (Nat.not_lt_zero i)
  | succ k ih =>
    intro i hi h hs
    have h2 := h k (by omega)
    show qb_S R k + R k + 1 ≤ qb_S Q k + Q k
    by_cases e : i = k
    · subst e
      have h1 := qn_Sm i fun j hj => h j (by omega)
      omega
    · have h1 := ih i (by omega) (fun j hj => h j (by omega)) hs
      omega
theorem qn_Sb {R : Nat → Int} {b : Int} : ∀ k, (∀ j, j < k → R j ≤ b) → qb_S R k ≤ b * (k : Int) := by
  intro k
  induction k with
  | zero => intro _; show (0 : Int) ≤ b * ((0 : Nat) : Int); simp
  | succ k ih =>
    intro h
    have h1 := ih fun j hj => h j (by omega)
    have h2 := h k (by omega)
    show qb_S R k + R k ≤ b * ((k + 1 : Nat) : Int)
    have h3 : b * ((k + 1 : Nat) : Int) = b * (k : Int) + b := by
      rw [Int.natCast_add, Int.mul_add]
      simp
    omega
