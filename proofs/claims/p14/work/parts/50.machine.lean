/-! a valid schedule on the machine leaves what the order leaves (rests on whole's parts values and run) -/
noncomputable def zp_R (tg : Nat → Nat) (vl st0 : Nat → Int32) (D : Nat → Prop) : Nat → Nat → Int32
  | 0 => st0
  | k + 1 => @ite (Nat → Int32) (D k) (Classical.propDecidable (D k)) (upd (zp_R tg vl st0 D k) (tg k) (vl k)) (zp_R tg vl st0 D k)
theorem zp_t {tg : Nat → Nat} {vl st0 : Nat → Int32} {D : Nat → Prop} {k : Nat} (h : D k) : zp_R tg vl st0 D (k + 1) = upd (zp_R tg vl st0 D k) (tg k) (vl k) := by
  show @ite (Nat → Int32) (D k) (Classical.propDecidable (D k)) _ _ = _
  rw [if_pos h]
theorem zp_f {tg : Nat → Nat} {vl st0 : Nat → Int32} {D : Nat → Prop} {k : Nat} (h : ¬ D k) : zp_R tg vl st0 D (k + 1) = zp_R tg vl st0 D k := by
  show @ite (Nat → Int32) (D k) (Classical.propDecidable (D k)) _ _ = _
  rw [if_neg h]
theorem zp_o {tg : Nat → Nat} {vl st0 : Nat → Int32} {D : Nat → Prop} {k l : Nat} (h : tg k = l → ¬ D k) : zp_R tg vl st0 D (k + 1) l = zp_R tg vl st0 D k l := by
  by_cases d : D k
  · rw [zp_t d, pk_un (fun x => h x.symm d)]
  · rw [zp_f d]
theorem zp_skip {tg : Nat → Nat} {vl st0 : Nat → Int32} {D : Nat → Prop} {l j : Nat} : ∀ m, (∀ i, j ≤ i → i < j + m → tg i = l → ¬ D i) → zp_R tg vl st0 D (j + m) l = zp_R tg vl st0 D j l := by
  intro m
  induction m with
  | zero => intro _; rfl
  | succ m ih =>
    intro h
    rw [show j + (m + 1) = j + m + 1 from rfl, zp_o (h (j + m) (by omega) (by omega))]
    exact ih fun i h1 h2 => h i h1 (by omega)
theorem zp_eq {tg : Nat → Nat} {vl st0 : Nat → Int32} {D E : Nat → Prop} {l : Nat} : ∀ k, (∀ i, i < k → tg i = l → (D i ↔ E i)) → zp_R tg vl st0 D k l = zp_R tg vl st0 E k l := by
  intro k
  induction k with
  | zero => intro _; rfl
  | succ k ih =>
    intro h
    have h1 := ih fun i hi => h i (by omega)
    by_cases e : tg k = l
    · have h2 := h k (by omega) e
      by_cases d : D k
      · rw [zp_t d, zp_t (h2.mp d), e, pk_us, pk_us]
      · rw [zp_f d, zp_f (fun x => d (h2.mpr x))]; exact h1
    · rw [zp_o (fun x => absurd x e), zp_o (fun x => absurd x e)]; exact h1
theorem zp_last {tg : Nat → Nat} {vl st0 : Nat → Int32} {D : Nat → Prop} {i k : Nat} (hi : i < k) (hD : D i) (h : ∀ j, i < j → j < k → tg j = tg i → ¬ D j) : zp_R tg vl st0 D k (tg i) = vl i := by
  have h1 := zp_skip (tg := tg) (vl := vl) (st0 := st0) (D := D) (l := tg i) (j := i + 1) (k - (i + 1)) fun j h1 h2 => h j (by omega) (by omega)
  rw [show i + 1 + (k - (i + 1)) = k by omega] at h1
  rw [h1, zp_t hD, pk_us]
theorem zp_cong {tg tg' : Nat → Nat} {vl vl' st0 : Nat → Int32} {D : Nat → Prop} : ∀ k, (∀ i, i < k → D i → tg i = tg' i ∧ vl i = vl' i) → zp_R tg vl st0 D k = zp_R tg' vl' st0 D k := by
  intro k
  induction k with
  | zero => intro _; rfl
  | succ k ih =>
    intro h
    have h1 := ih fun i hi => h i (by omega)
    by_cases d : D k
    · rw [zp_t d, zp_t d, h1, (h k (by omega) d).1, (h k (by omega) d).2]
    · rw [zp_f d, zp_f d, h1]
/-- ONE CYCLE'S WRITES: done before: D, due now: E; of two that write alike the later is done later -/
theorem zp_write {tg : Nat → Nat} {vl st0 : Nat → Int32} {D E : Nat → Prop} {n : Nat} (hDE : ∀ i, i < n → D i → ¬ E i)
    (ho : ∀ i j, i < j → j < n → tg i = tg j → (D j ∨ E j) → D i ∧ ¬ E i) : zp_R tg vl (zp_R tg vl st0 D n) E n = zp_R tg vl st0 (fun i => D i ∨ E i) n := by
  funext l
  by_cases h : ∃ i, i < n ∧ E i ∧ tg i = l
  · obtain ⟨i, hi, hE, e⟩ := h
    subst e
    rw [zp_last hi hE fun j hj hjn e x => (ho i j hj hjn e.symm (Or.inr x)).2 hE,
      zp_last (D := fun i => D i ∨ E i) hi (Or.inr hE) fun j hj hjn e x => (ho i j hj hjn e.symm x).2 hE]
  · have h0 := zp_skip (tg := tg) (vl := vl) (st0 := zp_R tg vl st0 D n) (D := E) (l := l) (j := 0) n fun i _ hi e x => h ⟨i, by omega, x, e⟩
    rw [Nat.zero_add] at h0
    rw [h0]
    show zp_R tg vl st0 D n l = _
    exact zp_eq n fun i hi e => ⟨Or.inl, fun x => x.elim id (fun y => absurd ⟨i, hi, y, e⟩ h)⟩
/-- WHAT j READS: all writers before it are done, none behind it -/
theorem zp_read {tg : Nat → Nat} {vl st0 : Nat → Int32} {D : Nat → Prop} {n j l : Nat} (hj : j ≤ n) (h1 : ∀ i, i < j → tg i = l → D i) (h2 : ∀ i, j ≤ i → i < n → tg i = l → ¬ D i) : zp_R tg vl st0 D n l = zp_R tg vl st0 (fun _ => True) j l := by
  have h0 := zp_skip (tg := tg) (vl := vl) (st0 := st0) (D := D) (l := l) (j := j) (n - j) fun i a b => h2 i a (by omega)
  rw [show j + (n - j) = n by omega] at h0
  rw [h0]
  exact zp_eq j fun i hi e => ⟨fun _ => trivial, fun _ => h1 i hi e⟩
/-! the block's own targets and values -/
def zp_tg (op fd fa fb st0 : Nat → Int32) (i : Nat) : Nat := (zr_tgt op fd fa fb (zr_seq op fd fa fb st0 i) i).toNatClampNeg
def zp_vl (op fd fa fb st0 : Nat → Int32) (i : Nat) : Int32 := zr_val op fd fa fb (zr_seq op fd fa fb st0 i) i
theorem zp_seq (op fd fa fb st0 : Nat → Int32) : ∀ k, zr_seq op fd fa fb st0 k = zp_R (zp_tg op fd fa fb st0) (zp_vl op fd fa fb st0) st0 (fun _ => True) k := by
  intro k
  induction k with
  | zero => rfl
  | succ k ih =>
    rw [zp_t trivial, ← ih]
    rfl
theorem zp_wR (ml ll : Int32) (op cy pv pt : Nat → Int32) (t : Int32) (st : Nat → Int32) : ∀ k, zr_w ml ll op cy pv pt t st k = zp_R (fun i => (pt i).toNatClampNeg) pv st (fun i => cy i + zv_lat ml ll op i - 1 = t) k := by
  intro k
  induction k with
  | zero => rfl
  | succ k ih =>
    by_cases h : cy k + zv_lat ml ll op k - 1 = t
    · rw [zp_t h, ← ih]
      show (if _ then _ else _) = _
      rw [if_pos h]
    · rw [zp_f h, ← ih]
      show (if _ then _ else _) = _
      rw [if_neg h]
/-- j reads location l -/
def zp_rd (op fd fa fb : Nat → Int32) (j l : Nat) : Prop := (l < 8 ∧ zv_rd op fd fa fb j (nI l)) ∨ (8 ≤ l ∧ l < 16 ∧ op j = 5)
theorem zp_tgt {n : Nat} {op fd fa fb : Nat → Int32} (F : zv_F n op fd fa fb) (st0 : Nat → Int32) {i : Nat} (hi : i < n) : (op i = 6 ∧ 8 ≤ zp_tg op fd fa fb st0 i) ∨ (op i ≠ 6 ∧ zp_tg op fd fa fb st0 i < 8 ∧ fd i = nI (zp_tg op fd fa fb st0 i)) := by
  obtain ⟨_, ⟨d, hd, ed⟩, _, _⟩ := F i hi
  by_cases h : op i = 6
  · refine Or.inl ⟨h, ?_⟩
    obtain ⟨a, h1, h2, e⟩ := zr_adN fa fb (zr_seq op fd fa fb st0 i) i
    unfold zp_tg zr_tgt
    rw [if_pos h, e, nI_clamp (by omega)]
    exact h1
  · refine Or.inr ⟨h, ?_⟩
    have e : zp_tg op fd fa fb st0 i = d := by
      unfold zp_tg zr_tgt
      rw [if_neg h, ed, nI_clamp (by omega)]
    rw [e]
    exact ⟨hd, ed⟩
theorem zp_T {n : Nat} {op fd fa fb : Nat → Int32} (F : zv_F n op fd fa fb) (st0 : Nat → Int32) {i j l : Nat} (hi : i < n) (h1 : zp_tg op fd fa fb st0 i = l) (h2 : zp_rd op fd fa fb j l) : zv_T op fd fa fb i j := by
  rcases zp_tgt F st0 hi with ⟨a, b⟩ | ⟨a, b, e⟩
  · rcases h2 with ⟨x, _⟩ | ⟨_, _, y⟩
    · omega
    · exact Or.inr ⟨a, y⟩
  · rcases h2 with ⟨x, y⟩ | ⟨x, _, _⟩
    · refine Or.inl ⟨a, ?_⟩
      rw [e, h1]; exact y
    · omega
theorem zp_A {n : Nat} {op fd fa fb : Nat → Int32} (F : zv_F n op fd fa fb) (st0 : Nat → Int32) {i j l : Nat} (hj : j < n) (h1 : zp_tg op fd fa fb st0 j = l) (h2 : zp_rd op fd fa fb i l) : zv_A op fd fa fb i j := by
  rcases zp_tgt F st0 hj with ⟨a, b⟩ | ⟨a, b, e⟩
  · rcases h2 with ⟨x, _⟩ | ⟨_, _, y⟩
    · omega
    · exact Or.inr ⟨y, a⟩
  · rcases h2 with ⟨x, y⟩ | ⟨x, _, _⟩
    · refine Or.inl ⟨a, ?_⟩
      rw [e, h1]; exact y
    · omega
theorem zp_O {n : Nat} {op fd fa fb : Nat → Int32} (F : zv_F n op fd fa fb) (st0 : Nat → Int32) {i j : Nat} (hi : i < n) (hj : j < n) (h : zp_tg op fd fa fb st0 i = zp_tg op fd fa fb st0 j) : zv_O op fd i j := by
  rcases zp_tgt F st0 hi with ⟨a, b⟩ | ⟨a, b, e⟩
  · rcases zp_tgt F st0 hj with ⟨a', b'⟩ | ⟨a', b', e'⟩
    · exact Or.inr ⟨a, a'⟩
    · omega
  · rcases zp_tgt F st0 hj with ⟨a', b'⟩ | ⟨a', b', e'⟩
    · omega
    · exact Or.inl ⟨a, a', by rw [e, e', h]⟩
/-- a state that agrees where j reads gives the same value and target -/
theorem zp_same {n : Nat} {op fd fa fb : Nat → Int32} (F : zv_F n op fd fa fb) {j : Nat} (hj : j < n) {st st' : Nat → Int32} (h : ∀ l, zp_rd op fd fa fb j l → st l = st' l) : zr_val op fd fa fb st j = zr_val op fd fa fb st' j ∧ zr_tgt op fd fa fb st j = zr_tgt op fd fa fb st' j := by
  obtain ⟨f1, ⟨d, hd, ed⟩, f3, f4⟩ := F j hj
  have rg : ∀ r, r < 8 → zv_rd op fd fa fb j (nI r) → st (nI r).toNatClampNeg = st' (nI r).toNatClampNeg := fun r hr x => by
    rw [nI_clamp (by omega)]
    exact h r (Or.inl ⟨hr, x⟩)
  rcases zv_nI6 f1 with o | o | o | o | o | o
  · unfold zr_val zr_tgt
    rw [if_pos o, if_pos o, if_neg (by rw [o]; decide), if_neg (by rw [o]; decide)]
    exact ⟨rfl, rfl⟩
  all_goals obtain ⟨a, ha, ea⟩ := f3 (by rw [o]; decide)
  · obtain ⟨b, hb, eb⟩ := f4 (Or.inl o)
    have h1 := rg a ha (Or.inl ⟨Or.inl o, Or.inl ea⟩)
    have h2 := rg b hb (Or.inl ⟨Or.inl o, Or.inr eb⟩)
    rw [← ea] at h1
    rw [← eb] at h2
    unfold zr_val zr_tgt
    simp only [o, h1, h2]
    exact ⟨by simp, by simp⟩
  · obtain ⟨b, hb, eb⟩ := f4 (Or.inr (Or.inl o))
    have h1 := rg a ha (Or.inl ⟨Or.inr (Or.inl o), Or.inl ea⟩)
    have h2 := rg b hb (Or.inl ⟨Or.inr (Or.inl o), Or.inr eb⟩)
    rw [← ea] at h1
    rw [← eb] at h2
    unfold zr_val zr_tgt
    simp only [o, h1, h2]
    exact ⟨by simp, by simp⟩
  · obtain ⟨b, hb, eb⟩ := f4 (Or.inr (Or.inr o))
    have h1 := rg a ha (Or.inl ⟨Or.inr (Or.inr o), Or.inl ea⟩)
    have h2 := rg b hb (Or.inl ⟨Or.inr (Or.inr o), Or.inr eb⟩)
    rw [← ea] at h1
    rw [← eb] at h2
    unfold zr_val zr_tgt
    simp only [o, h1, h2]
    exact ⟨by simp, by simp⟩
  · have h1 := rg a ha (Or.inr (Or.inl ⟨o, ea⟩))
    rw [← ea] at h1
    have e : zr_ad fa fb st j = zr_ad fa fb st' j := by unfold zr_ad; rw [h1]
    have h2 : st (zr_ad fa fb st' j).toNatClampNeg = st' (zr_ad fa fb st' j).toNatClampNeg := by
      obtain ⟨q, q1, q2, eq⟩ := zr_adN fa fb st' j
      rw [eq, nI_clamp (by omega)]
      exact h q (Or.inr ⟨q1, q2, o⟩)
    unfold zr_val zr_tgt
    simp only [o, e, h2]
    exact ⟨by simp, by simp⟩
  · have h1 := rg a ha (Or.inr (Or.inr ⟨o, Or.inl ea⟩))
    have h2 := rg d hd (Or.inr (Or.inr ⟨o, Or.inr ed⟩))
    rw [← ea] at h1
    rw [← ed] at h2
    have e : zr_ad fa fb st j = zr_ad fa fb st' j := by unfold zr_ad; rw [h1]
    unfold zr_val zr_tgt
    simp only [o, e, h2]
    exact ⟨by simp, by simp⟩
/-! delays by kinds -/
theorem zp_dtab : (List.range 8).all (fun k => (List.range 5).all fun a => (List.range 5).all fun b => (a == 0 || b == 0) || (decide (nI k &&& 1 ≠ 0 → (nI a).toInt ≤ (zv_d (nI k) (nI a) (nI b)).toInt) && decide (nI k &&& 2 ≠ 0 → 0 ≤ (zv_d (nI k) (nI a) (nI b)).toInt) && decide (nI k &&& 4 ≠ 0 → (nI a).toInt - (nI b).toInt + 1 ≤ (zv_d (nI k) (nI a) (nI b)).toInt ∧ 0 ≤ (zv_d (nI k) (nI a) (nI b)).toInt))) = true := by decide +kernel
theorem zp_dd {k a b : Int32} (hk : ∃ q, q < 8 ∧ k = nI q) (ha : zv_L a) (hb : zv_L b) : (k &&& 1 ≠ 0 → a.toInt ≤ (zv_d k a b).toInt) ∧ (k &&& 2 ≠ 0 → 0 ≤ (zv_d k a b).toInt) ∧ (k &&& 4 ≠ 0 → a.toInt - b.toInt + 1 ≤ (zv_d k a b).toInt ∧ 0 ≤ (zv_d k a b).toInt) := by
  obtain ⟨q, hq, rfl⟩ := hk
  obtain ⟨x, x1, x2, rfl⟩ := ha
  obtain ⟨y, y1, y2, rfl⟩ := hb
  have h := zp_dtab
  rw [List.all_eq_true] at h
  have h1 := h q (List.mem_range.mpr hq)
  rw [List.all_eq_true] at h1
  have h2 := h1 x (List.mem_range.mpr (by omega))
  rw [List.all_eq_true] at h2
  have h3 := h2 y (List.mem_range.mpr (by omega))
  rw [Bool.or_eq_true] at h3
  rcases h3 with h4 | h4
  · rw [Bool.or_eq_true, beq_iff_eq, beq_iff_eq] at h4
    omega
  · rw [Bool.and_eq_true, Bool.and_eq_true] at h4
    exact ⟨of_decide_eq_true h4.1.1, of_decide_eq_true h4.1.2, of_decide_eq_true h4.2⟩
theorem zp_kb {op fd fa fb : Nat → Int32} {i j : Nat} : (zv_T op fd fa fb i j → zv_k op fd fa fb i j &&& 1 ≠ 0) ∧ (zv_A op fd fa fb i j → zv_k op fd fa fb i j &&& 2 ≠ 0) ∧ (zv_O op fd i j → zv_k op fd fa fb i j &&& 4 ≠ 0) := by
  unfold zv_k
  by_cases h1 : zv_T op fd fa fb i j
  · by_cases h2 : zv_A op fd fa fb i j
    · by_cases h3 : zv_O op fd i j
      · rw [zv_bt h1, zv_bt h2, zv_bt h3]; exact ⟨fun _ => by decide, fun _ => by decide, fun _ => by decide⟩
      · rw [zv_bt h1, zv_bt h2, zv_bf h3]; exact ⟨fun _ => by decide, fun _ => by decide, fun x => absurd x h3⟩
    · by_cases h3 : zv_O op fd i j
      · rw [zv_bt h1, zv_bf h2, zv_bt h3]; exact ⟨fun _ => by decide, fun x => absurd x h2, fun _ => by decide⟩
      · rw [zv_bt h1, zv_bf h2, zv_bf h3]; exact ⟨fun _ => by decide, fun x => absurd x h2, fun x => absurd x h3⟩
  · by_cases h2 : zv_A op fd fa fb i j
    · by_cases h3 : zv_O op fd i j
      · rw [zv_bf h1, zv_bt h2, zv_bt h3]; exact ⟨fun x => absurd x h1, fun _ => by decide, fun _ => by decide⟩
      · rw [zv_bf h1, zv_bt h2, zv_bf h3]; exact ⟨fun x => absurd x h1, fun _ => by decide, fun x => absurd x h3⟩
    · by_cases h3 : zv_O op fd i j
      · rw [zv_bf h1, zv_bf h2, zv_bt h3]; exact ⟨fun x => absurd x h1, fun x => absurd x h2, fun _ => by decide⟩
      · rw [zv_bf h1, zv_bf h2, zv_bf h3]; exact ⟨fun x => absurd x h1, fun x => absurd x h2, fun x => absurd x h3⟩
theorem zp_iv {op fd fa fb cy st : Nat → Int32} {t : Int32} {pv0 pt0 : Nat → Int32} : ∀ k i, ((i < k ∧ cy i = t → zr_iv op fd fa fb cy st t pv0 k i = zr_val op fd fa fb st i ∧ zr_ip op fd fa fb cy st t pt0 k i = zr_tgt op fd fa fb st i) ∧ (¬ (i < k ∧ cy i = t) → zr_iv op fd fa fb cy st t pv0 k i = pv0 i ∧ zr_ip op fd fa fb cy st t pt0 k i = pt0 i)) := by
  intro k
  induction k with
  | zero => intro i; exact ⟨fun h => absurd h.1 (Nat.not_lt_zero i), fun _ => ⟨rfl, rfl⟩⟩
  | succ k ih =>
    intro i
    have e1 : zr_iv op fd fa fb cy st t pv0 (k + 1) = if cy k = t then upd (zr_iv op fd fa fb cy st t pv0 k) k (zr_val op fd fa fb st k) else zr_iv op fd fa fb cy st t pv0 k := rfl
    have e2 : zr_ip op fd fa fb cy st t pt0 (k + 1) = if cy k = t then upd (zr_ip op fd fa fb cy st t pt0 k) k (zr_tgt op fd fa fb st k) else zr_ip op fd fa fb cy st t pt0 k := rfl
    rw [e1, e2]
    by_cases h : cy k = t
    · rw [if_pos h, if_pos h]
      by_cases x : i = k
      · subst x
        rw [pk_us, pk_us]
        exact ⟨fun _ => ⟨rfl, rfl⟩, fun z => absurd ⟨by omega, h⟩ z⟩
      · rw [pk_un x, pk_un x]
        exact ⟨fun z => (ih i).1 ⟨by omega, z.2⟩, fun z => (ih i).2 fun y => z ⟨by omega, y.2⟩⟩
    · rw [if_neg h, if_neg h]
      refine ⟨fun z => (ih i).1 ⟨?_, z.2⟩, fun z => (ih i).2 fun y => z ⟨by omega, y.2⟩⟩
      by_cases x : i = k
      · subst x; exact absurd z.2 h
      · omega
/-- THE MACHINE KEEPS THE ORDER -/
theorem zp_mach {n : Nat} {ml ll : Int32} {op fd fa fb cy : Nat → Int32} {c la : Nat → Nat} (F : zv_F n op fd fa fb) (L1 : zv_L ml) (L2 : zv_L ll)
    (hc : ∀ i, i < n → cy i = nI (c i) ∧ c i ≤ 63) (hl : ∀ i, i < n → zv_lat ml ll op i = nI (la i) ∧ 1 ≤ la i ∧ la i ≤ 4)
    (hd : ∀ i j, i < j → j < n → 0 ≤ (zv_dl ml ll op fd fa fb i j).toInt → (c i : Int) + (zv_dl ml ll op fd fa fb i j).toInt ≤ (c j : Int)) (st0 pv0 pt0 : Nat → Int32) :
    ∀ t, t ≤ 1000 → (zr_mach ml ll op fd fa fb cy n st0 pv0 pt0 t).1 = zp_R (zp_tg op fd fa fb st0) (zp_vl op fd fa fb st0) st0 (fun i => c i + la i ≤ t) n ∧
      ∀ i, i < n → c i < t → (zr_mach ml ll op fd fa fb cy n st0 pv0 pt0 t).2.1 i = zp_vl op fd fa fb st0 i ∧ (zr_mach ml ll op fd fa fb cy n st0 pv0 pt0 t).2.2 i = zr_tgt op fd fa fb (zr_seq op fd fa fb st0 i) i := by
  have latI : ∀ i, i < n → (zv_lat ml ll op i).toInt = (la i : Int) := fun i hi => by rw [(hl i hi).1, nI_toInt (by have := (hl i hi).2.2; omega)]
  have dT : ∀ i j, i < j → j < n → zv_T op fd fa fb i j → c i + la i ≤ c j := by
    intro i j hij hj h
    have h1 := (zp_dd zv_k8 (zv_latL (op := op) L1 L2 i) (zv_latL (op := op) L1 L2 j)).1 ((zp_kb (op := op) (fd := fd) (fa := fa) (fb := fb)).1 h)
    rw [latI i (by omega)] at h1
    have h2 := hd i j hij hj (by unfold zv_dl; omega)
    unfold zv_dl at h2
    omega
  have dA : ∀ i j, i < j → j < n → zv_A op fd fa fb i j → c i ≤ c j := by
    intro i j hij hj h
    have h1 := (zp_dd zv_k8 (zv_latL (op := op) L1 L2 i) (zv_latL (op := op) L1 L2 j)).2.1 ((zp_kb (op := op) (fd := fd) (fa := fa) (fb := fb)).2.1 h)
    have h2 := hd i j hij hj (by unfold zv_dl; omega)
    unfold zv_dl at h2
    omega
  have dO : ∀ i j, i < j → j < n → zv_O op fd i j → c i + la i + 1 ≤ c j + la j := by
    intro i j hij hj h
    have h1 := (zp_dd zv_k8 (zv_latL (op := op) L1 L2 i) (zv_latL (op := op) L1 L2 j)).2.2 ((zp_kb (op := op) (fd := fd) (fa := fa) (fb := fb)).2.2 h)
    rw [latI i (by omega), latI j hj] at h1
    have h2 := hd i j hij hj (by unfold zv_dl; exact h1.2)
    unfold zv_dl at h2
    omega
  intro t
  induction t with
  | zero =>
    intro _
    refine ⟨?_, fun i _ h => absurd h (Nat.not_lt_zero _)⟩
    show st0 = _
    funext l
    have h := zp_skip (tg := zp_tg op fd fa fb st0) (vl := zp_vl op fd fa fb st0) (st0 := st0) (D := fun i => c i + la i ≤ 0) (l := l) (j := 0) n fun i _ hi _ => by
      have := (hl i (by omega)).2.1
      show ¬ c i + la i ≤ 0
      omega
    rw [Nat.zero_add] at h
    rw [h]
    rfl
  | succ t ih =>
    intro ht
    obtain ⟨i1, i2⟩ := ih (by omega)
    have e0 : zr_mach ml ll op fd fa fb cy n st0 pv0 pt0 (t + 1) =
      (zr_w ml ll op cy (zr_iv op fd fa fb cy (zr_mach ml ll op fd fa fb cy n st0 pv0 pt0 t).1 (nI t) (zr_mach ml ll op fd fa fb cy n st0 pv0 pt0 t).2.1 n) (zr_ip op fd fa fb cy (zr_mach ml ll op fd fa fb cy n st0 pv0 pt0 t).1 (nI t) (zr_mach ml ll op fd fa fb cy n st0 pv0 pt0 t).2.2 n) (nI t) (zr_mach ml ll op fd fa fb cy n st0 pv0 pt0 t).1 n,
      zr_iv op fd fa fb cy (zr_mach ml ll op fd fa fb cy n st0 pv0 pt0 t).1 (nI t) (zr_mach ml ll op fd fa fb cy n st0 pv0 pt0 t).2.1 n,
      zr_ip op fd fa fb cy (zr_mach ml ll op fd fa fb cy n st0 pv0 pt0 t).1 (nI t) (zr_mach ml ll op fd fa fb cy n st0 pv0 pt0 t).2.2 n) := rfl
    generalize zr_mach ml ll op fd fa fb cy n st0 pv0 pt0 t = s at i1 i2 e0
    rw [e0]
    have cyt : ∀ i, i < n → (cy i = nI t ↔ c i = t) := fun i hi => by
      rw [(hc i hi).1]
      exact nI_eq (by have := (hc i hi).2; omega) (by omega)
    have hp : ∀ i, i < n → c i < t + 1 → zr_iv op fd fa fb cy s.1 (nI t) s.2.1 n i = zp_vl op fd fa fb st0 i ∧ zr_ip op fd fa fb cy s.1 (nI t) s.2.2 n i = zr_tgt op fd fa fb (zr_seq op fd fa fb st0 i) i := by
      intro j hj h
      have q := zp_iv (op := op) (fd := fd) (fa := fa) (fb := fb) (cy := cy) (st := s.1) (t := nI t) (pv0 := s.2.1) (pt0 := s.2.2) n j
      by_cases x : c j = t
      · have q1 := q.1 ⟨hj, (cyt j hj).mpr x⟩
        rw [q1.1, q1.2]
        exact zp_same F hj fun l hr => by
          rw [i1, zp_seq]
          refine zp_read (by omega) (fun i hi e => ?_) (fun i hi hin e y => ?_)
          · have := dT i j hi hj (zp_T F st0 (by omega) e hr)
            show c i + la i ≤ t
            omega
          · have y' : c i + la i ≤ t := y
            have := (hl i hin).2.1
            by_cases z : i = j
            · subst z; omega
            · have := dA j i (by omega) hin (zp_A F st0 hin e hr)
              omega
      · have q2 := q.2 fun y => x ((cyt j hj).mp y.2)
        rw [q2.1, q2.2]
        exact i2 j hj (by omega)
    refine ⟨?_, hp⟩
    show zr_w ml ll op cy _ _ (nI t) s.1 n = _
    rw [zp_wR]
    have due : ∀ i, i < n → (cy i + zv_lat ml ll op i - 1 = nI t ↔ c i + la i = t + 1) := by
      intro i hi
      have h1 := hc i hi
      have h2 := hl i hi
      rw [h1.1, h2.1, nI_add, show (1 : Int32) = nI 1 from rfl, pk_sub (by omega), nI_eq (by omega) (by omega)]
      omega
    have e1 : zp_R (fun i => (zr_ip op fd fa fb cy s.1 (nI t) s.2.2 n i).toNatClampNeg) (zr_iv op fd fa fb cy s.1 (nI t) s.2.1 n) s.1 (fun i => cy i + zv_lat ml ll op i - 1 = nI t) n = zp_R (zp_tg op fd fa fb st0) (zp_vl op fd fa fb st0) s.1 (fun i => cy i + zv_lat ml ll op i - 1 = nI t) n := by
      refine zp_cong n fun i hi hD => ?_
      have h1 := (due i hi).mp hD
      have h2 := (hl i hi).2.1
      have h3 := hp i hi (by omega)
      exact ⟨by show (zr_ip _ _ _ _ _ _ _ _ n i).toNatClampNeg = _; rw [h3.2]; rfl, h3.1⟩
    rw [e1, i1, zp_write (fun i hi hD hE => ?_) (fun i j hij hj e h => ?_)]
    · funext l
      refine zp_eq n fun i hi _ => ?_
      show (c i + la i ≤ t ∨ cy i + zv_lat ml ll op i - 1 = nI t) ↔ c i + la i ≤ t + 1
      rw [due i hi]
      omega
    · have hD' : c i + la i ≤ t := hD
      have := (due i hi).mp hE
      omega
    · have h1 := dO i j hij hj (zp_O F st0 (by omega) hj e)
      have h2 : c j + la j ≤ t + 1 := by
        rcases h with h | h
        · have h' : c j + la j ≤ t := h
          omega
        · have := (due j hj).mp h
          omega
      refine ⟨by show c i + la i ≤ t; omega, fun x => ?_⟩
      have := (due i (by omega)).mp x
      omega
theorem zp_done {n : Nat} {ml ll : Int32} {op fd fa fb cy : Nat → Int32} {c la : Nat → Nat} (F : zv_F n op fd fa fb) (L1 : zv_L ml) (L2 : zv_L ll)
    (hc : ∀ i, i < n → cy i = nI (c i) ∧ c i ≤ 63) (hl : ∀ i, i < n → zv_lat ml ll op i = nI (la i) ∧ 1 ≤ la i ∧ la i ≤ 4)
    (hd : ∀ i j, i < j → j < n → 0 ≤ (zv_dl ml ll op fd fa fb i j).toInt → (c i : Int) + (zv_dl ml ll op fd fa fb i j).toInt ≤ (c j : Int)) (st0 pv0 pt0 : Nat → Int32) {t : Nat} (ht : t ≤ 1000) (hT : ∀ i, i < n → c i + la i ≤ t) :
    (zr_mach ml ll op fd fa fb cy n st0 pv0 pt0 t).1 = zr_seq op fd fa fb st0 n := by
  rw [(zp_mach F L1 L2 hc hl hd st0 pv0 pt0 t ht).1, zp_seq]
  funext l
  exact zp_eq n fun i hi _ => ⟨fun _ => trivial, fun _ => hT i hi⟩
/-- states that agree where locations are stay so -/
theorem zp_agree {n : Nat} {op fd fa fb st st' : Nat → Int32} (F : zv_F n op fd fa fb) (h : ∀ l, l < 16 → st l = st' l) : ∀ k, k ≤ n → ∀ l, l < 16 → zr_seq op fd fa fb st k l = zr_seq op fd fa fb st' k l := by
  intro k
  induction k with
  | zero => intro _; exact h
  | succ k ih =>
    intro hk l hl
    have i1 := ih (by omega)
    have e := zp_same F (show k < n by omega) (st := zr_seq op fd fa fb st k) (st' := zr_seq op fd fa fb st' k) (fun l hr => i1 l (by
      rcases hr with hr | hr
      · have := hr.1; omega
      · exact hr.2.1))
    have a1 : zr_seq op fd fa fb st (k + 1) = upd (zr_seq op fd fa fb st k) (zr_tgt op fd fa fb (zr_seq op fd fa fb st k) k).toNatClampNeg (zr_val op fd fa fb (zr_seq op fd fa fb st k) k) := rfl
    have a2 : zr_seq op fd fa fb st' (k + 1) = upd (zr_seq op fd fa fb st' k) (zr_tgt op fd fa fb (zr_seq op fd fa fb st' k) k).toNatClampNeg (zr_val op fd fa fb (zr_seq op fd fa fb st' k) k) := rfl
    rw [a1, a2, e.1, e.2]
    by_cases y : l = (zr_tgt op fd fa fb (zr_seq op fd fa fb st' k) k).toNatClampNeg
    · rw [y, pk_us, pk_us]
    · rw [pk_un y, pk_un y]; exact i1 l hl
theorem zp_fill {ini s : Nat → Int32} : ∀ k l, l < k → zr_fill ini s k l = ini l := by
  intro k
  induction k with
  | zero => intro l hl; exact absurd hl (Nat.not_lt_zero l)
  | succ k ih =>
    intro l hl
    show upd (zr_fill ini s k) k (ini k) l = ini l
    by_cases y : l = k
    · rw [y, pk_us]
    · rw [pk_un y]; exact ih l (by omega)
theorem zp_df {a b : Nat → Int32} : ∀ k, (∀ l, l < k → a l = b l) → zr_df a b k = 0 := by
  intro k
  induction k with
  | zero => intro _; rfl
  | succ k ih =>
    intro h
    show (if a k = b k then zr_df a b k else zr_df a b k + 1) = 0
    rw [if_pos (h k (by omega))]
    exact ih fun l hl => h l (by omega)
