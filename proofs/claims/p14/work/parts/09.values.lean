/-! values of the block, shared by both sides -/
def zv_lat (ml ll : Int32) (op : Nat → Int32) (i : Nat) : Int32 := if op i = 4 then ml else if op i = 5 then ll else 1
/-- a latency -/
def zv_L (x : Int32) : Prop := ∃ a, 1 ≤ a ∧ a ≤ 4 ∧ x = nI a
theorem zv_latL {ml ll : Int32} {op : Nat → Int32} (h1 : zv_L ml) (h2 : zv_L ll) (i : Nat) : zv_L (zv_lat ml ll op i) := by
  unfold zv_lat
  split
  · exact h1
  · split
    · exact h2
    · exact ⟨1, by decide, by decide, rfl⟩
theorem zv_Li {x : Int32} (h : zv_L x) : 1 ≤ x.toInt ∧ x.toInt ≤ 4 := by
  obtain ⟨a, h1, h2, rfl⟩ := h
  rw [nI_toInt (by omega)]
  omega
/-- the instructions kept: opcodes, fields within -/
def zv_F (n : Nat) (op fd fa fb : Nat → Int32) : Prop :=
  ∀ i, i < n → (∃ o, 1 ≤ o ∧ o ≤ 6 ∧ op i = nI o) ∧ (∃ d, d < 8 ∧ fd i = nI d) ∧ (op i ≠ 1 → ∃ a, a < 8 ∧ fa i = nI a) ∧ (op i = 2 ∨ op i = 3 ∨ op i = 4 → ∃ b, b < 8 ∧ fb i = nI b)
/-- i reads register r -/
def zv_rd (op fd fa fb : Nat → Int32) (i : Nat) (r : Int32) : Prop :=
  ((op i = 2 ∨ op i = 3 ∨ op i = 4) ∧ (fa i = r ∨ fb i = r)) ∨ (op i = 5 ∧ fa i = r) ∨ (op i = 6 ∧ (fa i = r ∨ fd i = r))
def zv_T (op fd fa fb : Nat → Int32) (i j : Nat) : Prop := (op i ≠ 6 ∧ zv_rd op fd fa fb j (fd i)) ∨ (op i = 6 ∧ op j = 5)
def zv_A (op fd fa fb : Nat → Int32) (i j : Nat) : Prop := (op j ≠ 6 ∧ zv_rd op fd fa fb i (fd j)) ∨ (op i = 5 ∧ op j = 6)
def zv_O (op fd : Nat → Int32) (i j : Nat) : Prop := (op i ≠ 6 ∧ op j ≠ 6 ∧ fd i = fd j) ∨ (op i = 6 ∧ op j = 6)
noncomputable def zv_b (p : Prop) (x : Int32) : Int32 := @ite Int32 p (Classical.propDecidable p) x 0
theorem zv_bt {p : Prop} {x : Int32} (h : p) : zv_b p x = x := if_pos h
theorem zv_bf {p : Prop} {x : Int32} (h : ¬ p) : zv_b p x = 0 := if_neg h
/-- the kinds of a pair -/
noncomputable def zv_k (op fd fa fb : Nat → Int32) (i j : Nat) : Int32 := zv_b (zv_T op fd fa fb i j) 1 + zv_b (zv_A op fd fa fb i j) 2 + zv_b (zv_O op fd i j) 4
theorem zv_k8 {op fd fa fb : Nat → Int32} {i j : Nat} : ∃ k, k < 8 ∧ zv_k op fd fa fb i j = nI k := by
  unfold zv_k
  by_cases h1 : zv_T op fd fa fb i j
  · by_cases h2 : zv_A op fd fa fb i j
    · by_cases h3 : zv_O op fd i j
      · rw [zv_bt h1, zv_bt h2, zv_bt h3]; exact ⟨7, by decide, by decide⟩
      · rw [zv_bt h1, zv_bt h2, zv_bf h3]; exact ⟨3, by decide, by decide⟩
    · by_cases h3 : zv_O op fd i j
      · rw [zv_bt h1, zv_bf h2, zv_bt h3]; exact ⟨5, by decide, by decide⟩
      · rw [zv_bt h1, zv_bf h2, zv_bf h3]; exact ⟨1, by decide, by decide⟩
  · by_cases h2 : zv_A op fd fa fb i j
    · by_cases h3 : zv_O op fd i j
      · rw [zv_bf h1, zv_bt h2, zv_bt h3]; exact ⟨6, by decide, by decide⟩
      · rw [zv_bf h1, zv_bt h2, zv_bf h3]; exact ⟨2, by decide, by decide⟩
    · by_cases h3 : zv_O op fd i j
      · rw [zv_bf h1, zv_bf h2, zv_bt h3]; exact ⟨4, by decide, by decide⟩
      · rw [zv_bf h1, zv_bf h2, zv_bf h3]; exact ⟨0, by decide, by decide⟩
/-- the delay for kinds k and latencies a, b, as the reference takes it -/
def zv_d (k a b : Int32) : Int32 :=
  if k = 0 then -1
  else if k &&& 4 = 0 then (if k &&& 1 = 0 then 0 else a)
  else if (if 1 ≤ a - b + 1 then a - b + 1 else 1) ≤ (if k &&& 1 = 0 then 0 else a) then (if k &&& 1 = 0 then 0 else a)
  else (if 1 ≤ a - b + 1 then a - b + 1 else 1)
/-- and as the component takes it -/
def zv_dX (k a b : Int32) : Int32 :=
  if k = 0 then -1
  else if k &&& 1 = 0 then (if k &&& 4 = 0 then 0 else if a ≤ b then 1 else a - b + 1)
  else if a ≤ (if k &&& 4 = 0 then 0 else if a ≤ b then 1 else a - b + 1) then (if k &&& 4 = 0 then 0 else if a ≤ b then 1 else a - b + 1)
  else a
theorem zv_dtab : (List.range 8).all (fun k => (List.range 5).all fun a => (List.range 5).all fun b => (a == 0 || b == 0) || (decide (zv_d (nI k) (nI a) (nI b) = zv_dX (nI k) (nI a) (nI b)) && decide (-1 ≤ (zv_d (nI k) (nI a) (nI b)).toInt ∧ (zv_d (nI k) (nI a) (nI b)).toInt ≤ (nI a).toInt))) = true := by decide +kernel
theorem zv_dd {k a b : Int32} (hk : ∃ q, q < 8 ∧ k = nI q) (ha : zv_L a) (hb : zv_L b) : zv_d k a b = zv_dX k a b ∧ -1 ≤ (zv_d k a b).toInt ∧ (zv_d k a b).toInt ≤ a.toInt := by
  obtain ⟨q, hq, rfl⟩ := hk
  obtain ⟨x, x1, x2, rfl⟩ := ha
  obtain ⟨y, y1, y2, rfl⟩ := hb
  have h := zv_dtab
  rw [List.all_eq_true] at h
  have h1 := h q (List.mem_range.mpr hq)
  rw [List.all_eq_true] at h1
  have h2 := h1 x (List.mem_range.mpr (by omega))
  rw [List.all_eq_true] at h2
  have h3 := h2 y (List.mem_range.mpr (by omega))
  rw [Bool.or_eq_true] at h3
  rcases h3 with h4 | h4
  · rw [Bool.or_eq_true, beq_iff_eq, beq_iff_eq] at h4
    omega
  · rw [Bool.and_eq_true] at h4
    exact ⟨of_decide_eq_true h4.1, of_decide_eq_true h4.2⟩
noncomputable def zv_dl (ml ll : Int32) (op fd fa fb : Nat → Int32) (i j : Nat) : Int32 := zv_d (zv_k op fd fa fb i j) (zv_lat ml ll op i) (zv_lat ml ll op j)
theorem zv_dlI {ml ll : Int32} {op fd fa fb : Nat → Int32} (h1 : zv_L ml) (h2 : zv_L ll) (i j : Nat) : -1 ≤ (zv_dl ml ll op fd fa fb i j).toInt ∧ (zv_dl ml ll op fd fa fb i j).toInt ≤ (zv_lat ml ll op i).toInt :=
  (zv_dd zv_k8 (zv_latL h1 h2 i) (zv_latL h1 h2 j)).2
theorem zv_dlX {ml ll : Int32} {op fd fa fb : Nat → Int32} (h1 : zv_L ml) (h2 : zv_L ll) (i j : Nat) : zv_dX (zv_k op fd fa fb i j) (zv_lat ml ll op i) (zv_lat ml ll op j) = zv_dl ml ll op fd fa fb i j :=
  (zv_dd zv_k8 (zv_latL h1 h2 i) (zv_latL h1 h2 j)).1.symm
/-! masks of registers -/
def zv_m (x : Int32) : Int32 := (1 : Int32) <<< (x &&& 31)
theorem zm_tab1 : (List.range 8).all (fun a => (List.range 8).all fun b => decide (zv_m (nI a) &&& zv_m (nI b) = 0 ↔ a ≠ b)) = true := by decide +kernel
theorem zm_tab2 : (List.range 8).all (fun a => (List.range 8).all fun b => (List.range 8).all fun c => decide (zv_m (nI a) &&& (zv_m (nI b) ||| zv_m (nI c)) = 0 ↔ (a ≠ b ∧ a ≠ c)) && decide ((zv_m (nI b) ||| zv_m (nI c)) &&& zv_m (nI a) = 0 ↔ (a ≠ b ∧ a ≠ c))) = true := by decide +kernel
theorem zm_1 {a b : Nat} (ha : a < 8) (hb : b < 8) : zv_m (nI a) &&& zv_m (nI b) = 0 ↔ a ≠ b := by
  have h := zm_tab1
  rw [List.all_eq_true] at h
  have h1 := h a (List.mem_range.mpr ha)
  rw [List.all_eq_true] at h1
  exact of_decide_eq_true (h1 b (List.mem_range.mpr hb))
theorem zm_2 {a b c : Nat} (ha : a < 8) (hb : b < 8) (hc : c < 8) : (zv_m (nI a) &&& (zv_m (nI b) ||| zv_m (nI c)) = 0 ↔ (a ≠ b ∧ a ≠ c)) ∧ ((zv_m (nI b) ||| zv_m (nI c)) &&& zv_m (nI a) = 0 ↔ (a ≠ b ∧ a ≠ c)) := by
  have h := zm_tab2
  rw [List.all_eq_true] at h
  have h1 := h a (List.mem_range.mpr ha)
  rw [List.all_eq_true] at h1
  have h2 := h1 b (List.mem_range.mpr hb)
  rw [List.all_eq_true] at h2
  have h3 := h2 c (List.mem_range.mpr hc)
  rw [Bool.and_eq_true] at h3
  exact ⟨of_decide_eq_true h3.1, of_decide_eq_true h3.2⟩
/-- the registers that i reads, as bits -/
def zv_rm (op fd fa fb : Nat → Int32) (i : Nat) : Int32 := if op i = 1 then 0 else if op i = 5 then zv_m (fa i) else if op i = 6 then zv_m (fa i) ||| zv_m (fd i) else zv_m (fa i) ||| zv_m (fb i)
def zv_wm (op fd : Nat → Int32) (i : Nat) : Int32 := if op i = 6 then 0 else zv_m (fd i)
theorem zv_nI6 {x : Int32} (h : ∃ o, 1 ≤ o ∧ o ≤ 6 ∧ x = nI o) : x = 1 ∨ x = 2 ∨ x = 3 ∨ x = 4 ∨ x = 5 ∨ x = 6 := by
  obtain ⟨o, h1, h2, rfl⟩ := h
  rcases (show o = 1 ∨ o = 2 ∨ o = 3 ∨ o = 4 ∨ o = 5 ∨ o = 6 by omega) with h | h | h | h | h | h <;> subst h
  · exact Or.inl rfl
  · exact Or.inr (Or.inl rfl)
  · exact Or.inr (Or.inr (Or.inl rfl))
  · exact Or.inr (Or.inr (Or.inr (Or.inl rfl)))
  · exact Or.inr (Or.inr (Or.inr (Or.inr (Or.inl rfl))))
  · exact Or.inr (Or.inr (Or.inr (Or.inr (Or.inr rfl))))
/-- a register's bit among those that i reads -/
theorem zm_rd {n : Nat} {op fd fa fb : Nat → Int32} (F : zv_F n op fd fa fb) {i r : Nat} (hi : i < n) (hr : r < 8) : (zv_m (nI r) &&& zv_rm op fd fa fb i = 0 ↔ ¬ zv_rd op fd fa fb i (nI r)) ∧ (zv_rm op fd fa fb i &&& zv_m (nI r) = 0 ↔ ¬ zv_rd op fd fa fb i (nI r)) := by
  obtain ⟨f1, ⟨d, hd, ed⟩, f3, f4⟩ := F i hi
  have e1 : ∀ a, a < 8 → (nI a = nI r ↔ a = r) := fun a ha => nI_eq (by omega) (by omega)
  have c : ∀ x y : Int32, x &&& y = y &&& x := fun x y => Int32.and_comm x y
  rcases zv_nI6 f1 with h | h | h | h | h | h
  · have e : zv_rm op fd fa fb i = 0 := by unfold zv_rm; rw [if_pos h]
    have hn : ¬ zv_rd op fd fa fb i (nI r) := by
      unfold zv_rd
      rw [h]
      intro z
      rcases z with ⟨z, _⟩ | ⟨z, _⟩ | ⟨z, _⟩
      · rcases z with z | z | z
        · exact absurd z (by decide)
        · exact absurd z (by decide)
        · exact absurd z (by decide)
      · exact absurd z (by decide)
      · exact absurd z (by decide)
    rw [e]
    refine ⟨⟨fun _ => hn, fun _ => ?_⟩, ⟨fun _ => hn, fun _ => ?_⟩⟩
    · exact Int32.and_zero
    · exact Int32.zero_and
  all_goals obtain ⟨a, ha, ea⟩ := f3 (by rw [h]; decide)
  · obtain ⟨b, hb, eb⟩ := f4 (Or.inl h)
    have e : zv_rm op fd fa fb i = zv_m (nI a) ||| zv_m (nI b) := by unfold zv_rm; rw [if_neg (by rw [h]; decide), if_neg (by rw [h]; decide), if_neg (by rw [h]; decide), ea, eb]
    have hz : zv_rd op fd fa fb i (nI r) ↔ (a = r ∨ b = r) := by
      unfold zv_rd
      rw [ea, eb, e1 a ha, e1 b hb]
      exact ⟨fun z => z.elim (fun z => z.2) (fun z => z.elim (fun z => absurd z.1 (by rw [h]; decide)) (fun z => absurd z.1 (by rw [h]; decide))), fun z => Or.inl ⟨Or.inl h, z⟩⟩
    have t := zm_2 hr ha hb
    rw [e, t.1, t.2, hz]
    omega
  · obtain ⟨b, hb, eb⟩ := f4 (Or.inr (Or.inl h))
    have e : zv_rm op fd fa fb i = zv_m (nI a) ||| zv_m (nI b) := by unfold zv_rm; rw [if_neg (by rw [h]; decide), if_neg (by rw [h]; decide), if_neg (by rw [h]; decide), ea, eb]
    have hz : zv_rd op fd fa fb i (nI r) ↔ (a = r ∨ b = r) := by
      unfold zv_rd
      rw [ea, eb, e1 a ha, e1 b hb]
      exact ⟨fun z => z.elim (fun z => z.2) (fun z => z.elim (fun z => absurd z.1 (by rw [h]; decide)) (fun z => absurd z.1 (by rw [h]; decide))), fun z => Or.inl ⟨Or.inr (Or.inl h), z⟩⟩
    have t := zm_2 hr ha hb
    rw [e, t.1, t.2, hz]
    omega
  · obtain ⟨b, hb, eb⟩ := f4 (Or.inr (Or.inr h))
    have e : zv_rm op fd fa fb i = zv_m (nI a) ||| zv_m (nI b) := by unfold zv_rm; rw [if_neg (by rw [h]; decide), if_neg (by rw [h]; decide), if_neg (by rw [h]; decide), ea, eb]
    have hz : zv_rd op fd fa fb i (nI r) ↔ (a = r ∨ b = r) := by
      unfold zv_rd
      rw [ea, eb, e1 a ha, e1 b hb]
      exact ⟨fun z => z.elim (fun z => z.2) (fun z => z.elim (fun z => absurd z.1 (by rw [h]; decide)) (fun z => absurd z.1 (by rw [h]; decide))), fun z => Or.inl ⟨Or.inr (Or.inr h), z⟩⟩
    have t := zm_2 hr ha hb
    rw [e, t.1, t.2, hz]
    omega
  · have e : zv_rm op fd fa fb i = zv_m (nI a) := by unfold zv_rm; rw [if_neg (by rw [h]; decide), if_pos h, ea]
    have hz : zv_rd op fd fa fb i (nI r) ↔ a = r := by
      unfold zv_rd
      rw [ea, e1 a ha]
      exact ⟨fun z => z.elim (fun z => absurd z.1 (by rw [h]; decide)) (fun z => z.elim (fun z => z.2) (fun z => absurd z.1 (by rw [h]; decide))), fun z => Or.inr (Or.inl ⟨h, z⟩)⟩
    rw [e, c (zv_m (nI a)), zm_1 hr ha, hz]
    omega
  · have e : zv_rm op fd fa fb i = zv_m (nI a) ||| zv_m (nI d) := by unfold zv_rm; rw [if_neg (by rw [h]; decide), if_neg (by rw [h]; decide), if_pos h, ea, ed]
    have hz : zv_rd op fd fa fb i (nI r) ↔ (a = r ∨ d = r) := by
      unfold zv_rd
      rw [ea, ed, e1 a ha, e1 d hd]
      exact ⟨fun z => z.elim (fun z => absurd z.1 (by rw [h]; decide)) (fun z => z.elim (fun z => absurd z.1 (by rw [h]; decide)) (fun z => z.2)), fun z => Or.inr (Or.inr ⟨h, z⟩)⟩
    have t := zm_2 hr ha hd
    rw [e, t.1, t.2, hz]
    omega
/-- the component's three tests -/
theorem zm_T {n : Nat} {op fd fa fb : Nat → Int32} (F : zv_F n op fd fa fb) {i j : Nat} (hi : i < n) (hj : j < n) : (¬ zv_wm op fd i &&& zv_rm op fd fa fb j = 0 ∨ (op i = 6 ∧ op j = 5)) ↔ zv_T op fd fa fb i j := by
  obtain ⟨_, ⟨d, hd, ed⟩, _, _⟩ := F i hi
  unfold zv_T zv_wm
  by_cases h : op i = 6
  · rw [if_pos h, Int32.zero_and]
    exact ⟨fun z => z.elim (fun z => absurd rfl z) Or.inr, fun z => z.elim (fun z => absurd h z.1) Or.inr⟩
  · rw [if_neg h, ed, (zm_rd F hj hd).1]
    exact ⟨fun z => z.elim (fun z => Or.inl ⟨h, Classical.not_not.mp z⟩) Or.inr, fun z => z.elim (fun z => Or.inl fun y => y z.2) Or.inr⟩
theorem zm_A {n : Nat} {op fd fa fb : Nat → Int32} (F : zv_F n op fd fa fb) {i j : Nat} (hi : i < n) (hj : j < n) : (¬ zv_rm op fd fa fb i &&& zv_wm op fd j = 0 ∨ (op i = 5 ∧ op j = 6)) ↔ zv_A op fd fa fb i j := by
  obtain ⟨_, ⟨d, hd, ed⟩, _, _⟩ := F j hj
  unfold zv_A zv_wm
  by_cases h : op j = 6
  · rw [if_pos h, Int32.and_zero]
    exact ⟨fun z => z.elim (fun z => absurd rfl z) Or.inr, fun z => z.elim (fun z => absurd h z.1) Or.inr⟩
  · rw [if_neg h, ed, (zm_rd F hi hd).2]
    exact ⟨fun z => z.elim (fun z => Or.inl ⟨h, Classical.not_not.mp z⟩) Or.inr, fun z => z.elim (fun z => Or.inl fun y => y z.2) Or.inr⟩
theorem zm_O {n : Nat} {op fd fa fb : Nat → Int32} (F : zv_F n op fd fa fb) {i j : Nat} (hi : i < n) (hj : j < n) : (¬ zv_wm op fd i &&& zv_wm op fd j = 0 ∨ (op i = 6 ∧ op j = 6)) ↔ zv_O op fd i j := by
  obtain ⟨_, ⟨d, hd, ed⟩, _, _⟩ := F i hi
  obtain ⟨_, ⟨d', hd', ed'⟩, _, _⟩ := F j hj
  unfold zv_O zv_wm
  by_cases h : op i = 6
  · rw [if_pos h, Int32.zero_and]
    exact ⟨fun z => z.elim (fun z => absurd rfl z) Or.inr, fun z => z.elim (fun z => absurd h z.1) Or.inr⟩
  · rw [if_neg h]
    by_cases h' : op j = 6
    · rw [if_pos h', Int32.and_zero]
      exact ⟨fun z => z.elim (fun z => absurd rfl z) Or.inr, fun z => z.elim (fun z => absurd h' z.2.1) Or.inr⟩
    · rw [if_neg h', ed, ed', zm_1 hd hd', nI_eq (by omega) (by omega)]
      exact ⟨fun z => z.elim (fun z => Or.inl ⟨h, h', Classical.not_not.mp z⟩) Or.inr, fun z => z.elim (fun z => Or.inl fun y => y z.2.2) Or.inr⟩
/-- units -/
def zv_un (x : Int32) : Nat := if x = 4 then 2 else if x = 5 then 1 else if x = 6 then 1 else 0
