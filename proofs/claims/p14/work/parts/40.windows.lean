/-! the component's narrowing -/
theorem zi_m1e {a : Int32} : a = -1 ↔ a.toInt = -1 := by rw [← Int32.toInt_inj, zi_m1]
def xs_O (n : Nat) (lat lo : Nat → Int) (len : Int) (t e l : Nat → Int) (i : Nat) : Prop :=
  (t i ≠ -1 → e i = t i ∧ l i = t i) ∧ (t i = -1 → e i = lo i ∧ l i = len - lat i)
theorem xs_Ou {n : Nat} {lat lo : Nat → Int} {len : Int} {t e l e' l' : Nat → Int} {i : Nat} (h : ∀ j, j < i → xs_O n lat lo len t e l j) (hs : ∀ j, j < i → e' j = e j ∧ l' j = l j) (hi : xs_O n lat lo len t e' l' i) : ∀ j, j < i + 1 → xs_O n lat lo len t e' l' j := by
  intro j hj
  by_cases x : j = i
  · subst x; exact hi
  · have h1 := h j (by omega)
    unfold xs_O at h1 ⊢
    rw [(hs j (by omega)).1, (hs j (by omega)).2]
    exact h1
section
variable {ml ll fn : Int32} {op fd fa fb uo cy ini seq mac pv pt wa tr ea la pl ri : Nat → Int32}
theorem xs_o36 {post : St2 → Prop} {n : Nat} {x2 x3 x4 : Int32} {lat lo : Nat → Int} {wt : Nat → Nat → Int} {un : Nat → Nat} {len : Int} (H : xs_H n ml ll op uo wa lat wt un)
    (hlo : ∀ i, i < n → (nI i ≤ x3 → (x4 + 1).toInt = lo i) ∧ (¬ nI i ≤ x3 → x4.toInt = lo i)) (hlen : x2.toInt = len) (hl2 : 0 ≤ len ∧ len ≤ 40)
    (h : ∀ ea' la', (∀ i, i < n → xs_O n lat lo len (zI tr) (zI ea') (zI la') i) → post (ml, ll, nI n, op, fd, fa, fb, uo, cy, ini, seq, mac, pv, pt, wa, tr, ea', la', pl, ri)) : ∃ m, wX_openWindows_36 post x2 x3 x4 ml ll (nI n) m 0 op fd fa fb uo cy ini seq mac pv pt wa tr ea la pl ri := by
  obtain ⟨n1, n10, hlat, hwt, hun⟩ := H
  have key := loop_0 (fun m i (s : (Nat → Int32) × (Nat → Int32)) => wX_openWindows_36 post x2 x3 x4 ml ll (nI n) m (nI i) op fd fa fb uo cy ini seq mac pv pt wa tr (s.1) (s.2) pl ri) (fun i s => ∀ j, j < i → xs_O n lat lo len (zI tr) (zI s.1) (zI s.2) j) n (ea, la) (fun j hj => absurd hj (Nat.not_lt_zero j)) (fun m s I => ?_) (fun m i s hi I ih => ?_)
  · exact key
  · obtain ⟨e, l⟩ := s
    exact br_t (nI_le (Nat.le_refl n) (by omega)) (h e l I)
  · obtain ⟨e, l⟩ := s
    dsimp only at I ⊢
    have hin : vp_in (nI i) 10 := vp_in_nI (by omega) (by omega)
    refine br_f (nI_ge hi (by omega)) ⟨hin, ?_⟩
    rw [nI_clamp (show i < 2 ^ 31 by omega)]
    have fin : ∀ z : Int32, z.toInt = lo i → zI tr i = -1 → wX_openWindows_108 post (wX_openWindows_36 post x2 x3 x4 ml ll (nI n) m) x2 x3 x4 (nI i) z (nI i) ml ll (nI n) op fd fa fb uo cy ini seq mac pv pt wa tr e l pl ri := by
      intro z hz ht
      unfold wX_openWindows_108
      rw [nI_clamp (show i < 2 ^ 31 by omega)]
      refine ⟨hin, nm_e (xk_lat (by omega) ⟨hin, nm_e (nm_r (nI_1 i) (ih (upd e i z, upd l i (x2 - zv_lat ml ll op i)) (xs_Ou I (fun j hj => ?_) ?_)))⟩)⟩
      · exact ⟨by unfold zI; dsimp only; rw [pk_un (by omega)], by unfold zI; dsimp only; rw [pk_un (by omega)]⟩
      · refine ⟨fun y => absurd ht y, fun _ => ⟨?_, ?_⟩⟩
        · unfold zI; dsimp only; rw [pk_us]; exact hz
        · unfold zI; dsimp only; rw [pk_us]
          have hli := hlat i hi
          exact zi_sub hlen hli.1 (by omega) (by omega)
    by_cases c : tr i = -1
    · refine br_t c ?_
      by_cases d : nI i ≤ x3
      · exact br_t d (fin _ ((hlo i hi).1 d) (zi_m1e.mp c))
      · exact br_f d (fin _ ((hlo i hi).2 d) (zi_m1e.mp c))
    · refine br_f c ⟨hin, hin, nm_e ⟨hin, hin, nm_e (nm_r (nI_1 i) (ih (upd e i (tr i), upd l i (tr i)) (xs_Ou I (fun j hj => ?_) ?_)))⟩⟩
      · exact ⟨by unfold zI; dsimp only; rw [pk_un (by omega)], by unfold zI; dsimp only; rw [pk_un (by omega)]⟩
      · refine ⟨fun _ => ⟨?_, ?_⟩, fun y => absurd (zi_m1e.mpr y) c⟩
        · unfold zI; dsimp only; rw [pk_us]
        · unfold zI; dsimp only; rw [pk_us]
theorem xs_open {post : St2 → Prop} {n D : Nat} {x2 : Int32} {lat : Nat → Int} {wt : Nat → Nat → Int} {un : Nat → Nat} {len : Int} {ch : Nat → Nat} (H : xs_H n ml ll op uo wa lat wt un)
    (hlen : x2.toInt = len) (hl2 : 0 ≤ len ∧ len ≤ 40) (St : qd_St n lat len D (zI tr) ch) (hch : ∀ j, j < D → pl j = nI (ch j))
    (h : ∀ ea' la', (∀ i, i < n → xs_O n lat (qd_lo D (zI tr) ch) len (zI tr) (zI ea') (zI la') i) → post (ml, ll, nI n, op, fd, fa, fb, uo, cy, ini, seq, mac, pv, pt, wa, tr, ea', la', pl, ri)) : wpX_openWindows post (ml, ll, nI n, op, fd, fa, fb, uo, cy, ini, seq, mac, pv, pt, wa, tr, ea, la, pl, ri) (nI D) x2 := by
  have hn := H.2.1
  obtain ⟨s1, s2, s3⟩ := St
  unfold wpX_openWindows
  dsimp only
  cases D with
  | zero =>
    refine br_t rfl ?_
    refine br_t rfl (xs_o36 H (fun i hi => ⟨fun z => ?_, fun _ => zi_0⟩) hlen hl2 h)
    rw [Int32.le_iff_toInt_le, nI_toInt (by omega), zi_m1] at z
    omega
  | succ d =>
    have hc := s3 d (by omega)
    have hne : ¬ nI (d + 1) = 0 := nI_ne0 (by omega) (by omega)
    refine br_f hne ?_
    rw [nI_pred, nI_clamp (show d < 2 ^ 31 by omega), hch d (by omega)]
    refine ⟨vp_in_nI (by omega) (by omega), br_f hne ⟨vp_in_nI (by omega) (by omega), nm_e ?_⟩⟩
    rw [nI_clamp (show ch d < 2 ^ 31 by omega)]
    refine xs_o36 H (fun i hi => ⟨fun z => ?_, fun z => ?_⟩) hlen hl2 h
    · rw [nI_leI (by omega) (by omega)] at z
      show (tr (ch d) + 1).toInt = qo_lk (ch d) (zI tr (ch d)) i
      rw [qo_lkl (by omega)]
      have h1 := (s1 (ch d) hc.1).resolve_left hc.2
      exact zi_add rfl zi_1 (by omega) (by have := (H.2.2.1 (ch d) hc.1).2.1; omega)
    · rw [nI_leI (by omega) (by omega)] at z
      show (tr (ch d)).toInt = qo_lk (ch d) (zI tr (ch d)) i
      rw [qo_lkg (by omega)]
      rfl
end
/-- the pass forward: all edges into the first j, of those into j the first i -/
def xs_P1 (n : Nat) (lat : Nat → Int) (dl wt : Nat → Nat → Int) (un : Nat → Nat) (len : Int) (t lo e0 l : Nat → Int) (j i : Nat) (e : Nat → Int) : Prop :=
  qn_J n lat dl un len t lo e l ∧ (∀ b, b < n → e0 b ≤ e b) ∧ qn_E wt e j i ∧ (∀ b, b < n → 0 ≤ e b ∧ e b ≤ 40 + 4 * (b : Int))
theorem xs_P1k {n : Nat} {lat : Nat → Int} {dl wt : Nat → Nat → Int} {un : Nat → Nat} {len : Int} {t lo e0 l e : Nat → Int} {j i : Nat} (P : xs_P1 n lat dl wt un len t lo e0 l j i e) (h : 0 ≤ wt i j → e i + wt i j ≤ e j) : xs_P1 n lat dl wt un len t lo e0 l j (i + 1) e := ⟨P.1, P.2.1, qn_Ek P.2.2.1 h, P.2.2.2⟩
theorem xs_P1u {n : Nat} {lat : Nat → Int} {dl wt : Nat → Nat → Int} {un : Nat → Nat} {len : Int} {t lo e0 l e : Nat → Int} {j i : Nat} (hw : qw_W n dl wt un) (P : xs_P1 n lat dl wt un len t lo e0 l j i e) (hij : i < j) (hj : j < n) (hd : 0 ≤ wt i j) (h4 : wt i j ≤ 4) (h : e j ≤ e i + wt i j) : xs_P1 n lat dl wt un len t lo e0 l j (i + 1) (qg_up e j (e i + wt i j)) := by
  obtain ⟨p1, p2, p3, p4⟩ := P
  refine ⟨qn_Je p1 h (fun c C => ?_), fun b hb => ?_, qn_Eu p3 hij h, fun b hb => ?_⟩
  · have h1 := qw_V hw C.1 hij hj hd
    have h2 := (p1.1 c C i (by omega)).1
    omega
  · have h1 := p2 b hb
    by_cases y : b = j
    · rw [y, qg_us]; rw [y] at h1; omega
    · rw [qg_un y]; exact h1
  · have h1 := p4 b hb
    by_cases y : b = j
    · have h2 := p4 i (by omega)
      rw [y, qg_us]; rw [y] at h1; omega
    · rw [qg_un y]; exact h1
/-- the pass backward -/
def xs_P2 (n : Nat) (lat : Nat → Int) (dl : Nat → Nat → Int) (un : Nat → Nat) (len : Int) (t lo e l0 : Nat → Int) (k : Nat) (l : Nat → Int) : Prop :=
  qn_J n lat dl un len t lo e l ∧ (∀ b, b < n → l b ≤ l0 b) ∧ (∀ b, k ≤ b → b < n → e b ≤ l b) ∧ (∀ b, b < n → l b ≤ 39 ∧ -37 + 4 * (b : Int) ≤ l b)
theorem xs_P2u {n : Nat} {lat : Nat → Int} {dl wt : Nat → Nat → Int} {un : Nat → Nat} {len : Int} {t lo e l0 l : Nat → Int} {i j : Nat} (hw : qw_W n dl wt un) (P : xs_P2 n lat dl un len t lo e l0 (i + 1) l) (hij : i < j) (hj : j < n) (hd : 0 ≤ wt i j) (h4 : wt i j ≤ 4) (h : l j - wt i j ≤ l i) : xs_P2 n lat dl un len t lo e l0 (i + 1) (qg_up l i (l j - wt i j)) := by
  obtain ⟨p1, p2, p3, p4⟩ := P
  refine ⟨qn_Jl p1 h (fun c C => ?_), fun b hb => ?_, fun b hk hb => ?_, fun b hb => ?_⟩
  · have h1 := qw_V hw C.1 hij hj hd
    have h2 := (p1.1 c C j hj).2
    omega
  · have h1 := p2 b hb
    by_cases y : b = i
    · rw [y, qg_us]; rw [y] at h1; omega
    · rw [qg_un y]; exact h1
  · rw [qg_un (show b ≠ i by omega)]; exact p3 b hk hb
  · have h1 := p4 b hb
    by_cases y : b = i
    · have h2 := p4 j hj
      rw [y, qg_us]; rw [y] at h1; omega
    · rw [qg_un y]; exact h1
section
variable {ml ll fn : Int32} {op fd fa fb uo cy ini seq mac pv pt wa tr ea la pl ri : Nat → Int32}
theorem xs_edges {post : Int32 → St2 → Prop} {n : Nat} {lat lo : Nat → Int} {dl wt : Nat → Nat → Int} {un : Nat → Nat} {len : Int} (H : xs_H n ml ll op uo wa lat wt un) (hw : qw_W n dl wt un) (J : qn_J n lat dl un len (zI tr) lo (zI ea) (zI la)) (R : xs_R n (zI ea) (zI la))
    (h1 : ∀ ea' la', qn_J n lat dl un len (zI tr) lo (zI ea') (zI la') → qn_D n (zI ea) (zI la) (zI ea') (zI la') → qn_E wt (zI ea') n 0 → (∀ i, i < n → 0 ≤ zI ea' i ∧ zI ea' i ≤ zI la' i ∧ zI la' i ≤ 39) → post 1 (ml, ll, nI n, op, fd, fa, fb, uo, cy, ini, seq, mac, pv, pt, wa, tr, ea', la', pl, ri))
    (h0 : ∀ ea' la', (∀ c, ¬ qo_C n lat dl un len (zI tr) lo c) → post 0 (ml, ll, nI n, op, fd, fa, fb, uo, cy, ini, seq, mac, pv, pt, wa, tr, ea', la', pl, ri)) : wpX_narrowByEdges post (ml, ll, nI n, op, fd, fa, fb, uo, cy, ini, seq, mac, pv, pt, wa, tr, ea, la, pl, ri) := by
  obtain ⟨n1, n10, hlat, hwt, hun⟩ := H
  have B : ∀ ea' : Nat → Int32, xs_P1 n lat dl wt un len (zI tr) lo (zI ea) (zI la) n 0 (zI ea') → ∀ k la', k ≤ n → xs_P2 n lat dl un len (zI tr) lo (zI ea') (zI la) k (zI la') → wX_narrowByEdges_84 post ml ll (nI n) (k + 1) (nI k - 1) op fd fa fb uo cy ini seq mac pv pt wa tr ea' la' pl ri := by
    intro ea' P1 k
    induction k with
    | zero =>
      intro la' _ P
      obtain ⟨p1, p2, p3, p4⟩ := P
      refine br_t (by decide) (h1 ea' la' p1 (fun b hb => ⟨P1.2.1 b hb, p2 b hb⟩) P1.2.2.1 (fun b hb => ⟨(P1.2.2.2 b hb).1, p3 b (Nat.zero_le b) hb, (p4 b hb).1⟩))
    | succ i ihk =>
      intro la' hk P
      have hin : vp_in (nI i) 10 := vp_in_nI (by omega) (by omega)
      rw [nI_pred]
      refine br_f (nI_pos (by omega)) (nm_r (nI_1 i) ?_)
      refine pk_loop (fun m j (s : Nat → Int32) => wX_narrowByEdges_92 post (wX_narrowByEdges_84 post ml ll (nI n) (i + 1)) (nI i) ml ll (nI n) m (nI j) op fd fa fb uo cy ini seq mac pv pt wa tr ea' s pl ri) (fun j s => i < j ∧ xs_P2 n lat dl un len (zI tr) lo (zI ea') (zI la) (i + 1) (zI s)) n (i + 1) la' (by omega) ⟨by omega, P⟩ (fun m s I => ?_) (fun m j s hj I ih => ?_)
      · obtain ⟨_, p⟩ := I
        refine br_t (nI_le (Nat.le_refl n) (by omega)) ⟨hin, hin, ?_⟩
        rw [nI_clamp (show i < 2 ^ 31 by omega)]
        refine zi_bl (show (ea' i).toInt = zI ea' i from rfl) (show (s i).toInt = zI s i from rfl) (fun q => nm_r (Int32.sub_eq_add_neg (nI i) 1).symm (ihk s (by omega) ⟨p.1, p.2.1, fun b hb hbn => ?_, p.2.2.2⟩)) (fun q => h0 ea' s (fun c C => ?_))
        · by_cases y : b = i
          · subst y; exact q
          · exact p.2.2.1 b (by omega) hbn
        · have := p.1.1 c C i (by omega)
          omega
      · obtain ⟨hij, p⟩ := I
        have hwj := hwt i j hij hj
        have e : nI i * 10 + nI j = nI (i * 10 + j) := by rw [show (10 : Int32) = nI 10 from rfl, pk_mul, nI_add]
        have hjn : vp_in (nI j) 10 := vp_in_nI (by omega) (by omega)
        refine br_f (nI_ge hj (by omega)) ?_
        rw [e, nI_clamp (show i * 10 + j < 2 ^ 31 by omega), nI_clamp (show i < 2 ^ 31 by omega), nI_clamp (show j < 2 ^ 31 by omega)]
        refine ⟨vp_in_nI (by omega) (by omega), nm_e ?_⟩
        refine zi_be hwj.1 zi_m1 (fun q => nm_r (nI_1 j) (ih s ⟨by omega, p⟩)) (fun q => ⟨hjn, hin, ?_⟩)
        have r1 := p.2.2.2 j hj
        have hs : (s j - wa (i * 10 + j)).toInt = zI s j - wt i j := zi_sub rfl hwj.1 (by omega) (by omega)
        refine zi_bl (show (s i).toInt = zI s i from rfl) hs (fun q2 => nm_r (nI_1 j) (ih s ⟨by omega, p⟩)) (fun q2 => ⟨hjn, hin, nm_e (nm_r (nI_1 j) (ih _ ⟨by omega, ?_⟩))⟩)
        rw [zI_u, hs]
        exact xs_P2u hw p hij hj (by omega) hwj.2.2 (by omega)
  unfold wpX_narrowByEdges
  dsimp only
  have key := loop_0 (fun m j (s : Nat → Int32) => wX_narrowByEdges_2 post ml ll (nI n) m (nI j) op fd fa fb uo cy ini seq mac pv pt wa tr s la pl ri) (fun j s => xs_P1 n lat dl wt un len (zI tr) lo (zI ea) (zI la) j 0 (zI s)) n ea ⟨J, fun b _ => Int.le_refl _, qn_E0, fun b hb => by have := R b hb; omega⟩ (fun m s I => ?_) (fun m j s hj I ih => ?_)
  · exact key
  · refine br_t (nI_le (Nat.le_refl n) (by omega)) (nm_e ⟨n + 1, B s I n la (Nat.le_refl n) ⟨I.1, fun b _ => Int.le_refl _, fun b h h' => by omega, fun b hb => ?_⟩⟩)
    have := R b hb
    omega
  · refine br_f (nI_ge hj (by omega)) ?_
    have key2 := loop_0 (fun m2 i (s : Nat → Int32) => wX_narrowByEdges_12 post (wX_narrowByEdges_2 post ml ll (nI n) m) (nI j) ml ll (nI n) m2 (nI i) op fd fa fb uo cy ini seq mac pv pt wa tr s la pl ri) (fun i s => xs_P1 n lat dl wt un len (zI tr) lo (zI ea) (zI la) j i (zI s)) j s I (fun m2 s I2 => ?_) (fun m2 i s hi I2 ih2 => ?_)
    · exact key2
    · exact br_t (nI_le (Nat.le_refl j) (by omega)) (nm_r (nI_1 j) (ih s ⟨I2.1, I2.2.1, qn_En I2.2.2.1, I2.2.2.2⟩))
    · have hwj := hwt i j hi hj
      have e : nI i * 10 + nI j = nI (i * 10 + j) := by rw [show (10 : Int32) = nI 10 from rfl, pk_mul, nI_add]
      have hin : vp_in (nI i) 10 := vp_in_nI (by omega) (by omega)
      have hjn : vp_in (nI j) 10 := vp_in_nI (by omega) (by omega)
      refine br_f (nI_ge hi (by omega)) ?_
      rw [e, nI_clamp (show i * 10 + j < 2 ^ 31 by omega), nI_clamp (show i < 2 ^ 31 by omega), nI_clamp (show j < 2 ^ 31 by omega)]
      refine ⟨vp_in_nI (by omega) (by omega), nm_e ?_⟩
      refine zi_be hwj.1 zi_m1 (fun q => nm_r (nI_1 i) (ih2 s (xs_P1k I2 fun z => by omega))) (fun q => ⟨hin, hjn, ?_⟩)
      have r1 := I2.2.2.2 i (by omega)
      have hs : (s i + wa (i * 10 + j)).toInt = zI s i + wt i j := zi_add rfl hwj.1 (by omega) (by omega)
      refine zi_bl hs (show (s j).toInt = zI s j from rfl) (fun q2 => nm_r (nI_1 i) (ih2 s (xs_P1k I2 fun _ => q2))) (fun q2 => ⟨hin, hjn, nm_e (nm_r (nI_1 i) (ih2 _ ?_))⟩)
      rw [zI_u, hs]
      exact xs_P1u hw I2 hi hj (by omega) hwj.2.2 (by omega)
end
