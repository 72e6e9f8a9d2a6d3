/-- the waits of the component are the delays', but for pairs of one scarce unit -/
theorem xh_W {n : Nat} {ml ll : Int32} {op fd fa fb uo : Nat → Int32} (U : ∀ i, i < n → uo i = nI (zv_un (op i))) (un2 : ∀ x, zv_un x ≤ 2) : qw_W n (zv_D ml ll op fd fa fb) (fun i j => (xw_W ml ll op fd fa fb uo i j).toInt) (fun i => zv_un (op i)) := by
  intro i j hij hj
  dsimp only
  unfold xw_W zv_D
  by_cases c : zv_dl ml ll op fd fa fb i j = 0 ∧ (uo i = uo j ∧ uo i ≠ 0)
  · rw [if_pos c]
    refine Or.inr ⟨by rw [c.1]; exact zi_0, zi_1, ?_, ?_⟩
    · have h := c.2.1
      rw [U i (by omega), U j hj] at h
      have h1 := un2 (op i)
      have h2 := un2 (op j)
      exact (nI_eq (by omega) (by omega)).mp h
    · intro z
      apply c.2.2
      rw [U i (by omega), z]
      rfl
  · rw [if_neg c]
    exact Or.inl rfl
theorem zv_un2 (x : Int32) : zv_un x ≤ 2 := by unfold zv_un; split <;> (try omega); split <;> (try omega); split <;> omega
theorem zh_nI {x : Int32} (h : 0 ≤ x.toInt) : x = nI x.toInt.toNat := by
  refine Int32.toInt_inj.mp ?_
  have := x.toInt_lt
  rw [nI_toInt (by omega)]
  omega
section
variable {ml ll fn : Int32} {op fd fa fb uo cy ini seq mac pv pt wa tr ea la pl ri : Nat → Int32}
theorem xh_56 {post : Int32 → St2 → Prop} {J37 : Int32 → Int32 → Int32 → Int32 → (Nat → Int32) → (Nat → Int32) → (Nat → Int32) → (Nat → Int32) → (Nat → Int32) → (Nat → Int32) → (Nat → Int32) → (Nat → Int32) → (Nat → Int32) → (Nat → Int32) → (Nat → Int32) → (Nat → Int32) → (Nat → Int32) → (Nat → Int32) → (Nat → Int32) → (Nat → Int32) → (Nat → Int32) → Prop} {n i L M : Nat} {x3 : Int32} {lat : Nat → Int} {dl wt : Nat → Nat → Int} {un : Nat → Nat} (H : xs_H n ml ll op uo wa lat wt un) (hw : qw_W n dl wt un) (hL : L ≤ 40) (hll : ∀ i, i < n → lat i ≤ (L : Int)) (hi : i < n) (hM : x3 = nI M) (hML : (M : Int) = (L : Int) - lat i)
    {cy0 : Nat → Int32} (P : qx_P n lat dl un L i (zI cy0)) (hr : ∀ j, j < i → 0 ≤ zI cy0 j ∧ zI cy0 j + lat j ≤ (L : Int))
    (h : ∀ cy' tr ea la pl ri : Nat → Int32, qx_P n lat dl un L (i + 1) (zI cy') → (∀ j, j < i + 1 → 0 ≤ zI cy' j ∧ zI cy' j + lat j ≤ (L : Int)) → (∀ j, j ≠ i → cy' j = cy0 j) → J37 (nI (i + 1)) ml ll (nI n) op fd fa fb uo cy' ini seq mac pv pt wa tr ea la pl ri) :
    ∀ d c, c + d = M + 1 → ∀ cy tr ea la pl ri : Nat → Int32, (∀ j, j ≠ i → cy j = cy0 j) → (∀ c', qs_V n lat dl un L c' → (∀ j, j < i → c' j = zI cy0 j) → (c : Int) ≤ c' i) → wX_schedule_56 post J37 (nI L) (nI i) x3 (d + 1) (nI c) ml ll (nI n) op fd fa fb uo cy ini seq mac pv pt wa tr ea la pl ri := by
  have n10 := H.2.1
  have hlat := H.2.2.1
  subst hM
  intro d
  induction d with
  | zero =>
    intro c hc cy tr ea la pl ri hcy hlo
    exfalso
    obtain ⟨c', V, hc'⟩ := P.1
    have h1 := hlo c' V hc'
    have h2 := (V.1 i hi).2
    omega
  | succ d ih =>
    intro c hc cy tr ea la pl ri hcy hlo
    have hin : vp_in (nI i) 10 := vp_in_nI (by omega) (by omega)
    have hli := hlat i hi
    have hcI : (nI c).toInt = (c : Int) := nI_toInt (by omega)
    refine br_f (nI_nlt (by omega) (by omega)) ⟨hin, nm_e ?_⟩
    rw [nI_clamp (show i < 2 ^ 31 by omega)]
    have hold : ∀ j, j ≠ i → upd cy i (nI c) j = cy0 j := fun j hj => by rw [pk_un hj]; exact hcy j hj
    have hz : ∀ j, j < i → zI (upd cy i (nI c)) j = zI cy0 j := fun j hj => by unfold zI; rw [hold j (by omega)]
    have hzi : zI (upd cy i (nI c)) i = (c : Int) := by unfold zI; rw [pk_us]; exact hcI
    have hr1 : ∀ j, j < i + 1 → 0 ≤ zI (upd cy i (nI c)) j ∧ zI (upd cy i (nI c)) j + lat j ≤ (L : Int) := by
      intro j hj
      by_cases y : j = i
      · subst y; rw [hzi]; omega
      · rw [hz j (by omega)]; exact hr j (by omega)
    refine xf_fits (nI_1 i) H hw (nI_toInt (by omega)) ⟨by omega, by omega⟩ hll (by omega) hr1 (fun c' V hc' tr' ea' la' pl' ri' => br_f (by decide) (nm_r (nI_1 i) ?_)) (fun no tr' ea' la' pl' ri' => br_t rfl (nm_r (nI_1 c) (ih (c + 1) (by omega) _ tr' ea' la' pl' ri' hold (fun c' V hc' => ?_))))
    · exact h _ tr' ea' la' pl' ri' (qx_s P hz hzi (fun c2 V2 hc2 => hlo c2 V2 hc2) ⟨c', V, hc'⟩) hr1 hold
    · have h1 := hlo c' V hc'
      by_cases y : c' i = (c : Int)
      · exfalso
        refine no c' V (fun j hj => ?_)
        by_cases x : j = i
        · subst x; rw [hzi]; exact y
        · rw [hz j (by omega)]; exact hc' j (by omega)
      · omega
theorem xh_37 {post : Int32 → St2 → Prop} {n L : Nat} {lat : Nat → Int} {dl wt : Nat → Nat → Int} {un : Nat → Nat} (H : xs_H n ml ll op uo wa lat wt un) (hw : qw_W n dl wt un) (hL : L ≤ 40) (hll : ∀ i, i < n → lat i ≤ (L : Int)) (hV : ∃ c, qs_V n lat dl un L c)
    (h : ∀ cy' tr ea la pl ri : Nat → Int32, qs_X n lat dl un L (zI cy') → (∀ j, n ≤ j → cy' j = cy j) → post (nI L) (ml, ll, nI n, op, fd, fa, fb, uo, cy', ini, seq, mac, pv, pt, wa, tr, ea, la, pl, ri)) : ∃ m, wX_schedule_37 post (nI L) m 0 ml ll (nI n) op fd fa fb uo cy ini seq mac pv pt wa tr ea la pl ri := by
  have n10 := H.2.1
  have hlat := H.2.2.1
  have key := loop_0 (fun m i (s : (Nat → Int32) × (Nat → Int32) × (Nat → Int32) × (Nat → Int32) × (Nat → Int32) × (Nat → Int32)) => wX_schedule_37 post (nI L) m (nI i) ml ll (nI n) op fd fa fb uo (s.1) ini seq mac pv pt wa (s.2.1) (s.2.2.1) (s.2.2.2.1) (s.2.2.2.2.1) (s.2.2.2.2.2))
    (fun i s => qx_P n lat dl un L i (zI s.1) ∧ (∀ j, j < i → 0 ≤ zI s.1 j ∧ zI s.1 j + lat j ≤ (L : Int)) ∧ (∀ j, n ≤ j → s.1 j = cy j)) n (cy, tr, ea, la, pl, ri) ⟨qx_0 hV, fun j hj => absurd hj (Nat.not_lt_zero j), fun _ _ => rfl⟩ (fun m s I => ?_) (fun m i s hi I ih => ?_)
  · exact key
  · obtain ⟨cy1, tr1, ea1, la1, pl1, ri1⟩ := s
    exact br_t (nI_le (Nat.le_refl n) (by omega)) (h cy1 tr1 ea1 la1 pl1 ri1 (qx_n I.1) I.2.2)
  · obtain ⟨cy1, tr1, ea1, la1, pl1, ri1⟩ := s
    obtain ⟨i1, i2, i3⟩ := I
    dsimp only at i1 i2 i3 ⊢
    have hli := hlat i hi
    have hl2 := hll i hi
    refine br_f (nI_ge hi (by omega)) (xk_lat (by omega) (nm_e ?_))
    have e1 : (nI L - zv_lat ml ll op i).toInt = (L : Int) - lat i := zi_sub (nI_toInt (by omega)) hli.1 (by omega) (by omega)
    have e2 := zh_nI (x := nI L - zv_lat ml ll op i) (by omega)
    refine ⟨(nI L - zv_lat ml ll op i).toInt.toNat + 1 + 1, ?_⟩
    exact xh_56 H hw hL hll hi e2 (by omega) i1 i2 (fun cy2 tr2 ea2 la2 pl2 ri2 a b c => ih (cy2, tr2, ea2, la2, pl2, ri2) ⟨a, b, fun j hj => by show cy2 j = cy j; rw [c j (by omega)]; exact i3 j hj⟩) _ 0 (by omega) cy1 tr1 ea1 la1 pl1 ri1 (fun _ _ => rfl) (fun c' V _ => by have := (V.1 i hi).1; omega)
theorem xh_14 {post : Int32 → St2 → Prop} {n : Nat} {lat : Nat → Int} {dl wt : Nat → Nat → Int} {un : Nat → Nat} (H : xs_H n ml ll op uo wa lat wt un) (hw : qw_W n dl wt un) (hdl : ∀ i j, i < j → j < n → dl i j ≤ lat i)
    (h : ∀ L : Nat, L ≤ 40 → (∃ c, qs_V n lat dl un L c) → (∀ len : Int, len < (L : Int) → ∀ c, ¬ qs_V n lat dl un len c) → ∀ cy' tr ea la pl ri : Nat → Int32, qs_X n lat dl un L (zI cy') → (∀ j, n ≤ j → cy' j = cy j) → post (nI L) (ml, ll, nI n, op, fd, fa, fb, uo, cy', ini, seq, mac, pv, pt, wa, tr, ea, la, pl, ri)) :
    ∀ d q : Nat, q + d = 40 → (∀ i, i < n → lat i ≤ (q : Int)) → (∀ len : Int, len < (q : Int) → ∀ c, ¬ qs_V n lat dl un len c) → ∀ tr ea la pl ri : Nat → Int32, wX_schedule_14 post (d + 1) (nI q) ml ll (nI n) op fd fa fb uo cy ini seq mac pv pt wa tr ea la pl ri := by
  have n10 := H.2.1
  have hlat := H.2.2.1
  intro d
  induction d with
  | zero =>
    intro q hq hll hno tr ea la pl ri
    have e : q = 40 := by omega
    subst e
    exact br_t (nI_le (b := 40) (a := 40) (Nat.le_refl 40) (by decide)) (xh_37 H hw (Nat.le_refl 40) hll (qx_40 n10 (fun i hi => (hlat i hi).2) hdl) (h 40 (Nat.le_refl 40) (qx_40 n10 (fun i hi => (hlat i hi).2) hdl) hno))
  | succ d ih =>
    intro q hq hll hno tr ea la pl ri
    refine br_f (nI_ge (b := 40) (by omega) (by decide)) ?_
    refine xf_fits (st := 0) rfl H hw (nI_toInt (by omega)) ⟨by omega, by omega⟩ hll (by omega) (fun i hi => absurd hi (Nat.not_lt_zero i)) (fun c V _ tr' ea' la' pl' ri' => br_f (by decide) ?_) (fun no tr' ea' la' pl' ri' => br_t rfl (nm_r (nI_1 q) ?_))
    · exact xh_37 H hw (by omega) hll ⟨c, V⟩ (h q (by omega) ⟨c, V⟩ hno)
    · refine ih (q + 1) (by omega) (fun i hi => by have := hll i hi; omega) (fun len hlen c V => ?_) tr' ea' la' pl' ri'
      by_cases y : len < (q : Int)
      · exact hno len y c V
      · have e : len = (q : Int) := by omega
        subst e
        exact no c V (fun i hi => absurd hi (Nat.not_lt_zero i))
theorem xh_sched {post : Int32 → St2 → Prop} {n : Nat} (hn : n ≤ 10) (F : zv_F n op fd fa fb) (L1 : zv_L ml) (L2 : zv_L ll) (U : ∀ i, i < n → uo i = nI (zv_un (op i))) (h0 : n = 0 → post 0 (ml, ll, nI n, op, fd, fa, fb, uo, cy, ini, seq, mac, pv, pt, wa, tr, ea, la, pl, ri))
    (h : 1 ≤ n → ∀ L : Nat, L ≤ 40 → (∃ c, qs_V n (zv_T1 ml ll op) (zv_D ml ll op fd fa fb) (fun i => zv_un (op i)) L c) → (∀ len : Int, len < (L : Int) → ∀ c, ¬ qs_V n (zv_T1 ml ll op) (zv_D ml ll op fd fa fb) (fun i => zv_un (op i)) len c) →
      ∀ cy' wa tr ea la pl ri : Nat → Int32, qs_X n (zv_T1 ml ll op) (zv_D ml ll op fd fa fb) (fun i => zv_un (op i)) L (zI cy') → (∀ j, n ≤ j → cy' j = cy j) → post (nI L) (ml, ll, nI n, op, fd, fa, fb, uo, cy', ini, seq, mac, pv, pt, wa, tr, ea, la, pl, ri)) : wpX_schedule post (ml, ll, nI n, op, fd, fa, fb, uo, cy, ini, seq, mac, pv, pt, wa, tr, ea, la, pl, ri) := by
  unfold wpX_schedule
  dsimp only
  refine pk_eq n 0 (fun e => h0 e) (fun e => ?_)
  refine xw_4 hn F L1 L2 (fun wa1 ea1 x IX RX hx => ?_)
  have hx0 := RX.1
  have ex := zh_nI (x := x) hx0
  have H : xs_H n ml ll op uo wa1 (zv_T1 ml ll op) (fun i j => (xw_W ml ll op fd fa fb uo i j).toInt) (fun i => zv_un (op i)) := by
    refine ⟨by omega, hn, fun i hi => ⟨rfl, zv_Tr L1 L2 i⟩, fun i j hij hj => ⟨by rw [IX.2.2 i j hij hj], ?_⟩, fun i hi => ⟨U i hi, zv_un2 _⟩⟩
    have hr := zv_Dr (op := op) (fd := fd) (fa := fa) (fb := fb) L1 L2 i j
    dsimp only
    unfold xw_W
    split
    · rw [zi_1]; omega
    · unfold zv_D at hr; omega
  refine ⟨40 - x.toInt.toNat + 1, ?_⟩
  rw [ex]
  refine xh_14 H (xh_W U zv_un2) (fun i j _ _ => (zv_Dr L1 L2 i j).2.1) (fun L hL hV hno cy' tr' ea' la' pl' ri' hX hk => h (by omega) L hL hV hno cy' wa1 tr' ea' la' pl' ri' hX hk) (40 - (nI x.toInt.toNat).toInt.toNat) x.toInt.toNat ?_ (fun i hi => ?_) (fun len hlen c V => ?_) _ _ _ _ _
  · rw [← ex]; omega
  · have h1 := RX.2.1 i hi
    have h2 := IX.1.1 i hi
    omega
  · have hh := qx_head IX.1 V
    rcases RX.2.2 with y | ⟨i, hi, y⟩
    · have h1 := RX.2.1 0 (by omega)
      have h2 := IX.1.1 0 (by omega)
      have h3 := zv_Tr (op := op) L1 L2 0
      omega
    · have := hh i hi
      omega
end
