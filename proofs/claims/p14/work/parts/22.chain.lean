/-- delays and latencies by their values -/
noncomputable def zv_D (ml ll : Int32) (op fd fa fb : Nat → Int32) (i j : Nat) : Int := (zv_dl ml ll op fd fa fb i j).toInt
def zv_T1 (ml ll : Int32) (op : Nat → Int32) (i : Nat) : Int := (zv_lat ml ll op i).toInt
theorem zv_Dr {ml ll : Int32} {op fd fa fb : Nat → Int32} (L1 : zv_L ml) (L2 : zv_L ll) (i j : Nat) : -1 ≤ zv_D ml ll op fd fa fb i j ∧ zv_D ml ll op fd fa fb i j ≤ zv_T1 ml ll op i ∧ zv_D ml ll op fd fa fb i j ≤ 4 := by
  have h := zv_dlI (op := op) (fd := fd) (fa := fa) (fb := fb) L1 L2 i j
  have h2 := zv_Li (zv_latL (op := op) L1 L2 i)
  unfold zv_D zv_T1
  omega
theorem zv_Tr {ml ll : Int32} {op : Nat → Int32} (L1 : zv_L ml) (L2 : zv_L ll) (i : Nat) : 1 ≤ zv_T1 ml ll op i ∧ zv_T1 ml ll op i ≤ 4 := zv_Li (zv_latL L1 L2 i)
theorem zi_m1 : (-1 : Int32).toInt = -1 := by decide
theorem zi_0 : (0 : Int32).toInt = 0 := by decide
theorem zi_1 : (1 : Int32).toInt = 1 := by decide
/-- what the component waits: w for the pair i, j -/
noncomputable def xw_W (ml ll : Int32) (op fd fa fb uo : Nat → Int32) (i j : Nat) : Int32 := if zv_dl ml ll op fd fa fb i j = 0 ∧ (uo i = uo j ∧ uo i ≠ 0) then 1 else zv_dl ml ll op fd fa fb i j
def xw_J (D : Nat → Nat → Int) (W : Nat → Nat → Int32) (j i : Nat) (wa ea : Nat → Int32) : Prop :=
  qh_H j D (zI ea) ∧ qh_P D (zI ea) j i ∧ (∀ b, b ≤ j → zI ea b ≤ 4 * (b : Int)) ∧ (∀ a b, a < b → (b < j ∨ (b = j ∧ a < i)) → wa (a * 10 + b) = W a b)
def xw_I (D : Nat → Nat → Int) (W : Nat → Nat → Int32) (j : Nat) (wa ea : Nat → Int32) : Prop :=
  qh_H j D (zI ea) ∧ (∀ b, b < j → zI ea b ≤ 4 * (b : Int)) ∧ (∀ a b, a < b → b < j → wa (a * 10 + b) = W a b)
theorem xw_wa {W : Nat → Nat → Int32} {j i : Nat} {wa : Nat → Int32} {x : Int32} (hij : i < j) (hj : j < 10) (hx : x = W i j) (h : ∀ a b, a < b → (b < j ∨ (b = j ∧ a < i)) → wa (a * 10 + b) = W a b) : ∀ a b, a < b → (b < j ∨ (b = j ∧ a < i + 1)) → upd wa (i * 10 + j) x (a * 10 + b) = W a b := by
  intro a b hab hb
  by_cases e : a * 10 + b = i * 10 + j
  · have e1 : a = i ∧ b = j := by omega
    rw [e, pk_us, hx, e1.1, e1.2]
  · rw [pk_un e]
    refine h a b hab ?_
    rcases hb with hb | hb
    · exact Or.inl hb
    · exact Or.inr ⟨hb.1, by have := hb.1; have := hb.2; omega⟩
theorem xw_s {D : Nat → Nat → Int} {W : Nat → Nat → Int32} {j i : Nat} {wa ea : Nat → Int32} {x : Int32} (J : xw_J D W j i wa ea) (hij : i < j) (hj : j < 10) (hx : x = W i j) (h : 0 ≤ D i j → zI ea i + D i j ≤ zI ea j) : xw_J D W j (i + 1) (upd wa (i * 10 + j) x) ea :=
  ⟨J.1, qh_Pk J.2.1 h, J.2.2.1, xw_wa hij hj hx J.2.2.2⟩
theorem xw_u {D : Nat → Nat → Int} {W : Nat → Nat → Int32} {j i : Nat} {wa ea : Nat → Int32} {x v : Int32} (J : xw_J D W j i wa ea) (hij : i < j) (hj : j < 10) (hx : x = W i j) (hd : 0 ≤ D i j) (h4 : D i j ≤ 4) (h : zI ea j ≤ zI ea i + D i j) (hv : v.toInt = zI ea i + D i j) : xw_J D W j (i + 1) (upd wa (i * 10 + j) x) (upd ea j v) := by
  obtain ⟨j1, j2, j3, j4⟩ := J
  refine ⟨?_, ?_, fun b hb => ?_, xw_wa hij hj hx j4⟩
  · exact qh_Hc (fun i hi => by rw [zI_u, qg_un (show i ≠ j by omega)]) j1
  · rw [zI_u, hv]
    exact qh_Pu j2 hij hd h
  · rw [zI_u]
    by_cases y : b = j
    · subst y
      rw [qg_us, hv]
      have := j3 i (by omega)
      omega
    · rw [qg_un y]; exact j3 b hb
theorem xw_n {D : Nat → Nat → Int} {W : Nat → Nat → Int32} {j : Nat} {wa ea : Nat → Int32} (J : xw_J D W j j wa ea) : xw_I D W (j + 1) wa ea :=
  ⟨qh_HS J.1 J.2.1, fun b hb => J.2.2.1 b (by omega), fun a b hab hb => J.2.2.2 a b hab (by omega)⟩
theorem xw_0 {D : Nat → Nat → Int} {W : Nat → Nat → Int32} {j : Nat} {wa ea : Nat → Int32} (I : xw_I D W j wa ea) : xw_J D W j 0 wa (upd ea j 0) := by
  obtain ⟨i1, i2, i3⟩ := I
  refine ⟨?_, ?_, fun b hb => ?_, fun a b hab hb => i3 a b hab (by omega)⟩
  · exact qh_Hc (fun i hi => by rw [zI_u, qg_un (show i ≠ j by omega)]) i1
  · exact qh_P0 (by rw [zI_u, qg_us]; exact zi_0)
  · rw [zI_u]
    by_cases y : b = j
    · subst y; rw [qg_us, zi_0]; omega
    · rw [qg_un y]; exact i2 b (by omega)
section
variable {ml ll fn : Int32} {op fd fa fb uo cy ini seq mac pv pt wa tr ea la pl ri : Nat → Int32} {post : Int32 → St2 → Prop} {J4 : Int32 → Int32 → (Nat → Int32) → (Nat → Int32) → (Nat → Int32) → (Nat → Int32) → (Nat → Int32) → (Nat → Int32) → (Nat → Int32) → (Nat → Int32) → (Nat → Int32) → (Nat → Int32) → (Nat → Int32) → (Nat → Int32) → (Nat → Int32) → (Nat → Int32) → (Nat → Int32) → (Nat → Int32) → (Nat → Int32) → Prop} {J21 : Int32 → (Nat → Int32) → (Nat → Int32) → (Nat → Int32) → (Nat → Int32) → (Nat → Int32) → (Nat → Int32) → (Nat → Int32) → (Nat → Int32) → (Nat → Int32) → (Nat → Int32) → (Nat → Int32) → (Nat → Int32) → (Nat → Int32) → (Nat → Int32) → (Nat → Int32) → (Nat → Int32) → (Nat → Int32) → Prop}
theorem xw_64 {n i j : Nat} {x1 d w : Int32} {D : Nat → Nat → Int} {W : Nat → Nat → Int32} (hn : n ≤ 10) (hij : i < j) (hj : j < n) (hD : d.toInt = D i j) (hD1 : -1 ≤ D i j ∧ D i j ≤ 4) (hw : w = W i j) (J : xw_J D W j i wa ea)
    (ih : ∀ wa' ea', xw_J D W j (i + 1) wa' ea' → J21 (nI (i + 1)) op fd fa fb uo cy ini seq mac pv pt wa' tr ea' la pl ri) :
    wX_longestChain_64 post J4 J21 x1 (nI j) (nI i) d w (nI i * 10 + nI j) ml ll fn op fd fa fb uo cy ini seq mac pv pt wa tr ea la pl ri := by
  unfold wX_longestChain_64
  have e : nI i * 10 + nI j = nI (i * 10 + j) := by rw [show (10 : Int32) = nI 10 from rfl, pk_mul, nI_add]
  have hi0 : 0 ≤ zI ea i := J.1.1 i hij
  have hi1 := J.2.2.1 i (by omega)
  rw [e, nI_clamp (show i * 10 + j < 2 ^ 31 by omega), nI_clamp (show i < 2 ^ 31 by omega), nI_clamp (show j < 2 ^ 31 by omega)]
  refine ⟨vp_in_nI (by omega) (by omega), nm_e ?_⟩
  by_cases c : d = -1
  · refine br_t c (nm_r (nI_1 i) (ih _ _ (xw_s J hij (by omega) hw fun z => ?_)))
    rw [c, zi_m1] at hD
    omega
  · have hd0 : 0 ≤ D i j := by
      have : D i j ≠ -1 := fun z => c (Int32.toInt_inj.mp (by rw [hD, z, zi_m1]))
      omega
    have hs : (ea i + d).toInt = zI ea i + D i j := zi_add rfl hD (by omega) (by omega)
    refine br_f c ⟨vp_in_nI (by omega) (by omega), vp_in_nI (by omega) (by omega), ?_⟩
    refine zi_bl hs (show (ea j).toInt = zI ea j from rfl) (fun q => nm_r (nI_1 i) (ih _ _ (xw_s J hij (by omega) hw fun _ => q))) (fun q => ?_)
    exact ⟨vp_in_nI (by omega) (by omega), vp_in_nI (by omega) (by omega), nm_e (nm_r (nI_1 i) (ih _ _ (xw_u J hij (by omega) hw hd0 hD1.2 (by omega) hs)))⟩
theorem xw_21 {n j : Nat} {x1 : Int32} (hn : n ≤ 10) (F : zv_F n op fd fa fb) (L1 : zv_L ml) (L2 : zv_L ll) (hj : j < n) (I : xw_I (zv_D ml ll op fd fa fb) (xw_W ml ll op fd fa fb uo) j wa ea) (R : qh_R (zv_T1 ml ll op) (zI ea) j x1.toInt) (hx1 : x1.toInt ≤ 40)
    (hk : ∀ wa' ea' x, xw_I (zv_D ml ll op fd fa fb) (xw_W ml ll op fd fa fb uo) (j + 1) wa' ea' → qh_R (zv_T1 ml ll op) (zI ea') (j + 1) x.toInt → x.toInt ≤ 40 → J4 x (nI (j + 1)) op fd fa fb uo cy ini seq mac pv pt wa' tr ea' la pl ri) :
    ∃ m, wX_longestChain_21 post J4 x1 (nI j) ml ll (nI n) m 0 op fd fa fb uo cy ini seq mac pv pt wa tr (upd ea j 0) la pl ri := by
  have R' : ∀ ea' : Nat → Int32, qh_H j (zv_D ml ll op fd fa fb) (zI ea') → qh_R (zv_T1 ml ll op) (zI ea') j x1.toInt := fun ea' h => qh_Rc (qh_u I.1 h) R
  have key := loop_0 (fun m i (s : (Nat → Int32) × (Nat → Int32)) => wX_longestChain_21 post J4 x1 (nI j) ml ll (nI n) m (nI i) op fd fa fb uo cy ini seq mac pv pt (s.1) tr (s.2) la pl ri)
    (fun i s => xw_J (zv_D ml ll op fd fa fb) (xw_W ml ll op fd fa fb uo) j i s.1 s.2) j (wa, upd ea j 0) (xw_0 I) (fun m s J => ?_) (fun m i s hi J ih => ?_)
  · exact key
  · obtain ⟨wa', ea'⟩ := s
    dsimp only at J ⊢
    have I' := xw_n J
    have Rj := R' ea' J.1
    have e0 := J.2.1.1
    have e1 := J.2.2.1 j (Nat.le_refl j)
    have l1 := zv_Tr (op := op) L1 L2 j
    refine br_t (nI_le (Nat.le_refl j) (by omega)) ⟨vp_in_nI (by omega) (by omega), xk_lat (by omega) (nm_e ?_)⟩
    rw [nI_clamp (show j < 2 ^ 31 by omega)]
    have hs2 : (ea' j + zv_lat ml ll op j).toInt = zI ea' j + zv_T1 ml ll op j := zi_add rfl rfl (by unfold zI at *; unfold zv_T1 at *; omega) (by unfold zI at *; unfold zv_T1 at *; omega)
    refine zi_bl hs2 (show x1.toInt = x1.toInt from rfl) (fun q => nm_r (nI_1 j) (hk wa' ea' x1 I' (qh_Rk Rj q) hx1)) (fun q => nm_r (nI_1 j) (hk wa' ea' _ I' ?_ ?_))
    · rw [hs2]; exact qh_Ru Rj (by omega)
    · rw [hs2]; omega
  · obtain ⟨wa', ea'⟩ := s
    dsimp only at J ⊢
    have hr := zv_Dr (op := op) (fd := fd) (fa := fa) (fb := fb) L1 L2 i j
    have step : ∀ w, w = xw_W ml ll op fd fa fb uo i j → wX_longestChain_64 post J4 (wX_longestChain_21 post J4 x1 (nI j) ml ll (nI n) m) x1 (nI j) (nI i) (zv_dl ml ll op fd fa fb i j) w (nI i * 10 + nI j) ml ll (nI n) op fd fa fb uo cy ini seq mac pv pt wa' tr ea' la pl ri := fun w hw =>
      xw_64 hn hi hj (D := zv_D ml ll op fd fa fb) rfl ⟨hr.1, hr.2.2⟩ hw J (fun wa2 ea2 J2 => ih (wa2, ea2) J2)
    refine br_f (nI_ge hi (by omega)) (xk_delay hn F L1 L2 (by omega) hj ?_)
    by_cases c : zv_dl ml ll op fd fa fb i j = 0
    · refine br_t c (xk_share (by omega) (by omega) (fun q => br_f (by decide) (step 1 ?_)) (fun q => br_t rfl (step _ ?_)))
      · unfold xw_W; rw [if_pos ⟨c, q⟩]
      · unfold xw_W; rw [if_neg (fun z => q z.2)]
    · refine br_f c (step _ ?_)
      unfold xw_W; rw [if_neg (fun z => c z.1)]
theorem xw_4 {n : Nat} (hn : n ≤ 10) (F : zv_F n op fd fa fb) (L1 : zv_L ml) (L2 : zv_L ll)
    (h : ∀ wa' ea' x, xw_I (zv_D ml ll op fd fa fb) (xw_W ml ll op fd fa fb uo) n wa' ea' → qh_R (zv_T1 ml ll op) (zI ea') n x.toInt → x.toInt ≤ 40 → post x (ml, ll, nI n, op, fd, fa, fb, uo, cy, ini, seq, mac, pv, pt, wa', tr, ea', la, pl, ri)) : wpX_longestChain post (ml, ll, nI n, op, fd, fa, fb, uo, cy, ini, seq, mac, pv, pt, wa, tr, ea, la, pl, ri) := by
  unfold wpX_longestChain
  dsimp only
  have key := loop_0 (fun m j (s : Int32 × (Nat → Int32) × (Nat → Int32)) => wX_longestChain_4 post ml ll (nI n) m s.1 (nI j) op fd fa fb uo cy ini seq mac pv pt (s.2.1) tr (s.2.2) la pl ri)
    (fun j s => xw_I (zv_D ml ll op fd fa fb) (xw_W ml ll op fd fa fb uo) j s.2.1 s.2.2 ∧ qh_R (zv_T1 ml ll op) (zI s.2.2) j s.1.toInt ∧ s.1.toInt ≤ 40) n (0, wa, ea) ⟨⟨⟨fun i h => absurd h (Nat.not_lt_zero i), fun i j _ h => absurd h (Nat.not_lt_zero j), fun j h => absurd h (Nat.not_lt_zero j)⟩, fun b h => absurd h (Nat.not_lt_zero b), fun a b _ h => absurd h (Nat.not_lt_zero b)⟩, by rw [show ((0 : Int32), wa, ea).1.toInt = 0 from zi_0]; exact qh_R0, by rw [show ((0 : Int32), wa, ea).1.toInt = 0 from zi_0]; decide⟩ (fun m s Q => ?_) (fun m j s hj Q ih => ?_)
  · exact key
  · obtain ⟨x, wa', ea'⟩ := s
    exact br_t (nI_le (Nat.le_refl n) (by omega)) (h wa' ea' x Q.1 Q.2.1 Q.2.2)
  · obtain ⟨x, wa', ea'⟩ := s
    refine br_f (nI_ge hj (by omega)) ⟨vp_in_nI (by omega) (by omega), nm_e ?_⟩
    rw [nI_clamp (show j < 2 ^ 31 by omega)]
    exact xw_21 hn F L1 L2 hj Q.1 Q.2.1 Q.2.2 (fun wa2 ea2 x2 a b c => ih (x2, wa2, ea2) ⟨a, b, c⟩)
end
