/-! check, both sides against what it looks for -/
noncomputable def zc_i (p : Prop) (a b : Int32) : Int32 := @ite Int32 p (Classical.propDecidable p) a b
theorem zc_it {p : Prop} {a b : Int32} (h : p) : zc_i p a b = a := if_pos h
theorem zc_if {p : Prop} {a b : Int32} (h : ¬ p) : zc_i p a b = b := if_neg h
def zc_B1 (D : Nat → Nat → Int) (c : Nat → Int) (n i : Nat) : Prop := ∀ j, i < j → j < n → 0 ≤ D i j → c i + D i j ≤ c j
theorem zc_st {P : Nat → Prop} {i j : Nat} (h : ∀ b, i < b → b < j → P b) (hj : P j) : ∀ b, i < b → b < j + 1 → P b := by
  intro b h1 h2
  by_cases e : b = j
  · subst e; exact hj
  · exact h b h1 (by omega)
theorem zc_cyr {cy : Nat → Int32} {n : Nat} (K : zc_K n cy) {i : Nat} (hi : i < n) : -1 ≤ zI cy i ∧ zI cy i ≤ 63 := by
  unfold zI
  rcases K i hi with h | ⟨c, hc, h⟩
  · rw [h, zi_m1]; omega
  · rw [h, nI_toInt (by omega)]; omega
noncomputable def zc_ans (n : Nat) (D : Nat → Nat → Int) (op cy : Nat → Int32) (len : Int32) : Int32 :=
  zc_i (n = 0) (-1) (zc_i (zc_U n cy) (-2) (zc_i (¬ ∀ i, i < n → zc_B1 D (zI cy) n i) (-3) (zc_i (zc_V n cy (fun _ => True) 2) (-4) (zc_i (zc_V n cy (fun j => op j = 5 ∨ op j = 6) 1) (-5) (zc_i (zc_V n cy (fun j => op j = 4) 1) (-6) len)))))
section
variable {ml ll fn : Int32} {op fd fa fb uo cy ini seq mac pv pt wa tr ea la pl ri : Nat → Int32} {post : Int32 → Prop}
theorem xc_unset {n : Nat} (hn : n ≤ 10) (h1 : zc_U n cy → post 1) (h0 : ¬ zc_U n cy → post 0) : wpX_hasUnset post (ml, ll, nI n, op, fd, fa, fb, uo, cy, ini, seq, mac, pv, pt, wa, tr, ea, la, pl, ri) := by
  unfold wpX_hasUnset
  dsimp only
  have key := loop_0 (fun m i (_ : Unit) => wX_hasUnset_2 post ml ll (nI n) op fd fa fb uo cy ini seq mac pv pt wa tr ea la pl ri m (nI i)) (fun i _ => ∀ j, j < i → cy j ≠ -1) n () (fun j hj => absurd hj (Nat.not_lt_zero j)) (fun m _ I => ?_) (fun m i _ hi I ih => ?_)
  · exact key
  · exact br_t (nI_le (Nat.le_refl n) (by omega)) (h0 fun ⟨j, hj, e⟩ => I j hj e)
  · refine br_f (nI_ge hi (by omega)) ⟨vp_in_nI (by omega) (by omega), ?_⟩
    rw [nI_clamp (show i < 2 ^ 31 by omega)]
    by_cases e : cy i = -1
    · exact br_t e (h1 ⟨i, hi, e⟩)
    · exact br_f e (nm_r (nI_1 i) (ih () (lt_s I e)))
theorem xc_dep {n : Nat} (hn : n ≤ 10) (F : zv_F n op fd fa fb) (L1 : zv_L ml) (L2 : zv_L ll) (K : zc_K n cy) (h1 : ¬ (∀ i, i < n → zc_B1 (zv_D ml ll op fd fa fb) (zI cy) n i) → post 1) (h0 : (∀ i, i < n → zc_B1 (zv_D ml ll op fd fa fb) (zI cy) n i) → post 0) : wpX_breaksDependence post (ml, ll, nI n, op, fd, fa, fb, uo, cy, ini, seq, mac, pv, pt, wa, tr, ea, la, pl, ri) := by
  unfold wpX_breaksDependence
  dsimp only
  have key := loop_0 (fun m i (_ : Unit) => wX_breaksDependence_2 post ml ll (nI n) op fd fa fb uo cy ini seq mac pv pt wa tr ea la pl ri m (nI i)) (fun i _ => ∀ a, a < i → zc_B1 (zv_D ml ll op fd fa fb) (zI cy) n a) n () (fun j hj => absurd hj (Nat.not_lt_zero j)) (fun m _ I => ?_) (fun m i _ hi I ih => ?_)
  · exact key
  · exact br_t (nI_le (Nat.le_refl n) (by omega)) (h0 I)
  · refine br_f (nI_ge hi (by omega)) (nm_r (nI_1 i) ?_)
    refine pk_loop (fun m2 j (_ : Unit) => wX_breaksDependence_14 post (wX_breaksDependence_2 post ml ll (nI n) op fd fa fb uo cy ini seq mac pv pt wa tr ea la pl ri m) (nI i) ml ll (nI n) op fd fa fb uo cy ini seq mac pv pt wa tr ea la pl ri m2 (nI j)) (fun j _ => i < j ∧ ∀ b, i < b → b < j → 0 ≤ zv_D ml ll op fd fa fb i b → zI cy i + zv_D ml ll op fd fa fb i b ≤ zI cy b) n (i + 1) () (by omega) ⟨by omega, fun b h1 h2 => by omega⟩ (fun m2 _ I2 => ?_) (fun m2 j _ hj I2' ih2 => ?_)
    · exact br_t (nI_le (Nat.le_refl n) (by omega)) (nm_r (nI_1 i) (ih () (lt_s I I2.2)))
    · obtain ⟨hij, I2⟩ := I2'
      have hr := zv_Dr (op := op) (fd := fd) (fa := fa) (fb := fb) L1 L2 i j
      have c1 := zc_cyr K hi
      have c2 := zc_cyr K hj
      refine br_f (nI_ge hj (by omega)) (xk_delay hn F L1 L2 hi hj ?_)
      rw [nI_clamp (show i < 2 ^ 31 by omega), nI_clamp (show j < 2 ^ 31 by omega)]
      refine zi_be (show (zv_dl ml ll op fd fa fb i j).toInt = zv_D ml ll op fd fa fb i j from rfl) zi_m1 (fun q => nm_r (nI_1 j) (ih2 () ⟨by omega, zc_st I2 fun z => by omega⟩)) (fun q => ⟨vp_in_nI (by omega) (by omega), vp_in_nI (by omega) (by omega), ?_⟩)
      have hs : (cy i + zv_dl ml ll op fd fa fb i j).toInt = zI cy i + zv_D ml ll op fd fa fb i j := zi_add rfl rfl (by unfold zI at *; unfold zv_D at *; omega) (by unfold zI at *; unfold zv_D at *; omega)
      refine zi_bl hs (show (cy j).toInt = zI cy j from rfl) (fun q2 => nm_r (nI_1 j) (ih2 () ⟨by omega, zc_st I2 fun _ => q2⟩)) (fun q2 => h1 fun z => ?_)
      have := z i hi j hij hj (by omega)
      omega
theorem xc_over {n u : Nat} {un : Nat → Nat} (hn : n ≤ 10) (hu : u ≤ 2) (hU : ∀ i, i < n → uo i = nI (un i) ∧ un i ≤ 2) (h1 : zc_V n cy (qn_us un u) (if u = 0 then 2 else 1) → post 1) (h0 : ¬ zc_V n cy (qn_us un u) (if u = 0 then 2 else 1) → post 0) : wpX_overfills post (ml, ll, nI n, op, fd, fa, fb, uo, cy, ini, seq, mac, pv, pt, wa, tr, ea, la, pl, ri) (nI u) := by
  unfold wpX_overfills
  dsimp only
  have key := loop_0 (fun m i (_ : Unit) => wX_overfills_2 post (nI u) ml ll (nI n) op fd fa fb uo cy ini seq mac pv pt wa tr ea la pl ri m (nI i)) (fun i _ => ∀ a, a < i → ¬ (if u = 0 then 2 else 1) < zc_n cy (qn_us un u) a n) n () (fun j hj => absurd hj (Nat.not_lt_zero j)) (fun m _ I => ?_) (fun m i _ hi I ih => ?_)
  · exact key
  · exact br_t (nI_le (Nat.le_refl n) (by omega)) (h0 fun ⟨j, hj, e⟩ => I j hj e)
  · refine br_f (nI_ge hi (by omega)) ?_
    have key2 := loop_0 (fun m2 j (s : Nat) => wX_overfills_15 post (wX_overfills_2 post (nI u) ml ll (nI n) op fd fa fb uo cy ini seq mac pv pt wa tr ea la pl ri m) (nI u) (nI i) ml ll (nI n) op fd fa fb uo cy ini seq mac pv pt wa tr ea la pl ri m2 (nI s) (nI j)) (fun j s => s = zc_n cy (qn_us un u) i j) n 0 rfl (fun m2 s I2 => ?_) (fun m2 j s hj I2 ih2 => ?_)
    · exact key2
    · have hs : s ≤ n := by rw [I2]; exact qc_le n
      refine br_t (nI_le (Nat.le_refl n) (by omega)) (xk_cap hu ?_)
      refine pk_le s (if u = 0 then 2 else 1) (fun q => nm_r (nI_1 i) (ih () (lt_s I ?_))) (fun q => h1 ⟨i, hi, ?_⟩) rfl rfl (by omega) (by split <;> omega)
      · rw [← I2]; omega
      · rw [← I2]; exact q
    · refine br_f (nI_ge hj (by omega)) ⟨vp_in_nI (by omega) (by omega), vp_in_nI (by omega) (by omega), ?_⟩
      rw [nI_clamp (show i < 2 ^ 31 by omega), nI_clamp (show j < 2 ^ 31 by omega)]
      by_cases e : cy j = cy i
      · refine br_t e (xk_uses (by omega) hu (hU j hj).1 (hU j hj).2 (fun q => br_f (by decide) (nm_r (nI_1 s) (nm_r (nI_1 j) (ih2 (s + 1) ?_)))) (fun q => br_t rfl (nm_r (nI_1 j) (ih2 s ?_))))
        · rw [I2]; exact (qc_t (p := fun j => cy j = cy i ∧ qn_us un u j) ⟨e, q⟩).symm
        · rw [I2]; exact (qc_f (p := fun j => cy j = cy i ∧ qn_us un u j) (fun z => q z.2)).symm
      · refine br_f e (nm_r (nI_1 j) (ih2 s ?_))
        rw [I2]; exact (qc_f (p := fun j => cy j = cy i ∧ qn_us un u j) (fun z => e z.1)).symm
theorem xc_len {n : Nat} (hn : n ≤ 10) (h : post (zr_len ml ll op cy n)) : wpX_lengthOfCycles post (ml, ll, nI n, op, fd, fa, fb, uo, cy, ini, seq, mac, pv, pt, wa, tr, ea, la, pl, ri) := by
  unfold wpX_lengthOfCycles
  dsimp only
  have key := loop_0 (fun m i (s : Int32) => wX_lengthOfCycles_4 post ml ll (nI n) op fd fa fb uo cy ini seq mac pv pt wa tr ea la pl ri m s (nI i)) (fun i s => s = zr_len ml ll op cy i) n 0 rfl (fun m s I => ?_) (fun m i s hi I ih => ?_)
  · exact key
  · rw [← I] at h
    exact br_t (nI_le (Nat.le_refl n) (by omega)) h
  · refine br_f (nI_ge hi (by omega)) ⟨vp_in_nI (by omega) (by omega), xk_lat (by omega) (nm_e ?_)⟩
    rw [nI_clamp (show i < 2 ^ 31 by omega)]
    have e : zr_len ml ll op cy (i + 1) = if cy i + zv_lat ml ll op i ≤ zr_len ml ll op cy i then zr_len ml ll op cy i else cy i + zv_lat ml ll op i := rfl
    rw [← I] at e
    by_cases c : cy i + zv_lat ml ll op i ≤ s
    · rw [if_pos c] at e
      exact br_t c (nm_r (nI_1 i) (ih _ e.symm))
    · rw [if_neg c] at e
      exact br_f c (nm_r (nI_1 i) (ih _ e.symm))
theorem xc_check {n : Nat} (hn : n ≤ 10) (F : zv_F n op fd fa fb) (L1 : zv_L ml) (L2 : zv_L ll) (K : zc_K n cy) (U : ∀ i, i < n → uo i = nI (zv_un (op i))) (h : post (zc_ans n (zv_D ml ll op fd fa fb) op cy (zr_len ml ll op cy n))) : wpX_check post (ml, ll, nI n, op, fd, fa, fb, uo, cy, ini, seq, mac, pv, pt, wa, tr, ea, la, pl, ri) := by
  have un2 : ∀ x, zv_un x ≤ 2 := fun x => by unfold zv_un; split <;> (try omega); split <;> (try omega); split <;> omega
  have hU : ∀ i, i < n → uo i = nI ((fun i => zv_un (op i)) i) ∧ (fun i => zv_un (op i)) i ≤ 2 := fun i hi => ⟨U i hi, un2 _⟩
  have v0 : zc_V n cy (qn_us (fun i => zv_un (op i)) 0) 2 ↔ zc_V n cy (fun _ => True) 2 := zc_cg fun i hi => ⟨fun _ => trivial, fun _ => Or.inl rfl⟩
  have v1 : zc_V n cy (qn_us (fun i => zv_un (op i)) 1) 1 ↔ zc_V n cy (fun j => op j = 5 ∨ op j = 6) 1 := zc_cg fun i hi => by
    unfold qn_us zv_un
    dsimp only
    rcases zv_nI6 (F i hi).1 with o | o | o | o | o | o <;> rw [o] <;> decide
  have v2 : zc_V n cy (qn_us (fun i => zv_un (op i)) 2) 1 ↔ zc_V n cy (fun j => op j = 4) 1 := zc_cg fun i hi => by
    unfold qn_us zv_un
    dsimp only
    rcases zv_nI6 (F i hi).1 with o | o | o | o | o | o <;> rw [o] <;> decide
  unfold zc_ans at h
  unfold wpX_check
  dsimp only
  refine pk_eq n 0 (fun e => ?_) (fun e => ?_)
  · rw [zc_it e] at h; exact h
  rw [zc_if e] at h
  refine xc_unset hn (fun a => br_f (by decide) ?_) (fun a => br_t rfl ?_)
  · rw [zc_it a] at h; exact h
  rw [zc_if a] at h
  refine xc_dep hn F L1 L2 K (fun b => br_f (by decide) ?_) (fun b => br_t rfl ?_)
  · rw [zc_it b] at h; exact h
  rw [zc_if (fun z => z b)] at h
  refine xc_over (u := 0) hn (by decide) hU (fun c => br_f (by decide) ?_) (fun c => br_t rfl ?_)
  · rw [zc_it (v0.mp c)] at h; exact h
  rw [zc_if (fun z => c (v0.mpr z))] at h
  refine xc_over (u := 1) hn (by decide) hU (fun c => br_f (by decide) ?_) (fun c => br_t rfl ?_)
  · rw [zc_it (v1.mp c)] at h; exact h
  rw [zc_if (fun z => c (v1.mpr z))] at h
  refine xc_over (u := 2) hn (by decide) hU (fun c => br_f (by decide) ?_) (fun c => br_t rfl ?_)
  · rw [zc_it (v2.mp c)] at h; exact h
  rw [zc_if (fun z => c (v2.mpr z))] at h
  exact xc_len hn h
end
theorem zc_neg {cy : Nat → Int32} {n : Nat} (K : zc_K n cy) {i : Nat} (hi : i < n) : 0 ≤ cy i ↔ cy i ≠ -1 := by
  rcases K i hi with h | ⟨c, hc, h⟩
  · rw [h]; decide
  · rw [h]
    refine ⟨fun _ z => ?_, fun _ => nI_pos' (by omega)⟩
    have := congrArg Int32.toInt z
    rw [nI_toInt (by omega), zi_m1] at this
    omega
