/-! the law's own helpers, and the calls that it makes -/
theorem zw_cell {post : Int32 → Prop} {L k : Nat} {xs : Nat → Int32} (hL : L ≤ 260) (hk : k ≤ 1000) (h : ∀ v, post v) : wpL_cell post L xs () (nI k) := by
  unfold wpL_cell
  exact pk_le L k (fun _ => h 0) (fun q => ⟨vp_in_nI q (by omega), h _⟩)
theorem zw_m {post : Int32 → Prop} {x y : Int32} {m : Nat} (hy : y = nI m) (hm0 : 0 < m) (hm : m ≤ 100) (h : ∀ r, r < m → post (nI r)) : wpL_m post () x y := by
  subst hy
  have hne : ¬ nI m = 0 := nI_ne0 hm0 (by omega)
  refine ⟨hne, hne, ?_⟩
  have hmI : (nI m).toInt = (m : Int) := nI_toInt (by omega)
  have t1 : (x - x / nI m * nI m).toInt = x.toInt.tmod (m : Int) := by rw [rem_toInt, hmI]
  have t2 := tmod_bounds (a := x.toInt) (M := (m : Int)) (by omega)
  have t3 : (x - x / nI m * nI m + nI m).toInt = x.toInt.tmod (m : Int) + (m : Int) := zi_add t1 hmI (by omega) (by omega)
  have t4 := zh_nI (x := x - x / nI m * nI m + nI m) (by omega)
  generalize x - x / nI m * nI m + nI m = z at t3 t4 ⊢
  rw [t4, pk_rem (by omega) hm0 (by omega)]
  exact h _ (Nat.mod_lt _ hm0)
theorem qc_up {p : Nat → Prop} {i : Nat} : ∀ d, qc_n p i ≤ qc_n p (i + d) := by
  intro d
  induction d with
  | zero => exact Nat.le_refl _
  | succ d ih =>
    by_cases h : p (i + d)
    · rw [show i + (d + 1) = i + d + 1 from rfl, qc_t h]; omega
    · rw [show i + (d + 1) = i + d + 1 from rfl, qc_f h]; exact ih
section
variable {ml ll fn : Int32} {op fd fa fb uo cy ini seq mac pv pt wa tr ea la pl ri : Nat → Int32}
theorem xa_add {post : Int32 → St2 → Prop} {i : Nat} {o d a b : Int32} (hi : i < 10) (w : zl_wf o d a b) (h : post (nI i) (ml, ll, nI (i + 1), upd op i o, upd fd i d, upd fa i a, upd fb i b, upd uo i (nI (zv_un o)), upd cy i (-1), ini, seq, mac, pv, pt, wa, tr, ea, la, pl, ri)) : wpX_addInstr post (ml, ll, nI i, op, fd, fa, fb, uo, cy, ini, seq, mac, pv, pt, wa, tr, ea, la, pl, ri) o d a b := by
  have hin : vp_in (nI i) 10 := vp_in_nI hi (by omega)
  unfold wpX_addInstr
  dsimp only
  refine br_f (nI_ge (b := 10) hi (by decide)) (zl_wfX (fun w' => absurd w w') (fun _ => br_f (by decide) ?_))
  rw [nI_clamp (show i < 2 ^ 31 by omega)]
  exact ⟨hin, nm_e ⟨hin, nm_e ⟨hin, nm_e ⟨hin, nm_e (zl_unit ⟨hin, nm_e ⟨hin, nm_e (nm_r (nI_1 i) h)⟩⟩)⟩⟩⟩⟩
theorem xa_set {post : Int32 → St2 → Prop} {j : Nat} {v : Int32} (hj : j < 16) (h : post 1 (ml, ll, fn, op, fd, fa, fb, uo, cy, upd ini j v, seq, mac, pv, pt, wa, tr, ea, la, pl, ri)) : wpX_setInit post (ml, ll, fn, op, fd, fa, fb, uo, cy, ini, seq, mac, pv, pt, wa, tr, ea, la, pl, ri) (nI j) v := by
  unfold wpX_setInit
  dsimp only
  refine zl_loc (fun a => ?_) (fun j' hj' e => br_f (by decide) ⟨vp_in_nI hj (by omega), nm_e ?_⟩)
  · exfalso
    rcases a with a | a
    · exact nI_pos (by omega) a
    · exact nI_ge (b := 16) hj (by decide) a
  · rw [nI_clamp (show j < 2 ^ 31 by omega)]; exact h
theorem xa_cyc {post : Int32 → St2 → Prop} {n i c : Nat} (n10 : n ≤ 10) (hi : i < n) (hc : c ≤ 63) (h : post 1 (ml, ll, nI n, op, fd, fa, fb, uo, upd cy i (nI c), ini, seq, mac, pv, pt, wa, tr, ea, la, pl, ri)) : wpX_setCycle post (ml, ll, nI n, op, fd, fa, fb, uo, cy, ini, seq, mac, pv, pt, wa, tr, ea, la, pl, ri) (nI i) (nI c) := by
  unfold wpX_setCycle
  dsimp only
  refine zl_ins n10 (fun a => absurd a (nI_pos (by omega))) (fun _ a => absurd a (nI_ge hi (by omega))) (fun _ _ _ => br_f (by decide) (br_f (fun z => ?_) (br_t (nI_lt (b := 64) (by omega) (by decide)) ⟨vp_in_nI (by omega) (by omega), nm_e ?_⟩)))
  · rw [Int32.lt_iff_toInt_lt, nI_toInt (by omega), zi_m1] at z
    omega
  · rw [nI_clamp (show i < 2 ^ 31 by omega)]; exact h
theorem xa_of {post : Int32 → Prop} {n i : Nat} (n10 : n ≤ 10) (hi : i < n) (h : post (cy i)) : wpX_cycleOf post (ml, ll, nI n, op, fd, fa, fb, uo, cy, ini, seq, mac, pv, pt, wa, tr, ea, la, pl, ri) (nI i) := by
  unfold wpX_cycleOf
  dsimp only
  refine zl_ins n10 (fun a => absurd a (nI_pos (by omega))) (fun _ a => absurd a (nI_ge hi (by omega))) (fun _ _ _ => br_f (by decide) ⟨vp_in_nI (by omega) (by omega), ?_⟩)
  rw [nI_clamp (show i < 2 ^ 31 by omega)]; exact h
theorem xa_sv {post : Int32 → Prop} {l : Nat} (hl : l < 16) (h : post (seq l)) : wpX_seqValue post (ml, ll, fn, op, fd, fa, fb, uo, cy, ini, seq, mac, pv, pt, wa, tr, ea, la, pl, ri) (nI l) := by
  unfold wpX_seqValue
  dsimp only
  refine zl_loc (fun a => ?_) (fun _ _ _ => br_f (by decide) ⟨vp_in_nI hl (by omega), ?_⟩)
  · exfalso
    rcases a with a | a
    · exact nI_pos (by omega) a
    · exact nI_ge (b := 16) hl (by decide) a
  · rw [nI_clamp (show l < 2 ^ 31 by omega)]; exact h
theorem xa_mv {post : Int32 → Prop} {l : Nat} (hl : l < 16) (h : post (mac l)) : wpX_machValue post (ml, ll, fn, op, fd, fa, fb, uo, cy, ini, seq, mac, pv, pt, wa, tr, ea, la, pl, ri) (nI l) := by
  unfold wpX_machValue
  dsimp only
  refine zl_loc (fun a => ?_) (fun _ _ _ => br_f (by decide) ⟨vp_in_nI hl (by omega), ?_⟩)
  · exfalso
    rcases a with a | a
    · exact nI_pos (by omega) a
    · exact nI_ge (b := 16) hl (by decide) a
  · rw [nI_clamp (show l < 2 ^ 31 by omega)]; exact h
theorem xa_same {post : Int32 → Prop} (h : ∀ l, l < 16 → seq l = mac l) (hp : post 1) : wpL_sameResults post (ml, ll, fn, op, fd, fa, fb, uo, cy, ini, seq, mac, pv, pt, wa, tr, ea, la, pl, ri) := by
  unfold wpL_sameResults
  dsimp only
  have key := loop_0 (fun m l (_ : Unit) => wL_sameResults_2 post ml ll fn op fd fa fb uo cy ini seq mac pv pt wa tr ea la pl ri m (nI l)) (fun _ _ => True) 16 () trivial (fun m _ _ => ?_) (fun m l _ hl _ ih => ?_)
  · exact key
  · exact br_t (nI_le (b := 16) (Nat.le_refl 16) (by decide)) hp
  · exact br_f (nI_ge (b := 16) hl (by decide)) (xa_sv hl (xa_mv hl (br_t (h l hl) (nm_r (nI_1 l) (ih () trivial)))))
theorem xa_bun {post : Int32 → Prop} {n t : Nat} (n10 : n ≤ 10) (ht : t < 64) (h : qc_n (fun j => cy j = nI t) n ≤ 2) (hp : post (-1)) : wpX_bundleAt post (ml, ll, nI n, op, fd, fa, fb, uo, cy, ini, seq, mac, pv, pt, wa, tr, ea, la, pl, ri) (nI t) 2 := by
  unfold wpX_bundleAt
  dsimp only
  refine br_f (nI_pos (by omega)) (br_f (nI_ge (b := 64) ht (by decide)) (br_t (by decide) ?_))
  have key := loop_0 (fun m i (s : Nat) => wX_bundleAt_21 post (nI t) 2 ml ll (nI n) op fd fa fb uo cy ini seq mac pv pt wa tr ea la pl ri m (nI s) (nI i)) (fun i s => s = qc_n (fun j => cy j = nI t) i) n 0 rfl (fun m s I => ?_) (fun m i s hi I ih => ?_)
  · exact key
  · exact br_t (nI_le (Nat.le_refl n) (by omega)) hp
  · refine br_f (nI_ge hi (by omega)) ⟨vp_in_nI (by omega) (by omega), ?_⟩
    rw [nI_clamp (show i < 2 ^ 31 by omega)]
    by_cases c : cy i = nI t
    · have e1 := qc_t (p := fun j => cy j = nI t) c
      have e2 := qc_up (p := fun j => cy j = nI t) (i := i + 1) (n - (i + 1))
      rw [show i + 1 + (n - (i + 1)) = n by omega] at e2
      refine br_t c (pk_eq s 2 (fun z => by omega) (fun _ => nm_r (nI_1 s) (nm_r (nI_1 i) (ih (s + 1) (by rw [e1, I])))))
    · exact br_f c (nm_r (nI_1 i) (ih s (by rw [qc_f (p := fun j => cy j = nI t) c]; exact I)))
end
