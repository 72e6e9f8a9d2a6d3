theorem i_vc_criticalPath {k : Nat} {u : SX} {v : SY} (I : i_Rel k u v) (hk : k + 5 ≤ 2562) : wpX_criticalPath (fun r u' => wpY_criticalPath (fun r' v' => r' = r ∧ i_Rel (k + 5) u' v') v) u := by
  obtain ⟨n, ml, ll, op, fd, fa, fb, uo, cy, ini, seq, mac, pv, pt, wa, tr, ea, la, pl, ri, wo, be, rfl, rfl, hn, L1, L2, F, U, K⟩ := I
  unfold wpX_criticalPath
  dsimp only
  refine xw_4 hn F L1 L2 (fun wa' ea' x IX RX _ => ?_)
  refine yw_13 hn L1 L2 (fun be' y IY RY _ => ⟨?_, ?_⟩)
  · refine Int32.toInt_inj.mp (qh_Rq (fun i _ => (zv_Tr L1 L2 i).1) IY.1.1 RY (qh_Rc (fun i hi => qh_u IX.1 IY.1 i hi) RX))
  · exact ⟨n, ml, ll, op, fd, fa, fb, uo, cy, ini, seq, mac, pv, pt, wa', tr, ea', la, pl, ri, wo, be', rfl, rfl, hn, L1, L2, F, U, K⟩
section
variable {ml ll fn : Int32} {op fd fa fb uo cy ini seq mac pv pt wa tr ea la pl ri : Nat → Int32} {wo be : Nat → Int32}
theorem zn_scan {n : Nat} {p0 p1 : Int32} (hn : n ≤ 10) : ∀ d i b, i + d = n → ∃ r, (∀ post : Int32 → Prop, post r → wX_bundleAt_21 post p0 p1 ml ll (nI n) op fd fa fb uo cy ini seq mac pv pt wa tr ea la pl ri (d + 1) b (nI i)) ∧ (∀ post : Int32 → Prop, post r → wY_bundleAt_21 post p0 p1 ml ll (nI n) op fd fa fb cy wo be pv pt ini seq mac (d + 1) b (nI i)) := by
  intro d
  induction d with
  | zero =>
    intro i b hi
    have h : nI n ≤ nI i := nI_le (by omega) (by omega)
    exact ⟨-1, fun _ hp => br_t h hp, fun _ hp => br_t h hp⟩
  | succ d ih =>
    intro i b hi
    have h : ¬ nI n ≤ nI i := nI_ge (by omega) (by omega)
    have hin : vp_in (nI i) 10 := vp_in_nI (by omega) (by omega)
    by_cases c : cy (nI i).toNatClampNeg = p0
    · by_cases e : b = p1
      · exact ⟨nI i, fun _ hp => br_f h ⟨hin, br_t c (br_t e hp)⟩, fun _ hp => br_f h ⟨hin, br_t c (br_t e hp)⟩⟩
      · obtain ⟨r, hX, hY⟩ := ih (i + 1) (b + 1) (by omega)
        exact ⟨r, fun post hp => br_f h ⟨hin, br_t c (br_f e (nm_e (nm_r (nI_1 i) (hX post hp))))⟩, fun post hp => br_f h ⟨hin, br_t c (br_f e (nm_e (nm_r (nI_1 i) (hY post hp))))⟩⟩
    · obtain ⟨r, hX, hY⟩ := ih (i + 1) b (by omega)
      exact ⟨r, fun post hp => br_f h ⟨hin, br_f c (nm_r (nI_1 i) (hX post hp))⟩, fun post hp => br_f h ⟨hin, br_f c (nm_r (nI_1 i) (hY post hp))⟩⟩
end
theorem i_vc_bundleAt {k : Nat} {u : SX} {v : SY} (I : i_Rel k u v) (hk : k + 5 ≤ 2562) (v1 : Int32) (v2 : Int32) : wpX_bundleAt (fun r => wpY_bundleAt (fun r' => r' = r ∧ i_Rel (k + 5) u v) v v1 v2) u v1 v2 := by
  have R : i_Rel (k + 5) u v := i_up I
  obtain ⟨n, ml, ll, op, fd, fa, fb, uo, cy, ini, seq, mac, pv, pt, wa, tr, ea, la, pl, ri, wo, be, rfl, rfl, hn, L1, L2, F, U, K⟩ := I
  unfold wpX_bundleAt wpY_bundleAt
  dsimp only
  by_cases a : v1 < 0
  · exact br_t a (br_t a ⟨rfl, R⟩)
  · refine br_f a ?_
    by_cases b : 64 ≤ v1
    · refine br_t b (br_f a (br_t (Int32.not_le.mp fun z => ?_) ⟨rfl, R⟩))
      exact Int32.not_le.mpr (zl_63.mpr z) b
    · have b' : ¬ 63 < v1 := Int32.not_lt.mpr (zl_63.mp (Int32.not_le.mp b))
      refine br_f b ?_
      by_cases c : 0 ≤ v2
      · obtain ⟨r, hX, hY⟩ := zn_scan (ml := ml) (ll := ll) (op := op) (fd := fd) (fa := fa) (fb := fb) (uo := uo) (cy := cy) (ini := ini) (seq := seq) (mac := mac) (pv := pv) (pt := pt) (wa := wa) (tr := tr) (ea := ea) (la := la) (pl := pl) (ri := ri) (wo := wo) (be := be) (p0 := v1) (p1 := v2) hn n 0 0 (by omega)
        exact br_t c ⟨_, hX _ (br_f a (br_f b' (br_t c ⟨_, hY _ ⟨rfl, R⟩⟩)))⟩
      · exact br_f c (br_f a (br_f b' (br_f c ⟨rfl, R⟩)))
