/-! runs, both sides against one picture -/
def zr_fill (ini s : Nat → Int32) : Nat → Nat → Int32
  | 0 => s
  | k + 1 => upd (zr_fill ini s k) k (ini k)
theorem zr_uu {a : Nat → Int32} {k : Nat} {x y : Int32} : upd (upd a k x) k y = upd a k y := by
  funext j
  by_cases h : j = k
  · subst h; rw [pk_us, pk_us]
  · rw [pk_un h, pk_un h, pk_un h]
theorem zr_fd {n : Nat} {op fd fa fb : Nat → Int32} (F : zv_F n op fd fa fb) {i : Nat} (hi : i < n) : vp_in (fd i) 16 := by
  obtain ⟨_, ⟨d, hd, e⟩, _, _⟩ := F i hi
  rw [e]; exact vp_in_nI (by omega) (by omega)
theorem zr_fa {n : Nat} {op fd fa fb : Nat → Int32} (F : zv_F n op fd fa fb) {i : Nat} (hi : i < n) (h : op i ≠ 1) : vp_in (fa i) 16 := by
  obtain ⟨_, _, f, _⟩ := F i hi
  obtain ⟨d, hd, e⟩ := f h
  rw [e]; exact vp_in_nI (by omega) (by omega)
theorem zr_fb {n : Nat} {op fd fa fb : Nat → Int32} (F : zv_F n op fd fa fb) {i : Nat} (hi : i < n) (h : op i = 2 ∨ op i = 3 ∨ op i = 4) : vp_in (fb i) 16 := by
  obtain ⟨_, _, _, f⟩ := F i hi
  obtain ⟨d, hd, e⟩ := f h
  rw [e]; exact vp_in_nI (by omega) (by omega)
theorem zr_adI (fa fb st : Nat → Int32) (i : Nat) : vp_in (8 + ((st (fa i).toNatClampNeg + fb i) &&& 7)) 16 := by
  obtain ⟨a, _, h, e⟩ := zr_adN fa fb st i
  unfold zr_ad at e
  rw [e]; exact vp_in_nI h (by omega)
section
variable {ml ll fn : Int32} {op fd fa fb uo cy ini seq mac pv pt wa tr ea la pl ri : Nat → Int32}
theorem xr_cs {post : St2 → Prop} {n i : Nat} (hn : n ≤ 10) (F : zv_F n op fd fa fb) (hi : i < n) (h : post (ml, ll, fn, op, fd, fa, fb, uo, cy, ini, seq, mac, upd pv i (zr_val op fd fa fb seq i), upd pt i (zr_tgt op fd fa fb seq i), wa, tr, ea, la, pl, ri)) : wpX_compute post (ml, ll, fn, op, fd, fa, fb, uo, cy, ini, seq, mac, pv, pt, wa, tr, ea, la, pl, ri) (nI i) := by
  have hin : vp_in (nI i) 10 := vp_in_nI (by omega) (by omega)
  unfold wpX_compute
  dsimp only
  rw [nI_clamp (show i < 2 ^ 31 by omega)]
  unfold zr_val zr_tgt at h
  refine ⟨hin, nm_e ⟨hin, nm_e ⟨hin, nm_e ⟨hin, nm_e ⟨hin, nm_e ?_⟩⟩⟩⟩⟩
  have d1 : vp_in (fd i) 16 := zr_fd F hi
  rcases zv_nI6 (F i hi).1 with o | o | o | o | o | o
  · rw [if_pos o, if_neg (by rw [o]; decide)] at h
    exact br_f (by rw [o]; decide) (br_f (by rw [o]; decide) (br_t o ⟨hin, nm_e h⟩))
  · have a1 : vp_in (fa i) 16 := zr_fa F hi (by rw [o]; decide)
    have b1 : vp_in (fb i) 16 := zr_fb F hi (Or.inl o)
    rw [if_neg (by rw [o]; decide), if_pos o, if_neg (by rw [o]; decide)] at h
    exact br_f (by rw [o]; decide) (br_f (by rw [o]; decide) (br_f (by rw [o]; decide) (br_t o ⟨a1, b1, hin, nm_e h⟩)))
  · have a1 : vp_in (fa i) 16 := zr_fa F hi (by rw [o]; decide)
    have b1 : vp_in (fb i) 16 := zr_fb F hi (Or.inr (Or.inl o))
    rw [if_neg (by rw [o]; decide), if_neg (by rw [o]; decide), if_pos o, if_neg (by rw [o]; decide)] at h
    exact br_f (by rw [o]; decide) (br_f (by rw [o]; decide) (br_f (by rw [o]; decide) (br_f (by rw [o]; decide) (br_t o ⟨a1, b1, hin, nm_e h⟩))))
  · have a1 : vp_in (fa i) 16 := zr_fa F hi (by rw [o]; decide)
    have b1 : vp_in (fb i) 16 := zr_fb F hi (Or.inr (Or.inr o))
    rw [if_neg (by rw [o]; decide), if_neg (by rw [o]; decide), if_neg (by rw [o]; decide), if_pos o, if_neg (by rw [o]; decide)] at h
    exact br_f (by rw [o]; decide) (br_f (by rw [o]; decide) (br_f (by rw [o]; decide) (br_f (by rw [o]; decide) (br_f (by rw [o]; decide) (br_t o ⟨a1, b1, hin, nm_e h⟩)))))
  · have a1 : vp_in (fa i) 16 := zr_fa F hi (by rw [o]; decide)
    rw [if_neg (by rw [o]; decide), if_neg (by rw [o]; decide), if_neg (by rw [o]; decide), if_neg (by rw [o]; decide), if_pos o, if_neg (by rw [o]; decide)] at h
    exact br_f (by rw [o]; decide) (br_f (by rw [o]; decide) (br_f (by rw [o]; decide) (br_f (by rw [o]; decide) (br_f (by rw [o]; decide) (br_f (by rw [o]; decide) (br_t o ⟨a1, zr_adI fa fb seq i, hin, nm_e h⟩))))))
  · have a1 : vp_in (fa i) 16 := zr_fa F hi (by rw [o]; decide)
    rw [if_neg (by rw [o]; decide), if_neg (by rw [o]; decide), if_neg (by rw [o]; decide), if_neg (by rw [o]; decide), if_neg (by rw [o]; decide), if_pos o] at h
    exact br_f (by rw [o]; decide) (br_t (by rw [o]; decide) ⟨d1, hin, nm_e ⟨a1, hin, nm_r zr_uu h⟩⟩)
theorem xr_cm {post : St2 → Prop} {n i : Nat} (hn : n ≤ 10) (F : zv_F n op fd fa fb) (hi : i < n) (h : post (ml, ll, fn, op, fd, fa, fb, uo, cy, ini, seq, mac, upd pv i (zr_val op fd fa fb mac i), upd pt i (zr_tgt op fd fa fb mac i), wa, tr, ea, la, pl, ri)) : wpX_compute_2 post (ml, ll, fn, op, fd, fa, fb, uo, cy, ini, seq, mac, pv, pt, wa, tr, ea, la, pl, ri) (nI i) := by
  have hin : vp_in (nI i) 10 := vp_in_nI (by omega) (by omega)
  unfold wpX_compute_2
  dsimp only
  rw [nI_clamp (show i < 2 ^ 31 by omega)]
  unfold zr_val zr_tgt at h
  refine ⟨hin, nm_e ⟨hin, nm_e ⟨hin, nm_e ⟨hin, nm_e ⟨hin, nm_e ?_⟩⟩⟩⟩⟩
  have d1 : vp_in (fd i) 16 := zr_fd F hi
  rcases zv_nI6 (F i hi).1 with o | o | o | o | o | o
  · rw [if_pos o, if_neg (by rw [o]; decide)] at h
    exact br_f (by rw [o]; decide) (br_f (by rw [o]; decide) (br_t o ⟨hin, nm_e h⟩))
  · have a1 : vp_in (fa i) 16 := zr_fa F hi (by rw [o]; decide)
    have b1 : vp_in (fb i) 16 := zr_fb F hi (Or.inl o)
    rw [if_neg (by rw [o]; decide), if_pos o, if_neg (by rw [o]; decide)] at h
    exact br_f (by rw [o]; decide) (br_f (by rw [o]; decide) (br_f (by rw [o]; decide) (br_t o ⟨a1, b1, hin, nm_e h⟩)))
  · have a1 : vp_in (fa i) 16 := zr_fa F hi (by rw [o]; decide)
    have b1 : vp_in (fb i) 16 := zr_fb F hi (Or.inr (Or.inl o))
    rw [if_neg (by rw [o]; decide), if_neg (by rw [o]; decide), if_pos o, if_neg (by rw [o]; decide)] at h
    exact br_f (by rw [o]; decide) (br_f (by rw [o]; decide) (br_f (by rw [o]; decide) (br_f (by rw [o]; decide) (br_t o ⟨a1, b1, hin, nm_e h⟩))))
  · have a1 : vp_in (fa i) 16 := zr_fa F hi (by rw [o]; decide)
    have b1 : vp_in (fb i) 16 := zr_fb F hi (Or.inr (Or.inr o))
    rw [if_neg (by rw [o]; decide), if_neg (by rw [o]; decide), if_neg (by rw [o]; decide), if_pos o, if_neg (by rw [o]; decide)] at h
    exact br_f (by rw [o]; decide) (br_f (by rw [o]; decide) (br_f (by rw [o]; decide) (br_f (by rw [o]; decide) (br_f (by rw [o]; decide) (br_t o ⟨a1, b1, hin, nm_e h⟩)))))
  · have a1 : vp_in (fa i) 16 := zr_fa F hi (by rw [o]; decide)
    rw [if_neg (by rw [o]; decide), if_neg (by rw [o]; decide), if_neg (by rw [o]; decide), if_neg (by rw [o]; decide), if_pos o, if_neg (by rw [o]; decide)] at h
    exact br_f (by rw [o]; decide) (br_f (by rw [o]; decide) (br_f (by rw [o]; decide) (br_f (by rw [o]; decide) (br_f (by rw [o]; decide) (br_f (by rw [o]; decide) (br_t o ⟨a1, zr_adI fa fb mac i, hin, nm_e h⟩))))))
  · have a1 : vp_in (fa i) 16 := zr_fa F hi (by rw [o]; decide)
    rw [if_neg (by rw [o]; decide), if_neg (by rw [o]; decide), if_neg (by rw [o]; decide), if_neg (by rw [o]; decide), if_neg (by rw [o]; decide), if_pos o] at h
    exact br_f (by rw [o]; decide) (br_t (by rw [o]; decide) ⟨d1, hin, nm_e ⟨a1, hin, nm_r zr_uu h⟩⟩)
theorem xr_fs {post : St2 → Prop} (h : post (ml, ll, fn, op, fd, fa, fb, uo, cy, ini, zr_fill ini seq 16, mac, pv, pt, wa, tr, ea, la, pl, ri)) : wpX_startFromInitial post (ml, ll, fn, op, fd, fa, fb, uo, cy, ini, seq, mac, pv, pt, wa, tr, ea, la, pl, ri) := by
  unfold wpX_startFromInitial
  dsimp only
  have key := loop_0 (fun m i (s : Nat → Int32) => wX_startFromInitial_2 post ml ll fn m (nI i) op fd fa fb uo cy ini s mac pv pt wa tr ea la pl ri) (fun i s => s = zr_fill ini seq i) 16 seq rfl (fun m s I => ?_) (fun m i s hi I ih => ?_)
  · exact key
  · subst I
    exact br_t (nI_le (b := 16) (Nat.le_refl 16) (by decide)) h
  · refine br_f (nI_ge (b := 16) hi (by decide)) ⟨vp_in_nI hi (by omega), vp_in_nI hi (by omega), nm_e (nm_r (nI_1 i) ?_)⟩
    rw [nI_clamp (show i < 2 ^ 31 by omega)]
    exact ih _ (by rw [I]; rfl)
theorem xr_fm {post : St2 → Prop} (h : post (ml, ll, fn, op, fd, fa, fb, uo, cy, ini, seq, zr_fill ini mac 16, pv, pt, wa, tr, ea, la, pl, ri)) : wpX_startFromInitial_2 post (ml, ll, fn, op, fd, fa, fb, uo, cy, ini, seq, mac, pv, pt, wa, tr, ea, la, pl, ri) := by
  unfold wpX_startFromInitial_2
  dsimp only
  have key := loop_0 (fun m i (s : Nat → Int32) => wX_startFromInitial_2_2 post ml ll fn m (nI i) op fd fa fb uo cy ini seq s pv pt wa tr ea la pl ri) (fun i s => s = zr_fill ini mac i) 16 mac rfl (fun m s I => ?_) (fun m i s hi I ih => ?_)
  · exact key
  · subst I
    exact br_t (nI_le (b := 16) (Nat.le_refl 16) (by decide)) h
  · refine br_f (nI_ge (b := 16) hi (by decide)) ⟨vp_in_nI hi (by omega), vp_in_nI hi (by omega), nm_e (nm_r (nI_1 i) ?_)⟩
    rw [nI_clamp (show i < 2 ^ 31 by omega)]
    exact ih _ (by rw [I]; rfl)
theorem xr_seq {post : St2 → Prop} {n : Nat} (hn : n ≤ 10) (F : zv_F n op fd fa fb) (h : post (ml, ll, nI n, op, fd, fa, fb, uo, cy, ini, zr_seq op fd fa fb (zr_fill ini seq 16) n, mac, zr_sv op fd fa fb (zr_fill ini seq 16) pv n, zr_sp op fd fa fb (zr_fill ini seq 16) pt n, wa, tr, ea, la, pl, ri)) : wpX_runSequential post (ml, ll, nI n, op, fd, fa, fb, uo, cy, ini, seq, mac, pv, pt, wa, tr, ea, la, pl, ri) := by
  unfold wpX_runSequential
  dsimp only
  refine xr_fs ?_
  have key := loop_0 (fun m i (s : (Nat → Int32) × (Nat → Int32) × (Nat → Int32)) => wX_runSequential_10 post m (nI i) ml ll (nI n) op fd fa fb uo cy ini (s.1) mac (s.2.1) (s.2.2) wa tr ea la pl ri) (fun i s => s = (zr_seq op fd fa fb (zr_fill ini seq 16) i, zr_sv op fd fa fb (zr_fill ini seq 16) pv i, zr_sp op fd fa fb (zr_fill ini seq 16) pt i)) n (zr_fill ini seq 16, pv, pt) rfl (fun m s I => ?_) (fun m i s hi I ih => ?_)
  · exact key
  · subst I
    exact br_t (nI_le (Nat.le_refl n) (by omega)) h
  · subst I
    have hin : vp_in (nI i) 10 := vp_in_nI (by omega) (by omega)
    refine br_f (nI_ge hi (by omega)) (xr_cs hn F hi ⟨hin, hin, ?_⟩)
    rw [nI_clamp (show i < 2 ^ 31 by omega), pk_us, pk_us]
    obtain ⟨a, ha, e⟩ := zr_tgtN F (zr_seq op fd fa fb (zr_fill ini seq 16) i) hi
    exact ⟨by rw [e]; exact vp_in_nI ha (by omega), nm_e (nm_r (nI_1 i) (ih _ rfl))⟩
theorem xr_iss {post : St2 → Prop} {n : Nat} {t : Int32} (hn : n ≤ 10) (F : zv_F n op fd fa fb) (h : post (ml, ll, nI n, op, fd, fa, fb, uo, cy, ini, seq, mac, zr_iv op fd fa fb cy mac t pv n, zr_ip op fd fa fb cy mac t pt n, wa, tr, ea, la, pl, ri)) : wpX_issueAt post (ml, ll, nI n, op, fd, fa, fb, uo, cy, ini, seq, mac, pv, pt, wa, tr, ea, la, pl, ri) t := by
  unfold wpX_issueAt
  dsimp only
  have key := loop_0 (fun m i (s : (Nat → Int32) × (Nat → Int32)) => wX_issueAt_2 post t m (nI i) ml ll (nI n) op fd fa fb uo cy ini seq mac (s.1) (s.2) wa tr ea la pl ri) (fun i s => s = (zr_iv op fd fa fb cy mac t pv i, zr_ip op fd fa fb cy mac t pt i)) n (pv, pt) rfl (fun m s I => ?_) (fun m i s hi I ih => ?_)
  · exact key
  · subst I
    exact br_t (nI_le (Nat.le_refl n) (by omega)) h
  · subst I
    refine br_f (nI_ge hi (by omega)) ⟨vp_in_nI (by omega) (by omega), ?_⟩
    rw [nI_clamp (show i < 2 ^ 31 by omega)]
    have e1 : zr_iv op fd fa fb cy mac t pv (i + 1) = if cy i = t then upd (zr_iv op fd fa fb cy mac t pv i) i (zr_val op fd fa fb mac i) else zr_iv op fd fa fb cy mac t pv i := rfl
    have e2 : zr_ip op fd fa fb cy mac t pt (i + 1) = if cy i = t then upd (zr_ip op fd fa fb cy mac t pt i) i (zr_tgt op fd fa fb mac i) else zr_ip op fd fa fb cy mac t pt i := rfl
    by_cases c : cy i = t
    · rw [if_pos c] at e1 e2
      exact br_t c (xr_cm hn F hi (nm_r (nI_1 i) (ih (upd (zr_iv op fd fa fb cy mac t pv i) i (zr_val op fd fa fb mac i), upd (zr_ip op fd fa fb cy mac t pt i) i (zr_tgt op fd fa fb mac i)) (by rw [e1, e2]))))
    · rw [if_neg c] at e1 e2
      exact br_f c (nm_r (nI_1 i) (ih (_, _) (by rw [e1, e2])))
theorem xr_wr {post : St2 → Prop} {n : Nat} {t : Int32} (hn : n ≤ 10) (hp : ∀ i, i < n → ∃ a, a < 16 ∧ pt i = nI a) (h : post (ml, ll, nI n, op, fd, fa, fb, uo, cy, ini, seq, zr_w ml ll op cy pv pt t mac n, pv, pt, wa, tr, ea, la, pl, ri)) : wpX_writeAt post (ml, ll, nI n, op, fd, fa, fb, uo, cy, ini, seq, mac, pv, pt, wa, tr, ea, la, pl, ri) t := by
  unfold wpX_writeAt
  dsimp only
  have key := loop_0 (fun m i (s : Nat → Int32) => wX_writeAt_2 post t ml ll (nI n) m (nI i) op fd fa fb uo cy ini seq s pv pt wa tr ea la pl ri) (fun i s => s = zr_w ml ll op cy pv pt t mac i) n mac rfl (fun m s I => ?_) (fun m i s hi I ih => ?_)
  · exact key
  · subst I
    exact br_t (nI_le (Nat.le_refl n) (by omega)) h
  · have hin : vp_in (nI i) 10 := vp_in_nI (by omega) (by omega)
    refine br_f (nI_ge hi (by omega)) ⟨hin, xk_lat (by omega) (nm_e ?_)⟩
    rw [nI_clamp (show i < 2 ^ 31 by omega)]
    have e1 : zr_w ml ll op cy pv pt t mac (i + 1) = if cy i + zv_lat ml ll op i - 1 = t then upd (zr_w ml ll op cy pv pt t mac i) (pt i).toNatClampNeg (pv i) else zr_w ml ll op cy pv pt t mac i := rfl
    rw [← I] at e1
    by_cases c : cy i + zv_lat ml ll op i - 1 = t
    · rw [if_pos c] at e1
      obtain ⟨a, ha, e⟩ := hp i hi
      exact br_t c ⟨hin, hin, by rw [e]; exact vp_in_nI ha (by omega), nm_e (nm_r (nI_1 i) (ih _ e1.symm))⟩
    · rw [if_neg c] at e1
      exact br_f c (nm_r (nI_1 i) (ih _ e1.symm))
end
/-- targets stay within -/
theorem zr_ipN {n : Nat} {op fd fa fb cy st pt : Nat → Int32} {t : Int32} (F : zv_F n op fd fa fb) (hp : ∀ i, i < n → ∃ a, a < 16 ∧ pt i = nI a) : ∀ k, k ≤ n → ∀ i, i < n → ∃ a, a < 16 ∧ zr_ip op fd fa fb cy st t pt k i = nI a := by
  intro k
  induction k with
  | zero => intro _; exact hp
  | succ k ih =>
    intro hk i hi
    have e2 : zr_ip op fd fa fb cy st t pt (k + 1) = if cy k = t then upd (zr_ip op fd fa fb cy st t pt k) k (zr_tgt op fd fa fb st k) else zr_ip op fd fa fb cy st t pt k := rfl
    rw [e2]
    split
    · by_cases e : i = k
      · subst e; rw [pk_us]; exact zr_tgtN F st hi
      · rw [pk_un e]; exact ih (by omega) i hi
    · exact ih (by omega) i hi
theorem zr_spN {n : Nat} {op fd fa fb st pt : Nat → Int32} (F : zv_F n op fd fa fb) : ∀ k, k ≤ n → ∀ i, i < k → ∃ a, a < 16 ∧ zr_sp op fd fa fb st pt k i = nI a := by
  intro k
  induction k with
  | zero => intro _ i hi; exact absurd hi (Nat.not_lt_zero i)
  | succ k ih =>
    intro hk i hi
    have e2 : zr_sp op fd fa fb st pt (k + 1) = upd (zr_sp op fd fa fb st pt k) k (zr_tgt op fd fa fb (zr_seq op fd fa fb st k) k) := rfl
    rw [e2]
    by_cases e : i = k
    · subst e; rw [pk_us]; exact zr_tgtN F _ (by omega)
    · rw [pk_un e]; exact ih (by omega) i (by omega)
theorem zr_machN {n : Nat} {ml ll : Int32} {op fd fa fb cy st pv pt : Nat → Int32} (F : zv_F n op fd fa fb) (hp : ∀ i, i < n → ∃ a, a < 16 ∧ pt i = nI a) : ∀ t, ∀ i, i < n → ∃ a, a < 16 ∧ (zr_mach ml ll op fd fa fb cy n st pv pt t).2.2 i = nI a := by
  intro t
  induction t with
  | zero => exact hp
  | succ t ih => exact zr_ipN F ih n (Nat.le_refl n)
theorem zr_lenN {n : Nat} {ml ll : Int32} {op cy : Nat → Int32} (L1 : zv_L ml) (L2 : zv_L ll) (K : zc_K n cy) (U : ¬ zc_U n cy) : ∀ k, k ≤ n → ∃ T, T ≤ 67 ∧ zr_len ml ll op cy k = nI T := by
  intro k
  induction k with
  | zero => intro _; exact ⟨0, by omega, rfl⟩
  | succ k ih =>
    intro hk
    obtain ⟨T, hT, e⟩ := ih (by omega)
    have e1 : zr_len ml ll op cy (k + 1) = if cy k + zv_lat ml ll op k ≤ zr_len ml ll op cy k then zr_len ml ll op cy k else cy k + zv_lat ml ll op k := rfl
    rcases K k (by omega) with h | ⟨c, hc, h⟩
    · exact absurd ⟨k, by omega, h⟩ U
    · obtain ⟨a, h1, h2, e2⟩ := zv_latL (op := op) L1 L2 k
      rw [e1, e, h, e2, nI_add]
      split
      · exact ⟨T, hT, rfl⟩
      · exact ⟨c + a, by omega, rfl⟩
section
variable {ml ll fn : Int32} {op fd fa fb uo cy ini seq mac pv pt wa tr ea la pl ri : Nat → Int32}
theorem xr_mach {post : St2 → Prop} {n T : Nat} (hn : n ≤ 10) (F : zv_F n op fd fa fb) (hp : ∀ i, i < n → ∃ a, a < 16 ∧ pt i = nI a) (hT : T ≤ 67) (eT : zr_len ml ll op cy n = nI T)
    (h : post (ml, ll, nI n, op, fd, fa, fb, uo, cy, ini, seq, (zr_mach ml ll op fd fa fb cy n (zr_fill ini mac 16) pv pt T).1, (zr_mach ml ll op fd fa fb cy n (zr_fill ini mac 16) pv pt T).2.1, (zr_mach ml ll op fd fa fb cy n (zr_fill ini mac 16) pv pt T).2.2, wa, tr, ea, la, pl, ri)) : wpX_runMachine post (ml, ll, nI n, op, fd, fa, fb, uo, cy, ini, seq, mac, pv, pt, wa, tr, ea, la, pl, ri) := by
  unfold wpX_runMachine
  dsimp only
  refine xr_fm (xc_len hn ?_)
  rw [eT]
  have key := loop_0 (fun m t (s : (Nat → Int32) × (Nat → Int32) × (Nat → Int32)) => wX_runMachine_15 post (nI T) m (nI t) ml ll (nI n) op fd fa fb uo cy ini seq (s.1) (s.2.1) (s.2.2) wa tr ea la pl ri) (fun t s => s = zr_mach ml ll op fd fa fb cy n (zr_fill ini mac 16) pv pt t) T (zr_fill ini mac 16, pv, pt) rfl (fun m s I => ?_) (fun m t s ht I ih => ?_)
  · exact key
  · subst I
    exact br_t (nI_le (Nat.le_refl T) (by omega)) h
  · have hN := zr_machN (ml := ml) (ll := ll) (cy := cy) (st := zr_fill ini mac 16) (pv := pv) F hp t
    have e0 : zr_mach ml ll op fd fa fb cy n (zr_fill ini mac 16) pv pt (t + 1) = (zr_w ml ll op cy (zr_iv op fd fa fb cy s.1 (nI t) s.2.1 n) (zr_ip op fd fa fb cy s.1 (nI t) s.2.2 n) (nI t) s.1 n, zr_iv op fd fa fb cy s.1 (nI t) s.2.1 n, zr_ip op fd fa fb cy s.1 (nI t) s.2.2 n) := by rw [I]; rfl
    rw [← I] at hN
    refine br_f (nI_ge ht (by omega)) (xr_iss hn F (xr_wr hn (zr_ipN F hN n (Nat.le_refl n)) (nm_r (nI_1 t) ?_)))
    exact ih (_, _, _) e0.symm
theorem xr_run {post : Int32 → St2 → Prop} {n : Nat} (hn : n ≤ 10) (F : zv_F n op fd fa fb) (L1 : zv_L ml) (L2 : zv_L ll) (K : zc_K n cy)
    (h0 : n = 0 ∨ zc_U n cy → post (-1) (ml, ll, nI n, op, fd, fa, fb, uo, cy, ini, seq, mac, pv, pt, wa, tr, ea, la, pl, ri))
    (h1 : ¬ n = 0 → ¬ zc_U n cy → ∀ T, T ≤ 67 → zr_len ml ll op cy n = nI T → ∀ S M V P, S = zr_seq op fd fa fb (zr_fill ini seq 16) n → (M, V, P) = zr_mach ml ll op fd fa fb cy n (zr_fill ini mac 16) (zr_sv op fd fa fb (zr_fill ini seq 16) pv n) (zr_sp op fd fa fb (zr_fill ini seq 16) pt n) T → post (zr_df S M 16) (ml, ll, nI n, op, fd, fa, fb, uo, cy, ini, S, M, V, P, wa, tr, ea, la, pl, ri)) : wpX_run post (ml, ll, nI n, op, fd, fa, fb, uo, cy, ini, seq, mac, pv, pt, wa, tr, ea, la, pl, ri) := by
  unfold wpX_run
  dsimp only
  refine pk_eq n 0 (fun e => h0 (Or.inl e)) (fun e => ?_)
  refine xc_unset hn (fun a => br_f (by decide) (h0 (Or.inr a))) (fun a => br_t rfl ?_)
  obtain ⟨T, hT, eT⟩ := zr_lenN (op := op) L1 L2 K a n (Nat.le_refl n)
  refine xr_seq hn F (xr_mach hn F (zr_spN F n (Nat.le_refl n)) hT eT ?_)
  have H := h1 e a T hT eT _ _ _ _ rfl rfl
  generalize zr_mach ml ll op fd fa fb cy n (zr_fill ini mac 16) (zr_sv op fd fa fb (zr_fill ini seq 16) pv n) (zr_sp op fd fa fb (zr_fill ini seq 16) pt n) T = s at H ⊢
  generalize zr_seq op fd fa fb (zr_fill ini seq 16) n = S at H ⊢
  have key := loop_0 (fun m l (x : Int32) => wX_run_28 post ml ll (nI n) op fd fa fb uo cy ini S (s.1) (s.2.1) (s.2.2) wa tr ea la pl ri m x (nI l)) (fun l x => x = zr_df S s.1 l) 16 0 rfl (fun m x I => ?_) (fun m l x hl I ih => ?_)
  · exact key
  · subst I
    exact br_t (nI_le (b := 16) (Nat.le_refl 16) (by decide)) H
  · refine br_f (nI_ge (b := 16) hl (by decide)) ⟨vp_in_nI hl (by omega), vp_in_nI hl (by omega), ?_⟩
    rw [nI_clamp (show l < 2 ^ 31 by omega)]
    have e1 : zr_df S s.1 (l + 1) = if S l = s.1 l then zr_df S s.1 l else zr_df S s.1 l + 1 := rfl
    rw [← I] at e1
    by_cases c : S l = s.1 l
    · rw [if_pos c] at e1
      exact br_t c (nm_r (nI_1 l) (ih _ e1.symm))
    · rw [if_neg c] at e1
      exact br_f c (nm_e (nm_r (nI_1 l) (ih _ e1.symm)))
end
