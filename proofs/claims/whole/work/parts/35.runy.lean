section
variable {ml ll fn : Int32} {op fd fa fb cy wo be pv pt ini seq mac : Nat → Int32}
/-- the state that the reference reads: in order (0) or on the machine (1) -/
theorem yr_rd0 {post : Int32 → Prop} {x : Int32} (hx : vp_in x 16) (h : post (seq x.toNatClampNeg)) : wpY_rd post (ml, ll, fn, op, fd, fa, fb, cy, wo, be, pv, pt, ini, seq, mac) 0 x := br_t rfl ⟨hx, h⟩
theorem yr_rd1 {post : Int32 → Prop} {x : Int32} (hx : vp_in x 16) (h : post (mac x.toNatClampNeg)) : wpY_rd post (ml, ll, fn, op, fd, fa, fb, cy, wo, be, pv, pt, ini, seq, mac) 1 x := br_f (by decide) ⟨hx, h⟩
theorem yr_cs {post : SY → Prop} {n i : Nat} (hn : n ≤ 10) (F : zv_F n op fd fa fb) (hi : i < n) (h : post (ml, ll, fn, op, fd, fa, fb, cy, wo, be, upd pv i (zr_val op fd fa fb seq i), upd pt i (zr_tgt op fd fa fb seq i), ini, seq, mac)) : wpY_compute post (ml, ll, fn, op, fd, fa, fb, cy, wo, be, pv, pt, ini, seq, mac) (nI i) 0 := by
  have hin : vp_in (nI i) 10 := vp_in_nI (by omega) (by omega)
  unfold wpY_compute
  dsimp only
  rw [nI_clamp (show i < 2 ^ 31 by omega)]
  unfold zr_val zr_tgt at h
  refine ⟨hin, nm_e ⟨hin, hin, nm_e ?_⟩⟩
  have d1 : vp_in (fd i) 16 := zr_fd F hi
  rcases zv_nI6 (F i hi).1 with o | o | o | o | o | o
  · rw [if_pos o, if_neg (by rw [o]; decide)] at h
    exact br_t o ⟨hin, hin, nm_e h⟩
  · have a1 : vp_in (fa i) 16 := zr_fa F hi (by rw [o]; decide)
    have b1 : vp_in (fb i) 16 := zr_fb F hi (Or.inl o)
    rw [if_neg (by rw [o]; decide), if_pos o, if_neg (by rw [o]; decide)] at h
    exact br_f (by rw [o]; decide) (br_t o ⟨hin, yr_rd0 a1 ⟨hin, yr_rd0 b1 ⟨hin, nm_e h⟩⟩⟩)
  · have a1 : vp_in (fa i) 16 := zr_fa F hi (by rw [o]; decide)
    have b1 : vp_in (fb i) 16 := zr_fb F hi (Or.inr (Or.inl o))
    rw [if_neg (by rw [o]; decide), if_neg (by rw [o]; decide), if_pos o, if_neg (by rw [o]; decide)] at h
    exact br_f (by rw [o]; decide) (br_f (by rw [o]; decide) (br_t o ⟨hin, yr_rd0 a1 ⟨hin, yr_rd0 b1 ⟨hin, nm_e h⟩⟩⟩))
  · have a1 : vp_in (fa i) 16 := zr_fa F hi (by rw [o]; decide)
    have b1 : vp_in (fb i) 16 := zr_fb F hi (Or.inr (Or.inr o))
    rw [if_neg (by rw [o]; decide), if_neg (by rw [o]; decide), if_neg (by rw [o]; decide), if_pos o, if_neg (by rw [o]; decide)] at h
    exact br_f (by rw [o]; decide) (br_f (by rw [o]; decide) (br_f (by rw [o]; decide) (br_t o ⟨hin, yr_rd0 a1 ⟨hin, yr_rd0 b1 ⟨hin, nm_e h⟩⟩⟩)))
  · have a1 : vp_in (fa i) 16 := zr_fa F hi (by rw [o]; decide)
    rw [if_neg (by rw [o]; decide), if_neg (by rw [o]; decide), if_neg (by rw [o]; decide), if_neg (by rw [o]; decide), if_pos o, if_neg (by rw [o]; decide)] at h
    exact br_f (by rw [o]; decide) (br_f (by rw [o]; decide) (br_f (by rw [o]; decide) (br_f (by rw [o]; decide) (br_t o ⟨hin, yr_rd0 a1 ⟨hin, nm_e (yr_rd0 (zr_adI fa fb seq i) ⟨hin, nm_e h⟩)⟩⟩))))
  · have a1 : vp_in (fa i) 16 := zr_fa F hi (by rw [o]; decide)
    rw [if_neg (by rw [o]; decide), if_neg (by rw [o]; decide), if_neg (by rw [o]; decide), if_neg (by rw [o]; decide), if_neg (by rw [o]; decide), if_pos o] at h
    refine br_f (by rw [o]; decide) (br_f (by rw [o]; decide) (br_f (by rw [o]; decide) (br_f (by rw [o]; decide) (br_f (by rw [o]; decide) ⟨hin, yr_rd0 a1 ⟨hin, nm_e ⟨hin, nm_r zr_uu ⟨hin, yr_rd0 d1 ⟨hin, nm_e h⟩⟩⟩⟩⟩))))
theorem yr_cm {post : SY → Prop} {n i : Nat} (hn : n ≤ 10) (F : zv_F n op fd fa fb) (hi : i < n) (h : post (ml, ll, fn, op, fd, fa, fb, cy, wo, be, upd pv i (zr_val op fd fa fb mac i), upd pt i (zr_tgt op fd fa fb mac i), ini, seq, mac)) : wpY_compute post (ml, ll, fn, op, fd, fa, fb, cy, wo, be, pv, pt, ini, seq, mac) (nI i) 1 := by
  have hin : vp_in (nI i) 10 := vp_in_nI (by omega) (by omega)
  unfold wpY_compute
  dsimp only
  rw [nI_clamp (show i < 2 ^ 31 by omega)]
  unfold zr_val zr_tgt at h
  refine ⟨hin, nm_e ⟨hin, hin, nm_e ?_⟩⟩
  have d1 : vp_in (fd i) 16 := zr_fd F hi
  rcases zv_nI6 (F i hi).1 with o | o | o | o | o | o
  · rw [if_pos o, if_neg (by rw [o]; decide)] at h
    exact br_t o ⟨hin, hin, nm_e h⟩
  · have a1 : vp_in (fa i) 16 := zr_fa F hi (by rw [o]; decide)
    have b1 : vp_in (fb i) 16 := zr_fb F hi (Or.inl o)
    rw [if_neg (by rw [o]; decide), if_pos o, if_neg (by rw [o]; decide)] at h
    exact br_f (by rw [o]; decide) (br_t o ⟨hin, yr_rd1 a1 ⟨hin, yr_rd1 b1 ⟨hin, nm_e h⟩⟩⟩)
  · have a1 : vp_in (fa i) 16 := zr_fa F hi (by rw [o]; decide)
    have b1 : vp_in (fb i) 16 := zr_fb F hi (Or.inr (Or.inl o))
    rw [if_neg (by rw [o]; decide), if_neg (by rw [o]; decide), if_pos o, if_neg (by rw [o]; decide)] at h
    exact br_f (by rw [o]; decide) (br_f (by rw [o]; decide) (br_t o ⟨hin, yr_rd1 a1 ⟨hin, yr_rd1 b1 ⟨hin, nm_e h⟩⟩⟩))
  · have a1 : vp_in (fa i) 16 := zr_fa F hi (by rw [o]; decide)
    have b1 : vp_in (fb i) 16 := zr_fb F hi (Or.inr (Or.inr o))
    rw [if_neg (by rw [o]; decide), if_neg (by rw [o]; decide), if_neg (by rw [o]; decide), if_pos o, if_neg (by rw [o]; decide)] at h
    exact br_f (by rw [o]; decide) (br_f (by rw [o]; decide) (br_f (by rw [o]; decide) (br_t o ⟨hin, yr_rd1 a1 ⟨hin, yr_rd1 b1 ⟨hin, nm_e h⟩⟩⟩)))
  · have a1 : vp_in (fa i) 16 := zr_fa F hi (by rw [o]; decide)
    rw [if_neg (by rw [o]; decide), if_neg (by rw [o]; decide), if_neg (by rw [o]; decide), if_neg (by rw [o]; decide), if_pos o, if_neg (by rw [o]; decide)] at h
    exact br_f (by rw [o]; decide) (br_f (by rw [o]; decide) (br_f (by rw [o]; decide) (br_f (by rw [o]; decide) (br_t o ⟨hin, yr_rd1 a1 ⟨hin, nm_e (yr_rd1 (zr_adI fa fb mac i) ⟨hin, nm_e h⟩)⟩⟩))))
  · have a1 : vp_in (fa i) 16 := zr_fa F hi (by rw [o]; decide)
    rw [if_neg (by rw [o]; decide), if_neg (by rw [o]; decide), if_neg (by rw [o]; decide), if_neg (by rw [o]; decide), if_neg (by rw [o]; decide), if_pos o] at h
    refine br_f (by rw [o]; decide) (br_f (by rw [o]; decide) (br_f (by rw [o]; decide) (br_f (by rw [o]; decide) (br_f (by rw [o]; decide) ⟨hin, yr_rd1 a1 ⟨hin, nm_e ⟨hin, nm_r zr_uu ⟨hin, yr_rd1 d1 ⟨hin, nm_e h⟩⟩⟩⟩⟩))))
theorem yr_218 {post : Int32 → SY → Prop} (h : post (zr_df seq mac 16) (ml, ll, fn, op, fd, fa, fb, cy, wo, be, pv, pt, ini, seq, mac)) : ∃ m, wY_run_218 post ml ll fn op fd fa fb cy wo be pv pt ini seq mac m 0 0 := by
  have key := loop_0 (fun m l (x : Int32) => wY_run_218 post ml ll fn op fd fa fb cy wo be pv pt ini seq mac m x (nI l)) (fun l x => x = zr_df seq mac l) 16 0 rfl (fun m x I => ?_) (fun m l x hl I ih => ?_)
  · exact key
  · subst I
    exact br_t (nI_le (b := 16) (Nat.le_refl 16) (by decide)) h
  · refine br_f (nI_ge (b := 16) hl (by decide)) ⟨vp_in_nI hl (by omega), vp_in_nI hl (by omega), ?_⟩
    rw [nI_clamp (show l < 2 ^ 31 by omega)]
    have e1 : zr_df seq mac (l + 1) = if seq l = mac l then zr_df seq mac l else zr_df seq mac l + 1 := rfl
    rw [← I] at e1
    by_cases c : seq l = mac l
    · rw [if_pos c] at e1
      exact br_t c (nm_r (nI_1 l) (ih _ e1.symm))
    · rw [if_neg c] at e1
      exact br_f c (nm_e (nm_r (nI_1 l) (ih _ e1.symm)))
theorem yr_159 {post : Int32 → SY → Prop} {J : Int32 → Int32 → Int32 → Int32 → (Nat → Int32) → (Nat → Int32) → (Nat → Int32) → (Nat → Int32) → (Nat → Int32) → (Nat → Int32) → (Nat → Int32) → (Nat → Int32) → (Nat → Int32) → (Nat → Int32) → (Nat → Int32) → (Nat → Int32) → Prop} {n t : Nat} {x1 : Int32} (hn : n ≤ 10) (hp : ∀ i, i < n → ∃ a, a < 16 ∧ pt i = nI a) (h : J (nI (t + 1)) ml ll (nI n) op fd fa fb cy wo be pv pt ini seq (zr_w ml ll op cy pv pt (nI t) mac n)) : ∃ m, wY_run_159 post J x1 (nI t) ml ll (nI n) m 0 op fd fa fb cy wo be pv pt ini seq mac := by
  have key := loop_0 (fun m i (s : Nat → Int32) => wY_run_159 post J x1 (nI t) ml ll (nI n) m (nI i) op fd fa fb cy wo be pv pt ini seq s) (fun i s => s = zr_w ml ll op cy pv pt (nI t) mac i) n mac rfl (fun m s I => ?_) (fun m i s hi I ih => ?_)
  · exact key
  · subst I
    exact br_t (nI_le (Nat.le_refl n) (by omega)) (nm_r (nI_1 t) h)
  · have hin : vp_in (nI i) 10 := vp_in_nI (by omega) (by omega)
    refine br_f (nI_ge hi (by omega)) ⟨hin, yk_lat (by omega) ?_⟩
    rw [nI_clamp (show i < 2 ^ 31 by omega)]
    have e1 : zr_w ml ll op cy pv pt (nI t) mac (i + 1) = if cy i + zv_lat ml ll op i - 1 = nI t then upd (zr_w ml ll op cy pv pt (nI t) mac i) (pt i).toNatClampNeg (pv i) else zr_w ml ll op cy pv pt (nI t) mac i := rfl
    rw [← I] at e1
    by_cases c : cy i + zv_lat ml ll op i - 1 = nI t
    · rw [if_pos c] at e1
      obtain ⟨a, ha, e⟩ := hp i hi
      exact br_t c ⟨hin, hin, by rw [e]; exact vp_in_nI ha (by omega), nm_e (nm_r (nI_1 i) (ih _ e1.symm))⟩
    · rw [if_neg c] at e1
      exact br_f c (nm_r (nI_1 i) (ih _ e1.symm))
theorem yr_127 {post : Int32 → SY → Prop} {J : Int32 → Int32 → Int32 → Int32 → (Nat → Int32) → (Nat → Int32) → (Nat → Int32) → (Nat → Int32) → (Nat → Int32) → (Nat → Int32) → (Nat → Int32) → (Nat → Int32) → (Nat → Int32) → (Nat → Int32) → (Nat → Int32) → (Nat → Int32) → Prop} {n t : Nat} {x1 : Int32} (hn : n ≤ 10) (F : zv_F n op fd fa fb) (hp : ∀ i, i < n → ∃ a, a < 16 ∧ pt i = nI a)
    (h : J (nI (t + 1)) ml ll (nI n) op fd fa fb cy wo be (zr_iv op fd fa fb cy mac (nI t) pv n) (zr_ip op fd fa fb cy mac (nI t) pt n) ini seq (zr_w ml ll op cy (zr_iv op fd fa fb cy mac (nI t) pv n) (zr_ip op fd fa fb cy mac (nI t) pt n) (nI t) mac n)) : ∃ m, wY_run_127 post J x1 (nI t) m 0 ml ll (nI n) op fd fa fb cy wo be pv pt ini seq mac := by
  have key := loop_0 (fun m i (s : (Nat → Int32) × (Nat → Int32)) => wY_run_127 post J x1 (nI t) m (nI i) ml ll (nI n) op fd fa fb cy wo be (s.1) (s.2) ini seq mac) (fun i s => s = (zr_iv op fd fa fb cy mac (nI t) pv i, zr_ip op fd fa fb cy mac (nI t) pt i)) n (pv, pt) rfl (fun m s I => ?_) (fun m i s hi I ih => ?_)
  · exact key
  · subst I
    exact br_t (nI_le (Nat.le_refl n) (by omega)) (yr_159 hn (zr_ipN F hp n (Nat.le_refl n)) h)
  · subst I
    refine br_f (nI_ge hi (by omega)) ⟨vp_in_nI (by omega) (by omega), ?_⟩
    rw [nI_clamp (show i < 2 ^ 31 by omega)]
    have e1 : zr_iv op fd fa fb cy mac (nI t) pv (i + 1) = if cy i = nI t then upd (zr_iv op fd fa fb cy mac (nI t) pv i) i (zr_val op fd fa fb mac i) else zr_iv op fd fa fb cy mac (nI t) pv i := rfl
    have e2 : zr_ip op fd fa fb cy mac (nI t) pt (i + 1) = if cy i = nI t then upd (zr_ip op fd fa fb cy mac (nI t) pt i) i (zr_tgt op fd fa fb mac i) else zr_ip op fd fa fb cy mac (nI t) pt i := rfl
    by_cases c : cy i = nI t
    · rw [if_pos c] at e1 e2
      exact br_t c (yr_cm hn F hi (nm_r (nI_1 i) (ih (upd (zr_iv op fd fa fb cy mac (nI t) pv i) i (zr_val op fd fa fb mac i), upd (zr_ip op fd fa fb cy mac (nI t) pt i) i (zr_tgt op fd fa fb mac i)) (by rw [e1, e2]))))
    · rw [if_neg c] at e1 e2
      exact br_f c (nm_r (nI_1 i) (ih (_, _) (by rw [e1, e2])))
theorem yr_120 {post : Int32 → SY → Prop} {n T : Nat} (hn : n ≤ 10) (F : zv_F n op fd fa fb) (hp : ∀ i, i < n → ∃ a, a < 16 ∧ pt i = nI a) (hT : T ≤ 67)
    (h : ∀ M V P, (M, V, P) = zr_mach ml ll op fd fa fb cy n mac pv pt T → post (zr_df seq M 16) (ml, ll, nI n, op, fd, fa, fb, cy, wo, be, V, P, ini, seq, M)) : ∃ m, wY_run_120 post (nI T) m 0 ml ll (nI n) op fd fa fb cy wo be pv pt ini seq mac := by
  have key := loop_0 (fun m t (s : (Nat → Int32) × (Nat → Int32) × (Nat → Int32)) => wY_run_120 post (nI T) m (nI t) ml ll (nI n) op fd fa fb cy wo be (s.2.1) (s.2.2) ini seq (s.1)) (fun t s => s = zr_mach ml ll op fd fa fb cy n mac pv pt t) T (mac, pv, pt) rfl (fun m s I => ?_) (fun m t s ht I ih => ?_)
  · exact key
  · exact br_t (nI_le (Nat.le_refl T) (by omega)) (yr_218 (h s.1 s.2.1 s.2.2 I))
  · have hN := zr_machN (ml := ml) (ll := ll) (cy := cy) (st := mac) (pv := pv) F hp t
    have e0 : zr_mach ml ll op fd fa fb cy n mac pv pt (t + 1) = (zr_w ml ll op cy (zr_iv op fd fa fb cy s.1 (nI t) s.2.1 n) (zr_ip op fd fa fb cy s.1 (nI t) s.2.2 n) (nI t) s.1 n, zr_iv op fd fa fb cy s.1 (nI t) s.2.1 n, zr_ip op fd fa fb cy s.1 (nI t) s.2.2 n) := by rw [I]; rfl
    rw [← I] at hN
    exact br_f (nI_ge ht (by omega)) (yr_127 hn F hN (ih (_, _, _) e0.symm))
theorem yr_76 {post : Int32 → SY → Prop} {n T : Nat} (hn : n ≤ 10) (F : zv_F n op fd fa fb) (hT : T ≤ 67) (eT : zr_len ml ll op cy n = nI T)
    (h : ∀ S M V P, S = zr_seq op fd fa fb seq n → (M, V, P) = zr_mach ml ll op fd fa fb cy n mac (zr_sv op fd fa fb seq pv n) (zr_sp op fd fa fb seq pt n) T → post (zr_df S M 16) (ml, ll, nI n, op, fd, fa, fb, cy, wo, be, V, P, ini, S, M)) : ∃ m, wY_run_76 post m 0 ml ll (nI n) op fd fa fb cy wo be pv pt ini seq mac := by
  have key := loop_0 (fun m i (s : (Nat → Int32) × (Nat → Int32) × (Nat → Int32)) => wY_run_76 post m (nI i) ml ll (nI n) op fd fa fb cy wo be (s.2.1) (s.2.2) ini (s.1) mac) (fun i s => s = (zr_seq op fd fa fb seq i, zr_sv op fd fa fb seq pv i, zr_sp op fd fa fb seq pt i)) n (seq, pv, pt) rfl (fun m s I => ?_) (fun m i s hi I ih => ?_)
  · exact key
  · subst I
    refine br_t (nI_le (Nat.le_refl n) (by omega)) (yc_len hn ?_)
    rw [eT]
    exact yr_120 hn F (zr_spN F n (Nat.le_refl n)) hT (fun M V P e => h _ M V P rfl e)
  · subst I
    have hin : vp_in (nI i) 10 := vp_in_nI (by omega) (by omega)
    refine br_f (nI_ge hi (by omega)) (yr_cs hn F hi ⟨hin, hin, ?_⟩)
    rw [nI_clamp (show i < 2 ^ 31 by omega), pk_us, pk_us]
    obtain ⟨a, ha, e⟩ := zr_tgtN F (zr_seq op fd fa fb seq i) hi
    exact ⟨by rw [e]; exact vp_in_nI ha (by omega), nm_e (nm_r (nI_1 i) (ih _ rfl))⟩
theorem yr_run {post : Int32 → SY → Prop} {n : Nat} (hn : n ≤ 10) (F : zv_F n op fd fa fb) (L1 : zv_L ml) (L2 : zv_L ll) (K : zc_K n cy)
    (h0 : n = 0 ∨ zc_U n cy → post (-1) (ml, ll, nI n, op, fd, fa, fb, cy, wo, be, pv, pt, ini, seq, mac))
    (h1 : ¬ n = 0 → ¬ zc_U n cy → ∀ T, T ≤ 67 → zr_len ml ll op cy n = nI T → ∀ S M V P, S = zr_seq op fd fa fb (zr_fill ini seq 16) n → (M, V, P) = zr_mach ml ll op fd fa fb cy n (zr_fill ini mac 16) (zr_sv op fd fa fb (zr_fill ini seq 16) pv n) (zr_sp op fd fa fb (zr_fill ini seq 16) pt n) T → post (zr_df S M 16) (ml, ll, nI n, op, fd, fa, fb, cy, wo, be, V, P, ini, S, M)) : wpY_run post (ml, ll, nI n, op, fd, fa, fb, cy, wo, be, pv, pt, ini, seq, mac) := by
  unfold wpY_run
  dsimp only
  refine pk_eq n 0 (fun e => h0 (Or.inl e)) (fun e => ?_)
  have key := loop_0 (fun m i (_ : Unit) => wY_run_11 post ml ll (nI n) op fd fa fb cy wo be pv pt ini seq mac m (nI i)) (fun i _ => ∀ j, j < i → cy j ≠ -1) n () (fun j hj => absurd hj (Nat.not_lt_zero j)) (fun m _ I => ?_) (fun m i _ hi I ih => ?_)
  · exact key
  · have a : ¬ zc_U n cy := fun ⟨j, hj, e⟩ => I j hj e
    obtain ⟨T, hT, eT⟩ := zr_lenN (op := op) L1 L2 K a n (Nat.le_refl n)
    refine br_t (nI_le (Nat.le_refl n) (by omega)) ?_
    have key2 := loop_0 (fun m i (s : (Nat → Int32) × (Nat → Int32)) => wY_run_38 post ml ll (nI n) m (nI i) op fd fa fb cy wo be pv pt ini (s.1) (s.2)) (fun i s => s = (zr_fill ini seq i, zr_fill ini mac i)) 16 (seq, mac) rfl (fun m s I => ?_) (fun m i s hi I ih => ?_)
    · exact key2
    · subst I
      exact br_t (nI_le (b := 16) (Nat.le_refl 16) (by decide)) (yr_76 hn F hT eT (fun S M V P => h1 e a T hT eT S M V P))
    · subst I
      have hin : vp_in (nI i) 16 := vp_in_nI hi (by omega)
      refine br_f (nI_ge (b := 16) hi (by decide)) ⟨hin, hin, nm_e ⟨hin, hin, nm_e (nm_r (nI_1 i) ?_)⟩⟩
      rw [nI_clamp (show i < 2 ^ 31 by omega)]
      exact ih (upd (zr_fill ini seq i) i (ini i), upd (zr_fill ini mac i) i (ini i)) rfl
  · refine br_f (nI_ge hi (by omega)) ⟨vp_in_nI (by omega) (by omega), ?_⟩
    rw [nI_clamp (show i < 2 ^ 31 by omega)]
    by_cases c : cy i = -1
    · exact br_f (fun z => (zc_neg K hi).mp z c) (h0 (Or.inr ⟨i, hi, c⟩))
    · exact br_t ((zc_neg K hi).mpr c) (nm_r (nI_1 i) (ih () (lt_s I c)))
end
theorem i_vc_run {k : Nat} {u : SX} {v : SY} (I : i_Rel k u v) (hk : k + 5 ≤ 2562) : wpX_run (fun r u' => wpY_run (fun r' v' => r' = r ∧ i_Rel (k + 5) u' v') v) u := by
  have R : i_Rel (k + 5) u v := i_up I
  obtain ⟨n, ml, ll, op, fd, fa, fb, uo, cy, ini, seq, mac, pv, pt, wa, tr, ea, la, pl, ri, wo, be, rfl, rfl, hn, L1, L2, F, U, K⟩ := I
  refine xr_run hn F L1 L2 K (fun a => ?_) (fun a b T hT eT S M V P eS eM => ?_)
  · exact yr_run hn F L1 L2 K (fun _ => ⟨rfl, R⟩) (fun a' b' => absurd a (fun z => z.elim a' b'))
  · refine yr_run hn F L1 L2 K (fun z => absurd z (fun z => z.elim a b)) (fun _ _ T' hT' eT' S' M' V' P' eS' eM' => ?_)
    have e : T' = T := (nI_eq (by omega) (by omega)).mp (eT'.symm.trans eT)
    subst e
    have e1 : S' = S := eS'.trans eS.symm
    have e2 : (M', V', P') = (M, V, P) := eM'.trans eM.symm
    cases e1
    cases e2
    exact ⟨rfl, n, ml, ll, op, fd, fa, fb, uo, cy, ini, S, M, V, P, wa, tr, ea, la, pl, ri, wo, be, rfl, rfl, hn, L1, L2, F, U, K⟩
