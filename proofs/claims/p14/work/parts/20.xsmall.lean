/-! the component's small methods -/
section
variable {ml ll fn : Int32} {op fd fa fb uo cy ini seq mac pv pt wa tr ea la pl ri : Nat → Int32}
theorem xk_lat {post : Int32 → Prop} {i : Nat} (hi : i < 10) (h : post (zv_lat ml ll op i)) : wpX_latencyOf post (ml, ll, fn, op, fd, fa, fb, uo, cy, ini, seq, mac, pv, pt, wa, tr, ea, la, pl, ri) (nI i) := by
  have hin : vp_in (nI i) 10 := vp_in_nI hi (by omega)
  unfold wpX_latencyOf
  dsimp only
  rw [nI_clamp (show i < 2 ^ 31 by omega)]
  unfold zv_lat at h
  by_cases h4 : op i = 4
  · rw [if_pos h4] at h; exact ⟨hin, br_t h4 h⟩
  · rw [if_neg h4] at h
    by_cases h5 : op i = 5
    · rw [if_pos h5] at h; exact ⟨hin, br_f h4 ⟨hin, br_t h5 h⟩⟩
    · rw [if_neg h5] at h; exact ⟨hin, br_f h4 ⟨hin, br_f h5 h⟩⟩
theorem xk_rd {post : Int32 → Prop} {i : Nat} (hi : i < 10) (h : post (zv_rm op fd fa fb i)) : wpX_readsOf post (ml, ll, fn, op, fd, fa, fb, uo, cy, ini, seq, mac, pv, pt, wa, tr, ea, la, pl, ri) (nI i) := by
  have hin : vp_in (nI i) 10 := vp_in_nI hi (by omega)
  unfold wpX_readsOf
  dsimp only
  rw [nI_clamp (show i < 2 ^ 31 by omega)]
  unfold zv_rm zv_m at h
  refine ⟨hin, nm_e ?_⟩
  by_cases h1 : op i = 1
  · rw [if_pos h1] at h; exact br_t h1 h
  · rw [if_neg h1] at h
    refine br_f h1 ?_
    by_cases h5 : op i = 5
    · rw [if_pos h5] at h; exact br_t h5 ⟨hin, h⟩
    · rw [if_neg h5] at h
      refine br_f h5 ?_
      by_cases h6 : op i = 6
      · rw [if_pos h6] at h; exact br_t h6 ⟨hin, hin, h⟩
      · rw [if_neg h6] at h; exact br_f h6 ⟨hin, hin, h⟩
theorem xk_wr {post : Int32 → Prop} {i : Nat} (hi : i < 10) (h : post (zv_wm op fd i)) : wpX_writesOf post (ml, ll, fn, op, fd, fa, fb, uo, cy, ini, seq, mac, pv, pt, wa, tr, ea, la, pl, ri) (nI i) := by
  have hin : vp_in (nI i) 10 := vp_in_nI hi (by omega)
  unfold wpX_writesOf
  dsimp only
  rw [nI_clamp (show i < 2 ^ 31 by omega)]
  unfold zv_wm zv_m at h
  by_cases h6 : op i = 6
  · rw [if_pos h6] at h; exact ⟨hin, br_t h6 h⟩
  · rw [if_neg h6] at h; exact ⟨hin, br_f h6 ⟨hin, h⟩⟩
theorem xk_99 {post : Int32 → Prop} {n i j : Nat} {x7 : Int32} (hn : n ≤ 10) (F : zv_F n op fd fa fb) (hi : i < n) (hj : j < n) (h1 : zv_O op fd i j → post (x7 ||| 4)) (h0 : ¬ zv_O op fd i j → post x7) : wX_kindsOfPair_99 post (nI i) (nI j) (zv_wm op fd i) (zv_wm op fd j) x7 ml ll fn op fd fa fb uo cy ini seq mac pv pt wa tr ea la pl ri := by
  have t := zm_O F hi hj
  unfold wX_kindsOfPair_99
  rw [nI_clamp (show i < 2 ^ 31 by omega), nI_clamp (show j < 2 ^ 31 by omega)]
  by_cases a : zv_wm op fd i &&& zv_wm op fd j = 0
  · refine br_t a ⟨vp_in_nI (by omega) (by omega), ?_⟩
    by_cases b : op i = 6
    · refine br_t b ⟨vp_in_nI (by omega) (by omega), ?_⟩
      by_cases c : op j = 6
      · exact br_t c (nm_e (h1 (t.mp (Or.inr ⟨b, c⟩))))
      · exact br_f c (h0 (fun z => (t.mpr z).elim (fun y => y a) (fun y => c y.2)))
    · exact br_f b (h0 (fun z => (t.mpr z).elim (fun y => y a) (fun y => b y.1)))
  · exact br_f a (nm_e (h1 (t.mp (Or.inl a))))
theorem xk_65 {post : Int32 → Prop} {n i j : Nat} {x7 : Int32} (hn : n ≤ 10) (F : zv_F n op fd fa fb) (hi : i < n) (hj : j < n)
    (h11 : zv_A op fd fa fb i j → zv_O op fd i j → post (x7 ||| 2 ||| 4)) (h10 : zv_A op fd fa fb i j → ¬ zv_O op fd i j → post (x7 ||| 2)) (h01 : ¬ zv_A op fd fa fb i j → zv_O op fd i j → post (x7 ||| 4)) (h00 : ¬ zv_A op fd fa fb i j → ¬ zv_O op fd i j → post x7) :
    wX_kindsOfPair_65 post (nI i) (nI j) (zv_rm op fd fa fb i) (zv_wm op fd i) (zv_wm op fd j) x7 ml ll fn op fd fa fb uo cy ini seq mac pv pt wa tr ea la pl ri := by
  have t := zm_A F hi hj
  have Y : zv_A op fd fa fb i j → wX_kindsOfPair_93 post (nI i) (nI j) (zv_wm op fd i) (zv_wm op fd j) x7 ml ll fn op fd fa fb uo cy ini seq mac pv pt wa tr ea la pl ri := fun z => nm_e (xk_99 hn F hi hj (h11 z) (h10 z))
  have N : ¬ zv_A op fd fa fb i j → wX_kindsOfPair_99 post (nI i) (nI j) (zv_wm op fd i) (zv_wm op fd j) x7 ml ll fn op fd fa fb uo cy ini seq mac pv pt wa tr ea la pl ri := fun z => xk_99 hn F hi hj (h01 z) (h00 z)
  unfold wX_kindsOfPair_65
  rw [nI_clamp (show i < 2 ^ 31 by omega), nI_clamp (show j < 2 ^ 31 by omega)]
  by_cases a : zv_rm op fd fa fb i &&& zv_wm op fd j = 0
  · refine br_t a ⟨vp_in_nI (by omega) (by omega), ?_⟩
    by_cases b : op i = 5
    · refine br_t b ⟨vp_in_nI (by omega) (by omega), ?_⟩
      by_cases c : op j = 6
      · exact br_t c (Y (t.mp (Or.inr ⟨b, c⟩)))
      · exact br_f c (N (fun z => (t.mpr z).elim (fun y => y a) (fun y => c y.2)))
    · exact br_f b (N (fun z => (t.mpr z).elim (fun y => y a) (fun y => b y.1)))
  · exact br_f a (Y (t.mp (Or.inl a)))
theorem xk_kinds {post : Int32 → Prop} {n i j : Nat} (hn : n ≤ 10) (F : zv_F n op fd fa fb) (hi : i < n) (hj : j < n) (h : post (zv_k op fd fa fb i j)) : wpX_kindsOfPair post (ml, ll, fn, op, fd, fa, fb, uo, cy, ini, seq, mac, pv, pt, wa, tr, ea, la, pl, ri) (nI i) (nI j) := by
  have t := zm_T F hi hj
  have Y : zv_T op fd fa fb i j → wX_kindsOfPair_59 post (nI i) (nI j) (zv_rm op fd fa fb i) (zv_wm op fd i) (zv_wm op fd j) 0 ml ll fn op fd fa fb uo cy ini seq mac pv pt wa tr ea la pl ri := fun z => by
    unfold zv_k at h
    rw [zv_bt z] at h
    refine nm_e (xk_65 hn F hi hj (fun a b => ?_) (fun a b => ?_) (fun a b => ?_) (fun a b => ?_))
    · rw [zv_bt a, zv_bt b] at h; exact h
    · rw [zv_bt a, zv_bf b] at h; exact h
    · rw [zv_bf a, zv_bt b] at h; exact h
    · rw [zv_bf a, zv_bf b] at h; exact h
  have N : ¬ zv_T op fd fa fb i j → wX_kindsOfPair_65 post (nI i) (nI j) (zv_rm op fd fa fb i) (zv_wm op fd i) (zv_wm op fd j) 0 ml ll fn op fd fa fb uo cy ini seq mac pv pt wa tr ea la pl ri := fun z => by
    unfold zv_k at h
    rw [zv_bf z] at h
    refine xk_65 hn F hi hj (fun a b => ?_) (fun a b => ?_) (fun a b => ?_) (fun a b => ?_)
    · rw [zv_bt a, zv_bt b] at h; exact h
    · rw [zv_bt a, zv_bf b] at h; exact h
    · rw [zv_bf a, zv_bt b] at h; exact h
    · rw [zv_bf a, zv_bf b] at h; exact h
  unfold wpX_kindsOfPair
  dsimp only
  refine xk_rd (by omega) (xk_rd (by omega) (xk_wr (by omega) (xk_wr (by omega) ?_)))
  rw [nI_clamp (show i < 2 ^ 31 by omega), nI_clamp (show j < 2 ^ 31 by omega)]
  by_cases a : zv_wm op fd i &&& zv_rm op fd fa fb j = 0
  · refine br_t a ⟨vp_in_nI (by omega) (by omega), ?_⟩
    by_cases b : op i = 6
    · refine br_t b ⟨vp_in_nI (by omega) (by omega), ?_⟩
      by_cases c : op j = 5
      · exact br_t c (Y (t.mp (Or.inr ⟨b, c⟩)))
      · exact br_f c (N (fun z => (t.mpr z).elim (fun y => y a) (fun y => c y.2)))
    · exact br_f b (N (fun z => (t.mpr z).elim (fun y => y a) (fun y => b y.1)))
  · exact br_f a (Y (t.mp (Or.inl a)))
theorem xk_56 {post : Int32 → Prop} {k a g : Int32} (h : post (if k &&& 1 = 0 then g else if a ≤ g then g else a)) : wX_delayOfPair_56 post k a g ml ll fn op fd fa fb uo cy ini seq mac pv pt wa tr ea la pl ri := by
  unfold wX_delayOfPair_56
  by_cases c : k &&& 1 = 0
  · rw [if_pos c] at h; exact br_t c h
  · rw [if_neg c] at h
    refine br_f c ?_
    by_cases d : a ≤ g
    · rw [if_pos d] at h; exact br_t d h
    · rw [if_neg d] at h; exact br_f d h
theorem xk_delay {post : Int32 → Prop} {n i j : Nat} (hn : n ≤ 10) (F : zv_F n op fd fa fb) (L1 : zv_L ml) (L2 : zv_L ll) (hi : i < n) (hj : j < n) (h : post (zv_dl ml ll op fd fa fb i j)) : wpX_delayOfPair post (ml, ll, fn, op, fd, fa, fb, uo, cy, ini, seq, mac, pv, pt, wa, tr, ea, la, pl, ri) (nI i) (nI j) := by
  rw [← zv_dlX L1 L2] at h
  unfold wpX_delayOfPair
  dsimp only
  refine xk_kinds hn F hi hj ?_
  unfold zv_dX at h
  by_cases c : zv_k op fd fa fb i j = 0
  · rw [if_pos c] at h; exact br_t c h
  · rw [if_neg c] at h
    refine br_f c (xk_lat (by omega) (xk_lat (by omega) ?_))
    by_cases d : zv_k op fd fa fb i j &&& 4 = 0
    · rw [if_pos d] at h; exact br_t d (xk_56 h)
    · rw [if_neg d] at h
      refine br_f d ?_
      by_cases e : zv_lat ml ll op i ≤ zv_lat ml ll op j
      · rw [if_pos e] at h; exact br_t e (xk_56 h)
      · rw [if_neg e] at h; exact br_f e (xk_56 h)
theorem xk_share {post : Int32 → Prop} {i j : Nat} (hi : i < 10) (hj : j < 10) (h1 : uo i = uo j ∧ uo i ≠ 0 → post 1) (h0 : ¬ (uo i = uo j ∧ uo i ≠ 0) → post 0) : wpX_shareUnit post (ml, ll, fn, op, fd, fa, fb, uo, cy, ini, seq, mac, pv, pt, wa, tr, ea, la, pl, ri) (nI i) (nI j) := by
  unfold wpX_shareUnit
  dsimp only
  rw [nI_clamp (show i < 2 ^ 31 by omega), nI_clamp (show j < 2 ^ 31 by omega)]
  refine ⟨vp_in_nI hi (by omega), ?_⟩
  by_cases a : uo i = 0
  · exact br_t a (h0 fun z => z.2 a)
  · refine br_f a ⟨vp_in_nI hi (by omega), vp_in_nI hj (by omega), ?_⟩
    by_cases b : uo i = uo j
    · exact br_t b (h1 ⟨b, a⟩)
    · exact br_f b (h0 fun z => b z.1)
theorem xk_uses {post : Int32 → Prop} {i u : Nat} {un : Nat → Nat} (hi : i < 10) (hu : u ≤ 2) (e : uo i = nI (un i)) (e2 : un i ≤ 2) (h1 : qn_us un u i → post 1) (h0 : ¬ qn_us un u i → post 0) : wpX_uses post (ml, ll, fn, op, fd, fa, fb, uo, cy, ini, seq, mac, pv, pt, wa, tr, ea, la, pl, ri) (nI i) (nI u) := by
  unfold wpX_uses
  dsimp only
  rw [nI_clamp (show i < 2 ^ 31 by omega), e]
  refine pk_eq u 0 (fun a => h1 (Or.inl a)) (fun a => ⟨vp_in_nI hi (by omega), ?_⟩)
  exact pk_eq (un i) u (fun b => h1 (Or.inr b)) (fun b => h0 fun z => z.elim a b)
theorem xk_cap {post : Int32 → Prop} {u : Nat} (hu : u ≤ 2) (h : post (nI (if u = 0 then 2 else 1))) : wpX_capacityOf post () (nI u) := by
  unfold wpX_capacityOf
  by_cases a : u = 0
  · rw [if_pos a] at h; subst a; exact br_t rfl h
  · rw [if_neg a] at h
    exact br_f (fun z => a ((nI_eq (b := 0) (by omega) (by omega)).mp z)) h
end
