/-- a cycle kept: unset, or 0 to 63 -/
def zc_K (n : Nat) (cy : Nat → Int32) : Prop := ∀ i, i < n → cy i = -1 ∨ ∃ c, c ≤ 63 ∧ cy i = nI c
/-- the relation: one block, one set of cycles, one set of results; scratch is free -/
def i_Rel (_ : Nat) (u : SX) (v : SY) : Prop :=
  ∃ (n : Nat) (ml ll : Int32) (op fd fa fb uo cy ini seq mac pv pt wa tr ea la pl ri wo be : Nat → Int32),
    u = (ml, ll, nI n, op, fd, fa, fb, uo, cy, ini, seq, mac, pv, pt, wa, tr, ea, la, pl, ri) ∧ v = (ml, ll, nI n, op, fd, fa, fb, cy, wo, be, pv, pt, ini, seq, mac) ∧ n ≤ 10 ∧ zv_L ml ∧ zv_L ll ∧ zv_F n op fd fa fb ∧ (∀ i, i < n → uo i = nI (zv_un (op i))) ∧ zc_K n cy
theorem i_up {k : Nat} {u : SX} {v : SY} (h : i_Rel k u v) : i_Rel (k + 5) u v := h
theorem zl_cl {x : Int32} (h1 : 1 ≤ x) (h4 : x ≤ 4) : zv_L x := by
  obtain ⟨a, ha, rfl⟩ := nI_of2 (x := x) (M := 4) (n := 4) (by decide) (fun z => by
    rw [Int32.lt_iff_toInt_lt] at z
    rw [Int32.le_iff_toInt_le] at h1
    have e1 : (1 : Int32).toInt = 1 := by decide
    have e0 : (0 : Int32).toInt = 0 := by decide
    omega) h4
  refine ⟨a, ?_, ha, rfl⟩
  exact (nI_leI (a := 1) (by omega) (by omega)).mp h1
def zl_c (x : Int32) : Int32 := if 1 ≤ x then (if x ≤ 4 then x else 4) else 1
theorem zl_L (x : Int32) : zv_L (zl_c x) := by
  unfold zl_c
  split
  · next h =>
    split
    · next h' => exact zl_cl h h'
    · exact ⟨4, by decide, by decide, rfl⟩
  · exact ⟨1, by decide, by decide, rfl⟩
theorem zl_X {post : Int32 → Prop} {x : Int32} (h : post (zl_c x)) : wpX_clampLatency post x := by
  unfold wpX_clampLatency
  unfold zl_c at h
  by_cases a : 1 ≤ x
  · rw [if_pos a] at h
    refine br_t a ?_
    by_cases b : x ≤ 4
    · rw [if_pos b] at h; exact br_t b h
    · rw [if_neg b] at h; exact br_f b h
  · rw [if_neg a] at h; exact br_f a h
theorem zl_Y2 {post : SY → Prop} {x z : Int32} (h : post (z, zl_c x, 0, (fun _ => 0), (fun _ => 0), (fun _ => 0), (fun _ => 0), (fun _ => 0), (fun _ => 0), (fun _ => 0), (fun _ => 0), (fun _ => 0), (fun _ => 0), (fun _ => 0), (fun _ => 0))) : wY_init_120 post x z 0 0 0 (fun _ => 0) (fun _ => 0) (fun _ => 0) (fun _ => 0) (fun _ => 0) (fun _ => 0) (fun _ => 0) (fun _ => 0) (fun _ => 0) (fun _ => 0) (fun _ => 0) (fun _ => 0) := by
  unfold wY_init_120
  unfold zl_c at h
  by_cases a : 1 ≤ x
  · rw [if_pos a] at h
    refine br_t a ?_
    by_cases b : x ≤ 4
    · rw [if_pos b] at h; exact br_t b h
    · rw [if_neg b] at h; exact br_f b h
  · rw [if_neg a] at h; exact br_f a h
theorem zl_Y {post : SY → Prop} {x y : Int32} (h : post (zl_c x, zl_c y, 0, (fun _ => 0), (fun _ => 0), (fun _ => 0), (fun _ => 0), (fun _ => 0), (fun _ => 0), (fun _ => 0), (fun _ => 0), (fun _ => 0), (fun _ => 0), (fun _ => 0), (fun _ => 0))) : wpY_init post x y := by
  unfold wpY_init
  by_cases a : 1 ≤ x
  · refine br_t a ?_
    by_cases b : x ≤ 4
    · have e : zl_c x = x := by unfold zl_c; rw [if_pos a, if_pos b]
      rw [e] at h; exact br_t b (zl_Y2 h)
    · have e : zl_c x = 4 := by unfold zl_c; rw [if_pos a, if_neg b]
      rw [e] at h; exact br_f b (zl_Y2 h)
  · have e : zl_c x = 1 := by unfold zl_c; rw [if_neg a]
    rw [e] at h; exact br_f a (zl_Y2 h)
theorem i_vc0 (k0 : Int32) (k1 : Int32) : wpX_init (fun u => wpY_init (fun v => i_Rel 2 u v) k0 k1) k0 k1 := by
  unfold wpX_init
  refine zl_X (zl_X (zl_Y ?_))
  exact ⟨0, _, _, _, _, _, _, _, _, _, _, _, _, _, _, _, _, _, _, _, _, _, rfl, rfl, by decide, zl_L k0, zl_L k1, fun i h => absurd h (Nat.not_lt_zero i), fun i h => absurd h (Nat.not_lt_zero i), fun i h => absurd h (Nat.not_lt_zero i)⟩
theorem i_vc_clear {k : Nat} {u : SX} {v : SY} (I : i_Rel k u v) (hk : k + 5 ≤ 2562) : wpX_clear (fun u' => wpY_clear (fun v' => i_Rel (k + 5) u' v') v) u := by
  obtain ⟨n, ml, ll, op, fd, fa, fb, uo, cy, ini, seq, mac, pv, pt, wa, tr, ea, la, pl, ri, wo, be, rfl, rfl, hn, L1, L2, F, U, K⟩ := I
  exact ⟨0, _, _, _, _, _, _, _, _, _, _, _, _, _, _, _, _, _, _, _, _, _, rfl, rfl, by decide, L1, L2, fun i h => absurd h (Nat.not_lt_zero i), fun i h => absurd h (Nat.not_lt_zero i), fun i h => absurd h (Nat.not_lt_zero i)⟩
/-- a location, or not -/
theorem zl_loc {post : Int32 → Prop} {x : Int32} (h0 : (x < 0 ∨ nI 16 ≤ x) → post 0) (h1 : ∀ j, j < 16 → x = nI j → post 1) : wpX_isLocation post x := by
  rcases pk_ix x (n := 16) (by decide) with a | a | ⟨j, hj, e⟩
  · exact br_t a (h0 (Or.inl a))
  · by_cases b : x < 0
    · exact br_t b (h0 (Or.inl b))
    · exact br_f b (br_t a (h0 (Or.inr a)))
  · subst e
    exact br_f (nI_pos (by omega)) (br_f (nI_ge (b := 16) hj (by decide)) (h1 j hj rfl))
theorem zl_15 {x : Int32} (h : nI 16 ≤ x) : ¬ x < 0 ∧ ¬ x ≤ 15 := by
  have e16 : (nI 16).toInt = 16 := by decide
  have e0 : (0 : Int32).toInt = 0 := by decide
  have e15 : (15 : Int32).toInt = 15 := by decide
  rw [Int32.le_iff_toInt_le] at h
  rw [Int32.lt_iff_toInt_lt, Int32.le_iff_toInt_le]
  omega
theorem i_vc_setInit {k : Nat} {u : SX} {v : SY} (I : i_Rel k u v) (hk : k + 5 ≤ 2562) (v1 : Int32) (v2 : Int32) : wpX_setInit (fun r u' => wpY_setInit (fun r' v' => r' = r ∧ i_Rel (k + 5) u' v') v v1 v2) u v1 v2 := by
  obtain ⟨n, ml, ll, op, fd, fa, fb, uo, cy, ini, seq, mac, pv, pt, wa, tr, ea, la, pl, ri, wo, be, rfl, rfl, hn, L1, L2, F, U, K⟩ := I
  unfold wpX_setInit
  dsimp only
  refine zl_loc (fun a => br_t rfl ?_) (fun j hj e => br_f (by decide) ?_)
  · have R : i_Rel (k + 5) (ml, ll, nI n, op, fd, fa, fb, uo, cy, ini, seq, mac, pv, pt, wa, tr, ea, la, pl, ri) (ml, ll, nI n, op, fd, fa, fb, cy, wo, be, pv, pt, ini, seq, mac) := ⟨n, ml, ll, op, fd, fa, fb, uo, cy, ini, seq, mac, pv, pt, wa, tr, ea, la, pl, ri, wo, be, rfl, rfl, hn, L1, L2, F, U, K⟩
    rcases a with a | a
    · exact br_t a ⟨rfl, R⟩
    · exact br_f (zl_15 a).1 (br_f (zl_15 a).2 ⟨rfl, R⟩)
  · subst e
    have hin : vp_in (nI j) 16 := vp_in_nI hj (by omega)
    refine ⟨hin, nm_e (br_f (nI_pos (by omega)) (br_t (nI_le (b := 15) (by omega) (by decide)) ⟨hin, nm_e ⟨rfl, ?_⟩⟩))⟩
    exact ⟨n, ml, ll, op, fd, fa, fb, uo, cy, _, seq, mac, pv, pt, wa, tr, ea, la, pl, ri, wo, be, rfl, rfl, hn, L1, L2, F, U, K⟩
theorem i_vc_seqValue {k : Nat} {u : SX} {v : SY} (I : i_Rel k u v) (hk : k + 5 ≤ 2562) (v1 : Int32) : wpX_seqValue (fun r => wpY_seqValue (fun r' => r' = r ∧ i_Rel (k + 5) u v) v v1) u v1 := by
  have R : i_Rel (k + 5) u v := i_up I
  obtain ⟨n, ml, ll, op, fd, fa, fb, uo, cy, ini, seq, mac, pv, pt, wa, tr, ea, la, pl, ri, wo, be, rfl, rfl, hn, L1, L2, F, U, K⟩ := I
  unfold wpX_seqValue
  dsimp only
  refine zl_loc (fun a => br_t rfl ?_) (fun j hj e => br_f (by decide) ?_)
  · rcases a with a | a
    · exact br_t a ⟨rfl, R⟩
    · exact br_f (zl_15 a).1 (br_f (zl_15 a).2 ⟨rfl, R⟩)
  · subst e
    have hin : vp_in (nI j) 16 := vp_in_nI hj (by omega)
    exact ⟨hin, br_f (nI_pos (by omega)) (br_t (nI_le (b := 15) (by omega) (by decide)) ⟨hin, rfl, R⟩)⟩
theorem i_vc_machValue {k : Nat} {u : SX} {v : SY} (I : i_Rel k u v) (hk : k + 5 ≤ 2562) (v1 : Int32) : wpX_machValue (fun r => wpY_machValue (fun r' => r' = r ∧ i_Rel (k + 5) u v) v v1) u v1 := by
  have R : i_Rel (k + 5) u v := i_up I
  obtain ⟨n, ml, ll, op, fd, fa, fb, uo, cy, ini, seq, mac, pv, pt, wa, tr, ea, la, pl, ri, wo, be, rfl, rfl, hn, L1, L2, F, U, K⟩ := I
  unfold wpX_machValue
  dsimp only
  refine zl_loc (fun a => br_t rfl ?_) (fun j hj e => br_f (by decide) ?_)
  · rcases a with a | a
    · exact br_t a ⟨rfl, R⟩
    · exact br_f (zl_15 a).1 (br_f (zl_15 a).2 ⟨rfl, R⟩)
  · subst e
    have hin : vp_in (nI j) 16 := vp_in_nI hj (by omega)
    exact ⟨hin, br_f (nI_pos (by omega)) (br_t (nI_le (b := 15) (by omega) (by decide)) ⟨hin, rfl, R⟩)⟩
section
variable {ml ll fn : Int32} {op fd fa fb uo cy ini seq mac pv pt wa tr ea la pl ri : Nat → Int32}
/-- an instruction's number, or not -/
theorem zl_ins {post : Int32 → Prop} {n : Nat} {x : Int32} (hn : n ≤ 10) (hneg : x < 0 → post 0) (hbig : ¬ x < 0 → nI n ≤ x → post 0) (h1 : ∀ j, j < n → x = nI j → post 1) : wpX_isInstr post (ml, ll, nI n, op, fd, fa, fb, uo, cy, ini, seq, mac, pv, pt, wa, tr, ea, la, pl, ri) x := by
  unfold wpX_isInstr
  dsimp only
  by_cases b : x < 0
  · exact br_t b (hneg b)
  · refine br_f b ?_
    by_cases c : nI n ≤ x
    · exact br_t c (hbig b c)
    · rcases pk_ix x (n := n) (by omega) with a | a | ⟨j, hj, e⟩
      · exact absurd a b
      · exact absurd a c
      · exact br_f c (h1 j hj e)
theorem zl_pair {post : Int32 → Prop} {n : Nat} {x y : Int32} (hn : n ≤ 10) (hneg : x < 0 → post 0) (hle : ¬ x < 0 → y ≤ x → post 0) (hbig : ¬ x < 0 → ¬ y ≤ x → nI n ≤ y → post 0) (h1 : ∀ i j, i < j → j < n → x = nI i → y = nI j → post 1) : wpX_isPair post (ml, ll, nI n, op, fd, fa, fb, uo, cy, ini, seq, mac, pv, pt, wa, tr, ea, la, pl, ri) x y := by
  unfold wpX_isPair
  dsimp only
  by_cases b : x < 0
  · exact br_t b (hneg b)
  · refine br_f b ?_
    by_cases c : y ≤ x
    · exact br_t c (hle b c)
    · refine br_f c ?_
      by_cases d : nI n ≤ y
      · exact br_t d (hbig b c d)
      · refine br_f d ?_
        obtain ⟨i, hi, rfl⟩ := nI_of b
        have hy : ¬ y < 0 := fun z => c (Int32.le_trans (Int32.le_of_lt z) (nI_pos' hi))
        obtain ⟨j, hj, rfl⟩ := nI_of hy
        rw [nI_leI hj hi] at c
        rw [nI_leI (by omega) hj] at d
        exact h1 i j (by omega) (by omega) rfl rfl
end
theorem i_vc_cycleOf {k : Nat} {u : SX} {v : SY} (I : i_Rel k u v) (hk : k + 5 ≤ 2562) (v1 : Int32) : wpX_cycleOf (fun r => wpY_cycleOf (fun r' => r' = r ∧ i_Rel (k + 5) u v) v v1) u v1 := by
  have R : i_Rel (k + 5) u v := i_up I
  obtain ⟨n, ml, ll, op, fd, fa, fb, uo, cy, ini, seq, mac, pv, pt, wa, tr, ea, la, pl, ri, wo, be, rfl, rfl, hn, L1, L2, F, U, K⟩ := I
  unfold wpX_cycleOf
  dsimp only
  refine zl_ins hn (fun a => br_t rfl (br_t a ⟨rfl, R⟩)) (fun a b => br_t rfl (br_f a (br_f (Int32.not_lt.mpr b) ⟨rfl, R⟩))) (fun j hj e => br_f (by decide) ?_)
  subst e
  have hin : vp_in (nI j) 10 := vp_in_nI (by omega) (by omega)
  exact ⟨hin, br_f (nI_pos (by omega)) (br_t (nI_lt hj (by omega)) ⟨hin, rfl, R⟩)⟩
theorem zl_cyc {x : Int32} (h1 : ¬ x < -1) (h2 : x < 64) : x = -1 ∨ ∃ c, c ≤ 63 ∧ x = nI c := by
  have e1 : (-1 : Int32).toInt = -1 := by decide
  have e64 : (64 : Int32).toInt = 64 := by decide
  rw [Int32.lt_iff_toInt_lt, e1] at h1
  rw [Int32.lt_iff_toInt_lt, e64] at h2
  by_cases z : x.toInt = -1
  · exact Or.inl (Int32.toInt_inj.mp (by rw [z, e1]))
  · refine Or.inr ⟨x.toInt.toNat, by omega, Int32.toInt_inj.mp ?_⟩
    rw [nI_toInt (by omega)]
    omega
theorem zl_63 {x : Int32} : x < 64 ↔ x ≤ 63 := by
  have e63 : (63 : Int32).toInt = 63 := by decide
  have e64 : (64 : Int32).toInt = 64 := by decide
  rw [Int32.lt_iff_toInt_lt, Int32.le_iff_toInt_le, e63, e64]
  omega
theorem i_vc_setCycle {k : Nat} {u : SX} {v : SY} (I : i_Rel k u v) (hk : k + 5 ≤ 2562) (v1 : Int32) (v2 : Int32) : wpX_setCycle (fun r u' => wpY_setCycle (fun r' v' => r' = r ∧ i_Rel (k + 5) u' v') v v1 v2) u v1 v2 := by
  have R : i_Rel (k + 5) u v := i_up I
  obtain ⟨n, ml, ll, op, fd, fa, fb, uo, cy, ini, seq, mac, pv, pt, wa, tr, ea, la, pl, ri, wo, be, rfl, rfl, hn, L1, L2, F, U, K⟩ := I
  unfold wpX_setCycle
  dsimp only
  refine zl_ins hn (fun a => br_t rfl (br_t a ⟨rfl, R⟩)) (fun a b => br_t rfl (br_f a (br_t b ⟨rfl, R⟩))) (fun j hj e => br_f (by decide) ?_)
  subst e
  have hin : vp_in (nI j) 10 := vp_in_nI (by omega) (by omega)
  have hp : ¬ nI j < 0 := nI_pos (by omega)
  have hb : ¬ nI n ≤ nI j := nI_ge hj (by omega)
  by_cases a : v2 < -1
  · exact br_t a (br_f hp (br_f hb (br_t a ⟨rfl, R⟩)))
  · refine br_f a ?_
    by_cases b : v2 < 64
    · refine br_t b ⟨hin, nm_e (br_f hp (br_f hb (br_f a (br_t (zl_63.mp b) ⟨hin, nm_e ⟨rfl, ?_⟩⟩))))⟩
      refine ⟨n, ml, ll, op, fd, fa, fb, uo, _, ini, seq, mac, pv, pt, wa, tr, ea, la, pl, ri, wo, be, rfl, rfl, hn, L1, L2, F, U, ?_⟩
      intro i hi
      rw [nI_clamp (show j < 2 ^ 31 by omega)]
      by_cases x : i = j
      · subst x; rw [pk_us]; exact zl_cyc a b
      · rw [pk_un x]; exact K i hi
    · exact br_f b (br_f hp (br_f hb (br_f a (br_f (fun z => b (zl_63.mpr z)) ⟨rfl, R⟩))))
theorem i_vc_edgeKinds {k : Nat} {u : SX} {v : SY} (I : i_Rel k u v) (hk : k + 5 ≤ 2562) (v1 : Int32) (v2 : Int32) : wpX_edgeKinds (fun r => wpY_edgeKinds (fun r' => r' = r ∧ i_Rel (k + 5) u v) v v1 v2) u v1 v2 := by
  have R : i_Rel (k + 5) u v := i_up I
  obtain ⟨n, ml, ll, op, fd, fa, fb, uo, cy, ini, seq, mac, pv, pt, wa, tr, ea, la, pl, ri, wo, be, rfl, rfl, hn, L1, L2, F, U, K⟩ := I
  unfold wpX_edgeKinds
  dsimp only
  refine zl_pair hn (fun a => br_t rfl (br_t a ⟨rfl, R⟩)) (fun a b => br_t rfl (br_f a (br_t b ⟨rfl, R⟩))) (fun a b c => br_t rfl (br_f a (br_f b (br_f (Int32.not_lt.mpr c) ⟨rfl, R⟩)))) (fun i j hij hj e1 e2 => br_f (by decide) ?_)
  subst e1; subst e2
  exact xk_kinds hn F (by omega) hj (br_f (nI_pos (by omega)) (br_f (nI_ge hij (by omega)) (br_t (nI_lt hj (by omega)) (yk_kinds (by omega) (by omega) ⟨rfl, R⟩))))
theorem i_vc_edgeDelay {k : Nat} {u : SX} {v : SY} (I : i_Rel k u v) (hk : k + 5 ≤ 2562) (v1 : Int32) (v2 : Int32) : wpX_edgeDelay (fun r => wpY_edgeDelay (fun r' => r' = r ∧ i_Rel (k + 5) u v) v v1 v2) u v1 v2 := by
  have R : i_Rel (k + 5) u v := i_up I
  obtain ⟨n, ml, ll, op, fd, fa, fb, uo, cy, ini, seq, mac, pv, pt, wa, tr, ea, la, pl, ri, wo, be, rfl, rfl, hn, L1, L2, F, U, K⟩ := I
  unfold wpX_edgeDelay
  dsimp only
  refine zl_pair hn (fun a => br_t rfl (br_t a ⟨rfl, R⟩)) (fun a b => br_t rfl (br_f a (br_t b ⟨rfl, R⟩))) (fun a b c => br_t rfl (br_f a (br_f b (br_f (Int32.not_lt.mpr c) ⟨rfl, R⟩)))) (fun i j hij hj e1 e2 => br_f (by decide) ?_)
  subst e1; subst e2
  exact xk_delay hn F L1 L2 (by omega) hj (br_f (nI_pos (by omega)) (br_f (nI_ge hij (by omega)) (br_t (nI_lt hj (by omega)) (yk_delay (by omega) (by omega) ⟨rfl, R⟩))))
