/-! the reference's small methods -/
section
variable {ml ll fn : Int32} {op fd fa fb cy wo be pv pt ini seq mac : Nat → Int32}
theorem yk_lat {post : Int32 → Prop} {i : Nat} (hi : i < 10) (h : post (zv_lat ml ll op i)) : wpY_lat post (ml, ll, fn, op, fd, fa, fb, cy, wo, be, pv, pt, ini, seq, mac) (nI i) := by
  have hin : vp_in (nI i) 10 := vp_in_nI hi (by omega)
  unfold wpY_lat
  dsimp only
  rw [nI_clamp (show i < 2 ^ 31 by omega)]
  unfold zv_lat at h
  by_cases h4 : op i = 4
  · rw [if_pos h4] at h; exact ⟨hin, br_t h4 h⟩
  · rw [if_neg h4] at h
    by_cases h5 : op i = 5
    · rw [if_pos h5] at h; exact ⟨hin, br_f h4 ⟨hin, br_t h5 h⟩⟩
    · rw [if_neg h5] at h; exact ⟨hin, br_f h4 ⟨hin, br_f h5 h⟩⟩
theorem yk_wr {post : Int32 → Prop} {i : Nat} (hi : i < 10) (h1 : op i ≠ 6 → post 1) (h0 : op i = 6 → post 0) : wpY_writesReg post (ml, ll, fn, op, fd, fa, fb, cy, wo, be, pv, pt, ini, seq, mac) (nI i) := by
  unfold wpY_writesReg
  dsimp only
  rw [nI_clamp (show i < 2 ^ 31 by omega)]
  by_cases h : op i = 6
  · exact ⟨vp_in_nI hi (by omega), br_t h (h0 h)⟩
  · exact ⟨vp_in_nI hi (by omega), br_f h (h1 h)⟩
theorem yk_mem {post : Int32 → Prop} {i : Nat} (hi : i < 10) (h1 : op i = 5 ∨ op i = 6 → post 1) (h0 : ¬ (op i = 5 ∨ op i = 6) → post 0) : wpY_isMem post (ml, ll, fn, op, fd, fa, fb, cy, wo, be, pv, pt, ini, seq, mac) (nI i) := by
  unfold wpY_isMem
  dsimp only
  rw [nI_clamp (show i < 2 ^ 31 by omega)]
  refine ⟨vp_in_nI hi (by omega), ?_⟩
  by_cases a : op i = 5
  · exact br_t a (h1 (Or.inl a))
  · refine br_f a ⟨vp_in_nI hi (by omega), ?_⟩
    by_cases b : op i = 6
    · exact br_t b (h1 (Or.inr b))
    · exact br_f b (h0 fun z => z.elim a b)
theorem yk_22 {post : Int32 → Prop} {i : Nat} {r : Int32} (hi : i < 10) (h1 : fa i = r ∨ fb i = r → post 1) (h0 : ¬ (fa i = r ∨ fb i = r) → post 0) : wY_readsReg_22 post (nI i) r ml ll fn op fd fa fb cy wo be pv pt ini seq mac := by
  unfold wY_readsReg_22
  rw [nI_clamp (show i < 2 ^ 31 by omega)]
  refine ⟨vp_in_nI hi (by omega), ?_⟩
  by_cases a : fa i = r
  · exact br_t a (h1 (Or.inl a))
  · refine br_f a ⟨vp_in_nI hi (by omega), ?_⟩
    by_cases b : fb i = r
    · exact br_t b (h1 (Or.inr b))
    · exact br_f b (h0 fun z => z.elim a b)
theorem yk_rd {post : Int32 → Prop} {i : Nat} {r : Int32} (hi : i < 10) (h1 : zv_rd op fd fa fb i r → post 1) (h0 : ¬ zv_rd op fd fa fb i r → post 0) : wpY_readsReg post (ml, ll, fn, op, fd, fa, fb, cy, wo, be, pv, pt, ini, seq, mac) (nI i) r := by
  unfold wpY_readsReg
  dsimp only
  unfold zv_rd at h1 h0
  rw [nI_clamp (show i < 2 ^ 31 by omega)]
  refine ⟨vp_in_nI hi (by omega), nm_e ?_⟩
  by_cases o2 : op i = 2
  · refine br_t o2 (yk_22 hi (fun z => h1 (Or.inl ⟨Or.inl o2, z⟩)) (fun z => h0 fun y => ?_))
    rcases y with y | y | y
    · exact z y.2
    · exact absurd (o2.symm.trans y.1) (by decide)
    · exact absurd (o2.symm.trans y.1) (by decide)
  · refine br_f o2 ?_
    by_cases o3 : op i = 3
    · refine br_t o3 (yk_22 hi (fun z => h1 (Or.inl ⟨Or.inr (Or.inl o3), z⟩)) (fun z => h0 fun y => ?_))
      rcases y with y | y | y
      · exact z y.2
      · exact absurd (o3.symm.trans y.1) (by decide)
      · exact absurd (o3.symm.trans y.1) (by decide)
    · refine br_f o3 ?_
      by_cases o4 : op i = 4
      · refine br_t o4 (yk_22 hi (fun z => h1 (Or.inl ⟨Or.inr (Or.inr o4), z⟩)) (fun z => h0 fun y => ?_))
        rcases y with y | y | y
        · exact z y.2
        · exact absurd (o4.symm.trans y.1) (by decide)
        · exact absurd (o4.symm.trans y.1) (by decide)
      · refine br_f o4 ?_
        have no : ¬ (op i = 2 ∨ op i = 3 ∨ op i = 4) := fun z => z.elim o2 (fun z => z.elim o3 o4)
        by_cases o5 : op i = 5
        · refine br_t o5 ⟨vp_in_nI hi (by omega), ?_⟩
          by_cases a : fa i = r
          · exact br_t a (h1 (Or.inr (Or.inl ⟨o5, a⟩)))
          · refine br_f a (h0 fun y => ?_)
            rcases y with y | y | y
            · exact no y.1
            · exact a y.2
            · exact absurd (o5.symm.trans y.1) (by decide)
        · refine br_f o5 ?_
          by_cases o6 : op i = 6
          · refine br_t o6 ⟨vp_in_nI hi (by omega), ?_⟩
            by_cases a : fa i = r
            · exact br_t a (h1 (Or.inr (Or.inr ⟨o6, Or.inl a⟩)))
            · refine br_f a ⟨vp_in_nI hi (by omega), ?_⟩
              by_cases b : fd i = r
              · exact br_t b (h1 (Or.inr (Or.inr ⟨o6, Or.inr b⟩)))
              · refine br_f b (h0 fun y => ?_)
                rcases y with y | y | y
                · exact no y.1
                · exact o5 y.1
                · exact y.2.elim a b
          · refine br_f o6 (h0 fun y => ?_)
            rcases y with y | y | y
            · exact no y.1
            · exact o5 y.1
            · exact o6 y.1
theorem yk_127 {post : Int32 → Prop} {i j : Nat} {x : Int32} (hi : i < 10) (hj : j < 10) (hz : ¬ (op i ≠ 6 ∧ op j ≠ 6 ∧ fd i = fd j)) (h1 : zv_O op fd i j → post (x + 4)) (h0 : ¬ zv_O op fd i j → post x) : wY_kinds_127 post (nI i) (nI j) x ml ll fn op fd fa fb cy wo be pv pt ini seq mac := by
  unfold wY_kinds_127
  rw [nI_clamp (show i < 2 ^ 31 by omega), nI_clamp (show j < 2 ^ 31 by omega)]
  refine ⟨vp_in_nI hi (by omega), ?_⟩
  by_cases a : op i = 6
  · refine br_t a ⟨vp_in_nI hj (by omega), ?_⟩
    by_cases b : op j = 6
    · exact br_t b (nm_e (h1 (Or.inr ⟨a, b⟩)))
    · exact br_f b (h0 fun z => z.elim hz (fun y => b y.2))
  · exact br_f a (h0 fun z => z.elim hz (fun y => a y.1))
theorem yk_96 {post : Int32 → Prop} {i j : Nat} {x : Int32} (hi : i < 10) (hj : j < 10) (h1 : zv_O op fd i j → post (x + 4)) (h0 : ¬ zv_O op fd i j → post x) : wY_kinds_96 post (nI i) (nI j) x ml ll fn op fd fa fb cy wo be pv pt ini seq mac := by
  unfold wY_kinds_96
  rw [nI_clamp (show i < 2 ^ 31 by omega), nI_clamp (show j < 2 ^ 31 by omega)]
  refine yk_wr hi (fun a => ?_) (fun a => br_t rfl (yk_127 hi hj (fun z => z.1 a) h1 h0))
  refine br_f (by decide) (yk_wr hj (fun b => ?_) (fun b => br_t rfl (yk_127 hi hj (fun z => z.2.1 b) h1 h0)))
  refine br_f (by decide) ⟨vp_in_nI hi (by omega), vp_in_nI hj (by omega), ?_⟩
  by_cases c : fd i = fd j
  · exact br_t c (nm_e (h1 (Or.inl ⟨a, b, c⟩)))
  · exact br_f c (yk_127 hi hj (fun z => c z.2.2) h1 h0)
theorem yk_71 {post : Int32 → Prop} {i j : Nat} {x : Int32} (hi : i < 10) (hj : j < 10) (hz : ¬ (op j ≠ 6 ∧ zv_rd op fd fa fb i (fd j)))
    (h11 : zv_A op fd fa fb i j → zv_O op fd i j → post (x + 2 + 4)) (h10 : zv_A op fd fa fb i j → ¬ zv_O op fd i j → post (x + 2)) (h01 : ¬ zv_A op fd fa fb i j → zv_O op fd i j → post (x + 4)) (h00 : ¬ zv_A op fd fa fb i j → ¬ zv_O op fd i j → post x) :
    wY_kinds_71 post (nI i) (nI j) x ml ll fn op fd fa fb cy wo be pv pt ini seq mac := by
  unfold wY_kinds_71
  rw [nI_clamp (show i < 2 ^ 31 by omega), nI_clamp (show j < 2 ^ 31 by omega)]
  refine ⟨vp_in_nI hi (by omega), ?_⟩
  by_cases a : op i = 5
  · refine br_t a ⟨vp_in_nI hj (by omega), ?_⟩
    by_cases b : op j = 6
    · have A : zv_A op fd fa fb i j := Or.inr ⟨a, b⟩
      exact br_t b (nm_e (yk_96 hi hj (h11 A) (h10 A)))
    · have A : ¬ zv_A op fd fa fb i j := fun z => z.elim hz (fun y => b y.2)
      exact br_f b (yk_96 hi hj (h01 A) (h00 A))
  · have A : ¬ zv_A op fd fa fb i j := fun z => z.elim hz (fun y => a y.1)
    exact br_f a (yk_96 hi hj (h01 A) (h00 A))
theorem yk_49 {post : Int32 → Prop} {i j : Nat} {x : Int32} (hi : i < 10) (hj : j < 10)
    (h11 : zv_A op fd fa fb i j → zv_O op fd i j → post (x + 2 + 4)) (h10 : zv_A op fd fa fb i j → ¬ zv_O op fd i j → post (x + 2)) (h01 : ¬ zv_A op fd fa fb i j → zv_O op fd i j → post (x + 4)) (h00 : ¬ zv_A op fd fa fb i j → ¬ zv_O op fd i j → post x) :
    wY_kinds_49 post (nI i) (nI j) x ml ll fn op fd fa fb cy wo be pv pt ini seq mac := by
  unfold wY_kinds_49
  rw [nI_clamp (show j < 2 ^ 31 by omega)]
  refine yk_wr hj (fun a => ?_) (fun a => br_t rfl (yk_71 hi hj (fun z => z.1 a) h11 h10 h01 h00))
  refine br_f (by decide) ⟨vp_in_nI hj (by omega), yk_rd hi (fun b => ?_) (fun b => br_t rfl (yk_71 hi hj (fun z => b z.2) h11 h10 h01 h00))⟩
  have A : zv_A op fd fa fb i j := Or.inl ⟨a, b⟩
  exact br_f (by decide) (nm_e (yk_96 hi hj (h11 A) (h10 A)))
theorem yk_kinds {post : Int32 → Prop} {i j : Nat} (hi : i < 10) (hj : j < 10) (h : post (zv_k op fd fa fb i j)) : wpY_kinds post (ml, ll, fn, op, fd, fa, fb, cy, wo, be, pv, pt, ini, seq, mac) (nI i) (nI j) := by
  have Y : zv_T op fd fa fb i j → wY_kinds_45 post (nI i) (nI j) 0 ml ll fn op fd fa fb cy wo be pv pt ini seq mac := fun z => by
    unfold zv_k at h
    rw [zv_bt z] at h
    refine nm_e (yk_49 hi hj (fun a b => ?_) (fun a b => ?_) (fun a b => ?_) (fun a b => ?_))
    · rw [zv_bt a, zv_bt b] at h; exact h
    · rw [zv_bt a, zv_bf b] at h; exact h
    · rw [zv_bf a, zv_bt b] at h; exact h
    · rw [zv_bf a, zv_bf b] at h; exact h
  have N : ¬ zv_T op fd fa fb i j → wY_kinds_49 post (nI i) (nI j) 0 ml ll fn op fd fa fb cy wo be pv pt ini seq mac := fun z => by
    unfold zv_k at h
    rw [zv_bf z] at h
    refine yk_49 hi hj (fun a b => ?_) (fun a b => ?_) (fun a b => ?_) (fun a b => ?_)
    · rw [zv_bt a, zv_bt b] at h; exact h
    · rw [zv_bt a, zv_bf b] at h; exact h
    · rw [zv_bf a, zv_bt b] at h; exact h
    · rw [zv_bf a, zv_bf b] at h; exact h
  have M : ¬ (op i ≠ 6 ∧ zv_rd op fd fa fb j (fd i)) → wY_kinds_24 post (nI i) (nI j) 0 ml ll fn op fd fa fb cy wo be pv pt ini seq mac := fun z => by
    unfold wY_kinds_24
    rw [nI_clamp (show i < 2 ^ 31 by omega), nI_clamp (show j < 2 ^ 31 by omega)]
    refine ⟨vp_in_nI hi (by omega), ?_⟩
    by_cases a : op i = 6
    · refine br_t a ⟨vp_in_nI hj (by omega), ?_⟩
      by_cases b : op j = 5
      · exact br_t b (Y (Or.inr ⟨a, b⟩))
      · exact br_f b (N fun y => y.elim z (fun y => b y.2))
    · exact br_f a (N fun y => y.elim z (fun y => a y.1))
  unfold wpY_kinds
  dsimp only
  rw [nI_clamp (show i < 2 ^ 31 by omega)]
  refine yk_wr hi (fun a => ?_) (fun a => br_t rfl (M fun z => z.1 a))
  refine br_f (by decide) ⟨vp_in_nI hi (by omega), yk_rd hj (fun b => ?_) (fun b => br_t rfl (M fun z => b z.2))⟩
  exact br_f (by decide) (Y (Or.inl ⟨a, b⟩))
theorem yk_59 {post : Int32 → Prop} {d o : Int32} (h : post (if o ≤ d then d else o)) : wY_delay_59 post d o ml ll fn op fd fa fb cy wo be pv pt ini seq mac := by
  unfold wY_delay_59
  by_cases c : o ≤ d
  · rw [if_pos c] at h; exact br_t c h
  · rw [if_neg c] at h; exact br_f c h
theorem yk_29 {post : Int32 → Prop} {i j : Nat} {k d : Int32} (hi : i < 10) (hj : j < 10) (h : post (if k &&& 4 = 0 then d else if (if 1 ≤ zv_lat ml ll op i - zv_lat ml ll op j + 1 then zv_lat ml ll op i - zv_lat ml ll op j + 1 else 1) ≤ d then d else (if 1 ≤ zv_lat ml ll op i - zv_lat ml ll op j + 1 then zv_lat ml ll op i - zv_lat ml ll op j + 1 else 1))) : wY_delay_29 post (nI i) (nI j) k d ml ll fn op fd fa fb cy wo be pv pt ini seq mac := by
  unfold wY_delay_29
  by_cases c : k &&& 4 = 0
  · rw [if_pos c] at h; exact br_t c h
  · rw [if_neg c] at h
    refine br_f c (yk_lat hi (yk_lat hj (nm_e ?_)))
    by_cases e : 1 ≤ zv_lat ml ll op i - zv_lat ml ll op j + 1
    · rw [if_pos e] at h; exact br_t e (yk_59 h)
    · rw [if_neg e] at h; exact br_f e (yk_59 h)
theorem yk_delay {post : Int32 → Prop} {i j : Nat} (hi : i < 10) (hj : j < 10) (h : post (zv_dl ml ll op fd fa fb i j)) : wpY_delay post (ml, ll, fn, op, fd, fa, fb, cy, wo, be, pv, pt, ini, seq, mac) (nI i) (nI j) := by
  unfold wpY_delay
  dsimp only
  refine yk_kinds hi hj ?_
  unfold zv_dl zv_d at h
  by_cases c : zv_k op fd fa fb i j = 0
  · rw [if_pos c] at h; exact br_t c h
  · rw [if_neg c] at h
    refine br_f c ?_
    by_cases d : zv_k op fd fa fb i j &&& 1 = 0
    · rw [if_pos d] at h; exact br_t d (yk_29 hi hj h)
    · rw [if_neg d] at h; exact br_f d (yk_lat hi (yk_29 hi hj h))
end
