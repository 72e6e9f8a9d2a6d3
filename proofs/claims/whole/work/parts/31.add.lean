def zl_rg (x : Int32) : Prop := ¬ x < 0 ∧ x ≤ 7
def zl_wf (o d a b : Int32) : Prop := ¬ o < 1 ∧ o ≤ 6 ∧ zl_rg d ∧ (o = 1 ∨ (zl_rg a ∧ (o = 5 ∨ o = 6 ∨ zl_rg b)))
theorem zl_le {x : Int32} {a b : Int32} (h : a.toInt + 1 = b.toInt) : ¬ b ≤ x ↔ x ≤ a := by
  rw [Int32.le_iff_toInt_le, Int32.le_iff_toInt_le]
  omega
theorem zl_rgN {x : Int32} (h : zl_rg x) : ∃ d, d < 8 ∧ x = nI d := by
  obtain ⟨d, hd, e⟩ := nI_of2 (x := x) (M := 7) (n := 7) (by decide) h.1 h.2
  exact ⟨d, by omega, e⟩
theorem zl_reg {post : Int32 → Prop} {x : Int32} (h0 : ¬ zl_rg x → post 0) (h1 : zl_rg x → post 1) : wpX_isRegister post x := by
  unfold wpX_isRegister
  by_cases a : x < 0
  · exact br_t a (h0 fun z => z.1 a)
  · refine br_f a ?_
    by_cases b : 8 ≤ x
    · exact br_t b (h0 fun z => (zl_le (a := 7) (b := 8) (by decide)).mpr z.2 b)
    · exact br_f b (h1 ⟨a, (zl_le (a := 7) (b := 8) (by decide)).mp b⟩)
theorem zl_wfX {post : Int32 → Prop} {o d a b : Int32} (h0 : ¬ zl_wf o d a b → post 0) (h1 : zl_wf o d a b → post 1) : wpX_isWellFormed post o d a b := by
  unfold wpX_isWellFormed
  by_cases c1 : o < 1
  · exact br_t c1 (h0 fun z => z.1 c1)
  · refine br_f c1 ?_
    by_cases c2 : 6 < o
    · exact br_t c2 (h0 fun z => Int32.not_le.mpr c2 z.2.1)
    · have c2' : o ≤ 6 := Int32.not_lt.mp c2
      refine br_f c2 (zl_reg (fun c3 => br_t rfl (h0 fun z => c3 z.2.2.1)) (fun c3 => br_f (by decide) ?_))
      by_cases c4 : o = 1
      · exact br_t c4 (h1 ⟨c1, c2', c3, Or.inl c4⟩)
      · refine br_f c4 (zl_reg (fun c5 => br_t rfl (h0 fun z => z.2.2.2.elim c4 (fun y => c5 y.1))) (fun c5 => br_f (by decide) ?_))
        by_cases c6 : o = 5
        · exact br_t c6 (h1 ⟨c1, c2', c3, Or.inr ⟨c5, Or.inl c6⟩⟩)
        · refine br_f c6 ?_
          by_cases c7 : o = 6
          · exact br_t c7 (h1 ⟨c1, c2', c3, Or.inr ⟨c5, Or.inr (Or.inl c7)⟩⟩)
          · exact br_f c7 (zl_reg (fun c8 => br_t rfl (h0 fun z => z.2.2.2.elim c4 (fun y => y.2.elim c6 (fun y => y.elim c7 c8)))) (fun c8 => br_f (by decide) (h1 ⟨c1, c2', c3, Or.inr ⟨c5, Or.inr (Or.inr c8)⟩⟩)))
theorem zl_op {o : Int32} (h1 : ¬ o < 1) (h2 : o ≤ 6) : ∃ a, 1 ≤ a ∧ a ≤ 6 ∧ o = nI a := by
  have e1 : (1 : Int32).toInt = 1 := by decide
  have e6 : (6 : Int32).toInt = 6 := by decide
  rw [Int32.lt_iff_toInt_lt, e1] at h1
  rw [Int32.le_iff_toInt_le, e6] at h2
  refine ⟨o.toInt.toNat, by omega, by omega, Int32.toInt_inj.mp ?_⟩
  rw [nI_toInt (by omega)]
  omega
section
variable {ml ll fn : Int32} {op fd fa fb cy wo be pv pt ini seq mac : Nat → Int32}
theorem zl_68 {post : Int32 → SY → Prop} {o d a b : Int32} (h0 : ¬ zl_rg b → post (-1) (ml, ll, fn, op, fd, fa, fb, cy, wo, be, pv, pt, ini, seq, mac)) (h1 : zl_rg b → wY_addInstr_82 post o d a b ml ll fn op fd fa fb cy wo be pv pt ini seq mac) : wY_addInstr_68 post o d a b ml ll fn op fd fa fb cy wo be pv pt ini seq mac := by
  unfold wY_addInstr_68
  by_cases c : b < 0
  · exact br_t c (h0 fun z => z.1 c)
  · refine br_f c ?_
    by_cases e : b ≤ 7
    · exact br_t e (h1 ⟨c, e⟩)
    · exact br_f e (h0 fun z => e z.2)
theorem zl_53 {post : Int32 → SY → Prop} {o d a b : Int32} (h0 : (o = 2 ∨ o = 3 ∨ o = 4) → ¬ zl_rg b → post (-1) (ml, ll, fn, op, fd, fa, fb, cy, wo, be, pv, pt, ini, seq, mac)) (h1 : ((o = 2 ∨ o = 3 ∨ o = 4) → zl_rg b) → wY_addInstr_82 post o d a b ml ll fn op fd fa fb cy wo be pv pt ini seq mac) : wY_addInstr_53 post o d a b ml ll fn op fd fa fb cy wo be pv pt ini seq mac := by
  unfold wY_addInstr_53
  by_cases c2 : o = 2
  · exact br_t c2 (zl_68 (h0 (Or.inl c2)) (fun z => h1 fun _ => z))
  · refine br_f c2 ?_
    by_cases c3 : o = 3
    · exact br_t c3 (zl_68 (h0 (Or.inr (Or.inl c3))) (fun z => h1 fun _ => z))
    · refine br_f c3 ?_
      by_cases c4 : o = 4
      · exact br_t c4 (zl_68 (h0 (Or.inr (Or.inr c4))) (fun z => h1 fun _ => z))
      · exact br_f c4 (h1 fun z => z.elim (fun y => absurd y c2) (fun y => y.elim (fun y => absurd y c3) (fun y => absurd y c4)))
theorem zl_wfY {post : Int32 → SY → Prop} {o d a b : Int32} (hn : ¬ fn = 10) (h0 : ¬ zl_wf o d a b → post (-1) (ml, ll, fn, op, fd, fa, fb, cy, wo, be, pv, pt, ini, seq, mac)) (h1 : zl_wf o d a b → wY_addInstr_82 post o d a b ml ll fn op fd fa fb cy wo be pv pt ini seq mac) : wpY_addInstr post (ml, ll, fn, op, fd, fa, fb, cy, wo, be, pv, pt, ini, seq, mac) o d a b := by
  unfold wpY_addInstr
  dsimp only
  refine br_f hn ?_
  by_cases c1 : o < 1
  · exact br_t c1 (h0 fun z => z.1 c1)
  · refine br_f c1 ?_
    by_cases c2 : o ≤ 6
    · refine br_t c2 ?_
      by_cases c3 : d < 0
      · exact br_t c3 (h0 fun z => z.2.2.1.1 c3)
      · refine br_f c3 ?_
        by_cases c4 : d ≤ 7
        · refine br_t c4 ?_
          have six : ¬ o = 1 → ¬ (o = 2 ∨ o = 3 ∨ o = 4) → o = 5 ∨ o = 6 := fun n1 n2 => by
            rcases zv_nI6 (zl_op c1 c2) with y | y | y | y | y | y
            · exact absurd y n1
            · exact absurd (Or.inl y) n2
            · exact absurd (Or.inr (Or.inl y)) n2
            · exact absurd (Or.inr (Or.inr y)) n2
            · exact Or.inl y
            · exact Or.inr y
          by_cases c5 : o = 1
          · exact br_t c5 (zl_53 (fun z => by
              rcases z with z | z | z
              · exact absurd (c5.symm.trans z) (by decide)
              · exact absurd (c5.symm.trans z) (by decide)
              · exact absurd (c5.symm.trans z) (by decide)) (fun _ => h1 ⟨c1, c2, ⟨c3, c4⟩, Or.inl c5⟩))
          · refine br_f c5 ?_
            by_cases c6 : a < 0
            · exact br_t c6 (h0 fun z => z.2.2.2.elim c5 (fun y => y.1.1 c6))
            · refine br_f c6 ?_
              by_cases c7 : a ≤ 7
              · refine br_t c7 (zl_53 (fun z w => h0 fun y => ?_) (fun z => h1 ⟨c1, c2, ⟨c3, c4⟩, Or.inr ⟨⟨c6, c7⟩, ?_⟩⟩))
                · rcases y.2.2.2.resolve_left c5 with ⟨_, y | y | y⟩
                  · rcases z with z | z | z <;> exact absurd (y.symm.trans z) (by decide)
                  · rcases z with z | z | z <;> exact absurd (y.symm.trans z) (by decide)
                  · exact w y
                · by_cases c8 : o = 2 ∨ o = 3 ∨ o = 4
                  · exact Or.inr (Or.inr (z c8))
                  · exact (six c5 c8).elim Or.inl (fun y => Or.inr (Or.inl y))
              · exact br_f c7 (h0 fun z => z.2.2.2.elim c5 (fun y => c7 y.1.2))
        · exact br_f c4 (h0 fun z => c4 z.2.2.1.2)
    · exact br_f c2 (h0 fun z => c2 z.2.1)
end
theorem zl_unit {post : Int32 → Prop} {o : Int32} (h : post (nI (zv_un o))) : wpX_unitFor post o := by
  unfold wpX_unitFor
  unfold zv_un at h
  by_cases a : o = 4
  · rw [if_pos a] at h; exact br_t a h
  · rw [if_neg a] at h
    refine br_f a ?_
    by_cases b : o = 5
    · rw [if_pos b] at h; exact br_t b h
    · rw [if_neg b] at h
      refine br_f b ?_
      by_cases c : o = 6
      · rw [if_pos c] at h; exact br_t c h
      · rw [if_neg c] at h; exact br_f c h
theorem zl_F {n : Nat} {op fd fa fb : Nat → Int32} {o d a b : Int32} (F : zv_F n op fd fa fb) (w : zl_wf o d a b) : zv_F (n + 1) (upd op n o) (upd fd n d) (upd fa n a) (upd fb n b) := by
  intro i hi
  by_cases e : i = n
  · subst e
    rw [pk_us, pk_us, pk_us, pk_us]
    obtain ⟨w1, w2, w3, w4⟩ := w
    refine ⟨zl_op w1 w2, zl_rgN w3, fun z => ?_, fun z => ?_⟩
    · exact zl_rgN (w4.resolve_left z).1
    · rcases w4 with y | ⟨_, y | y | y⟩
      · rcases z with z | z | z <;> exact absurd (y.symm.trans z) (by decide)
      · rcases z with z | z | z <;> exact absurd (y.symm.trans z) (by decide)
      · rcases z with z | z | z <;> exact absurd (y.symm.trans z) (by decide)
      · exact zl_rgN y
  · rw [pk_un e, pk_un e, pk_un e, pk_un e]
    exact F i (by omega)
theorem i_vc_addInstr {k : Nat} {u : SX} {v : SY} (I : i_Rel k u v) (hk : k + 5 ≤ 2562) (v1 : Int32) (v2 : Int32) (v3 : Int32) (v4 : Int32) : wpX_addInstr (fun r u' => wpY_addInstr (fun r' v' => r' = r ∧ i_Rel (k + 5) u' v') v v1 v2 v3 v4) u v1 v2 v3 v4 := by
  have R : i_Rel (k + 5) u v := i_up I
  obtain ⟨n, ml, ll, op, fd, fa, fb, uo, cy, ini, seq, mac, pv, pt, wa, tr, ea, la, pl, ri, wo, be, rfl, rfl, hn, L1, L2, F, U, K⟩ := I
  unfold wpX_addInstr
  dsimp only
  by_cases h10 : n = 10
  · subst h10
    exact br_t (nI_le (Nat.le_refl 10) (by decide)) (br_t rfl ⟨rfl, R⟩)
  · have hin : vp_in (nI n) 10 := vp_in_nI (by omega) (by omega)
    have hne : ¬ nI n = 10 := fun z => h10 ((nI_eq (b := 10) (by omega) (by decide)).mp z)
    refine br_f (nI_ge (b := 10) (by omega) (by decide)) (zl_wfX (fun w => br_t rfl (zl_wfY hne (fun _ => ⟨rfl, R⟩) (fun w' => absurd w' w))) (fun w => br_f (by decide) ?_))
    rw [nI_clamp (show n < 2 ^ 31 by omega)]
    refine ⟨hin, nm_e ⟨hin, nm_e ⟨hin, nm_e ⟨hin, nm_e (zl_unit ⟨hin, nm_e ⟨hin, nm_e (nm_r (nI_1 n) ?_)⟩⟩)⟩⟩⟩⟩
    refine zl_wfY hne (fun w' => absurd w w') (fun _ => ?_)
    unfold wY_addInstr_82
    rw [nI_clamp (show n < 2 ^ 31 by omega)]
    refine ⟨hin, nm_e ⟨hin, nm_e ⟨hin, nm_e ⟨hin, nm_e ⟨hin, nm_e (nm_r (nI_1 n) ⟨nI_pred n, ?_⟩)⟩⟩⟩⟩⟩
    refine ⟨n + 1, ml, ll, _, _, _, _, _, _, ini, seq, mac, pv, pt, wa, tr, ea, la, pl, ri, wo, be, rfl, rfl, by omega, L1, L2, zl_F F w, fun i hi => ?_, fun i hi => ?_⟩
    · by_cases e : i = n
      · subst e; rw [pk_us, pk_us]
      · rw [pk_un e, pk_un e]; exact U i (by omega)
    · by_cases e : i = n
      · subst e; rw [pk_us]; exact Or.inl rfl
      · rw [pk_un e]; exact K i (by omega)
