def zl_rg (x : Int32) : Prop := ¬ x < 0 ∧ x ≤ 7
def zl_wf (o d a b : Int32) : Prop := ¬ o < 1 ∧ o ≤ 6 ∧ zl_rg d ∧ (o = 1 ∨ (zl_rg a ∧ (o = 5 ∨ o = 6 ∨ zl_rg b)))
theorem zl_le {x : Int32} {a b : Int32} (h : a.toInt + 1 = b.toInt) : ¬ b ≤ x ↔ x ≤ a := by
  rw [Int32.le_iff_toInt_le, Int32.le_iff_toInt_le]
  omega
theorem zl_rgN {x : Int32} (h : zl_rg x) : ∃ d, d < 8 ∧ x = nI d := by
  obtain ⟨d, hd, e⟩ := nI_of2 (x := x) (M := 7) (n := 7) (by decide) h.1 h.2
  exact ⟨d, by omega, e⟩
theorem zl_reg {post : Int32 → Prop} {x : Int32} (h0 : ¬ zl_rg x → post 0) (h1 : zl_rg x → post 1) : wpX_isRegister post () x := by
  unfold wpX_isRegister
  by_cases a : x < 0
  · exact br_t a (h0 fun z => z.1 a)
  · refine br_f a ?_
    by_cases b : 8 ≤ x
    · exact br_t b (h0 fun z => (zl_le (a := 7) (b := 8) (by decide)).mpr z.2 b)
    · exact br_f b (h1 ⟨a, (zl_le (a := 7) (b := 8) (by decide)).mp b⟩)
theorem zl_wfX {post : Int32 → Prop} {o d a b : Int32} (h0 : ¬ zl_wf o d a b → post 0) (h1 : zl_wf o d a b → post 1) : wpX_isWellFormed post () o d a b := by
  unfold wpX_isWellFormed
  by_cases c1 : o < 1
  · exact br_t c1 (h0 fun z => z.1 c1)
  · refine br_f c1 ?_
    by_cases c2 : 6 < o
    · exact br_t c2 (h0 fun z => Int32.not_le.mpr c2 z.2.1)
    · have c2' : o ≤ 6 := Int32.not_lt.mp c2
      refine br_f c2 (zl_reg (fun c3 => br_t rfl (h0 fun z => c3 z.2.2.1)) (fun c3 => br_f (by decide) ?_))
      by_cases c4 : o = 1
      · exact br_t c4 (h1 ⟨c1, c2', c3, Or.inl c4⟩)
      · refine br_f c4 (zl_reg (fun c5 => br_t rfl (h0 fun z => z.2.2.2.elim c4 (fun y => c5 y.1))) (fun c5 => br_f (by decide) ?_))
        by_cases c6 : o = 5
        · exact br_t c6 (h1 ⟨c1, c2', c3, Or.inr ⟨c5, Or.inl c6⟩⟩)
        · refine br_f c6 ?_
          by_cases c7 : o = 6
          · exact br_t c7 (h1 ⟨c1, c2', c3, Or.inr ⟨c5, Or.inr (Or.inl c7)⟩⟩)
          · exact br_f c7 (zl_reg (fun c8 => br_t rfl (h0 fun z => z.2.2.2.elim c4 (fun y => y.2.elim c6 (fun y => y.elim c7 c8)))) (fun c8 => br_f (by decide) (h1 ⟨c1, c2', c3, Or.inr ⟨c5, Or.inr (Or.inr c8)⟩⟩)))
theorem zl_op {o : Int32} (h1 : ¬ o < 1) (h2 : o ≤ 6) : ∃ a, 1 ≤ a ∧ a ≤ 6 ∧ o = nI a := by
  have e1 : (1 : Int32).toInt = 1 := by decide
  have e6 : (6 : Int32).toInt = 6 := by decide
  rw [Int32.lt_iff_toInt_lt, e1] at h1
  rw [Int32.le_iff_toInt_le, e6] at h2
  refine ⟨o.toInt.toNat, by omega, by omega, Int32.toInt_inj.mp ?_⟩
  rw [nI_toInt (by omega)]
  omega
theorem zl_unit {post : Int32 → Prop} {o : Int32} (h : post (nI (zv_un o))) : wpX_unitFor post () o := by
  unfold wpX_unitFor
  unfold zv_un at h
  by_cases a : o = 4
  · rw [if_pos a] at h; exact br_t a h
  · rw [if_neg a] at h
    refine br_f a ?_
    by_cases b : o = 5
    · rw [if_pos b] at h; exact br_t b h
    · rw [if_neg b] at h
      refine br_f b ?_
      by_cases c : o = 6
      · rw [if_pos c] at h; exact br_t c h
      · rw [if_neg c] at h; exact br_f c h
theorem zl_F {n : Nat} {op fd fa fb : Nat → Int32} {o d a b : Int32} (F : zv_F n op fd fa fb) (w : zl_wf o d a b) : zv_F (n + 1) (upd op n o) (upd fd n d) (upd fa n a) (upd fb n b) := by
  intro i hi
  by_cases e : i = n
  · subst e
    rw [pk_us, pk_us, pk_us, pk_us]
    obtain ⟨w1, w2, w3, w4⟩ := w
    refine ⟨zl_op w1 w2, zl_rgN w3, fun z => ?_, fun z => ?_⟩
    · exact zl_rgN (w4.resolve_left z).1
    · rcases w4 with y | ⟨_, y | y | y⟩
      · rcases z with z | z | z <;> exact absurd (y.symm.trans z) (by decide)
      · rcases z with z | z | z <;> exact absurd (y.symm.trans z) (by decide)
      · rcases z with z | z | z <;> exact absurd (y.symm.trans z) (by decide)
      · exact zl_rgN y
  · rw [pk_un e, pk_un e, pk_un e, pk_un e]
    exact F i (by omega)
