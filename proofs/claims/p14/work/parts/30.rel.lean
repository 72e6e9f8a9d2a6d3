def zc_K (n : Nat) (cy : Nat → Int32) : Prop := ∀ i, i < n → cy i = -1 ∨ ∃ c, c ≤ 63 ∧ cy i = nI c
theorem zl_loc {post : Int32 → Prop} {x : Int32} (h0 : (x < 0 ∨ nI 16 ≤ x) → post 0) (h1 : ∀ j, j < 16 → x = nI j → post 1) : wpX_isLocation post () x := by
  rcases pk_ix x (n := 16) (by decide) with a | a | ⟨j, hj, e⟩
  · exact br_t a (h0 (Or.inl a))
  · by_cases b : x < 0
    · exact br_t b (h0 (Or.inl b))
    · exact br_f b (br_t a (h0 (Or.inr a)))
  · subst e
    exact br_f (nI_pos (by omega)) (br_f (nI_ge (b := 16) hj (by decide)) (h1 j hj rfl))
theorem zl_cyc {x : Int32} (h1 : ¬ x < -1) (h2 : x < 64) : x = -1 ∨ ∃ c, c ≤ 63 ∧ x = nI c := by
  have e1 : (-1 : Int32).toInt = -1 := by decide
  have e64 : (64 : Int32).toInt = 64 := by decide
  rw [Int32.lt_iff_toInt_lt, e1] at h1
  rw [Int32.lt_iff_toInt_lt, e64] at h2
  by_cases z : x.toInt = -1
  · exact Or.inl (Int32.toInt_inj.mp (by rw [z, e1]))
  · refine Or.inr ⟨x.toInt.toNat, by omega, Int32.toInt_inj.mp ?_⟩
    rw [nI_toInt (by omega)]
    omega
theorem zl_63 {x : Int32} : x < 64 ↔ x ≤ 63 := by
  have e63 : (63 : Int32).toInt = 63 := by decide
  have e64 : (64 : Int32).toInt = 64 := by decide
  rw [Int32.lt_iff_toInt_lt, Int32.le_iff_toInt_le, e63, e64]
  omega
section
variable {ml ll fn : Int32} {op fd fa fb uo cy ini seq mac pv pt wa tr ea la pl ri : Nat → Int32}
theorem zl_ins {post : Int32 → Prop} {n : Nat} {x : Int32} (hn : n ≤ 10) (hneg : x < 0 → post 0) (hbig : ¬ x < 0 → nI n ≤ x → post 0) (h1 : ∀ j, j < n → x = nI j → post 1) : wpX_isInstr post (ml, ll, nI n, op, fd, fa, fb, uo, cy, ini, seq, mac, pv, pt, wa, tr, ea, la, pl, ri) x := by
  unfold wpX_isInstr
  dsimp only
  by_cases b : x < 0
  · exact br_t b (hneg b)
  · refine br_f b ?_
    by_cases c : nI n ≤ x
    · exact br_t c (hbig b c)
    · rcases pk_ix x (n := n) (by omega) with a | a | ⟨j, hj, e⟩
      · exact absurd a b
      · exact absurd a c
      · exact br_f c (h1 j hj e)
end
