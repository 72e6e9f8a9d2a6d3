/-- where the stretches stand: nothing moved and Q seen, or moved and narrower -/
def xs_S (n : Nat) (lat : Nat → Int) (dl : Nat → Nat → Int) (un : Nat → Nat) (len : Int) (t lo : Nat → Int) (ea la : Nat → Int32) (Q : Prop) (q : Nat) (e l : Nat → Int32) : Prop :=
  qn_J n lat dl un len t lo (zI e) (zI l) ∧ qn_D n (zI ea) (zI la) (zI e) (zI l) ∧ xs_R n (zI e) (zI l) ∧ ((q = 0 ∧ e = ea ∧ l = la ∧ Q) ∨ (1 ≤ q ∧ qn_w n (zI e) (zI l) + 1 ≤ qn_w n (zI ea) (zI la)))
theorem xs_Sq {n : Nat} {lat : Nat → Int} {dl : Nat → Nat → Int} {un : Nat → Nat} {len : Int} {t lo : Nat → Int} {ea la : Nat → Int32} {Q Q' : Prop} {q : Nat} {e l : Nat → Int32} (S : xs_S n lat dl un len t lo ea la Q q e l) (h : e = ea → l = la → Q → Q') : xs_S n lat dl un len t lo ea la Q' q e l := by
  refine ⟨S.1, S.2.1, S.2.2.1, ?_⟩
  rcases S.2.2.2 with ⟨a, b, c, d⟩ | x
  · exact Or.inl ⟨a, b, c, h b c d⟩
  · exact Or.inr x
theorem qn_Dt {n : Nat} {e0 l0 e1 l1 e2 l2 : Nat → Int} (a : qn_D n e0 l0 e1 l1) (b : qn_D n e1 l1 e2 l2) : qn_D n e0 l0 e2 l2 := by
  intro i hi
  have h1 := a i hi
  have h2 := b i hi
  omega
section
variable {ml ll fn : Int32} {op fd fa fb uo cy ini seq mac pv pt wa tr ea la pl ri : Nat → Int32}
theorem xs_stretch {post : Int32 → St2 → Prop} {n : Nat} {lat lo : Nat → Int} {dl wt : Nat → Nat → Int} {un : Nat → Nat} {len : Int} (H : xs_H n ml ll op uo wa lat wt un) (J : qn_J n lat dl un len (zI tr) lo (zI ea) (zI la)) (R : xs_R n (zI ea) (zI la))
    (h0 : (∀ i j u, i < n → j < n → u ≤ 2 → qn_Z n un (zI tr) (zI ea) (zI la) i j u) → post 0 (ml, ll, nI n, op, fd, fa, fb, uo, cy, ini, seq, mac, pv, pt, wa, tr, ea, la, pl, ri))
    (h1 : ∀ q ea' la', 1 ≤ q → q ≤ 3000 → qn_J n lat dl un len (zI tr) lo (zI ea') (zI la') → xs_R n (zI ea') (zI la') → qn_w n (zI ea') (zI la') + 1 ≤ qn_w n (zI ea) (zI la) → post (nI q) (ml, ll, nI n, op, fd, fa, fb, uo, cy, ini, seq, mac, pv, pt, wa, tr, ea', la', pl, ri))
    (hc : ∀ ea' la', (∀ c, ¬ qo_C n lat dl un len (zI tr) lo c) → post (-1) (ml, ll, nI n, op, fd, fa, fb, uo, cy, ini, seq, mac, pv, pt, wa, tr, ea', la', pl, ri)) : wpX_narrowByStretches post (ml, ll, nI n, op, fd, fa, fb, uo, cy, ini, seq, mac, pv, pt, wa, tr, ea, la, pl, ri) := by
  have n10 := H.2.1
  unfold wpX_narrowByStretches
  dsimp only
  have key := loop_0 (fun m i (s : Nat × (Nat → Int32) × (Nat → Int32)) => wX_narrowByStretches_4 post m (nI s.1) (nI i) ml ll (nI n) op fd fa fb uo cy ini seq mac pv pt wa tr (s.2.1) (s.2.2) pl ri)
    (fun i s => s.1 ≤ 300 * i ∧ xs_S n lat dl un len (zI tr) lo ea la (∀ a b u, a < i → b < n → u ≤ 2 → qn_Z n un (zI tr) (zI ea) (zI la) a b u) s.1 s.2.1 s.2.2) n (0, ea, la) ⟨by dsimp only; omega, J, qn_Dr, R, Or.inl ⟨rfl, rfl, rfl, fun a b u h => absurd h (Nat.not_lt_zero a)⟩⟩ (fun m s I => ?_) (fun m i s hi I ih => ?_)
  · exact key
  · obtain ⟨q, e, l⟩ := s
    obtain ⟨b1, S⟩ := I
    dsimp only at b1 S ⊢
    refine br_t (nI_le (Nat.le_refl n) (by omega)) ?_
    rcases S.2.2.2 with ⟨rfl, rfl, rfl, a⟩ | ⟨a, b⟩
    · exact h0 a
    · exact h1 q e l a (by omega) S.1 S.2.2.1 b
  · obtain ⟨q, e, l⟩ := s
    obtain ⟨b1, S⟩ := I
    dsimp only at b1 S ⊢
    refine br_f (nI_ge hi (by omega)) ?_
    have key2 := loop_0 (fun m2 j (s : Nat × (Nat → Int32) × (Nat → Int32)) => wX_narrowByStretches_14 post (wX_narrowByStretches_4 post m) (nI i) m2 (nI s.1) (nI j) ml ll (nI n) op fd fa fb uo cy ini seq mac pv pt wa tr (s.2.1) (s.2.2) pl ri)
      (fun j s => s.1 ≤ 300 * i + 30 * j ∧ xs_S n lat dl un len (zI tr) lo ea la ((∀ a b u, a < i → b < n → u ≤ 2 → qn_Z n un (zI tr) (zI ea) (zI la) a b u) ∧ ∀ b u, b < j → u ≤ 2 → qn_Z n un (zI tr) (zI ea) (zI la) i b u) s.1 s.2.1 s.2.2) n (q, e, l) ⟨by dsimp only; omega, xs_Sq S fun _ _ z => ⟨z, fun b u h => absurd h (Nat.not_lt_zero b)⟩⟩ (fun m2 s I2 => ?_) (fun m2 j s hj I2 ih2 => ?_)
    · exact key2
    · obtain ⟨q2, e2, l2⟩ := s
      obtain ⟨b2, S2⟩ := I2
      dsimp only at b2 S2 ⊢
      refine br_t (nI_le (Nat.le_refl n) (by omega)) (nm_r (nI_1 i) (ih (q2, e2, l2) ⟨by dsimp only; omega, xs_Sq S2 fun _ _ z a b u h1 h2 h3 => ?_⟩))
      by_cases y : a = i
      · subst y; exact z.2 b u h2 h3
      · exact z.1 a b u (by omega) h2 h3
    · obtain ⟨q2, e2, l2⟩ := s
      obtain ⟨b2, S2⟩ := I2
      dsimp only at b2 S2 ⊢
      have hin : vp_in (nI i) 10 := vp_in_nI (by omega) (by omega)
      have hjn : vp_in (nI j) 10 := vp_in_nI (by omega) (by omega)
      have Ri := S2.2.2.1 i hi
      have Rj := S2.2.2.1 j hj
      refine br_f (nI_ge hj (by omega)) ⟨hin, nm_e ⟨hjn, nm_e ?_⟩⟩
      rw [nI_clamp (show i < 2 ^ 31 by omega), nI_clamp (show j < 2 ^ 31 by omega)]
      have hf : (e2 i).toInt = zI e2 i := rfl
      have hL : (l2 j).toInt = zI l2 j := rfl
      by_cases hfl : zI l2 j < zI e2 i
      · refine ⟨1, ?_⟩
        refine br_t ((zi_lt hL hf).mpr hfl) (nm_r (nI_1 j) (ih2 (q2, e2, l2) ⟨by dsimp only; omega, xs_Sq S2 fun x1 x2 z => ⟨z.1, fun b u h h' => ?_⟩⟩))
        by_cases y : b = j
        · subst y
          intro w
          dsimp only at x1 x2
          rw [x1, x2] at hfl
          omega
        · exact z.2 b u (by omega) h'
      · have nlt : ¬ l2 j < e2 i := fun z => hfl ((zi_lt hL hf).mp z)
        have key3 := loop_0 (fun m3 u (s : Nat × (Nat → Int32) × (Nat → Int32)) => wX_narrowByStretches_41 post (wX_narrowByStretches_4 post m) (wX_narrowByStretches_14 post (wX_narrowByStretches_4 post m) (nI i) m2) (nI i) (nI j) (e2 i) (l2 j) m3 (nI s.1) (nI u) ml ll (nI n) op fd fa fb uo cy ini seq mac pv pt wa tr (s.2.1) (s.2.2) pl ri)
          (fun u s => s.1 ≤ 300 * i + 30 * j + 10 * u ∧ xs_S n lat dl un len (zI tr) lo ea la (((∀ a b u, a < i → b < n → u ≤ 2 → qn_Z n un (zI tr) (zI ea) (zI la) a b u) ∧ ∀ b u, b < j → u ≤ 2 → qn_Z n un (zI tr) (zI ea) (zI la) i b u) ∧ (e2 = ea ∧ l2 = la) ∧ ∀ v, v < u → qn_Z n un (zI tr) (zI ea) (zI la) i j v) s.1 s.2.1 s.2.2) 3 (q2, e2, l2) ⟨by dsimp only; omega, xs_Sq S2 fun x1 x2 z => ⟨z, ⟨x1, x2⟩, fun v h => absurd h (Nat.not_lt_zero v)⟩⟩ (fun m3 s I3 => ?_) (fun m3 u s hu I3 ih3 => ?_)
        · exact key3
        · obtain ⟨q3, e3, l3⟩ := s
          obtain ⟨b3, S3⟩ := I3
          dsimp only at b3 S3 ⊢
          refine br_f nlt (br_t (by decide) (nm_r (nI_1 j) (ih2 (q3, e3, l3) ⟨by dsimp only; omega, xs_Sq S3 fun x1 x2 z => ⟨z.1.1, fun b v h h' => ?_⟩⟩)))
          by_cases y : b = j
          · subst y; exact z.2.2 v (by omega)
          · exact z.1.2 b v (by omega) h'
        · obtain ⟨q3, e3, l3⟩ := s
          obtain ⟨b3, S3⟩ := I3
          dsimp only at b3 S3 ⊢
          have hu2 : ¬ (2 : Int32) < nI u := fun z => by
            rw [show (2 : Int32) = nI 2 from rfl, nI_ltI (by omega) (by omega)] at z
            omega
          refine br_f nlt (br_f hu2 (xs_spare H (by omega) hf hL (by omega) (by omega) (by omega) (fun x hx => ?_)))
          refine zi_bl zi_0 hx (fun p => ?_) (fun p => hc e3 l3 (qn_crowd S3.1.1 (by omega) (by omega) p))
          refine zi_be hx zi_0 (fun p0 => ?_) (fun p0 => nm_r (nI_1 u) (ih3 (q3, e3, l3) ⟨by dsimp only; omega, xs_Sq S3 fun x1 x2 z => ⟨z.1, z.2.1, lt_s z.2.2 ?_⟩⟩))
          · refine xs_keep H (by omega) S3.1 S3.2.2.1 hf hL (by omega) (by omega) (by omega) p0 (fun w => ?_) (fun q4 e4 l4 w1 w2 w3 w4 w5 w6 => ?_)
            · refine nm_r (show nI q3 + 0 = nI q3 from Int32.add_zero _) (nm_r (nI_1 u) (ih3 (q3, e3, l3) ⟨by dsimp only; omega, xs_Sq S3 fun x1 x2 z => ⟨z.1, z.2.1, lt_s z.2.2 ?_⟩⟩))
              intro _
              dsimp only at x1 x2
              rw [x1, x2, z.2.1.1, z.2.1.2] at w p0
              exact ⟨by omega, fun _ => w⟩
            · refine nm_r (nI_add q3 q4) (nm_r (nI_1 u) (ih3 (q3 + q4, e4, l4) ⟨by dsimp only; omega, w3, qn_Dt S3.2.1 w4, w5, Or.inr ⟨by dsimp only; omega, ?_⟩⟩))
              have := qn_wD S3.2.1
              dsimp only
              omega
          · intro _
            dsimp only at x1 x2
            rw [x1, x2, z.2.1.1, z.2.1.2] at p p0
            exact ⟨by omega, fun z' => absurd z' p0⟩
theorem xs_chance {post : Int32 → St2 → Prop} {n D : Nat} {x2 : Int32} {lat : Nat → Int} {dl wt : Nat → Nat → Int} {un : Nat → Nat} {len : Int} {ch : Nat → Nat} (H : xs_H n ml ll op uo wa lat wt un) (hw : qw_W n dl wt un)
    (hlen : x2.toInt = len) (hl2 : 0 ≤ len ∧ len ≤ 40) (hll : ∀ i, i < n → lat i ≤ len) (St : qd_St n lat len D (zI tr) ch) (hch : ∀ j, j < D → pl j = nI (ch j))
    (h1 : ∀ ea' la', qo_S n lat dl wt un len (zI tr) (qd_lo D (zI tr) ch) true (zI ea') → post 1 (ml, ll, nI n, op, fd, fa, fb, uo, cy, ini, seq, mac, pv, pt, wa, tr, ea', la', pl, ri))
    (h0 : ∀ ea' la', qo_S n lat dl wt un len (zI tr) (qd_lo D (zI tr) ch) false (zI ea') → post 0 (ml, ll, nI n, op, fd, fa, fb, uo, cy, ini, seq, mac, pv, pt, wa, tr, ea', la', pl, ri)) : wpX_leavesChance post (ml, ll, nI n, op, fd, fa, fb, uo, cy, ini, seq, mac, pv, pt, wa, tr, ea, la, pl, ri) (nI D) x2 := by
  have n1 := H.1
  have n10 := H.2.1
  have hlat := H.2.2.1
  have hun := H.2.2.2.2
  have hlo : ∀ i, i < n → 0 ≤ qd_lo D (zI tr) ch i ∧ qd_lo D (zI tr) ch i ≤ 40 := by
    intro i hi
    cases D with
    | zero => exact ⟨Int.le_refl 0, by show (0 : Int) ≤ 40; decide⟩
    | succ d =>
      have hc := St.2.2 d (by omega)
      have h1 := (St.1 (ch d) hc.1).resolve_left hc.2
      have h2 := (hlat (ch d) hc.1).2.1
      show 0 ≤ qo_lk (ch d) (zI tr (ch d)) i ∧ qo_lk (ch d) (zI tr (ch d)) i ≤ 40
      by_cases y : ch d < i
      · rw [qo_lkg y]; omega
      · rw [qo_lkl y]; omega
  unfold wpX_leavesChance
  dsimp only
  refine xs_open H hlen hl2 St hch (fun ea0 la0 hO => ?_)
  have J0 : qn_J n lat dl un len (zI tr) (qd_lo D (zI tr) ch) (zI ea0) (zI la0) := qn_J0 (fun i hi => (hO i hi).1) (fun i hi => (hO i hi).2)
  have R0 : xs_R n (zI ea0) (zI la0) := by
    intro i hi
    have h2 := hlat i hi
    have h3 := hll i hi
    have h4 := hlo i hi
    by_cases y : zI tr i = -1
    · have := (hO i hi).2 y
      omega
    · have := (hO i hi).1 y
      have := (St.1 i hi).resolve_left y
      omega
  have W0 : qn_w n (zI ea0) (zI la0) ≤ 400 := by
    have h2 := qn_Sb (R := fun i => zI la0 i - zI ea0 i + 1) (b := 40) n (fun i hi => by have := R0 i hi; show zI la0 i - zI ea0 i + 1 ≤ 40; omega)
    unfold qn_w
    omega
  have key := loop_0 (fun m r (s : (Nat → Int32) × (Nat → Int32)) => wX_leavesChance_8 post m (nI r) ml ll (nI n) op fd fa fb uo cy ini seq mac pv pt wa tr (s.1) (s.2) pl ri)
    (fun r s => qn_J n lat dl un len (zI tr) (qd_lo D (zI tr) ch) (zI s.1) (zI s.2) ∧ xs_R n (zI s.1) (zI s.2) ∧ qn_w n (zI s.1) (zI s.2) + (r : Int) ≤ 400 ∧ r ≤ 400) 401 (ea0, la0) ⟨J0, R0, by dsimp only; omega, by omega⟩ (fun m s I => ?_) (fun m r s hr I ih => ?_)
  · exact key
  · have := I.2.2.2
    omega
  · obtain ⟨e, l⟩ := s
    obtain ⟨J, R, W, r4⟩ := I
    dsimp only at J R W ⊢
    refine br_f (nI_ge (b := 401) hr (by decide)) (xs_edges H hw J R (fun e1 l1 J1 D1 E1 O1 => br_f (by decide) ?_) (fun e1 l1 no => br_t rfl (h0 e1 l1 (qn_no no))))
    have W1 := qn_wD D1
    have W2 := qn_w1 (e := zI e1) (l := zI l1) n1 (fun i hi => (O1 i hi).2.1)
    refine xs_stretch H J1 (fun i hi => by have := O1 i hi; omega) (fun z => ?_) (fun q e2 l2 q1 q2 J2 R2 W3 => ?_) (fun e2 l2 no => ?_)
    · refine br_f (by decide) (br_t rfl (h1 e1 l1 (qn_fin (fun i hi => (hun i hi).2) (fun i hi _ => (hlo i hi).1) J1 E1 (fun i hi => (O1 i hi).2.1) z)))
    · refine br_t (nI_lt (a := 0) (by omega) (by omega)) (nm_r (nI_1 r) (ih (e2, l2) ⟨J2, R2, by dsimp only; omega, by omega⟩))
    · exact br_f (by decide) (br_f (by decide) (h0 e2 l2 (qn_no no)))
end
