theorem qn_Fb {un : Nat → Nat} {t : Nat → Int} {u : Nat} {f la : Int} : ∀ n, n ≤ 10 → qn_F un t u f la n ≤ 10 * n := by
  intro n
  induction n with
  | zero => intro _; exact Nat.le_refl 0
  | succ n ih =>
    intro hn
    have h1 := ih (by omega)
    by_cases h : f ≤ t n ∧ t n ≤ la ∧ un n ≠ u
    · rw [qn_Ft h]
      have := qc_le (p := fun j => t j = t n ∧ un j ≠ u) n
      omega
    · rw [qn_Ff h]; omega
section
variable {ml ll fn : Int32} {op fd fa fb uo cy ini seq mac pv pt wa tr ea la pl ri : Nat → Int32}
theorem xs_full {post : Int32 → Prop} {n u : Nat} {first last : Int32} {lat : Nat → Int} {wt : Nat → Nat → Int} {un : Nat → Nat} {f L : Int} (H : xs_H n ml ll op uo wa lat wt un) (hu : u ≤ 2) (hf : first.toInt = f) (hL : last.toInt = L)
    (h : post (nI (qn_F un (zI tr) u f L n))) : wpX_bundlesFullWithout post (ml, ll, nI n, op, fd, fa, fb, uo, cy, ini, seq, mac, pv, pt, wa, tr, ea, la, pl, ri) first last (nI u) := by
  obtain ⟨n1, n10, hlat, hwt, hun⟩ := H
  unfold wpX_bundlesFullWithout
  dsimp only
  have key := loop_0 (fun m i (s : Nat) => wX_bundlesFullWithout_6 post first last (nI u) ml ll (nI n) op fd fa fb uo cy ini seq mac pv pt wa tr ea la pl ri m (nI s) (nI i)) (fun i s => s = qn_F un (zI tr) u f L i) n 0 rfl (fun m s I => ?_) (fun m i s hi I ih => ?_)
  · exact key
  · rw [← I] at h
    exact br_t (nI_le (Nat.le_refl n) (by omega)) h
  · have hin : vp_in (nI i) 10 := vp_in_nI (by omega) (by omega)
    have hr : (tr i).toInt = zI tr i := rfl
    refine br_f (nI_ge hi (by omega)) ⟨hin, ?_⟩
    rw [nI_clamp (show i < 2 ^ 31 by omega)]
    refine zi_bt hr hf (fun q => nm_r (nI_1 i) (ih s ?_)) (fun q => ⟨hin, ?_⟩)
    · rw [I, qn_Ff (fun z => by have := z.1; omega)]
    refine zi_bt hL hr (fun q2 => nm_r (nI_1 i) (ih s ?_)) (fun q2 => ⟨hin, ?_⟩)
    · rw [I, qn_Ff (fun z => by have := z.2.1; omega)]
    rw [(hun i hi).1]
    refine pk_eq (un i) u (fun q3 => nm_r (nI_1 i) (ih s ?_)) (fun q3 => ?_) rfl rfl (by have := (hun i hi).2; omega) (by omega)
    · rw [I, qn_Ff (fun z => z.2.2 q3)]
    have key2 := loop_0 (fun m2 j (x : Nat) => wX_bundlesFullWithout_51 post (wX_bundlesFullWithout_6 post first last (nI u) ml ll (nI n) op fd fa fb uo cy ini seq mac pv pt wa tr ea la pl ri m) first last (nI u) (nI i) ml ll (nI n) op fd fa fb uo cy ini seq mac pv pt wa tr ea la pl ri m2 (nI x) (nI j)) (fun j x => x = s + qc_n (fun j => zI tr j = zI tr i ∧ un j ≠ u) j) i s rfl (fun m2 x I2 => ?_) (fun m2 j x hj I2 ih2 => ?_)
    · exact key2
    · refine br_t (nI_le (Nat.le_refl i) (by omega)) (nm_r (nI_1 i) (ih x ?_))
      rw [I2, I, qn_Ft ⟨q, q2, q3⟩]
    · have hjn : vp_in (nI j) 10 := vp_in_nI (by omega) (by omega)
      refine br_f (nI_ge hj (by omega)) ⟨hjn, hin, ?_⟩
      rw [nI_clamp (show i < 2 ^ 31 by omega), nI_clamp (show j < 2 ^ 31 by omega)]
      refine zi_be (show (tr j).toInt = zI tr j from rfl) hr (fun a => ⟨hjn, ?_⟩) (fun a => nm_r (nI_1 j) (ih2 x ?_))
      · rw [(hun j (by omega)).1]
        refine pk_eq (un j) u (fun b => nm_r (nI_1 j) (ih2 x ?_)) (fun b => nm_r (nI_1 x) (nm_r (nI_1 j) (ih2 (x + 1) ?_))) rfl rfl (by have := (hun j (by omega)).2; omega) (by omega)
        · rw [I2, qc_f (p := fun j => zI tr j = zI tr i ∧ un j ≠ u) (fun z => z.2 b)]
        · rw [I2, qc_t (p := fun j => zI tr j = zI tr i ∧ un j ≠ u) ⟨a, b⟩]; rfl
      · rw [I2, qc_f (p := fun j => zI tr j = zI tr i ∧ un j ≠ u) (fun z => a z.1)]
theorem xs_spare {post : Int32 → Prop} {n u : Nat} {first last : Int32} {lat : Nat → Int} {wt : Nat → Nat → Int} {un : Nat → Nat} {f L : Int} (H : xs_H n ml ll op uo wa lat wt un) (hu : u ≤ 2) (hf : first.toInt = f) (hL : last.toInt = L) (h0 : 0 ≤ f) (hfL : f ≤ L) (h39 : L ≤ 39)
    (h : ∀ x : Int32, x.toInt = qn_sp n un (zI tr) (zI ea) (zI la) u f L → post x) : wpX_spareRoom post (ml, ll, nI n, op, fd, fa, fb, uo, cy, ini, seq, mac, pv, pt, wa, tr, ea, la, pl, ri) first last (nI u) := by
  have H' := H
  obtain ⟨n1, n10, hlat, hwt, hun⟩ := H
  unfold wpX_spareRoom
  dsimp only
  have key := loop_0 (fun m i (s : Nat) => wX_spareRoom_6 post first last (nI u) ml ll (nI n) op fd fa fb uo cy ini seq mac pv pt wa tr ea la pl ri m (nI s) (nI i)) (fun i s => s = qc_n (fun i => f ≤ zI ea i ∧ zI la i ≤ L ∧ qn_us un u i) i) n 0 rfl (fun m s I => ?_) (fun m i s hi I ih => ?_)
  · exact key
  · have hs : s ≤ n := by rw [I]; exact qc_le n
    have hN : qn_N n un (zI ea) (zI la) u f L = s := I.symm
    have hsI : (nI s).toInt = (s : Int) := nI_toInt (by omega)
    have e1 : (last - first + 1).toInt = L - f + 1 := zi_add (zi_sub hL hf (by omega) (by omega)) zi_1 (by omega) (by omega)
    refine br_t (nI_le (Nat.le_refl n) (by omega)) (xk_cap hu (nm_e ?_))
    by_cases z : u = 0
    · have e2 : ((last - first + 1) * nI (if u = 0 then 2 else 1)).toInt = (L - f + 1) * 2 := by
        rw [if_pos z]
        exact zi_mul e1 (by decide) (by omega) (by omega)
      have e3 : ((last - first + 1) * nI (if u = 0 then 2 else 1) - nI s).toInt = (L - f + 1) * 2 - (s : Int) := zi_sub e2 hsI (by omega) (by omega)
      refine pk_eq u 0 (fun _ => h _ ?_) (fun z' => absurd z z')
      rw [e3]
      unfold qn_sp
      rw [if_pos z, if_neg (fun y => y.1 z), hN]
      omega
    · have e2 : ((last - first + 1) * nI (if u = 0 then 2 else 1)).toInt = L - f + 1 := by
        rw [if_neg z]
        have := zi_mul (y := 1) e1 (show (nI 1).toInt = 1 by decide) (by omega) (by omega)
        rw [this]; omega
      refine pk_eq u 0 (fun z' => absurd z' z) (fun _ => pk_le s 0 (fun y => h _ ?_) (fun y => ?_))
      · rw [zi_sub e2 hsI (by omega) (by omega)]
        unfold qn_sp
        rw [if_neg z, if_neg (fun w => by rw [hN] at w; have := w.2; omega), hN]
        omega
      · refine xs_full H' hu hf hL (nm_e (h _ ?_))
        have hF := qn_Fb (un := un) (t := zI tr) (u := u) (f := f) (la := L) n n10
        have e4 : ((last - first + 1) * nI (if u = 0 then 2 else 1) - nI (qn_F un (zI tr) u f L n)).toInt = L - f + 1 - (qn_F un (zI tr) u f L n : Int) := zi_sub e2 (nI_toInt (by omega)) (by omega) (by omega)
        rw [zi_sub e4 hsI (by omega) (by omega)]
        unfold qn_sp
        rw [if_neg z, if_pos ⟨z, by rw [hN]; exact y⟩, hN]
        omega
  · have hin : vp_in (nI i) 10 := vp_in_nI (by omega) (by omega)
    refine br_f (nI_ge hi (by omega)) ⟨hin, ?_⟩
    rw [nI_clamp (show i < 2 ^ 31 by omega)]
    refine zi_bt (show (ea i).toInt = zI ea i from rfl) hf (fun q => nm_r (nI_1 i) (ih s ?_)) (fun q => ⟨hin, ?_⟩)
    · rw [I, qc_f (p := fun i => f ≤ zI ea i ∧ zI la i ≤ L ∧ qn_us un u i) (fun z => by have := z.1; omega)]
    refine zi_bt hL (show (la i).toInt = zI la i from rfl) (fun q2 => nm_r (nI_1 i) (ih s ?_)) (fun q2 => ?_)
    · rw [I, qc_f (p := fun i => f ≤ zI ea i ∧ zI la i ≤ L ∧ qn_us un u i) (fun z => by have := z.2.1; omega)]
    refine xk_uses (by omega) hu (hun i hi).1 (hun i hi).2 (fun q3 => br_f (by decide) (nm_r (nI_1 s) (nm_r (nI_1 i) (ih (s + 1) ?_)))) (fun q3 => br_t rfl (nm_r (nI_1 i) (ih s ?_)))
    · rw [I, qc_t (p := fun i => f ≤ zI ea i ∧ zI la i ≤ L ∧ qn_us un u i) ⟨q, q2, q3⟩]
    · rw [I, qc_f (p := fun i => f ≤ zI ea i ∧ zI la i ≤ L ∧ qn_us un u i) (fun z => q3 z.2.2)]
theorem xs_k71 {post : Int32 → St2 → Prop} {J6 : Int32 → Int32 → (Nat → Int32) → (Nat → Int32) → (Nat → Int32) → (Nat → Int32) → (Nat → Int32) → (Nat → Int32) → (Nat → Int32) → (Nat → Int32) → (Nat → Int32) → (Nat → Int32) → (Nat → Int32) → (Nat → Int32) → (Nat → Int32) → (Nat → Int32) → (Nat → Int32) → (Nat → Int32) → (Nat → Int32) → Prop} {n u i s : Nat} {first last x6 z0 : Int32} {lat : Nat → Int} {wt : Nat → Nat → Int} {un : Nat → Nat} {S E : Prop} (H : xs_H n ml ll op uo wa lat wt un) (hu : u ≤ 2) (hi : i < n)
    (hS : (x6 = 1 ∧ S) ∨ (x6 = 0 ∧ ¬ S)) (hE : (z0 = 1 ∧ E) ∨ (z0 = 0 ∧ ¬ E))
    (h0 : (qn_us un u i → (S ↔ E)) → J6 (nI s) (nI (i + 1)) op fd fa fb uo cy ini seq mac pv pt wa tr ea la pl ri) (h1 : qn_us un u i → S → ¬ E → J6 (nI (s + 1)) (nI (i + 1)) op fd fa fb uo cy ini seq mac pv pt wa tr (upd ea i (last + 1)) la pl ri) (h2 : qn_us un u i → ¬ S → E → J6 (nI (s + 1)) (nI (i + 1)) op fd fa fb uo cy ini seq mac pv pt wa tr ea (upd la i (first - 1)) pl ri) :
    wX_keepOut_71 post J6 first last (nI u) (nI s) (nI i) x6 z0 ml ll (nI n) op fd fa fb uo cy ini seq mac pv pt wa tr ea la pl ri := by
  have hn := H.2.1
  have hun := H.2.2.2.2 i hi
  have hin : vp_in (nI i) 10 := vp_in_nI (by omega) (by omega)
  unfold wX_keepOut_71
  rw [nI_clamp (show i < 2 ^ 31 by omega)]
  refine xk_uses (by omega) hu hun.1 hun.2 (fun q => br_f (by decide) ?_) (fun q => br_t rfl (nm_r (nI_1 i) (h0 fun z => absurd z q)))
  rcases hS with ⟨rfl, hS⟩ | ⟨rfl, hS⟩
  · rcases hE with ⟨rfl, hE⟩ | ⟨rfl, hE⟩
    · exact br_t rfl (nm_r (nI_1 i) (h0 fun _ => ⟨fun _ => hE, fun _ => hS⟩))
    · exact br_f (by decide) (br_f (by decide) ⟨hin, nm_e (nm_r (nI_1 s) (nm_r (nI_1 i) (h1 q hS hE)))⟩)
  · rcases hE with ⟨rfl, hE⟩ | ⟨rfl, hE⟩
    · exact br_f (by decide) (br_t rfl ⟨hin, nm_e (nm_r (nI_1 s) (nm_r (nI_1 i) (h2 q hS hE)))⟩)
    · exact br_t rfl (nm_r (nI_1 i) (h0 fun _ => ⟨fun z => absurd z hS, fun z => absurd z hE⟩))
theorem xs_keep {post : Int32 → St2 → Prop} {n u : Nat} {first last : Int32} {lat lo : Nat → Int} {dl wt : Nat → Nat → Int} {un : Nat → Nat} {len f L : Int} (H : xs_H n ml ll op uo wa lat wt un) (hu : u ≤ 2) (J : qn_J n lat dl un len (zI tr) lo (zI ea) (zI la)) (R : xs_R n (zI ea) (zI la))
    (hf : first.toInt = f) (hL : last.toInt = L) (hf0 : 0 ≤ f) (hfL : f ≤ L) (h39 : L ≤ 39) (hsp : qn_sp n un (zI tr) (zI ea) (zI la) u f L = 0)
    (h0 : (∀ m, m < n → qn_us un u m → ((f ≤ zI ea m ∧ zI ea m ≤ L) ↔ (f ≤ zI la m ∧ zI la m ≤ L))) → post 0 (ml, ll, nI n, op, fd, fa, fb, uo, cy, ini, seq, mac, pv, pt, wa, tr, ea, la, pl, ri))
    (h1 : ∀ q ea' la', 1 ≤ q → q ≤ 10 → qn_J n lat dl un len (zI tr) lo (zI ea') (zI la') → qn_D n (zI ea) (zI la) (zI ea') (zI la') → xs_R n (zI ea') (zI la') → qn_w n (zI ea') (zI la') + 1 ≤ qn_w n (zI ea) (zI la) → post (nI q) (ml, ll, nI n, op, fd, fa, fb, uo, cy, ini, seq, mac, pv, pt, wa, tr, ea', la', pl, ri)) : wpX_keepOut post (ml, ll, nI n, op, fd, fa, fb, uo, cy, ini, seq, mac, pv, pt, wa, tr, ea, la, pl, ri) first last (nI u) := by
  have n10 := H.2.1
  unfold wpX_keepOut
  dsimp only
  have key := loop_0 (fun m i (s : Nat × (Nat → Int32) × (Nat → Int32)) => wX_keepOut_6 post first last (nI u) ml ll (nI n) m (nI s.1) (nI i) op fd fa fb uo cy ini seq mac pv pt wa tr (s.2.1) (s.2.2) pl ri)
    (fun i s => (∀ b, i ≤ b → s.2.1 b = ea b ∧ s.2.2 b = la b) ∧ s.1 ≤ i ∧ qn_J n lat dl un len (zI tr) lo (zI s.2.1) (zI s.2.2) ∧ qn_D n (zI ea) (zI la) (zI s.2.1) (zI s.2.2) ∧ xs_R n (zI s.2.1) (zI s.2.2) ∧
      ((s.1 = 0 ∧ s.2.1 = ea ∧ s.2.2 = la ∧ ∀ m, m < i → qn_us un u m → ((f ≤ zI ea m ∧ zI ea m ≤ L) ↔ (f ≤ zI la m ∧ zI la m ≤ L))) ∨ (1 ≤ s.1 ∧ qn_w n (zI s.2.1) (zI s.2.2) + 1 ≤ qn_w n (zI ea) (zI la))))
    n (0, ea, la) ⟨fun _ _ => ⟨rfl, rfl⟩, Nat.le_refl 0, J, qn_Dr, R, Or.inl ⟨rfl, rfl, rfl, fun m hm => absurd hm (Nat.not_lt_zero m)⟩⟩ (fun m s I => ?_) (fun m i s hi I ih => ?_)
  · exact key
  · obtain ⟨q, e, l⟩ := s
    obtain ⟨i1, i2, i3, i4, i5, i6⟩ := I
    dsimp only at i1 i2 i3 i4 i5 i6 ⊢
    refine br_t (nI_le (Nat.le_refl n) (by omega)) ?_
    rcases i6 with ⟨rfl, rfl, rfl, a⟩ | ⟨a, b⟩
    · exact h0 a
    · exact h1 q e l a (by omega) i3 i4 i5 b
  · obtain ⟨q, e, l⟩ := s
    obtain ⟨i1, i2, i3, i4, i5, i6⟩ := I
    dsimp only at i1 i2 i3 i4 i5 i6 ⊢
    have hin : vp_in (nI i) 10 := vp_in_nI (by omega) (by omega)
    have ei : e i = ea i := (i1 i (Nat.le_refl i)).1
    have li : l i = la i := (i1 i (Nat.le_refl i)).2
    have eiI : zI e i = zI ea i := by unfold zI; rw [ei]
    have liI : zI l i = zI la i := by unfold zI; rw [li]
    have Ri := R i hi
    have eL : (last + 1).toInt = L + 1 := zi_add hL zi_1 (by omega) (by omega)
    have eF : (first - 1).toInt = f - 1 := zi_sub hf zi_1 (by omega) (by omega)
    have last71 : ∀ x6 z0 : Int32, ((x6 = 1 ∧ (f ≤ zI ea i ∧ zI ea i ≤ L)) ∨ (x6 = 0 ∧ ¬ (f ≤ zI ea i ∧ zI ea i ≤ L))) → ((z0 = 1 ∧ (f ≤ zI la i ∧ zI la i ≤ L)) ∨ (z0 = 0 ∧ ¬ (f ≤ zI la i ∧ zI la i ≤ L))) →
        wX_keepOut_71 post (wX_keepOut_6 post first last (nI u) ml ll (nI n) m) first last (nI u) (nI q) (nI i) x6 z0 ml ll (nI n) op fd fa fb uo cy ini seq mac pv pt wa tr e l pl ri := by
      intro x6 z0 hS hE
      refine xs_k71 H hu hi hS hE (fun a => ih (q, e, l) ⟨fun b hb => i1 b (by omega), by omega, i3, i4, i5, ?_⟩) (fun a b c => ?_) (fun a b c => ?_)
      · rcases i6 with ⟨x1, x2, x3, x4⟩ | x
        · exact Or.inl ⟨x1, x2, x3, lt_s x4 a⟩
        · exact Or.inr x
      · have J' := qn_Je (j := i) (x := L + 1) i3 (by rw [eiI]; omega) (fun c' C => qn_out1 J.1 hf0 hfL hsp hi a b c C)
        have D' := qn_De (j := i) (x := L + 1) i4 (by rw [eiI]; omega)
        have R' := xs_Re (j := i) (x := L + 1) i5 (by omega) (by omega)
        have e1 : zI (upd e i (last + 1)) = qg_up (zI e) i (L + 1) := by rw [zI_u, eL]
        refine ih (q + 1, upd e i (last + 1), l) ⟨fun b' hb => ⟨?_, (i1 b' (by omega)).2⟩, by dsimp only; omega, ?_, ?_, ?_, Or.inr ⟨by dsimp only; omega, ?_⟩⟩
        · show upd e i (last + 1) b' = ea b'
          rw [pk_un (by omega)]; exact (i1 b' (by omega)).1
        · dsimp only; rw [e1]; exact J'
        · dsimp only; rw [e1]; exact D'
        · dsimp only; rw [e1]; exact R'
        · dsimp only
          rw [e1]
          refine qn_wDs hi D' ?_
          rw [qg_us, liI]
          omega
      · have J' := qn_Jl (j := i) (x := f - 1) i3 (by rw [liI]; omega) (fun c' C => qn_out2 J.1 hf0 hfL hsp hi a b c C)
        have D' := qn_Dl (j := i) (x := f - 1) i4 (by rw [liI]; omega)
        have R' := xs_Rl (j := i) (x := f - 1) i5 (by omega) (by omega)
        have e1 : zI (upd l i (first - 1)) = qg_up (zI l) i (f - 1) := by rw [zI_u, eF]
        refine ih (q + 1, e, upd l i (first - 1)) ⟨fun b' hb => ⟨(i1 b' (by omega)).1, ?_⟩, by dsimp only; omega, ?_, ?_, ?_, Or.inr ⟨by dsimp only; omega, ?_⟩⟩
        · show upd l i (first - 1) b' = la b'
          rw [pk_un (by omega)]; exact (i1 b' (by omega)).2
        · dsimp only; rw [e1]; exact J'
        · dsimp only; rw [e1]; exact D'
        · dsimp only; rw [e1]; exact R'
        · dsimp only
          rw [e1]
          refine qn_wDs hi D' ?_
          rw [qg_us, eiI]
          omega
    have last42 : ∀ x6 : Int32, ((x6 = 1 ∧ (f ≤ zI ea i ∧ zI ea i ≤ L)) ∨ (x6 = 0 ∧ ¬ (f ≤ zI ea i ∧ zI ea i ≤ L))) → wX_keepOut_42 post (wX_keepOut_6 post first last (nI u) ml ll (nI n) m) first last (nI u) (nI q) (nI i) x6 ml ll (nI n) op fd fa fb uo cy ini seq mac pv pt wa tr e l pl ri := by
      intro x6 hS
      unfold wX_keepOut_42
      rw [nI_clamp (show i < 2 ^ 31 by omega)]
      refine ⟨hin, zi_bt (show (l i).toInt = zI la i by rw [li]; rfl) hf (fun a => last71 x6 0 hS (Or.inr ⟨rfl, fun z => by omega⟩)) (fun a => ⟨hin, zi_bt hL (show (l i).toInt = zI la i by rw [li]; rfl) (fun b => last71 x6 0 hS (Or.inr ⟨rfl, fun z => by omega⟩)) (fun b => last71 x6 1 hS (Or.inl ⟨rfl, a, b⟩))⟩)⟩
    refine br_f (nI_ge hi (by omega)) ⟨hin, ?_⟩
    rw [nI_clamp (show i < 2 ^ 31 by omega)]
    refine zi_bt (show (e i).toInt = zI ea i by rw [ei]; rfl) hf (fun a => last42 0 (Or.inr ⟨rfl, fun z => by omega⟩)) (fun a => ⟨hin, zi_bt hL (show (e i).toInt = zI ea i by rw [ei]; rfl) (fun b => last42 0 (Or.inr ⟨rfl, fun z => by omega⟩)) (fun b => last42 1 (Or.inl ⟨rfl, a, b⟩))⟩)
end
