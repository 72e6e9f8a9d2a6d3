/-! what check's answer says of the cycles -/
theorem zq_T {n : Nat} {ml ll : Int32} {op cy : Nat → Int32} (L1 : zv_L ml) (L2 : zv_L ll) (K : zc_K n cy) (U : ¬ zc_U n cy) : ∀ k, k ≤ n → ∃ T, T ≤ 67 ∧ zr_len ml ll op cy k = nI T ∧ (∀ i, i < k → zI cy i + zv_T1 ml ll op i ≤ (T : Int)) ∧ (T = 0 ∨ ∃ i, i < k ∧ (T : Int) = zI cy i + zv_T1 ml ll op i) := by
  intro k
  induction k with
  | zero => intro _; exact ⟨0, by omega, rfl, fun i hi => absurd hi (Nat.not_lt_zero i), Or.inl rfl⟩
  | succ k ih =>
    intro hk
    obtain ⟨T, hT, e, h1, h2⟩ := ih (by omega)
    have e1 : zr_len ml ll op cy (k + 1) = if cy k + zv_lat ml ll op k ≤ zr_len ml ll op cy k then zr_len ml ll op cy k else cy k + zv_lat ml ll op k := rfl
    rcases K k (by omega) with h | ⟨c, hc, h⟩
    · exact absurd ⟨k, by omega, h⟩ U
    · obtain ⟨a, a1, a2, e2⟩ := zv_latL (op := op) L1 L2 k
      have ec : zI cy k = (c : Int) := by unfold zI; rw [h, nI_toInt (by omega)]
      have ea : zv_T1 ml ll op k = (a : Int) := by unfold zv_T1; rw [e2, nI_toInt (by omega)]
      rw [e1, e, h, e2, nI_add]
      by_cases q : c + a ≤ T
      · rw [if_pos ((nI_leI (by omega) (by omega)).mpr q)]
        refine ⟨T, hT, rfl, lt_s h1 (by rw [ec, ea]; omega), ?_⟩
        rcases h2 with h2 | ⟨i, hi, h2⟩
        · exact Or.inl h2
        · exact Or.inr ⟨i, by omega, h2⟩
      · rw [if_neg (fun z => q ((nI_leI (by omega) (by omega)).mp z))]
        refine ⟨c + a, by omega, rfl, fun i hi => ?_, Or.inr ⟨k, by omega, by rw [ec, ea]; omega⟩⟩
        by_cases y : i = k
        · subst y; rw [ec, ea]; omega
        · have := h1 i (by omega)
          omega
theorem zq_e {cy : Nat → Int32} {i j : Nat} : cy i = cy j ↔ zI cy i = zI cy j := by
  unfold zI
  exact Int32.toInt_inj.symm
theorem zq_un {n : Nat} {op fd fa fb : Nat → Int32} (F : zv_F n op fd fa fb) {i j : Nat} (hi : i < n) (hj : j < n) : (zv_un (op i) = zv_un (op j) ∧ zv_un (op i) ≠ 0) ↔ (((op i = 5 ∨ op i = 6) ∧ (op j = 5 ∨ op j = 6)) ∨ (op i = 4 ∧ op j = 4)) := by
  unfold zv_un
  rcases zv_nI6 (F i hi).1 with o | o | o | o | o | o <;> rcases zv_nI6 (F j hj).1 with p | p | p | p | p | p <;> rw [o, p] <;> decide
theorem zq_V {n T : Nat} {ml ll : Int32} {op fd fa fb cy : Nat → Int32} (F : zv_F n op fd fa fb) (K : zc_K n cy) (U : ¬ zc_U n cy) (hd : ∀ i, i < n → zc_B1 (zv_D ml ll op fd fa fb) (zI cy) n i) (h2 : ¬ zc_V n cy (fun _ => True) 2) (hm : ¬ zc_V n cy (fun j => op j = 5 ∨ op j = 6) 1) (hu : ¬ zc_V n cy (fun j => op j = 4) 1)
    (hT : ∀ i, i < n → zI cy i + zv_T1 ml ll op i ≤ (T : Int)) : qs_V n (zv_T1 ml ll op) (zv_D ml ll op fd fa fb) (fun i => zv_un (op i)) (T : Int) (zI cy) := by
  refine ⟨fun i hi => ⟨?_, hT i hi⟩, fun i j hij hj h => hd i (by omega) j hij hj h, fun i j k hij hjk hk e1 e2 => h2 ⟨i, by omega, ?_⟩, fun i j hij hj e1 e2 => ?_⟩
  · rcases K i hi with h | ⟨c, hc, h⟩
    · exact absurd ⟨i, hi, h⟩ U
    · unfold zI; rw [h, nI_toInt (by omega)]; omega
  · have : 3 ≤ zc_n cy (fun _ => True) i n := qc_three n i j k hij hjk hk ⟨rfl, trivial⟩ ⟨(zq_e.mpr e1).symm, trivial⟩ ⟨(zq_e.mpr (e1.trans e2)).symm, trivial⟩
    omega
  · by_cases z : zv_un (op i) = 0
    · exact z
    · exfalso
      rcases (zq_un F (show i < n by omega) hj).mp ⟨e2, z⟩ with ⟨a, b⟩ | ⟨a, b⟩
      · have : 2 ≤ zc_n cy (fun j => op j = 5 ∨ op j = 6) i n := qc_two n i j hij hj ⟨rfl, a⟩ ⟨(zq_e.mpr e1).symm, b⟩
        exact hm ⟨i, by omega, by omega⟩
      · have : 2 ≤ zc_n cy (fun j => op j = 4) i n := qc_two n i j hij hj ⟨rfl, a⟩ ⟨(zq_e.mpr e1).symm, b⟩
        exact hu ⟨i, by omega, by omega⟩
theorem zq_C {n : Nat} {len : Int} {ml ll : Int32} {op fd fa fb cy : Nat → Int32} (F : zv_F n op fd fa fb) (V : qs_V n (zv_T1 ml ll op) (zv_D ml ll op fd fa fb) (fun i => zv_un (op i)) len (zI cy)) :
    ¬ zc_U n cy ∧ (∀ i, i < n → zc_B1 (zv_D ml ll op fd fa fb) (zI cy) n i) ∧ ¬ zc_V n cy (fun _ => True) 2 ∧ ¬ zc_V n cy (fun j => op j = 5 ∨ op j = 6) 1 ∧ ¬ zc_V n cy (fun j => op j = 4) 1 := by
  refine ⟨fun ⟨i, hi, e⟩ => ?_, fun i hi j hij hj h => V.2.1 i j hij hj h, fun ⟨i, hi, e⟩ => ?_, fun ⟨i, hi, e⟩ => ?_, fun ⟨i, hi, e⟩ => ?_⟩
  · have := (V.1 i hi).1
    rw [zi_m1e.mp e |> (fun z => (show zI cy i = -1 from z))] at this
    omega
  · have : zc_n cy (fun _ => True) i n ≤ 2 := qc_le2 n fun a b c hab hbc hc ea eb ec => V.2.2.1 a b c hab hbc hc (zq_e.mp (ea.1.trans eb.1.symm)) (zq_e.mp (eb.1.trans ec.1.symm))
    omega
  · have : zc_n cy (fun j => op j = 5 ∨ op j = 6) i n ≤ 1 := qc_le1 n fun a b hab hb ea eb => by
      have u := (zq_un F (show a < n by omega) hb).mpr (Or.inl ⟨ea.2, eb.2⟩)
      exact u.2 (V.2.2.2 a b hab hb (zq_e.mp (ea.1.trans eb.1.symm)) u.1)
    omega
  · have : zc_n cy (fun j => op j = 4) i n ≤ 1 := qc_le1 n fun a b hab hb ea eb => by
      have u := (zq_un F (show a < n by omega) hb).mpr (Or.inr ⟨ea.2, eb.2⟩)
      exact u.2 (V.2.2.2 a b hab hb (zq_e.mp (ea.1.trans eb.1.symm)) u.1)
    omega
/-- check answers the length of a valid schedule -/
theorem zq_B {n : Nat} {len : Int} {ml ll : Int32} {op fd fa fb cy : Nat → Int32} (hn : 1 ≤ n) (F : zv_F n op fd fa fb) (V : qs_V n (zv_T1 ml ll op) (zv_D ml ll op fd fa fb) (fun i => zv_un (op i)) len (zI cy)) : zc_ans n (zv_D ml ll op fd fa fb) op cy (zr_len ml ll op cy n) = zr_len ml ll op cy n := by
  obtain ⟨c1, c2, c3, c4, c5⟩ := zq_C F V
  unfold zc_ans
  rw [zc_if (show ¬ n = 0 by omega), zc_if c1, zc_if (fun z => z c2), zc_if c3, zc_if c4, zc_if c5]
/-- a positive answer of check is the length of a valid schedule -/
theorem zq_A {n : Nat} {ml ll : Int32} {op fd fa fb cy : Nat → Int32} {x : Int32} (F : zv_F n op fd fa fb) (L1 : zv_L ml) (L2 : zv_L ll) (K : zc_K n cy) (h : 0 < (zc_ans n (zv_D ml ll op fd fa fb) op cy (zr_len ml ll op cy n)).toInt) :
    ∃ T, T ≤ 67 ∧ zr_len ml ll op cy n = nI T ∧ zc_ans n (zv_D ml ll op fd fa fb) op cy (zr_len ml ll op cy n) = nI T ∧ (∀ i, i < n → zI cy i + zv_T1 ml ll op i ≤ (T : Int)) ∧ qs_V n (zv_T1 ml ll op) (zv_D ml ll op fd fa fb) (fun i => zv_un (op i)) (T : Int) (zI cy) := by
  unfold zc_ans at h ⊢
  by_cases a0 : n = 0
  · rw [zc_it a0] at h; exact absurd h (by decide)
  rw [zc_if a0] at h ⊢
  by_cases a1 : zc_U n cy
  · rw [zc_it a1] at h; exact absurd h (by decide)
  rw [zc_if a1] at h ⊢
  by_cases a2 : ∀ i, i < n → zc_B1 (zv_D ml ll op fd fa fb) (zI cy) n i
  · rw [zc_if (fun z => z a2)] at h ⊢
    by_cases a3 : zc_V n cy (fun _ => True) 2
    · rw [zc_it a3] at h; exact absurd h (by decide)
    rw [zc_if a3] at h ⊢
    by_cases a4 : zc_V n cy (fun j => op j = 5 ∨ op j = 6) 1
    · rw [zc_it a4] at h; exact absurd h (by decide)
    rw [zc_if a4] at h ⊢
    by_cases a5 : zc_V n cy (fun j => op j = 4) 1
    · rw [zc_it a5] at h; exact absurd h (by decide)
    rw [zc_if a5] at h ⊢
    obtain ⟨T, hT, e, h1, _⟩ := zq_T (op := op) L1 L2 K a1 n (Nat.le_refl n)
    exact ⟨T, hT, e, e, h1, zq_V F K a1 a2 a3 a4 a5 h1⟩
  · rw [zc_it a2] at h; exact absurd h (by decide)
/-- a valid schedule's run leaves the same values both ways -/
theorem zq_R {n T : Nat} {len : Int} {ml ll : Int32} {op fd fa fb cy ini seq mac pv pt : Nat → Int32} (F : zv_F n op fd fa fb) (L1 : zv_L ml) (L2 : zv_L ll) (K : zc_K n cy) (hT : T ≤ 67) (h1 : ∀ i, i < n → zI cy i + zv_T1 ml ll op i ≤ (T : Int)) (V : qs_V n (zv_T1 ml ll op) (zv_D ml ll op fd fa fb) (fun i => zv_un (op i)) len (zI cy)) {S M V' P : Nat → Int32}
    (eS : S = zr_seq op fd fa fb (zr_fill ini seq 16) n) (eM : (M, V', P) = zr_mach ml ll op fd fa fb cy n (zr_fill ini mac 16) pv pt T) : ∀ l, l < 16 → S l = M l := by
  have cN : ∀ i, i < n → cy i = nI (zI cy i).toNat ∧ (zI cy i).toNat ≤ 63 := by
    intro i hi
    have h0 := (V.1 i hi).1
    have h2 := zc_cyr K hi
    refine ⟨?_, by omega⟩
    have := zh_nI (x := cy i) h0
    exact this
  have lN' : ∀ i, i < n → zv_lat ml ll op i = nI (zv_T1 ml ll op i).toNat ∧ 1 ≤ (zv_T1 ml ll op i).toNat ∧ (zv_T1 ml ll op i).toNat ≤ 4 := by
    intro i hi
    have h2 := zv_Tr (op := op) L1 L2 i
    exact ⟨zh_nI (x := zv_lat ml ll op i) (by unfold zv_T1 at h2; omega), by omega, by omega⟩
  have D := zp_done F L1 L2 cN lN' (fun i j hij hj h => by
    have a := V.2.1 i j hij hj h
    have b := (V.1 i (by omega)).1
    have c := (V.1 j hj).1
    unfold zv_D at a
    omega) (zr_fill ini mac 16) pv pt (t := T) (by omega) (fun i hi => by
    have a := h1 i hi
    have b := (V.1 i hi).1
    have c := zv_Tr (op := op) L1 L2 i
    omega)
  intro l hl
  have eM1 : M = (zr_mach ml ll op fd fa fb cy n (zr_fill ini mac 16) pv pt T).1 := by rw [← eM]
  rw [eM1, D, eS]
  exact zp_agree F (fun l hl => by rw [zp_fill 16 l hl, zp_fill 16 l hl]) n (Nat.le_refl n) l hl
