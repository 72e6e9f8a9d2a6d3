/-! the law's loops, from the last to the first -/
section
variable {ml ll fn : Int32} {op fd fa fb uo cy ini seq mac pv pt wa tr ea la pl ri : Nat → Int32} {ml2 ll2 fn2 : Int32} {op2 fd2 fa2 fb2 uo2 cy2 ini2 seq2 mac2 pv2 pt2 wa2 tr2 ea2 la2 pl2 ri2 : Nat → Int32} {post : Int32 → Prop} {L n S : Nat} {xs : Nat → Int32} {kc ks : Nat}
/-- the block, as both objects hold it -/
def zw_P (n S : Nat) (ml ll : Int32) (op fd fa fb uo : Nat → Int32) : Prop :=
  1 ≤ n ∧ n ≤ 10 ∧ zv_F n op fd fa fb ∧ zv_L ml ∧ zv_L ll ∧ (∀ i, i < n → uo i = nI (zv_un (op i))) ∧ S ≤ 40 ∧ (∀ len : Int, len < (S : Int) → ∀ c, ¬ qs_V n (zv_T1 ml ll op) (zv_D ml ll op fd fa fb) (fun i => zv_un (op i)) len c)
theorem zw_404 {J385 : Int32 → Int32 → Int32 → Int32 → Int32 → (Nat → Int32) → (Nat → Int32) → (Nat → Int32) → (Nat → Int32) → (Nat → Int32) → (Nat → Int32) → (Nat → Int32) → (Nat → Int32) → (Nat → Int32) → (Nat → Int32) → (Nat → Int32) → (Nat → Int32) → (Nat → Int32) → (Nat → Int32) → (Nat → Int32) → (Nat → Int32) → (Nat → Int32) → Int32 → Int32 → Int32 → (Nat → Int32) → (Nat → Int32) → (Nat → Int32) → (Nat → Int32) → (Nat → Int32) → (Nat → Int32) → (Nat → Int32) → (Nat → Int32) → (Nat → Int32) → (Nat → Int32) → (Nat → Int32) → (Nat → Int32) → (Nat → Int32) → (Nat → Int32) → (Nat → Int32) → (Nat → Int32) → (Nat → Int32) → Prop} {k r : Nat} {x10 : Int32} (hL : L ≤ 260) (P : zw_P n S ml ll op fd fa fb uo) (hb : ∀ i, i < n → ∃ c, c ≤ 40 ∧ cy2 i = nI c)
    (hJ : ∀ k', k' ≤ k + n → ∀ cy seq mac pv pt : Nat → Int32, J385 (nI k') (nI (r + 1)) ml ll (nI n) op fd fa fb uo cy ini seq mac pv pt wa tr ea la pl ri ml2 ll2 (nI n) op2 fd2 fa2 fb2 uo2 cy2 ini2 seq2 mac2 pv2 pt2 wa2 tr2 ea2 la2 pl2 ri2) :
    ∀ d i k1, i + d = n → k1 ≤ k + i → k ≤ 200 → ∀ cy : Nat → Int32, (∀ j, j < i → ∃ c, c ≤ 63 ∧ cy j = nI c) → wL_law_404 post L xs J385 (nI n) (nI S) (nI r) x10 kc ks (d + 1) (nI k1) (nI i) ml ll (nI n) op fd fa fb uo cy ini seq mac pv pt wa tr ea la pl ri ml2 ll2 (nI n) op2 fd2 fa2 fb2 uo2 cy2 ini2 seq2 mac2 pv2 pt2 wa2 tr2 ea2 la2 pl2 ri2 := by
  obtain ⟨n1, n10, F, L1, L2, U, S40, hno⟩ := P
  intro d
  induction d with
  | zero =>
    intro i k1 hi hk1 hk cy hcy
    have e : i = n := by omega
    subst e
    have K : zc_K i cy := fun j hj => Or.inr (hcy j hj)
    refine br_t (nI_le (Nat.le_refl i) (by omega)) (xc_check n10 F L1 L2 K U ?_)
    generalize hx : zc_ans i (zv_D ml ll op fd fa fb) op cy (zr_len ml ll op cy i) = x
    refine zi_bl (show x.toInt = x.toInt from rfl) zi_0 (fun _ => nm_r (nI_1 r) (hJ k1 (by omega) cy seq mac pv pt)) (fun q => ?_)
    obtain ⟨T, hT, eT, eA, h1, V⟩ := zq_A (x := x) F L1 L2 K (by rw [hx]; exact q)
    rw [hx] at eA
    have hST : S ≤ T := by
      by_cases z : S ≤ T
      · exact z
      · exact absurd V (hno (T : Int) (by omega) _)
    refine br_t (by rw [eA]; exact nI_le hST (by omega)) (xr_run n10 F L1 L2 K (fun z => ?_) (fun _ nU T' hT' eT' S' M' V' P' eS eM => ?_))
    · exfalso
      rcases z with z | z
      · omega
      · exact (zq_C F V).1 z
    · have eTT : T' = T := (nI_eq (by omega) (by omega)).mp (eT'.symm.trans eT)
      subst eTT
      have same := zq_R F L1 L2 K hT h1 V eS eM
      refine br_t (zp_df 16 same) (xa_same same (br_f (by decide) (nm_r (nI_1 r) (hJ k1 (by omega) cy S' M' V' P'))))
  | succ d ih =>
    intro i k1 hi hk1 hk cy hcy
    have set : ∀ c, c ≤ 63 → wL_law_483 post L xs J385 (wL_law_404 post L xs J385 (nI n) (nI S) (nI r) x10 kc ks (d + 1)) (nI (k1 + 1)) (nI n) (nI S) (nI r) x10 (nI i) (nI c) kc ks ml ll (nI n) op fd fa fb uo cy ini seq mac pv pt wa tr ea la pl ri ml2 ll2 (nI n) op2 fd2 fa2 fb2 uo2 cy2 ini2 seq2 mac2 pv2 pt2 wa2 tr2 ea2 la2 pl2 ri2 := by
      intro c hc
      unfold wL_law_483
      refine xa_cyc n10 (by omega) hc (nm_r (nI_1 i) (ih (i + 1) (k1 + 1) (by omega) (by omega) hk _ (fun j hj => ?_)))
      by_cases y : j = i
      · subst y; exact ⟨c, hc, by rw [pk_us]⟩
      · rw [pk_un y]; exact hcy j (by omega)
    have off : ∀ z : Nat, z ≤ 3 → wL_law_469 post L xs J385 (wL_law_404 post L xs J385 (nI n) (nI S) (nI r) x10 kc ks (d + 1)) (nI (k1 + 1)) (nI n) (nI S) (nI r) x10 (nI i) (nI z) kc ks ml ll (nI n) op fd fa fb uo cy ini seq mac pv pt wa tr ea la pl ri ml2 ll2 (nI n) op2 fd2 fa2 fb2 uo2 cy2 ini2 seq2 mac2 pv2 pt2 wa2 tr2 ea2 la2 pl2 ri2 := by
      intro z hz
      unfold wL_law_469
      obtain ⟨c, hc, e⟩ := hb i (by omega)
      refine xa_of (n := n) n10 (by omega) ?_
      rw [e]
      exact nm_r (nI_add c z) (set (c + z) (by omega))
    refine br_f (nI_ge (by omega) (by omega)) (nm_r (nI_1 k1) (zw_cell hL (by omega) (fun v => zw_m (m := 2) rfl (by decide) (by decide) (fun q hq => ?_))))
    refine pk_eq q 0 (fun _ => zw_m (m := 2 * n + 2) ?_ (by omega) (by omega) (fun c hc => set c (by omega))) (fun _ => zw_m (m := 8) rfl (by decide) (by decide) (fun c hc => ?_))
    · rw [show (2 : Int32) = nI 2 from rfl, pk_mul, nI_add]
    · refine pk_le 5 c (fun h5 => ?_) (fun _ => off 0 (by omega))
      rw [show nI c - 4 = nI (c - 4) by rw [show (4 : Int32) = nI 4 from rfl, pk_sub (by omega)]]
      exact off (c - 4) (by omega)
theorem zw_385 (hL : L ≤ 260) (P : zw_P n S ml ll op fd fa fb uo) (hb : ∀ i, i < n → ∃ c, c ≤ 40 ∧ cy2 i = nI c) (hp : post 1) :
    ∀ d r k, r + d = 3 → k ≤ 100 + 11 * r → ∀ cy seq mac pv pt : Nat → Int32, wL_law_385 post L xs (nI n) (nI S) kc ks (d + 1) (nI k) (nI r) ml ll (nI n) op fd fa fb uo cy ini seq mac pv pt wa tr ea la pl ri ml2 ll2 (nI n) op2 fd2 fa2 fb2 uo2 cy2 ini2 seq2 mac2 pv2 pt2 wa2 tr2 ea2 la2 pl2 ri2 := by
  have n10 := P.2.1
  intro d
  induction d with
  | zero =>
    intro r k hr hk cy seq mac pv pt
    have e : r = 3 := by omega
    subst e
    exact br_t (nI_le (b := 3) (a := 3) (Nat.le_refl 3) (by decide)) hp
  | succ d ih =>
    intro r k hr hk cy seq mac pv pt
    refine br_f (nI_ge (b := 3) (by omega) (by decide)) (nm_r (nI_1 k) (zw_cell hL (by omega) (fun v => ⟨n + 1, ?_⟩)))
    exact zw_404 (k := k + 1) hL P hb (fun k' hk' cy' seq' mac' pv' pt' => ih (r + 1) k' (by omega) (by omega) cy' seq' mac' pv' pt') n 0 (k + 1) (by omega) (by omega) (by omega) cy (fun j hj => absurd hj (Nat.not_lt_zero j))
end
