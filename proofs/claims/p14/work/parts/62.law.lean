section
variable {ml ll fn : Int32} {op fd fa fb uo cy ini seq mac pv pt wa tr ea la pl ri : Nat → Int32} {ml2 ll2 fn2 : Int32} {op2 fd2 fa2 fb2 uo2 cy2 ini2 seq2 mac2 pv2 pt2 wa2 tr2 ea2 la2 pl2 ri2 : Nat → Int32} {post : Int32 → Prop} {L n S : Nat} {xs : Nat → Int32} {kc ks : Nat}
theorem zw_335 {k : Nat} (hL : L ≤ 260) (P : zw_P n S ml ll op fd fa fb uo) (hk : k ≤ 100) (V : qs_V n (zv_T1 ml ll op) (zv_D ml ll op fd fa fb) (fun i => zv_un (op i)) (S : Int) (zI cy2)) (hp : post 1) :
    ∃ m, wL_law_335 post L xs (nI k) (nI n) (nI S) kc ks ml ll (nI n) op fd fa fb uo cy ini seq mac pv pt wa tr ea la pl ri ml ll (nI n) op fd fa fb uo cy2 ini2 seq2 mac2 pv2 pt2 wa2 tr2 ea2 la2 pl2 ri2 m 0 := by
  have P' := P
  obtain ⟨n1, n10, F, L1, L2, U, S40, hno⟩ := P
  have hb : ∀ i, i < n → ∃ c, c ≤ 40 ∧ cy2 i = nI c := by
    intro i hi
    have h1 := V.1 i hi
    have h2 := zv_Tr (op := op) L1 L2 i
    have h3 : zI cy2 i = (cy2 i).toInt := rfl
    exact ⟨(cy2 i).toInt.toNat, by omega, zh_nI h1.1⟩
  have K : zc_K n cy2 := fun i hi => by
    obtain ⟨c, hc, e⟩ := hb i hi
    exact Or.inr ⟨c, by omega, e⟩
  have key := loop_0 (fun m t (_ : Unit) => wL_law_335 post L xs (nI k) (nI n) (nI S) kc ks ml ll (nI n) op fd fa fb uo cy ini seq mac pv pt wa tr ea la pl ri ml ll (nI n) op fd fa fb uo cy2 ini2 seq2 mac2 pv2 pt2 wa2 tr2 ea2 la2 pl2 ri2 m (nI t)) (fun _ _ => True) 64 () trivial (fun m _ _ => ?_) (fun m t _ ht _ ih => ?_)
  · exact key
  · refine br_t (nI_le (b := 64) (Nat.le_refl 64) (by decide)) (xr_run n10 F L1 L2 K (fun z => ?_) (fun _ nU T hT eT S' M' V' Q' eS eM => ?_))
    · exfalso
      rcases z with z | z
      · omega
      · exact (zq_C F V).1 z
    · obtain ⟨T2, hT2, eT2, h1, _⟩ := zq_T (op := op) L1 L2 K nU n (Nat.le_refl n)
      have eTT : T2 = T := (nI_eq (by omega) (by omega)).mp (eT2.symm.trans eT)
      subst eTT
      have same := zq_R F L1 L2 K hT h1 V eS eM
      exact br_t (zp_df 16 same) (xa_same same (br_f (by decide) ⟨4, zw_385 hL P' hb hp 3 0 k (by omega) (by omega) cy seq mac pv pt⟩))
  · refine br_f (nI_ge (b := 64) ht (by decide)) (xa_bun n10 ht ?_ (br_t rfl (nm_r (nI_1 t) (ih () trivial))))
    refine qc_le2 n fun a b c hab hbc hc ea eb ec => V.2.2.1 a b c hab hbc hc (zq_e.mp (ea.trans eb.symm)) (zq_e.mp (eb.trans ec.symm))
theorem zw_246 (hL : L ≤ 260) (n1 : 1 ≤ n) (n10 : n ≤ 10) (F : zv_F n op fd fa fb) (L1 : zv_L ml) (L2 : zv_L ll) (U : ∀ i, i < n → uo i = nI (zv_un (op i))) (hp : post 1) :
    ∀ d l k, l + d = 16 → k ≤ 50 + l → ∀ ini ini2 : Nat → Int32, wL_law_246 post L xs (nI n) kc ks (d + 1) (nI k) (nI l) ml ll (nI n) op fd fa fb uo cy ini seq mac pv pt wa tr ea la pl ri ml ll (nI n) op fd fa fb uo cy2 ini2 seq2 mac2 pv2 pt2 wa2 tr2 ea2 la2 pl2 ri2 := by
  intro d
  induction d with
  | zero =>
    intro l k hl hk ini ini2
    have e : l = 16 := by omega
    subst e
    refine br_t (nI_le (b := 16) (a := 16) (Nat.le_refl 16) (by decide)) ?_
    unfold wpX_criticalPath
    dsimp only
    refine xw_4 n10 F L1 L2 (fun wa1 ea1 x IX RX hx => ?_)
    refine xh_sched n10 F L1 L2 U (fun e => by omega) (fun _ S hS hV hno cy3 wa3 tr3 ea3 la3 pl3 ri3 X hk3 => ?_)
    have V : qs_V n (zv_T1 ml ll op) (zv_D ml ll op fd fa fb) (fun i => zv_un (op i)) (S : Int) (zI cy3) := X.1
    have hno : ∀ len : Int, len < (S : Int) → ∀ c, ¬ qs_V n (zv_T1 ml ll op) (zv_D ml ll op fd fa fb) (fun i => zv_un (op i)) len c := hno
    have IX : xw_I (zv_D ml ll op fd fa fb) (xw_W ml ll op fd fa fb uo) n wa1 ea1 := IX
    have RX : qh_R (zv_T1 ml ll op) (zI ea1) n x.toInt := RX
    have hb : ∀ i, i < n → ∃ c, c ≤ 40 ∧ cy3 i = nI c := by
      intro i hi
      have h1 := V.1 i hi
      have h2 := zv_Tr (op := op) L1 L2 i
      have h3 : zI cy3 i = (cy3 i).toInt := rfl
      exact ⟨(cy3 i).toInt.toNat, by omega, zh_nI h1.1⟩
    have K : zc_K n cy3 := fun i hi => by
      obtain ⟨c, hc, e⟩ := hb i hi
      exact Or.inr ⟨c, by omega, e⟩
    have nU := (zq_C F V).1
    obtain ⟨T, hT, eT, h1, h2⟩ := zq_T (op := op) L1 L2 K nU n (Nat.le_refl n)
    obtain ⟨c1, c2, c3, c4, c5⟩ := zq_C F V
    have VT := zq_V (T := T) F K c1 c2 c3 c4 c5 h1
    have eTS : T = S := by
      have a1 : S ≤ T := by
        by_cases z : S ≤ T
        · exact z
        · exact absurd VT (hno (T : Int) (by omega) _)
      rcases h2 with h2 | ⟨i, hi, h2⟩
      · omega
      · have := (V.1 i hi).2
        omega
    subst eTS
    have hcp : x ≤ nI T := by
      rw [Int32.le_iff_toInt_le, nI_toInt (by omega)]
      have hh := qx_head IX.1 V
      rcases RX.2.2 with y | ⟨i, hi, y⟩
      · omega
      · have := hh i hi
        omega
    refine br_t hcp (xc_check n10 F L1 L2 K U (br_t ?_ ?_))
    · rw [zq_B n1 F V, eT]
    · exact zw_335 hL ⟨n1, n10, F, L1, L2, U, hS, hno⟩ (by omega) V hp
  | succ d ih =>
    intro l k hl hk ini ini2
    refine br_f (nI_ge (b := 16) (by omega) (by decide)) (nm_r (nI_1 k) (zw_cell hL (by omega) (fun v => zw_m (m := 41) rfl (by decide) (by decide) (fun q hq => nm_e ?_))))
    exact xa_set (by omega) (xa_set (by omega) (nm_r (nI_1 l) (ih (l + 1) (k + 1) (by omega) (by omega) _ _)))
theorem zw_209 {J74 : Int32 → Int32 → Int32 → Int32 → Int32 → (Nat → Int32) → (Nat → Int32) → (Nat → Int32) → (Nat → Int32) → (Nat → Int32) → (Nat → Int32) → (Nat → Int32) → (Nat → Int32) → (Nat → Int32) → (Nat → Int32) → (Nat → Int32) → (Nat → Int32) → (Nat → Int32) → (Nat → Int32) → (Nat → Int32) → (Nat → Int32) → (Nat → Int32) → Int32 → Int32 → Int32 → (Nat → Int32) → (Nat → Int32) → (Nat → Int32) → (Nat → Int32) → (Nat → Int32) → (Nat → Int32) → (Nat → Int32) → (Nat → Int32) → (Nat → Int32) → (Nat → Int32) → (Nat → Int32) → (Nat → Int32) → (Nat → Int32) → (Nat → Int32) → (Nat → Int32) → (Nat → Int32) → (Nat → Int32) → Prop} {k i : Nat} {o d a b : Int32} (hi : i < 10) (w : zl_wf o d a b)
    (hJ : J74 (nI k) (nI (i + 1)) ml ll (nI (i + 1)) (upd op i o) (upd fd i d) (upd fa i a) (upd fb i b) (upd uo i (nI (zv_un o))) (upd cy i (-1)) ini seq mac pv pt wa tr ea la pl ri ml ll (nI (i + 1)) (upd op i o) (upd fd i d) (upd fa i a) (upd fb i b) (upd uo i (nI (zv_un o))) (upd cy2 i (-1)) ini2 seq2 mac2 pv2 pt2 wa2 tr2 ea2 la2 pl2 ri2) :
    wL_law_209 post L xs J74 (nI k) (nI n) (nI i) o d a b kc ks ml ll (nI i) op fd fa fb uo cy ini seq mac pv pt wa tr ea la pl ri ml ll (nI i) op fd fa fb uo cy2 ini2 seq2 mac2 pv2 pt2 wa2 tr2 ea2 la2 pl2 ri2 := by
  unfold wL_law_209
  exact xa_add hi w (xa_add hi w (nm_r (nI_1 i) hJ))
theorem zw_155 {J74 : Int32 → Int32 → Int32 → Int32 → Int32 → (Nat → Int32) → (Nat → Int32) → (Nat → Int32) → (Nat → Int32) → (Nat → Int32) → (Nat → Int32) → (Nat → Int32) → (Nat → Int32) → (Nat → Int32) → (Nat → Int32) → (Nat → Int32) → (Nat → Int32) → (Nat → Int32) → (Nat → Int32) → (Nat → Int32) → (Nat → Int32) → (Nat → Int32) → Int32 → Int32 → Int32 → (Nat → Int32) → (Nat → Int32) → (Nat → Int32) → (Nat → Int32) → (Nat → Int32) → (Nat → Int32) → (Nat → Int32) → (Nat → Int32) → (Nat → Int32) → (Nat → Int32) → (Nat → Int32) → (Nat → Int32) → (Nat → Int32) → (Nat → Int32) → (Nat → Int32) → (Nat → Int32) → (Nat → Int32) → Prop} {k i o dd : Nat} {a : Int32} (hL : L ≤ 260) (hk : k ≤ 900) (hi : i < 10) (ho : 1 ≤ o) (ho6 : o ≤ 6) (hd : dd < 8) (ha : o = 1 ∨ zl_rg a)
    (hJ : ∀ b, zl_wf (nI o) (nI dd) a b → J74 (nI (k + 1)) (nI (i + 1)) ml ll (nI (i + 1)) (upd op i (nI o)) (upd fd i (nI dd)) (upd fa i a) (upd fb i b) (upd uo i (nI (zv_un (nI o)))) (upd cy i (-1)) ini seq mac pv pt wa tr ea la pl ri ml ll (nI (i + 1)) (upd op i (nI o)) (upd fd i (nI dd)) (upd fa i a) (upd fb i b) (upd uo i (nI (zv_un (nI o)))) (upd cy2 i (-1)) ini2 seq2 mac2 pv2 pt2 wa2 tr2 ea2 la2 pl2 ri2) :
    wL_law_155 post L xs J74 (nI k) (nI n) (nI i) (nI o) (nI dd) a kc ks ml ll (nI i) op fd fa fb uo cy ini seq mac pv pt wa tr ea la pl ri ml ll (nI i) op fd fa fb uo cy2 ini2 seq2 mac2 pv2 pt2 wa2 tr2 ea2 la2 pl2 ri2 := by
  have rg : ∀ q, q < 8 → zl_rg (nI q) := fun q hq => ⟨nI_pos (by omega), nI_le (b := 7) (by omega) (by decide)⟩
  have wf : ∀ b, (o = 1 ∨ o = 5 ∨ o = 6 ∨ zl_rg b) → zl_wf (nI o) (nI dd) a b := by
    intro b hb
    refine ⟨fun z => ?_, nI_le (b := 6) (by omega) (by decide), rg dd hd, ?_⟩
    · rw [show (1 : Int32) = nI 1 from rfl, nI_ltI (by omega) (by omega)] at z
      omega
    · by_cases e : o = 1
      · exact Or.inl (by rw [e]; rfl)
      · refine Or.inr ⟨ha.resolve_left e, ?_⟩
        rcases hb with hb | hb | hb | hb
        · exact absurd hb e
        · exact Or.inl (by rw [hb]; rfl)
        · exact Or.inr (Or.inl (by rw [hb]; rfl))
        · exact Or.inr (Or.inr hb)
  have s173 : wL_law_173 post L xs J74 (nI k) (nI n) (nI i) (nI o) (nI dd) a kc ks ml ll (nI i) op fd fa fb uo cy ini seq mac pv pt wa tr ea la pl ri ml ll (nI i) op fd fa fb uo cy2 ini2 seq2 mac2 pv2 pt2 wa2 tr2 ea2 la2 pl2 ri2 := by
    unfold wL_law_173
    refine nm_r (nI_1 k) (zw_cell hL (by omega) (fun v => zw_m (m := 8) rfl (by decide) (by decide) (fun q hq => ?_)))
    have w := wf (nI q) (Or.inr (Or.inr (Or.inr (rg q hq))))
    exact zw_209 hi w (hJ _ w)
  unfold wL_law_155
  refine pk_eq o 2 (fun _ => s173) (fun h2 => pk_eq o 3 (fun _ => s173) (fun h3 => pk_eq o 4 (fun _ => s173) (fun h4 => ?_)))
  refine nm_r (nI_1 k) (zw_cell hL (by omega) (fun v => zw_m (m := 16) rfl (by decide) (by decide) (fun q hq => nm_e ?_)))
  have w := wf (nI q - 8) (by omega)
  exact zw_209 hi w (hJ _ w)
theorem zw_74 (hL : L ≤ 260) (n1 : 1 ≤ n) (n10 : n ≤ 10) (L1 : zv_L ml) (L2 : zv_L ll) (hp : post 1) :
    ∀ d i k, i + d = n → k ≤ 3 + 4 * i → ∀ op fd fa fb uo cy cy2 : Nat → Int32, zv_F i op fd fa fb → (∀ j, j < i → uo j = nI (zv_un (op j))) → wL_law_74 post L xs (nI n) kc ks (d + 1) (nI k) (nI i) ml ll (nI i) op fd fa fb uo cy ini seq mac pv pt wa tr ea la pl ri ml ll (nI i) op fd fa fb uo cy2 ini2 seq2 mac2 pv2 pt2 wa2 tr2 ea2 la2 pl2 ri2 := by
  intro d
  induction d with
  | zero =>
    intro i k hi hk op fd fa fb uo cy cy2 F U
    have e : i = n := by omega
    subst e
    exact br_t (nI_le (Nat.le_refl i) (by omega)) ⟨17, zw_246 hL n1 n10 F L1 L2 U hp 16 0 k (by omega) (by omega) ini ini2⟩
  | succ d ih =>
    intro i k hi hk op fd fa fb uo cy cy2 F U
    refine br_f (nI_ge (by omega) (by omega)) (nm_r (nI_1 k) (zw_cell hL (by omega) (fun v => zw_m (m := 6) rfl (by decide) (by decide) (fun q hq => nm_r (show (1 : Int32) + nI q = nI (1 + q) from nI_add 1 q) (nm_r (nI_1 (k + 1)) (zw_cell hL (by omega) (fun v2 => zw_m (m := 8) rfl (by decide) (by decide) (fun dd hd => ?_))))))))
    have next : ∀ a b, zl_wf (nI (1 + q)) (nI dd) a b → wL_law_74 post L xs (nI n) kc ks (d + 1) (nI (k + 3 + 1)) (nI (i + 1)) ml ll (nI (i + 1)) (upd op i (nI (1 + q))) (upd fd i (nI dd)) (upd fa i a) (upd fb i b) (upd uo i (nI (zv_un (nI (1 + q))))) (upd cy i (-1)) ini seq mac pv pt wa tr ea la pl ri ml ll (nI (i + 1)) (upd op i (nI (1 + q))) (upd fd i (nI dd)) (upd fa i a) (upd fb i b) (upd uo i (nI (zv_un (nI (1 + q))))) (upd cy2 i (-1)) ini2 seq2 mac2 pv2 pt2 wa2 tr2 ea2 la2 pl2 ri2 := by
      intro a b w
      refine ih (i + 1) (k + 3 + 1) (by omega) (by omega) _ _ _ _ _ _ _ (zl_F F w) (fun j hj => ?_)
      by_cases y : j = i
      · subst y; rw [pk_us, pk_us]
      · rw [pk_un y, pk_un y]; exact U j (by omega)
    refine pk_eq (1 + q) 1 (fun e => nm_r (nI_1 (k + 1 + 1)) (zw_cell hL (by omega) (fun v3 => zw_m (m := 64) rfl (by decide) (by decide) (fun c hc => nm_e ?_)))) (fun e => nm_r (nI_1 (k + 1 + 1)) (zw_cell hL (by omega) (fun v3 => zw_m (m := 8) rfl (by decide) (by decide) (fun c hc => ?_))))
    · exact zw_155 (k := k + 3) hL (by omega) (by omega) (by omega) (by omega) hd (Or.inl e) (fun b w => next _ b w)
    · exact zw_155 (k := k + 3) hL (by omega) (by omega) (by omega) (by omega) hd (Or.inr ⟨nI_pos (by omega), nI_le (b := 7) (by omega) (by decide)⟩) (fun b w => next _ b w)
end
theorem zw_clamp {post : Int32 → Prop} {a : Nat} (h1 : 1 ≤ a) (h4 : a ≤ 4) (h : post (nI a)) : wpX_clampLatency post () (nI a) :=
  br_t (nI_le (a := 1) h1 (by omega)) (br_t (nI_le (b := 4) h4 (by decide)) h)
theorem zw_init {post : St2 → Prop} {a b : Nat} (a1 : 1 ≤ a) (a4 : a ≤ 4) (b1 : 1 ≤ b) (b4 : b ≤ 4) (h : post (nI a, nI b, 0, (fun _ => 0), (fun _ => 0), (fun _ => 0), (fun _ => 0), (fun _ => 0), (fun _ => 0), (fun _ => 0), (fun _ => 0), (fun _ => 0), (fun _ => 0), (fun _ => 0), (fun _ => 0), (fun _ => 0), (fun _ => 0), (fun _ => 0), (fun _ => 0), (fun _ => 0))) : wpX_init post 17 278 (0, 0, 0) (nI a) (nI b) := by
  unfold wpX_init
  dsimp only
  repeat (refine ⟨by decide, ?_⟩)
  exact zw_clamp a1 a4 (zw_clamp b1 b4 h)
