theorem qg_uu {t : Nat → Int} {i : Nat} {x y : Int} : qg_up (qg_up t i x) i y = qg_up t i y := by
  funext j
  by_cases h : j = i
  · subst h; rw [qg_us, qg_us]
  · rw [qg_un h, qg_un h, qg_un h]
/-- k beside the first j, s of them in its cycle -/
def yh_I (dl : Nat → Nat → Int) (un : Nat → Nat) (w : Nat → Int) (k j s : Nat) : Prop :=
  (∀ a, a < j → 0 ≤ dl a k → w a + dl a k ≤ w k) ∧ s = qc_n (fun a => w a = w k) j ∧ s ≤ 1 ∧ (∀ a, a < j → w a = w k → un a = un k → un a = 0)
theorem yh_IF {dl : Nat → Nat → Int} {un : Nat → Nat} {w : Nat → Int} {k s : Nat} (I : yh_I dl un w k k s) : qr_F dl un k w := by
  obtain ⟨i1, i2, i3, i4⟩ := I
  refine ⟨i1, fun a b hab hb e1 e2 => ?_, i4⟩
  have := qc_two (p := fun a => w a = w k) k a b hab hb e1 e2
  omega
section
variable {ml ll fn : Int32} {op fd fa fb cy wo be pv pt ini seq mac : Nat → Int32}
theorem yh_86 {post : Int32 → Prop} {J4 : Int32 → Int32 → Prop} {n k j : Nat} {x : Int32} (hn : n ≤ 10) (hk : k < n) (hj : j < n) (h0 : op j = 4 → op k = 4 → post 0) (h1 : ¬ (op j = 4 ∧ op k = 4) → J4 x (nI (j + 1))) : wY_fits_86 post J4 (nI k) x (nI j) ml ll (nI n) op fd fa fb cy wo be pv pt ini seq mac := by
  unfold wY_fits_86
  rw [nI_clamp (show k < 2 ^ 31 by omega), nI_clamp (show j < 2 ^ 31 by omega)]
  refine ⟨vp_in_nI (by omega) (by omega), ?_⟩
  by_cases a : op j = 4
  · refine br_t a ⟨vp_in_nI (by omega) (by omega), ?_⟩
    by_cases b : op k = 4
    · exact br_t b (h0 a b)
    · exact br_f b (nm_r (nI_1 j) (h1 fun z => b z.2))
  · exact br_f a (nm_r (nI_1 j) (h1 fun z => a z.1))
theorem yh_fits {post : Int32 → Prop} {n k : Nat} (hn : n ≤ 10) (F : zv_F n op fd fa fb) (L1 : zv_L ml) (L2 : zv_L ll) (hk : k < n) (hw : ∀ j, j < k + 1 → 0 ≤ zI wo j ∧ zI wo j ≤ 64)
    (h1 : qr_F (zv_D ml ll op fd fa fb) (fun i => zv_un (op i)) k (zI wo) → post 1) (h0 : ¬ qr_F (zv_D ml ll op fd fa fb) (fun i => zv_un (op i)) k (zI wo) → post 0) : wpY_fits post (ml, ll, nI n, op, fd, fa, fb, cy, wo, be, pv, pt, ini, seq, mac) (nI k) := by
  unfold wpY_fits
  dsimp only
  have key := loop_0 (fun m j (s : Nat) => wY_fits_4 post (nI k) ml ll (nI n) op fd fa fb cy wo be pv pt ini seq mac m (nI s) (nI j)) (fun j s => yh_I (zv_D ml ll op fd fa fb) (fun i => zv_un (op i)) (zI wo) k j s) k 0 ⟨fun a ha => absurd ha (Nat.not_lt_zero a), rfl, by omega, fun a ha => absurd ha (Nat.not_lt_zero a)⟩ (fun m s I => ?_) (fun m j s hj I ih => ?_)
  · exact key
  · exact br_t (nI_le (Nat.le_refl k) (by omega)) (h1 (yh_IF I))
  · obtain ⟨i1, i2, i3, i4⟩ := I
    have hr := zv_Dr (op := op) (fd := fd) (fa := fa) (fb := fb) L1 L2 j k
    have wj := hw j (by omega)
    have wk := hw k (by omega)
    have hjn : vp_in (nI j) 10 := vp_in_nI (by omega) (by omega)
    have hkn : vp_in (nI k) 10 := vp_in_nI (by omega) (by omega)
    have both : zv_un (op j) = zv_un (op k) → zv_un (op j) ≠ 0 → ((op j = 5 ∨ op j = 6) ∧ (op k = 5 ∨ op k = 6)) ∨ (op j = 4 ∧ op k = 4) := by
      intro e1 e2
      unfold zv_un at e1 e2
      rcases zv_nI6 (F j (by omega)).1 with o | o | o | o | o | o <;> rcases zv_nI6 (F k hk).1 with p | p | p | p | p | p <;> rw [o, p] at e1 <;> rw [o] at e2 <;> rw [o, p] <;> revert e1 e2 <;> decide
    have unq : ((op j = 5 ∨ op j = 6) ∧ (op k = 5 ∨ op k = 6)) ∨ (op j = 4 ∧ op k = 4) → zv_un (op j) = zv_un (op k) ∧ zv_un (op j) ≠ 0 := by
      intro z
      unfold zv_un
      rcases z with ⟨a, b⟩ | ⟨a, b⟩
      · rcases a with a | a <;> rcases b with b | b <;> rw [a, b] <;> decide
      · rw [a, b]; decide
    have st42 : (0 ≤ zv_D ml ll op fd fa fb j k → zI wo j + zv_D ml ll op fd fa fb j k ≤ zI wo k) → wY_fits_42 post (wY_fits_4 post (nI k) ml ll (nI n) op fd fa fb cy wo be pv pt ini seq mac m) (nI k) (nI s) (nI j) ml ll (nI n) op fd fa fb cy wo be pv pt ini seq mac := by
      intro hd
      unfold wY_fits_42
      rw [nI_clamp (show k < 2 ^ 31 by omega), nI_clamp (show j < 2 ^ 31 by omega)]
      refine ⟨hjn, hkn, zi_be (show (wo j).toInt = zI wo j from rfl) (show (wo k).toInt = zI wo k from rfl) (fun q => nm_r (nI_1 s) ?_) (fun q => nm_r (nI_1 j) (ih s ⟨lt_s i1 hd, ?_, i3, lt_s i4 fun z => absurd z q⟩))⟩
      · have cnt : s + 1 = qc_n (fun a => zI wo a = zI wo k) (j + 1) := by rw [qc_t (p := fun a => zI wo a = zI wo k) q, i2]
        have go : s + 1 < 2 → ¬ (((op j = 5 ∨ op j = 6) ∧ (op k = 5 ∨ op k = 6)) ∨ (op j = 4 ∧ op k = 4)) → wY_fits_4 post (nI k) ml ll (nI n) op fd fa fb cy wo be pv pt ini seq mac m (nI (s + 1)) (nI (j + 1)) := by
          intro hs no
          refine ih (s + 1) ⟨lt_s i1 hd, cnt, by omega, lt_s i4 fun _ e1 => ?_⟩
          by_cases z : zv_un (op j) = 0
          · exact z
          · exact absurd (both e1 z) no
        have bad : ((op j = 5 ∨ op j = 6) ∧ (op k = 5 ∨ op k = 6)) ∨ (op j = 4 ∧ op k = 4) → post 0 := by
          intro z
          refine h0 fun f => ?_
          have u := unq z
          exact u.2 (f.2.2 j hj q u.1)
        refine pk_lt (s + 1) 2 (fun hs => ?_) (fun hs => h0 fun f => ?_)
        · have last : ¬ ((op j = 5 ∨ op j = 6) ∧ (op k = 5 ∨ op k = 6)) → wY_fits_86 post (wY_fits_4 post (nI k) ml ll (nI n) op fd fa fb cy wo be pv pt ini seq mac m) (nI k) (nI (s + 1)) (nI j) ml ll (nI n) op fd fa fb cy wo be pv pt ini seq mac := fun no => yh_86 hn hk (by omega) (fun a b => bad (Or.inr ⟨a, b⟩)) (fun no2 => go hs (fun z => z.elim no no2))
          exact yk_mem (by omega) (fun a => br_f (by decide) (yk_mem (by omega) (fun b => br_f (by decide) (bad (Or.inl ⟨a, b⟩))) (fun b => br_t rfl (last fun z => b z.2)))) (fun a => br_t rfl (last fun z => a z.1))
        · have hs1 : 1 ≤ qc_n (fun a => zI wo a = zI wo k) j := by omega
          obtain ⟨a, ha, ea⟩ := qc_ex j hs1
          exact f.2.1 a j ha hj ea q
      · rw [qc_f (p := fun a => zI wo a = zI wo k) q]; exact i2
    refine br_f (nI_ge hj (by omega)) (yk_delay (by omega) (by omega) ?_)
    rw [nI_clamp (show k < 2 ^ 31 by omega), nI_clamp (show j < 2 ^ 31 by omega)]
    refine zi_bt (show (zv_dl ml ll op fd fa fb j k).toInt = zv_D ml ll op fd fa fb j k from rfl) zi_0 (fun q => st42 fun z => by omega) (fun q => ⟨hkn, hjn, ?_⟩)
    have hs : (wo j + zv_dl ml ll op fd fa fb j k).toInt = zI wo j + zv_D ml ll op fd fa fb j k := zi_add rfl rfl (by unfold zI at *; unfold zv_D at *; omega) (by unfold zI at *; unfold zv_D at *; omega)
    refine zi_bl hs (show (wo k).toInt = zI wo k from rfl) (fun q2 => st42 fun _ => q2) (fun q2 => h0 fun f => ?_)
    have := f.1 j hj q
    omega
/-- the reference's loop at step s, level k -/
def yh_W (post : Int32 → SY → Prop) (x1 : Int32) (ml ll : Int32) (op fd fa fb cy be pv pt ini seq mac : Nat → Int32) (n s k : Nat) (w : Nat → Int) : Prop :=
  ∀ wo : Nat → Int32, zI wo = w → ∀ m, 1000000000000000 < m + s → wY_search_11 post x1 ml ll (nI n) m (nI k) (lN s) op fd fa fb cy wo be pv pt ini seq mac
theorem yh_L : (1000000000000000 : Int64) = lN 1000000000000000 := rfl
theorem yh_S {post : Int32 → SY → Prop} {n L : Nat} (hn : n ≤ 10) (F : zv_F n op fd fa fb) (L1 : zv_L ml) (L2 : zv_L ll) (hL : L ≤ 40) :
    qy_S n (zv_T1 ml ll op) (zv_D ml ll op fd fa fb) (fun i => zv_un (op i)) (L : Int) 1000000000000000 (yh_W post (nI L) ml ll op fd fa fb cy be pv pt ini seq mac n) (fun w => ∀ wo : Nat → Int32, zI wo = w → post 1 (ml, ll, nI n, op, fd, fa, fb, cy, wo, be, pv, pt, ini, seq, mac)) (∀ wo : Nat → Int32, post 0 (ml, ll, nI n, op, fd, fa, fb, cy, wo, be, pv, pt, ini, seq, mac)) := by
  intro s k w hs hk hw1 hw2 hw3 r1 r2 r3 r4 r5 wo hwo m hm
  subst hwo
  obtain ⟨m, rfl⟩ : ∃ m', m = m' + 1 := ⟨m - 1, by omega⟩
  have hkn : vp_in (nI k) 10 := vp_in_nI (by omega) (by omega)
  have lt := zv_Tr (op := op) L1 L2 k
  have nlim : ¬ (1000000000000000 : Int64) ≤ lN s := by
    rw [yh_L, pk_lLE (by omega) (by omega)]
    omega
  have e1 : (wo k + 1).toInt = zI wo k + 1 := zi_add rfl zi_1 (by omega) (by omega)
  have z1 : zI (upd wo k (wo k + 1)) = qg_up (zI wo) k (zI wo k + 1) := by rw [zI_u, e1]
  refine br_f nlim ⟨hkn, hkn, nm_e ⟨hkn, ?_⟩⟩
  rw [nI_clamp (show k < 2 ^ 31 by omega), pk_us]
  have back : ¬ zI wo k + 1 + zv_T1 ml ll op k ≤ (L : Int) → wY_search_60 post (wY_search_11 post (nI L) ml ll (nI n) m) (nI L) (nI k) (lN s) ml ll (nI n) op fd fa fb cy (upd wo k (wo k + 1)) be pv pt ini seq mac := by
    intro no
    unfold wY_search_60
    rw [nI_clamp (show k < 2 ^ 31 by omega)]
    refine ⟨hkn, nm_e ?_⟩
    cases k with
    | zero => exact nm_e (br_f (by decide) (r1 no rfl _))
    | succ q =>
      refine nm_r (nI_pred q) (br_t (nI_pos' (by omega)) (nm_r (lN_1 s) (r2 no q rfl _ ?_ m (by omega))))
      rw [zI_u, z1, qg_uu, zi_m1]
  refine br_f (fun z => ?_) ⟨hkn, yk_lat (by omega) ?_⟩
  · rw [Int32.lt_iff_toInt_lt, e1, show (63 : Int32).toInt = 63 by decide] at z
    omega
  have e2 : (wo k + 1 + zv_lat ml ll op k).toInt = zI wo k + 1 + zv_T1 ml ll op k := zi_add e1 rfl (by unfold zv_T1 at *; omega) (by unfold zv_T1 at *; omega)
  refine zi_bl e2 (nI_toInt (by omega)) (fun q => ?_) (fun q => back (by omega))
  refine yh_fits hn F L1 L2 hk (fun j hj => ?_) (fun f => br_f (by decide) ?_) (fun f => br_t rfl (nm_r (lN_1 s) ?_))
  · rw [z1]
    by_cases y : j = k
    · subst y; rw [qg_us]; omega
    · rw [qg_un y]; have := hw3 j (by omega); omega
  · rw [z1] at f
    rw [show nI n - 1 = nI (n - 1) by rw [show (1 : Int32) = nI 1 from rfl, pk_sub (by omega)]]
    refine pk_eq k (n - 1) (fun e => r3 q f (by omega) _ z1) (fun e => nm_r (nI_1 k) ⟨vp_in_nI (by omega) (by omega), nm_e (nm_r (lN_1 s) ?_)⟩)
    rw [nI_clamp (show k + 1 < 2 ^ 31 by omega)]
    refine r4 q f (by omega) _ ?_ m (by omega)
    rw [zI_u, z1, zi_m1]
  · rw [z1] at f
    exact r5 q f _ z1 m (by omega)
theorem yh_search {post : Int32 → SY → Prop} {n L : Nat} (hn0 : 1 ≤ n) (hn : n ≤ 10) (F : zv_F n op fd fa fb) (L1 : zv_L ml) (L2 : zv_L ll) (hL : L ≤ 40) (hno : ∀ len : Int, len < (L : Int) → ∀ c, ¬ qs_V n (zv_T1 ml ll op) (zv_D ml ll op fd fa fb) (fun i => zv_un (op i)) len c)
    (h1 : ∀ wo' : Nat → Int32, qs_X n (zv_T1 ml ll op) (zv_D ml ll op fd fa fb) (fun i => zv_un (op i)) L (zI wo') → post 1 (ml, ll, nI n, op, fd, fa, fb, cy, wo', be, pv, pt, ini, seq, mac))
    (h0 : (∀ c, ¬ qs_V n (zv_T1 ml ll op) (zv_D ml ll op fd fa fb) (fun i => zv_un (op i)) L c) → ∀ wo' : Nat → Int32, post 0 (ml, ll, nI n, op, fd, fa, fb, cy, wo', be, pv, pt, ini, seq, mac)) : wpY_search post (ml, ll, nI n, op, fd, fa, fb, cy, wo, be, pv, pt, ini, seq, mac) (nI L) := by
  obtain ⟨e, H⟩ := qh_ex (zv_D ml ll op fd fa fb) n
  unfold wpY_search
  dsimp only
  refine nm_e ⟨1000000000000001, ?_⟩
  have M := qy_main (n := n) (lat := zv_T1 ml ll op) (dl := zv_D ml ll op fd fa fb) (un := fun i => zv_un (op i)) (len := (L : Int)) (e := e) (LIM := 1000000000000000) hn0 (by omega) (fun i _ => (zv_Tr L1 L2 i).1) H (fun hf => by
      have hb := qh_bound hn0 hn (fun i _ => zv_Tr L1 L2 i) (fun i j _ _ => (zv_Dr L1 L2 i j).2.1) H hf (fun c => hno ((L : Int) - 1) (by omega) c)
      exact ⟨by omega, hb.2⟩)
    (fun no k w wo' _ m hm => by
      obtain ⟨m, rfl⟩ : ∃ m', m = m' + 1 := ⟨m - 1, by omega⟩
      exact br_t (by rw [yh_L, pk_lLE (by omega) (by omega)]; exact Nat.le_refl _) (no wo'))
    (yh_S (post := post) (cy := cy) (be := be) (pv := pv) (pt := pt) (ini := ini) (seq := seq) (mac := mac) hn F L1 L2 hL) (fun w X wo' ew => h1 wo' (by rw [ew]; exact X)) (fun no => h0 no) (zI (upd wo 0 (-1))) (by rw [zI_u, qg_us, zi_m1])
  exact M (upd wo 0 (-1)) rfl 1000000000000001 (by omega)
theorem yh_32 {post : Int32 → SY → Prop} {n : Nat} {x2 : Int32} (hn : n ≤ 10) (h : ∀ cy' : Nat → Int32, (∀ j, j < n → cy' j = wo j) → (∀ j, n ≤ j → cy' j = cy j) → post x2 (ml, ll, nI n, op, fd, fa, fb, cy', wo, be, pv, pt, ini, seq, mac)) : ∃ m, wY_schedule_32 post x2 ml ll (nI n) m 0 op fd fa fb cy wo be pv pt ini seq mac := by
  have key := loop_0 (fun m i (s : Nat → Int32) => wY_schedule_32 post x2 ml ll (nI n) m (nI i) op fd fa fb s wo be pv pt ini seq mac) (fun i s => (∀ j, j < i → s j = wo j) ∧ (∀ j, i ≤ j → s j = cy j)) n cy ⟨fun j hj => absurd hj (Nat.not_lt_zero j), fun _ _ => rfl⟩ (fun m s I => ?_) (fun m i s hi I ih => ?_)
  · exact key
  · exact br_t (nI_le (Nat.le_refl n) (by omega)) (h s I.1 I.2)
  · have hin : vp_in (nI i) 10 := vp_in_nI (by omega) (by omega)
    refine br_f (nI_ge hi (by omega)) ⟨hin, hin, nm_e (nm_r (nI_1 i) ?_)⟩
    rw [nI_clamp (show i < 2 ^ 31 by omega)]
    refine ih _ ⟨fun j hj => ?_, fun j hj => ?_⟩
    · by_cases y : j = i
      · subst y; rw [pk_us]
      · rw [pk_un y]; exact I.1 j (by omega)
    · rw [pk_un (by omega)]; exact I.2 j (by omega)
theorem yh_16 {post : Int32 → SY → Prop} {n : Nat} (hn0 : 1 ≤ n) (hn : n ≤ 10) (F : zv_F n op fd fa fb) (L1 : zv_L ml) (L2 : zv_L ll)
    (h : ∀ L : Nat, L ≤ 40 → (∃ c, qs_V n (zv_T1 ml ll op) (zv_D ml ll op fd fa fb) (fun i => zv_un (op i)) L c) → (∀ len : Int, len < (L : Int) → ∀ c, ¬ qs_V n (zv_T1 ml ll op) (zv_D ml ll op fd fa fb) (fun i => zv_un (op i)) len c) →
      ∀ cy' wo : Nat → Int32, qs_X n (zv_T1 ml ll op) (zv_D ml ll op fd fa fb) (fun i => zv_un (op i)) L (zI cy') → (∀ j, n ≤ j → cy' j = cy j) → post (nI L) (ml, ll, nI n, op, fd, fa, fb, cy', wo, be, pv, pt, ini, seq, mac)) :
    ∀ d q : Nat, q + d = 40 → (∀ len : Int, len < (q : Int) → ∀ c, ¬ qs_V n (zv_T1 ml ll op) (zv_D ml ll op fd fa fb) (fun i => zv_un (op i)) len c) → ∀ wo : Nat → Int32, wY_schedule_16 post (d + 1) (nI q) ml ll (nI n) op fd fa fb cy wo be pv pt ini seq mac := by
  intro d
  induction d with
  | zero =>
    intro q hq hno wo
    have e : q = 40 := by omega
    subst e
    have hV := qx_40 (un := fun i => zv_un (op i)) (dl := zv_D ml ll op fd fa fb) hn (fun i _ => zv_Tr (op := op) L1 L2 i) (fun i j _ _ => (zv_Dr L1 L2 i j).2.1)
    refine br_f (by decide) (yh_search hn0 hn F L1 L2 (Nat.le_refl 40) hno (fun wo' X => br_f (by decide) (yh_32 hn (fun cy' c1 c2 => h 40 (Nat.le_refl 40) hV hno cy' wo' (qs_Xc (fun i hi => by unfold zI; rw [c1 i hi]) X) c2))) (fun no wo' => ?_))
    obtain ⟨c, V⟩ := hV
    exact absurd V (no c)
  | succ d ih =>
    intro q hq hno wo
    have h67 : ¬ (67 : Int32) < nI q := fun z => by
      rw [show (67 : Int32) = nI 67 from rfl, nI_ltI (by omega) (by omega)] at z
      omega
    refine br_f h67 (yh_search hn0 hn F L1 L2 (by omega) hno (fun wo' X => br_f (by decide) (yh_32 hn (fun cy' c1 c2 => h q (by omega) ⟨_, X.1⟩ hno cy' wo' (qs_Xc (fun i hi => by unfold zI; rw [c1 i hi]) X) c2))) (fun no wo' => br_t rfl (nm_r (nI_1 q) (ih (q + 1) (by omega) (fun len hlen c V => ?_) wo'))))
    by_cases y : len < (q : Int)
    · exact hno len y c V
    · have e : len = (q : Int) := by omega
      subst e
      exact no c V
theorem yh_sched {post : Int32 → SY → Prop} {n : Nat} (hn : n ≤ 10) (F : zv_F n op fd fa fb) (L1 : zv_L ml) (L2 : zv_L ll) (h0 : n = 0 → post 0 (ml, ll, nI n, op, fd, fa, fb, cy, wo, be, pv, pt, ini, seq, mac))
    (h : 1 ≤ n → ∀ L : Nat, L ≤ 40 → (∃ c, qs_V n (zv_T1 ml ll op) (zv_D ml ll op fd fa fb) (fun i => zv_un (op i)) L c) → (∀ len : Int, len < (L : Int) → ∀ c, ¬ qs_V n (zv_T1 ml ll op) (zv_D ml ll op fd fa fb) (fun i => zv_un (op i)) len c) →
      ∀ cy' wo be : Nat → Int32, qs_X n (zv_T1 ml ll op) (zv_D ml ll op fd fa fb) (fun i => zv_un (op i)) L (zI cy') → (∀ j, n ≤ j → cy' j = cy j) → post (nI L) (ml, ll, nI n, op, fd, fa, fb, cy', wo, be, pv, pt, ini, seq, mac)) : wpY_schedule post (ml, ll, nI n, op, fd, fa, fb, cy, wo, be, pv, pt, ini, seq, mac) := by
  unfold wpY_schedule
  dsimp only
  refine pk_eq n 0 (fun e => h0 e) (fun e => ?_)
  refine yw_13 hn L1 L2 (fun be1 x IY RY hx => ?_)
  have hx0 := RY.1
  have ex := zh_nI (x := x) hx0
  refine ⟨40 - x.toInt.toNat + 1, ?_⟩
  rw [ex]
  refine yh_16 (by omega) hn F L1 L2 (fun L hL hV hno cy' wo' hX hk => h (by omega) L hL hV hno cy' wo' be1 hX hk) (40 - (nI x.toInt.toNat).toInt.toNat) x.toInt.toNat ?_ (fun len hlen c V => ?_) wo
  · rw [← ex]; omega
  · have hh := qx_head IY.1 V
    rcases RY.2.2 with y | ⟨i, hi, y⟩
    · have h1 := RY.2.1 0 (by omega)
      have h2 := IY.1.1 0 (by omega)
      have h3 := zv_Tr (op := op) L1 L2 0
      omega
    · have := hh i hi
      omega
end
