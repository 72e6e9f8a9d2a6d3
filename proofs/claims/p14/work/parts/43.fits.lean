section
variable {ml ll fn : Int32} {op fd fa fb uo cy ini seq mac pv pt wa tr ea la pl ri : Nat → Int32}
def xf_Q (t e : Nat → Int) (k f : Nat) : Prop := t f = -1 ∧ ∀ j, j < k → t j = -1 → e f ≤ e j ∧ (j < f → e f < e j)
theorem xf_first {post : Int32 → Prop} {n : Nat} (n10 : n ≤ 10) (h0 : (∀ i, i < n → zI tr i ≠ -1) → post (-1)) (h1 : ∀ i, qo_T n (zI tr) (zI ea) i → post (nI i)) : wpX_firstInLine post (ml, ll, nI n, op, fd, fa, fb, uo, cy, ini, seq, mac, pv, pt, wa, tr, ea, la, pl, ri) := by
  unfold wpX_firstInLine
  dsimp only
  have key := loop_0 (fun m k (x : Int32) => wX_firstInLine_4 post ml ll (nI n) op fd fa fb uo cy ini seq mac pv pt wa tr ea la pl ri m x (nI k)) (fun k x => (x = -1 ∧ ∀ i, i < k → zI tr i ≠ -1) ∨ ∃ f, x = nI f ∧ f < k ∧ xf_Q (zI tr) (zI ea) k f) n (-1) (Or.inl ⟨rfl, fun i hi => absurd hi (Nat.not_lt_zero i)⟩) (fun m x I => ?_) (fun m k x hk I ih => ?_)
  · exact key
  · refine br_t (nI_le (Nat.le_refl n) (by omega)) ?_
    rcases I with ⟨rfl, a⟩ | ⟨f, rfl, hf, q1, q2⟩
    · exact h0 a
    · exact h1 f ⟨hf, q1, q2⟩
  · have hkn : vp_in (nI k) 10 := vp_in_nI (by omega) (by omega)
    refine br_f (nI_ge hk (by omega)) ⟨hkn, ?_⟩
    rw [nI_clamp (show k < 2 ^ 31 by omega)]
    by_cases c : tr k = -1
    · have c' : zI tr k = -1 := zi_m1e.mp c
      refine br_t c ?_
      rcases I with ⟨rfl, a⟩ | ⟨f, rfl, hf, q1, q2⟩
      · refine br_t (by decide) (nm_r (nI_1 k) (ih (nI k) (Or.inr ⟨k, rfl, by omega, c', fun j hj tj => ?_⟩)))
        by_cases y : j = k
        · subst y; exact ⟨Int.le_refl _, fun z => absurd z (Nat.lt_irrefl _)⟩
        · exact absurd tj (a j (by omega))
      · refine br_f (nI_pos (by omega)) ⟨hkn, vp_in_nI (by omega) (by omega), ?_⟩
        rw [nI_clamp (show f < 2 ^ 31 by omega)]
        refine zi_bl (show (ea f).toInt = zI ea f from rfl) (show (ea k).toInt = zI ea k from rfl) (fun q => nm_r (nI_1 k) (ih (nI f) (Or.inr ⟨f, rfl, by omega, q1, fun j hj tj => ?_⟩))) (fun q => nm_r (nI_1 k) (ih (nI k) (Or.inr ⟨k, rfl, by omega, c', fun j hj tj => ?_⟩)))
        · by_cases y : j = k
          · subst y; exact ⟨q, fun z => by omega⟩
          · exact q2 j (by omega) tj
        · by_cases y : j = k
          · subst y; exact ⟨Int.le_refl _, fun z => absurd z (Nat.lt_irrefl _)⟩
          · have := (q2 j (by omega) tj).1
            exact ⟨by omega, fun _ => by omega⟩
    · have c' : zI tr k ≠ -1 := fun z => c (zi_m1e.mpr z)
      refine br_f c (nm_r (nI_1 k) (ih x ?_))
      rcases I with ⟨a1, a⟩ | ⟨f, a1, hf, q1, q2⟩
      · exact Or.inl ⟨a1, lt_s a c'⟩
      · refine Or.inr ⟨f, a1, by omega, q1, fun j hj tj => ?_⟩
        by_cases y : j = k
        · subst y; exact absurd tj c'
        · exact q2 j (by omega) tj
theorem xf_place {post : St2 → Prop} {n i D : Nat} (n10 : n ≤ 10) (hi : i < n) (hD : D < 10) (h : ∀ m : Int32, (∀ j, j < n → (zb_t m j ↔ qo_R n (zI tr) (zI ea) i j)) → post (ml, ll, nI n, op, fd, fa, fb, uo, cy, ini, seq, mac, pv, pt, wa, upd tr i (ea i), ea, la, upd pl D (nI i), upd ri D m)) : wpX_place post (ml, ll, nI n, op, fd, fa, fb, uo, cy, ini, seq, mac, pv, pt, wa, tr, ea, la, pl, ri) (nI i) (nI D) := by
  unfold wpX_place
  dsimp only
  have hin : vp_in (nI i) 10 := vp_in_nI (by omega) (by omega)
  have hDn : vp_in (nI D) 10 := vp_in_nI (by omega) (by omega)
  refine nm_r (nI_1 i) ?_
  refine pk_loop (fun m k (x : Int32) => wX_place_7 post (nI i) (nI D) ml ll (nI n) op fd fa fb uo cy ini seq mac pv pt wa tr ea la pl ri m x (nI k)) (fun k x => i < k ∧ ∀ j, j < n → (zb_t x j ↔ (i < j ∧ j < k ∧ zI tr j = -1 ∧ zI ea j = zI ea i))) n (i + 1) 0 (by omega) ⟨by omega, fun j hj => ⟨fun z => absurd z (zb_0 (by omega)), fun z => by have := z.1; have := z.2.1; omega⟩⟩ (fun m x I => ?_) (fun m k x hk I ih => ?_)
  · refine br_t (nI_le (Nat.le_refl n) (by omega)) ?_
    rw [nI_clamp (show i < 2 ^ 31 by omega), nI_clamp (show D < 2 ^ 31 by omega)]
    exact ⟨hDn, nm_e ⟨hDn, nm_e ⟨hin, hin, nm_e (h x I.2)⟩⟩⟩
  · have hkn : vp_in (nI k) 10 := vp_in_nI (by omega) (by omega)
    obtain ⟨hik, I⟩ := I
    refine br_f (nI_ge hk (by omega)) ⟨hkn, ?_⟩
    rw [nI_clamp (show k < 2 ^ 31 by omega), nI_clamp (show i < 2 ^ 31 by omega)]
    have skip : ¬ (i < k ∧ zI tr k = -1 ∧ zI ea k = zI ea i) → ∀ j, j < n → (zb_t x j ↔ (i < j ∧ j < k + 1 ∧ zI tr j = -1 ∧ zI ea j = zI ea i)) := by
      intro no j hj
      rw [I j hj]
      refine ⟨fun z => ⟨z.1, by have := z.2.1; omega, z.2.2⟩, fun z => ⟨z.1, ?_, z.2.2⟩⟩
      by_cases y : j = k
      · subst y; exact absurd ⟨z.1, z.2.2⟩ no
      · have := z.2.1; omega
    by_cases c : tr k = -1
    · refine br_t c ⟨hkn, hin, ?_⟩
      refine zi_be (show (ea k).toInt = zI ea k from rfl) (show (ea i).toInt = zI ea i from rfl) (fun q => nm_e (nm_r (nI_1 k) (ih _ ⟨by omega, fun j hj => ?_⟩))) (fun q => nm_r (nI_1 k) (ih x ⟨by omega, skip fun z => q z.2.2⟩))
      rw [zb_or (by omega) (by omega), I j hj]
      constructor
      · intro z
        rcases z with z | z
        · exact ⟨z.1, by have := z.2.1; omega, z.2.2⟩
        · subst z; exact ⟨hik, by omega, zi_m1e.mp c, q⟩
      · intro z
        by_cases y : j = k
        · exact Or.inr y
        · exact Or.inl ⟨z.1, by have := z.2.1; omega, z.2.2⟩
    · exact br_f c (nm_r (nI_1 k) (ih x ⟨by omega, skip fun z => c (zi_m1e.mpr z.2.1)⟩))
/-- the search's loop at step s, depth D -/
def xf_W (post : Int32 → St2 → Prop) (x2 : Int32) (ml ll : Int32) (op fd fa fb uo cy ini seq mac pv pt wa : Nat → Int32) (n s D : Nat) (t : Nat → Int) (ch : Nat → Nat) (rv : Nat → Nat → Prop) : Prop :=
  ∀ tr ea la pl ri : Nat → Int32, zI tr = t → (∀ j, j < D → pl j = nI (ch j)) → (∀ j, j < D → ∀ i, i < n → (zb_t (ri j) i ↔ rv j i)) → ∀ m, 100000000 < m + s → wX_fits_42 post x2 m (nI D) (nI s) ml ll (nI n) op fd fa fb uo cy ini seq mac pv pt wa tr ea la pl ri
/-- what is asked of an answer of retreat at step s -/
def xf_G (post : Int32 → St2 → Prop) (x2 : Int32) (ml ll : Int32) (op fd fa fb uo cy ini seq mac pv pt wa : Nat → Int32) (NO : Prop) (n s : Nat) (P : Int32 → St2 → Prop) : Prop :=
  (NO → ∀ tr ea la pl ri : Nat → Int32, P 0 (ml, ll, nI n, op, fd, fa, fb, uo, cy, ini, seq, mac, pv, pt, wa, tr, ea, la, pl, ri)) ∧
  (∀ D t ch rv (tr ea la pl ri : Nat → Int32), xf_W post x2 ml ll op fd fa fb uo cy ini seq mac pv pt wa n (s + 1) (D + 1) t ch rv → D + 1 ≤ 10 → zI tr = t → (∀ j, j < D + 1 → pl j = nI (ch j)) → (∀ j, j < D + 1 → ∀ i, i < n → (zb_t (ri j) i ↔ rv j i)) → P (nI (D + 1)) (ml, ll, nI n, op, fd, fa, fb, uo, cy, ini, seq, mac, pv, pt, wa, tr, ea, la, pl, ri))
def xf_R (post : Int32 → St2 → Prop) (x2 : Int32) (ml ll : Int32) (op fd fa fb uo cy ini seq mac pv pt wa : Nat → Int32) (NO : Prop) (n s D : Nat) (t : Nat → Int) (ch : Nat → Nat) (rv : Nat → Nat → Prop) : Prop :=
  ∀ tr ea la pl ri : Nat → Int32, zI tr = t → (∀ j, j < D → pl j = nI (ch j)) → (∀ j, j < D → ∀ i, i < n → (zb_t (ri j) i ↔ rv j i)) → ∀ P, xf_G post x2 ml ll op fd fa fb uo cy ini seq mac pv pt wa NO n s P → ∀ k, D < k → wX_retreat_2 P ml ll (nI n) k (nI D) op fd fa fb uo cy ini seq mac pv pt wa tr ea la pl ri
theorem xf_hR {post : Int32 → St2 → Prop} {x2 : Int32} {n : Nat} {lat : Nat → Int} {len : Int} {NO : Prop} (n10 : n ≤ 10) : qd_hR n lat len 100000000 (xf_W post x2 ml ll op fd fa fb uo cy ini seq mac pv pt wa n) (xf_R post x2 ml ll op fd fa fb uo cy ini seq mac pv pt wa NO n) := by
  intro s D t ch rv hs St hf he tr ea la pl ri ht hpl hri P G k hk
  obtain ⟨s1, s2, s3⟩ := St
  have hcD := s3 D (by omega)
  obtain ⟨k, rfl⟩ : ∃ k', k = k' + 1 := ⟨k - 1, by omega⟩
  have hDn : vp_in (nI D) 10 := vp_in_nI (by omega) (by omega)
  have hcn : vp_in (nI (ch D)) 10 := vp_in_nI (by omega) (by omega)
  refine br_f (nI_nle (by omega) (by omega)) ?_
  rw [nI_pred, nI_clamp (show D < 2 ^ 31 by omega), hpl D (by omega)]
  refine ⟨hDn, nm_e ⟨hcn, nm_e ⟨hcn, nm_e (nm_r (nI_1 (ch D)) ?_)⟩⟩⟩
  rw [nI_clamp (show ch D < 2 ^ 31 by omega)]
  have ht1 : zI (upd tr (ch D) (-1)) = qg_up t (ch D) (-1) := by rw [zI_u, zi_m1, ht]
  refine pk_loop (fun m i (_ : Unit) => wX_retreat_35 P (wX_retreat_2 P ml ll (nI n) k) (nI (D + 1)) (tr (ch D)) ml ll (nI n) op fd fa fb uo cy ini seq mac pv pt wa (upd tr (ch D) (-1)) ea la pl ri m (nI i)) (fun i _ => ch D < i ∧ ∀ j, ch D < j → j < i → ¬ rv D j) n (ch D + 1) () (by omega) ⟨by omega, fun j h1 h2 => by omega⟩ (fun m _ I => ?_) (fun m i _ hi I ih => ?_)
  · refine br_t (nI_le (Nat.le_refl n) (by omega)) (nm_r (pk_m1 D) ?_)
    exact he (fun i h1 h2 => I.2 i h1 h2) _ ea la pl ri ht1 (fun j hj => hpl j (by omega)) (fun j hj => hri j (by omega)) P G k (by omega)
  · refine br_f (nI_ge hi (by omega)) ?_
    rw [nI_pred, nI_clamp (show D < 2 ^ 31 by omega)]
    refine ⟨hDn, ?_⟩
    by_cases b : zb_t (ri D) i
    · refine br_f b ⟨hDn, nm_e ⟨vp_in_nI (by omega) (by omega), nm_e ?_⟩⟩
      rw [nI_clamp (show i < 2 ^ 31 by omega)]
      have hW := hf i I.1 hi ((hri D (by omega) i hi).mp b) I.2
      refine G.2 D _ _ rv _ ea la _ ri hW (by omega) ?_ (fun j hj => ?_) hri
      · rw [zI_u, ht1, ← ht]; rfl
      · by_cases y : j = D
        · subst y; rw [pk_us, qd_uNs]
        · rw [pk_un y, qd_uNn y]; exact hpl j hj
    · refine br_t (Classical.not_not.mp b) (nm_r (nI_1 i) (ih () ⟨by omega, fun j h1 h2 => ?_⟩))
      by_cases y : j = i
      · subst y; exact fun z => b ((hri D (by omega) j hi).mpr z)
      · exact I.2 j h1 (by omega)
theorem xf_hW {post : Int32 → St2 → Prop} {x2 : Int32} {n : Nat} {lat : Nat → Int} {dl wt : Nat → Nat → Int} {un : Nat → Nat} {len : Int} {NO : Prop} (H : xs_H n ml ll op uo wa lat wt un) (hw : qw_W n dl wt un) (hlen : x2.toInt = len) (hl2 : 0 ≤ len ∧ len ≤ 40) (hll : ∀ i, i < n → lat i ≤ len)
    (hno : NO → ∀ tr ea la pl ri : Nat → Int32, post 0 (ml, ll, nI n, op, fd, fa, fb, uo, cy, ini, seq, mac, pv, pt, wa, tr, ea, la, pl, ri)) :
    qd_hW n lat dl wt un len 100000000 (xf_W post x2 ml ll op fd fa fb uo cy ini seq mac pv pt wa n) (xf_R post x2 ml ll op fd fa fb uo cy ini seq mac pv pt wa NO n) (∀ tr ea la pl ri : Nat → Int32, post 1 (ml, ll, nI n, op, fd, fa, fb, uo, cy, ini, seq, mac, pv, pt, wa, tr, ea, la, pl, ri)) := by
  intro s D t ch rv hs St hb tr ea la pl ri ht hpl hri m hm
  subst ht
  have n10 := H.2.1
  obtain ⟨m, rfl⟩ : ∃ m', m = m' + 1 := ⟨m - 1, by omega⟩
  refine br_f (nI_ge (b := 100000000) hs (by decide)) (xs_chance H hw hlen hl2 hll St hpl (fun ea1 la1 S => br_f (by decide) ?_) (fun ea1 la1 S => br_t rfl ?_))
  · obtain ⟨_, b2, b3⟩ := hb true (zI ea1) S
    refine xf_first n10 (fun z => br_f (by decide) (b2 rfl z _ _ _ _ _)) (fun i T => br_t (nI_pos' (by have := T.1; omega)) ?_)
    have hi := T.1
    have hu : 1 ≤ qd_u n (zI tr) := qc_one n i hi T.2.1
    have s2 := St.2.1
    refine xf_place n10 hi (by omega) (fun mk hmk => nm_r (nI_1 D) (nm_r (nI_1 s) ?_))
    refine b3 rfl i T _ ea1 la1 _ _ ?_ (fun j hj => ?_) (fun j hj => ?_) m (by omega)
    · rw [zI_u]; rfl
    · by_cases y : j = D
      · subst y; rw [pk_us, qd_uNs]
      · rw [pk_un y, qd_uNn y]; exact hpl j (by omega)
    · by_cases y : j = D
      · subst y
        rw [pk_us, qd_uRs]
        exact hmk
      · rw [pk_un y, qd_uRn y]; exact hri j (by omega)
  · obtain ⟨b1, _, _⟩ := hb false (zI ea1) S
    have hR := b1 rfl tr ea1 la1 pl ri rfl hpl hri
    unfold wpX_retreat
    dsimp only
    refine ⟨D + 1, hR _ ⟨fun no tr' ea' la' pl' ri' => br_t rfl (hno no _ _ _ _ _), fun D' t' ch' rv' tr' ea' la' pl' ri' hW' hD' e1 e2 e3 => ?_⟩ (D + 1) (by omega)⟩
    exact br_f (nI_ne0 (by omega) (by omega)) (nm_r (nI_1 s) (hW' tr' ea' la' pl' ri' e1 e2 e3 m (by omega)))
theorem xf_fits {post : Int32 → St2 → Prop} {x1 x2 : Int32} {n st : Nat} {lat : Nat → Int} {dl wt : Nat → Nat → Int} {un : Nat → Nat} {len : Int} (hx1 : x1 = nI st) (H : xs_H n ml ll op uo wa lat wt un) (hw : qw_W n dl wt un) (hlen : x2.toInt = len) (hl2 : 0 ≤ len ∧ len ≤ 40) (hll : ∀ i, i < n → lat i ≤ len)
    (hst : st ≤ n) (hcy : ∀ i, i < st → 0 ≤ zI cy i ∧ zI cy i + lat i ≤ len)
    (h1 : ∀ c, qs_V n lat dl un len c → (∀ i, i < st → c i = zI cy i) → ∀ tr ea la pl ri : Nat → Int32, post 1 (ml, ll, nI n, op, fd, fa, fb, uo, cy, ini, seq, mac, pv, pt, wa, tr, ea, la, pl, ri))
    (h0 : (∀ c, qs_V n lat dl un len c → (∀ i, i < st → c i = zI cy i) → False) → ∀ tr ea la pl ri : Nat → Int32, post 0 (ml, ll, nI n, op, fd, fa, fb, uo, cy, ini, seq, mac, pv, pt, wa, tr, ea, la, pl, ri)) : wpX_fits post (ml, ll, nI n, op, fd, fa, fb, uo, cy, ini, seq, mac, pv, pt, wa, tr, ea, la, pl, ri) x1 x2 := by
  subst hx1
  have n10 := H.2.1
  unfold wpX_fits
  dsimp only
  have key := loop_0 (fun m i (s : Nat → Int32) => wX_fits_2 post (nI st) x2 ml ll (nI n) m (nI i) op fd fa fb uo cy ini seq mac pv pt wa s ea la pl ri) (fun i s => ∀ j, j < i → (j < st → s j = cy j) ∧ (¬ j < st → s j = -1)) n tr (fun j hj => absurd hj (Nat.not_lt_zero j)) (fun m s I => ?_) (fun m i s hi I ih => ?_)
  · exact key
  · refine br_t (nI_le (Nat.le_refl n) (by omega)) ⟨100000001, ?_⟩
    have t1 : ∀ i, i < n → (i < st → zI s i = zI cy i) ∧ (¬ i < st → zI s i = -1) := fun i hi => ⟨fun z => by unfold zI; rw [(I i hi).1 z], fun z => by unfold zI; rw [(I i hi).2 z]; exact zi_m1⟩
    have ext : ∀ c : Nat → Int, (∀ i, i < n → zI s i ≠ -1 → c i = zI s i) ↔ (∀ i, i < st → c i = zI cy i) := by
      intro c
      constructor
      · intro z i hi
        rw [← (t1 i (by omega)).1 hi]
        refine z i (by omega) ?_
        rw [(t1 i (by omega)).1 hi]
        have := (hcy i hi).1
        omega
      · intro z i hi hz
        by_cases y : i < st
        · rw [(t1 i hi).1 y]; exact z i y
        · exact absurd ((t1 i hi).2 y) hz
    have hW := xf_hW (post := post) (fd := fd) (fa := fa) (fb := fb) (cy := cy) (ini := ini) (seq := seq) (mac := mac) (pv := pv) (pt := pt) (NO := ∀ c, qs_V n lat dl un len c → (∀ i, i < st → c i = zI cy i) → False) H hw hlen hl2 hll h0
    have hR := xf_hR (post := post) (x2 := x2) (ml := ml) (ll := ll) (op := op) (fd := fd) (fa := fa) (fb := fb) (uo := uo) (cy := cy) (ini := ini) (seq := seq) (mac := mac) (pv := pv) (pt := pt) (wa := wa) (lat := lat) (len := len) (NO := ∀ c, qs_V n lat dl un len c → (∀ i, i < st → c i = zI cy i) → False) n10
    have M := qd_main (t0 := zI s) (ch := fun _ => 0) (rv := fun _ _ => False) n10 (by decide) hw hW hR (fun i hi => ?_) (fun c V hc => h1 c V ((ext c).mp hc)) (fun no s' ch' rv' hs' => ?_)
    · exact M s ea la pl ri rfl (fun j hj => absurd hj (Nat.not_lt_zero j)) (fun j hj => absurd hj (Nat.not_lt_zero j)) 100000001 (by decide)
    · by_cases y : i < st
      · rw [(t1 i hi).1 y]; exact Or.inr (hcy i y)
      · exact Or.inl ((t1 i hi).2 y)
    · intro tr' ea' la' pl' ri' _ _ _ P G k hk
      obtain ⟨k, rfl⟩ : ∃ k', k = k' + 1 := ⟨k - 1, by omega⟩
      exact br_t (by decide) (G.1 (fun c V hc => no c V ((ext c).mpr hc)) _ _ _ _ _)
  · have hin : vp_in (nI i) 10 := vp_in_nI (by omega) (by omega)
    have up : ∀ v : Int32, (i < st → v = cy i) → (¬ i < st → v = -1) → ∀ j, j < i + 1 → (j < st → upd s i v j = cy j) ∧ (¬ j < st → upd s i v j = -1) := by
      intro v v1 v2 j hj
      by_cases y : j = i
      · subst y; rw [pk_us]; exact ⟨v1, v2⟩
      · rw [pk_un y]; exact I j (by omega)
    refine br_f (nI_ge hi (by omega)) ?_
    rw [nI_clamp (show i < 2 ^ 31 by omega)]
    exact pk_le st i (fun q => ⟨hin, nm_e (nm_r (nI_1 i) (ih _ (up (-1) (fun z => by omega) (fun _ => rfl))))⟩) (fun q => ⟨hin, hin, nm_e (nm_r (nI_1 i) (ih _ (up (cy i) (fun _ => rfl) (fun z => absurd q z))))⟩)
end
