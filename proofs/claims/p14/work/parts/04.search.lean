def qd_f : Nat → Nat
  | 0 => 1
  | m + 1 => 1 + (m + 1) * qd_f m
theorem qd_f1 : ∀ m, 1 ≤ qd_f m := by
  intro m
  cases m with
  | zero => exact Nat.le_refl 1
  | succ m => show 1 ≤ 1 + (m + 1) * qd_f m; omega
theorem qd_fm (m : Nat) : qd_f m ≤ qd_f (m + 1) := by
  show qd_f m ≤ 1 + (m + 1) * qd_f m
  rw [Nat.succ_mul]
  omega
theorem qd_f10 : qd_f 10 = 9864101 := by decide +kernel
theorem qd_fle {m : Nat} (h : m ≤ 10) : qd_f m ≤ 9864101 := by
  have H : ∀ d, ∀ m, m + d = 10 → qd_f m ≤ qd_f 10 := by
    intro d
    induction d with
    | zero => intro m hm; rw [show m = 10 by omega]; exact Nat.le_refl _
    | succ d ih => intro m hm; exact Nat.le_trans (qd_fm m) (ih (m + 1) (by omega))
  have := H (10 - m) m (by omega)
  rw [qd_f10] at this
  exact this
noncomputable def qd_u (n : Nat) (t : Nat → Int) : Nat := qc_n (fun i => t i = -1) n
def qd_uN (ch : Nat → Nat) (k x : Nat) : Nat → Nat := fun j => if j = k then x else ch j
theorem qd_uNs {ch : Nat → Nat} {k x : Nat} : qd_uN ch k x k = x := if_pos rfl
theorem qd_uNn {ch : Nat → Nat} {k x j : Nat} (h : j ≠ k) : qd_uN ch k x j = ch j := if_neg h
def qd_uR (rv : Nat → Nat → Prop) (k : Nat) (x : Nat → Prop) : Nat → Nat → Prop := fun j => if j = k then x else rv j
theorem qd_uRs {rv : Nat → Nat → Prop} {k : Nat} {x : Nat → Prop} : qd_uR rv k x k = x := if_pos rfl
theorem qd_uRn {rv : Nat → Nat → Prop} {k j : Nat} {x : Nat → Prop} (h : j ≠ k) : qd_uR rv k x j = rv j := if_neg h
/-- where those left may go, at depth D -/
def qd_lo (D : Nat) (t : Nat → Int) (ch : Nat → Nat) : Nat → Int :=
  match D with
  | 0 => fun _ => 0
  | d + 1 => qo_lk (ch d) (t (ch d))
def qd_St (n : Nat) (lat : Nat → Int) (len : Int) (D : Nat) (t : Nat → Int) (ch : Nat → Nat) : Prop :=
  (∀ i, i < n → t i = -1 ∨ (0 ≤ t i ∧ t i + lat i ≤ len)) ∧ D + qd_u n t ≤ n ∧ (∀ j, j < D → ch j < n ∧ t (ch j) ≠ -1)
def qd_hW (n : Nat) (lat : Nat → Int) (dl wt : Nat → Nat → Int) (un : Nat → Nat) (len : Int) (MX : Nat) (W Rt : Nat → Nat → (Nat → Int) → (Nat → Nat) → (Nat → Nat → Prop) → Prop) (OK : Prop) : Prop :=
  ∀ s D t ch rv, s < MX → qd_St n lat len D t ch →
    (∀ b e, qo_S n lat dl wt un len t (qd_lo D t ch) b e → (b = false → Rt s D t ch rv) ∧ (b = true → (∀ i, i < n → t i ≠ -1) → OK) ∧
      (b = true → ∀ i, qo_T n t e i → W (s + 1) (D + 1) (qg_up t i (e i)) (qd_uN ch D i) (qd_uR rv D (qo_R n t e i)))) → W s D t ch rv
def qd_hR (n : Nat) (lat : Nat → Int) (len : Int) (MX : Nat) (W Rt : Nat → Nat → (Nat → Int) → (Nat → Nat) → (Nat → Nat → Prop) → Prop) : Prop :=
  ∀ s D t ch rv, s < MX → qd_St n lat len (D + 1) t ch →
    (∀ i, ch D < i → i < n → rv D i → (∀ j, ch D < j → j < i → ¬ rv D j) → W (s + 1) (D + 1) (qg_up (qg_up t (ch D) (-1)) i (t (ch D))) (qd_uN ch D i) rv) →
    ((∀ i, ch D < i → i < n → ¬ rv D i) → Rt s D (qg_up t (ch D) (-1)) ch rv) → Rt s (D + 1) t ch rv
theorem qd_u0 {t : Nat → Int} {i : Nat} {x : Int} (h : t i = -1) : qg_up (qg_up t i x) i (-1) = t := by
  funext j
  by_cases e : j = i
  · subst e; rw [qg_us, h]
  · rw [qg_un e, qg_un e]
theorem qd_set {n : Nat} {t : Nat → Int} {i : Nat} {v : Int} (hi : i < n) (h : t i = -1) (hv : v ≠ -1) : qd_u n t = qd_u n (qg_up t i v) + 1 :=
  qc_drop n i hi h (by show ¬ qg_up t i v i = -1; rw [qg_us]; exact hv) (fun j _ hj => by show qg_up t i v j = -1 ↔ t j = -1; rw [qg_un hj])
/-- a child's trial keeps to the rules -/
theorem qd_kid {n : Nat} {lat : Nat → Int} {len : Int} {D : Nat} {t : Nat → Int} {ch ch1 : Nat → Nat} (St : qd_St n lat len D t ch) {i : Nat} {v : Int} (hi : i < n) (h : t i = -1) (hv : 0 ≤ v) (hl : v + lat i ≤ len)
    (hc : ch1 D = i) (ag : ∀ j, j < D → ch1 j = ch j) : qd_St n lat len (D + 1) (qg_up t i v) ch1 := by
  obtain ⟨s1, s2, s3⟩ := St
  refine ⟨fun j hj => ?_, ?_, fun j hj => ?_⟩
  · by_cases e : j = i
    · subst e; rw [qg_us]; exact Or.inr ⟨hv, hl⟩
    · rw [qg_un e]; exact s1 j hj
  · have := qd_set (v := v) hi h (by omega)
    omega
  · by_cases e : j = D
    · subst e; rw [hc, qg_us]; exact ⟨hi, by omega⟩
    · have h1 := s3 j (by omega)
      rw [ag j (by omega)]
      exact ⟨h1.1, by rw [qg_un (fun x => h1.2 (by rw [x]; exact h))]; exact h1.2⟩
/-- THE SEARCH over its rules: a node with m unset takes at most f m steps, and misses nothing -/
theorem qd_node {n : Nat} {lat : Nat → Int} {dl wt : Nat → Nat → Int} {un : Nat → Nat} {len : Int} {MX : Nat} {W Rt : Nat → Nat → (Nat → Int) → (Nat → Nat) → (Nat → Nat → Prop) → Prop} {OK : Prop} {t0 : Nat → Int}
    (hw : qw_W n dl wt un) (hW : qd_hW n lat dl wt un len MX W Rt OK) (hR : qd_hR n lat len MX W Rt)
    (hok : ∀ c, qs_V n lat dl un len c → (∀ i, i < n → t0 i ≠ -1 → c i = t0 i) → OK) :
    ∀ m s D t ch rv, qd_u n t = m → qd_St n lat len D t ch → (∀ i, i < n → t0 i ≠ -1 → t i = t0 i) → s + qd_f m ≤ MX →
      ((∀ c, ¬ qo_C n lat dl un len t (qd_lo D t ch) c) → ∀ s' ch' rv', s ≤ s' → s' < s + qd_f m → (∀ j, j < D → ch' j = ch j ∧ rv' j = rv j) → Rt s' D t ch' rv') → W s D t ch rv := by
  intro m
  induction m with
  | zero =>
    intro s D t ch rv hu St h0 hs hK
    have f1 := qd_f1 0
    refine hW s D t ch rv (by omega) St fun b e S => ⟨fun hb => ?_, fun hb ha => ?_, fun hb i T => ?_⟩
    · refine hK (fun c C => ?_) s ch rv (Nat.le_refl s) (by omega) fun _ _ => ⟨rfl, rfl⟩
      have := (S.1 c C).1
      rw [hb] at this
      exact absurd this (by decide)
    · exact hok t (qo_acc hw (S.2 hb) ha St.1) h0
    · have h1 : 1 ≤ qd_u n t := qc_one n i T.1 T.2.1
      omega
  | succ m ih =>
    intro s D t ch rv hu St h0 hs hK
    have f1 := qd_f1 (m + 1)
    have fe : qd_f (m + 1) = 1 + (m + 1) * qd_f m := rfl
    refine hW s D t ch rv (by omega) St fun b e S => ⟨fun hb => ?_, fun hb ha => ?_, fun hb i T => ?_⟩
    · refine hK (fun c C => ?_) s ch rv (Nat.le_refl s) (by omega) fun _ _ => ⟨rfl, rfl⟩
      have := (S.1 c C).1
      rw [hb] at this
      exact absurd this (by decide)
    · exact hok t (qo_acc hw (S.2 hb) ha St.1) h0
    · subst hb
      have hi := T.1
      have ti := T.2.1
      obtain ⟨o1, o2, o3, o4, o5, o6, o7⟩ := S.2 rfl
      have cl : ∀ k, (k = i ∨ qo_R n t e i k) → i ≤ k ∧ k < n ∧ t k = -1 ∧ e k = e i := by
        intro k h
        rcases h with h | h
        · subst h; exact ⟨Nat.le_refl _, hi, ti, rfl⟩
        · exact ⟨by have := h.1; omega, h.2.1, h.2.2.1, h.2.2.2⟩
      have H : ∀ q k s1 ch1 rv1, n ≤ k + q → (k = i ∨ qo_R n t e i k) → (∀ j, j < k → (j = i ∨ qo_R n t e i j) → ∀ c, ¬ qo_C n lat dl un len (qg_up t j (e i)) (qo_lk j (e i)) c) →
          s ≤ s1 → s1 + qc_n (fun j => k ≤ j ∧ (j = i ∨ qo_R n t e i j)) n * qd_f m ≤ s + qd_f (m + 1) → (∀ j, j < D → ch1 j = ch j ∧ rv1 j = rv j) → ch1 D = k → rv1 D = qo_R n t e i →
          W s1 (D + 1) (qg_up t k (e i)) ch1 rv1 := by
        intro q
        induction q with
        | zero => intro k s1 ch1 rv1 hq hk; have := (cl k hk).2.1; omega
        | succ q ihq =>
          intro k s1 ch1 rv1 hq hk hd hs1 hb hag hck hrk
          obtain ⟨k1, k2, k3, k4⟩ := cl k hk
          have hx := o1 k k2 k3
          rw [k4] at hx
          have hc1 : 1 ≤ qc_n (fun j => k ≤ j ∧ (j = i ∨ qo_R n t e i j)) n := qc_one n k k2 ⟨Nat.le_refl k, hk⟩
          have hF : qd_f m ≤ qc_n (fun j => k ≤ j ∧ (j = i ∨ qo_R n t e i j)) n * qd_f m := Nat.le_mul_of_pos_left _ hc1
          have hset := qd_set (v := e i) k2 k3 (by omega)
          have St1 := qd_kid St k2 k3 hx.1 hx.2 hck fun j hj => (hag j hj).1
          refine ih s1 (D + 1) _ ch1 rv1 (by omega) St1 (fun j hj hz => ?_) (by omega) fun hdead s' ch' rv' hs' hs'' hag' => ?_
          · have hj1 := h0 j hj hz
            have : j ≠ k := fun x => hz (by rw [← hj1, x]; exact k3)
            rw [qg_un this]; exact hj1
          · have hck' : ch' D = k := by rw [(hag' D (by omega)).1]; exact hck
            have hrk' : rv' D = qo_R n t e i := by rw [(hag' D (by omega)).2]; exact hrk
            have hag1 : ∀ j, j < D → ch' j = ch j ∧ rv' j = rv j := fun j hj => by
              rw [(hag' j (by omega)).1, (hag' j (by omega)).2]; exact hag j hj
            have hlo : qd_lo (D + 1) (qg_up t k (e i)) ch1 = qo_lk k (e i) := by
              show qo_lk (ch1 D) (qg_up t k (e i) (ch1 D)) = _
              rw [hck, qg_us]
            rw [hlo] at hdead
            have St2 := qd_kid St k2 k3 hx.1 hx.2 hck' fun j hj => (hag1 j hj).1
            refine hR s' D _ ch' rv' (by omega) St2 (fun i' h1 h2 h3 h4 => ?_) (fun h1 => ?_)
            · rw [hck'] at h1 h4 ⊢
              rw [hrk'] at h3 h4
              rw [qd_u0 k3, qg_us]
              have hcnt : qc_n (fun j => k ≤ j ∧ (j = i ∨ qo_R n t e i j)) n = qc_n (fun j => i' ≤ j ∧ (j = i ∨ qo_R n t e i j)) n + 1 := by
                refine qc_drop n k k2 ⟨Nat.le_refl k, hk⟩ (fun x => by have := x.1; omega) fun j hj hjk => ⟨fun x => ⟨by have := x.1; omega, x.2⟩, fun x => ⟨?_, x.2⟩⟩
                by_cases y : i' ≤ j
                · exact y
                · exfalso
                  rcases x.2 with z | z
                  · have := x.1; omega
                  · exact h4 j (by have := x.1; omega) (by omega) z
              rw [hcnt, Nat.succ_mul] at hb
              refine ihq i' (s' + 1) (qd_uN ch' D i') rv' (by omega) (Or.inr h3) (fun j hj hcj => ?_) (by omega) (by omega) (fun j hj => ?_) qd_uNs hrk'
              · by_cases y : j < k
                · exact hd j y hcj
                · by_cases z : j = k
                  · subst z; exact hdead
                  · exfalso
                    rcases hcj with w | w
                    · omega
                    · exact h4 j (by omega) hj w
              · rw [qd_uNn (by omega)]; exact hag1 j hj
            · rw [hck'] at h1 ⊢
              rw [hrk'] at h1
              rw [qd_u0 k3]
              refine hK (fun c C => ?_) s' ch' rv' (by omega) (by omega) hag1
              obtain ⟨k', hk', c', C'⟩ := qo_kid hw S T C
              by_cases y : k' < k
              · exact hd k' y hk' c' C'
              · by_cases z : k' = k
                · subst z; exact hdead c' C'
                · rcases hk' with w | w
                  · omega
                  · exact h1 k' (by omega) w.2.1 w
      have hcm : qc_n (fun j => i ≤ j ∧ (j = i ∨ qo_R n t e i j)) n ≤ m + 1 := by
        have h1 : qc_n (fun j => i ≤ j ∧ (j = i ∨ qo_R n t e i j)) n ≤ qd_u n t := qc_mono n fun j _ x => (cl j x.2).2.2.1
        omega
      have hmul := Nat.mul_le_mul_right (qd_f m) hcm
      refine H n i (s + 1) _ _ (by omega) (Or.inl rfl) (fun j hj hc => ?_) (by omega) (by omega) (fun j hj => ?_) qd_uNs qd_uRs
      · have := (cl j hc).1
        omega
      · rw [qd_uNn (by omega), qd_uRn (by omega)]; exact ⟨rfl, rfl⟩
theorem qd_main {n : Nat} {lat : Nat → Int} {dl wt : Nat → Nat → Int} {un : Nat → Nat} {len : Int} {MX : Nat} {W Rt : Nat → Nat → (Nat → Int) → (Nat → Nat) → (Nat → Nat → Prop) → Prop} {OK : Prop} {t0 : Nat → Int} {ch : Nat → Nat} {rv : Nat → Nat → Prop}
    (hn : n ≤ 10) (hMX : 9864101 ≤ MX) (hw : qw_W n dl wt un) (hW : qd_hW n lat dl wt un len MX W Rt OK) (hR : qd_hR n lat len MX W Rt)
    (h0 : ∀ i, i < n → t0 i = -1 ∨ (0 ≤ t0 i ∧ t0 i + lat i ≤ len))
    (hok : ∀ c, qs_V n lat dl un len c → (∀ i, i < n → t0 i ≠ -1 → c i = t0 i) → OK)
    (hno : (∀ c, qs_V n lat dl un len c → (∀ i, i < n → t0 i ≠ -1 → c i = t0 i) → False) → ∀ s' ch' rv', s' < MX → Rt s' 0 t0 ch' rv') : W 0 0 t0 ch rv := by
  have hu : qd_u n t0 ≤ n := qc_le n
  have hf := qd_fle (m := qd_u n t0) (by omega)
  refine qd_node hw hW hR hok (qd_u n t0) 0 0 t0 ch rv rfl ⟨h0, by omega, fun j hj => absurd hj (Nat.not_lt_zero j)⟩ (fun _ _ _ => rfl) (by omega) fun hd s' ch' rv' _ hs' _ => hno (fun c V hc => hd c ⟨V, hc, fun i hi _ => (V.1 i hi).1⟩) s' ch' rv' (by omega)
