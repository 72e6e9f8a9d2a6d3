/-- what one step of the reference's search does, over a loop predicate W (step, level, work) -/
def qy_S (n : Nat) (lat : Nat → Int) (dl : Nat → Nat → Int) (un : Nat → Nat) (len : Int) (LIM : Nat) (W : Nat → Nat → (Nat → Int) → Prop) (YES : (Nat → Int) → Prop) (NO : Prop) : Prop :=
  ∀ s k w, s < LIM → k < n → -1 ≤ w k → w k ≤ len → (∀ j, j < k → 0 ≤ w j ∧ w j ≤ len) →
    (¬ w k + 1 + lat k ≤ len → k = 0 → NO) → (¬ w k + 1 + lat k ≤ len → ∀ q, k = q + 1 → W (s + 1) q (qg_up w k (-1))) →
    (w k + 1 + lat k ≤ len → qr_F dl un k (qg_up w k (w k + 1)) → k + 1 = n → YES (qg_up w k (w k + 1))) →
    (w k + 1 + lat k ≤ len → qr_F dl un k (qg_up w k (w k + 1)) → k + 1 < n → W (s + 1) (k + 1) (qg_up (qg_up w k (w k + 1)) (k + 1) (-1))) →
    (w k + 1 + lat k ≤ len → ¬ qr_F dl un k (qg_up w k (w k + 1)) → W (s + 1) k (qg_up w k (w k + 1))) → W s k w
/-- THE REFERENCE'S SEARCH: it finds the least schedule, or there is none -/
theorem qy_main {n : Nat} {lat : Nat → Int} {dl : Nat → Nat → Int} {un : Nat → Nat} {len : Int} {e : Nat → Int} {LIM : Nat} {W : Nat → Nat → (Nat → Int) → Prop} {YES : (Nat → Int) → Prop} {NO : Prop}
    (hn : 0 < n) (hlen : 0 ≤ len) (hlat : ∀ i, i < n → 1 ≤ lat i) (H : qh_H n dl e)
    (hb : (∃ c, qs_V n lat dl un len c) → qb_B (fun k => len - lat k + 2) (fun k => len - lat k + 1 - e k) n 0 < (LIM : Int) ∧ ∀ k, k < n → e k ≤ len - lat k)
    (hE : NO → ∀ k w, W LIM k w) (hS : qy_S n lat dl un len LIM W YES NO) (hY : ∀ w, qs_X n lat dl un len w → YES w) (hN : (∀ c, ¬ qs_V n lat dl un len c) → NO) : ∀ w, w 0 = -1 → W 0 0 w := by
  have B1 : ∀ j, j < n → qb_B (fun k => len - lat k + 2) (fun k => len - lat k + 1 - e k) (n - j) j = (len - lat j + 1) + 1 + ((len - lat j + 1) - e j) * qb_B (fun k => len - lat k + 2) (fun k => len - lat k + 1 - e k) (n - (j + 1)) (j + 1) := by
    intro j hj
    obtain ⟨m, hm⟩ : ∃ m, n - j = m + 1 := ⟨n - j - 1, by omega⟩
    rw [hm, show n - (j + 1) = m by omega]
    show (len - lat j + 2) + (len - lat j + 1 - e j) * _ = _
    omega
  have B0 : (∃ c, qs_V n lat dl un len c) → ∀ j, j ≤ n → 0 ≤ qb_B (fun k => len - lat k + 2) (fun k => len - lat k + 1 - e k) (n - j) j := by
    intro hf j hj
    have h2 := (hb hf).2
    refine qb_B0 (n := n) (fun i hi => ?_) (fun i hi => ?_) (n - j) j (by omega)
    · have := h2 i hi
      have := H.1 i hi
      show 0 ≤ len - lat i + 2
      omega
    · have := h2 i hi
      show 0 ≤ len - lat i + 1 - e i
      omega
  generalize hBd : (fun j => qb_B (fun k => len - lat k + 2) (fun k => len - lat k + 1 - e k) (n - j) j) = B
  generalize hMd : (fun j => len - lat j + 1) = M
  have hM : ∀ j, M j = len - lat j + 1 := fun j => by rw [← hMd]
  have hB : ∀ j, j < n → B j = M j + 1 + (M j - e j) * B (j + 1) := fun j hj => by
    rw [← hBd, hM j]
    exact B1 j hj
  have hB0 : (∃ c, qs_V n lat dl un len c) → ∀ j, j ≤ n → 0 ≤ B j := fun hf j hj => by
    rw [← hBd]
    exact B0 hf j hj
  have hBl : (∃ c, qs_V n lat dl un len c) → B 0 < (LIM : Int) := fun hf => by
    rw [← hBd]
    exact (hb hf).1
  have he : (∃ c, qs_V n lat dl un len c) → ∀ j, j < n → e j ≤ M j - 1 := fun hf j hj => by
    have := (hb hf).2 j hj
    rw [hM]
    omega
  have key : ∀ d s k w, s + d = LIM → qr_I n lat dl un len k w → ((∃ c, qs_V n lat dl un len c) → (s : Int) + qr_mu M e B k w ≤ B 0) → W s k w := by
    intro d
    induction d with
    | zero =>
      intro s k w hs I hmu
      rw [show s = LIM by omega]
      refine hE (hN fun c V => ?_) k w
      have h1 := hmu ⟨c, V⟩
      have h2 := hBl ⟨c, V⟩
      have h3 : 0 ≤ qr_mu M e B k w := qr_mu0 (fun j hj => hB0 ⟨c, V⟩ (j + 1) (by have := I.1; omega)) (fun j hj => by
        have h4 := he ⟨c, V⟩ j (by have := I.1; omega)
        refine ⟨?_, by omega⟩
        by_cases x : j = k
        · subst x
          rcases I.2.2.1.2 with y | y
          · have := H.1 j I.1
            omega
          · rw [hM]; omega
        · have := (I.2.1 j (by omega)).1.2
          rw [hM]; omega)
      rw [show s = LIM by omega] at h1
      omega
    | succ d ih =>
      intro s k w hs I hmu
      have hk := I.1
      have hwk : w k ≤ len := by
        rcases I.2.2.1.2 with y | y
        · omega
        · have := hlat k hk
          omega
      refine hS s k w (by omega) hk I.2.2.1.1 hwk (fun j hj => ⟨(I.2.1 j hj).1.1, by have := (I.2.1 j hj).1.2; have := hlat j (by omega); omega⟩) (fun h1 h2 => ?_) (fun h1 q hq => ?_) (fun h1 h2 h3 => ?_) (fun h1 h2 h3 => ?_) (fun h1 h2 => ?_)
      · subst h2
        exact hN fun c => qr_none I h1 c
      · subst hq
        have eq : ∀ i, i ≤ q → w i = qg_up w (q + 1) (-1) i := fun i hi => (qg_un (by omega)).symm
        refine ih (s + 1) q _ (by omega) (qr_back I h1 eq) fun hf => ?_
        have h2 := hmu hf
        have h3 : w (q + 1) + 1 = M (q + 1) := by
          rw [hM]
          rcases I.2.2.1.2 with y | y
          · have h4 := he hf (q + 1) hk
            have h5 := H.1 (q + 1) hk
            rw [hM] at h4
            omega
          · omega
        have h6 := qr_muB (B := B) (M := M) (e := e) h3 (by have := he hf (q + 1) hk; omega) eq
        omega
      · exact hY _ (qr_done I h1 h2 h3)
      · refine ih (s + 1) (k + 1) _ (by omega) (qr_down I h1 h2 h3) fun hf => ?_
        have h4 := hmu hf
        have h5 := (qr_pre I h1 h2).1
        have h6 := qr_head H (k := k + 1) (by omega) (fun j hj => ⟨(h5 j hj).1.1, (h5 j hj).2⟩) k (by omega)
        rw [qg_us] at h6
        have h7 := qr_muD (B := B) (M := M) h6 (H.1 (k + 1) h3) (hB (k + 1) h3)
        omega
      · refine ih (s + 1) k _ (by omega) (qr_skip I h1 h2) fun hf => ?_
        have h4 := hmu hf
        have h5 := qr_muS (M := M) (e := e) (w := w) (hB0 hf (k + 1) (by omega))
        omega
  intro w hw
  refine key LIM 0 0 w (by omega) (qr_I0 hn hw) fun hf => ?_
  have h1 : qr_mu M e B 0 w = qr_R M e B w 0 := by
    show (0 : Int) + qr_R M e B w 0 = _
    omega
  have h2 : qr_R M e B w 0 = B 0 := by
    unfold qr_R
    have := H.1 0 hn
    rw [hw, if_pos (by omega), hB 0 hn]
    have a1 : M 0 - 1 - (e 0 - 1) = M 0 - e 0 := by omega
    have a2 : M 0 - -1 = M 0 + 1 := by omega
    rw [a1, a2]
  rw [h1, h2]
  omega
