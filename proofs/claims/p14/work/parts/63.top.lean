theorem i_vc (xs : Nat → Int32) (L : Nat) (hL : L ≤ 260) : wpL_law (fun r => r = 1) L xs := by
  unfold wpL_law
  refine nm_r (nI_1 0) (zw_cell (k := 0) hL (by omega) (fun v => zw_m (m := 4) rfl (by decide) (by decide) (fun q hq => nm_r (show (1 : Int32) + nI q = nI (1 + q) from nI_add 1 q) (nm_r (nI_1 1) (zw_cell hL (by omega) (fun v2 => zw_m (m := 4) rfl (by decide) (by decide) (fun q2 hq2 => nm_r (show (1 : Int32) + nI q2 = nI (1 + q2) from nI_add 1 q2) ?_)))))))
  refine ⟨17, 278, by decide, by decide, zw_init (by omega) (by omega) (by omega) (by omega) ⟨by decide, by decide, 17, 278, by decide, by decide, zw_init (by omega) (by omega) (by omega) (by omega) ?_⟩⟩
  refine nm_r (nI_1 2) (zw_cell hL (by omega) (fun v3 => zw_m (m := 10) rfl (by decide) (by decide) (fun q3 hq3 => nm_r (show (1 : Int32) + nI q3 = nI (1 + q3) from nI_add 1 q3) ⟨1 + q3 + 1, ?_⟩)))
  exact zw_74 (post := fun r => r = 1) (n := 1 + q3) hL (by omega) (by omega) ⟨1 + q, by omega, by omega, rfl⟩ ⟨1 + q2, by omega, by omega, rfl⟩ rfl (1 + q3) 0 3 (by omega) (by omega) _ _ _ _ _ _ _ (fun i hi => absurd hi (Nat.not_lt_zero i)) (fun i hi => absurd hi (Nat.not_lt_zero i))
