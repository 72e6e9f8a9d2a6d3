theorem i_vc_schedule {k : Nat} {u : SX} {v : SY} (I : i_Rel k u v) (hk : k + 5 ≤ 2562) : wpX_schedule (fun r u' => wpY_schedule (fun r' v' => r' = r ∧ i_Rel (k + 5) u' v') v) u := by
  have R : i_Rel (k + 5) u v := i_up I
  obtain ⟨n, ml, ll, op, fd, fa, fb, uo, cy, ini, seq, mac, pv, pt, wa, tr, ea, la, pl, ri, wo, be, rfl, rfl, hn, L1, L2, F, U, K⟩ := I
  refine xh_sched hn F L1 L2 U (fun e => ?_) (fun hn0 L hL hV hno cy1 wa1 tr1 ea1 la1 pl1 ri1 X1 k1 => ?_)
  · refine yh_sched hn F L1 L2 (fun _ => ⟨rfl, R⟩) (fun e' => ?_)
    omega
  · refine yh_sched hn F L1 L2 (fun e => ?_) (fun _ L' hL' hV' hno' cy2 wo2 be2 X2 k2 => ?_)
    · omega
    have eL : L' = L := by
      obtain ⟨c, V⟩ := hV
      obtain ⟨c', V'⟩ := hV'
      by_cases a : L' < L
      · exact absurd V' (hno (L' : Int) (by omega) c')
      · by_cases b : L < L'
        · exact absurd V (hno' (L : Int) (by omega) c)
        · omega
    subst eL
    have ec : cy2 = cy1 := by
      funext j
      by_cases y : j < n
      · exact Int32.toInt_inj.mp (qs_Xu X2 X1 j y)
      · rw [k2 j (by omega), k1 j (by omega)]
    subst ec
    refine ⟨rfl, n, ml, ll, op, fd, fa, fb, uo, cy2, ini, seq, mac, pv, pt, wa1, tr1, ea1, la1, pl1, ri1, wo2, be2, rfl, rfl, hn, L1, L2, F, U, fun i hi => Or.inr ?_⟩
    have h1 := X2.1.1 i hi
    have h2 := zv_Tr (op := op) L1 L2 i
    refine ⟨(cy2 i).toInt.toNat, ?_, zh_nI h1.1⟩
    have h3 : zI cy2 i = (cy2 i).toInt := rfl
    omega
