/-! runs: what an instruction computes, and where it writes -/
def zr_ad (fa fb : Nat → Int32) (st : Nat → Int32) (i : Nat) : Int32 := 8 + ((st (fa i).toNatClampNeg + fb i) &&& 7)
def zr_val (op fd fa fb st : Nat → Int32) (i : Nat) : Int32 :=
  if op i = 1 then fa i
  else if op i = 2 then st (fa i).toNatClampNeg + st (fb i).toNatClampNeg
  else if op i = 3 then st (fa i).toNatClampNeg - st (fb i).toNatClampNeg
  else if op i = 4 then st (fa i).toNatClampNeg * st (fb i).toNatClampNeg
  else if op i = 5 then st (zr_ad fa fb st i).toNatClampNeg
  else st (fd i).toNatClampNeg
def zr_tgt (op fd fa fb st : Nat → Int32) (i : Nat) : Int32 := if op i = 6 then zr_ad fa fb st i else fd i
theorem zr_adN (fa fb st : Nat → Int32) (i : Nat) : ∃ a, 8 ≤ a ∧ a < 16 ∧ zr_ad fa fb st i = nI a := by
  obtain ⟨j, hj, e⟩ := pk_andE (st (fa i).toNatClampNeg + fb i) (m := 7) 3 (by decide)
  refine ⟨8 + j, by omega, by omega, ?_⟩
  unfold zr_ad
  rw [e]
  exact nI_add 8 j
theorem zr_tgtN {n : Nat} {op fd fa fb : Nat → Int32} (F : zv_F n op fd fa fb) (st : Nat → Int32) {i : Nat} (hi : i < n) : ∃ a, a < 16 ∧ zr_tgt op fd fa fb st i = nI a := by
  obtain ⟨_, ⟨d, hd, ed⟩, _, _⟩ := F i hi
  unfold zr_tgt
  split
  · obtain ⟨a, _, h, e⟩ := zr_adN fa fb st i
    exact ⟨a, h, e⟩
  · exact ⟨d, by omega, ed⟩
/-- the block in order: the first k done -/
def zr_seq (op fd fa fb st0 : Nat → Int32) : Nat → Nat → Int32
  | 0 => st0
  | k + 1 => upd (zr_seq op fd fa fb st0 k) (zr_tgt op fd fa fb (zr_seq op fd fa fb st0 k) k).toNatClampNeg (zr_val op fd fa fb (zr_seq op fd fa fb st0 k) k)
/-- pending values and targets, the first k computed in order -/
def zr_sv (op fd fa fb st0 pv0 : Nat → Int32) : Nat → Nat → Int32
  | 0 => pv0
  | k + 1 => upd (zr_sv op fd fa fb st0 pv0 k) k (zr_val op fd fa fb (zr_seq op fd fa fb st0 k) k)
def zr_sp (op fd fa fb st0 pt0 : Nat → Int32) : Nat → Nat → Int32
  | 0 => pt0
  | k + 1 => upd (zr_sp op fd fa fb st0 pt0 k) k (zr_tgt op fd fa fb (zr_seq op fd fa fb st0 k) k)
/-- issue at t: values and targets of the first k -/
def zr_iv (op fd fa fb cy st : Nat → Int32) (t : Int32) (pv0 : Nat → Int32) : Nat → Nat → Int32
  | 0 => pv0
  | k + 1 => if cy k = t then upd (zr_iv op fd fa fb cy st t pv0 k) k (zr_val op fd fa fb st k) else zr_iv op fd fa fb cy st t pv0 k
def zr_ip (op fd fa fb cy st : Nat → Int32) (t : Int32) (pt0 : Nat → Int32) : Nat → Nat → Int32
  | 0 => pt0
  | k + 1 => if cy k = t then upd (zr_ip op fd fa fb cy st t pt0 k) k (zr_tgt op fd fa fb st k) else zr_ip op fd fa fb cy st t pt0 k
/-- write at t: the state behind the first k -/
def zr_w (ml ll : Int32) (op cy pv pt : Nat → Int32) (t : Int32) (st0 : Nat → Int32) : Nat → Nat → Int32
  | 0 => st0
  | k + 1 => if cy k + zv_lat ml ll op k - 1 = t then upd (zr_w ml ll op cy pv pt t st0 k) (pt k).toNatClampNeg (pv k) else zr_w ml ll op cy pv pt t st0 k
/-- the length of the cycles, the first k seen -/
def zr_len (ml ll : Int32) (op cy : Nat → Int32) : Nat → Int32
  | 0 => 0
  | k + 1 => if cy k + zv_lat ml ll op k ≤ zr_len ml ll op cy k then zr_len ml ll op cy k else cy k + zv_lat ml ll op k
/-- how many locations differ, the first k seen -/
def zr_df (a b : Nat → Int32) : Nat → Int32
  | 0 => 0
  | k + 1 => if a k = b k then zr_df a b k else zr_df a b k + 1
/-- the machine: state, pending values, pending targets ahead of cycle t -/
def zr_mach (ml ll : Int32) (op fd fa fb cy : Nat → Int32) (n : Nat) (st0 pv0 pt0 : Nat → Int32) : Nat → (Nat → Int32) × (Nat → Int32) × (Nat → Int32)
  | 0 => (st0, pv0, pt0)
  | t + 1 =>
    (zr_w ml ll op cy (zr_iv op fd fa fb cy (zr_mach ml ll op fd fa fb cy n st0 pv0 pt0 t).1 (nI t) (zr_mach ml ll op fd fa fb cy n st0 pv0 pt0 t).2.1 n) (zr_ip op fd fa fb cy (zr_mach ml ll op fd fa fb cy n st0 pv0 pt0 t).1 (nI t) (zr_mach ml ll op fd fa fb cy n st0 pv0 pt0 t).2.2 n) (nI t) (zr_mach ml ll op fd fa fb cy n st0 pv0 pt0 t).1 n,
      zr_iv op fd fa fb cy (zr_mach ml ll op fd fa fb cy n st0 pv0 pt0 t).1 (nI t) (zr_mach ml ll op fd fa fb cy n st0 pv0 pt0 t).2.1 n,
      zr_ip op fd fa fb cy (zr_mach ml ll op fd fa fb cy n st0 pv0 pt0 t).1 (nI t) (zr_mach ml ll op fd fa fb cy n st0 pv0 pt0 t).2.2 n)
