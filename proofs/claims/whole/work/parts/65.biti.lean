/-! Integer.bitCount; masks -/
theorem mk51i : mkB 51 4 = 858993459 := by decide
theorem pI1_n {x : Int32} : (x - ((x.toUInt32 >>> (Int32.toUInt32 (zI 1) &&& Int32.toUInt32 31)).toInt32 &&& zI 1431655765)).toBitVec.toNat = sw1 4 x.toBitVec.toNat := by
  have h : ((x.toUInt32 >>> (Int32.toUInt32 (zI 1) &&& Int32.toUInt32 31)).toInt32).toBitVec.toNat = x.toBitVec.toNat / 2 ^ 1 := bw_ushr x 1 (by decide)
  have hx : x.toBitVec.toNat < 2 ^ 32 := x.toBitVec.isLt
  unfold sw1
  rw [Int32.toBitVec_sub, BitVec.toNat_sub, Int32.toBitVec_and, BitVec.toNat_and, h, show (zI 1431655765).toBitVec.toNat = mkB 85 4 by decide]
  have : x.toBitVec.toNat / 2 ^ 1 &&& mkB 85 4 ≤ x.toBitVec.toNat / 2 ^ 1 := Nat.and_le_left
  generalize x.toBitVec.toNat / 2 ^ 1 &&& mkB 85 4 = m at *
  omega
theorem pI2_n {x : Int32} : ((x &&& zI 858993459) + ((x.toUInt32 >>> (Int32.toUInt32 (zI 2) &&& Int32.toUInt32 31)).toInt32 &&& zI 858993459)).toBitVec.toNat = sw2 4 x.toBitVec.toNat := by
  have h : ((x.toUInt32 >>> (Int32.toUInt32 (zI 2) &&& Int32.toUInt32 31)).toInt32).toBitVec.toNat = x.toBitVec.toNat / 4 := bw_ushr x 2 (by decide)
  unfold sw2
  rw [Int32.toBitVec_add, BitVec.toNat_add, Int32.toBitVec_and, BitVec.toNat_and, Int32.toBitVec_and, BitVec.toNat_and, h, show (zI 858993459).toBitVec.toNat = mkB 51 4 by decide]
  have h1 : x.toBitVec.toNat &&& mkB 51 4 ≤ mkB 51 4 := Nat.and_le_right
  have h2 : x.toBitVec.toNat / 4 &&& mkB 51 4 ≤ mkB 51 4 := Nat.and_le_right
  rw [mk51i] at *
  omega
theorem pI3_n {x : Int32} (hx : x.toBitVec.toNat < 2 ^ 31) : ((x + (x.toUInt32 >>> (Int32.toUInt32 (zI 4) &&& Int32.toUInt32 31)).toInt32) &&& zI 252645135).toBitVec.toNat = sw3 4 x.toBitVec.toNat := by
  have h : ((x.toUInt32 >>> (Int32.toUInt32 (zI 4) &&& Int32.toUInt32 31)).toInt32).toBitVec.toNat = x.toBitVec.toNat / 2 ^ 4 := bw_ushr x 4 (by decide)
  unfold sw3
  rw [Int32.toBitVec_and, BitVec.toNat_and, Int32.toBitVec_add, BitVec.toNat_add, h, show (zI 252645135).toBitVec.toNat = mkB 15 4 by decide]
  congr 1
  omega
theorem pI4_n {x : Int32} (hx : x.toBitVec.toNat < 2 ^ 30) : (x + (x.toUInt32 >>> (Int32.toUInt32 (zI 8) &&& Int32.toUInt32 31)).toInt32).toBitVec.toNat = x.toBitVec.toNat + x.toBitVec.toNat / 256 := by
  have h : ((x.toUInt32 >>> (Int32.toUInt32 (zI 8) &&& Int32.toUInt32 31)).toInt32).toBitVec.toNat = x.toBitVec.toNat / 2 ^ 8 := bw_ushr x 8 (by decide)
  rw [Int32.toBitVec_add, BitVec.toNat_add, h]
  omega
theorem pI5_n {x : Int32} (hx : x.toBitVec.toNat < 2 ^ 30) : (x + (x.toUInt32 >>> (Int32.toUInt32 (zI 16) &&& Int32.toUInt32 31)).toInt32).toBitVec.toNat = x.toBitVec.toNat + x.toBitVec.toNat / 65536 := by
  have h : ((x.toUInt32 >>> (Int32.toUInt32 (zI 16) &&& Int32.toUInt32 31)).toInt32).toBitVec.toNat = x.toBitVec.toNat / 2 ^ 16 := bw_ushr x 16 (by decide)
  rw [Int32.toBitVec_add, BitVec.toNat_add, h]
  omega
theorem J_bitI (d : Nat) (x : Int32) (h : AH) : Cc (d + 1) k_J_bitI [aI x] h = some (some (aI (zI (cn x.toBitVec.toNat.testBit 32))), h) := by
  obtain ⟨e1, -⟩ := pc_Y 4 x.toBitVec.toNat x.toBitVec.isLt
  obtain ⟨e2, e3⟩ := pc32 _ (rfl : pcY 4 x.toBitVec.toNat = _)
  rw [C_J_bitI, E_J_bitI_0]
  simp only [lt_e]
  generalize hv1 : x - ((x.toUInt32 >>> (Int32.toUInt32 (zI 1) &&& Int32.toUInt32 31)).toInt32 &&& zI 1431655765) = v1
  have n1 : v1.toBitVec.toNat = sw1 4 x.toBitVec.toNat := by rw [← hv1]; exact pI1_n
  generalize hv2 : (v1 &&& zI 858993459) + ((v1.toUInt32 >>> (Int32.toUInt32 (zI 2) &&& Int32.toUInt32 31)).toInt32 &&& zI 858993459) = v2
  have n2 : v2.toBitVec.toNat = sw2 4 (sw1 4 x.toBitVec.toNat) := by rw [← hv2, pI2_n, n1]
  have b2 : v2.toBitVec.toNat < 2 ^ 31 := by
    rw [n2]
    unfold sw2
    have h1 : sw1 4 x.toBitVec.toNat &&& mkB 51 4 ≤ mkB 51 4 := Nat.and_le_right
    have h2 : sw1 4 x.toBitVec.toNat / 4 &&& mkB 51 4 ≤ mkB 51 4 := Nat.and_le_right
    rw [mk51i] at *
    omega
  generalize hv3 : (v2 + (v2.toUInt32 >>> (Int32.toUInt32 (zI 4) &&& Int32.toUInt32 31)).toInt32) &&& zI 252645135 = v3
  have n3 : v3.toBitVec.toNat = pcY 4 x.toBitVec.toNat := by rw [← hv3, pI3_n b2, n2, e1]
  generalize hv4 : v3 + (v3.toUInt32 >>> (Int32.toUInt32 (zI 8) &&& Int32.toUInt32 31)).toInt32 = v4
  have n4 : v4.toBitVec.toNat = pcY 4 x.toBitVec.toNat + pcY 4 x.toBitVec.toNat / 256 := by rw [← hv4, pI4_n (by rw [n3]; omega), n3]
  generalize hv5 : v4 + (v4.toUInt32 >>> (Int32.toUInt32 (zI 16) &&& Int32.toUInt32 31)).toInt32 = v5
  have n5 : v5.toBitVec.toNat = pcY 4 x.toBitVec.toNat + pcY 4 x.toBitVec.toNat / 256 + (pcY 4 x.toBitVec.toNat + pcY 4 x.toBitVec.toNat / 256) / 65536 := by rw [← hv5, pI5_n (by rw [n4]; omega), n4]
  congr 4
  apply Int32.toBitVec_inj.mp
  apply BitVec.eq_of_toNat_eq
  have c1 : cn x.toBitVec.toNat.testBit 32 = pcN 4 x.toBitVec.toNat := by rw [pcN_cn]
  have c2 : pcN 4 x.toBitVec.toNat < 64 := by rw [← e2]; omega
  rw [Int32.toBitVec_and, BitVec.toNat_and, n5, show (zI 63).toBitVec.toNat = 2 ^ 6 - 1 from by decide, Nat.and_two_pow_sub_one_eq_mod, ← zI_nI]
  show _ = (BitVec.ofNat 32 (cn x.toBitVec.toNat.testBit 32)).toNat
  rw [BitVec.toNat_ofNat, c1, e2]
  exact (Nat.mod_eq_of_lt (by omega)).symm
/-! natural masks -/
theorem tbN (x n : Nat) : (x / 2 ^ n % 2 = 1) ↔ x.testBit n = true := by rw [Nat.testBit_eq_decide_div_mod_eq, decide_eq_true_eq]
theorem nI_bv {n : Nat} (h : n < 2147483648) : (zI n).toBitVec.toNat = n := by
  rw [← zI_nI]; show (BitVec.ofNat 32 n).toNat = n
  rw [BitVec.toNat_ofNat, Nat.mod_eq_of_lt (by omega)]
theorem J_bitN (d : Nat) {n : Nat} (hn : n < 16777216) (h : AH) : Cc (d + 1) k_J_bitI [aI (zI n)] h = some (some (aI (zI (cn n.testBit 24))), h) := by
  rw [J_bitI, nI_bv (by omega)]
  congr 5
  have := cn_add n.testBit 24 8
  rw [show 24 + 8 = 32 from rfl] at this
  rw [this]
  have z : cn (fun i => n.testBit (24 + i)) 8 = 0 := by
    have : ∀ k, cn (fun i => n.testBit (24 + i)) k = 0 := fun k => by
      induction k with
      | zero => rfl
      | succ k ih =>
        rw [cn, ih, Nat.testBit_lt_two_pow (Nat.lt_of_lt_of_le (show n < 2 ^ 24 from hn) (Nat.pow_le_pow_right (by omega) (by omega)))]
        rfl
    exact this 8
  rw [z, Nat.add_zero]
theorem zI_xor {a b : Nat} (ha : a < 2147483648) (hb : b < 2147483648) : zI (a : Int) ^^^ zI (b : Int) = zI ((a ^^^ b : Nat) : Int) := by
  rw [← zI_nI, ← zI_nI, ← zI_nI]
  apply Int32.toBitVec_inj.mp
  apply BitVec.eq_of_toNat_eq
  show ((BitVec.ofNat 32 a) ^^^ (BitVec.ofNat 32 b)).toNat = (BitVec.ofNat 32 (a ^^^ b)).toNat
  rw [BitVec.toNat_xor, BitVec.toNat_ofNat, BitVec.toNat_ofNat, BitVec.toNat_ofNat]
  have hc : a ^^^ b < 2 ^ 31 := Nat.xor_lt_two_pow (by omega) (by omega)
  rw [Nat.mod_eq_of_lt (by omega), Nat.mod_eq_of_lt (by omega), Nat.mod_eq_of_lt (by omega)]
/-- a mask without some bits -/
theorem zI_andn {a b : Nat} (ha : a < 2147483648) (hb : b < 2147483648) : ∃ c : Nat, c ≤ a ∧ zI (a : Int) &&& (zI (b : Int) ^^^ zI (-1)) = zI (c : Int) ∧ ∀ t, c.testBit t = (a.testBit t && !b.testBit t) := by
  let c := (zI (a : Int) &&& (zI (b : Int) ^^^ zI (-1))).toBitVec.toNat
  have hc32 : c < 2 ^ 32 := (zI (a : Int) &&& (zI (b : Int) ^^^ zI (-1))).toBitVec.isLt
  have hbit : ∀ t, c.testBit t = (a.testBit t && !b.testBit t) := by
    intro t
    by_cases ht : t < 32
    · show ((zI (a : Int) &&& (zI (b : Int) ^^^ zI (-1))).toBitVec.toNat).testBit t = _
      rw [Int32.toBitVec_and, Int32.toBitVec_xor, ← zI_nI, ← zI_nI, BitVec.testBit_toNat, BitVec.getLsbD_and, BitVec.getLsbD_xor]
      have a1 : (nI a).toBitVec.getLsbD t = a.testBit t := by
        show (BitVec.ofNat 32 a).getLsbD t = _
        rw [BitVec.getLsbD_ofNat]; simp [ht]
      have a2 : (nI b).toBitVec.getLsbD t = b.testBit t := by
        show (BitVec.ofNat 32 b).getLsbD t = _
        rw [BitVec.getLsbD_ofNat]; simp [ht]
      have a3 : (zI (-1)).toBitVec.getLsbD t = true := by
        rw [show (zI (-1)).toBitVec = BitVec.allOnes 32 from by decide, BitVec.getLsbD_allOnes]; simp [ht]
      rw [a1, a2, a3, Bool.xor_true]
    · rw [Nat.testBit_lt_two_pow (Nat.lt_of_lt_of_le hc32 (Nat.pow_le_pow_right (by omega) (by omega))), Nat.testBit_lt_two_pow (x := a) (Nat.lt_of_lt_of_le (show a < 2 ^ 31 by omega) (Nat.pow_le_pow_right (by omega) (by omega)))]
      rfl
  refine ⟨c, ?_, ?_, hbit⟩
  · have : c = a &&& c := by
      apply Nat.eq_of_testBit_eq
      intro t
      rw [Nat.testBit_and, hbit t]
      cases a.testBit t <;> simp
    rw [this]; exact Nat.and_le_left
  · apply Int32.toBitVec_inj.mp
    apply BitVec.eq_of_toNat_eq
    rw [← zI_nI]
    show c = (BitVec.ofNat 32 c).toNat
    rw [BitVec.toNat_ofNat, Nat.mod_eq_of_lt hc32]
