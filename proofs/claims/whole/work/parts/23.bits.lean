/-! counting bits -/
def cn (f : Nat → Bool) : Nat → Nat
  | 0 => 0
  | n + 1 => cn f n + (f n).toNat
theorem cn_congr {f g : Nat → Bool} : ∀ {n : Nat}, (∀ i, i < n → f i = g i) → cn f n = cn g n
  | 0, _ => rfl
  | n + 1, h => by rw [cn, cn, cn_congr (fun i hi => h i (by omega)), h n (by omega)]
theorem cn_zero {f : Nat → Bool} : ∀ {n : Nat}, cn f n = 0 → ∀ i, i < n → f i = false
  | n + 1, h, i, hi => by
    rw [cn] at h
    by_cases e : i = n
    · subst e
      cases q : f i
      · rfl
      · rw [q] at h; simp at h
    · exact cn_zero (n := n) (by omega) i (by omega)
theorem cn_clear {f : Nat → Bool} {i : Nat} (hf : f i = true) : ∀ {n : Nat}, i < n → cn (fun j => f j && j != i) n + 1 = cn f n
  | n + 1, h => by
    rw [cn, cn]
    by_cases e : i = n
    · subst e
      rw [cn_congr (g := f) (fun j hj => by have : j ≠ i := by omega
                                            simp [this])]
      simp [hf]
    · have := cn_clear hf (n := n) (by omega)
      have e2 : (n != i) = true := by simp; omega
      simp only [e2, Bool.and_true]
      omega
theorem cn_add (f : Nat → Bool) (m : Nat) : ∀ n, cn f (m + n) = cn f m + cn (fun i => f (m + i)) n
  | 0 => rfl
  | n + 1 => by rw [← Nat.add_assoc, cn, cn_add f m n, cn]; omega
theorem cn_pos {f : Nat → Bool} {n : Nat} (h : cn f n ≠ 0) : ∃ i, i < n ∧ f i = true ∧ ∀ j, j < i → f j = false := by
  induction n with
  | zero => exact absurd rfl h
  | succ n ih =>
    by_cases e : cn f n = 0
    · rw [cn, e] at h
      refine ⟨n, by omega, ?_, fun j hj => cn_zero e j hj⟩
      cases q : f n
      · rw [q] at h; simp at h
      · rfl
    · obtain ⟨i, h1, h2⟩ := ih e
      exact ⟨i, by omega, h2⟩
/-- a mask of so many bytes -/
def mkB (c : Nat) : Nat → Nat
  | 0 => 0
  | k + 1 => 256 * mkB c k + c
theorem andB {q r M m : Nat} (hr : r < 256) (hm : m < 256) : (256 * q + r) &&& (256 * M + m) = 256 * (q &&& M) + (r &&& m) := by
  have h3 : r &&& m < 2 ^ 8 := Nat.lt_of_le_of_lt Nat.and_le_left hr
  apply Nat.eq_of_testBit_eq
  intro j
  rw [Nat.testBit_and, show (256 : Nat) = 2 ^ 8 from rfl, Nat.testBit_two_pow_mul_add _ hr, Nat.testBit_two_pow_mul_add _ hm, Nat.testBit_two_pow_mul_add _ h3]
  split
  · rw [Nat.testBit_and]
  · rw [Nat.testBit_and]
def sw1 (k n : Nat) : Nat := n - (n / 2 &&& mkB 85 k)
def sw2 (k n : Nat) : Nat := (n &&& mkB 51 k) + (n / 4 &&& mkB 51 k)
def sw3 (k n : Nat) : Nat := (n + n / 16) &&& mkB 15 k
theorem sw1_s (k : Nat) {q r : Nat} (hr : r < 256) : sw1 (k + 1) (256 * q + r) = 256 * sw1 k q + sw1 1 r := by
  have e : (256 * q + r) / 2 = 256 * (q / 2) + (128 * (q % 2) + r / 2) := by omega
  have d : ∀ b, b < 2 → ∀ r, r < 256 → (128 * b + r / 2) &&& 85 = r / 2 &&& 85 := by decide +kernel
  have h1 : q / 2 &&& mkB 85 k ≤ q / 2 := Nat.and_le_left
  have h2 : r / 2 &&& 85 ≤ r / 2 := Nat.and_le_left
  have e2 : mkB 85 1 = 85 := rfl
  unfold sw1
  rw [e, mkB, andB (by omega) (by decide), d _ (by omega) _ hr, e2]
  omega
theorem sw2_s (k : Nat) {q r : Nat} (hr : r < 256) : sw2 (k + 1) (256 * q + r) = 256 * sw2 k q + sw2 1 r := by
  have e : (256 * q + r) / 4 = 256 * (q / 4) + (64 * (q % 4) + r / 4) := by omega
  have d : ∀ b, b < 4 → ∀ r, r < 256 → (64 * b + r / 4) &&& 51 = r / 4 &&& 51 := by decide +kernel
  have e2 : mkB 51 1 = 51 := rfl
  unfold sw2
  rw [e, mkB, andB hr (by decide), andB (by omega) (by decide), d _ (by omega) _ hr, e2]
  omega
theorem sw3_s (k : Nat) {q r : Nat} (hr : r ≤ 68) (hq : q % 16 ≤ 4) : sw3 (k + 1) (256 * q + r) = 256 * sw3 k q + sw3 1 r := by
  have e : 256 * q + r + (256 * q + r) / 16 = 256 * (q + q / 16) + (16 * (q % 16) + r + r / 16) := by omega
  have d : ∀ b, b < 5 → ∀ r, r < 69 → (16 * b + r + r / 16) &&& 15 = (r + r / 16) &&& 15 := by decide +kernel
  have e2 : mkB 15 1 = 15 := rfl
  unfold sw3
  rw [e, mkB, andB (by omega) (by decide), d _ (by omega) _ (by omega), e2]
def pb (r : Nat) : Nat := cn r.testBit 8
def pcY : Nat → Nat → Nat
  | 0, _ => 0
  | k + 1, n => 256 * pcY k (n / 256) + pb (n % 256)
def pcN : Nat → Nat → Nat
  | 0, _ => 0
  | k + 1, n => pcN k (n / 256) + pb (n % 256)
theorem pbt : ∀ r, r < 256 → sw3 1 (sw2 1 (sw1 1 r)) = pb r ∧ sw1 1 r < 256 ∧ sw2 1 (sw1 1 r) ≤ 68 ∧ sw2 1 (sw1 1 r) % 16 ≤ 4 ∧ pb r ≤ 8 := by decide +kernel
theorem pc_Y : ∀ k n, n < 256 ^ k → sw3 k (sw2 k (sw1 k n)) = pcY k n ∧ sw2 k (sw1 k n) % 16 ≤ 4
  | 0, n, h => by
    have : n = 0 := by simpa using h
    subst this
    decide
  | k + 1, n, h => by
    have e : n = 256 * (n / 256) + n % 256 := by omega
    obtain ⟨i1, i2⟩ := pc_Y k (n / 256) (by rw [Nat.pow_succ] at h; omega)
    obtain ⟨t1, t2, t3, t4, t5⟩ := pbt (n % 256) (by omega)
    rw [pcY]
    have a1 : sw1 (k + 1) n = 256 * sw1 k (n / 256) + sw1 1 (n % 256) := by conv => lhs; rw [e, sw1_s k (by omega)]
    have a2 : sw2 (k + 1) (sw1 (k + 1) n) = 256 * sw2 k (sw1 k (n / 256)) + sw2 1 (sw1 1 (n % 256)) := by rw [a1, sw2_s k t2]
    rw [a2, sw3_s k t3 i2, i1, t1]
    exact ⟨rfl, by omega⟩
theorem pcN_cn : ∀ k n, pcN k n = cn n.testBit (8 * k)
  | 0, _ => rfl
  | k + 1, n => by
    rw [pcN, pcN_cn k, show 8 * (k + 1) = 8 + 8 * k by omega, cn_add, pb, Nat.add_comm]
    congr 1
    · refine cn_congr fun i hi => ?_
      rw [show 256 = 2 ^ 8 from rfl, Nat.testBit_mod_two_pow]
      simp [hi]
    · refine cn_congr fun i hi => ?_
      rw [show 256 = 2 ^ 8 from rfl, Nat.testBit_div_two_pow, Nat.add_comm]
theorem pc_a {p0 p1 p2 p3 p4 p5 p6 p7 y z1 z2 z3 z4 z5 z6 : Nat} (h0 : y = 256 * z1 + p0) (h1 : z1 = 256 * z2 + p1) (h2 : z2 = 256 * z3 + p2) (h3 : z3 = 256 * z4 + p3) (h4 : z4 = 256 * z5 + p4) (h5 : z5 = 256 * z6 + p5) (h6 : z6 = 256 * p7 + p6)
    (b0 : p0 ≤ 8) (b1 : p1 ≤ 8) (b2 : p2 ≤ 8) (b3 : p3 ≤ 8) (b4 : p4 ≤ 8) (b5 : p5 ≤ 8) (b6 : p6 ≤ 8) (b7 : p7 ≤ 8) : (y + y / 256 + (y + y / 256) / 65536 + (y + y / 256 + (y + y / 256) / 65536) / 4294967296) % 128 = p0 + p1 + p2 + p3 + p4 + p5 + p6 + p7 ∧ y < 2 ^ 60 := by
  have k6 : z6 < 3000 := by omega
  have k5 : z5 < 3000 * 300 := by omega
  have k4 : z4 < 3000 * 300 * 300 := by omega
  have k3 : z3 < 3000 * 300 * 300 * 300 := by omega
  have k2 : z2 < 3000 * 300 * 300 * 300 * 300 := by omega
  have k1 : z1 < 3000 * 300 * 300 * 300 * 300 * 256 := by omega
  have k0 : y < 2 ^ 60 := by omega
  have e1 : y / 256 = z1 := by clear k1 k2 k3 k4 k5 k6 h1 h2 h3 h4 h5 h6; omega
  have q2 : y = 65536 * z2 + (256 * p1 + p0) := by omega
  have q3 : z1 = 65536 * z3 + (256 * p2 + p1) := by omega
  have e2 : (y + z1) / 65536 = z2 + z3 := by clear k1 k2 k3 k4 k5 k6 h0 h1 h2 h3 h4 h5 h6 e1; omega
  have r0 : y = 4294967296 * z4 + (16777216 * p3 + 65536 * p2 + 256 * p1 + p0) := by omega
  have r1 : z1 = 4294967296 * z5 + (16777216 * p4 + 65536 * p3 + 256 * p2 + p1) := by omega
  have r2 : z2 = 4294967296 * z6 + (16777216 * p5 + 65536 * p4 + 256 * p3 + p2) := by omega
  have r3 : z3 = 4294967296 * p7 + (16777216 * p6 + 65536 * p5 + 256 * p4 + p3) := by omega
  have e3 : (y + z1 + (z2 + z3)) / 4294967296 = z4 + z5 + z6 + p7 := by clear k1 k2 k3 k4 k5 k6 h0 h1 h2 h3 h4 h5 h6 e1 e2 q2 q3; omega
  rw [e1, e2, e3]
  refine ⟨?_, k0⟩
  have g : y + z1 + (z2 + z3) + (z4 + z5 + z6 + p7) = 128 * (2 * (z1 + z2 + z3 + z4 + z5 + z6 + p7)) + (p0 + p1 + p2 + p3 + p4 + p5 + p6 + p7) := by clear k1 k2 k3 k4 k5 k6 e1 e2 q2 q3 r0 r1 r2 r3 e3; omega
  rw [g]
  clear k1 k2 k3 k4 k5 k6 e1 e2 q2 q3 r0 r1 r2 r3 e3 h0 h1 h2 h3 h4 h5 h6 g
  omega
theorem pc64 {n : Nat} (y : Nat) (e : y = pcY 8 n) : (y + y / 256 + (y + y / 256) / 65536 + (y + y / 256 + (y + y / 256) / 65536) / 4294967296) % 128 = pcN 8 n ∧ y < 2 ^ 60 := by
  have hb : ∀ m, pb (m % 256) ≤ 8 := fun m => (pbt (m % 256) (by omega)).2.2.2.2
  have := pc_a (y := y) (p0 := pb (n % 256)) (z1 := pcY 7 (n / 256)) (p6 := pb (n / 256 / 256 / 256 / 256 / 256 / 256 % 256)) (p7 := pb (n / 256 / 256 / 256 / 256 / 256 / 256 / 256 % 256)) e rfl rfl rfl rfl rfl (by rw [pcY, pcY, pcY]; omega) (hb _) (hb _) (hb _) (hb _) (hb _) (hb _) (hb _) (hb _)
  refine ⟨this.1.trans ?_, this.2⟩
  simp only [pcN]
  generalize pb (n % 256) = p0
  generalize pb (n / 256 % 256) = p1
  omega
theorem pc_b {p0 p1 p2 p3 y z1 z2 : Nat} (h0 : y = 256 * z1 + p0) (h1 : z1 = 256 * z2 + p1) (h2 : z2 = 256 * p3 + p2)
    (b0 : p0 ≤ 8) (b1 : p1 ≤ 8) (b2 : p2 ≤ 8) (b3 : p3 ≤ 8) : (y + y / 256 + (y + y / 256) / 65536) % 64 = p0 + p1 + p2 + p3 ∧ y < 2 ^ 28 := by
  have k0 : y < 2 ^ 28 := by omega
  have e1 : y / 256 = z1 := by clear h1 h2; omega
  have q2 : y = 65536 * z2 + (256 * p1 + p0) := by omega
  have q3 : z1 = 65536 * p3 + (256 * p2 + p1) := by omega
  have e2 : (y + z1) / 65536 = z2 + p3 := by clear h0 h1 h2 e1; omega
  rw [e1, e2]
  refine ⟨?_, k0⟩
  have g : y + z1 + (z2 + p3) = 64 * (4 * (z1 + z2 + p3)) + (p0 + p1 + p2 + p3) := by clear e1 e2 q2 q3; omega
  rw [g]
  clear e1 e2 q2 q3 h0 h1 h2 g
  omega
theorem pc32 {n : Nat} (y : Nat) (e : y = pcY 4 n) : (y + y / 256 + (y + y / 256) / 65536) % 64 = pcN 4 n ∧ y < 2 ^ 28 := by
  have hb : ∀ m, pb (m % 256) ≤ 8 := fun m => (pbt (m % 256) (by omega)).2.2.2.2
  have := pc_b (y := y) (p0 := pb (n % 256)) (z1 := pcY 3 (n / 256)) (p2 := pb (n / 256 / 256 % 256)) (p3 := pb (n / 256 / 256 / 256 % 256)) e rfl (by rw [pcY, pcY, pcY]; omega) (hb _) (hb _) (hb _) (hb _)
  refine ⟨this.1.trans ?_, this.2⟩
  simp only [pcN]
  omega
/-! words -/
def bt (x : Int64) (i : Nat) : Bool := x.toBitVec.getLsbD i
theorem bt_ext {x y : Int64} (h : ∀ i, i < 64 → bt x i = bt y i) : x = y := by
  apply Int64.toBitVec_inj.mp
  exact BitVec.eq_of_getLsbD_eq fun i hi => h i hi
theorem bt_or (x y : Int64) (i : Nat) : bt (x ||| y) i = (bt x i || bt y i) := by unfold bt; rw [Int64.toBitVec_or, BitVec.getLsbD_or]
theorem bt_and (x y : Int64) (i : Nat) : bt (x &&& y) i = (bt x i && bt y i) := by unfold bt; rw [Int64.toBitVec_and, BitVec.getLsbD_and]
theorem bt_0 (i : Nat) : bt (zL 0) i = false := by unfold bt; rw [show (zL 0).toBitVec = 0#64 from rfl]; simp
theorem bt_big (x : Int64) {i : Nat} (h : 64 ≤ i) : bt x i = false := BitVec.getLsbD_of_ge _ _ h
theorem bt_zero {x : Int64} (h : ∀ i, i < 64 → bt x i = false) : x = zL 0 := bt_ext fun i hi => by rw [h i hi, bt_0]
theorem sh63 {s : Nat} (hs : s < 2147483648) : (Int32.toInt64 (zI s) &&& 63) = zL ((s % 64 : Nat) : Int) := by
  apply Int64.toBitVec_inj.mp
  apply BitVec.eq_of_toNat_eq
  rw [Int64.toBitVec_and, BitVec.toNat_and]
  have e1 : (Int32.toInt64 (zI s)).toBitVec.toNat = s := by
    rw [← zI_nI]
    show ((nI s).toBitVec.signExtend 64).toNat = s
    rw [BitVec.toNat_signExtend]
    have : (nI s).toBitVec.toNat = s := by show (BitVec.ofNat 32 s).toNat = s; rw [BitVec.toNat_ofNat]; omega
    have m : (nI s).toBitVec.msb = false := by rw [BitVec.msb_eq_false_iff_two_mul_lt, this]; omega
    rw [m, BitVec.toNat_setWidth, this]
    simp; omega
  have e2 : (zL ((s % 64 : Nat) : Int)).toBitVec.toNat = s % 64 := by
    show (BitVec.ofInt 64 ((s % 64 : Nat) : Int)).toNat = _
    rw [BitVec.ofInt_natCast, BitVec.toNat_ofNat]; omega
  rw [e1, e2, show (63 : Int64).toBitVec.toNat = 2 ^ 6 - 1 from rfl, Nat.and_two_pow_sub_one_eq_mod]
theorem bt_one {s : Nat} (hs : s < 2147483648) (i : Nat) : bt (zL 1 <<< (Int32.toInt64 (zI s) &&& 63)) i = decide (i = s % 64) := by
  rw [sh63 hs]
  by_cases hi : i < 64
  · have : ∀ k, k < 64 → ∀ i, i < 64 → bt (zL 1 <<< zL ((k : Nat) : Int)) i = decide (i = k) := by decide +kernel
    exact this _ (by omega) i hi
  · rw [bt_big _ (by omega)]
    symm; rw [decide_eq_false_iff_not]; omega
theorem bt_mask {s : Nat} (hs : s < 2147483648) (i : Nat) : bt (zL (-1) <<< (Int32.toInt64 (zI s) &&& 63)) i = decide (s % 64 ≤ i ∧ i < 64) := by
  rw [sh63 hs]
  by_cases hi : i < 64
  · have : ∀ k, k < 64 → ∀ i, i < 64 → bt (zL (-1) <<< zL ((k : Nat) : Int)) i = decide (k ≤ i ∧ i < 64) := by decide +kernel
    exact this _ (by omega) i hi
  · rw [bt_big _ (by omega)]
    symm; rw [decide_eq_false_iff_not]; omega
theorem bt_has {s : Nat} (hs : s < 2147483648) (x : Int64) : (lg_cmp ((x >>> (Int32.toInt64 (zI s) &&& 63)) &&& zL 1) (zL 0) = 0) ↔ bt x (s % 64) = false := by
  rw [lg_cmp_eq, sh63 hs]
  have hk : s % 64 < 64 := Nat.mod_lt _ (by decide)
  generalize s % 64 = k at *
  have e3 : ∀ k, k < 64 → ((zL ((k : Nat) : Int)).toBitVec.smod 64).toNat = k := by decide +kernel
  have e1 : ∀ i, bt (zL 1) i = decide (i = 0) := fun i => by
    by_cases hi : i < 64
    · have : ∀ i, i < 64 → bt (zL 1) i = decide (i = 0) := by decide +kernel
      exact this i hi
    · rw [bt_big _ (by omega)]; symm; rw [decide_eq_false_iff_not]; omega
  have e2 : bt (x >>> zL (k : Int)) 0 = bt x k := by
    unfold bt
    show (x.toBitVec.sshiftRight ((zL (k : Int)).toBitVec.smod 64).toNat).getLsbD 0 = _
    rw [e3 k hk, BitVec.getLsbD_sshiftRight]
    simp [hk]
  constructor
  · intro q
    have := congrArg (fun z => bt z 0) q
    simp only [bt_and, e1, bt_0, e2] at this
    simpa using this
  · intro q
    apply bt_zero
    intro i hi
    rw [bt_and, e1]
    by_cases z : i = 0
    · subst z; rw [e2, q]; rfl
    · simp [z]
/-- how many bits a word has -/
def cw (x : Int64) : Nat := cn (bt x) 64
theorem cw_0 {x : Int64} : cw x = 0 → x = zL 0 := fun h => bt_zero (cn_zero h)
theorem bt_pred {x : Int64} {i : Nat} (hi : i < 64) (h1 : bt x i = true) (h2 : ∀ j, j < i → bt x j = false) (j : Nat) (hj : j < 64) : bt (x - zL 1) j = if j < i then true else if j = i then false else bt x j := by
  have hb : ∀ j, bt x j = x.toBitVec.toNat.testBit j := fun j => (BitVec.testBit_toNat _).symm
  have hlt : x.toBitVec.toNat < 2 ^ 64 := x.toBitVec.isLt
  have e0 : ∃ q, x.toBitVec.toNat = 2 ^ i * (2 * q + 1) := by
    refine ⟨x.toBitVec.toNat / 2 ^ (i + 1), ?_⟩
    have e1 : x.toBitVec.toNat % 2 ^ i = 0 := by
      apply Nat.eq_of_testBit_eq
      intro j
      rw [Nat.testBit_mod_two_pow, Nat.zero_testBit]
      by_cases q : j < i
      · rw [← hb, h2 j q]; simp
      · simp [q]
    have e2 : x.toBitVec.toNat / 2 ^ i % 2 = 1 := by
      have := h1
      rw [hb, Nat.testBit_eq_decide_div_mod_eq] at this
      simpa using this
    have e3 := Nat.div_add_mod x.toBitVec.toNat (2 ^ i)
    have e4 : x.toBitVec.toNat / 2 ^ (i + 1) = x.toBitVec.toNat / 2 ^ i / 2 := by rw [Nat.pow_succ, Nat.div_div_eq_div_mul]
    rw [e4]
    have e5 : 2 * (x.toBitVec.toNat / 2 ^ i / 2) + 1 = x.toBitVec.toNat / 2 ^ i := by omega
    rw [e5]
    omega
  obtain ⟨q, e⟩ := e0
  have hp : 1 ≤ 2 ^ i := Nat.one_le_two_pow
  have e6 : (x - zL 1).toBitVec.toNat = 2 ^ i * (2 * q) + (2 ^ i - 1) := by
    rw [Int64.toBitVec_sub, BitVec.toNat_sub, show (zL 1).toBitVec.toNat = 1 from rfl, e]
    have : 2 ^ i * (2 * q + 1) = 2 ^ i * (2 * q) + 2 ^ i := by rw [Nat.mul_add, Nat.mul_one]
    rw [e, this] at hlt
    rw [this]
    omega
  unfold bt
  rw [← BitVec.testBit_toNat, e6, Nat.testBit_two_pow_mul_add _ (by omega)]
  have hx : ∀ j, x.toBitVec.getLsbD j = (2 ^ i * (2 * q + 1)).testBit j := fun j => by rw [← e]; exact (BitVec.testBit_toNat _).symm
  split
  · rename_i q; rw [Nat.testBit_two_pow_sub_one]; simp [q]
  · rename_i g
    rw [hx, Nat.testBit_two_pow_mul]
    by_cases z : j = i
    · subst z; simp
    · have hz : j - i = (j - i - 1) + 1 := by omega
      rw [if_neg z, hz, Nat.testBit_succ, Nat.testBit_succ]
      have a1 : 2 * q / 2 = q := by omega
      have a2 : (2 * q + 1) / 2 = q := by omega
      rw [a1, a2]
      have : i ≤ j := by omega
      simp [this]
theorem bt_drop {x : Int64} {i : Nat} (hi : i < 64) (h1 : bt x i = true) (h2 : ∀ j, j < i → bt x j = false) (j : Nat) : bt (x &&& (x - zL 1)) j = (bt x j && j != i) := by
  by_cases hj : j < 64
  · rw [bt_and, bt_pred hi h1 h2 j hj]
    by_cases z : j < i
    · rw [h2 j z]; simp
    · by_cases w : j = i
      · subst w; simp
      · simp [z, w]
  · rw [bt_big _ (by omega), bt_big x (by omega)]; rfl
theorem bt_low {x : Int64} {i : Nat} (hi : i < 64) (h1 : bt x i = true) (h2 : ∀ j, j < i → bt x j = false) : (x &&& -x) - zL 1 = zL ((2 ^ i - 1 : Nat) : Int) := by
  have e : x &&& -x = zL ((2 ^ i : Nat) : Int) := by
    have p : ∀ i, i < 64 → ∀ j, j < 64 → bt (zL ((2 ^ i : Nat) : Int)) j = decide (j = i) := by decide +kernel
    apply bt_ext
    intro j hj
    rw [bt_and, p i hi j hj]
    have n1 : bt (-x) j = !bt (x - zL 1) j := by
      unfold bt
      have : (-x).toBitVec = ~~~(x - zL 1).toBitVec := by
        apply BitVec.eq_of_toNat_eq
        have hlt : x.toBitVec.toNat < 2 ^ 64 := x.toBitVec.isLt
        rw [Int64.toBitVec_neg, Int64.toBitVec_sub, BitVec.toNat_neg, BitVec.toNat_not, BitVec.toNat_sub, show (zL 1).toBitVec.toNat = 1 from rfl]
        omega
      rw [this, BitVec.getLsbD_not]
      simp [hj]
    rw [n1, bt_pred hi h1 h2 j hj]
    by_cases z : j < i
    · have : j ≠ i := by omega
      simp [z, this]
    · by_cases w : j = i
      · subst w; simp [h1]
      · simp [z, w]
  have d : ∀ i, i < 64 → zL ((2 ^ i : Nat) : Int) - zL 1 = zL ((2 ^ i - 1 : Nat) : Int) := by decide +kernel
  rw [e, d i hi]
/-! Long.bitCount, Integer.bitCount -/
theorem bn_ushr (x : Int64) (k : Nat) (hk : k < 64) : ((x.toUInt64 >>> ((zI (k : Int)).toInt64.toUInt64 &&& Int64.toUInt64 63)).toInt64).toBitVec.toNat = x.toBitVec.toNat / 2 ^ k := by
  have e : ∀ k, k < 64 → (((zI ((k : Nat) : Int)).toInt64.toUInt64 &&& Int64.toUInt64 63).toBitVec % 64#64).toNat = k := by decide +kernel
  show (x.toBitVec >>> (((zI (k : Int)).toInt64.toUInt64 &&& Int64.toUInt64 63).toBitVec % 64#64)).toNat = _
  rw [BitVec.ushiftRight_eq', BitVec.toNat_ushiftRight, e k hk, Nat.shiftRight_eq_div_pow]
theorem bw_ushr (x : Int32) (k : Nat) (hk : k < 32) : ((x.toUInt32 >>> ((zI (k : Int)).toUInt32 &&& Int32.toUInt32 31)).toInt32).toBitVec.toNat = x.toBitVec.toNat / 2 ^ k := by
  have e : ∀ k, k < 32 → (((zI ((k : Nat) : Int)).toUInt32 &&& Int32.toUInt32 31).toBitVec % 32#32).toNat = k := by decide +kernel
  show (x.toBitVec >>> (((zI (k : Int)).toUInt32 &&& Int32.toUInt32 31).toBitVec % 32#32)).toNat = _
  rw [BitVec.ushiftRight_eq', BitVec.toNat_ushiftRight, e k hk, Nat.shiftRight_eq_div_pow]
theorem pL1_n {x : Int64} : (pL1 x).toBitVec.toNat = sw1 8 x.toBitVec.toNat := by
  have h : ((x.toUInt64 >>> ((zI 1).toInt64.toUInt64 &&& Int64.toUInt64 63)).toInt64).toBitVec.toNat = x.toBitVec.toNat / 2 ^ 1 := bn_ushr x 1 (by decide)
  have hx : x.toBitVec.toNat < 2 ^ 64 := x.toBitVec.isLt
  unfold pL1 sw1
  rw [Int64.toBitVec_sub, BitVec.toNat_sub, Int64.toBitVec_and, BitVec.toNat_and, h, show (zL 6148914691236517205).toBitVec.toNat = mkB 85 8 by decide]
  have : x.toBitVec.toNat / 2 ^ 1 &&& mkB 85 8 ≤ x.toBitVec.toNat / 2 ^ 1 := Nat.and_le_left
  generalize x.toBitVec.toNat / 2 ^ 1 &&& mkB 85 8 = m at *
  omega
theorem mk51 : mkB 51 8 = 3689348814741910323 := by decide
theorem pL2_n {x : Int64} : (pL2 x).toBitVec.toNat = sw2 8 x.toBitVec.toNat := by
  have h : ((x.toUInt64 >>> ((zI 2).toInt64.toUInt64 &&& Int64.toUInt64 63)).toInt64).toBitVec.toNat = x.toBitVec.toNat / 4 := bn_ushr x 2 (by decide)
  unfold pL2 sw2
  rw [Int64.toBitVec_add, BitVec.toNat_add, Int64.toBitVec_and, BitVec.toNat_and, Int64.toBitVec_and, BitVec.toNat_and, h, show (zL 3689348814741910323).toBitVec.toNat = mkB 51 8 by decide]
  have h1 : x.toBitVec.toNat &&& mkB 51 8 ≤ mkB 51 8 := Nat.and_le_right
  have h2 : x.toBitVec.toNat / 4 &&& mkB 51 8 ≤ mkB 51 8 := Nat.and_le_right
  rw [mk51] at *
  omega
theorem pL3_n {x : Int64} (hx : x.toBitVec.toNat < 2 ^ 63) : (pL3 x).toBitVec.toNat = sw3 8 x.toBitVec.toNat := by
  have h : ((x.toUInt64 >>> ((zI 4).toInt64.toUInt64 &&& Int64.toUInt64 63)).toInt64).toBitVec.toNat = x.toBitVec.toNat / 2 ^ 4 := bn_ushr x 4 (by decide)
  unfold pL3 sw3
  rw [Int64.toBitVec_and, BitVec.toNat_and, Int64.toBitVec_add, BitVec.toNat_add, h, show (zL 1085102592571150095).toBitVec.toNat = mkB 15 8 by decide]
  congr 1
  omega
theorem pL4_n {x : Int64} {k : Nat} (hk : k < 64) (hx : x.toBitVec.toNat < 2 ^ 62) : (pL4 k x).toBitVec.toNat = x.toBitVec.toNat + x.toBitVec.toNat / 2 ^ k := by
  have h := bn_ushr x k hk
  have h2 : x.toBitVec.toNat / 2 ^ k ≤ x.toBitVec.toNat := Nat.div_le_self _ _
  unfold pL4
  rw [Int64.toBitVec_add, BitVec.toNat_add, h]
  omega
theorem J_bitL (d : Nat) (x : Int64) (h : AH) : Cc (d + 1) k_J_bitL [aL x] h = some (some (aI (zI (cw x))), h) := by
  rw [J_bitL_raw]
  obtain ⟨e1, -⟩ := pc_Y 8 x.toBitVec.toNat x.toBitVec.isLt
  obtain ⟨e2, e3⟩ := pc64 _ (rfl : pcY 8 x.toBitVec.toNat = _)
  have a1 : (pL3 (pL2 (pL1 x))).toBitVec.toNat = pcY 8 x.toBitVec.toNat := by
    rw [pL3_n, pL2_n, pL1_n, e1]
    rw [pL2_n]
    have h1 : (pL1 x).toBitVec.toNat &&& mkB 51 8 ≤ mkB 51 8 := Nat.and_le_right
    have h2 : (pL1 x).toBitVec.toNat / 4 &&& mkB 51 8 ≤ mkB 51 8 := Nat.and_le_right
    unfold sw2
    rw [mk51] at *
    omega
  have a2 : (pL4 8 (pL3 (pL2 (pL1 x)))).toBitVec.toNat = pcY 8 x.toBitVec.toNat + pcY 8 x.toBitVec.toNat / 256 := by
    have := pL4_n (k := 8) (x := pL3 (pL2 (pL1 x))) (by decide) (by omega)
    rw [a1] at this; exact this
  have a3 : (pL4 16 (pL4 8 (pL3 (pL2 (pL1 x))))).toBitVec.toNat = pcY 8 x.toBitVec.toNat + pcY 8 x.toBitVec.toNat / 256 + (pcY 8 x.toBitVec.toNat + pcY 8 x.toBitVec.toNat / 256) / 65536 := by
    have := pL4_n (k := 16) (x := pL4 8 (pL3 (pL2 (pL1 x)))) (by decide) (by omega)
    rw [a2] at this; exact this
  have a4 : (pL4 32 (pL4 16 (pL4 8 (pL3 (pL2 (pL1 x)))))).toBitVec.toNat = pcY 8 x.toBitVec.toNat + pcY 8 x.toBitVec.toNat / 256 + (pcY 8 x.toBitVec.toNat + pcY 8 x.toBitVec.toNat / 256) / 65536 + (pcY 8 x.toBitVec.toNat + pcY 8 x.toBitVec.toNat / 256 + (pcY 8 x.toBitVec.toNat + pcY 8 x.toBitVec.toNat / 256) / 65536) / 4294967296 := by
    have := pL4_n (k := 32) (x := pL4 16 (pL4 8 (pL3 (pL2 (pL1 x))))) (by decide) (by omega)
    rw [a3] at this; exact this
  have a5 : (pL4 32 (pL4 16 (pL4 8 (pL3 (pL2 (pL1 x)))))).toInt32 &&& zI 127 = zI (cw x) := by
    apply Int32.toBitVec_inj.mp
    apply BitVec.eq_of_toNat_eq
    rw [Int32.toBitVec_and, BitVec.toNat_and]
    have c1 : cw x = pcN 8 x.toBitVec.toNat := by
      rw [pcN_cn]; exact cn_congr fun i _ => (BitVec.testBit_toNat _).symm
    have c2 : pcN 8 x.toBitVec.toNat < 128 := by rw [← e2]; omega
    show (((pL4 32 (pL4 16 (pL4 8 (pL3 (pL2 (pL1 x)))))).toBitVec.signExtend 32).toNat) &&& 127 = (BitVec.ofInt 32 (cw x)).toNat
    rw [BitVec.signExtend_eq_setWidth_of_le _ (by decide), BitVec.toNat_setWidth, a4, BitVec.ofInt_natCast, BitVec.toNat_ofNat, show (127 : Nat) = 2 ^ 7 - 1 from rfl, Nat.and_two_pow_sub_one_eq_mod, c1]
    generalize pcY 8 x.toBitVec.toNat + pcY 8 x.toBitVec.toNat / 256 + (pcY 8 x.toBitVec.toNat + pcY 8 x.toBitVec.toNat / 256) / 65536 + (pcY 8 x.toBitVec.toNat + pcY 8 x.toBitVec.toNat / 256 + (pcY 8 x.toBitVec.toNat + pcY 8 x.toBitVec.toNat / 256) / 65536) / 4294967296 = X at e2
    generalize pcN 8 x.toBitVec.toNat = N at *
    clear a1 a2 a3 a4 e1 e3
    omega
  rw [a5]
