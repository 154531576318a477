/-! configurations of a reader, their codes -/
abbrev Cfg : Type := Nat × Nat × Nat × Nat
abbrev Mv : Type := Nat × Nat × Nat × Int × Nat
/-- states, registers, the states that take, the moves -/
abbrev Rdr : Type := Nat × Nat × Nat × List Mv
def CV (c : Cfg) : Prop := c.1 < 6 ∧ c.2.1 < 16 ∧ c.2.2.1 < 16 ∧ c.2.2.2 < 16
def eX (c : Cfg) : Nat := 4096 * c.1 + 256 * c.2.2.2 + 16 * c.2.2.1 + c.2.1
def dX (s : Nat) : Cfg := (s / 4096, s % 16, s / 16 % 16, s / 256 % 16)
theorem dX_e {c : Cfg} (h : CV c) : dX (eX c) = c := by
  obtain ⟨q, a, b, d⟩ := c
  obtain ⟨h1, h2, h3, h4⟩ := h
  simp only [dX, eX, Prod.mk.injEq] at *
  omega
theorem eX_lt {c : Cfg} (h : CV c) : eX c < 24576 := by
  obtain ⟨q, a, b, d⟩ := c
  obtain ⟨h1, h2, h3, h4⟩ := h
  simp only [eX] at *
  omega
theorem eX_d {s : Nat} : eX (dX s) = s := by simp only [dX, eX]; omega
theorem dX_v {s : Nat} (h : s < 24576) : CV (dX s) := by simp only [dX, CV]; omega
theorem eX_inj {c c' : Cfg} (h : CV c) (h' : CV c') (e : eX c = eX c') : c = c' := by rw [← dX_e h, ← dX_e h', e]
def rg (c : Cfg) (t : Nat) : Nat := if t = 0 then c.2.1 else if t = 1 then c.2.2.1 else c.2.2.2
/-- the name fits the move's test -/
def fits (m : Mv) (c : Cfg) (x : Nat) : Bool := if m.2.2.1 = 3 then c.2.1 != x && (c.2.2.1 != x && c.2.2.2 != x) else if m.2.2.1 = 4 then true else rg c m.2.2.1 == x
def goC (m : Mv) (c : Cfg) (x : Nat) : Cfg := (m.2.2.2.2, if m.2.2.2.1 = 0 then x else c.2.1, if m.2.2.2.1 = 1 then x else c.2.2.1, if m.2.2.2.1 = 2 then x else c.2.2.2)
def stp (m : Mv) (c : Cfg) (x : Nat) : Option Cfg := if fits m c x then some (goC m c x) else none
def oX : Option Cfg → Int
  | none => -1
  | some c => eX c
def MV (m : Mv) : Prop := m.1 < 6 ∧ m.2.1 < 3 ∧ m.2.2.1 < 5 ∧ -1 ≤ m.2.2.2.1 ∧ m.2.2.2.1 < 3 ∧ m.2.2.2.2 < 6
theorem goC_v {m : Mv} {c : Cfg} {x : Nat} (hm : MV m) (hc : CV c) (hx : x < 16) : CV (goC m c x) := by
  unfold goC CV at *
  unfold MV at hm
  refine ⟨hm.2.2.2.2.2, ?_, ?_, ?_⟩ <;> simp only <;> split <;> omega
/-! shifts by literals -/
theorem shr4 {n : Nat} (h : n < 2147483648) : zI n >>> (zI 4 &&& 31) = zI ((n / 16 : Nat) : Int) := zI_shr (k := 4) h (by decide)
theorem shr8 {n : Nat} (h : n < 2147483648) : zI n >>> (zI 8 &&& 31) = zI ((n / 256 : Nat) : Int) := zI_shr (k := 8) h (by decide)
theorem shr12 {n : Nat} (h : n < 2147483648) : zI n >>> (zI 12 &&& 31) = zI ((n / 4096 : Nat) : Int) := zI_shr (k := 12) h (by decide)
theorem shl2 (n : Nat) : zI n <<< (zI 2 &&& 31) = zI ((4 * n : Nat) : Int) := by rw [Nat.mul_comm]; exact zI_shl (n := n) (k := 2) (by decide)
theorem shl12 (n : Nat) : zI n <<< (zI 12 &&& 31) = zI ((4096 * n : Nat) : Int) := by rw [Nat.mul_comm]; exact zI_shl (n := n) (k := 12) (by decide)
theorem nshr {n k : Nat} (h : n < 2147483648) (hk : k < 32) : zI n >>> (zI k &&& 31) = zI ((n / 2 ^ k : Nat) : Int) := zI_shr h hk
theorem nshl {n k : Nat} (hk : k < 32) : zI n <<< (zI k &&& 31) = zI ((n * 2 ^ k : Nat) : Int) := zI_shl hk
theorem and15 {n : Nat} (h : n < 2147483648) : zI n &&& zI 15 = zI ((n % 16 : Nat) : Int) := by rw [yand15 (by omega) (by omega)]; rfl
theorem and1 {n : Nat} (h : n < 2147483648) : zI n &&& zI 1 = zI ((n % 2 : Nat) : Int) := by rw [yand1 (by omega) (by omega)]; rfl
theorem and4095 {n : Nat} (h : n < 2147483648) : zI n &&& zI 4095 = zI ((n % 4096 : Nat) : Int) := by rw [yand4095 (by omega) (by omega)]; rfl
theorem neq {a b : Nat} (h1 : a < 2147483648) (h2 : b < 2147483648) : (zI a = zI b) = (a = b) := by rw [yeq (by omega) (by omega) (by omega) (by omega)]; exact propext (by omega)
theorem neq0 {a : Nat} (h1 : a < 2147483648) : (zI a = 0) = (a = 0) := by rw [yeq0 (by omega) (by omega)]; exact propext (by omega)
theorem nmul (a b : Nat) : zI a * zI b = zI ((a * b : Nat) : Int) := zI_mul a b
/-! nibbles -/
theorem nib_and {x y a b : Nat} (ha : a < 16) (hb : b < 16) : (16 * x + a) &&& (16 * y + b) = 16 * (x &&& y) + (a &&& b) := by
  have h1 : ∀ n : Nat, (16 * n) = n * 2 ^ 4 := fun n => by omega
  apply Nat.eq_of_testBit_eq
  intro i
  have ab : a &&& b < 2 ^ 4 := Nat.lt_of_le_of_lt Nat.and_le_left ha
  rw [Nat.testBit_and, show 16 = 2 ^ 4 from rfl, Nat.testBit_two_pow_mul_add x ha, Nat.testBit_two_pow_mul_add y hb, Nat.testBit_two_pow_mul_add _ ab]
  split <;> rw [Nat.testBit_and]
theorem nib_or {x y a b : Nat} (ha : a < 16) (hb : b < 16) : (16 * x + a) ||| (16 * y + b) = 16 * (x ||| y) + (a ||| b) := by
  apply Nat.eq_of_testBit_eq
  intro i
  have ab : a ||| b < 2 ^ 4 := Nat.or_lt_two_pow ha hb
  rw [Nat.testBit_or, show 16 = 2 ^ 4 from rfl, Nat.testBit_two_pow_mul_add x ha, Nat.testBit_two_pow_mul_add y hb, Nat.testBit_two_pow_mul_add _ ab]
  split <;> rw [Nat.testBit_or]
theorem or_lo {x b : Nat} (hb : b < 16) : (16 * x) ||| b = 16 * x + b := by
  have := nib_or (x := x) (y := 0) (a := 0) (b := b) (by omega) hb
  simpa using this
theorem or_4096 {q s : Nat} (hs : s < 4096) : (4096 * q) ||| s = 4096 * q + s := by
  have h := Nat.two_pow_add_eq_or_of_lt (i := 12) hs q
  rw [show 4096 = 2 ^ 12 from rfl]; exact h.symm
/-- a nibble is set -/
theorem nset {s r x : Nat} (hs : s < 4096) (hr : r < 3) (hx : x < 16) : (zI s &&& ((zI 15 <<< (zI ((4 * r : Nat) : Int) &&& 31)) ^^^ zI (-1))) ||| (zI x <<< (zI ((4 * r : Nat) : Int) &&& 31)) =
    zI ((if r = 0 then s - s % 16 + x else if r = 1 then s - s / 16 % 16 * 16 + 16 * x else s % 256 + 256 * x : Nat) : Int) := by
  have key : ∀ m : Nat, ∀ M : Int32, M.toBitVec.toNat = 4096 * 1048575 + m → m < 4096 → zI s &&& M = zI ((s &&& m : Nat) : Int) := by
    intro m M hM hm
    rw [← zI_nI, ← zI_nI]
    apply Int32.toBitVec_inj.mp
    apply BitVec.eq_of_toNat_eq
    show ((BitVec.ofNat 32 s) &&& M.toBitVec).toNat = (BitVec.ofNat 32 (s &&& m)).toNat
    have h2 : s &&& m ≤ s := Nat.and_le_left
    rw [BitVec.toNat_and, BitVec.toNat_ofNat, BitVec.toNat_ofNat, hM, Nat.mod_eq_of_lt (by omega), Nat.mod_eq_of_lt (by omega)]
    apply Nat.eq_of_testBit_eq
    intro i
    rw [Nat.testBit_and, Nat.testBit_and, show 4096 = 2 ^ 12 from rfl, Nat.testBit_two_pow_mul_add _ hm]
    split
    · rfl
    · rw [Nat.testBit_lt_two_pow (x := s) (i := i) (Nat.lt_of_lt_of_le hs (Nat.pow_le_pow_right (n := 2) (i := 12) (by omega) (by omega)))]; rfl
  obtain ⟨a, b, d, ha, hb, hd, rfl⟩ : ∃ a b d, a < 16 ∧ b < 16 ∧ d < 16 ∧ s = 16 * (16 * d + b) + a := ⟨s % 16, s / 16 % 16, s / 256, by omega, by omega, by omega, by omega⟩
  have f15 : ∀ n : Nat, n < 16 → n &&& 15 = n := fun n hn => by rw [show (15 : Nat) = 2 ^ 4 - 1 from rfl, Nat.and_two_pow_sub_one_eq_mod]; exact Nat.mod_eq_of_lt hn
  have lo : ∀ y z : Nat, y < 4096 → z < 4096 → zI y ||| zI z = zI ((y ||| z : Nat) : Int) := fun y z hy hz => zI_or (by omega) (by omega)
  have nl : zI x <<< (zI ((4 * r : Nat) : Int) &&& 31) = zI ((x * 2 ^ (4 * r) : Nat) : Int) := zI_shl (by omega)
  rw [nl]
  have e1 : (16 * (16 * d + b) + a) &&& 4080 = 16 * (16 * d + b) := by
    have := nib_and (x := 16 * d + b) (y := 16 * 15 + 15) (a := a) (b := 0) ha (by omega)
    rw [nib_and hb (by omega), f15 _ hd, f15 _ hb] at this
    simpa using this
  have e2 : (16 * (16 * d + b) + a) &&& 3855 = 16 * (16 * d) + a := by
    have := nib_and (x := 16 * d + b) (y := 16 * 15 + 0) (a := a) (b := 15) ha (by omega)
    rw [nib_and hb (by omega), f15 _ hd, f15 _ ha] at this
    simpa using this
  have e3 : (16 * (16 * d + b) + a) &&& 255 = 16 * b + a := by
    have := nib_and (x := 16 * d + b) (y := 16 * 0 + 15) (a := a) (b := 15) ha (by omega)
    rw [nib_and hb (by omega), f15 _ hb, f15 _ ha] at this
    simpa using this
  match r, hr with
  | 0, _ =>
    rw [key 4080 _ (by decide +kernel) (by omega), e1, lo _ _ (by omega) (by omega), show x * 2 ^ (4 * 0) = x by omega, or_lo hx]
    congr 2
    simp only [if_true]
    omega
  | 1, _ =>
    rw [key 3855 _ (by decide +kernel) (by omega), e2, lo _ _ (by omega) (by omega), show x * 2 ^ (4 * 1) = 16 * x + 0 by omega, nib_or ha (by omega), or_lo hx, Nat.or_zero]
    congr 2
    simp only [if_true, show ¬ (1 = 0) by omega, if_false]
    omega
  | 2, _ =>
    rw [key 255 _ (by decide +kernel) (by omega), e3, lo _ _ (by omega) (by omega), show x * 2 ^ (4 * 2) = 16 * (16 * x) + 0 by omega, nib_or ha (by omega), Nat.or_comm, Nat.or_zero, or_lo hb]
    congr 2
    simp only [show ¬ (2 = 0) by omega, show ¬ (2 = 1) by omega, if_false]
    omega
