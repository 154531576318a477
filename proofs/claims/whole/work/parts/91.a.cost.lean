/-! X: Mender: costs -/
def cst (x : Int64) (j : Nat) : Nat := mkm (fun b => bt x (4 * j + b)) 4
theorem cst_lt (x : Int64) (j : Nat) : cst x j < 16 := (mkm_b _ 4).1
theorem bt_shr (x : Int64) {k i : Nat} (hk : k < 64) (hi : i + k < 64) : bt (x >>> zL (k : Int)) i = bt x (i + k) := by
  have e3 : ∀ k, k < 64 → ((zL ((k : Nat) : Int)).toBitVec.smod 64).toNat = k := by decide +kernel
  unfold bt
  show (x.toBitVec.sshiftRight ((zL (k : Int)).toBitVec.smod 64).toNat).getLsbD i = _
  rw [e3 k hk, BitVec.getLsbD_sshiftRight]
  have h1 : decide (64 ≤ i) = false := by rw [decide_eq_false_iff_not]; omega
  rw [h1, Nat.add_comm k i, if_pos hi]
  rfl
theorem bt_n : ∀ n, n < 16 → ∀ i, i < 64 → bt (zL ((n : Nat) : Int)) i = n.testBit i := by decide +kernel
theorem bt_15 : ∀ j, j < 16 → ∀ i, i < 64 → bt (zL 15 <<< zL ((4 * j : Nat) : Int)) i = decide (4 * j ≤ i ∧ i < 4 * j + 4) := by decide +kernel
theorem bt_m1 : ∀ i, i < 64 → bt (zL (-1)) i = true := by decide +kernel
theorem bt_xor (x y : Int64) (i : Nat) : bt (x ^^^ y) i = (bt x i ^^ bt y i) := by unfold bt; rw [Int64.toBitVec_xor, BitVec.getLsbD_xor]
theorem i2l_n : ∀ c, c < 16 → Int32.toInt64 (zI ((c : Nat) : Int)) = zL ((c : Nat) : Int) := by decide +kernel
theorem bt_cs : ∀ c, c < 16 → ∀ j, j < 16 → ∀ i, i < 64 → bt (zL ((c : Nat) : Int) <<< zL ((4 * j : Nat) : Int)) i = (decide (4 * j ≤ i) && c.testBit (i - 4 * j)) := by decide +kernel
theorem cost_get (x : Int64) {j : Nat} (hj : j < 16) : Int64.toInt32 ((x >>> (Int32.toInt64 (zI ((4 * j : Nat) : Int)) &&& 63)) &&& zL 15) = zI (cst x j) := by
  have hc := cst_lt x j
  have e : (x >>> (Int32.toInt64 (zI ((4 * j : Nat) : Int)) &&& 63)) &&& zL 15 = zL ((cst x j : Nat) : Int) := by
    apply bt_ext
    intro i hi
    rw [sh63 (by omega), Nat.mod_eq_of_lt (by omega), bt_and, bt_n _ hc i hi, show zL 15 = zL ((15 : Nat) : Int) from rfl, bt_n 15 (by omega) i hi]
    unfold cst
    rw [(mkm_b _ 4).2]
    by_cases z : i < 4
    · rw [bt_shr x (by omega) (by omega), Nat.add_comm i]
      have : (15 : Nat).testBit i = true := by
        have : ∀ i, i < 4 → (15 : Nat).testBit i = true := by decide
        exact this i z
      rw [this]
      simp [z]
    · have : (15 : Nat).testBit i = false := Nat.testBit_lt_two_pow (Nat.lt_of_lt_of_le (by omega) (Nat.pow_le_pow_right (n := 2) (by omega) (show 4 ≤ i by omega)))
      rw [this]
      simp [z]
  rw [e, l2i_m (Nat.le_trans (Nat.le_of_lt hc) (by decide))]
theorem cost_set (x : Int64) {j c : Nat} (hj : j < 16) (hc : c < 16) : cst ((x &&& ((zL 15 <<< (Int32.toInt64 (zI ((4 * j : Nat) : Int)) &&& 63)) ^^^ zL (-1))) ||| (Int32.toInt64 (zI ((c : Nat) : Int)) <<< (Int32.toInt64 (zI ((4 * j : Nat) : Int)) &&& 63))) j = c ∧ ∀ j', j' < 16 → j' ≠ j → cst ((x &&& ((zL 15 <<< (Int32.toInt64 (zI ((4 * j : Nat) : Int)) &&& 63)) ^^^ zL (-1))) ||| (Int32.toInt64 (zI ((c : Nat) : Int)) <<< (Int32.toInt64 (zI ((4 * j : Nat) : Int)) &&& 63))) j' = cst x j' := by
  rw [sh63 (by omega), Nat.mod_eq_of_lt (by omega), i2l_n c hc]
  have key : ∀ i, i < 64 → bt ((x &&& ((zL 15 <<< zL ((4 * j : Nat) : Int)) ^^^ zL (-1))) ||| (zL ((c : Nat) : Int) <<< zL ((4 * j : Nat) : Int))) i = ((bt x i && !(decide (4 * j ≤ i ∧ i < 4 * j + 4))) || (decide (4 * j ≤ i) && c.testBit (i - 4 * j))) := by
    intro i hi
    rw [bt_or, bt_and, bt_xor, bt_15 j hj i hi, bt_m1 i hi, bt_cs c hc j hj i hi, Bool.xor_true]
  have hi4 : ∀ t, 4 ≤ t → c.testBit t = false := fun t ht => Nat.testBit_lt_two_pow (Nat.lt_of_lt_of_le hc (Nat.pow_le_pow_right (n := 2) (by omega) ht))
  constructor
  · symm
    refine mkm_u (by omega) (fun b hb => ?_)
    rw [key _ (by omega), show 4 * j + b - 4 * j = b by omega]
    simp [show 4 * j ≤ 4 * j + b by omega, show 4 * j + b < 4 * j + 4 by omega]
  · intro j' hj' hne
    unfold cst
    symm
    refine mkm_u (mkm_b _ 4).1 (fun b hb => ?_)
    rw [(mkm_b _ 4).2, key _ (by omega)]
    have h1 : ¬ (4 * j ≤ 4 * j' + b ∧ 4 * j' + b < 4 * j + 4) := by omega
    by_cases z : 4 * j ≤ 4 * j' + b
    · rw [hi4 _ (by omega)]
      simp [hb, h1]
    · simp [hb, h1, z]
def csH (h : AH) (A s : Nat) : Nat := cst (hL h A (s / 16)) (s % 16)
theorem csH_lt (h : AH) (A s : Nat) : csH h A s < 16 := cst_lt _ _
theorem Mn_costOf (d : Nat) {h : AH} {A s : Nat} (hA : h.1[A]? = some (1, 2058)) (hs : s < 24576) : Cc (d + 1) k_Mn_costOf [aR (some A), aI (zI s)] h = some (some (aI (zI (csH h A s))), h) := by
  rw [C_Mn_costOf, E_Mn_costOf_0]
  simp (disch := omega) only [shr4, and15, shl2, idx_n hA]
  rw [cost_get _ (by omega)]
  rfl
theorem Mn_setCost (d : Nat) {h : AH} {A s c : Nat} (hA : h.1[A]? = some (1, 2058)) (hs : s < 24576) (hc : c < 16) : ∃ h', Cc (d + 1) k_Mn_setCost [aR (some A), aI (zI s), aI (zI c)] h = some (none, h') ∧ fr (fun b => b = A) h h' ∧ (∀ a j, hR h' a j = hR h a j) ∧ (∀ a j, hI h' a j = hI h a j) ∧ csH h' A s = c ∧ ∀ s', s' ≠ s → csH h' A s' = csH h A s' := by
  have sp := cost_set (hL h A (s / 16)) (j := s % 16) (c := c) (by omega) hc
  refine ⟨_, ?_, fr_sL (F := fun b => b = A) h rfl (s / 16) ((hL h A (s / 16) &&& ((zL 15 <<< (Int32.toInt64 (zI ((4 * (s % 16) : Nat) : Int)) &&& 63)) ^^^ zL (-1))) ||| (Int32.toInt64 (zI ((c : Nat) : Int)) <<< (Int32.toInt64 (zI ((4 * (s % 16) : Nat) : Int)) &&& 63))), fun _ _ => rfl, fun _ _ => rfl, ?_, ?_⟩
  · rw [C_Mn_setCost, E_Mn_setCost_0]
    simp (disch := omega) only [shr4, and15, shl2, lt_e, idx_n hA]
  · unfold csH
    rw [hL_hit]
    exact sp.1
  · intro s' hs'
    unfold csH
    by_cases z : s' / 16 = s / 16
    · rw [z, hL_hit]
      exact sp.2 (s' % 16) (by omega) (by omega)
    · rw [hL_off (Or.inr z)]
