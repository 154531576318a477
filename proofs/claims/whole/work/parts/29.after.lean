/-! Reader.after, Reader.settle -/
theorem eX_a {c : Cfg} (h : CV c) : eX c % 16 = c.2.1 := by unfold CV at h; unfold eX; omega
theorem eX_b {c : Cfg} (h : CV c) : eX c / 16 % 16 = c.2.2.1 := by unfold CV at h; unfold eX; omega
theorem eX_c {c : Cfg} (h : CV c) : eX c / 256 % 16 = c.2.2.2 := by unfold CV at h; unfold eX; omega
theorem eX_q {c : Cfg} (h : CV c) : eX c / 4096 = c.1 := by unfold CV at h; unfold eX; omega
theorem eX_t {c : Cfg} (h : CV c) {t : Nat} (ht : t < 3) : eX c / 2 ^ (4 * t) % 16 = rg c t := by
  match t, ht with
  | 0, _ => rw [show 2 ^ (4 * 0) = 1 from rfl, Nat.div_one]; exact eX_a h
  | 1, _ => exact eX_b h
  | 2, _ => exact eX_c h
theorem rg_lt {c : Cfg} (h : CV c) (t : Nat) : rg c t < 16 := by unfold CV at h; unfold rg; split; omega; split <;> omega
theorem Rd_heldIn (d : Nat) (h : AH) {c : Cfg} (hc : CV c) {t : Nat} (ht : t < 3) : Cc (d + 1) k_Rd_heldIn [aI (zI (eX c)), aI (zI t)] h = some (some (aI (zI (rg c t))), h) := by
  have := eX_lt hc
  have h2 : eX c / 2 ^ (4 * t) ≤ eX c := Nat.div_le_self _ _
  rw [C_Rd_heldIn, E_Rd_heldIn_0]
  simp (disch := omega) only [shl2, nshr, and15]
  rw [eX_t hc ht]
theorem or_shl {q s : Nat} (hq : q < 6) (hs : s < 4096) : zI ((4096 * q : Nat) : Int) ||| zI s = zI ((4096 * q + s : Nat) : Int) := by
  rw [zI_or (by omega) (by omega), or_4096 hs]
theorem Rd_after (d : Nat) {h : AH} {a : Nat} {r : Rdr} (p : RD h a r) {c : Cfg} (hc : CV c) {i : Nat} {m : Mv} (hi : r.2.2.2[i]? = some m) {x : Nat} (hx : x < 16) : Cc (d + 1) k_Rd_after [aR (some a), aI (zI (eX c)), aI (zI i), aI (zI x)] h = some (some (aI (zI (oX (stp m c x)))), h) := by
  obtain ⟨s0, s1, s2, s3, r0, r1, r2⟩ := p.2.1
  obtain ⟨hm, hi20⟩ := p.1.mi hi
  obtain ⟨e0, e1, e2, e3, e4⟩ := p.2.2.1.2.2.2.2 i m hi
  have hlt := eX_lt hc
  have hc' := hc
  unfold CV at hc'
  unfold MV at hm
  -- the end: the registers, the state
  have fin : Rk B_Rd_after L_Rd_after (Cc d) 14 [aR (some a), aI (zI (eX c)), aU, aI (zI x), aI (zI ((i * 5 : Nat) : Int)), aU, aU, aU, aU] [] h = some (some (aI (zI (eX (goC m c x)))), h) := by
    have f16 : ∀ s : Nat, s < 4096 → Rk B_Rd_after L_Rd_after (Cc d) 16 [aR (some a), aU, aU, aU, aI (zI ((i * 5 : Nat) : Int)), aU, aU, aI (zI s), aU] [] h = some (some (aI (zI ((4096 * m.2.2.2.2 + s : Nat) : Int))), h) := by
      intro s hs
      rw [E_Rd_after_16, obj_e s0, r0, show zI 4 = zI ((4 : Nat) : Int) from rfl]
      simp (disch := omega) only [nadd, idx_n s1]
      rw [e4, shl12, or_shl (by omega) hs]
    rw [E_Rd_after_14, lt_e, obj_e s0, r0, show zI 3 = zI ((3 : Nat) : Int) from rfl]
    simp (disch := omega) only [nadd, idx_n s1, and4095, lt_e]
    simp (disch := omega) only [e3, ylt0]
    by_cases k0 : m.2.2.2.1 < 0
    · rw [if_pos k0, f16 _ (by omega)]
      unfold goC eX
      simp only [show ¬ m.2.2.2.1 = 0 by omega, show ¬ m.2.2.2.1 = 1 by omega, show ¬ m.2.2.2.1 = 2 by omega, if_false]
      unfold eX at hlt
      congr 6
      omega
    · obtain ⟨k, hk⟩ : ∃ k : Nat, m.2.2.2.1 = k := ⟨m.2.2.2.1.toNat, by omega⟩
      rw [if_neg k0, hk, E_Rd_after_15]
      simp only [lt_e, shl2]
      rw [nset (by omega) (by omega) hx, f16]
      · unfold goC
        rw [hk]
        congr 6
        unfold eX
        match k, (by omega : k < 3) with
        | 0, _ => simp; omega
        | 1, _ => simp; omega
        | 2, _ => simp; omega
      · split
        · omega
        · split <;> omega
  rw [C_Rd_after, E_Rd_after_0, lt_e, obj_e s0, r0, show zI 5 = zI ((5 : Nat) : Int) from rfl, nmul, show zI 2 = zI ((2 : Nat) : Int) from rfl]
  simp (disch := omega) only [nadd, idx_n s1, lt_e]
  rw [e2]
  unfold stp fits
  by_cases t3 : m.2.2.1 = 3
  · rw [if_pos t3, if_pos (by rw [t3]; rfl), E_Rd_after_1]
    simp (disch := omega) only [and15, neq, eX_a hc]
    by_cases z1 : c.2.1 = x
    · rw [if_pos z1, E_Rd_after_5, E_Rd_after_6, lt_e, E_Rd_after_12, if_pos zI_0.symm, E_Rd_after_13]
      simp [z1, oX]
    rw [if_neg z1, E_Rd_after_2]
    simp (disch := omega) only [shr4, and15, neq, eX_b hc]
    by_cases z2 : c.2.2.1 = x
    · rw [if_pos z2, E_Rd_after_5, E_Rd_after_6, lt_e, E_Rd_after_12, if_pos zI_0.symm, E_Rd_after_13]
      simp [z2, oX]
    rw [if_neg z2, E_Rd_after_3]
    simp (disch := omega) only [shr8, and15, neq, eX_c hc]
    by_cases z3 : c.2.2.2 = x
    · rw [if_pos z3, E_Rd_after_5, E_Rd_after_6, lt_e, E_Rd_after_12, if_pos zI_0.symm, E_Rd_after_13]
      simp [z3, oX]
    rw [if_neg z3, E_Rd_after_4, E_Rd_after_6, lt_e, E_Rd_after_12, if_neg (by decide), fin]
    rw [show (c.2.1 != x) = true from bne_iff_ne.mpr z1, show (c.2.2.1 != x) = true from bne_iff_ne.mpr z2, show (c.2.2.2 != x) = true from bne_iff_ne.mpr z3]
    rfl
  · have n3 : ¬ (zI m.2.2.1 = zI 3) := by rw [yeq (by omega) (by omega) (by omega) (by omega)]; omega
    rw [if_neg t3, if_neg n3, E_Rd_after_7]
    by_cases t4 : m.2.2.1 = 4
    · rw [if_pos t4, if_pos (by rw [t4]; rfl), E_Rd_after_12, if_neg (by decide), fin]
      rfl
    · have n4 : ¬ (zI m.2.2.1 = zI 4) := by rw [yeq (by omega) (by omega) (by omega) (by omega)]; omega
      have h2 : eX c / 2 ^ (4 * m.2.2.1) ≤ eX c := Nat.div_le_self _ _
      have h3 := rg_lt hc m.2.2.1
      rw [if_neg t4, if_neg n4, E_Rd_after_8]
      simp (disch := omega) only [shl2, nshr, and15, eX_t hc, neq]
      by_cases z : rg c m.2.2.1 = x
      · rw [if_pos z, E_Rd_after_9, E_Rd_after_11, lt_e, E_Rd_after_12, if_neg (by decide), fin, show (rg c m.2.2.1 == x) = true from beq_iff_eq.mpr z]
        rfl
      · rw [if_neg z, E_Rd_after_10, E_Rd_after_11, lt_e, E_Rd_after_12, if_pos zI_0.symm, E_Rd_after_13, show (rg c m.2.2.1 == x) = false from beq_eq_false_iff_ne.mpr z]
        rfl
/-- which names may still come: an int by bits, or all of them -/
def AL (A : Int32) (L : Nat → Bool) : Prop := (A = zI (-1) ∧ ∀ n, L n = true) ∨ ∃ k : Nat, k < 65536 ∧ A = zI k ∧ ∀ n, n < 16 → L n = (k / 2 ^ n % 2 == 1)
def stl (L : Nat → Bool) (o : Nat) (c : Cfg) : Cfg := (c.1, if L c.2.1 then c.2.1 else o, if L c.2.2.1 then c.2.2.1 else o, if L c.2.2.2 then c.2.2.2 else o)
theorem stl_v {L : Nat → Bool} {o : Nat} {c : Cfg} (hc : CV c) (ho : o < 16) : CV (stl L o c) := by
  unfold CV stl at *
  refine ⟨hc.1, ?_, ?_, ?_⟩ <;> simp only <;> split <;> omega
theorem Rd_settle (d : Nat) (h : AH) {c : Cfg} (hc : CV c) {A : Int32} {L : Nat → Bool} (hA : AL A L) {o : Nat} (ho : o < 16) : Cc (d + 1) k_Rd_settle [aI (zI (eX c)), aI A, aI (zI o)] h = some (some (aI (zI (eX (stl L o c)))), h) := by
  have hlt := eX_lt hc
  rw [C_Rd_settle, E_Rd_settle_0]
  rcases hA with ⟨rfl, hL⟩ | ⟨k, hk, rfl, hL⟩
  · rw [if_pos rfl, E_Rd_settle_1]
    unfold stl
    simp [hL]
  · rw [if_neg (by rw [yeq (by omega) (by omega) (by omega) (by omega)]; omega), E_Rd_settle_2, lt_e, lt_e]
    have hc' := hc
    unfold CV at hc'
    -- one register
    have step : ∀ (t : Nat) (s : Nat), t < 3 → s < 24576 → ∀ n, rg c t = n → Rk B_Rd_settle L_Rd_settle (Cc d) 3 [aI (zI (eX c)), aI (zI k), aI (zI o), aI (zI s), aI (zI ((4 * t : Nat) : Int)), aU] [] h = Rk B_Rd_settle L_Rd_settle (Cc d) 3 [aI (zI (eX c)), aI (zI k), aI (zI o), aI (zI ((s ||| (if L n then n else o) * 2 ^ (4 * t) : Nat) : Int)), aI (zI ((4 * (t + 1) : Nat) : Int)), aU] [] h := by
      intro t s ht hs n hn
      have h2 : eX c / 2 ^ (4 * t) ≤ eX c := Nat.div_le_self _ _
      have hn2 := rg_lt hc t
      rw [hn] at hn2
      have h3 : k / 2 ^ n ≤ k := Nat.div_le_self _ _
      have h4 : 2 ^ (4 * t) ≤ 2 ^ 8 := Nat.pow_le_pow_right (by omega) (by omega)
      have e4 : ∀ y : Nat, y < 16 → y * 2 ^ (4 * t) < 2147483648 := fun y hy => Nat.lt_of_le_of_lt (Nat.mul_le_mul (Nat.le_of_lt hy) h4) (by decide)
      rw [E_Rd_settle_3, if_pos (by rw [ylt (by omega) (by omega) (by omega) (by omega)]; omega), E_Rd_settle_4, lt_e]
      simp (disch := omega) only [nshr, and15, eX_t hc ht, hn, and1, neq0]
      rw [hL n hn2]
      by_cases z : k / 2 ^ n % 2 = 0
      · rw [if_pos z, E_Rd_settle_6, E_Rd_settle_7, lt_e, lt_e, nshl (by omega), zI_or (by omega) (e4 o ho), z]
        rw [show zI ((4 * t : Nat) : Int) + zI 4 = zI ((4 * (t + 1) : Nat) : Int) from nadd (4 * t) 4]
        simp
      · rw [if_neg z, E_Rd_settle_5, E_Rd_settle_7, lt_e, lt_e, nshl (by omega), zI_or (by omega) (e4 n hn2), show k / 2 ^ n % 2 = 1 by omega]
        rw [show zI ((4 * t : Nat) : Int) + zI 4 = zI ((4 * (t + 1) : Nat) : Int) from nadd (4 * t) 4]
        simp
    have e0 : zI (eX c) &&& zI (-4096) = zI ((4096 * c.1 : Nat) : Int) := by
      rw [← zI_nI, ← zI_nI]
      apply Int32.toBitVec_inj.mp
      apply BitVec.eq_of_toNat_eq
      show ((BitVec.ofNat 32 (eX c)) &&& (zI (-4096)).toBitVec).toNat = (BitVec.ofNat 32 (4096 * c.1)).toNat
      rw [BitVec.toNat_and, BitVec.toNat_ofNat, BitVec.toNat_ofNat, Nat.mod_eq_of_lt (by omega), Nat.mod_eq_of_lt (by omega), show (zI (-4096)).toBitVec.toNat = 2 ^ 12 * 1048575 + 0 by decide +kernel]
      apply Nat.eq_of_testBit_eq
      intro i
      have ee : eX c = 2 ^ 12 * c.1 + (256 * c.2.2.2 + 16 * c.2.2.1 + c.2.1) := by unfold eX; omega
      rw [ee, Nat.testBit_and, Nat.testBit_two_pow_mul_add _ (by omega : 256 * c.2.2.2 + 16 * c.2.2.1 + c.2.1 < 2 ^ 12), Nat.testBit_two_pow_mul_add _ (by omega : 0 < 2 ^ 12), show 4096 * c.1 = 2 ^ 12 * c.1 + 0 by omega, Nat.testBit_two_pow_mul_add _ (by omega : 0 < 2 ^ 12)]
      split
      · simp
      · rw [← Nat.testBit_and, show c.1 &&& 1048575 = c.1 from by rw [show 1048575 = 2 ^ 20 - 1 from rfl, Nat.and_two_pow_sub_one_eq_mod, Nat.mod_eq_of_lt (by omega)]]
    rw [e0]
    have o1 : ∀ y, y < 16 → 4096 * c.1 ||| y * 2 ^ (4 * 0) = 4096 * c.1 + y := fun y hy => by rw [show y * 2 ^ (4 * 0) = y by omega, or_4096 (by omega)]
    have o2 : ∀ x y, x < 16 → y < 16 → (4096 * c.1 + x) ||| y * 2 ^ (4 * 1) = 4096 * c.1 + 16 * y + x := fun x y hx hy => by
      rw [show 4096 * c.1 + x = 16 * (256 * c.1) + x by omega, show y * 2 ^ (4 * 1) = 16 * y + 0 by omega, nib_or hx (by omega), show 256 * c.1 = 16 * (16 * c.1) by omega, or_lo hy, Nat.or_zero]; omega
    have o3 : ∀ x y z, x < 16 → y < 16 → z < 16 → (4096 * c.1 + 16 * y + x) ||| z * 2 ^ (4 * 2) = 4096 * c.1 + 256 * z + 16 * y + x := fun x y z hx hy hz => by
      rw [show 4096 * c.1 + 16 * y + x = 16 * (16 * (16 * c.1) + y) + x by omega, show z * 2 ^ (4 * 2) = 16 * (16 * z + 0) + 0 by omega, nib_or hx (by omega), nib_or hy (by omega), or_lo hz, Nat.or_zero, Nat.or_zero]; omega
    have l1 : (if L c.2.1 then c.2.1 else o) < 16 := by split <;> omega
    have l2 : (if L c.2.2.1 then c.2.2.1 else o) < 16 := by split <;> omega
    have l3 : (if L c.2.2.2 then c.2.2.2 else o) < 16 := by split <;> omega
    have s1 := step 0 (4096 * c.1) (by omega) (by omega) c.2.1 rfl
    rw [o1 _ l1] at s1
    have s2 := step 1 (4096 * c.1 + (if L c.2.1 then c.2.1 else o)) (by omega) (by omega) c.2.2.1 rfl
    rw [o2 _ _ l1 l2] at s2
    have s3 := step 2 (4096 * c.1 + 16 * (if L c.2.2.1 then c.2.2.1 else o) + (if L c.2.1 then c.2.1 else o)) (by omega) (by omega) c.2.2.2 rfl
    rw [o3 _ _ _ l1 l2 l3] at s3
    refine s1.trans (s2.trans (s3.trans ?_))
    rw [E_Rd_settle_3, if_neg (by decide), E_Rd_settle_8]
    rfl
