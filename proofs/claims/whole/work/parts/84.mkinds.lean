/-! M: kinds -/
theorem zc9 : zI 9 = zI ((9 : Nat) : Int) := rfl
def K4 (c : Cfg) : Prop := c.1 < 6 ∧ c.2.1 ≤ 3 ∧ c.2.2.1 ≤ 3 ∧ c.2.2.2 ≤ 3
def eK (c : Cfg) : Nat := c.1 + 6 * c.2.1 + 24 * c.2.2.1 + 96 * c.2.2.2
def dK (n : Nat) : Cfg := (n % 6, n / 6 % 4, n / 24 % 4, n / 96)
theorem eK_lt {c : Cfg} (h : K4 c) : eK c < 384 := by unfold K4 at h; unfold eK; omega
theorem dK_e {c : Cfg} (h : K4 c) : dK (eK c) = c := by
  obtain ⟨q, a, b, e⟩ := c
  unfold K4 at h
  unfold dK eK
  simp only [Prod.mk.injEq]
  simp only at h
  omega
theorem eK_d {n : Nat} (h : n < 384) : eK (dK n) = n := by unfold eK dK; simp only; omega
theorem dK_4 {n : Nat} (h : n < 384) : K4 (dK n) := by unfold K4 dK; simp only; omega
theorem kn_4 {c : Cfg} (h : c.1 < 6) : K4 (kn c) := (KV_kn h).le
theorem M_kindIn (d : Nat) (h : AH) {n : Nat} (hn : n < 384) {t : Nat} (ht : t < 3) : Cc (d + 1) k_M_kindIn [aI (zI n), aI (zI t)] h = some (some (aI (zI (rg (dK n) t))), h) := by
  rw [C_M_kindIn, E_M_kindIn_0]
  simp (disch := omega) only [neq0]
  unfold rg dK
  by_cases t0 : t = 0
  · rw [if_pos t0, if_pos t0, E_M_kindIn_1, if_neg (by decide), if_neg (by decide), E_M_kindIn_5, show zI n / zI 6 = zI ((n / 6 : Nat) : Int) from ndiv (b := 6) (by omega) (by omega) (by omega), show zI ((n / 6 : Nat) : Int) - zI ((n / 6 : Nat) : Int) / zI 4 * zI 4 = zI ((n / 6 % 4 : Nat) : Int) from nrem (b := 4) (by omega) (by omega) (by omega)]
  · rw [if_neg t0, if_neg t0, E_M_kindIn_2, zc1]
    simp (disch := omega) only [neq]
    by_cases t1 : t = 1
    · rw [if_pos t1, if_pos t1, E_M_kindIn_3, if_neg (by decide), if_neg (by decide), E_M_kindIn_5, show zI n / zI 24 = zI ((n / 24 : Nat) : Int) from ndiv (b := 24) (by omega) (by omega) (by omega), show zI ((n / 24 : Nat) : Int) - zI ((n / 24 : Nat) : Int) / zI 4 * zI 4 = zI ((n / 24 % 4 : Nat) : Int) from nrem (b := 4) (by omega) (by omega) (by omega)]
    · rw [if_neg t1, if_neg t1, E_M_kindIn_4, if_neg (by decide), E_M_kindIn_5, show zI n / zI 96 = zI ((n / 96 : Nat) : Int) from ndiv (b := 96) (by omega) (by omega) (by omega)]
theorem M_k0 (d : Nat) (h : AH) {n : Nat} (hn : n < 384) : Cc (d + 1) k_M_kindIn [aI (zI n), aI (zI 0)] h = some (some (aI (zI (dK n).2.1)), h) := M_kindIn d h hn (t := 0) (by omega)
theorem M_k1 (d : Nat) (h : AH) {n : Nat} (hn : n < 384) : Cc (d + 1) k_M_kindIn [aI (zI n), aI (zI 1)] h = some (some (aI (zI (dK n).2.2.1)), h) := M_kindIn d h hn (t := 1) (by omega)
theorem M_k2 (d : Nat) (h : AH) {n : Nat} (hn : n < 384) : Cc (d + 1) k_M_kindIn [aI (zI n), aI (zI 2)] h = some (some (aI (zI (dK n).2.2.2)), h) := M_kindIn d h hn (t := 2) (by omega)
theorem M_kindOf (d : Nat) (h : AH) {q a b e : Nat} (ha : a < 200) (hb : b < 200) (he : e < 200) : Cc (d + 1) k_M_kindOf [aI (zI q), aI (zI a), aI (zI b), aI (zI e)] h = some (some (aI (zI (eK (kn (q, a, b, e))))), h) := by
  have e18 : ∀ x y z : Nat, Rk B_M_kindOf L_M_kindOf (Cc d) 18 [aI (zI q), aU, aU, aU, aI (zI x), aU, aI (zI y), aU] [aI (zI z)] h = some (some (aI (zI ((q + 6 * x + 24 * y + 96 * z : Nat) : Int))), h) := by
    intro x y z
    rw [E_M_kindOf_18, lt_e, show zI 6 = zI ((6 : Nat) : Int) from rfl, show zI 24 = zI ((24 : Nat) : Int) from rfl, show zI 96 = zI ((96 : Nat) : Int) from rfl, nmul, nmul, nmul, nadd, nadd, nadd]
  have e11 : ∀ x y t : Nat, Rk B_M_kindOf L_M_kindOf (Cc d) 11 [aI (zI q), aI (zI a), aI (zI b), aI (zI e), aI (zI x), aU, aI (zI y), aU] [aI (zI t)] h = some (some (aI (zI ((q + 6 * x + 24 * y + 96 * (if e = 0 then 0 else if e = a then x else if e = b then y else t + 1) : Nat) : Int))), h) := by
    intro x y t
    rw [E_M_kindOf_11, lt_e]
    simp (disch := omega) only [neq0]
    by_cases z : e = 0
    · rw [if_pos z, if_pos z, E_M_kindOf_12, zc0, e18]
    · rw [if_neg z, if_neg z, E_M_kindOf_13]
      simp (disch := omega) only [neq]
      by_cases y' : e = a
      · rw [if_pos y', if_pos y', E_M_kindOf_14, e18]
      · rw [if_neg y', if_neg y', E_M_kindOf_15]
        simp (disch := omega) only [neq]
        by_cases w : e = b
        · rw [if_pos w, if_pos w, E_M_kindOf_16, e18]
        · rw [if_neg w, if_neg w, E_M_kindOf_17, nadd1, e18]
  have e8 : ∀ x y : Nat, x < 2 → y < 3 → Rk B_M_kindOf L_M_kindOf (Cc d) 8 [aI (zI q), aI (zI a), aI (zI b), aI (zI e), aI (zI x), aI (zI x), aU, aU] [aI (zI y)] h = some (some (aI (zI ((q + 6 * x + 24 * y + 96 * (if e = 0 then 0 else if e = a then x else if e = b then y else max x y + 1) : Nat) : Int))), h) := by
    intro x y hx hy
    rw [E_M_kindOf_8, lt_e]
    simp (disch := omega) only [nle]
    by_cases z : y ≤ x
    · rw [if_pos z, E_M_kindOf_10, e11, Nat.max_eq_left z]
    · rw [if_neg z, E_M_kindOf_9, e11, Nat.max_eq_right (by omega)]
  have e3 : ∀ x : Nat, x < 2 → Rk B_M_kindOf L_M_kindOf (Cc d) 3 [aI (zI q), aI (zI a), aI (zI b), aI (zI e), aU, aU, aU, aU] [aI (zI x)] h = Rk B_M_kindOf L_M_kindOf (Cc d) 8 [aI (zI q), aI (zI a), aI (zI b), aI (zI e), aI (zI x), aI (zI x), aU, aU] [aI (zI ((if b = 0 then 0 else if b = a then x else x + 1 : Nat) : Int))] h := by
    intro x hx
    rw [E_M_kindOf_3, lt_e, lt_e]
    simp (disch := omega) only [neq0]
    by_cases z : b = 0
    · rw [if_pos z, if_pos z, E_M_kindOf_4]; rfl
    · rw [if_neg z, if_neg z, E_M_kindOf_5]
      simp (disch := omega) only [neq]
      by_cases y : b = a
      · rw [if_pos y, if_pos y, E_M_kindOf_6]
      · rw [if_neg y, if_neg y, E_M_kindOf_7, nadd1]
  rw [C_M_kindOf, E_M_kindOf_0]
  simp (disch := omega) only [neq0]
  by_cases z : a = 0
  · rw [if_pos z, E_M_kindOf_1, zc0, e3 0 (by omega), e8 0 _ (by omega) (by split; omega; split <;> omega)]
    unfold kn eK
    simp only [if_pos z]
  · rw [if_neg z, E_M_kindOf_2, zc1, e3 1 (by omega), e8 1 _ (by omega) (by split; omega; split <;> omega)]
    unfold kn eK
    simp only [if_neg z]
def nA (i : Nat) : Nat := if i < 3 then i + 1 else 9
theorem nA_b (i : Nat) : nA i ≠ 0 ∧ nA i ≤ 9 := by unfold nA; split <;> omega
theorem M_nameAt (d : Nat) (h : AH) {i : Nat} (hi : i < 4) : Cc (d + 1) k_M_nameAt [aI (zI i)] h = some (some (aI (zI (nA i))), h) := by
  rw [C_M_nameAt, E_M_nameAt_0, zc3]
  simp (disch := omega) only [nlt]
  unfold nA
  by_cases z : i < 3
  · rw [if_pos z, if_pos z, E_M_nameAt_1, nadd1, E_M_nameAt_3]
  · rw [if_neg z, if_neg z, E_M_nameAt_2, E_M_nameAt_3]; rfl
def isN (c : Cfg) (y : Nat) : Prop := y = 9 ∨ c.2.1 = y ∨ c.2.2.1 = y ∨ c.2.2.2 = y
theorem M_isNameOf (d : Nat) (h : AH) {n : Nat} (hn : n < 384) {y : Nat} (hy : y ≤ 9) : Cc (d + 2) k_M_isNameOf [aI (zI n), aI (zI y)] h = some (some (aI (zI (if bl (isN (dK n) y) = true then 1 else 0))), h) := by
  have b := dK_4 hn
  unfold K4 at b
  have t : isN (dK n) y → some (some (aI (zI 1)), h) = some (some (aI (zI (if bl (isN (dK n) y) = true then 1 else 0))), h) := fun q => by rw [if_pos (bl_t.mpr q)]
  have f : ¬ isN (dK n) y → some (some (aI (zI 0)), h) = some (some (aI (zI (if bl (isN (dK n) y) = true then 1 else 0))), h) := fun q => by rw [if_neg (fun w => q (bl_t.mp w))]
  rw [C_M_isNameOf, E_M_isNameOf_0, zc9]
  simp (disch := omega) only [neq]
  by_cases z0 : y = 9
  · rw [if_pos z0, E_M_isNameOf_4, E_M_isNameOf_6, fr1]; exact t (Or.inl z0)
  rw [if_neg z0, E_M_isNameOf_1, calI_e (M_k0 _ h hn)]
  simp (disch := omega) only [neq]
  by_cases z1 : (dK n).2.1 = y
  · rw [if_pos z1, E_M_isNameOf_4, E_M_isNameOf_6, fr1]; exact t (Or.inr (Or.inl z1))
  rw [if_neg z1, E_M_isNameOf_2, calI_e (M_k1 _ h hn)]
  simp (disch := omega) only [neq]
  by_cases z2 : (dK n).2.2.1 = y
  · rw [if_pos z2, E_M_isNameOf_4, E_M_isNameOf_6, fr1]; exact t (Or.inr (Or.inr (Or.inl z2)))
  rw [if_neg z2, E_M_isNameOf_3, calI_e (M_k2 _ h hn)]
  simp (disch := omega) only [neq]
  by_cases z3 : (dK n).2.2.2 = y
  · rw [if_pos z3, E_M_isNameOf_4, E_M_isNameOf_6, fr1]; exact t (Or.inr (Or.inr (Or.inr z3)))
  rw [if_neg z3, E_M_isNameOf_5, E_M_isNameOf_6, fr0]
  exact f (fun q => by rcases q with q | q | q | q; exact z0 q; exact z1 q; exact z2 q; exact z3 q)
def cBy (m : Mv) (c : Cfg) (y : Nat) : Bool := m.1 == c.1 && fits m c y
theorem M_canBy (d : Nat) {h : AH} (p : MS h) {t : Nat} {m : Mv} (ht : t < 40) (mr : mrow h t m) (hm : MV m) {n : Nat} (hn : n < 384) {y : Nat} (hy : y ≤ 9) (hy0 : y ≠ 0) (hi : isN (dK n) y) : Cc (d + 2) k_M_canBy [aR (some 94), aI (zI t), aI (zI n), aI (zI y)] h = some (some (aI (zI (if cBy m (dK n) y then 1 else 0))), h) := by
  obtain ⟨r0, r1, r2, r3, r4⟩ := mr
  have b := dK_4 hn
  unfold K4 at b
  unfold MV at hm
  rw [C_M_canBy, E_M_canBy_0]
  simp (disch := omega) only [obj_e (z94 p.1), m4 p, idx_n (z99 p.1), r0, rem6, neq]
  rw [if_neg (by decide)]
  unfold cBy
  by_cases a : m.1 = n % 6
  · rw [if_pos a, E_M_canBy_2, show (m.1 == (dK n).1) = true from beq_iff_eq.mpr a, Bool.true_and, zc9]
    simp (disch := omega) only [nlt]
    have e5 : ∀ w : Nat, (w = if y < 9 then 1 else 0) → Rk B_M_canBy L_M_canBy (Cc (d + 1)) 5 [aR (some 94), aI (zI t), aI (zI n), aI (zI y), aU] [aI (zI w)] h = some (some (aI (zI (if fits m (dK n) y then 1 else 0))), h) := by
      intro w hw
      rw [E_M_canBy_5, lt_e, zc4]
      simp (disch := omega) only [obj_e (z94 p.1), m6 p, idx_n (z101 p.1), r2, neq]
      unfold fits
      by_cases t4 : m.2.2.1 = 4
      · rw [if_pos t4, E_M_canBy_10, E_M_canBy_12, fr1]; simp [t4]
      · rw [if_neg t4, E_M_canBy_6, zc3]
        simp (disch := omega) only [obj_e (z94 p.1), m6 p, idx_n (z101 p.1), r2, neq]
        by_cases t3 : m.2.2.1 = 3
        · rw [if_pos t3, E_M_canBy_7, if_pos t3]
          by_cases z : y < 9
          · rw [if_pos z] at hw
            subst hw
            rw [if_neg (by decide), E_M_canBy_11, E_M_canBy_12, fr0]
            have : ((dK n).2.1 != y && ((dK n).2.2.1 != y && (dK n).2.2.2 != y)) = false := by
              rcases hi with q | q | q | q
              · omega
              · simp [q]
              · simp [q]
              · simp [q]
            rw [this]; rfl
          · rw [if_neg z] at hw
            subst hw
            rw [if_pos (show zI ((0 : Nat) : Int) = 0 from rfl), E_M_canBy_8, E_M_canBy_10, E_M_canBy_12, fr1]
            have : ((dK n).2.1 != y && ((dK n).2.2.1 != y && (dK n).2.2.2 != y)) = true := by
              simp only [Bool.and_eq_true, bne_iff_ne]; omega
            rw [this]; rfl
        · rw [if_neg t3, E_M_canBy_9, if_neg t3, if_neg t4]
          simp (disch := omega) only [obj_e (z94 p.1), m6 p, idx_n (z101 p.1), r2]
          have hrg : rg (dK n) m.2.2.1 ≤ 3 := by unfold rg; split; omega; split <;> omega
          rw [calI_e (M_kindIn d h hn (by omega))]
          simp (disch := omega) only [neq]
          by_cases z : rg (dK n) m.2.2.1 = y
          · rw [if_pos z, E_M_canBy_10, E_M_canBy_12, fr1, show (rg (dK n) m.2.2.1 == y) = true from beq_iff_eq.mpr z]; rfl
          · rw [if_neg z, E_M_canBy_11, E_M_canBy_12, fr0, show (rg (dK n) m.2.2.1 == y) = false from beq_eq_false_iff_ne.mpr z]; rfl
    by_cases z : y < 9
    · rw [if_pos z, E_M_canBy_3, zc1]; exact e5 1 (by rw [if_pos z])
    · rw [if_neg z, E_M_canBy_4, zc0]; exact e5 0 (by rw [if_neg z])
  · rw [if_neg a, E_M_canBy_1, fr0, show (m.1 == (dK n).1) = false from beq_eq_false_iff_ne.mpr a]; rfl
theorem M_kindBehind (d : Nat) {h : AH} (p : MS h) {t : Nat} {m : Mv} (ht : t < 40) (mr : mrow h t m) (hm : MV m) {n : Nat} (hn : n < 384) {y : Nat} (hy : y ≤ 9) : Cc (d + 2) k_M_kindBehind [aR (some 94), aI (zI t), aI (zI n), aI (zI y)] h = some (some (aI (zI (eK (kn (goC m (dK n) y))))), h) := by
  obtain ⟨r0, r1, r2, r3, r4⟩ := mr
  have b := dK_4 hn
  unfold K4 at b
  unfold MV at hm
  have b9 : ∀ (a b e : Nat), a ≤ 9 → b ≤ 9 → e ≤ 9 → Rk B_M_kindBehind L_M_kindBehind (Cc (d + 1)) 9 [aR (some 94), aI (zI t), aU, aU, aI (zI a), aI (zI b), aU] [aI (zI e)] h = some (some (aI (zI (eK (kn (m.2.2.2.2, a, b, e))))), h) := by
    intro a b e ha hb he
    rw [E_M_kindBehind_9, lt_e]
    simp (disch := omega) only [obj_e (z94 p.1), m8 p, idx_n (z103 p.1), r4]
    rw [calI_e (M_kindOf d h (by omega) (by omega) (by omega))]
  have b6 : ∀ (a b : Nat), a ≤ 9 → b ≤ 9 → Rk B_M_kindBehind L_M_kindBehind (Cc (d + 1)) 6 [aR (some 94), aI (zI t), aI (zI n), aI (zI y), aI (zI a), aU, aU] [aI (zI b)] h = some (some (aI (zI (eK (kn (m.2.2.2.2, a, b, (if m.2.2.2.1 = 2 then y else (dK n).2.2.2)))))), h) := by
    intro a b ha hb
    rw [E_M_kindBehind_6, lt_e]
    simp (disch := omega) only [obj_e (z94 p.1), m7 p, idx_n (z102 p.1), r3, yeq]
    by_cases z : m.2.2.2.1 = 2
    · rw [if_pos z, E_M_kindBehind_7, if_pos z]; exact b9 a b y ha hb hy
    · rw [if_neg z, E_M_kindBehind_8, calI_e (M_k2 d h hn), if_neg z]; exact b9 a b _ ha hb (by omega)
  have b3 : ∀ (a : Nat), a ≤ 9 → Rk B_M_kindBehind L_M_kindBehind (Cc (d + 1)) 3 [aR (some 94), aI (zI t), aI (zI n), aI (zI y), aU, aU, aU] [aI (zI a)] h = some (some (aI (zI (eK (kn (m.2.2.2.2, a, (if m.2.2.2.1 = 1 then y else (dK n).2.2.1), (if m.2.2.2.1 = 2 then y else (dK n).2.2.2)))))), h) := by
    intro a ha
    rw [E_M_kindBehind_3, lt_e]
    simp (disch := omega) only [obj_e (z94 p.1), m7 p, idx_n (z102 p.1), r3, yeq]
    by_cases z : m.2.2.2.1 = 1
    · rw [if_pos z, E_M_kindBehind_4, if_pos z]; exact b6 a y ha hy
    · rw [if_neg z, E_M_kindBehind_5, calI_e (M_k1 d h hn), if_neg z]; exact b6 a _ ha (by omega)
  rw [C_M_kindBehind, E_M_kindBehind_0]
  simp (disch := omega) only [obj_e (z94 p.1), m7 p, idx_n (z102 p.1), r3, yeq0]
  unfold goC
  by_cases z : m.2.2.2.1 = 0
  · rw [if_pos z, E_M_kindBehind_1]; simp only [if_pos z]; exact b3 y hy
  · rw [if_neg z, E_M_kindBehind_2, calI_e (M_k0 d h hn)]; simp only [if_neg z]; exact b3 _ (by omega)
