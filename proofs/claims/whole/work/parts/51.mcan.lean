/-! the model's configurations: can, behind, isTaken -/
def CM (c : Cfg) : Prop := c.1 < 6 ∧ c.2.1 < 17 ∧ c.2.2.1 < 17 ∧ c.2.2.2 < 17
def eM (c : Cfg) : Nat := c.1 + 6 * c.2.1 + 102 * c.2.2.1 + 1734 * c.2.2.2
theorem eM_lt {c : Cfg} (h : CM c) : eM c < 29478 := by unfold CM at h; unfold eM; omega
theorem eM_q {c : Cfg} (h : CM c) : eM c % 6 = c.1 := by unfold CM at h; unfold eM; omega
theorem eM_a {c : Cfg} (h : CM c) : eM c / 6 % 17 = c.2.1 := by unfold CM at h; unfold eM; omega
theorem eM_b {c : Cfg} (h : CM c) : eM c / 102 % 17 = c.2.2.1 := by unfold CM at h; unfold eM; omega
theorem eM_d {c : Cfg} (h : CM c) : eM c / 1734 = c.2.2.2 := by unfold CM at h; unfold eM; omega
theorem eM_inj {c c' : Cfg} (h : CM c) (h' : CM c') (e : eM c = eM c') : c = c' := by
  have e1 := eM_q h
  have e2 := eM_a h
  have e3 := eM_b h
  have e4 := eM_d h
  rw [e, eM_q h'] at e1
  rw [e, eM_a h'] at e2
  rw [e, eM_b h'] at e3
  rw [e, eM_d h'] at e4
  obtain ⟨q, a, b, d⟩ := c
  obtain ⟨q', a', b', d'⟩ := c'
  simp only [Prod.mk.injEq]
  exact ⟨e1.symm, e2.symm, e3.symm, e4.symm⟩
theorem goC_m {m : Mv} {c : Cfg} {x : Nat} (hm : MV m) (hc : CM c) (hx : x < 17) : CM (goC m c x) := by
  unfold goC CM at *
  unfold MV at hm
  refine ⟨hm.2.2.2.2.2, ?_, ?_, ?_⟩ <;> simp only <;> split <;> omega
theorem ndiv {a b : Nat} (h1 : a < 2147483648) (h2 : 0 < b) (h3 : b < 2147483648) : zI a / zI b = zI ((a / b : Nat) : Int) := zI_div h1 h2 h3
theorem nrem {a b : Nat} (h1 : a < 2147483648) (h2 : 0 < b) (h3 : b < 2147483648) : zI a - zI a / zI b * zI b = zI ((a % b : Nat) : Int) := zI_rem h1 h2 h3
theorem rem6 {a : Nat} (h1 : a < 2147483648) : zI a - zI a / zI 6 * zI 6 = zI ((a % 6 : Nat) : Int) := nrem (b := 6) h1 (by omega) (by omega)
theorem M_heldIn (d : Nat) (h : AH) {c : Cfg} (hc : CM c) {t : Nat} (ht : t < 3) : Cc (d + 1) k_M_heldIn [aI (zI (eM c)), aI (zI t)] h = some (some (aI (zI (rg c t))), h) := by
  have hl := eM_lt hc
  rw [C_M_heldIn, E_M_heldIn_0]
  simp (disch := omega) only [neq0]
  unfold rg
  by_cases t0 : t = 0
  · rw [if_pos t0, if_pos t0, E_M_heldIn_1, if_neg (by decide), if_neg (by decide), E_M_heldIn_5, show zI (eM c) / zI 6 = zI ((eM c / 6 : Nat) : Int) from ndiv (b := 6) (by omega) (by omega) (by omega), show zI ((eM c / 6 : Nat) : Int) - zI ((eM c / 6 : Nat) : Int) / zI 17 * zI 17 = zI ((eM c / 6 % 17 : Nat) : Int) from nrem (b := 17) (by omega) (by omega) (by omega), eM_a hc]
  · rw [if_neg t0, if_neg t0, E_M_heldIn_2, zc1]
    simp (disch := omega) only [neq]
    by_cases t1 : t = 1
    · rw [if_pos t1, if_pos t1, E_M_heldIn_3, if_neg (by decide), if_neg (by decide), E_M_heldIn_5, show zI (eM c) / zI 102 = zI ((eM c / 102 : Nat) : Int) from ndiv (b := 102) (by omega) (by omega) (by omega), show zI ((eM c / 102 : Nat) : Int) - zI ((eM c / 102 : Nat) : Int) / zI 17 * zI 17 = zI ((eM c / 102 % 17 : Nat) : Int) from nrem (b := 17) (by omega) (by omega) (by omega), eM_b hc]
    · rw [if_neg t1, if_neg t1, E_M_heldIn_4, if_neg (by decide), E_M_heldIn_5, show zI (eM c) / zI 1734 = zI ((eM c / 1734 : Nat) : Int) from ndiv (b := 1734) (by omega) (by omega) (by omega), eM_d hc]
theorem M_h0 (d : Nat) (h : AH) {c : Cfg} (hc : CM c) : Cc (d + 1) k_M_heldIn [aI (zI (eM c)), aI (zI 0)] h = some (some (aI (zI c.2.1)), h) := M_heldIn d h hc (t := 0) (by omega)
theorem M_h1 (d : Nat) (h : AH) {c : Cfg} (hc : CM c) : Cc (d + 1) k_M_heldIn [aI (zI (eM c)), aI (zI 1)] h = some (some (aI (zI c.2.2.1)), h) := M_heldIn d h hc (t := 1) (by omega)
theorem M_h2 (d : Nat) (h : AH) {c : Cfg} (hc : CM c) : Cc (d + 1) k_M_heldIn [aI (zI (eM c)), aI (zI 2)] h = some (some (aI (zI c.2.2.2)), h) := M_heldIn d h hc (t := 2) (by omega)
/-- from here, by this letter and this name -/
def canB (m : Mv) (c : Cfg) (l x : Nat) : Bool := m.1 == c.1 && (m.2.1 == l && fits m c x)
theorem M_can (d : Nat) {h : AH} (p : MS h) {t : Nat} {m : Mv} (ht : t < 40) (mr : mrow h t m) (hm : MV m) {c : Cfg} (hc : CM c) {l x : Nat} (hl : l < 3) (hx : x < 100) : Cc (d + 2) k_M_can [aR (some 94), aI (zI t), aI (zI (eM c)), aI (zI l), aI (zI x)] h = some (some (aI (zI (if canB m c l x then 1 else 0))), h) := by
  obtain ⟨r0, r1, r2, r3, r4⟩ := mr
  have hlt := eM_lt hc
  have hc' := hc
  unfold MV at hm
  unfold CM at hc'
  rw [C_M_can, E_M_can_0]
  simp (disch := omega) only [obj_e (z94 p.1), m4 p, idx_n (z99 p.1), r0, rem6, eM_q hc, neq]
  rw [if_neg (by decide)]
  unfold canB
  by_cases a : m.1 = c.1
  · rw [if_pos a, E_M_can_1, show (m.1 == c.1) = true from beq_iff_eq.mpr a, Bool.true_and]
    simp (disch := omega) only [obj_e (z94 p.1), m5 p, idx_n (z100 p.1), r1, neq]
    by_cases b : m.2.1 = l
    · rw [if_pos b, E_M_can_3, show (m.2.1 == l) = true from beq_iff_eq.mpr b, Bool.true_and, zc4]
      simp (disch := omega) only [obj_e (z94 p.1), m6 p, idx_n (z101 p.1), r2, neq]
      unfold fits
      by_cases t4 : m.2.2.1 = 4
      · rw [if_pos t4, E_M_can_4, fr1]; simp [t4]
      · rw [if_neg t4, E_M_can_5, zc3]
        simp (disch := omega) only [obj_e (z94 p.1), m6 p, idx_n (z101 p.1), r2, neq]
        by_cases t3 : m.2.2.1 = 3
        · rw [if_pos t3, E_M_can_6, calI_e (M_h0 d h hc), if_pos t3]
          simp (disch := omega) only [neq]
          by_cases z1 : c.2.1 = x
          · rw [if_pos z1, E_M_can_10, E_M_can_11, fr0, show (c.2.1 != x) = false from by simp [z1]]; rfl
          rw [if_neg z1, E_M_can_7, calI_e (M_h1 d h hc), show (c.2.1 != x) = true from bne_iff_ne.mpr z1, Bool.true_and]
          simp (disch := omega) only [neq]
          by_cases z2 : c.2.2.1 = x
          · rw [if_pos z2, E_M_can_10, E_M_can_11, fr0, show (c.2.2.1 != x) = false from by simp [z2]]; rfl
          rw [if_neg z2, E_M_can_8, calI_e (M_h2 d h hc), show (c.2.2.1 != x) = true from bne_iff_ne.mpr z2, Bool.true_and]
          simp (disch := omega) only [neq]
          by_cases z3 : c.2.2.2 = x
          · rw [if_pos z3, E_M_can_10, E_M_can_11, fr0, show (c.2.2.2 != x) = false from by simp [z3]]; rfl
          rw [if_neg z3, E_M_can_9, E_M_can_11, fr1, show (c.2.2.2 != x) = true from bne_iff_ne.mpr z3]; rfl
        · rw [if_neg t3, E_M_can_12, if_neg t3, if_neg t4]
          simp (disch := omega) only [obj_e (z94 p.1), m6 p, idx_n (z101 p.1), r2]
          have hrg : rg c m.2.2.1 < 17 := by unfold rg; split; omega; split <;> omega
          rw [calI_e (M_heldIn d h hc (by omega))]
          simp (disch := omega) only [neq]
          by_cases z : rg c m.2.2.1 = x
          · rw [if_pos z, E_M_can_13, E_M_can_15, fr1, show (rg c m.2.2.1 == x) = true from beq_iff_eq.mpr z]; rfl
          · rw [if_neg z, E_M_can_14, E_M_can_15, fr0, show (rg c m.2.2.1 == x) = false from beq_eq_false_iff_ne.mpr z]; rfl
    · rw [if_neg b, E_M_can_2, fr0, show (m.2.1 == l) = false from beq_eq_false_iff_ne.mpr b]; rfl
  · rw [if_neg a, E_M_can_2, fr0, show (m.1 == c.1) = false from beq_eq_false_iff_ne.mpr a]; rfl
theorem M_behind (d : Nat) {h : AH} (p : MS h) {t : Nat} {m : Mv} (ht : t < 40) (mr : mrow h t m) (hm : MV m) {c : Cfg} (hc : CM c) {x : Nat} (hx : x < 17) : Cc (d + 2) k_M_behind [aR (some 94), aI (zI t), aI (zI (eM c)), aI (zI x)] h = some (some (aI (zI (eM (goC m c x)))), h) := by
  obtain ⟨r0, r1, r2, r3, r4⟩ := mr
  have hlt := eM_lt hc
  have hc' := hc
  unfold MV at hm
  unfold CM at hc'
  have b9 : ∀ (a b e : Nat), a < 17 → b < 17 → e < 17 → Rk B_M_behind L_M_behind (Cc (d + 1)) 9 [aR (some 94), aI (zI t), aU, aU, aI (zI a), aI (zI b), aU] [aI (zI e)] h = some (some (aI (zI ((m.2.2.2.2 + 6 * a + 102 * b + 1734 * e : Nat) : Int))), h) := by
    intro a b e ha hb he
    rw [E_M_behind_9, lt_e]
    simp (disch := omega) only [obj_e (z94 p.1), m8 p, idx_n (z103 p.1), r4, zI_mul, zI_add]
    rfl
  have b6 : ∀ (a b : Nat), a < 17 → b < 17 → Rk B_M_behind L_M_behind (Cc (d + 1)) 6 [aR (some 94), aI (zI t), aI (zI (eM c)), aI (zI x), aI (zI a), aU, aU] [aI (zI b)] h = some (some (aI (zI ((m.2.2.2.2 + 6 * a + 102 * b + 1734 * (if m.2.2.2.1 = 2 then x else c.2.2.2) : Nat) : Int))), h) := by
    intro a b ha hb
    rw [E_M_behind_6, lt_e]
    simp (disch := omega) only [obj_e (z94 p.1), m7 p, idx_n (z102 p.1), r3, yeq]
    by_cases z : m.2.2.2.1 = 2
    · rw [if_pos z, E_M_behind_7, if_pos z]; exact b9 a b x ha hb hx
    · rw [if_neg z, E_M_behind_8, calI_e (M_h2 d h hc), if_neg z]; exact b9 a b _ ha hb (by omega)
  have b3 : ∀ (a : Nat), a < 17 → Rk B_M_behind L_M_behind (Cc (d + 1)) 3 [aR (some 94), aI (zI t), aI (zI (eM c)), aI (zI x), aU, aU, aU] [aI (zI a)] h = some (some (aI (zI ((m.2.2.2.2 + 6 * a + 102 * (if m.2.2.2.1 = 1 then x else c.2.2.1) + 1734 * (if m.2.2.2.1 = 2 then x else c.2.2.2) : Nat) : Int))), h) := by
    intro a ha
    rw [E_M_behind_3, lt_e]
    simp (disch := omega) only [obj_e (z94 p.1), m7 p, idx_n (z102 p.1), r3, yeq]
    by_cases z : m.2.2.2.1 = 1
    · rw [if_pos z, E_M_behind_4, if_pos z]; exact b6 a x ha hx
    · rw [if_neg z, E_M_behind_5, calI_e (M_h1 d h hc), if_neg z]; exact b6 a _ ha (by omega)
  rw [C_M_behind, E_M_behind_0]
  simp (disch := omega) only [obj_e (z94 p.1), m7 p, idx_n (z102 p.1), r3, yeq0]
  unfold goC eM
  by_cases z : m.2.2.2.1 = 0
  · rw [if_pos z, E_M_behind_1]; simp only [if_pos z]; exact b3 x hx
  · rw [if_neg z, E_M_behind_2, show c.1 + 6 * c.2.1 + 102 * c.2.2.1 + 1734 * c.2.2.2 = eM c from rfl, calI_e (M_h0 d h hc)]; simp only [if_neg z]; exact b3 _ (by omega)
theorem M_isTaken (d : Nat) {h : AH} (p : MS h) {j : Nat} {r : Rdr} (hj : j < 2) (mr : MR h j r) (hv : RV r) {n : Nat} (hn : n < 2147483648) : Cc (d + 1) k_M_isTaken [aR (some 94), aI (zI j), aI (zI n)] h = some (some (aI (zI (if tks r (n % 6) then 1 else 0))), h) := by
  have h1 := tk_lt hv
  have h2 : r.2.2.1 / 2 ^ (n % 6) ≤ r.2.2.1 := Nat.div_le_self _ _
  rw [C_M_isTaken, E_M_isTaken_0]
  simp (disch := omega) only [obj_e (z94 p.1), m2 p, idx_n (z97 p.1), mr.2.2.1, rem6, nshr, and1]
  rw [if_neg (by decide), zc1]
  simp (disch := omega) only [neq]
  unfold tks
  by_cases z : r.2.2.1 / 2 ^ (n % 6) % 2 = 1
  · rw [if_pos z, E_M_isTaken_1, E_M_isTaken_3, fr1, z]; rfl
  · rw [if_neg z, E_M_isTaken_2, E_M_isTaken_3, fr0, show (r.2.2.1 / 2 ^ (n % 6) % 2 == 1) = false from beq_eq_false_iff_ne.mpr z]; rfl
