/-! M: twofold -/
def tfg (G : Nat → Nat) (n : Nat) (a b : Mv) (i : Nat) : Prop := G n = 1 ∧ a.2.1 = b.2.1 ∧ isN (dK n) (nA i) ∧ cBy a (dK n) (nA i) = true ∧ cBy b (dK n) (nA i) = true
theorem tf_i (d : Nat) {j x y n : Nat} {r : Rdr} {a b : Mv} {h : AH} {F G : Nat → Nat} (hj : j < 2) (hv : RV r) (hn : n < 384) (ha : r.2.2.2[x]? = some a) (hb : r.2.2.2[y]? = some b) (p : MS h) (mr : MR h j r) (kh : KH h F G) (hG : G n ≤ 1) : ∀ (k i : Nat), i + k = 4 →
    Rk B_M_twofold L_M_twofold (Cc (d + 2)) 9 [aR (some 94), aI (zI j), aI (zI x), aI (zI y), aI (zI n), aI (zI i), aU] [] h = if bl (∃ i', i ≤ i' ∧ i' < 4 ∧ tfg G n a b i') = true then some (some (aI (zI ((32 * x + y : Nat) : Int))), h) else Rk B_M_twofold L_M_twofold (Cc (d + 2)) 20 [aR (some 94), aI (zI j), aI (zI x), aI (zI y), aI (zI n), aU, aU] [] h
  | 0, i, hi => by
    rw [if_neg (fun q => by obtain ⟨i', h1, h2, -⟩ := bl_t.mp q; omega), E_M_twofold_9, zc4]
    simp (disch := omega) only [nlt]
    rw [if_neg (by omega)]
  | k + 1, i, hi => by
    have hai := hv.mi ha
    have hbi := hv.mi hb
    have mra := mr.2.2.2.2 x a ha
    have mrb := mr.2.2.2.2 y b hb
    have ny := nA_b i
    have hla := hai.1.2.1
    have hlb := hbi.1.2.1
    have ih := tf_i d hj hv hn ha hb p mr kh hG k (i + 1) (by omega)
    have no : ¬ tfg G n a b i → Rk B_M_twofold L_M_twofold (Cc (d + 2)) 19 [aR (some 94), aI (zI j), aI (zI x), aI (zI y), aI (zI n), aI (zI i), aU] [] h = if bl (∃ i', i ≤ i' ∧ i' < 4 ∧ tfg G n a b i') = true then some (some (aI (zI ((32 * x + y : Nat) : Int))), h) else Rk B_M_twofold L_M_twofold (Cc (d + 2)) 20 [aR (some 94), aI (zI j), aI (zI x), aI (zI y), aI (zI n), aU, aU] [] h := by
      intro hno
      rw [E_M_twofold_19, nadd1, lt_e, ih]
      have : (∃ i', i + 1 ≤ i' ∧ i' < 4 ∧ tfg G n a b i') ↔ (∃ i', i ≤ i' ∧ i' < 4 ∧ tfg G n a b i') := by
        constructor
        · rintro ⟨i', h1, h2⟩; exact ⟨i', by omega, h2⟩
        · rintro ⟨i', h1, h2, h3⟩
          by_cases w : i' = i
          · subst w; exact absurd h3 hno
          · exact ⟨i', by omega, h2, h3⟩
      rw [bl_c this]
    have no14 : ¬ tfg G n a b i → Rk B_M_twofold L_M_twofold (Cc (d + 2)) 14 [aR (some 94), aI (zI j), aI (zI x), aI (zI y), aI (zI n), aI (zI i), aU] [] h = if bl (∃ i', i ≤ i' ∧ i' < 4 ∧ tfg G n a b i') = true then some (some (aI (zI ((32 * x + y : Nat) : Int))), h) else Rk B_M_twofold L_M_twofold (Cc (d + 2)) 20 [aR (some 94), aI (zI j), aI (zI x), aI (zI y), aI (zI n), aU, aU] [] h := by
      intro hno
      rw [E_M_twofold_14, E_M_twofold_15, lt_e, if_pos zI_0.symm]
      exact no hno
    rw [E_M_twofold_9, zc4]
    simp (disch := omega) only [nlt]
    rw [if_pos (by omega), E_M_twofold_10, obj_e (z94 p.1), m37 p]
    simp (disch := omega) only [idx_n (z124 p.1), (kh n hn).2, neq0]
    by_cases g0 : G n = 0
    · rw [if_pos g0]; exact no14 (fun q => by have := q.1; omega)
    rw [if_neg g0, E_M_twofold_11, obj_e (z94 p.1), m5 p, show zI 20 = zI ((20 : Nat) : Int) from rfl, nmul, nadd, nadd]
    simp (disch := omega) only [idx_n (z100 p.1), obj_e (z94 p.1), m5 p, mra.2.1, mrb.2.1, neq]
    by_cases gl : a.2.1 = b.2.1
    · rw [if_pos gl, E_M_twofold_12, calI_e (M_nameAt _ h (by omega)), calI_e (M_isNameOf _ h hn (by omega))]
      by_cases z : isN (dK n) (nA i)
      · rw [if_pos (bl_t.mpr z), if_neg (by decide), E_M_twofold_13, E_M_twofold_15, lt_e, if_neg (by decide), E_M_twofold_16, calI_e (M_nameAt _ h (by omega)), obj_e (z94 p.1), show zI 20 = zI ((20 : Nat) : Int) from rfl, nmul, nadd, calI_e (M_canBy _ p (by omega) mra hai.1 hn ny.2 ny.1 z)]
        cases w : cBy a (dK n) (nA i) with
        | false =>
          rw [if_neg (show ¬ (false = true) by simp), if_pos zI_0.symm]
          exact no (fun q => by have := q.2.2.2.1; rw [w] at this; cases this)
        | true =>
          rw [if_pos rfl, if_neg (by decide), E_M_twofold_17, calI_e (M_nameAt _ h (by omega)), obj_e (z94 p.1), show zI 20 = zI ((20 : Nat) : Int) from rfl, nmul, nadd, calI_e (M_canBy _ p (by omega) mrb hbi.1 hn ny.2 ny.1 z)]
          cases w2 : cBy b (dK n) (nA i) with
          | false =>
            rw [if_neg (show ¬ (false = true) by simp), if_pos zI_0.symm]
            exact no (fun q => by have := q.2.2.2.2; rw [w2] at this; cases this)
          | true =>
            rw [if_pos rfl, if_neg (by decide), E_M_twofold_18, show zI 32 = zI ((32 : Nat) : Int) from rfl, nmul, nadd, if_pos (bl_t.mpr ⟨i, Nat.le_refl _, by omega, by omega, gl, z, w, w2⟩)]
      · rw [if_neg (fun q => z (bl_t.mp q)), if_pos zI_0.symm]; exact no14 (fun q => z q.2.2.1)
    · rw [if_neg gl]; exact no14 (fun q => gl q.2.1)
theorem tf_c (d : Nat) {j x y : Nat} {r : Rdr} {a b : Mv} {h : AH} {F G : Nat → Nat} (hj : j < 2) (hv : RV r) (ha : r.2.2.2[x]? = some a) (hb : r.2.2.2[y]? = some b) (p : MS h) (mr : MR h j r) (kh : KH h F G) (hG : ∀ n, n < 384 → G n ≤ 1) : ∀ (k n : Nat), n + k = 384 →
    Rk B_M_twofold L_M_twofold (Cc (d + 2)) 7 [aR (some 94), aI (zI j), aI (zI x), aI (zI y), aI (zI n), aU, aU] [] h = if bl (∃ n' i', n ≤ n' ∧ n' < 384 ∧ i' < 4 ∧ tfg G n' a b i') = true then some (some (aI (zI ((32 * x + y : Nat) : Int))), h) else Rk B_M_twofold L_M_twofold (Cc (d + 2)) 21 [aR (some 94), aI (zI j), aI (zI x), aI (zI y), aU, aU, aU] [] h
  | 0, n, hn => by
    rw [if_neg (fun q => by obtain ⟨n', i', h1, h2, -⟩ := bl_t.mp q; omega), E_M_twofold_7, show zI 384 = zI ((384 : Nat) : Int) from rfl]
    simp (disch := omega) only [nlt]
    rw [if_neg (by omega)]
  | k + 1, n, hn => by
    have ih := tf_c d hj hv ha hb p mr kh hG k (n + 1) (by omega)
    have e1 := tf_i d hj hv (n := n) (by omega) ha hb p mr kh (hG n (by omega)) 4 0 (by omega)
    rw [E_M_twofold_7, show zI 384 = zI ((384 : Nat) : Int) from rfl]
    simp (disch := omega) only [nlt]
    rw [if_pos (by omega), E_M_twofold_8, lt_e, zc0, e1]
    by_cases z : ∃ i', 0 ≤ i' ∧ i' < 4 ∧ tfg G n a b i'
    · rw [if_pos (bl_t.mpr z)]
      obtain ⟨i', -, h2, h3⟩ := z
      rw [if_pos (bl_t.mpr ⟨n, i', Nat.le_refl _, by omega, h2, h3⟩)]
    · rw [if_neg (fun q => z (bl_t.mp q)), E_M_twofold_20, nadd1, lt_e, ih]
      have : (∃ n' i', n + 1 ≤ n' ∧ n' < 384 ∧ i' < 4 ∧ tfg G n' a b i') ↔ (∃ n' i', n ≤ n' ∧ n' < 384 ∧ i' < 4 ∧ tfg G n' a b i') := by
        constructor
        · rintro ⟨n', i', h1, h2⟩; exact ⟨n', i', by omega, h2⟩
        · rintro ⟨n', i', h1, h2, h3, h4⟩
          by_cases w : n' = n
          · subst w; exact absurd ⟨i', Nat.zero_le _, h3, h4⟩ z
          · exact ⟨n', i', by omega, h2, h3, h4⟩
      rw [bl_c this]
theorem twf_iff {r : Rdr} {G : Nat → Nat} (hv : RV r) (gv : GV r G) {x y : Nat} {a b : Mv} (hxy : x < y) (ha : r.2.2.2[x]? = some a) (hb : r.2.2.2[y]? = some b) : twf r (32 * x + y) ↔ ∃ n' i', 0 ≤ n' ∧ n' < 384 ∧ i' < 4 ∧ tfg G n' a b i' := by
  have h20 := (hv.mi ha).2
  have h21 := (hv.mi hb).2
  constructor
  · rintro ⟨c, l, nm, h1, h2, i, j, m, n, g1, g2, g3, g4, g5, g6, g7, g8, g9, g10⟩
    have i20 := (hv.mi g3).2
    have j20 := (hv.mi g4).2
    have hi : i = x ∧ j = y := by omega
    obtain ⟨rfl, rfl⟩ := hi
    rw [ha] at g3
    cases g3
    rw [hb] at g4
    cases g4
    have k4 : K4 c := (KV_r hv c h1).le
    have hk := k4
    unfold K4 at hk
    obtain ⟨y', y1, y2, y3⟩ := mat_ex (w := 9) (sim_rf c) h2 (by omega) (by omega) (by omega) (by omega)
    obtain ⟨i', hi', hy'⟩ := nA_x k4 y1 y3
    refine ⟨eK c, i', Nat.zero_le _, eK_lt k4, hi', (gv c k4).2.mpr h1, by omega, ?_⟩
    rw [dK_e k4, hy']
    exact ⟨by unfold isN; omega, cBy_t.mpr ⟨g5, by rw [← mat_fits y2]; exact g9⟩, cBy_t.mpr ⟨g6, by rw [← mat_fits y2]; exact g10⟩⟩
  · rintro ⟨n', i', -, h2, h3, g1, g2, g3, g4, g5⟩
    have c1 := cBy_t.mp g4
    have c2 := cBy_t.mp g5
    refine ⟨dK n', a.2.1, nA i', ?_, (nA_b i').1, x, y, a, b, rfl, hxy, ha, hb, c1.1, c2.1, rfl, g2.symm, c1.2, c2.2⟩
    refine (gv _ (dK_4 h2)).2.mp ?_
    rw [eK_d h2]; exact g1
theorem tf_y (d : Nat) {j x : Nat} {r : Rdr} {h : AH} {F G : Nat → Nat} (hj : j < 2) (hv : RV r) (hx : x < r.2.2.2.length) (p : MS h) (mr : MR h j r) (kh : KH h F G) (gv : GV r G) (hG : ∀ n, n < 384 → G n ≤ 1) : ∀ (k y : Nat), y + k = r.2.2.2.length → x < y →
    (∃ y', y ≤ y' ∧ y' < r.2.2.2.length ∧ twf r (32 * x + y') ∧ (∀ z, y ≤ z → z < y' → ¬ twf r (32 * x + z)) ∧ Rk B_M_twofold L_M_twofold (Cc (d + 2)) 5 [aR (some 94), aI (zI j), aI (zI x), aI (zI y), aU, aU, aU] [] h = some (some (aI (zI ((32 * x + y' : Nat) : Int))), h)) ∨ ((∀ z, y ≤ z → z < r.2.2.2.length → ¬ twf r (32 * x + z)) ∧ Rk B_M_twofold L_M_twofold (Cc (d + 2)) 5 [aR (some 94), aI (zI j), aI (zI x), aI (zI y), aU, aU, aU] [] h = Rk B_M_twofold L_M_twofold (Cc (d + 2)) 22 [aR (some 94), aI (zI j), aI (zI x), aU, aU, aU, aU] [] h)
  | 0, y, hk, hxy => by
    have hl := hv.2.2.2.2.1
    refine Or.inr ⟨fun z h1 h2 => by omega, ?_⟩
    rw [E_M_twofold_5, obj_e (z94 p.1), m3 p]
    simp (disch := omega) only [idx_n (z98 p.1), mr.2.2.2.1, nlt]
    rw [if_neg (by omega)]
  | k + 1, y, hk, hxy => by
    have hl := hv.2.2.2.2.1
    have ha : r.2.2.2[x]? = some r.2.2.2[x] := List.getElem?_eq_getElem (by omega)
    have hb : r.2.2.2[y]? = some r.2.2.2[y] := List.getElem?_eq_getElem (by omega)
    have e1 := tf_c d hj hv ha hb p mr kh hG 384 0 (by omega)
    have e0 : Rk B_M_twofold L_M_twofold (Cc (d + 2)) 5 [aR (some 94), aI (zI j), aI (zI x), aI (zI y), aU, aU, aU] [] h = Rk B_M_twofold L_M_twofold (Cc (d + 2)) 7 [aR (some 94), aI (zI j), aI (zI x), aI (zI y), aI (zI ((0 : Nat) : Int)), aU, aU] [] h := by
      rw [E_M_twofold_5, obj_e (z94 p.1), m3 p]
      simp (disch := omega) only [idx_n (z98 p.1), mr.2.2.2.1, nlt]
      rw [if_pos (by omega), E_M_twofold_6, lt_e]
      rfl
    have hiff := twf_iff hv gv hxy ha hb
    by_cases z : twf r (32 * x + y)
    · rw [if_pos (bl_t.mpr (hiff.mp z))] at e1
      exact Or.inl ⟨y, Nat.le_refl _, by omega, z, fun w h1 h2 => by omega, by rw [e0, e1]⟩
    · rw [if_neg (fun q => z (hiff.mpr (bl_t.mp q)))] at e1
      have e2 : Rk B_M_twofold L_M_twofold (Cc (d + 2)) 5 [aR (some 94), aI (zI j), aI (zI x), aI (zI y), aU, aU, aU] [] h = Rk B_M_twofold L_M_twofold (Cc (d + 2)) 5 [aR (some 94), aI (zI j), aI (zI x), aI (zI ((y + 1 : Nat) : Int)), aU, aU, aU] [] h := by
        rw [e0, e1, E_M_twofold_21, nadd1, lt_e]
      rw [e2]
      rcases tf_y d hj hv hx p mr kh gv hG k (y + 1) (by omega) (by omega) with ⟨y', h1, h2, h3, h4, h5⟩ | ⟨h1, h2⟩
      · refine Or.inl ⟨y', by omega, h2, h3, fun w w1 w2 => ?_, h5⟩
        by_cases e : w = y
        · rw [e]; exact z
        · exact h4 w (by omega) w2
      · refine Or.inr ⟨fun w w1 w2 => ?_, h2⟩
        by_cases e : w = y
        · rw [e]; exact z
        · exact h1 w (by omega) w2
theorem twf_f {r : Rdr} (hv : RV r) {k : Nat} (h : twf r k) : ∃ i j, k = 32 * i + j ∧ i < j ∧ j < r.2.2.2.length ∧ j < 20 := by
  obtain ⟨c, l, nm, -, -, i, j, m, n, g1, g2, g3, g4, -⟩ := h
  exact ⟨i, j, g1, g2, (List.getElem?_eq_some_iff.mp g4).1, (hv.mi g4).2⟩
theorem tf_x (d : Nat) {j : Nat} {r : Rdr} {h : AH} {F G : Nat → Nat} (hj : j < 2) (hv : RV r) (p : MS h) (mr : MR h j r) (kh : KH h F G) (gv : GV r G) (hG : ∀ n, n < 384 → G n ≤ 1) : ∀ (k x : Nat), x + k = r.2.2.2.length →
    ∃ v, Rk B_M_twofold L_M_twofold (Cc (d + 2)) 3 [aR (some 94), aI (zI j), aI (zI x), aU, aU, aU, aU] [] h = some (some (aI (zI v)), h) ∧ mnv (fun k => twf r k ∧ 32 * x ≤ k) v
  | 0, x, hk => by
    have hl := hv.2.2.2.2.1
    refine ⟨-1, ?_, Or.inl ⟨rfl, ?_⟩⟩
    · rw [E_M_twofold_3, obj_e (z94 p.1), m3 p]
      simp (disch := omega) only [idx_n (z98 p.1), mr.2.2.2.1, nlt]
      rw [if_neg (by omega), E_M_twofold_23]
    · rintro k ⟨h1, h2⟩
      obtain ⟨i, j, g1, g2, g3, g4⟩ := twf_f hv h1
      omega
  | k + 1, x, hk => by
    have hl := hv.2.2.2.2.1
    have e0 : Rk B_M_twofold L_M_twofold (Cc (d + 2)) 3 [aR (some 94), aI (zI j), aI (zI x), aU, aU, aU, aU] [] h = Rk B_M_twofold L_M_twofold (Cc (d + 2)) 5 [aR (some 94), aI (zI j), aI (zI x), aI (zI ((x + 1 : Nat) : Int)), aU, aU, aU] [] h := by
      rw [E_M_twofold_3, obj_e (z94 p.1), m3 p]
      simp (disch := omega) only [idx_n (z98 p.1), mr.2.2.2.1, nlt]
      rw [if_pos (by omega), E_M_twofold_4, nadd1, lt_e]
    rcases tf_y d hj hv (x := x) (by omega) p mr kh gv hG k (x + 1) (by omega) (by omega) with ⟨y', h1, h2, h3, h4, h5⟩ | ⟨h1, h2⟩
    · refine ⟨((32 * x + y' : Nat) : Int), by rw [e0, h5], Or.inr ⟨32 * x + y', rfl, ⟨h3, by omega⟩, ?_⟩⟩
      rintro k' ⟨q1, q2⟩
      obtain ⟨i, j, g1, g2, g3, g4⟩ := twf_f hv q1
      have := (twf_f hv h3)
      obtain ⟨i2, j2, t1, t2, t3, t4⟩ := this
      by_cases w : i = x
      · subst w
        rcases Nat.lt_or_ge j y' with u | u
        · exact absurd (by rw [← g1]; exact q1) (h4 j (by omega) u)
        · omega
      · omega
    · obtain ⟨v, e, mv⟩ := tf_x d hj hv p mr kh gv hG k (x + 1) (by omega)
      refine ⟨v, by rw [e0, h2, E_M_twofold_22, nadd1, lt_e]; exact e, mnv_c mv (fun k' => ⟨fun q => ⟨q.1, by omega⟩, fun q => ⟨q.1, ?_⟩⟩)⟩
      obtain ⟨i, j, g1, g2, g3, g4⟩ := twf_f hv q.1
      by_cases w : i = x
      · subst w
        exact absurd (by rw [← g1]; exact q.1) (h1 j (by omega) g3)
      · have := q.2; omega
theorem M_twofold {x : Int} (x1 : -2147483648 ≤ x) (x2 : x < 2147483648) : MOK k_M_twofold [aI (zI x)] (twA x) id := by
  intro s kk h hk v p
  rw [C_M_twofold, E_M_twofold_0, calI_e (M_isReader _ h x1 x2), if01]
  unfold twA
  by_cases a1 : x = 0 ∨ x = 1
  · simp only [if_pos a1]
    have mr := p.mr a1
    obtain ⟨j, hj⟩ : ∃ j : Nat, x = j := ⟨x.toNat, by omega⟩
    subst hj
    have hv := VS_r v j
    obtain ⟨h1, F, G, e1, f1, kh, fv, gv⟩ := M_layKinds 56 (j := j) (by omega) hv p.1 mr
    have p1 := p.1.mf f1
    have mr1 := MR_lk mr f1
    obtain ⟨fb, gb⟩ := FG_b fv gv
    obtain ⟨w, e2, mw⟩ := tf_x 57 (by omega) hv p1 mr1 kh gv gb (rdr s j).2.2.2.length 0 (by omega)
    refine ⟨h1, ?_, f1.l, f1.k p⟩
    have : mnV (twf (rdr s j)) = w := mnV_e (mnv_c mw (fun k => ⟨fun q => q.1, fun q => ⟨q, by omega⟩⟩))
    rw [E_M_twofold_2, obj_e (z94 p.1.1), calV_e e1, lt_e, this]
    exact e2
  · simp only [if_neg a1]
    exact ⟨h, by rw [E_M_twofold_1], mfr.rf _ h, p.up⟩
