/-! M: least, useless, twofold -/
theorem VS_r {s : Stt} (v : VS s) (x : Int) : RV (rdr s x) := by unfold rdr; split; exact v.1; exact v.2.1
theorem lkf.k {k : Nat} {s : Stt} {h h' : AH} (f : lkf h h') (p : MI k s h) : MI (k + 1) s h' := (p.mv f (fun a i hF => by unfold scr; omega)).up
theorem lkf.l {h h' : AH} (f : lkf h h') : mfr (fun a _ => 94 ≤ a) h h' := mfr.mo f (fun a j hF => by omega)
theorem FV_dv {r : Rdr} {F : Nat → Nat} (fv : FV r F) {c : Cfg} (hc : K4 c) : (F (eK c) < 268435456 ∧ dv r c = F (eK c)) ∨ (F (eK c) = 268435456 ∧ dv r c = -1) := by
  rcases fv c hc with ⟨n, h1, h2, h3⟩ | ⟨h1, h2⟩
  · exact Or.inl ⟨by omega, by rw [h2]; exact dv_e h1⟩
  · exact Or.inr ⟨h2, dv_n (fun n hn => h1 n hn.1)⟩
theorem M_least {x : Int} (x1 : -2147483648 ≤ x) (x2 : x < 2147483648) : MOK k_M_least [aI (zI x)] (lstA x) id := by
  intro s kk h hk v p
  rw [C_M_least, E_M_least_0, calI_e (M_isReader _ h x1 x2), if01]
  unfold lstA
  by_cases a1 : x = 0 ∨ x = 1
  · simp only [if_pos a1]
    have mr := p.mr a1
    obtain ⟨j, hj⟩ : ∃ j : Nat, x = j := ⟨x.toNat, by omega⟩
    subst hj
    obtain ⟨h1, F, G, e1, f1, kh, fv, gv⟩ := M_layKinds 56 (j := j) (by omega) (VS_r v _) p.1 mr
    have p1 := p.1.mf f1
    refine ⟨h1, ?_, f1.l, f1.k p⟩
    have h0 := (kh 0 (by omega)).1
    have d0 := FV_dv fv (c := c0) KV_0.le
    rw [show eK c0 = 0 from rfl] at d0
    rw [E_M_least_2, obj_e (z94 p.1.1), calV_e e1, obj_e (z94 p1.1), m36 p1, zc0]
    simp (disch := omega) only [idx_n (z123 p1.1), h0]
    rw [show zI 268435456 = zI ((268435456 : Nat) : Int) from rfl]
    rcases d0 with ⟨q1, q2⟩ | ⟨q1, q2⟩
    · simp (disch := omega) only [nlt]
      rw [if_pos q1, E_M_least_4, obj_e (z94 p1.1), m36 p1, zc0]
      simp (disch := omega) only [idx_n (z123 p1.1), h0]
      rw [E_M_least_5, q2]
    · simp (disch := omega) only [nlt]
      rw [if_neg (by omega), E_M_least_3, E_M_least_5, q2]
  · simp only [if_neg a1]
    exact ⟨h, by rw [E_M_least_1], mfr.rf _ h, p.up⟩
def usg (F G : Nat → Nat) (n : Nat) (m : Mv) (i : Nat) : Prop := G n = 1 ∧ isN (dK n) (nA i) ∧ cBy m (dK n) (nA i) = true ∧ F (eK (kn (goC m (dK n) (nA i)))) < 268435456
theorem us_i (d : Nat) {j t n : Nat} {r : Rdr} {m : Mv} {h : AH} {F G : Nat → Nat} (hj : j < 2) (hv : RV r) (hn : n < 384) (hm : r.2.2.2[t]? = some m) (p : MS h) (mr : MR h j r) (kh : KH h F G) (hG : G n ≤ 1) (hF : ∀ n, n < 384 → F n ≤ 268435456) : ∀ (k i U : Nat), i + k = 4 → U < 2 ^ 20 →
    ∃ U' : Nat, Rk B_M_useless L_M_useless (Cc (d + 2)) 7 [aR (some 94), aI (zI j), aI (zI U), aI (zI n), aI (zI ((20 * j + t : Nat) : Int)), aI (zI i), aU] [] h = Rk B_M_useless L_M_useless (Cc (d + 2)) 18 [aR (some 94), aI (zI j), aI (zI U'), aI (zI n), aI (zI ((20 * j + t : Nat) : Int)), aU, aU] [] h ∧ U' < 2 ^ 20 ∧ ∀ b, U'.testBit b = true ↔ U.testBit b = true ∨ (b = t ∧ ∃ i', i ≤ i' ∧ i' < 4 ∧ usg F G n m i')
  | 0, i, U, hi, hU => by
    refine ⟨U, ?_, hU, fun b => ⟨Or.inl, fun q => q.elim id (fun ⟨_, i', h1, h2, _⟩ => by omega)⟩⟩
    rw [E_M_useless_7, zc4]
    simp (disch := omega) only [nlt]
    rw [if_neg (by omega)]
  | k + 1, i, U, hi, hU => by
    have hmi := hv.mi hm
    have mrw := mr.2.2.2.2 t m hm
    have ny := nA_b i
    have k4 : K4 (kn (goC m (dK n) (nA i))) := kn_4 (show m.2.2.2.2 < 6 from hmi.1.2.2.2.2.2)
    have dlt := eK_lt k4
    have hFd := hF _ dlt
    have yes : usg F G n m i → ∃ U' : Nat, Rk B_M_useless L_M_useless (Cc (d + 2)) 14 [aR (some 94), aI (zI j), aI (zI U), aI (zI n), aI (zI ((20 * j + t : Nat) : Int)), aI (zI i), aU] [aI (zI 1)] h = Rk B_M_useless L_M_useless (Cc (d + 2)) 18 [aR (some 94), aI (zI j), aI (zI U'), aI (zI n), aI (zI ((20 * j + t : Nat) : Int)), aU, aU] [] h ∧ U' < 2 ^ 20 ∧ ∀ b, U'.testBit b = true ↔ U.testBit b = true ∨ (b = t ∧ ∃ i', i ≤ i' ∧ i' < 4 ∧ usg F G n m i') := by
      intro hu
      obtain ⟨V, v1, v2, v3⟩ := orb hU hmi.2
      obtain ⟨U', e, k1, k2⟩ := us_i d hj hv hn hm p mr kh hG hF k (i + 1) V (by omega) v1
      refine ⟨U', ?_, k1, fun b => ?_⟩
      · rw [E_M_useless_14, lt_e, if_neg (by decide), E_M_useless_15, E_M_useless_17, show zI 20 = zI ((20 : Nat) : Int) from rfl, nmul, nsub (by omega), show 20 * j + t - 20 * j = t by omega, v2, lt_e, nadd1, lt_e]
        exact e
      · rw [k2 b, v3 b]
        constructor
        · rintro ((q | q) | ⟨q, i', h1, h2, h3⟩)
          · exact Or.inl q
          · exact Or.inr ⟨q, i, Nat.le_refl _, by omega, hu⟩
          · exact Or.inr ⟨q, i', by omega, h2, h3⟩
        · rintro (q | ⟨q, -⟩)
          · exact Or.inl (Or.inl q)
          · exact Or.inl (Or.inr q)
    have no : ¬ usg F G n m i → ∃ U' : Nat, Rk B_M_useless L_M_useless (Cc (d + 2)) 13 [aR (some 94), aI (zI j), aI (zI U), aI (zI n), aI (zI ((20 * j + t : Nat) : Int)), aI (zI i), aU] [] h = Rk B_M_useless L_M_useless (Cc (d + 2)) 18 [aR (some 94), aI (zI j), aI (zI U'), aI (zI n), aI (zI ((20 * j + t : Nat) : Int)), aU, aU] [] h ∧ U' < 2 ^ 20 ∧ ∀ b, U'.testBit b = true ↔ U.testBit b = true ∨ (b = t ∧ ∃ i', i ≤ i' ∧ i' < 4 ∧ usg F G n m i') := by
      intro hu
      obtain ⟨U', e, k1, k2⟩ := us_i d hj hv hn hm p mr kh hG hF k (i + 1) U (by omega) hU
      refine ⟨U', ?_, k1, fun b => ?_⟩
      · rw [E_M_useless_13, E_M_useless_14, lt_e, if_pos zI_0.symm, E_M_useless_16, E_M_useless_17, zc0, zI_or (by omega) (by omega), Nat.or_zero, lt_e, nadd1, lt_e]
        exact e
      · rw [k2 b]
        constructor
        · rintro (q | ⟨q, i', h1, h2, h3⟩)
          · exact Or.inl q
          · exact Or.inr ⟨q, i', by omega, h2, h3⟩
        · rintro (q | ⟨q, i', h1, h2, h3⟩)
          · exact Or.inl q
          · by_cases w : i' = i
            · subst w; exact absurd h3 hu
            · exact Or.inr ⟨q, i', by omega, h2, h3⟩
    rw [E_M_useless_7, zc4]
    simp (disch := omega) only [nlt]
    rw [if_pos (by omega), E_M_useless_8, obj_e (z94 p.1), m37 p]
    simp (disch := omega) only [idx_n (z124 p.1), (kh n hn).2, neq0]
    by_cases g0 : G n = 0
    · rw [if_pos g0]; exact no (fun q => by have := q.1; omega)
    rw [if_neg g0, E_M_useless_9, calI_e (M_nameAt _ h (by omega)), calI_e (M_isNameOf _ h hn (by omega))]
    by_cases z : isN (dK n) (nA i)
    · rw [if_pos (bl_t.mpr z), if_neg (by decide), E_M_useless_10, calI_e (M_nameAt _ h (by omega)), obj_e (z94 p.1), calI_e (M_canBy _ p (by omega) mrw hmi.1 hn ny.2 ny.1 z)]
      cases y : cBy m (dK n) (nA i) with
      | false =>
        rw [if_neg (show ¬ (false = true) by simp), if_pos zI_0.symm]
        exact no (fun q => by have := q.2.2.1; rw [y] at this; cases this)
      | true =>
        rw [if_pos rfl, if_neg (by decide), E_M_useless_11, obj_e (z94 p.1), calI_e (M_nameAt _ h (by omega)), obj_e (z94 p.1), calI_e (M_kindBehind _ p (by omega) mrw hmi.1 hn ny.2), m36 p, show zI 268435456 = zI ((268435456 : Nat) : Int) from rfl]
        simp (disch := omega) only [idx_n (z123 p.1), (kh _ dlt).1, nlt]
        by_cases w : F (eK (kn (goC m (dK n) (nA i)))) < 268435456
        · rw [if_pos w, E_M_useless_12]; exact yes ⟨by omega, z, y, w⟩
        · rw [if_neg w]; exact no (fun q => w q.2.2.2)
    · rw [if_neg (fun q => z (bl_t.mp q)), if_pos zI_0.symm]; exact no (fun q => z q.2.1)
theorem us_m (d : Nat) {j n : Nat} {r : Rdr} {h : AH} {F G : Nat → Nat} (hj : j < 2) (hv : RV r) (hn : n < 384) (p : MS h) (mr : MR h j r) (kh : KH h F G) (hG : G n ≤ 1) (hF : ∀ n, n < 384 → F n ≤ 268435456) : ∀ (k t U : Nat), t + k = r.2.2.2.length → U < 2 ^ 20 →
    ∃ U' : Nat, Rk B_M_useless L_M_useless (Cc (d + 2)) 5 [aR (some 94), aI (zI j), aI (zI U), aI (zI n), aI (zI ((20 * j + t : Nat) : Int)), aU, aU] [] h = Rk B_M_useless L_M_useless (Cc (d + 2)) 19 [aR (some 94), aI (zI j), aI (zI U'), aI (zI n), aU, aU, aU] [] h ∧ U' < 2 ^ 20 ∧ ∀ b, U'.testBit b = true ↔ U.testBit b = true ∨ (t ≤ b ∧ ∃ m i', r.2.2.2[b]? = some m ∧ i' < 4 ∧ usg F G n m i')
  | 0, t, U, hk, hU => by
    have hl := hv.2.2.2.2.1
    refine ⟨U, ?_, hU, fun b => ⟨Or.inl, fun q => q.elim id (fun ⟨h0, m, i', h1, h2⟩ => by have := (List.getElem?_eq_some_iff.mp h1).1; omega)⟩⟩
    rw [E_M_useless_5, obj_e (z94 p.1), m3 p]
    simp (disch := omega) only [idx_n (z98 p.1), mr.2.2.2.1]
    rw [show zI 20 = zI ((20 : Nat) : Int) from rfl, nmul, nadd]
    simp (disch := omega) only [nlt]
    rw [if_neg (by omega)]
  | k + 1, t, U, hk, hU => by
    have hl := hv.2.2.2.2.1
    have hm : r.2.2.2[t]? = some r.2.2.2[t] := List.getElem?_eq_getElem (by omega)
    obtain ⟨V, e1, v1, v2⟩ := us_i d hj hv hn hm p mr kh hG hF 4 0 U (by omega) hU
    obtain ⟨U', e, k1, k2⟩ := us_m d hj hv hn p mr kh hG hF k (t + 1) V (by omega) v1
    refine ⟨U', ?_, k1, fun b => ?_⟩
    · rw [E_M_useless_5, obj_e (z94 p.1), m3 p]
      simp (disch := omega) only [idx_n (z98 p.1), mr.2.2.2.1]
      rw [show zI 20 = zI ((20 : Nat) : Int) from rfl, nmul, nadd]
      simp (disch := omega) only [nlt]
      rw [if_pos (by omega), E_M_useless_6, lt_e]
      refine Eq.trans e1 ?_
      rw [E_M_useless_18, nadd1, lt_e]
      exact e
    · rw [k2 b, v2 b]
      constructor
      · rintro ((q | ⟨rfl, i', -, h2, h3⟩) | ⟨q, h1⟩)
        · exact Or.inl q
        · exact Or.inr ⟨Nat.le_refl _, _, i', hm, h2, h3⟩
        · exact Or.inr ⟨by omega, h1⟩
      · rintro (q | ⟨q, m, i', h1, h2, h3⟩)
        · exact Or.inl (Or.inl q)
        · by_cases w : b = t
          · subst w
            rw [hm] at h1
            cases h1
            exact Or.inl (Or.inr ⟨rfl, i', Nat.zero_le _, h2, h3⟩)
          · exact Or.inr ⟨by omega, m, i', h1, h2, h3⟩
theorem us_c (d : Nat) {j : Nat} {r : Rdr} {h : AH} {F G : Nat → Nat} (hj : j < 2) (hv : RV r) (p : MS h) (mr : MR h j r) (kh : KH h F G) (hG : ∀ n, n < 384 → G n ≤ 1) (hF : ∀ n, n < 384 → F n ≤ 268435456) : ∀ (k n U : Nat), n + k = 384 → U < 2 ^ 20 →
    ∃ U' : Nat, Rk B_M_useless L_M_useless (Cc (d + 2)) 3 [aR (some 94), aI (zI j), aI (zI U), aI (zI n), aU, aU, aU] [] h = Rk B_M_useless L_M_useless (Cc (d + 2)) 20 [aR (some 94), aI (zI j), aI (zI U'), aU, aU, aU, aU] [] h ∧ U' < 2 ^ 20 ∧ ∀ b, U'.testBit b = true ↔ U.testBit b = true ∨ (∃ n' m i', n ≤ n' ∧ n' < 384 ∧ r.2.2.2[b]? = some m ∧ i' < 4 ∧ usg F G n' m i')
  | 0, n, U, hk, hU => by
    refine ⟨U, ?_, hU, fun b => ⟨Or.inl, fun q => q.elim id (fun ⟨n', m, i', h1, h2, _⟩ => by omega)⟩⟩
    rw [E_M_useless_3, show zI 384 = zI ((384 : Nat) : Int) from rfl]
    simp (disch := omega) only [nlt]
    rw [if_neg (by omega)]
  | k + 1, n, U, hk, hU => by
    obtain ⟨V, e1, v1, v2⟩ := us_m d hj hv (n := n) (by omega) p mr kh (hG n (by omega)) hF r.2.2.2.length 0 U (by omega) hU
    obtain ⟨U', e, k1, k2⟩ := us_c d hj hv p mr kh hG hF k (n + 1) V (by omega) v1
    refine ⟨U', ?_, k1, fun b => ?_⟩
    · rw [E_M_useless_3, show zI 384 = zI ((384 : Nat) : Int) from rfl]
      simp (disch := omega) only [nlt]
      rw [if_pos (by omega), E_M_useless_4, show zI 20 = zI ((20 : Nat) : Int) from rfl, nmul, lt_e]
      refine Eq.trans e1 ?_
      rw [E_M_useless_19, nadd1, lt_e]
      exact e
    · rw [k2 b, v2 b]
      constructor
      · rintro ((q | ⟨-, m, i', h2, h3⟩) | ⟨n', m, i', h1, h2⟩)
        · exact Or.inl q
        · exact Or.inr ⟨n, m, i', Nat.le_refl _, by omega, h2, h3⟩
        · exact Or.inr ⟨n', m, i', by omega, h2⟩
      · rintro (q | ⟨n', m, i', h1, h2, h3⟩)
        · exact Or.inl (Or.inl q)
        · by_cases w : n' = n
          · subst w
            exact Or.inl (Or.inr ⟨Nat.zero_le _, m, i', h3⟩)
          · exact Or.inr ⟨n', m, i', by omega, h2, h3⟩
theorem nA_x {c : Cfg} (hc : K4 c) {y : Nat} (h0 : y ≠ 0) (h : y = 9 ∨ y = c.2.1 ∨ y = c.2.2.1 ∨ y = c.2.2.2) : ∃ i, i < 4 ∧ nA i = y := by
  unfold K4 at hc
  rcases h with q | q
  · exact ⟨3, by omega, q.symm⟩
  · refine ⟨y - 1, by omega, ?_⟩
    unfold nA
    rw [if_pos (by omega)]; omega
theorem FG_b {r : Rdr} {F G : Nat → Nat} (fv : FV r F) (gv : GV r G) : (∀ n, n < 384 → F n ≤ 268435456) ∧ ∀ n, n < 384 → G n ≤ 1 := by
  constructor
  · intro n hn
    have := FV_dv fv (dK_4 hn)
    rw [eK_d hn] at this
    omega
  · intro n hn
    have := (gv _ (dK_4 hn)).1
    rwa [eK_d hn] at this
theorem M_useless {x : Int} (x1 : -2147483648 ≤ x) (x2 : x < 2147483648) : MOK k_M_useless [aI (zI x)] (uslA x) id := by
  intro s kk h hk v p
  rw [C_M_useless, E_M_useless_0, calI_e (M_isReader _ h x1 x2), if01]
  unfold uslA
  by_cases a1 : x = 0 ∨ x = 1
  · simp only [if_pos a1]
    have mr := p.mr a1
    obtain ⟨j, hj⟩ : ∃ j : Nat, x = j := ⟨x.toNat, by omega⟩
    subst hj
    have hv := VS_r v j
    obtain ⟨h1, F, G, e1, f1, kh, fv, gv⟩ := M_layKinds 56 (j := j) (by omega) hv p.1 mr
    have p1 := p.1.mf f1
    have mr1 := MR_lk mr f1
    obtain ⟨fb, gb⟩ := FG_b fv gv
    obtain ⟨U, e2, u1, u2⟩ := us_c 57 (by omega) hv p1 mr1 kh gb fb 384 0 0 (by omega) (by omega)
    have hU : U = mkm (fun t => bl (usd (rdr s j) t)) 20 := by
      refine mkm_u u1 (fun t _ => ?_)
      rw [Bool.eq_iff_iff, u2 t, bl_t]
      constructor
      · rintro (q | ⟨n', m, i', -, h2, h3, h4, g1, g2, g3, g4⟩)
        · simp at q
        · have hmi := hv.mi h3
          have k4 : K4 (kn (goC m (dK n') (nA i'))) := kn_4 (show m.2.2.2.2 < 6 from hmi.1.2.2.2.2.2)
          have cb := cBy_t.mp g3
          refine ⟨m, dK n', _, h3, ?_, ⟨cb.1, nA i', (nA_b i').1, cb.2, rfl⟩, ?_⟩
          · refine (gv _ (dK_4 h2)).2.mp ?_
            rw [eK_d h2]; exact g1
          · have := FV_dv fv k4
            omega
      · rintro ⟨m, c, e, q1, q2, q3, q4⟩
        have kc := KV_r hv c q2
        have k4 : K4 c := kc.le
        have hb := k4
        unfold K4 at hb
        obtain ⟨g1, y, y1, y2, y3, y4⟩ := (gst_w (w := 9) (by omega) (by omega) (by omega) (by omega)).mp q3
        obtain ⟨i, hi, hy⟩ := nA_x k4 y1 y2
        have ke : K4 e := (KV_g hv (List.mem_of_getElem? q1) q3).le
        refine Or.inr ⟨eK c, m, i, Nat.zero_le _, eK_lt k4, q1, hi, ?_⟩
        unfold usg
        rw [dK_e k4, hy, ← y4]
        refine ⟨(gv c k4).2.mpr q2, by unfold isN; omega, cBy_t.mpr ⟨g1, y3⟩, ?_⟩
        have := FV_dv fv ke
        omega
    refine ⟨h1, ?_, f1.l, f1.k p⟩
    rw [E_M_useless_2, obj_e (z94 p.1.1), calV_e e1, lt_e, lt_e]
    refine Eq.trans e2 ?_
    rw [E_M_useless_20, obj_e (z94 p1.1), m3 p1]
    simp (disch := omega) only [idx_n (z98 p1.1), mr1.2.2.2.1, hU, zI_back]
    rfl
  · simp only [if_neg a1]
    exact ⟨h, by rw [E_M_useless_1], mfr.rf _ h, p.up⟩
