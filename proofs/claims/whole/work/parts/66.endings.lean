/-! ShapeSearch: endings -/
def allT : Nat → Bool := fun _ => true
theorem stl_all (c : Cfg) : stl allT 0 c = c := by unfold stl allT; simp
theorem rq_le {r : Rdr} {n : Nat} : ∀ (u : List (Nat × Nat)) (c : Cfg), (∀ p, p ∈ u → p.2 ≤ n) → rq r u c → ∀ t, rg c t ≤ n
  | [], c, hu, h, t => by
    rw [show c = c0 from h]; unfold rg c0; split; exact Nat.zero_le _; split <;> exact Nat.zero_le _
  | p :: u, c, hu, ⟨c1, h1, ⟨i, m, a1, a2, a3, a4⟩⟩, t => by
    have ih := rq_le u c1 (fun q hq => hu q (List.mem_cons_of_mem _ hq)) h1
    have i0 := ih 0
    have i1 := ih 1
    have i2 := ih 2
    have hp := hu p List.mem_cons_self
    unfold stp at a4
    split at a4
    · cases a4
      unfold rg at i0 i1 i2
      simp at i0 i1 i2
      unfold rg goC
      simp only
      split
      · split <;> omega
      · split
        · split <;> omega
        · split <;> omega
    · cases a4
theorem Ss_bitOf (d : Nat) (h : AH) {c : Cfg} (hc : CV c) {t : Nat} (ht : t < 3) : Cc (d + 1) k_Ss_bitOf [aI (zI (eX c)), aI (zI t)] h = some (some (aI (zI ((2 ^ rg c t / 2 : Nat) : Int))), h) := by
  have := eX_lt hc
  have h2 : eX c / 2 ^ (4 * t) ≤ eX c := Nat.div_le_self _ _
  have hr := rg_lt hc t
  have hp : 2 ^ rg c t < 2 ^ 16 := Nat.pow_lt_pow_right (by omega) hr
  rw [C_Ss_bitOf, E_Ss_bitOf_0]
  simp (disch := omega) only [shl2, nshr, and15, eX_t hc ht]
  rw [show zI 1 <<< (zI ((rg c t : Nat) : Int) &&& 31) = zI ((1 * 2 ^ rg c t : Nat) : Int) from nshl (n := 1) (by omega), Nat.one_mul, show zI ((2 ^ rg c t : Nat) : Int) >>> (zI 1 &&& 31) = zI ((2 ^ rg c t / 2 ^ 1 : Nat) : Int) from nshr (k := 1) (Nat.lt_of_lt_of_le hp (by decide)) (by omega), Nat.pow_one]
theorem bO_t (v n : Nat) : (2 ^ v / 2).testBit n = decide (v = n + 1) := by
  cases v with
  | zero => simp
  | succ v => rw [Nat.pow_succ, Nat.mul_div_cancel _ (by omega), Nat.testBit_two_pow]; apply decide_eq_decide.mpr; omega
theorem bO_lt {v k : Nat} (h : v ≤ k) : 2 ^ v / 2 ≤ 2 ^ k / 2 := Nat.div_le_div_right (Nat.pow_le_pow_right (by omega) h)
theorem Ss_namesFor (d : Nat) (h : AH) {c : Cfg} (hc : CV c) {m : Mv} (hm : MV m) {used : Nat} (hu : used ≤ 5) (hr : ∀ t, rg c t ≤ used) : ∃ N : Nat, Cc (d + 2) k_Ss_namesFor [aI (zI m.2.2.1), aI (zI (eX c)), aI (zI ((2 ^ (used + 1) - 1 : Nat) : Int))] h = some (some (aI (zI N)), h) ∧ N < 256 ∧ ∀ n, N.testBit n = (decide (n ≤ used) && fits m c (n + 1)) := by
  have hm' := hm
  unfold MV at hm'
  have p6 : 2 ^ (used + 1) ≤ 2 ^ 6 := Nat.pow_le_pow_right (by omega) (by omega)
  have hall : ∀ n, (2 ^ (used + 1) - 1).testBit n = decide (n ≤ used) := by
    intro n; rw [Nat.testBit_two_pow_sub_one]; apply decide_eq_decide.mpr; omega
  have bb : ∀ t, 2 ^ rg c t / 2 < 64 := by
    intro t
    have := bO_lt (Nat.le_trans (hr t) hu)
    rw [show 2 ^ 5 / 2 = 16 from rfl] at this
    omega
  rw [C_Ss_namesFor, E_Ss_namesFor_0, zc4]
  simp (disch := omega) only [neq]
  unfold fits
  by_cases t4 : m.2.2.1 = 4
  · refine ⟨2 ^ (used + 1) - 1, by rw [if_pos t4, E_Ss_namesFor_1], by omega, fun n => ?_⟩
    rw [hall n]; simp [t4]
  · rw [if_neg t4, E_Ss_namesFor_2, zc3]
    simp (disch := omega) only [neq]
    by_cases t3 : m.2.2.1 = 3
    · rw [if_pos t3, E_Ss_namesFor_3]
      have c0' := Ss_bitOf d h hc (t := 0) (by omega)
      have c1' := Ss_bitOf d h hc (t := 1) (by omega)
      have c2' := Ss_bitOf d h hc (t := 2) (by omega)
      have b0 := bb 0
      have b1 := bb 1
      have b2 := bb 2
      have o1 : 2 ^ rg c 0 / 2 ||| 2 ^ rg c 1 / 2 < 2 ^ 6 := Nat.or_lt_two_pow b0 b1
      have o2 : 2 ^ rg c 0 / 2 ||| 2 ^ rg c 1 / 2 ||| 2 ^ rg c 2 / 2 < 2 ^ 6 := Nat.or_lt_two_pow o1 b2
      obtain ⟨N, n1, n2, n3⟩ := zI_andn (a := 2 ^ (used + 1) - 1) (b := 2 ^ rg c 0 / 2 ||| 2 ^ rg c 1 / 2 ||| 2 ^ rg c 2 / 2) (by omega) (by omega)
      refine ⟨N, ?_, by omega, fun n => ?_⟩
      · rw [calI_e (show Cc (d + 1) k_Ss_bitOf [aI (zI (eX c)), aI (zI 0)] h = _ from c0'), calI_e (show Cc (d + 1) k_Ss_bitOf [aI (zI (eX c)), aI (zI 1)] h = _ from c1'), calI_e (show Cc (d + 1) k_Ss_bitOf [aI (zI (eX c)), aI (zI 2)] h = _ from c2'), zI_or (by omega) (by omega), zI_or (by omega) (by omega), n2]
      · rw [n3 n, hall n, Nat.testBit_or, Nat.testBit_or, bO_t, bO_t, bO_t, if_pos t3]
        unfold rg
        simp only [if_true, show ¬ (1 = 0) by omega, if_false, show ¬ (2 = 0) by omega, show ¬ (2 = 1) by omega]
        have e : ∀ a : Nat, (a != n + 1) = !decide (a = n + 1) := by
          intro a; by_cases z : a = n + 1
          · simp [z]
          · simp [z]
        rw [e, e, e]
        cases decide (c.2.1 = n + 1) <;> cases decide (c.2.2.1 = n + 1) <;> cases decide (c.2.2.2 = n + 1) <;> simp
    · rw [if_neg t3, E_Ss_namesFor_4, calI_e (Ss_bitOf d h hc (by omega))]
      refine ⟨_, rfl, by have := bb m.2.2.1; omega, fun n => ?_⟩
      rw [bO_t, if_neg t3, if_neg t4]
      have := hr m.2.2.1
      by_cases z : rg c m.2.2.1 = n + 1
      · rw [show (rg c m.2.2.1 == n + 1) = true from beq_iff_eq.mpr z]; simp [z]; omega
      · rw [show (rg c m.2.2.1 == n + 1) = false from beq_eq_false_iff_ne.mpr z]; simp [z]
/-- names by a letter: where their bits stand -/
theorem shb {B N lt : Nat} (hB : B < 16777216) (hN : N < 256) (hl : lt < 3) : ∃ C : Nat, C < 16777216 ∧ zI (B : Int) ||| (zI (N : Int) <<< ((zI (lt : Int) * zI 8) &&& 31)) = zI (C : Int) ∧ ∀ b, C.testBit b = (B.testBit b || (b / 8 == lt && N.testBit (b % 8))) := by
  have hp : N * 2 ^ (lt * 8) < 2 ^ 24 := by
    have h1 : 2 ^ (lt * 8) ≤ 2 ^ 16 := Nat.pow_le_pow_right (by omega) (by omega)
    have h2 : N * 2 ^ (lt * 8) ≤ 255 * 2 ^ 16 := Nat.mul_le_mul (by omega) h1
    omega
  have ho : B ||| N * 2 ^ (lt * 8) < 2 ^ 24 := Nat.or_lt_two_pow (show B < 2 ^ 24 from hB) hp
  refine ⟨B ||| N * 2 ^ (lt * 8), ho, ?_, fun b => ?_⟩
  · rw [show zI (lt : Int) * zI 8 = zI ((lt * 8 : Nat) : Int) from zI_mul _ _, nshl (by omega), zI_or (by omega) (by omega)]
  · rw [Nat.testBit_or, Nat.testBit_mul_two_pow]
    congr 1
    by_cases z : b / 8 = lt
    · rw [show (b / 8 == lt) = true from beq_iff_eq.mpr z, Bool.true_and, show b - lt * 8 = b % 8 by omega]
      simp; intro _; omega
    · rw [show (b / 8 == lt) = false from beq_eq_false_iff_ne.mpr z, Bool.false_and]
      by_cases y : lt * 8 ≤ b
      · rw [Nat.testBit_lt_two_pow (Nat.lt_of_lt_of_le (show N < 2 ^ 8 from hN) (Nat.pow_le_pow_right (by omega) (by omega)))]; simp
      · simp [y]
/-- a last pair with which the row is taken -/
def lastB (r : Rdr) (c : Cfg) (b : Nat) : Prop := ∃ m, m ∈ r.2.2.2 ∧ canB m c (b / 8) (b % 8 + 1) = true ∧ tks r m.2.2.2.2 = true
def vld (l used b : Nat) : Prop := b / 8 < l ∧ b % 8 ≤ used
theorem end_in (d : Nat) {a lt used l : Nat} {sp : Option Nat} {ev x8 : Int32} {r : Rdr} {c : Cfg} {h : AH} (hS : h.1 = SHP) (rd : RD h a r) (hl : lt < 3) (hu : used ≤ 5) (hc : CV c) (hr : ∀ t, rg c t ≤ used) : ∀ (n j B : Nat), j + n = (bk r.2.2.2 (c.1 * 3 + lt)).length → B < 16777216 → ∃ B' : Nat, Rk B_Ss_endings L_Ss_endings (Cc (d + 2)) 10 [aR (some 77), aR (some a), aR sp, aU, aI (zI ((2 ^ (used + 1) - 1 : Nat) : Int)), aI ev, aI (zI B), aI (zI (eX c)), aI x8, aI (zI lt), aI (zI (bg r.2.2.2 (c.1 * 3 + lt + 1))), aI (zI ((bg r.2.2.2 (c.1 * 3 + lt) + j : Nat) : Int)), aU] [] h = Rk B_Ss_endings L_Ss_endings (Cc (d + 2)) 14 [aR (some 77), aR (some a), aR sp, aU, aI (zI ((2 ^ (used + 1) - 1 : Nat) : Int)), aI ev, aI (zI B'), aI (zI (eX c)), aI x8, aI (zI lt), aU, aU, aU] [] h ∧ B' < 16777216 ∧ ∀ b, B'.testBit b = true ↔ B.testBit b = true ∨ (b / 8 = lt ∧ b % 8 ≤ used ∧ ∃ (k i : Nat) (m : Mv), j ≤ k ∧ (bk r.2.2.2 (c.1 * 3 + lt))[k]? = some i ∧ r.2.2.2[i]? = some m ∧ fits m c (b % 8 + 1) = true ∧ tks r m.2.2.2.2 = true) := by
  have hc1 : c.1 < 6 := hc.1
  have h1 : bg r.2.2.2 (c.1 * 3 + lt + 1) ≤ 20 := Nat.le_trans (bg_le _ _) rd.1.2.2.2.2.1
  have h2 := h1
  rw [bg] at h2
  intro n
  induction n with
  | zero =>
    intro j B hn hB
    refine ⟨B, ?_, hB, fun b => ⟨Or.inl, ?_⟩⟩
    · rw [E_Ss_endings_10, bg]
      simp (disch := omega) only [nlt]
      rw [if_neg (by omega)]
    · rintro (h | ⟨-, -, k, i, m, k1, k2, -⟩)
      · exact h
      · have := (List.getElem?_eq_some_iff.mp k2).1; omega
  | succ n ih =>
    intro j B hn hB
    have hk : (bk r.2.2.2 (c.1 * 3 + lt))[j]? = some (bk r.2.2.2 (c.1 * 3 + lt))[j] := List.getElem?_eq_getElem (by omega)
    obtain ⟨m, hm, km⟩ := bk_mem hk
    have hmv := (rd.1.mi hm).1
    have e10 : Rk B_Ss_endings L_Ss_endings (Cc (d + 2)) 10 [aR (some 77), aR (some a), aR sp, aU, aI (zI ((2 ^ (used + 1) - 1 : Nat) : Int)), aI ev, aI (zI B), aI (zI (eX c)), aI x8, aI (zI lt), aI (zI (bg r.2.2.2 (c.1 * 3 + lt + 1))), aI (zI ((bg r.2.2.2 (c.1 * 3 + lt) + j : Nat) : Int)), aU] [] h = Rk B_Ss_endings L_Ss_endings (Cc (d + 2)) 11 [aR (some 77), aR (some a), aR sp, aU, aI (zI ((2 ^ (used + 1) - 1 : Nat) : Int)), aI ev, aI (zI B), aI (zI (eX c)), aI x8, aI (zI lt), aI (zI (bg r.2.2.2 (c.1 * 3 + lt + 1))), aI (zI ((bg r.2.2.2 (c.1 * 3 + lt) + j : Nat) : Int)), aU] [] h := by
      rw [E_Ss_endings_10, bg]
      simp (disch := omega) only [nlt]
      rw [if_pos (by omega)]
    rw [e10, E_Ss_endings_11, obj_e rd.2.1.1, calI_e (Rd_moveAt _ rd (by omega) hk), lt_e, obj_e rd.2.1.1, calI_e (Rd_takesBehind _ rd hm), if01]
    cases y : tks r m.2.2.2.2 with
    | true =>
      obtain ⟨N, n1, n2, n3⟩ := Ss_namesFor d h hc hmv hu hr
      obtain ⟨C, c1, c2, c3⟩ := shb hB n2 hl
      obtain ⟨B', e, b1, b2⟩ := ih (j + 1) C (by omega) c1
      refine ⟨B', ?_, b1, fun b => ?_⟩
      · rw [if_pos rfl, E_Ss_endings_12, obj_e rd.2.1.1, calI_e (Rd_p2 _ rd hm), calI_e n1, lt_e, c2, E_Ss_endings_13, lt_e, nadd1]
        exact e
      · rw [b2 b, c3 b, Bool.or_eq_true, Bool.and_eq_true, beq_iff_eq, n3, Bool.and_eq_true, decide_eq_true_eq]
        constructor
        · rintro ((h | ⟨k1, k2, k3⟩) | ⟨k1, k2, k, i, m', k3, k4⟩)
          · exact Or.inl h
          · exact Or.inr ⟨k1, k2, j, _, m, Nat.le_refl _, hk, hm, k3, y⟩
          · exact Or.inr ⟨k1, k2, k, i, m', by omega, k4⟩
        · rintro (h | ⟨k1, k2, k, i, m', k3, k4, k5, k6, k7⟩)
          · exact Or.inl (Or.inl h)
          · by_cases z : k = j
            · subst z
              rw [hk] at k4
              cases k4
              rw [hm] at k5
              cases k5
              exact Or.inl (Or.inr ⟨k1, k2, k6⟩)
            · exact Or.inr ⟨k1, k2, k, i, m', by omega, k4, k5, k6, k7⟩
    | false =>
      obtain ⟨B', e, b1, b2⟩ := ih (j + 1) B (by omega) hB
      refine ⟨B', ?_, b1, fun b => ?_⟩
      · rw [if_neg (by simp), E_Ss_endings_13, lt_e, nadd1]; exact e
      · rw [b2 b]
        constructor
        · rintro (h | ⟨k1, k2, k, i, m', k3, k4⟩)
          · exact Or.inl h
          · exact Or.inr ⟨k1, k2, k, i, m', by omega, k4⟩
        · rintro (h | ⟨k1, k2, k, i, m', k3, k4, k5, k6, k7⟩)
          · exact Or.inl h
          · by_cases z : k = j
            · subst z
              rw [hk] at k4
              cases k4
              rw [hm] at k5
              cases k5
              rw [y] at k7
              cases k7
            · exact Or.inr ⟨k1, k2, k, i, m', by omega, k4, k5, k6, k7⟩
