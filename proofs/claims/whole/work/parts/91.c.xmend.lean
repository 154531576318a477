/-! X: Mender: survey, come, spread -/
def NoG (w : Rw) : Prop := ∀ p, p ∈ w → p.1 ≠ -1 ∧ p.2 ≠ -1
theorem NoG_0 {w : Rw} (h : gaps w = 0) : NoG w := by
  intro p hp
  have h1 := (sm0 w).mp h p hp
  unfold gp1 at h1
  constructor
  · intro q; rw [if_pos q] at h1; omega
  · intro q; rw [if_pos q] at h1; omega
theorem NoG_t {w : Rw} (hw : WV w) (hg : NoG w) {k : Nat} (hk : k < w.length) : ∃ p, w[k]? = some p ∧ p.1 = ((tg w k).1 : Nat) ∧ idn w p.2 = (tg w k).2 ∧ (tg w k).2 ≠ 0 ∧ (tg w k).1 < 3 := by
  have hp : w[k]? = some w[k] := List.getElem?_eq_getElem hk
  have hm : w[k] ∈ w := List.getElem_mem hk
  have h1 := hg _ hm
  have h2 := hw.2 _ hm
  rw [tg_e hp]
  exact ⟨_, hp, by show _ = ((w[k].1.toNat : Nat) : Int); omega, rfl, idn_pos hp h1.2, by show w[k].1.toNat < 3; omega⟩
theorem Rd_hasTest (d : Nat) {h : AH} {a : Nat} {r : Rdr} (p : RD h a r) {l lo hi : Nat} (hl : l < 100) (hlo : lo < 100) (hhi : hi < 100) : Cc (d + 2) k_Rd_hasTest [aR (some a), aI (zI l), aI (zI lo), aI (zI hi)] h = some (some (aI (zI (if bl (∃ m, m ∈ r.2.2.2 ∧ m.2.1 = l ∧ lo ≤ m.2.2.1 ∧ m.2.2.1 ≤ hi) = true then 1 else 0))), h) := by
  have hl20 := p.1.2.2.2.2.1
  have lp : ∀ (n i : Nat), i + n = r.2.2.2.length → Rk B_Rd_hasTest L_Rd_hasTest (Cc (d + 1)) 1 [aR (some a), aI (zI l), aI (zI lo), aI (zI hi), aI (zI i)] [] h = some (some (aI (zI (if bl (∃ (i' : Nat) (m : Mv), i ≤ i' ∧ r.2.2.2[i']? = some m ∧ m.2.1 = l ∧ lo ≤ m.2.2.1 ∧ m.2.2.1 ≤ hi) = true then 1 else 0))), h) := by
    intro n
    induction n with
    | zero =>
      intro i hi'
      rw [if_neg (fun q => by obtain ⟨i', m, h1, h2, -⟩ := bl_t.mp q; have := (List.getElem?_eq_some_iff.mp h2).1; omega), E_Rd_hasTest_1, obj_e p.2.1.1, p.2.2.1.2.2.2.1]
      simp (disch := omega) only [nlt]
      rw [if_neg (by omega), E_Rd_hasTest_7, fr0]
    | succ n ih =>
      intro i hi'
      have hm : r.2.2.2[i]? = some r.2.2.2[i] := List.getElem?_eq_getElem (by omega)
      have hmv := (p.1.mi hm).1
      unfold MV at hmv
      have no : ¬ (r.2.2.2[i].2.1 = l ∧ lo ≤ r.2.2.2[i].2.2.1 ∧ r.2.2.2[i].2.2.1 ≤ hi) → Rk B_Rd_hasTest L_Rd_hasTest (Cc (d + 1)) 6 [aR (some a), aI (zI l), aI (zI lo), aI (zI hi), aI (zI i)] [] h = some (some (aI (zI (if bl (∃ (i' : Nat) (m : Mv), i ≤ i' ∧ r.2.2.2[i']? = some m ∧ m.2.1 = l ∧ lo ≤ m.2.2.1 ∧ m.2.2.1 ≤ hi) = true then 1 else 0))), h) := by
        intro hno
        rw [E_Rd_hasTest_6, nadd1, lt_e, ih (i + 1) (by omega)]
        have : (∃ (i' : Nat) (m : Mv), i + 1 ≤ i' ∧ r.2.2.2[i']? = some m ∧ m.2.1 = l ∧ lo ≤ m.2.2.1 ∧ m.2.2.1 ≤ hi) ↔ (∃ (i' : Nat) (m : Mv), i ≤ i' ∧ r.2.2.2[i']? = some m ∧ m.2.1 = l ∧ lo ≤ m.2.2.1 ∧ m.2.2.1 ≤ hi) := by
          constructor
          · rintro ⟨i', m, h1, h2⟩; exact ⟨i', m, by omega, h2⟩
          · rintro ⟨i', m, h1, h2, h3⟩
            by_cases w : i' = i
            · subst w
              rw [hm] at h2
              cases h2
              exact absurd h3 hno
            · exact ⟨i', m, by omega, h2, h3⟩
        rw [bl_c this]
      rw [E_Rd_hasTest_1, obj_e p.2.1.1, p.2.2.1.2.2.2.1]
      simp (disch := omega) only [nlt]
      have p1 := Rd_part d p hm (k := 1) (by omega)
      have p2 := Rd_part d p hm (k := 2) (by omega)
      rw [if_pos (by omega), E_Rd_hasTest_2, obj_e p.2.1.1, zc1, calI_e p1, show prt r.2.2.2[i] 1 = ((r.2.2.2[i].2.1 : Nat) : Int) from rfl]
      simp (disch := omega) only [neq]
      by_cases z1 : r.2.2.2[i].2.1 = l
      · rw [if_pos z1, E_Rd_hasTest_3, obj_e p.2.1.1, show zI 2 = zI ((2 : Nat) : Int) from rfl, calI_e p2, show prt r.2.2.2[i] 2 = ((r.2.2.2[i].2.2.1 : Nat) : Int) from rfl]
        simp (disch := omega) only [nlt]
        by_cases z2 : r.2.2.2[i].2.2.1 < lo
        · rw [if_pos z2]; exact no (fun q => by omega)
        · rw [if_neg z2, E_Rd_hasTest_4, obj_e p.2.1.1, show zI 2 = zI ((2 : Nat) : Int) from rfl, calI_e p2, show prt r.2.2.2[i] 2 = ((r.2.2.2[i].2.2.1 : Nat) : Int) from rfl]
          simp (disch := omega) only [nle]
          by_cases z3 : r.2.2.2[i].2.2.1 ≤ hi
          · rw [if_pos z3, E_Rd_hasTest_5, fr1, if_pos (bl_t.mpr ⟨i, _, Nat.le_refl _, hm, z1, by omega, z3⟩)]
          · rw [if_neg z3]; exact no (fun q => by omega)
      · rw [if_neg z1]; exact no (fun q => z1 q.1)
  rw [C_Rd_hasTest, E_Rd_hasTest_0, lt_e, zc0, lp r.2.2.2.length 0 (by omega)]
  have : (∃ (i' : Nat) (m : Mv), 0 ≤ i' ∧ r.2.2.2[i']? = some m ∧ m.2.1 = l ∧ lo ≤ m.2.2.1 ∧ m.2.2.1 ≤ hi) ↔ (∃ m, m ∈ r.2.2.2 ∧ m.2.1 = l ∧ lo ≤ m.2.2.1 ∧ m.2.2.1 ≤ hi) := by
    constructor
    · rintro ⟨i', m, -, h2, h3⟩; exact ⟨m, List.mem_of_getElem? h2, h3⟩
    · rintro ⟨m, h2, h3⟩
      obtain ⟨i', hi'⟩ := List.getElem?_of_mem h2
      exact ⟨i', m, Nat.zero_le _, hi', h3⟩
  rw [bl_c this]
/-- a mask that tells a set of numbers below 16 -/
def MSK (v : Int32) (P : Nat → Prop) : Prop := ∃ M : Nat, M < 65536 ∧ v = zI (M : Int) ∧ ∀ n, n < 16 → (M.testBit n = true ↔ P n)
theorem MSK_or {v : Int32} {P Q : Nat → Prop} {d : Nat} (h : MSK v P) (hd : d < 16) (hQ : ∀ n, Q n ↔ P n ∨ n = d) : MSK (v ||| (zI 1 <<< (zI (d : Int) &&& 31))) Q := by
  obtain ⟨M, h1, rfl, h3⟩ := h
  have h2 : 2 ^ d < 2 ^ 16 := Nat.pow_lt_pow_right (by omega) hd
  have h216 : (2 : Nat) ^ 16 = 65536 := by decide
  refine ⟨M ||| 2 ^ d, by have := Nat.or_lt_two_pow (n := 16) (x := M) (y := 2 ^ d) (by omega) h2; omega, ?_, fun n hn => ?_⟩
  · rw [zc1, zI_shl (by omega), Nat.one_mul, zI_or (by omega) (by omega)]
  · rw [Nat.testBit_or, Bool.or_eq_true, h3 n hn, Nat.testBit_two_pow, hQ n]
    simp only [decide_eq_true_eq]
    constructor
    · rintro (q | q)
      · exact Or.inl q
      · exact Or.inr q.symm
    · rintro (q | q)
      · exact Or.inl q
      · exact Or.inr q.symm
theorem MSK_or0 {v : Int32} {P Q : Nat → Prop} (h : MSK v P) (hQ : ∀ n, Q n ↔ P n) : MSK (v ||| zI 0) Q := by
  obtain ⟨M, h1, rfl, h3⟩ := h
  refine ⟨M, h1, by rw [zc0, zI_or (by omega) (by omega), Nat.or_zero], fun n hn => by rw [h3 n hn, hQ n]⟩
theorem MSK_AL {v : Int32} {P : Nat → Prop} (h : MSK v P) : AL v (fun n => bl (P n)) := by
  obtain ⟨M, h1, rfl, h3⟩ := h
  refine Or.inr ⟨M, h1, rfl, fun n hn => ?_⟩
  rw [Bool.eq_iff_iff, bl_t, ← h3 n hn, Nat.testBit_eq_decide_div_mod_eq]
  simp
def SVY (h : AH) (r : Rdr) (w : Rw) (k : Nat) : Prop := ∀ i, k ≤ i → i ≤ w.length → MSK (hI h 75 i) (alvd r w i) ∧ MSK (hI h 76 i) (wtd r w i)
theorem sv_lp (d : Nat) {s : Stt} {ra : Nat} {r : Rdr} (hr : ∀ h, XI s h → RD h ra r) (hg : NoG s.2.2.2) : ∀ (k : Nat) (h : AH), k ≤ s.2.2.2.length → XI s h → SVY h r s.2.2.2 k →
    ∃ h', Rk B_Mn_survey L_Mn_survey (Cc (d + 2)) 1 [aR (some 74), aR (some ra), aR (some 16), aI (zI ((k : Int) - 1)), aU, aU] [] h = some (none, h') ∧ fr (fun b => b = 75 ∨ b = 76) h h' ∧ (∀ a j, hR h' a j = hR h a j) ∧ XI s h' ∧ SVY h' r s.2.2.2 0
  | 0, h, hk, p, sv => by
    refine ⟨h, ?_, fr.rf _ h, fun _ _ => rfl, p, sv⟩
    rw [E_Mn_survey_1, if_pos (by decide), E_Mn_survey_13]
  | k + 1, h, hk, p, sv => by
    have rd := hr h p
    have hw := p.rw.1
    obtain ⟨q, hq, q1, q2, q3, q4⟩ := NoG_t hw hg (k := k) (by omega)
    have hl12 := hw.1
    have hid : idn s.2.2.2 q.2 < 16 := idn16 hw _
    have hL := Rw_letter d p.rw hq
    rw [q1] at hL
    have hI1 := Rw_id (d + 1) p.rw hq
    obtain ⟨m1, m2⟩ := sv (k + 1) (Nat.le_refl _) (by omega)
    have t1 := Rd_hasTest d rd (l := (tg s.2.2.2 k).1) (lo := 0) (hi := 2) (by omega) (by omega) (by omega)
    have t2 := Rd_hasTest d rd (l := (tg s.2.2.2 k).1) (lo := 3) (hi := 3) (by omega) (by omega) (by omega)
    have ea : (∃ m, m ∈ r.2.2.2 ∧ m.2.1 = (tg s.2.2.2 k).1 ∧ 0 ≤ m.2.2.1 ∧ m.2.2.1 ≤ 2) ↔ askd r (tg s.2.2.2 k).1 := by
      constructor
      · rintro ⟨m, a, b, -, c⟩; exact ⟨m, a, b, by omega⟩
      · rintro ⟨m, a, b, c⟩; exact ⟨m, a, b, by omega, by omega⟩
    have eb : (∃ m, m ∈ r.2.2.2 ∧ m.2.1 = (tg s.2.2.2 k).1 ∧ 3 ≤ m.2.2.1 ∧ m.2.2.1 ≤ 3) ∨ askd r (tg s.2.2.2 k).1 ↔ tstd r (tg s.2.2.2 k).1 := by
      constructor
      · rintro (⟨m, a, b, c, d⟩ | ⟨m, a, b, c⟩)
        · exact ⟨m, a, b, by omega⟩
        · exact ⟨m, a, b, by omega⟩
      · rintro ⟨m, a, b, c⟩
        by_cases z : m.2.2.1 = 3
        · exact Or.inl ⟨m, a, b, by omega, by omega⟩
        · exact Or.inr ⟨m, a, b, by omega⟩
    rw [bl_c ea] at t1
    have zk : zI (((k + 1 : Nat) : Int) - 1) = zI (k : Int) := by congr 1; omega
    -- the two masks of this pair
    have fin : ∀ (ask tst : Nat), (ask ≠ 0 ↔ askd r (tg s.2.2.2 k).1) → (tst ≠ 0 ↔ tstd r (tg s.2.2.2 k).1) → ask < 100 → tst < 100 → ∃ h', Rk B_Mn_survey L_Mn_survey (Cc (d + 2)) 6 [aR (some 74), aR (some ra), aR (some 16), aI (zI k), aI (zI ask), aU] [aI (zI tst)] h = some (none, h') ∧ fr (fun b => b = 75 ∨ b = 76) h h' ∧ (∀ a j, hR h' a j = hR h a j) ∧ XI s h' ∧ SVY h' r s.2.2.2 0 := by
      intro ask tst ha ht hab htb
      obtain ⟨A, eA, mA⟩ : ∃ A : Int32, (A = if ask = 0 then zI 0 else zI 1 <<< (zI (idn s.2.2.2 q.2 : Int) &&& 31)) ∧ MSK (hI h 76 (k + 1) ||| A) (wtd r s.2.2.2 k) := by
        by_cases z : ask = 0
        · refine ⟨_, rfl, ?_⟩
          rw [if_pos z]
          refine MSK_or0 m2 (fun n => ⟨?_, wt_s⟩)
          rintro ⟨j, j1, j2, j3, j4⟩
          by_cases y : j = k
          · subst y; exact absurd z (ha.mpr j3)
          · exact ⟨j, by omega, j2, j3, j4⟩
        · refine ⟨_, rfl, ?_⟩
          rw [if_neg z]
          refine MSK_or m2 hid (fun n => ⟨?_, ?_⟩)
          · rintro ⟨j, j1, j2, j3, j4⟩
            by_cases y : j = k
            · subst y; exact Or.inr (by rw [q2, j4])
            · exact Or.inl ⟨j, by omega, j2, j3, j4⟩
          · rintro (y | y)
            · exact wt_s y
            · exact ⟨k, Nat.le_refl _, by omega, ha.mp z, by rw [y, q2]⟩
      obtain ⟨B, eB, mB⟩ : ∃ B : Int32, (B = if tst = 0 then zI 0 else zI 1 <<< (zI (idn s.2.2.2 q.2 : Int) &&& 31)) ∧ MSK (hI h 75 (k + 1) ||| B) (alvd r s.2.2.2 k) := by
        by_cases z : tst = 0
        · refine ⟨_, rfl, ?_⟩
          rw [if_pos z]
          refine MSK_or0 m1 (fun n => ⟨?_, alv_s⟩)
          rintro (y | ⟨j, j1, j2, j3, j4⟩)
          · exact Or.inl y
          · by_cases y : j = k
            · subst y; exact absurd z (ht.mpr j3)
            · exact Or.inr ⟨j, by omega, j2, j3, j4⟩
        · refine ⟨_, rfl, ?_⟩
          rw [if_neg z]
          refine MSK_or m1 hid (fun n => ⟨?_, ?_⟩)
          · rintro (y | ⟨j, j1, j2, j3, j4⟩)
            · exact Or.inl (Or.inl y)
            · by_cases y : j = k
              · subst y; exact Or.inr (by rw [q2, j4])
              · exact Or.inl (Or.inr ⟨j, by omega, j2, j3, j4⟩)
          · rintro (y | y)
            · exact alv_s y
            · exact Or.inr ⟨k, Nat.le_refl _, by omega, ht.mp z, by rw [y, q2]⟩
      have f1 : fr (fun b => b = 75 ∨ b = 76) h (sI h 76 k (hI h 76 (k + 1) ||| A)) := fr_sI (F := fun b => b = 75 ∨ b = 76) h (Or.inr rfl) _ _
      have p1 := XI_sc p f1 (fun b hb => by unfold nI'; omega) (fun _ _ => rfl)
      have f2 : fr (fun b => b = 75 ∨ b = 76) (sI h 76 k (hI h 76 (k + 1) ||| A)) (sI (sI h 76 k (hI h 76 (k + 1) ||| A)) 75 k (hI h 75 (k + 1) ||| B)) := fr_sI (F := fun b => b = 75 ∨ b = 76) _ (Or.inl rfl) _ _
      have p2 := XI_sc p1 f2 (fun b hb => by unfold nI'; omega) (fun _ _ => rfl)
      obtain ⟨h', e, f, g, p', sv'⟩ := sv_lp d hr hg k _ (by omega) p2 (by
        intro i h1 h2
        by_cases y : i = k
        · subst y
          rw [hI_hit, hI_off (by omega), hI_hit]
          exact ⟨mB, mA⟩
        · rw [hI_off (by omega), hI_off (by omega), hI_off (by omega), hI_off (by omega)]
          exact sv i (by omega) h2)
      refine ⟨h', ?_, (f1.tr f2).tr f, fun a j => g a j, p', sv'⟩
      have b9 : Rk B_Mn_survey L_Mn_survey (Cc (d + 2)) 6 [aR (some 74), aR (some ra), aR (some 16), aI (zI k), aI (zI ask), aU] [aI (zI tst)] h = Rk B_Mn_survey L_Mn_survey (Cc (d + 2)) 9 [aR (some 74), aR (some ra), aR (some 16), aI (zI k), aU, aI (zI tst)] [aI A, aI (hI h 76 (k + 1)), aI (zI k), aR (some 76)] h := by
        rw [E_Mn_survey_6, lt_e, obj_e (z74 p.1), obj_e (z74 p.1), p.r (a := 74) (j := 1) (c := 76) (by decide), nadd1]
        simp (disch := omega) only [idx_n (z76 p.1), neq0]
        by_cases z : ask = 0
        · rw [if_pos z] at eA
          rw [if_pos z, E_Mn_survey_8, eA]
        · rw [if_neg z] at eA
          rw [if_neg z, E_Mn_survey_7, obj_e (z16 p.1), calI_e hI1, eA]
      have b12 : Rk B_Mn_survey L_Mn_survey (Cc (d + 2)) 9 [aR (some 74), aR (some ra), aR (some 16), aI (zI k), aU, aI (zI tst)] [aI A, aI (hI h 76 (k + 1)), aI (zI k), aR (some 76)] h = Rk B_Mn_survey L_Mn_survey (Cc (d + 2)) 12 [aR (some 74), aR (some ra), aR (some 16), aI (zI k), aU, aU] [aI B, aI (hI h 75 (k + 1)), aI (zI k), aR (some 75)] (sI h 76 k (hI h 76 (k + 1) ||| A)) := by
        rw [E_Mn_survey_9]
        simp (disch := omega) only [idx_n (z76 p.1), lt_e]
        rw [obj_e (z74 p1.1), obj_e (z74 p1.1), p1.r (a := 74) (j := 0) (c := 75) (by decide), nadd1]
        simp (disch := omega) only [idx_n (z75 p1.1), neq0]
        rw [hI_off (by omega)]
        by_cases z : tst = 0
        · rw [if_pos z] at eB
          rw [if_pos z, E_Mn_survey_11, eB]
        · rw [if_neg z] at eB
          rw [if_neg z, E_Mn_survey_10, obj_e (z16 p1.1), calI_e (Rw_id (d + 1) p1.rw hq), eB]
      rw [b9, b12, E_Mn_survey_12]
      simp (disch := omega) only [idx_n (z75 p1.1), lt_e]
      rw [show zI (k : Int) + zI (-1) = zI ((k : Int) - 1) by rw [zI_add]; rfl]
      exact e
    rw [zk, E_Mn_survey_1]
    simp (disch := omega) only [nlt0, if_false]
    rw [E_Mn_survey_2, obj_e (z16 p.1), calI_e (Rw_letter (d + 1) p.rw hq), q1, obj_e rd.2.1.1, zc0, show zI 2 = zI ((2 : Nat) : Int) from rfl, calI_e t1, lt_e]
    by_cases z : askd r (tg s.2.2.2 k).1
    · rw [if_pos (bl_t.mpr z), if_neg (by decide), E_Mn_survey_4, zc1]
      exact fin 1 1 ⟨fun _ => z, fun _ => by omega⟩ ⟨fun _ => eb.mp (Or.inr z), fun _ => by omega⟩ (by omega) (by omega)
    · rw [if_neg (fun y => z (bl_t.mp y)), if_pos zI_0.symm, E_Mn_survey_3, obj_e (z16 p.1), calI_e (Rw_letter (d + 1) p.rw hq), q1, obj_e rd.2.1.1, zc3, calI_e t2]
      by_cases y : ∃ m, m ∈ r.2.2.2 ∧ m.2.1 = (tg s.2.2.2 k).1 ∧ 3 ≤ m.2.2.1 ∧ m.2.2.1 ≤ 3
      · rw [if_pos (bl_t.mpr y), if_neg (by decide), E_Mn_survey_4, zc1]
        exact fin 0 1 ⟨fun q => by omega, fun q => absurd q z⟩ ⟨fun _ => eb.mp (Or.inl y), fun _ => by omega⟩ (by omega) (by omega)
      · rw [if_neg (fun q => y (bl_t.mp q)), if_pos zI_0.symm, E_Mn_survey_5, zc0]
        exact fin 0 0 ⟨fun q => by omega, fun q => absurd q z⟩ ⟨fun q => by omega, fun q => absurd (eb.mpr q) (by rintro (w | w); exact y w; exact z w)⟩ (by omega) (by omega)
