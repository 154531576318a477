/-! ShapeSearch: endings, its loops -/
theorem lastB_iff {r : Rdr} (hv : RV r) {c : Cfg} {b lt : Nat} (hl : lt < 3) (hb : b / 8 = lt) : (∃ (k i : Nat) (m : Mv), 0 ≤ k ∧ (bk r.2.2.2 (c.1 * 3 + lt))[k]? = some i ∧ r.2.2.2[i]? = some m ∧ fits m c (b % 8 + 1) = true ∧ tks r m.2.2.2.2 = true) ↔ lastB r c b := by
  unfold lastB canB
  constructor
  · rintro ⟨k, i, m, -, h2, h3, h4, h5⟩
    obtain ⟨m', hm', km⟩ := bk_iff.mp ⟨k, h2⟩
    rw [h3] at hm'
    cases hm'
    have hmv := (hv.mi h3).1
    have := (key_iff hmv.2.1 hl).mp km
    exact ⟨m, List.mem_of_getElem? h3, by rw [this.1, this.2, h4, hb]; simp, h5⟩
  · rintro ⟨m, h1, h2, h3⟩
    obtain ⟨i, hi⟩ := List.getElem?_of_mem h1
    rw [Bool.and_eq_true, Bool.and_eq_true, beq_iff_eq, beq_iff_eq, hb] at h2
    have hmv := (hv.mi hi).1
    obtain ⟨k, hk⟩ := bk_iff.mpr ⟨m, hi, (key_iff hmv.2.1 hl).mpr ⟨h2.1, h2.2.1⟩⟩
    exact ⟨k, i, m, Nat.zero_le _, hk, hi, h2.2.2, h3⟩
theorem end_lt (d : Nat) {a used l : Nat} {sp : Option Nat} {ev x8 : Int32} {r : Rdr} {c : Cfg} {h : AH} (hS : h.1 = SHP) (rd : RD h a r) (hL : hI h 77 5 = zI l) (hl : l ≤ 3) (hu : used ≤ 5) (hc : CV c) (hr : ∀ t, rg c t ≤ used) : ∀ (n lt B : Nat), lt + n = l → B < 16777216 → ∃ B' : Nat, Rk B_Ss_endings L_Ss_endings (Cc (d + 2)) 8 [aR (some 77), aR (some a), aR sp, aU, aI (zI ((2 ^ (used + 1) - 1 : Nat) : Int)), aI ev, aI (zI B), aI (zI (eX c)), aI x8, aI (zI lt), aU, aU, aU] [] h = Rk B_Ss_endings L_Ss_endings (Cc (d + 2)) 15 [aR (some 77), aR (some a), aR sp, aU, aI (zI ((2 ^ (used + 1) - 1 : Nat) : Int)), aI ev, aI (zI B'), aI (zI (eX c)), aI x8, aU, aU, aU, aU] [] h ∧ B' < 16777216 ∧ ∀ b, B'.testBit b = true ↔ B.testBit b = true ∨ (lt ≤ b / 8 ∧ vld l used b ∧ lastB r c b) := by
  have hc1 : c.1 < 6 := hc.1
  intro n
  induction n with
  | zero =>
    intro lt B hn hB
    refine ⟨B, ?_, hB, fun b => ⟨Or.inl, ?_⟩⟩
    · rw [E_Ss_endings_8, obj_e (z77 hS), hL]
      simp (disch := omega) only [nlt]
      rw [if_neg (by omega)]
    · rintro (h | ⟨h1, ⟨h2, -⟩, -⟩)
      · exact h
      · omega
  | succ n ih =>
    intro lt B hn hB
    obtain ⟨B1, e1, b1, g1⟩ := end_in d (l := l) (ev := ev) (x8 := x8) (sp := sp) hS rd (lt := lt) (by omega) hu hc hr (bk r.2.2.2 (c.1 * 3 + lt)).length 0 B (Nat.zero_add _) hB
    obtain ⟨B2, e2, b2, g2⟩ := ih (lt + 1) B1 (by omega) b1
    refine ⟨B2, ?_, b2, fun b => ?_⟩
    · rw [E_Ss_endings_8, obj_e (z77 hS), hL]
      simp (disch := omega) only [nlt]
      rw [if_pos (by omega), E_Ss_endings_9, obj_e rd.2.1.1, calI_e (Rd_end _ rd (eX_lt hc) (by omega)), lt_e, obj_e rd.2.1.1, calI_e (Rd_begin _ rd (eX_lt hc) (by omega)), lt_e, eX_q hc]
      refine Eq.trans e1 ?_
      rw [E_Ss_endings_14, lt_e, nadd1]
      exact e2
    · rw [g2 b, g1 b]
      unfold vld
      constructor
      · rintro ((k | ⟨k1, k2, k3⟩) | ⟨k1, k2⟩)
        · exact Or.inl k
        · exact Or.inr ⟨by omega, ⟨by omega, k2⟩, (lastB_iff rd.1 (by omega) k1).mp k3⟩
        · exact Or.inr ⟨by omega, k2⟩
      · rintro (k | ⟨k1, k2, k3⟩)
        · exact Or.inl (Or.inl k)
        · by_cases z : b / 8 = lt
          · exact Or.inl (Or.inr ⟨z, k2.2, (lastB_iff rd.1 (by omega) z).mpr k3⟩)
          · exact Or.inr ⟨by omega, k2, k3⟩
theorem end_sp (d : Nat) {a sp used l E : Nat} {S : Nat → Bool} {r : Rdr} {h : AH} (hS : h.1 = SHP) (rd : RD h a r) (pS : SP h sp 24576 S) (hL : hI h 77 5 = zI l) (hl : l ≤ 3) (hu : used ≤ 5) (hE : E < 16777216) (gE : ∀ b, E.testBit b = true ↔ vld l used b) (hr : ∀ s, S s = true → ∃ c, CV c ∧ (∀ t, rg c t ≤ used) ∧ s = eX c) : ∀ (n f B : Nat), (els S 24576 f).length = n → B < 16777216 → (∀ b, B.testBit b = true → vld l used b) → ∃ B' : Nat, Rk B_Ss_endings L_Ss_endings (Cc (d + 3)) 4 [aR (some 77), aR (some a), aR (some sp), aU, aI (zI ((2 ^ (used + 1) - 1 : Nat) : Int)), aI (zI E), aI (zI B), aI (zI (hd (els S 24576 f))), aI (zI n), aU, aU, aU, aU] [] h = some (some (aI (zI B')), h) ∧ B' < 16777216 ∧ ∀ b, B'.testBit b = true ↔ B.testBit b = true ∨ (vld l used b ∧ ∃ c, CV c ∧ f ≤ eX c ∧ S (eX c) = true ∧ lastB r c b) := by
  intro n
  induction n with
  | zero =>
    intro f B hn hB hV
    refine ⟨B, ?_, hB, fun b => ⟨Or.inl, ?_⟩⟩
    · rw [E_Ss_endings_4, if_pos (by decide), E_Ss_endings_16]
    · rintro (h | ⟨-, c, h1, h2, h3, -⟩)
      · exact h
      · have : eX c ∈ els S 24576 f := els_mem.mpr ⟨h2, eX_lt h1, h3⟩
        rw [List.eq_nil_of_length_eq_zero hn] at this
        simp at this
  | succ n ih =>
    intro f B hn hB hV
    match hels : els S 24576 f, hn with
    | u :: rest, hn =>
      obtain ⟨u1, u2, u3, u4⟩ := els_head hels
      have hn2 : n ≤ 24576 := by
        have h1 : (els S 24576 f).length ≤ 24576 - f := by unfold els; exact Nat.le_trans (List.length_filter_le _ _) (by simp)
        rw [hels] at h1
        rw [hn] at h1
        omega
      obtain ⟨c, hc, hrc, ec⟩ := hr u u3
      have hr1 : (els S 24576 (u + 1)).length = n := by rw [← u4]; simpa using hn
      by_cases z : B = E
      · refine ⟨B, ?_, hB, fun b => ⟨Or.inl, ?_⟩⟩
        · rw [E_Ss_endings_4]
          simp (disch := omega) only [nle0]
          rw [if_neg (by omega), E_Ss_endings_5, show hd (u :: rest) = ((u : Nat) : Int) from rfl]
          simp (disch := omega) only [nlt0, if_false]
          rw [E_Ss_endings_6, if_pos (by rw [z]), E_Ss_endings_16]
        · rintro (h | ⟨h, -⟩)
          · exact h
          · rw [z]; exact (gE b).mpr h
      · obtain ⟨B1, e1, b1, g1⟩ := end_lt (d + 1) (sp := some sp) (ev := zI E) (x8 := zI ((n + 1 : Nat) : Int)) hS rd hL hl hu hc hrc l 0 B (Nat.zero_add _) hB
        have hV1 : ∀ b, B1.testBit b = true → vld l used b := by
          intro b hb
          rcases (g1 b).mp hb with k | ⟨-, k, -⟩
          · exact hV b k
          · exact k
        obtain ⟨B2, e2, b2, g2⟩ := ih (u + 1) B1 hr1 b1 hV1
        refine ⟨B2, ?_, b2, fun b => ?_⟩
        · rw [E_Ss_endings_4]
          simp (disch := omega) only [nle0]
          rw [if_neg (by omega), E_Ss_endings_5, show hd (u :: rest) = ((u : Nat) : Int) from rfl]
          simp (disch := omega) only [nlt0, if_false]
          rw [E_Ss_endings_6]
          simp (disch := omega) only [neq]
          rw [if_neg z, E_Ss_endings_7, lt_e, zc0, ec]
          refine Eq.trans e1 ?_
          rw [E_Ss_endings_15, obj_e pS.1.1, nadd1, ← ec, calI_e (Sp_next _ pS (by omega)), lt_e, lt_e, ndec (by omega), Nat.add_sub_cancel]
          exact e2
        · rw [g2 b, g1 b]
          constructor
          · rintro ((k | ⟨-, k2, k3⟩) | ⟨k1, c', k2, k3, k4⟩)
            · exact Or.inl k
            · exact Or.inr ⟨k2, c, hc, by omega, by rw [← ec]; exact u3, k3⟩
            · exact Or.inr ⟨k1, c', k2, by omega, k4⟩
          · rintro (k | ⟨k1, c', k2, k3, k4, k5⟩)
            · exact Or.inl (Or.inl k)
            · by_cases y : eX c' = u
              · have : c' = c := eX_inj k2 hc (by rw [y, ec])
                subst this
                exact Or.inl (Or.inr ⟨Nat.zero_le _, k1, k5⟩)
              · have : eX c' ∈ els S 24576 f := els_mem.mpr ⟨k3, eX_lt k2, k4⟩
                rw [hels] at this
                rcases List.mem_cons.mp this with y' | y'
                · exact absurd y' y
                · rw [u4] at y'
                  exact Or.inr ⟨k1, c', k2, (els_mem.mp y').1, k4, k5⟩
theorem end_ev (d : Nat) {a sp : Option Nat} {used l : Nat} {h : AH} (hS : h.1 = SHP) (hL : hI h 77 5 = zI l) (hl : l ≤ 3) (hu : used ≤ 5) : ∀ (n lt B : Nat), lt + n = l → B < 16777216 → ∃ B' : Nat, Rk B_Ss_endings L_Ss_endings (Cc d) 1 [aR (some 77), aR a, aR sp, aU, aI (zI ((2 ^ (used + 1) - 1 : Nat) : Int)), aI (zI B), aI (zI lt), aU, aU, aU, aU, aU, aU] [] h = Rk B_Ss_endings L_Ss_endings (Cc d) 3 [aR (some 77), aR a, aR sp, aU, aI (zI ((2 ^ (used + 1) - 1 : Nat) : Int)), aI (zI B'), aU, aU, aU, aU, aU, aU, aU] [] h ∧ B' < 16777216 ∧ ∀ b, B'.testBit b = true ↔ B.testBit b = true ∨ (lt ≤ b / 8 ∧ vld l used b) := by
  have p6 : 2 ^ (used + 1) ≤ 2 ^ 6 := Nat.pow_le_pow_right (by omega) (by omega)
  intro n
  induction n with
  | zero =>
    intro lt B hn hB
    refine ⟨B, ?_, hB, fun b => ⟨Or.inl, ?_⟩⟩
    · rw [E_Ss_endings_1, obj_e (z77 hS), hL]
      simp (disch := omega) only [nlt]
      rw [if_neg (by omega)]
    · rintro (h | ⟨h1, ⟨h2, -⟩⟩)
      · exact h
      · omega
  | succ n ih =>
    intro lt B hn hB
    obtain ⟨C, c1, c2, c3⟩ := shb hB (N := 2 ^ (used + 1) - 1) (by omega) (lt := lt) (by omega)
    obtain ⟨B2, e2, b2, g2⟩ := ih (lt + 1) C (by omega) c1
    refine ⟨B2, ?_, b2, fun b => ?_⟩
    · rw [E_Ss_endings_1, obj_e (z77 hS), hL]
      simp (disch := omega) only [nlt]
      rw [if_pos (by omega), E_Ss_endings_2, c2, lt_e, lt_e, nadd1]
      exact e2
    · rw [g2 b, c3 b, Bool.or_eq_true, Bool.and_eq_true, beq_iff_eq, Nat.testBit_two_pow_sub_one, decide_eq_true_eq]
      unfold vld
      constructor
      · rintro ((k | ⟨k1, k2⟩) | ⟨k1, k2⟩)
        · exact Or.inl k
        · exact Or.inr ⟨by omega, by omega, by omega⟩
        · exact Or.inr ⟨by omega, k2⟩
      · rintro (k | ⟨k1, k2, k3⟩)
        · exact Or.inl (Or.inl k)
        · by_cases z : b / 8 = lt
          · exact Or.inl (Or.inr ⟨z, by omega⟩)
          · exact Or.inr ⟨by omega, k2, k3⟩
theorem tkn_last {r : Rdr} {S : Nat → Bool} {u : List (Nat × Nat)} {l x : Nat} (hv : RV r) (hu : ∀ p, p ∈ u → p.2 < 16) (hS : RQS S r u allT) : tkn r ((l, x) :: u) = true ↔ ∃ c, CV c ∧ S (eX c) = true ∧ ∃ m, m ∈ r.2.2.2 ∧ canB m c l x = true ∧ tks r m.2.2.2.2 = true := by
  unfold tkn
  rw [bl_t]
  constructor
  · rintro ⟨c', ⟨c, h1, i, m, a1, a2, a3, a4⟩, h2⟩
    refine ⟨c, rq_v hv u c hu h1, (hS _).mpr ⟨c, h1, by rw [stl_all]⟩, m, List.mem_of_getElem? a1, ?_, ?_⟩
    · unfold canB
      unfold stp at a4
      split at a4
      · rename_i z; rw [z, a2, a3]; simp
      · cases a4
    · unfold stp at a4
      split at a4
      · cases a4; exact h2
      · cases a4
  · rintro ⟨c, h1, h2, m, h3, h4, h5⟩
    obtain ⟨c1, k1, k2⟩ := (hS _).mp h2
    rw [stl_all] at k2
    have : c = c1 := eX_inj h1 (rq_v hv u c1 hu k1) k2
    subst this
    obtain ⟨i, hi⟩ := List.getElem?_of_mem h3
    unfold canB at h4
    rw [Bool.and_eq_true, Bool.and_eq_true, beq_iff_eq, beq_iff_eq] at h4
    refine ⟨goC m c x, ⟨c, k1, i, m, hi, h4.1, h4.2.1, ?_⟩, h5⟩
    unfold stp
    rw [if_pos h4.2.2]
theorem Ss_endings (d : Nat) {a sp used l : Nat} {S : Nat → Bool} {r : Rdr} {u : List (Nat × Nat)} {h : AH} (hS : h.1 = SHP) (rd : RD h a r) (pS : SP h sp 24576 S) (hL : hI h 77 5 = zI l) (hl : l ≤ 3) (hu : used ≤ 5) (hn : ∀ p, p ∈ u → p.2 ≤ used) (hR : RQS S r u allT) : ∃ B : Nat, Cc (d + 4) k_Ss_endings [aR (some 77), aR (some a), aR (some sp), aI (zI used)] h = some (some (aI (zI B)), h) ∧ B < 16777216 ∧ ∀ b, B.testBit b = true ↔ vld l used b ∧ tkn r ((b / 8, b % 8 + 1) :: u) = true := by
  have hu16 : ∀ p, p ∈ u → p.2 < 16 := fun p hp => by have := hn p hp; omega
  have p6 : 2 ^ (used + 1) ≤ 2 ^ 6 := Nat.pow_le_pow_right (by omega) (by omega)
  obtain ⟨E, e1, b1, g1⟩ := end_ev (d + 3) (a := some a) (sp := some sp) hS hL hl hu l 0 0 (Nat.zero_add _) (by omega)
  have g1' : ∀ b, E.testBit b = true ↔ vld l used b := fun b => by rw [g1 b]; simp
  have hr : ∀ s, S s = true → ∃ c, CV c ∧ (∀ t, rg c t ≤ used) ∧ s = eX c := by
    intro s hs
    obtain ⟨c, k1, k2⟩ := (hR s).mp hs
    rw [stl_all] at k2
    exact ⟨c, rq_v rd.1 u c hu16 k1, rq_le u c hn k1, k2⟩
  obtain ⟨B, e2, b2, g2⟩ := end_sp d hS rd pS hL hl hu b1 g1' hr _ 0 0 rfl (by omega) (fun b hb => by simp at hb)
  refine ⟨B, ?_, b2, fun b => ?_⟩
  · rw [C_Ss_endings, E_Ss_endings_0, show zI 2 <<< (zI ((used : Nat) : Int) &&& 31) = zI ((2 * 2 ^ used : Nat) : Int) from nshl (n := 2) (by omega), show 2 * 2 ^ used = 2 ^ (used + 1) by rw [Nat.pow_succ]; omega, nsub1 (Nat.two_pow_pos _), lt_e, lt_e, lt_e, zc0]
    refine Eq.trans e1 ?_
    rw [E_Ss_endings_3, lt_e, obj_e pS.1.1, zc0, calI_e (Sp_next _ pS (by omega)), lt_e, obj_e pS.1.1, calI_e (Sp_size _ pS), lt_e, els_cn]
    exact e2
  · rw [g2 b, tkn_last rd.1 hu16 hR]
    simp only [Nat.zero_testBit, Bool.false_eq_true, false_or, Nat.zero_le, true_and]
    rfl
