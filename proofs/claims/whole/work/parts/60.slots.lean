/-! Walks.giveSlots: a number for each name that comes again -/
def aid (w : Rw) (j : Nat) : Nat := idn w (w.getD j (0, -1)).2
theorem aid_e {w : Rw} {j : Nat} {p : Int × Int} (h : w[j]? = some p) : aid w j = idn w p.2 := by unfold aid; rw [List.getD_eq_getElem?_getD, h]; rfl
def knw (w : Rw) (i n : Nat) : Prop := ∃ j, j < i ∧ aid w j = n
def alw (w : Rw) (i n : Nat) : Prop := ∃ j, i ≤ j ∧ j < w.length ∧ aid w j = n
/-- names known and still to come have numbers of their own -/
def DST (w : Rw) (g : Nat → Nat) (i : Nat) : Prop := ∀ a b, knw w i a → alw w i a → knw w i b → alw w i b → g a ≠ 0 ∧ (g a = g b → a = b)
theorem frs_lp (d : Nat) {B : Nat} (hB : B < 65536) (h : AH) : ∀ (n s : Nat), s + n = 6 → 1 ≤ s → (∀ t, 1 ≤ t → t < s → B.testBit t = true) → ∃ f, Rk B_Wk_freeSlot L_Wk_freeSlot (Cc d) 1 [aI (zI B), aI (zI s)] [] h = some (some (aI (zI ((f : Nat) : Int))), h) ∧ 1 ≤ f ∧ f ≤ 6 ∧ ((∃ t, 1 ≤ t ∧ t ≤ 6 ∧ B.testBit t = false) → B.testBit f = false)
  | 0, s, hn, h1, hb => by
    refine ⟨s, ?_, h1, by omega, ?_⟩
    · rw [E_Wk_freeSlot_1, if_neg (by rw [show zI 6 = zI ((6 : Nat) : Int) from rfl, nlt (by omega) (by omega)]; omega), E_Wk_freeSlot_4]
    · rintro ⟨t, t1, t2, t3⟩
      by_cases z : t = s
      · rw [← z]; exact t3
      · rw [hb t t1 (by omega)] at t3; cases t3
  | n + 1, s, hn, h1, hb => by
    have h2 : B / 2 ^ s ≤ B := Nat.div_le_self _ _
    have e : Rk B_Wk_freeSlot L_Wk_freeSlot (Cc d) 1 [aI (zI B), aI (zI s)] [] h = if B.testBit s = true then Rk B_Wk_freeSlot L_Wk_freeSlot (Cc d) 3 [aI (zI B), aI (zI s)] [] h else Rk B_Wk_freeSlot L_Wk_freeSlot (Cc d) 4 [aU, aI (zI s)] [] h := by
      rw [E_Wk_freeSlot_1, if_pos (by rw [show zI 6 = zI ((6 : Nat) : Int) from rfl, nlt (by omega) (by omega)]; omega), E_Wk_freeSlot_2]
      simp (disch := omega) only [nshr, and1, neq0]
      rw [Nat.testBit_eq_decide_div_mod_eq]
      by_cases z : B / 2 ^ s % 2 = 0
      · rw [if_pos z, if_neg (by simp [z])]
      · have : B / 2 ^ s % 2 = 1 := by omega
        rw [if_neg z, if_pos (by simp [this])]
    by_cases y : B.testBit s = true
    · obtain ⟨f, a1, a2, a3, a4⟩ := frs_lp d hB h n (s + 1) (by omega) (by omega) (by
        intro t t1 t2
        by_cases z : t = s
        · rw [z]; exact y
        · exact hb t t1 (by omega))
      refine ⟨f, ?_, a2, a3, a4⟩
      rw [e, if_pos y, E_Wk_freeSlot_3, lt_e, nadd1]; exact a1
    · refine ⟨s, ?_, h1, by omega, fun _ => by simpa using y⟩
      rw [e, if_neg y, E_Wk_freeSlot_4]
theorem Wk_freeSlot (d : Nat) {B : Nat} (hB : B < 65536) (h : AH) : ∃ f : Nat, Cc (d + 1) k_Wk_freeSlot [aI (zI B)] h = some (some (aI (zI f)), h) ∧ 1 ≤ f ∧ f ≤ 6 ∧ ((∃ t, 1 ≤ t ∧ t ≤ 6 ∧ B.testBit t = false) → B.testBit f = false) := by
  obtain ⟨f, e, q⟩ := frs_lp d hB h 5 1 (by omega) (by omega) (by intro t h1 h2; omega)
  exact ⟨f, by rw [C_Wk_freeSlot, E_Wk_freeSlot_0, lt_e]; exact e, q⟩
/-- with twelve pairs, a seventh name never comes -/
theorem six {w : Rw} (hw : w.length ≤ 12) {g : Nat → Nat} {i : Nat} (hi : i < w.length) (hb : ∀ b, 1 ≤ b → b ≤ 6 → ∃ n, knw w i n ∧ alw w i n ∧ g n = b ∧ n ≠ aid w i) : False := by
  have pk : ∀ b, ∃ j : Nat, 1 ≤ b → b ≤ 6 → j < i ∧ g (aid w j) = b := by
    intro b
    by_cases z : 1 ≤ b ∧ b ≤ 6
    · obtain ⟨n, ⟨j, j1, j2⟩, -, e, -⟩ := hb b z.1 z.2
      exact ⟨j, fun _ _ => ⟨j1, by rw [j2]; exact e⟩⟩
    · exact ⟨0, fun h1 h2 => absurd ⟨h1, h2⟩ z⟩
  have pa : ∀ b, ∃ j : Nat, 1 ≤ b → b ≤ 6 → i < j ∧ j < w.length ∧ g (aid w j) = b := by
    intro b
    by_cases z : 1 ≤ b ∧ b ≤ 6
    · obtain ⟨n, -, ⟨j, j1, j2, j3⟩, e, ne⟩ := hb b z.1 z.2
      refine ⟨j, fun _ _ => ⟨?_, j2, by rw [j3]; exact e⟩⟩
      by_cases y : j = i
      · subst y; exact absurd j3.symm ne
      · omega
    · exact ⟨0, fun h1 h2 => absurd ⟨h1, h2⟩ z⟩
  have i6 : 6 ≤ i := by
    let J := fun b => Classical.choose (pk b)
    have hJ : ∀ b, 1 ≤ b → b ≤ 6 → J b < i ∧ g (aid w (J b)) = b := fun b => Classical.choose_spec (pk b)
    have := nd_len i ((List.range' 1 6).map J) (nd_map J _ (List.nodup_range') (by
      intro x y hx hy e
      rw [List.mem_range'_1] at hx hy
      have a := hJ x (by omega) (by omega)
      have b := hJ y (by omega) (by omega)
      rw [← a.2, ← b.2, e])) (by
      intro x hx
      obtain ⟨b, hb, e⟩ := List.mem_map.mp hx
      rw [List.mem_range'_1] at hb
      rw [← e]; exact (hJ b (by omega) (by omega)).1)
    simpa using this
  have n6 : 6 ≤ w.length - (i + 1) := by
    let J := fun b => Classical.choose (pa b) - (i + 1)
    have hJ : ∀ b, 1 ≤ b → b ≤ 6 → i < Classical.choose (pa b) ∧ Classical.choose (pa b) < w.length ∧ g (aid w (Classical.choose (pa b))) = b := fun b => Classical.choose_spec (pa b)
    have := nd_len (w.length - (i + 1)) ((List.range' 1 6).map J) (nd_map J _ (List.nodup_range') (by
      intro x y hx hy e
      rw [List.mem_range'_1] at hx hy
      have a := hJ x (by omega) (by omega)
      have b := hJ y (by omega) (by omega)
      have e2 : Classical.choose (pa x) = Classical.choose (pa y) := by
        have e : Classical.choose (pa x) - (i + 1) = Classical.choose (pa y) - (i + 1) := e
        omega
      rw [← a.2.2, ← b.2.2, e2])) (by
      intro x hx
      obtain ⟨b, hb, e⟩ := List.mem_map.mp hx
      rw [List.mem_range'_1] at hb
      have := hJ b (by omega) (by omega)
      rw [← e]
      show Classical.choose (pa b) - (i + 1) < _
      omega)
    simpa using this
  omega
/-- a bit is cleared -/
theorem clrb {B s : Nat} (hB : B < 65536) (hs : s < 16) : ∃ C : Nat, C < 65536 ∧ (zI B &&& ((zI 1 <<< (zI s &&& 31)) ^^^ zI (-1))) ||| zI 1 = zI ((C : Nat) : Int) ∧ ∀ t, C.testBit t = (t == 0 || (B.testBit t && t != s)) := by
  have e1 : zI 1 <<< (zI s &&& 31) = zI ((2 ^ s : Nat) : Int) := by
    have := nshl (n := 1) (k := s) (by omega)
    rw [Nat.one_mul] at this; exact this
  let C := ((zI B &&& ((zI 1 <<< (zI s &&& 31)) ^^^ zI (-1))) ||| zI 1).toBitVec.toNat
  have hbit : ∀ t, t < 32 → C.testBit t = (t == 0 || (B.testBit t && t != s)) := by
    intro t ht
    show (((zI B &&& ((zI 1 <<< (zI s &&& 31)) ^^^ zI (-1))) ||| zI 1).toBitVec.toNat).testBit t = _
    rw [e1, Int32.toBitVec_or, Int32.toBitVec_and, Int32.toBitVec_xor, ← zI_nI, ← zI_nI, BitVec.testBit_toNat, BitVec.getLsbD_or, BitVec.getLsbD_and, BitVec.getLsbD_xor]
    have a1 : (nI B).toBitVec.getLsbD t = B.testBit t := by
      show (BitVec.ofNat 32 B).getLsbD t = _
      rw [BitVec.getLsbD_ofNat]; simp [ht]
    have a2 : (nI (2 ^ s)).toBitVec.getLsbD t = (s == t) := by
      show (BitVec.ofNat 32 (2 ^ s)).getLsbD t = _
      rw [BitVec.getLsbD_ofNat, Nat.testBit_two_pow]
      simp [ht]
      rfl
    have a3 : (zI (-1)).toBitVec.getLsbD t = true := by
      rw [show (zI (-1)).toBitVec = BitVec.allOnes 32 from by decide, BitVec.getLsbD_allOnes]; simp [ht]
    have a4 : (zI 1).toBitVec.getLsbD t = (t == 0) := by
      rw [show (zI 1).toBitVec = BitVec.ofNat 32 1 from by decide, BitVec.getLsbD_ofNat]
      cases t with
      | zero => simp
      | succ t => simp [Nat.testBit_succ]
    rw [a1, a2, a3, a4]
    by_cases z : t = s
    · subst z; simp
    · have z1 : (s == t) = false := by rw [beq_eq_false_iff_ne]; omega
      have z2 : (t != s) = true := bne_iff_ne.mpr z
      rw [z1, z2]; simp; cases (t == 0) <;> cases (B.testBit t) <;> rfl
  have hC32 : C < 2 ^ 32 := ((zI B &&& ((zI 1 <<< (zI s &&& 31)) ^^^ zI (-1))) ||| zI 1).toBitVec.isLt
  have hall : ∀ t, C.testBit t = (t == 0 || (B.testBit t && t != s)) := by
    intro t
    by_cases z : t < 32
    · exact hbit t z
    · rw [Nat.testBit_lt_two_pow (Nat.lt_of_lt_of_le hC32 (Nat.pow_le_pow_right (by omega) (by omega))), Nat.testBit_lt_two_pow (x := B) (Nat.lt_of_lt_of_le (show B < 2 ^ 16 from hB) (Nat.pow_le_pow_right (by omega) (by omega)))]
      have : (t == 0) = false := by rw [beq_eq_false_iff_ne]; omega
      simp [this]
  refine ⟨C, ?_, ?_, hall⟩
  · apply Nat.lt_of_not_le
    intro h
    have : C = C % 2 ^ 16 := by
      apply Nat.eq_of_testBit_eq
      intro t
      rw [Nat.testBit_mod_two_pow]
      by_cases z : t < 16
      · simp [z]
      · rw [hall t, Nat.testBit_lt_two_pow (x := B) (Nat.lt_of_lt_of_le (show B < 2 ^ 16 from hB) (Nat.pow_le_pow_right (by omega) (by omega)))]
        have : (t == 0) = false := by rw [beq_eq_false_iff_ne]; omega
        simp [this, z]
    have h2 : C % 2 ^ 16 < 2 ^ 16 := Nat.mod_lt _ (by decide)
    omega
  · apply Int32.toBitVec_inj.mp
    apply BitVec.eq_of_toNat_eq
    rw [← zI_nI]
    show C = (BitVec.ofNat 32 C).toNat
    rw [BitVec.toNat_ofNat, Nat.mod_eq_of_lt hC32]
/-- what giveSlots keeps -/
def GS (h : AH) (w : Rw) (i B K : Nat) (g : Nat → Nat) : Prop := B < 65536 ∧ K < 65536 ∧ (∀ n, n < 16 → (K.testBit n = true ↔ n = 0 ∨ knw w i n)) ∧ g 0 = 0 ∧ (∀ n, n = 0 ∨ knw w i n → hI h 68 n = zI (g n) ∧ g n ≤ 6) ∧ (∀ i', i' ≤ i → DST w g i') ∧ (∀ b, 1 ≤ b → b ≤ 6 → (B.testBit b = true ↔ ∃ n, knw w i n ∧ alw w i n ∧ g n = b))
theorem aid_r {w : Rw} (hw : WV w) (j : Nat) : aid w j ≤ 12 := by
  unfold aid
  have := idn_le w (w.getD j (0, -1)).2
  have := tn_len w
  have := hw.1
  omega
theorem alv_bit {w : Rw} (hw : WV w) (hg : gaps w = 0) {i n : Nat} (hn0 : n ≠ 0) (hn : n < 16) : ∃ k : Nat, k < 65536 ∧ alv (idn w) (w.drop i) = (k : Int) ∧ (k / 2 ^ n % 2 = 1 ↔ alw w i n) := by
  obtain ⟨h1, h2⟩ := alv_al (idn16 hw) (w.drop i)
  have hne : alv (idn w) (w.drop i) ≠ -1 := by
    have : ∀ (l : Rw), (∀ p, p ∈ l → p.2 ≠ -1) → alv (idn w) l ≠ -1 := by
      intro l
      induction l with
      | nil => intro _; unfold alv; decide
      | cons p l ih =>
        intro hh
        unfold alv
        rw [if_neg (hh p List.mem_cons_self), if_neg (ih (fun q hq => hh q (List.mem_cons_of_mem _ hq)))]
        omega
    refine this _ (fun p hp => ?_)
    obtain ⟨j, hj, e⟩ := List.getElem_of_mem (List.mem_of_mem_drop hp)
    exact (nogap hg (by rw [List.getElem?_eq_getElem hj, e])).2
  rcases h1 with ⟨e, -⟩ | ⟨k, hk, e, hL⟩
  · exact absurd ((yeq (by omega) (by omega) (by omega) (by omega)).mp e) hne
  · refine ⟨k, hk, (yeq (by omega) (by omega) (by omega) (by omega)).mp e, ?_⟩
    have := hL n hn
    have e2 : (k / 2 ^ n % 2 == 1) = true ↔ k / 2 ^ n % 2 = 1 := beq_iff_eq
    rw [← e2, ← this]
    unfold lvs
    rw [Bool.or_eq_true, List.any_eq_true]
    constructor
    · rintro (h | ⟨p, hp, h⟩)
      · exact absurd (beq_iff_eq.mp h) hn0
      · rw [Bool.or_eq_true] at h
        obtain ⟨j, hj, e3⟩ := List.getElem_of_mem hp
        rw [List.length_drop] at hj
        rw [List.getElem_drop] at e3
        have hp2 : w[i + j]? = some p := by rw [List.getElem?_eq_getElem (by omega), e3]
        rcases h with h | h
        · exact absurd (beq_iff_eq.mp h) (nogap hg hp2).2
        · exact ⟨i + j, by omega, by omega, by rw [aid_e hp2]; exact beq_iff_eq.mp h⟩
    · rintro ⟨j, j1, j2, j3⟩
      right
      have hp2 : w[j]? = some w[j] := List.getElem?_eq_getElem j2
      refine ⟨w[j], ?_, ?_⟩
      · rw [List.mem_drop_iff_getElem]
        exact ⟨j - i, by omega, by congr 1; omega⟩
      · rw [Bool.or_eq_true, beq_iff_eq (b := n), ← aid_e hp2]; exact Or.inr j3
theorem gs_lp (d : Nat) {s : Stt} (hg : gaps s.2.2.2 = 0) : ∀ (k i B K : Nat) (g : Nat → Nat) (h : AH), i + k = s.2.2.2.length → XI s h → GS h s.2.2.2 i B K g →
    ∃ h' g', Rk B_Wk_giveSlots L_Wk_giveSlots (Cc (d + 1)) 1 [aR (some 66), aR (some 16), aI (zI B), aI (zI K), aI (zI i), aU, aU] [] h = some (none, h') ∧ fr (fun b => b = 68) h h' ∧ XI s h' ∧ ∃ B K, GS h' s.2.2.2 s.2.2.2.length B K g'
  | 0, i, B, K, g, h, hk, p, gs => by
    have hw := p.rw.1
    have hl := hw.1
    have : i = s.2.2.2.length := by omega
    subst this
    refine ⟨h, g, ?_, fr.rf _ h, p, B, K, gs⟩
    rw [E_Wk_giveSlots_1, obj_e (z16 p.1), calI_e (Rw_size _ p.rw)]
    simp (disch := omega) only [nlt]
    rw [if_neg (by omega), E_Wk_giveSlots_14]
  | k + 1, i, B, K, g, h, hk, p, gs => by
    have hw := p.rw.1
    have hl := hw.1
    have hp : s.2.2.2[i]? = some s.2.2.2[i] := List.getElem?_eq_getElem (by omega)
    obtain ⟨n1, n2⟩ := nogap hg hp
    have ha0 := idn_pos hp n2
    have hid := aid_e hp
    have ha12 := aid_r hw i
    rw [← hid] at ha0
    obtain ⟨gB, gK, gk, g0, gh, gd, gb⟩ := gs
    obtain ⟨kv, kv1, kv2, kv3⟩ := alv_bit hw hg (i := i + 1) ha0 (by omega : aid s.2.2.2 i < 16)
    have kdv : kv / 2 ^ aid s.2.2.2 i ≤ kv := Nat.div_le_self _ _
    have kdK : K / 2 ^ aid s.2.2.2 i ≤ K := Nat.div_le_self _ _
    have hal : alw s.2.2.2 i (aid s.2.2.2 i) := ⟨i, Nat.le_refl _, by omega, rfl⟩
    have hkn1 : ∀ n, knw s.2.2.2 (i + 1) n ↔ knw s.2.2.2 i n ∨ n = aid s.2.2.2 i := by
      intro n
      constructor
      · rintro ⟨j, j1, j2⟩
        by_cases z : j = i
        · subst z; exact Or.inr j2.symm
        · exact Or.inl ⟨j, by omega, j2⟩
      · rintro (⟨j, j1, j2⟩ | e)
        · exact ⟨j, by omega, j2⟩
        · exact ⟨i, by omega, e.symm⟩
    have hal1 : ∀ n, n ≠ aid s.2.2.2 i → (alw s.2.2.2 i n ↔ alw s.2.2.2 (i + 1) n) := by
      intro n hn
      constructor
      · rintro ⟨j, j1, j2, j3⟩
        by_cases z : j = i
        · subst z; exact absurd j3.symm hn
        · exact ⟨j, by omega, j2, j3⟩
      · rintro ⟨j, j1, j2, j3⟩; exact ⟨j, by omega, j2, j3⟩
    -- the end of one pair: g' gives the name's number, K' knows it
    have fin : ∀ (h1 : AH) (K' : Nat) (g' : Nat → Nat) (ag : Nat), XI s h1 → fr (fun b => b = 68) h h1 → (ag = if kv / 2 ^ aid s.2.2.2 i % 2 = 1 then 1 else 0) → K' < 65536 → (∀ n, n < 16 → (K'.testBit n = true ↔ n = 0 ∨ knw s.2.2.2 (i + 1) n)) → g' 0 = 0 → (∀ n, n = 0 ∨ knw s.2.2.2 (i + 1) n → hI h1 68 n = zI (g' n) ∧ g' n ≤ 6) → (∀ n, knw s.2.2.2 i n → g' n = g n) → (¬ knw s.2.2.2 i (aid s.2.2.2 i) → if kv / 2 ^ aid s.2.2.2 i % 2 = 1 then (1 ≤ g' (aid s.2.2.2 i) ∧ B.testBit (g' (aid s.2.2.2 i)) = false) else g' (aid s.2.2.2 i) = 0) →
        ∃ h' g'', Rk B_Wk_giveSlots L_Wk_giveSlots (Cc (d + 1)) 10 [aR (some 66), aR (some 16), aI (zI B), aI (zI K'), aI (zI i), aI (zI (aid s.2.2.2 i)), aI (zI ag)] [] h1 = some (none, h') ∧ fr (fun b => b = 68) h h' ∧ XI s h' ∧ ∃ B K, GS h' s.2.2.2 s.2.2.2.length B K g'' := by
      intro h1 K' g' ag px1 f1 hag hK' hk' g0' gh' gold gnew
      have hgi := gh' (aid s.2.2.2 i) (Or.inr ((hkn1 _).mpr (Or.inr rfl)))
      have dst1 : DST s.2.2.2 g' (i + 1) := by
        intro a b ka aa kb ab
        have key : ∀ a, knw s.2.2.2 (i + 1) a → alw s.2.2.2 (i + 1) a → g' a ≠ 0 := by
          intro a ka aa
          by_cases z : knw s.2.2.2 i a
          · rw [gold a z]
            have : alw s.2.2.2 i a := by obtain ⟨j, j1, j2, j3⟩ := aa; exact ⟨j, by omega, j2, j3⟩
            exact (gd i (Nat.le_refl _) a a z this z this).1
          · have e : a = aid s.2.2.2 i := by rcases (hkn1 a).mp ka with y | y; exact absurd y z; exact y
            subst e
            have := gnew z
            rw [if_pos (kv3.mpr aa)] at this
            omega
        refine ⟨key a ka aa, ?_⟩
        have al : ∀ a, alw s.2.2.2 (i + 1) a → alw s.2.2.2 i a := fun a ⟨j, j1, j2, j3⟩ => ⟨j, by omega, j2, j3⟩
        intro e
        by_cases za : knw s.2.2.2 i a
        · by_cases zb : knw s.2.2.2 i b
          · rw [gold a za, gold b zb] at e
            exact (gd i (Nat.le_refl _) a b za (al a aa) zb (al b ab)).2 e
          · have eb : b = aid s.2.2.2 i := by rcases (hkn1 b).mp kb with y | y; exact absurd y zb; exact y
            subst eb
            have nw := gnew zb
            rw [if_pos (kv3.mpr ab), ← e, gold a za] at nw
            have h6 := (gh a (Or.inr za)).2
            rw [(gb (g a) nw.1 h6).mpr ⟨a, za, al a aa, rfl⟩] at nw
            exact absurd nw.2 (by simp)
        · have ea : a = aid s.2.2.2 i := by rcases (hkn1 a).mp ka with y | y; exact absurd y za; exact y
          by_cases zb : knw s.2.2.2 i b
          · subst ea
            have nw := gnew za
            rw [if_pos (kv3.mpr aa), e, gold b zb] at nw
            have h6 := (gh b (Or.inr zb)).2
            rw [(gb (g b) nw.1 h6).mpr ⟨b, zb, al b ab, rfl⟩] at nw
            exact absurd nw.2 (by simp)
          · have eb : b = aid s.2.2.2 i := by rcases (hkn1 b).mp kb with y | y; exact absurd y zb; exact y
            rw [ea, eb]
      have dsts : ∀ i', i' ≤ i + 1 → DST s.2.2.2 g' i' := by
        intro i' hi'
        by_cases z : i' = i + 1
        · subst z; exact dst1
        · intro a b ka aa kb ab
          have kk : ∀ a, knw s.2.2.2 i' a → knw s.2.2.2 i a := fun a ⟨j, j1, j2⟩ => ⟨j, by omega, j2⟩
          rw [gold a (kk a ka), gold b (kk b kb)]
          exact gd i' (by omega) a b ka aa kb ab
      have go : ∀ B' : Nat, B' < 65536 → (∀ b, 1 ≤ b → b ≤ 6 → (B'.testBit b = true ↔ ∃ n, knw s.2.2.2 (i + 1) n ∧ alw s.2.2.2 (i + 1) n ∧ g' n = b)) → ∃ h' g'', Rk B_Wk_giveSlots L_Wk_giveSlots (Cc (d + 1)) 13 [aR (some 66), aR (some 16), aU, aI (zI K'), aI (zI i), aU, aU] [aI (zI B')] h1 = some (none, h') ∧ fr (fun b => b = 68) h h' ∧ XI s h' ∧ ∃ B K, GS h' s.2.2.2 s.2.2.2.length B K g'' := by
        intro B' hB' hb'
        obtain ⟨h', g'', e, f2, px2, q2⟩ := gs_lp d hg k (i + 1) B' K' g' h1 (by omega) px1 ⟨hB', hK', hk', g0', gh', dsts, hb'⟩
        refine ⟨h', g'', ?_, f1.tr f2, px2, q2⟩
        rw [E_Wk_giveSlots_13, lt_e, lt_e, nadd1]; exact e
      rw [E_Wk_giveSlots_10]
      by_cases y : kv / 2 ^ aid s.2.2.2 i % 2 = 1
      · have hag1 : ag = 1 := by rw [hag, if_pos y]
        rw [hag1, if_neg (by decide), E_Wk_giveSlots_11, obj_e (z66 px1.1), px1.r (c := 68) (by decide)]
        simp (disch := omega) only [idx_n (z68 px1.1), hgi.1]
        have hp2 : 2 ^ g' (aid s.2.2.2 i) < 2 ^ 16 := Nat.pow_lt_pow_right (by omega) (by omega)
        rw [show zI 1 <<< (zI ((g' (aid s.2.2.2 i) : Nat) : Int) &&& 31) = zI ((1 * 2 ^ g' (aid s.2.2.2 i) : Nat) : Int) from nshl (n := 1) (by omega), Nat.one_mul, zI_or (by omega) (Nat.lt_of_lt_of_le hp2 (by decide))]
        refine go _ (Nat.or_lt_two_pow (show B < 2 ^ 16 from gB) hp2) ?_
        intro b b1 b2
        rw [Nat.testBit_or, Bool.or_eq_true, Nat.testBit_two_pow, decide_eq_true_eq, gb b b1 b2]
        constructor
        · rintro (⟨n, k1, k2, k3⟩ | e)
          · by_cases z : n = aid s.2.2.2 i
            · subst z; exact ⟨_, (hkn1 _).mpr (Or.inr rfl), kv3.mp y, by rw [gold _ k1]; exact k3⟩
            · exact ⟨n, (hkn1 n).mpr (Or.inl k1), (hal1 n z).mp k2, by rw [gold n k1]; exact k3⟩
          · exact ⟨_, (hkn1 _).mpr (Or.inr rfl), kv3.mp y, e⟩
        · rintro ⟨n, k1, k2, k3⟩
          by_cases z : n = aid s.2.2.2 i
          · subst z; exact Or.inr k3
          · have k1' : knw s.2.2.2 i n := by rcases (hkn1 n).mp k1 with q | q; exact q; exact absurd q z
            exact Or.inl ⟨n, k1', (hal1 n z).mpr k2, by rw [← gold n k1']; exact k3⟩
      · have hag0 : ag = 0 := by rw [hag, if_neg y]
        have hna : ¬ alw s.2.2.2 (i + 1) (aid s.2.2.2 i) := fun z => y (kv3.mpr z)
        rw [hag0, if_pos (show zI ((0 : Nat) : Int) = 0 from rfl), E_Wk_giveSlots_12, obj_e (z66 px1.1), px1.r (c := 68) (by decide)]
        simp (disch := omega) only [idx_n (z68 px1.1), hgi.1]
        obtain ⟨C, hC, eC, hCb⟩ := clrb gB (s := g' (aid s.2.2.2 i)) (by omega)
        rw [eC]
        refine go C hC ?_
        intro b b1 b2
        rw [hCb b, show (b == 0) = false from by rw [beq_eq_false_iff_ne]; omega, Bool.false_or, Bool.and_eq_true, bne_iff_ne, gb b b1 b2]
        constructor
        · rintro ⟨⟨n, k1, k2, k3⟩, ne⟩
          have z : n ≠ aid s.2.2.2 i := fun e => ne (by rw [← k3, e, ← gold _ (e ▸ k1)])
          exact ⟨n, (hkn1 n).mpr (Or.inl k1), (hal1 n z).mp k2, by rw [gold n k1]; exact k3⟩
        · rintro ⟨n, k1, k2, k3⟩
          have z : n ≠ aid s.2.2.2 i := fun e => hna (e ▸ k2)
          have k1' : knw s.2.2.2 i n := by rcases (hkn1 n).mp k1 with q | q; exact q; exact absurd q z
          refine ⟨⟨n, k1', (hal1 n z).mpr k2, by rw [← gold n k1']; exact k3⟩, ?_⟩
          intro e
          by_cases w : knw s.2.2.2 i (aid s.2.2.2 i)
          · rw [← k3, gold n k1', gold _ w] at e
            exact z ((gd i (Nat.le_refl _) n _ k1' ((hal1 n z).mpr k2) w hal).2 e)
          · have := gnew w
            rw [if_neg y] at this
            omega
    have hgk := gk (aid s.2.2.2 i) (by omega)
    rw [E_Wk_giveSlots_1, obj_e (z16 p.1), calI_e (Rw_size _ p.rw)]
    simp (disch := omega) only [nlt]
    rw [if_pos (by omega), E_Wk_giveSlots_2, obj_e (z16 p.1), calI_e (Rw_id _ p.rw hp), lt_e, obj_e (z16 p.1), nadd1, calI_e (Rw_alive _ p.rw (by omega)), kv2, ← hid]
    simp (disch := omega) only [nshr, and1, neq0]
    have b5 : ∀ ag : Nat, (ag = if kv / 2 ^ aid s.2.2.2 i % 2 = 1 then 1 else 0) → ∃ h' g'', Rk B_Wk_giveSlots L_Wk_giveSlots (Cc (d + 1)) 5 [aR (some 66), aR (some 16), aI (zI B), aI (zI K), aI (zI i), aI (zI (aid s.2.2.2 i)), aU] [aI (zI ag)] h = some (none, h') ∧ fr (fun b => b = 68) h h' ∧ XI s h' ∧ ∃ B K, GS h' s.2.2.2 s.2.2.2.length B K g'' := by
      intro ag hag
      have hagl : ag ≤ 1 := by rw [hag]; split <;> omega
      rw [E_Wk_giveSlots_5, lt_e]
      simp (disch := omega) only [nshr, and1, neq0]
      by_cases y : knw s.2.2.2 i (aid s.2.2.2 i)
      · have tb := hgk.mpr (Or.inr y)
        rw [Nat.testBit_eq_decide_div_mod_eq, decide_eq_true_eq] at tb
        rw [if_neg (by omega)]
        exact fin h K g ag p (fr.rf _ h) hag gK (fun n hn => by
          rw [gk n hn, hkn1]
          constructor
          · rintro (q | q); exact Or.inl q; exact Or.inr (Or.inl q)
          · rintro (q | q | q); exact Or.inl q; exact Or.inr q; rw [q]; exact Or.inr y) g0 (fun n hn => gh n (by
          rcases hn with q | q
          · exact Or.inl q
          · rcases (hkn1 n).mp q with q | q; exact Or.inr q; rw [q]; exact Or.inr y)) (fun _ _ => rfl) (fun z => absurd y z)
      · have tb : K.testBit (aid s.2.2.2 i) = false := by
          rw [← Bool.not_eq_true]; intro z; rcases hgk.mp z with q | q; exact ha0 q; exact y q
        rw [Nat.testBit_eq_decide_div_mod_eq, decide_eq_false_iff_not] at tb
        rw [if_pos (by omega), E_Wk_giveSlots_6, lt_e, obj_e (z66 p.1), p.r (c := 68) (by decide)]
        have hp2 : 2 ^ aid s.2.2.2 i < 2 ^ 16 := Nat.pow_lt_pow_right (by omega) (by omega)
        rw [show zI 1 <<< (zI ((aid s.2.2.2 i : Nat) : Int) &&& 31) = zI ((1 * 2 ^ aid s.2.2.2 i : Nat) : Int) from nshl (n := 1) (by omega), Nat.one_mul, zI_or (by omega) (Nat.lt_of_lt_of_le hp2 (by decide))]
        have hK' : K ||| 2 ^ aid s.2.2.2 i < 65536 := Nat.or_lt_two_pow (show K < 2 ^ 16 from gK) hp2
        have b9 : ∀ f : Nat, f ≤ 6 → (if kv / 2 ^ aid s.2.2.2 i % 2 = 1 then (1 ≤ f ∧ B.testBit f = false) else f = 0) → ∃ h' g'', Rk B_Wk_giveSlots L_Wk_giveSlots (Cc (d + 1)) 9 [aR (some 66), aR (some 16), aI (zI B), aI (zI ((K ||| 2 ^ aid s.2.2.2 i : Nat) : Int)), aI (zI i), aI (zI (aid s.2.2.2 i)), aI (zI ag)] [aI (zI f), aI (zI (aid s.2.2.2 i)), aR (some 68)] h = some (none, h') ∧ fr (fun b => b = 68) h h' ∧ XI s h' ∧ ∃ B K, GS h' s.2.2.2 s.2.2.2.length B K g'' := by
          intro f hf hnew
          rw [E_Wk_giveSlots_9]
          simp (disch := omega) only [idx_n (z68 p.1), lt_e]
          have f1 : fr (fun b => b = 68) h (sI h 68 (aid s.2.2.2 i) (zI f)) := fr_sI (F := fun b => b = 68) h rfl _ _
          refine fin _ _ (fun n => if n = aid s.2.2.2 i then f else g n) ag (XI_sc p f1 (fun b hb => by unfold nI'; omega) (fun _ _ => rfl)) f1 hag hK' ?_ ?_ ?_ ?_ ?_
          · intro n hn
            rw [Nat.testBit_or, Bool.or_eq_true, Nat.testBit_two_pow, decide_eq_true_eq, gk n hn, hkn1]
            constructor
            · rintro ((q | q) | q); exact Or.inl q; exact Or.inr (Or.inl q); exact Or.inr (Or.inr q.symm)
            · rintro (q | q | q); exact Or.inl (Or.inl q); exact Or.inl (Or.inr q); exact Or.inr q.symm
          · rw [if_neg (fun e => ha0 e.symm)]; exact g0
          · intro n hn
            by_cases z : n = aid s.2.2.2 i
            · rw [z, hI_hit, if_pos rfl]; exact ⟨rfl, hf⟩
            · rw [hI_off (by omega), if_neg z]
              apply gh
              rcases hn with q | q
              · exact Or.inl q
              · rcases (hkn1 n).mp q with q | q; exact Or.inr q; exact absurd q z
          · intro n hn
            rw [if_neg (fun (e : n = aid s.2.2.2 i) => y (e ▸ hn))]
          · intro _; simp only [if_true]; exact hnew
        by_cases z : kv / 2 ^ aid s.2.2.2 i % 2 = 1
        · have hag1 : ag = 1 := by rw [hag, if_pos z]
          obtain ⟨f, e, f1, f2, f3⟩ := Wk_freeSlot d gB h
          have hfree : ∃ t, 1 ≤ t ∧ t ≤ 6 ∧ B.testBit t = false := by
            by_cases q : ∃ t, 1 ≤ t ∧ t ≤ 6 ∧ B.testBit t = false
            · exact q
            · exfalso
              refine six hl (g := g) (i := i) (by omega) ?_
              intro b b1 b2
              have : B.testBit b = true := by
                cases hh : B.testBit b with
                | true => rfl
                | false => exact absurd ⟨b, b1, b2, hh⟩ q
              obtain ⟨n, k1, k2, k3⟩ := (gb b b1 b2).mp this
              exact ⟨n, k1, k2, k3, fun e => y (e ▸ k1)⟩
          have b9' := b9 f f2 (by rw [if_pos z]; exact ⟨f1, f3 hfree⟩)
          rw [hag1] at b9' ⊢
          rw [if_neg (by decide), E_Wk_giveSlots_7, calI_e e]
          exact b9'
        · have hag0 : ag = 0 := by rw [hag, if_neg z]
          have b9' := b9 0 (by omega) (by rw [if_neg z])
          rw [hag0] at b9' ⊢
          rw [if_pos (show zI ((0 : Nat) : Int) = 0 from rfl), E_Wk_giveSlots_8]
          exact b9'
    by_cases y : kv / 2 ^ aid s.2.2.2 i % 2 = 0
    · rw [if_pos y, E_Wk_giveSlots_4]
      exact b5 0 (by rw [if_neg (by omega)])
    · rw [if_neg y, E_Wk_giveSlots_3]
      exact b5 1 (by rw [if_pos (by omega)])
