/-! the class: number, letter, test, a move, the whole text -/
theorem fT2 : ¬ fT 13 2 := by unfold fT; omega
theorem fT14 (j : Nat) : ¬ fT 14 j := by unfold fT; omega
theorem Tx_number (d : Nat) {h : AH} {t : List Nat} {e lim : Nat} (q : TXQ h t) (he : e ≤ t.length) (h5 : hI h 13 5 = zI e) (hl : lim ≤ 6) : ∃ h', Cc (d + 3) k_Tx_number [aR (some 13), aI (zI lim)] h = some (some (aI (zI (isD t (tkS t e) (tkE t e) lim))), h') ∧ xfr fT h h' ∧ hI h' 13 4 = zI (tkS t e) ∧ hI h' 13 5 = zI (tkE t e) ∧ TXQ h' t := by
  obtain ⟨h', e1, f, g4, g5, q'⟩ := Tx_advance d q he h5
  refine ⟨h', ?_, f, g4, g5, q'⟩
  have hl2 := q.2.2.2.1.1
  obtain ⟨b1, b2, b3, b4⟩ := tk_b he
  rw [C_Tx_number, E_Tx_number_0, obj_e (z13 q.1), calV_e e1]
  simp only [obj_e (z13 q'.1), g4, g5]
  rw [show zI (tkE t e : Int) - zI (tkS t e) = zI ((tkE t e - tkS t e : Nat) : Int) from by rw [zI_sub]; congr 1; omega, zc1]
  simp (disch := omega) only [neq]
  unfold isD
  by_cases a : tkE t e - tkS t e = 1
  · obtain ⟨c1, c2, c3⟩ := q'.c (i := tkS t e) (by omega)
    have hk := kd_le (ch t (tkS t e))
    rw [if_pos a, E_Tx_number_1]
    simp (disch := omega) only [obj_e (z13 q'.1), g4, q'.2.1, idx_n (z14 q'.1), c1]
    rw [calI_e (Tx_kindOf _ h' c2), zc1]
    simp (disch := omega) only [neq]
    by_cases b : kd (ch t (tkS t e)) = 1
    · have hb : 48 ≤ ch t (tkS t e) ∧ ch t (tkS t e) ≤ 57 := by
        unfold kd at b; split at b; omega; split at b; omega; omega
      rw [if_pos b, E_Tx_number_3]
      simp (disch := omega) only [obj_e (z13 q'.1), g4, q'.2.1, idx_n (z14 q'.1), c1, lt_e, zI_sub, ylt]
      by_cases x : (ch t (tkS t e) : Int) - 48 < lim
      · rw [if_pos x, E_Tx_number_4, E_Tx_number_6, if_pos (by omega)]
      · rw [if_neg x, E_Tx_number_5, E_Tx_number_6, if_neg (by omega)]
    · have hb : ¬ (48 ≤ ch t (tkS t e) ∧ ch t (tkS t e) ≤ 57) := by
        unfold kd at b; split at b; omega; split at b; omega; omega
      rw [if_neg b, E_Tx_number_2, if_neg (by omega)]
  · rw [if_neg a, E_Tx_number_2, if_neg (by omega)]
theorem isW1 (t : List Nat) (s e c : Nat) : isW t s e [c] = (e == s + 1 && ch t s == c) := by unfold isW; simp [List.range_succ]
theorem Tx_letter (d : Nat) {h : AH} {t : List Nat} {e : Nat} (q : TXQ h t) (he : e ≤ t.length) (h5 : hI h 13 5 = zI e) : ∃ h', Cc (d + 7) k_Tx_letter [aR (some 13)] h = some (some (aI (zI (isL t (tkS t e) (tkE t e)))), h') ∧ xfr fT h h' ∧ hI h' 13 4 = zI (tkS t e) ∧ hI h' 13 5 = zI (tkE t e) ∧ TXQ h' t := by
  obtain ⟨h', e1, f, g4, g5, q'⟩ := Tx_advance (d + 4) q he h5
  refine ⟨h', ?_, f, g4, g5, q'⟩
  obtain ⟨b1, b2, b3, b4⟩ := tk_b he
  rw [C_Tx_letter, E_Tx_letter_0, obj_e (z13 q.1), calV_e e1, obj_e (z13 q'.1), calI_e (Tx_isWord d q' g4 g5 b2 b3 (k := 3) (by omega) rfl (by decide) (by decide)), if01, isW1]
  unfold isL
  by_cases a : tkE t e = tkS t e + 1
  · rw [show (tkE t e == tkS t e + 1) = true from beq_iff_eq.mpr a, Bool.true_and]
    by_cases c1 : ch t (tkS t e) = 97
    · rw [if_pos (beq_iff_eq.mpr c1), E_Tx_letter_1, if_pos (by omega), c1]; rfl
    · rw [if_neg (by rw [beq_iff_eq]; exact c1), E_Tx_letter_2, obj_e (z13 q'.1), calI_e (Tx_isWord d q' g4 g5 b2 b3 (k := 4) (by omega) rfl (by decide) (by decide)), if01, isW1, show (tkE t e == tkS t e + 1) = true from beq_iff_eq.mpr a, Bool.true_and]
      by_cases c2 : ch t (tkS t e) = 98
      · rw [if_pos (beq_iff_eq.mpr c2), E_Tx_letter_3, if_pos (by omega), c2]; rfl
      · rw [if_neg (by rw [beq_iff_eq]; exact c2), E_Tx_letter_4, obj_e (z13 q'.1), calI_e (Tx_isWord d q' g4 g5 b2 b3 (k := 5) (by omega) rfl (by decide) (by decide)), if01, isW1, show (tkE t e == tkS t e + 1) = true from beq_iff_eq.mpr a, Bool.true_and]
        by_cases c3 : ch t (tkS t e) = 99
        · rw [if_pos (beq_iff_eq.mpr c3), E_Tx_letter_5, E_Tx_letter_7, if_pos (by omega), c3]; rfl
        · rw [if_neg (by rw [beq_iff_eq]; exact c3), E_Tx_letter_6, E_Tx_letter_7, if_neg (by omega)]
  · have e0 : (tkE t e == tkS t e + 1) = false := beq_eq_false_iff_ne.mpr a
    rw [e0, Bool.false_and, if_neg (by simp), E_Tx_letter_2, obj_e (z13 q'.1), calI_e (Tx_isWord d q' g4 g5 b2 b3 (k := 4) (by omega) rfl (by decide) (by decide)), if01, isW1, e0, Bool.false_and, if_neg (by simp), E_Tx_letter_4, obj_e (z13 q'.1), calI_e (Tx_isWord d q' g4 g5 b2 b3 (k := 5) (by omega) rfl (by decide) (by decide)), if01, isW1, e0, Bool.false_and, if_neg (by simp), E_Tx_letter_6, E_Tx_letter_7, if_neg (by omega)]
/-- the test: 3, 4, a register, or -1 at the place of the fault -/
theorem Tx_test (d : Nat) {h : AH} {t : List Nat} {e nr : Nat} (q : TXQ h t) (he : e ≤ t.length) (h5 : hI h 13 5 = zI e) (hn : nr ≤ 3) : ∃ h' v, Cc (d + 7) k_Tx_test [aR (some 13), aI (zI nr)] h = some (some (aI (zI v)), h') ∧ xfr fT h h' ∧ TXQ h' t ∧
    match PT t nr e with
    | .inl s => v = -1 ∧ hI h' 13 4 = zI s
    | .inr (k, e2) => v = k ∧ hI h' 13 5 = zI e2 := by
  obtain ⟨h', e1, f, g4, g5, q'⟩ := Tx_advance (d + 4) q he h5
  obtain ⟨b1, b2, b3, b4⟩ := tk_b he
  rw [C_Tx_test, E_Tx_test_0, obj_e (z13 q.1), calV_e e1, obj_e (z13 q'.1), calI_e (Tx_isWord d q' g4 g5 b2 b3 (k := 6) (w := wNew) (by omega) rfl (by decide) (by decide)), if01]
  unfold PT
  by_cases a : isW t (tkS t e) (tkE t e) wNew = true
  · rw [if_pos a, if_pos a]
    exact ⟨h', 3, by rw [E_Tx_test_1], f, q', rfl, g5⟩
  rw [if_neg a, if_neg a, E_Tx_test_2, obj_e (z13 q'.1), calI_e (Tx_isWord d q' g4 g5 b2 b3 (k := 7) (w := wAny) (by omega) rfl (by decide) (by decide)), if01]
  by_cases b : isW t (tkS t e) (tkE t e) wAny = true
  · rw [if_pos b, if_pos b]
    exact ⟨h', 4, by rw [E_Tx_test_3], f, q', rfl, g5⟩
  rw [if_neg b, if_neg b, E_Tx_test_4, obj_e (z13 q'.1), calI_e (Tx_isWord d q' g4 g5 b2 b3 (k := 8) (w := wIs) (by omega) rfl (by decide) (by decide)), if01]
  by_cases c : isW t (tkS t e) (tkE t e) wIs = true
  · rw [if_pos c, if_pos c]
    obtain ⟨h2, e2, f2, k4, k5, q2⟩ := Tx_number (d + 3) q' b3 g5 (lim := nr) (by omega)
    have db := isD_b t (tkS t (tkE t e)) (tkE t (tkE t e)) nr
    refine ⟨h2, isD t (tkS t (tkE t e)) (tkE t (tkE t e)) nr, by rw [E_Tx_test_5, obj_e (z13 q'.1), calI_e e2, E_Tx_test_7], f.tr f2, q2, ?_⟩
    by_cases x : isD t (tkS t (tkE t e)) (tkE t (tkE t e)) nr < 0
    · rw [if_pos x]; exact ⟨by omega, k4⟩
    · rw [if_neg x]; exact ⟨by omega, k5⟩
  · rw [if_neg c, if_neg c]
    exact ⟨h', -1, by rw [E_Tx_test_6, E_Tx_test_7], f, q', rfl, g4⟩
def fM (n a j : Nat) : Prop := (a = 13 ∧ (j = 3 ∨ j = 4 ∨ j = 5)) ∨ (a = 15 ∧ n * 5 ≤ j ∧ j < n * 5 + 5)
theorem fr0 {h : AH} : (if zI 0 = 0 ∨ zI 0 = 1 then some (some (aI (zI 0)), h) else none : Option AR) = some (some (aI (zI 0)), h) := if_pos (Or.inl rfl)
theorem fr1 {h : AH} : (if zI 1 = 0 ∨ zI 1 = 1 then some (some (aI (zI 1)), h) else none : Option AR) = some (some (aI (zI 1)), h) := if_pos (Or.inr rfl)
theorem RD_x {F : Nat → Nat → Prop} {h h' : AH} {a : Nat} {r : Rdr} (p : RD h a r) (ha : a ≤ 9) (f : xfr F h h') (n : ∀ b j, F b j → 13 ≤ b) : RD h' a r :=
  p.fr (f.f (G := fun b => 13 ≤ b) n) (fun b h1 h2 => by omega)
theorem Tx_parseMove (d : Nat) {h : AH} {t : List Nat} {e n a : Nat} {r : Rdr} (q : TXQ h t) (rd : RD h a r) (ha : a ≤ 9) (he : e ≤ t.length) (h5 : hI h 13 5 = zI e) (h3 : hI h 13 3 = zI n) (hn : n < 20) :
    ∃ h' v, Cc (d + 8) k_Tx_parseMove [aR (some 13), aR (some a)] h = some (some (aI (zI v)), h') ∧ xfr (fM n) h h' ∧ TXQ h' t ∧
    match PM t r.1 r.2.1 e with
    | .inl s => v = 0 ∧ hI h' 13 4 = zI s ∧ hI h' 13 3 = zI n
    | .inr (m, e2) => v = 1 ∧ hI h' 13 5 = zI e2 ∧ hI h' 13 3 = zI ((n + 1 : Nat) : Int) ∧ mvAt h' 15 n m := by
  have hr := rd.1
  have r1 : r.1 ≤ 6 := hr.2.1
  have r2 : r.2.1 ≤ 3 := hr.2.2.1
  have fTM : ∀ a j, fT a j → fM n a j := by intro a j; unfold fT fM; omega
  have f13 : ∀ b j, fT b j → 13 ≤ b := by intro b j; unfold fT; omega
  have n3 : ¬ fT 13 3 := by unfold fT; omega
  obtain ⟨h1, c1, f1, g14, g15, q1⟩ := Tx_number (d + 4) q he h5 (lim := r.1) r1
  have rd1 := RD_x rd ha f1 f13
  obtain ⟨b11, b12, b13, b14⟩ := tk_b he
  have d1 := isD_b t (tkS t e) (tkE t e) r.1
  rw [C_Tx_parseMove, E_Tx_parseMove_0, obj_e (z13 q.1), h3, lt_e, show zI (n : Int) * zI 5 = zI ((n * 5 : Nat) : Int) from zI_mul _ _, obj_e rd.2.1.1, calI_e (Rd_states _ rd), obj_e (z13 q.1), calI_e c1, lt_e]
  simp (disch := omega) only [ylt0]
  unfold PM
  by_cases a1 : isD t (tkS t e) (tkE t e) r.1 < 0
  · rw [if_pos a1, if_pos a1]
    exact ⟨h1, 0, by rw [E_Tx_parseMove_2, fr0], f1.mo fTM, q1, rfl, g14, by rw [f1.I n3]; exact h3⟩
  rw [if_neg a1, if_neg a1, E_Tx_parseMove_1, obj_e (z13 q1.1), q1.2.2.1, mb_some, aln_0 (z15 q1.1), mb_some, zI_nI, show zI ((n * 5 : Nat) : Int) + zI 5 = zI ((n * 5 + 5 : Nat) : Int) from zI_add _ _]
  simp (disch := omega) only [nle]
  rw [if_pos (by omega), E_Tx_parseMove_3, obj_e (z13 q1.1)]
  obtain ⟨h2, c2, f2, g24, g25, q2⟩ := Tx_letter d q1 b13 g15
  have f12 := f1.tr f2
  obtain ⟨b21, b22, b23, b24⟩ := tk_b b13
  have d2 := isL_b t (tkS t (tkE t e)) (tkE t (tkE t e))
  rw [calI_e c2, lt_e]
  simp (disch := omega) only [ylt0]
  by_cases a2 : isL t (tkS t (tkE t e)) (tkE t (tkE t e)) < 0
  · rw [if_pos a2, if_pos a2]
    exact ⟨h2, 0, by rw [E_Tx_parseMove_4, fr0], f12.mo fTM, q2, rfl, g24, by rw [f12.I n3]; exact h3⟩
  have rd2 := RD_x rd ha f12 f13
  rw [if_neg a2, if_neg a2, E_Tx_parseMove_5, obj_e rd2.2.1.1, calI_e (Rd_registers _ rd2), obj_e (z13 q2.1)]
  obtain ⟨h3', v3, c3, f3, q3, m3⟩ := Tx_test d q2 b23 g25 (nr := r.2.1) r2
  have f13' := f12.tr f3
  rw [calI_e c3, lt_e]
  cases pt : PT t r.2.1 (tkE t (tkE t e)) with
  | inl s3 =>
    rw [pt] at m3
    obtain ⟨rfl, g34⟩ := m3
    rw [if_pos (by decide)]
    exact ⟨h3', 0, by rw [E_Tx_parseMove_6, fr0], f13'.mo fTM, q3, rfl, g34, by rw [f13'.I n3]; exact h3⟩
  | inr ke =>
    obtain ⟨k, e3⟩ := ke
    rw [pt] at m3
    obtain ⟨rfl, g35⟩ := m3
    have bt3 := PT_b b23 pt
    simp (disch := omega) only [nlt0, if_false]
    rw [E_Tx_parseMove_7, lt_e, obj_e (z13 q3.1)]
    obtain ⟨h4, c4, f4, g44, g45, q4⟩ := Tx_advance (d + 5) q3 bt3.2.1 g35
    have f14' := f13'.tr f4
    have rd4 := RD_x rd ha f14' f13
    obtain ⟨b41, b42, b43, b44⟩ := tk_b bt3.2.1
    rw [calV_e c4, obj_e (z13 q4.1), calI_e (Tx_isWord (d + 1) q4 g44 g45 b42 b43 (k := 1) (w := wKeep) (by omega) rfl (by decide) (by decide)), if01]
    -- the end of a move
    have fin : ∀ (kp : Int) (e5 : Nat) (h6 : AH), -1 ≤ kp → kp < 3 → e5 ≤ t.length → xfr fT h h6 → TXQ h6 t → hI h6 13 4 = zI (tkS t e5) → hI h6 13 5 = zI (tkE t e5) → ∃ h' v, Rk B_Tx_parseMove L_Tx_parseMove (Cc (d + 7)) 11 [aR (some 13), aR (some a), aI (zI ((n * 5 : Nat) : Int)), aI (zI (isD t (tkS t e) (tkE t e) r.1)), aI (zI (isL t (tkS t (tkE t e)) (tkE t (tkE t e)))), aI (zI k), aI (zI kp), aU] [] h6 = some (some (aI (zI v)), h') ∧ xfr (fM n) h h' ∧ TXQ h' t ∧
        match (if isW t (tkS t e5) (tkE t e5) wTo then
        (if isD t (tkS t (tkE t e5)) (tkE t (tkE t e5)) r.1 < 0 then .inl (tkS t (tkE t e5)) else .inr (((isD t (tkS t e) (tkE t e) r.1).toNat, (isL t (tkS t (tkE t e)) (tkE t (tkE t e))).toNat, k, kp, (isD t (tkS t (tkE t e5)) (tkE t (tkE t e5)) r.1).toNat), tkE t (tkE t e5)))
        else .inl (tkS t e5) : Nat ⊕ (Mv × Nat)) with
        | .inl s => v = 0 ∧ hI h' 13 4 = zI s ∧ hI h' 13 3 = zI n
        | .inr (m, e2) => v = 1 ∧ hI h' 13 5 = zI e2 ∧ hI h' 13 3 = zI ((n + 1 : Nat) : Int) ∧ mvAt h' 15 n m := by
      intro kp e5 h6 kp1 kp2 he5 f6 q6 g64 g65
      have rd6 := RD_x rd ha f6 f13
      obtain ⟨b61, b62, b63, b64⟩ := tk_b he5
      rw [E_Tx_parseMove_11, obj_e (z13 q6.1), calI_e (Tx_isWord (d + 1) q6 g64 g65 b62 b63 (k := 2) (w := wTo) (by omega) rfl (by decide) (by decide)), if01]
      by_cases x : isW t (tkS t e5) (tkE t e5) wTo = true
      · rw [if_pos x, if_pos x, E_Tx_parseMove_13, obj_e rd6.2.1.1, calI_e (Rd_states _ rd6), obj_e (z13 q6.1)]
        obtain ⟨h7, c7, f7, g74, g75, q7⟩ := Tx_number (d + 4) q6 b63 g65 (lim := r.1) r1
        have f17 := f6.tr f7
        have d7 := isD_b t (tkS t (tkE t e5)) (tkE t (tkE t e5)) r.1
        rw [calI_e c7, lt_e]
        simp (disch := omega) only [ylt0]
        have k3 : hI h7 13 3 = zI n := by rw [f17.I n3]; exact h3
        by_cases y : isD t (tkS t (tkE t e5)) (tkE t (tkE t e5)) r.1 < 0
        · rw [if_pos y, if_pos y]
          exact ⟨h7, 0, by rw [E_Tx_parseMove_14, fr0], f17.mo fTM, q7, rfl, g74, k3⟩
        · rw [if_neg y, if_neg y, E_Tx_parseMove_15]
          rw [show zI ((n * 5 : Nat) : Int) + zI 0 = zI ((n * 5 + 0 : Nat) : Int) from zI_add _ _, show zI ((n * 5 : Nat) : Int) + zI 1 = zI ((n * 5 + 1 : Nat) : Int) from zI_add _ _, show zI ((n * 5 : Nat) : Int) + zI 2 = zI ((n * 5 + 2 : Nat) : Int) from zI_add _ _, show zI ((n * 5 : Nat) : Int) + zI 3 = zI ((n * 5 + 3 : Nat) : Int) from zI_add _ _, show zI ((n * 5 : Nat) : Int) + zI 4 = zI ((n * 5 + 4 : Nat) : Int) from zI_add _ _]
          simp (disch := omega) only [obj_e (z13 q7.1), obj_sI, hR_sI, q7.2.2.1, idx_sI, idx_n (z15 q7.1), lt_e, mb_some, hI_off, k3, nadd1]
          have f8 : xfr (fM n) h7 (sI (sI (sI (sI (sI (sI h7 15 (n * 5 + 0) (zI (isD t (tkS t e) (tkE t e) r.1))) 15 (n * 5 + 1) (zI (isL t (tkS t (tkE t e)) (tkE t (tkE t e))))) 15 (n * 5 + 2) (zI k)) 15 (n * 5 + 3) (zI kp)) 15 (n * 5 + 4) (zI (isD t (tkS t (tkE t e5)) (tkE t (tkE t e5)) r.1))) 13 3 (zI ((n + 1 : Nat) : Int))) :=
            (((((xfr_sI h7 (by unfold fM; omega) _).tr (xfr_sI _ (by unfold fM; omega) _)).tr (xfr_sI _ (by unfold fM; omega) _)).tr (xfr_sI _ (by unfold fM; omega) _)).tr (xfr_sI _ (by unfold fM; omega) _)).tr (xfr_sI _ (by unfold fM; omega) _)
          refine ⟨_, 1, fr1, (f17.mo fTM).tr f8, q7.mv f8 (by unfold fM; omega) (by unfold fM; omega), rfl, ?_, hI_hit _ _ _ _, ?_⟩
          · rw [hI_off (by omega), hI_off (by omega), hI_off (by omega), hI_off (by omega), hI_off (by omega), hI_off (by omega)]; exact g75
          · refine ⟨?_, ?_, ?_, ?_, ?_⟩
            · rw [hI_off (by omega), hI_off (by omega), hI_off (by omega), hI_off (by omega), hI_off (by omega), hI_hit]
              show zI _ = zI (((isD t (tkS t e) (tkE t e) r.1).toNat : Nat) : Int)
              congr 1; omega
            · rw [hI_off (by omega), hI_off (by omega), hI_off (by omega), hI_off (by omega), hI_hit]
              show zI _ = zI (((isL t (tkS t (tkE t e)) (tkE t (tkE t e))).toNat : Nat) : Int)
              congr 1; omega
            · rw [hI_off (by omega), hI_off (by omega), hI_off (by omega), hI_hit]
            · rw [hI_off (by omega), hI_off (by omega), hI_hit]
            · rw [hI_off (by omega), hI_hit]
              show zI _ = zI (((isD t (tkS t (tkE t e5)) (tkE t (tkE t e5)) r.1).toNat : Nat) : Int)
              congr 1; omega
      · rw [if_neg x, if_neg x]
        exact ⟨h6, 0, by rw [E_Tx_parseMove_12, fr0], f6.mo fTM, q6, rfl, g64, by rw [f6.I n3]; exact h3⟩
    unfold PK
    by_cases x : isW t (tkS t e3) (tkE t e3) wKeep = true
    · rw [if_pos x, if_pos x, E_Tx_parseMove_8, obj_e rd4.2.1.1, calI_e (Rd_registers _ rd4), obj_e (z13 q4.1)]
      obtain ⟨h5', c5, f5, g54, g55, q5⟩ := Tx_number (d + 4) q4 b43 g45 (lim := r.2.1) (by omega)
      have f15 := f14'.tr f5
      obtain ⟨b51, b52, b53, b54⟩ := tk_b b43
      have d5 := isD_b t (tkS t (tkE t e3)) (tkE t (tkE t e3)) r.2.1
      rw [calI_e c5, lt_e]
      simp (disch := omega) only [ylt0]
      by_cases y : isD t (tkS t (tkE t e3)) (tkE t (tkE t e3)) r.2.1 < 0
      · rw [if_pos y, if_pos y]
        exact ⟨h5', 0, by rw [E_Tx_parseMove_9, fr0], f15.mo fTM, q5, rfl, g54, by rw [f15.I n3]; exact h3⟩
      · rw [if_neg y, if_neg y, E_Tx_parseMove_10, obj_e (z13 q5.1)]
        obtain ⟨h6, c6, f6, g64, g65, q6⟩ := Tx_advance (d + 5) q5 b53 g55
        rw [calV_e c6]
        exact fin _ _ h6 (by omega) (by omega) b53 (f15.tr f6) q6 g64 g65
    · rw [if_neg x, if_neg x]
      exact fin (-1) e3 h4 (by omega) (by omega) bt3.2.1 f14' q4 g44 g45
