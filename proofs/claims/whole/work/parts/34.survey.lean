/-! Row.survey and what uses it -/
theorem gp1_le (p : Int × Int) : gp1 p ≤ 2 := by unfold gp1; split <;> split <;> omega
theorem gp2_le (p : Int × Int) : gp2 p ≤ 1 := by unfold gp2; split <;> omega
theorem gaps_le {w : Rw} (hw : WV w) (i : Nat) : gaps (w.take i) ≤ 24 ∧ gapPairs (w.take i) ≤ 12 := by
  have h1 := sm_le gp1_le (w.take i)
  have h2 := sm_le gp2_le (w.take i)
  have h3 := hw.1
  rw [List.length_take] at h1 h2
  unfold gaps gapPairs
  omega
theorem idn16 {w : Rw} (hw : WV w) (n : Int) : idn w n < 16 := by
  have h1 := idn_le w n
  have h2 := tn_len w
  have h3 := hw.1
  omega
theorem survey_1 (d : Nat) {w : Rw} (hw : WV w) : ∀ (k i : Nat) (h : AH), i + k = w.length → RWs h → RWd h w → hI h 16 4 = zI w.length → hI h 16 5 = zI (tn (w.take i)).length → hI h 16 6 = zI (gaps (w.take i)) → hI h 16 7 = zI (gapPairs (w.take i)) → (∀ j q, j < i → w[j]? = some q → hI h 19 j = zI (idn w q.2)) →
    ∃ h', Rk B_Rw_survey L_Rw_survey (Cc (d + 1)) 1 [aR (some 16), aI (zI i)] [] h = Rk B_Rw_survey L_Rw_survey (Cc (d + 1)) 12 [aR (some 16), aU] [] h' ∧ fr (fun b => b = 16 ∨ b = 19) h h' ∧ (∀ j, hR h' 16 j = hR h 16 j) ∧ hI h' 16 4 = zI w.length ∧ hI h' 16 5 = zI (tn w).length ∧ hI h' 16 6 = zI (gaps w) ∧ hI h' 16 7 = zI (gapPairs w) ∧ (∀ j q, w[j]? = some q → hI h' 19 j = zI (idn w q.2))
  | 0, i, h, hk, hs, hd, h4, h5, h6, h7, hid => by
    have hi : i = w.length := by omega
    have hl := hw.1
    subst hi
    rw [List.take_length] at h5 h6 h7
    refine ⟨h, ?_, fr.rf _ h, fun _ => rfl, h4, h5, h6, h7, ?_⟩
    · rw [E_Rw_survey_1, obj_e hs.1, h4]
      simp (disch := omega) only [nlt]
      rw [if_neg (by omega)]
    · intro j q hq
      exact hid j q (hw.at hq).2.1 hq
  | k + 1, i, h, hk, hs, hd, h4, h5, h6, h7, hid => by
    obtain ⟨s0, s1, s2, s3, s4, r0, r1, r2, r3⟩ := id hs
    have hl := hw.1
    have hp : w[i]? = some w[i] := List.getElem?_eq_getElem (by omega)
    obtain ⟨v0, v00, v1, v2, v3, v4⟩ := hw.at hp
    obtain ⟨h1, e1, c1, t1⟩ := Rw_idAt d hw hs hd hp h5 hid
    have g := gaps_le hw i
    have f1 : fr (fun b => b = 16) h h1 := by rcases c1 with rfl | rfl; exact fr.rf _ _; exact fr_sI (F := fun b => b = 16) h rfl _ _
    have i1 : ∀ j, j ≠ 5 → hI h1 16 j = hI h 16 j := by intro j hj; rcases c1 with rfl | rfl; rfl; exact hI_off (Or.inr hj)
    have q1 : ∀ j, hR h1 16 j = hR h 16 j := by intro j; rcases c1 with rfl | rfl <;> rfl
    have hs1 : RWs h1 := by unfold RWs at *; rw [f1.1, q1, q1, q1, q1]; exact hs
    obtain ⟨t0, t1', t2, t3, t4, u0, u1, u2, u3⟩ := id hs1
    have hd1 : RWd h1 w := by unfold RWd at *; simp only [f1.I (show ¬ (17 = 16) by omega), f1.I (show ¬ (18 = 16) by omega)]; exact hd
    have g1 := gp1_le w[i]
    have g2 := gp2_le w[i]
    -- the heap behind one pair
    let h2 := sI (sI (sI h1 19 i (zI (idn w w[i].2))) 16 6 (zI ((gaps (w.take i) + gp1 w[i] : Nat) : Int))) 16 7 (zI ((gapPairs (w.take i) + gp2 w[i] : Nat) : Int))
    have f2 : fr (fun b => b = 16 ∨ b = 19) h h2 := (((f1.mo fun b hb => Or.inl hb).tr (fr_sI _ (Or.inr rfl) _ _)).tr (fr_sI _ (Or.inl rfl) _ _)).tr (fr_sI _ (Or.inl rfl) _ _)
    obtain ⟨h', e, f, qq, a4, a5, a6, a7, a8⟩ := survey_1 d hw k (i + 1) h2 (by omega) hs1 (by
        unfold RWd at *; simp only [f2.I (show ¬ (17 = 16 ∨ 17 = 19) by omega), f2.I (show ¬ (18 = 16 ∨ 18 = 19) by omega)]; exact hd)
      (by show hI (sI (sI (sI h1 19 i _) 16 6 _) 16 7 _) 16 4 = _; rw [hI_off (by omega), hI_off (by omega), hI_off (by omega), i1 4 (by omega)]; exact h4)
      (by show hI (sI (sI (sI h1 19 i _) 16 6 _) 16 7 _) 16 5 = _; rw [hI_off (by omega), hI_off (by omega), hI_off (by omega)]; exact t1)
      (by show hI (sI (sI (sI h1 19 i _) 16 6 _) 16 7 _) 16 6 = _; rw [hI_off (by omega), hI_hit]; unfold gaps; rw [sm_take hp])
      (by show hI (sI (sI (sI h1 19 i _) 16 6 _) 16 7 _) 16 7 = _; rw [hI_hit]; unfold gapPairs; rw [sm_take hp])
      (by
        intro j q hj hq
        show hI (sI (sI (sI h1 19 i _) 16 6 _) 16 7 _) 19 j = _
        rw [hI_off (by omega), hI_off (by omega)]
        by_cases z : j = i
        · subst z; rw [hI_hit]; rw [hp] at hq; cases hq; rfl
        · rw [hI_off (by omega), f1.I (by omega)]; exact hid j q (by omega) hq)
    refine ⟨h', ?_, f2.tr f, fun j => by rw [qq]; exact q1 j, a4, a5, a6, a7, a8⟩
    rw [← e, E_Rw_survey_1, obj_e s0, h4]
    simp (disch := omega) only [nlt]
    rw [if_pos (by omega), E_Rw_survey_2, obj_e s0, obj_e s0, calI_e e1, r2]
    simp (disch := omega) only [idx_n t3, lt_e, obj_sI, obj_e t0, hR_sI, u0, idx_sI, idx_n t1', hI_off]
    rw [(hd1 i _ hp).1, i1 6 (by omega), h6]
    simp (disch := omega) only [yeq]
    have st5 : ∀ y : Nat, y = (if w[i].1 = -1 then 1 else 0) → Rk B_Rw_survey L_Rw_survey (Cc (d + 1)) 5 [aR (some 16), aI (zI i)] [aI (zI y), aI (zI (gaps (w.take i))), aR (some 16)] (sI h1 19 i (zI (idn w w[i].2))) = Rk B_Rw_survey L_Rw_survey (Cc (d + 1)) 1 [aR (some 16), aI (zI ((i + 1 : Nat) : Int))] [] h2 := by
      intro y hy
      have st8 : ∀ z : Nat, z = (if w[i].2 = -1 then 1 else 0) → Rk B_Rw_survey L_Rw_survey (Cc (d + 1)) 8 [aR (some 16), aI (zI i)] [aI (zI z), aI (zI y), aI (zI (gaps (w.take i))), aR (some 16)] (sI h1 19 i (zI (idn w w[i].2))) = Rk B_Rw_survey L_Rw_survey (Cc (d + 1)) 1 [aR (some 16), aI (zI ((i + 1 : Nat) : Int))] [] h2 := by
        intro z hz
        have hg : gaps (w.take i) + (y + z) = gaps (w.take i) + gp1 w[i] := by unfold gp1; omega
        have hd3 : RWd (sI (sI h1 19 i (zI (idn w w[i].2))) 16 6 (zI ((gaps (w.take i) + gp1 w[i] : Nat) : Int))) w := by
          intro j q hq
          rw [hI_off (by omega), hI_off (by omega), hI_off (by omega), hI_off (by omega)]
          exact hd1 j q hq
        rw [E_Rw_survey_8]
        simp only [obj_sI, obj_e t0, mb_some, nadd, hg]
        rw [calI_e (Rw_hasGap d hw (by exact hs1) hd3 hp), hI_off (by omega), hI_off (by omega), i1 7 (by omega), h7]
        have st11 : ∀ x : Nat, x = gp2 w[i] → Rk B_Rw_survey L_Rw_survey (Cc (d + 1)) 11 [aR (some 16), aI (zI i)] [aI (zI x), aI (zI (gapPairs (w.take i))), aR (some 16)] (sI (sI h1 19 i (zI (idn w w[i].2))) 16 6 (zI ((gaps (w.take i) + gp1 w[i] : Nat) : Int))) = Rk B_Rw_survey L_Rw_survey (Cc (d + 1)) 1 [aR (some 16), aI (zI ((i + 1 : Nat) : Int))] [] h2 := by
          intro x hx
          rw [E_Rw_survey_11]
          simp only [obj_sI, obj_e t0, mb_some, nadd, lt_e, nadd1, hx]
          rfl
        simp (disch := omega) only [neq0]
        by_cases x : gp2 w[i] = 0
        · rw [if_pos x, E_Rw_survey_10]; exact st11 0 x.symm
        · rw [if_neg x, E_Rw_survey_9]; exact st11 1 (by omega)
      rw [E_Rw_survey_5]
      simp (disch := omega) only [obj_sI, obj_e t0, hR_sI, u1, idx_sI, idx_n t2, hI_off]
      rw [(hd1 i _ hp).2]
      simp (disch := omega) only [yeq]
      by_cases x : w[i].2 = -1
      · rw [if_pos x, E_Rw_survey_6]; exact st8 1 (by rw [if_pos x])
      · rw [if_neg x, E_Rw_survey_7]; exact st8 0 (by rw [if_neg x])
    by_cases x : w[i].1 = -1
    · rw [if_pos x, E_Rw_survey_3]; exact st5 1 (by rw [if_pos x])
    · rw [if_neg x, E_Rw_survey_4]; exact st5 0 (by rw [if_neg x])
/-- the way back: which names may still come -/
theorem survey_2 (d : Nat) {w : Rw} (hw : WV w) : ∀ (k : Nat) (h : AH), k ≤ w.length → RWs h → RWd h w → (∀ j q, w[j]? = some q → hI h 19 j = zI (idn w q.2)) → (∀ j, k ≤ j → j ≤ w.length → hI h 20 j = zI (alv (idn w) (w.drop j))) →
    ∃ h', Rk B_Rw_survey L_Rw_survey (Cc (d + 1)) 13 [aR (some 16), aI (zI ((k : Int) - 1))] [] h = some (none, h') ∧ fr (fun b => b = 20) h h' ∧ (∀ j, j ≤ w.length → hI h' 20 j = zI (alv (idn w) (w.drop j)))
  | 0, h, hk, hs, hd, hid, ha => by
    refine ⟨h, ?_, fr.rf _ h, fun j hj => ha j (by omega) hj⟩
    rw [E_Rw_survey_13, if_pos (by decide), E_Rw_survey_18]
  | k + 1, h, hk, hs, hd, hid, ha => by
    obtain ⟨s0, s1, s2, s3, s4, r0, r1, r2, r3⟩ := id hs
    have hl := hw.1
    have hp : w[k]? = some w[k] := List.getElem?_eq_getElem (by omega)
    obtain ⟨v0, v00, v1, v2, v3, v4⟩ := hw.at hp
    have hdr : w.drop k = w[k] :: w.drop (k + 1) := List.drop_eq_getElem_cons (by omega)
    have e0 : (((k + 1 : Nat) : Int) - 1) = (k : Int) := by omega
    rw [e0]
    have f1 : fr (fun b => b = 20) h (sI h 20 k (zI (alv (idn w) (w.drop k)))) := fr_sI (F := fun b => b = 20) h rfl _ _
    obtain ⟨h', e, f, g⟩ := survey_2 d hw k (sI h 20 k (zI (alv (idn w) (w.drop k)))) (by omega) hs (by
        unfold RWd at *; simp only [f1.I (show ¬ (17 = 20) by omega), f1.I (show ¬ (18 = 20) by omega)]; exact hd) (by simp only [f1.I (show ¬ (19 = 20) by omega)]; exact hid) (by
        intro j h1 h2
        by_cases z : j = k
        · subst z; rw [hI_hit]
        · rw [hI_off (by omega)]; exact ha j (by omega) h2)
    refine ⟨h', ?_, f1.tr f, g⟩
    rw [E_Rw_survey_13]
    simp (disch := omega) only [nlt0, if_false]
    rw [E_Rw_survey_14]
    simp (disch := omega) only [obj_e s0, r1, idx_n s2]
    rw [(hd k _ hp).2]
    simp (disch := omega) only [yeq]
    have st17 : Rk B_Rw_survey L_Rw_survey (Cc (d + 1)) 17 [aR (some 16), aI (zI k)] [aI (zI (alv (idn w) (w.drop k))), aI (zI k), aR (some 20)] h = some (none, h') := by
      rw [E_Rw_survey_17]
      simp (disch := omega) only [idx_n s4, lt_e]
      rw [show zI k + zI (-1) = zI ((k : Int) - 1) from zI_add _ _]
      exact e
    by_cases x : w[k].2 = -1
    · rw [if_pos x, E_Rw_survey_15, r3]
      rw [hdr, alv, if_pos x, ] at st17
      exact st17
    · rw [if_neg x, E_Rw_survey_16]
      simp (disch := omega) only [obj_e s0, r3, nadd1, idx_n s4, r2, idx_n s3]
      rw [hid k _ hp, ha (k + 1) (by omega) (by omega)]
      have hf := idn16 hw w[k].2
      obtain ⟨-, ho⟩ := alv_al (idn16 hw) (w.drop (k + 1))
      rw [show zI 1 <<< (zI (idn w w[k].2) &&& 31) = zI ((1 * 2 ^ idn w w[k].2 : Nat) : Int) from nshl (n := 1) (by omega), Nat.one_mul]
      have e1 : zI (alv (idn w) (w.drop (k + 1))) ||| zI ((2 ^ idn w w[k].2 : Nat) : Int) = zI (alv (idn w) (w.drop k)) := by
        rw [hdr]
        show _ = zI (if w[k].2 = -1 then -1 else if alv (idn w) (w.drop (k + 1)) = -1 then -1 else (((alv (idn w) (w.drop (k + 1))).toNat ||| 2 ^ idn w w[k].2 : Nat) : Int))
        rw [if_neg x]
        by_cases y : alv (idn w) (w.drop (k + 1)) = -1
        · rw [if_pos y, y]
          apply Int32.toBitVec_inj.mp
          show (zI (-1)).toBitVec ||| _ = (zI (-1)).toBitVec
          rw [show (zI (-1)).toBitVec = BitVec.allOnes 32 from by decide]
          exact BitVec.allOnes_or
        · rw [if_neg y]
          have hp2 : 2 ^ idn w w[k].2 < 2 ^ 16 := Nat.pow_lt_pow_right (by omega) hf
          obtain ⟨n, hn⟩ : ∃ n : Nat, alv (idn w) (w.drop (k + 1)) = n := ⟨(alv (idn w) (w.drop (k + 1))).toNat, by omega⟩
          rw [hn, zI_or (by omega) (Nat.lt_of_lt_of_le hp2 (by decide))]
          rfl
      rw [e1]
      exact st17
theorem Rw_survey (d : Nat) {h : AH} {w : Rw} (hw : WV w) (hs : RWs h) (hd : RWd h w) (h4 : hI h 16 4 = zI w.length) : ∃ h', Cc (d + 2) k_Rw_survey [aR (some 16)] h = some (none, h') ∧ fr (fun b => b = 16 ∨ b = 19 ∨ b = 20) h h' ∧ RW h' w := by
  obtain ⟨s0, s1, s2, s3, s4, r0, r1, r2, r3⟩ := id hs
  have hl := hw.1
  have f0 : fr (fun b => b = 16) h (sI (sI (sI h 16 5 (zI 0)) 16 6 (zI 0)) 16 7 (zI 0)) := ((fr_sI (F := fun b => b = 16) h rfl _ _).tr (fr_sI (F := fun b => b = 16) _ rfl _ _)).tr (fr_sI (F := fun b => b = 16) _ rfl _ _)
  obtain ⟨h1, e1, f1, q1, a4, a5, a6, a7, a8⟩ := survey_1 d hw w.length 0 (sI (sI (sI h 16 5 (zI 0)) 16 6 (zI 0)) 16 7 (zI 0)) (by omega) hs (by
      unfold RWd at *; simp only [f0.I (show ¬ (17 = 16) by omega), f0.I (show ¬ (18 = 16) by omega)]; exact hd)
    (by rw [hI_off (by omega), hI_off (by omega), hI_off (by omega)]; exact h4) (by rw [hI_off (by omega), hI_off (by omega), hI_hit]; rfl) (by rw [hI_off (by omega), hI_hit]; rfl) (by rw [hI_hit]; rfl) (by intro j q hj; omega)
  have hs1 : RWs h1 := by unfold RWs at *; rw [f1.1, q1, q1, q1, q1]; exact hs
  have f01 : fr (fun b => b = 16 ∨ b = 19) h h1 := (f0.mo fun b hb => Or.inl hb).tr f1
  have hd1 : RWd h1 w := by unfold RWd at *; simp only [f01.I (show ¬ (17 = 16 ∨ 17 = 19) by omega), f01.I (show ¬ (18 = 16 ∨ 18 = 19) by omega)]; exact hd
  obtain ⟨t0, t1, t2, t3, t4, u0, u1, u2, u3⟩ := id hs1
  have f2 : fr (fun b => b = 20) h1 (sI h1 20 w.length (zI 1)) := fr_sI (F := fun b => b = 20) h1 rfl _ _
  have hd2 : RWd (sI h1 20 w.length (zI 1)) w := by unfold RWd at *; simp only [f2.I (show ¬ (17 = 20) by omega), f2.I (show ¬ (18 = 20) by omega)]; exact hd1
  obtain ⟨h2, e2, f3, g⟩ := survey_2 d hw w.length (sI h1 20 w.length (zI 1)) (by omega) hs1 hd2 (by simp only [f2.I (show ¬ (19 = 20) by omega)]; exact a8) (by
    intro j h1 h2
    have : j = w.length := by omega
    subst this
    rw [hI_hit, List.drop_length]; rfl)
  have f4 := f2.tr f3
  refine ⟨h2, ?_, (f01.mo fun b hb => by omega).tr (f4.mo fun b hb => Or.inr (Or.inr hb)), hw, hs1.fr f4 (by omega), by rw [f4.I (by omega)]; exact a4, ?_, ?_⟩
  · rw [C_Rw_survey, E_Rw_survey_0]
    simp only [obj_e s0, mb_some, obj_sI, lt_e]
    refine Eq.trans e1 ?_
    rw [E_Rw_survey_12]
    simp only [obj_e t0, u3, a4]
    simp (disch := omega) only [idx_n t4, lt_e, obj_sI, obj_e t0, hI_off, a4]
    rw [show zI (w.length : Int) - zI 1 = zI ((w.length : Int) - 1) from zI_sub _ _]
    exact e2
  · unfold RWd; simp only [f4.I (show ¬ (17 = 20) by omega), f4.I (show ¬ (18 = 20) by omega)]; exact hd1
  · refine ⟨by rw [f4.I (by omega)]; exact a5, by rw [f4.I (by omega)]; exact a6, by rw [f4.I (by omega)]; exact a7, ?_, fun j hj => g j hj.2⟩
    simp only [f4.I (show ¬ (19 = 20) by omega)]; exact a8
