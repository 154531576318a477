/-! the model: a move, the whole text, fault -/
def fR (n a j : Nat) : Prop := (a = 94 ∧ (j = 9 ∨ j = 20 ∨ j = 21 ∨ j = 22)) ∨ (104 ≤ a ∧ a ≤ 108 ∧ j = n)
def rrow (h : AH) (i : Nat) (m : Mv) : Prop := hI h 104 i = zI m.1 ∧ hI h 105 i = zI m.2.1 ∧ hI h 106 i = zI m.2.2.1 ∧ hI h 107 i = zI m.2.2.2.1 ∧ hI h 108 i = zI m.2.2.2.2
theorem wd_new : ∀ i, i < wNew.length → zI 96 + ((zI ((23726 : Nat) : Int) >>> ((zI 5 * zI ((i : Nat) : Int)) &&& 31)) &&& zI 31) = zI ((wNew.getD i 0 : Nat) : Int) ∧ wNew.getD i 0 < 256 := by decide
theorem wd_any : ∀ i, i < wAny.length → zI 96 + ((zI ((26049 : Nat) : Int) >>> ((zI 5 * zI ((i : Nat) : Int)) &&& 31)) &&& zI 31) = zI ((wAny.getD i 0 : Nat) : Int) ∧ wAny.getD i 0 < 256 := by decide
theorem wd_is : ∀ i, i < wIs.length → zI 96 + ((zI ((617 : Nat) : Int) >>> ((zI 5 * zI ((i : Nat) : Int)) &&& 31)) &&& zI 31) = zI ((wIs.getD i 0 : Nat) : Int) ∧ wIs.getD i 0 < 256 := by decide
theorem wd_keep : ∀ i, i < wKeep.length → zI 96 + ((zI ((529579 : Nat) : Int) >>> ((zI 5 * zI ((i : Nat) : Int)) &&& 31)) &&& zI 31) = zI ((wKeep.getD i 0 : Nat) : Int) ∧ wKeep.getD i 0 < 256 := by decide
theorem wd_to : ∀ i, i < wTo.length → zI 96 + ((zI ((500 : Nat) : Int) >>> ((zI 5 * zI ((i : Nat) : Int)) &&& 31)) &&& zI 31) = zI ((wTo.getD i 0 : Nat) : Int) ∧ wTo.getD i 0 < 256 := by decide
theorem M_new (d : Nat) {h : AH} {t : List Nat} {e : Nat} (q : MTQ h t) (k : TKM h t e) (he : e ≤ t.length) : Cc (d + 1) k_M_isWord [aR (some 94), aI (zI 23726), aI (zI 3)] h = some (some (aI (zI (if isW t (tkS t e) (tkE t e) wNew then 1 else 0))), h) := M_isWord d q k he (by decide) wd_new
theorem M_any (d : Nat) {h : AH} {t : List Nat} {e : Nat} (q : MTQ h t) (k : TKM h t e) (he : e ≤ t.length) : Cc (d + 1) k_M_isWord [aR (some 94), aI (zI 26049), aI (zI 3)] h = some (some (aI (zI (if isW t (tkS t e) (tkE t e) wAny then 1 else 0))), h) := M_isWord d q k he (by decide) wd_any
theorem M_is (d : Nat) {h : AH} {t : List Nat} {e : Nat} (q : MTQ h t) (k : TKM h t e) (he : e ≤ t.length) : Cc (d + 1) k_M_isWord [aR (some 94), aI (zI 617), aI (zI 2)] h = some (some (aI (zI (if isW t (tkS t e) (tkE t e) wIs then 1 else 0))), h) := M_isWord d q k he (by decide) wd_is
theorem M_keep (d : Nat) {h : AH} {t : List Nat} {e : Nat} (q : MTQ h t) (k : TKM h t e) (he : e ≤ t.length) : ∃ h', Cc (d + 3) k_M_skips [aR (some 94), aI (zI 529579), aI (zI 4)] h = some (some (aI (zI (if isW t (tkS t e) (tkE t e) wKeep then 1 else 0))), h') ∧ mfr fA h h' ∧ MTQ h' t ∧ (if isW t (tkS t e) (tkE t e) wKeep then TKM h' t (tkE t e) else h' = h) := M_skips d q k he (by decide) wd_keep
theorem M_to (d : Nat) {h : AH} {t : List Nat} {e : Nat} (q : MTQ h t) (k : TKM h t e) (he : e ≤ t.length) : ∃ h', Cc (d + 3) k_M_skips [aR (some 94), aI (zI 500), aI (zI 2)] h = some (some (aI (zI (if isW t (tkS t e) (tkE t e) wTo then 1 else 0))), h') ∧ mfr fA h h' ∧ MTQ h' t ∧ (if isW t (tkS t e) (tkE t e) wTo then TKM h' t (tkE t e) else h' = h) := M_skips d q k he (by decide) wd_to
theorem M_readsMove (d : Nat) {h : AH} {t : List Nat} {e n j : Nat} {r : Rdr} (q : MTQ h t) (k : TKM h t e) (mr : MR h j r) (hv : RV r) (hj : j < 2) (he : e ≤ t.length) (h9 : hI h 94 9 = zI n) (hn : n < 20) :
    ∃ h' v, Cc (d + 4) k_M_readsMove [aR (some 94), aI (zI j)] h = some (some (aI (zI v)), h') ∧ mfr (fR n) h h' ∧ MTQ h' t ∧
    match PM t r.1 r.2.1 e with
    | .inl s => v = 0 ∧ hI h' 94 21 = zI s ∧ hI h' 94 9 = zI n
    | .inr (m, e2) => v = 1 ∧ TKM h' t e2 ∧ hI h' 94 9 = zI ((n + 1 : Nat) : Int) ∧ rrow h' n m := by
  have r1 : r.1 ≤ 6 := hv.2.1
  have r2 : r.2.1 ≤ 3 := hv.2.2.1
  have hl2 := q.2.2.1
  have fAR : ∀ a i, fA a i → fR n a i := by intro a i; unfold fA fR; omega
  have n9 : ¬ fA 94 9 := by unfold fA; omega
  have nfa : ∀ a i, 95 ≤ a → a ≤ 103 → ¬ fA a i := by intro a i h1 h2; unfold fA; omega
  obtain ⟨h1, c1, f1, q1, k1⟩ := M_figure d q k he (lim := r.1) r1
  have mr1 := mr.mv f1 nfa
  obtain ⟨b11, b12, b13, b14⟩ := tk_b he
  have d1 := isD_b t (tkS t e) (tkE t e) r.1
  rw [C_M_readsMove, E_M_readsMove_0]
  simp (disch := omega) only [obj_e (z94 q.1.1), m0 q.1, idx_n (z95 q.1.1), mr.1]
  rw [calI_e c1, lt_e]
  simp (disch := omega) only [yeq]
  unfold PM
  by_cases a1 : isD t (tkS t e) (tkE t e) r.1 < 0
  · rw [if_pos (by omega), if_pos a1]
    rw [if_pos a1] at k1
    subst k1
    exact ⟨h1, 0, by rw [E_M_readsMove_1, fr0], mfr.rf _ h1, q1, rfl, k.2.1, h9⟩
  rw [if_neg (by omega), if_neg a1]
  rw [if_neg a1] at k1
  obtain ⟨b21, b22, b23, b24⟩ := tk_b b13
  have d2 := isL_b t (tkS t (tkE t e)) (tkE t (tkE t e))
  -- the letter
  have b8 : Rk B_M_readsMove L_M_readsMove (Cc (d + 3)) 2 [aR (some 94), aI (zI j), aI (zI (isD t (tkS t e) (tkE t e) r.1)), aU, aU, aU, aU] [] h1 = Rk B_M_readsMove L_M_readsMove (Cc (d + 3)) 8 [aR (some 94), aI (zI j), aI (zI (isD t (tkS t e) (tkE t e) r.1)), aU, aU, aU, aU] [aI (zI (isL t (tkS t (tkE t e)) (tkE t (tkE t e))))] h1 := by
    rw [E_M_readsMove_2]
    simp only [obj_e (z94 q1.1.1), k1.2.1, k1.2.2]
    rw [show zI (tkE t (tkE t e) : Int) - zI (tkS t (tkE t e)) = zI ((tkE t (tkE t e) - tkS t (tkE t e) : Nat) : Int) from by rw [zI_sub]; congr 1; omega, zc1]
    simp (disch := omega) only [neq]
    unfold isL
    by_cases x : tkE t (tkE t e) - tkS t (tkE t e) = 1
    · have hs : tkS t (tkE t e) < t.length := by omega
      obtain ⟨c1', c2', c3'⟩ := q1.c hs
      rw [if_pos x, E_M_readsMove_3]
      simp (disch := omega) only [obj_e (z94 q1.1.1), k1.2.1, q1.2.1.1, nlt]
      rw [if_pos hs, E_M_readsMove_4]
      simp (disch := omega) only [obj_e (z94 q1.1.1), k1.2.1, m15 q1.1, idx_n (z109 q1.1.1), c1', ylt]
      by_cases y : ch t (tkS t (tkE t e)) < 97
      · rw [if_pos (by omega), E_M_readsMove_7, if_neg (by omega)]
      · rw [if_neg (by omega), E_M_readsMove_5]
        simp (disch := omega) only [obj_e (z94 q1.1.1), k1.2.1, m15 q1.1, idx_n (z109 q1.1.1), c1', yle]
        by_cases z : ch t (tkS t (tkE t e)) ≤ 99
        · rw [if_pos (by omega), E_M_readsMove_6, if_pos (by omega)]
          simp (disch := omega) only [obj_e (z94 q1.1.1), k1.2.1, m15 q1.1, idx_n (z109 q1.1.1), c1', zI_sub]
        · rw [if_neg (by omega), E_M_readsMove_7, if_neg (by omega)]
    · rw [if_neg x, E_M_readsMove_7, if_neg (by omega)]
  rw [b8, E_M_readsMove_8, lt_e]
  simp (disch := omega) only [yeq]
  by_cases a2 : isL t (tkS t (tkE t e)) (tkE t (tkE t e)) < 0
  · rw [if_pos (by omega), if_pos a2]
    exact ⟨h1, 0, by rw [E_M_readsMove_9, fr0], f1.mo fAR, q1, rfl, k1.2.1, by rw [f1.I n9]; exact h9⟩
  rw [if_neg (by omega), if_neg a2, E_M_readsMove_10, obj_e (z94 q1.1.1)]
  obtain ⟨h2, c2, f2, k2, q2⟩ := M_token (d + 1) q1 b23 k1.1
  have f12 := f1.tr f2
  obtain ⟨b31, b32, b33, b34⟩ := tk_b b23
  rw [calV_e c2, obj_e (z94 q2.1.1), calI_e (M_new (d + 2) q2 k2 b23), if01]
  -- what follows the test
  have aft : ∀ (kk : Nat) (e3 : Nat) (h3 : AH), kk < 5 → e3 ≤ t.length → mfr fA h h3 → MTQ h3 t → TKM h3 t e3 → ∃ h' v, Rk B_M_readsMove L_M_readsMove (Cc (d + 3)) 22 [aR (some 94), aI (zI j), aI (zI (isD t (tkS t e) (tkE t e) r.1)), aI (zI (isL t (tkS t (tkE t e)) (tkE t (tkE t e)))), aI (zI kk), aU, aU] [] h3 = some (some (aI (zI v)), h') ∧ mfr (fR n) h h' ∧ MTQ h' t ∧
      match (match PK t r.2.1 e3 with
      | .inl s => .inl s
      | .inr (q, e3) => if isW t (tkS t e3) (tkE t e3) wTo then
        (if isD t (tkS t (tkE t e3)) (tkE t (tkE t e3)) r.1 < 0 then .inl (tkS t (tkE t e3)) else .inr (((isD t (tkS t e) (tkE t e) r.1).toNat, (isL t (tkS t (tkE t e)) (tkE t (tkE t e))).toNat, kk, q, (isD t (tkS t (tkE t e3)) (tkE t (tkE t e3)) r.1).toNat), tkE t (tkE t e3)))
        else .inl (tkS t e3) : Nat ⊕ (Mv × Nat)) with
      | .inl s => v = 0 ∧ hI h' 94 21 = zI s ∧ hI h' 94 9 = zI n
      | .inr (m, e2) => v = 1 ∧ TKM h' t e2 ∧ hI h' 94 9 = zI ((n + 1 : Nat) : Int) ∧ rrow h' n m := by
    intro kk e3 h3 hkk he3 f3 q3 k3
    have mr3 := mr.mv f3 nfa
    obtain ⟨b41, b42, b43, b44⟩ := tk_b he3
    -- the end of a move
    have fin : ∀ (kp : Int) (e5 : Nat) (h6 : AH), -1 ≤ kp → kp < 3 → e5 ≤ t.length → mfr fA h h6 → MTQ h6 t → TKM h6 t e5 → ∃ h' v, Rk B_M_readsMove L_M_readsMove (Cc (d + 3)) 25 [aR (some 94), aI (zI j), aI (zI (isD t (tkS t e) (tkE t e) r.1)), aI (zI (isL t (tkS t (tkE t e)) (tkE t (tkE t e)))), aI (zI kk), aI (zI kp), aU] [] h6 = some (some (aI (zI v)), h') ∧ mfr (fR n) h h' ∧ MTQ h' t ∧
        match (if isW t (tkS t e5) (tkE t e5) wTo then
        (if isD t (tkS t (tkE t e5)) (tkE t (tkE t e5)) r.1 < 0 then .inl (tkS t (tkE t e5)) else .inr (((isD t (tkS t e) (tkE t e) r.1).toNat, (isL t (tkS t (tkE t e)) (tkE t (tkE t e))).toNat, kk, kp, (isD t (tkS t (tkE t e5)) (tkE t (tkE t e5)) r.1).toNat), tkE t (tkE t e5)))
        else .inl (tkS t e5) : Nat ⊕ (Mv × Nat)) with
        | .inl s => v = 0 ∧ hI h' 94 21 = zI s ∧ hI h' 94 9 = zI n
        | .inr (m, e2) => v = 1 ∧ TKM h' t e2 ∧ hI h' 94 9 = zI ((n + 1 : Nat) : Int) ∧ rrow h' n m := by
      intro kp e5 h6 kp1 kp2 he5 f6 q6 k6
      obtain ⟨b61, b62, b63, b64⟩ := tk_b he5
      obtain ⟨h7, c7, f7, q7, k7⟩ := M_to d q6 k6 he5
      have f17 := f6.tr f7
      have mr7 := mr.mv f17 nfa
      rw [E_M_readsMove_25, obj_e (z94 q6.1.1), calI_e c7, if01]
      by_cases x : isW t (tkS t e5) (tkE t e5) wTo = true
      · rw [if_pos x] at k7
        rw [if_pos x, if_pos x, E_M_readsMove_27]
        simp (disch := omega) only [obj_e (z94 q7.1.1), m0 q7.1, idx_n (z95 q7.1.1), mr7.1]
        obtain ⟨h8, c8, f8, q8, k8⟩ := M_figure d q7 k7 b63 (lim := r.1) r1
        have f18 := f17.tr f8
        have d7 := isD_b t (tkS t (tkE t e5)) (tkE t (tkE t e5)) r.1
        rw [calI_e c8, lt_e]
        simp (disch := omega) only [yeq]
        have k9 : hI h8 94 9 = zI n := by rw [f18.I n9]; exact h9
        by_cases y : isD t (tkS t (tkE t e5)) (tkE t (tkE t e5)) r.1 < 0
        · rw [if_pos (by omega), if_pos y]
          rw [if_pos y] at k8
          exact ⟨h8, 0, by rw [E_M_readsMove_28, fr0], f18.mo fAR, q8, rfl, by rw [k8]; exact k7.2.1, k9⟩
        · rw [if_neg y] at k8
          rw [if_neg (by omega), if_neg y, E_M_readsMove_29, obj_e (z94 q8.1.1), k9, show zI 20 = zI ((20 : Nat) : Int) from rfl]
          simp (disch := omega) only [nlt]
          rw [if_pos hn, E_M_readsMove_30]
          simp (disch := omega) only [obj_e (z94 q8.1.1), obj_sI, hR_sI, m10 q8.1, m11 q8.1, m12 q8.1, m13 q8.1, m14 q8.1, idx_sI, idx_n (z104 q8.1.1), idx_n (z105 q8.1.1), idx_n (z106 q8.1.1), idx_n (z107 q8.1.1), idx_n (z108 q8.1.1), lt_e, hI_off, k9]
          rw [E_M_readsMove_31]
          simp (disch := omega) only [obj_e (z94 q8.1.1), obj_sI, mb_some, hI_off, k9, nadd1]
          have f9 : mfr (fR n) h8 (sI (sI (sI (sI (sI (sI h8 104 n (zI (isD t (tkS t e) (tkE t e) r.1))) 105 n (zI (isL t (tkS t (tkE t e)) (tkE t (tkE t e))))) 106 n (zI kk)) 107 n (zI kp)) 108 n (zI (isD t (tkS t (tkE t e5)) (tkE t (tkE t e5)) r.1))) 94 9 (zI ((n + 1 : Nat) : Int))) :=
            (((((mfr_sI h8 (by unfold fR; omega) _).tr (mfr_sI _ (by unfold fR; omega) _)).tr (mfr_sI _ (by unfold fR; omega) _)).tr (mfr_sI _ (by unfold fR; omega) _)).tr (mfr_sI _ (by unfold fR; omega) _)).tr (mfr_sI _ (by unfold fR; omega) _)
          refine ⟨_, 1, fr1, (f18.mo fAR).tr f9, q8.mv f9 (by unfold fR; omega) (by unfold fR; omega), rfl, ?_, hI_hit _ _ _ _, ?_⟩
          · refine ⟨?_, ?_, ?_⟩
            · rw [hI_off (by omega), hI_off (by omega), hI_off (by omega), hI_off (by omega), hI_off (by omega), hI_off (by omega)]; exact k8.1
            · rw [hI_off (by omega), hI_off (by omega), hI_off (by omega), hI_off (by omega), hI_off (by omega), hI_off (by omega)]; exact k8.2.1
            · rw [hI_off (by omega), hI_off (by omega), hI_off (by omega), hI_off (by omega), hI_off (by omega), hI_off (by omega)]; exact k8.2.2
          · refine ⟨?_, ?_, ?_, ?_, ?_⟩
            · rw [hI_off (by omega), hI_off (by omega), hI_off (by omega), hI_off (by omega), hI_off (by omega), hI_hit]
              show zI _ = zI (((isD t (tkS t e) (tkE t e) r.1).toNat : Nat) : Int)
              congr 1; omega
            · rw [hI_off (by omega), hI_off (by omega), hI_off (by omega), hI_off (by omega), hI_hit]
              show zI _ = zI (((isL t (tkS t (tkE t e)) (tkE t (tkE t e))).toNat : Nat) : Int)
              congr 1; omega
            · rw [hI_off (by omega), hI_off (by omega), hI_off (by omega), hI_hit]
            · rw [hI_off (by omega), hI_off (by omega), hI_hit]
            · rw [hI_off (by omega), hI_hit]
              show zI _ = zI (((isD t (tkS t (tkE t e5)) (tkE t (tkE t e5)) r.1).toNat : Nat) : Int)
              congr 1; omega
      · rw [if_neg x] at k7
        rw [if_neg x, if_neg x]
        exact ⟨h7, 0, by rw [E_M_readsMove_26, fr0], f17.mo fAR, q7, rfl, by rw [k7]; exact k6.2.1, by rw [f17.I n9]; exact h9⟩
    obtain ⟨h4, c4, f4, q4, k4⟩ := M_keep d q3 k3 he3
    have f14 := f3.tr f4
    have mr4 := mr.mv f14 nfa
    rw [E_M_readsMove_22, lt_e, obj_e (z94 q3.1.1), calI_e c4, if01]
    unfold PK
    by_cases x : isW t (tkS t e3) (tkE t e3) wKeep = true
    · rw [if_pos x] at k4
      rw [if_pos x, if_pos x, E_M_readsMove_23]
      simp (disch := omega) only [obj_e (z94 q4.1.1), m1 q4.1, idx_n (z96 q4.1.1), mr4.2.1]
      obtain ⟨h5, c5, f5, q5, k5⟩ := M_figure d q4 k4 b43 (lim := r.2.1) (by omega)
      have f15 := f14.tr f5
      obtain ⟨b51, b52, b53, b54⟩ := tk_b b43
      have d5 := isD_b t (tkS t (tkE t e3)) (tkE t (tkE t e3)) r.2.1
      rw [calI_e c5, lt_e]
      simp (disch := omega) only [yeq]
      by_cases y : isD t (tkS t (tkE t e3)) (tkE t (tkE t e3)) r.2.1 < 0
      · rw [if_pos (by omega), if_pos y]
        rw [if_pos y] at k5
        exact ⟨h5, 0, by rw [E_M_readsMove_24, fr0], f15.mo fAR, q5, rfl, by rw [k5]; exact k4.2.1, by rw [f15.I n9]; exact h9⟩
      · rw [if_neg y] at k5
        rw [if_neg (by omega), if_neg y]
        exact fin _ _ h5 (by omega) (by omega) b53 f15 q5 k5
    · rw [if_neg x] at k4
      rw [if_neg x, if_neg x]
      exact fin (-1) e3 h4 (by omega) (by omega) he3 f14 q4 (by rw [k4]; exact k3)
  unfold PT
  by_cases x1 : isW t (tkS t (tkE t (tkE t e))) (tkE t (tkE t (tkE t e))) wNew = true
  · rw [if_pos x1, if_pos x1, E_M_readsMove_11, E_M_readsMove_17, lt_e, if_neg (by decide), E_M_readsMove_19, obj_e (z94 q2.1.1)]
    obtain ⟨h3, c3, f3, k3, q3⟩ := M_token (d + 1) q2 b33 k2.1
    rw [calV_e c3, if_neg (by decide)]
    exact aft 3 _ h3 (by omega) b33 (f12.tr f3) q3 k3
  rw [if_neg x1, if_neg x1, E_M_readsMove_12, obj_e (z94 q2.1.1), calI_e (M_any (d + 2) q2 k2 b23), if01]
  by_cases x2 : isW t (tkS t (tkE t (tkE t e))) (tkE t (tkE t (tkE t e))) wAny = true
  · rw [if_pos x2, if_pos x2, E_M_readsMove_13, E_M_readsMove_17, lt_e, if_neg (by decide), E_M_readsMove_19, obj_e (z94 q2.1.1)]
    obtain ⟨h3, c3, f3, k3, q3⟩ := M_token (d + 1) q2 b33 k2.1
    rw [calV_e c3, if_neg (by decide)]
    exact aft 4 _ h3 (by omega) b33 (f12.tr f3) q3 k3
  rw [if_neg x2, if_neg x2, E_M_readsMove_14, obj_e (z94 q2.1.1), calI_e (M_is (d + 2) q2 k2 b23), if01]
  by_cases x3 : isW t (tkS t (tkE t (tkE t e))) (tkE t (tkE t (tkE t e))) wIs = true
  · rw [if_pos x3, if_pos x3, E_M_readsMove_15, E_M_readsMove_17, lt_e, if_neg (by decide), E_M_readsMove_19, obj_e (z94 q2.1.1)]
    obtain ⟨h3, c3, f3, k3, q3⟩ := M_token (d + 1) q2 b33 k2.1
    have f13 := f12.tr f3
    have mr3 := mr.mv f13 nfa
    rw [calV_e c3, if_pos zI_0.symm, E_M_readsMove_20]
    simp (disch := omega) only [obj_e (z94 q3.1.1), m1 q3.1, idx_n (z96 q3.1.1), mr3.2.1]
    obtain ⟨h4, c4, f4, q4, k4⟩ := M_figure d q3 k3 b33 (lim := r.2.1) (by omega)
    have f14 := f13.tr f4
    obtain ⟨b41, b42, b43, b44⟩ := tk_b b33
    have d4 := isD_b t (tkS t (tkE t (tkE t (tkE t e)))) (tkE t (tkE t (tkE t (tkE t e)))) r.2.1
    rw [calI_e c4, lt_e]
    simp (disch := omega) only [yeq]
    by_cases y : isD t (tkS t (tkE t (tkE t (tkE t e)))) (tkE t (tkE t (tkE t (tkE t e)))) r.2.1 < 0
    · rw [if_pos (by omega), if_pos y]
      rw [if_pos y] at k4
      exact ⟨h4, 0, by rw [E_M_readsMove_21, fr0], f14.mo fAR, q4, rfl, by rw [k4]; exact k3.2.1, by rw [f14.I n9]; exact h9⟩
    · rw [if_neg y] at k4
      obtain ⟨kk, hkk⟩ : ∃ kk : Nat, isD t (tkS t (tkE t (tkE t (tkE t e)))) (tkE t (tkE t (tkE t (tkE t e)))) r.2.1 = kk := ⟨(isD t (tkS t (tkE t (tkE t (tkE t e)))) (tkE t (tkE t (tkE t (tkE t e)))) r.2.1).toNat, by omega⟩
      rw [if_neg (by omega), if_neg y, hkk, Int.toNat_natCast]
      exact aft kk _ h4 (by omega) b43 f14 q4 k4
  · rw [if_neg x3, if_neg x3, E_M_readsMove_16, E_M_readsMove_17, lt_e, if_pos rfl]
    exact ⟨h2, 0, by rw [E_M_readsMove_18, fr0], f12.mo fAR, q2, rfl, k2.2.1, by rw [f12.I n9]; exact h9⟩
