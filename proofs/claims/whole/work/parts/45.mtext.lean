/-! the model reads its text -/
def MTQ (h : AH) (t : List Nat) : Prop := MS h ∧ MT h t ∧ TV t
theorem MTQ.mv {F : Nat → Nat → Prop} {h h' : AH} {t : List Nat} (p : MTQ h t) (f : mfr F h h') (n : ¬ F 94 16) (n2 : ∀ j, ¬ F 109 j) : MTQ h' t := ⟨p.1.mf f, p.2.1.mv f n n2, p.2.2⟩
theorem MTQ.c {h : AH} {t : List Nat} (p : MTQ h t) {i : Nat} (hi : i < t.length) : hI h 109 i = zI (ch t i) ∧ ch t i < 256 ∧ i < 150 := by
  have e : t[i]? = some (ch t i) := by unfold ch; rw [List.getD_eq_getElem?_getD, List.getElem?_eq_getElem hi]; rfl
  have := p.2.2.1
  exact ⟨p.2.1.2 i _ e, p.2.2.2 _ (List.mem_of_getElem? e), by omega⟩
def srt (c : Nat) : Nat := (kd c + 1) % 3
theorem M_sort (d : Nat) (h : AH) {c : Nat} (hc : c < 256) : Cc (d + 1) k_M_sort [aI (zI c)] h = some (some (aI (zI (srt c))), h) := by
  rw [C_M_sort, E_M_sort_0]
  simp (disch := omega) only [ylt]
  unfold srt kd
  by_cases a : c < 97
  · rw [if_pos (by omega), E_M_sort_3]
    simp (disch := omega) only [ylt]
    rw [if_neg (show ¬ (97 ≤ c ∧ c ≤ 122) by omega)]
    by_cases b : c < 48
    · rw [if_pos (by omega), E_M_sort_6, E_M_sort_7, if_neg (by omega)]; rfl
    · rw [if_neg (by omega), E_M_sort_4]
      simp (disch := omega) only [yle]
      by_cases q : c ≤ 57
      · rw [if_pos (by omega), E_M_sort_5, E_M_sort_7, if_pos (by omega)]; rfl
      · rw [if_neg (by omega), E_M_sort_6, E_M_sort_7, if_neg (by omega)]; rfl
  · rw [if_neg (by omega), E_M_sort_1]
    simp (disch := omega) only [yle]
    by_cases b : c ≤ 122
    · rw [if_pos (by omega), E_M_sort_2, E_M_sort_7, if_pos (by omega)]; rfl
    · rw [if_neg (by omega), E_M_sort_3]
      simp (disch := omega) only [ylt]
      rw [if_neg (by omega), E_M_sort_4]
      simp (disch := omega) only [yle]
      rw [if_neg (by omega), E_M_sort_6, E_M_sort_7, if_neg (by omega), if_neg (by omega)]; rfl
def fA (a j : Nat) : Prop := a = 94 ∧ (j = 20 ∨ j = 21 ∨ j = 22)
theorem fA16 : ¬ fA 94 16 := by unfold fA; omega
theorem fA109 (j : Nat) : ¬ fA 109 j := by unfold fA; omega
theorem tok_0 (d : Nat) {t : List Nat} : ∀ (n p : Nat) (h : AH), t.length ≤ p + n → p ≤ t.length → MTQ h t → hI h 94 20 = zI p → ∃ h', Rk B_M_token L_M_token (Cc (d + 1)) 0 [aR (some 94)] [] h = Rk B_M_token L_M_token (Cc (d + 1)) 3 [aR (some 94)] [] h' ∧ mfr fA h h' ∧ hI h' 94 20 = zI (skS t p) := by
  intro n
  induction n with
  | zero =>
    intro p h hn hp q h4
    have hl := q.2.2.1
    refine ⟨h, ?_, mfr.rf _ h, by rw [skS, dif_neg (by omega)]; exact h4⟩
    rw [E_M_token_0]
    simp (disch := omega) only [obj_e (z94 q.1.1), h4, q.2.1.1, nlt]
    rw [if_neg (by omega)]
  | succ n ih =>
    intro p h hn hp q h4
    have hl := q.2.2.1
    rw [E_M_token_0]
    simp (disch := omega) only [obj_e (z94 q.1.1), h4, q.2.1.1, nlt]
    by_cases a : p < t.length
    · obtain ⟨c1, c2, c3⟩ := q.c a
      rw [if_pos a, E_M_token_1]
      simp (disch := omega) only [obj_e (z94 q.1.1), h4, m15 q.1, idx_n (z109 q.1.1), c1, yeq]
      by_cases b : ch t p = 32
      · have f : mfr fA h (sI h 94 20 (zI ((p + 1 : Nat) : Int))) := mfr_sI h ⟨rfl, Or.inl rfl⟩ _
        obtain ⟨h', e, f2, g⟩ := ih (p + 1) _ (by omega) (by omega) (q.mv f fA16 fA109) (hI_hit _ _ _ _)
        refine ⟨h', ?_, f.tr f2, by rw [skS, dif_pos ⟨a, b⟩]; exact g⟩
        rw [if_pos (by omega), E_M_token_2]
        simp (disch := omega) only [obj_e (z94 q.1.1), h4, mb_some, nadd1]
        exact e
      · refine ⟨h, by rw [if_neg (by omega)], mfr.rf _ h, by rw [skS, dif_neg (by omega)]; exact h4⟩
    · rw [if_neg a]
      exact ⟨h, rfl, mfr.rf _ h, by rw [skS, dif_neg (by omega)]; exact h4⟩
theorem tok_7 (d : Nat) {t : List Nat} {s : Nat} (hs : s < t.length) (hk : kd (ch t s) ≠ 2) : ∀ (n p : Nat) (h : AH), t.length ≤ p + n → p ≤ t.length → MTQ h t → hI h 94 20 = zI p → hI h 94 21 = zI s → ∃ h', Rk B_M_token L_M_token (Cc (d + 1)) 7 [aR (some 94)] [] h = Rk B_M_token L_M_token (Cc (d + 1)) 11 [aR (some 94)] [] h' ∧ mfr (fun a j => a = 94 ∧ j = 20) h h' ∧ hI h' 94 20 = zI (exE t (kd (ch t s)) p) := by
  have hks := kd_le (ch t s)
  have hsr : srt (ch t s) ≤ 2 ∧ srt (ch t s) ≠ 0 := by unfold srt; omega
  intro n
  induction n with
  | zero =>
    intro p h hn hp q h4 h21
    have hl := q.2.2.1
    refine ⟨h, ?_, mfr.rf _ h, by rw [exE, dif_neg (by omega)]; exact h4⟩
    rw [E_M_token_7]
    simp (disch := omega) only [obj_e (z94 q.1.1), h4, q.2.1.1, nlt]
    rw [if_neg (by omega)]
  | succ n ih =>
    intro p h hn hp q h4 h21
    have hl := q.2.2.1
    obtain ⟨e1, e2, e3⟩ := q.c hs
    rw [E_M_token_7]
    simp (disch := omega) only [obj_e (z94 q.1.1), h4, q.2.1.1, nlt]
    by_cases a : p < t.length
    · obtain ⟨c1, c2, c3⟩ := q.c a
      have hk2 := kd_le (ch t p)
      have hsp : srt (ch t p) ≤ 2 := by unfold srt; omega
      rw [if_pos a, E_M_token_8]
      simp (disch := omega) only [obj_e (z94 q.1.1), h21, m15 q.1, idx_n (z109 q.1.1), e1]
      rw [calI_e (M_sort d h e2)]
      simp (disch := omega) only [nle0]
      rw [if_neg hsr.2, E_M_token_9]
      simp (disch := omega) only [obj_e (z94 q.1.1), h4, h21, m15 q.1, idx_n (z109 q.1.1), c1, e1]
      rw [calI_e (M_sort d h c2)]
      rw [obj_e (z94 q.1.1), obj_e (z94 q.1.1)]
      simp (disch := omega) only [h21, m15 q.1, idx_n (z109 q.1.1), e1]
      rw [calI_e (M_sort d h e2)]
      simp (disch := omega) only [neq]
      by_cases b : kd (ch t p) = kd (ch t s)
      · have f : mfr (fun a j => a = 94 ∧ j = 20) h (sI h 94 20 (zI ((p + 1 : Nat) : Int))) := mfr_sI (F := fun a j => a = 94 ∧ j = 20) h ⟨rfl, rfl⟩ _
        obtain ⟨h', e, f2, g⟩ := ih (p + 1) _ (by omega) (by omega) (q.mv f (by omega) (by omega)) (hI_hit _ _ _ _) (by rw [hI_off (by omega)]; exact h21)
        refine ⟨h', ?_, f.tr f2, by rw [exE, dif_pos ⟨a, b⟩]; exact g⟩
        rw [if_pos (by unfold srt; rw [b]), E_M_token_10]
        simp (disch := omega) only [obj_e (z94 q.1.1), h4, mb_some, nadd1]
        exact e
      · refine ⟨h, by rw [if_neg (by unfold srt; omega)], mfr.rf _ h, by rw [exE, dif_neg (by omega)]; exact h4⟩
    · rw [if_neg a]
      exact ⟨h, rfl, mfr.rf _ h, by rw [exE, dif_neg (by omega)]; exact h4⟩
/-- the token behind e is the one looked at -/
def TKM (h : AH) (t : List Nat) (e : Nat) : Prop := hI h 94 20 = zI (tkE t e) ∧ hI h 94 21 = zI (tkS t e) ∧ hI h 94 22 = zI (tkE t e)
theorem M_token (d : Nat) {h : AH} {t : List Nat} {e : Nat} (q : MTQ h t) (he : e ≤ t.length) (h5 : hI h 94 20 = zI e) : ∃ h', Cc (d + 2) k_M_token [aR (some 94)] h = some (none, h') ∧ mfr fA h h' ∧ TKM h' t e ∧ MTQ h' t := by
  have hl := q.2.2.1
  obtain ⟨h1, e1, f1, g1⟩ := tok_0 d t.length e h (by omega) he q h5
  have q1 := q.mv f1 fA16 fA109
  have hb := (skS_b t t.length e (by omega)).2 he
  -- the end
  have fin : ∀ (h2 : AH) (x : Nat), mfr fA h h2 → hI h2 94 20 = zI x → hI h2 94 21 = zI (tkS t e) → x = tkE t e → ∃ h', Rk B_M_token L_M_token (Cc (d + 1)) 11 [aR (some 94)] [] h2 = some (none, h') ∧ mfr fA h h' ∧ TKM h' t e ∧ MTQ h' t := by
    intro h2 x f2 g20 g21 hx
    have q2 := q.mv f2 fA16 fA109
    have f3 := f2.tr (mfr_sI (F := fA) h2 (a := 94) (j := 22) ⟨rfl, Or.inr (Or.inr rfl)⟩ (zI x))
    refine ⟨_, ?_, f3, ⟨?_, ?_, ?_⟩, q.mv f3 fA16 fA109⟩
    · rw [E_M_token_11]
      simp only [obj_e (z94 q2.1.1), g20, mb_some]
    · rw [hI_off (by omega), g20, hx]
    · rw [hI_off (by omega), g21]
    · rw [hI_hit, hx]
  rw [C_M_token, e1, E_M_token_3]
  simp (disch := omega) only [obj_e (z94 q1.1.1), obj_sI, g1, mb_some, hI_off, q1.2.1.1, nlt]
  by_cases a : skS t e < t.length
  · obtain ⟨c1, c2, c3⟩ := q1.c a
    have f2 : mfr fA h1 (sI (sI h1 94 21 (zI (skS t e))) 94 20 (zI ((skS t e + 1 : Nat) : Int))) := (mfr_sI h1 (by unfold fA; omega) _).tr (mfr_sI _ (by unfold fA; omega) _)
    have q2 := q1.mv f2 fA16 fA109
    rw [if_pos a, E_M_token_4, E_M_token_6]
    simp only [obj_sI, obj_e (z94 q1.1.1), mb_some, nadd1]
    by_cases b : kd (ch t (skS t e)) = 2
    · have e11 : Rk B_M_token L_M_token (Cc (d + 1)) 7 [aR (some 94)] [] (sI (sI h1 94 21 (zI (skS t e))) 94 20 (zI ((skS t e + 1 : Nat) : Int))) = Rk B_M_token L_M_token (Cc (d + 1)) 11 [aR (some 94)] [] (sI (sI h1 94 21 (zI (skS t e))) 94 20 (zI ((skS t e + 1 : Nat) : Int))) := by
        rw [E_M_token_7]
        simp (disch := omega) only [obj_sI, obj_e (z94 q1.1.1), hI_hit, hI_off, q1.2.1.1, nlt]
        by_cases y : skS t e + 1 < t.length
        · rw [if_pos y, E_M_token_8]
          simp (disch := omega) only [obj_sI, obj_e (z94 q1.1.1), hI_hit, hI_off, hR_sI, m15 q1.1, idx_sI, idx_n (z109 q1.1.1), c1]
          rw [calI_e (M_sort d _ c2), show srt (ch t (skS t e)) = 0 from by unfold srt; rw [b], if_pos (by decide)]
        · rw [if_neg y]
      rw [e11]
      exact fin _ (skS t e + 1) (f1.tr f2) (hI_hit _ _ _ _) (by rw [hI_off (by omega), hI_hit]; rfl) (by rw [tkE, if_pos a, if_pos b])
    · obtain ⟨h3, e3, f3, g3⟩ := tok_7 d a b t.length (skS t e + 1) _ (by omega) (by omega) q2 (hI_hit _ _ _ _) (by rw [hI_off (by omega), hI_hit])
      rw [e3]
      refine fin h3 _ ((f1.tr f2).tr (f3.mo (by intro a j; unfold fA; omega))) g3 ?_ (by rw [tkE, if_pos a, if_neg b])
      rw [f3.I (by omega), hI_off (by omega), hI_hit]; rfl
  · have f2 : mfr fA h1 (sI (sI h1 94 21 (zI (skS t e))) 94 20 (zI ((skS t e + 0 : Nat) : Int))) := (mfr_sI h1 (by unfold fA; omega) _).tr (mfr_sI _ (by unfold fA; omega) _)
    rw [if_neg a, E_M_token_5, E_M_token_6, zc0]
    simp only [obj_sI, obj_e (z94 q1.1.1), mb_some, nadd]
    rw [E_M_token_7]
    simp (disch := omega) only [obj_sI, obj_e (z94 q1.1.1), hI_hit, hI_off, q1.2.1.1, nlt]
    rw [if_neg (by omega)]
    exact fin _ (skS t e + 0) (f1.tr f2) (hI_hit _ _ _ _) (by rw [hI_off (by omega), hI_hit]; rfl) (by rw [tkE, if_neg a]; rfl)
theorem M_isWord (d : Nat) {h : AH} {t w : List Nat} {e W : Nat} (q : MTQ h t) (k : TKM h t e) (he : e ≤ t.length) (hl : w.length ≤ 4) (hW : ∀ i, i < w.length → zI 96 + ((zI W >>> ((zI 5 * zI ((i : Nat) : Int)) &&& 31)) &&& zI 31) = zI ((w.getD i 0 : Nat) : Int) ∧ w.getD i 0 < 256) : Cc (d + 1) k_M_isWord [aR (some 94), aI (zI W), aI (zI w.length)] h = some (some (aI (zI (if isW t (tkS t e) (tkE t e) w then 1 else 0))), h) := by
  have hl2 := q.2.2.1
  obtain ⟨b1, b2, b3, b4⟩ := tk_b he
  rw [C_M_isWord, E_M_isWord_0]
  simp only [obj_e (z94 q.1.1), k.2.1, k.2.2]
  rw [show zI (tkE t e : Int) - zI (tkS t e) = zI ((tkE t e - tkS t e : Nat) : Int) from by rw [zI_sub]; congr 1; omega]
  simp (disch := omega) only [neq]
  have lp : tkE t e = tkS t e + w.length → ∀ n i, i + n = w.length → (∀ j, j < i → ch t (tkS t e + j) = w.getD j 0) → Rk B_M_isWord L_M_isWord (Cc d) 4 [aR (some 94), aI (zI W), aI (zI w.length), aI (zI 1), aI (zI i)] [] h = some (some (aI (zI (if isW t (tkS t e) (tkE t e) w then 1 else 0))), h) := by
    intro hes n
    induction n with
    | zero =>
      intro i hi hj
      rw [E_M_isWord_4, if_neg (by decide), E_M_isWord_5]
      simp (disch := omega) only [nlt]
      rw [if_neg (by omega), E_M_isWord_10]
      have : isW t (tkS t e) (tkE t e) w = true := by
        unfold isW
        rw [Bool.and_eq_true, List.all_eq_true]
        refine ⟨by simp [hes], fun j hj2 => ?_⟩
        rw [List.mem_range] at hj2
        rw [beq_iff_eq]; exact hj j (by omega)
      rw [this]
      simp [zI_0, zI_1]
    | succ n ih =>
      intro i hi hj
      obtain ⟨c1, c2, c3⟩ := q.c (i := tkS t e + i) (by omega)
      obtain ⟨w1, w2⟩ := hW i (by omega)
      rw [E_M_isWord_4, if_neg (by decide), E_M_isWord_5]
      simp (disch := omega) only [nlt]
      rw [if_pos (by omega), E_M_isWord_6]
      simp only [obj_e (z94 q.1.1), k.2.1, m15 q.1, nadd]
      simp (disch := omega) only [idx_n (z109 q.1.1), c1, w1, neq]
      by_cases b : ch t (tkS t e + i) = w.getD i 0
      · rw [if_pos b, E_M_isWord_7, E_M_isWord_9, lt_e, lt_e, nadd1]
        refine ih (i + 1) (by omega) ?_
        intro j hj2
        by_cases y : j = i
        · subst y; exact b
        · exact hj j (by omega)
      · rw [if_neg b, E_M_isWord_8, E_M_isWord_9, lt_e, lt_e, E_M_isWord_4, if_pos zI_0.symm, E_M_isWord_10]
        have : isW t (tkS t e) (tkE t e) w = false := by
          unfold isW
          cases y : (List.range w.length).all (fun i => ch t (tkS t e + i) == w.getD i 0) with
          | false => simp
          | true =>
            rw [List.all_eq_true] at y
            exact absurd (beq_iff_eq.mp (y i (List.mem_range.mpr (by omega)))) b
        rw [this]
        simp [zI_0, zI_1]
  by_cases a : tkE t e - tkS t e = w.length
  · rw [if_pos a, E_M_isWord_1, E_M_isWord_3, lt_e, lt_e]
    exact lp (by omega) w.length 0 (by omega) (by intro j hj; omega)
  · rw [if_neg a, E_M_isWord_2, E_M_isWord_3, lt_e, lt_e, E_M_isWord_4, if_pos zI_0.symm, E_M_isWord_10]
    have : isW t (tkS t e) (tkE t e) w = false := by
      unfold isW
      rw [show (tkE t e == tkS t e + w.length) = false from by rw [beq_eq_false_iff_ne]; omega]
      rfl
    rw [this]
    simp [zI_0, zI_1]
theorem M_skips (d : Nat) {h : AH} {t w : List Nat} {e W : Nat} (q : MTQ h t) (k : TKM h t e) (he : e ≤ t.length) (hl : w.length ≤ 4) (hW : ∀ i, i < w.length → zI 96 + ((zI W >>> ((zI 5 * zI ((i : Nat) : Int)) &&& 31)) &&& zI 31) = zI ((w.getD i 0 : Nat) : Int) ∧ w.getD i 0 < 256) : ∃ h', Cc (d + 3) k_M_skips [aR (some 94), aI (zI W), aI (zI w.length)] h = some (some (aI (zI (if isW t (tkS t e) (tkE t e) w then 1 else 0))), h') ∧ mfr fA h h' ∧ MTQ h' t ∧ (if isW t (tkS t e) (tkE t e) w then TKM h' t (tkE t e) else h' = h) := by
  obtain ⟨b1, b2, b3, b4⟩ := tk_b he
  rw [C_M_skips, E_M_skips_0, obj_e (z94 q.1.1), calI_e (M_isWord (d + 1) q k he hl hW), lt_e, if01]
  by_cases a : isW t (tkS t e) (tkE t e) w = true
  · simp only [if_pos a]
    obtain ⟨h', c, f, k', q'⟩ := M_token d q b3 k.1
    exact ⟨h', by rw [E_M_skips_1, obj_e (z94 q.1.1), calV_e c, E_M_skips_2, fr1], f, q', k'⟩
  · simp only [if_neg a]
    exact ⟨h, by rw [E_M_skips_2, fr0], mfr.rf _ h, q, rfl⟩
theorem M_figure (d : Nat) {h : AH} {t : List Nat} {e lim : Nat} (q : MTQ h t) (k : TKM h t e) (he : e ≤ t.length) (hl : lim ≤ 6) : ∃ h', Cc (d + 3) k_M_figure [aR (some 94), aI (zI lim)] h = some (some (aI (zI (isD t (tkS t e) (tkE t e) lim))), h') ∧ mfr fA h h' ∧ MTQ h' t ∧ (if isD t (tkS t e) (tkE t e) lim < 0 then h' = h else TKM h' t (tkE t e)) := by
  obtain ⟨b1, b2, b3, b4⟩ := tk_b he
  have hl2 := q.2.2.1
  rw [C_M_figure, E_M_figure_0]
  simp (disch := omega) only [obj_e (z94 q.1.1), k.2.1, q.2.1.1, nlt]
  have no : isD t (tkS t e) (tkE t e) lim = -1 → ∃ h', Rk B_M_figure L_M_figure (Cc (d + 2)) 5 [aR (some 94), aU, aU, aU] [] h = some (some (aI (zI (isD t (tkS t e) (tkE t e) lim))), h') ∧ mfr fA h h' ∧ MTQ h' t ∧ (if isD t (tkS t e) (tkE t e) lim < 0 then h' = h else TKM h' t (tkE t e)) := by
    intro hd
    rw [hd]
    exact ⟨h, by rw [E_M_figure_5, E_M_figure_6, lt_e, if_pos zI_0.symm, E_M_figure_8, E_M_figure_9, lt_e, if_pos zI_0.symm, E_M_figure_11], mfr.rf _ h, q, by rw [if_pos (by omega)]⟩
  by_cases a : tkS t e < t.length
  · obtain ⟨c1, c2, c3⟩ := q.c a
    rw [if_pos a, E_M_figure_1]
    simp only [obj_e (z94 q.1.1), k.2.1, k.2.2]
    rw [show zI (tkE t e : Int) - zI (tkS t e) = zI ((tkE t e - tkS t e : Nat) : Int) from by rw [zI_sub]; congr 1; omega, zc1]
    simp (disch := omega) only [neq]
    by_cases b : tkE t e - tkS t e = 1
    · rw [if_pos b, E_M_figure_2]
      simp (disch := omega) only [obj_e (z94 q.1.1), k.2.1, m15 q.1, idx_n (z109 q.1.1), c1, ylt]
      by_cases x : ch t (tkS t e) < 48
      · rw [if_pos (by omega)]
        exact no (by unfold isD; rw [if_neg (by omega)])
      · rw [if_neg (by omega), E_M_figure_3]
        simp (disch := omega) only [obj_e (z94 q.1.1), k.2.1, m15 q.1, idx_n (z109 q.1.1), c1, zI_add, ylt]
        by_cases y : ch t (tkS t e) < 48 + lim
        · have hd : isD t (tkS t e) (tkE t e) lim = (ch t (tkS t e) : Int) - 48 := by unfold isD; rw [if_pos (by omega)]
          obtain ⟨h', c, f, k', q'⟩ := M_token d q b3 k.1
          rw [if_pos (by omega), hd]
          refine ⟨h', ?_, f, q', by rw [if_neg (by omega)]; exact k'⟩
          rw [E_M_figure_4, E_M_figure_6, lt_e, if_neg (by decide), E_M_figure_7]
          simp (disch := omega) only [obj_e (z94 q.1.1), k.2.1, m15 q.1, idx_n (z109 q.1.1), c1, zI_sub]
          rw [E_M_figure_9, lt_e, if_neg (by decide), E_M_figure_10, obj_e (z94 q.1.1), calV_e c, E_M_figure_11]
        · rw [if_neg (by omega)]
          exact no (by unfold isD; rw [if_neg (by omega)])
    · rw [if_neg b]
      exact no (by unfold isD; rw [if_neg (by omega)])
  · rw [if_neg a]
    have : tkE t e = tkS t e := by unfold tkE tkS at *; rw [if_neg a]
    exact no (by unfold isD; rw [if_neg (by omega)])
