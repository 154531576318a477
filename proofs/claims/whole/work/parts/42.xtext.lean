/-! the class reads its text -/
def xfr (F : Nat → Nat → Prop) (h h' : AH) : Prop := h'.1 = h.1 ∧ (∀ a j, hR h' a j = hR h a j) ∧ (∀ a j, hL h' a j = hL h a j) ∧ ∀ a j, ¬ F a j → hI h' a j = hI h a j
theorem xfr.rf (F : Nat → Nat → Prop) (h : AH) : xfr F h h := ⟨rfl, fun _ _ => rfl, fun _ _ => rfl, fun _ _ _ => rfl⟩
theorem xfr.tr {F : Nat → Nat → Prop} {h h' h'' : AH} (p : xfr F h h') (q : xfr F h' h'') : xfr F h h'' :=
  ⟨q.1.trans p.1, fun a j => (q.2.1 a j).trans (p.2.1 a j), fun a j => (q.2.2.1 a j).trans (p.2.2.1 a j), fun a j n => (q.2.2.2 a j n).trans (p.2.2.2 a j n)⟩
theorem xfr.mo {F G : Nat → Nat → Prop} {h h' : AH} (p : xfr F h h') (hm : ∀ a j, F a j → G a j) : xfr G h h' := ⟨p.1, p.2.1, p.2.2.1, fun a j n => p.2.2.2 a j fun q => n (hm a j q)⟩
theorem xfr.I {F : Nat → Nat → Prop} {h h' : AH} (p : xfr F h h') {a j : Nat} (n : ¬ F a j) : hI h' a j = hI h a j := p.2.2.2 a j n
theorem xfr_sI {F : Nat → Nat → Prop} (h : AH) {a j : Nat} (hF : F a j) (x : Int32) : xfr F h (sI h a j x) :=
  ⟨rfl, fun _ _ => rfl, fun _ _ => rfl, fun b i n => hI_off (by by_cases z : b = a; right; intro y; exact n (z ▸ y ▸ hF); left; exact z)⟩
theorem xfr.f {F : Nat → Nat → Prop} {G : Nat → Prop} {h h' : AH} (p : xfr F h h') (q : ∀ a j, F a j → G a) : fr G h h' :=
  ⟨p.1, fun a ha => ⟨fun j => p.I fun z => ha (q a j z), fun j => p.2.2.1 a j, fun j => p.2.1 a j⟩⟩
def TXQ (h : AH) (t : List Nat) : Prop := h.1 = SHP ∧ hR h 13 0 = some 14 ∧ hR h 13 1 = some 15 ∧ TXT h t
theorem TXQ.mv {F : Nat → Nat → Prop} {h h' : AH} {t : List Nat} (p : TXQ h t) (f : xfr F h h') (n : ¬ F 13 2) (n2 : ∀ j, ¬ F 14 j) : TXQ h' t := by
  refine ⟨f.1.trans p.1, by rw [f.2.1]; exact p.2.1, by rw [f.2.1]; exact p.2.2.1, p.2.2.2.1, by rw [f.I n]; exact p.2.2.2.2.1, fun i c hc => by rw [f.I (n2 i)]; exact p.2.2.2.2.2 i c hc⟩
theorem TXQ.c {h : AH} {t : List Nat} (p : TXQ h t) {i : Nat} (hi : i < t.length) : hI h 14 i = zI (ch t i) ∧ ch t i < 256 ∧ i < 150 := by
  have e : t[i]? = some (ch t i) := by unfold ch; rw [List.getD_eq_getElem?_getD, List.getElem?_eq_getElem hi]; rfl
  have := p.2.2.2.1.1
  exact ⟨p.2.2.2.2.2 i _ e, p.2.2.2.1.2 _ (List.mem_of_getElem? e), by omega⟩
theorem Tx_kindOf (d : Nat) (h : AH) {c : Nat} (hc : c < 256) : Cc (d + 1) k_Tx_kindOf [aI (zI c)] h = some (some (aI (zI (kd c))), h) := by
  rw [C_Tx_kindOf, E_Tx_kindOf_0]
  simp (disch := omega) only [ylt]
  unfold kd
  by_cases a : c < 97
  · rw [if_pos (by omega), E_Tx_kindOf_3]
    simp (disch := omega) only [ylt]
    rw [if_neg (show ¬ (97 ≤ c ∧ c ≤ 122) by omega)]
    by_cases b : c < 48
    · rw [if_pos (by omega), E_Tx_kindOf_6, E_Tx_kindOf_7, if_neg (by omega)]; rfl
    · rw [if_neg (by omega), E_Tx_kindOf_4]
      simp (disch := omega) only [yle]
      by_cases q : c ≤ 57
      · rw [if_pos (by omega), E_Tx_kindOf_5, E_Tx_kindOf_7, if_pos (by omega)]; rfl
      · rw [if_neg (by omega), E_Tx_kindOf_6, E_Tx_kindOf_7, if_neg (by omega)]; rfl
  · rw [if_neg (by omega), E_Tx_kindOf_1]
    simp (disch := omega) only [yle]
    by_cases b : c ≤ 122
    · rw [if_pos (by omega), E_Tx_kindOf_2, if_pos (by omega)]; rfl
    · rw [if_neg (by omega), E_Tx_kindOf_3]
      simp (disch := omega) only [ylt]
      rw [if_neg (by omega), E_Tx_kindOf_4]
      simp (disch := omega) only [yle]
      rw [if_neg (by omega), E_Tx_kindOf_6, E_Tx_kindOf_7, if_neg (by omega), if_neg (by omega)]; rfl
theorem kd_le (c : Nat) : kd c ≤ 2 := by unfold kd; split; omega; split <;> omega
def fT (a j : Nat) : Prop := a = 13 ∧ (j = 4 ∨ j = 5)
theorem adv_1 (d : Nat) {t : List Nat} : ∀ (n p : Nat) (h : AH), t.length ≤ p + n → p ≤ t.length → TXQ h t → hI h 13 4 = zI p → ∃ h', Rk B_Tx_advance L_Tx_advance (Cc (d + 1)) 1 [aR (some 13), aU] [] h = Rk B_Tx_advance L_Tx_advance (Cc (d + 1)) 4 [aR (some 13), aU] [] h' ∧ xfr fT h h' ∧ hI h' 13 4 = zI (skS t p) := by
  intro n
  induction n with
  | zero =>
    intro p h hn hp q h4
    have hl := q.2.2.2.1.1
    refine ⟨h, ?_, xfr.rf _ h, by rw [skS, dif_neg (by omega)]; exact h4⟩
    rw [E_Tx_advance_1]
    simp (disch := omega) only [obj_e (z13 q.1), h4, q.2.2.2.2.1, nlt]
    rw [if_neg (by omega)]
  | succ n ih =>
    intro p h hn hp q h4
    have hl := q.2.2.2.1.1
    rw [E_Tx_advance_1]
    simp (disch := omega) only [obj_e (z13 q.1), h4, q.2.2.2.2.1, nlt]
    by_cases a : p < t.length
    · obtain ⟨c1, c2, c3⟩ := q.c a
      rw [if_pos a, E_Tx_advance_2]
      simp (disch := omega) only [obj_e (z13 q.1), h4, q.2.1, idx_n (z14 q.1), c1, yeq]
      by_cases b : ch t p = 32
      · have f : xfr fT h (sI h 13 4 (zI ((p + 1 : Nat) : Int))) := xfr_sI h ⟨rfl, Or.inl rfl⟩ _
        obtain ⟨h', e, f2, g⟩ := ih (p + 1) _ (by omega) (by omega) (q.mv f (by unfold fT; omega) (by unfold fT; omega)) (hI_hit _ _ _ _)
        refine ⟨h', ?_, f.tr f2, by rw [skS, dif_pos ⟨a, b⟩]; exact g⟩
        rw [if_pos (by omega), E_Tx_advance_3]
        simp (disch := omega) only [obj_e (z13 q.1), h4, mb_some, nadd1]
        exact e
      · refine ⟨h, by rw [if_neg (by omega)], xfr.rf _ h, by rw [skS, dif_neg (by omega)]; exact h4⟩
    · rw [if_neg a]
      exact ⟨h, rfl, xfr.rf _ h, by rw [skS, dif_neg (by omega)]; exact h4⟩
theorem adv_7 (d : Nat) {t : List Nat} {k : Nat} (hk : k < 2) : ∀ (n p : Nat) (h : AH), t.length ≤ p + n → p ≤ t.length → TXQ h t → hI h 13 5 = zI p → ∃ h', Rk B_Tx_advance L_Tx_advance (Cc (d + 1)) 7 [aR (some 13), aI (zI k)] [] h = some (none, h') ∧ xfr (fun a j => a = 13 ∧ j = 5) h h' ∧ hI h' 13 5 = zI (exE t k p) := by
  intro n
  induction n with
  | zero =>
    intro p h hn hp q h4
    have hl := q.2.2.2.1.1
    refine ⟨h, ?_, xfr.rf _ h, by rw [exE, dif_neg (by omega)]; exact h4⟩
    rw [E_Tx_advance_7]
    simp (disch := omega) only [obj_e (z13 q.1), h4, q.2.2.2.2.1, nlt]
    rw [if_neg (by omega), E_Tx_advance_11]
  | succ n ih =>
    intro p h hn hp q h4
    have hl := q.2.2.2.1.1
    rw [E_Tx_advance_7]
    simp (disch := omega) only [obj_e (z13 q.1), h4, q.2.2.2.2.1, nlt]
    by_cases a : p < t.length
    · obtain ⟨c1, c2, c3⟩ := q.c a
      have hk2 := kd_le (ch t p)
      rw [if_pos a, E_Tx_advance_8]
      simp (disch := omega) only [yeq]
      rw [if_neg (by omega), E_Tx_advance_9]
      simp (disch := omega) only [obj_e (z13 q.1), h4, q.2.1, idx_n (z14 q.1), c1]
      rw [calI_e (Tx_kindOf d h c2)]
      simp (disch := omega) only [neq]
      by_cases b : kd (ch t p) = k
      · have f : xfr (fun a j => a = 13 ∧ j = 5) h (sI h 13 5 (zI ((p + 1 : Nat) : Int))) := xfr_sI (F := fun a j => a = 13 ∧ j = 5) h ⟨rfl, rfl⟩ _
        obtain ⟨h', e, f2, g⟩ := ih (p + 1) _ (by omega) (by omega) (q.mv f (by omega) (by omega)) (hI_hit _ _ _ _)
        refine ⟨h', ?_, f.tr f2, by rw [exE, dif_pos ⟨a, b⟩]; exact g⟩
        rw [if_pos b, E_Tx_advance_10]
        simp (disch := omega) only [obj_e (z13 q.1), h4, mb_some, nadd1]
        exact e
      · refine ⟨h, by rw [if_neg b, E_Tx_advance_11], xfr.rf _ h, by rw [exE, dif_neg (by omega)]; exact h4⟩
    · rw [if_neg a]
      exact ⟨h, by rw [E_Tx_advance_11], xfr.rf _ h, by rw [exE, dif_neg (by omega)]; exact h4⟩
theorem Tx_advance (d : Nat) {h : AH} {t : List Nat} {e : Nat} (q : TXQ h t) (he : e ≤ t.length) (h5 : hI h 13 5 = zI e) : ∃ h', Cc (d + 2) k_Tx_advance [aR (some 13)] h = some (none, h') ∧ xfr fT h h' ∧ hI h' 13 4 = zI (tkS t e) ∧ hI h' 13 5 = zI (tkE t e) ∧ TXQ h' t := by
  have hl := q.2.2.2.1.1
  have f0 : xfr fT h (sI h 13 4 (zI e)) := xfr_sI h ⟨rfl, Or.inl rfl⟩ _
  obtain ⟨h1, e1, f1, g1⟩ := adv_1 d t.length e (sI h 13 4 (zI e)) (by omega) he (q.mv f0 (by unfold fT; omega) (by unfold fT; omega)) (hI_hit _ _ _ _)
  have f01 := f0.tr f1
  have q1 := q.mv f01 (by unfold fT; omega) (by unfold fT; omega)
  have hb := (skS_b t t.length e (by omega)).2 he
  have f2 : xfr fT h1 (sI h1 13 5 (zI (skS t e))) := xfr_sI h1 ⟨rfl, Or.inr rfl⟩ _
  have q2 := q1.mv f2 (by unfold fT; omega) (by unfold fT; omega)
  have start : Cc (d + 2) k_Tx_advance [aR (some 13)] h = Rk B_Tx_advance L_Tx_advance (Cc (d + 1)) 4 [aR (some 13), aU] [] h1 := by
    rw [C_Tx_advance, E_Tx_advance_0]
    simp only [obj_e (z13 q.1), h5, mb_some]
    exact e1
  rw [start, E_Tx_advance_4]
  simp (disch := omega) only [obj_e (z13 q1.1), obj_sI, g1, mb_some, hI_off, q1.2.2.2.2.1, nlt]
  by_cases a : skS t e < t.length
  · obtain ⟨c1, c2, c3⟩ := q2.c a
    have hk2 := kd_le (ch t (skS t e))
    rw [if_pos a, E_Tx_advance_6]
    simp (disch := omega) only [obj_e (z13 q1.1), obj_sI, hR_sI, hI_off, g1, q1.2.1, idx_sI, idx_n (z14 q1.1)]
    rw [hI_off (by omega)] at c1
    rw [c1, calI_e (Tx_kindOf d _ c2)]
    simp (disch := omega) only [obj_e (z13 q1.1), obj_sI, lt_e, mb_some, hI_hit, nadd1]
    have f3 : xfr fT h1 (sI (sI h1 13 5 (zI (skS t e))) 13 5 (zI ((skS t e + 1 : Nat) : Int))) := f2.tr (xfr_sI _ ⟨rfl, Or.inr rfl⟩ _)
    have q3 := q1.mv f3 (by unfold fT; omega) (by unfold fT; omega)
    by_cases b : kd (ch t (skS t e)) = 2
    · refine ⟨_, ?_, f01.tr f3, ?_, ?_, q3⟩
      · rw [b, E_Tx_advance_7]
        simp (disch := omega) only [obj_e (z13 q1.1), obj_sI, hI_off, hI_hit, q1.2.2.2.2.1, nlt]
        by_cases y : skS t e + 1 < t.length
        · rw [if_pos y, E_Tx_advance_8, if_pos (show zI ((2 : Nat) : Int) = zI 2 from rfl), E_Tx_advance_11]
        · rw [if_neg y, E_Tx_advance_11]
      · rw [hI_off (by omega), hI_off (by omega)]; exact g1
      · rw [hI_hit, tkE, if_pos a, if_pos b]
    · obtain ⟨h', e7, f7, g7⟩ := adv_7 d (k := kd (ch t (skS t e))) (by omega) t.length (skS t e + 1) (sI (sI h1 13 5 (zI (skS t e))) 13 5 (zI ((skS t e + 1 : Nat) : Int))) (by omega) (by omega) q3 (hI_hit _ _ _ _)
      have f7' := f7.mo (G := fT) (fun a j hh => ⟨hh.1, Or.inr hh.2⟩)
      refine ⟨h', e7, (f01.tr f3).tr f7', ?_, ?_, q3.mv f7 (by omega) (by omega)⟩
      · rw [f7.I (by omega), hI_off (by omega), hI_off (by omega)]; exact g1
      · rw [g7, tkE, if_pos a, if_neg b]
  · rw [if_neg a]
    refine ⟨_, by rw [E_Tx_advance_5], f01.tr f2, ?_, ?_, q2⟩
    · rw [hI_off (by omega)]; exact g1
    · rw [hI_hit, tkE, if_neg a]
theorem P_len (d : Nat) (h : AH) {q : Nat} {w : List Nat} (hw : TX[q]? = some w) : Cc (d + 5) 2 [aS q] h = some (some (aI (zI w.length)), h) := by
  show (match TX[q]? with | some t => some (some (aI (nI t.length)), h) | none => none : Option AR) = _
  rw [hw, ← zI_nI]
theorem P_at (d : Nat) (h : AH) {q : Nat} {w : List Nat} (hw : TX[q]? = some w) {i : Nat} (hi : i < w.length) (hl : w.length < 100) : Cc (d + 5) 3 [aS q, aI (zI i)] h = some (some (aI (zI (w.getD i 0))), h) := by
  show (match TX[q]? with | some t => if ¬ (zI i < 0 ∨ t.length ≤ (zI i).toNatClampNeg) then some (some (aI (nI (t.getD (zI i).toNatClampNeg 0))), h) else none | none => none : Option AR) = _
  rw [hw]
  show (if ¬ (zI i < 0 ∨ w.length ≤ (zI i).toNatClampNeg) then some (some (aI (nI (w.getD (zI i).toNatClampNeg 0))), h) else none : Option AR) = _
  rw [zI_clamp (by omega), if_pos, zI_nI]
  rw [nlt0 (by omega)]
  intro z
  rcases z with z | z
  · exact z
  · omega
theorem Tx_isWord (d : Nat) {h : AH} {t w : List Nat} {k s e : Nat} (q : TXQ h t) (h4 : hI h 13 4 = zI s) (h5 : hI h 13 5 = zI e) (hse : s ≤ e) (he : e ≤ t.length) (hk : k < 9) (hw : TX[k]? = some w) (hl : w.length < 100) (hc : ∀ c, c ∈ w → c < 256) : Cc (d + 6) k_Tx_isWord [aR (some 13), aS k] h = some (some (aI (zI (if isW t s e w then 1 else 0))), h) := by
  have hl2 := q.2.2.2.1.1
  rw [C_Tx_isWord, E_Tx_isWord_0]
  simp only [obj_e (z13 q.1), h4, h5]
  rw [if_pos ⟨by trivial, hk⟩, calI_e (P_len d h hw), show zI (e : Int) - zI s = zI ((e - s : Nat) : Int) from by rw [zI_sub]; congr 1; omega]
  simp (disch := omega) only [neq]
  have lp : e = s + w.length → ∀ n i, i + n = w.length → (∀ j, j < i → ch t (s + j) = w.getD j 0) → Rk B_Tx_isWord L_Tx_isWord (Cc (d + 5)) 3 [aR (some 13), aS k, aI (zI i)] [] h = some (some (aI (zI (if isW t s e w then 1 else 0))), h) := by
    intro hes n
    induction n with
    | zero =>
      intro i hi hj
      rw [E_Tx_isWord_3, if_pos ⟨by trivial, hk⟩, calI_e (P_len d h hw)]
      simp (disch := omega) only [nlt]
      rw [if_neg (by omega), E_Tx_isWord_7]
      have : isW t s e w = true := by
        unfold isW
        rw [Bool.and_eq_true, List.all_eq_true]
        refine ⟨by simp [hes], fun j hj2 => ?_⟩
        rw [List.mem_range] at hj2
        rw [beq_iff_eq]; exact hj j (by omega)
      rw [this]
      simp [zI_0, zI_1]
    | succ n ih =>
      intro i hi hj
      obtain ⟨c1, c2, c3⟩ := q.c (i := s + i) (by omega)
      have c4 : w.getD i 0 < 256 := by
        rw [List.getD_eq_getElem?_getD, List.getElem?_eq_getElem (by omega)]
        exact hc _ (List.getElem_mem (by omega))
      rw [E_Tx_isWord_3, if_pos ⟨by trivial, hk⟩, calI_e (P_len d h hw)]
      simp (disch := omega) only [nlt]
      rw [if_pos (by omega), E_Tx_isWord_4]
      simp only [obj_e (z13 q.1), h4, q.2.1, nadd]
      simp (disch := omega) only [idx_n (z14 q.1), c1]
      rw [if_pos ⟨by trivial, hk⟩, calI_e (P_at d h hw (by omega) hl)]
      simp (disch := omega) only [neq]
      by_cases b : ch t (s + i) = w.getD i 0
      · rw [if_pos b, E_Tx_isWord_6, lt_e, nadd1]
        refine ih (i + 1) (by omega) ?_
        intro j hj2
        by_cases y : j = i
        · subst y; exact b
        · exact hj j (by omega)
      · rw [if_neg b, E_Tx_isWord_5]
        have : isW t s e w = false := by
          unfold isW
          cases y : (List.range w.length).all (fun i => ch t (s + i) == w.getD i 0) with
          | false => simp
          | true =>
            rw [List.all_eq_true] at y
            exact absurd (beq_iff_eq.mp (y i (List.mem_range.mpr (by omega)))) b
        rw [this]
        simp [zI_0, zI_1]
  by_cases a : e - s = w.length
  · rw [if_pos a, E_Tx_isWord_2, lt_e]
    exact lp (by omega) w.length 0 (by omega) (by intro j hj; omega)
  · rw [if_neg a, E_Tx_isWord_1]
    have : isW t s e w = false := by
      unfold isW
      rw [show (e == s + w.length) = false from by rw [beq_eq_false_iff_ne]; omega]
      rfl
    rw [this]
    simp [zI_0, zI_1]
