/-! X: Fillings: the search, all choices -/
def Pm (w : Rw) (p : Int × Int) (o m : Nat) : Bool := if p.2 = -1 then decide (idN w m ≤ (tn w).length + o + 1) else decide (idN w m = idn w p.2)
theorem Pm_i {w : Rw} {p : Int × Int} {o m : Nat} : (if p.2 = -1 then idN w m ≤ (tn w).length + o + 1 else idN w m = idn w p.2) ↔ Pm w p o m = true := by
  unfold Pm
  by_cases z : p.2 = -1
  · rw [if_pos z, if_pos z, decide_eq_true_iff]
  · rw [if_neg z, if_neg z, decide_eq_true_iff]
noncomputable def ffl (r : Rdr) (w : Rw) (a o : Nat) (u : List (Nat × Nat)) (l m : Nat) : List (List (Nat × Nat)) := (fls r w (w.length - (a + 1)) (a + 1) (nxo w o m) ((l, idN w m) :: u)).map ((l, m) :: ·)
theorem ff_nm (d : Nat) {s : Stt} {x : Int} {la n b a o l : Nat} {S : Nat → Bool} {u : List (Nat × Nat)} {p : Int × Int} {x4 : Int32} (IH : ∀ n', n' < n → FFS s x la n') (hla : LST s.2.2.2 la) (hn : a + n = la) (hp : s.2.2.2[a]? = some p) (hg : p.1 = -1 ∨ p.2 = -1) (hb : b ≤ 1) (hl : l < 3) (ho : o ≤ gnm s.2.2.2 a) (rqs : RQS S (rdr s x) u (Lw s.2.2.2 a)) (hu : ∀ p, p ∈ u → p.2 < 16) : ∀ (j k : Nat) (h : AH) (f0 : Nat), k + j = (CNn s.2.2.2 100).length → FQ s h x la b → hI h 72 a = zI l → SP h (22 + 3 * a) 24576 S → hI h 69 11 = zI f0 →
    FO s x la b a (a + 1) h f0 (Rk B_Fl_fillFrom L_Fl_fillFrom (Cc (d + 19 + 2 * n)) 18 [aR (some 69), aU, aI (zI o), aI (zI a), aI x4, aI (zI l), aI (zI k)] [] h) (fun h' => Rk B_Fl_fillFrom L_Fl_fillFrom (Cc (d + 19 + 2 * n)) 23 [aR (some 69), aU, aI (zI o), aI (zI a), aI x4, aI (zI l), aU] [] h') ((((CNn s.2.2.2 100).drop k).filter (Pm s.2.2.2 p o)).flatMap (ffl (rdr s x) s.2.2.2 a o u l)) := by
  intro j
  induction j with
  | zero =>
    intro k h f0 hk q h72 sp hf
    have hw := q.1.rw.1
    have hTG := tn_gnm s.2.2.2
    have hCl := CNn_len s.2.2.2 100
    have hl12 := hw.1
    rw [List.drop_of_length_le (by omega)]
    refine FO_0 q hf ?_
    rw [E_Fl_fillFrom_18, obj_e (z69 q.1.1), q.2.2.2.2.1.1]
    simp (disch := omega) only [nlt]
    rw [if_neg (by omega)]
  | succ j ih =>
    intro k h f0 hk q h72 sp hf
    have px := q.1
    have hw := px.rw.1
    have hTG := tn_gnm s.2.2.2
    have hCl := CNn_len s.2.2.2 100
    have hl12 := hw.1
    have hlal := hla.1
    have ho12 : o ≤ 12 := by
      have := gnm_m (w := s.2.2.2) (show a ≤ s.2.2.2.length by omega)
      omega
    have hkm : (CNn s.2.2.2 100)[k]? = some (CNn s.2.2.2 100)[k] := List.getElem?_eq_getElem (by omega)
    have hm : (CNn s.2.2.2 100)[k] ∈ CNn s.2.2.2 100 := List.getElem_mem _
    obtain ⟨c1, c2, c3⟩ := CN_m hw hm
    have c70 := q.2.2.2.2.1.2.1 k _ hkm
    rw [List.drop_eq_getElem_cons (by omega)]
    generalize hM : (CNn s.2.2.2 100)[k] = m at *
    have e0 : Rk B_Fl_fillFrom L_Fl_fillFrom (Cc (d + 19 + 2 * n)) 18 [aR (some 69), aU, aI (zI o), aI (zI a), aI x4, aI (zI l), aI (zI k)] [] h = if Pm s.2.2.2 p o m = true then Rk B_Fl_fillFrom L_Fl_fillFrom (Cc (d + 19 + 2 * n)) 20 [aR (some 69), aU, aI (zI o), aI (zI a), aI x4, aI (zI l), aI (zI k)] [] h else Rk B_Fl_fillFrom L_Fl_fillFrom (Cc (d + 19 + 2 * n)) 22 [aR (some 69), aU, aI (zI o), aI (zI a), aI x4, aI (zI l), aI (zI k)] [] h := by
      rw [E_Fl_fillFrom_18, obj_e (z69 px.1), q.2.2.2.2.1.1]
      simp (disch := omega) only [nlt]
      rw [if_pos (by omega), E_Fl_fillFrom_19, obj_e (z69 px.1), px.r (a := 69) (j := 3) (c := 70) (by decide)]
      simp (disch := omega) only [idx_n (z70 px.1), c70]
      rw [obj_e (z69 px.1), show d + 19 + 2 * n = d + 17 + 2 * n + 2 by omega, calI_e (Fl_mayHave _ q hp (by omega) (by omega)), if01]
      by_cases z : Pm s.2.2.2 p o m = true
      · rw [if_pos z, if_pos (Pm_i.mpr z)]
      · rw [if_neg z, if_neg (fun w => z (Pm_i.mp w))]
    have nx : ∀ h1, Rk B_Fl_fillFrom L_Fl_fillFrom (Cc (d + 19 + 2 * n)) 22 [aR (some 69), aU, aI (zI o), aI (zI a), aI x4, aI (zI l), aI (zI k)] [] h1 = Rk B_Fl_fillFrom L_Fl_fillFrom (Cc (d + 19 + 2 * n)) 18 [aR (some 69), aU, aI (zI o), aI (zI a), aI x4, aI (zI l), aI (zI ((k + 1 : Nat) : Int))] [] h1 := by
      intro h1
      rw [E_Fl_fillFrom_22, nadd1, lt_e]
    by_cases z : Pm s.2.2.2 p o m = true
    · rw [List.filter_cons_of_pos z, List.flatMap_cons]
      rw [if_pos z] at e0
      have e21 : ∀ h1, Rk B_Fl_fillFrom L_Fl_fillFrom (Cc (d + 19 + 2 * n)) 21 [aU, aU, aU, aU, aU, aU, aU] [] h1 = some (some (aI (zI 1)), h1) := fun h1 => by rw [E_Fl_fillFrom_21, fr1]
      have one := fl_one d (f0 := f0) (k := fun h1 => Rk B_Fl_fillFrom L_Fl_fillFrom (Cc (d + 19 + 2 * n)) 22 [aR (some 69), aU, aI (zI o), aI (zI a), aI x4, aI (zI l), aI (zI k)] [] h1) IH hla hn hp hg hb hl hm (Pm_i.mpr z) ho q h72 sp rqs hu hf
      rw [E_Fl_fillFrom_20, obj_e (z69 px.1), px.r (a := 69) (j := 3) (c := 70) (by decide)] at e0
      simp (disch := omega) only [idx_n (z70 px.1), c70, e21] at e0
      rw [obj_e (z69 px.1)] at e0
      rw [e0]
      refine FO_t (Nat.le_refl _) one (fun h1 f1 q1 a1 a2 hf1 => ?_)
      rw [nx]
      exact ih (k + 1) h1 _ (by omega) q1 (by rw [a1 a (by omega)]; exact h72) (sp.fr f1 (fun t ht => by unfold spF at ht; unfold fiF; omega)) hf1
    · rw [List.filter_cons_of_neg z]
      rw [e0, if_neg z, nx]
      exact ih (k + 1) h f0 (by omega) q h72 sp hf
theorem ff_lt (d : Nat) {s : Stt} {x : Int} {la n b a o top : Nat} {S : Nat → Bool} {u : List (Nat × Nat)} {p : Int × Int} {x4 : Nat} (IH : ∀ n', n' < n → FFS s x la n') (hla : LST s.2.2.2 la) (hn : a + n = la) (hp : s.2.2.2[a]? = some p) (hg : p.1 = -1 ∨ p.2 = -1) (hb : b ≤ 1) (htop : (x4 = 1 ∧ top = 2) ∨ (x4 = 0 ∧ p.1 = (top : Int))) (ho : o ≤ gnm s.2.2.2 a) (rqs : RQS S (rdr s x) u (Lw s.2.2.2 a)) (hu : ∀ p, p ∈ u → p.2 < 16) : ∀ (j l : Nat) (h : AH) (f0 : Nat), l + j = top + 1 → FQ s h x la b → SP h (22 + 3 * a) 24576 S → hI h 69 11 = zI f0 →
    FO s x la b a a h f0 (Rk B_Fl_fillFrom L_Fl_fillFrom (Cc (d + 19 + 2 * n)) 13 [aR (some 69), aU, aI (zI o), aI (zI a), aI (zI x4), aI (zI l), aU] [] h) (fun h' => some (some (aI (zI 0)), h')) ((List.range' l j).flatMap fun l => ((CNn s.2.2.2 100).filter (Pm s.2.2.2 p o)).flatMap (ffl (rdr s x) s.2.2.2 a o u l)) := by
  have top3 : s.2.2.2.length ≤ 12 → WV s.2.2.2 → top < 3 := by
    intro _ hw
    have := hw.2 p (List.mem_of_getElem? hp)
    omega
  have e13 : ∀ (l : Nat) (h : AH), l ≤ 3 → FQ s h x la b → Rk B_Fl_fillFrom L_Fl_fillFrom (Cc (d + 19 + 2 * n)) 13 [aR (some 69), aU, aI (zI o), aI (zI a), aI (zI x4), aI (zI l), aU] [] h = if l ≤ top then Rk B_Fl_fillFrom L_Fl_fillFrom (Cc (d + 19 + 2 * n)) 17 [aR (some 69), aU, aI (zI o), aI (zI a), aI (zI x4), aI (zI l), aU] [] h else some (some (aI (zI 0)), h) := by
    intro l h hl q
    have px := q.1
    have := top3 px.rw.1.1 px.rw.1
    have e16 : Rk B_Fl_fillFrom L_Fl_fillFrom (Cc (d + 19 + 2 * n)) 16 [aR (some 69), aU, aI (zI o), aI (zI a), aI (zI x4), aI (zI l), aU] [aI (zI top), aI (zI l)] h = if l ≤ top then Rk B_Fl_fillFrom L_Fl_fillFrom (Cc (d + 19 + 2 * n)) 17 [aR (some 69), aU, aI (zI o), aI (zI a), aI (zI x4), aI (zI l), aU] [] h else some (some (aI (zI 0)), h) := by
      rw [E_Fl_fillFrom_16, E_Fl_fillFrom_24, fr0]
      simp (disch := omega) only [nle]
    rcases htop with ⟨t1, t2⟩ | ⟨t1, t2⟩
    · subst t1
      rw [E_Fl_fillFrom_13, if_neg (by decide), E_Fl_fillFrom_14, show zI 2 = zI (top : Int) by rw [t2]; rfl, e16]
    · subst t1
      rw [E_Fl_fillFrom_13, if_pos (by decide), E_Fl_fillFrom_15, obj_e (z69 px.1), px.r (a := 69) (j := 7) (c := 16) (by decide), obj_e (z16 px.1), show d + 19 + 2 * n = d + 18 + 2 * n + 1 by omega, calI_e (Rw_letter _ px.rw hp), t2, ← show d + 19 + 2 * n = d + 18 + 2 * n + 1 by omega, e16]
  intro j
  induction j with
  | zero =>
    intro l h f0 hj q sp hf
    have := top3 q.1.rw.1.1 q.1.rw.1
    exact FO_0 q hf (by rw [e13 l h (by omega) q, if_neg (by omega)])
  | succ j ih =>
    intro l h f0 hj q sp hf
    have px := q.1
    have := top3 px.rw.1.1 px.rw.1
    have hl12 := px.rw.1.1
    have hlal := hla.1
    rw [List.range'_succ, List.flatMap_cons, e13 l h (by omega) q, if_pos (by omega), E_Fl_fillFrom_17, obj_e (z69 px.1), px.r (a := 69) (j := 5) (c := 72) (by decide)]
    simp (disch := omega) only [idx_n (z72 px.1), lt_e]
    have q1 : FQ s (sI h 72 a (zI l)) x la b := FQ_73 q hp hg (Or.inl rfl)
    have f1 : fr (fiF a) h (sI h 72 a (zI l)) := fr_sI (F := fiF a) h (by unfold fiF; omega) _ _
    have sp1 : SP (sI h 72 a (zI l)) (22 + 3 * a) 24576 S := sp.fr f1 (fun t ht => by unfold spF at ht; unfold fiF; omega)
    have nm := ff_nm d (x4 := zI x4) (l := l) IH hla hn hp hg hb (by omega) ho rqs hu _ 0 (sI h 72 a (zI l)) f0 (Nat.zero_add _) q1 (hI_hit _ _ _ _) sp1 (by rw [hI_off (by omega)]; exact hf)
    rw [List.drop_zero] at nm
    have nm' : FO s x la b a a h f0 (Rk B_Fl_fillFrom L_Fl_fillFrom (Cc (d + 19 + 2 * n)) 18 [aR (some 69), aU, aI (zI o), aI (zI a), aI (zI x4), aI (zI l), aI (zI 0)] [] (sI h 72 a (zI l))) (fun h' => Rk B_Fl_fillFrom L_Fl_fillFrom (Cc (d + 19 + 2 * n)) 23 [aR (some 69), aU, aI (zI o), aI (zI a), aI (zI x4), aI (zI l), aU] [] h') (((CNn s.2.2.2 100).filter (Pm s.2.2.2 p o)).flatMap (ffl (rdr s x) s.2.2.2 a o u l)) := by
      obtain ⟨h', f', q', b1, b2, alt⟩ := nm
      exact ⟨h', f1.tr f', q', fun t ht => by rw [b1 t (by omega), hI_off (by omega)], fun t ht => by rw [b2 t ht, hI_off (by omega)], alt⟩
    refine FO_t (Nat.le_refl _) nm' (fun h1 f1 q1 a1 a2 hf1 => ?_)
    rw [E_Fl_fillFrom_23, nadd1, lt_e]
    exact ih (l + 1) h1 _ (by omega) q1 (sp.fr f1 (fun t ht => by unfold spF at ht; unfold fiF; omega)) hf1
