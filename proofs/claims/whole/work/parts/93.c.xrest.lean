/-! X: Fillings: the rest -/
def GDs (h : AH) (r : Rdr) (w : Rw) (la : Nat) : Prop := ∃ S, SP h 61 24576 S ∧ ∀ c, CV c → S (eX (stl (Lw w (la + 1)) 0 c)) = true → gq r (sfx w (la + 1)) c
def FQ (s : Stt) (h : AH) (x : Int) (la b : Nat) : Prop := XI s h ∧ hR h 69 8 = some (xa x) ∧ hI h 69 10 = zI la ∧ hI h 69 12 = zI b ∧ FN h s.2.2.2 100 ∧ (∀ j, la + 1 ≤ j → j < s.2.2.2.length → NG h (rdr s x) s.2.2.2 j) ∧ GDs h (rdr s x) s.2.2.2 la ∧ ∀ j p, s.2.2.2[j]? = some p → p.1 ≠ -1 → p.2 ≠ -1 → hI h 72 j = zI p.1 ∧ hI h 73 j = zI p.2
/-- behind here there are no gaps -/
def LST (w : Rw) (la : Nat) : Prop := la < w.length ∧ ∀ (j : Nat) (p : Int × Int), la + 1 ≤ j → w[j]? = some p → p.1 ≠ -1 ∧ p.2 ≠ -1
def rsF (la b : Nat) : Prop := (22 + 3 * (la + 1) ≤ b ∧ b ≤ 63) ∨ b = 67
theorem FN.fr {F : Nat → Prop} {h h' : AH} {w : Rw} {n : Nat} (p : FN h w n) (f : fr F h h') (n1 : ¬ F 69) (n2 : ¬ F 70) (n3 : ¬ F 71) : FN h' w n := ⟨by rw [f.I n1]; exact p.1, fun k m hm => by rw [f.I n2]; exact p.2.1 k m hm, fun m hm => by rw [f.I n3]; exact p.2.2 m hm⟩
theorem alv_L {w : Rw} (hw : WV w) (i : Nat) : AL (zI (alv (idn w) (w.drop i))) (Lw w i) := (alv_al (fun n => idn16 hw n) _).1
theorem ri_in (d : Nat) {s : Stt} {x : Int} {la b l y : Nat} {c : Cfg} {x4 : Int32} {ra : Option Nat} (hla : LST s.2.2.2 la) (hl : l < 3) (hy : y < 16) (hc : CV c) : ∀ (n j : Nat) (h : AH), j + n = (bk (rdr s x).2.2.2 (c.1 * 3 + l)).length → FQ s h x la b → hI h 72 la = zI l →
    ∃ h', fr (rsF la) h h' ∧ FQ s h' x la b ∧ ((Rk B_Fl_restIsTaken L_Fl_restIsTaken (Cc (d + 17)) 4 [aR (some 69), aI (zI y), aR ra, aI (zI (eX c)), aI x4, aI (zI (bg (rdr s x).2.2.2 (c.1 * 3 + l + 1))), aI (zI ((bg (rdr s x).2.2.2 (c.1 * 3 + l) + j : Nat) : Int)), aU] [] h = some (some (aI (zI 1)), h') ∧ ∃ c', stq (rdr s x) c l y c' ∧ gq (rdr s x) (sfx s.2.2.2 (la + 1)) c') ∨ (Rk B_Fl_restIsTaken L_Fl_restIsTaken (Cc (d + 17)) 4 [aR (some 69), aI (zI y), aR ra, aI (zI (eX c)), aI x4, aI (zI (bg (rdr s x).2.2.2 (c.1 * 3 + l + 1))), aI (zI ((bg (rdr s x).2.2.2 (c.1 * 3 + l) + j : Nat) : Int)), aU] [] h = Rk B_Fl_restIsTaken L_Fl_restIsTaken (Cc (d + 17)) 13 [aR (some 69), aI (zI y), aR ra, aI (zI (eX c)), aI x4, aU, aU, aU] [] h' ∧ ∀ (k i : Nat) (m : Mv) (c' : Cfg), j ≤ k → (bk (rdr s x).2.2.2 (c.1 * 3 + l))[k]? = some i → (rdr s x).2.2.2[i]? = some m → stp m c y = some c' → ¬ gq (rdr s x) (sfx s.2.2.2 (la + 1)) c'))
  | 0, j, h, hn, q, h72 => by
    have rd := q.1.rd x
    have h1 : bg (rdr s x).2.2.2 (c.1 * 3 + l + 1) ≤ 20 := Nat.le_trans (bg_le _ _) rd.1.2.2.2.2.1
    refine ⟨h, fr.rf _ h, q, Or.inr ⟨?_, fun k i m c' h1 h2 => by have := (List.getElem?_eq_some_iff.mp h2).1; omega⟩⟩
    rw [bg] at h1
    rw [E_Fl_restIsTaken_4, bg]
    simp (disch := omega) only [nlt]
    rw [if_neg (by omega)]
  | n + 1, j, h, hn, q, h72 => by
    obtain ⟨px, q8, q10, q12, qn, qg, ⟨S, sp, gd⟩, qa⟩ := id q
    have rd := px.rd x
    have hw := px.rw.1
    have hl12 := hw.1
    have hlal := hla.1
    have hc6 := hc.1
    have h1 : bg (rdr s x).2.2.2 (c.1 * 3 + l + 1) ≤ 20 := Nat.le_trans (bg_le _ _) rd.1.2.2.2.2.1
    have hk : (bk (rdr s x).2.2.2 (c.1 * 3 + l))[j]? = some (bk (rdr s x).2.2.2 (c.1 * 3 + l))[j] := List.getElem?_eq_getElem (by omega)
    obtain ⟨m, hm, km⟩ := bk_mem hk
    have hmv := (rd.1.mi hm).1
    have kk := (key_iff hmv.2.1 hl).mp km
    have ob := zI_oX hmv hc hy
    have e0 : Rk B_Fl_restIsTaken L_Fl_restIsTaken (Cc (d + 17)) 4 [aR (some 69), aI (zI y), aR ra, aI (zI (eX c)), aI x4, aI (zI (bg (rdr s x).2.2.2 (c.1 * 3 + l + 1))), aI (zI ((bg (rdr s x).2.2.2 (c.1 * 3 + l) + j : Nat) : Int)), aU] [] h = if oX (stp m c y) < 0 then Rk B_Fl_restIsTaken L_Fl_restIsTaken (Cc (d + 17)) 6 [aR (some 69), aI (zI y), aR ra, aI (zI (eX c)), aI x4, aI (zI (bg (rdr s x).2.2.2 (c.1 * 3 + l + 1))), aI (zI ((bg (rdr s x).2.2.2 (c.1 * 3 + l) + j : Nat) : Int)), aU] [] h else Rk B_Fl_restIsTaken L_Fl_restIsTaken (Cc (d + 17)) 7 [aR (some 69), aI (zI y), aR ra, aI (zI (eX c)), aI x4, aI (zI (bg (rdr s x).2.2.2 (c.1 * 3 + l + 1))), aI (zI ((bg (rdr s x).2.2.2 (c.1 * 3 + l) + j : Nat) : Int)), aI (zI (oX (stp m c y)))] [] h := by
      rw [bg] at h1
      rw [E_Fl_restIsTaken_4, bg]
      simp (disch := omega) only [nlt]
      rw [if_pos (by omega), E_Fl_restIsTaken_5, obj_e (z69 px.1), obj_e (z69 px.1), q8, obj_e rd.2.1.1, calI_e (Rd_moveAt _ rd (by omega) hk), obj_e rd.2.1.1, calI_e (Rd_after _ rd hc hm hy), lt_e]
      simp (disch := omega) only [ylt0]
    -- the moves behind this one
    have cont : ∀ h1, fr (rsF la) h h1 → FQ s h1 x la b → (∀ c', stp m c y = some c' → ¬ gq (rdr s x) (sfx s.2.2.2 (la + 1)) c') → Rk B_Fl_restIsTaken L_Fl_restIsTaken (Cc (d + 17)) 4 [aR (some 69), aI (zI y), aR ra, aI (zI (eX c)), aI x4, aI (zI (bg (rdr s x).2.2.2 (c.1 * 3 + l + 1))), aI (zI ((bg (rdr s x).2.2.2 (c.1 * 3 + l) + j : Nat) : Int)), aU] [] h = Rk B_Fl_restIsTaken L_Fl_restIsTaken (Cc (d + 17)) 12 [aR (some 69), aI (zI y), aR ra, aI (zI (eX c)), aI x4, aI (zI (bg (rdr s x).2.2.2 (c.1 * 3 + l + 1))), aI (zI ((bg (rdr s x).2.2.2 (c.1 * 3 + l) + j : Nat) : Int)), aU] [] h1 →
        ∃ h', fr (rsF la) h h' ∧ FQ s h' x la b ∧ ((Rk B_Fl_restIsTaken L_Fl_restIsTaken (Cc (d + 17)) 4 [aR (some 69), aI (zI y), aR ra, aI (zI (eX c)), aI x4, aI (zI (bg (rdr s x).2.2.2 (c.1 * 3 + l + 1))), aI (zI ((bg (rdr s x).2.2.2 (c.1 * 3 + l) + j : Nat) : Int)), aU] [] h = some (some (aI (zI 1)), h') ∧ ∃ c', stq (rdr s x) c l y c' ∧ gq (rdr s x) (sfx s.2.2.2 (la + 1)) c') ∨ (Rk B_Fl_restIsTaken L_Fl_restIsTaken (Cc (d + 17)) 4 [aR (some 69), aI (zI y), aR ra, aI (zI (eX c)), aI x4, aI (zI (bg (rdr s x).2.2.2 (c.1 * 3 + l + 1))), aI (zI ((bg (rdr s x).2.2.2 (c.1 * 3 + l) + j : Nat) : Int)), aU] [] h = Rk B_Fl_restIsTaken L_Fl_restIsTaken (Cc (d + 17)) 13 [aR (some 69), aI (zI y), aR ra, aI (zI (eX c)), aI x4, aU, aU, aU] [] h' ∧ ∀ (k i : Nat) (m : Mv) (c' : Cfg), j ≤ k → (bk (rdr s x).2.2.2 (c.1 * 3 + l))[k]? = some i → (rdr s x).2.2.2[i]? = some m → stp m c y = some c' → ¬ gq (rdr s x) (sfx s.2.2.2 (la + 1)) c')) := by
      intro h1 f1 q1 hno e1
      obtain ⟨h2, f2, q2, alt⟩ := ri_in d (x4 := x4) (ra := ra) hla hl hy hc n (j + 1) h1 (by omega) q1 (by rw [f1.I (by unfold rsF; omega)]; exact h72)
      have e2 : Rk B_Fl_restIsTaken L_Fl_restIsTaken (Cc (d + 17)) 4 [aR (some 69), aI (zI y), aR ra, aI (zI (eX c)), aI x4, aI (zI (bg (rdr s x).2.2.2 (c.1 * 3 + l + 1))), aI (zI ((bg (rdr s x).2.2.2 (c.1 * 3 + l) + j : Nat) : Int)), aU] [] h = Rk B_Fl_restIsTaken L_Fl_restIsTaken (Cc (d + 17)) 4 [aR (some 69), aI (zI y), aR ra, aI (zI (eX c)), aI x4, aI (zI (bg (rdr s x).2.2.2 (c.1 * 3 + l + 1))), aI (zI ((bg (rdr s x).2.2.2 (c.1 * 3 + l) + (j + 1) : Nat) : Int)), aU] [] h1 := by
        rw [e1, E_Fl_restIsTaken_12, nadd1, lt_e]
        rfl
      refine ⟨h2, f1.tr f2, q2, ?_⟩
      rw [e2]
      rcases alt with alt | ⟨a1, a2⟩
      · exact Or.inl alt
      · refine Or.inr ⟨a1, fun k i m' c' w1 w2 w3 w4 => ?_⟩
        by_cases z : k = j
        · subst z
          rw [hk] at w2
          cases w2
          rw [hm] at w3
          cases w3
          exact hno c' w4
        · exact a2 k i m' c' (by omega) w2 w3 w4
    cases st : stp m c y with
    | none =>
      rw [st, if_pos (by decide), E_Fl_restIsTaken_6, E_Fl_restIsTaken_8, lt_e, obj_e (z69 px.1), px.r (a := 69) (j := 2) (c := 61) (by decide), obj_e sp.1.1] at e0
      have hh : Cc (d + 17) k_Sp_has [aR (some 61), aI (zI (-1))] h = some (some (aI (zI 0)), h) := by
        rw [C_Sp_has, E_Sp_has_0, if_pos (by decide), E_Sp_has_4, E_Sp_has_5, fr0]
      rw [calI_e hh, if_pos zI_0.symm, E_Fl_restIsTaken_9, if_pos (by decide)] at e0
      exact cont h (fr.rf _ h) q (fun c' w => by rw [st] at w; cases w) e0
    | some c' =>
      have cv' := stp_v hmv hc hy st
      have hst : stq (rdr s x) c l y c' := ⟨_, m, hm, kk.1, kk.2, st⟩
      have tv : CV (stl (Lw s.2.2.2 (la + 1)) 0 c') := stl_v cv' (by omega)
      have tl := eX_lt tv
      rw [st, oX_some, if_neg (by omega), E_Fl_restIsTaken_7, obj_e (z69 px.1), obj_e (z69 px.1), px.r (a := 69) (j := 7) (c := 16) (by decide), obj_e (z16 px.1), q10, nadd1, calI_e (Rw_alive _ px.rw (by omega)), zc0, calI_e (Rd_settle _ h cv' (alv_L hw (la + 1)) (o := 0) (by omega)), E_Fl_restIsTaken_8, lt_e, obj_e (z69 px.1), px.r (a := 69) (j := 2) (c := 61) (by decide), obj_e sp.1.1, calI_e (Sp_has _ sp (by omega)), if01] at e0
      -- it is good
      have yes : ∀ h1, fr (rsF la) h h1 → FQ s h1 x la b → gq (rdr s x) (sfx s.2.2.2 (la + 1)) c' → Rk B_Fl_restIsTaken L_Fl_restIsTaken (Cc (d + 17)) 4 [aR (some 69), aI (zI y), aR ra, aI (zI (eX c)), aI x4, aI (zI (bg (rdr s x).2.2.2 (c.1 * 3 + l + 1))), aI (zI ((bg (rdr s x).2.2.2 (c.1 * 3 + l) + j : Nat) : Int)), aU] [] h = Rk B_Fl_restIsTaken L_Fl_restIsTaken (Cc (d + 17)) 11 [aR (some 69), aU, aU, aU, aU, aU, aU, aI (zI (eX (stl (Lw s.2.2.2 (la + 1)) 0 c')))] [] h1 → ∃ h', fr (rsF la) h h' ∧ FQ s h' x la b ∧ ((Rk B_Fl_restIsTaken L_Fl_restIsTaken (Cc (d + 17)) 4 [aR (some 69), aI (zI y), aR ra, aI (zI (eX c)), aI x4, aI (zI (bg (rdr s x).2.2.2 (c.1 * 3 + l + 1))), aI (zI ((bg (rdr s x).2.2.2 (c.1 * 3 + l) + j : Nat) : Int)), aU] [] h = some (some (aI (zI 1)), h') ∧ ∃ c', stq (rdr s x) c l y c' ∧ gq (rdr s x) (sfx s.2.2.2 (la + 1)) c') ∨ (Rk B_Fl_restIsTaken L_Fl_restIsTaken (Cc (d + 17)) 4 [aR (some 69), aI (zI y), aR ra, aI (zI (eX c)), aI x4, aI (zI (bg (rdr s x).2.2.2 (c.1 * 3 + l + 1))), aI (zI ((bg (rdr s x).2.2.2 (c.1 * 3 + l) + j : Nat) : Int)), aU] [] h = Rk B_Fl_restIsTaken L_Fl_restIsTaken (Cc (d + 17)) 13 [aR (some 69), aI (zI y), aR ra, aI (zI (eX c)), aI x4, aU, aU, aU] [] h' ∧ ∀ (k i : Nat) (m : Mv) (c' : Cfg), j ≤ k → (bk (rdr s x).2.2.2 (c.1 * 3 + l))[k]? = some i → (rdr s x).2.2.2[i]? = some m → stp m c y = some c' → ¬ gq (rdr s x) (sfx s.2.2.2 (la + 1)) c')) := by
        intro h1 f1 q1 hgq e1
        obtain ⟨px1, r8, r10, r12, rn, rg', ⟨S1, sp1, gd1⟩, ra'⟩ := id q1
        obtain ⟨h2, e2, f2, sp2⟩ := Sp_add (d + 16) sp1 tl
        have f2' : fr (rsF la) h1 h2 := f2.mo (fun z hz => by unfold spF at hz; unfold rsF; omega)
        have nf : ∀ z, z ≤ 60 ∨ 64 ≤ z → ¬ spF 61 z := fun z hz => by unfold spF; omega
        have px2 : XI s h2 := XI_sp (k := 13) px1 (by omega) f2 sp2
        refine ⟨h2, f1.tr f2', ⟨px2, by rw [f2.R (nf _ (by omega))]; exact r8, by rw [f2.I (nf _ (by omega))]; exact r10, by rw [f2.I (nf _ (by omega))]; exact r12, rn.fr f2 (nf _ (by omega)) (nf _ (by omega)) (nf _ (by omega)), fun t t1 t2 => (rg' t t1 t2).fr f2 (fun z hz => nf z (by unfold spF at hz; omega)), ⟨_, sp2, fun e ev he => ?_⟩, fun t p tp t1 t2 => by rw [f2.I (nf _ (by omega)), f2.I (nf _ (by omega))]; exact ra' t p tp t1 t2⟩, Or.inl ⟨?_, c', hst, hgq⟩⟩
        · rw [Bool.or_eq_true, beq_iff_eq] at he
          rcases he with he | he
          · exact gd1 e ev he
          · have e3 : stl (Lw s.2.2.2 (la + 1)) 0 e = stl (Lw s.2.2.2 (la + 1)) 0 c' := by rw [← dX_e (stl_v ev (show 0 < 16 by omega)), he, dX_e tv]
            rw [← gq_stl (s.2.2.2.length - (la + 1)) (la + 1) e (by omega) (fun t p t1 t2 => (hla.2 t p t1 t2).2), e3, gq_stl (s.2.2.2.length - (la + 1)) (la + 1) c' (by omega) (fun t p t1 t2 => (hla.2 t p t1 t2).2)]
            exact hgq
        · rw [e1, E_Fl_restIsTaken_11, obj_e (z69 px1.1), px1.r (a := 69) (j := 2) (c := 61) (by decide), obj_e sp1.1.1, calI_e e2, fr1]
      cases t : S (eX (stl (Lw s.2.2.2 (la + 1)) 0 c')) with
      | true =>
        rw [t, if_pos rfl] at e0
        exact yes h (fr.rf _ h) q (gd c' cv' t) e0
      | false =>
        rw [t, if_neg (show ¬ (false = true) by simp), E_Fl_restIsTaken_9] at e0
        simp (disch := omega) only [nlt0, if_false] at e0
        have W := runFrom (d + (12 - (s.2.2.2.length - (la + 1)))) (s := s) (x := x) hw rd.1 (i0 := la + 1) hla.2 (s.2.2.2.length - (la + 1)) (la + 1) (Nat.le_refl _) (by omega)
        obtain ⟨h1, e1, f1, -, px1, ng1, -⟩ := W h c' px qg cv'
        rw [show d + (12 - (s.2.2.2.length - (la + 1))) + 3 + (s.2.2.2.length - (la + 1) + 1) = d + 16 by omega] at e1
        have nf : ∀ z, ¬ (z = 67 ∨ (22 + 3 * (la + 1) ≤ z ∧ z ≤ 57)) → ¬ fW (la + 1) z := fun z hz => by unfold fW; exact hz
        have f1' : fr (rsF la) h h1 := f1.mo (fun z hz => by unfold fW at hz; unfold rsF; omega)
        have q1 : FQ s h1 x la b := ⟨px1, by rw [f1.R (nf _ (by omega))]; exact q8, by rw [f1.I (nf _ (by omega))]; exact q10, by rw [f1.I (nf _ (by omega))]; exact q12, qn.fr f1 (nf _ (by omega)) (nf _ (by omega)) (nf _ (by omega)), ng1, ⟨S, sp.fr f1 (fun z hz => nf z (by unfold spF at hz; omega)), gd⟩, fun t p tp t1 t2 => by rw [f1.I (nf _ (by omega)), f1.I (nf _ (by omega))]; exact qa t p tp t1 t2⟩
        have e3 : Cc (d + 17) k_Wk_isTakenFrom [aR (some 66), aR (some (xa x)), aR (some 16), aI (zI ((la + 1 : Nat) : Int)), aI (zI (eX (stl (Lw s.2.2.2 (la + 1)) 0 c')))] h = some (some (aI (zI (if bl (gq (rdr s x) (sfx s.2.2.2 (la + 1)) c') = true then 1 else 0))), h1) := by
          rw [C_Wk_isTakenFrom, E_Wk_isTakenFrom_0, obj_e (z66 px.1), calI_e e1, if_pos (by split; exact Or.inr (by decide); exact Or.inl (by decide))]
        rw [E_Fl_restIsTaken_10, obj_e (z69 px.1), obj_e (z69 px.1), obj_e (z69 px.1), obj_e (z69 px.1), px.r (a := 69) (j := 1) (c := 66) (by decide), px.r (a := 69) (j := 7) (c := 16) (by decide), obj_e (z66 px.1), q8, q10, nadd1, calI_e e3, if01] at e0
        by_cases gg : gq (rdr s x) (sfx s.2.2.2 (la + 1)) c'
        · rw [if_pos (bl_t.mpr gg)] at e0
          exact yes h1 f1' q1 gg e0
        · rw [if_neg (fun z => gg (bl_t.mp z))] at e0
          exact cont h1 f1' q1 (fun c'' w => by rw [st] at w; cases w; exact gg) e0
