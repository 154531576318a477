/-! X: first -/
theorem kn_gst {r : Rdr} {c c' : Cfg} {l x : Nat} (hx : x ≠ 0) (h : stq r c l x c') : ∃ m, m ∈ r.2.2.2 ∧ gst m (kn c) (kn c') := by
  obtain ⟨i, m, h1, h2, h3, h4⟩ := h
  unfold stp at h4
  cases y : fits m c x with
  | false => rw [y] at h4; cases h4
  | true =>
    rw [y, if_pos rfl] at h4
    cases h4
    exact ⟨m, List.mem_of_getElem? h1, (gst_sim (kn_sim c)).mp ⟨h2, x, hx, y, rfl⟩⟩
theorem fo_in (d : Nat) {s : Stt} {a b k0 ra l x rest : Nat} {x6 : Int32} {r : Rdr} {c : Cfg} {A : Cfg → Int} {L : List Cfg} (hr : ∀ h, XI s h → RD h ra r) (hl : l < 3) (hx : x < 16) (hc : CV c) (ab : AB A) (hrest : rest < 2147483648) (hb : b = 22 + 3 * k0) (hk0 : k0 < 2) : ∀ (n j : Nat) (h : AH) (T : Nat → Bool), j + n = (bk r.2.2.2 (c.1 * 3 + l)).length → XI s h → OSt h L A → hR h 79 4 = some a → hR h 79 5 = some b → SP h b 24576 T →
    ∃ h' T', Rk B_Ol_followTo L_Ol_followTo (Cc (d + 3)) 4 [aR (some 79), aR (some ra), aI (zI l), aI (zI x), aI (zI rest), aI (zI (eX c)), aI x6, aI (zI (bg r.2.2.2 (c.1 * 3 + l + 1))), aI (zI ((bg r.2.2.2 (c.1 * 3 + l) + j : Nat) : Int)), aU] [] h = Rk B_Ol_followTo L_Ol_followTo (Cc (d + 3)) 9 [aR (some 79), aR (some ra), aI (zI l), aI (zI x), aI (zI rest), aI (zI (eX c)), aI x6, aU, aU, aU] [] h' ∧ fr (spF b) h h' ∧ SP h' b 24576 T' ∧
      ∀ s, T' s = true ↔ T s = true ∨ ∃ (k i : Nat) (m : Mv) (c' : Cfg), j ≤ k ∧ (bk r.2.2.2 (c.1 * 3 + l))[k]? = some i ∧ r.2.2.2[i]? = some m ∧ stp m c x = some c' ∧ A (kn c') = rest ∧ s = eX c' := by
  have hc1 : c.1 < 6 := hc.1
  intro n
  induction n with
  | zero =>
    intro j h T hn px o r4 r5 p
    have rd := hr h px
    have h1 : bg r.2.2.2 (c.1 * 3 + l + 1) ≤ 20 := Nat.le_trans (bg_le _ _) rd.1.2.2.2.2.1
    refine ⟨h, T, ?_, fr.rf _ h, p, fun s => ⟨Or.inl, ?_⟩⟩
    · rw [bg] at h1
      rw [E_Ol_followTo_4, bg]
      simp (disch := omega) only [nlt]
      rw [if_neg (by omega)]
    · rintro (h | ⟨k, i, m, c', h1, h2, -⟩)
      · exact h
      · have := (List.getElem?_eq_some_iff.mp h2).1; omega
  | succ n ih =>
    intro j h T hn px o r4 r5 p
    have rd := hr h px
    have h1 : bg r.2.2.2 (c.1 * 3 + l + 1) ≤ 20 := Nat.le_trans (bg_le _ _) rd.1.2.2.2.2.1
    have hk : (bk r.2.2.2 (c.1 * 3 + l))[j]? = some (bk r.2.2.2 (c.1 * 3 + l))[j] := List.getElem?_eq_getElem (by omega)
    obtain ⟨m, hm, km⟩ := bk_mem hk
    have hmv := (rd.1.mi hm).1
    have ob := zI_oX hmv hc hx
    have lt : Rk B_Ol_followTo L_Ol_followTo (Cc (d + 3)) 4 [aR (some 79), aR (some ra), aI (zI l), aI (zI x), aI (zI rest), aI (zI (eX c)), aI x6, aI (zI (bg r.2.2.2 (c.1 * 3 + l + 1))), aI (zI ((bg r.2.2.2 (c.1 * 3 + l) + j : Nat) : Int)), aU] [] h = Rk B_Ol_followTo L_Ol_followTo (Cc (d + 3)) 5 [aR (some 79), aR (some ra), aI (zI l), aI (zI x), aI (zI rest), aI (zI (eX c)), aI x6, aI (zI (bg r.2.2.2 (c.1 * 3 + l + 1))), aI (zI ((bg r.2.2.2 (c.1 * 3 + l) + j : Nat) : Int)), aU] [] h := by
      rw [bg] at h1
      rw [E_Ol_followTo_4, bg]
      simp (disch := omega) only [nlt]
      rw [if_pos (by omega)]
    rw [lt, E_Ol_followTo_5, obj_e rd.2.1.1, calI_e (Rd_moveAt _ rd (by omega) hk), obj_e rd.2.1.1, calI_e (Rd_after _ rd hc hm hx), lt_e]
    simp (disch := omega) only [ylt0]
    have skip : (∀ c', stp m c x = some c' → A (kn c') ≠ rest) → ∃ h' T', Rk B_Ol_followTo L_Ol_followTo (Cc (d + 3)) 8 [aR (some 79), aR (some ra), aI (zI l), aI (zI x), aI (zI rest), aI (zI (eX c)), aI x6, aI (zI (bg r.2.2.2 (c.1 * 3 + l + 1))), aI (zI ((bg r.2.2.2 (c.1 * 3 + l) + j : Nat) : Int)), aU] [] h = Rk B_Ol_followTo L_Ol_followTo (Cc (d + 3)) 9 [aR (some 79), aR (some ra), aI (zI l), aI (zI x), aI (zI rest), aI (zI (eX c)), aI x6, aU, aU, aU] [] h' ∧ fr (spF b) h h' ∧ SP h' b 24576 T' ∧
      ∀ s, T' s = true ↔ T s = true ∨ ∃ (k i : Nat) (m : Mv) (c' : Cfg), j ≤ k ∧ (bk r.2.2.2 (c.1 * 3 + l))[k]? = some i ∧ r.2.2.2[i]? = some m ∧ stp m c x = some c' ∧ A (kn c') = rest ∧ s = eX c' := by
      intro hno
      obtain ⟨h', T', e, f, p', g⟩ := ih (j + 1) h T (by omega) px o r4 r5 p
      refine ⟨h', T', ?_, f, p', fun s => ?_⟩
      · rw [E_Ol_followTo_8, lt_e, nadd1]; exact e
      · rw [g s]
        constructor
        · rintro (h | ⟨k, i, m', c', h1, h2⟩)
          · exact Or.inl h
          · exact Or.inr ⟨k, i, m', c', by omega, h2⟩
        · rintro (h | ⟨k, i, m', c', h1, h2, h3, h4, h5⟩)
          · exact Or.inl h
          · by_cases z : k = j
            · subst z
              rw [hk] at h2
              cases h2
              rw [hm] at h3
              cases h3
              exact absurd h5.1 (hno c' h4)
            · exact Or.inr ⟨k, i, m', c', by omega, h2, h3, h4, h5⟩
    cases st : stp m c x with
    | none =>
      rw [if_pos (by decide)]
      exact skip (fun c' q => by rw [st] at q; cases q)
    | some c1 =>
      have hv1 := stp_v hmv hc hx st
      have kv : KV (kn c1) := KV_kn hv1.1
      have hlt := eP_lt kv
      have hab := ab (kn c1)
      rw [oX_some, if_neg (by omega), E_Ol_followTo_6, obj_e (z79 px.1), calI_e (Ol_placeOf _ h hv1), px.r (c := 80) (by decide)]
      simp (disch := omega) only [idx_n (z80 px.1), o.2.2.2.2 _ kv, yeq]
      by_cases w : A (kn c1) = rest
      · obtain ⟨h1', e1, f1, p1⟩ := Sp_add (d + 2) p (s := eX c1) (eX_lt hv1)
        have px1 : XI s h1' := by subst hb; exact XI_sp px (by omega) f1 p1
        have nf : ∀ b', 79 ≤ b' → ¬ spF b b' := by intro b' hb'; unfold spF; omega
        have o1 : OSt h1' L A := by
          obtain ⟨o1, o2, o3, o4, o5⟩ := o
          exact ⟨o1, o2, by rw [f1.I (nf _ (by omega))]; exact o3, fun i c hc => by rw [f1.I (nf _ (by omega))]; exact o4 i c hc, fun c hc => by rw [f1.I (nf _ (by omega))]; exact o5 c hc⟩
        obtain ⟨h', T', e, f, p', g⟩ := ih (j + 1) h1' _ (by omega) px1 o1 (by rw [f1.R (nf _ (by omega))]; exact r4) (by rw [f1.R (nf _ (by omega))]; exact r5) p1
        refine ⟨h', T', ?_, f1.tr f, p', fun s => ?_⟩
        · rw [if_pos w, E_Ol_followTo_7, obj_e (z79 px.1), r5, obj_e p.1.1, calI_e e1, E_Ol_followTo_8, lt_e, nadd1]
          exact e
        · rw [g s]
          simp only [Bool.or_eq_true, beq_iff_eq]
          constructor
          · rintro ((h | h) | ⟨k, i, m', c', h1, h2⟩)
            · exact Or.inl h
            · exact Or.inr ⟨j, _, m, c1, by omega, hk, hm, st, w, h⟩
            · exact Or.inr ⟨k, i, m', c', by omega, h2⟩
          · rintro (h | ⟨k, i, m', c', h1, h2, h3, h4, h5, h6⟩)
            · exact Or.inl (Or.inl h)
            · by_cases z : k = j
              · subst z
                rw [hk] at h2
                cases h2
                rw [hm] at h3
                cases h3
                rw [st] at h4
                cases h4
                exact Or.inl (Or.inr h6)
              · exact Or.inr ⟨k, i, m', c', by omega, h2, h3, h4, h5, h6⟩
      · rw [if_neg w]
        exact skip (fun c' q => by rw [st] at q; cases q; exact w)
theorem fo_lp (d : Nat) {s : Stt} {a b k0 ra l x rest : Nat} {r : Rdr} {A : Cfg → Int} {L : List Cfg} {S : Nat → Bool} (hr : ∀ h, XI s h → RD h ra r) (hl : l < 3) (hx : x < 16) (ab : AB A) (hrest : rest < 2147483648) (hb : b = 22 + 3 * k0) (hk0 : k0 < 2) (hab : a + 3 ≤ b ∨ b + 3 ≤ a) : ∀ (n f : Nat) (h : AH) (T : Nat → Bool), (els S 24576 f).length = n → XI s h → OSt h L A → hR h 79 4 = some a → hR h 79 5 = some b → SP h a 24576 S → SP h b 24576 T →
    ∃ h' T', Rk B_Ol_followTo L_Ol_followTo (Cc (d + 3)) 1 [aR (some 79), aR (some ra), aI (zI l), aI (zI x), aI (zI rest), aI (zI (hd (els S 24576 f))), aI (zI n), aU, aU, aU] [] h = some (none, h') ∧ fr (spF b) h h' ∧ SP h' b 24576 T' ∧
      ∀ s, T' s = true ↔ T s = true ∨ ∃ (c c' : Cfg), CV c ∧ f ≤ eX c ∧ S (eX c) = true ∧ stq r c l x c' ∧ A (kn c') = rest ∧ s = eX c' := by
  intro n
  induction n with
  | zero =>
    intro f h T hn px o r4 r5 pS p
    refine ⟨h, T, ?_, fr.rf _ h, p, fun s => ⟨Or.inl, ?_⟩⟩
    · rw [E_Ol_followTo_1, if_pos (by decide), E_Ol_followTo_10]
    · rintro (h | ⟨c, c', h1, h2, h3, h4⟩)
      · exact h
      · have : eX c ∈ els S 24576 f := els_mem.mpr ⟨h2, eX_lt h1, h3⟩
        rw [List.eq_nil_of_length_eq_zero hn] at this
        simp at this
  | succ n ih =>
    intro f h T hn px o r4 r5 pS p
    have rd := hr h px
    match hels : els S 24576 f, hn with
    | u :: rest', hn =>
      obtain ⟨u1, u2, u3, u4⟩ := els_head hels
      have hcv := dX_v u2
      have heu : eX (dX u) = u := eX_d
      have hq : u / 4096 = (dX u).1 := rfl
      have hn2 : n ≤ 24576 := by
        have h1 : (els S 24576 f).length ≤ 24576 - f := by unfold els; exact Nat.le_trans (List.length_filter_le _ _) (by simp)
        rw [hels] at h1
        rw [hn] at h1
        omega
      have hc1 : (dX u).1 < 6 := hcv.1
      obtain ⟨h1, T1, e1, f1, p1, g1⟩ := fo_in d (a := a) (x6 := zI ((n + 1 : Nat) : Int)) hr hl hx hcv ab hrest hb hk0 (bk r.2.2.2 ((dX u).1 * 3 + l)).length 0 h T (Nat.zero_add _) px o r4 r5 p
      have px1 : XI s h1 := by subst hb; exact XI_sp px (by omega) f1 p1
      have nf : ∀ b', 79 ≤ b' → ¬ spF b b' := by intro b' hb'; unfold spF; omega
      have o1 : OSt h1 L A := by
        obtain ⟨o1, o2, o3, o4, o5⟩ := o
        exact ⟨o1, o2, by rw [f1.I (nf _ (by omega))]; exact o3, fun i c hc => by rw [f1.I (nf _ (by omega))]; exact o4 i c hc, fun c hc => by rw [f1.I (nf _ (by omega))]; exact o5 c hc⟩
      have r41 : hR h1 79 4 = some a := by rw [f1.R (nf _ (by omega))]; exact r4
      have r51 : hR h1 79 5 = some b := by rw [f1.R (nf _ (by omega))]; exact r5
      have pS1 := pS.fr f1 (fun b' hb => by unfold spF at *; omega)
      have hr1 : (els S 24576 (u + 1)).length = n := by rw [← u4]; simpa using hn
      obtain ⟨h2, T2, e2, f2, p2, g2⟩ := ih (u + 1) h1 T1 hr1 px1 o1 r41 r51 pS1 p1
      refine ⟨h2, T2, ?_, f1.tr f2, p2, fun s => ?_⟩
      · rw [E_Ol_followTo_1]
        simp (disch := omega) only [nle0]
        rw [if_neg (by omega), E_Ol_followTo_2, show hd (u :: rest') = ((u : Nat) : Int) from rfl]
        simp (disch := omega) only [nlt0, if_false]
        rw [E_Ol_followTo_3, obj_e rd.2.1.1, calI_e (Rd_end _ rd u2 hl), lt_e, obj_e rd.2.1.1, calI_e (Rd_begin _ rd u2 hl), lt_e, hq]
        rw [heu] at e1
        refine Eq.trans e1 ?_
        rw [E_Ol_followTo_9, obj_e (z79 px1.1), r41, obj_e pS1.1.1, nadd1, calI_e (Sp_next _ pS1 (by omega)), lt_e, lt_e, ndec (by omega), Nat.add_sub_cancel]
        exact e2
      · rw [g2 s, g1 s]
        constructor
        · rintro ((h | ⟨k, i, m, c', h1, h2, h3, h4, h5⟩) | ⟨c, c', h1, h2, h3⟩)
          · exact Or.inl h
          · obtain ⟨m', hm', km⟩ := bk_iff.mp ⟨k, h2⟩
            rw [h3] at hm'
            cases hm'
            have hmv := (rd.1.mi h3).1
            have := (key_iff hmv.2.1 hl).mp km
            exact Or.inr ⟨dX u, c', hcv, by rw [heu]; exact u1, by rw [heu]; exact u3, ⟨i, m, h3, this.1, this.2, h4⟩, h5⟩
          · exact Or.inr ⟨c, c', h1, by omega, h3⟩
        · rintro (h | ⟨c, c', h1, h2, h3, ⟨i, m, k1, k2, k3, k4⟩, h5⟩)
          · exact Or.inl (Or.inl h)
          · by_cases z : eX c = u
            · have : c = dX u := by rw [← z, dX_e h1]
              subst this
              have hmv := (rd.1.mi k1).1
              obtain ⟨k, hk⟩ := bk_iff.mpr ⟨m, k1, (key_iff hmv.2.1 hl).mpr ⟨k2, k3⟩⟩
              exact Or.inl (Or.inr ⟨k, i, m, c', by omega, hk, k1, k4, h5⟩)
            · have : eX c ∈ els S 24576 f := els_mem.mpr ⟨h2, eX_lt h1, h3⟩
              rw [hels] at this
              rcases List.mem_cons.mp this with y | y
              · exact absurd y z
              · rw [u4] at y
                exact Or.inr ⟨c, c', h1, (els_mem.mp y).1, h3, ⟨i, m, k1, k2, k3, k4⟩, h5⟩
theorem Ol_followTo (d : Nat) {s : Stt} {a b k0 ra l x rest : Nat} {r : Rdr} {A : Cfg → Int} {L : List Cfg} {S T : Nat → Bool} {h : AH} (hr : ∀ h, XI s h → RD h ra r) (hl : l < 3) (hx : x < 16) (ab : AB A) (hrest : rest < 2147483648) (hb : b = 22 + 3 * k0) (hk0 : k0 < 2) (hab : a + 3 ≤ b ∨ b + 3 ≤ a) (px : XI s h) (o : OSt h L A) (r4 : hR h 79 4 = some a) (r5 : hR h 79 5 = some b) (pS : SP h a 24576 S) (p : SP h b 24576 T) :
    ∃ h' T', Cc (d + 4) k_Ol_followTo [aR (some 79), aR (some ra), aI (zI l), aI (zI x), aI (zI rest)] h = some (none, h') ∧ fr (spF b) h h' ∧ XI s h' ∧ OSt h' L A ∧ hR h' 79 4 = some a ∧ hR h' 79 5 = some b ∧ SP h' a 24576 S ∧ SP h' b 24576 T' ∧
      ∀ s, T' s = true ↔ ∃ (c c' : Cfg), CV c ∧ S (eX c) = true ∧ stq r c l x c' ∧ A (kn c') = rest ∧ s = eX c' := by
  have nf : ∀ b', 79 ≤ b' → ¬ spF b b' := by intro b' hb'; unfold spF; omega
  have ofr : ∀ h', fr (spF b) h h' → OSt h' L A := by
    intro h' f1
    obtain ⟨o1, o2, o3, o4, o5⟩ := o
    exact ⟨o1, o2, by rw [f1.I (nf _ (by omega))]; exact o3, fun i c hc => by rw [f1.I (nf _ (by omega))]; exact o4 i c hc, fun c hc => by rw [f1.I (nf _ (by omega))]; exact o5 c hc⟩
  obtain ⟨h1, e1, f1, p1⟩ := Sp_clear d p
  have px1 : XI s h1 := by subst hb; exact XI_sp px (by omega) f1 p1
  have r41 : hR h1 79 4 = some a := by rw [f1.R (nf _ (by omega))]; exact r4
  have r51 : hR h1 79 5 = some b := by rw [f1.R (nf _ (by omega))]; exact r5
  have pS1 := pS.fr f1 (fun b' hb => by unfold spF at *; omega)
  obtain ⟨h2, T2, e2, f2, p2, g2⟩ := fo_lp d hr hl hx ab hrest hb hk0 hab _ 0 h1 _ rfl px1 (ofr _ f1) r41 r51 pS1 p1
  have f3 := f1.tr f2
  refine ⟨h2, T2, ?_, f3, by subst hb; exact XI_sp px (by omega) f3 p2, ofr _ f3, by rw [f3.R (nf _ (by omega))]; exact r4, by rw [f3.R (nf _ (by omega))]; exact r5, pS.fr f3 (fun b' hb => by unfold spF at *; omega), p2, fun s => ?_⟩
  · rw [C_Ol_followTo, E_Ol_followTo_0, obj_e (z79 px.1), r5, obj_e p.1.1, calV_e e1, obj_e (z79 px1.1), r41, obj_e pS1.1.1, zc0, calI_e (Sp_next _ pS1 (by omega)), lt_e, obj_e (z79 px1.1), r41, obj_e pS1.1.1, calI_e (Sp_size _ pS1), lt_e, els_cn]
    exact e2
  · rw [g2 s]
    constructor
    · rintro (h | ⟨c, c', h1, h2, h3⟩)
      · cases h
      · exact ⟨c, c', h1, h3⟩
    · rintro ⟨c, c', h1, h3⟩
      exact Or.inr ⟨c, c', h1, Nat.zero_le _, h3⟩
