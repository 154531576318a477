/-! X: Fillings: the rest, all spots -/
theorem rt_lp (d : Nat) {s : Stt} {x : Int} {la b l y : Nat} {S : Nat → Bool} (hla : LST s.2.2.2 la) (hl : l < 3) (hy : y < 16) : ∀ (n f : Nat) (h : AH), (els S 24576 f).length = n → FQ s h x la b → hI h 72 la = zI l → SP h (22 + 3 * la) 24576 S →
    ∃ h' v, Rk B_Fl_restIsTaken L_Fl_restIsTaken (Cc (d + 17)) 1 [aR (some 69), aI (zI y), aR (some (22 + 3 * la)), aI (zI (hd (els S 24576 f))), aI (zI n), aU, aU, aU] [] h = some (some (aI (zI v)), h') ∧ fr (rsF la) h h' ∧ FQ s h' x la b ∧ ((v = 1 ∧ ∃ c c', CV c ∧ S (eX c) = true ∧ stq (rdr s x) c l y c' ∧ gq (rdr s x) (sfx s.2.2.2 (la + 1)) c') ∨ (v = 0 ∧ ∀ c c', CV c → f ≤ eX c → S (eX c) = true → stq (rdr s x) c l y c' → ¬ gq (rdr s x) (sfx s.2.2.2 (la + 1)) c')) := by
  intro n
  induction n with
  | zero =>
    intro f h hn q h72 sp
    refine ⟨h, 0, ?_, fr.rf _ h, q, Or.inr ⟨rfl, fun c c' h1 h2 h3 => ?_⟩⟩
    · rw [E_Fl_restIsTaken_1, if_pos (by decide), E_Fl_restIsTaken_14, fr0]
    · have : eX c ∈ els S 24576 f := els_mem.mpr ⟨h2, eX_lt h1, h3⟩
      rw [List.eq_nil_of_length_eq_zero hn] at this
      simp at this
  | succ n ih =>
    intro f h hn q h72 sp
    match hels : els S 24576 f, hn with
    | u :: rest, hn =>
      obtain ⟨u1, u2, u3, u4⟩ := els_head hels
      have hcv := dX_v u2
      have heu : eX (dX u) = u := eX_d
      have hq : u / 4096 = (dX u).1 := rfl
      have hn2 : n ≤ 24576 := by
        have h1 : (els S 24576 f).length ≤ 24576 - f := by unfold els; exact Nat.le_trans (List.length_filter_le _ _) (by simp)
        rw [hels, hn] at h1
        omega
      obtain ⟨px, q8, q10, q12, qn, qg, qd, qa⟩ := id q
      have rd := px.rd x
      have hlal := hla.1
      have hl12 := px.rw.1.1
      obtain ⟨h1, f1, q1, alt⟩ := ri_in d (x4 := zI ((n + 1 : Nat) : Int)) (ra := some (22 + 3 * la)) hla hl hy hcv (bk (rdr s x).2.2.2 ((dX u).1 * 3 + l)).length 0 h (by omega) q h72
      rw [heu] at alt
      have e0 : Rk B_Fl_restIsTaken L_Fl_restIsTaken (Cc (d + 17)) 1 [aR (some 69), aI (zI y), aR (some (22 + 3 * la)), aI (zI (hd (u :: rest))), aI (zI ((n + 1 : Nat) : Int)), aU, aU, aU] [] h = Rk B_Fl_restIsTaken L_Fl_restIsTaken (Cc (d + 17)) 4 [aR (some 69), aI (zI y), aR (some (22 + 3 * la)), aI (zI u), aI (zI ((n + 1 : Nat) : Int)), aI (zI (bg (rdr s x).2.2.2 ((dX u).1 * 3 + l + 1))), aI (zI ((bg (rdr s x).2.2.2 ((dX u).1 * 3 + l) + 0 : Nat) : Int)), aU] [] h := by
        rw [E_Fl_restIsTaken_1]
        simp (disch := omega) only [nle0]
        rw [if_neg (by omega), E_Fl_restIsTaken_2, show hd (u :: rest) = ((u : Nat) : Int) from rfl]
        simp (disch := omega) only [nlt0, if_false]
        rw [E_Fl_restIsTaken_3, obj_e (z69 px.1), obj_e (z69 px.1), obj_e (z69 px.1), px.r (a := 69) (j := 5) (c := 72) (by decide), q10]
        simp (disch := omega) only [idx_n (z72 px.1), h72]
        rw [q8, obj_e rd.2.1.1, calI_e (Rd_end _ rd u2 hl), lt_e, obj_e (z69 px.1), obj_e (z69 px.1), obj_e (z69 px.1), px.r (a := 69) (j := 5) (c := 72) (by decide), q10]
        simp (disch := omega) only [idx_n (z72 px.1), h72]
        rw [q8, obj_e rd.2.1.1, calI_e (Rd_begin _ rd u2 hl), lt_e, hq]
        rfl
      rcases alt with ⟨a1, c', a2, a3⟩ | ⟨a1, a2⟩
      · exact ⟨h1, 1, by rw [e0, a1], f1, q1, Or.inl ⟨rfl, dX u, c', hcv, by rw [heu]; exact u3, a2, a3⟩⟩
      · have hr1 : (els S 24576 (u + 1)).length = n := by rw [← u4]; simpa using hn
        have sp1 := sp.fr f1 (fun z hz => by unfold spF at hz; unfold rsF; omega)
        obtain ⟨h2, v, e2, f2, q2, alt2⟩ := ih (u + 1) h1 hr1 q1 (by rw [f1.I (by unfold rsF; omega)]; exact h72) sp1
        refine ⟨h2, v, ?_, f1.tr f2, q2, ?_⟩
        · rw [e0, a1, E_Fl_restIsTaken_13, obj_e sp1.1.1, nadd1, calI_e (Sp_next _ sp1 (by omega)), lt_e, lt_e, ndec (by omega), Nat.add_sub_cancel]
          exact e2
        · rcases alt2 with alt2 | ⟨b1, b2⟩
          · exact Or.inl alt2
          · refine Or.inr ⟨b1, fun c c' w1 w2 w3 w4 => ?_⟩
            by_cases z : eX c = u
            · have : c = dX u := by rw [← z, dX_e w1]
              subst this
              obtain ⟨i, m, k1, k2, k3, k4⟩ := w4
              obtain ⟨k, hk⟩ := bk_iff.mpr ⟨m, k1, (key_iff (rd.1.mi k1).1.2.1 hl).mpr ⟨k2, k3⟩⟩
              exact a2 k i m c' (Nat.zero_le _) hk k1 k4
            · have : eX c ∈ els S 24576 f := els_mem.mpr ⟨w2, eX_lt w1, w3⟩
              rw [hels] at this
              rcases List.mem_cons.mp this with v | v
              · exact absurd v z
              · rw [u4] at v
                exact b2 c c' w1 (els_mem.mp v).1 w3 w4
theorem Fl_restIsTaken (d : Nat) {s : Stt} {x : Int} {la b l y : Nat} {S : Nat → Bool} {u : List (Nat × Nat)} {h : AH} (hla : LST s.2.2.2 la) (hl : l < 3) (hy : y < 16) (hy0 : y ≠ 0) (hyL : Lw s.2.2.2 la y = true) (hu : ∀ p, p ∈ u → p.2 < 16) (q : FQ s h x la b) (h72 : hI h 72 la = zI l) (sp : SP h (22 + 3 * la) 24576 S) (rqs : RQS S (rdr s x) u (Lw s.2.2.2 la)) :
    ∃ h' v, Cc (d + 18) k_Fl_restIsTaken [aR (some 69), aI (zI y)] h = some (some (aI (zI v)), h') ∧ fr (rsF la) h h' ∧ FQ s h' x la b ∧ ((v = 1 ∧ ∃ c, rq (rdr s x) ((l, y) :: u) c ∧ gq (rdr s x) (sfx s.2.2.2 (la + 1)) c) ∨ (v = 0 ∧ ¬ ∃ c, rq (rdr s x) ((l, y) :: u) c ∧ gq (rdr s x) (sfx s.2.2.2 (la + 1)) c)) := by
  obtain ⟨px, q8, q10, q12, qn, qg, qd, qa⟩ := id q
  have hlal := hla.1
  have hl12 := px.rw.1.1
  have rv := (px.rd x).1
  obtain ⟨h1, v, e1, f1, q1, alt⟩ := rt_lp d (b := b) hla hl hy _ 0 h rfl q h72 sp
  have gs : ∀ c, gq (rdr s x) (sfx s.2.2.2 (la + 1)) (stl (Lw s.2.2.2 (la + 1)) 0 c) ↔ gq (rdr s x) (sfx s.2.2.2 (la + 1)) c := fun c => gq_stl (s.2.2.2.length - (la + 1)) (la + 1) c (by omega) (fun t p t1 t2 => (hla.2 t p t1 t2).2)
  have sq := fun c => stl_q (r := rdr s x) (c := c) (l := l) hyL hy0 (L' := Lw s.2.2.2 (la + 1)) (lvs_0 _ _) (fun n hn => lvs_s n hn)
  have iff : (∃ c c', CV c ∧ S (eX c) = true ∧ stq (rdr s x) c l y c' ∧ gq (rdr s x) (sfx s.2.2.2 (la + 1)) c') ↔ ∃ c, rq (rdr s x) ((l, y) :: u) c ∧ gq (rdr s x) (sfx s.2.2.2 (la + 1)) c := by
    constructor
    · rintro ⟨c, c', w1, w2, w3, w4⟩
      obtain ⟨c1, k1, k2⟩ := (rqs _).mp w2
      have cv1 := rq_v rv u c1 hu k1
      have e : c = stl (Lw s.2.2.2 la) 0 c1 := by rw [← dX_e w1, k2, dX_e (stl_v cv1 (by omega))]
      rw [e] at w3
      obtain ⟨c2, t1, t2⟩ := (sq c1 _).mp ⟨c', w3, rfl⟩
      exact ⟨c2, ⟨c1, k1, t1⟩, by rw [← gs, ← t2, gs]; exact w4⟩
    · rintro ⟨c2, ⟨c1, k1, t1⟩, w4⟩
      have cv1 := rq_v rv u c1 hu k1
      obtain ⟨c', t2, t3⟩ := (sq c1 _).mpr ⟨c2, t1, rfl⟩
      exact ⟨_, c', stl_v cv1 (by omega), (rqs _).mpr ⟨c1, k1, rfl⟩, t2, by rw [← gs, ← t3, gs]; exact w4⟩
  refine ⟨h1, v, ?_, f1, q1, ?_⟩
  · have e21 := (px.set (k := la) (by omega)).2
    rw [C_Fl_restIsTaken, E_Fl_restIsTaken_0, obj_e (z69 px.1), obj_e (z69 px.1), px.r (a := 69) (j := 0) (c := 21) (by decide), q10]
    simp (disch := omega) only [idx_n (z21 px.1), e21]
    rw [obj_e sp.1.1, zc0, calI_e (Sp_next _ sp (by omega)), lt_e, obj_e sp.1.1, calI_e (Sp_size _ sp), lt_e, els_cn]
    exact e1
  · rcases alt with ⟨a1, a2⟩ | ⟨a1, a2⟩
    · exact Or.inl ⟨a1, iff.mp a2⟩
    · exact Or.inr ⟨a1, fun w => by obtain ⟨c, c', w1, w2, w3, w4⟩ := iff.mpr w; exact a2 c c' w1 (Nat.zero_le _) w2 w3 w4⟩
def fiF (i b : Nat) : Prop := (22 + 3 * (i + 1) ≤ b ∧ b ≤ 63) ∨ b = 67 ∨ b = 69 ∨ b = 72 ∨ b = 73
/-- what comes of a search: it ends with the first, or goes on behind all -/
def FO (s : Stt) (x : Int) (la b a c : Nat) (h : AH) (f0 : Nat) (lhs : Option AR) (k : AH → Option AR) (L : List (List (Nat × Nat))) : Prop := ∃ h', fr (fiF a) h h' ∧ FQ s h' x la b ∧ (∀ j, j < c → hI h' 72 j = hI h 72 j) ∧ (∀ j, j < a → hI h' 73 j = hI h 73 j) ∧ ((b = 1 ∧ lhs = some (some (aI (zI 1)), h') ∧ hI h' 69 11 = zI ((f0 + 1 : Nat) : Int) ∧ ∃ t T, L = t :: T ∧ ∀ (j : Nat) (q : Nat × Nat), t[j]? = some q → hI h' 72 (a + j) = zI q.1 ∧ hI h' 73 (a + j) = zI q.2) ∨ ((b = 0 ∨ L = []) ∧ lhs = k h' ∧ hI h' 69 11 = zI ((f0 + L.length : Nat) : Int)))
theorem FO_0 {s : Stt} {x : Int} {la b a c : Nat} {h : AH} {f0 : Nat} {lhs : Option AR} {k : AH → Option AR} (q : FQ s h x la b) (hf : hI h 69 11 = zI f0) (e : lhs = k h) : FO s x la b a c h f0 lhs k [] := ⟨h, fr.rf _ h, q, fun _ _ => rfl, fun _ _ => rfl, Or.inr ⟨Or.inr rfl, e, by simpa using hf⟩⟩
theorem FO_t {s : Stt} {x : Int} {la b a c c' : Nat} {h : AH} {f0 : Nat} {lhs : Option AR} {k1 k : AH → Option AR} {L1 L2 : List (List (Nat × Nat))} (hc : c' ≤ c) (h1 : FO s x la b a c h f0 lhs k1 L1) (h2 : ∀ h1, fr (fiF a) h h1 → FQ s h1 x la b → (∀ j, j < c → hI h1 72 j = hI h 72 j) → (∀ j, j < a → hI h1 73 j = hI h 73 j) → hI h1 69 11 = zI ((f0 + L1.length : Nat) : Int) → FO s x la b a c' h1 (f0 + L1.length) (k1 h1) k L2) : FO s x la b a c' h f0 lhs k (L1 ++ L2) := by
  obtain ⟨g1, f1, q1, a1, a2, alt⟩ := h1
  rcases alt with ⟨b1, b2, b3, t, T, b4, b5⟩ | ⟨b1, b2, b3⟩
  · exact ⟨g1, f1, q1, fun j hj => a1 j (by omega), a2, Or.inl ⟨b1, b2, b3, t, T ++ L2, by rw [b4]; rfl, b5⟩⟩
  · obtain ⟨g2, f2, q2, d1, d2, alt2⟩ := h2 g1 f1 q1 a1 a2 b3
    refine ⟨g2, f1.tr f2, q2, fun j hj => by rw [d1 j hj, a1 j (by omega)], fun j hj => by rw [d2 j hj, a2 j hj], ?_⟩
    rcases alt2 with ⟨e1, e2, e3, t, T, e4, e5⟩ | ⟨e1, e2, e3⟩
    · have hL : L1 = [] := by rcases b1 with b1 | b1; omega; exact b1
      subst hL
      exact Or.inl ⟨e1, by rw [b2, e2], by simpa using e3, t, T, by rw [e4]; rfl, e5⟩
    · refine Or.inr ⟨?_, by rw [b2, e2], by rw [e3, List.length_append]; congr 2; omega⟩
      rcases e1 with e1 | e1
      · exact Or.inl e1
      · rcases b1 with b1 | b1
        · exact Or.inl b1
        · exact Or.inr (by rw [b1, e1]; rfl)
theorem Fl_mayHave (d : Nat) {s : Stt} {h : AH} {x : Int} {la b at_ y o : Nat} {p : Int × Int} (q : FQ s h x la b) (hp : s.2.2.2[at_]? = some p) (hy : y < 100) (ho : o < 100) : Cc (d + 2) k_Fl_mayHave [aR (some 69), aI (zI at_), aI (zI y), aI (zI o)] h = some (some (aI (zI (if (if p.2 = -1 then y ≤ (tn s.2.2.2).length + o + 1 else y = idn s.2.2.2 p.2) then 1 else 0))), h) := by
  have px := q.1
  have hw := px.rw.1
  have hb := hw.2 p (List.mem_of_getElem? hp)
  have hT : (tn s.2.2.2).length ≤ 12 := Nat.le_trans (tn_len _) hw.1
  have hid := idn16 hw p.2
  rw [C_Fl_mayHave, E_Fl_mayHave_0, obj_e (z69 px.1), px.r (a := 69) (j := 7) (c := 16) (by decide), obj_e (z16 px.1), calI_e (Rw_name _ px.rw hp)]
  simp (disch := omega) only [yeq]
  by_cases z : p.2 = -1
  · rw [if_pos z, E_Fl_mayHave_1, obj_e (z69 px.1), px.r (a := 69) (j := 7) (c := 16) (by decide), obj_e (z16 px.1), calI_e (Rw_told _ px.rw), nadd, nadd1]
    simp (disch := omega) only [nle, if_pos z]
    by_cases v : y ≤ (tn s.2.2.2).length + o + 1
    · rw [if_pos v, if_pos v, E_Fl_mayHave_2, E_Fl_mayHave_7, fr1]
    · rw [if_neg v, if_neg v, E_Fl_mayHave_3, E_Fl_mayHave_7, fr0]
  · rw [if_neg z, E_Fl_mayHave_4, obj_e (z69 px.1), px.r (a := 69) (j := 7) (c := 16) (by decide), obj_e (z16 px.1), calI_e (Rw_id _ px.rw hp)]
    simp (disch := omega) only [neq, if_neg z]
    by_cases v : y = idn s.2.2.2 p.2
    · rw [if_pos v, if_pos v, E_Fl_mayHave_5, E_Fl_mayHave_7, fr1]
    · rw [if_neg v, if_neg v, E_Fl_mayHave_6, E_Fl_mayHave_7, fr0]
