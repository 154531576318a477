/-! X: Fillings: search -/
def LGp (w : Rw) (i : Nat) (g : Int) : Prop := (g = -1 ∧ ∀ (j : Nat) (p : Int × Int), j < i → w[j]? = some p → p.1 ≠ -1 ∧ p.2 ≠ -1) ∨ ∃ (la : Nat) (p : Int × Int), g = (la : Int) ∧ la < i ∧ w[la]? = some p ∧ (p.1 = -1 ∨ p.2 = -1) ∧ ∀ (j : Nat) (p : Int × Int), la < j → j < i → w[j]? = some p → p.1 ≠ -1 ∧ p.2 ≠ -1
def LQ (s : Stt) (h : AH) (x : Int) (b i : Nat) (g : Int) : Prop := XI s h ∧ hR h 69 8 = some (xa x) ∧ hI h 69 10 = zI g ∧ hI h 69 12 = zI b ∧ hI h 69 11 = zI 0 ∧ LGp s.2.2.2 i g ∧ ∀ (j : Nat) (p : Int × Int), j < i → s.2.2.2[j]? = some p → hI h 72 j = zI p.1 ∧ hI h 73 j = zI p.2
theorem LGp_b {w : Rw} {i : Nat} {g : Int} (h : LGp w i g) : -1 ≤ g ∧ g < i := by
  rcases h with ⟨h, -⟩ | ⟨la, p, h1, h2, -⟩
  · omega
  · omega
theorem LGp_s {w : Rw} {i : Nat} {g : Int} {p : Int × Int} (h : LGp w i g) (hp : w[i]? = some p) : LGp w (i + 1) (if p.1 = -1 ∨ p.2 = -1 then (i : Int) else g) := by
  by_cases z : p.1 = -1 ∨ p.2 = -1
  · rw [if_pos z]
    exact Or.inr ⟨i, p, rfl, by omega, hp, z, fun j _ h1 h2 => by omega⟩
  · rw [if_neg z]
    have np : p.1 ≠ -1 ∧ p.2 ≠ -1 := ⟨fun w => z (Or.inl w), fun w => z (Or.inr w)⟩
    rcases h with ⟨h, h'⟩ | ⟨la, q, h1, h2, h3, h4, h5⟩
    · refine Or.inl ⟨h, fun j p' hj hp' => ?_⟩
      by_cases y : j = i
      · subst y
        rw [hp] at hp'
        cases hp'
        exact np
      · exact h' j p' (by omega) hp'
    · refine Or.inr ⟨la, q, h1, by omega, h3, h4, fun j p' h6 hj hp' => ?_⟩
      by_cases y : j = i
      · subst y
        rw [hp] at hp'
        cases hp'
        exact np
      · exact h5 j p' h6 (by omega) hp'
theorem se_lp (d : Nat) {s : Stt} {x : Int} {b : Nat} : ∀ (k i : Nat) (h : AH) (g : Int), i + k = s.2.2.2.length → LQ s h x b i g → ∃ h' g', Rk B_Fl_search L_Fl_search (Cc (d + 1)) 1 [aR (some 69), aU, aU, aI (zI i)] [] h = Rk B_Fl_search L_Fl_search (Cc (d + 1)) 6 [aR (some 69), aU, aU, aU] [] h' ∧ fr (fun a => a < 94) h h' ∧ LQ s h' x b s.2.2.2.length g'
  | 0, i, h, g, hk, q => by
    have px := q.1
    have hl12 := px.rw.1.1
    refine ⟨h, g, ?_, fr.rf _ h, by rw [show i = s.2.2.2.length by omega] at q; exact q⟩
    rw [E_Fl_search_1, obj_e (z69 px.1), px.r (a := 69) (j := 7) (c := 16) (by decide), obj_e (z16 px.1), calI_e (Rw_size _ px.rw)]
    simp (disch := omega) only [nlt]
    rw [if_neg (by omega)]
  | k + 1, i, h, g, hk, q => by
    obtain ⟨px, q8, q10, q12, q11, lg, qa⟩ := id q
    have hw := px.rw.1
    have hl12 := hw.1
    have hp : s.2.2.2[i]? = some s.2.2.2[i] := List.getElem?_eq_getElem (by omega)
    generalize s.2.2.2[i] = p at hp
    have f1 : fr (fun z => z = 72) h (sI h 72 i (zI p.1)) := fr_sI (F := fun z => z = 72) h rfl _ _
    have p1 : XI s (sI h 72 i (zI p.1)) := XI_sc px f1 (fun z hz => by unfold nI'; omega) (fun _ _ => rfl)
    have f2 : fr (fun z => z = 73) (sI h 72 i (zI p.1)) (sI (sI h 72 i (zI p.1)) 73 i (zI p.2)) := fr_sI (F := fun z => z = 73) _ rfl _ _
    have p2 : XI s (sI (sI h 72 i (zI p.1)) 73 i (zI p.2)) := XI_sc p1 f2 (fun z hz => by unfold nI'; omega) (fun _ _ => rfl)
    have f3 : fr (fun z => z = 69) (sI (sI h 72 i (zI p.1)) 73 i (zI p.2)) (sI (sI (sI h 72 i (zI p.1)) 73 i (zI p.2)) 69 10 (zI (if p.1 = -1 ∨ p.2 = -1 then (i : Int) else g))) := fr_sI (F := fun z => z = 69) _ rfl _ _
    have p3 : XI s (sI (sI (sI h 72 i (zI p.1)) 73 i (zI p.2)) 69 10 (zI (if p.1 = -1 ∨ p.2 = -1 then (i : Int) else g))) := XI_sc p2 f3 (fun z hz => by unfold nI'; omega) (fun _ _ => rfl)
    obtain ⟨h', g', e, f, q'⟩ := se_lp d k (i + 1) _ (if p.1 = -1 ∨ p.2 = -1 then (i : Int) else g) (by omega) (show LQ s (sI (sI (sI h 72 i (zI p.1)) 73 i (zI p.2)) 69 10 (zI (if p.1 = -1 ∨ p.2 = -1 then (i : Int) else g))) x b (i + 1) _ from ⟨p3, q8, hI_hit _ _ _ _, by rw [hI_off (by omega), hI_off (by omega), hI_off (by omega)]; exact q12, by rw [hI_off (by omega), hI_off (by omega), hI_off (by omega)]; exact q11, LGp_s lg hp, fun j p' hj hp' => by
      by_cases y : j = i
      · subst y
        rw [hp] at hp'
        cases hp'
        exact ⟨by rw [hI_off (by omega), hI_off (by omega), hI_hit], by rw [hI_off (by omega), hI_hit]⟩
      · obtain ⟨w1, w2⟩ := qa j p' (by omega) hp'
        exact ⟨by rw [hI_off (by omega), hI_off (by omega), hI_off (by omega)]; exact w1, by rw [hI_off (by omega), hI_off (by omega), hI_off (by omega)]; exact w2⟩⟩)
    refine ⟨h', g', ?_, (f1.mo (fun z hz => by omega)).tr ((f2.mo (fun z hz => by omega)).tr ((f3.mo (fun z hz => by omega)).tr f)), q'⟩
    rw [E_Fl_search_1, obj_e (z69 px.1), px.r (a := 69) (j := 7) (c := 16) (by decide), obj_e (z16 px.1), calI_e (Rw_size _ px.rw)]
    simp (disch := omega) only [nlt]
    rw [if_pos (by omega), E_Fl_search_2, obj_e (z69 px.1), obj_e (z69 px.1), px.r (a := 69) (j := 7) (c := 16) (by decide), obj_e (z16 px.1), calI_e (Rw_letter _ px.rw hp), px.r (a := 69) (j := 5) (c := 72) (by decide)]
    simp (disch := omega) only [idx_n (z72 px.1), lt_e]
    rw [obj_e (z69 p1.1), obj_e (z69 p1.1), p1.r (a := 69) (j := 7) (c := 16) (by decide), obj_e (z16 p1.1), calI_e (Rw_name _ p1.rw hp), p1.r (a := 69) (j := 6) (c := 73) (by decide)]
    simp (disch := omega) only [idx_n (z73 p1.1), lt_e]
    rw [obj_e (z69 p2.1), p2.r (a := 69) (j := 7) (c := 16) (by decide), obj_e (z16 p2.1), calI_e (Rw_hasGap _ hw p2.rw.2.1 p2.rw.2.2.2.1 hp)]
    by_cases z : p.1 = -1 ∨ p.2 = -1
    · rw [if_pos z] at e
      rw [show gp2 p = 1 by unfold gp2; rw [if_pos z], if_neg (by decide), E_Fl_search_3, E_Fl_search_5, obj_e (z69 p2.1), mb_some, nadd1, lt_e]
      exact e
    · rw [if_neg z] at e
      rw [show gp2 p = 0 by unfold gp2; rw [if_neg z], if_pos (by decide), E_Fl_search_4, obj_e (z69 p2.1), E_Fl_search_5, obj_e (z69 p2.1), mb_some, nadd1, lt_e, hI_off (by omega), hI_off (by omega), q10]
      exact e
noncomputable def flA (r : Rdr) (w : Rw) : List (List (Nat × Nat)) := fls r w w.length 0 0 []
theorem XI_698 {s : Stt} {h : AH} {v : Option Nat} (p : XI s h) : XI s (sR h 69 8 v) := by
  have f : fr (fun b => b = 66 ∨ b = 69 ∨ b = 74 ∨ b = 77 ∨ b = 79 ∨ b = 83) h (sR h 69 8 v) := fr_sR h (by omega) _ _
  have f69 : fr (fun b => b = 69) h (sR h 69 8 v) := fr_sR (F := fun b => b = 69) h rfl _ _
  have q := p
  obtain ⟨p1, p2, p3, p4, p5, p6, p7, a1, a2, a3, a4, q1, q2, q3, q4, q5, q6⟩ := q
  have key : ∀ t, t ∈ XRefs → t.1 = 69 → t.2.1 ≠ 8 := by decide
  refine XI_rf p f (p2.mv ?_) (q1.fr f69 (by omega)) (q2.fr f69 (by omega)) (q3.fr f69 (by omega)) (q4.fr f69 (by omega)) (q5.fr f69 (by omega))
  intro t ht
  by_cases z : t.1 = 69
  · have := key t ht z
    rw [hR_off (Or.inr this)]
  · rw [hR_off (Or.inl z)]
/-- the search is over: the count, or the first -/
def SeR (h' : AH) (b cnt : Nat) (L : List (List (Nat × Nat))) : Prop := (b = 0 ∧ cnt = L.length) ∨ (b = 1 ∧ ((cnt = 0 ∧ L = []) ∨ (cnt = 1 ∧ ∃ t T, L = t :: T ∧ ∀ (j : Nat) (q : Nat × Nat), t[j]? = some q → hI h' 72 j = zI q.1 ∧ hI h' 73 j = zI q.2)))
theorem se_6 (d : Nat) {s : Stt} {x : Int} {b : Nat} {h : AH} {g : Int} (hb : b ≤ 1) (q : LQ s h x b s.2.2.2.length g) : ∃ h' cnt, Rk B_Fl_search L_Fl_search (Cc (d + 42)) 6 [aR (some 69), aU, aU, aU] [] h = some (some (aI (zI ((cnt : Nat) : Int))), h') ∧ fr (fun a => a < 94) h h' ∧ XI s h' ∧ SeR h' b cnt (flA (rdr s x) s.2.2.2) := by
  obtain ⟨px, q8, q10, q12, q11, lg, qa⟩ := id q
  have hw := px.rw.1
  have hl12 := hw.1
  have rv := (px.rd x).1
  obtain ⟨g1, g2⟩ := LGp_b lg
  obtain ⟨h1, e1, f1, r1, i1, p1, fn1⟩ := Fl_tellNames (d + 40) px
  obtain ⟨T0, sp0⟩ := (p1.set (k := 13) (by omega)).1
  obtain ⟨h2, e2, f2, sp2⟩ := Sp_clear (d + 39) sp0
  have n2 : ∀ z, z ≤ 60 ∨ 64 ≤ z → ¬ spF (22 + 3 * 13) z := fun z hz => by unfold spF; omega
  have p2 : XI s h2 := XI_sp p1 (by omega) f2 sp2
  obtain ⟨a, ha⟩ : ∃ a : Nat, g + 1 = (a : Int) := ⟨(g + 1).toNat, by omega⟩
  obtain ⟨h3, e3, f3, p3, c3⟩ := Wk_forget (d + 38) (a := a) (b := s.2.2.2.length) (by omega) hl12 p2
  have n3 : ∀ z, 58 ≤ z → ¬ (22 + 3 * a ≤ z ∧ z < 22 + 3 * s.2.2.2.length) := fun z hz => by omega
  have h69 : ∀ j, j ≠ 9 → hI h3 69 j = hI h 69 j := fun j hj => by rw [f3.I (n3 _ (by omega)), f2.I (n2 _ (by omega)), i1 j hj]
  have h69R : hR h3 69 8 = some (xa x) := by rw [f3.R (n3 _ (by omega)), f2.R (n2 _ (by omega)), r1]; exact q8
  have h72 : ∀ c j, c = 72 ∨ c = 73 → hI h3 c j = hI h c j := fun c j hc => by rw [f3.I (n3 _ (by omega)), f2.I (n2 _ (by omega)), f1.I (by omega)]
  have F3 : fr (fun a => a < 94) h h3 := (f1.mo (fun z hz => by omega)).tr ((f2.mo (fun z hz => by unfold spF at hz; omega)).tr (f3.mo (fun z hz => by omega)))
  have e6 : Rk B_Fl_search L_Fl_search (Cc (d + 42)) 6 [aR (some 69), aU, aU, aU] [] h = if g < 0 then Rk B_Fl_search L_Fl_search (Cc (d + 42)) 7 [aR (some 69), aU, aU, aU] [] h3 else Rk B_Fl_search L_Fl_search (Cc (d + 42)) 11 [aR (some 69), aU, aU, aU] [] h3 := by
    rw [E_Fl_search_6, obj_e (z69 px.1), calV_e e1, obj_e (z69 p1.1), p1.r (a := 69) (j := 2) (c := 61) (by decide), obj_e sp0.1.1, calV_e e2, obj_e (z69 p2.1), obj_e (z69 p2.1), obj_e (z69 p2.1), p2.r (a := 69) (j := 7) (c := 16) (by decide), obj_e (z16 p2.1), calI_e (Rw_size _ p2.rw), p2.r (a := 69) (j := 1) (c := 66) (by decide), obj_e (z66 p2.1), show hI h2 69 10 = zI g by rw [f2.I (n2 _ (by omega)), i1 _ (by omega)]; exact q10, show zI g + zI 1 = zI (a : Int) by rw [← ha, zI_add], calV_e e3, obj_e (z69 p3.1), h69 10 (by omega), q10]
    simp (disch := omega) only [ylt0]
  have s0 : stl (Lw s.2.2.2 0) 0 c0 = c0 := stl_0 (lvs_0 _ _)
  have key0 : RQS (fun t => t == 0) (rdr s x) [] (Lw s.2.2.2 0) := by
    intro t
    rw [beq_iff_eq]
    constructor
    · intro w; exact ⟨c0, rfl, by rw [s0, w]; rfl⟩
    · rintro ⟨c, w1, w2⟩
      rw [show c = c0 from w1, s0] at w2
      rw [w2]; rfl
  rcases lg with ⟨rfl, ng⟩ | ⟨la, p, rfl, hla, hpl, hgl, ng⟩
  · have ha0 : a = 0 := by omega
    subst ha0
    have ngj : ∀ (j : Nat) (p : Int × Int), 0 ≤ j → s.2.2.2[j]? = some p → p.1 ≠ -1 ∧ p.2 ≠ -1 := fun j p _ hp => ng j p (List.getElem?_eq_some_iff.mp hp).1 hp
    have W := runFrom (d + 37 - s.2.2.2.length) hw rv (i0 := 0) ngj s.2.2.2.length 0 (by omega) (by omega)
    obtain ⟨h4, e4, f4, -, p4, -, -⟩ := W h3 c0 p3 (fun j w1 w2 => ⟨_, c3 j w1 w2, fun c _ w => by cases w⟩) KV_0.v
    rw [show d + 37 - s.2.2.2.length + 3 + (s.2.2.2.length + 1) = d + 41 by omega, s0] at e4
    have fe := fls_end (r := rdr s x) (o := 0) (u := []) hw s.2.2.2.length 0 (by omega) (fun j p _ hp => ngj j p (Nat.zero_le _) hp)
    have iff : (∃ c, rq (rdr s x) [] c ∧ gq (rdr s x) (sfx s.2.2.2 0) c) ↔ gq (rdr s x) (sfx s.2.2.2 0) c0 := ⟨fun ⟨c, w1, w2⟩ => by rw [show c = c0 from w1] at w2; exact w2, fun w => ⟨c0, rfl, w⟩⟩
    rw [bl_c iff] at fe
    refine ⟨h4, if bl (gq (rdr s x) (sfx s.2.2.2 0) c0) = true then 1 else 0, ?_, F3.tr (f4.mo (fun z hz => by unfold fW at hz; omega)), p4, ?_⟩
    · have e3' : Cc (d + 42) k_Wk_isTakenFrom [aR (some 66), aR (some (xa x)), aR (some 16), aI (zI 0), aI (zI 0)] h3 = some (some (aI (zI (if bl (gq (rdr s x) (sfx s.2.2.2 0) c0) = true then 1 else 0))), h4) := by
        rw [C_Wk_isTakenFrom, E_Wk_isTakenFrom_0, obj_e (z66 p3.1)]
        have e4' : Cc (d + 41) k_Wk_runFrom [aR (some 66), aR (some (xa x)), aR (some 16), aI (zI 0), aI (zI 0)] h3 = some (some (aI (zI (if bl (gq (rdr s x) (sfx s.2.2.2 0) c0) = true then 1 else 0))), h4) := e4
        rw [calI_e e4', if_pos (by split; exact Or.inr (by decide); exact Or.inl (by decide))]
      rw [e6, if_pos (by omega), E_Fl_search_7, obj_e (z69 p3.1), obj_e (z69 p3.1), obj_e (z69 p3.1), p3.r (a := 69) (j := 1) (c := 66) (by decide), p3.r (a := 69) (j := 7) (c := 16) (by decide), obj_e (z66 p3.1), h69R, calI_e e3', if01]
      split
      · rw [E_Fl_search_8, E_Fl_search_10]; rfl
      · rw [E_Fl_search_9, E_Fl_search_10]; rfl
    · unfold flA
      rw [fe]
      by_cases z : bl (gq (rdr s x) (sfx s.2.2.2 0) c0) = true
      · rw [if_pos z, if_pos z]
        rcases (show b = 0 ∨ b = 1 by omega) with w | w
        · exact Or.inl ⟨w, rfl⟩
        · refine Or.inr ⟨w, Or.inr ⟨rfl, _, [], rfl, fun j q' hq' => ?_⟩⟩
          unfold tgl at hq'
          rw [List.getElem?_map, List.drop_zero] at hq'
          cases hd : s.2.2.2[j]? with
          | none => rw [hd] at hq'; cases hq'
          | some p' =>
            rw [hd] at hq'
            cases hq'
            have g := ngj j p' (Nat.zero_le _) hd
            have hb' := hw.2 p' (List.mem_of_getElem? hd)
            obtain ⟨w1, w2⟩ := qa j p' (List.getElem?_eq_some_iff.mp hd).1 hd
            rw [f4.I (by unfold fW; omega), f4.I (by unfold fW; omega), h72 _ _ (Or.inl rfl), h72 _ _ (Or.inr rfl), w1, w2]
            exact ⟨by show zI p'.1 = zI ((p'.1.toNat : Nat) : Int); congr 1; omega, by show zI p'.2 = zI ((p'.2.toNat : Nat) : Int); congr 1; omega⟩
      · rw [if_neg z, if_neg z]
        rcases (show b = 0 ∨ b = 1 by omega) with w | w
        · exact Or.inl ⟨w, rfl⟩
        · exact Or.inr ⟨w, Or.inl ⟨rfl, rfl⟩⟩
  · have ha1 : a = la + 1 := by omega
    subst ha1
    have lst : LST s.2.2.2 la := ⟨hla, fun j p hj hp => ng j p (by omega) (List.getElem?_eq_some_iff.mp hp).1 hp⟩
    have q3 : FQ s h3 x la b := ⟨p3, h69R, by rw [h69 10 (by omega)]; exact q10, by rw [h69 12 (by omega)]; exact q12, (fn1.fr f2 (n2 _ (by omega)) (n2 _ (by omega)) (n2 _ (by omega))).fr f3 (n3 _ (by omega)) (n3 _ (by omega)) (n3 _ (by omega)), fun j w1 w2 => ⟨_, c3 j w1 w2, fun c _ w => by cases w⟩, ⟨_, sp2.fr f3 (fun z hz => n3 z (by unfold spF at hz; omega)), fun c _ w => by cases w⟩, fun j p hp _ _ => by rw [h72 _ _ (Or.inl rfl), h72 _ _ (Or.inr rfl)]; exact qa j p (List.getElem?_eq_some_iff.mp hp).1 hp⟩
    obtain ⟨T1, spa⟩ := (p3.set (k := 0) (by omega)).1
    have e21 := (p3.set (k := 0) (by omega)).2
    obtain ⟨h4, e4, f4, sp4⟩ := Sp_startAt (d + 38) spa (s := 0) (by omega)
    have q4 : FQ s h4 x la b := FQ_set q3 (by omega) hla f4 sp4
    have hf4 : hI h4 69 11 = zI ((0 : Nat) : Int) := by rw [f4.I (by unfold spF; omega), h69 11 (by omega)]; exact q11
    obtain ⟨h5, f5, q5, -, -, alt⟩ := ff_all lst hpl hgl la (d + 22 - 2 * la) b 0 0 0 [] h4 _ (by omega) q4 hb sp4 key0 (fun p hp => by cases hp) (Nat.zero_le _) hf4
    rw [show d + 22 - 2 * la + 20 + 2 * la = d + 42 by omega] at alt
    have e7 : ∀ v : Int32, Cc (d + 42) k_Fl_fillFrom [aR (some 69), aI (zI ((0 : Nat) : Int)), aI (zI ((0 : Nat) : Int))] h4 = some (some (aI v), h5) → Rk B_Fl_search L_Fl_search (Cc (d + 42)) 6 [aR (some 69), aU, aU, aU] [] h = some (some (aI (hI h5 69 11)), h5) := by
      intro v ev
      rw [e6, if_neg (by omega), E_Fl_search_11, obj_e (z69 p3.1), p3.r (a := 69) (j := 0) (c := 21) (by decide), zc0]
      simp (disch := omega) only [idx_n (z21 p3.1), e21]
      rw [obj_e spa.1.1, calV_e e4, obj_e (z69 q4.1.1), calI_e ev, obj_e (z69 q5.1.1)]
    have fF : fr (fun a => a < 94) h h5 := F3.tr ((f4.mo (fun z hz => by unfold spF at hz; omega)).tr (f5.mo (fun z hz => by unfold fiF at hz; omega)))
    unfold flA
    rcases alt with ⟨b1, b2, b3, t, T', b4, b5⟩ | ⟨b1, b2, b3⟩
    · refine ⟨h5, 1, by rw [e7 _ b2, b3], fF, q5.1, Or.inr ⟨b1, Or.inr ⟨rfl, t, T', b4, fun j q' hq' => ?_⟩⟩⟩
      have := b5 j q' hq'
      rw [Nat.zero_add] at this
      exact this
    · refine ⟨h5, _, by rw [e7 _ b2, b3, Nat.zero_add], fF, q5.1, ?_⟩
      rw [Nat.sub_zero]
      rcases b1 with b1 | b1
      · exact Or.inl ⟨b1, rfl⟩
      · rw [Nat.sub_zero] at b1
        rw [b1]
        rcases (show b = 0 ∨ b = 1 by omega) with w | w
        · exact Or.inl ⟨w, rfl⟩
        · exact Or.inr ⟨w, Or.inl ⟨rfl, rfl⟩⟩
theorem Fl_search (d : Nat) {s : Stt} {x : Int} {b : Nat} {h : AH} (hb : b ≤ 1) (px : XI s h) : ∃ h' cnt, Cc (d + 43) k_Fl_search [aR (some 69), aR (some (xa x)), aI (zI b)] h = some (some (aI (zI ((cnt : Nat) : Int))), h') ∧ fr (fun a => a < 94) h h' ∧ XI s h' ∧ SeR h' b cnt (flA (rdr s x) s.2.2.2) := by
  have hl12 := px.rw.1.1
  have p1 : XI s (sR h 69 8 (some (xa x))) := XI_698 px
  have f1 : fr (fun z => z = 69) h (sR h 69 8 (some (xa x))) := fr_sR (F := fun z => z = 69) h rfl _ _
  have st : ∀ (h : AH) (j : Nat) (v : Int32), XI s h → XI s (sI h 69 j v) ∧ fr (fun z => z = 69) h (sI h 69 j v) := fun h j v p => by
    have f : fr (fun z => z = 69) h (sI h 69 j v) := fr_sI (F := fun z => z = 69) h rfl _ _
    exact ⟨XI_sc p f (fun z hz => by unfold nI'; omega) (fun _ _ => rfl), f⟩
  obtain ⟨p2, f2⟩ := st _ 12 (zI b) p1
  obtain ⟨p3, f3⟩ := st _ 11 (zI 0) p2
  obtain ⟨p4, f4⟩ := st _ 10 (zI (-1)) p3
  obtain ⟨h5, g, e5, f5, q5⟩ := se_lp (d + 41) (x := x) (b := b) s.2.2.2.length 0 (sI (sI (sI (sR h 69 8 (some (xa x))) 69 12 (zI b)) 69 11 (zI 0)) 69 10 (zI (-1))) (-1) (by omega) ⟨p4, hR_hit _ _ _ _, hI_hit _ _ _ _, by rw [hI_off (by omega), hI_off (by omega), hI_hit], by rw [hI_off (by omega), hI_hit], Or.inl ⟨rfl, fun j _ hj => absurd hj (Nat.not_lt_zero _)⟩, fun j _ hj => absurd hj (Nat.not_lt_zero _)⟩
  obtain ⟨h6, cnt, e6, f6, p6, r6⟩ := se_6 d hb q5
  refine ⟨h6, cnt, ?_, ((f1.tr (f2.tr (f3.tr f4))).mo (fun z hz => by omega)).tr (f5.tr f6), p6, r6⟩
  rw [C_Fl_search, E_Fl_search_0, obj_e (z69 px.1), mb_some, obj_e (z69 p1.1), if_pos (by rcases (show b = 0 ∨ b = 1 by omega) with w | w; rw [w]; exact Or.inl (by decide); rw [w]; exact Or.inr (by decide)), mb_some, obj_e (z69 p2.1), mb_some, obj_e (z69 p3.1), mb_some, lt_e]
  exact e5.trans e6
noncomputable def fgsA (x : Int) (s : Stt) : Int := if x = 0 ∨ x = 1 then (if gapPairs s.2.2.2 ≤ 3 then ((flA (rdr s x) s.2.2.2).length : Int) else -4) else -2
noncomputable def fldV (L : List (List (Nat × Nat))) (k : Nat) : Int := match L with
  | [] => -1
  | t :: _ => match t[k]? with
    | none => -1
    | some q => ((128 * q.1 + q.2 : Nat) : Int)
noncomputable def fldA (x k : Int) (s : Stt) : Int := if x = 0 ∨ x = 1 then (if k < 0 then -3 else if gapPairs s.2.2.2 ≤ 3 then fldV (flA (rdr s x) s.2.2.2) k.toNat else -4) else -2
theorem X_fillings {x : Int} (x1 : -2147483648 ≤ x) (x2 : x < 2147483648) : XOK k_X_fillings [aI (zI x)] (fgsA x) id := by
  intro s h p
  have hg := gaps_le p.rw.1 s.2.2.2.length
  rw [List.take_length] at hg
  rw [C_X_fillings, E_X_fillings_0, obj_e p.o, calR_e (X_readerOf _ p x1 x2), xo_if]
  unfold fgsA
  by_cases a1 : x = 0 ∨ x = 1
  · simp only [if_pos a1]
    rw [xo_some a1, E_X_fillings_2, obj_e p.o, p.r (c := 16) (by decide), obj_e (z16 p.1), calI_e (Rw_gapPairs _ p.rw), zc3]
    simp (disch := omega) only [nle]
    by_cases a2 : gapPairs s.2.2.2 ≤ 3
    · simp only [if_pos a2]
      obtain ⟨h', cnt, e, f, p', r⟩ := Fl_search 16 (x := x) (b := 0) (by omega) p
      refine ⟨h', ?_, f, p'⟩
      rcases r with ⟨-, r⟩ | ⟨r, -⟩
      · rw [E_X_fillings_4, obj_e p.o, p.r (a := 0) (j := 6) (c := 69) (by decide), obj_e (z69 p.1), zc0, calI_e e, E_X_fillings_5, r]
      · cases r
    · simp only [if_neg a2]
      exact ⟨h, by rw [E_X_fillings_3, E_X_fillings_5], fr.rf _ h, p⟩
  · simp only [if_neg a1]
    exact ⟨h, by rw [E_X_fillings_1], fr.rf _ h, p⟩
theorem fldV_c {t : List (Nat × Nat)} {T : List (List (Nat × Nat))} {k : Nat} {q : Nat × Nat} (h : t[k]? = some q) : fldV (t :: T) k = ((128 * q.1 + q.2 : Nat) : Int) := by
  show (match t[k]? with
    | none => -1
    | some q => ((128 * q.1 + q.2 : Nat) : Int)) = _
  rw [h]
theorem Fl_pairAt (d : Nat) {s : Stt} {h : AH} {k : Nat} {q : Nat × Nat} (p : XI s h) (hk : k < 12) (e1 : hI h 72 k = zI q.1) (e2 : hI h 73 k = zI q.2) : Cc (d + 1) k_Fl_pairAt [aR (some 69), aI (zI k)] h = some (some (aI (zI ((128 * q.1 + q.2 : Nat) : Int))), h) := by
  rw [C_Fl_pairAt, E_Fl_pairAt_0, obj_e (z69 p.1), p.r (a := 69) (j := 5) (c := 72) (by decide)]
  simp (disch := omega) only [idx_n (z72 p.1), e1]
  rw [obj_e (z69 p.1), p.r (a := 69) (j := 6) (c := 73) (by decide)]
  simp (disch := omega) only [idx_n (z73 p.1), e2]
  rw [show zI 128 = zI ((128 : Nat) : Int) from rfl, nmul, nadd]
theorem X_filled {x k : Int} (x1 : -2147483648 ≤ x) (x2 : x < 2147483648) (k1 : -2147483648 ≤ k) (k2 : k < 2147483648) : XOK k_X_filled [aI (zI x), aI (zI k)] (fldA x k) id := by
  intro s h p
  have hl12 := p.rw.1.1
  have hg := gaps_le p.rw.1 s.2.2.2.length
  rw [List.take_length] at hg
  rw [C_X_filled, E_X_filled_0, obj_e p.o, calR_e (X_readerOf _ p x1 x2), xo_if]
  unfold fldA
  by_cases a1 : x = 0 ∨ x = 1
  · simp only [if_pos a1]
    rw [xo_some a1, E_X_filled_2]
    simp (disch := omega) only [ylt0]
    by_cases a0 : k < 0
    · simp only [if_pos a0]
      exact ⟨h, by rw [E_X_filled_3], fr.rf _ h, p⟩
    · simp only [if_neg a0]
      obtain ⟨n, rfl⟩ : ∃ n : Nat, k = (n : Int) := ⟨k.toNat, by omega⟩
      rw [E_X_filled_4, obj_e p.o, p.r (c := 16) (by decide), obj_e (z16 p.1), calI_e (Rw_gapPairs _ p.rw), zc3]
      simp (disch := omega) only [nle, Int.toNat_natCast]
      by_cases a2 : gapPairs s.2.2.2 ≤ 3
      · simp only [if_pos a2]
        rw [E_X_filled_6, obj_e p.o, p.r (c := 16) (by decide), obj_e (z16 p.1), calI_e (Rw_size _ p.rw)]
        simp (disch := omega) only [nlt]
        by_cases a3 : n < s.2.2.2.length
        · rw [if_pos a3, E_X_filled_7, obj_e p.o, p.r (a := 0) (j := 6) (c := 69) (by decide), obj_e (z69 p.1)]
          obtain ⟨h', cnt, e, f, p', r⟩ := Fl_search 16 (x := x) (b := 1) (by omega) p
          rw [show zI 1 = zI ((1 : Nat) : Int) from rfl, calI_e e]
          refine ⟨h', ?_, f, p'⟩
          rcases r with ⟨r, -⟩ | ⟨-, ⟨r1, r2⟩ | ⟨r1, t, T, r2, r3⟩⟩
          · cases r
          · rw [r1, r2, if_pos (by decide), E_X_filled_9, E_X_filled_10]; rfl
          · have hL : t.length = s.2.2.2.length := fls_l s.2.2.2.length 0 0 [] t (by show t ∈ flA _ _; rw [r2]; exact List.mem_cons_self)
            have ht : t[n]? = some t[n] := List.getElem?_eq_getElem (by omega)
            obtain ⟨w1, w2⟩ := r3 n _ ht
            rw [r1, r2, if_neg (by decide), E_X_filled_8, obj_e p'.o, p'.r (a := 0) (j := 6) (c := 69) (by decide), obj_e (z69 p'.1), calI_e (Fl_pairAt _ p' (by omega) w1 w2), E_X_filled_10, fldV_c ht]
        · rw [if_neg a3, E_X_filled_9, E_X_filled_10]
          refine ⟨h, ?_, fr.rf _ h, p⟩
          unfold fldV
          cases hL : flA (rdr s x) s.2.2.2 with
          | nil => rfl
          | cons t T =>
            have : t.length = s.2.2.2.length := fls_l s.2.2.2.length 0 0 [] t (by show t ∈ flA _ _; rw [hL]; exact List.mem_cons_self)
            show _ = some (some (aI (zI (match t[n]? with
              | none => -1
              | some q => ((128 * q.1 + q.2 : Nat) : Int)))), h)
            rw [List.getElem?_eq_none_iff.mpr (by omega)]
      · simp only [if_neg a2]
        exact ⟨h, by rw [E_X_filled_5], fr.rf _ h, p⟩
  · simp only [if_neg a1]
    exact ⟨h, by rw [E_X_filled_1], fr.rf _ h, p⟩
