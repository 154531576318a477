/-! X: Fillings: fillFrom -/
theorem RQS_nl {r : Rdr} (hv : RV r) {S L : Nat → Bool} {u : List (Nat × Nat)} (hu : ∀ p, p ∈ u → p.2 < 16) (hS : RQS S r u L) (h : cn S 24576 = 0) : ∀ c, ¬ rq r u c := by
  intro c hc
  have := (hS _).mpr ⟨c, hc, rfl⟩
  rw [cn_zero h _ (eX_lt (stl_v (rq_v hv u c hu hc) (by omega)))] at this
  cases this
theorem flt_one {l : List Nat} {P : Nat → Bool} {m : Nat} (nd : l.Nodup) (hm : m ∈ l) (h : ∀ x, x ∈ l → (P x = true ↔ x = m)) : l.filter P = [m] := by
  induction l with
  | nil => cases hm
  | cons y l ih =>
    rw [List.nodup_cons] at nd
    by_cases z : y = m
    · subst z
      rw [List.filter_cons_of_pos ((h y List.mem_cons_self).mpr rfl)]
      congr 1
      rw [List.filter_eq_nil_iff]
      intro x hx hp
      have := (h x (List.mem_cons_of_mem _ hx)).mp hp
      subst this
      exact nd.1 hx
    · rw [List.filter_cons_of_neg (fun w => z ((h y List.mem_cons_self).mp w))]
      refine ih nd.2 ?_ (fun x hx => h x (List.mem_cons_of_mem _ hx))
      rcases List.mem_cons.mp hm with w | w
      · exact absurd w.symm z
      · exact w
theorem CN_P {w : Rw} (hw : WV w) {a o : Nat} {p : Int × Int} (hp : w[a]? = some p) (ho : o ≤ gnm w a) : (CNn w 100).filter (Pm w p o) = nmc w a o := by
  have ha := (List.getElem?_eq_some_iff.mp hp).1
  have hg := gnm_m (w := w) (show a + 1 ≤ w.length from ha)
  rw [gnm_s hp] at hg
  unfold nmc
  rw [hp]
  show _ = if p.2 = -1 then nml w o else [p.2.toNat]
  by_cases z : p.2 = -1
  · rw [if_pos z] at hg ⊢
    unfold CNn nml
    rw [List.filter_filter]
    refine List.filter_congr fun x _ => ?_
    unfold Pm
    rw [if_pos z]
    by_cases y : idN w x ≤ (tn w).length + o + 1
    · have : idN w x ≤ (tn w).length + gnm w w.length := by omega
      simp [y, this]
    · simp [y]
  · rw [if_neg z]
    obtain ⟨i1, i2, i3, i4⟩ := idN_r hw hp z
    have i5 := idN_t i3
    refine flt_one (List.Nodup.sublist List.filter_sublist List.nodup_range) ?_ (fun x hx => ?_)
    · unfold CNn
      rw [List.mem_filter, List.mem_range]
      exact ⟨i4, decide_eq_true (by omega)⟩
    · unfold Pm
      rw [if_neg z, decide_eq_true_iff, ← i2]
      exact ⟨fun e => idN_inj e, fun e => by rw [e]⟩
theorem fls_f {r : Rdr} {w : Rw} {a o : Nat} {u : List (Nat × Nat)} (ha : a < w.length) : fls r w (w.length - a) a o u = (ltc w a).flatMap fun l => (nmc w a o).flatMap (ffl r w a o u l) := by
  rw [show w.length - a = w.length - (a + 1) + 1 by omega]
  show (chs w a o).flatMap _ = _
  unfold chs
  rw [List.flatMap_assoc]
  congr 1
  funext l
  rw [List.flatMap_map]
  rfl
theorem ff_skip (d : Nat) {s : Stt} {x : Int} {la n b o : Nat} (IH : ∀ n', n' < n → FFS s x la n') (hla : LST s.2.2.2 la) {pl : Int × Int} (hpl : s.2.2.2[la]? = some pl) (hgl : pl.1 = -1 ∨ pl.2 = -1) (hb : b ≤ 1) : ∀ (k i : Nat) (h : AH) (S : Nat → Bool) (u : List (Nat × Nat)) (f0 : Nat), i + k = la → k ≤ n → FQ s h x la b → SP h (22 + 3 * i) 24576 S → RQS S (rdr s x) u (Lw s.2.2.2 i) → (∀ p, p ∈ u → p.2 < 16) → o ≤ gnm s.2.2.2 i → hI h 69 11 = zI f0 →
    FO s x la b i i h f0 (Rk B_Fl_fillFrom L_Fl_fillFrom (Cc (d + 19 + 2 * n)) 1 [aR (some 69), aU, aI (zI o), aI (zI i), aU, aU, aU] [] h) (fun h' => some (some (aI (zI 0)), h')) (fls (rdr s x) s.2.2.2 (s.2.2.2.length - i) i o u) := by
  -- here is a gap
  have main : ∀ (k i : Nat) (h : AH) (S : Nat → Bool) (u : List (Nat × Nat)) (f0 : Nat) (p : Int × Int), i + k = la → k ≤ n → s.2.2.2[i]? = some p → (p.1 = -1 ∨ p.2 = -1) → FQ s h x la b → SP h (22 + 3 * i) 24576 S → RQS S (rdr s x) u (Lw s.2.2.2 i) → (∀ p, p ∈ u → p.2 < 16) → o ≤ gnm s.2.2.2 i → hI h 69 11 = zI f0 → FO s x la b i i h f0 (Rk B_Fl_fillFrom L_Fl_fillFrom (Cc (d + 19 + 2 * n)) 4 [aR (some 69), aU, aI (zI o), aI (zI i), aU, aU, aU] [] h) (fun h' => some (some (aI (zI 0)), h')) (fls (rdr s x) s.2.2.2 (s.2.2.2.length - i) i o u) := by
    intro k i h S u f0 p hk hkn hp hg q sp rqs hu ho hf
    have px := q.1
    have hw := px.rw.1
    have hl12 := hw.1
    have hlal := hla.1
    have hpb := hw.2 p (List.mem_of_getElem? hp)
    have e21 := (px.set (k := i) (by omega)).2
    have hcn := cn_le S 24576
    have e0 : Rk B_Fl_fillFrom L_Fl_fillFrom (Cc (d + 19 + 2 * n)) 4 [aR (some 69), aU, aI (zI o), aI (zI i), aU, aU, aU] [] h = if cn S 24576 = 0 then some (some (aI (zI 0)), h) else Rk B_Fl_fillFrom L_Fl_fillFrom (Cc (d + 19 + 2 * n)) 6 [aR (some 69), aU, aI (zI o), aI (zI i), aU, aU, aU] [] h := by
      rw [E_Fl_fillFrom_4, obj_e (z69 px.1), px.r (a := 69) (j := 0) (c := 21) (by decide)]
      simp (disch := omega) only [idx_n (z21 px.1), e21]
      rw [obj_e sp.1.1, show d + 19 + 2 * n = d + 18 + 2 * n + 1 by omega, calI_e (Sp_size _ sp), E_Fl_fillFrom_5, fr0]
      simp (disch := omega) only [neq0]
    by_cases z : cn S 24576 = 0
    · rw [if_pos z] at e0
      rw [fls_no _ _ _ _ (RQS_nl (px.rd x).1 hu rqs z)]
      exact FO_0 q hf e0
    · rw [if_neg z] at e0
      rw [e0, fls_f (by omega), ← CN_P hw hp ho]
      by_cases y : p.1 = -1
      · have lt := ff_lt (d + 2 * (n - k)) (x4 := 1) (top := 2) (fun n' hn' => IH n' (by omega)) hla hk hp hg hb (Or.inl ⟨rfl, rfl⟩) ho rqs hu 3 0 h f0 rfl q sp hf
        rw [show d + 2 * (n - k) + 19 + 2 * k = d + 18 + 2 * n + 1 by omega] at lt
        have e1 : ltc s.2.2.2 i = List.range' 0 3 := by
          unfold ltc
          rw [hp]
          show (if p.1 = -1 then [0, 1, 2] else [p.1.toNat]) = _
          rw [if_pos y]
          rfl
        rw [e1, E_Fl_fillFrom_6, obj_e (z69 px.1), px.r (a := 69) (j := 7) (c := 16) (by decide), obj_e (z16 px.1), show d + 19 + 2 * n = d + 18 + 2 * n + 1 by omega, calI_e (Rw_letter _ px.rw hp), if_pos (by rw [y]), E_Fl_fillFrom_7, E_Fl_fillFrom_9, lt_e, if_neg (by decide), E_Fl_fillFrom_10, E_Fl_fillFrom_12, lt_e]
        exact lt
      · obtain ⟨l, hl⟩ : ∃ l : Nat, p.1 = (l : Int) := ⟨p.1.toNat, by omega⟩
        have lt := ff_lt (d + 2 * (n - k)) (x4 := 0) (top := l) (fun n' hn' => IH n' (by omega)) hla hk hp hg hb (Or.inr ⟨rfl, hl⟩) ho rqs hu 1 l h f0 rfl q sp hf
        rw [show d + 2 * (n - k) + 19 + 2 * k = d + 18 + 2 * n + 1 by omega] at lt
        have e1 : ltc s.2.2.2 i = List.range' l 1 := by
          unfold ltc
          rw [hp]
          show (if p.1 = -1 then [0, 1, 2] else [p.1.toNat]) = _
          rw [if_neg y, hl]
          rfl
        rw [e1, E_Fl_fillFrom_6, obj_e (z69 px.1), px.r (a := 69) (j := 7) (c := 16) (by decide), obj_e (z16 px.1), show d + 19 + 2 * n = d + 18 + 2 * n + 1 by omega, calI_e (Rw_letter _ px.rw hp)]
        simp (disch := omega) only [yeq]
        rw [if_neg y, E_Fl_fillFrom_8, E_Fl_fillFrom_9, lt_e, if_pos (by decide), E_Fl_fillFrom_11, obj_e (z69 px.1), px.r (a := 69) (j := 7) (c := 16) (by decide), obj_e (z16 px.1), calI_e (Rw_letter _ px.rw hp), E_Fl_fillFrom_12, lt_e, hl]
        exact lt
  intro k
  induction k with
  | zero =>
    intro i h S u f0 hk hkn q sp rqs hu ho hf
    have hl12 := q.1.rw.1.1
    have hlal := hla.1
    have : i = la := by omega
    subst this
    rw [E_Fl_fillFrom_1, obj_e (z69 q.1.1), q.2.2.1]
    simp (disch := omega) only [nlt]
    rw [if_neg (by omega)]
    exact main 0 i h S u f0 pl (by omega) hkn hpl hgl q sp rqs hu ho hf
  | succ k ih =>
    intro i h S u f0 hk hkn q sp rqs hu ho hf
    have px := q.1
    have hw := px.rw.1
    have hl12 := hw.1
    have hlal := hla.1
    have hp : s.2.2.2[i]? = some s.2.2.2[i] := List.getElem?_eq_getElem (by omega)
    generalize s.2.2.2[i] = p at hp
    have hpb := hw.2 p (List.mem_of_getElem? hp)
    rw [E_Fl_fillFrom_1, obj_e (z69 px.1), q.2.2.1]
    simp (disch := omega) only [nlt]
    rw [if_pos (by omega), E_Fl_fillFrom_2, obj_e (z69 px.1), px.r (a := 69) (j := 7) (c := 16) (by decide), obj_e (z16 px.1), show d + 19 + 2 * n = d + 18 + 2 * n + 1 by omega, calI_e (Rw_hasGap _ hw px.rw.2.1 px.rw.2.2.2.1 hp), ← show d + 19 + 2 * n = d + 18 + 2 * n + 1 by omega]
    by_cases z : p.1 = -1 ∨ p.2 = -1
    · rw [show gp2 p = 1 by unfold gp2; rw [if_pos z], if_neg (by decide)]
      exact main (k + 1) i h S u f0 p hk hkn hp z q sp rqs hu ho hf
    · have z1 : p.1 ≠ -1 := fun w => z (Or.inl w)
      have z2 : p.2 ≠ -1 := fun w => z (Or.inr w)
      have rv := (px.rd x).1
      have hid := idn16 hw p.2
      have e21a := (px.set (k := i) (by omega)).2
      have e21b := (px.set (k := i + 1) (by omega)).2
      obtain ⟨T0, spT⟩ := (px.set (k := i + 1) (by omega)).1
      obtain ⟨l, hl⟩ : ∃ l : Nat, p.1 = (l : Int) := ⟨p.1.toNat, by omega⟩
      obtain ⟨h2, T, e2, f2, sp2, gT⟩ := Sp_follow (d + 2 * n + 14) (a := 22 + 3 * (i + 1)) (b := 22 + 3 * i) (ra := xa x) (l := l) (x := idn s.2.2.2 p.2) (by unfold xa; split <;> omega) (by omega) (by omega) (by omega) (by omega) (alv_L hw (i + 1)) spT sp (px.rd x)
      have q2 : FQ s h2 x la b := FQ_set q (by omega) hlal f2 sp2
      have nf : ∀ t, 64 ≤ t → ¬ spF (22 + 3 * (i + 1)) t := fun t ht => by unfold spF; omega
      have im := (idN_t (idN_r hw hp z2).2.2.1)
      rw [(idN_r hw hp z2).2.1] at im
      have rqs2 : RQS T (rdr s x) ((l, idn s.2.2.2 p.2) :: u) (Lw s.2.2.2 (i + 1)) := RQS_s rv hu rqs (lvs_x hp) (by omega) (lvs_0 _ _) (fun t ht => lvs_s t ht) gT
      have hu2 : ∀ p', p' ∈ (l, idn s.2.2.2 p.2) :: u → p'.2 < 16 := by
        intro p' hp'
        rcases List.mem_cons.mp hp' with w | w
        · rw [w]; show idn s.2.2.2 p.2 < 16; omega
        · exact hu p' w
      have F := ih (i + 1) h2 T _ f0 (by omega) (by omega) q2 sp2 rqs2 hu2 (Nat.le_trans ho (gnm_m (by omega))) (by rw [f2.I (nf _ (by omega))]; exact hf)
      have e0 : Rk B_Fl_fillFrom L_Fl_fillFrom (Cc (d + 19 + 2 * n)) 3 [aR (some 69), aU, aI (zI o), aI (zI i), aU, aU, aU] [] h = Rk B_Fl_fillFrom L_Fl_fillFrom (Cc (d + 19 + 2 * n)) 1 [aR (some 69), aU, aI (zI o), aI (zI ((i + 1 : Nat) : Int)), aU, aU, aU] [] h2 := by
        rw [E_Fl_fillFrom_3, obj_e (z69 px.1), px.r (a := 69) (j := 0) (c := 21) (by decide), nadd1]
        simp (disch := omega) only [idx_n (z21 px.1), e21b, obj_e (z69 px.1), px.r (a := 69) (j := 0) (c := 21) (by decide), e21a, px.r (a := 69) (j := 7) (c := 16) (by decide), obj_e (z16 px.1)]
        rw [show d + 19 + 2 * n = d + 2 * n + 18 + 1 by omega, calI_e (Rw_letter _ px.rw hp), obj_e (z69 px.1), px.r (a := 69) (j := 7) (c := 16) (by decide), obj_e (z16 px.1), calI_e (Rw_id _ px.rw hp), obj_e (z69 px.1), px.r (a := 69) (j := 7) (c := 16) (by decide), obj_e (z16 px.1), calI_e (Rw_alive _ px.rw (by omega)), obj_e spT.1.1, q.2.1, hl, calV_e e2, lt_e]
      rw [show gp2 p = 0 by unfold gp2; rw [if_neg z], if_pos (by decide), e0, show s.2.2.2.length - i = s.2.2.2.length - (i + 1) + 1 by omega, fls_ng hw hp z1 z2]
      obtain ⟨h3, f3, q3, a1, a2, alt⟩ := F
      have f2' : fr (fiF i) h h2 := f2.mo (fun t ht => by unfold spF at ht; unfold fiF; omega)
      have f3' : fr (fiF i) h2 h3 := f3.mo (fun t ht => by unfold fiF at *; omega)
      have kI := fun (c t : Nat) (hc : 64 ≤ c) => f2.I (j := t) (nf c hc)
      refine ⟨h3, f2'.tr f3', q3, fun t ht => by rw [a1 t (by omega), f2.I (nf _ (by omega))], fun t ht => by rw [a2 t (by omega), f2.I (nf _ (by omega))], ?_⟩
      have el : p.1.toNat = l := by omega
      rw [el]
      rcases alt with ⟨b1, b2, b3, t, T', b4, b5⟩ | ⟨b1, b2, b3⟩
      · refine Or.inl ⟨b1, b2, b3, (l, p.2.toNat) :: t, T'.map ((l, p.2.toNat) :: ·), by rw [b4]; rfl, ?_⟩
        intro t' q' hq'
        cases t' with
        | zero =>
          cases hq'
          obtain ⟨w1, w2⟩ := q3.2.2.2.2.2.2.2 i p hp z1 z2
          exact ⟨by show hI _ 72 i = zI l; rw [w1, hl], by show hI _ 73 i = zI ((p.2.toNat : Nat) : Int); rw [w2]; congr 1; omega⟩
        | succ t' =>
          rw [show i + (t' + 1) = i + 1 + t' by omega]
          exact b5 t' q' hq'
      · refine Or.inr ⟨?_, b2, by rw [b3, List.length_map]⟩
        rcases b1 with b1 | b1
        · exact Or.inl b1
        · exact Or.inr (by rw [b1]; rfl)
theorem ff_all {s : Stt} {x : Int} {la : Nat} (hla : LST s.2.2.2 la) {pl : Int × Int} (hpl : s.2.2.2[la]? = some pl) (hgl : pl.1 = -1 ∨ pl.2 = -1) : ∀ n, FFS s x la n := by
  intro n
  induction n using Nat.strongRecOn with
  | ind n IH =>
    intro d b i o f0 u h S hi q hb sp rqs hu ho hf
    have := ff_skip d (o := o) IH hla hpl hgl hb n i h S u f0 hi (Nat.le_refl _) q sp rqs hu ho hf
    rw [show d + 20 + 2 * n = d + 19 + 2 * n + 1 by omega, C_Fl_fillFrom, E_Fl_fillFrom_0, lt_e]
    exact this
