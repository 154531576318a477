/-! the reference: the other reader's lists -/
def C7 (c : Cfg) : Prop := c.1 < 6 ∧ c.2.1 ≤ 6 ∧ c.2.2.1 ≤ 6 ∧ c.2.2.2 ≤ 6
theorem C7.m {c : Cfg} (h : C7 c) : CM c := by unfold C7 at h; unfold CM; omega
theorem goC_7 {m : Mv} {c : Cfg} {x : Nat} (hm : MV m) (hc : C7 c) (hx : x ≤ 6) : C7 (goC m c x) := by
  unfold goC C7 at *
  unfold MV at hm
  refine ⟨hm.2.2.2.2.2, ?_, ?_, ?_⟩ <;> simp only <;> split <;> omega
def e7' (c : Cfg) : Nat := c.1 + 6 * c.2.1 + 42 * c.2.2.1 + 294 * c.2.2.2
theorem c7_len {cs : List Cfg} (nd : cs.Nodup) (h : ∀ c, c ∈ cs → C7 c) : cs.length ≤ 2058 := by
  have := nd_len 2058 (cs.map e7') (nd_map e7' cs nd (by
    intro x y hx hy e
    have a := h x hx
    have b := h y hy
    unfold C7 at a b
    unfold e7' at e
    obtain ⟨q, a1, b1, d1⟩ := x
    obtain ⟨q', a2, b2, d2⟩ := y
    simp only [Prod.mk.injEq] at *
    omega)) (by
    intro n hn
    obtain ⟨c, hc, e⟩ := List.mem_map.mp hn
    have a := h c hc
    unfold C7 at a
    rw [← e]
    unfold e7'
    omega)
  rwa [List.length_map] at this
/-- the list at a depth -/
def MO (h : AH) (D : Nat) (cs : List Cfg) : Prop := cs.Nodup ∧ (∀ c, c ∈ cs → C7 c) ∧ hI h 133 D = zI cs.length ∧ ∀ (i : Nat) (c : Cfg), cs[i]? = some c → hI h 132 (4100 * D + i) = zI (eM c)
def fO (D a j : Nat) : Prop := (a = 94 ∧ j = 29) ∨ a = 116 ∨ (a = 133 ∧ j = D + 1) ∨ (a = 132 ∧ 4100 * (D + 1) ≤ j ∧ j < 4100 * (D + 2))
theorem MO.mv {F : Nat → Nat → Prop} {h h' : AH} {D : Nat} {cs : List Cfg} (p : MO h D cs) (f : mfr F h h') (n : ¬ F 133 D) (n2 : ∀ i, i < 4100 → ¬ F 132 (4100 * D + i)) : MO h' D cs := by
  have hl := c7_len p.1 p.2.1
  refine ⟨p.1, p.2.1, by rw [f.I n]; exact p.2.2.1, fun i c hc => ?_⟩
  have := (List.getElem?_eq_some_iff.mp hc).1
  rw [f.I (n2 i (by omega))]; exact p.2.2.2 i c hc
/-- inside goOn: what has been found so far -/
def GSO (h : AH) (D u : Nat) (acc : List Cfg) : Prop := acc.Nodup ∧ (∀ c, c ∈ acc → C7 c) ∧ hI h 94 29 = zI u ∧ (∀ j, j < 29478 → ∃ s : Nat, s ≤ u ∧ hI h 116 j = zI s) ∧ (∀ c, CM c → (hI h 116 (eM c) = zI u ↔ c ∈ acc)) ∧ ∀ (i : Nat) (c : Cfg), acc[i]? = some c → hI h 132 (4100 * (D + 1) + i) = zI (eM c)
theorem goOt_in (d : Nat) {D u l x : Nat} {r : Rdr} {c : Cfg} {x6 : Int32} (hv : RV r) (hD : D < 5) (hu : u < 2147483000) (hl : l < 3) (hx : x ≤ 6) (hc : C7 c) : ∀ (n i : Nat) (h : AH) (acc : List Cfg), i + n = r.2.2.2.length → MS h → MR h 1 r → GSO h D u acc →
    ∃ h' acc', Rk B_M_goOther L_M_goOther (Cc (d + 2)) 3 [aR (some 94), aI (zI D), aI (zI l), aI (zI x), aI (zI acc.length), aI x6, aI (zI (eM c)), aI (zI ((20 * 1 + i : Nat) : Int)), aU] [] h = Rk B_M_goOther L_M_goOther (Cc (d + 2)) 8 [aR (some 94), aI (zI D), aI (zI l), aI (zI x), aI (zI acc'.length), aI x6, aU, aU, aU] [] h' ∧ mfr (fO D) h h' ∧ (∀ D', D' ≤ D → hI h' 133 D' = hI h 133 D') ∧ GSO h' D u acc' ∧ ∀ c', c' ∈ acc' ↔ c' ∈ acc ∨ ∃ (t : Nat) (m : Mv), i ≤ t ∧ r.2.2.2[t]? = some m ∧ m.1 = c.1 ∧ m.2.1 = l ∧ stp m c x = some c'
  | 0, i, h, acc, hn, p, mr, g => by
    have hL := hv.2.2.2.2.1
    refine ⟨h, acc, ?_, mfr.rf _ h, fun _ _ => rfl, g, fun c' => ⟨Or.inl, ?_⟩⟩
    · rw [E_M_goOther_3, zc1]
      simp (disch := omega) only [obj_e (z94 p.1), m3 p, idx_n (z98 p.1), mr.2.2.2.1]
      rw [show zI 20 + zI (r.2.2.2.length : Int) = zI ((20 * 1 + r.2.2.2.length : Nat) : Int) from by rw [zI_add]; rfl]
      simp (disch := omega) only [nlt]
      rw [if_neg (by omega)]
    · rintro (h | ⟨t, m, h1, h2, -⟩)
      · exact h
      · have := (List.getElem?_eq_some_iff.mp h2).1; omega
  | n + 1, i, h, acc, hn, p, mr, g => by
    have hL := hv.2.2.2.2.1
    have hm : r.2.2.2[i]? = some r.2.2.2[i] := List.getElem?_eq_getElem (by omega)
    have hmv := (hv.mi hm).1
    have hrow := mr.2.2.2.2 i _ hm
    have hlt := eM_lt hc.m
    have hal := c7_len g.1 g.2.1
    have e3 : Rk B_M_goOther L_M_goOther (Cc (d + 2)) 3 [aR (some 94), aI (zI D), aI (zI l), aI (zI x), aI (zI acc.length), aI x6, aI (zI (eM c)), aI (zI ((20 * 1 + i : Nat) : Int)), aU] [] h = Rk B_M_goOther L_M_goOther (Cc (d + 2)) 4 [aR (some 94), aI (zI D), aI (zI l), aI (zI x), aI (zI acc.length), aI x6, aI (zI (eM c)), aI (zI ((20 * 1 + i : Nat) : Int)), aU] [] h := by
      rw [E_M_goOther_3, zc1]
      simp (disch := omega) only [obj_e (z94 p.1), m3 p, idx_n (z98 p.1), mr.2.2.2.1]
      rw [show zI 20 + zI (r.2.2.2.length : Int) = zI ((20 * 1 + r.2.2.2.length : Nat) : Int) from by rw [zI_add]; rfl]
      simp (disch := omega) only [nlt]
      rw [if_pos (by omega)]
    rw [e3, E_M_goOther_4, obj_e (z94 p.1), calI_e (M_can d p (by omega) hrow hmv hc.m hl (by omega)), if01]
    -- going on without a new one
    have skip : ∀ (h' : AH) (acc' : List Cfg), mfr (fO D) h h' → (∀ D', D' ≤ D → hI h' 133 D' = hI h 133 D') → MR h' 1 r → GSO h' D u acc' → (∀ c', c' ∈ acc' ↔ c' ∈ acc ∨ (r.2.2.2[i].1 = c.1 ∧ r.2.2.2[i].2.1 = l ∧ stp r.2.2.2[i] c x = some c')) → ∃ h'' acc'', Rk B_M_goOther L_M_goOther (Cc (d + 2)) 7 [aR (some 94), aI (zI D), aI (zI l), aI (zI x), aI (zI acc'.length), aI x6, aI (zI (eM c)), aI (zI ((20 * 1 + i : Nat) : Int)), aU] [] h' = Rk B_M_goOther L_M_goOther (Cc (d + 2)) 8 [aR (some 94), aI (zI D), aI (zI l), aI (zI x), aI (zI acc''.length), aI x6, aU, aU, aU] [] h'' ∧ mfr (fO D) h h'' ∧ (∀ D', D' ≤ D → hI h'' 133 D' = hI h 133 D') ∧ GSO h'' D u acc'' ∧ ∀ c', c' ∈ acc'' ↔ c' ∈ acc ∨ ∃ (t : Nat) (m : Mv), i ≤ t ∧ r.2.2.2[t]? = some m ∧ m.1 = c.1 ∧ m.2.1 = l ∧ stp m c x = some c' := by
      intro h' acc' f k mr' g' hac
      obtain ⟨h'', acc'', e, f2, k2, g2, q2⟩ := goOt_in d hv hD hu hl hx hc n (i + 1) h' acc' (by omega) (p.mf f) mr' g'
      refine ⟨h'', acc'', ?_, f.tr f2, fun D' hD' => (k2 D' hD').trans (k D' hD'), g2, fun c' => ?_⟩
      · rw [E_M_goOther_7, lt_e, nadd1]; exact e
      · rw [q2 c', hac c']
        constructor
        · rintro ((h | h) | ⟨t, m, h1, h2⟩)
          · exact Or.inl h
          · exact Or.inr ⟨i, _, Nat.le_refl _, hm, h⟩
          · exact Or.inr ⟨t, m, by omega, h2⟩
        · rintro (h | ⟨t, m, h1, h2, h3⟩)
          · exact Or.inl (Or.inl h)
          · by_cases z : t = i
            · subst z
              rw [hm] at h2
              cases h2
              exact Or.inl (Or.inr h3)
            · exact Or.inr ⟨t, m, by omega, h2, h3⟩
    by_cases b : canB r.2.2.2[i] c l x = true
    · have b' := b
      unfold canB at b'
      rw [Bool.and_eq_true, Bool.and_eq_true, beq_iff_eq, beq_iff_eq] at b'
      have st : stp r.2.2.2[i] c x = some (goC r.2.2.2[i] c x) := by unfold stp; rw [if_pos b'.2.2]
      have g12 := goC_7 hmv hc hx
      have hlt2 := eM_lt g12.m
      rw [if_pos b, E_M_goOther_5, obj_e (z94 p.1), calI_e (M_behind d p (by omega) hrow hmv hc.m (by omega)), lt_e]
      simp (disch := omega) only [obj_e (z94 p.1), m28 p, idx_n (z116 p.1), g.2.2.1]
      by_cases y : goC r.2.2.2[i] c x ∈ acc
      · rw [if_pos ((g.2.2.2.2.1 _ g12.m).mpr y)]
        refine skip h acc (mfr.rf _ h) (fun _ _ => rfl) mr g (fun c' => ⟨Or.inl, ?_⟩)
        rintro (h | ⟨h1, h2, h3⟩)
        · exact h
        · rw [st] at h3; cases h3; exact y
      · rw [if_neg (fun z => y ((g.2.2.2.2.1 _ g12.m).mp z)), E_M_goOther_6]
        have e4 : zI 4100 * (zI (D : Int) + zI 1) + zI (acc.length : Int) = zI ((4100 * (D + 1) + acc.length : Nat) : Int) := by rw [zI_add, zI_mul, zI_add]; rfl
        rw [e4]
        simp (disch := omega) only [obj_e (z94 p.1), m28 p, idx_n (z116 p.1), g.2.2.1, lt_e, obj_sI, hR_sI, m48 p, idx_sI, idx_n (z132 p.1), nadd1]
        have f1 : mfr (fO D) h (sI (sI h 116 (eM (goC r.2.2.2[i] c x)) (zI u)) 132 (4100 * (D + 1) + acc.length) (zI (eM (goC r.2.2.2[i] c x)))) := (mfr_sI h (by unfold fO; omega) _).tr (mfr_sI _ (by unfold fO; omega) _)
        have := skip _ (acc ++ [goC r.2.2.2[i] c x]) f1 (fun D' hD' => by rw [hI_off (by omega), hI_off (by omega)]) (mr.mv f1 (by intro a t; unfold fO; omega)) (by
          obtain ⟨g1, g2, g3, g4, g5, g6⟩ := g
          refine ⟨?_, ?_, ?_, ?_, ?_, ?_⟩
          · rw [List.nodup_append]
            refine ⟨g1, by simp, ?_⟩
            intro a ha b hb e
            rw [List.mem_singleton] at hb
            exact y (by rw [← hb, ← e]; exact ha)
          · intro c' hc'
            rcases List.mem_append.mp hc' with z | z
            · exact g2 c' z
            · rw [List.mem_singleton.mp z]; exact g12
          · rw [hI_off (by omega), hI_off (by omega)]; exact g3
          · intro t ht
            rw [hI_off (by omega)]
            by_cases z : t = eM (goC r.2.2.2[i] c x)
            · rw [z]; exact ⟨u, Nat.le_refl _, hI_hit _ _ _ _⟩
            · rw [hI_off (by omega)]; exact g4 t ht
          · intro c' hc'
            rw [hI_off (by omega)]
            by_cases z : c' = goC r.2.2.2[i] c x
            · subst z; rw [hI_hit]; simp
            · rw [hI_off (Or.inr fun e => z (eM_inj hc' g12.m e)), g5 c' hc']
              simp [z]
          · intro t c' ht
            have h1 := (List.getElem?_eq_some_iff.mp ht).1
            rw [List.length_append] at h1
            simp at h1
            by_cases z : t < acc.length
            · rw [List.getElem?_append_left z] at ht
              rw [hI_off (by omega), hI_off (by omega)]
              exact g6 t c' ht
            · have : t = acc.length := by omega
              subst this
              simp at ht
              rw [hI_hit, ht]) (by
          intro c'
          rw [List.mem_append, List.mem_singleton]
          constructor
          · rintro (h | h)
            · exact Or.inl h
            · exact Or.inr ⟨b'.1, b'.2.1, by rw [st, h]⟩
          · rintro (h | ⟨h1, h2, h3⟩)
            · exact Or.inl h
            · rw [st] at h3; cases h3; exact Or.inr rfl)
        rw [List.length_append] at this
        exact this
    · rw [if_neg b]
      refine skip h acc (mfr.rf _ h) (fun _ _ => rfl) mr g (fun c' => ⟨Or.inl, ?_⟩)
      rintro (h | ⟨h1, h2, h3⟩)
      · exact h
      · exfalso
        apply b
        unfold canB
        rw [h1, h2]
        unfold stp at h3
        split at h3
        · rename_i q; rw [q]; simp
        · cases h3
theorem goOt_lp (d : Nat) {D u l x : Nat} {r : Rdr} {cs : List Cfg} (hv : RV r) (hD : D < 5) (hu : u < 2147483000) (hl : l < 3) (hx : x ≤ 6) : ∀ (n i : Nat) (h : AH) (acc : List Cfg), i + n = cs.length → MS h → MR h 1 r → MO h D cs → GSO h D u acc →
    ∃ h' acc', Rk B_M_goOther L_M_goOther (Cc (d + 2)) 1 [aR (some 94), aI (zI D), aI (zI l), aI (zI x), aI (zI acc.length), aI (zI i), aU, aU, aU] [] h = Rk B_M_goOther L_M_goOther (Cc (d + 2)) 9 [aR (some 94), aI (zI D), aU, aU, aI (zI acc'.length), aU, aU, aU, aU] [] h' ∧ mfr (fO D) h h' ∧ GSO h' D u acc' ∧ ∀ c', c' ∈ acc' ↔ c' ∈ acc ∨ ∃ (t : Nat) (c : Cfg), i ≤ t ∧ cs[t]? = some c ∧ stq r c l x c'
  | 0, i, h, acc, hn, p, mr, ml, g => by
    have hL := c7_len ml.1 ml.2.1
    refine ⟨h, acc, ?_, mfr.rf _ h, g, fun c' => ⟨Or.inl, ?_⟩⟩
    · rw [E_M_goOther_1]
      simp (disch := omega) only [obj_e (z94 p.1), m49 p, idx_n (z133 p.1), ml.2.2.1, nlt]
      rw [if_neg (by omega)]
    · rintro (h | ⟨t, c, h1, h2, -⟩)
      · exact h
      · have := (List.getElem?_eq_some_iff.mp h2).1; omega
  | n + 1, i, h, acc, hn, p, mr, ml, g => by
    have hL := c7_len ml.1 ml.2.1
    have hc : cs[i]? = some cs[i] := List.getElem?_eq_getElem (by omega)
    have h12 := ml.2.1 cs[i] (List.getElem_mem (by omega))
    obtain ⟨h1, acc1, e1, f1, k1, g1, q1⟩ := goOt_in d (x6 := zI i) hv hD hu hl hx h12 r.2.2.2.length 0 h acc (by omega) p mr g
    have ml1 : MO h1 D cs := ml.mv f1 (by unfold fO; omega) (by intro i hi; unfold fO; omega)
    have mr1 := mr.mv f1 (by intro a t; unfold fO; omega)
    obtain ⟨h2, acc2, e2, f2, g2, q2⟩ := goOt_lp d hv hD hu hl hx n (i + 1) h1 acc1 (by omega) (p.mf f1) mr1 ml1 g1
    refine ⟨h2, acc2, ?_, f1.tr f2, g2, fun c' => ?_⟩
    · rw [E_M_goOther_1]
      simp (disch := omega) only [obj_e (z94 p.1), m49 p, idx_n (z133 p.1), ml.2.2.1, nlt]
      rw [if_pos (by omega), E_M_goOther_2, show zI 4100 * zI (D : Int) + zI (i : Int) = zI ((4100 * D + i : Nat) : Int) from by rw [zI_mul, zI_add]; rfl, show zI 20 = zI ((20 * 1 + 0 : Nat) : Int) from rfl]
      simp (disch := omega) only [obj_e (z94 p.1), m48 p, idx_n (z132 p.1), ml.2.2.2 i _ hc, lt_e]
      rw [e1, E_M_goOther_8, lt_e, nadd1]
      exact e2
    · rw [q2 c', q1 c']
      constructor
      · rintro ((h | ⟨t, m, h1, h2, h3, h4, h5⟩) | ⟨t, c, h1, h2⟩)
        · exact Or.inl h
        · exact Or.inr ⟨i, _, Nat.le_refl _, hc, t, m, h2, h3, h4, h5⟩
        · exact Or.inr ⟨t, c, by omega, h2⟩
      · rintro (h | ⟨t, c, h1, h2, h3⟩)
        · exact Or.inl (Or.inl h)
        · by_cases z : t = i
          · subst z
            rw [hc] at h2
            cases h2
            obtain ⟨t', m, k1, k2, k3, k4⟩ := h3
            exact Or.inl (Or.inr ⟨t', m, Nat.zero_le _, k1, k2, k3, k4⟩)
          · exact Or.inr ⟨t, c, by omega, h2, h3⟩
theorem M_goOther (d : Nat) {h : AH} {D u l x : Nat} {r : Rdr} {cs : List Cfg} (hv : RV r) (hD : D < 5) (hu : u + 1 < 2147483000) (hl : l < 3) (hx : x ≤ 6) (p : MS h) (mr : MR h 1 r) (ml : MO h D cs) (mu : MU h u) :
    ∃ h' cs', Cc (d + 3) k_M_goOther [aR (some 94), aI (zI D), aI (zI l), aI (zI x)] h = some (none, h') ∧ mfr (fO D) h h' ∧ MO h' (D + 1) cs' ∧ MU h' (u + 1) ∧ ∀ c', c' ∈ cs' ↔ ∃ c, c ∈ cs ∧ stq r c l x c' := by
  have f0 : mfr (fO D) h (sI h 94 29 (zI ((u + 1 : Nat) : Int))) := mfr_sI h (by unfold fO; omega) _
  obtain ⟨h1, acc, e1, f1, g1, q1⟩ := goOt_lp d (u := u + 1) hv hD hu hl hx cs.length 0 (sI h 94 29 (zI ((u + 1 : Nat) : Int))) [] (by omega) (p.mf f0) (mr.mv f0 (by intro a t; unfold fO; omega)) (ml.mv f0 (by unfold fO; omega) (by intro i hi; unfold fO; omega)) (by
    refine ⟨by simp, by simp, hI_hit _ _ _ _, ?_, ?_, by intro i c hc; simp at hc⟩
    · intro t ht
      obtain ⟨s, h1, h2⟩ := mu.2.2 t ht
      exact ⟨s, by omega, by rw [hI_off (by omega)]; exact h2⟩
    · intro c hc
      obtain ⟨s, h1, h2⟩ := mu.2.2 (eM c) (eM_lt hc)
      rw [hI_off (by omega), h2, neq (by omega) (by omega)]
      constructor
      · intro e; omega
      · intro e; simp at e)
  obtain ⟨g1', g2, g3, g4, g5, g6⟩ := g1
  have hal := c7_len g1' g2
  have p1 := (p.mf f0).mf f1
  have f2 : mfr (fO D) h1 (sI h1 133 (D + 1) (zI acc.length)) := mfr_sI h1 (by unfold fO; omega) _
  refine ⟨sI h1 133 (D + 1) (zI acc.length), acc, ?_, (f0.tr f1).tr f2, ⟨g1', g2, hI_hit _ _ _ _, ?_⟩, ⟨hu, by rw [hI_off (by omega)]; exact g3, ?_⟩, ?_⟩
  · rw [C_M_goOther, E_M_goOther_0]
    simp only [obj_e (z94 p.1), mu.2.1, nadd1, mb_some, lt_e]
    refine Eq.trans e1 ?_
    rw [E_M_goOther_9]
    simp (disch := omega) only [obj_e (z94 p1.1), m49 p1, nadd1, idx_n (z133 p1.1), lt_e]
  · intro i c hc; rw [hI_off (by omega)]; exact g6 i c hc
  · intro t ht; rw [hI_off (by omega)]; exact g4 t ht
  · intro c'
    rw [q1 c']
    constructor
    · rintro (h | ⟨t, c, h1, h2, h3⟩)
      · simp at h
      · exact ⟨c, List.mem_of_getElem? h2, h3⟩
    · rintro ⟨c, h1, h2⟩
      obtain ⟨t, ht, e⟩ := List.getElem_of_mem h1
      exact Or.inr ⟨t, c, Nat.zero_le _, by rw [List.getElem?_eq_getElem ht, e], h2⟩
theorem M_takesOther (d : Nat) {h : AH} {D : Nat} {r : Rdr} {cs : List Cfg} (hv : RV r) (hD : D ≤ 5) (p : MS h) (mr : MR h 1 r) (ml : MO h D cs) : Cc (d + 2) k_M_takesOther [aR (some 94), aI (zI D)] h = some (some (aI (zI (if cs.any (fun c => tks r c.1) then 1 else 0))), h) := by
  have hL := c7_len ml.1 ml.2.1
  have lp : ∀ (n i : Nat) (b : Bool), i + n = cs.length → Rk B_M_takesOther L_M_takesOther (Cc (d + 1)) 1 [aR (some 94), aI (zI D), aI (zI (if b then 1 else 0)), aI (zI i)] [] h = some (some (aI (zI (if b || (cs.drop i).any (fun c => tks r c.1) then 1 else 0))), h) := by
    intro n
    induction n with
    | zero =>
      intro i b hi
      rw [E_M_takesOther_1]
      simp (disch := omega) only [obj_e (z94 p.1), m49 p, idx_n (z133 p.1), ml.2.2.1, nlt]
      rw [if_neg (by omega), E_M_takesOther_7, b01, List.drop_eq_nil_of_le (by omega)]
      simp
    | succ n ih =>
      intro i b hi
      have hc : cs[i]? = some cs[i] := List.getElem?_eq_getElem (by omega)
      have h12 := ml.2.1 cs[i] (List.getElem_mem (by omega))
      have hlt := eM_lt h12.m
      rw [E_M_takesOther_1]
      simp (disch := omega) only [obj_e (z94 p.1), m49 p, idx_n (z133 p.1), ml.2.2.1, nlt]
      rw [if_pos (by omega), E_M_takesOther_2, if01, List.drop_eq_getElem_cons (by omega), List.any_cons]
      cases b with
      | true =>
        have := ih (i + 1) true (by omega)
        rw [if_pos rfl, E_M_takesOther_4, E_M_takesOther_6, lt_e, lt_e, nadd1]
        simp only [Bool.true_or] at this ⊢
        exact this
      | false =>
        rw [if_neg (by simp), E_M_takesOther_3, zc1, show zI 4100 * zI (D : Int) + zI (i : Int) = zI ((4100 * D + i : Nat) : Int) from by rw [zI_mul, zI_add]; rfl]
        simp (disch := omega) only [obj_e (z94 p.1), m48 p, idx_n (z132 p.1), ml.2.2.2 i _ hc]
        rw [calI_e (M_isTaken d p (j := 1) (by omega) mr hv (by omega)), if01, eM_q h12.m]
        cases y : tks r cs[i].1 with
        | true =>
          have := ih (i + 1) true (by omega)
          rw [if_pos rfl, E_M_takesOther_4, E_M_takesOther_6, lt_e, lt_e, nadd1]
          simp only [Bool.true_or, Bool.or_true] at this ⊢
          exact this
        | false =>
          have := ih (i + 1) false (by omega)
          rw [if_neg (by simp), E_M_takesOther_5, E_M_takesOther_6, lt_e, lt_e, nadd1]
          simp only [Bool.false_or] at this ⊢
          exact this
  rw [C_M_takesOther, E_M_takesOther_0, lt_e, lt_e]
  have := lp cs.length 0 false (by omega)
  simp only [Bool.false_or, List.drop_zero] at this
  exact this
