/-! the model: goOn over the list, goAll, taken, may -/
theorem goOn_lp (d : Nat) {j D u l x : Nat} {r : Rdr} {cs : List Cfg} (hv : RV r) (hj : j < 2) (hD : D < 12) (hu : u < 2147483000) (hl : l < 3) (hx : x ≤ 12) : ∀ (n i : Nat) (h : AH) (acc : List Cfg), i + n = cs.length → MS h → MR h j r → ML h D cs → GST h D u acc →
    ∃ h' acc', Rk B_M_goOn L_M_goOn (Cc (d + 2)) 1 [aR (some 94), aI (zI j), aI (zI D), aI (zI l), aI (zI x), aI (zI acc.length), aI (zI i), aU, aU, aU] [] h = Rk B_M_goOn L_M_goOn (Cc (d + 2)) 9 [aR (some 94), aU, aI (zI D), aU, aU, aI (zI acc'.length), aU, aU, aU, aU] [] h' ∧ mfr (fG D) h h' ∧ GST h' D u acc' ∧ ∀ c', c' ∈ acc' ↔ c' ∈ acc ∨ ∃ (t : Nat) (c : Cfg), i ≤ t ∧ cs[t]? = some c ∧ stq r c l x c'
  | 0, i, h, acc, hn, p, mr, ml, g => by
    have hL := c12_len ml.1 ml.2.1
    refine ⟨h, acc, ?_, mfr.rf _ h, g, fun c' => ⟨Or.inl, ?_⟩⟩
    · rw [E_M_goOn_1]
      simp (disch := omega) only [obj_e (z94 p.1), m27 p, idx_n (z115 p.1), ml.2.2.1, nlt]
      rw [if_neg (by omega)]
    · rintro (h | ⟨t, c, h1, h2, -⟩)
      · exact h
      · have := (List.getElem?_eq_some_iff.mp h2).1; omega
  | n + 1, i, h, acc, hn, p, mr, ml, g => by
    have hL := c12_len ml.1 ml.2.1
    have hc : cs[i]? = some cs[i] := List.getElem?_eq_getElem (by omega)
    have h12 := ml.2.1 cs[i] (List.getElem_mem (by omega))
    obtain ⟨h1, acc1, e1, f1, k1, g1, q1⟩ := goOn_in d (x6 := zI i) hv hj hD hu hl hx h12 r.2.2.2.length 0 h acc (by omega) p mr g
    have ml1 : ML h1 D cs := ml.mv f1 (by unfold fG; omega) (by intro i hi; unfold fG; omega)
    have mr1 := mr.mv f1 (by intro a t; unfold fG; omega)
    obtain ⟨h2, acc2, e2, f2, g2, q2⟩ := goOn_lp d hv hj hD hu hl hx n (i + 1) h1 acc1 (by omega) (p.mf f1) mr1 ml1 g1
    refine ⟨h2, acc2, ?_, f1.tr f2, g2, fun c' => ?_⟩
    · rw [E_M_goOn_1]
      simp (disch := omega) only [obj_e (z94 p.1), m27 p, idx_n (z115 p.1), ml.2.2.1, nlt]
      rw [if_pos (by omega), E_M_goOn_2, show zI 24600 * zI (D : Int) + zI (i : Int) = zI ((24600 * D + i : Nat) : Int) from by rw [zI_mul, zI_add]; rfl, show zI 20 * zI (j : Int) = zI ((20 * j + 0 : Nat) : Int) from by rw [zI_mul]; rfl]
      simp (disch := omega) only [obj_e (z94 p.1), m26 p, idx_n (z114 p.1), ml.2.2.2 i _ hc, lt_e]
      rw [e1, E_M_goOn_8, lt_e, nadd1]
      exact e2
    · rw [q2 c', q1 c']
      constructor
      · rintro ((h | ⟨t, m, h1, h2, h3, h4, h5⟩) | ⟨t, c, h1, h2⟩)
        · exact Or.inl h
        · exact Or.inr ⟨i, _, Nat.le_refl _, hc, t, m, h2, h3, h4, h5⟩
        · exact Or.inr ⟨t, c, by omega, h2⟩
      · rintro (h | ⟨t, c, h1, h2, h3⟩)
        · exact Or.inl (Or.inl h)
        · by_cases z : t = i
          · subst z
            rw [hc] at h2
            cases h2
            obtain ⟨t', m, k1, k2, k3, k4⟩ := h3
            exact Or.inl (Or.inr ⟨t', m, Nat.zero_le _, k1, k2, k3, k4⟩)
          · exact Or.inr ⟨t, c, by omega, h2, h3⟩
theorem M_goOn (d : Nat) {h : AH} {j D u l x : Nat} {r : Rdr} {cs : List Cfg} (hv : RV r) (hj : j < 2) (hD : D < 12) (hu : u + 1 < 2147483000) (hl : l < 3) (hx : x ≤ 12) (p : MS h) (mr : MR h j r) (ml : ML h D cs) (mu : MU h u) :
    ∃ h' cs', Cc (d + 3) k_M_goOn [aR (some 94), aI (zI j), aI (zI D), aI (zI l), aI (zI x)] h = some (none, h') ∧ mfr (fG D) h h' ∧ ML h' (D + 1) cs' ∧ MU h' (u + 1) ∧ ∀ c', c' ∈ cs' ↔ ∃ c, c ∈ cs ∧ stq r c l x c' := by
  have f0 : mfr (fG D) h (sI h 94 29 (zI ((u + 1 : Nat) : Int))) := mfr_sI h (by unfold fG; omega) _
  obtain ⟨h1, acc, e1, f1, g1, q1⟩ := goOn_lp d (u := u + 1) hv hj hD hu hl hx cs.length 0 (sI h 94 29 (zI ((u + 1 : Nat) : Int))) [] (by omega) (p.mf f0) (mr.mv f0 (by intro a t; unfold fG; omega)) (ml.mv f0 (by unfold fG; omega) (by intro i hi; unfold fG; omega)) (by
    refine ⟨by simp, by simp, hI_hit _ _ _ _, ?_, ?_, by intro i c hc; simp at hc⟩
    · intro t ht
      obtain ⟨s, h1, h2⟩ := mu.2.2 t ht
      exact ⟨s, by omega, by rw [hI_off (by omega)]; exact h2⟩
    · intro c hc
      obtain ⟨s, h1, h2⟩ := mu.2.2 (eM c) (eM_lt hc)
      rw [hI_off (by omega), h2, neq (by omega) (by omega)]
      constructor
      · intro e; omega
      · intro e; simp at e)
  obtain ⟨g1', g2, g3, g4, g5, g6⟩ := g1
  have hal := c12_len g1' g2
  have p1 := (p.mf f0).mf f1
  have f2 : mfr (fG D) h1 (sI h1 115 (D + 1) (zI acc.length)) := mfr_sI h1 (by unfold fG; omega) _
  refine ⟨sI h1 115 (D + 1) (zI acc.length), acc, ?_, (f0.tr f1).tr f2, ⟨g1', g2, hI_hit _ _ _ _, ?_⟩, ⟨hu, by rw [hI_off (by omega)]; exact g3, ?_⟩, ?_⟩
  · rw [C_M_goOn, E_M_goOn_0]
    simp only [obj_e (z94 p.1), mu.2.1, nadd1, mb_some, lt_e]
    refine Eq.trans e1 ?_
    rw [E_M_goOn_9]
    simp (disch := omega) only [obj_e (z94 p1.1), m27 p1, nadd1, idx_n (z115 p1.1), lt_e]
  · intro i c hc; rw [hI_off (by omega)]; exact g6 i c hc
  · intro t ht; rw [hI_off (by omega)]; exact g4 t ht
  · intro c'
    rw [q1 c']
    constructor
    · rintro (h | ⟨t, c, h1, h2, h3⟩)
      · simp at h
      · exact ⟨c, List.mem_of_getElem? h2, h3⟩
    · rintro ⟨c, h1, h2⟩
      obtain ⟨t, ht, e⟩ := List.getElem_of_mem h1
      exact Or.inr ⟨t, c, Nat.zero_le _, by rw [List.getElem?_eq_getElem ht, e], h2⟩
theorem M_beginList (d : Nat) {h : AH} (p : MS h) : ∃ h', Cc (d + 1) k_M_beginList [aR (some 94)] h = some (none, h') ∧ mfr (fun a t => (a = 114 ∧ t = 0) ∨ (a = 115 ∧ t = 0)) h h' ∧ ML h' 0 [c0] := by
  refine ⟨sI (sI h 114 0 (zI 0)) 115 0 (zI 1), ?_, (mfr_sI h (by omega) _).tr (mfr_sI _ (by omega) _), by simp, ?_, by rw [hI_hit]; rfl, ?_⟩
  · rw [C_M_beginList, E_M_beginList_0, zc0]
    simp (disch := omega) only [obj_e (z94 p.1), m26 p, idx_n (z114 p.1), lt_e, obj_sI, hR_sI, m27 p, idx_sI, idx_n (z115 p.1)]
  · intro c hc; rw [List.mem_singleton.mp hc]; exact ⟨by decide, by decide, by decide, by decide⟩
  · intro i c hc
    have := (List.getElem?_eq_some_iff.mp hc).1
    have : i = 0 := by simp at this; omega
    subst this
    simp at hc
    rw [hI_off (by omega), ← hc]
    exact hI_hit _ _ _ _
/-- some configuration of a list takes -/
theorem M_takesList (d : Nat) {h : AH} {j D : Nat} {r : Rdr} {cs : List Cfg} (hv : RV r) (hj : j < 2) (hD : D ≤ 12) (p : MS h) (mr : MR h j r) (ml : ML h D cs) : Cc (d + 2) k_M_takesList [aR (some 94), aI (zI j), aI (zI D)] h = some (some (aI (zI (if cs.any (fun c => tks r c.1) then 1 else 0))), h) := by
  have hL := c12_len ml.1 ml.2.1
  have lp : ∀ (n i : Nat) (b : Bool), i + n = cs.length → Rk B_M_takesList L_M_takesList (Cc (d + 1)) 1 [aR (some 94), aI (zI j), aI (zI D), aI (zI (if b then 1 else 0)), aI (zI i)] [] h = some (some (aI (zI (if b || (cs.drop i).any (fun c => tks r c.1) then 1 else 0))), h) := by
    intro n
    induction n with
    | zero =>
      intro i b hi
      rw [E_M_takesList_1]
      simp (disch := omega) only [obj_e (z94 p.1), m27 p, idx_n (z115 p.1), ml.2.2.1, nlt]
      rw [if_neg (by omega), E_M_takesList_7, b01, List.drop_eq_nil_of_le (by omega)]
      simp
    | succ n ih =>
      intro i b hi
      have hc : cs[i]? = some cs[i] := List.getElem?_eq_getElem (by omega)
      have h12 := ml.2.1 cs[i] (List.getElem_mem (by omega))
      have hlt := eM_lt h12.m
      rw [E_M_takesList_1]
      simp (disch := omega) only [obj_e (z94 p.1), m27 p, idx_n (z115 p.1), ml.2.2.1, nlt]
      rw [if_pos (by omega), E_M_takesList_2, if01, List.drop_eq_getElem_cons (by omega), List.any_cons]
      cases b with
      | true =>
        have := ih (i + 1) true (by omega)
        rw [if_pos rfl, E_M_takesList_4, E_M_takesList_6, lt_e, lt_e, nadd1]
        simp only [Bool.true_or] at this ⊢
        exact this
      | false =>
        rw [if_neg (by simp), E_M_takesList_3, show zI 24600 * zI (D : Int) + zI (i : Int) = zI ((24600 * D + i : Nat) : Int) from by rw [zI_mul, zI_add]; rfl]
        simp (disch := omega) only [obj_e (z94 p.1), m26 p, idx_n (z114 p.1), ml.2.2.2 i _ hc]
        rw [calI_e (M_isTaken d p hj mr hv (by omega)), if01, eM_q h12.m]
        cases y : tks r cs[i].1 with
        | true =>
          have := ih (i + 1) true (by omega)
          rw [if_pos rfl, E_M_takesList_4, E_M_takesList_6, lt_e, lt_e, nadd1]
          simp only [Bool.true_or, Bool.or_true] at this ⊢
          exact this
        | false =>
          have := ih (i + 1) false (by omega)
          rw [if_neg (by simp), E_M_takesList_5, E_M_takesList_6, lt_e, lt_e, nadd1]
          simp only [Bool.false_or] at this ⊢
          exact this
  rw [C_M_takesList, E_M_takesList_0, lt_e, lt_e]
  have := lp cs.length 0 false (by omega)
  simp only [Bool.false_or, List.drop_zero] at this
  exact this
/-- the lists of all depths of the row -/
def MLS (h : AH) (r : Rdr) (w : Rw) (k : Nat) : Prop := ∀ D, D ≤ k → ∃ cs, ML h D cs ∧ ∀ c, c ∈ cs ↔ rq r (prs w D) c
def fL (a j : Nat) : Prop := (a = 94 ∧ (j = 24 ∨ j = 29)) ∨ a = 112 ∨ a = 113 ∨ a = 114 ∨ a = 115 ∨ a = 116
theorem goAll_lp (d : Nat) {j : Nat} {r : Rdr} {w : Rw} (hv : RV r) (hj : j < 2) (hw : WV w) (hg : gaps w = 0) : ∀ (n i u : Nat) (h : AH), i + n = w.length → u + n < 2147482000 → MS h → MR h j r → MW h w → IDS h w → MLS h r w i → MU h u →
    ∃ h', Rk B_M_goAll L_M_goAll (Cc (d + 3)) 1 [aR (some 94), aI (zI j), aI (zI i)] [] h = some (none, h') ∧ mfr (fun a j => (a = 94 ∧ j = 29) ∨ a = 114 ∨ a = 115 ∨ a = 116) h h' ∧ MLS h' r w w.length ∧ MU h' (u + n)
  | 0, i, u, h, hn, hu, p, mr, mw, ids, ml, mu => by
    have hl := hw.1
    have : i = w.length := by omega
    subst this
    refine ⟨h, ?_, mfr.rf _ h, ml, mu⟩
    rw [E_M_goAll_1, obj_e (z94 p.1), mw.1]
    simp (disch := omega) only [nlt]
    rw [if_neg (by omega), E_M_goAll_3]
  | n + 1, i, u, h, hn, hu, p, mr, mw, ids, ml, mu => by
    have hl := hw.1
    have hp : w[i]? = some w[i] := List.getElem?_eq_getElem (by omega)
    obtain ⟨v0, v00, v1, v2, v3, v4⟩ := hw.at hp
    obtain ⟨n1, n2⟩ := nogap hg hp
    obtain ⟨cs, mlc, hcs⟩ := ml i (Nat.le_refl _)
    have hid : idn w w[i].2 ≤ 12 := by have := idn_le w w[i].2; have := tn_len w; omega
    obtain ⟨l, hl2⟩ : ∃ l : Nat, w[i].1 = l := ⟨w[i].1.toNat, by omega⟩
    obtain ⟨h1, cs1, e1, f1, ml1, mu1, q1⟩ := M_goOn d (l := l) (x := idn w w[i].2) hv hj (by omega : i < 12) (by omega) (by omega) hid p mr mlc mu
    have f1' : mfr (fun a j => (a = 94 ∧ j = 29) ∨ a = 114 ∨ a = 115 ∨ a = 116) h h1 := f1.mo (by intro a t; unfold fG; omega)
    have mls1 : MLS h1 r w (i + 1) := by
      intro D hD
      by_cases z : D = i + 1
      · subst z
        refine ⟨cs1, ml1, fun c => ?_⟩
        rw [q1 c, prs_s hp, hl2]
        constructor
        · rintro ⟨c', k1, k2⟩; exact ⟨c', (hcs c').mp k1, k2⟩
        · rintro ⟨c', k1, k2⟩; exact ⟨c', (hcs c').mpr k1, k2⟩
      · obtain ⟨cs', a1, a2⟩ := ml D (by omega)
        exact ⟨cs', a1.mv f1 (by unfold fG; omega) (by intro t ht; unfold fG; omega), a2⟩
    have ids1 : IDS h1 w := fun t q hq => by rw [f1.I (by unfold fG; omega)]; exact ids t q hq
    obtain ⟨h2, e2, f2, ml2, mu2⟩ := goAll_lp d hv hj hw hg n (i + 1) (u + 1) h1 (by omega) (by omega) (p.mf f1) (mr.mv f1 (by intro a t; unfold fG; omega)) (mw.mv f1 (by unfold fG; omega) (by intro t; unfold fG; omega) (by intro t; unfold fG; omega)) ids1 mls1 mu1
    refine ⟨h2, ?_, f1'.tr f2, ml2, by rw [show u + (n + 1) = u + 1 + n by omega]; exact mu2⟩
    rw [E_M_goAll_1, obj_e (z94 p.1), mw.1]
    simp (disch := omega) only [nlt]
    rw [if_pos (by omega), E_M_goAll_2]
    simp (disch := omega) only [obj_e (z94 p.1), m17 p, m25 p, idx_n (z110 p.1), idx_n (z113 p.1)]
    rw [(mw.2 i _ hp).1, ids i _ hp, hl2, calV_e e1, lt_e, nadd1]
    exact e2
theorem M_goAll (d : Nat) {k : Nat} {s : Stt} {h : AH} {x : Int} (a1 : x = 0 ∨ x = 1) (hk : k < 512) (v : VS s) (p : MI k s h) (hg : gaps s.2.2.2 = 0) : ∃ h' u, Cc (d + 4) k_M_goAll [aR (some 94), aI (zI x)] h = some (none, h') ∧ mfr fL h h' ∧ MLS h' (rdr s x) s.2.2.2 s.2.2.2.length ∧ TN h' (tn s.2.2.2) ∧ IDS h' s.2.2.2 ∧ u ≤ 4000000 * k + 12 ∧ MU h' u ∧ MI (k + 1) s h' := by
  have hl := v.2.2.2.1
  obtain ⟨h1, e1, f1, t1, i1, p1⟩ := M_layNames (d + 1) v p
  obtain ⟨h2, e2, f2, ml2⟩ := M_beginList (d + 2) p1.1
  have p2 := p1.mv f2 (by intro a j hh; unfold scr; omega)
  obtain ⟨u, hu, mu⟩ := MK_u p2.2.2.2.2.2 (by omega)
  obtain ⟨j, rfl⟩ : ∃ j : Nat, x = j := ⟨x.toNat, by omega⟩
  have mr := p2.mr a1
  rw [Int.toNat_natCast] at mr
  obtain ⟨h3, e3, f3, ml3, mu3⟩ := goAll_lp d (v.rv j) (by omega : j < 2) v.2.2.2 hg s.2.2.2.length 0 u h2 (by omega) (by omega) p2.1 mr p2.2.2.2.2.1 (fun t q hq => by rw [f2.I (by omega)]; exact i1 t q hq) (by
    intro D hD
    have : D = 0 := by omega
    subst this
    refine ⟨[c0], ml2, fun c => ?_⟩
    rw [List.mem_singleton]; rfl) mu
  have f23 : mfr fL h h3 := ((f1.mo (by intro a j; unfold fL; omega)).tr (f2.mo (by intro a j; unfold fL; omega))).tr (f3.mo (by intro a j; unfold fL; omega))
  refine ⟨h3, u + s.2.2.2.length, ?_, f23, ml3, ?_, ?_, by omega, mu3, ?_⟩
  · rw [C_M_goAll, E_M_goAll_0, obj_e (z94 p.1.1), calV_e e1, obj_e (z94 p1.1.1), calV_e e2, lt_e]
    exact e3
  · refine ⟨?_, ?_⟩
    · rw [f3.I (by omega), f2.I (by omega)]; exact t1.1
    · intro i n hn; rw [f3.I (by omega), f2.I (by omega)]; exact t1.2 i n hn
  · intro t q hq; rw [f3.I (by omega), f2.I (by omega)]; exact i1 t q hq
  · exact ⟨p2.1.mf f3, p2.2.1.mv f3 (by omega), p2.2.2.1.mv f3 (by omega), p2.2.2.2.1.mv f3 (by omega) (by omega), p2.2.2.2.2.1.mv f3 (by omega) (by omega) (by omega), mu3.k (by omega)⟩
theorem any_tkn {r : Rdr} {u : List (Nat × Nat)} {cs : List Cfg} (h : ∀ c, c ∈ cs ↔ rq r u c) : cs.any (fun c => tks r c.1) = tkn r u := by
  unfold tkn
  rw [Bool.eq_iff_iff, List.any_eq_true, bl_t]
  constructor
  · rintro ⟨c, h1, h2⟩; exact ⟨c, (h c).mp h1, h2⟩
  · rintro ⟨c, h1, h2⟩; exact ⟨c, (h c).mpr h1, h2⟩
theorem M_taken {x : Int} (x1 : -2147483648 ≤ x) (x2 : x < 2147483648) : MOK k_M_taken [aI (zI x)] (fun s => if x = 0 ∨ x = 1 then (if gaps s.2.2.2 = 0 then (if tkn (rdr s x) (prs s.2.2.2 s.2.2.2.length) then 1 else 0) else -4) else -2) id := by
  intro s k h hk v p
  have hg := gaps_le v.2.2.2 s.2.2.2.length
  rw [List.take_length] at hg
  have hl := v.2.2.2.1
  rw [C_M_taken, E_M_taken_0, calI_e (M_isReader _ h x1 x2), if01]
  by_cases a1 : x = 0 ∨ x = 1
  · simp only [if_pos a1]
    rw [E_M_taken_2, obj_e (z94 p.1.1), calI_e (M_gapPairs _ v.2.2.2 p.1 p.2.2.2.2.1)]
    simp (disch := omega) only [nle0]
    by_cases a2 : gaps s.2.2.2 = 0
    · simp only [if_pos a2, if_pos ((gaps0 _).mp a2)]
      obtain ⟨h', u, e, f, ml, -, -, -, -, p'⟩ := M_goAll 55 a1 hk v p a2
      refine ⟨h', ?_, f.mo (by intro a j; unfold fL; omega), p'⟩
      obtain ⟨cs, m1, m2⟩ := ml s.2.2.2.length (Nat.le_refl _)
      obtain ⟨j, rfl⟩ : ∃ j : Nat, x = j := ⟨x.toNat, by omega⟩
      have mr := p'.mr a1
      rw [Int.toNat_natCast] at mr
      rw [E_M_taken_4, obj_e (z94 p.1.1), calV_e e, obj_e (z94 p'.1.1), obj_e (z94 p'.1.1), p'.2.2.2.2.1.1, calI_e (M_takesList _ (v.rv j) (by omega : j < 2) (by omega) p'.1 mr m1), if01, any_tkn m2]
      cases tkn (rdr s j) (prs s.2.2.2 s.2.2.2.length)
      · rw [if_neg (by simp), E_M_taken_6, E_M_taken_7]; rfl
      · rw [if_pos rfl, E_M_taken_5, E_M_taken_7]; rfl
    · simp only [if_neg a2, if_neg (fun z => a2 ((gaps0 _).mpr z))]
      exact ⟨h, by rw [E_M_taken_3], mfr.rf _ h, p.up⟩
  · simp only [if_neg a1]
    exact ⟨h, by rw [E_M_taken_1], mfr.rf _ h, p.up⟩
theorem may_lp (d : Nat) {h : AH} {D : Nat} {cs : List Cfg} (hD : D ≤ 12) (p : MS h) (ml : ML h D cs) : ∀ (n i v : Nat), i + n = cs.length → v < 64 → ∃ v' : Nat, Rk B_M_may L_M_may (Cc d) 7 [aR (some 94), aU, aI (zI D), aI (zI v), aI (zI i)] [] h = some (some (aI (zI v')), h) ∧ v' < 64 ∧ ∀ q, v'.testBit q = true ↔ v.testBit q = true ∨ ∃ (t : Nat) (c : Cfg), i ≤ t ∧ cs[t]? = some c ∧ c.1 = q
  | 0, i, v, hn, hv => by
    have hL := c12_len ml.1 ml.2.1
    refine ⟨v, ?_, hv, fun q => ⟨Or.inl, ?_⟩⟩
    · rw [E_M_may_7]
      simp (disch := omega) only [obj_e (z94 p.1), m27 p, idx_n (z115 p.1), ml.2.2.1, nlt]
      rw [if_neg (by omega), E_M_may_9]
    · rintro (h | ⟨t, c, h1, h2, -⟩)
      · exact h
      · have := (List.getElem?_eq_some_iff.mp h2).1; omega
  | n + 1, i, v, hn, hv => by
    have hL := c12_len ml.1 ml.2.1
    have hc : cs[i]? = some cs[i] := List.getElem?_eq_getElem (by omega)
    have h12 := ml.2.1 cs[i] (List.getElem_mem (by omega))
    have hlt := eM_lt h12.m
    have hq := h12.1
    have hp : 2 ^ cs[i].1 < 2 ^ 6 := Nat.pow_lt_pow_right (by omega) (by omega)
    have ho : v ||| 2 ^ cs[i].1 < 2 ^ 6 := Nat.or_lt_two_pow hv hp
    obtain ⟨v', e, h1, h2⟩ := may_lp d hD p ml n (i + 1) (v ||| 2 ^ cs[i].1) (by omega) ho
    refine ⟨v', ?_, h1, fun q => ?_⟩
    · rw [E_M_may_7]
      simp (disch := omega) only [obj_e (z94 p.1), m27 p, idx_n (z115 p.1), ml.2.2.1, nlt]
      rw [if_pos (by omega), E_M_may_8, show zI 24600 * zI (D : Int) + zI (i : Int) = zI ((24600 * D + i : Nat) : Int) from by rw [zI_mul, zI_add]; rfl]
      simp (disch := omega) only [obj_e (z94 p.1), m26 p, idx_n (z114 p.1), ml.2.2.2 i _ hc, rem6, eM_q h12.m, lt_e, nadd1]
      rw [if_neg (by decide), show zI 1 <<< (zI (cs[i].1 : Int) &&& 31) = zI ((1 * 2 ^ cs[i].1 : Nat) : Int) from nshl (n := 1) (by omega), Nat.one_mul, zI_or (by omega) (Nat.lt_of_lt_of_le hp (by decide))]
      exact e
    · rw [h2 q, Nat.testBit_or, Bool.or_eq_true, Nat.testBit_two_pow, decide_eq_true_eq]
      constructor
      · rintro ((h | h) | ⟨t, c, k1, k2, k3⟩)
        · exact Or.inl h
        · exact Or.inr ⟨i, _, Nat.le_refl _, hc, h⟩
        · exact Or.inr ⟨t, c, by omega, k2, k3⟩
      · rintro (h | ⟨t, c, k1, k2, k3⟩)
        · exact Or.inl (Or.inl h)
        · by_cases z : t = i
          · subst z; rw [hc] at k2; cases k2; exact Or.inl (Or.inr k3)
          · exact Or.inr ⟨t, c, by omega, k2, k3⟩
theorem M_may {x k : Int} (x1 : -2147483648 ≤ x) (x2 : x < 2147483648) (k1 : -2147483648 ≤ k) (k2 : k < 2147483648) : MOK k_M_may [aI (zI x), aI (zI k)] (fun s => if x = 0 ∨ x = 1 then (if 0 ≤ k ∧ k ≤ s.2.2.2.length then (if gaps s.2.2.2 = 0 then msk6 (rdr s x) (prs s.2.2.2 k.toNat) else -4) else -3) else -2) id := by
  intro s kk h hk v p
  have hl := v.2.2.2.1
  have hg := gaps_le v.2.2.2 s.2.2.2.length
  rw [List.take_length] at hg
  rw [C_M_may, E_M_may_0, calI_e (M_isReader _ h x1 x2), if01]
  by_cases a1 : x = 0 ∨ x = 1
  · simp only [if_pos a1]
    rw [E_M_may_2, obj_e (z94 p.1.1), p.2.2.2.2.1.1, i2l k1 k2, i2l (by omega) (by omega), calI_e (M_in _ h k1 k2 (by omega) (by omega) (by omega) (by omega)), if01]
    by_cases a3 : 0 ≤ k ∧ k ≤ s.2.2.2.length
    · simp only [if_pos a3]
      rw [E_M_may_4, obj_e (z94 p.1.1), calI_e (M_gapPairs _ v.2.2.2 p.1 p.2.2.2.2.1)]
      simp (disch := omega) only [nle0]
      by_cases a2 : gaps s.2.2.2 = 0
      · simp only [if_pos a2, if_pos ((gaps0 _).mp a2)]
        obtain ⟨h', u, e, f, ml, -, -, -, -, p'⟩ := M_goAll 55 a1 hk v p a2
        refine ⟨h', ?_, f.mo (by intro a j; unfold fL; omega), p'⟩
        obtain ⟨i, rfl⟩ : ∃ i : Nat, k = i := ⟨k.toNat, by omega⟩
        obtain ⟨cs, m1, m2⟩ := ml i (by omega)
        obtain ⟨v', e2, h1, h2⟩ := may_lp 59 (by omega) p'.1 m1 cs.length 0 0 (by omega) (by omega)
        have hv : v' = msk6 (rdr s x) (prs s.2.2.2 i) := mkm_u h1 (fun q hq => by
          rw [Bool.eq_iff_iff, h2 q, bl_t]
          constructor
          · rintro (h | ⟨t, c, k1, k2, k3⟩)
            · simp at h
            · exact ⟨c, (m2 c).mp (List.mem_of_getElem? k2), k3⟩
          · rintro ⟨c, k2, k3⟩
            obtain ⟨t, ht, e⟩ := List.getElem_of_mem ((m2 c).mpr k2)
            exact Or.inr ⟨t, c, Nat.zero_le _, by rw [List.getElem?_eq_getElem ht, e], k3⟩)
        rw [E_M_may_6, obj_e (z94 p.1.1), calV_e e, lt_e, lt_e, Int.toNat_natCast, ← hv]
        exact e2
      · simp only [if_neg a2, if_neg (fun z => a2 ((gaps0 _).mpr z))]
        exact ⟨h, by rw [E_M_may_5], mfr.rf _ h, p.up⟩
    · simp only [if_neg a3]
      exact ⟨h, by rw [E_M_may_3], mfr.rf _ h, p.up⟩
  · simp only [if_neg a1]
    exact ⟨h, by rw [E_M_may_1], mfr.rf _ h, p.up⟩
