/-! the model: run -/
theorem run_scan (d : Nat) {h : AH} {j k i l : Nat} {r : Rdr} {w : Rw} {q : Int × Int} (hv : RV r) (hj : j < 2) (hw : WV w) (hq : w[i]? = some q) (hl : q.1 = (l : Int)) (hl3 : l < 3) (p : MS h) (mr : MR h j r) (mw : MW h w) (ids : IDS h w) (gd : GD h r w (i + 1)) {c c' : Cfg} (hc : rq r (prs w i) c) {t : Nat} (ht : mok r l (idn w q.2) (sfx w (i + 1)) c t c') (hmin : ∀ t' c'', t' < t → ¬ mok r l (idn w q.2) (sfx w (i + 1)) c t' c'') : ∀ (n t' : Nat), t' + n = t → Rk B_M_run L_M_run (Cc (d + 2)) 12 [aR (some 94), aI (zI j), aI (zI k), aI (zI (eM c)), aI (zI ((20 * j + t' : Nat) : Int)), aI (zI i)] [] h = Rk B_M_run L_M_run (Cc (d + 2)) 10 [aR (some 94), aI (zI j), aI (zI k), aI (zI (eM c')), aI (zI ((20 * j + t : Nat) : Int)), aI (zI ((i + 1 : Nat) : Int))] [] h := by
  have hwl := hw.1
  obtain ⟨v0, v00, -⟩ := hw.at hq
  have hL := hv.2.2.2.2.1
  have h12 := rq_12 hv _ c (prs_12 hw i) hc
  have hx12 : idn w q.2 ≤ 12 := by have := idn_le w q.2; have := tn_len w; omega
  obtain ⟨m, a1, a2, a3, a4, a5⟩ := ht
  have htl := (List.getElem?_eq_some_iff.mp a1).1
  -- one try
  have stepc : ∀ (t' : Nat) (m' : Mv), t' ≤ t → r.2.2.2[t']? = some m' → Rk B_M_run L_M_run (Cc (d + 2)) 12 [aR (some 94), aI (zI j), aI (zI k), aI (zI (eM c)), aI (zI ((20 * j + t' : Nat) : Int)), aI (zI i)] [] h = if canB m' c l (idn w q.2) = true then Rk B_M_run L_M_run (Cc (d + 2)) 13 [aR (some 94), aI (zI j), aI (zI k), aI (zI (eM c)), aI (zI ((20 * j + t' : Nat) : Int)), aI (zI i)] [] h else Rk B_M_run L_M_run (Cc (d + 2)) 14 [aR (some 94), aI (zI j), aI (zI k), aI (zI (eM c)), aI (zI ((20 * j + t' : Nat) : Int)), aI (zI i)] [] h := by
    intro t' m' ht' hm
    have hmv := (hv.mi hm).1
    have hrow := mr.2.2.2.2 t' _ hm
    rw [E_M_run_12]
    simp (disch := omega) only [obj_e (z94 p.1), m17 p, m25 p, idx_n (z110 p.1), idx_n (z113 p.1)]
    rw [(mw.2 i _ hq).1, ids i _ hq, hl, calI_e (M_can d p (by omega) hrow hmv h12.m hl3 (by omega)), if01]
  have stepg : ∀ (t' : Nat) (m' : Mv), t' ≤ t → r.2.2.2[t']? = some m' → canB m' c l (idn w q.2) = true → Rk B_M_run L_M_run (Cc (d + 2)) 13 [aR (some 94), aI (zI j), aI (zI k), aI (zI (eM c)), aI (zI ((20 * j + t' : Nat) : Int)), aI (zI i)] [] h = if bl (gq r (sfx w (i + 1)) (goC m' c (idn w q.2))) = true then Rk B_M_run L_M_run (Cc (d + 2)) 15 [aR (some 94), aI (zI j), aI (zI k), aI (zI (eM c)), aI (zI ((20 * j + t' : Nat) : Int)), aI (zI i)] [] h else Rk B_M_run L_M_run (Cc (d + 2)) 14 [aR (some 94), aI (zI j), aI (zI k), aI (zI (eM c)), aI (zI ((20 * j + t' : Nat) : Int)), aI (zI i)] [] h := by
    intro t' m' ht' hm y
    have hmv := (hv.mi hm).1
    have hrow := mr.2.2.2.2 t' _ hm
    obtain ⟨y1, y2, y3⟩ := canB_t y
    have h12' := goC_12 hmv h12 hx12
    have hlt := eM_lt h12'.m
    have hc' : rq r (prs w (i + 1)) (goC m' c (idn w q.2)) := by
      rw [prs_s hq, hl]; exact ⟨c, hc, t', _, hm, y1, y2, y3⟩
    rw [E_M_run_13]
    simp (disch := omega) only [obj_e (z94 p.1), m25 p, idx_n (z113 p.1)]
    rw [ids i _ hq, calI_e (M_behind d p (by omega) hrow hmv h12.m (by omega)), m32 p, show zI 29478 * (zI (i : Int) + zI 1) + zI ((eM (goC m' c (idn w q.2)) : Nat) : Int) = zI ((29478 * (i + 1) + eM (goC m' c (idn w q.2)) : Nat) : Int) from by rw [zI_add, zI_mul, zI_add]; rfl]
    simp (disch := omega) only [idx_n (z119 p.1)]
    rw [gd _ hc', if01]
  intro n
  induction n with
  | zero =>
    intro t' hn
    have : t' = t := by omega
    subst this
    obtain ⟨y, e⟩ := canB_i a2 a3 a4
    have hmv := (hv.mi a1).1
    have hrow := mr.2.2.2.2 t' _ a1
    rw [stepc t' m (Nat.le_refl _) a1, if_pos y, stepg t' m (Nat.le_refl _) a1 y, if_pos (bl_t.mpr (e ▸ a5)), E_M_run_15]
    simp (disch := omega) only [obj_e (z94 p.1), m25 p, idx_n (z113 p.1)]
    rw [ids i _ hq, calI_e (M_behind d p (by omega) hrow hmv h12.m (by omega)), lt_e, lt_e, nadd1, ← e]
  | succ n ih =>
    intro t' hn
    have hm : r.2.2.2[t']? = some r.2.2.2[t'] := List.getElem?_eq_getElem (by omega)
    have nx : Rk B_M_run L_M_run (Cc (d + 2)) 14 [aR (some 94), aI (zI j), aI (zI k), aI (zI (eM c)), aI (zI ((20 * j + t' : Nat) : Int)), aI (zI i)] [] h = Rk B_M_run L_M_run (Cc (d + 2)) 10 [aR (some 94), aI (zI j), aI (zI k), aI (zI (eM c')), aI (zI ((20 * j + t : Nat) : Int)), aI (zI ((i + 1 : Nat) : Int))] [] h := by
      rw [E_M_run_14, lt_e, nadd1]; exact ih (t' + 1) (by omega)
    rw [stepc t' _ (by omega) hm]
    by_cases y : canB r.2.2.2[t'] c l (idn w q.2) = true
    · obtain ⟨y1, y2, y3⟩ := canB_t y
      rw [if_pos y, stepg t' _ (by omega) hm y, if_neg]
      · exact nx
      · rw [bl_t]; intro z
        exact hmin t' _ (by omega) ⟨_, hm, y1, y2, y3, z⟩
    · rw [if_neg y]; exact nx
theorem run_lp (d : Nat) {h : AH} {j k : Nat} {r : Rdr} {w : Rw} (hv : RV r) (hj : j < 2) (hw : WV w) (hg : gaps w = 0) (hk : k < w.length) (p : MS h) (mr : MR h j r) (mw : MW h w) (ids : IDS h w) (gd : ∀ t, t ≤ w.length → GD h r w t) : ∀ (n i : Nat) (c : Cfg) (ts : List Nat) (x4 : Int32), i + n = k → rq r (prs w i) c → RUN r (sfx w i) c ts → Rk B_M_run L_M_run (Cc (d + 2)) 10 [aR (some 94), aI (zI j), aI (zI k), aI (zI (eM c)), aI x4, aI (zI i)] [] h = some (some (aI (zI (ts.getD n 0 : Nat))), h) := by
  have hwl := hw.1
  have hL := hv.2.2.2.2.1
  intro n
  induction n with
  | zero =>
    intro i c ts x4 hn hc hR
    have hi : i = k := by omega
    subst hi
    have hq : w[i]? = some w[i] := List.getElem?_eq_getElem hk
    obtain ⟨v0, v00, v1, v2, v3, v4⟩ := hw.at hq
    obtain ⟨n1, n2⟩ := nogap hg hq
    obtain ⟨l, hl2⟩ : ∃ l : Nat, w[i].1 = l := ⟨w[i].1.toNat, by omega⟩
    rw [sfx_s hq, hl2] at hR
    obtain ⟨t, ts', c', e, hm, hmin, hR'⟩ := hR
    have htl : t < 20 := by obtain ⟨m, a1, -⟩ := hm; have := (List.getElem?_eq_some_iff.mp a1).1; omega
    have sc := run_scan d (k := i) hv hj hw hq hl2 (by omega) p mr mw ids (gd _ (by omega)) hc hm hmin t 0 (by omega)
    rw [E_M_run_10]
    simp (disch := omega) only [nle]
    rw [if_pos (Nat.le_refl _), E_M_run_11, lt_e, show zI 20 * zI (j : Int) = zI ((20 * j + 0 : Nat) : Int) from by rw [zI_mul]; rfl, sc, E_M_run_10]
    simp (disch := omega) only [nle]
    rw [if_neg (by omega), E_M_run_16, show zI 20 * zI (j : Int) = zI ((20 * j : Nat) : Int) from by rw [zI_mul]; rfl, e]
    rw [show zI ((20 * j + t : Nat) : Int) - zI ((20 * j : Nat) : Int) = zI (t : Int) from by rw [zI_sub]; congr 1; omega]
    rfl
  | succ n ih =>
    intro i c ts x4 hn hc hR
    have hq : w[i]? = some w[i] := List.getElem?_eq_getElem (by omega)
    obtain ⟨v0, v00, v1, v2, v3, v4⟩ := hw.at hq
    obtain ⟨n1, n2⟩ := nogap hg hq
    obtain ⟨l, hl2⟩ : ∃ l : Nat, w[i].1 = l := ⟨w[i].1.toNat, by omega⟩
    rw [sfx_s hq, hl2] at hR
    obtain ⟨t, ts', c', e, hm, hmin, hR'⟩ := hR
    have sc := run_scan d (k := k) hv hj hw hq hl2 (by omega) p mr mw ids (gd _ (by omega)) hc hm hmin t 0 (by omega)
    have hc' : rq r (prs w (i + 1)) c' := by
      obtain ⟨m, a1, a2, a3, a4, a5⟩ := hm
      rw [prs_s hq, hl2]; exact ⟨c, hc, t, m, a1, a2, a3, a4⟩
    rw [E_M_run_10]
    simp (disch := omega) only [nle]
    rw [if_pos (by omega), E_M_run_11, lt_e, show zI 20 * zI (j : Int) = zI ((20 * j + 0 : Nat) : Int) from by rw [zI_mul]; rfl, sc, ih (i + 1) c' ts' _ (by omega) hc' hR', e]
    rfl
theorem M_run {x k : Int} (x1 : -2147483648 ≤ x) (x2 : x < 2147483648) (k1 : -2147483648 ≤ k) (k2 : k < 2147483648) : MOK k_M_run [aI (zI x), aI (zI k)] (fun s => if x = 0 ∨ x = 1 then (if k < 0 then -3 else if gaps s.2.2.2 = 0 then (if k < s.2.2.2.length then runA (rdr s x) (sfx s.2.2.2 0) k.toNat else -1) else -4) else -2) id := by
  intro s kk h hk v p
  have hw := v.2.2.2
  have hl := hw.1
  have hg := gaps_le hw s.2.2.2.length
  rw [List.take_length] at hg
  rw [C_M_run, E_M_run_0, calI_e (M_isReader _ h x1 x2), if01]
  by_cases a1 : x = 0 ∨ x = 1
  · simp only [if_pos a1]
    rw [E_M_run_2]
    simp (disch := omega) only [ylt0]
    by_cases a3 : k < 0
    · simp only [if_pos a3]
      exact ⟨h, by rw [E_M_run_3], mfr.rf _ h, p.up⟩
    · simp only [if_neg a3]
      rw [E_M_run_4, obj_e (z94 p.1.1), calI_e (M_gapPairs _ hw p.1 p.2.2.2.2.1)]
      simp (disch := omega) only [nle0]
      by_cases a2 : gaps s.2.2.2 = 0
      · simp only [if_pos a2, if_pos ((gaps0 _).mp a2)]
        obtain ⟨h1, e1, f1, gd, ids, p1⟩ := M_layGood 54 a1 hk v p a2
        refine ⟨h1, ?_, f1, p1⟩
        have g0 := gd 0 (by omega) c0 rfl
        rw [E_M_run_6, obj_e (z94 p.1.1), calV_e e1, obj_e (z94 p1.1.1), m32 p1.1, zc0]
        simp (disch := omega) only [idx_n (z119 p1.1.1)]
        rw [show 29478 * 0 + eM c0 = 0 from rfl] at g0
        rw [g0, if01]
        by_cases y : gq (rdr s x) (sfx s.2.2.2 0) c0
        · rw [if_pos (bl_t.mpr y), E_M_run_7, obj_e (z94 p1.1.1), p1.2.2.2.2.1.1]
          simp (disch := omega) only [ylt]
          by_cases a4 : k < s.2.2.2.length
          · simp only [if_pos a4]
            obtain ⟨i, rfl⟩ : ∃ i : Nat, k = i := ⟨k.toNat, by omega⟩
            obtain ⟨j, rfl⟩ : ∃ j : Nat, x = j := ⟨x.toNat, by omega⟩
            have mr := p1.mr a1
            rw [Int.toNat_natCast] at mr
            obtain ⟨ts, hts⟩ := RUN_ex _ _ y
            have := run_lp 57 (v.rv j) (by omega : j < 2) hw a2 (by omega : i < s.2.2.2.length) p1.1 mr p1.2.2.2.2.1 ids gd i 0 c0 ts (zI 0) (by omega) rfl hts
            rw [E_M_run_9, lt_e, lt_e, lt_e, Int.toNat_natCast, runA_y hts]
            exact this
          · simp only [if_neg a4]
            rw [E_M_run_8]
        · rw [if_neg (by rw [bl_t]; exact y), E_M_run_8]
          by_cases a4 : k < s.2.2.2.length
          · rw [if_pos a4, runA_n y]
          · rw [if_neg a4]
      · simp only [if_neg a2, if_neg (fun z => a2 ((gaps0 _).mpr z))]
        exact ⟨h, by rw [E_M_run_5], mfr.rf _ h, p.up⟩
  · simp only [if_neg a1]
    exact ⟨h, by rw [E_M_run_1], mfr.rf _ h, p.up⟩
