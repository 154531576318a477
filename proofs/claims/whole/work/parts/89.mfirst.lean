/-! M: first -/
theorem wdf.rf (h : AH) : wdf h h := mfr.rf _ h
theorem wdf.tr {h h' h'' : AH} (p : wdf h h') (q : wdf h' h'') : wdf h h'' := mfr.tr p q
theorem fw_iff {r : Rdr} {F : Nat → Nat} {N : Cfg → Prop} {cs ds : List Cfg} {l n rest : Nat} (hv : RV r) (hcs : ∀ c, c ∈ cs ↔ N c) (fv : FV r F) (hr : rest < 268435456) (g : ∀ e, e ∈ ds ↔ ∃ c, c ∈ cs ∧ stq r c l (n + 1) e ∧ F (eK (kn e)) = rest) : ∀ e, e ∈ ds ↔ fwT r N rest (l, n) e := by
  intro e
  rw [g e]
  have key : ∀ c, stq r c l (n + 1) e → (F (eK (kn e)) = rest ↔ dv r e = rest) := by
    intro c st
    obtain ⟨i, m, h1, h2, h3, h4⟩ := st
    unfold stp at h4
    split at h4
    · cases h4
      have k4 : K4 (kn (goC m c (n + 1))) := kn_4 (show m.2.2.2.2 < 6 from (hv.mi h1).1.2.2.2.2.2)
      rw [dv_sim (kn_sim (goC m c (n + 1)))]
      have := FV_dv fv k4
      omega
    · cases h4
  constructor
  · rintro ⟨c, h1, h2, h3⟩
    exact ⟨c, (hcs c).mp h1, h2, (key c h2).mp h3⟩
  · rintro ⟨c, h1, h2, h3⟩
    exact ⟨c, (hcs c).mpr h1, h2, (key c h2).mpr h3⟩
theorem lexp {u l n lt nm : Nat} (hn : n ≤ u) (h : l < lt ∨ (l = lt ∧ n < nm)) : l * (u + 1) + n < lt * (u + 1) + nm := by
  rcases h with h | ⟨rfl, h⟩
  · have : (l + 1) * (u + 1) ≤ lt * (u + 1) := Nat.mul_le_mul_right _ h
    rw [Nat.succ_mul] at this
    omega
  · omega
theorem fi_w (d : Nat) {j i k u lt nm rest len : Nat} {r : Rdr} {F : Nat → Nat} {N : Cfg → Prop} {cs : List Cfg} (hj : j < 2) (hv : RV r) (fv : FV r F) (hcs : ∀ c, c ∈ cs ↔ N c) (wc : W12 cs) (hF0 : F 0 = len) (hi : i < len) (hlen : len ≤ 12) (hrest : rest = len - i - 1) (hu : u ≤ 11) (ft : fst1 (fun l n => ∃ c', fwT r N rest (l, n) c') u lt nm) : ∀ (fuel l n : Nat) (h : AH) (ds : List Cfg), lt * (u + 1) + nm ≤ l * (u + 1) + n + fuel → n ≤ u → (l < lt ∨ (l = lt ∧ n ≤ nm)) → WQ h j r F → NL h cs → TL h ds → W12 ds → (∀ e, e ∈ ds ↔ fwT r N rest (l, n) e) →
    ∃ h' ds', Rk B_M_first L_M_first (Cc (d + 3)) 10 [aR (some 94), aI (zI j), aI (zI k), aI (zI u), aI (zI l), aI (zI n), aI (zI i), aU] [] h = Rk B_M_first L_M_first (Cc (d + 3)) 18 [aR (some 94), aI (zI j), aI (zI k), aI (zI u), aI (zI lt), aI (zI nm), aI (zI i), aU] [] h' ∧ wdf h h' ∧ NL h' cs ∧ TL h' ds' ∧ W12 ds' ∧ ∀ e, e ∈ ds' ↔ fwT r N rest (lt, nm) e := by
  intro fuel
  induction fuel with
  | zero =>
    intro l n h ds hfu hnu hle q nl tl w g
    have hll : l = lt ∧ n = nm := by
      apply Classical.byContradiction
      intro z
      have := lexp (u := u) (l := l) (n := n) (lt := lt) (nm := nm) hnu (by omega)
      omega
    obtain ⟨rfl, rfl⟩ := hll
    have hl := w.len
    have hne : ds.length ≠ 0 := by
      intro z
      obtain ⟨c', hc'⟩ := ft.2.2.1
      have := (g c').mpr hc'
      rw [List.eq_nil_of_length_eq_zero z] at this
      cases this
    refine ⟨h, ds, ?_, wdf.rf h, nl, tl, w, g⟩
    rw [E_M_first_10, obj_e (z94 q.1.1), tl.1]
    simp (disch := omega) only [neq0]
    rw [if_neg hne]
  | succ fuel ih =>
    intro l n h ds hfu hnu hle q nl tl w g
    have hl := w.len
    have hlt3 := ft.1
    by_cases z : l = lt ∧ n = nm
    · obtain ⟨rfl, rfl⟩ := z
      have hne : ds.length ≠ 0 := by
        intro z
        obtain ⟨c', hc'⟩ := ft.2.2.1
        have := (g c').mpr hc'
        rw [List.eq_nil_of_length_eq_zero z] at this
        cases this
      refine ⟨h, ds, ?_, wdf.rf h, nl, tl, w, g⟩
      rw [E_M_first_10, obj_e (z94 q.1.1), tl.1]
      simp (disch := omega) only [neq0]
      rw [if_neg hne]
    · have hbef : l < lt ∨ (l = lt ∧ n < nm) := by omega
      have hno := ft.2.2.2 l n hnu hbef
      have hds : ds = [] := by
        cases ds with
        | nil => rfl
        | cons e t => exact absurd ⟨e, (g e).mp List.mem_cons_self⟩ hno
      subst hds
      -- the next pair
      have nx : ∀ l1 n1, n1 ≤ u → l1 < 3 → l1 * (u + 1) + n1 = l * (u + 1) + n + 1 → (l1 < lt ∨ (l1 = lt ∧ n1 ≤ nm)) → Rk B_M_first L_M_first (Cc (d + 3)) 10 [aR (some 94), aI (zI j), aI (zI k), aI (zI u), aI (zI l), aI (zI n), aI (zI i), aU] [] h = Rk B_M_first L_M_first (Cc (d + 3)) 17 [aR (some 94), aI (zI j), aI (zI k), aI (zI u), aI (zI l1), aU, aI (zI i), aU] [aI (zI n1)] h →
          ∃ h' ds', Rk B_M_first L_M_first (Cc (d + 3)) 10 [aR (some 94), aI (zI j), aI (zI k), aI (zI u), aI (zI l), aI (zI n), aI (zI i), aU] [] h = Rk B_M_first L_M_first (Cc (d + 3)) 18 [aR (some 94), aI (zI j), aI (zI k), aI (zI u), aI (zI lt), aI (zI nm), aI (zI i), aU] [] h' ∧ wdf h h' ∧ NL h' cs ∧ TL h' ds' ∧ W12 ds' ∧ ∀ e, e ∈ ds' ↔ fwT r N rest (lt, nm) e := by
        intro l1 n1 a1 a2 a3 a4 e0
        obtain ⟨h1, ds1, e1, f1, nl1, tl1, w1, g1⟩ := M_goWide d (l := l1) (x := n1 + 1) (lf := rest) hj hv wc a2 (by omega) (by omega) q nl
        obtain ⟨h', ds', e, f, nl', tl', w', g'⟩ := ih l1 n1 h1 ds1 (by omega) a1 a4 (q.mv f1) nl1 tl1 w1 (fw_iff hv hcs fv (by omega) g1)
        refine ⟨h', ds', ?_, f1.tr f, nl', tl', w', g'⟩
        have hF := q.2.2.1 0 (by omega)
        rw [hF0] at hF
        rw [e0, E_M_first_17, lt_e, obj_e (z94 q.1.1), m36 q.1, zc0]
        simp (disch := omega) only [idx_n (z123 q.1.1), hF]
        rw [obj_e (z94 q.1.1), nadd1, nsub (by omega), nsub1 (by omega), ← hrest, calV_e e1]
        assumption
      have e0 : Rk B_M_first L_M_first (Cc (d + 3)) 10 [aR (some 94), aI (zI j), aI (zI k), aI (zI u), aI (zI l), aI (zI n), aI (zI i), aU] [] h = Rk B_M_first L_M_first (Cc (d + 3)) 11 [aR (some 94), aI (zI j), aI (zI k), aI (zI u), aI (zI l), aI (zI n), aI (zI i), aU] [] h := by
        rw [E_M_first_10, obj_e (z94 q.1.1), tl.1, if_pos (show zI (([] : List Cfg).length : Int) = 0 from rfl)]
      by_cases y : n < u
      · refine nx l (n + 1) (by omega) (by omega) (by omega) (by omega) ?_
        rw [e0, E_M_first_11]
        simp (disch := omega) only [nlt]
        rw [if_pos y, E_M_first_12, E_M_first_14, lt_e]
        simp (disch := omega) only [nlt]
        rw [if_pos y, E_M_first_15, nadd1]
      · have hnm := ft.2.1
        refine nx (l + 1) 0 (by omega) (by omega) (by rw [Nat.succ_mul]; omega) (by omega) ?_
        rw [e0, E_M_first_11]
        simp (disch := omega) only [nlt]
        rw [if_neg y, E_M_first_13, E_M_first_14, lt_e]
        simp (disch := omega) only [nlt]
        rw [if_neg y, E_M_first_16, nadd1]
        rfl
theorem fi_cp (d : Nat) {j k l nm i : Nat} {x3 : Int32} {ds : List Cfg} (w : W12 ds) : ∀ (n i' : Nat) (h : AH), i' + n = ds.length → MS h → TL h ds → hI h 94 40 = zI ds.length → (∀ (t : Nat) (c : Cfg), t < i' → ds[t]? = some c → hI h 125 t = zI (eW c)) →
    ∃ h', Rk B_M_first L_M_first (Cc d) 22 [aR (some 94), aI (zI j), aI (zI k), aI x3, aI (zI l), aI (zI nm), aI (zI i), aI (zI i')] [] h = Rk B_M_first L_M_first (Cc d) 24 [aR (some 94), aI (zI j), aI (zI k), aI x3, aI (zI l), aI (zI nm), aI (zI i), aU] [] h' ∧ wdf h h' ∧ NL h' ds
  | 0, i', h, hn, p, tl, h40, hp => by
    have hl := w.len
    refine ⟨h, ?_, wdf.rf h, h40, fun t c hc => hp t c (by have := (List.getElem?_eq_some_iff.mp hc).1; omega) hc⟩
    rw [E_M_first_22, obj_e (z94 p.1), tl.1]
    simp (disch := omega) only [nlt]
    rw [if_neg (by omega)]
  | n + 1, i', h, hn, p, tl, h40, hp => by
    have hl := w.len
    have hi : ds[i']? = some ds[i'] := List.getElem?_eq_getElem (by omega)
    have f1 : wdf h (sI h 125 i' (zI (eW ds[i']))) := mfr_sI h (by unfold wdF; omega) _
    obtain ⟨h', e, f, nl⟩ := fi_cp d (j := j) (k := k) (l := l) (nm := nm) (i := i) (x3 := x3) w n (i' + 1) (sI h 125 i' (zI (eW ds[i']))) (by omega) (p.mf f1) ⟨by rw [hI_off (by omega)]; exact tl.1, fun t c hc => by rw [hI_off (by omega)]; exact tl.2 t c hc⟩ (by rw [hI_off (by omega)]; exact h40) (by
      intro t c ht hc
      by_cases z : t = i'
      · subst z
        rw [hi] at hc
        cases hc
        rw [hI_hit]
      · rw [hI_off (by omega)]
        exact hp t c (by omega) hc)
    refine ⟨h', ?_, f1.tr f, nl⟩
    rw [E_M_first_22, obj_e (z94 p.1), tl.1]
    simp (disch := omega) only [nlt]
    rw [if_pos (by omega), E_M_first_23, obj_e (z94 p.1), obj_e (z94 p.1), m39 p, m38 p]
    simp (disch := omega) only [idx_n (z126 p.1), tl.2 i' _ hi, idx_n (z125 p.1), lt_e, nadd1]
    exact e
theorem fi_lp (d : Nat) {j k len : Nat} {r : Rdr} {F : Nat → Nat} (hj : j < 2) (hv : RV r) (fv : FV r F) (hlen : dv r c0 = len) (hF0 : F 0 = len) (hle : len ≤ 12) (hk : k < len) : ∀ (n i : Nat) (h : AH) (cs : List Cfg) (l0 n0 : Nat), i + n = k + 1 → WQ h j r F → NL h cs → W12 cs → (∀ c, c ∈ cs ↔ (fwS r len i).1 c) → (i = k + 1 → 16 * l0 + n0 = fwP r len k ∧ n0 ≤ 15) →
    ∃ h', Rk B_M_first L_M_first (Cc (d + 3)) 8 [aR (some 94), aI (zI j), aI (zI k), aI (zI (fwS r len i).2), aI (zI l0), aI (zI n0), aI (zI i), aU] [] h = some (some (aI (zI (fwP r len k))), h') ∧ wdf h h'
  | 0, i, h, cs, l0, n0, hn, q, nl, wc, hcs, hh => by
    obtain ⟨h1, h2⟩ := hh (by omega)
    refine ⟨h, ?_, wdf.rf h⟩
    rw [E_M_first_8]
    simp (disch := omega) only [nle]
    rw [if_neg (by omega), E_M_first_25, show zI 15 = zI ((15 : Nat) : Int) from rfl, show zI 16 = zI ((16 : Nat) : Int) from rfl, nmul]
    simp (disch := omega) only [nle]
    rw [if_pos h2, E_M_first_27, E_M_first_28, nadd, h1]
  | n + 1, i, h, cs, l0, n0, hn, q, nl, wc, hcs, hh => by
    have fi := FI_i hv hlen i (by omega)
    have hu := fi.1
    obtain ⟨ft, -⟩ := FI_s hv (show i < len by omega) fi
    have hnm := ft.2.1
    obtain ⟨h1, ds1, e1, f1, nl1, tl1, w1, g1⟩ := M_goWide d (l := 0) (x := 0 + 1) (lf := len - i - 1) hj hv wc (by omega) (by omega) (by omega) q nl
    have hT : (fwK r (fwS r len i).1 (fwS r len i).2 (len - i - 1)).1 * ((fwS r len i).2 + 1) + (fwK r (fwS r len i).1 (fwS r len i).2 (len - i - 1)).2 ≤ 0 * ((fwS r len i).2 + 1) + 0 + ((fwK r (fwS r len i).1 (fwS r len i).2 (len - i - 1)).1 * ((fwS r len i).2 + 1) + (fwK r (fwS r len i).1 (fwS r len i).2 (len - i - 1)).2) := by rw [Nat.zero_mul]; omega
    obtain ⟨h2, ds2, e2, f2, nl2, tl2, w2, g2⟩ := fi_w d (k := k) hj hv fv hcs wc hF0 (show i < len by omega) hle rfl (by omega) ft _ 0 0 h1 ds1 hT (Nat.zero_le _) (by omega) (q.mv f1) nl1 tl1 w1 (fw_iff hv hcs fv (by omega) g1)
    have q2 := (q.mv f1).mv f2
    have f3 : wdf h2 (sI h2 94 40 (zI ds2.length)) := mfr_sI h2 (by unfold wdF; omega) _
    obtain ⟨h4, e4, f4, nl4⟩ := fi_cp (d + 3) (j := j) (k := k) (l := (fwK r (fwS r len i).1 (fwS r len i).2 (len - i - 1)).1) (nm := (fwK r (fwS r len i).1 (fwS r len i).2 (len - i - 1)).2) (i := i) (x3 := zI (fwS r len (i + 1)).2) w2 ds2.length 0 (sI h2 94 40 (zI ds2.length)) (by omega) (q2.1.mf f3) ⟨by rw [hI_off (by omega)]; exact tl2.1, fun t c hc => by rw [hI_off (by omega)]; exact tl2.2 t c hc⟩ (by rw [hI_hit]) (fun t c ht => absurd ht (Nat.not_lt_zero _))
    have q4 := (q2.mv f3).mv f4
    obtain ⟨h', e', f'⟩ := fi_lp d hj hv fv hlen hF0 hle hk n (i + 1) h4 ds2 _ _ (by omega) q4 nl4 w2 g2 (by
      intro z
      have : i = k := by omega
      subst this
      exact ⟨rfl, by omega⟩)
    refine ⟨h', ?_, ((f1.tr f2).tr (f3.tr f4)).tr f'⟩
    have hF := q.2.2.1 0 (by omega)
    rw [hF0] at hF
    rw [E_M_first_8]
    simp (disch := omega) only [nle]
    rw [if_pos (by omega), E_M_first_9, lt_e, lt_e, obj_e (z94 q.1.1), m36 q.1, zc0]
    simp (disch := omega) only [idx_n (z123 q.1.1), hF]
    rw [obj_e (z94 q.1.1), nadd1, nsub (by omega), nsub1 (by omega), calV_e e1]
    refine Eq.trans e2 ?_
    have b21 : Rk B_M_first L_M_first (Cc (d + 3)) 18 [aR (some 94), aI (zI j), aI (zI k), aI (zI (fwS r len i).2), aI (zI (fwK r (fwS r len i).1 (fwS r len i).2 (len - i - 1)).1), aI (zI (fwK r (fwS r len i).1 (fwS r len i).2 (len - i - 1)).2), aI (zI i), aU] [] h2 = Rk B_M_first L_M_first (Cc (d + 3)) 21 [aR (some 94), aI (zI j), aI (zI k), aU, aI (zI (fwK r (fwS r len i).1 (fwS r len i).2 (len - i - 1)).1), aI (zI (fwK r (fwS r len i).1 (fwS r len i).2 (len - i - 1)).2), aI (zI i), aU] [aI (zI (fwS r len (i + 1)).2)] h2 := by
      rw [E_M_first_18]
      simp (disch := omega) only [neq]
      show _ = Rk B_M_first L_M_first (Cc (d + 3)) 21 _ [aI (zI ((nu (fwS r len i).2 (fwK r (fwS r len i).1 (fwS r len i).2 (len - i - 1)).2 : Nat) : Int))] h2
      unfold nu
      by_cases z : (fwK r (fwS r len i).1 (fwS r len i).2 (len - i - 1)).2 = (fwS r len i).2
      · rw [if_pos z, if_pos z, E_M_first_19, nadd1]
      · rw [if_neg z, if_neg z, E_M_first_20]
    rw [b21, E_M_first_21, lt_e, obj_e (z94 q2.1.1), obj_e (z94 q2.1.1), tl2.1, mb_some, lt_e]
    refine Eq.trans e4 ?_
    rw [E_M_first_24, nadd1, lt_e]
    exact e'
theorem M_first {x k : Int} (x1 : -2147483648 ≤ x) (x2 : x < 2147483648) (k1 : -2147483648 ≤ k) (k2 : k < 2147483648) : MOK k_M_first [aI (zI x), aI (zI k)] (fstA x k) id := by
  intro s kk h hk v p
  rw [C_M_first, E_M_first_0, calI_e (M_isReader _ h x1 x2), if01]
  unfold fstA
  by_cases a1 : x = 0 ∨ x = 1
  · simp only [if_pos a1]
    rw [E_M_first_2]
    simp (disch := omega) only [ylt0]
    by_cases a2 : k < 0
    · simp only [if_pos a2]
      exact ⟨h, by rw [E_M_first_3], mfr.rf _ h, p.up⟩
    · simp only [if_neg a2]
      have mr := p.mr a1
      obtain ⟨j, hj⟩ : ∃ j : Nat, x = j := ⟨x.toNat, by omega⟩
      subst hj
      have hv := VS_r v j
      obtain ⟨h1, F, G, e1, f1, kh, fv, gv⟩ := M_layKinds 56 (j := j) (by omega) hv p.1 mr
      have p1 := p.1.mf f1
      have h0 := (kh 0 (by omega)).1
      have d0 := FV_dv fv (c := c0) KV_0.le
      rw [show eK c0 = 0 from rfl] at d0
      rw [E_M_first_4, obj_e (z94 p.1.1), calV_e e1, obj_e (z94 p1.1), m36 p1, zc0]
      simp (disch := omega) only [idx_n (z123 p1.1), h0]
      rw [zc12]
      simp (disch := omega) only [nle]
      by_cases a3 : F 0 ≤ 12
      · rw [if_pos a3, E_M_first_5, obj_e (z94 p1.1), m36 p1, zc0]
        simp (disch := omega) only [idx_n (z123 p1.1), h0, ylt]
        have hd : dv (rdr s j) c0 = (F 0 : Nat) := by omega
        by_cases a4 : k < (F 0 : Nat)
        · obtain ⟨kn', hkn⟩ : ∃ kn' : Nat, k = kn' := ⟨k.toNat, by omega⟩
          subst hkn
          have f2 : wdf h1 (sI h1 125 0 (zI 0)) := mfr_sI h1 (by unfold wdF; omega) _
          have p2 := p1.mf f2
          have f3 : wdf (sI h1 125 0 (zI 0)) (sI (sI h1 125 0 (zI 0)) 94 40 (zI 1)) := mfr_sI _ (by unfold wdF; omega) _
          have q0 : WQ h1 j (rdr s j) F := ⟨p1, MR_lk mr f1, fun n hn => (kh n hn).1, (FG_b fv gv).1⟩
          have q3 := (q0.mv f2).mv f3
          obtain ⟨h4, e4, f4⟩ := fi_lp 56 (k := kn') (len := F 0) (by omega) hv fv hd rfl a3 (by omega) (kn' + 1) 0 _ [c0] 0 0 (by omega) q3 ⟨by rw [hI_hit]; rfl, by
            intro i c hc
            have := (List.getElem?_eq_some_iff.mp hc).1
            simp at this
            subst this
            simp at hc
            subst hc
            rw [hI_off (by omega), hI_hit]
            rfl⟩ ⟨by simp, by intro c hc; rw [List.mem_singleton.mp hc]; exact ⟨by decide, by decide, by decide, by decide⟩⟩ (by intro c; rw [List.mem_singleton]; exact Iff.rfl) (fun z => by omega)
          have f5 : wdf h1 h4 := f2.tr (f3.tr f4)
          refine ⟨h4, ?_, mfr.tr f1.l (mfr.mo f5 (fun a i hF => by unfold wdF at hF; omega)), (p.mv f1 (fun a i hF => by unfold scr; omega)).mv f5 (fun a i hF => by unfold wdF at hF; unfold scr; omega) |>.up⟩
          simp only [if_pos (show dv (rdr s j) c0 ≤ 12 ∧ (kn' : Int) < dv (rdr s j) c0 by omega)]
          rw [if_pos a4, E_M_first_7, obj_e (z94 p1.1), m38 p1, zc0]
          simp (disch := omega) only [idx_n (z125 p1.1), lt_e]
          rw [obj_sI, obj_e (z94 p1.1), mb_some, hd, Int.toNat_natCast, Int.toNat_natCast]
          exact e4
        · simp only [if_neg (show ¬ (dv (rdr s j) c0 ≤ 12 ∧ k < dv (rdr s j) c0) by omega)]
          exact ⟨h1, by rw [if_neg a4, E_M_first_6], f1.l, f1.k p⟩
      · simp only [if_neg (show ¬ (dv (rdr s j) c0 ≤ 12 ∧ k < dv (rdr s j) c0) by omega)]
        exact ⟨h1, by rw [if_neg a3, E_M_first_6], f1.l, f1.k p⟩
  · simp only [if_neg a1]
    exact ⟨h, by rw [E_M_first_1], mfr.rf _ h, p.up⟩
