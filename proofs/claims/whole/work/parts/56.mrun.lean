/-! the model: layGood, run -/
theorem least_ex {P : Nat → Prop} : ∀ n, P n → ∃ t, P t ∧ ∀ t', t' < t → ¬ P t' := by
  intro n
  induction n using Nat.strongRecOn with
  | ind n ih =>
    intro h
    by_cases q : ∃ t', t' < n ∧ P t'
    · obtain ⟨t', h1, h2⟩ := q; exact ih t' h1 h2
    · exact ⟨n, h, fun t' h1 h2 => q ⟨t', h1, h2⟩⟩
theorem RUN_ex {r : Rdr} : ∀ (v : List (Nat × Nat)) (c : Cfg), gq r v c → ∃ ts, RUN r v c ts
  | [], c, h => ⟨[], rfl, h⟩
  | p :: v, c, ⟨c1, ⟨i, m, a1, a2, a3, a4⟩, a5⟩ => by
    obtain ⟨t, ⟨c', ht⟩, hmin⟩ := least_ex (P := fun t => ∃ c', mok r p.1 p.2 v c t c') i ⟨c1, m, a1, a2, a3, a4, a5⟩
    obtain ⟨ts, hts⟩ := RUN_ex v c' (by obtain ⟨m', b1, b2, b3, b4, b5⟩ := ht; exact b5)
    exact ⟨t :: ts, t, ts, c', rfl, ht, fun t' c'' h1 h2 => hmin t' h1 ⟨c'', h2⟩, hts⟩
def GD (h : AH) (r : Rdr) (w : Rw) (k : Nat) : Prop := ∀ c, rq r (prs w k) c → hI h 119 (29478 * k + eM c) = zI (if bl (gq r (sfx w k) c) then 1 else 0)
/-- the configurations of a row's pairs -/
theorem prs_12 {w : Rw} (hw : WV w) (i : Nat) : ∀ p, p ∈ prs w i → p.2 ≤ 12 := by
  intro p hp
  unfold prs at hp
  rw [List.mem_reverse, List.mem_map] at hp
  obtain ⟨q, -, e⟩ := hp
  have h1 := idn_le w q.2
  have h2 := tn_len w
  have h3 := hw.1
  rw [← e]; show idn w q.2 ≤ 12; omega
theorem rq_12 {r : Rdr} (hv : RV r) : ∀ (u : List (Nat × Nat)) (c : Cfg), (∀ p, p ∈ u → p.2 ≤ 12) → rq r u c → C12 c
  | [], c, hu, h => by rw [show c = c0 from h]; exact ⟨by decide, by decide, by decide, by decide⟩
  | p :: u, c, hu, ⟨c1, h1, ⟨i, m, a1, a2, a3, a4⟩⟩ => by
    have hc := rq_12 hv u c1 (fun q hq => hu q (List.mem_cons_of_mem _ hq)) h1
    unfold stp at a4
    split at a4
    · cases a4; exact goC_12 (hv.mi a1).1 hc (hu p List.mem_cons_self)
    · cases a4
theorem canB_t {m : Mv} {c : Cfg} {l x : Nat} (h : canB m c l x = true) : m.1 = c.1 ∧ m.2.1 = l ∧ stp m c x = some (goC m c x) := by
  unfold canB at h
  rw [Bool.and_eq_true, Bool.and_eq_true, beq_iff_eq, beq_iff_eq] at h
  exact ⟨h.1, h.2.1, by unfold stp; rw [if_pos h.2.2]⟩
theorem canB_i {m : Mv} {c c' : Cfg} {l x : Nat} (h1 : m.1 = c.1) (h2 : m.2.1 = l) (h3 : stp m c x = some c') : canB m c l x = true ∧ c' = goC m c x := by
  unfold stp at h3
  split at h3
  · rename_i q
    cases h3
    exact ⟨by unfold canB; rw [h1, h2, q]; simp, rfl⟩
  · cases h3
theorem lg_in (d : Nat) {h : AH} {j k l i0 : Nat} {r : Rdr} {w : Rw} {q : Int × Int} (hv : RV r) (hj : j < 2) (hw : WV w) (hq : w[k]? = some q) (hl : q.1 = (l : Int)) (hl3 : l < 3) (p : MS h) (mr : MR h j r) (mw : MW h w) (ids : IDS h w) (gd : GD h r w (k + 1)) {c : Cfg} (hc : rq r (prs w k) c) : ∀ (n i : Nat) (b : Bool), i + n = r.2.2.2.length → ∃ b' : Bool, Rk B_M_layGood L_M_layGood (Cc (d + 2)) 9 [aR (some 94), aI (zI j), aI (zI k), aI (zI i0), aI (zI (eM c)), aI (zI (if b then 1 else 0)), aI (zI ((20 * j + i : Nat) : Int))] [] h = Rk B_M_layGood L_M_layGood (Cc (d + 2)) 17 [aR (some 94), aI (zI j), aI (zI k), aI (zI i0), aI (zI (eM c)), aI (zI (if b' then 1 else 0)), aU] [] h ∧ (b' = true ↔ b = true ∨ ∃ (t : Nat) (c' : Cfg), i ≤ t ∧ mok r l (idn w q.2) (sfx w (k + 1)) c t c')
  | 0, i, b, hn => by
    have hwl := hw.1
    obtain ⟨v0, v00, -⟩ := hw.at hq
    have hL := hv.2.2.2.2.1
    refine ⟨b, ?_, Or.inl, ?_⟩
    · rw [E_M_layGood_9, obj_e (z94 p.1), mw.1]
      simp (disch := omega) only [nlt]
      rw [if_pos v00, E_M_layGood_10]
      simp (disch := omega) only [obj_e (z94 p.1), m3 p, idx_n (z98 p.1), mr.2.2.2.1]
      rw [show zI 20 * zI j + zI (r.2.2.2.length : Int) = zI ((20 * j + r.2.2.2.length : Nat) : Int) from by rw [zI_mul, zI_add]; rfl]
      simp (disch := omega) only [nlt]
      rw [if_neg (by omega)]
    · rintro (h | ⟨t, c', h1, m, h2, -⟩)
      · exact h
      · have := (List.getElem?_eq_some_iff.mp h2).1; omega
  | n + 1, i, b, hn => by
    have hwl := hw.1
    obtain ⟨v0, v00, -⟩ := hw.at hq
    have hL := hv.2.2.2.2.1
    have hm : r.2.2.2[i]? = some r.2.2.2[i] := List.getElem?_eq_getElem (by omega)
    have hmv := (hv.mi hm).1
    have hrow := mr.2.2.2.2 i _ hm
    have h12 := rq_12 hv _ c (prs_12 hw k) hc
    have hx12 : idn w q.2 ≤ 12 := by have := idn_le w q.2; have := tn_len w; omega
    have e9 : Rk B_M_layGood L_M_layGood (Cc (d + 2)) 9 [aR (some 94), aI (zI j), aI (zI k), aI (zI i0), aI (zI (eM c)), aI (zI (if b then 1 else 0)), aI (zI ((20 * j + i : Nat) : Int))] [] h = Rk B_M_layGood L_M_layGood (Cc (d + 2)) 11 [aR (some 94), aI (zI j), aI (zI k), aI (zI i0), aI (zI (eM c)), aI (zI (if b then 1 else 0)), aI (zI ((20 * j + i : Nat) : Int))] [] h := by
      rw [E_M_layGood_9, obj_e (z94 p.1), mw.1]
      simp (disch := omega) only [nlt]
      rw [if_pos v00, E_M_layGood_10]
      simp (disch := omega) only [obj_e (z94 p.1), m3 p, idx_n (z98 p.1), mr.2.2.2.1]
      rw [show zI 20 * zI j + zI (r.2.2.2.length : Int) = zI ((20 * j + r.2.2.2.length : Nat) : Int) from by rw [zI_mul, zI_add]; rfl]
      simp (disch := omega) only [nlt]
      rw [if_pos (by omega)]
    have go : ∀ b2 : Bool, (b2 = true ↔ b = true ∨ ∃ c', mok r l (idn w q.2) (sfx w (k + 1)) c i c') → ∃ b' : Bool, Rk B_M_layGood L_M_layGood (Cc (d + 2)) 16 [aR (some 94), aI (zI j), aI (zI k), aI (zI i0), aI (zI (eM c)), aU, aI (zI ((20 * j + i : Nat) : Int))] [aI (zI (if b2 then 1 else 0))] h = Rk B_M_layGood L_M_layGood (Cc (d + 2)) 17 [aR (some 94), aI (zI j), aI (zI k), aI (zI i0), aI (zI (eM c)), aI (zI (if b' then 1 else 0)), aU] [] h ∧ (b' = true ↔ b = true ∨ ∃ (t : Nat) (c' : Cfg), i ≤ t ∧ mok r l (idn w q.2) (sfx w (k + 1)) c t c') := by
      intro b2 hb2
      obtain ⟨b', e, q1⟩ := lg_in d (i0 := i0) hv hj hw hq hl hl3 p mr mw ids gd hc n (i + 1) b2 (by omega)
      refine ⟨b', ?_, ?_⟩
      · rw [E_M_layGood_16, lt_e, lt_e, nadd1]; exact e
      · rw [q1, hb2]
        constructor
        · rintro ((h | ⟨c', h⟩) | ⟨t, c', h1, h2⟩)
          · exact Or.inl h
          · exact Or.inr ⟨i, c', Nat.le_refl _, h⟩
          · exact Or.inr ⟨t, c', by omega, h2⟩
        · rintro (h | ⟨t, c', h1, h2⟩)
          · exact Or.inl (Or.inl h)
          · by_cases z : t = i
            · subst z; exact Or.inl (Or.inr ⟨c', h2⟩)
            · exact Or.inr ⟨t, c', by omega, h2⟩
    rw [e9, E_M_layGood_11, if01]
    cases b with
    | true =>
      rw [if_pos rfl, E_M_layGood_14]
      exact go true (by simp)
    | false =>
      rw [if_neg (by simp), E_M_layGood_12]
      simp (disch := omega) only [obj_e (z94 p.1), m17 p, m25 p, idx_n (z110 p.1), idx_n (z113 p.1)]
      rw [(mw.2 k _ hq).1, ids k _ hq, hl, calI_e (M_can d p (by omega) hrow hmv h12.m hl3 (by omega)), if01]
      by_cases y : canB r.2.2.2[i] c l (idn w q.2) = true
      · obtain ⟨y1, y2, y3⟩ := canB_t y
        have h12' := goC_12 hmv h12 hx12
        have hlt := eM_lt h12'.m
        have hc' : rq r (prs w (k + 1)) (goC r.2.2.2[i] c (idn w q.2)) := by
          rw [prs_s hq, hl]; exact ⟨c, hc, i, _, hm, y1, y2, y3⟩
        rw [if_pos y, E_M_layGood_13]
        simp (disch := omega) only [obj_e (z94 p.1), m25 p, idx_n (z113 p.1)]
        rw [ids k _ hq, calI_e (M_behind d p (by omega) hrow hmv h12.m (by omega)), m32 p, show zI 29478 * (zI (k : Int) + zI 1) + zI ((eM (goC r.2.2.2[i] c (idn w q.2)) : Nat) : Int) = zI ((29478 * (k + 1) + eM (goC r.2.2.2[i] c (idn w q.2)) : Nat) : Int) from by rw [zI_add, zI_mul, zI_add]; rfl]
        simp (disch := omega) only [idx_n (z119 p.1)]
        rw [gd _ hc', if01]
        by_cases z : gq r (sfx w (k + 1)) (goC r.2.2.2[i] c (idn w q.2))
        · rw [if_pos (bl_t.mpr z), E_M_layGood_14]
          exact go true ⟨fun _ => Or.inr ⟨_, _, hm, y1, y2, y3, z⟩, fun _ => rfl⟩
        · rw [if_neg (by rw [bl_t]; exact z), E_M_layGood_15]
          refine go false ⟨fun h => Or.inl h, ?_⟩
          rintro (h | ⟨c', m, b1, b2, b3, b4, b5⟩)
          · exact h
          · rw [hm] at b1; cases b1
            rw [y3] at b4; cases b4
            exact absurd b5 z
      · rw [if_neg y, E_M_layGood_15]
        refine go false ⟨fun h => Or.inl h, ?_⟩
        rintro (h | ⟨c', m, b1, b2, b3, b4, b5⟩)
        · exact h
        · rw [hm] at b1; cases b1
          exact absurd (canB_i b2 b3 b4).1 y
theorem lg_row (d : Nat) {j k : Nat} {r : Rdr} {w : Rw} {cs : List Cfg} (hv : RV r) (hj : j < 2) (hw : WV w) (hg : gaps w = 0) (hk : k ≤ w.length) (hcs : ∀ c, c ∈ cs ↔ rq r (prs w k) c) : ∀ (n i : Nat) (h : AH), i + n = cs.length → MS h → MR h j r → MW h w → IDS h w → ML h k cs → (k < w.length → GD h r w (k + 1)) → (∀ (t : Nat) (c : Cfg), t < i → cs[t]? = some c → hI h 119 (29478 * k + eM c) = zI (if bl (gq r (sfx w k) c) then 1 else 0)) →
    ∃ h', Rk B_M_layGood L_M_layGood (Cc (d + 2)) 3 [aR (some 94), aI (zI j), aI (zI k), aI (zI i), aU, aU, aU] [] h = Rk B_M_layGood L_M_layGood (Cc (d + 2)) 18 [aR (some 94), aI (zI j), aI (zI k), aU, aU, aU, aU] [] h' ∧ mfr (fun a t => a = 119 ∧ 29478 * k ≤ t ∧ t < 29478 * (k + 1)) h h' ∧ GD h' r w k
  | 0, i, h, hn, p, mr, mw, ids, ml, gd, hd => by
    have hL := c12_len ml.1 ml.2.1
    have hwl := hw.1
    refine ⟨h, ?_, mfr.rf _ h, ?_⟩
    · rw [E_M_layGood_3]
      simp (disch := omega) only [obj_e (z94 p.1), m27 p, idx_n (z115 p.1), ml.2.2.1, nlt]
      rw [if_neg (by omega)]
    · intro c hc
      obtain ⟨t, ht, e⟩ := List.getElem_of_mem ((hcs c).mpr hc)
      exact hd t c (by omega) (by rw [List.getElem?_eq_getElem ht, e])
  | n + 1, i, h, hn, p, mr, mw, ids, ml, gd, hd => by
    have hL := c12_len ml.1 ml.2.1
    have hwl := hw.1
    have hci : cs[i]? = some cs[i] := List.getElem?_eq_getElem (by omega)
    have h12 := ml.2.1 cs[i] (List.getElem_mem (by omega))
    have hlt := eM_lt h12.m
    have hrq := (hcs cs[i]).mp (List.getElem_mem (by omega))
    -- behind the inner loop
    have b17 : ∀ b : Bool, (b = true ↔ gq r (sfx w k) cs[i]) → ∃ h', Rk B_M_layGood L_M_layGood (Cc (d + 2)) 17 [aR (some 94), aI (zI j), aI (zI k), aI (zI i), aI (zI (eM cs[i])), aI (zI (if b then 1 else 0)), aU] [] h = Rk B_M_layGood L_M_layGood (Cc (d + 2)) 18 [aR (some 94), aI (zI j), aI (zI k), aU, aU, aU, aU] [] h' ∧ mfr (fun a t => a = 119 ∧ 29478 * k ≤ t ∧ t < 29478 * (k + 1)) h h' ∧ GD h' r w k := by
      intro b hb
      have eb : b = bl (gq r (sfx w k) cs[i]) := by rw [Bool.eq_iff_iff, hb, bl_t]
      have f1 : mfr (fun a t => a = 119 ∧ 29478 * k ≤ t ∧ t < 29478 * (k + 1)) h (sI h 119 (29478 * k + eM cs[i]) (zI (if b then 1 else 0))) := mfr_sI h (by omega) _
      obtain ⟨h', e, f2, g2⟩ := lg_row d hv hj hw hg hk hcs n (i + 1) (sI h 119 (29478 * k + eM cs[i]) (zI (if b then 1 else 0))) (by omega) (p.mf f1) (mr.mv f1 (by intro a t; omega)) (mw.mv f1 (by omega) (by omega) (by omega)) (fun t q hq => by rw [f1.I (by omega)]; exact ids t q hq) (ml.mv f1 (by omega) (by intro t ht; omega)) (fun hk c hc => by
          rw [hI_off (by omega)]; exact gd hk c hc) (by
        intro t c ht hc
        by_cases z : t = i
        · subst z; rw [hci] at hc; cases hc; rw [hI_hit, eb]
        · have hc12 := ml.2.1 c (List.mem_of_getElem? hc)
          rw [hI_off (Or.inr ?_)]
          · exact hd t c (by omega) hc
          · intro e
            have e2 := eM_inj hc12.m h12.m (by omega)
            have h1 := (List.getElem?_eq_some_iff.mp hc)
            exact z ((List.getElem?_inj h1.1 ml.1).mp (by rw [hc, hci, e2])))
      refine ⟨h', ?_, f1.tr f2, g2⟩
      rw [E_M_layGood_17, obj_e (z94 p.1), if_pos (by cases b; exact Or.inl rfl; exact Or.inr rfl), m32 p, show zI 29478 * zI (k : Int) + zI ((eM cs[i] : Nat) : Int) = zI ((29478 * k + eM cs[i] : Nat) : Int) from by rw [zI_mul, zI_add]; rfl]
      simp (disch := omega) only [idx_n (z119 p.1), lt_e, nadd1]
      exact e
    rw [E_M_layGood_3]
    simp (disch := omega) only [obj_e (z94 p.1), m27 p, idx_n (z115 p.1), ml.2.2.1, nlt]
    rw [if_pos (by omega), E_M_layGood_4, show zI 24600 * zI (k : Int) + zI (i : Int) = zI ((24600 * k + i : Nat) : Int) from by rw [zI_mul, zI_add]; rfl]
    simp (disch := omega) only [obj_e (z94 p.1), m26 p, idx_n (z114 p.1), ml.2.2.2 i _ hci, lt_e, mw.1, neq]
    have e0 : zI 20 * zI (j : Int) = zI ((20 * j + 0 : Nat) : Int) := by rw [zI_mul]; rfl
    by_cases z : k = w.length
    · have hs : sfx w k = [] := by rw [z]; exact sfx_n _
      have stop : ∀ b : Bool, Rk B_M_layGood L_M_layGood (Cc (d + 2)) 8 [aR (some 94), aI (zI j), aI (zI k), aI (zI i), aI (zI (eM cs[i])), aU, aU] [aI (zI (if b then 1 else 0))] h = Rk B_M_layGood L_M_layGood (Cc (d + 2)) 17 [aR (some 94), aI (zI j), aI (zI k), aI (zI i), aI (zI (eM cs[i])), aI (zI (if b then 1 else 0)), aU] [] h := by
        intro b
        rw [E_M_layGood_8, lt_e, lt_e, E_M_layGood_9, obj_e (z94 p.1), mw.1]
        simp (disch := omega) only [nlt]
        rw [if_neg (by omega)]
      rw [if_pos z, E_M_layGood_5, obj_e (z94 p.1), calI_e (M_isTaken _ p hj mr hv (by omega)), if01, eM_q h12.m]
      cases y : tks r cs[i].1 with
      | true =>
        rw [if_pos rfl, E_M_layGood_6]
        have := stop true
        rw [if_pos rfl] at this
        rw [this]
        have := b17 true (by rw [hs]; exact ⟨fun _ => y, fun _ => rfl⟩)
        exact this
      | false =>
        rw [if_neg (by simp), E_M_layGood_7]
        have := stop false
        rw [if_neg (by simp)] at this
        rw [this]
        have := b17 false (by rw [hs]; exact ⟨fun h => (by cases h), fun h => (by rw [show tks r cs[i].1 = true from h] at y; cases y)⟩)
        exact this
    · have hq : w[k]? = some w[k] := List.getElem?_eq_getElem (by omega)
      obtain ⟨v0, v00, v1, v2, v3, v4⟩ := hw.at hq
      obtain ⟨n1, n2⟩ := nogap hg hq
      obtain ⟨l, hl2⟩ : ∃ l : Nat, w[k].1 = l := ⟨w[k].1.toNat, by omega⟩
      obtain ⟨b', e, hb⟩ := lg_in d (i0 := i) hv hj hw hq hl2 (by omega) p mr mw ids (gd (by omega)) hrq r.2.2.2.length 0 false (by omega)
      rw [if_neg z, E_M_layGood_7, E_M_layGood_8, lt_e, lt_e, e0]
      rw [if_neg (by simp)] at e
      rw [e]
      apply b17
      rw [hb, sfx_s hq, hl2]
      constructor
      · rintro (h | ⟨t, c', h1, m, a1, a2, a3, a4, a5⟩)
        · cases h
        · exact ⟨c', ⟨t, m, a1, a2, a3, a4⟩, a5⟩
      · rintro ⟨c', ⟨t, m, a1, a2, a3, a4⟩, a5⟩
        exact Or.inr ⟨t, c', Nat.zero_le _, m, a1, a2, a3, a4, a5⟩
theorem lg_lp (d : Nat) {j : Nat} {r : Rdr} {w : Rw} (hv : RV r) (hj : j < 2) (hw : WV w) (hg : gaps w = 0) : ∀ (k : Nat) (h : AH), k ≤ w.length + 1 → MS h → MR h j r → MW h w → IDS h w → MLS h r w w.length → (∀ t, k ≤ t → t ≤ w.length → GD h r w t) →
    ∃ h', Rk B_M_layGood L_M_layGood (Cc (d + 2)) 1 [aR (some 94), aI (zI j), aI (zI ((k : Int) - 1)), aU, aU, aU, aU] [] h = some (none, h') ∧ mfr (fun a t => a = 119) h h' ∧ (∀ t, t ≤ w.length → GD h' r w t)
  | 0, h, hk, p, mr, mw, ids, mls, gd => by
    refine ⟨h, ?_, mfr.rf _ h, fun t ht => gd t (by omega) ht⟩
    rw [E_M_layGood_1, if_pos (by decide), E_M_layGood_19]
  | k + 1, h, hk, p, mr, mw, ids, mls, gd => by
    have hwl := hw.1
    obtain ⟨cs, ml, hcs⟩ := mls k (by omega)
    obtain ⟨h1, e1, f1, g1⟩ := lg_row d hv hj hw hg (by omega) hcs cs.length 0 h (by omega) p mr mw ids ml (fun hk => gd (k + 1) (by omega) (by omega)) (by intro t c ht; omega)
    have f1' : mfr (fun a t => a = 119) h h1 := f1.mo (fun a t hh => hh.1)
    obtain ⟨h2, e2, f2, g2⟩ := lg_lp d hv hj hw hg k h1 (by omega) (p.mf f1) (mr.mv f1' (by intro a t; omega)) (mw.mv f1' (by omega) (by omega) (by omega)) (fun t q hq => by rw [f1'.I (by omega)]; exact ids t q hq) (fun D hD => by
        obtain ⟨cs', a1, a2⟩ := mls D hD
        exact ⟨cs', a1.mv f1' (by omega) (by intro t ht; omega), a2⟩) (fun t h1' h2' => by
        by_cases z : t = k
        · subst z; exact g1
        · intro c hc
          have hlt := eM_lt (rq_12 hv _ c (prs_12 hw t) hc).m
          rw [f1.I (by omega)]; exact gd t (by omega) h2' c hc)
    refine ⟨h2, ?_, f1'.tr f2, g2⟩
    rw [show (((k + 1 : Nat) : Int) - 1) = (k : Int) by omega, E_M_layGood_1]
    simp (disch := omega) only [nlt0, if_false]
    rw [E_M_layGood_2, lt_e, zc0, e1, E_M_layGood_18, lt_e, show zI (k : Int) + zI (-1) = zI ((k : Int) - 1) from zI_add _ _]
    exact e2
theorem M_layGood (d : Nat) {k : Nat} {s : Stt} {h : AH} {x : Int} (a1 : x = 0 ∨ x = 1) (hk : k < 512) (v : VS s) (p : MI k s h) (hg : gaps s.2.2.2 = 0) : ∃ h', Cc (d + 5) k_M_layGood [aR (some 94), aI (zI x)] h = some (none, h') ∧ mfr (fun a _ => 94 ≤ a) h h' ∧ (∀ t, t ≤ s.2.2.2.length → GD h' (rdr s x) s.2.2.2 t) ∧ IDS h' s.2.2.2 ∧ MI (k + 1) s h' := by
  have hl := v.2.2.2.1
  obtain ⟨h1, u, e1, f1, ml1, -, i1, -, -, p1⟩ := M_goAll d a1 hk v p hg
  obtain ⟨j, rfl⟩ : ∃ j : Nat, x = j := ⟨x.toNat, by omega⟩
  have mr := p1.mr a1
  rw [Int.toNat_natCast] at mr
  obtain ⟨h2, e2, f2, g2⟩ := lg_lp (d + 2) (v.rv j) (by omega : j < 2) v.2.2.2 hg (s.2.2.2.length + 1) h1 (by omega) p1.1 mr p1.2.2.2.2.1 i1 ml1 (by intro t h1 h2; omega)
  refine ⟨h2, ?_, (f1.mo (by intro a j; unfold fL; omega)).tr (f2.mo (by intro a j; omega)), g2, fun t q hq => by rw [f2.I (by omega)]; exact i1 t q hq, p1.mv f2 (by intro a j hh; unfold scr; omega)⟩
  rw [C_M_layGood, E_M_layGood_0, obj_e (z94 p.1.1), calV_e e1, obj_e (z94 p1.1.1), p1.2.2.2.2.1.1, lt_e]
  rw [show (((s.2.2.2.length + 1 : Nat) : Int) - 1) = (s.2.2.2.length : Int) by omega] at e2
  exact e2
