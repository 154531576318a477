/-! the model: its told names, gaps, count -/
def idl (l : List Int) (n : Int) : Nat := if n ∈ l then l.idxOf n + 1 else 0
def TN (h : AH) (l : List Int) : Prop := hI h 94 24 = zI l.length ∧ ∀ (i : Nat) (n : Int), l[i]? = some n → hI h 112 i = zI n
theorem idl_s {l : List Int} (nd : l.Nodup) {i : Nat} {m : Int} (hm : l[i]? = some m) (n : Int) : idl (l.take (i + 1)) n = if m = n then i + 1 else idl (l.take i) n := by
  obtain ⟨hi, e⟩ := List.getElem?_eq_some_iff.mp hm
  have e1 : l.take (i + 1) = l.take i ++ [m] := by rw [List.take_add_one, hm]; rfl
  have nd2 : (l.take i ++ [m]).Nodup := by rw [← e1]; exact nd.sublist (List.take_sublist _ _)
  have hn : m ∉ l.take i := by
    intro q
    rw [List.nodup_append] at nd2
    exact nd2.2.2 m q m (by simp) rfl
  unfold idl
  rw [e1]
  by_cases z : m = n
  · subst z
    rw [if_pos (by simp), List.idxOf_append, if_neg hn, if_pos rfl]
    simp
    omega
  · rw [if_neg z]
    by_cases y : n ∈ l.take i
    · rw [if_pos (List.mem_append_left _ y), if_pos y, List.idxOf_append, if_pos y]
    · rw [if_neg y, if_neg]
      intro q
      rcases List.mem_append.mp q with q | q
      · exact y q
      · exact z (List.mem_singleton.mp q).symm
theorem idl_le (l : List Int) (n : Int) : idl l n ≤ l.length := by
  unfold idl; split
  · rename_i q; have := List.idxOf_lt_length_of_mem q; omega
  · omega
theorem M_idOf (d : Nat) {h : AH} {l : List Int} (p : MS h) (t : TN h l) (nd : l.Nodup) (hl : l.length ≤ 16) (hb : ∀ m, m ∈ l → -2147483648 ≤ m ∧ m < 2147483648) {n : Int} (n1 : -2147483648 ≤ n) (n2 : n < 2147483648) : Cc (d + 1) k_M_idOf [aR (some 94), aI (zI n)] h = some (some (aI (zI (idl l n))), h) := by
  have lp : ∀ k i : Nat, i + k = l.length → Rk B_M_idOf L_M_idOf (Cc d) 1 [aR (some 94), aI (zI n), aI (zI (idl (l.take i) n)), aI (zI i)] [] h = some (some (aI (zI (idl l n))), h) := by
    intro k
    induction k with
    | zero =>
      intro i hi
      have : i = l.length := by omega
      subst this
      rw [E_M_idOf_1, obj_e (z94 p.1), t.1]
      simp (disch := omega) only [nlt]
      rw [if_neg (by omega), E_M_idOf_6, List.take_length]
    | succ k ih =>
      intro i hi
      have hm : l[i]? = some l[i] := List.getElem?_eq_getElem (by omega)
      have hb2 := hb l[i] (List.getElem_mem (by omega))
      rw [E_M_idOf_1, obj_e (z94 p.1), t.1]
      simp (disch := omega) only [nlt]
      rw [if_pos (by omega), E_M_idOf_2, obj_e (z94 p.1), m23 p]
      simp (disch := omega) only [idx_n (z112 p.1)]
      rw [t.2 i _ hm]
      have := ih (i + 1) (by omega)
      rw [idl_s nd hm] at this
      simp (disch := omega) only [yeq]
      by_cases z : l[i] = n
      · rw [if_pos z] at this ⊢
        rw [E_M_idOf_3, E_M_idOf_5, lt_e, lt_e, nadd1]
        exact this
      · rw [if_neg z] at this ⊢
        rw [E_M_idOf_4, E_M_idOf_5, lt_e, lt_e, nadd1]
        exact this
  rw [C_M_idOf, E_M_idOf_0, lt_e, lt_e]
  exact lp l.length 0 (by omega)
theorem tn_b {w : Rw} (hw : WV w) (i : Nat) : ∀ m, m ∈ tn (w.take i) → -1 ≤ m ∧ m ≤ 99 := by
  intro m hm
  obtain ⟨-, p, hp, e⟩ := tn_mem.mp hm
  have := hw.2 p (List.mem_of_mem_take hp)
  omega
theorem idl_w {w : Rw} {i : Nat} {p : Int × Int} (hp : w[i]? = some p) : idl (tn (w.take (i + 1))) p.2 = idn w p.2 := by
  obtain ⟨l, e⟩ := tn_take w (i + 1)
  unfold idl idn
  by_cases z : p.2 = -1
  · rw [if_neg (fun q => (tn_mem.mp q).1 z), if_neg (fun q => (tn_mem.mp q).1 z)]
  · have hm : p.2 ∈ tn (w.take (i + 1)) := by
      rw [tn_mem]
      refine ⟨z, p, ?_, rfl⟩
      rw [List.take_add_one, hp]; simp
    rw [if_pos hm, if_pos (by rw [e]; exact List.mem_append_left _ hm), e, List.idxOf_append, if_pos hm]
def IDS (h : AH) (w : Rw) : Prop := ∀ (i : Nat) (p : Int × Int), w[i]? = some p → hI h 113 i = zI (idn w p.2)
theorem M_layNames_lp (d : Nat) {w : Rw} (hw : WV w) : ∀ (k i : Nat) (h : AH), i + k = w.length → MS h → MW h w → TN h (tn (w.take i)) → (∀ (j : Nat) (q : Int × Int), j < i → w[j]? = some q → hI h 113 j = zI (idn w q.2)) →
    ∃ h', Rk B_M_layNames L_M_layNames (Cc (d + 1)) 1 [aR (some 94), aI (zI i)] [] h = some (none, h') ∧ mfr (fun a j => (a = 94 ∧ j = 24) ∨ a = 112 ∨ a = 113) h h' ∧ TN h' (tn w) ∧ IDS h' w
  | 0, i, h, hk, p, mw, t, hid => by
    have : i = w.length := by omega
    subst this
    have hl := hw.1
    rw [List.take_length] at t
    refine ⟨h, ?_, mfr.rf _ h, t, fun j q hq => hid j q (hw.at hq).2.1 hq⟩
    rw [E_M_layNames_1, obj_e (z94 p.1), mw.1]
    simp (disch := omega) only [nlt]
    rw [if_neg (by omega), E_M_layNames_9]
  | k + 1, i, h, hk, p, mw, t, hid => by
    have hl := hw.1
    have hp : w[i]? = some w[i] := List.getElem?_eq_getElem (by omega)
    obtain ⟨v0, v00, v1, v2, v3, v4⟩ := hw.at hp
    have tl := tn_len (w.take i)
    rw [List.length_take] at tl
    have tl2 := tn_len (w.take (i + 1))
    rw [List.length_take] at tl2
    have es := tn_s hp
    -- block 5: the number is laid
    have b5 : ∀ h1, mfr (fun a j => (a = 94 ∧ j = 24) ∨ a = 112) h h1 → TN h1 (tn (w.take (i + 1))) → ∃ h', Rk B_M_layNames L_M_layNames (Cc (d + 1)) 5 [aR (some 94), aI (zI i)] [] h1 = some (none, h') ∧ mfr (fun a j => (a = 94 ∧ j = 24) ∨ a = 112 ∨ a = 113) h h' ∧ TN h' (tn w) ∧ IDS h' w := by
      intro h1 f1 t1
      have p1 := p.mf f1
      have mw1 := mw.mv f1 (by omega) (by omega) (by omega)
      have f2 : mfr (fun a j => a = 113) h1 (sI h1 113 i (zI (idn w w[i].2))) := mfr_sI (F := fun a j => a = 113) h1 rfl _
      obtain ⟨h', e, f, q1, q2⟩ := M_layNames_lp d hw k (i + 1) (sI h1 113 i (zI (idn w w[i].2))) (by omega) (p1.mf f2) (mw1.mv f2 (by omega) (by omega) (by omega)) ⟨by rw [hI_off (by omega)]; exact t1.1, fun j n hj => by rw [hI_off (by omega)]; exact t1.2 j n hj⟩ (by
        intro j q hj hq
        by_cases z : j = i
        · subst z; rw [hI_hit]; rw [hp] at hq; cases hq; rfl
        · rw [hI_off (by omega), f1.I (by omega)]; exact hid j q (by omega) hq)
      refine ⟨h', ?_, ((f1.mo fun a j hh => by omega).tr (f2.mo fun a j hh => by omega)).tr f, q1, q2⟩
      have b8 : Rk B_M_layNames L_M_layNames (Cc (d + 1)) 8 [aR (some 94), aI (zI i)] [aI (zI (idn w w[i].2)), aI (zI i), aR (some 113)] h1 = some (none, h') := by
        rw [E_M_layNames_8]
        simp (disch := omega) only [idx_n (z113 p1.1), lt_e, nadd1]
        exact e
      rw [E_M_layNames_5]
      simp (disch := omega) only [obj_e (z94 p1.1), m18 p1, m25 p1, idx_n (z111 p1.1)]
      rw [(mw1.2 i _ hp).2]
      simp (disch := omega) only [yeq]
      by_cases z : w[i].2 = -1
      · rw [if_pos z, E_M_layNames_6]
        rw [z, idn_gap] at b8
        exact b8
      · rw [if_neg z, E_M_layNames_7]
        simp (disch := omega) only [obj_e (z94 p1.1), m18 p1, idx_n (z111 p1.1)]
        rw [(mw1.2 i _ hp).2, calI_e (M_idOf d p1 t1 (tn_nd _) (by omega) (fun m hm => by have := tn_b hw _ m hm; omega) (by omega) (by omega)), idl_w hp]
        exact b8
    rw [E_M_layNames_1, obj_e (z94 p.1), mw.1]
    simp (disch := omega) only [nlt]
    rw [if_pos (by omega), E_M_layNames_2]
    simp (disch := omega) only [obj_e (z94 p.1), m18 p, idx_n (z111 p.1)]
    rw [(mw.2 i _ hp).2]
    simp (disch := omega) only [yeq]
    by_cases z : w[i].2 = -1
    · rw [if_pos z]
      exact b5 h (mfr.rf _ h) (by rw [es, addN, if_pos (Or.inl z)]; exact t)
    · rw [if_neg z, E_M_layNames_3]
      have hi1 := idl_le (tn (w.take i)) w[i].2
      simp (disch := omega) only [obj_e (z94 p.1), m18 p, idx_n (z111 p.1)]
      rw [(mw.2 i _ hp).2, calI_e (M_idOf d p t (tn_nd _) (by omega) (fun m hm => by have := tn_b hw _ m hm; omega) (by omega) (by omega))]
      simp (disch := omega) only [neq0]
      by_cases y : w[i].2 ∈ tn (w.take i)
      · rw [if_neg (by unfold idl; rw [if_pos y]; omega)]
        exact b5 h (mfr.rf _ h) (by rw [es, addN, if_pos (Or.inr y)]; exact t)
      · rw [if_pos (by unfold idl; rw [if_neg y]), E_M_layNames_4]
        simp (disch := omega) only [obj_e (z94 p.1), m18 p, m23 p, t.1, idx_n (z111 p.1), idx_n (z112 p.1), lt_e, obj_sI, mb_some, hI_off, nadd1]
        rw [(mw.2 i _ hp).2]
        refine b5 _ ((mfr_sI h (by omega) _).tr (mfr_sI _ (by omega) _)) ?_
        have e1 : tn (w.take (i + 1)) = tn (w.take i) ++ [w[i].2] := by
          rw [es, addN, if_neg (by intro q; rcases q with q | q; exact z q; exact y q)]
        rw [e1]
        refine ⟨by rw [hI_hit]; simp, ?_⟩
        intro j n hj
        rw [hI_off (by omega)]
        by_cases x : j < (tn (w.take i)).length
        · rw [List.getElem?_append_left x] at hj
          rw [hI_off (by omega)]; exact t.2 j n hj
        · have h1 := (List.getElem?_eq_some_iff.mp hj).1
          rw [List.length_append] at h1
          simp at h1
          have : j = (tn (w.take i)).length := by omega
          subst this
          simp at hj
          rw [hI_hit, hj]
theorem M_layNames (d : Nat) {k : Nat} {s : Stt} {h : AH} (v : VS s) (p : MI k s h) : ∃ h', Cc (d + 2) k_M_layNames [aR (some 94)] h = some (none, h') ∧ mfr (fun a j => (a = 94 ∧ j = 24) ∨ a = 112 ∨ a = 113) h h' ∧ TN h' (tn s.2.2.2) ∧ IDS h' s.2.2.2 ∧ MI k s h' := by
  have f0 : mfr (fun a j => (a = 94 ∧ j = 24) ∨ a = 112 ∨ a = 113) h (sI h 94 24 (zI 0)) := mfr_sI h (by omega) _
  obtain ⟨h', e, f, t, q⟩ := M_layNames_lp d v.2.2.2 s.2.2.2.length 0 (sI h 94 24 (zI 0)) (by omega) (p.1.mf f0) (p.2.2.2.2.1.mv f0 (by omega) (by omega) (by omega)) ⟨by rw [hI_hit]; rfl, by intro i n hn; simp [tn] at hn⟩ (by intro j q hj; omega)
  refine ⟨h', ?_, f0.tr f, t, q, p.mv (f0.tr f) (fun a j hh => by unfold scr; omega)⟩
  rw [C_M_layNames, E_M_layNames_0, obj_e (z94 p.1.1), mb_some, lt_e]
  exact e
theorem M_isGap (d : Nat) {h : AH} {w : Rw} (hw : WV w) (p : MS h) (mw : MW h w) {i : Nat} {q : Int × Int} (hq : w[i]? = some q) : Cc (d + 1) k_M_isGap [aR (some 94), aI (zI i)] h = some (some (aI (zI (gp2 q))), h) := by
  obtain ⟨v0, v00, v1, v2, v3, v4⟩ := hw.at hq
  rw [C_M_isGap, E_M_isGap_0]
  simp (disch := omega) only [obj_e (z94 p.1), m17 p, idx_n (z110 p.1)]
  rw [(mw.2 i q hq).1]
  simp (disch := omega) only [yeq]
  unfold gp2
  by_cases z : q.1 = -1
  · simp [z, E_M_isGap_2, E_M_isGap_4, zI_0, zI_1]
  · rw [if_neg z, E_M_isGap_1]
    simp (disch := omega) only [obj_e (z94 p.1), m18 p, idx_n (z111 p.1)]
    rw [(mw.2 i q hq).2]
    simp (disch := omega) only [yeq]
    by_cases y : q.2 = -1
    · simp [y, E_M_isGap_2, E_M_isGap_4, zI_0, zI_1]
    · simp [z, y, E_M_isGap_3, E_M_isGap_4, zI_0, zI_1]
theorem M_gapPairs (d : Nat) {h : AH} {w : Rw} (hw : WV w) (p : MS h) (mw : MW h w) : Cc (d + 2) k_M_gapPairs [aR (some 94)] h = some (some (aI (zI (gapPairs w))), h) := by
  have hl := hw.1
  have lp : ∀ k i : Nat, i + k = w.length → Rk B_M_gapPairs L_M_gapPairs (Cc (d + 1)) 1 [aR (some 94), aI (zI (gapPairs (w.take i))), aI (zI i)] [] h = some (some (aI (zI (gapPairs w))), h) := by
    intro k
    induction k with
    | zero =>
      intro i hi
      have : i = w.length := by omega
      subst this
      rw [E_M_gapPairs_1, obj_e (z94 p.1), mw.1]
      simp (disch := omega) only [nlt]
      rw [if_neg (by omega), E_M_gapPairs_6, List.take_length]
    | succ k ih =>
      intro i hi
      have hq : w[i]? = some w[i] := List.getElem?_eq_getElem (by omega)
      have g2 := gp2_le w[i]
      have := ih (i + 1) (by omega)
      unfold gapPairs at this ⊢
      rw [sm_take hq] at this
      rw [E_M_gapPairs_1, obj_e (z94 p.1), mw.1]
      simp (disch := omega) only [nlt]
      rw [if_pos (by omega), E_M_gapPairs_2, obj_e (z94 p.1), calI_e (M_isGap d hw p mw hq)]
      simp (disch := omega) only [neq0]
      by_cases x : gp2 w[i] = 0
      · rw [if_pos x, E_M_gapPairs_4, E_M_gapPairs_5, lt_e, lt_e, nadd1, zc0, nadd]
        rw [x] at this; exact this
      · rw [if_neg x, E_M_gapPairs_3, E_M_gapPairs_5, lt_e, lt_e, nadd1, nadd1]
        rw [show gp2 w[i] = 1 by omega] at this; exact this
  rw [C_M_gapPairs, E_M_gapPairs_0, lt_e, lt_e]
  exact lp w.length 0 (by omega)
theorem M_count {w : Int} (k1 : -2147483648 ≤ w) (k2 : w < 2147483648) : MOK k_M_count [aI (zI w)] (fun s => cnt s w) id := by
  intro s k h hk v p
  obtain ⟨h', e, f, t, ids, p'⟩ := M_layNames 57 v p
  refine ⟨h', ?_, f.mo (fun a j hh => by omega), p'.up⟩
  have hw := v.2.2.2
  have hl := hw.1
  have mw := p'.2.2.2.2.1
  rw [C_M_count, E_M_count_0, obj_e (z94 p.1.1), calV_e e, lt_e, zI_toInt k1 k2]
  by_cases a : w < 0 ∨ 5 < w
  · rw [if_pos a, E_M_count_16]
    simp only [cnt, show ¬ w = 0 by omega, show ¬ w = 1 by omega, show ¬ w = 2 by omega, show ¬ w = 3 by omega, show ¬ w = 4 by omega, show ¬ w = 5 by omega, if_false]
  · rw [if_neg a]
    obtain ⟨n, rfl⟩ : ∃ n : Nat, w = n := ⟨w.toNat, by omega⟩
    have sw : ∀ (t : Nat) (x y : Int32), t = 1 ∨ t = 12 ∨ t = 13 ∨ t = 14 ∨ t = 15 → msk (L_M_count t) [aR (some 94), aI x, aI y, aU] = [aR (some 94), aU, aU, aU] := by
      intro t x y h1
      rcases h1 with rfl | rfl | rfl | rfl | rfl <;> rfl
    have hn : n = 0 ∨ n = 1 ∨ n = 2 ∨ n = 3 ∨ n = 4 ∨ n = 5 := by omega
    rcases hn with rfl | rfl | rfl | rfl | rfl | rfl
    · rw [mb_e (show ([1, 2, 12, 13, 14, 15] : List Nat)[(((0 : Nat) : Int) - 0).toNat]? = some 1 from rfl), sw 1 _ _ (by omega), E_M_count_1, obj_e (z94 p'.1.1), mw.1]; simp [cnt]
    · rw [mb_e (show ([1, 2, 12, 13, 14, 15] : List Nat)[(((1 : Nat) : Int) - 0).toNat]? = some 2 from rfl), show msk (L_M_count 2) [aR (some 94), aI (zI ((1 : Nat) : Int)), aI (zI 0), aU] = [aR (some 94), aU, aI (zI 0), aU] from rfl, E_M_count_2, lt_e]
      have lp : ∀ k i : Nat, i + k = s.2.2.2.length → Rk B_M_count L_M_count (Cc 59) 3 [aR (some 94), aU, aI (zI (gaps (s.2.2.2.take i))), aI (zI i)] [] h' = some (some (aI (zI (gaps s.2.2.2))), h') := by
        intro k
        induction k with
        | zero =>
          intro i hi
          have : i = s.2.2.2.length := by omega
          subst this
          rw [E_M_count_3, obj_e (z94 p'.1.1), mw.1]
          simp (disch := omega) only [nlt]
          rw [if_neg (by omega), E_M_count_11, List.take_length]
        | succ k ih =>
          intro i hi
          have hq : s.2.2.2[i]? = some s.2.2.2[i] := List.getElem?_eq_getElem (by omega)
          obtain ⟨v0, v00, v1, v2, v3, v4⟩ := hw.at hq
          have := ih (i + 1) (by omega)
          unfold gaps at this ⊢
          rw [sm_take hq] at this
          rw [E_M_count_3, obj_e (z94 p'.1.1), mw.1]
          simp (disch := omega) only [nlt]
          rw [if_pos (by omega), E_M_count_4]
          simp (disch := omega) only [obj_e (z94 p'.1.1), m17 p'.1, idx_n (z110 p'.1.1)]
          rw [(mw.2 i _ hq).1]
          simp (disch := omega) only [yeq]
          have b7 : ∀ y : Nat, y = (if s.2.2.2[i].1 = -1 then 1 else 0) → Rk B_M_count L_M_count (Cc 59) 7 [aR (some 94), aU, aU, aI (zI i)] [aI (zI y), aI (zI (sm gp1 (s.2.2.2.take i)))] h' = some (some (aI (zI (sm gp1 s.2.2.2))), h') := by
            intro y hy
            have b10 : ∀ x : Nat, x = (if s.2.2.2[i].2 = -1 then 1 else 0) → Rk B_M_count L_M_count (Cc 59) 10 [aR (some 94), aU, aU, aI (zI i)] [aI (zI x), aI (zI y), aI (zI (sm gp1 (s.2.2.2.take i)))] h' = some (some (aI (zI (sm gp1 s.2.2.2))), h') := by
              intro x hx
              rw [E_M_count_10, lt_e, lt_e, nadd, nadd, nadd1, show y + x = gp1 s.2.2.2[i] by unfold gp1; omega]
              exact this
            rw [E_M_count_7]
            simp (disch := omega) only [obj_e (z94 p'.1.1), m18 p'.1, idx_n (z111 p'.1.1)]
            rw [(mw.2 i _ hq).2]
            simp (disch := omega) only [yeq]
            by_cases z : s.2.2.2[i].2 = -1
            · rw [if_pos z, E_M_count_8]; exact b10 1 (by rw [if_pos z])
            · rw [if_neg z, E_M_count_9]; exact b10 0 (by rw [if_neg z])
          by_cases z : s.2.2.2[i].1 = -1
          · rw [if_pos z, E_M_count_5]; exact b7 1 (by rw [if_pos z])
          · rw [if_neg z, E_M_count_6]; exact b7 0 (by rw [if_neg z])
      have := lp s.2.2.2.length 0 (by omega)
      refine Eq.trans this ?_
      simp [cnt]
    · rw [mb_e (show ([1, 2, 12, 13, 14, 15] : List Nat)[(((2 : Nat) : Int) - 0).toNat]? = some 12 from rfl), sw 12 _ _ (by omega), E_M_count_12, obj_e (z94 p'.1.1), t.1]; simp [cnt]
    · rw [mb_e (show ([1, 2, 12, 13, 14, 15] : List Nat)[(((3 : Nat) : Int) - 0).toNat]? = some 13 from rfl), sw 13 _ _ (by omega), E_M_count_13, obj_e (z94 p'.1.1), p'.2.2.2.1.1]; simp [cnt]
    · rw [mb_e (show ([1, 2, 12, 13, 14, 15] : List Nat)[(((4 : Nat) : Int) - 0).toNat]? = some 14 from rfl), sw 14 _ _ (by omega), E_M_count_14, obj_e (z94 p'.1.1), m3 p'.1, zc0]
      simp (disch := omega) only [idx_n (z98 p'.1.1)]
      rw [p'.2.1.2.2.2.1]; simp [cnt]
    · rw [mb_e (show ([1, 2, 12, 13, 14, 15] : List Nat)[(((5 : Nat) : Int) - 0).toNat]? = some 15 from rfl), sw 15 _ _ (by omega), E_M_count_15, obj_e (z94 p'.1.1), m3 p'.1, zc1]
      simp (disch := omega) only [idx_n (z98 p'.1.1)]
      rw [p'.2.2.1.2.2.2.1]; simp [cnt]
