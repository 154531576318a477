/-! X: Fillings: names -/
theorem Rw_idOf (d : Nat) {w : Rw} {h : AH} (p : RW h w) {n : Nat} (hn : n < 1000) : Cc (d + 1) k_Rw_idOf [aR (some 16), aI (zI n)] h = some (some (aI (zI (idn w (n : Int)))), h) := by
  obtain ⟨hw, hs, h4, hd, h5, h6, h7, hid, h8⟩ := id p
  have hl := hw.1
  have lp : ∀ (k i : Nat), i + k = w.length → (∀ j q, j < i → w[j]? = some q → q.2 ≠ (n : Int)) → Rk B_Rw_idOf L_Rw_idOf (Cc d) 1 [aR (some 16), aI (zI n), aI (zI i)] [] h = some (some (aI (zI (idn w (n : Int)))), h) := by
    intro k
    induction k with
    | zero =>
      intro i hi hno
      have e0 : idn w (n : Int) = 0 := by
        unfold idn
        rw [if_neg]
        intro z
        obtain ⟨-, q, hq, e⟩ := tn_mem.mp z
        obtain ⟨j, hj⟩ := List.mem_iff_getElem?.mp hq
        exact hno j q (by have := (List.getElem?_eq_some_iff.mp hj).1; omega) hj e
      rw [E_Rw_idOf_1, obj_e hs.1, h4]
      simp (disch := omega) only [nlt]
      rw [if_neg (by omega), E_Rw_idOf_5, e0]
      rfl
    | succ k ih =>
      intro i hi hno
      have hq : w[i]? = some w[i] := List.getElem?_eq_getElem (by omega)
      have hb := hw.2 _ (List.mem_of_getElem? hq)
      obtain ⟨d1, d2⟩ := hd i _ hq
      rw [E_Rw_idOf_1, obj_e hs.1, h4]
      simp (disch := omega) only [nlt]
      rw [if_pos (by omega), E_Rw_idOf_2, obj_e hs.1, hs.2.2.2.2.2.2.1]
      simp (disch := omega) only [idx_n hs.2.2.1, d2, yeq]
      by_cases z : w[i].2 = (n : Int)
      · rw [if_pos z, E_Rw_idOf_3, obj_e hs.1, hs.2.2.2.2.2.2.2.1]
        simp (disch := omega) only [idx_n hs.2.2.2.1, hid i _ hq]
        rw [z]
      · rw [if_neg z, E_Rw_idOf_4, nadd1, lt_e]
        refine ih (i + 1) (by omega) (fun j q hj hq' => ?_)
        by_cases y : j = i
        · subst y
          rw [hq] at hq'
          cases hq'
          exact z
        · exact hno j q (by omega) hq'
  rw [C_Rw_idOf, E_Rw_idOf_0, lt_e]
  exact lp w.length 0 (by omega) (fun j q hj => absurd hj (Nat.not_lt_zero _))
def CNn (w : Rw) (n : Nat) : List Nat := (List.range n).filter (fun m => decide (idN w m ≤ (tn w).length + gnm w w.length))
theorem CNn_s (w : Rw) (n : Nat) : CNn w (n + 1) = CNn w n ++ (if idN w n ≤ (tn w).length + gnm w w.length then [n] else []) := by
  unfold CNn
  rw [List.range_succ, List.filter_append]
  by_cases z : idN w n ≤ (tn w).length + gnm w w.length
  · rw [if_pos z]; simp [z]
  · rw [if_neg z]; simp [z]
theorem CNn_len (w : Rw) (n : Nat) : (CNn w n).length ≤ (tn w).length + gnm w w.length := by
  have nd : (CNn w n).Nodup := List.Nodup.sublist List.filter_sublist List.nodup_range
  have nd2 : ((CNn w n).map (fun m => idN w m - 1)).Nodup := by
    rw [List.nodup_iff_pairwise_ne, List.pairwise_map]
    refine List.Pairwise.imp_of_mem ?_ (List.nodup_iff_pairwise_ne.mp nd)
    intro a b _ _ hne e
    have := idN_pos w a
    have := idN_pos w b
    exact hne (idN_inj (w := w) (by omega))
  have := nd_len ((tn w).length + gnm w w.length) _ nd2 (by
    intro x hx
    obtain ⟨m, hm, rfl⟩ := List.mem_map.mp hx
    unfold CNn at hm
    rw [List.mem_filter] at hm
    have h1 := of_decide_eq_true hm.2
    have := idN_pos w m
    omega)
  rwa [List.length_map] at this
theorem CNn_pre (w : Rw) {n m : Nat} (h : n ≤ m) : CNn w n <+: CNn w m := by
  induction m with
  | zero => rw [show n = 0 by omega]; exact List.prefix_refl _
  | succ m ih =>
    by_cases z : n = m + 1
    · rw [z]; exact List.prefix_refl _
    · rw [CNn_s]; exact (ih (by omega)).trans (List.prefix_append _ _)
theorem CNn_full (w : Rw) {n : Nat} (hn : n ≤ 100) (h : (tn w).length + gnm w w.length ≤ (CNn w n).length) : CNn w n = CNn w 100 := by
  have h1 := CNn_pre w hn
  have h2 := CNn_len w 100
  exact h1.eq_of_length_le (by omega)
def FN (h : AH) (w : Rw) (n : Nat) : Prop := hI h 69 9 = zI (CNn w n).length ∧ (∀ (k m : Nat), (CNn w n)[k]? = some m → hI h 70 k = zI (idN w m)) ∧ ∀ m, m ∈ CNn w n → hI h 71 (idN w m) = zI m
theorem tl_2 (d : Nat) {s : Stt} : ∀ (k n : Nat) (h : AH), n + k = 100 → XI s h → FN h s.2.2.2 n →
    ∃ h', Rk B_Fl_tellNames L_Fl_tellNames (Cc (d + 1)) 7 [aR (some 69), aI (zI (gnm s.2.2.2 s.2.2.2.length)), aI (zI (((tn s.2.2.2).length + min (gnm s.2.2.2 s.2.2.2.length) (fcnt s.2.2.2 n) : Nat) : Int)), aI (zI n), aU] [] h = some (none, h') ∧ fr (fun b => b = 69 ∨ b = 70 ∨ b = 71) h h' ∧ (∀ a j, hR h' a j = hR h a j) ∧ (∀ j, j ≠ 9 → hI h' 69 j = hI h 69 j) ∧ XI s h' ∧ FN h' s.2.2.2 100
  | 0, n, h, hn, p, fn => by
    refine ⟨h, ?_, fr.rf _ h, fun _ _ => rfl, fun _ _ => rfl, p, by rw [show n = 100 by omega] at fn; exact fn⟩
    rw [E_Fl_tellNames_7, show zI 100 = zI ((100 : Nat) : Int) from rfl]
    simp (disch := omega) only [nlt]
    rw [if_neg (by omega), E_Fl_tellNames_16]
  | k + 1, n, h, hn, p, fn => by
    have hw := p.rw.1
    have hl12 := hw.1
    have hTG := tn_gnm s.2.2.2
    have hCl := CNn_len s.2.2.2 n
    have e0 : Rk B_Fl_tellNames L_Fl_tellNames (Cc (d + 1)) 7 [aR (some 69), aI (zI (gnm s.2.2.2 s.2.2.2.length)), aI (zI (((tn s.2.2.2).length + min (gnm s.2.2.2 s.2.2.2.length) (fcnt s.2.2.2 n) : Nat) : Int)), aI (zI n), aU] [] h = if (CNn s.2.2.2 n).length < (tn s.2.2.2).length + gnm s.2.2.2 s.2.2.2.length then Rk B_Fl_tellNames L_Fl_tellNames (Cc (d + 1)) 9 [aR (some 69), aI (zI (gnm s.2.2.2 s.2.2.2.length)), aI (zI (((tn s.2.2.2).length + min (gnm s.2.2.2 s.2.2.2.length) (fcnt s.2.2.2 n) : Nat) : Int)), aI (zI n), aU] [] h else some (none, h) := by
      rw [E_Fl_tellNames_7, show zI 100 = zI ((100 : Nat) : Int) from rfl]
      simp (disch := omega) only [nlt]
      rw [if_pos (by omega), E_Fl_tellNames_8, obj_e (z69 p.1), obj_e (z69 p.1), p.r (a := 69) (j := 7) (c := 16) (by decide), obj_e (z16 p.1), calI_e (Rw_told _ p.rw), fn.1, nadd, E_Fl_tellNames_16]
      simp (disch := omega) only [nlt]
    by_cases z : (CNn s.2.2.2 n).length < (tn s.2.2.2).length + gnm s.2.2.2 s.2.2.2.length
    · rw [if_pos z, E_Fl_tellNames_9, obj_e (z69 p.1), p.r (a := 69) (j := 7) (c := 16) (by decide), obj_e (z16 p.1), calI_e (Rw_idOf _ p.rw (by omega)), lt_e] at e0
      have idb := idn_le s.2.2.2 (n : Int)
      -- this number is told, or one of the others
      have add : ∀ top' : Nat, idN s.2.2.2 n ≤ (tn s.2.2.2).length + gnm s.2.2.2 s.2.2.2.length → top' = (tn s.2.2.2).length + min (gnm s.2.2.2 s.2.2.2.length) (fcnt s.2.2.2 (n + 1)) → Rk B_Fl_tellNames L_Fl_tellNames (Cc (d + 1)) 7 [aR (some 69), aI (zI (gnm s.2.2.2 s.2.2.2.length)), aI (zI (((tn s.2.2.2).length + min (gnm s.2.2.2 s.2.2.2.length) (fcnt s.2.2.2 n) : Nat) : Int)), aI (zI n), aU] [] h = Rk B_Fl_tellNames L_Fl_tellNames (Cc (d + 1)) 12 [aR (some 69), aI (zI (gnm s.2.2.2 s.2.2.2.length)), aI (zI (top' : Int)), aI (zI n), aI (zI (idN s.2.2.2 n))] [] h → ∃ h', Rk B_Fl_tellNames L_Fl_tellNames (Cc (d + 1)) 7 [aR (some 69), aI (zI (gnm s.2.2.2 s.2.2.2.length)), aI (zI (((tn s.2.2.2).length + min (gnm s.2.2.2 s.2.2.2.length) (fcnt s.2.2.2 n) : Nat) : Int)), aI (zI n), aU] [] h = some (none, h') ∧ fr (fun b => b = 69 ∨ b = 70 ∨ b = 71) h h' ∧ (∀ a j, hR h' a j = hR h a j) ∧ (∀ j, j ≠ 9 → hI h' 69 j = hI h 69 j) ∧ XI s h' ∧ FN h' s.2.2.2 100 := by
        intro top' hid htop e1
        have ip := idN_pos s.2.2.2 n
        have f1 : fr (fun b => b = 69 ∨ b = 70 ∨ b = 71) h (sI h 70 (CNn s.2.2.2 n).length (zI (idN s.2.2.2 n))) := fr_sI (F := fun b => b = 69 ∨ b = 70 ∨ b = 71) h (by omega) _ _
        have p1 := XI_sc p f1 (fun b hb => by unfold nI'; omega) (fun _ _ => rfl)
        have f2 : fr (fun b => b = 69 ∨ b = 70 ∨ b = 71) (sI h 70 (CNn s.2.2.2 n).length (zI (idN s.2.2.2 n))) (sI (sI h 70 (CNn s.2.2.2 n).length (zI (idN s.2.2.2 n))) 71 (idN s.2.2.2 n) (zI n)) := fr_sI (F := fun b => b = 69 ∨ b = 70 ∨ b = 71) _ (by omega) _ _
        have p2 := XI_sc p1 f2 (fun b hb => by unfold nI'; omega) (fun _ _ => rfl)
        have f3 : fr (fun b => b = 69 ∨ b = 70 ∨ b = 71) (sI (sI h 70 (CNn s.2.2.2 n).length (zI (idN s.2.2.2 n))) 71 (idN s.2.2.2 n) (zI n)) (sI (sI (sI h 70 (CNn s.2.2.2 n).length (zI (idN s.2.2.2 n))) 71 (idN s.2.2.2 n) (zI n)) 69 9 (zI (((CNn s.2.2.2 n).length + 1 : Nat) : Int))) := fr_sI (F := fun b => b = 69 ∨ b = 70 ∨ b = 71) _ (by omega) _ _
        have p3 := XI_sc p2 f3 (fun b hb => by unfold nI'; omega) (fun _ _ => rfl)
        have es : CNn s.2.2.2 (n + 1) = CNn s.2.2.2 n ++ [n] := by rw [CNn_s, if_pos hid]
        obtain ⟨h', e, f, g1, g2, p', fn'⟩ := tl_2 d k (n + 1) _ (by omega) p3 (by
          refine ⟨by rw [hI_hit, es, List.length_append]; rfl, fun i m hm => ?_, fun m hm => ?_⟩
          · rw [es] at hm
            have h1 := (List.getElem?_eq_some_iff.mp hm).1
            rw [List.length_append] at h1
            simp at h1
            rw [hI_off (by omega), hI_off (by omega)]
            by_cases y : i < (CNn s.2.2.2 n).length
            · rw [List.getElem?_append_left y] at hm
              rw [hI_off (by omega)]
              exact fn.2.1 i m hm
            · have : i = (CNn s.2.2.2 n).length := by omega
              subst this
              simp at hm
              rw [hI_hit, hm]
          · rw [es] at hm
            rw [hI_off (by omega)]
            rcases List.mem_append.mp hm with y | y
            · have hne : idN s.2.2.2 m ≠ idN s.2.2.2 n := by
                intro q
                have e := idN_inj q
                unfold CNn at y
                rw [List.mem_filter, List.mem_range] at y
                omega
              rw [hI_off (Or.inr hne), hI_off (by omega)]
              exact fn.2.2 m y
            · rw [List.mem_singleton.mp y, hI_hit])
        refine ⟨h', ?_, (f1.tr (f2.tr f3)).tr f, fun a j => g1 a j, fun j hj => ?_, p', fn'⟩
        · rw [e1, E_Fl_tellNames_12]
          simp (disch := omega) only [nle0]
          rw [if_neg (by omega), E_Fl_tellNames_13, obj_e (z69 p.1), fn.1, zc12]
          simp (disch := omega) only [nlt]
          rw [if_pos (by omega), E_Fl_tellNames_14, obj_e (z69 p.1), obj_e (z69 p.1), p.r (a := 69) (j := 3) (c := 70) (by decide), fn.1]
          simp (disch := omega) only [idx_n (z70 p.1), lt_e]
          rw [obj_e (z69 p1.1), p1.r (a := 69) (j := 4) (c := 71) (by decide)]
          simp (disch := omega) only [idx_n (z71 p1.1), lt_e]
          rw [obj_e (z69 p2.1), obj_e (z69 p2.1), hI_off (by omega), hI_off (by omega), fn.1, nadd1, mb_some, E_Fl_tellNames_15, nadd1, lt_e, htop]
          exact e
        · rw [g2 j hj, hI_off (by omega), hI_off (by omega), hI_off (by omega)]
      by_cases t : (n : Int) ∈ tn s.2.2.2
      · obtain ⟨i1, i2, i3⟩ := idN_t t
        have hne : idn s.2.2.2 (n : Int) ≠ 0 := by omega
        simp (disch := omega) only [neq0] at e0
        rw [if_neg hne, ← i1] at e0
        refine add _ (by omega) ?_ e0
        rw [fcnt_s, if_pos t, Nat.add_zero]
      · have hz : idn s.2.2.2 (n : Int) = 0 := by unfold idn; rw [if_neg t]
        have hf := idN_f t
        rw [hz, if_pos (show zI ((0 : Nat) : Int) = 0 from rfl), E_Fl_tellNames_10, obj_e (z69 p.1), p.r (a := 69) (j := 7) (c := 16) (by decide), obj_e (z16 p.1), calI_e (Rw_told _ p.rw), nadd] at e0
        simp (disch := omega) only [nlt] at e0
        by_cases y : fcnt s.2.2.2 n < gnm s.2.2.2 s.2.2.2.length
        · rw [if_pos (by omega), E_Fl_tellNames_11, nadd1, lt_e, lt_e, show (tn s.2.2.2).length + min (gnm s.2.2.2 s.2.2.2.length) (fcnt s.2.2.2 n) + 1 = idN s.2.2.2 n by omega] at e0
          refine add _ (by omega) ?_ e0
          rw [fcnt_s, if_neg t, hf]
          omega
        · rw [if_neg (by omega), E_Fl_tellNames_12, if_pos (show zI ((0 : Nat) : Int) ≤ 0 by decide), E_Fl_tellNames_15, nadd1, lt_e] at e0
          have es : CNn s.2.2.2 (n + 1) = CNn s.2.2.2 n := by rw [CNn_s, if_neg (by omega), List.append_nil]
          obtain ⟨h', e, q⟩ := tl_2 d k (n + 1) h (by omega) p (by unfold FN; rw [es]; exact fn)
          refine ⟨h', ?_, q⟩
          rw [e0, ← e, show min (gnm s.2.2.2 s.2.2.2.length) (fcnt s.2.2.2 (n + 1)) = min (gnm s.2.2.2 s.2.2.2.length) (fcnt s.2.2.2 n) by rw [fcnt_s, if_neg t]; omega]
    · rw [if_neg z] at e0
      have := CNn_full s.2.2.2 (n := n) (by omega) (by omega)
      refine ⟨h, e0, fr.rf _ h, fun _ _ => rfl, fun _ _ => rfl, p, ?_⟩
      unfold FN at fn ⊢
      rw [← this]; exact fn
theorem tl_1 (d : Nat) {s : Stt} {h : AH} (p : XI s h) : ∀ (k i : Nat), i + k = s.2.2.2.length → Rk B_Fl_tellNames L_Fl_tellNames (Cc (d + 1)) 1 [aR (some 69), aI (zI (gnm s.2.2.2 i)), aI (zI i), aU, aU] [] h = Rk B_Fl_tellNames L_Fl_tellNames (Cc (d + 1)) 6 [aR (some 69), aI (zI (gnm s.2.2.2 s.2.2.2.length)), aU, aU, aU] [] h
  | 0, i, hi => by
    have hl12 := p.rw.1.1
    rw [E_Fl_tellNames_1, obj_e (z69 p.1), p.r (a := 69) (j := 7) (c := 16) (by decide), obj_e (z16 p.1), calI_e (Rw_size _ p.rw)]
    simp (disch := omega) only [nlt]
    rw [if_neg (by omega), show i = s.2.2.2.length by omega]
  | k + 1, i, hi => by
    have hl12 := p.rw.1.1
    have hq : s.2.2.2[i]? = some s.2.2.2[i] := List.getElem?_eq_getElem (by omega)
    have hb := p.rw.1.2 _ (List.mem_of_getElem? hq)
    have ih := tl_1 d p k (i + 1) (by omega)
    rw [E_Fl_tellNames_1, obj_e (z69 p.1), p.r (a := 69) (j := 7) (c := 16) (by decide), obj_e (z16 p.1), calI_e (Rw_size _ p.rw)]
    simp (disch := omega) only [nlt]
    rw [if_pos (by omega), E_Fl_tellNames_2, obj_e (z69 p.1), p.r (a := 69) (j := 7) (c := 16) (by decide), obj_e (z16 p.1), calI_e (Rw_name _ p.rw hq)]
    simp (disch := omega) only [yeq]
    rw [gnm_s hq] at ih
    by_cases z : s.2.2.2[i].2 = -1
    · rw [if_pos z] at ih
      rw [if_pos z, E_Fl_tellNames_3, E_Fl_tellNames_5, nadd1, lt_e, nadd1, lt_e]
      exact ih
    · rw [if_neg z] at ih
      rw [if_neg z, E_Fl_tellNames_4, E_Fl_tellNames_5, zc0, nadd, lt_e, nadd1, lt_e]
      exact ih
theorem Fl_tellNames (d : Nat) {s : Stt} {h : AH} (p : XI s h) : ∃ h', Cc (d + 2) k_Fl_tellNames [aR (some 69)] h = some (none, h') ∧ fr (fun b => b = 69 ∨ b = 70 ∨ b = 71) h h' ∧ (∀ a j, hR h' a j = hR h a j) ∧ (∀ j, j ≠ 9 → hI h' 69 j = hI h 69 j) ∧ XI s h' ∧ FN h' s.2.2.2 100 := by
  have f1 : fr (fun b => b = 69 ∨ b = 70 ∨ b = 71) h (sI h 69 9 (zI 0)) := fr_sI (F := fun b => b = 69 ∨ b = 70 ∨ b = 71) h (by omega) _ _
  have p1 := XI_sc p f1 (fun b hb => by unfold nI'; omega) (fun _ _ => rfl)
  obtain ⟨h', e, f, g1, g2, p', fn⟩ := tl_2 d 100 0 _ (by omega) p1 ⟨by rw [hI_hit]; rfl, (fun k m hm => by simp [CNn] at hm), (fun m hm => by simp [CNn] at hm)⟩
  refine ⟨h', ?_, f1.tr f, fun a j => g1 a j, fun j hj => by rw [g2 j hj, hI_off (by omega)], p', fn⟩
  rw [C_Fl_tellNames, E_Fl_tellNames_0, lt_e, lt_e]
  refine Eq.trans (tl_1 d p s.2.2.2.length 0 (by omega)) ?_
  rw [E_Fl_tellNames_6, obj_e (z69 p.1), p.r (a := 69) (j := 7) (c := 16) (by decide), obj_e (z16 p.1), calI_e (Rw_told _ p.rw), lt_e, obj_e (z69 p.1), mb_some, lt_e]
  have : fcnt s.2.2.2 0 = 0 := rfl
  rw [this, Nat.min_zero, Nat.add_zero] at e
  exact e
