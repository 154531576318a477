/-! the reference: names for the gaps -/
theorem M_idw (d : Nat) {w : Rw} {h : AH} (hw : WV w) (p : MS h) (t : TN h (tn w)) {n : Nat} (hn : n < 1000) : Cc (d + 1) k_M_idOf [aR (some 94), aI (zI n)] h = some (some (aI (zI (idn w (n : Int)))), h) := by
  have := tn_len w
  have := hw.1
  exact M_idOf d p t (tn_nd _) (by omega) (fun m hm => by have := tn_b hw w.length m (by rw [List.take_length]; exact hm); omega) (by omega) (by omega)
theorem idn_0 {w : Rw} {n : Nat} : idn w (n : Int) = 0 ↔ ¬ (n : Int) ∈ tn w := by
  unfold idn
  split
  · rename_i z; exact ⟨fun e => by omega, fun e => absurd z e⟩
  · rename_i z; exact ⟨fun _ => z, fun _ => rfl⟩
theorem fc_lb (w : Rw) (n : Nat) : n ≤ fcnt w n + (tn w).length := by
  have h1 : ((List.range n).filter (fun (m : Nat) => decide ((m : Int) ∈ tn w))).length ≤ (tn w).length := by
    have nd : ((List.range n).filter (fun (m : Nat) => decide ((m : Int) ∈ tn w))).Nodup := List.Nodup.sublist List.filter_sublist List.nodup_range
    have nd2 : (((List.range n).filter (fun (m : Nat) => decide ((m : Int) ∈ tn w))).map (fun m => idN w m - 1)).Nodup := by
      rw [List.nodup_iff_pairwise_ne, List.pairwise_map]
      refine List.Pairwise.imp_of_mem ?_ (List.nodup_iff_pairwise_ne.mp nd)
      intro a b _ _ hne e
      have := idN_pos w a
      have := idN_pos w b
      exact hne (idN_inj (w := w) (by omega))
    have := nd_len (tn w).length _ nd2 (by
      intro x hx
      obtain ⟨m, hm, rfl⟩ := List.mem_map.mp hx
      rw [List.mem_filter] at hm
      have := idN_t (of_decide_eq_true hm.2)
      omega)
    rwa [List.length_map] at this
  have h2 : ∀ l : List Nat, (l.filter (fun (m : Nat) => decide ((m : Int) ∈ tn w))).length + (l.filter (fun (m : Nat) => decide (¬ (m : Int) ∈ tn w))).length = l.length := by
    intro l
    induction l with
    | nil => rfl
    | cons y l ih =>
      by_cases z : (y : Int) ∈ tn w
      · simp [z] at ih ⊢; omega
      · simp [z] at ih ⊢; omega
  have h3 := h2 (List.range n)
  rw [List.length_range] at h3
  unfold fcnt
  omega
theorem tn_100 {w : Rw} (hw : WV w) {n : Nat} (h : (n : Int) ∈ tn w) : n < 100 := by
  have := tn_b hw w.length _ (by rw [List.take_length]; exact h)
  omega
theorem M_freeBehind (d : Nat) {w : Rw} {h : AH} (hw : WV w) (p : MS h) (t : TN h (tn w)) {v : Int} {a : Nat} (hv : v + 1 = (a : Int)) (ha : a ≤ 100) : ∃ n, Cc (d + 2) k_M_freeBehind [aR (some 94), aI (zI v)] h = some (some (aI (zI ((n : Nat) : Int))), h) ∧ a ≤ n ∧ n ≤ 100 ∧ (¬ (n : Int) ∈ tn w) ∧ fcnt w n = fcnt w a := by
  have lp : ∀ (k a : Nat), a + k = 100 → ∃ n, Rk B_M_freeBehind L_M_freeBehind (Cc (d + 1)) 1 [aR (some 94), aU, aI (zI a)] [] h = some (some (aI (zI ((n : Nat) : Int))), h) ∧ a ≤ n ∧ n ≤ 100 ∧ (¬ (n : Int) ∈ tn w) ∧ fcnt w n = fcnt w a := by
    intro k
    induction k with
    | zero =>
      intro a hk
      have hno : ¬ ((a : Nat) : Int) ∈ tn w := fun z => by have := tn_100 hw z; omega
      refine ⟨a, ?_, Nat.le_refl _, by omega, hno, rfl⟩
      rw [E_M_freeBehind_1, obj_e (z94 p.1), calI_e (M_idw _ hw p t (by omega)), idn_0.mpr hno, if_pos (show zI ((0 : Nat) : Int) = 0 from rfl), E_M_freeBehind_3]
    | succ k ih =>
      intro a hk
      by_cases z : (a : Int) ∈ tn w
      · obtain ⟨n, e, n1, n2, n3, n4⟩ := ih (a + 1) (by omega)
        have hne : idn w (a : Int) ≠ 0 := fun y => idn_0.mp y z
        have := idn_le w (a : Int)
        have := tn_len w
        have := hw.1
        refine ⟨n, ?_, by omega, n2, n3, by rw [n4, fcnt_s, if_pos z]; rfl⟩
        rw [E_M_freeBehind_1, obj_e (z94 p.1), calI_e (M_idw _ hw p t (by omega))]
        simp (disch := omega) only [neq0]
        rw [if_neg hne, E_M_freeBehind_2, nadd1, lt_e]
        exact e
      · refine ⟨a, ?_, Nat.le_refl _, by omega, z, rfl⟩
        rw [E_M_freeBehind_1, obj_e (z94 p.1), calI_e (M_idw _ hw p t (by omega)), idn_0.mpr z, if_pos (show zI ((0 : Nat) : Int) = 0 from rfl), E_M_freeBehind_3]
  obtain ⟨n, e, q⟩ := lp (100 - a) a (by omega)
  refine ⟨n, ?_, q⟩
  rw [C_M_freeBehind, E_M_freeBehind_0, show zI v + zI 1 = zI (a : Int) by rw [← hv, zI_add], lt_e]
  exact e
def FRE (w : Rw) (i n : Nat) : Prop := (¬ (n : Int) ∈ tn w) ∧ fcnt w n = i
theorem FRE_lt {w : Rw} (hw : WV w) {i n : Nat} (h : FRE w i n) (hi : i ≤ 3) : n < 100 := by
  have := fc_lb w n
  have := tn_len w
  have := hw.1
  have := h.2
  omega
def FR (h : AH) (w : Rw) : Prop := ∀ i, i < 3 → ∃ n : Nat, hI h 137 i = zI n ∧ FRE w i n
theorem FR.eq {h : AH} {w : Rw} (hw : WV w) (p : FR h w) {i n : Nat} (hi : i < 3) (hn : n < 1000) : (hI h 137 i = zI (n : Int)) ↔ FRE w i n := by
  obtain ⟨m, e, f⟩ := p i hi
  have := FRE_lt hw f (by omega)
  rw [e]
  simp (disch := omega) only [neq]
  constructor
  · rintro rfl; exact f
  · intro g
    refine idN_inj (w := w) ?_
    rw [idN_f f.1, idN_f g.1, f.2, g.2]
theorem M_idOfAny (d : Nat) {w : Rw} {h : AH} (hw : WV w) (p : MS h) (t : TN h (tn w)) (fr : FR h w) {n : Nat} (hn : n < 1000) (ha : (n : Int) ∈ tn w ∨ fcnt w n < 3) : Cc (d + 2) k_M_idOfAny [aR (some 94), aI (zI n)] h = some (some (aI (zI (idN w n))), h) := by
  have hT := Nat.le_trans (tn_len w) hw.1
  have lp : ∀ (k i : Nat), i + k = 3 → Rk B_M_idOfAny L_M_idOfAny (Cc (d + 1)) 1 [aR (some 94), aI (zI n), aI (zI (if (n : Int) ∈ tn w then idn w n else if fcnt w n < i then (tn w).length + fcnt w n + 1 else 0 : Nat)), aI (zI i)] [] h = some (some (aI (zI (idN w n))), h) := by
    intro k
    induction k with
    | zero =>
      intro i hk
      rw [E_M_idOfAny_1, zc3]
      simp (disch := omega) only [nlt]
      rw [if_neg (by omega), E_M_idOfAny_7]
      unfold idN
      by_cases z : (n : Int) ∈ tn w
      · rw [if_pos z, if_pos z]
      · have : fcnt w n < i := by rcases ha with ha | ha; exact absurd ha z; omega
        rw [if_neg z, if_neg z, if_pos this]
    | succ k ih =>
      intro i hk
      have := ih (i + 1) (by omega)
      rw [E_M_idOfAny_1, zc3]
      simp (disch := omega) only [nlt]
      rw [if_pos (by omega), E_M_idOfAny_2]
      by_cases z : (n : Int) ∈ tn w
      · simp only [if_pos z] at this ⊢
        have hne : idn w (n : Int) ≠ 0 := fun y => idn_0.mp y z
        have := idn_le w (n : Int)
        simp (disch := omega) only [neq0]
        rw [if_neg hne, E_M_idOfAny_5, E_M_idOfAny_6, lt_e, nadd1, lt_e]
        assumption
      · simp only [if_neg z] at this ⊢
        by_cases y : fcnt w n < i
        · rw [if_pos (show fcnt w n < i + 1 by omega)] at this
          rw [if_pos y]
          simp (disch := omega) only [neq0]
          rw [if_neg (by omega), E_M_idOfAny_5, E_M_idOfAny_6, lt_e, nadd1, lt_e]
          exact this
        · rw [if_neg y, if_pos (show zI ((0 : Nat) : Int) = 0 from rfl), E_M_idOfAny_3]
          simp (disch := omega) only [obj_e (z94 p.1), m53 p, idx_n (z137 p.1)]
          by_cases v : fcnt w n = i
          · rw [if_pos (show fcnt w n < i + 1 by omega), v] at this
            rw [if_pos ((fr.eq hw (by omega) hn).mpr ⟨z, v⟩), E_M_idOfAny_4, obj_e (z94 p.1), t.1, nadd, nadd1, E_M_idOfAny_6, lt_e, nadd1, lt_e]
            exact this
          · rw [if_neg (show ¬ fcnt w n < i + 1 by omega)] at this
            rw [if_neg (fun q => v ((fr.eq hw (by omega) hn).mp q).2), E_M_idOfAny_5, E_M_idOfAny_6, lt_e, nadd1, lt_e]
            exact this
  have := lp 3 0 rfl
  rw [C_M_idOfAny, E_M_idOfAny_0, obj_e (z94 p.1), calI_e (M_idw _ hw p t hn), lt_e, lt_e]
  refine Eq.trans ?_ this
  by_cases z : (n : Int) ∈ tn w
  · rw [if_pos z]; rfl
  · rw [if_neg z, if_neg (Nat.not_lt_zero _), idn_0.mpr z]; rfl
def NLa (w : Rw) (o a : Nat) : List Nat := (List.range' a (100 - a)).filter (fun n => decide (idN w n ≤ (tn w).length + o + 1))
theorem NLa_0 (w : Rw) (o : Nat) : NLa w o 0 = nml w o := by unfold NLa nml; rw [List.range_eq_range']
theorem NLa_s {w : Rw} {o a : Nat} (ha : a < 100) : NLa w o a = if idN w a ≤ (tn w).length + o + 1 then a :: NLa w o (a + 1) else NLa w o (a + 1) := by
  unfold NLa
  rw [show 100 - a = 100 - (a + 1) + 1 by omega, List.range'_succ]
  by_cases z : idN w a ≤ (tn w).length + o + 1
  · rw [if_pos z, List.filter_cons, if_pos (decide_eq_true z)]
  · rw [if_neg z, List.filter_cons, if_neg (by simpa using z)]
theorem M_nextName (d : Nat) {w : Rw} {h : AH} {D o : Nat} (hw : WV w) (p : MS h) (t : TN h (tn w)) (fr : FR h w) (hD : D < 13) (ho : o ≤ 2) (h136 : hI h 136 D = zI o) {v : Int} {a : Nat} (hv : v + 1 = (a : Int)) (ha : a ≤ 100) : ∃ n, Cc (d + 2) k_M_nextName [aR (some 94), aI (zI D), aI (zI v)] h = some (some (aI (zI ((n : Nat) : Int))), h) ∧ ((n = 200 ∧ NLa w o a = []) ∨ (n < 100 ∧ a ≤ n ∧ NLa w o a = n :: NLa w o (n + 1))) := by
  have hT := Nat.le_trans (tn_len w) hw.1
  -- one number
  have one : ∀ a : Nat, a < 200 → Rk B_M_nextName L_M_nextName (Cc (d + 1)) 1 [aR (some 94), aI (zI D), aU, aI (zI a), aI (zI 0), aU, aU, aU] [] h = if (a : Int) ∈ tn w ∨ fcnt w a ≤ o then some (some (aI (zI ((a : Nat) : Int))), h) else Rk B_M_nextName L_M_nextName (Cc (d + 1)) 1 [aR (some 94), aI (zI D), aU, aI (zI ((a + 1 : Nat) : Int)), aI (zI 0), aU, aU, aU] [] h := by
    intro a ha
    have lp : ∀ (k i : Nat) (b : Nat), i + k = 3 → Rk B_M_nextName L_M_nextName (Cc (d + 1)) 7 [aR (some 94), aI (zI D), aU, aI (zI a), aU, aI (zI b), aI (zI (if (¬ (a : Int) ∈ tn w) ∧ fcnt w a ≤ o ∧ fcnt w a < i then 1 else 0)), aI (zI i)] [] h = Rk B_M_nextName L_M_nextName (Cc (d + 1)) 14 [aR (some 94), aI (zI D), aU, aI (zI a), aU, aI (zI b), aI (zI (if (¬ (a : Int) ∈ tn w) ∧ fcnt w a ≤ o then 1 else 0)), aU] [] h := by
      intro k
      induction k with
      | zero =>
        intro i b hk
        rw [E_M_nextName_7, zc3]
        simp (disch := omega) only [nlt]
        rw [if_neg (by omega)]
        by_cases z : (¬ (a : Int) ∈ tn w) ∧ fcnt w a ≤ o
        · rw [if_pos z, if_pos ⟨z.1, z.2, by omega⟩]
        · rw [if_neg z, if_neg (fun y => z ⟨y.1, y.2.1⟩)]
      | succ k ih =>
        intro i b hk
        have ih' := ih (i + 1) b (by omega)
        rw [E_M_nextName_7, zc3]
        simp (disch := omega) only [nlt]
        rw [if_pos (by omega), E_M_nextName_8, if01]
        by_cases z : (¬ (a : Int) ∈ tn w) ∧ fcnt w a ≤ o ∧ fcnt w a < i
        · rw [if_pos (show (¬ (a : Int) ∈ tn w) ∧ fcnt w a ≤ o ∧ fcnt w a < i + 1 from ⟨z.1, z.2.1, by omega⟩)] at ih'
          rw [if_pos z, E_M_nextName_11, E_M_nextName_13, lt_e, nadd1, lt_e]
          exact ih'
        · rw [if_neg z, E_M_nextName_9]
          simp (disch := omega) only [obj_e (z94 p.1), m53 p, idx_n (z137 p.1)]
          by_cases y : FRE w i a
          · rw [if_pos ((fr.eq hw (by omega) (by omega)).mpr y), E_M_nextName_10]
            simp (disch := omega) only [obj_e (z94 p.1), m52 p, idx_n (z136 p.1), h136, nle]
            by_cases x : i ≤ o
            · rw [if_pos (show (¬ (a : Int) ∈ tn w) ∧ fcnt w a ≤ o ∧ fcnt w a < i + 1 from ⟨y.1, by have := y.2; omega, by have := y.2; omega⟩)] at ih'
              rw [if_pos x, E_M_nextName_11, E_M_nextName_13, lt_e, nadd1, lt_e]
              exact ih'
            · rw [if_neg (fun q => by have := y.2; have := q.2; omega)] at ih'
              rw [if_neg x, E_M_nextName_12, E_M_nextName_13, lt_e, nadd1, lt_e]
              exact ih'
          · rw [if_neg (fun q => by
              by_cases x : fcnt w a = i
              · exact y ⟨q.1, x⟩
              · exact z ⟨q.1, q.2.1, by have := q.2.2; omega⟩)] at ih'
            rw [if_neg (fun q => y ((fr.eq hw (by omega) (by omega)).mp q)), E_M_nextName_12, E_M_nextName_13, lt_e, nadd1, lt_e]
            exact ih'
    have e19 : ∀ h : AH, Rk B_M_nextName L_M_nextName (Cc (d + 1)) 18 [aR (some 94), aI (zI D), aU, aI (zI a), aU, aU, aU, aU] [aI (zI 1)] h = some (some (aI (zI ((a : Nat) : Int))), h) := by
      intro h
      rw [E_M_nextName_18, lt_e, if_neg (by decide), E_M_nextName_19, E_M_nextName_21, lt_e, E_M_nextName_1, if_neg (by decide), E_M_nextName_22]
    rw [E_M_nextName_1, if_pos (by decide), E_M_nextName_2, show zI 200 = zI ((200 : Nat) : Int) from rfl]
    simp (disch := omega) only [nlt]
    rw [if_pos ha, E_M_nextName_3, obj_e (z94 p.1), calI_e (M_idw _ hw p t (by omega))]
    have l0 := fun b => lp 3 0 b rfl
    simp only [Nat.not_lt_zero, and_false, if_false] at l0
    have idb := idn_le w (a : Int)
    simp (disch := omega) only [neq0]
    by_cases z : (a : Int) ∈ tn w
    · rw [if_neg (fun y => idn_0.mp y z), E_M_nextName_4, E_M_nextName_6, lt_e, lt_e, lt_e, if_pos (Or.inl z)]
      have := l0 1
      refine Eq.trans this ?_
      rw [E_M_nextName_14, if_neg (by decide), E_M_nextName_16, e19]
    · rw [if_pos (idn_0.mpr z), E_M_nextName_5, E_M_nextName_6, lt_e, lt_e, lt_e]
      have := l0 0
      refine Eq.trans this ?_
      rw [E_M_nextName_14, if_pos (by decide), E_M_nextName_15, if01]
      by_cases y : fcnt w a ≤ o
      · rw [if_pos ⟨z, y⟩, E_M_nextName_16, e19, if_pos (Or.inr y)]
      · rw [if_neg (fun q => y q.2), E_M_nextName_17, E_M_nextName_18, lt_e, if_pos (by decide), E_M_nextName_20, nadd1, E_M_nextName_21, lt_e, if_neg (by rintro (q | q); exact z q; exact y q)]
  have okI : ∀ a : Nat, ((a : Int) ∈ tn w ∨ fcnt w a ≤ o) ↔ idN w a ≤ (tn w).length + o + 1 := by
    intro a
    by_cases z : (a : Int) ∈ tn w
    · have := idN_t z
      exact ⟨fun _ => by omega, fun _ => Or.inl z⟩
    · rw [idN_f z]
      exact ⟨fun q => by rcases q with q | q; exact absurd q z; omega, fun q => Or.inr (by omega)⟩
  have hi : ∀ (k a : Nat), a + k = 200 → 100 ≤ a → Rk B_M_nextName L_M_nextName (Cc (d + 1)) 1 [aR (some 94), aI (zI D), aU, aI (zI a), aI (zI 0), aU, aU, aU] [] h = some (some (aI (zI ((200 : Nat) : Int))), h) := by
    intro k
    induction k with
    | zero =>
      intro a hk _
      rw [E_M_nextName_1, if_pos (by decide), E_M_nextName_2, show zI 200 = zI ((200 : Nat) : Int) from rfl]
      simp (disch := omega) only [nlt]
      rw [if_neg (by omega), E_M_nextName_22, show a = 200 by omega]
    | succ k ih =>
      intro a hk h1
      have hno : ¬ (a : Int) ∈ tn w := fun z => by have := tn_100 hw z; omega
      have := fc_lb w a
      rw [one a (by omega), if_neg (by rintro (q | q); exact hno q; omega)]
      exact ih (a + 1) (by omega) (by omega)
  have lo : ∀ (k a : Nat), a + k = 100 → ∃ n, Rk B_M_nextName L_M_nextName (Cc (d + 1)) 1 [aR (some 94), aI (zI D), aU, aI (zI a), aI (zI 0), aU, aU, aU] [] h = some (some (aI (zI ((n : Nat) : Int))), h) ∧ ((n = 200 ∧ NLa w o a = []) ∨ (n < 100 ∧ a ≤ n ∧ NLa w o a = n :: NLa w o (n + 1))) := by
    intro k
    induction k with
    | zero =>
      intro a hk
      refine ⟨200, hi 100 a (by omega) (by omega), Or.inl ⟨rfl, ?_⟩⟩
      unfold NLa
      rw [show 100 - a = 0 by omega]
      rfl
    | succ k ih =>
      intro a hk
      by_cases z : idN w a ≤ (tn w).length + o + 1
      · refine ⟨a, ?_, Or.inr ⟨by omega, Nat.le_refl _, by rw [NLa_s (by omega), if_pos z]⟩⟩
        rw [one a (by omega), if_pos ((okI a).mpr z)]
      · obtain ⟨n, e, q⟩ := ih (a + 1) (by omega)
        refine ⟨n, ?_, ?_⟩
        · rw [one a (by omega), if_neg (fun q => z ((okI a).mp q))]
          exact e
        · rw [NLa_s (by omega), if_neg z]
          rcases q with q | ⟨q1, q2, q3⟩
          · exact Or.inl q
          · exact Or.inr ⟨q1, by omega, q3⟩
  obtain ⟨n, e, q⟩ := lo (100 - a) a (by omega)
  refine ⟨n, ?_, q⟩
  rw [C_M_nextName, E_M_nextName_0, show zI v + zI 1 = zI (a : Int) by rw [← hv, zI_add], lt_e, lt_e]
  exact e
