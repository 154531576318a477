/-! the reference: the next choice for a gap -/
def REM (w : Rw) (p : Int × Int) (D o l n : Nat) : List (Nat × Nat) := ((if p.2 = -1 then NLa w o (n + 1) else []).map (fun n => (l, n))) ++ (List.range' (l + 1) (if p.1 = -1 then 2 - l else 0)).flatMap (fun l => (nmc w D o).map (fun n => (l, n)))
def STF (h : AH) (w : Rw) (p : Int × Int) (D o : Nat) (R : List (Nat × Nat)) : Prop := (hI h 134 D = zI (-1) ∧ R = chs w D o) ∨ ∃ l n : Nat, hI h 134 D = zI l ∧ hI h 135 D = zI n ∧ l < 3 ∧ n < 100 ∧ R = REM w p D o l n
def fN (D a t : Nat) : Prop := ((a = 134 ∨ a = 135) ∧ t = D) ∨ (a = 136 ∧ t = D + 1)
def ALn (w : Rw) (p : Int × Int) (o n : Nat) : Prop := (n : Int) ∈ tn w ∨ ((¬ (n : Int) ∈ tn w) ∧ fcnt w n ≤ o ∧ o ≤ 2 ∧ p.2 = -1)
theorem TN.mv {F : Nat → Nat → Prop} {h h' : AH} {l : List Int} (p : TN h l) (f : mfr F h h') (n : ¬ F 94 24) (n2 : ∀ i, ¬ F 112 i) : TN h' l := ⟨by rw [f.I n]; exact p.1, fun i m hm => by rw [f.I (n2 i)]; exact p.2 i m hm⟩
theorem FR.mv {F : Nat → Nat → Prop} {h h' : AH} {w : Rw} (p : FR h w) (f : mfr F h h') (n : ∀ i, ¬ F 137 i) : FR h' w := fun i hi => by
  obtain ⟨m, e, q⟩ := p i hi
  exact ⟨m, by rw [f.I (n i)]; exact e, q⟩
def QN (h : AH) (w : Rw) : Prop := MS h ∧ MW h w ∧ TN h (tn w) ∧ FR h w
theorem QN.mv {F : Nat → Nat → Prop} {h h' : AH} {w : Rw} (p : QN h w) (f : mfr F h h') (n : ∀ a i, F a i → (a = 94 ∧ i ≠ 19 ∧ i ≠ 24) ∨ (113 ≤ a ∧ a ≠ 137)) : QN h' w := by
  have nn : ∀ a i, ¬ ((a = 94 ∧ i ≠ 19 ∧ i ≠ 24) ∨ (113 ≤ a ∧ a ≠ 137)) → ¬ F a i := fun a i h1 h2 => h1 (n a i h2)
  exact ⟨p.1.mf f, p.2.1.mv f (nn _ _ (by omega)) (fun i => nn _ _ (by omega)) (fun i => nn _ _ (by omega)), p.2.2.1.mv f (nn _ _ (by omega)) (fun i => nn _ _ (by omega)), p.2.2.2.mv f (fun i => nn _ _ (by omega))⟩
theorem nf_end (d : Nat) {w : Rw} {h : AH} {D o l n : Nat} {pp : Int × Int} (hw : WV w) (q : QN h w) (hD : D < 12) (ho : o ≤ 3) (h136 : hI h 136 D = zI o) (h134 : hI h 134 D = zI l) (h135 : hI h 135 D = zI n) (hl : l ≤ 3) (hn : n < 100) (al : ALn w pp o n) : Rk B_M_nextFill L_M_nextFill (Cc (d + 2)) 25 [aR (some 94), aI (zI D), aU, aU, aU] [] h = some (some (aI (zI (if l < 3 then 1 else 0))), sI h 136 (D + 1) (zI (nxo w o n))) := by
  obtain ⟨p, mw, t, fr⟩ := q
  have hT := Nat.le_trans (tn_len w) hw.1
  -- behind the test
  have tl : ∀ b : Nat, b ≤ 1 → o + b = nxo w o n → Rk B_M_nextFill L_M_nextFill (Cc (d + 2)) 29 [aR (some 94), aI (zI D), aU, aU, aU] [aI (zI b)] h = some (some (aI (zI (if l < 3 then 1 else 0))), sI h 136 (D + 1) (zI (nxo w o n))) := by
    intro b hb e
    have f1 : mfr (fun a t => a = 136 ∧ t = D + 1) h (sI h 136 (D + 1) (zI (nxo w o n))) := mfr_sI h ⟨rfl, rfl⟩ _
    have p1 := p.mf f1
    have w1 : hI (sI h 136 (D + 1) (zI (nxo w o n))) 134 D = zI l := by rw [hI_off (by omega)]; exact h134
    have e32 : Rk B_M_nextFill L_M_nextFill (Cc (d + 2)) 32 [aR (some 94), aI (zI D), aU, aU, aU] [aI (zI b), aI (zI o), aI (zI ((D + 1 : Nat) : Int)), aR (some 136)] h = some (some (aI (zI (if l < 3 then 1 else 0))), sI h 136 (D + 1) (zI (nxo w o n))) := by
      rw [E_M_nextFill_32, nadd, e]
      simp (disch := omega) only [idx_n (z136 p.1), lt_e, obj_e (z94 p1.1), m50 p1, idx_n (z134 p1.1), w1, zc3, nlt]
      by_cases z : l < 3
      · rw [if_pos z, if_pos z, E_M_nextFill_33, E_M_nextFill_35, if_pos (Or.inr (by decide))]
      · rw [if_neg z, if_neg z, E_M_nextFill_34, E_M_nextFill_35, if_pos (Or.inl (by decide))]
    rw [E_M_nextFill_29, lt_e]
    simp (disch := omega) only [obj_e (z94 p.1), m52 p, idx_n (z136 p.1), h136, nadd1]
    rcases (show b = 0 ∨ b = 1 by omega) with z | z
    · subst z
      rw [if_pos (show zI ((0 : Nat) : Int) = 0 from rfl), E_M_nextFill_31]
      exact e32
    · subst z
      rw [if_neg (by decide), E_M_nextFill_30]
      exact e32
  rw [E_M_nextFill_25]
  simp (disch := omega) only [obj_e (z94 p.1), m52 p, idx_n (z136 p.1), h136, zc3, nlt]
  by_cases z : o < 3
  · obtain ⟨m, em, fm⟩ := fr o z
    have hm := FRE_lt hw fm (by omega)
    rw [if_pos z, E_M_nextFill_26]
    simp (disch := omega) only [obj_e (z94 p.1), m51 p, idx_n (z135 p.1), m52 p, idx_n (z136 p.1), h136, m53 p, idx_n (z137 p.1), h135, em, neq]
    by_cases y : n = m
    · subst y
      rw [if_pos rfl, E_M_nextFill_27]
      refine tl 1 (by omega) ?_
      unfold nxo
      rw [idN_f fm.1, if_pos (by have := fm.2; omega)]
    · rw [if_neg y, E_M_nextFill_28]
      refine tl 0 (by omega) ?_
      unfold nxo
      rw [if_neg]
      · rfl
      · intro q
        rcases al with al | ⟨a1, a2, a3⟩
        · have := idN_t al; omega
        · rw [idN_f a1] at q
          refine y (idN_inj (w := w) ?_)
          rw [idN_f a1, idN_f fm.1, fm.2]
          omega
  · rw [if_neg z, E_M_nextFill_28]
    refine tl 0 (by omega) ?_
    unfold nxo
    rw [if_neg]
    · rfl
    · intro q
      rcases al with al | ⟨a1, a2, a3⟩
      · have := idN_t al; omega
      · omega
theorem NLa_m {w : Rw} {o a n : Nat} {l : List Nat} (h : NLa w o a = n :: l) : idN w n ≤ (tn w).length + o + 1 ∧ n < 100 := by
  have : n ∈ NLa w o a := by rw [h]; exact List.mem_cons_self
  unfold NLa at this
  rw [List.mem_filter, List.mem_range'_1] at this
  exact ⟨of_decide_eq_true this.2, by omega⟩
theorem ALn_i {w : Rw} {p : Int × Int} {o n : Nat} (hz : p.2 = -1) (ho : o ≤ 2) (h : idN w n ≤ (tn w).length + o + 1) : ALn w p o n := by
  by_cases z : (n : Int) ∈ tn w
  · exact Or.inl z
  · rw [idN_f z] at h
    exact Or.inr ⟨z, by omega, ho, hz⟩
/-- the first name for a pair -/
theorem nf_1 (d : Nat) {w : Rw} {D o : Nat} {p : Int × Int} (hw : WV w) (hp : w[D]? = some p) (ho : p.2 = -1 → o ≤ 2) {h : AH} (q : QN h w) (h136 : hI h 136 D = zI o) : ∃ n, nmc w D o = n :: (if p.2 = -1 then NLa w o (n + 1) else []) ∧ n < 100 ∧ ALn w p o n ∧ ∀ h1, QN h1 w → hI h1 136 D = zI o → (p.2 = -1 → Cc (d + 2) k_M_nextName [aR (some 94), aI (zI D), aI (zI (-1))] h1 = some (some (aI (zI ((n : Nat) : Int))), h1)) ∧ (p.2 ≠ -1 → hI h1 111 D = zI n) := by
  have hD := (List.getElem?_eq_some_iff.mp hp).1
  have hl12 := hw.1
  have hb := hw.2 p (List.mem_of_getElem? hp)
  by_cases z : p.2 = -1
  · have en : nmc w D o = NLa w o 0 := by
      unfold nmc
      rw [hp]
      show (if p.2 = -1 then nml w o else [p.2.toNat]) = _
      rw [if_pos z, NLa_0]
    have o2 := ho z
    obtain ⟨n, e, alt⟩ := M_nextName d hw q.1 q.2.2.1 q.2.2.2 (D := D) (by omega) o2 h136 (v := -1) (a := 0) (by omega) (by omega)
    have ne : NLa w o 0 ≠ [] := by
      obtain ⟨m, -, fm⟩ := q.2.2.2 0 (by omega)
      have hm := FRE_lt hw fm (by omega)
      intro y
      have : m ∈ NLa w o 0 := by
        unfold NLa
        rw [List.mem_filter, List.mem_range'_1]
        exact ⟨by omega, decide_eq_true (by rw [idN_f fm.1, fm.2]; omega)⟩
      rw [y] at this
      cases this
    rcases alt with ⟨-, y⟩ | ⟨n1, n2, n3⟩
    · exact absurd y ne
    · refine ⟨n, by rw [en, if_pos z]; exact n3, n1, ALn_i z o2 (NLa_m n3).1, fun h1 q1 w1 => ⟨fun _ => ?_, fun y => absurd z y⟩⟩
      obtain ⟨n', e', alt'⟩ := M_nextName d hw q1.1 q1.2.2.1 q1.2.2.2 (D := D) (by omega) o2 w1 (v := -1) (a := 0) (by omega) (by omega)
      rcases alt' with ⟨-, y⟩ | ⟨-, -, n3'⟩
      · exact absurd y ne
      · rw [n3] at n3'
        have : n = n' := (List.cons.inj n3').1
        rw [e', this]
  · obtain ⟨i1, i2, i3, i4⟩ := idN_r hw hp z
    refine ⟨p.2.toNat, ?_, i4, Or.inl i3, fun h1 q1 w1 => ⟨fun y => absurd y z, fun _ => by rw [(q1.2.1.2 D p hp).2, i1]⟩⟩
    unfold nmc
    rw [hp]
    show (if p.2 = -1 then nml w o else [p.2.toNat]) = _
    rw [if_neg z, if_neg z]
theorem M_nextFill (d : Nat) {w : Rw} {h : AH} {D o : Nat} {p : Int × Int} {R : List (Nat × Nat)} (hw : WV w) (hp : w[D]? = some p) (ho : o ≤ gnm w D) (hG : gnm w w.length ≤ 3) (q : QN h w) (h136 : hI h 136 D = zI o) (st : STF h w p D o R) :
    ∃ h' b, Cc (d + 3) k_M_nextFill [aR (some 94), aI (zI D)] h = some (some (aI (zI (((b : Nat) : Nat) : Int))), h') ∧ mfr (fN D) h h' ∧ ((b = 0 ∧ R = []) ∨ (b = 1 ∧ ∃ (l n : Nat) (R' : List (Nat × Nat)), R = (l, n) :: R' ∧ hI h' 134 D = zI l ∧ hI h' 135 D = zI n ∧ hI h' 136 (D + 1) = zI (nxo w o n) ∧ l < 3 ∧ n < 100 ∧ ALn w p o n ∧ R' = REM w p D o l n)) := by
  have hD := (List.getElem?_eq_some_iff.mp hp).1
  have hl12 := hw.1
  have hb := hw.2 p (List.mem_of_getElem? hp)
  have hgD := gnm_m (w := w) (show D + 1 ≤ w.length from hD)
  rw [gnm_s hp] at hgD
  have ho3 : o ≤ 3 := by split at hgD <;> omega
  have ho2 : p.2 = -1 → o ≤ 2 := fun z => by rw [if_pos z] at hgD; omega
  have ms := q.1
  obtain ⟨c1, c2⟩ := q.2.1.2 D p hp
  obtain ⟨n0, en, hn0, al0, fst⟩ := nf_1 d hw hp ho2 q h136
  -- the cells
  have cells : ∀ (l n : Nat), l ≤ 3 → n < 100 → ALn w p o n → ∀ h1, h1 = sI (sI h 134 D (zI l)) 135 D (zI n) → Rk B_M_nextFill L_M_nextFill (Cc (d + 2)) 25 [aR (some 94), aI (zI D), aU, aU, aU] [] h1 = some (some (aI (zI (if l < 3 then 1 else 0))), sI h1 136 (D + 1) (zI (nxo w o n))) ∧ mfr (fN D) h (sI h1 136 (D + 1) (zI (nxo w o n))) ∧ hI (sI h1 136 (D + 1) (zI (nxo w o n))) 134 D = zI l ∧ hI (sI h1 136 (D + 1) (zI (nxo w o n))) 135 D = zI n ∧ hI (sI h1 136 (D + 1) (zI (nxo w o n))) 136 (D + 1) = zI (nxo w o n) := by
    intro l n hl hn al h1 e1
    have f1 : mfr (fN D) h (sI h 134 D (zI l)) := mfr_sI h (by unfold fN; omega) _
    have f2 : mfr (fN D) (sI h 134 D (zI l)) (sI (sI h 134 D (zI l)) 135 D (zI n)) := mfr_sI _ (by unfold fN; omega) _
    have q1 : QN (sI (sI h 134 D (zI l)) 135 D (zI n)) w := q.mv (f1.tr f2) (by intro a i; unfold fN; omega)
    have f3 : mfr (fN D) (sI (sI h 134 D (zI l)) 135 D (zI n)) (sI (sI (sI h 134 D (zI l)) 135 D (zI n)) 136 (D + 1) (zI (nxo w o n))) := mfr_sI _ (by unfold fN; omega) _
    subst e1
    exact ⟨nf_end d hw q1 (by omega) ho3 (by rw [hI_off (by omega), hI_off (by omega)]; exact h136) (by rw [hI_off (by omega), hI_hit]) (by rw [hI_hit]) hl hn al, (f1.tr f2).tr f3, by rw [hI_off (by omega), hI_off (by omega), hI_hit], by rw [hI_off (by omega), hI_hit], by rw [hI_hit]⟩
  have e6 : Cc (d + 3) k_M_nextFill [aR (some 94), aI (zI D)] h = if hI h 134 D = zI (-1) then Rk B_M_nextFill L_M_nextFill (Cc (d + 2)) 7 [aR (some 94), aI (zI D), aI (zI (if p.1 = -1 then 1 else 0)), aI (zI (if p.2 = -1 then 1 else 0)), aU] [] h else Rk B_M_nextFill L_M_nextFill (Cc (d + 2)) 14 [aR (some 94), aI (zI D), aI (zI (if p.1 = -1 then 1 else 0)), aI (zI (if p.2 = -1 then 1 else 0)), aU] [] h := by
    rw [C_M_nextFill, E_M_nextFill_0]
    simp (disch := omega) only [obj_e (z94 ms.1), m17 ms, idx_n (z110 ms.1), c1, yeq]
    have e3 : ∀ v : Int32, Rk B_M_nextFill L_M_nextFill (Cc (d + 2)) 3 [aR (some 94), aI (zI D), aU, aU, aU] [aI v] h = if hI h 134 D = zI (-1) then Rk B_M_nextFill L_M_nextFill (Cc (d + 2)) 7 [aR (some 94), aI (zI D), aI v, aI (zI (if p.2 = -1 then 1 else 0)), aU] [] h else Rk B_M_nextFill L_M_nextFill (Cc (d + 2)) 14 [aR (some 94), aI (zI D), aI v, aI (zI (if p.2 = -1 then 1 else 0)), aU] [] h := by
      intro v
      rw [E_M_nextFill_3, lt_e]
      simp (disch := omega) only [obj_e (z94 ms.1), m18 ms, idx_n (z111 ms.1), c2, yeq]
      by_cases z : p.2 = -1
      · rw [if_pos z, if_pos z, E_M_nextFill_4, E_M_nextFill_6, lt_e]
        simp (disch := omega) only [obj_e (z94 ms.1), m50 ms, idx_n (z134 ms.1)]
      · rw [if_neg z, if_neg z, E_M_nextFill_5, E_M_nextFill_6, lt_e]
        simp (disch := omega) only [obj_e (z94 ms.1), m50 ms, idx_n (z134 ms.1)]
    by_cases z : p.1 = -1
    · rw [if_pos z, if_pos z, E_M_nextFill_1, e3]
    · rw [if_neg z, if_neg z, E_M_nextFill_2, e3]
  -- a letter is begun
  have beg : ∀ (l : Nat) (h1 : AH), h1 = sI h 134 D (zI l) → MS h1 ∧ QN h1 w ∧ hI h1 136 D = zI o ∧ hI h1 111 D = zI p.2 := by
    intro l h1 e1
    have f1 : mfr (fN D) h h1 := by rw [e1]; exact mfr_sI h (by unfold fN; omega) _
    have q1 : QN h1 w := q.mv f1 (by intro a i; unfold fN; omega)
    exact ⟨q1.1, q1, by rw [f1.I (by unfold fN; omega)]; exact h136, (q1.2.1.2 D p hp).2⟩
  rcases st with ⟨s1, s2⟩ | ⟨l, n, s1, s2, s3, s4, s5⟩
  · rw [if_pos s1] at e6
    obtain ⟨l0, hl0, el0⟩ : ∃ l0 : Nat, l0 < 3 ∧ ltc w D = l0 :: List.range' (l0 + 1) (if p.1 = -1 then 2 - l0 else 0) ∧ (if p.1 = -1 then l0 = 0 else p.1 = (l0 : Int)) := by
      by_cases z : p.1 = -1
      · refine ⟨0, by omega, ?_, by rw [if_pos z]⟩
        unfold ltc
        rw [hp]
        show (if p.1 = -1 then [0, 1, 2] else [p.1.toNat]) = _
        rw [if_pos z, if_pos z]
        rfl
      · refine ⟨p.1.toNat, by omega, ?_, by rw [if_neg z]; omega⟩
        unfold ltc
        rw [hp]
        show (if p.1 = -1 then [0, 1, 2] else [p.1.toNat]) = _
        rw [if_neg z, if_neg z]
        rfl
    obtain ⟨el0, el1⟩ := el0
    have eR : chs w D o = (l0, n0) :: REM w p D o l0 n0 := by
      unfold chs REM
      rw [el0, List.flatMap_cons, en, List.map_cons, List.cons_append, ← en]
    obtain ⟨k1, k2, k3, k4, k5⟩ := cells l0 n0 (by omega) hn0 al0 _ rfl
    obtain ⟨b1, b2, b3, b4⟩ := beg l0 _ rfl
    obtain ⟨fs1, fs2⟩ := fst _ b2 b3
    have e10 : Rk B_M_nextFill L_M_nextFill (Cc (d + 2)) 10 [aR (some 94), aI (zI D), aU, aI (zI (if p.2 = -1 then 1 else 0)), aU] [aI (zI l0), aI (zI D), aR (some 134)] h = Rk B_M_nextFill L_M_nextFill (Cc (d + 2)) 25 [aR (some 94), aI (zI D), aU, aU, aU] [] (sI (sI h 134 D (zI l0)) 135 D (zI n0)) := by
      rw [E_M_nextFill_10]
      simp (disch := omega) only [idx_n (z134 ms.1), lt_e, obj_e (z94 b1.1), m51 b1]
      by_cases z : p.2 = -1
      · rw [if_pos z, if_neg (by decide), E_M_nextFill_11, obj_e (z94 b1.1), calI_e (fs1 z), E_M_nextFill_13]
        simp (disch := omega) only [idx_n (z135 b1.1), lt_e]
      · rw [if_neg z, if_pos (by decide), E_M_nextFill_12]
        simp (disch := omega) only [obj_e (z94 b1.1), m18 b1, idx_n (z111 b1.1), fs2 z]
        rw [E_M_nextFill_13]
        simp (disch := omega) only [idx_n (z135 b1.1), lt_e]
    refine ⟨_, 1, ?_, k2, Or.inr ⟨rfl, l0, n0, _, by rw [s2]; exact eR, k3, k4, k5, hl0, hn0, al0, rfl⟩⟩
    rw [if_pos hl0] at k1
    rw [e6, E_M_nextFill_7]
    simp (disch := omega) only [obj_e (z94 ms.1), m50 ms]
    by_cases z : p.1 = -1
    · rw [if_pos z] at el1
      rw [if_pos z, if_neg (by decide), E_M_nextFill_8, show zI 0 = zI (l0 : Int) by rw [el1]; rfl, e10]
      exact k1
    · rw [if_neg z] at el1
      rw [if_neg z, if_pos (by decide), E_M_nextFill_9]
      simp (disch := omega) only [obj_e (z94 ms.1), m17 ms, idx_n (z110 ms.1), c1, el1]
      rw [e10]
      exact k1
  · rw [if_neg (by rw [s1]; simp (disch := omega) only [yeq]; omega)] at e6
    -- no name is left for this letter
    have nxl : (if p.2 = -1 then NLa w o (n + 1) else []) = [] → Cc (d + 3) k_M_nextFill [aR (some 94), aI (zI D)] h = Rk B_M_nextFill L_M_nextFill (Cc (d + 2)) 19 [aR (some 94), aI (zI D), aI (zI (if p.1 = -1 then 1 else 0)), aI (zI (if p.2 = -1 then 1 else 0)), aU] [] h → ∃ h' b, Cc (d + 3) k_M_nextFill [aR (some 94), aI (zI D)] h = some (some (aI (zI (((b : Nat) : Nat) : Int))), h') ∧ mfr (fN D) h h' ∧ ((b = 0 ∧ R = []) ∨ (b = 1 ∧ ∃ (l n : Nat) (R' : List (Nat × Nat)), R = (l, n) :: R' ∧ hI h' 134 D = zI l ∧ hI h' 135 D = zI n ∧ hI h' 136 (D + 1) = zI (nxo w o n) ∧ l < 3 ∧ n < 100 ∧ ALn w p o n ∧ R' = REM w p D o l n)) := by
      intro hno e19
      unfold REM at s5
      rw [hno, List.map_nil, List.nil_append] at s5
      by_cases z : p.1 = -1
      · rw [if_pos z] at s5
        rw [if_pos z, E_M_nextFill_19, if_neg (by decide), E_M_nextFill_20] at e19
        obtain ⟨k1, k2, k3, k4, k5⟩ := cells (l + 1) n0 (by omega) hn0 al0 _ rfl
        obtain ⟨b1, b2, b3, b4⟩ := beg (l + 1) _ rfl
        obtain ⟨fs1, fs2⟩ := fst _ b2 b3
        simp (disch := omega) only [obj_e (z94 ms.1), m50 ms, idx_n (z134 ms.1), s1, nadd1, lt_e, obj_e (z94 b1.1), m51 b1] at e19
        have e25 : Cc (d + 3) k_M_nextFill [aR (some 94), aI (zI D)] h = Rk B_M_nextFill L_M_nextFill (Cc (d + 2)) 25 [aR (some 94), aI (zI D), aU, aU, aU] [] (sI (sI h 134 D (zI ((l + 1 : Nat) : Int))) 135 D (zI n0)) := by
          rw [e19]
          by_cases y : p.2 = -1
          · rw [if_pos y, if_neg (by decide), E_M_nextFill_21, obj_e (z94 b1.1), calI_e (fs1 y), E_M_nextFill_23]
            simp (disch := omega) only [idx_n (z135 b1.1), lt_e]
          · rw [if_neg y, if_pos (by decide), E_M_nextFill_22]
            simp (disch := omega) only [obj_e (z94 b1.1), m18 b1, idx_n (z111 b1.1), fs2 y]
            rw [E_M_nextFill_23]
            simp (disch := omega) only [idx_n (z135 b1.1), lt_e]
        by_cases y : l + 1 < 3
        · rw [if_pos y] at k1
          refine ⟨_, 1, by rw [e25]; exact k1, k2, Or.inr ⟨rfl, l + 1, n0, REM w p D o (l + 1) n0, ?_, k3, k4, k5, y, hn0, al0, rfl⟩⟩
          unfold REM
          rw [s5, if_pos z, show 2 - l = 2 - (l + 1) + 1 by omega, List.range'_succ, List.flatMap_cons, en, List.map_cons, List.cons_append]
        · rw [if_neg y] at k1
          refine ⟨_, 0, by rw [e25]; exact k1, k2, Or.inl ⟨rfl, ?_⟩⟩
          rw [s5, show 2 - l = 0 by omega]
          rfl
      · rw [if_neg z] at s5
        rw [if_neg z, E_M_nextFill_19, if_pos (by decide), E_M_nextFill_24, fr0] at e19
        exact ⟨h, 0, e19, mfr.rf _ h, Or.inl ⟨rfl, s5⟩⟩
    rw [E_M_nextFill_14] at e6
    by_cases z : p.2 = -1
    · have o2 := ho2 z
      obtain ⟨v, ev, alt⟩ := M_nextName d hw ms q.2.2.1 q.2.2.2 (D := D) (by omega) o2 h136 (v := (n : Int)) (a := n + 1) (by omega) (by omega)
      rw [if_pos z, if_neg (by decide), E_M_nextFill_15] at e6
      simp (disch := omega) only [obj_e (z94 ms.1), m51 ms, idx_n (z135 ms.1), s2] at e6
      rw [calI_e ev, E_M_nextFill_17, lt_e, show zI 200 = zI ((200 : Nat) : Int) from rfl] at e6
      rcases alt with ⟨a1, a2⟩ | ⟨a1, a2, a3⟩
      · rw [a1, if_neg (by decide)] at e6
        exact nxl (by rw [if_pos z]; exact a2) (by rw [if_pos z]; exact e6)
      · simp (disch := omega) only [nlt] at e6
        rw [if_pos (by omega), E_M_nextFill_18] at e6
        simp (disch := omega) only [obj_e (z94 ms.1), m51 ms, idx_n (z135 ms.1), lt_e] at e6
        have al := ALn_i z o2 (NLa_m a3).1
        have f2 : mfr (fN D) h (sI h 135 D (zI v)) := mfr_sI _ (by unfold fN; omega) _
        have q1 : QN (sI h 135 D (zI v)) w := q.mv f2 (by intro a i; unfold fN; omega)
        have f3 : mfr (fN D) (sI h 135 D (zI v)) (sI (sI h 135 D (zI v)) 136 (D + 1) (zI (nxo w o v))) := mfr_sI _ (by unfold fN; omega) _
        have k1 := nf_end d hw q1 (l := l) (by omega) ho3 (by rw [hI_off (by omega)]; exact h136) (by rw [hI_off (by omega)]; exact s1) (hI_hit _ _ _ _) (by omega) a1 al
        rw [if_pos s3] at k1
        refine ⟨_, 1, by rw [e6]; exact k1, f2.tr f3, Or.inr ⟨rfl, l, v, REM w p D o l v, ?_, by rw [hI_off (by omega), hI_off (by omega)]; exact s1, by rw [hI_off (by omega), hI_hit], by rw [hI_hit], s3, a1, al, rfl⟩⟩
        unfold REM at s5 ⊢
        rw [s5, if_pos z, a3, if_pos z, List.map_cons, List.cons_append]
    · rw [if_neg z, if_pos (by decide), E_M_nextFill_16, E_M_nextFill_17, lt_e, if_neg (by decide)] at e6
      exact nxl (by rw [if_neg z]) (by rw [if_neg z]; exact e6)
