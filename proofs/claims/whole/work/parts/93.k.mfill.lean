/-! the reference: the search through the fillings -/
def fLl (D a t : Nat) : Prop := (a = 94 ∧ t = 29) ∨ a = 116 ∨ (a = 115 ∧ D + 1 ≤ t) ∨ (a = 114 ∧ 24600 * (D + 1) ≤ t) ∨ ((a = 134 ∨ a = 135) ∧ D ≤ t) ∨ (a = 136 ∧ D + 1 ≤ t)
noncomputable def GF6 (d j b f : Nat) (D : Int) (h : AH) : Option AR := Rk B_M_goFill L_M_goFill (Cc (d + 3)) 6 [aR (some 94), aI (zI j), aI (zI b), aI (zI f), aI (zI D)] [] h
noncomputable def LRo (r : Rdr) (w : Rw) (m D o : Nat) (u : List (Nat × Nat)) (p : Nat × Nat) : List (List (Nat × Nat)) := (fls r w m (D + 1) (nxo w o p.2) ((p.1, idN w p.2) :: u)).map (p :: ·)
noncomputable def LRf (r : Rdr) (w : Rw) (m D o : Nat) (u R : List (Nat × Nat)) : List (List (Nat × Nat)) := R.flatMap (LRo r w m D o u)
theorem fls_LR (r : Rdr) (w : Rw) (m D o : Nat) (u : List (Nat × Nat)) : fls r w (m + 1) D o u = LRf r w m D o u (chs w D o) := rfl
def cstF (w : Rw) (m D : Nat) : Nat := 1 + m * 36 ^ gapPairs (w.drop (D + 1))
theorem nml_len (w : Rw) (o : Nat) : (nml w o).length ≤ (tn w).length + o + 1 := by
  have nd : (nml w o).Nodup := List.Nodup.sublist List.filter_sublist List.nodup_range
  have nd2 : ((nml w o).map (fun m => idN w m - 1)).Nodup := by
    rw [List.nodup_iff_pairwise_ne, List.pairwise_map]
    refine List.Pairwise.imp_of_mem ?_ (List.nodup_iff_pairwise_ne.mp nd)
    intro a b _ _ hne e
    have := idN_pos w a
    have := idN_pos w b
    exact hne (idN_inj (w := w) (by omega))
  have := nd_len ((tn w).length + o + 1) _ nd2 (by
    intro x hx
    obtain ⟨m, hm, rfl⟩ := List.mem_map.mp hx
    unfold nml at hm
    rw [List.mem_filter] at hm
    have := of_decide_eq_true hm.2
    have := idN_pos w m
    omega)
  rwa [List.length_map] at this
theorem fm_len {A B : Type} {f : A → List B} {k : Nat} : ∀ (l : List A), (∀ x, x ∈ l → (f x).length ≤ k) → (l.flatMap f).length ≤ l.length * k
  | [], _ => by simp
  | x :: l, h => by
    have h1 := h x List.mem_cons_self
    have h2 := fm_len l (fun y hy => h y (List.mem_cons_of_mem _ hy))
    rw [List.flatMap_cons, List.length_append, List.length_cons, Nat.succ_mul]
    omega
theorem chs_len {w : Rw} (hw : WV w) {D o : Nat} {p : Int × Int} (hp : w[D]? = some p) (ho : o ≤ gnm w D) : (chs w D o).length ≤ if p.1 = -1 ∨ p.2 = -1 then 36 else 1 := by
  have hD := (List.getElem?_eq_some_iff.mp hp).1
  have hgD := gnm_m (w := w) (show D + 1 ≤ w.length from hD)
  rw [gnm_s hp] at hgD
  have hTG := tn_gnm w
  have hl12 := hw.1
  have hn : (nmc w D o).length ≤ if p.2 = -1 then 12 else 1 := by
    unfold nmc
    rw [hp]
    show (if p.2 = -1 then nml w o else [p.2.toNat]).length ≤ _
    by_cases z : p.2 = -1
    · rw [if_pos z] at hgD
      rw [if_pos z, if_pos z]
      have := nml_len w o
      omega
    · rw [if_neg z, if_neg z]
      exact Nat.le_refl _
  have hl : (ltc w D).length ≤ if p.1 = -1 then 3 else 1 := by
    unfold ltc
    rw [hp]
    show (if p.1 = -1 then [0, 1, 2] else [p.1.toNat]).length ≤ _
    by_cases z : p.1 = -1
    · rw [if_pos z, if_pos z]
      exact Nat.le_refl _
    · rw [if_neg z, if_neg z]
      exact Nat.le_refl _
  have h1 : (chs w D o).length ≤ (ltc w D).length * (nmc w D o).length := by
    unfold chs
    exact fm_len _ (fun x _ => by rw [List.length_map]; exact Nat.le_refl _)
  have h2 := Nat.mul_le_mul hl hn
  refine Nat.le_trans h1 (Nat.le_trans h2 ?_)
  by_cases z1 : p.1 = -1
  · by_cases z2 : p.2 = -1
    · simp [z1, z2]
    · simp [z1, z2]
  · by_cases z2 : p.2 = -1
    · simp [z1, z2]
    · simp [z1, z2]
theorem gp_drop {w : Rw} {D : Nat} {p : Int × Int} (hp : w[D]? = some p) : gapPairs (w.drop D) = gp2 p + gapPairs (w.drop (D + 1)) := by
  obtain ⟨hD, e⟩ := List.getElem?_eq_some_iff.mp hp
  rw [List.drop_eq_getElem_cons hD, e]
  rfl
theorem cst_b {w : Rw} (hw : WV w) {m D o : Nat} {p : Int × Int} (hp : w[D]? = some p) (ho : o ≤ gnm w D) : (chs w D o).length * cstF w m D ≤ (m + 1) * 36 ^ gapPairs (w.drop D) := by
  have h1 := chs_len hw hp ho
  rw [gp_drop hp, Nat.pow_add]
  unfold cstF
  have hE : 1 ≤ 36 ^ gapPairs (w.drop (D + 1)) := Nat.one_le_pow _ _ (by omega)
  generalize 36 ^ gapPairs (w.drop (D + 1)) = E at hE
  have hs : (m + 1) * E = m * E + E := Nat.succ_mul _ _
  unfold gp2
  by_cases z : p.1 = -1 ∨ p.2 = -1
  · rw [if_pos z] at h1 ⊢
    rw [Nat.pow_one, Nat.mul_left_comm]
    exact Nat.mul_le_mul h1 (by omega)
  · rw [if_neg z] at h1 ⊢
    rw [Nat.pow_zero, Nat.one_mul]
    refine Nat.le_trans (Nat.mul_le_mul_right _ h1) ?_
    omega
def MGF (d j b : Nat) (r : Rdr) (w : Rw) (m : Nat) : Prop := ∀ (R : List (Nat × Nat)) (D o f u0 : Nat) (h : AH) (u : List (Nat × Nat)) (cs : List Cfg) (p : Int × Int), D + m + 1 = w.length → w[D]? = some p → o ≤ gnm w D → QN h w → MR h j r → ML h D cs → (∀ c, c ∈ cs ↔ rq r u c) → hI h 136 D = zI o → STF h w p D o R → MU h u0 → u0 + R.length * cstF w m D < 2147482000 →
  ∃ h' u1, mfr (fLl D) h h' ∧ MU h' u1 ∧ u1 ≤ u0 + R.length * cstF w m D ∧ ((b = 1 ∧ GF6 d j b f D h = some (some (aI (zI ((f + 1 : Nat) : Int))), h') ∧ ∃ t T, LRf r w m D o u R = t :: T ∧ ∀ (i : Nat) (q : Nat × Nat), t[i]? = some q → hI h' 134 (D + i) = zI q.1 ∧ hI h' 135 (D + i) = zI q.2) ∨ ((b = 0 ∨ LRf r w m D o u R = []) ∧ GF6 d j b f D h = GF6 d j b (f + (LRf r w m D o u R).length) ((D : Int) - 1) h'))
theorem MGF_x (d : Nat) {j b m : Nat} {r : Rdr} {w : Rw} (hv : RV r) (hj : j < 2) (hb : b ≤ 1) (hw : WV w) (hG : gnm w w.length ≤ 3) (hm : m = 0 ∨ ∃ m', m = m' + 1 ∧ MGF d j b r w m') : MGF d j b r w m := by
  intro R
  induction R with
  | nil =>
    intro D o f u0 h u cs p hn hp ho q mr ml hcs h136 st mu hu
    have hD := (List.getElem?_eq_some_iff.mp hp).1
    have hl12 := hw.1
    obtain ⟨h1, b1, e1, f1, alt⟩ := M_nextFill d hw hp ho hG q h136 st
    have f1' : mfr (fLl D) h h1 := f1.mo (by intro a t; unfold fN fLl; omega)
    rcases alt with ⟨rfl, -⟩ | ⟨-, l, n, R', e, -⟩
    · refine ⟨h1, u0, f1', mu.mv f1 (by unfold fN; omega) (by intro i; unfold fN; omega), by omega, Or.inr ⟨Or.inr rfl, ?_⟩⟩
      unfold GF6
      rw [E_M_goFill_6]
      simp (disch := omega) only [nlt0, if_false]
      rw [E_M_goFill_7, obj_e (z94 q.1.1), calI_e e1, if_pos (show zI ((0 : Nat) : Int) = 0 from rfl), E_M_goFill_8, lt_e, zI_add]
      rfl
    · cases e
  | cons x R' ihR =>
    intro D o f u0 h u cs p hn hp ho q mr ml hcs h136 st mu hu
    have hD := (List.getElem?_eq_some_iff.mp hp).1
    have hl12 := hw.1
    have hTG := tn_gnm w
    have hgD := gnm_m (w := w) (show D + 1 ≤ w.length from hD)
    rw [gnm_s hp] at hgD
    rw [List.length_cons, Nat.succ_mul] at hu
    obtain ⟨h1, b1, e1, f1, alt⟩ := M_nextFill d hw hp ho hG q h136 st
    rcases alt with ⟨-, e⟩ | ⟨rfl, l, n, R'', e, c1, c2, c3, hl, hn1, al, eR⟩
    · cases e
    · have ex := (List.cons.inj e).1
      have eR' := (List.cons.inj e).2
      subst ex
      have eR2 : R' = REM w p D o l n := by rw [eR', eR]
      clear e eR' eR
      have f1' : mfr (fLl D) h h1 := f1.mo (by intro a t; unfold fN fLl; omega)
      have q1 : QN h1 w := q.mv f1 (by intro a i; unfold fN; omega)
      have mr1 := mr.mv f1 (by intro a t; unfold fN; omega)
      have ml1 := ml.mv f1 (by unfold fN; omega) (by intro i hi; unfold fN; omega)
      have mu1 := mu.mv f1 (by unfold fN; omega) (by intro i; unfold fN; omega)
      have hid : idN w n ≤ 12 := by
        rcases al with al | ⟨a1, a2, a3, a4⟩
        · have := idN_t al; omega
        · rw [if_pos a4] at hgD
          rw [idN_f a1]; omega
      have ha3 : (n : Int) ∈ tn w ∨ fcnt w n < 3 := by
        rcases al with al | ⟨a1, a2, a3, a4⟩
        · exact Or.inl al
        · exact Or.inr (by omega)
      have hcst : 1 ≤ cstF w m D := by unfold cstF; omega
      obtain ⟨h2, cs', e2, f2, ml2, mu2, g2⟩ := M_goOn d (l := l) (x := idN w n) hv hj (by omega) (by omega) hl hid q1.1 mr1 ml1 mu1
      have f2' : mfr (fLl D) h1 h2 := f2.mo (by intro a t; unfold fG fLl; omega)
      have q2 : QN h2 w := q1.mv f2 (by intro a i; unfold fG; omega)
      have mr2 := mr1.mv f2 (by intro a t; unfold fG; omega)
      have hcs' := rq_goOn hcs g2
      have hL := c12_len ml2.1 ml2.2.1
      have ms1 := q1.1
      have ms2 := q2.1
      have e9 : GF6 d j b f D h = if cs'.length = 0 then GF6 d j b f D h2 else Rk B_M_goFill L_M_goFill (Cc (d + 3)) 11 [aR (some 94), aI (zI j), aI (zI b), aI (zI f), aI (zI D)] [] h2 := by
        unfold GF6
        rw [E_M_goFill_6]
        simp (disch := omega) only [nlt0, if_false]
        rw [E_M_goFill_7, obj_e (z94 q.1.1), calI_e e1, if_neg (by decide), E_M_goFill_9]
        simp (disch := omega) only [obj_e (z94 ms1.1), m50 ms1, m51 ms1, idx_n (z134 ms1.1), idx_n (z135 ms1.1), c1, c2, nadd1]
        rw [calI_e (M_idOfAny _ hw ms1 q1.2.2.1 q1.2.2.2 (by omega) ha3), obj_e (z94 ms1.1), calV_e e2]
        simp (disch := omega) only [obj_e (z94 ms2.1), m27 ms2, idx_n (z115 ms2.1), ml2.2.2.1, neq0, E_M_goFill_10]
      have eL : LRf r w m D o u ((l, n) :: R') = LRo r w m D o u (l, n) ++ LRf r w m D o u R' := rfl
      -- the choices behind this one
      have cont : ∀ (h' : AH) (u1 : Nat), mfr (fLl D) h h' → QN h' w → MU h' u1 → u1 ≤ u0 + cstF w m D → hI h' 134 D = zI l → hI h' 135 D = zI n → (b = 0 ∨ LRo r w m D o u (l, n) = []) → GF6 d j b f D h = GF6 d j b (f + (LRo r w m D o u (l, n)).length) D h' → ∃ h' u1, mfr (fLl D) h h' ∧ MU h' u1 ∧ u1 ≤ u0 + ((l, n) :: R').length * cstF w m D ∧ ((b = 1 ∧ GF6 d j b f D h = some (some (aI (zI ((f + 1 : Nat) : Int))), h') ∧ ∃ t T, LRf r w m D o u ((l, n) :: R') = t :: T ∧ ∀ (i : Nat) (q : Nat × Nat), t[i]? = some q → hI h' 134 (D + i) = zI q.1 ∧ hI h' 135 (D + i) = zI q.2) ∨ ((b = 0 ∨ LRf r w m D o u ((l, n) :: R') = []) ∧ GF6 d j b f D h = GF6 d j b (f + (LRf r w m D o u ((l, n) :: R')).length) ((D : Int) - 1) h')) := by
        intro h' u1 f' q' mu' hu1 k1 k2 hbb eG
        obtain ⟨h3, u3, f3, mu3, b3, alt3⟩ := ihR D o (f + (LRo r w m D o u (l, n)).length) u1 h' u cs p hn hp ho q' (mr.mv f' (by intro a t; unfold fLl; omega)) (ml.mv f' (by unfold fLl; omega) (by intro i hi; unfold fLl; omega)) hcs (by rw [f'.I (by unfold fLl; omega)]; exact h136) (Or.inr ⟨l, n, k1, k2, hl, hn1, eR2⟩) mu' (by omega)
        refine ⟨h3, u3, f'.tr f3, mu3, by rw [List.length_cons, Nat.succ_mul]; omega, ?_⟩
        rcases alt3 with ⟨d1, d2, t, T, d3, d4⟩ | ⟨d1, d2⟩
        · have hnil : LRo r w m D o u (l, n) = [] := by rcases hbb with y | y; omega; exact y
          rw [hnil, List.length_nil, Nat.add_zero] at d2 eG
          exact Or.inl ⟨d1, by rw [eG]; exact d2, t, T, by rw [eL, hnil, List.nil_append]; exact d3, d4⟩
        · refine Or.inr ⟨?_, by rw [eG, d2, eL, List.length_append, Nat.add_assoc]⟩
          rcases d1 with d1 | d1
          · exact Or.inl d1
          · rcases hbb with y | y
            · exact Or.inl y
            · exact Or.inr (by rw [eL, y, d1]; rfl)
      have k1 : hI h2 134 D = zI l := by rw [f2.I (by unfold fG; omega)]; exact c1
      have k2 : hI h2 135 D = zI n := by rw [f2.I (by unfold fG; omega)]; exact c2
      have k3 : hI h2 136 (D + 1) = zI (nxo w o n) := by rw [f2.I (by unfold fG; omega)]; exact c3
      by_cases z : cs'.length = 0
      · rw [if_pos z] at e9
        have e0 : LRo r w m D o u (l, n) = [] := by
          unfold LRo
          rw [fls_no]
          · rfl
          · intro c hc
            have := (hcs' c).mpr hc
            rw [List.eq_nil_of_length_eq_zero z] at this
            cases this
        exact cont h2 (u0 + 1) (f1'.tr f2') q2 mu2 (by omega) k1 k2 (Or.inr e0) (by rw [e9, e0]; rfl)
      · rw [if_neg z, E_M_goFill_11, obj_e (z94 ms2.1), q2.2.1.1, nadd1] at e9
        simp (disch := omega) only [nlt] at e9
        rcases hm with hm | ⟨m', hm, IH⟩
        · subst hm
          rw [if_neg (by omega), E_M_goFill_13, obj_e (z94 ms2.1), q2.2.1.1, obj_e (z94 ms2.1), show w.length = D + 1 by omega, calI_e (M_takesList _ hv hj (by omega) ms2 mr2 ml2), if01, any_tkn hcs'] at e9
          have es : LRo r w 0 D o u (l, n) = if tkn r ((l, idN w n) :: u) then [[(l, n)]] else [] := by
            unfold LRo fls
            split <;> rfl
          cases y : tkn r ((l, idN w n) :: u) with
          | false =>
            rw [y] at es e9
            rw [if_neg (by simp)] at es e9
            exact cont h2 (u0 + 1) (f1'.tr f2') q2 mu2 (by omega) k1 k2 (Or.inr es) (by rw [es]; exact e9)
          | true =>
            rw [y] at es e9
            rw [if_pos rfl] at es e9
            rw [E_M_goFill_14, nadd1, lt_e] at e9
            rcases (show b = 0 ∨ b = 1 by omega) with v | v
            · subst v
              rw [if_pos (show zI ((0 : Nat) : Int) = 0 from rfl)] at e9
              exact cont h2 (u0 + 1) (f1'.tr f2') q2 mu2 (by omega) k1 k2 (Or.inl rfl) (by rw [es]; exact e9)
            · subst v
              rw [if_neg (by decide), E_M_goFill_15] at e9
              refine ⟨h2, u0 + 1, f1'.tr f2', mu2, by rw [List.length_cons, Nat.succ_mul]; omega, Or.inl ⟨rfl, e9, [(l, n)], LRf r w 0 D o u R', by rw [eL, es]; rfl, fun i q' hq' => ?_⟩⟩
              cases i with
              | zero => cases hq'; exact ⟨k1, k2⟩
              | succ i => cases hq'
        · subst hm
          have f3 : mfr (fun a t => a = 134 ∧ t = D + 1) h2 (sI h2 134 (D + 1) (zI (-1))) := mfr_sI h2 ⟨rfl, rfl⟩ _
          rw [if_pos (by omega), E_M_goFill_12, nadd1, lt_e] at e9
          simp (disch := omega) only [obj_e (z94 ms2.1), m50 ms2, idx_n (z134 ms2.1), lt_e] at e9
          have hit : hI (sI h2 134 (D + 1) (zI (-1))) 134 (D + 1) = zI (-1) := hI_hit _ _ _ _
          generalize sI h2 134 (D + 1) (zI (-1)) = h3 at f3 e9 hit
          have hp1 : w[D + 1]? = some w[D + 1] := List.getElem?_eq_getElem (by omega)
          generalize w[D + 1] = p1 at hp1
          have hnx : nxo w o n ≤ gnm w (D + 1) := by
            rw [gnm_s hp]
            unfold nxo
            rcases al with al | ⟨a1, a2, a3, a4⟩
            · have := idN_t al
              rw [if_neg (by omega)]; omega
            · rw [if_pos a4]; split <;> omega
          have cb := cst_b hw (m := m') hp1 hnx
          have ec : cstF w (m' + 1) D = 1 + (m' + 1) * 36 ^ gapPairs (w.drop (D + 1)) := rfl
          have q3 : QN h3 w := q2.mv f3 (by intro a i; omega)
          have mr3 := mr2.mv f3 (by intro a t; omega)
          have ml3 := ml2.mv f3 (by omega) (by intro i hi; omega)
          have mu3 := mu2.mv f3 (by omega) (by intro i; omega)
          obtain ⟨h4, u4, f4, mu4, b4, alt4⟩ := IH (chs w (D + 1) (nxo w o n)) (D + 1) (nxo w o n) f (u0 + 1) h3 ((l, idN w n) :: u) cs' p1 (by omega) hp1 hnx q3 mr3 ml3 hcs' (by rw [f3.I (by omega)]; exact k3) (Or.inl ⟨hit, rfl⟩) mu3 (by omega)
          rw [← fls_LR] at alt4
          have f3' : mfr (fLl D) h2 h3 := f3.mo (by intro a t; unfold fLl; omega)
          have f4' : mfr (fLl D) h3 h4 := f4.mo (by intro a t; unfold fLl; omega)
          have F4 := f1'.tr (f2'.tr (f3'.tr f4'))
          have j1 : hI h4 134 D = zI l := by rw [f4.I (by unfold fLl; omega), f3.I (by omega)]; exact k1
          have j2 : hI h4 135 D = zI n := by rw [f4.I (by unfold fLl; omega), f3.I (by omega)]; exact k2
          have eo : LRo r w (m' + 1) D o u (l, n) = (fls r w (m' + 1) (D + 1) (nxo w o n) ((l, idN w n) :: u)).map ((l, n) :: ·) := rfl
          have e9' : GF6 d j b f D h = GF6 d j b f ((D + 1 : Nat) : Int) h3 := e9
          rcases alt4 with ⟨d1, d2, t, T, d3, d4⟩ | ⟨d1, d2⟩
          · refine ⟨h4, u4, F4, mu4, by rw [List.length_cons, Nat.succ_mul]; omega, Or.inl ⟨d1, by rw [e9']; exact d2, (l, n) :: t, _, by rw [eL, eo, d3]; rfl, fun i q' hq' => ?_⟩⟩
            cases i with
            | zero => cases hq'; exact ⟨j1, j2⟩
            | succ i =>
              rw [show D + (i + 1) = D + 1 + i by omega]
              exact d4 i q' hq'
          · refine cont h4 u4 F4 (q3.mv f4 (by intro a i; unfold fLl; omega)) mu4 (by omega) j1 j2 ?_ ?_
            · rcases d1 with d1 | d1
              · exact Or.inl d1
              · exact Or.inr (by rw [eo, d1]; rfl)
            · rw [e9', d2, eo, List.length_map, show ((D + 1 : Nat) : Int) - 1 = D by omega]
theorem M_MGF (d : Nat) {j b : Nat} {r : Rdr} {w : Rw} (hv : RV r) (hj : j < 2) (hb : b ≤ 1) (hw : WV w) (hG : gnm w w.length ≤ 3) : ∀ m, MGF d j b r w m
  | 0 => MGF_x d hv hj hb hw hG (Or.inl rfl)
  | m + 1 => MGF_x d hv hj hb hw hG (Or.inr ⟨m, rfl, M_MGF d hv hj hb hw hG m⟩)
