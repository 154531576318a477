/-! the reference: parted -/
def PPar (h' : AH) (D : Nat) (F : List (List (Nat × Nat))) (A B : Option AR) (Q : Prop) : Prop := (F ≠ [] ∧ A = some (some (aI (zI 1)), h') ∧ ∃ t, F[0]? = some t ∧ ∀ j p, t[j]? = some p → hI h' 120 (D + j) = zI p.1 ∧ hI h' 121 (D + j) = zI p.2) ∨ (F = [] ∧ A = B ∧ Q)
theorem PPar.ap {h' : AH} {D : Nat} {F G : List (List (Nat × Nat))} {A B B' : Option AR} {Q : Prop} (q : F = []) (p : PPar h' D G A B Q) (e : B' = A) : PPar h' D (F ++ G) B' B Q := by
  subst e q
  exact p
theorem PPar.le {h' : AH} {D : Nat} {F G : List (List (Nat × Nat))} {A B B' : Option AR} {Q Q' : Prop} (q : F ≠ []) (p : PPar h' D F A B Q) : PPar h' D (F ++ G) A B' Q' := by
  rcases p with ⟨a1, a3, t, a4, a5⟩ | ⟨a1, -⟩
  · refine Or.inl ⟨by simp [a1], a3, t, ?_, a5⟩
    rw [List.getElem?_append_left (List.length_pos_iff.mpr a1)]
    exact a4
  · exact absurd a1 q
def fPt (D a j : Nat) : Prop := fD D a j ∨ (a = 133 ∧ D + 1 ≤ j) ∨ (a = 132 ∧ 4100 * (D + 1) ≤ j)
noncomputable def PS6 (d n : Nat) (D : Int) (h : AH) : Option AR := Rk B_M_parts L_M_parts (Cc (d + 3)) 6 [aR (some 94), aI (zI n), aI (zI D)] [] h
def PIS (d n : Nat) (r o : Rdr) (m : Nat) : Prop := ∀ (D used lt x u0 : Nat) (h : AH) (u : List (Nat × Nat)) (cs os : List Cfg), D + m + 1 = n → used ≤ D → lt < 3 → x ≤ used → MS h → MR h 0 r → MR h 1 o → ML h D cs → MO h D os → (∀ c, c ∈ cs ↔ rq r u c) → (∀ c, c ∈ os ↔ rq o u c) → CUR h D used lt x → MU h u0 → u0 + 2 * (1 + nG 3 m (nu used x)) < 2147482000 →
  ∃ h' u1, mfr (fPt D) h h' ∧ MU h' u1 ∧ u1 ≤ u0 + 2 * (1 + nG 3 m (nu used x)) ∧ PPar h' D (sub r o 3 m used u lt x) (PS6 d n D h) (PS6 d n D h') (hI h' 120 D = zI lt ∧ hI h' 121 D = zI x)
def PGO (d n : Nat) (r o : Rdr) (m : Nat) : Prop := ∀ (D used u0 : Nat) (h : AH) (u : List (Nat × Nat)) (cs os : List Cfg), D + m = n → used ≤ D → MS h → MR h 0 r → MR h 1 o → ML h D cs → MO h D os → (∀ c, c ∈ cs ↔ rq r u c) → (∀ c, c ∈ os ↔ rq o u c) → CUR h D used 0 0 → MU h u0 → u0 + 2 * nG 3 m used < 2147482000 →
  ∃ h' u1, mfr (fPt D) h h' ∧ MU h' u1 ∧ u1 ≤ u0 + 2 * nG 3 m used ∧ PPar h' D (FS r o 3 m used u) (PS6 d n D h) (PS6 d n ((D : Int) - 1) h') True
theorem ps_in (d : Nat) {n m D used lt : Nat} {r o : Rdr} {u : List (Nat × Nat)} {cs os : List Cfg} (vis : PIS d n r o m) (hn : D + m + 1 = n) (hu : used ≤ D) (hlt : lt < 3) (hcs : ∀ c, c ∈ cs ↔ rq r u c) (hos : ∀ c, c ∈ os ↔ rq o u c) : ∀ (k x u0 : Nat) (h : AH), x + k = used + 1 → MS h → MR h 0 r → MR h 1 o → ML h D cs → MO h D os → CUR h D used lt x → MU h u0 → u0 + 2 * inn (nG 3 m) used x k < 2147482000 →
    ∃ h' u1, mfr (fPt D) h h' ∧ MU h' u1 ∧ u1 ≤ u0 + 2 * inn (nG 3 m) used x k ∧ PPar h' D ((List.range' x k).flatMap fun x => sub r o 3 m used u lt x) (PS6 d n D h) (PS6 d n D h') (CUR h' D used (lt + 1) 0)
  | 0, x, u0, h, hx, p, mr, mo, ml, ol, c, mu, hb => by
    refine ⟨h, u0, mfr.rf _ h, mu, by simp [inn], Or.inr ⟨by simp, rfl, ⟨c.1, Or.inl ⟨rfl, ?_, ?_⟩⟩⟩⟩
    · rcases c.2 with ⟨z, -⟩ | ⟨-, a, -⟩
      · omega
      · rw [a]; congr 1; omega
    · rcases c.2 with ⟨z, -⟩ | ⟨-, -, a⟩
      · omega
      · rw [a, show x - 1 = used by omega]
  | k + 1, x, u0, h, hx, p, mr, mo, ml, ol, c, mu, hb => by
    rw [inn] at hb
    obtain ⟨h1, u1, f1, mu1, b1, q1⟩ := vis D used lt x u0 h u cs os hn hu hlt (by omega) p mr mo ml ol hcs hos c mu (by omega)
    by_cases z : sub r o 3 m used u lt x = []
    · rcases q1 with ⟨a1, -⟩ | ⟨a1, a2, a3, a4⟩
      · exact absurd z a1
      · obtain ⟨h2, u2, f2, mu2, b2, q2⟩ := ps_in d vis hn hu hlt hcs hos k (x + 1) u1 h1 (by omega) (p.mf f1) (mr.mv f1 (by intro a t; unfold fPt fD; omega)) (mo.mv f1 (by intro a t; unfold fPt fD; omega)) (ml.mv f1 (by unfold fPt fD; omega) (by intro i hi; unfold fPt fD; omega)) (ol.mv f1 (by unfold fPt fD; omega) (by intro i hi; unfold fPt fD; omega)) (CUR_n (by rw [f1.I (by unfold fPt fD; omega)]; exact c.1) a3 a4) mu1 (by omega)
        refine ⟨h2, u2, f1.tr f2, mu2, by rw [inn]; omega, ?_⟩
        rw [List.range'_succ, List.flatMap_cons]
        exact q2.ap z a2
    · refine ⟨h1, u1, f1, mu1, by rw [inn]; omega, ?_⟩
      rw [List.range'_succ, List.flatMap_cons]
      exact q1.le z
theorem ps_lt (d : Nat) {n m D used : Nat} {r o : Rdr} {u : List (Nat × Nat)} {cs os : List Cfg} (vis : PIS d n r o m) (hn6 : n ≤ 5) (hn : D + m + 1 = n) (hu : used ≤ D) (hcs : ∀ c, c ∈ cs ↔ rq r u c) (hos : ∀ c, c ∈ os ↔ rq o u c) : ∀ (k lt u0 : Nat) (h : AH), lt + k = 3 → MS h → MR h 0 r → MR h 1 o → ML h D cs → MO h D os → CUR h D used lt 0 → MU h u0 → u0 + 2 * (k * inn (nG 3 m) used 0 (used + 1)) < 2147482000 →
    ∃ h' u1, mfr (fPt D) h h' ∧ MU h' u1 ∧ u1 ≤ u0 + 2 * (k * inn (nG 3 m) used 0 (used + 1)) ∧ PPar h' D ((List.range' lt k).flatMap fun lt => (List.range' 0 (used + 1)).flatMap fun x => sub r o 3 m used u lt x) (PS6 d n D h) (PS6 d n ((D : Int) - 1) h') True
  | 0, lt, u0, h, hx, p, mr, mo, ml, ol, c, mu, hb => by
    obtain ⟨h1, e1, f1, -⟩ := M_nextPair (d + 2) (l := 3) p (by omega) (Nat.zero_le _) (by omega) (by omega) (by omega) c
    have f1' : mfr (fPt D) h h1 := f1.mo (by intro a t; unfold fPt fD; omega)
    refine ⟨h1, u0, f1', mu.mv f1 (by omega) (by intro i; omega), by simp, Or.inr ⟨by simp, ?_, trivial⟩⟩
    unfold PS6
    rw [E_M_parts_6]
    simp (disch := omega) only [nlt0, if_false]
    rw [E_M_parts_7, obj_e (z94 p.1), zc3, calI_e e1, if01, if_neg (by omega), E_M_parts_8, lt_e, zI_add]
    rfl
  | k + 1, lt, u0, h, hx, p, mr, mo, ml, ol, c, mu, hb => by
    rw [Nat.succ_mul k] at hb
    obtain ⟨h1, u1, f1, mu1, b1, q1⟩ := ps_in d vis hn hu (lt := lt) (by omega) hcs hos (used + 1) 0 u0 h (by omega) p mr mo ml ol c mu (by omega)
    by_cases z : ((List.range' 0 (used + 1)).flatMap fun x => sub r o 3 m used u lt x) = []
    · rcases q1 with ⟨a1, -⟩ | ⟨a1, a2, a3⟩
      · exact absurd z a1
      · obtain ⟨h2, u2, f2, mu2, b2, q2⟩ := ps_lt d vis hn6 hn hu hcs hos k (lt + 1) u1 h1 (by omega) (p.mf f1) (mr.mv f1 (by intro a t; unfold fPt fD; omega)) (mo.mv f1 (by intro a t; unfold fPt fD; omega)) (ml.mv f1 (by unfold fPt fD; omega) (by intro i hi; unfold fPt fD; omega)) (ol.mv f1 (by unfold fPt fD; omega) (by intro i hi; unfold fPt fD; omega)) a3 mu1 (by omega)
        refine ⟨h2, u2, f1.tr f2, mu2, by rw [Nat.succ_mul k]; omega, ?_⟩
        rw [List.range'_succ (s := lt), List.flatMap_cons]
        exact q2.ap z a2
    · refine ⟨h1, u1, f1, mu1, by rw [Nat.succ_mul k]; omega, ?_⟩
      rw [List.range'_succ (s := lt), List.flatMap_cons]
      exact q1.le z
theorem PIS_PGO (d : Nat) {n m : Nat} {r o : Rdr} (vis : PIS d n r o m) (hn6 : n ≤ 5) : PGO d n r o (m + 1) := by
  intro D used u0 h u cs os hn hu p mr mo ml ol hcs hos c mu hb
  rw [nG] at hb
  have := ps_lt d vis hn6 (by omega) hu hcs hos 3 0 u0 h (by omega) p mr mo ml ol c mu hb
  rw [FS_f, nG]
  exact this
theorem PIS_x (d : Nat) {n m : Nat} {r o : Rdr} (hv : RV r) (ho : RV o) (hn6 : n ≤ 5) (hm : m = 0 ∨ (0 < m ∧ PGO d n r o m)) : PIS d n r o m := by
  intro D used lt x u0 h u cs os hn hu hlt hx p mr mo ml ol hcs hos c mu hb
  obtain ⟨h1, e1, f1, a1, a2, a3⟩ := M_nextPair (d + 2) (l := 3) p (by omega) hx (by omega) (by omega) (by omega) c
  have f1' : mfr (fPt D) h h1 := f1.mo (by intro a t; unfold fPt fD; omega)
  have p1 := p.mf f1
  have mr1 := mr.mv f1' (by intro a t; unfold fPt fD; omega)
  have mo1 := mo.mv f1' (by intro a t; unfold fPt fD; omega)
  have ml1 := ml.mv f1' (by unfold fPt fD; omega) (by intro i hi; unfold fPt fD; omega)
  have ol1 := ol.mv f1' (by unfold fPt fD; omega) (by intro i hi; unfold fPt fD; omega)
  have mu1 := mu.mv f1 (by omega) (by intro i; omega)
  obtain ⟨h2, cs', e2, f2, ml2, mu2, g2⟩ := M_goOn d (l := lt) (x := x + 1) hv (j := 0) (by omega) (by omega) (by omega) (by omega) (by omega) p1 mr1 ml1 mu1
  have f2' : mfr (fPt D) h1 h2 := f2.mo (by intro a t; unfold fPt fD fG; omega)
  have p2 := p1.mf f2
  have mr2 := mr1.mv f2' (by intro a t; unfold fPt fD; omega)
  have mo2 := mo1.mv f2' (by intro a t; unfold fPt fD; omega)
  have ol2 := ol1.mv f2' (by unfold fPt fD; omega) (by intro i hi; unfold fPt fD; omega)
  have hcs' := rq_goOn hcs g2
  have a1' : hI h2 120 D = zI lt := by rw [f2.I (by unfold fG; omega)]; exact a1
  have a2' : hI h2 121 D = zI x := by rw [f2.I (by unfold fG; omega)]; exact a2
  have a3' : hI h2 122 (D + 1) = zI (nu used x) := by rw [f2.I (by unfold fG; omega)]; exact a3
  obtain ⟨h3, os', e3, f3, ol3, mu3, g3⟩ := M_goOther d (l := lt) (x := x + 1) ho (by omega) (by omega) (by omega) (by omega) p2 mo2 ol2 mu2
  have f3' : mfr (fPt D) h2 h3 := f3.mo (by intro a t; unfold fPt fD fO; omega)
  have p3 := p2.mf f3
  have mr3 := mr2.mv f3' (by intro a t; unfold fPt fD; omega)
  have mo3 := mo2.mv f3' (by intro a t; unfold fPt fD; omega)
  have ml3 := ml2.mv f3 (by unfold fO; omega) (by intro i hi; unfold fO; omega)
  have hos' := rq_goOn hos g3
  have a1'' : hI h3 120 D = zI lt := by rw [f3.I (by unfold fO; omega)]; exact a1'
  have a2'' : hI h3 121 D = zI x := by rw [f3.I (by unfold fO; omega)]; exact a2'
  have a3'' : hI h3 122 (D + 1) = zI (nu used x) := by rw [f3.I (by unfold fO; omega)]; exact a3'
  have e9 : PS6 d n D h = if D + 1 < n then Rk B_M_parts L_M_parts (Cc (d + 3)) 10 [aR (some 94), aI (zI n), aI (zI D)] [] h3 else Rk B_M_parts L_M_parts (Cc (d + 3)) 11 [aR (some 94), aI (zI n), aI (zI D)] [] h3 := by
    unfold PS6
    rw [E_M_parts_6]
    simp (disch := omega) only [nlt0, if_false]
    rw [E_M_parts_7, obj_e (z94 p.1), zc3, calI_e e1, if01, if_pos hlt, E_M_parts_9]
    simp (disch := omega) only [obj_e (z94 p1.1), m33 p1, m34 p1, idx_n (z120 p1.1), idx_n (z121 p1.1), a1, a2, nadd1]
    rw [calV_e (show Cc (d + 3) k_M_goOn [aR (some 94), aI (zI 0), aI (zI D), aI (zI lt), aI (zI ((x + 1 : Nat) : Int))] h1 = _ from e2)]
    simp (disch := omega) only [obj_e (z94 p2.1), m33 p2, m34 p2, idx_n (z120 p2.1), idx_n (z121 p2.1), a1', a2', nadd1]
    rw [calV_e e3]
    simp (disch := omega) only [nlt]
  rcases hm with hm | ⟨m0, hm⟩
  · subst hm
    rw [if_neg (by omega), E_M_parts_11, obj_e (z94 p3.1), show n = D + 1 by omega, calI_e (show Cc (d + 3) k_M_takesList [aR (some 94), aI (zI 0), aI (zI ((D + 1 : Nat) : Int))] h3 = _ from M_takesList _ hv (j := 0) (by omega) (by omega) p3 mr3 ml3), obj_e (z94 p3.1), calI_e (M_takesOther _ ho (by omega) p3 mo3 ol3), any_tkn hcs', any_tkn hos'] at e9
    have es : sub r o 3 0 used u lt x = if tkn r ((lt, x + 1) :: u) = tkn o ((lt, x + 1) :: u) then [] else [[(lt, x)]] := by
      unfold sub
      rw [FS_00]
      unfold dif
      cases tkn r ((lt, x + 1) :: u) <;> cases tkn o ((lt, x + 1) :: u) <;> rfl
    refine ⟨h3, u0 + 1 + 1, f1'.tr (f2'.tr f3'), mu3, by omega, ?_⟩
    by_cases y : tkn r ((lt, x + 1) :: u) = tkn o ((lt, x + 1) :: u)
    · rw [y, if_pos rfl] at e9
      rw [if_pos y] at es
      refine Or.inr ⟨es, ?_, a1'', a2''⟩
      rw [show n = D + 1 by omega]
      exact e9
    · rw [if_neg y] at es
      rw [if_neg (by cases a : tkn r ((lt, x + 1) :: u) <;> cases b : tkn o ((lt, x + 1) :: u) <;> rw [a, b] at y <;> first | exact absurd rfl y | decide), E_M_parts_12, fr1] at e9
      refine Or.inl ⟨by rw [es]; simp, by rw [show n = D + 1 by omega]; exact e9, [(lt, x)], by rw [es]; rfl, ?_⟩
      intro i q hq
      cases i with
      | zero => cases hq; exact ⟨a1'', a2''⟩
      | succ i => cases hq
  · obtain ⟨h4, e4, f4, c4⟩ := M_beginPair (d + 2) (D := D + 1) p3 (by omega) a3''
    have f4' : mfr (fPt D) h3 h4 := f4.mo (by intro a t; unfold fPt fD; omega)
    have p4 := p3.mf f4
    have hnu : nu used x ≤ D + 1 := by unfold nu; split <;> omega
    rw [if_pos (by omega), E_M_parts_10, nadd1, lt_e, obj_e (z94 p3.1), calV_e e4] at e9
    obtain ⟨h5, u1, f5, mu5, b5, q5⟩ := hm (D + 1) (nu used x) (u0 + 1 + 1) h4 ((lt, x + 1) :: u) cs' os' (by omega) hnu p4 (mr3.mv f4' (by intro a t; unfold fPt fD; omega)) (mo3.mv f4' (by intro a t; unfold fPt fD; omega)) (ml3.mv f4 (by omega) (by intro i hi; omega)) (ol3.mv f4 (by omega) (by intro i hi; omega)) hcs' hos' c4 (mu3.mv f4 (by omega) (by intro i; omega)) (by omega)
    have f5' : mfr (fPt D) h4 h5 := f5.mo (by intro a t; unfold fPt fD; omega)
    have b1 : hI h5 120 D = zI lt := by rw [f5.I (by unfold fPt fD; omega), f4.I (by omega)]; exact a1''
    have b2 : hI h5 121 D = zI x := by rw [f5.I (by unfold fPt fD; omega), f4.I (by omega)]; exact a2''
    refine ⟨h5, u1, f1'.tr (f2'.tr (f3'.tr (f4'.tr f5'))), mu5, by omega, ?_⟩
    rcases q5 with ⟨k1, k3, t, k4, k5⟩ | ⟨k1, k2, -⟩
    · refine Or.inl ⟨?_, by rw [e9]; exact k3, (lt, x) :: t, ?_, ?_⟩
      · unfold sub; simpa using k1
      · unfold sub; rw [List.getElem?_map, k4]; rfl
      · intro i q hq
        cases i with
        | zero => cases hq; exact ⟨b1, b2⟩
        | succ i =>
          rw [show D + (i + 1) = D + 1 + i by omega]
          exact k5 i q hq
    · refine Or.inr ⟨by unfold sub; rw [k1]; rfl, ?_, b1, b2⟩
      rw [e9]
      refine Eq.trans k2 ?_
      rw [show ((D + 1 : Nat) : Int) - 1 = D by omega]
theorem M_PGO (d : Nat) {n : Nat} {r o : Rdr} (hv : RV r) (ho : RV o) (hn6 : n ≤ 5) : ∀ m, PGO d n r o (m + 1)
  | 0 => PIS_PGO d (PIS_x d hv ho hn6 (Or.inl rfl)) hn6
  | m + 1 => PIS_PGO d (PIS_x d hv ho hn6 (Or.inr ⟨by omega, M_PGO d hv ho hn6 m⟩)) hn6
theorem M_parts (d : Nat) {n k u : Nat} {s : Stt} {h : AH} (v : VS s) (p : MI k s h) (hn6 : n ≤ 5) (mu : MU h u) (hu : u + 1000000 < 2147482000) : ∃ h' u1, Cc (d + 4) k_M_parts [aR (some 94), aI (zI n)] h = some (some (aI (zI (if FS s.1 s.2.1 3 n 0 [] = [] then 0 else 1))), h') ∧ mfr (fun a i => scr a i ∨ (a = 94 ∧ i = 29) ∨ a = 116) h h' ∧ MU h' u1 ∧ u1 ≤ u + 600000 ∧ ∀ t, (FS s.1 s.2.1 3 n 0 [])[0]? = some t → ∀ i q, t[i]? = some q → hI h' 120 i = zI q.1 ∧ hI h' 121 i = zI q.2 := by
  have mr := p.2.1
  have mo := p.2.2.1
  obtain ⟨h1, e1, f1, ml1⟩ := M_beginList (d + 2) p.1
  have p1 := p.1.mf f1
  have f2 : mfr (fun a t => (a = 132 ∧ t = 0) ∨ (a = 133 ∧ t = 0) ∨ (a = 122 ∧ t = 0)) h1 (sI (sI (sI h1 132 0 (zI ((0 : Nat) : Int))) 133 0 (zI ((1 : Nat) : Int))) 122 0 (zI ((0 : Nat) : Int))) := ((mfr_sI h1 (by omega) _).tr (mfr_sI _ (by omega) _)).tr (mfr_sI _ (by omega) _)
  have c2 : hI (sI (sI (sI h1 132 0 (zI ((0 : Nat) : Int))) 133 0 (zI ((1 : Nat) : Int))) 122 0 (zI ((0 : Nat) : Int))) 122 0 = zI ((0 : Nat) : Int) := hI_hit _ _ _ _
  have ol2 : MO (sI (sI (sI h1 132 0 (zI ((0 : Nat) : Int))) 133 0 (zI ((1 : Nat) : Int))) 122 0 (zI ((0 : Nat) : Int))) 0 [c0] := by
    refine ⟨by simp, ?_, by rw [hI_off (by omega), hI_hit]; rfl, ?_⟩
    · intro c hc; rw [List.mem_singleton.mp hc]; exact ⟨by decide, by decide, by decide, by decide⟩
    · intro i c hc
      have := (List.getElem?_eq_some_iff.mp hc).1
      have : i = 0 := by simp at this; omega
      subst this
      simp at hc
      rw [hI_off (by omega), hI_off (by omega), ← hc]
      exact hI_hit _ _ _ _
  have start : Cc (d + 4) k_M_parts [aR (some 94), aI (zI n)] h = if n = 0 then Rk B_M_parts L_M_parts (Cc (d + 3)) 1 [aR (some 94), aU, aU] [] (sI (sI (sI h1 132 0 (zI ((0 : Nat) : Int))) 133 0 (zI ((1 : Nat) : Int))) 122 0 (zI ((0 : Nat) : Int))) else Rk B_M_parts L_M_parts (Cc (d + 3)) 5 [aR (some 94), aI (zI n), aU] [] (sI (sI (sI h1 132 0 (zI ((0 : Nat) : Int))) 133 0 (zI ((1 : Nat) : Int))) 122 0 (zI ((0 : Nat) : Int))) := by
    rw [C_M_parts, E_M_parts_0, obj_e (z94 p.1.1), calV_e e1, zc0, zc1]
    simp (disch := omega) only [obj_e (z94 p1.1), m48 p1, idx_n (z132 p1.1), lt_e, obj_sI, hR_sI, m49 p1, idx_sI, idx_n (z133 p1.1), m35 p1, idx_n (z122 p1.1), neq0]
  generalize sI (sI (sI h1 132 0 (zI ((0 : Nat) : Int))) 133 0 (zI ((1 : Nat) : Int))) 122 0 (zI ((0 : Nat) : Int)) = h2 at f2 start c2 ol2
  have p2 := p1.mf f2
  have f12 : mfr (fun a _ => 104 ≤ a ∧ a ≠ 109 ∧ a ≠ 110 ∧ a ≠ 111 ∧ a ≠ 116) h h2 := (f1.mo (by intro a t; omega)).tr (f2.mo (by intro a t; omega))
  have f12s : mfr (fun a i => scr a i ∨ (a = 94 ∧ i = 29) ∨ a = 116) h h2 := f12.mo (by intro a i hh; unfold scr; omega)
  have mr2 := mr.mv f12 (by intro a t; omega)
  have mo2 := mo.mv f12 (by intro a t; omega)
  have ml2 := ml1.mv f2 (by omega) (by intro i hi; omega)
  have mu2 := mu.mv f12 (by omega) (by intro i; omega)
  rw [start]
  by_cases z : n = 0
  · subst z
    rw [if_pos rfl, E_M_parts_1, obj_e (z94 p2.1), zc0, calI_e (M_takesList _ v.1 (by omega) (by omega) p2 mr2 ml2), obj_e (z94 p2.1), calI_e (M_takesOther _ v.2.1 (by omega) p2 mo2 ol2), show List.any [c0] (fun c => tks s.1 c.1) = tks s.1 0 from by simp [c0], show List.any [c0] (fun c => tks s.2.1 c.1) = tks s.2.1 0 from by simp [c0], FS_0]
    refine ⟨h2, u, ?_, f12s, mu2, by omega, ?_⟩
    · by_cases y : tks s.1 0 = tks s.2.1 0
      · rw [y, if_pos rfl, if_pos rfl, E_M_parts_3, E_M_parts_4, fr0]; rfl
      · rw [if_neg (by cases a : tks s.1 0 <;> cases b : tks s.2.1 0 <;> rw [a, b] at y <;> first | exact absurd rfl y | decide), if_neg y, E_M_parts_2, E_M_parts_4, fr1]; rfl
    · intro t ht i q hq
      split at ht
      · cases ht
      · cases ht; cases hq
  · obtain ⟨m, rfl⟩ : ∃ m, n = m + 1 := ⟨n - 1, by omega⟩
    obtain ⟨h3, e3, f3, c3⟩ := M_beginPair (d + 2) (D := 0) p2 (by omega) c2
    have p3 := p2.mf f3
    have hG : nG 3 (m + 1) 0 ≤ 300000 := by
      have : ∀ n, n < 6 → nG 3 n 0 ≤ 300000 := by decide +kernel
      exact this (m + 1) (by omega)
    obtain ⟨h4, u1, f4, mu4, b4, q4⟩ := M_PGO d v.1 v.2.1 hn6 m 0 0 u h3 [] [c0] [c0] (by omega) (Nat.le_refl _) p3 (mr2.mv f3 (by intro a t; omega)) (mo2.mv f3 (by intro a t; omega)) (ml2.mv f3 (by omega) (by intro i hi; omega)) (ol2.mv f3 (by omega) (by intro i hi; omega)) (fun c => by rw [List.mem_singleton]; rfl) (fun c => by rw [List.mem_singleton]; rfl) c3 (mu2.mv f3 (by omega) (by intro i; omega)) (by omega)
    have f24 : mfr (fun a i => scr a i ∨ (a = 94 ∧ i = 29) ∨ a = 116) h2 h4 := (f3.mo (by intro a t; unfold scr; omega)).tr (f4.mo (by intro a t; unfold scr fPt fD; omega))
    have e5 : Rk B_M_parts L_M_parts (Cc (d + 3)) 5 [aR (some 94), aI (zI ((m + 1 : Nat) : Int)), aU] [] h2 = PS6 d (m + 1) ((0 : Nat) : Int) h3 := by
      rw [E_M_parts_5, lt_e, obj_e (z94 p2.1), zc0, calV_e e3]
      rfl
    rw [if_neg z, e5]
    rcases q4 with ⟨k1, k3, t, k4, k5⟩ | ⟨k1, k2, -⟩
    · refine ⟨h4, u1, by rw [if_neg k1]; exact k3, f12s.tr f24, mu4, by omega, ?_⟩
      intro t' ht' i q hq
      rw [k4] at ht'
      cases ht'
      have := k5 i q hq
      rw [Nat.zero_add] at this
      exact this
    · refine ⟨h4, u1, ?_, f12s.tr f24, mu4, by omega, ?_⟩
      · rw [k2, if_pos k1]
        unfold PS6
        rw [E_M_parts_6, if_pos (by decide), E_M_parts_13, fr0]
      · intro t' ht'
        rw [k1] at ht'
        cases ht'
theorem MI_v {F : Nat → Nat → Prop} {h h' : AH} {k k' u : Nat} {s : Stt} (p : MI k s h) (f : mfr F h h') (n : ∀ a i, F a i → scr a i ∨ (a = 94 ∧ i = 29) ∨ a = 116) (mu : MU h' u) (hu : u ≤ 4000000 * k') : MI k' s h' := by
  obtain ⟨p1, p2, p3, p4, p5, p6⟩ := p
  refine ⟨p1.mf f, p2.mv f ?_, p3.mv f ?_, p4.mv f ?_ ?_, p5.mv f ?_ ?_ ?_, mu.k hu⟩
  · intro a i h1 h2 h3; have := n a i h3; unfold scr at this; omega
  · intro a i h1 h2 h3; have := n a i h3; unfold scr at this; omega
  · intro h3; have := n _ _ h3; unfold scr at this; omega
  · intro i h3; have := n _ _ h3; unfold scr at this; omega
  · intro h3; have := n _ _ h3; unfold scr at this; omega
  · intro i h3; have := n _ _ h3; unfold scr at this; omega
  · intro i h3; have := n _ _ h3; unfold scr at this; omega
theorem mprt_lp {n k : Int} (n1 : 0 ≤ n) (n2 : n ≤ 5) (k1 : -1 ≤ k) (k2 : k < 2147483648) {s : Stt} {kk : Nat} (hk : kk < 512) (v : VS s) : ∀ (f len u : Nat) (h : AH), ((len + f : Nat) : Int) = n + 1 → MI (kk + 1) s h → MU h u → u ≤ 4000000 * kk + 600000 * len → ∃ h1, Rk B_M_parted L_M_parted (Cc 59) 4 [aR (some 94), aI (zI n), aI (zI k), aI (zI len)] [] h = some (some (aI (zI (prtA s k f len))), h1) ∧ mfr (fun a _ => 94 ≤ a) h h1 ∧ MI (kk + 1) s h1
  | 0, len, u, h, hl, p, mu, hu => by
    refine ⟨h, ?_, mfr.rf _ h, p⟩
    rw [E_M_parted_4]
    simp (disch := omega) only [yle]
    rw [if_neg (by omega), E_M_parted_13]
    rfl
  | f + 1, len, u, h, hl, p, mu, hu => by
    obtain ⟨h', u1, c1, c2, c3, c4, c5⟩ := M_parts 55 (n := len) v p (by omega) mu (by omega)
    have e : Rk B_M_parted L_M_parted (Cc 59) 4 [aR (some 94), aI (zI n), aI (zI k), aI (zI len)] [] h = if FS s.1 s.2.1 3 len 0 [] = [] then Rk B_M_parted L_M_parted (Cc 59) 12 [aR (some 94), aI (zI n), aI (zI k), aI (zI len)] [] h' else Rk B_M_parted L_M_parted (Cc 59) 6 [aR (some 94), aU, aI (zI k), aI (zI len)] [] h' := by
      rw [E_M_parted_4]
      simp (disch := omega) only [yle]
      rw [if_pos (by omega), E_M_parted_5, obj_e (z94 p.1.1), calI_e c1]
      by_cases z : FS s.1 s.2.1 3 len 0 [] = []
      · rw [if_pos z, if_pos z, if_pos zI_0.symm]
      · rw [if_neg z, if_neg z, if_neg (by decide)]
    have c2' : mfr (fun a _ => 94 ≤ a) h h' := c2.mo (by intro a i hh; unfold scr at hh; omega)
    have P : MI (kk + 1) s h' := MI_v p c2 (fun a i h => h) c3 (by omega)
    rw [e, prtA]
    by_cases z : FS s.1 s.2.1 3 len 0 [] = []
    · rw [if_pos z, if_pos (by rw [z]; rfl), E_M_parted_12, lt_e, nadd1]
      obtain ⟨h1, b1, b2, b3⟩ := mprt_lp n1 n2 k1 k2 hk v f (len + 1) u1 h' (by omega) P c3 (by rw [Nat.mul_succ, ← Nat.add_assoc]; exact Nat.le_trans c4 (Nat.add_le_add_right hu _))
      exact ⟨h1, b1, c2'.tr b2, b3⟩
    · rw [if_neg z, if_neg (fun w => z (List.eq_nil_of_length_eq_zero w)), E_M_parted_6]
      simp (disch := omega) only [yeq]
      refine ⟨h', ?_, c2', P⟩
      by_cases y : k < 0
      · rw [if_pos (by omega), if_pos y, E_M_parted_7, E_M_parted_11]
      · rw [if_neg (by omega), if_neg y, E_M_parted_8]
        simp (disch := omega) only [ylt]
        by_cases w : k < len
        · obtain ⟨t, rfl⟩ : ∃ g : Nat, k = g := ⟨k.toNat, by omega⟩
          obtain ⟨q, hq⟩ : ∃ q, (FS s.1 s.2.1 3 len 0 [])[0]? = some q := ⟨(FS s.1 s.2.1 3 len 0 [])[0]'(List.length_pos_iff.mpr z), List.getElem?_eq_getElem _⟩
          have hlq := FS_mem (List.mem_of_getElem? hq)
          have hc : q[t]? = some q[t] := List.getElem?_eq_getElem (by omega)
          have := c5 q hq t _ hc
          rw [if_pos w, if_pos w, E_M_parted_9]
          simp (disch := omega) only [obj_e (z94 P.1.1), m33 P.1, m34 P.1, idx_n (z120 P.1.1), idx_n (z121 P.1.1), this.1, this.2]
          rw [E_M_parted_11, zI_mul, zI_add]
          unfold pcA
          rw [hq]
          show _ = some (some (aI (zI (match q[t]? with | none => -1 | some p => ((16 * p.1 + p.2 : Nat) : Int)))), h')
          rw [hc]
          rfl
        · rw [if_neg w, if_neg w, E_M_parted_10, E_M_parted_11]
theorem M_parted {n k : Int} (n1 : -2147483648 ≤ n) (n2 : n < 2147483648) (k1 : -2147483648 ≤ k) (k2 : k < 2147483648) : MOK k_M_parted [aI (zI n), aI (zI k)] (ptdA n k) id := by
  intro s kk h hk v p
  unfold ptdA
  rw [C_M_parted, E_M_parted_0, i2l n1 n2, calI_e (M_in _ h n1 n2 (by omega) (by omega) (by omega) (by omega)), if01]
  by_cases a2 : 0 ≤ n ∧ n ≤ 5
  · simp only [if_pos a2]
    rw [E_M_parted_1]
    simp (disch := omega) only [ylt]
    by_cases a3 : k < -1
    · simp only [if_pos a3]
      exact ⟨h, by rw [E_M_parted_2], mfr.rf _ h, p.up⟩
    · simp only [if_neg a3]
      obtain ⟨u, hu, mu⟩ := MK_u p.2.2.2.2.2 (by omega)
      rw [E_M_parted_3, lt_e, zc0]
      exact mprt_lp a2.1 a2.2 (by omega) k2 hk v (n.toNat + 1) 0 u h (by omega) p.up mu (by omega)
  · simp only [if_neg a2]
    exact ⟨h, by rw [E_M_parted_2], mfr.rf _ h, p.up⟩
