/-! the reference: shapes -/
def CUR (h : AH) (D used lt x : Nat) : Prop := hI h 122 D = zI used ∧ ((x = 0 ∧ hI h 120 D = zI ((lt : Int) - 1) ∧ hI h 121 D = zI used) ∨ (0 < x ∧ hI h 120 D = zI lt ∧ hI h 121 D = zI ((x - 1 : Nat) : Int)))
theorem M_nextPair (d : Nat) {h : AH} {D used lt x l : Nat} (p : MS h) (hD : D < 13) (hx : x ≤ used) (hu : used ≤ 12) (hlt : lt ≤ 3) (hl : l ≤ 3) (c : CUR h D used lt x) : ∃ h', Cc (d + 1) k_M_nextPair [aR (some 94), aI (zI D), aI (zI l)] h = some (some (aI (zI (if lt < l then 1 else 0))), h') ∧ mfr (fun a t => ((a = 120 ∨ a = 121) ∧ t = D) ∨ (a = 122 ∧ t = D + 1)) h h' ∧ hI h' 120 D = zI lt ∧ hI h' 121 D = zI x ∧ hI h' 122 (D + 1) = zI (nu used x) := by
  have fin : ∀ h1 : AH, mfr (fun a t => ((a = 120 ∨ a = 121) ∧ t = D) ∨ (a = 122 ∧ t = D + 1)) h h1 → hI h1 120 D = zI lt → hI h1 121 D = zI x → ∃ h', Rk B_M_nextPair L_M_nextPair (Cc d) 3 [aR (some 94), aI (zI D), aI (zI l)] [] h1 = some (some (aI (zI (if lt < l then 1 else 0))), h') ∧ mfr (fun a t => ((a = 120 ∨ a = 121) ∧ t = D) ∨ (a = 122 ∧ t = D + 1)) h h' ∧ hI h' 120 D = zI lt ∧ hI h' 121 D = zI x ∧ hI h' 122 (D + 1) = zI (nu used x) := by
    intro h1 f1 a1 a2
    have p1 := p.mf f1
    have c1 : hI h1 122 D = zI used := by rw [f1.I (by omega)]; exact c.1
    refine ⟨sI h1 122 (D + 1) (zI (nu used x)), ?_, f1.tr (mfr_sI _ (by omega) _), by rw [hI_off (by omega)]; exact a1, by rw [hI_off (by omega)]; exact a2, hI_hit _ _ _ _⟩
    rw [E_M_nextPair_3]
    simp (disch := omega) only [obj_e (z94 p1.1), m35 p1, m34 p1, idx_n (z122 p1.1), idx_n (z121 p1.1), c1, a2, neq, nadd1]
    have e6 : ∀ b : Nat, nu used x = used + b → Rk B_M_nextPair L_M_nextPair (Cc d) 6 [aR (some 94), aI (zI D), aI (zI l)] [aI (zI b), aI (zI used), aI (zI ((D + 1 : Nat) : Int)), aR (some 122)] h1 = some (some (aI (zI (if lt < l then 1 else 0))), sI h1 122 (D + 1) (zI (nu used x))) := by
      intro b hb
      rw [E_M_nextPair_6, nadd, ← hb]
      simp (disch := omega) only [idx_n (z122 p1.1), lt_e, obj_sI, obj_e (z94 p1.1), hR_sI, m33 p1, idx_sI, idx_n (z120 p1.1)]
      rw [hI_off (by omega), a1]
      simp (disch := omega) only [nlt]
      by_cases z : lt < l
      · rw [if_pos z, if_pos z, E_M_nextPair_7, E_M_nextPair_9, fr1]
      · rw [if_neg z, if_neg z, E_M_nextPair_8, E_M_nextPair_9, fr0]
    by_cases z : x = used
    · rw [if_pos z, E_M_nextPair_4, zc1]; exact e6 1 (by unfold nu; rw [if_pos z])
    · rw [if_neg z, E_M_nextPair_5, zc0]; exact e6 0 (by unfold nu; rw [if_neg z]; rfl)
  rw [C_M_nextPair, E_M_nextPair_0]
  rcases c.2 with ⟨x0, a1, a2⟩ | ⟨x0, a1, a2⟩
  · subst x0
    obtain ⟨h', e, k⟩ := fin (sI (sI h 121 D (zI ((0 : Nat) : Int))) 120 D (zI lt)) ((mfr_sI h (by omega) _).tr (mfr_sI _ (by omega) _)) (hI_hit _ _ _ _) (by rw [hI_off (by omega), hI_hit])
    refine ⟨h', ?_, k⟩
    simp (disch := omega) only [obj_e (z94 p.1), m35 p, m34 p, idx_n (z122 p.1), idx_n (z121 p.1), c.1, a2, nlt]
    rw [if_neg (by omega), E_M_nextPair_2]
    simp (disch := omega) only [obj_e (z94 p.1), m34 p, idx_n (z121 p.1), lt_e, obj_sI, hR_sI, m33 p, idx_sI, idx_n (z120 p.1)]
    rw [hI_off (by omega), a1, show zI ((lt : Int) - 1) + zI 1 = zI lt from by rw [zI_add]; congr 1; omega]
    exact e
  · obtain ⟨h', e, k⟩ := fin (sI h 121 D (zI x)) (mfr_sI h (by omega) _) (by rw [hI_off (by omega)]; exact a1) (hI_hit _ _ _ _)
    refine ⟨h', ?_, k⟩
    simp (disch := omega) only [obj_e (z94 p.1), m35 p, m34 p, idx_n (z122 p.1), idx_n (z121 p.1), c.1, a2, nlt]
    rw [if_pos (by omega), E_M_nextPair_1]
    simp (disch := omega) only [obj_e (z94 p.1), m34 p, idx_n (z121 p.1), lt_e, a2]
    rw [nadd1, show x - 1 + 1 = x by omega]
    exact e
theorem M_beginPair (d : Nat) {h : AH} {D used : Nat} (p : MS h) (hD : D < 13) (c : hI h 122 D = zI used) : ∃ h', Cc (d + 1) k_M_beginPair [aR (some 94), aI (zI D)] h = some (none, h') ∧ mfr (fun a t => (a = 120 ∨ a = 121) ∧ t = D) h h' ∧ CUR h' D used 0 0 := by
  refine ⟨sI (sI h 120 D (zI (-1))) 121 D (zI used), ?_, (mfr_sI h (by omega) _).tr (mfr_sI _ (by omega) _), ?_, Or.inl ⟨rfl, ?_, hI_hit _ _ _ _⟩⟩
  · rw [C_M_beginPair, E_M_beginPair_0]
    simp (disch := omega) only [obj_e (z94 p.1), m33 p, idx_n (z120 p.1), lt_e, obj_sI, hR_sI, m35 p, m34 p, idx_sI, idx_n (z122 p.1), idx_n (z121 p.1)]
    rw [hI_off (by omega), c]
  · rw [hI_off (by omega), hI_off (by omega)]; exact c
  · rw [hI_off (by omega), hI_hit]; rfl
theorem tkn_B (u : List (Nat × Nat)) : tkn BLK u = false := by
  unfold tkn
  rw [bl_f]
  rintro ⟨c, -, h⟩
  unfold tks BLK at h
  simp at h
theorem dif_B (r : Rdr) (u : List (Nat × Nat)) : dif r BLK u = tkn r u := by unfold dif; rw [tkn_B]; cases tkn r u <;> rfl
theorem FSB_no {r : Rdr} {l n used : Nat} {u : List (Nat × Nat)} (h1 : ∀ c, ¬ rq r u c) : FS r BLK l n used u = [] := by
  unfold FS
  apply List.filter_eq_nil_iff.mpr
  intro t _
  rw [dif_B, tkn_no (rq_no t u h1)]
  simp
theorem FS_00 (r o : Rdr) (l used : Nat) (u : List (Nat × Nat)) : FS r o l 0 used u = if dif r o u then [[]] else [] := by
  unfold FS
  rw [SH, List.filter_cons]
  rfl
def inn (g : Nat → Nat) (used : Nat) : Nat → Nat → Nat
  | _, 0 => 0
  | x, k + 1 => 1 + g (nu used x) + inn g used (x + 1) k
def nG (l : Nat) : Nat → Nat → Nat
  | 0, _ => 0
  | m + 1, used => l * inn (nG l m) used 0 (used + 1)
theorem nG_le : ∀ l, l < 4 → ∀ n, n < 7 → nG l n 0 ≤ 500000 := by decide +kernel
/-- what a part of the reference's search comes to -/
def MPar (h' : AH) (D asked f : Nat) (F : List (List (Nat × Nat))) (A B : Option AR) (Q : Prop) : Prop := (f < asked ∧ asked ≤ f + F.length ∧ A = some (some (aI (zI asked)), h') ∧ ∃ t, F[asked - f - 1]? = some t ∧ ∀ j p, t[j]? = some p → hI h' 120 (D + j) = zI p.1 ∧ hI h' 121 (D + j) = zI p.2) ∨ (¬ (f < asked ∧ asked ≤ f + F.length) ∧ A = B ∧ Q)
theorem MPar.ap {h' : AH} {D asked f : Nat} {F G : List (List (Nat × Nat))} {A B B' : Option AR} {Q : Prop} (q : ¬ (f < asked ∧ asked ≤ f + F.length)) (p : MPar h' D asked (f + F.length) G A B Q) (e : B' = A) : MPar h' D asked f (F ++ G) B' B Q := by
  subst e
  rcases p with ⟨a1, a2, a3, t, a4, a5⟩ | ⟨a1, a2, a3⟩
  · refine Or.inl ⟨by omega, by rw [List.length_append]; omega, a3, t, ?_, a5⟩
    rw [List.getElem?_append_right (by omega), ← a4]
    congr 1
    omega
  · refine Or.inr ⟨?_, a2, a3⟩
    rw [List.length_append]
    intro h
    by_cases z : asked ≤ f + F.length
    · exact q ⟨h.1, z⟩
    · exact a1 ⟨by omega, by omega⟩
theorem MPar.le {h' : AH} {D asked f : Nat} {F G : List (List (Nat × Nat))} {A B B' : Option AR} {Q Q' : Prop} (q : f < asked ∧ asked ≤ f + F.length) (p : MPar h' D asked f F A B Q) (e : B' = A) : MPar h' D asked f (F ++ G) B' B Q' := by
  subst e
  rcases p with ⟨a1, a2, a3, t, a4, a5⟩ | ⟨a1, a2, a3⟩
  · refine Or.inl ⟨a1, by rw [List.length_append]; omega, a3, t, ?_, a5⟩
    rw [List.getElem?_append_left (by omega)]
    exact a4
  · exact absurd q a1
def fD (D a j : Nat) : Prop := (a = 94 ∧ j = 29) ∨ a = 116 ∨ (a = 115 ∧ D + 1 ≤ j) ∨ (a = 114 ∧ 24600 * (D + 1) ≤ j) ∨ ((a = 120 ∨ a = 121) ∧ D ≤ j) ∨ (a = 122 ∧ D + 1 ≤ j)
/-- the loop's head -/
noncomputable def GS6 (d j n l asked f : Nat) (D : Int) (h : AH) : Option AR := Rk B_M_goShapes L_M_goShapes (Cc (d + 3)) 6 [aR (some 94), aI (zI j), aI (zI n), aI (zI l), aI (zI asked), aI (zI f), aI (zI D)] [] h
def VIS (d j n l asked : Nat) (r : Rdr) (m : Nat) : Prop := ∀ (D used lt x f u0 : Nat) (h : AH) (u : List (Nat × Nat)) (cs : List Cfg), D + m + 1 = n → used ≤ D → lt < l → x ≤ used → MS h → MR h j r → ML h D cs → (∀ c, c ∈ cs ↔ rq r u c) → CUR h D used lt x → MU h u0 → f ≤ u0 → u0 + 1 + nG l m (nu used x) < 2147482000 →
  ∃ h' u1, mfr (fD D) h h' ∧ MU h' u1 ∧ u1 ≤ u0 + 1 + nG l m (nu used x) ∧ MPar h' D asked f (sub r BLK l m used u lt x) (GS6 d j n l asked f D h) (GS6 d j n l asked (f + (sub r BLK l m used u lt x).length) D h') (hI h' 120 D = zI lt ∧ hI h' 121 D = zI x ∧ f + (sub r BLK l m used u lt x).length ≤ u1)
def MGO (d j n l asked : Nat) (r : Rdr) (m : Nat) : Prop := ∀ (D used f u0 : Nat) (h : AH) (u : List (Nat × Nat)) (cs : List Cfg), D + m = n → used ≤ D → MS h → MR h j r → ML h D cs → (∀ c, c ∈ cs ↔ rq r u c) → CUR h D used 0 0 → MU h u0 → f ≤ u0 → u0 + nG l m used < 2147482000 →
  ∃ h' u1, mfr (fD D) h h' ∧ MU h' u1 ∧ u1 ≤ u0 + nG l m used ∧ MPar h' D asked f (FS r BLK l m used u) (GS6 d j n l asked f D h) (GS6 d j n l asked (f + (FS r BLK l m used u).length) ((D : Int) - 1) h') (f + (FS r BLK l m used u).length ≤ u1)
theorem CUR_n {h : AH} {D used lt x : Nat} (c : hI h 122 D = zI used) (a1 : hI h 120 D = zI lt) (a2 : hI h 121 D = zI x) : CUR h D used lt (x + 1) := ⟨c, Or.inr ⟨by omega, a1, by rw [a2]; rfl⟩⟩
theorem gs_in (d : Nat) {j n l asked m D used lt : Nat} {r : Rdr} {u : List (Nat × Nat)} {cs : List Cfg} (vis : VIS d j n l asked r m) (hn : D + m + 1 = n) (hu : used ≤ D) (hlt : lt < l) (hcs : ∀ c, c ∈ cs ↔ rq r u c) : ∀ (k x f u0 : Nat) (h : AH), x + k = used + 1 → MS h → MR h j r → ML h D cs → CUR h D used lt x → MU h u0 → f ≤ u0 → u0 + inn (nG l m) used x k < 2147482000 →
    ∃ h' u1, mfr (fD D) h h' ∧ MU h' u1 ∧ u1 ≤ u0 + inn (nG l m) used x k ∧ MPar h' D asked f ((List.range' x k).flatMap fun x => sub r BLK l m used u lt x) (GS6 d j n l asked f D h) (GS6 d j n l asked (f + ((List.range' x k).flatMap fun x => sub r BLK l m used u lt x).length) D h') (CUR h' D used (lt + 1) 0 ∧ f + ((List.range' x k).flatMap fun x => sub r BLK l m used u lt x).length ≤ u1)
  | 0, x, f, u0, h, hx, p, mr, ml, c, mu, hf, hb => by
    refine ⟨h, u0, mfr.rf _ h, mu, by simp [inn], Or.inr ⟨by simp, by simp, ⟨c.1, Or.inl ⟨rfl, ?_, ?_⟩⟩, by simpa using hf⟩⟩
    · rcases c.2 with ⟨z, -⟩ | ⟨-, a, -⟩
      · omega
      · rw [a]; congr 1; omega
    · rcases c.2 with ⟨z, -⟩ | ⟨-, -, a⟩
      · omega
      · rw [a, show x - 1 = used by omega]
  | k + 1, x, f, u0, h, hx, p, mr, ml, c, mu, hf, hb => by
    rw [inn] at hb
    obtain ⟨h1, u1, f1, mu1, b1, q1⟩ := vis D used lt x f u0 h u cs hn hu hlt (by omega) p mr ml hcs c mu hf (by omega)
    by_cases z : f < asked ∧ asked ≤ f + (sub r BLK l m used u lt x).length
    · refine ⟨h1, u1, f1, mu1, by rw [inn]; omega, ?_⟩
      rw [List.range'_succ, List.flatMap_cons]
      rcases q1 with ⟨a1, a2, a3, t, a4, a5⟩ | ⟨a1, -⟩
      · refine Or.inl ⟨a1, by rw [List.length_append]; omega, a3, t, ?_, a5⟩
        rw [List.getElem?_append_left (by omega)]
        exact a4
      · exact absurd z a1
    · rcases q1 with ⟨a1, a2, -⟩ | ⟨a1, a2, a3, a4, a5⟩
      · exact absurd ⟨a1, a2⟩ z
      · obtain ⟨h2, u2, f2, mu2, b2, q2⟩ := gs_in d vis hn hu hlt hcs k (x + 1) _ u1 h1 (by omega) (p.mf f1) (mr.mv f1 (by intro a t; unfold fD; omega)) (ml.mv f1 (by unfold fD; omega) (by intro i hi; unfold fD; omega)) (CUR_n (by rw [f1.I (by unfold fD; omega)]; exact c.1) a3 a4) mu1 a5 (by omega)
        refine ⟨h2, u2, f1.tr f2, mu2, by rw [inn]; omega, ?_⟩
        rw [List.range'_succ, List.flatMap_cons, List.length_append, ← Nat.add_assoc]
        exact q2.ap z a2
theorem gs_lt (d : Nat) {j n l asked m D used : Nat} {r : Rdr} {u : List (Nat × Nat)} {cs : List Cfg} (vis : VIS d j n l asked r m) (hl : l ≤ 3) (hn6 : n ≤ 6) (hn : D + m + 1 = n) (hu : used ≤ D) (hcs : ∀ c, c ∈ cs ↔ rq r u c) : ∀ (k lt f u0 : Nat) (h : AH), lt + k = l → MS h → MR h j r → ML h D cs → CUR h D used lt 0 → MU h u0 → f ≤ u0 → u0 + k * inn (nG l m) used 0 (used + 1) < 2147482000 →
    ∃ h' u1, mfr (fD D) h h' ∧ MU h' u1 ∧ u1 ≤ u0 + k * inn (nG l m) used 0 (used + 1) ∧ MPar h' D asked f ((List.range' lt k).flatMap fun lt => (List.range' 0 (used + 1)).flatMap fun x => sub r BLK l m used u lt x) (GS6 d j n l asked f D h) (GS6 d j n l asked (f + ((List.range' lt k).flatMap fun lt => (List.range' 0 (used + 1)).flatMap fun x => sub r BLK l m used u lt x).length) ((D : Int) - 1) h') (f + ((List.range' lt k).flatMap fun lt => (List.range' 0 (used + 1)).flatMap fun x => sub r BLK l m used u lt x).length ≤ u1)
  | 0, lt, f, u0, h, hx, p, mr, ml, c, mu, hf, hb => by
    obtain ⟨h1, e1, f1, -⟩ := M_nextPair (d + 2) (l := l) p (by omega) (Nat.zero_le _) (by omega) (by omega) (by omega) c
    have f1' : mfr (fD D) h h1 := f1.mo (by intro a t; unfold fD; omega)
    obtain ⟨mu1, mu2, mu3⟩ := mu
    refine ⟨h1, u0, f1', ⟨mu1, by rw [f1.I (by omega)]; exact mu2, fun t ht => by rw [f1.I (by omega)]; exact mu3 t ht⟩, by simp, Or.inr ⟨by simp, ?_, by simpa using hf⟩⟩
    unfold GS6
    rw [E_M_goShapes_6]
    simp (disch := omega) only [nlt0, if_false]
    rw [E_M_goShapes_7, obj_e (z94 p.1), calI_e e1, if01, if_neg (by omega), E_M_goShapes_8, lt_e, zI_add]
    rfl
  | k + 1, lt, f, u0, h, hx, p, mr, ml, c, mu, hf, hb => by
    rw [Nat.succ_mul] at hb
    obtain ⟨h1, u1, f1, mu1, b1, q1⟩ := gs_in d vis hn hu (lt := lt) (by omega) hcs (used + 1) 0 f u0 h (by omega) p mr ml c mu hf (by omega)
    by_cases z : f < asked ∧ asked ≤ f + ((List.range' 0 (used + 1)).flatMap fun x => sub r BLK l m used u lt x).length
    · refine ⟨h1, u1, f1, mu1, by rw [Nat.succ_mul]; omega, ?_⟩
      rw [List.range'_succ (s := lt), List.flatMap_cons]
      rcases q1 with ⟨a1, a2, a3, t, a4, a5⟩ | ⟨a1, -⟩
      · refine Or.inl ⟨a1, by rw [List.length_append]; omega, a3, t, ?_, a5⟩
        rw [List.getElem?_append_left (by omega)]
        exact a4
      · exact absurd z a1
    · rcases q1 with ⟨a1, a2, -⟩ | ⟨a1, a2, a3, a5⟩
      · exact absurd ⟨a1, a2⟩ z
      · obtain ⟨h2, u2, f2, mu2, b2, q2⟩ := gs_lt d vis hl hn6 hn hu hcs k (lt + 1) _ u1 h1 (by omega) (p.mf f1) (mr.mv f1 (by intro a t; unfold fD; omega)) (ml.mv f1 (by unfold fD; omega) (by intro i hi; unfold fD; omega)) a3 mu1 a5 (by omega)
        refine ⟨h2, u2, f1.tr f2, mu2, by rw [Nat.succ_mul]; omega, ?_⟩
        rw [List.range'_succ (s := lt), List.flatMap_cons, List.length_append, ← Nat.add_assoc]
        exact q2.ap z a2
theorem VIS_MGO (d : Nat) {j n l asked m : Nat} {r : Rdr} (vis : VIS d j n l asked r m) (hl : l ≤ 3) (hn6 : n ≤ 6) : MGO d j n l asked r (m + 1) := by
  intro D used f u0 h u cs hn hu p mr ml hcs c mu hf hb
  rw [nG] at hb
  have := gs_lt d vis hl hn6 (by omega) hu hcs l 0 f u0 h (by omega) p mr ml c mu hf hb
  rw [FS_f, nG]
  exact this
