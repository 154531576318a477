/-! Outlook: study; least -/
noncomputable def awF (r : Rdr) (L : List Cfg) (c : Cfg) : Int := if c ∈ L then dv r c else -2
theorem dmn_down {r : Rdr} {n : Nat} : ∀ (j : Nat) (c : Cfg), rch r c → dmn r j c → n ≤ j → ∃ e, rch r e ∧ dmn r n e
  | 0, c, hc, h, hn => by
    have : n = 0 := by omega
    subst this
    exact ⟨c, hc, h⟩
  | j + 1, c, hc, h, hn => by
    by_cases z : n = j + 1
    · subst z; exact ⟨c, hc, h⟩
    · obtain ⟨m, hm, c', g, h'⟩ := dmn_s h
      exact dmn_down j c' (rch_s hc hm g) h' (by omega)
theorem st_fill (d : Nat) {s : Stt} {ra : Option Nat} : ∀ (n i : Nat) (h : AH), i + n = 384 → XI s h → (∀ p, p < i → hI h 80 p = zI (-2)) → ∃ h', Rk B_Ol_study L_Ol_study (Cc d) 1 [aR (some 79), aR ra, aI (zI i), aU] [] h = Rk B_Ol_study L_Ol_study (Cc d) 3 [aR (some 79), aR ra, aU, aU] [] h' ∧ olf h h' ∧ ∀ p, p < 384 → hI h' 80 p = zI (-2)
  | 0, i, h, hn, p, hp => by
    refine ⟨h, ?_, olf.rf h, by rw [show i = 384 by omega] at hp; exact hp⟩
    rw [E_Ol_study_1, show zI 384 = zI ((384 : Nat) : Int) from rfl]
    simp (disch := omega) only [nlt]
    rw [if_neg (by omega)]
  | n + 1, i, h, hn, p, hp => by
    have f1 : olf h (sI h 80 i (zI (-2))) := olf_sI h (by omega) _ _
    obtain ⟨h', e, f, g⟩ := st_fill d (ra := ra) n (i + 1) (sI h 80 i (zI (-2))) (by omega) (XI_ol p f1) (by
      intro q hq
      by_cases z : q = i
      · rw [z, hI_hit]
      · rw [hI_off (Or.inr z)]; exact hp q (by omega))
    refine ⟨h', ?_, f1.tr f, g⟩
    rw [E_Ol_study_1, show zI 384 = zI ((384 : Nat) : Int) from rfl]
    simp (disch := omega) only [nlt]
    rw [if_pos (by omega), E_Ol_study_2, obj_e (z79 p.1), p.r (c := 80) (by decide)]
    simp (disch := omega) only [idx_n (z80 p.1), lt_e, nadd1]
    exact e
theorem st_bfs (d : Nat) {s : Stt} {ra : Nat} {r : Rdr} (hr : ∀ h, XI s h → RD h ra r) (hv : RV r) : ∀ (n i : Nat) (h : AH) (L : List Cfg), i + n = 384 → i ≤ L.length → XI s h → OSt h L (aw r L 0) → c0 ∈ L → (∀ c, c ∈ L → rch r c) → (∀ (t : Nat) (c : Cfg) (m : Mv) (e : Cfg), t < i → L[t]? = some c → m ∈ r.2.2.2 → gst m c e → e ∈ L) →
    ∃ h' L', Rk B_Ol_study L_Ol_study (Cc (d + 3)) 4 [aR (some 79), aR (some ra), aI (zI i), aU] [] h = Rk B_Ol_study L_Ol_study (Cc (d + 3)) 7 [aR (some 79), aR (some ra), aU, aU] [] h' ∧ olf h h' ∧ OSt h' L' (aw r L' 0) ∧ LR r L' := by
  have done : ∀ (i : Nat) (h : AH) (L : List Cfg), i = L.length → i ≤ 384 → XI s h → OSt h L (aw r L 0) → c0 ∈ L → (∀ c, c ∈ L → rch r c) → (∀ (t : Nat) (c : Cfg) (m : Mv) (e : Cfg), t < i → L[t]? = some c → m ∈ r.2.2.2 → gst m c e → e ∈ L) →
    ∃ h' L', Rk B_Ol_study L_Ol_study (Cc (d + 3)) 4 [aR (some 79), aR (some ra), aI (zI i), aU] [] h = Rk B_Ol_study L_Ol_study (Cc (d + 3)) 7 [aR (some 79), aR (some ra), aU, aU] [] h' ∧ olf h h' ∧ OSt h' L' (aw r L' 0) ∧ LR r L' := by
    intro i h L hi hi2 p o hc hL hcl
    refine ⟨h, L, ?_, olf.rf h, o, fun c => ⟨hL c, ?_⟩⟩
    · rw [E_Ol_study_4, obj_e (z79 p.1), o.2.2.1]
      simp (disch := omega) only [nlt]
      rw [if_neg (by omega)]
    · refine rch_min hc ?_ c
      intro m c1 c2 h1 h2 h3
      obtain ⟨t, ht⟩ := List.mem_iff_getElem?.mp h1
      have := (List.getElem?_eq_some_iff.mp ht).1
      exact hcl t c1 m c2 (by omega) ht h2 h3
  intro n
  induction n with
  | zero =>
    intro i h L hn hi p o hc hL hcl
    have hl := KVs_len o.1 o.2.1
    exact done i h L (by omega) (by omega) p o hc hL hcl
  | succ n ih =>
    intro i h L hn hi p o hc hL hcl
    have hl := KVs_len o.1 o.2.1
    by_cases z : i = L.length
    · exact done i h L z (by omega) p o hc hL hcl
    · have hi' : L[i]? = some L[i] := List.getElem?_eq_getElem (by omega)
      have hiL : L[i] ∈ L := List.getElem_mem (by omega)
      obtain ⟨h1, L1, e1, f1, o1, k1, k2, k3⟩ := Ol_seeBehind d hr (o.2.1 _ hiL) p o
      have hl1 : L.length ≤ L1.length := k1.length_le
      obtain ⟨h', L', e, f, o', q⟩ := ih (i + 1) h1 L1 (by omega) (by omega) (XI_ol p f1) o1 (k1.subset hc) (by
        intro c hc'
        rcases k2 c hc' with w | ⟨m, w1, w2⟩
        · exact hL c w
        · exact rch_s (hL _ hiL) w1 w2) (by
        intro t c m e ht h2 h3 h4
        have hLt : L[t]? = some c := by
          obtain ⟨M, rfl⟩ := k1
          rw [List.getElem?_append_left (by omega)] at h2
          exact h2
        by_cases w : t = i
        · subst w
          rw [hi'] at hLt
          cases hLt
          exact k3 m e h3 h4
        · exact k1.subset (hcl t c m e (by omega) hLt h3 h4))
      refine ⟨h', L', ?_, f1.tr f, o', q⟩
      rw [E_Ol_study_4, obj_e (z79 p.1), o.2.2.1]
      simp (disch := omega) only [nlt]
      rw [if_pos (by omega), E_Ol_study_5, show zI 384 = zI ((384 : Nat) : Int) from rfl]
      simp (disch := omega) only [nlt]
      rw [if_pos (by omega), E_Ol_study_6, obj_e (z79 p.1), p.r (c := 81) (by decide)]
      simp (disch := omega) only [idx_n (z81 p.1), o.2.2.2.1 i _ hi']
      rw [calI_e (Ol_spotOf _ h (o.2.1 _ hiL)), obj_e (z79 p.1), calV_e e1, nadd1, lt_e]
      exact e
theorem st_rd (d : Nat) {s : Stt} {ra : Nat} {r : Rdr} {L : List Cfg} (hr : ∀ h, XI s h → RD h ra r) (hv : RV r) (hL : LR r L) : ∀ (k n : Nat) (b : Bool) (h : AH), n + k = 384 → XI s h → OSt h L (aw r L n) → (b = false → ¬ ∃ c, c ∈ L ∧ dv r c = n) → ∃ h', Rk B_Ol_study L_Ol_study (Cc (d + 4)) 8 [aR (some 79), aR (some ra), aI (zI (if b then 1 else 0)), aI (zI n)] [] h = some (none, h') ∧ olf h h' ∧ OSt h' L (awF r L) := by
  have fin : ∀ (n : Nat) (h : AH), OSt h L (aw r L n) → (∀ c, c ∈ L → dv r c ≤ n) → OSt h L (awF r L) := by
    intro n h o hle
    obtain ⟨o1, o2, o3, o4, o5⟩ := o
    refine ⟨o1, o2, o3, o4, fun c hc => ?_⟩
    rw [o5 c hc]
    unfold aw awF
    by_cases z : c ∈ L
    · rw [if_pos z, if_pos z]
      have := dv_r hv hc
      have := hle c z
      by_cases y : 0 ≤ dv r c ∧ dv r c ≤ n
      · rw [if_pos y]
      · rw [if_neg y, show dv r c = -1 by omega]
    · rw [if_neg z, if_neg z]
  intro k
  induction k with
  | zero =>
    intro n b h hk p o hb
    refine ⟨h, ?_, olf.rf h, fin n h o (fun c hc => by have := dv_r hv (o.2.1 c hc); omega)⟩
    rw [E_Ol_study_8, if01]
    cases b
    · rw [if_neg (by simp), E_Ol_study_11]
    · rw [if_pos rfl, E_Ol_study_9, show zI 384 = zI ((384 : Nat) : Int) from rfl]
      simp (disch := omega) only [nlt]
      rw [if_neg (by omega), E_Ol_study_11]
  | succ k ih =>
    intro n b h hk p o hb
    cases b with
    | false =>
      refine ⟨h, ?_, olf.rf h, fin n h o (fun c hc => ?_)⟩
      · rw [E_Ol_study_8, if01, if_neg (by simp), E_Ol_study_11]
      · apply Classical.byContradiction
        intro w
        rcases dv_c r c with ⟨j, h1, h2⟩ | ⟨h1, h2⟩
        · obtain ⟨e, e1, e2⟩ := dmn_down (n := n) j c ((hL c).mp hc) h1 (by omega)
          exact hb rfl ⟨e, (hL e).mpr e1, dv_e e2⟩
        · omega
    | true =>
      obtain ⟨h1, b', e1, f1, o1, g1⟩ := Ol_tellAhead d hr hv hL (n := n) (by omega) p o
      obtain ⟨h', e, f, o'⟩ := ih (n + 1) b' h1 (by omega) (XI_ol p f1) o1 (by
        intro hb' q
        obtain ⟨c, h1, h2⟩ := q
        rw [g1.mpr ⟨c, h1, by omega⟩] at hb'
        cases hb')
      refine ⟨h', ?_, f1.tr f, o'⟩
      rw [E_Ol_study_8, if01, if_pos rfl, E_Ol_study_9, show zI 384 = zI ((384 : Nat) : Int) from rfl]
      simp (disch := omega) only [nlt]
      rw [if_pos (by omega), E_Ol_study_10, obj_e (z79 p.1), calI_e e1, lt_e, nadd1, lt_e]
      exact e
theorem Ol_study (d : Nat) {s : Stt} {ra : Nat} {r : Rdr} {h : AH} (hr : ∀ h, XI s h → RD h ra r) (p : XI s h) : ∃ h' L, Cc (d + 5) k_Ol_study [aR (some 79), aR (some ra)] h = some (none, h') ∧ olf h h' ∧ LR r L ∧ OSt h' L (awF r L) := by
  have hv := (hr h p).1
  obtain ⟨h1, e1, f1, g1⟩ := st_fill (d + 4) (ra := some ra) 384 0 h (by omega) p (fun p hp => absurd hp (Nat.not_lt_zero _))
  have p1 := XI_ol p f1
  have f2 : olf h1 (sI h1 79 3 (zI 0)) := olf_sI h1 (by omega) _ _
  have p2 := XI_ol p1 f2
  have o2 : OSt (sI h1 79 3 (zI 0)) [] (aw r [] 0) := by
    refine ⟨by simp, (fun c hc => by cases hc), (by rw [hI_hit]; rfl), (fun i c hc => by simp at hc), fun c hc => ?_⟩
    rw [hI_off (by omega), g1 _ (eP_lt hc)]
    unfold aw
    rw [if_neg (by simp)]
  obtain ⟨h3, e3, f3, o3⟩ := Ol_see (d + 2) p2 (hr _ p2) o2 KV_0
  have p3 := XI_ol p2 f3
  have a1 : addL [] c0 = [c0] := rfl
  rw [a1] at o3
  obtain ⟨h4, L, e4, f4, o4, hL⟩ := st_bfs (d + 1) hr hv 384 0 h3 [c0] (by omega) (Nat.zero_le _) p3 o3 (by simp) (fun c hc => by rw [List.mem_singleton.mp hc]; exact rch_0 r) (fun t c m e ht => absurd ht (Nat.not_lt_zero _))
  have p4 := XI_ol p3 f4
  obtain ⟨h5, e5, f5, o5⟩ := st_rd d hr hv hL 384 0 true h4 (by omega) p4 o4 (by simp)
  refine ⟨h5, L, ?_, f1.tr (f2.tr (f3.tr (f4.tr f5))), hL, o5⟩
  rw [C_Ol_study, E_Ol_study_0, lt_e]
  refine Eq.trans e1 ?_
  rw [E_Ol_study_3, obj_e (z79 p1.1), mb_some, obj_e (z79 p2.1), calV_e (show Cc (d + 4) k_Ol_see [aR (some 79), aR (some ra), aI (zI 0)] (sI h1 79 3 (zI 0)) = _ from e3), lt_e]
  refine Eq.trans e4 ?_
  rw [E_Ol_study_7, lt_e, lt_e]
  exact e5
noncomputable def lstA (x : Int) (s : Stt) : Int := if x = 0 ∨ x = 1 then dv (rdr s x) c0 else -2
theorem Ol_shortest (d : Nat) {s : Stt} {ra : Nat} {r : Rdr} {h : AH} (hr : ∀ h, XI s h → RD h ra r) (p : XI s h) : ∃ h' L, Cc (d + 6) k_Ol_shortest [aR (some 79), aR (some ra)] h = some (some (aI (zI (dv r c0))), h') ∧ olf h h' ∧ LR r L ∧ OSt h' L (awF r L) := by
  obtain ⟨h1, L, e1, f1, hL, o1⟩ := Ol_study d hr p
  have p1 := XI_ol p f1
  refine ⟨h1, L, ?_, f1, hL, o1⟩
  have h0 := o1.2.2.2.2 c0 KV_0
  rw [show eP c0 = 0 from rfl] at h0
  rw [C_Ol_shortest, E_Ol_shortest_0, obj_e (z79 p.1), calV_e e1, obj_e (z79 p1.1), p1.r (c := 80) (by decide), zc0]
  simp (disch := omega) only [idx_n (z80 p1.1), h0]
  unfold awF
  rw [if_pos ((hL c0).mpr (rch_0 r))]
theorem X_least {x : Int} (x1 : -2147483648 ≤ x) (x2 : x < 2147483648) : XOK k_X_least [aI (zI x)] (lstA x) id := by
  intro s h p
  rw [C_X_least, E_X_least_0, obj_e p.o, calR_e (X_readerOf _ p x1 x2), xo_if]
  unfold lstA
  by_cases a1 : x = 0 ∨ x = 1
  · simp only [if_pos a1]
    obtain ⟨h', L, e, f, -, -⟩ := Ol_shortest 53 (ra := xa x) (r := rdr s x) (fun h q => q.rd x) p
    refine ⟨h', ?_, f.l, XI_ol p f⟩
    rw [xo_some a1, E_X_least_2, obj_e p.o, p.r (a := 0) (j := 9) (c := 79) (by decide), obj_e (z79 p.1), calI_e e, E_X_least_3]
  · simp only [if_neg a1]
    exact ⟨h, by rw [E_X_least_1, E_X_least_3], fr.rf _ h, p⟩
