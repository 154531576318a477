/-! X: mend -/
def MBm (r : Rdr) (w : Rw) (i0 cost : Nat) (u : Cfg) (m : Mv) (c : Cfg) (n : Nat) : Prop := ∃ x e, stp m u x = some e ∧ c = stl (aL13 r w (i0 + 1)) 13 e ∧ ((n = cost ∧ m.2.1 = (tg w i0).1 ∧ x = (tg w i0).2) ∨ (n = cost + 1 ∧ xnm r w (i0 + 1) u m x))
theorem ms_k (d : Nat) {s : Stt} {ra : Nat} {r : Rdr} {a b A A' : Nat} {u : Cfg} {lt i0 cost : Nat} (hr : ∀ h, XI s h → RD h ra r) (hg : NoG s.2.2.2) (hu : CV u) (hlt : lt < 3) (hi0 : i0 < s.2.2.2.length) (hc : cost < 15) : ∀ (n j : Nat) (h : AH) (O : Cfg → Nat → Prop), j + n = (bk r.2.2.2 (u.1 * 3 + lt)).length → MnQ s h r a b A A' → CS h b A' O →
    ∃ h', Rk B_Mn_spread L_Mn_spread (Cc (d + 3)) 3 [aR (some 74), aR (some ra), aR (some 16), aI (zI i0), aI (zI (eX u)), aI (zI cost), aI (zI lt), aI (zI ((bg r.2.2.2 (u.1 * 3 + lt) + (bk r.2.2.2 (u.1 * 3 + lt)).length : Nat) : Int)), aI (zI ((bg r.2.2.2 (u.1 * 3 + lt) + j : Nat) : Int)), aU] [] h = Rk B_Mn_spread L_Mn_spread (Cc (d + 3)) 7 [aR (some 74), aR (some ra), aR (some 16), aI (zI i0), aI (zI (eX u)), aI (zI cost), aI (zI lt), aU, aU, aU] [] h' ∧ fr (cmF b A') h h' ∧ MnQ s h' r a b A A' ∧ CS h' b A' (fun c n => O c n ∨ ∃ (k i : Nat) (m : Mv), j ≤ k ∧ (bk r.2.2.2 (u.1 * 3 + lt))[k]? = some i ∧ r.2.2.2[i]? = some m ∧ MBm r s.2.2.2 i0 cost u m c n)
  | 0, j, h, O, hn, q, cs => by
    have rd := hr h q.1
    have hl : bg r.2.2.2 (u.1 * 3 + lt) + (bk r.2.2.2 (u.1 * 3 + lt)).length ≤ 20 := Nat.le_trans (bg_le r.2.2.2 (u.1 * 3 + lt + 1)) rd.1.2.2.2.2.1
    refine ⟨h, ?_, fr.rf _ h, q, CS_c cs (fun c n => ⟨Or.inl, fun w => w.elim id (fun ⟨k, i, m, h1, h2, _⟩ => by have := (List.getElem?_eq_some_iff.mp h2).1; omega)⟩)⟩
    rw [E_Mn_spread_3]
    simp (disch := omega) only [nlt]
    rw [if_neg (by omega)]
  | n + 1, j, h, O, hn, q, cs => by
    have px := q.1
    have rd := hr h px
    have hl : bg r.2.2.2 (u.1 * 3 + lt) + (bk r.2.2.2 (u.1 * 3 + lt)).length ≤ 20 := Nat.le_trans (bg_le r.2.2.2 (u.1 * 3 + lt + 1)) rd.1.2.2.2.2.1
    have hu6 := hu.1
    have hj : (bk r.2.2.2 (u.1 * 3 + lt))[j]? = some (bk r.2.2.2 (u.1 * 3 + lt))[j] := List.getElem?_eq_getElem (by omega)
    obtain ⟨m, hm, hk⟩ := bk_mem hj
    have hmv := (rd.1.mi hm).1
    have km := (key_iff hmv.2.1 hlt).mp hk
    have hw := px.rw.1
    have hl12 := hw.1
    obtain ⟨p, hp, p1, p2, p3, p4⟩ := NoG_t hw hg hi0
    have t12 := tg_b hw i0
    -- the pair as it is
    have as_is : ∃ h1, Rk B_Mn_spread L_Mn_spread (Cc (d + 3)) 3 [aR (some 74), aR (some ra), aR (some 16), aI (zI i0), aI (zI (eX u)), aI (zI cost), aI (zI lt), aI (zI ((bg r.2.2.2 (u.1 * 3 + lt) + (bk r.2.2.2 (u.1 * 3 + lt)).length : Nat) : Int)), aI (zI ((bg r.2.2.2 (u.1 * 3 + lt) + j : Nat) : Int)), aU] [] h = Rk B_Mn_spread L_Mn_spread (Cc (d + 3)) 6 [aR (some 74), aR (some ra), aR (some 16), aI (zI i0), aI (zI (eX u)), aI (zI cost), aI (zI lt), aI (zI ((bg r.2.2.2 (u.1 * 3 + lt) + (bk r.2.2.2 (u.1 * 3 + lt)).length : Nat) : Int)), aI (zI ((bg r.2.2.2 (u.1 * 3 + lt) + j : Nat) : Int)), aI (zI (bk r.2.2.2 (u.1 * 3 + lt))[j])] [] h1 ∧ fr (cmF b A') h h1 ∧ MnQ s h1 r a b A A' ∧ CS h1 b A' (fun c n => O c n ∨ ∃ e, m.2.1 = (tg s.2.2.2 i0).1 ∧ stp m u (tg s.2.2.2 i0).2 = some e ∧ c = stl (aL13 r s.2.2.2 (i0 + 1)) 13 e ∧ n = cost) := by
      have e0 : Rk B_Mn_spread L_Mn_spread (Cc (d + 3)) 3 [aR (some 74), aR (some ra), aR (some 16), aI (zI i0), aI (zI (eX u)), aI (zI cost), aI (zI lt), aI (zI ((bg r.2.2.2 (u.1 * 3 + lt) + (bk r.2.2.2 (u.1 * 3 + lt)).length : Nat) : Int)), aI (zI ((bg r.2.2.2 (u.1 * 3 + lt) + j : Nat) : Int)), aU] [] h = if lt = (tg s.2.2.2 i0).1 then Rk B_Mn_spread L_Mn_spread (Cc (d + 3)) 5 [aR (some 74), aR (some ra), aR (some 16), aI (zI i0), aI (zI (eX u)), aI (zI cost), aI (zI lt), aI (zI ((bg r.2.2.2 (u.1 * 3 + lt) + (bk r.2.2.2 (u.1 * 3 + lt)).length : Nat) : Int)), aI (zI ((bg r.2.2.2 (u.1 * 3 + lt) + j : Nat) : Int)), aI (zI (bk r.2.2.2 (u.1 * 3 + lt))[j])] [] h else Rk B_Mn_spread L_Mn_spread (Cc (d + 3)) 6 [aR (some 74), aR (some ra), aR (some 16), aI (zI i0), aI (zI (eX u)), aI (zI cost), aI (zI lt), aI (zI ((bg r.2.2.2 (u.1 * 3 + lt) + (bk r.2.2.2 (u.1 * 3 + lt)).length : Nat) : Int)), aI (zI ((bg r.2.2.2 (u.1 * 3 + lt) + j : Nat) : Int)), aI (zI (bk r.2.2.2 (u.1 * 3 + lt))[j])] [] h := by
        rw [E_Mn_spread_3]
        simp (disch := omega) only [nlt]
        rw [if_pos (by omega), E_Mn_spread_4, obj_e rd.2.1.1, calI_e (Rd_moveAt _ rd (by omega) hj), lt_e, obj_e (z16 px.1), calI_e (Rw_letter _ px.rw hp), p1]
        simp (disch := omega) only [neq]
      by_cases z : lt = (tg s.2.2.2 i0).1
      · obtain ⟨h1, e1, f1, q1, cs1⟩ := Mn_come (d + 1) q cs (o := stp m u (tg s.2.2.2 i0).2) (fun e he => stp_v hmv hu (by omega) he) (k := i0 + 1) (by omega) (cost := cost) (by omega)
        refine ⟨h1, ?_, f1, q1, CS_c cs1 (fun c n => ?_)⟩
        · rw [e0, if_pos z, E_Mn_spread_5, obj_e (z16 px.1), calI_e (Rw_id _ px.rw hp), p2, obj_e rd.2.1.1, calI_e (Rd_after _ rd hu hm (by omega)), obj_e (z74 px.1), nadd1, calV_e e1]
        · constructor
          · rintro (w | ⟨e, w⟩)
            · exact Or.inl w
            · exact Or.inr ⟨e, by rw [km.2, z], w⟩
          · rintro (w | ⟨e, -, w⟩)
            · exact Or.inl w
            · exact Or.inr ⟨e, w⟩
      · refine ⟨h, by rw [e0, if_neg z], fr.rf _ h, q, CS_c cs (fun c n => ⟨Or.inl, fun w => w.elim id (fun ⟨e, w1, _⟩ => absurd (by rw [← w1, km.2]) z)⟩)⟩
    obtain ⟨h1, e1, f1, q1, cs1⟩ := as_is
    obtain ⟨h2, e2, f2, q2, cs2⟩ := Mn_spreadChanged d hr hu hm (k := i0 + 1) (by omega) (cost := cost + 1) (by omega) q1 cs1
    obtain ⟨h3, e3, f3, q3, cs3⟩ := ms_k d (a := a) (b := b) (A := A) (A' := A') hr hg hu hlt hi0 hc n (j + 1) h2 _ (by omega) q2 cs2
    refine ⟨h3, ?_, f1.tr (f2.tr f3), q3, CS_c cs3 (fun c n => ?_)⟩
    · rw [e1, E_Mn_spread_6, obj_e (z74 q1.1.1), nadd1, nadd1, calV_e e2, nadd1, lt_e]
      exact e3
    · constructor
      · rintro (((w | ⟨e, w1, w2, w3, w4⟩) | ⟨y, e, w1, w2, w3, w4⟩) | ⟨k, i, m', w1, w2⟩)
        · exact Or.inl w
        · exact Or.inr ⟨j, _, m, Nat.le_refl _, hj, hm, _, e, w2, w3, Or.inl ⟨w4, w1, rfl⟩⟩
        · exact Or.inr ⟨j, _, m, Nat.le_refl _, hj, hm, y, e, w2, w3, Or.inr ⟨w4, w1⟩⟩
        · exact Or.inr ⟨k, i, m', by omega, w2⟩
      · rintro (w | ⟨k, i, m', w1, w2, w3, x, e, w4, w5, w6⟩)
        · exact Or.inl (Or.inl (Or.inl w))
        · by_cases z : k = j
          · subst z
            rw [hj] at w2
            cases w2
            rw [hm] at w3
            cases w3
            rcases w6 with ⟨w6, w7, w8⟩ | ⟨w6, w7⟩
            · rw [w8] at w4; exact Or.inl (Or.inl (Or.inr ⟨e, w7, w4, w5, w6⟩))
            · exact Or.inl (Or.inr ⟨x, e, w7, w4, w5, w6⟩)
          · exact Or.inr ⟨k, i, m', by omega, w2, w3, x, e, w4, w5, w6⟩
theorem ms_l (d : Nat) {s : Stt} {ra : Nat} {r : Rdr} {a b A A' : Nat} {u : Cfg} {i0 cost : Nat} (hr : ∀ h, XI s h → RD h ra r) (hg : NoG s.2.2.2) (hu : CV u) (hi0 : i0 < s.2.2.2.length) (hc : cost < 15) : ∀ (n lt : Nat) (h : AH) (O : Cfg → Nat → Prop), lt + n = 3 → MnQ s h r a b A A' → CS h b A' O →
    ∃ h', Rk B_Mn_spread L_Mn_spread (Cc (d + 3)) 1 [aR (some 74), aR (some ra), aR (some 16), aI (zI i0), aI (zI (eX u)), aI (zI cost), aI (zI lt), aU, aU, aU] [] h = some (none, h') ∧ fr (cmF b A') h h' ∧ MnQ s h' r a b A A' ∧ CS h' b A' (fun c n => O c n ∨ ∃ m, m ∈ r.2.2.2 ∧ m.1 = u.1 ∧ lt ≤ m.2.1 ∧ MBm r s.2.2.2 i0 cost u m c n)
  | 0, lt, h, O, hn, q, cs => by
    have rd := hr h q.1
    refine ⟨h, ?_, fr.rf _ h, q, CS_c cs (fun c n => ⟨Or.inl, fun w => w.elim id (fun ⟨m, h1, h2, h3, _⟩ => ?_)⟩)⟩
    · rw [E_Mn_spread_1, zc3]
      simp (disch := omega) only [nlt]
      rw [if_neg (by omega), E_Mn_spread_8]
    · obtain ⟨i, hi⟩ := List.getElem?_of_mem h1
      have := (rd.1.mi hi).1.2.1
      omega
  | n + 1, lt, h, O, hn, q, cs => by
    have px := q.1
    have rd := hr h px
    obtain ⟨h1, e1, f1, q1, cs1⟩ := ms_k d (a := a) (b := b) (A := A) (A' := A') hr hg hu (lt := lt) (by omega) hi0 hc (bk r.2.2.2 (u.1 * 3 + lt)).length 0 h O (by omega) q cs
    obtain ⟨h2, e2, f2, q2, cs2⟩ := ms_l d (a := a) (b := b) (A := A) (A' := A') hr hg hu hi0 hc n (lt + 1) h1 _ (by omega) q1 cs1
    refine ⟨h2, ?_, f1.tr f2, q2, CS_c cs2 (fun c n => ?_)⟩
    · rw [E_Mn_spread_1, zc3]
      simp (disch := omega) only [nlt]
      rw [if_pos (by omega), E_Mn_spread_2, obj_e rd.2.1.1, calI_e (Rd_end _ rd (eX_lt hu) (by omega)), lt_e, obj_e rd.2.1.1, calI_e (Rd_begin _ rd (eX_lt hu) (by omega)), lt_e, eX_q hu]
      refine Eq.trans e1 ?_
      rw [E_Mn_spread_7, nadd1, lt_e]
      exact e2
    · constructor
      · rintro ((w | ⟨k, i, m, -, w1, w2, w3⟩) | ⟨m, w1, w2, w3, w4⟩)
        · exact Or.inl w
        · obtain ⟨m', hm', km⟩ := bk_mem w1
          rw [w2] at hm'
          cases hm'
          have := (key_iff (rd.1.mi w2).1.2.1 (show lt < 3 by omega)).mp km
          exact Or.inr ⟨m, List.mem_of_getElem? w2, this.1, by omega, w3⟩
        · exact Or.inr ⟨m, w1, w2, by omega, w4⟩
      · rintro (w | ⟨m, w1, w2, w3, w4⟩)
        · exact Or.inl (Or.inl w)
        · by_cases z : m.2.1 = lt
          · obtain ⟨i, hi⟩ := List.getElem?_of_mem w1
            obtain ⟨k, hk⟩ := bk_iff.mpr ⟨m, hi, (key_iff (rd.1.mi hi).1.2.1 (show lt < 3 by omega)).mpr ⟨w2, z⟩⟩
            exact Or.inl (Or.inr ⟨k, i, m, Nat.zero_le _, hk, hi, w4⟩)
          · exact Or.inr ⟨m, w1, w2, by omega, w4⟩
theorem Mn_spread (d : Nat) {s : Stt} {ra : Nat} {r : Rdr} {a b A A' : Nat} {u : Cfg} {i0 : Nat} {h : AH} {O : Cfg → Nat → Prop} (hr : ∀ h, XI s h → RD h ra r) (hg : NoG s.2.2.2) (hu : CV u) (hi0 : i0 < s.2.2.2.length) (hc : csH h A (eX u) < 15) (q : MnQ s h r a b A A') (cs : CS h b A' O) :
    ∃ h', Cc (d + 4) k_Mn_spread [aR (some 74), aR (some ra), aR (some 16), aI (zI i0), aI (zI (eX u))] h = some (none, h') ∧ fr (cmF b A') h h' ∧ MnQ s h' r a b A A' ∧ CS h' b A' (fun c n => O c n ∨ ∃ δ, ast r s.2.2.2 i0 u c δ ∧ n = csH h A (eX u) + δ) := by
  obtain ⟨h1, e1, f1, q1, cs1⟩ := ms_l d (a := a) (b := b) (A := A) (A' := A') hr hg hu hi0 hc 3 0 h O (by omega) q cs
  obtain ⟨px, r2, r3, r4, r5, hab, hAA, sv⟩ := id q
  refine ⟨h1, ?_, f1, q1, CS_c cs1 (fun c n => ?_)⟩
  · rw [C_Mn_spread, E_Mn_spread_0, obj_e (z74 px.1), r4, calI_e (Mn_costOf _ (z6x px.1 (by omega)) (eX_lt hu)), lt_e, lt_e]
    exact e1
  · constructor
    · rintro (w | ⟨m, w1, w2, -, x, e, w3, w4, w5⟩)
      · exact Or.inl w
      · rcases w5 with ⟨w5, w6, w7⟩ | ⟨w5, w6⟩
        · exact Or.inr ⟨0, ⟨m, x, e, w1, w2, w3, w4, Or.inl ⟨rfl, w6, w7⟩⟩, by omega⟩
        · exact Or.inr ⟨1, ⟨m, x, e, w1, w2, w3, w4, Or.inr ⟨rfl, w6⟩⟩, by omega⟩
    · rintro (w | ⟨δ, ⟨m, x, e, w1, w2, w3, w4, w5⟩, w6⟩)
      · exact Or.inl w
      · refine Or.inr ⟨m, w1, w2, Nat.zero_le _, x, e, w3, w4, ?_⟩
        rcases w5 with ⟨rfl, w7, w8⟩ | ⟨rfl, w7⟩
        · exact Or.inl ⟨by omega, w7, w8⟩
        · exact Or.inr ⟨by omega, w7⟩
/-- the numbers of a set of configurations -/
noncomputable def cfS (P : Cfg → Nat → Prop) (t : Nat) : Bool := bl (∃ c n, P c n ∧ t = eX c)
theorem CS.s {h : AH} {b A : Nat} {O : Cfg → Nat → Prop} (p : CS h b A O) : SP h b 24576 (cfS O) := by
  obtain ⟨-, ⟨T, p2, p3⟩, -⟩ := p
  have : T = cfS O := by
    funext t
    rw [Bool.eq_iff_iff, p3 t]
    unfold cfS
    rw [bl_t]
  rw [← this]; exact p2
theorem fw_in (d : Nat) {s : Stt} {ra : Nat} {r : Rdr} {a b A A' : Nat} {i0 : Nat} {P : Cfg → Nat → Prop} (hr : ∀ h, XI s h → RD h ra r) (hg : NoG s.2.2.2) (hi0 : i0 < s.2.2.2.length) (hP : ∀ c n, P c n → n < 15) : ∀ (n f : Nat) (h : AH) (O : Cfg → Nat → Prop), (els (cfS P) 24576 f).length = n → MnQ s h r a b A A' → CS h a A P → CS h b A' O →
    ∃ h', Rk B_Mn_fewest L_Mn_fewest (Cc (d + 4)) 3 [aR (some 74), aR (some ra), aR (some 16), aI (zI i0), aI (zI (hd (els (cfS P) 24576 f))), aI (zI n), aU] [] h = Rk B_Mn_fewest L_Mn_fewest (Cc (d + 4)) 6 [aR (some 74), aR (some ra), aR (some 16), aI (zI i0), aU, aU, aU] [] h' ∧ fr (cmF b A') h h' ∧ MnQ s h' r a b A A' ∧ CS h' a A P ∧ CS h' b A' (fun c n => O c n ∨ ∃ u n1 δ, P u n1 ∧ (∀ n', P u n' → n1 ≤ n') ∧ f ≤ eX u ∧ ast r s.2.2.2 i0 u c δ ∧ n = n1 + δ) := by
  intro n
  induction n with
  | zero =>
    intro f h O hn q ca cb
    refine ⟨h, ?_, fr.rf _ h, q, ca, CS_c cb (fun c n => ⟨Or.inl, fun w => w.elim id (fun ⟨u, n1, δ, h1, h2, h3, _⟩ => ?_)⟩)⟩
    · rw [E_Mn_fewest_3, if_pos (by decide)]
    · have : eX u ∈ els (cfS P) 24576 f := els_mem.mpr ⟨h3, eX_lt (ca.1 u n1 h1), bl_t.mpr ⟨u, n1, h1, rfl⟩⟩
      rw [List.eq_nil_of_length_eq_zero hn] at this
      simp at this
  | succ n ih =>
    intro f h O hn q ca cb
    match hels : els (cfS P) 24576 f, hn with
    | v :: rest, hn =>
      obtain ⟨u1, u2, u3, u4⟩ := els_head hels
      obtain ⟨u, nu, Pu, vu⟩ := bl_t.mp (show bl (∃ c n, P c n ∧ v = eX c) = true from u3)
      have uv := ca.1 u nu Pu
      have hn2 : n ≤ 24576 := by
        have h1 : (els (cfS P) 24576 f).length ≤ 24576 - f := by unfold els; exact Nat.le_trans (List.length_filter_le _ _) (by simp)
        rw [hels, hn] at h1
        omega
      obtain ⟨px, r2, r3, r4, r5, hab, hAA, sv⟩ := id q
      have cmin := ca.2.2 u nu Pu
      obtain ⟨h1, e1, f1, q1, cb1⟩ := Mn_spread d hr hg uv hi0 (hP u _ cmin.1) q cb
      have ca1 : CS h1 a A P := ca.fr f1 (fun x hx => by unfold cmF; unfold spF at *; omega) (by unfold cmF spF; omega)
      have hr1 : (els (cfS P) 24576 (v + 1)).length = n := by rw [← u4]; simpa using hn
      obtain ⟨h2, e2, f2, q2, ca2, cb2⟩ := ih (v + 1) h1 _ hr1 q1 ca1 cb1
      refine ⟨h2, ?_, f1.tr f2, q2, ca2, CS_c cb2 (fun c n => ?_)⟩
      · have sp1 := ca1.s
        rw [E_Mn_fewest_3]
        simp (disch := omega) only [nle0]
        rw [if_neg (by omega), E_Mn_fewest_4, show hd (v :: rest) = ((v : Nat) : Int) from rfl]
        simp (disch := omega) only [nlt0, if_false]
        rw [E_Mn_fewest_5, obj_e (z74 px.1), vu, calV_e e1, obj_e (z74 q1.1.1), q1.2.1, obj_e sp1.1.1, nadd1, ← vu, calI_e (Sp_next _ sp1 (by omega)), lt_e, lt_e, ndec (by omega), Nat.add_sub_cancel]
        exact e2
      · constructor
        · rintro ((w | ⟨δ, w1, w2⟩) | ⟨u', n1, δ, w1, w2, w3, w4⟩)
          · exact Or.inl w
          · exact Or.inr ⟨u, _, δ, cmin.1, fun n' hn' => (ca.2.2 u n' hn').2, by rw [← vu]; exact u1, w1, w2⟩
          · exact Or.inr ⟨u', n1, δ, w1, w2, by omega, w4⟩
        · rintro (w | ⟨u', n1, δ, w1, w2, w3, w4, w5⟩)
          · exact Or.inl (Or.inl w)
          · by_cases z : eX u' = v
            · have : u' = u := by rw [← dX_e (ca.1 u' n1 w1), z, vu, dX_e uv]
              subst this
              have e : n1 = csH h A (eX u') := by
                have := w2 _ cmin.1
                have := (ca.2.2 u' n1 w1).2
                omega
              exact Or.inl (Or.inr ⟨δ, w4, by rw [← e]; exact w5⟩)
            · have : eX u' ∈ els (cfS P) 24576 f := els_mem.mpr ⟨w3, eX_lt (ca.1 u' n1 w1), bl_t.mpr ⟨u', n1, w1, rfl⟩⟩
              rw [hels] at this
              rcases List.mem_cons.mp this with y | y
              · exact absurd y z
              · rw [u4] at y
                exact Or.inr ⟨u', n1, δ, w1, w2, (els_mem.mp y).1, w4, w5⟩
theorem MnQ_sw {s : Stt} {h : AH} {r : Rdr} {a b A A' : Nat} (q : MnQ s h r a b A A') : MnQ s (sR (sR (sR (sR h 74 2 (some b)) 74 3 (some a)) 74 4 (some A')) 74 5 (some A)) r b a A' A := by
  obtain ⟨px, r2, r3, r4, r5, hab, hAA, sv⟩ := q
  have f : fr (fun b => b = 74) h (sR (sR (sR (sR h 74 2 (some b)) 74 3 (some a)) 74 4 (some A')) 74 5 (some A)) := (((fr_sR (F := fun b => b = 74) h rfl _ _).tr (fr_sR (F := fun b => b = 74) _ rfl _ _)).tr (fr_sR (F := fun b => b = 74) _ rfl _ _)).tr (fr_sR (F := fun b => b = 74) _ rfl _ _)
  have e2 : hR (sR (sR (sR (sR h 74 2 (some b)) 74 3 (some a)) 74 4 (some A')) 74 5 (some A)) 74 2 = some b := by rw [hR_off (by omega), hR_off (by omega), hR_off (by omega), hR_hit]
  have e3 : hR (sR (sR (sR (sR h 74 2 (some b)) 74 3 (some a)) 74 4 (some A')) 74 5 (some A)) 74 3 = some a := by rw [hR_off (by omega), hR_off (by omega), hR_hit]
  have e4 : hR (sR (sR (sR (sR h 74 2 (some b)) 74 3 (some a)) 74 4 (some A')) 74 5 (some A)) 74 4 = some A' := by rw [hR_off (by omega), hR_hit]
  have e5 : hR (sR (sR (sR (sR h 74 2 (some b)) 74 3 (some a)) 74 4 (some A')) 74 5 (some A)) 74 5 = some A := hR_hit _ _ _ _
  have xr := px.2.2.2.2.2.2.2
  refine ⟨XI_rf px (f.mo (fun b hb => by omega)) (px.2.1.mv (fun t ht => ?_)) (xr.2.2.2.2.1.fr f (by omega)) ?_ ?_ (xr.2.2.2.2.2.2.2.1.fr f (by omega)) (xr.2.2.2.2.2.2.2.2.1.fr f (by omega)), e2, e3, e4, e5, by omega, by omega, fun i h1 h2 => sv i h1 h2⟩
  · have : ∀ t, t ∈ XRefs → t.1 ≠ 74 ∨ (t.2.1 ≠ 2 ∧ t.2.1 ≠ 3 ∧ t.2.1 ≠ 4 ∧ t.2.1 ≠ 5) := by decide
    have := this t ht
    rw [hR_off (by omega), hR_off (by omega), hR_off (by omega), hR_off (by omega)]
  · unfold prr
    rw [e2, e3]
    rcases hab with ⟨rfl, rfl⟩ | ⟨rfl, rfl⟩
    · exact Or.inr ⟨rfl, rfl⟩
    · exact Or.inl ⟨rfl, rfl⟩
  · unfold prr
    rw [e4, e5]
    rcases hAA with ⟨rfl, rfl⟩ | ⟨rfl, rfl⟩
    · exact Or.inr ⟨rfl, rfl⟩
    · exact Or.inl ⟨rfl, rfl⟩
theorem fw_bs (d : Nat) {s : Stt} {ra : Nat} {r : Rdr} {a b A A' : Nat} {P : Cfg → Nat → Prop} {h : AH} (rd : RD h ra r) (q : MnQ s h r a b A A') (ca : CS h a A P) : ∀ (n f : Nat) (bs : Int) (Q : Nat → Prop), (els (cfS P) 24576 f).length = n → -1 ≤ bs → bs < 100 → mnv Q bs →
    ∃ v, Rk B_Mn_fewest L_Mn_fewest (Cc (d + 3)) 8 [aR (some 74), aR (some ra), aU, aI (zI bs), aI (zI (hd (els (cfS P) 24576 f))), aI (zI n), aU] [] h = some (some (aI (zI v)), h) ∧ mnv (fun k => Q k ∨ ∃ u, P u k ∧ f ≤ eX u ∧ tks r u.1 = true) v := by
  obtain ⟨px, r2, r3, r4, r5, hab, hAA, sv⟩ := q
  intro n
  induction n with
  | zero =>
    intro f bs Q hn hb1 hb2 hm
    refine ⟨bs, ?_, mnv_c hm (fun k => ⟨Or.inl, fun w => w.elim id (fun ⟨u, h1, h2, _⟩ => ?_)⟩)⟩
    · rw [E_Mn_fewest_8, if_pos (by decide), E_Mn_fewest_15]
    · have : eX u ∈ els (cfS P) 24576 f := els_mem.mpr ⟨h2, eX_lt (ca.1 u k h1), bl_t.mpr ⟨u, k, h1, rfl⟩⟩
      rw [List.eq_nil_of_length_eq_zero hn] at this
      simp at this
  | succ n ih =>
    intro f bs Q hn hb1 hb2 hm
    match hels : els (cfS P) 24576 f, hn with
    | v :: rest, hn =>
      obtain ⟨u1, u2, u3, u4⟩ := els_head hels
      obtain ⟨u, nu, Pu, vu⟩ := bl_t.mp (show bl (∃ c n, P c n ∧ v = eX c) = true from u3)
      have uv := ca.1 u nu Pu
      have hn2 : n ≤ 24576 := by
        have h1 : (els (cfS P) 24576 f).length ≤ 24576 - f := by unfold els; exact Nat.le_trans (List.length_filter_le _ _) (by simp)
        rw [hels, hn] at h1
        omega
      have cmin := ca.2.2 u nu Pu
      have hlt := csH_lt h A (eX u)
      have hr1 : (els (cfS P) 24576 (v + 1)).length = n := by rw [← u4]; simpa using hn
      have sp := ca.s
      have only : ∀ k, (∃ u', P u' k ∧ f ≤ eX u' ∧ tks r u'.1 = true) ↔ (P u k ∧ tks r u.1 = true) ∨ ∃ u', P u' k ∧ v + 1 ≤ eX u' ∧ tks r u'.1 = true := by
        intro k
        constructor
        · rintro ⟨u', w1, w2, w3⟩
          by_cases z : eX u' = v
          · have : u' = u := by rw [← dX_e (ca.1 u' k w1), z, vu, dX_e uv]
            rw [this] at w1 w3
            exact Or.inl ⟨w1, w3⟩
          · have : eX u' ∈ els (cfS P) 24576 f := els_mem.mpr ⟨w2, eX_lt (ca.1 u' k w1), bl_t.mpr ⟨u', k, w1, rfl⟩⟩
            rw [hels] at this
            rcases List.mem_cons.mp this with y | y
            · exact absurd y z
            · rw [u4] at y
              exact Or.inr ⟨u', w1, (els_mem.mp y).1, w3⟩
        · rintro (⟨w1, w2⟩ | ⟨u', w1, w2, w3⟩)
          · exact ⟨u, w1, by rw [← vu]; exact u1, w2⟩
          · exact ⟨u', w1, by omega, w3⟩
      have e0 : Rk B_Mn_fewest L_Mn_fewest (Cc (d + 3)) 8 [aR (some 74), aR (some ra), aU, aI (zI bs), aI (zI (hd (v :: rest))), aI (zI ((n + 1 : Nat) : Int)), aU] [] h = if tks r u.1 = true then Rk B_Mn_fewest L_Mn_fewest (Cc (d + 3)) 11 [aR (some 74), aR (some ra), aU, aI (zI bs), aI (zI v), aI (zI ((n + 1 : Nat) : Int)), aI (zI (csH h A (eX u)))] [] h else Rk B_Mn_fewest L_Mn_fewest (Cc (d + 3)) 14 [aR (some 74), aR (some ra), aU, aI (zI bs), aI (zI v), aI (zI ((n + 1 : Nat) : Int)), aU] [] h := by
        rw [E_Mn_fewest_8]
        simp (disch := omega) only [nle0]
        rw [if_neg (by omega), E_Mn_fewest_9, show hd (v :: rest) = ((v : Nat) : Int) from rfl]
        simp (disch := omega) only [nlt0, if_false]
        rw [E_Mn_fewest_10, obj_e (z74 px.1), r4, vu, calI_e (Mn_costOf _ (z6x px.1 (by omega)) (eX_lt uv)), lt_e, obj_e rd.2.1.1, calI_e (Rd_takesAt _ rd (eX_lt uv)), eX_q uv, if01]
      have go : ∀ bs' : Int, Rk B_Mn_fewest L_Mn_fewest (Cc (d + 3)) 14 [aR (some 74), aR (some ra), aU, aI (zI bs'), aI (zI v), aI (zI ((n + 1 : Nat) : Int)), aU] [] h = Rk B_Mn_fewest L_Mn_fewest (Cc (d + 3)) 8 [aR (some 74), aR (some ra), aU, aI (zI bs'), aI (zI (hd (els (cfS P) 24576 (v + 1)))), aI (zI n), aU] [] h := by
        intro bs'
        rw [E_Mn_fewest_14, obj_e (z74 px.1), r2, obj_e sp.1.1, nadd1, calI_e (Sp_next _ sp (by omega)), lt_e, lt_e, ndec (by omega), Nat.add_sub_cancel]
      cases t : tks r u.1 with
      | false =>
        obtain ⟨w, e1, mw⟩ := ih (v + 1) bs Q hr1 hb1 hb2 hm
        refine ⟨w, ?_, mnv_c mw (fun k => ?_)⟩
        · rw [e0, t, if_neg (show ¬ (false = true) by simp), go, e1]
        · rw [only k, t]
          simp
      | true =>
        have mu : mnv (fun k => P u k) ((csH h A (eX u) : Nat) : Int) := Or.inr ⟨_, rfl, cmin.1, fun k hk => (ca.2.2 u k hk).2⟩
        have mo := mnv_or hm mu
        obtain ⟨w, e1, mw⟩ := ih (v + 1) _ _ hr1 (by repeat' split <;> omega) (by repeat' split <;> omega) mo
        refine ⟨w, ?_, mnv_c mw (fun k => ?_)⟩
        · rw [e0, t, if_pos rfl, E_Mn_fewest_11]
          rw [if_neg (show ¬ ((csH h A (eX u) : Nat) : Int) < 0 by omega)] at e1
          simp (disch := omega) only [ylt0]
          by_cases z : bs < 0
          · rw [if_pos z] at e1
            rw [if_pos z, E_Mn_fewest_13, lt_e, go, e1]
          · rw [if_neg z] at e1
            rw [if_neg z, E_Mn_fewest_12]
            simp (disch := omega) only [ylt]
            by_cases y : ((csH h A (eX u) : Nat) : Int) < bs
            · rw [if_pos y] at e1
              rw [if_pos y, E_Mn_fewest_13, lt_e, go, e1]
            · rw [if_neg y] at e1
              rw [if_neg y, go, e1]
        · rw [only k, t, or_assoc]
          simp
