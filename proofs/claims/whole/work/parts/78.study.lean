/-! Outlook: how far it is -/
def AB (A : Cfg → Int) : Prop := ∀ c, -2 ≤ A c ∧ A c < 2147483647
theorem lt_in (d : Nat) {s : Stt} {ra rest : Nat} {r : Rdr} {c : Cfg} {m : Mv} {i j : Nat} {ed : Int32} {A : Cfg → Int} {L : List Cfg} {h : AH} (p : XI s h) (rd : RD h ra r) (hc : KV c) (hj : (am r.2.2.2 c.1)[j]? = some i) (hm : r.2.2.2[i]? = some m) (o : OSt h L A) (ab : AB A) (hrest : rest < 2147483648) : ∀ (x : Nat), x ≤ 4 →
    Rk B_Ol_leadsTo L_Ol_leadsTo (Cc (d + 2)) 3 [aR (some 79), aR (some ra), aI (zI (eX c)), aI (zI rest), aI ed, aI (zI ((bg r.2.2.2 (c.1 * 3) + j : Nat) : Int)), aI (zI x), aU] [] h = if bl (∃ y, 1 ≤ y ∧ y ≤ x ∧ fits m c y = true ∧ A (kn (goC m c y)) = rest) = true then some (some (aI (zI 1)), h) else Rk B_Ol_leadsTo L_Ol_leadsTo (Cc (d + 2)) 8 [aR (some 79), aR (some ra), aI (zI (eX c)), aI (zI rest), aI ed, aI (zI ((bg r.2.2.2 (c.1 * 3) + j : Nat) : Int)), aU, aU] [] h
  | 0, hx => by
    rw [if_neg (fun q => by obtain ⟨y, h1, h2, -⟩ := bl_t.mp q; omega), E_Ol_leadsTo_3, if_pos (by decide)]
  | x + 1, hx => by
    have hmv := (rd.1.mi hm).1
    have hzo := zI_oX hmv hc.v (x := x + 1) (by omega)
    have ih := lt_in d (ed := ed) p rd hc hj hm o ab hrest x (by omega)
    rw [E_Ol_leadsTo_3]
    simp (disch := omega) only [nle0]
    rw [if_neg (by omega), E_Ol_leadsTo_4, obj_e rd.2.1.1, calI_e (am_at _ rd hc.1 hj), obj_e rd.2.1.1, calI_e (Rd_after _ rd hc.v hm (by omega)), lt_e]
    simp (disch := omega) only [ylt0]
    have skip : ¬ (fits m c (x + 1) = true ∧ A (kn (goC m c (x + 1))) = rest) → Rk B_Ol_leadsTo L_Ol_leadsTo (Cc (d + 2)) 7 [aR (some 79), aR (some ra), aI (zI (eX c)), aI (zI rest), aI ed, aI (zI ((bg r.2.2.2 (c.1 * 3) + j : Nat) : Int)), aI (zI ((x + 1 : Nat) : Int)), aU] [] h = if bl (∃ y, 1 ≤ y ∧ y ≤ x + 1 ∧ fits m c y = true ∧ A (kn (goC m c y)) = rest) = true then some (some (aI (zI 1)), h) else Rk B_Ol_leadsTo L_Ol_leadsTo (Cc (d + 2)) 8 [aR (some 79), aR (some ra), aI (zI (eX c)), aI (zI rest), aI ed, aI (zI ((bg r.2.2.2 (c.1 * 3) + j : Nat) : Int)), aU, aU] [] h := by
      intro hno
      rw [E_Ol_leadsTo_7, lt_e, ndec (by omega), Nat.add_sub_cancel, ih]
      have : (∃ y, 1 ≤ y ∧ y ≤ x ∧ fits m c y = true ∧ A (kn (goC m c y)) = rest) ↔ (∃ y, 1 ≤ y ∧ y ≤ x + 1 ∧ fits m c y = true ∧ A (kn (goC m c y)) = rest) := by
        constructor
        · rintro ⟨y, h1, h2, h3⟩; exact ⟨y, h1, by omega, h3⟩
        · rintro ⟨y, h1, h2, h3⟩
          by_cases w : y = x + 1
          · subst w; exact absurd h3 hno
          · exact ⟨y, h1, by omega, h3⟩
      rw [bl_c this]
    cases y : fits m c (x + 1) with
    | false =>
      have st : stp m c (x + 1) = none := by unfold stp; rw [y]; rfl
      rw [st, if_pos (by decide)]
      exact skip (fun q => by rw [y] at q; cases q.1)
    | true =>
      have st : stp m c (x + 1) = some (goC m c (x + 1)) := by unfold stp; rw [y]; rfl
      have gv := goC_v (x := x + 1) hmv hc.v (by omega)
      have kv : KV (kn (goC m c (x + 1))) := KV_kn gv.1
      have hlt := eP_lt kv
      have hab := ab (kn (goC m c (x + 1)))
      rw [st, oX_some, if_neg (by omega), E_Ol_leadsTo_5, obj_e (z79 p.1), calI_e (Ol_placeOf _ h gv), p.r (c := 80) (by decide)]
      simp (disch := omega) only [idx_n (z80 p.1), o.2.2.2.2 _ kv, yeq]
      by_cases w : A (kn (goC m c (x + 1))) = rest
      · rw [if_pos w, E_Ol_leadsTo_6, fr1, if_pos (bl_t.mpr ⟨x + 1, by omega, by omega, y, w⟩)]
      · rw [if_neg w]
        exact skip (fun q => w q.2)
theorem lt_lp (d : Nat) {s : Stt} {ra rest : Nat} {r : Rdr} {c : Cfg} {A : Cfg → Int} {L : List Cfg} {h : AH} (p : XI s h) (rd : RD h ra r) (hc : KV c) (o : OSt h L A) (ab : AB A) (hrest : rest < 2147483648) : ∀ (n j : Nat), j + n = (am r.2.2.2 c.1).length →
    ∃ v : Nat, Rk B_Ol_leadsTo L_Ol_leadsTo (Cc (d + 2)) 1 [aR (some 79), aR (some ra), aI (zI (eX c)), aI (zI rest), aI (zI ((bg r.2.2.2 (c.1 * 3) + (am r.2.2.2 c.1).length : Nat) : Int)), aI (zI ((bg r.2.2.2 (c.1 * 3) + j : Nat) : Int)), aU, aU] [] h = some (some (aI (zI v)), h) ∧ v ≤ 1 ∧ (v = 1 ↔ ∃ (k i : Nat) (m : Mv) (e : Cfg), j ≤ k ∧ (am r.2.2.2 c.1)[k]? = some i ∧ r.2.2.2[i]? = some m ∧ gst m c e ∧ A e = rest)
  | 0, j, hn => by
    have hl := am_len rd.1 c.1
    refine ⟨0, ?_, by omega, ?_⟩
    · rw [E_Ol_leadsTo_1]
      simp (disch := omega) only [nlt]
      rw [if_neg (by omega), E_Ol_leadsTo_9, fr0]
      rfl
    · constructor
      · intro z; omega
      · rintro ⟨k, i, m, e, h1, h2, -⟩
        have := (List.getElem?_eq_some_iff.mp h2).1
        omega
  | n + 1, j, hn => by
    have hl := am_len rd.1 c.1
    have hj : (am r.2.2.2 c.1)[j]? = some (am r.2.2.2 c.1)[j] := List.getElem?_eq_getElem (by omega)
    obtain ⟨m, hm, hm1⟩ := (am_mem rd.1).mp (List.mem_of_getElem? hj)
    have ht := top_kv hc
    have e1 := lt_in d (ed := zI ((bg r.2.2.2 (c.1 * 3) + (am r.2.2.2 c.1).length : Nat) : Int)) p rd hc hj hm o ab hrest (top c + 1) (by omega)
    have hg : (∃ y, 1 ≤ y ∧ y ≤ top c + 1 ∧ fits m c y = true ∧ A (kn (goC m c y)) = rest) ↔ ∃ e, gst m c e ∧ A e = rest := by
      constructor
      · rintro ⟨y, h1, h2, h3, h4⟩; exact ⟨_, gst_top.mpr ⟨hm1, y, h1, h2, h3, rfl⟩, h4⟩
      · rintro ⟨e, h1, h2⟩
        obtain ⟨-, y, h3, h4, h5, h6⟩ := gst_top.mp h1
        exact ⟨y, h3, h4, h5, by rw [← h6]; exact h2⟩
    have e0 : Rk B_Ol_leadsTo L_Ol_leadsTo (Cc (d + 2)) 1 [aR (some 79), aR (some ra), aI (zI (eX c)), aI (zI rest), aI (zI ((bg r.2.2.2 (c.1 * 3) + (am r.2.2.2 c.1).length : Nat) : Int)), aI (zI ((bg r.2.2.2 (c.1 * 3) + j : Nat) : Int)), aU, aU] [] h = Rk B_Ol_leadsTo L_Ol_leadsTo (Cc (d + 2)) 3 [aR (some 79), aR (some ra), aI (zI (eX c)), aI (zI rest), aI (zI ((bg r.2.2.2 (c.1 * 3) + (am r.2.2.2 c.1).length : Nat) : Int)), aI (zI ((bg r.2.2.2 (c.1 * 3) + j : Nat) : Int)), aI (zI ((top c + 1 : Nat) : Int)), aU] [] h := by
      rw [E_Ol_leadsTo_1]
      simp (disch := omega) only [nlt]
      rw [if_pos (by omega), E_Ol_leadsTo_2, calI_e (Ol_newName _ h hc.v), lt_e]
    by_cases z : ∃ y, 1 ≤ y ∧ y ≤ top c + 1 ∧ fits m c y = true ∧ A (kn (goC m c y)) = rest
    · rw [if_pos (bl_t.mpr z)] at e1
      obtain ⟨e, g1, g2⟩ := hg.mp z
      exact ⟨1, by rw [e0, e1]; rfl, by omega, fun _ => ⟨j, _, m, e, Nat.le_refl _, hj, hm, g1, g2⟩, fun _ => rfl⟩
    · rw [if_neg (fun q => z (bl_t.mp q))] at e1
      obtain ⟨v, k1, k2, k3⟩ := lt_lp d p rd hc o ab hrest n (j + 1) (by omega)
      refine ⟨v, ?_, k2, ?_⟩
      · rw [e0, e1, E_Ol_leadsTo_8, nadd1, lt_e]; exact k1
      · rw [k3]
        constructor
        · rintro ⟨k, i, m', e, h1, h2⟩; exact ⟨k, i, m', e, by omega, h2⟩
        · rintro ⟨k, i, m', e, h1, h2, h3, h4, h5⟩
          by_cases w : k = j
          · subst w
            rw [hj] at h2
            cases h2
            rw [hm] at h3
            cases h3
            exact absurd (hg.mpr ⟨e, h4, h5⟩) z
          · exact ⟨k, i, m', e, by omega, h2, h3, h4, h5⟩
theorem Ol_leadsTo (d : Nat) {s : Stt} {ra rest : Nat} {r : Rdr} {c : Cfg} {A : Cfg → Int} {L : List Cfg} {h : AH} (p : XI s h) (rd : RD h ra r) (hc : KV c) (o : OSt h L A) (ab : AB A) (hrest : rest < 2147483648) : ∃ v : Nat, Cc (d + 3) k_Ol_leadsTo [aR (some 79), aR (some ra), aI (zI (eX c)), aI (zI rest)] h = some (some (aI (zI v)), h) ∧ v ≤ 1 ∧ (v = 1 ↔ ∃ (m : Mv) (e : Cfg), m ∈ r.2.2.2 ∧ gst m c e ∧ A e = rest) := by
  obtain ⟨v, k1, k2, k3⟩ := lt_lp d p rd hc o ab hrest (am r.2.2.2 c.1).length 0 (by omega)
  refine ⟨v, ?_, k2, ?_⟩
  · rw [C_Ol_leadsTo, E_Ol_leadsTo_0, obj_e rd.2.1.1, calI_e (Rd_end2 _ rd hc.v), lt_e, obj_e rd.2.1.1, calI_e (Rd_begin0 _ rd hc.v), lt_e]
    exact k1
  · rw [k3]
    constructor
    · rintro ⟨k, i, m, e, -, -, h1, h2⟩; exact ⟨m, e, List.mem_of_getElem? h1, h2⟩
    · rintro ⟨m, e, hm, g, h2⟩
      obtain ⟨i, hi⟩ := List.getElem?_of_mem hm
      obtain ⟨k, hk⟩ := List.mem_iff_getElem?.mp ((am_mem rd.1).mpr ⟨m, hi, g.1⟩)
      exact ⟨k, i, m, e, Nat.zero_le _, hk, hi, g, h2⟩
/-- while it is told who is one farther -/
noncomputable def awm (r : Rdr) (L : List Cfg) (n i : Nat) (c : Cfg) : Int := if c ∈ L.take i then aw r L (n + 1) c else aw r L n c
theorem dv_r {r : Rdr} (hv : RV r) {c : Cfg} (hc : KV c) : -1 ≤ dv r c ∧ dv r c < 384 := by
  rcases dv_c r c with ⟨n, h1, h2⟩ | ⟨h1, h2⟩
  · have := dmn_lt hv n c hc h1; omega
  · omega
theorem aw_b (r : Rdr) (L : List Cfg) (n : Nat) (c : Cfg) : -2 ≤ aw r L n c ∧ (aw r L n c ≤ n ∨ aw r L n c < 0) := by
  unfold aw
  by_cases z : c ∈ L
  · rw [if_pos z]
    by_cases y : 0 ≤ dv r c ∧ dv r c ≤ n
    · rw [if_pos y]; omega
    · rw [if_neg y]; omega
  · rw [if_neg z]; omega
theorem awm_b (r : Rdr) (L : List Cfg) {n : Nat} (hn : n ≤ 400) (i : Nat) : AB (awm r L n i) := by
  intro c
  have h1 := aw_b r L (n + 1) c
  have h2 := aw_b r L n c
  unfold awm
  split <;> omega
/-- all that may be come to, and nothing else -/
def LR (r : Rdr) (L : List Cfg) : Prop := ∀ c, c ∈ L ↔ rch r c
theorem aw_n {r : Rdr} {L : List Cfg} {n k : Nat} (hk : n ≤ k) {e : Cfg} : aw r L k e = n ↔ e ∈ L ∧ dv r e = n := by
  unfold aw
  by_cases z : e ∈ L
  · rw [if_pos z]
    by_cases y : 0 ≤ dv r e ∧ dv r e ≤ k
    · rw [if_pos y]; exact ⟨fun q => ⟨z, q⟩, fun q => q.2⟩
    · rw [if_neg y]
      constructor
      · intro q; omega
      · rintro ⟨-, q⟩; exact absurd ⟨by omega, by omega⟩ y
  · rw [if_neg z]
    constructor
    · intro q; omega
    · intro q; exact absurd q.1 z
theorem awm_n {r : Rdr} {L : List Cfg} {n i : Nat} {e : Cfg} : awm r L n i e = n ↔ e ∈ L ∧ dv r e = n := by
  unfold awm
  by_cases z : e ∈ L.take i
  · rw [if_pos z]; exact aw_n (by omega)
  · rw [if_neg z]; exact aw_n (by omega)
theorem ta_lp (d : Nat) {s : Stt} {ra n : Nat} {r : Rdr} {L : List Cfg} (hr : ∀ h, XI s h → RD h ra r) (hv : RV r) (hL : LR r L) (hn : n < 384) : ∀ (k i : Nat) (b : Bool) (h : AH), i + k = L.length → XI s h → OSt h L (awm r L n i) → (b = true ↔ ∃ c, c ∈ L.take i ∧ dv r c = n + 1) →
    ∃ h' b', Rk B_Ol_tellAhead L_Ol_tellAhead (Cc (d + 3)) 1 [aR (some 79), aR (some ra), aI (zI n), aI (zI (if b then 1 else 0)), aI (zI i)] [] h = some (some (aI (zI (if b' then 1 else 0))), h') ∧ olf h h' ∧ OSt h' L (aw r L (n + 1)) ∧ (b' = true ↔ ∃ c, c ∈ L ∧ dv r c = n + 1)
  | 0, i, b, h, hk, p, o, hb => by
    have hl := KVs_len o.1 o.2.1
    have ht : L.take i = L := List.take_of_length_le (by omega)
    refine ⟨h, b, ?_, olf.rf h, ?_, by rw [ht] at hb; exact hb⟩
    · rw [E_Ol_tellAhead_1, obj_e (z79 p.1), o.2.2.1]
      simp (disch := omega) only [nlt]
      rw [if_neg (by omega), E_Ol_tellAhead_6]
      cases b <;> rfl
    · obtain ⟨o1, o2, o3, o4, o5⟩ := o
      refine ⟨o1, o2, o3, o4, fun c hc => ?_⟩
      rw [o5 c hc]
      unfold awm
      rw [ht]
      split
      · rfl
      · rename_i z
        unfold aw
        rw [if_neg z, if_neg z]
  | k + 1, i, b, h, hk, p, o, hb => by
    have hl := KVs_len o.1 o.2.1
    have rd := hr h p
    have hi : L[i]? = some L[i] := List.getElem?_eq_getElem (by omega)
    have hiL : L[i] ∈ L := List.getElem_mem (by omega)
    have kv := o.2.1 _ hiL
    have hlt := eP_lt kv
    have ab := awm_b r L (n := n) (by omega) i
    have tk : L.take (i + 1) = L.take i ++ [L[i]] := by rw [List.take_add_one, hi]; rfl
    have nt : L[i] ∉ L.take i := by
      intro w
      have h1 : (L.take (i + 1)).Nodup := o.1.sublist (List.take_sublist _ _)
      rw [tk, List.nodup_append] at h1
      exact h1.2.2 _ w _ List.mem_cons_self rfl
    have aLi : awm r L n i L[i] = aw r L n L[i] := by unfold awm; rw [if_neg nt]
    have hab := ab L[i]
    obtain ⟨v, l1, l2, l3⟩ := Ol_leadsTo d p rd kv o ab (rest := n) (by omega)
    -- when nothing is written
    have skip : aw r L (n + 1) L[i] = aw r L n L[i] → dv r L[i] ≠ n + 1 → ∃ h' b', Rk B_Ol_tellAhead L_Ol_tellAhead (Cc (d + 3)) 5 [aR (some 79), aR (some ra), aI (zI n), aI (zI (if b then 1 else 0)), aI (zI i)] [] h = some (some (aI (zI (if b' then 1 else 0))), h') ∧ olf h h' ∧ OSt h' L (aw r L (n + 1)) ∧ (b' = true ↔ ∃ c, c ∈ L ∧ dv r c = n + 1) := by
      intro e1 e2
      obtain ⟨h', b', q1, q2, q3, q4⟩ := ta_lp d hr hv hL hn k (i + 1) b h (by omega) p (by
        obtain ⟨o1, o2, o3, o4, o5⟩ := o
        refine ⟨o1, o2, o3, o4, fun c hc => ?_⟩
        rw [o5 c hc]
        unfold awm
        rw [tk]
        by_cases w : c = L[i]
        · subst w
          rw [if_neg nt, if_pos (List.mem_append_right _ (List.mem_singleton.mpr rfl)), e1]
        · have : c ∈ L.take i ++ [L[i]] ↔ c ∈ L.take i := by rw [List.mem_append, List.mem_singleton]; exact ⟨fun q => q.elim id (fun q => absurd q w), Or.inl⟩
          simp only [this]) (by
        rw [hb, tk]
        constructor
        · rintro ⟨c, h1, h2⟩; exact ⟨c, List.mem_append_left _ h1, h2⟩
        · rintro ⟨c, h1, h2⟩
          rcases List.mem_append.mp h1 with w | w
          · exact ⟨c, w, h2⟩
          · rw [List.mem_singleton.mp w] at h2; exact absurd h2 e2)
      refine ⟨h', b', ?_, q2, q3, q4⟩
      rw [E_Ol_tellAhead_5, nadd1, lt_e]
      exact q1
    have e2 : Rk B_Ol_tellAhead L_Ol_tellAhead (Cc (d + 3)) 1 [aR (some 79), aR (some ra), aI (zI n), aI (zI (if b then 1 else 0)), aI (zI i)] [] h = if aw r L n L[i] = -1 then Rk B_Ol_tellAhead L_Ol_tellAhead (Cc (d + 3)) 3 [aR (some 79), aR (some ra), aI (zI n), aI (zI (if b then 1 else 0)), aI (zI i)] [] h else Rk B_Ol_tellAhead L_Ol_tellAhead (Cc (d + 3)) 5 [aR (some 79), aR (some ra), aI (zI n), aI (zI (if b then 1 else 0)), aI (zI i)] [] h := by
      rw [E_Ol_tellAhead_1, obj_e (z79 p.1), o.2.2.1]
      simp (disch := omega) only [nlt]
      rw [if_pos (by omega), E_Ol_tellAhead_2, obj_e (z79 p.1), obj_e (z79 p.1), p.r (a := 79) (j := 1) (c := 81) (by decide), p.r (a := 79) (j := 0) (c := 80) (by decide)]
      simp (disch := omega) only [idx_n (z81 p.1), o.2.2.2.1 i _ hi, idx_n (z80 p.1), o.2.2.2.2 _ kv, yeq, aLi]
    rw [e2]
    by_cases z : aw r L n L[i] = -1
    · rw [if_pos z, E_Ol_tellAhead_3, obj_e (z79 p.1), p.r (a := 79) (j := 1) (c := 81) (by decide)]
      simp (disch := omega) only [idx_n (z81 p.1), o.2.2.2.1 i _ hi]
      rw [calI_e (Ol_spotOf _ h kv), obj_e (z79 p.1), calI_e l1]
      have znot : ¬ (0 ≤ dv r L[i] ∧ dv r L[i] ≤ n) := by
        intro q
        unfold aw at z
        rw [if_pos hiL, if_pos q] at z
        omega
      by_cases y : v = 1
      · obtain ⟨m, e, hm, g, ae⟩ := l3.mp y
        obtain ⟨-, de⟩ := awm_n.mp ae
        have dn : dst r (n + 1) L[i] := ⟨m, hm, e, g, (dv_iff.mp de).1⟩
        obtain ⟨k', k1, k2⟩ := dmn_ex _ dn
        have dvk := dv_e k2
        have dvn : dv r L[i] = n + 1 := by omega
        subst y
        rw [if_neg (by decide), E_Ol_tellAhead_4, obj_e (z79 p.1), obj_e (z79 p.1), p.r (a := 79) (j := 1) (c := 81) (by decide), p.r (a := 79) (j := 0) (c := 80) (by decide)]
        simp (disch := omega) only [idx_n (z81 p.1), o.2.2.2.1 i _ hi, idx_n (z80 p.1), lt_e]
        rw [nadd1, E_Ol_tellAhead_5, nadd1, lt_e]
        have f1 : olf h (sI h 80 (eP L[i]) (zI ((n + 1 : Nat) : Int))) := olf_sI h (by omega) _ _
        obtain ⟨h', b', q1, q2, q3, q4⟩ := ta_lp d hr hv hL hn k (i + 1) true (sI h 80 (eP L[i]) (zI ((n + 1 : Nat) : Int))) (by omega) (XI_ol p f1) (by
          obtain ⟨o1, o2, o3, o4, o5⟩ := o
          refine ⟨o1, o2, by rw [hI_off (by omega)]; exact o3, fun t c ht => by rw [hI_off (by omega)]; exact o4 t c ht, fun c hc => ?_⟩
          unfold awm
          rw [tk]
          by_cases w : c = L[i]
          · rw [w, hI_hit, if_pos (List.mem_append_right _ (List.mem_singleton.mpr rfl))]
            unfold aw
            rw [if_pos hiL, if_pos (by omega), dvn]
            rfl
          · rw [hI_off (Or.inr fun q => w (eP_inj hc kv q)), o5 c hc]
            unfold awm
            have : c ∈ L.take i ++ [L[i]] ↔ c ∈ L.take i := by rw [List.mem_append, List.mem_singleton]; exact ⟨fun q => q.elim id (fun q => absurd q w), Or.inl⟩
            simp only [this]) (by
          constructor
          · intro _; exact ⟨L[i], by rw [tk]; exact List.mem_append_right _ (List.mem_singleton.mpr rfl), dvn⟩
          · intro _; rfl)
        exact ⟨h', b', q1, f1.tr q2, q3, q4⟩
      · have hv0 : v = 0 := by omega
        subst hv0
        rw [if_pos (show zI ((0 : Nat) : Int) = 0 from rfl)]
        have dnn : dv r L[i] ≠ n + 1 := by
          intro q
          have q' : dv r L[i] = ((n + 1 : Nat) : Int) := by omega
          obtain ⟨m, hm, e, g, de⟩ := dmn_s (dv_iff.mp q')
          exact y (l3.mpr ⟨m, e, hm, g, awm_n.mpr ⟨(hL e).mpr (rch_s ((hL _).mp hiL) hm g), dv_e de⟩⟩)
        refine skip ?_ dnn
        unfold aw
        rw [if_pos hiL, if_pos hiL, if_neg znot, if_neg (by omega)]
    · rw [if_neg z]
      have zin : 0 ≤ dv r L[i] ∧ dv r L[i] ≤ n := by
        apply Classical.byContradiction
        intro q
        apply z
        unfold aw
        rw [if_pos hiL, if_neg q]
      refine skip ?_ (by omega)
      unfold aw
      rw [if_pos hiL, if_pos hiL, if_pos zin, if_pos (by omega)]
theorem Ol_tellAhead (d : Nat) {s : Stt} {ra n : Nat} {r : Rdr} {L : List Cfg} {h : AH} (hr : ∀ h, XI s h → RD h ra r) (hv : RV r) (hL : LR r L) (hn : n < 384) (p : XI s h) (o : OSt h L (aw r L n)) : ∃ h' b', Cc (d + 4) k_Ol_tellAhead [aR (some 79), aR (some ra), aI (zI n)] h = some (some (aI (zI (if b' then 1 else 0))), h') ∧ olf h h' ∧ OSt h' L (aw r L (n + 1)) ∧ (b' = true ↔ ∃ c, c ∈ L ∧ dv r c = n + 1) := by
  obtain ⟨h', b', q1, q2, q3, q4⟩ := ta_lp d hr hv hL hn L.length 0 false h (by omega) p (by
    obtain ⟨o1, o2, o3, o4, o5⟩ := o
    refine ⟨o1, o2, o3, o4, fun c hc => ?_⟩
    rw [o5 c hc]
    unfold awm
    rw [if_neg (by simp)]) (by simp)
  refine ⟨h', b', ?_, q2, q3, q4⟩
  rw [C_Ol_tellAhead, E_Ol_tellAhead_0, lt_e, lt_e]
  exact q1
