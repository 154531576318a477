/-! X: useless, twofold -/
theorem orb {U i : Nat} (hU : U < 2 ^ 20) (hi : i < 20) : ∃ U' : Nat, U' < 2 ^ 20 ∧ zI (U : Int) ||| (zI 1 <<< (zI (i : Int) &&& 31)) = zI (U' : Int) ∧ ∀ t, U'.testBit t = true ↔ U.testBit t = true ∨ t = i := by
  have h2 : 2 ^ i < 2 ^ 20 := Nat.pow_lt_pow_right (by omega) hi
  refine ⟨U ||| 2 ^ i, Nat.or_lt_two_pow hU h2, ?_, ?_⟩
  · rw [zc1, zI_shl (by omega), Nat.one_mul, zI_or (by omega) (by omega)]
  · intro t
    rw [Nat.testBit_or, Bool.or_eq_true, Nat.testBit_two_pow]
    simp only [decide_eq_true_eq]
    constructor
    · rintro (h | h)
      · exact Or.inl h
      · exact Or.inr h.symm
    · rintro (h | h)
      · exact Or.inl h
      · exact Or.inr h.symm
theorem nm_in (d : Nat) {s : Stt} {ra : Nat} {r : Rdr} {c : Cfg} {m : Mv} {i j : Nat} {ed x3 : Int32} {A : Cfg → Int} {L : List Cfg} {h : AH} (p : XI s h) (rd : RD h ra r) (hc : KV c) (hm : r.2.2.2[i]? = some m) (o : OSt h L A) (ab : AB A) : ∀ (x U : Nat), x ≤ 4 → U < 2 ^ 20 →
    ∃ U' : Nat, Rk B_Ol_neverMade L_Ol_neverMade (Cc (d + 2)) 5 [aR (some 79), aR (some ra), aI (zI U), aI x3, aI (zI (eX c)), aI ed, aI (zI j), aI (zI i), aI (zI x), aU] [] h = Rk B_Ol_neverMade L_Ol_neverMade (Cc (d + 2)) 10 [aR (some 79), aR (some ra), aI (zI U'), aI x3, aI (zI (eX c)), aI ed, aI (zI j), aU, aU, aU] [] h ∧ U' < 2 ^ 20 ∧ ∀ t, U'.testBit t = true ↔ U.testBit t = true ∨ (t = i ∧ ∃ y, 1 ≤ y ∧ y ≤ x ∧ fits m c y = true ∧ 0 ≤ A (kn (goC m c y)))
  | 0, U, hx, hU => by
    refine ⟨U, ?_, hU, fun t => ⟨Or.inl, fun q => q.elim id (fun ⟨_, y, h1, h2, _⟩ => by omega)⟩⟩
    rw [E_Ol_neverMade_5, if_pos (by decide)]
  | x + 1, U, hx, hU => by
    have hmv := (rd.1.mi hm).1
    have hi20 := (rd.1.mi hm).2
    have hzo := zI_oX hmv hc.v (x := x + 1) (by omega)
    rw [E_Ol_neverMade_5]
    simp (disch := omega) only [nle0]
    rw [if_neg (by omega), E_Ol_neverMade_6, obj_e rd.2.1.1, calI_e (Rd_after _ rd hc.v hm (by omega)), lt_e]
    simp (disch := omega) only [ylt0]
    have skip : ¬ (fits m c (x + 1) = true ∧ 0 ≤ A (kn (goC m c (x + 1)))) → ∃ U' : Nat, Rk B_Ol_neverMade L_Ol_neverMade (Cc (d + 2)) 9 [aR (some 79), aR (some ra), aI (zI U), aI x3, aI (zI (eX c)), aI ed, aI (zI j), aI (zI i), aI (zI ((x + 1 : Nat) : Int)), aU] [] h = Rk B_Ol_neverMade L_Ol_neverMade (Cc (d + 2)) 10 [aR (some 79), aR (some ra), aI (zI U'), aI x3, aI (zI (eX c)), aI ed, aI (zI j), aU, aU, aU] [] h ∧ U' < 2 ^ 20 ∧ ∀ t, U'.testBit t = true ↔ U.testBit t = true ∨ (t = i ∧ ∃ y, 1 ≤ y ∧ y ≤ x + 1 ∧ fits m c y = true ∧ 0 ≤ A (kn (goC m c y))) := by
      intro hno
      obtain ⟨U', e, k1, k2⟩ := nm_in d (ed := ed) (x3 := x3) (j := j) p rd hc hm o ab x U (by omega) hU
      refine ⟨U', ?_, k1, fun t => ?_⟩
      · rw [E_Ol_neverMade_9, lt_e, ndec (by omega), Nat.add_sub_cancel, e]
      · rw [k2 t]
        constructor
        · rintro (q | ⟨q, y, h1, h2, h3⟩)
          · exact Or.inl q
          · exact Or.inr ⟨q, y, h1, by omega, h3⟩
        · rintro (q | ⟨q, y, h1, h2, h3⟩)
          · exact Or.inl q
          · by_cases w : y = x + 1
            · subst w; exact absurd h3 hno
            · exact Or.inr ⟨q, y, h1, by omega, h3⟩
    cases y : fits m c (x + 1) with
    | false =>
      have st : stp m c (x + 1) = none := by unfold stp; rw [y]; rfl
      rw [st, if_pos (by decide)]
      exact skip (fun q => by rw [y] at q; cases q.1)
    | true =>
      have st : stp m c (x + 1) = some (goC m c (x + 1)) := by unfold stp; rw [y]; rfl
      have gv := goC_v (x := x + 1) hmv hc.v (by omega)
      have kv : KV (kn (goC m c (x + 1))) := KV_kn gv.1
      have hlt := eP_lt kv
      have hab := ab (kn (goC m c (x + 1)))
      rw [st, oX_some, if_neg (by omega), E_Ol_neverMade_7, obj_e (z79 p.1), calI_e (Ol_placeOf _ h gv), p.r (c := 80) (by decide)]
      simp (disch := omega) only [idx_n (z80 p.1), o.2.2.2.2 _ kv, ylt0]
      by_cases w : A (kn (goC m c (x + 1))) < 0
      · rw [if_pos w]
        exact skip (fun q => by omega)
      · rw [if_neg w, E_Ol_neverMade_8, lt_e]
        obtain ⟨V, v1, v2, v3⟩ := orb hU hi20
        rw [v2]
        obtain ⟨U', e, k1, k2⟩ := nm_in d (ed := ed) (x3 := x3) (j := j) p rd hc hm o ab x V (by omega) v1
        refine ⟨U', ?_, k1, fun t => ?_⟩
        · rw [E_Ol_neverMade_9, lt_e, ndec (by omega), Nat.add_sub_cancel, e]
        · rw [k2 t, v3 t]
          constructor
          · rintro ((q | q) | ⟨q, y', h1, h2, h3⟩)
            · exact Or.inl q
            · exact Or.inr ⟨q, x + 1, by omega, by omega, y, by omega⟩
            · exact Or.inr ⟨q, y', h1, by omega, h3⟩
          · rintro (q | ⟨q, -⟩)
            · exact Or.inl (Or.inl q)
            · exact Or.inl (Or.inr q)
theorem nm_lp (d : Nat) {s : Stt} {ra : Nat} {r : Rdr} {c : Cfg} {x3 : Int32} {A : Cfg → Int} {L : List Cfg} {h : AH} (p : XI s h) (rd : RD h ra r) (hc : KV c) (o : OSt h L A) (ab : AB A) : ∀ (n j U : Nat), j + n = (am r.2.2.2 c.1).length → U < 2 ^ 20 →
    ∃ U' : Nat, Rk B_Ol_neverMade L_Ol_neverMade (Cc (d + 2)) 3 [aR (some 79), aR (some ra), aI (zI U), aI x3, aI (zI (eX c)), aI (zI ((bg r.2.2.2 (c.1 * 3) + (am r.2.2.2 c.1).length : Nat) : Int)), aI (zI ((bg r.2.2.2 (c.1 * 3) + j : Nat) : Int)), aU, aU, aU] [] h = Rk B_Ol_neverMade L_Ol_neverMade (Cc (d + 2)) 11 [aR (some 79), aR (some ra), aI (zI U'), aI x3, aU, aU, aU, aU, aU, aU] [] h ∧ U' < 2 ^ 20 ∧ ∀ t, U'.testBit t = true ↔ U.testBit t = true ∨ ∃ (k : Nat) (m : Mv) (e : Cfg), j ≤ k ∧ (am r.2.2.2 c.1)[k]? = some t ∧ r.2.2.2[t]? = some m ∧ gst m c e ∧ 0 ≤ A e
  | 0, j, U, hn, hU => by
    have hl := am_len rd.1 c.1
    refine ⟨U, ?_, hU, fun t => ⟨Or.inl, fun q => q.elim id (fun ⟨k, m, e, h1, h2, _⟩ => by have := (List.getElem?_eq_some_iff.mp h2).1; omega)⟩⟩
    rw [E_Ol_neverMade_3]
    simp (disch := omega) only [nlt]
    rw [if_neg (by omega)]
  | n + 1, j, U, hn, hU => by
    have hl := am_len rd.1 c.1
    have hj : (am r.2.2.2 c.1)[j]? = some (am r.2.2.2 c.1)[j] := List.getElem?_eq_getElem (by omega)
    obtain ⟨m, hm, hm1⟩ := (am_mem rd.1).mp (List.mem_of_getElem? hj)
    have ht := top_kv hc
    obtain ⟨V, e1, v1, v2⟩ := nm_in d (ed := zI ((bg r.2.2.2 (c.1 * 3) + (am r.2.2.2 c.1).length : Nat) : Int)) (x3 := x3) (j := bg r.2.2.2 (c.1 * 3) + j) p rd hc hm o ab (top c + 1) U (by omega) hU
    obtain ⟨U', e2, k1, k2⟩ := nm_lp d (x3 := x3) p rd hc o ab n (j + 1) V (by omega) v1
    refine ⟨U', ?_, k1, fun t => ?_⟩
    · rw [E_Ol_neverMade_3]
      simp (disch := omega) only [nlt]
      rw [if_pos (by omega), E_Ol_neverMade_4, obj_e rd.2.1.1, calI_e (am_at _ rd hc.1 hj), lt_e, calI_e (Ol_newName _ h hc.v), lt_e]
      refine Eq.trans e1 ?_
      rw [E_Ol_neverMade_10, nadd1, lt_e]
      exact e2
    · rw [k2 t, v2 t]
      constructor
      · rintro ((q | ⟨q, y, h1, h2, h3, h4⟩) | ⟨k, m', e, h1, h2⟩)
        · exact Or.inl q
        · subst q
          exact Or.inr ⟨j, m, _, Nat.le_refl _, hj, hm, gst_top.mpr ⟨hm1, y, h1, h2, h3, rfl⟩, h4⟩
        · exact Or.inr ⟨k, m', e, by omega, h2⟩
      · rintro (q | ⟨k, m', e, h1, h2, h3, h4, h5⟩)
        · exact Or.inl (Or.inl q)
        · by_cases w : k = j
          · subst w
            rw [hj] at h2
            cases h2
            rw [hm] at h3
            cases h3
            obtain ⟨-, y, y1, y2, y3, y4⟩ := gst_top.mp h4
            exact Or.inl (Or.inr ⟨rfl, y, y1, y2, y3, by rw [← y4]; exact h5⟩)
          · exact Or.inr ⟨k, m', e, by omega, h2, h3, h4, h5⟩
theorem nm_sp (d : Nat) {s : Stt} {ra : Nat} {r : Rdr} {A : Cfg → Int} {L : List Cfg} {h : AH} (p : XI s h) (rd : RD h ra r) (o : OSt h L A) (ab : AB A) : ∀ (n i U : Nat), i + n = L.length → U < 2 ^ 20 →
    ∃ U' : Nat, Rk B_Ol_neverMade L_Ol_neverMade (Cc (d + 2)) 1 [aR (some 79), aR (some ra), aI (zI U), aI (zI i), aU, aU, aU, aU, aU, aU] [] h = Rk B_Ol_neverMade L_Ol_neverMade (Cc (d + 2)) 12 [aU, aR (some ra), aI (zI U'), aU, aU, aU, aU, aU, aU, aU] [] h ∧ U' < 2 ^ 20 ∧ ∀ t, U'.testBit t = true ↔ U.testBit t = true ∨ ∃ (k : Nat) (c : Cfg) (m : Mv) (e : Cfg), i ≤ k ∧ L[k]? = some c ∧ r.2.2.2[t]? = some m ∧ gst m c e ∧ 0 ≤ A e
  | 0, i, U, hn, hU => by
    have hl := KVs_len o.1 o.2.1
    refine ⟨U, ?_, hU, fun t => ⟨Or.inl, fun q => q.elim id (fun ⟨k, c, m, e, h1, h2, _⟩ => by have := (List.getElem?_eq_some_iff.mp h2).1; omega)⟩⟩
    rw [E_Ol_neverMade_1, obj_e (z79 p.1), o.2.2.1]
    simp (disch := omega) only [nlt]
    rw [if_neg (by omega)]
  | n + 1, i, U, hn, hU => by
    have hl := KVs_len o.1 o.2.1
    have hi : L[i]? = some L[i] := List.getElem?_eq_getElem (by omega)
    have kv := o.2.1 _ (List.getElem_mem (show i < L.length by omega))
    obtain ⟨V, e1, v1, v2⟩ := nm_lp d (x3 := zI i) p rd kv o ab (am r.2.2.2 L[i].1).length 0 U (by omega) hU
    obtain ⟨U', e2, k1, k2⟩ := nm_sp d p rd o ab n (i + 1) V (by omega) v1
    refine ⟨U', ?_, k1, fun t => ?_⟩
    · rw [E_Ol_neverMade_1, obj_e (z79 p.1), o.2.2.1]
      simp (disch := omega) only [nlt]
      rw [if_pos (by omega), E_Ol_neverMade_2, obj_e (z79 p.1), p.r (c := 81) (by decide)]
      simp (disch := omega) only [idx_n (z81 p.1), o.2.2.2.1 i _ hi]
      rw [calI_e (Ol_spotOf _ h kv), lt_e, obj_e rd.2.1.1, calI_e (Rd_end2 _ rd kv.v), lt_e, obj_e rd.2.1.1, calI_e (Rd_begin0 _ rd kv.v), lt_e]
      refine Eq.trans e1 ?_
      rw [E_Ol_neverMade_11, nadd1, lt_e]
      exact e2
    · rw [k2 t, v2 t]
      constructor
      · rintro ((q | ⟨k, m, e, -, -, h3, h4⟩) | ⟨k, c, m, e, h1, h2⟩)
        · exact Or.inl q
        · exact Or.inr ⟨i, _, m, e, Nat.le_refl _, hi, h3, h4⟩
        · exact Or.inr ⟨k, c, m, e, by omega, h2⟩
      · rintro (q | ⟨k, c, m, e, h1, h2, h3, h4, h5⟩)
        · exact Or.inl (Or.inl q)
        · by_cases w : k = i
          · subst w
            rw [hi] at h2
            cases h2
            obtain ⟨k', hk'⟩ := List.mem_iff_getElem?.mp ((am_mem rd.1).mpr ⟨m, h3, h4.1⟩)
            exact Or.inl (Or.inr ⟨k', m, e, Nat.zero_le _, hk', h3, h4, h5⟩)
          · exact Or.inr ⟨k, c, m, e, by omega, h2, h3, h4, h5⟩
def usd (r : Rdr) (t : Nat) : Prop := ∃ m c e, r.2.2.2[t]? = some m ∧ rch r c ∧ gst m c e ∧ 0 ≤ dv r e
noncomputable def usV (r : Rdr) : Int32 := (((zI 1) <<< (zI (r.2.2.2.length : Int) &&& 31)) - (zI 1)) &&& (zI (mkm (fun t => bl (usd r t)) 20 : Nat) ^^^ (zI (-1)))
theorem awF_b {r : Rdr} {L : List Cfg} (hv : RV r) (hk : ∀ c, c ∈ L → KV c) : AB (awF r L) := by
  intro c
  unfold awF
  split
  · rename_i z
    have := dv_r hv (hk c z)
    omega
  · omega
theorem Ol_neverMade (d : Nat) {s : Stt} {ra : Nat} {r : Rdr} {h : AH} (hr : ∀ h, XI s h → RD h ra r) (p : XI s h) : ∃ h', Cc (d + 6) k_Ol_neverMade [aR (some 79), aR (some ra)] h = some (some (aI (usV r)), h') ∧ olf h h' := by
  obtain ⟨h1, L, e1, f1, hL, o1⟩ := Ol_study d hr p
  have p1 := XI_ol p f1
  have rd := hr h1 p1
  obtain ⟨U, e2, u1, u2⟩ := nm_sp (d + 3) p1 rd o1 (awF_b rd.1 o1.2.1) L.length 0 0 (by omega) (by omega)
  have hU : U = mkm (fun t => bl (usd r t)) 20 := by
    refine mkm_u u1 (fun t _ => ?_)
    cases y : U.testBit t with
    | true =>
      symm
      rw [bl_t]
      rcases (u2 t).mp y with q | ⟨k, c, m, e, -, h2, h3, h4, h5⟩
      · simp at q
      · have cL := List.mem_of_getElem? h2
        have hr := (hL c).mp cL
        unfold awF at h5
        rw [if_pos ((hL e).mpr (rch_s hr (List.mem_of_getElem? h3) h4))] at h5
        exact ⟨m, c, e, h3, hr, h4, h5⟩
    | false =>
      symm
      rw [bl_f]
      rintro ⟨m, c, e, h1, h2, h3, h4⟩
      obtain ⟨k, hk⟩ := List.mem_iff_getElem?.mp ((hL c).mpr h2)
      have : U.testBit t = true := (u2 t).mpr (Or.inr ⟨k, c, m, e, Nat.zero_le _, hk, h1, h3, by unfold awF; rw [if_pos ((hL e).mpr (rch_s h2 (List.mem_of_getElem? h1) h3))]; exact h4⟩)
      rw [y] at this
      cases this
  refine ⟨h1, ?_, f1⟩
  rw [C_Ol_neverMade, E_Ol_neverMade_0, obj_e (z79 p.1), calV_e e1, lt_e, lt_e]
  refine Eq.trans e2 ?_
  rw [E_Ol_neverMade_12, obj_e rd.2.1.1, calI_e (Rd_size _ rd), hU]
  rfl
noncomputable def uslA (x : Int) (s : Stt) : Int := if x = 0 ∨ x = 1 then (usV (rdr s x)).toInt else -2
theorem zI_back (x : Int32) : zI x.toInt = x := by unfold zI; exact Int32.ofInt_toInt x
theorem X_useless {x : Int} (x1 : -2147483648 ≤ x) (x2 : x < 2147483648) : XOK k_X_useless [aI (zI x)] (uslA x) id := by
  intro s h p
  rw [C_X_useless, E_X_useless_0, obj_e p.o, calR_e (X_readerOf _ p x1 x2), xo_if]
  unfold uslA
  by_cases a1 : x = 0 ∨ x = 1
  · simp only [if_pos a1]
    obtain ⟨h', e, f⟩ := Ol_neverMade 53 (ra := xa x) (r := rdr s x) (fun h q => q.rd x) p
    refine ⟨h', ?_, f.l, XI_ol p f⟩
    rw [xo_some a1, E_X_useless_2, obj_e p.o, p.r (a := 0) (j := 9) (c := 79) (by decide), obj_e (z79 p.1), calI_e e, E_X_useless_3, zI_back]
  · simp only [if_neg a1]
    exact ⟨h, by rw [E_X_useless_1, E_X_useless_3], fr.rf _ h, p⟩
