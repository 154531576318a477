/-! X: Meeting: shortest -/
def OC (s : Stt) (a b : Nat) (M Nw N : Jc → Prop) (J : Jc) (h : AH) (lhs : Option AR) (k : AH → Option AR) (A : Jc → Prop) : Prop := ∃ h', fr mtF h h' ∧ XI s h' ∧ ((lhs = some (some (aI (zI 1)), h') ∧ ∃ J', A J' ∧ jtk s.1 s.2.1 J') ∨ (lhs = k h' ∧ (∀ J', A J' → ¬ jtk s.1 s.2.1 J') ∧ ∃ M' N', AdS M N A M' N' ∧ MtQ s h' a b M' Nw N' ∧ MJ h' J))
theorem OC_t {s : Stt} {a b : Nat} {M Nw N : Jc → Prop} {J : Jc} {h : AH} {lhs : Option AR} {k1 k : AH → Option AR} {A B C : Jc → Prop} (h1 : OC s a b M Nw N J h lhs k1 A) (h2 : ∀ h1 M1 N1, MtQ s h1 a b M1 Nw N1 → MJ h1 J → OC s a b M1 Nw N1 J h1 (k1 h1) k B) (hC : ∀ J, C J ↔ A J ∨ B J) : OC s a b M Nw N J h lhs k C := by
  obtain ⟨h1', f1, x1, alt⟩ := h1
  rcases alt with ⟨e, J', j1, j2⟩ | ⟨e, no, M1, N1, as1, q1, m1⟩
  · exact ⟨h1', f1, x1, Or.inl ⟨e, J', (hC J').mpr (Or.inl j1), j2⟩⟩
  · obtain ⟨h2', f2, x2, alt2⟩ := h2 h1' M1 N1 q1 m1
    rcases alt2 with ⟨e2, J', j1, j2⟩ | ⟨e2, no2, M2, N2, as2, q2, m2⟩
    · exact ⟨h2', f1.tr f2, x2, Or.inl ⟨by rw [e, e2], J', (hC J').mpr (Or.inr j1), j2⟩⟩
    · exact ⟨h2', f1.tr f2, x2, Or.inr ⟨by rw [e, e2], fun J' hJ' => ((hC J').mp hJ').elim (no J') (no2 J'), M2, N2, AdS_t as1 as2 hC, q2, m2⟩⟩
theorem OC_0 {s : Stt} {a b : Nat} {M Nw N : Jc → Prop} {J : Jc} {h : AH} {lhs : Option AR} {k : AH → Option AR} {A : Jc → Prop} (q : MtQ s h a b M Nw N) (m : MJ h J) (e : lhs = k h) (hA : ∀ J, ¬ A J) : OC s a b M Nw N J h lhs k A :=
  ⟨h, fr.rf _ h, q.1, Or.inr ⟨e, fun J' hJ' => absurd hJ' (hA J'), M, N, AdS_0 M N hA, q, m⟩⟩
theorem Mt_spreadOther (d : Nat) {s : Stt} {h : AH} {a b lt x : Nat} {M Nw N : Jc → Prop} {J : Jc} {c : Cfg} {k : AH → Option AR} (hJ : JV J) (hlt : lt < 3) (hx : 1 ≤ x) (hx2 : x ≤ tJ J + 1) (hc : stq s.1 J.1 lt x c) (q : MtQ s h a b M Nw N) (mj : MJ h J) : OC s a b M Nw N J h (calI (Cc (d + 3) k_Mt_spreadOther [aR (some 83), aI (zI lt), aI (zI x), aI (zI (eX c))] h) fun v1 h2 => if v1 = 0 then k h2 else some (some (aI (zI 1)), h2)) k (fun J' => ∃ e, stq s.2.1 J.2 lt x e ∧ J' = kj (c, e)) := by
  have px := q.1
  have ro := px.2.2.2.1
  have c2 := hJ.c2
  have hq2 := hJ.2.1
  obtain ⟨h', v, e, f, x', alt⟩ := so_lp d (a := a) (b := b) (Nw := Nw) hJ hlt hx hx2 hc (bk s.2.1.2.2.2 (J.2.1 * 3 + lt)).length 0 h M N (by omega) q mj
  have e' : Cc (d + 3) k_Mt_spreadOther [aR (some 83), aI (zI lt), aI (zI x), aI (zI (eX c))] h = some (some (aI (zI v)), h') := by
    rw [C_Mt_spreadOther, E_Mt_spreadOther_0, obj_e (z83 px.1), obj_e (z83 px.1), px.r (a := 83) (j := 5) (c := 5) (by decide), obj_e ro.2.1.1, mj.2.1, calI_e (Rd_end _ ro (eX_lt c2) hlt), lt_e, obj_e (z83 px.1), obj_e (z83 px.1), px.r (a := 83) (j := 5) (c := 5) (by decide), obj_e ro.2.1.1, mj.2.1, calI_e (Rd_begin _ ro (eX_lt c2) hlt), lt_e, eX_q c2]
    exact e
  refine ⟨h', f, x', ?_⟩
  rw [calI_e e']
  rcases alt with ⟨rfl, e1, e2, e3⟩ | ⟨rfl, no, M', N', as1, q1, m1⟩
  · exact Or.inl ⟨by rw [if_neg (by decide)], kj (c, e1), ⟨e1, e2, rfl⟩, e3⟩
  · have conv : ∀ e, stq s.2.1 J.2 lt x e ↔ ∃ (k i : Nat) (m : Mv), 0 ≤ k ∧ (bk s.2.1.2.2.2 (J.2.1 * 3 + lt))[k]? = some i ∧ s.2.1.2.2.2[i]? = some m ∧ stp m J.2 x = some e := by
      intro e
      constructor
      · rintro ⟨i, m, k1, k2, k3, k4⟩
        obtain ⟨k, hk⟩ := bk_iff.mpr ⟨m, k1, (key_iff (ro.1.mi k1).1.2.1 hlt).mpr ⟨k2, k3⟩⟩
        exact ⟨k, i, m, Nat.zero_le _, hk, k1, k4⟩
      · rintro ⟨k, i, m, -, k1, k2, k3⟩
        obtain ⟨m', hm', km⟩ := bk_mem k1
        rw [k2] at hm'
        cases hm'
        have := (key_iff (ro.1.mi k2).1.2.1 hlt).mp km
        exact ⟨i, m, k2, this.1, this.2, k3⟩
    refine Or.inr ⟨by rw [if_pos zI_0.symm], ?_, M', N', AdS_c as1 (fun J' => ?_), q1, m1⟩
    · rintro J' ⟨e, h1, rfl⟩ ht
      obtain ⟨k, i, m, k0, k1, k2, k3⟩ := (conv e).mp h1
      exact no k i m e k0 k1 k2 k3 ht
    · constructor
      · rintro ⟨k, i, m, e, k0, k1, k2, k3, k4⟩
        exact ⟨e, (conv e).mpr ⟨k, i, m, k0, k1, k2, k3⟩, k4⟩
      · rintro ⟨e, h1, h2⟩
        obtain ⟨k, i, m, k0, k1, k2, k3⟩ := (conv e).mp h1
        exact ⟨k, i, m, e, k0, k1, k2, k3, h2⟩
theorem sp_k (d : Nat) {s : Stt} {a b lt x : Nat} {Nw : Jc → Prop} {J : Jc} (hJ : JV J) (hlt : lt < 3) (hx : 1 ≤ x) (hx2 : x ≤ tJ J + 1) : ∀ (n j : Nat) (h : AH) (M N : Jc → Prop), j + n = (bk s.1.2.2.2 (J.1.1 * 3 + lt)).length → MtQ s h a b M Nw N → MJ h J →
    OC s a b M Nw N J h (Rk B_Mt_spread L_Mt_spread (Cc (d + 3)) 5 [aR (some 83), aI (zI lt), aI (zI x), aI (zI ((bg s.1.2.2.2 (J.1.1 * 3 + lt) + (bk s.1.2.2.2 (J.1.1 * 3 + lt)).length : Nat) : Int)), aI (zI ((bg s.1.2.2.2 (J.1.1 * 3 + lt) + j : Nat) : Int)), aU] [] h) (fun h' => Rk B_Mt_spread L_Mt_spread (Cc (d + 3)) 10 [aR (some 83), aI (zI lt), aI (zI x), aU, aU, aU] [] h') (fun J' => ∃ (k i : Nat) (m : Mv) (c e : Cfg), j ≤ k ∧ (bk s.1.2.2.2 (J.1.1 * 3 + lt))[k]? = some i ∧ s.1.2.2.2[i]? = some m ∧ stp m J.1 x = some c ∧ stq s.2.1 J.2 lt x e ∧ J' = kj (c, e))
  | 0, j, h, M, N, hn, q, mj => by
    have rr := q.1.2.2.1
    have hl : bg s.1.2.2.2 (J.1.1 * 3 + lt) + (bk s.1.2.2.2 (J.1.1 * 3 + lt)).length ≤ 20 := Nat.le_trans (bg_le s.1.2.2.2 (J.1.1 * 3 + lt + 1)) rr.1.2.2.2.2.1
    refine OC_0 q mj ?_ (fun J' ⟨k, i, m, c, e, h1, h2, _⟩ => by have := (List.getElem?_eq_some_iff.mp h2).1; omega)
    rw [E_Mt_spread_5]
    simp (disch := omega) only [nlt]
    rw [if_neg (by omega)]
  | n + 1, j, h, M, N, hn, q, mj => by
    have px := q.1
    have rr := px.2.2.1
    have hb := hJ.b
    have hl : bg s.1.2.2.2 (J.1.1 * 3 + lt) + (bk s.1.2.2.2 (J.1.1 * 3 + lt)).length ≤ 20 := Nat.le_trans (bg_le s.1.2.2.2 (J.1.1 * 3 + lt + 1)) rr.1.2.2.2.2.1
    have c1 := hJ.c1
    have hq1 := hJ.1
    have hj : (bk s.1.2.2.2 (J.1.1 * 3 + lt))[j]? = some (bk s.1.2.2.2 (J.1.1 * 3 + lt))[j] := List.getElem?_eq_getElem (by omega)
    obtain ⟨m, hm, hk⟩ := bk_mem hj
    have hmv := (rr.1.mi hm).1
    have hzo := zI_oX hmv c1 (x := x) (by omega)
    have ih := sp_k d (s := s) (a := a) (b := b) (Nw := Nw) hJ hlt hx hx2 n (j + 1)
    -- this move, then those behind it
    refine OC_t (k1 := fun h1 => Rk B_Mt_spread L_Mt_spread (Cc (d + 3)) 9 [aR (some 83), aI (zI lt), aI (zI x), aI (zI ((bg s.1.2.2.2 (J.1.1 * 3 + lt) + (bk s.1.2.2.2 (J.1.1 * 3 + lt)).length : Nat) : Int)), aI (zI ((bg s.1.2.2.2 (J.1.1 * 3 + lt) + j : Nat) : Int)), aU] [] h1) (A := fun J' => ∃ c e, stp m J.1 x = some c ∧ stq s.2.1 J.2 lt x e ∧ J' = kj (c, e)) ?_ (fun h1 M1 N1 q1 mj1 => ?_) (fun J' => ?_) (B := fun J' => ∃ (k i : Nat) (m : Mv) (c e : Cfg), j + 1 ≤ k ∧ (bk s.1.2.2.2 (J.1.1 * 3 + lt))[k]? = some i ∧ s.1.2.2.2[i]? = some m ∧ stp m J.1 x = some c ∧ stq s.2.1 J.2 lt x e ∧ J' = kj (c, e))
    · have e0 : Rk B_Mt_spread L_Mt_spread (Cc (d + 3)) 5 [aR (some 83), aI (zI lt), aI (zI x), aI (zI ((bg s.1.2.2.2 (J.1.1 * 3 + lt) + (bk s.1.2.2.2 (J.1.1 * 3 + lt)).length : Nat) : Int)), aI (zI ((bg s.1.2.2.2 (J.1.1 * 3 + lt) + j : Nat) : Int)), aU] [] h = if oX (stp m J.1 x) < 0 then Rk B_Mt_spread L_Mt_spread (Cc (d + 3)) 9 [aR (some 83), aI (zI lt), aI (zI x), aI (zI ((bg s.1.2.2.2 (J.1.1 * 3 + lt) + (bk s.1.2.2.2 (J.1.1 * 3 + lt)).length : Nat) : Int)), aI (zI ((bg s.1.2.2.2 (J.1.1 * 3 + lt) + j : Nat) : Int)), aU] [] h else Rk B_Mt_spread L_Mt_spread (Cc (d + 3)) 7 [aR (some 83), aI (zI lt), aI (zI x), aI (zI ((bg s.1.2.2.2 (J.1.1 * 3 + lt) + (bk s.1.2.2.2 (J.1.1 * 3 + lt)).length : Nat) : Int)), aI (zI ((bg s.1.2.2.2 (J.1.1 * 3 + lt) + j : Nat) : Int)), aI (zI (oX (stp m J.1 x)))] [] h := by
        rw [E_Mt_spread_5]
        simp (disch := omega) only [nlt]
        rw [if_pos (by omega), E_Mt_spread_6, obj_e (z83 px.1), obj_e (z83 px.1), obj_e (z83 px.1), px.r (a := 83) (j := 4) (c := 1) (by decide), obj_e rr.2.1.1, calI_e (Rd_moveAt _ rr (by omega) hj), obj_e rr.2.1.1, mj.1, calI_e (Rd_after _ rr c1 hm (by omega)), lt_e]
        simp (disch := omega) only [ylt0]
      rw [e0]
      cases st : stp m J.1 x with
      | none =>
        exact OC_0 q mj (by rw [if_pos (by decide)]) (fun J' ⟨c, e, h1, _⟩ => by cases h1)
      | some c =>
        have hst : stq s.1 J.1 lt x c := ⟨_, m, hm, ((key_iff hmv.2.1 hlt).mp hk).1, ((key_iff hmv.2.1 hlt).mp hk).2, st⟩
        have so := Mt_spreadOther d (k := fun h1 => Rk B_Mt_spread L_Mt_spread (Cc (d + 3)) 9 [aR (some 83), aI (zI lt), aI (zI x), aI (zI ((bg s.1.2.2.2 (J.1.1 * 3 + lt) + (bk s.1.2.2.2 (J.1.1 * 3 + lt)).length : Nat) : Int)), aI (zI ((bg s.1.2.2.2 (J.1.1 * 3 + lt) + j : Nat) : Int)), aU] [] h1) hJ hlt hx hx2 hst q mj
        rw [oX_some, if_neg (by omega), E_Mt_spread_7, obj_e (z83 px.1)]
        have e8 : ∀ h2, Rk B_Mt_spread L_Mt_spread (Cc (d + 3)) 8 [aU, aU, aU, aU, aU, aU] [] h2 = some (some (aI (zI 1)), h2) := fun h2 => by rw [E_Mt_spread_8, fr1]
        simp only [e8]
        have : (fun J' => ∃ c' e, some c = some c' ∧ stq s.2.1 J.2 lt x e ∧ J' = kj (c', e)) = (fun J' => ∃ e, stq s.2.1 J.2 lt x e ∧ J' = kj (c, e)) := by
          funext J'
          apply propext
          constructor
          · rintro ⟨c', e, h1, h2⟩; cases h1; exact ⟨e, h2⟩
          · rintro ⟨e, h2⟩; exact ⟨c, e, rfl, h2⟩
        rw [this]
        exact so
    · rw [E_Mt_spread_9, nadd1, lt_e]
      exact ih h1 M1 N1 (by omega) q1 mj1
    · constructor
      · rintro ⟨k, i, m', c, e, h1, h2, h3, h4⟩
        by_cases w : k = j
        · subst w
          rw [hj] at h2
          cases h2
          rw [hm] at h3
          cases h3
          exact Or.inl ⟨c, e, h4⟩
        · exact Or.inr ⟨k, i, m', c, e, by omega, h2, h3, h4⟩
      · rintro (⟨c, e, h4⟩ | ⟨k, i, m', c, e, h1, h2⟩)
        · exact ⟨j, _, m, c, e, Nat.le_refl _, hj, hm, h4⟩
        · exact ⟨k, i, m', c, e, by omega, h2⟩
theorem OC_c {s : Stt} {a b : Nat} {M Nw N : Jc → Prop} {J : Jc} {h : AH} {lhs : Option AR} {k : AH → Option AR} {A B : Jc → Prop} (o : OC s a b M Nw N J h lhs k A) (e : ∀ J, A J ↔ B J) : OC s a b M Nw N J h lhs k B := by
  have : A = B := funext fun J => propext (e J)
  rw [← this]; exact o
theorem sp_x (d : Nat) {s : Stt} {a b lt : Nat} {Nw : Jc → Prop} {J : Jc} (hJ : JV J) (hlt : lt < 3) : ∀ (n x : Nat) (h : AH) (M N : Jc → Prop), x + n = tJ J + 2 → 1 ≤ x → MtQ s h a b M Nw N → MJ h J →
    OC s a b M Nw N J h (Rk B_Mt_spread L_Mt_spread (Cc (d + 3)) 3 [aR (some 83), aI (zI lt), aI (zI x), aU, aU, aU] [] h) (fun h' => Rk B_Mt_spread L_Mt_spread (Cc (d + 3)) 11 [aR (some 83), aI (zI lt), aU, aU, aU, aU] [] h') (fun J' => ∃ x' c e, x ≤ x' ∧ x' ≤ tJ J + 1 ∧ stq s.1 J.1 lt x' c ∧ stq s.2.1 J.2 lt x' e ∧ J' = kj (c, e))
  | 0, x, h, M, N, hn, hx, q, mj => by
    have hb := hJ.b
    refine OC_0 q mj ?_ (fun J' ⟨x', c, e, h1, h2, _⟩ => by omega)
    rw [E_Mt_spread_3, obj_e (z83 q.1.1), mj.2.2]
    simp (disch := omega) only [nle]
    rw [if_neg (by omega)]
  | n + 1, x, h, M, N, hn, hx, q, mj => by
    have px := q.1
    have rr := px.2.2.1
    have hb := hJ.b
    have c1 := hJ.c1
    have conv : ∀ c, stq s.1 J.1 lt x c ↔ ∃ (k i : Nat) (m : Mv), 0 ≤ k ∧ (bk s.1.2.2.2 (J.1.1 * 3 + lt))[k]? = some i ∧ s.1.2.2.2[i]? = some m ∧ stp m J.1 x = some c := by
      intro e
      constructor
      · rintro ⟨i, m, k1, k2, k3, k4⟩
        obtain ⟨k, hk⟩ := bk_iff.mpr ⟨m, k1, (key_iff (rr.1.mi k1).1.2.1 hlt).mpr ⟨k2, k3⟩⟩
        exact ⟨k, i, m, Nat.zero_le _, hk, k1, k4⟩
      · rintro ⟨k, i, m, -, k1, k2, k3⟩
        obtain ⟨m', hm', km⟩ := bk_mem k1
        rw [k2] at hm'
        cases hm'
        have := (key_iff (rr.1.mi k2).1.2.1 hlt).mp km
        exact ⟨i, m, k2, this.1, this.2, k3⟩
    have o1 := sp_k d (a := a) (b := b) (Nw := Nw) hJ hlt hx (by omega) (bk s.1.2.2.2 (J.1.1 * 3 + lt)).length 0 h M N (by omega) q mj
    have e0 : Rk B_Mt_spread L_Mt_spread (Cc (d + 3)) 3 [aR (some 83), aI (zI lt), aI (zI x), aU, aU, aU] [] h = Rk B_Mt_spread L_Mt_spread (Cc (d + 3)) 5 [aR (some 83), aI (zI lt), aI (zI x), aI (zI ((bg s.1.2.2.2 (J.1.1 * 3 + lt) + (bk s.1.2.2.2 (J.1.1 * 3 + lt)).length : Nat) : Int)), aI (zI ((bg s.1.2.2.2 (J.1.1 * 3 + lt) + 0 : Nat) : Int)), aU] [] h := by
      rw [E_Mt_spread_3, obj_e (z83 px.1), mj.2.2]
      simp (disch := omega) only [nle]
      rw [if_pos (by omega), E_Mt_spread_4, obj_e (z83 px.1), obj_e (z83 px.1), px.r (a := 83) (j := 4) (c := 1) (by decide), obj_e rr.2.1.1, mj.1, calI_e (Rd_end _ rr (eX_lt c1) hlt), lt_e, obj_e (z83 px.1), obj_e (z83 px.1), px.r (a := 83) (j := 4) (c := 1) (by decide), obj_e rr.2.1.1, mj.1, calI_e (Rd_begin _ rr (eX_lt c1) hlt), lt_e, eX_q c1]
      rfl
    rw [e0]
    refine OC_t o1 (fun h1 M1 N1 q1 mj1 => ?_) (fun J' => ?_) (B := fun J' => ∃ x' c e, x + 1 ≤ x' ∧ x' ≤ tJ J + 1 ∧ stq s.1 J.1 lt x' c ∧ stq s.2.1 J.2 lt x' e ∧ J' = kj (c, e))
    · rw [E_Mt_spread_10, nadd1, lt_e]
      exact sp_x d hJ hlt n (x + 1) h1 M1 N1 (by omega) (by omega) q1 mj1
    · constructor
      · rintro ⟨x', c, e, h1, h2, h3, h4, h5⟩
        by_cases w : x' = x
        · subst w
          obtain ⟨k, i, m, k0, k1, k2, k3⟩ := (conv c).mp h3
          exact Or.inl ⟨k, i, m, c, e, k0, k1, k2, k3, h4, h5⟩
        · exact Or.inr ⟨x', c, e, by omega, h2, h3, h4, h5⟩
      · rintro (⟨k, i, m, c, e, k0, k1, k2, k3, h4, h5⟩ | ⟨x', c, e, h1, h2⟩)
        · exact ⟨x, c, e, Nat.le_refl _, by omega, (conv c).mpr ⟨k, i, m, k0, k1, k2, k3⟩, h4, h5⟩
        · exact ⟨x', c, e, by omega, h2⟩
theorem sp_l (d : Nat) {s : Stt} {a b : Nat} {Nw : Jc → Prop} {J : Jc} (hJ : JV J) : ∀ (n lt : Nat) (h : AH) (M N : Jc → Prop), lt + n = 3 → MtQ s h a b M Nw N → MJ h J →
    OC s a b M Nw N J h (Rk B_Mt_spread L_Mt_spread (Cc (d + 3)) 1 [aR (some 83), aI (zI lt), aU, aU, aU, aU] [] h) (fun h' => some (some (aI (zI 0)), h')) (fun J' => ∃ l x c e, lt ≤ l ∧ l < 3 ∧ 1 ≤ x ∧ x ≤ tJ J + 1 ∧ stq s.1 J.1 l x c ∧ stq s.2.1 J.2 l x e ∧ J' = kj (c, e))
  | 0, lt, h, M, N, hn, q, mj => by
    refine OC_0 q mj ?_ (fun J' ⟨l, x', c, e, h1, h2, _⟩ => by omega)
    rw [E_Mt_spread_1, zc3]
    simp (disch := omega) only [nlt]
    rw [if_neg (by omega), E_Mt_spread_12, fr0]
  | n + 1, lt, h, M, N, hn, q, mj => by
    have e0 : Rk B_Mt_spread L_Mt_spread (Cc (d + 3)) 1 [aR (some 83), aI (zI lt), aU, aU, aU, aU] [] h = Rk B_Mt_spread L_Mt_spread (Cc (d + 3)) 3 [aR (some 83), aI (zI lt), aI (zI ((1 : Nat) : Int)), aU, aU, aU] [] h := by
      rw [E_Mt_spread_1, zc3]
      simp (disch := omega) only [nlt]
      rw [if_pos (by omega), E_Mt_spread_2, lt_e]
      rfl
    rw [e0]
    refine OC_t (sp_x d hJ (lt := lt) (by omega) (tJ J + 1) 1 h M N (by omega) (by omega) q mj) (fun h1 M1 N1 q1 mj1 => ?_) (fun J' => ?_) (B := fun J' => ∃ l x c e, lt + 1 ≤ l ∧ l < 3 ∧ 1 ≤ x ∧ x ≤ tJ J + 1 ∧ stq s.1 J.1 l x c ∧ stq s.2.1 J.2 l x e ∧ J' = kj (c, e))
    · rw [E_Mt_spread_11, nadd1, lt_e]
      exact sp_l d hJ n (lt + 1) h1 M1 N1 (by omega) q1 mj1
    · constructor
      · rintro ⟨l, x, c, e, h1, h2, h3⟩
        by_cases w : l = lt
        · subst w; exact Or.inl ⟨x, c, e, h3⟩
        · exact Or.inr ⟨l, x, c, e, by omega, h2, h3⟩
      · rintro (⟨x, c, e, h3⟩ | ⟨l, x, c, e, h1, h2⟩)
        · exact ⟨lt, x, c, e, Nat.le_refl _, by omega, h3⟩
        · exact ⟨l, x, c, e, by omega, h2⟩
theorem Mt_spread (d : Nat) {s : Stt} {h : AH} {a b : Nat} {M Nw N : Jc → Prop} {J : Jc} (hJ : JV J) (q : MtQ s h a b M Nw N) (mj : MJ h J) : OC s a b M Nw N J h (Cc (d + 4) k_Mt_spread [aR (some 83)] h) (fun h' => some (some (aI (zI 0)), h')) (jst s.1 s.2.1 J) := by
  have o := sp_l d (a := a) (b := b) (Nw := Nw) hJ 3 0 h M N (by omega) q mj
  rw [C_Mt_spread, E_Mt_spread_0, lt_e]
  exact OC_c o (fun J' => ⟨fun ⟨l, x, c, e, _, h2, h3, h4, h5, h6, h7⟩ => ⟨l, x, c, e, h2, h3, h4, h5, h6, h7⟩, fun ⟨l, x, c, e, h2, h3, h4, h5, h6, h7⟩ => ⟨l, x, c, e, Nat.zero_le _, h2, h3, h4, h5, h6, h7⟩⟩)
noncomputable def nwS (P : Jc → Prop) (t : Nat) : Bool := bl (∃ J, JV J ∧ P J ∧ t = pl J)
theorem JS_n {S : Nat → Bool} {P : Jc → Prop} (h : JS S P) : S = nwS P := by
  funext t
  rw [Bool.eq_iff_iff, h t]
  unfold nwS
  rw [bl_t]
theorem MtQ_83 {s : Stt} {h h' : AH} {a b : Nat} {M Nw N : Jc → Prop} (q : MtQ s h a b M Nw N) (f : fr (fun b => b = 83) h h') (hr : ∀ a j, hR h' a j = hR h a j) : MtQ s h' a b M Nw N := by
  obtain ⟨px, r1, r2, hab, ⟨S, sp, js⟩, ⟨Sa, spa, jsa⟩, ⟨Sb, spb, jsb⟩⟩ := q
  have n : ∀ c, (c = 84 ∨ c = 87 ∨ c = 90) → ∀ b, spF c b → ¬ b = 83 := fun c hc b hb => by unfold spF at hb; omega
  have sp' := sp.fr f (n 84 (by omega))
  have spa' := spa.fr f (n a (by omega))
  have spb' := spb.fr f (n b (by omega))
  exact ⟨XI_sc px f (fun b hb => by unfold nI'; omega) hr, by rw [hr]; exact r1, by rw [hr]; exact r2, hab, ⟨S, sp', js⟩, ⟨Sa, spa', jsa⟩, ⟨Sb, spb', jsb⟩⟩
theorem lv_lp (d : Nat) {s : Stt} {a b len : Nat} {Nw : Jc → Prop} (hlen : len < 2147483648) : ∀ (n f : Nat) (h : AH) (M N : Jc → Prop), (els (nwS Nw) 31572 f).length = n → MtQ s h a b M Nw N →
    ∃ h', fr mtF h h' ∧ XI s h' ∧ ((Rk B_Mt_shortest L_Mt_shortest (Cc (d + 4)) 7 [aR (some 83), aI (zI len), aI (zI (hd (els (nwS Nw) 31572 f))), aI (zI n)] [] h = some (some (aI (zI len)), h') ∧ ∃ J J', Nw J ∧ jst s.1 s.2.1 J J' ∧ jtk s.1 s.2.1 J') ∨ (Rk B_Mt_shortest L_Mt_shortest (Cc (d + 4)) 7 [aR (some 83), aI (zI len), aI (zI (hd (els (nwS Nw) 31572 f))), aI (zI n)] [] h = Rk B_Mt_shortest L_Mt_shortest (Cc (d + 4)) 12 [aR (some 83), aI (zI len), aU, aU] [] h' ∧ (∀ J J', JV J → Nw J → f ≤ pl J → jst s.1 s.2.1 J J' → ¬ jtk s.1 s.2.1 J') ∧ ∃ M' N', AdS M N (fun J' => ∃ J, JV J ∧ Nw J ∧ f ≤ pl J ∧ jst s.1 s.2.1 J J') M' N' ∧ MtQ s h' a b M' Nw N')) := by
  intro n
  induction n with
  | zero =>
    intro f h M N hn q
    have no : ∀ J, JV J → Nw J → f ≤ pl J → False := by
      intro J h1 h2 h3
      have : pl J ∈ els (nwS Nw) 31572 f := els_mem.mpr ⟨h3, pl_lt h1, by unfold nwS; exact bl_t.mpr ⟨J, h1, h2, rfl⟩⟩
      rw [List.eq_nil_of_length_eq_zero hn] at this
      simp at this
    refine ⟨h, fr.rf _ h, q.1, Or.inr ⟨?_, fun J J' h1 h2 h3 => (no J h1 h2 h3).elim, M, N, AdS_0 M N (fun J' ⟨J, h1, h2, h3, _⟩ => no J h1 h2 h3), q⟩⟩
    rw [E_Mt_shortest_7, if_pos (by decide)]
  | succ n ih =>
    intro f h M N hn q
    match hels : els (nwS Nw) 31572 f, hn with
    | u :: rest, hn =>
      obtain ⟨u1, u2, u3, u4⟩ := els_head hels
      obtain ⟨J, hJ, nJ, uJ⟩ := bl_t.mp (show bl (∃ J, JV J ∧ Nw J ∧ u = pl J) = true from u3)
      have hn2 : n ≤ 31572 := by
        have h1 : (els (nwS Nw) 31572 f).length ≤ 31572 - f := by unfold els; exact Nat.le_trans (List.length_filter_le _ _) (by simp)
        rw [hels, hn] at h1
        omega
      have px := q.1
      obtain ⟨h1, e1, f1, r1, i6, i7, i8⟩ := Mt_comeTo (d + 2) px hJ
      have q1 := MtQ_83 q f1 r1
      have g1 : fr mtF h h1 := f1.mo (fun b hb => by unfold mtF; omega)
      obtain ⟨h2, f2, x2, alt⟩ := Mt_spread d hJ q1 ⟨i6, i7, i8⟩
      have e0 : ∀ v : Int32, ∀ h2, Cc (d + 4) k_Mt_spread [aR (some 83)] h1 = some (some (aI v), h2) → Rk B_Mt_shortest L_Mt_shortest (Cc (d + 4)) 7 [aR (some 83), aI (zI len), aI (zI (hd (u :: rest))), aI (zI ((n + 1 : Nat) : Int))] [] h = if v = 0 then Rk B_Mt_shortest L_Mt_shortest (Cc (d + 4)) 11 [aR (some 83), aI (zI len), aI (zI u), aI (zI ((n + 1 : Nat) : Int))] [] h2 else some (some (aI (zI len)), h2) := by
        intro v h2 hv
        rw [E_Mt_shortest_7]
        simp (disch := omega) only [nle0]
        rw [if_neg (by omega), E_Mt_shortest_8, show hd (u :: rest) = ((u : Nat) : Int) from rfl]
        simp (disch := omega) only [nlt0, if_false]
        rw [E_Mt_shortest_9, obj_e (z83 px.1), uJ, calV_e e1, obj_e (z83 q1.1.1), calI_e hv, E_Mt_shortest_10]
      rcases alt with ⟨e2, J', j1, j2⟩ | ⟨e2, no, M1, N1, as1, q2, -⟩
      · refine ⟨h2, g1.tr f2, x2, Or.inl ⟨?_, J, J', nJ, j1, j2⟩⟩
        rw [e0 _ _ e2, if_neg (by decide)]
      · have hr : (els (nwS Nw) 31572 (u + 1)).length = n := by rw [← u4]; simpa using hn
        obtain ⟨h3, f3, x3, alt3⟩ := ih (u + 1) h2 M1 N1 hr q2
        refine ⟨h3, g1.tr (f2.tr f3), x3, ?_⟩
        have e00 : Rk B_Mt_shortest L_Mt_shortest (Cc (d + 4)) 7 [aR (some 83), aI (zI len), aI (zI (hd (u :: rest))), aI (zI ((n + 1 : Nat) : Int))] [] h = Rk B_Mt_shortest L_Mt_shortest (Cc (d + 4)) 7 [aR (some 83), aI (zI len), aI (zI (hd (els (nwS Nw) 31572 (u + 1)))), aI (zI n)] [] h2 := by
          obtain ⟨px2, r12, r22, hab, -, ⟨Sa, spa, jsa⟩, -⟩ := q2
          rw [JS_n jsa] at spa
          rw [e0 _ _ e2, if_pos zI_0.symm, E_Mt_shortest_11, obj_e (z83 px2.1), r12, obj_e spa.1.1, nadd1, calI_e (Sp_next _ spa (by omega)), lt_e, lt_e, ndec (by omega), Nat.add_sub_cancel]
        rw [e00]
        have split : ∀ J1, JV J1 → Nw J1 → f ≤ pl J1 → J1 = J ∨ u + 1 ≤ pl J1 := by
          intro J1 v1 n1 l1
          by_cases w : pl J1 = u
          · exact Or.inl (pl_inj v1 hJ (by rw [w, uJ]))
          · have : pl J1 ∈ els (nwS Nw) 31572 f := els_mem.mpr ⟨l1, pl_lt v1, by unfold nwS; exact bl_t.mpr ⟨J1, v1, n1, rfl⟩⟩
            rw [hels] at this
            rcases List.mem_cons.mp this with y | y
            · exact absurd y w
            · rw [u4] at y
              exact Or.inr (els_mem.mp y).1
        rcases alt3 with ⟨e3, w⟩ | ⟨e3, no3, M2, N2, as2, q3⟩
        · exact Or.inl ⟨e3, w⟩
        · refine Or.inr ⟨e3, ?_, M2, N2, AdS_t as1 as2 (fun J' => ?_), q3⟩
          · intro J1 J' v1 n1 l1 s1
            rcases split J1 v1 n1 l1 with w | w
            · rw [w] at s1; exact no J' s1
            · exact no3 J1 J' v1 n1 w s1
          · constructor
            · rintro ⟨J1, v1, n1, l1, s1⟩
              rcases split J1 v1 n1 l1 with w | w
              · rw [w] at s1; exact Or.inl s1
              · exact Or.inr ⟨J1, v1, n1, w, s1⟩
            · rintro (s1 | ⟨J1, v1, n1, l1, s1⟩)
              · exact ⟨J, hJ, nJ, by rw [← uJ]; exact u1, s1⟩
              · exact ⟨J1, v1, n1, by omega, s1⟩
theorem jD_dn {r o : Rdr} {n : Nat} : ∀ (j : Nat) (J : Jc), jD r o j J → n ≤ j → ∃ J', jD r o n J'
  | 0, J, h, hn => by
    have : n = 0 := by omega
    subst this
    exact ⟨J, h⟩
  | j + 1, J, h, hn => by
    by_cases z : n = j + 1
    · subst z; exact ⟨J, h⟩
    · obtain ⟨J1, h1, -⟩ := jD_p h
      exact jD_dn j J1 h1 (by omega)
theorem XI_sw83 {s : Stt} {h : AH} {a b : Nat} {M Nw N : Jc → Prop} (q : MtQ s h a b M Nw N) : MtQ s (sR (sR h 83 1 (some b)) 83 2 (some a)) b a M N Nw := by
  obtain ⟨px, r1, r2, hab, ⟨S, sp, js⟩, ⟨Sa, spa, jsa⟩, ⟨Sb, spb, jsb⟩⟩ := q
  have f : fr (fun b => b = 83) h (sR (sR h 83 1 (some b)) 83 2 (some a)) := (fr_sR (F := fun b => b = 83) h rfl _ _).tr (fr_sR (F := fun b => b = 83) _ rfl _ _)
  have n : ∀ c, (c = 84 ∨ c = 87 ∨ c = 90) → ∀ b, spF c b → ¬ b = 83 := fun c hc b hb => by unfold spF at hb; omega
  have e1 : hR (sR (sR h 83 1 (some b)) 83 2 (some a)) 83 1 = some b := by rw [hR_off (by omega), hR_hit]
  have e2 : hR (sR (sR h 83 1 (some b)) 83 2 (some a)) 83 2 = some a := hR_hit _ _ _ _
  have hab' : (b = 87 ∧ a = 90) ∨ (b = 90 ∧ a = 87) := by omega
  refine ⟨?_, e1, e2, hab', ⟨S, sp.fr f (n 84 (by omega)), js⟩, ⟨Sb, spb.fr f (n b (by omega)), jsb⟩, ⟨Sa, spa.fr f (n a (by omega)), jsa⟩⟩
  obtain ⟨-, p2, -, -, -, -, -, -, ⟨S2, b2⟩, ⟨S3, b3⟩, ⟨S4, b4⟩, -, -, -, -, -, -⟩ := id px
  refine XI_mt px (f.mo (fun b hb => by unfold mtF; omega)) (p2.mv (fun t ht => ?_)) (prr_ab e1 e2 hab') ⟨S2, b2.fr f (n _ (by omega))⟩ ⟨S3, b3.fr f (n _ (by omega))⟩ ⟨S4, b4.fr f (n _ (by omega))⟩
  have : ∀ t, t ∈ XRefs → t.1 ≠ 83 ∨ (t.2.1 ≠ 1 ∧ t.2.1 ≠ 2) := by decide
  have := this t ht
  rw [hR_off (by omega), hR_off (by omega)]
def MtP (s : Stt) (h : AH) (a b : Nat) (M Nw : Jc → Prop) : Prop := XI s h ∧ hR h 83 1 = some a ∧ hR h 83 2 = some b ∧ ((a = 87 ∧ b = 90) ∨ (a = 90 ∧ b = 87)) ∧ (∃ S, SP h 84 31572 S ∧ JS S M) ∧ (∃ S, SP h a 31572 S ∧ JS S Nw) ∧ ∃ S, SP h b 31572 S
theorem MtQ.p {s : Stt} {h : AH} {a b : Nat} {M Nw N : Jc → Prop} (q : MtQ s h a b M Nw N) : MtP s h a b M Nw := by
  obtain ⟨px, r1, r2, hab, q1, q2, ⟨Sb, spb, jsb⟩⟩ := q
  exact ⟨px, r1, r2, hab, q1, q2, ⟨Sb, spb⟩⟩
theorem sh_lp (d : Nat) {s : Stt} : ∀ (k n : Nat) (h : AH) (a b : Nat), n + k = 31572 → MtP s h a b (fun J => ∃ i, i ≤ n ∧ jD s.1 s.2.1 i J) (jD s.1 s.2.1 n) → (∀ i J, i ≤ n → jR s.1 s.2.1 i J → ¬ jtk s.1 s.2.1 J) →
    ∃ h' v, Rk B_Mt_shortest L_Mt_shortest (Cc (d + 4)) 4 [aR (some 83), aI (zI ((n + 1 : Nat) : Int)), aU, aU] [] h = some (some (aI (zI v)), h') ∧ fr mtF h h' ∧ XI s h' ∧ mnv (fun n => ∃ J, jR s.1 s.2.1 n J ∧ jtk s.1 s.2.1 J) v := by
  have done : ∀ (n : Nat), (∀ J, ¬ jD s.1 s.2.1 n J) → (∀ i J, i ≤ n → jR s.1 s.2.1 i J → ¬ jtk s.1 s.2.1 J) → mnv (fun n => ∃ J, jR s.1 s.2.1 n J ∧ jtk s.1 s.2.1 J) (-1) := by
    intro n hD hno
    refine Or.inl ⟨rfl, ?_⟩
    rintro k ⟨J, h1, h2⟩
    obtain ⟨i, hi, hDi⟩ := jD_ex k h1
    rcases Nat.lt_or_ge i n with w | w
    · exact hno i J (by omega) hDi.1 h2
    · obtain ⟨J', hJ'⟩ := jD_dn i J hDi w
      exact hD J' hJ'
  intro k
  induction k with
  | zero =>
    intro n h a b hk q hno
    have px := q.1
    refine ⟨h, -1, ?_, fr.rf _ h, px, done n (fun J hJ => ?_) hno⟩
    · rw [E_Mt_shortest_4, show zI 31572 = zI ((31572 : Nat) : Int) from rfl]
      simp (disch := omega) only [nle]
      rw [if_neg (by omega), E_Mt_shortest_13]
    · have := jD_lt px.2.2.1.1 px.2.2.2.1.1 n J hJ
      omega
  | succ k ih =>
    intro n h a b hk q hno
    obtain ⟨px, r1, r2, hab, ⟨S, sp, js⟩, ⟨Sa, spa, jsa⟩, ⟨Sb, spb⟩⟩ := id q
    rw [JS_n jsa] at spa
    have hcn := cn_le (nwS (jD s.1 s.2.1 n)) 31572
    have e0 : Rk B_Mt_shortest L_Mt_shortest (Cc (d + 4)) 4 [aR (some 83), aI (zI ((n + 1 : Nat) : Int)), aU, aU] [] h = if cn (nwS (jD s.1 s.2.1 n)) 31572 = 0 then some (some (aI (zI (-1))), h) else Rk B_Mt_shortest L_Mt_shortest (Cc (d + 4)) 6 [aR (some 83), aI (zI ((n + 1 : Nat) : Int)), aU, aU] [] h := by
      rw [E_Mt_shortest_4, show zI 31572 = zI ((31572 : Nat) : Int) from rfl]
      simp (disch := omega) only [nle]
      rw [if_pos (by omega), E_Mt_shortest_5, obj_e (z83 px.1), r1, obj_e spa.1.1, calI_e (Sp_size _ spa), E_Mt_shortest_13]
      simp (disch := omega) only [nle0]
    by_cases z : cn (nwS (jD s.1 s.2.1 n)) 31572 = 0
    · rw [if_pos z] at e0
      refine ⟨h, -1, e0, fr.rf _ h, px, done n (fun J hJ => ?_) hno⟩
      have hv := jR_v px.2.2.1.1 px.2.2.2.1.1 n J hJ.1
      have := cn_zero z (pl J) (pl_lt hv)
      unfold nwS at this
      rw [bl_f] at this
      exact this ⟨J, hv, hJ, rfl⟩
    · rw [if_neg z] at e0
      obtain ⟨h1, e1, f1, sp1⟩ := Sp_clear (d + 1) spb
      have px1 := XI_sp2 px (by omega) f1 sp1
      have m83 : ¬ spF b 83 := by unfold spF; omega
      have spa1 := spa.fr f1 (fun b' hb' => by unfold spF at *; omega)
      have q1 : MtQ s h1 a b (fun J => ∃ i, i ≤ n ∧ jD s.1 s.2.1 i J) (jD s.1 s.2.1 n) (fun _ => False) := ⟨px1, by rw [f1.R m83]; exact r1, by rw [f1.R m83]; exact r2, hab, ⟨S, sp.fr f1 (fun b' hb' => by unfold spF at *; omega), js⟩, ⟨_, spa1, by rw [← JS_n jsa]; exact jsa⟩, ⟨_, sp1, (fun t => ⟨(fun w => by cases w), fun ⟨J, _, w, _⟩ => w.elim⟩)⟩⟩
      have g1 : fr mtF h h1 := f1.mo (fun b' hb => by unfold spF at hb; unfold mtF; omega)
      obtain ⟨h2, f2, x2, alt⟩ := lv_lp d (len := n + 1) (Nw := jD s.1 s.2.1 n) (by omega) _ 0 h1 _ _ rfl q1
      have e6 : Rk B_Mt_shortest L_Mt_shortest (Cc (d + 4)) 6 [aR (some 83), aI (zI ((n + 1 : Nat) : Int)), aU, aU] [] h = Rk B_Mt_shortest L_Mt_shortest (Cc (d + 4)) 7 [aR (some 83), aI (zI ((n + 1 : Nat) : Int)), aI (zI (hd (els (nwS (jD s.1 s.2.1 n)) 31572 0))), aI (zI ((els (nwS (jD s.1 s.2.1 n)) 31572 0).length : Int))] [] h1 := by
        rw [E_Mt_shortest_6, obj_e (z83 px.1), r2, obj_e spb.1.1, calV_e e1, obj_e (z83 px1.1), q1.2.1, obj_e spa1.1.1, zc0, calI_e (Sp_next _ spa1 (by omega)), lt_e, obj_e (z83 px1.1), q1.2.1, obj_e spa1.1.1, calI_e (Sp_size _ spa1), lt_e, els_cn]
      rcases alt with ⟨e2, J, J', j1, j2, j3⟩ | ⟨e2, no, M', N', as1, q2⟩
      · refine ⟨h2, ((n + 1 : Nat) : Int), by rw [e0, e6, e2], g1.tr f2, x2, Or.inr ⟨n + 1, rfl, ⟨J', ⟨J, j1.1, j2⟩, j3⟩, ?_⟩⟩
        rintro k' ⟨J2, w1, w2⟩
        rcases Nat.lt_or_ge n k' with w | w
        · exact w
        · exact absurd w2 (hno k' J2 w w1)
      · have hv1 := px.2.2.1.1
        have hv2 := px.2.2.2.1.1
        have q3 := XI_sw83 q2
        have hM : ∀ J, M' J ↔ ∃ i, i ≤ n + 1 ∧ jD s.1 s.2.1 i J := by
          intro J
          rw [as1.1 J]
          constructor
          · rintro (⟨i, w1, w2⟩ | ⟨J1, w1, w2, w3, w4⟩)
            · exact ⟨i, by omega, w2⟩
            · obtain ⟨i, w5, w6⟩ := jD_ex (n + 1) ⟨J1, w2.1, w4⟩
              exact ⟨i, w5, w6⟩
          · rintro ⟨i, w1, w2⟩
            by_cases y : i ≤ n
            · exact Or.inl ⟨i, y, w2⟩
            · have : i = n + 1 := by omega
              subst this
              obtain ⟨J1, w3, w4⟩ := jD_p w2
              exact Or.inr ⟨J1, jR_v hv1 hv2 n J1 w3.1, w3, Nat.zero_le _, w4⟩
        have hN : ∀ J, N' J ↔ jD s.1 s.2.1 (n + 1) J := by
          intro J
          rw [as1.2 J]
          constructor
          · rintro (w | ⟨⟨J1, w1, w2, w3, w4⟩, w5⟩)
            · exact w.elim
            · obtain ⟨i, w6, w7⟩ := jD_ex (n + 1) ⟨J1, w2.1, w4⟩
              by_cases y : i = n + 1
              · rw [← y]; exact w7
              · exact absurd ⟨i, by omega, w7⟩ w5
          · intro w2
            obtain ⟨J1, w3, w4⟩ := jD_p w2
            refine Or.inr ⟨⟨J1, jR_v hv1 hv2 n J1 w3.1, w3, Nat.zero_le _, w4⟩, ?_⟩
            rintro ⟨i, w5, w6⟩
            have := jD_u w2 w6
            omega
        rw [show M' = (fun J => ∃ i, i ≤ n + 1 ∧ jD s.1 s.2.1 i J) from funext fun J => propext (hM J), show N' = jD s.1 s.2.1 (n + 1) from funext fun J => propext (hN J)] at q3
        have g3 : fr mtF h2 (sR (sR h2 83 1 (some b)) 83 2 (some a)) := (fr_sR (F := mtF) h2 (by unfold mtF; omega) _ _).tr (fr_sR (F := mtF) _ (by unfold mtF; omega) _ _)
        obtain ⟨h4, v, e4, f4, x4, mv⟩ := ih (n + 1) _ b a (by omega) q3.p (by
          intro i J hi hJ ht
          by_cases y : i ≤ n
          · exact hno i J y hJ ht
          · have : i = n + 1 := by omega
            subst this
            obtain ⟨J1, w1, w2⟩ := hJ
            obtain ⟨i, w3, w4⟩ := jD_ex n w1
            by_cases y2 : i = n
            · subst y2
              exact no J1 J (jR_v hv1 hv2 _ J1 w1) w4 (Nat.zero_le _) w2 ht
            · exact hno (i + 1) J (by omega) ⟨J1, w4.1, w2⟩ ht)
        refine ⟨h4, v, ?_, g1.tr (f2.tr (g3.tr f4)), x4, mv⟩
        rw [e0, e6, e2, E_Mt_shortest_12, obj_e (z83 q2.1.1), obj_e (z83 q2.1.1), obj_e (z83 q2.1.1), mb_some, obj_sR, obj_e (z83 q2.1.1), mb_some, q2.2.1, q2.2.2.1, nadd1, lt_e]
        exact e4
theorem X_both : XOK k_X_both [] bthA id := by
  intro s h p
  have rr := p.2.2.1
  have ro := p.2.2.2.1
  have hb0 : ∀ v : Int, mnv (fun n => ∃ J, jR s.1 s.2.1 n J ∧ jtk s.1 s.2.1 J) v → bthA s = v := fun v hv => mnV_e hv
  have e0 : Cc 60 k_X_both [aR (some 0)] h = calI (Cc 59 k_Mt_shortest [aR (some 83)] h) fun v2 h3 => some (some (aI v2), h3) := by
    rw [C_X_both, E_X_both_0, obj_e p.o, p.r (a := 0) (j := 10) (c := 83) (by decide), obj_e (z83 p.1)]
  have c0x : (0 : Nat) = eX c0 := rfl
  have t0 : ∀ (a : Nat) (r : Rdr), RD h a r → Cc 58 k_Rd_takesAt [aR (some a), aI (zI 0)] h = some (some (aI (zI (if tks r 0 then 1 else 0))), h) := fun a r rd => Rd_takesAt 57 rd (s := 0) (by omega)
  by_cases z : jtk s.1 s.2.1 j0
  · refine ⟨h, ?_, fr.rf _ h, p⟩
    rw [e0, hb0 0 (Or.inr ⟨0, rfl, ⟨j0, rfl, z⟩, fun k _ => Nat.zero_le k⟩), C_Mt_shortest, E_Mt_shortest_0, obj_e (z83 p.1), p.r (a := 83) (j := 4) (c := 1) (by decide), obj_e rr.2.1.1, calI_e (t0 _ _ rr), show tks s.1 0 = true from z.1, if_pos rfl, if_neg (by decide), E_Mt_shortest_1, obj_e (z83 p.1), p.r (a := 83) (j := 5) (c := 5) (by decide), obj_e ro.2.1.1, calI_e (t0 _ _ ro), show tks s.2.1 0 = true from z.2, if_pos rfl, if_neg (by decide), E_Mt_shortest_2]
    rfl
  · have e3 : Cc 59 k_Mt_shortest [aR (some 83)] h = Rk B_Mt_shortest L_Mt_shortest (Cc 58) 3 [aR (some 83), aU, aU, aU] [] h := by
      rw [C_Mt_shortest, E_Mt_shortest_0, obj_e (z83 p.1), p.r (a := 83) (j := 4) (c := 1) (by decide), obj_e rr.2.1.1, calI_e (t0 _ _ rr)]
      cases t1 : tks s.1 0 with
      | false => rw [if_neg (show ¬ (false = true) by simp), if_pos zI_0.symm]
      | true =>
        rw [if_pos rfl, if_neg (by decide), E_Mt_shortest_1, obj_e (z83 p.1), p.r (a := 83) (j := 5) (c := 5) (by decide), obj_e ro.2.1.1, calI_e (t0 _ _ ro)]
        cases t2 : tks s.2.1 0 with
        | false => rw [if_neg (show ¬ (false = true) by simp), if_pos zI_0.symm]
        | true => exact absurd ⟨t1, t2⟩ z
    obtain ⟨-, -, -, -, -, -, -, -, ⟨S2, b2⟩, ⟨S3, b3⟩, ⟨S4, b4⟩, -, -, -, -, q5, -⟩ := id p
    obtain ⟨a, b, hab, r1, r2⟩ : ∃ a b : Nat, ((a = 87 ∧ b = 90) ∨ (a = 90 ∧ b = 87)) ∧ hR h 83 1 = some a ∧ hR h 83 2 = some b := by
      rcases q5 with ⟨w1, w2⟩ | ⟨w1, w2⟩
      · exact ⟨87, 90, by omega, w1, w2⟩
      · exact ⟨90, 87, by omega, w1, w2⟩
    obtain ⟨Sa, spa⟩ : ∃ S, SP h a 31572 S := by rcases hab with ⟨rfl, rfl⟩ | ⟨rfl, rfl⟩; exact ⟨_, b3⟩; exact ⟨_, b4⟩
    obtain ⟨Sb, spb⟩ : ∃ S, SP h b 31572 S := by rcases hab with ⟨rfl, rfl⟩ | ⟨rfl, rfl⟩; exact ⟨_, b4⟩; exact ⟨_, b3⟩
    obtain ⟨h1, e1, f1, sp1⟩ := Sp_startAt 54 b2 (s := 0) (by omega)
    have n84 : ¬ spF 84 83 := by unfold spF; omega
    have p1 := XI_sp2 p (by omega) f1 sp1
    have spa1 := spa.fr f1 (fun b' hb' => by unfold spF at *; omega)
    have spb1 := spb.fr f1 (fun b' hb' => by unfold spF at *; omega)
    obtain ⟨h2, e2, f2, sp2⟩ := Sp_startAt 54 spa1 (s := 0) (by omega)
    have na : ¬ spF a 83 := by unfold spF; omega
    have p2 := XI_sp2 p1 (by omega) f2 sp2
    have js0 : ∀ P : Jc → Prop, (∀ J, P J ↔ J = j0) → JS (fun t => t == 0) P := by
      intro P hP t
      rw [beq_iff_eq]
      constructor
      · intro w; exact ⟨j0, j0_v, (hP j0).mpr rfl, by rw [w]; decide⟩
      · rintro ⟨J, w1, w2, w3⟩
        rw [(hP J).mp w2] at w3
        rw [w3]; decide
    have jD0 : ∀ J, jD s.1 s.2.1 0 J ↔ J = j0 := fun J => ⟨fun w => w.1, fun w => ⟨w, fun i hi => absurd hi (Nat.not_lt_zero _)⟩⟩
    have jM0 : ∀ J, (∃ i, i ≤ 0 ∧ jD s.1 s.2.1 i J) ↔ J = j0 := by
      intro J
      constructor
      · rintro ⟨i, w1, w2⟩
        have : i = 0 := by omega
        subst this
        exact (jD0 J).mp w2
      · intro w; exact ⟨0, Nat.le_refl _, (jD0 J).mpr w⟩
    have q2 : MtP s h2 a b (fun J => ∃ i, i ≤ 0 ∧ jD s.1 s.2.1 i J) (jD s.1 s.2.1 0) := ⟨p2, by rw [f2.R na, f1.R n84]; exact r1, by rw [f2.R na, f1.R n84]; exact r2, hab, ⟨_, sp1.fr f2 (fun b' hb' => by unfold spF at *; omega), js0 _ jM0⟩, ⟨_, sp2, js0 _ jD0⟩, ⟨_, spb1.fr f2 (fun b' hb' => by unfold spF at *; omega)⟩⟩
    obtain ⟨h3, v, e4, f3, p3, mv⟩ := sh_lp 54 31572 0 h2 a b (by omega) q2 (by
      intro i J hi hJ ht
      have : i = 0 := by omega
      subst this
      rw [show J = j0 from hJ] at ht
      exact z ht)
    refine ⟨h3, ?_, (f1.mo (fun b' hb => by unfold spF at hb; omega)).tr ((f2.mo (fun b' hb => by unfold spF at hb; omega)).tr (f3.mo (fun b' hb => by unfold mtF at hb; omega))), p3⟩
    rw [e0, hb0 v mv, e3, E_Mt_shortest_3, obj_e (z83 p.1), p.r (a := 83) (j := 0) (c := 84) (by decide), obj_e b2.1.1, zc0, calV_e e1, obj_e (z83 p1.1), show hR h1 83 1 = some a by rw [f1.R n84]; exact r1, obj_e spa1.1.1, calV_e e2, lt_e]
    rw [calI_e (show Rk B_Mt_shortest L_Mt_shortest (Cc 58) 4 [aR (some 83), aI (zI 1), aU, aU] [] h2 = _ from e4)]
