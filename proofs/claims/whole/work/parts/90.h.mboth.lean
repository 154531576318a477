/-! M: both: the rows of both -/
theorem M_goBoth (d : Nat) {s : Stt} {J : Jc} {t0 x by_ : Nat} {m : Mv} {h : AH} {T : Nat → Nat} {Q : List (Jc × Nat)} (hv : VS s) (hJ : JV J) (hm : s.1.2.2.2[t0]? = some m) (hx : x ≤ tJ J + 1) (q : MBQ s h T Q) (hl : HL h (rs J)) : ∃ h' T' Q', Cc (d + 3) k_M_goBoth [aR (some 94), aI (zI t0), aI (zI J.2.1), aI (zI x), aI (zI by_)] h = some (none, h') ∧ bog h h' ∧ MBQ s h' T' Q' ∧ HL h' (rs J) ∧ QX Q Q' (fun J' => ∃ m', m' ∈ s.2.1.2.2.2 ∧ canB m' J.2 m.2.1 x = true ∧ J' = kj (goC m J.1 x, goC m' J.2 x)) by_ := by
  obtain ⟨h', T', Q', e, f, q', hl', ⟨L, l1, l2, l3⟩⟩ := gb_t d (by_ := by_) hv hJ hm hx s.2.1.2.2.2.length 0 h T Q (by omega) q hl
  refine ⟨h', T', Q', ?_, f, q', hl', L, l1, fun e he => ⟨(l2 e he).1, ?_⟩, fun J' ⟨m', w1, w2, w3⟩ => l3 J' ?_⟩
  · rw [C_M_goBoth, E_M_goBoth_0, lt_e]
    exact e
  · obtain ⟨-, t', m', w1, w2, w3⟩ := l2 e he
    exact ⟨m', List.mem_of_getElem? w2, w3⟩
  · obtain ⟨t', ht'⟩ := List.getElem?_of_mem w1
    exact ⟨t', m', Nat.zero_le _, ht', w2, w3⟩
theorem bo_x (d : Nat) {s : Stt} {J : Jc} {k0 t0 f : Nat} {m : Mv} (hv : VS s) (hJ : JV J) (hm : s.1.2.2.2[t0]? = some m) (hk0 : k0 < 40000) (hf : f < 100000) : ∀ (n x : Nat) (h : AH) (T : Nat → Nat) (Q : List (Jc × Nat)), x + n = tJ J + 2 → 1 ≤ x → MBQ s h T Q → HL h (rs J) → Q[k0]? = some (J, f) →
    ∃ h' T' Q', Rk B_M_both L_M_both (Cc (d + 3)) 17 [aR (some 94), aI (zI k0), aI (zI J.1.1), aI (zI J.2.1), aI (zI (tJ J)), aI (zI t0), aI (zI x)] [] h = Rk B_M_both L_M_both (Cc (d + 3)) 21 [aR (some 94), aI (zI k0), aI (zI J.1.1), aI (zI J.2.1), aI (zI (tJ J)), aI (zI t0), aU] [] h' ∧ bog h h' ∧ MBQ s h' T' Q' ∧ HL h' (rs J) ∧ QX Q Q' (fun J' => ∃ x' m', x ≤ x' ∧ x' ≤ tJ J + 1 ∧ m' ∈ s.2.1.2.2.2 ∧ canB m J.1 m.2.1 x' = true ∧ canB m' J.2 m.2.1 x' = true ∧ J' = kj (goC m J.1 x', goC m' J.2 x')) (f + 1)
  | 0, x, h, T, Q, hn, hx, q, hl, hQ => by
    have hb := hJ.b
    refine ⟨h, T, Q, ?_, mfr.rf _ h, q, hl, QX_0 Q (fun J' ⟨x', m', h1, h2, _⟩ => by omega)⟩
    rw [E_M_both_17, nadd1]
    simp (disch := omega) only [nle]
    rw [if_neg (by omega)]
  | n + 1, x, h, T, Q, hn, hx, q, hl, hQ => by
    have hb := hJ.b
    have h0i := hv.1.mi hm
    have mr0 := q.2.1.2.2.2.2 t0 m hm
    rw [Nat.mul_zero, Nat.zero_add] at mr0
    have hq1 := hJ.1
    have p := q.1
    have hlt := h0i.1.2.1
    have ec := M_canHere (d + 2) p (t := t0) (fm := 0) (m := m) (c := J.1) (l := m.2.1) (x := x) (by omega) mr0 h0i.1 (by omega) (by omega) (by omega) (by omega) (by omega) (hl 0 _ rfl) (hl 1 _ rfl) (hl 2 _ rfl) hlt (by omega)
    have e0 : Rk B_M_both L_M_both (Cc (d + 3)) 17 [aR (some 94), aI (zI k0), aI (zI J.1.1), aI (zI J.2.1), aI (zI (tJ J)), aI (zI t0), aI (zI x)] [] h = if canB m J.1 m.2.1 x = true then Rk B_M_both L_M_both (Cc (d + 3)) 19 [aR (some 94), aI (zI k0), aI (zI J.1.1), aI (zI J.2.1), aI (zI (tJ J)), aI (zI t0), aI (zI x)] [] h else Rk B_M_both L_M_both (Cc (d + 3)) 20 [aR (some 94), aI (zI k0), aI (zI J.1.1), aI (zI J.2.1), aI (zI (tJ J)), aI (zI t0), aI (zI x)] [] h := by
      rw [E_M_both_17, nadd1]
      simp (disch := omega) only [nle]
      rw [if_pos (by omega), E_M_both_18, obj_e (z94 p.1), m5 p]
      simp (disch := omega) only [idx_n (z100 p.1), mr0.2.1]
      rw [obj_e (z94 p.1), zc0, calI_e ec, if01]
    have cont : ∀ (h1 : AH) (T1 : Nat → Nat) (Q1 : List (Jc × Nat)), Rk B_M_both L_M_both (Cc (d + 3)) 17 [aR (some 94), aI (zI k0), aI (zI J.1.1), aI (zI J.2.1), aI (zI (tJ J)), aI (zI t0), aI (zI x)] [] h = Rk B_M_both L_M_both (Cc (d + 3)) 20 [aR (some 94), aI (zI k0), aI (zI J.1.1), aI (zI J.2.1), aI (zI (tJ J)), aI (zI t0), aI (zI x)] [] h1 → bog h h1 → MBQ s h1 T1 Q1 → HL h1 (rs J) → QX Q Q1 (fun J' => ∃ m', m' ∈ s.2.1.2.2.2 ∧ canB m J.1 m.2.1 x = true ∧ canB m' J.2 m.2.1 x = true ∧ J' = kj (goC m J.1 x, goC m' J.2 x)) (f + 1) →
        ∃ h' T' Q', Rk B_M_both L_M_both (Cc (d + 3)) 17 [aR (some 94), aI (zI k0), aI (zI J.1.1), aI (zI J.2.1), aI (zI (tJ J)), aI (zI t0), aI (zI x)] [] h = Rk B_M_both L_M_both (Cc (d + 3)) 21 [aR (some 94), aI (zI k0), aI (zI J.1.1), aI (zI J.2.1), aI (zI (tJ J)), aI (zI t0), aU] [] h' ∧ bog h h' ∧ MBQ s h' T' Q' ∧ HL h' (rs J) ∧ QX Q Q' (fun J' => ∃ x' m', x ≤ x' ∧ x' ≤ tJ J + 1 ∧ m' ∈ s.2.1.2.2.2 ∧ canB m J.1 m.2.1 x' = true ∧ canB m' J.2 m.2.1 x' = true ∧ J' = kj (goC m J.1 x', goC m' J.2 x')) (f + 1) := by
      intro h1 T1 Q1 e1 f1 q1 hl1 x1
      have hQ1 : Q1[k0]? = some (J, f) := by
        obtain ⟨L, l1, -, -⟩ := x1
        rw [l1, List.getElem?_append_left (List.getElem?_eq_some_iff.mp hQ).1]
        exact hQ
      obtain ⟨h', T', Q', e, f2, q', hl', qx⟩ := bo_x d hv hJ hm hk0 hf n (x + 1) h1 T1 Q1 (by omega) (by omega) q1 hl1 hQ1
      refine ⟨h', T', Q', ?_, mfr.tr f1 f2, q', hl', QX_t x1 qx (fun J' => ?_)⟩
      · rw [e1, E_M_both_20, nadd1, lt_e]; exact e
      · constructor
        · rintro ⟨x', m', w1, w2, w3, w4⟩
          by_cases y : x' = x
          · subst y; exact Or.inl ⟨m', w3, w4⟩
          · exact Or.inr ⟨x', m', by omega, w2, w3, w4⟩
        · rintro (⟨m', w⟩ | ⟨x', m', w1, w2⟩)
          · exact ⟨x, m', Nat.le_refl _, by omega, w⟩
          · exact ⟨x', m', by omega, w2⟩
    cases y : canB m J.1 m.2.1 x with
    | false =>
      rw [y, if_neg (show ¬ (false = true) by simp)] at e0
      exact cont h T Q e0 (mfr.rf _ h) q hl (QX_0 Q (fun J' ⟨m', w1, w2, w3⟩ => by rw [y] at w2; cases w2))
    | true =>
      obtain ⟨h1, T1, Q1, e1, f1, q1, hl1, ⟨L, l1, l2, l3⟩⟩ := M_goBoth d (by_ := f + 1) hv hJ hm (x := x) (by omega) q hl
      have hk := (q.2.2.2.2.2.1.2 k0 _ hQ).2
      rw [y, if_pos rfl, E_M_both_19, obj_e (z94 p.1), m44 p] at e0
      simp (disch := omega) only [idx_n (z129 p.1), hk, nadd1] at e0
      rw [obj_e (z94 p.1), calV_e e1] at e0
      refine cont h1 T1 Q1 e0 f1 q1 hl1 ⟨L, l1, fun e he => ⟨(l2 e he).1, ?_⟩, fun J' ⟨m', w1, w2, w3⟩ => l3 J' ⟨m', w1, w3⟩⟩
      obtain ⟨-, m', w1, w3⟩ := l2 e he
      exact ⟨m', w1, y, w3⟩
theorem bo_m (d : Nat) {s : Stt} {J : Jc} {k0 f : Nat} (hv : VS s) (hJ : JV J) (hk0 : k0 < 40000) (hf : f < 100000) : ∀ (n t : Nat) (h : AH) (T : Nat → Nat) (Q : List (Jc × Nat)), t + n = s.1.2.2.2.length → MBQ s h T Q → HL h (rs J) → Q[k0]? = some (J, f) →
    ∃ h' T' Q', Rk B_M_both L_M_both (Cc (d + 3)) 15 [aR (some 94), aI (zI k0), aI (zI J.1.1), aI (zI J.2.1), aI (zI (tJ J)), aI (zI t), aU] [] h = Rk B_M_both L_M_both (Cc (d + 3)) 22 [aR (some 94), aI (zI k0), aU, aU, aU, aU, aU] [] h' ∧ bog h h' ∧ MBQ s h' T' Q' ∧ QX Q Q' (fun J' => ∃ (t' : Nat) (m m' : Mv) (x' : Nat), t ≤ t' ∧ s.1.2.2.2[t']? = some m ∧ 1 ≤ x' ∧ x' ≤ tJ J + 1 ∧ m' ∈ s.2.1.2.2.2 ∧ canB m J.1 m.2.1 x' = true ∧ canB m' J.2 m.2.1 x' = true ∧ J' = kj (goC m J.1 x', goC m' J.2 x')) (f + 1)
  | 0, t, h, T, Q, hn, q, hl, hQ => by
    have hl20 := hv.1.2.2.2.2.1
    refine ⟨h, T, Q, ?_, mfr.rf _ h, q, QX_0 Q (fun J' ⟨t', m, m', x', h1, h2, _⟩ => by have := (List.getElem?_eq_some_iff.mp h2).1; omega)⟩
    rw [E_M_both_15, obj_e (z94 q.1.1), m3 q.1, zc0]
    simp (disch := omega) only [idx_n (z98 q.1.1), q.2.1.2.2.2.1, nlt]
    rw [if_neg (by omega)]
  | n + 1, t, h, T, Q, hn, q, hl, hQ => by
    have hl20 := hv.1.2.2.2.2.1
    have hm : s.1.2.2.2[t]? = some s.1.2.2.2[t] := List.getElem?_eq_getElem (by omega)
    obtain ⟨h1, T1, Q1, e1, f1, q1, hl1, x1⟩ := bo_x d hv hJ hm hk0 hf (tJ J + 1) 1 h T Q (by omega) (by omega) q hl hQ
    have hQ1 : Q1[k0]? = some (J, f) := by
      obtain ⟨L, l1, -, -⟩ := x1
      rw [l1, List.getElem?_append_left (List.getElem?_eq_some_iff.mp hQ).1]
      exact hQ
    obtain ⟨h', T', Q', e, f2, q', qx⟩ := bo_m d hv hJ hk0 hf n (t + 1) h1 T1 Q1 (by omega) q1 hl1 hQ1
    refine ⟨h', T', Q', ?_, mfr.tr f1 f2, q', QX_t x1 qx (fun J' => ?_)⟩
    · rw [E_M_both_15, obj_e (z94 q.1.1), m3 q.1, zc0]
      simp (disch := omega) only [idx_n (z98 q.1.1), q.2.1.2.2.2.1, nlt]
      rw [if_pos (by omega), E_M_both_16, lt_e]
      refine Eq.trans e1 ?_
      rw [E_M_both_21, nadd1, lt_e]
      exact e
    · constructor
      · rintro ⟨t', m, m', x', w1, w2, w3⟩
        by_cases y : t' = t
        · subst y
          rw [hm] at w2
          cases w2
          exact Or.inl ⟨x', m', w3⟩
        · exact Or.inr ⟨t', m, m', x', by omega, w2, w3⟩
      · rintro (⟨x', m', w⟩ | ⟨t', m, m', x', w1, w2⟩)
        · exact ⟨t, _, m', x', Nat.le_refl _, hm, w⟩
        · exact ⟨t', m, m', x', by omega, w2⟩
theorem mx_app : ∀ (l : List Nat) (k x : Nat), mx k (l ++ [x]) = max (mx k l) x
  | [], k, x => rfl
  | y :: l, k, x => mx_app l (max k y) x
theorem bo_hl (d : Nat) {k0 code : Nat} {x2 x3 : Int32} {v : List Nat} (hv : v.length = 6) (hb : ∀ y, y ∈ v → y < 7) (hk0 : k0 < 40000) (hc : code / 36 = h7 v) (hcb : code < 4235364) : ∀ (n i : Nat) (h : AH), i + n = 6 → MS h → hI h 128 k0 = zI code → (∀ (t x : Nat), t < i → v[t]? = some x → hI h 130 t = zI x) →
    ∃ h', Rk B_M_both L_M_both (Cc (d + 1)) 9 [aR (some 94), aI (zI k0), aI x2, aI x3, aI (zI (mx 0 (v.take i))), aI (zI i), aU] [] h = Rk B_M_both L_M_both (Cc (d + 1)) 14 [aR (some 94), aI (zI k0), aI x2, aI x3, aI (zI (mx 0 v)), aU, aU] [] h' ∧ mfr (fun a _ => a = 130) h h' ∧ HL h' v
  | 0, i, h, hi, p, hq, hp => by
    refine ⟨h, ?_, mfr.rf _ h, fun t x hx => hp t x (by have := (List.getElem?_eq_some_iff.mp hx).1; omega) hx⟩
    rw [E_M_both_9, show zI 6 = zI ((6 : Nat) : Int) from rfl]
    simp (disch := omega) only [nlt]
    rw [if_neg (by omega), List.take_of_length_le (by omega)]
  | n + 1, i, h, hi, p, hq, hp => by
    obtain ⟨x, hx⟩ : ∃ x, v[i]? = some x := ⟨_, List.getElem?_eq_getElem (by omega)⟩
    have hx7 := hb x (List.mem_of_getElem? hx)
    have hat := h7_at v i x hb hx
    have h75 : (7 : Nat) ^ 5 = 16807 := by decide
    have h7i : (7 : Nat) ^ i ≤ 7 ^ 5 := Nat.pow_le_pow_right (by omega) (by omega)
    have h7p : 0 < (7 : Nat) ^ i := Nat.pow_pos (by omega)
    have hdl : code / 36 / 7 ^ i ≤ code / 36 := Nat.div_le_self _ _
    have tk : v.take (i + 1) = v.take i ++ [x] := by rw [List.take_add_one, hx]; rfl
    have hmx : mx 0 (v.take i) ≤ 6 := by
      have key : ∀ (l : List Nat) (k : Nat), (∀ y, y ∈ l → y < 7) → k ≤ 6 → mx k l ≤ 6 := by
        intro l
        induction l with
        | nil => intro k _ hk; exact hk
        | cons y l ih => intro k hl hk; exact ih _ (fun z hz => hl z (List.mem_cons_of_mem _ hz)) (by have := hl y List.mem_cons_self; omega)
      exact key _ _ (fun y hy => hb y (List.mem_of_mem_take hy)) (by omega)
    have f1 : mfr (fun a _ => a = 130) h (sI h 130 i (zI x)) := mfr_sI (F := fun a _ => a = 130) h rfl _
    have p1 := p.mf f1
    obtain ⟨h', e, f, g⟩ := bo_hl d (x2 := x2) (x3 := x3) hv hb hk0 hc hcb n (i + 1) (sI h 130 i (zI x)) (by omega) p1 (by rw [hI_off (by omega)]; exact hq) (by
      intro t y ht hy
      by_cases z : t = i
      · subst z
        rw [hx] at hy
        cases hy
        rw [hI_hit]
      · rw [hI_off (by omega)]; exact hp t y (by omega) hy)
    refine ⟨h', ?_, f1.tr f, g⟩
    have fin : Rk B_M_both L_M_both (Cc (d + 1)) 13 [aR (some 94), aI (zI k0), aI x2, aI x3, aU, aI (zI i), aU] [aI (zI ((max (mx 0 (v.take i)) x : Nat) : Int))] (sI h 130 i (zI x)) = Rk B_M_both L_M_both (Cc (d + 1)) 14 [aR (some 94), aI (zI k0), aI x2, aI x3, aI (zI (mx 0 v)), aU, aU] [] h' := by
      rw [E_M_both_13, lt_e, nadd1, lt_e, ← e, tk, mx_app]
    rw [E_M_both_9, show zI 6 = zI ((6 : Nat) : Int) from rfl]
    simp (disch := omega) only [nlt]
    rw [if_pos (by omega), E_M_both_10, obj_e (z94 p.1), obj_e (z94 p.1), m43 p]
    simp (disch := omega) only [idx_n (z128 p.1), hq]
    rw [if_neg (by decide), calI_e (M_power _ h (by omega)), if_neg (by rw [neq0 (by omega)]; omega), if_neg (by decide), m46 p]
    simp (disch := omega) only [idx_n (z130 p.1), lt_e]
    rw [show zI 36 = zI ((36 : Nat) : Int) from rfl, ndiv (by omega) (by omega) (by omega), ndiv (by omega) h7p (by omega), show zI 7 = zI ((7 : Nat) : Int) from rfl, nrem (by omega) (by omega) (by omega), hc, hat, obj_e (z94 p1.1), m46 p1]
    simp (disch := omega) only [idx_n (z130 p1.1), hI_hit, nle]
    by_cases z : x ≤ mx 0 (v.take i)
    · rw [if_pos z, E_M_both_12]
      rw [Nat.max_eq_left z] at fin
      exact fin
    · rw [if_neg z, E_M_both_11, obj_e (z94 p1.1), m46 p1]
      simp (disch := omega) only [idx_n (z130 p1.1), hI_hit]
      rw [Nat.max_eq_right (by omega)] at fin
      exact fin
def BI (r o : Rdr) (k : Nat) (Q : List (Jc × Nat)) : Prop := Q[0]? = some (j0, 0) ∧ (∀ e, e ∈ Q → jR r o e.2 e.1) ∧ (∀ (i j : Nat) (e e' : Jc × Nat), i ≤ j → Q[i]? = some e → Q[j]? = some e' → e.2 ≤ e'.2) ∧ (∀ (j : Nat) (e e' : Jc × Nat), Q[k]? = some e → Q[j]? = some e' → e'.2 ≤ e.2 + 1) ∧ (∀ (i : Nat) (e : Jc × Nat) (J' : Jc), i < k → Q[i]? = some e → jst r o e.1 J' → ∃ e', e' ∈ Q ∧ e'.1 = J' ∧ e'.2 ≤ e.2 + 1) ∧ ∀ (i : Nat) (e : Jc × Nat), i < k → Q[i]? = some e → ¬ jtk r o e.1
theorem BI_c {r o : Rdr} {k : Nat} {Q : List (Jc × Nat)} (b : BI r o k Q) : ∀ n J, jR r o n J → (∃ (i : Nat) (f : Nat), i < k ∧ Q[i]? = some (J, f)) ∨ ∃ (j : Nat) (e : Jc × Nat), k ≤ j ∧ Q[j]? = some e ∧ e.2 ≤ n := by
  obtain ⟨b1, b2, b3, b4, b5, b6⟩ := b
  have key : ∀ n J, jR r o n J → (∃ (i : Nat) (e : Jc × Nat), Q[i]? = some e ∧ e.1 = J ∧ e.2 ≤ n) ∨ ∃ (j : Nat) (e : Jc × Nat), k ≤ j ∧ Q[j]? = some e ∧ e.2 ≤ n := by
    intro n
    induction n with
    | zero => intro J hJ; exact Or.inl ⟨0, _, b1, (show J = j0 from hJ).symm, Nat.le_refl _⟩
    | succ n ih =>
      rintro J ⟨J1, h1, h2⟩
      rcases ih J1 h1 with ⟨i, e, w1, w2, w3⟩ | ⟨j, e, w1, w2, w3⟩
      · by_cases y : i < k
        · obtain ⟨e', v1, v2, v3⟩ := b5 i e J y w1 (by rw [w2]; exact h2)
          obtain ⟨j, hj⟩ := List.mem_iff_getElem?.mp v1
          exact Or.inl ⟨j, e', hj, v2, by omega⟩
        · exact Or.inr ⟨i, e, by omega, w1, by omega⟩
      · exact Or.inr ⟨j, e, w1, w2, by omega⟩
  intro n J hJ
  rcases key n J hJ with ⟨i, e, w1, w2, w3⟩ | w
  · by_cases y : i < k
    · exact Or.inl ⟨i, e.2, y, by rw [w1, ← w2]⟩
    · exact Or.inr ⟨i, e, by omega, w1, w3⟩
  · exact Or.inr w
theorem BI_s {r o : Rdr} {k f : Nat} {Q Q' : List (Jc × Nat)} {J : Jc} (b : BI r o k Q) (hk : Q[k]? = some (J, f)) (nt : ¬ jtk r o J) (x : QX Q Q' (jst r o J) (f + 1)) : BI r o (k + 1) Q' := by
  obtain ⟨b1, b2, b3, b4, b5, b6⟩ := b
  obtain ⟨L, rfl, l2, l3⟩ := x
  have hkl := (List.getElem?_eq_some_iff.mp hk).1
  have up : ∀ (i : Nat) (e : Jc × Nat), (Q ++ L)[i]? = some e → Q[i]? = some e ∨ (Q.length ≤ i ∧ e.2 = f + 1) := by
    intro i e he
    by_cases y : i < Q.length
    · rw [List.getElem?_append_left y] at he; exact Or.inl he
    · rw [List.getElem?_append_right (by omega)] at he
      exact Or.inr ⟨by omega, (l2 e (List.mem_of_getElem? he)).1⟩
  have allb : ∀ (i : Nat) (e : Jc × Nat), (Q ++ L)[i]? = some e → e.2 ≤ f + 1 := by
    intro i e he
    rcases up i e he with w | ⟨-, w⟩
    · exact b4 i (J, f) e hk w
    · omega
  have low : ∀ (i : Nat) (e : Jc × Nat), k + 1 ≤ i → (Q ++ L)[i]? = some e → f ≤ e.2 := by
    intro i e hi he
    rcases up i e he with w | ⟨-, w⟩
    · exact b3 k i _ e (by omega) hk w
    · omega
  have keep : ∀ (i : Nat) (e : Jc × Nat), Q[i]? = some e → (Q ++ L)[i]? = some e := fun i e he => by rw [List.getElem?_append_left (List.getElem?_eq_some_iff.mp he).1]; exact he
  refine ⟨keep _ _ b1, ?_, ?_, ?_, ?_, ?_⟩
  · intro e he
    rcases List.mem_append.mp he with w | w
    · exact b2 e w
    · rw [(l2 e w).1]
      exact ⟨J, b2 (J, f) (List.mem_of_getElem? hk), (l2 e w).2⟩
  · intro i j e e' hij hi hj
    rcases up j e' hj with w | ⟨w1, w2⟩
    · have hjl := (List.getElem?_eq_some_iff.mp w).1
      rcases up i e hi with v | ⟨v1, v2⟩
      · exact b3 i j e e' hij v w
      · omega
    · have := allb i e hi
      omega
  · intro j e e' he he'
    have h1 := allb j e' he'
    have h2 := low (k + 1) e (Nat.le_refl _) he
    omega
  · intro i e J' hi he hst
    have hQi : Q[i]? = some e := by
      rcases up i e he with w | ⟨w1, w2⟩
      · exact w
      · omega
    by_cases y : i = k
    · subst y
      rw [hk] at hQi
      cases hQi
      obtain ⟨e', v1, v2⟩ := List.mem_map.mp (l3 J' hst)
      obtain ⟨j, hj⟩ := List.mem_iff_getElem?.mp v1
      exact ⟨e', v1, v2, allb j e' hj⟩
    · obtain ⟨e', v1, v2, v3⟩ := b5 i e J' (by omega) hQi hst
      exact ⟨e', List.mem_append_left _ v1, v2, v3⟩
  · intro i e hi he
    have hQi : Q[i]? = some e := by
      rcases up i e he with w | ⟨w1, w2⟩
      · exact w
      · omega
    by_cases y : i = k
    · subst y
      rw [hk] at hQi
      cases hQi
      exact nt
    · exact b6 i e (by omega) hQi
def bofr (h h' : AH) : Prop := mfr (fun a j => (a = 94 ∧ j = 45) ∨ (127 ≤ a ∧ a ≤ 131)) h h'
theorem bo_lp (d : Nat) {s : Stt} (hv : VS s) : ∀ (n k : Nat) (h : AH) (T : Nat → Nat) (Q : List (Jc × Nat)), k + n = 31573 → MBQ s h T Q → BI s.1 s.2.1 k Q → ∃ h' v, Rk B_M_both L_M_both (Cc (d + 3)) 4 [aR (some 94), aI (zI k), aU, aU, aU, aU, aU] [] h = some (some (aI (zI v)), h') ∧ bofr h h' ∧ mnv (fun n => ∃ J, jR s.1 s.2.1 n J ∧ jtk s.1 s.2.1 J) v := by
  have done : ∀ (k : Nat) (h : AH) (T : Nat → Nat) (Q : List (Jc × Nat)), Q.length ≤ k → k < 100000 → MBQ s h T Q → BI s.1 s.2.1 k Q → ∃ h' v, Rk B_M_both L_M_both (Cc (d + 3)) 4 [aR (some 94), aI (zI k), aU, aU, aU, aU, aU] [] h = some (some (aI (zI v)), h') ∧ bofr h h' ∧ mnv (fun n => ∃ J, jR s.1 s.2.1 n J ∧ jtk s.1 s.2.1 J) v := by
    intro k h T Q hk hkb q b
    have hl := q.2.2.2.2.2.2.len
    refine ⟨h, -1, ?_, mfr.rf _ h, Or.inl ⟨rfl, ?_⟩⟩
    · rw [E_M_both_4, obj_e (z94 q.1.1), q.2.2.2.2.2.1.1]
      simp (disch := omega) only [nlt]
      rw [if_neg (by omega), E_M_both_23]
    · rintro n ⟨J, w1, w2⟩
      rcases BI_c b n J w1 with ⟨i, f, v1, v2⟩ | ⟨j, e, v1, v2, -⟩
      · exact b.2.2.2.2.2 i _ v1 v2 w2
      · have := (List.getElem?_eq_some_iff.mp v2).1
        omega
  intro n
  induction n with
  | zero =>
    intro k h T Q hk q b
    have hl := q.2.2.2.2.2.2.len
    exact done k h T Q (by omega) (by omega) q b
  | succ n ih =>
    intro k h T Q hk q b
    have hl := q.2.2.2.2.2.2.len
    by_cases z : Q.length ≤ k
    · exact done k h T Q z (by omega) q b
    · obtain ⟨⟨J, f⟩, hQ⟩ : ∃ e, Q[k]? = some e := ⟨_, List.getElem?_eq_getElem (by omega)⟩
      have hJ : JV J := q.2.2.2.2.2.2.2 J (List.mem_map.mpr ⟨(J, f), List.mem_of_getElem? hQ, rfl⟩)
      have hc := eB_lt hJ
      have hq1 : hI h 128 k = zI (eB J) := (q.2.2.2.2.2.1.2 k _ hQ).1
      have hq2 : hI h 129 k = zI f := (q.2.2.2.2.2.1.2 k _ hQ).2
      have p := q.1
      have a1 := hJ.1
      have a2 := hJ.2.1
      have cm : eB J % 6 = J.1.1 := by unfold eB; omega
      have cd : eB J / 6 % 6 = J.2.1 := by unfold eB; omega
      have ch : eB J / 36 = h7 (rs J) := by unfold eB; omega
      have jrf : jR s.1 s.2.1 f J := b.2.1 (J, f) (List.mem_of_getElem? hQ)
      have hf : f < 100000 := by
        -- a way no longer than the queue: distances
        obtain ⟨i, hi, hD⟩ := jD_ex f jrf
        have hDl := jD_lt hv.1 hv.2.1 i J hD
        by_cases y : f ≤ i
        · omega
        · exfalso
          rcases BI_c b i J hD.1 with ⟨i', f', v1, v2⟩ | ⟨j, e, v1, v2, v3⟩
          · have nd := q.2.2.2.2.2.2.1
            have e1 : (Q.map Prod.fst)[i']? = some J := by rw [List.getElem?_map, v2]; rfl
            have e2 : (Q.map Prod.fst)[k]? = some J := by rw [List.getElem?_map, hQ]; rfl
            have hik : i' = k := (List.getElem?_inj (List.getElem?_eq_some_iff.mp e1).1 nd).mp (e1.trans e2.symm)
            omega
          · have := b.2.2.1 k j _ e v1 hQ v2
            simp only at this
            omega
      have e5 : Rk B_M_both L_M_both (Cc (d + 3)) 4 [aR (some 94), aI (zI k), aU, aU, aU, aU, aU] [] h = if tks s.1 J.1.1 = true then Rk B_M_both L_M_both (Cc (d + 3)) 6 [aR (some 94), aI (zI k), aI (zI J.1.1), aI (zI J.2.1), aU, aU, aU] [] h else Rk B_M_both L_M_both (Cc (d + 3)) 8 [aR (some 94), aI (zI k), aI (zI J.1.1), aI (zI J.2.1), aU, aU, aU] [] h := by
        rw [E_M_both_4, obj_e (z94 p.1), q.2.2.2.2.2.1.1]
        simp (disch := omega) only [nlt]
        rw [if_pos (by omega), E_M_both_5, obj_e (z94 p.1), m43 p]
        simp (disch := omega) only [idx_n (z128 p.1), hq1]
        rw [if_neg (by decide), rem6 (by omega), cm, lt_e, obj_e (z94 p.1), m43 p]
        simp (disch := omega) only [idx_n (z128 p.1), hq1]
        rw [if_neg (by decide), if_neg (by decide), show zI 6 = zI ((6 : Nat) : Int) from rfl, ndiv (by omega) (by omega) (by omega), nrem (by omega) (by omega) (by omega), cd, lt_e, obj_e (z94 p.1), zc0, calI_e (M_isTaken _ p (by omega) q.2.1 hv.1 (by omega)), if01, Nat.mod_eq_of_lt a1]
      have go8 : ¬ jtk s.1 s.2.1 J → Rk B_M_both L_M_both (Cc (d + 3)) 4 [aR (some 94), aI (zI k), aU, aU, aU, aU, aU] [] h = Rk B_M_both L_M_both (Cc (d + 3)) 8 [aR (some 94), aI (zI k), aI (zI J.1.1), aI (zI J.2.1), aU, aU, aU] [] h → ∃ h' v, Rk B_M_both L_M_both (Cc (d + 3)) 4 [aR (some 94), aI (zI k), aU, aU, aU, aU, aU] [] h = some (some (aI (zI v)), h') ∧ bofr h h' ∧ mnv (fun n => ∃ J, jR s.1 s.2.1 n J ∧ jtk s.1 s.2.1 J) v := by
        intro nt e8
        obtain ⟨h1, e1, f1, hl1⟩ := bo_hl (d + 2) (k0 := k) (x2 := zI J.1.1) (x3 := zI J.2.1) (rs_len J) hJ.b7 (by omega) ch hc 6 0 h (by omega) p hq1 (fun t x ht => absurd ht (Nat.not_lt_zero _))
        have q1 : MBQ s h1 T Q := q.mf (f1.mo (fun a _ w => Or.inl w))
        obtain ⟨h2, T2, Q2, e2, f2, q2, x2⟩ := bo_m d hv hJ (k0 := k) (f := f) (by omega) hf s.1.2.2.2.length 0 h1 T Q (by omega) q1 hl1 hQ
        have x3 : QX Q Q2 (jst s.1 s.2.1 J) (f + 1) := by
          obtain ⟨L, l1, l2, l3⟩ := x2
          refine ⟨L, l1, fun e he => ⟨(l2 e he).1, ?_⟩, fun J' hJ' => l3 J' ?_⟩
          · obtain ⟨-, t', m, m', x', w1, w2, w3, w4, w5, w6, w7, w8⟩ := l2 e he
            obtain ⟨t'', ht''⟩ := List.getElem?_of_mem w5
            have c1 := canB_t w6
            have c2 := canB_t w7
            exact ⟨m.2.1, x', _, _, (hv.1.mi w2).1.2.1, w3, w4, ⟨t', m, w2, c1.1, rfl, c1.2.2⟩, ⟨t'', m', ht'', c2.1, c2.2.1, c2.2.2⟩, w8⟩
          · obtain ⟨l, x', c, e, w1, w2, w3, ⟨t', m, u1, u2, u3, u4⟩, ⟨t'', m', v1, v2, v3, v4⟩, w6⟩ := hJ'
            subst u3
            obtain ⟨c1, rfl⟩ := canB_i u2 rfl u4
            obtain ⟨c2, rfl⟩ := canB_i v2 v3 v4
            exact ⟨t', m, m', x', Nat.zero_le _, u1, w2, w3, List.mem_of_getElem? v1, c1, c2, w6⟩
        obtain ⟨h3, v, e3, f3, mv⟩ := ih (k + 1) h2 T2 Q2 (by omega) q2 (BI_s b hQ nt x3)
        refine ⟨h3, v, ?_, (mfr.mo f1 (fun a j w => Or.inr (by omega))).tr ((mfr.mo f2 (fun a j w => by omega)).tr f3), mv⟩
        rw [e8, E_M_both_8, lt_e, lt_e]
        refine Eq.trans e1 ?_
        rw [E_M_both_14, lt_e]
        refine Eq.trans e2 ?_
        rw [E_M_both_22, nadd1, lt_e]
        exact e3
      cases t1 : tks s.1 J.1.1 with
      | false =>
        rw [t1, if_neg (show ¬ (false = true) by simp)] at e5
        exact go8 (fun w => by have := w.1; rw [t1] at this; cases this) e5
      | true =>
        rw [t1, if_pos rfl, E_M_both_6, obj_e (z94 p.1), zc1, calI_e (M_isTaken _ p (by omega) q.2.2.1 hv.2.1 (by omega)), if01, Nat.mod_eq_of_lt a2] at e5
        cases t2 : tks s.2.1 J.2.1 with
        | false =>
          rw [t2, if_neg (show ¬ (false = true) by simp)] at e5
          exact go8 (fun w => by have := w.2; rw [t2] at this; cases this) e5
        | true =>
          rw [t2, if_pos rfl, E_M_both_7, obj_e (z94 p.1), m44 p] at e5
          simp (disch := omega) only [idx_n (z129 p.1), hq2] at e5
          refine ⟨h, f, e5, mfr.rf _ h, Or.inr ⟨f, rfl, ⟨J, jrf, t1, t2⟩, ?_⟩⟩
          rintro n' ⟨J', w1, w2⟩
          rcases BI_c b n' J' w1 with ⟨i, f', v1, v2⟩ | ⟨j, e, v1, v2, v3⟩
          · exact absurd w2 (b.2.2.2.2.2 i _ v1 v2)
          · have := b.2.2.1 k j _ e v1 hQ v2
            simp only at this
            omega
theorem bo_0 (d : Nat) : ∀ (n i : Nat) (h : AH), i + n = 65536 → MS h → (∀ p, p < i → hI h 127 p = zI ((0 : Nat) : Int)) → ∃ h', Rk B_M_both L_M_both (Cc d) 1 [aR (some 94), aI (zI i), aU, aU, aU, aU, aU] [] h = Rk B_M_both L_M_both (Cc d) 3 [aR (some 94), aU, aU, aU, aU, aU, aU] [] h' ∧ mfr (fun a _ => a = 127) h h' ∧ ∀ p, p < 65536 → hI h' 127 p = zI ((0 : Nat) : Int)
  | 0, i, h, hi, p, hp => by
    refine ⟨h, ?_, mfr.rf _ h, by rw [show i = 65536 by omega] at hp; exact hp⟩
    rw [E_M_both_1, show zI 65536 = zI ((65536 : Nat) : Int) from rfl]
    simp (disch := omega) only [nlt]
    rw [if_neg (by omega)]
  | n + 1, i, h, hi, p, hp => by
    have f1 : mfr (fun a _ => a = 127) h (sI h 127 i (zI ((0 : Nat) : Int))) := mfr_sI (F := fun a _ => a = 127) h rfl _
    obtain ⟨h', e, f, g⟩ := bo_0 d n (i + 1) (sI h 127 i (zI ((0 : Nat) : Int))) (by omega) (p.mf f1) (by
      intro q hq
      by_cases z : q = i
      · rw [z, hI_hit]
      · rw [hI_off (Or.inr z)]; exact hp q (by omega))
    refine ⟨h', ?_, f1.tr f, g⟩
    rw [E_M_both_1, show zI 65536 = zI ((65536 : Nat) : Int) from rfl]
    simp (disch := omega) only [nlt]
    rw [if_pos (by omega), E_M_both_2, obj_e (z94 p.1), m42 p]
    simp (disch := omega) only [idx_n (z127 p.1), lt_e, nadd1]
    exact e
theorem cn_none {f : Nat → Bool} : ∀ (n : Nat), (∀ i, i < n → f i = false) → cn f n = 0
  | 0, _ => rfl
  | n + 1, h => by
    unfold cn
    rw [cn_none n (fun i hi => h i (by omega)), h n (by omega)]
    rfl
theorem M_both : MOK k_M_both [] bthA id := by
  intro s kk h hk v p
  obtain ⟨h1, e1, f1, g1⟩ := bo_0 59 65536 0 h (by omega) p.1 (fun q hq => absurd hq (Nat.not_lt_zero _))
  have p1 := p.1.mf f1
  have f2 : bofr h1 (sI h1 94 45 (zI 0)) := mfr_sI h1 (Or.inl ⟨rfl, rfl⟩) _
  have p2 := p1.mf f2
  have f12 : bofr h (sI h1 94 45 (zI 0)) := (mfr.mo f1 (fun a j w => Or.inr (by omega))).tr f2
  have mr0 : MR (sI h1 94 45 (zI 0)) 0 s.1 := p.2.1.mv f12 (fun a i h1 h2 h3 => by omega)
  have mr1 : MR (sI h1 94 45 (zI 0)) 1 s.2.1 := p.2.2.1.mv f12 (fun a i h1 h2 h3 => by omega)
  have tb : TB (sI h1 94 45 (zI 0)) (fun _ => 0) := fun q hq => by rw [hI_off (by omega)]; exact ⟨g1 q hq, by show 0 < 5000000; omega⟩
  have ti : TI (fun _ => 0) [] := ⟨(fun q hq w => absurd rfl w), (fun J w => by cases w), by rw [cn_none _ (fun i _ => by simp)]; rfl⟩
  have qh : QH (sI h1 94 45 (zI 0)) [] := ⟨by rw [hI_hit]; rfl, (fun i e he => by simp at he)⟩
  have qv : QV [] := ⟨by simp, (fun J w => by cases w)⟩
  obtain ⟨h3, T3, Q3, e3, f3, tb3, ti3, qh3, qv3, alt⟩ := M_meet 58 p2 tb ti qh qv j0_v (n := 0)
  rw [if_neg (by simp)] at alt
  have hQ3 : Q3 = [(j0, 0)] := alt
  subst hQ3
  have f3' : bofr (sI h1 94 45 (zI 0)) h3 := mfr.mo f3 (fun a j w => by omega)
  have q3 : MBQ s h3 T3 [(j0, 0)] := ⟨p2.mf f3, mr0.mv f3' (fun a i h1 h2 h3 => by omega), mr1.mv f3' (fun a i h1 h2 h3 => by omega), tb3, ti3, qh3, qv3⟩
  have b3 : BI s.1 s.2.1 0 [(j0, 0)] := by
    have one : ∀ (i : Nat) (e : Jc × Nat), [(j0, 0)][i]? = some e → e = (j0, 0) := by
      intro i e he
      have := (List.getElem?_eq_some_iff.mp he).1
      simp at this
      subst this
      simp at he
      exact he.symm
    refine ⟨rfl, fun e he => ?_, fun i j e e' _ h1 h2 => ?_, fun j e e' h1 h2 => ?_, fun i e J' hi => absurd hi (Nat.not_lt_zero _), fun i e hi => absurd hi (Nat.not_lt_zero _)⟩
    · rw [List.mem_singleton.mp he]; rfl
    · rw [one i e h1, one j e' h2]; exact Nat.le_refl _
    · rw [one _ e h1, one j e' h2]; exact Nat.zero_le _
  obtain ⟨h4, w, e4, f4, mv⟩ := bo_lp 56 v 31573 0 h3 T3 _ (by omega) q3 b3
  have f5 : bofr h h4 := (f12.tr f3').tr f4
  refine ⟨h4, ?_, f5.mo (fun a j w => by omega), (p.mv f5 (fun a i w => by unfold scr; omega)).up⟩
  have hb : bthA s = w := mnV_e mv
  rw [C_M_both, E_M_both_0, lt_e, hb]
  refine Eq.trans e1 ?_
  rw [E_M_both_3, obj_e (z94 p1.1), mb_some, obj_sI, obj_e (z94 p1.1), calV_e (show Cc 59 k_M_meet [aR (some 94), aI (zI 0), aI (zI 0)] (sI h1 94 45 (zI 0)) = _ from e3), lt_e]
  exact e4
