/-! M: both -/
theorem M_canHere (d : Nat) {h : AH} (p : MS h) {t fm : Nat} {m : Mv} (ht : t < 40) (mr : mrow h t m) (hm : MV m) {c : Cfg} {l x : Nat} (hfm : fm ≤ 3) (b0 : c.1 < 100) (b1 : c.2.1 < 100) (b2 : c.2.2.1 < 100) (b3 : c.2.2.2 < 100) (e1 : hI h 130 fm = zI c.2.1) (e2 : hI h 130 (fm + 1) = zI c.2.2.1) (e3 : hI h 130 (fm + 2) = zI c.2.2.2) (hl : l < 3) (hx : x < 100) : Cc (d + 1) k_M_canHere [aR (some 94), aI (zI t), aI (zI c.1), aI (zI l), aI (zI x), aI (zI fm)] h = some (some (aI (zI (if canB m c l x then 1 else 0))), h) := by
  obtain ⟨r0, r1, r2, r3, r4⟩ := mr
  unfold MV at hm
  have e9 : ∀ w : Nat, (w = 0 ↔ (c.2.1 ≠ x ∧ c.2.2.1 ≠ x ∧ c.2.2.2 ≠ x)) → w ≤ 1 → Rk B_M_canHere L_M_canHere (Cc d) 8 [aR (some 94), aI (zI t), aU, aU, aI (zI x), aI (zI fm), aU] [aI (zI w)] h = some (some (aI (zI (if fits m c x then 1 else 0))), h) := by
    intro w hw hw1
    rw [E_M_canHere_8, lt_e, zc4]
    simp (disch := omega) only [obj_e (z94 p.1), m6 p, idx_n (z101 p.1), r2, neq]
    unfold fits
    by_cases t4 : m.2.2.1 = 4
    · rw [if_pos t4, E_M_canHere_13, E_M_canHere_15, fr1]; simp [t4]
    · rw [if_neg t4, E_M_canHere_9, zc3]
      simp (disch := omega) only [obj_e (z94 p.1), m6 p, idx_n (z101 p.1), r2, neq]
      by_cases t3 : m.2.2.1 = 3
      · rw [if_pos t3, E_M_canHere_10, if_pos t3]
        simp (disch := omega) only [neq0]
        by_cases z : w = 0
        · have q := hw.mp z
          rw [if_pos z, E_M_canHere_11, E_M_canHere_13, E_M_canHere_15, fr1]
          have : (c.2.1 != x && (c.2.2.1 != x && c.2.2.2 != x)) = true := by
            simp only [Bool.and_eq_true, bne_iff_ne]; exact q
          rw [this]; rfl
        · rw [if_neg z, E_M_canHere_14, E_M_canHere_15, fr0]
          have : (c.2.1 != x && (c.2.2.1 != x && c.2.2.2 != x)) = false := by
            rw [Bool.eq_false_iff]
            simp only [ne_eq, Bool.and_eq_true, bne_iff_ne]
            exact fun q => z (hw.mpr q)
          rw [this]; rfl
      · rw [if_neg t3, E_M_canHere_12, if_neg t3, if_neg t4]
        simp (disch := omega) only [obj_e (z94 p.1), m6 p, idx_n (z101 p.1), r2, m46 p, nadd, idx_n (z130 p.1)]
        have hr : hI h 130 (fm + m.2.2.1) = zI (rg c m.2.2.1) := by
          unfold rg
          have hc3 : m.2.2.1 = 0 ∨ m.2.2.1 = 1 ∨ m.2.2.1 = 2 := by omega
          rcases hc3 with q | q | q <;> rw [q]
          · exact e1
          · exact e2
          · exact e3
        have hrg : rg c m.2.2.1 < 100 := by unfold rg; split; omega; split <;> omega
        rw [hr]
        simp (disch := omega) only [neq]
        by_cases z : rg c m.2.2.1 = x
        · rw [if_pos z, E_M_canHere_13, E_M_canHere_15, fr1, show (rg c m.2.2.1 == x) = true from beq_iff_eq.mpr z]; rfl
        · rw [if_neg z, E_M_canHere_14, E_M_canHere_15, fr0, show (rg c m.2.2.1 == x) = false from beq_eq_false_iff_ne.mpr z]; rfl
  rw [C_M_canHere, E_M_canHere_0]
  simp (disch := omega) only [obj_e (z94 p.1), m4 p, idx_n (z99 p.1), r0, neq]
  unfold canB
  by_cases a : m.1 = c.1
  · rw [if_pos a, E_M_canHere_1, show (m.1 == c.1) = true from beq_iff_eq.mpr a, Bool.true_and]
    simp (disch := omega) only [obj_e (z94 p.1), m5 p, idx_n (z100 p.1), r1, neq]
    by_cases b : m.2.1 = l
    · rw [if_pos b, E_M_canHere_3, show (m.2.1 == l) = true from beq_iff_eq.mpr b, Bool.true_and]
      simp (disch := omega) only [obj_e (z94 p.1), m46 p, idx_n (z130 p.1), e1, neq]
      by_cases z1 : c.2.1 = x
      · rw [if_pos z1, E_M_canHere_6, zc1]; exact e9 1 ⟨fun q => by omega, fun q => absurd z1 q.1⟩ (by omega)
      rw [if_neg z1, E_M_canHere_4, nadd1]
      simp (disch := omega) only [obj_e (z94 p.1), m46 p, idx_n (z130 p.1), e2, neq]
      by_cases z2 : c.2.2.1 = x
      · rw [if_pos z2, E_M_canHere_6, zc1]; exact e9 1 ⟨fun q => by omega, fun q => absurd z2 q.2.1⟩ (by omega)
      rw [if_neg z2, E_M_canHere_5, show zI 2 = zI ((2 : Nat) : Int) from rfl, nadd]
      simp (disch := omega) only [obj_e (z94 p.1), m46 p, idx_n (z130 p.1), e3, neq]
      by_cases z3 : c.2.2.2 = x
      · rw [if_pos z3, E_M_canHere_6, zc1]; exact e9 1 ⟨fun q => by omega, fun q => absurd z3 q.2.2⟩ (by omega)
      rw [if_neg z3, E_M_canHere_7, zc0]; exact e9 0 ⟨fun _ => ⟨z1, z2, z3⟩, fun _ => rfl⟩ (by omega)
    · rw [if_neg b, E_M_canHere_2, fr0, show (m.2.1 == l) = false from beq_eq_false_iff_ne.mpr b]; rfl
  · rw [if_neg a, E_M_canHere_2, fr0, show (m.1 == c.1) = false from beq_eq_false_iff_ne.mpr a]; rfl
def bog (h h' : AH) : Prop := mfr (fun a j => (a = 94 ∧ j = 45) ∨ (127 ≤ a ∧ a ≤ 129) ∨ a = 131) h h'
def HL (h : AH) (v : List Nat) : Prop := ∀ (i x : Nat), v[i]? = some x → hI h 130 i = zI x
def MBQ (s : Stt) (h : AH) (T : Nat → Nat) (Q : List (Jc × Nat)) : Prop := MS h ∧ MR h 0 s.1 ∧ MR h 1 s.2.1 ∧ TB h T ∧ TI T Q ∧ QH h Q ∧ QV Q
def QX (Q Q' : List (Jc × Nat)) (A : Jc → Prop) (f : Nat) : Prop := ∃ L, Q' = Q ++ L ∧ (∀ e, e ∈ L → e.2 = f ∧ A e.1) ∧ ∀ J, A J → J ∈ Q'.map Prod.fst
theorem QX_0 (Q : List (Jc × Nat)) {A : Jc → Prop} {f : Nat} (h : ∀ J, ¬ A J) : QX Q Q A f := ⟨[], by simp, (fun e he => by cases he), fun J hJ => absurd hJ (h J)⟩
theorem QX_t {Q Q1 Q2 : List (Jc × Nat)} {A B C : Jc → Prop} {f : Nat} (h1 : QX Q Q1 A f) (h2 : QX Q1 Q2 B f) (hC : ∀ J, C J ↔ A J ∨ B J) : QX Q Q2 C f := by
  obtain ⟨L1, a1, a2, a3⟩ := h1
  obtain ⟨L2, b1, b2, b3⟩ := h2
  refine ⟨L1 ++ L2, by rw [b1, a1, List.append_assoc], fun e he => ?_, fun J hJ => ?_⟩
  · rcases List.mem_append.mp he with q | q
    · exact ⟨(a2 e q).1, (hC _).mpr (Or.inl (a2 e q).2)⟩
    · exact ⟨(b2 e q).1, (hC _).mpr (Or.inr (b2 e q).2)⟩
  · rcases (hC J).mp hJ with q | q
    · rw [b1, List.map_append]; exact List.mem_append_left _ (a3 J q)
    · exact b3 J q
theorem MR_bo {h h' : AH} {j : Nat} {r : Rdr} (p : MR h j r) (f : bog h h') : MR h' j r := MR.mv p f (fun a i h1 h2 h3 => by omega)
theorem gb_cp (d : Nat) {x1 x2 x3 x4 x5 : Int32} {v : List Nat} (hv : v.length = 6) : ∀ (n i : Nat) (h : AH), i + n = 6 → MS h → HL h v → (∀ (t x : Nat), t < i → v[t]? = some x → hI h 131 t = zI x) →
    ∃ h', Rk B_M_goBoth L_M_goBoth (Cc d) 4 [aR (some 94), aI x1, aI x2, aI x3, aI x4, aI x5, aI (zI i)] [] h = Rk B_M_goBoth L_M_goBoth (Cc d) 6 [aR (some 94), aI x1, aI x2, aI x3, aI x4, aI x5, aU] [] h' ∧ mfr (fun a _ => a = 131) h h' ∧ HT h' v
  | 0, i, h, hi, p, hl, hp => by
    refine ⟨h, ?_, mfr.rf _ h, fun t x hx => hp t x (by have := (List.getElem?_eq_some_iff.mp hx).1; omega) hx⟩
    rw [E_M_goBoth_4, show zI 6 = zI ((6 : Nat) : Int) from rfl]
    simp (disch := omega) only [nlt]
    rw [if_neg (by omega)]
  | n + 1, i, h, hi, p, hl, hp => by
    have hvi : v[i]? = some v[i] := List.getElem?_eq_getElem (by omega)
    have f1 : mfr (fun a _ => a = 131) h (sI h 131 i (zI v[i])) := mfr_sI (F := fun a _ => a = 131) h rfl _
    obtain ⟨h', e, f, g⟩ := gb_cp d (x1 := x1) (x2 := x2) (x3 := x3) (x4 := x4) (x5 := x5) hv n (i + 1) (sI h 131 i (zI v[i])) (by omega) (p.mf f1) (fun t x hx => by rw [hI_off (by omega)]; exact hl t x hx) (by
      intro t x ht hx
      by_cases z : t = i
      · subst z
        rw [hvi] at hx
        cases hx
        rw [hI_hit]
      · rw [hI_off (by omega)]; exact hp t x (by omega) hx)
    refine ⟨h', ?_, f1.tr f, g⟩
    rw [E_M_goBoth_4, show zI 6 = zI ((6 : Nat) : Int) from rfl]
    simp (disch := omega) only [nlt]
    rw [if_pos (by omega), E_M_goBoth_5, obj_e (z94 p.1), obj_e (z94 p.1), m46 p, m47 p]
    simp (disch := omega) only [idx_n (z130 p.1), hl i _ hvi, idx_n (z131 p.1), lt_e, nadd1]
    exact e
theorem rs_go {J : Jc} {m m' : Mv} {x : Nat} : rs (goC m J.1 x, goC m' J.2 x) = [if m.2.2.2.1 = 0 then x else J.1.2.1, if m.2.2.2.1 = 1 then x else J.1.2.2.1, if m.2.2.2.1 = 2 then x else J.1.2.2.2, if m'.2.2.2.1 = 0 then x else J.2.2.1, if m'.2.2.2.1 = 1 then x else J.2.2.2.1, if m'.2.2.2.1 = 2 then x else J.2.2.2.2] := rfl
theorem HT_6 {h : AH} {a b c d e f : Nat} : HT h [a, b, c, d, e, f] ↔ hI h 131 0 = zI a ∧ hI h 131 1 = zI b ∧ hI h 131 2 = zI c ∧ hI h 131 3 = zI d ∧ hI h 131 4 = zI e ∧ hI h 131 5 = zI f := by
  constructor
  · intro w; exact ⟨w 0 a rfl, w 1 b rfl, w 2 c rfl, w 3 d rfl, w 4 e rfl, w 5 f rfl⟩
  · rintro ⟨w0, w1, w2, w3, w4, w5⟩ i x hx
    match i, hx with
    | 0, hx => simp at hx; rw [← hx]; exact w0
    | 1, hx => simp at hx; rw [← hx]; exact w1
    | 2, hx => simp at hx; rw [← hx]; exact w2
    | 3, hx => simp at hx; rw [← hx]; exact w3
    | 4, hx => simp at hx; rw [← hx]; exact w4
    | 5, hx => simp at hx; rw [← hx]; exact w5
    | i + 6, hx => simp at hx
/-- one register is set -/
theorem HT_set {h : AH} {J : Jc} {m m' : Mv} {x : Nat} (hm : MV m) (hm' : MV m') (ht : HT h (rs J)) : ∃ h1 h2, (h1 = if m.2.2.2.1 = -1 then h else sI h 131 m.2.2.2.1.toNat (zI x)) ∧ (h2 = if m'.2.2.2.1 = -1 then h1 else sI h1 131 (3 + m'.2.2.2.1.toNat) (zI x)) ∧ HT h2 (rs (goC m J.1 x, goC m' J.2 x)) := by
  refine ⟨_, _, rfl, rfl, ?_⟩
  unfold MV at hm hm'
  unfold rs at ht
  rw [HT_6] at ht
  rw [rs_go, HT_6]
  obtain ⟨w0, w1, w2, w3, w4, w5⟩ := ht
  have c1 : m.2.2.2.1 = -1 ∨ m.2.2.2.1 = 0 ∨ m.2.2.2.1 = 1 ∨ m.2.2.2.1 = 2 := by omega
  have c2 : m'.2.2.2.1 = -1 ∨ m'.2.2.2.1 = 0 ∨ m'.2.2.2.1 = 1 ∨ m'.2.2.2.1 = 2 := by omega
  have hsi : ∀ (h : AH) (j : Nat) (y : Int32) (i : Nat), hI (sI h 131 j y) 131 i = if i = j then y else hI h 131 i := by
    intro h j y i
    by_cases z : i = j
    · rw [z, hI_hit, if_pos rfl]
    · rw [hI_off (Or.inr z), if_neg z]
  rcases c1 with q | q | q | q <;> rcases c2 with r | r | r | r <;> simp only [q, r] <;> simp [hsi, w0, w1, w2, w3, w4, w5] <;> rfl
theorem MBQ.mf {s : Stt} {h h' : AH} {T : Nat → Nat} {Q : List (Jc × Nat)} (q : MBQ s h T Q) (f : mfr (fun a _ => a = 130 ∨ a = 131) h h') : MBQ s h' T Q := by
  obtain ⟨p, r0, r1, tb, ti, qh, qv⟩ := q
  exact ⟨p.mf f, r0.mv f (fun a i h1 h2 h3 => by omega), r1.mv f (fun a i h1 h2 h3 => by omega), fun x hx => by rw [f.I (by omega)]; exact tb x hx, ti, ⟨by rw [f.I (by omega)]; exact qh.1, fun i e he => by rw [f.I (by omega), f.I (by omega)]; exact qh.2 i e he⟩, qv⟩
theorem gb_t (d : Nat) {s : Stt} {J : Jc} {t0 x by_ : Nat} {m : Mv} (hv : VS s) (hJ : JV J) (hm : s.1.2.2.2[t0]? = some m) (hx : x ≤ tJ J + 1) : ∀ (k t : Nat) (h : AH) (T : Nat → Nat) (Q : List (Jc × Nat)), t + k = s.2.1.2.2.2.length → MBQ s h T Q → HL h (rs J) →
    ∃ h' T' Q', Rk B_M_goBoth L_M_goBoth (Cc (d + 2)) 1 [aR (some 94), aI (zI t0), aI (zI J.2.1), aI (zI x), aI (zI by_), aI (zI ((20 + t : Nat) : Int)), aU] [] h = some (none, h') ∧ bog h h' ∧ MBQ s h' T' Q' ∧ HL h' (rs J) ∧ QX Q Q' (fun J' => ∃ (t' : Nat) (m' : Mv), t ≤ t' ∧ s.2.1.2.2.2[t']? = some m' ∧ canB m' J.2 m.2.1 x = true ∧ J' = kj (goC m J.1 x, goC m' J.2 x)) by_
  | 0, t, h, T, Q, hk, q, hl => by
    have hl20 := hv.2.1.2.2.2.2.1
    refine ⟨h, T, Q, ?_, mfr.rf _ h, q, hl, QX_0 Q (fun J' ⟨t', m', h1, h2, _⟩ => by have := (List.getElem?_eq_some_iff.mp h2).1; omega)⟩
    rw [E_M_goBoth_1, obj_e (z94 q.1.1), m3 q.1, zc1]
    simp (disch := omega) only [idx_n (z98 q.1.1), q.2.2.1.2.2.2.1]
    rw [show zI 20 = zI ((20 : Nat) : Int) from rfl, nadd]
    simp (disch := omega) only [nlt]
    rw [if_neg (by omega), E_M_goBoth_12]
  | k + 1, t, h, T, Q, hk, q, hl => by
    have hl20 := hv.2.1.2.2.2.2.1
    have hb := hJ.b
    have h0i := hv.1.mi hm
    have hm1 : s.2.1.2.2.2[t]? = some s.2.1.2.2.2[t] := List.getElem?_eq_getElem (by omega)
    have h1i := hv.2.1.mi hm1
    have mr0 := q.2.1.2.2.2.2 t0 m hm
    rw [Nat.mul_zero, Nat.zero_add] at mr0
    have mr1 := q.2.2.1.2.2.2.2 t _ hm1
    rw [Nat.mul_one] at mr1
    have hq2 := hJ.2.1
    have hlt := h0i.1.2.1
    have p := q.1
    have ec := M_canHere (d + 1) p (t := 20 + t) (fm := 3) (m := s.2.1.2.2.2[t]) (c := J.2) (l := m.2.1) (x := x) (by omega) mr1 h1i.1 (by omega) (by omega) (by omega) (by omega) (by omega) (hl 3 _ rfl) (hl 4 _ rfl) (hl 5 _ rfl) hlt (by omega)
    have e0 : Rk B_M_goBoth L_M_goBoth (Cc (d + 2)) 1 [aR (some 94), aI (zI t0), aI (zI J.2.1), aI (zI x), aI (zI by_), aI (zI ((20 + t : Nat) : Int)), aU] [] h = if canB s.2.1.2.2.2[t] J.2 m.2.1 x = true then Rk B_M_goBoth L_M_goBoth (Cc (d + 2)) 3 [aR (some 94), aI (zI t0), aI (zI J.2.1), aI (zI x), aI (zI by_), aI (zI ((20 + t : Nat) : Int)), aU] [] h else Rk B_M_goBoth L_M_goBoth (Cc (d + 2)) 11 [aR (some 94), aI (zI t0), aI (zI J.2.1), aI (zI x), aI (zI by_), aI (zI ((20 + t : Nat) : Int)), aU] [] h := by
      rw [E_M_goBoth_1, obj_e (z94 q.1.1), m3 q.1, zc1]
      simp (disch := omega) only [idx_n (z98 q.1.1), q.2.2.1.2.2.2.1]
      rw [show zI 20 = zI ((20 : Nat) : Int) from rfl, nadd]
      simp (disch := omega) only [nlt]
      rw [if_pos (by omega), E_M_goBoth_2, obj_e (z94 p.1), m5 p]
      simp (disch := omega) only [idx_n (z100 p.1), mr0.2.1]
      rw [obj_e (z94 p.1), zc3, calI_e ec, if01]
    have cont : ∀ (h1 : AH) (T1 : Nat → Nat) (Q1 : List (Jc × Nat)), Rk B_M_goBoth L_M_goBoth (Cc (d + 2)) 1 [aR (some 94), aI (zI t0), aI (zI J.2.1), aI (zI x), aI (zI by_), aI (zI ((20 + t : Nat) : Int)), aU] [] h = Rk B_M_goBoth L_M_goBoth (Cc (d + 2)) 11 [aR (some 94), aI (zI t0), aI (zI J.2.1), aI (zI x), aI (zI by_), aI (zI ((20 + t : Nat) : Int)), aU] [] h1 → bog h h1 → MBQ s h1 T1 Q1 → QX Q Q1 (fun J' => canB s.2.1.2.2.2[t] J.2 m.2.1 x = true ∧ J' = kj (goC m J.1 x, goC s.2.1.2.2.2[t] J.2 x)) by_ →
        ∃ h' T' Q', Rk B_M_goBoth L_M_goBoth (Cc (d + 2)) 1 [aR (some 94), aI (zI t0), aI (zI J.2.1), aI (zI x), aI (zI by_), aI (zI ((20 + t : Nat) : Int)), aU] [] h = some (none, h') ∧ bog h h' ∧ MBQ s h' T' Q' ∧ HL h' (rs J) ∧ QX Q Q' (fun J' => ∃ (t' : Nat) (m' : Mv), t ≤ t' ∧ s.2.1.2.2.2[t']? = some m' ∧ canB m' J.2 m.2.1 x = true ∧ J' = kj (goC m J.1 x, goC m' J.2 x)) by_ := by
      intro h1 T1 Q1 e1 f1 q1 x1
      obtain ⟨h', T', Q', e, f, q', hl', qx⟩ := gb_t d (by_ := by_) hv hJ hm hx k (t + 1) h1 T1 Q1 (by omega) q1 (fun i y hy => by rw [f1.I (by omega)]; exact hl i y hy)
      refine ⟨h', T', Q', ?_, mfr.tr f1 f, q', hl', QX_t x1 qx (fun J' => ?_)⟩
      · rw [e1, E_M_goBoth_11, nadd1, lt_e]; exact e
      · constructor
        · rintro ⟨t', m', w1, w2, w3⟩
          by_cases y : t' = t
          · subst y
            rw [hm1] at w2
            cases w2
            exact Or.inl w3
          · exact Or.inr ⟨t', m', by omega, w2, w3⟩
        · rintro (w | ⟨t', m', w1, w2⟩)
          · exact ⟨t, _, Nat.le_refl _, hm1, w⟩
          · exact ⟨t', m', by omega, w2⟩
    cases y : canB s.2.1.2.2.2[t] J.2 m.2.1 x with
    | false =>
      rw [y, if_neg (show ¬ (false = true) by simp)] at e0
      exact cont h T Q e0 (mfr.rf _ h) q (QX_0 Q (fun J' w => by rw [y] at w; cases w.1))
    | true =>
      rw [y, if_pos rfl, E_M_goBoth_3, lt_e] at e0
      obtain ⟨h1, c1, g1, t1⟩ := gb_cp (d + 2) (x1 := zI t0) (x2 := zI J.2.1) (x3 := zI x) (x4 := zI by_) (x5 := zI ((20 + t : Nat) : Int)) (rs_len J) 6 0 h (by omega) p hl (fun t x ht => absurd ht (Nat.not_lt_zero _))
      have p1 := p.mf g1
      obtain ⟨h2, h3, d2, d3, t3⟩ := HT_set (x := x) h0i.1 h1i.1 t1
      have g2 : mfr (fun a _ => a = 131) h1 h2 := by
        rw [d2]
        split
        · exact mfr.rf _ h1
        · exact mfr_sI (F := fun a _ => a = 131) h1 rfl _
      have g3 : mfr (fun a _ => a = 131) h2 h3 := by
        rw [d3]
        split
        · exact mfr.rf _ h2
        · exact mfr_sI (F := fun a _ => a = 131) h2 rfl _
      have g4 := (g1.tr g2).tr g3
      have p2 := p1.mf g2
      have p3 := p2.mf g3
      have q3 : MBQ s h3 T Q := q.mf (g4.mo (fun a _ w => Or.inr w))
      have k0 := h0i.1
      have k1 := h1i.1
      unfold MV at k0 k1
      have mr0a : mrow h1 t0 m := by
        have := (q.mf (g1.mo (fun a _ w => Or.inr w))).2.1.2.2.2.2 t0 m hm
        rwa [Nat.mul_zero, Nat.zero_add] at this
      have mr1a : mrow h2 (20 + t) s.2.1.2.2.2[t] := by
        have := (q.mf ((g1.tr g2).mo (fun a _ w => Or.inr w))).2.2.1.2.2.2.2 t _ hm1
        rwa [Nat.mul_one] at this
      have mr0b : mrow h3 t0 m := by
        have := q3.2.1.2.2.2.2 t0 m hm
        rwa [Nat.mul_zero, Nat.zero_add] at this
      have mr1b : mrow h3 (20 + t) s.2.1.2.2.2[t] := by
        have := q3.2.2.1.2.2.2.2 t _ hm1
        rwa [Nat.mul_one] at this
      have b8 : Rk B_M_goBoth L_M_goBoth (Cc (d + 2)) 6 [aR (some 94), aI (zI t0), aI (zI J.2.1), aI (zI x), aI (zI by_), aI (zI ((20 + t : Nat) : Int)), aU] [] h1 = Rk B_M_goBoth L_M_goBoth (Cc (d + 2)) 8 [aR (some 94), aI (zI t0), aI (zI J.2.1), aI (zI x), aI (zI by_), aI (zI ((20 + t : Nat) : Int)), aU] [] h2 := by
        rw [E_M_goBoth_6]
        simp (disch := omega) only [obj_e (z94 p1.1), m7 p1, idx_n (z102 p1.1), mr0a.2.2.2.1, yeq]
        by_cases z : m.2.2.2.1 = -1
        · rw [if_pos z] at d2
          rw [if_pos z, d2]
        · rw [if_neg z] at d2
          obtain ⟨kk, hkk⟩ : ∃ kk : Nat, m.2.2.2.1 = kk := ⟨m.2.2.2.1.toNat, by omega⟩
          rw [hkk, Int.toNat_natCast] at d2
          rw [if_neg z, E_M_goBoth_7]
          simp (disch := omega) only [obj_e (z94 p1.1), m7 p1, idx_n (z102 p1.1), mr0a.2.2.2.1, m47 p1, hkk, idx_n (z131 p1.1), lt_e]
          rw [d2]
      have b10 : Rk B_M_goBoth L_M_goBoth (Cc (d + 2)) 8 [aR (some 94), aI (zI t0), aI (zI J.2.1), aI (zI x), aI (zI by_), aI (zI ((20 + t : Nat) : Int)), aU] [] h2 = Rk B_M_goBoth L_M_goBoth (Cc (d + 2)) 10 [aR (some 94), aI (zI t0), aI (zI J.2.1), aI (zI x), aI (zI by_), aI (zI ((20 + t : Nat) : Int)), aU] [] h3 := by
        rw [E_M_goBoth_8]
        simp (disch := omega) only [obj_e (z94 p2.1), m7 p2, idx_n (z102 p2.1), mr1a.2.2.2.1, yeq]
        by_cases z : s.2.1.2.2.2[t].2.2.2.1 = -1
        · rw [if_pos z] at d3
          rw [if_pos z, d3]
        · rw [if_neg z] at d3
          obtain ⟨kk, hkk⟩ : ∃ kk : Nat, s.2.1.2.2.2[t].2.2.2.1 = kk := ⟨s.2.1.2.2.2[t].2.2.2.1.toNat, by omega⟩
          rw [hkk, Int.toNat_natCast] at d3
          rw [if_neg z, E_M_goBoth_9]
          simp (disch := omega) only [obj_e (z94 p2.1), m7 p2, idx_n (z102 p2.1), mr1a.2.2.2.1, m47 p2, hkk, show zI 3 = zI ((3 : Nat) : Int) from rfl, nadd, idx_n (z131 p2.1), lt_e]
          rw [d3]
      have kv : JV (kj (goC m J.1 x, goC s.2.1.2.2.2[t] J.2 x)) := kj_v (show m.2.2.2.2 < 6 by omega) (show s.2.1.2.2.2[t].2.2.2.2 < 6 by omega)
      have vb : ∀ y, y ∈ rs (goC m J.1 x, goC s.2.1.2.2.2[t] J.2 x) → y < 100 := by
        rw [rs_go]
        intro y hy
        simp only [List.mem_cons, List.mem_nil_iff, or_false] at hy
        rcases hy with w | w | w | w | w | w <;> rw [w] <;> split <;> omega
      have et := M_together d p3 (J := (goC m J.1 x, goC s.2.1.2.2.2[t] J.2 x)) t3 vb
      obtain ⟨-, r0, r1, tb, ti, qh, qv⟩ := id q3
      obtain ⟨h5, T5, Q5, em, fm, tb5, ti5, qh5, qv5, alt⟩ := M_meet (d + 1) p3 tb ti qh qv kv (n := by_)
      have f5 : bog h h5 := (g4.mo (fun a _ w => Or.inr (Or.inr w))).tr (mfr.mo fm (fun a j w => w.elim Or.inl (fun w => Or.inr (Or.inl w))))
      have fmb : mfr (fun a j => (a = 94 ∧ j = 45) ∨ (127 ≤ a ∧ a ≤ 129) ∨ a = 131) h3 h5 := mfr.mo fm (fun a j w => w.elim Or.inl (fun w => Or.inr (Or.inl w)))
      refine cont h5 T5 Q5 ?_ f5 ⟨p3.mf fm, MR_bo r0 fmb, MR_bo r1 fmb, tb5, ti5, qh5, qv5⟩ ?_
      · rw [e0]
        refine Eq.trans c1 ?_
        rw [b8, b10, E_M_goBoth_10]
        simp (disch := omega) only [obj_e (z94 p3.1), m8 p3, idx_n (z103 p3.1), mr0b.2.2.2.2, mr1b.2.2.2.2]
        rw [calI_e (show Cc (d + 2) k_M_together [aR (some 94), aI (zI m.2.2.2.2), aI (zI s.2.1.2.2.2[t].2.2.2.2)] h3 = _ from et), obj_e (z94 p3.1), calV_e em]
      · by_cases z : kj (goC m J.1 x, goC s.2.1.2.2.2[t] J.2 x) ∈ Q.map Prod.fst
        · rw [if_pos z] at alt
          subst alt
          exact ⟨[], by simp, (fun e he => by cases he), fun J' w => by rw [w.2]; exact z⟩
        · rw [if_neg z] at alt
          subst alt
          refine ⟨[(kj (goC m J.1 x, goC s.2.1.2.2.2[t] J.2 x), by_)], rfl, fun e he => ?_, fun J' w => ?_⟩
          · rw [List.mem_singleton.mp he]; exact ⟨rfl, y, rfl⟩
          · rw [w.2, List.map_append]; exact List.mem_append_right _ (List.mem_singleton.mpr rfl)
