/-! the model: fault, moves -/
def fF (a j : Nat) : Prop := (a = 94 ∧ (j = 9 ∨ j = 20 ∨ j = 21 ∨ j = 22)) ∨ (104 ≤ a ∧ a ≤ 108)
def RES (t : List Nat) (r : Rdr) (n e : Nat) (ms : List Mv) : Int × List Mv := if tkS t e < t.length then (if isW t (tkS t e) (tkE t e) [59] then PL t r.1 r.2.1 n (tkE t e) ms else (tkS t e, ms)) else (-1, ms)
theorem rrow_mv {F : Nat → Nat → Prop} {h h' : AH} {i : Nat} {m : Mv} (p : rrow h i m) (f : mfr F h h') (n : ∀ a, 104 ≤ a → a ≤ 108 → ¬ F a i) : rrow h' i m := by
  unfold rrow at *
  rw [f.I (n 104 (by omega) (by omega)), f.I (n 105 (by omega) (by omega)), f.I (n 106 (by omega) (by omega)), f.I (n 107 (by omega) (by omega)), f.I (n 108 (by omega) (by omega))]
  exact p
theorem rrows_s {h h' : AH} {ms : List Mv} {m : Mv} (hm : ∀ (i : Nat) (m' : Mv), ms[i]? = some m' → rrow h i m') (f : mfr (fR ms.length) h h') (g : rrow h' ms.length m) : ∀ (i : Nat) (m' : Mv), (ms ++ [m])[i]? = some m' → rrow h' i m' := by
  intro i m' hi
  have hi2 := (List.getElem?_eq_some_iff.mp hi).1
  rw [List.length_append] at hi2
  by_cases z : i < ms.length
  · rw [List.getElem?_append_left z] at hi
    exact rrow_mv (hm i m' hi) f (fun a h1 h2 => by unfold fR; omega)
  · have : i = ms.length := by simp at hi2; omega
    subst this
    simp at hi
    rw [← hi]; exact g
theorem M_fault_lp (d : Nat) {t : List Nat} {j : Nat} {r : Rdr} (hv : RV r) (hj : j < 2) : ∀ (n e : Nat) (ms : List Mv) (h : AH), n + ms.length = 150 → 9 * ms.length ≤ e + 1 → e ≤ t.length → MTQ h t → MR h j r → TKM h t e → hI h 94 9 = zI ms.length → (∀ (i : Nat) (m : Mv), ms[i]? = some m → rrow h i m) →
    ∃ h', Rk B_M_fault L_M_fault (Cc (d + 4)) 4 [aR (some 94), aI (zI j), aU] [] h = some (some (aI (zI (RES t r n e ms).1)), h') ∧ mfr fF h h' ∧ hI h' 94 9 = zI (RES t r n e ms).2.length ∧ ∀ (i : Nat) (m : Mv), (RES t r n e ms).2[i]? = some m → rrow h' i m
  | 0, e, ms, h, h1, h2, h3, q, mr, k, h9, hm => by have := q.2.2.1; omega
  | n + 1, e, ms, h, h1, h2, h3, q, mr, k, h9, hm => by
    have hl := q.2.2.1
    obtain ⟨b1, b2, b3, b4⟩ := tk_b h3
    rw [E_M_fault_4]
    simp (disch := omega) only [obj_e (z94 q.1.1), k.2.1, q.2.1.1, nlt]
    unfold RES
    by_cases x : tkS t e < t.length
    · obtain ⟨c1, c2, c3⟩ := q.c x
      rw [if_pos x, if_pos x, E_M_fault_5]
      simp only [obj_e (z94 q.1.1), k.2.1, k.2.2]
      rw [show zI (tkE t e : Int) - zI (tkS t e) = zI ((tkE t e - tkS t e : Nat) : Int) from by rw [zI_sub]; congr 1; omega, zc1]
      simp (disch := omega) only [neq]
      have no : isW t (tkS t e) (tkE t e) [59] = false → ∃ h', Rk B_M_fault L_M_fault (Cc (d + 4)) 8 [aR (some 94), aI (zI j), aU] [] h = some (some (aI (zI (if isW t (tkS t e) (tkE t e) [59] then PL t r.1 r.2.1 (n + 1) (tkE t e) ms else (tkS t e, ms)).1)), h') ∧ mfr fF h h' ∧ hI h' 94 9 = zI (if isW t (tkS t e) (tkE t e) [59] then PL t r.1 r.2.1 (n + 1) (tkE t e) ms else (tkS t e, ms)).2.length ∧ ∀ (i : Nat) (m : Mv), (if isW t (tkS t e) (tkE t e) [59] then PL t r.1 r.2.1 (n + 1) (tkE t e) ms else (tkS t e, ms)).2[i]? = some m → rrow h' i m := by
        intro hw
        rw [hw]
        refine ⟨h, ?_, mfr.rf _ h, h9, hm⟩
        rw [E_M_fault_8, E_M_fault_9, lt_e, if_pos zI_0.symm, E_M_fault_11, if_pos zI_0.symm, E_M_fault_12, obj_e (z94 q.1.1), k.2.1]
        rfl
      by_cases y : tkE t e - tkS t e = 1
      · rw [if_pos y, E_M_fault_6]
        simp (disch := omega) only [obj_e (z94 q.1.1), k.2.1, m15 q.1, idx_n (z109 q.1.1), c1, yeq]
        by_cases z : ch t (tkS t e) = 59
        · have hw : isW t (tkS t e) (tkE t e) [59] = true := by
            rw [isW1, show (tkE t e == tkS t e + 1) = true from by rw [beq_iff_eq]; omega, z]; rfl
          rw [if_pos (by omega), hw, if_pos rfl, E_M_fault_7, E_M_fault_9, lt_e, if_neg (by decide), E_M_fault_10, obj_e (z94 q.1.1)]
          obtain ⟨h1', c1', f1, k1, q1⟩ := M_token (d + 2) q b3 k.1
          have mr1 := mr.mv f1 (by intro a i; unfold fA; omega)
          obtain ⟨h2', v, c2', f2, q2, pm⟩ := M_readsMove d q1 k1 mr1 hv hj b3 (n := ms.length) (by rw [f1.I (by unfold fA; omega)]; exact h9) (by omega)
          have f12 : mfr fF h h2' := (f1.mo (by intro a i; unfold fA fF; omega)).tr (f2.mo (by intro a i; unfold fR fF; omega))
          have hm1 : ∀ (i : Nat) (m : Mv), ms[i]? = some m → rrow h1' i m := fun i m hi => rrow_mv (hm i m hi) f1 (by intro a _ _; unfold fA; omega)
          rw [calV_e c1', obj_e (z94 q1.1.1), calI_e c2', lt_e]
          unfold PL
          cases pe : PM t r.1 r.2.1 (tkE t e) with
          | inl s =>
            rw [pe] at pm
            obtain ⟨rfl, g4, g3⟩ := pm
            refine ⟨h2', ?_, f12, g3, ?_⟩
            · rw [E_M_fault_11, if_pos zI_0.symm, E_M_fault_12, obj_e (z94 q2.1.1), g4]
            · intro i m hi
              have hi : ms[i]? = some m := hi
              have hi2 := (List.getElem?_eq_some_iff.mp hi).1
              exact rrow_mv (hm1 i m hi) f2 (fun a h1 h2 => by unfold fR; omega)
          | inr me =>
            obtain ⟨m, e2⟩ := me
            rw [pe] at pm
            obtain ⟨rfl, g5, g3, gm⟩ := pm
            have b := PM_b b3 pe
            obtain ⟨h3', c3', f3, g9, gm3⟩ := M_fault_lp d hv hj n e2 (ms ++ [m]) h2' (by simp; omega) (by simp; omega) b.2.1 q2 (mr1.mv f2 (by intro a i; unfold fR; omega)) g5 (by rw [g3]; simp) (rrows_s hm1 f2 gm)
            refine ⟨h3', ?_, f12.tr f3, g9, gm3⟩
            rw [E_M_fault_11, if_neg (by decide), E_M_fault_13]
            exact c3'
        · rw [if_neg (by omega)]
          exact no (by rw [isW1, show (ch t (tkS t e) == 59) = false from beq_eq_false_iff_ne.mpr z, Bool.and_false])
      · rw [if_neg y]
        exact no (by rw [isW1, show (tkE t e == tkS t e + 1) = false from by rw [beq_eq_false_iff_ne]; omega]; rfl)
    · rw [if_neg x, if_neg x]
      exact ⟨h, by rw [E_M_fault_14], mfr.rf _ h, h9, hm⟩
/-- fault: of a reader that there is -/
theorem M_fault1 (d : Nat) {h : AH} {t : List Nat} {r : Rdr} {x : Int} (a1 : x = 0 ∨ x = 1) (q : MTQ h t) (mr : MR h x.toNat r) (hv : RV r) : ∃ h', Cc (d + 5) k_M_fault [aR (some 94), aI (zI x)] h = some (some (aI (zI (PTX t r).1)), h') ∧ mfr fF h h' ∧ hI h' 94 9 = zI (PTX t r).2.length ∧ ∀ (i : Nat) (m : Mv), (PTX t r).2[i]? = some m → rrow h' i m := by
  obtain ⟨j, rfl⟩ : ∃ j : Nat, x = j := ⟨x.toNat, by omega⟩
  rw [Int.toNat_natCast] at mr
  have hj : j < 2 := by omega
  rw [C_M_fault, E_M_fault_0, calI_e (M_isReader _ h (by omega) (by omega)), if01, if_pos a1, E_M_fault_2]
  simp only [obj_e (z94 q.1.1), mb_some, obj_sI]
  have f0 : mfr fF h (sI (sI h 94 20 (zI 0)) 94 9 (zI 0)) := (mfr_sI h (by unfold fF; omega) _).tr (mfr_sI _ (by unfold fF; omega) _)
  have q0 := q.mv f0 (by unfold fF; omega) (by unfold fF; omega)
  have mr0 := mr.mv f0 (by intro a i; unfold fF; omega)
  obtain ⟨h1, c1, f1, k1, q1⟩ := M_token (d + 2) q0 (e := 0) (by omega) (by rw [hI_off (by omega), hI_hit]; rfl)
  have mr1 := mr0.mv f1 (by intro a i; unfold fA; omega)
  obtain ⟨h2, v, c2, f2, q2, pm⟩ := M_readsMove d q1 k1 mr1 hv hj (by omega) (n := 0) (by rw [f1.I (by unfold fA; omega), hI_hit]; rfl) (by omega)
  have f12 : mfr fF h h2 := (f0.tr (f1.mo (by intro a i; unfold fA fF; omega))).tr (f2.mo (by intro a i; unfold fR fF; omega))
  rw [calV_e c1, obj_e (z94 q1.1.1), calI_e c2]
  unfold PTX PL
  cases pe : PM t r.1 r.2.1 0 with
  | inl s =>
    rw [pe] at pm
    obtain ⟨rfl, g4, g3⟩ := pm
    refine ⟨h2, ?_, f12, g3, by intro i m hi; simp at hi⟩
    rw [if_pos zI_0.symm, E_M_fault_3, obj_e (z94 q2.1.1), g4]
  | inr me =>
    obtain ⟨m, e2⟩ := me
    rw [pe] at pm
    obtain ⟨rfl, g5, g3, gm⟩ := pm
    have b := PM_b (Nat.zero_le _) pe
    obtain ⟨h3, c3, f3, g9, gm3⟩ := M_fault_lp d hv hj 149 e2 [m] h2 (by simp) (by simp; omega) b.2.1 q2 (mr1.mv f2 (by intro a i; unfold fR; omega)) g5 (by rw [g3]; rfl) (by
      intro i m' hi
      have hi2 := (List.getElem?_eq_some_iff.mp hi).1
      have : i = 0 := by simp at hi2; omega
      subst this
      simp at hi
      rw [← hi]; exact gm)
    refine ⟨h3, ?_, f12.tr f3, g9, gm3⟩
    rw [if_neg (by decide)]
    exact c3
theorem M_fault {x : Int} (x1 : -2147483648 ≤ x) (x2 : x < 2147483648) : MOK k_M_fault [aI (zI x)] (fun s => if x = 0 ∨ x = 1 then (PTX s.2.2.1 (rdr s x)).1 else -2) id := by
  intro s k h hk v p
  by_cases a1 : x = 0 ∨ x = 1
  · simp only [if_pos a1]
    obtain ⟨h', c, f, g9, gm⟩ := M_fault1 55 a1 (h := h) (t := s.2.2.1) ⟨p.1, p.2.2.2.1, v.2.2.1⟩ (p.mr a1) (v.rv x)
    exact ⟨h', c, f.mo (by intro a i; unfold fF; omega), (p.mv f (by intro a i; unfold fF scr; omega)).up⟩
  · simp only [if_neg a1]
    exact ⟨h, by rw [C_M_fault, E_M_fault_0, calI_e (M_isReader _ h x1 x2), if01, if_neg a1, E_M_fault_1], mfr.rf _ h, p.up⟩
theorem M_moves_lp (d : Nat) {j L : Nat} {ms : List Mv} (hj : j < 2) (hL : L + ms.length ≤ 20) : ∀ (k i : Nat) (h : AH), i + k = ms.length → MS h → hI h 94 9 = zI ms.length → hI h 98 j = zI ((L + i : Nat) : Int) → (∀ (i : Nat) (m : Mv), ms[i]? = some m → rrow h i m) →
    ∃ h', Rk B_M_moves L_M_moves (Cc d) 7 [aR (some 94), aI (zI j), aI (zI i), aU] [] h = Rk B_M_moves L_M_moves (Cc d) 9 [aR (some 94), aI (zI j), aU, aU] [] h' ∧ mfr (fun a t => (a = 98 ∧ t = j) ∨ (99 ≤ a ∧ a ≤ 103 ∧ 20 * j + L + i ≤ t ∧ t < 20 * j + 20)) h h' ∧ hI h' 98 j = zI ((L + ms.length : Nat) : Int) ∧ (∀ (t : Nat) (m : Mv), i ≤ t → ms[t]? = some m → mrow h' (20 * j + L + t) m)
  | 0, i, h, hk, p, h9, h98, hm => by
    have : i = ms.length := by omega
    subst this
    refine ⟨h, ?_, mfr.rf _ h, h98, fun t m h1 h2 => ?_⟩
    · rw [E_M_moves_7]
      simp (disch := omega) only [obj_e (z94 p.1), h9, nlt]
      rw [if_neg (by omega)]
    · have := (List.getElem?_eq_some_iff.mp h2).1; omega
  | k + 1, i, h, hk, p, h9, h98, hm => by
    have hi : ms[i]? = some ms[i] := List.getElem?_eq_getElem (by omega)
    obtain ⟨r0, r1, r2, r3, r4⟩ := hm i _ hi
    have f : mfr (fun a t => (a = 98 ∧ t = j) ∨ (99 ≤ a ∧ a ≤ 103 ∧ t = 20 * j + (L + i))) h (sI (sI (sI (sI (sI (sI h 99 (20 * j + (L + i)) (zI ms[i].1)) 100 (20 * j + (L + i)) (zI ms[i].2.1)) 101 (20 * j + (L + i)) (zI ms[i].2.2.1)) 102 (20 * j + (L + i)) (zI ms[i].2.2.2.1)) 103 (20 * j + (L + i)) (zI ms[i].2.2.2.2)) 98 j (zI ((L + i + 1 : Nat) : Int))) :=
      (((((mfr_sI h (by omega) _).tr (mfr_sI _ (by omega) _)).tr (mfr_sI _ (by omega) _)).tr (mfr_sI _ (by omega) _)).tr (mfr_sI _ (by omega) _)).tr (mfr_sI _ (by omega) _)
    obtain ⟨h', e, f2, g1, g2⟩ := M_moves_lp d hj hL k (i + 1) _ (by omega) (p.mf f) (by rw [f.I (by omega)]; exact h9) (by rw [hI_hit]; rfl) (fun t m ht => rrow_mv (hm t m ht) f (by intro a _ _; omega))
    refine ⟨h', ?_, (f.mo (fun a t hh => by omega)).tr (f2.mo (fun a t hh => by omega)), g1, ?_⟩
    · rw [E_M_moves_7]
      simp (disch := omega) only [obj_e (z94 p.1), h9, nlt]
      rw [if_pos (by omega), E_M_moves_8]
      simp (disch := omega) only [obj_e (z94 p.1), m3 p, idx_n (z98 p.1), h98, lt_e]
      rw [show zI 20 * zI j + zI ((L + i : Nat) : Int) = zI ((20 * j + (L + i) : Nat) : Int) from by rw [zI_mul, zI_add]; rfl]
      simp (disch := omega) only [obj_e (z94 p.1), obj_sI, hR_sI, idx_sI, m3 p, m4 p, m5 p, m6 p, m7 p, m8 p, m10 p, m11 p, m12 p, m13 p, m14 p, idx_n (z98 p.1), idx_n (z99 p.1), idx_n (z100 p.1), idx_n (z101 p.1), idx_n (z102 p.1), idx_n (z103 p.1), idx_n (z104 p.1), idx_n (z105 p.1), idx_n (z106 p.1), idx_n (z107 p.1), idx_n (z108 p.1), lt_e, hI_off, h98, r0, r1, r2, r3, r4, nadd1]
      exact e
    · intro t m h1 h2
      by_cases z : t = i
      · subst z
        rw [hi] at h2
        cases h2
        unfold mrow
        rw [show 20 * j + L + t = 20 * j + (L + t) by omega, f2.I (by omega), f2.I (by omega), f2.I (by omega), f2.I (by omega), f2.I (by omega)]
        refine ⟨?_, ?_, ?_, ?_, ?_⟩
        · rw [hI_off (by omega), hI_off (by omega), hI_off (by omega), hI_off (by omega), hI_off (by omega), hI_hit]
        · rw [hI_off (by omega), hI_off (by omega), hI_off (by omega), hI_off (by omega), hI_hit]
        · rw [hI_off (by omega), hI_off (by omega), hI_off (by omega), hI_hit]
        · rw [hI_off (by omega), hI_off (by omega), hI_hit]
        · rw [hI_off (by omega), hI_hit]
      · exact g2 t m (by omega) h2
theorem M_moves {x : Int} (x1 : -2147483648 ≤ x) (x2 : x < 2147483648) : MOK k_M_moves [aI (zI x)] (fun s => mvsA s x) (fun s => mvsN s x) := by
  intro s k h hk v p
  rw [C_M_moves, E_M_moves_0, calI_e (M_isReader _ h x1 x2), if01]
  unfold mvsA mvsN
  by_cases a1 : x = 0 ∨ x = 1
  · simp only [if_pos a1]
    have hb := PTX_b (v.rv x) v.2.2.1
    obtain ⟨h1, c, f, g9, gm⟩ := M_fault1 54 a1 (h := h) (t := s.2.2.1) ⟨p.1, p.2.2.2.1, v.2.2.1⟩ (p.mr a1) (v.rv x)
    have p1 := p.mv f (by intro a i; unfold fF scr; omega)
    have f94 : mfr (fun a _ => 94 ≤ a) h h1 := f.mo (by intro a i; unfold fF; omega)
    have hl := (v.rv x).2.2.2.2.1
    rw [E_M_moves_2, obj_e (z94 p.1.1), calI_e c]
    simp (disch := omega) only [yeq]
    by_cases a2 : (PTX s.2.2.1 (rdr s x)).1 = -1
    · simp only [if_pos a2]
      obtain ⟨j, rfl⟩ : ∃ j : Nat, x = j := ⟨x.toNat, by omega⟩
      have q := p1.mr a1
      rw [Int.toNat_natCast] at q
      rw [E_M_moves_4]
      simp (disch := omega) only [obj_e (z94 p1.1.1), m3 p1.1, idx_n (z98 p1.1.1), q.2.2.2.1, g9, nadd]
      rw [show zI 20 = zI ((20 : Nat) : Int) from rfl]
      simp (disch := omega) only [nle]
      by_cases a3 : (rdr s j).2.2.2.length + (PTX s.2.2.1 (rdr s j)).2.length ≤ 20
      · simp only [if_pos a3]
        obtain ⟨h2, e2, f2, g1, g2⟩ := M_moves_lp 59 (j := j) (L := (rdr s j).2.2.2.length) (ms := (PTX s.2.2.1 (rdr s j)).2) (by omega) a3 _ 0 h1 (Nat.zero_add _) p1.1 g9 q.2.2.2.1 gm
        have p2 := p1.1.mf f2
        have f3 : mfr (fun a t => (a = 94 ∧ t = 16) ∨ (a = 98 ∧ t = j) ∨ (99 ≤ a ∧ a ≤ 103 ∧ 20 * j + (rdr s j).2.2.2.length ≤ t ∧ t < 20 * j + 20)) h1 (sI h2 94 16 (zI 0)) := (f2.mo (fun a t hh => by omega)).tr (mfr_sI _ (by omega) _)
        refine ⟨sI h2 94 16 (zI 0), ?_, f94.tr (f3.mo (fun a t hh => by omega)), ?_⟩
        · rw [E_M_moves_6, lt_e, zc0, e2, E_M_moves_9]
          simp (disch := omega) only [obj_e (z94 p2.1), mb_some, obj_sI, hR_sI, m3 p2, idx_sI, idx_n (z98 p2.1), hI_off, g1]
          congr 5
        · have new : MR (sI h2 94 16 (zI 0)) j ((rdr s j).1, (rdr s j).2.1, (rdr s j).2.2.1, (rdr s j).2.2.2 ++ (PTX s.2.2.1 (rdr s j)).2) := by
            refine ⟨by rw [f3.I (by omega)]; exact q.1, by rw [f3.I (by omega)]; exact q.2.1, by rw [f3.I (by omega)]; exact q.2.2.1, ?_, ?_⟩
            · rw [hI_off (by omega), g1]; simp
            · intro t m ht
              have ht : ((rdr s j).2.2.2 ++ (PTX s.2.2.1 (rdr s j)).2)[t]? = some m := ht
              by_cases z : t < (rdr s j).2.2.2.length
              · rw [List.getElem?_append_left z] at ht
                have := q.2.2.2.2 t m ht
                unfold mrow at *
                rw [f3.I (by omega), f3.I (by omega), f3.I (by omega), f3.I (by omega), f3.I (by omega)]
                exact this
              · rw [List.getElem?_append_right (by omega)] at ht
                have := g2 _ m (Nat.zero_le _) ht
                rw [show 20 * j + (rdr s j).2.2.2.length + (t - (rdr s j).2.2.2.length) = 20 * j + t by omega] at this
                unfold mrow at *
                rw [hI_off (by omega), hI_off (by omega), hI_off (by omega), hI_off (by omega), hI_off (by omega)]
                exact this
          have old : ∀ i' r, i' ≠ j → i' < 2 → r.2.2.2.length ≤ 20 → MR h1 i' r → MR (sI h2 94 16 (zI 0)) i' r := by
            intro i' r hi' hi2 hr q
            refine ⟨by rw [f3.I (by omega)]; exact q.1, by rw [f3.I (by omega)]; exact q.2.1, by rw [f3.I (by omega)]; exact q.2.2.1, by rw [f3.I (by omega)]; exact q.2.2.2.1, ?_⟩
            intro t m hm
            have ht := (List.getElem?_eq_some_iff.mp hm).1
            unfold mrow
            rw [f3.I (by omega), f3.I (by omega), f3.I (by omega), f3.I (by omega), f3.I (by omega)]
            exact q.2.2.2.2 t m hm
          have mt : MT (sI h2 94 16 (zI 0)) [] := ⟨by rw [hI_hit]; rfl, by intro i c hc; simp at hc⟩
          have rest := And.intro mt (And.intro (p1.2.2.2.2.1.mv f3 (by omega) (by omega) (by omega)) (p1.2.2.2.2.2.mv f3 (by omega) (by omega)))
          have hj : j = 0 ∨ j = 1 := by omega
          rcases hj with rfl | rfl
          · exact MI.up ⟨p1.1.mf f3, new, old 1 _ (by omega) (by omega) v.2.1.2.2.2.2.1 p1.2.2.1, rest⟩
          · exact MI.up ⟨p1.1.mf f3, old 0 _ (by omega) (by omega) v.1.2.2.2.2.1 p1.2.1, new, rest⟩
      · simp only [if_neg a3]
        exact ⟨h1, by rw [E_M_moves_5], f94, p1.up⟩
    · simp only [if_neg a2]
      exact ⟨h1, by rw [E_M_moves_3], f94, p1.up⟩
  · simp only [if_neg a1]
    exact ⟨h, by rw [E_M_moves_1], mfr.rf _ h, p.up⟩
