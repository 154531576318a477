/-! M: both: meet -/
theorem and31 (x : Int32) : (x &&& zI 2147483647).toInt.toNat < 2147483648 ∧ x &&& zI 2147483647 = zI (((x &&& zI 2147483647).toInt.toNat : Nat) : Int) := by
  refine ⟨?_, ?_⟩
  · have := (x &&& zI 2147483647).toInt_lt
    omega
  · have h0 : 0 ≤ (x &&& zI 2147483647).toInt := by
      rw [← Int32.toInt_toBitVec, Int32.toBitVec_and, BitVec.toInt_eq_toNat_cond]
      have : (x.toBitVec &&& (zI 2147483647).toBitVec).toNat ≤ 2147483647 := by
        rw [BitVec.toNat_and]
        exact Nat.le_trans Nat.and_le_right (by decide)
      split
      · omega
      · rename_i q; exact absurd (by omega) q
    rw [Int.toNat_of_nonneg h0, zI_back]
theorem lst_ex {P : Nat → Prop} : ∀ n, P n → ∃ k, k ≤ n ∧ P k ∧ ∀ i, i < k → ¬ P i := by
  intro n
  induction n using Nat.strongRecOn with
  | _ n ih =>
    intro h
    by_cases z : ∃ i, i < n ∧ P i
    · obtain ⟨i, h1, h2⟩ := z
      obtain ⟨k, k1, k2⟩ := ih i h1 h2
      exact ⟨k, by omega, k2⟩
    · exact ⟨n, Nat.le_refl _, h, fun i hi hd => z ⟨i, hi, hd⟩⟩
def hs (n : Nat) : Nat := (zI (n : Int) * zI 40503 &&& zI 2147483647).toInt.toNat % 65536
theorem hs_lt (n : Nat) : hs n < 65536 := Nat.mod_lt _ (by omega)
theorem rem_e {x : Int32} {n : Nat} (hn : n < 2147483648) (e : x = zI (n : Int)) : x - x / zI 65536 * zI 65536 = zI ((n % 65536 : Nat) : Int) := by
  rw [e, show zI 65536 = zI ((65536 : Nat) : Int) from rfl, nrem hn (by omega) (by omega)]
theorem hs_e (n : Nat) : ((zI (n : Int) * zI 40503) &&& zI 2147483647) - ((zI (n : Int) * zI 40503) &&& zI 2147483647) / zI 65536 * zI 65536 = zI (hs n : Int) := rem_e (and31 _).1 (and31 _).2
def QH (h : AH) (Q : List (Jc × Nat)) : Prop := hI h 94 45 = zI Q.length ∧ ∀ (i : Nat) (e : Jc × Nat), Q[i]? = some e → hI h 128 i = zI (eB e.1) ∧ hI h 129 i = zI e.2
def QV (Q : List (Jc × Nat)) : Prop := (Q.map Prod.fst).Nodup ∧ ∀ J, J ∈ Q.map Prod.fst → JV J
theorem QV.len {Q : List (Jc × Nat)} (q : QV Q) : Q.length ≤ 31572 := by
  have := JVs_len q.1 q.2
  rwa [List.length_map] at this
def TB (h : AH) (T : Nat → Nat) : Prop := ∀ p, p < 65536 → hI h 127 p = zI (T p) ∧ T p < 5000000
def TI (T : Nat → Nat) (Q : List (Jc × Nat)) : Prop := (∀ p, p < 65536 → T p ≠ 0 → ∃ J, J ∈ Q.map Prod.fst ∧ T p = eB J + 1) ∧ (∀ J, J ∈ Q.map Prod.fst → ∃ t, T ((hs (eB J) + t) % 65536) = eB J + 1 ∧ ∀ t', t' < t → T ((hs (eB J) + t') % 65536) ≠ 0) ∧ cn (fun p => T p != 0) 65536 = Q.length
def bof (h h' : AH) : Prop := mfr (fun a j => (a = 94 ∧ j = 45) ∨ (127 ≤ a ∧ a ≤ 129)) h h'
theorem cn_full {f : Nat → Bool} : ∀ {n : Nat}, cn f n < n → ∃ i, i < n ∧ f i = false
  | 0, h => absurd h (Nat.not_lt_zero _)
  | n + 1, h => by
    cases z : f n with
    | false => exact ⟨n, by omega, z⟩
    | true =>
      unfold cn at h
      rw [z] at h
      simp at h
      obtain ⟨i, h1, h2⟩ := cn_full (f := f) (n := n) (by omega)
      exact ⟨i, by omega, h2⟩
theorem me_lp (d : Nat) {h : AH} (p : MS h) {T : Nat → Nat} (tb : TB h T) {c h0 ts : Nat} {x2 : Int32} (hc : c < 4235364) (hh : h0 < 65536) (hts : ts < 65536) (hno : ∀ t, t < ts → T ((h0 + t) % 65536) ≠ 0 ∧ T ((h0 + t) % 65536) ≠ c + 1) (hat : T ((h0 + ts) % 65536) = 0 ∨ T ((h0 + ts) % 65536) = c + 1) : ∀ (n t : Nat), t + n = ts →
    Rk B_M_meet L_M_meet (Cc d) 1 [aR (some 94), aI (zI c), aI x2, aI (zI (((h0 + t) % 65536 : Nat) : Int))] [] h = Rk B_M_meet L_M_meet (Cc d) 4 [aR (some 94), aI (zI c), aI x2, aI (zI (((h0 + ts) % 65536 : Nat) : Int))] [] h
  | 0, t, ht => by
    have e : t = ts := by omega
    subst e
    have hm : (h0 + t) % 65536 < 65536 := Nat.mod_lt _ (by omega)
    obtain ⟨b1, b2⟩ := tb _ hm
    rw [E_M_meet_1, obj_e (z94 p.1), m42 p]
    simp (disch := omega) only [idx_n (z127 p.1), b1, neq0]
    by_cases z : T ((h0 + t) % 65536) = 0
    · rw [if_pos z]
    · rw [if_neg z, E_M_meet_2, obj_e (z94 p.1), m42 p, nadd1]
      simp (disch := omega) only [idx_n (z127 p.1), b1, neq]
      rw [if_pos (hat.resolve_left z)]
  | n + 1, t, ht => by
    have hm : (h0 + t) % 65536 < 65536 := Nat.mod_lt _ (by omega)
    obtain ⟨b1, b2⟩ := tb _ hm
    obtain ⟨n1, n2⟩ := hno t (by omega)
    rw [E_M_meet_1, obj_e (z94 p.1), m42 p]
    simp (disch := omega) only [idx_n (z127 p.1), b1, neq0]
    rw [if_neg n1, E_M_meet_2, obj_e (z94 p.1), m42 p, nadd1]
    simp (disch := omega) only [idx_n (z127 p.1), b1, neq]
    rw [if_neg n2, E_M_meet_3, if_neg (by decide), nadd1, show zI 65536 = zI ((65536 : Nat) : Int) from rfl, nrem (by omega) (by omega) (by omega), lt_e, show ((h0 + t) % 65536 + 1) % 65536 = (h0 + (t + 1)) % 65536 by omega]
    exact me_lp d p tb hc hh hts hno hat n (t + 1) (by omega)
theorem M_meet (d : Nat) {h : AH} (p : MS h) {T : Nat → Nat} {Q : List (Jc × Nat)} (tb : TB h T) (ti : TI T Q) (qh : QH h Q) (qv : QV Q) {J : Jc} (hJ : JV J) {n : Nat} : ∃ h' T' Q', Cc (d + 1) k_M_meet [aR (some 94), aI (zI (eB J)), aI (zI n)] h = some (none, h') ∧ bof h h' ∧ TB h' T' ∧ TI T' Q' ∧ QH h' Q' ∧ QV Q' ∧ (if J ∈ Q.map Prod.fst then Q' = Q else Q' = Q ++ [(J, n)]) := by
  have hl := qv.len
  have hc := eB_lt hJ
  have hh := hs_lt (eB J)
  obtain ⟨i1, i2, i3⟩ := ti
  -- where the search ends
  obtain ⟨z0, z1, z2⟩ := cn_full (f := fun p => T p != 0) (n := 65536) (by rw [i3]; omega)
  have z3 : T z0 = 0 := by simpa using z2
  obtain ⟨ts, ts1, ts2, ts3⟩ := lst_ex (P := fun t => T ((hs (eB J) + t) % 65536) = 0 ∨ T ((hs (eB J) + t) % 65536) = eB J + 1) ((z0 + 65536 - hs (eB J)) % 65536) (Or.inl (by rw [show (hs (eB J) + (z0 + 65536 - hs (eB J)) % 65536) % 65536 = z0 by omega]; exact z3))
  have tsb : ts < 65536 := by have := Nat.mod_lt (z0 + 65536 - hs (eB J)) (show 65536 > 0 by omega); omega
  have hno : ∀ t, t < ts → T ((hs (eB J) + t) % 65536) ≠ 0 ∧ T ((hs (eB J) + t) % 65536) ≠ eB J + 1 := fun t ht => ⟨fun w => ts3 t ht (Or.inl w), fun w => ts3 t ht (Or.inr w)⟩
  have lp := me_lp d p tb (x2 := zI n) hc hh tsb hno ts2 ts 0 (by omega)
  rw [Nat.add_zero, Nat.mod_eq_of_lt hh] at lp
  obtain ⟨P, hP⟩ : ∃ P, P = (hs (eB J) + ts) % 65536 := ⟨_, rfl⟩
  rw [← hP] at lp ts2
  have hPl : P < 65536 := by rw [hP]; exact Nat.mod_lt _ (by omega)
  obtain ⟨b1, b2⟩ := tb P hPl
  have e0 : Cc (d + 1) k_M_meet [aR (some 94), aI (zI (eB J)), aI (zI n)] h = if T P = 0 then Rk B_M_meet L_M_meet (Cc d) 5 [aR (some 94), aI (zI (eB J)), aI (zI n), aI (zI P)] [] h else some (none, h) := by
    rw [C_M_meet, E_M_meet_0, if_neg (by decide), hs_e, lt_e, lp, E_M_meet_4, obj_e (z94 p.1), m42 p, E_M_meet_6]
    simp (disch := omega) only [idx_n (z127 p.1), b1, neq0]
  by_cases z : J ∈ Q.map Prod.fst
  · have hne : T P ≠ 0 := by
      intro w
      obtain ⟨t, t1, t2⟩ := i2 J z
      rcases Nat.lt_trichotomy ts t with y | y | y
      · exact t2 ts y (by rw [← hP]; exact w)
      · rw [← y, ← hP, w] at t1; omega
      · exact (hno t y).2 t1
    rw [if_neg hne] at e0
    exact ⟨h, T, Q, e0, mfr.rf _ h, tb, ⟨i1, i2, i3⟩, qh, qv, by rw [if_pos z]⟩
  · have hz : T P = 0 := by
      rcases ts2 with w | w
      · exact w
      · obtain ⟨J', j1, j2⟩ := i1 P hPl (by omega)
        have := eB_inj hJ (qv.2 J' j1) (by omega)
        rw [this] at z
        exact absurd j1 z
    rw [if_pos hz] at e0
    have f1 : bof h (sI h 127 P (zI ((eB J + 1 : Nat) : Int))) := mfr_sI h (by omega) _
    have f2 : bof (sI h 127 P (zI ((eB J + 1 : Nat) : Int))) (sI (sI h 127 P (zI ((eB J + 1 : Nat) : Int))) 128 Q.length (zI (eB J))) := mfr_sI _ (by omega) _
    have f3 : bof (sI (sI h 127 P (zI ((eB J + 1 : Nat) : Int))) 128 Q.length (zI (eB J))) (sI (sI (sI h 127 P (zI ((eB J + 1 : Nat) : Int))) 128 Q.length (zI (eB J))) 129 Q.length (zI n)) := mfr_sI _ (by omega) _
    have f4 : bof (sI (sI (sI h 127 P (zI ((eB J + 1 : Nat) : Int))) 128 Q.length (zI (eB J))) 129 Q.length (zI n)) (sI (sI (sI (sI h 127 P (zI ((eB J + 1 : Nat) : Int))) 128 Q.length (zI (eB J))) 129 Q.length (zI n)) 94 45 (zI ((Q.length + 1 : Nat) : Int))) := mfr_sI _ (by omega) _
    have p1 := p.mf f1
    have p2 := p1.mf f2
    have p3 := p2.mf f3
    refine ⟨_, up T P (eB J + 1), Q ++ [(J, n)], ?_, ((f1.tr f2).tr f3).tr f4, ?_, ⟨?_, ?_, ?_⟩, ⟨?_, ?_⟩, ⟨?_, ?_⟩, by rw [if_neg z]⟩
    · rw [e0, E_M_meet_5, obj_e (z94 p.1), m42 p, nadd1]
      simp (disch := omega) only [idx_n (z127 p.1), lt_e]
      rw [obj_e (z94 p1.1), obj_e (z94 p1.1), m43 p1, hI_off (by omega), qh.1]
      simp (disch := omega) only [idx_n (z128 p1.1), lt_e]
      rw [obj_e (z94 p2.1), obj_e (z94 p2.1), m44 p2, hI_off (by omega), hI_off (by omega), qh.1]
      simp (disch := omega) only [idx_n (z129 p2.1), lt_e]
      rw [obj_e (z94 p3.1), obj_e (z94 p3.1), hI_off (by omega), hI_off (by omega), hI_off (by omega), qh.1, nadd1, mb_some, E_M_meet_6]
    · intro q hq
      rw [hI_off (by omega), hI_off (by omega), hI_off (by omega)]
      by_cases w : q = P
      · rw [w, hI_hit, up_h]; exact ⟨rfl, by omega⟩
      · rw [hI_off (by omega), up_o w]; exact tb q hq
    · intro q hq hne
      rw [List.map_append]
      by_cases w : q = P
      · rw [w, up_h]; exact ⟨J, List.mem_append_right _ (List.mem_singleton.mpr rfl), rfl⟩
      · rw [up_o w] at hne ⊢
        obtain ⟨J', j1, j2⟩ := i1 q hq hne
        exact ⟨J', List.mem_append_left _ j1, j2⟩
    · intro J' hJ'
      rw [List.map_append] at hJ'
      rcases List.mem_append.mp hJ' with w | w
      · obtain ⟨t, t1, t2⟩ := i2 J' w
        refine ⟨t, ?_, fun t' ht' => ?_⟩
        · rw [up_o (fun q => by rw [q, hz] at t1; omega)]; exact t1
        · by_cases y : (hs (eB J') + t') % 65536 = P
          · rw [y, up_h]; omega
          · rw [up_o y]; exact t2 t' ht'
      · rw [show J' = J from List.mem_singleton.mp w]
        refine ⟨ts, by rw [← hP, up_h], fun t' ht' => ?_⟩
        by_cases y : (hs (eB J) + t') % 65536 = P
        · rw [y, up_h]; omega
        · rw [up_o y]; exact (hno t' ht').1
    · have := cn_set (f := fun p => T p != 0) (i := P) (by simp [hz]) hPl
      rw [List.length_append, ← i3]
      show _ = _ + 1
      rw [← this]
      refine cn_congr (fun q hq => ?_)
      by_cases w : q = P
      · rw [w, up_h]; simp
      · rw [up_o w]; simp [w]
    · rw [hI_hit, List.length_append]; rfl
    · intro i e he
      have h1 := (List.getElem?_eq_some_iff.mp he).1
      rw [List.length_append] at h1
      simp at h1
      by_cases y : i < Q.length
      · rw [List.getElem?_append_left y] at he
        rw [hI_off (show (128 : Nat) ≠ 94 ∨ _ by omega), hI_off (show (128 : Nat) ≠ 129 ∨ _ by omega), hI_off (Or.inr (by omega)), hI_off (show (128 : Nat) ≠ 127 ∨ _ by omega), hI_off (show (129 : Nat) ≠ 94 ∨ _ by omega), hI_off (Or.inr (by omega)), hI_off (show (129 : Nat) ≠ 128 ∨ _ by omega), hI_off (show (129 : Nat) ≠ 127 ∨ _ by omega)]
        exact qh.2 i e he
      · have : i = Q.length := by omega
        subst this
        simp at he
        rw [hI_off (show (128 : Nat) ≠ 94 ∨ _ by omega), hI_off (show (128 : Nat) ≠ 129 ∨ _ by omega), hI_hit, hI_off (show (129 : Nat) ≠ 94 ∨ _ by omega), hI_hit, ← he]
        exact ⟨rfl, rfl⟩
    · rw [List.map_append, List.nodup_append]
      refine ⟨qv.1, by simp, ?_⟩
      intro a ha b hb e
      rw [show b = J from List.mem_singleton.mp hb] at e
      rw [e] at ha
      exact z ha
    · intro J' hJ'
      rw [List.map_append] at hJ'
      rcases List.mem_append.mp hJ' with w | w
      · exact qv.2 J' w
      · rw [show J' = J from List.mem_singleton.mp w]; exact hJ
