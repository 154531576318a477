/-! the class's small calls: readers, rows -/
theorem xo_if {A B : Option AR} {x : Int} : (if (if x = 0 then some 1 else if x = 1 then some 5 else none : Option Nat) = none then A else B) = if x = 0 ∨ x = 1 then B else A := by
  by_cases z : x = 0
  · simp [z]
  · by_cases y : x = 1
    · simp [y]
    · simp [z, y]
theorem xo_some {x : Int} (h : x = 0 ∨ x = 1) : (if x = 0 then some 1 else if x = 1 then some 5 else none : Option Nat) = some (xa x) := by
  unfold xa
  rcases h with rfl | rfl <;> simp
theorem ite_n {P : Prop} {_ : Decidable P} {α : Type} {a b : α} : (if ¬ P then a else b) = if P then b else a := by by_cases h : P <;> simp [h]
/-- takes >> states is 0 just for numbers below 2 to the states -/
theorem shr0 {t : Int} {n : Nat} (h1 : -2147483648 ≤ t) (h2 : t < 2147483648) (hn : n < 31) : (zI t >>> (zI n &&& 31) = 0) = (0 ≤ t ∧ t < 2 ^ n) := by
  apply propext
  have hs : ((zI n &&& 31).toBitVec.smod 32).toNat = n := by
    have : ∀ n, n < 31 → ((zI ((n : Nat) : Int) &&& 31).toBitVec.smod 32).toNat = n := by decide
    exact this n hn
  have e : (zI t >>> (zI n &&& 31)).toInt = t >>> n := by
    show ((zI t).toBitVec.sshiftRight' ((zI n &&& 31).toBitVec.smod 32)).toInt = _
    rw [BitVec.sshiftRight', BitVec.toInt_sshiftRight, hs]
    show (zI t).toInt >>> n = _
    rw [zI_toInt h1 h2]
  rw [← Int32.toInt_inj, e, show (0 : Int32).toInt = 0 from rfl, Int.shiftRight_eq_div_pow]
  have hp : (0 : Int) < ((2 ^ n : Nat) : Int) := by have := Nat.two_pow_pos n; omega
  have hc : ((2 ^ n : Nat) : Int) = (2 : Int) ^ n := by simp
  rw [← hc]
  constructor
  · intro q
    have a1 := Int.emod_nonneg t (b := ((2 ^ n : Nat) : Int)) (by omega)
    have a2 := Int.emod_lt_of_pos t hp
    have a3 := Int.emod_add_mul_ediv t ((2 ^ n : Nat) : Int)
    rw [q, Int.mul_zero, Int.add_zero] at a3
    omega
  · intro q
    exact Int.ediv_eq_zero_of_lt q.1 q.2
theorem X_reader {x n k t : Int} (x1 : -2147483648 ≤ x) (x2 : x < 2147483648) (n1 : -2147483648 ≤ n) (n2 : n < 2147483648) (k1 : -2147483648 ≤ k) (k2 : k < 2147483648) (t1 : -2147483648 ≤ t) (t2 : t < 2147483648) :
    XOK k_X_reader [aI (zI x), aI (zI n), aI (zI k), aI (zI t)] (fun _ => if x = 0 ∨ x = 1 then if 1 ≤ n ∧ n ≤ 6 then if 0 ≤ k ∧ k ≤ 3 then if 0 ≤ t ∧ t < 2 ^ n.toNat then 1 else -3 else -3 else -3 else -2) (fun s => if x = 0 ∨ x = 1 then if 1 ≤ n ∧ n ≤ 6 then if 0 ≤ k ∧ k ≤ 3 then if 0 ≤ t ∧ t < 2 ^ n.toNat then sR' s x (n.toNat, k.toNat, t.toNat, []) else s else s else s else s) := by
  intro s h p
  rw [C_X_reader, E_X_reader_0, obj_e p.o, calR_e (X_readerOf _ p x1 x2), xo_if]
  by_cases a1 : x = 0 ∨ x = 1
  · simp only [if_pos a1]
    rw [E_X_reader_2, calI_e (X_within _ h n1 n2 (by omega) (by omega) (by omega) (by omega)), if01]
    by_cases a2 : 1 ≤ n ∧ n ≤ 6
    · simp only [if_pos a2]
      rw [E_X_reader_3, calI_e (X_within _ h k1 k2 (by omega) (by omega) (by omega) (by omega)), if01]
      by_cases a3 : 0 ≤ k ∧ k ≤ 3
      · simp only [if_pos a3]
        obtain ⟨m, rfl⟩ : ∃ m : Nat, n = m := ⟨n.toNat, by omega⟩
        obtain ⟨kk, rfl⟩ : ∃ m : Nat, k = m := ⟨k.toNat, by omega⟩
        rw [E_X_reader_4]
        simp (disch := omega) only [shr0, Int.toNat_natCast]
        by_cases a4 : 0 ≤ t ∧ t < 2 ^ m
        · simp only [if_pos a4]
          obtain ⟨tt, rfl⟩ : ∃ m : Nat, t = m := ⟨t.toNat, by omega⟩
          have a5 : tt < 2 ^ m := by
            have := a4.2
            have hc : ((2 ^ m : Nat) : Int) = (2 : Int) ^ m := by simp
            omega
          have hr := p.rd x
          obtain ⟨h', e, f, q⟩ := Rd_become 56 (h := h) (a := xa x) (ns := m) (nr := kk) (tk := tt) hr.2.1 ⟨by show 1 ≤ m; omega, by show m ≤ 6; omega, by show kk ≤ 3; omega, a5, by simp, by simp⟩
          refine ⟨h', ?_, f.mo (fun b hb => ?_), ?_⟩
          · rw [xo_some a1, E_X_reader_6, obj_e hr.2.1.1, calV_e e]
          · have : xa x ≤ 5 := by unfold xa; split <;> omega
            omega
          · exact XI_setR p x f q
        · simp only [if_neg a4]
          exact ⟨h, by rw [E_X_reader_5], fr.rf _ h, p⟩
      · simp only [if_neg a3]
        exact ⟨h, by rw [E_X_reader_5], fr.rf _ h, p⟩
    · simp only [if_neg a2]
      exact ⟨h, by rw [E_X_reader_5], fr.rf _ h, p⟩
  · simp only [if_neg a1]
    exact ⟨h, by rw [E_X_reader_1], fr.rf _ h, p⟩
theorem X_move {x m k : Int} (x1 : -2147483648 ≤ x) (x2 : x < 2147483648) (n1 : -2147483648 ≤ m) (n2 : m < 2147483648) (k1 : -2147483648 ≤ k) (k2 : k < 2147483648) :
    XOK k_X_move [aI (zI x), aI (zI m), aI (zI k)] (fun s => if x = 0 ∨ x = 1 then if 0 ≤ m ∧ m ≤ ((rdr s x).2.2.2.length : Int) - 1 then if 0 ≤ k ∧ k ≤ 4 then prt ((rdr s x).2.2.2.getD m.toNat (0, 0, 0, 0, 0)) k.toNat else -3 else -2 else -2) id := by
  intro s h p
  rw [C_X_move, E_X_move_0, obj_e p.o, calR_e (X_readerOf _ p x1 x2), xo_if]
  by_cases a1 : x = 0 ∨ x = 1
  · have hr := p.rd x
    have hl := hr.1.2.2.2.2.1
    simp only [if_pos a1]
    rw [xo_some a1, E_X_move_1, obj_e hr.2.1.1, calI_e (Rd_size _ hr), zI_sub, calI_e (X_within _ h n1 n2 (by omega) (by omega) (by omega) (by omega)), if01]
    by_cases a2 : 0 ≤ m ∧ m ≤ ((rdr s x).2.2.2.length : Int) - 1
    · simp only [if_pos a2]
      rw [E_X_move_3, calI_e (X_within _ h k1 k2 (by omega) (by omega) (by omega) (by omega)), if01]
      by_cases a3 : 0 ≤ k ∧ k ≤ 4
      · simp only [if_pos a3]
        obtain ⟨i, rfl⟩ : ∃ i : Nat, m = i := ⟨m.toNat, by omega⟩
        obtain ⟨j, rfl⟩ : ∃ j : Nat, k = j := ⟨k.toNat, by omega⟩
        have hi : (rdr s x).2.2.2[i]? = some ((rdr s x).2.2.2.getD i (0, 0, 0, 0, 0)) := by
          rw [List.getD_eq_getElem?_getD, List.getElem?_eq_getElem (by omega)]; rfl
        refine ⟨h, ?_, fr.rf _ h, p⟩
        rw [E_X_move_4, obj_e hr.2.1.1, calI_e (Rd_part _ hr hi (by omega)), E_X_move_6]
        rfl
      · simp only [if_neg a3]
        exact ⟨h, by rw [E_X_move_5, E_X_move_6], fr.rf _ h, p⟩
    · simp only [if_neg a2]
      exact ⟨h, by rw [E_X_move_2], fr.rf _ h, p⟩
  · simp only [if_neg a1]
    exact ⟨h, by rw [E_X_move_2], fr.rf _ h, p⟩
theorem X_drop {x m : Int} (x1 : -2147483648 ≤ x) (x2 : x < 2147483648) (n1 : -2147483648 ≤ m) (n2 : m < 2147483648) :
    XOK k_X_drop [aI (zI x), aI (zI m)] (fun s => if x = 0 ∨ x = 1 then if 0 ≤ m ∧ m ≤ ((rdr s x).2.2.2.length : Int) - 1 then ((rdr s x).2.2.2.length : Int) - 1 else -2 else -2) (fun s => if x = 0 ∨ x = 1 then if 0 ≤ m ∧ m ≤ ((rdr s x).2.2.2.length : Int) - 1 then sR' s x ((rdr s x).1, (rdr s x).2.1, (rdr s x).2.2.1, (rdr s x).2.2.2.eraseIdx m.toNat) else s else s) := by
  intro s h p
  rw [C_X_drop, E_X_drop_0, obj_e p.o, calR_e (X_readerOf _ p x1 x2), xo_if]
  by_cases a1 : x = 0 ∨ x = 1
  · have hr := p.rd x
    have hl := hr.1.2.2.2.2.1
    simp only [if_pos a1]
    rw [xo_some a1, E_X_drop_1, obj_e hr.2.1.1, calI_e (Rd_size _ hr), zI_sub, calI_e (X_within _ h n1 n2 (by omega) (by omega) (by omega) (by omega)), if01]
    by_cases a2 : 0 ≤ m ∧ m ≤ ((rdr s x).2.2.2.length : Int) - 1
    · simp only [if_pos a2]
      obtain ⟨i, rfl⟩ : ∃ i : Nat, m = i := ⟨m.toNat, by omega⟩
      have hi : i < (rdr s x).2.2.2.length := by omega
      obtain ⟨h', e, f, q⟩ := Rd_remove 56 hr hi
      refine ⟨h', ?_, f.mo (fun b hb => ?_), XI_setR p x f q⟩
      · rw [E_X_drop_3, obj_e hr.2.1.1, calV_e e, obj_e q.2.1.1, calI_e (Rd_size _ q)]
        show some (some (aI (zI (((rdr s x).2.2.2.eraseIdx i).length : Int))), h') = _
        rw [List.length_eraseIdx_of_lt hi]
        congr 5
        omega
      · have : xa x ≤ 5 := by unfold xa; split <;> omega
        omega
    · simp only [if_neg a2]
      exact ⟨h, by rw [E_X_drop_2], fr.rf _ h, p⟩
  · simp only [if_neg a1]
    exact ⟨h, by rw [E_X_drop_2], fr.rf _ h, p⟩
/-! the row -/
theorem XI.rw {s : Stt} {h : AH} (p : XI s h) : RW h s.2.2.2 := p.2.2.2.2.2.2.1
theorem Rw_size (d : Nat) {w : Rw} {h : AH} (p : RW h w) : Cc (d + 1) k_Rw_size [aR (some 16)] h = some (some (aI (zI w.length)), h) := by
  rw [C_Rw_size, E_Rw_size_0, obj_e p.2.1.1, p.2.2.1]
theorem Rw_told (d : Nat) {w : Rw} {h : AH} (p : RW h w) : Cc (d + 1) k_Rw_told [aR (some 16)] h = some (some (aI (zI (tn w).length)), h) := by
  rw [C_Rw_told, E_Rw_told_0, obj_e p.2.1.1, p.2.2.2.2.1]
theorem Rw_gaps (d : Nat) {w : Rw} {h : AH} (p : RW h w) : Cc (d + 1) k_Rw_gaps [aR (some 16)] h = some (some (aI (zI (gaps w))), h) := by
  rw [C_Rw_gaps, E_Rw_gaps_0, obj_e p.2.1.1, p.2.2.2.2.2.1]
theorem Rw_gapPairs (d : Nat) {w : Rw} {h : AH} (p : RW h w) : Cc (d + 1) k_Rw_gapPairs [aR (some 16)] h = some (some (aI (zI (gapPairs w))), h) := by
  rw [C_Rw_gapPairs, E_Rw_gapPairs_0, obj_e p.2.1.1, p.2.2.2.2.2.2.1]
theorem Rw_letter (d : Nat) {w : Rw} {h : AH} (p : RW h w) {i : Nat} {q : Int × Int} (hq : w[i]? = some q) : Cc (d + 1) k_Rw_letter [aR (some 16), aI (zI i)] h = some (some (aI (zI q.1)), h) := by
  obtain ⟨s0, s1, s2, s3, s4, r0, r1, r2, r3⟩ := p.2.1
  have := (p.1.at hq).1
  rw [C_Rw_letter, E_Rw_letter_0, obj_e s0, r0]
  simp (disch := omega) only [idx_n s1]
  rw [(p.2.2.2.1 i q hq).1]
theorem Rw_name (d : Nat) {w : Rw} {h : AH} (p : RW h w) {i : Nat} {q : Int × Int} (hq : w[i]? = some q) : Cc (d + 1) k_Rw_name [aR (some 16), aI (zI i)] h = some (some (aI (zI q.2)), h) := by
  obtain ⟨s0, s1, s2, s3, s4, r0, r1, r2, r3⟩ := p.2.1
  have := (p.1.at hq).1
  rw [C_Rw_name, E_Rw_name_0, obj_e s0, r1]
  simp (disch := omega) only [idx_n s2]
  rw [(p.2.2.2.1 i q hq).2]
theorem Rw_id (d : Nat) {w : Rw} {h : AH} (p : RW h w) {i : Nat} {q : Int × Int} (hq : w[i]? = some q) : Cc (d + 1) k_Rw_id [aR (some 16), aI (zI i)] h = some (some (aI (zI (idn w q.2))), h) := by
  obtain ⟨s0, s1, s2, s3, s4, r0, r1, r2, r3⟩ := p.2.1
  have := (p.1.at hq).1
  rw [C_Rw_id, E_Rw_id_0, obj_e s0, r2]
  simp (disch := omega) only [idx_n s3]
  rw [p.2.2.2.2.2.2.2.1 i q hq]
theorem Rw_alive (d : Nat) {w : Rw} {h : AH} (p : RW h w) {i : Nat} (hi : 1 ≤ i ∧ i ≤ w.length) : Cc (d + 1) k_Rw_aliveBehind [aR (some 16), aI (zI i)] h = some (some (aI (zI (alv (idn w) (w.drop i)))), h) := by
  obtain ⟨s0, s1, s2, s3, s4, r0, r1, r2, r3⟩ := p.2.1
  have := p.1.1
  rw [C_Rw_aliveBehind, E_Rw_aliveBehind_0, obj_e s0, r3]
  simp (disch := omega) only [idx_n s4]
  rw [p.2.2.2.2.2.2.2.2 i hi]
theorem Rw_put (d : Nat) {w : Rw} {h : AH} {i : Nat} {l n : Int} (hs : RWs h) (h4 : hI h 16 4 = zI w.length) (hd : ∀ j q, j ≠ i → w[j]? = some q → hI h 17 j = zI q.1 ∧ hI h 18 j = zI q.2) (hi : w[i]? = some (l, n)) (hw : WV w) :
    ∃ h', Cc (d + 3) k_Rw_put [aR (some 16), aI (zI i), aI (zI l), aI (zI n)] h = some (none, h') ∧ fr (fun b => 16 ≤ b ∧ b ≤ 20) h h' ∧ RW h' w := by
  obtain ⟨s0, s1, s2, s3, s4, r0, r1, r2, r3⟩ := id hs
  obtain ⟨v0, v1, v2⟩ := hw.at hi
  have hl := hw.1
  have f1 : fr (fun b => 16 ≤ b ∧ b ≤ 20) h (sI (sI h 17 i (zI l)) 18 i (zI n)) := (fr_sI h (by omega) _ _).tr (fr_sI _ (by omega) _ _)
  obtain ⟨h', e, f, q⟩ := Rw_survey d (h := sI (sI h 17 i (zI l)) 18 i (zI n)) hw hs (by
    intro j q hq
    by_cases z : j = i
    · subst z
      rw [hi] at hq
      cases hq
      rw [hI_hit, hI_off (by omega), hI_hit]
      exact ⟨rfl, rfl⟩
    · rw [hI_off (by omega), hI_off (by omega), hI_off (by omega), hI_off (by omega)]
      exact hd j q z hq) (by rw [hI_off (by omega), hI_off (by omega)]; exact h4)
  refine ⟨h', ?_, f1.tr (f.mo fun b hb => by omega), q⟩
  rw [C_Rw_put, E_Rw_put_0]
  simp (disch := omega) only [nlt0, if_false]
  rw [E_Rw_put_1, obj_e s0, h4]
  simp (disch := omega) only [nlt]
  rw [if_pos v1, E_Rw_put_3, obj_e s0, r0]
  simp (disch := omega) only [idx_n s1, lt_e, obj_sI, obj_e s0, hR_sI, r1, idx_sI, idx_n s2]
  rw [calV_e e]
theorem X_pair {l n : Int} (x1 : -2147483648 ≤ l) (x2 : l < 2147483648) (n1 : -2147483648 ≤ n) (n2 : n < 2147483648) :
    XOK k_X_pair [aI (zI l), aI (zI n)] (fun s => if (-1 ≤ l ∧ l ≤ 2) ∧ (-1 ≤ n ∧ n ≤ 99) then if s.2.2.2.length < 12 then (s.2.2.2.length : Int) + 1 else -5 else -3) (fun s => if (-1 ≤ l ∧ l ≤ 2) ∧ (-1 ≤ n ∧ n ≤ 99) then if s.2.2.2.length < 12 then sW s (s.2.2.2 ++ [(l, n)]) else s else s) := by
  intro s h p
  have hr := p.rw
  have hl := hr.1.1
  rw [C_X_pair, E_X_pair_0, calI_e (X_isPair _ h x1 x2 n1 n2), if01]
  by_cases a1 : (-1 ≤ l ∧ l ≤ 2) ∧ (-1 ≤ n ∧ n ≤ 99)
  · simp only [if_pos a1]
    rw [E_X_pair_2, obj_e p.o, p.r (c := 16) (by decide), obj_e hr.2.1.1, calI_e (Rw_size _ hr), show zI 12 = zI ((12 : Nat) : Int) from rfl]
    simp (disch := omega) only [nlt]
    by_cases a2 : s.2.2.2.length < 12
    · simp only [if_pos a2]
      have hw : WV (s.2.2.2 ++ [(l, n)]) := by
        refine ⟨by simp; omega, ?_⟩
        intro q hq
        rcases List.mem_append.mp hq with hq | hq
        · exact hr.1.2 q hq
        · rw [List.mem_singleton.mp hq]
          exact ⟨a1.1.1, a1.1.2, a1.2.1, a1.2.2⟩
      have f1 : fr (fun b => 16 ≤ b ∧ b ≤ 20) h (sI h 16 4 (zI ((s.2.2.2.length + 1 : Nat) : Int))) := fr_sI h (by omega) _ _
      obtain ⟨h', e, f, q⟩ := Rw_put 55 (h := sI h 16 4 (zI ((s.2.2.2.length + 1 : Nat) : Int))) (w := s.2.2.2 ++ [(l, n)]) (i := s.2.2.2.length) (l := l) (n := n) hr.2.1 (by rw [hI_hit]; simp) (by
        intro j q hj hq
        rw [hI_off (by omega), hI_off (by omega)]
        have h1 := (List.getElem?_eq_some_iff.mp hq).1
        rw [List.length_append] at h1
        simp at h1
        rw [List.getElem?_append_left (by omega)] at hq
        exact hr.2.2.2.1 j q hq) (by simp) hw
      have f3 : fr (fun b => 16 ≤ b ∧ b ≤ 20) h h' := f1.tr f
      have p3 := XI_setW p f3 q
      have e2 : Cc 59 k_Rw_append [aR (some 16), aI (zI l), aI (zI n)] h = some (none, h') := by
        rw [C_Rw_append, E_Rw_append_0, obj_e hr.2.1.1, hr.2.2.1, show zI 12 = zI ((12 : Nat) : Int) from rfl]
        simp (disch := omega) only [nlt]
        rw [if_pos a2, E_Rw_append_2, obj_e hr.2.1.1, obj_e hr.2.1.1, hr.2.2.1, nadd1, mb_some, obj_sI, obj_e hr.2.1.1, obj_sI, obj_e hr.2.1.1, hI_hit, nsub1 (by omega), Nat.add_sub_cancel, calV_e e]
      refine ⟨h', ?_, f3.mo (fun b hb => by omega), p3⟩
      rw [E_X_pair_4, obj_e p.o, p.r (c := 16) (by decide), obj_e hr.2.1.1, calV_e e2, obj_e p3.o, p3.r (c := 16) (by decide), obj_e q.2.1.1, calI_e (Rw_size _ q)]
      simp
    · simp only [if_neg a2]
      exact ⟨h, by rw [E_X_pair_3], fr.rf _ h, p⟩
  · simp only [if_neg a1]
    exact ⟨h, by rw [E_X_pair_1], fr.rf _ h, p⟩
theorem X_change {k l n : Int} (k1 : -2147483648 ≤ k) (k2 : k < 2147483648) (x1 : -2147483648 ≤ l) (x2 : l < 2147483648) (n1 : -2147483648 ≤ n) (n2 : n < 2147483648) :
    XOK k_X_change [aI (zI k), aI (zI l), aI (zI n)] (fun s => if 0 ≤ k ∧ k ≤ (s.2.2.2.length : Int) - 1 then if (-1 ≤ l ∧ l ≤ 2) ∧ (-1 ≤ n ∧ n ≤ 99) then 1 else -3 else -2) (fun s => if 0 ≤ k ∧ k ≤ (s.2.2.2.length : Int) - 1 then if (-1 ≤ l ∧ l ≤ 2) ∧ (-1 ≤ n ∧ n ≤ 99) then sW s (s.2.2.2.set k.toNat (l, n)) else s else s) := by
  intro s h p
  have hr := p.rw
  have hl := hr.1.1
  rw [C_X_change, E_X_change_0, obj_e p.o, p.r (c := 16) (by decide), obj_e hr.2.1.1, calI_e (Rw_size _ hr), zI_sub, calI_e (X_within _ h k1 k2 (by omega) (by omega) (by omega) (by omega)), if01]
  by_cases a1 : 0 ≤ k ∧ k ≤ (s.2.2.2.length : Int) - 1
  · simp only [if_pos a1]
    rw [E_X_change_2, calI_e (X_isPair _ h x1 x2 n1 n2), if01]
    by_cases a2 : (-1 ≤ l ∧ l ≤ 2) ∧ (-1 ≤ n ∧ n ≤ 99)
    · simp only [if_pos a2]
      obtain ⟨i, rfl⟩ : ∃ i : Nat, k = i := ⟨k.toNat, by omega⟩
      have hw : WV (s.2.2.2.set i (l, n)) := by
        refine ⟨by simp; omega, ?_⟩
        intro q hq
        rcases List.mem_or_eq_of_mem_set hq with hq | hq
        · exact hr.1.2 q hq
        · rw [hq]
          exact ⟨a2.1.1, a2.1.2, a2.2.1, a2.2.2⟩
      obtain ⟨h', e, f, q⟩ := Rw_put 56 (h := h) (w := s.2.2.2.set i (l, n)) (i := i) (l := l) (n := n) hr.2.1 (by rw [List.length_set]; exact hr.2.2.1) (by
        intro j q hj hq
        rw [List.getElem?_set_ne (by omega)] at hq
        exact hr.2.2.2.1 j q hq) (by rw [List.getElem?_set_self (by omega)]) hw
      refine ⟨h', ?_, f.mo (fun b hb => by omega), XI_setW p f q⟩
      rw [E_X_change_4, obj_e p.o, p.r (c := 16) (by decide), obj_e hr.2.1.1, calV_e e]
    · simp only [if_neg a2]
      exact ⟨h, by rw [E_X_change_3], fr.rf _ h, p⟩
  · simp only [if_neg a1]
    exact ⟨h, by rw [E_X_change_1], fr.rf _ h, p⟩
theorem X_hush : XOK k_X_hush [] (fun s => s.2.2.2.length) (fun s => sW s []) := by
  intro s h p
  have hr := p.rw
  have f1 : fr (fun b => 16 ≤ b ∧ b ≤ 20) h (sI h 16 4 (zI 0)) := fr_sI h (by omega) _ _
  obtain ⟨h', e, f, q⟩ := Rw_survey 56 (h := sI h 16 4 (zI 0)) (w := []) ⟨by simp, by simp⟩ hr.2.1 (by intro j q hq; simp at hq) (by rw [hI_hit]; rfl)
  have f2 : fr (fun b => 16 ≤ b ∧ b ≤ 20) h h' := f1.tr (f.mo fun b hb => by omega)
  refine ⟨h', ?_, f2.mo (fun b hb => by omega), XI_setW p f2 q⟩
  rw [C_X_hush, E_X_hush_0, obj_e p.o, p.r (c := 16) (by decide), obj_e hr.2.1.1, calI_e (x := zI s.2.2.2.length) (h' := h')]
  rw [C_Rw_wipe, E_Rw_wipe_0, obj_e hr.2.1.1, lt_e, obj_e hr.2.1.1, mb_some, obj_sI, obj_e hr.2.1.1, calV_e e, hr.2.2.1]
/-- count -/
def cnt (s : Stt) (w : Int) : Int := if w = 0 then s.2.2.2.length else if w = 1 then gaps s.2.2.2 else if w = 2 then (tn s.2.2.2).length else if w = 3 then s.2.2.1.length else if w = 4 then s.1.2.2.2.length else if w = 5 then s.2.1.2.2.2.length else -3
theorem X_count {w : Int} (k1 : -2147483648 ≤ w) (k2 : w < 2147483648) : XOK k_X_count [aI (zI w)] (fun s => cnt s w) id := by
  intro s h p
  refine ⟨h, ?_, fr.rf _ h, p⟩
  have hr := p.rw
  rw [C_X_count, E_X_count_0, zI_toInt k1 k2]
  by_cases a : w < 0 ∨ 5 < w
  · rw [if_pos a, E_X_count_7]
    unfold cnt
    simp only [show ¬ w = 0 by omega, show ¬ w = 1 by omega, show ¬ w = 2 by omega, show ¬ w = 3 by omega, show ¬ w = 4 by omega, show ¬ w = 5 by omega, if_false]
  · rw [if_neg a]
    obtain ⟨n, rfl⟩ : ∃ n : Nat, w = n := ⟨w.toNat, by omega⟩
    have sw : ∀ (t : Nat) (x : Int32), 1 ≤ t → t ≤ 6 → msk (L_X_count t) [aR (some 0), aI x] = [aR (some 0), aU] := by
      intro t x h1 h2
      match t, h1, h2 with
      | 1, _, _ => rfl
      | 2, _, _ => rfl
      | 3, _, _ => rfl
      | 4, _, _ => rfl
      | 5, _, _ => rfl
      | 6, _, _ => rfl
    have hn : n = 0 ∨ n = 1 ∨ n = 2 ∨ n = 3 ∨ n = 4 ∨ n = 5 := by omega
    rcases hn with rfl | rfl | rfl | rfl | rfl | rfl
    · rw [mb_e (show ([1, 2, 3, 4, 5, 6] : List Nat)[(((0 : Nat) : Int) - 0).toNat]? = some 1 from rfl), sw 1 _ (by omega) (by omega), E_X_count_1, obj_e p.o, p.r (c := 16) (by decide), obj_e hr.2.1.1, calI_e (Rw_size _ hr)]; simp [cnt]
    · rw [mb_e (show ([1, 2, 3, 4, 5, 6] : List Nat)[(((1 : Nat) : Int) - 0).toNat]? = some 2 from rfl), sw 2 _ (by omega) (by omega), E_X_count_2, obj_e p.o, p.r (c := 16) (by decide), obj_e hr.2.1.1, calI_e (Rw_gaps _ hr)]; simp [cnt]
    · rw [mb_e (show ([1, 2, 3, 4, 5, 6] : List Nat)[(((2 : Nat) : Int) - 0).toNat]? = some 3 from rfl), sw 3 _ (by omega) (by omega), E_X_count_3, obj_e p.o, p.r (c := 16) (by decide), obj_e hr.2.1.1, calI_e (Rw_told _ hr)]; simp [cnt]
    · rw [mb_e (show ([1, 2, 3, 4, 5, 6] : List Nat)[(((3 : Nat) : Int) - 0).toNat]? = some 4 from rfl), sw 4 _ (by omega) (by omega), E_X_count_4, obj_e p.o, p.r (c := 13) (by decide), obj_e (z13 p.1), calI_e (Tx_size _ p)]; simp [cnt]
    · rw [mb_e (show ([1, 2, 3, 4, 5, 6] : List Nat)[(((4 : Nat) : Int) - 0).toNat]? = some 5 from rfl), sw 5 _ (by omega) (by omega), E_X_count_5, obj_e p.o, p.r (c := 1) (by decide), obj_e p.2.2.1.2.1.1, calI_e (Rd_size _ p.2.2.1)]; simp [cnt]
    · rw [mb_e (show ([1, 2, 3, 4, 5, 6] : List Nat)[(((5 : Nat) : Int) - 0).toNat]? = some 6 from rfl), sw 6 _ (by omega) (by omega), E_X_count_6, obj_e p.o, p.r (c := 5) (by decide), obj_e p.2.2.2.1.2.1.1, calI_e (Rd_size _ p.2.2.2.1)]; simp [cnt]
