/-! Reader: its view, its small methods -/
def RDs (h : AH) (a : Nat) : Prop := h.1[a]? = some (4, 4) ∧ h.1[a + 1]? = some (0, 100) ∧ h.1[a + 2]? = some (0, 20) ∧ h.1[a + 3]? = some (0, 19) ∧ hR h a 0 = some (a + 1) ∧ hR h a 1 = some (a + 2) ∧ hR h a 2 = some (a + 3)
def mvAt (h : AH) (b i : Nat) (m : Mv) : Prop := hI h b (i * 5 + 0) = zI m.1 ∧ hI h b (i * 5 + 1) = zI m.2.1 ∧ hI h b (i * 5 + 2) = zI m.2.2.1 ∧ hI h b (i * 5 + 3) = zI m.2.2.2.1 ∧ hI h b (i * 5 + 4) = zI m.2.2.2.2
/-- the moves by one state and letter, by their numbers -/
def key (m : Mv) : Nat := m.1 * 3 + m.2.1
def bkF (ms : List Mv) (p : Nat) (i : Nat) : Bool := match ms[i]? with
  | some m => key m == p
  | none => false
def bk (ms : List Mv) (p : Nat) : List Nat := (List.range ms.length).filter (bkF ms p)
def bg (ms : List Mv) : Nat → Nat
  | 0 => 0
  | p + 1 => bg ms p + (bk ms p).length
def RV (r : Rdr) : Prop := 1 ≤ r.1 ∧ r.1 ≤ 6 ∧ r.2.1 ≤ 3 ∧ r.2.2.1 < 2 ^ r.1 ∧ r.2.2.2.length ≤ 20 ∧ ∀ m, m ∈ r.2.2.2 → m.1 < r.1 ∧ m.2.1 < 3 ∧ (m.2.2.1 < r.2.1 ∨ m.2.2.1 = 3 ∨ m.2.2.1 = 4) ∧ -1 ≤ m.2.2.2.1 ∧ m.2.2.2.1 < r.2.1 ∧ m.2.2.2.2 < r.1
def RDf (h : AH) (a : Nat) (r : Rdr) : Prop := hI h a 3 = zI r.1 ∧ hI h a 4 = zI r.2.1 ∧ hI h a 5 = zI r.2.2.1 ∧ hI h a 6 = zI r.2.2.2.length ∧ ∀ i m, r.2.2.2[i]? = some m → mvAt h (a + 1) i m
def RDo (h : AH) (a : Nat) (ms : List Mv) : Prop := (∀ p, p ≤ 18 → hI h (a + 3) p = zI (bg ms p)) ∧ ∀ p j i : Nat, p < 18 → (bk ms p)[j]? = some i → hI h (a + 2) (bg ms p + j) = zI i
def RD (h : AH) (a : Nat) (r : Rdr) : Prop := RV r ∧ RDs h a ∧ RDf h a r ∧ RDo h a r.2.2.2
theorem RV.mv {r : Rdr} (p : RV r) {m : Mv} (hm : m ∈ r.2.2.2) : MV m := by
  obtain ⟨p1, p2, p3, p4, p5, p6⟩ := p
  have := p6 m hm
  unfold MV
  omega
theorem RV.mi {r : Rdr} (p : RV r) {m : Mv} {i : Nat} (hm : r.2.2.2[i]? = some m) : MV m ∧ i < 20 := by
  obtain ⟨hi, e⟩ := List.getElem?_eq_some_iff.mp hm
  exact ⟨p.mv (e ▸ List.getElem_mem hi), by have := p.2.2.2.2.1; omega⟩
theorem bg_mono (ms : List Mv) : ∀ (q p : Nat), p ≤ q → bg ms p ≤ bg ms q
  | 0, p, h => by rw [Nat.le_zero.mp h]; exact Nat.le_refl _
  | q + 1, p, h => by
    by_cases z : p = q + 1
    · subst z; exact Nat.le_refl _
    · have := bg_mono ms q p (by omega)
      rw [bg]; omega
theorem bk_cons (P : Nat → Bool) : ∀ n, ((List.range n).filter P).length = cn P n
  | 0 => rfl
  | n + 1 => by
    rw [List.range_succ, List.filter_append, List.length_append, bk_cons P n]
    cases q : P n <;> simp [cn, q]
theorem bg_sum (ms : List Mv) : ∀ p, bg ms p = cn (fun i => match ms[i]? with | some m => decide (key m < p) | none => false) ms.length
  | 0 => by
    have : ∀ n, cn (fun i => match ms[i]? with | some m => decide (key m < 0) | none => false) n = 0 := fun n => by
      induction n with
      | zero => rfl
      | succ n ih => rw [cn, ih]; split <;> simp
    rw [this]; rfl
  | p + 1 => by
    rw [bg, bg_sum ms p, bk, bk_cons]
    have : ∀ n, cn (fun i => match ms[i]? with | some m => decide (key m < p) | none => false) n + cn (bkF ms p) n = cn (fun i => match ms[i]? with | some m => decide (key m < p + 1) | none => false) n := fun n => by
      induction n with
      | zero => rfl
      | succ n ih =>
        rw [cn, cn, cn, ← ih, bkF]
        split
        · rename_i m _
          rcases Nat.lt_trichotomy (key m) p with z | z | z
          · have z1 : (key m == p) = false := by rw [beq_eq_false_iff_ne]; omega
            have z2 : key m < p + 1 := by omega
            simp [z, z1, z2]; omega
          · have z1 : ¬ key m < p := by omega
            have z2 : key m < p + 1 := by omega
            simp [z]; omega
          · have z1 : ¬ key m < p := by omega
            have z2 : ¬ key m < p + 1 := by omega
            have z3 : (key m == p) = false := by rw [beq_eq_false_iff_ne]; omega
            simp [z1, z2, z3]
        · simp
    exact this _
theorem bg_le (ms : List Mv) (p : Nat) : bg ms p ≤ ms.length := by rw [bg_sum]; exact cn_le _ _
theorem bk_mem {ms : List Mv} {p j i : Nat} (h : (bk ms p)[j]? = some i) : ∃ m, ms[i]? = some m ∧ key m = p := by
  have : i ∈ bk ms p := List.mem_of_getElem? h
  unfold bk at this
  rw [List.mem_filter] at this
  have h2 := this.2
  unfold bkF at h2
  split at h2
  · rename_i m e; exact ⟨m, e, by simpa using h2⟩
  · cases h2
theorem Rd_states (d : Nat) {h : AH} {a : Nat} {r : Rdr} (p : RD h a r) : Cc (d + 1) k_Rd_states [aR (some a)] h = some (some (aI (zI r.1)), h) := by
  rw [C_Rd_states, E_Rd_states_0, obj_e p.2.1.1, p.2.2.1.1]
theorem Rd_registers (d : Nat) {h : AH} {a : Nat} {r : Rdr} (p : RD h a r) : Cc (d + 1) k_Rd_registers [aR (some a)] h = some (some (aI (zI r.2.1)), h) := by
  rw [C_Rd_registers, E_Rd_registers_0, obj_e p.2.1.1, p.2.2.1.2.1]
theorem Rd_size (d : Nat) {h : AH} {a : Nat} {r : Rdr} (p : RD h a r) : Cc (d + 1) k_Rd_size [aR (some a)] h = some (some (aI (zI r.2.2.2.length)), h) := by
  rw [C_Rd_size, E_Rd_size_0, obj_e p.2.1.1, p.2.2.1.2.2.2.1]
/-- a move's part as an integer -/
def prt (m : Mv) (k : Nat) : Int := if k = 0 then m.1 else if k = 1 then m.2.1 else if k = 2 then m.2.2.1 else if k = 3 then m.2.2.2.1 else m.2.2.2.2
theorem Rd_part0 (d : Nat) {h : AH} {a : Nat} (p : RDs h a) {i k : Nat} {m : Mv} (hi : i < 20) (hk : k < 5) (e : mvAt h (a + 1) i m) : Cc (d + 1) k_Rd_part [aR (some a), aI (zI i), aI (zI k)] h = some (some (aI (zI (prt m k))), h) := by
  obtain ⟨s0, s1, s2, s3, r0, r1, r2⟩ := p
  rw [C_Rd_part, E_Rd_part_0, obj_e s0, r0, show zI 5 = zI ((5 : Nat) : Int) from rfl, nmul, nadd]
  simp (disch := omega) only [idx_n s1]
  obtain ⟨e0, e1, e2, e3, e4⟩ := e
  unfold prt
  match k, hk with
  | 0, _ => rw [e0]; rfl
  | 1, _ => rw [e1]; rfl
  | 2, _ => rw [e2]; rfl
  | 3, _ => rw [e3]; rfl
  | 4, _ => rw [e4]; rfl
theorem Rd_part (d : Nat) {h : AH} {a : Nat} {r : Rdr} (p : RD h a r) {i k : Nat} {m : Mv} (hi : r.2.2.2[i]? = some m) (hk : k < 5) : Cc (d + 1) k_Rd_part [aR (some a), aI (zI i), aI (zI k)] h = some (some (aI (zI (prt m k))), h) :=
  Rd_part0 d p.2.1 (p.1.mi hi).2 hk (p.2.2.1.2.2.2.2 i m hi)
theorem Rd_p0 (d : Nat) {h : AH} {a : Nat} {r : Rdr} (p : RD h a r) {i : Nat} {m : Mv} (hi : r.2.2.2[i]? = some m) : Cc (d + 1) k_Rd_part [aR (some a), aI (zI i), aI (zI 0)] h = some (some (aI (zI m.1)), h) := Rd_part d p hi (k := 0) (by omega)
theorem Rd_p1 (d : Nat) {h : AH} {a : Nat} {r : Rdr} (p : RD h a r) {i : Nat} {m : Mv} (hi : r.2.2.2[i]? = some m) : Cc (d + 1) k_Rd_part [aR (some a), aI (zI i), aI (zI 1)] h = some (some (aI (zI m.2.1)), h) := Rd_part d p hi (k := 1) (by omega)
theorem Rd_p2 (d : Nat) {h : AH} {a : Nat} {r : Rdr} (p : RD h a r) {i : Nat} {m : Mv} (hi : r.2.2.2[i]? = some m) : Cc (d + 1) k_Rd_part [aR (some a), aI (zI i), aI (zI 2)] h = some (some (aI (zI m.2.2.1)), h) := Rd_part d p hi (k := 2) (by omega)
theorem Rd_p3 (d : Nat) {h : AH} {a : Nat} {r : Rdr} (p : RD h a r) {i : Nat} {m : Mv} (hi : r.2.2.2[i]? = some m) : Cc (d + 1) k_Rd_part [aR (some a), aI (zI i), aI (zI 3)] h = some (some (aI (zI m.2.2.2.1)), h) := Rd_part d p hi (k := 3) (by omega)
theorem Rd_p4 (d : Nat) {h : AH} {a : Nat} {r : Rdr} (p : RD h a r) {i : Nat} {m : Mv} (hi : r.2.2.2[i]? = some m) : Cc (d + 1) k_Rd_part [aR (some a), aI (zI i), aI (zI 4)] h = some (some (aI (zI m.2.2.2.2)), h) := Rd_part d p hi (k := 4) (by omega)
theorem Rd_begin (d : Nat) {h : AH} {a : Nat} {r : Rdr} (p : RD h a r) {s l : Nat} (hs : s < 24576) (hl : l < 3) : Cc (d + 1) k_Rd_begin [aR (some a), aI (zI s), aI (zI l)] h = some (some (aI (zI (bg r.2.2.2 (s / 4096 * 3 + l)))), h) := by
  obtain ⟨s0, s1, s2, s3, r0, r1, r2⟩ := p.2.1
  rw [C_Rd_begin, E_Rd_begin_0, obj_e s0, r2, show zI 3 = zI ((3 : Nat) : Int) from rfl]
  simp (disch := omega) only [shr12, nmul, nadd, idx_n s3]
  rw [← p.2.2.2.1 _ (by omega)]
theorem Rd_end (d : Nat) {h : AH} {a : Nat} {r : Rdr} (p : RD h a r) {s l : Nat} (hs : s < 24576) (hl : l < 3) : Cc (d + 1) k_Rd_end [aR (some a), aI (zI s), aI (zI l)] h = some (some (aI (zI (bg r.2.2.2 (s / 4096 * 3 + l + 1)))), h) := by
  obtain ⟨s0, s1, s2, s3, r0, r1, r2⟩ := p.2.1
  rw [C_Rd_end, E_Rd_end_0, obj_e s0, r2, show zI 3 = zI ((3 : Nat) : Int) from rfl]
  simp (disch := omega) only [shr12, nmul, nadd, nadd1, idx_n s3]
  rw [← p.2.2.2.1 _ (by omega)]
theorem Rd_moveAt (d : Nat) {h : AH} {a : Nat} {r : Rdr} (p : RD h a r) {q j i : Nat} (hq : q < 18) (hj : (bk r.2.2.2 q)[j]? = some i) : Cc (d + 1) k_Rd_moveAt [aR (some a), aI (zI ((bg r.2.2.2 q + j : Nat) : Int))] h = some (some (aI (zI i)), h) := by
  obtain ⟨s0, s1, s2, s3, r0, r1, r2⟩ := p.2.1
  have h1 : bg r.2.2.2 (q + 1) ≤ 20 := Nat.le_trans (bg_le _ _) p.1.2.2.2.2.1
  have h2 : j < (bk r.2.2.2 q).length := (List.getElem?_eq_some_iff.mp hj).1
  rw [bg] at h1
  rw [C_Rd_moveAt, E_Rd_moveAt_0, obj_e s0, r1]
  simp (disch := omega) only [idx_n s2]
  rw [p.2.2.2.2 q j i hq hj]
/-- the state takes -/
def tks (r : Rdr) (q : Nat) : Bool := r.2.2.1 / 2 ^ q % 2 == 1
theorem bool_end {P : Prop} {_ : Decidable P} {y : Int32} {h : AH} (e : y = zI 0 ∨ y = zI 1) : (if y = 0 ∨ y = 1 then some (some (aI y), h) else none : Option AR) = some (some (aI y), h) := if_pos e
theorem tk_lt {r : Rdr} (p : RV r) : r.2.2.1 < 64 := by
  have : 2 ^ r.1 ≤ 2 ^ 6 := Nat.pow_le_pow_right (by omega) p.2.1
  have := p.2.2.2.1
  omega
theorem tk_bit {r : Rdr} (p : RV r) {q : Nat} (hq : q < 32) {A B : Option AR} : (if (zI r.2.2.1 >>> (zI q &&& 31)) &&& zI 1 = 0 then A else B) = if tks r q then B else A := by
  have h1 := tk_lt p
  have h2 : r.2.2.1 / 2 ^ q ≤ r.2.2.1 := Nat.div_le_self _ _
  simp (disch := omega) only [nshr, and1, neq0]
  unfold tks
  by_cases z : r.2.2.1 / 2 ^ q % 2 = 0
  · simp [z]
  · have : r.2.2.1 / 2 ^ q % 2 = 1 := by omega
    simp [this]
theorem Rd_takesAt (d : Nat) {h : AH} {a : Nat} {r : Rdr} (p : RD h a r) {s : Nat} (hs : s < 24576) : Cc (d + 1) k_Rd_takesAt [aR (some a), aI (zI s)] h = some (some (aI (zI (if tks r (s / 4096) then 1 else 0))), h) := by
  rw [C_Rd_takesAt, E_Rd_takesAt_0, obj_e p.2.1.1, p.2.2.1.2.2.1]
  simp (disch := omega) only [shr12, tk_bit p.1]
  cases tks r (s / 4096)
  · simp [E_Rd_takesAt_2, E_Rd_takesAt_3, zI_0, zI_1]
  · simp [E_Rd_takesAt_1, E_Rd_takesAt_3, zI_0, zI_1]
theorem Rd_takesBehind (d : Nat) {h : AH} {a : Nat} {r : Rdr} (p : RD h a r) {i : Nat} {m : Mv} (hi : r.2.2.2[i]? = some m) : Cc (d + 2) k_Rd_takesBehind [aR (some a), aI (zI i)] h = some (some (aI (zI (if tks r m.2.2.2.2 then 1 else 0))), h) := by
  have := (p.1.mi hi).1
  unfold MV at this
  rw [C_Rd_takesBehind, E_Rd_takesBehind_0, obj_e p.2.1.1, obj_e p.2.1.1, calI_e (Rd_p4 d p hi), p.2.2.1.2.2.1, tk_bit p.1 (by omega)]
  cases tks r m.2.2.2.2
  · simp [E_Rd_takesBehind_2, E_Rd_takesBehind_3, zI_0, zI_1]
  · simp [E_Rd_takesBehind_1, E_Rd_takesBehind_3, zI_0, zI_1]
