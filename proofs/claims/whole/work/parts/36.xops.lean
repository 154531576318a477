/-! the class's small calls -/
def isR (x : Int) : Prop := x = 0 ∨ x = 1
def rdr (s : Stt) (x : Int) : Rdr := if x = 0 then s.1 else s.2.1
def sR' (s : Stt) (x : Int) (r : Rdr) : Stt := if x = 0 then (r, s.2) else (s.1, r, s.2.2)
def sW (s : Stt) (w : Rw) : Stt := (s.1, s.2.1, s.2.2.1, w)
def sT (s : Stt) (t : List Nat) : Stt := (s.1, s.2.1, t, s.2.2.2)
def xa (x : Int) : Nat := if x = 0 then 1 else 5
theorem XI.o {s : Stt} {h : AH} (p : XI s h) : h.1[0]? = some (4, 10) := z0 p.1
theorem XI.r {s : Stt} {h : AH} (p : XI s h) {a j c : Nat} (m : (a, j, c) ∈ XRefs) : hR h a j = some c := p.2.1 _ m
theorem XI.rd {s : Stt} {h : AH} (p : XI s h) (x : Int) : RD h (xa x) (rdr s x) := by
  unfold xa rdr; split
  · exact p.2.2.1
  · exact p.2.2.2.1
theorem XI_setR {s : Stt} {h h' : AH} (p : XI s h) (x : Int) {r : Rdr} (f : fr (fun b => xa x ≤ b ∧ b ≤ xa x + 3) h h') (q : RD h' (xa x) r) : XI (sR' s x r) h' := by
  obtain ⟨p1, p2, p3, p4, p5, p6, p7, p8⟩ := p
  have hx : xa x = 1 ∨ xa x = 5 := by unfold xa; split <;> simp
  have F : XF h' := p2.mv (fun t ht => by
    have : ∀ t, t ∈ XRefs → t.1 = 0 ∨ 12 < t.1 := by decide
    exact f.R (by have := this t ht; omega) _)
  unfold sR'
  by_cases z : x = 0
  · rw [if_pos z]
    have e : xa x = 1 := by unfold xa; rw [if_pos z]
    rw [e] at f q
    exact ⟨f.1.trans p1, F, q, p4.fr f (by omega), p5.fr f (by omega), p6.fr f (by omega) (by omega), p7.fr f (by omega), p8.fr f (by omega)⟩
  · rw [if_neg z]
    have e : xa x = 5 := by unfold xa; rw [if_neg z]
    rw [e] at f q
    exact ⟨f.1.trans p1, F, p3.fr f (by omega), q, p5.fr f (by omega), p6.fr f (by omega) (by omega), p7.fr f (by omega), p8.fr f (by omega)⟩
theorem XI_setW {s : Stt} {h h' : AH} (p : XI s h) {w : Rw} (f : fr (fun b => 16 ≤ b ∧ b ≤ 20) h h') (q : RW h' w) : XI (sW s w) h' := by
  obtain ⟨p1, p2, p3, p4, p5, p6, p7, p8⟩ := p
  have F : XF h' := p2.mv (fun t ht => by
    have : ∀ t, t ∈ XRefs → t.1 < 16 ∨ 20 < t.1 := by decide
    exact f.R (by have := this t ht; omega) _)
  exact ⟨f.1.trans p1, F, p3.fr f (by omega), p4.fr f (by omega), p5.fr f (by omega), p6.fr f (by omega) (by omega), q, p8.fr f (by omega)⟩
theorem XI_setT {s : Stt} {h h' : AH} (p : XI s h) {t : List Nat} (f : fr (fun b => 13 ≤ b ∧ b ≤ 15) h h') (r : ∀ a j, hR h' a j = hR h a j) (q : TXT h' t) : XI (sT s t) h' := by
  obtain ⟨p1, p2, p3, p4, p5, p6, p7, p8⟩ := p
  exact ⟨f.1.trans p1, p2.mv (fun t ht => r _ _), p3.fr f (by omega), p4.fr f (by omega), p5.fr f (by omega), q, p7.fr f (by omega), p8.fr f (by omega)⟩
theorem X_readerOf (d : Nat) {s : Stt} {h : AH} (p : XI s h) {x : Int} (h1 : -2147483648 ≤ x) (h2 : x < 2147483648) : Cc (d + 1) k_X_readerOf [aR (some 0), aI (zI x)] h = some (some (aR (if x = 0 then some 1 else if x = 1 then some 5 else none)), h) := by
  rw [C_X_readerOf, E_X_readerOf_0]
  simp (disch := omega) only [yeq0]
  by_cases z : x = 0
  · rw [if_pos z, if_pos z, E_X_readerOf_1, obj_e p.o, p.r (c := 1) (by decide)]
  · rw [if_neg z, if_neg z, E_X_readerOf_2]
    simp (disch := omega) only [yeq]
    by_cases y : x = 1
    · rw [if_pos y, if_pos y, E_X_readerOf_3, obj_e p.o, p.r (c := 5) (by decide), E_X_readerOf_5]
    · rw [if_neg y, if_neg y, E_X_readerOf_4, E_X_readerOf_5]
theorem X_within (d : Nat) (h : AH) {a b c : Int} (h1 : -2147483648 ≤ a) (h2 : a < 2147483648) (h3 : -2147483648 ≤ b) (h4 : b < 2147483648) (h5 : -2147483648 ≤ c) (h6 : c < 2147483648) : Cc (d + 1) k_X_within [aI (zI a), aI (zI b), aI (zI c)] h = some (some (aI (zI (if b ≤ a ∧ a ≤ c then 1 else 0))), h) := by
  rw [C_X_within, E_X_within_0]
  simp (disch := omega) only [ylt]
  by_cases z : a < b
  · rw [if_pos z, if_neg (by omega)]; simp [E_X_within_3, E_X_within_4, zI_0, zI_1]
  · rw [if_neg z, E_X_within_1]
    simp (disch := omega) only [yle]
    by_cases y : a ≤ c
    · rw [if_pos y, if_pos (by omega)]; simp [E_X_within_2, E_X_within_4, zI_0, zI_1]
    · rw [if_neg y, if_neg (by omega)]; simp [E_X_within_3, E_X_within_4, zI_0, zI_1]
theorem if01 {P : Prop} {_ : Decidable P} {A B : Option AR} : (if zI (if P then 1 else 0) = 0 then A else B) = if P then B else A := by
  by_cases z : P
  · rw [if_pos z, if_pos z]; exact if_neg (by decide)
  · rw [if_neg z, if_neg z]; exact if_pos rfl
theorem X_isPair (d : Nat) (h : AH) {a b : Int} (h1 : -2147483648 ≤ a) (h2 : a < 2147483648) (h3 : -2147483648 ≤ b) (h4 : b < 2147483648) : Cc (d + 2) k_X_isPair [aI (zI a), aI (zI b)] h = some (some (aI (zI (if (-1 ≤ a ∧ a ≤ 2) ∧ (-1 ≤ b ∧ b ≤ 99) then 1 else 0))), h) := by
  rw [C_X_isPair, E_X_isPair_0, calI_e (X_within d h h1 h2 (by omega) (by omega) (by omega) (by omega)), if01]
  by_cases z : -1 ≤ a ∧ a ≤ 2
  · rw [if_pos z, E_X_isPair_1, calI_e (X_within d h h3 h4 (by omega) (by omega) (by omega) (by omega)), if01]
    by_cases y : -1 ≤ b ∧ b ≤ 99
    · rw [if_pos y, if_pos ⟨z, y⟩]; simp [E_X_isPair_2, E_X_isPair_4, zI_0, zI_1]
    · rw [if_neg y, if_neg (fun q => y q.2)]; simp [E_X_isPair_3, E_X_isPair_4, zI_0, zI_1]
  · rw [if_neg z, if_neg (fun q => z q.1)]; simp [E_X_isPair_3, E_X_isPair_4, zI_0, zI_1]
/-! the text -/
theorem XI.tx {s : Stt} {h : AH} (p : XI s h) : TXT h s.2.2.1 := p.2.2.2.2.2.1
theorem Tx_size (d : Nat) {s : Stt} {h : AH} (p : XI s h) : Cc (d + 1) k_Tx_size [aR (some 13)] h = some (some (aI (zI s.2.2.1.length)), h) := by
  rw [C_Tx_size, E_Tx_size_0, obj_e (z13 p.1), p.tx.2.1]
theorem Tx_wipe (d : Nat) {s : Stt} {h : AH} (p : XI s h) : Cc (d + 1) k_Tx_wipe [aR (some 13)] h = some (some (aI (zI s.2.2.1.length)), sI h 13 2 (zI 0)) ∧ fr (fun b => 13 ≤ b ∧ b ≤ 15) h (sI h 13 2 (zI 0)) ∧ XI (sT s []) (sI h 13 2 (zI 0)) := by
  have f : fr (fun b => 13 ≤ b ∧ b ≤ 15) h (sI h 13 2 (zI 0)) := fr_sI h (by omega) _ _
  refine ⟨?_, f, XI_setT p f (fun _ _ => rfl) ⟨⟨by simp, by simp⟩, by rw [hI_hit]; rfl, by intro i c hc; simp at hc⟩⟩
  rw [C_Tx_wipe, E_Tx_wipe_0, obj_e (z13 p.1), lt_e, obj_e (z13 p.1), mb_some, p.tx.2.1]
theorem X_erase : XOK k_X_erase [] (fun s => s.2.2.1.length) (fun s => sT s []) := by
  intro s h p
  obtain ⟨e, f, q⟩ := Tx_wipe 58 p
  refine ⟨_, ?_, f.mo (fun b hb => by omega), q⟩
  rw [C_X_erase, E_X_erase_0, obj_e p.o, p.r (c := 13) (by decide), obj_e (z13 p.1), calI_e e]
/-- a byte of a long -/
def by8 (x : Int64) (i : Nat) : Nat := (x >>> (Int32.toInt64 (zI 8 * zI i) &&& 63)).toBitVec.toNat % 256
theorem by8_e (x : Int64) (i : Nat) : Int64.toInt32 ((x >>> (Int32.toInt64 (zI 8 * zI i) &&& 63)) &&& zL 255) = zI (by8 x i) := by
  unfold by8
  generalize x >>> (Int32.toInt64 (zI 8 * zI i) &&& 63) = y
  apply Int32.toBitVec_inj.mp
  apply BitVec.eq_of_toNat_eq
  show (((y &&& zL 255).toBitVec.signExtend 32).toNat) = (BitVec.ofInt 32 ((y.toBitVec.toNat % 256 : Nat) : Int)).toNat
  rw [BitVec.signExtend_eq_setWidth_of_le _ (by decide), BitVec.toNat_setWidth, Int64.toBitVec_and, BitVec.toNat_and, show (zL 255).toBitVec.toNat = 2 ^ 8 - 1 from by decide, Nat.and_two_pow_sub_one_eq_mod, BitVec.ofInt_natCast, BitVec.toNat_ofNat]
theorem Tx_put_lp (d : Nat) {x : Int64} {n : Nat} (hn : n ≤ 8) : ∀ (k i : Nat) (s : Stt) (h : AH), i + k = n → XI s h → s.2.2.1.length + k ≤ 150 → ∃ h', Rk B_Tx_put L_Tx_put (Cc d) 1 [aR (some 13), aL x, aU, aI (zI n), aI (zI i)] [] h = some (some (aI (zI ((s.2.2.1.length + k : Nat) : Int))), h') ∧ fr (fun b => 13 ≤ b ∧ b ≤ 15) h h' ∧ XI (sT s (s.2.2.1 ++ (List.range' i k).map (by8 x))) h'
  | 0, i, s, h, hk, p, hl => by
    refine ⟨h, ?_, fr.rf _ h, ?_⟩
    · rw [E_Tx_put_1]
      simp (disch := omega) only [nlt]
      rw [if_neg (by omega), E_Tx_put_4, obj_e (z13 p.1), p.tx.2.1]; rfl
    · simpa [sT] using p
  | k + 1, i, s, h, hk, p, hl => by
    have f1 : fr (fun b => 13 ≤ b ∧ b ≤ 15) h (sI (sI h 14 s.2.2.1.length (zI (by8 x i))) 13 2 (zI ((s.2.2.1.length + 1 : Nat) : Int))) := (fr_sI h (by omega) _ _).tr (fr_sI _ (by omega) _ _)
    have p1 := XI_setT p f1 (fun _ _ => rfl) (t := s.2.2.1 ++ [by8 x i]) (by
      obtain ⟨⟨v1, v2⟩, v3, v4⟩ := p.tx
      refine ⟨⟨by rw [List.length_append]; simp; omega, ?_⟩, by rw [hI_hit, List.length_append]; rfl, ?_⟩
      · intro c hc
        rcases List.mem_append.mp hc with hc | hc
        · exact v2 c hc
        · rw [List.mem_singleton.mp hc]; unfold by8; omega
      · intro j c hc
        rw [hI_off (by omega)]
        by_cases z : j < s.2.2.1.length
        · rw [hI_off (by omega)]
          rw [List.getElem?_append_left z] at hc
          exact v4 j c hc
        · have hj := (List.getElem?_eq_some_iff.mp hc).1
          rw [List.length_append] at hj
          have : j = s.2.2.1.length := by simp at hj; omega
          subst this
          rw [hI_hit]
          simp at hc
          rw [hc])
    have hlen : (sT s (s.2.2.1 ++ [by8 x i])).2.2.1.length = s.2.2.1.length + 1 := by simp [sT]
    obtain ⟨h', e, f, q⟩ := Tx_put_lp d hn k (i + 1) _ _ (by omega) p1 (by rw [hlen]; omega)
    refine ⟨h', ?_, f1.tr f, ?_⟩
    · rw [hlen] at e
      rw [E_Tx_put_1]
      simp (disch := omega) only [nlt]
      rw [if_pos (by omega), E_Tx_put_2, obj_e (z13 p.1), p.tx.2.1, show zI 150 = zI ((150 : Nat) : Int) from rfl]
      simp (disch := omega) only [nlt]
      rw [if_pos (by omega), E_Tx_put_3, obj_e (z13 p.1), obj_e (z13 p.1), p.r (c := 14) (by decide), p.tx.2.1]
      simp (disch := omega) only [idx_n (z14 p.1), lt_e, obj_sI, obj_e (z13 p.1), mb_some, hI_off, p.tx.2.1, nadd1, by8_e]
      rw [e, show s.2.2.1.length + 1 + k = s.2.2.1.length + (k + 1) by omega]
    · simpa [sT, List.range'_succ] using q
theorem X_write (x : Int64) {n : Int} (h1 : -2147483648 ≤ n) (h2 : n < 2147483648) : XOK k_X_write [aL x, aI (zI n)] (fun s => if ¬ (1 ≤ n ∧ n ≤ 8) then -3 else if 150 < s.2.2.1.length + n then -5 else s.2.2.1.length + n) (fun s => if ¬ (1 ≤ n ∧ n ≤ 8) then s else if 150 < s.2.2.1.length + n then s else sT s (s.2.2.1 ++ (List.range' 0 n.toNat).map (by8 x))) := by
  intro s h p
  have hl := p.tx.1.1
  rw [C_X_write, E_X_write_0, calI_e (X_within _ h h1 h2 (by omega) (by omega) (by omega) (by omega)), if01]
  by_cases z : 1 ≤ n ∧ n ≤ 8
  · simp only [if_pos z, if_neg (fun q => q z : ¬ ¬ (1 ≤ n ∧ n ≤ 8))]
    rw [E_X_write_2, obj_e p.o, p.r (c := 13) (by decide), obj_e (z13 p.1), calI_e (Tx_size _ p), zI_add]
    simp (disch := omega) only [yle]
    by_cases y : 150 < s.2.2.1.length + n
    · simp only [if_pos y, if_neg (by omega : ¬ ((s.2.2.1.length : Int) + n ≤ 150))]
      exact ⟨h, by rw [E_X_write_3], fr.rf _ h, p⟩
    · simp only [if_neg y, if_pos (by omega : ((s.2.2.1.length : Int) + n ≤ 150))]
      obtain ⟨m, rfl⟩ : ∃ m : Nat, n = m := ⟨n.toNat, by omega⟩
      obtain ⟨h', e, f, q⟩ := Tx_put_lp 58 (x := x) (n := m) (by omega) m 0 s h (by omega) p (by omega)
      refine ⟨h', ?_, f.mo (fun b hb => by omega), q⟩
      rw [E_X_write_4, obj_e p.o, p.r (c := 13) (by decide), obj_e (z13 p.1), calI_e (x := zI ((s.2.2.1.length + m : Nat) : Int)) (h' := h')]
      · rfl
      · rw [C_Tx_put, E_Tx_put_0, lt_e]; exact e
  · simp only [if_neg z, if_pos (by exact z : ¬ (1 ≤ n ∧ n ≤ 8))]
    exact ⟨h, by rw [E_X_write_1], fr.rf _ h, p⟩
