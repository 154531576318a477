/-! numbers: an int by its integer -/
theorem zI_toInt {z : Int} (h1 : -2147483648 ≤ z) (h2 : z < 2147483648) : (zI z).toInt = z := Int32.toInt_ofInt_of_le (by omega) (by omega)
theorem zI_add (a b : Int) : zI a + zI b = zI (a + b) := (Int32.ofInt_add a b).symm
theorem zI_sub (a b : Int) : zI a - zI b = zI (a - b) := (Int32.ofInt_sub a b).symm
theorem zI_mul (a b : Int) : zI a * zI b = zI (a * b) := (Int32.ofInt_mul a b).symm
theorem zI_neg (a : Int) : -zI a = zI (-a) := (Int32.ofInt_neg a).symm
theorem zI_0 : (0 : Int32) = zI 0 := rfl
theorem zI_1 : (1 : Int32) = zI 1 := rfl
theorem zI_nI (n : Nat) : nI n = zI n := Int32.ofInt_eq_ofNat.symm
theorem zI_of (x : Int32) : ∃ z : Int, -2147483648 ≤ z ∧ z < 2147483648 ∧ x = zI z := ⟨x.toInt, by have := x.le_toInt; omega, by have := x.toInt_lt; omega, by unfold zI; exact (Int32.ofInt_toInt x).symm⟩
/-- within the ints -/
def inI (z : Int) : Prop := -2147483648 ≤ z ∧ z < 2147483648
theorem zI_lt {a b : Int} (ha : inI a) (hb : inI b) : zI a < zI b ↔ a < b := by rw [Int32.lt_iff_toInt_lt, zI_toInt ha.1 ha.2, zI_toInt hb.1 hb.2]
theorem zI_le {a b : Int} (ha : inI a) (hb : inI b) : zI a ≤ zI b ↔ a ≤ b := by rw [Int32.le_iff_toInt_le, zI_toInt ha.1 ha.2, zI_toInt hb.1 hb.2]
theorem zI_eq {a b : Int} (ha : inI a) (hb : inI b) : zI a = zI b ↔ a = b := by rw [← Int32.toInt_inj, zI_toInt ha.1 ha.2, zI_toInt hb.1 hb.2]
theorem zI_lt0 {a : Int} (ha : inI a) : zI a < 0 ↔ a < 0 := zI_lt (b := 0) ha ⟨by decide, by decide⟩
theorem zI_le0 {a : Int} (ha : inI a) : zI a ≤ 0 ↔ a ≤ 0 := zI_le (b := 0) ha ⟨by decide, by decide⟩
theorem zI_eq0 {a : Int} (ha : inI a) : zI a = 0 ↔ a = 0 := zI_eq (b := 0) ha ⟨by decide, by decide⟩
theorem zI_clamp {n : Nat} (h : n < 2147483648) : (zI (n : Int)).toNatClampNeg = n := by rw [← zI_nI]; exact nI_clamp h
/-- an index -/
theorem zI_in {i n : Nat} (h : i < n) (hn : n < 2147483648) : vp_in (zI (i : Int)) n := by rw [← zI_nI]; exact vp_in_nI h hn
theorem zI_shl {n k : Nat} (hk : k < 32) : zI (n : Int) <<< (zI (k : Int) &&& 31) = zI ((n * 2 ^ k : Nat) : Int) := by
  rw [← zI_nI, ← zI_nI, ← zI_nI]
  apply Int32.toBitVec_inj.mp
  apply BitVec.eq_of_toNat_eq
  have hs : ((nI k &&& 31).toBitVec.smod 32).toNat = k := by
    have : ∀ k, k < 32 → ((nI k &&& 31).toBitVec.smod 32).toNat = k := by decide
    exact this k hk
  rw [pk_shl _ _ k hs]
  show (BitVec.ofNat 32 n).toNat * 2 ^ k % 2 ^ 32 = (BitVec.ofNat 32 (n * 2 ^ k)).toNat
  rw [BitVec.toNat_ofNat, BitVec.toNat_ofNat, Nat.mod_mul_mod]
theorem zI_shr {n k : Nat} (hn : n < 2147483648) (hk : k < 32) : zI (n : Int) >>> (zI (k : Int) &&& 31) = zI ((n / 2 ^ k : Nat) : Int) := by
  rw [← zI_nI, ← zI_nI, ← zI_nI]
  refine pk_shrN hn _ k ?_
  have : ∀ k, k < 32 → ((nI k &&& 31).toBitVec.smod 32).toNat = k := by decide
  exact this k hk
theorem zI_and {a b : Nat} (ha : a < 2147483648) (hb : b < 2147483648) : zI (a : Int) &&& zI (b : Int) = zI ((a &&& b : Nat) : Int) := by
  rw [← zI_nI, ← zI_nI, ← zI_nI]
  apply Int32.toBitVec_inj.mp
  apply BitVec.eq_of_toNat_eq
  show ((BitVec.ofNat 32 a) &&& (BitVec.ofNat 32 b)).toNat = (BitVec.ofNat 32 (a &&& b)).toNat
  rw [BitVec.toNat_and, BitVec.toNat_ofNat, BitVec.toNat_ofNat, BitVec.toNat_ofNat]
  have hc : a &&& b ≤ a := Nat.and_le_left
  rw [Nat.mod_eq_of_lt (by omega), Nat.mod_eq_of_lt (by omega), Nat.mod_eq_of_lt (by omega)]
theorem zI_or {a b : Nat} (ha : a < 2147483648) (hb : b < 2147483648) : zI (a : Int) ||| zI (b : Int) = zI ((a ||| b : Nat) : Int) := by
  rw [← zI_nI, ← zI_nI, ← zI_nI]
  apply Int32.toBitVec_inj.mp
  apply BitVec.eq_of_toNat_eq
  show ((BitVec.ofNat 32 a) ||| (BitVec.ofNat 32 b)).toNat = (BitVec.ofNat 32 (a ||| b)).toNat
  rw [BitVec.toNat_or, BitVec.toNat_ofNat, BitVec.toNat_ofNat, BitVec.toNat_ofNat]
  have hc : a ||| b < 2 ^ 31 := Nat.or_lt_two_pow (by omega) (by omega)
  rw [Nat.mod_eq_of_lt (by omega), Nat.mod_eq_of_lt (by omega), Nat.mod_eq_of_lt (by omega)]
theorem zI_div {a b : Nat} (ha : a < 2147483648) (hb0 : 0 < b) (hb : b < 2147483648) : zI (a : Int) / zI (b : Int) = zI ((a / b : Nat) : Int) := by
  rw [← zI_nI, ← zI_nI, ← zI_nI]; exact pk_div ha hb0 hb
theorem zI_rem {a b : Nat} (ha : a < 2147483648) (hb0 : 0 < b) (hb : b < 2147483648) : zI (a : Int) - zI (a : Int) / zI (b : Int) * zI (b : Int) = zI ((a % b : Nat) : Int) := by
  rw [← zI_nI, ← zI_nI, ← zI_nI]; exact pk_rem ha hb0 hb
/-! the heap's readings -/
theorem hI_sI (h : AH) (a j : Nat) (x : Int32) (a' j' : Nat) : hI (sI h a j x) a' j' = if a' = a ∧ j' = j then x else hI h a' j' := rfl
theorem hL_sI (h : AH) (a j : Nat) (x : Int32) (a' j' : Nat) : hL (sI h a j x) a' j' = hL h a' j' := rfl
theorem hR_sI (h : AH) (a j : Nat) (x : Int32) (a' j' : Nat) : hR (sI h a j x) a' j' = hR h a' j' := rfl
theorem s_sI (h : AH) (a j : Nat) (x : Int32) : (sI h a j x).1 = h.1 := rfl
theorem hI_sL (h : AH) (a j : Nat) (x : Int64) (a' j' : Nat) : hI (sL h a j x) a' j' = hI h a' j' := rfl
theorem hL_sL (h : AH) (a j : Nat) (x : Int64) (a' j' : Nat) : hL (sL h a j x) a' j' = if a' = a ∧ j' = j then x else hL h a' j' := rfl
theorem hR_sL (h : AH) (a j : Nat) (x : Int64) (a' j' : Nat) : hR (sL h a j x) a' j' = hR h a' j' := rfl
theorem s_sL (h : AH) (a j : Nat) (x : Int64) : (sL h a j x).1 = h.1 := rfl
theorem hI_sR (h : AH) (a j : Nat) (x : Option Nat) (a' j' : Nat) : hI (sR h a j x) a' j' = hI h a' j' := rfl
theorem hL_sR (h : AH) (a j : Nat) (x : Option Nat) (a' j' : Nat) : hL (sR h a j x) a' j' = hL h a' j' := rfl
theorem hR_sR (h : AH) (a j : Nat) (x : Option Nat) (a' j' : Nat) : hR (sR h a j x) a' j' = if a' = a ∧ j' = j then x else hR h a' j' := rfl
theorem s_sR (h : AH) (a j : Nat) (x : Option Nat) : (sR h a j x).1 = h.1 := rfl
theorem lt_e {α : Type} (x : α) (f : α → Option AR) : lt x f = f x := rfl
theorem mb_some {α : Type} (x : α) (f : α → Option AR) : mb (some x) f = f x := rfl
theorem calI_e {o : Option AR} {x : Int32} {h' : AH} (e : o = some (some (aI x), h')) (f : Int32 → AH → Option AR) : calI o f = f x h' := by rw [e]; rfl
theorem calL_e {o : Option AR} {x : Int64} {h' : AH} (e : o = some (some (aL x), h')) (f : Int64 → AH → Option AR) : calL o f = f x h' := by rw [e]; rfl
theorem calR_e {o : Option AR} {x : Option Nat} {h' : AH} (e : o = some (some (aR x), h')) (f : Option Nat → AH → Option AR) : calR o f = f x h' := by rw [e]; rfl
theorem calV_e {o : Option AR} {h' : AH} (e : o = some (none, h')) (f : AH → Option AR) : calV o f = f h' := by rw [e]; rfl
/-! a computable call: what it answers, Cc answers -/
theorem ev1_C {C C' : AC} (hC : ∀ c as h r, C c as h = some r → C' c as h = some r) {K : AK} {lm : Nat → List Bool} {it : CI} {lv st : List AV} {h : AH} {k : AT} {r : AR} (e : ev1 C K lm it lv st h k = some r) : ev1 C' K lm it lv st h k = some r := by
  obtain ⟨i, rs, z⟩ := it
  cases i
  case invokestatic =>
    obtain ⟨c, n, rk, l, rfl, g1⟩ := rs3_s e
    obtain ⟨as, st', e1, g2⟩ := pop_s g1
    obtain ⟨v, h', e2, hk, g3⟩ := cal_s g2
    simp only [ev1, rs3, pop_e e1, cal_e (hC _ _ _ _ e2) hk]
    exact g3
  case invokevirtual =>
    obtain ⟨c, n, ci, rk, l, rfl, g1⟩ := rs4_s e
    obtain ⟨as, st', e1, g2⟩ := pop_s g1
    obtain ⟨e3, g3⟩ := rcv_s g2
    obtain ⟨v, h', e2, hk, g4⟩ := cal_s g3
    simp only [ev1, rs4, pop_e e1, rcv_e e3, cal_e (hC _ _ _ _ e2) hk]
    exact g4
  case invokespecial =>
    obtain ⟨c, n, ci, rk, l, rfl, g1⟩ := rs4_s e
    obtain ⟨as, st', e1, g2⟩ := pop_s g1
    obtain ⟨e3, g3⟩ := rcv_s g2
    rcases if_c g3 with ⟨q, g4⟩ | ⟨q, g4⟩
    · simp only [ev1, rs4, pop_e e1, rcv_e e3, if_pos q]
      exact g4
    · obtain ⟨v, h', e2, hk, g5⟩ := cal_s g4
      simp only [ev1, rs4, pop_e e1, rcv_e e3, if_neg q, cal_e (hC _ _ _ _ e2) hk]
      exact g5
  all_goals exact e
theorem evL_C {C C' : AC} (hC : ∀ c as h r, C c as h = some r → C' c as h = some r) {K K' : AK} (hK : ∀ t lv st h r, K t lv st h = some r → K' t lv st h = some r) {lm : Nat → List Bool} {nt : Nat} : ∀ (is : List CI) (lv st : List AV) (h : AH) (r : AR), evL C K lm nt is lv st h = some r → evL C' K' lm nt is lv st h = some r
  | [], lv, st, h, r, e => hK _ _ _ _ _ e
  | i :: is, lv, st, h, r, e => by
    have e2 : ev1 C' K lm i lv st h (evL C K lm nt is) = some r := ev1_C hC e
    rcases ev1_nx C' lm i lv st h K _ r e2 with ⟨lv', st', h', e1, e3⟩ | ⟨t, lv', st', h', e1, e3⟩ | e3
    · exact (e3 K' _).trans (evL_C hC hK is _ _ _ _ e1)
    · exact (e3 K' _).trans (hK _ _ _ _ _ e1)
    · exact e3 K' _
theorem rn_C {C C' : AC} (hC : ∀ c as h r, C c as h = some r → C' c as h = some r) {B : BT} {lm : Nat → List Bool} : ∀ (n t : Nat) (lv st : List AV) (h : AH) (r : AR), rn B lm C n t lv st h = some r → rn B lm C' n t lv st h = some r
  | 0, t, lv, st, h, r, e => by cases e
  | n + 1, t, lv, st, h, r, e => evL_C hC (fun t lv st h r e => rn_C hC n t lv st h r e) _ _ _ _ _ e
/-- calls of few steps: each method's at most so many blocks -/
def Cf (n : Nat) : Nat → AC
  | 0 => fun _ _ _ => none
  | d + 1 => fun c as h => if c < 6 then (if (c = 2 ∨ c = 3) ∧ d < 4 then none else prm c as h) else match KT[c]? with
    | some K => match Nat.ble (spr as).length K.2.2.1 with
      | true => rn K.2.2.2.2.1 K.2.2.2.2.2.1 (Cf n d) n 0 (ent K.2.2.1 as) [] h
      | false => none
    | none => none
theorem Cf_Cc {n : Nat} : ∀ (d c : Nat) (as : List AV) (h : AH) (r : AR), Cf n d c as h = some r → Cc d c as h = some r
  | 0, c, as, h, r, e => by cases e
  | d + 1, c, as, h, r, e => by
    have e : (if c < 6 then (if (c = 2 ∨ c = 3) ∧ d < 4 then none else prm c as h) else match KT[c]? with
      | some K => match Nat.ble (spr as).length K.2.2.1 with
        | true => rn K.2.2.2.2.1 K.2.2.2.2.2.1 (Cf n d) n 0 (ent K.2.2.1 as) [] h
        | false => none
      | none => none) = some r := e
    show (if c < 6 then (if (c = 2 ∨ c = 3) ∧ d < 4 then none else prm c as h) else match KT[c]? with
      | some K => match Nat.ble (spr as).length K.2.2.1 with
        | true => Rk K.2.2.2.2.1 K.2.2.2.2.2.1 (Cc d) 0 (ent K.2.2.1 as) [] h
        | false => none
      | none => none) = some r
    by_cases hc : c < 6
    · rw [if_pos hc] at e ⊢; exact e
    · rw [if_neg hc] at e ⊢
      split at e
      · split at e
        · exact Rk_some.mpr ⟨n, rn_C (fun c as h r e => Cf_Cc d c as h r e) _ _ _ _ _ _ e⟩
        · cases e
      · cases e
