/-! Outlook: names, places -/
theorem C_max (d : Nat) {a b : Nat} (ha : a < 2147483648) (hb : b < 2147483648) (h : AH) : Cc (d + 1) 4 [aI (zI a), aI (zI b)] h = some (some (aI (zI ((max a b : Nat) : Int))), h) := by
  show some (some (aI (if zI (a : Int) < zI (b : Int) then zI (b : Int) else zI (a : Int))), h) = _
  simp only [nlt ha hb]
  by_cases z : a < b
  · rw [if_pos z, Nat.max_eq_right (by omega)]
  · rw [if_neg z, Nat.max_eq_left (by omega)]
theorem and3 {n : Nat} (h : n < 2147483648) : zI n &&& zI 3 = zI ((n % 4 : Nat) : Int) := by rw [yand3 (by omega) (by omega)]; rfl
theorem shr2 {n : Nat} (h : n < 2147483648) : zI n >>> (zI 2 &&& 31) = zI ((n / 4 : Nat) : Int) := zI_shr (k := 2) h (by decide)
theorem shl4 (n : Nat) : zI n <<< (zI 4 &&& 31) = zI ((16 * n : Nat) : Int) := by rw [Nat.mul_comm]; exact zI_shl (n := n) (k := 4) (by decide)
theorem shl8 (n : Nat) : zI n <<< (zI 8 &&& 31) = zI ((256 * n : Nat) : Int) := by rw [Nat.mul_comm]; exact zI_shl (n := n) (k := 8) (by decide)
theorem Ol_newName (d : Nat) (h : AH) {c : Cfg} (hc : CV c) : Cc (d + 2) k_Ol_newName [aI (zI (eX c))] h = some (some (aI (zI ((top c + 1 : Nat) : Int))), h) := by
  have := eX_lt hc
  have h2 := hc
  unfold CV at h2
  rw [C_Ol_newName, E_Ol_newName_0]
  simp (disch := omega) only [shr4, shr8, and15, eX_a hc, eX_b hc, eX_c hc]
  rw [calI_e (C_max _ (by omega) (by omega) _), calI_e (C_max _ (by omega) (by omega) _), zc1, nadd, Nat.add_comm]
  rfl
theorem pl_or : ∀ q, q < 6 → ∀ t, t < 4 → ∀ s, s < 4 → ∀ f, f < 4 → 64 * q ||| 16 * t ||| 4 * s ||| f = q * 64 + t * 16 + s * 4 + f := by decide +kernel
theorem sp_or : ∀ q, q < 6 → ∀ t, t < 4 → ∀ s, s < 4 → ∀ f, f < 4 → 4096 * q ||| 256 * t ||| 16 * s ||| f = 4096 * q + 256 * t + 16 * s + f := by decide +kernel
theorem Ol_spotOf (d : Nat) (h : AH) {c : Cfg} (hc : KV c) : Cc (d + 1) k_Ol_spotOf [aI (zI (eP c))] h = some (some (aI (zI (eX c))), h) := by
  have := eP_lt hc
  have h2 := hc.le
  rw [C_Ol_spotOf, E_Ol_spotOf_0]
  simp (disch := omega) only [shr6, shr4, shr2, and3, shl12, shl8, shl4]
  rw [show eP c / 64 = c.1 by unfold eP; omega, show eP c / 16 % 4 = c.2.2.2 by unfold eP; omega, show eP c / 4 % 4 = c.2.2.1 by unfold eP; omega, show eP c % 4 = c.2.1 by unfold eP; omega]
  have o1 : 4096 * c.1 ||| 256 * c.2.2.2 < 2 ^ 15 := Nat.or_lt_two_pow (by omega) (by omega)
  have o2 : 4096 * c.1 ||| 256 * c.2.2.2 ||| 16 * c.2.2.1 < 2 ^ 15 := Nat.or_lt_two_pow o1 (by omega)
  rw [zI_or (by omega) (by omega), zI_or (by omega) (by omega), zI_or (by omega) (by omega), sp_or _ (by omega) _ (by omega) _ (by omega) _ (by omega)]
  rfl
theorem Ol_placeOf (d : Nat) (h : AH) {c : Cfg} (hc : CV c) : Cc (d + 2) k_Ol_placeOf [aI (zI (eX c))] h = some (some (aI (zI (eP (kn c)))), h) := by
  have hx := eX_lt hc
  have h2 := hc
  unfold CV at h2
  have fin : ∀ t s f : Nat, t < 4 → s < 4 → f < 4 → Rk B_Ol_placeOf L_Ol_placeOf (Cc (d + 1)) 14 [aI (zI (eX c)), aU, aU, aU, aI (zI f), aI (zI s), aI (zI t)] [] h = some (some (aI (zI ((c.1 * 64 + t * 16 + s * 4 + f : Nat) : Int))), h) := by
    intro t s f ht hs hf
    rw [E_Ol_placeOf_14]
    simp (disch := omega) only [shr12, shl6, shl4, shl2]
    rw [eX_q hc]
    have o1 : 64 * c.1 ||| 16 * t < 2 ^ 9 := Nat.or_lt_two_pow (by omega) (by omega)
    have o2 : 64 * c.1 ||| 16 * t ||| 4 * s < 2 ^ 9 := Nat.or_lt_two_pow o1 (by omega)
    rw [zI_or (by omega) (by omega), zI_or (by omega) (by omega), zI_or (by omega) (by omega), pl_or _ (by omega) _ ht _ hs _ hf]
  have e8 : ∀ s f : Nat, s < 3 → f < 2 → Rk B_Ol_placeOf L_Ol_placeOf (Cc (d + 1)) 8 [aI (zI (eX c)), aI (zI c.2.1), aI (zI c.2.2.1), aI (zI c.2.2.2), aI (zI f), aU, aU] [aI (zI s)] h = some (some (aI (zI ((c.1 * 64 + (if c.2.2.2 = 0 then 0 else if c.2.2.2 = c.2.1 then f else if c.2.2.2 = c.2.2.1 then s else max f s + 1) * 16 + s * 4 + f : Nat) : Int))), h) := by
    intro s f hs hf
    rw [E_Ol_placeOf_8, lt_e, calI_e (C_max _ (by omega) (by omega) _), nadd1, lt_e]
    simp (disch := omega) only [neq0]
    by_cases z : c.2.2.2 = 0
    · rw [if_pos z, if_pos z, E_Ol_placeOf_9, lt_e, zc0, fin 0 s f (by omega) (by omega) (by omega)]
    · rw [if_neg z, if_neg z, E_Ol_placeOf_10]
      simp (disch := omega) only [neq]
      by_cases y : c.2.2.2 = c.2.1
      · rw [if_pos y, if_pos y, E_Ol_placeOf_11, lt_e, fin f s f (by omega) (by omega) (by omega)]
      · rw [if_neg y, if_neg y, E_Ol_placeOf_12]
        simp (disch := omega) only [neq]
        by_cases w : c.2.2.2 = c.2.2.1
        · rw [if_pos w, if_pos w, E_Ol_placeOf_13, lt_e, fin s s f (by omega) (by omega) (by omega)]
        · rw [if_neg w, if_neg w, fin (max f s + 1) s f (by omega) (by omega) (by omega)]
  have e3 : ∀ f : Nat, f < 2 → Rk B_Ol_placeOf L_Ol_placeOf (Cc (d + 1)) 3 [aI (zI (eX c)), aI (zI c.2.1), aI (zI c.2.2.1), aI (zI c.2.2.2), aU, aU, aU] [aI (zI f)] h = Rk B_Ol_placeOf L_Ol_placeOf (Cc (d + 1)) 8 [aI (zI (eX c)), aI (zI c.2.1), aI (zI c.2.2.1), aI (zI c.2.2.2), aI (zI f), aU, aU] [aI (zI (((if c.2.2.1 = 0 then 0 else if c.2.2.1 = c.2.1 then f else f + 1 : Nat)) : Int))] h := by
    intro f hf
    rw [E_Ol_placeOf_3, lt_e]
    simp (disch := omega) only [neq0]
    by_cases z : c.2.2.1 = 0
    · rw [if_pos z, if_pos z, E_Ol_placeOf_4]; rfl
    · rw [if_neg z, if_neg z, E_Ol_placeOf_5]
      simp (disch := omega) only [neq]
      by_cases y : c.2.2.1 = c.2.1
      · rw [if_pos y, if_pos y, E_Ol_placeOf_6]
      · rw [if_neg y, if_neg y, E_Ol_placeOf_7, nadd1]
  rw [C_Ol_placeOf, E_Ol_placeOf_0]
  simp (disch := omega) only [shr4, shr8, and15, eX_a hc, eX_b hc, eX_c hc, lt_e, neq0]
  by_cases z : c.2.1 = 0
  · rw [if_pos z, E_Ol_placeOf_1, zc0, e3 0 (by omega), e8 _ 0 (by split; omega; split <;> omega) (by omega)]
    unfold kn eP
    simp only [if_pos z]
  · rw [if_neg z, E_Ol_placeOf_2, zc1, e3 1 (by omega), e8 _ 1 (by split; omega; split <;> omega) (by omega)]
    unfold kn eP
    simp only [if_neg z]
/-- all moves of a state, by letters -/
def am (ms : List Mv) (q : Nat) : List Nat := bk ms (q * 3) ++ (bk ms (q * 3 + 1) ++ bk ms (q * 3 + 2))
theorem am_bg (ms : List Mv) (q : Nat) : bg ms (q * 3 + 3) = bg ms (q * 3) + (am ms q).length := by
  unfold am
  rw [bg, bg, bg, List.length_append, List.length_append]
  omega
theorem am_at (d : Nat) {h : AH} {a : Nat} {r : Rdr} (p : RD h a r) {q j i : Nat} (hq : q < 6) (hj : (am r.2.2.2 q)[j]? = some i) : Cc (d + 1) k_Rd_moveAt [aR (some a), aI (zI ((bg r.2.2.2 (q * 3) + j : Nat) : Int))] h = some (some (aI (zI i)), h) := by
  unfold am at hj
  by_cases z : j < (bk r.2.2.2 (q * 3)).length
  · rw [List.getElem?_append_left z] at hj
    exact Rd_moveAt d p (by omega) hj
  · rw [List.getElem?_append_right (by omega)] at hj
    by_cases y : j - (bk r.2.2.2 (q * 3)).length < (bk r.2.2.2 (q * 3 + 1)).length
    · rw [List.getElem?_append_left y] at hj
      have := Rd_moveAt d p (q := q * 3 + 1) (by omega) hj
      rw [bg, show bg r.2.2.2 (q * 3) + (bk r.2.2.2 (q * 3)).length + (j - (bk r.2.2.2 (q * 3)).length) = bg r.2.2.2 (q * 3) + j by omega] at this
      exact this
    · rw [List.getElem?_append_right (by omega)] at hj
      have := Rd_moveAt d p (q := q * 3 + 2) (by omega) hj
      rw [bg, bg, show bg r.2.2.2 (q * 3) + (bk r.2.2.2 (q * 3)).length + (bk r.2.2.2 (q * 3 + 1)).length + (j - (bk r.2.2.2 (q * 3)).length - (bk r.2.2.2 (q * 3 + 1)).length) = bg r.2.2.2 (q * 3) + j by omega] at this
      exact this
theorem am_mem {r : Rdr} (hv : RV r) {q i : Nat} : i ∈ am r.2.2.2 q ↔ ∃ m, r.2.2.2[i]? = some m ∧ m.1 = q := by
  unfold am
  rw [List.mem_append, List.mem_append]
  have b : ∀ p, i ∈ bk r.2.2.2 p ↔ ∃ m, r.2.2.2[i]? = some m ∧ key m = p := by
    intro p
    rw [← bk_iff]
    exact List.mem_iff_getElem?
  rw [b, b, b]
  constructor
  · rintro (⟨m, h1, h2⟩ | ⟨m, h1, h2⟩ | ⟨m, h1, h2⟩) <;> refine ⟨m, h1, ?_⟩ <;> have := (hv.mi h1).1.2.1 <;> unfold key at h2 <;> omega
  · rintro ⟨m, h1, h2⟩
    have := (hv.mi h1).1.2.1
    unfold key
    by_cases z : m.2.1 = 0
    · exact Or.inl ⟨m, h1, by omega⟩
    · by_cases y : m.2.1 = 1
      · exact Or.inr (Or.inl ⟨m, h1, by omega⟩)
      · exact Or.inr (Or.inr ⟨m, h1, by omega⟩)
theorem Rd_begin0 (d : Nat) {h : AH} {a : Nat} {r : Rdr} (p : RD h a r) {c : Cfg} (hc : CV c) : Cc (d + 1) k_Rd_begin [aR (some a), aI (zI (eX c)), aI (zI 0)] h = some (some (aI (zI (bg r.2.2.2 (c.1 * 3)))), h) := by
  have := Rd_begin d p (l := 0) (eX_lt hc) (by omega)
  rw [eX_q hc] at this
  exact this
theorem Rd_end2 (d : Nat) {h : AH} {a : Nat} {r : Rdr} (p : RD h a r) {c : Cfg} (hc : CV c) : Cc (d + 1) k_Rd_end [aR (some a), aI (zI (eX c)), aI (zI 2)] h = some (some (aI (zI ((bg r.2.2.2 (c.1 * 3) + (am r.2.2.2 c.1).length : Nat) : Int))), h) := by
  have := Rd_end d p (l := 2) (eX_lt hc) (by omega)
  rw [eX_q hc, show c.1 * 3 + 2 + 1 = c.1 * 3 + 3 from rfl, am_bg] at this
  exact this
theorem am_len {r : Rdr} (hv : RV r) (q : Nat) : bg r.2.2.2 (q * 3) + (am r.2.2.2 q).length ≤ 20 := by
  rw [← am_bg]; exact Nat.le_trans (bg_le _ _) hv.2.2.2.2.1
