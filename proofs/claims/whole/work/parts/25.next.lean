/-! Spots.next -/
theorem lgp {x y : Int64} (e : x = y) (A B : Option AR) : (if lg_cmp x y = 0 then A else B) = A := if_pos ((lg_cmp_eq x y).mpr e)
theorem lgn {x y : Int64} (e : x ≠ y) (A B : Option AR) : (if lg_cmp x y = 0 then A else B) = B := if_neg fun z => e ((lg_cmp_eq x y).mp z)
theorem zI_m1 : zI (-1) = zI (hd []) := rfl
theorem Sp_next_lp (d : Nat) {h : AH} {a lim f w0 : Nat} {S : Nat → Bool} (p : SP h a lim S) (hw : ∀ u, f ≤ u → u < 64 * w0 → S u = false) (hf : f < 64 * w0) : ∀ (n g : Nat) (x : Int64), g + 1 + n = ((lim + 63) / 64 + 63) / 64 → w0 ≤ 64 * g + 63 →
    (∀ b, b < 64 → (bt x b = true ↔ w0 ≤ 64 * g + b ∧ ∃ c, c < 64 ∧ S (64 * (64 * g + b) + c) = true)) → (∀ u, f ≤ u → u < 4096 * g → S u = false) →
    Rk B_Sp_next L_Sp_next (Cc (d + 2)) 8 [aR (some a), aU, aU, aU, aU, aI (zI ((g + 1 : Nat) : Int)), aL x, aU] [] h = some (some (aI (zI (hd (els S lim f)))), h) := by
  obtain ⟨⟨s0, s1, s2, r1, r2, l0, l1, l2⟩, ⟨b0, b1, b2⟩, sz⟩ := p
  have hit : ∀ (g : Nat) (x : Int64), g < ((lim + 63) / 64 + 63) / 64 → x ≠ zL 0 → (∀ b, b < 64 → (bt x b = true ↔ w0 ≤ 64 * g + b ∧ ∃ c, c < 64 ∧ S (64 * (64 * g + b) + c) = true)) → (∀ u, f ≤ u → u < 4096 * g → S u = false) →
      Rk B_Sp_next L_Sp_next (Cc (d + 2)) 11 [aR (some a), aU, aU, aU, aU, aI (zI ((g + 1 : Nat) : Int)), aL x, aU] [] h = some (some (aI (zI (hd (els S lim f)))), h) := by
    intro g x hg hx hb hu
    obtain ⟨i, i1, i2, i3⟩ := bt_least hx
    obtain ⟨j1, c, c1, c2⟩ := (hb i i1).mp i2
    have hlim : 64 * (64 * g + i) + c < lim := Nat.lt_of_not_le fun z => by rw [b0 _ z] at c2; cases c2
    have hne : hL h (a + 1) (64 * g + i) ≠ zL 0 := fun z => by
      have := b1 (64 * g + i) c c1 (by omega)
      rw [z, bt_0, c2] at this; cases this
    obtain ⟨k, k1, k2, k3⟩ := bt_least hne
    rw [b1 _ _ k1 (by omega)] at k2
    have hk : 64 * (64 * g + i) + k < lim := Nat.lt_of_not_le fun z => by rw [b0 _ z] at k2; cases k2
    have e : els S lim f = (64 * (64 * g + i) + k) :: els S lim (64 * (64 * g + i) + k + 1) := els_cons (by omega) hk k2 (by
      intro u u1 u2
      by_cases z1 : u < 64 * w0
      · exact hw u u1 z1
      by_cases z2 : u < 4096 * g
      · exact hu u u1 z2
      by_cases z3 : u / 64 = 64 * g + i
      · have := k3 (u % 64) (by omega)
        rw [← z3, b1 (u / 64) (u % 64) (by omega) (by omega), show 64 * (u / 64) + u % 64 = u by omega] at this
        exact this
      · have q := i3 (u / 64 - 64 * g) (by omega)
        cases y : S u with
        | false => rfl
        | true =>
          have := (hb (u / 64 - 64 * g) (by omega)).mpr ⟨by omega, u % 64, by omega, by rw [show 64 * (64 * g + (u / 64 - 64 * g)) + u % 64 = u by omega]; exact y⟩
          rw [q] at this; cases this)
    rw [e, E_Sp_next_11, lgn hx, E_Sp_next_13, calI_e (Sp_lowest d i1 i2 i3 h)]
    simp (disch := omega) only [lt_e, nsub1, Nat.add_sub_cancel, shl6, nadd, obj_e s0, r1, idx_n s1]
    rw [calI_e (Sp_lowest d k1 (by rw [b1 _ _ k1 (by omega)]; exact k2) k3 h)]
    simp only [nadd]
    rfl
  intro n
  induction n with
  | zero =>
    intro g x hg hw0 hb hu
    rw [E_Sp_next_8]
    by_cases z : x = zL 0
    · rw [lgp z, E_Sp_next_9, obj_e s0, r2, mb_some, aln_e s2, mb_some, zI_nI]
      simp (disch := omega) only [nlt]
      rw [if_neg (by omega), E_Sp_next_11, lgp z, E_Sp_next_12, els_nil]
      · rfl
      · intro t t1 t2
        by_cases z2 : t < 4096 * g
        · exact hu t t1 z2
        by_cases z1 : t < 64 * w0
        · exact hw t t1 z1
        cases y : S t with
        | false => rfl
        | true =>
          have := (hb (t / 64 - 64 * g) (by omega)).mpr ⟨by omega, t % 64, by omega, by rw [show 64 * (64 * g + (t / 64 - 64 * g)) + t % 64 = t by omega]; exact y⟩
          rw [z, bt_0] at this; cases this
    · rw [lgn z]
      exact hit g x (by omega) z hb hu
  | succ n ih =>
    intro g x hg hw0 hb hu
    rw [E_Sp_next_8]
    by_cases z : x = zL 0
    · rw [lgp z, E_Sp_next_9, obj_e s0, r2, mb_some, aln_e s2, mb_some, zI_nI]
      simp (disch := omega) only [nlt]
      rw [if_pos (by omega), E_Sp_next_10, obj_e s0, r2]
      simp (disch := omega) only [idx_n s2, lt_e, nadd1]
      refine ih (g + 1) _ (by omega) (by omega) ?_ ?_
      · intro b hb
        rw [b2 (g + 1) b hb (by omega)]
        constructor
        · intro e; exact ⟨by omega, e⟩
        · intro e; exact e.2
      · intro t t1 t2
        by_cases z2 : t < 4096 * g
        · exact hu t t1 z2
        by_cases z1 : t < 64 * w0
        · exact hw t t1 z1
        cases y : S t with
        | false => rfl
        | true =>
          have := (hb (t / 64 - 64 * g) (by omega)).mpr ⟨by omega, t % 64, by omega, by rw [show 64 * (64 * g + (t / 64 - 64 * g)) + t % 64 = t by omega]; exact y⟩
          rw [z, bt_0] at this; cases this
    · rw [lgn z]
      exact hit g x (by omega) z hb hu
theorem Sp_next (d : Nat) {h : AH} {a lim f : Nat} {S : Nat → Bool} (p : SP h a lim S) (hf : f < 2147483648) : Cc (d + 3) k_Sp_next [aR (some a), aI (zI f)] h = some (some (aI (zI (hd (els S lim f)))), h) := by
  obtain ⟨⟨s0, s1, s2, r1, r2, l0, l1, l2⟩, ⟨b0, b1, b2⟩, sz⟩ := id p
  rw [C_Sp_next, E_Sp_next_0]
  simp (disch := omega) only [nlt0, if_false]
  rw [E_Sp_next_1, obj_e s0, l0]
  simp (disch := omega) only [nlt]
  by_cases q : f < lim
  · rw [if_pos q, E_Sp_next_3]
    simp (disch := omega) only [lt_e, shr6, obj_e s0, r1, idx_n s1, lgz]
    have mk : ∀ b, b < 64 → bt (hL h (a + 1) (f / 64) &&& zL (-1) <<< ((zI f).toInt64 &&& 63)) b = (S (64 * (f / 64) + b) && decide (f ≤ 64 * (f / 64) + b)) := by
      intro b hb
      rw [bt_and, bt_mask hf, b1 _ _ hb (by omega)]
      congr 1
      apply decide_eq_decide.mpr
      omega
    by_cases z : hL h (a + 1) (f / 64) &&& zL (-1) <<< ((zI f).toInt64 &&& 63) = zL 0
    · rw [if_pos z, E_Sp_next_5]
      simp (disch := omega) only [lt_e, nadd1, shr6, obj_e s0, r2, mb_some, aln_e s2, zI_nI, nlt]
      have hw : ∀ u, f ≤ u → u < 64 * (f / 64 + 1) → S u = false := by
        intro u u1 u2
        have := mk (u % 64) (by omega)
        rw [z, bt_0, show 64 * (f / 64) + u % 64 = u by omega] at this
        simpa [u1] using this.symm
      by_cases y : (f / 64 + 1) / 64 < ((lim + 63) / 64 + 63) / 64
      · rw [if_pos y, E_Sp_next_7]
        simp (disch := omega) only [lt_e, obj_e s0, r2, idx_n s2, nadd1]
        refine Sp_next_lp d p hw (by omega) (((lim + 63) / 64 + 63) / 64 - (f / 64 + 1) / 64 - 1) ((f / 64 + 1) / 64) _ (by omega) (by omega) ?_ ?_
        · intro b hb
          rw [bt_and, bt_mask (by omega), Bool.and_eq_true, b2 _ _ hb y, decide_eq_true_eq]
          constructor
          · rintro ⟨e1, e2⟩; exact ⟨by omega, e1⟩
          · rintro ⟨e1, e2⟩; exact ⟨e2, by omega, hb⟩
        · intro u u1 u2
          exact hw u u1 (by omega)
      · rw [if_neg y, E_Sp_next_6, els_nil]
        · rfl
        · intro t t1 t2
          exact hw t t1 (by omega)
    · rw [if_neg z, E_Sp_next_4]
      obtain ⟨i, i1, i2, i3⟩ := bt_least z
      rw [calI_e (Sp_lowest d i1 i2 i3 h)]
      simp only [shl6, nadd]
      rw [mk i i1, Bool.and_eq_true, decide_eq_true_eq] at i2
      rw [els_cons (t := 64 * (f / 64) + i) i2.2 (Nat.lt_of_not_le fun y => by rw [b0 _ y] at i2; cases i2.1) i2.1]
      · rfl
      · intro u u1 u2
        have := i3 (u % 64) (by omega)
        rw [mk _ (by omega), show 64 * (f / 64) + u % 64 = u by omega] at this
        simpa [u1] using this
  · rw [if_neg q, E_Sp_next_2, els_nil]
    · rfl
    · intro t t1 t2; omega
