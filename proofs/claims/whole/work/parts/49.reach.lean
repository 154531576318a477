/-! where a reader may be: the sets, settled and not -/
noncomputable def bl (p : Prop) : Bool := @decide p (Classical.propDecidable p)
theorem bl_t {p : Prop} : bl p = true ↔ p := by unfold bl; exact @decide_eq_true_iff p (Classical.propDecidable p)
theorem bl_f {p : Prop} : bl p = false ↔ ¬ p := by rw [← Bool.not_eq_true, bl_t]
theorem bl_c {p q : Prop} (h : p ↔ q) : bl p = bl q := by rw [propext h]
/-- a mask of n bits -/
def mkm (f : Nat → Bool) : Nat → Nat
  | 0 => 0
  | n + 1 => 2 ^ n * (f n).toNat + mkm f n
theorem mkm_b (f : Nat → Bool) : ∀ n, mkm f n < 2 ^ n ∧ ∀ q, (mkm f n).testBit q = (decide (q < n) && f q)
  | 0 => ⟨by unfold mkm; omega, fun q => by simp [mkm]⟩
  | n + 1 => by
    obtain ⟨h1, h2⟩ := mkm_b f n
    have hb := Bool.toNat_le (f n)
    refine ⟨?_, fun q => ?_⟩
    · rw [mkm, Nat.pow_succ]
      have : 2 ^ n * (f n).toNat ≤ 2 ^ n * 1 := Nat.mul_le_mul_left _ hb
      omega
    · rw [mkm, Nat.testBit_two_pow_mul_add _ h1, h2 q]
      by_cases z : q < n
      · simp [z, show q < n + 1 by omega]
      · rw [if_neg z]
        by_cases y : q = n
        · subst y
          simp
          cases f q <;> rfl
        · have : q - n ≠ 0 := by omega
          have e : (f n).toNat.testBit (q - n) = false := by
            apply Nat.testBit_lt_two_pow
            have : 2 ^ 1 ≤ 2 ^ (q - n) := Nat.pow_le_pow_right (by omega) (by omega)
            omega
          rw [e]
          simp; omega
theorem mkm_u {v n : Nat} {f : Nat → Bool} (h1 : v < 2 ^ n) (h2 : ∀ q, q < n → v.testBit q = f q) : v = mkm f n := by
  apply Nat.eq_of_testBit_eq
  intro q
  rw [(mkm_b f n).2]
  by_cases z : q < n
  · rw [h2 q z]; simp [z]
  · rw [Nat.testBit_lt_two_pow (Nat.lt_of_lt_of_le h1 (Nat.pow_le_pow_right (by omega) (by omega)))]; simp [z]
theorem sbb_lp (d : Nat) {a : Nat} {S : Nat → Bool} {h : AH} (p : SP h a 24576 S) : ∀ (n f v : Nat), (els S 24576 f).length = n → v < 64 → ∃ v' : Nat, Rk B_Sp_statesByBits L_Sp_statesByBits (Cc (d + 3)) 1 [aR (some a), aI (zI v), aI (zI (hd (els S 24576 f))), aI (zI n)] [] h = some (some (aI (zI v')), h) ∧ v' < 64 ∧ ∀ q, v'.testBit q = true ↔ v.testBit q = true ∨ ∃ s, f ≤ s ∧ S s = true ∧ s / 4096 = q := by
  intro n
  induction n with
  | zero =>
    intro f v hn hv
    refine ⟨v, ?_, hv, fun q => ⟨Or.inl, ?_⟩⟩
    · rw [E_Sp_statesByBits_1, if_pos (by decide), E_Sp_statesByBits_4]
    · rintro (h | ⟨s, h1, h2, h3⟩)
      · exact h
      · have : s ∈ els S 24576 f := els_mem.mpr ⟨h1, Nat.lt_of_not_le fun z => (by rw [p.2.1.1 s z] at h2; cases h2), h2⟩
        rw [List.eq_nil_of_length_eq_zero hn] at this
        simp at this
  | succ n ih =>
    intro f v hn hv
    match hels : els S 24576 f, hn with
    | u :: rest, hn =>
      obtain ⟨u1, u2, u3, u4⟩ := els_head hels
      have hn2 : n ≤ 24576 := by
        have h1 : (els S 24576 f).length ≤ 24576 - f := by unfold els; exact Nat.le_trans (List.length_filter_le _ _) (by simp)
        rw [hels, hn] at h1
        omega
      have hp : 2 ^ (u / 4096) < 2 ^ 6 := Nat.pow_lt_pow_right (by omega) (by omega)
      have ho : v ||| 2 ^ (u / 4096) < 2 ^ 6 := Nat.or_lt_two_pow hv hp
      have hr : (els S 24576 (u + 1)).length = n := by rw [← u4]; simpa using hn
      obtain ⟨v', e, h1, h2⟩ := ih (u + 1) (v ||| 2 ^ (u / 4096)) hr ho
      refine ⟨v', ?_, h1, fun q => ?_⟩
      · rw [E_Sp_statesByBits_1]
        simp (disch := omega) only [nle0]
        rw [if_neg (by omega), E_Sp_statesByBits_2, show hd (u :: rest) = ((u : Nat) : Int) from rfl]
        simp (disch := omega) only [nlt0, if_false]
        rw [E_Sp_statesByBits_3]
        simp (disch := omega) only [shr12, lt_e, obj_e p.1.1, nadd1]
        rw [show zI 1 <<< (zI ((u / 4096 : Nat) : Int) &&& 31) = zI ((1 * 2 ^ (u / 4096) : Nat) : Int) from nshl (n := 1) (by omega), Nat.one_mul, zI_or (by omega) (Nat.lt_of_lt_of_le hp (by decide)), calI_e (Sp_next _ p (by omega)), ndec (by omega), Nat.add_sub_cancel]
        exact e
      · rw [h2 q, Nat.testBit_or, Bool.or_eq_true, Nat.testBit_two_pow, decide_eq_true_eq]
        constructor
        · rintro ((h | h) | ⟨s, k1, k2, k3⟩)
          · exact Or.inl h
          · exact Or.inr ⟨u, u1, u3, h⟩
          · exact Or.inr ⟨s, by omega, k2, k3⟩
        · rintro (h | ⟨s, k1, k2, k3⟩)
          · exact Or.inl (Or.inl h)
          · have : s ∈ els S 24576 f := els_mem.mpr ⟨k1, Nat.lt_of_not_le fun z => (by rw [p.2.1.1 s z] at k2; cases k2), k2⟩
            rw [hels] at this
            rcases List.mem_cons.mp this with y | y
            · subst y; exact Or.inl (Or.inr k3)
            · rw [u4] at y; exact Or.inr ⟨s, (els_mem.mp y).1, k2, k3⟩
theorem Sp_states (d : Nat) {a : Nat} {S : Nat → Bool} {h : AH} (p : SP h a 24576 S) : Cc (d + 4) k_Sp_statesByBits [aR (some a)] h = some (some (aI (zI (mkm (fun q => bl (∃ s, S s = true ∧ s / 4096 = q)) 6))), h) := by
  obtain ⟨v', e, h1, h2⟩ := sbb_lp d p _ 0 0 rfl (by omega)
  have hv : v' = mkm (fun q => bl (∃ s, S s = true ∧ s / 4096 = q)) 6 := mkm_u h1 (fun q hq => by
    rw [Bool.eq_iff_iff, h2 q, bl_t]
    constructor
    · rintro (h | ⟨s, k1, k2, k3⟩)
      · simp at h
      · exact ⟨s, k2, k3⟩
    · rintro ⟨s, k2, k3⟩; exact Or.inr ⟨s, Nat.zero_le _, k2, k3⟩)
  rw [C_Sp_statesByBits, E_Sp_statesByBits_0, lt_e, obj_e p.1.1, zc0, calI_e (Sp_next _ p (by omega)), lt_e, obj_e p.1.1, p.2.2, lt_e, els_cn, ← hv]
  exact e
/-! runs of a reader over pairs, the last one first -/
def c0 : Cfg := (0, 0, 0, 0)
def rq (r : Rdr) : List (Nat × Nat) → Cfg → Prop
  | [], c => c = c0
  | p :: u, c' => ∃ c, rq r u c ∧ stq r c p.1 p.2 c'
theorem stq_v {r : Rdr} (hv : RV r) {c c' : Cfg} {l x : Nat} (hc : CV c) (hx : x < 16) (h : stq r c l x c') : CV c' := by
  obtain ⟨i, m, h1, h2, h3, h4⟩ := h
  exact stp_v (hv.mi h1).1 hc hx h4
theorem rq_v {r : Rdr} (hv : RV r) : ∀ (u : List (Nat × Nat)) (c : Cfg), (∀ p, p ∈ u → p.2 < 16) → rq r u c → CV c
  | [], c, hu, h => by rw [show c = c0 from h]; exact ⟨by decide, by decide, by decide, by decide⟩
  | p :: u, c, hu, ⟨c1, h1, h2⟩ => stq_v hv (rq_v hv u c1 (fun q hq => hu q (List.mem_cons_of_mem _ hq)) h1) (hu p List.mem_cons_self) h2
/-! settling -/
theorem stl_f {L : Nat → Bool} {m : Mv} {c : Cfg} {x : Nat} (hx : L x = true) (h0 : x ≠ 0) : fits m (stl L 0 c) x = fits m c x := by
  have key : ∀ n : Nat, ((if L n then n else 0) = x) = (n = x) := by
    intro n
    by_cases z : L n = true
    · rw [if_pos z]
    · rw [if_neg z]
      exact propext ⟨fun h => absurd h.symm h0, fun h => absurd (h ▸ hx) z⟩
  have kb : ∀ n : Nat, ((if L n then n else 0) != x) = (n != x) := by
    intro n
    have := key n
    by_cases z : n = x
    · rw [show (n != x) = false from by simp [z], show ((if L n then n else 0) != x) = false from by simp [this.mpr z]]
    · rw [show (n != x) = true from by simp [z], show ((if L n then n else 0) != x) = true from by rw [bne_iff_ne]; exact fun h => z (this.mp h)]
  have ke : ∀ n : Nat, ((if L n then n else 0) == x) = (n == x) := by
    intro n
    have := key n
    by_cases z : n = x
    · rw [show (n == x) = true from by simp [z], show ((if L n then n else 0) == x) = true from by simp [this.mpr z]]
    · rw [show (n == x) = false from by simp [z], show ((if L n then n else 0) == x) = false from by rw [beq_eq_false_iff_ne]; exact fun h => z (this.mp h)]
  unfold fits
  split
  · unfold stl; simp only [kb]
  · split
    · rfl
    · unfold rg stl
      simp only
      split
      · exact ke _
      · split <;> exact ke _
theorem stl_g {L L' : Nat → Bool} {m : Mv} {c : Cfg} {x : Nat} (h0 : L' 0 = true) (hL : ∀ n, L' n = true → L n = true) : stl L' 0 (goC m (stl L 0 c) x) = stl L' 0 (goC m c x) := by
  have key : ∀ n : Nat, (if L' (if L n then n else 0) then (if L n then n else 0) else 0) = if L' n then n else 0 := by
    intro n
    by_cases z : L n = true
    · rw [if_pos z]
    · rw [if_neg z, if_pos h0]
      by_cases y : L' n = true
      · exact absurd (hL n y) z
      · rw [if_neg y]
  unfold stl goC
  simp only [Prod.mk.injEq, true_and]
  refine ⟨?_, ?_, ?_⟩
  · by_cases z : m.2.2.2.1 = 0
    · rw [if_pos z, if_pos z]
    · rw [if_neg z, if_neg z]; exact key _
  · by_cases z : m.2.2.2.1 = 1
    · rw [if_pos z, if_pos z]
    · rw [if_neg z, if_neg z]; exact key _
  · by_cases z : m.2.2.2.1 = 2
    · rw [if_pos z, if_pos z]
    · rw [if_neg z, if_neg z]; exact key _
/-- a settled spot goes on as the spot itself -/
theorem stl_q {r : Rdr} {L L' : Nat → Bool} {c : Cfg} {l x : Nat} (hx : L x = true) (hx0 : x ≠ 0) (h0 : L' 0 = true) (hL : ∀ n, L' n = true → L n = true) (d : Cfg) :
    (∃ c', stq r (stl L 0 c) l x c' ∧ d = stl L' 0 c') ↔ ∃ c', stq r c l x c' ∧ d = stl L' 0 c' := by
  have e1 : ∀ m c', stp m (stl L 0 c) x = some c' → ∃ c'', stp m c x = some c'' ∧ stl L' 0 c' = stl L' 0 c'' := by
    intro m c' h
    unfold stp at *
    rw [stl_f hx hx0] at h
    split at h
    · rename_i q
      cases h
      exact ⟨_, if_pos q, stl_g h0 hL⟩
    · cases h
  have e2 : ∀ m c', stp m c x = some c' → ∃ c'', stp m (stl L 0 c) x = some c'' ∧ stl L' 0 c' = stl L' 0 c'' := by
    intro m c' h
    unfold stp at *
    rw [stl_f hx hx0]
    split at h
    · rename_i q
      cases h
      exact ⟨_, if_pos q, (stl_g h0 hL).symm⟩
    · cases h
  constructor
  · rintro ⟨c', ⟨i, m, h1, h2, h3, h4⟩, h5⟩
    obtain ⟨c'', k1, k2⟩ := e1 m c' h4
    exact ⟨c'', ⟨i, m, h1, h2, h3, k1⟩, by rw [h5, k2]⟩
  · rintro ⟨c', ⟨i, m, h1, h2, h3, h4⟩, h5⟩
    obtain ⟨c'', k1, k2⟩ := e2 m c' h4
    exact ⟨c'', ⟨i, m, h1, h2, h3, k1⟩, by rw [h5, k2]⟩
/-- the row's first i pairs, the last one first -/
def prs (w : Rw) (i : Nat) : List (Nat × Nat) := ((w.take i).map (fun p => (p.1.toNat, idn w p.2))).reverse
theorem prs_s {w : Rw} {i : Nat} {p : Int × Int} (h : w[i]? = some p) : prs w (i + 1) = (p.1.toNat, idn w p.2) :: prs w i := by
  unfold prs; rw [List.take_add_one, h]; simp
theorem prs_b {w : Rw} (hw : WV w) (i : Nat) : ∀ p, p ∈ prs w i → p.2 < 16 := by
  intro p hp
  unfold prs at hp
  rw [List.mem_reverse, List.mem_map] at hp
  obtain ⟨q, -, e⟩ := hp
  rw [← e]; exact idn16 hw _
theorem lvs_0 (f : Int → Nat) (l : Rw) : lvs f l 0 = true := by unfold lvs; simp
theorem lvs_s {f : Int → Nat} {w : Rw} {i : Nat} (n : Nat) (h : lvs f (w.drop (i + 1)) n = true) : lvs f (w.drop i) n = true := by
  unfold lvs at *
  rw [Bool.or_eq_true] at *
  rcases h with h | h
  · exact Or.inl h
  · right
    rw [List.any_eq_true] at *
    obtain ⟨p, hp, e⟩ := h
    refine ⟨p, ?_, e⟩
    have : w.drop (i + 1) = (w.drop i).drop 1 := by rw [List.drop_drop]
    rw [this] at hp
    exact List.mem_of_mem_drop hp
theorem lvs_x {w : Rw} {i : Nat} {p : Int × Int} (h : w[i]? = some p) : lvs (idn w) (w.drop i) (idn w p.2) = true := by
  unfold lvs
  rw [Bool.or_eq_true]
  right
  rw [List.any_eq_true]
  obtain ⟨hi, e⟩ := List.getElem?_eq_some_iff.mp h
  refine ⟨p, ?_, by simp⟩
  rw [List.drop_eq_getElem_cons hi, e]; exact List.mem_cons_self
theorem idn_pos {w : Rw} {i : Nat} {p : Int × Int} (h : w[i]? = some p) (hp : p.2 ≠ -1) : idn w p.2 ≠ 0 := by
  unfold idn
  rw [if_pos (tn_mem.mpr ⟨hp, p, List.mem_of_getElem? h, rfl⟩)]
  omega
theorem sm0 {f : Int × Int → Nat} : ∀ (w : Rw), sm f w = 0 ↔ ∀ p, p ∈ w → f p = 0
  | [] => by simp [sm]
  | p :: w => by
    rw [sm, Nat.add_eq_zero_iff, sm0 w]
    constructor
    · rintro ⟨h1, h2⟩ q hq
      rcases List.mem_cons.mp hq with z | z
      · rw [z]; exact h1
      · exact h2 q z
    · intro h
      exact ⟨h p List.mem_cons_self, fun q hq => h q (List.mem_cons_of_mem _ hq)⟩
theorem gaps0 (w : Rw) : gaps w = 0 ↔ gapPairs w = 0 := by
  unfold gaps gapPairs
  rw [sm0, sm0]
  constructor
  · intro h p hp; have := h p hp; unfold gp1 at this; unfold gp2; split at this <;> split at this <;> simp_all
  · intro h p hp; have := h p hp; unfold gp2 at this; unfold gp1; split at this <;> simp_all
theorem nogap {w : Rw} (h : gaps w = 0) {i : Nat} {p : Int × Int} (hp : w[i]? = some p) : p.1 ≠ -1 ∧ p.2 ≠ -1 := by
  have := (sm0 w).mp h p (List.mem_of_getElem? hp)
  unfold gp1 at this
  constructor
  · intro z; rw [if_pos z] at this; omega
  · intro z; rw [if_pos z] at this; omega
