/-! the class: statesBehind, taken, may -/
theorem XI.set {s : Stt} {h : AH} (p : XI s h) {k : Nat} (hk : k < 14) : (∃ S, SP h (22 + 3 * k) 24576 S) ∧ hR h 21 k = some (22 + 3 * k) := p.2.2.2.2.2.2.2.1 k hk
theorem XI_sp {s : Stt} {h h' : AH} (p : XI s h) {k : Nat} (hk : k < 14) {S : Nat → Bool} (f : fr (spF (22 + 3 * k)) h h') (q : SP h' (22 + 3 * k) 24576 S) : XI s h' := by
  obtain ⟨p1, p2, p3, p4, p5, p6, p7, p8⟩ := p
  have nf : ∀ b, b < 22 → ¬ spF (22 + 3 * k) b := by intro b hb; unfold spF; omega
  have nf2 : ∀ b, 64 ≤ b → ¬ spF (22 + 3 * k) b := by intro b hb; unfold spF; omega
  refine ⟨f.1.trans p1, p2.mv (fun t ht => ?_), p3.fr f (fun b _ _ => nf b (by omega)), p4.fr f (fun b _ _ => nf b (by omega)), p5.fr f (fun b _ _ => nf b (by omega)), p6.fr f (nf _ (by omega)) (nf _ (by omega)), p7.fr f (fun b _ _ => nf b (by omega)), ?_⟩
  · have : ∀ t, t ∈ XRefs → t.1 < 22 ∨ 64 ≤ t.1 := by decide
    rcases this t ht with z | z
    · exact f.R (nf _ z) _
    · exact f.R (nf2 _ z) _
  · obtain ⟨a1, a2, a3, a4, q1, q2, q3, q4, q5, q6⟩ := p8
    refine ⟨?_, ?_, ?_, ?_, q1.fr f (nf2 _ (by omega)), q2.fr f (nf2 _ (by omega)), q3.fr f (nf2 _ (by omega)), q4.fr f (nf2 _ (by omega)), q5.fr f (nf2 _ (by omega)), ?_⟩
    · intro j hj
      obtain ⟨⟨T, hT⟩, e⟩ := a1 j hj
      refine ⟨?_, by rw [f.R (nf _ (by omega))]; exact e⟩
      by_cases z : j = k
      · subst z; exact ⟨S, q⟩
      · exact ⟨T, hT.fr f (fun b hb => by unfold spF at *; omega)⟩
    · obtain ⟨T, hT⟩ := a2; exact ⟨T, hT.fr f (fun b hb => nf2 b (by unfold spF at hb; omega))⟩
    · obtain ⟨T, hT⟩ := a3; exact ⟨T, hT.fr f (fun b hb => nf2 b (by unfold spF at hb; omega))⟩
    · obtain ⟨T, hT⟩ := a4; exact ⟨T, hT.fr f (fun b hb => nf2 b (by unfold spF at hb; omega))⟩
    · exact ⟨fun j hj => by rw [f.I (nf2 _ (by omega))]; exact q6.1 j hj, by rw [f.I (nf2 _ (by omega))]; exact q6.2⟩
theorem fr_sp94 {k : Nat} (hk : k < 14) {h h' : AH} (f : fr (spF (22 + 3 * k)) h h') : fr (fun a => a < 94) h h' := f.mo (fun b hb => by unfold spF at hb; omega)
/-- a set holds where a reader may be behind pairs, settled -/
def RQS (S : Nat → Bool) (r : Rdr) (u : List (Nat × Nat)) (L : Nat → Bool) : Prop := ∀ s, S s = true ↔ ∃ c, rq r u c ∧ s = eX (stl L 0 c)
theorem stl_0 {L : Nat → Bool} (h : L 0 = true) : stl L 0 c0 = c0 := by unfold stl c0; simp [h]
theorem RQS_0 {r : Rdr} {L : Nat → Bool} (h : L 0 = true) : RQS (fun t => t == 0) r [] L := by
  intro s
  rw [beq_iff_eq]
  constructor
  · intro e; exact ⟨c0, rfl, by rw [stl_0 h, e]; rfl⟩
  · rintro ⟨c, hc, e⟩; rw [e, show c = c0 from hc, stl_0 h]; rfl
/-- one pair more -/
theorem RQS_s {r : Rdr} (hv : RV r) {S T : Nat → Bool} {u : List (Nat × Nat)} {L L' : Nat → Bool} {l x : Nat} (hu : ∀ p, p ∈ u → p.2 < 16) (hS : RQS S r u L) (hx : L x = true) (hx0 : x ≠ 0) (h0 : L' 0 = true) (hL : ∀ n, L' n = true → L n = true)
    (hT : ∀ s, T s = true ↔ ∃ (c c' : Cfg), CV c ∧ S (eX c) = true ∧ stq r c l x c' ∧ s = eX (stl L' 0 c')) : RQS T r ((l, x) :: u) L' := by
  intro s
  rw [hT s]
  constructor
  · rintro ⟨c, c', h1, h2, h3, h4⟩
    obtain ⟨c1, k1, k2⟩ := (hS _).mp h2
    have hc1 := rq_v hv u c1 hu k1
    have e : c = stl L 0 c1 := eX_inj h1 (stl_v hc1 (by omega)) k2
    subst e
    obtain ⟨c'', g1, g2⟩ := (stl_q hx hx0 h0 hL (stl L' 0 c')).mp ⟨c', h3, rfl⟩
    exact ⟨c'', ⟨c1, k1, g1⟩, by rw [h4, g2]⟩
  · rintro ⟨c', ⟨c1, k1, k2⟩, h4⟩
    have hc1 := rq_v hv u c1 hu k1
    obtain ⟨c'', g1, g2⟩ := (stl_q (r := r) hx hx0 h0 hL (stl L' 0 c')).mpr ⟨c', k2, rfl⟩
    exact ⟨stl L 0 c1, c'', stl_v hc1 (by omega), (hS _).mpr ⟨c1, k1, rfl⟩, g1, by rw [h4, g2]⟩
theorem RQS_q {r : Rdr} (hv : RV r) {S : Nat → Bool} {u : List (Nat × Nat)} {L : Nat → Bool} (hu : ∀ p, p ∈ u → p.2 < 16) (hS : RQS S r u L) (q : Nat) : (∃ s, S s = true ∧ s / 4096 = q) ↔ ∃ c, rq r u c ∧ c.1 = q := by
  constructor
  · rintro ⟨s, h1, h2⟩
    obtain ⟨c, k1, k2⟩ := (hS s).mp h1
    refine ⟨c, k1, ?_⟩
    rw [← h2, k2, eX_q (stl_v (rq_v hv u c hu k1) (by omega))]; rfl
  · rintro ⟨c, k1, k2⟩
    refine ⟨eX (stl L 0 c), (hS _).mpr ⟨c, k1, rfl⟩, ?_⟩
    rw [eX_q (stl_v (rq_v hv u c hu k1) (by omega)), ← k2]; rfl
/-- the states behind pairs, by bits -/
noncomputable def msk6 (r : Rdr) (u : List (Nat × Nat)) : Nat := mkm (fun q => bl (∃ c, rq r u c ∧ c.1 = q)) 6
theorem msk6_lt (r : Rdr) (u : List (Nat × Nat)) : msk6 r u < 64 := (mkm_b _ 6).1
theorem sbh_lp (d : Nat) {s : Stt} {x : Int} {k : Nat} (hk : k ≤ s.2.2.2.length) (hg : gaps s.2.2.2 = 0) : ∀ (n i : Nat) (h : AH) (S : Nat → Bool), i + n = k → XI s h → SP h (22 + 3 * i) 24576 S → RQS S (rdr s x) (prs s.2.2.2 i) (lvs (idn s.2.2.2) (s.2.2.2.drop i)) →
    ∃ h', Rk B_Wk_statesBehind L_Wk_statesBehind (Cc (d + 6)) 1 [aR (some 66), aR (some (xa x)), aR (some 16), aI (zI k), aI (zI i)] [] h = some (some (aI (zI (msk6 (rdr s x) (prs s.2.2.2 k)))), h') ∧ fr (fun a => a < 94) h h' ∧ XI s h'
  | 0, i, h, S, hn, p, pS, hS => by
    have hw := p.rw.1
    have hl := hw.1
    have : i = k := by omega
    subst this
    refine ⟨h, ?_, fr.rf _ h, p⟩
    rw [E_Wk_statesBehind_1]
    simp (disch := omega) only [nlt]
    rw [if_neg (by omega), E_Wk_statesBehind_3, obj_e (z66 p.1), p.r (c := 21) (by decide)]
    simp (disch := omega) only [idx_n (z21 p.1)]
    rw [(p.set (by omega)).2, obj_e pS.1.1, calI_e (Sp_states _ pS)]
    unfold msk6
    congr 7
    funext q
    exact bl_c (RQS_q (p.rd x).1 (prs_b hw _) hS q)
  | n + 1, i, h, S, hn, p, pS, hS => by
    have hw := p.rw.1
    have hl := hw.1
    have hp : s.2.2.2[i]? = some s.2.2.2[i] := List.getElem?_eq_getElem (by omega)
    obtain ⟨v0, v00, v1, v2, v3, v4⟩ := hw.at hp
    obtain ⟨n1, n2⟩ := nogap hg hp
    obtain ⟨hAL, -⟩ := alv_al (idn16 hw) (s.2.2.2.drop (i + 1))
    obtain ⟨⟨T0, hT0⟩, e0⟩ := p.set (k := i + 1) (by omega)
    obtain ⟨l, hl2⟩ : ∃ l : Nat, s.2.2.2[i].1 = l := ⟨s.2.2.2[i].1.toNat, by omega⟩
    obtain ⟨h1, T, e1, f1, p1, g1⟩ := Sp_follow (d + 1) (a := 22 + 3 * (i + 1)) (b := 22 + 3 * i) (l := l) (x := idn s.2.2.2 s.2.2.2[i].2) (xa_le x) (by omega) (by omega) (by omega) (idn16 hw _) hAL hT0 pS (p.rd x)
    have hT := RQS_s (p.rd x).1 (prs_b hw i) hS (lvs_x hp) (idn_pos hp n2) (lvs_0 _ _) lvs_s g1
    have e2 : prs s.2.2.2 (i + 1) = (l, idn s.2.2.2 s.2.2.2[i].2) :: prs s.2.2.2 i := by rw [prs_s hp, hl2]; rfl
    rw [← e2] at hT
    have px := XI_sp p (by omega) f1 p1
    obtain ⟨h', e3, f3, p3⟩ := sbh_lp d hk hg n (i + 1) h1 T (by omega) px p1 hT
    refine ⟨h', ?_, (fr_sp94 (by omega) f1).tr f3, p3⟩
    rw [E_Wk_statesBehind_1]
    simp (disch := omega) only [nlt]
    rw [if_pos (by omega), E_Wk_statesBehind_2, obj_e (z66 p.1), p.r (c := 21) (by decide), nadd1]
    simp (disch := omega) only [idx_n (z21 p.1), obj_e (z66 p.1)]
    rw [p.r (a := 66) (j := 0) (c := 21) (by decide)]
    simp (disch := omega) only [idx_n (z21 p.1)]
    rw [obj_e (z16 p.1), calI_e (Rw_letter _ p.rw hp), obj_e (z16 p.1), calI_e (Rw_id _ p.rw hp), obj_e (z16 p.1), calI_e (Rw_alive _ p.rw (by omega)), e0, obj_e hT0.1.1, (p.set (by omega)).2, hl2, calV_e e1, lt_e]
    exact e3
theorem Wk_statesBehind (d : Nat) {s : Stt} {h : AH} (x : Int) {k : Nat} (p : XI s h) (hk : k ≤ s.2.2.2.length) (hg : gaps s.2.2.2 = 0) : ∃ h', Cc (d + 7) k_Wk_statesBehind [aR (some 66), aR (some (xa x)), aR (some 16), aI (zI k)] h = some (some (aI (zI (msk6 (rdr s x) (prs s.2.2.2 k)))), h') ∧ fr (fun a => a < 94) h h' ∧ XI s h' := by
  obtain ⟨⟨T0, hT0⟩, e0⟩ := p.set (k := 0) (by omega)
  obtain ⟨h1, e1, f1, p1⟩ := Sp_startAt (d + 2) hT0 (s := 0) (by omega)
  have px := XI_sp p (by omega) f1 p1
  obtain ⟨h', e3, f3, p3⟩ := sbh_lp d (x := x) hk hg k 0 h1 _ (by omega) px p1 (RQS_0 (lvs_0 _ _))
  refine ⟨h', ?_, (fr_sp94 (k := 0) (by omega) f1).tr f3, p3⟩
  rw [C_Wk_statesBehind, E_Wk_statesBehind_0, obj_e (z66 p.1), p.r (c := 21) (by decide), zc0]
  simp (disch := omega) only [idx_n (z21 p.1)]
  rw [e0, obj_e hT0.1.1, calV_e e1, lt_e]
  exact e3
/-- taken: some state that takes -/
noncomputable def tkn (r : Rdr) (u : List (Nat × Nat)) : Bool := bl (∃ c, rq r u c ∧ tks r c.1 = true)
theorem tks_b (r : Rdr) (q : Nat) : tks r q = r.2.2.1.testBit q := by unfold tks; rw [Nat.testBit_eq_decide_div_mod_eq]; rfl
theorem Rd_takesSome (d : Nat) {h : AH} {a v : Nat} {r : Rdr} (p : RD h a r) (hv : v < 64) : Cc (d + 1) k_Rd_takesSome [aR (some a), aI (zI v)] h = some (some (aI (zI (if r.2.2.1 &&& v = 0 then 0 else 1))), h) := by
  have h1 := tk_lt p.1
  have h2 : r.2.2.1 &&& v ≤ v := Nat.and_le_right
  rw [C_Rd_takesSome, E_Rd_takesSome_0, obj_e p.2.1.1, p.2.2.1.2.2.1, zI_and (by omega) (by omega)]
  simp (disch := omega) only [neq0]
  by_cases z : r.2.2.1 &&& v = 0
  · rw [if_pos z, if_pos z]; simp [E_Rd_takesSome_2, E_Rd_takesSome_3, zI_0, zI_1]
  · rw [if_neg z, if_neg z]; simp [E_Rd_takesSome_1, E_Rd_takesSome_3, zI_0, zI_1]
theorem tkn_m {r : Rdr} (hv : RV r) (u : List (Nat × Nat)) : (r.2.2.1 &&& msk6 r u = 0) ↔ tkn r u = false := by
  have hb : ∀ q, (r.2.2.1 &&& msk6 r u).testBit q = (tks r q && (decide (q < 6) && bl (∃ c, rq r u c ∧ c.1 = q))) := by
    intro q
    rw [Nat.testBit_and, ← tks_b]
    unfold msk6
    rw [(mkm_b _ 6).2]
  have h6 : ∀ q, 6 ≤ q → tks r q = false := by
    intro q hq
    rw [tks_b]
    apply Nat.testBit_lt_two_pow
    have := tk_lt hv
    have : 2 ^ 6 ≤ 2 ^ q := Nat.pow_le_pow_right (by omega) hq
    omega
  unfold tkn
  rw [bl_f]
  constructor
  · rintro h ⟨c, h1, h2⟩
    have := hb c.1
    rw [h] at this
    have hc : c.1 < 6 := Nat.lt_of_not_le fun z => by rw [h6 _ z] at h2; cases h2
    rw [h2, show decide (c.1 < 6) = true from by simp [hc], bl_t.mpr ⟨c, h1, rfl⟩] at this
    simp at this
  · intro h
    apply Nat.eq_of_testBit_eq
    intro q
    rw [hb q, Nat.zero_testBit]
    cases y : tks r q with
    | false => rfl
    | true =>
      have : bl (∃ c, rq r u c ∧ c.1 = q) = false := by
        rw [bl_f]
        rintro ⟨c, h1, h2⟩
        exact h ⟨c, h1, by rw [h2]; exact y⟩
      rw [this]; simp
theorem X_taken {x : Int} (x1 : -2147483648 ≤ x) (x2 : x < 2147483648) : XOK k_X_taken [aI (zI x)] (fun s => if x = 0 ∨ x = 1 then (if gaps s.2.2.2 = 0 then (if tkn (rdr s x) (prs s.2.2.2 s.2.2.2.length) then 1 else 0) else -4) else -2) id := by
  intro s h p
  have hg := gaps_le p.rw.1 s.2.2.2.length
  rw [List.take_length] at hg
  rw [C_X_taken, E_X_taken_0, obj_e p.o, calR_e (X_readerOf _ p x1 x2), xo_if]
  by_cases a1 : x = 0 ∨ x = 1
  · simp only [if_pos a1]
    rw [xo_some a1, E_X_taken_2, obj_e p.o, p.r (c := 16) (by decide), obj_e (z16 p.1), calI_e (Rw_gaps _ p.rw)]
    simp (disch := omega) only [nle0]
    by_cases a2 : gaps s.2.2.2 = 0
    · simp only [if_pos a2]
      obtain ⟨h', e, f, p'⟩ := Wk_statesBehind 52 x p (Nat.le_refl _) a2
      have hr := p'.rd x
      refine ⟨h', ?_, f, p'⟩
      rw [E_X_taken_4, obj_e p.o, obj_e p.o, obj_e p.o, p.r (c := 16) (by decide), obj_e (z16 p.1), calI_e (Rw_size _ p.rw), p.r (a := 0) (j := 5) (c := 66) (by decide), obj_e (z66 p.1), calI_e e, obj_e hr.2.1.1, calI_e (Rd_takesSome _ hr (msk6_lt _ _))]
      have := tkn_m hr.1 (prs s.2.2.2 s.2.2.2.length)
      by_cases y : (rdr s x).2.2.1 &&& msk6 (rdr s x) (prs s.2.2.2 s.2.2.2.length) = 0
      · rw [if_pos y, if_pos zI_0.symm, E_X_taken_6, E_X_taken_7, this.mp y]; rfl
      · rw [if_neg y, if_neg (by decide), E_X_taken_5, E_X_taken_7]
        cases z : tkn (rdr s x) (prs s.2.2.2 s.2.2.2.length) with
        | false => exact absurd (this.mpr z) y
        | true => rfl
    · simp only [if_neg a2]
      exact ⟨h, by rw [E_X_taken_3], fr.rf _ h, p⟩
  · simp only [if_neg a1]
    exact ⟨h, by rw [E_X_taken_1], fr.rf _ h, p⟩
theorem X_may {x k : Int} (x1 : -2147483648 ≤ x) (x2 : x < 2147483648) (k1 : -2147483648 ≤ k) (k2 : k < 2147483648) : XOK k_X_may [aI (zI x), aI (zI k)] (fun s => if x = 0 ∨ x = 1 then (if 0 ≤ k ∧ k ≤ s.2.2.2.length then (if gaps s.2.2.2 = 0 then msk6 (rdr s x) (prs s.2.2.2 k.toNat) else -4) else -3) else -2) id := by
  intro s h p
  have hl := p.rw.1.1
  have hg := gaps_le p.rw.1 s.2.2.2.length
  rw [List.take_length] at hg
  rw [C_X_may, E_X_may_0, obj_e p.o, calR_e (X_readerOf _ p x1 x2), xo_if]
  by_cases a1 : x = 0 ∨ x = 1
  · simp only [if_pos a1]
    rw [xo_some a1, E_X_may_2, obj_e p.o, p.r (c := 16) (by decide), obj_e (z16 p.1), calI_e (Rw_size _ p.rw), calI_e (X_within _ h k1 k2 (by omega) (by omega) (by omega) (by omega)), if01]
    by_cases a3 : 0 ≤ k ∧ k ≤ s.2.2.2.length
    · simp only [if_pos a3]
      rw [E_X_may_4, obj_e p.o, p.r (c := 16) (by decide), obj_e (z16 p.1), calI_e (Rw_gaps _ p.rw)]
      simp (disch := omega) only [nle0]
      by_cases a2 : gaps s.2.2.2 = 0
      · simp only [if_pos a2]
        obtain ⟨i, rfl⟩ : ∃ i : Nat, k = i := ⟨k.toNat, by omega⟩
        obtain ⟨h', e, f, p'⟩ := Wk_statesBehind 52 x p (k := i) (by omega) a2
        refine ⟨h', ?_, f, p'⟩
        rw [E_X_may_6, obj_e p.o, obj_e p.o, p.r (a := 0) (j := 5) (c := 66) (by decide), obj_e (z66 p.1), p.r (c := 16) (by decide), calI_e e, E_X_may_7]
        rfl
      · simp only [if_neg a2]
        exact ⟨h, by rw [E_X_may_5, E_X_may_7], fr.rf _ h, p⟩
    · simp only [if_neg a3]
      exact ⟨h, by rw [E_X_may_3], fr.rf _ h, p⟩
  · simp only [if_neg a1]
    exact ⟨h, by rw [E_X_may_1], fr.rf _ h, p⟩
