/-! M: mend -/
def heldN (c : Cfg) (x : Nat) : Prop := c.2.1 = x ∨ c.2.2.1 = x ∨ c.2.2.2 = x
noncomputable def unu (c : Cfg) : Nat := if bl (heldN c 13) = true then (if bl (heldN c 14) = true then (if bl (heldN c 15) = true then 16 else 15) else 14) else 13
theorem unu_b (c : Cfg) : 13 ≤ unu c ∧ unu c ≤ 16 ∧ ¬ heldN c (unu c) := by
  unfold unu
  by_cases z : heldN c 13
  · rw [if_pos (bl_t.mpr z)]
    by_cases y : heldN c 14
    · rw [if_pos (bl_t.mpr y)]
      by_cases w : heldN c 15
      · rw [if_pos (bl_t.mpr w)]
        refine ⟨by omega, by omega, ?_⟩
        unfold heldN at *
        omega
      · rw [if_neg (fun q => w (bl_t.mp q))]; exact ⟨by omega, by omega, w⟩
    · rw [if_neg (fun q => y (bl_t.mp q))]; exact ⟨by omega, by omega, y⟩
  · rw [if_neg (fun q => z (bl_t.mp q))]; exact ⟨by omega, by omega, z⟩
def mnm (T : Nat) (c : Cfg) (x : Nat) : Prop := x ≤ T ∨ x = unu c ∨ (12 < x ∧ heldN c x)
def mst (r : Rdr) (w : Rw) (k : Nat) (c c' : Cfg) (δ : Nat) : Prop := ∃ m x, m ∈ r.2.2.2 ∧ 1 ≤ x ∧ x < 17 ∧ mnm (tn w).length c x ∧ canB m c m.2.1 x = true ∧ c' = goC m c x ∧ δ = if (m.2.1, x) = tg w k then 0 else 1
theorem mst_1 {r : Rdr} {w : Rw} {k : Nat} {c c' : Cfg} {δ : Nat} (h : mst r w k c c' δ) : δ ≤ 1 := by
  obtain ⟨m, x, -, -, -, -, -, -, rfl⟩ := h
  split <;> omega
theorem Am_pth {r : Rdr} {w : Rw} : ∀ k c n, Ap (mst r w) k c n → pth r w k c n
  | 0, c, n, h => h
  | k + 1, c, n, ⟨c1, n1, δ, h1, ⟨m, x, hm, x1, x2, _, cb, hc, hδ⟩, hn⟩ => by
    obtain ⟨i, hi⟩ := List.getElem?_of_mem hm
    obtain ⟨b1, -, b3⟩ := canB_t cb
    exact ⟨c1, n1, m.2.1, x, Am_pth k c1 n1 h1, by omega, ⟨i, m, hi, b1, rfl, by rw [b3, hc]⟩, by rw [hn, hδ]⟩
def rT (T v u : Nat) : Prop := (v = 0 ∧ u = 0) ∨ (v ≠ 0 ∧ v ≤ T ∧ u = v) ∨ (T < v ∧ 13 ≤ u ∧ u ≤ 16)
def siT (T : Nat) (c e : Cfg) : Prop := c.1 = e.1 ∧ rT T c.2.1 e.2.1 ∧ rT T c.2.2.1 e.2.2.1 ∧ rT T c.2.2.2 e.2.2.2 ∧ (c.2.1 = c.2.2.1 ↔ e.2.1 = e.2.2.1) ∧ (c.2.1 = c.2.2.2 ↔ e.2.1 = e.2.2.2) ∧ (c.2.2.1 = c.2.2.2 ↔ e.2.2.1 = e.2.2.2)
theorem siT_go {T : Nat} {c e : Cfg} {m : Mv} {x y : Nat} (h : siT T c e) (hm : mat c x e y) (hr : rT T x y) : siT T (goC m c x) (goC m e y) := by
  obtain ⟨h0, h1, h2, h3, h4, h5, h6⟩ := h
  obtain ⟨a1, a2, a3⟩ := hm
  unfold goC siT
  simp only
  by_cases k0 : m.2.2.2.1 = 0
  · have k1 : ¬ m.2.2.2.1 = 1 := by omega
    have k2 : ¬ m.2.2.2.1 = 2 := by omega
    simp only [if_pos k0, if_neg k1, if_neg k2]
    exact ⟨trivial, hr, h2, h3, ⟨fun q => (a2.mp q.symm).symm, fun q => (a2.mpr q.symm).symm⟩, ⟨fun q => (a3.mp q.symm).symm, fun q => (a3.mpr q.symm).symm⟩, h6⟩
  · by_cases k1 : m.2.2.2.1 = 1
    · have k2 : ¬ m.2.2.2.1 = 2 := by omega
      simp only [if_neg k0, if_pos k1, if_neg k2]
      exact ⟨trivial, h1, hr, h3, a1, h5, ⟨fun q => (a3.mp q.symm).symm, fun q => (a3.mpr q.symm).symm⟩⟩
    · by_cases k2 : m.2.2.2.1 = 2
      · simp only [if_neg k0, if_neg k1, if_pos k2]
        exact ⟨trivial, h1, h2, hr, h4, a1, a2⟩
      · simp only [if_neg k0, if_neg k1, if_neg k2]
        exact ⟨trivial, h1, h2, h3, h4, h5, h6⟩
theorem pth_Am {r : Rdr} {w : Rw} (hw : WV w) : ∀ k c n, pth r w k c n → ∃ e, Ap (mst r w) k e n ∧ siT (tn w).length c e
  | 0, c, n, h => ⟨c0, ⟨rfl, h.2⟩, by rw [h.1]; exact ⟨rfl, Or.inl ⟨rfl, rfl⟩, Or.inl ⟨rfl, rfl⟩, Or.inl ⟨rfl, rfl⟩, Iff.rfl, Iff.rfl, Iff.rfl⟩⟩
  | k + 1, c', n, ⟨c, n1, l, x, h1, hx0, ⟨i, m, hi, hm1, hm2, st⟩, hn⟩ => by
    obtain ⟨e, a1, a2⟩ := pth_Am hw k c n1 h1
    obtain ⟨fx, hc'⟩ := stp_i.mp st
    subst hm2
    have hT : (tn w).length ≤ 12 := Nat.le_trans (tn_len w) hw.1
    have htg : (tg w k).2 ≤ (tn w).length := by
      unfold tg
      split
      · exact idn_le w _
      · exact Nat.zero_le _
    have ub := unu_b e
    obtain ⟨s0, s1, s2, s3, s4, s5, s6⟩ := id a2
    have put : ∀ y, 1 ≤ y → y < 17 → mnm (tn w).length e y → mat c x e y → rT (tn w).length x y → ((m.2.1, x) = tg w k ↔ (m.2.1, y) = tg w k) → ∃ e, Ap (mst r w) (k + 1) e n ∧ siT (tn w).length c' e := by
      intro y y1 y2 y3 y4 y5 y6
      refine ⟨goC m e y, ⟨e, n1, _, a1, ⟨m, y, List.mem_of_getElem? hi, y1, y2, y3, ?_, rfl, rfl⟩, ?_⟩, by rw [hc']; exact siT_go a2 y4 y5⟩
      · unfold canB
        rw [Bool.and_eq_true, Bool.and_eq_true, beq_iff_eq, beq_iff_eq]
        exact ⟨by rw [hm1, s0], rfl, by rw [← mat_fits y4]; exact fx⟩
      · rw [hn]
        by_cases z : (m.2.1, x) = tg w k
        · rw [if_pos z, if_pos (y6.mp z)]
        · rw [if_neg z, if_neg (fun q => z (y6.mpr q))]
    by_cases xt : x ≤ (tn w).length
    · have key : ∀ v u, rT (tn w).length v u → (v = x ↔ u = x) := by
        rintro v u (⟨q1, q2⟩ | ⟨q1, q2, q3⟩ | ⟨q1, q2, q3⟩) <;> omega
      exact put x (by omega) (by omega) (Or.inl xt) ⟨key _ _ s1, key _ _ s2, key _ _ s3⟩ (Or.inr (Or.inl ⟨hx0, xt, rfl⟩)) Iff.rfl
    · have tgn : ∀ y, 13 ≤ y → ((m.2.1, x) = tg w k ↔ (m.2.1, y) = tg w k) := by
        intro y hy
        constructor
        · intro q; rw [← q] at htg; exact absurd htg xt
        · intro q; rw [← q] at htg; simp only at htg; omega
      have big : ∀ v u, rT (tn w).length v u → v = x → 13 ≤ u ∧ u ≤ 16 := by
        rintro v u (⟨q1, q2⟩ | ⟨q1, q2, q3⟩ | ⟨q1, q2, q3⟩) hv <;> omega
      by_cases z1 : c.2.1 = x
      · have b := big _ _ s1 z1
        exact put e.2.1 (by omega) (by omega) (Or.inr (Or.inr ⟨by omega, Or.inl rfl⟩)) ⟨⟨fun _ => rfl, fun _ => z1⟩, by rw [← z1]; exact ⟨fun q => (s4.mp q.symm).symm, fun q => (s4.mpr q.symm).symm⟩, by rw [← z1]; exact ⟨fun q => (s5.mp q.symm).symm, fun q => (s5.mpr q.symm).symm⟩⟩ (Or.inr (Or.inr ⟨by omega, b⟩)) (tgn _ b.1)
      · by_cases z2 : c.2.2.1 = x
        · have b := big _ _ s2 z2
          exact put e.2.2.1 (by omega) (by omega) (Or.inr (Or.inr ⟨by omega, Or.inr (Or.inl rfl)⟩)) ⟨by rw [← z2]; exact s4, ⟨fun _ => rfl, fun _ => z2⟩, by rw [← z2]; exact ⟨fun q => (s6.mp q.symm).symm, fun q => (s6.mpr q.symm).symm⟩⟩ (Or.inr (Or.inr ⟨by omega, b⟩)) (tgn _ b.1)
        · by_cases z3 : c.2.2.2 = x
          · have b := big _ _ s3 z3
            exact put e.2.2.2 (by omega) (by omega) (Or.inr (Or.inr ⟨by omega, Or.inr (Or.inr rfl)⟩)) ⟨by rw [← z3]; exact s5, by rw [← z3]; exact s6, ⟨fun _ => rfl, fun _ => z3⟩⟩ (Or.inr (Or.inr ⟨by omega, b⟩)) (tgn _ b.1)
          · have nh := ub.2.2
            unfold heldN at nh
            exact put (unu e) (by omega) (by omega) (Or.inr (Or.inl rfl)) ⟨⟨fun q => absurd q z1, fun q => absurd (Or.inl q) nh⟩, ⟨fun q => absurd q z2, fun q => absurd (Or.inr (Or.inl q)) nh⟩, ⟨fun q => absurd q z3, fun q => absurd (Or.inr (Or.inr q)) nh⟩⟩ (Or.inr (Or.inr ⟨by omega, ub.1, ub.2.1⟩)) (tgn _ ub.1)
/-- the least cost is M's -/
theorem mnd_M {r : Rdr} {w : Rw} (hw : WV w) {v : Int} (h : mnv (fun n => ∃ c, Dp (mst r w) w.length c n ∧ tks r c.1 = true) v) : mndV r w = v := by
  refine mnV_e ?_
  have one : ∀ n, (∃ c, pth r w w.length c n ∧ tks r c.1 = true) → ∃ n', n' ≤ n ∧ ∃ c, Dp (mst r w) w.length c n' ∧ tks r c.1 = true := by
    rintro n ⟨c, h1, h2⟩
    obtain ⟨u, a1, a3⟩ := pth_Am hw _ c n h1
    obtain ⟨n2, b1, b2⟩ := A_Dp _ u n a1
    exact ⟨n2, by omega, u, b2, by rw [← a3.1]; exact h2⟩
  have two : ∀ n, (∃ c, Dp (mst r w) w.length c n ∧ tks r c.1 = true) → ∃ c, pth r w w.length c n ∧ tks r c.1 = true := by
    rintro n ⟨u, h1, h2⟩
    exact ⟨u, Am_pth _ u n (Dp_A _ u n h1), h2⟩
  rcases h with ⟨e, no⟩ | ⟨n, e, hn, mn⟩
  · refine Or.inl ⟨e, fun k hk => ?_⟩
    obtain ⟨n', -, q⟩ := one k hk
    exact no n' q
  · refine Or.inr ⟨n, e, two n hn, fun k hk => ?_⟩
    obtain ⟨n3, h5, h6⟩ := one k hk
    have := mn n3 h6
    omega
theorem M_unused (d : Nat) (h : AH) {c : Cfg} (hc : CM c) : Cc (d + 2) k_M_unused [aI (zI (eM c))] h = some (some (aI (zI (unu c))), h) := by
  have hb := hc
  unfold CM at hb
  have st : ∀ x : Nat, x < 100 → Rk B_M_unused L_M_unused (Cc (d + 1)) 1 [aI (zI (eM c)), aI (zI x)] [] h = if bl (heldN c x) = true then Rk B_M_unused L_M_unused (Cc (d + 1)) 1 [aI (zI (eM c)), aI (zI ((x + 1 : Nat) : Int))] [] h else some (some (aI (zI x)), h) := by
    intro x hx
    have yes : heldN c x → Rk B_M_unused L_M_unused (Cc (d + 1)) 4 [aI (zI (eM c)), aI (zI x)] [] h = if bl (heldN c x) = true then Rk B_M_unused L_M_unused (Cc (d + 1)) 1 [aI (zI (eM c)), aI (zI ((x + 1 : Nat) : Int))] [] h else some (some (aI (zI x)), h) := by
      intro q
      rw [if_pos (bl_t.mpr q), E_M_unused_4, nadd1, lt_e]
    rw [E_M_unused_1, calI_e (M_h0 d h hc)]
    simp (disch := omega) only [neq]
    by_cases z1 : c.2.1 = x
    · rw [if_pos z1]; exact yes (Or.inl z1)
    rw [if_neg z1, E_M_unused_2, calI_e (M_h1 d h hc)]
    simp (disch := omega) only [neq]
    by_cases z2 : c.2.2.1 = x
    · rw [if_pos z2]; exact yes (Or.inr (Or.inl z2))
    rw [if_neg z2, E_M_unused_3, calI_e (M_h2 d h hc)]
    simp (disch := omega) only [neq]
    by_cases z3 : c.2.2.2 = x
    · rw [if_pos z3]; exact yes (Or.inr (Or.inr z3))
    rw [if_neg z3, E_M_unused_5, if_neg (fun q => by rcases bl_t.mp q with q | q | q; exact z1 q; exact z2 q; exact z3 q)]
  have ub := unu_b c
  rw [C_M_unused, E_M_unused_0, lt_e, show zI 13 = zI ((13 : Nat) : Int) from rfl, st 13 (by omega)]
  unfold unu at ub ⊢
  by_cases z : bl (heldN c 13) = true
  · rw [if_pos z] at ub ⊢
    rw [if_pos z, st 14 (by omega)]
    by_cases y : bl (heldN c 14) = true
    · rw [if_pos y] at ub ⊢
      rw [if_pos y, st 15 (by omega)]
      by_cases w : bl (heldN c 15) = true
      · rw [if_pos w] at ub ⊢
        rw [if_pos w, st 16 (by omega), if_neg (fun q => ub.2.2 (bl_t.mp q))]
      · rw [if_neg w, if_neg w]
    · rw [if_neg y, if_neg y]
  · rw [if_neg z, if_neg z]
