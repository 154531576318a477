/-! the fewest pairs to be changed -/
def tg (w : Rw) (k : Nat) : Nat × Nat := match w[k]? with
  | some p => (p.1.toNat, idn w p.2)
  | none => (0, 0)
def pth (r : Rdr) (w : Rw) : Nat → Cfg → Nat → Prop
  | 0, c, n => c = c0 ∧ n = 0
  | k + 1, c, n => ∃ c1 n1 l x, pth r w k c1 n1 ∧ x ≠ 0 ∧ stq r c1 l x c ∧ n = n1 + (if (l, x) = tg w k then 0 else 1)
def askd (r : Rdr) (l : Nat) : Prop := ∃ m, m ∈ r.2.2.2 ∧ m.2.1 = l ∧ m.2.2.1 < 3
def tstd (r : Rdr) (l : Nat) : Prop := ∃ m, m ∈ r.2.2.2 ∧ m.2.1 = l ∧ m.2.2.1 ≤ 3
def wtd (r : Rdr) (w : Rw) (k d : Nat) : Prop := ∃ j, k ≤ j ∧ j < w.length ∧ askd r (tg w j).1 ∧ (tg w j).2 = d
def alvd (r : Rdr) (w : Rw) (k d : Nat) : Prop := d = 0 ∨ ∃ j, k ≤ j ∧ j < w.length ∧ tstd r (tg w j).1 ∧ (tg w j).2 = d
noncomputable def aL13 (r : Rdr) (w : Rw) (k d : Nat) : Bool := bl (alvd r w k d)
/-- which names a changed pair is tried with -/
def xnm (r : Rdr) (w : Rw) (k : Nat) (c : Cfg) (m : Mv) (x : Nat) : Prop := (m.2.2.1 < 3 ∧ x = rg c m.2.2.1 ∧ x ≠ 0) ∨ (3 ≤ m.2.2.1 ∧ (x = 14 ∨ (0 ≤ m.2.2.2.1 ∧ 1 ≤ x ∧ x ≤ 12 ∧ wtd r w k x)))
def ast (r : Rdr) (w : Rw) (k : Nat) (c c' : Cfg) (δ : Nat) : Prop := ∃ m x e, m ∈ r.2.2.2 ∧ m.1 = c.1 ∧ stp m c x = some e ∧ c' = stl (aL13 r w (k + 1)) 13 e ∧ ((δ = 0 ∧ m.2.1 = (tg w k).1 ∧ x = (tg w k).2) ∨ (δ = 1 ∧ xnm r w (k + 1) c m x))
/-- what is offered: from the least cost of each -/
def Dp (st : Nat → Cfg → Cfg → Nat → Prop) : Nat → Cfg → Nat → Prop
  | 0, c, n => c = c0 ∧ n = 0
  | k + 1, c, n => ∃ c1 n1 δ, Dp st k c1 n1 ∧ (∀ n', Dp st k c1 n' → n1 ≤ n') ∧ st k c1 c δ ∧ n = n1 + δ
def Ap (st : Nat → Cfg → Cfg → Nat → Prop) : Nat → Cfg → Nat → Prop
  | 0, c, n => c = c0 ∧ n = 0
  | k + 1, c, n => ∃ c1 n1 δ, Ap st k c1 n1 ∧ st k c1 c δ ∧ n = n1 + δ
theorem Dp_A {st : Nat → Cfg → Cfg → Nat → Prop} : ∀ k c n, Dp st k c n → Ap st k c n
  | 0, c, n, h => h
  | k + 1, c, n, ⟨c1, n1, δ, h1, _, h3, h4⟩ => ⟨c1, n1, δ, Dp_A k c1 n1 h1, h3, h4⟩
theorem A_Dp {st : Nat → Cfg → Cfg → Nat → Prop} : ∀ k c n, Ap st k c n → ∃ n', n' ≤ n ∧ Dp st k c n'
  | 0, c, n, h => ⟨n, Nat.le_refl _, h⟩
  | k + 1, c, n, ⟨c1, n1, δ, h1, h3, h4⟩ => by
    obtain ⟨n', a1, a2⟩ := A_Dp k c1 n1 h1
    obtain ⟨n2, b1, b2, b3⟩ := lst_ex (P := fun n => Dp st k c1 n) n' a2
    refine ⟨n2 + δ, by omega, c1, n2, δ, b2, fun n'' h => ?_, h3, rfl⟩
    rcases Nat.lt_or_ge n'' n2 with z | z
    · exact absurd h (b3 n'' z)
    · exact z
theorem Ap_le {st : Nat → Cfg → Cfg → Nat → Prop} (hst : ∀ k c c' δ, st k c c' δ → δ ≤ 1) : ∀ k c n, Ap st k c n → n ≤ k
  | 0, c, n, h => by rw [h.2]; exact Nat.le_refl _
  | k + 1, c, n, ⟨c1, n1, δ, h1, h3, h4⟩ => by have := Ap_le hst k c1 n1 h1; have := hst _ _ _ _ h3; omega
theorem ast_1 {r : Rdr} {w : Rw} {k : Nat} {c c' : Cfg} {δ : Nat} (h : ast r w k c c' δ) : δ ≤ 1 := by
  obtain ⟨m, x, e, -, -, -, -, h5⟩ := h
  rcases h5 with ⟨q, -⟩ | ⟨q, -⟩ <;> omega
theorem tg_b {w : Rw} (hw : WV w) (k : Nat) : (tg w k).2 ≤ 12 := by
  unfold tg
  split
  · rename_i p _
    have := idn_le w p.2
    have := tn_len w
    have := hw.1
    show idn w p.2 ≤ 12
    omega
  · show (0 : Nat) ≤ 12
    omega
theorem tg_e {w : Rw} {k : Nat} {p : Int × Int} (h : w[k]? = some p) : tg w k = (p.1.toNat, idn w p.2) := by unfold tg; rw [h]
theorem alv_s {r : Rdr} {w : Rw} {k d : Nat} (h : alvd r w (k + 1) d) : alvd r w k d := by
  rcases h with h | ⟨j, h1, h2⟩
  · exact Or.inl h
  · exact Or.inr ⟨j, by omega, h2⟩
theorem wt_s {r : Rdr} {w : Rw} {k d : Nat} (h : wtd r w (k + 1) d) : wtd r w k d := by
  obtain ⟨j, h1, h2⟩ := h
  exact ⟨j, by omega, h2⟩
theorem wt_al {r : Rdr} {w : Rw} {k d : Nat} (h : wtd r w k d) : alvd r w k d := by
  obtain ⟨j, h1, h2, ⟨m, m1, m2, m3⟩, h4⟩ := h
  exact Or.inr ⟨j, h1, h2, ⟨m, m1, m2, by omega⟩, h4⟩
theorem wt_12 {r : Rdr} {w : Rw} (hw : WV w) {k d : Nat} (h : wtd r w k d) : d ≤ 12 := by
  obtain ⟨j, -, -, -, h4⟩ := h
  have := tg_b hw j
  omega
theorem al_12 {r : Rdr} {w : Rw} (hw : WV w) {k d : Nat} (h : alvd r w k d) : d ≤ 12 := by
  rcases h with h | ⟨j, -, -, -, h4⟩
  · omega
  · have := tg_b hw j
    omega
/-- a register, as it is and as it is told -/
def rR (P : Nat → Prop) (v u : Nat) : Prop := (u = 0 ∧ v = 0) ∨ (u ≠ 0 ∧ u ≤ 12 ∧ v = u) ∨ (u = 13 ∧ v ≠ 0 ∧ ¬ P v)
def cR (P : Nat → Prop) (c u : Cfg) : Prop := c.1 = u.1 ∧ rR P c.2.1 u.2.1 ∧ rR P c.2.2.1 u.2.2.1 ∧ rR P c.2.2.2 u.2.2.2
theorem cR_rg {P : Nat → Prop} {c u : Cfg} (h : cR P c u) (t : Nat) : rR P (rg c t) (rg u t) := by
  unfold rg
  obtain ⟨-, h1, h2, h3⟩ := h
  split
  · exact h1
  · split
    · exact h2
    · exact h3
/-- the same move by the names x and y -/
theorem cR_go {P Q : Nat → Prop} {L : Nat → Bool} {c u : Cfg} {m : Mv} {x y : Nat} (h : cR P c u) (hL : ∀ d, L d = true → Q d ∨ d = 0 ∨ True) (s1 : ∀ d, d ≠ 0 → d ≤ 12 → L d = false → ¬ Q d) (s2 : ∀ d, Q d → P d) (h0 : L 0 = true) (h13 : ∀ d, 13 ≤ d → L d = false) (hxy : (y ≠ 0 ∧ y ≤ 12 ∧ x = y) ∨ (13 ≤ y ∧ x ≠ 0 ∧ ¬ Q x)) : cR Q (goC m c x) (stl L 13 (goC m u y)) := by
  have old : ∀ v z, rR P v z → rR Q v (if L z then z else 13) := by
    rintro v z (⟨rfl, rfl⟩ | ⟨h1, h2, rfl⟩ | ⟨rfl, h2, h3⟩)
    · rw [h0]; exact Or.inl ⟨rfl, rfl⟩
    · cases w : L v with
      | true => exact Or.inr (Or.inl ⟨h1, h2, rfl⟩)
      | false => exact Or.inr (Or.inr ⟨rfl, h1, s1 v h1 h2 w⟩)
    · rw [h13 13 (by omega)]
      exact Or.inr (Or.inr ⟨rfl, h2, fun q => h3 (s2 v q)⟩)
  have new : rR Q x (if L y then y else 13) := by
    rcases hxy with ⟨h1, h2, rfl⟩ | ⟨h1, h2, h3⟩
    · cases w : L x with
      | true => exact Or.inr (Or.inl ⟨h1, h2, rfl⟩)
      | false => exact Or.inr (Or.inr ⟨rfl, h1, s1 x h1 h2 w⟩)
    · rw [h13 y h1]
      exact Or.inr (Or.inr ⟨rfl, h2, h3⟩)
  obtain ⟨-, r1, r2, r3⟩ := h
  refine ⟨rfl, ?_, ?_, ?_⟩
  · show rR Q (if m.2.2.2.1 = 0 then x else c.2.1) (if L (if m.2.2.2.1 = 0 then y else u.2.1) then (if m.2.2.2.1 = 0 then y else u.2.1) else 13)
    by_cases z : m.2.2.2.1 = 0
    · simp only [if_pos z]; exact new
    · simp only [if_neg z]; exact old _ _ r1
  · show rR Q (if m.2.2.2.1 = 1 then x else c.2.2.1) (if L (if m.2.2.2.1 = 1 then y else u.2.2.1) then (if m.2.2.2.1 = 1 then y else u.2.2.1) else 13)
    by_cases z : m.2.2.2.1 = 1
    · simp only [if_pos z]; exact new
    · simp only [if_neg z]; exact old _ _ r2
  · show rR Q (if m.2.2.2.1 = 2 then x else c.2.2.2) (if L (if m.2.2.2.1 = 2 then y else u.2.2.2) then (if m.2.2.2.1 = 2 then y else u.2.2.2) else 13)
    by_cases z : m.2.2.2.1 = 2
    · simp only [if_pos z]; exact new
    · simp only [if_neg z]; exact old _ _ r3
theorem fits_new {m : Mv} {c : Cfg} {x : Nat} (h : m.2.2.1 = 3) : fits m c x = true ↔ c.2.1 ≠ x ∧ c.2.2.1 ≠ x ∧ c.2.2.2 ≠ x := by
  unfold fits
  rw [if_pos h]
  simp only [Bool.and_eq_true, bne_iff_ne]
theorem fits_any {m : Mv} {c : Cfg} {x : Nat} (h : m.2.2.1 = 4) : fits m c x = true := by
  unfold fits
  rw [if_neg (by omega), if_pos h]
theorem fits_rg {m : Mv} {c : Cfg} {x : Nat} (h : m.2.2.1 < 3) : fits m c x = true ↔ rg c m.2.2.1 = x := by
  unfold fits
  rw [if_neg (by omega), if_neg (by omega), beq_iff_eq]
theorem stp_i {m : Mv} {c e : Cfg} {x : Nat} : stp m c x = some e ↔ fits m c x = true ∧ e = goC m c x := by
  unfold stp
  cases z : fits m c x with
  | true => simp [eq_comm]
  | false => simp
theorem a13_0 (r : Rdr) (w : Rw) (k : Nat) : aL13 r w k 0 = true := bl_t.mpr (Or.inl rfl)
theorem a13_b {r : Rdr} {w : Rw} (hw : WV w) (k : Nat) : ∀ d, 13 ≤ d → aL13 r w k d = false := fun d hd => by
  unfold aL13
  rw [bl_f]
  intro h
  have := al_12 hw h
  omega
/-- X's ways are ways -/
theorem Ap_pth {r : Rdr} (hv : RV r) {w : Rw} (hw : WV w) (hg : ∀ k, k < w.length → (tg w k).2 ≠ 0) : ∀ k u n, k ≤ w.length → Ap (ast r w) k u n → ∃ c n', pth r w k c n' ∧ n' ≤ n ∧ cR (alvd r w k) c u
  | 0, u, n, _, h => ⟨c0, 0, ⟨rfl, rfl⟩, by omega, by rw [h.1]; exact ⟨rfl, Or.inl ⟨rfl, rfl⟩, Or.inl ⟨rfl, rfl⟩, Or.inl ⟨rfl, rfl⟩⟩⟩
  | k + 1, u', n, hk, ⟨u, n1, δ, h1, ⟨m, y, e, hm, hm1, st, hu', alt⟩, hn⟩ => by
    obtain ⟨c, n', a1, a2, a3⟩ := Ap_pth hv hw hg k u n1 (by omega) h1
    obtain ⟨i, hi⟩ := List.getElem?_of_mem hm
    have hmv := (hv.mi hi).1
    unfold MV at hmv
    obtain ⟨fy, he⟩ := stp_i.mp st
    subst he
    have s1 : ∀ d, d ≠ 0 → d ≤ 12 → aL13 r w (k + 1) d = false → ¬ alvd r w (k + 1) d := fun d _ _ h => bl_f.mp h
    -- a name for this pair
    have pick : ∀ x, x ≠ 0 → fits m c x = true → ((y ≠ 0 ∧ y ≤ 12 ∧ x = y) ∨ (13 ≤ y ∧ x ≠ 0 ∧ ¬ alvd r w (k + 1) x)) → (if ((m.2.1, x) : Nat × Nat) = tg w k then 0 else 1) ≤ δ → ∃ c n', pth r w (k + 1) c n' ∧ n' ≤ n ∧ cR (alvd r w (k + 1)) c u' := by
      intro x hx fx hxy hδ
      refine ⟨goC m c x, n' + (if ((m.2.1, x) : Nat × Nat) = tg w k then 0 else 1), ⟨c, n', m.2.1, x, a1, hx, ⟨i, m, hi, by rw [hm1, a3.1], rfl, stp_i.mpr ⟨fx, rfl⟩⟩, rfl⟩, by omega, ?_⟩
      rw [hu']
      exact cR_go a3 (fun _ _ => Or.inr (Or.inr trivial)) s1 (fun d h => alv_s h) (a13_0 r w _) (a13_b hw _) hxy
    have le1 : ∀ x : Nat, (if ((m.2.1, x) : Nat × Nat) = tg w k then 0 else 1) ≤ 1 := fun x => by split <;> omega
    have g1 := a3.2.1
    have g2 := a3.2.2.1
    have g3 := a3.2.2.2
    rcases alt with ⟨rfl, l1, l2⟩ | ⟨rfl, xn⟩
    · have hd0 := hg k (by omega)
      have hd12 := tg_b hw k
      refine pick y (by omega) ?_ (Or.inl ⟨by omega, by omega, rfl⟩) (by rw [if_pos (by rw [l1, l2])]; exact Nat.le_refl _)
      -- it fits the names as they are
      by_cases t3 : m.2.2.1 < 3
      · rw [fits_rg t3] at fy ⊢
        rcases cR_rg a3 m.2.2.1 with ⟨q1, q2⟩ | ⟨q1, q2, q3⟩ | ⟨q1, q2, q3⟩
        · omega
        · omega
        · omega
      · by_cases t4 : m.2.2.1 = 3
        · have hal : alvd r w k y := Or.inr ⟨k, Nat.le_refl _, by omega, ⟨m, hm, l1, by omega⟩, l2.symm⟩
          rw [fits_new t4] at fy ⊢
          have nn : ∀ v z, rR (alvd r w k) v z → z ≠ y → v ≠ y := by
            rintro v z (⟨q1, q2⟩ | ⟨q1, q2, q3⟩ | ⟨q1, q2, q3⟩) hz hv
            · omega
            · omega
            · rw [hv] at q3; exact q3 hal
          exact ⟨nn _ _ g1 fy.1, nn _ _ g2 fy.2.1, nn _ _ g3 fy.2.2⟩
        · exact fits_any (by omega)
    · rcases xn with ⟨t3, q1, q2⟩ | ⟨t3, alt2⟩
      · rcases cR_rg a3 m.2.2.1 with ⟨w1, w2⟩ | ⟨w1, w2, w3⟩ | ⟨w1, w2, w3⟩
        · omega
        · exact pick y q2 (by rw [fits_rg t3]; omega) (Or.inl ⟨q2, by omega, rfl⟩) (le1 _)
        · exact pick (rg c m.2.2.1) w2 (by rw [fits_rg t3]) (Or.inr ⟨by omega, w2, fun h => w3 (alv_s h)⟩) (le1 _)
      · rcases alt2 with rfl | ⟨k0, k1, k2, k3⟩
        · -- a name that is nowhere
          have tc := top_ge c
          refine pick (top c + 13) (by omega) ?_ (Or.inr ⟨by omega, by omega, fun h => by have := al_12 hw h; omega⟩) (le1 _)
          by_cases t4 : m.2.2.1 = 3
          · rw [fits_new t4]; omega
          · exact fits_any (by omega)
        · refine pick y (by omega) ?_ (Or.inl ⟨by omega, k2, rfl⟩) (le1 _)
          by_cases t4 : m.2.2.1 = 3
          · have hal : alvd r w k y := alv_s (wt_al k3)
            rw [fits_new t4] at fy ⊢
            have nn : ∀ v z, rR (alvd r w k) v z → z ≠ y → v ≠ y := by
              rintro v z (⟨q1, q2⟩ | ⟨q1, q2, q3⟩ | ⟨q1, q2, q3⟩) hz hv
              · omega
              · omega
              · rw [hv] at q3; exact q3 hal
            exact ⟨nn _ _ g1 fy.1, nn _ _ g2 fy.2.1, nn _ _ g3 fy.2.2⟩
          · exact fits_any (by omega)
/-- every way is one of X's, or X has a better one -/
theorem pth_Ap {r : Rdr} (hv : RV r) {w : Rw} (hw : WV w) : ∀ k c n, k ≤ w.length → pth r w k c n → ∃ u n', Ap (ast r w) k u n' ∧ n' ≤ n ∧ cR (wtd r w k) c u
  | 0, c, n, _, h => ⟨c0, 0, ⟨rfl, rfl⟩, by omega, by rw [h.1]; exact ⟨rfl, Or.inl ⟨rfl, rfl⟩, Or.inl ⟨rfl, rfl⟩, Or.inl ⟨rfl, rfl⟩⟩⟩
  | k + 1, c', n, hk, ⟨c, n1, l, x, h1, hx0, ⟨i, m, hi, hm1, hm2, st⟩, hn⟩ => by
    obtain ⟨u, n', a1, a2, a3⟩ := pth_Ap hv hw k c n1 (by omega) h1
    have hmv := (hv.mi hi).1
    unfold MV at hmv
    have hm := List.mem_of_getElem? hi
    obtain ⟨fx, he⟩ := stp_i.mp st
    subst he
    have s1 : ∀ d, d ≠ 0 → d ≤ 12 → aL13 r w (k + 1) d = false → ¬ wtd r w (k + 1) d := fun d _ _ h q => bl_f.mp h (wt_al q)
    have g1 := a3.2.1
    have g2 := a3.2.2.1
    have g3 := a3.2.2.2
    have put : ∀ y δ, fits m u y = true → ((y ≠ 0 ∧ y ≤ 12 ∧ x = y) ∨ (13 ≤ y ∧ x ≠ 0 ∧ ¬ wtd r w (k + 1) x)) → δ ≤ (if (l, x) = tg w k then 0 else 1) → ((δ = 0 ∧ m.2.1 = (tg w k).1 ∧ y = (tg w k).2) ∨ (δ = 1 ∧ xnm r w (k + 1) u m y)) → ∃ u n', Ap (ast r w) (k + 1) u n' ∧ n' ≤ n ∧ cR (wtd r w (k + 1)) (goC m c x) u := by
      intro y δ fy hxy hδ alt
      exact ⟨_, n' + δ, ⟨u, n', δ, a1, ⟨m, y, goC m u y, hm, by rw [hm1, a3.1], stp_i.mpr ⟨fy, rfl⟩, rfl, alt⟩, rfl⟩, by omega, cR_go a3 (fun _ _ => Or.inr (Or.inr trivial)) s1 (fun d h => wt_s h) (a13_0 r w _) (a13_b hw _) hxy⟩
    have nn : ∀ v z y, rR (wtd r w k) v z → y ≤ 12 → v ≠ y → z ≠ y := by
      rintro v z y (⟨q1, q2⟩ | ⟨q1, q2, q3⟩ | ⟨q1, q2, q3⟩) hy hz hv <;> omega
    have n14 : ∀ v z, rR (wtd r w k) v z → z ≠ 14 := by
      rintro v z (⟨q1, q2⟩ | ⟨q1, q2, q3⟩ | ⟨q1, q2, q3⟩) <;> omega
    by_cases ch : (l, x) = tg w k
    · have e1 : m.2.1 = (tg w k).1 := by rw [← ch]; exact hm2
      have e2 : x = (tg w k).2 := by rw [← ch]
      have h12 := tg_b hw k
      refine put x 0 ?_ (Or.inl ⟨hx0, by omega, rfl⟩) (Nat.zero_le _) (Or.inl ⟨rfl, e1, e2⟩)
      by_cases t3 : m.2.2.1 < 3
      · have hwt : wtd r w k x := ⟨k, Nat.le_refl _, by omega, ⟨m, hm, e1, t3⟩, e2.symm⟩
        rw [fits_rg t3] at fx ⊢
        rcases cR_rg a3 m.2.2.1 with ⟨q1, q2⟩ | ⟨q1, q2, q3⟩ | ⟨q1, q2, q3⟩
        · omega
        · omega
        · rw [fx] at q3; exact absurd hwt q3
      · by_cases t4 : m.2.2.1 = 3
        · rw [fits_new t4] at fx ⊢
          exact ⟨nn _ _ _ g1 (by omega) fx.1, nn _ _ _ g2 (by omega) fx.2.1, nn _ _ _ g3 (by omega) fx.2.2⟩
        · exact fits_any (by omega)
    · have hδ : 1 ≤ (if (l, x) = tg w k then 0 else 1) := by rw [if_neg ch]; exact Nat.le_refl _
      by_cases t3 : m.2.2.1 < 3
      · rw [fits_rg t3] at fx
        rcases cR_rg a3 m.2.2.1 with ⟨q1, q2⟩ | ⟨q1, q2, q3⟩ | ⟨q1, q2, q3⟩
        · omega
        · exact put (rg u m.2.2.1) 1 (by rw [fits_rg t3]) (Or.inl ⟨q1, q2, by omega⟩) hδ (Or.inr ⟨rfl, Or.inl ⟨t3, rfl, q1⟩⟩)
        · exact put (rg u m.2.2.1) 1 (by rw [fits_rg t3]) (Or.inr ⟨by omega, hx0, fun h => by rw [fx] at q3; exact q3 (wt_s h)⟩) hδ (Or.inr ⟨rfl, Or.inl ⟨t3, rfl, by omega⟩⟩)
      · by_cases wx : 0 ≤ m.2.2.2.1 ∧ wtd r w (k + 1) x
        · have h12 := wt_12 hw wx.2
          refine put x 1 ?_ (Or.inl ⟨hx0, h12, rfl⟩) hδ (Or.inr ⟨rfl, Or.inr ⟨by omega, Or.inr ⟨wx.1, by omega, h12, wx.2⟩⟩⟩)
          by_cases t4 : m.2.2.1 = 3
          · rw [fits_new t4] at fx ⊢
            exact ⟨nn _ _ _ g1 h12 fx.1, nn _ _ _ g2 h12 fx.2.1, nn _ _ _ g3 h12 fx.2.2⟩
          · exact fits_any (by omega)
        · have f14 : fits m u 14 = true := by
            by_cases t4 : m.2.2.1 = 3
            · rw [fits_new t4]; exact ⟨n14 _ _ g1, n14 _ _ g2, n14 _ _ g3⟩
            · exact fits_any (by omega)
          by_cases k0 : 0 ≤ m.2.2.2.1
          · exact put 14 1 f14 (Or.inr ⟨by omega, hx0, fun h => wx ⟨k0, h⟩⟩) hδ (Or.inr ⟨rfl, Or.inr ⟨by omega, Or.inl rfl⟩⟩)
          · -- nothing is kept
            have e : goC m c x = goC m c (top c + 13) := by
              unfold goC
              simp only [show ¬ m.2.2.2.1 = 0 by omega, show ¬ m.2.2.2.1 = 1 by omega, show ¬ m.2.2.2.1 = 2 by omega, if_false]
            refine ⟨_, n' + 1, ⟨u, n', 1, a1, ⟨m, 14, goC m u 14, hm, by rw [hm1, a3.1], stp_i.mpr ⟨f14, rfl⟩, rfl, Or.inr ⟨rfl, Or.inr ⟨by omega, Or.inl rfl⟩⟩⟩, rfl⟩, by omega, ?_⟩
            rw [e]
            exact cR_go a3 (fun _ _ => Or.inr (Or.inr trivial)) s1 (fun d h => wt_s h) (a13_0 r w _) (a13_b hw _) (Or.inr ⟨by omega, by omega, fun h => by have := wt_12 hw h; omega⟩)
noncomputable def mndV (r : Rdr) (w : Rw) : Int := mnV (fun n => ∃ c, pth r w w.length c n ∧ tks r c.1 = true)
/-- the least cost is X's -/
theorem mnd_X {r : Rdr} (hv : RV r) {w : Rw} (hw : WV w) (hg : ∀ k, k < w.length → (tg w k).2 ≠ 0) {v : Int} (h : mnv (fun n => ∃ c, Dp (ast r w) w.length c n ∧ tks r c.1 = true) v) : mndV r w = v := by
  refine mnV_e ?_
  have one : ∀ n, (∃ c, pth r w w.length c n ∧ tks r c.1 = true) → ∃ n', n' ≤ n ∧ ∃ c, Dp (ast r w) w.length c n' ∧ tks r c.1 = true := by
    rintro n ⟨c, h1, h2⟩
    obtain ⟨u, n', a1, a2, a3⟩ := pth_Ap hv hw _ c n (Nat.le_refl _) h1
    obtain ⟨n2, b1, b2⟩ := A_Dp _ u n' a1
    exact ⟨n2, by omega, u, b2, by rw [← a3.1]; exact h2⟩
  have two : ∀ n, (∃ c, Dp (ast r w) w.length c n ∧ tks r c.1 = true) → ∃ n', n' ≤ n ∧ ∃ c, pth r w w.length c n' ∧ tks r c.1 = true := by
    rintro n ⟨u, h1, h2⟩
    obtain ⟨c, n', a1, a2, a3⟩ := Ap_pth hv hw hg _ u n (Nat.le_refl _) (Dp_A _ u n h1)
    exact ⟨n', a2, c, a1, by rw [a3.1]; exact h2⟩
  rcases h with ⟨e, no⟩ | ⟨n, e, hn, mn⟩
  · refine Or.inl ⟨e, fun k hk => ?_⟩
    obtain ⟨n', -, q⟩ := one k hk
    exact no n' q
  · obtain ⟨n', h1, h2⟩ := two n hn
    obtain ⟨n2, h3, h4⟩ := one n' h2
    have := mn n2 h4
    have e2 : n' = n := by omega
    subst e2
    refine Or.inr ⟨n', e, h2, fun k hk => ?_⟩
    obtain ⟨n3, h5, h6⟩ := one k hk
    have := mn n3 h6
    omega
