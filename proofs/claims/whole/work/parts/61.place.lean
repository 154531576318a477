/-! Walks.placeOf; the ways of the class -/
theorem Wk_giveSlots (d : Nat) {s : Stt} {h : AH} (p : XI s h) (hg : gaps s.2.2.2 = 0) : ∃ h' g, Cc (d + 2) k_Wk_giveSlots [aR (some 66), aR (some 16)] h = some (none, h') ∧ fr (fun b => b = 68) h h' ∧ XI s h' ∧ g 0 = 0 ∧ (∀ n, n = 0 ∨ knw s.2.2.2 s.2.2.2.length n → hI h' 68 n = zI ((g n : Nat) : Int) ∧ g n ≤ 6) ∧ ∀ i, i ≤ s.2.2.2.length → DST s.2.2.2 g i := by
  have hl := p.rw.1.1
  obtain ⟨h', e, f, px, q⟩ := gs_lp d hg s.2.2.2.length 0 h (by omega) p (by
    intro n hn
    rcases hn with z | ⟨j, j1, _⟩
    · subst z
      rw [gS_0 hg]
      exact p.2.2.2.2.2.2.2.2.2.2.2.2.2.2.2.2.2
    · omega)
  refine ⟨h', gS s.2.2.2, ?_, f, px, gS_0 hg, fun n hn => ⟨q n hn, gS_6 hl n⟩, fun i hi => gS_d hg hi⟩
  rw [C_Wk_giveSlots, E_Wk_giveSlots_0, lt_e, lt_e, lt_e]
  rw [kN_0] at e
  exact e
def plc (g : Nat → Nat) (c : Cfg) : Nat := ((c.1 * 7 + g c.2.1) * 7 + g c.2.2.1) * 7 + g c.2.2.2
/-- the registers hold numbers that are laid -/
def okS (h : AH) (g : Nat → Nat) (c : Cfg) : Prop := CV c ∧ ∀ t, t < 3 → rg c t < 13 ∧ hI h 68 (rg c t) = zI (g (rg c t)) ∧ g (rg c t) ≤ 6
theorem plc_lt {h : AH} {g : Nat → Nat} {c : Cfg} (o : okS h g c) : plc g c < 2058 := by
  have a := o.2 0 (by omega)
  have b := o.2 1 (by omega)
  have d := o.2 2 (by omega)
  have q := o.1.1
  unfold rg at a b d
  simp at a b d
  unfold plc
  omega
theorem Wk_placeOf (d : Nat) {s : Stt} {h : AH} (p : XI s h) {g : Nat → Nat} {c : Cfg} (o : okS h g c) : Cc (d + 2) k_Wk_placeOf [aR (some 66), aI (zI (eX c))] h = some (some (aI (zI (plc g c))), h) := by
  have hlt := eX_lt o.1
  have hq := o.1.1
  have step : ∀ (t v : Nat), t < 3 → v < 1000 → Rk B_Wk_placeOf L_Wk_placeOf (Cc (d + 1)) 1 [aR (some 66), aI (zI (eX c)), aI (zI v), aI (zI t), aU] [] h = Rk B_Wk_placeOf L_Wk_placeOf (Cc (d + 1)) 1 [aR (some 66), aI (zI (eX c)), aI (zI ((v * 7 + g (rg c t) : Nat) : Int)), aI (zI ((t + 1 : Nat) : Int)), aU] [] h := by
    intro t v ht hv
    obtain ⟨o1, o2, o3⟩ := o.2 t ht
    rw [E_Wk_placeOf_1, zc3]
    simp (disch := omega) only [nlt]
    rw [if_pos ht, E_Wk_placeOf_2, calI_e (Rd_heldIn d h o.1 ht), lt_e, obj_e (z66 p.1), p.r (c := 68) (by decide), mb_some, aln_0 (z68 p.1), mb_some, zI_nI]
    simp (disch := omega) only [nlt]
    rw [if_pos o1, E_Wk_placeOf_3, obj_e (z66 p.1), p.r (c := 68) (by decide)]
    simp (disch := omega) only [idx_n (z68 p.1), o2]
    rw [E_Wk_placeOf_5, lt_e, lt_e, nadd1, show zI (v : Int) * zI 7 = zI ((v * 7 : Nat) : Int) from zI_mul _ _, nadd]
  have b0 := (o.2 0 (by omega)).2.2
  have b1 := (o.2 1 (by omega)).2.2
  rw [C_Wk_placeOf, E_Wk_placeOf_0, lt_e, lt_e, shr12 (by omega), eX_q o.1, zc0, step 0 _ (by omega) (by omega), step 1 _ (by omega) (by omega), step 2 _ (by omega) (by omega), E_Wk_placeOf_1, if_neg (by decide), E_Wk_placeOf_6]
  rfl
/-- spots of level i: what their registers hold -/
def domA (w : Rw) (i n : Nat) : Prop := n = 0 ∨ (knw w i n ∧ alw w i n)
def domC (w : Rw) (i : Nat) (c : Cfg) : Prop := CV c ∧ ∀ t, t < 3 → domA w i (rg c t)
theorem dom_ok {h : AH} {w : Rw} {g : Nat → Nat} {i : Nat} {c : Cfg} (hw : WV w) (hi : i ≤ w.length) (hh : ∀ n, n = 0 ∨ knw w w.length n → hI h 68 n = zI ((g n : Nat) : Int) ∧ g n ≤ 6) (dc : domC w i c) : okS h g c := by
  refine ⟨dc.1, fun t ht => ?_⟩
  have hd := dc.2 t ht
  have hk : rg c t = 0 ∨ knw w w.length (rg c t) := by
    rcases hd with z | ⟨⟨j, j1, j2⟩, -⟩
    · exact Or.inl z
    · exact Or.inr ⟨j, by omega, j2⟩
  refine ⟨?_, hh _ hk⟩
  rcases hk with z | ⟨j, j1, j2⟩
  · omega
  · rw [← j2]; have := aid_r hw j; omega
theorem plc_inj {w : Rw} {g : Nat → Nat} {i : Nat} {c c' : Cfg} (g0 : g 0 = 0) (g6 : ∀ n, n = 0 ∨ knw w w.length n → g n ≤ 6) (hi : i ≤ w.length) (ds : DST w g i) (dc : domC w i c) (dc' : domC w i c') (e : plc g c = plc g c') : c = c' := by
  have l6 : ∀ n, domA w i n → g n ≤ 6 := fun n hn => g6 n (by
    rcases hn with z | ⟨⟨j, j1, j2⟩, -⟩
    · exact Or.inl z
    · exact Or.inr ⟨j, by omega, j2⟩)
  have inj : ∀ a b, domA w i a → domA w i b → g a = g b → a = b := by
    intro a b ha hb e
    rcases ha with za | ⟨a1, a2⟩
    · rcases hb with zb | ⟨b1, b2⟩
      · rw [za, zb]
      · have := (ds b b b1 b2 b1 b2).1
        rw [za, g0] at e; omega
    · rcases hb with zb | ⟨b1, b2⟩
      · have := (ds a a a1 a2 a1 a2).1
        rw [zb, g0] at e; omega
      · exact (ds a b a1 a2 b1 b2).2 e
  obtain ⟨q, a, b, d⟩ := c
  obtain ⟨q', a', b', d'⟩ := c'
  have d0 := dc.2 0 (by omega)
  have d1 := dc.2 1 (by omega)
  have d2 := dc.2 2 (by omega)
  have d0' := dc'.2 0 (by omega)
  have d1' := dc'.2 1 (by omega)
  have d2' := dc'.2 2 (by omega)
  unfold rg at d0 d1 d2 d0' d1' d2'
  simp at d0 d1 d2 d0' d1' d2'
  have m0 := l6 a d0
  have m1 := l6 b d1
  have m2 := l6 d d2
  have m0' := l6 a' d0'
  have m1' := l6 b' d1'
  have m2' := l6 d' d2'
  unfold plc at e
  simp only at e
  have e2 : g d = g d' := by omega
  have e1 : g b = g b' := by omega
  have e0 : g a = g a' := by omega
  have eq : q = q' := by omega
  rw [eq, inj a a' d0 d0' e0, inj b b' d1 d1' e1, inj d d' d2 d2' e2]
/-- what a reader holds has come -/
theorem rq_k {r : Rdr} {w : Rw} : ∀ (i : Nat) (c : Cfg), i ≤ w.length → rq r (prs w i) c → ∀ t, t < 3 → rg c t = 0 ∨ knw w i (rg c t)
  | 0, c, hi, h, t, ht => by
    have e : c = c0 := h
    rw [e]
    left
    unfold rg c0
    split
    · rfl
    · split <;> rfl
  | i + 1, c, hi, h, t, ht => by
    have hp : w[i]? = some w[i] := List.getElem?_eq_getElem (by omega)
    rw [prs_s hp] at h
    obtain ⟨c1, h1, ⟨u, m, a1, a2, a3, a4⟩⟩ := h
    have ih := rq_k i c1 (by omega) h1
    have up : ∀ n, n = 0 ∨ knw w i n → n = 0 ∨ knw w (i + 1) n := by
      rintro n (z | ⟨j, j1, j2⟩)
      · exact Or.inl z
      · exact Or.inr ⟨j, by omega, j2⟩
    have nw : knw w (i + 1) (idn w w[i].2) := ⟨i, by omega, aid_e hp⟩
    unfold stp at a4
    split at a4
    · cases a4
      have i0 := up _ (ih 0 (by omega))
      have i1 := up _ (ih 1 (by omega))
      have i2 := up _ (ih 2 (by omega))
      unfold rg at i0 i1 i2
      simp at i0 i1 i2
      unfold rg goC
      simp only
      split
      · split
        · exact Or.inr nw
        · exact i0
      · split
        · split
          · exact Or.inr nw
          · exact i1
        · split
          · exact Or.inr nw
          · exact i2
    · cases a4
theorem lw_alw {w : Rw} (hg : gaps w = 0) {i n : Nat} (h : Lw w i n = true) : n = 0 ∨ alw w i n := by
  unfold Lw lvs at h
  rw [Bool.or_eq_true, List.any_eq_true] at h
  rcases h with h | ⟨p, hp, h⟩
  · exact Or.inl (beq_iff_eq.mp h)
  · rw [Bool.or_eq_true] at h
    obtain ⟨j, hj, e3⟩ := List.getElem_of_mem hp
    rw [List.length_drop] at hj
    rw [List.getElem_drop] at e3
    have hp2 : w[i + j]? = some p := by rw [List.getElem?_eq_getElem (by omega), e3]
    rcases h with h | h
    · exact absurd (beq_iff_eq.mp h) (nogap hg hp2).2
    · exact Or.inr ⟨i + j, by omega, by omega, by rw [aid_e hp2]; exact beq_iff_eq.mp h⟩
theorem dom_stl {r : Rdr} (hv : RV r) {w : Rw} (hw : WV w) (hg : gaps w = 0) {i : Nat} (hi : i ≤ w.length) {c : Cfg} (h : rq r (prs w i) c) : domC w i (stl (Lw w i) 0 c) := by
  have hc := rq_v hv _ c (prs_b hw i) h
  refine ⟨stl_v hc (by omega), fun t ht => ?_⟩
  have e : rg (stl (Lw w i) 0 c) t = if Lw w i (rg c t) then rg c t else 0 := by
    unfold rg stl; simp only; split
    · rfl
    · split <;> rfl
  rw [e]
  by_cases z : Lw w i (rg c t) = true
  · rw [if_pos z]
    rcases rq_k i c hi h t ht with y | y
    · exact Or.inl y
    · rcases lw_alw hg z with x | x
      · exact Or.inl x
      · exact Or.inr ⟨y, x⟩
  · rw [if_neg z]; exact Or.inl rfl
/-- settled spots have as many runs -/
theorem nr_stl {r : Rdr} {w : Rw} : ∀ (k i : Nat) (c : Cfg), i + k = w.length → (∀ (j : Nat) (p : Int × Int), i ≤ j → w[j]? = some p → p.2 ≠ -1) → nr r (sfx w i) (stl (Lw w i) 0 c) = nr r (sfx w i) c
  | 0, i, c, hk, hg => by
    have : i = w.length := by omega
    subst this
    rw [sfx_n]; rfl
  | k + 1, i, c, hk, hg => by
    have hp : w[i]? = some w[i] := List.getElem?_eq_getElem (by omega)
    have ih := fun c' => nr_stl k (i + 1) c' (by omega) (fun j p h1 h2 => hg j p (by omega) h2) (r := r)
    have hx0 := idn_pos hp (hg i _ (Nat.le_refl _) hp)
    rw [sfx_s hp]
    unfold nr
    apply sums_c
    intro m _
    have e1 : canB m (stl (Lw w i) 0 c) w[i].1.toNat (idn w w[i].2) = canB m c w[i].1.toNat (idn w w[i].2) := by
      unfold canB
      rw [stl_f (L := Lw w i) (lvs_x hp) hx0]; rfl
    rw [e1]
    by_cases y : canB m c w[i].1.toNat (idn w w[i].2) = true
    · rw [if_pos y, if_pos y, ← ih, ← ih (goC m c (idn w w[i].2))]
      congr 1
      exact stl_g (lvs_0 _ _) (fun n => lvs_s (f := idn w) (w := w) (i := i) n)
    · rw [if_neg y, if_neg y]
