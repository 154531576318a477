/-! X: first, the choice -/
def fst1 (P : Nat → Nat → Prop) (used lt nm : Nat) : Prop := lt < 3 ∧ nm ≤ used ∧ P lt nm ∧ ∀ l n, n ≤ used → (l < lt ∨ (l = lt ∧ n < nm)) → ¬ P l n
theorem fst1_u {P : Nat → Nat → Prop} {used a b a' b' : Nat} (h : fst1 P used a b) (h' : fst1 P used a' b') : a = a' ∧ b = b' := by
  obtain ⟨h1, h2, h3, h4⟩ := h
  obtain ⟨k1, k2, k3, k4⟩ := h'
  rcases Nat.lt_trichotomy a a' with z | z | z
  · exact absurd h3 (k4 a b h2 (Or.inl z))
  · rcases Nat.lt_trichotomy b b' with y | y | y
    · exact absurd h3 (k4 a b h2 (Or.inr ⟨z, y⟩))
    · exact ⟨z, y⟩
    · exact absurd k3 (h4 a' b' k2 (Or.inr ⟨z.symm, y⟩))
  · exact absurd k3 (h4 a' b' k2 (Or.inl z))
theorem fst1_x {P : Nat → Nat → Prop} {used : Nat} : ∀ (k lt nm : Nat), lt * (used + 1) + nm = k → lt < 3 → nm ≤ used → P lt nm → ∃ a b, fst1 P used a b := by
  intro k
  induction k using Nat.strongRecOn with
  | _ k ih =>
    intro lt nm hk h1 h2 h3
    by_cases z : ∃ l n, n ≤ used ∧ (l < lt ∨ (l = lt ∧ n < nm)) ∧ P l n
    · obtain ⟨l, n, z1, z2, z3⟩ := z
      refine ih (l * (used + 1) + n) ?_ l n rfl (by omega) z1 z3
      rcases z2 with z2 | ⟨z2, z4⟩
      · have : (l + 1) * (used + 1) ≤ lt * (used + 1) := Nat.mul_le_mul_right _ z2
        rw [Nat.succ_mul] at this
        omega
      · subst z2; omega
    · exact ⟨lt, nm, h1, h2, h3, fun l n q1 q2 q3 => z ⟨l, n, q1, q2, q3⟩⟩
noncomputable def pk (P : Nat → Nat → Prop) (used : Nat) : Nat × Nat := @dite _ (∃ p : Nat × Nat, fst1 P used p.1 p.2) (Classical.propDecidable _) (fun h => Classical.choose h) (fun _ => (0, 0))
theorem pk_x {P : Nat → Nat → Prop} {used a b : Nat} (h : fst1 P used a b) : fst1 P used (pk P used).1 (pk P used).2 := by
  have hx : ∃ p : Nat × Nat, fst1 P used p.1 p.2 := ⟨(a, b), h⟩
  unfold pk
  rw [dif_pos hx]
  exact Classical.choose_spec hx
def fwT (r : Rdr) (N : Cfg → Prop) (rest : Nat) (p : Nat × Nat) (c' : Cfg) : Prop := ∃ c, N c ∧ stq r c p.1 (p.2 + 1) c' ∧ dv r c' = rest
noncomputable def fwK (r : Rdr) (N : Cfg → Prop) (used rest : Nat) : Nat × Nat := pk (fun l n => ∃ c', fwT r N rest (l, n) c') used
noncomputable def fwS (r : Rdr) (len : Nat) : Nat → (Cfg → Prop) × Nat
  | 0 => (fun c => c = c0, 0)
  | i + 1 => (fwT r (fwS r len i).1 (len - i - 1) (fwK r (fwS r len i).1 (fwS r len i).2 (len - i - 1)), nu (fwS r len i).2 (fwK r (fwS r len i).1 (fwS r len i).2 (len - i - 1)).2)
noncomputable def fwP (r : Rdr) (len i : Nat) : Nat := 16 * (fwK r (fwS r len i).1 (fwS r len i).2 (len - i - 1)).1 + (fwK r (fwS r len i).1 (fwS r len i).2 (len - i - 1)).2
def FI (r : Rdr) (len i : Nat) (N : Cfg → Prop) (u : Nat) : Prop := u ≤ i ∧ (∃ c, N c) ∧ ∀ c, N c → c.1 < 6 ∧ c.2.1 ≤ u ∧ c.2.2.1 ≤ u ∧ c.2.2.2 ≤ u ∧ rch r (kn c) ∧ dv r c = ((len - i : Nat) : Int)
theorem FI_s {r : Rdr} (hv : RV r) {len i : Nat} {N : Cfg → Prop} {u : Nat} (hi : i < len) (h : FI r len i N u) : fst1 (fun l n => ∃ c', fwT r N (len - i - 1) (l, n) c') u (fwK r N u (len - i - 1)).1 (fwK r N u (len - i - 1)).2 ∧ FI r len (i + 1) (fwT r N (len - i - 1) (fwK r N u (len - i - 1))) (nu u (fwK r N u (len - i - 1)).2) := by
  obtain ⟨h1, ⟨c, hc⟩, h3⟩ := h
  have hf : fst1 (fun l n => ∃ c', fwT r N (len - i - 1) (l, n) c') u (fwK r N u (len - i - 1)).1 (fwK r N u (len - i - 1)).2 := by
    obtain ⟨c1, c2, c3, c4, c5, c6⟩ := h3 c hc
    rw [show len - i = (len - i - 1) + 1 by omega] at c6
    obtain ⟨m, hm, c', g, hd⟩ := dmn_s (dv_iff.mp c6)
    obtain ⟨-, y, y1, y2, y3, y4⟩ := (gst_w (w := u + 1) (by omega) (by omega) (by omega) (by omega)).mp g
    obtain ⟨j, hj⟩ := List.getElem?_of_mem hm
    have hml := (hv.mi hj).1.2.1
    have hP : ∃ c', fwT r N (len - i - 1) (m.2.1, y - 1) c' := by
      refine ⟨goC m c y, c, hc, ⟨j, m, hj, g.1, rfl, ?_⟩, ?_⟩
      · unfold stp
        rw [show ((m.2.1, y - 1) : Nat × Nat).2 + 1 = y by show y - 1 + 1 = y; omega, y3]
        rfl
      · rw [dv_sim (kn_sim (goC m c y)), ← y4]
        exact dv_e hd
    obtain ⟨a, b, hab⟩ := fst1_x (P := fun l n => ∃ c', fwT r N (len - i - 1) (l, n) c') (used := u) _ m.2.1 (y - 1) rfl hml (by omega) hP
    exact pk_x hab
  refine ⟨hf, ?_⟩
  obtain ⟨g1, g2, g3, g4⟩ := hf
  refine ⟨by unfold nu; split <;> omega, g3, ?_⟩
  rintro c' ⟨c1, k1, k2, k3⟩
  obtain ⟨d1, d2, d3, d4, d5, d6⟩ := h3 c1 k1
  obtain ⟨m, m1, m2⟩ := kn_gst (by omega) k2
  have r2 := rch_s d5 m1 m2
  have kv := KV_r hv _ r2
  obtain ⟨j, m', j1, j2, j3, j4⟩ := k2
  have hn : ∀ v, v ≤ u ∨ v = (fwK r N u (len - i - 1)).2 + 1 → v ≤ nu u (fwK r N u (len - i - 1)).2 := by
    intro v hv
    unfold nu
    split <;> omega
  unfold stp at j4
  split at j4
  · cases j4
    refine ⟨kv.1, hn _ ?_, hn _ ?_, hn _ ?_, r2, by rw [k3, show len - (i + 1) = len - i - 1 by omega]⟩
    · unfold goC; simp only; split
      · exact Or.inr rfl
      · exact Or.inl d2
    · unfold goC; simp only; split
      · exact Or.inr rfl
      · exact Or.inl d3
    · unfold goC; simp only; split
      · exact Or.inr rfl
      · exact Or.inl d4
  · cases j4
theorem FI_i {r : Rdr} (hv : RV r) {len : Nat} (hl : dv r c0 = len) : ∀ i, i ≤ len → FI r len i (fwS r len i).1 (fwS r len i).2
  | 0, _ => ⟨Nat.le_refl _, ⟨c0, rfl⟩, fun c hc => by rw [show c = c0 from hc]; exact ⟨by decide, Nat.le_refl _, Nat.le_refl _, Nat.le_refl _, rch_0 r, hl⟩⟩
  | i + 1, h => (FI_s hv (by omega) (FI_i hv hl i (by omega))).2
theorem XI_sw79 {s : Stt} {h : AH} {A A' : Nat} (p : XI s h) (hA : (A = 22 ∧ A' = 25) ∨ (A = 25 ∧ A' = 22)) : XI s (sR (sR h 79 4 (some A)) 79 5 (some A')) := by
  have f : fr (fun b => b = 66 ∨ b = 69 ∨ b = 74 ∨ b = 77 ∨ b = 79 ∨ b = 83) h (sR (sR h 79 4 (some A)) 79 5 (some A')) := (fr_sR h (by omega) _ _).tr (fr_sR _ (by omega) _ _)
  have f79 : fr (fun b => b = 79) h (sR (sR h 79 4 (some A)) 79 5 (some A')) := (fr_sR (F := fun b => b = 79) h rfl _ _).tr (fr_sR (F := fun b => b = 79) _ rfl _ _)
  have q := p
  obtain ⟨p1, p2, p3, p4, p5, p6, p7, a1, a2, a3, a4, q1, q2, q3, q4, q5, q6⟩ := q
  have key : ∀ t, t ∈ XRefs → t.1 = 79 → t.2.1 ≠ 4 ∧ t.2.1 ≠ 5 := by decide
  refine XI_rf p f (p2.mv ?_) (q1.fr f79 (by omega)) (q2.fr f79 (by omega)) (q3.fr f79 (by omega)) ?_ (q5.fr f79 (by omega))
  · intro t ht
    by_cases z : t.1 = 79
    · have := key t ht z
      rw [hR_off (Or.inr (by omega)), hR_off (Or.inr (by omega))]
    · rw [hR_off (Or.inl z), hR_off (Or.inl z)]
  · unfold prr
    rw [hR_hit, hR_off (Or.inr (by omega)), hR_hit]
    rcases hA with ⟨rfl, rfl⟩ | ⟨rfl, rfl⟩
    · exact Or.inl ⟨rfl, rfl⟩
    · exact Or.inr ⟨rfl, rfl⟩
/-- the sets of the choice -/
def SN (S : Nat → Bool) (N : Cfg → Prop) : Prop := (∀ c, CV c → (S (eX c) = true ↔ N c)) ∧ ∀ c, N c → CV c
theorem cn_n0 {T : Nat → Bool} {n : Nat} (h : ∃ t, t < n ∧ T t = true) : cn T n ≠ 0 := by
  intro z
  obtain ⟨t, h1, h2⟩ := h
  rw [cn_zero z t h1] at h2
  cases h2
def CHI (s : Stt) (ra : Nat) (r : Rdr) (L : List Cfg) (h : AH) (a b : Nat) (S : Nat → Bool) : Prop := XI s h ∧ OSt h L (awF r L) ∧ hR h 79 4 = some a ∧ hR h 79 5 = some b ∧ ((a = 22 ∧ b = 25) ∨ (a = 25 ∧ b = 22)) ∧ SP h a 24576 S
def cF (b : Nat) : Prop := (22 ≤ b ∧ b < 28) ∨ b = 79 ∨ b = 82
theorem CH_fo (d : Nat) {s : Stt} {ra : Nat} {r : Rdr} {L : List Cfg} {h : AH} {a b l n rest u len i : Nat} {S : Nat → Bool} {N : Cfg → Prop} (hr : ∀ h, XI s h → RD h ra r) (hL : LR r L) (hl : l < 3) (hn : n < 15) (hrest : rest < 2147483648) (c : CHI s ra r L h a b S) (sn : SN S N) (fi : FI r len i N u) : ∃ h' T, Cc (d + 4) k_Ol_followTo [aR (some 79), aR (some ra), aI (zI l), aI (zI ((n + 1 : Nat) : Int)), aI (zI rest)] h = some (none, h') ∧ fr cF h h' ∧ CHI s ra r L h' a b S ∧ SP h' b 24576 T ∧ SN T (fwT r N rest (l, n)) ∧ ∀ j, hI h' 82 j = hI h 82 j := by
  obtain ⟨px, o, r4, r5, hab, pS⟩ := c
  have rd := hr h px
  obtain ⟨k0, hk0, hb⟩ : ∃ k0, k0 < 2 ∧ b = 22 + 3 * k0 := by
    rcases hab with ⟨-, q⟩ | ⟨-, q⟩
    · exact ⟨1, by omega, by omega⟩
    · exact ⟨0, by omega, by omega⟩
  obtain ⟨T0, p0⟩ : ∃ T, SP h b 24576 T := by
    have := (px.2.2.2.2.2.2.2.1 k0 (by omega)).1
    rw [← hb] at this
    exact this
  obtain ⟨h', T, e, f, x1, o1, r41, r51, s1, t1, g⟩ := Ol_followTo d (l := l) (x := n + 1) (rest := rest) hr hl (by omega) (awF_b rd.1 o.2.1) hrest hb hk0 (by omega) px o r4 r5 pS p0
  refine ⟨h', T, e, f.mo (fun b' hb' => by unfold spF at hb'; unfold cF; omega), ⟨x1, o1, r41, r51, hab, s1⟩, t1, ⟨?_, ?_⟩, fun j => f.I (by unfold spF; omega) j⟩
  · intro c' hc'
    rw [g]
    constructor
    · rintro ⟨c, c2, k1, k2, k3, k4, k5⟩
      have hN := (sn.1 c k1).mp k2
      have st := k3
      obtain ⟨j, m, j1, j2, j3, j4⟩ := k3
      have c2v := stp_v (rd.1.mi j1).1 k1 (by omega) j4
      have e2 : c' = c2 := by rw [← dX_e hc', k5, dX_e c2v]
      subst e2
      refine ⟨c, hN, st, ?_⟩
      obtain ⟨m', m1, m2⟩ := kn_gst (by omega) st
      have rk := rch_s (fi.2.2 c hN).2.2.2.2.1 m1 m2
      unfold awF at k4
      rw [if_pos ((hL _).mpr rk)] at k4
      rw [dv_sim (kn_sim c')]
      exact k4
    · rintro ⟨c, k1, k2, k3⟩
      have cv := sn.2 c k1
      refine ⟨c, c', cv, (sn.1 c cv).mpr k1, k2, ?_, rfl⟩
      obtain ⟨m', m1, m2⟩ := kn_gst (by omega) k2
      have rk := rch_s (fi.2.2 c k1).2.2.2.2.1 m1 m2
      unfold awF
      rw [if_pos ((hL _).mpr rk), ← dv_sim (kn_sim c')]
      exact k3
  · rintro c' ⟨c, k1, k2, k3⟩
    obtain ⟨j, m, j1, j2, j3, j4⟩ := k2
    exact stp_v (rd.1.mi j1).1 (sn.2 c k1) (show n + 1 < 16 by omega) j4
theorem ch_in (d : Nat) {s : Stt} {ra : Nat} {r : Rdr} {L : List Cfg} {a b lt nm rest u len i l : Nat} {S : Nat → Bool} {N : Cfg → Prop} (hr : ∀ h, XI s h → RD h ra r) (hL : LR r L) (hu : u < 14) (hrest : rest < 2147483648) (sn : SN S N) (fi : FI r len i N u) (ft : fst1 (fun l n => ∃ c', fwT r N rest (l, n) c') u lt nm) (hi : i < 12) (hl : l ≤ lt) : ∀ (k n : Nat) (h : AH), n + k = u + 1 → (l = lt → n ≤ nm) → CHI s ra r L h a b S →
    ∃ h', fr cF h h' ∧ (∀ j, j ≠ i → hI h' 82 j = hI h 82 j) ∧ ((l < lt ∧ CHI s ra r L h' a b S ∧ Rk B_Ol_choosePair L_Ol_choosePair (Cc (d + 4)) 3 [aR (some 79), aR (some ra), aI (zI i), aI (zI u), aI (zI rest), aI (zI l), aI (zI ((n + 1 : Nat) : Int)), aU] [] h = Rk B_Ol_choosePair L_Ol_choosePair (Cc (d + 4)) 7 [aR (some 79), aR (some ra), aI (zI i), aI (zI u), aI (zI rest), aI (zI l), aU, aU] [] h') ∨
      (l = lt ∧ ∃ T, Rk B_Ol_choosePair L_Ol_choosePair (Cc (d + 4)) 3 [aR (some 79), aR (some ra), aI (zI i), aI (zI u), aI (zI rest), aI (zI l), aI (zI ((n + 1 : Nat) : Int)), aU] [] h = some (some (aI (zI ((nm + 1 : Nat) : Int))), h') ∧ CHI s ra r L h' b a T ∧ SN T (fwT r N rest (lt, nm)) ∧ hI h' 82 i = zI ((16 * lt + nm : Nat) : Int)))
  | 0, n, h, hn, hle, c => by
    have hlt : l < lt := by
      rcases Nat.lt_or_ge l lt with z | z
      · exact z
      · have := hle (by omega)
        have := ft.2.1
        omega
    refine ⟨h, fr.rf _ h, fun j _ => rfl, Or.inl ⟨hlt, c, ?_⟩⟩
    rw [E_Ol_choosePair_3, zc1, nadd]
    simp (disch := omega) only [nle]
    rw [if_neg (by omega)]
  | k + 1, n, h, hn, hle, c => by
    have hlt3 := ft.1
    obtain ⟨h1, T, e1, f1, c1, t1, sT, g82⟩ := CH_fo d (l := l) (n := n) (rest := rest) hr hL (by omega) (by omega) hrest c sn fi
    obtain ⟨px, o, r4, r5, hab, pS⟩ := c
    obtain ⟨px1, o1, r41, r51, -, pS1⟩ := id c1
    have hcn := cn_le T 24576
    have e0 : Rk B_Ol_choosePair L_Ol_choosePair (Cc (d + 4)) 3 [aR (some 79), aR (some ra), aI (zI i), aI (zI u), aI (zI rest), aI (zI l), aI (zI ((n + 1 : Nat) : Int)), aU] [] h = if cn T 24576 = 0 then Rk B_Ol_choosePair L_Ol_choosePair (Cc (d + 4)) 6 [aR (some 79), aR (some ra), aI (zI i), aI (zI u), aI (zI rest), aI (zI l), aI (zI ((n + 1 : Nat) : Int)), aU] [] h1 else Rk B_Ol_choosePair L_Ol_choosePair (Cc (d + 4)) 5 [aR (some 79), aU, aI (zI i), aU, aU, aI (zI l), aI (zI ((n + 1 : Nat) : Int)), aU] [] h1 := by
      rw [E_Ol_choosePair_3, zc1, nadd]
      simp (disch := omega) only [nle]
      rw [if_pos (by omega), E_Ol_choosePair_4, obj_e (z79 px.1), calV_e e1, obj_e (z79 px1.1), r51, obj_e t1.1.1, calI_e (Sp_size _ t1)]
      simp (disch := omega) only [nle0]
    by_cases z : ∃ c', fwT r N rest (l, n) c'
    · have hc0 : cn T 24576 ≠ 0 := by
        obtain ⟨c', hc'⟩ := z
        have cv := sT.2 c' hc'
        exact cn_n0 ⟨eX c', eX_lt cv, (sT.1 c' cv).mpr hc'⟩
      have hll : l = lt ∧ n = nm := by
        apply Classical.byContradiction
        intro q
        have : l < lt ∨ l = lt ∧ n < nm := by
          rcases Nat.lt_or_ge l lt with w | w
          · exact Or.inl w
          · have e : l = lt := by omega
            have := hle e
            exact Or.inr ⟨e, by omega⟩
        exact ft.2.2.2 l n (by omega) this z
      obtain ⟨rfl, rfl⟩ := hll
      rw [if_neg hc0] at e0
      have px2 := XI_sw79 (A := b) (A' := a) px1 (by omega)
      have f2 : fr cF h1 (sR (sR h1 79 4 (some b)) 79 5 (some a)) := (fr_sR h1 (by unfold cF; omega) _ _).tr (fr_sR _ (by unfold cF; omega) _ _)
      have f2' : fr (fun b => b = 79) h1 (sR (sR h1 79 4 (some b)) 79 5 (some a)) := (fr_sR (F := fun b => b = 79) h1 rfl _ _).tr (fr_sR (F := fun b => b = 79) _ rfl _ _)
      have f3 : fr (fun b => b = 82) (sR (sR h1 79 4 (some b)) 79 5 (some a)) (sI (sR (sR h1 79 4 (some b)) 79 5 (some a)) 82 i (zI ((16 * l + n : Nat) : Int))) := fr_sI (F := fun b => b = 82) _ rfl _ _
      have px3 := XI_sc px2 f3 (fun b hb => by unfold nI'; omega) (fun _ _ => rfl)
      refine ⟨_, f1.tr (f2.tr (f3.mo (fun b hb => by unfold cF; omega))), ?_, Or.inr ⟨rfl, T, ?_, ⟨px3, ?_, ?_, ?_, by omega, (t1.fr f2' (fun b' hb' => by unfold spF at hb'; omega)).fr f3 (fun b' hb' => by unfold spF at hb'; omega)⟩, sT, by rw [hI_hit]⟩⟩
      · intro j hj
        rw [hI_off (Or.inr hj), hI_sR, hI_sR, g82]
      · rw [e0, E_Ol_choosePair_5, obj_e (z79 px1.1), obj_e (z79 px1.1), obj_e (z79 px1.1), mb_some, obj_sR, obj_e (z79 px1.1), mb_some, r41, r51]
        simp (disch := omega) only [obj_sR, obj_e (z79 px1.1), px2.r (a := 79) (j := 2) (c := 82) (by decide), idx_sR, idx_n (z82 px1.1), lt_e]
        rw [show zI 16 = zI ((16 : Nat) : Int) from rfl, nmul, nadd, nsub1 (by omega), show 16 * l + (n + 1) - 1 = 16 * l + n by omega]
      · obtain ⟨q1, q2, q3, q4, q5⟩ := o1
        refine ⟨q1, q2, ?_, fun t c hc => ?_, fun c hc => ?_⟩
        · rw [hI_off (by omega), hI_sR, hI_sR]; exact q3
        · rw [hI_off (by omega), hI_sR, hI_sR]; exact q4 t c hc
        · rw [hI_off (by omega), hI_sR, hI_sR]; exact q5 c hc
      · rw [hR_sI, hR_off (Or.inr (by omega)), hR_hit]
      · rw [hR_sI, hR_hit]
    · have hc0 : cn T 24576 = 0 := by
        apply Classical.byContradiction
        intro q
        obtain ⟨t, t2, t3, -⟩ := cn_pos q
        have hcv := dX_v t2
        exact z ⟨dX t, (sT.1 _ hcv).mp (by rw [eX_d]; exact t3)⟩
      rw [if_pos hc0] at e0
      have hne : l = lt → n ≠ nm := by
        rintro rfl rfl
        exact z ft.2.2.1
      obtain ⟨h', f', g', hh⟩ := ch_in d (lt := lt) (nm := nm) hr hL hu hrest sn fi ft hi hl k (n + 1) h1 (by omega) (fun q => by have := hle q; have := hne q; omega) c1
      have e00 : Rk B_Ol_choosePair L_Ol_choosePair (Cc (d + 4)) 3 [aR (some 79), aR (some ra), aI (zI i), aI (zI u), aI (zI rest), aI (zI l), aI (zI ((n + 1 : Nat) : Int)), aU] [] h = Rk B_Ol_choosePair L_Ol_choosePair (Cc (d + 4)) 3 [aR (some 79), aR (some ra), aI (zI i), aI (zI u), aI (zI rest), aI (zI l), aI (zI ((n + 1 + 1 : Nat) : Int)), aU] [] h1 := by
        rw [e0, E_Ol_choosePair_6, nadd1, lt_e]
      refine ⟨h', f1.tr f', fun j hj => by rw [g' j hj, g82], ?_⟩
      rw [e00]
      exact hh
theorem ch_lp (d : Nat) {s : Stt} {ra : Nat} {r : Rdr} {L : List Cfg} {a b lt nm rest u len i : Nat} {S : Nat → Bool} {N : Cfg → Prop} (hr : ∀ h, XI s h → RD h ra r) (hL : LR r L) (hu : u < 14) (hrest : rest < 2147483648) (sn : SN S N) (fi : FI r len i N u) (ft : fst1 (fun l n => ∃ c', fwT r N rest (l, n) c') u lt nm) (hi : i < 12) : ∀ (k l : Nat) (h : AH), l + k = lt → CHI s ra r L h a b S →
    ∃ h' T, fr cF h h' ∧ (∀ j, j ≠ i → hI h' 82 j = hI h 82 j) ∧ Rk B_Ol_choosePair L_Ol_choosePair (Cc (d + 4)) 1 [aR (some 79), aR (some ra), aI (zI i), aI (zI u), aI (zI rest), aI (zI l), aU, aU] [] h = some (some (aI (zI ((nm + 1 : Nat) : Int))), h') ∧ CHI s ra r L h' b a T ∧ SN T (fwT r N rest (lt, nm)) ∧ hI h' 82 i = zI ((16 * lt + nm : Nat) : Int)
  | k, l, h, hk, c => by
    have hlt3 := ft.1
    obtain ⟨h1, f1, g1, hh⟩ := ch_in d (lt := lt) (nm := nm) hr hL hu hrest sn fi ft hi (l := l) (by omega) (u + 1) 0 h (by omega) (fun _ => Nat.zero_le _) c
    have e0 : Rk B_Ol_choosePair L_Ol_choosePair (Cc (d + 4)) 1 [aR (some 79), aR (some ra), aI (zI i), aI (zI u), aI (zI rest), aI (zI l), aU, aU] [] h = Rk B_Ol_choosePair L_Ol_choosePair (Cc (d + 4)) 3 [aR (some 79), aR (some ra), aI (zI i), aI (zI u), aI (zI rest), aI (zI l), aI (zI ((0 + 1 : Nat) : Int)), aU] [] h := by
      rw [E_Ol_choosePair_1, zc3]
      simp (disch := omega) only [nlt]
      rw [if_pos (by omega), E_Ol_choosePair_2, lt_e]
      rfl
    rcases hh with ⟨q1, q2, q3⟩ | ⟨q1, T, q2, q3, q4, q5⟩
    · match k, hk with
      | 0, hk => omega
      | k + 1, hk =>
        obtain ⟨h', T, f', g', e', w⟩ := ch_lp d hr hL hu hrest sn fi ft hi k (l + 1) h1 (by omega) q2
        refine ⟨h', T, f1.tr f', fun j hj => by rw [g' j hj, g1 j hj], ?_, w⟩
        rw [e0, q3, E_Ol_choosePair_7, nadd1, lt_e]
        exact e'
    · exact ⟨h1, T, f1, g1, by rw [e0, q2], q3, q4, q5⟩
theorem Ol_choosePair (d : Nat) {s : Stt} {ra : Nat} {r : Rdr} {L : List Cfg} {a b rest u len i : Nat} {S : Nat → Bool} {N : Cfg → Prop} {h : AH} (hr : ∀ h, XI s h → RD h ra r) (hL : LR r L) (hi : i < 12) (hil : i < len) (hle : len ≤ 12) (hrest : rest = len - i - 1) (sn : SN S N) (fi : FI r len i N u) (c : CHI s ra r L h a b S) : ∃ h' T, Cc (d + 5) k_Ol_choosePair [aR (some 79), aR (some ra), aI (zI i), aI (zI u), aI (zI rest)] h = some (some (aI (zI (((fwK r N u rest).2 + 1 : Nat) : Int))), h') ∧ fr cF h h' ∧ CHI s ra r L h' b a T ∧ SN T (fwT r N rest (fwK r N u rest)) ∧ hI h' 82 i = zI ((16 * (fwK r N u rest).1 + (fwK r N u rest).2 : Nat) : Int) := by
  subst hrest
  have ft := (FI_s (hr h c.1).1 hil fi).1
  have hu := fi.1
  obtain ⟨h', T, f, -, e, c', sT, g⟩ := ch_lp d (a := a) (b := b) hr hL (by omega) (by omega) sn fi ft hi _ 0 h (Nat.zero_add _) c
  refine ⟨h', T, ?_, f, c', sT, g⟩
  rw [C_Ol_choosePair, E_Ol_choosePair_0, lt_e]
  exact e
theorem nsub {a b : Nat} (h : b ≤ a) : zI (a : Int) - zI (b : Int) = zI ((a - b : Nat) : Int) := by rw [zI_sub]; congr 1; omega
theorem fp_lp (d : Nat) {s : Stt} {ra : Nat} {r : Rdr} {L : List Cfg} {len k : Nat} (hr : ∀ h, XI s h → RD h ra r) (hL : LR r L) (hlen : dv r c0 = len) (hle : len ≤ 12) (hk : k < len) : ∀ (n i : Nat) (h : AH) (a b : Nat) (S : Nat → Bool), i + n = k + 1 → CHI s ra r L h a b S → SN S (fwS r len i).1 → (i = k + 1 → hI h 82 k = zI (fwP r len k)) →
    ∃ h', Rk B_Ol_firstPair L_Ol_firstPair (Cc (d + 5)) 1 [aR (some 79), aR (some ra), aI (zI len), aI (zI k), aI (zI (fwS r len i).2), aI (zI i)] [] h = some (some (aI (zI (fwP r len k))), h') ∧ fr cF h h' ∧ XI s h'
  | 0, i, h, a, b, S, hn, c, sn, hh => by
    have hi : i = k + 1 := by omega
    refine ⟨h, ?_, fr.rf _ h, c.1⟩
    rw [E_Ol_firstPair_1]
    simp (disch := omega) only [nle]
    rw [if_neg (by omega), E_Ol_firstPair_4, obj_e (z79 c.1.1), c.1.r (a := 79) (j := 2) (c := 82) (by decide)]
    simp (disch := omega) only [idx_n (z82 c.1.1)]
    rw [hh hi]
  | n + 1, i, h, a, b, S, hn, c, sn, hh => by
    have hv := (hr h c.1).1
    have fi := FI_i hv hlen i (by omega)
    have hu := fi.1
    obtain ⟨h1, T, e1, f1, c1, s1, g1⟩ := Ol_choosePair d hr hL (by omega) (by omega) hle (rest := len - i - 1) rfl sn fi c
    have ft := (FI_s hv (show i < len by omega) fi).1
    have hnm := ft.2.1
    have hmx : max (fwS r len i).2 ((fwK r (fwS r len i).1 (fwS r len i).2 (len - i - 1)).2 + 1) = (fwS r len (i + 1)).2 := by
      show _ = nu _ _
      unfold nu
      split <;> omega
    obtain ⟨h', e', f', x'⟩ := fp_lp d hr hL hlen hle hk n (i + 1) h1 b a T (by omega) c1 s1 (by
      intro q
      have : i = k := by omega
      subst this
      rw [g1]
      rfl)
    refine ⟨h', ?_, f1.tr f', x'⟩
    rw [E_Ol_firstPair_1]
    simp (disch := omega) only [nle]
    rw [if_pos (by omega), E_Ol_firstPair_2, zc12]
    simp (disch := omega) only [nlt]
    rw [if_pos (by omega), E_Ol_firstPair_3, obj_e (z79 c.1.1), nsub (by omega), nsub1 (by omega), calI_e e1, calI_e (C_max _ (by omega) (by omega) _), lt_e, nadd1, lt_e, hmx]
    exact e'
noncomputable def fstA (x k : Int) (s : Stt) : Int := if x = 0 ∨ x = 1 then (if k < 0 then -3 else if dv (rdr s x) c0 ≤ 12 ∧ k < dv (rdr s x) c0 then (fwP (rdr s x) (dv (rdr s x) c0).toNat k.toNat : Nat) else -1) else -2
theorem Ol_firstPair (d : Nat) {s : Stt} {ra : Nat} {r : Rdr} {L : List Cfg} {len k : Nat} {h : AH} (hr : ∀ h, XI s h → RD h ra r) (hL : LR r L) (hlen : dv r c0 = len) (hle : len ≤ 12) (hk : k < len) (p : XI s h) (o : OSt h L (awF r L)) : ∃ h', Cc (d + 6) k_Ol_firstPair [aR (some 79), aR (some ra), aI (zI len), aI (zI k)] h = some (some (aI (zI (fwP r len k))), h') ∧ fr cF h h' ∧ XI s h' := by
  have q4 := p.2.2.2.2.2.2.2.2.2.2.2.2.2.2.1
  obtain ⟨a, b, k0, hk0, ha, hab, r4, r5⟩ : ∃ a b k0 : Nat, k0 < 2 ∧ a = 22 + 3 * k0 ∧ ((a = 22 ∧ b = 25) ∨ (a = 25 ∧ b = 22)) ∧ hR h 79 4 = some a ∧ hR h 79 5 = some b := by
    rcases q4 with ⟨q1, q2⟩ | ⟨q1, q2⟩
    · exact ⟨22, 25, 0, by omega, rfl, by omega, q1, q2⟩
    · exact ⟨25, 22, 1, by omega, rfl, by omega, q1, q2⟩
  obtain ⟨S0, p0⟩ : ∃ T, SP h a 24576 T := by
    have := (p.2.2.2.2.2.2.2.1 k0 (by omega)).1
    rw [← ha] at this
    exact this
  obtain ⟨h1, e1, f1, p1⟩ := Sp_startAt (d + 1) p0 (s := 0) (by omega)
  have nf : ∀ b', 79 ≤ b' → ¬ spF a b' := by intro b' hb'; unfold spF; omega
  have px1 : XI s h1 := by subst ha; exact XI_sp p (by omega) f1 p1
  have o1 : OSt h1 L (awF r L) := by
    obtain ⟨o1, o2, o3, o4, o5⟩ := o
    exact ⟨o1, o2, by rw [f1.I (nf _ (by omega))]; exact o3, fun i c hc => by rw [f1.I (nf _ (by omega))]; exact o4 i c hc, fun c hc => by rw [f1.I (nf _ (by omega))]; exact o5 c hc⟩
  obtain ⟨h', e', f', x'⟩ := fp_lp d hr hL hlen hle hk (k + 1) 0 h1 a b _ (by omega) ⟨px1, o1, by rw [f1.R (nf _ (by omega))]; exact r4, by rw [f1.R (nf _ (by omega))]; exact r5, hab, p1⟩ ⟨by
      intro c hc
      show (eX c == 0) = true ↔ c = c0
      rw [beq_iff_eq]
      constructor
      · intro q
        rw [← dX_e hc, q]
        rfl
      · rintro rfl; rfl, by rintro c hc; rw [show c = c0 from hc]; exact KV_0.v⟩ (fun q => by omega)
  refine ⟨h', ?_, (f1.mo (fun b' hb' => by unfold spF at hb'; unfold cF; omega)).tr f', x'⟩
  rw [C_Ol_firstPair, E_Ol_firstPair_0, obj_e (z79 p.1), r4, obj_e p0.1.1, zc0, calV_e e1, lt_e, lt_e]
  exact e'
theorem X_first {x k : Int} (x1 : -2147483648 ≤ x) (x2 : x < 2147483648) (k1 : -2147483648 ≤ k) (k2 : k < 2147483648) : XOK k_X_first [aI (zI x), aI (zI k)] (fstA x k) id := by
  intro s h p
  rw [C_X_first, E_X_first_0, obj_e p.o, calR_e (X_readerOf _ p x1 x2), xo_if]
  unfold fstA
  by_cases a1 : x = 0 ∨ x = 1
  · simp only [if_pos a1]
    rw [xo_some a1, E_X_first_2]
    simp (disch := omega) only [ylt0]
    by_cases a2 : k < 0
    · simp only [if_pos a2]
      exact ⟨h, by rw [E_X_first_3], fr.rf _ h, p⟩
    · simp only [if_neg a2]
      obtain ⟨h1, L, e1, f1, hL, o1⟩ := Ol_shortest 53 (ra := xa x) (r := rdr s x) (fun h q => q.rd x) p
      have p1 := XI_ol p f1
      have hv := (p.rd x).1
      have hd := dv_r hv KV_0
      rw [E_X_first_4, obj_e p.o, p.r (a := 0) (j := 9) (c := 79) (by decide), obj_e (z79 p.1), calI_e e1, lt_e]
      simp (disch := omega) only [yle]
      by_cases a3 : dv (rdr s x) c0 ≤ 12
      · rw [if_pos a3, E_X_first_5]
        simp (disch := omega) only [ylt]
        by_cases a4 : k < dv (rdr s x) c0
        · obtain ⟨len, hlen⟩ : ∃ len : Nat, dv (rdr s x) c0 = len := ⟨(dv (rdr s x) c0).toNat, by omega⟩
          obtain ⟨kn, hkn⟩ : ∃ kn : Nat, k = kn := ⟨k.toNat, by omega⟩
          obtain ⟨h2, e2, f2, p2⟩ := Ol_firstPair 53 (ra := xa x) (r := rdr s x) (len := len) (k := kn) (fun h q => q.rd x) hL hlen (by omega) (by omega) p1 o1
          refine ⟨h2, ?_, f1.l.tr (f2.mo (fun b hb => by unfold cF at hb; omega)), p2⟩
          simp only [if_pos (show dv (rdr s x) c0 ≤ 12 ∧ k < dv (rdr s x) c0 from ⟨a3, a4⟩)]
          rw [if_pos a4, E_X_first_7, obj_e p1.o, p1.r (a := 0) (j := 9) (c := 79) (by decide), obj_e (z79 p1.1), hlen, hkn, calI_e e2]
          rfl
        · simp only [if_neg (show ¬ (dv (rdr s x) c0 ≤ 12 ∧ k < dv (rdr s x) c0) from fun q => a4 q.2)]
          exact ⟨h1, by rw [if_neg a4, E_X_first_6], f1.l, p1⟩
      · simp only [if_neg (show ¬ (dv (rdr s x) c0 ≤ 12 ∧ k < dv (rdr s x) c0) from fun q => a3 q.1)]
        exact ⟨h1, by rw [if_neg a3, E_X_first_6], f1.l, p1⟩
  · simp only [if_neg a1]
    exact ⟨h, by rw [E_X_first_1], fr.rf _ h, p⟩
