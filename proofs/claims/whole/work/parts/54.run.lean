/-! the first run -/
def gq (r : Rdr) : List (Nat × Nat) → Cfg → Prop
  | [], c => tks r c.1 = true
  | p :: v, c => ∃ c', stq r c p.1 p.2 c' ∧ gq r v c'
/-- the pairs from i on -/
def sfx (w : Rw) (i : Nat) : List (Nat × Nat) := (w.drop i).map (fun p => (p.1.toNat, idn w p.2))
theorem sfx_s {w : Rw} {i : Nat} {p : Int × Int} (h : w[i]? = some p) : sfx w i = (p.1.toNat, idn w p.2) :: sfx w (i + 1) := by
  obtain ⟨hi, e⟩ := List.getElem?_eq_some_iff.mp h
  unfold sfx; rw [List.drop_eq_getElem_cons hi, e]; rfl
theorem sfx_n (w : Rw) : sfx w w.length = [] := by unfold sfx; rw [List.drop_length]; rfl
/-- move t can be made and the rest taken behind it -/
def mok (r : Rdr) (l x : Nat) (v : List (Nat × Nat)) (c : Cfg) (t : Nat) (c' : Cfg) : Prop := ∃ m, r.2.2.2[t]? = some m ∧ m.1 = c.1 ∧ m.2.1 = l ∧ stp m c x = some c' ∧ gq r v c'
def RUN (r : Rdr) : List (Nat × Nat) → Cfg → List Nat → Prop
  | [], c, ts => ts = [] ∧ tks r c.1 = true
  | p :: v, c, ts => ∃ t ts' c', ts = t :: ts' ∧ mok r p.1 p.2 v c t c' ∧ (∀ t' c'', t' < t → ¬ mok r p.1 p.2 v c t' c'') ∧ RUN r v c' ts'
theorem RUN_u {r : Rdr} : ∀ (v : List (Nat × Nat)) (c : Cfg) (ts ts' : List Nat), RUN r v c ts → RUN r v c ts' → ts = ts'
  | [], c, ts, ts', h, h' => by rw [h.1, h'.1]
  | p :: v, c, ts, ts', ⟨t, u, c1, e, m, q, R⟩, ⟨t', u', c1', e', m', q', R'⟩ => by
    have ht : t = t' := by
      rcases Nat.lt_trichotomy t t' with z | z | z
      · exact absurd m (q' t c1 z)
      · exact z
      · exact absurd m' (q t' c1' z)
    subst ht
    obtain ⟨m1, a1, a2, a3, a4, a5⟩ := m
    obtain ⟨m2, b1, b2, b3, b4, b5⟩ := m'
    rw [a1] at b1
    cases b1
    rw [a4] at b4
    cases b4
    rw [e, e', RUN_u v c1 u u' R R']
theorem RUN_l {r : Rdr} : ∀ (v : List (Nat × Nat)) (c : Cfg) (ts : List Nat), RUN r v c ts → ts.length = v.length
  | [], c, ts, h => by rw [h.1]; rfl
  | p :: v, c, ts, ⟨t, u, c1, e, m, q, R⟩ => by rw [e, List.length_cons, List.length_cons, RUN_l v c1 u R]
theorem RUN_g {r : Rdr} : ∀ (v : List (Nat × Nat)) (c : Cfg) (ts : List Nat), RUN r v c ts → gq r v c
  | [], c, ts, h => h.2
  | p :: v, c, ts, ⟨t, u, c1, e, ⟨m, a1, a2, a3, a4, a5⟩, q, R⟩ => ⟨c1, ⟨t, m, a1, a2, a3, a4⟩, a5⟩
/-- move number k of the first run; -1 -/
noncomputable def runA (r : Rdr) (v : List (Nat × Nat)) (k : Nat) : Int := @dite _ (∃ ts, RUN r v c0 ts) (Classical.propDecidable _) (fun h => ((Classical.choose h).getD k 0 : Nat)) (fun _ => -1)
theorem runA_y {r : Rdr} {v : List (Nat × Nat)} {ts : List Nat} (h : RUN r v c0 ts) (k : Nat) : runA r v k = (ts.getD k 0 : Nat) := by
  unfold runA
  rw [dif_pos ⟨ts, h⟩]
  have := Classical.choose_spec (⟨ts, h⟩ : ∃ ts, RUN r v c0 ts)
  rw [RUN_u v c0 _ _ this h]
theorem runA_n {r : Rdr} {v : List (Nat × Nat)} (h : ¬ gq r v c0) (k : Nat) : runA r v k = -1 := by
  unfold runA
  rw [dif_neg]
  rintro ⟨ts, q⟩
  exact h (RUN_g v c0 ts q)
/-- the class's free cells -/
def nJ' (b : Nat) : Prop := b ≤ 20 ∨ (22 ≤ b ∧ b ≤ 63) ∨ (84 ≤ b ∧ b ≤ 93)
def nI' (b : Nat) : Prop := b ≤ 20 ∨ (22 ≤ b ∧ b ≤ 63) ∨ b = 68 ∨ (84 ≤ b ∧ b ≤ 93)
/-- the empty register's number stays 0 -/
theorem XI_sz {F : Nat → Prop} {s : Stt} {h h' : AH} (p : XI s h) (f : fr F h h') (hF : ∀ b, F b → ¬ nJ' b) (h0 : hI h' 68 0 = hI h 68 0) (hr : ∀ a j, hR h' a j = hR h a j) : XI s h' := by
  obtain ⟨p1, p2, p3, p4, p5, p6, p7, p8⟩ := p
  have nf : ∀ b, nJ' b → ¬ F b := fun b h1 h2 => hF b h2 h1
  refine ⟨f.1.trans p1, p2.mv (fun t ht => hr _ _), p3.fr f (fun b _ _ => nf b (by unfold nJ'; omega)), p4.fr f (fun b _ _ => nf b (by unfold nJ'; omega)), p5.fr f (fun b _ _ => nf b (by unfold nJ'; omega)), p6.fr f (nf _ (by unfold nJ'; omega)) (nf _ (by unfold nJ'; omega)), p7.fr f (fun b _ _ => nf b (by unfold nJ'; omega)), ?_⟩
  obtain ⟨a1, a2, a3, a4, q1, q2, q3, q4, q5, q6⟩ := p8
  refine ⟨?_, ?_, ?_, ?_, ?_, ?_, ?_, ?_, ?_, ?_⟩
  · intro j hj
    obtain ⟨⟨T, hT⟩, e⟩ := a1 j hj
    exact ⟨⟨T, hT.fr f (fun b hb => nf b (by unfold spF at hb; unfold nJ'; omega))⟩, by rw [hr]; exact e⟩
  · obtain ⟨T, hT⟩ := a2; exact ⟨T, hT.fr f (fun b hb => nf b (by unfold spF at hb; unfold nJ'; omega))⟩
  · obtain ⟨T, hT⟩ := a3; exact ⟨T, hT.fr f (fun b hb => nf b (by unfold spF at hb; unfold nJ'; omega))⟩
  · obtain ⟨T, hT⟩ := a4; exact ⟨T, hT.fr f (fun b hb => nf b (by unfold spF at hb; unfold nJ'; omega))⟩
  · unfold prr at *; simp only [hr]; exact q1
  · unfold prr at *; simp only [hr]; exact q2
  · unfold prr at *; simp only [hr]; exact q3
  · unfold prr at *; simp only [hr]; exact q4
  · unfold prr at *; simp only [hr]; exact q5
  · exact ⟨fun j hj => by rw [f.I (nf _ (by unfold nJ'; omega))]; exact q6.1 j hj, by rw [h0]; exact q6.2⟩
theorem XI_sc {F : Nat → Prop} {s : Stt} {h h' : AH} (p : XI s h) (f : fr F h h') (hF : ∀ b, F b → ¬ nI' b) (hr : ∀ a j, hR h' a j = hR h a j) : XI s h' :=
  XI_sz p f (fun b hb z => hF b hb (by unfold nI'; unfold nJ' at z; omega)) (f.I (fun z => hF 68 z (by unfold nI'; omega)) 0) hr
/-! settled spots: the same move -/
theorem stl_p {L L' : Nat → Bool} {m : Mv} {c : Cfg} {x : Nat} (hx : L x = true) (hx0 : x ≠ 0) (h0 : L' 0 = true) (hL : ∀ n, L' n = true → L n = true) : (stp m (stl L 0 c) x = none ∧ stp m c x = none) ∨ ∃ d c', stp m (stl L 0 c) x = some d ∧ stp m c x = some c' ∧ stl L' 0 d = stl L' 0 c' := by
  unfold stp
  rw [stl_f hx hx0]
  by_cases q : fits m c x = true
  · rw [if_pos q, if_pos q]; exact Or.inr ⟨_, _, rfl, rfl, stl_g h0 hL⟩
  · rw [if_neg q, if_neg q]; exact Or.inl ⟨rfl, rfl⟩
def Lw (w : Rw) (i : Nat) : Nat → Bool := lvs (idn w) (w.drop i)
theorem gq_stl {r : Rdr} {w : Rw} : ∀ (k i : Nat) (c : Cfg), i + k = w.length → (∀ (j : Nat) (p : Int × Int), i ≤ j → w[j]? = some p → p.2 ≠ -1) → (gq r (sfx w i) (stl (Lw w i) 0 c) ↔ gq r (sfx w i) c)
  | 0, i, c, hk, hg => by
    have : i = w.length := by omega
    subst this
    rw [sfx_n]; rfl
  | k + 1, i, c, hk, hg => by
    have hp : w[i]? = some w[i] := List.getElem?_eq_getElem (by omega)
    have ih := fun c' => gq_stl k (i + 1) c' (by omega) (fun j p h1 h2 => hg j p (by omega) h2) (r := r)
    have hq := fun d => stl_q (r := r) (c := c) (l := w[i].1.toNat) (lvs_x hp) (idn_pos hp (hg i _ (Nat.le_refl _) hp)) (lvs_0 (idn w) (w.drop (i + 1))) (fun n => lvs_s (f := idn w) (w := w) (i := i) n) d
    rw [sfx_s hp]
    constructor
    · rintro ⟨c', h1, h2⟩
      obtain ⟨c'', k1, k2⟩ := (hq _).mp ⟨c', h1, rfl⟩
      refine ⟨c'', k1, ?_⟩
      rw [← ih c''] ; rw [← ih c'] at h2
      unfold Lw at h2 ⊢
      rw [← k2]; exact h2
    · rintro ⟨c', h1, h2⟩
      obtain ⟨c'', k1, k2⟩ := (hq _).mpr ⟨c', h1, rfl⟩
      refine ⟨c'', k1, ?_⟩
      rw [← ih c''] ; rw [← ih c'] at h2
      unfold Lw at h2 ⊢
      rw [← k2]; exact h2
/-- what the sets remember: spots from which the rest is not taken -/
def NG (h : AH) (r : Rdr) (w : Rw) (j : Nat) : Prop := ∃ S, SP h (22 + 3 * j) 24576 S ∧ ∀ c, CV c → S (eX (stl (Lw w j) 0 c)) = true → ¬ gq r (sfx w j) c
theorem NG.fr {F : Nat → Prop} {h h' : AH} {r : Rdr} {w : Rw} {j : Nat} (p : NG h r w j) (f : fr F h h') (n : ∀ b, spF (22 + 3 * j) b → ¬ F b) : NG h' r w j := by
  obtain ⟨S, h1, h2⟩ := p; exact ⟨S, h1.fr f n, h2⟩
/-- runFrom's cells -/
def fW (i b : Nat) : Prop := b = 67 ∨ (22 + 3 * i ≤ b ∧ b ≤ 57)
def WOK (d : Nat) (s : Stt) (x : Int) (i k : Nat) : Prop := ∀ (h : AH) (c : Cfg), XI s h → (∀ j, i ≤ j → j < s.2.2.2.length → NG h (rdr s x) s.2.2.2 j) → CV c →
    ∃ h', Cc (d + 3 + k) k_Wk_runFrom [aR (some 66), aR (some (xa x)), aR (some 16), aI (zI i), aI (zI (eX (stl (Lw s.2.2.2 i) 0 c)))] h = some (some (aI (zI (if bl (gq (rdr s x) (sfx s.2.2.2 i) c) then 1 else 0))), h') ∧ fr (fW i) h h' ∧ (∀ j, j < i → hI h' 67 j = hI h 67 j) ∧ XI s h' ∧ (∀ j, i ≤ j → j < s.2.2.2.length → NG h' (rdr s x) s.2.2.2 j) ∧
      (gq (rdr s x) (sfx s.2.2.2 i) c → ∃ ts, RUN (rdr s x) (sfx s.2.2.2 i) c ts ∧ ∀ (j t : Nat), ts[j]? = some t → hI h' 67 (i + j) = zI t)
theorem run_in (d : Nat) {s : Stt} {x : Int} {i k l : Nat} {p : Int × Int} (hw : WV s.2.2.2) (hp : s.2.2.2[i]? = some p) (hl : p.1 = (l : Int)) (hl3 : l < 3) (hp2 : ∀ (j : Nat) (p : Int × Int), i ≤ j → s.2.2.2[j]? = some p → p.2 ≠ -1) (hr : RV (rdr s x)) (ih : WOK d s x (i + 1) k) {c : Cfg} (hc : CV c) : ∀ (n j : Nat) (h : AH), j + n = (bk (rdr s x).2.2.2 (c.1 * 3 + l)).length → XI s h → (∀ j, i ≤ j → j < s.2.2.2.length → NG h (rdr s x) s.2.2.2 j) → (∀ (t' i' : Nat) c', t' < j → (bk (rdr s x).2.2.2 (c.1 * 3 + l))[t']? = some i' → ¬ mok (rdr s x) l (idn s.2.2.2 p.2) (sfx s.2.2.2 (i + 1)) c i' c') →
    ∃ h', Rk B_Wk_runFrom L_Wk_runFrom (Cc (d + 3 + k)) 5 [aR (some 66), aR (some (xa x)), aR (some 16), aI (zI i), aI (zI (eX (stl (Lw s.2.2.2 i) 0 c))), aI (zI (bg (rdr s x).2.2.2 (c.1 * 3 + l + 1))), aI (zI ((bg (rdr s x).2.2.2 (c.1 * 3 + l) + j : Nat) : Int)), aU, aU] [] h = some (some (aI (zI (if bl (gq (rdr s x) (sfx s.2.2.2 i) c) then 1 else 0))), h') ∧ fr (fW i) h h' ∧ (∀ j, j < i → hI h' 67 j = hI h 67 j) ∧ XI s h' ∧ (∀ j, i ≤ j → j < s.2.2.2.length → NG h' (rdr s x) s.2.2.2 j) ∧
      (gq (rdr s x) (sfx s.2.2.2 i) c → ∃ ts, RUN (rdr s x) (sfx s.2.2.2 i) c ts ∧ ∀ (j t : Nat), ts[j]? = some t → hI h' 67 (i + j) = zI t) := by
  obtain ⟨v0, v00, v1, v2, v3, v4⟩ := hw.at hp
  have hwl := hw.1
  have hx16 := idn16 hw p.2
  have hc1 : c.1 < 6 := hc.1
  have hes : sfx s.2.2.2 i = (l, idn s.2.2.2 p.2) :: sfx s.2.2.2 (i + 1) := by rw [sfx_s hp, hl]; rfl
  have hcv := stl_v (L := Lw s.2.2.2 i) (o := 0) hc (by omega)
  have g1 : bg (rdr s x).2.2.2 (c.1 * 3 + l + 1) ≤ 20 := Nat.le_trans (bg_le _ _) hr.2.2.2.2.1
  have g2 := g1
  rw [bg] at g2
  intro n
  induction n with
  | zero =>
    intro j h hn px ng hno
    -- all are tried: none
    have hng : ¬ gq (rdr s x) (sfx s.2.2.2 i) c := by
      rw [hes]
      rintro ⟨c', ⟨t, m, a1, a2, a3, a4⟩, a5⟩
      have hmv := (hr.mi a1).1
      obtain ⟨kk, hk⟩ := bk_iff.mpr ⟨m, a1, (key_iff hmv.2.1 hl3).mpr ⟨a2, a3⟩⟩
      have := (List.getElem?_eq_some_iff.mp hk).1
      exact hno kk t c' (by omega) hk ⟨m, a1, a2, a3, a4, a5⟩
    obtain ⟨S, hS, hS2⟩ := ng i (Nat.le_refl _) v00
    obtain ⟨h1, e1, f1, p1⟩ := Sp_add (d + 2 + k) hS (s := eX (stl (Lw s.2.2.2 i) 0 c)) (eX_lt hcv)
    have px1 := XI_sp px (by omega) f1 p1
    refine ⟨h1, ?_, f1.mo (fun b hb => ?_), fun j hj => f1.I (by unfold spF; omega) j, px1, ?_, fun q => absurd q hng⟩
    · rw [E_Wk_runFrom_5, bg]
      simp (disch := omega) only [nlt]
      rw [if_neg (by omega), E_Wk_runFrom_10, obj_e (z66 px.1), px.r (c := 21) (by decide)]
      simp (disch := omega) only [idx_n (z21 px.1)]
      rw [(px.set (by omega)).2, obj_e hS.1.1, show d + 3 + k = d + 2 + k + 1 by omega, calI_e e1, fr0, bl_f.mpr hng]
      rfl
    · unfold spF at hb; unfold fW; omega
    · intro j hj1 hj2
      by_cases z : j = i
      · subst z
        refine ⟨_, p1, fun c1 hc1 h2 => ?_⟩
        rw [Bool.or_eq_true, beq_iff_eq] at h2
        rcases h2 with h2 | h2
        · exact hS2 c1 hc1 h2
        · have e := eX_inj (stl_v hc1 (by omega)) hcv h2
          rw [← gq_stl (s.2.2.2.length - j) j c1 (by omega) hp2, e, gq_stl (s.2.2.2.length - j) j c (by omega) hp2]
          exact hng
      · exact (ng j hj1 hj2).fr f1 (fun b hb => by unfold spF at *; omega)
  | succ n ihn =>
    intro j h hn px ng hno
    have hk : (bk (rdr s x).2.2.2 (c.1 * 3 + l))[j]? = some (bk (rdr s x).2.2.2 (c.1 * 3 + l))[j] := List.getElem?_eq_getElem (by omega)
    obtain ⟨m, hm, km⟩ := bk_mem hk
    have hmv := (hr.mi hm).1
    have hmk := (key_iff hmv.2.1 hl3).mp km
    have rd := px.rd x
    obtain ⟨hAL, -⟩ := alv_al (idn16 hw) (s.2.2.2.drop (i + 1))
    have hx0 := idn_pos hp (hp2 i p (Nat.le_refl _) hp)
    have ob := zI_oX hmv hcv hx16
    have e5 : Rk B_Wk_runFrom L_Wk_runFrom (Cc (d + 3 + k)) 5 [aR (some 66), aR (some (xa x)), aR (some 16), aI (zI i), aI (zI (eX (stl (Lw s.2.2.2 i) 0 c))), aI (zI (bg (rdr s x).2.2.2 (c.1 * 3 + l + 1))), aI (zI ((bg (rdr s x).2.2.2 (c.1 * 3 + l) + j : Nat) : Int)), aU, aU] [] h = Rk B_Wk_runFrom L_Wk_runFrom (Cc (d + 3 + k)) 6 [aR (some 66), aR (some (xa x)), aR (some 16), aI (zI i), aI (zI (eX (stl (Lw s.2.2.2 i) 0 c))), aI (zI (bg (rdr s x).2.2.2 (c.1 * 3 + l + 1))), aI (zI ((bg (rdr s x).2.2.2 (c.1 * 3 + l) + j : Nat) : Int)), aU, aU] [] h := by
      rw [E_Wk_runFrom_5, bg]
      simp (disch := omega) only [nlt]
      rw [if_pos (by omega)]
    have hd1 : d + 3 + k = d + 2 + k + 1 := by omega
    rw [e5, E_Wk_runFrom_6, obj_e rd.2.1.1, hd1, calI_e (Rd_moveAt _ rd (by omega) hk), lt_e, obj_e (z16 px.1), calI_e (Rw_id _ px.rw hp), obj_e rd.2.1.1, calI_e (Rd_after _ rd hcv hm hx16), lt_e]
    simp (disch := omega) only [ylt0]
    -- trying the next one
    have nxt : ∀ (h' : AH), fr (fW i) h h' → (∀ j, j < i → hI h' 67 j = hI h 67 j) → XI s h' → (∀ j, i ≤ j → j < s.2.2.2.length → NG h' (rdr s x) s.2.2.2 j) → (∀ c', ¬ mok (rdr s x) l (idn s.2.2.2 p.2) (sfx s.2.2.2 (i + 1)) c (bk (rdr s x).2.2.2 (c.1 * 3 + l))[j] c') → ∃ h'', Rk B_Wk_runFrom L_Wk_runFrom (Cc (d + 3 + k)) 9 [aR (some 66), aR (some (xa x)), aR (some 16), aI (zI i), aI (zI (eX (stl (Lw s.2.2.2 i) 0 c))), aI (zI (bg (rdr s x).2.2.2 (c.1 * 3 + l + 1))), aI (zI ((bg (rdr s x).2.2.2 (c.1 * 3 + l) + j : Nat) : Int)), aU, aU] [] h' = some (some (aI (zI (if bl (gq (rdr s x) (sfx s.2.2.2 i) c) then 1 else 0))), h'') ∧ fr (fW i) h h'' ∧ (∀ j, j < i → hI h'' 67 j = hI h 67 j) ∧ XI s h'' ∧ (∀ j, i ≤ j → j < s.2.2.2.length → NG h'' (rdr s x) s.2.2.2 j) ∧
        (gq (rdr s x) (sfx s.2.2.2 i) c → ∃ ts, RUN (rdr s x) (sfx s.2.2.2 i) c ts ∧ ∀ (j t : Nat), ts[j]? = some t → hI h'' 67 (i + j) = zI t) := by
      intro h' f' k' px' ng' hno'
      obtain ⟨h'', a1, a2, a3, a4, a5, a6⟩ := ihn (j + 1) h' (by omega) px' ng' (by
        intro t' i' c' ht hi'
        by_cases z : t' = j
        · subst z; rw [hk] at hi'; cases hi'; exact hno' c'
        · exact hno t' i' c' (by omega) hi')
      refine ⟨h'', ?_, f'.tr a2, fun j hj => (a3 j hj).trans (k' j hj), a4, a5, a6⟩
      rw [E_Wk_runFrom_9, lt_e, nadd1]; exact a1
    rcases stl_p (m := m) (c := c) (lvs_x hp) hx0 (lvs_0 (idn s.2.2.2) (s.2.2.2.drop (i + 1))) (fun n => lvs_s (f := idn s.2.2.2) (w := s.2.2.2) (i := i) n) with ⟨s1, s2⟩ | ⟨dd, c', s1, s2, s3⟩
    · have s1' : stp m (stl (Lw s.2.2.2 i) 0 c) (idn s.2.2.2 p.2) = none := s1
      rw [s1', if_pos (by decide)]
      rw [← hd1]
      refine nxt h (fr.rf _ h) (fun _ _ => rfl) px ng ?_
      rintro c' ⟨m', b1, b2, b3, b4, b5⟩
      rw [hm] at b1
      cases b1
      rw [s2] at b4
      cases b4
    · have s1' : stp m (stl (Lw s.2.2.2 i) 0 c) (idn s.2.2.2 p.2) = some dd := s1
      have hdv := stp_v hmv hcv hx16 s1'
      have hcv' := stp_v hmv hc hx16 s2
      have s3' : stl (Lw s.2.2.2 (i + 1)) 0 dd = stl (Lw s.2.2.2 (i + 1)) 0 c' := s3
      obtain ⟨h1, a1, a2, a3, a4, a5, a6⟩ := ih h c' px (fun j h1 h2 => ng j (by omega) h2) hcv'
      have f1 : fr (fW i) h h1 := a2.mo (fun b hb => by unfold fW at *; omega)
      have ng1 : ∀ j, i ≤ j → j < s.2.2.2.length → NG h1 (rdr s x) s.2.2.2 j := by
        intro j h1' h2'
        by_cases z : j = i
        · subst z
          exact (ng j h1' h2').fr a2 (fun b hb => by unfold spF at hb; unfold fW; omega)
        · exact a5 j (by omega) h2'
      rw [s1', if_neg (by show ¬ ((eX dd : Nat) : Int) < 0; omega), E_Wk_runFrom_7, show oX (some dd) = ((eX dd : Nat) : Int) from rfl, nadd1, obj_e (z16 px.1), calI_e (Rw_alive _ px.rw (by omega)), zc0, calI_e (Rd_settle _ h hdv hAL (o := 0) (by omega)), obj_e (z66 px.1)]
      have e7 : stl (lvs (idn s.2.2.2) (s.2.2.2.drop (i + 1))) 0 dd = stl (Lw s.2.2.2 (i + 1)) 0 c' := s3'
      rw [e7, ← hd1, calI_e a1, if01]
      by_cases y : gq (rdr s x) (sfx s.2.2.2 (i + 1)) c'
      · have hgq : gq (rdr s x) (sfx s.2.2.2 i) c := by
          rw [hes]; exact ⟨c', ⟨_, m, hm, hmk.1, hmk.2, s2⟩, y⟩
        obtain ⟨ts, t1, t2⟩ := a6 y
        have f2 : fr (fun b => b = 67) h1 (sI h1 67 i (zI ((bk (rdr s x).2.2.2 (c.1 * 3 + l))[j] : Nat))) := fr_sI (F := fun b => b = 67) h1 rfl _ _
        refine ⟨sI h1 67 i (zI ((bk (rdr s x).2.2.2 (c.1 * 3 + l))[j] : Nat)), ?_, f1.tr (f2.mo fun b hb => Or.inl hb), ?_, XI_sc a4 f2 (fun b hb => by unfold nI'; omega) (fun _ _ => rfl), ?_, fun _ => ⟨(bk (rdr s x).2.2.2 (c.1 * 3 + l))[j] :: ts, ?_, ?_⟩⟩
        · rw [if_pos (bl_t.mpr y), E_Wk_runFrom_8, obj_e (z66 a4.1), a4.r (c := 67) (by decide)]
          simp (disch := omega) only [idx_n (z67 a4.1), lt_e]
          rw [fr1, if_pos (bl_t.mpr hgq)]
        · intro j' hj'
          rw [hI_off (by omega), a3 j' (by omega)]
        · intro j' h1' h2'
          exact (ng1 j' h1' h2').fr f2 (fun b hb => by unfold spF at hb; omega)
        · rw [hes]
          refine ⟨_, ts, c', rfl, ⟨m, hm, hmk.1, hmk.2, s2, y⟩, ?_, t1⟩
          rintro t' c'' ht ⟨m', b1, b2, b3, b4, b5⟩
          have hmv' := (hr.mi b1).1
          obtain ⟨kk, hkk⟩ := bk_iff.mpr ⟨m', b1, (key_iff hmv'.2.1 hl3).mpr ⟨b2, b3⟩⟩
          have : kk < j := by
            apply Nat.lt_of_not_le
            intro z
            have hs : (bk (rdr s x).2.2.2 (c.1 * 3 + l)).Pairwise (· < ·) := by
              unfold bk
              exact List.Pairwise.filter _ List.pairwise_lt_range
            by_cases w : kk = j
            · subst w; rw [hk] at hkk; cases hkk; omega
            · have h3 := (List.getElem?_eq_some_iff.mp hkk)
              have := List.pairwise_iff_getElem.mp hs j kk (by omega) h3.1 (by omega)
              rw [h3.2] at this
              omega
          exact hno kk t' c'' this hkk ⟨m', b1, b2, b3, b4, b5⟩
        · intro j' t ht
          cases j' with
          | zero => simp at ht; rw [Nat.add_zero, hI_hit, ht]
          | succ j' =>
            rw [List.getElem?_cons_succ] at ht
            rw [hI_off (by omega), show i + (j' + 1) = i + 1 + j' by omega]
            exact t2 j' t ht
      · rw [if_neg (by rw [bl_t]; exact y)]
        refine nxt h1 f1 (fun j hj => a3 j (by omega)) a4 ng1 ?_
        rintro c'' ⟨m', b1, b2, b3, b4, b5⟩
        rw [hm] at b1
        cases b1
        rw [s2] at b4
        cases b4
        exact y b5
theorem runFrom (d : Nat) {s : Stt} {x : Int} (hw : WV s.2.2.2) (hr : RV (rdr s x)) {i0 : Nat} (hg : ∀ (j : Nat) (p : Int × Int), i0 ≤ j → s.2.2.2[j]? = some p → p.1 ≠ -1 ∧ p.2 ≠ -1) : ∀ (k i : Nat), i0 ≤ i → i + k = s.2.2.2.length → WOK d s x i (k + 1)
  | 0, i, hi0, hk => by
    intro h c px ng hc
    have hl := hw.1
    have hi : i = s.2.2.2.length := by omega
    have rd := px.rd x
    have hcv := stl_v (L := Lw s.2.2.2 i) (o := 0) hc (by omega)
    have hs : sfx s.2.2.2 i = [] := by rw [hi]; exact sfx_n _
    refine ⟨h, ?_, fr.rf _ h, fun _ _ => rfl, px, ng, fun q => ⟨[], by rw [hs] at q ⊢; exact ⟨rfl, q⟩, by intro j t ht; simp at ht⟩⟩
    rw [show d + 3 + (0 + 1) = d + 3 + 1 from rfl, C_Wk_runFrom, E_Wk_runFrom_0, obj_e (z16 px.1), calI_e (Rw_size _ px.rw)]
    simp (disch := omega) only [nlt]
    rw [if_neg (by omega), E_Wk_runFrom_1, obj_e rd.2.1.1, calI_e (Rd_takesAt _ rd (eX_lt hcv)), b01, eX_q hcv, hs]
    congr 5
    show (if tks (rdr s x) c.1 = true then 1 else 0) = if bl (tks (rdr s x) c.1 = true) = true then 1 else 0
    by_cases z : tks (rdr s x) c.1 = true
    · rw [if_pos z, if_pos (bl_t.mpr z)]
    · rw [if_neg z, if_neg (by rw [bl_t]; exact z)]
  | k + 1, i, hi0, hk => by
    intro h c px ng hc
    have hl := hw.1
    have ih := runFrom d hw hr hg k (i + 1) (by omega) (by omega)
    have hp : s.2.2.2[i]? = some s.2.2.2[i] := List.getElem?_eq_getElem (by omega)
    obtain ⟨v0, v00, v1, v2, v3, v4⟩ := hw.at hp
    obtain ⟨n1, n2⟩ := hg i _ hi0 hp
    obtain ⟨l, hl2⟩ : ∃ l : Nat, s.2.2.2[i].1 = l := ⟨s.2.2.2[i].1.toNat, by omega⟩
    have rd := px.rd x
    have hcv := stl_v (L := Lw s.2.2.2 i) (o := 0) hc (by omega)
    have hgn : ∀ (j : Nat) (p : Int × Int), i ≤ j → s.2.2.2[j]? = some p → p.2 ≠ -1 := fun j p h1 h2 => (hg j p (by omega) h2).2
    obtain ⟨S, hS, hS2⟩ := ng i (Nat.le_refl _) v00
    have hd1 : d + 3 + (k + 1) = d + 2 + (k + 1) + 1 := by omega
    rw [show d + 3 + (k + 1 + 1) = d + 3 + (k + 1) + 1 from rfl, C_Wk_runFrom, E_Wk_runFrom_0, obj_e (z16 px.1), hd1, calI_e (Rw_size _ px.rw)]
    simp (disch := omega) only [nlt]
    rw [if_pos v00, E_Wk_runFrom_2, obj_e (z66 px.1), px.r (c := 21) (by decide)]
    simp (disch := omega) only [idx_n (z21 px.1)]
    rw [(px.set (by omega)).2, obj_e hS.1.1, calI_e (Sp_has _ hS (by have := eX_lt hcv; omega)), if01]
    by_cases y : S (eX (stl (Lw s.2.2.2 i) 0 c)) = true
    · have hng := hS2 c hc y
      exact ⟨h, by rw [if_pos y, E_Wk_runFrom_3, fr0, bl_f.mpr hng]; rfl, fr.rf _ h, fun _ _ => rfl, px, ng, fun q => absurd q hng⟩
    · obtain ⟨h', a1, a2, a3, a4, a5, a6⟩ := run_in d hw hp hl2 (by omega) hgn hr ih hc _ 0 h (Nat.zero_add _) px ng (by intro t' i' c' ht; omega)
      refine ⟨h', ?_, a2, a3, a4, a5, a6⟩
      rw [if_neg y, E_Wk_runFrom_4, obj_e (z16 px.1), calI_e (Rw_letter _ px.rw hp), hl2, obj_e rd.2.1.1, calI_e (Rd_end _ rd (eX_lt hcv) (by omega)), lt_e, obj_e (z16 px.1), calI_e (Rw_letter _ px.rw hp), hl2, obj_e rd.2.1.1, calI_e (Rd_begin _ rd (eX_lt hcv) (by omega)), lt_e, eX_q hcv, ← hd1]
      exact a1
