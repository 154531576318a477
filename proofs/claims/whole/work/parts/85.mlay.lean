/-! M: layKinds -/
def FARN : Nat := 268435456
def KA (r : Rdr) (F G : Nat → Nat) : Prop := G 0 = 1 ∧ ∀ n, n < 384 → F n ≤ 268435456 ∧ (F n < 268435456 → dst r (F n) (dK n)) ∧ (tks r (dK n).1 = true → F n = 0) ∧ G n ≤ 1 ∧ (G n = 1 → rch r (dK n))
def KH (h : AH) (F G : Nat → Nat) : Prop := ∀ n, n < 384 → hI h 123 n = zI (F n) ∧ hI h 124 n = zI (G n)
def lkf (h h' : AH) : Prop := mfr (fun a _ => a = 123 ∨ a = 124) h h'
theorem lkf.rf (h : AH) : lkf h h := mfr.rf _ h
theorem lkf.tr {h h' h'' : AH} (p : lkf h h') (q : lkf h' h'') : lkf h h'' := mfr.tr p q
theorem lkf_s {h : AH} {a : Nat} (ha : a = 123 ∨ a = 124) (j : Nat) (x : Int32) : lkf h (sI h a j x) := mfr_sI (F := fun a _ => a = 123 ∨ a = 124) h ha x
theorem MR_lk {h h' : AH} {j : Nat} {r : Rdr} (p : MR h j r) (f : lkf h h') : MR h' j r := MR.mv p f (fun a i h1 h2 h3 => by omega)
def up (F : Nat → Nat) (n v : Nat) : Nat → Nat := fun k => if k = n then v else F k
theorem up_h (F : Nat → Nat) (n v : Nat) : up F n v n = v := if_pos rfl
theorem up_o {F : Nat → Nat} {n v k : Nat} (h : k ≠ n) : up F n v k = F k := if_neg h
def mu (F G : Nat → Nat) : Nat → Nat
  | 0 => 0
  | n + 1 => F n + (1 - G n) + mu F G n
theorem mu_le {F G F' G' : Nat → Nat} : ∀ N, (∀ n, n < N → F' n ≤ F n ∧ G n ≤ G' n) → mu F' G' N ≤ mu F G N
  | 0, _ => Nat.le_refl _
  | N + 1, h => by
    have := mu_le N (fun n hn => h n (by omega))
    have := h N (by omega)
    unfold mu
    omega
theorem mu_lt {F G F' G' : Nat → Nat} {k : Nat} : ∀ N, k < N → (∀ n, n < N → F' n ≤ F n ∧ G n ≤ G' n) → F' k + (1 - G' k) < F k + (1 - G k) → mu F' G' N < mu F G N
  | 0, hk, _, _ => absurd hk (Nat.not_lt_zero _)
  | N + 1, hk, h, hs => by
    have h1 := h N (by omega)
    unfold mu
    by_cases z : k = N
    · subst z
      have := mu_le (F := F) (G := G) (F' := F') (G' := G') k (fun n hn => h n (by omega))
      omega
    · have := mu_lt N (by omega) (fun n hn => h n (by omega)) hs
      omega
def stb (F G : Nat → Nat) (n : Nat) (m : Mv) (y : Nat) : Prop := isN (dK n) y → cBy m (dK n) y = true → F n ≤ F (eK (kn (goC m (dK n) y))) + 1 ∧ (G n = 1 → G (eK (kn (goC m (dK n) y))) = 1)
theorem cBy_t {m : Mv} {c : Cfg} {y : Nat} : cBy m c y = true ↔ m.1 = c.1 ∧ fits m c y = true := by unfold cBy; rw [Bool.and_eq_true, beq_iff_eq]
theorem KH_F {h : AH} {F G : Nat → Nat} (p : KH h F G) (n v : Nat) : KH (sI h 123 n (zI v)) (up F n v) G := by
  intro k hk
  have := p k hk
  constructor
  · by_cases z : k = n
    · subst z; rw [hI_hit, up_h]
    · rw [hI_off (Or.inr z), up_o z]; exact this.1
  · rw [hI_off (by omega)]; exact this.2
theorem KH_G {h : AH} {F G : Nat → Nat} (p : KH h F G) (n v : Nat) : KH (sI h 124 n (zI v)) F (up G n v) := by
  intro k hk
  have := p k hk
  constructor
  · rw [hI_off (by omega)]; exact this.1
  · by_cases z : k = n
    · subst z; rw [hI_hit, up_h]
    · rw [hI_off (Or.inr z), up_o z]; exact this.2
theorem lk_i (d : Nat) {j t n : Nat} {r : Rdr} {m : Mv} (hj : j < 2) (hv : RV r) (hn : n < 384) (hm : r.2.2.2[t]? = some m) : ∀ (k i b : Nat) (h : AH) (F G : Nat → Nat), i + k = 4 → b ≤ 1 → MS h → MR h j r → KH h F G → KA r F G →
    ∃ (h' : AH) (F' G' : Nat → Nat) (b' : Nat), Rk B_M_layKinds L_M_layKinds (Cc (d + 2)) 17 [aR (some 94), aI (zI j), aI (zI b), aI (zI n), aI (zI ((20 * j + t : Nat) : Int)), aI (zI i), aU] [] h = Rk B_M_layKinds L_M_layKinds (Cc (d + 2)) 26 [aR (some 94), aI (zI j), aI (zI b'), aI (zI n), aI (zI ((20 * j + t : Nat) : Int)), aU, aU] [] h' ∧ lkf h h' ∧ KH h' F' G' ∧ KA r F' G' ∧ b' ≤ 1 ∧ ((F' = F ∧ G' = G ∧ b' = b ∧ ∀ i', i ≤ i' → i' < 4 → stb F G n m (nA i')) ∨ (b' = 1 ∧ mu F' G' 384 < mu F G 384))
  | 0, i, b, h, F, G, hi, hb, p, mr, kh, ka => by
    refine ⟨h, F, G, b, ?_, lkf.rf h, kh, ka, hb, Or.inl ⟨rfl, rfl, rfl, fun i' h1 h2 => by omega⟩⟩
    rw [E_M_layKinds_17, zc4]
    simp (disch := omega) only [nlt]
    rw [if_neg (by omega)]
  | k + 1, i, b, h, F, G, hi, hb, p, mr, kh, ka => by
    have hmi := hv.mi hm
    have mrw := mr.2.2.2.2 t m hm
    have ny := nA_b i
    have e0 : Rk B_M_layKinds L_M_layKinds (Cc (d + 2)) 17 [aR (some 94), aI (zI j), aI (zI b), aI (zI n), aI (zI ((20 * j + t : Nat) : Int)), aI (zI i), aU] [] h = if bl (isN (dK n) (nA i)) = true then Rk B_M_layKinds L_M_layKinds (Cc (d + 2)) 19 [aR (some 94), aI (zI j), aI (zI b), aI (zI n), aI (zI ((20 * j + t : Nat) : Int)), aI (zI i), aU] [] h else Rk B_M_layKinds L_M_layKinds (Cc (d + 2)) 25 [aR (some 94), aI (zI j), aI (zI b), aI (zI n), aI (zI ((20 * j + t : Nat) : Int)), aI (zI i), aU] [] h := by
      rw [E_M_layKinds_17, zc4]
      simp (disch := omega) only [nlt]
      rw [if_pos (by omega), E_M_layKinds_18, calI_e (M_nameAt _ h (by omega)), calI_e (M_isNameOf _ h hn (by omega))]
      by_cases z : bl (isN (dK n) (nA i)) = true
      · rw [if_pos z, if_pos z, if_neg (by decide)]
      · rw [if_neg z, if_neg z, if_pos zI_0.symm]
    -- the rest behind this name
    have cont : ∀ (h1 : AH) (F1 G1 : Nat → Nat) (b1 : Nat), Rk B_M_layKinds L_M_layKinds (Cc (d + 2)) 17 [aR (some 94), aI (zI j), aI (zI b), aI (zI n), aI (zI ((20 * j + t : Nat) : Int)), aI (zI i), aU] [] h = Rk B_M_layKinds L_M_layKinds (Cc (d + 2)) 25 [aR (some 94), aI (zI j), aI (zI b1), aI (zI n), aI (zI ((20 * j + t : Nat) : Int)), aI (zI i), aU] [] h1 → lkf h h1 → KH h1 F1 G1 → KA r F1 G1 → b1 ≤ 1 → ((F1 = F ∧ G1 = G ∧ b1 = b ∧ stb F G n m (nA i)) ∨ (b1 = 1 ∧ mu F1 G1 384 < mu F G 384)) →
        ∃ (h' : AH) (F' G' : Nat → Nat) (b' : Nat), Rk B_M_layKinds L_M_layKinds (Cc (d + 2)) 17 [aR (some 94), aI (zI j), aI (zI b), aI (zI n), aI (zI ((20 * j + t : Nat) : Int)), aI (zI i), aU] [] h = Rk B_M_layKinds L_M_layKinds (Cc (d + 2)) 26 [aR (some 94), aI (zI j), aI (zI b'), aI (zI n), aI (zI ((20 * j + t : Nat) : Int)), aU, aU] [] h' ∧ lkf h h' ∧ KH h' F' G' ∧ KA r F' G' ∧ b' ≤ 1 ∧ ((F' = F ∧ G' = G ∧ b' = b ∧ ∀ i', i ≤ i' → i' < 4 → stb F G n m (nA i')) ∨ (b' = 1 ∧ mu F' G' 384 < mu F G 384)) := by
      intro h1 F1 G1 b1 e1 f1 kh1 ka1 hb1 alt
      obtain ⟨h', F', G', b', e, f, kh', ka', hb', alt'⟩ := lk_i d hj hv hn hm k (i + 1) b1 h1 F1 G1 (by omega) hb1 (p.mf f1) (MR_lk mr f1) kh1 ka1
      refine ⟨h', F', G', b', ?_, f1.tr f, kh', ka', hb', ?_⟩
      · rw [e1, E_M_layKinds_25, nadd1, lt_e]; exact e
      · rcases alt with ⟨rfl, rfl, rfl, s1⟩ | ⟨rfl, l1⟩
        · rcases alt' with ⟨a1, a2, a3, a4⟩ | ⟨a1, a2⟩
          · refine Or.inl ⟨a1, a2, a3, fun i' h1 h2 => ?_⟩
            by_cases w : i' = i
            · rw [w]; exact s1
            · exact a4 i' (by omega) h2
          · exact Or.inr ⟨a1, a2⟩
        · rcases alt' with ⟨a1, a2, a3, a4⟩ | ⟨a1, a2⟩
          · exact Or.inr ⟨a3, by rw [a1, a2]; exact l1⟩
          · exact Or.inr ⟨a1, by omega⟩
    by_cases z : isN (dK n) (nA i)
    · rw [if_pos (bl_t.mpr z), E_M_layKinds_19, calI_e (M_nameAt _ h (by omega)), obj_e (z94 p.1), calI_e (M_canBy _ p (by omega) mrw hmi.1 hn ny.2 ny.1 z)] at e0
      cases y : cBy m (dK n) (nA i) with
      | false =>
        rw [y, if_neg (show ¬ (false = true) by simp), if_pos zI_0.symm] at e0
        exact cont h F G b e0 (lkf.rf h) kh ka hb (Or.inl ⟨rfl, rfl, rfl, fun _ q => by rw [y] at q; cases q⟩)
      | true =>
        have hg := cBy_t.mp y
        have k4 : K4 (kn (goC m (dK n) (nA i))) := kn_4 (show m.2.2.2.2 < 6 from hmi.1.2.2.2.2.2)
        have dlt := eK_lt k4
        have dde := dK_e k4
        have gs : gst m (dK n) (kn (goC m (dK n) (nA i))) := ⟨hg.1, nA i, ny.1, hg.2, rfl⟩
        have hmem := List.mem_of_getElem? hm
        obtain ⟨D, hD⟩ : ∃ D, D = eK (kn (goC m (dK n) (nA i))) := ⟨_, rfl⟩
        rw [← hD] at dlt dde
        have gsD : gst m (dK n) (dK D) := by rw [dde]; exact gs
        have kn' := ka.2 n hn
        have kD := ka.2 D dlt
        have hkn := kh n hn
        have hkD := kh D dlt
        rw [y, if_pos rfl, if_neg (by decide), E_M_layKinds_20, calI_e (M_nameAt _ h (by omega)), obj_e (z94 p.1), calI_e (M_kindBehind _ p (by omega) mrw hmi.1 hn ny.2), lt_e, ← hD] at e0
        simp (disch := omega) only [obj_e (z94 p.1), m36 p, idx_n (z123 p.1), hkD.1, hkn.1, nadd1, nlt] at e0
        -- what is behind the first question
        have two : ∀ (h1 : AH) (F1 : Nat → Nat) (b1 : Nat), Rk B_M_layKinds L_M_layKinds (Cc (d + 2)) 17 [aR (some 94), aI (zI j), aI (zI b), aI (zI n), aI (zI ((20 * j + t : Nat) : Int)), aI (zI i), aU] [] h = Rk B_M_layKinds L_M_layKinds (Cc (d + 2)) 22 [aR (some 94), aI (zI j), aI (zI b1), aI (zI n), aI (zI ((20 * j + t : Nat) : Int)), aI (zI i), aI (zI D)] [] h1 → lkf h h1 → KH h1 F1 G → KA r F1 G → b1 ≤ 1 → ((F1 = F ∧ b1 = b ∧ F n ≤ F D + 1) ∨ (b1 = 1 ∧ mu F1 G 384 < mu F G 384)) →
            ∃ (h' : AH) (F' G' : Nat → Nat) (b' : Nat), Rk B_M_layKinds L_M_layKinds (Cc (d + 2)) 17 [aR (some 94), aI (zI j), aI (zI b), aI (zI n), aI (zI ((20 * j + t : Nat) : Int)), aI (zI i), aU] [] h = Rk B_M_layKinds L_M_layKinds (Cc (d + 2)) 26 [aR (some 94), aI (zI j), aI (zI b'), aI (zI n), aI (zI ((20 * j + t : Nat) : Int)), aU, aU] [] h' ∧ lkf h h' ∧ KH h' F' G' ∧ KA r F' G' ∧ b' ≤ 1 ∧ ((F' = F ∧ G' = G ∧ b' = b ∧ ∀ i', i ≤ i' → i' < 4 → stb F G n m (nA i')) ∨ (b' = 1 ∧ mu F' G' 384 < mu F G 384)) := by
          intro h1 F1 b1 e1 f1 kh1 ka1 hb1 alt
          have p1 := p.mf f1
          rw [E_M_layKinds_22] at e1
          simp (disch := omega) only [obj_e (z94 p1.1), m37 p1, idx_n (z124 p1.1), (kh1 n hn).2, neq0] at e1
          by_cases g0 : G n = 0
          · rw [if_pos g0] at e1
            refine cont h1 F1 G b1 e1 f1 kh1 ka1 hb1 ?_
            rcases alt with ⟨q1, q2, q3⟩ | q
            · exact Or.inl ⟨q1, rfl, q2, fun _ _ => ⟨by rw [← hD]; exact q3, fun w => by omega⟩⟩
            · exact Or.inr q
          · rw [if_neg g0, E_M_layKinds_23] at e1
            simp (disch := omega) only [obj_e (z94 p1.1), m37 p1, idx_n (z124 p1.1), (kh1 D dlt).2, neq0] at e1
            by_cases gD : G D = 0
            · rw [if_pos gD, E_M_layKinds_24, obj_e (z94 p1.1), if_pos (Or.inr (by decide)), m37 p1] at e1
              simp (disch := omega) only [idx_n (z124 p1.1), lt_e] at e1
              have hl : mu F1 (up G D 1) 384 < mu F1 G 384 := by
                refine mu_lt (k := D) 384 dlt (fun x hx => ⟨Nat.le_refl _, ?_⟩) ?_
                · by_cases w : x = D
                  · rw [w, up_h]; exact (ka.2 D dlt).2.2.2.1
                  · rw [up_o w]; exact Nat.le_refl _
                · rw [up_h]; omega
              refine cont _ F1 (up G D 1) 1 e1 (f1.tr (lkf_s (by omega) _ _)) (KH_G kh1 D 1) ⟨?_, fun x hx => ?_⟩ (Nat.le_refl _) (Or.inr ⟨rfl, ?_⟩)
              · by_cases w : (0 : Nat) = D
                · rw [w, up_h]
                · rw [up_o w]; exact ka1.1
              · obtain ⟨q1, q2, q3, q4, q5⟩ := ka1.2 x hx
                refine ⟨q1, q2, q3, ?_, ?_⟩
                · by_cases w : x = D
                  · rw [w, up_h]; exact Nat.le_refl _
                  · rw [up_o w]; exact q4
                · intro q
                  by_cases w : x = D
                  · rw [w]; exact rch_s (kn'.2.2.2.2 (by have := kn'.2.2.2.1; omega)) hmem gsD
                  · rw [up_o w] at q; exact q5 q
              · rcases alt with ⟨q1, q2, q3⟩ | ⟨-, q⟩
                · rw [q1] at hl ⊢; exact hl
                · omega
            · rw [if_neg gD] at e1
              refine cont h1 F1 G b1 e1 f1 kh1 ka1 hb1 ?_
              rcases alt with ⟨q1, q2, q3⟩ | q
              · exact Or.inl ⟨q1, rfl, q2, fun _ _ => ⟨by rw [← hD]; exact q3, fun _ => by rw [← hD]; have := kD.2.2.2.1; omega⟩⟩
              · exact Or.inr q
        by_cases w : F D + 1 < F n
        · rw [if_pos w, E_M_layKinds_21] at e0
          simp (disch := omega) only [obj_e (z94 p.1), m36 p, idx_n (z123 p.1), hkD.1, nadd1, lt_e] at e0
          refine two _ (up F n (F D + 1)) 1 e0 (lkf_s (by omega) _ _) (KH_F kh n (F D + 1)) ⟨ka.1, fun x hx => ?_⟩ (Nat.le_refl _) (Or.inr ⟨rfl, ?_⟩)
          · obtain ⟨q1, q2, q3, q4, q5⟩ := ka.2 x hx
            by_cases v : x = n
            · subst v
              rw [up_h]
              refine ⟨by omega, fun _ => ⟨m, hmem, dK D, gsD, kD.2.1 (by omega)⟩, fun q => ?_, q4, q5⟩
              have := q3 q
              omega
            · rw [up_o v]; exact ⟨q1, q2, q3, q4, q5⟩
          · refine mu_lt (k := n) 384 hn (fun x hx => ⟨?_, Nat.le_refl _⟩) ?_
            · by_cases v : x = n
              · rw [v, up_h]; omega
              · rw [up_o v]; exact Nat.le_refl _
            · rw [up_h]; omega
        · rw [if_neg w] at e0
          exact two h F b e0 (lkf.rf h) kh ka hb (Or.inl ⟨rfl, rfl, by omega⟩)
    · rw [if_neg (fun q => z (bl_t.mp q))] at e0
      exact cont h F G b e0 (lkf.rf h) kh ka hb (Or.inl ⟨rfl, rfl, rfl, fun q => absurd q z⟩)
theorem lk_m (d : Nat) {j n : Nat} {r : Rdr} (hj : j < 2) (hv : RV r) (hn : n < 384) : ∀ (k t b : Nat) (h : AH) (F G : Nat → Nat), t + k = r.2.2.2.length → b ≤ 1 → MS h → MR h j r → KH h F G → KA r F G →
    ∃ (h' : AH) (F' G' : Nat → Nat) (b' : Nat), Rk B_M_layKinds L_M_layKinds (Cc (d + 2)) 15 [aR (some 94), aI (zI j), aI (zI b), aI (zI n), aI (zI ((20 * j + t : Nat) : Int)), aU, aU] [] h = Rk B_M_layKinds L_M_layKinds (Cc (d + 2)) 27 [aR (some 94), aI (zI j), aI (zI b'), aI (zI n), aU, aU, aU] [] h' ∧ lkf h h' ∧ KH h' F' G' ∧ KA r F' G' ∧ b' ≤ 1 ∧ ((F' = F ∧ G' = G ∧ b' = b ∧ ∀ t' m i', t ≤ t' → r.2.2.2[t']? = some m → i' < 4 → stb F G n m (nA i')) ∨ (b' = 1 ∧ mu F' G' 384 < mu F G 384))
  | 0, t, b, h, F, G, hk, hb, p, mr, kh, ka => by
    have hl := hv.2.2.2.2.1
    refine ⟨h, F, G, b, ?_, lkf.rf h, kh, ka, hb, Or.inl ⟨rfl, rfl, rfl, fun t' m i' h1 h2 => by have := (List.getElem?_eq_some_iff.mp h2).1; omega⟩⟩
    rw [E_M_layKinds_15, obj_e (z94 p.1), m3 p]
    simp (disch := omega) only [idx_n (z98 p.1), mr.2.2.2.1]
    rw [show zI 20 = zI ((20 : Nat) : Int) from rfl, nmul, nadd]
    simp (disch := omega) only [nlt]
    rw [if_neg (by omega)]
  | k + 1, t, b, h, F, G, hk, hb, p, mr, kh, ka => by
    have hl := hv.2.2.2.2.1
    have hm : r.2.2.2[t]? = some r.2.2.2[t] := List.getElem?_eq_getElem (by omega)
    obtain ⟨h1, F1, G1, b1, e1, f1, kh1, ka1, hb1, alt⟩ := lk_i d hj hv hn hm 4 0 b h F G (by omega) hb p mr kh ka
    obtain ⟨h', F', G', b', e, f, kh', ka', hb', alt'⟩ := lk_m d hj hv hn k (t + 1) b1 h1 F1 G1 (by omega) hb1 (p.mf f1) (MR_lk mr f1) kh1 ka1
    refine ⟨h', F', G', b', ?_, f1.tr f, kh', ka', hb', ?_⟩
    · rw [E_M_layKinds_15, obj_e (z94 p.1), m3 p]
      simp (disch := omega) only [idx_n (z98 p.1), mr.2.2.2.1]
      rw [show zI 20 = zI ((20 : Nat) : Int) from rfl, nmul, nadd]
      simp (disch := omega) only [nlt]
      rw [if_pos (by omega), E_M_layKinds_16, lt_e]
      refine Eq.trans e1 ?_
      rw [E_M_layKinds_26, nadd1, lt_e]
      exact e
    · rcases alt with ⟨rfl, rfl, rfl, s1⟩ | ⟨rfl, l1⟩
      · rcases alt' with ⟨a1, a2, a3, a4⟩ | ⟨a1, a2⟩
        · refine Or.inl ⟨a1, a2, a3, fun t' m i' h1 h2 h3 => ?_⟩
          by_cases w : t' = t
          · subst w
            rw [hm] at h2
            cases h2
            exact s1 i' (Nat.zero_le _) h3
          · exact a4 t' m i' (by omega) h2 h3
        · exact Or.inr ⟨a1, a2⟩
      · rcases alt' with ⟨a1, a2, a3, a4⟩ | ⟨a1, a2⟩
        · exact Or.inr ⟨a3, by rw [a1, a2]; exact l1⟩
        · exact Or.inr ⟨a1, by omega⟩
theorem lk_c (d : Nat) {j : Nat} {r : Rdr} (hj : j < 2) (hv : RV r) : ∀ (k n b : Nat) (h : AH) (F G : Nat → Nat), n + k = 384 → b ≤ 1 → MS h → MR h j r → KH h F G → KA r F G →
    ∃ (h' : AH) (F' G' : Nat → Nat) (b' : Nat), Rk B_M_layKinds L_M_layKinds (Cc (d + 2)) 13 [aR (some 94), aI (zI j), aI (zI b), aI (zI n), aU, aU, aU] [] h = Rk B_M_layKinds L_M_layKinds (Cc (d + 2)) 28 [aR (some 94), aI (zI j), aI (zI b'), aU, aU, aU, aU] [] h' ∧ lkf h h' ∧ KH h' F' G' ∧ KA r F' G' ∧ b' ≤ 1 ∧ ((F' = F ∧ G' = G ∧ b' = b ∧ ∀ (n' t' : Nat) (m : Mv) (i' : Nat), n ≤ n' → n' < 384 → r.2.2.2[t']? = some m → i' < 4 → stb F G n' m (nA i')) ∨ (b' = 1 ∧ mu F' G' 384 < mu F G 384))
  | 0, n, b, h, F, G, hk, hb, p, mr, kh, ka => by
    refine ⟨h, F, G, b, ?_, lkf.rf h, kh, ka, hb, Or.inl ⟨rfl, rfl, rfl, fun n' t' m i' h1 h2 => by omega⟩⟩
    rw [E_M_layKinds_13, show zI 384 = zI ((384 : Nat) : Int) from rfl]
    simp (disch := omega) only [nlt]
    rw [if_neg (by omega)]
  | k + 1, n, b, h, F, G, hk, hb, p, mr, kh, ka => by
    obtain ⟨h1, F1, G1, b1, e1, f1, kh1, ka1, hb1, alt⟩ := lk_m d hj hv (n := n) (by omega) r.2.2.2.length 0 b h F G (by omega) hb p mr kh ka
    obtain ⟨h', F', G', b', e, f, kh', ka', hb', alt'⟩ := lk_c d hj hv k (n + 1) b1 h1 F1 G1 (by omega) hb1 (p.mf f1) (MR_lk mr f1) kh1 ka1
    refine ⟨h', F', G', b', ?_, f1.tr f, kh', ka', hb', ?_⟩
    · rw [E_M_layKinds_13, show zI 384 = zI ((384 : Nat) : Int) from rfl]
      simp (disch := omega) only [nlt]
      rw [if_pos (by omega), E_M_layKinds_14, show zI 20 = zI ((20 : Nat) : Int) from rfl, nmul, lt_e]
      refine Eq.trans e1 ?_
      rw [E_M_layKinds_27, nadd1, lt_e]
      exact e
    · rcases alt with ⟨rfl, rfl, rfl, s1⟩ | ⟨rfl, l1⟩
      · rcases alt' with ⟨a1, a2, a3, a4⟩ | ⟨a1, a2⟩
        · refine Or.inl ⟨a1, a2, a3, fun n' t' m i' h1 h2 h3 h4 => ?_⟩
          by_cases w : n' = n
          · subst w
            exact s1 t' m i' (Nat.zero_le _) h3 h4
          · exact a4 n' t' m i' (by omega) h2 h3 h4
        · exact Or.inr ⟨a1, a2⟩
      · rcases alt' with ⟨a1, a2, a3, a4⟩ | ⟨a1, a2⟩
        · exact Or.inr ⟨a3, by rw [a1, a2]; exact l1⟩
        · exact Or.inr ⟨a1, by omega⟩
def SB (r : Rdr) (F G : Nat → Nat) : Prop := ∀ (n t : Nat) (m : Mv) (i : Nat), n < 384 → r.2.2.2[t]? = some m → i < 4 → stb F G n m (nA i)
theorem lk_w (d : Nat) {j : Nat} {r : Rdr} (hj : j < 2) (hv : RV r) : ∀ (M : Nat) (h : AH) (F G : Nat → Nat), mu F G 384 = M → MS h → MR h j r → KH h F G → KA r F G →
    ∃ (h' : AH) (F' G' : Nat → Nat), Rk B_M_layKinds L_M_layKinds (Cc (d + 2)) 11 [aR (some 94), aI (zI j), aI (zI 1), aU, aU, aU, aU] [] h = some (none, h') ∧ lkf h h' ∧ KH h' F' G' ∧ KA r F' G' ∧ SB r F' G' := by
  intro M
  induction M using Nat.strongRecOn with
  | _ M ih =>
    intro h F G hM p mr kh ka
    obtain ⟨h1, F1, G1, b1, e1, f1, kh1, ka1, hb1, alt⟩ := lk_c d hj hv 384 0 0 h F G (by omega) (by omega) p mr kh ka
    have e0 : Rk B_M_layKinds L_M_layKinds (Cc (d + 2)) 11 [aR (some 94), aI (zI j), aI (zI 1), aU, aU, aU, aU] [] h = Rk B_M_layKinds L_M_layKinds (Cc (d + 2)) 11 [aR (some 94), aI (zI j), aI (zI b1), aU, aU, aU, aU] [] h1 := by
      rw [E_M_layKinds_11, if_neg (by decide), E_M_layKinds_12, lt_e, lt_e]
      refine Eq.trans e1 ?_
      rw [E_M_layKinds_28]
    rcases alt with ⟨rfl, rfl, rfl, s1⟩ | ⟨rfl, l1⟩
    · refine ⟨h1, F1, G1, ?_, f1, kh1, ka1, fun n t m i h1 h2 h3 => s1 n t m i (Nat.zero_le _) h1 h2 h3⟩
      rw [e0, E_M_layKinds_11, if_pos (show zI ((0 : Nat) : Int) = 0 from rfl), E_M_layKinds_29]
    · obtain ⟨h', F', G', e, f, q⟩ := ih (mu F1 G1 384) (by omega) h1 F1 G1 rfl (p.mf f1) (MR_lk mr f1) kh1 ka1
      exact ⟨h', F', G', by rw [e0]; exact e, f1.tr f, q⟩
theorem lk_0 (d : Nat) {j : Nat} {r : Rdr} (hj : j < 2) (hv : RV r) : ∀ (k n : Nat) (h : AH), n + k = 384 → MS h → MR h j r → (∀ x, x < n → hI h 123 x = zI ((if tks r (dK x).1 then 0 else 268435456 : Nat) : Int) ∧ hI h 124 x = zI ((if x = 0 then 1 else 0 : Nat) : Int)) →
    ∃ h', Rk B_M_layKinds L_M_layKinds (Cc (d + 2)) 1 [aR (some 94), aI (zI j), aI (zI n), aU, aU, aU, aU] [] h = Rk B_M_layKinds L_M_layKinds (Cc (d + 2)) 10 [aR (some 94), aI (zI j), aU, aU, aU, aU, aU] [] h' ∧ lkf h h' ∧ KH h' (fun x => if tks r (dK x).1 then 0 else 268435456) (fun x => if x = 0 then 1 else 0)
  | 0, n, h, hk, p, mr, hh => by
    refine ⟨h, ?_, lkf.rf h, fun x hx => hh x (by omega)⟩
    rw [E_M_layKinds_1, show zI 384 = zI ((384 : Nat) : Int) from rfl]
    simp (disch := omega) only [nlt]
    rw [if_neg (by omega)]
  | k + 1, n, h, hk, p, mr, hh => by
    have hl := hv.2.1
    have fin : ∀ v : Nat, v = (if tks r (dK n).1 then 0 else 268435456) → ∃ h', Rk B_M_layKinds L_M_layKinds (Cc (d + 2)) 6 [aR (some 94), aI (zI j), aI (zI n), aU, aU, aU, aU] [aI (zI v), aI (zI n), aR (some 123)] h = Rk B_M_layKinds L_M_layKinds (Cc (d + 2)) 10 [aR (some 94), aI (zI j), aU, aU, aU, aU, aU] [] h' ∧ lkf h h' ∧ KH h' (fun x => if tks r (dK x).1 then 0 else 268435456) (fun x => if x = 0 then 1 else 0) := by
      intro v hv'
      have f1 : lkf h (sI h 123 n (zI v)) := lkf_s (by omega) _ _
      have p1 := p.mf f1
      have f2 : lkf (sI h 123 n (zI v)) (sI (sI h 123 n (zI v)) 124 n (zI ((if n = 0 then 1 else 0 : Nat) : Int))) := lkf_s (by omega) _ _
      obtain ⟨h', e, f, q⟩ := lk_0 d hj hv k (n + 1) _ (by omega) (p1.mf f2) (MR_lk mr (f1.tr f2)) (by
        intro x hx
        by_cases w : x = n
        · subst w
          rw [hI_off (by omega), hI_hit, hI_hit, hv']
          exact ⟨rfl, rfl⟩
        · rw [hI_off (by omega), hI_off (by omega), hI_off (by omega), hI_off (by omega)]
          exact hh x (by omega))
      refine ⟨h', ?_, (f1.tr f2).tr f, q⟩
      rw [E_M_layKinds_6]
      simp (disch := omega) only [idx_n (z123 p.1), lt_e, obj_e (z94 p1.1), m37 p1, neq0]
      by_cases w : n = 0
      · rw [if_pos w] at e
        rw [if_pos w, E_M_layKinds_7, E_M_layKinds_9, if_pos (Or.inr (by decide))]
        simp (disch := omega) only [idx_n (z124 p1.1), lt_e, nadd1]
        exact e
      · rw [if_neg w] at e
        rw [if_neg w, E_M_layKinds_8, E_M_layKinds_9, if_pos (Or.inl (by decide))]
        simp (disch := omega) only [idx_n (z124 p1.1), lt_e, nadd1]
        exact e
    rw [E_M_layKinds_1, show zI 384 = zI ((384 : Nat) : Int) from rfl]
    simp (disch := omega) only [nlt]
    rw [if_pos (by omega), E_M_layKinds_2, obj_e (z94 p.1), if_neg (by decide), obj_e (z94 p.1), m0 p, m36 p]
    simp (disch := omega) only [idx_n (z95 p.1), mr.1, rem6, nlt]
    by_cases w : n % 6 < r.1
    · rw [if_pos w, E_M_layKinds_3, obj_e (z94 p.1), calI_e (M_isTaken _ p hj mr hv (by omega))]
      cases y : tks r (n % 6) with
      | true =>
        rw [if_pos rfl, if_neg (by decide), E_M_layKinds_4, zc0]
        exact fin 0 (by rw [show (dK n).1 = n % 6 from rfl, y]; rfl)
      | false =>
        rw [if_neg (show ¬ (false = true) by simp), if_pos zI_0.symm, E_M_layKinds_5]
        exact fin 268435456 (by rw [show (dK n).1 = n % 6 from rfl, y]; rfl)
    · rw [if_neg w, E_M_layKinds_5]
      refine fin 268435456 ?_
      have : tks r (dK n).1 = false := by
        rw [tks_b]
        apply Nat.testBit_lt_two_pow
        exact Nat.lt_of_lt_of_le hv.2.2.2.1 (Nat.pow_le_pow_right (by omega) (show r.1 ≤ n % 6 by omega))
      rw [this]; rfl
def FV (r : Rdr) (F : Nat → Nat) : Prop := ∀ c, K4 c → (∃ n, dmn r n c ∧ F (eK c) = n ∧ n < 384) ∨ ((∀ n, ¬ dst r n c) ∧ F (eK c) = 268435456)
def GV (r : Rdr) (G : Nat → Nat) : Prop := ∀ c, K4 c → G (eK c) ≤ 1 ∧ (G (eK c) = 1 ↔ rch r c)
theorem SB_g {r : Rdr} {F G : Nat → Nat} (sb : SB r F G) {c c' : Cfg} {m : Mv} (hc : K4 c) (hm : m ∈ r.2.2.2) (g : gst m c c') : F (eK c) ≤ F (eK c') + 1 ∧ (G (eK c) = 1 → G (eK c') = 1) := by
  have hb := hc
  unfold K4 at hb
  obtain ⟨t, ht⟩ := List.getElem?_of_mem hm
  obtain ⟨g1, y, y1, y2, y3, y4⟩ := (gst_w (w := 9) (by omega) (by omega) (by omega) (by omega)).mp g
  obtain ⟨i, hi, hy⟩ : ∃ i, i < 4 ∧ nA i = y := by
    rcases y2 with q | q
    · exact ⟨3, by omega, q.symm⟩
    · refine ⟨y - 1, by omega, ?_⟩
      unfold nA
      rw [if_pos (by omega)]; omega
  have := sb (eK c) t m i (eK_lt hc) ht hi
  unfold stb at this
  rw [dK_e hc, hy] at this
  rw [y4]
  exact this (by unfold isN; omega) (cBy_t.mpr ⟨g1, y3⟩)
theorem M_layKinds (d : Nat) {j : Nat} {r : Rdr} {h : AH} (hj : j < 2) (hv : RV r) (p : MS h) (mr : MR h j r) : ∃ (h' : AH) (F G : Nat → Nat), Cc (d + 3) k_M_layKinds [aR (some 94), aI (zI j)] h = some (none, h') ∧ lkf h h' ∧ KH h' F G ∧ FV r F ∧ GV r G := by
  obtain ⟨h1, e1, f1, kh1⟩ := lk_0 d hj hv 384 0 h (by omega) p mr (fun x hx => absurd hx (Nat.not_lt_zero _))
  obtain ⟨h', F, G, e, f, kh, ka, sb⟩ := lk_w d hj hv _ h1 _ _ rfl (p.mf f1) (MR_lk mr f1) kh1 ⟨rfl, fun n hn => by
    simp only
    refine ⟨by split <;> omega, ?_, fun q => by rw [if_pos q], by split <;> omega, ?_⟩
    · intro q
      cases y : tks r (dK n).1 with
      | true => rw [if_pos rfl]; exact y
      | false => rw [y, if_neg (show ¬ (false = true) by simp)] at q; omega
    · intro q
      by_cases w : n = 0
      · subst w; exact rch_0 r
      · rw [if_neg w] at q; omega⟩
  refine ⟨h', F, G, ?_, f1.tr f, kh, ?_, ?_⟩
  · rw [C_M_layKinds, E_M_layKinds_0, lt_e]
    refine Eq.trans e1 ?_
    rw [E_M_layKinds_10, lt_e]
    exact e
  · have ub : ∀ k c, K4 c → dst r k c → F (eK c) ≤ k := by
      intro k
      induction k with
      | zero =>
        intro c hc hd
        have := (ka.2 (eK c) (eK_lt hc)).2.2.1
        rw [dK_e hc] at this
        have := this hd
        omega
      | succ k ih =>
        rintro c hc ⟨m, hm, c', g, hd⟩
        have := (SB_g sb hc hm g).1
        have := ih c' (KV_g hv hm g).le hd
        omega
    intro c hc
    obtain ⟨q1, q2, -⟩ := ka.2 (eK c) (eK_lt hc)
    rw [dK_e hc] at q2
    by_cases w : ∃ n, dmn r n c
    · obtain ⟨n, hn⟩ := w
      have hlt := dmn_lt hv n (kn c) (KV_kn hc.1) ((dmn_sim (kn_sim c) n).mp hn)
      have h1 := ub n c hc hn.1
      refine Or.inl ⟨n, hn, ?_, hlt⟩
      rcases Nat.lt_or_ge (F (eK c)) n with z | z
      · exact absurd (q2 (by omega)) (hn.2 _ z)
      · omega
    · have hno : ∀ n, ¬ dst r n c := fun n hn => by
        obtain ⟨k, -, hk⟩ := dmn_ex n hn
        exact w ⟨k, hk⟩
      refine Or.inr ⟨hno, ?_⟩
      rcases Nat.lt_or_ge (F (eK c)) 268435456 with z | z
      · exact absurd (q2 z) (hno _)
      · omega
  · intro c hc
    obtain ⟨-, -, -, q4, q5⟩ := ka.2 (eK c) (eK_lt hc)
    rw [dK_e hc] at q5
    refine ⟨q4, q5, fun hr => ?_⟩
    have := rch_min (P := fun c => K4 c ∧ G (eK c) = 1) ⟨KV_0.le, ka.1⟩ (fun m c c' h1 hm g => ⟨(KV_g hv hm g).le, (SB_g sb h1.1 hm g).2 h1.2⟩) c hr
    exact this.2
