/-! the model: runs -/
def lF : Nat → Nat → Prop := fun _ _ => False
theorem runs_l1 (d : Nat) {j k l : Nat} {r : Rdr} {w : Rw} {q : Int × Int} {W g : Cfg → Nat} {cs L : List Cfg} (nd : L.Nodup) (hv : RV r) (hj : j < 2) (hw : WV w) (hq : w[k]? = some q) (hl : q.1 = (l : Int)) (hl3 : l < 3) (hcs : ∀ c, c ∈ cs ↔ rq r (prs w k) c) (hL : ∀ c', c' ∈ L ↔ rq r (prs w (k + 1)) c') (hWm : ∀ c, W c ≤ MANY) : ∀ (n i : Nat) (h : AH) (W' : Cfg → Nat), i + n = cs.length → MS h → MR h j r → MW h w → IDS h w → ML h k cs → WY h W W' → (∀ c, W' c ≤ MANY) → (∀ c, c ∉ L → W' c = 0) →
    ∃ h' W'', Rk B_M_runs L_M_runs (Cc (d + 2)) 10 [aR (some 94), aI (zI j), aI (zI k), aI (zI i), aU, aU, aU] [] h = Rk B_M_runs L_M_runs (Cc (d + 2)) 20 [aR (some 94), aI (zI j), aI (zI k), aU, aU, aU, aU] [] h' ∧ lfr h h' ∧ WY h' W W'' ∧ (∀ c, W'' c ≤ MANY) ∧ (∀ c, c ∉ L → W'' c = 0) ∧ ∀ B, min MANY (sums (fun d => W'' d * g d) L + B) = min MANY (sums (fun d => W' d * g d) L + (sums (fun c => W c * sums (fun m => if canB m c l (idn w q.2) then g (goC m c (idn w q.2)) else 0) r.2.2.2) (cs.drop i) + B))
  | 0, i, h, W', hn, p, mr, mw, ids, ml, wy, hm, h0 => by
    have hLn := c12_len ml.1 ml.2.1
    have hwl := hw.1
    obtain ⟨v0, v00, -⟩ := hw.at hq
    refine ⟨h, W', ?_, lfr.rf h, wy, hm, h0, fun B => by rw [List.drop_eq_nil_of_le (by omega)]; simp [sums]⟩
    rw [E_M_runs_10]
    simp (disch := omega) only [obj_e (z94 p.1), m27 p, idx_n (z115 p.1), ml.2.2.1, nlt]
    rw [if_neg (by omega)]
  | n + 1, i, h, W', hn, p, mr, mw, ids, ml, wy, hm, h0 => by
    have hLn := c12_len ml.1 ml.2.1
    have hwl := hw.1
    obtain ⟨v0, v00, -⟩ := hw.at hq
    have hci : cs[i]? = some cs[i] := List.getElem?_eq_getElem (by omega)
    have hrq := (hcs cs[i]).mp (List.getElem_mem (by omega))
    obtain ⟨h1, W1, e1, f1, a1, a2, a3, a4⟩ := runs_in d (i0 := i) (g := g) nd hv hj hw hq hl hl3 hL hWm hrq r.2.2.2 [] h W' rfl p mr mw ids wy hm h0
    obtain ⟨h2, W2, e2, f2, b1, b2, b3, b4⟩ := runs_l1 d (g := g) nd hv hj hw hq hl hl3 hcs hL hWm n (i + 1) h1 W1 (by omega) (p.mf (f1.m lF)) (mr.mv (f1.m lF) (by intro a i _ _ z; exact z)) (mw.mv (f1.m lF) id (fun _ => id) (fun _ => id)) (fun t q hq => by rw [f1.2.2.1]; exact ids t q hq) (ml.mv (f1.m lF) id (fun _ _ => id)) a1 a2 a3
    refine ⟨h2, W2, ?_, f1.tr f2, b1, b2, b3, fun B => ?_⟩
    · rw [E_M_runs_10]
      simp (disch := omega) only [obj_e (z94 p.1), m27 p, idx_n (z115 p.1), ml.2.2.1, nlt]
      rw [if_pos (by omega), E_M_runs_11, show zI 24600 * zI (k : Int) + zI (i : Int) = zI ((24600 * k + i : Nat) : Int) from by rw [zI_mul, zI_add]; rfl]
      simp (disch := omega) only [obj_e (z94 p.1), m26 p, idx_n (z114 p.1), ml.2.2.2 i _ hci, lt_e]
      rw [show zI 20 * zI (j : Int) = zI ((20 * j + ([] : List Mv).length : Nat) : Int) from by rw [zI_mul]; rfl, e1, E_M_runs_19, lt_e, nadd1]
      exact e2
    · rw [b4 B, a4, show cs.drop i = cs[i] :: cs.drop (i + 1) from List.drop_eq_getElem_cons (by omega), sums]
      congr 1
      omega
/-- the old ways go -/
theorem runs_l2 (d : Nat) {j k : Nat} {W' : Cfg → Nat} {cs : List Cfg} (hk : k ≤ 12) : ∀ (n i : Nat) (h : AH) (W : Cfg → Nat), i + n = cs.length → MS h → ML h k cs → WY h W W' → (∀ c, c ∉ cs.drop i → W c = 0) →
    ∃ h', Rk B_M_runs L_M_runs (Cc (d + 2)) 21 [aR (some 94), aI (zI j), aI (zI k), aI (zI i), aU, aU, aU] [] h = Rk B_M_runs L_M_runs (Cc (d + 2)) 23 [aR (some 94), aI (zI j), aI (zI k), aU, aU, aU, aU] [] h' ∧ lfr h h' ∧ WY h' (fun _ => 0) W'
  | 0, i, h, W, hn, p, ml, wy, h0 => by
    have hLn := c12_len ml.1 ml.2.1
    refine ⟨h, ?_, lfr.rf h, fun c hc => ?_⟩
    · rw [E_M_runs_21]
      simp (disch := omega) only [obj_e (z94 p.1), m27 p, idx_n (z115 p.1), ml.2.2.1, nlt]
      rw [if_neg (by omega)]
    · rw [← h0 c (by rw [List.drop_eq_nil_of_le (by omega)]; simp)]; exact wy c hc
  | n + 1, i, h, W, hn, p, ml, wy, h0 => by
    have hLn := c12_len ml.1 ml.2.1
    have hci : cs[i]? = some cs[i] := List.getElem?_eq_getElem (by omega)
    have h12 := ml.2.1 cs[i] (List.getElem_mem (by omega))
    have hlt := eM_lt h12.m
    have f1 : lfr h (sL h 117 (eM cs[i]) (zL ((0 : Nat) : Int))) := lfr_sL h (Or.inl rfl) _ _
    obtain ⟨h2, e2, f2, a2⟩ := runs_l2 d (j := j) hk n (i + 1) _ _ (by omega) (p.mf (f1.m lF)) (ml.mv (f1.m lF) id (fun _ _ => id)) (WY_k wy h12.m 0) (by
      intro c hc
      unfold upW
      by_cases z : c = cs[i]
      · rw [if_pos z]
      · rw [if_neg z]
        apply h0
        rw [List.drop_eq_getElem_cons (by omega), List.mem_cons]
        rintro (y | y)
        · exact z y
        · exact hc y)
    refine ⟨h2, ?_, f1.tr f2, a2⟩
    rw [E_M_runs_21]
    simp (disch := omega) only [obj_e (z94 p.1), m27 p, idx_n (z115 p.1), ml.2.2.1, nlt]
    rw [if_pos (by omega), E_M_runs_22, show zI 24600 * zI (k : Int) + zI (i : Int) = zI ((24600 * k + i : Nat) : Int) from by rw [zI_mul, zI_add]; rfl]
    simp (disch := omega) only [obj_e (z94 p.1), m26 p, m30 p, idx_n (z114 p.1), ml.2.2.2 i _ hci, idx_n (z117 p.1), lt_e, nadd1]
    exact e2
/-- the new ways come -/
theorem runs_l3 (d : Nat) {j k : Nat} {V : Cfg → Nat} {L : List Cfg} (hk : k < 12) (hV : ∀ c, c ∉ L → V c = 0) : ∀ (n i : Nat) (h : AH) (W W' : Cfg → Nat), i + n = L.length → MS h → ML h (k + 1) L → WY h W W' → (∀ c, c ∈ L.drop i → W' c = V c) → (∀ c, c ∉ L.drop i → W c = V c ∧ W' c = 0) →
    ∃ h', Rk B_M_runs L_M_runs (Cc (d + 2)) 24 [aR (some 94), aI (zI j), aI (zI k), aI (zI i), aU, aU, aU] [] h = Rk B_M_runs L_M_runs (Cc (d + 2)) 26 [aR (some 94), aI (zI j), aI (zI k), aU, aU, aU, aU] [] h' ∧ lfr h h' ∧ WY h' V (fun _ => 0)
  | 0, i, h, W, W', hn, p, ml, wy, h1, h2 => by
    have hLn := c12_len ml.1 ml.2.1
    refine ⟨h, ?_, lfr.rf h, fun c hc => ?_⟩
    · rw [E_M_runs_24]
      simp (disch := omega) only [obj_e (z94 p.1), m27 p, nadd1, idx_n (z115 p.1), ml.2.2.1, nlt]
      rw [if_neg (by omega)]
    · obtain ⟨a, b⟩ := h2 c (by rw [List.drop_eq_nil_of_le (by omega)]; simp)
      rw [← a, ← b]; exact wy c hc
  | n + 1, i, h, W, W', hn, p, ml, wy, h1, h2 => by
    have hLn := c12_len ml.1 ml.2.1
    have hci : L[i]? = some L[i] := List.getElem?_eq_getElem (by omega)
    have h12 := ml.2.1 L[i] (List.getElem_mem (by omega))
    have hlt := eM_lt h12.m
    have hdr : L.drop i = L[i] :: L.drop (i + 1) := List.drop_eq_getElem_cons (by omega)
    have hni : L[i] ∉ L.drop (i + 1) := by
      have : (L.drop i).Nodup := ml.1.sublist (List.drop_sublist _ _)
      rw [hdr, List.nodup_cons] at this
      exact this.1
    have hW : W' L[i] = V L[i] := h1 _ (by rw [hdr]; exact List.mem_cons_self)
    have f1 : lfr h (sL (sL h 117 (eM L[i]) (zL (V L[i]))) 118 (eM L[i]) (zL ((0 : Nat) : Int))) := (lfr_sL h (Or.inl rfl) _ _).tr (lfr_sL _ (Or.inr rfl) _ _)
    obtain ⟨h3, e3, f3, a3⟩ := runs_l3 d (j := j) hk hV n (i + 1) _ _ _ (by omega) (p.mf (f1.m lF)) (ml.mv (f1.m lF) id (fun _ _ => id)) (WY_l (WY_k wy h12.m (V L[i])) h12.m 0) (by
      intro c hc
      unfold upW
      rw [if_neg (fun (e : c = L[i]) => hni (e ▸ hc))]
      exact h1 c (by rw [hdr]; exact List.mem_cons_of_mem _ hc)) (by
      intro c hc
      unfold upW
      by_cases z : c = L[i]
      · rw [if_pos z, if_pos z, z]; exact ⟨rfl, rfl⟩
      · rw [if_neg z, if_neg z]
        apply h2
        rw [hdr, List.mem_cons]
        rintro (y | y)
        · exact z y
        · exact hc y)
    refine ⟨h3, ?_, f1.tr f3, a3⟩
    rw [E_M_runs_24]
    simp (disch := omega) only [obj_e (z94 p.1), m27 p, nadd1, idx_n (z115 p.1), ml.2.2.1, nlt]
    rw [if_pos (by omega), E_M_runs_25, show zI 24600 * (zI (k : Int) + zI 1) + zI (i : Int) = zI ((24600 * (k + 1) + i : Nat) : Int) from by rw [zI_add, zI_mul, zI_add]; rfl]
    simp (disch := omega) only [obj_e (z94 p.1), m26 p, m30 p, m31 p, idx_n (z114 p.1), ml.2.2.2 i _ hci, idx_n (z117 p.1), idx_n (z118 p.1), lt_e, obj_sL, hR_sL, idx_sL, (wy _ h12.m).2, hW, nadd1]
    exact e3
/-- behind all pairs: the sum -/
theorem runs_l4 (d : Nat) {j : Nat} {r : Rdr} {w : Rw} {W : Cfg → Nat} {cs : List Cfg} {h : AH} (hv : RV r) (hj : j < 2) (hw : WV w) (hWm : ∀ c, W c ≤ MANY) (p : MS h) (mr : MR h j r) (mw : MW h w) (ml : ML h w.length cs) (wy : WY h W (fun _ => 0)) : ∀ (n i v : Nat), i + n = cs.length → v ≤ MANY → Rk B_M_runs L_M_runs (Cc (d + 2)) 28 [aR (some 94), aI (zI j), aL (zL v), aU, aI (zI i), aU, aU] [] h = some (some (aI (zI (min MANY (v + sums (fun c => W c * (if tks r c.1 then 1 else 0)) (cs.drop i)) : Nat))), h)
  | 0, i, v, hn, hv2 => by
    have hLn := c12_len ml.1 ml.2.1
    have hwl := hw.1
    have hM : MANY = 1000000001 := rfl
    rw [E_M_runs_28]
    simp (disch := omega) only [obj_e (z94 p.1), m27 p, mw.1, idx_n (z115 p.1), ml.2.2.1, nlt]
    rw [if_neg (by omega), E_M_runs_36, List.drop_eq_nil_of_le (by omega)]
    have e : Int64.toInt32 (zL v) = zI v := by
      apply Int32.toInt_inj.mp
      rw [zI_toInt (by omega) (by omega), Int64.toInt_toInt32, zL_toInt (by omega) (by omega)]
      rw [Int.bmod_eq_of_le (by omega) (by omega)]
    rw [e]
    simp only [sums, Nat.add_zero]
    rw [Nat.min_eq_right hv2]
  | n + 1, i, v, hn, hv2 => by
    have hLn := c12_len ml.1 ml.2.1
    have hwl := hw.1
    have hM : MANY = 1000000001 := rfl
    have hci : cs[i]? = some cs[i] := List.getElem?_eq_getElem (by omega)
    have h12 := ml.2.1 cs[i] (List.getElem_mem (by omega))
    have hlt := eM_lt h12.m
    have b1 := hWm cs[i]
    rw [E_M_runs_28]
    simp (disch := omega) only [obj_e (z94 p.1), m27 p, mw.1, idx_n (z115 p.1), ml.2.2.1, nlt]
    rw [if_pos (by omega), E_M_runs_29]
    simp only [obj_e (z94 p.1), mw.1]
    rw [show zI 24600 * zI (w.length : Int) + zI (i : Int) = zI ((24600 * w.length + i : Nat) : Int) from by rw [zI_mul, zI_add]; rfl]
    simp (disch := omega) only [m26 p, idx_n (z114 p.1), ml.2.2.2 i _ hci, lt_e, obj_e (z94 p.1)]
    rw [calI_e (M_isTaken _ p hj mr hv (by omega)), if01, eM_q h12.m, List.drop_eq_getElem_cons (by omega), sums]
    have b32 : ∀ a : Nat, a ≤ MANY → Rk B_M_runs L_M_runs (Cc (d + 2)) 32 [aR (some 94), aI (zI j), aU, aU, aI (zI i), aU, aU] [aL (zL a), aL (zL v)] h = some (some (aI (zI (min MANY (v + (a + sums (fun c => W c * (if tks r c.1 then 1 else 0)) (cs.drop (i + 1)))) : Nat))), h) := by
      intro a ha
      rw [E_M_runs_32, lt_e, zL_add]
      simp (disch := omega) only [lg_le]
      by_cases z : (v : Int) + a ≤ 1000000001
      · rw [if_pos z, E_M_runs_34, E_M_runs_35, lt_e, lt_e, nadd1]
        have := runs_l4 d hv hj hw hWm p mr mw ml wy n (i + 1) (v + a) (by omega) (by omega)
        rw [Nat.add_assoc] at this
        exact this
      · rw [if_neg z, E_M_runs_33, E_M_runs_35, lt_e, lt_e, nadd1]
        have := runs_l4 d hv hj hw hWm p mr mw ml wy n (i + 1) MANY (by omega) (by omega)
        rw [show min MANY (v + (a + sums (fun c => W c * (if tks r c.1 then 1 else 0)) (cs.drop (i + 1)))) = min MANY (MANY + sums (fun c => W c * (if tks r c.1 then 1 else 0)) (cs.drop (i + 1))) from by omega]
        exact this
    cases y : tks r cs[i].1 with
    | true =>
      rw [if_pos rfl, E_M_runs_30]
      simp (disch := omega) only [obj_e (z94 p.1), m30 p, idx_n (z117 p.1), (wy _ h12.m).1]
      rw [b32 _ b1]
      simp
    | false =>
      rw [if_neg (by simp), E_M_runs_31]
      have := b32 0 (by omega)
      simp only [Nat.zero_add] at this
      simp
      exact this
theorem nr_s {r : Rdr} {w : Rw} {k l : Nat} {q : Int × Int} (hq : w[k]? = some q) (hl : q.1 = (l : Int)) (c : Cfg) : nr r (sfx w k) c = sums (fun m => if canB m c l (idn w q.2) then nr r (sfx w (k + 1)) (goC m c (idn w q.2)) else 0) r.2.2.2 := by
  rw [sfx_s hq, hl]; rfl
/-- the pairs one behind another -/
theorem runs_lp (d : Nat) {j : Nat} {r : Rdr} {w : Rw} (hv : RV r) (hj : j < 2) (hw : WV w) (hg : gaps w = 0) : ∀ (n k : Nat) (h : AH) (W : Cfg → Nat), k + n = w.length → MS h → MR h j r → MW h w → IDS h w → MLS h r w w.length → WY h W (fun _ => 0) → (∀ c, W c ≤ MANY) → (∀ cs, ML h k cs → (∀ c, c ∈ cs ↔ rq r (prs w k) c) → (∀ c, c ∉ cs → W c = 0) ∧ min MANY (sums (fun c => W c * nr r (sfx w k) c) cs) = min MANY (nr r (sfx w 0) c0)) →
    ∃ h', Rk B_M_runs L_M_runs (Cc (d + 2)) 8 [aR (some 94), aI (zI j), aI (zI k), aU, aU, aU, aU] [] h = some (some (aI (zI (min MANY (nr r (sfx w 0) c0) : Nat))), h') ∧ lfr h h'
  | 0, k, h, W, hn, p, mr, mw, ids, mls, wy, hWm, hs => by
    have hwl := hw.1
    have hk : k = w.length := by omega
    obtain ⟨cs, ml, hcs⟩ := mls k (by omega)
    obtain ⟨s1, s2⟩ := hs cs ml hcs
    subst hk
    refine ⟨h, ?_, lfr.rf h⟩
    rw [E_M_runs_8, obj_e (z94 p.1), mw.1]
    simp (disch := omega) only [nlt]
    rw [if_neg (by omega), E_M_runs_27, lt_e, lt_e]
    have := runs_l4 d hv hj hw hWm p mr mw ml wy cs.length 0 0 (by omega) (by omega)
    rw [List.drop_zero, Nat.zero_add] at this
    rw [← s2, sfx_n]
    exact this
  | n + 1, k, h, W, hn, p, mr, mw, ids, mls, wy, hWm, hs => by
    have hwl := hw.1
    have hq : w[k]? = some w[k] := List.getElem?_eq_getElem (by omega)
    obtain ⟨v0, v00, v1, v2, v3, v4⟩ := hw.at hq
    obtain ⟨n1, n2⟩ := nogap hg hq
    obtain ⟨l, hl2⟩ : ∃ l : Nat, w[k].1 = l := ⟨w[k].1.toNat, by omega⟩
    obtain ⟨cs, ml, hcs⟩ := mls k (by omega)
    obtain ⟨L, mlL, hL⟩ := mls (k + 1) (by omega)
    obtain ⟨s1, s2⟩ := hs cs ml hcs
    obtain ⟨h1, V, e1, f1, a1, a2, a3, a4⟩ := runs_l1 d (g := fun c => nr r (sfx w (k + 1)) c) (cs := cs) (L := L) mlL.1 hv hj hw hq hl2 (by omega) hcs hL hWm cs.length 0 h _ (by omega) p mr mw ids ml wy (fun _ => Nat.zero_le _) (fun _ _ => rfl)
    have p1 := p.mf (f1.m lF)
    obtain ⟨h2, e2, f2, b2⟩ := runs_l2 d (j := j) (k := k) (by omega) cs.length 0 h1 W (by omega) p1 (ml.mv (f1.m lF) id (fun _ _ => id)) a1 (by rw [List.drop_zero]; exact s1)
    have f12 := f1.tr f2
    have p2 := p.mf (f12.m lF)
    obtain ⟨h3, e3, f3, b3⟩ := runs_l3 d (j := j) (k := k) (V := V) (L := L) (by omega) a3 L.length 0 h2 (fun _ => 0) V (by omega) p2 (mlL.mv (f12.m lF) id (fun _ _ => id)) b2 (fun _ _ => rfl) (by
      rw [List.drop_zero]; intro c hc; exact ⟨(a3 c hc).symm, a3 c hc⟩)
    have f13 := f12.tr f3
    obtain ⟨h4, e4, f4⟩ := runs_lp d hv hj hw hg n (k + 1) h3 V (by omega) (p.mf (f13.m lF)) (mr.mv (f13.m lF) (by intro a i _ _ z; exact z)) (mw.mv (f13.m lF) id (fun _ => id) (fun _ => id)) (fun t q hq => by rw [f13.2.2.1]; exact ids t q hq) (fun D hD => by
        obtain ⟨cs', c1, c2⟩ := mls D hD
        exact ⟨cs', c1.mv (f13.m lF) id (fun _ _ => id), c2⟩) b3 a2 (by
      intro cs' ml' hcs'
      refine ⟨fun c hc => a3 c (fun z => hc ((hcs' c).mpr ((hL c).mp z))), ?_⟩
      have hsame : ∀ (f : Cfg → Nat) (A B : List Cfg), A.Nodup → B.Nodup → (∀ c, c ∈ A ↔ c ∈ B) → sums f A = sums f B := by
        intro f A
        induction A with
        | nil =>
          intro B _ _ hh
          cases B with
          | nil => rfl
          | cons b B => exact absurd ((hh b).mpr List.mem_cons_self) (by simp)
        | cons a A ih =>
          intro B nA nB hh
          have ha : a ∈ B := (hh a).mp List.mem_cons_self
          rw [List.nodup_cons] at nA
          rw [sums_er B ha, sums, ih (B.erase a) nA.2 (nB.erase a) (fun c => by
            rw [List.Nodup.mem_erase_iff nB, ← hh c, List.mem_cons]
            constructor
            · intro hc; exact ⟨fun e => nA.1 (e ▸ hc), Or.inr hc⟩
            · rintro ⟨h1, h2 | h2⟩
              · exact absurd h2 h1
              · exact h2)]
          omega
      rw [hsame _ cs' L ml'.1 mlL.1 (fun c => (hcs' c).trans (hL c).symm)]
      have := a4 0
      rw [Nat.add_zero, Nat.add_zero] at this
      rw [this, List.drop_zero, ← s2]
      rw [sums_0 (f := fun d => 0 * nr r (sfx w (k + 1)) d) L (fun a _ => Nat.zero_mul _), Nat.zero_add]
      congr 1
      exact sums_c cs (fun c _ => by rw [nr_s hq hl2]))
    refine ⟨h4, ?_, f13.tr f4⟩
    rw [E_M_runs_8, obj_e (z94 p.1), mw.1]
    simp (disch := omega) only [nlt]
    rw [if_pos (by omega), E_M_runs_9, lt_e, zc0, e1, E_M_runs_20, lt_e, zc0, e2, E_M_runs_23, lt_e, zc0, e3, E_M_runs_26, lt_e, nadd1]
    exact e4
/-- all ways are wiped -/
theorem runs_w (d : Nat) {j : Nat} : ∀ (n i : Nat) (h : AH), i + n = 29478 → MS h → (∀ t, t < i → hL h 117 t = zL 0 ∧ hL h 118 t = zL 0) →
    ∃ h', Rk B_M_runs L_M_runs (Cc d) 5 [aR (some 94), aI (zI j), aI (zI i), aU, aU, aU, aU] [] h = Rk B_M_runs L_M_runs (Cc d) 7 [aR (some 94), aI (zI j), aU, aU, aU, aU, aU] [] h' ∧ lfr h h' ∧ ∀ t, t < 29478 → hL h' 117 t = zL 0 ∧ hL h' 118 t = zL 0
  | 0, i, h, hn, p, hz => by
    refine ⟨h, ?_, lfr.rf h, fun t ht => hz t (by omega)⟩
    rw [E_M_runs_5, show zI 29478 = zI ((29478 : Nat) : Int) from rfl]
    simp (disch := omega) only [nlt]
    rw [if_neg (by omega)]
  | n + 1, i, h, hn, p, hz => by
    have f1 : lfr h (sL (sL h 117 i (zL 0)) 118 i (zL 0)) := (lfr_sL h (Or.inl rfl) _ _).tr (lfr_sL _ (Or.inr rfl) _ _)
    obtain ⟨h2, e2, f2, a2⟩ := runs_w d (j := j) n (i + 1) _ (by omega) (p.mf (f1.m lF)) (by
      intro t ht
      by_cases z : t = i
      · subst z; rw [hL_off (by omega), hL_hit, hL_hit]; exact ⟨rfl, rfl⟩
      · rw [hL_off (by omega), hL_off (by omega), hL_off (by omega), hL_off (by omega)]; exact hz t (by omega))
    refine ⟨h2, ?_, f1.tr f2, a2⟩
    rw [E_M_runs_5, show zI 29478 = zI ((29478 : Nat) : Int) from rfl]
    simp (disch := omega) only [nlt]
    rw [if_pos (by omega), E_M_runs_6]
    simp (disch := omega) only [obj_e (z94 p.1), m30 p, m31 p, idx_n (z117 p.1), idx_n (z118 p.1), lt_e, obj_sL, hR_sL, idx_sL, nadd1]
    exact e2
theorem M_runs {x : Int} (x1 : -2147483648 ≤ x) (x2 : x < 2147483648) : MOK k_M_runs [aI (zI x)] (fun s => if x = 0 ∨ x = 1 then (if gaps s.2.2.2 = 0 then ((min MANY (nr (rdr s x) (sfx s.2.2.2 0) c0) : Nat) : Int) else -4) else -2) id := by
  intro s k h hk v p
  have hw := v.2.2.2
  have hg := gaps_le hw s.2.2.2.length
  rw [List.take_length] at hg
  have hl := hw.1
  rw [C_M_runs, E_M_runs_0, calI_e (M_isReader _ h x1 x2), if01]
  by_cases a1 : x = 0 ∨ x = 1
  · simp only [if_pos a1]
    rw [E_M_runs_2, obj_e (z94 p.1.1), calI_e (M_gapPairs _ hw p.1 p.2.2.2.2.1)]
    simp (disch := omega) only [nle0]
    by_cases a2 : gaps s.2.2.2 = 0
    · simp only [if_pos a2, if_pos ((gaps0 _).mp a2)]
      obtain ⟨h1, u, e1, f1, mls, -, ids, -, -, p1⟩ := M_goAll 55 a1 hk v p a2
      obtain ⟨j, rfl⟩ : ∃ j : Nat, x = j := ⟨x.toNat, by omega⟩
      obtain ⟨h2, e2, f2, z2⟩ := runs_w 59 (j := j) 29478 0 h1 (by omega) p1.1 (by intro t ht; omega)
      have p2 := p1.1.mf (f2.m lF)
      have f3 : lfr h2 (sL h2 117 0 (zL ((1 : Nat) : Int))) := lfr_sL h2 (Or.inl rfl) _ _
      have f23 := f2.tr f3
      have mr := p1.mr a1
      rw [Int.toNat_natCast] at mr
      have wy0 : WY h2 (fun _ => 0) (fun _ => 0) := fun c hc => z2 _ (eM_lt hc)
      have wy1 := WY_k wy0 (c := c0) ⟨by decide, by decide, by decide, by decide⟩ 1
      obtain ⟨h4, e4, f4⟩ := runs_lp 57 (v.rv j) (by omega : j < 2) hw a2 s.2.2.2.length 0 (sL h2 117 0 (zL ((1 : Nat) : Int))) (upW (fun _ => 0) c0 1) (by omega) (p1.1.mf (f23.m lF)) (mr.mv (f23.m lF) (by intro a i _ _ z; exact z)) (p1.2.2.2.2.1.mv (f23.m lF) id (fun _ => id) (fun _ => id)) (fun t q hq => by rw [f23.2.2.1]; exact ids t q hq) (fun D hD => by
          obtain ⟨cs', c1, c2⟩ := mls D hD
          exact ⟨cs', c1.mv (f23.m lF) id (fun _ _ => id), c2⟩) wy1 (by
        intro c; unfold upW; split
        · decide
        · exact Nat.zero_le _) (by
        intro cs ml hcs
        have hc0 : c0 ∈ cs := (hcs c0).mpr rfl
        refine ⟨fun c hc => by unfold upW; rw [if_neg (fun (e : c = c0) => hc (e ▸ hc0))], ?_⟩
        rw [sums_er cs hc0, sums_0 (cs.erase c0) (fun c hc => by
          have := (List.Nodup.mem_erase_iff ml.1).mp hc
          unfold upW; rw [if_neg this.1, Nat.zero_mul])]
        unfold upW
        rw [if_pos rfl, Nat.zero_add, Nat.one_mul])
      have f24 := f23.tr f4
      refine ⟨h4, ?_, (f1.mo (by intro a j; unfold fL; omega)).tr (f24.m _), p1.mv (f24.m lF) (by intro a i z; exact absurd z id)⟩
      rw [E_M_runs_4, obj_e (z94 p.1.1), calV_e e1, lt_e, zc0, e2, E_M_runs_7]
      simp (disch := omega) only [obj_e (z94 p2.1), m30 p2]
      rw [zc0]
      simp (disch := omega) only [idx_n (z117 p2.1), lt_e]
      exact e4
    · simp only [if_neg a2, if_neg (fun z => a2 ((gaps0 _).mpr z))]
      exact ⟨h, by rw [E_M_runs_3], mfr.rf _ h, p.up⟩
  · simp only [if_neg a1]
    exact ⟨h, by rw [E_M_runs_1], mfr.rf _ h, p.up⟩
