/-! the reference: shapes, a pair and what is behind it -/
theorem rq_goOn {r : Rdr} {u : List (Nat × Nat)} {cs cs' : List Cfg} {l x : Nat} (hcs : ∀ c, c ∈ cs ↔ rq r u c) (h : ∀ c', c' ∈ cs' ↔ ∃ c, c ∈ cs ∧ stq r c l x c') : ∀ c', c' ∈ cs' ↔ rq r ((l, x) :: u) c' := by
  intro c'
  rw [h c']
  constructor
  · rintro ⟨c, h1, h2⟩; exact ⟨c, (hcs c).mp h1, h2⟩
  · rintro ⟨c, h1, h2⟩; exact ⟨c, (hcs c).mpr h1, h2⟩
theorem MU.mv {F : Nat → Nat → Prop} {h h' : AH} {u : Nat} (p : MU h u) (f : mfr F h h') (n : ¬ F 94 29) (n2 : ∀ i, ¬ F 116 i) : MU h' u := ⟨p.1, by rw [f.I n]; exact p.2.1, fun j hj => by rw [f.I (n2 j)]; exact p.2.2 j hj⟩
theorem VIS_x (d : Nat) {j n l asked m : Nat} {r : Rdr} (hv : RV r) (hj : j < 2) (hl : l ≤ 3) (hn6 : n ≤ 6) (ha : asked < 2147483648) (hm : m = 0 ∨ (0 < m ∧ MGO d j n l asked r m)) : VIS d j n l asked r m := by
  intro D used lt x f u0 h u cs hn hu hlt hx p mr ml hcs c mu hf hb
  obtain ⟨h1, e1, f1, a1, a2, a3⟩ := M_nextPair (d + 2) (l := l) p (by omega) hx (by omega) (by omega) (by omega) c
  have f1' : mfr (fD D) h h1 := f1.mo (by intro a t; unfold fD; omega)
  have p1 := p.mf f1
  have mr1 := mr.mv f1' (by intro a t; unfold fD; omega)
  have ml1 := ml.mv f1' (by unfold fD; omega) (by intro i hi; unfold fD; omega)
  have mu1 := mu.mv f1 (by omega) (by intro i; omega)
  obtain ⟨h2, cs', e2, f2, ml2, mu2, g2⟩ := M_goOn d (l := lt) (x := x + 1) hv hj (by omega) (by omega) (by omega) (by omega) p1 mr1 ml1 mu1
  have f2' : mfr (fD D) h1 h2 := f2.mo (by intro a t; unfold fD fG; omega)
  have p2 := p1.mf f2
  have mr2 := mr1.mv f2' (by intro a t; unfold fD; omega)
  have hcs' := rq_goOn hcs g2
  have a1' : hI h2 120 D = zI lt := by rw [f2.I (by unfold fG; omega)]; exact a1
  have a2' : hI h2 121 D = zI x := by rw [f2.I (by unfold fG; omega)]; exact a2
  have a3' : hI h2 122 (D + 1) = zI (nu used x) := by rw [f2.I (by unfold fG; omega)]; exact a3
  have hL := c12_len ml2.1 ml2.2.1
  have e9 : GS6 d j n l asked f D h = if cs'.length = 0 then GS6 d j n l asked f D h2 else Rk B_M_goShapes L_M_goShapes (Cc (d + 3)) 11 [aR (some 94), aI (zI j), aI (zI n), aI (zI l), aI (zI asked), aI (zI f), aI (zI D)] [] h2 := by
    unfold GS6
    rw [E_M_goShapes_6]
    simp (disch := omega) only [nlt0, if_false]
    rw [E_M_goShapes_7, obj_e (z94 p.1), calI_e e1, if01, if_pos hlt, E_M_goShapes_9]
    simp (disch := omega) only [obj_e (z94 p1.1), m33 p1, m34 p1, idx_n (z120 p1.1), idx_n (z121 p1.1), a1, a2, nadd1]
    rw [calV_e e2]
    simp (disch := omega) only [obj_e (z94 p2.1), m27 p2, idx_n (z115 p2.1), ml2.2.2.1, neq0, E_M_goShapes_10]
  by_cases z : cs'.length = 0
  · have e0 : sub r BLK l m used u lt x = [] := by
      unfold sub
      rw [FSB_no]
      · rfl
      · intro c hc
        have := (hcs' c).mpr hc
        rw [List.eq_nil_of_length_eq_zero z] at this
        cases this
    rw [if_pos z] at e9
    refine ⟨h2, u0 + 1, f1'.tr f2', mu2, by omega, Or.inr ⟨by rw [e0]; simp, by rw [e9, e0]; rfl, a1', a2', by rw [e0]; simp; omega⟩⟩
  · rw [if_neg z, E_M_goShapes_11, nadd1] at e9
    simp (disch := omega) only [nlt] at e9
    rcases hm with hm | hm
    · subst hm
      rw [if_neg (by omega), E_M_goShapes_13, obj_e (z94 p2.1), show n = D + 1 by omega, calI_e (M_takesList _ hv hj (by omega) p2 mr2 ml2), if01, any_tkn hcs'] at e9
      have es : sub r BLK l 0 used u lt x = if tkn r ((lt, x + 1) :: u) then [[(lt, x)]] else [] := by
        unfold sub
        rw [FS_00, dif_B]
        split <;> rfl
      cases y : tkn r ((lt, x + 1) :: u) with
      | false =>
        rw [y] at es e9
        rw [if_neg (by simp)] at es e9
        refine ⟨h2, u0 + 1, f1'.tr f2', mu2, by omega, Or.inr ⟨by rw [es]; simp, ?_, a1', a2', by rw [es]; simp; omega⟩⟩
        rw [show n = D + 1 by omega, e9, es]; rfl
      | true =>
        rw [y] at es e9
        rw [if_pos rfl] at es e9
        rw [E_M_goShapes_14, nadd1, lt_e] at e9
        simp (disch := omega) only [neq] at e9
        refine ⟨h2, u0 + 1, f1'.tr f2', mu2, by omega, ?_⟩
        by_cases w : f + 1 = asked
        · rw [if_pos w, E_M_goShapes_15] at e9
          refine Or.inl ⟨by omega, by rw [es]; simp; omega, by rw [show n = D + 1 by omega, e9, w], [(lt, x)], ?_, ?_⟩
          · rw [es, show asked - f - 1 = 0 by omega]; rfl
          · intro i q hq
            cases i with
            | zero => cases hq; exact ⟨a1', a2'⟩
            | succ i => cases hq
        · rw [if_neg w] at e9
          refine Or.inr ⟨by rw [es]; simp; omega, ?_, a1', a2', by rw [es]; simp; omega⟩
          rw [show n = D + 1 by omega, e9, es]; rfl
    · obtain ⟨m0, hm⟩ := hm
      obtain ⟨h3, e3, f3, c3⟩ := M_beginPair (d + 2) (D := D + 1) p2 (by omega) a3'
      have f3' : mfr (fD D) h2 h3 := f3.mo (by intro a t; unfold fD; omega)
      have p3 := p2.mf f3
      have hnu : nu used x ≤ D + 1 := by unfold nu; split <;> omega
      rw [if_pos (by omega), E_M_goShapes_12, nadd1, lt_e, obj_e (z94 p2.1), calV_e e3] at e9
      obtain ⟨h4, u1, f4, mu4, b4, q4⟩ := hm (D + 1) (nu used x) f (u0 + 1) h3 ((lt, x + 1) :: u) cs' (by omega) hnu p3 (mr2.mv f3' (by intro a t; unfold fD; omega)) (ml2.mv f3 (by omega) (by intro i hi; omega)) hcs' c3 (mu2.mv f3 (by omega) (by intro i; omega)) (by omega) (by omega)
      have f4' : mfr (fD D) h3 h4 := f4.mo (by intro a t; unfold fD; omega)
      have b1 : hI h4 120 D = zI lt := by rw [f4.I (by unfold fD; omega), f3.I (by omega)]; exact a1'
      have b2 : hI h4 121 D = zI x := by rw [f4.I (by unfold fD; omega), f3.I (by omega)]; exact a2'
      have hls : (sub r BLK l m used u lt x).length = (FS r BLK l m (nu used x) ((lt, x + 1) :: u)).length := by unfold sub; rw [List.length_map]
      refine ⟨h4, u1, f1'.tr (f2'.tr (f3'.tr f4')), mu4, by omega, ?_⟩
      rcases q4 with ⟨k1, k2, k3, t, k4, k5⟩ | ⟨k1, k2, k3⟩
      · refine Or.inl ⟨k1, by rw [hls]; exact k2, by rw [e9]; exact k3, (lt, x) :: t, ?_, ?_⟩
        · unfold sub; rw [List.getElem?_map, k4]; rfl
        · intro i q hq
          cases i with
          | zero => cases hq; exact ⟨b1, b2⟩
          | succ i =>
            rw [show D + (i + 1) = D + 1 + i by omega]
            exact k5 i q hq
      · refine Or.inr ⟨by rw [hls]; exact k1, ?_, b1, b2, by rw [hls]; exact k3⟩
        rw [e9, hls]
        refine Eq.trans k2 ?_
        rw [show ((D + 1 : Nat) : Int) - 1 = D by omega]
theorem M_MGO (d : Nat) {j n l asked : Nat} {r : Rdr} (hv : RV r) (hj : j < 2) (hl : l ≤ 3) (hn6 : n ≤ 6) (ha : asked < 2147483648) : ∀ m, MGO d j n l asked r (m + 1)
  | 0 => VIS_MGO d (VIS_x d hv hj hl hn6 ha (Or.inl rfl)) hl hn6
  | m + 1 => VIS_MGO d (VIS_x d hv hj hl hn6 ha (Or.inr ⟨by omega, M_MGO d hv hj hl hn6 ha m⟩)) hl hn6
theorem MI_u {F : Nat → Nat → Prop} {h h' : AH} {k u : Nat} {s : Stt} (p : MI k s h) (f : mfr F h h') (n : ∀ a i, F a i → scr a i ∨ (a = 94 ∧ i = 29) ∨ a = 116) (mu : MU h' u) (hu : u ≤ 4000000 * (k + 1)) : MI (k + 1) s h' := by
  obtain ⟨p1, p2, p3, p4, p5, p6⟩ := p
  refine ⟨p1.mf f, p2.mv f ?_, p3.mv f ?_, p4.mv f ?_ ?_, p5.mv f ?_ ?_ ?_, mu.k hu⟩
  · intro a i h1 h2 h3; have := n a i h3; unfold scr at this; omega
  · intro a i h1 h2 h3; have := n a i h3; unfold scr at this; omega
  · intro h3; have := n _ _ h3; unfold scr at this; omega
  · intro i h3; have := n _ _ h3; unfold scr at this; omega
  · intro h3; have := n _ _ h3; unfold scr at this; omega
  · intro i h3; have := n _ _ h3; unfold scr at this; omega
  · intro i h3; have := n _ _ h3; unfold scr at this; omega
/-- goShapes: how many, or the one that is asked -/
theorem M_goShapes (d : Nat) {j n l asked k : Nat} {s : Stt} {h : AH} {x : Int} (hx : x = j) (hj : j < 2) (hk : k < 512) (v : VS s) (p : MI k s h) (hl : l ≤ 3) (hn6 : n ≤ 6) (ha : asked < 2147483648) : ∃ h' ans, Cc (d + 4) k_M_goShapes [aR (some 94), aI (zI j), aI (zI n), aI (zI l), aI (zI asked)] h = some (some (aI (zI ((ans : Nat) : Int))), h') ∧ mfr (fun a _ => 94 ≤ a) h h' ∧ MI (k + 1) s h' ∧
    ((0 < asked ∧ asked ≤ (FS (rdr s x) BLK l n 0 []).length ∧ ans = asked ∧ ∃ t, (FS (rdr s x) BLK l n 0 [])[asked - 1]? = some t ∧ ∀ i q, t[i]? = some q → hI h' 120 i = zI q.1 ∧ hI h' 121 i = zI q.2) ∨ (¬ (0 < asked ∧ asked ≤ (FS (rdr s x) BLK l n 0 []).length) ∧ ans = (FS (rdr s x) BLK l n 0 []).length)) := by
  have a1 : x = 0 ∨ x = 1 := by omega
  have hv := v.rv x
  have mr := p.mr a1
  rw [show x.toNat = j by omega] at mr
  obtain ⟨h1, e1, f1, ml1⟩ := M_beginList (d + 2) p.1
  have p1 := p.1.mf f1
  have f2 : mfr (fun a t => a = 122 ∧ t = 0) h1 (sI h1 122 0 (zI ((0 : Nat) : Int))) := mfr_sI h1 (by omega) _
  have start : Cc (d + 4) k_M_goShapes [aR (some 94), aI (zI j), aI (zI n), aI (zI l), aI (zI asked)] h = if n = 0 then Rk B_M_goShapes L_M_goShapes (Cc (d + 3)) 1 [aR (some 94), aI (zI j), aU, aU, aU, aU, aU] [] (sI h1 122 0 (zI ((0 : Nat) : Int))) else Rk B_M_goShapes L_M_goShapes (Cc (d + 3)) 5 [aR (some 94), aI (zI j), aI (zI n), aI (zI l), aI (zI asked), aU, aU] [] (sI h1 122 0 (zI ((0 : Nat) : Int))) := by
    rw [C_M_goShapes, E_M_goShapes_0, obj_e (z94 p.1.1), calV_e e1, zc0]
    simp (disch := omega) only [obj_e (z94 p1.1), m35 p1, idx_n (z122 p1.1), lt_e, neq0]
  have c2 : hI (sI h1 122 0 (zI ((0 : Nat) : Int))) 122 0 = zI ((0 : Nat) : Int) := hI_hit _ _ _ _
  generalize sI h1 122 0 (zI ((0 : Nat) : Int)) = h2 at f2 start c2
  have p2 := p1.mf f2
  have f12 : mfr (fun a _ => 104 ≤ a ∧ a ≠ 109 ∧ a ≠ 110 ∧ a ≠ 111 ∧ a ≠ 116) h h2 := (f1.mo (by intro a t; omega)).tr (f2.mo (by intro a t; omega))
  have P2 : MI k s h2 := p.mv f12 (by intro a i hh; unfold scr; omega)
  have mr2 := mr.mv f12 (by intro a t; omega)
  have ml2 := ml1.mv f2 (by omega) (by intro i hi; omega)
  rw [start]
  by_cases z : n = 0
  · subst z
    rw [if_pos rfl, E_M_goShapes_1, obj_e (z94 p2.1), zc0, calI_e (M_takesList _ hv hj (by omega) p2 mr2 ml2), if01, show List.any [c0] (fun c => tks (rdr s x) c.1) = tks (rdr s x) 0 from by simp [c0], FS_0]
    have tB : tks BLK 0 = false := rfl
    rw [tB]
    refine ⟨h2, if tks (rdr s x) 0 then 1 else 0, ?_, f12.mo (by intro a t; omega), P2.up, ?_⟩
    · cases tks (rdr s x) 0
      · rw [if_neg (by simp), E_M_goShapes_3, E_M_goShapes_4]; rfl
      · rw [if_pos rfl, E_M_goShapes_2, E_M_goShapes_4]; rfl
    · cases y : tks (rdr s x) 0
      · exact Or.inr ⟨by simp; omega, rfl⟩
      · by_cases w : asked = 1
        · exact Or.inl ⟨by omega, by simp; omega, by rw [w]; rfl, [], by rw [w]; rfl, fun i q hq => by cases hq⟩
        · exact Or.inr ⟨by simp; omega, rfl⟩
  · obtain ⟨m, rfl⟩ : ∃ m, n = m + 1 := ⟨n - 1, by omega⟩
    obtain ⟨u, hu, mu⟩ := MK_u P2.2.2.2.2.2 (by omega)
    obtain ⟨h3, e3, f3, c3⟩ := M_beginPair (d + 2) (D := 0) p2 (by omega) c2
    have p3 := p2.mf f3
    have hG := nG_le l (by omega) (m + 1) (by omega)
    obtain ⟨h4, u1, f4, mu4, b4, q4⟩ := M_MGO d (asked := asked) hv hj hl hn6 ha m 0 0 0 u h3 [] [c0] (by omega) (Nat.le_refl _) p3 (mr2.mv f3 (by intro a t; omega)) (ml2.mv f3 (by omega) (by intro i hi; omega)) (fun c => by rw [List.mem_singleton]; rfl) c3 (mu.mv f3 (by omega) (by intro i; omega)) (Nat.zero_le _) (by omega)
    have f24 : mfr (fun a i => scr a i ∨ (a = 94 ∧ i = 29) ∨ a = 116) h2 h4 := (f3.mo (by intro a t; unfold scr; omega)).tr (f4.mo (by intro a t; unfold scr fD; omega))
    have P4 := MI_u P2 f24 (fun a i h => h) mu4 (by omega)
    have e5 : Rk B_M_goShapes L_M_goShapes (Cc (d + 3)) 5 [aR (some 94), aI (zI j), aI (zI ((m + 1 : Nat) : Int)), aI (zI l), aI (zI asked), aU, aU] [] h2 = GS6 d j (m + 1) l asked 0 ((0 : Nat) : Int) h3 := by
      rw [E_M_goShapes_5, lt_e, lt_e, obj_e (z94 p2.1), zc0, calV_e e3]
      rfl
    have F4 : mfr (fun a _ => 94 ≤ a) h h4 := (f12.mo (by intro a t; omega)).tr (f24.mo (by intro a t; unfold scr; omega))
    rw [if_neg z, e5]
    rcases q4 with ⟨k1, k2, k3, t, k4, k5⟩ | ⟨k1, k2, k3⟩
    · refine ⟨h4, asked, k3, F4, P4, Or.inl ⟨k1, by omega, rfl, t, ?_, ?_⟩⟩
      · rw [← k4]; rfl
      · intro i q hq
        have := k5 i q hq
        rw [Nat.zero_add] at this
        exact this
    · refine ⟨h4, (FS (rdr s x) BLK l (m + 1) 0 []).length, ?_, F4, P4, Or.inr ⟨by rw [Nat.zero_add] at k1; exact k1, rfl⟩⟩
      rw [k2]
      unfold GS6
      rw [E_M_goShapes_6, if_pos (by decide), E_M_goShapes_16, Nat.zero_add]
theorem M_shapes {x n l : Int} (x1 : -2147483648 ≤ x) (x2 : x < 2147483648) (n1 : -2147483648 ≤ n) (n2 : n < 2147483648) (l1 : -2147483648 ≤ l) (l2 : l < 2147483648) : MOK k_M_shapes [aI (zI x), aI (zI n), aI (zI l)] (shsA x n l) id := by
  intro s k h hk v p
  unfold shsA
  rw [C_M_shapes, E_M_shapes_0, calI_e (M_isReader _ h x1 x2), if01]
  by_cases a1 : x = 0 ∨ x = 1
  · simp only [if_pos a1]
    rw [E_M_shapes_2, i2l n1 n2, calI_e (M_in _ h n1 n2 (by omega) (by omega) (by omega) (by omega)), if01]
    by_cases a2 : 0 ≤ n ∧ n ≤ 6
    · simp only [if_pos a2]
      rw [E_M_shapes_3, i2l l1 l2, calI_e (M_in _ h l1 l2 (by omega) (by omega) (by omega) (by omega)), if01]
      by_cases a3 : 1 ≤ l ∧ l ≤ 3
      · simp only [if_pos a3]
        obtain ⟨i, rfl⟩ : ∃ i : Nat, n = i := ⟨n.toNat, by omega⟩
        obtain ⟨t, rfl⟩ : ∃ i : Nat, l = i := ⟨l.toNat, by omega⟩
        obtain ⟨j, rfl⟩ : ∃ i : Nat, x = i := ⟨x.toNat, by omega⟩
        obtain ⟨h', ans, e, f, p', q⟩ := M_goShapes 55 (asked := 0) (j := j) (x := j) rfl (by omega) hk v p (l := t) (n := i) (by omega) (by omega) (by omega)
        refine ⟨h', ?_, f, p'⟩
        rw [E_M_shapes_4, obj_e (z94 p.1.1), zc0, calI_e e, E_M_shapes_6]
        rcases q with ⟨q1, -⟩ | ⟨-, q2⟩
        · omega
        · rw [q2]; rfl
      · simp only [if_neg a3]
        exact ⟨h, by rw [E_M_shapes_5, E_M_shapes_6], mfr.rf _ h, p.up⟩
    · simp only [if_neg a2]
      exact ⟨h, by rw [E_M_shapes_5, E_M_shapes_6], mfr.rf _ h, p.up⟩
  · simp only [if_neg a1]
    exact ⟨h, by rw [E_M_shapes_1], mfr.rf _ h, p.up⟩
theorem M_shape {x n l i k : Int} (x1 : -2147483648 ≤ x) (x2 : x < 2147483648) (n1 : -2147483648 ≤ n) (n2 : n < 2147483648) (l1 : -2147483648 ≤ l) (l2 : l < 2147483648) (i1 : -2147483648 ≤ i) (i2 : i < 2147483648) (k1 : -2147483648 ≤ k) (k2 : k < 2147483648) : MOK k_M_shape [aI (zI x), aI (zI n), aI (zI l), aI (zI i), aI (zI k)] (shpA x n l i k) id := by
  intro s kk h hk v p
  unfold shpA
  rw [C_M_shape, E_M_shape_0, calI_e (M_isReader _ h x1 x2), if01]
  by_cases a1 : x = 0 ∨ x = 1
  · simp only [if_pos a1]
    rw [E_M_shape_2, i2l n1 n2, calI_e (M_in _ h n1 n2 (by omega) (by omega) (by omega) (by omega)), if01]
    by_cases a2 : 0 ≤ n ∧ n ≤ 6
    · simp only [if_pos a2]
      rw [E_M_shape_3, i2l l1 l2, calI_e (M_in _ h l1 l2 (by omega) (by omega) (by omega) (by omega)), if01]
      by_cases a3 : 1 ≤ l ∧ l ≤ 3
      · simp only [if_pos a3]
        rw [E_M_shape_4]
        simp (disch := omega) only [ylt0]
        by_cases a4 : i < 0
        · simp only [if_pos a4]
          exact ⟨h, by rw [E_M_shape_6], mfr.rf _ h, p.up⟩
        · simp only [if_neg a4]
          rw [E_M_shape_5]
          simp (disch := omega) only [ylt0]
          by_cases a5 : k < 0
          · simp only [if_pos a5]
            exact ⟨h, by rw [E_M_shape_6], mfr.rf _ h, p.up⟩
          · simp only [if_neg a5]
            rw [E_M_shape_7]
            simp (disch := omega) only [ylt]
            by_cases a6 : k < n
            · simp only [if_pos a6]
              obtain ⟨n', rfl⟩ : ∃ i : Nat, n = i := ⟨n.toNat, by omega⟩
              obtain ⟨t, rfl⟩ : ∃ i : Nat, l = i := ⟨l.toNat, by omega⟩
              obtain ⟨g, rfl⟩ : ∃ g : Nat, i = g := ⟨i.toNat, by omega⟩
              obtain ⟨c, rfl⟩ : ∃ g : Nat, k = g := ⟨k.toNat, by omega⟩
              obtain ⟨j, rfl⟩ : ∃ i : Nat, x = i := ⟨x.toNat, by omega⟩
              simp only [Int.toNat_natCast]
              have hlen := FS_len (rdr s j) BLK (l := t) (n := n') (by omega) (by omega)
              rw [E_M_shape_8]
              simp (disch := omega) only [yle]
              by_cases a8 : ((g : Nat) : Int) ≤ 1000000
              · obtain ⟨h', ans, e, f, p', q⟩ := M_goShapes 55 (asked := g + 1) (j := j) (x := j) rfl (by omega) hk v p (l := t) (n := n') (by omega) (by omega) (by omega)
                refine ⟨h', ?_, f, p'⟩
                rw [if_pos a8, E_M_shape_9, obj_e (z94 p.1.1), nadd1, calI_e e]
                rcases q with ⟨q1, q2, q3, w, q4, q5⟩ | ⟨q1, q2⟩
                · have hl := FS_mem (List.mem_of_getElem? q4)
                  have hc : w[c]? = some w[c] := List.getElem?_eq_getElem (by omega)
                  have := q5 c _ hc
                  rw [q3, if_pos (show (g : Int) < _ by omega)]
                  simp (disch := omega) only [nle]
                  rw [if_neg (by omega), E_M_shape_11]
                  simp (disch := omega) only [obj_e (z94 p'.1.1), m33 p'.1, m34 p'.1, idx_n (z120 p'.1.1), idx_n (z121 p'.1.1), this.1, this.2]
                  rw [zI_mul, zI_add]
                  unfold pcA
                  rw [show g + 1 - 1 = g from rfl] at q4
                  rw [q4]
                  show _ = some (some (aI (zI (match w[c]? with | none => -1 | some p => ((16 * p.1 + p.2 : Nat) : Int)))), h')
                  rw [hc]
                  rfl
                · rw [q2, if_neg (show ¬ (g : Int) < _ by omega)]
                  simp (disch := omega) only [nle]
                  rw [if_pos (by omega), E_M_shape_10]
              · rw [if_neg a8, if_neg (by omega)]
                exact ⟨h, by rw [E_M_shape_10], mfr.rf _ h, p.up⟩
            · simp only [if_neg a6]
              exact ⟨h, by rw [E_M_shape_10], mfr.rf _ h, p.up⟩
      · simp only [if_neg a3]
        exact ⟨h, by rw [E_M_shape_6], mfr.rf _ h, p.up⟩
    · simp only [if_neg a2]
      exact ⟨h, by rw [E_M_shape_6], mfr.rf _ h, p.up⟩
  · simp only [if_neg a1]
    exact ⟨h, by rw [E_M_shape_1], mfr.rf _ h, p.up⟩
