/-! M: first: goWide -/
def eW (c : Cfg) : Nat := c.1 + 8 * c.2.1 + 1024 * c.2.2.1 + 131072 * c.2.2.2
theorem eW_lt {c : Cfg} (h : C12 c) : eW c < 2097152 := by unfold C12 at h; unfold eW; omega
theorem eW_inj {c c' : Cfg} (h : C12 c) (h' : C12 c') (e : eW c = eW c') : c = c' := by
  obtain ⟨q, a, b, d⟩ := c
  obtain ⟨q', a', b', d'⟩ := c'
  unfold C12 at h h'
  unfold eW at e
  simp only [Prod.mk.injEq]
  simp only at h h' e
  omega
theorem orp {q a i : Nat} (h : q < 2 ^ i) : q ||| a * 2 ^ i = q + a * 2 ^ i := by
  have := Nat.two_pow_add_eq_or_of_lt h a
  rw [Nat.or_comm, Nat.mul_comm, ← this, Nat.add_comm]
theorem W_or {c : Cfg} (h : C12 c) : ((zI (c.1 : Int) ||| (zI (c.2.1 : Int) <<< ((zI 3) &&& 31))) ||| (zI (c.2.2.1 : Int) <<< ((zI 10) &&& 31))) ||| (zI (c.2.2.2 : Int) <<< ((zI 17) &&& 31)) = zI (eW c : Int) := by
  unfold C12 at h
  rw [show zI 3 = zI ((3 : Nat) : Int) from rfl, show zI 10 = zI ((10 : Nat) : Int) from rfl, show zI 17 = zI ((17 : Nat) : Int) from rfl, nshl (by omega), nshl (by omega), nshl (by omega)]
  rw [zI_or (by omega) (by omega), orp (by omega), zI_or (by omega) (by omega), orp (by omega), zI_or (by omega) (by omega), orp (by omega)]
  unfold eW
  congr 2
  omega
theorem M_wideIn (d : Nat) (h : AH) {c : Cfg} (hc : C12 c) {t : Nat} (ht : t < 3) : Cc (d + 1) k_M_wideIn [aI (zI (eW c)), aI (zI t)] h = some (some (aI (zI (rg c t))), h) := by
  have hl := eW_lt hc
  unfold C12 at hc
  rw [C_M_wideIn, E_M_wideIn_0, show zI 3 = zI ((3 : Nat) : Int) from rfl, show zI 7 = zI ((7 : Nat) : Int) from rfl, nmul, nadd, nshr (by omega) (by omega), show zI 127 = zI ((127 : Nat) : Int) from rfl]
  have hd : eW c / 2 ^ (3 + 7 * t) ≤ eW c := Nat.div_le_self _ _
  rw [zI_and (by omega) (by omega), show (127 : Nat) = 2 ^ 7 - 1 from rfl, Nat.and_two_pow_sub_one_eq_mod]
  congr 5
  unfold rg eW
  match t, ht with
  | 0, _ => simp; omega
  | 1, _ => simp; omega
  | 2, _ => simp; omega
theorem M_w0 (d : Nat) (h : AH) {c : Cfg} (hc : C12 c) : Cc (d + 1) k_M_wideIn [aI (zI (eW c)), aI (zI 0)] h = some (some (aI (zI c.2.1)), h) := M_wideIn d h hc (t := 0) (by omega)
theorem M_w1 (d : Nat) (h : AH) {c : Cfg} (hc : C12 c) : Cc (d + 1) k_M_wideIn [aI (zI (eW c)), aI (zI 1)] h = some (some (aI (zI c.2.2.1)), h) := M_wideIn d h hc (t := 1) (by omega)
theorem M_w2 (d : Nat) (h : AH) {c : Cfg} (hc : C12 c) : Cc (d + 1) k_M_wideIn [aI (zI (eW c)), aI (zI 2)] h = some (some (aI (zI c.2.2.2)), h) := M_wideIn d h hc (t := 2) (by omega)
theorem and7W {c : Cfg} (hc : C12 c) : zI (eW c : Int) &&& zI 7 = zI (c.1 : Int) := by
  have hl := eW_lt hc
  unfold C12 at hc
  rw [show zI 7 = zI ((7 : Nat) : Int) from rfl, zI_and (by omega) (by omega), show (7 : Nat) = 2 ^ 3 - 1 from rfl, Nat.and_two_pow_sub_one_eq_mod]
  congr 2
  unfold eW
  omega
def wdF (a j : Nat) : Prop := (a = 94 ∧ (j = 40 ∨ j = 41)) ∨ a = 125 ∨ a = 126
def wdf (h h' : AH) : Prop := mfr wdF h h'
def WQ (h : AH) (j : Nat) (r : Rdr) (F : Nat → Nat) : Prop := MS h ∧ MR h j r ∧ (∀ n, n < 384 → hI h 123 n = zI (F n)) ∧ ∀ n, n < 384 → F n ≤ 268435456
theorem WQ.mv {h h' : AH} {j : Nat} {r : Rdr} {F : Nat → Nat} (p : WQ h j r F) (f : wdf h h') : WQ h' j r F := ⟨p.1.mf f, p.2.1.mv f (fun a i h1 h2 h3 => by unfold wdF at h3; omega), fun n hn => by rw [f.I (by unfold wdF; omega)]; exact p.2.2.1 n hn, p.2.2.2⟩
def NL (h : AH) (cs : List Cfg) : Prop := hI h 94 40 = zI cs.length ∧ ∀ (i : Nat) (c : Cfg), cs[i]? = some c → hI h 125 i = zI (eW c)
def TL (h : AH) (ds : List Cfg) : Prop := hI h 94 41 = zI ds.length ∧ ∀ (i : Nat) (c : Cfg), ds[i]? = some c → hI h 126 i = zI (eW c)
def W12 (ds : List Cfg) : Prop := ds.Nodup ∧ ∀ c, c ∈ ds → C12 c
def eT13 (c : Cfg) : Nat := c.1 + 6 * c.2.1 + 78 * c.2.2.1 + 1014 * c.2.2.2
theorem W12.len {ds : List Cfg} (w : W12 ds) : ds.length ≤ 13182 := by
  have := nd_len 13182 (ds.map eT13) (nd_map eT13 ds w.1 (fun x y hx hy e => by
    have h := w.2 x hx
    have h' := w.2 y hy
    obtain ⟨q, a, b, d⟩ := x
    obtain ⟨q', a', b', d'⟩ := y
    unfold C12 at h h'
    unfold eT13 at e
    simp only [Prod.mk.injEq]
    simp only at h h' e
    omega)) (by
    intro x hx
    obtain ⟨e, he, rfl⟩ := List.mem_map.mp hx
    have := w.2 e he
    unfold C12 at this
    unfold eT13
    omega)
  rwa [List.length_map] at this
theorem aw_lp (d : Nat) {h : AH} (p : MS h) {ds : List Cfg} {c : Cfg} (tl : TL h ds) (w : W12 ds) (hc : C12 c) : ∀ (n i : Nat) (b : Bool), i + n = ds.length → (b = true ↔ c ∈ ds.take i) →
    Rk B_M_addWide L_M_addWide (Cc d) 1 [aR (some 94), aI (zI (eW c)), aI (zI (if b then 1 else 0)), aI (zI i)] [] h = Rk B_M_addWide L_M_addWide (Cc d) 7 [aR (some 94), aI (zI (eW c)), aI (zI (if bl (c ∈ ds) = true then 1 else 0)), aU] [] h
  | 0, i, b, hn, hb => by
    have hl := w.len
    have : bl (c ∈ ds) = b := by
      rw [List.take_of_length_le (by omega)] at hb
      rw [Bool.eq_iff_iff, bl_t, hb]
    rw [E_M_addWide_1, obj_e (z94 p.1), tl.1, this]
    simp (disch := omega) only [nlt]
    rw [if_neg (by omega)]
  | n + 1, i, b, hn, hb => by
    have hl := w.len
    have hi : ds[i]? = some ds[i] := List.getElem?_eq_getElem (by omega)
    have hci := w.2 _ (List.getElem_mem (show i < ds.length by omega))
    have l1 := eW_lt hc
    have l2 := eW_lt hci
    have tk : ds.take (i + 1) = ds.take i ++ [ds[i]] := by rw [List.take_add_one, hi]; rfl
    have fin : ∀ b' : Bool, (b' = true ↔ c ∈ ds.take (i + 1)) → Rk B_M_addWide L_M_addWide (Cc d) 6 [aR (some 94), aI (zI (eW c)), aU, aI (zI i)] [aI (zI (if b' then 1 else 0))] h = Rk B_M_addWide L_M_addWide (Cc d) 7 [aR (some 94), aI (zI (eW c)), aI (zI (if bl (c ∈ ds) = true then 1 else 0)), aU] [] h := by
      intro b' hb'
      rw [E_M_addWide_6, lt_e, nadd1, lt_e]
      exact aw_lp d p tl w hc n (i + 1) b' (by omega) hb'
    rw [E_M_addWide_1, obj_e (z94 p.1), tl.1]
    simp (disch := omega) only [nlt]
    rw [if_pos (by omega), E_M_addWide_2]
    cases b with
    | true =>
      rw [if_pos rfl, if_neg (by decide), E_M_addWide_4]
      exact fin true (by rw [tk]; exact ⟨fun _ => List.mem_append_left _ (hb.mp rfl), fun _ => rfl⟩)
    | false =>
      rw [if_neg (show ¬ (false = true) by simp), if_pos zI_0.symm, E_M_addWide_3, obj_e (z94 p.1), m39 p]
      simp (disch := omega) only [idx_n (z126 p.1), tl.2 i _ hi, neq]
      by_cases z : eW ds[i] = eW c
      · have e := eW_inj hci hc z
        rw [if_pos z, E_M_addWide_4]
        exact fin true ⟨fun _ => by rw [tk]; exact List.mem_append_right _ (by rw [e]; exact List.mem_singleton.mpr rfl), fun _ => rfl⟩
      · rw [if_neg z, E_M_addWide_5]
        refine fin false ⟨(fun q => by cases q), fun q => ?_⟩
        rw [tk] at q
        rcases List.mem_append.mp q with q | q
        · have := hb.mpr q
          cases this
        · rw [List.mem_singleton.mp q] at z; exact absurd rfl z
theorem M_addWide (d : Nat) {h : AH} (p : MS h) {ds : List Cfg} {c : Cfg} (tl : TL h ds) (w : W12 ds) (hc : C12 c) : ∃ h', Cc (d + 1) k_M_addWide [aR (some 94), aI (zI (eW c))] h = some (none, h') ∧ mfr (fun a j => (a = 94 ∧ j = 41) ∨ a = 126) h h' ∧ TL h' (addL ds c) ∧ W12 (addL ds c) := by
  have e1 := aw_lp d p tl w hc ds.length 0 false (by omega) (by simp)
  by_cases z : c ∈ ds
  · rw [if_pos (bl_t.mpr z)] at e1
    have ea : addL ds c = ds := by unfold addL; rw [if_pos z]
    refine ⟨h, ?_, mfr.rf _ h, by rw [ea]; exact tl, by rw [ea]; exact w⟩
    rw [C_M_addWide, E_M_addWide_0, lt_e, lt_e]
    refine Eq.trans e1 ?_
    rw [E_M_addWide_7, if_neg (by decide), E_M_addWide_9]
  · rw [if_neg (fun q => z (bl_t.mp q))] at e1
    have ea : addL ds c = ds ++ [c] := by unfold addL; rw [if_neg z]
    have hl := w.len
    have f1 : mfr (fun a j => (a = 94 ∧ j = 41) ∨ a = 126) h (sI h 126 ds.length (zI (eW c))) := mfr_sI h (Or.inr rfl) _
    have p1 := p.mf f1
    have f2 : mfr (fun a j => (a = 94 ∧ j = 41) ∨ a = 126) (sI h 126 ds.length (zI (eW c))) (sI (sI h 126 ds.length (zI (eW c))) 94 41 (zI ((ds.length + 1 : Nat) : Int))) := mfr_sI _ (Or.inl ⟨rfl, rfl⟩) _
    refine ⟨_, ?_, f1.tr f2, ?_, ?_⟩
    · rw [C_M_addWide, E_M_addWide_0, lt_e, lt_e]
      refine Eq.trans e1 ?_
      rw [E_M_addWide_7, if_pos zI_0.symm, E_M_addWide_8, obj_e (z94 p.1), obj_e (z94 p.1), m39 p, tl.1]
      simp (disch := omega) only [idx_n (z126 p.1), lt_e, obj_e (z94 p1.1), mb_some]
      rw [hI_off (by omega), tl.1, nadd1, E_M_addWide_9]
    · rw [ea]
      refine ⟨by rw [hI_hit, List.length_append]; rfl, fun i e he => ?_⟩
      have h1 := (List.getElem?_eq_some_iff.mp he).1
      rw [List.length_append] at h1
      simp at h1
      rw [hI_off (by omega)]
      by_cases y : i < ds.length
      · rw [List.getElem?_append_left y] at he
        rw [hI_off (by omega)]
        exact tl.2 i e he
      · have : i = ds.length := by omega
        subst this
        simp at he
        rw [hI_hit, he]
    · rw [ea]
      refine ⟨?_, fun e he => ?_⟩
      · rw [List.nodup_append]
        refine ⟨w.1, by simp, ?_⟩
        intro a ha b hb e
        rw [List.mem_singleton] at hb
        exact z (by rw [← hb, ← e]; exact ha)
      · rcases List.mem_append.mp he with q | q
        · exact w.2 e q
        · rw [List.mem_singleton.mp q]; exact hc
theorem gw_can (d : Nat) {h : AH} (p : MS h) {j l x t : Nat} {A x5 : Int32} {m : Mv} {c : Cfg} (ht : 20 * j + t < 40) (mr : mrow h (20 * j + t) m) (hm : MV m) (hc : C12 c) (hl : l < 3) (hx : x < 100) : Rk B_M_goWide L_M_goWide (Cc (d + 2)) 4 [aR (some 94), aI (zI j), aI (zI l), aI (zI x), aI A, aI x5, aI (zI (eW c)), aI (zI ((20 * j + t : Nat) : Int)), aU, aU, aU, aU, aU] [] h = Rk B_M_goWide L_M_goWide (Cc (d + 2)) 18 [aR (some 94), aI (zI j), aI (zI l), aI (zI x), aI A, aI x5, aI (zI (eW c)), aI (zI ((20 * j + t : Nat) : Int)), aU, aU, aU, aU, aU] [aI (zI (if canB m c l x then 1 else 0))] h := by
  obtain ⟨r0, r1, r2, r3, r4⟩ := mr
  have hc' := hc
  unfold MV at hm
  unfold C12 at hc'
  have e9 : ∀ w : Nat, (w = 0 ↔ (c.2.1 ≠ x ∧ c.2.2.1 ≠ x ∧ c.2.2.2 ≠ x)) → w ≤ 1 → Rk B_M_goWide L_M_goWide (Cc (d + 2)) 9 [aR (some 94), aI (zI j), aI (zI l), aI (zI x), aI A, aI x5, aI (zI (eW c)), aI (zI ((20 * j + t : Nat) : Int)), aU, aU, aU, aU, aU] [aI (zI w)] h = Rk B_M_goWide L_M_goWide (Cc (d + 2)) 18 [aR (some 94), aI (zI j), aI (zI l), aI (zI x), aI A, aI x5, aI (zI (eW c)), aI (zI ((20 * j + t : Nat) : Int)), aU, aU, aU, aU, aU] [aI (zI (if canB m c l x then 1 else 0))] h := by
    intro w hw hw1
    rw [E_M_goWide_9, lt_e, and7W hc]
    simp (disch := omega) only [obj_e (z94 p.1), m4 p, idx_n (z99 p.1), r0, neq]
    unfold canB
    by_cases a : m.1 = c.1
    · rw [if_pos a, E_M_goWide_10, show (m.1 == c.1) = true from beq_iff_eq.mpr a, Bool.true_and]
      simp (disch := omega) only [obj_e (z94 p.1), m5 p, idx_n (z100 p.1), r1, neq]
      by_cases b : m.2.1 = l
      · rw [if_pos b, E_M_goWide_11, show (m.2.1 == l) = true from beq_iff_eq.mpr b, Bool.true_and, zc4]
        simp (disch := omega) only [obj_e (z94 p.1), m6 p, idx_n (z101 p.1), r2, neq]
        unfold fits
        by_cases t4 : m.2.2.1 = 4
        · rw [if_pos t4, E_M_goWide_16]; simp [t4]
        · rw [if_neg t4, E_M_goWide_12, zc3]
          simp (disch := omega) only [obj_e (z94 p.1), m6 p, idx_n (z101 p.1), r2, neq]
          by_cases t3 : m.2.2.1 = 3
          · rw [if_pos t3, E_M_goWide_13, if_pos t3]
            simp (disch := omega) only [neq0]
            by_cases z : w = 0
            · have q := hw.mp z
              rw [if_pos z, E_M_goWide_14, E_M_goWide_16]
              have : (c.2.1 != x && (c.2.2.1 != x && c.2.2.2 != x)) = true := by
                simp only [Bool.and_eq_true, bne_iff_ne]; exact q
              rw [this]; rfl
            · rw [if_neg z, E_M_goWide_17]
              have : (c.2.1 != x && (c.2.2.1 != x && c.2.2.2 != x)) = false := by
                rw [Bool.eq_false_iff]
                simp only [ne_eq, Bool.and_eq_true, bne_iff_ne]
                exact fun q => z (hw.mpr q)
              rw [this]; rfl
          · rw [if_neg t3, E_M_goWide_15, if_neg t3, if_neg t4]
            simp (disch := omega) only [obj_e (z94 p.1), m6 p, idx_n (z101 p.1), r2]
            have hrg : rg c m.2.2.1 ≤ 12 := by unfold rg; split; omega; split <;> omega
            rw [calI_e (M_wideIn _ h hc (by omega))]
            simp (disch := omega) only [neq]
            by_cases z : rg c m.2.2.1 = x
            · rw [if_pos z, E_M_goWide_16, show (rg c m.2.2.1 == x) = true from beq_iff_eq.mpr z]; rfl
            · rw [if_neg z, E_M_goWide_17, show (rg c m.2.2.1 == x) = false from beq_eq_false_iff_ne.mpr z]; rfl
      · rw [if_neg b, E_M_goWide_17, show (m.2.1 == l) = false from beq_eq_false_iff_ne.mpr b]; rfl
    · rw [if_neg a, E_M_goWide_17, show (m.1 == c.1) = false from beq_eq_false_iff_ne.mpr a]; rfl
  rw [E_M_goWide_4, calI_e (M_w0 _ h hc)]
  simp (disch := omega) only [neq]
  by_cases z1 : c.2.1 = x
  · rw [if_pos z1, E_M_goWide_7, zc1]; exact e9 1 ⟨fun q => by omega, fun q => absurd z1 q.1⟩ (by omega)
  rw [if_neg z1, E_M_goWide_5, calI_e (M_w1 _ h hc)]
  simp (disch := omega) only [neq]
  by_cases z2 : c.2.2.1 = x
  · rw [if_pos z2, E_M_goWide_7, zc1]; exact e9 1 ⟨fun q => by omega, fun q => absurd z2 q.2.1⟩ (by omega)
  rw [if_neg z2, E_M_goWide_6, calI_e (M_w2 _ h hc)]
  simp (disch := omega) only [neq]
  by_cases z3 : c.2.2.2 = x
  · rw [if_pos z3, E_M_goWide_7, zc1]; exact e9 1 ⟨fun q => by omega, fun q => absurd z3 q.2.2⟩ (by omega)
  rw [if_neg z3, E_M_goWide_8, zc0]; exact e9 0 ⟨fun _ => ⟨z1, z2, z3⟩, fun _ => rfl⟩ (by omega)
theorem gw_go (d : Nat) {h : AH} (p : MS h) {j l x t lf : Nat} {x5 : Int32} {m : Mv} {c : Cfg} {F : Nat → Nat} (hF : ∀ n, n < 384 → hI h 123 n = zI (F n)) (hFb : ∀ n, n < 384 → F n ≤ 268435456) (ht : 20 * j + t < 40) (mr : mrow h (20 * j + t) m) (hm : MV m) (hc : C12 c) (hx : x ≤ 12) (hlf : lf < 2147483648) : Rk B_M_goWide L_M_goWide (Cc (d + 2)) 19 [aR (some 94), aI (zI j), aI (zI l), aI (zI x), aI (zI lf), aI x5, aI (zI (eW c)), aI (zI ((20 * j + t : Nat) : Int)), aU, aU, aU, aU, aU] [] h = if F (eK (kn (goC m c x))) = lf then calV (Cc (d + 2) k_M_addWide [aR (some 94), aI (zI (eW (goC m c x)))] h) fun h5 => Rk B_M_goWide L_M_goWide (Cc (d + 2)) 30 [aR (some 94), aI (zI j), aI (zI l), aI (zI x), aI (zI lf), aI x5, aI (zI (eW c)), aI (zI ((20 * j + t : Nat) : Int)), aU, aU, aU, aU, aU] [] h5 else Rk B_M_goWide L_M_goWide (Cc (d + 2)) 30 [aR (some 94), aI (zI j), aI (zI l), aI (zI x), aI (zI lf), aI x5, aI (zI (eW c)), aI (zI ((20 * j + t : Nat) : Int)), aU, aU, aU, aU, aU] [] h := by
  obtain ⟨r0, r1, r2, r3, r4⟩ := mr
  have hg := goC_12 (x := x) hm hc hx
  have k4 : K4 (kn (goC m c x)) := kn_4 hg.1
  have dlt := eK_lt k4
  have hb := hFb _ dlt
  have hc' := hc
  unfold MV at hm
  unfold C12 at hc'
  have hwo := W_or hg
  have hg' := hg
  unfold C12 at hg'
  have b28 : Rk B_M_goWide L_M_goWide (Cc (d + 2)) 28 [aR (some 94), aI (zI j), aI (zI l), aI (zI x), aI (zI lf), aI x5, aI (zI (eW c)), aI (zI ((20 * j + t : Nat) : Int)), aU, aU, aI (zI (goC m c x).2.1), aI (zI (goC m c x).2.2.1), aU] [aI (zI (goC m c x).2.2.2)] h = if F (eK (kn (goC m c x))) = lf then calV (Cc (d + 2) k_M_addWide [aR (some 94), aI (zI (eW (goC m c x)))] h) fun h5 => Rk B_M_goWide L_M_goWide (Cc (d + 2)) 30 [aR (some 94), aI (zI j), aI (zI l), aI (zI x), aI (zI lf), aI x5, aI (zI (eW c)), aI (zI ((20 * j + t : Nat) : Int)), aU, aU, aU, aU, aU] [] h5 else Rk B_M_goWide L_M_goWide (Cc (d + 2)) 30 [aR (some 94), aI (zI j), aI (zI l), aI (zI x), aI (zI lf), aI x5, aI (zI (eW c)), aI (zI ((20 * j + t : Nat) : Int)), aU, aU, aU, aU, aU] [] h := by
    rw [E_M_goWide_28, lt_e]
    simp (disch := omega) only [obj_e (z94 p.1), m8 p, idx_n (z103 p.1), r4]
    rw [calI_e (M_kindOf _ h (by omega) (by omega) (by omega)), m36 p, show ((m.2.2.2.2, (goC m c x).2.1, (goC m c x).2.2.1, (goC m c x).2.2.2) : Cfg) = goC m c x from rfl]
    simp (disch := omega) only [idx_n (z123 p.1), hF _ dlt, neq]
    by_cases z : F (eK (kn (goC m c x))) = lf
    · rw [if_pos z, if_pos z, E_M_goWide_29]
      simp (disch := omega) only [obj_e (z94 p.1), m8 p, idx_n (z103 p.1), r4]
      rw [show zI (m.2.2.2.2 : Int) = zI ((goC m c x).1 : Int) from rfl, hwo]
    · rw [if_neg z, if_neg z]
  have b25 : Rk B_M_goWide L_M_goWide (Cc (d + 2)) 25 [aR (some 94), aI (zI j), aI (zI l), aI (zI x), aI (zI lf), aI x5, aI (zI (eW c)), aI (zI ((20 * j + t : Nat) : Int)), aU, aU, aI (zI (goC m c x).2.1), aU, aU] [aI (zI (goC m c x).2.2.1)] h = if F (eK (kn (goC m c x))) = lf then calV (Cc (d + 2) k_M_addWide [aR (some 94), aI (zI (eW (goC m c x)))] h) fun h5 => Rk B_M_goWide L_M_goWide (Cc (d + 2)) 30 [aR (some 94), aI (zI j), aI (zI l), aI (zI x), aI (zI lf), aI x5, aI (zI (eW c)), aI (zI ((20 * j + t : Nat) : Int)), aU, aU, aU, aU, aU] [] h5 else Rk B_M_goWide L_M_goWide (Cc (d + 2)) 30 [aR (some 94), aI (zI j), aI (zI l), aI (zI x), aI (zI lf), aI x5, aI (zI (eW c)), aI (zI ((20 * j + t : Nat) : Int)), aU, aU, aU, aU, aU] [] h := by
    rw [E_M_goWide_25, lt_e]
    simp (disch := omega) only [obj_e (z94 p.1), m7 p, idx_n (z102 p.1), r3, yeq]
    by_cases z : m.2.2.2.1 = 2
    · rw [if_pos z, E_M_goWide_26, ← b28, show (goC m c x).2.2.2 = x by unfold goC; simp only [if_pos z]]
    · rw [if_neg z, E_M_goWide_27, calI_e (M_w2 _ h hc), ← b28, show (goC m c x).2.2.2 = c.2.2.2 by unfold goC; simp only [if_neg z]]
  have b22 : Rk B_M_goWide L_M_goWide (Cc (d + 2)) 22 [aR (some 94), aI (zI j), aI (zI l), aI (zI x), aI (zI lf), aI x5, aI (zI (eW c)), aI (zI ((20 * j + t : Nat) : Int)), aU, aU, aU, aU, aU] [aI (zI (goC m c x).2.1)] h = if F (eK (kn (goC m c x))) = lf then calV (Cc (d + 2) k_M_addWide [aR (some 94), aI (zI (eW (goC m c x)))] h) fun h5 => Rk B_M_goWide L_M_goWide (Cc (d + 2)) 30 [aR (some 94), aI (zI j), aI (zI l), aI (zI x), aI (zI lf), aI x5, aI (zI (eW c)), aI (zI ((20 * j + t : Nat) : Int)), aU, aU, aU, aU, aU] [] h5 else Rk B_M_goWide L_M_goWide (Cc (d + 2)) 30 [aR (some 94), aI (zI j), aI (zI l), aI (zI x), aI (zI lf), aI x5, aI (zI (eW c)), aI (zI ((20 * j + t : Nat) : Int)), aU, aU, aU, aU, aU] [] h := by
    rw [E_M_goWide_22, lt_e]
    simp (disch := omega) only [obj_e (z94 p.1), m7 p, idx_n (z102 p.1), r3, yeq]
    by_cases z : m.2.2.2.1 = 1
    · rw [if_pos z, E_M_goWide_23, ← b25, show (goC m c x).2.2.1 = x by unfold goC; simp only [if_pos z]]
    · rw [if_neg z, E_M_goWide_24, calI_e (M_w1 _ h hc), ← b25, show (goC m c x).2.2.1 = c.2.2.1 by unfold goC; simp only [if_neg z]]
  rw [E_M_goWide_19]
  simp (disch := omega) only [obj_e (z94 p.1), m7 p, idx_n (z102 p.1), r3, yeq0]
  by_cases z : m.2.2.2.1 = 0
  · rw [if_pos z, E_M_goWide_20, ← b22, show (goC m c x).2.1 = x by unfold goC; simp only [if_pos z]]
  · rw [if_neg z, E_M_goWide_21, calI_e (M_w0 _ h hc), ← b22, show (goC m c x).2.1 = c.2.1 by unfold goC; simp only [if_neg z]]
theorem gw_m (d : Nat) {j l x lf : Nat} {x5 : Int32} {r : Rdr} {c : Cfg} {F : Nat → Nat} (hj : j < 2) (hv : RV r) (hc : C12 c) (hl : l < 3) (hx : x ≤ 12) (hlf : lf < 2147483648) : ∀ (k t : Nat) (h : AH) (ds : List Cfg), t + k = r.2.2.2.length → WQ h j r F → TL h ds → W12 ds →
    ∃ h' ds', Rk B_M_goWide L_M_goWide (Cc (d + 2)) 3 [aR (some 94), aI (zI j), aI (zI l), aI (zI x), aI (zI lf), aI x5, aI (zI (eW c)), aI (zI ((20 * j + t : Nat) : Int)), aU, aU, aU, aU, aU] [] h = Rk B_M_goWide L_M_goWide (Cc (d + 2)) 31 [aR (some 94), aI (zI j), aI (zI l), aI (zI x), aI (zI lf), aI x5, aU, aU, aU, aU, aU, aU, aU] [] h' ∧ mfr (fun a j => (a = 94 ∧ j = 41) ∨ a = 126) h h' ∧ TL h' ds' ∧ W12 ds' ∧ ∀ e, e ∈ ds' ↔ e ∈ ds ∨ ∃ (t' : Nat) (m : Mv), t ≤ t' ∧ r.2.2.2[t']? = some m ∧ canB m c l x = true ∧ e = goC m c x ∧ F (eK (kn e)) = lf
  | 0, t, h, ds, hk, q, tl, w => by
    have hl := hv.2.2.2.2.1
    refine ⟨h, ds, ?_, mfr.rf _ h, tl, w, fun e => ⟨Or.inl, fun q => q.elim id (fun ⟨t', m, h1, h2, _⟩ => by have := (List.getElem?_eq_some_iff.mp h2).1; omega)⟩⟩
    rw [E_M_goWide_3, obj_e (z94 q.1.1), m3 q.1]
    simp (disch := omega) only [idx_n (z98 q.1.1), q.2.1.2.2.2.1]
    rw [show zI 20 = zI ((20 : Nat) : Int) from rfl, nmul, nadd]
    simp (disch := omega) only [nlt]
    rw [if_neg (by omega)]
  | k + 1, t, h, ds, hk, q, tl, w => by
    have hl20 := hv.2.2.2.2.1
    have hm : r.2.2.2[t]? = some r.2.2.2[t] := List.getElem?_eq_getElem (by omega)
    have hmi := hv.mi hm
    have mrw := q.2.1.2.2.2.2 t _ hm
    have e0 : Rk B_M_goWide L_M_goWide (Cc (d + 2)) 3 [aR (some 94), aI (zI j), aI (zI l), aI (zI x), aI (zI lf), aI x5, aI (zI (eW c)), aI (zI ((20 * j + t : Nat) : Int)), aU, aU, aU, aU, aU] [] h = Rk B_M_goWide L_M_goWide (Cc (d + 2)) 18 [aR (some 94), aI (zI j), aI (zI l), aI (zI x), aI (zI lf), aI x5, aI (zI (eW c)), aI (zI ((20 * j + t : Nat) : Int)), aU, aU, aU, aU, aU] [aI (zI (if canB r.2.2.2[t] c l x then 1 else 0))] h := by
      rw [E_M_goWide_3, obj_e (z94 q.1.1), m3 q.1]
      simp (disch := omega) only [idx_n (z98 q.1.1), q.2.1.2.2.2.1]
      rw [show zI 20 = zI ((20 : Nat) : Int) from rfl, nmul, nadd]
      simp (disch := omega) only [nlt]
      rw [if_pos (by omega)]
      exact gw_can d q.1 (by omega) mrw hmi.1 hc hl (by omega)
    -- behind this move
    have cont : ∀ (h1 : AH) (ds1 : List Cfg), Rk B_M_goWide L_M_goWide (Cc (d + 2)) 3 [aR (some 94), aI (zI j), aI (zI l), aI (zI x), aI (zI lf), aI x5, aI (zI (eW c)), aI (zI ((20 * j + t : Nat) : Int)), aU, aU, aU, aU, aU] [] h = Rk B_M_goWide L_M_goWide (Cc (d + 2)) 30 [aR (some 94), aI (zI j), aI (zI l), aI (zI x), aI (zI lf), aI x5, aI (zI (eW c)), aI (zI ((20 * j + t : Nat) : Int)), aU, aU, aU, aU, aU] [] h1 → mfr (fun a j => (a = 94 ∧ j = 41) ∨ a = 126) h h1 → TL h1 ds1 → W12 ds1 → (∀ e, e ∈ ds1 ↔ e ∈ ds ∨ (canB r.2.2.2[t] c l x = true ∧ e = goC r.2.2.2[t] c x ∧ F (eK (kn e)) = lf)) →
        ∃ h' ds', Rk B_M_goWide L_M_goWide (Cc (d + 2)) 3 [aR (some 94), aI (zI j), aI (zI l), aI (zI x), aI (zI lf), aI x5, aI (zI (eW c)), aI (zI ((20 * j + t : Nat) : Int)), aU, aU, aU, aU, aU] [] h = Rk B_M_goWide L_M_goWide (Cc (d + 2)) 31 [aR (some 94), aI (zI j), aI (zI l), aI (zI x), aI (zI lf), aI x5, aU, aU, aU, aU, aU, aU, aU] [] h' ∧ mfr (fun a j => (a = 94 ∧ j = 41) ∨ a = 126) h h' ∧ TL h' ds' ∧ W12 ds' ∧ ∀ e, e ∈ ds' ↔ e ∈ ds ∨ ∃ (t' : Nat) (m : Mv), t ≤ t' ∧ r.2.2.2[t']? = some m ∧ canB m c l x = true ∧ e = goC m c x ∧ F (eK (kn e)) = lf := by
      intro h1 ds1 e1 f1 tl1 w1 g1
      obtain ⟨h', ds', e, f, tl', w', g⟩ := gw_m d (x5 := x5) (F := F) hj hv hc hl hx hlf k (t + 1) h1 ds1 (by omega) (q.mv (f1.mo (fun a i hF => by unfold wdF; omega))) tl1 w1
      refine ⟨h', ds', ?_, f1.tr f, tl', w', fun e => ?_⟩
      · rw [e1, E_M_goWide_30, nadd1, lt_e]; assumption
      · rw [g e, g1 e]
        constructor
        · rintro ((z | z) | ⟨t', m, z1, z2⟩)
          · exact Or.inl z
          · exact Or.inr ⟨t, _, Nat.le_refl _, hm, z⟩
          · exact Or.inr ⟨t', m, by omega, z2⟩
        · rintro (z | ⟨t', m, z1, z2, z3⟩)
          · exact Or.inl (Or.inl z)
          · by_cases y : t' = t
            · subst y
              rw [hm] at z2
              cases z2
              exact Or.inl (Or.inr z3)
            · exact Or.inr ⟨t', m, by omega, z2, z3⟩
    cases y : canB r.2.2.2[t] c l x with
    | false =>
      rw [y, if_neg (show ¬ (false = true) by simp), E_M_goWide_18, lt_e, if_pos zI_0.symm] at e0
      exact cont h ds e0 (mfr.rf _ h) tl w (fun e => ⟨Or.inl, fun z => z.elim id (fun z => by rw [y] at z; cases z.1)⟩)
    | true =>
      rw [y, if_pos rfl, E_M_goWide_18, lt_e, if_neg (by decide), gw_go d q.1 q.2.2.1 q.2.2.2 (by omega) mrw hmi.1 hc hx hlf] at e0
      by_cases z : F (eK (kn (goC r.2.2.2[t] c x))) = lf
      · obtain ⟨h1, e1, f1, tl1, w1⟩ := M_addWide (d + 1) q.1 tl w (goC_12 (x := x) hmi.1 hc hx)
        rw [if_pos z, calV_e e1] at e0
        refine cont h1 _ e0 f1 tl1 w1 (fun e => ?_)
        rw [addL_mem]
        constructor
        · rintro (v | v)
          · exact Or.inl v
          · exact Or.inr ⟨y, v, by rw [v]; exact z⟩
        · rintro (v | v)
          · exact Or.inl v
          · exact Or.inr v.2.1
      · rw [if_neg z] at e0
        exact cont h ds e0 (mfr.rf _ h) tl w (fun e => ⟨Or.inl, fun v => v.elim id (fun v => absurd (by rw [← v.2.1]; exact v.2.2) z)⟩)
theorem gw_c (d : Nat) {j l x lf : Nat} {r : Rdr} {cs : List Cfg} {F : Nat → Nat} (hj : j < 2) (hv : RV r) (wc : W12 cs) (hl : l < 3) (hx : x ≤ 12) (hlf : lf < 2147483648) : ∀ (k i : Nat) (h : AH) (ds : List Cfg), i + k = cs.length → WQ h j r F → NL h cs → TL h ds → W12 ds →
    ∃ h' ds', Rk B_M_goWide L_M_goWide (Cc (d + 2)) 1 [aR (some 94), aI (zI j), aI (zI l), aI (zI x), aI (zI lf), aI (zI i), aU, aU, aU, aU, aU, aU, aU] [] h = some (none, h') ∧ mfr (fun a j => (a = 94 ∧ j = 41) ∨ a = 126) h h' ∧ TL h' ds' ∧ W12 ds' ∧ ∀ e, e ∈ ds' ↔ e ∈ ds ∨ ∃ (i' : Nat) (c : Cfg), i ≤ i' ∧ cs[i']? = some c ∧ stq r c l x e ∧ F (eK (kn e)) = lf
  | 0, i, h, ds, hk, q, nl, tl, w => by
    have hl := wc.len
    refine ⟨h, ds, ?_, mfr.rf _ h, tl, w, fun e => ⟨Or.inl, fun q => q.elim id (fun ⟨t', m, h1, h2, _⟩ => by have := (List.getElem?_eq_some_iff.mp h2).1; omega)⟩⟩
    rw [E_M_goWide_1, obj_e (z94 q.1.1), nl.1]
    simp (disch := omega) only [nlt]
    rw [if_neg (by omega), E_M_goWide_32]
  | k + 1, i, h, ds, hk, q, nl, tl, w => by
    have hlc := wc.len
    have hi : cs[i]? = some cs[i] := List.getElem?_eq_getElem (by omega)
    have hci := wc.2 _ (List.getElem_mem (show i < cs.length by omega))
    obtain ⟨h1, ds1, e1, f1, tl1, w1, g1⟩ := gw_m d (x5 := zI i) (F := F) hj hv hci hl hx hlf r.2.2.2.length 0 h ds (by omega) q tl w
    have nl1 : NL h1 cs := ⟨by rw [f1.I (by omega)]; exact nl.1, fun i c hc => by rw [f1.I (by omega)]; exact nl.2 i c hc⟩
    obtain ⟨h', ds', e, f, tl', w', g⟩ := gw_c d (F := F) hj hv wc hl hx hlf k (i + 1) h1 ds1 (by omega) (q.mv (f1.mo (fun a i hF => by unfold wdF; omega))) nl1 tl1 w1
    refine ⟨h', ds', ?_, f1.tr f, tl', w', fun e => ?_⟩
    · rw [E_M_goWide_1, obj_e (z94 q.1.1), nl.1]
      simp (disch := omega) only [nlt]
      rw [if_pos (by omega), E_M_goWide_2, obj_e (z94 q.1.1), m38 q.1]
      simp (disch := omega) only [idx_n (z125 q.1.1), nl.2 i _ hi, lt_e]
      rw [show zI 20 = zI ((20 : Nat) : Int) from rfl, nmul]
      refine Eq.trans e1 ?_
      rw [E_M_goWide_31, nadd1, lt_e]
      assumption
    · rw [g e, g1 e]
      constructor
      · rintro ((z | ⟨t', m, -, z1, z2, z3, z4⟩) | ⟨i', c, z1, z2⟩)
        · exact Or.inl z
        · have := canB_t z2
          exact Or.inr ⟨i, _, Nat.le_refl _, hi, ⟨t', m, z1, this.1, this.2.1, by rw [z3]; exact this.2.2⟩, z4⟩
        · exact Or.inr ⟨i', c, by omega, z2⟩
      · rintro (z | ⟨i', c, z1, z2, ⟨t', m, y1, y2, y3, y4⟩, z4⟩)
        · exact Or.inl (Or.inl z)
        · by_cases y : i' = i
          · subst y
            rw [hi] at z2
            cases z2
            have := canB_i y2 y3 y4
            exact Or.inl (Or.inr ⟨t', m, Nat.zero_le _, y1, this.1, this.2, z4⟩)
          · exact Or.inr ⟨i', c, by omega, z2, ⟨t', m, y1, y2, y3, y4⟩, z4⟩
theorem M_goWide (d : Nat) {j l x lf : Nat} {r : Rdr} {cs : List Cfg} {F : Nat → Nat} {h : AH} (hj : j < 2) (hv : RV r) (wc : W12 cs) (hl : l < 3) (hx : x ≤ 12) (hlf : lf < 2147483648) (q : WQ h j r F) (nl : NL h cs) : ∃ h' ds, Cc (d + 3) k_M_goWide [aR (some 94), aI (zI j), aI (zI l), aI (zI x), aI (zI lf)] h = some (none, h') ∧ wdf h h' ∧ NL h' cs ∧ TL h' ds ∧ W12 ds ∧ ∀ e, e ∈ ds ↔ ∃ c, c ∈ cs ∧ stq r c l x e ∧ F (eK (kn e)) = lf := by
  have f0 : mfr (fun a j => (a = 94 ∧ j = 41) ∨ a = 126) h (sI h 94 41 (zI 0)) := mfr_sI h (Or.inl ⟨rfl, rfl⟩) _
  have nl0 : NL (sI h 94 41 (zI 0)) cs := ⟨by rw [f0.I (by omega)]; exact nl.1, fun i c hc => by rw [f0.I (by omega)]; exact nl.2 i c hc⟩
  obtain ⟨h', ds, e, f, tl, w, g⟩ := gw_c d (F := F) hj hv wc hl hx hlf cs.length 0 (sI h 94 41 (zI 0)) [] (by omega) (q.mv (f0.mo (fun a i hF => by unfold wdF; omega))) nl0 ⟨by rw [hI_hit]; rfl, (fun i c hc => by simp at hc)⟩ ⟨by simp, (fun c hc => by cases hc)⟩
  have f2 := f0.tr f
  refine ⟨h', ds, ?_, f2.mo (fun a i hF => by unfold wdF; omega), ⟨by rw [f2.I (by omega)]; exact nl.1, fun i c hc => by rw [f2.I (by omega)]; exact nl.2 i c hc⟩, tl, w, fun e => ?_⟩
  · rw [C_M_goWide, E_M_goWide_0, obj_e (z94 q.1.1), mb_some, lt_e]
    exact e
  · rw [g e]
    constructor
    · rintro (z | ⟨i', c, -, z2, z3⟩)
      · cases z
      · exact ⟨c, List.mem_of_getElem? z2, z3⟩
    · rintro ⟨c, z2, z3⟩
      obtain ⟨i', hi'⟩ := List.mem_iff_getElem?.mp z2
      exact Or.inr ⟨i', c, Nat.zero_le _, hi', z3⟩
