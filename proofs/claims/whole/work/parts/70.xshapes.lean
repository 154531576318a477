/-! the class: find, shapes, shape, parted -/
theorem XI_77 {s : Stt} {h h' : AH} (p : XI s h) (f : fr (fun b => b = 77) h h') (hr : ∀ j, j ≠ 2 → j ≠ 3 → hR h' 77 j = hR h 77 j) : XI s h' := by
  have q := p
  obtain ⟨p1, p2, p3, p4, p5, p6, p7, a1, a2, a3, a4, q1, q2, q3, q4, q5, q6⟩ := q
  refine XI_rf p (f.mo (fun b hb => by omega)) (p2.mv ?_) (q1.fr f (by omega)) (q2.fr f (by omega)) (q3.fr f (by omega)) (q4.fr f (by omega)) (q5.fr f (by omega))
  intro t ht
  have : ∀ t, t ∈ XRefs → t.1 = 77 → t.2.1 ≠ 2 ∧ t.2.1 ≠ 3 := by decide
  by_cases z : t.1 = 77
  · have w := this t ht z
    rw [z]
    exact hr _ w.1 w.2
  · exact f.R z _
theorem tkn_0 (r : Rdr) : tkn r [] = tks r 0 := by
  unfold tkn
  cases y : tks r 0 with
  | true => exact bl_t.mpr ⟨c0, rfl, y⟩
  | false =>
    rw [bl_f]
    rintro ⟨c, h1, h2⟩
    rw [show c = c0 from h1] at h2
    rw [show tks r c0.1 = tks r 0 from rfl, y] at h2
    cases h2
theorem FS_0 (r o : Rdr) (l : Nat) : FS r o l 0 0 [] = if tks r 0 = tks o 0 then [] else [[]] := by
  unfold FS
  rw [SH, List.filter_cons, show rv [] [] = [] from rfl]
  unfold dif
  rw [tkn_0, tkn_0]
  cases tks r 0 <;> cases tks o 0 <;> rfl
theorem Ss_find (d : Nat) {s : Stt} {h : AH} {n l g ra oa : Nat} {r o : Rdr} (p : XI s h) (hl : l ≤ 3) (hn6 : n ≤ 6) (hg : g < 2147483648) (hr : ∀ h, XI s h → RD h ra r) (ho : ∀ h, XI s h → RD h oa o) (hra : ra ≤ 9) (hoa : oa ≤ 9) : ∃ h' ans, Cc (d + 13) k_Ss_find [aR (some 77), aR (some ra), aR (some oa), aI (zI n), aI (zI l), aI (zI g)] h = some (some (aI (zI ((ans : Nat) : Int))), h') ∧ XI s h' ∧ fr (fun a => a < 94) h h' ∧ SRes h' 0 g 0 (FS r o l n 0 []) ans := by
  obtain ⟨h6, h6e⟩ : ∃ h6, h6 = sI (sI (sI (sI (sR (sR h 77 2 (some ra)) 77 3 (some oa)) 77 4 (zI n)) 77 5 (zI l)) 77 6 (zI g)) 77 7 (zI 0) := ⟨_, rfl⟩
  have f6 : fr (fun b => b = 77) h h6 := by
    rw [h6e]
    exact ((((((fr_sR (F := fun b => b = 77) h rfl _ _).tr (fr_sR (F := fun b => b = 77) _ rfl _ _)).tr (fr_sI (F := fun b => b = 77) _ rfl _ _)).tr (fr_sI (F := fun b => b = 77) _ rfl _ _)).tr (fr_sI (F := fun b => b = 77) _ rfl _ _)).tr (fr_sI (F := fun b => b = 77) _ rfl _ _))
  have p6 : XI s h6 := by
    refine XI_77 p f6 (fun j h2 h3 => ?_)
    rw [h6e]
    show hR (sR (sR h 77 2 (some ra)) 77 3 (some oa)) 77 j = _
    rw [hR_off (Or.inr h3), hR_off (Or.inr h2)]
  have q : SQ s h6 n l g ra oa := by
    refine ⟨p6, ?_, ?_, ?_, ?_, ?_⟩
    · rw [h6e, hI_off (Or.inr (by omega)), hI_off (Or.inr (by omega)), hI_off (Or.inr (by omega)), hI_hit]
    · rw [h6e, hI_off (Or.inr (by omega)), hI_off (Or.inr (by omega)), hI_hit]
    · rw [h6e, hI_off (Or.inr (by omega)), hI_hit]
    · rw [h6e]
      show hR (sR (sR h 77 2 (some ra)) 77 3 (some oa)) 77 2 = _
      rw [hR_off (Or.inr (by omega)), hR_hit]
    · rw [h6e]
      show hR (sR (sR h 77 2 (some ra)) 77 3 (some oa)) 77 3 = _
      rw [hR_hit]
  have hv : hI h6 77 7 = zI ((0 : Nat) : Int) := by rw [h6e, hI_hit]; rfl
  have e6 : Cc (d + 13) k_Ss_find [aR (some 77), aR (some ra), aR (some oa), aI (zI n), aI (zI l), aI (zI g)] h = if n = 0 then Rk B_Ss_find L_Ss_find (Cc (d + 12)) 1 [aR (some 77), aU, aU, aU, aU, aU] [] h6 else Rk B_Ss_find L_Ss_find (Cc (d + 12)) 8 [aR (some 77), aU, aU, aU, aU, aU] [] h6 := by
    rw [C_Ss_find, E_Ss_find_0]
    simp only [obj_sI, obj_sR, mb_some, obj_e (z77 p.1)]
    rw [← h6e, q.2.1]
    simp (disch := omega) only [neq0]
  rw [e6]
  by_cases z : n = 0
  · subst z
    rw [if_pos rfl, E_Ss_find_1, obj_e (z77 p6.1), q.2.2.2.2.1, obj_e (hr h6 p6).2.1.1, zc0, calI_e (Rd_takesAt _ (hr h6 p6) (by omega)), obj_e (z77 p6.1), q.2.2.2.2.2, obj_e (ho h6 p6).2.1.1, calI_e (Rd_takesAt _ (ho h6 p6) (by omega)), FS_0, show 0 / 4096 = 0 from rfl]
    have fin : ∀ v : Nat, v ≤ 1 → Rk B_Ss_find L_Ss_find (Cc (d + 12)) 4 [aR (some 77), aU, aU, aU, aU, aU] [aI (zI v), aR (some 77)] h6 = some (some (aI (zI (((if g < v then 1 else 0 : Nat) : Nat) : Int))), sI h6 77 7 (zI v)) := by
      intro v hv1
      rw [E_Ss_find_4, obj_e (z77 p6.1), mb_some, obj_sI, obj_e (z77 p6.1), obj_sI, obj_e (z77 p6.1), hI_off (Or.inr (by omega)), hI_hit, q.2.2.2.1]
      simp (disch := omega) only [nlt]
      by_cases y : g < v
      · rw [if_pos y, if_pos y, E_Ss_find_5, E_Ss_find_7, fr1]; rfl
      · rw [if_neg y, if_neg y, E_Ss_find_6, E_Ss_find_7, fr0]; rfl
    have X7 : ∀ x, XI s (sI h6 77 7 x) ∧ fr (fun a => a < 94) h (sI h6 77 7 x) := fun x => ⟨(SQ_7 q x).1, (f6.mo (fun b hb => by omega)).tr (fr_sI (F := fun a => a < 94) _ (by omega) _ _)⟩
    by_cases y : tks r 0 = tks o 0
    · rw [y, if_pos rfl, if_pos rfl, E_Ss_find_3, zc0, fin 0 (by omega)]
      exact ⟨_, _, rfl, (X7 _).1, (X7 _).2, fun w => absurd w (Nat.not_lt_zero _), fun w => ⟨if_neg (by omega), by rw [hI_hit]; rfl⟩⟩
    · rw [if_neg y, if_neg (by cases a : tks r 0 <;> cases b : tks o 0 <;> rw [a, b] at y <;> first | exact absurd rfl y | decide), E_Ss_find_2, zc1, fin 1 (by omega)]
      refine ⟨_, _, rfl, (X7 _).1, (X7 _).2, fun w => ⟨if_pos w, [], ?_, fun j p hp => by cases hp⟩, fun w => ⟨if_neg (by rw [Nat.zero_add] at w; exact Nat.not_lt_of_le w), by rw [hI_hit]; rfl⟩⟩
      rw [show g - 0 = 0 from by simp at w; omega]; rfl
  · obtain ⟨m, rfl⟩ : ∃ m, n = m + 1 := ⟨n - 1, by omega⟩
    obtain ⟨⟨S0, hS0⟩, -⟩ := p6.set (k := 0) (by omega)
    obtain ⟨h7, e7, f7, p7⟩ := Sp_startAt (d + 8) hS0 (s := 0) (by omega)
    have q7 := SQ_sp q (k := 0) (by omega) f7 p7
    obtain ⟨⟨T0, hT0⟩, -⟩ := q7.1.set (k := 6 + 0) (by omega)
    obtain ⟨h8, e8, f8, p8⟩ := Sp_startAt (d + 8) hT0 (s := 0) (by omega)
    have q8 := SQ_sp q7 (k := 6 + 0) (by omega) f8 p8
    have p7' := p7.fr f8 (fun b hb => by unfold spF at *; omega)
    have hv8 : hI h8 77 7 = zI ((0 : Nat) : Int) := by rw [f8.I (by unfold spF; omega), f7.I (by unfold spF; omega)]; exact hv
    obtain ⟨h', ans, c1, c2, c3, -, c5⟩ := Ss_goOn (d + 6 - m) hl hn6 hg hr ho hra hoa m 0 0 0 h8 [] _ _ (by omega) (Nat.le_refl _) q8 p7' p8 (RQS_0 rfl) (RQS_0 rfl) (fun p hp => by cases hp) hv8 (Nat.zero_le _)
    rw [show d + 6 - m + m + 6 = d + 12 by omega] at c1
    refine ⟨h', ans, ?_, c2.1, (f6.mo (fun b hb => by omega)).tr (((fr_sp94 (k := 0) (by omega) f7).tr (fr_sp94 (k := 6 + 0) (by omega) f8)).tr (c3.mo (fun b hb => by unfold sF at hb; omega))), c5⟩
    rw [if_neg z, E_Ss_find_8, obj_e (z77 p6.1), zc0, calR_e (Ss_setOf _ p6 (by omega)), obj_e hS0.1.1, calV_e e7, obj_e (z77 q7.1.1), calR_e (Ss_otherSetOf _ q7.1 (by omega)), obj_e hT0.1.1, calV_e e8, obj_e (z77 q8.1.1), calI_e c1, if_pos]
    by_cases w : g < 0 + (FS r o l (m + 1) 0 []).length
    · rw [(c5.1 w).1]; exact Or.inr rfl
    · rw [(c5.2 (by omega)).1]; exact Or.inl rfl
theorem flen {α β : Type} (f : α → List β) (a : Nat) : ∀ (L : List α), (∀ x, x ∈ L → (f x).length = a) → (L.flatMap f).length = L.length * a
  | [], h => by simp
  | x :: L, h => by
    rw [List.flatMap_cons, List.length_append, h x List.mem_cons_self, flen f a L (fun y hy => h y (List.mem_cons_of_mem _ hy)), List.length_cons, Nat.succ_mul]
    omega
def nS (l : Nat) : Nat → Nat → Nat
  | 0, _ => 1
  | n + 1, used => l * (used * nS l n used + nS l n (used + 1))
theorem SH_len (l : Nat) : ∀ (n used : Nat), (SH l n used).length = nS l n used
  | 0, used => rfl
  | n + 1, used => by
    rw [SH, nS]
    unfold prl
    rw [List.flatMap_assoc, flen _ (used * nS l n used + nS l n (used + 1)), List.length_range']
    intro lt _
    rw [List.flatMap_map, List.range'_1_concat, List.flatMap_append, List.length_append, flen _ (nS l n used)]
    · simp only [List.length_range', List.flatMap_cons, List.flatMap_nil, List.append_nil, List.length_map]
      rw [SH_len l n]
      unfold nu
      rw [if_pos (by omega)]
    · intro x hx
      rw [List.mem_range'_1] at hx
      rw [List.length_map, SH_len l n]
      show nS l n (nu used x) = _
      unfold nu
      rw [if_neg (by omega)]
theorem nS_le : ∀ l, l < 4 → ∀ n, n < 7 → nS l n 0 ≤ 1000000 := by decide +kernel
theorem FS_len (r o : Rdr) {l n : Nat} (hl : l ≤ 3) (hn : n ≤ 6) : (FS r o l n 0 []).length ≤ 1000000 := by
  have h1 : (FS r o l n 0 []).length ≤ (SH l n 0).length := List.length_filter_le _ _
  rw [SH_len] at h1
  exact Nat.le_trans h1 (nS_le l (by omega) n (by omega))
/-- the pair k of the row i -/
def pcA (F : List (List (Nat × Nat))) (i k : Nat) : Int := match F[i]? with
  | none => -1
  | some t => match t[k]? with
    | none => -1
    | some p => ((16 * p.1 + p.2 : Nat) : Int)
theorem SH_mem (l : Nat) : ∀ (n used : Nat) (t : List (Nat × Nat)), t ∈ SH l n used → t.length = n
  | 0, used, t, h => by rw [SH, List.mem_singleton] at h; rw [h]; rfl
  | n + 1, used, t, h => by
    rw [SH, List.mem_flatMap] at h
    obtain ⟨p, -, h2⟩ := h
    rw [List.mem_map] at h2
    obtain ⟨t', h3, rfl⟩ := h2
    rw [List.length_cons, SH_mem l n _ t' h3]
theorem FS_mem {r o : Rdr} {l n used : Nat} {u t : List (Nat × Nat)} (h : t ∈ FS r o l n used u) : t.length = n := SH_mem l n used t (List.mem_filter.mp h).1
theorem Ss_pairAt (d : Nat) {s : Stt} {h : AH} (p : XI s h) {k : Nat} (hk : k < 6) : Cc (d + 1) k_Ss_pairAt [aR (some 77), aI (zI k)] h = some (some (aI (hI h 78 k)), h) := by
  rw [C_Ss_pairAt, E_Ss_pairAt_0, obj_e (z77 p.1), p.r (c := 78) (by decide)]
  simp (disch := omega) only [idx_n (z78 p.1)]
theorem pcA_e {r o : Rdr} {l n g k ans : Nat} {h : AH} (hk : k < n) (c : SRes h 0 g 0 (FS r o l n 0 []) ans) (hg : g < (FS r o l n 0 []).length) : hI h 78 k = zI (pcA (FS r o l n 0 []) g k) := by
  obtain ⟨-, t, h1, h2⟩ := c.1 (by omega)
  rw [Nat.sub_zero] at h1
  have hl := FS_mem (List.mem_of_getElem? h1)
  have hk' : t[k]? = some t[k] := List.getElem?_eq_getElem (by omega)
  have := h2 k _ hk'
  rw [Nat.zero_add] at this
  rw [this]
  unfold pcA
  rw [h1]
  show _ = zI (match t[k]? with | none => -1 | some p => ((16 * p.1 + p.2 : Nat) : Int))
  rw [hk']
noncomputable def shsA (x n l : Int) (s : Stt) : Int := if x = 0 ∨ x = 1 then (if 0 ≤ n ∧ n ≤ 6 then (if 1 ≤ l ∧ l ≤ 3 then ((FS (rdr s x) BLK l.toNat n.toNat 0 []).length : Int) else -3) else -3) else -2
theorem X_shapes {x n l : Int} (x1 : -2147483648 ≤ x) (x2 : x < 2147483648) (n1 : -2147483648 ≤ n) (n2 : n < 2147483648) (l1 : -2147483648 ≤ l) (l2 : l < 2147483648) : XOK k_X_shapes [aI (zI x), aI (zI n), aI (zI l)] (shsA x n l) id := by
  intro s h p
  unfold shsA
  rw [C_X_shapes, E_X_shapes_0, obj_e p.o, calR_e (X_readerOf _ p x1 x2), xo_if]
  by_cases a1 : x = 0 ∨ x = 1
  · simp only [if_pos a1]
    rw [xo_some a1, E_X_shapes_2, calI_e (X_within _ h n1 n2 (by omega) (by omega) (by omega) (by omega)), if01]
    by_cases a2 : 0 ≤ n ∧ n ≤ 6
    · simp only [if_pos a2]
      rw [E_X_shapes_3, calI_e (X_within _ h l1 l2 (by omega) (by omega) (by omega) (by omega)), if01]
      by_cases a3 : 1 ≤ l ∧ l ≤ 3
      · simp only [if_pos a3]
        obtain ⟨i, rfl⟩ : ∃ i : Nat, n = i := ⟨n.toNat, by omega⟩
        obtain ⟨j, rfl⟩ : ∃ i : Nat, l = i := ⟨l.toNat, by omega⟩
        obtain ⟨h', ans, c1, c2, c3, c4⟩ := Ss_find 46 (g := 1000000001) (ra := xa x) (oa := 9) (r := rdr s x) (o := BLK) p (l := j) (n := i) (by omega) (by omega) (by omega) (fun h q => q.rd x) (fun h q => q.2.2.2.2.1) (xa_le x) (by omega)
        have hlen := FS_len (rdr s x) BLK (l := j) (n := i) (by omega) (by omega)
        refine ⟨h', ?_, c3, c2⟩
        rw [E_X_shapes_5, obj_e p.o, obj_e p.o, p.r (c := 77) (by decide), p.r (c := 9) (by decide), obj_e (z77 p.1), calI_e (show Cc 59 k_Ss_find [aR (some 77), aR (some (xa x)), aR (some 9), aI (zI i), aI (zI j), aI (zI 1000000001)] h = _ from c1), obj_e c2.o, c2.r (c := 77) (by decide), obj_e (z77 c2.1), calI_e (show Cc 59 k_Ss_passed [aR (some 77)] h' = some (some (aI (hI h' 77 7)), h') by rw [C_Ss_passed, E_Ss_passed_0, obj_e (z77 c2.1)]), (c4.2 (by omega)).2, Nat.zero_add]
        rfl
      · simp only [if_neg a3]
        exact ⟨h, by rw [E_X_shapes_4], fr.rf _ h, p⟩
    · simp only [if_neg a2]
      exact ⟨h, by rw [E_X_shapes_4], fr.rf _ h, p⟩
  · simp only [if_neg a1]
    exact ⟨h, by rw [E_X_shapes_1], fr.rf _ h, p⟩
noncomputable def shpA (x n l i k : Int) (s : Stt) : Int := if x = 0 ∨ x = 1 then (if 0 ≤ n ∧ n ≤ 6 then (if 1 ≤ l ∧ l ≤ 3 then (if i < 0 then -3 else if k < 0 then -3 else if k < n then (if i < (FS (rdr s x) BLK l.toNat n.toNat 0 []).length then pcA (FS (rdr s x) BLK l.toNat n.toNat 0 []) i.toNat k.toNat else -1) else -1) else -3) else -3) else -2
theorem X_shape {x n l i k : Int} (x1 : -2147483648 ≤ x) (x2 : x < 2147483648) (n1 : -2147483648 ≤ n) (n2 : n < 2147483648) (l1 : -2147483648 ≤ l) (l2 : l < 2147483648) (i1 : -2147483648 ≤ i) (i2 : i < 2147483648) (k1 : -2147483648 ≤ k) (k2 : k < 2147483648) : XOK k_X_shape [aI (zI x), aI (zI n), aI (zI l), aI (zI i), aI (zI k)] (shpA x n l i k) id := by
  intro s h p
  unfold shpA
  rw [C_X_shape, E_X_shape_0, obj_e p.o, calR_e (X_readerOf _ p x1 x2), xo_if]
  by_cases a1 : x = 0 ∨ x = 1
  · simp only [if_pos a1]
    rw [xo_some a1, E_X_shape_2, calI_e (X_within _ h n1 n2 (by omega) (by omega) (by omega) (by omega)), if01]
    by_cases a2 : 0 ≤ n ∧ n ≤ 6
    · simp only [if_pos a2]
      rw [E_X_shape_3, calI_e (X_within _ h l1 l2 (by omega) (by omega) (by omega) (by omega)), if01]
      by_cases a3 : 1 ≤ l ∧ l ≤ 3
      · simp only [if_pos a3]
        rw [E_X_shape_4]
        simp (disch := omega) only [ylt0]
        by_cases a4 : i < 0
        · simp only [if_pos a4]
          exact ⟨h, by rw [E_X_shape_6], fr.rf _ h, p⟩
        · simp only [if_neg a4]
          rw [E_X_shape_5]
          simp (disch := omega) only [ylt0]
          by_cases a5 : k < 0
          · simp only [if_pos a5]
            exact ⟨h, by rw [E_X_shape_6], fr.rf _ h, p⟩
          · simp only [if_neg a5]
            rw [E_X_shape_7]
            simp (disch := omega) only [ylt]
            by_cases a6 : k < n
            · simp only [if_pos a6]
              obtain ⟨n', rfl⟩ : ∃ i : Nat, n = i := ⟨n.toNat, by omega⟩
              obtain ⟨j, rfl⟩ : ∃ i : Nat, l = i := ⟨l.toNat, by omega⟩
              obtain ⟨g, rfl⟩ : ∃ g : Nat, i = g := ⟨i.toNat, by omega⟩
              obtain ⟨t, rfl⟩ : ∃ g : Nat, k = g := ⟨k.toNat, by omega⟩
              obtain ⟨h', ans, c1, c2, c3, c4⟩ := Ss_find 46 (g := g) (ra := xa x) (oa := 9) (r := rdr s x) (o := BLK) p (l := j) (n := n') (by omega) (by omega) (by omega) (fun h q => q.rd x) (fun h q => q.2.2.2.2.1) (xa_le x) (by omega)
              refine ⟨h', ?_, c3, c2⟩
              rw [E_X_shape_8, obj_e p.o, obj_e p.o, p.r (c := 77) (by decide), p.r (c := 9) (by decide), obj_e (z77 p.1), calI_e c1]
              simp only [Int.toNat_natCast]
              by_cases a7 : g < (FS (rdr s x) BLK j n' 0 []).length
              · rw [(c4.1 (by omega)).1, if_neg (by decide), if_pos (by omega), E_X_shape_9, obj_e c2.o, c2.r (c := 77) (by decide), obj_e (z77 c2.1), calI_e (Ss_pairAt _ c2 (by omega)), E_X_shape_11, pcA_e (by omega) c4 a7]
              · rw [(c4.2 (by omega)).1, if_pos (show zI ((0 : Nat) : Int) = 0 from rfl), if_neg (by omega), E_X_shape_10, E_X_shape_11]
            · simp only [if_neg a6]
              exact ⟨h, by rw [E_X_shape_10, E_X_shape_11], fr.rf _ h, p⟩
      · simp only [if_neg a3]
        exact ⟨h, by rw [E_X_shape_6], fr.rf _ h, p⟩
    · simp only [if_neg a2]
      exact ⟨h, by rw [E_X_shape_6], fr.rf _ h, p⟩
  · simp only [if_neg a1]
    exact ⟨h, by rw [E_X_shape_1], fr.rf _ h, p⟩
noncomputable def prtA (s : Stt) (k : Int) : Nat → Nat → Int
  | 0, _ => -1
  | f + 1, len => if (FS s.1 s.2.1 3 len 0 []).length = 0 then prtA s k f (len + 1) else if k < 0 then len else if k < len then pcA (FS s.1 s.2.1 3 len 0 []) 0 k.toNat else -1
theorem prt_lp {n k : Int} (n1 : 0 ≤ n) (n2 : n ≤ 5) (k1 : -1 ≤ k) (k2 : k < 2147483648) {s : Stt} : ∀ (f len : Nat) (h : AH), ((len + f : Nat) : Int) = n + 1 → XI s h → ∃ h1, Rk B_X_parted L_X_parted (Cc 59) 4 [aR (some 0), aI (zI n), aI (zI k), aI (zI len)] [] h = some (some (aI (zI (prtA s k f len))), h1) ∧ fr (fun a => a < 94) h h1 ∧ XI s h1
  | 0, len, h, hl, p => by
    refine ⟨h, ?_, fr.rf _ h, p⟩
    rw [E_X_parted_4]
    simp (disch := omega) only [yle]
    rw [if_neg (by omega), E_X_parted_13]
    rfl
  | f + 1, len, h, hl, p => by
    obtain ⟨h', ans, c1, c2, c3, c4⟩ := Ss_find 46 (g := 0) (ra := 1) (oa := 5) (r := s.1) (o := s.2.1) p (l := 3) (n := len) (by omega) (by omega) (by omega) (fun h q => q.2.2.1) (fun h q => q.2.2.2.1) (by omega) (by omega)
    have e : Rk B_X_parted L_X_parted (Cc 59) 4 [aR (some 0), aI (zI n), aI (zI k), aI (zI len)] [] h = if zI ((ans : Nat) : Int) = 0 then Rk B_X_parted L_X_parted (Cc 59) 12 [aR (some 0), aI (zI n), aI (zI k), aI (zI len)] [] h' else Rk B_X_parted L_X_parted (Cc 59) 6 [aR (some 0), aU, aI (zI k), aI (zI len)] [] h' := by
      rw [E_X_parted_4]
      simp (disch := omega) only [yle]
      rw [if_pos (by omega), E_X_parted_5, obj_e p.o, obj_e p.o, obj_e p.o, p.r (a := 0) (j := 8) (c := 77) (by decide), p.r (c := 1) (by decide), p.r (c := 5) (by decide), obj_e (z77 p.1), zc3, zc0, calI_e c1]
    rw [e, prtA]
    by_cases z : (FS s.1 s.2.1 3 len 0 []).length = 0
    · rw [(c4.2 (by omega)).1, if_pos (show zI ((0 : Nat) : Int) = 0 from rfl), if_pos z, E_X_parted_12, lt_e, nadd1]
      obtain ⟨h1, b1, b2, b3⟩ := prt_lp n1 n2 k1 k2 f (len + 1) h' (by omega) c2
      exact ⟨h1, b1, c3.tr b2, b3⟩
    · rw [(c4.1 (by omega)).1, if_neg (by decide), if_neg z, E_X_parted_6]
      simp (disch := omega) only [ylt0]
      refine ⟨h', ?_, c3, c2⟩
      by_cases y : k < 0
      · rw [if_pos y, if_pos y, E_X_parted_7]
      · rw [if_neg y, if_neg y, E_X_parted_8]
        simp (disch := omega) only [ylt]
        by_cases w : k < len
        · obtain ⟨t, rfl⟩ : ∃ g : Nat, k = g := ⟨k.toNat, by omega⟩
          rw [if_pos w, if_pos w, E_X_parted_9, obj_e c2.o, c2.r (c := 77) (by decide), obj_e (z77 c2.1), calI_e (Ss_pairAt _ c2 (by omega)), E_X_parted_11, pcA_e (by omega) c4 (by omega)]
          rfl
        · rw [if_neg w, if_neg w, E_X_parted_10, E_X_parted_11]
noncomputable def ptdA (n k : Int) (s : Stt) : Int := if 0 ≤ n ∧ n ≤ 5 then (if k < -1 then -3 else prtA s k (n.toNat + 1) 0) else -3
theorem X_parted {n k : Int} (n1 : -2147483648 ≤ n) (n2 : n < 2147483648) (k1 : -2147483648 ≤ k) (k2 : k < 2147483648) : XOK k_X_parted [aI (zI n), aI (zI k)] (ptdA n k) id := by
  intro s h p
  unfold ptdA
  rw [C_X_parted, E_X_parted_0, calI_e (X_within _ h n1 n2 (by omega) (by omega) (by omega) (by omega)), if01]
  by_cases a2 : 0 ≤ n ∧ n ≤ 5
  · simp only [if_pos a2]
    rw [E_X_parted_1]
    simp (disch := omega) only [ylt]
    by_cases a3 : k < -1
    · simp only [if_pos a3]
      exact ⟨h, by rw [E_X_parted_2], fr.rf _ h, p⟩
    · simp only [if_neg a3]
      rw [E_X_parted_3, lt_e, zc0]
      exact prt_lp a2.1 a2.2 (by omega) k2 (n.toNat + 1) 0 h (by omega) p
  · simp only [if_neg a2]
    exact ⟨h, by rw [E_X_parted_2], fr.rf _ h, p⟩
