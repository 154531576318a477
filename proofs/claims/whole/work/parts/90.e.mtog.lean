/-! M: both: together, meet -/
theorem M_power (d : Nat) (h : AH) {i : Nat} (hi : i < 6) : Cc (d + 1) k_M_power [aI (zI i)] h = some (some (aI (zI ((7 ^ i : Nat) : Int))), h) := by
  have hc : i = 0 ∨ i = 1 ∨ i = 2 ∨ i = 3 ∨ i = 4 ∨ i = 5 := by omega
  rcases hc with rfl | rfl | rfl | rfl | rfl | rfl
  · rw [C_M_power, E_M_power_0, if_pos (show zI ((0 : Nat) : Int) = 0 from rfl), E_M_power_1, E_M_power_11]; rfl
  · rw [C_M_power, E_M_power_0, if_neg (by decide), E_M_power_2, if_pos (show zI ((1 : Nat) : Int) = zI 1 from rfl), E_M_power_3, E_M_power_11]; rfl
  · rw [C_M_power, E_M_power_0, if_neg (by decide), E_M_power_2, if_neg (by decide), E_M_power_4, if_pos (show zI ((2 : Nat) : Int) = zI 2 from rfl), E_M_power_5, E_M_power_11]; rfl
  · rw [C_M_power, E_M_power_0, if_neg (by decide), E_M_power_2, if_neg (by decide), E_M_power_4, if_neg (by decide), E_M_power_6, if_pos (show zI ((3 : Nat) : Int) = zI 3 from rfl), E_M_power_7, E_M_power_11]; rfl
  · rw [C_M_power, E_M_power_0, if_neg (by decide), E_M_power_2, if_neg (by decide), E_M_power_4, if_neg (by decide), E_M_power_6, if_neg (by decide), E_M_power_8, if_pos (show zI ((4 : Nat) : Int) = zI 4 from rfl), E_M_power_9, E_M_power_11]; rfl
  · rw [C_M_power, E_M_power_0, if_neg (by decide), E_M_power_2, if_neg (by decide), E_M_power_4, if_neg (by decide), E_M_power_6, if_neg (by decide), E_M_power_8, if_neg (by decide), E_M_power_10, E_M_power_11]; rfl
def h7 : List Nat → Nat
  | [] => 0
  | x :: l => x + 7 * h7 l
theorem h7_c (x : Nat) (l : List Nat) : h7 (x :: l) = x + 7 * h7 l := rfl
theorem h7_app : ∀ (a : List Nat) (y : Nat), h7 (a ++ [y]) = h7 a + y * 7 ^ a.length
  | [], y => by simp [h7]
  | x :: a, y => by
    rw [List.cons_append, h7_c, h7_c, h7_app a y, List.length_cons, Nat.pow_succ, Nat.mul_add, ← Nat.mul_assoc, Nat.mul_comm (7 ^ a.length) 7, ← Nat.mul_assoc, Nat.mul_comm y 7]
    rw [Nat.mul_assoc 7 y]
    omega
theorem h7_at : ∀ (a : List Nat) (j x : Nat), (∀ y, y ∈ a → y < 7) → a[j]? = some x → h7 a / 7 ^ j % 7 = x
  | [], j, x, _, h => by simp at h
  | y :: a, 0, x, hb, h => by
    simp at h
    subst h
    have := hb y List.mem_cons_self
    rw [h7_c, Nat.pow_zero, Nat.div_one]
    omega
  | y :: a, j + 1, x, hb, h => by
    have hy := hb y List.mem_cons_self
    rw [h7_c, Nat.pow_succ, Nat.mul_comm (7 ^ j) 7, ← Nat.div_div_eq_div_mul, show (y + 7 * h7 a) / 7 = h7 a by omega]
    exact h7_at a j x (fun z hz => hb z (List.mem_cons_of_mem _ hz)) (by simpa using h)
theorem h7_lt : ∀ (a : List Nat), (∀ y, y ∈ a → y < 7) → h7 a < 7 ^ a.length
  | [], _ => by decide
  | y :: a, hb => by
    have := h7_lt a (fun z hz => hb z (List.mem_cons_of_mem _ hz))
    have := hb y List.mem_cons_self
    rw [h7_c, List.length_cons, Nat.pow_succ]
    omega
def snf : List Nat → List Nat → List Nat
  | s, [] => s
  | s, x :: l => snf (ad s x) l
theorem snf_p : ∀ (l s : List Nat), ∃ t, snf s l = s ++ t
  | [], s => ⟨[], by simp [snf]⟩
  | x :: l, s => by
    obtain ⟨t, ht⟩ := snf_p l (ad s x)
    unfold snf
    rw [ht]
    unfold ad
    split
    · exact ⟨t, rfl⟩
    · exact ⟨[x] ++ t, by rw [List.append_assoc]⟩
theorem ad_x {s : List Nat} {x : Nat} (h : x ≠ 0) : x ∈ ad s x ∧ (ad s x).idxOf x = s.idxOf x := by
  unfold ad
  by_cases y : x ∈ s
  · rw [if_pos (Or.inr y)]; exact ⟨y, rfl⟩
  · rw [if_neg (by rintro (q | q); exact h q; exact y q)]
    refine ⟨List.mem_append_right _ (List.mem_singleton.mpr rfl), ?_⟩
    rw [List.idxOf_append, if_neg y, List.idxOf_eq_length y]
    simp
theorem ls_at : ∀ (pre s : List Nat) (j x : Nat), pre[j]? = some x → x ≠ 0 → (ls s pre)[j]? = some ((snf s pre).idxOf x + 1) ∧ x ∈ snf s pre
  | [], s, j, x, h, _ => by simp at h
  | y :: pre, s, 0, x, h, hx => by
    simp at h
    subst h
    obtain ⟨t, ht⟩ := snf_p pre (ad s y)
    obtain ⟨a1, a2⟩ := ad_x (s := s) hx
    unfold snf ls
    rw [ht]
    refine ⟨?_, List.mem_append_left _ a1⟩
    rw [List.getElem?_cons_zero, List.idxOf_append, if_pos a1, a2]
    unfold lb
    rw [if_neg hx]
  | y :: pre, s, j + 1, x, h, hx => by
    unfold snf ls
    rw [List.getElem?_cons_succ]
    exact ls_at pre (ad s y) j x (by simpa using h) hx
theorem ls_app : ∀ (pre s : List Nat) (x : Nat), ls s (pre ++ [x]) = ls s pre ++ [lb (snf s pre) x]
  | [], s, x => rfl
  | y :: pre, s, x => by
    rw [List.cons_append]
    unfold snf ls
    rw [ls_app pre, List.cons_append]
theorem snf_app : ∀ (pre s : List Nat) (x : Nat), snf s (pre ++ [x]) = ad (snf s pre) x
  | [], s, x => rfl
  | y :: pre, s, x => by rw [List.cons_append]; unfold snf; exact snf_app pre _ x
theorem snf_m : ∀ (pre s : List Nat) (x : Nat), x ≠ 0 → (x ∈ snf s pre ↔ x ∈ s ∨ x ∈ pre)
  | [], s, x, _ => by simp [snf]
  | y :: pre, s, x, hx => by
    unfold snf
    rw [snf_m pre _ x hx]
    unfold ad
    by_cases z : y = 0 ∨ y ∈ s
    · rw [if_pos z, List.mem_cons]
      constructor
      · rintro (q | q)
        · exact Or.inl q
        · exact Or.inr (Or.inr q)
      · rintro (q | q | q)
        · exact Or.inl q
        · rcases z with z | z
          · exact absurd (q.trans z) hx
          · rw [q]; exact Or.inl z
        · exact Or.inr q
    · rw [if_neg z, List.mem_append, List.mem_singleton, List.mem_cons, or_assoc]
theorem snf_l (pre : List Nat) : (snf [] pre).length ≤ pre.length ∧ (snf [] pre).length = mx 0 (ls [] pre) := by
  have key : ∀ (pre s : List Nat), (snf s pre).length = mx s.length (ls s pre) := by
    intro pre
    induction pre with
    | nil => intro s; rfl
    | cons y pre ih =>
      intro s
      unfold snf ls mx
      rw [(lb_ad s y).2]
      exact ih _
  have k := key pre []
  have m := ls_mx pre []
  rw [List.length_nil, Nat.zero_add] at m
  rw [List.length_nil] at k
  exact ⟨by omega, k⟩
theorem ls_b (pre : List Nat) (h : pre.length ≤ 6) : ∀ y, y ∈ ls [] pre → y < 7 := by
  intro y hy
  have := CL_mx _ _ (ls_CL pre [])
  rw [List.length_nil, ls_len] at this
  have := this.2.2 y hy
  omega
def HT (h : AH) (v : List Nat) : Prop := ∀ (i x : Nat), v[i]? = some x → hI h 131 i = zI x
theorem tg_in (d : Nat) {h : AH} (p : MS h) {v : List Nat} (hv : v.length = 6) (ht : HT h v) (vb : ∀ x, x ∈ v → x < 100) {x1 x2 : Int32} {i x : Nat} {x4 : Int32} (hi : i < 6) (hx : v[i]? = some x) (hx0 : x ≠ 0) : ∀ (n j lab : Nat), j + n = i → (lab = if x ∈ v.take j then lb (snf [] (v.take i)) x else 0) →
    Rk B_M_together L_M_together (Cc (d + 1)) 4 [aR (some 94), aI x1, aI x2, aI (zI (h7 (ls [] (v.take i)))), aI x4, aI (zI i), aI (zI lab), aI (zI j)] [] h = Rk B_M_together L_M_together (Cc (d + 1)) 9 [aR (some 94), aI x1, aI x2, aI (zI (h7 (ls [] (v.take i)))), aI x4, aI (zI i), aI (zI ((if x ∈ v.take i then lb (snf [] (v.take i)) x else 0 : Nat) : Int)), aU] [] h
  | 0, j, lab, hj, hl => by
    have e : j = i := by omega
    subst e
    rw [E_M_together_4]
    simp (disch := omega) only [nlt]
    rw [if_neg (by omega), hl]
  | n + 1, j, lab, hj, hl => by
    have hvj : v[j]? = some v[j] := List.getElem?_eq_getElem (by omega)
    have b1 := vb _ (List.getElem_mem (show j < v.length by omega))
    have b2 := vb _ (List.mem_of_getElem? hx)
    have tl : (v.take i).length = i := by rw [List.length_take]; omega
    have tk : v.take (j + 1) = v.take j ++ [v[j]] := by rw [List.take_add_one, hvj]; rfl
    have hh := h7_lt (ls [] (v.take i)) (ls_b _ (by omega))
    rw [ls_len, tl] at hh
    have h76 : (7 : Nat) ^ i ≤ 7 ^ 5 := Nat.pow_le_pow_right (by omega) (by omega)
    have h75 : (7 : Nat) ^ 5 = 16807 := by decide
    have h7j : (7 : Nat) ^ j ≤ 7 ^ 5 := Nat.pow_le_pow_right (by omega) (by omega)
    have h7p : 0 < (7 : Nat) ^ j := Nat.pow_pos (by omega)
    have hdl : h7 (ls [] (v.take i)) / 7 ^ j ≤ h7 (ls [] (v.take i)) := Nat.div_le_self _ _
    have fin : ∀ lab' : Nat, (lab' = if x ∈ v.take (j + 1) then lb (snf [] (v.take i)) x else 0) → Rk B_M_together L_M_together (Cc (d + 1)) 8 [aR (some 94), aI x1, aI x2, aI (zI (h7 (ls [] (v.take i)))), aI x4, aI (zI i), aU, aI (zI j)] [aI (zI lab')] h = Rk B_M_together L_M_together (Cc (d + 1)) 9 [aR (some 94), aI x1, aI x2, aI (zI (h7 (ls [] (v.take i)))), aI x4, aI (zI i), aI (zI ((if x ∈ v.take i then lb (snf [] (v.take i)) x else 0 : Nat) : Int)), aU] [] h := by
      intro lab' hlab
      rw [E_M_together_8, lt_e, nadd1, lt_e]
      exact tg_in d p hv ht vb hi hx hx0 n (j + 1) lab' (by omega) hlab
    rw [E_M_together_4]
    simp (disch := omega) only [nlt]
    rw [if_pos (by omega), E_M_together_5, obj_e (z94 p.1), m47 p]
    simp (disch := omega) only [idx_n (z131 p.1), ht j _ hvj, obj_e (z94 p.1), m47 p, ht i x hx, neq]
    by_cases z : v[j] = x
    · have hpj : (v.take i)[j]? = some x := by rw [List.getElem?_take, if_pos (by omega), hvj, z]
      have hla := ls_at (v.take i) [] j x hpj hx0
      have hat := h7_at (ls [] (v.take i)) j _ (ls_b _ (by omega)) hla.1
      rw [if_pos z, E_M_together_6, calI_e (M_power _ h (by omega)), if_neg (by rw [neq0 (by omega)]; omega), if_neg (by decide), ndiv (by omega) h7p (by omega), show zI 7 = zI ((7 : Nat) : Int) from rfl, nrem (by omega) (by omega) (by omega), hat]
      refine fin _ ?_
      rw [if_pos (by rw [tk, z]; exact List.mem_append_right _ (List.mem_singleton.mpr rfl))]
      unfold lb
      rw [if_neg hx0]
    · rw [if_neg z, E_M_together_7]
      refine fin _ ?_
      rw [hl]
      have : x ∈ v.take (j + 1) ↔ x ∈ v.take j := by
        rw [tk, List.mem_append, List.mem_singleton]
        exact ⟨fun q => q.elim id (fun q => absurd q.symm z), Or.inl⟩
      simp only [this]
theorem tg_lp (d : Nat) {h : AH} (p : MS h) {v : List Nat} (hv : v.length = 6) (ht : HT h v) (vb : ∀ x, x ∈ v → x < 100) {x1 x2 : Int32} : ∀ (n i : Nat), i + n = 6 →
    Rk B_M_together L_M_together (Cc (d + 1)) 1 [aR (some 94), aI x1, aI x2, aI (zI (h7 (ls [] (v.take i)))), aI (zI (snf [] (v.take i)).length), aI (zI i), aU, aU] [] h = Rk B_M_together L_M_together (Cc (d + 1)) 12 [aU, aI x1, aI x2, aI (zI (h7 (ls [] v))), aU, aU, aU, aU] [] h
  | 0, i, hi => by
    rw [E_M_together_1, show zI 6 = zI ((6 : Nat) : Int) from rfl]
    simp (disch := omega) only [nlt]
    rw [if_neg (by omega), List.take_of_length_le (by omega)]
  | n + 1, i, hi => by
    have hvi : v[i]? = some v[i] := List.getElem?_eq_getElem (by omega)
    obtain ⟨x, hx⟩ : ∃ x, v[i]? = some x := ⟨_, hvi⟩
    have b2 := vb _ (List.mem_of_getElem? hx)
    have tl : (v.take i).length = i := by rw [List.length_take]; omega
    have tk : v.take (i + 1) = v.take i ++ [x] := by rw [List.take_add_one, hx]; rfl
    have sl := (snf_l (v.take i)).1
    have ih := tg_lp d p hv ht vb (x1 := x1) (x2 := x2) n (i + 1) (by omega)
    have hh := h7_lt (ls [] (v.take i)) (ls_b _ (by omega))
    rw [ls_len, tl] at hh
    have h76 : (7 : Nat) ^ i ≤ 7 ^ 5 := Nat.pow_le_pow_right (by omega) (by omega)
    have h75 : (7 : Nat) ^ 5 = 16807 := by decide
    have la := lb_ad (snf [] (v.take i)) x
    have fin : Rk B_M_together L_M_together (Cc (d + 1)) 11 [aR (some 94), aI x1, aI x2, aI (zI (h7 (ls [] (v.take i)))), aI (zI ((ad (snf [] (v.take i)) x).length : Nat)), aI (zI i), aI (zI (lb (snf [] (v.take i)) x)), aU] [] h = Rk B_M_together L_M_together (Cc (d + 1)) 12 [aU, aI x1, aI x2, aI (zI (h7 (ls [] v))), aU, aU, aU, aU] [] h := by
      rw [E_M_together_11, calI_e (M_power _ h (by omega)), nmul, nadd, lt_e, nadd1, lt_e, ← ih, tk, ls_app, h7_app, snf_app, ls_len, tl]
    rw [E_M_together_1, show zI 6 = zI ((6 : Nat) : Int) from rfl]
    simp (disch := omega) only [nlt]
    rw [if_pos (by omega), E_M_together_2, lt_e, obj_e (z94 p.1), m47 p]
    simp (disch := omega) only [idx_n (z131 p.1), ht i x hx, neq0]
    by_cases z : x = 0
    · have e1 : lb (snf [] (v.take i)) x = 0 := by unfold lb; rw [if_pos z]
      have e2 : ad (snf [] (v.take i)) x = snf [] (v.take i) := by unfold ad; rw [if_pos (Or.inl z)]
      rw [e1, e2] at fin
      rw [if_pos z]
      exact fin
    · rw [if_neg z, E_M_together_3, lt_e, zc0, tg_in d p hv ht vb (by omega) hx z i 0 0 (by omega) (by simp), E_M_together_9]
      have mem : x ∈ snf [] (v.take i) ↔ x ∈ v.take i := by rw [snf_m _ _ _ z]; simp
      by_cases y : x ∈ v.take i
      · rw [if_pos y]
        have hl0 : lb (snf [] (v.take i)) x ≠ 0 := by unfold lb; rw [if_neg z]; omega
        have e2 : ad (snf [] (v.take i)) x = snf [] (v.take i) := by unfold ad; rw [if_pos (Or.inr (mem.mpr y))]
        rw [e2] at fin
        simp (disch := omega) only [neq0]
        rw [if_neg hl0]
        exact fin
      · rw [if_neg y, if_pos (show zI ((0 : Nat) : Int) = 0 from rfl), E_M_together_10, nadd1, lt_e, lt_e]
        have ny : x ∉ snf [] (v.take i) := fun q => y (mem.mp q)
        have e1 : lb (snf [] (v.take i)) x = (snf [] (v.take i)).length + 1 := by unfold lb; rw [if_neg z, List.idxOf_eq_length ny]
        have e2 : (ad (snf [] (v.take i)) x).length = (snf [] (v.take i)).length + 1 := by rw [← la.2, e1]; omega
        rw [e1, e2] at fin
        exact fin
def eB (J : Jc) : Nat := J.1.1 + 6 * J.2.1 + 36 * h7 (rs J)
theorem M_together (d : Nat) {h : AH} (p : MS h) {J : Jc} (ht : HT h (rs J)) (vb : ∀ x, x ∈ rs J → x < 100) : Cc (d + 2) k_M_together [aR (some 94), aI (zI J.1.1), aI (zI J.2.1)] h = some (some (aI (zI (eB (kj J)))), h) := by
  rw [C_M_together, E_M_together_0, lt_e, lt_e, lt_e]
  refine Eq.trans (tg_lp d p (rs_len J) ht vb (x1 := zI J.1.1) (x2 := zI J.2.1) 6 0 (by omega)) ?_
  rw [E_M_together_12, show zI 6 = zI ((6 : Nat) : Int) from rfl, show zI 36 = zI ((36 : Nat) : Int) from rfl, nmul, nmul, nadd, nadd]
  unfold eB
  rw [kj_rs]
  rfl
theorem JV.b7 {J : Jc} (h : JV J) : ∀ y, y ∈ rs J → y < 7 := by
  intro y hy
  obtain ⟨a, b, c⟩ := CL_mx _ _ h.2.2
  rw [rs_len] at b
  have := c y hy
  omega
theorem eB_lt {J : Jc} (h : JV J) : eB J < 4235364 := by
  have := h7_lt _ h.b7
  rw [rs_len] at this
  have e : (7 : Nat) ^ 6 = 117649 := by decide
  have := h.1
  have := h.2.1
  unfold eB
  omega
theorem h7_inj : ∀ (a b : List Nat), a.length = b.length → (∀ y, y ∈ a → y < 7) → (∀ y, y ∈ b → y < 7) → h7 a = h7 b → a = b
  | [], [], _, _, _, _ => rfl
  | [], _ :: _, h, _, _, _ => by simp at h
  | _ :: _, [], h, _, _, _ => by simp at h
  | x :: a, y :: b, hl, ha, hb, e => by
    have := ha x List.mem_cons_self
    have := hb y List.mem_cons_self
    rw [h7_c, h7_c] at e
    have e1 : x = y := by omega
    rw [e1, h7_inj a b (by simpa using hl) (fun z hz => ha z (List.mem_cons_of_mem _ hz)) (fun z hz => hb z (List.mem_cons_of_mem _ hz)) (by omega)]
theorem eB_inj {J J' : Jc} (h : JV J) (h' : JV J') (e : eB J = eB J') : J = J' := by
  have a1 := h.1
  have a2 := h.2.1
  have b1 := h'.1
  have b2 := h'.2.1
  unfold eB at e
  have e1 : J.1.1 = J'.1.1 := by omega
  have e2 : J.2.1 = J'.2.1 := by omega
  have e3 := h7_inj _ _ (by rw [rs_len, rs_len]) h.b7 h'.b7 (by omega)
  rw [← to_rs J, ← to_rs J', e1, e2, e3]
