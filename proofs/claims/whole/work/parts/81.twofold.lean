/-! X: twofold -/
def mnv (P : Nat → Prop) (v : Int) : Prop := (v = -1 ∧ ∀ k, ¬ P k) ∨ ∃ n : Nat, v = n ∧ P n ∧ ∀ k, P k → n ≤ k
theorem mnv_u {P : Nat → Prop} {v w : Int} (h1 : mnv P v) (h2 : mnv P w) : v = w := by
  rcases h1 with ⟨a1, a2⟩ | ⟨n, a1, a2, a3⟩ <;> rcases h2 with ⟨b1, b2⟩ | ⟨k, b1, b2, b3⟩
  · omega
  · exact absurd b2 (a2 k)
  · exact absurd a2 (b2 n)
  · have := a3 k b2
    have := b3 n a2
    omega
noncomputable def mnV (P : Nat → Prop) : Int := @dite _ (∃ v, mnv P v) (Classical.propDecidable _) (fun h => Classical.choose h) (fun _ => -1)
theorem mnV_e {P : Nat → Prop} {v : Int} (h : mnv P v) : mnV P = v := by
  have hx : ∃ v, mnv P v := ⟨v, h⟩
  unfold mnV
  rw [dif_pos hx]
  exact mnv_u (Classical.choose_spec hx) h
theorem mnv_c {P Q : Nat → Prop} {v : Int} (h : mnv P v) (e : ∀ k, P k ↔ Q k) : mnv Q v := by
  have : P = Q := funext fun k => propext (e k)
  rw [← this]; exact h
theorem mnv_or {P Q : Nat → Prop} {a b : Int} (h1 : mnv P a) (h2 : mnv Q b) : mnv (fun k => P k ∨ Q k) (if b < 0 then a else if a < 0 then b else if b < a then b else a) := by
  rcases h1 with ⟨a1, a2⟩ | ⟨n, a1, a2, a3⟩ <;> rcases h2 with ⟨b1, b2⟩ | ⟨k, b1, b2, b3⟩
  · rw [if_pos (by omega)]; exact Or.inl ⟨a1, fun t q => q.elim (a2 t) (b2 t)⟩
  · rw [if_neg (by omega), if_pos (by omega)]; exact Or.inr ⟨k, b1, Or.inr b2, fun t q => q.elim (fun q => absurd q (a2 t)) (b3 t)⟩
  · rw [if_pos (by omega)]; exact Or.inr ⟨n, a1, Or.inl a2, fun t q => q.elim (a3 t) (fun q => absurd q (b2 t))⟩
  · rw [if_neg (by omega), if_neg (by omega)]
    by_cases z : b < a
    · rw [if_pos z]; exact Or.inr ⟨k, b1, Or.inr b2, fun t q => q.elim (fun q => by have := a3 t q; omega) (b3 t)⟩
    · rw [if_neg z]; exact Or.inr ⟨n, a1, Or.inl a2, fun t q => q.elim (a3 t) (fun q => by have := b3 t q; omega)⟩
/-- the first two of a row -/
def ftw (f : Nat → Bool) : Option Nat → List Nat → Int
  | _, [] => -1
  | none, x :: l => if f x then ftw f (some x) l else ftw f none l
  | some a, x :: l => if f x then ((32 * a + x : Nat) : Int) else ftw f (some a) l
theorem ftw_s {f : Nat → Bool} {a : Nat} : ∀ (l : List Nat), l.Pairwise (· < ·) → mnv (fun k => ∃ y, k = 32 * a + y ∧ y ∈ l ∧ f y = true) (ftw f (some a) l)
  | [], hp => Or.inl ⟨rfl, fun k ⟨y, _, q, _⟩ => by cases q⟩
  | x :: l, hp => by
    rw [List.pairwise_cons] at hp
    unfold ftw
    cases z : f x with
    | true =>
      rw [if_pos rfl]
      refine Or.inr ⟨32 * a + x, rfl, ⟨x, rfl, List.mem_cons_self, z⟩, ?_⟩
      rintro k ⟨y, rfl, q, -⟩
      rcases List.mem_cons.mp q with w | w
      · omega
      · have := hp.1 y w; omega
    | false =>
      rw [if_neg (by simp)]
      refine mnv_c (ftw_s l hp.2) (fun k => ⟨fun ⟨y, h1, h2, h3⟩ => ⟨y, h1, List.mem_cons_of_mem _ h2, h3⟩, fun ⟨y, h1, h2, h3⟩ => ⟨y, h1, ?_, h3⟩⟩)
      rcases List.mem_cons.mp h2 with w | w
      · rw [w, z] at h3; cases h3
      · exact w
theorem ftw_n {f : Nat → Bool} : ∀ (l : List Nat), l.Pairwise (· < ·) → (∀ x, x ∈ l → x < 32) → mnv (fun k => ∃ x y, k = 32 * x + y ∧ x < y ∧ x ∈ l ∧ y ∈ l ∧ f x = true ∧ f y = true) (ftw f none l)
  | [], hp, hb => Or.inl ⟨rfl, fun k ⟨x, y, _, _, q, _⟩ => by cases q⟩
  | x :: l, hp, hb => by
    rw [List.pairwise_cons] at hp
    unfold ftw
    have ih := ftw_n (f := f) l hp.2 (fun y hy => hb y (List.mem_cons_of_mem _ hy))
    cases z : f x with
    | true =>
      rw [if_pos rfl]
      have is := ftw_s (f := f) (a := x) l hp.2
      rcases is with ⟨e, n⟩ | ⟨k, e, ⟨y, k1, k2, k3⟩, mn⟩
      · refine Or.inl ⟨e, ?_⟩
        rintro k ⟨u, v, -, h2, h3, h4, h5, h6⟩
        rcases List.mem_cons.mp h4 with w | w
        · rcases List.mem_cons.mp h3 with w' | w'
          · omega
          · have := hp.1 u w'; omega
        · exact n _ ⟨v, rfl, w, h6⟩
      · refine Or.inr ⟨k, e, ⟨x, y, k1, hp.1 y k2, List.mem_cons_self, List.mem_cons_of_mem _ k2, z, k3⟩, ?_⟩
        rintro k' ⟨u, v, h1, h2, h3, h4, h5, h6⟩
        have hy := hb y (List.mem_cons_of_mem _ k2)
        rcases List.mem_cons.mp h3 with w | w
        · rcases List.mem_cons.mp h4 with w' | w'
          · omega
          · have := mn _ ⟨v, rfl, w', h6⟩
            omega
        · have := hp.1 u w
          omega
    | false =>
      rw [if_neg (by simp)]
      refine mnv_c ih (fun k => ⟨fun ⟨u, v, h1, h2, h3, h4, h5⟩ => ⟨u, v, h1, h2, List.mem_cons_of_mem _ h3, List.mem_cons_of_mem _ h4, h5⟩, fun ⟨u, v, h1, h2, h3, h4, h5, h6⟩ => ⟨u, v, h1, h2, ?_, ?_, h5, h6⟩⟩)
      · rcases List.mem_cons.mp h3 with w | w
        · rw [w, z] at h5; cases h5
        · exact w
      · rcases List.mem_cons.mp h4 with w | w
        · rw [w, z] at h6; cases h6
        · exact w
def fiI (r : Rdr) (c : Cfg) (x : Nat) (i : Nat) : Bool := match r.2.2.2[i]? with
  | some m => fits m c x
  | none => false
def lsI (o : Option Nat) : Int := match o with
  | some a => (a : Int)
  | none => -1
theorem ft_lp (d : Nat) {ra : Nat} {r : Rdr} {c : Cfg} {lt x : Nat} {h : AH} (rd : RD h ra r) (hc : CV c) (hlt : lt < 3) (hx : x < 16) : ∀ (n j : Nat) (o : Option Nat), j + n = (bk r.2.2.2 (c.1 * 3 + lt)).length → (∀ a, o = some a → a < 20) →
    Rk B_Ol_firstTwo L_Ol_firstTwo (Cc (d + 1)) 1 [aR (some ra), aI (zI (eX c)), aU, aI (zI x), aI (zI (lsI o)), aI (zI ((bg r.2.2.2 (c.1 * 3 + lt) + (bk r.2.2.2 (c.1 * 3 + lt)).length : Nat) : Int)), aI (zI ((bg r.2.2.2 (c.1 * 3 + lt) + j : Nat) : Int)), aU] [] h = some (some (aI (zI (ftw (fiI r c x) o ((bk r.2.2.2 (c.1 * 3 + lt)).drop j)))), h)
  | 0, j, o, hn, ho => by
    have hl : bg r.2.2.2 (c.1 * 3 + lt) + (bk r.2.2.2 (c.1 * 3 + lt)).length ≤ 20 := Nat.le_trans (bg_le r.2.2.2 (c.1 * 3 + lt + 1)) rd.1.2.2.2.2.1
    rw [E_Ol_firstTwo_1]
    simp (disch := omega) only [nlt]
    rw [if_neg (by omega), E_Ol_firstTwo_7, List.drop_eq_nil_of_le (by omega)]
    cases o <;> rfl
  | n + 1, j, o, hn, ho => by
    have hl : bg r.2.2.2 (c.1 * 3 + lt) + (bk r.2.2.2 (c.1 * 3 + lt)).length ≤ 20 := Nat.le_trans (bg_le r.2.2.2 (c.1 * 3 + lt + 1)) rd.1.2.2.2.2.1
    have hc6 := hc.1
    have hj : (bk r.2.2.2 (c.1 * 3 + lt))[j]? = some (bk r.2.2.2 (c.1 * 3 + lt))[j] := List.getElem?_eq_getElem (by omega)
    obtain ⟨m, hm, hk⟩ := bk_mem hj
    have hmv := (rd.1.mi hm).1
    have hi20 := (rd.1.mi hm).2
    have hzo := zI_oX hmv hc (x := x) (by omega)
    have hdr : (bk r.2.2.2 (c.1 * 3 + lt)).drop j = (bk r.2.2.2 (c.1 * 3 + lt))[j] :: (bk r.2.2.2 (c.1 * 3 + lt)).drop (j + 1) := List.drop_eq_getElem_cons (by omega)
    have hf : fiI r c x (bk r.2.2.2 (c.1 * 3 + lt))[j] = fits m c x := by unfold fiI; rw [hm]
    rw [E_Ol_firstTwo_1]
    simp (disch := omega) only [nlt]
    rw [if_pos (by omega), E_Ol_firstTwo_2, obj_e rd.2.1.1, calI_e (Rd_moveAt _ rd (by omega) hj), lt_e, obj_e rd.2.1.1, calI_e (Rd_after _ rd hc hm (by omega)), hdr]
    simp (disch := omega) only [ylt0]
    cases y : fits m c x with
    | false =>
      have st : stp m c x = none := by unfold stp; rw [y]; rfl
      rw [st, if_pos (by decide), E_Ol_firstTwo_6, nadd1, lt_e]
      refine Eq.trans (ft_lp d rd hc hlt hx n (j + 1) o (by omega) ho) ?_
      cases o <;> simp only [ftw, hf, y] <;> rfl
    | true =>
      have st : stp m c x = some (goC m c x) := by unfold stp; rw [y]; rfl
      rw [st, oX_some, if_neg (by omega), E_Ol_firstTwo_3]
      cases o with
      | none =>
        rw [if_pos (by decide), E_Ol_firstTwo_5, lt_e, E_Ol_firstTwo_6, nadd1, lt_e]
        refine Eq.trans (ft_lp d rd hc hlt hx n (j + 1) (some (bk r.2.2.2 (c.1 * 3 + lt))[j]) (by omega) (by intro a ha; cases ha; exact hi20)) ?_
        simp only [ftw, hf, y]; rfl
      | some a =>
        have := ho a rfl
        have e0 : zI (lsI (some a)) = zI ((a : Nat) : Int) := rfl
        rw [e0]
        simp (disch := omega) only [nlt0]
        rw [if_neg (by first | omega | exact id), E_Ol_firstTwo_4]
        simp only [ftw, hf, y, if_true]
        rw [show zI 32 = zI ((32 : Nat) : Int) from rfl, nmul, nadd]
theorem bk_pw (ms : List Mv) (p : Nat) : (bk ms p).Pairwise (· < ·) := by
  unfold bk
  exact List.Pairwise.filter _ List.pairwise_lt_range
/-- two moves that may be made at once -/
def tw1 (r : Rdr) (c : Cfg) (lt x : Nat) (k : Nat) : Prop := ∃ (i j : Nat) (m n : Mv), k = 32 * i + j ∧ i < j ∧ r.2.2.2[i]? = some m ∧ r.2.2.2[j]? = some n ∧ m.1 = c.1 ∧ n.1 = c.1 ∧ m.2.1 = lt ∧ n.2.1 = lt ∧ fits m c x = true ∧ fits n c x = true
theorem Ol_firstTwo (d : Nat) {ra : Nat} {r : Rdr} {c : Cfg} {lt x : Nat} {h : AH} (rd : RD h ra r) (hc : CV c) (hlt : lt < 3) (hx : x < 16) : ∃ v, Cc (d + 2) k_Ol_firstTwo [aR (some ra), aI (zI (eX c)), aI (zI lt), aI (zI x)] h = some (some (aI (zI v)), h) ∧ mnv (tw1 r c lt x) v := by
  have hc6 := hc.1
  refine ⟨ftw (fiI r c x) none ((bk r.2.2.2 (c.1 * 3 + lt)).drop 0), ?_, ?_⟩
  · rw [C_Ol_firstTwo, E_Ol_firstTwo_0, lt_e, obj_e rd.2.1.1, calI_e (Rd_end _ rd (eX_lt hc) hlt), lt_e, obj_e rd.2.1.1, calI_e (Rd_begin _ rd (eX_lt hc) hlt), lt_e, eX_q hc]
    exact ft_lp d rd hc hlt hx (bk r.2.2.2 (c.1 * 3 + lt)).length 0 none (by omega) (by intro a ha; cases ha)
  · rw [List.drop_zero]
    have mem : ∀ i, (i ∈ bk r.2.2.2 (c.1 * 3 + lt) ∧ fiI r c x i = true) ↔ ∃ m, r.2.2.2[i]? = some m ∧ m.1 = c.1 ∧ m.2.1 = lt ∧ fits m c x = true := by
      intro i
      constructor
      · rintro ⟨h1, h2⟩
        obtain ⟨k, hk⟩ := List.mem_iff_getElem?.mp h1
        obtain ⟨m, hm, hk2⟩ := bk_mem hk
        have := (rd.1.mi hm).1.2.1
        unfold fiI at h2
        rw [hm] at h2
        unfold key at hk2
        exact ⟨m, hm, by omega, by omega, h2⟩
      · rintro ⟨m, hm, h1, h2, h3⟩
        constructor
        · apply List.mem_iff_getElem?.mpr
          rw [bk_iff]
          exact ⟨m, hm, by unfold key; omega⟩
        · unfold fiI; rw [hm]; exact h3
    refine mnv_c (ftw_n _ (bk_pw _ _) ?_) ?_
    · intro i hi
      obtain ⟨k, hk⟩ := List.mem_iff_getElem?.mp hi
      obtain ⟨m, hm, -⟩ := bk_mem hk
      have := (rd.1.mi hm).2
      omega
    · intro k
      constructor
      · rintro ⟨i, j, h1, h2, h3, h4, h5, h6⟩
        obtain ⟨m, m1, m2, m3, m4⟩ := (mem i).mp ⟨h3, h5⟩
        obtain ⟨n, n1, n2, n3, n4⟩ := (mem j).mp ⟨h4, h6⟩
        exact ⟨i, j, m, n, h1, h2, m1, n1, m2, n2, m3, n3, m4, n4⟩
      · rintro ⟨i, j, m, n, h1, h2, m1, n1, m2, n2, m3, n3, m4, n4⟩
        have a := (mem i).mpr ⟨m, m1, m2, m3, m4⟩
        have b := (mem j).mpr ⟨n, n1, n2, n3, n4⟩
        exact ⟨i, j, h1, h2, a.1, b.1, a.2, b.2⟩
def BB (v : Int) : Prop := -1 ≤ v ∧ v < 1000
theorem tw1_b {r : Rdr} (hv : RV r) {c : Cfg} {lt x k : Nat} (h : tw1 r c lt x k) : k < 1000 := by
  obtain ⟨i, j, m, n, h1, h2, h3, h4, -⟩ := h
  have := (hv.mi h3).2
  have := (hv.mi h4).2
  omega
theorem mnv_b {P : Nat → Prop} {v : Int} (h : mnv P v) (hP : ∀ k, P k → k < 1000) : BB v := by
  unfold BB
  rcases h with ⟨a1, a2⟩ | ⟨n, a1, a2, a3⟩
  · omega
  · have := hP n a2; omega
theorem tw_in (d : Nat) {ra : Nat} {r : Rdr} {c : Cfg} {lt : Nat} {h : AH} {x3 : Int32} (rd : RD h ra r) (hc : CV c) (hlt : lt < 3) : ∀ (x : Nat) (b : Int) (P : Nat → Prop), x < 16 → BB b → mnv P b →
    ∃ b', Rk B_Ol_twoAtOnce L_Ol_twoAtOnce (Cc (d + 2)) 5 [aR (some 79), aR (some ra), aI (zI b), aI x3, aI (zI (eX c)), aI (zI lt), aI (zI x), aU] [] h = Rk B_Ol_twoAtOnce L_Ol_twoAtOnce (Cc (d + 2)) 12 [aR (some 79), aR (some ra), aI (zI b'), aI x3, aI (zI (eX c)), aI (zI lt), aU, aU] [] h ∧ BB b' ∧ mnv (fun k => P k ∨ ∃ y, 1 ≤ y ∧ y ≤ x ∧ tw1 r c lt y k) b'
  | 0, b, P, hx, hb, hm => by
    refine ⟨b, ?_, hb, mnv_c hm (fun k => ⟨Or.inl, fun q => q.elim id (fun ⟨y, h1, h2, _⟩ => by omega)⟩)⟩
    rw [E_Ol_twoAtOnce_5, if_pos (by decide)]
  | x + 1, b, P, hx, hb, hm => by
    obtain ⟨v, e, mv⟩ := Ol_firstTwo d rd hc hlt (x := x + 1) (by omega)
    have vb := mnv_b mv (fun k hk => tw1_b rd.1 hk)
    unfold BB at hb vb
    have hb2 : BB (if v < 0 then b else if b < 0 then v else if v < b then v else b) := by unfold BB; repeat' split <;> omega
    obtain ⟨b', e', k1, k2⟩ := tw_in d (x3 := x3) rd hc hlt x _ _ (by omega) hb2 (mnv_or hm mv)
    refine ⟨b', ?_, k1, mnv_c k2 (fun k => ?_)⟩
    · rw [E_Ol_twoAtOnce_5]
      simp (disch := omega) only [nle0]
      rw [if_neg (by omega), E_Ol_twoAtOnce_6, calI_e e, lt_e]
      have fin : ∀ w : Int, w = (if v < 0 then b else if b < 0 then v else if v < b then v else b) → Rk B_Ol_twoAtOnce L_Ol_twoAtOnce (Cc (d + 2)) 11 [aR (some 79), aR (some ra), aU, aI x3, aI (zI (eX c)), aI (zI lt), aI (zI ((x + 1 : Nat) : Int)), aU] [aI (zI w)] h = Rk B_Ol_twoAtOnce L_Ol_twoAtOnce (Cc (d + 2)) 12 [aR (some 79), aR (some ra), aI (zI b'), aI x3, aI (zI (eX c)), aI (zI lt), aU, aU] [] h := by
        intro w hw
        rw [E_Ol_twoAtOnce_11, lt_e, lt_e, ndec (by omega), Nat.add_sub_cancel, hw]
        exact e'
      simp (disch := omega) only [ylt0]
      by_cases z : v < 0
      · rw [if_pos z, E_Ol_twoAtOnce_10]
        exact fin b (by rw [if_pos z])
      · rw [if_neg z, E_Ol_twoAtOnce_7]
        simp (disch := omega) only [ylt0]
        by_cases y : b < 0
        · rw [if_pos y, E_Ol_twoAtOnce_9]
          exact fin v (by rw [if_neg z, if_pos y])
        · rw [if_neg y, E_Ol_twoAtOnce_8]
          simp (disch := omega) only [ylt]
          by_cases w : v < b
          · rw [if_pos w, E_Ol_twoAtOnce_9]
            exact fin v (by rw [if_neg z, if_neg y, if_pos w])
          · rw [if_neg w, E_Ol_twoAtOnce_10]
            exact fin b (by rw [if_neg z, if_neg y, if_neg w])
    · constructor
      · rintro ((q | q) | ⟨y, h1, h2, h3⟩)
        · exact Or.inl q
        · exact Or.inr ⟨x + 1, by omega, by omega, q⟩
        · exact Or.inr ⟨y, h1, by omega, h3⟩
      · rintro (q | ⟨y, h1, h2, h3⟩)
        · exact Or.inl (Or.inl q)
        · by_cases w : y = x + 1
          · subst w; exact Or.inl (Or.inr h3)
          · exact Or.inr ⟨y, h1, by omega, h3⟩
theorem tw_lt (d : Nat) {ra : Nat} {r : Rdr} {c : Cfg} {h : AH} {x3 : Int32} (rd : RD h ra r) (hc : KV c) : ∀ (n lt : Nat) (b : Int) (P : Nat → Prop), lt + n = 3 → BB b → mnv P b →
    ∃ b', Rk B_Ol_twoAtOnce L_Ol_twoAtOnce (Cc (d + 2)) 3 [aR (some 79), aR (some ra), aI (zI b), aI x3, aI (zI (eX c)), aI (zI lt), aU, aU] [] h = Rk B_Ol_twoAtOnce L_Ol_twoAtOnce (Cc (d + 2)) 13 [aR (some 79), aR (some ra), aI (zI b'), aI x3, aU, aU, aU, aU] [] h ∧ BB b' ∧ mnv (fun k => P k ∨ ∃ l y, lt ≤ l ∧ l < 3 ∧ 1 ≤ y ∧ y ≤ top c + 1 ∧ tw1 r c l y k) b'
  | 0, lt, b, P, hn, hb, hm => by
    refine ⟨b, ?_, hb, mnv_c hm (fun k => ⟨Or.inl, fun q => q.elim id (fun ⟨l, y, h1, h2, _⟩ => by omega)⟩)⟩
    rw [E_Ol_twoAtOnce_3, zc3]
    simp (disch := omega) only [nlt]
    rw [if_neg (by omega)]
  | n + 1, lt, b, P, hn, hb, hm => by
    have ht := top_kv hc
    obtain ⟨b1, e1, k1, k2⟩ := tw_in d (x3 := x3) rd hc.v (lt := lt) (by omega) (top c + 1) b P (by omega) hb hm
    obtain ⟨b', e', k3, k4⟩ := tw_lt d (x3 := x3) rd hc n (lt + 1) b1 _ (by omega) k1 k2
    refine ⟨b', ?_, k3, mnv_c k4 (fun k => ?_)⟩
    · rw [E_Ol_twoAtOnce_3, zc3]
      simp (disch := omega) only [nlt]
      rw [if_pos (by omega), E_Ol_twoAtOnce_4, calI_e (Ol_newName _ h hc.v), lt_e]
      refine Eq.trans e1 ?_
      rw [E_Ol_twoAtOnce_12, nadd1, lt_e]
      exact e'
    · constructor
      · rintro ((q | ⟨y, q⟩) | ⟨l, y, h1, h2, h3⟩)
        · exact Or.inl q
        · exact Or.inr ⟨lt, y, by omega, by omega, q⟩
        · exact Or.inr ⟨l, y, by omega, h2, h3⟩
      · rintro (q | ⟨l, y, h1, h2, h3⟩)
        · exact Or.inl (Or.inl q)
        · by_cases w : l = lt
          · subst w; exact Or.inl (Or.inr ⟨y, h3⟩)
          · exact Or.inr ⟨l, y, by omega, h2, h3⟩
theorem tw_sp (d : Nat) {s : Stt} {ra : Nat} {r : Rdr} {A : Cfg → Int} {L : List Cfg} {h : AH} (p : XI s h) (rd : RD h ra r) (o : OSt h L A) : ∀ (n i : Nat) (b : Int) (P : Nat → Prop), i + n = L.length → BB b → mnv P b →
    ∃ b', Rk B_Ol_twoAtOnce L_Ol_twoAtOnce (Cc (d + 2)) 1 [aR (some 79), aR (some ra), aI (zI b), aI (zI i), aU, aU, aU, aU] [] h = some (some (aI (zI b')), h) ∧ mnv (fun k => P k ∨ ∃ t c l y, i ≤ t ∧ L[t]? = some c ∧ l < 3 ∧ 1 ≤ y ∧ y ≤ top c + 1 ∧ tw1 r c l y k) b'
  | 0, i, b, P, hn, hb, hm => by
    have hl := KVs_len o.1 o.2.1
    refine ⟨b, ?_, mnv_c hm (fun k => ⟨Or.inl, fun q => q.elim id (fun ⟨t, c, l, y, h1, h2, _⟩ => by have := (List.getElem?_eq_some_iff.mp h2).1; omega)⟩)⟩
    rw [E_Ol_twoAtOnce_1, obj_e (z79 p.1), o.2.2.1]
    simp (disch := omega) only [nlt]
    rw [if_neg (by omega), E_Ol_twoAtOnce_14]
  | n + 1, i, b, P, hn, hb, hm => by
    have hl := KVs_len o.1 o.2.1
    have hi : L[i]? = some L[i] := List.getElem?_eq_getElem (by omega)
    have kv := o.2.1 _ (List.getElem_mem (show i < L.length by omega))
    obtain ⟨b1, e1, k1, k2⟩ := tw_lt d (x3 := zI i) rd kv 3 0 b P (by omega) hb hm
    obtain ⟨b', e', k4⟩ := tw_sp d p rd o n (i + 1) b1 _ (by omega) k1 k2
    refine ⟨b', ?_, mnv_c k4 (fun k => ?_)⟩
    · rw [E_Ol_twoAtOnce_1, obj_e (z79 p.1), o.2.2.1]
      simp (disch := omega) only [nlt]
      rw [if_pos (by omega), E_Ol_twoAtOnce_2, obj_e (z79 p.1), p.r (c := 81) (by decide)]
      simp (disch := omega) only [idx_n (z81 p.1), o.2.2.2.1 i _ hi]
      rw [calI_e (Ol_spotOf _ h kv), lt_e, lt_e]
      refine Eq.trans e1 ?_
      rw [E_Ol_twoAtOnce_13, nadd1, lt_e]
      exact e'
    · constructor
      · rintro ((q | ⟨l, y, -, q⟩) | ⟨t, c, l, y, h1, h2⟩)
        · exact Or.inl q
        · exact Or.inr ⟨i, _, l, y, Nat.le_refl _, hi, q⟩
        · exact Or.inr ⟨t, c, l, y, by omega, h2⟩
      · rintro (q | ⟨t, c, l, y, h1, h2, h3⟩)
        · exact Or.inl (Or.inl q)
        · by_cases w : t = i
          · subst w
            rw [hi] at h2
            cases h2
            exact Or.inl (Or.inr ⟨l, y, Nat.zero_le _, h3⟩)
          · exact Or.inr ⟨t, c, l, y, by omega, h2, h3⟩
def twf (r : Rdr) (k : Nat) : Prop := ∃ c l x, rch r c ∧ x ≠ 0 ∧ tw1 r c l x k
theorem tw1_m {r : Rdr} {c : Cfg} {l x y k : Nat} (h : mat c x c y) (t : tw1 r c l x k) : tw1 r c l y k := by
  obtain ⟨i, j, m, n, h1, h2, h3, h4, h5, h6, h7, h8, h9, h10⟩ := t
  exact ⟨i, j, m, n, h1, h2, h3, h4, h5, h6, h7, h8, by rw [← mat_fits h]; exact h9, by rw [← mat_fits h]; exact h10⟩
theorem Ol_twoAtOnce (d : Nat) {s : Stt} {ra : Nat} {r : Rdr} {h : AH} (hr : ∀ h, XI s h → RD h ra r) (p : XI s h) : ∃ h', Cc (d + 6) k_Ol_twoAtOnce [aR (some 79), aR (some ra)] h = some (some (aI (zI (mnV (twf r)))), h') ∧ olf h h' := by
  obtain ⟨h1, L, e1, f1, hL, o1⟩ := Ol_study d hr p
  have p1 := XI_ol p f1
  have rd := hr h1 p1
  obtain ⟨b, e2, mb⟩ := tw_sp (d + 3) p1 rd o1 L.length 0 (-1) (fun _ => False) (by omega) (by unfold BB; omega) (Or.inl ⟨rfl, fun _ q => q⟩)
  have hb : mnV (twf r) = b := mnV_e (mnv_c mb (fun k => by
    constructor
    · rintro (q | ⟨t, c, l, y, -, h2, -, h4, -, h6⟩)
      · exact q.elim
      · exact ⟨c, l, y, (hL c).mp (List.mem_of_getElem? h2), by omega, h6⟩
    · rintro ⟨c, l, x, h1, h2, h3⟩
      have t := top_ge c
      obtain ⟨y, y1, y2, y3⟩ := mat_ex (w := top c + 1) (sim_rf c) h2 (by omega) (by omega) (by omega) (by omega)
      obtain ⟨t, ht⟩ := List.mem_iff_getElem?.mp ((hL c).mpr h1)
      refine Or.inr ⟨t, c, l, y, Nat.zero_le _, ht, ?_, by omega, by omega, tw1_m y2 h3⟩
      obtain ⟨i, j, m, n, g1, g2, g3, g4, g5, g6, g7, -⟩ := h3
      have := (rd.1.mi g3).1.2.1
      omega))
  refine ⟨h1, ?_, f1⟩
  rw [C_Ol_twoAtOnce, E_Ol_twoAtOnce_0, obj_e (z79 p.1), calV_e e1, lt_e, lt_e, hb]
  exact e2
noncomputable def twA (x : Int) (s : Stt) : Int := if x = 0 ∨ x = 1 then mnV (twf (rdr s x)) else -2
theorem X_twofold {x : Int} (x1 : -2147483648 ≤ x) (x2 : x < 2147483648) : XOK k_X_twofold [aI (zI x)] (twA x) id := by
  intro s h p
  rw [C_X_twofold, E_X_twofold_0, obj_e p.o, calR_e (X_readerOf _ p x1 x2), xo_if]
  unfold twA
  by_cases a1 : x = 0 ∨ x = 1
  · simp only [if_pos a1]
    obtain ⟨h', e, f⟩ := Ol_twoAtOnce 53 (ra := xa x) (r := rdr s x) (fun h q => q.rd x) p
    refine ⟨h', ?_, f.l, XI_ol p f⟩
    rw [xo_some a1, E_X_twofold_2, obj_e p.o, p.r (a := 0) (j := 9) (c := 79) (by decide), obj_e (z79 p.1), calI_e e, E_X_twofold_3]
  · simp only [if_neg a1]
    exact ⟨h, by rw [E_X_twofold_1, E_X_twofold_3], fr.rf _ h, p⟩
