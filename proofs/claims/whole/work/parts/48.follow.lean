/-! Spots.follow, statesByBits -/
theorem bk_iff {ms : List Mv} {p i : Nat} : (∃ k : Nat, (bk ms p)[k]? = some i) ↔ ∃ m, ms[i]? = some m ∧ key m = p := by
  constructor
  · rintro ⟨k, hk⟩; exact bk_mem hk
  · rintro ⟨m, hm, e⟩
    have : i ∈ bk ms p := by
      unfold bk
      rw [List.mem_filter, List.mem_range]
      exact ⟨(List.getElem?_eq_some_iff.mp hm).1, by unfold bkF; rw [hm]; simpa using e⟩
    obtain ⟨k, hk, e2⟩ := List.getElem_of_mem this
    exact ⟨k, by rw [List.getElem?_eq_getElem hk, e2]⟩
theorem key_iff {m : Mv} {q l : Nat} (h1 : m.2.1 < 3) (h2 : l < 3) : key m = q * 3 + l ↔ m.1 = q ∧ m.2.1 = l := by unfold key; omega
/-- one step of a reader by a letter and a name -/
def stq (r : Rdr) (c : Cfg) (l x : Nat) (c' : Cfg) : Prop := ∃ (i : Nat) (m : Mv), r.2.2.2[i]? = some m ∧ m.1 = c.1 ∧ m.2.1 = l ∧ stp m c x = some c'
theorem stp_v {m : Mv} {c c' : Cfg} {x : Nat} (hm : MV m) (hc : CV c) (hx : x < 16) (h : stp m c x = some c') : CV c' := by
  unfold stp at h; split at h
  · cases h; exact goC_v hm hc hx
  · cases h
theorem oX_n {c : Option Cfg} (h : c = none) : oX c < 0 := by rw [h]; decide
theorem zI_oX {m : Mv} {c : Cfg} {x : Nat} (hm : MV m) (hc : CV c) (hx : x < 16) : -1 ≤ oX (stp m c x) ∧ oX (stp m c x) < 24576 := by
  cases e : stp m c x with
  | none => exact ⟨by decide, by decide⟩
  | some c' => have := eX_lt (stp_v hm hc hx e); show -1 ≤ ((eX c' : Nat) : Int) ∧ ((eX c' : Nat) : Int) < 24576; omega
theorem fol_in (d : Nat) {a ra l x : Nat} {b : Option Nat} {A x7 : Int32} {L : Nat → Bool} {r : Rdr} {c : Cfg} (hra : ra ≤ 9) (ha : 13 ≤ a) (hl : l < 3) (hx : x < 16) (hA : AL A L) (hc : CV c) : ∀ (n j : Nat) (h : AH) (T : Nat → Bool), j + n = (bk r.2.2.2 (c.1 * 3 + l)).length → SP h a 24576 T → RD h ra r →
    ∃ h' T', Rk B_Sp_follow L_Sp_follow (Cc (d + 4)) 4 [aR (some a), aR (some ra), aR b, aI (zI l), aI (zI x), aI A, aI (zI (eX c)), aI x7, aI (zI (bg r.2.2.2 (c.1 * 3 + l + 1))), aI (zI ((bg r.2.2.2 (c.1 * 3 + l) + j : Nat) : Int)), aU] [] h = Rk B_Sp_follow L_Sp_follow (Cc (d + 4)) 8 [aR (some a), aR (some ra), aR b, aI (zI l), aI (zI x), aI A, aI (zI (eX c)), aI x7, aU, aU, aU] [] h' ∧ fr (spF a) h h' ∧ SP h' a 24576 T' ∧
      ∀ s, T' s = true ↔ T s = true ∨ ∃ (k i : Nat) (m : Mv) (c' : Cfg), j ≤ k ∧ (bk r.2.2.2 (c.1 * 3 + l))[k]? = some i ∧ r.2.2.2[i]? = some m ∧ stp m c x = some c' ∧ s = eX (stl L 0 c') := by
  have hc1 : c.1 < 6 := hc.1
  intro n
  induction n with
  | zero =>
    intro j h T hn p rd
    have h1 : bg r.2.2.2 (c.1 * 3 + l + 1) ≤ 20 := Nat.le_trans (bg_le _ _) rd.1.2.2.2.2.1
    refine ⟨h, T, ?_, fr.rf _ h, p, fun s => ⟨Or.inl, ?_⟩⟩
    · rw [bg] at h1
      rw [E_Sp_follow_4, bg]
      simp (disch := omega) only [nlt]
      rw [if_neg (by omega)]
    · rintro (h | ⟨k, i, m, c', h1, h2, -⟩)
      · exact h
      · have := (List.getElem?_eq_some_iff.mp h2).1; omega
  | succ n ih =>
    intro j h T hn p rd
    have h1 : bg r.2.2.2 (c.1 * 3 + l + 1) ≤ 20 := Nat.le_trans (bg_le _ _) rd.1.2.2.2.2.1
    have hk : (bk r.2.2.2 (c.1 * 3 + l))[j]? = some (bk r.2.2.2 (c.1 * 3 + l))[j] := List.getElem?_eq_getElem (by omega)
    obtain ⟨m, hm, km⟩ := bk_mem hk
    have hmv := (rd.1.mi hm).1
    have lt : Rk B_Sp_follow L_Sp_follow (Cc (d + 4)) 4 [aR (some a), aR (some ra), aR b, aI (zI l), aI (zI x), aI A, aI (zI (eX c)), aI x7, aI (zI (bg r.2.2.2 (c.1 * 3 + l + 1))), aI (zI ((bg r.2.2.2 (c.1 * 3 + l) + j : Nat) : Int)), aU] [] h = Rk B_Sp_follow L_Sp_follow (Cc (d + 4)) 5 [aR (some a), aR (some ra), aR b, aI (zI l), aI (zI x), aI A, aI (zI (eX c)), aI x7, aI (zI (bg r.2.2.2 (c.1 * 3 + l + 1))), aI (zI ((bg r.2.2.2 (c.1 * 3 + l) + j : Nat) : Int)), aU] [] h := by
      rw [bg] at h1
      rw [E_Sp_follow_4, bg]
      simp (disch := omega) only [nlt]
      rw [if_pos (by omega)]
    have ob := zI_oX hmv hc hx
    rw [lt, E_Sp_follow_5, obj_e rd.2.1.1, calI_e (Rd_moveAt _ rd (by omega) hk), obj_e rd.2.1.1, calI_e (Rd_after _ rd hc hm hx), lt_e]
    simp (disch := omega) only [ylt0]
    cases st : stp m c x with
    | none =>
      obtain ⟨h', T', e, f, p', g⟩ := ih (j + 1) h T (by omega) p rd
      refine ⟨h', T', ?_, f, p', fun s => ?_⟩
      · rw [if_pos (by decide), E_Sp_follow_7, lt_e, nadd1]; exact e
      · rw [g s]
        constructor
        · rintro (h | ⟨k, i, m', c', h1, h2⟩)
          · exact Or.inl h
          · exact Or.inr ⟨k, i, m', c', by omega, h2⟩
        · rintro (h | ⟨k, i, m', c', h1, h2, h3, h4, h5⟩)
          · exact Or.inl h
          · by_cases z : k = j
            · subst z
              rw [hk] at h2
              cases h2
              rw [hm] at h3
              cases h3
              rw [st] at h4
              cases h4
            · exact Or.inr ⟨k, i, m', c', by omega, h2, h3, h4, h5⟩
    | some c1 =>
      have hv1 := stp_v hmv hc hx st
      have hv2 := stl_v (L := L) (o := 0) hv1 (by omega)
      obtain ⟨h1', e1, f1, p1⟩ := Sp_add (d + 3) p (s := eX (stl L 0 c1)) (eX_lt hv2)
      have rd1 : RD h1' ra r := rd.fr f1 (fun b h1 h2 => by unfold spF; omega)
      obtain ⟨h', T', e, f, p', g⟩ := ih (j + 1) h1' _ (by omega) p1 rd1
      refine ⟨h', T', ?_, f1.tr f, p', fun s => ?_⟩
      · have : ¬ (oX (some c1) < 0) := by show ¬ ((eX c1 : Nat) : Int) < 0; omega
        rw [if_neg this, E_Sp_follow_6, show oX (some c1) = ((eX c1 : Nat) : Int) from rfl, show zI 0 = zI ((0 : Nat) : Int) from rfl, calI_e (Rd_settle _ h hv1 hA (o := 0) (by omega)), obj_e p.1.1, calI_e e1, E_Sp_follow_7, lt_e, nadd1]
        exact e
      · rw [g s]
        simp only [Bool.or_eq_true, beq_iff_eq]
        constructor
        · rintro ((h | h) | ⟨k, i, m', c', h1, h2⟩)
          · exact Or.inl h
          · exact Or.inr ⟨j, _, m, c1, by omega, hk, hm, st, h⟩
          · exact Or.inr ⟨k, i, m', c', by omega, h2⟩
        · rintro (h | ⟨k, i, m', c', h1, h2, h3, h4, h5⟩)
          · exact Or.inl (Or.inl h)
          · by_cases z : k = j
            · subst z
              rw [hk] at h2
              cases h2
              rw [hm] at h3
              cases h3
              rw [st] at h4
              cases h4
              exact Or.inl (Or.inr h5)
            · exact Or.inr ⟨k, i, m', c', by omega, h2, h3, h4, h5⟩
theorem hd_nil {l : List Nat} (h : l = []) : hd l = -1 := by rw [h]; rfl
theorem fol_lp (d : Nat) {a b ra l x : Nat} {A : Int32} {L S : Nat → Bool} {r : Rdr} (hra : ra ≤ 9) (ha : 13 ≤ a) (hab : a + 3 ≤ b ∨ b + 3 ≤ a) (hl : l < 3) (hx : x < 16) (hA : AL A L) : ∀ (n f : Nat) (h : AH) (T : Nat → Bool), (els S 24576 f).length = n → SP h a 24576 T → SP h b 24576 S → RD h ra r →
    ∃ h' T', Rk B_Sp_follow L_Sp_follow (Cc (d + 4)) 1 [aR (some a), aR (some ra), aR (some b), aI (zI l), aI (zI x), aI A, aI (zI (hd (els S 24576 f))), aI (zI n), aU, aU, aU] [] h = some (none, h') ∧ fr (spF a) h h' ∧ SP h' a 24576 T' ∧
      ∀ s, T' s = true ↔ T s = true ∨ ∃ (c c' : Cfg), CV c ∧ f ≤ eX c ∧ S (eX c) = true ∧ stq r c l x c' ∧ s = eX (stl L 0 c') := by
  intro n
  induction n with
  | zero =>
    intro f h T hn p pS rd
    refine ⟨h, T, ?_, fr.rf _ h, p, fun s => ⟨Or.inl, ?_⟩⟩
    · rw [E_Sp_follow_1, if_pos (by decide), E_Sp_follow_9]
    · rintro (h | ⟨c, c', h1, h2, h3, h4⟩)
      · exact h
      · have : eX c ∈ els S 24576 f := els_mem.mpr ⟨h2, eX_lt h1, h3⟩
        rw [List.eq_nil_of_length_eq_zero hn] at this
        simp at this
  | succ n ih =>
    intro f h T hn p pS rd
    have hle := cn_le S 24576
    rw [els_cn] at hle
    match hels : els S 24576 f, hn with
    | u :: rest, hn =>
      obtain ⟨u1, u2, u3, u4⟩ := els_head hels
      have hcv := dX_v u2
      have heu : eX (dX u) = u := eX_d
      have hq : u / 4096 = (dX u).1 := rfl
      have hn2 : n ≤ 24576 := by
        have h1 : (els S 24576 f).length ≤ 24576 - f := by unfold els; exact Nat.le_trans (List.length_filter_le _ _) (by simp)
        rw [hels] at h1
        rw [hn] at h1
        omega
      have hc1 : (dX u).1 < 6 := hcv.1
      obtain ⟨h1, T1, e1, f1, p1, g1⟩ := fol_in d (b := some b) (x7 := zI ((n + 1 : Nat) : Int)) hra ha hl hx hA hcv (bk r.2.2.2 ((dX u).1 * 3 + l)).length 0 h T (Nat.zero_add _) p rd
      have pS1 := pS.fr f1 (fun b' hb => by unfold spF at *; omega)
      have rd1 : RD h1 ra r := rd.fr f1 (fun b h1 h2 => by unfold spF; omega)
      have hr : (els S 24576 (u + 1)).length = n := by rw [← u4]; simpa using hn
      obtain ⟨h2, T2, e2, f2, p2, g2⟩ := ih (u + 1) h1 T1 hr p1 pS1 rd1
      refine ⟨h2, T2, ?_, f1.tr f2, p2, fun s => ?_⟩
      · rw [E_Sp_follow_1]
        simp (disch := omega) only [nle0]
        rw [if_neg (by omega), E_Sp_follow_2, show hd (u :: rest) = ((u : Nat) : Int) from rfl]
        simp (disch := omega) only [nlt0, if_false]
        rw [E_Sp_follow_3, obj_e rd.2.1.1, calI_e (Rd_end _ rd u2 hl), lt_e, obj_e rd.2.1.1, calI_e (Rd_begin _ rd u2 hl), lt_e, hq]
        rw [heu] at e1
        refine Eq.trans e1 ?_
        rw [E_Sp_follow_8, obj_e pS1.1.1, nadd1, calI_e (Sp_next _ pS1 (by omega)), lt_e, lt_e, ndec (by omega), Nat.add_sub_cancel]
        exact e2
      · rw [g2 s, g1 s]
        constructor
        · rintro ((h | ⟨k, i, m, c', h1, h2, h3, h4, h5⟩) | ⟨c, c', h1, h2, h3⟩)
          · exact Or.inl h
          · obtain ⟨m', hm', km⟩ := bk_iff.mp ⟨k, h2⟩
            rw [h3] at hm'
            cases hm'
            have hmv := (rd.1.mi h3).1
            have := (key_iff hmv.2.1 hl).mp km
            exact Or.inr ⟨dX u, c', hcv, by rw [heu]; exact u1, by rw [heu]; exact u3, ⟨i, m, h3, this.1, this.2, h4⟩, h5⟩
          · exact Or.inr ⟨c, c', h1, by omega, h3⟩
        · rintro (h | ⟨c, c', h1, h2, h3, ⟨i, m, k1, k2, k3, k4⟩, h5⟩)
          · exact Or.inl (Or.inl h)
          · by_cases z : eX c = u
            · have : c = dX u := by rw [← z, dX_e h1]
              subst this
              have hmv := (rd.1.mi k1).1
              obtain ⟨k, hk⟩ := bk_iff.mpr ⟨m, k1, (key_iff hmv.2.1 hl).mpr ⟨k2, k3⟩⟩
              exact Or.inl (Or.inr ⟨k, i, m, c', by omega, hk, k1, k4, h5⟩)
            · have : eX c ∈ els S 24576 f := els_mem.mpr ⟨h2, eX_lt h1, h3⟩
              rw [hels] at this
              rcases List.mem_cons.mp this with y | y
              · exact absurd y z
              · rw [u4] at y
                exact Or.inr ⟨c, c', h1, (els_mem.mp y).1, h3, ⟨i, m, k1, k2, k3, k4⟩, h5⟩
theorem Sp_follow (d : Nat) {h : AH} {a b ra l x : Nat} {A : Int32} {L S T : Nat → Bool} {r : Rdr} (hra : ra ≤ 9) (ha : 13 ≤ a) (hab : a + 3 ≤ b ∨ b + 3 ≤ a) (hl : l < 3) (hx : x < 16) (hA : AL A L) (p : SP h a 24576 T) (pS : SP h b 24576 S) (rd : RD h ra r) :
    ∃ h' T', Cc (d + 5) k_Sp_follow [aR (some a), aR (some ra), aR (some b), aI (zI l), aI (zI x), aI A] h = some (none, h') ∧ fr (spF a) h h' ∧ SP h' a 24576 T' ∧
      ∀ s, T' s = true ↔ ∃ (c c' : Cfg), CV c ∧ S (eX c) = true ∧ stq r c l x c' ∧ s = eX (stl L 0 c') := by
  obtain ⟨h1, e1, f1, p1⟩ := Sp_clear (d + 1) p
  have pS1 := pS.fr f1 (fun b' hb => by unfold spF at *; omega)
  have rd1 : RD h1 ra r := rd.fr f1 (fun b h1 h2 => by unfold spF; omega)
  obtain ⟨h2, T2, e2, f2, p2, g2⟩ := fol_lp d hra ha hab hl hx hA _ 0 h1 _ rfl p1 pS1 rd1
  refine ⟨h2, T2, ?_, f1.tr f2, p2, fun s => ?_⟩
  · rw [C_Sp_follow, E_Sp_follow_0, obj_e p.1.1, calV_e e1, obj_e pS1.1.1, zc0, calI_e (Sp_next _ pS1 (by omega)), lt_e, obj_e pS1.1.1, pS1.2.2, lt_e, els_cn]
    exact e2
  · rw [g2 s]
    constructor
    · rintro (h | ⟨c, c', h1, h2, h3⟩)
      · cases h
      · exact ⟨c, c', h1, h3⟩
    · rintro ⟨c, c', h1, h3⟩
      exact Or.inr ⟨c, c', h1, Nat.zero_le _, h3⟩
