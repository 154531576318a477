/-! Outlook: what is seen -/
def olf (h h' : AH) : Prop := fr (fun b => b = 79 ∨ b = 80 ∨ b = 81) h h' ∧ ∀ a j, hR h' a j = hR h a j
theorem olf.rf (h : AH) : olf h h := ⟨fr.rf _ h, fun _ _ => rfl⟩
theorem olf.tr {h h' h'' : AH} (p : olf h h') (q : olf h' h'') : olf h h'' := ⟨p.1.tr q.1, fun a j => (q.2 a j).trans (p.2 a j)⟩
theorem olf_sI (h : AH) {a : Nat} (ha : a = 79 ∨ a = 80 ∨ a = 81) (j : Nat) (x : Int32) : olf h (sI h a j x) := ⟨fr_sI (F := fun b => b = 79 ∨ b = 80 ∨ b = 81) h ha j x, fun _ _ => rfl⟩
theorem XI_ol {s : Stt} {h h' : AH} (p : XI s h) (f : olf h h') : XI s h' := XI_sc p f.1 (fun b hb => by unfold nI'; omega) f.2
theorem olf.l {h h' : AH} (f : olf h h') : fr (fun a => a < 94) h h' := f.1.mo (fun b hb => by omega)
noncomputable def aw (r : Rdr) (L : List Cfg) (n : Nat) (c : Cfg) : Int := if c ∈ L then (if 0 ≤ dv r c ∧ dv r c ≤ n then dv r c else -1) else -2
def OSt (h : AH) (L : List Cfg) (A : Cfg → Int) : Prop := L.Nodup ∧ (∀ c, c ∈ L → KV c) ∧ hI h 79 3 = zI L.length ∧ (∀ (i : Nat) (c : Cfg), L[i]? = some c → hI h 81 i = zI (eP c)) ∧ ∀ c, KV c → hI h 80 (eP c) = zI (A c)
theorem KVs_len {L : List Cfg} (nd : L.Nodup) (h : ∀ c, c ∈ L → KV c) : L.length ≤ 384 := by
  have := nd_len 384 (L.map eP) (nd_map eP L nd (fun x y hx hy e => eP_inj (h x hx) (h y hy) e)) (by
    intro x hx
    obtain ⟨e, he, rfl⟩ := List.mem_map.mp hx
    exact eP_lt (h e he))
  rwa [List.length_map] at this
theorem dv_0 (r : Rdr) (c : Cfg) : (0 ≤ dv r c ∧ dv r c ≤ ((0 : Nat) : Int)) ↔ tks r c.1 = true := by
  constructor
  · intro h
    have h0 : dv r c = ((0 : Nat) : Int) := by omega
    exact (dv_iff.mp h0).1
  · intro h
    have : dmn r 0 c := ⟨h, fun i hi => absurd hi (Nat.not_lt_zero _)⟩
    rw [dv_e this]; omega
def addL (L : List Cfg) (c : Cfg) : List Cfg := if c ∈ L then L else L ++ [c]
theorem addL_mem {L : List Cfg} {c e : Cfg} : e ∈ addL L c ↔ e ∈ L ∨ e = c := by
  unfold addL
  split
  · rename_i h
    constructor
    · exact Or.inl
    · rintro (z | z)
      · exact z
      · rw [z]; exact h
  · rw [List.mem_append, List.mem_singleton]
theorem addL_pre (L : List Cfg) (c : Cfg) : L <+: addL L c := by
  unfold addL
  split
  · exact List.prefix_refl _
  · exact List.prefix_append _ _
theorem aw_r (r : Rdr) (L : List Cfg) (n : Nat) (c : Cfg) (hn : n < 2147483648) : -2147483648 ≤ aw r L n c ∧ aw r L n c < 2147483648 := by
  unfold aw
  split
  · split <;> omega
  · omega
theorem Ol_see (d : Nat) {s : Stt} {h : AH} {ra : Nat} {r : Rdr} {L : List Cfg} {c : Cfg} (p : XI s h) (rd : RD h ra r) (o : OSt h L (aw r L 0)) (hc : KV c) : ∃ h', Cc (d + 2) k_Ol_see [aR (some 79), aR (some ra), aI (zI (eP c))] h = some (none, h') ∧ olf h h' ∧ OSt h' (addL L c) (aw r (addL L c) 0) := by
  obtain ⟨o1, o2, o3, o4, o5⟩ := o
  have hlt := eP_lt hc
  have hb := aw_r r L 0 c (by omega)
  rw [C_Ol_see, E_Ol_see_0, obj_e (z79 p.1), p.r (c := 80) (by decide)]
  simp (disch := omega) only [idx_n (z80 p.1), o5 c hc, yeq]
  by_cases z : c ∈ L
  · rw [if_neg (by unfold aw; rw [if_pos z]; split <;> omega), E_Ol_see_6]
    refine ⟨h, rfl, olf.rf h, ?_⟩
    unfold addL
    rw [if_pos z]
    exact ⟨o1, o2, o3, o4, o5⟩
  · have nd : (c :: L).Nodup := List.nodup_cons.mpr ⟨z, o1⟩
    have hl := KVs_len nd (fun e he => by rcases List.mem_cons.mp he with w | w; rw [w]; exact hc; exact o2 e w)
    rw [List.length_cons] at hl
    rw [if_pos (by unfold aw; rw [if_neg z]), E_Ol_see_1, obj_e (z79 p.1), o3, show zI 384 = zI ((384 : Nat) : Int) from rfl]
    simp (disch := omega) only [nlt]
    rw [if_pos (by omega), E_Ol_see_2, obj_e (z79 p.1), calI_e (Ol_spotOf _ h hc), obj_e rd.2.1.1, calI_e (Rd_takesAt _ rd (eX_lt hc.v)), p.r (c := 80) (by decide), eX_q hc.v, if01]
    have fin : ∀ y : Int, y = aw r (addL L c) 0 c → ∃ h', Rk B_Ol_see L_Ol_see (Cc (d + 1)) 5 [aR (some 79), aU, aI (zI (eP c))] [aI (zI y), aI (zI (eP c)), aR (some 80)] h = some (none, h') ∧ olf h h' ∧ OSt h' (addL L c) (aw r (addL L c) 0) := by
      intro y hy
      have ea : addL L c = L ++ [c] := by unfold addL; rw [if_neg z]
      refine ⟨sI (sI (sI h 80 (eP c) (zI y)) 81 L.length (zI (eP c))) 79 3 (zI ((L.length + 1 : Nat) : Int)), ?_, ((olf_sI h (by omega) _ _).tr (olf_sI _ (by omega) _ _)).tr (olf_sI _ (by omega) _ _), ?_⟩
      · rw [E_Ol_see_5]
        simp (disch := omega) only [idx_n (z80 p.1), lt_e, obj_sI, obj_e (z79 p.1), hR_sI, p.r (a := 79) (j := 1) (c := 81) (by decide)]
        rw [hI_off (by omega), o3]
        simp (disch := omega) only [idx_sI, idx_n (z81 p.1), lt_e, obj_sI, obj_e (z79 p.1), mb_some]
        rw [hI_off (by omega), hI_off (by omega), o3, nadd1, E_Ol_see_6]
      · rw [ea]
        refine ⟨?_, ?_, by rw [hI_hit, List.length_append]; rfl, ?_, ?_⟩
        · rw [List.nodup_append]
          refine ⟨o1, by simp, ?_⟩
          intro a ha b hb e
          rw [List.mem_singleton] at hb
          exact z (by rw [← hb, ← e]; exact ha)
        · intro e he
          rcases List.mem_append.mp he with w | w
          · exact o2 e w
          · rw [List.mem_singleton.mp w]; exact hc
        · intro i e he
          have h1 := (List.getElem?_eq_some_iff.mp he).1
          rw [List.length_append] at h1
          simp at h1
          rw [hI_off (by omega)]
          by_cases w : i < L.length
          · rw [List.getElem?_append_left w] at he
            rw [hI_off (by omega), hI_off (by omega)]
            exact o4 i e he
          · have : i = L.length := by omega
            subst this
            simp at he
            rw [hI_hit, he]
        · intro e he
          rw [hI_off (by omega), hI_off (by omega)]
          by_cases w : e = c
          · subst w; rw [hI_hit, hy, ea]
          · rw [hI_off (Or.inr fun q => w (eP_inj he hc q)), o5 e he]
            unfold aw
            have : e ∈ L ++ [c] ↔ e ∈ L := by rw [List.mem_append, List.mem_singleton]; exact ⟨fun q => q.elim id (fun q => absurd q w), Or.inl⟩
            simp only [this]
    cases y : tks r c.1 with
    | true =>
      rw [if_pos rfl, E_Ol_see_3]
      exact fin 0 (by
        unfold aw
        rw [if_pos (addL_mem.mpr (Or.inr rfl)), if_pos ((dv_0 r c).mpr y)]
        have := (dv_0 r c).mpr y
        omega)
    | false =>
      rw [if_neg (by simp), E_Ol_see_4]
      exact fin (-1) (by
        unfold aw
        rw [if_pos (addL_mem.mpr (Or.inr rfl)), if_neg]
        intro q
        have := (dv_0 r c).mp q
        rw [y] at this
        cases this)
theorem oX_some {c : Cfg} : oX (some c) = eX c := rfl
theorem sb_in (d : Nat) {s : Stt} {ra : Nat} {r : Rdr} {c : Cfg} {m : Mv} {i j : Nat} {ed : Int32} (hr : ∀ h, XI s h → RD h ra r) (hc : KV c) (hj : (am r.2.2.2 c.1)[j]? = some i) (hm : r.2.2.2[i]? = some m) : ∀ (x : Nat) (h : AH) (L : List Cfg), x ≤ 4 → XI s h → OSt h L (aw r L 0) →
    ∃ h' L', Rk B_Ol_seeBehind L_Ol_seeBehind (Cc (d + 2)) 3 [aR (some 79), aR (some ra), aI (zI (eX c)), aI ed, aI (zI ((bg r.2.2.2 (c.1 * 3) + j : Nat) : Int)), aI (zI x), aU] [] h = Rk B_Ol_seeBehind L_Ol_seeBehind (Cc (d + 2)) 7 [aR (some 79), aR (some ra), aI (zI (eX c)), aI ed, aI (zI ((bg r.2.2.2 (c.1 * 3) + j : Nat) : Int)), aU, aU] [] h' ∧ olf h h' ∧ OSt h' L' (aw r L' 0) ∧ L <+: L' ∧ (∀ e, e ∈ L' → e ∈ L ∨ gst m c e) ∧ ∀ y, 1 ≤ y → y ≤ x → fits m c y = true → kn (goC m c y) ∈ L'
  | 0, h, L, hx, p, o => by
    refine ⟨h, L, ?_, olf.rf h, o, List.prefix_refl _, fun e he => Or.inl he, fun y h1 h2 => by omega⟩
    rw [E_Ol_seeBehind_3, if_pos (by decide)]
  | x + 1, h, L, hx, p, o => by
    have rd := hr h p
    have hm1 : m.1 = c.1 := by
      obtain ⟨m', h1, h2⟩ := (am_mem rd.1).mp (List.mem_of_getElem? hj)
      rw [hm] at h1
      cases h1
      exact h2
    have hmv := (rd.1.mi hm).1
    have hzo := zI_oX hmv hc.v (x := x + 1) (by omega)
    have e4 : Rk B_Ol_seeBehind L_Ol_seeBehind (Cc (d + 2)) 3 [aR (some 79), aR (some ra), aI (zI (eX c)), aI ed, aI (zI ((bg r.2.2.2 (c.1 * 3) + j : Nat) : Int)), aI (zI ((x + 1 : Nat) : Int)), aU] [] h = if oX (stp m c (x + 1)) < 0 then Rk B_Ol_seeBehind L_Ol_seeBehind (Cc (d + 2)) 6 [aR (some 79), aR (some ra), aI (zI (eX c)), aI ed, aI (zI ((bg r.2.2.2 (c.1 * 3) + j : Nat) : Int)), aI (zI ((x + 1 : Nat) : Int)), aU] [] h else Rk B_Ol_seeBehind L_Ol_seeBehind (Cc (d + 2)) 5 [aR (some 79), aR (some ra), aI (zI (eX c)), aI ed, aI (zI ((bg r.2.2.2 (c.1 * 3) + j : Nat) : Int)), aI (zI ((x + 1 : Nat) : Int)), aI (zI (oX (stp m c (x + 1))))] [] h := by
      rw [E_Ol_seeBehind_3]
      simp (disch := omega) only [nle0]
      rw [if_neg (by omega), E_Ol_seeBehind_4, obj_e rd.2.1.1, calI_e (am_at _ rd hc.1 hj), obj_e rd.2.1.1, calI_e (Rd_after _ rd hc.v hm (by omega)), lt_e]
      simp (disch := omega) only [ylt0]
    cases y : fits m c (x + 1) with
    | false =>
      have st : stp m c (x + 1) = none := by unfold stp; rw [y]; rfl
      obtain ⟨h', L', e, k1, k2, k3, k4, k5⟩ := sb_in d (ed := ed) hr hc hj hm x h L (by omega) p o
      refine ⟨h', L', ?_, k1, k2, k3, k4, ?_⟩
      · rw [e4, st, if_pos (by decide), E_Ol_seeBehind_6, lt_e, ndec (by omega), Nat.add_sub_cancel]; exact e
      · intro z h1 h2 h3
        by_cases w : z = x + 1
        · rw [w, y] at h3; cases h3
        · exact k5 z h1 (by omega) h3
    | true =>
      have st : stp m c (x + 1) = some (goC m c (x + 1)) := by unfold stp; rw [y]; rfl
      have gv := goC_v (x := x + 1) hmv hc.v (by omega)
      have kv : KV (kn (goC m c (x + 1))) := KV_kn gv.1
      obtain ⟨h1, e1, f1, o1⟩ := Ol_see d p rd o kv
      have p1 := XI_ol p f1
      obtain ⟨h', L', e, k1, k2, k3, k4, k5⟩ := sb_in d (ed := ed) hr hc hj hm x h1 _ (by omega) p1 o1
      refine ⟨h', L', ?_, f1.tr k1, k2, (addL_pre _ _).trans k3, ?_, ?_⟩
      · rw [e4, st, oX_some, if_neg (by omega), E_Ol_seeBehind_5, calI_e (Ol_placeOf _ h gv), obj_e (z79 p.1), calV_e e1, E_Ol_seeBehind_6, lt_e, ndec (by omega), Nat.add_sub_cancel]; exact e
      · intro e he
        rcases k4 e he with w | w
        · rcases addL_mem.mp w with w | w
          · exact Or.inl w
          · exact Or.inr ⟨hm1, x + 1, by omega, y, w⟩
        · exact Or.inr w
      · intro z h1 h2 h3
        by_cases w : z = x + 1
        · rw [w]; exact k3.subset (addL_mem.mpr (Or.inr rfl))
        · exact k5 z h1 (by omega) h3
theorem top_kv {c : Cfg} (hc : KV c) : top c ≤ 3 := by have := hc.le; unfold top; omega
theorem sb_lp (d : Nat) {s : Stt} {ra : Nat} {r : Rdr} {c : Cfg} (hr : ∀ h, XI s h → RD h ra r) (hc : KV c) : ∀ (n j : Nat) (h : AH) (L : List Cfg), j + n = (am r.2.2.2 c.1).length → XI s h → OSt h L (aw r L 0) →
    ∃ h' L', Rk B_Ol_seeBehind L_Ol_seeBehind (Cc (d + 2)) 1 [aR (some 79), aR (some ra), aI (zI (eX c)), aI (zI ((bg r.2.2.2 (c.1 * 3) + (am r.2.2.2 c.1).length : Nat) : Int)), aI (zI ((bg r.2.2.2 (c.1 * 3) + j : Nat) : Int)), aU, aU] [] h = some (none, h') ∧ olf h h' ∧ OSt h' L' (aw r L' 0) ∧ L <+: L' ∧ (∀ e, e ∈ L' → e ∈ L ∨ ∃ m, m ∈ r.2.2.2 ∧ gst m c e) ∧ ∀ (k i : Nat) (m : Mv) (e : Cfg), j ≤ k → (am r.2.2.2 c.1)[k]? = some i → r.2.2.2[i]? = some m → gst m c e → e ∈ L'
  | 0, j, h, L, hn, p, o => by
    have hl := am_len (hr h p).1 c.1
    refine ⟨h, L, ?_, olf.rf h, o, List.prefix_refl _, fun e he => Or.inl he, ?_⟩
    · rw [E_Ol_seeBehind_1]
      simp (disch := omega) only [nlt]
      rw [if_neg (by omega), E_Ol_seeBehind_8]
    · intro k i m e h1 h2
      have := (List.getElem?_eq_some_iff.mp h2).1
      omega
  | n + 1, j, h, L, hn, p, o => by
    have rd := hr h p
    have hl := am_len rd.1 c.1
    have hj : (am r.2.2.2 c.1)[j]? = some (am r.2.2.2 c.1)[j] := List.getElem?_eq_getElem (by omega)
    obtain ⟨m, hm, hm1⟩ := (am_mem rd.1).mp (List.mem_of_getElem? hj)
    have ht := top_kv hc
    obtain ⟨h1, L1, e1, f1, o1, k1, k2, k3⟩ := sb_in d (ed := zI ((bg r.2.2.2 (c.1 * 3) + (am r.2.2.2 c.1).length : Nat) : Int)) hr hc hj hm (top c + 1) h L (by omega) p o
    obtain ⟨h', L', e, f2, o2, g1, g2, g3⟩ := sb_lp d hr hc n (j + 1) h1 L1 (by omega) (XI_ol p f1) o1
    refine ⟨h', L', ?_, f1.tr f2, o2, k1.trans g1, ?_, ?_⟩
    · rw [E_Ol_seeBehind_1]
      simp (disch := omega) only [nlt]
      rw [if_pos (by omega), E_Ol_seeBehind_2, calI_e (Ol_newName _ h hc.v), lt_e]
      refine Eq.trans e1 ?_
      rw [E_Ol_seeBehind_7, nadd1, lt_e]
      exact e
    · intro e he
      rcases g2 e he with w | w
      · rcases k2 e w with w | w
        · exact Or.inl w
        · exact Or.inr ⟨m, List.mem_of_getElem? hm, w⟩
      · exact Or.inr w
    · intro k i m' e h1 h2 h3 h4
      by_cases w : k = j
      · subst w
        rw [hj] at h2
        cases h2
        rw [hm] at h3
        cases h3
        obtain ⟨-, x, x1, x2, x3, x4⟩ := gst_top.mp h4
        rw [x4]
        exact g1.subset (k3 x x1 x2 x3)
      · exact g3 k i m' e (by omega) h2 h3 h4
theorem Ol_seeBehind (d : Nat) {s : Stt} {ra : Nat} {r : Rdr} {c : Cfg} {h : AH} {L : List Cfg} (hr : ∀ h, XI s h → RD h ra r) (hc : KV c) (p : XI s h) (o : OSt h L (aw r L 0)) : ∃ h' L', Cc (d + 3) k_Ol_seeBehind [aR (some 79), aR (some ra), aI (zI (eX c))] h = some (none, h') ∧ olf h h' ∧ OSt h' L' (aw r L' 0) ∧ L <+: L' ∧ (∀ e, e ∈ L' → e ∈ L ∨ ∃ m, m ∈ r.2.2.2 ∧ gst m c e) ∧ ∀ m e, m ∈ r.2.2.2 → gst m c e → e ∈ L' := by
  have rd := hr h p
  obtain ⟨h', L', e, f, o', k1, k2, k3⟩ := sb_lp d hr hc (am r.2.2.2 c.1).length 0 h L (by omega) p o
  refine ⟨h', L', ?_, f, o', k1, k2, ?_⟩
  · rw [C_Ol_seeBehind, E_Ol_seeBehind_0, obj_e rd.2.1.1, calI_e (Rd_end2 _ rd hc.v), lt_e, obj_e rd.2.1.1, calI_e (Rd_begin0 _ rd hc.v), lt_e]
    exact e
  · intro m e hm g
    obtain ⟨i, hi⟩ := List.getElem?_of_mem hm
    obtain ⟨k, hk⟩ := List.mem_iff_getElem?.mp ((am_mem rd.1).mpr ⟨m, hi, g.1⟩)
    exact k3 k i m e (Nat.zero_le _) hk hi g
