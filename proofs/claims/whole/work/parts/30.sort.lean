/-! Reader.sort, become -/
theorem RDs.fr {F : Nat → Prop} {h h' : AH} {a : Nat} (p : RDs h a) (f : fr F h h') (n0 : ¬ F a) : RDs h' a := by
  unfold RDs at *; rw [f.1, f.R n0, f.R n0, f.R n0]; exact p
theorem RDf.fr {F : Nat → Prop} {h h' : AH} {a : Nat} {r : Rdr} (p : RDf h a r) (f : fr F h h') (n0 : ¬ F a) (n1 : ¬ F (a + 1)) : RDf h' a r := by
  unfold RDf mvAt at *; simp only [f.I n0, f.I n1]; exact p
theorem RD.fr {F : Nat → Prop} {h h' : AH} {a : Nat} {r : Rdr} (p : RD h a r) (f : fr F h h') (n : ∀ b, a ≤ b → b ≤ a + 3 → ¬ F b) : RD h' a r := by
  refine ⟨p.1, p.2.1.fr f (n a (by omega) (by omega)), p.2.2.1.fr f (n a (by omega) (by omega)) (n (a + 1) (by omega) (by omega)), ?_⟩
  have n2 := n (a + 2) (by omega) (by omega)
  have n3 := n (a + 3) (by omega) (by omega)
  unfold RDo; simp only [f.I n2, f.I n3]; exact p.2.2.2
def bkN (ms : List Mv) (p n : Nat) : List Nat := (List.range n).filter (bkF ms p)
theorem bkN_s (ms : List Mv) (p i : Nat) : bkN ms p (i + 1) = bkN ms p i ++ (if bkF ms p i then [i] else []) := by
  unfold bkN
  rw [List.range_succ, List.filter_append]
  cases q : bkF ms p i <;> simp [q]
theorem bkN_le (ms : List Mv) (p i : Nat) : ∀ k, ∃ l, bkN ms p (i + k) = bkN ms p i ++ l
  | 0 => ⟨[], by simp⟩
  | k + 1 => by
    obtain ⟨l, e⟩ := bkN_le ms p i k
    exact ⟨_, by rw [← Nat.add_assoc, bkN_s, e, List.append_assoc]⟩
theorem bkN_n (ms : List Mv) (p : Nat) : bkN ms p ms.length = bk ms p := rfl
theorem sort_in (d : Nat) {a p : Nat} {r : Rdr} (hv : RV r) (hp : p < 18) : ∀ (k i : Nat) (h : AH), i + k = r.2.2.2.length → RDs h a → RDf h a r → (∀ j x : Nat, (bkN r.2.2.2 p i)[j]? = some x → hI h (a + 2) (bg r.2.2.2 p + j) = zI x) →
    ∃ h', Rk B_Rd_sort L_Rd_sort (Cc (d + 1)) 3 [aR (some a), aI (zI ((bg r.2.2.2 p + (bkN r.2.2.2 p i).length : Nat) : Int)), aI (zI p), aI (zI i)] [] h = Rk B_Rd_sort L_Rd_sort (Cc (d + 1)) 8 [aR (some a), aI (zI (bg r.2.2.2 (p + 1))), aI (zI p), aU] [] h' ∧ fr (fun b => b = a + 2) h h' ∧ (∀ j, j < bg r.2.2.2 p → hI h' (a + 2) j = hI h (a + 2) j) ∧ (∀ j x : Nat, (bk r.2.2.2 p)[j]? = some x → hI h' (a + 2) (bg r.2.2.2 p + j) = zI x)
  | 0, i, h, hk, hs, hf, hb => by
    obtain ⟨s0, s1, s2, s3, r0, r1, r2⟩ := id hs
    have hl := hv.2.2.2.2.1
    have hi : i = r.2.2.2.length := by omega
    subst hi
    refine ⟨h, ?_, fr.rf _ h, fun _ _ => rfl, hb⟩
    rw [E_Rd_sort_3, obj_e s0, hf.2.2.2.1]
    simp (disch := omega) only [nlt]
    rw [if_neg (by omega)]
    rfl
  | k + 1, i, h, hk, hs, hf, hb => by
    obtain ⟨s0, s1, s2, s3, r0, r1, r2⟩ := id hs
    have hl := hv.2.2.2.2.1
    have hg : bg r.2.2.2 (p + 1) ≤ 20 := Nat.le_trans (bg_le _ _) hl
    rw [bg] at hg
    obtain ⟨l, el⟩ := bkN_le r.2.2.2 p i (k + 1)
    rw [hk, bkN_n] at el
    have ell := congrArg List.length el
    rw [List.length_append] at ell
    rw [E_Rd_sort_3, obj_e s0, hf.2.2.2.1]
    simp (disch := omega) only [nlt]
    rw [if_pos (by omega), E_Rd_sort_4, show zI 20 = zI ((20 : Nat) : Int) from rfl]
    simp (disch := omega) only [nlt]
    by_cases z : bg r.2.2.2 p + (bkN r.2.2.2 p i).length < 20
    · rw [if_pos z, E_Rd_sort_5, obj_e s0]
      have him : i < r.2.2.2.length := by omega
      have hm : r.2.2.2[i]? = some r.2.2.2[i] := List.getElem?_eq_getElem him
      have hmv := hv.mv (List.getElem_mem him)
      unfold MV at hmv
      have hat := hf.2.2.2.2 i _ hm
      have c0 : Cc (d + 1) k_Rd_part [aR (some a), aI (zI i), aI (zI 0)] h = some (some (aI (zI r.2.2.2[i].1)), h) := Rd_part0 d hs (k := 0) (by omega) (by omega) hat
      have c1 : Cc (d + 1) k_Rd_part [aR (some a), aI (zI i), aI (zI 1)] h = some (some (aI (zI r.2.2.2[i].2.1)), h) := Rd_part0 d hs (k := 1) (by omega) (by omega) hat
      rw [calI_e c0, obj_e s0, calI_e c1, show zI 3 = zI ((3 : Nat) : Int) from rfl, nmul, nadd]
      simp (disch := omega) only [neq]
      have hF : bkF r.2.2.2 p i = (key r.2.2.2[i] == p) := by unfold bkF; rw [hm]
      have hS := bkN_s r.2.2.2 p i
      by_cases y : r.2.2.2[i].1 * 3 + r.2.2.2[i].2.1 = p
      · rw [hF, show (key r.2.2.2[i] == p) = true from beq_iff_eq.mpr y, if_pos rfl] at hS
        obtain ⟨h', e, f, g1, g2⟩ := sort_in d hv hp k (i + 1) (sI h (a + 2) (bg r.2.2.2 p + (bkN r.2.2.2 p i).length) (zI i)) (by omega) hs (hf.fr (F := fun b => b = a + 2) (fr_sI (F := fun b => b = a + 2) h rfl _ _) (by omega) (by omega)) (by
          intro j x hj
          rw [hS] at hj
          by_cases w : j < (bkN r.2.2.2 p i).length
          · rw [List.getElem?_append_left w] at hj
            rw [hI_off (Or.inr (by omega))]
            exact hb j x hj
          · rw [List.getElem?_append_right (by omega)] at hj
            have : j - (bkN r.2.2.2 p i).length = 0 := by
              have := (List.getElem?_eq_some_iff.mp hj).1
              simp at this; omega
            rw [this] at hj
            simp at hj
            subst hj
            rw [show j = (bkN r.2.2.2 p i).length by omega, hI_hit])
        refine ⟨h', ?_, (fr_sI (F := fun b => b = a + 2) h rfl _ _).tr f, ?_, g2⟩
        · rw [if_pos y, E_Rd_sort_6, obj_e s0, r1]
          simp (disch := omega) only [idx_n s2, lt_e, nadd1]
          rw [E_Rd_sort_7, lt_e, nadd1, ← e, hS, List.length_append]
          rfl
        · intro j hj
          rw [g1 j hj, hI_off (Or.inr (by omega))]
      · rw [hF, show (key r.2.2.2[i] == p) = false from beq_eq_false_iff_ne.mpr y, if_neg (by simp), List.append_nil] at hS
        obtain ⟨h', e, f, g1, g2⟩ := sort_in d hv hp k (i + 1) h (by omega) hs hf (by rw [hS]; exact hb)
        refine ⟨h', ?_, f, g1, g2⟩
        rw [if_neg y, E_Rd_sort_7, lt_e, nadd1, ← e, hS]
    · have : l = [] := List.eq_nil_of_length_eq_zero (by omega)
      rw [this, List.append_nil] at el
      refine ⟨h, ?_, fr.rf _ h, fun _ _ => rfl, by rw [el]; exact hb⟩
      rw [if_neg z, ← el, bg]
theorem sort_lp (d : Nat) {a : Nat} {r : Rdr} (hv : RV r) : ∀ (k p : Nat) (h : AH), p + k = 18 → RDs h a → RDf h a r → (∀ q, q < p → hI h (a + 3) q = zI (bg r.2.2.2 q)) → (∀ q j i : Nat, q < p → (bk r.2.2.2 q)[j]? = some i → hI h (a + 2) (bg r.2.2.2 q + j) = zI i) →
    ∃ h', Rk B_Rd_sort L_Rd_sort (Cc (d + 1)) 1 [aR (some a), aI (zI (bg r.2.2.2 p)), aI (zI p), aU] [] h = some (none, h') ∧ fr (fun b => b = a + 2 ∨ b = a + 3) h h' ∧ RDo h' a r.2.2.2
  | 0, p, h, hk, hs, hf, hb, ho => by
    obtain ⟨s0, s1, s2, s3, r0, r1, r2⟩ := id hs
    have hp : p = 18 := by omega
    subst hp
    refine ⟨sI h (a + 3) 18 (zI (bg r.2.2.2 18)), ?_, fr_sI h (Or.inr rfl) _ _, ?_, ?_⟩
    · rw [E_Rd_sort_1, if_neg (by decide), E_Rd_sort_9, obj_e s0, r2, show zI 18 = zI ((18 : Nat) : Int) from rfl]
      simp (disch := omega) only [idx_n s3, lt_e]
    · intro q hq
      by_cases z : q = 18
      · subst z; rw [hI_hit]
      · rw [hI_off (Or.inr z)]; exact hb q (by omega)
    · intro q j i hq hj
      rw [hI_off (Or.inl (by omega))]; exact ho q j i hq hj
  | k + 1, p, h, hk, hs, hf, hb, ho => by
    obtain ⟨s0, s1, s2, s3, r0, r1, r2⟩ := id hs
    have hl := hv.2.2.2.2.1
    have f1 : fr (fun b => b = a + 3) h (sI h (a + 3) p (zI (bg r.2.2.2 p))) := fr_sI (F := fun b => b = a + 3) h rfl _ _
    obtain ⟨h1, e1, f2, g1, g2⟩ := sort_in d hv (p := p) (a := a) (by omega) r.2.2.2.length 0 (sI h (a + 3) p (zI (bg r.2.2.2 p))) (by omega) (hs.fr f1 (by omega)) (hf.fr f1 (by omega) (by omega)) (by intro j x hj; simp [bkN] at hj)
    have f3 : fr (fun b => b = a + 2 ∨ b = a + 3) h h1 := (f1.mo fun b hb => Or.inr hb).tr (f2.mo fun b hb => Or.inl hb)
    obtain ⟨h2, e2, f4, g3⟩ := sort_lp d hv k (p + 1) h1 (by omega) (hs.fr f3 (by omega)) (hf.fr f3 (by omega) (by omega)) (by
      intro q hq
      rw [f2.I (by omega)]
      by_cases z : q = p
      · subst z; rw [hI_hit]
      · rw [hI_off (Or.inr z)]; exact hb q (by omega)) (by
      intro q j i hq hj
      by_cases z : q = p
      · subst z; exact g2 j i hj
      · have : bg r.2.2.2 q + j < bg r.2.2.2 p := by
          have h1 := bg_mono r.2.2.2 p (q + 1) (by omega)
          have h2 : j < (bk r.2.2.2 q).length := (List.getElem?_eq_some_iff.mp hj).1
          rw [bg] at h1
          omega
        rw [g1 _ this, hI_off (Or.inl (by omega))]
        exact ho q j i (by omega) hj)
    refine ⟨h2, ?_, f3.tr f4, g3⟩
    rw [E_Rd_sort_1, if_pos (by rw [show zI 18 = zI ((18 : Nat) : Int) from rfl, nlt (by omega) (by omega)]; omega), E_Rd_sort_2, obj_e s0, r2]
    simp (disch := omega) only [idx_n s3, lt_e]
    refine Eq.trans ?_ (e1.trans ?_)
    · rfl
    · rw [E_Rd_sort_8, lt_e, nadd1]; exact e2
theorem Rd_sort (d : Nat) {h : AH} {a : Nat} {r : Rdr} (hv : RV r) (hs : RDs h a) (hf : RDf h a r) : ∃ h', Cc (d + 2) k_Rd_sort [aR (some a)] h = some (none, h') ∧ fr (fun b => b = a + 2 ∨ b = a + 3) h h' ∧ RD h' a r := by
  obtain ⟨h', e, f, g⟩ := sort_lp d hv 18 0 h rfl hs hf (by intro q hq; omega) (by intro q j i hq; omega)
  refine ⟨h', ?_, f, hv, hs.fr f (by omega), hf.fr f (by omega) (by omega), g⟩
  rw [C_Rd_sort, E_Rd_sort_0, lt_e, lt_e]; exact e
theorem Rd_become (d : Nat) {h : AH} {a ns nr tk : Nat} (hs : RDs h a) (hv : RV (ns, nr, tk, [])) : ∃ h', Cc (d + 3) k_Rd_become [aR (some a), aI (zI ns), aI (zI nr), aI (zI tk)] h = some (none, h') ∧ fr (fun b => a ≤ b ∧ b ≤ a + 3) h h' ∧ RD h' a (ns, nr, tk, []) := by
  obtain ⟨s0, s1, s2, s3, r0, r1, r2⟩ := id hs
  have f1 : fr (fun b => a ≤ b ∧ b ≤ a + 3) h (sI (sI (sI (sI h a 3 (zI ns)) a 4 (zI nr)) a 5 (zI tk)) a 6 (zI 0)) := (((fr_sI h (by constructor <;> omega) _ _).tr (fr_sI _ (by constructor <;> omega) _ _)).tr (fr_sI _ (by constructor <;> omega) _ _)).tr (fr_sI _ (by constructor <;> omega) _ _)
  obtain ⟨h', e, f, g⟩ := Rd_sort d (h := sI (sI (sI (sI h a 3 (zI ns)) a 4 (zI nr)) a 5 (zI tk)) a 6 (zI 0)) (a := a) hv hs (by
    refine ⟨?_, ?_, ?_, ?_, ?_⟩
    · simp [hI_sI]
    · simp [hI_sI]
    · simp [hI_sI]
    · simp [hI_sI]
    · intro i m hm; simp at hm)
  refine ⟨h', ?_, f1.tr (f.mo fun b hb => by omega), g⟩
  rw [C_Rd_become, E_Rd_become_0]
  simp only [obj_sI, obj_e s0, mb_some]
  rw [calV_e e]
