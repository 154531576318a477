/-! Row: its view, its methods -/
def RWs (h : AH) : Prop := h.1[16]? = some (4, 5) ∧ h.1[17]? = some (0, 12) ∧ h.1[18]? = some (0, 12) ∧ h.1[19]? = some (0, 12) ∧ h.1[20]? = some (0, 13) ∧ hR h 16 0 = some 17 ∧ hR h 16 1 = some 18 ∧ hR h 16 2 = some 19 ∧ hR h 16 3 = some 20
def gp1 (p : Int × Int) : Nat := (if p.1 = -1 then 1 else 0) + (if p.2 = -1 then 1 else 0)
def gp2 (p : Int × Int) : Nat := if p.1 = -1 ∨ p.2 = -1 then 1 else 0
def sm (f : Int × Int → Nat) : Rw → Nat
  | [] => 0
  | p :: l => f p + sm f l
def gaps (w : Rw) : Nat := sm gp1 w
def gapPairs (w : Rw) : Nat := sm gp2 w
theorem sm_app (f : Int × Int → Nat) : ∀ (u v : Rw), sm f (u ++ v) = sm f u + sm f v
  | [], v => by simp [sm]
  | p :: u, v => by rw [List.cons_append, sm, sm, sm_app f u v]; omega
theorem sm_take {f : Int × Int → Nat} {w : Rw} {i : Nat} {p : Int × Int} (h : w[i]? = some p) : sm f (w.take (i + 1)) = sm f (w.take i) + f p := by
  rw [List.take_add_one, h, sm_app]; simp [sm]
theorem sm_le {f : Int × Int → Nat} {b : Nat} (hf : ∀ p, f p ≤ b) : ∀ (w : Rw), sm f w ≤ b * w.length
  | [] => by simp [sm]
  | p :: w => by have := sm_le hf w; have := hf p; rw [sm, List.length_cons, Nat.mul_add]; omega
def RWd (h : AH) (w : Rw) : Prop := ∀ i p, w[i]? = some p → hI h 17 i = zI p.1 ∧ hI h 18 i = zI p.2
def RWf (h : AH) (w : Rw) : Prop := hI h 16 5 = zI (tn w).length ∧ hI h 16 6 = zI (gaps w) ∧ hI h 16 7 = zI (gapPairs w) ∧ (∀ i p, w[i]? = some p → hI h 19 i = zI (idn w p.2)) ∧ ∀ i, 1 ≤ i ∧ i ≤ w.length → hI h 20 i = zI (alv (idn w) (w.drop i))
def RW (h : AH) (w : Rw) : Prop := WV w ∧ RWs h ∧ hI h 16 4 = zI w.length ∧ RWd h w ∧ RWf h w
theorem RWs.fr {F : Nat → Prop} {h h' : AH} (p : RWs h) (f : fr F h h') (n : ¬ F 16) : RWs h' := by
  unfold RWs at *; rw [f.1, f.R n, f.R n, f.R n, f.R n]; exact p
theorem RW.fr {F : Nat → Prop} {h h' : AH} {w : Rw} (p : RW h w) (f : fr F h h') (n : ∀ b, 16 ≤ b → b ≤ 20 → ¬ F b) : RW h' w := by
  have n0 := n 16 (by omega) (by omega)
  refine ⟨p.1, p.2.1.fr f n0, by rw [f.I n0]; exact p.2.2.1, ?_, ?_⟩
  · unfold RWd; simp only [f.I (n 17 (by omega) (by omega)), f.I (n 18 (by omega) (by omega))]; exact p.2.2.2.1
  · unfold RWf; simp only [f.I n0, f.I (n 19 (by omega) (by omega)), f.I (n 20 (by omega) (by omega))]; exact p.2.2.2.2
theorem WV.at {w : Rw} (hw : WV w) {i : Nat} {p : Int × Int} (h : w[i]? = some p) : i < 12 ∧ i < w.length ∧ -1 ≤ p.1 ∧ p.1 ≤ 2 ∧ -1 ≤ p.2 ∧ p.2 ≤ 99 := by
  obtain ⟨hi, e⟩ := List.getElem?_eq_some_iff.mp h
  have h1 := hw.1
  have := hw.2 p (e ▸ List.getElem_mem hi)
  exact ⟨by omega, hi, this⟩
/-- idAt: the heap's told names are those before i -/
theorem Rw_idAt (d : Nat) {h : AH} {w : Rw} {i : Nat} {p : Int × Int} (hw : WV w) (hs : RWs h) (hd : RWd h w) (hp : w[i]? = some p) (ht : hI h 16 5 = zI (tn (w.take i)).length) (hid : ∀ j q, j < i → w[j]? = some q → hI h 19 j = zI (idn w q.2)) :
    ∃ h', Cc (d + 1) k_Rw_idAt [aR (some 16), aI (zI i)] h = some (some (aI (zI (idn w p.2))), h') ∧ (h' = h ∨ h' = sI h 16 5 (zI (tn (w.take (i + 1))).length)) ∧ hI h' 16 5 = zI (tn (w.take (i + 1))).length := by
  obtain ⟨s0, s1, s2, s3, s4, r0, r1, r2, r3⟩ := id hs
  obtain ⟨hi, hil, v1, v2, v3, v4⟩ := hw.at hp
  have hl := tn_len (w.take i)
  rw [List.length_take] at hl
  rw [C_Rw_idAt, E_Rw_idAt_0, obj_e s0, r1]
  simp (disch := omega) only [idx_n s2]
  rw [(hd i p hp).2]
  have es := tn_s hp
  simp (disch := omega) only [yeq]
  by_cases z : p.2 = -1
  · refine ⟨h, by rw [if_pos z, E_Rw_idAt_1, z, idn_gap]; rfl, Or.inl rfl, ?_⟩
    rw [es, addN, if_pos (Or.inl z)]; exact ht
  · rw [if_neg z, E_Rw_idAt_2, lt_e]
    have lp : ∀ k j : Nat, j + k = i → (∀ t q, t < j → w[t]? = some q → q.2 ≠ p.2) → ∃ h', Rk B_Rw_idAt L_Rw_idAt (Cc d) 3 [aR (some 16), aI (zI i), aI (zI j)] [] h = some (some (aI (zI (idn w p.2))), h') ∧ (h' = h ∨ h' = sI h 16 5 (zI (tn (w.take (i + 1))).length)) ∧ hI h' 16 5 = zI (tn (w.take (i + 1))).length := by
      intro k
      induction k with
      | zero =>
        intro j hj hn
        have : j = i := by omega
        subst this
        have hnot : p.2 ∉ tn (w.take j) := by
          intro hm
          obtain ⟨-, q, hq, e⟩ := tn_mem.mp hm
          obtain ⟨t, ht2, e2⟩ := List.getElem_of_mem hq
          rw [List.length_take] at ht2
          rw [List.getElem_take] at e2
          exact hn t q (by omega) (by rw [← e2]; exact List.getElem?_eq_getElem _) e
        have e1 : tn (w.take (j + 1)) = tn (w.take j) ++ [p.2] := by
          rw [es, addN, if_neg (by intro y; rcases y with y | y; exact z y; exact hnot y)]
        refine ⟨sI h 16 5 (zI (tn (w.take (j + 1))).length), ?_, Or.inr rfl, hI_hit _ _ _ _⟩
        rw [E_Rw_idAt_3]
        simp (disch := omega) only [nlt]
        rw [if_neg (by omega), E_Rw_idAt_7, obj_e s0, obj_e s0, mb_some, obj_sI, obj_e s0, hI_hit, ht, nadd1, idn_new hp z hnot, e1, List.length_append]
        rfl
      | succ k ih =>
        intro j hj hn
        rw [E_Rw_idAt_3]
        simp (disch := omega) only [nlt]
        have hjl : j < w.length := by omega
        have hq : w[j]? = some w[j] := List.getElem?_eq_getElem hjl
        obtain ⟨-, -, y1, y2, y3, y4⟩ := hw.at hq
        rw [if_pos (by omega), E_Rw_idAt_4, obj_e s0, r1]
        simp (disch := omega) only [idx_n s2, obj_e s0, r1]
        rw [(hd i p hp).2, (hd j _ hq).2]
        simp (disch := omega) only [yeq]
        by_cases y : w[j].2 = p.2
        · refine ⟨h, ?_, Or.inl rfl, ?_⟩
          · rw [if_pos y, E_Rw_idAt_5, obj_e s0, r2]
            simp (disch := omega) only [idx_n s3]
            rw [hid j _ (by omega) hq, y]
          · rw [es, addN, if_pos (Or.inr ?_)]
            · exact ht
            · rw [tn_mem]
              refine ⟨z, w[j], ?_, y⟩
              rw [List.mem_take_iff_getElem]
              exact ⟨j, by omega, rfl⟩
        · rw [if_neg y, E_Rw_idAt_6, lt_e, nadd1]
          refine ih (j + 1) (by omega) ?_
          intro t q ht2 htq
          by_cases x : t = j
          · subst x; rw [hq] at htq; cases htq; exact y
          · exact hn t q (by omega) htq
    exact lp i 0 (by omega) (by intro t q h0; omega)
theorem Rw_hasGap (d : Nat) {h : AH} {w : Rw} {i : Nat} {p : Int × Int} (hw : WV w) (hs : RWs h) (hd : RWd h w) (hp : w[i]? = some p) : Cc (d + 1) k_Rw_hasGap [aR (some 16), aI (zI i)] h = some (some (aI (zI (gp2 p))), h) := by
  obtain ⟨s0, s1, s2, s3, s4, r0, r1, r2, r3⟩ := id hs
  obtain ⟨hi, hil, v1, v2, v3, v4⟩ := hw.at hp
  rw [C_Rw_hasGap, E_Rw_hasGap_0, obj_e s0, r0]
  simp (disch := omega) only [idx_n s1]
  rw [(hd i p hp).1]
  simp (disch := omega) only [yeq]
  unfold gp2
  by_cases z : p.1 = -1
  · simp [z, E_Rw_hasGap_2, E_Rw_hasGap_4, zI_0, zI_1]
  · rw [if_neg z, E_Rw_hasGap_1, obj_e s0, r1]
    simp (disch := omega) only [idx_n s2]
    rw [(hd i p hp).2]
    simp (disch := omega) only [yeq]
    by_cases y : p.2 = -1
    · simp [y, E_Rw_hasGap_2, E_Rw_hasGap_4, zI_0, zI_1]
    · simp [z, y, E_Rw_hasGap_3, E_Rw_hasGap_4, zI_0, zI_1]
