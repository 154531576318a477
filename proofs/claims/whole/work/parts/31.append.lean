/-! System.arraycopy; Reader.appendAll, remove -/
theorem zc0 : zI 0 = zI ((0 : Nat) : Int) := rfl
theorem zc1 : zI 1 = zI ((1 : Nat) : Int) := rfl
theorem zc2 : zI 2 = zI ((2 : Nat) : Int) := rfl
theorem zc3 : zI 3 = zI ((3 : Nat) : Int) := rfl
theorem zc4 : zI 4 = zI ((4 : Nat) : Int) := rfl
theorem zc5 : zI 5 = zI ((5 : Nat) : Int) := rfl
theorem zc6 : zI 6 = zI ((6 : Nat) : Int) := rfl
theorem zc7 : zI 7 = zI ((7 : Nat) : Int) := rfl
theorem zc8 : zI 8 = zI ((8 : Nat) : Int) := rfl
theorem zc10 : zI 10 = zI ((10 : Nat) : Int) := rfl
theorem zc11 : zI 11 = zI ((11 : Nat) : Int) := rfl
theorem zc12 : zI 12 = zI ((12 : Nat) : Int) := rfl
theorem zc13 : zI 13 = zI ((13 : Nat) : Int) := rfl
theorem zc14 : zI 14 = zI ((14 : Nat) : Int) := rfl
theorem zc15 : zI 15 = zI ((15 : Nat) : Int) := rfl
theorem zc16 : zI 16 = zI ((16 : Nat) : Int) := rfl
theorem zc20 : zI 20 = zI ((20 : Nat) : Int) := rfl
theorem zc100 : zI 100 = zI ((100 : Nat) : Int) := rfl
theorem zc150 : zI 150 = zI ((150 : Nat) : Int) := rfl
theorem P_copy (d : Nat) {h : AH} {a b n0 n1 sp dp n : Nat} (ha : h.1[a]? = some (0, n0)) (hb : h.1[b]? = some (0, n1)) (h1 : sp + n ≤ n0) (h2 : dp + n ≤ n1) (h3 : n0 < 2147483648) (h4 : n1 < 2147483648) :
    Cc (d + 1) 1 [aR (some a), aI (zI sp), aR (some b), aI (zI dp), aI (zI n)] h = some (none, cpI h a b sp dp n) := by
  show (match h.1[a]?, h.1[b]? with
    | some (0, n0), some (0, n1) => if ¬ zI sp < 0 ∧ ¬ zI dp < 0 ∧ ¬ zI n < 0 ∧ (zI sp).toNatClampNeg + (zI n).toNatClampNeg ≤ n0 ∧ (zI dp).toNatClampNeg + (zI n).toNatClampNeg ≤ n1 then some (none, cpI h a b (zI sp).toNatClampNeg (zI dp).toNatClampNeg (zI n).toNatClampNeg) else none
    | _, _ => none : Option AR) = _
  rw [ha, hb]
  show (if ¬ zI sp < 0 ∧ ¬ zI dp < 0 ∧ ¬ zI n < 0 ∧ (zI sp).toNatClampNeg + (zI n).toNatClampNeg ≤ n0 ∧ (zI dp).toNatClampNeg + (zI n).toNatClampNeg ≤ n1 then some (none, cpI h a b (zI sp).toNatClampNeg (zI dp).toNatClampNeg (zI n).toNatClampNeg) else none : Option AR) = _
  simp (disch := omega) only [zI_clamp, nlt0]
  rw [if_pos ⟨id, id, id, h1, h2⟩]
theorem fr_cp {F : Nat → Prop} (h : AH) (a : Nat) {b : Nat} (hb : F b) (sp dp n : Nat) : fr F h (cpI h a b sp dp n) :=
  ⟨rfl, fun c hc => ⟨fun j => if_neg (fun (q : c = b) => hc (q ▸ hb)), fun _ => rfl, fun _ => rfl⟩⟩
theorem hI_cp (h : AH) (a b sp dp n j : Nat) : hI (cpI h a b sp dp n) b j = if dp ≤ j ∧ j < dp + n then hI h a (sp + (j - dp)) else hI h b j := by
  show (if b = b then va_cpy (h.2.1 a) (h.2.1 b) sp dp n j else h.2.1 b j) = _
  rw [if_pos rfl]
  split
  · rename_i q; exact pk_cpy_in q.1 q.2
  · rename_i q; exact pk_cpy_out (by omega)
theorem Rd_appendAll (d : Nat) {h : AH} {a t : Nat} {r : Rdr} (p : RD h a r) {tl : List Mv} (ht : h.1[t]? = some (0, 100)) (hl : r.2.2.2.length + tl.length ≤ 20) (hm : ∀ i m, tl[i]? = some m → mvAt h t i m) (hv : RV (r.1, r.2.1, r.2.2.1, r.2.2.2 ++ tl)) :
    ∃ h', Cc (d + 3) k_Rd_appendAll [aR (some a), aR (some t), aI (zI tl.length)] h = some (none, h') ∧ fr (fun b => a ≤ b ∧ b ≤ a + 3) h h' ∧ RD h' a (r.1, r.2.1, r.2.2.1, r.2.2.2 ++ tl) := by
  obtain ⟨s0, s1, s2, s3, r0, r1, r2⟩ := id p.2.1
  have hf := p.2.2.1
  have f1 : fr (fun b => a ≤ b ∧ b ≤ a + 3) h (cpI h t (a + 1) 0 (r.2.2.2.length * 5) (tl.length * 5)) := fr_cp h t (by constructor <;> omega) _ _ _
  have f2 : fr (fun b => a ≤ b ∧ b ≤ a + 3) h (sI (cpI h t (a + 1) 0 (r.2.2.2.length * 5) (tl.length * 5)) a 6 (zI ((r.2.2.2.length + tl.length : Nat) : Int))) := f1.tr (fr_sI _ (by constructor <;> omega) _ _)
  have k1 : ∀ j, hI (cpI h t (a + 1) 0 (r.2.2.2.length * 5) (tl.length * 5)) a j = hI h a j := fun j => (fr_cp (F := fun b => b = a + 1) h t rfl _ _ _).I (by omega) j
  obtain ⟨h', e, f, g⟩ := Rd_sort d (h := sI (cpI h t (a + 1) 0 (r.2.2.2.length * 5) (tl.length * 5)) a 6 (zI ((r.2.2.2.length + tl.length : Nat) : Int))) (a := a) hv ⟨s0, s1, s2, s3, r0, r1, r2⟩ (by
    refine ⟨?_, ?_, ?_, ?_, ?_⟩
    · rw [hI_off (Or.inr (by omega)), k1]; exact hf.1
    · rw [hI_off (Or.inr (by omega)), k1]; exact hf.2.1
    · rw [hI_off (Or.inr (by omega)), k1]; exact hf.2.2.1
    · rw [hI_hit]; simp
    · intro i m hi
      have key : ∀ k, k < 5 → hI (sI (cpI h t (a + 1) 0 (r.2.2.2.length * 5) (tl.length * 5)) a 6 (zI ((r.2.2.2.length + tl.length : Nat) : Int))) (a + 1) (i * 5 + k) = if i < r.2.2.2.length then hI h (a + 1) (i * 5 + k) else hI h t ((i - r.2.2.2.length) * 5 + k) := by
        intro k hk
        rw [hI_off (Or.inl (by omega)), hI_cp]
        have hi2 := (List.getElem?_eq_some_iff.mp hi).1
        rw [List.length_append] at hi2
        by_cases z : i < r.2.2.2.length
        · rw [if_neg (by omega), if_pos z]
        · rw [if_pos (by omega), if_neg z]
          congr 1
          omega
      unfold mvAt
      rw [key 0 (by omega), key 1 (by omega), key 2 (by omega), key 3 (by omega), key 4 (by omega)]
      by_cases z : i < r.2.2.2.length
      · simp only [if_pos z]
        rw [List.getElem?_append_left z] at hi
        exact hf.2.2.2.2 i m hi
      · simp only [if_neg z]
        rw [List.getElem?_append_right (by omega)] at hi
        exact hm _ m hi)
  refine ⟨h', ?_, f2.tr (f.mo fun b hb => by omega), g⟩
  rw [C_Rd_appendAll, E_Rd_appendAll_0]
  simp (disch := omega) only [nlt0, if_false]
  rw [E_Rd_appendAll_1, obj_e s0, hf.2.2.2.1, show zI 20 - zI r.2.2.2.length = zI (20 - r.2.2.2.length) from zI_sub _ _]
  simp (disch := omega) only [yle]
  rw [if_pos (by omega), E_Rd_appendAll_2, mb_some, aln_0 ht, mb_some, show zI 5 = zI ((5 : Nat) : Int) from rfl, nmul, zI_nI]
  simp (disch := omega) only [nle]
  rw [if_pos (by omega), E_Rd_appendAll_4, obj_e s0, obj_e s0, r0, hf.2.2.2.1, show zI 5 = zI ((5 : Nat) : Int) from rfl, nmul, nmul, zc0, calV_e (P_copy _ ht s1 (by omega) (by omega) (by omega) (by omega))]
  rw [obj_e (by exact s0), obj_e (by exact s0), k1, hf.2.2.2.1, nadd, mb_some, obj_e (by exact s0), calV_e e]
theorem RV.er {r : Rdr} (p : RV r) (i : Nat) : RV (r.1, r.2.1, r.2.2.1, r.2.2.2.eraseIdx i) := by
  obtain ⟨p1, p2, p3, p4, p5, p6⟩ := p
  refine ⟨p1, p2, p3, p4, ?_, ?_⟩
  · have := List.length_eraseIdx_le r.2.2.2 i
    show (r.2.2.2.eraseIdx i).length ≤ 20
    omega
  · intro m hm
    exact p6 m (List.mem_of_mem_eraseIdx hm)
theorem Rd_remove (d : Nat) {h : AH} {a i : Nat} {r : Rdr} (p : RD h a r) (hi : i < r.2.2.2.length) :
    ∃ h', Cc (d + 3) k_Rd_remove [aR (some a), aI (zI i)] h = some (none, h') ∧ fr (fun b => a ≤ b ∧ b ≤ a + 3) h h' ∧ RD h' a (r.1, r.2.1, r.2.2.1, r.2.2.2.eraseIdx i) := by
  obtain ⟨s0, s1, s2, s3, r0, r1, r2⟩ := id p.2.1
  have hf := p.2.2.1
  have hl := p.1.2.2.2.2.1
  have hn : (r.2.2.2.eraseIdx i).length = r.2.2.2.length - 1 := List.length_eraseIdx_of_lt hi
  have f1 : fr (fun b => a ≤ b ∧ b ≤ a + 3) h (cpI h (a + 1) (a + 1) ((i + 1) * 5) (i * 5) (r.2.2.2.length * 5 - (i + 1) * 5)) := fr_cp h _ (by constructor <;> omega) _ _ _
  have f2 : fr (fun b => a ≤ b ∧ b ≤ a + 3) h (sI (cpI h (a + 1) (a + 1) ((i + 1) * 5) (i * 5) (r.2.2.2.length * 5 - (i + 1) * 5)) a 6 (zI ((r.2.2.2.length - 1 : Nat) : Int))) := f1.tr (fr_sI _ (by constructor <;> omega) _ _)
  have k1 : ∀ j, hI (cpI h (a + 1) (a + 1) ((i + 1) * 5) (i * 5) (r.2.2.2.length * 5 - (i + 1) * 5)) a j = hI h a j := fun j => (fr_cp (F := fun b => b = a + 1) h _ rfl _ _ _).I (by omega) j
  obtain ⟨h', e, f, g⟩ := Rd_sort d (h := sI (cpI h (a + 1) (a + 1) ((i + 1) * 5) (i * 5) (r.2.2.2.length * 5 - (i + 1) * 5)) a 6 (zI ((r.2.2.2.length - 1 : Nat) : Int))) (a := a) (p.1.er i) ⟨s0, s1, s2, s3, r0, r1, r2⟩ (by
    refine ⟨?_, ?_, ?_, ?_, ?_⟩
    · rw [hI_off (Or.inr (by omega)), k1]; exact hf.1
    · rw [hI_off (Or.inr (by omega)), k1]; exact hf.2.1
    · rw [hI_off (Or.inr (by omega)), k1]; exact hf.2.2.1
    · rw [hI_hit, hn]
    · intro j m hj
      have hj2 := (List.getElem?_eq_some_iff.mp hj).1
      rw [hn] at hj2
      have key : ∀ k, k < 5 → hI (sI (cpI h (a + 1) (a + 1) ((i + 1) * 5) (i * 5) (r.2.2.2.length * 5 - (i + 1) * 5)) a 6 (zI ((r.2.2.2.length - 1 : Nat) : Int))) (a + 1) (j * 5 + k) = if j < i then hI h (a + 1) (j * 5 + k) else hI h (a + 1) ((j + 1) * 5 + k) := by
        intro k hk
        rw [hI_off (Or.inl (by omega)), hI_cp]
        by_cases z : j < i
        · rw [if_neg (by omega), if_pos z]
        · rw [if_pos (by omega), if_neg z]
          congr 1
          omega
      unfold mvAt
      rw [key 0 (by omega), key 1 (by omega), key 2 (by omega), key 3 (by omega), key 4 (by omega)]
      by_cases z : j < i
      · simp only [if_pos z]
        rw [List.getElem?_eraseIdx_of_lt z] at hj
        exact hf.2.2.2.2 j m hj
      · simp only [if_neg z]
        rw [List.getElem?_eraseIdx_of_ge (by omega)] at hj
        exact hf.2.2.2.2 _ m hj)
  refine ⟨h', ?_, f2.tr (f.mo fun b hb => by omega), g⟩
  rw [C_Rd_remove, E_Rd_remove_0]
  simp (disch := omega) only [nlt0, if_false]
  rw [E_Rd_remove_1, obj_e s0, hf.2.2.2.1]
  simp (disch := omega) only [nlt]
  rw [if_pos hi, E_Rd_remove_3, lt_e, nadd1, show zI 5 = zI ((5 : Nat) : Int) from rfl, nmul, obj_e s0, obj_e s0, obj_e s0, r0, hf.2.2.2.1, nmul]
  rw [show zI (((i + 1) * 5 : Nat) : Int) - zI ((5 : Nat) : Int) = zI ((i * 5 : Nat) : Int) from by rw [zI_sub]; congr 1; omega]
  rw [show zI ((r.2.2.2.length * 5 : Nat) : Int) - zI (((i + 1) * 5 : Nat) : Int) = zI ((r.2.2.2.length * 5 - (i + 1) * 5 : Nat) : Int) from by rw [zI_sub]; congr 1; omega]
  rw [calV_e (P_copy _ s1 s1 (by omega) (by omega) (by omega) (by omega)), obj_e (by exact s0), obj_e (by exact s0), k1, hf.2.2.2.1, nsub1 (by omega), mb_some, obj_e (by exact s0), calV_e e]
