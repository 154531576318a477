/-! ShapeSearch: goOn -/
def sF (depth b : Nat) : Prop := b = 77 ∨ b = 78 ∨ (22 + 3 * (depth + 1) ≤ b ∧ b < 40) ∨ (40 + 3 * (depth + 1) ≤ b ∧ b < 58)
theorem SQ_sp {s : Stt} {h h' : AH} {n l g ra oa : Nat} (q : SQ s h n l g ra oa) {k : Nat} (hk : k < 14) {S : Nat → Bool} (f : fr (spF (22 + 3 * k)) h h') (p : SP h' (22 + 3 * k) 24576 S) : SQ s h' n l g ra oa := by
  have n77 : ¬ spF (22 + 3 * k) 77 := by unfold spF; omega
  exact ⟨XI_sp q.1 hk f p, by rw [f.I n77]; exact q.2.1, by rw [f.I n77]; exact q.2.2.1, by rw [f.I n77]; exact q.2.2.2.1, by rw [f.R n77]; exact q.2.2.2.2.1, by rw [f.R n77]; exact q.2.2.2.2.2⟩
theorem rq_no {r : Rdr} : ∀ (t u : List (Nat × Nat)), (∀ c, ¬ rq r u c) → ∀ c, ¬ rq r (rv t u) c
  | [], u, h, c => h c
  | p :: t, u, h, c => rq_no t ((p.1, p.2 + 1) :: u) (fun c' => by rintro ⟨c1, h1, -⟩; exact h c1 h1) c
theorem tkn_no {r : Rdr} {u : List (Nat × Nat)} (h : ∀ c, ¬ rq r u c) : tkn r u = false := by
  unfold tkn; rw [bl_f]; rintro ⟨c, h1, -⟩; exact h c h1
theorem FS_no {r o : Rdr} {l n used : Nat} {u : List (Nat × Nat)} (h1 : ∀ c, ¬ rq r u c) (h2 : ∀ c, ¬ rq o u c) : FS r o l n used u = [] := by
  unfold FS
  apply List.filter_eq_nil_iff.mpr
  intro t _
  unfold dif
  rw [tkn_no (rq_no t u h1), tkn_no (rq_no t u h2)]
  simp
theorem RQS_no {r : Rdr} (hv : RV r) {S : Nat → Bool} {u : List (Nat × Nat)} (hu : ∀ p, p ∈ u → p.2 < 16) (hS : RQS S r u allT) (h : cn S 24576 = 0) : ∀ c, ¬ rq r u c := by
  intro c hc
  have := (hS (eX c)).mpr ⟨c, hc, by rw [stl_all]⟩
  rw [cn_zero h _ (eX_lt (rq_v hv u c hu hc))] at this
  cases this
noncomputable def sub (r o : Rdr) (l m used : Nat) (u : List (Nat × Nat)) (lt x : Nat) : List (List (Nat × Nat)) := (FS r o l m (nu used x) ((lt, x + 1) :: u)).map fun t => (lt, x) :: t
theorem FS_f (r o : Rdr) (l m used : Nat) (u : List (Nat × Nat)) : FS r o l (m + 1) used u = (List.range' 0 l).flatMap fun lt => (List.range' 0 (used + 1)).flatMap fun x => sub r o l m used u lt x := by
  rw [FS_s]
  unfold prl
  rw [List.flatMap_assoc]
  congr 1
  funext lt
  rw [List.flatMap_map]
  rfl
/-- what a part of the search comes to -/
def SPar (h' : AH) (depth g v : Nat) (F : List (List (Nat × Nat))) (A : Option AR) (B : Option AR) : Prop := (g < v + F.length ∧ A = some (some (aI (zI 1)), h') ∧ ∃ t, F[g - v]? = some t ∧ ∀ j p, t[j]? = some p → hI h' 78 (depth + j) = zI ((16 * p.1 + p.2 : Nat) : Int)) ∨ (v + F.length ≤ g ∧ A = B ∧ hI h' 77 7 = zI ((v + F.length : Nat) : Int))
def GO (d : Nat) (s : Stt) (n l g ra oa : Nat) (r o : Rdr) (m : Nat) : Prop := ∀ (depth used v : Nat) (h : AH) (u : List (Nat × Nat)) (S T : Nat → Bool), depth + m + 1 = n → used ≤ depth → SQ s h n l g ra oa → SP h (22 + 3 * depth) 24576 S → SP h (22 + 3 * (6 + depth)) 24576 T → RQS S r u allT → RQS T o u allT → (∀ p, p ∈ u → p.2 ≤ used) → hI h 77 7 = zI v → v ≤ g →
  ∃ h' ans, Cc (d + m + 6) k_Ss_goOn [aR (some 77), aI (zI depth), aI (zI used)] h = some (some (aI (zI ((ans : Nat) : Int))), h') ∧ SQ s h' n l g ra oa ∧ fr (sF depth) h h' ∧ (∀ j, j < depth → hI h' 78 j = hI h 78 j) ∧ SRes h' depth g v (FS r o l (m + 1) used u) ans
theorem go_in (d : Nat) {s : Stt} {n l g ra oa m : Nat} {r o : Rdr} (hl : l ≤ 3) (hn6 : n ≤ 6) (hg : g < 2147483648) (hr : ∀ h, XI s h → RD h ra r) (ho : ∀ h, XI s h → RD h oa o) (hra : ra ≤ 9) (hoa : oa ≤ 9) (ih : GO d s n l g ra oa r o m) {depth used lt : Nat} {u : List (Nat × Nat)} {S T : Nat → Bool} (hd : depth + (m + 1) + 1 = n) (hu : used ≤ depth) (hlt : lt < l) (rS : RQS S r u allT) (rT : RQS T o u allT) (hn : ∀ p, p ∈ u → p.2 ≤ used) :
    ∀ (k x v : Nat) (h : AH), x + k = used + 1 → SQ s h n l g ra oa → SP h (22 + 3 * depth) 24576 S → SP h (22 + 3 * (6 + depth)) 24576 T → hI h 77 7 = zI v → v ≤ g → ∃ h', SQ s h' n l g ra oa ∧ fr (sF depth) h h' ∧ (∀ j, j < depth → hI h' 78 j = hI h 78 j) ∧
      SPar h' depth g v ((List.range' x k).flatMap fun x => sub r o l (m + 1) used u lt x) (Rk B_Ss_goOn L_Ss_goOn (Cc (d + m + 6)) 5 [aR (some 77), aI (zI depth), aI (zI used), aI (zI lt), aI (zI x), aU] [] h) (Rk B_Ss_goOn L_Ss_goOn (Cc (d + m + 6)) 16 [aR (some 77), aI (zI depth), aI (zI used), aI (zI lt), aU, aU] [] h')
  | 0, x, v, h, hx, q, pS, pT, hv, hvg => by
    refine ⟨h, q, fr.rf _ h, fun _ _ => rfl, Or.inr ⟨by simpa using hvg, ?_, by simpa using hv⟩⟩
    rw [E_Ss_goOn_5]
    simp (disch := omega) only [nle]
    rw [if_neg (by omega)]
  | k + 1, x, v, h, hx, q, pS, pT, hv, hvg => by
    have hu16 : ∀ p, p ∈ u → p.2 < 16 := fun p hp => by have := hn p hp; omega
    have hA : AL (zI (-1)) allT := Or.inl ⟨rfl, fun _ => rfl⟩
    obtain ⟨⟨S0, hS0⟩, -⟩ := q.1.set (k := depth + 1) (by omega)
    have rd := hr h q.1
    obtain ⟨h1, S1, e1, f1, p1, g1⟩ := Sp_follow (d + m + 1) (a := 22 + 3 * (depth + 1)) (b := 22 + 3 * depth) (l := lt) (x := x + 1) hra (by omega) (by omega) (by omega) (by omega) hA hS0 pS rd
    have rS1 : RQS S1 r ((lt, x + 1) :: u) allT := RQS_s rd.1 hu16 rS rfl (by omega) rfl (fun _ _ => rfl) g1
    have q1 := SQ_sp q (by omega) f1 p1
    have n77 : ¬ spF (22 + 3 * (depth + 1)) 77 := by unfold spF; omega
    have n78 : ¬ spF (22 + 3 * (depth + 1)) 78 := by unfold spF; omega
    have pT1 := pT.fr f1 (fun b hb => by unfold spF at *; omega)
    have pS1 := pS.fr f1 (fun b hb => by unfold spF at *; omega)
    obtain ⟨⟨T0, hT0⟩, -⟩ := q1.1.set (k := 6 + (depth + 1)) (by omega)
    have od := ho h1 q1.1
    obtain ⟨h2, T1, e2, f2, p2, g2⟩ := Sp_follow (d + m + 1) (a := 22 + 3 * (6 + (depth + 1))) (b := 22 + 3 * (6 + depth)) (l := lt) (x := x + 1) hoa (by omega) (by omega) (by omega) (by omega) hA hT0 pT1 od
    have rT1 : RQS T1 o ((lt, x + 1) :: u) allT := RQS_s od.1 hu16 rT rfl (by omega) rfl (fun _ _ => rfl) g2
    have q2 := SQ_sp q1 (by omega) f2 p2
    have n77' : ¬ spF (22 + 3 * (6 + (depth + 1))) 77 := by unfold spF; omega
    have n78' : ¬ spF (22 + 3 * (6 + (depth + 1))) 78 := by unfold spF; omega
    have pT2 := pT1.fr f2 (fun b hb => by unfold spF at *; omega)
    have pS2 := pS1.fr f2 (fun b hb => by unfold spF at *; omega)
    have pN2 := p1.fr f2 (fun b hb => by unfold spF at *; omega)
    obtain ⟨h3, h3e⟩ : ∃ h3, h3 = sI h2 78 depth (zI ((16 * lt + x : Nat) : Int)) := ⟨_, rfl⟩
    have f3 : fr (fun b => b = 78) h2 h3 := by rw [h3e]; exact fr_sI (F := fun b => b = 78) h2 rfl _ _
    have q3 : SQ s h3 n l g ra oa := by rw [h3e]; exact SQ_78 q2 _ _
    have pN3 := pN2.fr f3 (fun b hb => by unfold spF at *; omega)
    have pM3 := p2.fr f3 (fun b hb => by unfold spF at *; omega)
    have pS3 := pS2.fr f3 (fun b hb => by unfold spF at *; omega)
    have pT3 := pT2.fr f3 (fun b hb => by unfold spF at *; omega)
    have fr3 : fr (sF depth) h h3 := ((f1.mo (fun b hb => by unfold spF at hb; unfold sF; omega)).tr (f2.mo (fun b hb => by unfold spF at hb; unfold sF; omega))).tr (f3.mo (fun b hb => Or.inr (Or.inl hb)))
    have hv3 : hI h3 77 7 = zI v := by rw [f3.I (by omega), f2.I n77', f1.I n77]; exact hv
    have h78 : ∀ j, j < depth → hI h3 78 j = hI h 78 j := by
      intro j hj
      rw [h3e, hI_off (Or.inr (by omega)), f2.I n78', f1.I n78]
    have h78d : hI h3 78 depth = zI ((16 * lt + x : Nat) : Int) := by rw [h3e, hI_hit]
    have hu' : ∀ p, p ∈ (lt, x + 1) :: u → p.2 ≤ nu used x := by
      intro p hp
      unfold nu
      rcases List.mem_cons.mp hp with z | z
      · rw [z]; show x + 1 ≤ _; split <;> omega
      · have := hn p z; split <;> omega
    have hu16' : ∀ p, p ∈ (lt, x + 1) :: u → p.2 < 16 := fun p hp => by
      have := hu' p hp
      have : nu used x ≤ used + 1 := by unfold nu; split <;> omega
      omega
    have cS := cn_le S1 24576
    have cT := cn_le T1 24576
    have e6 : Rk B_Ss_goOn L_Ss_goOn (Cc (d + m + 6)) 5 [aR (some 77), aI (zI depth), aI (zI used), aI (zI lt), aI (zI x), aU] [] h = if cn S1 24576 + cn T1 24576 = 0 then Rk B_Ss_goOn L_Ss_goOn (Cc (d + m + 6)) 15 [aR (some 77), aI (zI depth), aI (zI used), aI (zI lt), aI (zI x), aU] [] h3 else Rk B_Ss_goOn L_Ss_goOn (Cc (d + m + 6)) 10 [aR (some 77), aI (zI depth), aI (zI used), aI (zI lt), aI (zI x), aU] [] h3 := by
      rw [E_Ss_goOn_5]
      simp (disch := omega) only [nle]
      rw [if_pos (by omega), E_Ss_goOn_6, nadd1, nadd1, obj_e (z77 q.1.1), calR_e (Ss_setOf _ q.1 (by omega)), obj_e (z77 q.1.1), obj_e (z77 q.1.1), calR_e (Ss_setOf _ q.1 (by omega)), obj_e hS0.1.1, q.2.2.2.2.1, calV_e e1, obj_e (z77 q1.1.1), calR_e (Ss_otherSetOf _ q1.1 (by omega)), obj_e (z77 q1.1.1), obj_e (z77 q1.1.1), calR_e (Ss_otherSetOf _ q1.1 (by omega)), obj_e hT0.1.1, q1.2.2.2.2.2, calV_e e2, obj_e (z77 q2.1.1), q2.1.r (c := 78) (by decide)]
      simp (disch := omega) only [idx_n (z78 q2.1.1)]
      rw [show zI 16 * zI (lt : Int) + zI (x : Int) = zI ((16 * lt + x : Nat) : Int) from by rw [zI_mul, zI_add]; rfl, ← h3e, lt_e, obj_e (z77 q3.1.1), calR_e (Ss_setOf _ q3.1 (by omega)), obj_e pN3.1.1, calI_e (Sp_size _ pN3), obj_e (z77 q3.1.1), calR_e (Ss_otherSetOf _ q3.1 (by omega)), obj_e pM3.1.1, calI_e (Sp_size _ pM3), nadd]
      simp (disch := omega) only [nle0]
      by_cases z : cn S1 24576 + cn T1 24576 = 0
      · rw [if_pos z, if_pos z, E_Ss_goOn_8, E_Ss_goOn_9, lt_e, if_pos zI_0.symm]
      · rw [if_neg z, if_neg z, E_Ss_goOn_7, E_Ss_goOn_9, lt_e, if_neg (by decide)]
    have next : ∀ (h4 : AH) (v4 : Nat), SQ s h4 n l g ra oa → fr (sF depth) h h4 → (∀ j, j < depth → hI h4 78 j = hI h 78 j) → hI h4 77 7 = zI v4 → v4 ≤ g → v4 = v + (sub r o l (m + 1) used u lt x).length → Rk B_Ss_goOn L_Ss_goOn (Cc (d + m + 6)) 5 [aR (some 77), aI (zI depth), aI (zI used), aI (zI lt), aI (zI x), aU] [] h = Rk B_Ss_goOn L_Ss_goOn (Cc (d + m + 6)) 15 [aR (some 77), aI (zI depth), aI (zI used), aI (zI lt), aI (zI x), aU] [] h4 → ∃ h', SQ s h' n l g ra oa ∧ fr (sF depth) h h' ∧ (∀ j, j < depth → hI h' 78 j = hI h 78 j) ∧
      SPar h' depth g v ((List.range' x (k + 1)).flatMap fun x => sub r o l (m + 1) used u lt x) (Rk B_Ss_goOn L_Ss_goOn (Cc (d + m + 6)) 5 [aR (some 77), aI (zI depth), aI (zI used), aI (zI lt), aI (zI x), aU] [] h) (Rk B_Ss_goOn L_Ss_goOn (Cc (d + m + 6)) 16 [aR (some 77), aI (zI depth), aI (zI used), aI (zI lt), aU, aU] [] h') := by
      intro h4 v4 q4 f4 k4 hv4 hvg4 ev e4
      have pS4 := pS.fr f4 (fun b hb => by unfold spF at hb; unfold sF; omega)
      have pT4 := pT.fr f4 (fun b hb => by unfold spF at hb; unfold sF; omega)
      obtain ⟨h', a1, a2, a3, a4⟩ := go_in d hl hn6 hg hr ho hra hoa ih hd hu hlt rS rT hn k (x + 1) v4 h4 (by omega) q4 pS4 pT4 hv4 hvg4
      refine ⟨h', a1, f4.tr a2, fun j hj => (a3 j hj).trans (k4 j hj), ?_⟩
      rw [e4, E_Ss_goOn_15, lt_e, nadd1, List.range'_succ, List.flatMap_cons]
      unfold SPar at a4 ⊢
      rw [List.length_append, ← Nat.add_assoc, ← ev]
      rcases a4 with ⟨b1, b2, t, b3, b4⟩ | b
      · refine Or.inl ⟨b1, b2, t, ?_, b4⟩
        rw [List.getElem?_append_right (by omega), ← b3]
        congr 1
        omega
      · exact Or.inr b
    by_cases z : cn S1 24576 + cn T1 24576 = 0
    · rw [if_pos z] at e6
      have e0 : sub r o l (m + 1) used u lt x = [] := by
        unfold sub
        rw [FS_no (RQS_no rd.1 hu16' rS1 (by omega)) (RQS_no od.1 hu16' rT1 (by omega))]
        rfl
      exact next h3 v q3 fr3 h78 hv3 hvg (by rw [e0]; rfl) e6
    · rw [if_neg z] at e6
      have hnu : nu used x ≤ depth + 1 := by unfold nu; split <;> omega
      obtain ⟨h4, ans, c1, c2, c3, c4, c5⟩ := ih (depth + 1) (nu used x) v h3 _ S1 T1 (by omega) hnu q3 pN3 pM3 rS1 rT1 hu' hv3 hvg
      have e7 : Rk B_Ss_goOn L_Ss_goOn (Cc (d + m + 6)) 5 [aR (some 77), aI (zI depth), aI (zI used), aI (zI lt), aI (zI x), aU] [] h = if zI ((ans : Nat) : Int) = 0 then Rk B_Ss_goOn L_Ss_goOn (Cc (d + m + 6)) 15 [aR (some 77), aI (zI depth), aI (zI used), aI (zI lt), aI (zI x), aU] [] h4 else some (some (aI (zI 1)), h4) := by
        rw [e6, E_Ss_goOn_10]
        simp (disch := omega) only [neq, nadd1]
        unfold nu at c1
        by_cases y : x = used
        · rw [if_pos y, E_Ss_goOn_11, E_Ss_goOn_13, obj_e (z77 q3.1.1), nadd1]
          rw [if_pos y] at c1
          rw [calI_e c1, E_Ss_goOn_14, fr1]
        · rw [if_neg y, E_Ss_goOn_12, E_Ss_goOn_13, obj_e (z77 q3.1.1)]
          rw [if_neg y] at c1
          rw [calI_e c1, E_Ss_goOn_14, fr1]
      have f4 : fr (sF depth) h h4 := fr3.tr (c3.mo (fun b hb => by unfold sF at *; omega))
      have k4 : ∀ j, j < depth → hI h4 78 j = hI h 78 j := fun j hj => (c4 j (by omega)).trans (h78 j hj)
      have k4d : hI h4 78 depth = zI ((16 * lt + x : Nat) : Int) := (c4 depth (by omega)).trans h78d
      have hls : (sub r o l (m + 1) used u lt x).length = (FS r o l (m + 1) (nu used x) ((lt, x + 1) :: u)).length := by unfold sub; rw [List.length_map]
      by_cases y : g < v + (FS r o l (m + 1) (nu used x) ((lt, x + 1) :: u)).length
      · obtain ⟨y1, t, y2, y3⟩ := c5.1 y
        rw [y1, if_neg (by decide)] at e7
        refine ⟨h4, c2, f4, k4, Or.inl ⟨?_, e7, (lt, x) :: t, ?_, ?_⟩⟩
        · rw [List.range'_succ, List.flatMap_cons, List.length_append, hls]; omega
        · rw [List.range'_succ, List.flatMap_cons, List.getElem?_append_left (by rw [hls]; omega)]
          unfold sub
          rw [List.getElem?_map, y2]
          rfl
        · intro j p hp
          cases j with
          | zero => cases hp; rw [Nat.add_zero]; exact k4d
          | succ j =>
            rw [show depth + (j + 1) = depth + 1 + j by omega]
            exact y3 j p hp
      · obtain ⟨y1, y2⟩ := c5.2 (by omega)
        rw [y1, if_pos (show zI ((0 : Nat) : Int) = 0 from rfl)] at e7
        exact next h4 _ c2 f4 k4 y2 (by omega) (by rw [hls]) e7
theorem go_lt (d : Nat) {s : Stt} {n l g ra oa m : Nat} {r o : Rdr} (hl : l ≤ 3) (hn6 : n ≤ 6) (hg : g < 2147483648) (hr : ∀ h, XI s h → RD h ra r) (ho : ∀ h, XI s h → RD h oa o) (hra : ra ≤ 9) (hoa : oa ≤ 9) (ih : GO d s n l g ra oa r o m) {depth used : Nat} {u : List (Nat × Nat)} {S T : Nat → Bool} (hd : depth + (m + 1) + 1 = n) (hu : used ≤ depth) (rS : RQS S r u allT) (rT : RQS T o u allT) (hn : ∀ p, p ∈ u → p.2 ≤ used) :
    ∀ (k lt v : Nat) (h : AH), lt + k = l → SQ s h n l g ra oa → SP h (22 + 3 * depth) 24576 S → SP h (22 + 3 * (6 + depth)) 24576 T → hI h 77 7 = zI v → v ≤ g → ∃ h', SQ s h' n l g ra oa ∧ fr (sF depth) h h' ∧ (∀ j, j < depth → hI h' 78 j = hI h 78 j) ∧
      SPar h' depth g v ((List.range' lt k).flatMap fun lt => (List.range' 0 (used + 1)).flatMap fun x => sub r o l (m + 1) used u lt x) (Rk B_Ss_goOn L_Ss_goOn (Cc (d + m + 6)) 3 [aR (some 77), aI (zI depth), aI (zI used), aI (zI lt), aU, aU] [] h) (some (some (aI (zI 0)), h'))
  | 0, lt, v, h, hx, q, pS, pT, hv, hvg => by
    refine ⟨h, q, fr.rf _ h, fun _ _ => rfl, Or.inr ⟨by simpa using hvg, ?_, by simpa using hv⟩⟩
    rw [E_Ss_goOn_3, obj_e (z77 q.1.1), q.2.2.1]
    simp (disch := omega) only [nlt]
    rw [if_neg (by omega), E_Ss_goOn_17, fr0]
  | k + 1, lt, v, h, hx, q, pS, pT, hv, hvg => by
    obtain ⟨h1, a1, a2, a3, a4⟩ := go_in d hl hn6 hg hr ho hra hoa ih hd hu (lt := lt) (by omega) rS rT hn (used + 1) 0 v h (by omega) q pS pT hv hvg
    have e3 : Rk B_Ss_goOn L_Ss_goOn (Cc (d + m + 6)) 3 [aR (some 77), aI (zI depth), aI (zI used), aI (zI lt), aU, aU] [] h = Rk B_Ss_goOn L_Ss_goOn (Cc (d + m + 6)) 5 [aR (some 77), aI (zI depth), aI (zI used), aI (zI lt), aI (zI ((0 : Nat) : Int)), aU] [] h := by
      rw [E_Ss_goOn_3, obj_e (z77 q.1.1), q.2.2.1]
      simp (disch := omega) only [nlt]
      rw [if_pos (by omega), E_Ss_goOn_4, lt_e]
      rfl
    rcases a4 with ⟨b1, b2, t, b3, b4⟩ | ⟨b1, b2, b3⟩
    · refine ⟨h1, a1, a2, a3, Or.inl ⟨?_, e3.trans b2, t, ?_, b4⟩⟩
      · rw [List.range'_succ (s := lt), List.flatMap_cons, List.length_append]; omega
      · rw [List.range'_succ (s := lt), List.flatMap_cons, List.getElem?_append_left (by omega)]; exact b3
    · have pS1 := pS.fr a2 (fun b hb => by unfold spF at hb; unfold sF; omega)
      have pT1 := pT.fr a2 (fun b hb => by unfold spF at hb; unfold sF; omega)
      obtain ⟨h', c1, c2, c3, c4⟩ := go_lt d hl hn6 hg hr ho hra hoa ih hd hu rS rT hn k (lt + 1) _ h1 (by omega) a1 pS1 pT1 b3 b1
      refine ⟨h', c1, a2.tr c2, fun j hj => (c3 j hj).trans (a3 j hj), ?_⟩
      rw [e3, b2, E_Ss_goOn_16, lt_e, nadd1, List.range'_succ (s := lt), List.flatMap_cons]
      unfold SPar at c4 ⊢
      rw [List.length_append, ← Nat.add_assoc]
      rcases c4 with ⟨y1, y2, t, y3, y4⟩ | y
      · refine Or.inl ⟨y1, y2, t, ?_, y4⟩
        rw [List.getElem?_append_right (by omega), ← y3]
        congr 1
        omega
      · exact Or.inr y
theorem Ss_goOn (d : Nat) {s : Stt} {n l g ra oa : Nat} {r o : Rdr} (hl : l ≤ 3) (hn6 : n ≤ 6) (hg : g < 2147483648) (hr : ∀ h, XI s h → RD h ra r) (ho : ∀ h, XI s h → RD h oa o) (hra : ra ≤ 9) (hoa : oa ≤ 9) : ∀ m, GO d s n l g ra oa r o m
  | 0 => by
    intro depth used v h u S T hd hu q pS pT rS rT hn hv hvg
    obtain ⟨h', ans, e, k1, k2, k3, k4⟩ := Ss_end d q (hr h q.1) (ho h q.1) pS pT rS rT hn (by omega) hl (by omega) hv hvg hg
    refine ⟨h', ans, ?_, k1, k2.mo (fun b hb => by unfold sF; omega), k3, k4⟩
    rw [C_Ss_goOn, E_Ss_goOn_0, obj_e (z77 q.1.1), q.2.1, nsub1 (by omega)]
    simp (disch := omega) only [nlt]
    rw [if_neg (by omega), E_Ss_goOn_1, obj_e (z77 q.1.1), calI_e e, if_pos]
    by_cases z : g < v + (FS r o l 1 used u).length
    · rw [(k4.1 z).1]; exact Or.inr rfl
    · rw [(k4.2 (by omega)).1]; exact Or.inl rfl
  | m + 1 => by
    intro depth used v h u S T hd hu q pS pT rS rT hn hv hvg
    have ih := Ss_goOn d hl hn6 hg hr ho hra hoa m
    obtain ⟨h', c1, c2, c3, c4⟩ := go_lt d hl hn6 hg hr ho hra hoa ih hd hu rS rT hn l 0 v h (by omega) q pS pT hv hvg
    have e : Cc (d + (m + 1) + 6) k_Ss_goOn [aR (some 77), aI (zI depth), aI (zI used)] h = Rk B_Ss_goOn L_Ss_goOn (Cc (d + m + 6)) 3 [aR (some 77), aI (zI depth), aI (zI used), aI (zI ((0 : Nat) : Int)), aU, aU] [] h := by
      rw [show d + (m + 1) + 6 = d + m + 6 + 1 by omega, C_Ss_goOn, E_Ss_goOn_0, obj_e (z77 q.1.1), q.2.1, nsub1 (by omega)]
      simp (disch := omega) only [nlt]
      rw [if_pos (by omega), E_Ss_goOn_2, lt_e]
      rfl
    rw [← FS_f] at c4
    rcases c4 with ⟨b1, b2, t, b3, b4⟩ | ⟨b1, b2, b3⟩
    · exact ⟨h', 1, e.trans b2, c1, c2, c3, fun _ => ⟨rfl, t, b3, b4⟩, fun z => by omega⟩
    · exact ⟨h', 0, e.trans b2, c1, c2, c3, fun z => by omega, fun _ => ⟨rfl, b3⟩⟩
