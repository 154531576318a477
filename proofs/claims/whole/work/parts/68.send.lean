/-! ShapeSearch: shapes in their order; the last pair -/
theorem tb_pred : ∀ (i M : Nat), M.testBit i = true → (∀ j, j < i → M.testBit j = false) → ∀ j, (M - 1).testBit j = if j < i then true else if j = i then false else M.testBit j
  | 0, M, h1, h2, j => by
    rw [Nat.testBit_zero, decide_eq_true_eq] at h1
    cases j with
    | zero => rw [Nat.testBit_zero]; simp; omega
    | succ j =>
      rw [if_neg (by omega), if_neg (by omega), Nat.testBit_succ, Nat.testBit_succ]
      congr 1
      omega
  | i + 1, M, h1, h2, j => by
    have h0 := h2 0 (by omega)
    rw [Nat.testBit_zero, decide_eq_false_iff_not] at h0
    rw [Nat.testBit_succ] at h1
    have ih := tb_pred i (M / 2) h1 (fun j hj => by have := h2 (j + 1) (by omega); rwa [Nat.testBit_succ] at this)
    have hM : M / 2 ≠ 0 := by intro z; rw [z, Nat.zero_testBit] at h1; cases h1
    cases j with
    | zero => rw [Nat.testBit_zero, if_pos (by omega)]; simp; omega
    | succ j =>
      rw [Nat.testBit_succ, show (M - 1) / 2 = M / 2 - 1 by omega, ih j, Nat.testBit_succ]
      have e1 : (j + 1 < i + 1) = (j < i) := propext (by omega)
      have e2 : (j + 1 = i + 1) = (j = i) := propext (by omega)
      simp only [e1, e2]
theorem tb_drop {i M : Nat} (h1 : M.testBit i = true) (h2 : ∀ j, j < i → M.testBit j = false) (j : Nat) : (M &&& (M - 1)).testBit j = (M.testBit j && j != i) := by
  rw [Nat.testBit_and, tb_pred i M h1 h2 j]
  by_cases z : j < i
  · rw [h2 j z]; simp
  · rw [if_neg z]
    by_cases y : j = i
    · rw [if_pos y, y]; simp
    · rw [if_neg y]; simp [y]
theorem els_low {S : Nat → Bool} {lim t : Nat} {l : List Nat} (e : els S lim 0 = t :: l) : t < lim ∧ S t = true ∧ ∀ j, j < t → S j = false := by
  obtain ⟨-, h2, h3, h4⟩ := els_head e
  refine ⟨h2, h3, fun j hj => ?_⟩
  cases y : S j with
  | false => rfl
  | true =>
    have : j ∈ els S lim 0 := els_mem.mpr ⟨Nat.zero_le _, by omega, y⟩
    rw [e] at this
    rcases List.mem_cons.mp this with z | z
    · omega
    · rw [h4] at z; have := (els_mem.mp z).1; omega
theorem els_tl {M t lim : Nat} {l : List Nat} (e : els M.testBit lim 0 = t :: l) : els (M &&& (M - 1)).testBit lim 0 = l := by
  obtain ⟨h2, h3, h4⟩ := els_low e
  have hd : (els M.testBit lim 0).Nodup := List.Pairwise.filter _ List.nodup_range'
  rw [e, List.nodup_cons] at hd
  have : els (M &&& (M - 1)).testBit lim 0 = (els M.testBit lim 0).filter (fun j => j != t) := by
    unfold els
    rw [List.filter_filter]
    apply List.filter_congr
    intro j _
    rw [tb_drop h3 h4, Bool.and_comm]
  rw [this, e, List.filter_cons, if_neg (by simp)]
  apply List.filter_eq_self.mpr
  intro j hj
  have : j ≠ t := fun z => hd.1 (z ▸ hj)
  simp [this]
theorem zI_dl {M : Nat} (hM : M < 2147483648) (h0 : 0 < M) : zI (M : Int) &&& (zI (M : Int) - zI 1) = zI ((M &&& (M - 1) : Nat) : Int) := by
  rw [nsub1 h0, zI_and (by omega) (by omega)]
theorem zI_ng (x : Int32) : -x = (x - zI 1) ^^^ zI (-1) := by
  apply Int32.toBitVec_inj.mp
  rw [Int32.toBitVec_xor, show (zI (-1)).toBitVec = BitVec.allOnes 32 from by decide, BitVec.xor_allOnes]
  apply BitVec.eq_of_toNat_eq
  have hlt : x.toBitVec.toNat < 2 ^ 32 := x.toBitVec.isLt
  rw [Int32.toBitVec_neg, Int32.toBitVec_sub, BitVec.toNat_neg, BitVec.toNat_not, BitVec.toNat_sub, show (zI 1).toBitVec.toNat = 1 from rfl]
  omega
theorem zI_low {i M : Nat} (hM : M < 16777216) (h1 : M.testBit i = true) (h2 : ∀ j, j < i → M.testBit j = false) : (zI (M : Int) &&& (-zI (M : Int))) - zI 1 = zI ((2 ^ i - 1 : Nat) : Int) := by
  have h0 : 0 < M := Nat.pos_of_ne_zero fun z => by rw [z, Nat.zero_testBit] at h1; cases h1
  obtain ⟨c, c1, c2, c3⟩ := zI_andn (a := M) (b := M - 1) (by omega) (by omega)
  have : c = 2 ^ i := by
    apply Nat.eq_of_testBit_eq
    intro j
    rw [c3 j, tb_pred i M h1 h2 j, Nat.testBit_two_pow]
    by_cases z : j < i
    · rw [if_pos z]; simp; omega
    · rw [if_neg z]
      by_cases y : j = i
      · rw [if_pos y, y, h1]; simp
      · rw [if_neg y]
        have : ¬ i = j := by omega
        simp [this]
  rw [zI_ng, nsub1 h0, c2, this, nsub1 (Nat.two_pow_pos _)]
theorem cn_low : ∀ i, i < 24 → cn (2 ^ i - 1).testBit 24 = i := by decide +kernel
def nu (used x : Nat) : Nat := if x = used then used + 1 else used
def prl (l used : Nat) : List (Nat × Nat) := (List.range' 0 l).flatMap fun lt => (List.range' 0 (used + 1)).map fun n => (lt, n)
def SH (l : Nat) : Nat → Nat → List (List (Nat × Nat))
  | 0, _ => [[]]
  | n + 1, used => (prl l used).flatMap fun p => (SH l n (nu used p.2)).map fun t => p :: t
def rv : List (Nat × Nat) → List (Nat × Nat) → List (Nat × Nat)
  | [], u => u
  | p :: t, u => rv t ((p.1, p.2 + 1) :: u)
noncomputable def dif (r o : Rdr) (u : List (Nat × Nat)) : Bool := tkn r u != tkn o u
noncomputable def FS (r o : Rdr) (l n used : Nat) (u : List (Nat × Nat)) : List (List (Nat × Nat)) := (SH l n used).filter fun t => dif r o (rv t u)
theorem FS_s (r o : Rdr) (l n used : Nat) (u : List (Nat × Nat)) : FS r o l (n + 1) used u = (prl l used).flatMap fun p => (FS r o l n (nu used p.2) ((p.1, p.2 + 1) :: u)).map fun t => p :: t := by
  unfold FS
  rw [SH, List.filter_flatMap]
  congr 1
  funext p
  rw [List.filter_map]
  rfl
theorem prl_e : ∀ l, l < 4 → ∀ used, used < 6 → prl l used = ((List.range' 0 24).filter (fun b => decide (b / 8 < l ∧ b % 8 ≤ used))).map (fun b => (b / 8, b % 8)) := by decide +kernel
theorem SH_1 (l used : Nat) : SH l 1 used = (prl l used).map fun p => [p] := by
  rw [SH, List.map_eq_flatMap]
  rfl
theorem FS_1 (r o : Rdr) {l used M : Nat} {u : List (Nat × Nat)} (hl : l ≤ 3) (hu : used ≤ 5) (hM : ∀ b, M.testBit b = true ↔ vld l used b ∧ dif r o ((b / 8, b % 8 + 1) :: u) = true) : FS r o l 1 used u = (els M.testBit 24 0).map fun b => [(b / 8, b % 8)] := by
  unfold FS els
  rw [SH_1, prl_e l (by omega) used (by omega), List.map_map, List.filter_map, List.filter_filter]
  congr 1
  apply List.filter_congr
  intro b _
  show (dif r o ((b / 8, b % 8 + 1) :: u) && decide (b / 8 < l ∧ b % 8 ≤ used)) = M.testBit b
  have := hM b
  unfold vld at this
  cases y : M.testBit b with
  | true =>
    rw [y] at this
    obtain ⟨h1, h2⟩ := this.mp rfl
    rw [h2]; simp [h1]
  | false =>
    rw [y] at this
    cases z : dif r o ((b / 8, b % 8 + 1) :: u) with
    | false => rfl
    | true =>
      rw [z] at this
      have h3 : ¬ (b / 8 < l ∧ b % 8 ≤ used) := fun h => by have := this.mpr ⟨h, rfl⟩; cases this
      simp only [Bool.true_and, decide_eq_false_iff_not]
      exact h3
/-- the search's outcome in a list of rows -/
def SRes (h' : AH) (depth g v : Nat) (F : List (List (Nat × Nat))) (ans : Nat) : Prop := (g < v + F.length → ans = 1 ∧ ∃ t, F[g - v]? = some t ∧ ∀ j p, t[j]? = some p → hI h' 78 (depth + j) = zI ((16 * p.1 + p.2 : Nat) : Int)) ∧ (v + F.length ≤ g → ans = 0 ∧ hI h' 77 7 = zI ((v + F.length : Nat) : Int))
def SQ (s : Stt) (h : AH) (n l g ra oa : Nat) : Prop := XI s h ∧ hI h 77 4 = zI n ∧ hI h 77 5 = zI l ∧ hI h 77 6 = zI g ∧ hR h 77 2 = some ra ∧ hR h 77 3 = some oa
theorem SQ_7 {s : Stt} {h : AH} {n l g ra oa : Nat} (q : SQ s h n l g ra oa) (x : Int32) : SQ s (sI h 77 7 x) n l g ra oa := by
  obtain ⟨q1, q2, q3, q4, q5, q6⟩ := q
  refine ⟨XI_sc q1 (fr_sI (F := fun b => b = 77) h rfl _ _) (fun b hb => by unfold nI'; omega) (fun _ _ => rfl), ?_, ?_, ?_, q5, q6⟩
  · rw [hI_off (Or.inr (by omega))]; exact q2
  · rw [hI_off (Or.inr (by omega))]; exact q3
  · rw [hI_off (Or.inr (by omega))]; exact q4
theorem SQ_78 {s : Stt} {h : AH} {n l g ra oa : Nat} (q : SQ s h n l g ra oa) (j : Nat) (x : Int32) : SQ s (sI h 78 j x) n l g ra oa := by
  obtain ⟨q1, q2, q3, q4, q5, q6⟩ := q
  refine ⟨XI_sc q1 (fr_sI (F := fun b => b = 78) h rfl _ _) (fun b hb => by unfold nI'; omega) (fun _ _ => rfl), ?_, ?_, ?_, q5, q6⟩
  · rw [hI_off (Or.inl (by omega))]; exact q2
  · rw [hI_off (Or.inl (by omega))]; exact q3
  · rw [hI_off (Or.inl (by omega))]; exact q4
theorem Ss_setOf (d : Nat) {s : Stt} {h : AH} (p : XI s h) {k : Nat} (hk : k < 14) : Cc (d + 1) k_Ss_setOf [aR (some 77), aI (zI k)] h = some (some (aR (some (22 + 3 * k))), h) := by
  rw [C_Ss_setOf, E_Ss_setOf_0, obj_e (z77 p.1), p.r (c := 21) (by decide)]
  simp (disch := omega) only [idx_n (z21 p.1)]
  rw [(p.set hk).2]
theorem Ss_otherSetOf (d : Nat) {s : Stt} {h : AH} (p : XI s h) {k : Nat} (hk : k < 8) : Cc (d + 1) k_Ss_otherSetOf [aR (some 77), aI (zI k)] h = some (some (aR (some (22 + 3 * (6 + k)))), h) := by
  rw [C_Ss_otherSetOf, E_Ss_otherSetOf_0, obj_e (z77 p.1), p.r (c := 21) (by decide), zc6, nadd]
  simp (disch := omega) only [idx_n (z21 p.1)]
  rw [(p.set (by omega)).2]
theorem end_dr (d : Nat) {h : AH} {x1 : Int32} : ∀ (n M : Nat), M < 16777216 → n < (els M.testBit 24 0).length → ∃ M' : Nat, Rk B_Ss_end L_Ss_end (Cc d) 3 [aR (some 77), aI x1, aU, aI (zI M), aU, aI (zI n)] [] h = Rk B_Ss_end L_Ss_end (Cc d) 5 [aR (some 77), aI x1, aU, aI (zI M'), aU, aU] [] h ∧ M' < 16777216 ∧ els M'.testBit 24 0 = (els M.testBit 24 0).drop n
  | 0, M, hM, hn => by
    refine ⟨M, ?_, hM, rfl⟩
    rw [E_Ss_end_3, if_pos (by decide)]
  | n + 1, M, hM, hn => by
    match e : els M.testBit 24 0, hn with
    | t :: l, hn =>
      obtain ⟨h1, h2, h3⟩ := els_low e
      have h0 : 0 < M := Nat.pos_of_ne_zero fun z => by rw [z, Nat.zero_testBit] at h2; cases h2
      have hl : M &&& (M - 1) ≤ M := Nat.and_le_left
      have e2 := els_tl e
      obtain ⟨M', k1, k2, k3⟩ := end_dr d (h := h) (x1 := x1) n (M &&& (M - 1)) (by omega) (by rw [e2]; simpa using hn)
      have hn24 : n < 24 := by
        have := cn_le M.testBit 24
        rw [els_cn, e] at this
        simp at this hn
        omega
      refine ⟨M', ?_, k2, by rw [k3, e2]; rfl⟩
      rw [E_Ss_end_3]
      simp (disch := omega) only [nle0]
      rw [if_neg (by omega), E_Ss_end_4, zI_dl (by omega) h0, lt_e, ndec (by omega), lt_e, Nat.add_sub_cancel]
      exact k1
theorem Ss_end (d : Nat) {s : Stt} {h : AH} {depth used n l g v ra oa : Nat} {r o : Rdr} {u : List (Nat × Nat)} {S T : Nat → Bool} (q : SQ s h n l g ra oa) (hr : RD h ra r) (ho : RD h oa o) (pS : SP h (22 + 3 * depth) 24576 S) (pT : SP h (22 + 3 * (6 + depth)) 24576 T) (rS : RQS S r u allT) (rT : RQS T o u allT) (hn : ∀ p, p ∈ u → p.2 ≤ used) (hu : used ≤ 5) (hl : l ≤ 3) (hd : depth < 6) (hv : hI h 77 7 = zI v) (hvg : v ≤ g) (hg : g < 2147483648) :
    ∃ h' ans, Cc (d + 5) k_Ss_end [aR (some 77), aI (zI depth), aI (zI used)] h = some (some (aI (zI ((ans : Nat) : Int))), h') ∧ SQ s h' n l g ra oa ∧ fr (fun b => b = 77 ∨ b = 78) h h' ∧ (∀ j, j < depth → hI h' 78 j = hI h 78 j) ∧ SRes h' depth g v (FS r o l 1 used u) ans := by
  obtain ⟨B1, e1, b1, g1⟩ := Ss_endings d q.1.1 hr pS q.2.2.1 hl hu hn rS
  obtain ⟨B2, e2, b2, g2⟩ := Ss_endings d q.1.1 ho pT q.2.2.1 hl hu hn rT
  have hM : B1 ^^^ B2 < 2 ^ 24 := Nat.xor_lt_two_pow b1 b2
  have gM : ∀ b, (B1 ^^^ B2).testBit b = true ↔ vld l used b ∧ dif r o ((b / 8, b % 8 + 1) :: u) = true := by
    intro b
    rw [Nat.testBit_xor]
    have h1 := g1 b
    have h2 := g2 b
    unfold dif
    by_cases z : vld l used b
    · have h1' : B1.testBit b = tkn r ((b / 8, b % 8 + 1) :: u) := by
        cases y : tkn r ((b / 8, b % 8 + 1) :: u) with
        | true => exact h1.mpr ⟨z, y⟩
        | false => cases y' : B1.testBit b with
          | false => rfl
          | true => have := (h1.mp y').2; rw [y] at this; cases this
      have h2' : B2.testBit b = tkn o ((b / 8, b % 8 + 1) :: u) := by
        cases y : tkn o ((b / 8, b % 8 + 1) :: u) with
        | true => exact h2.mpr ⟨z, y⟩
        | false => cases y' : B2.testBit b with
          | false => rfl
          | true => have := (h2.mp y').2; rw [y] at this; cases this
      rw [h1', h2']
      constructor
      · intro h; exact ⟨z, h⟩
      · exact fun h => h.2
    · have h1' : B1.testBit b = false := by
        cases y' : B1.testBit b with
        | false => rfl
        | true => exact absurd (h1.mp y').1 z
      have h2' : B2.testBit b = false := by
        cases y' : B2.testBit b with
        | false => rfl
        | true => exact absurd (h2.mp y').1 z
      rw [h1', h2']
      constructor
      · intro h; cases h
      · exact fun h => absurd h.1 z
  have hF := FS_1 r o hl hu gM
  generalize eM : B1 ^^^ B2 = M at hM gM hF
  have hlen : (FS r o l 1 used u).length = cn M.testBit 24 := by rw [hF, List.length_map, els_cn]
  have hcn := cn_le M.testBit 24
  have start : Cc (d + 5) k_Ss_end [aR (some 77), aI (zI depth), aI (zI used)] h = if zI ((g - v : Nat) : Int) < zI (cn M.testBit 24) then Rk B_Ss_end L_Ss_end (Cc (d + 4)) 2 [aR (some 77), aI (zI depth), aU, aI (zI M), aU, aU] [] h else Rk B_Ss_end L_Ss_end (Cc (d + 4)) 1 [aR (some 77), aU, aU, aU, aI (zI (cn M.testBit 24)), aU] [] h := by
    rw [C_Ss_end, E_Ss_end_0, obj_e (z77 q.1.1), obj_e (z77 q.1.1), calR_e (Ss_setOf _ q.1 (by omega)), obj_e (z77 q.1.1), q.2.2.2.2.1, calI_e e1, obj_e (z77 q.1.1), obj_e (z77 q.1.1), calR_e (Ss_otherSetOf _ q.1 (by omega)), obj_e (z77 q.1.1), q.2.2.2.2.2, calI_e e2, zI_xor (by omega) (by omega), eM, lt_e, calI_e (J_bitN _ hM h), lt_e, obj_e (z77 q.1.1), obj_e (z77 q.1.1), q.2.2.2.1, hv, show zI (g : Int) - zI (v : Int) = zI ((g - v : Nat) : Int) from by rw [zI_sub]; congr 1; omega]
  rw [start]
  simp (disch := omega) only [nlt]
  by_cases z : g - v < cn M.testBit 24
  · rw [if_pos z]
    obtain ⟨M', k1, k2, k3⟩ := end_dr (d + 4) (h := h) (x1 := zI depth) (g - v) M hM (by rw [← els_cn]; exact z)
    have hlt : g - v < (els M.testBit 24 0).length := by rw [← els_cn]; exact z
    rw [List.drop_eq_getElem_cons hlt] at k3
    obtain ⟨h1, h2, h3⟩ := els_low k3
    generalize ht : (els M.testBit 24 0)[g - v] = t at k3 h1 h2 h3
    refine ⟨sI h 78 depth (zI ((16 * (t / 8) + t % 8 : Nat) : Int)), 1, ?_, SQ_78 q _ _, fr_sI h (Or.inr rfl) _ _, fun j hj => hI_off (Or.inr (by omega)), ?_, ?_⟩
    · rw [E_Ss_end_2, obj_e (z77 q.1.1), obj_e (z77 q.1.1), q.2.2.2.1, hv, show zI (g : Int) - zI (v : Int) = zI ((g - v : Nat) : Int) from by rw [zI_sub]; congr 1; omega, lt_e]
      refine Eq.trans k1 ?_
      rw [E_Ss_end_5, zI_low k2 h2 h3, calI_e (J_bitN _ (by have := Nat.pow_le_pow_right (n := 2) (by omega) (show t ≤ 23 by omega); omega) h), cn_low t h1, lt_e, obj_e (z77 q.1.1), if_neg (by decide), if_neg (by decide), q.1.r (c := 78) (by decide)]
      simp (disch := omega) only [idx_n (z78 q.1.1)]
      rw [lt_e, zc8, zc16, ydiv (by omega) (by omega) (by omega) (by omega), show zI ((t : Nat) : Int) - zI ((t : Int) / ((8 : Nat) : Int)) * zI ((8 : Nat) : Int) = zI ((t : Int) % ((8 : Nat) : Int)) from by rw [← ydiv (by omega) (by omega) (by omega) (by omega)]; exact yrem (by omega) (by omega) (by omega) (by omega), zI_mul, zI_add, fr1]
      rfl
    · intro _
      refine ⟨rfl, [(t / 8, t % 8)], ?_, ?_⟩
      · rw [hF, List.getElem?_map, List.getElem?_eq_getElem hlt, ht]; rfl
      · intro j p hp
        cases j with
        | zero => cases hp; rw [Nat.add_zero, hI_hit]
        | succ j => cases hp
    · intro hh; omega
  · rw [if_neg z]
    refine ⟨sI h 77 7 (zI ((v + cn M.testBit 24 : Nat) : Int)), 0, ?_, SQ_7 q _, fr_sI h (Or.inl rfl) _ _, fun j hj => hI_off (Or.inl (by omega)), ?_, ?_⟩
    · rw [E_Ss_end_1, obj_e (z77 q.1.1), obj_e (z77 q.1.1), mb_some, hv, nadd, fr0]
      rfl
    · intro hh; omega
    · intro _; exact ⟨rfl, by rw [hI_hit, hlen]⟩
