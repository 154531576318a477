/-! Walks.giveSlots: a number for each name that comes again -/
def aid (w : Rw) (j : Nat) : Nat := idn w (w.getD j (0, -1)).2
theorem aid_e {w : Rw} {j : Nat} {p : Int × Int} (h : w[j]? = some p) : aid w j = idn w p.2 := by unfold aid; rw [List.getD_eq_getElem?_getD, h]; rfl
def knw (w : Rw) (i n : Nat) : Prop := ∃ j, j < i ∧ aid w j = n
def alw (w : Rw) (i n : Nat) : Prop := ∃ j, i ≤ j ∧ j < w.length ∧ aid w j = n
/-- names known and still to come have numbers of their own -/
def DST (w : Rw) (g : Nat → Nat) (i : Nat) : Prop := ∀ a b, knw w i a → alw w i a → knw w i b → alw w i b → g a ≠ 0 ∧ (g a = g b → a = b)
/-- the pairs whose name has a number -/
def pos (w : Rw) (n : Nat) : List Nat := (List.range w.length).filter (fun j => aid w j == n)
theorem pos_m {w : Rw} {n j : Nat} : j ∈ pos w n ↔ j < w.length ∧ aid w j = n := by
  unfold pos; rw [List.mem_filter, List.mem_range, beq_iff_eq]
theorem pos_nd (w : Rw) (n : Nat) : (pos w n).Nodup := List.Nodup.sublist List.filter_sublist List.nodup_range
/-- how many of the names up to a number come again; a name's number of its own -/
def cRp (w : Rw) : Nat → Nat
  | 0 => 0
  | n + 1 => cRp w n + if 2 ≤ (pos w (n + 1)).length then 1 else 0
def gS (w : Rw) (n : Nat) : Nat := if 2 ≤ (pos w n).length then cRp w n else 0
theorem cRp_le {w : Rw} {m n : Nat} (h : m ≤ n) : cRp w m ≤ cRp w n := by
  induction n with
  | zero => have : m = 0 := by omega
            subst this; exact Nat.le_refl _
  | succ n ih =>
    by_cases z : m = n + 1
    · subst z; exact Nat.le_refl _
    · have := ih (by omega)
      show cRp w m ≤ cRp w n + _
      omega
theorem cRp_lt {w : Rw} {m n : Nat} (h : m < n) (h2 : 2 ≤ (pos w n).length) : cRp w m < cRp w n := by
  cases n with
  | zero => omega
  | succ n =>
    have := cRp_le (w := w) (show m ≤ n by omega)
    show cRp w m < cRp w n + if 2 ≤ (pos w (n + 1)).length then 1 else 0
    rw [if_pos h2]; omega
theorem flt_s (f : Nat → Nat) (n : Nat) : ∀ (l : List Nat), (l.filter (fun j => decide (1 ≤ f j ∧ f j ≤ n + 1))).length = (l.filter (fun j => decide (1 ≤ f j ∧ f j ≤ n))).length + (l.filter (fun j => f j == n + 1)).length
  | [] => rfl
  | a :: l => by
    have ih := flt_s f n l
    rw [List.filter_cons, List.filter_cons, List.filter_cons]
    by_cases z : f a = n + 1
    · rw [if_pos (by rw [decide_eq_true_eq]; omega), if_neg (by rw [decide_eq_true_eq]; omega), if_pos (beq_iff_eq.mpr z), List.length_cons, List.length_cons]
      omega
    · rw [if_neg (c := (f a == n + 1) = true) (by rw [beq_iff_eq]; exact z)]
      by_cases y : 1 ≤ f a ∧ f a ≤ n
      · rw [if_pos (by rw [decide_eq_true_eq]; omega), if_pos (by rw [decide_eq_true_eq]; exact y), List.length_cons, List.length_cons]
        omega
      · rw [if_neg (by rw [decide_eq_true_eq]; omega), if_neg (by rw [decide_eq_true_eq]; exact y)]
        exact ih
/-- of twelve pairs, six names can come twice -/
theorem cRp_2 (w : Rw) : ∀ n, 2 * cRp w n ≤ ((List.range w.length).filter (fun j => decide (1 ≤ aid w j ∧ aid w j ≤ n))).length
  | 0 => Nat.zero_le _
  | n + 1 => by
    have ih := cRp_2 w n
    rw [flt_s (aid w) n]
    have e : ((List.range w.length).filter (fun j => aid w j == n + 1)).length = (pos w (n + 1)).length := rfl
    rw [e]
    show 2 * (cRp w n + if 2 ≤ (pos w (n + 1)).length then 1 else 0) ≤ _
    split <;> omega
theorem cRp_6 {w : Rw} (hw : w.length ≤ 12) (n : Nat) : cRp w n ≤ 6 := by
  have h1 := cRp_2 w n
  have h2 := List.length_filter_le (fun j => decide (1 ≤ aid w j ∧ aid w j ≤ n)) (List.range w.length)
  rw [List.length_range] at h2
  omega
theorem gS_6 {w : Rw} (hw : w.length ≤ 12) (n : Nat) : gS w n ≤ 6 := by
  have := cRp_6 hw n
  unfold gS; split <;> omega
theorem two_of {w : Rw} {n i j : Nat} (hi : i < w.length) (hj : j < w.length) (ne : i ≠ j) (ei : aid w i = n) (ej : aid w j = n) : 2 ≤ (pos w n).length := by
  have mi : i ∈ pos w n := pos_m.mpr ⟨hi, ei⟩
  have mj : j ∈ pos w n := pos_m.mpr ⟨hj, ej⟩
  match h : pos w n with
  | [] => rw [h] at mi; cases mi
  | [a] =>
    rw [h, List.mem_singleton] at mi mj
    omega
  | a :: b :: l => rw [List.length_cons, List.length_cons]; omega
theorem of_two {w : Rw} {n : Nat} (i : Nat) (h2 : 2 ≤ (pos w n).length) : ∃ j, j < w.length ∧ aid w j = n ∧ j ≠ i := by
  have nd := pos_nd w n
  match h : pos w n with
  | [] => rw [h] at h2; simp at h2
  | [a] => rw [h] at h2; simp at h2
  | a :: b :: l =>
    have ma : a ∈ pos w n := by rw [h]; simp
    have mb : b ∈ pos w n := by rw [h]; simp
    rw [h, List.nodup_cons] at nd
    have ne : a ≠ b := fun e => nd.1 (by rw [e]; simp)
    by_cases z : a = i
    · exact ⟨b, (pos_m.mp mb).1, (pos_m.mp mb).2, fun e => ne (by omega)⟩
    · exact ⟨a, (pos_m.mp ma).1, (pos_m.mp ma).2, z⟩
theorem pos_0 {w : Rw} (hg : gaps w = 0) : pos w 0 = [] := by
  apply List.eq_nil_iff_forall_not_mem.mpr
  intro j hj
  obtain ⟨h1, h2⟩ := pos_m.mp hj
  have hp : w[j]? = some w[j] := List.getElem?_eq_getElem h1
  rw [aid_e hp] at h2
  exact idn_pos hp (nogap hg hp).2 h2
theorem gS_0 {w : Rw} (hg : gaps w = 0) : gS w 0 = 0 := by unfold gS; rw [pos_0 hg]; rfl
theorem gS_d {w : Rw} (hg : gaps w = 0) {i : Nat} (hi : i ≤ w.length) : DST w (gS w) i := by
  have tw : ∀ a, knw w i a → alw w i a → 2 ≤ (pos w a).length ∧ 1 ≤ a := by
    rintro a ⟨j, j1, j2⟩ ⟨k, k1, k2, k3⟩
    have h2 := two_of (by omega) k2 (by omega) j2 k3
    refine ⟨h2, ?_⟩
    apply Nat.pos_of_ne_zero
    intro e
    rw [e, pos_0 hg] at h2
    simp at h2
  intro a b ka aa kb ab
  obtain ⟨a2, a1⟩ := tw a ka aa
  obtain ⟨b2, b1⟩ := tw b kb ab
  unfold gS
  rw [if_pos a2, if_pos b2]
  refine ⟨?_, fun e => ?_⟩
  · have := cRp_lt (w := w) (m := 0) a1 a2
    omega
  · rcases Nat.lt_trichotomy a b with z | z | z
    · have := cRp_lt z b2; omega
    · exact z
    · have := cRp_lt z a2; omega
/-- names are numbered as they come -/
def kN (w : Rw) (i : Nat) : Nat := (tn (w.take i)).length
theorem kN_0 (w : Rw) : kN w 0 = 0 := by simp [kN, tn]
theorem kN_k {w : Rw} (hg : gaps w = 0) : ∀ (i : Nat), i ≤ w.length → ∀ n, knw w i n ↔ 1 ≤ n ∧ n ≤ kN w i
  | 0, _, n => by
    rw [kN_0]
    exact ⟨fun ⟨j, j1, _⟩ => by omega, fun h => by omega⟩
  | i + 1, hi, n => by
    have ih := kN_k hg i (by omega)
    have hp : w[i]? = some w[i] := List.getElem?_eq_getElem (by omega)
    have ha := aid_e hp
    obtain ⟨-, n2⟩ := nogap hg hp
    have hs : knw w (i + 1) n ↔ knw w i n ∨ n = aid w i := by
      constructor
      · rintro ⟨j, j1, j2⟩
        by_cases z : j = i
        · subst z; exact Or.inr j2.symm
        · exact Or.inl ⟨j, by omega, j2⟩
      · rintro (⟨j, j1, j2⟩ | e)
        · exact ⟨j, by omega, j2⟩
        · exact ⟨i, by omega, e.symm⟩
    have et := tn_s hp
    rw [hs, ih n]
    by_cases z : w[i].2 ∈ tn (w.take i)
    · have e : kN w (i + 1) = kN w i := by
        unfold kN; rw [et]; unfold addN; rw [if_pos (Or.inr z)]
      rw [e]
      have k : knw w i (aid w i) := by
        obtain ⟨-, q, hq, eq⟩ := tn_mem.mp z
        obtain ⟨j, hj, ej⟩ := List.getElem_of_mem hq
        rw [List.length_take] at hj
        rw [List.getElem_take] at ej
        refine ⟨j, by omega, ?_⟩
        rw [aid_e (p := q) (by rw [List.getElem?_eq_getElem (by omega), ej]), eq, ha]
      have := (ih _).mp k
      constructor
      · rintro (h | h); exact h; rw [h]; exact this
      · exact Or.inl
    · have e : kN w (i + 1) = kN w i + 1 := by
        unfold kN; rw [et]; unfold addN
        rw [if_neg (by intro y; rcases y with y | y; exact n2 y; exact z y), List.length_append, List.length_singleton]
      have en := idn_new hp n2 z
      rw [e, ha, en]
      show _ ∨ n = kN w i + 1 ↔ _
      omega
theorem P_min0 (d : Nat) (h : AH) {v : Nat} (hv : v ≤ 6) : Cc (d + 1) 0 [aI (zI v), aI (zI 6)] h = some (some (aI (zI v)), h) := by
  show some (some (aI (if zI 6 < zI v then zI 6 else zI v)), h) = _
  rw [zc6, if_neg (by rw [nlt (by omega) (by omega)]; omega)]
theorem aid_r {w : Rw} (hw : WV w) (j : Nat) : aid w j ≤ 12 := by
  unfold aid
  have := idn_le w (w.getD j (0, -1)).2
  have := tn_len w
  have := hw.1
  omega
theorem alv_bit {w : Rw} (hw : WV w) (hg : gaps w = 0) {i n : Nat} (hn0 : n ≠ 0) (hn : n < 16) : ∃ k : Nat, k < 65536 ∧ alv (idn w) (w.drop i) = (k : Int) ∧ (k / 2 ^ n % 2 = 1 ↔ alw w i n) := by
  obtain ⟨h1, h2⟩ := alv_al (idn16 hw) (w.drop i)
  have hne : alv (idn w) (w.drop i) ≠ -1 := by
    have : ∀ (l : Rw), (∀ p, p ∈ l → p.2 ≠ -1) → alv (idn w) l ≠ -1 := by
      intro l
      induction l with
      | nil => intro _; unfold alv; decide
      | cons p l ih =>
        intro hh
        unfold alv
        rw [if_neg (hh p List.mem_cons_self), if_neg (ih (fun q hq => hh q (List.mem_cons_of_mem _ hq)))]
        omega
    refine this _ (fun p hp => ?_)
    obtain ⟨j, hj, e⟩ := List.getElem_of_mem (List.mem_of_mem_drop hp)
    exact (nogap hg (by rw [List.getElem?_eq_getElem hj, e])).2
  rcases h1 with ⟨e, -⟩ | ⟨k, hk, e, hL⟩
  · exact absurd ((yeq (by omega) (by omega) (by omega) (by omega)).mp e) hne
  · refine ⟨k, hk, (yeq (by omega) (by omega) (by omega) (by omega)).mp e, ?_⟩
    have := hL n hn
    have e2 : (k / 2 ^ n % 2 == 1) = true ↔ k / 2 ^ n % 2 = 1 := beq_iff_eq
    rw [← e2, ← this]
    unfold lvs
    rw [Bool.or_eq_true, List.any_eq_true]
    constructor
    · rintro (h | ⟨p, hp, h⟩)
      · exact absurd (beq_iff_eq.mp h) hn0
      · rw [Bool.or_eq_true] at h
        obtain ⟨j, hj, e3⟩ := List.getElem_of_mem hp
        rw [List.length_drop] at hj
        rw [List.getElem_drop] at e3
        have hp2 : w[i + j]? = some p := by rw [List.getElem?_eq_getElem (by omega), e3]
        rcases h with h | h
        · exact absurd (beq_iff_eq.mp h) (nogap hg hp2).2
        · exact ⟨i + j, by omega, by omega, by rw [aid_e hp2]; exact beq_iff_eq.mp h⟩
    · rintro ⟨j, j1, j2, j3⟩
      right
      have hp2 : w[j]? = some w[j] := List.getElem?_eq_getElem j2
      refine ⟨w[j], ?_, ?_⟩
      · rw [List.mem_drop_iff_getElem]
        exact ⟨j - i, by omega, by congr 1; omega⟩
      · rw [Bool.or_eq_true, beq_iff_eq (b := n), ← aid_e hp2]; exact Or.inr j3
/-- what giveSlots has laid behind i pairs -/
def GS (h : AH) (w : Rw) (i : Nat) : Prop := ∀ n, n = 0 ∨ knw w i n → hI h 68 n = zI ((gS w n : Nat) : Int)
theorem gs_lp (d : Nat) {s : Stt} (hg : gaps s.2.2.2 = 0) : ∀ (k i : Nat) (h : AH), i + k = s.2.2.2.length → XI s h → GS h s.2.2.2 i →
    ∃ h', Rk B_Wk_giveSlots L_Wk_giveSlots (Cc (d + 1)) 1 [aR (some 66), aR (some 16), aI (zI (kN s.2.2.2 i)), aI (zI (cRp s.2.2.2 (kN s.2.2.2 i))), aI (zI i), aU, aU] [] h = some (none, h') ∧ fr (fun b => b = 68) h h' ∧ XI s h' ∧ GS h' s.2.2.2 s.2.2.2.length
  | 0, i, h, hk, p, gs => by
    have hw := p.rw.1
    have hl := hw.1
    have : i = s.2.2.2.length := by omega
    subst this
    refine ⟨h, ?_, fr.rf _ h, p, gs⟩
    rw [E_Wk_giveSlots_1, obj_e (z16 p.1), calI_e (Rw_size _ p.rw)]
    simp (disch := omega) only [nlt]
    rw [if_neg (by omega), E_Wk_giveSlots_14]
  | k + 1, i, h, hk, p, gs => by
    have hw := p.rw.1
    have hl := hw.1
    have hp : s.2.2.2[i]? = some s.2.2.2[i] := List.getElem?_eq_getElem (by omega)
    obtain ⟨n1, n2⟩ := nogap hg hp
    have ha0 := idn_pos hp n2
    have hid := aid_e hp
    have ha12 := aid_r hw i
    rw [← hid] at ha0
    have kk := kN_k hg i (by omega)
    have kk1 := kN_k hg (i + 1) (by omega)
    have hkl : kN s.2.2.2 i ≤ 12 := by
      have := tn_len (s.2.2.2.take i)
      rw [List.length_take] at this
      unfold kN; omega
    have hme : knw s.2.2.2 (i + 1) (aid s.2.2.2 i) := ⟨i, by omega, rfl⟩
    rw [E_Wk_giveSlots_1, obj_e (z16 p.1), calI_e (Rw_size _ p.rw)]
    simp (disch := omega) only [nlt]
    rw [if_pos (by omega), E_Wk_giveSlots_2, obj_e (z16 p.1), calI_e (Rw_id _ p.rw hp), lt_e, ← hid]
    simp (disch := omega) only [nle]
    by_cases y : aid s.2.2.2 i ≤ kN s.2.2.2 i
    · have ky : knw s.2.2.2 i (aid s.2.2.2 i) := (kk _).mpr ⟨by omega, y⟩
      have hs : ∀ n, knw s.2.2.2 (i + 1) n → knw s.2.2.2 i n := by
        rintro n ⟨j, j1, j2⟩
        by_cases z : j = i
        · subst z; rw [← j2]; exact ky
        · exact ⟨j, by omega, j2⟩
      have hK : kN s.2.2.2 (i + 1) = kN s.2.2.2 i := by
        by_cases z : kN s.2.2.2 (i + 1) = 0
        · have := (kk1 _).mp hme; omega
        · have a := (kk _).mp (hs _ ((kk1 (kN s.2.2.2 (i + 1))).mpr ⟨by omega, Nat.le_refl _⟩))
          have b : kN s.2.2.2 i ≤ kN s.2.2.2 (i + 1) := by
            obtain ⟨j, j1, j2⟩ := (kk (kN s.2.2.2 i)).mpr ⟨by omega, Nat.le_refl _⟩
            exact ((kk1 _).mp ⟨j, by omega, j2⟩).2
          omega
      rw [if_pos y, E_Wk_giveSlots_13, lt_e, nadd1, ← hK]
      exact gs_lp d hg k (i + 1) h (by omega) p (fun n hn => gs n (by
        rcases hn with z | z
        · exact Or.inl z
        · exact Or.inr (hs n z)))
    · have nky : ¬ knw s.2.2.2 i (aid s.2.2.2 i) := fun z => y ((kk _).mp z).2
      have hK : kN s.2.2.2 (i + 1) = aid s.2.2.2 i := by
        have a := ((kk1 _).mp hme).2
        obtain ⟨j, j1, j2⟩ := (kk1 (kN s.2.2.2 (i + 1))).mpr ⟨by omega, Nat.le_refl _⟩
        by_cases z : j = i
        · subst z; exact j2.symm
        · have := ((kk _).mp ⟨j, by omega, j2⟩).2
          omega
      have hK1 : aid s.2.2.2 i = kN s.2.2.2 i + 1 := by
        by_cases z : aid s.2.2.2 i = kN s.2.2.2 i + 1
        · exact z
        · obtain ⟨j, j1, j2⟩ := (kk1 (kN s.2.2.2 i + 1)).mpr ⟨by omega, by omega⟩
          by_cases z2 : j = i
          · subst z2; exact j2
          · have := ((kk _).mp ⟨j, by omega, j2⟩).2
            omega
      obtain ⟨kv, kv1, kv2, kv3⟩ := alv_bit hw hg (i := i + 1) ha0 (by omega : aid s.2.2.2 i < 16)
      have kdv : kv / 2 ^ aid s.2.2.2 i ≤ kv := Nat.div_le_self _ _
      have htw : kv / 2 ^ aid s.2.2.2 i % 2 = 1 ↔ 2 ≤ (pos s.2.2.2 (aid s.2.2.2 i)).length := by
        rw [kv3]
        constructor
        · rintro ⟨j, j1, j2, j3⟩
          exact two_of (show i < s.2.2.2.length by omega) j2 (by omega) rfl j3
        · intro h2
          obtain ⟨j, j1, j2, j3⟩ := of_two i h2
          refine ⟨j, ?_, j1, j2⟩
          by_cases z : j < i
          · exact absurd ⟨j, z, j2⟩ nky
          · omega
      have hcs : cRp s.2.2.2 (aid s.2.2.2 i) = cRp s.2.2.2 (kN s.2.2.2 i) + if kv / 2 ^ aid s.2.2.2 i % 2 = 1 then 1 else 0 := by
        rw [hK1]
        show cRp s.2.2.2 (kN s.2.2.2 i) + _ = _
        rw [← hK1]
        by_cases z : kv / 2 ^ aid s.2.2.2 i % 2 = 1
        · rw [if_pos z, if_pos (htw.mp z)]
        · rw [if_neg z, if_neg (fun q => z (htw.mpr q))]
      have hc6 := cRp_6 hl (aid s.2.2.2 i)
      have hgs : gS s.2.2.2 (aid s.2.2.2 i) = if kv / 2 ^ aid s.2.2.2 i % 2 = 1 then cRp s.2.2.2 (aid s.2.2.2 i) else 0 := by
        unfold gS
        by_cases z : kv / 2 ^ aid s.2.2.2 i % 2 = 1
        · rw [if_pos z, if_pos (htw.mp z)]
        · rw [if_neg z, if_neg (fun q => z (htw.mpr q))]
      -- the end of one pair
      have fin : ∃ h', Rk B_Wk_giveSlots L_Wk_giveSlots (Cc (d + 1)) 12 [aR (some 66), aR (some 16), aI (zI (aid s.2.2.2 i)), aI (zI (cRp s.2.2.2 (aid s.2.2.2 i))), aI (zI i), aU, aU] [aI (zI (gS s.2.2.2 (aid s.2.2.2 i))), aI (zI (aid s.2.2.2 i)), aR (some 68)] h = some (none, h') ∧ fr (fun b => b = 68) h h' ∧ XI s h' ∧ GS h' s.2.2.2 s.2.2.2.length := by
        have f1 : fr (fun b => b = 68) h (sI h 68 (aid s.2.2.2 i) (zI (gS s.2.2.2 (aid s.2.2.2 i)))) := fr_sI (F := fun b => b = 68) h rfl _ _
        have p1 : XI s (sI h 68 (aid s.2.2.2 i) (zI (gS s.2.2.2 (aid s.2.2.2 i)))) := XI_sz p f1 (fun b hb => by unfold nJ'; omega) (hI_off (by omega)) (fun _ _ => rfl)
        obtain ⟨h', e, f2, p2, g2⟩ := gs_lp d hg k (i + 1) _ (by omega) p1 (by
          intro n hn
          by_cases z : n = aid s.2.2.2 i
          · rw [z, hI_hit]
          · rw [hI_off (by omega)]
            refine gs n ?_
            rcases hn with q | ⟨j, j1, j2⟩
            · exact Or.inl q
            · by_cases z2 : j = i
              · subst z2; exact absurd j2.symm z
              · exact Or.inr ⟨j, by omega, j2⟩)
        refine ⟨h', ?_, f1.tr f2, p2, g2⟩
        rw [E_Wk_giveSlots_12]
        simp (disch := omega) only [idx_n (z68 p.1), lt_e]
        rw [E_Wk_giveSlots_13, lt_e, nadd1]
        rw [hK] at e
        exact e
      rw [if_neg y, E_Wk_giveSlots_3, lt_e, obj_e (z16 p.1), nadd1, calI_e (Rw_alive _ p.rw (by omega)), kv2]
      simp (disch := omega) only [nshr, and1, neq0]
      by_cases z : kv / 2 ^ aid s.2.2.2 i % 2 = 1
      · rw [if_pos z] at hcs hgs
        rw [hgs] at fin
        rw [if_neg (by omega), E_Wk_giveSlots_4, E_Wk_giveSlots_6, lt_e, if_neg (by decide), E_Wk_giveSlots_7, E_Wk_giveSlots_9, lt_e, nadd1, ← hcs, obj_e (z66 p.1), if_neg (by decide), p.r (c := 68) (by decide), E_Wk_giveSlots_10, calI_e (P_min0 d h hc6)]
        exact fin
      · rw [if_neg z] at hcs hgs
        rw [hgs] at fin
        rw [if_pos (by omega), E_Wk_giveSlots_5, E_Wk_giveSlots_6, lt_e, if_pos (show zI 0 = 0 from rfl), E_Wk_giveSlots_8, E_Wk_giveSlots_9, lt_e, show zI ((cRp s.2.2.2 (kN s.2.2.2 i) : Nat) : Int) + zI 0 = zI ((cRp s.2.2.2 (aid s.2.2.2 i) : Nat) : Int) by rw [hcs, Nat.add_zero, zI_add, Int.add_zero], obj_e (z66 p.1), if_pos (show zI 0 = 0 from rfl), p.r (c := 68) (by decide), E_Wk_giveSlots_11]
        exact fin
