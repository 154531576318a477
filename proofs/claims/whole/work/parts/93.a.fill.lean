/-! gaps filled -/
def fcnt (w : Rw) (n : Nat) : Nat := ((List.range n).filter (fun (m : Nat) => decide (¬ ((m : Nat) : Int) ∈ tn w))).length
def idN (w : Rw) (n : Nat) : Nat := if (n : Int) ∈ tn w then idn w n else (tn w).length + fcnt w n + 1
theorem fcnt_s (w : Rw) (n : Nat) : fcnt w (n + 1) = fcnt w n + (if (n : Int) ∈ tn w then 0 else 1) := by
  unfold fcnt
  rw [List.range_succ, List.filter_append, List.length_append]
  by_cases z : (n : Int) ∈ tn w
  · rw [if_pos z]; simp [z]
  · rw [if_neg z]; simp [z]
theorem fcnt_m (w : Rw) {a b : Nat} (h : a ≤ b) : fcnt w a ≤ fcnt w b := by
  induction b with
  | zero => have : a = 0 := by omega
            rw [this]; exact Nat.le_refl _
  | succ b ih =>
    by_cases z : a = b + 1
    · rw [z]; exact Nat.le_refl _
    · have := ih (by omega)
      rw [fcnt_s]; omega
theorem idN_t {w : Rw} {n : Nat} (h : (n : Int) ∈ tn w) : idN w n = idn w n ∧ 1 ≤ idN w n ∧ idN w n ≤ (tn w).length := by
  unfold idN
  rw [if_pos h]
  have := idn_le w (n : Int)
  unfold idn at *
  rw [if_pos h] at *
  exact ⟨rfl, by omega, this⟩
theorem idN_f {w : Rw} {n : Nat} (h : ¬ (n : Int) ∈ tn w) : idN w n = (tn w).length + fcnt w n + 1 := by unfold idN; rw [if_neg h]
theorem idN_pos (w : Rw) (n : Nat) : 1 ≤ idN w n := by
  by_cases z : (n : Int) ∈ tn w
  · exact (idN_t z).2.1
  · rw [idN_f z]; omega
theorem idN_inj {w : Rw} {a b : Nat} (h : idN w a = idN w b) : a = b := by
  by_cases za : (a : Int) ∈ tn w
  · have ha := idN_t za
    by_cases zb : (b : Int) ∈ tn w
    · have hb := idN_t zb
      have := idn_inj (w := w) (m := a) (n := b) (by omega) (by omega)
      omega
    · rw [idN_f zb] at h; omega
  · by_cases zb : (b : Int) ∈ tn w
    · have hb := idN_t zb
      rw [idN_f za] at h; omega
    · rw [idN_f za, idN_f zb] at h
      rcases Nat.lt_trichotomy a b with z | z | z
      · have := fcnt_m w (show a + 1 ≤ b from z)
        rw [fcnt_s, if_neg za] at this
        omega
      · exact z
      · have := fcnt_m w (show b + 1 ≤ a from z)
        rw [fcnt_s, if_neg zb] at this
        omega
def nml (w : Rw) (o : Nat) : List Nat := (List.range 100).filter (fun n => decide (idN w n ≤ (tn w).length + o + 1))
def ltc (w : Rw) (i : Nat) : List Nat := match w[i]? with
  | some p => if p.1 = -1 then [0, 1, 2] else [p.1.toNat]
  | none => []
def nmc (w : Rw) (i o : Nat) : List Nat := match w[i]? with
  | some p => if p.2 = -1 then nml w o else [p.2.toNat]
  | none => []
def chs (w : Rw) (i o : Nat) : List (Nat × Nat) := (ltc w i).flatMap fun l => (nmc w i o).map fun n => (l, n)
def nxo (w : Rw) (o n : Nat) : Nat := if (tn w).length + o < idN w n then o + 1 else o
noncomputable def fls (r : Rdr) (w : Rw) : Nat → Nat → Nat → List (Nat × Nat) → List (List (Nat × Nat))
  | 0, _, _, u => if tkn r u then [[]] else []
  | k + 1, i, o, u => (chs w i o).flatMap fun p => (fls r w k (i + 1) (nxo w o p.2) ((p.1, idN w p.2) :: u)).map (p :: ·)
theorem fls_no {r : Rdr} {w : Rw} : ∀ (k i o : Nat) (u : List (Nat × Nat)), (∀ c, ¬ rq r u c) → fls r w k i o u = []
  | 0, i, o, u, h => by
    unfold fls
    have : tkn r u = false := by
      unfold tkn
      rw [bl_f]
      rintro ⟨c, h1, -⟩
      exact h c h1
    rw [this]; rfl
  | k + 1, i, o, u, h => by
    unfold fls
    rw [List.flatMap_eq_nil_iff]
    intro p _
    rw [fls_no k (i + 1) _ _ (fun c q => by obtain ⟨c1, h1, _⟩ := q; exact h c1 h1)]
    rfl
theorem fls_l {r : Rdr} {w : Rw} : ∀ (k i o : Nat) (u t : List (Nat × Nat)), t ∈ fls r w k i o u → t.length = k
  | 0, i, o, u, t, h => by
    unfold fls at h
    split at h
    · rw [List.mem_singleton.mp h]; rfl
    · cases h
  | k + 1, i, o, u, t, h => by
    unfold fls at h
    rw [List.mem_flatMap] at h
    obtain ⟨p, -, h2⟩ := h
    obtain ⟨t', h3, rfl⟩ := List.mem_map.mp h2
    rw [List.length_cons, fls_l k _ _ _ t' h3]
/-- where no gap is any more -/
def tgl (w : Rw) (i : Nat) : List (Nat × Nat) := (w.drop i).map fun p => (p.1.toNat, p.2.toNat)
theorem idN_r {w : Rw} (hw : WV w) {i : Nat} {p : Int × Int} (h : w[i]? = some p) (hp : p.2 ≠ -1) : ((p.2.toNat : Nat) : Int) = p.2 ∧ idN w p.2.toNat = idn w p.2 ∧ (p.2.toNat : Int) ∈ tn w ∧ p.2.toNat < 100 := by
  have hb := hw.2 p (List.mem_of_getElem? h)
  have e : ((p.2.toNat : Nat) : Int) = p.2 := by omega
  have m : ((p.2.toNat : Nat) : Int) ∈ tn w := by rw [e]; exact tn_mem.mpr ⟨hp, p, List.mem_of_getElem? h, rfl⟩
  exact ⟨e, by rw [(idN_t m).1, e], m, by omega⟩
theorem chs_n {w : Rw} {i o : Nat} {p : Int × Int} (h : w[i]? = some p) (h1 : p.1 ≠ -1) (h2 : p.2 ≠ -1) : chs w i o = [(p.1.toNat, p.2.toNat)] := by
  unfold chs ltc nmc
  rw [h]
  simp [h1, h2]
theorem nxo_n {w : Rw} (hw : WV w) {i o : Nat} {p : Int × Int} (h : w[i]? = some p) (h2 : p.2 ≠ -1) : nxo w o p.2.toNat = o := by
  have := idN_r hw h h2
  have := (idN_t this.2.2.1).2.2
  unfold nxo
  rw [if_neg (by omega)]
theorem fls_ng {r : Rdr} {w : Rw} (hw : WV w) {k i o : Nat} {u : List (Nat × Nat)} {p : Int × Int} (h : w[i]? = some p) (h1 : p.1 ≠ -1) (h2 : p.2 ≠ -1) : fls r w (k + 1) i o u = (fls r w k (i + 1) o ((p.1.toNat, idn w p.2) :: u)).map ((p.1.toNat, p.2.toNat) :: ·) := by
  show (chs w i o).flatMap _ = _
  rw [chs_n h h1 h2]
  simp only [List.flatMap_cons, List.flatMap_nil, List.append_nil]
  rw [nxo_n hw h h2, (idN_r hw h h2).2.1]
theorem fls_end {r : Rdr} {w : Rw} (hw : WV w) : ∀ (k i o : Nat) (u : List (Nat × Nat)), i + k = w.length → (∀ (j : Nat) (p : Int × Int), i ≤ j → w[j]? = some p → p.1 ≠ -1 ∧ p.2 ≠ -1) → fls r w k i o u = if bl (∃ c, rq r u c ∧ gq r (sfx w i) c) = true then [tgl w i] else []
  | 0, i, o, u, hk, hg => by
    have e1 : sfx w i = [] := by rw [show i = w.length by omega]; exact sfx_n w
    have e2 : tgl w i = [] := by unfold tgl; rw [show i = w.length by omega, List.drop_length]; rfl
    unfold fls
    rw [e1, e2]
    rfl
  | k + 1, i, o, u, hk, hg => by
    have hp : w[i]? = some w[i] := List.getElem?_eq_getElem (by omega)
    obtain ⟨g1, g2⟩ := hg i _ (Nat.le_refl _) hp
    rw [fls_ng hw hp g1 g2, fls_end hw k (i + 1) o _ (by omega) (fun j p hj => hg j p (by omega))]
    have e2 : tgl w i = (w[i].1.toNat, w[i].2.toNat) :: tgl w (i + 1) := by unfold tgl; rw [List.drop_eq_getElem_cons (by omega)]; rfl
    have iff : (∃ c, rq r ((w[i].1.toNat, idn w w[i].2) :: u) c ∧ gq r (sfx w (i + 1)) c) ↔ ∃ c, rq r u c ∧ gq r (sfx w i) c := by
      rw [sfx_s hp]
      constructor
      · rintro ⟨c, ⟨c1, a1, a2⟩, a3⟩; exact ⟨c1, a1, c, a2, a3⟩
      · rintro ⟨c1, a1, c, a2, a3⟩; exact ⟨c, ⟨c1, a1, a2⟩, a3⟩
    rw [bl_c iff, e2]
    split <;> rfl
/-- gaps of names up to here -/
def gnm (w : Rw) (i : Nat) : Nat := ((w.take i).filter (fun p => decide (p.2 = -1))).length
theorem gnm_s {w : Rw} {i : Nat} {p : Int × Int} (h : w[i]? = some p) : gnm w (i + 1) = gnm w i + (if p.2 = -1 then 1 else 0) := by
  unfold gnm
  rw [List.take_add_one, h]
  simp only [Option.toList_some, List.filter_append, List.length_append]
  by_cases z : p.2 = -1
  · simp [z]
  · simp [z]
theorem gnm_m {w : Rw} : ∀ {i j : Nat}, i ≤ j → gnm w i ≤ gnm w j := by
  intro i j
  induction j with
  | zero => intro h; rw [show i = 0 by omega]; exact Nat.le_refl _
  | succ j ih =>
    intro h
    by_cases z : i = j + 1
    · rw [z]; exact Nat.le_refl _
    · have := ih (by omega)
      cases hp : w[j]? with
      | none =>
        have : w.length ≤ j := List.getElem?_eq_none_iff.mp hp
        have e : gnm w (j + 1) = gnm w j := by unfold gnm; rw [List.take_of_length_le (by omega), List.take_of_length_le (by omega)]
        omega
      | some p => rw [gnm_s hp]; omega
/-- names and gaps are no more than there are pairs -/
theorem tn_gnm (w : Rw) : (tn w).length + gnm w w.length ≤ w.length := by
  have key : ∀ (l : Rw) (a : List Int), (l.foldl addN a).length + (l.filter (fun p => decide (p.2 = -1))).length ≤ a.length + l.length := by
    intro l
    induction l with
    | nil => intro a; simp
    | cons p l ih =>
      intro a
      have := ih (addN a p)
      simp only [List.foldl_cons, List.length_cons]
      by_cases z : p.2 = -1
      · have e : addN a p = a := by unfold addN; simp [z]
        rw [e] at this ⊢
        simp [z]
        omega
      · have hle : (addN a p).length ≤ a.length + 1 := by unfold addN; split <;> simp <;> omega
        simp [z]
        omega
  have := key w []
  unfold gnm
  rw [List.take_length]
  simpa [tn] using this
theorem gnm_gp (w : Rw) : gnm w w.length ≤ gapPairs w := by
  unfold gnm gapPairs
  rw [List.take_length]
  induction w with
  | nil => simp [sm]
  | cons p w ih =>
    unfold sm
    by_cases z : p.2 = -1
    · simp [z, gp2]; omega
    · simp [z]; omega
