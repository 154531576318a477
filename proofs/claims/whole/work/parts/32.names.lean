/-! the row: its names, their numbers, which may still come -/
abbrev Rw : Type := List (Int × Int)
def WV (w : Rw) : Prop := w.length ≤ 12 ∧ ∀ p, p ∈ w → -1 ≤ p.1 ∧ p.1 ≤ 2 ∧ -1 ≤ p.2 ∧ p.2 ≤ 99
def addN (acc : List Int) (p : Int × Int) : List Int := if p.2 = -1 ∨ p.2 ∈ acc then acc else acc ++ [p.2]
/-- the names that are told, as they come first -/
def tn (w : Rw) : List Int := w.foldl addN []
def idn (w : Rw) (n : Int) : Nat := if n ∈ tn w then (tn w).idxOf n + 1 else 0
theorem fold_pre : ∀ (w : Rw) (acc : List Int), ∃ l, w.foldl addN acc = acc ++ l
  | [], acc => ⟨[], by simp⟩
  | p :: w, acc => by
    obtain ⟨l, e⟩ := fold_pre w (addN acc p)
    rw [List.foldl_cons, e]
    unfold addN
    split
    · exact ⟨l, rfl⟩
    · exact ⟨p.2 :: l, by simp⟩
theorem fold_mem : ∀ (w : Rw) (acc : List Int) (n : Int), n ∈ w.foldl addN acc ↔ n ∈ acc ∨ (n ≠ -1 ∧ ∃ p, p ∈ w ∧ p.2 = n)
  | [], acc, n => by simp
  | p :: w, acc, n => by
    rw [List.foldl_cons, fold_mem w]
    unfold addN
    by_cases h1 : p.2 = -1
    · rw [if_pos (Or.inl h1)]
      constructor
      · rintro (h | ⟨h, q, hq, e⟩)
        · exact Or.inl h
        · exact Or.inr ⟨h, q, List.mem_cons_of_mem _ hq, e⟩
      · rintro (h | ⟨h, q, hq, e⟩)
        · exact Or.inl h
        · rcases List.mem_cons.mp hq with z | z
          · subst z; exact absurd (e.symm.trans h1) h
          · exact Or.inr ⟨h, q, z, e⟩
    · by_cases h2 : p.2 ∈ acc
      · rw [if_pos (Or.inr h2)]
        constructor
        · rintro (h | ⟨h, q, hq, e⟩)
          · exact Or.inl h
          · exact Or.inr ⟨h, q, List.mem_cons_of_mem _ hq, e⟩
        · rintro (h | ⟨h, q, hq, e⟩)
          · exact Or.inl h
          · rcases List.mem_cons.mp hq with z | z
            · subst z; exact Or.inl (e ▸ h2)
            · exact Or.inr ⟨h, q, z, e⟩
      · rw [if_neg (by intro z; rcases z with z | z; exact h1 z; exact h2 z)]
        constructor
        · rintro (h | ⟨h, q, hq, e⟩)
          · rcases List.mem_append.mp h with z | z
            · exact Or.inl z
            · have z := List.mem_singleton.mp z
              exact Or.inr ⟨by rw [z]; exact h1, p, List.mem_cons_self, z.symm⟩
          · exact Or.inr ⟨h, q, List.mem_cons_of_mem _ hq, e⟩
        · rintro (h | ⟨h, q, hq, e⟩)
          · exact Or.inl (List.mem_append_left _ h)
          · rcases List.mem_cons.mp hq with z | z
            · subst z; exact Or.inl (List.mem_append_right _ (List.mem_singleton.mpr e.symm))
            · exact Or.inr ⟨h, q, z, e⟩
theorem tn_mem {w : Rw} {n : Int} : n ∈ tn w ↔ n ≠ -1 ∧ ∃ p, p ∈ w ∧ p.2 = n := by
  unfold tn; rw [fold_mem]; simp
theorem fold_len : ∀ (w : Rw) (acc : List Int), (w.foldl addN acc).length ≤ acc.length + w.length
  | [], acc => by simp
  | p :: w, acc => by
    rw [List.foldl_cons]
    have := fold_len w (addN acc p)
    have h2 : (addN acc p).length ≤ acc.length + 1 := by unfold addN; split <;> simp
    rw [List.length_cons]; omega
theorem tn_len (w : Rw) : (tn w).length ≤ w.length := by have := fold_len w []; simpa [tn] using this
theorem fold_nd : ∀ (w : Rw) (acc : List Int), acc.Nodup → (w.foldl addN acc).Nodup
  | [], acc, h => h
  | p :: w, acc, h => by
    rw [List.foldl_cons]
    apply fold_nd w
    unfold addN
    split
    · exact h
    · rename_i z
      rw [List.nodup_append]
      refine ⟨h, by simp, ?_⟩
      intro a ha b hb e
      rw [List.mem_singleton] at hb
      exact z (Or.inr (by rw [← hb, ← e]; exact ha))
theorem tn_nd (w : Rw) : (tn w).Nodup := fold_nd w [] (by simp)
theorem tn_take (w : Rw) (k : Nat) : ∃ l, tn w = tn (w.take k) ++ l := by
  obtain ⟨l, e⟩ := fold_pre (w.drop k) (tn (w.take k))
  refine ⟨l, ?_⟩
  rw [← e]
  unfold tn
  rw [← List.foldl_append, List.take_append_drop]
theorem tn_s {w : Rw} {i : Nat} {p : Int × Int} (h : w[i]? = some p) : tn (w.take (i + 1)) = addN (tn (w.take i)) p := by
  unfold tn
  rw [List.take_add_one, h, List.foldl_append]; rfl
theorem idn_gap (w : Rw) : idn w (-1) = 0 := by
  unfold idn; rw [if_neg]; intro h; exact (tn_mem.mp h).1 rfl
theorem idn_le (w : Rw) (n : Int) : idn w n ≤ (tn w).length := by
  unfold idn; split
  · rename_i h; have := List.idxOf_lt_length_of_mem h; omega
  · omega
theorem idn_new {w : Rw} {i : Nat} {p : Int × Int} (h : w[i]? = some p) (h1 : p.2 ≠ -1) (h2 : p.2 ∉ tn (w.take i)) : idn w p.2 = (tn (w.take i)).length + 1 := by
  have e := tn_s h
  unfold addN at e
  rw [if_neg (by intro z; rcases z with z | z; exact h1 z; exact h2 z)] at e
  obtain ⟨l, el⟩ := tn_take w (i + 1)
  rw [e] at el
  unfold idn
  rw [if_pos (by rw [el]; simp), el, List.append_assoc, List.idxOf_append, if_neg h2]
  simp
theorem idn_inj {w : Rw} {m n : Int} (h : idn w m = idn w n) (h0 : idn w m ≠ 0) : m = n := by
  unfold idn at h h0
  split at h
  · rename_i hm
    split at h
    · rename_i hn
      have e : (tn w).idxOf m = (tn w).idxOf n := by omega
      have h1 := List.idxOf_lt_length_of_mem hm
      have h2 := List.idxOf_lt_length_of_mem hn
      have a1 : (tn w)[(tn w).idxOf m]? = some m := by rw [List.getElem?_eq_getElem h1, List.getElem_idxOf]
      have a2 : (tn w)[(tn w).idxOf n]? = some n := by rw [List.getElem?_eq_getElem h2, List.getElem_idxOf]
      rw [e, a2] at a1
      exact (Option.some.inj a1).symm
    · omega
  · rename_i hm; rw [if_neg hm] at h0; omega
/-- which may still come, by bits; -1: all -/
def alv (f : Int → Nat) : Rw → Int
  | [] => 1
  | p :: l => if p.2 = -1 then -1 else if alv f l = -1 then -1 else (((alv f l).toNat ||| 2 ^ f p.2 : Nat) : Int)
def lvs (f : Int → Nat) (l : Rw) (n : Nat) : Bool := n == 0 || l.any (fun p => p.2 == -1 || f p.2 == n)
theorem alv_al {f : Int → Nat} (hf : ∀ n, f n < 16) : ∀ (l : Rw), AL (zI (alv f l)) (lvs f l) ∧ (alv f l = -1 ∨ 0 ≤ alv f l ∧ alv f l < 65536)
  | [] => by
    refine ⟨Or.inr ⟨1, by omega, rfl, ?_⟩, Or.inr ⟨by unfold alv; omega, by unfold alv; omega⟩⟩
    intro n hn
    have : ∀ n, n < 16 → (n == 0 || false) = (1 / 2 ^ n % 2 == 1) := by decide
    exact this n hn
  | p :: l => by
    obtain ⟨h1, h2⟩ := alv_al hf l
    unfold alv
    by_cases z : p.2 = -1
    · rw [if_pos z]
      exact ⟨Or.inl ⟨rfl, fun n => by unfold lvs; simp [z]⟩, Or.inl rfl⟩
    · rw [if_neg z]
      by_cases y : alv f l = -1
      · rw [if_pos y]
        refine ⟨Or.inl ⟨rfl, fun n => ?_⟩, Or.inl rfl⟩
        rcases h1 with ⟨-, h1⟩ | ⟨k, hk, e, -⟩
        · have := h1 n
          unfold lvs at this ⊢
          rw [List.any_cons]
          cases hn : (n == 0)
          · rw [hn] at this; simp at this; simp [this]
          · simp
        · rw [y] at e
          have := (yeq (by omega) (by omega) (by omega) (by omega)).mp e
          omega
      · rw [if_neg y]
        have hr : 0 ≤ alv f l ∧ alv f l < 65536 := by rcases h2 with h2 | h2; exact absurd h2 y; exact h2
        have hp : 2 ^ f p.2 < 2 ^ 16 := Nat.pow_lt_pow_right (by omega) (hf p.2)
        have ho : (alv f l).toNat ||| 2 ^ f p.2 < 2 ^ 16 := Nat.or_lt_two_pow (by omega) hp
        refine ⟨Or.inr ⟨_, ho, rfl, ?_⟩, Or.inr ⟨by omega, by omega⟩⟩
        intro n hn
        rcases h1 with ⟨e, -⟩ | ⟨k, hk, e, h1⟩
        · have := (yeq (by omega) (by omega) (by omega) (by omega)).mp e
          omega
        · have hk2 := (yeq (by omega) (by omega) (by omega) (by omega)).mp e
          have := h1 n hn
          have tb : ∀ x n : Nat, (x / 2 ^ n % 2 == 1) = x.testBit n := fun x n => by
            rw [Nat.testBit_eq_decide_div_mod_eq]; rfl
          rw [tb] at this ⊢
          rw [Nat.testBit_or, show (alv f l).toNat = k by omega, ← this, Nat.testBit_two_pow]
          unfold lvs
          rw [List.any_cons]
          have e1 : (p.2 == (-1 : Int)) = false := beq_eq_false_iff_ne.mpr z
          rw [e1, Bool.false_or]
          have e2 : (f p.2 == n) = decide (f p.2 = n) := rfl
          rw [e2]
          cases (n == 0) <;> cases (decide (f p.2 = n)) <;> simp
