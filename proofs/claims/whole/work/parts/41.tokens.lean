/-! the text: its tokens, the moves that it tells -/
def kd (c : Nat) : Nat := if 97 ≤ c ∧ c ≤ 122 then 0 else if 48 ≤ c ∧ c ≤ 57 then 1 else 2
def ch (t : List Nat) (i : Nat) : Nat := t.getD i 0
def skS (t : List Nat) (p : Nat) : Nat := if _h : p < t.length ∧ ch t p = 32 then skS t (p + 1) else p
termination_by t.length - p
decreasing_by omega
def exE (t : List Nat) (k p : Nat) : Nat := if _h : p < t.length ∧ kd (ch t p) = k then exE t k (p + 1) else p
termination_by t.length - p
decreasing_by omega
theorem skS_b (t : List Nat) : ∀ (n p : Nat), t.length ≤ p + n → p ≤ skS t p ∧ (p ≤ t.length → skS t p ≤ t.length)
  | 0, p, h => by rw [skS, dif_neg (by omega)]; exact ⟨by omega, fun h => h⟩
  | n + 1, p, h => by
    rw [skS]
    by_cases q : p < t.length ∧ ch t p = 32
    · rw [dif_pos q]
      have := skS_b t n (p + 1) (by omega)
      exact ⟨by omega, fun _ => this.2 (by omega)⟩
    · rw [dif_neg q]; exact ⟨by omega, fun h => h⟩
theorem exE_b (t : List Nat) (k : Nat) : ∀ (n p : Nat), t.length ≤ p + n → p ≤ exE t k p ∧ (p ≤ t.length → exE t k p ≤ t.length)
  | 0, p, h => by rw [exE, dif_neg (by omega)]; exact ⟨by omega, fun h => h⟩
  | n + 1, p, h => by
    rw [exE]
    by_cases q : p < t.length ∧ kd (ch t p) = k
    · rw [dif_pos q]
      have := exE_b t k n (p + 1) (by omega)
      exact ⟨by omega, fun _ => this.2 (by omega)⟩
    · rw [dif_neg q]; exact ⟨by omega, fun h => h⟩
/-- the next token behind e: its first byte, the one behind it -/
def tkS (t : List Nat) (e : Nat) : Nat := skS t e
def tkE (t : List Nat) (e : Nat) : Nat := if skS t e < t.length then (if kd (ch t (skS t e)) = 2 then skS t e + 1 else exE t (kd (ch t (skS t e))) (skS t e + 1)) else skS t e
theorem tk_b {t : List Nat} {e : Nat} (h : e ≤ t.length) : e ≤ tkS t e ∧ tkS t e ≤ tkE t e ∧ tkE t e ≤ t.length ∧ (tkS t e < t.length → tkS t e < tkE t e) := by
  have h1 := skS_b t t.length e (by omega)
  have h2 := h1.2 h
  unfold tkS tkE
  split
  · split
    · omega
    · have h3 := exE_b t (kd (ch t (skS t e))) t.length (skS t e + 1) (by omega)
      have := h3.2 (by omega)
      omega
  · omega
def isW (t : List Nat) (s e : Nat) (w : List Nat) : Bool := e == s + w.length && (List.range w.length).all (fun i => ch t (s + i) == w.getD i 0)
def isD (t : List Nat) (s e lim : Nat) : Int := if e = s + 1 ∧ 48 ≤ ch t s ∧ ch t s < 48 + lim then (ch t s : Int) - 48 else -1
def isL (t : List Nat) (s e : Nat) : Int := if e = s + 1 ∧ 97 ≤ ch t s ∧ ch t s ≤ 99 then (ch t s : Int) - 97 else -1
def wNew : List Nat := [110, 101, 119]
def wAny : List Nat := [97, 110, 121]
def wIs : List Nat := [105, 115]
def wKeep : List Nat := [107, 101, 101, 112]
def wTo : List Nat := [116, 111]
def PT (t : List Nat) (nr e : Nat) : Nat ⊕ (Nat × Nat) :=
  if isW t (tkS t e) (tkE t e) wNew then .inr (3, tkE t e) else if isW t (tkS t e) (tkE t e) wAny then .inr (4, tkE t e) else if isW t (tkS t e) (tkE t e) wIs then
    (if isD t (tkS t (tkE t e)) (tkE t (tkE t e)) nr < 0 then .inl (tkS t (tkE t e)) else .inr ((isD t (tkS t (tkE t e)) (tkE t (tkE t e)) nr).toNat, tkE t (tkE t e))) else .inl (tkS t e)
def PK (t : List Nat) (nr e : Nat) : Nat ⊕ (Int × Nat) :=
  if isW t (tkS t e) (tkE t e) wKeep then (if isD t (tkS t (tkE t e)) (tkE t (tkE t e)) nr < 0 then .inl (tkS t (tkE t e)) else .inr (isD t (tkS t (tkE t e)) (tkE t (tkE t e)) nr, tkE t (tkE t e))) else .inr (-1, e)
/-- a move: the place of its fault, or the move and where it ends -/
def PM (t : List Nat) (ns nr e : Nat) : Nat ⊕ (Mv × Nat) :=
  if isD t (tkS t e) (tkE t e) ns < 0 then .inl (tkS t e) else
  if isL t (tkS t (tkE t e)) (tkE t (tkE t e)) < 0 then .inl (tkS t (tkE t e)) else
  match PT t nr (tkE t (tkE t e)) with
  | .inl s => .inl s
  | .inr (k, e2) => match PK t nr e2 with
    | .inl s => .inl s
    | .inr (q, e3) => if isW t (tkS t e3) (tkE t e3) wTo then
        (if isD t (tkS t (tkE t e3)) (tkE t (tkE t e3)) ns < 0 then .inl (tkS t (tkE t e3)) else .inr (((isD t (tkS t e) (tkE t e) ns).toNat, (isL t (tkS t (tkE t e)) (tkE t (tkE t e))).toNat, k, q, (isD t (tkS t (tkE t e3)) (tkE t (tkE t e3)) ns).toNat), tkE t (tkE t e3)))
        else .inl (tkS t e3)
theorem isW_e {t : List Nat} {s e : Nat} {w : List Nat} (h : isW t s e w = true) : e = s + w.length := by
  unfold isW at h
  rw [Bool.and_eq_true] at h
  simpa using h.1
theorem isD_b (t : List Nat) (s e lim : Nat) : -1 ≤ isD t s e lim ∧ isD t s e lim < lim ∧ (0 ≤ isD t s e lim → e = s + 1) := by
  unfold isD; split
  · rename_i q; omega
  · omega
theorem isL_b (t : List Nat) (s e : Nat) : -1 ≤ isL t s e ∧ isL t s e < 3 ∧ (0 ≤ isL t s e → e = s + 1) := by
  unfold isL; split
  · rename_i q; omega
  · omega
theorem PT_b {t : List Nat} {nr e k e2 : Nat} (he : e ≤ t.length) (h : PT t nr e = .inr (k, e2)) : e + 3 ≤ e2 ∧ e2 ≤ t.length ∧ (k < nr ∨ k = 3 ∨ k = 4) := by
  unfold PT at h
  have a := tk_b he
  split at h
  · rename_i q
    have := isW_e q
    cases h
    simp [wNew] at this
    omega
  · split at h
    · rename_i q
      have := isW_e q
      cases h
      simp [wAny] at this
      omega
    · split at h
      · rename_i q
        have hw := isW_e q
        simp [wIs] at hw
        have b := tk_b a.2.2.1
        have c := isD_b t (tkS t (tkE t e)) (tkE t (tkE t e)) nr
        split at h
        · cases h
        · cases h
          omega
      · cases h
theorem PK_b {t : List Nat} {nr e e2 : Nat} {k : Int} (he : e ≤ t.length) (h : PK t nr e = .inr (k, e2)) : e ≤ e2 ∧ e2 ≤ t.length ∧ -1 ≤ k ∧ (k = -1 ∨ k < nr) := by
  unfold PK at h
  have a := tk_b he
  have b := tk_b a.2.2.1
  have c := isD_b t (tkS t (tkE t e)) (tkE t (tkE t e)) nr
  split at h
  · split at h
    · cases h
    · cases h; omega
  · cases h; omega
theorem PM_b {t : List Nat} {ns nr e e2 : Nat} {m : Mv} (he : e ≤ t.length) (h : PM t ns nr e = .inr (m, e2)) : e + 8 ≤ e2 ∧ e2 ≤ t.length ∧ m.1 < ns ∧ m.2.1 < 3 ∧ (m.2.2.1 < nr ∨ m.2.2.1 = 3 ∨ m.2.2.1 = 4) ∧ -1 ≤ m.2.2.2.1 ∧ (m.2.2.2.1 = -1 ∨ m.2.2.2.1 < nr) ∧ m.2.2.2.2 < ns := by
  unfold PM at h
  have a1 := tk_b he
  have d1 := isD_b t (tkS t e) (tkE t e) ns
  have a2 := tk_b a1.2.2.1
  have d2 := isL_b t (tkS t (tkE t e)) (tkE t (tkE t e))
  split at h
  · cases h
  split at h
  · cases h
  split at h
  · cases h
  rename_i k e3 q3
  have b3 := PT_b a2.2.2.1 q3
  split at h
  · cases h
  rename_i kp e4 q4
  have b4 := PK_b b3.2.1 q4
  have a5 := tk_b b4.2.1
  have a6 := tk_b a5.2.2.1
  have d6 := isD_b t (tkS t (tkE t e4)) (tkE t (tkE t e4)) ns
  split at h
  · rename_i q5
    have w5 := isW_e q5
    simp [wTo] at w5
    split at h
    · cases h
    · cases h
      simp only
      omega
  · cases h
/-- the whole text: the place of its fault or -1; the moves -/
def PL (t : List Nat) (ns nr : Nat) : Nat → Nat → List Mv → Int × List Mv
  | 0, _, ms => (0, ms)
  | n + 1, e, ms => match PM t ns nr e with
    | .inl s => (s, ms)
    | .inr (m, e2) => if tkS t e2 < t.length then (if isW t (tkS t e2) (tkE t e2) [59] then PL t ns nr n (tkE t e2) (ms ++ [m]) else (tkS t e2, ms ++ [m])) else (-1, ms ++ [m])
def PTX (t : List Nat) (r : Rdr) : Int × List Mv := PL t r.1 r.2.1 150 0 []
