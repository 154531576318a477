/-! two readers together: kinds of six registers -/
abbrev Jc : Type := Cfg × Cfg
def rs (J : Jc) : List Nat := [J.1.2.1, J.1.2.2.1, J.1.2.2.2, J.2.2.1, J.2.2.2.1, J.2.2.2.2]
def toJ (q p : Nat) (l : List Nat) : Jc := ((q, l.getD 0 0, l.getD 1 0, l.getD 2 0), (p, l.getD 3 0, l.getD 4 0, l.getD 5 0))
theorem rs_to {q p : Nat} : ∀ {l : List Nat}, l.length = 6 → rs (toJ q p l) = l
  | [], h => by simp at h
  | [_], h => by simp at h
  | [_, _], h => by simp at h
  | [_, _, _], h => by simp at h
  | [_, _, _, _], h => by simp at h
  | [_, _, _, _, _], h => by simp at h
  | [_, _, _, _, _, _], h => rfl
  | _ :: _ :: _ :: _ :: _ :: _ :: _ :: _, h => by simp at h
theorem to_rs (J : Jc) : toJ J.1.1 J.2.1 (rs J) = J := rfl
theorem rs_len (J : Jc) : (rs J).length = 6 := rfl
def lb (seen : List Nat) (x : Nat) : Nat := if x = 0 then 0 else seen.idxOf x + 1
def ad (seen : List Nat) (x : Nat) : List Nat := if x = 0 ∨ x ∈ seen then seen else seen ++ [x]
def ls : List Nat → List Nat → List Nat
  | _, [] => []
  | seen, x :: l => lb seen x :: ls (ad seen x) l
theorem ls_len : ∀ (l seen : List Nat), (ls seen l).length = l.length
  | [], _ => rfl
  | x :: l, seen => by unfold ls; rw [List.length_cons, List.length_cons, ls_len l]
def mx : Nat → List Nat → Nat
  | k, [] => k
  | k, x :: l => mx (max k x) l
def CL : Nat → List Nat → Prop
  | _, [] => True
  | k, x :: l => x ≤ k + 1 ∧ CL (max k x) l
theorem lb_ad (seen : List Nat) (x : Nat) : lb seen x ≤ seen.length + 1 ∧ max seen.length (lb seen x) = (ad seen x).length := by
  unfold lb ad
  by_cases z : x = 0
  · simp [z]
  · rw [if_neg z]
    by_cases y : x ∈ seen
    · rw [if_pos (Or.inr y)]
      have := List.idxOf_lt_length_iff.mpr y
      omega
    · rw [if_neg (by rintro (h | h); exact z h; exact y h), List.idxOf_eq_length y, List.length_append]
      simp
theorem ls_CL : ∀ (l seen : List Nat), CL seen.length (ls seen l)
  | [], _ => trivial
  | x :: l, seen => by
    unfold ls CL
    have := lb_ad seen x
    refine ⟨this.1, ?_⟩
    rw [this.2]
    exact ls_CL l _
theorem ls_mx : ∀ (l seen : List Nat), mx seen.length (ls seen l) ≤ seen.length + l.length
  | [], _ => Nat.le_refl _
  | x :: l, seen => by
    unfold ls mx
    have := lb_ad seen x
    rw [this.2, List.length_cons]
    have := ls_mx l (ad seen x)
    omega
theorem CL_mx : ∀ (l : List Nat) (k : Nat), CL k l → k ≤ mx k l ∧ mx k l ≤ k + l.length ∧ ∀ x, x ∈ l → x ≤ mx k l
  | [], k, _ => ⟨Nat.le_refl _, Nat.le_refl _, fun x hx => by cases hx⟩
  | x :: l, k, h => by
    obtain ⟨h1, h2⟩ := h
    obtain ⟨a, b, c⟩ := CL_mx l _ h2
    unfold mx
    rw [List.length_cons]
    refine ⟨by omega, by omega, fun y hy => ?_⟩
    rcases List.mem_cons.mp hy with z | z
    · omega
    · exact c y z
def kj (J : Jc) : Jc := toJ J.1.1 J.2.1 (ls [] (rs J))
def JV (J : Jc) : Prop := J.1.1 < 6 ∧ J.2.1 < 6 ∧ CL 0 (rs J)
theorem kj_rs (J : Jc) : rs (kj J) = ls [] (rs J) := rs_to (by rw [ls_len]; rfl)
theorem kj_v {J : Jc} (h1 : J.1.1 < 6) (h2 : J.2.1 < 6) : JV (kj J) := ⟨h1, h2, by rw [kj_rs]; exact ls_CL _ []⟩
def j0 : Jc := (c0, c0)
theorem j0_v : JV j0 := ⟨by decide, by decide, by unfold j0; exact ⟨by decide, ⟨by decide, ⟨by decide, ⟨by decide, ⟨by decide, ⟨by decide, trivial⟩⟩⟩⟩⟩⟩⟩
def tJ (J : Jc) : Nat := mx 0 (rs J)
theorem JV.b {J : Jc} (h : JV J) : tJ J ≤ 6 ∧ J.1.2.1 ≤ tJ J ∧ J.1.2.2.1 ≤ tJ J ∧ J.1.2.2.2 ≤ tJ J ∧ J.2.2.1 ≤ tJ J ∧ J.2.2.2.1 ≤ tJ J ∧ J.2.2.2.2 ≤ tJ J := by
  obtain ⟨a, b, c⟩ := CL_mx _ _ h.2.2
  rw [rs_len] at b
  unfold tJ
  refine ⟨by omega, c _ ?_, c _ ?_, c _ ?_, c _ ?_, c _ ?_, c _ ?_⟩ <;> unfold rs <;> simp
theorem JV.c1 {J : Jc} (h : JV J) : CV J.1 := by have := h.b; have := h.1; unfold CV; omega
theorem JV.c2 {J : Jc} (h : JV J) : CV J.2 := by have := h.b; have := h.2.1; unfold CV; omega
/-- one pair more for both -/
def jst (r o : Rdr) (J J' : Jc) : Prop := ∃ lt x c e, lt < 3 ∧ 1 ≤ x ∧ x ≤ tJ J + 1 ∧ stq r J.1 lt x c ∧ stq o J.2 lt x e ∧ J' = kj (c, e)
def jR (r o : Rdr) : Nat → Jc → Prop
  | 0, J => J = j0
  | n + 1, J => ∃ J1, jR r o n J1 ∧ jst r o J1 J
def jtk (r o : Rdr) (J : Jc) : Prop := tks r J.1.1 = true ∧ tks o J.2.1 = true
theorem stq_1 {r : Rdr} (hv : RV r) {c c' : Cfg} {l x : Nat} (h : stq r c l x c') : c'.1 < 6 := by
  obtain ⟨i, m, h1, h2, h3, h4⟩ := h
  unfold stp at h4
  split at h4
  · cases h4; exact (hv.mi h1).1.2.2.2.2.2
  · cases h4
theorem jst_v {r o : Rdr} (hr : RV r) (ho : RV o) {J J' : Jc} (h : jst r o J J') : JV J' := by
  obtain ⟨lt, x, c, e, -, -, -, h4, h5, rfl⟩ := h
  exact kj_v (stq_1 hr h4) (stq_1 ho h5)
theorem jR_v {r o : Rdr} (hr : RV r) (ho : RV o) : ∀ n J, jR r o n J → JV J
  | 0, J, h => by rw [show J = j0 from h]; exact j0_v
  | n + 1, J, ⟨J1, _, h⟩ => jst_v hr ho h
/-- numbers of such rows -/
def Wt : Nat → Nat → Nat
  | 0, _ => 1
  | m + 1, k => (k + 1) * Wt m k + Wt m (k + 1)
def nm : Nat → List Nat → Nat
  | _, [] => 0
  | k, x :: l => x * Wt l.length k + nm (max k x) l
theorem nm_lt : ∀ (l : List Nat) (k : Nat), CL k l → nm k l < Wt l.length k
  | [], k, _ => by unfold nm Wt; exact Nat.one_pos
  | x :: l, k, h => by
    obtain ⟨h1, h2⟩ := h
    have ih := nm_lt l _ h2
    unfold nm
    rw [List.length_cons]
    show _ < (k + 1) * Wt l.length k + Wt l.length (k + 1)
    by_cases z : x ≤ k
    · rw [Nat.max_eq_left z] at ih ⊢
      have : (x + 1) * Wt l.length k ≤ (k + 1) * Wt l.length k := Nat.mul_le_mul_right _ (by omega)
      rw [Nat.succ_mul] at this
      omega
    · have e : x = k + 1 := by omega
      rw [Nat.max_eq_right (by omega)] at ih ⊢
      rw [e] at ih ⊢
      omega
theorem nm_inj : ∀ (l l' : List Nat) (k : Nat), l.length = l'.length → CL k l → CL k l' → nm k l = nm k l' → l = l'
  | [], [], _, _, _, _, _ => rfl
  | [], _ :: _, _, h, _, _, _ => by simp at h
  | _ :: _, [], _, h, _, _, _ => by simp at h
  | x :: l, y :: l', k, hl, h, h', e => by
    obtain ⟨h1, h2⟩ := h
    obtain ⟨g1, g2⟩ := h'
    have a := nm_lt l _ h2
    have b := nm_lt l' _ g2
    have hl' : l.length = l'.length := by simpa using hl
    unfold nm at e
    rw [← hl'] at e b
    have no : ∀ x y A B W : Nat, x < y → A < W → x * W + A = y * W + B → False := by
      intro x y A B W h1 h2 h3
      have : (x + 1) * W ≤ y * W := Nat.mul_le_mul_right _ h1
      rw [Nat.succ_mul] at this
      omega
    have exy : x = y := by
      rcases Nat.lt_trichotomy x y with z | z | z
      · rw [Nat.max_eq_left (show x ≤ k by omega)] at a e
        exact (no _ _ _ _ _ z a e).elim
      · exact z
      · rw [Nat.max_eq_left (show y ≤ k by omega)] at b e
        exact (no _ _ _ _ _ z b e.symm).elim
    subst exy
    rw [nm_inj l l' _ hl' h2 g2 (by omega)]
def pl (J : Jc) : Nat := (J.1.1 * 6 + J.2.1) * 877 + nm 0 (rs J)
theorem Wt_60 : Wt 6 0 = 877 := by decide +kernel
theorem nm_877 {J : Jc} (h : JV J) : nm 0 (rs J) < 877 := by
  have := nm_lt (rs J) 0 h.2.2
  rwa [rs_len, Wt_60] at this
theorem pl_lt {J : Jc} (h : JV J) : pl J < 31572 := by
  have := nm_877 h
  have h1 := h.1
  have h2 := h.2.1
  unfold pl
  omega
theorem pl_inj {J J' : Jc} (h : JV J) (h' : JV J') (e : pl J = pl J') : J = J' := by
  have a := nm_877 h
  have b := nm_877 h'
  have h1 := h.1
  have h2 := h.2.1
  have g1 := h'.1
  have g2 := h'.2.1
  unfold pl at e
  have e1 : J.1.1 = J'.1.1 := by omega
  have e2 : J.2.1 = J'.2.1 := by omega
  have e3 := nm_inj _ _ 0 (by rw [rs_len, rs_len]) h.2.2 h'.2.2 (by omega)
  rw [← to_rs J, ← to_rs J', e1, e2, e3]
theorem JVs_len {L : List Jc} (nd : L.Nodup) (h : ∀ J, J ∈ L → JV J) : L.length ≤ 31572 := by
  have inj := fun (x y : Jc) (hx : x ∈ L) (hy : y ∈ L) (e : pl x = pl y) => pl_inj (h x hx) (h y hy) e
  have nd2 : (L.map pl).Nodup := by
    rw [List.nodup_iff_pairwise_ne, List.pairwise_map]
    refine List.Pairwise.imp_of_mem ?_ (List.nodup_iff_pairwise_ne.mp nd)
    intro a b ha hb hne e
    exact hne (inj a b ha hb e)
  have := nd_len 31572 (L.map pl) nd2 (by
    intro x hx
    obtain ⟨e, he, rfl⟩ := List.mem_map.mp hx
    exact pl_lt (h e he))
  rwa [List.length_map] at this
/-- distances -/
def jD (r o : Rdr) (n : Nat) (J : Jc) : Prop := jR r o n J ∧ ∀ i, i < n → ¬ jR r o i J
theorem jD_ex {r o : Rdr} {J : Jc} : ∀ n, jR r o n J → ∃ k, k ≤ n ∧ jD r o k J := by
  intro n
  induction n using Nat.strongRecOn with
  | _ n ih =>
    intro h
    by_cases z : ∃ i, i < n ∧ jR r o i J
    · obtain ⟨i, h1, h2⟩ := z
      obtain ⟨k, k1, k2⟩ := ih i h1 h2
      exact ⟨k, by omega, k2⟩
    · exact ⟨n, Nat.le_refl _, h, fun i hi hd => z ⟨i, hi, hd⟩⟩
theorem jD_p {r o : Rdr} {J : Jc} {n : Nat} (h : jD r o (n + 1) J) : ∃ J1, jD r o n J1 ∧ jst r o J1 J := by
  obtain ⟨⟨J1, h1, h2⟩, h3⟩ := h
  refine ⟨J1, ⟨h1, fun i hi hd => h3 (i + 1) (by omega) ⟨J1, hd, h2⟩⟩, h2⟩
theorem jD_u {r o : Rdr} {J : Jc} {n k : Nat} (h1 : jD r o n J) (h2 : jD r o k J) : n = k := by
  rcases Nat.lt_trichotomy n k with z | z | z
  · exact absurd h1.1 (h2.2 n z)
  · exact z
  · exact absurd h2.1 (h1.2 k z)
theorem jD_lt {r o : Rdr} (hr : RV r) (ho : RV o) : ∀ n J, jD r o n J → n < 31572 := by
  have key : ∀ n J, jD r o n J → ∃ L : List Jc, L.Nodup ∧ L.length = n + 1 ∧ ∀ e, e ∈ L → JV e ∧ ∃ i, i ≤ n ∧ jD r o i e := by
    intro n
    induction n with
    | zero => intro J h; exact ⟨[J], by simp, rfl, fun e he => by rw [List.mem_singleton.mp he]; exact ⟨jR_v hr ho 0 J h.1, 0, Nat.le_refl _, h⟩⟩
    | succ n ih =>
      intro J h
      obtain ⟨J1, h1, h2⟩ := jD_p h
      obtain ⟨L, l1, l2, l3⟩ := ih J1 h1
      refine ⟨J :: L, ?_, by rw [List.length_cons, l2], ?_⟩
      · rw [List.nodup_cons]
        refine ⟨fun z => ?_, l1⟩
        obtain ⟨-, i, h3, h4⟩ := l3 J z
        have := jD_u h h4
        omega
      · intro e he
        rcases List.mem_cons.mp he with z | z
        · rw [z]; exact ⟨jR_v hr ho _ J h.1, n + 1, Nat.le_refl _, h⟩
        · obtain ⟨h3, i, h4, h5⟩ := l3 e z
          exact ⟨h3, i, by omega, h5⟩
  intro n J h
  obtain ⟨L, l1, l2, l3⟩ := key n J h
  have := JVs_len l1 (fun e he => (l3 e he).1)
  omega
noncomputable def bthA (s : Stt) : Int := mnV (fun n => ∃ J, jR s.1 s.2.1 n J ∧ jtk s.1 s.2.1 J)
