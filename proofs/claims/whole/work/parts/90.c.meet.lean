/-! X: Meeting: comeTo, spread -/
theorem ct_in (d : Nat) {h : AH} {x1 : Int32} {hv i k x W rest : Nat} (hx : x ≤ k + 1) (hr : x ≤ k → rest < W) (hW : W < 1000) (hrb : rest < 1000) (hk : k ≤ 6) : ∀ (n t : Nat), t + n = x →
    Rk B_Mt_comeTo L_Mt_comeTo (Cc d) 3 [aR (some 83), aI x1, aI (zI ((n * W + rest : Nat) : Int)), aI (zI hv), aI (zI k), aI (zI i), aI (zI W), aI (zI t)] [] h = Rk B_Mt_comeTo L_Mt_comeTo (Cc d) 6 [aR (some 83), aI x1, aI (zI rest), aI (zI hv), aI (zI k), aI (zI i), aU, aI (zI x)] [] h
  | 0, t, ht => by
    have e : t = x := by omega
    subst e
    rw [Nat.zero_mul, Nat.zero_add, E_Mt_comeTo_3]
    simp (disch := omega) only [nle]
    by_cases z : t ≤ k
    · rw [if_pos z, E_Mt_comeTo_4]
      simp (disch := omega) only [nlt]
      rw [if_pos (hr z)]
    · rw [if_neg z]
  | n + 1, t, ht => by
    have hb : (n + 1) * W ≤ 7 * 1000 := Nat.mul_le_mul (by omega) (by omega)
    have hb2 : n * W + W = (n + 1) * W := (Nat.succ_mul n W).symm
    rw [E_Mt_comeTo_3]
    simp (disch := omega) only [nle]
    rw [if_pos (by omega), E_Mt_comeTo_4]
    simp (disch := omega) only [nlt]
    rw [if_neg (by omega), E_Mt_comeTo_5, nsub (by omega), lt_e, nadd1, lt_e, show (n + 1) * W + rest - W = n * W + rest by omega]
    exact ct_in d hx hr hW hrb hk n (t + 1) (by omega)
theorem ct_lp (d : Nat) {s : Stt} {h : AH} (p : XI s h) {x1 : Int32} : ∀ (l : List Nat) (i hv k : Nat), i + l.length = 6 → hv < 2 ^ (4 * i) → CL k l → k ≤ i →
    Rk B_Mt_comeTo L_Mt_comeTo (Cc (d + 1)) 1 [aR (some 83), aI x1, aI (zI (nm k l)), aI (zI hv), aI (zI k), aI (zI i), aU, aU] [] h = Rk B_Mt_comeTo L_Mt_comeTo (Cc (d + 1)) 7 [aR (some 83), aI x1, aU, aI (zI ((hv + 2 ^ (4 * i) * hp l : Nat) : Int)), aI (zI (mx k l)), aU, aU, aU] [] h
  | [], i, hv, k, hi, hh, cl, hk => by
    rw [List.length_nil] at hi
    rw [E_Mt_comeTo_1, show zI 6 = zI ((6 : Nat) : Int) from rfl]
    simp (disch := omega) only [nlt]
    rw [if_neg (by omega)]
    rfl
  | x :: l, i, hv, k, hi, hh, cl, hk => by
    rw [List.length_cons] at hi
    obtain ⟨c1, c2⟩ := cl
    have hrl := nm_lt l _ c2
    have hWb := Wt_b l.length (by omega) k (by omega) (by omega)
    have hWb2 := Wt_b l.length (by omega) (max k x) (by omega) (by omega)
    have h24 : (2 : Nat) ^ (4 * i) ≤ 2 ^ (4 * 5) := Nat.pow_le_pow_right (by omega) (by omega)
    have hmul : x * 2 ^ (4 * i) ≤ 7 * 2 ^ (4 * 5) := Nat.mul_le_mul (by omega) h24
    have hmm : (2 : Nat) ^ (4 * 5) = 1048576 := by decide
    have hnx : x * 2 ^ (4 * i) ≤ 15 * 2 ^ (4 * i) := Nat.mul_le_mul_right _ (by omega)
    have hp4 : 2 ^ (4 * (i + 1)) = 16 * 2 ^ (4 * i) := by rw [show 4 * (i + 1) = 4 * i + 4 by omega, Nat.pow_add]; omega
    have e1 := ct_in (d + 1) (h := h) (x1 := x1) (hv := hv) (i := i) (k := k) (x := x) (W := Wt l.length k) (rest := nm (max k x) l) c1 (fun q => by rw [Nat.max_eq_left q] at hrl ⊢; exact hrl) hWb (by omega) (by omega) x 0 (by omega)
    have ih := ct_lp d p (x1 := x1) l (i + 1) (hv + x * 2 ^ (4 * i)) (max k x) (by omega) (by rw [hp4]; omega) c2 (by omega)
    rw [E_Mt_comeTo_1, show zI 6 = zI ((6 : Nat) : Int) from rfl]
    simp (disch := omega) only [nlt]
    rw [if_pos (by omega), E_Mt_comeTo_2, obj_e (z83 p.1), calI_e (Mt_rowsBehind _ p (by omega) hk), lt_e, lt_e, show 5 - i = l.length by omega, show zI (nm k (x :: l) : Int) = zI ((x * Wt l.length k + nm (max k x) l : Nat) : Int) from rfl, zc0, e1, E_Mt_comeTo_6, zc4, nmul, nshl (by omega), zI_or (by omega) (by omega), orp hh, lt_e, calI_e (C_max _ (by omega) (by omega) _), lt_e, nadd1, lt_e, ih]
    have : hv + x * 2 ^ (4 * i) + 2 ^ (4 * (i + 1)) * hp l = hv + 2 ^ (4 * i) * hp (x :: l) := by
      rw [hp4, hp_c, Nat.mul_add, Nat.mul_comm x, ← Nat.mul_assoc, Nat.mul_comm (2 ^ (4 * i)) 16]
      omega
    rw [this]
    rfl
def mtF (b : Nat) : Prop := 83 ≤ b ∧ b ≤ 92
theorem Mt_comeTo (d : Nat) {s : Stt} {h : AH} (p : XI s h) {J : Jc} (hJ : JV J) : ∃ h', Cc (d + 2) k_Mt_comeTo [aR (some 83), aI (zI (pl J))] h = some (none, h') ∧ fr (fun b => b = 83) h h' ∧ (∀ a j, hR h' a j = hR h a j) ∧ hI h' 83 6 = zI (eX J.1) ∧ hI h' 83 7 = zI (eX J.2) ∧ hI h' 83 8 = zI ((tJ J + 1 : Nat) : Int) := by
  have hb := hJ.b
  have hx : ∀ x, x ∈ rs J → x ≤ 7 := by
    intro x hx
    have := (CL_mx _ _ hJ.2.2).2.2 x hx
    unfold tJ at hb
    omega
  obtain ⟨b1, b2, b3⟩ := hp_rs J hx
  have c1 := hJ.c1
  have c2 := hJ.c2
  have l1 := eX_lt c1
  have l2 := eX_lt c2
  have q1 := eX_q c1
  have q2 := eX_q c2
  have e1 : eX J.1 % 4096 = J.1.2.1 + 16 * J.1.2.2.1 + 256 * J.1.2.2.2 := by
    have := eX_a c1
    have := eX_b c1
    have := eX_c c1
    omega
  have e2 : eX J.2 % 4096 = J.2.2.1 + 16 * J.2.2.2.1 + 256 * J.2.2.2.2 := by
    have := eX_a c2
    have := eX_b c2
    have := eX_c c2
    omega
  have h877 := nm_877 hJ
  have hq := hJ.1
  have hp' := hJ.2.1
  have hplt := pl_lt hJ
  have pm : pl J % 877 = nm 0 (rs J) := by unfold pl; omega
  have pd : pl J / 877 = J.1.1 * 6 + J.2.1 := by unfold pl; omega
  have lp := ct_lp d p (x1 := zI (pl J)) (rs J) 0 0 0 (by rw [rs_len]) (by decide) hJ.2.2 (Nat.le_refl _)
  rw [Nat.mul_zero, Nat.pow_zero, Nat.one_mul, Nat.zero_add] at lp
  have o1 : 4096 * J.1.1 ||| hp (rs J) % 4096 = eX J.1 := by
    rw [Nat.mul_comm, Nat.or_comm, show (4096 : Nat) = 2 ^ 12 from rfl, orp (by omega)]; omega
  have o2 : 4096 * J.2.1 ||| hp (rs J) / 4096 = eX J.2 := by
    rw [Nat.mul_comm, Nat.or_comm, show (4096 : Nat) = 2 ^ 12 from rfl, orp (by omega)]; omega
  refine ⟨sI (sI (sI h 83 6 (zI (eX J.1))) 83 7 (zI (eX J.2))) 83 8 (zI ((tJ J + 1 : Nat) : Int)), ?_, ((fr_sI (F := fun b => b = 83) _ rfl _ _).tr (fr_sI (F := fun b => b = 83) _ rfl _ _)).tr (fr_sI (F := fun b => b = 83) _ rfl _ _), fun _ _ => rfl, by rw [hI_off (by omega), hI_off (by omega), hI_hit], by rw [hI_off (by omega), hI_hit], by rw [hI_hit]⟩
  rw [C_Mt_comeTo, E_Mt_comeTo_0, if_neg (by decide), show zI 877 = zI ((877 : Nat) : Int) from rfl, nrem (by omega) (by omega) (by omega), pm, lt_e, lt_e, lt_e, lt_e]
  refine Eq.trans lp ?_
  rw [E_Mt_comeTo_7, if_neg (by decide), show zI 877 = zI ((877 : Nat) : Int) from rfl, ndiv (by omega) (by omega) (by omega), pd, lt_e, if_neg (by decide), obj_e (z83 p.1), mb_some, if_neg (by decide), obj_sI, obj_e (z83 p.1), mb_some, obj_sI, obj_sI, obj_e (z83 p.1), mb_some]
  rw [show zI 6 = zI ((6 : Nat) : Int) from rfl, nrem (by omega) (by omega) (by omega), ndiv (by omega) (by omega) (by omega), show (J.1.1 * 6 + J.2.1) / 6 = J.1.1 by omega, show (J.1.1 * 6 + J.2.1) % 6 = J.2.1 by omega, and4095 (by omega), shl12, shl12, shr12 (by omega), zI_or (by omega) (by omega), zI_or (by omega) (by omega), o1, o2, nadd1]
  rfl
/-- what is met, what comes -/
def AdS (M N A M' N' : Jc → Prop) : Prop := (∀ J, M' J ↔ M J ∨ A J) ∧ ∀ J, N' J ↔ N J ∨ (A J ∧ ¬ M J)
theorem AdS_0 (M N : Jc → Prop) {A : Jc → Prop} (h : ∀ J, ¬ A J) : AdS M N A M N := ⟨fun J => ⟨Or.inl, fun q => q.elim id (fun q => absurd q (h J))⟩, fun J => ⟨Or.inl, fun q => q.elim id (fun q => absurd q.1 (h J))⟩⟩
theorem AdS_t {M N A M1 N1 B M2 N2 C : Jc → Prop} (h1 : AdS M N A M1 N1) (h2 : AdS M1 N1 B M2 N2) (hC : ∀ J, C J ↔ A J ∨ B J) : AdS M N C M2 N2 := by
  constructor
  · intro J
    rw [h2.1 J, h1.1 J, hC J, or_assoc]
  · intro J
    rw [h2.2 J, h1.2 J, h1.1 J, hC J]
    constructor
    · rintro ((q | q) | ⟨q1, q2⟩)
      · exact Or.inl q
      · exact Or.inr ⟨Or.inl q.1, q.2⟩
      · exact Or.inr ⟨Or.inr q1, fun q => q2 (Or.inl q)⟩
    · rintro (q | ⟨q1, q2⟩)
      · exact Or.inl (Or.inl q)
      · by_cases z : A J
        · exact Or.inl (Or.inr ⟨z, q2⟩)
        · exact Or.inr ⟨q1.resolve_left z, fun q => q.elim q2 z⟩
theorem AdS_c {M N A B M' N' : Jc → Prop} (h : AdS M N A M' N') (e : ∀ J, A J ↔ B J) : AdS M N B M' N' := by
  have : A = B := funext fun J => propext (e J)
  rw [← this]; exact h
def JS (S : Nat → Bool) (P : Jc → Prop) : Prop := ∀ t, S t = true ↔ ∃ J, JV J ∧ P J ∧ t = pl J
theorem JS_i {S : Nat → Bool} {P : Jc → Prop} (h : JS S P) {J : Jc} (hJ : JV J) : S (pl J) = true ↔ P J := by
  rw [h]
  constructor
  · rintro ⟨J', h1, h2, h3⟩
    rw [pl_inj hJ h1 h3]; exact h2
  · intro q; exact ⟨J, hJ, q, rfl⟩
theorem JS_a {S : Nat → Bool} {P Q : Jc → Prop} (h : JS S P) {J : Jc} (hJ : JV J) (hQ : ∀ J', Q J' ↔ P J' ∨ J' = J) : JS (fun t => S t || t == pl J) Q := by
  intro t
  simp only [Bool.or_eq_true, beq_iff_eq]
  rw [h t]
  constructor
  · rintro (⟨J', h1, h2, h3⟩ | q)
    · exact ⟨J', h1, (hQ J').mpr (Or.inl h2), h3⟩
    · exact ⟨J, hJ, (hQ J).mpr (Or.inr rfl), q⟩
  · rintro ⟨J', h1, h2, h3⟩
    rcases (hQ J').mp h2 with q | q
    · exact Or.inl ⟨J', h1, q, h3⟩
    · rw [q] at h3; exact Or.inr h3
theorem XI_mt {s : Stt} {h h' : AH} (p : XI s h) (f : fr mtF h h') (hF : XF h') (q5 : prr h' 83 1 2 87 90) (a2 : ∃ S, SP h' 84 31572 S) (a3 : ∃ S, SP h' 87 31572 S) (a4 : ∃ S, SP h' 90 31572 S) : XI s h' := by
  obtain ⟨p1, p2, p3, p4, p5, p6, p7, b1, b2, b3, b4, q1, q2, q3, q4, -, q6⟩ := p
  have n : ∀ b, b < 83 ∨ 92 < b → ¬ mtF b := fun b hb => by unfold mtF; omega
  refine ⟨f.1.trans p1, hF, p3.fr f (fun b _ _ => n b (by omega)), p4.fr f (fun b _ _ => n b (by omega)), p5.fr f (fun b _ _ => n b (by omega)), p6.fr f (n _ (by omega)) (n _ (by omega)), p7.fr f (fun b _ _ => n b (by omega)), ?_, a2, a3, a4, q1.fr f (n _ (by omega)), q2.fr f (n _ (by omega)), q3.fr f (n _ (by omega)), q4.fr f (n _ (by omega)), q5, ?_⟩
  · intro k hk
    obtain ⟨⟨S, hS⟩, e⟩ := b1 k hk
    exact ⟨⟨S, hS.fr f (fun b hb => n b (by unfold spF at hb; omega))⟩, by rw [f.R (n 21 (by omega))]; exact e⟩
  · exact ⟨fun j hj => by rw [f.I (n 93 (by omega))]; exact q6.1 j hj, by rw [f.I (n 68 (by omega))]; exact q6.2⟩
/-- the meeting's sets -/
def MtQ (s : Stt) (h : AH) (a b : Nat) (M Nw N : Jc → Prop) : Prop := XI s h ∧ hR h 83 1 = some a ∧ hR h 83 2 = some b ∧ ((a = 87 ∧ b = 90) ∨ (a = 90 ∧ b = 87)) ∧ (∃ S, SP h 84 31572 S ∧ JS S M) ∧ (∃ S, SP h a 31572 S ∧ JS S Nw) ∧ ∃ S, SP h b 31572 S ∧ JS S N
def MJ (h : AH) (J : Jc) : Prop := hI h 83 6 = zI (eX J.1) ∧ hI h 83 7 = zI (eX J.2) ∧ hI h 83 8 = zI ((tJ J + 1 : Nat) : Int)
theorem prr_ab {h : AH} {a b : Nat} (h1 : hR h 83 1 = some a) (h2 : hR h 83 2 = some b) (hab : (a = 87 ∧ b = 90) ∨ (a = 90 ∧ b = 87)) : prr h 83 1 2 87 90 := by
  unfold prr
  rw [h1, h2]
  rcases hab with ⟨rfl, rfl⟩ | ⟨rfl, rfl⟩
  · exact Or.inl ⟨rfl, rfl⟩
  · exact Or.inr ⟨rfl, rfl⟩
theorem XI_sp2 {s : Stt} {h h' : AH} (p : XI s h) {a : Nat} (ha : a = 84 ∨ a = 87 ∨ a = 90) {S : Nat → Bool} (f : fr (spF a) h h') (q : SP h' a 31572 S) : XI s h' := by
  obtain ⟨-, p2, -, -, -, -, -, -, ⟨S2, b2⟩, ⟨S3, b3⟩, ⟨S4, b4⟩, -, -, -, -, q5, -⟩ := id p
  have n : ∀ b, b < 84 ∨ 92 < b → ¬ spF a b := fun b hb => by unfold spF; omega
  have key : ∀ c S0, (c = 84 ∨ c = 87 ∨ c = 90) → SP h c 31572 S0 → ∃ S, SP h' c 31572 S := by
    intro c S0 hc sp
    by_cases z : c = a
    · rw [z]; exact ⟨S, q⟩
    · exact ⟨S0, sp.fr f (fun b hb => by unfold spF at *; omega)⟩
  refine XI_mt p (f.mo (fun b hb => by unfold spF at hb; unfold mtF; omega)) (p2.mv (fun t ht => ?_)) (q5.fr f (n _ (by omega))) (key _ _ (by omega) b2) (key _ _ (by omega) b3) (key _ _ (by omega) b4)
  have : ∀ t, t ∈ XRefs → t.1 < 84 ∨ 92 < t.1 := by decide
  exact f.R (n _ (this t ht)) _
/-- one more is met -/
theorem MQ_add (d : Nat) {s : Stt} {h : AH} {a b : Nat} {M Nw N : Jc → Prop} (q : MtQ s h a b M Nw N) {J : Jc} (hJ : JV J) {x2 x3 x4 x5 : Int32} : ∃ h' M' N', fr mtF h h' ∧ (∀ j, hI h' 83 j = hI h 83 j) ∧ AdS M N (fun J' => J' = J) M' N' ∧ MtQ s h' a b M' Nw N' ∧ (obj h 7 (hR h 83 0) fun _ => calI (Cc (d + 1) k_Sp_add [aR (hR h 83 0), aI (zI (pl J))] h) fun v5 h6 => if v5 = 0 then Rk B_Mt_spreadOther L_Mt_spreadOther (Cc (d + 1)) 8 [aR (some 83), aU, aI x2, aI x3, aI x4, aI x5, aU, aU] [] h6 else Rk B_Mt_spreadOther L_Mt_spreadOther (Cc (d + 1)) 7 [aR (some 83), aU, aI x2, aI x3, aI x4, aI x5, aU, aI (zI (pl J))] [] h6) = Rk B_Mt_spreadOther L_Mt_spreadOther (Cc (d + 1)) 8 [aR (some 83), aU, aI x2, aI x3, aI x4, aI x5, aU, aU] [] h' := by
  obtain ⟨px, r1, r2, hab, ⟨S, sp, js⟩, ⟨Sa, spa, jsa⟩, ⟨Sb, spb, jsb⟩⟩ := q
  have hlt := pl_lt hJ
  obtain ⟨h1, e1, f1, sp1⟩ := Sp_add d sp (s := pl J) hlt
  have g1 : fr mtF h h1 := f1.mo (fun b hb => by unfold spF at hb; unfold mtF; omega)
  have n83 : ¬ spF 84 83 := by unfold spF; omega
  have spa1 := spa.fr f1 (fun b' hb' => by unfold spF at *; omega)
  have spb1 := spb.fr f1 (fun b' hb' => by unfold spF at *; omega)
  have px1 := XI_sp2 px (by omega) f1 sp1
  have r11 : hR h1 83 1 = some a := by rw [f1.R n83]; exact r1
  have r21 : hR h1 83 2 = some b := by rw [f1.R n83]; exact r2
  rw [px.r (a := 83) (j := 0) (c := 84) (by decide)]
  have js1 : JS (fun t => S t || t == pl J) (fun J' => M J' ∨ J' = J) := JS_a js hJ (fun J' => Iff.rfl)
  by_cases z : M J
  · refine ⟨h1, fun J' => M J' ∨ J' = J, N, g1, fun j => f1.I n83 j, ⟨fun J' => Iff.rfl, fun J' => ⟨Or.inl, fun q => q.elim id (fun q => absurd (by rw [q.1]; exact z) q.2)⟩⟩, ⟨px1, r11, r21, hab, ⟨_, sp1, js1⟩, ⟨_, spa1, jsa⟩, ⟨_, spb1, jsb⟩⟩, ?_⟩
    rw [obj_e sp.1.1, calI_e e1, if_pos ((JS_i js hJ).mpr z), if_pos zI_0.symm]
  · obtain ⟨h2, e2, f2, sp2⟩ := Sp_add d spb1 (s := pl J) hlt
    have g2 : fr mtF h1 h2 := f2.mo (fun b' hb => by unfold spF at hb; unfold mtF; omega)
    have m83 : ¬ spF b 83 := by unfold spF; omega
    have px2 := XI_sp2 px1 (by omega) f2 sp2
    refine ⟨h2, fun J' => M J' ∨ J' = J, fun J' => N J' ∨ J' = J, g1.tr g2, fun j => (f2.I m83 j).trans (f1.I n83 j), ⟨fun J' => Iff.rfl, fun J' => ⟨fun q => q.elim Or.inl (fun q => Or.inr ⟨q, by rw [q]; exact z⟩), fun q => q.elim Or.inl (fun q => Or.inr q.1)⟩⟩, ⟨px2, by rw [f2.R m83]; exact r11, by rw [f2.R m83]; exact r21, hab, ⟨_, sp1.fr f2 (fun b' hb' => by unfold spF at *; omega), js1⟩, ⟨_, spa1.fr f2 (fun b' hb' => by unfold spF at *; omega), jsa⟩, ⟨_, sp2, JS_a jsb hJ (fun J' => Iff.rfl)⟩⟩, ?_⟩
    rw [obj_e sp.1.1, calI_e e1, if_neg (fun w => z ((JS_i js hJ).mp w)), if_neg (by decide), E_Mt_spreadOther_7, obj_e (z83 px1.1), r21, obj_e spb1.1.1, calI_e e2]
theorem so_lp (d : Nat) {s : Stt} {a b lt x : Nat} {Nw : Jc → Prop} {J : Jc} {c : Cfg} (hJ : JV J) (hlt : lt < 3) (hx : 1 ≤ x) (hx2 : x ≤ tJ J + 1) (hc : stq s.1 J.1 lt x c) : ∀ (n j : Nat) (h : AH) (M N : Jc → Prop), j + n = (bk s.2.1.2.2.2 (J.2.1 * 3 + lt)).length → MtQ s h a b M Nw N → MJ h J →
    ∃ h' v, Rk B_Mt_spreadOther L_Mt_spreadOther (Cc (d + 2)) 1 [aR (some 83), aU, aI (zI x), aI (zI (eX c)), aI (zI ((bg s.2.1.2.2.2 (J.2.1 * 3 + lt) + (bk s.2.1.2.2.2 (J.2.1 * 3 + lt)).length : Nat) : Int)), aI (zI ((bg s.2.1.2.2.2 (J.2.1 * 3 + lt) + j : Nat) : Int)), aU, aU] [] h = some (some (aI (zI v)), h') ∧ fr mtF h h' ∧ XI s h' ∧ ((v = 1 ∧ ∃ e, stq s.2.1 J.2 lt x e ∧ jtk s.1 s.2.1 (c, e)) ∨ (v = 0 ∧ (∀ (k i : Nat) (m : Mv) (e : Cfg), j ≤ k → (bk s.2.1.2.2.2 (J.2.1 * 3 + lt))[k]? = some i → s.2.1.2.2.2[i]? = some m → stp m J.2 x = some e → ¬ jtk s.1 s.2.1 (c, e)) ∧ ∃ M' N', AdS M N (fun J' => ∃ (k i : Nat) (m : Mv) (e : Cfg), j ≤ k ∧ (bk s.2.1.2.2.2 (J.2.1 * 3 + lt))[k]? = some i ∧ s.2.1.2.2.2[i]? = some m ∧ stp m J.2 x = some e ∧ J' = kj (c, e)) M' N' ∧ MtQ s h' a b M' Nw N' ∧ MJ h' J))
  | 0, j, h, M, N, hn, q, mj => by
    have ro := q.1.2.2.2.1
    have hl : bg s.2.1.2.2.2 (J.2.1 * 3 + lt) + (bk s.2.1.2.2.2 (J.2.1 * 3 + lt)).length ≤ 20 := Nat.le_trans (bg_le s.2.1.2.2.2 (J.2.1 * 3 + lt + 1)) ro.1.2.2.2.2.1
    have nok : ∀ (k i : Nat), j ≤ k → (bk s.2.1.2.2.2 (J.2.1 * 3 + lt))[k]? = some i → False := by
      intro k i h1 h2
      have := (List.getElem?_eq_some_iff.mp h2).1
      omega
    refine ⟨h, 0, ?_, fr.rf _ h, q.1, Or.inr ⟨rfl, fun k i m e h1 h2 => (nok k i h1 h2).elim, M, N, AdS_0 M N (fun J' ⟨k, i, m, e, h1, h2, _⟩ => nok k i h1 h2), q, mj⟩⟩
    rw [E_Mt_spreadOther_1]
    simp (disch := omega) only [nlt]
    rw [if_neg (by omega), E_Mt_spreadOther_9, fr0]
  | n + 1, j, h, M, N, hn, q, mj => by
    have px := q.1
    have rr := px.2.2.1
    have ro := px.2.2.2.1
    have hb := hJ.b
    have hl : bg s.2.1.2.2.2 (J.2.1 * 3 + lt) + (bk s.2.1.2.2.2 (J.2.1 * 3 + lt)).length ≤ 20 := Nat.le_trans (bg_le s.2.1.2.2.2 (J.2.1 * 3 + lt + 1)) ro.1.2.2.2.2.1
    have c2 := hJ.c2
    have hq2 := hJ.2.1
    have hj : (bk s.2.1.2.2.2 (J.2.1 * 3 + lt))[j]? = some (bk s.2.1.2.2.2 (J.2.1 * 3 + lt))[j] := List.getElem?_eq_getElem (by omega)
    obtain ⟨m, hm, hk⟩ := bk_mem hj
    have hmv := (ro.1.mi hm).1
    have hzo := zI_oX hmv c2 (x := x) (by omega)
    have e0 : Rk B_Mt_spreadOther L_Mt_spreadOther (Cc (d + 2)) 1 [aR (some 83), aU, aI (zI x), aI (zI (eX c)), aI (zI ((bg s.2.1.2.2.2 (J.2.1 * 3 + lt) + (bk s.2.1.2.2.2 (J.2.1 * 3 + lt)).length : Nat) : Int)), aI (zI ((bg s.2.1.2.2.2 (J.2.1 * 3 + lt) + j : Nat) : Int)), aU, aU] [] h = if oX (stp m J.2 x) < 0 then Rk B_Mt_spreadOther L_Mt_spreadOther (Cc (d + 2)) 8 [aR (some 83), aU, aI (zI x), aI (zI (eX c)), aI (zI ((bg s.2.1.2.2.2 (J.2.1 * 3 + lt) + (bk s.2.1.2.2.2 (J.2.1 * 3 + lt)).length : Nat) : Int)), aI (zI ((bg s.2.1.2.2.2 (J.2.1 * 3 + lt) + j : Nat) : Int)), aU, aU] [] h else Rk B_Mt_spreadOther L_Mt_spreadOther (Cc (d + 2)) 3 [aR (some 83), aU, aI (zI x), aI (zI (eX c)), aI (zI ((bg s.2.1.2.2.2 (J.2.1 * 3 + lt) + (bk s.2.1.2.2.2 (J.2.1 * 3 + lt)).length : Nat) : Int)), aI (zI ((bg s.2.1.2.2.2 (J.2.1 * 3 + lt) + j : Nat) : Int)), aI (zI (oX (stp m J.2 x))), aU] [] h := by
      rw [E_Mt_spreadOther_1]
      simp (disch := omega) only [nlt]
      rw [if_pos (by omega), E_Mt_spreadOther_2, obj_e (z83 px.1), obj_e (z83 px.1), obj_e (z83 px.1), px.r (a := 83) (j := 5) (c := 5) (by decide), obj_e ro.2.1.1, calI_e (Rd_moveAt _ ro (by omega) hj), obj_e ro.2.1.1, mj.2.1, calI_e (Rd_after _ ro c2 hm (by omega)), lt_e]
      simp (disch := omega) only [ylt0]
    -- what comes behind this move
    have cont : ∀ (h1 : AH) (M1 N1 : Jc → Prop) (A : Jc → Prop), Rk B_Mt_spreadOther L_Mt_spreadOther (Cc (d + 2)) 1 [aR (some 83), aU, aI (zI x), aI (zI (eX c)), aI (zI ((bg s.2.1.2.2.2 (J.2.1 * 3 + lt) + (bk s.2.1.2.2.2 (J.2.1 * 3 + lt)).length : Nat) : Int)), aI (zI ((bg s.2.1.2.2.2 (J.2.1 * 3 + lt) + j : Nat) : Int)), aU, aU] [] h = Rk B_Mt_spreadOther L_Mt_spreadOther (Cc (d + 2)) 8 [aR (some 83), aU, aI (zI x), aI (zI (eX c)), aI (zI ((bg s.2.1.2.2.2 (J.2.1 * 3 + lt) + (bk s.2.1.2.2.2 (J.2.1 * 3 + lt)).length : Nat) : Int)), aI (zI ((bg s.2.1.2.2.2 (J.2.1 * 3 + lt) + j : Nat) : Int)), aU, aU] [] h1 → fr mtF h h1 → AdS M N A M1 N1 → MtQ s h1 a b M1 Nw N1 → MJ h1 J → (∀ J', A J' ↔ ∃ e, stp m J.2 x = some e ∧ J' = kj (c, e)) → (∀ e, stp m J.2 x = some e → ¬ jtk s.1 s.2.1 (c, e)) →
        ∃ h' v, Rk B_Mt_spreadOther L_Mt_spreadOther (Cc (d + 2)) 1 [aR (some 83), aU, aI (zI x), aI (zI (eX c)), aI (zI ((bg s.2.1.2.2.2 (J.2.1 * 3 + lt) + (bk s.2.1.2.2.2 (J.2.1 * 3 + lt)).length : Nat) : Int)), aI (zI ((bg s.2.1.2.2.2 (J.2.1 * 3 + lt) + j : Nat) : Int)), aU, aU] [] h = some (some (aI (zI v)), h') ∧ fr mtF h h' ∧ XI s h' ∧ ((v = 1 ∧ ∃ e, stq s.2.1 J.2 lt x e ∧ jtk s.1 s.2.1 (c, e)) ∨ (v = 0 ∧ (∀ (k i : Nat) (m : Mv) (e : Cfg), j ≤ k → (bk s.2.1.2.2.2 (J.2.1 * 3 + lt))[k]? = some i → s.2.1.2.2.2[i]? = some m → stp m J.2 x = some e → ¬ jtk s.1 s.2.1 (c, e)) ∧ ∃ M' N', AdS M N (fun J' => ∃ (k i : Nat) (m : Mv) (e : Cfg), j ≤ k ∧ (bk s.2.1.2.2.2 (J.2.1 * 3 + lt))[k]? = some i ∧ s.2.1.2.2.2[i]? = some m ∧ stp m J.2 x = some e ∧ J' = kj (c, e)) M' N' ∧ MtQ s h' a b M' Nw N' ∧ MJ h' J)) := by
      intro h1 M1 N1 A e1 f1 as1 q1 mj1 hA hno
      obtain ⟨h', v, e2, f2, px2, alt⟩ := so_lp d (a := a) (b := b) (Nw := Nw) hJ hlt hx hx2 hc n (j + 1) h1 M1 N1 (by omega) q1 mj1
      refine ⟨h', v, ?_, f1.tr f2, px2, ?_⟩
      · rw [e1, E_Mt_spreadOther_8, nadd1, lt_e]; exact e2
      · rcases alt with alt | ⟨v0, no2, M', N', as2, q2, mj2⟩
        · exact Or.inl alt
        · refine Or.inr ⟨v0, ?_, M', N', AdS_t as1 as2 (fun J' => ?_), q2, mj2⟩
          · intro k i m' e h1 h2 h3 h4
            by_cases w : k = j
            · subst w
              rw [hj] at h2
              cases h2
              rw [hm] at h3
              cases h3
              exact hno e h4
            · exact no2 k i m' e (by omega) h2 h3 h4
          · rw [hA J']
            constructor
            · rintro ⟨k, i, m', e, h1, h2, h3, h4, h5⟩
              by_cases w : k = j
              · subst w
                rw [hj] at h2
                cases h2
                rw [hm] at h3
                cases h3
                exact Or.inl ⟨e, h4, h5⟩
              · exact Or.inr ⟨k, i, m', e, by omega, h2, h3, h4, h5⟩
            · rintro (⟨e, h4, h5⟩ | ⟨k, i, m', e, h1, h2⟩)
              · exact ⟨j, _, m, e, Nat.le_refl _, hj, hm, h4, h5⟩
              · exact ⟨k, i, m', e, by omega, h2⟩
    cases st : stp m J.2 x with
    | none =>
      rw [st, if_pos (by decide)] at e0
      exact cont h M N (fun _ => False) e0 (fr.rf _ h) (AdS_0 M N (fun _ q => q)) q mj (fun J' => ⟨False.elim, (fun ⟨e, h1, _⟩ => by rw [st] at h1; cases h1)⟩) (fun e h1 => by rw [st] at h1; cases h1)
    | some e =>
      have ev := stp_v hmv c2 (by omega) st
      have hst : stq s.2.1 J.2 lt x e := ⟨_, m, hm, ((key_iff hmv.2.1 hlt).mp hk).1, ((key_iff hmv.2.1 hlt).mp hk).2, st⟩
      obtain ⟨ic, mc, c1', c2', c3', c4'⟩ := hc
      have cv := stp_v (rr.1.mi c1').1 hJ.c1 (show x < 16 by omega) c4'
      have h7 : ∀ y, y ∈ rs (c, e) → y ≤ 7 := by
        have hgc : ∀ (m' : Mv) (c1 c2 : Cfg), stp m' c1 x = some c2 → c1.2.1 ≤ 7 → c1.2.2.1 ≤ 7 → c1.2.2.2 ≤ 7 → c2.2.1 ≤ 7 ∧ c2.2.2.1 ≤ 7 ∧ c2.2.2.2 ≤ 7 := by
          intro m' c1 c2 hs g1 g2 g3
          unfold stp at hs
          split at hs
          · cases hs
            unfold goC
            refine ⟨?_, ?_, ?_⟩ <;> simp only <;> split <;> omega
          · cases hs
        obtain ⟨u1, u2, u3⟩ := hgc _ _ _ c4' (by omega) (by omega) (by omega)
        obtain ⟨u4, u5, u6⟩ := hgc _ _ _ st (by omega) (by omega) (by omega)
        intro y hy
        unfold rs at hy
        simp only [List.mem_cons, List.mem_nil_iff, or_false] at hy
        omega
      rw [st, oX_some, if_neg (by omega), E_Mt_spreadOther_3, obj_e (z83 px.1), px.r (a := 83) (j := 4) (c := 1) (by decide), obj_e rr.2.1.1, calI_e (Rd_takesAt _ rr (eX_lt cv)), eX_q cv, if01] at e0
      have go6 : ¬ jtk s.1 s.2.1 (c, e) → Rk B_Mt_spreadOther L_Mt_spreadOther (Cc (d + 2)) 1 [aR (some 83), aU, aI (zI x), aI (zI (eX c)), aI (zI ((bg s.2.1.2.2.2 (J.2.1 * 3 + lt) + (bk s.2.1.2.2.2 (J.2.1 * 3 + lt)).length : Nat) : Int)), aI (zI ((bg s.2.1.2.2.2 (J.2.1 * 3 + lt) + j : Nat) : Int)), aU, aU] [] h = Rk B_Mt_spreadOther L_Mt_spreadOther (Cc (d + 2)) 6 [aR (some 83), aU, aI (zI x), aI (zI (eX c)), aI (zI ((bg s.2.1.2.2.2 (J.2.1 * 3 + lt) + (bk s.2.1.2.2.2 (J.2.1 * 3 + lt)).length : Nat) : Int)), aI (zI ((bg s.2.1.2.2.2 (J.2.1 * 3 + lt) + j : Nat) : Int)), aI (zI (eX e)), aU] [] h → ∃ h' v, Rk B_Mt_spreadOther L_Mt_spreadOther (Cc (d + 2)) 1 [aR (some 83), aU, aI (zI x), aI (zI (eX c)), aI (zI ((bg s.2.1.2.2.2 (J.2.1 * 3 + lt) + (bk s.2.1.2.2.2 (J.2.1 * 3 + lt)).length : Nat) : Int)), aI (zI ((bg s.2.1.2.2.2 (J.2.1 * 3 + lt) + j : Nat) : Int)), aU, aU] [] h = some (some (aI (zI v)), h') ∧ fr mtF h h' ∧ XI s h' ∧ ((v = 1 ∧ ∃ e, stq s.2.1 J.2 lt x e ∧ jtk s.1 s.2.1 (c, e)) ∨ (v = 0 ∧ (∀ (k i : Nat) (m : Mv) (e : Cfg), j ≤ k → (bk s.2.1.2.2.2 (J.2.1 * 3 + lt))[k]? = some i → s.2.1.2.2.2[i]? = some m → stp m J.2 x = some e → ¬ jtk s.1 s.2.1 (c, e)) ∧ ∃ M' N', AdS M N (fun J' => ∃ (k i : Nat) (m : Mv) (e : Cfg), j ≤ k ∧ (bk s.2.1.2.2.2 (J.2.1 * 3 + lt))[k]? = some i ∧ s.2.1.2.2.2[i]? = some m ∧ stp m J.2 x = some e ∧ J' = kj (c, e)) M' N' ∧ MtQ s h' a b M' Nw N' ∧ MJ h' J)) := by
        intro hno e6
        have hkv : JV (kj (c, e)) := kj_v cv.1 ev.1
        obtain ⟨h1, M1, N1, f1, g1, as1, q1, e7⟩ := MQ_add (d + 1) q hkv (x2 := zI x) (x3 := zI (eX c)) (x4 := zI ((bg s.2.1.2.2.2 (J.2.1 * 3 + lt) + (bk s.2.1.2.2.2 (J.2.1 * 3 + lt)).length : Nat) : Int)) (x5 := zI ((bg s.2.1.2.2.2 (J.2.1 * 3 + lt) + j : Nat) : Int))
        refine cont h1 M1 N1 _ ?_ f1 as1 q1 ⟨by rw [g1]; exact mj.1, by rw [g1]; exact mj.2.1, by rw [g1]; exact mj.2.2⟩ (fun J' => ⟨fun w => ⟨e, st, w⟩, (fun ⟨e', w1, w2⟩ => by rw [st] at w1; cases w1; exact w2)⟩) (fun e' w => by rw [st] at w; cases w; exact hno)
        rw [e6, E_Mt_spreadOther_6, obj_e (z83 px.1), calI_e (Mt_placeOf _ px (J := (c, e)) cv.1 ev.1 h7), lt_e, obj_e (z83 px.1)]
        exact e7
      cases t1 : tks s.1 c.1 with
      | false =>
        rw [t1, if_neg (show ¬ (false = true) by simp)] at e0
        exact go6 (fun w => by have := w.1; rw [show tks s.1 (c, e).1.1 = tks s.1 c.1 from rfl, t1] at this; cases this) e0
      | true =>
        rw [t1, if_pos rfl, E_Mt_spreadOther_4, obj_e (z83 px.1), px.r (a := 83) (j := 5) (c := 5) (by decide), obj_e ro.2.1.1, calI_e (Rd_takesAt _ ro (eX_lt ev)), eX_q ev, if01] at e0
        cases t2 : tks s.2.1 e.1 with
        | false =>
          rw [t2, if_neg (show ¬ (false = true) by simp)] at e0
          exact go6 (fun w => by have := w.2; rw [show tks s.2.1 (c, e).2.1 = tks s.2.1 e.1 from rfl, t2] at this; cases this) e0
        | true =>
          rw [t2, if_pos rfl, E_Mt_spreadOther_5, fr1] at e0
          exact ⟨h, 1, e0, fr.rf _ h, px, Or.inl ⟨rfl, e, hst, t1, t2⟩⟩
