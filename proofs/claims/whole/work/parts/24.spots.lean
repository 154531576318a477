/-! Spots: a set of small numbers, its words' bits, its groups' bits, its size -/
theorem idx_n {h : AH} {kd a n i : Nat} (e : h.1[a]? = some (kd, n)) (h1 : i < n) (h2 : i < 2147483648) (f : Nat → Nat → Option AR) : idx h kd (some a) (zI i) f = f a i := idx_z e (by omega) (by omega) (by omega) f
theorem shr6 {n : Nat} (h : n < 2147483648) : zI n >>> (zI 6 &&& 31) = zI ((n / 64 : Nat) : Int) := zI_shr (k := 6) h (by decide)
theorem shl6 (n : Nat) : zI n <<< (zI 6 &&& 31) = zI ((64 * n : Nat) : Int) := by rw [Nat.mul_comm]; exact zI_shl (n := n) (k := 6) (by decide)
theorem nadd (a b : Nat) : zI a + zI b = zI ((a + b : Nat) : Int) := zI_add a b
theorem nadd1 (a : Nat) : zI a + zI 1 = zI ((a + 1 : Nat) : Int) := zI_add a 1
theorem nsub1 {a : Nat} (h : 0 < a) : zI a - zI 1 = zI ((a - 1 : Nat) : Int) := by rw [zI_sub]; congr 1; omega
theorem ndec {a : Nat} (h : 0 < a) : zI a + zI (-1) = zI ((a - 1 : Nat) : Int) := by rw [zI_add]; congr 1; omega
theorem nlt {a b : Nat} (h1 : a < 2147483648) (h2 : b < 2147483648) : (zI a < zI b) = (a < b) := by rw [ylt (by omega) (by omega) (by omega) (by omega)]; exact propext (by omega)
theorem nle {a b : Nat} (h1 : a < 2147483648) (h2 : b < 2147483648) : (zI a ≤ zI b) = (a ≤ b) := by rw [yle (by omega) (by omega) (by omega) (by omega)]; exact propext (by omega)
theorem nlt0 {a : Nat} (h1 : a < 2147483648) : (zI a < 0) = False := by rw [ylt0 (by omega) (by omega)]; exact propext ⟨by omega, False.elim⟩
theorem nle0 {a : Nat} (h1 : a < 2147483648) : (zI a ≤ 0) = (a = 0) := by rw [yle0 (by omega) (by omega)]; exact propext (by omega)
theorem lgz (x y : Int64) : (lg_cmp x y = 0) = (x = y) := propext (lg_cmp_eq x y)
theorem cw_low : ∀ i, i < 64 → cw (zL ((2 ^ i - 1 : Nat) : Int)) = i := by decide +kernel
theorem Sp_lowest (d : Nat) {x : Int64} {i : Nat} (hi : i < 64) (h1 : bt x i = true) (h2 : ∀ j, j < i → bt x j = false) (h : AH) : Cc (d + 2) k_Sp_lowest [aL x] h = some (some (aI (zI i)), h) := by
  rw [C_Sp_lowest, E_Sp_lowest_0, bt_low hi h1 h2, calI_e (J_bitL d _ h), cw_low i hi]
theorem bt_least {x : Int64} (hx : x ≠ zL 0) : ∃ i, i < 64 ∧ bt x i = true ∧ ∀ j, j < i → bt x j = false := cn_pos (n := 64) fun e => hx (cw_0 e)
/-- what never changes of a Spots at a -/
def SPs (h : AH) (a lim : Nat) : Prop := h.1[a]? = some (4, 7) ∧ h.1[a + 1]? = some (1, (lim + 63) / 64) ∧ h.1[a + 2]? = some (1, ((lim + 63) / 64 + 63) / 64) ∧ hR h a 1 = some (a + 1) ∧ hR h a 2 = some (a + 2) ∧ hI h a 0 = zI lim ∧ 0 < lim ∧ lim ≤ 32768
/-- the bits -/
def SPb (h : AH) (a lim : Nat) (S : Nat → Bool) : Prop := (∀ s, lim ≤ s → S s = false) ∧ (∀ w b, b < 64 → w < (lim + 63) / 64 → bt (hL h (a + 1) w) b = S (64 * w + b)) ∧ (∀ g b, b < 64 → g < ((lim + 63) / 64 + 63) / 64 → (bt (hL h (a + 2) g) b = true ↔ ∃ c, c < 64 ∧ S (64 * (64 * g + b) + c) = true))
def SP (h : AH) (a lim : Nat) (S : Nat → Bool) : Prop := SPs h a lim ∧ SPb h a lim S ∧ hI h a 3 = zI (cn S lim)
def spF (a b : Nat) : Prop := a ≤ b ∧ b ≤ a + 2
theorem cn_le (f : Nat → Bool) : ∀ n, cn f n ≤ n
  | 0 => Nat.le_refl 0
  | n + 1 => by have := cn_le f n; have := Bool.toNat_le (f n); unfold cn; omega
theorem aln_e {h : AH} {a n : Nat} (e : h.1[a]? = some (1, n)) : aln h a = some n := by unfold aln; rw [e]; rfl
theorem aln_0 {h : AH} {a n : Nat} (e : h.1[a]? = some (0, n)) : aln h a = some n := by unfold aln; rw [e]; rfl
theorem Sp_size (d : Nat) {h : AH} {a lim : Nat} {S : Nat → Bool} (p : SP h a lim S) : Cc (d + 1) k_Sp_size [aR (some a)] h = some (some (aI (zI (cn S lim))), h) := by
  rw [C_Sp_size, E_Sp_size_0, obj_e p.1.1, p.2.2]
theorem Sp_has (d : Nat) {h : AH} {a lim : Nat} {S : Nat → Bool} (p : SP h a lim S) {s : Nat} (hs : s < 2147483648) : Cc (d + 1) k_Sp_has [aR (some a), aI (zI s)] h = some (some (aI (zI (if S s then 1 else 0))), h) := by
  obtain ⟨⟨s0, s1, s2, r1, r2, l0, l1, l2⟩, ⟨b0, b1, b2⟩, sz⟩ := p
  rw [C_Sp_has, E_Sp_has_0]
  simp (disch := omega) only [ylt0]
  rw [if_neg (by omega), E_Sp_has_1, obj_e s0, l0]
  simp (disch := omega) only [ylt]
  by_cases q : s < lim
  · rw [if_pos (by omega), E_Sp_has_2, obj_e s0, r1]
    simp (disch := omega) only [yshr, idx_z s1, show (6 : Int).toNat = 6 from rfl]
    have e := b1 (s / 64) (s % 64) (by omega) (by omega)
    rw [show 64 * (s / 64) + s % 64 = s by omega] at e
    have k : ((s : Int) / 2 ^ 6).toNat = s / 64 := by omega
    rw [k]
    simp only [bt_has hs, e]
    cases hq : S s
    · simp [E_Sp_has_4, E_Sp_has_5, zI_0, zI_1]
    · simp [E_Sp_has_3, E_Sp_has_5, zI_0, zI_1]
  · rw [if_neg (by omega), b0 s (by omega)]
    simp [E_Sp_has_4, E_Sp_has_5, zI_0, zI_1]
theorem cn_set {f : Nat → Bool} {i : Nat} (hf : f i = false) : ∀ {n : Nat}, i < n → cn (fun j => f j || j == i) n = cn f n + 1
  | 0, h => absurd h (Nat.not_lt_zero _)
  | n + 1, h => by
    unfold cn
    by_cases q : i = n
    · subst q
      rw [cn_congr (g := f) (n := i) fun j hj => by simp [show j ≠ i by omega], hf]
      simp
    · rw [cn_set hf (by omega)]
      simp only [show (n == i) = false from by simp; omega, Bool.or_false]
      omega
theorem Sp_add (d : Nat) {h : AH} {a lim : Nat} {S : Nat → Bool} (p : SP h a lim S) {s : Nat} (hs : s < lim) : ∃ h', Cc (d + 1) k_Sp_add [aR (some a), aI (zI s)] h = some (some (aI (zI (if S s then 0 else 1))), h') ∧ fr (spF a) h h' ∧ SP h' a lim (fun t => S t || t == s) := by
  obtain ⟨⟨s0, s1, s2, r1, r2, l0, l1, l2⟩, ⟨b0, b1, b2⟩, sz⟩ := p
  have e := b1 (s / 64) (s % 64) (by omega) (by omega)
  rw [show 64 * (s / 64) + s % 64 = s by omega] at e
  have hs2 : s < 2147483648 := by omega
  rw [C_Sp_add, E_Sp_add_0]
  simp (disch := omega) only [ylt0]
  rw [if_neg (by omega), E_Sp_add_1, obj_e s0, l0]
  simp (disch := omega) only [ylt]
  rw [if_pos (by omega), E_Sp_add_3]
  simp (disch := omega) only [lt_e, shr6, obj_sL, idx_sL, obj_e s0, r1, hR_sL, idx_n s1, hL_hit, lgz]
  have c1 : (hL h (a + 1) (s / 64) ||| zL 1 <<< ((zI s).toInt64 &&& 63) = hL h (a + 1) (s / 64)) = (S s = true) := by
    apply propext
    constructor
    · intro q
      have := congrArg (fun x => bt x (s % 64)) q
      simp only [bt_or, bt_one hs2, e, decide_true, Bool.or_true] at this
      exact this.symm
    · intro q
      apply bt_ext
      intro i hi
      rw [bt_or, bt_one hs2]
      by_cases z : i = s % 64
      · subst z; rw [e, q]; rfl
      · simp [z]
  simp only [c1]
  have wb : ∀ w b, b < 64 → w < (lim + 63) / 64 → bt (hL (sL h (a + 1) (s / 64) (hL h (a + 1) (s / 64) ||| zL 1 <<< ((zI s).toInt64 &&& 63))) (a + 1) w) b = (S (64 * w + b) || (64 * w + b) == s) := by
    intro w b hb hw
    by_cases z : w = s / 64
    · subst z
      rw [hL_hit, bt_or, bt_one hs2, b1 _ _ hb hw]
      congr 1
      by_cases z : b = s % 64
      · subst z; simp; omega
      · simp [z]; omega
    · rw [hL_off (Or.inr z), b1 _ _ hb hw]
      have : ¬ 64 * w + b = s := by omega
      simp [this]
  by_cases q : S s = true
  · rw [if_pos q, E_Sp_add_4]
    refine ⟨_, by rw [if_pos (Or.inl zI_0.symm), if_pos q], fr_sL h ⟨by omega, by omega⟩ _ _, ⟨s0, s1, s2, r1, r2, l0, l1, l2⟩, ⟨?_, wb, ?_⟩, ?_⟩
    · intro t ht; simp [b0 t ht]; omega
    · intro g b hb hg
      rw [hL_off (Or.inl (by omega)), b2 g b hb hg]
      constructor
      · rintro ⟨c, hc, e⟩; exact ⟨c, hc, by simp [e]⟩
      · rintro ⟨c, hc, e⟩
        refine ⟨c, hc, ?_⟩
        by_cases z : 64 * (64 * g + b) + c = s
        · rw [z]; exact q
        · simpa [z] using e
    · show hI h a 3 = _
      rw [sz, cn_congr]
      intro i hi
      by_cases z : i = s
      · subst z; rw [q]; rfl
      · simp [z]
  · have q' : S s = false := by simpa using q
    rw [if_neg q, E_Sp_add_5]
    simp (disch := omega) only [lt_e, mb_some, shr6, obj_sL, idx_sL, obj_e s0, r2, hR_sL, idx_n s2, hI_sL, sz, nadd1, hL_off]
    refine ⟨_, by rw [if_pos (Or.inr zI_1.symm), if_neg q], ((fr_sL h (by constructor <;> omega) _ _).tr (fr_sL _ (by constructor <;> omega) _ _)).tr (fr_sI _ (by constructor <;> omega) _ _), ⟨s0, s1, s2, r1, r2, ?_, l1, l2⟩, ⟨?_, ?_, ?_⟩, ?_⟩
    · rw [hI_off (Or.inr (by omega))]; exact l0
    · intro t ht; simp [b0 t ht]; omega
    · intro w b hb hw
      rw [hL_sI, hL_off (Or.inl (by omega))]
      exact wb w b hb hw
    · intro g b hb hg
      rw [hL_sI]
      have hz : s / 64 < 2147483648 := by omega
      by_cases z : g = s / 64 / 64
      · subst z
        rw [hL_hit, bt_or, bt_one hz, Bool.or_eq_true, b2 _ _ hb hg, decide_eq_true_eq]
        constructor
        · rintro (⟨c, hc, e⟩ | e)
          · exact ⟨c, hc, by simp [e]⟩
          · refine ⟨s % 64, by omega, ?_⟩
            have : 64 * (64 * (s / 64 / 64) + b) + s % 64 = s := by omega
            simp [this]
        · rintro ⟨c, hc, e⟩
          by_cases z : 64 * (64 * (s / 64 / 64) + b) + c = s
          · right; omega
          · left; exact ⟨c, hc, by simpa [z] using e⟩
      · rw [hL_off (Or.inr z), hL_off (Or.inl (by omega)), b2 g b hb hg]
        constructor
        · rintro ⟨c, hc, e⟩; exact ⟨c, hc, by simp [e]⟩
        · rintro ⟨c, hc, e⟩
          have : ¬ 64 * (64 * g + b) + c = s := by omega
          exact ⟨c, hc, by simpa [this] using e⟩
    · rw [hI_hit, cn_set q' hs]
theorem SPb.cg {h : AH} {a lim : Nat} {S T : Nat → Bool} (p : SPb h a lim S) (e : ∀ s, S s = T s) : SPb h a lim T := by
  rw [show T = S from funext fun s => (e s).symm]; exact p
theorem SP.cg {h : AH} {a lim : Nat} {S T : Nat → Bool} (p : SP h a lim S) (e : ∀ s, S s = T s) : SP h a lim T := by
  rw [show T = S from funext fun s => (e s).symm]; exact p
theorem SPs.fr {F : Nat → Prop} {h h' : AH} {a lim : Nat} (p : SPs h a lim) (f : fr F h h') (e : hI h' a 0 = hI h a 0) (e1 : hR h' a 1 = hR h a 1) (e2 : hR h' a 2 = hR h a 2) : SPs h' a lim := by
  unfold SPs at *; rw [f.1, e, e1, e2]; exact p
theorem SP.fr {F : Nat → Prop} {h h' : AH} {a lim : Nat} {S : Nat → Bool} (p : SP h a lim S) (f : fr F h h') (n : ∀ b, spF a b → ¬ F b) : SP h' a lim S := by
  have n0 := n a ⟨by omega, by omega⟩
  have n1 := n (a + 1) ⟨by omega, by omega⟩
  have n2 := n (a + 2) ⟨by omega, by omega⟩
  refine ⟨p.1.fr f (f.I n0 0) (f.R n0 1) (f.R n0 2), ⟨p.2.1.1, ?_, ?_⟩, by rw [f.I n0]; exact p.2.2⟩
  · intro w b hb hw; rw [f.L n1]; exact p.2.1.2.1 w b hb hw
  · intro w b hb hw; rw [f.L n2]; exact p.2.1.2.2 w b hb hw
/-- clear's inner loop: the words of one group -/
theorem Sp_clear_in (d : Nat) {a lim g : Nat} {S : Nat → Bool} (hg : g < ((lim + 63) / 64 + 63) / 64) : ∀ (n : Nat) (x : Int64) (h : AH), cw x = n → SPs h a lim →
    (∀ w b, b < 64 → w < (lim + 63) / 64 → bt (hL h (a + 1) w) b = (S (64 * w + b) && (w / 64 != g || bt x (w % 64)))) → (∀ i, i < 64 → bt x i = true → 64 * g + i < (lim + 63) / 64) →
    ∃ h', Rk B_Sp_clear L_Sp_clear (Cc (d + 2)) 4 [aR (some a), aI (zI g), aL x, aU, aI (zI n)] [] h = Rk B_Sp_clear L_Sp_clear (Cc (d + 2)) 6 [aR (some a), aI (zI g), aU, aU, aU] [] h' ∧ fr (fun b => b = a + 1) h h' ∧ (∀ w b, b < 64 → w < (lim + 63) / 64 → bt (hL h' (a + 1) w) b = (S (64 * w + b) && w / 64 != g))
  | 0, x, h, hc, hs, hw, hi => by
    refine ⟨h, ?_, fr.rf _ h, ?_⟩
    · rw [E_Sp_clear_4]; simp (disch := omega) only [nle0, if_true]
    · intro w b hb hw2
      rw [hw w b hb hw2, cw_0 hc, bt_0, Bool.or_false]
  | n + 1, x, h, hc, hs, hw, hi => by
    obtain ⟨s0, s1, s2, r1, r2, l0, l1, l2⟩ := id hs
    obtain ⟨i, i1, i2, i3⟩ := bt_least (x := x) (fun e => by rw [e] at hc; have : cw (zL 0) = 0 := (by decide +kernel); omega)
    have c2 := i.lt_irrefl
    have hn : n + 1 ≤ 64 := by rw [← hc]; exact cn_le _ _
    have hx : cw (x &&& (x - zL 1)) = n := by
      have e := cn_clear i2 i1
      unfold cw at hc ⊢
      rw [cn_congr fun j _ => bt_drop i1 i2 i3 j]
      omega
    have hm := hi i i1 i2
    obtain ⟨h', e, f, q⟩ := Sp_clear_in d (S := S) (a := a) hg n (x &&& (x - zL 1)) (sL h (a + 1) (64 * g + i) (zL 0)) hx hs (by
        intro w b hb hw2
        by_cases z : w = 64 * g + i
        · subst z
          rw [hL_hit, bt_0, bt_drop i1 i2 i3, show (64 * g + i) / 64 = g by omega, show (64 * g + i) % 64 = i by omega]
          simp
        · rw [hL_off (Or.inr z), hw w b hb hw2, bt_drop i1 i2 i3]
          by_cases y : w / 64 = g
          · have : (w % 64 != i) = true := bne_iff_ne.mpr (by omega)
            simp [y, this]
          · rw [show (w / 64 != g) = true from bne_iff_ne.mpr y]; rfl) (by
        intro j hj hb
        rw [bt_drop i1 i2 i3] at hb
        exact hi j hj (by simp at hb; exact hb.1))
    refine ⟨h', ?_, (fr_sL (F := fun b => b = a + 1) h rfl _ _).tr f, q⟩
    rw [E_Sp_clear_4]
    simp (disch := omega) only [nle0]
    rw [if_neg (by omega), E_Sp_clear_5, obj_e s0, calI_e (Sp_lowest d i1 i2 i3 h), r1]
    simp (disch := omega) only [shl6, nadd, idx_n s1, lt_e, ndec]
    exact e
theorem Sp_clear_lp (d : Nat) {h : AH} {a lim : Nat} {S : Nat → Bool} (hz : hI h a 3 = zI (cn S lim)) (hS : ∀ s, lim ≤ s → S s = false) : ∀ (n g : Nat) (h' : AH), g + n = ((lim + 63) / 64 + 63) / 64 → SPs h' a lim → fr (fun b => b = a + 1 ∨ b = a + 2) h h' → SPb h' a lim (fun s => S s && decide (4096 * g ≤ s)) →
    ∃ h'', Rk B_Sp_clear L_Sp_clear (Cc (d + 2)) 1 [aR (some a), aI (zI g), aU, aU, aU] [] h' = some (none, h'') ∧ fr (spF a) h h'' ∧ SP h'' a lim (fun _ => false) := by
  have fin : ∀ h', SPs h' a lim → fr (fun b => b = a + 1 ∨ b = a + 2) h h' → SPb h' a lim (fun _ => false) → ∃ h'', Rk B_Sp_clear L_Sp_clear (Cc (d + 2)) 7 [aR (some a), aU, aU, aU, aU] [] h' = some (none, h'') ∧ fr (spF a) h h'' ∧ SP h'' a lim (fun _ => false) := by
    intro h' hs hf hb
    refine ⟨sI h' a 3 (zI 0), by rw [E_Sp_clear_7, obj_e hs.1, mb_some], (hf.mo fun b hb => ?_).tr (fr_sI h' (by constructor <;> omega) 3 _), ⟨hs.1, hs.2.1, hs.2.2.1, hs.2.2.2.1, hs.2.2.2.2.1, ?_, hs.2.2.2.2.2.2⟩, hb, ?_⟩
    · constructor <;> omega
    · rw [hI_off (Or.inr (by omega))]; exact hs.2.2.2.2.2.1
    · rw [hI_hit]
      have : ∀ n, cn (fun _ => false) n = 0 := fun n => by induction n with | zero => rfl | succ n ih => unfold cn; rw [ih]; rfl
      rw [this]; rfl
  intro n
  induction n with
  | zero =>
    intro g h' hg hs hf hb
    obtain ⟨s0, s1, s2, r1, r2, l0, l1, l2⟩ := id hs
    obtain ⟨h'', e, q⟩ := fin h' hs hf (hb.cg fun s => by
      by_cases z : s < lim
      · have : ¬ 4096 * g ≤ s := by omega
        simp [this]
      · simp [hS s (by omega)])
    refine ⟨h'', ?_, q⟩
    rw [← e, E_Sp_clear_1, obj_e s0, r2, mb_some, aln_e s2, mb_some, zI_nI]
    simp (disch := omega) only [nlt]
    rw [if_neg (by omega)]
  | succ n ih =>
    intro g h' hg hs hf hb
    obtain ⟨s0, s1, s2, r1, r2, l0, l1, l2⟩ := id hs
    have hz' : hI h' a 3 = zI (cn S lim) := by rw [hf.I (by omega)]; exact hz
    have hl := cn_le S lim
    by_cases q : cn S lim = 0
    · have q2 := cn_zero q
      obtain ⟨h'', e, q3⟩ := fin h' hs hf (hb.cg fun s => by
        by_cases z : s < lim
        · simp [q2 s z]
        · simp [hS s (by omega)])
      refine ⟨h'', ?_, q3⟩
      rw [← e, E_Sp_clear_1, obj_e s0, r2, mb_some, aln_e s2, mb_some, zI_nI]
      simp (disch := omega) only [nlt]
      rw [if_pos (by omega), E_Sp_clear_2, obj_e s0, hz']
      simp (disch := omega) only [nle0]
      rw [if_pos q]
    · obtain ⟨b0, b1, b2⟩ := hb
      obtain ⟨h2, e, f2, w2⟩ := Sp_clear_in d (g := g) (a := a) (lim := lim) (S := fun s => S s && decide (4096 * g ≤ s)) (by omega) (cw (hL h' (a + 2) g)) (hL h' (a + 2) g) h' rfl hs (by
          intro w b hb hw
          rw [b1 w b hb hw]
          by_cases z : w / 64 = g
          · cases y : bt (hL h' (a + 2) g) (w % 64)
            · have := fun z => (Bool.eq_false_iff.mp y) ((b2 g (w % 64) (by omega) (by omega)).mpr z)
              have y2 : (S (64 * w + b) && decide (4096 * g ≤ 64 * w + b)) = false := by
                cases y3 : (S (64 * w + b) && decide (4096 * g ≤ 64 * w + b)) with
                | false => rfl
                | true => exact absurd ⟨b, hb, by rw [show 64 * (64 * g + w % 64) + b = 64 * w + b by omega]; exact y3⟩ this
              simp only [y2]; rfl
            · simp
          · simp [z]) (by
          intro i hi hb
          obtain ⟨c, hc, e⟩ := (b2 g i hi (by omega)).mp hb
          have : ¬ lim ≤ 64 * (64 * g + i) + c := fun z => by rw [b0 _ z] at e; cases e
          omega)
      have sf : SPs h2 a lim := hs.fr f2 (f2.I (by omega) 0) (f2.R (by omega) 1) (f2.R (by omega) 2)
      obtain ⟨t0, t1, t2, u1, u2, m0, m1, m2⟩ := id sf
      have f3 : fr (fun b => b = a + 1 ∨ b = a + 2) h (sL h2 (a + 2) g (zL 0)) := (hf.tr (f2.mo fun b hb => Or.inl hb)).tr (fr_sL h2 (Or.inr rfl) g _)
      obtain ⟨h3, e3, q3⟩ := ih (g + 1) (sL h2 (a + 2) g (zL 0)) (by omega) sf f3 ⟨(by
          intro s hs; simp [hS s hs]), (by
          intro w b hb hw
          rw [hL_off (Or.inl (by omega)), w2 w b hb hw]
          by_cases z : w / 64 = g
          · have : ¬ 4096 * (g + 1) ≤ 64 * w + b := by omega
            simp [z, this]
          · by_cases y : 4096 * g ≤ 64 * w + b
            · have : 4096 * (g + 1) ≤ 64 * w + b := by omega
              simp [z, y, this]
            · have : ¬ 4096 * (g + 1) ≤ 64 * w + b := by omega
              simp [y, this]), (by
          intro k b hb hk
          by_cases z : k = g
          · subst z
            rw [hL_hit, bt_0]
            constructor
            · intro e; cases e
            · rintro ⟨c, hc, e⟩
              have : ¬ 4096 * (k + 1) ≤ 64 * (64 * k + b) + c := by omega
              simp [this] at e
          · rw [hL_off (Or.inr z), f2.L (by omega), b2 k b hb hk]
            constructor
            · rintro ⟨c, hc, e⟩
              refine ⟨c, hc, ?_⟩
              simp only [Bool.and_eq_true, decide_eq_true_eq] at e ⊢
              exact ⟨e.1, by omega⟩
            · rintro ⟨c, hc, e⟩
              refine ⟨c, hc, ?_⟩
              simp only [Bool.and_eq_true, decide_eq_true_eq] at e ⊢
              exact ⟨e.1, by omega⟩)⟩
      refine ⟨h3, ?_, q3⟩
      rw [E_Sp_clear_1, obj_e s0, r2, mb_some, aln_e s2, mb_some, zI_nI]
      simp (disch := omega) only [nlt]
      rw [if_pos (by omega), E_Sp_clear_2, obj_e s0, hz']
      simp (disch := omega) only [nle0]
      rw [if_neg q, E_Sp_clear_3, obj_e s0, r2]
      simp (disch := omega) only [idx_n s2, lt_e]
      rw [calI_e (J_bitL _ _ h'), e, E_Sp_clear_6, obj_e t0, u2]
      simp (disch := omega) only [idx_n t2, lt_e, nadd1]
      exact e3
theorem Sp_clear (d : Nat) {h : AH} {a lim : Nat} {S : Nat → Bool} (p : SP h a lim S) : ∃ h', Cc (d + 3) k_Sp_clear [aR (some a)] h = some (none, h') ∧ fr (spF a) h h' ∧ SP h' a lim (fun _ => false) := by
  obtain ⟨h', e, q⟩ := Sp_clear_lp d p.2.2 p.2.1.1 _ 0 h (Nat.zero_add _) p.1 (fr.rf _ h) (p.2.1.cg fun s => by simp)
  exact ⟨h', by rw [C_Sp_clear, E_Sp_clear_0, lt_e]; exact e, q⟩
theorem Sp_startAt (d : Nat) {h : AH} {a lim : Nat} {S : Nat → Bool} (p : SP h a lim S) {s : Nat} (hs : s < lim) : ∃ h', Cc (d + 4) k_Sp_startAt [aR (some a), aI (zI s)] h = some (none, h') ∧ fr (spF a) h h' ∧ SP h' a lim (fun t => t == s) := by
  obtain ⟨h1, e1, f1, p1⟩ := Sp_clear d p
  obtain ⟨h2, e2, f2, p2⟩ := Sp_add (d + 2) p1 hs
  refine ⟨h2, ?_, f1.tr f2, p2.cg fun t => by simp⟩
  rw [C_Sp_startAt, E_Sp_startAt_0, obj_e p.1.1, calV_e e1, obj_e p1.1.1, calI_e e2]
/-- the set's numbers from f on, in their order -/
def els (S : Nat → Bool) (lim f : Nat) : List Nat := (List.range' f (lim - f)).filter S
def hd : List Nat → Int
  | [] => -1
  | t :: _ => t
theorem els_nil {S : Nat → Bool} {lim f : Nat} (h : ∀ t, f ≤ t → t < lim → S t = false) : els S lim f = [] := by
  unfold els
  rw [List.filter_eq_nil_iff]
  intro t ht
  rw [List.mem_range'_1] at ht
  rw [h t ht.1 (by omega)]; simp
theorem els_cons {S : Nat → Bool} {lim f t : Nat} (h1 : f ≤ t) (h2 : t < lim) (h3 : S t = true) (h4 : ∀ u, f ≤ u → u < t → S u = false) : els S lim f = t :: els S lim (t + 1) := by
  unfold els
  have e : List.range' f (lim - f) = List.range' f (t - f) ++ t :: List.range' (t + 1) (lim - (t + 1)) := by
    have := List.range'_append_1 (s := f) (m := t - f) (n := lim - t)
    rw [show t - f + (lim - t) = lim - f by omega, show f + (t - f) = t by omega] at this
    rw [← this, show lim - t = lim - (t + 1) + 1 by omega, List.range'_succ]
  have z : (List.range' f (t - f)).filter S = [] := by
    rw [List.filter_eq_nil_iff]
    intro u hu
    rw [List.mem_range'_1] at hu
    rw [h4 u hu.1 (by omega)]; simp
  rw [e, List.filter_append, z, List.nil_append, List.filter_cons_of_pos h3]
theorem els_len (S : Nat → Bool) : ∀ (k f : Nat), ((List.range' f k).filter S).length = cn (fun i => S (f + i)) k
  | 0, f => rfl
  | k + 1, f => by
    have := cn_add (fun i => S (f + i)) 1 k
    rw [Nat.add_comm 1 k] at this
    rw [this, List.range'_succ]
    have e := els_len S k (f + 1)
    rw [cn_congr (g := fun i => S (f + (1 + i))) fun i _ => by rw [Nat.add_assoc]] at e
    cases q : S f
    · rw [List.filter_cons_of_neg (by rw [q]; simp), e]; simp [cn, q]
    · rw [List.filter_cons_of_pos q, List.length_cons, e]; simp [cn, q]; omega
theorem els_cn (S : Nat → Bool) (lim : Nat) : cn S lim = (els S lim 0).length := by
  unfold els; rw [els_len]; exact cn_congr fun i _ => by rw [Nat.zero_add]
theorem els_mem {S : Nat → Bool} {lim f t : Nat} : t ∈ els S lim f ↔ f ≤ t ∧ t < lim ∧ S t = true := by
  unfold els
  rw [List.mem_filter, List.mem_range'_1]
  constructor
  · rintro ⟨h1, h2⟩; exact ⟨h1.1, by omega, h2⟩
  · rintro ⟨h1, h2, h3⟩; exact ⟨⟨h1, by omega⟩, h3⟩
theorem els_head {S : Nat → Bool} {lim f t : Nat} {l : List Nat} (e : els S lim f = t :: l) : f ≤ t ∧ t < lim ∧ S t = true ∧ l = els S lim (t + 1) := by
  have m : t ∈ els S lim f := by rw [e]; exact List.mem_cons_self
  obtain ⟨h1, h2, h3⟩ := els_mem.mp m
  refine ⟨h1, h2, h3, ?_⟩
  by_cases q : ∃ u, f ≤ u ∧ u < t ∧ S u = true
  · exfalso
    obtain ⟨u, u1, u2, u3⟩ := q
    have : ∃ v, v < t + 1 ∧ ((fun i => decide (f ≤ i) && S i) v = true) ∧ ∀ j, j < v → (fun i => decide (f ≤ i) && S i) j = false := cn_pos (n := t + 1) (fun e => by
      have := cn_zero e u (by omega)
      simp [u1, u3] at this)
    obtain ⟨v, v1, v2, v3⟩ := this
    simp only [Bool.and_eq_true, decide_eq_true_eq] at v2
    have := els_cons (S := S) (lim := lim) v2.1 (by omega) v2.2 (fun w w1 w2 => by have := v3 w w2; simpa [w1] using this)
    rw [e] at this
    injection this with e1 e2
    subst e1
    have := v3 u u2
    simp [u1, u3] at this
  · have := els_cons h1 h2 h3 (fun u u1 u2 => by
      cases z : S u with
      | false => rfl
      | true => exact absurd ⟨u, u1, u2, z⟩ q)
    rw [e] at this
    injection this
