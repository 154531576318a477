/-! X: Meeting: places -/
theorem RT_W : ∀ m, m < 6 → ∀ k, k < 7 → k + m ≤ 6 → RT.getD (m * 7 + k) 0 = Wt m k := by decide +kernel
theorem Wt_b : ∀ m, m < 6 → ∀ k, k < 7 → k + m ≤ 6 → Wt m k < 1000 := by decide +kernel
theorem Mt_rowsBehind (d : Nat) {s : Stt} {h : AH} (p : XI s h) {i k : Nat} (hi : i < 6) (hk : k ≤ i) : Cc (d + 1) k_Mt_rowsBehind [aR (some 83), aI (zI i), aI (zI k)] h = some (some (aI (zI (Wt (5 - i) k))), h) := by
  have q := p.2.2.2.2.2.2.2.2.2.2.2.2.2.2.2.2.1
  rw [C_Mt_rowsBehind, E_Mt_rowsBehind_0, obj_e (z83 p.1), p.r (a := 83) (j := 3) (c := 93) (by decide), show zI 5 = zI ((5 : Nat) : Int) from rfl, nsub (by omega), show zI 7 = zI ((7 : Nat) : Int) from rfl, nmul, nadd]
  simp (disch := omega) only [idx_n (z93 p.1)]
  rw [q _ (by omega), RT_W _ (by omega) _ (by omega) (by omega)]
def hp : List Nat → Nat
  | [] => 0
  | x :: l => x + 16 * hp l
theorem hp_c (x : Nat) (l : List Nat) : hp (x :: l) = x + 16 * hp l := rfl
def fl (seen : List Nat) (x : Nat) : Nat := if x ∈ seen then seen.idxOf x + 1 else 0
def TM (told : Nat) (seen : List Nat) : Prop := told < 2147483648 ∧ 0 ∉ seen ∧ ∀ x, x ≤ 7 → told / 2 ^ (4 * x) % 16 = fl seen x
theorem or4 {t v k : Nat} (h0 : t / 2 ^ k % 16 = 0) (hv : v < 16) : t ||| v * 2 ^ k = t + v * 2 ^ k := by
  obtain ⟨b, hb⟩ : ∃ b, t / 2 ^ k = 2 ^ 4 * b := ⟨t / 2 ^ k / 16, by omega⟩
  have hlo : t % 2 ^ k < 2 ^ k := Nat.mod_lt _ (Nat.two_pow_pos k)
  have ht : t = 2 ^ k * (2 ^ 4 * b) + t % 2 ^ k := by rw [← hb]; exact (Nat.div_add_mod t (2 ^ k)).symm
  have e1 := Nat.two_pow_add_eq_or_of_lt hlo (2 ^ 4 * b)
  have e2 := Nat.two_pow_add_eq_or_of_lt hlo (2 ^ 4 * b + v)
  have e3 := Nat.two_pow_add_eq_or_of_lt (show v < 2 ^ 4 from hv) b
  have e4 : 2 ^ k * (2 ^ 4 * b ||| v) = 2 ^ k * (2 ^ 4 * b) ||| 2 ^ k * v := by
    rw [Nat.mul_comm (2 ^ k), Nat.mul_comm (2 ^ k), Nat.mul_comm (2 ^ k), ← Nat.shiftLeft_eq, ← Nat.shiftLeft_eq, ← Nat.shiftLeft_eq, Nat.shiftLeft_or_distrib]
  have e5 : 2 ^ k * (2 ^ 4 * b + v) = 2 ^ k * (2 ^ 4 * b) ||| 2 ^ k * v := by rw [e3, e4]
  rw [Nat.mul_comm v (2 ^ k)]
  generalize t % 2 ^ k = lo at *
  rw [ht, e1, Nat.or_assoc, Nat.or_comm lo, ← Nat.or_assoc, ← e5, ← e2, ← e1, Nat.mul_add]
  omega
theorem nib1 {t v x : Nat} (h0 : t / 2 ^ (4 * x) % 16 = 0) (ht : t < 2147483648) (hv : v < 8) (hx : x ≤ 7) : (t + v * 2 ^ (4 * x) < 2147483648) ∧ (t + v * 2 ^ (4 * x)) / 2 ^ (4 * x) % 16 = v := by
  have cx : x = 0 ∨ x = 1 ∨ x = 2 ∨ x = 3 ∨ x = 4 ∨ x = 5 ∨ x = 6 ∨ x = 7 := by omega
  rcases cx with rfl | rfl | rfl | rfl | rfl | rfl | rfl | rfl <;> simp only [Nat.reduceMul, Nat.reducePow] at * <;> constructor <;> omega
theorem nib2 {t v x y : Nat} (h0 : t / 2 ^ (4 * x) % 16 = 0) (hv : v < 8) (hx : x ≤ 7) (hy : y ≤ 7) (hne : y ≠ x) : (t + v * 2 ^ (4 * x)) / 2 ^ (4 * y) % 16 = t / 2 ^ (4 * y) % 16 := by
  have cx : x = 0 ∨ x = 1 ∨ x = 2 ∨ x = 3 ∨ x = 4 ∨ x = 5 ∨ x = 6 ∨ x = 7 := by omega
  have cy : y = 0 ∨ y = 1 ∨ y = 2 ∨ y = 3 ∨ y = 4 ∨ y = 5 ∨ y = 6 ∨ y = 7 := by omega
  rcases cx with rfl | rfl | rfl | rfl | rfl | rfl | rfl | rfl <;> rcases cy with rfl | rfl | rfl | rfl | rfl | rfl | rfl | rfl <;> first | (exact absurd rfl hne) | (simp only [Nat.reduceMul, Nat.reducePow] at *; omega)
theorem TM_s {told : Nat} {seen : List Nat} (h : TM told seen) {x : Nat} (hx0 : x ≠ 0) (hx : x ≤ 7) (hn : x ∉ seen) (hl : seen.length ≤ 5) : told ||| (seen.length + 1) * 2 ^ (4 * x) = told + (seen.length + 1) * 2 ^ (4 * x) ∧ TM (told + (seen.length + 1) * 2 ^ (4 * x)) (seen ++ [x]) := by
  obtain ⟨h1, h2, h3⟩ := h
  have h0 : told / 2 ^ (4 * x) % 16 = 0 := by rw [h3 x hx]; unfold fl; rw [if_neg hn]
  refine ⟨or4 h0 (by omega), (nib1 h0 h1 (by omega) hx).1, ?_, fun y hy => ?_⟩
  · rw [List.mem_append, List.mem_singleton]
    rintro (q | q)
    · exact h2 q
    · exact hx0 q.symm
  · by_cases z : y = x
    · subst z
      rw [(nib1 h0 h1 (by omega) hx).2]
      unfold fl
      rw [if_pos (List.mem_append_right _ (List.mem_singleton.mpr rfl)), List.idxOf_append, if_neg hn]
      simp
    · rw [nib2 h0 (by omega) hx hy z, h3 y hy]
      unfold fl
      have : y ∈ seen ++ [x] ↔ y ∈ seen := by rw [List.mem_append, List.mem_singleton]; exact ⟨fun q => q.elim id (fun q => absurd q z), Or.inl⟩
      by_cases w : y ∈ seen
      · rw [if_pos w, if_pos (this.mpr w), List.idxOf_append, if_pos w]
      · rw [if_neg w, if_neg (fun q => w (this.mp q))]
theorem lb_fl {seen : List Nat} {x : Nat} (h0 : 0 ∉ seen) : lb seen x = if x = 0 then 0 else if x ∈ seen then fl seen x else seen.length + 1 := by
  unfold lb fl
  by_cases z : x = 0
  · rw [if_pos z, if_pos z]
  · rw [if_neg z, if_neg z]
    by_cases y : x ∈ seen
    · rw [if_pos y, if_pos y]
    · rw [if_neg y, List.idxOf_eq_length y]
theorem po_lp (d : Nat) {s : Stt} {h : AH} (p : XI s h) {x1 x2 : Int32} {held : Nat} (hh : held < 16777216) : ∀ (l : List Nat) (i told num : Nat) (seen : List Nat), i + l.length = 6 → held / 2 ^ (4 * i) = hp l → (∀ x, x ∈ l → x ≤ 7) → TM told seen → seen.length ≤ i → num ≤ 7000 * i →
    Rk B_Mt_placeOf L_Mt_placeOf (Cc (d + 1)) 1 [aR (some 83), aI x1, aI x2, aI (zI held), aI (zI told), aI (zI seen.length), aI (zI num), aI (zI i), aU, aU] [] h = Rk B_Mt_placeOf L_Mt_placeOf (Cc (d + 1)) 6 [aU, aI x1, aI x2, aU, aU, aU, aI (zI ((num + nm seen.length (ls seen l) : Nat) : Int)), aU, aU, aU] [] h
  | [], i, told, num, seen, hi, hd, hl, tm, hs, hn => by
    rw [List.length_nil] at hi
    rw [E_Mt_placeOf_1, show zI 6 = zI ((6 : Nat) : Int) from rfl]
    simp (disch := omega) only [nlt]
    rw [if_neg (by omega)]
    rfl
  | x :: l, i, told, num, seen, hi, hd, hl, tm, hs, hn => by
    rw [List.length_cons] at hi
    have hx7 := hl x List.mem_cons_self
    have hdx : held / 2 ^ (4 * i) % 16 = x := by rw [hd, hp_c]; omega
    have hdl : held / 2 ^ (4 * (i + 1)) = hp l := by
      rw [show 4 * (i + 1) = 4 * i + 4 by omega, Nat.pow_add, ← Nat.div_div_eq_div_mul, hd, hp_c]
      omega
    have hle : held / 2 ^ (4 * i) ≤ held := Nat.div_le_self _ _
    have hf := tm.2.2 x hx7
    have hflb : fl seen x ≤ 6 := by
      unfold fl
      split
      · rename_i q; have := List.idxOf_lt_length_iff.mpr q; omega
      · omega
    have hle2 : told / 2 ^ (4 * x) ≤ told := Nat.div_le_self _ _
    have ht := tm.1
    have hlad := lb_ad seen x
    -- behind the label
    have fin : ∀ told' : Nat, TM told' (ad seen x) → Rk B_Mt_placeOf L_Mt_placeOf (Cc (d + 1)) 5 [aR (some 83), aI x1, aI x2, aI (zI held), aI (zI told'), aI (zI seen.length), aI (zI num), aI (zI i), aU, aI (zI (lb seen x))] [] h = Rk B_Mt_placeOf L_Mt_placeOf (Cc (d + 1)) 6 [aU, aI x1, aI x2, aU, aU, aU, aI (zI ((num + nm seen.length (ls seen (x :: l)) : Nat) : Int)), aU, aU, aU] [] h := by
      intro told' tm'
      have hW := Wt_b (5 - i) (by omega) seen.length (by omega) (by omega)
      have hm : lb seen x * Wt (5 - i) seen.length ≤ 7 * 1000 := Nat.mul_le_mul (by omega) (by omega)
      rw [E_Mt_placeOf_5, obj_e (z83 p.1), calI_e (Mt_rowsBehind _ p (by omega) hs), nmul, nadd, lt_e, calI_e (C_max _ (by omega) (by omega) _), lt_e, nadd1, lt_e, hlad.2]
      have ih := po_lp d p (x1 := x1) (x2 := x2) hh l (i + 1) told' (num + lb seen x * Wt (5 - i) seen.length) (ad seen x) (by omega) hdl (fun y hy => hl y (List.mem_cons_of_mem _ hy)) tm' (by rw [← hlad.2]; omega) (by omega)
      rw [ih]
      have : num + lb seen x * Wt (5 - i) seen.length + nm (ad seen x).length (ls (ad seen x) l) = num + nm seen.length (ls seen (x :: l)) := by
        show _ = num + (lb seen x * Wt (ls (ad seen x) l).length seen.length + nm (max seen.length (lb seen x)) (ls (ad seen x) l))
        rw [ls_len, hlad.2, show 5 - i = l.length by omega]
        omega
      rw [this]
    have h0s := tm.2.1
    have hlb := lb_fl (x := x) h0s
    rw [E_Mt_placeOf_1, show zI 6 = zI ((6 : Nat) : Int) from rfl]
    simp (disch := omega) only [nlt]
    rw [if_pos (by omega), E_Mt_placeOf_2, zc4, nmul, nshr (by omega) (by omega), and15 (by omega), hdx, shl2, lt_e, nshr (by omega) (by omega), and15 (by omega), hf, lt_e]
    simp (disch := omega) only [nle0]
    by_cases z : x = 0
    · rw [if_pos z] at hlb
      have hfx : fl seen x = 0 := by unfold fl; rw [if_neg (by rw [z]; exact h0s)]
      have had : ad seen x = seen := by unfold ad; rw [if_pos (Or.inl z)]
      rw [if_pos (by omega), hfx, ← hlb]
      exact fin told (by rw [had]; exact tm)
    · rw [if_neg z] at hlb
      rw [if_neg (by omega), E_Mt_placeOf_3]
      simp (disch := omega) only [neq0]
      by_cases y : x ∈ seen
      · rw [if_pos y] at hlb
        have had : ad seen x = seen := by unfold ad; rw [if_pos (Or.inr y)]
        have hfx : fl seen x ≠ 0 := by unfold fl; rw [if_pos y]; omega
        rw [if_neg hfx, ← hlb]
        exact fin told (by rw [had]; exact tm)
      · rw [if_neg y] at hlb
        have had : ad seen x = seen ++ [x] := by unfold ad; rw [if_neg (by rintro (q | q); exact z q; exact y q)]
        have hfx : fl seen x = 0 := by unfold fl; rw [if_neg y]
        obtain ⟨o1, o2⟩ := TM_s tm z hx7 y (by omega)
        have o3 := o2.1
        rw [if_pos hfx, E_Mt_placeOf_4, nadd1, lt_e, nshl (by omega), zI_or (by omega) (by omega), o1, lt_e]
        have q := fin (told + (seen.length + 1) * 2 ^ (4 * x)) (by rw [had]; exact o2)
        rw [hlb] at q
        exact q
theorem hp_rs (J : Jc) (h : ∀ x, x ∈ rs J → x ≤ 7) : hp (rs J) < 16777216 ∧ hp (rs J) % 4096 = J.1.2.1 + 16 * J.1.2.2.1 + 256 * J.1.2.2.2 ∧ hp (rs J) / 4096 = J.2.2.1 + 16 * J.2.2.2.1 + 256 * J.2.2.2.2 := by
  have a1 := h J.1.2.1 (by unfold rs; simp)
  have a2 := h J.1.2.2.1 (by unfold rs; simp)
  have a3 := h J.1.2.2.2 (by unfold rs; simp)
  have a4 := h J.2.2.1 (by unfold rs; simp)
  have a5 := h J.2.2.2.1 (by unfold rs; simp)
  have a6 := h J.2.2.2.2 (by unfold rs; simp)
  unfold rs hp hp hp hp hp hp hp
  omega
theorem Mt_placeOf (d : Nat) {s : Stt} {h : AH} (p : XI s h) {J : Jc} (h1 : J.1.1 < 6) (h2 : J.2.1 < 6) (hx : ∀ x, x ∈ rs J → x ≤ 7) : Cc (d + 2) k_Mt_placeOf [aR (some 83), aI (zI (eX J.1)), aI (zI (eX J.2))] h = some (some (aI (zI (pl (kj J)))), h) := by
  obtain ⟨b1, b2, b3⟩ := hp_rs J hx
  have c1 : CV J.1 := by
    have a1 := hx J.1.2.1 (by unfold rs; simp)
    have a2 := hx J.1.2.2.1 (by unfold rs; simp)
    have a3 := hx J.1.2.2.2 (by unfold rs; simp)
    unfold CV; omega
  have c2 : CV J.2 := by
    have a4 := hx J.2.2.1 (by unfold rs; simp)
    have a5 := hx J.2.2.2.1 (by unfold rs; simp)
    have a6 := hx J.2.2.2.2 (by unfold rs; simp)
    unfold CV; omega
  have l1 := eX_lt c1
  have l2 := eX_lt c2
  have q1 := eX_q c1
  have q2 := eX_q c2
  have e1 : eX J.1 % 4096 = J.1.2.1 + 16 * J.1.2.2.1 + 256 * J.1.2.2.2 := by
    have := eX_a c1
    have := eX_b c1
    have := eX_c c1
    omega
  have e2 : eX J.2 % 4096 = J.2.2.1 + 16 * J.2.2.2.1 + 256 * J.2.2.2.2 := by
    have := eX_a c2
    have := eX_b c2
    have := eX_c c2
    omega
  have he : eX J.1 % 4096 ||| eX J.2 % 4096 * 2 ^ 12 = hp (rs J) := by
    rw [orp (by omega)]
    omega
  have hkv := kj_v h1 h2
  have h877 := nm_877 hkv
  rw [kj_rs] at h877
  rw [C_Mt_placeOf, E_Mt_placeOf_0, and4095 (by omega), and4095 (by omega), show zI 12 = zI ((12 : Nat) : Int) from rfl, nshl (by omega), zI_or (by omega) (by omega), he, lt_e, lt_e, lt_e, lt_e, lt_e]
  have := po_lp d p (x1 := zI (eX J.1)) (x2 := zI (eX J.2)) b1 (rs J) 0 0 0 [] (by rw [rs_len]) (by rw [Nat.mul_zero, Nat.pow_zero, Nat.div_one]) hx ⟨by omega, (by simp), fun x hx => by unfold fl; simp⟩ (Nat.le_refl _) (Nat.zero_le _)
  refine Eq.trans this ?_
  rw [E_Mt_placeOf_6]
  simp (disch := omega) only [shr12, q1, q2]
  rw [show zI 6 = zI ((6 : Nat) : Int) from rfl, show zI 877 = zI ((877 : Nat) : Int) from rfl, nmul, nadd, nmul, nadd, Nat.zero_add]
  unfold pl
  rw [kj_rs]
  rfl
