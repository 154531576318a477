/-! kinds: configurations but for the names' names -/
def kn (c : Cfg) : Cfg :=
  (c.1, (if c.2.1 = 0 then 0 else 1), (if c.2.2.1 = 0 then 0 else if c.2.2.1 = c.2.1 then (if c.2.1 = 0 then 0 else 1) else (if c.2.1 = 0 then 0 else 1) + 1), (if c.2.2.2 = 0 then 0 else if c.2.2.2 = c.2.1 then (if c.2.1 = 0 then 0 else 1) else if c.2.2.2 = c.2.2.1 then (if c.2.2.1 = 0 then 0 else if c.2.2.1 = c.2.1 then (if c.2.1 = 0 then 0 else 1) else (if c.2.1 = 0 then 0 else 1) + 1) else max (if c.2.1 = 0 then 0 else 1) (if c.2.2.1 = 0 then 0 else if c.2.2.1 = c.2.1 then (if c.2.1 = 0 then 0 else 1) else (if c.2.1 = 0 then 0 else 1) + 1) + 1))
def sim (c e : Cfg) : Prop := c.1 = e.1 ∧ (c.2.1 = 0 ↔ e.2.1 = 0) ∧ (c.2.2.1 = 0 ↔ e.2.2.1 = 0) ∧ (c.2.2.2 = 0 ↔ e.2.2.2 = 0) ∧ (c.2.2.1 = c.2.1 ↔ e.2.2.1 = e.2.1) ∧ (c.2.2.2 = c.2.1 ↔ e.2.2.2 = e.2.1) ∧ (c.2.2.2 = c.2.2.1 ↔ e.2.2.2 = e.2.2.1)
theorem sim_kn {c e : Cfg} (h : sim c e) : kn c = kn e := by
  obtain ⟨h0, h1, h2, h3, h4, h5, h6⟩ := h
  unfold kn
  simp only [h0, h1, h2, h3, h4, h5, h6]
theorem kn_sim (c : Cfg) : sim c (kn c) := by
  obtain ⟨q, a, b, d⟩ := c
  unfold sim kn
  simp only
  by_cases h1 : a = 0 <;> by_cases h2 : b = 0 <;> by_cases h3 : d = 0 <;> by_cases h4 : b = a <;> by_cases h5 : d = a <;> by_cases h6 : d = b <;> simp only [h1, h2, h3, h4, h5, h6, if_true, if_false] <;> simp <;> omega
theorem sim_sy {c e : Cfg} (h : sim c e) : sim e c := by
  obtain ⟨h0, h1, h2, h3, h4, h5, h6⟩ := h
  exact ⟨h0.symm, h1.symm, h2.symm, h3.symm, h4.symm, h5.symm, h6.symm⟩
theorem sim_rf (c : Cfg) : sim c c := ⟨rfl, Iff.rfl, Iff.rfl, Iff.rfl, Iff.rfl, Iff.rfl, Iff.rfl⟩
theorem kn_kn (c : Cfg) : kn (kn c) = kn c := (sim_kn (kn_sim c)).symm
theorem kn_le (c : Cfg) : (kn c).2.1 ≤ 3 ∧ (kn c).2.2.1 ≤ 3 ∧ (kn c).2.2.2 ≤ 3 := by
  obtain ⟨q, a, b, d⟩ := c
  unfold kn
  simp only
  by_cases h1 : a = 0 <;> by_cases h2 : b = 0 <;> by_cases h3 : d = 0 <;> by_cases h4 : b = a <;> by_cases h5 : d = a <;> by_cases h6 : d = b <;> simp only [h1, h2, h3, h4, h5, h6, if_true, if_false] <;> omega
def top (c : Cfg) : Nat := max c.2.1 (max c.2.2.1 c.2.2.2)
/-- two names that lie alike in two configurations -/
def mat (c : Cfg) (x : Nat) (e : Cfg) (y : Nat) : Prop := (c.2.1 = x ↔ e.2.1 = y) ∧ (c.2.2.1 = x ↔ e.2.2.1 = y) ∧ (c.2.2.2 = x ↔ e.2.2.2 = y)
theorem mat_fits {m : Mv} {c e : Cfg} {x y : Nat} (h : mat c x e y) : fits m c x = fits m e y := by
  obtain ⟨h1, h2, h3⟩ := h
  unfold fits rg
  have b : ∀ {p q u v : Nat}, (p = q ↔ u = v) → (p == q) = (u == v) := by
    intro p q u v hh
    by_cases z : p = q
    · rw [beq_iff_eq.mpr z, beq_iff_eq.mpr (hh.mp z)]
    · rw [beq_eq_false_iff_ne.mpr z, beq_eq_false_iff_ne.mpr (fun w => z (hh.mpr w))]
  have nb : ∀ {p q u v : Nat}, (p = q ↔ u = v) → (p != q) = (u != v) := fun hh => by unfold bne; rw [b hh]
  rw [nb h1, nb h2, nb h3]
  split
  · rfl
  · split
    · rfl
    · split
      · exact b h1
      · split
        · exact b h2
        · exact b h3
theorem mat_go {m : Mv} {c e : Cfg} {x y : Nat} (s : sim c e) (h : mat c x e y) (hx : x ≠ 0) (hy : y ≠ 0) : sim (goC m c x) (goC m e y) := by
  obtain ⟨h1, h2, h3⟩ := h
  obtain ⟨-, s1, s2, s3, s4, s5, s6⟩ := s
  unfold goC sim
  simp only
  by_cases k0 : m.2.2.2.1 = 0
  · have k1 : ¬ m.2.2.2.1 = 1 := by omega
    have k2 : ¬ m.2.2.2.1 = 2 := by omega
    simp only [k0, if_true, if_neg k1, if_neg k2]
    simp only [show ¬ ((0 : Int) = 1) by omega, show ¬ ((0 : Int) = 2) by omega, if_false]
    exact ⟨trivial, by omega, s2, s3, h2, h3, s6⟩
  · by_cases k1 : m.2.2.2.1 = 1
    · have k2 : ¬ m.2.2.2.1 = 2 := by omega
      simp only [k1, if_true]
      simp only [show ¬ ((1 : Int) = 0) by omega, show ¬ ((1 : Int) = 2) by omega, if_false]
      exact ⟨trivial, s1, by omega, s3, by omega, s5, h3⟩
    · by_cases k2 : m.2.2.2.1 = 2
      · simp only [k2, if_true]
        simp only [show ¬ ((2 : Int) = 0) by omega, show ¬ ((2 : Int) = 1) by omega, if_false]
        exact ⟨trivial, s1, s2, by omega, s4, by omega, by omega⟩
      · simp only [if_neg k0, if_neg k1, if_neg k2]
        exact ⟨trivial, s1, s2, s3, s4, s5, s6⟩
theorem mat_ex {c e : Cfg} {x w : Nat} (s : sim c e) (hx : x ≠ 0) (hw : w ≠ 0) (w1 : e.2.1 ≠ w) (w2 : e.2.2.1 ≠ w) (w3 : e.2.2.2 ≠ w) : ∃ y, y ≠ 0 ∧ mat c x e y ∧ (y = w ∨ y = e.2.1 ∨ y = e.2.2.1 ∨ y = e.2.2.2) := by
  obtain ⟨-, s1, s2, s3, s4, s5, s6⟩ := s
  by_cases h1 : c.2.1 = x
  · refine ⟨e.2.1, by omega, ⟨by omega, by omega, by omega⟩, Or.inr (Or.inl rfl)⟩
  · by_cases h2 : c.2.2.1 = x
    · refine ⟨e.2.2.1, by omega, ⟨by omega, by omega, by omega⟩, Or.inr (Or.inr (Or.inl rfl))⟩
    · by_cases h3 : c.2.2.2 = x
      · refine ⟨e.2.2.2, by omega, ⟨by omega, by omega, by omega⟩, Or.inr (Or.inr (Or.inr rfl))⟩
      · refine ⟨w, hw, ⟨by omega, by omega, by omega⟩, Or.inl rfl⟩
def gst (m : Mv) (c c' : Cfg) : Prop := m.1 = c.1 ∧ ∃ x, x ≠ 0 ∧ fits m c x = true ∧ c' = kn (goC m c x)
theorem top_ge (c : Cfg) : c.2.1 ≤ top c ∧ c.2.2.1 ≤ top c ∧ c.2.2.2 ≤ top c := by unfold top; omega
theorem gst_s1 {m : Mv} {c e c' : Cfg} (s : sim c e) (h : gst m c c') : gst m e c' := by
  obtain ⟨h1, x, h2, h3, h4⟩ := h
  have t := top_ge e
  obtain ⟨y, k1, k2, -⟩ := mat_ex (w := top e + 1) s h2 (by omega) (by omega) (by omega) (by omega)
  exact ⟨by rw [h1, s.1], y, k1, by rw [← mat_fits k2]; exact h3, by rw [h4]; exact sim_kn (mat_go s k2 h2 k1)⟩
theorem gst_sim {m : Mv} {c e c' : Cfg} (s : sim c e) : gst m c c' ↔ gst m e c' := ⟨gst_s1 s, gst_s1 (sim_sy s)⟩
theorem gst_w {m : Mv} {c c' : Cfg} {w : Nat} (hw : w ≠ 0) (w1 : c.2.1 ≠ w) (w2 : c.2.2.1 ≠ w) (w3 : c.2.2.2 ≠ w) : gst m c c' ↔ m.1 = c.1 ∧ ∃ y, y ≠ 0 ∧ (y = w ∨ y = c.2.1 ∨ y = c.2.2.1 ∨ y = c.2.2.2) ∧ fits m c y = true ∧ c' = kn (goC m c y) := by
  constructor
  · rintro ⟨h1, x, h2, h3, h4⟩
    obtain ⟨y, k1, k2, k3⟩ := mat_ex (sim_rf c) h2 hw w1 w2 w3
    exact ⟨h1, y, k1, k3, by rw [← mat_fits k2]; exact h3, by rw [h4]; exact sim_kn (mat_go (sim_rf c) k2 h2 k1)⟩
  · rintro ⟨h1, y, h2, -, h3, h4⟩
    exact ⟨h1, y, h2, h3, h4⟩
theorem gst_top {m : Mv} {c c' : Cfg} : gst m c c' ↔ m.1 = c.1 ∧ ∃ x, 1 ≤ x ∧ x ≤ top c + 1 ∧ fits m c x = true ∧ c' = kn (goC m c x) := by
  have t := top_ge c
  rw [gst_w (w := top c + 1) (by omega) (by omega) (by omega) (by omega)]
  constructor
  · rintro ⟨h1, y, h2, h3, h4⟩
    exact ⟨h1, y, by omega, by omega, h4⟩
  · rintro ⟨h1, y, h2, h3, h4⟩
    obtain ⟨z, k1, k2, k3⟩ := mat_ex (w := top c + 1) (x := y) (sim_rf c) (by omega) (by omega) (by omega) (by omega) (by omega)
    exact ⟨h1, z, k1, k3, by rw [← mat_fits k2]; exact h4.1, by rw [h4.2]; exact sim_kn (mat_go (sim_rf c) k2 (by omega) k1)⟩
def dst (r : Rdr) : Nat → Cfg → Prop
  | 0, c => tks r c.1 = true
  | n + 1, c => ∃ m, m ∈ r.2.2.2 ∧ ∃ c', gst m c c' ∧ dst r n c'
theorem dst_sim {r : Rdr} {c e : Cfg} (s : sim c e) : ∀ n, dst r n c ↔ dst r n e
  | 0 => by unfold dst; rw [s.1]
  | n + 1 => by
    constructor
    · rintro ⟨m, hm, c', h1, h2⟩; exact ⟨m, hm, c', (gst_sim s).mp h1, h2⟩
    · rintro ⟨m, hm, c', h1, h2⟩; exact ⟨m, hm, c', (gst_sim s).mpr h1, h2⟩
def dmn (r : Rdr) (n : Nat) (c : Cfg) : Prop := dst r n c ∧ ∀ i, i < n → ¬ dst r i c
theorem dmn_u {r : Rdr} {n k : Nat} {c : Cfg} (h1 : dmn r n c) (h2 : dmn r k c) : n = k := by
  rcases Nat.lt_trichotomy n k with z | z | z
  · exact absurd h1.1 (h2.2 n z)
  · exact z
  · exact absurd h2.1 (h1.2 k z)
theorem dmn_ex {r : Rdr} {c : Cfg} : ∀ n, dst r n c → ∃ k, k ≤ n ∧ dmn r k c := by
  intro n
  induction n using Nat.strongRecOn with
  | _ n ih =>
    intro h
    by_cases z : ∃ i, i < n ∧ dst r i c
    · obtain ⟨i, h1, h2⟩ := z
      obtain ⟨k, k1, k2⟩ := ih i h1 h2
      exact ⟨k, by omega, k2⟩
    · exact ⟨n, Nat.le_refl _, h, fun i hi hd => z ⟨i, hi, hd⟩⟩
theorem dmn_sim {r : Rdr} {c e : Cfg} (s : sim c e) (n : Nat) : dmn r n c ↔ dmn r n e := by
  unfold dmn
  rw [dst_sim s n]
  constructor
  · rintro ⟨h1, h2⟩; exact ⟨h1, fun i hi hd => h2 i hi ((dst_sim s i).mpr hd)⟩
  · rintro ⟨h1, h2⟩; exact ⟨h1, fun i hi hd => h2 i hi ((dst_sim s i).mp hd)⟩
theorem dmn_s {r : Rdr} {c : Cfg} {n : Nat} (h : dmn r (n + 1) c) : ∃ m, m ∈ r.2.2.2 ∧ ∃ c', gst m c c' ∧ dmn r n c' := by
  obtain ⟨⟨m, hm, c', h1, h2⟩, h3⟩ := h
  refine ⟨m, hm, c', h1, h2, fun i hi hd => h3 (i + 1) (by omega) ⟨m, hm, c', h1, hd⟩⟩
noncomputable def dv (r : Rdr) (c : Cfg) : Int := @dite _ (∃ n, dmn r n c) (Classical.propDecidable _) (fun h => ((Classical.choose h : Nat) : Int)) (fun _ => -1)
theorem dv_e {r : Rdr} {n : Nat} {c : Cfg} (h : dmn r n c) : dv r c = n := by
  unfold dv
  have hx : ∃ n, dmn r n c := ⟨n, h⟩
  rw [dif_pos hx, dmn_u (Classical.choose_spec hx) h]
theorem dv_n {r : Rdr} {c : Cfg} (h : ∀ n, ¬ dmn r n c) : dv r c = -1 := by
  unfold dv
  rw [dif_neg (fun ⟨n, hn⟩ => h n hn)]
theorem dv_c (r : Rdr) (c : Cfg) : (∃ n, dmn r n c ∧ dv r c = n) ∨ ((∀ n, ¬ dst r n c) ∧ dv r c = -1) := by
  by_cases z : ∃ n, dmn r n c
  · obtain ⟨n, h⟩ := z; exact Or.inl ⟨n, h, dv_e h⟩
  · refine Or.inr ⟨fun n hn => ?_, dv_n fun n hn => z ⟨n, hn⟩⟩
    obtain ⟨k, -, hk⟩ := dmn_ex n hn
    exact z ⟨k, hk⟩
theorem dv_iff {r : Rdr} {c : Cfg} {n : Nat} : dv r c = n ↔ dmn r n c := by
  constructor
  · intro h
    rcases dv_c r c with ⟨k, h1, h2⟩ | ⟨h1, h2⟩
    · have : n = k := by omega
      rw [this]; exact h1
    · omega
  · exact dv_e
theorem dv_sim {r : Rdr} {c e : Cfg} (s : sim c e) : dv r c = dv r e := by
  rcases dv_c r c with ⟨n, h1, h2⟩ | ⟨h1, h2⟩
  · rw [h2, dv_e ((dmn_sim s n).mp h1)]
  · rw [h2, dv_n]
    intro n hn
    exact h1 n ((dst_sim s n).mpr hn.1)
/-- the kinds that may be come to -/
def rchN (r : Rdr) : Nat → Cfg → Prop
  | 0, c => c = c0
  | n + 1, c => ∃ c1 m, rchN r n c1 ∧ m ∈ r.2.2.2 ∧ gst m c1 c
def rch (r : Rdr) (c : Cfg) : Prop := ∃ n, rchN r n c
theorem rch_0 (r : Rdr) : rch r c0 := ⟨0, rfl⟩
theorem rch_s {r : Rdr} {m : Mv} {c c' : Cfg} (h : rch r c) (hm : m ∈ r.2.2.2) (g : gst m c c') : rch r c' := by
  obtain ⟨n, hn⟩ := h
  exact ⟨n + 1, c, m, hn, hm, g⟩
theorem rch_min {r : Rdr} {P : Cfg → Prop} (h0 : P c0) (hs : ∀ m c c', P c → m ∈ r.2.2.2 → gst m c c' → P c') : ∀ c, rch r c → P c := by
  rintro c ⟨n, hn⟩
  induction n generalizing c with
  | zero => rw [show c = c0 from hn]; exact h0
  | succ n ih =>
    obtain ⟨c1, m, h1, h2, h3⟩ := hn
    exact hs m c1 c (ih c1 h1) h2 h3
def KV (c : Cfg) : Prop := c.1 < 6 ∧ kn c = c
theorem KV_0 : KV c0 := ⟨by decide, rfl⟩
theorem KV.le {c : Cfg} (h : KV c) : c.1 < 6 ∧ c.2.1 ≤ 3 ∧ c.2.2.1 ≤ 3 ∧ c.2.2.2 ≤ 3 := by
  have := kn_le c
  rw [h.2] at this
  exact ⟨h.1, this⟩
theorem KV.v {c : Cfg} (h : KV c) : CV c := by have := h.le; unfold CV; omega
theorem KV_kn {c : Cfg} (h : c.1 < 6) : KV (kn c) := ⟨h, kn_kn c⟩
theorem KV_g {r : Rdr} (hv : RV r) {m : Mv} {c c' : Cfg} (hm : m ∈ r.2.2.2) (g : gst m c c') : KV c' := by
  obtain ⟨-, x, -, -, h⟩ := g
  rw [h]
  have h1 := hv.2.2.2.2.2 m hm
  have h2 := hv.2.1
  refine KV_kn ?_
  show m.2.2.2.2 < 6
  omega
theorem KV_r {r : Rdr} (hv : RV r) : ∀ c, rch r c → KV c := rch_min KV_0 (fun m c c' _ hm g => KV_g hv hm g)
def eP (c : Cfg) : Nat := c.1 * 64 + c.2.2.2 * 16 + c.2.2.1 * 4 + c.2.1
theorem eP_lt {c : Cfg} (h : KV c) : eP c < 384 := by have := h.le; unfold eP; omega
theorem eP_inj {c c' : Cfg} (h : KV c) (h' : KV c') (e : eP c = eP c') : c = c' := by
  have a := h.le
  have b := h'.le
  unfold eP at e
  obtain ⟨q, a1, b1, d1⟩ := c
  obtain ⟨q', a2, b2, d2⟩ := c'
  simp only [Prod.mk.injEq] at *
  omega
/-- no way is longer than there are kinds -/
theorem dmn_lt {r : Rdr} (hv : RV r) : ∀ n c, KV c → dmn r n c → n < 384 := by
  have key : ∀ n c, KV c → dmn r n c → ∃ L : List Cfg, L.Nodup ∧ L.length = n + 1 ∧ ∀ e, e ∈ L → KV e ∧ ∃ i, i ≤ n ∧ dmn r i e := by
    intro n
    induction n with
    | zero => intro c hc h; exact ⟨[c], by simp, rfl, fun e he => by rw [List.mem_singleton.mp he]; exact ⟨hc, 0, Nat.le_refl _, h⟩⟩
    | succ n ih =>
      intro c hc h
      obtain ⟨m, hm, c', h1, h2⟩ := dmn_s h
      obtain ⟨L, l1, l2, l3⟩ := ih c' (KV_g hv hm h1) h2
      refine ⟨c :: L, ?_, by rw [List.length_cons, l2], ?_⟩
      · rw [List.nodup_cons]
        refine ⟨fun z => ?_, l1⟩
        obtain ⟨-, i, h3, h4⟩ := l3 c z
        have := dmn_u h h4
        omega
      · intro e he
        rcases List.mem_cons.mp he with z | z
        · rw [z]; exact ⟨hc, n + 1, Nat.le_refl _, h⟩
        · obtain ⟨h3, i, h4, h5⟩ := l3 e z
          exact ⟨h3, i, by omega, h5⟩
  intro n c hc h
  obtain ⟨L, l1, l2, l3⟩ := key n c hc h
  have := nd_len 384 (L.map eP) (nd_map eP L l1 (fun x y hx hy e => eP_inj (l3 x hx).1 (l3 y hy).1 e)) (by
    intro x hx
    obtain ⟨e, he, rfl⟩ := List.mem_map.mp hx
    exact eP_lt (l3 e he).1)
  rw [List.length_map, l2] at this
  omega
