/-! the model: goOn, its lists -/
def C12 (c : Cfg) : Prop := c.1 < 6 ∧ c.2.1 ≤ 12 ∧ c.2.2.1 ≤ 12 ∧ c.2.2.2 ≤ 12
theorem C12.m {c : Cfg} (h : C12 c) : CM c := by unfold C12 at h; unfold CM; omega
theorem goC_12 {m : Mv} {c : Cfg} {x : Nat} (hm : MV m) (hc : C12 c) (hx : x ≤ 12) : C12 (goC m c x) := by
  unfold goC C12 at *
  unfold MV at hm
  refine ⟨hm.2.2.2.2.2, ?_, ?_, ?_⟩ <;> simp only <;> split <;> omega
theorem nd_len : ∀ (N : Nat) (l : List Nat), l.Nodup → (∀ x, x ∈ l → x < N) → l.length ≤ N
  | 0, l, _, h => by
    cases l with
    | nil => simp
    | cons a l => exact absurd (h a List.mem_cons_self) (Nat.not_lt_zero _)
  | N + 1, l, nd, h => by
    by_cases q : N ∈ l
    · have h1 := nd_len N (l.erase N) (nd.erase N) (by
        intro x hx
        have h2 := (List.Nodup.mem_erase_iff nd).mp hx
        have := h x h2.2
        omega)
      rw [List.length_erase_of_mem q] at h1
      omega
    · have := nd_len N l nd (fun x hx => by
        have := h x hx
        have : x ≠ N := fun e => q (e ▸ hx)
        omega)
      omega
def e13 (c : Cfg) : Nat := c.1 + 6 * c.2.1 + 78 * c.2.2.1 + 1014 * c.2.2.2
theorem nd_map {α : Type} (f : α → Nat) : ∀ (l : List α), l.Nodup → (∀ x y, x ∈ l → y ∈ l → f x = f y → x = y) → (l.map f).Nodup
  | [], _, _ => by simp
  | a :: l, nd, h => by
    rw [List.map_cons, List.nodup_cons]
    rw [List.nodup_cons] at nd
    refine ⟨?_, nd_map f l nd.2 (fun x y hx hy => h x y (List.mem_cons_of_mem _ hx) (List.mem_cons_of_mem _ hy))⟩
    intro q
    obtain ⟨b, hb, e⟩ := List.mem_map.mp q
    have := h b a (List.mem_cons_of_mem _ hb) List.mem_cons_self e
    subst this
    exact nd.1 hb
theorem c12_len {cs : List Cfg} (nd : cs.Nodup) (h : ∀ c, c ∈ cs → C12 c) : cs.length ≤ 13182 := by
  have := nd_len 13182 (cs.map e13) (nd_map e13 cs nd (by
    intro x y hx hy e
    have a := h x hx
    have b := h y hy
    unfold C12 at a b
    unfold e13 at e
    obtain ⟨q, a1, b1, d1⟩ := x
    obtain ⟨q', a2, b2, d2⟩ := y
    simp only [Prod.mk.injEq] at *
    omega)) (by
    intro n hn
    obtain ⟨c, hc, e⟩ := List.mem_map.mp hn
    have a := h c hc
    unfold C12 at a
    rw [← e]
    unfold e13
    omega)
  rwa [List.length_map] at this
/-- the list at a depth -/
def ML (h : AH) (D : Nat) (cs : List Cfg) : Prop := cs.Nodup ∧ (∀ c, c ∈ cs → C12 c) ∧ hI h 115 D = zI cs.length ∧ ∀ (i : Nat) (c : Cfg), cs[i]? = some c → hI h 114 (24600 * D + i) = zI (eM c)
def MU (h : AH) (u : Nat) : Prop := u < 2147483000 ∧ hI h 94 29 = zI u ∧ ∀ j, j < 29478 → ∃ s : Nat, s ≤ u ∧ hI h 116 j = zI s
theorem MK_u {h : AH} {b : Nat} (p : MK h b) (hb : b < 2147483000) : ∃ u, u ≤ b ∧ MU h u := by
  obtain ⟨u, h1, h2, h3⟩ := p
  exact ⟨u, h1, by omega, h2, h3⟩
theorem MU.k {h : AH} {u b : Nat} (p : MU h u) (hb : u ≤ b) : MK h b := ⟨u, hb, p.2.1, p.2.2⟩
def fG (D a j : Nat) : Prop := (a = 94 ∧ j = 29) ∨ a = 116 ∨ (a = 115 ∧ j = D + 1) ∨ (a = 114 ∧ 24600 * (D + 1) ≤ j ∧ j < 24600 * (D + 2))
theorem ML.mv {F : Nat → Nat → Prop} {h h' : AH} {D : Nat} {cs : List Cfg} (p : ML h D cs) (f : mfr F h h') (n : ¬ F 115 D) (n2 : ∀ i, i < 24600 → ¬ F 114 (24600 * D + i)) : ML h' D cs := by
  have hl := c12_len p.1 p.2.1
  refine ⟨p.1, p.2.1, by rw [f.I n]; exact p.2.2.1, fun i c hc => ?_⟩
  have := (List.getElem?_eq_some_iff.mp hc).1
  rw [f.I (n2 i (by omega))]; exact p.2.2.2 i c hc
/-- inside goOn: what has been found so far -/
def GST (h : AH) (D u : Nat) (acc : List Cfg) : Prop := acc.Nodup ∧ (∀ c, c ∈ acc → C12 c) ∧ hI h 94 29 = zI u ∧ (∀ j, j < 29478 → ∃ s : Nat, s ≤ u ∧ hI h 116 j = zI s) ∧ (∀ c, CM c → (hI h 116 (eM c) = zI u ↔ c ∈ acc)) ∧ ∀ (i : Nat) (c : Cfg), acc[i]? = some c → hI h 114 (24600 * (D + 1) + i) = zI (eM c)
theorem goOn_in (d : Nat) {j D u l x : Nat} {r : Rdr} {c : Cfg} {x6 : Int32} (hv : RV r) (hj : j < 2) (hD : D < 12) (hu : u < 2147483000) (hl : l < 3) (hx : x ≤ 12) (hc : C12 c) : ∀ (n i : Nat) (h : AH) (acc : List Cfg), i + n = r.2.2.2.length → MS h → MR h j r → GST h D u acc →
    ∃ h' acc', Rk B_M_goOn L_M_goOn (Cc (d + 2)) 3 [aR (some 94), aI (zI j), aI (zI D), aI (zI l), aI (zI x), aI (zI acc.length), aI x6, aI (zI (eM c)), aI (zI ((20 * j + i : Nat) : Int)), aU] [] h = Rk B_M_goOn L_M_goOn (Cc (d + 2)) 8 [aR (some 94), aI (zI j), aI (zI D), aI (zI l), aI (zI x), aI (zI acc'.length), aI x6, aU, aU, aU] [] h' ∧ mfr (fG D) h h' ∧ (∀ D', D' ≤ D → hI h' 115 D' = hI h 115 D') ∧ GST h' D u acc' ∧ ∀ c', c' ∈ acc' ↔ c' ∈ acc ∨ ∃ (t : Nat) (m : Mv), i ≤ t ∧ r.2.2.2[t]? = some m ∧ m.1 = c.1 ∧ m.2.1 = l ∧ stp m c x = some c'
  | 0, i, h, acc, hn, p, mr, g => by
    have hL := hv.2.2.2.2.1
    refine ⟨h, acc, ?_, mfr.rf _ h, fun _ _ => rfl, g, fun c' => ⟨Or.inl, ?_⟩⟩
    · rw [E_M_goOn_3]
      simp (disch := omega) only [obj_e (z94 p.1), m3 p, idx_n (z98 p.1), mr.2.2.2.1]
      rw [show zI 20 * zI j + zI (r.2.2.2.length : Int) = zI ((20 * j + r.2.2.2.length : Nat) : Int) from by rw [zI_mul, zI_add]; rfl]
      simp (disch := omega) only [nlt]
      rw [if_neg (by omega)]
    · rintro (h | ⟨t, m, h1, h2, -⟩)
      · exact h
      · have := (List.getElem?_eq_some_iff.mp h2).1; omega
  | n + 1, i, h, acc, hn, p, mr, g => by
    have hL := hv.2.2.2.2.1
    have hm : r.2.2.2[i]? = some r.2.2.2[i] := List.getElem?_eq_getElem (by omega)
    have hmv := (hv.mi hm).1
    have hrow := mr.2.2.2.2 i _ hm
    have hlt := eM_lt hc.m
    have hal := c12_len g.1 g.2.1
    have e3 : Rk B_M_goOn L_M_goOn (Cc (d + 2)) 3 [aR (some 94), aI (zI j), aI (zI D), aI (zI l), aI (zI x), aI (zI acc.length), aI x6, aI (zI (eM c)), aI (zI ((20 * j + i : Nat) : Int)), aU] [] h = Rk B_M_goOn L_M_goOn (Cc (d + 2)) 4 [aR (some 94), aI (zI j), aI (zI D), aI (zI l), aI (zI x), aI (zI acc.length), aI x6, aI (zI (eM c)), aI (zI ((20 * j + i : Nat) : Int)), aU] [] h := by
      rw [E_M_goOn_3]
      simp (disch := omega) only [obj_e (z94 p.1), m3 p, idx_n (z98 p.1), mr.2.2.2.1]
      rw [show zI 20 * zI j + zI (r.2.2.2.length : Int) = zI ((20 * j + r.2.2.2.length : Nat) : Int) from by rw [zI_mul, zI_add]; rfl]
      simp (disch := omega) only [nlt]
      rw [if_pos (by omega)]
    rw [e3, E_M_goOn_4, obj_e (z94 p.1), calI_e (M_can d p (by omega) hrow hmv hc.m hl (by omega)), if01]
    -- going on without a new one
    have skip : ∀ (h' : AH) (acc' : List Cfg), mfr (fG D) h h' → (∀ D', D' ≤ D → hI h' 115 D' = hI h 115 D') → MR h' j r → GST h' D u acc' → (∀ c', c' ∈ acc' ↔ c' ∈ acc ∨ (r.2.2.2[i].1 = c.1 ∧ r.2.2.2[i].2.1 = l ∧ stp r.2.2.2[i] c x = some c')) → ∃ h'' acc'', Rk B_M_goOn L_M_goOn (Cc (d + 2)) 7 [aR (some 94), aI (zI j), aI (zI D), aI (zI l), aI (zI x), aI (zI acc'.length), aI x6, aI (zI (eM c)), aI (zI ((20 * j + i : Nat) : Int)), aU] [] h' = Rk B_M_goOn L_M_goOn (Cc (d + 2)) 8 [aR (some 94), aI (zI j), aI (zI D), aI (zI l), aI (zI x), aI (zI acc''.length), aI x6, aU, aU, aU] [] h'' ∧ mfr (fG D) h h'' ∧ (∀ D', D' ≤ D → hI h'' 115 D' = hI h 115 D') ∧ GST h'' D u acc'' ∧ ∀ c', c' ∈ acc'' ↔ c' ∈ acc ∨ ∃ (t : Nat) (m : Mv), i ≤ t ∧ r.2.2.2[t]? = some m ∧ m.1 = c.1 ∧ m.2.1 = l ∧ stp m c x = some c' := by
      intro h' acc' f k mr' g' hac
      obtain ⟨h'', acc'', e, f2, k2, g2, q2⟩ := goOn_in d hv hj hD hu hl hx hc n (i + 1) h' acc' (by omega) (p.mf f) mr' g'
      refine ⟨h'', acc'', ?_, f.tr f2, fun D' hD' => (k2 D' hD').trans (k D' hD'), g2, fun c' => ?_⟩
      · rw [E_M_goOn_7, lt_e, nadd1]; exact e
      · rw [q2 c', hac c']
        constructor
        · rintro ((h | h) | ⟨t, m, h1, h2⟩)
          · exact Or.inl h
          · exact Or.inr ⟨i, _, Nat.le_refl _, hm, h⟩
          · exact Or.inr ⟨t, m, by omega, h2⟩
        · rintro (h | ⟨t, m, h1, h2, h3⟩)
          · exact Or.inl (Or.inl h)
          · by_cases z : t = i
            · subst z
              rw [hm] at h2
              cases h2
              exact Or.inl (Or.inr h3)
            · exact Or.inr ⟨t, m, by omega, h2, h3⟩
    by_cases b : canB r.2.2.2[i] c l x = true
    · have b' := b
      unfold canB at b'
      rw [Bool.and_eq_true, Bool.and_eq_true, beq_iff_eq, beq_iff_eq] at b'
      have st : stp r.2.2.2[i] c x = some (goC r.2.2.2[i] c x) := by unfold stp; rw [if_pos b'.2.2]
      have g12 := goC_12 hmv hc hx
      have hlt2 := eM_lt g12.m
      rw [if_pos b, E_M_goOn_5, obj_e (z94 p.1), calI_e (M_behind d p (by omega) hrow hmv hc.m (by omega)), lt_e]
      simp (disch := omega) only [obj_e (z94 p.1), m28 p, idx_n (z116 p.1), g.2.2.1]
      by_cases y : goC r.2.2.2[i] c x ∈ acc
      · rw [if_pos ((g.2.2.2.2.1 _ g12.m).mpr y)]
        refine skip h acc (mfr.rf _ h) (fun _ _ => rfl) mr g (fun c' => ⟨Or.inl, ?_⟩)
        rintro (h | ⟨h1, h2, h3⟩)
        · exact h
        · rw [st] at h3; cases h3; exact y
      · rw [if_neg (fun z => y ((g.2.2.2.2.1 _ g12.m).mp z)), E_M_goOn_6]
        have e4 : zI 24600 * (zI (D : Int) + zI 1) + zI (acc.length : Int) = zI ((24600 * (D + 1) + acc.length : Nat) : Int) := by rw [zI_add, zI_mul, zI_add]; rfl
        rw [e4]
        simp (disch := omega) only [obj_e (z94 p.1), m28 p, idx_n (z116 p.1), g.2.2.1, lt_e, obj_sI, hR_sI, m26 p, idx_sI, idx_n (z114 p.1), nadd1]
        have f1 : mfr (fG D) h (sI (sI h 116 (eM (goC r.2.2.2[i] c x)) (zI u)) 114 (24600 * (D + 1) + acc.length) (zI (eM (goC r.2.2.2[i] c x)))) := (mfr_sI h (by unfold fG; omega) _).tr (mfr_sI _ (by unfold fG; omega) _)
        have := skip _ (acc ++ [goC r.2.2.2[i] c x]) f1 (fun D' hD' => by rw [hI_off (by omega), hI_off (by omega)]) (mr.mv f1 (by intro a t; unfold fG; omega)) (by
          obtain ⟨g1, g2, g3, g4, g5, g6⟩ := g
          refine ⟨?_, ?_, ?_, ?_, ?_, ?_⟩
          · rw [List.nodup_append]
            refine ⟨g1, by simp, ?_⟩
            intro a ha b hb e
            rw [List.mem_singleton] at hb
            exact y (by rw [← hb, ← e]; exact ha)
          · intro c' hc'
            rcases List.mem_append.mp hc' with z | z
            · exact g2 c' z
            · rw [List.mem_singleton.mp z]; exact g12
          · rw [hI_off (by omega), hI_off (by omega)]; exact g3
          · intro t ht
            rw [hI_off (by omega)]
            by_cases z : t = eM (goC r.2.2.2[i] c x)
            · rw [z]; exact ⟨u, Nat.le_refl _, hI_hit _ _ _ _⟩
            · rw [hI_off (by omega)]; exact g4 t ht
          · intro c' hc'
            rw [hI_off (by omega)]
            by_cases z : c' = goC r.2.2.2[i] c x
            · subst z; rw [hI_hit]; simp
            · rw [hI_off (Or.inr fun e => z (eM_inj hc' g12.m e)), g5 c' hc']
              simp [z]
          · intro t c' ht
            have h1 := (List.getElem?_eq_some_iff.mp ht).1
            rw [List.length_append] at h1
            simp at h1
            by_cases z : t < acc.length
            · rw [List.getElem?_append_left z] at ht
              rw [hI_off (by omega), hI_off (by omega)]
              exact g6 t c' ht
            · have : t = acc.length := by omega
              subst this
              simp at ht
              rw [hI_hit, ht]) (by
          intro c'
          rw [List.mem_append, List.mem_singleton]
          constructor
          · rintro (h | h)
            · exact Or.inl h
            · exact Or.inr ⟨b'.1, b'.2.1, by rw [st, h]⟩
          · rintro (h | ⟨h1, h2, h3⟩)
            · exact Or.inl h
            · rw [st] at h3; cases h3; exact Or.inr rfl)
        rw [List.length_append] at this
        exact this
    · rw [if_neg b]
      refine skip h acc (mfr.rf _ h) (fun _ _ => rfl) mr g (fun c' => ⟨Or.inl, ?_⟩)
      rintro (h | ⟨h1, h2, h3⟩)
      · exact h
      · exfalso
        apply b
        unfold canB
        rw [h1, h2]
        unfold stp at h3
        split at h3
        · rename_i q; rw [q]; simp
        · cases h3
