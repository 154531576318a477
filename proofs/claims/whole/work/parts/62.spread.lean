/-! Walks.spread -/
theorem P_min (d : Nat) (h : AH) {v : Nat} (hv : v < 1000000000000) : Cc (d + 1) 5 [aL (zL v), aL (zL 1000000001)] h = some (some (aL (zL ((min MANY v : Nat) : Int))), h) := by
  show some (some (aL (if zL 1000000001 < zL v then zL 1000000001 else zL v)), h) = _
  have hM : MANY = 1000000001 := rfl
  simp (disch := omega) only [yl_lt]
  by_cases z : (1000000001 : Int) < v
  · rw [if_pos z, Nat.min_eq_left (by omega)]; rfl
  · rw [if_neg z, Nat.min_eq_right (by omega)]
def UU : List Cfg := (List.range 24576).map dX
theorem UU_mem {c : Cfg} : c ∈ UU ↔ CV c := by
  unfold UU
  rw [List.mem_map]
  constructor
  · rintro ⟨s, hs, e⟩; rw [List.mem_range] at hs; rw [← e]; exact dX_v hs
  · intro hc; exact ⟨eX c, List.mem_range.mpr (eX_lt hc), dX_e hc⟩
theorem map_nd {f : Nat → Cfg} : ∀ (l : List Nat), l.Nodup → (∀ x y, x ∈ l → y ∈ l → f x = f y → x = y) → (l.map f).Nodup
  | [], _, _ => by simp
  | a :: l, nd, h => by
    rw [List.map_cons, List.nodup_cons]
    rw [List.nodup_cons] at nd
    refine ⟨?_, map_nd l nd.2 (fun x y hx hy => h x y (List.mem_cons_of_mem _ hx) (List.mem_cons_of_mem _ hy))⟩
    intro q
    obtain ⟨b, hb, e⟩ := List.mem_map.mp q
    have := h b a (List.mem_cons_of_mem _ hb) List.mem_cons_self e
    subst this
    exact nd.1 hb
theorem UU_nd : UU.Nodup := map_nd _ List.nodup_range (fun x y _ _ e => by have := congrArg eX e; rwa [eX_d, eX_d] at this)
theorem sums_map {α β : Type} {f : β → Nat} {g : α → β} : ∀ (l : List α), sums f (l.map g) = sums (fun a => f (g a)) l
  | [] => rfl
  | a :: l => by rw [List.map_cons, sums, sums, sums_map l]
theorem sums_fil {α : Type} {f : α → Nat} {P : α → Bool} : ∀ (l : List α), sums f (l.filter P) = sums (fun a => if P a then f a else 0) l
  | [] => rfl
  | a :: l => by
    cases h : P a
    · rw [List.filter_cons_of_neg (by rw [h]; simp), sums, h, sums_fil l]; simp
    · rw [List.filter_cons_of_pos h, sums, sums, h, sums_fil l]; simp
theorem sums_rng {G : Mv → Nat} : ∀ (ms : List Mv) (k : Nat) (F : Nat → Nat), (∀ t m, ms[t]? = some m → F (k + t) = G m) → sums F (List.range' k ms.length) = sums G ms
  | [], k, F, h => rfl
  | m :: ms, k, F, h => by
    rw [List.length_cons, List.range'_succ, sums, sums, sums_rng (G := G) ms (k + 1) F (fun t m' ht => by
      have := h (t + 1) m' (by rw [List.getElem?_cons_succ]; exact ht)
      rw [← this]; congr 1; omega)]
    have := h 0 m (by simp)
    rw [Nat.add_zero] at this
    rw [this]
/-- a move by its number: what it adds -/
def adm (r : Rdr) (c : Cfg) (x : Nat) (L : Nat → Bool) (f : Cfg → Nat) (t : Nat) : Nat := match r.2.2.2[t]? with
  | some m => if fits m c x then f (stl L 0 (goC m c x)) else 0
  | none => 0
theorem adm_s {r : Rdr} (hv : RV r) {c : Cfg} {l x : Nat} (hl : l < 3) {L : Nat → Bool} {f : Cfg → Nat} : sums (adm r c x L f) (bk r.2.2.2 (c.1 * 3 + l)) = sums (fun m => if canB m c l x then f (stl L 0 (goC m c x)) else 0) r.2.2.2 := by
  unfold bk
  rw [sums_fil, List.range_eq_range']
  apply sums_rng
  intro t m ht
  rw [Nat.zero_add]
  have hmv := (hv.mi ht).1
  unfold bkF adm
  rw [ht]
  simp only
  by_cases z : key m = c.1 * 3 + l
  · have := (key_iff hmv.2.1 hl).mp z
    rw [show (key m == c.1 * 3 + l) = true from beq_iff_eq.mpr z, if_pos rfl]
    unfold canB
    rw [this.1, this.2]; simp
  · rw [show (key m == c.1 * 3 + l) = false from beq_eq_false_iff_ne.mpr z, if_neg (by simp), if_neg]
    intro y
    obtain ⟨y1, y2, -⟩ := canB_t y
    exact z ((key_iff hmv.2.1 hl).mpr ⟨y1, y2⟩)
def WX (h : AH) (w : Rw) (A : Nat) (g : Nat → Nat) (i : Nat) (S : Nat → Bool) (W : Cfg → Nat) : Prop := (∀ c, CV c → S (eX c) = true → domC w i c ∧ hL h A (plc g c) = zL (W c)) ∧ (∀ c, CV c → S (eX c) = false → W c = 0) ∧ ∀ c, W c ≤ MANY
def slH (h : AH) (w : Rw) (g : Nat → Nat) : Prop := ∀ n, n = 0 ∨ knw w w.length n → hI h 68 n = zI ((g n : Nat) : Int) ∧ g n ≤ 6
theorem spr_in (d : Nat) {s : Stt} {x : Int} {i l A : Nat} {a : Nat} {x7 : Int32} {q : Int × Int} {g : Nat → Nat} {c : Cfg} (f : Cfg → Nat) (hg : gaps s.2.2.2 = 0) (hq : s.2.2.2[i]? = some q) (hl : q.1 = (l : Int)) (hl3 : l < 3) (g0 : g 0 = 0) (ds : DST s.2.2.2 g (i + 1)) (hA : A = 64 ∨ A = 65) (ha : a ≤ MANY) (hc : CV c) (hdom : ∀ m c', stp m c (idn s.2.2.2 q.2) = some c' → m ∈ (rdr s x).2.2.2 → m.1 = c.1 → m.2.1 = l → domC s.2.2.2 (i + 1) (stl (Lw s.2.2.2 (i + 1)) 0 c')) : ∀ (n j : Nat) (h : AH) (T : Nat → Bool) (W' : Cfg → Nat), j + n = (bk (rdr s x).2.2.2 (c.1 * 3 + l)).length → XI s h → hR h 66 4 = some A → slH h s.2.2.2 g → SP h (22 + 3 * (i + 1)) 24576 T → WX h s.2.2.2 A g (i + 1) T W' →
    ∃ h' T' W'', Rk B_Wk_spread L_Wk_spread (Cc (d + 2)) 4 [aR (some 66), aR (some (xa x)), aR (some 16), aI (zI i), aR (some (22 + 3 * i)), aR (some (22 + 3 * (i + 1))), aI (zI (eX c)), aI x7, aL (zL a), aU, aI (zI (bg (rdr s x).2.2.2 (c.1 * 3 + l + 1))), aI (zI ((bg (rdr s x).2.2.2 (c.1 * 3 + l) + j : Nat) : Int)), aU, aU, aU, aU] [] h = Rk B_Wk_spread L_Wk_spread (Cc (d + 2)) 11 [aR (some 66), aR (some (xa x)), aR (some 16), aI (zI i), aR (some (22 + 3 * i)), aR (some (22 + 3 * (i + 1))), aI (zI (eX c)), aI x7, aU, aU, aU, aU, aU, aU, aU, aU] [] h' ∧ fr (fun b => spF (22 + 3 * (i + 1)) b ∨ b = A) h h' ∧ XI s h' ∧ SP h' (22 + 3 * (i + 1)) 24576 T' ∧ WX h' s.2.2.2 A g (i + 1) T' W'' ∧
      (∀ u, T' u = true ↔ T u = true ∨ ∃ (k t : Nat) (m : Mv) (c' : Cfg), j ≤ k ∧ (bk (rdr s x).2.2.2 (c.1 * 3 + l))[k]? = some t ∧ (rdr s x).2.2.2[t]? = some m ∧ stp m c (idn s.2.2.2 q.2) = some c' ∧ u = eX (stl (Lw s.2.2.2 (i + 1)) 0 c')) ∧
      ∀ R, min MANY (sums (fun e => W'' e * f e) UU + R) = min MANY (sums (fun e => W' e * f e) UU + (a * sums (adm (rdr s x) c (idn s.2.2.2 q.2) (Lw s.2.2.2 (i + 1)) f) ((bk (rdr s x).2.2.2 (c.1 * 3 + l)).drop j) + R)) := by
  have hc1 : c.1 < 6 := hc.1
  have hM : MANY = 1000000001 := rfl
  intro n
  induction n with
  | zero =>
    intro j h T W' hn px hr4 hsl pT wx
    have rd := px.rd x
    have h1 : bg (rdr s x).2.2.2 (c.1 * 3 + l + 1) ≤ 20 := Nat.le_trans (bg_le _ _) rd.1.2.2.2.2.1
    refine ⟨h, T, W', ?_, fr.rf _ h, px, pT, wx, fun u => ⟨Or.inl, ?_⟩, fun R => by rw [List.drop_eq_nil_of_le (by omega)]; simp [sums]⟩
    · rw [bg] at h1
      rw [E_Wk_spread_4, bg]
      simp (disch := omega) only [nlt]
      rw [if_neg (by omega)]
    · rintro (h | ⟨k, t, m, c', h1, h2, -⟩)
      · exact h
      · have := (List.getElem?_eq_some_iff.mp h2).1; omega
  | succ n ih =>
    intro j h T W' hn px hr4 hsl pT wx
    have hw := px.rw.1
    have hwl := hw.1
    obtain ⟨v0, v00, -⟩ := hw.at hq
    have hx16 := idn16 hw q.2
    have rd := px.rd x
    have h1 : bg (rdr s x).2.2.2 (c.1 * 3 + l + 1) ≤ 20 := Nat.le_trans (bg_le _ _) rd.1.2.2.2.2.1
    have hk : (bk (rdr s x).2.2.2 (c.1 * 3 + l))[j]? = some (bk (rdr s x).2.2.2 (c.1 * 3 + l))[j] := List.getElem?_eq_getElem (by omega)
    obtain ⟨m, hm, km⟩ := bk_mem hk
    have hmv := (rd.1.mi hm).1
    have hmk := (key_iff hmv.2.1 hl3).mp km
    obtain ⟨hAL, -⟩ := alv_al (idn16 hw) (s.2.2.2.drop (i + 1))
    have ob := zI_oX hmv hc hx16
    have hdr : (bk (rdr s x).2.2.2 (c.1 * 3 + l)).drop j = (bk (rdr s x).2.2.2 (c.1 * 3 + l))[j] :: (bk (rdr s x).2.2.2 (c.1 * 3 + l)).drop (j + 1) := List.drop_eq_getElem_cons (by omega)
    have e4 : Rk B_Wk_spread L_Wk_spread (Cc (d + 2)) 4 [aR (some 66), aR (some (xa x)), aR (some 16), aI (zI i), aR (some (22 + 3 * i)), aR (some (22 + 3 * (i + 1))), aI (zI (eX c)), aI x7, aL (zL a), aU, aI (zI (bg (rdr s x).2.2.2 (c.1 * 3 + l + 1))), aI (zI ((bg (rdr s x).2.2.2 (c.1 * 3 + l) + j : Nat) : Int)), aU, aU, aU, aU] [] h = Rk B_Wk_spread L_Wk_spread (Cc (d + 2)) 5 [aR (some 66), aR (some (xa x)), aR (some 16), aI (zI i), aR (some (22 + 3 * i)), aR (some (22 + 3 * (i + 1))), aI (zI (eX c)), aI x7, aL (zL a), aU, aI (zI (bg (rdr s x).2.2.2 (c.1 * 3 + l + 1))), aI (zI ((bg (rdr s x).2.2.2 (c.1 * 3 + l) + j : Nat) : Int)), aU, aU, aU, aU] [] h := by
      rw [bg] at h1
      rw [E_Wk_spread_4, bg]
      simp (disch := omega) only [nlt]
      rw [if_pos (by omega)]
    rw [e4, E_Wk_spread_5, obj_e rd.2.1.1, calI_e (Rd_moveAt _ rd (by omega) hk), obj_e (z16 px.1), calI_e (Rw_id _ px.rw hq), obj_e rd.2.1.1, calI_e (Rd_after _ rd hc hm hx16), lt_e]
    simp (disch := omega) only [ylt0]
    cases st : stp m c (idn s.2.2.2 q.2) with
    | none =>
      obtain ⟨h', T', W'', e, f1, px1, p1, wx1, q1, q2⟩ := ih (j + 1) h T W' (by omega) px hr4 hsl pT wx
      refine ⟨h', T', W'', ?_, f1, px1, p1, wx1, fun u => ?_, fun R => ?_⟩
      · rw [if_pos (by decide), E_Wk_spread_10, lt_e, nadd1]; exact e
      · rw [q1 u]
        constructor
        · rintro (h | ⟨k, t, m', c', h1, h2⟩)
          · exact Or.inl h
          · exact Or.inr ⟨k, t, m', c', by omega, h2⟩
        · rintro (h | ⟨k, t, m', c', h1, h2, h3, h4, h5⟩)
          · exact Or.inl h
          · by_cases z : k = j
            · subst z
              rw [hk] at h2
              cases h2
              rw [hm] at h3
              cases h3
              rw [st] at h4
              cases h4
            · exact Or.inr ⟨k, t, m', c', by omega, h2, h3, h4, h5⟩
      · have ea : adm (rdr s x) c (idn s.2.2.2 q.2) (Lw s.2.2.2 (i + 1)) f (bk (rdr s x).2.2.2 (c.1 * 3 + l))[j] = 0 := by
          unfold adm
          rw [hm]
          simp only
          unfold stp at st
          split at st
          · cases st
          · rename_i z; rw [if_neg z]
        rw [q2 R, hdr, sums, ea, Nat.zero_add]
    | some c1 =>
      have hv1 := stp_v hmv hc hx16 st
      have hdm := hdom m c1 st (List.mem_of_getElem? hm) hmk.1 hmk.2
      have hv2 := hdm.1
      have ok := dom_ok hw (by omega) hsl hdm
      have hpl := plc_lt ok
      obtain ⟨h1', e1, f1, p1⟩ := Sp_add (d + 1) pT (s := eX (stl (Lw s.2.2.2 (i + 1)) 0 c1)) (eX_lt hv2)
      have px1 := XI_sp px (by omega) f1 p1
      have nA : ¬ spF (22 + 3 * (i + 1)) A := by unfold spF; omega
      have n66 : ¬ spF (22 + 3 * (i + 1)) 66 := by unfold spF; omega
      have n68 : ¬ spF (22 + 3 * (i + 1)) 68 := by unfold spF; omega
      have hW := wx.2.2 (stl (Lw s.2.2.2 (i + 1)) 0 c1)
      -- the new number of ways
      have fin : ∃ h' T' W'', Rk B_Wk_spread L_Wk_spread (Cc (d + 2)) 9 [aR (some 66), aR (some (xa x)), aR (some 16), aI (zI i), aR (some (22 + 3 * i)), aR (some (22 + 3 * (i + 1))), aI (zI (eX c)), aI x7, aL (zL a), aU, aI (zI (bg (rdr s x).2.2.2 (c.1 * 3 + l + 1))), aI (zI ((bg (rdr s x).2.2.2 (c.1 * 3 + l) + j : Nat) : Int)), aU, aI (zI (plc g (stl (Lw s.2.2.2 (i + 1)) 0 c1))), aU, aU] [aL (zL (W' (stl (Lw s.2.2.2 (i + 1)) 0 c1)))] h1' = Rk B_Wk_spread L_Wk_spread (Cc (d + 2)) 11 [aR (some 66), aR (some (xa x)), aR (some 16), aI (zI i), aR (some (22 + 3 * i)), aR (some (22 + 3 * (i + 1))), aI (zI (eX c)), aI x7, aU, aU, aU, aU, aU, aU, aU, aU] [] h' ∧ fr (fun b => spF (22 + 3 * (i + 1)) b ∨ b = A) h h' ∧ XI s h' ∧ SP h' (22 + 3 * (i + 1)) 24576 T' ∧ WX h' s.2.2.2 A g (i + 1) T' W'' ∧
          (∀ u, T' u = true ↔ T u = true ∨ ∃ (k t : Nat) (m : Mv) (c' : Cfg), j ≤ k ∧ (bk (rdr s x).2.2.2 (c.1 * 3 + l))[k]? = some t ∧ (rdr s x).2.2.2[t]? = some m ∧ stp m c (idn s.2.2.2 q.2) = some c' ∧ u = eX (stl (Lw s.2.2.2 (i + 1)) 0 c')) ∧
          ∀ R, min MANY (sums (fun e => W'' e * f e) UU + R) = min MANY (sums (fun e => W' e * f e) UU + (a * sums (adm (rdr s x) c (idn s.2.2.2 q.2) (Lw s.2.2.2 (i + 1)) f) ((bk (rdr s x).2.2.2 (c.1 * 3 + l)).drop j) + R)) := by
        have f2 : fr (fun b => b = A) h1' (sL h1' A (plc g (stl (Lw s.2.2.2 (i + 1)) 0 c1)) (zL ((min MANY (W' (stl (Lw s.2.2.2 (i + 1)) 0 c1) + a) : Nat) : Int))) := fr_sL (F := fun b => b = A) h1' rfl _ _
        have px2 := XI_sc px1 f2 (fun b hb => by unfold nI'; omega) (fun _ _ => rfl)
        have f12 : fr (fun b => spF (22 + 3 * (i + 1)) b ∨ b = A) h _ := (f1.mo fun b hb => Or.inl hb).tr (f2.mo fun b hb => Or.inr hb)
        have p2 := p1.fr f2 (fun b hb => by unfold spF at hb; omega)
        obtain ⟨h', T', W'', e, f3, px3, p3, wx3, q1, q2⟩ := ih (j + 1) _ _ (upW W' (stl (Lw s.2.2.2 (i + 1)) 0 c1) (min MANY (W' (stl (Lw s.2.2.2 (i + 1)) 0 c1) + a))) (by omega) px2 (by show hR h1' 66 4 = some A; rw [f1.R n66]; exact hr4) (fun n hn => by show hI h1' 68 n = _ ∧ _; rw [f1.I n68]; exact hsl n hn) p2 (by
          refine ⟨?_, ?_, ?_⟩
          · intro c2 hc2 h2
            rw [Bool.or_eq_true, beq_iff_eq] at h2
            unfold upW
            by_cases z : c2 = stl (Lw s.2.2.2 (i + 1)) 0 c1
            · rw [z, if_pos rfl]; exact ⟨hdm, hL_hit _ _ _ _⟩
            · rw [if_neg z]
              rcases h2 with h2 | h2
              · obtain ⟨k1, k2⟩ := wx.1 c2 hc2 h2
                refine ⟨k1, ?_⟩
                rw [hL_off (Or.inr fun e => z (plc_inj g0 (fun n hn => (hsl n hn).2) (by omega) ds k1 hdm e)), f1.L nA]
                exact k2
              · exact absurd (eX_inj hc2 hv2 h2) z
          · intro c2 hc2 h2
            rw [Bool.or_eq_false_iff, beq_eq_false_iff_ne] at h2
            unfold upW
            rw [if_neg (fun e => h2.2 (by rw [e]))]
            exact wx.2.1 c2 hc2 h2.1
          · intro c2; unfold upW; split
            · exact Nat.min_le_left _ _
            · exact wx.2.2 c2)
        refine ⟨h', T', W'', ?_, f12.tr f3, px3, p3, wx3, fun u => ?_, fun R => ?_⟩
        · rw [E_Wk_spread_9, lt_e, obj_e (z66 px1.1), zL_add, show ((W' (stl (Lw s.2.2.2 (i + 1)) 0 c1) : Nat) : Int) + (a : Int) = ((W' (stl (Lw s.2.2.2 (i + 1)) 0 c1) + a : Nat) : Int) from rfl, calL_e (P_min _ h1' (by omega)), f1.R n66, hr4]
          rcases hA with rfl | rfl
          · simp (disch := omega) only [idx_n (z64 px1.1), lt_e]
            rw [E_Wk_spread_10, lt_e, nadd1]; exact e
          · simp (disch := omega) only [idx_n (z65 px1.1), lt_e]
            rw [E_Wk_spread_10, lt_e, nadd1]; exact e
        · rw [q1 u, Bool.or_eq_true, beq_iff_eq]
          constructor
          · rintro ((h | h) | ⟨k, t, m', c', h1, h2⟩)
            · exact Or.inl h
            · exact Or.inr ⟨j, _, m, c1, by omega, hk, hm, st, h⟩
            · exact Or.inr ⟨k, t, m', c', by omega, h2⟩
          · rintro (h | ⟨k, t, m', c', h1, h2, h3, h4, h5⟩)
            · exact Or.inl (Or.inl h)
            · by_cases z : k = j
              · subst z
                rw [hk] at h2
                cases h2
                rw [hm] at h3
                cases h3
                rw [st] at h4
                cases h4
                exact Or.inl (Or.inr h5)
              · exact Or.inr ⟨k, t, m', c', by omega, h2, h3, h4, h5⟩
        · have ea : adm (rdr s x) c (idn s.2.2.2 q.2) (Lw s.2.2.2 (i + 1)) f (bk (rdr s x).2.2.2 (c.1 * 3 + l))[j] = f (stl (Lw s.2.2.2 (i + 1)) 0 c1) := by
            unfold adm
            rw [hm]
            simp only
            unfold stp at st
            split at st
            · rename_i z; cases st; rw [if_pos z]
            · cases st
          rw [q2 R, upd_s UU_nd (UU_mem.mpr hv2), hdr, sums, ea, Nat.mul_add, Nat.add_assoc (a * f (stl (Lw s.2.2.2 (i + 1)) 0 c1))]
      rw [if_neg (by show ¬ ((eX c1 : Nat) : Int) < 0; omega), E_Wk_spread_6, show oX (some c1) = ((eX c1 : Nat) : Int) from rfl, nadd1, obj_e (z16 px.1), calI_e (Rw_alive _ px.rw (by omega)), zc0, calI_e (Rd_settle _ h hv1 hAL (o := 0) (by omega)), lt_e, obj_e (z66 px.1)]
      have eL : stl (lvs (idn s.2.2.2) (s.2.2.2.drop (i + 1))) 0 c1 = stl (Lw s.2.2.2 (i + 1)) 0 c1 := rfl
      rw [eL, calI_e (Wk_placeOf d px ok), lt_e, obj_e pT.1.1, calI_e e1]
      cases y : T (eX (stl (Lw s.2.2.2 (i + 1)) 0 c1)) with
      | true =>
        rw [if_pos rfl, if_pos zI_0.symm, E_Wk_spread_8, obj_e (z66 px1.1), f1.R n66, hr4]
        have hL := (wx.1 _ hv2 y).2
        rw [← f1.L nA] at hL
        rcases hA with rfl | rfl
        · simp (disch := omega) only [idx_n (z64 px1.1), hL]; exact fin
        · simp (disch := omega) only [idx_n (z65 px1.1), hL]; exact fin
      | false =>
        rw [show (if false = true then (0 : Int) else 1) = 1 from rfl, if_neg (by decide), E_Wk_spread_7]
        have h0 := wx.2.1 _ hv2 y
        rw [h0] at fin
        exact fin
