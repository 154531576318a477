/-! the class: spread over all spots, runs -/
theorem spr_lp (d : Nat) {s : Stt} {x : Int} {i l A A' : Nat} {q : Int × Int} {g : Nat → Nat} {S : Nat → Bool} {W : Cfg → Nat} (f : Cfg → Nat) (hg : gaps s.2.2.2 = 0) (hq : s.2.2.2[i]? = some q) (hl : q.1 = (l : Int)) (hl3 : l < 3) (g0 : g 0 = 0) (ds : DST s.2.2.2 g (i + 1)) (hA : (A = 64 ∧ A' = 65) ∨ (A = 65 ∧ A' = 64)) (hS : RQS S (rdr s x) (prs s.2.2.2 i) (Lw s.2.2.2 i)) : ∀ (n u : Nat) (h : AH) (T : Nat → Bool) (W' : Cfg → Nat), (els S 24576 u).length = n → XI s h → hR h 66 3 = some A' → hR h 66 4 = some A → slH h s.2.2.2 g → SP h (22 + 3 * i) 24576 S → WX h s.2.2.2 A' g i S W → SP h (22 + 3 * (i + 1)) 24576 T → WX h s.2.2.2 A g (i + 1) T W' →
    ∃ h' T' W'', Rk B_Wk_spread L_Wk_spread (Cc (d + 4)) 1 [aR (some 66), aR (some (xa x)), aR (some 16), aI (zI i), aR (some (22 + 3 * i)), aR (some (22 + 3 * (i + 1))), aI (zI (hd (els S 24576 u))), aI (zI n), aU, aU, aU, aU, aU, aU, aU, aU] [] h = some (none, h') ∧ fr (fun b => spF (22 + 3 * (i + 1)) b ∨ b = A) h h' ∧ XI s h' ∧ SP h' (22 + 3 * (i + 1)) 24576 T' ∧ WX h' s.2.2.2 A g (i + 1) T' W'' ∧
      (∀ v, T' v = true ↔ T v = true ∨ ∃ (c c' : Cfg), CV c ∧ u ≤ eX c ∧ S (eX c) = true ∧ stq (rdr s x) c l (idn s.2.2.2 q.2) c' ∧ v = eX (stl (Lw s.2.2.2 (i + 1)) 0 c')) ∧
      ∀ R, min MANY (sums (fun e => W'' e * f e) UU + R) = min MANY (sums (fun e => W' e * f e) UU + (sums (fun v => W (dX v) * sums (fun m => if canB m (dX v) l (idn s.2.2.2 q.2) then f (stl (Lw s.2.2.2 (i + 1)) 0 (goC m (dX v) (idn s.2.2.2 q.2))) else 0) (rdr s x).2.2.2) (els S 24576 u) + R)) := by
  intro n
  induction n with
  | zero =>
    intro u h T W' hn px hr3 hr4 hsl pS wS pT wT
    refine ⟨h, T, W', ?_, fr.rf _ h, px, pT, wT, fun v => ⟨Or.inl, ?_⟩, fun R => by rw [List.eq_nil_of_length_eq_zero hn]; simp [sums]⟩
    · rw [E_Wk_spread_1, if_pos (by decide), E_Wk_spread_12]
    · rintro (h | ⟨c, c', h1, h2, h3, h4⟩)
      · exact h
      · have : eX c ∈ els S 24576 u := els_mem.mpr ⟨h2, eX_lt h1, h3⟩
        rw [List.eq_nil_of_length_eq_zero hn] at this
        simp at this
  | succ n ih =>
    intro u h T W' hn px hr3 hr4 hsl pS wS pT wT
    have hw := px.rw.1
    have hwl := hw.1
    obtain ⟨v0, v00, -⟩ := hw.at hq
    obtain ⟨nn1, nn2⟩ := nogap hg hq
    have rd := px.rd x
    match hels : els S 24576 u, hn with
    | v :: rest, hn =>
      obtain ⟨u1, u2, u3, u4⟩ := els_head hels
      have hcv := dX_v u2
      have hev : eX (dX v) = v := eX_d
      have hqv : v / 4096 = (dX v).1 := rfl
      have hn2 : n ≤ 24576 := by
        have h1 : (els S 24576 u).length ≤ 24576 - u := by unfold els; exact Nat.le_trans (List.length_filter_le _ _) (by simp)
        rw [hels, hn] at h1
        omega
      have hSv : S (eX (dX v)) = true := by rw [hev]; exact u3
      obtain ⟨wd, wL⟩ := wS.1 _ hcv hSv
      have ok := dom_ok hw (by omega) hsl wd
      have hpl := plc_lt ok
      have hW := wS.2.2 (dX v)
      have hdom : ∀ m c', stp m (dX v) (idn s.2.2.2 q.2) = some c' → m ∈ (rdr s x).2.2.2 → m.1 = (dX v).1 → m.2.1 = l → domC s.2.2.2 (i + 1) (stl (Lw s.2.2.2 (i + 1)) 0 c') := by
        intro m c' h1 h2 h3 h4
        obtain ⟨c1, k1, k2⟩ := (hS _).mp hSv
        have hc1 := rq_v rd.1 _ c1 (prs_b hw i) k1
        have e : dX v = stl (Lw s.2.2.2 i) 0 c1 := eX_inj hcv (stl_v hc1 (by omega)) k2
        rw [e] at h1 h3
        obtain ⟨t, ht, et⟩ := List.getElem_of_mem h2
        obtain ⟨c2, k3, k4⟩ := (stl_q (r := rdr s x) (c := c1) (l := l) (lvs_x hq) (idn_pos hq nn2) (lvs_0 (idn s.2.2.2) (s.2.2.2.drop (i + 1))) (fun n => lvs_s (f := idn s.2.2.2) (w := s.2.2.2) (i := i) n) (stl (Lw s.2.2.2 (i + 1)) 0 c')).mp ⟨c', ⟨t, m, by rw [List.getElem?_eq_getElem ht, et], h3, h4, h1⟩, rfl⟩
        rw [k4]
        exact dom_stl rd.1 hw hg (by omega) (by rw [prs_s hq, hl]; exact ⟨c1, k1, k3⟩)
      have nA : ¬ spF (22 + 3 * (i + 1)) A' := by unfold spF; omega
      obtain ⟨h1, T1, W1, e1, f1, px1, p1, wx1, q1, q2⟩ := spr_in (d + 2) (x7 := zI ((n + 1 : Nat) : Int)) f hg hq hl hl3 g0 ds (by omega) hW hcv hdom (bk (rdr s x).2.2.2 ((dX v).1 * 3 + l)).length 0 h T W' (Nat.zero_add _) px hr4 hsl pT wT
      have nfa : ∀ b, b = 66 ∨ b = 68 ∨ b = A' ∨ spF (22 + 3 * i) b → ¬ (spF (22 + 3 * (i + 1)) b ∨ b = A) := by
        intro b hb; unfold spF at *; omega
      have pS1 := pS.fr f1 (fun b hb => nfa b (Or.inr (Or.inr (Or.inr hb))))
      have wS1 : WX h1 s.2.2.2 A' g i S W := ⟨fun c hc hh => by
        obtain ⟨k1, k2⟩ := wS.1 c hc hh
        exact ⟨k1, by rw [f1.L (nfa A' (by simp))]; exact k2⟩, wS.2⟩
      have hr : (els S 24576 (v + 1)).length = n := by rw [← u4]; simpa using hn
      obtain ⟨h2, T2, W2, e2, f2, px2, p2, wx2, q3, q4⟩ := ih (v + 1) h1 T1 W1 hr px1 (by rw [f1.R (nfa 66 (by simp))]; exact hr3) (by rw [f1.R (nfa 66 (by simp))]; exact hr4) (fun n hn => by rw [f1.I (nfa 68 (by simp))]; exact hsl n hn) pS1 wS1 p1 wx1
      refine ⟨h2, T2, W2, ?_, f1.tr f2, px2, p2, wx2, fun z => ?_, fun R => ?_⟩
      · rw [E_Wk_spread_1]
        simp (disch := omega) only [nle0]
        rw [if_neg (by omega), E_Wk_spread_2, show hd (v :: rest) = ((v : Nat) : Int) from rfl]
        simp (disch := omega) only [nlt0, if_false]
        have cp := Wk_placeOf (d + 2) px ok
        rw [hev] at cp e1
        rw [E_Wk_spread_3, obj_e (z66 px.1), obj_e (z66 px.1), calI_e cp, hr3]
        have body : ∀ z : Int64, z = zL (W (dX v)) → (lt z fun v6 => obj h 5 (some 16) fun _ => calI (Cc (d + 4) k_Rw_letter [aR (some 16), aI (zI i)] h) fun v7 h8 => obj h8 4 (some (xa x)) fun _ => calI (Cc (d + 4) k_Rd_end [aR (some (xa x)), aI (zI v), aI v7] h8) fun v9 h10 => lt v9 fun v11 => obj h10 5 (some 16) fun _ => calI (Cc (d + 4) k_Rw_letter [aR (some 16), aI (zI i)] h10) fun v12 h13 => obj h13 4 (some (xa x)) fun _ => calI (Cc (d + 4) k_Rd_begin [aR (some (xa x)), aI (zI v), aI v12] h13) fun v14 h15 => lt v14 fun v16 => Rk B_Wk_spread L_Wk_spread (Cc (d + 4)) 4 [aR (some 66), aR (some (xa x)), aR (some 16), aI (zI i), aR (some (22 + 3 * i)), aR (some (22 + 3 * (i + 1))), aI (zI v), aI (zI ((n + 1 : Nat) : Int)), aL v6, aU, aI v11, aI v16, aU, aU, aU, aU] [] h15) = some (none, h2) := by
          intro z hz
          rw [hz, lt_e, obj_e (z16 px.1), calI_e (Rw_letter _ px.rw hq), hl, obj_e rd.2.1.1, calI_e (Rd_end _ rd u2 hl3), lt_e, obj_e (z16 px.1), calI_e (Rw_letter _ px.rw hq), hl, obj_e rd.2.1.1, calI_e (Rd_begin _ rd u2 hl3), lt_e, hqv]
          refine Eq.trans e1 ?_
          rw [E_Wk_spread_11, obj_e pS1.1.1, nadd1, calI_e (Sp_next _ pS1 (by omega)), lt_e, lt_e, ndec (by omega), Nat.add_sub_cancel]
          exact e2
        rcases hA with ⟨rfl, rfl⟩ | ⟨rfl, rfl⟩
        · simp (disch := omega) only [idx_n (z65 px.1)]; exact body _ wL
        · simp (disch := omega) only [idx_n (z64 px.1)]; exact body _ wL
      · rw [q3 z, q1 z]
        constructor
        · rintro ((h | ⟨k, t, m, c', h1, h2, h3, h4, h5⟩) | ⟨c, c', h1, h2, h3⟩)
          · exact Or.inl h
          · obtain ⟨m', hm', km⟩ := bk_iff.mp ⟨k, h2⟩
            rw [h3] at hm'
            cases hm'
            have hmv := (rd.1.mi h3).1
            have := (key_iff hmv.2.1 hl3).mp km
            exact Or.inr ⟨dX v, c', hcv, by rw [hev]; exact u1, hSv, ⟨t, m, h3, this.1, this.2, h4⟩, h5⟩
          · exact Or.inr ⟨c, c', h1, by omega, h3⟩
        · rintro (h | ⟨c, c', h1, h2, h3, ⟨t, m, k1, k2, k3, k4⟩, h5⟩)
          · exact Or.inl (Or.inl h)
          · by_cases y : eX c = v
            · have : c = dX v := by rw [← y, dX_e h1]
              subst this
              have hmv := (rd.1.mi k1).1
              obtain ⟨k, hk⟩ := bk_iff.mpr ⟨m, k1, (key_iff hmv.2.1 hl3).mpr ⟨k2, k3⟩⟩
              exact Or.inl (Or.inr ⟨k, t, m, c', by omega, hk, k1, k4, h5⟩)
            · have : eX c ∈ els S 24576 u := els_mem.mpr ⟨h2, eX_lt h1, h3⟩
              rw [hels] at this
              rcases List.mem_cons.mp this with y' | y'
              · exact absurd y' y
              · rw [u4] at y'
                exact Or.inr ⟨c, c', h1, (els_mem.mp y').1, h3, ⟨t, m, k1, k2, k3, k4⟩, h5⟩
      · rw [q4 R, q2, List.drop_zero, adm_s rd.1 hl3, sums, ← u4, Nat.add_assoc (W (dX v) * _)]
