/-! the class: runs -/
theorem P_min2 (d : Nat) (h : AH) {v : Nat} (hv : v ≤ 9000000000000000000) : Cc (d + 1) 5 [aL (zL v), aL (zL 1000000001)] h = some (some (aL (zL ((min MANY v : Nat) : Int))), h) := by
  show some (some (aL (if zL 1000000001 < zL v then zL 1000000001 else zL v)), h) = _
  have hM : MANY = 1000000001 := rfl
  simp (disch := omega) only [yl_lt]
  by_cases z : (1000000001 : Int) < v
  · rw [if_pos z, Nat.min_eq_left (by omega)]; rfl
  · rw [if_neg z, Nat.min_eq_right (by omega)]
theorem l2i_m {v : Nat} (h : v ≤ MANY) : Int64.toInt32 (zL v) = zI v := by
  have hM : MANY = 1000000001 := rfl
  apply Int32.toInt_inj.mp
  rw [zI_toInt (by omega) (by omega), Int64.toInt_toInt32, zL_toInt (by omega) (by omega)]
  rw [Int.bmod_eq_of_le (by omega) (by omega)]
theorem XI_rf {s : Stt} {h h' : AH} (p : XI s h) (f : fr (fun b => b = 66 ∨ b = 69 ∨ b = 74 ∨ b = 77 ∨ b = 79 ∨ b = 83) h h') (hF : XF h') (q1 : prr h' 66 3 4 64 65) (q2 : prr h' 74 2 3 22 25) (q3 : prr h' 74 4 5 64 65) (q4 : prr h' 79 4 5 22 25) (q5 : prr h' 83 1 2 87 90) : XI s h' := by
  obtain ⟨p1, p2, p3, p4, p5, p6, p7, p8⟩ := p
  refine ⟨f.1.trans p1, hF, p3.fr f (by omega), p4.fr f (by omega), p5.fr f (by omega), p6.fr f (by omega) (by omega), p7.fr f (by omega), ?_⟩
  obtain ⟨a1, a2, a3, a4, -, -, -, -, -, q6⟩ := p8
  refine ⟨?_, ?_, ?_, ?_, q1, q2, q3, q4, q5, ?_⟩
  · intro j hj
    obtain ⟨⟨T, hT⟩, e⟩ := a1 j hj
    exact ⟨⟨T, hT.fr f (fun b hb => by unfold spF at hb; omega)⟩, by rw [f.R (by omega)]; exact e⟩
  · obtain ⟨T, hT⟩ := a2; exact ⟨T, hT.fr f (fun b hb => by unfold spF at hb; omega)⟩
  · obtain ⟨T, hT⟩ := a3; exact ⟨T, hT.fr f (fun b hb => by unfold spF at hb; omega)⟩
  · obtain ⟨T, hT⟩ := a4; exact ⟨T, hT.fr f (fun b hb => by unfold spF at hb; omega)⟩
  · exact ⟨fun j hj => by rw [f.I (by omega)]; exact q6.1 j hj, by rw [f.I (by omega)]; exact q6.2⟩
theorem XI_sw66 {s : Stt} {h : AH} {A A' : Nat} (p : XI s h) (hA : (A = 64 ∧ A' = 65) ∨ (A = 65 ∧ A' = 64)) : XI s (sR (sR h 66 3 (some A)) 66 4 (some A')) := by
  have f : fr (fun b => b = 66 ∨ b = 69 ∨ b = 74 ∨ b = 77 ∨ b = 79 ∨ b = 83) h (sR (sR h 66 3 (some A)) 66 4 (some A')) := (fr_sR h (Or.inl rfl) _ _).tr (fr_sR _ (Or.inl rfl) _ _)
  have f66 : fr (fun b => b = 66) h (sR (sR h 66 3 (some A)) 66 4 (some A')) := (fr_sR (F := fun b => b = 66) h rfl _ _).tr (fr_sR (F := fun b => b = 66) _ rfl _ _)
  have xr := p.2.2.2.2.2.2.2
  refine XI_rf p f (p.2.1.mv (fun t ht => ?_)) ?_ (xr.2.2.2.2.2.1.fr f66 (by omega)) (xr.2.2.2.2.2.2.1.fr f66 (by omega)) (xr.2.2.2.2.2.2.2.1.fr f66 (by omega)) (xr.2.2.2.2.2.2.2.2.1.fr f66 (by omega))
  · have : ∀ t, t ∈ XRefs → t.1 ≠ 66 ∨ (t.2.1 ≠ 3 ∧ t.2.1 ≠ 4) := by decide
    have ht2 := this t ht
    rw [hR_off (by omega), hR_off (by omega)]
  · unfold prr
    rw [hR_off (by omega), hR_hit, hR_hit]
    rcases hA with ⟨rfl, rfl⟩ | ⟨rfl, rfl⟩
    · exact Or.inl ⟨rfl, rfl⟩
    · exact Or.inr ⟨rfl, rfl⟩
theorem upW_one {U : List Cfg} {f : Cfg → Nat} {c : Cfg} (nd : U.Nodup) (hc : c ∈ U) : sums (fun d => upW (fun _ => 0) c 1 d * f d) U = f c := by
  rw [sums_er U hc, sums_0 (U.erase c) (fun d hd => by
    have := (List.Nodup.mem_erase_iff nd).mp hd
    unfold upW; rw [if_neg this.1, Nat.zero_mul])]
  unfold upW
  rw [if_pos rfl, Nat.zero_add, Nat.one_mul]
theorem pot_s {W W' f g : Cfg → Nat} {F : Nat → Nat} {U : List Cfg} {E : List Nat} {N : Nat} (k : ∀ R, min MANY (sums (fun e => W' e * f e) U + R) = min MANY (sums (fun e => (fun _ => 0) e * f e) U + (sums F E + R))) (e3 : sums F E = sums (fun v => W (dX v) * g (dX v)) E) (e4 : sums (fun v => (fun c => W c * g c) (dX v)) E = sums (fun c => W c * g c) U) (pot : min MANY (sums (fun c => W c * g c) U) = N) : min MANY (sums (fun e => W' e * f e) U) = N := by
  have k := k 0
  have e0 : sums (fun _ : Cfg => 0) U = 0 := sums_0 U (fun _ _ => rfl)
  simp only [Nat.add_zero, Nat.zero_mul, e0, Nat.zero_add] at k
  have e4' : sums (fun v => W (dX v) * g (dX v)) E = sums (fun c => W c * g c) U := e4
  rw [k, e3, e4', pot]
/-- one level -/
def LVL (h : AH) (s : Stt) (x : Int) (g : Nat → Nat) (i A' A : Nat) (S : Nat → Bool) (W : Cfg → Nat) : Prop := XI s h ∧ hR h 66 3 = some A' ∧ hR h 66 4 = some A ∧ slH h s.2.2.2 g ∧ SP h (22 + 3 * i) 24576 S ∧ RQS S (rdr s x) (prs s.2.2.2 i) (Lw s.2.2.2 i) ∧ WX h s.2.2.2 A' g i S W ∧ min MANY (sums (fun c => W c * nr (rdr s x) (sfx s.2.2.2 i) c) UU) = min MANY (nr (rdr s x) (sfx s.2.2.2 0) c0)
theorem els_U {S : Nat → Bool} {F : Cfg → Nat} (h0 : ∀ c, CV c → S (eX c) = false → F c = 0) : sums (fun v => F (dX v)) (els S 24576 0) = sums F UU := by
  unfold els UU
  rw [sums_fil, sums_map, List.range_eq_range']
  apply sums_c
  intro v hv
  rw [List.mem_range'_1] at hv
  cases y : S v with
  | true => rw [if_pos rfl]
  | false => rw [if_neg (by simp), h0 (dX v) (dX_v (by omega)) (by rw [eX_d]; exact y)]
theorem Wk_spread (d : Nat) {s : Stt} {x : Int} {i A A' : Nat} {g : Nat → Nat} {h : AH} {S : Nat → Bool} {W : Cfg → Nat} (hg : gaps s.2.2.2 = 0) (hi : i < s.2.2.2.length) (g0 : g 0 = 0) (ds : DST s.2.2.2 g (i + 1)) (hA : (A = 64 ∧ A' = 65) ∨ (A = 65 ∧ A' = 64)) (lv : LVL h s x g i A' A S W) :
    ∃ h' T W', Cc (d + 5) k_Wk_spread [aR (some 66), aR (some (xa x)), aR (some 16), aI (zI i)] h = some (none, h') ∧ fr (fun b => spF (22 + 3 * (i + 1)) b ∨ b = A) h h' ∧ LVL (sR (sR h' 66 3 (some A)) 66 4 (some A')) s x g (i + 1) A A' T W' ∧ XI s h' ∧ hR h' 66 3 = some A' ∧ hR h' 66 4 = some A := by
  obtain ⟨px, hr3, hr4, hsl, pS, hS, wS, pot⟩ := lv
  have hw := px.rw.1
  have hwl := hw.1
  have hq : s.2.2.2[i]? = some s.2.2.2[i] := List.getElem?_eq_getElem hi
  obtain ⟨v0, v00, v1, v2, v3, v4⟩ := hw.at hq
  obtain ⟨n1, n2⟩ := nogap hg hq
  obtain ⟨l, hl2⟩ : ∃ l : Nat, s.2.2.2[i].1 = l := ⟨s.2.2.2[i].1.toNat, by omega⟩
  obtain ⟨⟨T0, hT0⟩, e0⟩ := px.set (k := i + 1) (by omega)
  obtain ⟨h1, e1, f1, p1⟩ := Sp_clear (d + 1) hT0
  have px1 := XI_sp px (by omega) f1 p1
  have nf : ∀ b, b = 66 ∨ b = 68 ∨ b = A' ∨ spF (22 + 3 * i) b → ¬ spF (22 + 3 * (i + 1)) b := by intro b hb; unfold spF at *; omega
  have pS1 := pS.fr f1 (fun b hb => nf b (Or.inr (Or.inr (Or.inr hb))))
  obtain ⟨h2, T, W', e2, f2, px2, p2, wx2, q1, q2⟩ := spr_lp d (x := x) (W := W) (fun c => nr (rdr s x) (sfx s.2.2.2 (i + 1)) c) hg hq hl2 (by omega) g0 ds hA hS _ 0 h1 (fun _ => false) (fun _ => 0) rfl px1 (by rw [f1.R (nf 66 (by simp))]; exact hr3) (by rw [f1.R (nf 66 (by simp))]; exact hr4) (fun n hn => by rw [f1.I (nf 68 (by simp))]; exact hsl n hn) pS1 ⟨fun c hc hh => by
      obtain ⟨k1, k2⟩ := wS.1 c hc hh
      exact ⟨k1, by rw [f1.L (nf A' (by simp))]; exact k2⟩, wS.2⟩ p1 ⟨fun c hc hh => (by cases hh), fun _ _ _ => rfl, fun _ => Nat.zero_le _⟩
  have f12 : fr (fun b => spF (22 + 3 * (i + 1)) b ∨ b = A) h h2 := (f1.mo fun b hb => Or.inl hb).tr f2
  have nf2 : ∀ b, b = 66 ∨ b = 68 → ¬ (spF (22 + 3 * (i + 1)) b ∨ b = A) := by intro b hb; unfold spF; omega
  have hr3' : hR h2 66 3 = some A' := by rw [f12.R (nf2 66 (by simp))]; exact hr3
  have hr4' : hR h2 66 4 = some A := by rw [f12.R (nf2 66 (by simp))]; exact hr4
  refine ⟨h2, T, W', ?_, f12, ⟨XI_sw66 px2 hA, ?_, ?_, ?_, ?_, ?_, wx2, ?_⟩, px2, hr3', hr4'⟩
  · rw [C_Wk_spread, E_Wk_spread_0, obj_e (z66 px.1), px.r (a := 66) (j := 0) (c := 21) (by decide)]
    simp (disch := omega) only [idx_n (z21 px.1), obj_e (z66 px.1), nadd1]
    rw [px.r (a := 66) (j := 0) (c := 21) (by decide)]
    simp (disch := omega) only [idx_n (z21 px.1)]
    rw [e0, obj_e hT0.1.1, calV_e e1, (px.set (k := i) (by omega)).2, obj_e pS1.1.1, zc0, calI_e (Sp_next _ pS1 (by omega)), lt_e, obj_e pS1.1.1, calI_e (Sp_size _ pS1), lt_e, els_cn]
    exact e2
  · rw [hR_off (by omega), hR_hit]
  · rw [hR_hit]
  · intro n hn; show hI h2 68 n = _ ∧ _; rw [f12.I (nf2 68 (by simp))]; exact hsl n hn
  · exact p2.fr ((fr_sR (F := fun b => b = 66) h2 rfl _ _).tr (fr_sR (F := fun b => b = 66) _ rfl _ _)) (fun b hb => by unfold spF at hb; omega)
  · have := RQS_s (T := T) (l := l) (px.rd x).1 (prs_b hw i) hS (lvs_x hq) (idn_pos hq n2) (lvs_0 (idn s.2.2.2) (s.2.2.2.drop (i + 1))) (fun n => lvs_s (f := idn s.2.2.2) (w := s.2.2.2) (i := i) n) (by
      intro v
      rw [q1 v]
      constructor
      · rintro (h | ⟨c, c', a1, a2, a3⟩)
        · cases h
        · exact ⟨c, c', a1, a3⟩
      · rintro ⟨c, c', a1, a3⟩; exact Or.inr ⟨c, c', a1, Nat.zero_le _, a3⟩)
    rw [prs_s hq, hl2]; exact this
  · have e3 : sums (fun v => W (dX v) * sums (fun m => if canB m (dX v) l (idn s.2.2.2 s.2.2.2[i].2) then nr (rdr s x) (sfx s.2.2.2 (i + 1)) (stl (Lw s.2.2.2 (i + 1)) 0 (goC m (dX v) (idn s.2.2.2 s.2.2.2[i].2))) else 0) (rdr s x).2.2.2) (els S 24576 0) = sums (fun v => W (dX v) * nr (rdr s x) (sfx s.2.2.2 i) (dX v)) (els S 24576 0) := by
      apply sums_c
      intro v _
      rw [nr_s hq hl2]
      refine congrArg (W (dX v) * ·) (sums_c _ ?_)
      intro m _
      by_cases y : canB m (dX v) l (idn s.2.2.2 s.2.2.2[i].2) = true
      · rw [if_pos y, if_pos y, nr_stl (s.2.2.2.length - (i + 1)) (i + 1) _ (by omega) (fun j p _ hp => (nogap hg hp).2)]
      · rw [if_neg y, if_neg y]
    exact pot_s q2 e3 (els_U (S := S) (F := fun c => W c * nr (rdr s x) (sfx s.2.2.2 i) c) (fun c hc hh => by rw [wS.2.1 c hc hh, Nat.zero_mul])) pot
theorem rtt_lp (d : Nat) {s : Stt} {x : Int} {g : Nat → Nat} (hg : gaps s.2.2.2 = 0) (g0 : g 0 = 0) (ds : ∀ i, i ≤ s.2.2.2.length → DST s.2.2.2 g i) : ∀ (n i A A' : Nat) (h : AH) (S : Nat → Bool) (W : Cfg → Nat), i + n = s.2.2.2.length → ((A = 64 ∧ A' = 65) ∨ (A = 65 ∧ A' = 64)) → LVL h s x g i A' A S W →
    ∃ h' A A' S W, Rk B_Wk_runsThatTake L_Wk_runsThatTake (Cc (d + 5)) 1 [aR (some 66), aR (some (xa x)), aR (some 16), aI (zI i), aU, aU, aU, aU] [] h = Rk B_Wk_runsThatTake L_Wk_runsThatTake (Cc (d + 5)) 3 [aR (some 66), aR (some (xa x)), aR (some 16), aU, aU, aU, aU, aU] [] h' ∧ fr (fun a => a < 94) h h' ∧ ((A = 64 ∧ A' = 65) ∨ (A = 65 ∧ A' = 64)) ∧ LVL h' s x g s.2.2.2.length A' A S W
  | 0, i, A, A', h, S, W, hn, hA, lv => by
    have px := lv.1
    have hw := px.rw.1
    have hwl := hw.1
    have : i = s.2.2.2.length := by omega
    subst this
    refine ⟨h, A, A', S, W, ?_, fr.rf _ h, hA, lv⟩
    rw [E_Wk_runsThatTake_1, obj_e (z16 px.1), calI_e (Rw_size _ px.rw)]
    simp (disch := omega) only [nlt]
    rw [if_neg (by omega)]
  | n + 1, i, A, A', h, S, W, hn, hA, lv => by
    have px := lv.1
    have hw := px.rw.1
    have hwl := hw.1
    obtain ⟨h1, T, W1, e1, f1, lv1, px1, r3, r4⟩ := Wk_spread d hg (by omega) g0 (ds (i + 1) (by omega)) hA lv
    obtain ⟨h2, B, B', S2, W2, e2, f2, hB, lv2⟩ := rtt_lp d hg g0 ds n (i + 1) A' A _ T W1 (by omega) (by omega) lv1
    refine ⟨h2, B, B', S2, W2, ?_, ((f1.mo (fun b hb => by unfold spF at hb; omega)).tr ((fr_sR h1 (by omega) _ _).tr (fr_sR _ (by omega) _ _))).tr f2, hB, lv2⟩
    rw [E_Wk_runsThatTake_1, obj_e (z16 px.1), calI_e (Rw_size _ px.rw)]
    simp (disch := omega) only [nlt]
    rw [if_pos (by omega), E_Wk_runsThatTake_2, obj_e (z66 px.1), calV_e e1]
    simp only [obj_e (z66 px1.1), r3, r4, mb_some, obj_sR, lt_e, nadd1]
    exact e2
theorem rtt_sum (d : Nat) {s : Stt} {x : Int} {i A A' : Nat} {g : Nat → Nat} {h : AH} {S : Nat → Bool} {W : Cfg → Nat} (hi : i ≤ s.2.2.2.length) (hA : (A = 64 ∧ A' = 65) ∨ (A = 65 ∧ A' = 64)) (px : XI s h) (hr3 : hR h 66 3 = some A') (hsl : slH h s.2.2.2 g) (pS : SP h (22 + 3 * i) 24576 S) (wS : WX h s.2.2.2 A' g i S W) : ∀ (n u v : Nat), (els S 24576 u).length = n → v + n * 1000000001 ≤ 24576 * 1000000001 → Rk B_Wk_runsThatTake L_Wk_runsThatTake (Cc (d + 3)) 4 [aR (some 66), aR (some (xa x)), aU, aR (some (22 + 3 * i)), aL (zL v), aU, aI (zI (hd (els S 24576 u))), aI (zI n)] [] h = some (some (aI (zI ((min MANY (v + sums (fun z => W (dX z) * (if tks (rdr s x) (dX z).1 then 1 else 0)) (els S 24576 u)) : Nat) : Int))), h) := by
  have hM : MANY = 1000000001 := rfl
  intro n
  induction n with
  | zero =>
    intro u v hn hv
    rw [E_Wk_runsThatTake_4, if_pos (by decide), E_Wk_runsThatTake_10, calL_e (P_min2 _ h (by omega)), List.eq_nil_of_length_eq_zero hn, l2i_m (Nat.min_le_left _ _)]
    simp [sums]
  | succ n ih =>
    intro u v hn hv
    have hw := px.rw.1
    have rd := px.rd x
    match hels : els S 24576 u, hn with
    | z :: rest, hn =>
      obtain ⟨u1, u2, u3, u4⟩ := els_head hels
      have hcv := dX_v u2
      have hev : eX (dX z) = z := eX_d
      have hn2 : n ≤ 24576 := by
        have h1 : (els S 24576 u).length ≤ 24576 - u := by unfold els; exact Nat.le_trans (List.length_filter_le _ _) (by simp)
        rw [hels, hn] at h1
        omega
      have hSv : S (eX (dX z)) = true := by rw [hev]; exact u3
      obtain ⟨wd, wL⟩ := wS.1 _ hcv hSv
      have ok := dom_ok hw hi hsl wd
      have hpl := plc_lt ok
      have hW := wS.2.2 (dX z)
      have hr : (els S 24576 (z + 1)).length = n := by rw [← u4]; simpa using hn
      have b9 : ∀ a : Nat, a ≤ MANY → a = W (dX z) * (if tks (rdr s x) (dX z).1 then 1 else 0) → Rk B_Wk_runsThatTake L_Wk_runsThatTake (Cc (d + 3)) 9 [aR (some 66), aR (some (xa x)), aU, aR (some (22 + 3 * i)), aU, aU, aI (zI z), aI (zI ((n + 1 : Nat) : Int))] [aL (zL a), aL (zL v)] h = some (some (aI (zI ((min MANY (v + sums (fun z => W (dX z) * (if tks (rdr s x) (dX z).1 then 1 else 0)) (z :: rest)) : Nat) : Int))), h) := by
        intro a ha hae
        rw [E_Wk_runsThatTake_9, lt_e, zL_add, obj_e pS.1.1, nadd1, calI_e (Sp_next _ pS (by omega)), lt_e, lt_e, ndec (by omega), Nat.add_sub_cancel, show ((v : Nat) : Int) + (a : Int) = ((v + a : Nat) : Int) from rfl, ih (z + 1) (v + a) hr (by omega), sums, ← hae, u4, Nat.add_assoc]
      rw [E_Wk_runsThatTake_4]
      simp (disch := omega) only [nle0]
      rw [if_neg (by omega), E_Wk_runsThatTake_5, show hd (z :: rest) = ((z : Nat) : Int) from rfl]
      simp (disch := omega) only [nlt0, if_false]
      rw [E_Wk_runsThatTake_6, obj_e rd.2.1.1, calI_e (Rd_takesAt _ rd u2), if01, show z / 4096 = (dX z).1 from rfl]
      cases y : tks (rdr s x) (dX z).1 with
      | true =>
        have cp := Wk_placeOf (d + 1) px ok
        rw [hev] at cp
        rw [if_pos rfl, E_Wk_runsThatTake_7, obj_e (z66 px.1), obj_e (z66 px.1), calI_e cp, hr3]
        rcases hA with ⟨rfl, rfl⟩ | ⟨rfl, rfl⟩
        · simp (disch := omega) only [idx_n (z65 px.1), wL]; exact b9 _ hW (by rw [y]; simp)
        · simp (disch := omega) only [idx_n (z64 px.1), wL]; exact b9 _ hW (by rw [y]; simp)
      | false =>
        rw [if_neg (by simp), E_Wk_runsThatTake_8]
        exact b9 0 (by omega) (by rw [y]; simp)
theorem X_runs {x : Int} (x1 : -2147483648 ≤ x) (x2 : x < 2147483648) : XOK k_X_runs [aI (zI x)] (fun s => if x = 0 ∨ x = 1 then (if gaps s.2.2.2 = 0 then ((min MANY (nr (rdr s x) (sfx s.2.2.2 0) c0) : Nat) : Int) else -4) else -2) id := by
  intro s h p
  have hw := p.rw.1
  have hl := hw.1
  have hg := gaps_le hw s.2.2.2.length
  rw [List.take_length] at hg
  have hM : MANY = 1000000001 := rfl
  rw [C_X_runs, E_X_runs_0, obj_e p.o, calR_e (X_readerOf _ p x1 x2), xo_if]
  by_cases a1 : x = 0 ∨ x = 1
  · simp only [if_pos a1]
    rw [xo_some a1, E_X_runs_2, obj_e p.o, p.r (c := 16) (by decide), obj_e (z16 p.1), calI_e (Rw_gaps _ p.rw)]
    simp (disch := omega) only [nle0]
    by_cases a2 : gaps s.2.2.2 = 0
    · simp only [if_pos a2]
      obtain ⟨h1, g, e1, f1, px1, g0, hsl, ds⟩ := Wk_giveSlots 56 p a2
      obtain ⟨⟨S0, hS0⟩, e0⟩ := px1.set (k := 0) (by omega)
      obtain ⟨h2, e2, f2, p2⟩ := Sp_startAt 54 hS0 (s := 0) (by omega)
      have px2 := XI_sp px1 (by omega) f2 p2
      have n68 : ¬ spF (22 + 3 * 0) 68 := by unfold spF; omega
      -- the two ledgers
      have hprr := px2.2.2.2.2.2.2.2.2.2.2.2.1
      obtain ⟨A, A', hA, r3, r4⟩ : ∃ A A' : Nat, ((A = 64 ∧ A' = 65) ∨ (A = 65 ∧ A' = 64)) ∧ hR h2 66 3 = some A' ∧ hR h2 66 4 = some A := by
        rcases hprr with ⟨a, b⟩ | ⟨a, b⟩
        · exact ⟨65, 64, by omega, a, b⟩
        · exact ⟨64, 65, by omega, a, b⟩
      have f3 : fr (fun b => b = A') h2 (sL h2 A' 0 (zL ((1 : Nat) : Int))) := fr_sL (F := fun b => b = A') h2 rfl _ _
      have px3 := XI_sc px2 f3 (fun b hb => by unfold nI'; omega) (fun _ _ => rfl)
      have nA : ¬ spF (22 + 3 * 0) A' := by unfold spF; omega
      have plc0 : plc g c0 = 0 := by unfold plc c0; simp [g0]
      have lv0 : LVL (sL h2 A' 0 (zL ((1 : Nat) : Int))) s x g 0 A' A (fun t => t == 0) (upW (fun _ => 0) c0 1) := by
        refine ⟨px3, r3, r4, fun n hn => ?_, p2.fr f3 (fun b hb => by unfold spF at hb; omega), RQS_0 (lvs_0 _ _), ⟨?_, ?_, ?_⟩, ?_⟩
        · show hI h2 68 n = _ ∧ _; rw [f2.I n68]; exact hsl n hn
        · intro c hc hh
          have hc0 : c = c0 := eX_inj hc c0_v (by rw [beq_iff_eq.mp hh]; rfl)
          subst hc0
          refine ⟨⟨c0_v, fun t ht => Or.inl ?_⟩, ?_⟩
          · unfold rg c0; split
            · rfl
            · split <;> rfl
          · rw [plc0, hL_hit]; unfold upW; rw [if_pos rfl]
        · intro c hc hh
          unfold upW
          rw [if_neg]
          intro e
          rw [e] at hh
          exact absurd hh (by decide)
        · intro c; unfold upW; split
          · decide
          · exact Nat.zero_le _
        · rw [upW_one UU_nd (UU_mem.mpr c0_v)]
      obtain ⟨h4, B, B', S, W, e4, f4, hB, px4, r34, r44, hsl4, pS4, hS4, wx4, pot4⟩ := rtt_lp 53 a2 g0 ds s.2.2.2.length 0 A A' _ _ _ (by omega) hA lv0
      have f14 : fr (fun a => a < 94) h h4 := (((f1.mo (fun b hb => by omega)).tr (f2.mo (fun b hb => by unfold spF at hb; omega))).tr (f3.mo (fun b hb => by omega))).tr f4
      refine ⟨h4, ?_, f14, px4⟩
      have hcn := cn_le S 24576
      rw [els_cn] at hcn
      have hsum := rtt_sum 55 (x := x) (Nat.le_refl _) hB px4 r34 hsl4 pS4 wx4 _ 0 0 rfl (by omega)
      have hfin : min MANY (0 + sums (fun z => W (dX z) * (if tks (rdr s x) (dX z).1 then 1 else 0)) (els S 24576 0)) = min MANY (nr (rdr s x) (sfx s.2.2.2 0) c0) := by
        rw [Nat.zero_add, els_U (F := fun c => W c * (if tks (rdr s x) c.1 then 1 else 0)) (fun c hc hh => by rw [wx4.2.1 c hc hh, Nat.zero_mul]), ← pot4, sfx_n]
        rfl
      have er : Cc 59 k_Wk_runsThatTake [aR (some 66), aR (some (xa x)), aR (some 16)] h = some (some (aI (zI ((min MANY (nr (rdr s x) (sfx s.2.2.2 0) c0) : Nat) : Int))), h4) := by
        rw [C_Wk_runsThatTake, E_Wk_runsThatTake_0, obj_e (z66 p.1), calV_e e1, obj_e (z66 px1.1), px1.r (a := 66) (j := 0) (c := 21) (by decide), zc0]
        simp (disch := omega) only [idx_n (z21 px1.1)]
        rw [e0, obj_e hS0.1.1, calV_e e2, obj_e (z66 px2.1), r3]
        have body : (lt (sL h2 A' 0 (zL 1)) fun h11 => lt (zI ((0 : Nat) : Int)) fun v12 => Rk B_Wk_runsThatTake L_Wk_runsThatTake (Cc 58) 1 [aR (some 66), aR (some (xa x)), aR (some 16), aI v12, aU, aU, aU, aU] [] h11) = some (some (aI (zI ((min MANY (nr (rdr s x) (sfx s.2.2.2 0) c0) : Nat) : Int))), h4) := by
          rw [lt_e, lt_e]
          refine Eq.trans e4 ?_
          rw [E_Wk_runsThatTake_3, obj_e (z66 px4.1), obj_e (z16 px4.1), calI_e (Rw_size _ px4.rw), px4.r (a := 66) (j := 0) (c := 21) (by decide)]
          simp (disch := omega) only [idx_n (z21 px4.1), lt_e]
          rw [(px4.set (k := s.2.2.2.length) (by omega)).2, obj_e pS4.1.1, zc0, calI_e (Sp_next _ pS4 (by omega)), obj_e pS4.1.1, calI_e (Sp_size _ pS4), els_cn, ← hfin]
          exact hsum
        rcases hA with ⟨rfl, rfl⟩ | ⟨rfl, rfl⟩
        · simp (disch := omega) only [idx_n (z65 px2.1)]; exact body
        · simp (disch := omega) only [idx_n (z64 px2.1)]; exact body
      rw [E_X_runs_4, obj_e p.o, obj_e p.o, p.r (a := 0) (j := 5) (c := 66) (by decide), obj_e (z66 p.1), p.r (c := 16) (by decide), calI_e er, E_X_runs_5]
    · simp only [if_neg a2]
      exact ⟨h, by rw [E_X_runs_3, E_X_runs_5], fr.rf _ h, p⟩
  · simp only [if_neg a1]
    exact ⟨h, by rw [E_X_runs_1], fr.rf _ h, p⟩
