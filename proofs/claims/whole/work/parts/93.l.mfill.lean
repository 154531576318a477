/-! the reference: fillings and filled -/
theorem M_goFill (d : Nat) {j b k : Nat} {s : Stt} {h : AH} {x : Int} (hx : x = j) (hj : j < 2) (hb : b ≤ 1) (hk : k < 512) (v : VS s) (p : MI k s h) (hg : gapPairs s.2.2.2 ≤ 3) : ∃ h' cnt, Cc (d + 4) k_M_goFill [aR (some 94), aI (zI j), aI (zI b)] h = some (some (aI (zI ((cnt : Nat) : Int))), h') ∧ mfr (fun a _ => 94 ≤ a) h h' ∧ MI (k + 1) s h' ∧
    ((b = 0 ∧ cnt = (flA (rdr s x) s.2.2.2).length) ∨ (b = 1 ∧ ((cnt = 0 ∧ flA (rdr s x) s.2.2.2 = []) ∨ (cnt = 1 ∧ ∃ t T, flA (rdr s x) s.2.2.2 = t :: T ∧ ∀ (i : Nat) (q : Nat × Nat), t[i]? = some q → hI h' 134 i = zI q.1 ∧ hI h' 135 i = zI q.2)))) := by
  have a1 : x = 0 ∨ x = 1 := by omega
  have hv := v.rv x
  have hw := v.2.2.2
  have hl12 := hw.1
  have hT := Nat.le_trans (tn_len s.2.2.2) hl12
  have hG : gnm s.2.2.2 s.2.2.2.length ≤ 3 := Nat.le_trans (gnm_gp _) hg
  obtain ⟨h1, e1, f1, tn1, -, P1⟩ := M_layNames (d + 1) v p
  have s1 := P1.1
  obtain ⟨n0, g0, -, -, n03, n04⟩ := M_freeBehind (d + 1) hw s1 tn1 (v := -1) (a := 0) (by omega) (by omega)
  have F0 : FRE s.2.2.2 0 n0 := ⟨n03, n04⟩
  have L0 := FRE_lt hw F0 (by omega)
  have fa : mfr (fun a _ => a = 137) h1 (sI h1 137 0 (zI n0)) := mfr_sI h1 (by omega) _
  have sa := s1.mf fa
  have ta := tn1.mv fa (by omega) (by intro i; omega)
  obtain ⟨n1, g1, -, -, n13, n14⟩ := M_freeBehind (d + 1) hw sa ta (v := (n0 : Int)) (a := n0 + 1) (by omega) (by omega)
  have F1 : FRE s.2.2.2 1 n1 := ⟨n13, by rw [n14, fcnt_s, if_neg n03, n04]; rfl⟩
  have L1 := FRE_lt hw F1 (by omega)
  have fb : mfr (fun a _ => a = 137) (sI h1 137 0 (zI n0)) (sI (sI h1 137 0 (zI n0)) 137 1 (zI n1)) := mfr_sI _ (by omega) _
  have sb := sa.mf fb
  have tb := ta.mv fb (by omega) (by intro i; omega)
  obtain ⟨n2, g2, -, -, n23, n24⟩ := M_freeBehind (d + 1) hw sb tb (v := (n1 : Int)) (a := n1 + 1) (by omega) (by omega)
  have F2 : FRE s.2.2.2 2 n2 := ⟨n23, by rw [n24, fcnt_s, if_neg n13, F1.2]⟩
  have fc : mfr (fun a _ => a = 137) (sI (sI h1 137 0 (zI n0)) 137 1 (zI n1)) (sI (sI (sI h1 137 0 (zI n0)) 137 1 (zI n1)) 137 2 (zI n2)) := mfr_sI _ (by omega) _
  have sc := sb.mf fc
  have tc := tb.mv fc (by omega) (by intro i; omega)
  have frc : FR (sI (sI (sI h1 137 0 (zI n0)) 137 1 (zI n1)) 137 2 (zI n2)) s.2.2.2 := by
    intro i hi
    rcases (show i = 0 ∨ i = 1 ∨ i = 2 by omega) with z | z | z
    · subst z; exact ⟨n0, by rw [hI_off (by omega), hI_off (by omega), hI_hit], F0⟩
    · subst z; exact ⟨n1, by rw [hI_off (by omega), hI_hit], F1⟩
    · subst z; exact ⟨n2, hI_hit _ _ _ _, F2⟩
  have fabc := fa.tr (fb.tr fc)
  have Pc : MI k s (sI (sI (sI h1 137 0 (zI n0)) 137 1 (zI n1)) 137 2 (zI n2)) := P1.mv fabc (by intro a i hh; unfold scr; omega)
  obtain ⟨h2, e2, f2, ml2⟩ := M_beginList (d + 2) sc
  have s2 := sc.mf f2
  have f3 : mfr (fun a t => a = 136 ∧ t = 0) h2 (sI h2 136 0 (zI ((0 : Nat) : Int))) := mfr_sI h2 ⟨rfl, rfl⟩ _
  have c3 : hI (sI h2 136 0 (zI ((0 : Nat) : Int))) 136 0 = zI ((0 : Nat) : Int) := hI_hit _ _ _ _
  have start : Cc (d + 4) k_M_goFill [aR (some 94), aI (zI j), aI (zI b)] h = if hI (sI h2 136 0 (zI ((0 : Nat) : Int))) 94 19 = 0 then Rk B_M_goFill L_M_goFill (Cc (d + 3)) 1 [aR (some 94), aI (zI j), aU, aU, aU] [] (sI h2 136 0 (zI ((0 : Nat) : Int))) else Rk B_M_goFill L_M_goFill (Cc (d + 3)) 5 [aR (some 94), aI (zI j), aI (zI b), aU, aU] [] (sI h2 136 0 (zI ((0 : Nat) : Int))) := by
    have w0 : hI (sI h1 137 0 (zI n0)) 137 0 = zI n0 := hI_hit _ _ _ _
    have w1 : hI (sI (sI h1 137 0 (zI n0)) 137 1 (zI n1)) 137 1 = zI n1 := hI_hit _ _ _ _
    rw [C_M_goFill, E_M_goFill_0, obj_e (z94 p.1.1), calV_e e1, obj_e (z94 s1.1), obj_e (z94 s1.1), calI_e g0, m53 s1, zc0]
    simp (disch := omega) only [idx_n (z137 s1.1), lt_e]
    rw [obj_e (z94 sa.1), obj_e (z94 sa.1), m53 sa]
    simp (disch := omega) only [idx_n (z137 sa.1), w0]
    rw [obj_e (z94 sa.1), calI_e g1, show zI 1 = zI ((1 : Nat) : Int) from rfl]
    simp (disch := omega) only [idx_n (z137 sa.1), lt_e]
    rw [obj_e (z94 sb.1), obj_e (z94 sb.1), m53 sb]
    simp (disch := omega) only [idx_n (z137 sb.1), w1]
    rw [obj_e (z94 sb.1), calI_e g2, show zI 2 = zI ((2 : Nat) : Int) from rfl]
    simp (disch := omega) only [idx_n (z137 sb.1), lt_e]
    rw [obj_e (z94 sc.1), calV_e e2, obj_e (z94 s2.1), m52 s2]
    simp (disch := omega) only [idx_n (z136 s2.1), lt_e]
    rw [obj_e (z94 (s2.mf f3).1)]
  generalize sI h2 136 0 (zI ((0 : Nat) : Int)) = h3 at f3 c3 start
  generalize sI (sI (sI h1 137 0 (zI n0)) 137 1 (zI n1)) 137 2 (zI n2) = hc at fc sc tc frc fabc Pc e2 f2
  have s3 := s2.mf f3
  have f23 : mfr (fun a _ => a = 114 ∨ a = 115 ∨ a = 136) hc h3 := (f2.mo (by intro a t; omega)).tr (f3.mo (by intro a t; omega))
  have P3 : MI k s h3 := Pc.mv f23 (by intro a i hh; unfold scr; omega)
  have mw3 : MW h3 s.2.2.2 := P3.2.2.2.2.1
  have q3 : QN h3 s.2.2.2 := ⟨s3, mw3, tc.mv f23 (by omega) (by intro i; omega), frc.mv f23 (by intro i; omega)⟩
  have mr3 := P3.mr a1
  rw [show x.toNat = j by omega] at mr3
  have ml3 := ml2.mv f3 (by omega) (by intro i hi; omega)
  have F03 : mfr (fun a _ => 94 ≤ a) h h3 := (f1.mo (by intro a t; omega)).tr ((fabc.mo (by intro a t; omega)).tr (f23.mo (by intro a t; omega)))
  rw [mw3.1] at start
  simp (disch := omega) only [neq0] at start
  by_cases z : s.2.2.2.length = 0
  · rw [if_pos z, E_M_goFill_1, obj_e (z94 s3.1), zc0, calI_e (M_takesList _ hv hj (by omega) s3 mr3 ml3), if01, any_tkn (r := rdr s x) (u := []) (fun c => by rw [List.mem_singleton]; rfl)] at start
    have eF : flA (rdr s x) s.2.2.2 = if tkn (rdr s x) [] then [[]] else [] := by
      unfold flA
      rw [z]
      rfl
    rw [eF]
    refine ⟨h3, if tkn (rdr s x) [] = true then 1 else 0, ?_, F03, P3.up, ?_⟩
    · rw [start]
      split
      · rw [E_M_goFill_2, E_M_goFill_4]; rfl
      · rw [E_M_goFill_3, E_M_goFill_4]; rfl
    · by_cases y : tkn (rdr s x) [] = true
      · rw [if_pos y, if_pos y]
        rcases (show b = 0 ∨ b = 1 by omega) with w | w
        · exact Or.inl ⟨w, rfl⟩
        · exact Or.inr ⟨w, Or.inr ⟨rfl, [], [], rfl, fun i q hq => by cases hq⟩⟩
      · rw [if_neg y, if_neg y]
        rcases (show b = 0 ∨ b = 1 by omega) with w | w
        · exact Or.inl ⟨w, rfl⟩
        · exact Or.inr ⟨w, Or.inl ⟨rfl, rfl⟩⟩
  · rw [if_neg z] at start
    obtain ⟨m, hm⟩ : ∃ m, s.2.2.2.length = m + 1 := ⟨s.2.2.2.length - 1, by omega⟩
    have f4 : mfr (fun a t => a = 134 ∧ t = 0) h3 (sI h3 134 0 (zI (-1))) := mfr_sI h3 ⟨rfl, rfl⟩ _
    have c4 : hI (sI h3 134 0 (zI (-1))) 134 0 = zI (-1) := hI_hit _ _ _ _
    rw [E_M_goFill_5, lt_e, lt_e, obj_e (z94 s3.1), m50 s3, zc0] at start
    simp (disch := omega) only [idx_n (z134 s3.1), lt_e] at start
    generalize sI h3 134 0 (zI (-1)) = h4 at f4 c4 start
    have P4 : MI k s h4 := P3.mv f4 (by intro a i hh; unfold scr; omega)
    have q4 : QN h4 s.2.2.2 := q3.mv f4 (by intro a i; omega)
    obtain ⟨u, hu, mu⟩ := MK_u P4.2.2.2.2.2 (by omega)
    have hp : s.2.2.2[0]? = some s.2.2.2[0] := List.getElem?_eq_getElem (by omega)
    generalize s.2.2.2[0] = p0 at hp
    have cb := cst_b hw (m := m) (o := 0) hp (Nat.zero_le _)
    rw [List.drop_zero] at cb
    have c36 : 36 ^ gapPairs s.2.2.2 ≤ 46656 := Nat.le_trans (Nat.pow_le_pow_right (by omega) hg) (by decide)
    have cb2 := Nat.mul_le_mul (show m + 1 ≤ 12 by omega) c36
    obtain ⟨h5, u5, f5, mu5, b5, alt⟩ := M_MGF d (b := b) hv hj hb hw hG m (chs s.2.2.2 0 0) 0 0 0 u h4 [] [c0] p0 (by omega) hp (Nat.zero_le _) q4 (mr3.mv f4 (by intro a t; omega)) (ml3.mv f4 (by omega) (by intro i hi; omega)) (fun c => by rw [List.mem_singleton]; rfl) (by rw [f4.I (by omega)]; exact c3) (Or.inl ⟨c4, rfl⟩) mu (by omega)
    rw [← fls_LR, ← hm] at alt
    have f45 : mfr (fun a i => scr a i ∨ (a = 94 ∧ i = 29) ∨ a = 116) h4 h5 := f5.mo (by intro a t; unfold fLl scr; omega)
    have P5 := MI_u P4 f45 (fun a i h => h) mu5 (by omega)
    have F5 : mfr (fun a _ => 94 ≤ a) h h5 := F03.tr ((f4.mo (by intro a t; omega)).tr (f45.mo (by intro a t; unfold scr; omega)))
    have start' : Cc (d + 4) k_M_goFill [aR (some 94), aI (zI j), aI (zI b)] h = GF6 d j b 0 ((0 : Nat) : Int) h4 := start
    rcases alt with ⟨d1, d2, t, T, d3, d4⟩ | ⟨d1, d2⟩
    · refine ⟨h5, 1, by rw [start', d2], F5, P5, Or.inr ⟨d1, Or.inr ⟨rfl, t, T, d3, fun i q hq => ?_⟩⟩⟩
      have := d4 i q hq
      rw [Nat.zero_add] at this
      exact this
    · refine ⟨h5, (flA (rdr s x) s.2.2.2).length, ?_, F5, P5, ?_⟩
      · rw [start', d2]
        unfold GF6
        rw [E_M_goFill_6, if_pos (by decide), E_M_goFill_16, Nat.zero_add]
        rfl
      · rcases d1 with d1 | d1
        · exact Or.inl ⟨d1, rfl⟩
        · have d1' : flA (rdr s x) s.2.2.2 = [] := d1
          rw [d1']
          rcases (show b = 0 ∨ b = 1 by omega) with w | w
          · exact Or.inl ⟨w, rfl⟩
          · exact Or.inr ⟨w, Or.inl ⟨rfl, rfl⟩⟩
theorem M_fillings {x : Int} (x1 : -2147483648 ≤ x) (x2 : x < 2147483648) : MOK k_M_fillings [aI (zI x)] (fgsA x) id := by
  intro s k h hk v p
  have hg := gaps_le v.2.2.2 s.2.2.2.length
  rw [List.take_length] at hg
  unfold fgsA
  rw [C_M_fillings, E_M_fillings_0, calI_e (M_isReader _ h x1 x2), if01]
  by_cases a1 : x = 0 ∨ x = 1
  · simp only [if_pos a1]
    rw [E_M_fillings_2, obj_e (z94 p.1.1), calI_e (M_gapPairs _ v.2.2.2 p.1 p.2.2.2.2.1), zc3]
    simp (disch := omega) only [nle]
    by_cases a2 : gapPairs s.2.2.2 ≤ 3
    · simp only [if_pos a2]
      obtain ⟨j, rfl⟩ : ∃ i : Nat, x = i := ⟨x.toNat, by omega⟩
      obtain ⟨h', cnt, e, f, p', r⟩ := M_goFill 55 (j := j) (b := 0) (x := j) rfl (by omega) (by omega) hk v p a2
      refine ⟨h', ?_, f, p'⟩
      rcases r with ⟨-, r⟩ | ⟨r, -⟩
      · rw [E_M_fillings_4, obj_e (z94 p.1.1), zc0, calI_e e, E_M_fillings_5, r]
      · cases r
    · simp only [if_neg a2]
      exact ⟨h, by rw [E_M_fillings_3, E_M_fillings_5], mfr.rf _ h, p.up⟩
  · simp only [if_neg a1]
    exact ⟨h, by rw [E_M_fillings_1], mfr.rf _ h, p.up⟩
theorem M_filled {x k : Int} (x1 : -2147483648 ≤ x) (x2 : x < 2147483648) (k1 : -2147483648 ≤ k) (k2 : k < 2147483648) : MOK k_M_filled [aI (zI x), aI (zI k)] (fldA x k) id := by
  intro s kk h hk v p
  have hl12 := v.2.2.2.1
  have hg := gaps_le v.2.2.2 s.2.2.2.length
  rw [List.take_length] at hg
  unfold fldA
  rw [C_M_filled, E_M_filled_0, calI_e (M_isReader _ h x1 x2), if01]
  by_cases a1 : x = 0 ∨ x = 1
  · simp only [if_pos a1]
    rw [E_M_filled_2]
    simp (disch := omega) only [ylt0]
    by_cases a0 : k < 0
    · simp only [if_pos a0]
      exact ⟨h, by rw [E_M_filled_3], mfr.rf _ h, p.up⟩
    · simp only [if_neg a0]
      obtain ⟨n, rfl⟩ : ∃ n : Nat, k = (n : Int) := ⟨k.toNat, by omega⟩
      rw [E_M_filled_4, obj_e (z94 p.1.1), calI_e (M_gapPairs _ v.2.2.2 p.1 p.2.2.2.2.1), zc3]
      simp (disch := omega) only [nle, Int.toNat_natCast]
      by_cases a2 : gapPairs s.2.2.2 ≤ 3
      · simp only [if_pos a2]
        obtain ⟨j, rfl⟩ : ∃ i : Nat, x = i := ⟨x.toNat, by omega⟩
        obtain ⟨h', cnt, e, f, p', r⟩ := M_goFill 55 (j := j) (b := 1) (x := j) rfl (by omega) (by omega) hk v p a2
        refine ⟨h', ?_, f, p'⟩
        rw [E_M_filled_6, obj_e (z94 p.1.1), show zI 1 = zI ((1 : Nat) : Int) from rfl, calI_e e]
        rcases r with ⟨r, -⟩ | ⟨-, ⟨r1, r2⟩ | ⟨r1, t, T, r2, r3⟩⟩
        · cases r
        · rw [r1, r2, if_pos (by decide), E_M_filled_8, E_M_filled_10]; rfl
        · have hL : t.length = s.2.2.2.length := fls_l s.2.2.2.length 0 0 [] t (by show t ∈ flA _ _; rw [r2]; exact List.mem_cons_self)
          have ms := p'.1
          rw [r1, r2, if_neg (by decide), E_M_filled_7, obj_e (z94 ms.1), p'.2.2.2.2.1.1]
          simp (disch := omega) only [nlt]
          by_cases a3 : n < s.2.2.2.length
          · have ht : t[n]? = some t[n] := List.getElem?_eq_getElem (by omega)
            obtain ⟨w1, w2⟩ := r3 n _ ht
            rw [if_pos a3, E_M_filled_9]
            simp (disch := omega) only [obj_e (z94 ms.1), m50 ms, m51 ms, idx_n (z134 ms.1), idx_n (z135 ms.1), w1, w2]
            rw [show zI 128 = zI ((128 : Nat) : Int) from rfl, nmul, nadd, E_M_filled_10, fldV_c ht]
          · rw [if_neg a3, E_M_filled_8, E_M_filled_10]
            show _ = some (some (aI (zI (match t[n]? with
              | none => -1
              | some q => ((128 * q.1 + q.2 : Nat) : Int)))), h')
            rw [List.getElem?_eq_none_iff.mpr (by omega)]
      · simp only [if_neg a2]
        exact ⟨h, by rw [E_M_filled_5], mfr.rf _ h, p.up⟩
  · simp only [if_neg a1]
    exact ⟨h, by rw [E_M_filled_1], mfr.rf _ h, p.up⟩
