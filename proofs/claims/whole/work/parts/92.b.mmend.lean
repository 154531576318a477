/-! M: mend: the costs -/
def dM (n : Nat) : Cfg := (n % 6, n / 6 % 17, n / 102 % 17, n / 1734)
theorem dM_v {n : Nat} (h : n < 29478) : CM (dM n) := by unfold CM dM; simp only; omega
theorem eM_dM {n : Nat} (h : n < 29478) : eM (dM n) = n := by unfold eM dM; simp only; omega
def FP (P : Cfg → Nat → Prop) (F : Nat → Nat) : Prop := (∀ c n, P c n → CM c) ∧ ∀ c, CM c → (F (eM c) < 268435456 ∧ P c (F (eM c)) ∧ ∀ n', P c n' → F (eM c) ≤ n') ∨ (F (eM c) = 268435456 ∧ ∀ n, ¬ P c n)
theorem FP_c {P Q : Cfg → Nat → Prop} {F : Nat → Nat} (h : FP P F) (e : ∀ c n, P c n ↔ Q c n) : FP Q F := by
  have : P = Q := funext fun c => funext fun n => propext (e c n)
  rw [← this]; exact h
theorem FP_le {P : Cfg → Nat → Prop} {F : Nat → Nat} (h : FP P F) {n : Nat} (hn : n < 29478) : F n ≤ 268435456 := by
  have := h.2 (dM n) (dM_v hn)
  rw [eM_dM hn] at this
  omega
theorem FP_a {P : Cfg → Nat → Prop} {F : Nat → Nat} (h : FP P F) {e : Cfg} (he : CM e) {v : Nat} (hv : v < 268435456) : FP (fun c n => P c n ∨ (c = e ∧ n = v)) (up F (eM e) (if v < F (eM e) then v else F (eM e))) := by
  refine ⟨fun c n hc => hc.elim (h.1 c n) (fun q => by rw [q.1]; exact he), fun c hc => ?_⟩
  by_cases z : c = e
  · subst z
    rw [up_h]
    rcases h.2 c hc with ⟨a1, a2, a3⟩ | ⟨a1, a2⟩
    · left
      by_cases y : v < F (eM c)
      · rw [if_pos y]
        refine ⟨hv, Or.inr ⟨rfl, rfl⟩, ?_⟩
        rintro n' (q | q)
        · have := a3 n' q; omega
        · omega
      · rw [if_neg y]
        refine ⟨a1, Or.inl a2, ?_⟩
        rintro n' (q | q)
        · exact a3 n' q
        · omega
    · left
      rw [if_pos (by omega)]
      refine ⟨hv, Or.inr ⟨rfl, rfl⟩, ?_⟩
      rintro n' (q | q)
      · exact absurd q (a2 n')
      · omega
  · rw [up_o (fun q => z (eM_inj hc he q))]
    rcases h.2 c hc with ⟨a1, a2, a3⟩ | ⟨a1, a2⟩
    · exact Or.inl ⟨a1, Or.inl a2, fun n' q => q.elim (a3 n') (fun q => absurd q.1 z)⟩
    · exact Or.inr ⟨a1, fun n q => q.elim (a2 n) (fun q => z q.1)⟩
def CA (h : AH) (a : Nat) (F : Nat → Nat) : Prop := ∀ n, n < 29478 → hI h a n = zI (F n)
def WM (h : AH) (j : Nat) (r : Rdr) (w : Rw) : Prop := MS h ∧ MR h j r ∧ hI h 94 24 = zI (tn w).length ∧ hI h 94 19 = zI w.length ∧ ∀ i p, w[i]? = some p → hI h 110 i = zI p.1 ∧ hI h 113 i = zI (idn w p.2)
theorem WM.mv {h h' : AH} {j : Nat} {r : Rdr} {w : Rw} (p : WM h j r w) (f : mfr (fun a _ => a = 138 ∨ a = 139) h h') : WM h' j r w := ⟨p.1.mf f, p.2.1.mv f (fun a i h1 h2 h3 => by omega), by rw [f.I (by omega)]; exact p.2.2.1, by rw [f.I (by omega)]; exact p.2.2.2.1, fun i q hq => by rw [f.I (by omega), f.I (by omega)]; exact p.2.2.2.2 i q hq⟩
theorem mf_i (d : Nat) {j t k : Nat} {r : Rdr} {w : Rw} {m : Mv} {c : Cfg} {F : Nat → Nat} (hj : j < 2) (hv : RV r) (hw : WV w) (hg : NoG w) (hk : k < w.length) (hm : r.2.2.2[t]? = some m) (hc : CM c) (hFc : F (eM c) < 100) : ∀ (n x : Nat) (h : AH) (G : Nat → Nat) (O : Cfg → Nat → Prop), x + n = 17 → 1 ≤ x → WM h j r w → CA h 138 F → CA h 139 G → FP O G →
    ∃ h' G', Rk B_M_mendFrom L_M_mendFrom (Cc (d + 2)) 3 [aR (some 94), aI (zI j), aI (zI (eM c)), aI (zI k), aI (zI (unu c)), aI (zI ((20 * j + t : Nat) : Int)), aI (zI x), aU, aU, aU] [] h = Rk B_M_mendFrom L_M_mendFrom (Cc (d + 2)) 23 [aR (some 94), aI (zI j), aI (zI (eM c)), aI (zI k), aI (zI (unu c)), aI (zI ((20 * j + t : Nat) : Int)), aU, aU, aU, aU] [] h' ∧ mfr (fun a _ => a = 139) h h' ∧ CA h' 139 G' ∧ FP (fun e n => O e n ∨ ∃ y, x ≤ y ∧ y < 17 ∧ mnm (tn w).length c y ∧ canB m c m.2.1 y = true ∧ e = goC m c y ∧ n = F (eM c) + (if (m.2.1, y) = tg w k then 0 else 1)) G'
  | 0, x, h, G, O, hn, hx, q, cF, cG, fp => by
    refine ⟨h, G, ?_, mfr.rf _ h, cG, FP_c fp (fun e n => ⟨Or.inl, fun z => z.elim id (fun ⟨y, h1, h2, _⟩ => by omega)⟩)⟩
    rw [E_M_mendFrom_3, show zI 17 = zI ((17 : Nat) : Int) from rfl]
    simp (disch := omega) only [nlt]
    rw [if_neg (by omega)]
  | n + 1, x, h, G, O, hn, hx, q, cF, cG, fp => by
    obtain ⟨p, mr, q24, q19, qw⟩ := id q
    have hmi := hv.mi hm
    have mrw := mr.2.2.2.2 t m hm
    have hmv := hmi.1
    have hlt := hmv.2.1
    have hT : (tn w).length ≤ 12 := Nat.le_trans (tn_len w) hw.1
    have ub := unu_b c
    have hb := hc
    unfold CM at hb
    have hl12 := hw.1
    have elt := eM_lt hc
    have gv := goC_m (x := x) hmv hc (by omega)
    have glt := eM_lt gv
    have hGle := FP_le fp glt
    obtain ⟨P, hP, P1, P2, P3, P4⟩ := NoG_t hw hg hk
    obtain ⟨w1, w2⟩ := qw k P hP
    have t12 := tg_b hw k
    have cont : ∀ (h1 : AH) (G1 : Nat → Nat) (O1 : Cfg → Nat → Prop), Rk B_M_mendFrom L_M_mendFrom (Cc (d + 2)) 3 [aR (some 94), aI (zI j), aI (zI (eM c)), aI (zI k), aI (zI (unu c)), aI (zI ((20 * j + t : Nat) : Int)), aI (zI x), aU, aU, aU] [] h = Rk B_M_mendFrom L_M_mendFrom (Cc (d + 2)) 22 [aR (some 94), aI (zI j), aI (zI (eM c)), aI (zI k), aI (zI (unu c)), aI (zI ((20 * j + t : Nat) : Int)), aI (zI x), aU, aU, aU] [] h1 → mfr (fun a _ => a = 139) h h1 → CA h1 139 G1 → FP O1 G1 → (∀ e n, O1 e n ↔ O e n ∨ (mnm (tn w).length c x ∧ canB m c m.2.1 x = true ∧ e = goC m c x ∧ n = F (eM c) + (if (m.2.1, x) = tg w k then 0 else 1))) →
        ∃ h' G', Rk B_M_mendFrom L_M_mendFrom (Cc (d + 2)) 3 [aR (some 94), aI (zI j), aI (zI (eM c)), aI (zI k), aI (zI (unu c)), aI (zI ((20 * j + t : Nat) : Int)), aI (zI x), aU, aU, aU] [] h = Rk B_M_mendFrom L_M_mendFrom (Cc (d + 2)) 23 [aR (some 94), aI (zI j), aI (zI (eM c)), aI (zI k), aI (zI (unu c)), aI (zI ((20 * j + t : Nat) : Int)), aU, aU, aU, aU] [] h' ∧ mfr (fun a _ => a = 139) h h' ∧ CA h' 139 G' ∧ FP (fun e n => O e n ∨ ∃ y, x ≤ y ∧ y < 17 ∧ mnm (tn w).length c y ∧ canB m c m.2.1 y = true ∧ e = goC m c y ∧ n = F (eM c) + (if (m.2.1, y) = tg w k then 0 else 1)) G' := by
      intro h1 G1 O1 e1 f1 cG1 fp1 hO
      obtain ⟨h', G', e, f, cG', fp'⟩ := mf_i d hj hv hw hg hk hm hc hFc n (x + 1) h1 G1 O1 (by omega) (by omega) (q.mv (f1.mo (fun a _ z => Or.inr z))) (fun n hn => by rw [f1.I (by omega)]; exact cF n hn) cG1 fp1
      refine ⟨h', G', ?_, f1.tr f, cG', FP_c fp' (fun e n => ?_)⟩
      · rw [e1, E_M_mendFrom_22, nadd1, lt_e]; exact e
      · rw [hO e n]
        constructor
        · rintro ((z | z) | ⟨y, z1, z2⟩)
          · exact Or.inl z
          · exact Or.inr ⟨x, Nat.le_refl _, by omega, z⟩
          · exact Or.inr ⟨y, by omega, z2⟩
        · rintro (z | ⟨y, z1, z2, z3⟩)
          · exact Or.inl (Or.inl z)
          · by_cases v : y = x
            · rw [v] at z3; exact Or.inl (Or.inr z3)
            · exact Or.inr ⟨y, by omega, z2, z3⟩
    have e3 : Rk B_M_mendFrom L_M_mendFrom (Cc (d + 2)) 3 [aR (some 94), aI (zI j), aI (zI (eM c)), aI (zI k), aI (zI (unu c)), aI (zI ((20 * j + t : Nat) : Int)), aI (zI x), aU, aU, aU] [] h = Rk B_M_mendFrom L_M_mendFrom (Cc (d + 2)) 12 [aR (some 94), aI (zI j), aI (zI (eM c)), aI (zI k), aI (zI (unu c)), aI (zI ((20 * j + t : Nat) : Int)), aI (zI x), aU, aU, aU] [aI (zI (if bl (mnm (tn w).length c x) = true then 1 else 0))] h := by
      have yes : mnm (tn w).length c x → Rk B_M_mendFrom L_M_mendFrom (Cc (d + 2)) 10 [aR (some 94), aI (zI j), aI (zI (eM c)), aI (zI k), aI (zI (unu c)), aI (zI ((20 * j + t : Nat) : Int)), aI (zI x), aU, aU, aU] [] h = Rk B_M_mendFrom L_M_mendFrom (Cc (d + 2)) 12 [aR (some 94), aI (zI j), aI (zI (eM c)), aI (zI k), aI (zI (unu c)), aI (zI ((20 * j + t : Nat) : Int)), aI (zI x), aU, aU, aU] [aI (zI (if bl (mnm (tn w).length c x) = true then 1 else 0))] h := fun z => by rw [E_M_mendFrom_10, if_pos (bl_t.mpr z)]
      have no : ¬ mnm (tn w).length c x → Rk B_M_mendFrom L_M_mendFrom (Cc (d + 2)) 11 [aR (some 94), aI (zI j), aI (zI (eM c)), aI (zI k), aI (zI (unu c)), aI (zI ((20 * j + t : Nat) : Int)), aI (zI x), aU, aU, aU] [] h = Rk B_M_mendFrom L_M_mendFrom (Cc (d + 2)) 12 [aR (some 94), aI (zI j), aI (zI (eM c)), aI (zI k), aI (zI (unu c)), aI (zI ((20 * j + t : Nat) : Int)), aI (zI x), aU, aU, aU] [aI (zI (if bl (mnm (tn w).length c x) = true then 1 else 0))] h := fun z => by rw [E_M_mendFrom_11, if_neg (fun y => z (bl_t.mp y))]
      rw [E_M_mendFrom_3, show zI 17 = zI ((17 : Nat) : Int) from rfl]
      simp (disch := omega) only [nlt]
      rw [if_pos (by omega), E_M_mendFrom_4, obj_e (z94 p.1), q24]
      simp (disch := omega) only [nle]
      by_cases z1 : x ≤ (tn w).length
      · rw [if_pos z1]; exact yes (Or.inl z1)
      rw [if_neg z1, E_M_mendFrom_5]
      simp (disch := omega) only [neq]
      by_cases z2 : x = unu c
      · rw [if_pos z2]; exact yes (Or.inr (Or.inl z2))
      rw [if_neg z2, E_M_mendFrom_6, zc12]
      simp (disch := omega) only [nle]
      by_cases z3 : x ≤ 12
      · rw [if_pos z3]; exact no (fun y => by rcases y with y | y | y; exact z1 y; exact z2 y; omega)
      rw [if_neg z3, E_M_mendFrom_7, calI_e (M_h0 _ h hc)]
      simp (disch := omega) only [neq]
      by_cases z4 : c.2.1 = x
      · rw [if_pos z4]; exact yes (Or.inr (Or.inr ⟨by omega, Or.inl z4⟩))
      rw [if_neg z4, E_M_mendFrom_8, calI_e (M_h1 _ h hc)]
      simp (disch := omega) only [neq]
      by_cases z5 : c.2.2.1 = x
      · rw [if_pos z5]; exact yes (Or.inr (Or.inr ⟨by omega, Or.inr (Or.inl z5)⟩))
      rw [if_neg z5, E_M_mendFrom_9, calI_e (M_h2 _ h hc)]
      simp (disch := omega) only [neq]
      by_cases z6 : c.2.2.2 = x
      · rw [if_pos z6]; exact yes (Or.inr (Or.inr ⟨by omega, Or.inr (Or.inr z6)⟩))
      rw [if_neg z6]
      exact no (fun y => by rcases y with y | y | ⟨-, y | y | y⟩; exact z1 y; exact z2 y; exact z4 y; exact z5 y; exact z6 y)
    by_cases nx : mnm (tn w).length c x
    · rw [if_pos (bl_t.mpr nx), E_M_mendFrom_12, lt_e, if_neg (by decide), E_M_mendFrom_13, obj_e (z94 p.1), m5 p] at e3
      simp (disch := omega) only [idx_n (z100 p.1), mrw.2.1] at e3
      rw [obj_e (z94 p.1), calI_e (M_can d p (by omega) mrw hmv hc hlt (by omega)), if01] at e3
      cases cb : canB m c m.2.1 x with
      | false =>
        rw [cb, if_neg (show ¬ (false = true) by simp)] at e3
        exact cont h G O e3 (mfr.rf _ h) cG fp (fun e n => ⟨Or.inl, fun z => z.elim id (fun z => by rw [cb] at z; cases z.2.1)⟩)
      | true =>
        rw [cb, if_pos rfl, E_M_mendFrom_14, obj_e (z94 p.1), calI_e (M_behind d p (by omega) mrw hmv hc (by omega)), lt_e, obj_e (z94 p.1), m54 p] at e3
        simp (disch := omega) only [idx_n (z138 p.1), cF _ elt, obj_e (z94 p.1), m5 p, idx_n (z100 p.1), mrw.2.1, m17 p, idx_n (z110 p.1), w1, P1, neq] at e3
        -- what it costs
        have b18 : ∃ δ : Nat, δ = (if (m.2.1, x) = tg w k then 0 else 1) ∧ Rk B_M_mendFrom L_M_mendFrom (Cc (d + 2)) 3 [aR (some 94), aI (zI j), aI (zI (eM c)), aI (zI k), aI (zI (unu c)), aI (zI ((20 * j + t : Nat) : Int)), aI (zI x), aU, aU, aU] [] h = Rk B_M_mendFrom L_M_mendFrom (Cc (d + 2)) 18 [aR (some 94), aI (zI j), aI (zI (eM c)), aI (zI k), aI (zI (unu c)), aI (zI ((20 * j + t : Nat) : Int)), aI (zI x), aU, aI (zI (eM (goC m c x))), aU] [aI (zI δ), aI (zI (F (eM c)))] h := by
          by_cases z1 : m.2.1 = (tg w k).1
          · rw [if_pos z1, E_M_mendFrom_15, obj_e (z94 p.1), m25 p] at e3
            simp (disch := omega) only [idx_n (z113 p.1), w2, P2, neq] at e3
            by_cases z2 : x = (tg w k).2
            · rw [if_pos z2, E_M_mendFrom_16] at e3
              exact ⟨0, by rw [if_pos (by rw [z1, z2])], e3⟩
            · rw [if_neg z2, E_M_mendFrom_17] at e3
              exact ⟨1, by rw [if_neg (fun y => z2 (by rw [← y]))], e3⟩
          · rw [if_neg z1, E_M_mendFrom_17] at e3
            exact ⟨1, by rw [if_neg (fun y => z1 (by rw [← y]))], e3⟩
        obtain ⟨δ, hδ, e18⟩ := b18
        have hδ1 : δ ≤ 1 := by rw [hδ]; split <;> omega
        have f1 : mfr (fun a _ => a = 139) h (sI h 139 (eM (goC m c x)) (zI ((if F (eM c) + δ < G (eM (goC m c x)) then F (eM c) + δ else G (eM (goC m c x)) : Nat) : Int))) := mfr_sI (F := fun a _ => a = 139) h rfl _
        refine cont _ (up G (eM (goC m c x)) (if F (eM c) + δ < G (eM (goC m c x)) then F (eM c) + δ else G (eM (goC m c x)))) _ ?_ f1 (fun y hy => ?_) (FP_a fp gv (show F (eM c) + δ < 268435456 by omega)) (fun e n => ?_)
        · rw [e18, E_M_mendFrom_18, nadd, lt_e, obj_e (z94 p.1), obj_e (z94 p.1), m55 p]
          simp (disch := omega) only [idx_n (z139 p.1), cG _ glt, nlt]
          by_cases z : F (eM c) + δ < G (eM (goC m c x))
          · rw [if_pos z, if_pos z, E_M_mendFrom_19, E_M_mendFrom_21]
            simp (disch := omega) only [idx_n (z139 p.1), lt_e]
          · rw [if_neg z, if_neg z, E_M_mendFrom_20, obj_e (z94 p.1), m55 p]
            simp (disch := omega) only [idx_n (z139 p.1), cG _ glt]
            rw [E_M_mendFrom_21]
            simp (disch := omega) only [idx_n (z139 p.1), lt_e]
        · by_cases z : y = eM (goC m c x)
          · rw [z, hI_hit, up_h]
          · rw [hI_off (Or.inr z), up_o z]; exact cG y hy
        · rw [hδ]
          constructor
          · rintro (z | ⟨z1, z2⟩)
            · exact Or.inl z
            · exact Or.inr ⟨nx, cb, z1, z2⟩
          · rintro (z | ⟨-, -, z1, z2⟩)
            · exact Or.inl z
            · exact Or.inr ⟨z1, z2⟩
    · rw [if_neg (fun y => nx (bl_t.mp y)), E_M_mendFrom_12, lt_e, if_pos zI_0.symm] at e3
      exact cont h G O e3 (mfr.rf _ h) cG fp (fun e n => ⟨Or.inl, fun z => z.elim id (fun z => absurd z.1 nx)⟩)
theorem mf_m (d : Nat) {j k : Nat} {r : Rdr} {w : Rw} {c : Cfg} {F : Nat → Nat} (hj : j < 2) (hv : RV r) (hw : WV w) (hg : NoG w) (hk : k < w.length) (hc : CM c) (hFc : F (eM c) < 100) : ∀ (n t : Nat) (h : AH) (G : Nat → Nat) (O : Cfg → Nat → Prop), t + n = r.2.2.2.length → WM h j r w → CA h 138 F → CA h 139 G → FP O G →
    ∃ h' G', Rk B_M_mendFrom L_M_mendFrom (Cc (d + 2)) 1 [aR (some 94), aI (zI j), aI (zI (eM c)), aI (zI k), aI (zI (unu c)), aI (zI ((20 * j + t : Nat) : Int)), aU, aU, aU, aU] [] h = some (none, h') ∧ mfr (fun a _ => a = 139) h h' ∧ CA h' 139 G' ∧ FP (fun e n => O e n ∨ ∃ (t' : Nat) (m : Mv) (y : Nat), t ≤ t' ∧ r.2.2.2[t']? = some m ∧ 1 ≤ y ∧ y < 17 ∧ mnm (tn w).length c y ∧ canB m c m.2.1 y = true ∧ e = goC m c y ∧ n = F (eM c) + (if (m.2.1, y) = tg w k then 0 else 1)) G'
  | 0, t, h, G, O, hn, q, cF, cG, fp => by
    have hl20 := hv.2.2.2.2.1
    refine ⟨h, G, ?_, mfr.rf _ h, cG, FP_c fp (fun e n => ⟨Or.inl, fun z => z.elim id (fun ⟨t', m, y, h1, h2, _⟩ => by have := (List.getElem?_eq_some_iff.mp h2).1; omega)⟩)⟩
    rw [E_M_mendFrom_1, obj_e (z94 q.1.1), m3 q.1]
    simp (disch := omega) only [idx_n (z98 q.1.1), q.2.1.2.2.2.1]
    rw [show zI 20 = zI ((20 : Nat) : Int) from rfl, nmul, nadd]
    simp (disch := omega) only [nlt]
    rw [if_neg (by omega), E_M_mendFrom_24]
  | n + 1, t, h, G, O, hn, q, cF, cG, fp => by
    have hl20 := hv.2.2.2.2.1
    have hm : r.2.2.2[t]? = some r.2.2.2[t] := List.getElem?_eq_getElem (by omega)
    obtain ⟨h1, G1, e1, f1, cG1, fp1⟩ := mf_i d hj hv hw hg hk hm hc hFc 16 1 h G O (by omega) (by omega) q cF cG fp
    obtain ⟨h2, G2, e2, f2, cG2, fp2⟩ := mf_m d hj hv hw hg hk hc hFc n (t + 1) h1 G1 _ (by omega) (q.mv (f1.mo (fun a _ z => Or.inr z))) (fun n hn => by rw [f1.I (by omega)]; exact cF n hn) cG1 fp1
    refine ⟨h2, G2, ?_, f1.tr f2, cG2, FP_c fp2 (fun e n => ?_)⟩
    · rw [E_M_mendFrom_1, obj_e (z94 q.1.1), m3 q.1]
      simp (disch := omega) only [idx_n (z98 q.1.1), q.2.1.2.2.2.1]
      rw [show zI 20 = zI ((20 : Nat) : Int) from rfl, nmul, nadd]
      simp (disch := omega) only [nlt]
      rw [if_pos (by omega), E_M_mendFrom_2, lt_e]
      refine Eq.trans e1 ?_
      rw [E_M_mendFrom_23, nadd1, lt_e]
      exact e2
    · constructor
      · rintro ((z | ⟨y, z1, z2⟩) | ⟨t', m, y, z1, z2⟩)
        · exact Or.inl z
        · exact Or.inr ⟨t, _, y, Nat.le_refl _, hm, z1, z2⟩
        · exact Or.inr ⟨t', m, y, by omega, z2⟩
      · rintro (z | ⟨t', m, y, z1, z2, z3⟩)
        · exact Or.inl (Or.inl z)
        · by_cases v : t' = t
          · subst v
            rw [hm] at z2
            cases z2
            exact Or.inl (Or.inr ⟨y, z3⟩)
          · exact Or.inr ⟨t', m, y, by omega, z2, z3⟩
theorem M_mendFrom (d : Nat) {j k : Nat} {r : Rdr} {w : Rw} {c : Cfg} {F G : Nat → Nat} {O : Cfg → Nat → Prop} {h : AH} (hj : j < 2) (hv : RV r) (hw : WV w) (hg : NoG w) (hk : k < w.length) (hc : CM c) (hFc : F (eM c) < 100) (q : WM h j r w) (cF : CA h 138 F) (cG : CA h 139 G) (fp : FP O G) :
    ∃ h' G', Cc (d + 3) k_M_mendFrom [aR (some 94), aI (zI j), aI (zI (eM c)), aI (zI k)] h = some (none, h') ∧ mfr (fun a _ => a = 139) h h' ∧ CA h' 139 G' ∧ FP (fun e n => O e n ∨ ∃ δ, mst r w k c e δ ∧ n = F (eM c) + δ) G' := by
  obtain ⟨h1, G1, e1, f1, cG1, fp1⟩ := mf_m d hj hv hw hg hk hc hFc r.2.2.2.length 0 h G O (by omega) q cF cG fp
  refine ⟨h1, G1, ?_, f1, cG1, FP_c fp1 (fun e n => ?_)⟩
  · rw [C_M_mendFrom, E_M_mendFrom_0, calI_e (M_unused _ h hc), lt_e, show zI 20 = zI ((20 : Nat) : Int) from rfl, nmul, lt_e]
    exact e1
  · constructor
    · rintro (z | ⟨t', m, y, z1, z2, z3, z4, z5, z6, z7, z8⟩)
      · exact Or.inl z
      · exact Or.inr ⟨_, ⟨m, y, List.mem_of_getElem? z2, z3, z4, z5, z6, z7, rfl⟩, z8⟩
    · rintro (z | ⟨δ, ⟨m, y, z1, z3, z4, z5, z6, z7, rfl⟩, z8⟩)
      · exact Or.inl z
      · obtain ⟨t', ht'⟩ := List.getElem?_of_mem z1
        exact Or.inr ⟨t', m, y, Nat.zero_le _, ht', z3, z4, z5, z6, z7, z8⟩
