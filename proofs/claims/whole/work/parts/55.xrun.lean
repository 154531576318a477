/-! the class: forget, findRun, run -/
theorem forget_lp (d : Nat) {s : Stt} {b : Nat} (hb : b ≤ 12) : ∀ (k i : Nat) (h : AH), i + k = b → XI s h →
    ∃ h', Rk B_Wk_forget L_Wk_forget (Cc (d + 3)) 1 [aR (some 66), aU, aI (zI b), aI (zI i)] [] h = some (none, h') ∧ fr (fun c => 22 + 3 * i ≤ c ∧ c < 22 + 3 * b) h h' ∧ XI s h' ∧ ∀ j, i ≤ j → j < b → SP h' (22 + 3 * j) 24576 (fun _ => false)
  | 0, i, h, hk, p => by
    refine ⟨h, ?_, fr.rf _ h, p, fun j h1 h2 => by omega⟩
    rw [E_Wk_forget_1]
    simp (disch := omega) only [nlt]
    rw [if_neg (by omega), E_Wk_forget_3]
  | k + 1, i, h, hk, p => by
    obtain ⟨⟨S, hS⟩, e0⟩ := p.set (k := i) (by omega)
    obtain ⟨h1, e1, f1, p1⟩ := Sp_clear d hS
    have px := XI_sp p (by omega) f1 p1
    obtain ⟨h2, e2, f2, px2, q2⟩ := forget_lp d hb k (i + 1) h1 (by omega) px
    refine ⟨h2, ?_, (f1.mo (fun c hc => by unfold spF at hc; omega)).tr (f2.mo (fun c hc => by omega)), px2, ?_⟩
    · rw [E_Wk_forget_1]
      simp (disch := omega) only [nlt]
      rw [if_pos (by omega), E_Wk_forget_2, obj_e (z66 p.1), p.r (c := 21) (by decide)]
      simp (disch := omega) only [idx_n (z21 p.1)]
      rw [e0, obj_e hS.1.1, calV_e e1, lt_e, nadd1]
      exact e2
    · intro j h1' h2'
      by_cases z : j = i
      · subst z; exact p1.fr f2 (fun c hc => by unfold spF at hc; omega)
      · exact q2 j (by omega) h2'
theorem Wk_forget (d : Nat) {s : Stt} {h : AH} {a b : Nat} (hab : a ≤ b) (hb : b ≤ 12) (p : XI s h) : ∃ h', Cc (d + 4) k_Wk_forget [aR (some 66), aI (zI a), aI (zI b)] h = some (none, h') ∧ fr (fun c => 22 + 3 * a ≤ c ∧ c < 22 + 3 * b) h h' ∧ XI s h' ∧ ∀ j, a ≤ j → j < b → SP h' (22 + 3 * j) 24576 (fun _ => false) := by
  obtain ⟨h', e, q⟩ := forget_lp d hb (b - a) a h (by omega) p
  exact ⟨h', by rw [C_Wk_forget, E_Wk_forget_0, lt_e]; exact e, q⟩
theorem NG_e {h : AH} {r : Rdr} {w : Rw} {j : Nat} (p : SP h (22 + 3 * j) 24576 (fun _ => false)) : NG h r w j := ⟨_, p, fun c _ h => by cases h⟩
theorem c0_v : CV c0 := ⟨by decide, by decide, by decide, by decide⟩
theorem X_run {x k : Int} (x1 : -2147483648 ≤ x) (x2 : x < 2147483648) (k1 : -2147483648 ≤ k) (k2 : k < 2147483648) : XOK k_X_run [aI (zI x), aI (zI k)] (fun s => if x = 0 ∨ x = 1 then (if k < 0 then -3 else if gaps s.2.2.2 = 0 then (if k < s.2.2.2.length then runA (rdr s x) (sfx s.2.2.2 0) k.toNat else -1) else -4) else -2) id := by
  intro s h p
  have hw := p.rw.1
  have hl := hw.1
  have hg := gaps_le hw s.2.2.2.length
  rw [List.take_length] at hg
  rw [C_X_run, E_X_run_0, obj_e p.o, calR_e (X_readerOf _ p x1 x2), xo_if]
  by_cases a1 : x = 0 ∨ x = 1
  · simp only [if_pos a1]
    rw [xo_some a1, E_X_run_2]
    simp (disch := omega) only [ylt0]
    by_cases a3 : k < 0
    · simp only [if_pos a3]
      exact ⟨h, by rw [E_X_run_3], fr.rf _ h, p⟩
    · simp only [if_neg a3]
      rw [E_X_run_4, obj_e p.o, p.r (c := 16) (by decide), obj_e (z16 p.1), calI_e (Rw_gaps _ p.rw)]
      simp (disch := omega) only [nle0]
      by_cases a2 : gaps s.2.2.2 = 0
      · simp only [if_pos a2]
        rw [E_X_run_6, obj_e p.o, p.r (c := 16) (by decide), obj_e (z16 p.1), calI_e (Rw_size _ p.rw)]
        simp (disch := omega) only [ylt]
        by_cases a4 : k < s.2.2.2.length
        · simp only [if_pos a4]
          obtain ⟨i, rfl⟩ : ∃ i : Nat, k = i := ⟨k.toNat, by omega⟩
          obtain ⟨h1, e1, f1, px1, q1⟩ := Wk_forget 54 (a := 0) (b := s.2.2.2.length) (by omega) (by omega) p
          have W := runFrom (54 - s.2.2.2.length) hw (p.rd x).1 (i0 := 0) (fun j q _ hq => nogap a2 hq) s.2.2.2.length 0 (by omega) (by omega)
          obtain ⟨h2, e2, f2, -, px2, -, t2⟩ := W h1 c0 px1 (fun j _ hj => NG_e (q1 j (by omega) hj)) c0_v
          have hd : 54 - s.2.2.2.length + 3 + (s.2.2.2.length + 1) = 58 := by omega
          rw [hd, show stl (Lw s.2.2.2 0) 0 c0 = c0 from stl_0 (lvs_0 _ _), show zI ((eX c0 : Nat) : Int) = zI 0 from rfl, show zI (((0 : Nat)) : Int) = zI 0 from rfl] at e2
          have f94 : fr (fun a => a < 94) h h2 := (f1.mo (fun b hb => by omega)).tr (f2.mo (fun b hb => by unfold fW at hb; omega))
          refine ⟨h2, ?_, f94, px2⟩
          have ef : Cc 59 k_Wk_findRun [aR (some 66), aR (some (xa x)), aR (some 16)] h = some (some (aI (zI (if bl (gq (rdr s x) (sfx s.2.2.2 0) c0) then 1 else 0))), h2) := by
            rw [C_Wk_findRun, E_Wk_findRun_0, obj_e (z16 p.1), calI_e (Rw_size _ p.rw), obj_e (z66 p.1)]
            rw [show zI (((0 : Nat)) : Int) = zI 0 from rfl] at e1
            rw [calV_e e1, obj_e (z66 px1.1), calI_e e2, b01]
          rw [E_X_run_7, obj_e p.o, obj_e p.o, p.r (a := 0) (j := 5) (c := 66) (by decide), obj_e (z66 p.1), p.r (c := 16) (by decide), calI_e ef, if01]
          by_cases y : gq (rdr s x) (sfx s.2.2.2 0) c0
          · obtain ⟨ts, r1, r2⟩ := t2 y
            have hlen := RUN_l _ _ _ r1
            have hsl : (sfx s.2.2.2 0).length = s.2.2.2.length := by unfold sfx; simp
            have hts : ts[i]? = some (ts.getD i 0) := by rw [List.getD_eq_getElem?_getD, List.getElem?_eq_getElem (by omega)]; rfl
            have := r2 i _ hts
            rw [Nat.zero_add] at this
            rw [if_pos (bl_t.mpr y), E_X_run_8, obj_e px2.o, px2.r (c := 66) (by decide), obj_e (z66 px2.1), calI_e (x := zI ((ts.getD i 0 : Nat) : Int)) (h' := h2), E_X_run_10, Int.toNat_natCast, runA_y r1]
            rw [C_Wk_moveOfRun, E_Wk_moveOfRun_0, obj_e (z66 px2.1), px2.r (c := 67) (by decide)]
            simp (disch := omega) only [idx_n (z67 px2.1)]
            rw [this]
          · rw [if_neg (by rw [bl_t]; exact y), E_X_run_9, E_X_run_10, runA_n y]
        · simp only [if_neg a4]
          exact ⟨h, by rw [E_X_run_9, E_X_run_10], fr.rf _ h, p⟩
      · simp only [if_neg a2]
        exact ⟨h, by rw [E_X_run_5], fr.rf _ h, p⟩
  · simp only [if_neg a1]
    exact ⟨h, by rw [E_X_run_1], fr.rf _ h, p⟩
