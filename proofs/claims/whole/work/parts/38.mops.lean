/-! the model's small calls -/
theorem i2l {a : Int} (h1 : -2147483648 ≤ a) (h2 : a < 2147483648) : Int32.toInt64 (zI a) = zL a := by
  apply Int64.toInt_inj.mp
  rw [Int32.toInt_toInt64, zI_toInt h1 h2]
  exact (Int64.toInt_ofInt_of_le (by omega) (by omega)).symm
theorem zL_toInt {a : Int} (h1 : -9000000000000000000 ≤ a) (h2 : a ≤ 9000000000000000000) : (zL a).toInt = a := Int64.toInt_ofInt_of_le (by omega) (by omega)
theorem yl_lt {a b : Int} (h1 : -9000000000000000000 ≤ a) (h2 : a ≤ 9000000000000000000) (h3 : -9000000000000000000 ≤ b) (h4 : b ≤ 9000000000000000000) : (zL a < zL b) = (a < b) := propext (by rw [Int64.lt_iff_toInt_lt, zL_toInt h1 h2, zL_toInt h3 h4])
theorem yl_le {a b : Int} (h1 : -9000000000000000000 ≤ a) (h2 : a ≤ 9000000000000000000) (h3 : -9000000000000000000 ≤ b) (h4 : b ≤ 9000000000000000000) : (zL a ≤ zL b) = (a ≤ b) := propext (by rw [Int64.le_iff_toInt_le, zL_toInt h1 h2, zL_toInt h3 h4])
theorem lg_lt {a b : Int} (h1 : -9000000000000000000 ≤ a) (h2 : a ≤ 9000000000000000000) (h3 : -9000000000000000000 ≤ b) (h4 : b ≤ 9000000000000000000) : (lg_cmp (zL a) (zL b) < 0) = (a < b) := by rw [propext (lg_cmp_lt (zL a) (zL b)), yl_lt h1 h2 h3 h4]
theorem lg_le {a b : Int} (h1 : -9000000000000000000 ≤ a) (h2 : a ≤ 9000000000000000000) (h3 : -9000000000000000000 ≤ b) (h4 : b ≤ 9000000000000000000) : (lg_cmp (zL a) (zL b) ≤ 0) = (a ≤ b) := by rw [propext (lg_cmp_le (zL a) (zL b)), yl_le h1 h2 h3 h4]
theorem M_in (d : Nat) (h : AH) {a b c : Int} (h1 : -2147483648 ≤ a) (h2 : a < 2147483648) (h3 : -2147483648 ≤ b) (h4 : b < 2147483648) (h5 : -2147483648 ≤ c) (h6 : c < 2147483648) : Cc (d + 1) k_M_in [aL (zL a), aL (zL b), aL (zL c)] h = some (some (aI (zI (if b ≤ a ∧ a ≤ c then 1 else 0))), h) := by
  rw [C_M_in, E_M_in_0]
  simp (disch := omega) only [lg_lt]
  by_cases z : a < b
  · rw [if_pos z, if_neg (by omega)]; simp [E_M_in_3, E_M_in_4, zI_0, zI_1]
  · rw [if_neg z, E_M_in_1]
    simp (disch := omega) only [lg_le]
    by_cases y : a ≤ c
    · rw [if_pos y, if_pos (by omega)]; simp [E_M_in_2, E_M_in_4, zI_0, zI_1]
    · rw [if_neg y, if_neg (by omega)]; simp [E_M_in_3, E_M_in_4, zI_0, zI_1]
theorem b01 {P : Prop} {_ : Decidable P} {h : AH} : (if zI (if P then 1 else 0) = 0 ∨ zI (if P then 1 else 0) = 1 then some (some (aI (zI (if P then 1 else 0))), h) else none : Option AR) = some (some (aI (zI (if P then 1 else 0))), h) := by
  apply if_pos
  by_cases z : P
  · rw [if_pos z]; exact Or.inr rfl
  · rw [if_neg z]; exact Or.inl rfl
theorem M_isReader (d : Nat) (h : AH) {x : Int} (h1 : -2147483648 ≤ x) (h2 : x < 2147483648) : Cc (d + 2) k_M_isReader [aI (zI x)] h = some (some (aI (zI (if x = 0 ∨ x = 1 then 1 else 0))), h) := by
  rw [C_M_isReader, E_M_isReader_0, i2l h1 h2, calI_e (M_in d h h1 h2 (by omega) (by omega) (by omega) (by omega)), b01]
  congr 5
  by_cases z : x = 0 ∨ x = 1
  · rw [if_pos z, if_pos (by omega)]
  · rw [if_neg z, if_neg (by omega)]
theorem M_isPair (d : Nat) (h : AH) {a b : Int} (h1 : -2147483648 ≤ a) (h2 : a < 2147483648) (h3 : -2147483648 ≤ b) (h4 : b < 2147483648) : Cc (d + 2) k_M_isPair [aI (zI a), aI (zI b)] h = some (some (aI (zI (if (-1 ≤ a ∧ a ≤ 2) ∧ (-1 ≤ b ∧ b ≤ 99) then 1 else 0))), h) := by
  rw [C_M_isPair, E_M_isPair_0, i2l h1 h2, calI_e (M_in d h h1 h2 (by omega) (by omega) (by omega) (by omega)), if01]
  by_cases z : -1 ≤ a ∧ a ≤ 2
  · rw [if_pos z, E_M_isPair_1, i2l h3 h4, calI_e (M_in d h h3 h4 (by omega) (by omega) (by omega) (by omega)), if01]
    by_cases y : -1 ≤ b ∧ b ≤ 99
    · rw [if_pos y, if_pos ⟨z, y⟩]; simp [E_M_isPair_2, E_M_isPair_4, zI_0, zI_1]
    · rw [if_neg y, if_neg (fun q => y q.2)]; simp [E_M_isPair_3, E_M_isPair_4, zI_0, zI_1]
  · rw [if_neg z, if_neg (fun q => z q.1)]; simp [E_M_isPair_3, E_M_isPair_4, zI_0, zI_1]
theorem MI.mr {k : Nat} {s : Stt} {h : AH} (p : MI k s h) {x : Int} (hx : x = 0 ∨ x = 1) : MR h x.toNat (rdr s x) := by
  rcases hx with rfl | rfl
  · exact p.2.1
  · exact p.2.2.1
theorem VS.rv {s : Stt} (v : VS s) (x : Int) : RV (rdr s x) := by unfold rdr; split; exact v.1; exact v.2.1
theorem M_erase : MOK k_M_erase [] (fun s => s.2.2.1.length) (fun s => sT s []) := by
  intro s k h hk v p
  have f : mfr (fun a j => a = 94 ∧ j = 16) h (sI h 94 16 (zI 0)) := mfr_sI (F := fun a j => a = 94 ∧ j = 16) h ⟨rfl, rfl⟩ _
  refine ⟨_, ?_, f.mo (fun a j hh => by omega), ?_⟩
  · rw [C_M_erase, E_M_erase_0, obj_e (z94 p.1.1), lt_e, obj_e (z94 p.1.1), mb_some, p.2.2.2.1.1]
  · refine MI.up ⟨p.1.mf f, p.2.1.mv f (by omega), p.2.2.1.mv f (by omega), ⟨by rw [hI_hit]; rfl, by intro i c hc; simp [sT] at hc⟩, p.2.2.2.2.1.mv f (by omega) (by omega) (by omega), p.2.2.2.2.2.mv f (by omega) (by omega)⟩
theorem M_hush : MOK k_M_hush [] (fun s => s.2.2.2.length) (fun s => sW s []) := by
  intro s k h hk v p
  have f : mfr (fun a j => a = 94 ∧ j = 19) h (sI h 94 19 (zI 0)) := mfr_sI (F := fun a j => a = 94 ∧ j = 19) h ⟨rfl, rfl⟩ _
  refine ⟨_, ?_, f.mo (fun a j hh => by omega), ?_⟩
  · rw [C_M_hush, E_M_hush_0, obj_e (z94 p.1.1), lt_e, obj_e (z94 p.1.1), mb_some, p.2.2.2.2.1.1]
  · refine MI.up ⟨p.1.mf f, p.2.1.mv f (by omega), p.2.2.1.mv f (by omega), p.2.2.2.1.mv f (by omega) (by omega), ⟨by rw [hI_hit]; rfl, by intro i c hc; simp [sW] at hc⟩, p.2.2.2.2.2.mv f (by omega) (by omega)⟩
theorem M_pair {l n : Int} (x1 : -2147483648 ≤ l) (x2 : l < 2147483648) (n1 : -2147483648 ≤ n) (n2 : n < 2147483648) :
    MOK k_M_pair [aI (zI l), aI (zI n)] (fun s => if (-1 ≤ l ∧ l ≤ 2) ∧ (-1 ≤ n ∧ n ≤ 99) then if s.2.2.2.length < 12 then (s.2.2.2.length : Int) + 1 else -5 else -3) (fun s => if (-1 ≤ l ∧ l ≤ 2) ∧ (-1 ≤ n ∧ n ≤ 99) then if s.2.2.2.length < 12 then sW s (s.2.2.2 ++ [(l, n)]) else s else s) := by
  intro s k h hk v p
  have hl := v.2.2.2.1
  have h19 := p.2.2.2.2.1.1
  rw [C_M_pair, E_M_pair_0, calI_e (M_isPair _ h x1 x2 n1 n2), if01]
  by_cases a1 : (-1 ≤ l ∧ l ≤ 2) ∧ (-1 ≤ n ∧ n ≤ 99)
  · simp only [if_pos a1]
    rw [E_M_pair_2, obj_e (z94 p.1.1), h19, show zI 12 = zI ((12 : Nat) : Int) from rfl]
    simp (disch := omega) only [neq]
    by_cases a2 : s.2.2.2.length < 12
    · simp only [if_pos a2, if_neg (show ¬ s.2.2.2.length = 12 by omega)]
      have f : mfr (fun a j => (a = 94 ∧ j = 19) ∨ a = 110 ∨ a = 111) h (sI (sI (sI h 110 s.2.2.2.length (zI l)) 111 s.2.2.2.length (zI n)) 94 19 (zI ((s.2.2.2.length + 1 : Nat) : Int))) :=
        ((mfr_sI h (by omega) _).tr (mfr_sI _ (by omega) _)).tr (mfr_sI _ (by omega) _)
      refine ⟨_, ?_, f.mo (fun a j hh => by omega), ?_⟩
      · rw [E_M_pair_4]
        simp (disch := omega) only [obj_e (z94 p.1.1), obj_sI, m17 p.1, m18 p.1, h19, idx_n (z110 p.1.1), idx_n (z111 p.1.1), lt_e, hR_sI, idx_sI, hI_off, mb_some, nadd1, hI_hit]
        rfl
      · refine MI.up ⟨p.1.mf f, p.2.1.mv f (by omega), p.2.2.1.mv f (by omega), p.2.2.2.1.mv f (by omega) (by omega), ⟨by rw [hI_hit]; simp [sW], ?_⟩, p.2.2.2.2.2.mv f (by omega) (by omega)⟩
        intro i q hq
        have h1 := (List.getElem?_eq_some_iff.mp hq).1
        simp [sW] at h1 hq
        by_cases z : i < s.2.2.2.length
        · rw [List.getElem?_append_left z] at hq
          rw [hI_off (by omega), hI_off (by omega), hI_off (by omega), hI_off (by omega), hI_off (by omega), hI_off (by omega)]
          exact p.2.2.2.2.1.2 i q hq
        · have : i = s.2.2.2.length := by omega
          subst this
          simp at hq
          subst hq
          rw [hI_off (by omega), hI_off (by omega), hI_hit, hI_off (by omega), hI_hit]
          exact ⟨rfl, rfl⟩
    · simp only [if_neg a2, if_pos (show s.2.2.2.length = 12 by omega)]
      exact ⟨h, by rw [E_M_pair_3], mfr.rf _ h, p.up⟩
  · simp only [if_neg a1]
    exact ⟨h, by rw [E_M_pair_1], mfr.rf _ h, p.up⟩
theorem M_change {k l n : Int} (k1 : -2147483648 ≤ k) (k2 : k < 2147483648) (x1 : -2147483648 ≤ l) (x2 : l < 2147483648) (n1 : -2147483648 ≤ n) (n2 : n < 2147483648) :
    MOK k_M_change [aI (zI k), aI (zI l), aI (zI n)] (fun s => if 0 ≤ k ∧ k ≤ (s.2.2.2.length : Int) - 1 then if (-1 ≤ l ∧ l ≤ 2) ∧ (-1 ≤ n ∧ n ≤ 99) then 1 else -3 else -2) (fun s => if 0 ≤ k ∧ k ≤ (s.2.2.2.length : Int) - 1 then if (-1 ≤ l ∧ l ≤ 2) ∧ (-1 ≤ n ∧ n ≤ 99) then sW s (s.2.2.2.set k.toNat (l, n)) else s else s) := by
  intro s kk h hk v p
  have hl := v.2.2.2.1
  have h19 := p.2.2.2.2.1.1
  rw [C_M_change, E_M_change_0, obj_e (z94 p.1.1), h19, zI_sub, i2l k1 k2, i2l (by omega) (by omega), calI_e (M_in _ h k1 k2 (by omega) (by omega) (by omega) (by omega)), if01]
  by_cases a1 : 0 ≤ k ∧ k ≤ (s.2.2.2.length : Int) - 1
  · simp only [if_pos a1]
    rw [E_M_change_2, calI_e (M_isPair _ h x1 x2 n1 n2), if01]
    by_cases a2 : (-1 ≤ l ∧ l ≤ 2) ∧ (-1 ≤ n ∧ n ≤ 99)
    · simp only [if_pos a2]
      obtain ⟨i, rfl⟩ : ∃ i : Nat, k = i := ⟨k.toNat, by omega⟩
      have f : mfr (fun a j => a = 110 ∨ a = 111) h (sI (sI h 110 i (zI l)) 111 i (zI n)) := (mfr_sI h (by omega) _).tr (mfr_sI _ (by omega) _)
      refine ⟨_, ?_, f.mo (fun a j hh => by omega), ?_⟩
      · rw [E_M_change_4]
        simp (disch := omega) only [obj_e (z94 p.1.1), obj_sI, m17 p.1, m18 p.1, idx_n (z110 p.1.1), idx_n (z111 p.1.1), lt_e, hR_sI, idx_sI]
      · refine MI.up ⟨p.1.mf f, p.2.1.mv f (by omega), p.2.2.1.mv f (by omega), p.2.2.2.1.mv f (by omega) (by omega), ⟨?_, ?_⟩, p.2.2.2.2.2.mv f (by omega) (by omega)⟩
        · rw [hI_off (by omega), hI_off (by omega), h19]; simp [sW]
        · intro j q hq
          have hq : (s.2.2.2.set i (l, n))[j]? = some q := hq
          by_cases z : j = i
          · subst z
            rw [List.getElem?_set_self (by omega)] at hq
            cases hq
            rw [hI_off (by omega), hI_hit, hI_hit]
            exact ⟨rfl, rfl⟩
          · rw [List.getElem?_set_ne (by omega)] at hq
            rw [hI_off (by omega), hI_off (by omega), hI_off (by omega), hI_off (by omega)]
            exact p.2.2.2.2.1.2 j q hq
    · simp only [if_neg a2]
      exact ⟨h, by rw [E_M_change_3], mfr.rf _ h, p.up⟩
  · simp only [if_neg a1]
    exact ⟨h, by rw [E_M_change_1], mfr.rf _ h, p.up⟩
/-- reader -/
theorem M_reader {x n k t : Int} (x1 : -2147483648 ≤ x) (x2 : x < 2147483648) (n1 : -2147483648 ≤ n) (n2 : n < 2147483648) (k1 : -2147483648 ≤ k) (k2 : k < 2147483648) (t1 : -2147483648 ≤ t) (t2 : t < 2147483648) :
    MOK k_M_reader [aI (zI x), aI (zI n), aI (zI k), aI (zI t)] (fun _ => if x = 0 ∨ x = 1 then if 1 ≤ n ∧ n ≤ 6 then if 0 ≤ k ∧ k ≤ 3 then if 0 ≤ t ∧ t < 2 ^ n.toNat then 1 else -3 else -3 else -3 else -2) (fun s => if x = 0 ∨ x = 1 then if 1 ≤ n ∧ n ≤ 6 then if 0 ≤ k ∧ k ≤ 3 then if 0 ≤ t ∧ t < 2 ^ n.toNat then sR' s x (n.toNat, k.toNat, t.toNat, []) else s else s else s else s) := by
  intro s kk h hk v p
  rw [C_M_reader, E_M_reader_0, calI_e (M_isReader _ h x1 x2), if01]
  by_cases a1 : x = 0 ∨ x = 1
  · simp only [if_pos a1]
    rw [E_M_reader_2, i2l n1 n2, calI_e (M_in _ h n1 n2 (by omega) (by omega) (by omega) (by omega)), if01]
    by_cases a2 : 1 ≤ n ∧ n ≤ 6
    · simp only [if_pos a2]
      rw [E_M_reader_3, i2l k1 k2, calI_e (M_in _ h k1 k2 (by omega) (by omega) (by omega) (by omega)), if01]
      by_cases a3 : 0 ≤ k ∧ k ≤ 3
      · simp only [if_pos a3]
        obtain ⟨m, rfl⟩ : ∃ m : Nat, n = m := ⟨n.toNat, by omega⟩
        obtain ⟨kk2, rfl⟩ : ∃ m : Nat, k = m := ⟨k.toNat, by omega⟩
        have hc : ((2 ^ m : Nat) : Int) = (2 : Int) ^ m := by simp
        have hp : 2 ^ m ≤ 2 ^ 6 := Nat.pow_le_pow_right (by omega) (by omega)
        have hq : (0 : Int) ≤ (2 : Int) ^ m ∧ (2 : Int) ^ m ≤ 64 := by rw [← hc]; exact ⟨Int.natCast_nonneg _, Int.ofNat_le.mpr hp⟩
        have e1 : zI 1 <<< (zI m &&& 31) - zI 1 = zI (((2 ^ m : Nat) : Int) - 1) := by
          rw [show zI 1 <<< (zI m &&& 31) = zI ((1 * 2 ^ m : Nat) : Int) from nshl (n := 1) (by omega), Nat.one_mul]; exact zI_sub _ _
        rw [E_M_reader_4, i2l t1 t2, e1, i2l (by omega) (by omega), calI_e (M_in _ h t1 t2 (by omega) (by omega) (by omega) (by omega)), if01]
        have e2 : (0 ≤ t ∧ t ≤ ((2 ^ m : Nat) : Int) - 1) = (0 ≤ t ∧ t < 2 ^ (m : Int).toNat) := by
          rw [Int.toNat_natCast, ← hc]; exact propext (by omega)
        simp only [e2]
        by_cases a4 : 0 ≤ t ∧ t < 2 ^ (m : Int).toNat
        · simp only [if_pos a4]
          obtain ⟨tt, rfl⟩ : ∃ m : Nat, t = m := ⟨t.toNat, by omega⟩
          obtain ⟨j, rfl⟩ : ∃ m : Nat, x = m := ⟨x.toNat, by omega⟩
          have hj : j = 0 ∨ j = 1 := by omega
          have f : mfr (fun a i => (95 ≤ a ∧ a ≤ 98) ∧ i = j) h (sI (sI (sI (sI h 95 j (zI m)) 96 j (zI kk2)) 97 j (zI tt)) 98 j (zI 0)) :=
            (((mfr_sI h (by omega) _).tr (mfr_sI _ (by omega) _)).tr (mfr_sI _ (by omega) _)).tr (mfr_sI _ (by omega) _)
          refine ⟨_, ?_, f.mo (fun a j hh => by omega), ?_⟩
          · rw [E_M_reader_6]
            simp (disch := omega) only [obj_e (z94 p.1.1), obj_sI, m0 p.1, m1 p.1, m2 p.1, m3 p.1, idx_n (z95 p.1.1), idx_n (z96 p.1.1), idx_n (z97 p.1.1), idx_n (z98 p.1.1), lt_e, hR_sI, idx_sI]
          · have new : MR (sI (sI (sI (sI h 95 j (zI m)) 96 j (zI kk2)) 97 j (zI tt)) 98 j (zI 0)) j (m, kk2, tt, []) := by
              refine ⟨?_, ?_, ?_, ?_, by intro i q hq; simp at hq⟩
              · rw [hI_off (by omega), hI_off (by omega), hI_off (by omega), hI_hit]
              · rw [hI_off (by omega), hI_off (by omega), hI_hit]
              · rw [hI_off (by omega), hI_hit]
              · rw [hI_hit]; rfl
            have old : ∀ i r, i ≠ j → MR h i r → MR (sI (sI (sI (sI h 95 j (zI m)) 96 j (zI kk2)) 97 j (zI tt)) 98 j (zI 0)) i r := by
              intro i r hi q
              refine ⟨?_, ?_, ?_, ?_, ?_⟩
              · rw [f.I (by omega)]; exact q.1
              · rw [f.I (by omega)]; exact q.2.1
              · rw [f.I (by omega)]; exact q.2.2.1
              · rw [f.I (by omega)]; exact q.2.2.2.1
              · intro t m hm
                unfold mrow
                rw [f.I (by omega), f.I (by omega), f.I (by omega), f.I (by omega), f.I (by omega)]
                exact q.2.2.2.2 t m hm
            have rest := And.intro (p.2.2.2.1.mv f (by omega) (by omega)) (And.intro (p.2.2.2.2.1.mv f (by omega) (by omega) (by omega)) (p.2.2.2.2.2.mv f (by omega) (by omega)))
            rcases hj with rfl | rfl
            · exact MI.up ⟨p.1.mf f, new, old 1 _ (by omega) p.2.2.1, rest⟩
            · exact MI.up ⟨p.1.mf f, old 0 _ (by omega) p.2.1, new, rest⟩
        · simp only [if_neg a4]
          exact ⟨h, by rw [E_M_reader_5], mfr.rf _ h, p.up⟩
      · simp only [if_neg a3]
        exact ⟨h, by rw [E_M_reader_5], mfr.rf _ h, p.up⟩
    · simp only [if_neg a2]
      exact ⟨h, by rw [E_M_reader_5], mfr.rf _ h, p.up⟩
  · simp only [if_neg a1]
    exact ⟨h, by rw [E_M_reader_1], mfr.rf _ h, p.up⟩
/-- write -/
theorem M_write_lp (d : Nat) {x : Int64} {n kk : Nat} (hn : n ≤ 8) : ∀ (k i : Nat) (s : Stt) (h : AH), i + k = n → MI kk s h → s.2.2.1.length + k ≤ 150 → ∃ h', Rk B_M_write L_M_write (Cc d) 5 [aR (some 94), aL x, aU, aI (zI n), aI (zI i)] [] h = some (some (aI (zI ((s.2.2.1.length + k : Nat) : Int))), h') ∧ mfr (fun a _ => 94 ≤ a) h h' ∧ MI kk (sT s (s.2.2.1 ++ (List.range' i k).map (by8 x))) h'
  | 0, i, s, h, hk, p, hl => by
    refine ⟨h, ?_, mfr.rf _ h, ?_⟩
    · rw [E_M_write_5]
      simp (disch := omega) only [nlt]
      rw [if_neg (by omega), E_M_write_7, obj_e (z94 p.1.1), p.2.2.2.1.1]; rfl
    · simpa [sT] using p
  | k + 1, i, s, h, hk, p, hl => by
    have h16 := p.2.2.2.1.1
    have f : mfr (fun a j => (a = 94 ∧ j = 16) ∨ a = 109) h (sI (sI h 109 s.2.2.1.length (zI (by8 x i))) 94 16 (zI ((s.2.2.1.length + 1 : Nat) : Int))) := (mfr_sI h (by omega) _).tr (mfr_sI _ (by omega) _)
    have p1 : MI kk (sT s (s.2.2.1 ++ [by8 x i])) (sI (sI h 109 s.2.2.1.length (zI (by8 x i))) 94 16 (zI ((s.2.2.1.length + 1 : Nat) : Int))) := by
      refine ⟨p.1.mf f, p.2.1.mv f (by omega), p.2.2.1.mv f (by omega), ⟨by rw [hI_hit]; simp [sT], ?_⟩, p.2.2.2.2.1.mv f (by omega) (by omega) (by omega), p.2.2.2.2.2.mv f (by omega) (by omega)⟩
      intro j c hc
      have hc : (s.2.2.1 ++ [by8 x i])[j]? = some c := hc
      rw [hI_off (by omega)]
      by_cases z : j < s.2.2.1.length
      · rw [hI_off (by omega)]
        rw [List.getElem?_append_left z] at hc
        exact p.2.2.2.1.2 j c hc
      · have hj := (List.getElem?_eq_some_iff.mp hc).1
        rw [List.length_append] at hj
        have : j = s.2.2.1.length := by simp at hj; omega
        subst this
        rw [hI_hit]
        simp at hc
        rw [hc]
    have hlen : (sT s (s.2.2.1 ++ [by8 x i])).2.2.1.length = s.2.2.1.length + 1 := by simp [sT]
    obtain ⟨h', e, f2, q⟩ := M_write_lp d hn k (i + 1) _ _ (by omega) p1 (by rw [hlen]; omega)
    refine ⟨h', ?_, (f.mo (fun a j hh => by omega)).tr f2, ?_⟩
    · rw [hlen] at e
      rw [E_M_write_5]
      simp (disch := omega) only [nlt]
      rw [if_pos (by omega), E_M_write_6]
      simp (disch := omega) only [obj_e (z94 p.1.1), m15 p.1, h16, idx_n (z109 p.1.1), lt_e, obj_sI, mb_some, hI_off, nadd1, by8_e]
      rw [e, show s.2.2.1.length + 1 + k = s.2.2.1.length + (k + 1) by omega]
    · simpa [sT, List.range'_succ] using q
theorem M_write (x : Int64) {n : Int} (h1 : -2147483648 ≤ n) (h2 : n < 2147483648) : MOK k_M_write [aL x, aI (zI n)] (fun s => if ¬ (1 ≤ n ∧ n ≤ 8) then -3 else if 150 < s.2.2.1.length + n then -5 else s.2.2.1.length + n) (fun s => if ¬ (1 ≤ n ∧ n ≤ 8) then s else if 150 < s.2.2.1.length + n then s else sT s (s.2.2.1 ++ (List.range' 0 n.toNat).map (by8 x))) := by
  intro s k h hk v p
  have hl := v.2.2.1.1
  have h16 := p.2.2.2.1.1
  rw [C_M_write, E_M_write_0, i2l h1 h2, calI_e (M_in _ h h1 h2 (by omega) (by omega) (by omega) (by omega)), if01]
  by_cases z : 1 ≤ n ∧ n ≤ 8
  · simp only [if_pos z, if_neg (fun q => q z : ¬ ¬ (1 ≤ n ∧ n ≤ 8))]
    rw [E_M_write_2, obj_e (z94 p.1.1), h16, zI_add]
    simp (disch := omega) only [yle]
    by_cases y : 150 < s.2.2.1.length + n
    · simp only [if_pos y, if_neg (by omega : ¬ ((s.2.2.1.length : Int) + n ≤ 150))]
      exact ⟨h, by rw [E_M_write_3], mfr.rf _ h, p.up⟩
    · simp only [if_neg y, if_pos (by omega : ((s.2.2.1.length : Int) + n ≤ 150))]
      obtain ⟨m, rfl⟩ : ∃ m : Nat, n = m := ⟨n.toNat, by omega⟩
      obtain ⟨h', e, f, q⟩ := M_write_lp 59 (x := x) (n := m) (by omega) m 0 s h (by omega) p (by omega)
      exact ⟨h', by rw [E_M_write_4, lt_e]; exact e, f, q.up⟩
  · simp only [if_neg z, if_pos (by exact z : ¬ (1 ≤ n ∧ n ≤ 8))]
    exact ⟨h, by rw [E_M_write_1], mfr.rf _ h, p.up⟩
