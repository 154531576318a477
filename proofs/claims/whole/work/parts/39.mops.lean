/-! the model: move, drop, names -/
theorem M_isMove (d : Nat) {k : Nat} {s : Stt} {h : AH} (v : VS s) (p : MI k s h) {x m : Int} (x1 : -2147483648 ≤ x) (x2 : x < 2147483648) (n1 : -2147483648 ≤ m) (n2 : m < 2147483648) : Cc (d + 3) k_M_isMove [aR (some 94), aI (zI x), aI (zI m)] h = some (some (aI (zI (if (x = 0 ∨ x = 1) ∧ 0 ≤ m ∧ m ≤ ((rdr s x).2.2.2.length : Int) - 1 then 1 else 0))), h) := by
  have hl := (v.rv x).2.2.2.2.1
  rw [C_M_isMove, E_M_isMove_0, calI_e (M_isReader _ h x1 x2), if01]
  by_cases a1 : x = 0 ∨ x = 1
  · rw [if_pos a1, E_M_isMove_1, obj_e (z94 p.1.1), m3 p.1]
    have q := p.mr a1
    simp (disch := omega) only [idx_z (z98 p.1.1)]
    rw [q.2.2.2.1, zI_sub, i2l n1 n2, i2l (by omega) (by omega), calI_e (M_in _ h n1 n2 (by omega) (by omega) (by omega) (by omega)), if01]
    by_cases a2 : 0 ≤ m ∧ m ≤ ((rdr s x).2.2.2.length : Int) - 1
    · rw [if_pos a2, if_pos ⟨a1, a2⟩]; simp [E_M_isMove_2, E_M_isMove_4, zI_0, zI_1]
    · rw [if_neg a2, if_neg (fun q => a2 q.2)]; simp [E_M_isMove_3, E_M_isMove_4, zI_0, zI_1]
  · rw [if_neg a1, if_neg (fun q => a1 q.1)]; simp [E_M_isMove_3, E_M_isMove_4, zI_0, zI_1]
theorem M_move {x m k : Int} (x1 : -2147483648 ≤ x) (x2 : x < 2147483648) (n1 : -2147483648 ≤ m) (n2 : m < 2147483648) (k1 : -2147483648 ≤ k) (k2 : k < 2147483648) :
    MOK k_M_move [aI (zI x), aI (zI m), aI (zI k)] (fun s => if x = 0 ∨ x = 1 then if 0 ≤ m ∧ m ≤ ((rdr s x).2.2.2.length : Int) - 1 then if 0 ≤ k ∧ k ≤ 4 then prt ((rdr s x).2.2.2.getD m.toNat (0, 0, 0, 0, 0)) k.toNat else -3 else -2 else -2) id := by
  intro s kk h hk v p
  refine ⟨h, ?_, mfr.rf _ h, p.up⟩
  have hl := (v.rv x).2.2.2.2.1
  rw [C_M_move, E_M_move_0, obj_e (z94 p.1.1), calI_e (M_isMove _ v p x1 x2 n1 n2), if01]
  by_cases a1 : x = 0 ∨ x = 1
  · by_cases a2 : 0 ≤ m ∧ m ≤ ((rdr s x).2.2.2.length : Int) - 1
    · simp only [if_pos a1, if_pos a2, if_pos (And.intro a1 a2)]
      obtain ⟨i, rfl⟩ : ∃ i : Nat, m = i := ⟨m.toNat, by omega⟩
      obtain ⟨j, rfl⟩ : ∃ j : Nat, x = j := ⟨x.toNat, by omega⟩
      have hi : (rdr s j).2.2.2[i]? = some ((rdr s j).2.2.2.getD i (0, 0, 0, 0, 0)) := by
        rw [List.getD_eq_getElem?_getD, List.getElem?_eq_getElem (by omega)]; rfl
      obtain ⟨e0, e1, e2, e3, e4⟩ := (p.mr a1).2.2.2.2 i _ hi
      rw [Int.toNat_natCast] at e0 e1 e2 e3 e4
      rw [E_M_move_2, lt_e, show zI 20 * zI j + zI i = zI ((20 * j + i : Nat) : Int) from by rw [zI_mul, zI_add]; rfl, zI_toInt k1 k2]
      by_cases a3 : k < 0 ∨ 4 < k
      · rw [if_pos a3, if_neg (by omega), E_M_move_8]
      · rw [if_neg a3, if_pos (by omega)]
        obtain ⟨n, rfl⟩ : ∃ n : Nat, k = n := ⟨k.toNat, by omega⟩
        have sw : ∀ (t : Nat) (y1 y2 y3 y4 : Int32), 3 ≤ t → t ≤ 7 → msk (L_M_move t) [aR (some 94), aI y1, aI y2, aI y3, aI y4] = [aR (some 94), aU, aU, aU, aI y4] := by
          intro t y1 y2 y3 y4 h1 h2
          match t, h1, h2 with
          | 3, _, _ => rfl
          | 4, _, _ => rfl
          | 5, _, _ => rfl
          | 6, _, _ => rfl
          | 7, _, _ => rfl
        have hn : n = 0 ∨ n = 1 ∨ n = 2 ∨ n = 3 ∨ n = 4 := by omega
        rcases hn with rfl | rfl | rfl | rfl | rfl
        · rw [mb_e (show ([3, 4, 5, 6, 7] : List Nat)[(((0 : Nat) : Int) - 0).toNat]? = some 3 from rfl), sw 3 _ _ _ _ (by omega) (by omega), E_M_move_3, obj_e (z94 p.1.1), m4 p.1]
          simp (disch := omega) only [idx_n (z99 p.1.1)]
          rw [e0]; simp [prt]
        · rw [mb_e (show ([3, 4, 5, 6, 7] : List Nat)[(((1 : Nat) : Int) - 0).toNat]? = some 4 from rfl), sw 4 _ _ _ _ (by omega) (by omega), E_M_move_4, obj_e (z94 p.1.1), m5 p.1]
          simp (disch := omega) only [idx_n (z100 p.1.1)]
          rw [e1]; simp [prt]
        · rw [mb_e (show ([3, 4, 5, 6, 7] : List Nat)[(((2 : Nat) : Int) - 0).toNat]? = some 5 from rfl), sw 5 _ _ _ _ (by omega) (by omega), E_M_move_5, obj_e (z94 p.1.1), m6 p.1]
          simp (disch := omega) only [idx_n (z101 p.1.1)]
          rw [e2]; simp [prt]
        · rw [mb_e (show ([3, 4, 5, 6, 7] : List Nat)[(((3 : Nat) : Int) - 0).toNat]? = some 6 from rfl), sw 6 _ _ _ _ (by omega) (by omega), E_M_move_6, obj_e (z94 p.1.1), m7 p.1]
          simp (disch := omega) only [idx_n (z102 p.1.1)]
          rw [e3]; simp [prt]
        · rw [mb_e (show ([3, 4, 5, 6, 7] : List Nat)[(((4 : Nat) : Int) - 0).toNat]? = some 7 from rfl), sw 7 _ _ _ _ (by omega) (by omega), E_M_move_7, obj_e (z94 p.1.1), m8 p.1]
          simp (disch := omega) only [idx_n (z103 p.1.1)]
          rw [e4]; simp [prt]
    · simp only [if_pos a1, if_neg a2, if_neg (fun q : (x = 0 ∨ x = 1) ∧ 0 ≤ m ∧ m ≤ ((rdr s x).2.2.2.length : Int) - 1 => a2 q.2)]
      rw [E_M_move_1]
  · simp only [if_neg a1, if_neg (fun q : (x = 0 ∨ x = 1) ∧ 0 ≤ m ∧ m ≤ ((rdr s x).2.2.2.length : Int) - 1 => a1 q.1)]
    rw [E_M_move_1]
/-- drop's loop: the rows from i on move down by one -/
theorem M_drop_lp (d : Nat) {j n : Nat} (hj : j < 2) (hn : n < 20) : ∀ (k i : Nat) (h : AH), i + k = n → MS h → hI h 98 j = zI n →
    ∃ h', Rk B_M_drop L_M_drop (Cc d) 3 [aR (some 94), aI (zI j), aU, aI (zI ((20 * j + i : Nat) : Int))] [] h = some (some (aI (zI n)), h') ∧ mfr (fun a t => 99 ≤ a ∧ a ≤ 103 ∧ 20 * j + i ≤ t ∧ t < 20 * j + n) h h' ∧ (∀ a t, 99 ≤ a → a ≤ 103 → 20 * j + i ≤ t → t < 20 * j + n → hI h' a t = hI h a (t + 1))
  | 0, i, h, hk, p, h98 => by
    refine ⟨h, ?_, mfr.rf _ h, fun a t _ _ h1 h2 => by omega⟩
    rw [E_M_drop_3]
    simp (disch := omega) only [obj_e (z94 p.1), m3 p, idx_n (z98 p.1), h98]
    rw [show zI 20 * zI j + zI n = zI ((20 * j + n : Nat) : Int) from by rw [zI_mul, zI_add]; rfl]
    simp (disch := omega) only [nlt]
    rw [if_neg (by omega), E_M_drop_5]
    simp (disch := omega) only [obj_e (z94 p.1), m3 p, idx_n (z98 p.1), h98]
  | k + 1, i, h, hk, p, h98 => by
    have f : mfr (fun a t => 99 ≤ a ∧ a ≤ 103 ∧ t = 20 * j + i) h (sI (sI (sI (sI (sI h 99 (20 * j + i) (hI h 99 (20 * j + i + 1))) 100 (20 * j + i) (hI h 100 (20 * j + i + 1))) 101 (20 * j + i) (hI h 101 (20 * j + i + 1))) 102 (20 * j + i) (hI h 102 (20 * j + i + 1))) 103 (20 * j + i) (hI h 103 (20 * j + i + 1))) :=
      ((((mfr_sI h (by omega) _).tr (mfr_sI _ (by omega) _)).tr (mfr_sI _ (by omega) _)).tr (mfr_sI _ (by omega) _)).tr (mfr_sI _ (by omega) _)
    obtain ⟨h', e, f2, q⟩ := M_drop_lp d hj hn k (i + 1) (sI (sI (sI (sI (sI h 99 (20 * j + i) (hI h 99 (20 * j + i + 1))) 100 (20 * j + i) (hI h 100 (20 * j + i + 1))) 101 (20 * j + i) (hI h 101 (20 * j + i + 1))) 102 (20 * j + i) (hI h 102 (20 * j + i + 1))) 103 (20 * j + i) (hI h 103 (20 * j + i + 1))) (by omega) (p.mf f) (by rw [f.I (by omega)]; exact h98)
    refine ⟨h', ?_, (f.mo (fun a t hh => by omega)).tr (f2.mo (fun a t hh => by omega)), ?_⟩
    · rw [E_M_drop_3]
      simp (disch := omega) only [obj_e (z94 p.1), m3 p, idx_n (z98 p.1), h98]
      rw [show zI 20 * zI j + zI n = zI ((20 * j + n : Nat) : Int) from by rw [zI_mul, zI_add]; rfl]
      simp (disch := omega) only [nlt]
      rw [if_pos (by omega), E_M_drop_4]
      simp (disch := omega) only [obj_e (z94 p.1), obj_sI, m4 p, m5 p, m6 p, m7 p, m8 p, nadd1, idx_n (z99 p.1), idx_n (z100 p.1), idx_n (z101 p.1), idx_n (z102 p.1), idx_n (z103 p.1), lt_e, hR_sI, idx_sI, hI_off]
      exact e
    · intro a t h1 h2 h3 h4
      by_cases z : t = 20 * j + i
      · subst z
        rw [f2.I (by omega)]
        have ha : a = 99 ∨ a = 100 ∨ a = 101 ∨ a = 102 ∨ a = 103 := by omega
        rcases ha with rfl | rfl | rfl | rfl | rfl
        · rw [hI_off (by omega), hI_off (by omega), hI_off (by omega), hI_off (by omega), hI_hit]
        · rw [hI_off (by omega), hI_off (by omega), hI_off (by omega), hI_hit]
        · rw [hI_off (by omega), hI_off (by omega), hI_hit]
        · rw [hI_off (by omega), hI_hit]
        · rw [hI_hit]
      · rw [q a t h1 h2 (by omega) h4, f.I (by omega)]
theorem M_drop {x m : Int} (x1 : -2147483648 ≤ x) (x2 : x < 2147483648) (n1 : -2147483648 ≤ m) (n2 : m < 2147483648) :
    MOK k_M_drop [aI (zI x), aI (zI m)] (fun s => if x = 0 ∨ x = 1 then if 0 ≤ m ∧ m ≤ ((rdr s x).2.2.2.length : Int) - 1 then ((rdr s x).2.2.2.length : Int) - 1 else -2 else -2) (fun s => if x = 0 ∨ x = 1 then if 0 ≤ m ∧ m ≤ ((rdr s x).2.2.2.length : Int) - 1 then sR' s x ((rdr s x).1, (rdr s x).2.1, (rdr s x).2.2.1, (rdr s x).2.2.2.eraseIdx m.toNat) else s else s) := by
  intro s kk h hk v p
  have hl := (v.rv x).2.2.2.2.1
  rw [C_M_drop, E_M_drop_0, obj_e (z94 p.1.1), calI_e (M_isMove _ v p x1 x2 n1 n2), if01]
  by_cases a1 : x = 0 ∨ x = 1
  · by_cases a2 : 0 ≤ m ∧ m ≤ ((rdr s x).2.2.2.length : Int) - 1
    · simp only [if_pos a1, if_pos a2, if_pos (And.intro a1 a2)]
      obtain ⟨i, rfl⟩ : ∃ i : Nat, m = i := ⟨m.toNat, by omega⟩
      obtain ⟨j, rfl⟩ : ∃ j : Nat, x = j := ⟨x.toNat, by omega⟩
      have hi : i < (rdr s j).2.2.2.length := by omega
      have q := p.mr a1
      rw [Int.toNat_natCast] at q
      have f1 : mfr (fun a t => a = 98 ∧ t = j) h (sI h 98 j (zI (((rdr s j).2.2.2.length - 1 : Nat) : Int))) := mfr_sI (F := fun a t => a = 98 ∧ t = j) h ⟨rfl, rfl⟩ _
      obtain ⟨h', e, f2, g⟩ := M_drop_lp 59 (j := j) (n := (rdr s j).2.2.2.length - 1) (by omega) (by omega) ((rdr s j).2.2.2.length - 1 - i) i _ (by omega) (p.1.mf f1) (hI_hit _ _ _ _)
      have f : mfr (fun a t => (a = 98 ∧ t = j) ∨ (99 ≤ a ∧ a ≤ 103 ∧ 20 * j + i ≤ t ∧ t < 20 * j + ((rdr s j).2.2.2.length - 1))) h h' := (f1.mo fun a t hh => Or.inl hh).tr (f2.mo fun a t hh => Or.inr hh)
      refine ⟨h', ?_, f.mo (fun a t hh => by omega), ?_⟩
      · rw [E_M_drop_2]
        simp (disch := omega) only [obj_e (z94 p.1.1), m3 p.1, idx_n (z98 p.1.1), q.2.2.2.1, nsub1, lt_e]
        rw [show zI 20 * zI j + zI i = zI ((20 * j + i : Nat) : Int) from by rw [zI_mul, zI_add]; rfl, e]
        congr 5
        omega
      · have new : MR h' j ((rdr s j).1, (rdr s j).2.1, (rdr s j).2.2.1, (rdr s j).2.2.2.eraseIdx i) := by
          refine ⟨by rw [f.I (by omega)]; exact q.1, by rw [f.I (by omega)]; exact q.2.1, by rw [f.I (by omega)]; exact q.2.2.1, ?_, ?_⟩
          · rw [f2.I (by omega), hI_hit]
            show _ = zI (((rdr s j).2.2.2.eraseIdx i).length : Int)
            rw [List.length_eraseIdx_of_lt hi]
          · intro t m hm
            have hm : ((rdr s j).2.2.2.eraseIdx i)[t]? = some m := hm
            have ht := (List.getElem?_eq_some_iff.mp hm).1
            rw [List.length_eraseIdx_of_lt hi] at ht
            unfold mrow
            by_cases z : t < i
            · rw [List.getElem?_eraseIdx_of_lt z] at hm
              rw [f.I (by omega), f.I (by omega), f.I (by omega), f.I (by omega), f.I (by omega)]
              exact q.2.2.2.2 t m hm
            · rw [List.getElem?_eraseIdx_of_ge (by omega)] at hm
              have := q.2.2.2.2 (t + 1) m hm
              unfold mrow at this
              rw [g 99 _ (by omega) (by omega) (by omega) (by omega), g 100 _ (by omega) (by omega) (by omega) (by omega), g 101 _ (by omega) (by omega) (by omega) (by omega), g 102 _ (by omega) (by omega) (by omega) (by omega), g 103 _ (by omega) (by omega) (by omega) (by omega)]
              rw [f1.I (by omega), f1.I (by omega), f1.I (by omega), f1.I (by omega), f1.I (by omega)]
              exact this
        have old : ∀ i' r, i' ≠ j → i' < 2 → r.2.2.2.length ≤ 20 → MR h i' r → MR h' i' r := by
          intro i' r hi' hi2 hr q
          refine ⟨by rw [f.I (by omega)]; exact q.1, by rw [f.I (by omega)]; exact q.2.1, by rw [f.I (by omega)]; exact q.2.2.1, by rw [f.I (by omega)]; exact q.2.2.2.1, ?_⟩
          intro t m hm
          have ht := (List.getElem?_eq_some_iff.mp hm).1
          unfold mrow
          rw [f.I (by omega), f.I (by omega), f.I (by omega), f.I (by omega), f.I (by omega)]
          exact q.2.2.2.2 t m hm
        have rest := And.intro (p.2.2.2.1.mv f (by omega) (by omega)) (And.intro (p.2.2.2.2.1.mv f (by omega) (by omega) (by omega)) (p.2.2.2.2.2.mv f (by omega) (by omega)))
        have hj : j = 0 ∨ j = 1 := by omega
        rcases hj with rfl | rfl
        · exact MI.up ⟨p.1.mf f, new, old 1 _ (by omega) (by omega) v.2.1.2.2.2.2.1 p.2.2.1, rest⟩
        · exact MI.up ⟨p.1.mf f, old 0 _ (by omega) (by omega) v.1.2.2.2.2.1 p.2.1, new, rest⟩
    · simp only [if_pos a1, if_neg a2, if_neg (fun q : (x = 0 ∨ x = 1) ∧ 0 ≤ m ∧ m ≤ ((rdr s x).2.2.2.length : Int) - 1 => a2 q.2)]
      exact ⟨h, by rw [E_M_drop_1], mfr.rf _ h, p.up⟩
  · simp only [if_neg a1, if_neg (fun q : (x = 0 ∨ x = 1) ∧ 0 ≤ m ∧ m ≤ ((rdr s x).2.2.2.length : Int) - 1 => a1 q.1)]
    exact ⟨h, by rw [E_M_drop_1], mfr.rf _ h, p.up⟩
