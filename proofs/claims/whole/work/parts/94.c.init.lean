/-! THE START: the sets are empty -/
theorem hW0 : alB (fun w => hL hM 23 w == 0 && (hL hM 24 w == 0 && (hL hM 26 w == 0 && (hL hM 27 w == 0 && (hL hM 29 w == 0 && (hL hM 30 w == 0)))))) 9 0 = true := by decide +kernel
theorem hW1 : alB (fun w => hL hM 32 w == 0 && (hL hM 33 w == 0 && (hL hM 35 w == 0 && (hL hM 36 w == 0 && (hL hM 38 w == 0 && (hL hM 39 w == 0)))))) 9 0 = true := by decide +kernel
theorem hW2 : alB (fun w => hL hM 41 w == 0 && (hL hM 42 w == 0 && (hL hM 44 w == 0 && (hL hM 45 w == 0 && (hL hM 47 w == 0 && (hL hM 48 w == 0)))))) 9 0 = true := by decide +kernel
theorem hW3 : alB (fun w => hL hM 50 w == 0 && (hL hM 51 w == 0 && (hL hM 53 w == 0 && (hL hM 54 w == 0 && (hL hM 56 w == 0 && (hL hM 57 w == 0)))))) 9 0 = true := by decide +kernel
theorem hW4 : alB (fun w => hL hM 59 w == 0 && (hL hM 60 w == 0 && (hL hM 62 w == 0 && (hL hM 63 w == 0 && (hL hM 85 w == 0 && (hL hM 86 w == 0)))))) 9 0 = true := by decide +kernel
theorem hW5 : alB (fun w => hL hM 88 w == 0 && (hL hM 89 w == 0 && (hL hM 91 w == 0 && (hL hM 92 w == 0)))) 9 0 = true := by decide +kernel
theorem hW_23 (w : Nat) (hw : w < 512) : hL hM 23 w = zL 0 := by
  have q := alB_i 9 0 hW0 w (Nat.zero_le _) (by omega)
  simp only [Bool.and_eq_true, beq_iff_eq] at q
  exact q.1
theorem hW_24 (w : Nat) (hw : w < 512) : hL hM 24 w = zL 0 := by
  have q := alB_i 9 0 hW0 w (Nat.zero_le _) (by omega)
  simp only [Bool.and_eq_true, beq_iff_eq] at q
  exact q.2.1
theorem hW_26 (w : Nat) (hw : w < 512) : hL hM 26 w = zL 0 := by
  have q := alB_i 9 0 hW0 w (Nat.zero_le _) (by omega)
  simp only [Bool.and_eq_true, beq_iff_eq] at q
  exact q.2.2.1
theorem hW_27 (w : Nat) (hw : w < 512) : hL hM 27 w = zL 0 := by
  have q := alB_i 9 0 hW0 w (Nat.zero_le _) (by omega)
  simp only [Bool.and_eq_true, beq_iff_eq] at q
  exact q.2.2.2.1
theorem hW_29 (w : Nat) (hw : w < 512) : hL hM 29 w = zL 0 := by
  have q := alB_i 9 0 hW0 w (Nat.zero_le _) (by omega)
  simp only [Bool.and_eq_true, beq_iff_eq] at q
  exact q.2.2.2.2.1
theorem hW_30 (w : Nat) (hw : w < 512) : hL hM 30 w = zL 0 := by
  have q := alB_i 9 0 hW0 w (Nat.zero_le _) (by omega)
  simp only [Bool.and_eq_true, beq_iff_eq] at q
  exact q.2.2.2.2.2
theorem hW_32 (w : Nat) (hw : w < 512) : hL hM 32 w = zL 0 := by
  have q := alB_i 9 0 hW1 w (Nat.zero_le _) (by omega)
  simp only [Bool.and_eq_true, beq_iff_eq] at q
  exact q.1
theorem hW_33 (w : Nat) (hw : w < 512) : hL hM 33 w = zL 0 := by
  have q := alB_i 9 0 hW1 w (Nat.zero_le _) (by omega)
  simp only [Bool.and_eq_true, beq_iff_eq] at q
  exact q.2.1
theorem hW_35 (w : Nat) (hw : w < 512) : hL hM 35 w = zL 0 := by
  have q := alB_i 9 0 hW1 w (Nat.zero_le _) (by omega)
  simp only [Bool.and_eq_true, beq_iff_eq] at q
  exact q.2.2.1
theorem hW_36 (w : Nat) (hw : w < 512) : hL hM 36 w = zL 0 := by
  have q := alB_i 9 0 hW1 w (Nat.zero_le _) (by omega)
  simp only [Bool.and_eq_true, beq_iff_eq] at q
  exact q.2.2.2.1
theorem hW_38 (w : Nat) (hw : w < 512) : hL hM 38 w = zL 0 := by
  have q := alB_i 9 0 hW1 w (Nat.zero_le _) (by omega)
  simp only [Bool.and_eq_true, beq_iff_eq] at q
  exact q.2.2.2.2.1
theorem hW_39 (w : Nat) (hw : w < 512) : hL hM 39 w = zL 0 := by
  have q := alB_i 9 0 hW1 w (Nat.zero_le _) (by omega)
  simp only [Bool.and_eq_true, beq_iff_eq] at q
  exact q.2.2.2.2.2
theorem hW_41 (w : Nat) (hw : w < 512) : hL hM 41 w = zL 0 := by
  have q := alB_i 9 0 hW2 w (Nat.zero_le _) (by omega)
  simp only [Bool.and_eq_true, beq_iff_eq] at q
  exact q.1
theorem hW_42 (w : Nat) (hw : w < 512) : hL hM 42 w = zL 0 := by
  have q := alB_i 9 0 hW2 w (Nat.zero_le _) (by omega)
  simp only [Bool.and_eq_true, beq_iff_eq] at q
  exact q.2.1
theorem hW_44 (w : Nat) (hw : w < 512) : hL hM 44 w = zL 0 := by
  have q := alB_i 9 0 hW2 w (Nat.zero_le _) (by omega)
  simp only [Bool.and_eq_true, beq_iff_eq] at q
  exact q.2.2.1
theorem hW_45 (w : Nat) (hw : w < 512) : hL hM 45 w = zL 0 := by
  have q := alB_i 9 0 hW2 w (Nat.zero_le _) (by omega)
  simp only [Bool.and_eq_true, beq_iff_eq] at q
  exact q.2.2.2.1
theorem hW_47 (w : Nat) (hw : w < 512) : hL hM 47 w = zL 0 := by
  have q := alB_i 9 0 hW2 w (Nat.zero_le _) (by omega)
  simp only [Bool.and_eq_true, beq_iff_eq] at q
  exact q.2.2.2.2.1
theorem hW_48 (w : Nat) (hw : w < 512) : hL hM 48 w = zL 0 := by
  have q := alB_i 9 0 hW2 w (Nat.zero_le _) (by omega)
  simp only [Bool.and_eq_true, beq_iff_eq] at q
  exact q.2.2.2.2.2
theorem hW_50 (w : Nat) (hw : w < 512) : hL hM 50 w = zL 0 := by
  have q := alB_i 9 0 hW3 w (Nat.zero_le _) (by omega)
  simp only [Bool.and_eq_true, beq_iff_eq] at q
  exact q.1
theorem hW_51 (w : Nat) (hw : w < 512) : hL hM 51 w = zL 0 := by
  have q := alB_i 9 0 hW3 w (Nat.zero_le _) (by omega)
  simp only [Bool.and_eq_true, beq_iff_eq] at q
  exact q.2.1
theorem hW_53 (w : Nat) (hw : w < 512) : hL hM 53 w = zL 0 := by
  have q := alB_i 9 0 hW3 w (Nat.zero_le _) (by omega)
  simp only [Bool.and_eq_true, beq_iff_eq] at q
  exact q.2.2.1
theorem hW_54 (w : Nat) (hw : w < 512) : hL hM 54 w = zL 0 := by
  have q := alB_i 9 0 hW3 w (Nat.zero_le _) (by omega)
  simp only [Bool.and_eq_true, beq_iff_eq] at q
  exact q.2.2.2.1
theorem hW_56 (w : Nat) (hw : w < 512) : hL hM 56 w = zL 0 := by
  have q := alB_i 9 0 hW3 w (Nat.zero_le _) (by omega)
  simp only [Bool.and_eq_true, beq_iff_eq] at q
  exact q.2.2.2.2.1
theorem hW_57 (w : Nat) (hw : w < 512) : hL hM 57 w = zL 0 := by
  have q := alB_i 9 0 hW3 w (Nat.zero_le _) (by omega)
  simp only [Bool.and_eq_true, beq_iff_eq] at q
  exact q.2.2.2.2.2
theorem hW_59 (w : Nat) (hw : w < 512) : hL hM 59 w = zL 0 := by
  have q := alB_i 9 0 hW4 w (Nat.zero_le _) (by omega)
  simp only [Bool.and_eq_true, beq_iff_eq] at q
  exact q.1
theorem hW_60 (w : Nat) (hw : w < 512) : hL hM 60 w = zL 0 := by
  have q := alB_i 9 0 hW4 w (Nat.zero_le _) (by omega)
  simp only [Bool.and_eq_true, beq_iff_eq] at q
  exact q.2.1
theorem hW_62 (w : Nat) (hw : w < 512) : hL hM 62 w = zL 0 := by
  have q := alB_i 9 0 hW4 w (Nat.zero_le _) (by omega)
  simp only [Bool.and_eq_true, beq_iff_eq] at q
  exact q.2.2.1
theorem hW_63 (w : Nat) (hw : w < 512) : hL hM 63 w = zL 0 := by
  have q := alB_i 9 0 hW4 w (Nat.zero_le _) (by omega)
  simp only [Bool.and_eq_true, beq_iff_eq] at q
  exact q.2.2.2.1
theorem hW_85 (w : Nat) (hw : w < 512) : hL hM 85 w = zL 0 := by
  have q := alB_i 9 0 hW4 w (Nat.zero_le _) (by omega)
  simp only [Bool.and_eq_true, beq_iff_eq] at q
  exact q.2.2.2.2.1
theorem hW_86 (w : Nat) (hw : w < 512) : hL hM 86 w = zL 0 := by
  have q := alB_i 9 0 hW4 w (Nat.zero_le _) (by omega)
  simp only [Bool.and_eq_true, beq_iff_eq] at q
  exact q.2.2.2.2.2
theorem hW_88 (w : Nat) (hw : w < 512) : hL hM 88 w = zL 0 := by
  have q := alB_i 9 0 hW5 w (Nat.zero_le _) (by omega)
  simp only [Bool.and_eq_true, beq_iff_eq] at q
  exact q.1
theorem hW_89 (w : Nat) (hw : w < 512) : hL hM 89 w = zL 0 := by
  have q := alB_i 9 0 hW5 w (Nat.zero_le _) (by omega)
  simp only [Bool.and_eq_true, beq_iff_eq] at q
  exact q.2.1
theorem hW_91 (w : Nat) (hw : w < 512) : hL hM 91 w = zL 0 := by
  have q := alB_i 9 0 hW5 w (Nat.zero_le _) (by omega)
  simp only [Bool.and_eq_true, beq_iff_eq] at q
  exact q.2.2.1
theorem hW_92 (w : Nat) (hw : w < 512) : hL hM 92 w = zL 0 := by
  have q := alB_i 9 0 hW5 w (Nat.zero_le _) (by omega)
  simp only [Bool.and_eq_true, beq_iff_eq] at q
  exact q.2.2.2
theorem hU_116 (w : Nat) (hw : w < 32768) : hI hM 116 w = zI 0 := by
  by_cases z1 : w < 8192
  · have q := alB_i 13 0 hU0 w (by omega) (by omega)
    exact beq_iff_eq.mp q
  · by_cases z2 : w < 16384
    · have q := alB_i 13 8192 hU1 w (by omega) (by omega)
      exact beq_iff_eq.mp q
    · by_cases z3 : w < 24576
      · have q := alB_i 13 16384 hU2 w (by omega) (by omega)
        exact beq_iff_eq.mp q
      · have q := alB_i 13 24576 hU3 w (by omega) (by omega)
        exact beq_iff_eq.mp q
theorem cn_nil : ∀ n, cn (fun _ => false) n = 0
  | 0 => rfl
  | n + 1 => by unfold cn; rw [cn_nil n]; rfl
theorem SP_nil {h : AH} {a lim : Nat} (hs : SPs h a lim) (z1 : ∀ w, w < 512 → hL h (a + 1) w = zL 0) (z2 : ∀ w, w < 512 → hL h (a + 2) w = zL 0) (h3 : hI h a 3 = zI 0) : SP h a lim (fun _ => false) := by
  have hl : lim ≤ 32768 := hs.2.2.2.2.2.2.2
  refine ⟨hs, ⟨fun _ _ => rfl, fun w b hb hw => ?_, fun g b hb hg => ?_⟩, by rw [h3, cn_nil]; rfl⟩
  · by_cases y : w < 512
    · rw [z1 w y, bt_0]
    · omega
  · rw [z2 g (by omega), bt_0]
    constructor
    · intro y; cases y
    · rintro ⟨_, _, y⟩; cases y
theorem sp_22 : SP hM 22 24576 (fun _ => false) := SP_nil ⟨z22 hM_1, z23 hM_1, z24 hM_1, hR2 (22, 1, 23) (by decide), hR2 (22, 2, 24) (by decide), (hI1 (22, 0, 24576) (by decide)), by omega, by omega⟩ hW_23 hW_24 (hI1 (22, 3, 0) (by decide))
theorem sp_25 : SP hM 25 24576 (fun _ => false) := SP_nil ⟨z25 hM_1, z26 hM_1, z27 hM_1, hR2 (25, 1, 26) (by decide), hR2 (25, 2, 27) (by decide), (hI1 (25, 0, 24576) (by decide)), by omega, by omega⟩ hW_26 hW_27 (hI1 (25, 3, 0) (by decide))
theorem sp_28 : SP hM 28 24576 (fun _ => false) := SP_nil ⟨z28 hM_1, z29 hM_1, z30 hM_1, hR2 (28, 1, 29) (by decide), hR2 (28, 2, 30) (by decide), (hI1 (28, 0, 24576) (by decide)), by omega, by omega⟩ hW_29 hW_30 (hI1 (28, 3, 0) (by decide))
theorem sp_31 : SP hM 31 24576 (fun _ => false) := SP_nil ⟨z31 hM_1, z32 hM_1, z33 hM_1, hR2 (31, 1, 32) (by decide), hR2 (31, 2, 33) (by decide), (hI1 (31, 0, 24576) (by decide)), by omega, by omega⟩ hW_32 hW_33 (hI1 (31, 3, 0) (by decide))
theorem sp_34 : SP hM 34 24576 (fun _ => false) := SP_nil ⟨z34 hM_1, z35 hM_1, z36 hM_1, hR2 (34, 1, 35) (by decide), hR2 (34, 2, 36) (by decide), (hI1 (34, 0, 24576) (by decide)), by omega, by omega⟩ hW_35 hW_36 (hI1 (34, 3, 0) (by decide))
theorem sp_37 : SP hM 37 24576 (fun _ => false) := SP_nil ⟨z37 hM_1, z38 hM_1, z39 hM_1, hR2 (37, 1, 38) (by decide), hR2 (37, 2, 39) (by decide), (hI1 (37, 0, 24576) (by decide)), by omega, by omega⟩ hW_38 hW_39 (hI1 (37, 3, 0) (by decide))
theorem sp_40 : SP hM 40 24576 (fun _ => false) := SP_nil ⟨z40 hM_1, z41 hM_1, z42 hM_1, hR2 (40, 1, 41) (by decide), hR2 (40, 2, 42) (by decide), (hI1 (40, 0, 24576) (by decide)), by omega, by omega⟩ hW_41 hW_42 (hI1 (40, 3, 0) (by decide))
theorem sp_43 : SP hM 43 24576 (fun _ => false) := SP_nil ⟨z43 hM_1, z44 hM_1, z45 hM_1, hR2 (43, 1, 44) (by decide), hR2 (43, 2, 45) (by decide), (hI1 (43, 0, 24576) (by decide)), by omega, by omega⟩ hW_44 hW_45 (hI1 (43, 3, 0) (by decide))
theorem sp_46 : SP hM 46 24576 (fun _ => false) := SP_nil ⟨z46 hM_1, z47 hM_1, z48 hM_1, hR2 (46, 1, 47) (by decide), hR2 (46, 2, 48) (by decide), (hI1 (46, 0, 24576) (by decide)), by omega, by omega⟩ hW_47 hW_48 (hI1 (46, 3, 0) (by decide))
theorem sp_49 : SP hM 49 24576 (fun _ => false) := SP_nil ⟨z49 hM_1, z50 hM_1, z51 hM_1, hR2 (49, 1, 50) (by decide), hR2 (49, 2, 51) (by decide), (hI1 (49, 0, 24576) (by decide)), by omega, by omega⟩ hW_50 hW_51 (hI1 (49, 3, 0) (by decide))
theorem sp_52 : SP hM 52 24576 (fun _ => false) := SP_nil ⟨z52 hM_1, z53 hM_1, z54 hM_1, hR2 (52, 1, 53) (by decide), hR2 (52, 2, 54) (by decide), (hI1 (52, 0, 24576) (by decide)), by omega, by omega⟩ hW_53 hW_54 (hI1 (52, 3, 0) (by decide))
theorem sp_55 : SP hM 55 24576 (fun _ => false) := SP_nil ⟨z55 hM_1, z56 hM_1, z57 hM_1, hR2 (55, 1, 56) (by decide), hR2 (55, 2, 57) (by decide), (hI1 (55, 0, 24576) (by decide)), by omega, by omega⟩ hW_56 hW_57 (hI1 (55, 3, 0) (by decide))
theorem sp_58 : SP hM 58 24576 (fun _ => false) := SP_nil ⟨z58 hM_1, z59 hM_1, z60 hM_1, hR2 (58, 1, 59) (by decide), hR2 (58, 2, 60) (by decide), (hI1 (58, 0, 24576) (by decide)), by omega, by omega⟩ hW_59 hW_60 (hI1 (58, 3, 0) (by decide))
theorem sp_61 : SP hM 61 24576 (fun _ => false) := SP_nil ⟨z61 hM_1, z62 hM_1, z63 hM_1, hR2 (61, 1, 62) (by decide), hR2 (61, 2, 63) (by decide), (hI1 (61, 0, 24576) (by decide)), by omega, by omega⟩ hW_62 hW_63 (hI1 (61, 3, 0) (by decide))
theorem sp_84 : SP hM 84 31572 (fun _ => false) := SP_nil ⟨z84 hM_1, z85 hM_1, z86 hM_1, hR3 (84, 1, 85) (by decide), hR3 (84, 2, 86) (by decide), (hM_i (84, 0, 31572) (by decide)), by omega, by omega⟩ hW_85 hW_86 (hM_i (84, 3, 0) (by decide))
theorem sp_87 : SP hM 87 31572 (fun _ => false) := SP_nil ⟨z87 hM_1, z88 hM_1, z89 hM_1, hR3 (87, 1, 88) (by decide), hR3 (87, 2, 89) (by decide), (hM_i (87, 0, 31572) (by decide)), by omega, by omega⟩ hW_88 hW_89 (hM_i (87, 3, 0) (by decide))
theorem sp_90 : SP hM 90 31572 (fun _ => false) := SP_nil ⟨z90 hM_1, z91 hM_1, z92 hM_1, hR3 (90, 1, 91) (by decide), hR3 (90, 2, 92) (by decide), (hM_i (90, 0, 31572) (by decide)), by omega, by omega⟩ hW_91 hW_92 (hM_i (90, 3, 0) (by decide))
