/-! THE START: the state -/
def S0 : Stt := (BLK, BLK, [], [])
theorem bk_nil (p : Nat) : bk [] p = [] := rfl
theorem bg_nil : ∀ p, bg [] p = 0
  | 0 => rfl
  | p + 1 => by unfold bg; rw [bg_nil p]; rfl
theorem RV_B : RV BLK := ⟨by decide, by decide, by decide, by decide, by decide, fun m hm => by cases hm⟩
theorem in19 {a : Nat} (h : ∀ p, p < 19 → (a, p, 0) ∈ TI2) (p : Nat) (hp : p ≤ 18) : hI hM a p = zI (bg [] p) := by
  rw [bg_nil]
  exact hI2 (a, p, 0) (h p (by omega))
theorem rd_1 : RD hM 1 BLK := ⟨RV_B, ⟨z1 hM_1, z2 hM_1, z3 hM_1, z4 hM_1, hR3 (1, 0, 2) (by decide), hR3 (1, 1, 3) (by decide), hR3 (1, 2, 4) (by decide)⟩, ⟨hM_i (1, 3, 1) (by decide), hM_i (1, 4, 0) (by decide), hM_i (1, 5, 0) (by decide), hM_i (1, 6, 0) (by decide), fun i m hm => by cases hm⟩, ⟨in19 (a := 4) (by decide), fun p j i _ hj => by cases hj⟩⟩
theorem rd_5 : RD hM 5 BLK := ⟨RV_B, ⟨z5 hM_1, z6 hM_1, z7 hM_1, z8 hM_1, hR3 (5, 0, 6) (by decide), hR3 (5, 1, 7) (by decide), hR3 (5, 2, 8) (by decide)⟩, ⟨hM_i (5, 3, 1) (by decide), hM_i (5, 4, 0) (by decide), hM_i (5, 5, 0) (by decide), hM_i (5, 6, 0) (by decide), fun i m hm => by cases hm⟩, ⟨in19 (a := 8) (by decide), fun p j i _ hj => by cases hj⟩⟩
theorem rd_9 : RD hM 9 BLK := ⟨RV_B, ⟨z9 hM_1, z10 hM_1, z11 hM_1, z12 hM_1, hR3 (9, 0, 10) (by decide), hR3 (9, 1, 11) (by decide), hR3 (9, 2, 12) (by decide)⟩, ⟨hM_i (9, 3, 1) (by decide), hM_i (9, 4, 0) (by decide), hM_i (9, 5, 0) (by decide), hM_i (9, 6, 0) (by decide), fun i m hm => by cases hm⟩, ⟨in19 (a := 12) (by decide), fun p j i _ hj => by cases hj⟩⟩
theorem rw_0 : RW hM [] := ⟨⟨by decide, fun p hp => by cases hp⟩, ⟨z16 hM_1, z17 hM_1, z18 hM_1, z19 hM_1, z20 hM_1, hR3 (16, 0, 17) (by decide), hR3 (16, 1, 18) (by decide), hR3 (16, 2, 19) (by decide), hR3 (16, 3, 20) (by decide)⟩, hM_i (16, 4, 0) (by decide), fun i p hp => by (cases hp), hM_i (16, 5, 0) (by decide), hM_i (16, 6, 0) (by decide), hM_i (16, 7, 0) (by decide), fun i p hp => by (cases hp), fun i hi => by (have h2 : i ≤ 0 := hi.2; have := hi.1; omega)⟩
theorem tx_0 : TXT hM [] := ⟨⟨by decide, fun c hc => by cases hc⟩, hM_i (13, 2, 0) (by decide), fun i c hc => by cases hc⟩
theorem xr_0 : XR hM := by
  refine ⟨fun k hk => ?_, ⟨_, sp_84⟩, ⟨_, sp_87⟩, ⟨_, sp_90⟩, Or.inl ⟨hR3 (66, 3, 64) (by decide), hR3 (66, 4, 65) (by decide)⟩, Or.inl ⟨hR3 (74, 2, 22) (by decide), hR3 (74, 3, 25) (by decide)⟩, Or.inl ⟨hR3 (74, 4, 64) (by decide), hR3 (74, 5, 65) (by decide)⟩, Or.inl ⟨hR3 (79, 4, 22) (by decide), hR3 (79, 5, 25) (by decide)⟩, Or.inl ⟨hR3 (83, 1, 87) (by decide), hR3 (83, 2, 90) (by decide)⟩, ⟨fun j hj => ?_, hI3 (68, 0, 0) (by decide)⟩⟩
  · rcases (show k = 0 ∨ k = 1 ∨ k = 2 ∨ k = 3 ∨ k = 4 ∨ k = 5 ∨ k = 6 ∨ k = 7 ∨ k = 8 ∨ k = 9 ∨ k = 10 ∨ k = 11 ∨ k = 12 ∨ k = 13 by omega) with z | z | z | z | z | z | z | z | z | z | z | z | z | z
    · subst z; exact ⟨⟨_, sp_22⟩, hR2 (21, 0, 22) (by decide)⟩
    · subst z; exact ⟨⟨_, sp_25⟩, hR2 (21, 1, 25) (by decide)⟩
    · subst z; exact ⟨⟨_, sp_28⟩, hR2 (21, 2, 28) (by decide)⟩
    · subst z; exact ⟨⟨_, sp_31⟩, hR2 (21, 3, 31) (by decide)⟩
    · subst z; exact ⟨⟨_, sp_34⟩, hR2 (21, 4, 34) (by decide)⟩
    · subst z; exact ⟨⟨_, sp_37⟩, hR2 (21, 5, 37) (by decide)⟩
    · subst z; exact ⟨⟨_, sp_40⟩, hR2 (21, 6, 40) (by decide)⟩
    · subst z; exact ⟨⟨_, sp_43⟩, hR2 (21, 7, 43) (by decide)⟩
    · subst z; exact ⟨⟨_, sp_46⟩, hR2 (21, 8, 46) (by decide)⟩
    · subst z; exact ⟨⟨_, sp_49⟩, hR2 (21, 9, 49) (by decide)⟩
    · subst z; exact ⟨⟨_, sp_52⟩, hR2 (21, 10, 52) (by decide)⟩
    · subst z; exact ⟨⟨_, sp_55⟩, hR2 (21, 11, 55) (by decide)⟩
    · subst z; exact ⟨⟨_, sp_58⟩, hR2 (21, 12, 58) (by decide)⟩
    · subst z; exact ⟨⟨_, sp_61⟩, hR2 (21, 13, 61) (by decide)⟩
  · have key : ∀ j, j < 42 → (93, j, RT.getD j 0) ∈ TI3 := by decide
    exact hI3 (93, j, RT.getD j 0) (key j hj)
theorem xi_0 : XI S0 hM := ⟨hM_1, hM_r, rd_1, rd_5, rd_9, tx_0, rw_0, xr_0⟩
theorem ms_0 : MS hM := ⟨hM_1, hR1 (94, 0, 95) (by decide), hR1 (94, 1, 96) (by decide), hR1 (94, 2, 97) (by decide), hR1 (94, 3, 98) (by decide), hR1 (94, 4, 99) (by decide), hR1 (94, 5, 100) (by decide), hR1 (94, 6, 101) (by decide), hR1 (94, 7, 102) (by decide), hR1 (94, 8, 103) (by decide), hR1 (94, 10, 104) (by decide), hR1 (94, 11, 105) (by decide), hR1 (94, 12, 106) (by decide), hR1 (94, 13, 107) (by decide), hR1 (94, 14, 108) (by decide), hR1 (94, 15, 109) (by decide), hR1 (94, 17, 110) (by decide), hR1 (94, 18, 111) (by decide), hR1 (94, 23, 112) (by decide), hR1 (94, 25, 113) (by decide), hR1 (94, 26, 114) (by decide), hR1 (94, 27, 115) (by decide), hR1 (94, 28, 116) (by decide), hR1 (94, 30, 117) (by decide), hR1 (94, 31, 118) (by decide), hR1 (94, 32, 119) (by decide), hR1 (94, 33, 120) (by decide), hR1 (94, 34, 121) (by decide), hR1 (94, 35, 122) (by decide), hR1 (94, 36, 123) (by decide), hR1 (94, 37, 124) (by decide), hR1 (94, 38, 125) (by decide), hR1 (94, 39, 126) (by decide), hR1 (94, 42, 127) (by decide), hR1 (94, 43, 128) (by decide), hR1 (94, 44, 129) (by decide), hR1 (94, 46, 130) (by decide), hR1 (94, 47, 131) (by decide), hR1 (94, 48, 132) (by decide), hR1 (94, 49, 133) (by decide), hR1 (94, 50, 134) (by decide), hR1 (94, 51, 135) (by decide), hR1 (94, 52, 136) (by decide), hR1 (94, 53, 137) (by decide), hR1 (94, 54, 138) (by decide), hR1 (94, 55, 139) (by decide)⟩
theorem mi_0 : MI 0 S0 hM := ⟨ms_0, ⟨hM_i (95, 0, 1) (by decide), hM_i (96, 0, 0) (by decide), hM_i (97, 0, 0) (by decide), hM_i (98, 0, 0) (by decide), fun i m hm => by cases hm⟩, ⟨hM_i (95, 1, 1) (by decide), hM_i (96, 1, 0) (by decide), hM_i (97, 1, 0) (by decide), hM_i (98, 1, 0) (by decide), fun i m hm => by cases hm⟩, ⟨hM_i (94, 16, 0) (by decide), fun i c hc => by cases hc⟩, ⟨hM_i (94, 19, 0) (by decide), fun i p hp => by cases hp⟩, 0, by omega, hM_i (94, 29, 0) (by decide), fun j hj => ⟨0, Nat.le_refl _, hU_116 j (by omega)⟩⟩
theorem ii_0 : II 0 hM := ⟨hM_1, S0, xi_0, mi_0⟩
theorem start_X : Cc 60 k_X_init [aR (some 0)] (nw eZ (4, 10)) = some (none, hX) := Cf_Cc 60 _ _ _ _ (gB_H hX_e)
theorem start_M : Cc 60 k_M_init [aR (some 94)] (nw hX (4, 11)) = some (none, hM) := Cf_Cc 60 _ _ _ _ (gB_H hM_e)
theorem II_up {k : Nat} {h : AH} (p : II k h) : II (k + 1) h := by
  obtain ⟨p1, s, x, m⟩ := p
  exact ⟨p1, s, x, m.up⟩
theorem Q_reader (x0 : Int32) (x1 : Int32) (x2 : Int32) (x3 : Int32) : STQ II 94 k_X_reader k_M_reader [aI x0, aI x1, aI x2, aI x3] := by
  obtain ⟨z0, l0, u0, rfl⟩ := zI_of x0
  obtain ⟨z1, l1, u1, rfl⟩ := zI_of x1
  obtain ⟨z2, l2, u2, rfl⟩ := zI_of x2
  obtain ⟨z3, l3, u3, rfl⟩ := zI_of x3
  exact comb (X_reader l0 u0 l1 u1 l2 u2 l3 u3) (M_reader l0 u0 l1 u1 l2 u2 l3 u3)
theorem Q_write (x0 : Int64) (x1 : Int32) : STQ II 94 k_X_write k_M_write [aL x0, aI x1] := by
  obtain ⟨z1, l1, u1, rfl⟩ := zI_of x1
  exact comb (X_write x0 l1 u1) (M_write x0 l1 u1)
theorem Q_erase : STQ II 94 k_X_erase k_M_erase [] := comb X_erase M_erase
theorem Q_fault (x0 : Int32) : STQ II 94 k_X_fault k_M_fault [aI x0] := by
  obtain ⟨z0, l0, u0, rfl⟩ := zI_of x0
  exact comb (X_fault l0 u0) (M_fault l0 u0)
theorem Q_moves (x0 : Int32) : STQ II 94 k_X_moves k_M_moves [aI x0] := by
  obtain ⟨z0, l0, u0, rfl⟩ := zI_of x0
  exact comb (X_moves l0 u0) (M_moves l0 u0)
theorem Q_move (x0 : Int32) (x1 : Int32) (x2 : Int32) : STQ II 94 k_X_move k_M_move [aI x0, aI x1, aI x2] := by
  obtain ⟨z0, l0, u0, rfl⟩ := zI_of x0
  obtain ⟨z1, l1, u1, rfl⟩ := zI_of x1
  obtain ⟨z2, l2, u2, rfl⟩ := zI_of x2
  exact comb (X_move l0 u0 l1 u1 l2 u2) (M_move l0 u0 l1 u1 l2 u2)
theorem Q_drop (x0 : Int32) (x1 : Int32) : STQ II 94 k_X_drop k_M_drop [aI x0, aI x1] := by
  obtain ⟨z0, l0, u0, rfl⟩ := zI_of x0
  obtain ⟨z1, l1, u1, rfl⟩ := zI_of x1
  exact comb (X_drop l0 u0 l1 u1) (M_drop l0 u0 l1 u1)
theorem Q_pair (x0 : Int32) (x1 : Int32) : STQ II 94 k_X_pair k_M_pair [aI x0, aI x1] := by
  obtain ⟨z0, l0, u0, rfl⟩ := zI_of x0
  obtain ⟨z1, l1, u1, rfl⟩ := zI_of x1
  exact comb (X_pair l0 u0 l1 u1) (M_pair l0 u0 l1 u1)
theorem Q_change (x0 : Int32) (x1 : Int32) (x2 : Int32) : STQ II 94 k_X_change k_M_change [aI x0, aI x1, aI x2] := by
  obtain ⟨z0, l0, u0, rfl⟩ := zI_of x0
  obtain ⟨z1, l1, u1, rfl⟩ := zI_of x1
  obtain ⟨z2, l2, u2, rfl⟩ := zI_of x2
  exact comb (X_change l0 u0 l1 u1 l2 u2) (M_change l0 u0 l1 u1 l2 u2)
theorem Q_hush : STQ II 94 k_X_hush k_M_hush [] := comb X_hush M_hush
theorem Q_taken (x0 : Int32) : STQ II 94 k_X_taken k_M_taken [aI x0] := by
  obtain ⟨z0, l0, u0, rfl⟩ := zI_of x0
  exact comb (X_taken l0 u0) (M_taken l0 u0)
theorem Q_may (x0 : Int32) (x1 : Int32) : STQ II 94 k_X_may k_M_may [aI x0, aI x1] := by
  obtain ⟨z0, l0, u0, rfl⟩ := zI_of x0
  obtain ⟨z1, l1, u1, rfl⟩ := zI_of x1
  exact comb (X_may l0 u0 l1 u1) (M_may l0 u0 l1 u1)
theorem Q_runs (x0 : Int32) : STQ II 94 k_X_runs k_M_runs [aI x0] := by
  obtain ⟨z0, l0, u0, rfl⟩ := zI_of x0
  exact comb (X_runs l0 u0) (M_runs l0 u0)
theorem Q_run (x0 : Int32) (x1 : Int32) : STQ II 94 k_X_run k_M_run [aI x0, aI x1] := by
  obtain ⟨z0, l0, u0, rfl⟩ := zI_of x0
  obtain ⟨z1, l1, u1, rfl⟩ := zI_of x1
  exact comb (X_run l0 u0 l1 u1) (M_run l0 u0 l1 u1)
theorem Q_shapes (x0 : Int32) (x1 : Int32) (x2 : Int32) : STQ II 94 k_X_shapes k_M_shapes [aI x0, aI x1, aI x2] := by
  obtain ⟨z0, l0, u0, rfl⟩ := zI_of x0
  obtain ⟨z1, l1, u1, rfl⟩ := zI_of x1
  obtain ⟨z2, l2, u2, rfl⟩ := zI_of x2
  exact comb (X_shapes l0 u0 l1 u1 l2 u2) (M_shapes l0 u0 l1 u1 l2 u2)
theorem Q_shape (x0 : Int32) (x1 : Int32) (x2 : Int32) (x3 : Int32) (x4 : Int32) : STQ II 94 k_X_shape k_M_shape [aI x0, aI x1, aI x2, aI x3, aI x4] := by
  obtain ⟨z0, l0, u0, rfl⟩ := zI_of x0
  obtain ⟨z1, l1, u1, rfl⟩ := zI_of x1
  obtain ⟨z2, l2, u2, rfl⟩ := zI_of x2
  obtain ⟨z3, l3, u3, rfl⟩ := zI_of x3
  obtain ⟨z4, l4, u4, rfl⟩ := zI_of x4
  exact comb (X_shape l0 u0 l1 u1 l2 u2 l3 u3 l4 u4) (M_shape l0 u0 l1 u1 l2 u2 l3 u3 l4 u4)
theorem Q_least (x0 : Int32) : STQ II 94 k_X_least k_M_least [aI x0] := by
  obtain ⟨z0, l0, u0, rfl⟩ := zI_of x0
  exact comb (X_least l0 u0) (M_least l0 u0)
theorem Q_first (x0 : Int32) (x1 : Int32) : STQ II 94 k_X_first k_M_first [aI x0, aI x1] := by
  obtain ⟨z0, l0, u0, rfl⟩ := zI_of x0
  obtain ⟨z1, l1, u1, rfl⟩ := zI_of x1
  exact comb (X_first l0 u0 l1 u1) (M_first l0 u0 l1 u1)
theorem Q_useless (x0 : Int32) : STQ II 94 k_X_useless k_M_useless [aI x0] := by
  obtain ⟨z0, l0, u0, rfl⟩ := zI_of x0
  exact comb (X_useless l0 u0) (M_useless l0 u0)
theorem Q_twofold (x0 : Int32) : STQ II 94 k_X_twofold k_M_twofold [aI x0] := by
  obtain ⟨z0, l0, u0, rfl⟩ := zI_of x0
  exact comb (X_twofold l0 u0) (M_twofold l0 u0)
theorem Q_both : STQ II 94 k_X_both k_M_both [] := comb X_both M_both
theorem Q_parted (x0 : Int32) (x1 : Int32) : STQ II 94 k_X_parted k_M_parted [aI x0, aI x1] := by
  obtain ⟨z0, l0, u0, rfl⟩ := zI_of x0
  obtain ⟨z1, l1, u1, rfl⟩ := zI_of x1
  exact comb (X_parted l0 u0 l1 u1) (M_parted l0 u0 l1 u1)
theorem Q_fillings (x0 : Int32) : STQ II 94 k_X_fillings k_M_fillings [aI x0] := by
  obtain ⟨z0, l0, u0, rfl⟩ := zI_of x0
  exact comb (X_fillings l0 u0) (M_fillings l0 u0)
theorem Q_filled (x0 : Int32) (x1 : Int32) : STQ II 94 k_X_filled k_M_filled [aI x0, aI x1] := by
  obtain ⟨z0, l0, u0, rfl⟩ := zI_of x0
  obtain ⟨z1, l1, u1, rfl⟩ := zI_of x1
  exact comb (X_filled l0 u0 l1 u1) (M_filled l0 u0 l1 u1)
theorem Q_mend (x0 : Int32) : STQ II 94 k_X_mend k_M_mend [aI x0] := by
  obtain ⟨z0, l0, u0, rfl⟩ := zI_of x0
  exact comb (X_mend l0 u0) (M_mend l0 u0)
theorem Q_count (x0 : Int32) : STQ II 94 k_X_count k_M_count [aI x0] := by
  obtain ⟨z0, l0, u0, rfl⟩ := zI_of x0
  exact comb (X_count l0 u0) (M_count l0 u0)
