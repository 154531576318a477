/-! WHAT THE WHOLE RESTS ON: an invariant of the abstract heap that every call of both keeps, with the same answers -/
def PURE (I : Nat → AH → Prop) (mi : Nat) (SHP : List (Nat × Nat)) : Prop :=
  (∃ h1 h2, Cc 60 k_X_init [aR (some 0)] (nw e0 (4, 10)) = some (none, h1) ∧ h1.1.length = mi ∧ Cc 60 k_M_init [aR (some mi)] (nw h1 (4, 11)) = some (none, h2) ∧ I 0 h2) ∧
  (∀ k h, I k h → h.1 = SHP) ∧ (∀ k h, I k h → I (k + 1) h) ∧ (SHP[0]? = some (4, 10) ∧ SHP[mi]? = some (4, 11) ∧ SHP.length ≤ 600000 ∧ tsz SHP ≤ 7302250) ∧
  (∀ (x0 : Int32) (x1 : Int32) (x2 : Int32) (x3 : Int32), STP I mi k_X_reader k_M_reader [aI x0, aI x1, aI x2, aI x3]) ∧
  (∀ (x0 : Int64) (x1 : Int32), STP I mi k_X_write k_M_write [aL x0, aI x1]) ∧
  STP I mi k_X_erase k_M_erase [] ∧
  (∀ (x0 : Int32), STP I mi k_X_fault k_M_fault [aI x0]) ∧
  (∀ (x0 : Int32), STP I mi k_X_moves k_M_moves [aI x0]) ∧
  (∀ (x0 : Int32) (x1 : Int32) (x2 : Int32), STP I mi k_X_move k_M_move [aI x0, aI x1, aI x2]) ∧
  (∀ (x0 : Int32) (x1 : Int32), STP I mi k_X_drop k_M_drop [aI x0, aI x1]) ∧
  (∀ (x0 : Int32) (x1 : Int32), STP I mi k_X_pair k_M_pair [aI x0, aI x1]) ∧
  (∀ (x0 : Int32) (x1 : Int32) (x2 : Int32), STP I mi k_X_change k_M_change [aI x0, aI x1, aI x2]) ∧
  STP I mi k_X_hush k_M_hush [] ∧
  (∀ (x0 : Int32), STP I mi k_X_taken k_M_taken [aI x0]) ∧
  (∀ (x0 : Int32) (x1 : Int32), STP I mi k_X_may k_M_may [aI x0, aI x1]) ∧
  (∀ (x0 : Int32), STP I mi k_X_runs k_M_runs [aI x0]) ∧
  (∀ (x0 : Int32) (x1 : Int32), STP I mi k_X_run k_M_run [aI x0, aI x1]) ∧
  (∀ (x0 : Int32) (x1 : Int32) (x2 : Int32), STP I mi k_X_shapes k_M_shapes [aI x0, aI x1, aI x2]) ∧
  (∀ (x0 : Int32) (x1 : Int32) (x2 : Int32) (x3 : Int32) (x4 : Int32), STP I mi k_X_shape k_M_shape [aI x0, aI x1, aI x2, aI x3, aI x4]) ∧
  (∀ (x0 : Int32), STP I mi k_X_least k_M_least [aI x0]) ∧
  (∀ (x0 : Int32) (x1 : Int32), STP I mi k_X_first k_M_first [aI x0, aI x1]) ∧
  (∀ (x0 : Int32), STP I mi k_X_useless k_M_useless [aI x0]) ∧
  (∀ (x0 : Int32), STP I mi k_X_twofold k_M_twofold [aI x0]) ∧
  STP I mi k_X_both k_M_both [] ∧
  (∀ (x0 : Int32) (x1 : Int32), STP I mi k_X_parted k_M_parted [aI x0, aI x1]) ∧
  (∀ (x0 : Int32), STP I mi k_X_fillings k_M_fillings [aI x0]) ∧
  (∀ (x0 : Int32) (x1 : Int32), STP I mi k_X_filled k_M_filled [aI x0, aI x1]) ∧
  (∀ (x0 : Int32), STP I mi k_X_mend k_M_mend [aI x0]) ∧
  (∀ (x0 : Int32), STP I mi k_X_count k_M_count [aI x0])
section LAWC
variable {p : Program} {l : Launch} {e : Env} {s : State} {m : MethodId} {below : List Frame} {meth : Method} {c : Code} {D : va_G} {ad av : Nat → Nat} {b L mi : Nat} {xs : Nat → Int32} {h : AH} {pc i : Nat} {st : List AV} {o1 o2 : AV}

theorem la_back (X : LCX p s m meth c D ad av b L xs) (k : LSM p l e s m below meth c D ad b 18 [aS 9, aR (some 0), aR (some mi), aI (nI (i + 6))] [] h) : LSM p l e s m below meth c D ad b 960 [aS 9, aR (some 0), aR (some mi), aI (nI i)] [] h := by
  obtain ⟨⟨hX, hb, -⟩, -⟩ := X
  intro H locs ls ws sv hP hD hw hS hx hl hs hn1 hn2
  obtain ⟨q1, LL, q2, q3⟩ := hl
  obtain ⟨w, g1, g2⟩ := q3 3 (aI (nI i)) rfl nofun
  have g3 : w = _ := g2
  subst g3
  obtain ⟨ix, hix⟩ := List.getElem?_of_mem g1
  refine lv_iinc (v := nI (i + 6)) hX hb (show decode code 960 = .ok (.iinc 3 6, 3) by decide +kernel) q2 hix (by rw [← nI_add]; rfl) (by decide) rfl (fun ls' hl' => ?_)
  refine lv_goto (tgt := 18) hX hb (show decode code 963 = .ok (.goto (-945), 3) by decide +kernel) (by decide) ?_
  exact k H locs ls' ws sv hP hD hw hS hx (lrl.put1 (v := aI (nI (i + 6))) q1 q3 hl' rfl (by decide)) hs hn1 hn2
theorem la_out (X : LCX p s m meth c D ad av b L xs) {lv : List AV} (hz1 : h.1.length ≤ 600000) (hz2 : tsz h.1 ≤ 7302250) : LSM p l e s m below meth c D ad b 966 lv [] h := by
  obtain ⟨⟨hX, hb, hml, hown, hts, hK, hA, hE, hr, hlk, -⟩, -⟩ := X
  intro H locs ls ws sv hP hD hw hS hx hl hs hn1 hn2
  rw [srlN hs]
  refine lv_iconst (v := 1) hX hb (show decode code 966 = .ok (.iconst 1, 1) by decide +kernel) (by decide) ?_
  refine va_forget (fun q hq => hS.2.2 q hq) ?_
  refine W.widen (k := 600000) (n := 7302250) (by omega) (by omega) ?_
  exact lw_ret hX hb hr hlk (show decode code 967 = .ok (.ireturn, 1) by decide +kernel)
theorem la_head (X : LCX p s m meth c D ad av b L xs) (hi : i ≤ L) (kt : LSM p l e s m below meth c D ad b 966 [aS 9, aR (some 0), aR (some mi), aI (nI i)] [] h) (kf : i + 6 ≤ L → LSM p l e s m below meth c D ad b 27 [aS 9, aR (some 0), aR (some mi), aI (nI i)] [] h) : LSM p l e s m below meth c D ad b 18 [aS 9, aR (some 0), aR (some mi), aI (nI i)] [] h := by
  obtain ⟨⟨hX, hb, hml, hown, hts, hK, hA, hE, -⟩, hXs, hbl, had, hL⟩ := X
  intro H locs ls ws sv hP hD hw hS hx hl hs hn1 hn2
  obtain ⟨w0, g0, -, z0⟩ := hl.get (i := 0) (v := aS 9) rfl (aS_ne _)
  obtain ⟨w3, g3, z3⟩ := hl.get (i := 3) (v := aI (nI i)) rfl nofun
  have z3 : w3 = _ := z3
  subst z0 z3
  rw [had] at g0
  refine lv_iload_n hX hb (show decode code 18 = .ok (.iload_n 3, 1) by decide +kernel) rfl g3 ?_
  refine lv_aload_n hX hb (show decode code 19 = .ok (.aload_n 0, 1) by decide +kernel) rfl g0 ?_
  refine va_slen hX hb hXs hbl (Nat.not_le.mpr hbl) hS (show decode code 20 = .ok (.arraylength, 1) by decide +kernel) ?_
  refine lv_bipush (v := nI 6) hX hb (show decode code 21 = .ok (.bipush 6, 2) by decide +kernel) (by decide) ?_
  refine lv_isub hX hb (show decode code 23 = .ok (.isub, 1) by decide +kernel) ?_
  refine lv_icmp_gt (tgt := 966) hX hb (show decode code 24 = .ok (.if_icmp .gt 942, 3) by decide +kernel) (by decide) (fun _ => ?_) (fun q => ?_)
  · exact kt H locs ls ws sv hP hD hw hS hx hl hs hn1 hn2
  · refine kf ?_ H locs ls ws sv hP hD hw hS hx hl hs hn1 hn2
    rw [Int32.lt_iff_toInt_lt] at q
    have e1 : (Int32.ofNat L - nI 6).toInt = (L : Int) - 6 := pk_sub_toInt (a := L) (b := 6) (by omega) (by decide)
    rw [e1, nI_toInt (by omega)] at q
    omega
theorem la_body (X : LCX p s m meth c D ad av b L xs) {I : Nat → AH → Prop} {k : Nat} {SHP : List (Nat × Nat)} (P : PURE I mi SHP) (hi : i + 6 ≤ L) (hk : k < 512) (hI : I k h) (kk : ∀ h2, I (k + 1) h2 → LSM p l e s m below meth c D ad b 960 [aS 9, aR (some 0), aR (some mi), aI (nI i)] [] h2) : LSM p l e s m below meth c D ad b 27 [aS 9, aR (some 0), aR (some mi), aI (nI i)] [] h := by
  obtain ⟨-, P2, P3, ⟨P4, P5, P6, P7⟩, c0, c1, c2, c3, c4, c5, c6, c7, c8, c9, c10, c11, c12, c13, c14, c15, c16, c17, c18, c19, c20, c21, c22, c23, c24, c25⟩ := P
  have hsh := P2 k h hI
  have s0 : ∀ k h2, I k h2 → h2.1 = h.1 := fun k h2 z => (P2 k h2 z).trans hsh.symm
  rw [← hsh] at P4 P5 P6 P7
  refine la_arg0 X hi (show dq 27 [(.aload_n 0, 1), (.iload_n 3, 1), (.iaload, 1)] = true by decide +kernel) ?_
  have X2 := X
  obtain ⟨⟨hX, hb, -⟩, -⟩ := X2
  intro H locs ls ws sv hP hD hw hS hx hl hs hn1 hn2
  obtain ⟨sv', rfl, hs'⟩ := srlI hs
  rw [srlN hs']
  refine lv_bipush (v := 31) hX hb (show decode code 30 = .ok (.bipush 31, 2) by decide +kernel) (by decide) ?_
  refine lv_iand hX hb (show decode code 32 = .ok (.iand, 1) by decide +kernel) ?_
  obtain ⟨j, hj, ej⟩ := pk_andE (xs i) (m := 31) 5 (by decide)
  rw [ej]
  have et : (nI j).toInt = (j : Int) := nI_toInt (by omega)
  have hd33 : decode code 33 = .ok (.tableswitch 927 0 25 #[119, 172, 235, 248, 271, 294, 337, 370, 403, 446, 459, 482, 515, 538, 571, 614, 677, 700, 733, 756, 779, 792, 825, 848, 881, 904], 119) := by decide +kernel
  by_cases h25 : 25 < j
  · refine lv_tableOut (tgt := 960) hX hb hd33 (by rw [et]; omega) (by decide) ?_
    exact kk h (P3 k h hI) H locs ls ws [] hP hD hw hS hx hl trivial hn1 hn2
  · have hin1 : ¬ (nI j).toInt < 0 := by rw [et]; omega
    have hin2 : ¬ (25 : Int) < (nI j).toInt := by rw [et]; omega
    have hjj : j = 0 ∨ j = 1 ∨ j = 2 ∨ j = 3 ∨ j = 4 ∨ j = 5 ∨ j = 6 ∨ j = 7 ∨ j = 8 ∨ j = 9 ∨ j = 10 ∨ j = 11 ∨ j = 12 ∨ j = 13 ∨ j = 14 ∨ j = 15 ∨ j = 16 ∨ j = 17 ∨ j = 18 ∨ j = 19 ∨ j = 20 ∨ j = 21 ∨ j = 22 ∨ j = 23 ∨ j = 24 ∨ j = 25 := by omega
    rcases hjj with rfl | rfl | rfl | rfl | rfl | rfl | rfl | rfl | rfl | rfl | rfl | rfl | rfl | rfl | rfl | rfl | rfl | rfl | rfl | rfl | rfl | rfl | rfl | rfl | rfl | rfl
    · refine lv_tableIn (off := 119) (tgt := 152) hX hb hd33 hin1 hin2 (by decide) (by decide) ?_
      exact la_case0 X hi hk hI P4 P5 P6 P7 s0 (c0 _ _ _ _) kk H locs ls ws [] hP hD hw hS hx hl trivial hn1 hn2
    · refine lv_tableIn (off := 172) (tgt := 205) hX hb hd33 hin1 hin2 (by decide) (by decide) ?_
      exact la_case1 X hi hk hI P4 P5 P6 P7 s0 (c1 _ _) kk H locs ls ws [] hP hD hw hS hx hl trivial hn1 hn2
    · refine lv_tableIn (off := 235) (tgt := 268) hX hb hd33 hin1 hin2 (by decide) (by decide) ?_
      exact la_case2 X hi hk hI P4 P5 P6 P7 s0 c2 kk H locs ls ws [] hP hD hw hS hx hl trivial hn1 hn2
    · refine lv_tableIn (off := 248) (tgt := 281) hX hb hd33 hin1 hin2 (by decide) (by decide) ?_
      exact la_case3 X hi hk hI P4 P5 P6 P7 s0 (c3 _) kk H locs ls ws [] hP hD hw hS hx hl trivial hn1 hn2
    · refine lv_tableIn (off := 271) (tgt := 304) hX hb hd33 hin1 hin2 (by decide) (by decide) ?_
      exact la_case4 X hi hk hI P4 P5 P6 P7 s0 (c4 _) kk H locs ls ws [] hP hD hw hS hx hl trivial hn1 hn2
    · refine lv_tableIn (off := 294) (tgt := 327) hX hb hd33 hin1 hin2 (by decide) (by decide) ?_
      exact la_case5 X hi hk hI P4 P5 P6 P7 s0 (c5 _ _ _) kk H locs ls ws [] hP hD hw hS hx hl trivial hn1 hn2
    · refine lv_tableIn (off := 337) (tgt := 370) hX hb hd33 hin1 hin2 (by decide) (by decide) ?_
      exact la_case6 X hi hk hI P4 P5 P6 P7 s0 (c6 _ _) kk H locs ls ws [] hP hD hw hS hx hl trivial hn1 hn2
    · refine lv_tableIn (off := 370) (tgt := 403) hX hb hd33 hin1 hin2 (by decide) (by decide) ?_
      exact la_case7 X hi hk hI P4 P5 P6 P7 s0 (c7 _ _) kk H locs ls ws [] hP hD hw hS hx hl trivial hn1 hn2
    · refine lv_tableIn (off := 403) (tgt := 436) hX hb hd33 hin1 hin2 (by decide) (by decide) ?_
      exact la_case8 X hi hk hI P4 P5 P6 P7 s0 (c8 _ _ _) kk H locs ls ws [] hP hD hw hS hx hl trivial hn1 hn2
    · refine lv_tableIn (off := 446) (tgt := 479) hX hb hd33 hin1 hin2 (by decide) (by decide) ?_
      exact la_case9 X hi hk hI P4 P5 P6 P7 s0 c9 kk H locs ls ws [] hP hD hw hS hx hl trivial hn1 hn2
    · refine lv_tableIn (off := 459) (tgt := 492) hX hb hd33 hin1 hin2 (by decide) (by decide) ?_
      exact la_case10 X hi hk hI P4 P5 P6 P7 s0 (c10 _) kk H locs ls ws [] hP hD hw hS hx hl trivial hn1 hn2
    · refine lv_tableIn (off := 482) (tgt := 515) hX hb hd33 hin1 hin2 (by decide) (by decide) ?_
      exact la_case11 X hi hk hI P4 P5 P6 P7 s0 (c11 _ _) kk H locs ls ws [] hP hD hw hS hx hl trivial hn1 hn2
    · refine lv_tableIn (off := 515) (tgt := 548) hX hb hd33 hin1 hin2 (by decide) (by decide) ?_
      exact la_case12 X hi hk hI P4 P5 P6 P7 s0 (c12 _) kk H locs ls ws [] hP hD hw hS hx hl trivial hn1 hn2
    · refine lv_tableIn (off := 538) (tgt := 571) hX hb hd33 hin1 hin2 (by decide) (by decide) ?_
      exact la_case13 X hi hk hI P4 P5 P6 P7 s0 (c13 _ _) kk H locs ls ws [] hP hD hw hS hx hl trivial hn1 hn2
    · refine lv_tableIn (off := 571) (tgt := 604) hX hb hd33 hin1 hin2 (by decide) (by decide) ?_
      exact la_case14 X hi hk hI P4 P5 P6 P7 s0 (c14 _ _ _) kk H locs ls ws [] hP hD hw hS hx hl trivial hn1 hn2
    · refine lv_tableIn (off := 614) (tgt := 647) hX hb hd33 hin1 hin2 (by decide) (by decide) ?_
      exact la_case15 X hi hk hI P4 P5 P6 P7 s0 (c15 _ _ _ _ _) kk H locs ls ws [] hP hD hw hS hx hl trivial hn1 hn2
    · refine lv_tableIn (off := 677) (tgt := 710) hX hb hd33 hin1 hin2 (by decide) (by decide) ?_
      exact la_case16 X hi hk hI P4 P5 P6 P7 s0 (c16 _) kk H locs ls ws [] hP hD hw hS hx hl trivial hn1 hn2
    · refine lv_tableIn (off := 700) (tgt := 733) hX hb hd33 hin1 hin2 (by decide) (by decide) ?_
      exact la_case17 X hi hk hI P4 P5 P6 P7 s0 (c17 _ _) kk H locs ls ws [] hP hD hw hS hx hl trivial hn1 hn2
    · refine lv_tableIn (off := 733) (tgt := 766) hX hb hd33 hin1 hin2 (by decide) (by decide) ?_
      exact la_case18 X hi hk hI P4 P5 P6 P7 s0 (c18 _) kk H locs ls ws [] hP hD hw hS hx hl trivial hn1 hn2
    · refine lv_tableIn (off := 756) (tgt := 789) hX hb hd33 hin1 hin2 (by decide) (by decide) ?_
      exact la_case19 X hi hk hI P4 P5 P6 P7 s0 (c19 _) kk H locs ls ws [] hP hD hw hS hx hl trivial hn1 hn2
    · refine lv_tableIn (off := 779) (tgt := 812) hX hb hd33 hin1 hin2 (by decide) (by decide) ?_
      exact la_case20 X hi hk hI P4 P5 P6 P7 s0 c20 kk H locs ls ws [] hP hD hw hS hx hl trivial hn1 hn2
    · refine lv_tableIn (off := 792) (tgt := 825) hX hb hd33 hin1 hin2 (by decide) (by decide) ?_
      exact la_case21 X hi hk hI P4 P5 P6 P7 s0 (c21 _ _) kk H locs ls ws [] hP hD hw hS hx hl trivial hn1 hn2
    · refine lv_tableIn (off := 825) (tgt := 858) hX hb hd33 hin1 hin2 (by decide) (by decide) ?_
      exact la_case22 X hi hk hI P4 P5 P6 P7 s0 (c22 _) kk H locs ls ws [] hP hD hw hS hx hl trivial hn1 hn2
    · refine lv_tableIn (off := 848) (tgt := 881) hX hb hd33 hin1 hin2 (by decide) (by decide) ?_
      exact la_case23 X hi hk hI P4 P5 P6 P7 s0 (c23 _ _) kk H locs ls ws [] hP hD hw hS hx hl trivial hn1 hn2
    · refine lv_tableIn (off := 881) (tgt := 914) hX hb hd33 hin1 hin2 (by decide) (by decide) ?_
      exact la_case24 X hi hk hI P4 P5 P6 P7 s0 (c24 _) kk H locs ls ws [] hP hD hw hS hx hl trivial hn1 hn2
    · refine lv_tableIn (off := 904) (tgt := 937) hX hb hd33 hin1 hin2 (by decide) (by decide) ?_
      exact la_case25 X hi hk hI P4 P5 P6 P7 s0 (c25 _) kk H locs ls ws [] hP hD hw hS hx hl trivial hn1 hn2
theorem la_loop (X : LCX p s m meth c D ad av b L xs) {I : Nat → AH → Prop} {SHP : List (Nat × Nat)} (P : PURE I mi SHP) : ∀ (n k : Nat) (h : AH), 6 * k ≤ L → L - 6 * k < n → I k h → LSM p l e s m below meth c D ad b 18 [aS 9, aR (some 0), aR (some mi), aI (nI (6 * k))] [] h
  | 0, k, h, h1, h2, hI => by omega
  | n + 1, k, h, h1, h2, hI => by
    have hL : L ≤ 3072 := X.2.2.2.2
    refine la_head X h1 (la_out X ?_ ?_) (fun h3 => ?_)
    · rw [P.2.1 k h hI]; exact P.2.2.2.1.2.2.1
    · rw [P.2.1 k h hI]; exact P.2.2.2.1.2.2.2
    · refine la_body X P h3 (by omega) hI (fun h2' hI2 => la_back X ?_)
      rw [show 6 * k + 6 = 6 * (k + 1) by omega]
      exact la_loop X P n (k + 1) h2' (by omega) (by omega) hI2
theorem la_dup (X : LCX p s m meth c D ad av b L xs) {lv : List AV} {a : Nat} (hd : decode code pc = .ok (.dup, 1)) (k : LSM p l e s m below meth c D ad b (pc + 1) lv (aR (some a) :: aR (some a) :: st) h) : LSM p l e s m below meth c D ad b pc lv (aR (some a) :: st) h := by
  obtain ⟨⟨hX, hb, -⟩, -⟩ := X
  intro H locs ls ws sv hP hD hw hS hx hl hs hn1 hn2
  obtain ⟨w, sv', rfl, hv, hvw, hs'⟩ := srlV hs
  exact lv_dup hX hb hd (hvw.cat rfl) (k H locs ls ws _ hP hD hw hS hx hl ⟨⟨hv, hvw⟩, ⟨hv, hvw⟩, hs'⟩ hn1 hn2)
theorem la_ast (X : LCX p s m meth c D ad av b L xs) {lv : List AV} {a n : Nat} {nf : Fin 4} (hn : (nf : Nat) = n) (hn4 : n < 4) (hd : decode code pc = .ok (.astore_n nf, 1)) (k : LSM p l e s m below meth c D ad b (pc + 1) (st1 lv n (aR (some a))) st h) : LSM p l e s m below meth c D ad b pc lv (aR (some a) :: st) h := by
  obtain ⟨⟨hX, hb, -⟩, -⟩ := X
  intro H locs ls ws sv hP hD hw hS hx hl hs hn1 hn2
  obtain ⟨o', sv', rfl, ⟨q, hq1, hq2⟩, hs'⟩ := srlR hs
  subst hq2
  obtain ⟨q1, LL, q2, q3⟩ := hl
  exact lv_astore_n hX hb hd hn q2 hn4 rfl (fun ls' hl' => k H locs ls' ws _ hP hD hw hS hx (lrl.put1 q1 q3 hl' ⟨some q, ⟨q, hq1, rfl⟩, rfl⟩ hn4) hs' hn1 hn2)
theorem la_i0 (X : LCX p s m meth c D ad av b L xs) {lv : List AV} (k : LSM p l e s m below meth c D ad b 18 (st1 lv 3 (aI (nI 0))) [] h) : LSM p l e s m below meth c D ad b 16 lv [] h := by
  obtain ⟨⟨hX, hb, -⟩, -⟩ := X
  intro H locs ls ws sv hP hD hw hS hx hl hs hn1 hn2
  obtain ⟨q1, LL, q2, q3⟩ := hl
  refine lv_iconst (v := nI 0) hX hb (show decode code 16 = .ok (.iconst 0, 1) by decide +kernel) (by decide) ?_
  exact lv_istore_n hX hb (show decode code 17 = .ok (.istore_n 3, 1) by decide +kernel) rfl q2 (by decide) rfl (fun ls' hl' => k H locs ls' ws _ hP hD hw hS hx (lrl.put1 q1 q3 hl' rfl (by decide)) hs hn1 hn2)
theorem w_l1 : Cond.classLink R_law 7 RX10 ∈ gtbl ∧ Cond.classLink R_law 10 RX11 ∈ gtbl ∧ Cond.methodLink R_law 9 K_X_init.1 ∈ gtbl ∧ Cond.methodLink R_law 12 K_M_init.1 ∈ gtbl := by decide +kernel
theorem la_start (X : LCX p s m meth c D ad av b L xs) {I : Nat → AH → Prop} {SHP : List (Nat × Nat)} (P : PURE I mi SHP) : LSM p l e s m below meth c D ad b 0 [aS 9, aU, aU, aU] [] e0 := by
  obtain ⟨⟨h1, h2, e1, hm, e2, hI⟩, P2, P3, ⟨P4, P5, P6, P7⟩, -⟩ := id P
  have hs2 := P2 0 h2 hI
  have x1 := Cc_ext _ _ _ _ _ e1
  have x2 := Cc_ext _ _ _ _ _ e2
  have y2 : h2.1.length ≤ 600000 ∧ tsz h2.1 ≤ 7302250 := by rw [hs2]; exact ⟨P6, P7⟩
  have y3 := le2_nw h1 (4, 11)
  have x1a : (nw e0 (4, 10)).1.length ≤ h1.1.length := x1.1
  have x1b : tsz (nw e0 (4, 10)).1 ≤ tsz h1.1 := x1.2
  have x2a : (nw h1 (4, 11)).1.length ≤ h2.1.length := x2.1
  have x2b : tsz (nw h1 (4, 11)).1 ≤ tsz h2.1 := x2.2
  have y3a := y3.1
  have y3b := y3.2
  obtain ⟨w1, w2, w3, w4⟩ := w_l1
  refine sm_new X.1 (ci := 10) (show decode code 0 = .ok (.new 7, 3) by decide +kernel) rfl w1 (by show _ - 0 ≤ 600000; omega) (by show _ - 0 ≤ 7302250; omega) ?_
  refine la_dup X (a := 0) (show decode code 3 = .ok (.dup, 1) by decide +kernel) ?_
  refine sm_callI X.1 (d := 60) (K := K_X_init) (n := 1) (ci := 10) (as := [aR (some 0)]) (st' := [aR (some 0)]) (r1 := (none, h1)) (show decode code 4 = .ok (.invokespecial 9, 3) by decide +kernel) (kp_of oe_X_init rfl rfl) (Or.inl w3) ⟨0, [], rfl, rfl⟩ (sound_all l 60 k_X_init K_X_init _ _ _ e1 (by decide) rfl) rfl (by decide) (by decide) x1.1 x1.2 (by show h1.1.length - 0 ≤ 600000; omega) (by show tsz h1.1 - 0 ≤ 7302250; omega) ?_
  refine la_ast X (a := 0) (n := 1) rfl (by decide) (show decode code 7 = .ok (.astore_n 1, 1) by decide +kernel) ?_
  refine sm_new X.1 (ci := 11) (show decode code 8 = .ok (.new 10, 3) by decide +kernel) rfl w2 (by show (nw h1 (4, 11)).1.length - 0 ≤ 600000; omega) (by show tsz (nw h1 (4, 11)).1 - 0 ≤ 7302250; omega) ?_
  rw [hm]
  refine la_dup X (a := mi) (show decode code 11 = .ok (.dup, 1) by decide +kernel) ?_
  refine sm_callI X.1 (d := 60) (K := K_M_init) (n := 1) (ci := 11) (as := [aR (some mi)]) (st' := [aR (some mi)]) (r1 := (none, h2)) (show decode code 12 = .ok (.invokespecial 12, 3) by decide +kernel) (kp_of oe_M_init rfl rfl) (Or.inl w4) ⟨mi, [], rfl, by show (h1.1 ++ [(4, 11)])[mi]? = _; rw [← hm, List.getElem?_append_right (Nat.le_refl _), Nat.sub_self]; rfl⟩ (sound_all l 60 k_M_init K_M_init _ _ _ e2 (by decide) rfl) rfl (by decide) (by decide) x2.1 x2.2 (by show h2.1.length - 0 ≤ 600000; omega) (by show tsz h2.1 - 0 ≤ 7302250; omega) ?_
  refine la_ast X (a := mi) (n := 2) rfl (by decide) (show decode code 15 = .ok (.astore_n 2, 1) by decide +kernel) ?_
  refine la_i0 X ?_
  exact la_loop X P (L + 1) 0 h2 (by omega) (by omega) hI
end LAWC
