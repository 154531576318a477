/-! THE START: what the constructors leave, run by the kernel -/
def eZ : AH := ([], fun _ _ => 0, fun _ _ => 0, fun _ _ => none)
def gH (o : Option AR) : AH := match o with
  | some (_, h) => h
  | none => eZ
def gB (o : Option AR) : Bool := match o with
  | some (none, _) => true
  | _ => false
theorem gB_H {o : Option AR} (h : gB o = true) : o = some (none, gH o) := by
  unfold gB at h
  split at h
  · rfl
  · cases h
def hX : AH := gH (Cf 200 60 k_X_init [aR (some 0)] (nw eZ (4, 10)))
theorem hX_e : gB (Cf 200 60 k_X_init [aR (some 0)] (nw eZ (4, 10))) = true := by decide +kernel
theorem hX_l : hX.1.length = 94 := by decide +kernel
def hM : AH := gH (Cf 200 60 k_M_init [aR (some 94)] (nw hX (4, 11)))
theorem hM_e : gB (Cf 200 60 k_M_init [aR (some 94)] (nw hX (4, 11))) = true := by decide +kernel
theorem hM_1 : hM.1 = SHP := by decide +kernel
theorem hM_r : ∀ t, t ∈ XRefs → hR hM t.1 t.2.1 = some t.2.2 := by decide +kernel
def ICl : List (Nat × Nat × Nat) := [(1, 3, 1), (1, 4, 0), (1, 5, 0), (1, 6, 0), (5, 3, 1), (5, 4, 0), (5, 5, 0), (5, 6, 0), (9, 3, 1), (9, 4, 0), (9, 5, 0), (9, 6, 0), (13, 2, 0), (16, 4, 0), (16, 5, 0), (16, 6, 0), (16, 7, 0), (95, 0, 1), (95, 1, 1), (96, 0, 0), (96, 1, 0), (97, 0, 0), (97, 1, 0), (98, 0, 0), (98, 1, 0), (94, 16, 0), (94, 19, 0), (94, 29, 0), (84, 0, 31572), (87, 0, 31572), (90, 0, 31572), (84, 3, 0), (87, 3, 0), (90, 3, 0)]
theorem hM_i : ∀ t, t ∈ ICl → hI hM t.1 t.2.1 = zI (t.2.2 : Nat) := by decide +kernel
