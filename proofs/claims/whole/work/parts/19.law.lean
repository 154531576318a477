/-! THE LAW's WALK, over the contracts; what it rests on is PURE -/
def e0 : AH := ([], fun _ _ => 0, fun _ _ => 0, fun _ _ => none)
abbrev LSM (p : Program) (l : Launch) (e : Env) (s : State) (m : MethodId) (below : List Frame) (meth : Method) (c : Code) (D : va_G) (ad : Nat → Nat) (b : Nat) : Nat → List AV → List AV → AH → Prop := SM p l e room_1 s m #[Value.ref b] below meth c 4 D ad (fun q => s.heap.size ≤ q) [] 0 0 (lw_Z below #[Value.ref b] s)
/-- what holds at the law's entry -/
def LCX (p : Program) (s : State) (m : MethodId) (meth : Method) (c : Code) (D : va_G) (ad av : Nat → Nat) (b L : Nat) (xs : Nat → Int32) : Prop :=
  CX p s m #[Value.ref b] meth c code 4 R_law false ret D (fun q => s.heap.size ≤ q) ad av ∧ va_X b L xs s s.heap ∧ b < s.heap.size ∧ ad 9 = b ∧ L ≤ 3072
def dq (pc : Nat) (is : List (Instr × Nat)) : Bool := match is with
  | [] => true
  | (i, n) :: is => (match decode code pc with
    | .ok (j, k) => decide (j = i) && decide (k = n)
    | _ => false) && dq (pc + n) is
theorem dq_s {pc n : Nat} {i : Instr} {is : List (Instr × Nat)} (h : dq pc ((i, n) :: is) = true) : decode code pc = .ok (i, n) ∧ dq (pc + n) is = true := by
  have h : ((match decode code pc with
    | .ok (j, k) => decide (j = i) && decide (k = n)
    | _ => false) && dq (pc + n) is) = true := h
  obtain ⟨h1, h2⟩ := and_s h
  split at h1
  · rename_i j k e
    obtain ⟨h3, h4⟩ := and_s h1
    exact ⟨by rw [e, of_decide_eq_true h3, of_decide_eq_true h4], h2⟩
  · cases h1
theorem kp_of {K : KE} {kd n : Nat} (h : okE K = true) (h4 : K.2.2.2.2.2.2.2[4]? = some kd) (h5 : K.2.2.2.2.2.2.2[5]? = some n) : KP K kd n := by
  obtain ⟨kd', n', e4, e5, h⟩ := okE_s h
  rw [h4] at e4
  rw [h5] at e5
  cases e4
  cases e5
  exact h
section LAWA
variable {p : Program} {l : Launch} {e : Env} {s : State} {m : MethodId} {below : List Frame} {meth : Method} {c : Code} {D : va_G} {ad av : Nat → Nat} {b L mi : Nat} {xs : Nat → Int32} {h : AH} {pc i : Nat} {st : List AV} {o1 o2 : AV}

/-- script[i + j] -/
theorem la_arg (X : LCX p s m meth c D ad av b L xs) {j : Nat} (hj : j < 6) (hi : i + 6 ≤ L) (hd : dq pc [(.aload_n 0, 1), (.iload_n 3, 1), (.iconst j, 1), (.iadd, 1), (.iaload, 1)] = true) (k : LSM p l e s m below meth c D ad b (pc + 5) [aS 9, o1, o2, aI (nI i)] (aI (xs (i + j)) :: st) h) : LSM p l e s m below meth c D ad b pc [aS 9, o1, o2, aI (nI i)] st h := by
  obtain ⟨⟨hX, hb, hml, hown, hts, hK, hA, hE, -⟩, hXs, hbl, had, hL⟩ := X
  obtain ⟨d0, hd⟩ := dq_s hd
  obtain ⟨d1, hd⟩ := dq_s hd
  obtain ⟨d2, hd⟩ := dq_s hd
  obtain ⟨d3, hd⟩ := dq_s hd
  obtain ⟨d4, -⟩ := dq_s hd
  intro H locs ls ws sv hP hD hw hS hx hl hs hn1 hn2
  obtain ⟨w0, g0, -, z0⟩ := hl.get (i := 0) (v := aS 9) rfl (aS_ne _)
  obtain ⟨w3, g3, z3⟩ := hl.get (i := 3) (v := aI (nI i)) rfl nofun
  have z3 : w3 = _ := z3
  subst z0 z3
  rw [had] at g0
  refine lv_aload_n hX hb d0 rfl g0 ?_
  refine lv_iload_n hX hb d1 rfl g3 ?_
  refine lv_iconst (v := nI j) hX hb d2 (by rcases (show j = 0 ∨ j = 1 ∨ j = 2 ∨ j = 3 ∨ j = 4 ∨ j = 5 by omega) with rfl | rfl | rfl | rfl | rfl | rfl <;> rfl) ?_
  refine lv_iadd hX hb d3 ?_
  rw [nI_add]
  refine va_sld hX hb hXs hbl (Nat.not_le.mpr hbl) hS (vp_in_nI (by omega) (by omega)) d4 ?_
  rw [nI_clamp (by omega)]
  exact k H locs ls ws _ hP hD hw hS hx hl ⟨⟨nofun, rfl⟩, hs⟩ hn1 hn2
/-- script[i] -/
theorem la_arg0 (X : LCX p s m meth c D ad av b L xs) (hi : i + 6 ≤ L) (hd : dq pc [(.aload_n 0, 1), (.iload_n 3, 1), (.iaload, 1)] = true) (k : LSM p l e s m below meth c D ad b (pc + 3) [aS 9, o1, o2, aI (nI i)] (aI (xs i) :: st) h) : LSM p l e s m below meth c D ad b pc [aS 9, o1, o2, aI (nI i)] st h := by
  obtain ⟨⟨hX, hb, hml, hown, hts, hK, hA, hE, -⟩, hXs, hbl, had, hL⟩ := X
  obtain ⟨d0, hd⟩ := dq_s hd
  obtain ⟨d1, hd⟩ := dq_s hd
  obtain ⟨d4, -⟩ := dq_s hd
  intro H locs ls ws sv hP hD hw hS hx hl hs hn1 hn2
  obtain ⟨w0, g0, -, z0⟩ := hl.get (i := 0) (v := aS 9) rfl (aS_ne _)
  obtain ⟨w3, g3, z3⟩ := hl.get (i := 3) (v := aI (nI i)) rfl nofun
  have z3 : w3 = _ := z3
  subst z0 z3
  rw [had] at g0
  refine lv_aload_n hX hb d0 rfl g0 ?_
  refine lv_iload_n hX hb d1 rfl g3 ?_
  refine va_sld hX hb hXs hbl (Nat.not_le.mpr hbl) hS (vp_in_nI (by omega) (by omega)) d4 ?_
  rw [nI_clamp (by omega)]
  exact k H locs ls ws _ hP hD hw hS hx hl ⟨⟨nofun, rfl⟩, hs⟩ hn1 hn2
theorem la_x (X : LCX p s m meth c D ad av b L xs) {a : Nat} (hd : decode code pc = .ok (.aload_n 1, 1)) (k : LSM p l e s m below meth c D ad b (pc + 1) [aS 9, aR (some a), o2, aI (nI i)] (aR (some a) :: st) h) : LSM p l e s m below meth c D ad b pc [aS 9, aR (some a), o2, aI (nI i)] st h := by
  obtain ⟨⟨hX, hb, -⟩, -⟩ := X
  intro H locs ls ws sv hP hD hw hS hx hl hs hn1 hn2
  obtain ⟨w1, g1, o', ⟨q, z1, z2⟩, z3⟩ := hl.get (i := 1) (v := aR (some a)) rfl nofun
  subst z3 z2
  exact lv_aload_n hX hb hd rfl g1 (k H locs ls ws _ hP hD hw hS hx hl ⟨⟨nofun, some q, ⟨q, z1, rfl⟩, rfl⟩, hs⟩ hn1 hn2)
theorem la_m (X : LCX p s m meth c D ad av b L xs) {a : Nat} (hd : decode code pc = .ok (.aload_n 2, 1)) (k : LSM p l e s m below meth c D ad b (pc + 1) [aS 9, o1, aR (some a), aI (nI i)] (aR (some a) :: st) h) : LSM p l e s m below meth c D ad b pc [aS 9, o1, aR (some a), aI (nI i)] st h := by
  obtain ⟨⟨hX, hb, -⟩, -⟩ := X
  intro H locs ls ws sv hP hD hw hS hx hl hs hn1 hn2
  obtain ⟨w1, g1, o', ⟨q, z1, z2⟩, z3⟩ := hl.get (i := 2) (v := aR (some a)) rfl nofun
  subst z3 z2
  exact lv_aload_n hX hb hd rfl g1 (k H locs ls ws _ hP hD hw hS hx hl ⟨⟨nofun, some q, ⟨q, z1, rfl⟩, rfl⟩, hs⟩ hn1 hn2)
/-- (long) x << 32 -/
theorem la_hi (X : LCX p s m meth c D ad av b L xs) {lv : List AV} {x : Int32} (hd : dq pc [(.i2l, 1), (.bipush 32, 2), (.lshl, 1)] = true) (k : LSM p l e s m below meth c D ad b (pc + 4) lv (aL (x.toInt64 <<< (Int32.toInt64 32 &&& 63)) :: st) h) : LSM p l e s m below meth c D ad b pc lv (aI x :: st) h := by
  obtain ⟨⟨hX, hb, -⟩, -⟩ := X
  obtain ⟨d0, hd⟩ := dq_s hd
  obtain ⟨d1, hd⟩ := dq_s hd
  obtain ⟨d2, -⟩ := dq_s hd
  intro H locs ls ws sv hP hD hw hS hx hl hs hn1 hn2
  obtain ⟨sv', rfl, hs'⟩ := srlI hs
  refine lv_i2l hX hb d0 rfl ?_
  refine lv_bipush (v := 32) hX hb d1 (by decide) ?_
  refine lv_lshl hX hb d2 rfl ?_
  exact k H locs ls ws _ hP hD hw hS hx hl ⟨⟨nofun, rfl⟩, hs'⟩ hn1 hn2
theorem w_lk : Cond.constantLong R_law 18 4294967295 ∈ gtbl := by decide +kernel
/-- .. | x & 0xFFFFFFFFL -/
theorem la_lo (X : LCX p s m meth c D ad av b L xs) {lv : List AV} {x : Int32} {y : Int64} (hd : dq pc [(.i2l, 1), (.ldc2_w 18, 3), (.land, 1), (.lor, 1)] = true) (k : LSM p l e s m below meth c D ad b (pc + 6) lv (aL (y ||| (x.toInt64 &&& 4294967295)) :: st) h) : LSM p l e s m below meth c D ad b pc lv (aI x :: aL y :: st) h := by
  obtain ⟨⟨hX, hb, hml, hown, hts, -⟩, -⟩ := X
  obtain ⟨d0, hd⟩ := dq_s hd
  obtain ⟨d1, hd⟩ := dq_s hd
  obtain ⟨d2, hd⟩ := dq_s hd
  obtain ⟨d3, -⟩ := dq_s hd
  intro H locs ls ws sv hP hD hw hS hx hl hs hn1 hn2
  obtain ⟨sv1, rfl, hs1⟩ := srlI hs
  obtain ⟨sv', rfl, hs'⟩ := srlL hs1
  refine lv_i2l hX hb d0 rfl ?_
  refine lv_ldc2 hX hb hown (hts _ w_lk) d1 ?_
  refine lv_land hX hb d2 ?_
  refine lv_lor hX hb d3 ?_
  exact k H locs ls ws _ hP hD hw hS hx hl ⟨⟨nofun, rfl⟩, hs'⟩ hn1 hn2
/-- both answers are the same -/
theorem la_eq (X : LCX p s m meth c D ad av b L xs) {lv : List AV} {x : Int32} {off : Int} {tgt : Nat} (hd : decode code pc = .ok (.if_icmp .eq off, 3)) (ht : (pc : Int) + off = (tgt : Int)) (k : LSM p l e s m below meth c D ad b tgt lv st h) : LSM p l e s m below meth c D ad b pc lv (aI x :: aI x :: st) h := by
  obtain ⟨⟨hX, hb, -⟩, -⟩ := X
  intro H locs ls ws sv hP hD hw hS hx hl hs hn1 hn2
  obtain ⟨sv1, rfl, hs1⟩ := srlI hs
  obtain ⟨sv', rfl, hs'⟩ := srlI hs1
  exact lv_icmp_eq hX hb hd ht (fun _ => k H locs ls ws _ hP hD hw hS hx hl hs' hn1 hn2) (fun z => absurd rfl z)
/-- a call of the class, a call of the reference -/
theorem la_call (X : LCX p s m meth c D ad av b L xs) {lv : List AV} {idx key n ci a : Nat} {K : KE} {as st' : List AV} {v : Int32} {h1 : AH} {q : vw_C} (hd : decode code pc = .ok (.invokevirtual idx, 3)) (hkey : 6 ≤ key) (hK : KT[key]? = some K) (h4 : K.2.2.2.2.2.2.2[4]? = some 0) (h5 : K.2.2.2.2.2.2.2[5]? = some n) (hlk : Cond.methodLink R_law idx K.1 ∈ gtbl) (hq : cls[ci]? = some q) (hKq : K.1.cls = q.1) (ha : h.1[a]? = some (4, ci)) (hp : popW n st = some (aR (some a) :: as, st')) (he : Cc 60 key (aR (some a) :: as) h = some (some (aI v), h1)) (hR1 : h1.1.length ≤ 600000) (hR2 : tsz h1.1 ≤ 7302250) (k : LSM p l e s m below meth c D ad b (pc + 3) lv (aI v :: st') h1) : LSM p l e s m below meth c D ad b pc lv st h := by
  have hx := Cc_ext _ _ _ _ _ he
  exact sm_callV X.1 hd (kp_of (hKT _ _ hK (by omega)) h4 h5) hlk (Or.inr ⟨q, hq, hKq⟩) (Or.inl ⟨a, as, rfl, ha⟩) (sound_all l 60 key K _ h _ he hkey hK) hp (by decide) (by decide) hx.1 hx.2 (by show h1.1.length - 0 ≤ 600000; omega) (by show tsz h1.1 - 0 ≤ 7302250; omega) k
end LAWA
/-- one call of both, and what holds then -/
def STP (I : Nat → AH → Prop) (mi kx km : Nat) (as : List AV) : Prop := ∀ (k : Nat) (h : AH), k < 512 → I k h → ∃ v h1 h2, Cc 60 kx (aR (some 0) :: as) h = some (some (aI v), h1) ∧ h1.1 = h.1 ∧ Cc 60 km (aR (some mi) :: as) h1 = some (some (aI v), h2) ∧ I (k + 1) h2
section LAWB
variable {p : Program} {l : Launch} {e : Env} {s : State} {m : MethodId} {below : List Frame} {meth : Method} {c : Code} {D : va_G} {ad av : Nat → Nat} {b L mi : Nat} {xs : Nat → Int32} {h : AH} {pc i : Nat} {st : List AV} {o1 o2 : AV}
theorem la_case0 (X : LCX p s m meth c D ad av b L xs) {I : Nat → AH → Prop} {k : Nat} (hi : i + 6 ≤ L) (hk : k < 512) (hI : I k h) (hA : h.1[0]? = some (4, 10)) (hM : h.1[mi]? = some (4, 11)) (hz1 : h.1.length ≤ 600000) (hz2 : tsz h.1 ≤ 7302250) (hsh : ∀ k h2, I k h2 → h2.1 = h.1) (hp : STP I mi k_X_reader k_M_reader [aI (xs (i + 1)), aI (xs (i + 2)), aI (xs (i + 3)), aI (xs (i + 4))]) (kk : ∀ h2, I (k + 1) h2 → LSM p l e s m below meth c D ad b 960 [aS 9, aR (some 0), aR (some mi), aI (nI i)] [] h2) : LSM p l e s m below meth c D ad b 152 [aS 9, aR (some 0), aR (some mi), aI (nI i)] [] h := by
  obtain ⟨v, h1, h2, e1, s1, e2, hI2⟩ := hp k h hk hI
  have s2 := hsh _ _ hI2
  refine la_x X (show decode code 152 = .ok (.aload_n 1, 1) by decide +kernel) ?_
  refine la_arg X (j := 1) (by decide) hi (show dq 153 [(.aload_n 0, 1), (.iload_n 3, 1), (.iconst 1, 1), (.iadd, 1), (.iaload, 1)] = true by decide +kernel) ?_
  refine la_arg X (j := 2) (by decide) hi (show dq 158 [(.aload_n 0, 1), (.iload_n 3, 1), (.iconst 2, 1), (.iadd, 1), (.iaload, 1)] = true by decide +kernel) ?_
  refine la_arg X (j := 3) (by decide) hi (show dq 163 [(.aload_n 0, 1), (.iload_n 3, 1), (.iconst 3, 1), (.iadd, 1), (.iaload, 1)] = true by decide +kernel) ?_
  refine la_arg X (j := 4) (by decide) hi (show dq 168 [(.aload_n 0, 1), (.iload_n 3, 1), (.iconst 4, 1), (.iadd, 1), (.iaload, 1)] = true by decide +kernel) ?_
  refine la_call X (key := k_X_reader) (n := 5) (ci := 10) (a := 0) (as := [aI (xs (i + 1)), aI (xs (i + 2)), aI (xs (i + 3)), aI (xs (i + 4))]) (st' := []) (v := v) (h1 := h1) (show decode code 173 = .ok (.invokevirtual 13, 3) by decide +kernel) (by decide) rfl rfl rfl (by decide +kernel) rfl rfl hA rfl e1 (by rw [s1]; exact hz1) (by rw [s1]; exact hz2) ?_
  refine la_m X (show decode code 176 = .ok (.aload_n 2, 1) by decide +kernel) ?_
  refine la_arg X (j := 1) (by decide) hi (show dq 177 [(.aload_n 0, 1), (.iload_n 3, 1), (.iconst 1, 1), (.iadd, 1), (.iaload, 1)] = true by decide +kernel) ?_
  refine la_arg X (j := 2) (by decide) hi (show dq 182 [(.aload_n 0, 1), (.iload_n 3, 1), (.iconst 2, 1), (.iadd, 1), (.iaload, 1)] = true by decide +kernel) ?_
  refine la_arg X (j := 3) (by decide) hi (show dq 187 [(.aload_n 0, 1), (.iload_n 3, 1), (.iconst 3, 1), (.iadd, 1), (.iaload, 1)] = true by decide +kernel) ?_
  refine la_arg X (j := 4) (by decide) hi (show dq 192 [(.aload_n 0, 1), (.iload_n 3, 1), (.iconst 4, 1), (.iadd, 1), (.iaload, 1)] = true by decide +kernel) ?_
  refine la_call X (key := k_M_reader) (n := 5) (ci := 11) (a := mi) (as := [aI (xs (i + 1)), aI (xs (i + 2)), aI (xs (i + 3)), aI (xs (i + 4))]) (st' := [aI v]) (v := v) (h1 := h2) (show decode code 197 = .ok (.invokevirtual 17, 3) by decide +kernel) (by decide) rfl rfl rfl (by decide +kernel) rfl rfl (by rw [s1]; exact hM) rfl e2 (by rw [s2]; exact hz1) (by rw [s2]; exact hz2) ?_
  refine la_eq X (tgt := 960) (show decode code 200 = .ok (.if_icmp .eq 760, 3) by decide +kernel) (by decide) ?_
  exact kk h2 hI2
theorem la_case1 (X : LCX p s m meth c D ad av b L xs) {I : Nat → AH → Prop} {k : Nat} (hi : i + 6 ≤ L) (hk : k < 512) (hI : I k h) (hA : h.1[0]? = some (4, 10)) (hM : h.1[mi]? = some (4, 11)) (hz1 : h.1.length ≤ 600000) (hz2 : tsz h.1 ≤ 7302250) (hsh : ∀ k h2, I k h2 → h2.1 = h.1) (hp : STP I mi k_X_write k_M_write [aL ((xs (i + 1)).toInt64 <<< (Int32.toInt64 32 &&& 63) ||| ((xs (i + 2)).toInt64 &&& 4294967295)), aI (xs (i + 3))]) (kk : ∀ h2, I (k + 1) h2 → LSM p l e s m below meth c D ad b 960 [aS 9, aR (some 0), aR (some mi), aI (nI i)] [] h2) : LSM p l e s m below meth c D ad b 205 [aS 9, aR (some 0), aR (some mi), aI (nI i)] [] h := by
  obtain ⟨v, h1, h2, e1, s1, e2, hI2⟩ := hp k h hk hI
  have s2 := hsh _ _ hI2
  refine la_x X (show decode code 205 = .ok (.aload_n 1, 1) by decide +kernel) ?_
  refine la_arg X (j := 1) (by decide) hi (show dq 206 [(.aload_n 0, 1), (.iload_n 3, 1), (.iconst 1, 1), (.iadd, 1), (.iaload, 1)] = true by decide +kernel) ?_
  refine la_hi X (show dq 211 [(.i2l, 1), (.bipush 32, 2), (.lshl, 1)] = true by decide +kernel) ?_
  refine la_arg X (j := 2) (by decide) hi (show dq 215 [(.aload_n 0, 1), (.iload_n 3, 1), (.iconst 2, 1), (.iadd, 1), (.iaload, 1)] = true by decide +kernel) ?_
  refine la_lo X (show dq 220 [(.i2l, 1), (.ldc2_w 18, 3), (.land, 1), (.lor, 1)] = true by decide +kernel) ?_
  refine la_arg X (j := 3) (by decide) hi (show dq 226 [(.aload_n 0, 1), (.iload_n 3, 1), (.iconst 3, 1), (.iadd, 1), (.iaload, 1)] = true by decide +kernel) ?_
  refine la_call X (key := k_X_write) (n := 3) (ci := 10) (a := 0) (as := [aL ((xs (i + 1)).toInt64 <<< (Int32.toInt64 32 &&& 63) ||| ((xs (i + 2)).toInt64 &&& 4294967295)), aI (xs (i + 3))]) (st' := []) (v := v) (h1 := h1) (show decode code 231 = .ok (.invokevirtual 20, 3) by decide +kernel) (by decide) rfl rfl rfl (by decide +kernel) rfl rfl hA rfl e1 (by rw [s1]; exact hz1) (by rw [s1]; exact hz2) ?_
  refine la_m X (show decode code 234 = .ok (.aload_n 2, 1) by decide +kernel) ?_
  refine la_arg X (j := 1) (by decide) hi (show dq 235 [(.aload_n 0, 1), (.iload_n 3, 1), (.iconst 1, 1), (.iadd, 1), (.iaload, 1)] = true by decide +kernel) ?_
  refine la_hi X (show dq 240 [(.i2l, 1), (.bipush 32, 2), (.lshl, 1)] = true by decide +kernel) ?_
  refine la_arg X (j := 2) (by decide) hi (show dq 244 [(.aload_n 0, 1), (.iload_n 3, 1), (.iconst 2, 1), (.iadd, 1), (.iaload, 1)] = true by decide +kernel) ?_
  refine la_lo X (show dq 249 [(.i2l, 1), (.ldc2_w 18, 3), (.land, 1), (.lor, 1)] = true by decide +kernel) ?_
  refine la_arg X (j := 3) (by decide) hi (show dq 255 [(.aload_n 0, 1), (.iload_n 3, 1), (.iconst 3, 1), (.iadd, 1), (.iaload, 1)] = true by decide +kernel) ?_
  refine la_call X (key := k_M_write) (n := 3) (ci := 11) (a := mi) (as := [aL ((xs (i + 1)).toInt64 <<< (Int32.toInt64 32 &&& 63) ||| ((xs (i + 2)).toInt64 &&& 4294967295)), aI (xs (i + 3))]) (st' := [aI v]) (v := v) (h1 := h2) (show decode code 260 = .ok (.invokevirtual 24, 3) by decide +kernel) (by decide) rfl rfl rfl (by decide +kernel) rfl rfl (by rw [s1]; exact hM) rfl e2 (by rw [s2]; exact hz1) (by rw [s2]; exact hz2) ?_
  refine la_eq X (tgt := 960) (show decode code 263 = .ok (.if_icmp .eq 697, 3) by decide +kernel) (by decide) ?_
  exact kk h2 hI2
theorem la_case2 (X : LCX p s m meth c D ad av b L xs) {I : Nat → AH → Prop} {k : Nat} (hi : i + 6 ≤ L) (hk : k < 512) (hI : I k h) (hA : h.1[0]? = some (4, 10)) (hM : h.1[mi]? = some (4, 11)) (hz1 : h.1.length ≤ 600000) (hz2 : tsz h.1 ≤ 7302250) (hsh : ∀ k h2, I k h2 → h2.1 = h.1) (hp : STP I mi k_X_erase k_M_erase []) (kk : ∀ h2, I (k + 1) h2 → LSM p l e s m below meth c D ad b 960 [aS 9, aR (some 0), aR (some mi), aI (nI i)] [] h2) : LSM p l e s m below meth c D ad b 268 [aS 9, aR (some 0), aR (some mi), aI (nI i)] [] h := by
  obtain ⟨v, h1, h2, e1, s1, e2, hI2⟩ := hp k h hk hI
  have s2 := hsh _ _ hI2
  refine la_x X (show decode code 268 = .ok (.aload_n 1, 1) by decide +kernel) ?_
  refine la_call X (key := k_X_erase) (n := 1) (ci := 10) (a := 0) (as := []) (st' := []) (v := v) (h1 := h1) (show decode code 269 = .ok (.invokevirtual 25, 3) by decide +kernel) (by decide) rfl rfl rfl (by decide +kernel) rfl rfl hA rfl e1 (by rw [s1]; exact hz1) (by rw [s1]; exact hz2) ?_
  refine la_m X (show decode code 272 = .ok (.aload_n 2, 1) by decide +kernel) ?_
  refine la_call X (key := k_M_erase) (n := 1) (ci := 11) (a := mi) (as := []) (st' := [aI v]) (v := v) (h1 := h2) (show decode code 273 = .ok (.invokevirtual 29, 3) by decide +kernel) (by decide) rfl rfl rfl (by decide +kernel) rfl rfl (by rw [s1]; exact hM) rfl e2 (by rw [s2]; exact hz1) (by rw [s2]; exact hz2) ?_
  refine la_eq X (tgt := 960) (show decode code 276 = .ok (.if_icmp .eq 684, 3) by decide +kernel) (by decide) ?_
  exact kk h2 hI2
theorem la_case3 (X : LCX p s m meth c D ad av b L xs) {I : Nat → AH → Prop} {k : Nat} (hi : i + 6 ≤ L) (hk : k < 512) (hI : I k h) (hA : h.1[0]? = some (4, 10)) (hM : h.1[mi]? = some (4, 11)) (hz1 : h.1.length ≤ 600000) (hz2 : tsz h.1 ≤ 7302250) (hsh : ∀ k h2, I k h2 → h2.1 = h.1) (hp : STP I mi k_X_fault k_M_fault [aI (xs (i + 1))]) (kk : ∀ h2, I (k + 1) h2 → LSM p l e s m below meth c D ad b 960 [aS 9, aR (some 0), aR (some mi), aI (nI i)] [] h2) : LSM p l e s m below meth c D ad b 281 [aS 9, aR (some 0), aR (some mi), aI (nI i)] [] h := by
  obtain ⟨v, h1, h2, e1, s1, e2, hI2⟩ := hp k h hk hI
  have s2 := hsh _ _ hI2
  refine la_x X (show decode code 281 = .ok (.aload_n 1, 1) by decide +kernel) ?_
  refine la_arg X (j := 1) (by decide) hi (show dq 282 [(.aload_n 0, 1), (.iload_n 3, 1), (.iconst 1, 1), (.iadd, 1), (.iaload, 1)] = true by decide +kernel) ?_
  refine la_call X (key := k_X_fault) (n := 2) (ci := 10) (a := 0) (as := [aI (xs (i + 1))]) (st' := []) (v := v) (h1 := h1) (show decode code 287 = .ok (.invokevirtual 30, 3) by decide +kernel) (by decide) rfl rfl rfl (by decide +kernel) rfl rfl hA rfl e1 (by rw [s1]; exact hz1) (by rw [s1]; exact hz2) ?_
  refine la_m X (show decode code 290 = .ok (.aload_n 2, 1) by decide +kernel) ?_
  refine la_arg X (j := 1) (by decide) hi (show dq 291 [(.aload_n 0, 1), (.iload_n 3, 1), (.iconst 1, 1), (.iadd, 1), (.iaload, 1)] = true by decide +kernel) ?_
  refine la_call X (key := k_M_fault) (n := 2) (ci := 11) (a := mi) (as := [aI (xs (i + 1))]) (st' := [aI v]) (v := v) (h1 := h2) (show decode code 296 = .ok (.invokevirtual 34, 3) by decide +kernel) (by decide) rfl rfl rfl (by decide +kernel) rfl rfl (by rw [s1]; exact hM) rfl e2 (by rw [s2]; exact hz1) (by rw [s2]; exact hz2) ?_
  refine la_eq X (tgt := 960) (show decode code 299 = .ok (.if_icmp .eq 661, 3) by decide +kernel) (by decide) ?_
  exact kk h2 hI2
theorem la_case4 (X : LCX p s m meth c D ad av b L xs) {I : Nat → AH → Prop} {k : Nat} (hi : i + 6 ≤ L) (hk : k < 512) (hI : I k h) (hA : h.1[0]? = some (4, 10)) (hM : h.1[mi]? = some (4, 11)) (hz1 : h.1.length ≤ 600000) (hz2 : tsz h.1 ≤ 7302250) (hsh : ∀ k h2, I k h2 → h2.1 = h.1) (hp : STP I mi k_X_moves k_M_moves [aI (xs (i + 1))]) (kk : ∀ h2, I (k + 1) h2 → LSM p l e s m below meth c D ad b 960 [aS 9, aR (some 0), aR (some mi), aI (nI i)] [] h2) : LSM p l e s m below meth c D ad b 304 [aS 9, aR (some 0), aR (some mi), aI (nI i)] [] h := by
  obtain ⟨v, h1, h2, e1, s1, e2, hI2⟩ := hp k h hk hI
  have s2 := hsh _ _ hI2
  refine la_x X (show decode code 304 = .ok (.aload_n 1, 1) by decide +kernel) ?_
  refine la_arg X (j := 1) (by decide) hi (show dq 305 [(.aload_n 0, 1), (.iload_n 3, 1), (.iconst 1, 1), (.iadd, 1), (.iaload, 1)] = true by decide +kernel) ?_
  refine la_call X (key := k_X_moves) (n := 2) (ci := 10) (a := 0) (as := [aI (xs (i + 1))]) (st' := []) (v := v) (h1 := h1) (show decode code 310 = .ok (.invokevirtual 35, 3) by decide +kernel) (by decide) rfl rfl rfl (by decide +kernel) rfl rfl hA rfl e1 (by rw [s1]; exact hz1) (by rw [s1]; exact hz2) ?_
  refine la_m X (show decode code 313 = .ok (.aload_n 2, 1) by decide +kernel) ?_
  refine la_arg X (j := 1) (by decide) hi (show dq 314 [(.aload_n 0, 1), (.iload_n 3, 1), (.iconst 1, 1), (.iadd, 1), (.iaload, 1)] = true by decide +kernel) ?_
  refine la_call X (key := k_M_moves) (n := 2) (ci := 11) (a := mi) (as := [aI (xs (i + 1))]) (st' := [aI v]) (v := v) (h1 := h2) (show decode code 319 = .ok (.invokevirtual 38, 3) by decide +kernel) (by decide) rfl rfl rfl (by decide +kernel) rfl rfl (by rw [s1]; exact hM) rfl e2 (by rw [s2]; exact hz1) (by rw [s2]; exact hz2) ?_
  refine la_eq X (tgt := 960) (show decode code 322 = .ok (.if_icmp .eq 638, 3) by decide +kernel) (by decide) ?_
  exact kk h2 hI2
theorem la_case5 (X : LCX p s m meth c D ad av b L xs) {I : Nat → AH → Prop} {k : Nat} (hi : i + 6 ≤ L) (hk : k < 512) (hI : I k h) (hA : h.1[0]? = some (4, 10)) (hM : h.1[mi]? = some (4, 11)) (hz1 : h.1.length ≤ 600000) (hz2 : tsz h.1 ≤ 7302250) (hsh : ∀ k h2, I k h2 → h2.1 = h.1) (hp : STP I mi k_X_move k_M_move [aI (xs (i + 1)), aI (xs (i + 2)), aI (xs (i + 3))]) (kk : ∀ h2, I (k + 1) h2 → LSM p l e s m below meth c D ad b 960 [aS 9, aR (some 0), aR (some mi), aI (nI i)] [] h2) : LSM p l e s m below meth c D ad b 327 [aS 9, aR (some 0), aR (some mi), aI (nI i)] [] h := by
  obtain ⟨v, h1, h2, e1, s1, e2, hI2⟩ := hp k h hk hI
  have s2 := hsh _ _ hI2
  refine la_x X (show decode code 327 = .ok (.aload_n 1, 1) by decide +kernel) ?_
  refine la_arg X (j := 1) (by decide) hi (show dq 328 [(.aload_n 0, 1), (.iload_n 3, 1), (.iconst 1, 1), (.iadd, 1), (.iaload, 1)] = true by decide +kernel) ?_
  refine la_arg X (j := 2) (by decide) hi (show dq 333 [(.aload_n 0, 1), (.iload_n 3, 1), (.iconst 2, 1), (.iadd, 1), (.iaload, 1)] = true by decide +kernel) ?_
  refine la_arg X (j := 3) (by decide) hi (show dq 338 [(.aload_n 0, 1), (.iload_n 3, 1), (.iconst 3, 1), (.iadd, 1), (.iaload, 1)] = true by decide +kernel) ?_
  refine la_call X (key := k_X_move) (n := 4) (ci := 10) (a := 0) (as := [aI (xs (i + 1)), aI (xs (i + 2)), aI (xs (i + 3))]) (st' := []) (v := v) (h1 := h1) (show decode code 343 = .ok (.invokevirtual 39, 3) by decide +kernel) (by decide) rfl rfl rfl (by decide +kernel) rfl rfl hA rfl e1 (by rw [s1]; exact hz1) (by rw [s1]; exact hz2) ?_
  refine la_m X (show decode code 346 = .ok (.aload_n 2, 1) by decide +kernel) ?_
  refine la_arg X (j := 1) (by decide) hi (show dq 347 [(.aload_n 0, 1), (.iload_n 3, 1), (.iconst 1, 1), (.iadd, 1), (.iaload, 1)] = true by decide +kernel) ?_
  refine la_arg X (j := 2) (by decide) hi (show dq 352 [(.aload_n 0, 1), (.iload_n 3, 1), (.iconst 2, 1), (.iadd, 1), (.iaload, 1)] = true by decide +kernel) ?_
  refine la_arg X (j := 3) (by decide) hi (show dq 357 [(.aload_n 0, 1), (.iload_n 3, 1), (.iconst 3, 1), (.iadd, 1), (.iaload, 1)] = true by decide +kernel) ?_
  refine la_call X (key := k_M_move) (n := 4) (ci := 11) (a := mi) (as := [aI (xs (i + 1)), aI (xs (i + 2)), aI (xs (i + 3))]) (st' := [aI v]) (v := v) (h1 := h2) (show decode code 362 = .ok (.invokevirtual 43, 3) by decide +kernel) (by decide) rfl rfl rfl (by decide +kernel) rfl rfl (by rw [s1]; exact hM) rfl e2 (by rw [s2]; exact hz1) (by rw [s2]; exact hz2) ?_
  refine la_eq X (tgt := 960) (show decode code 365 = .ok (.if_icmp .eq 595, 3) by decide +kernel) (by decide) ?_
  exact kk h2 hI2
theorem la_case6 (X : LCX p s m meth c D ad av b L xs) {I : Nat → AH → Prop} {k : Nat} (hi : i + 6 ≤ L) (hk : k < 512) (hI : I k h) (hA : h.1[0]? = some (4, 10)) (hM : h.1[mi]? = some (4, 11)) (hz1 : h.1.length ≤ 600000) (hz2 : tsz h.1 ≤ 7302250) (hsh : ∀ k h2, I k h2 → h2.1 = h.1) (hp : STP I mi k_X_drop k_M_drop [aI (xs (i + 1)), aI (xs (i + 2))]) (kk : ∀ h2, I (k + 1) h2 → LSM p l e s m below meth c D ad b 960 [aS 9, aR (some 0), aR (some mi), aI (nI i)] [] h2) : LSM p l e s m below meth c D ad b 370 [aS 9, aR (some 0), aR (some mi), aI (nI i)] [] h := by
  obtain ⟨v, h1, h2, e1, s1, e2, hI2⟩ := hp k h hk hI
  have s2 := hsh _ _ hI2
  refine la_x X (show decode code 370 = .ok (.aload_n 1, 1) by decide +kernel) ?_
  refine la_arg X (j := 1) (by decide) hi (show dq 371 [(.aload_n 0, 1), (.iload_n 3, 1), (.iconst 1, 1), (.iadd, 1), (.iaload, 1)] = true by decide +kernel) ?_
  refine la_arg X (j := 2) (by decide) hi (show dq 376 [(.aload_n 0, 1), (.iload_n 3, 1), (.iconst 2, 1), (.iadd, 1), (.iaload, 1)] = true by decide +kernel) ?_
  refine la_call X (key := k_X_drop) (n := 3) (ci := 10) (a := 0) (as := [aI (xs (i + 1)), aI (xs (i + 2))]) (st' := []) (v := v) (h1 := h1) (show decode code 381 = .ok (.invokevirtual 44, 3) by decide +kernel) (by decide) rfl rfl rfl (by decide +kernel) rfl rfl hA rfl e1 (by rw [s1]; exact hz1) (by rw [s1]; exact hz2) ?_
  refine la_m X (show decode code 384 = .ok (.aload_n 2, 1) by decide +kernel) ?_
  refine la_arg X (j := 1) (by decide) hi (show dq 385 [(.aload_n 0, 1), (.iload_n 3, 1), (.iconst 1, 1), (.iadd, 1), (.iaload, 1)] = true by decide +kernel) ?_
  refine la_arg X (j := 2) (by decide) hi (show dq 390 [(.aload_n 0, 1), (.iload_n 3, 1), (.iconst 2, 1), (.iadd, 1), (.iaload, 1)] = true by decide +kernel) ?_
  refine la_call X (key := k_M_drop) (n := 3) (ci := 11) (a := mi) (as := [aI (xs (i + 1)), aI (xs (i + 2))]) (st' := [aI v]) (v := v) (h1 := h2) (show decode code 395 = .ok (.invokevirtual 48, 3) by decide +kernel) (by decide) rfl rfl rfl (by decide +kernel) rfl rfl (by rw [s1]; exact hM) rfl e2 (by rw [s2]; exact hz1) (by rw [s2]; exact hz2) ?_
  refine la_eq X (tgt := 960) (show decode code 398 = .ok (.if_icmp .eq 562, 3) by decide +kernel) (by decide) ?_
  exact kk h2 hI2
theorem la_case7 (X : LCX p s m meth c D ad av b L xs) {I : Nat → AH → Prop} {k : Nat} (hi : i + 6 ≤ L) (hk : k < 512) (hI : I k h) (hA : h.1[0]? = some (4, 10)) (hM : h.1[mi]? = some (4, 11)) (hz1 : h.1.length ≤ 600000) (hz2 : tsz h.1 ≤ 7302250) (hsh : ∀ k h2, I k h2 → h2.1 = h.1) (hp : STP I mi k_X_pair k_M_pair [aI (xs (i + 1)), aI (xs (i + 2))]) (kk : ∀ h2, I (k + 1) h2 → LSM p l e s m below meth c D ad b 960 [aS 9, aR (some 0), aR (some mi), aI (nI i)] [] h2) : LSM p l e s m below meth c D ad b 403 [aS 9, aR (some 0), aR (some mi), aI (nI i)] [] h := by
  obtain ⟨v, h1, h2, e1, s1, e2, hI2⟩ := hp k h hk hI
  have s2 := hsh _ _ hI2
  refine la_x X (show decode code 403 = .ok (.aload_n 1, 1) by decide +kernel) ?_
  refine la_arg X (j := 1) (by decide) hi (show dq 404 [(.aload_n 0, 1), (.iload_n 3, 1), (.iconst 1, 1), (.iadd, 1), (.iaload, 1)] = true by decide +kernel) ?_
  refine la_arg X (j := 2) (by decide) hi (show dq 409 [(.aload_n 0, 1), (.iload_n 3, 1), (.iconst 2, 1), (.iadd, 1), (.iaload, 1)] = true by decide +kernel) ?_
  refine la_call X (key := k_X_pair) (n := 3) (ci := 10) (a := 0) (as := [aI (xs (i + 1)), aI (xs (i + 2))]) (st' := []) (v := v) (h1 := h1) (show decode code 414 = .ok (.invokevirtual 49, 3) by decide +kernel) (by decide) rfl rfl rfl (by decide +kernel) rfl rfl hA rfl e1 (by rw [s1]; exact hz1) (by rw [s1]; exact hz2) ?_
  refine la_m X (show decode code 417 = .ok (.aload_n 2, 1) by decide +kernel) ?_
  refine la_arg X (j := 1) (by decide) hi (show dq 418 [(.aload_n 0, 1), (.iload_n 3, 1), (.iconst 1, 1), (.iadd, 1), (.iaload, 1)] = true by decide +kernel) ?_
  refine la_arg X (j := 2) (by decide) hi (show dq 423 [(.aload_n 0, 1), (.iload_n 3, 1), (.iconst 2, 1), (.iadd, 1), (.iaload, 1)] = true by decide +kernel) ?_
  refine la_call X (key := k_M_pair) (n := 3) (ci := 11) (a := mi) (as := [aI (xs (i + 1)), aI (xs (i + 2))]) (st' := [aI v]) (v := v) (h1 := h2) (show decode code 428 = .ok (.invokevirtual 52, 3) by decide +kernel) (by decide) rfl rfl rfl (by decide +kernel) rfl rfl (by rw [s1]; exact hM) rfl e2 (by rw [s2]; exact hz1) (by rw [s2]; exact hz2) ?_
  refine la_eq X (tgt := 960) (show decode code 431 = .ok (.if_icmp .eq 529, 3) by decide +kernel) (by decide) ?_
  exact kk h2 hI2
theorem la_case8 (X : LCX p s m meth c D ad av b L xs) {I : Nat → AH → Prop} {k : Nat} (hi : i + 6 ≤ L) (hk : k < 512) (hI : I k h) (hA : h.1[0]? = some (4, 10)) (hM : h.1[mi]? = some (4, 11)) (hz1 : h.1.length ≤ 600000) (hz2 : tsz h.1 ≤ 7302250) (hsh : ∀ k h2, I k h2 → h2.1 = h.1) (hp : STP I mi k_X_change k_M_change [aI (xs (i + 1)), aI (xs (i + 2)), aI (xs (i + 3))]) (kk : ∀ h2, I (k + 1) h2 → LSM p l e s m below meth c D ad b 960 [aS 9, aR (some 0), aR (some mi), aI (nI i)] [] h2) : LSM p l e s m below meth c D ad b 436 [aS 9, aR (some 0), aR (some mi), aI (nI i)] [] h := by
  obtain ⟨v, h1, h2, e1, s1, e2, hI2⟩ := hp k h hk hI
  have s2 := hsh _ _ hI2
  refine la_x X (show decode code 436 = .ok (.aload_n 1, 1) by decide +kernel) ?_
  refine la_arg X (j := 1) (by decide) hi (show dq 437 [(.aload_n 0, 1), (.iload_n 3, 1), (.iconst 1, 1), (.iadd, 1), (.iaload, 1)] = true by decide +kernel) ?_
  refine la_arg X (j := 2) (by decide) hi (show dq 442 [(.aload_n 0, 1), (.iload_n 3, 1), (.iconst 2, 1), (.iadd, 1), (.iaload, 1)] = true by decide +kernel) ?_
  refine la_arg X (j := 3) (by decide) hi (show dq 447 [(.aload_n 0, 1), (.iload_n 3, 1), (.iconst 3, 1), (.iadd, 1), (.iaload, 1)] = true by decide +kernel) ?_
  refine la_call X (key := k_X_change) (n := 4) (ci := 10) (a := 0) (as := [aI (xs (i + 1)), aI (xs (i + 2)), aI (xs (i + 3))]) (st' := []) (v := v) (h1 := h1) (show decode code 452 = .ok (.invokevirtual 53, 3) by decide +kernel) (by decide) rfl rfl rfl (by decide +kernel) rfl rfl hA rfl e1 (by rw [s1]; exact hz1) (by rw [s1]; exact hz2) ?_
  refine la_m X (show decode code 455 = .ok (.aload_n 2, 1) by decide +kernel) ?_
  refine la_arg X (j := 1) (by decide) hi (show dq 456 [(.aload_n 0, 1), (.iload_n 3, 1), (.iconst 1, 1), (.iadd, 1), (.iaload, 1)] = true by decide +kernel) ?_
  refine la_arg X (j := 2) (by decide) hi (show dq 461 [(.aload_n 0, 1), (.iload_n 3, 1), (.iconst 2, 1), (.iadd, 1), (.iaload, 1)] = true by decide +kernel) ?_
  refine la_arg X (j := 3) (by decide) hi (show dq 466 [(.aload_n 0, 1), (.iload_n 3, 1), (.iconst 3, 1), (.iadd, 1), (.iaload, 1)] = true by decide +kernel) ?_
  refine la_call X (key := k_M_change) (n := 4) (ci := 11) (a := mi) (as := [aI (xs (i + 1)), aI (xs (i + 2)), aI (xs (i + 3))]) (st' := [aI v]) (v := v) (h1 := h2) (show decode code 471 = .ok (.invokevirtual 56, 3) by decide +kernel) (by decide) rfl rfl rfl (by decide +kernel) rfl rfl (by rw [s1]; exact hM) rfl e2 (by rw [s2]; exact hz1) (by rw [s2]; exact hz2) ?_
  refine la_eq X (tgt := 960) (show decode code 474 = .ok (.if_icmp .eq 486, 3) by decide +kernel) (by decide) ?_
  exact kk h2 hI2
theorem la_case9 (X : LCX p s m meth c D ad av b L xs) {I : Nat → AH → Prop} {k : Nat} (hi : i + 6 ≤ L) (hk : k < 512) (hI : I k h) (hA : h.1[0]? = some (4, 10)) (hM : h.1[mi]? = some (4, 11)) (hz1 : h.1.length ≤ 600000) (hz2 : tsz h.1 ≤ 7302250) (hsh : ∀ k h2, I k h2 → h2.1 = h.1) (hp : STP I mi k_X_hush k_M_hush []) (kk : ∀ h2, I (k + 1) h2 → LSM p l e s m below meth c D ad b 960 [aS 9, aR (some 0), aR (some mi), aI (nI i)] [] h2) : LSM p l e s m below meth c D ad b 479 [aS 9, aR (some 0), aR (some mi), aI (nI i)] [] h := by
  obtain ⟨v, h1, h2, e1, s1, e2, hI2⟩ := hp k h hk hI
  have s2 := hsh _ _ hI2
  refine la_x X (show decode code 479 = .ok (.aload_n 1, 1) by decide +kernel) ?_
  refine la_call X (key := k_X_hush) (n := 1) (ci := 10) (a := 0) (as := []) (st' := []) (v := v) (h1 := h1) (show decode code 480 = .ok (.invokevirtual 57, 3) by decide +kernel) (by decide) rfl rfl rfl (by decide +kernel) rfl rfl hA rfl e1 (by rw [s1]; exact hz1) (by rw [s1]; exact hz2) ?_
  refine la_m X (show decode code 483 = .ok (.aload_n 2, 1) by decide +kernel) ?_
  refine la_call X (key := k_M_hush) (n := 1) (ci := 11) (a := mi) (as := []) (st' := [aI v]) (v := v) (h1 := h2) (show decode code 484 = .ok (.invokevirtual 60, 3) by decide +kernel) (by decide) rfl rfl rfl (by decide +kernel) rfl rfl (by rw [s1]; exact hM) rfl e2 (by rw [s2]; exact hz1) (by rw [s2]; exact hz2) ?_
  refine la_eq X (tgt := 960) (show decode code 487 = .ok (.if_icmp .eq 473, 3) by decide +kernel) (by decide) ?_
  exact kk h2 hI2
theorem la_case10 (X : LCX p s m meth c D ad av b L xs) {I : Nat → AH → Prop} {k : Nat} (hi : i + 6 ≤ L) (hk : k < 512) (hI : I k h) (hA : h.1[0]? = some (4, 10)) (hM : h.1[mi]? = some (4, 11)) (hz1 : h.1.length ≤ 600000) (hz2 : tsz h.1 ≤ 7302250) (hsh : ∀ k h2, I k h2 → h2.1 = h.1) (hp : STP I mi k_X_taken k_M_taken [aI (xs (i + 1))]) (kk : ∀ h2, I (k + 1) h2 → LSM p l e s m below meth c D ad b 960 [aS 9, aR (some 0), aR (some mi), aI (nI i)] [] h2) : LSM p l e s m below meth c D ad b 492 [aS 9, aR (some 0), aR (some mi), aI (nI i)] [] h := by
  obtain ⟨v, h1, h2, e1, s1, e2, hI2⟩ := hp k h hk hI
  have s2 := hsh _ _ hI2
  refine la_x X (show decode code 492 = .ok (.aload_n 1, 1) by decide +kernel) ?_
  refine la_arg X (j := 1) (by decide) hi (show dq 493 [(.aload_n 0, 1), (.iload_n 3, 1), (.iconst 1, 1), (.iadd, 1), (.iaload, 1)] = true by decide +kernel) ?_
  refine la_call X (key := k_X_taken) (n := 2) (ci := 10) (a := 0) (as := [aI (xs (i + 1))]) (st' := []) (v := v) (h1 := h1) (show decode code 498 = .ok (.invokevirtual 61, 3) by decide +kernel) (by decide) rfl rfl rfl (by decide +kernel) rfl rfl hA rfl e1 (by rw [s1]; exact hz1) (by rw [s1]; exact hz2) ?_
  refine la_m X (show decode code 501 = .ok (.aload_n 2, 1) by decide +kernel) ?_
  refine la_arg X (j := 1) (by decide) hi (show dq 502 [(.aload_n 0, 1), (.iload_n 3, 1), (.iconst 1, 1), (.iadd, 1), (.iaload, 1)] = true by decide +kernel) ?_
  refine la_call X (key := k_M_taken) (n := 2) (ci := 11) (a := mi) (as := [aI (xs (i + 1))]) (st' := [aI v]) (v := v) (h1 := h2) (show decode code 507 = .ok (.invokevirtual 64, 3) by decide +kernel) (by decide) rfl rfl rfl (by decide +kernel) rfl rfl (by rw [s1]; exact hM) rfl e2 (by rw [s2]; exact hz1) (by rw [s2]; exact hz2) ?_
  refine la_eq X (tgt := 960) (show decode code 510 = .ok (.if_icmp .eq 450, 3) by decide +kernel) (by decide) ?_
  exact kk h2 hI2
theorem la_case11 (X : LCX p s m meth c D ad av b L xs) {I : Nat → AH → Prop} {k : Nat} (hi : i + 6 ≤ L) (hk : k < 512) (hI : I k h) (hA : h.1[0]? = some (4, 10)) (hM : h.1[mi]? = some (4, 11)) (hz1 : h.1.length ≤ 600000) (hz2 : tsz h.1 ≤ 7302250) (hsh : ∀ k h2, I k h2 → h2.1 = h.1) (hp : STP I mi k_X_may k_M_may [aI (xs (i + 1)), aI (xs (i + 2))]) (kk : ∀ h2, I (k + 1) h2 → LSM p l e s m below meth c D ad b 960 [aS 9, aR (some 0), aR (some mi), aI (nI i)] [] h2) : LSM p l e s m below meth c D ad b 515 [aS 9, aR (some 0), aR (some mi), aI (nI i)] [] h := by
  obtain ⟨v, h1, h2, e1, s1, e2, hI2⟩ := hp k h hk hI
  have s2 := hsh _ _ hI2
  refine la_x X (show decode code 515 = .ok (.aload_n 1, 1) by decide +kernel) ?_
  refine la_arg X (j := 1) (by decide) hi (show dq 516 [(.aload_n 0, 1), (.iload_n 3, 1), (.iconst 1, 1), (.iadd, 1), (.iaload, 1)] = true by decide +kernel) ?_
  refine la_arg X (j := 2) (by decide) hi (show dq 521 [(.aload_n 0, 1), (.iload_n 3, 1), (.iconst 2, 1), (.iadd, 1), (.iaload, 1)] = true by decide +kernel) ?_
  refine la_call X (key := k_X_may) (n := 3) (ci := 10) (a := 0) (as := [aI (xs (i + 1)), aI (xs (i + 2))]) (st' := []) (v := v) (h1 := h1) (show decode code 526 = .ok (.invokevirtual 65, 3) by decide +kernel) (by decide) rfl rfl rfl (by decide +kernel) rfl rfl hA rfl e1 (by rw [s1]; exact hz1) (by rw [s1]; exact hz2) ?_
  refine la_m X (show decode code 529 = .ok (.aload_n 2, 1) by decide +kernel) ?_
  refine la_arg X (j := 1) (by decide) hi (show dq 530 [(.aload_n 0, 1), (.iload_n 3, 1), (.iconst 1, 1), (.iadd, 1), (.iaload, 1)] = true by decide +kernel) ?_
  refine la_arg X (j := 2) (by decide) hi (show dq 535 [(.aload_n 0, 1), (.iload_n 3, 1), (.iconst 2, 1), (.iadd, 1), (.iaload, 1)] = true by decide +kernel) ?_
  refine la_call X (key := k_M_may) (n := 3) (ci := 11) (a := mi) (as := [aI (xs (i + 1)), aI (xs (i + 2))]) (st' := [aI v]) (v := v) (h1 := h2) (show decode code 540 = .ok (.invokevirtual 68, 3) by decide +kernel) (by decide) rfl rfl rfl (by decide +kernel) rfl rfl (by rw [s1]; exact hM) rfl e2 (by rw [s2]; exact hz1) (by rw [s2]; exact hz2) ?_
  refine la_eq X (tgt := 960) (show decode code 543 = .ok (.if_icmp .eq 417, 3) by decide +kernel) (by decide) ?_
  exact kk h2 hI2
theorem la_case12 (X : LCX p s m meth c D ad av b L xs) {I : Nat → AH → Prop} {k : Nat} (hi : i + 6 ≤ L) (hk : k < 512) (hI : I k h) (hA : h.1[0]? = some (4, 10)) (hM : h.1[mi]? = some (4, 11)) (hz1 : h.1.length ≤ 600000) (hz2 : tsz h.1 ≤ 7302250) (hsh : ∀ k h2, I k h2 → h2.1 = h.1) (hp : STP I mi k_X_runs k_M_runs [aI (xs (i + 1))]) (kk : ∀ h2, I (k + 1) h2 → LSM p l e s m below meth c D ad b 960 [aS 9, aR (some 0), aR (some mi), aI (nI i)] [] h2) : LSM p l e s m below meth c D ad b 548 [aS 9, aR (some 0), aR (some mi), aI (nI i)] [] h := by
  obtain ⟨v, h1, h2, e1, s1, e2, hI2⟩ := hp k h hk hI
  have s2 := hsh _ _ hI2
  refine la_x X (show decode code 548 = .ok (.aload_n 1, 1) by decide +kernel) ?_
  refine la_arg X (j := 1) (by decide) hi (show dq 549 [(.aload_n 0, 1), (.iload_n 3, 1), (.iconst 1, 1), (.iadd, 1), (.iaload, 1)] = true by decide +kernel) ?_
  refine la_call X (key := k_X_runs) (n := 2) (ci := 10) (a := 0) (as := [aI (xs (i + 1))]) (st' := []) (v := v) (h1 := h1) (show decode code 554 = .ok (.invokevirtual 69, 3) by decide +kernel) (by decide) rfl rfl rfl (by decide +kernel) rfl rfl hA rfl e1 (by rw [s1]; exact hz1) (by rw [s1]; exact hz2) ?_
  refine la_m X (show decode code 557 = .ok (.aload_n 2, 1) by decide +kernel) ?_
  refine la_arg X (j := 1) (by decide) hi (show dq 558 [(.aload_n 0, 1), (.iload_n 3, 1), (.iconst 1, 1), (.iadd, 1), (.iaload, 1)] = true by decide +kernel) ?_
  refine la_call X (key := k_M_runs) (n := 2) (ci := 11) (a := mi) (as := [aI (xs (i + 1))]) (st' := [aI v]) (v := v) (h1 := h2) (show decode code 563 = .ok (.invokevirtual 72, 3) by decide +kernel) (by decide) rfl rfl rfl (by decide +kernel) rfl rfl (by rw [s1]; exact hM) rfl e2 (by rw [s2]; exact hz1) (by rw [s2]; exact hz2) ?_
  refine la_eq X (tgt := 960) (show decode code 566 = .ok (.if_icmp .eq 394, 3) by decide +kernel) (by decide) ?_
  exact kk h2 hI2
theorem la_case13 (X : LCX p s m meth c D ad av b L xs) {I : Nat → AH → Prop} {k : Nat} (hi : i + 6 ≤ L) (hk : k < 512) (hI : I k h) (hA : h.1[0]? = some (4, 10)) (hM : h.1[mi]? = some (4, 11)) (hz1 : h.1.length ≤ 600000) (hz2 : tsz h.1 ≤ 7302250) (hsh : ∀ k h2, I k h2 → h2.1 = h.1) (hp : STP I mi k_X_run k_M_run [aI (xs (i + 1)), aI (xs (i + 2))]) (kk : ∀ h2, I (k + 1) h2 → LSM p l e s m below meth c D ad b 960 [aS 9, aR (some 0), aR (some mi), aI (nI i)] [] h2) : LSM p l e s m below meth c D ad b 571 [aS 9, aR (some 0), aR (some mi), aI (nI i)] [] h := by
  obtain ⟨v, h1, h2, e1, s1, e2, hI2⟩ := hp k h hk hI
  have s2 := hsh _ _ hI2
  refine la_x X (show decode code 571 = .ok (.aload_n 1, 1) by decide +kernel) ?_
  refine la_arg X (j := 1) (by decide) hi (show dq 572 [(.aload_n 0, 1), (.iload_n 3, 1), (.iconst 1, 1), (.iadd, 1), (.iaload, 1)] = true by decide +kernel) ?_
  refine la_arg X (j := 2) (by decide) hi (show dq 577 [(.aload_n 0, 1), (.iload_n 3, 1), (.iconst 2, 1), (.iadd, 1), (.iaload, 1)] = true by decide +kernel) ?_
  refine la_call X (key := k_X_run) (n := 3) (ci := 10) (a := 0) (as := [aI (xs (i + 1)), aI (xs (i + 2))]) (st' := []) (v := v) (h1 := h1) (show decode code 582 = .ok (.invokevirtual 73, 3) by decide +kernel) (by decide) rfl rfl rfl (by decide +kernel) rfl rfl hA rfl e1 (by rw [s1]; exact hz1) (by rw [s1]; exact hz2) ?_
  refine la_m X (show decode code 585 = .ok (.aload_n 2, 1) by decide +kernel) ?_
  refine la_arg X (j := 1) (by decide) hi (show dq 586 [(.aload_n 0, 1), (.iload_n 3, 1), (.iconst 1, 1), (.iadd, 1), (.iaload, 1)] = true by decide +kernel) ?_
  refine la_arg X (j := 2) (by decide) hi (show dq 591 [(.aload_n 0, 1), (.iload_n 3, 1), (.iconst 2, 1), (.iadd, 1), (.iaload, 1)] = true by decide +kernel) ?_
  refine la_call X (key := k_M_run) (n := 3) (ci := 11) (a := mi) (as := [aI (xs (i + 1)), aI (xs (i + 2))]) (st' := [aI v]) (v := v) (h1 := h2) (show decode code 596 = .ok (.invokevirtual 76, 3) by decide +kernel) (by decide) rfl rfl rfl (by decide +kernel) rfl rfl (by rw [s1]; exact hM) rfl e2 (by rw [s2]; exact hz1) (by rw [s2]; exact hz2) ?_
  refine la_eq X (tgt := 960) (show decode code 599 = .ok (.if_icmp .eq 361, 3) by decide +kernel) (by decide) ?_
  exact kk h2 hI2
theorem la_case14 (X : LCX p s m meth c D ad av b L xs) {I : Nat → AH → Prop} {k : Nat} (hi : i + 6 ≤ L) (hk : k < 512) (hI : I k h) (hA : h.1[0]? = some (4, 10)) (hM : h.1[mi]? = some (4, 11)) (hz1 : h.1.length ≤ 600000) (hz2 : tsz h.1 ≤ 7302250) (hsh : ∀ k h2, I k h2 → h2.1 = h.1) (hp : STP I mi k_X_shapes k_M_shapes [aI (xs (i + 1)), aI (xs (i + 2)), aI (xs (i + 3))]) (kk : ∀ h2, I (k + 1) h2 → LSM p l e s m below meth c D ad b 960 [aS 9, aR (some 0), aR (some mi), aI (nI i)] [] h2) : LSM p l e s m below meth c D ad b 604 [aS 9, aR (some 0), aR (some mi), aI (nI i)] [] h := by
  obtain ⟨v, h1, h2, e1, s1, e2, hI2⟩ := hp k h hk hI
  have s2 := hsh _ _ hI2
  refine la_x X (show decode code 604 = .ok (.aload_n 1, 1) by decide +kernel) ?_
  refine la_arg X (j := 1) (by decide) hi (show dq 605 [(.aload_n 0, 1), (.iload_n 3, 1), (.iconst 1, 1), (.iadd, 1), (.iaload, 1)] = true by decide +kernel) ?_
  refine la_arg X (j := 2) (by decide) hi (show dq 610 [(.aload_n 0, 1), (.iload_n 3, 1), (.iconst 2, 1), (.iadd, 1), (.iaload, 1)] = true by decide +kernel) ?_
  refine la_arg X (j := 3) (by decide) hi (show dq 615 [(.aload_n 0, 1), (.iload_n 3, 1), (.iconst 3, 1), (.iadd, 1), (.iaload, 1)] = true by decide +kernel) ?_
  refine la_call X (key := k_X_shapes) (n := 4) (ci := 10) (a := 0) (as := [aI (xs (i + 1)), aI (xs (i + 2)), aI (xs (i + 3))]) (st' := []) (v := v) (h1 := h1) (show decode code 620 = .ok (.invokevirtual 77, 3) by decide +kernel) (by decide) rfl rfl rfl (by decide +kernel) rfl rfl hA rfl e1 (by rw [s1]; exact hz1) (by rw [s1]; exact hz2) ?_
  refine la_m X (show decode code 623 = .ok (.aload_n 2, 1) by decide +kernel) ?_
  refine la_arg X (j := 1) (by decide) hi (show dq 624 [(.aload_n 0, 1), (.iload_n 3, 1), (.iconst 1, 1), (.iadd, 1), (.iaload, 1)] = true by decide +kernel) ?_
  refine la_arg X (j := 2) (by decide) hi (show dq 629 [(.aload_n 0, 1), (.iload_n 3, 1), (.iconst 2, 1), (.iadd, 1), (.iaload, 1)] = true by decide +kernel) ?_
  refine la_arg X (j := 3) (by decide) hi (show dq 634 [(.aload_n 0, 1), (.iload_n 3, 1), (.iconst 3, 1), (.iadd, 1), (.iaload, 1)] = true by decide +kernel) ?_
  refine la_call X (key := k_M_shapes) (n := 4) (ci := 11) (a := mi) (as := [aI (xs (i + 1)), aI (xs (i + 2)), aI (xs (i + 3))]) (st' := [aI v]) (v := v) (h1 := h2) (show decode code 639 = .ok (.invokevirtual 80, 3) by decide +kernel) (by decide) rfl rfl rfl (by decide +kernel) rfl rfl (by rw [s1]; exact hM) rfl e2 (by rw [s2]; exact hz1) (by rw [s2]; exact hz2) ?_
  refine la_eq X (tgt := 960) (show decode code 642 = .ok (.if_icmp .eq 318, 3) by decide +kernel) (by decide) ?_
  exact kk h2 hI2
theorem la_case15 (X : LCX p s m meth c D ad av b L xs) {I : Nat → AH → Prop} {k : Nat} (hi : i + 6 ≤ L) (hk : k < 512) (hI : I k h) (hA : h.1[0]? = some (4, 10)) (hM : h.1[mi]? = some (4, 11)) (hz1 : h.1.length ≤ 600000) (hz2 : tsz h.1 ≤ 7302250) (hsh : ∀ k h2, I k h2 → h2.1 = h.1) (hp : STP I mi k_X_shape k_M_shape [aI (xs (i + 1)), aI (xs (i + 2)), aI (xs (i + 3)), aI (xs (i + 4)), aI (xs (i + 5))]) (kk : ∀ h2, I (k + 1) h2 → LSM p l e s m below meth c D ad b 960 [aS 9, aR (some 0), aR (some mi), aI (nI i)] [] h2) : LSM p l e s m below meth c D ad b 647 [aS 9, aR (some 0), aR (some mi), aI (nI i)] [] h := by
  obtain ⟨v, h1, h2, e1, s1, e2, hI2⟩ := hp k h hk hI
  have s2 := hsh _ _ hI2
  refine la_x X (show decode code 647 = .ok (.aload_n 1, 1) by decide +kernel) ?_
  refine la_arg X (j := 1) (by decide) hi (show dq 648 [(.aload_n 0, 1), (.iload_n 3, 1), (.iconst 1, 1), (.iadd, 1), (.iaload, 1)] = true by decide +kernel) ?_
  refine la_arg X (j := 2) (by decide) hi (show dq 653 [(.aload_n 0, 1), (.iload_n 3, 1), (.iconst 2, 1), (.iadd, 1), (.iaload, 1)] = true by decide +kernel) ?_
  refine la_arg X (j := 3) (by decide) hi (show dq 658 [(.aload_n 0, 1), (.iload_n 3, 1), (.iconst 3, 1), (.iadd, 1), (.iaload, 1)] = true by decide +kernel) ?_
  refine la_arg X (j := 4) (by decide) hi (show dq 663 [(.aload_n 0, 1), (.iload_n 3, 1), (.iconst 4, 1), (.iadd, 1), (.iaload, 1)] = true by decide +kernel) ?_
  refine la_arg X (j := 5) (by decide) hi (show dq 668 [(.aload_n 0, 1), (.iload_n 3, 1), (.iconst 5, 1), (.iadd, 1), (.iaload, 1)] = true by decide +kernel) ?_
  refine la_call X (key := k_X_shape) (n := 6) (ci := 10) (a := 0) (as := [aI (xs (i + 1)), aI (xs (i + 2)), aI (xs (i + 3)), aI (xs (i + 4)), aI (xs (i + 5))]) (st' := []) (v := v) (h1 := h1) (show decode code 673 = .ok (.invokevirtual 81, 3) by decide +kernel) (by decide) rfl rfl rfl (by decide +kernel) rfl rfl hA rfl e1 (by rw [s1]; exact hz1) (by rw [s1]; exact hz2) ?_
  refine la_m X (show decode code 676 = .ok (.aload_n 2, 1) by decide +kernel) ?_
  refine la_arg X (j := 1) (by decide) hi (show dq 677 [(.aload_n 0, 1), (.iload_n 3, 1), (.iconst 1, 1), (.iadd, 1), (.iaload, 1)] = true by decide +kernel) ?_
  refine la_arg X (j := 2) (by decide) hi (show dq 682 [(.aload_n 0, 1), (.iload_n 3, 1), (.iconst 2, 1), (.iadd, 1), (.iaload, 1)] = true by decide +kernel) ?_
  refine la_arg X (j := 3) (by decide) hi (show dq 687 [(.aload_n 0, 1), (.iload_n 3, 1), (.iconst 3, 1), (.iadd, 1), (.iaload, 1)] = true by decide +kernel) ?_
  refine la_arg X (j := 4) (by decide) hi (show dq 692 [(.aload_n 0, 1), (.iload_n 3, 1), (.iconst 4, 1), (.iadd, 1), (.iaload, 1)] = true by decide +kernel) ?_
  refine la_arg X (j := 5) (by decide) hi (show dq 697 [(.aload_n 0, 1), (.iload_n 3, 1), (.iconst 5, 1), (.iadd, 1), (.iaload, 1)] = true by decide +kernel) ?_
  refine la_call X (key := k_M_shape) (n := 6) (ci := 11) (a := mi) (as := [aI (xs (i + 1)), aI (xs (i + 2)), aI (xs (i + 3)), aI (xs (i + 4)), aI (xs (i + 5))]) (st' := [aI v]) (v := v) (h1 := h2) (show decode code 702 = .ok (.invokevirtual 85, 3) by decide +kernel) (by decide) rfl rfl rfl (by decide +kernel) rfl rfl (by rw [s1]; exact hM) rfl e2 (by rw [s2]; exact hz1) (by rw [s2]; exact hz2) ?_
  refine la_eq X (tgt := 960) (show decode code 705 = .ok (.if_icmp .eq 255, 3) by decide +kernel) (by decide) ?_
  exact kk h2 hI2
theorem la_case16 (X : LCX p s m meth c D ad av b L xs) {I : Nat → AH → Prop} {k : Nat} (hi : i + 6 ≤ L) (hk : k < 512) (hI : I k h) (hA : h.1[0]? = some (4, 10)) (hM : h.1[mi]? = some (4, 11)) (hz1 : h.1.length ≤ 600000) (hz2 : tsz h.1 ≤ 7302250) (hsh : ∀ k h2, I k h2 → h2.1 = h.1) (hp : STP I mi k_X_least k_M_least [aI (xs (i + 1))]) (kk : ∀ h2, I (k + 1) h2 → LSM p l e s m below meth c D ad b 960 [aS 9, aR (some 0), aR (some mi), aI (nI i)] [] h2) : LSM p l e s m below meth c D ad b 710 [aS 9, aR (some 0), aR (some mi), aI (nI i)] [] h := by
  obtain ⟨v, h1, h2, e1, s1, e2, hI2⟩ := hp k h hk hI
  have s2 := hsh _ _ hI2
  refine la_x X (show decode code 710 = .ok (.aload_n 1, 1) by decide +kernel) ?_
  refine la_arg X (j := 1) (by decide) hi (show dq 711 [(.aload_n 0, 1), (.iload_n 3, 1), (.iconst 1, 1), (.iadd, 1), (.iaload, 1)] = true by decide +kernel) ?_
  refine la_call X (key := k_X_least) (n := 2) (ci := 10) (a := 0) (as := [aI (xs (i + 1))]) (st' := []) (v := v) (h1 := h1) (show decode code 716 = .ok (.invokevirtual 86, 3) by decide +kernel) (by decide) rfl rfl rfl (by decide +kernel) rfl rfl hA rfl e1 (by rw [s1]; exact hz1) (by rw [s1]; exact hz2) ?_
  refine la_m X (show decode code 719 = .ok (.aload_n 2, 1) by decide +kernel) ?_
  refine la_arg X (j := 1) (by decide) hi (show dq 720 [(.aload_n 0, 1), (.iload_n 3, 1), (.iconst 1, 1), (.iadd, 1), (.iaload, 1)] = true by decide +kernel) ?_
  refine la_call X (key := k_M_least) (n := 2) (ci := 11) (a := mi) (as := [aI (xs (i + 1))]) (st' := [aI v]) (v := v) (h1 := h2) (show decode code 725 = .ok (.invokevirtual 89, 3) by decide +kernel) (by decide) rfl rfl rfl (by decide +kernel) rfl rfl (by rw [s1]; exact hM) rfl e2 (by rw [s2]; exact hz1) (by rw [s2]; exact hz2) ?_
  refine la_eq X (tgt := 960) (show decode code 728 = .ok (.if_icmp .eq 232, 3) by decide +kernel) (by decide) ?_
  exact kk h2 hI2
theorem la_case17 (X : LCX p s m meth c D ad av b L xs) {I : Nat → AH → Prop} {k : Nat} (hi : i + 6 ≤ L) (hk : k < 512) (hI : I k h) (hA : h.1[0]? = some (4, 10)) (hM : h.1[mi]? = some (4, 11)) (hz1 : h.1.length ≤ 600000) (hz2 : tsz h.1 ≤ 7302250) (hsh : ∀ k h2, I k h2 → h2.1 = h.1) (hp : STP I mi k_X_first k_M_first [aI (xs (i + 1)), aI (xs (i + 2))]) (kk : ∀ h2, I (k + 1) h2 → LSM p l e s m below meth c D ad b 960 [aS 9, aR (some 0), aR (some mi), aI (nI i)] [] h2) : LSM p l e s m below meth c D ad b 733 [aS 9, aR (some 0), aR (some mi), aI (nI i)] [] h := by
  obtain ⟨v, h1, h2, e1, s1, e2, hI2⟩ := hp k h hk hI
  have s2 := hsh _ _ hI2
  refine la_x X (show decode code 733 = .ok (.aload_n 1, 1) by decide +kernel) ?_
  refine la_arg X (j := 1) (by decide) hi (show dq 734 [(.aload_n 0, 1), (.iload_n 3, 1), (.iconst 1, 1), (.iadd, 1), (.iaload, 1)] = true by decide +kernel) ?_
  refine la_arg X (j := 2) (by decide) hi (show dq 739 [(.aload_n 0, 1), (.iload_n 3, 1), (.iconst 2, 1), (.iadd, 1), (.iaload, 1)] = true by decide +kernel) ?_
  refine la_call X (key := k_X_first) (n := 3) (ci := 10) (a := 0) (as := [aI (xs (i + 1)), aI (xs (i + 2))]) (st' := []) (v := v) (h1 := h1) (show decode code 744 = .ok (.invokevirtual 90, 3) by decide +kernel) (by decide) rfl rfl rfl (by decide +kernel) rfl rfl hA rfl e1 (by rw [s1]; exact hz1) (by rw [s1]; exact hz2) ?_
  refine la_m X (show decode code 747 = .ok (.aload_n 2, 1) by decide +kernel) ?_
  refine la_arg X (j := 1) (by decide) hi (show dq 748 [(.aload_n 0, 1), (.iload_n 3, 1), (.iconst 1, 1), (.iadd, 1), (.iaload, 1)] = true by decide +kernel) ?_
  refine la_arg X (j := 2) (by decide) hi (show dq 753 [(.aload_n 0, 1), (.iload_n 3, 1), (.iconst 2, 1), (.iadd, 1), (.iaload, 1)] = true by decide +kernel) ?_
  refine la_call X (key := k_M_first) (n := 3) (ci := 11) (a := mi) (as := [aI (xs (i + 1)), aI (xs (i + 2))]) (st' := [aI v]) (v := v) (h1 := h2) (show decode code 758 = .ok (.invokevirtual 93, 3) by decide +kernel) (by decide) rfl rfl rfl (by decide +kernel) rfl rfl (by rw [s1]; exact hM) rfl e2 (by rw [s2]; exact hz1) (by rw [s2]; exact hz2) ?_
  refine la_eq X (tgt := 960) (show decode code 761 = .ok (.if_icmp .eq 199, 3) by decide +kernel) (by decide) ?_
  exact kk h2 hI2
theorem la_case18 (X : LCX p s m meth c D ad av b L xs) {I : Nat → AH → Prop} {k : Nat} (hi : i + 6 ≤ L) (hk : k < 512) (hI : I k h) (hA : h.1[0]? = some (4, 10)) (hM : h.1[mi]? = some (4, 11)) (hz1 : h.1.length ≤ 600000) (hz2 : tsz h.1 ≤ 7302250) (hsh : ∀ k h2, I k h2 → h2.1 = h.1) (hp : STP I mi k_X_useless k_M_useless [aI (xs (i + 1))]) (kk : ∀ h2, I (k + 1) h2 → LSM p l e s m below meth c D ad b 960 [aS 9, aR (some 0), aR (some mi), aI (nI i)] [] h2) : LSM p l e s m below meth c D ad b 766 [aS 9, aR (some 0), aR (some mi), aI (nI i)] [] h := by
  obtain ⟨v, h1, h2, e1, s1, e2, hI2⟩ := hp k h hk hI
  have s2 := hsh _ _ hI2
  refine la_x X (show decode code 766 = .ok (.aload_n 1, 1) by decide +kernel) ?_
  refine la_arg X (j := 1) (by decide) hi (show dq 767 [(.aload_n 0, 1), (.iload_n 3, 1), (.iconst 1, 1), (.iadd, 1), (.iaload, 1)] = true by decide +kernel) ?_
  refine la_call X (key := k_X_useless) (n := 2) (ci := 10) (a := 0) (as := [aI (xs (i + 1))]) (st' := []) (v := v) (h1 := h1) (show decode code 772 = .ok (.invokevirtual 94, 3) by decide +kernel) (by decide) rfl rfl rfl (by decide +kernel) rfl rfl hA rfl e1 (by rw [s1]; exact hz1) (by rw [s1]; exact hz2) ?_
  refine la_m X (show decode code 775 = .ok (.aload_n 2, 1) by decide +kernel) ?_
  refine la_arg X (j := 1) (by decide) hi (show dq 776 [(.aload_n 0, 1), (.iload_n 3, 1), (.iconst 1, 1), (.iadd, 1), (.iaload, 1)] = true by decide +kernel) ?_
  refine la_call X (key := k_M_useless) (n := 2) (ci := 11) (a := mi) (as := [aI (xs (i + 1))]) (st' := [aI v]) (v := v) (h1 := h2) (show decode code 781 = .ok (.invokevirtual 97, 3) by decide +kernel) (by decide) rfl rfl rfl (by decide +kernel) rfl rfl (by rw [s1]; exact hM) rfl e2 (by rw [s2]; exact hz1) (by rw [s2]; exact hz2) ?_
  refine la_eq X (tgt := 960) (show decode code 784 = .ok (.if_icmp .eq 176, 3) by decide +kernel) (by decide) ?_
  exact kk h2 hI2
theorem la_case19 (X : LCX p s m meth c D ad av b L xs) {I : Nat → AH → Prop} {k : Nat} (hi : i + 6 ≤ L) (hk : k < 512) (hI : I k h) (hA : h.1[0]? = some (4, 10)) (hM : h.1[mi]? = some (4, 11)) (hz1 : h.1.length ≤ 600000) (hz2 : tsz h.1 ≤ 7302250) (hsh : ∀ k h2, I k h2 → h2.1 = h.1) (hp : STP I mi k_X_twofold k_M_twofold [aI (xs (i + 1))]) (kk : ∀ h2, I (k + 1) h2 → LSM p l e s m below meth c D ad b 960 [aS 9, aR (some 0), aR (some mi), aI (nI i)] [] h2) : LSM p l e s m below meth c D ad b 789 [aS 9, aR (some 0), aR (some mi), aI (nI i)] [] h := by
  obtain ⟨v, h1, h2, e1, s1, e2, hI2⟩ := hp k h hk hI
  have s2 := hsh _ _ hI2
  refine la_x X (show decode code 789 = .ok (.aload_n 1, 1) by decide +kernel) ?_
  refine la_arg X (j := 1) (by decide) hi (show dq 790 [(.aload_n 0, 1), (.iload_n 3, 1), (.iconst 1, 1), (.iadd, 1), (.iaload, 1)] = true by decide +kernel) ?_
  refine la_call X (key := k_X_twofold) (n := 2) (ci := 10) (a := 0) (as := [aI (xs (i + 1))]) (st' := []) (v := v) (h1 := h1) (show decode code 795 = .ok (.invokevirtual 98, 3) by decide +kernel) (by decide) rfl rfl rfl (by decide +kernel) rfl rfl hA rfl e1 (by rw [s1]; exact hz1) (by rw [s1]; exact hz2) ?_
  refine la_m X (show decode code 798 = .ok (.aload_n 2, 1) by decide +kernel) ?_
  refine la_arg X (j := 1) (by decide) hi (show dq 799 [(.aload_n 0, 1), (.iload_n 3, 1), (.iconst 1, 1), (.iadd, 1), (.iaload, 1)] = true by decide +kernel) ?_
  refine la_call X (key := k_M_twofold) (n := 2) (ci := 11) (a := mi) (as := [aI (xs (i + 1))]) (st' := [aI v]) (v := v) (h1 := h2) (show decode code 804 = .ok (.invokevirtual 101, 3) by decide +kernel) (by decide) rfl rfl rfl (by decide +kernel) rfl rfl (by rw [s1]; exact hM) rfl e2 (by rw [s2]; exact hz1) (by rw [s2]; exact hz2) ?_
  refine la_eq X (tgt := 960) (show decode code 807 = .ok (.if_icmp .eq 153, 3) by decide +kernel) (by decide) ?_
  exact kk h2 hI2
theorem la_case20 (X : LCX p s m meth c D ad av b L xs) {I : Nat → AH → Prop} {k : Nat} (hi : i + 6 ≤ L) (hk : k < 512) (hI : I k h) (hA : h.1[0]? = some (4, 10)) (hM : h.1[mi]? = some (4, 11)) (hz1 : h.1.length ≤ 600000) (hz2 : tsz h.1 ≤ 7302250) (hsh : ∀ k h2, I k h2 → h2.1 = h.1) (hp : STP I mi k_X_both k_M_both []) (kk : ∀ h2, I (k + 1) h2 → LSM p l e s m below meth c D ad b 960 [aS 9, aR (some 0), aR (some mi), aI (nI i)] [] h2) : LSM p l e s m below meth c D ad b 812 [aS 9, aR (some 0), aR (some mi), aI (nI i)] [] h := by
  obtain ⟨v, h1, h2, e1, s1, e2, hI2⟩ := hp k h hk hI
  have s2 := hsh _ _ hI2
  refine la_x X (show decode code 812 = .ok (.aload_n 1, 1) by decide +kernel) ?_
  refine la_call X (key := k_X_both) (n := 1) (ci := 10) (a := 0) (as := []) (st' := []) (v := v) (h1 := h1) (show decode code 813 = .ok (.invokevirtual 102, 3) by decide +kernel) (by decide) rfl rfl rfl (by decide +kernel) rfl rfl hA rfl e1 (by rw [s1]; exact hz1) (by rw [s1]; exact hz2) ?_
  refine la_m X (show decode code 816 = .ok (.aload_n 2, 1) by decide +kernel) ?_
  refine la_call X (key := k_M_both) (n := 1) (ci := 11) (a := mi) (as := []) (st' := [aI v]) (v := v) (h1 := h2) (show decode code 817 = .ok (.invokevirtual 105, 3) by decide +kernel) (by decide) rfl rfl rfl (by decide +kernel) rfl rfl (by rw [s1]; exact hM) rfl e2 (by rw [s2]; exact hz1) (by rw [s2]; exact hz2) ?_
  refine la_eq X (tgt := 960) (show decode code 820 = .ok (.if_icmp .eq 140, 3) by decide +kernel) (by decide) ?_
  exact kk h2 hI2
theorem la_case21 (X : LCX p s m meth c D ad av b L xs) {I : Nat → AH → Prop} {k : Nat} (hi : i + 6 ≤ L) (hk : k < 512) (hI : I k h) (hA : h.1[0]? = some (4, 10)) (hM : h.1[mi]? = some (4, 11)) (hz1 : h.1.length ≤ 600000) (hz2 : tsz h.1 ≤ 7302250) (hsh : ∀ k h2, I k h2 → h2.1 = h.1) (hp : STP I mi k_X_parted k_M_parted [aI (xs (i + 1)), aI (xs (i + 2))]) (kk : ∀ h2, I (k + 1) h2 → LSM p l e s m below meth c D ad b 960 [aS 9, aR (some 0), aR (some mi), aI (nI i)] [] h2) : LSM p l e s m below meth c D ad b 825 [aS 9, aR (some 0), aR (some mi), aI (nI i)] [] h := by
  obtain ⟨v, h1, h2, e1, s1, e2, hI2⟩ := hp k h hk hI
  have s2 := hsh _ _ hI2
  refine la_x X (show decode code 825 = .ok (.aload_n 1, 1) by decide +kernel) ?_
  refine la_arg X (j := 1) (by decide) hi (show dq 826 [(.aload_n 0, 1), (.iload_n 3, 1), (.iconst 1, 1), (.iadd, 1), (.iaload, 1)] = true by decide +kernel) ?_
  refine la_arg X (j := 2) (by decide) hi (show dq 831 [(.aload_n 0, 1), (.iload_n 3, 1), (.iconst 2, 1), (.iadd, 1), (.iaload, 1)] = true by decide +kernel) ?_
  refine la_call X (key := k_X_parted) (n := 3) (ci := 10) (a := 0) (as := [aI (xs (i + 1)), aI (xs (i + 2))]) (st' := []) (v := v) (h1 := h1) (show decode code 836 = .ok (.invokevirtual 106, 3) by decide +kernel) (by decide) rfl rfl rfl (by decide +kernel) rfl rfl hA rfl e1 (by rw [s1]; exact hz1) (by rw [s1]; exact hz2) ?_
  refine la_m X (show decode code 839 = .ok (.aload_n 2, 1) by decide +kernel) ?_
  refine la_arg X (j := 1) (by decide) hi (show dq 840 [(.aload_n 0, 1), (.iload_n 3, 1), (.iconst 1, 1), (.iadd, 1), (.iaload, 1)] = true by decide +kernel) ?_
  refine la_arg X (j := 2) (by decide) hi (show dq 845 [(.aload_n 0, 1), (.iload_n 3, 1), (.iconst 2, 1), (.iadd, 1), (.iaload, 1)] = true by decide +kernel) ?_
  refine la_call X (key := k_M_parted) (n := 3) (ci := 11) (a := mi) (as := [aI (xs (i + 1)), aI (xs (i + 2))]) (st' := [aI v]) (v := v) (h1 := h2) (show decode code 850 = .ok (.invokevirtual 109, 3) by decide +kernel) (by decide) rfl rfl rfl (by decide +kernel) rfl rfl (by rw [s1]; exact hM) rfl e2 (by rw [s2]; exact hz1) (by rw [s2]; exact hz2) ?_
  refine la_eq X (tgt := 960) (show decode code 853 = .ok (.if_icmp .eq 107, 3) by decide +kernel) (by decide) ?_
  exact kk h2 hI2
theorem la_case22 (X : LCX p s m meth c D ad av b L xs) {I : Nat → AH → Prop} {k : Nat} (hi : i + 6 ≤ L) (hk : k < 512) (hI : I k h) (hA : h.1[0]? = some (4, 10)) (hM : h.1[mi]? = some (4, 11)) (hz1 : h.1.length ≤ 600000) (hz2 : tsz h.1 ≤ 7302250) (hsh : ∀ k h2, I k h2 → h2.1 = h.1) (hp : STP I mi k_X_fillings k_M_fillings [aI (xs (i + 1))]) (kk : ∀ h2, I (k + 1) h2 → LSM p l e s m below meth c D ad b 960 [aS 9, aR (some 0), aR (some mi), aI (nI i)] [] h2) : LSM p l e s m below meth c D ad b 858 [aS 9, aR (some 0), aR (some mi), aI (nI i)] [] h := by
  obtain ⟨v, h1, h2, e1, s1, e2, hI2⟩ := hp k h hk hI
  have s2 := hsh _ _ hI2
  refine la_x X (show decode code 858 = .ok (.aload_n 1, 1) by decide +kernel) ?_
  refine la_arg X (j := 1) (by decide) hi (show dq 859 [(.aload_n 0, 1), (.iload_n 3, 1), (.iconst 1, 1), (.iadd, 1), (.iaload, 1)] = true by decide +kernel) ?_
  refine la_call X (key := k_X_fillings) (n := 2) (ci := 10) (a := 0) (as := [aI (xs (i + 1))]) (st' := []) (v := v) (h1 := h1) (show decode code 864 = .ok (.invokevirtual 110, 3) by decide +kernel) (by decide) rfl rfl rfl (by decide +kernel) rfl rfl hA rfl e1 (by rw [s1]; exact hz1) (by rw [s1]; exact hz2) ?_
  refine la_m X (show decode code 867 = .ok (.aload_n 2, 1) by decide +kernel) ?_
  refine la_arg X (j := 1) (by decide) hi (show dq 868 [(.aload_n 0, 1), (.iload_n 3, 1), (.iconst 1, 1), (.iadd, 1), (.iaload, 1)] = true by decide +kernel) ?_
  refine la_call X (key := k_M_fillings) (n := 2) (ci := 11) (a := mi) (as := [aI (xs (i + 1))]) (st' := [aI v]) (v := v) (h1 := h2) (show decode code 873 = .ok (.invokevirtual 113, 3) by decide +kernel) (by decide) rfl rfl rfl (by decide +kernel) rfl rfl (by rw [s1]; exact hM) rfl e2 (by rw [s2]; exact hz1) (by rw [s2]; exact hz2) ?_
  refine la_eq X (tgt := 960) (show decode code 876 = .ok (.if_icmp .eq 84, 3) by decide +kernel) (by decide) ?_
  exact kk h2 hI2
theorem la_case23 (X : LCX p s m meth c D ad av b L xs) {I : Nat → AH → Prop} {k : Nat} (hi : i + 6 ≤ L) (hk : k < 512) (hI : I k h) (hA : h.1[0]? = some (4, 10)) (hM : h.1[mi]? = some (4, 11)) (hz1 : h.1.length ≤ 600000) (hz2 : tsz h.1 ≤ 7302250) (hsh : ∀ k h2, I k h2 → h2.1 = h.1) (hp : STP I mi k_X_filled k_M_filled [aI (xs (i + 1)), aI (xs (i + 2))]) (kk : ∀ h2, I (k + 1) h2 → LSM p l e s m below meth c D ad b 960 [aS 9, aR (some 0), aR (some mi), aI (nI i)] [] h2) : LSM p l e s m below meth c D ad b 881 [aS 9, aR (some 0), aR (some mi), aI (nI i)] [] h := by
  obtain ⟨v, h1, h2, e1, s1, e2, hI2⟩ := hp k h hk hI
  have s2 := hsh _ _ hI2
  refine la_x X (show decode code 881 = .ok (.aload_n 1, 1) by decide +kernel) ?_
  refine la_arg X (j := 1) (by decide) hi (show dq 882 [(.aload_n 0, 1), (.iload_n 3, 1), (.iconst 1, 1), (.iadd, 1), (.iaload, 1)] = true by decide +kernel) ?_
  refine la_arg X (j := 2) (by decide) hi (show dq 887 [(.aload_n 0, 1), (.iload_n 3, 1), (.iconst 2, 1), (.iadd, 1), (.iaload, 1)] = true by decide +kernel) ?_
  refine la_call X (key := k_X_filled) (n := 3) (ci := 10) (a := 0) (as := [aI (xs (i + 1)), aI (xs (i + 2))]) (st' := []) (v := v) (h1 := h1) (show decode code 892 = .ok (.invokevirtual 114, 3) by decide +kernel) (by decide) rfl rfl rfl (by decide +kernel) rfl rfl hA rfl e1 (by rw [s1]; exact hz1) (by rw [s1]; exact hz2) ?_
  refine la_m X (show decode code 895 = .ok (.aload_n 2, 1) by decide +kernel) ?_
  refine la_arg X (j := 1) (by decide) hi (show dq 896 [(.aload_n 0, 1), (.iload_n 3, 1), (.iconst 1, 1), (.iadd, 1), (.iaload, 1)] = true by decide +kernel) ?_
  refine la_arg X (j := 2) (by decide) hi (show dq 901 [(.aload_n 0, 1), (.iload_n 3, 1), (.iconst 2, 1), (.iadd, 1), (.iaload, 1)] = true by decide +kernel) ?_
  refine la_call X (key := k_M_filled) (n := 3) (ci := 11) (a := mi) (as := [aI (xs (i + 1)), aI (xs (i + 2))]) (st' := [aI v]) (v := v) (h1 := h2) (show decode code 906 = .ok (.invokevirtual 117, 3) by decide +kernel) (by decide) rfl rfl rfl (by decide +kernel) rfl rfl (by rw [s1]; exact hM) rfl e2 (by rw [s2]; exact hz1) (by rw [s2]; exact hz2) ?_
  refine la_eq X (tgt := 960) (show decode code 909 = .ok (.if_icmp .eq 51, 3) by decide +kernel) (by decide) ?_
  exact kk h2 hI2
theorem la_case24 (X : LCX p s m meth c D ad av b L xs) {I : Nat → AH → Prop} {k : Nat} (hi : i + 6 ≤ L) (hk : k < 512) (hI : I k h) (hA : h.1[0]? = some (4, 10)) (hM : h.1[mi]? = some (4, 11)) (hz1 : h.1.length ≤ 600000) (hz2 : tsz h.1 ≤ 7302250) (hsh : ∀ k h2, I k h2 → h2.1 = h.1) (hp : STP I mi k_X_mend k_M_mend [aI (xs (i + 1))]) (kk : ∀ h2, I (k + 1) h2 → LSM p l e s m below meth c D ad b 960 [aS 9, aR (some 0), aR (some mi), aI (nI i)] [] h2) : LSM p l e s m below meth c D ad b 914 [aS 9, aR (some 0), aR (some mi), aI (nI i)] [] h := by
  obtain ⟨v, h1, h2, e1, s1, e2, hI2⟩ := hp k h hk hI
  have s2 := hsh _ _ hI2
  refine la_x X (show decode code 914 = .ok (.aload_n 1, 1) by decide +kernel) ?_
  refine la_arg X (j := 1) (by decide) hi (show dq 915 [(.aload_n 0, 1), (.iload_n 3, 1), (.iconst 1, 1), (.iadd, 1), (.iaload, 1)] = true by decide +kernel) ?_
  refine la_call X (key := k_X_mend) (n := 2) (ci := 10) (a := 0) (as := [aI (xs (i + 1))]) (st' := []) (v := v) (h1 := h1) (show decode code 920 = .ok (.invokevirtual 118, 3) by decide +kernel) (by decide) rfl rfl rfl (by decide +kernel) rfl rfl hA rfl e1 (by rw [s1]; exact hz1) (by rw [s1]; exact hz2) ?_
  refine la_m X (show decode code 923 = .ok (.aload_n 2, 1) by decide +kernel) ?_
  refine la_arg X (j := 1) (by decide) hi (show dq 924 [(.aload_n 0, 1), (.iload_n 3, 1), (.iconst 1, 1), (.iadd, 1), (.iaload, 1)] = true by decide +kernel) ?_
  refine la_call X (key := k_M_mend) (n := 2) (ci := 11) (a := mi) (as := [aI (xs (i + 1))]) (st' := [aI v]) (v := v) (h1 := h2) (show decode code 929 = .ok (.invokevirtual 121, 3) by decide +kernel) (by decide) rfl rfl rfl (by decide +kernel) rfl rfl (by rw [s1]; exact hM) rfl e2 (by rw [s2]; exact hz1) (by rw [s2]; exact hz2) ?_
  refine la_eq X (tgt := 960) (show decode code 932 = .ok (.if_icmp .eq 28, 3) by decide +kernel) (by decide) ?_
  exact kk h2 hI2
theorem la_case25 (X : LCX p s m meth c D ad av b L xs) {I : Nat → AH → Prop} {k : Nat} (hi : i + 6 ≤ L) (hk : k < 512) (hI : I k h) (hA : h.1[0]? = some (4, 10)) (hM : h.1[mi]? = some (4, 11)) (hz1 : h.1.length ≤ 600000) (hz2 : tsz h.1 ≤ 7302250) (hsh : ∀ k h2, I k h2 → h2.1 = h.1) (hp : STP I mi k_X_count k_M_count [aI (xs (i + 1))]) (kk : ∀ h2, I (k + 1) h2 → LSM p l e s m below meth c D ad b 960 [aS 9, aR (some 0), aR (some mi), aI (nI i)] [] h2) : LSM p l e s m below meth c D ad b 937 [aS 9, aR (some 0), aR (some mi), aI (nI i)] [] h := by
  obtain ⟨v, h1, h2, e1, s1, e2, hI2⟩ := hp k h hk hI
  have s2 := hsh _ _ hI2
  refine la_x X (show decode code 937 = .ok (.aload_n 1, 1) by decide +kernel) ?_
  refine la_arg X (j := 1) (by decide) hi (show dq 938 [(.aload_n 0, 1), (.iload_n 3, 1), (.iconst 1, 1), (.iadd, 1), (.iaload, 1)] = true by decide +kernel) ?_
  refine la_call X (key := k_X_count) (n := 2) (ci := 10) (a := 0) (as := [aI (xs (i + 1))]) (st' := []) (v := v) (h1 := h1) (show decode code 943 = .ok (.invokevirtual 122, 3) by decide +kernel) (by decide) rfl rfl rfl (by decide +kernel) rfl rfl hA rfl e1 (by rw [s1]; exact hz1) (by rw [s1]; exact hz2) ?_
  refine la_m X (show decode code 946 = .ok (.aload_n 2, 1) by decide +kernel) ?_
  refine la_arg X (j := 1) (by decide) hi (show dq 947 [(.aload_n 0, 1), (.iload_n 3, 1), (.iconst 1, 1), (.iadd, 1), (.iaload, 1)] = true by decide +kernel) ?_
  refine la_call X (key := k_M_count) (n := 2) (ci := 11) (a := mi) (as := [aI (xs (i + 1))]) (st' := [aI v]) (v := v) (h1 := h2) (show decode code 952 = .ok (.invokevirtual 125, 3) by decide +kernel) (by decide) rfl rfl rfl (by decide +kernel) rfl rfl (by rw [s1]; exact hM) rfl e2 (by rw [s2]; exact hz1) (by rw [s2]; exact hz2) ?_
  refine la_eq X (tgt := 960) (show decode code 955 = .ok (.if_icmp .eq 5, 3) by decide +kernel) (by decide) ?_
  exact kk h2 hI2
end LAWB
