/-! one instruction of the abstract machine is one of the machine -/
theorem w_oi : Cond.instanceMethod Lib.objectInit ∈ gtbl := by decide +kernel
theorem w_oc : Cond.code Lib.objectInit ⟨#[0xb1]⟩ 1 none ∈ gtbl := by decide +kernel
theorem w_cn : Cond.native arraycopyName ∈ gtbl := by decide +kernel
theorem w_cs : Cond.static arraycopyName ∈ gtbl := by decide +kernel
theorem w_ms : Cond.static Lib.Math.max.name ∈ gtbl ∧ Cond.initialized "java/lang/Math" ∈ gtbl ∧ Cond.code Lib.Math.max.name Lib.Math.max.code 2 (some .int) ∈ gtbl := by decide +kernel
theorem w_ml : Cond.static Lib.MathLoose.min_long.x ∈ gtbl ∧ Cond.code Lib.MathLoose.min_long.x Lib.MathLoose.min_long.code 4 (some .long) ∈ gtbl := by decide +kernel
theorem w_mi : Cond.static Lib.Math.min.name ∈ gtbl ∧ Cond.code Lib.Math.min.name Lib.Math.min.code 2 (some .int) ∈ gtbl := by decide +kernel
theorem w_ci : Cond.initialized "java/lang/System" ∈ gtbl := by decide +kernel
theorem zL2 (n : Fin 2) : Int64.ofNat (n : Nat) = zL ((n : Nat) : Int) := by
  match n with
  | 0 => rfl
  | 1 => rfl
section SIME
variable {p : Program} {l : Launch} {e : Env} {R : Room} {s : State} {m : MethodId} {args : Array Value} {below : List Frame} {meth : Method} {c : Code} {cc : ByteArray} {nL : Nat} {own : String} {ini : Bool} {rt : Option FieldType} {D : va_G} {A : Nat → Prop} {ad av : Nat → Nat} {w0 : va_W} {n0 s0 : Nat} {Q : State → Prop} {lv st : List AV} {h : AH} {pc : Nat}

theorem sm_obj (X : CX p s m args meth c cc nL own ini rt D A ad av) {idx ci : Nat} {as st' : List AV} (hd : decode cc pc = .ok (.invokespecial idx, 3)) (hlk : Cond.methodLink own idx Lib.objectInit ∈ gtbl) (hrc : ∃ a as', as = aR (some a) :: as' ∧ h.1[a]? = some (4, ci)) (hp : popW 1 st = some (as, st')) (hRf : 1 ≤ R.frames) (hRl : 64 ≤ R.locals) (k : SM p l e R s m args below meth c nL D ad A w0 n0 s0 Q (pc + 3) lv st' h) : SM p l e R s m args below meth c nL D ad A w0 n0 s0 Q pc lv st h := by
  intro H locs ls ws sv hP hD hw hS hx hl hs hn1 hn2
  obtain ⟨hp1, hp2⟩ := popW_s hp
  obtain ⟨u, rest, rfl, hu, has, hs'⟩ := popA_s (av := []) hp1 trivial hs
  rw [List.append_nil] at has
  obtain ⟨hX, hb, hml, hown, hts, hK, hA, hE, -⟩ := X
  obtain ⟨a, as', rfl, ha⟩ := hrc
  obtain ⟨b, ee, h1, h2, hc⟩ := hw.at ha
  obtain ⟨As, hu2, -⟩ := srlA has h2
  have hA0 : As = [] := by
    have : u.reverse.length = As.length + 1 := by rw [hu2]; rfl
    rw [List.length_reverse] at this
    exact List.length_eq_zero_iff.mp (by omega)
  have hst : u = [.ref b] := by rw [← List.reverse_reverse u, hu2, hA0]; rfl
  subst hst
  refine W.objInit (g := F0 m pc ls (.ref b :: rest)) (rest := rest) hX hb hown (hts _ hlk) (hts _ w_oi) (hts _ w_oc) rfl (by show ls.size = _; rw [hml]; exact hl.2.choose_spec.1.1) rfl hd hRf ?_ ?_
  · have := lv_room (m := m) (pc := pc) (ls := ls) (rest := .ref b :: rest) (st := rest) (by rw [hs'.wt]; exact hp2)
    omega
  · exact k H locs ls ws rest hP hD hw hS hx hl hs' hn1 hn2
theorem sm_acp (X : CX p s m args meth c cc nL own ini rt D A ad av) {idx : Nat} {as st' : List AV} {r1 : AR} (hd : decode cc pc = .ok (.invokestatic idx, 3)) (hlk : Cond.methodLink own idx arraycopyName ∈ gtbl) (hC : prm 1 as h = some r1) (hp : popW 5 st = some (as, st')) (hRf : 1 ≤ R.frames) (hRl : 64 ≤ R.locals) (k : SM p l e R s m args below meth c nL D ad A w0 n0 s0 Q (pc + 3) lv (r1.1.toList ++ st') r1.2) : SM p l e R s m args below meth c nL D ad A w0 n0 s0 Q pc lv st h := by
  intro H locs ls ws sv hP hD hw hS hx hl hs hn1 hn2
  obtain ⟨hp1, hp2⟩ := popW_s hp
  obtain ⟨u, rest, rfl, hu, has, hs'⟩ := popA_s (av := []) hp1 trivial hs
  rw [List.append_nil] at has
  obtain ⟨hX, hb, hml, hown, hts, hK, hA, hE, -⟩ := X
  unfold prm at hC
  split at hC
  case h_2 e => exact absurd e (by decide)
  case h_3 e => exact absurd e (by decide)
  case h_4 e => exact absurd e (by decide)
  case h_5 e => exact absurd e (by decide)
  case h_6 e => exact absurd e (by decide)
  case h_7 => cases hC
  rename_i a sp b dp n e9
  split at hC
  case h_2 => cases hC
  rename_i n0' n1' ea eb
  split at hC
  case isFalse => cases hC
  rename_i hcond
  obtain ⟨k1, k2, k3, k4, k5⟩ := hcond
  cases hC
  obtain ⟨qa, ea', a1, a2, ac⟩ := hw.at ea
  obtain ⟨qb, eb', b1, b2, bc⟩ := hw.at eb
  obtain ⟨cA, rfl, hKa⟩ := ac
  obtain ⟨cB, rfl, hKb⟩ := bc
  obtain ⟨v1, e1, has⟩ := srlA has a2
  obtain ⟨v2, e2, has⟩ := srlI has
  obtain ⟨v3, e3, has⟩ := srlA has b2
  obtain ⟨v4, e4, has⟩ := srlI has
  obtain ⟨v5, e5, has⟩ := srlI has
  have e6 := srlN has
  subst e6 e5 e4 e3 e2
  have hst : u = [.int n, .int dp, .ref qb, .int sp, .ref qa] := by rw [← List.reverse_reverse u, e1]; rfl
  subst hst
  have hnw : nativeFrameWords "java/lang/System" "arraycopy" 5 = 7 := by decide
  refine va_copyi (ty := .int) (rest := rest) hX hb (by rw [hml]; exact hl.2.choose_spec.1.1.symm) hown (hts _ hlk) (hts _ w_cn) (hts _ w_cs) (hts _ w_ci) (hKa.app hKb) hP hD hS a b 0 1 a1 b1 rfl rfl rfl k1 k2 k3 k4 k5 (fun _ _ => rfl) hRf (by rw [hs'.wt]; omega) hd (fun H1 locs1 hP1 hD1 hS1 => ?_)
  refine k H1 locs1 ls _ rest hP1 hD1 (hw.set b1 eb rfl (fun j hj => ?_) ?_) hS1 (hx.tr (xt_set b1)) (hl.mono (xt_set b1)) (hs'.mono (xt_set b1)) hn1 hn2
  · refine ⟨?_, rfl, rfl⟩
    funext z; simp [cpI, hj]
  · refine ⟨cB, ?_, hKb⟩
    congr 4
    funext z
    simp [cpI]
theorem sm_max (X : CX p s m args meth c cc nL own ini rt D A ad av) {idx : Nat} {as st' : List AV} {r1 : AR} (hd : decode cc pc = .ok (.invokestatic idx, 3)) (hlk : Cond.methodLink own idx Lib.Math.max.name ∈ gtbl) (hC : prm 4 as h = some r1) (hp : popW 2 st = some (as, st')) (hRf : 1 ≤ R.frames) (hRl : 64 ≤ R.locals) (hR1 : h.1.length - n0 ≤ R.cells) (hR2 : tsz h.1 - s0 ≤ R.slots) (k : SM p l e R s m args below meth c nL D ad A w0 n0 s0 Q (pc + 3) lv (r1.1.toList ++ st') r1.2) : SM p l e R s m args below meth c nL D ad A w0 n0 s0 Q pc lv st h := by
  intro H locs ls ws sv hP hD hw hS hx hl hs hn1 hn2
  obtain ⟨hp1, hp2⟩ := popW_s hp
  obtain ⟨u, rest, rfl, hu, has, hs'⟩ := popA_s (av := []) hp1 trivial hs
  rw [List.append_nil] at has
  obtain ⟨hX, hb, hml, hown, hts, hK, hA, hE, -⟩ := X
  unfold prm at hC
  split at hC
  case h_1 e => exact absurd e (by decide)
  case h_2 e => exact absurd e (by decide)
  case h_3 e => exact absurd e (by decide)
  case h_5 e => exact absurd e (by decide)
  case h_6 e => exact absurd e (by decide)
  case h_7 => cases hC
  rename_i x y e9
  cases hC
  obtain ⟨v1, e1, has⟩ := srlI has
  obtain ⟨v2, e2, has⟩ := srlI has
  have e3 := srlN has
  subst e3 e2
  have hst : u = [.int y, .int x] := by rw [← List.reverse_reverse u, e1]; rfl
  subst hst
  obtain ⟨w1, w2, w3⟩ := w_ms
  exact va_mmax (rest := rest) hX hb (by rw [hml]; exact hl.2.choose_spec.1.1.symm) hown (hts _ hlk) (hts _ w1) (hts _ w2) (hts _ w3) hRf (by rw [hs'.wt]; omega) hR1 hR2 hd (k H locs ls ws _ hP hD hw hS hx hl ⟨⟨nofun, rfl⟩, hs'⟩ hn1 hn2)
theorem sm_min (X : CX p s m args meth c cc nL own ini rt D A ad av) {idx : Nat} {as st' : List AV} {r1 : AR} (hd : decode cc pc = .ok (.invokestatic idx, 3)) (hlk : Cond.methodLink own idx Lib.MathLoose.min_long.x ∈ gtbl) (hC : prm 5 as h = some r1) (hp : popW 2 st = some (as, st')) (hRf : 1 ≤ R.frames) (hRl : 64 ≤ R.locals) (hR1 : h.1.length - n0 ≤ R.cells) (hR2 : tsz h.1 - s0 ≤ R.slots) (k : SM p l e R s m args below meth c nL D ad A w0 n0 s0 Q (pc + 3) lv (r1.1.toList ++ st') r1.2) : SM p l e R s m args below meth c nL D ad A w0 n0 s0 Q pc lv st h := by
  intro H locs ls ws sv hP hD hw hS hx hl hs hn1 hn2
  obtain ⟨hp1, hp2⟩ := popW_s hp
  obtain ⟨u, rest, rfl, hu, has, hs'⟩ := popA_s (av := []) hp1 trivial hs
  rw [List.append_nil] at has
  obtain ⟨hX, hb, hml, hown, hts, hK, hA, hE, -⟩ := X
  unfold prm at hC
  split at hC
  case h_1 e => exact absurd e (by decide)
  case h_2 e => exact absurd e (by decide)
  case h_3 e => exact absurd e (by decide)
  case h_4 e => exact absurd e (by decide)
  case h_6 e => exact absurd e (by decide)
  case h_7 => cases hC
  rename_i x y e9
  cases hC
  obtain ⟨v1, e1, has⟩ := srlL has
  obtain ⟨v2, e2, has⟩ := srlL has
  have e3 := srlN has
  subst e3 e2
  have hst : u = [.long y, .long x] := by rw [← List.reverse_reverse u, e1]; rfl
  subst hst
  obtain ⟨w1, w3⟩ := w_ml
  exact va_mmin_long (rest := rest) hX hb (by rw [hml]; exact hl.2.choose_spec.1.1.symm) hown (hts _ hlk) (hts _ w1) (hts _ w_ms.2.1) (hts _ w3) hRf (by rw [hs'.wt]; omega) hR1 hR2 hd (k H locs ls ws _ hP hD hw hS hx hl ⟨⟨nofun, rfl⟩, hs'⟩ hn1 hn2)
theorem sm_min0 (X : CX p s m args meth c cc nL own ini rt D A ad av) {idx : Nat} {as st' : List AV} {r1 : AR} (hd : decode cc pc = .ok (.invokestatic idx, 3)) (hlk : Cond.methodLink own idx Lib.Math.min.name ∈ gtbl) (hC : prm 0 as h = some r1) (hp : popW 2 st = some (as, st')) (hRf : 1 ≤ R.frames) (hRl : 64 ≤ R.locals) (hR1 : h.1.length - n0 ≤ R.cells) (hR2 : tsz h.1 - s0 ≤ R.slots) (k : SM p l e R s m args below meth c nL D ad A w0 n0 s0 Q (pc + 3) lv (r1.1.toList ++ st') r1.2) : SM p l e R s m args below meth c nL D ad A w0 n0 s0 Q pc lv st h := by
  intro H locs ls ws sv hP hD hw hS hx hl hs hn1 hn2
  obtain ⟨hp1, hp2⟩ := popW_s hp
  obtain ⟨u, rest, rfl, hu, has, hs'⟩ := popA_s (av := []) hp1 trivial hs
  rw [List.append_nil] at has
  obtain ⟨hX, hb, hml, hown, hts, hK, hA, hE, -⟩ := X
  unfold prm at hC
  split at hC
  case h_1 e => exact absurd e (by decide)
  case h_2 e => exact absurd e (by decide)
  case h_3 e => exact absurd e (by decide)
  case h_4 e => exact absurd e (by decide)
  case h_5 e => exact absurd e (by decide)
  case h_7 => cases hC
  rename_i x y e9
  cases hC
  obtain ⟨v1, e1, has⟩ := srlI has
  obtain ⟨v2, e2, has⟩ := srlI has
  have e3 := srlN has
  subst e3 e2
  have hst : u = [.int y, .int x] := by rw [← List.reverse_reverse u, e1]; rfl
  subst hst
  obtain ⟨w1, w3⟩ := w_mi
  exact va_mmin (rest := rest) hX hb (by rw [hml]; exact hl.2.choose_spec.1.1.symm) hown (hts _ hlk) (hts _ w1) (hts _ w_ms.2.1) (hts _ w3) hRf (by rw [hs'.wt]; omega) hR1 hR2 hd (k H locs ls ws _ hP hD hw hS hx hl ⟨⟨nofun, rfl⟩, hs'⟩ hn1 hn2)
end SIME
section SIMF
variable {p : Program} {l : Launch} {e : Env} {R : Room} {s : State} {m : MethodId} {args : Array Value} {below : List Frame} {meth : Method} {c : Code} {cc : ByteArray} {nL : Nat} {own : String} {ini : Bool} {rt : Option FieldType} {D : va_G} {ad av : Nat → Nat} {w0 : va_W} {n0 s0 : Nat} {lv st : List AV} {h : AH} {pc : Nat}

set_option maxHeartbeats 8000000 in
theorem sim1 (X : CX p s m args meth c cc nL own ini rt D (va_A w0 s.heap.size) ad av) {d len : Nat} {C : AC} {K : AK} {lm : Nat → List Bool} {P : List Nat} {r : AR} {it : CI} {k : AT} (hd : decode cc pc = .ok (it.1, len)) (hok : okI own nL ini rt P pc len it = true)
    (hC : ∀ c K as h r', C c as h = some r' → 2 ≤ c → c ≠ 4 → c ≠ 5 → KT[c]? = some K → CON l d K as h r') (hC1 : ∀ c as h r', C c as h = some r' → c = 1 ∨ c = 4 ∨ c = 5 ∨ c = 0 → prm c as h = some r') (hCx : ∀ c as h r', C c as h = some r' → le2 h.1 r'.2.1) (hKT : ∀ c K, KT[c]? = some K → 2 ≤ c → okE K = true)
    (hRf : d + 1 ≤ R.frames) (hRl : 64 * d + 64 ≤ R.locals) (hR1 : r.2.1.length - n0 ≤ R.cells) (hR2 : tsz r.2.1 - s0 ≤ R.slots)
    (hk : ∀ lv' st' h', k lv' st' h' = some r → SM p l e R s m args below meth c nL D ad (va_A w0 s.heap.size) w0 n0 s0 (MQ below (QQ D ad w0 s.heap.size r) args s (r.2.1.length - n0) (tsz r.2.1 - s0) (va_A w0 s.heap.size)) (pc + len) lv' st' h') (hkx : ∀ lv' st' h', k lv' st' h' = some r → le2 h'.1 r.2.1)
    (hK : ∀ t q lv' st' h', K t lv' st' h' = some r → P[t]? = some q → SM p l e R s m args below meth c nL D ad (va_A w0 s.heap.size) w0 n0 s0 (MQ below (QQ D ad w0 s.heap.size r) args s (r.2.1.length - n0) (tsz r.2.1 - s0) (va_A w0 s.heap.size)) q lv' st' h')
    (hr : ev1 C K lm it lv st h k = some r) : SM p l e R s m args below meth c nL D ad (va_A w0 s.heap.size) w0 n0 s0 (MQ below (QQ D ad w0 s.heap.size r) args s (r.2.1.length - n0) (tsz r.2.1 - s0) (va_A w0 s.heap.size)) pc lv st h := by
  have hX : p.tables.exec = Jvm.exec := X.1
  have hb : c.code = cc := X.2.1
  obtain ⟨i, rs, z⟩ := it
  cases i
  case iconst n =>
    have hl1 : len = 1 := of_decide_eq_true (p := len = 1) hok
    subst hl1
    intro H locs ls ws sv hP hD hw hS hx hl hs hn1 hn2
    exact lv_iconst hX hb hd rfl (hk _ _ _ hr H locs ls ws _ hP hD hw hS hx hl ⟨⟨nofun, rfl⟩, hs⟩ hn1 hn2)
  case bipush n =>
    obtain ⟨o1, o2⟩ := and_s (a := decide (len = 2)) hok
    have hl1 : len = 2 := of_decide_eq_true o1
    subst hl1
    intro H locs ls ws sv hP hD hw hS hx hl hs hn1 hn2
    exact lv_bipush hX hb hd (of_decide_eq_true o2) (hk _ _ _ hr H locs ls ws _ hP hD hw hS hx hl ⟨⟨nofun, rfl⟩, hs⟩ hn1 hn2)
  case sipush n =>
    obtain ⟨o1, o2⟩ := and_s (a := decide (len = 3)) hok
    have hl1 : len = 3 := of_decide_eq_true o1
    subst hl1
    intro H locs ls ws sv hP hD hw hS hx hl hs hn1 hn2
    exact lv_sipush hX hb hd (of_decide_eq_true o2) (hk _ _ _ hr H locs ls ws _ hP hD hw hS hx hl ⟨⟨nofun, rfl⟩, hs⟩ hn1 hn2)
  case ldc i =>
    obtain ⟨o1, o2⟩ := and_s (a := decide (len = 2)) hok
    have hl1 : len = 2 := of_decide_eq_true o1
    subst hl1
    obtain ⟨m1, n1, l1, rfl, o3⟩ := okq2_s o2
    have g : (if m1 = 0 then k lv (aI (zI z) :: st) h else k lv (aS n1 :: st) h) = some r := hr
    intro H locs ls ws sv hP hD hw hS hx hl hs hn1 hn2
    by_cases hm : m1 = 0
    · rw [if_pos hm] at g o3
      exact lv_ldc hX hb X.2.2.2.1 (X.2.2.2.2.1 _ (okW_m o3)) hd (hk _ _ _ g H locs ls ws _ hP hD hw hS hx hl ⟨⟨nofun, rfl⟩, hs⟩ hn1 hn2)
    · rw [if_neg hm] at g o3
      obtain ⟨q1, q2⟩ := and_s o3
      obtain ⟨tx, hR⟩ := X.2.2.2.2.2.2.2.1.2.2.1 _ (of_decide_eq_true q2)
      exact va_ldcS hX hb X.2.2.2.1 hR hd (hk _ _ _ g H locs ls ws _ hP hD hw hS hx hl ⟨⟨aS_ne _, Nat.lt_of_lt_of_le (of_decide_eq_true q1) (by decide), rfl⟩, hs⟩ hn1 hn2)
  case ldc_w i =>
    obtain ⟨o1, o2⟩ := and_s (a := decide (len = 3)) hok
    have hl1 : len = 3 := of_decide_eq_true o1
    subst hl1
    obtain ⟨m1, n1, l1, rfl, o3⟩ := okq2_s o2
    intro H locs ls ws sv hP hD hw hS hx hl hs hn1 hn2
    exact lv_ldcw hX hb X.2.2.2.1 (X.2.2.2.2.1 _ (okW_m o3)) hd (hk _ _ _ hr H locs ls ws _ hP hD hw hS hx hl ⟨⟨nofun, rfl⟩, hs⟩ hn1 hn2)
  case ldc2_w i =>
    obtain ⟨o1, o2⟩ := and_s (a := decide (len = 3)) hok
    have hl1 : len = 3 := of_decide_eq_true o1
    subst hl1
    obtain ⟨n1, l1, rfl, o3⟩ := okq1_s o2
    intro H locs ls ws sv hP hD hw hS hx hl hs hn1 hn2
    exact lv_ldc2 hX hb X.2.2.2.1 (X.2.2.2.2.1 _ (okW_m o3)) hd (hk _ _ _ hr H locs ls ws _ hP hD hw hS hx hl ⟨⟨nofun, rfl⟩, hs⟩ hn1 hn2)
  case lconst n =>
    have hl1 : len = 1 := of_decide_eq_true (p := len = 1) hok
    subst hl1
    intro H locs ls ws sv hP hD hw hS hx hl hs hn1 hn2
    exact lv_lconst hX hb hd (zL2 n) (hk _ _ _ hr H locs ls ws _ hP hD hw hS hx hl ⟨⟨nofun, rfl⟩, hs⟩ hn1 hn2)
  case aconst_null =>
    have hl1 : len = 1 := of_decide_eq_true (p := len = 1) hok
    subst hl1
    intro H locs ls ws sv hP hD hw hS hx hl hs hn1 hn2
    exact lv_null hX hb hd (hk _ _ _ hr H locs ls ws _ hP hD hw hS hx hl ⟨⟨nofun, none, rfl, rfl⟩, hs⟩ hn1 hn2)
  case iload n =>
    have hl1 : len = 2 := of_decide_eq_true (p := len = 2) hok
    subst hl1
    obtain ⟨x, ex, g⟩ := ldI_s hr
    intro H locs ls ws sv hP hD hw hS hx hl hs hn1 hn2
    obtain ⟨w, h1, h2⟩ := hl.get ex nofun
    have h3 : w = _ := h2
    subst h3
    exact lv_iload hX hb hd h1 (hk _ _ _ g H locs ls ws _ hP hD hw hS hx hl ⟨⟨nofun, rfl⟩, hs⟩ hn1 hn2)
  case iload_n n =>
    have hl1 : len = 1 := of_decide_eq_true (p := len = 1) hok
    subst hl1
    obtain ⟨x, ex, g⟩ := ldI_s hr
    intro H locs ls ws sv hP hD hw hS hx hl hs hn1 hn2
    obtain ⟨w, h1, h2⟩ := hl.get ex nofun
    have h3 : w = _ := h2
    subst h3
    exact lv_iload_n hX hb hd rfl h1 (hk _ _ _ g H locs ls ws _ hP hD hw hS hx hl ⟨⟨nofun, rfl⟩, hs⟩ hn1 hn2)
  case lload n =>
    have hl1 : len = 2 := of_decide_eq_true (p := len = 2) hok
    subst hl1
    obtain ⟨x, ex, g⟩ := ldL_s hr
    intro H locs ls ws sv hP hD hw hS hx hl hs hn1 hn2
    obtain ⟨w, h1, h2⟩ := hl.get ex nofun
    have h3 : w = _ := h2
    subst h3
    exact lv_lload hX hb hd h1 (hk _ _ _ g H locs ls ws _ hP hD hw hS hx hl ⟨⟨nofun, rfl⟩, hs⟩ hn1 hn2)
  case lload_n n =>
    have hl1 : len = 1 := of_decide_eq_true (p := len = 1) hok
    subst hl1
    obtain ⟨x, ex, g⟩ := ldL_s hr
    intro H locs ls ws sv hP hD hw hS hx hl hs hn1 hn2
    obtain ⟨w, h1, h2⟩ := hl.get ex nofun
    have h3 : w = _ := h2
    subst h3
    exact lv_lload_n hX hb hd rfl h1 (hk _ _ _ g H locs ls ws _ hP hD hw hS hx hl ⟨⟨nofun, rfl⟩, hs⟩ hn1 hn2)
  case aload n =>
    have hl1 : len = 2 := of_decide_eq_true (p := len = 2) hok
    subst hl1
    simp only [ev1] at hr
    obtain ⟨x, hxx, ex, g⟩ := ldA_s hr
    intro H locs ls ws sv hP hD hw hS hx hl hs hn1 hn2
    rcases hxx with ⟨o, rfl⟩ | ⟨q, rfl⟩
    · obtain ⟨w, h1, o', h2, h3⟩ := hl.get ex nofun
      subst h3
      have kk := hk _ _ _ g H locs ls ws (va_rf o' :: sv) hP hD hw hS hx hl ⟨⟨nofun, o', h2, rfl⟩, hs⟩ hn1 hn2
      cases o' with
      | none => exact lv_aloadN hX hb hd h1 kk
      | some a => exact lv_aload hX hb hd h1 kk
    · obtain ⟨w, h1, h2, h3⟩ := hl.get ex (aS_ne _)
      subst h3
      exact lv_aload hX hb hd h1 (hk _ _ _ g H locs ls ws _ hP hD hw hS hx hl ⟨⟨aS_ne _, h2, rfl⟩, hs⟩ hn1 hn2)
  case aload_n n =>
    have hl1 : len = 1 := of_decide_eq_true (p := len = 1) hok
    subst hl1
    simp only [ev1] at hr
    obtain ⟨x, hxx, ex, g⟩ := ldA_s hr
    intro H locs ls ws sv hP hD hw hS hx hl hs hn1 hn2
    rcases hxx with ⟨o, rfl⟩ | ⟨q, rfl⟩
    · obtain ⟨w, h1, o', h2, h3⟩ := hl.get ex nofun
      subst h3
      have kk := hk _ _ _ g H locs ls ws (va_rf o' :: sv) hP hD hw hS hx hl ⟨⟨nofun, o', h2, rfl⟩, hs⟩ hn1 hn2
      cases o' with
      | none => exact lv_aload_nN hX hb hd rfl h1 kk
      | some a => exact lv_aload_n hX hb hd rfl h1 kk
    · obtain ⟨w, h1, h2, h3⟩ := hl.get ex (aS_ne _)
      subst h3
      exact lv_aload_n hX hb hd rfl h1 (hk _ _ _ g H locs ls ws _ hP hD hw hS hx hl ⟨⟨aS_ne _, h2, rfl⟩, hs⟩ hn1 hn2)
  case istore n =>
    obtain ⟨o1, o2⟩ := and_s (a := decide (len = 2)) hok
    have hl1 : len = 2 := of_decide_eq_true o1
    subst hl1
    have hn := of_decide_eq_true o2
    obtain ⟨x, st', rfl, g⟩ := p1I_s hr
    intro H locs ls ws sv hP hD hw hS hx hl hs hn1 hn2
    obtain ⟨sv', rfl, hs'⟩ := srlI hs
    obtain ⟨q1, L, q2, q3⟩ := hl
    exact lv_istore hX hb hd q2 hn rfl (fun ls' hl' => hk _ _ _ (show k (st1 lv n (aI x)) st' h = some r from g) H locs ls' ws _ hP hD hw hS hx (lrl.put1 q1 q3 hl' rfl hn) hs' hn1 hn2)
  case istore_n n =>
    obtain ⟨o1, o2⟩ := and_s (a := decide (len = 1)) hok
    have hl1 : len = 1 := of_decide_eq_true o1
    subst hl1
    have hn := of_decide_eq_true o2
    obtain ⟨x, st', rfl, g⟩ := p1I_s hr
    intro H locs ls ws sv hP hD hw hS hx hl hs hn1 hn2
    obtain ⟨sv', rfl, hs'⟩ := srlI hs
    obtain ⟨q1, L, q2, q3⟩ := hl
    exact lv_istore_n hX hb hd rfl q2 hn rfl (fun ls' hl' => hk _ _ _ (show k (st1 lv n (aI x)) st' h = some r from g) H locs ls' ws _ hP hD hw hS hx (lrl.put1 q1 q3 hl' rfl hn) hs' hn1 hn2)
  case lstore n =>
    obtain ⟨o1, o2⟩ := and_s (a := decide (len = 2)) hok
    have hl1 : len = 2 := of_decide_eq_true o1
    subst hl1
    have hn := of_decide_eq_true o2
    obtain ⟨x, st', rfl, g⟩ := p1L_s hr
    intro H locs ls ws sv hP hD hw hS hx hl hs hn1 hn2
    obtain ⟨sv', rfl, hs'⟩ := srlL hs
    obtain ⟨q1, L, q2, q3⟩ := hl
    exact lv_lstore hX hb hd q2 hn rfl (fun ls' hl' => hk _ _ _ (show k (st2 lv n (aL x)) st' h = some r from g) H locs ls' ws _ hP hD hw hS hx (lrl.put2 q1 q3 hl' rfl hn) hs' hn1 hn2)
  case lstore_n n =>
    obtain ⟨o1, o2⟩ := and_s (a := decide (len = 1)) hok
    have hl1 : len = 1 := of_decide_eq_true o1
    subst hl1
    have hn := of_decide_eq_true o2
    obtain ⟨x, st', rfl, g⟩ := p1L_s hr
    intro H locs ls ws sv hP hD hw hS hx hl hs hn1 hn2
    obtain ⟨sv', rfl, hs'⟩ := srlL hs
    obtain ⟨q1, L, q2, q3⟩ := hl
    exact lv_lstore_n hX hb hd rfl q2 hn rfl (fun ls' hl' => hk _ _ _ (show k (st2 lv n (aL x)) st' h = some r from g) H locs ls' ws _ hP hD hw hS hx (lrl.put2 q1 q3 hl' rfl hn) hs' hn1 hn2)
  case astore n =>
    obtain ⟨o1, o2⟩ := and_s (a := decide (len = 2)) hok
    have hl1 : len = 2 := of_decide_eq_true o1
    subst hl1
    have hn := of_decide_eq_true o2
    obtain ⟨x, st', rfl, g⟩ := p1R_s hr
    intro H locs ls ws sv hP hD hw hS hx hl hs hn1 hn2
    obtain ⟨o', sv', rfl, ho, hs'⟩ := srlR hs
    obtain ⟨q1, L, q2, q3⟩ := hl
    cases o' with
    | none => exact lv_astoreN hX hb hd q2 hn rfl (fun ls' hl' => hk _ _ _ g H locs ls' ws _ hP hD hw hS hx (lrl.put1 q1 q3 hl' ⟨none, ho, rfl⟩ hn) hs' hn1 hn2)
    | some a => exact lv_astore hX hb hd q2 hn rfl (fun ls' hl' => hk _ _ _ g H locs ls' ws _ hP hD hw hS hx (lrl.put1 q1 q3 hl' ⟨some a, ho, rfl⟩ hn) hs' hn1 hn2)
  case astore_n n =>
    obtain ⟨o1, o2⟩ := and_s (a := decide (len = 1)) hok
    have hl1 : len = 1 := of_decide_eq_true o1
    subst hl1
    have hn := of_decide_eq_true o2
    obtain ⟨x, st', rfl, g⟩ := p1R_s hr
    intro H locs ls ws sv hP hD hw hS hx hl hs hn1 hn2
    obtain ⟨o', sv', rfl, ho, hs'⟩ := srlR hs
    obtain ⟨q1, L, q2, q3⟩ := hl
    cases o' with
    | none => exact lv_astore_nN hX hb hd rfl q2 hn rfl (fun ls' hl' => hk _ _ _ g H locs ls' ws _ hP hD hw hS hx (lrl.put1 q1 q3 hl' ⟨none, ho, rfl⟩ hn) hs' hn1 hn2)
    | some a => exact lv_astore_n hX hb hd rfl q2 hn rfl (fun ls' hl' => hk _ _ _ g H locs ls' ws _ hP hD hw hS hx (lrl.put1 q1 q3 hl' ⟨some a, ho, rfl⟩ hn) hs' hn1 hn2)
  case iinc n zz =>
    obtain ⟨o1, o2⟩ := and_s (a := decide (len = 3)) hok
    have hl1 : len = 3 := of_decide_eq_true o1
    subst hl1
    have hn := of_decide_eq_true o2
    obtain ⟨x, ex, g⟩ := ldI_s hr
    intro H locs ls ws sv hP hD hw hS hx hl hs hn1 hn2
    obtain ⟨q1, L, q2, q3⟩ := hl
    obtain ⟨w, g1, g2⟩ := q3 _ _ ex nofun
    have g3 : w = _ := g2
    subst g3
    obtain ⟨ix, hix⟩ := List.getElem?_of_mem g1
    exact lv_iinc (v := x + zI zz) hX hb hd q2 hix rfl hn rfl (fun ls' hl' => hk _ _ _ (show k (st1 lv n (aI (x + zI zz))) st h = some r from g) H locs ls' ws _ hP hD hw hS hx (lrl.put1 q1 q3 hl' rfl hn) hs hn1 hn2)
  case dup =>
    have hl1 : len = 1 := of_decide_eq_true (p := len = 1) hok
    subst hl1
    obtain ⟨v, st', rfl, g⟩ := p1V_s hr
    obtain ⟨q, g⟩ := if_s g
    intro H locs ls ws sv hP hD hw hS hx hl hs hn1 hn2
    obtain ⟨w, sv', rfl, hv, hvw, hs'⟩ := srlV hs
    exact lv_dup hX hb hd (hvw.cat q) (hk _ _ _ g H locs ls ws _ hP hD hw hS hx hl ⟨⟨hv, hvw⟩, ⟨hv, hvw⟩, hs'⟩ hn1 hn2)
  case dup2 =>
    have hl1 : len = 1 := of_decide_eq_true (p := len = 1) hok
    subst hl1
    obtain ⟨o, i, st', rfl, g⟩ := pRI_s hr
    intro H locs ls ws sv hP hD hw hS hx hl hs hn1 hn2
    obtain ⟨sv1, rfl, hs1⟩ := srlI hs
    obtain ⟨o', sv', rfl, ho, hs'⟩ := srlR hs1
    exact lv_dup2_11 hX hb hd rfl (by cases o' <;> rfl) (hk _ _ _ g H locs ls ws _ hP hD hw hS hx hl ⟨⟨nofun, rfl⟩, ⟨nofun, o', ho, rfl⟩, ⟨nofun, rfl⟩, ⟨nofun, o', ho, rfl⟩, hs'⟩ hn1 hn2)
  case pop =>
    have hl1 : len = 1 := of_decide_eq_true (p := len = 1) hok
    subst hl1
    obtain ⟨v, st', rfl, g⟩ := p1V_s hr
    obtain ⟨q, g⟩ := if_s g
    intro H locs ls ws sv hP hD hw hS hx hl hs hn1 hn2
    obtain ⟨w, sv', rfl, hv, hvw, hs'⟩ := srlV hs
    exact lv_pop hX hb hd (hvw.cat q) (hk _ _ _ g H locs ls ws _ hP hD hw hS hx hl hs' hn1 hn2)
  case iadd =>
    have hl1 : len = 1 := of_decide_eq_true (p := len = 1) hok
    subst hl1
    obtain ⟨x, y, st', rfl, g⟩ := p2I_s hr
    intro H locs ls ws sv hP hD hw hS hx hl hs hn1 hn2
    obtain ⟨sv1, rfl, hs1⟩ := srlI hs
    obtain ⟨sv', rfl, hs'⟩ := srlI hs1
    exact lv_iadd hX hb hd (hk _ _ _ g H locs ls ws _ hP hD hw hS hx hl ⟨⟨nofun, rfl⟩, hs'⟩ hn1 hn2)
  case isub =>
    have hl1 : len = 1 := of_decide_eq_true (p := len = 1) hok
    subst hl1
    obtain ⟨x, y, st', rfl, g⟩ := p2I_s hr
    intro H locs ls ws sv hP hD hw hS hx hl hs hn1 hn2
    obtain ⟨sv1, rfl, hs1⟩ := srlI hs
    obtain ⟨sv', rfl, hs'⟩ := srlI hs1
    exact lv_isub hX hb hd (hk _ _ _ g H locs ls ws _ hP hD hw hS hx hl ⟨⟨nofun, rfl⟩, hs'⟩ hn1 hn2)
  case imul =>
    have hl1 : len = 1 := of_decide_eq_true (p := len = 1) hok
    subst hl1
    obtain ⟨x, y, st', rfl, g⟩ := p2I_s hr
    intro H locs ls ws sv hP hD hw hS hx hl hs hn1 hn2
    obtain ⟨sv1, rfl, hs1⟩ := srlI hs
    obtain ⟨sv', rfl, hs'⟩ := srlI hs1
    exact lv_imul hX hb hd (hk _ _ _ g H locs ls ws _ hP hD hw hS hx hl ⟨⟨nofun, rfl⟩, hs'⟩ hn1 hn2)
  case iand =>
    have hl1 : len = 1 := of_decide_eq_true (p := len = 1) hok
    subst hl1
    obtain ⟨x, y, st', rfl, g⟩ := p2I_s hr
    intro H locs ls ws sv hP hD hw hS hx hl hs hn1 hn2
    obtain ⟨sv1, rfl, hs1⟩ := srlI hs
    obtain ⟨sv', rfl, hs'⟩ := srlI hs1
    exact lv_iand hX hb hd (hk _ _ _ g H locs ls ws _ hP hD hw hS hx hl ⟨⟨nofun, rfl⟩, hs'⟩ hn1 hn2)
  case ior =>
    have hl1 : len = 1 := of_decide_eq_true (p := len = 1) hok
    subst hl1
    obtain ⟨x, y, st', rfl, g⟩ := p2I_s hr
    intro H locs ls ws sv hP hD hw hS hx hl hs hn1 hn2
    obtain ⟨sv1, rfl, hs1⟩ := srlI hs
    obtain ⟨sv', rfl, hs'⟩ := srlI hs1
    exact lv_ior hX hb hd (hk _ _ _ g H locs ls ws _ hP hD hw hS hx hl ⟨⟨nofun, rfl⟩, hs'⟩ hn1 hn2)
  case ixor =>
    have hl1 : len = 1 := of_decide_eq_true (p := len = 1) hok
    subst hl1
    obtain ⟨x, y, st', rfl, g⟩ := p2I_s hr
    intro H locs ls ws sv hP hD hw hS hx hl hs hn1 hn2
    obtain ⟨sv1, rfl, hs1⟩ := srlI hs
    obtain ⟨sv', rfl, hs'⟩ := srlI hs1
    exact lv_ixor hX hb hd (hk _ _ _ g H locs ls ws _ hP hD hw hS hx hl ⟨⟨nofun, rfl⟩, hs'⟩ hn1 hn2)
  case ishl =>
    have hl1 : len = 1 := of_decide_eq_true (p := len = 1) hok
    subst hl1
    obtain ⟨x, y, st', rfl, g⟩ := p2I_s hr
    intro H locs ls ws sv hP hD hw hS hx hl hs hn1 hn2
    obtain ⟨sv1, rfl, hs1⟩ := srlI hs
    obtain ⟨sv', rfl, hs'⟩ := srlI hs1
    exact lv_ishl hX hb hd (hk _ _ _ g H locs ls ws _ hP hD hw hS hx hl ⟨⟨nofun, rfl⟩, hs'⟩ hn1 hn2)
  case ishr =>
    have hl1 : len = 1 := of_decide_eq_true (p := len = 1) hok
    subst hl1
    obtain ⟨x, y, st', rfl, g⟩ := p2I_s hr
    intro H locs ls ws sv hP hD hw hS hx hl hs hn1 hn2
    obtain ⟨sv1, rfl, hs1⟩ := srlI hs
    obtain ⟨sv', rfl, hs'⟩ := srlI hs1
    exact lv_ishr hX hb hd (hk _ _ _ g H locs ls ws _ hP hD hw hS hx hl ⟨⟨nofun, rfl⟩, hs'⟩ hn1 hn2)
  case iushr =>
    have hl1 : len = 1 := of_decide_eq_true (p := len = 1) hok
    subst hl1
    obtain ⟨x, y, st', rfl, g⟩ := p2I_s hr
    intro H locs ls ws sv hP hD hw hS hx hl hs hn1 hn2
    obtain ⟨sv1, rfl, hs1⟩ := srlI hs
    obtain ⟨sv', rfl, hs'⟩ := srlI hs1
    exact lv_iushr hX hb hd rfl (hk _ _ _ g H locs ls ws _ hP hD hw hS hx hl ⟨⟨nofun, rfl⟩, hs'⟩ hn1 hn2)
  case idiv =>
    have hl1 : len = 1 := of_decide_eq_true (p := len = 1) hok
    subst hl1
    obtain ⟨x, y, st', rfl, g⟩ := p2I_s hr
    obtain ⟨q, g⟩ := if_n g
    intro H locs ls ws sv hP hD hw hS hx hl hs hn1 hn2
    obtain ⟨sv1, rfl, hs1⟩ := srlI hs
    obtain ⟨sv', rfl, hs'⟩ := srlI hs1
    exact lv_idiv hX hb hd q (hk _ _ _ g H locs ls ws _ hP hD hw hS hx hl ⟨⟨nofun, rfl⟩, hs'⟩ hn1 hn2)
  case irem =>
    have hl1 : len = 1 := of_decide_eq_true (p := len = 1) hok
    subst hl1
    obtain ⟨x, y, st', rfl, g⟩ := p2I_s hr
    obtain ⟨q, g⟩ := if_n g
    intro H locs ls ws sv hP hD hw hS hx hl hs hn1 hn2
    obtain ⟨sv1, rfl, hs1⟩ := srlI hs
    obtain ⟨sv', rfl, hs'⟩ := srlI hs1
    exact lv_irem hX hb hd q (hk _ _ _ g H locs ls ws _ hP hD hw hS hx hl ⟨⟨nofun, rfl⟩, hs'⟩ hn1 hn2)
  case ladd =>
    have hl1 : len = 1 := of_decide_eq_true (p := len = 1) hok
    subst hl1
    obtain ⟨x, y, st', rfl, g⟩ := p2L_s hr
    intro H locs ls ws sv hP hD hw hS hx hl hs hn1 hn2
    obtain ⟨sv1, rfl, hs1⟩ := srlL hs
    obtain ⟨sv', rfl, hs'⟩ := srlL hs1
    exact lv_ladd hX hb hd (hk _ _ _ g H locs ls ws _ hP hD hw hS hx hl ⟨⟨nofun, rfl⟩, hs'⟩ hn1 hn2)
  case lsub =>
    have hl1 : len = 1 := of_decide_eq_true (p := len = 1) hok
    subst hl1
    obtain ⟨x, y, st', rfl, g⟩ := p2L_s hr
    intro H locs ls ws sv hP hD hw hS hx hl hs hn1 hn2
    obtain ⟨sv1, rfl, hs1⟩ := srlL hs
    obtain ⟨sv', rfl, hs'⟩ := srlL hs1
    exact lv_lsub hX hb hd (hk _ _ _ g H locs ls ws _ hP hD hw hS hx hl ⟨⟨nofun, rfl⟩, hs'⟩ hn1 hn2)
  case land =>
    have hl1 : len = 1 := of_decide_eq_true (p := len = 1) hok
    subst hl1
    obtain ⟨x, y, st', rfl, g⟩ := p2L_s hr
    intro H locs ls ws sv hP hD hw hS hx hl hs hn1 hn2
    obtain ⟨sv1, rfl, hs1⟩ := srlL hs
    obtain ⟨sv', rfl, hs'⟩ := srlL hs1
    exact lv_land hX hb hd (hk _ _ _ g H locs ls ws _ hP hD hw hS hx hl ⟨⟨nofun, rfl⟩, hs'⟩ hn1 hn2)
  case lor =>
    have hl1 : len = 1 := of_decide_eq_true (p := len = 1) hok
    subst hl1
    obtain ⟨x, y, st', rfl, g⟩ := p2L_s hr
    intro H locs ls ws sv hP hD hw hS hx hl hs hn1 hn2
    obtain ⟨sv1, rfl, hs1⟩ := srlL hs
    obtain ⟨sv', rfl, hs'⟩ := srlL hs1
    exact lv_lor hX hb hd (hk _ _ _ g H locs ls ws _ hP hD hw hS hx hl ⟨⟨nofun, rfl⟩, hs'⟩ hn1 hn2)
  case lxor =>
    have hl1 : len = 1 := of_decide_eq_true (p := len = 1) hok
    subst hl1
    obtain ⟨x, y, st', rfl, g⟩ := p2L_s hr
    intro H locs ls ws sv hP hD hw hS hx hl hs hn1 hn2
    obtain ⟨sv1, rfl, hs1⟩ := srlL hs
    obtain ⟨sv', rfl, hs'⟩ := srlL hs1
    exact lv_lxor hX hb hd (hk _ _ _ g H locs ls ws _ hP hD hw hS hx hl ⟨⟨nofun, rfl⟩, hs'⟩ hn1 hn2)
  case lcmp =>
    have hl1 : len = 1 := of_decide_eq_true (p := len = 1) hok
    subst hl1
    obtain ⟨x, y, st', rfl, g⟩ := p2L_s hr
    intro H locs ls ws sv hP hD hw hS hx hl hs hn1 hn2
    obtain ⟨sv1, rfl, hs1⟩ := srlL hs
    obtain ⟨sv', rfl, hs'⟩ := srlL hs1
    exact W.lcmp hX hb hd (hk _ _ _ g H locs ls ws _ hP hD hw hS hx hl ⟨⟨nofun, rfl⟩, hs'⟩ hn1 hn2)
  case lshl =>
    have hl1 : len = 1 := of_decide_eq_true (p := len = 1) hok
    subst hl1
    obtain ⟨x, y, st', rfl, g⟩ := pLI_s hr
    intro H locs ls ws sv hP hD hw hS hx hl hs hn1 hn2
    obtain ⟨sv1, rfl, hs1⟩ := srlI hs
    obtain ⟨sv', rfl, hs'⟩ := srlL hs1
    exact lv_lshl hX hb hd rfl (hk _ _ _ g H locs ls ws _ hP hD hw hS hx hl ⟨⟨nofun, rfl⟩, hs'⟩ hn1 hn2)
  case lshr =>
    have hl1 : len = 1 := of_decide_eq_true (p := len = 1) hok
    subst hl1
    obtain ⟨x, y, st', rfl, g⟩ := pLI_s hr
    intro H locs ls ws sv hP hD hw hS hx hl hs hn1 hn2
    obtain ⟨sv1, rfl, hs1⟩ := srlI hs
    obtain ⟨sv', rfl, hs'⟩ := srlL hs1
    exact lv_lshr hX hb hd rfl (hk _ _ _ g H locs ls ws _ hP hD hw hS hx hl ⟨⟨nofun, rfl⟩, hs'⟩ hn1 hn2)
  case lushr =>
    have hl1 : len = 1 := of_decide_eq_true (p := len = 1) hok
    subst hl1
    obtain ⟨x, y, st', rfl, g⟩ := pLI_s hr
    intro H locs ls ws sv hP hD hw hS hx hl hs hn1 hn2
    obtain ⟨sv1, rfl, hs1⟩ := srlI hs
    obtain ⟨sv', rfl, hs'⟩ := srlL hs1
    exact lv_lushr hX hb hd rfl (hk _ _ _ g H locs ls ws _ hP hD hw hS hx hl ⟨⟨nofun, rfl⟩, hs'⟩ hn1 hn2)
  case ineg =>
    have hl1 : len = 1 := of_decide_eq_true (p := len = 1) hok
    subst hl1
    obtain ⟨x, st', rfl, g⟩ := p1I_s hr
    intro H locs ls ws sv hP hD hw hS hx hl hs hn1 hn2
    obtain ⟨sv', rfl, hs'⟩ := srlI hs
    exact lv_ineg hX hb hd (hk _ _ _ g H locs ls ws _ hP hD hw hS hx hl ⟨⟨nofun, rfl⟩, hs'⟩ hn1 hn2)
  case lneg =>
    have hl1 : len = 1 := of_decide_eq_true (p := len = 1) hok
    subst hl1
    obtain ⟨x, st', rfl, g⟩ := p1L_s hr
    intro H locs ls ws sv hP hD hw hS hx hl hs hn1 hn2
    obtain ⟨sv', rfl, hs'⟩ := srlL hs
    exact lv_lneg hX hb hd (hk _ _ _ g H locs ls ws _ hP hD hw hS hx hl ⟨⟨nofun, rfl⟩, hs'⟩ hn1 hn2)
  case i2l =>
    have hl1 : len = 1 := of_decide_eq_true (p := len = 1) hok
    subst hl1
    obtain ⟨x, st', rfl, g⟩ := p1I_s hr
    intro H locs ls ws sv hP hD hw hS hx hl hs hn1 hn2
    obtain ⟨sv', rfl, hs'⟩ := srlI hs
    exact lv_i2l hX hb hd rfl (hk _ _ _ g H locs ls ws _ hP hD hw hS hx hl ⟨⟨nofun, rfl⟩, hs'⟩ hn1 hn2)
  case l2i =>
    have hl1 : len = 1 := of_decide_eq_true (p := len = 1) hok
    subst hl1
    obtain ⟨x, st', rfl, g⟩ := p1L_s hr
    intro H locs ls ws sv hP hD hw hS hx hl hs hn1 hn2
    obtain ⟨sv', rfl, hs'⟩ := srlL hs
    exact lv_l2i hX hb hd rfl (hk _ _ _ g H locs ls ws _ hP hD hw hS hx hl ⟨⟨nofun, rfl⟩, hs'⟩ hn1 hn2)
  case getfield i =>
    obtain ⟨o1, o2⟩ := and_s (a := decide (len = 3)) hok
    have hl1 : len = 3 := of_decide_eq_true o1
    subst hl1
    obtain ⟨ci, j, kd, l1, rfl, g1⟩ := rs3_s hr
    obtain ⟨c1, c2, c3, c4, l2, he, o3⟩ := okq4_s o2
    cases he
    obtain ⟨o, st', rfl, g2⟩ := p1R_s g1
    obtain ⟨a, rfl, ha, g3⟩ := obj_s g2
    obtain ⟨v, hv, g4⟩ := mb_s g3
    exact sm_get X hd o3 ha hv (hk _ _ _ g4)
  case putfield i =>
    obtain ⟨o1, o2⟩ := and_s (a := decide (len = 3)) hok
    have hl1 : len = 3 := of_decide_eq_true o1
    subst hl1
    obtain ⟨ci, j, kd, l1, rfl, g1⟩ := rs3_s hr
    obtain ⟨c1, c2, c3, c4, l2, he, o3⟩ := okq4_s o2
    cases he
    obtain ⟨o3, o4⟩ := and_s o3
    obtain ⟨v, st', rfl, g2⟩ := p1V_s g1
    obtain ⟨o, st', rfl, g3⟩ := p1R_s g2
    obtain ⟨a, rfl, ha, g4⟩ := obj_s g3
    obtain ⟨h', hv, g5⟩ := mb_s g4
    exact sm_put X hd o3 o4 ha hv (hk _ _ _ g5)
  case iaload =>
    have hl1 : len = 1 := of_decide_eq_true (p := len = 1) hok
    subst hl1
    obtain ⟨o, i, st', rfl, g1⟩ := pRI_s hr
    obtain ⟨a, n, rfl, ha, hi, g2⟩ := idx_s g1
    exact sm_iald X hd ha hi (hk _ _ _ g2)
  case laload =>
    have hl1 : len = 1 := of_decide_eq_true (p := len = 1) hok
    subst hl1
    obtain ⟨o, i, st', rfl, g1⟩ := pRI_s hr
    obtain ⟨a, n, rfl, ha, hi, g2⟩ := idx_s g1
    exact sm_lald X hd ha hi (hk _ _ _ g2)
  case baload =>
    have hl1 : len = 1 := of_decide_eq_true (p := len = 1) hok
    subst hl1
    obtain ⟨o, i, st', rfl, g1⟩ := pRI_s hr
    obtain ⟨a, n, rfl, ha, hi, g2⟩ := idx_s g1
    exact sm_zald X hd ha hi (hk _ _ _ g2)
  case aaload =>
    have hl1 : len = 1 := of_decide_eq_true (p := len = 1) hok
    subst hl1
    obtain ⟨o, i, st', rfl, g1⟩ := pRI_s hr
    obtain ⟨a, n, rfl, ha, hi, g2⟩ := idx_s g1
    exact sm_aald X hd ha hi (hk _ _ _ g2)
  case iastore =>
    have hl1 : len = 1 := of_decide_eq_true (p := len = 1) hok
    subst hl1
    obtain ⟨x, st', rfl, g0⟩ := p1I_s hr
    obtain ⟨o, i, st', rfl, g1⟩ := pRI_s g0
    obtain ⟨a, n, rfl, ha, hi, g2⟩ := idx_s g1
    exact sm_iast X hd ha hi (hk _ _ _ (show k lv st' (sI h a i.toNatClampNeg x) = some r from g2))
  case lastore =>
    have hl1 : len = 1 := of_decide_eq_true (p := len = 1) hok
    subst hl1
    obtain ⟨x, st', rfl, g0⟩ := p1L_s hr
    obtain ⟨o, i, st', rfl, g1⟩ := pRI_s g0
    obtain ⟨a, n, rfl, ha, hi, g2⟩ := idx_s g1
    exact sm_last X hd ha hi (hk _ _ _ (show k lv st' (sL h a i.toNatClampNeg x) = some r from g2))
  case bastore =>
    have hl1 : len = 1 := of_decide_eq_true (p := len = 1) hok
    subst hl1
    obtain ⟨x, st', rfl, g0⟩ := p1I_s hr
    obtain ⟨o, i, st', rfl, g1⟩ := pRI_s g0
    obtain ⟨h01, g1⟩ := if_s g1
    obtain ⟨a, n, rfl, ha, hi, g2⟩ := idx_s g1
    exact sm_zast X h01 hd ha hi (hk _ _ _ (show k lv st' (sI h a i.toNatClampNeg x) = some r from g2))
  case aastore =>
    have hl1 : len = 1 := of_decide_eq_true (p := len = 1) hok
    subst hl1
    obtain ⟨x, st', rfl, g0⟩ := p1R_s hr
    obtain ⟨o, i, st', rfl, g1⟩ := pRI_s g0
    obtain ⟨v, rfl, hv, g1⟩ := obj_s g1
    obtain ⟨a, n, rfl, ha, hi, g2⟩ := idx_s g1
    exact sm_aast X hd ha hv hi (hk _ _ _ (show k lv st' (sR h a i.toNatClampNeg (some v)) = some r from g2))
  case arraylength =>
    have hl1 : len = 1 := of_decide_eq_true (p := len = 1) hok
    subst hl1
    obtain ⟨o, st', rfl, g1⟩ := p1R_s hr
    obtain ⟨a, rfl, g2⟩ := mb_s g1
    obtain ⟨n, ha, g3⟩ := mb_s g2
    exact sm_alen X hd ha (hk _ _ _ g3)
  case goto o =>
    obtain ⟨o1, o2⟩ := and_s (a := decide (len = 3)) hok
    have hl1 : len = 3 := of_decide_eq_true o1
    subst hl1
    obtain ⟨t, l1, rfl, g⟩ := rs1_s hr
    obtain ⟨t', l2, he, o3⟩ := okq1_s o2
    cases he
    obtain ⟨q, p1, p2⟩ := okT_s o3
    intro H locs ls ws sv hP hD hw hS hx hl hs hn1 hn2
    exact lv_goto hX hb hd p2 (hK _ _ _ _ _ g p1 H locs ls ws _ hP hD hw hS hx (hl.msk _) hs hn1 hn2)
  case ifCond cd o =>
    obtain ⟨o1, o2⟩ := and_s (a := decide (len = 3)) hok
    have hl1 : len = 3 := of_decide_eq_true o1
    subst hl1
    obtain ⟨t, f, l1, rfl, g⟩ := rs2_s hr
    obtain ⟨t', f', l2, he, o3⟩ := okq2_s o2
    cases he
    obtain ⟨o3, o4⟩ := and_s o3
    obtain ⟨qt, p1, p2⟩ := okT_s o3
    obtain ⟨qf, p3, p4⟩ := okT_s o4
    have hqf : qf = pc + 3 := by omega
    subst hqf
    obtain ⟨x, st', rfl, g⟩ := p1I_s g
    intro H locs ls ws sv hP hD hw hS hx hl hs hn1 hn2
    obtain ⟨sv', rfl, hs'⟩ := srlI hs
    have kt : K t (msk (lm t) lv) st' h = some r → _ := fun g => hK _ _ _ _ _ g p1 H locs ls ws _ hP hD hw hS hx (hl.msk _) hs' hn1 hn2
    have kf : K f (msk (lm f) lv) st' h = some r → _ := fun g => hK _ _ _ _ _ g p3 H locs ls ws _ hP hD hw hS hx (hl.msk _) hs' hn1 hn2
    cases cd
    · exact lv_if_eq hX hb hd p2 (fun q => kt ((if_pos q).symm.trans g)) (fun q => kf ((if_neg q).symm.trans g))
    · exact lv_if_ne hX hb hd p2 (fun q => kt ((if_neg q).symm.trans g)) (fun q => kf ((if_pos q).symm.trans g))
    · exact lv_if_lt hX hb hd p2 (fun q => kt ((if_pos q).symm.trans g)) (fun q => kf ((if_neg q).symm.trans g))
    · exact lv_if_ge hX hb hd p2 (fun q => kt ((if_neg (Int32.not_lt.mpr q)).symm.trans g)) (fun q => kf ((if_pos (Int32.not_le.mp q)).symm.trans g))
    · exact lv_if_gt hX hb hd p2 (fun q => kt ((if_neg (Int32.not_le.mpr q)).symm.trans g)) (fun q => kf ((if_pos (Int32.not_lt.mp q)).symm.trans g))
    · exact lv_if_le hX hb hd p2 (fun q => kt ((if_pos q).symm.trans g)) (fun q => kf ((if_neg q).symm.trans g))
  case if_icmp cd o =>
    obtain ⟨o1, o2⟩ := and_s (a := decide (len = 3)) hok
    have hl1 : len = 3 := of_decide_eq_true o1
    subst hl1
    obtain ⟨t, f, l1, rfl, g⟩ := rs2_s hr
    obtain ⟨t', f', l2, he, o3⟩ := okq2_s o2
    cases he
    obtain ⟨o3, o4⟩ := and_s o3
    obtain ⟨qt, p1, p2⟩ := okT_s o3
    obtain ⟨qf, p3, p4⟩ := okT_s o4
    have hqf : qf = pc + 3 := by omega
    subst hqf
    obtain ⟨x, y, st', rfl, g⟩ := p2I_s g
    intro H locs ls ws sv hP hD hw hS hx hl hs hn1 hn2
    obtain ⟨sv1, rfl, hs1⟩ := srlI hs
    obtain ⟨sv', rfl, hs'⟩ := srlI hs1
    have kt : K t (msk (lm t) lv) st' h = some r → _ := fun g => hK _ _ _ _ _ g p1 H locs ls ws _ hP hD hw hS hx (hl.msk _) hs' hn1 hn2
    have kf : K f (msk (lm f) lv) st' h = some r → _ := fun g => hK _ _ _ _ _ g p3 H locs ls ws _ hP hD hw hS hx (hl.msk _) hs' hn1 hn2
    cases cd
    · exact lv_icmp_eq hX hb hd p2 (fun q => kt ((if_pos q).symm.trans g)) (fun q => kf ((if_neg q).symm.trans g))
    · exact lv_icmp_ne hX hb hd p2 (fun q => kt ((if_neg q).symm.trans g)) (fun q => kf ((if_pos q).symm.trans g))
    · exact lv_icmp_lt hX hb hd p2 (fun q => kt ((if_pos q).symm.trans g)) (fun q => kf ((if_neg q).symm.trans g))
    · exact lv_icmp_ge hX hb hd p2 (fun q => kt ((if_neg (Int32.not_lt.mpr q)).symm.trans g)) (fun q => kf ((if_pos (Int32.not_le.mp q)).symm.trans g))
    · exact lv_icmp_gt hX hb hd p2 (fun q => kt ((if_neg (Int32.not_le.mpr q)).symm.trans g)) (fun q => kf ((if_pos (Int32.not_lt.mp q)).symm.trans g))
    · exact lv_icmp_le hX hb hd p2 (fun q => kt ((if_pos q).symm.trans g)) (fun q => kf ((if_neg q).symm.trans g))
  case ifnull o =>
    obtain ⟨o1, o2⟩ := and_s (a := decide (len = 3)) hok
    have hl1 : len = 3 := of_decide_eq_true o1
    subst hl1
    obtain ⟨t, f, l1, rfl, g⟩ := rs2_s hr
    obtain ⟨t', f', l2, he, o3⟩ := okq2_s o2
    cases he
    obtain ⟨o3, o4⟩ := and_s o3
    obtain ⟨qt, p1, p2⟩ := okT_s o3
    obtain ⟨qf, p3, p4⟩ := okT_s o4
    have hqf : qf = pc + 3 := by omega
    subst hqf
    obtain ⟨oo, st', rfl, g2⟩ := p1R_s g
    intro H locs ls ws sv hP hD hw hS hx hl hs hn1 hn2
    obtain ⟨o', sv', rfl, ho, hs'⟩ := srlR hs
    have kt : K t (msk (lm t) lv) st' h = some r → _ := fun g => hK _ _ _ _ _ g p1 H locs ls ws _ hP hD hw hS hx (hl.msk _) hs' hn1 hn2
    have kf : K f (msk (lm f) lv) st' h = some r → _ := fun g => hK _ _ _ _ _ g p3 H locs ls ws _ hP hD hw hS hx (hl.msk _) hs' hn1 hn2
    cases oo with
    | none =>
      cases ho
      exact lv_ifnullN hX hb hd p2 (kt ((if_pos rfl).symm.trans g2))
    | some a =>
      obtain ⟨q, hq1, hq2⟩ := ho
      subst hq2
      exact lv_ifnull hX hb hd (kf ((if_neg (fun z => by cases z)).symm.trans g2))
  case ifnonnull o =>
    obtain ⟨o1, o2⟩ := and_s (a := decide (len = 3)) hok
    have hl1 : len = 3 := of_decide_eq_true o1
    subst hl1
    obtain ⟨t, f, l1, rfl, g⟩ := rs2_s hr
    obtain ⟨t', f', l2, he, o3⟩ := okq2_s o2
    cases he
    obtain ⟨o3, o4⟩ := and_s o3
    obtain ⟨qt, p1, p2⟩ := okT_s o3
    obtain ⟨qf, p3, p4⟩ := okT_s o4
    have hqf : qf = pc + 3 := by omega
    subst hqf
    obtain ⟨oo, st', rfl, g2⟩ := p1R_s g
    intro H locs ls ws sv hP hD hw hS hx hl hs hn1 hn2
    obtain ⟨o', sv', rfl, ho, hs'⟩ := srlR hs
    have kt : K t (msk (lm t) lv) st' h = some r → _ := fun g => hK _ _ _ _ _ g p1 H locs ls ws _ hP hD hw hS hx (hl.msk _) hs' hn1 hn2
    have kf : K f (msk (lm f) lv) st' h = some r → _ := fun g => hK _ _ _ _ _ g p3 H locs ls ws _ hP hD hw hS hx (hl.msk _) hs' hn1 hn2
    cases oo with
    | none =>
      cases ho
      exact lv_ifnonnullN hX hb hd (kf ((if_pos rfl).symm.trans g2))
    | some a =>
      obtain ⟨q, hq1, hq2⟩ := ho
      subst hq2
      exact lv_ifnonnull hX hb hd p2 (kt ((if_neg (fun z => by cases z)).symm.trans g2))
  case tableswitch df lo hi offs =>
    obtain ⟨t, ts, rfl, g⟩ := rsL_s hr
    have o3 : (okT P t (pc + df) && decide (ts.length = offs.size) && ((List.range offs.size).all fun i => match ts[i]?, offs[i]? with | some t, some o => okT P t (pc + o) | _, _ => false)) = true := hok
    obtain ⟨o3, o5⟩ := and_s o3
    obtain ⟨o3, o4⟩ := and_s o3
    obtain ⟨qt, p1, p2⟩ := okT_s o3
    have hlen : ts.length = offs.size := of_decide_eq_true o4
    obtain ⟨x, st', rfl, g2⟩ := p1I_s g
    intro H locs ls ws sv hP hD hw hS hx hl hs hn1 hn2
    obtain ⟨sv', rfl, hs'⟩ := srlI hs
    rcases if_c g2 with ⟨q, g3⟩ | ⟨q, g3⟩
    · exact lv_tableOut hX hb hd q p2 (hK _ _ _ _ _ g3 p1 H locs ls ws _ hP hD hw hS hx (hl.msk _) hs' hn1 hn2)
    · obtain ⟨tt, ht, g4⟩ := mb_s g3
      have hi : (x.toInt - lo).toNat < offs.size := by rw [← hlen]; exact (List.getElem?_eq_some_iff.mp ht).1
      have o6 := List.all_eq_true.mp o5 _ (List.mem_range.mpr hi)
      rw [ht, Array.getElem?_eq_getElem hi] at o6
      obtain ⟨qq, p3, p4⟩ := okT_s o6
      exact lv_tableIn hX hb hd (fun z => q (Or.inl z)) (fun z => q (Or.inr z)) (Array.getElem?_eq_getElem hi) p4 (hK _ _ _ _ _ g4 p3 H locs ls ws _ hP hD hw hS hx (hl.msk _) hs' hn1 hn2)
  case invokestatic i =>
    obtain ⟨o1, o2⟩ := and_s (a := decide (len = 3)) hok
    have hl1 : len = 3 := of_decide_eq_true o1
    subst hl1
    obtain ⟨c1, n1, rk, l1, rfl, g1⟩ := rs3_s hr
    obtain ⟨c2, c3, c4, pos, l2, he, o3⟩ := okq4_s o2
    cases he
    obtain ⟨as, st', e1, g2⟩ := pop_s g1
    obtain ⟨v, h', e2, hrk, g3⟩ := cal_s g2
    obtain ⟨x1, x2⟩ := hCx _ _ _ _ e2
    obtain ⟨y1, y2⟩ := hkx _ _ _ g3
    by_cases hc1 : c1 = 1
    · subst hc1
      rw [if_pos rfl] at o3
      obtain ⟨o3, o4⟩ := and_s o3
      have hn5 : n1 = 5 := of_decide_eq_true o3
      subst hn5
      exact sm_acp X hd (okW_m o4) (hC1 _ _ _ _ e2 (Or.inl rfl)) e1 (by omega) (by omega) (hk _ _ _ g3)
    rw [if_neg hc1] at o3
    by_cases hc4 : c1 = 4
    · subst hc4
      rw [if_pos rfl] at o3
      obtain ⟨o3, o4⟩ := and_s o3
      have hn5 : n1 = 2 := of_decide_eq_true o3
      subst hn5
      exact sm_max X hd (okW_m o4) (hC1 _ _ _ _ e2 (Or.inr (Or.inl rfl))) e1 (by omega) (by omega) (by have z1 : h.1.length ≤ h'.1.length := x1; omega) (by have z1 : tsz h.1 ≤ tsz h'.1 := x2; omega) (hk _ _ _ g3)
    rw [if_neg hc4] at o3
    by_cases hc5 : c1 = 5
    · subst hc5
      rw [if_pos rfl] at o3
      obtain ⟨o3, o4⟩ := and_s o3
      have hn5 : n1 = 2 := of_decide_eq_true o3
      subst hn5
      exact sm_min X hd (okW_m o4) (hC1 _ _ _ _ e2 (Or.inr (Or.inr (Or.inl rfl)))) e1 (by omega) (by omega) (by have z1 : h.1.length ≤ h'.1.length := x1; omega) (by have z1 : tsz h.1 ≤ tsz h'.1 := x2; omega) (hk _ _ _ g3)
    rw [if_neg hc5] at o3
    by_cases hc0 : c1 = 0
    · subst hc0
      rw [if_pos rfl] at o3
      obtain ⟨o3, o4⟩ := and_s o3
      have hn5 : n1 = 2 := of_decide_eq_true o3
      subst hn5
      exact sm_min0 X hd (okW_m o4) (hC1 _ _ _ _ e2 (Or.inr (Or.inr (Or.inr rfl)))) e1 (by omega) (by omega) (by have z1 : h.1.length ≤ h'.1.length := x1; omega) (by have z1 : tsz h.1 ≤ tsz h'.1 := x2; omega) (hk _ _ _ g3)
    · rw [if_neg hc0] at o3
      obtain ⟨KK, q1, q2, q3, q4, q5⟩ := okC_s o3
      obtain ⟨kd, nn, r1, r2, r3⟩ := okE_s (hKT _ _ q1 q2)
      rw [q4] at r1
      rw [q5] at r2
      cases r1
      cases r2
      exact sm_callS X hd r3 q3 (hC _ _ _ _ _ e2 q2 hc4 hc5 q1) e1 hRf hRl x1 x2 (by show h'.1.length - n0 ≤ R.cells; omega) (by show tsz h'.1 - s0 ≤ R.slots; omega) (hk _ _ _ g3)
  case invokevirtual i =>
    obtain ⟨o1, o2⟩ := and_s (a := decide (len = 3)) hok
    have hl1 : len = 3 := of_decide_eq_true o1
    subst hl1
    obtain ⟨c1, n1, ci, rk, l1, rfl, g1⟩ := rs4_s hr
    obtain ⟨c2, c3, c4, c5, pos, l2, he, o3⟩ := okq5_s o2
    cases he
    obtain ⟨o3, o4⟩ := and_s o3
    obtain ⟨as, st', e1, g2⟩ := pop_s g1
    obtain ⟨e3, g2⟩ := rcv_s g2
    obtain ⟨v, h', e2, hrk, g3⟩ := cal_s g2
    obtain ⟨x1, x2⟩ := hCx _ _ _ _ e2
    obtain ⟨y1, y2⟩ := hkx _ _ _ g3
    obtain ⟨KK, q1, q2, q3, q4, q5⟩ := okC_s o3
    obtain ⟨kd, nn, r1, r2, r3⟩ := okE_s (hKT _ _ q1 q2)
    rw [q4] at r1
    rw [q5] at r2
    cases r1
    cases r2
    exact sm_callV X hd r3 q3 (okCl_s q1 o4) e3 (hC _ _ _ _ _ e2 q2 (fun z => by rw [z] at q1; cases q1; cases q4) (fun z => by rw [z] at q1; cases q1; cases q4) q1) e1 hRf hRl x1 x2 (by show h'.1.length - n0 ≤ R.cells; omega) (by show tsz h'.1 - s0 ≤ R.slots; omega) (hk _ _ _ g3)
  case invokespecial i =>
    obtain ⟨o1, o2⟩ := and_s (a := decide (len = 3)) hok
    have hl1 : len = 3 := of_decide_eq_true o1
    subst hl1
    obtain ⟨c1, n1, ci, rk, l1, rfl, g1⟩ := rs4_s hr
    obtain ⟨c2, c3, c4, c5, pos, l2, he, o3⟩ := okq5_s o2
    cases he
    obtain ⟨as, st', e1, g2⟩ := pop_s g1
    obtain ⟨e3, g2⟩ := rcv_s g2
    obtain ⟨o3, o4⟩ := and_s o3
    have hci : ci ≠ 100 := of_decide_eq_true o3
    have e3 := e3.resolve_right (fun ⟨_, _, _, z, _⟩ => hci z)
    rcases if_c g2 with ⟨hc0, g3⟩ | ⟨hc0, g3⟩
    · rw [if_pos hc0] at o4
      obtain ⟨o4, o5⟩ := and_s o4
      have hn1' : n1 = 1 := of_decide_eq_true o4
      subst hn1'
      exact sm_obj X hd (okW_m o5) e3 e1 (by omega) (by omega) (hk _ _ _ g3)
    · rw [if_neg hc0] at o4
      obtain ⟨v, h', e2, hrk, g4⟩ := cal_s g3
      obtain ⟨x1, x2⟩ := hCx _ _ _ _ e2
      obtain ⟨y1, y2⟩ := hkx _ _ _ g4
      have hKK : ∃ KK, KT[c1]? = some KK ∧ 2 ≤ c1 ∧ (Cond.methodLink own i KK.1 ∈ gtbl ∨ Cond.methodLinkNest own i KK.1 "NameReaders" ∈ NESTL) ∧ KK.2.2.2.2.2.2.2[4]? = some 2 ∧ KK.2.2.2.2.2.2.2[5]? = some n1 := by
        split at o4
        · obtain ⟨KK, q1, q2, q3, q4, q5⟩ := okC_s (and_s o4).1
          exact ⟨KK, q1, q2, Or.inl q3, q4, q5⟩
        · obtain ⟨KK, q1, q2, q3, q4, q5⟩ := okCN_s (and_s o4).1
          exact ⟨KK, q1, q2, Or.inr q3, q4, q5⟩
      obtain ⟨KK, q1, q2, q3, q4, q5⟩ := hKK
      obtain ⟨kd, nn, r1, r2, r3⟩ := okE_s (hKT _ _ q1 q2)
      rw [q4] at r1
      rw [q5] at r2
      cases r1
      cases r2
      exact sm_callI X hd r3 q3 e3 (hC _ _ _ _ _ e2 q2 (fun z => by rw [z] at q1; cases q1; cases q4) (fun z => by rw [z] at q1; cases q1; cases q4) q1) e1 hRf hRl x1 x2 (by show h'.1.length - n0 ≤ R.cells; omega) (by show tsz h'.1 - s0 ≤ R.slots; omega) (hk _ _ _ g4)
  case new i =>
    obtain ⟨o1, o2⟩ := and_s (a := decide (len = 3)) hok
    have hl1 : len = 3 := of_decide_eq_true o1
    subst hl1
    obtain ⟨ci, l1, rfl, g⟩ := rs1_s hr
    obtain ⟨c2, pos, l2, he, o3⟩ := okq2_s o2
    cases he
    split at o3
    case h_2 => cases o3
    rename_i q hq
    have g : k lv (aR (some h.1.length) :: st) (nw h (4, ci)) = some r := g
    obtain ⟨y1, y2⟩ := hkx _ _ _ g
    exact sm_new X hd hq (okW_m o3) (by omega) (by omega) (hk _ _ _ g)
  case newarray ty =>
    obtain ⟨o1, o2⟩ := and_s (a := decide (len = 2)) hok
    have hl1 : len = 2 := of_decide_eq_true o1
    subst hl1
    obtain ⟨kd, l1, rfl, g⟩ := rs1_s hr
    obtain ⟨c2, l2, he, o3⟩ := okq1_s o2
    cases he
    obtain ⟨x, st', rfl, g⟩ := p1I_s g
    obtain ⟨q, g⟩ := if_n g
    have g : k lv (aR (some h.1.length) :: st') (nw h (kd, x.toNatClampNeg)) = some r := g
    obtain ⟨y1, y2⟩ := hkx _ _ _ g
    cases ty
    case int =>
      have : kd = 0 := of_decide_eq_true o3
      subst this
      exact sm_newi X hd q (by omega) (by omega) (hk _ _ _ g)
    case long =>
      have : kd = 1 := of_decide_eq_true o3
      subst this
      exact sm_newl X hd q (by omega) (by omega) (hk _ _ _ g)
    case boolean =>
      have : kd = 2 := of_decide_eq_true o3
      subst this
      exact sm_newz X hd q (by omega) (by omega) (hk _ _ _ g)
    all_goals cases o3
  case anewarray i =>
    obtain ⟨o1, o2⟩ := and_s (a := decide (len = 3)) hok
    have hl1 : len = 3 := of_decide_eq_true o1
    subst hl1
    obtain ⟨pos, l2, he, o3⟩ := okq1_s o2
    obtain ⟨x, st', rfl, g⟩ := p1I_s hr
    obtain ⟨q, g⟩ := if_n g
    have g : k lv (aR (some h.1.length) :: st') (nw h (3, x.toNatClampNeg)) = some r := g
    obtain ⟨y1, y2⟩ := hkx _ _ _ g
    exact sm_newq X hd (okW_m o3) q (by omega) (by omega) (hk _ _ _ g)
  case ireturn =>
    obtain ⟨o1, o2⟩ := and_s (a := decide (len = 1)) hok
    have hl1 : len = 1 := of_decide_eq_true o1
    subst hl1
    obtain ⟨zz, l1, rfl, g⟩ := rs1_s hr
    obtain ⟨c2, l2, he, o3⟩ := okq1_s o2
    cases he
    obtain ⟨x, st', rfl, g⟩ := p1I_s g
    obtain ⟨rfl, g⟩ := nil_s g
    obtain ⟨rfl, hz⟩ := rtI_s g
    by_cases hzz : zz = 0
    · rw [if_pos hzz] at o3
      exact sm_iret X (of_decide_eq_true o3) hd
    · rw [if_neg hzz] at o3
      exact sm_zret X (hz.resolve_left hzz) (of_decide_eq_true o3) hd
  case lreturn =>
    obtain ⟨o1, o2⟩ := and_s (a := decide (len = 1)) hok
    have hl1 : len = 1 := of_decide_eq_true o1
    subst hl1
    obtain ⟨x, st', rfl, g⟩ := p1L_s hr
    obtain ⟨rfl, g⟩ := nil_s g
    cases g
    exact sm_lret X (of_decide_eq_true o2) hd
  case areturn =>
    obtain ⟨o1, o2⟩ := and_s (a := decide (len = 1)) hok
    have hl1 : len = 1 := of_decide_eq_true o1
    subst hl1
    obtain ⟨x, st', rfl, g⟩ := p1R_s hr
    obtain ⟨rfl, g⟩ := nil_s g
    cases g
    split at o2
    · exact sm_aret X rfl (Or.inl ⟨_, rfl⟩) hd
    · exact sm_aret X rfl (Or.inr ⟨_, rfl⟩) hd
    · cases o2
  case return_ =>
    obtain ⟨o1, o2⟩ := and_s (a := decide (len = 1)) hok
    have hl1 : len = 1 := of_decide_eq_true o1
    subst hl1
    obtain ⟨rfl, g⟩ := nil_s hr
    cases g
    exact sm_vret X (of_decide_eq_true o2) hd
  all_goals cases hr
end SIMF
