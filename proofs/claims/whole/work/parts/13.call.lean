/-! calls -/
theorem goodT {ws : List Cond} (h : ∀ w ∈ ws, w ∈ gtbl) : GoodIn gtbl ws := fun w hw => ⟨h w hw, good_of_word (List.mem_filter.mp (h w hw)).2⟩
/-- the nest's words, on a warmer machine -/
theorem nest_warm {s U : State} (hW : s.WarmedH U.vm) (h : ∀ w ∈ NESTL, va_Nw w s) : ∀ w ∈ NESTL, va_Nw w U := by
  intro w hw
  have h1 := h w hw
  simp only [NESTL, List.mem_cons, List.not_mem_nil, or_false] at hw
  rcases hw with rfl | rfl | rfl <;> exact h1.warmM hW
theorem nest_same {s U : State} (hv : s.vm = U.vm) (h : ∀ w ∈ NESTL, va_Nw w s) : ∀ w ∈ NESTL, va_Nw w U := by
  intro w hw
  have h1 := h w hw
  simp only [NESTL, List.mem_cons, List.not_mem_nil, or_false] at hw
  rcases hw with rfl | rfl | rfl <;> exact h1.same rfl hv
/-- how a method begins -/
def PP (D : va_G) (ad av : Nat → Nat) (ws : va_W) (h : AH) (avs : List Value) (sz : Nat) : Array Value → State → Prop := fun a U =>
  a = avs.toArray ∧ U.heap.size = sz ∧ va_P D cls ws U.heap ∧ va_K D cls [] U ∧ va_D (fun _ => True) ws ∧ wrl U D ad ws h ∧ EV ad av (va_A ws sz) U U.heap
theorem PP_blind {D : va_G} {ad av : Nat → Nat} {ws : va_W} {h : AH} {avs : List Value} {sz : Nat} : FrameBlind (PP D ad av ws h avs sz) := by
  intro a U g mk ⟨h1, h2, h3, h4, h5, h6, h7, h8, h9, h10, h11, h12⟩
  refine ⟨h1, h2, h3, h4.moved (u := U) (U := U.calling g mk a) (Vm.Alike.refl U.vm), h5, h6.moved (s := U) (t := U.calling g mk a) (Vm.Alike.refl U.vm), h7.moved (u := U) (U := U.calling g mk a) (Vm.Alike.refl U.vm), h8.moved (u := U) (U := U.calling g mk a) (Vm.Alike.refl U.vm), fun q hq => ?_, nest_same (s := U) (U := U.calling g mk a) rfl h10, h11.moved (u := U) (U := U.calling g mk a) (Vm.Alike.refl U.vm), h12.moved (u := U) (U := U.calling g mk a) (Vm.Alike.refl U.vm)⟩
  obtain ⟨tx, g1⟩ := h9 q hq
  exact ⟨tx, g1.same (u := U) rfl⟩
/-- a method's contract, out of the abstract machine's answer -/
def CON (l : Launch) (d : Nat) (K : KE) (as : List AV) (h : AH) (r : AR) : Prop := ∀ (D : va_G) (ad av : Nat → Nat) (ws : va_W) (avs : List Value) (sz : Nat), srl ad ws as avs →
  Met l K.1 (.code K.1 K.2.1 K.2.2.1 K.2.2.2.1 :: gtbl) { frames := d, cells := r.2.1.length - h.1.length, slots := tsz r.2.1 - tsz h.1, locals := 64 * d } (PP D ad av ws h avs sz) (QQ D ad ws sz r) (r.2.1.length - h.1.length) (tsz r.2.1 - tsz h.1) (va_A ws sz)
/-- what is checked of a method's words -/
def KP (K : KE) (kd n : Nat) : Prop := Cond.code K.1 K.2.1 K.2.2.1 K.2.2.2.1 ∈ gtbl ∧ (kd = 1 → Cond.static K.1 ∈ gtbl) ∧ (kd ≠ 1 → Cond.instanceMethod K.1 ∈ gtbl) ∧ (kd = 0 → Cond.selects K.1.cls K.1 K.1 ∈ gtbl) ∧ Cond.initialized K.1.cls ∈ gtbl ∧
  K.1.cls ≠ "java/lang/invoke/MethodHandle" ∧ K.1.cls ≠ "java/lang/invoke/VarHandle" ∧ (parseMethodDescriptor K.1.desc).map (fun d => d.parameters.length) = some (if kd = 1 then n else n - 1) ∧ K.2.2.1 ≤ 40 ∧ plainName K.1.cls = true ∧ (kd ≠ 1 → 1 ≤ n) ∧ (kd = 2 → K.1.name = "<init>" ∧ K.2.2.2.1 = none)
theorem if1_s {c : Prop} {_ : Decidable c} {a : Bool} (h : (if c then a else true) = true) : c → a = true := fun hc => by rw [if_pos hc] at h; exact h
theorem okE_s {K : KE} (h : okE K = true) : ∃ kd n, K.2.2.2.2.2.2.2[4]? = some kd ∧ K.2.2.2.2.2.2.2[5]? = some n ∧ KP K kd n := by
  unfold okE at h
  split at h
  · rename_i p0 p1 p2 p3 kd n e
    obtain ⟨h, h11⟩ := and_s h
    obtain ⟨h, h10⟩ := and_s h
    obtain ⟨h, h9⟩ := and_s h
    obtain ⟨h, h8⟩ := and_s h
    obtain ⟨h, h7⟩ := and_s h
    obtain ⟨h, h6⟩ := and_s h
    obtain ⟨h, h5⟩ := and_s h
    obtain ⟨h, h4⟩ := and_s h
    obtain ⟨h, h3⟩ := and_s h
    obtain ⟨h1, h2⟩ := and_s h
    refine ⟨kd, n, by rw [e]; rfl, by rw [e]; rfl, okW_m h1, fun z => ?_, fun z => ?_, fun z => okW_m (if1_s h3 z), okW_m h4, of_decide_eq_true h5, of_decide_eq_true h6, of_decide_eq_true h7, of_decide_eq_true h8, h9, fun z => ?_, fun z => ?_⟩
    · rw [if_pos z] at h2; exact okW_m h2
    · rw [if_neg z] at h2; exact okW_m h2
    · rw [if_neg z] at h10; exact of_decide_eq_true h10
    · obtain ⟨z1, z2⟩ := and_s (if1_s h11 z)
      exact ⟨of_decide_eq_true z1, of_decide_eq_true z2⟩
  · cases h
theorem okC_s {own : String} {idx c n pos kind : Nat} (h : okC own idx c n pos kind = true) : ∃ K, KT[c]? = some K ∧ 2 ≤ c ∧ Cond.methodLink own idx K.1 ∈ gtbl ∧ K.2.2.2.2.2.2.2[4]? = some kind ∧ K.2.2.2.2.2.2.2[5]? = some n := by
  unfold okC at h
  split at h
  · rename_i K e
    obtain ⟨h, h4⟩ := and_s h
    obtain ⟨h, h3⟩ := and_s h
    obtain ⟨h1, h2⟩ := and_s h
    exact ⟨K, e, of_decide_eq_true h1, okW_m h2, of_decide_eq_true h3, of_decide_eq_true h4⟩
  · cases h
theorem okCN_s {own : String} {idx c n pos kind : Nat} (h : okCN own idx c n pos kind = true) : ∃ K, KT[c]? = some K ∧ 2 ≤ c ∧ Cond.methodLinkNest own idx K.1 "NameReaders" ∈ NESTL ∧ K.2.2.2.2.2.2.2[4]? = some kind ∧ K.2.2.2.2.2.2.2[5]? = some n := by
  unfold okCN at h
  split at h
  · rename_i K e
    obtain ⟨h, h4⟩ := and_s h
    obtain ⟨h, h3⟩ := and_s h
    obtain ⟨h1, h2⟩ := and_s h
    exact ⟨K, e, of_decide_eq_true h1, of_decide_eq_true h2, of_decide_eq_true h3, of_decide_eq_true h4⟩
  · cases h
theorem okCl_s {c ci : Nat} {K : KE} (hK : KT[c]? = some K) (h : okCl c ci = true) : (ci = 100 ∧ K.1.cls = "java/lang/String") ∨ ∃ q, cls[ci]? = some q ∧ K.1.cls = q.1 := by
  unfold okCl at h
  rw [hK] at h
  simp only [Bool.or_eq_true, Bool.and_eq_true, decide_eq_true_eq] at h
  rcases h with h | h
  · exact Or.inl h
  · right
    split at h
    · exact ⟨_, by assumption, of_decide_eq_true h⟩
    · cases h
theorem popA_s {ad : Nat → Nat} {ws : va_W} : ∀ {n : Nat} {acc st as st' : List AV} {av sv : List Value}, popA n acc st = some (as, st') → srl ad ws acc av → srl ad ws st sv → ∃ u rest, sv = u ++ rest ∧ u.length = n ∧ srl ad ws as (u.reverse ++ av) ∧ srl ad ws st' rest
  | 0, acc, st, as, st', av, sv, e, h1, h2 => by cases e; exact ⟨[], sv, rfl, rfl, h1, h2⟩
  | n + 1, acc, [], as, st', av, sv, e, h1, h2 => by cases e
  | n + 1, acc, v :: st, as, st', av, sv, e, h1, h2 => by
    obtain ⟨w, sv', rfl, hv, hw, h3⟩ := srlV h2
    obtain ⟨u, rest, g1, g2, g3, g4⟩ := popA_s (acc := v :: acc) (av := w :: av) e ⟨⟨hv, hw⟩, h1⟩ h3
    exact ⟨w :: u, rest, by rw [g1]; rfl, by rw [List.length_cons, g2], by rw [List.reverse_cons, List.append_assoc]; exact g3, g4⟩
theorem srl_app {ad : Nat → Nat} {ws : va_W} {v : Option AV} {w : Option Value} {st : List AV} {sv : List Value} (h : orv ad ws v w) (hs : srl ad ws st sv) : srl ad ws (v.toList ++ st) (w.toList ++ sv) := by
  cases v with
  | none => cases h; exact hs
  | some a => obtain ⟨x, rfl, h1, h2⟩ := h; exact ⟨⟨h1, h2⟩, hs⟩
section SIMD
variable {p : Program} {l : Launch} {e : Env} {R : Room} {s : State} {m : MethodId} {args : Array Value} {below : List Frame} {meth : Method} {c : Code} {cc : ByteArray} {nL : Nat} {own : String} {ini : Bool} {rt : Option FieldType} {D : va_G} {A : Nat → Prop} {ad av : Nat → Nat} {w0 : va_W} {n0 s0 : Nat} {Q : State → Prop} {lv st : List AV} {h : AH} {pc : Nat}

theorem nr_call {H : Heap} {locs : List Loc} {cells slots mc ms : Nat} {ls : Array Slot} {st0 rest : List Value} {r : AR} {ws : va_W} {a : Array Value} {free : Addr → Prop} (hr : va_Run p l e R s m args below meth c H locs cells slots mc ms (F0 m pc ls st0) rest (QQ D ad ws H.size r a) free) (hS : va_S A s.heap H locs) (hA : ∀ q, va_A ws H.size q → A q) (hf : ∀ q, free q → A q)
    (kk : ∀ (v : Option Value) (ws1 : va_W) (t : State) (H1 : Heap) (locs1 : List Loc), t.heap = H1 → s.vm.Alike t.vm → orv ad ws1 r.1 v → va_P D cls ws1 H1 → va_D A ws1 → wrl t D ad ws1 r.2 → xt ws ws1 → va_S A s.heap H1 locs1 → W p l e R s m args below meth c H1 locs1 (cells + mc) (slots + ms) Q (F0 m (pc + 3) ls (v.toList ++ rest))) : W p l e R s m args below meth c H locs cells slots Q (F0 m pc ls st0) := by
  intro T hT X
  obtain ⟨v, st₀, t, T', L, h0, X', hL, e1, e2, ⟨v', ws1, hv, ho, hP1, hK1, hD1, hw1, hx1, hz, hk⟩, st⟩ := hr T hT X
  cases hv
  rw [h0] at hz hk
  obtain ⟨t2, a1, b1⟩ := kk v ws1 t T'.heap (locs ++ L) e1.symm (by rw [← e2]; exact X'.warmed.alike) ho (by rw [e1]; exact hP1) (hD1.weaken (fun _ q _ hq => hA q.1 hq)) hw1 hx1
    ⟨Nat.le_trans hS.1 (by rw [e1]; exact hz), fun q h1 h2 => by rw [e1, hk q (Nat.lt_of_lt_of_le h1 hS.1) (fun z => h2 (hA q z))]; exact hS.2.1 q h1 h2, fun q hq => by
      rcases List.mem_append.mp hq with h | h
      · exact hS.2.2 q h
      · exact hf _ (hL q h)⟩ T' rfl X'
  exact ⟨t2, st t2 a1, b1⟩
theorem EV_in {H : Heap} {locs : List Loc} {ws : va_W} {U : State} (hE : EV ad av A s s.heap) (hS : va_S A s.heap H locs) (hF : ∀ q, va_A ws H.size q → A q) (hU : U.heap = H) (hW : s.WarmedH U.vm) : EV ad av (va_A ws H.size) U U.heap := by
  obtain ⟨h1, h2, h3, h4, h5, h6⟩ := hE
  refine ⟨?_, ?_, fun q hq => ?_, nest_warm hW h4, h5.moved hW.alike, by rw [hU]; exact ((h6.kept hS.2.1).narrow hF).moved hW.alike⟩
  · rw [hU]; exact ((h1.kept hS.2.1).narrow hF).moved hW.alike
  · rw [hU]; exact ((h2.kept hS.2.1).narrow hF).moved hW.alike
  · obtain ⟨tx, g⟩ := h3 q hq
    exact ⟨tx, g.warm hW⟩
theorem PP_in {H : Heap} {locs : List Loc} {ws : va_W} (X : CX p s m args meth c cc nL own ini rt D A ad av) (hP : va_P D cls ws H) (hD : va_D A ws) (hw : wrl s D ad ws h) (hS : va_S A s.heap H locs) (hF : ∀ q, va_A ws H.size q → A q) (avs : List Value) : ∀ U : State, U.heap = H → s.WarmedH U.vm → PP D ad av ws h avs H.size avs.toArray U := by
  obtain ⟨hX, hb, hml, hown, hts, hK, hA, hE, -⟩ := X
  intro U hU hW
  exact ⟨rfl, by rw [hU], by rw [hU]; exact hP, hK.moved hW.alike, hD.weaken (fun _ _ _ _ => trivial), hw.moved hW.alike, EV_in hE hS hF hU hW⟩
theorem A_in {H : Heap} {locs : List Loc} {ws : va_W} (X : CX p s m args meth c cc nL own ini rt D A ad av) (hD : va_D A ws) (hS : va_S A s.heap H locs) : ∀ q, va_A ws H.size q → A q := by
  intro q hq
  rcases hq with ⟨k, ee, hk⟩ | hq
  · exact hD.2 k _ hk
  · exact X.2.2.2.2.2.2.1 q (Nat.le_trans hS.1 hq)
/-- what comes behind a call -/
theorem sm_back {d : Nat} {K : KE} {as st' : List AV} {r1 : AR} {H : Heap} {locs : List Loc} {ls : Array Slot} {ws : va_W} {st0 rest : List Value} {a : Array Value}
    (X : CX p s m args meth c cc nL own ini rt D A ad av) (hD : va_D A ws) (hS : va_S A s.heap H locs) (hx : xt w0 ws) (hl : lrl ad ws lv ls nL) (hs : srl ad ws st' rest) (hn1 : n0 ≤ h.1.length) (hn2 : s0 ≤ tsz h.1)
    (g1 : h.1.length ≤ r1.2.1.length) (g2 : tsz h.1 ≤ tsz r1.2.1) (k : SM p l e R s m args below meth c nL D ad A w0 n0 s0 Q (pc + 3) lv (r1.1.toList ++ st') r1.2)
    (hr : va_Run p l e R s m args below meth c H locs (h.1.length - n0) (tsz h.1 - s0) (r1.2.1.length - h.1.length) (tsz r1.2.1 - tsz h.1) (F0 m pc ls st0) rest (QQ D ad ws H.size r1 a) (va_A ws H.size)) : W p l e R s m args below meth c H locs (h.1.length - n0) (tsz h.1 - s0) Q (F0 m pc ls st0) := by
  have hF := A_in X hD hS
  refine nr_call hr hS hF hF (fun v ws1 t H1 locs1 ht hvm ho hP1 hD1 hw1 hx1 hS1 => ?_)
  have := k H1 locs1 ls ws1 _ hP1 hD1 (hw1.moved hvm.symm) hS1 (hx.tr hx1) (hl.mono hx1) (srl_app ho (hs.mono hx1)) (by omega) (by omega)
  exact W.cs (by omega) (by omega) this
theorem sm_callS (X : CX p s m args meth c cc nL own ini rt D A ad av) {d idx n : Nat} {K : KE} {as st' : List AV} {r1 : AR} (hd : decode cc pc = .ok (.invokestatic idx, 3)) (hKP : KP K 1 n) (hlk : Cond.methodLink own idx K.1 ∈ gtbl) (hC : CON l d K as h r1) (hp : popW n st = some (as, st')) (hRf : d + 1 ≤ R.frames) (hRl : 64 * d + 64 ≤ R.locals) (g1 : h.1.length ≤ r1.2.1.length) (g2 : tsz h.1 ≤ tsz r1.2.1) (hR1 : r1.2.1.length - n0 ≤ R.cells) (hR2 : tsz r1.2.1 - s0 ≤ R.slots) (k : SM p l e R s m args below meth c nL D ad A w0 n0 s0 Q (pc + 3) lv (r1.1.toList ++ st') r1.2) : SM p l e R s m args below meth c nL D ad A w0 n0 s0 Q pc lv st h := by
  intro H locs ls ws sv hP hD hw hS hx hl hs hn1 hn2
  obtain ⟨hp1, hp2⟩ := popW_s hp
  obtain ⟨u, rest, rfl, hu, has, hs'⟩ := popA_s (av := []) hp1 trivial hs
  rw [List.append_nil] at has
  have hF := A_in X hD hS
  have hPP := PP_in (h := h) X hP hD hw hS hF u.reverse
  refine sm_back (d := d) (K := K) (as := as) (st' := st') (r1 := r1) (rest := rest) (a := u.reverse.toArray) X hD hS hx hl hs' hn1 hn2 g1 g2 k ?_
  obtain ⟨hX, hb, hml, hown, hts, hK, hA, hE, -⟩ := X
  obtain ⟨c1, c2, c3, c4, c5, c6, c7, c8, c9, c10, c11, c12⟩ := hKP
  have hT : GoodIn gtbl (va_wsS own idx K.1 (.code K.1 K.2.1 K.2.2.1 K.2.2.2.1 :: gtbl)) := goodT fun w hw => by
    simp only [va_wsS, List.mem_append, List.mem_cons, List.not_mem_nil, or_false] at hw
    rcases hw with (rfl | rfl | rfl) | rfl | hw
    · exact hlk
    · exact c2 rfl
    · exact c5
    · exact c1
    · exact hw
  exact va_runS (As := u.reverse) (rest := rest) ⟨hX, hb, hml, hown, hts⟩ (hC D ad av ws u.reverse H.size has) (va_cwS n hts hT rfl rfl rfl ⟨c6, c7, by rw [c8, if_pos rfl]⟩ ⟨hRf, by show 8 + (K.2.2.1 + 11) + 64 * d ≤ R.locals; omega⟩) ⟨PP_blind, hPP⟩ rfl (by rw [List.length_reverse]; exact hu) hl.2.choose_spec.1.1 (by rw [List.reverse_reverse]) (lv_room (by rw [hs'.wt]; exact hp2)) hd ⟨by omega, by omega⟩
theorem sm_callV (X : CX p s m args meth c cc nL own ini rt D A ad av) {d idx n ci : Nat} {K : KE} {as st' : List AV} {r1 : AR} (hd : decode cc pc = .ok (.invokevirtual idx, 3)) (hKP : KP K 0 n) (hlk : Cond.methodLink own idx K.1 ∈ gtbl) (hcl : (ci = 100 ∧ K.1.cls = "java/lang/String") ∨ ∃ q, cls[ci]? = some q ∧ K.1.cls = q.1) (hrc : (∃ a as', as = aR (some a) :: as' ∧ h.1[a]? = some (4, ci)) ∨ ∃ q as', as = aS q :: as' ∧ ci = 100 ∧ q < 9) (hC : CON l d K as h r1) (hp : popW n st = some (as, st')) (hRf : d + 1 ≤ R.frames) (hRl : 64 * d + 64 ≤ R.locals) (g1 : h.1.length ≤ r1.2.1.length) (g2 : tsz h.1 ≤ tsz r1.2.1) (hR1 : r1.2.1.length - n0 ≤ R.cells) (hR2 : tsz r1.2.1 - s0 ≤ R.slots) (k : SM p l e R s m args below meth c nL D ad A w0 n0 s0 Q (pc + 3) lv (r1.1.toList ++ st') r1.2) : SM p l e R s m args below meth c nL D ad A w0 n0 s0 Q pc lv st h := by
  intro H locs ls ws sv hP hD hw hS hx hl hs hn1 hn2
  obtain ⟨hp1, hp2⟩ := popW_s hp
  obtain ⟨u, rest, rfl, hu, has, hs'⟩ := popA_s (av := []) hp1 trivial hs
  rw [List.append_nil] at has
  have hF := A_in X hD hS
  have hPP := PP_in (h := h) X hP hD hw hS hF u.reverse
  refine sm_back (d := d) (K := K) (as := as) (st' := st') (r1 := r1) (rest := rest) (a := u.reverse.toArray) X hD hS hx hl hs' hn1 hn2 g1 g2 k ?_
  obtain ⟨hX, hb, hml, hown, hts, hK, hA, hE, -⟩ := X
  have hrv : ∃ b As, u.reverse = .ref b :: As ∧ ∃ cellB : Cell, H[b]? = some cellB ∧ cellB.vm.isStatics = false ∧ s.vm.findClass K.1.cls = some cellB.cls := by
    rcases hrc with ⟨a, as', rfl, ha⟩ | ⟨q, as', rfl, hq, hq9⟩
    · obtain ⟨q, ee, h1, h2, hc⟩ := hw.at ha
      obtain ⟨fs, qc, rfl, f2, -⟩ := hc
      obtain ⟨As, e1, -⟩ := srlA has h2
      rcases hcl with ⟨hz, -⟩ | ⟨q', hq1, hq2⟩
      · rw [hz] at f2; cases f2
      · rw [f2] at hq1
        cases hq1
        refine ⟨q, As, e1, ?_⟩
        rw [hq2]
        exact va_recv hK hP f2 h1
    · obtain ⟨w, As, e1, -, ⟨h1, h2⟩, -⟩ := srlV has
      subst h2
      rcases hcl with ⟨-, hz⟩ | ⟨q', hq1, -⟩
      · rw [hz]
        exact ⟨_, As, e1, vk_recv hE.1 hq9 hS⟩
      · rw [hq] at hq1; cases hq1
  obtain ⟨b, As, hu2, hcell⟩ := hrv
  obtain ⟨c1, c2, c3, c4, c5, c6, c7, c8, c9, c10, c11, c12⟩ := hKP
  have hT : GoodIn gtbl (wsV own idx K.1.cls K.1 (.code K.1 K.2.1 K.2.2.1 K.2.2.2.1 :: gtbl)) := goodT fun w hw => by
    simp only [wsV, List.mem_append, List.mem_cons, List.not_mem_nil, or_false] at hw
    rcases hw with (rfl | rfl | rfl | rfl) | rfl | hw
    · exact hlk
    · exact c3 (by decide)
    · exact c4 rfl
    · exact c5
    · exact c1
    · exact hw
  have hlen : As.length = n - 1 := by
    have : u.reverse.length = As.length + 1 := by rw [hu2]; rfl
    rw [List.length_reverse] at this
    omega
  have hst : u ++ rest = As.reverse ++ .ref b :: rest := by
    have : u = As.reverse ++ [.ref b] := by rw [← List.reverse_reverse u, hu2, List.reverse_cons]
    rw [this, List.append_assoc]
    rfl
  have hq := va_runV (As := As) (rest := rest) (b := b) (g := F0 m pc ls (u ++ rest)) ⟨hX, hb, hml, hown, hts⟩ (hC D ad av ws u.reverse H.size has) (cwV (n - 1) hts hT rfl rfl rfl ⟨rfl, c6, c7, by rw [c8, if_neg (by decide)]⟩ ⟨hRf, by show 8 + (K.2.2.1 + 11) + 64 * d ≤ R.locals; omega⟩) ⟨PP_blind, hcell, fun U hU hW => by rw [← hu2]; exact hPP U hU hW⟩ rfl hlen hl.2.choose_spec.1.1 hst (lv_room (by rw [hs'.wt]; exact hp2)) hd ⟨by omega, by omega⟩ (locs := locs) (below := below) (e := e) (l := l) (meth := meth) (cells := h.1.length - n0) (slots := tsz h.1 - s0)
  rw [← hu2] at hq
  exact hq
theorem sm_callI (X : CX p s m args meth c cc nL own ini rt D A ad av) {d idx n ci : Nat} {K : KE} {as st' : List AV} {r1 : AR} (hd : decode cc pc = .ok (.invokespecial idx, 3)) (hKP : KP K 2 n) (hlk : Cond.methodLink own idx K.1 ∈ gtbl ∨ Cond.methodLinkNest own idx K.1 "NameReaders" ∈ NESTL) (hrc : ∃ a as', as = aR (some a) :: as' ∧ h.1[a]? = some (4, ci)) (hC : CON l d K as h r1) (hp : popW n st = some (as, st')) (hRf : d + 1 ≤ R.frames) (hRl : 64 * d + 64 ≤ R.locals) (g1 : h.1.length ≤ r1.2.1.length) (g2 : tsz h.1 ≤ tsz r1.2.1) (hR1 : r1.2.1.length - n0 ≤ R.cells) (hR2 : tsz r1.2.1 - s0 ≤ R.slots) (k : SM p l e R s m args below meth c nL D ad A w0 n0 s0 Q (pc + 3) lv (r1.1.toList ++ st') r1.2) : SM p l e R s m args below meth c nL D ad A w0 n0 s0 Q pc lv st h := by
  intro H locs ls ws sv hP hD hw hS hx hl hs hn1 hn2
  obtain ⟨hp1, hp2⟩ := popW_s hp
  obtain ⟨u, rest, rfl, hu, has, hs'⟩ := popA_s (av := []) hp1 trivial hs
  rw [List.append_nil] at has
  have hF := A_in X hD hS
  have hPP := PP_in (h := h) X hP hD hw hS hF u.reverse
  refine sm_back (d := d) (K := K) (as := as) (st' := st') (r1 := r1) (rest := rest) (a := u.reverse.toArray) X hD hS hx hl hs' hn1 hn2 g1 g2 k ?_
  obtain ⟨hX, hb, hml, hown, hts, hK, hA, hE, -⟩ := X
  obtain ⟨a, as', rfl, ha⟩ := hrc
  obtain ⟨b, ee, h1, h2, hc⟩ := hw.at ha
  obtain ⟨As, hu2, -⟩ := srlA has h2
  obtain ⟨c1, c2, c3, c4, c5, c6, c7, c8, c9, c10, c11, c12⟩ := hKP
  obtain ⟨c13, c14⟩ := c12 rfl
  have hG : GoodIn gtbl (.code K.1 K.2.1 K.2.2.1 none :: gtbl) := goodT fun w hw => by
    rcases List.mem_cons.mp hw with rfl | hw
    · rw [← c14]; exact c1
    · exact hw
  have hlen : As.length = n - 1 := by
    have : u.reverse.length = As.length + 1 := by rw [hu2]; rfl
    rw [List.length_reverse] at this
    omega
  have hst : u ++ rest = As.reverse ++ .ref b :: rest := by
    have : u = As.reverse ++ [.ref b] := by rw [← List.reverse_reverse u, hu2, List.reverse_cons]
    rw [this, List.append_assoc]
    rfl
  have hM := hC D ad av ws u.reverse H.size has
  rw [c14] at hM
  rcases hlk with hlk | hlk
  · have hq := va_runI (As := As) (rest := rest) (b := b) (g := F0 m pc ls (u ++ rest)) ⟨hX, hb, hml, hown, hts⟩ hM (cwI (n - 1) hts hG rfl rfl rfl (hts _ c5) (hts _ hlk) (hts _ (c3 (by decide))) c13 ⟨c6, c7, by rw [c8, if_neg (by decide)]⟩ ⟨hRf, by show 8 + (K.2.2.1 + 11) + 64 * d ≤ R.locals; omega⟩) ⟨PP_blind, fun U hU hW => by rw [← hu2]; exact hPP U hU hW⟩ rfl hlen hl.2.choose_spec.1.1 hst (lv_room (by rw [hs'.wt]; exact hp2)) hd ⟨by omega, by omega⟩ (locs := locs) (below := below) (e := e) (l := l) (meth := meth) (cells := h.1.length - n0) (slots := tsz h.1 - s0)
    rw [← hu2] at hq
    exact hq
  · have hq := va_runIN (As := As) (rest := rest) (b := b) (g := F0 m pc ls (u ++ rest)) ⟨hX, hb, hml, hown, hts⟩ hM ⟨va_cnB (n - 1) hts hG rfl rfl rfl (hE.2.2.2.1 _ hlk) (hts _ c5) ⟨c6, c7, by rw [c8, if_neg (by decide)]⟩ ⟨hRf, by show 8 + (K.2.2.1 + 11) + 64 * d ≤ R.locals; omega⟩, c13, hts _ (c3 (by decide))⟩ ⟨PP_blind, fun U hU hW => by rw [← hu2]; exact hPP U hU hW⟩ rfl hlen hl.2.choose_spec.1.1 hst (lv_room (by rw [hs'.wt]; exact hp2)) hd ⟨by omega, by omega⟩ (locs := locs) (below := below) (e := e) (l := l) (meth := meth) (cells := h.1.length - n0) (slots := tsz h.1 - s0)
    rw [← hu2] at hq
    exact hq
end SIMD
