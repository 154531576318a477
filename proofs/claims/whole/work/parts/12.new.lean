/-! new cells, answers -/
theorem w_ai : Cond.arrayClass .int ∈ gtbl := by decide +kernel
theorem w_al : Cond.arrayClass .long ∈ gtbl := by decide +kernel
theorem w_az : Cond.arrayClass .boolean ∈ gtbl := by decide +kernel
theorem fk_ok : ∀ {ci : Nat} {q : vw_C}, cls[ci]? = some q → ∀ k, k < q.2.2 → fkk (tyF ci k) < 4
  | 0, _, h => by cases h; decide
  | 1, _, h => by cases h; decide
  | 2, _, h => by cases h; decide
  | 3, _, h => by cases h; decide
  | 4, _, h => by cases h; decide
  | 5, _, h => by cases h; decide
  | 6, _, h => by cases h; decide
  | 7, _, h => by cases h; decide
  | 8, _, h => by cases h; decide
  | 9, _, h => by cases h; decide
  | 10, _, h => by cases h; decide
  | 11, _, h => by cases h; decide
  | n + 12, q, h => by simp [cls] at h
theorem zI_mil {x : Int32} (h : ¬ (x < 0 ∨ zI 1000000 < x)) : ¬ x < 0 ∧ x.toNatClampNeg ≤ 1000000 := by
  refine ⟨fun q => h (Or.inl q), ?_⟩
  have h1 : ¬ zI 1000000 < x := fun q => h (Or.inr q)
  rw [Int32.lt_iff_toInt_lt] at h1
  have h2 : (zI 1000000).toInt = 1000000 := by decide
  rw [h2] at h1
  unfold Int32.toNatClampNeg
  omega
section SIMB
variable {p : Program} {l : Launch} {e : Env} {R : Room} {s : State} {m : MethodId} {args : Array Value} {below : List Frame} {meth : Method} {c : Code} {cc : ByteArray} {nL : Nat} {own : String} {ini : Bool} {rt : Option FieldType} {D : va_G} {A : Nat → Prop} {ad av : Nat → Nat} {w0 : va_W} {n0 s0 : Nat} {Q : State → Prop} {lv st : List AV} {h : AH} {pc : Nat}

theorem adr_new {ws : va_W} {q : Nat} {ee : va_E} (hl : ws.length = h.1.length) : adr (ws ++ [(q, ee)]) h.1.length = some q := by
  unfold adr
  rw [List.getElem?_append_right (by omega), hl, Nat.sub_self]
  rfl
theorem dflt {ci : Nat} (j : Nat) (hj : fkk (tyF ci j) < 4) (w : va_W) (sh : Nat × Nat) : ∃ a, gtf (nw h sh) h.1.length j (fkk (tyF ci j)) = some a ∧ vrl ad w a (defaultValue (tyF ci j)) := by
  generalize tyF ci j = ty at hj
  have z1 : hI (nw h sh) h.1.length j = 0 := by simp [hI, nw]
  have z2 : hL (nw h sh) h.1.length j = 0 := by simp [hL, nw]
  have z3 : hR (nw h sh) h.1.length j = none := by simp [hR, nw]
  cases ty
  case int => exact ⟨_, rfl, by rw [z1]; rfl⟩
  case long => exact ⟨_, rfl, by rw [z2]; rfl⟩
  case boolean => exact ⟨_, rfl, by rw [z1]; rfl⟩
  case object => exact ⟨_, rfl, none, by rw [z3]; rfl, rfl⟩
  case array => exact ⟨_, rfl, none, by rw [z3]; rfl, rfl⟩
  all_goals (exfalso; revert hj; simp [fkk])
theorem sm_new (X : CX p s m args meth c cc nL own ini rt D A ad av) {idx ci : Nat} {q : vw_C} (hd : decode cc pc = .ok (.new idx, 3)) (hcl : cls[ci]? = some q) (hlk : Cond.classLink own idx q.1 ∈ gtbl) (hR1 : (nw h (4, ci)).1.length - n0 ≤ R.cells) (hR2 : tsz (nw h (4, ci)).1 - s0 ≤ R.slots) (k : SM p l e R s m args below meth c nL D ad A w0 n0 s0 Q (pc + 3) lv (aR (some h.1.length) :: st) (nw h (4, ci))) : SM p l e R s m args below meth c nL D ad A w0 n0 s0 Q pc lv st h := by
  intro H locs ls ws sv hP hD hw hS hx hl hs hn1 hn2
  obtain ⟨hX, hb, hml, hown, hts, hK, hA, -⟩ := X
  obtain ⟨o1, o2, o3, o4, o5⟩ := clsOK hcl
  have e1 : (nw h (4, ci)).1.length = h.1.length + 1 := by simp [nw]
  have e2 : tsz (nw h (4, ci)).1 = tsz h.1 + q.2.2 := by
    show tsz (h.1 ++ [(4, ci)]) = _
    rw [tsz_app]
    simp [szS, nfl, hcl]
  rw [e1] at hR1
  rw [e2] at hR2
  have hlen : ((List.range q.2.2).map fun j => defaultValue (tyF ci j)).length = q.2.2 := by simp
  refine va_new (ci := ci) (fs := (List.range q.2.2).map fun j => defaultValue (tyF ci j)) hX hb hts o1 (tyF ci) o2 hown (hts _ hlk) (hts _ o4) (hts _ o5) hK hP hD hS hA hcl (fun j hj => by simp [vp_V, hj]) (by omega) (by omega) hd (fun qn H1 hP1 hD1 hS1 => ?_)
  have ha := adr_new (ee := .inr (ci, (List.range q.2.2).map fun j => defaultValue (tyF ci j))) (q := qn) hw.1
  have := k H1 locs ls _ (.ref qn :: sv) hP1 hD1 (hw.push ⟨_, q, rfl, hcl, hlen, fun j hj => by
    obtain ⟨a, g1, g2⟩ := dflt (ad := ad) (h := h) j (fk_ok hcl j hj) (ws ++ [(qn, .inr (ci, (List.range q.2.2).map fun j => defaultValue (tyF ci j)))]) (4, ci)
    exact ⟨a, _, g1, by simp [hj], g2⟩⟩) hS1 (hx.tr xt_app) (hl.mono xt_app) ⟨⟨nofun, some qn, ⟨qn, ha, rfl⟩, rfl⟩, hs.mono xt_app⟩ (by omega) (by omega)
  exact W.cs (by omega) (by omega) this
theorem sm_newi (X : CX p s m args meth c cc nL own ini rt D A ad av) {x : Int32} (hd : decode cc pc = .ok (.newarray .int, 2)) (hx0 : ¬ (x < 0 ∨ zI 1000000 < x)) (hR1 : (nw h (0, x.toNatClampNeg)).1.length - n0 ≤ R.cells) (hR2 : tsz (nw h (0, x.toNatClampNeg)).1 - s0 ≤ R.slots) (k : SM p l e R s m args below meth c nL D ad A w0 n0 s0 Q (pc + 2) lv (aR (some h.1.length) :: st) (nw h (0, x.toNatClampNeg))) : SM p l e R s m args below meth c nL D ad A w0 n0 s0 Q pc lv (aI x :: st) h := by
  intro H locs ls ws sv hP hD hw hS hx hl hs hn1 hn2
  obtain ⟨hX, hb, hml, hown, hts, hK, hA, -⟩ := X
  obtain ⟨z1, z2⟩ := zI_mil hx0
  obtain ⟨sv', rfl, hs'⟩ := srlI hs
  have e1 : (nw h (0, x.toNatClampNeg)).1.length = h.1.length + 1 := by simp [nw]
  have e2 : tsz (nw h (0, x.toNatClampNeg)).1 = tsz h.1 + x.toNatClampNeg := by
    show tsz (h.1 ++ [(0, x.toNatClampNeg)]) = _
    rw [tsz_app]
    simp [szS]
  rw [e1] at hR1
  rw [e2] at hR2
  refine va_newa (atype := .int) (ty := .int) (a0 := (x.toNatClampNeg, .inl (fun _ => 0))) hX hb (hts _ w_ai) rfl hK hP hD hS hA (fun _ => rfl) z1 rfl (by show x.toNatClampNeg * _ ≤ _; simp only [componentBytes]; omega) (by omega) (by omega) hd (fun qn cA H1 hK1 hP1 hD1 hS1 => ?_)
  have ha := adr_new (ee := .inl (cA, x.toNatClampNeg, .inl (fun _ => 0))) (q := qn) hw.1
  have := k H1 locs ls _ (.ref qn :: sv') hP1 hD1 (hw.push ⟨cA, by congr; funext z; simp [nw], hK1⟩) hS1 (hx.tr xt_app) (hl.mono xt_app) ⟨⟨nofun, some qn, ⟨qn, ha, rfl⟩, rfl⟩, hs'.mono xt_app⟩ (by omega) (by omega)
  exact W.cs (by omega) (by omega) this
theorem sm_newl (X : CX p s m args meth c cc nL own ini rt D A ad av) {x : Int32} (hd : decode cc pc = .ok (.newarray .long, 2)) (hx0 : ¬ (x < 0 ∨ zI 1000000 < x)) (hR1 : (nw h (1, x.toNatClampNeg)).1.length - n0 ≤ R.cells) (hR2 : tsz (nw h (1, x.toNatClampNeg)).1 - s0 ≤ R.slots) (k : SM p l e R s m args below meth c nL D ad A w0 n0 s0 Q (pc + 2) lv (aR (some h.1.length) :: st) (nw h (1, x.toNatClampNeg))) : SM p l e R s m args below meth c nL D ad A w0 n0 s0 Q pc lv (aI x :: st) h := by
  intro H locs ls ws sv hP hD hw hS hx hl hs hn1 hn2
  obtain ⟨hX, hb, hml, hown, hts, hK, hA, -⟩ := X
  obtain ⟨z1, z2⟩ := zI_mil hx0
  obtain ⟨sv', rfl, hs'⟩ := srlI hs
  have e1 : (nw h (1, x.toNatClampNeg)).1.length = h.1.length + 1 := by simp [nw]
  have e2 : tsz (nw h (1, x.toNatClampNeg)).1 = tsz h.1 + x.toNatClampNeg := by
    show tsz (h.1 ++ [(1, x.toNatClampNeg)]) = _
    rw [tsz_app]
    simp [szS]
  rw [e1] at hR1
  rw [e2] at hR2
  refine va_newa (atype := .long) (ty := .long) (a0 := (x.toNatClampNeg, .inr (.inl (fun _ => 0)))) hX hb (hts _ w_al) rfl hK hP hD hS hA (fun _ => rfl) z1 rfl (by show x.toNatClampNeg * _ ≤ _; simp only [componentBytes]; omega) (by omega) (by omega) hd (fun qn cA H1 hK1 hP1 hD1 hS1 => ?_)
  have ha := adr_new (ee := .inl (cA, x.toNatClampNeg, .inr (.inl (fun _ => 0)))) (q := qn) hw.1
  have := k H1 locs ls _ (.ref qn :: sv') hP1 hD1 (hw.push ⟨cA, by congr; funext z; simp [nw], hK1⟩) hS1 (hx.tr xt_app) (hl.mono xt_app) ⟨⟨nofun, some qn, ⟨qn, ha, rfl⟩, rfl⟩, hs'.mono xt_app⟩ (by omega) (by omega)
  exact W.cs (by omega) (by omega) this
theorem sm_newz (X : CX p s m args meth c cc nL own ini rt D A ad av) {x : Int32} (hd : decode cc pc = .ok (.newarray .boolean, 2)) (hx0 : ¬ (x < 0 ∨ zI 1000000 < x)) (hR1 : (nw h (2, x.toNatClampNeg)).1.length - n0 ≤ R.cells) (hR2 : tsz (nw h (2, x.toNatClampNeg)).1 - s0 ≤ R.slots) (k : SM p l e R s m args below meth c nL D ad A w0 n0 s0 Q (pc + 2) lv (aR (some h.1.length) :: st) (nw h (2, x.toNatClampNeg))) : SM p l e R s m args below meth c nL D ad A w0 n0 s0 Q pc lv (aI x :: st) h := by
  intro H locs ls ws sv hP hD hw hS hx hl hs hn1 hn2
  obtain ⟨hX, hb, hml, hown, hts, hK, hA, -⟩ := X
  obtain ⟨z1, z2⟩ := zI_mil hx0
  obtain ⟨sv', rfl, hs'⟩ := srlI hs
  have e1 : (nw h (2, x.toNatClampNeg)).1.length = h.1.length + 1 := by simp [nw]
  have e2 : tsz (nw h (2, x.toNatClampNeg)).1 = tsz h.1 + x.toNatClampNeg := by
    show tsz (h.1 ++ [(2, x.toNatClampNeg)]) = _
    rw [tsz_app]
    simp [szS]
  rw [e1] at hR1
  rw [e2] at hR2
  refine va_newa (atype := .boolean) (ty := .boolean) (a0 := (x.toNatClampNeg, .inl (fun _ => 0))) hX hb (hts _ w_az) rfl hK hP hD hS hA (fun _ => rfl) z1 rfl (by show x.toNatClampNeg * _ ≤ _; simp only [componentBytes]; omega) (by omega) (by omega) hd (fun qn cA H1 hK1 hP1 hD1 hS1 => ?_)
  have ha := adr_new (ee := .inl (cA, x.toNatClampNeg, .inl (fun _ => 0))) (q := qn) hw.1
  have := k H1 locs ls _ (.ref qn :: sv') hP1 hD1 (hw.push ⟨cA, by congr; funext z; simp [nw], hK1⟩) hS1 (hx.tr xt_app) (hl.mono xt_app) ⟨⟨nofun, some qn, ⟨qn, ha, rfl⟩, rfl⟩, hs'.mono xt_app⟩ (by omega) (by omega)
  exact W.cs (by omega) (by omega) this
theorem sm_newq (X : CX p s m args meth c cc nL own ini rt D A ad av) {idx : Nat} {x : Int32} (hd : decode cc pc = .ok (.anewarray idx, 3)) (hlk : Cond.classLink own idx RX7 ∈ gtbl) (hx0 : ¬ (x < 0 ∨ zI 1000000 < x)) (hR1 : (nw h (3, x.toNatClampNeg)).1.length - n0 ≤ R.cells) (hR2 : tsz (nw h (3, x.toNatClampNeg)).1 - s0 ≤ R.slots) (k : SM p l e R s m args below meth c nL D ad A w0 n0 s0 Q (pc + 3) lv (aR (some h.1.length) :: st) (nw h (3, x.toNatClampNeg))) : SM p l e R s m args below meth c nL D ad A w0 n0 s0 Q pc lv (aI x :: st) h := by
  intro H locs ls ws sv hP hD hw hS hx hl hs hn1 hn2
  obtain ⟨hX, hb, hml, hown, hts, hK, hA, hE, -⟩ := X
  obtain ⟨z1, z2⟩ := zI_mil hx0
  obtain ⟨sv', rfl, hs'⟩ := srlI hs
  have e1 : (nw h (3, x.toNatClampNeg)).1.length = h.1.length + 1 := by simp [nw]
  have e2 : tsz (nw h (3, x.toNatClampNeg)).1 = tsz h.1 + x.toNatClampNeg := by
    show tsz (h.1 ++ [(3, x.toNatClampNeg)]) = _
    rw [tsz_app]
    simp [szS]
  rw [e1] at hR1
  rw [e2] at hR2
  refine va_newq hX hb hown (hts _ hlk) hE.2.2.2.2.1 hK hP hD hS hA z1 rfl (by omega) (by omega) (by omega) hd (fun qn cA H1 hK1 hP1 hD1 hS1 => ?_)
  have ha := adr_new (ee := .inl (cA, x.toNatClampNeg, .inr (.inr (.inr (.inr (fun _ => none)))))) (q := qn) hw.1
  have := k H1 locs ls _ (.ref qn :: sv') hP1 hD1 (hw.push ⟨cA, _, rfl, hK1, fun j => by simp [nw, orl]⟩) hS1 (hx.tr xt_app) (hl.mono xt_app) ⟨⟨nofun, some qn, ⟨qn, ha, rfl⟩, rfl⟩, hs'.mono xt_app⟩ (by omega) (by omega)
  exact W.cs (by omega) (by omega) this
end SIMB
def orv (ad : Nat → Nat) (ws : va_W) : Option AV → Option Value → Prop
  | none, v => v = none
  | some a, v => ∃ w, v = some w ∧ a ≠ aU ∧ vrl ad ws a w
/-- how a method ends -/
def QQ (D : va_G) (ad : Nat → Nat) (w0 : va_W) (sz : Nat) (r : AR) : Array Value → State → Outcome → State → Prop := fun _ st o t =>
  ∃ (v : Option Value) (ws : va_W), o = .returned v ∧ orv ad ws r.1 v ∧ va_P D cls ws t.heap ∧ va_K D cls [] t ∧ va_D (va_A w0 sz) ws ∧ wrl t D ad ws r.2 ∧ xt w0 ws ∧ va_F (va_A w0 sz) st t
section SIMC
variable {p : Program} {l : Launch} {e : Env} {R : Room} {s : State} {m : MethodId} {args : Array Value} {below : List Frame} {meth : Method} {c : Code} {cc : ByteArray} {nL : Nat} {own : String} {ini : Bool} {rt : Option FieldType} {D : va_G} {ad av : Nat → Nat} {w0 : va_W} {n0 s0 : Nat} {lv st : List AV} {h : AH} {pc : Nat}
theorem sm_iret (X : CX p s m args meth c cc nL own ini rt D (va_A w0 s.heap.size) ad av) {x : Int32} (hrt : rt = some .int) (hd : decode cc pc = .ok (.ireturn, 1)) : SM p l e R s m args below meth c nL D ad (va_A w0 s.heap.size) w0 n0 s0 (MQ below (QQ D ad w0 s.heap.size (some (aI x), h)) args s (h.1.length - n0) (tsz h.1 - s0) (va_A w0 s.heap.size)) pc lv [aI x] h := by
  intro H locs ls ws sv hP hD hw hS hx hl hs hn1 hn2
  obtain ⟨hX, hb, hml, hown, hts, hK, hA, hE, hr, hlk, hin⟩ := X
  obtain ⟨sv', rfl, hs'⟩ := srlI hs
  rw [srlN hs']
  exact W.iret hX hb (hr.trans hrt) (fun t ht hW => ⟨some (.int x), ws, rfl, ⟨_, rfl, nofun, rfl⟩, by rw [ht]; exact hP, hK.moved hW.alike, hD, hw.moved hW.alike, hx, hS.F ht⟩) (fun q hq => hS.2.2 q hq) hd hlk
theorem sm_zret (X : CX p s m args meth c cc nL own ini rt D (va_A w0 s.heap.size) ad av) {x : Int32} (hx01 : x = 0 ∨ x = 1) (hrt : rt = some .boolean) (hd : decode cc pc = .ok (.ireturn, 1)) : SM p l e R s m args below meth c nL D ad (va_A w0 s.heap.size) w0 n0 s0 (MQ below (QQ D ad w0 s.heap.size (some (aI x), h)) args s (h.1.length - n0) (tsz h.1 - s0) (va_A w0 s.heap.size)) pc lv [aI x] h := by
  intro H locs ls ws sv hP hD hw hS hx hl hs hn1 hn2
  obtain ⟨hX, hb, hml, hown, hts, hK, hA, hE, hr, hlk, hin⟩ := X
  obtain ⟨sv', rfl, hs'⟩ := srlI hs
  rw [srlN hs']
  exact W.zret hX hb (hr.trans hrt) (by rcases hx01 with rfl | rfl <;> rfl) (fun t ht hW => ⟨some (.int x), ws, rfl, ⟨_, rfl, nofun, rfl⟩, by rw [ht]; exact hP, hK.moved hW.alike, hD, hw.moved hW.alike, hx, hS.F ht⟩) (fun q hq => hS.2.2 q hq) hd hlk
theorem sm_lret (X : CX p s m args meth c cc nL own ini rt D (va_A w0 s.heap.size) ad av) {x : Int64} (hrt : rt = some .long) (hd : decode cc pc = .ok (.lreturn, 1)) : SM p l e R s m args below meth c nL D ad (va_A w0 s.heap.size) w0 n0 s0 (MQ below (QQ D ad w0 s.heap.size (some (aL x), h)) args s (h.1.length - n0) (tsz h.1 - s0) (va_A w0 s.heap.size)) pc lv [aL x] h := by
  intro H locs ls ws sv hP hD hw hS hx hl hs hn1 hn2
  obtain ⟨hX, hb, hml, hown, hts, hK, hA, hE, hr, hlk, hin⟩ := X
  obtain ⟨sv', rfl, hs'⟩ := srlL hs
  rw [srlN hs']
  exact W.lret hX hb (hr.trans hrt) (fun t ht hW => ⟨some (.long x), ws, rfl, ⟨_, rfl, nofun, rfl⟩, by rw [ht]; exact hP, hK.moved hW.alike, hD, hw.moved hW.alike, hx, hS.F ht⟩) (fun q hq => hS.2.2 q hq) hd hlk
theorem sm_aret (X : CX p s m args meth c cc nL own ini rt D (va_A w0 s.heap.size) ad av) {o : Option Nat} {ty : FieldType} (hrt : rt = some ty) (hty : (∃ n, ty = .object n) ∨ ∃ t, ty = .array t) (hd : decode cc pc = .ok (.areturn, 1)) : SM p l e R s m args below meth c nL D ad (va_A w0 s.heap.size) w0 n0 s0 (MQ below (QQ D ad w0 s.heap.size (some (aR o), h)) args s (h.1.length - n0) (tsz h.1 - s0) (va_A w0 s.heap.size)) pc lv [aR o] h := by
  intro H locs ls ws sv hP hD hw hS hx hl hs hn1 hn2
  obtain ⟨hX, hb, hml, hown, hts, hK, hA, hE, hr, hlk, hin⟩ := X
  obtain ⟨o', sv', rfl, ho, hs'⟩ := srlR hs
  rw [srlN hs']
  exact W.aret hX hb (hr.trans hrt) hty (va_rf_or o') (fun t ht hW => ⟨some (va_rf o'), ws, rfl, ⟨_, rfl, nofun, o', ho, rfl⟩, by rw [ht]; exact hP, hK.moved hW.alike, hD, hw.moved hW.alike, hx, hS.F ht⟩) (fun q hq => hS.2.2 q hq) hd hlk
theorem sm_vret (X : CX p s m args meth c cc nL own ini rt D (va_A w0 s.heap.size) ad av) (hrt : rt = none) (hd : decode cc pc = .ok (.return_, 1)) : SM p l e R s m args below meth c nL D ad (va_A w0 s.heap.size) w0 n0 s0 (MQ below (QQ D ad w0 s.heap.size (none, h)) args s (h.1.length - n0) (tsz h.1 - s0) (va_A w0 s.heap.size)) pc lv [] h := by
  intro H locs ls ws sv hP hD hw hS hx hl hs hn1 hn2
  obtain ⟨hX, hb, hml, hown, hts, hK, hA, hE, hr, hlk, hin⟩ := X
  rw [srlN hs]
  exact W.vret hX hb (hr.trans hrt) (fun t ht hW => ⟨none, ws, rfl, rfl, by rw [ht]; exact hP, hK.moved hW.alike, hD, hw.moved hW.alike, hx, hS.F ht⟩) (fun q hq => hS.2.2 q hq) hd hlk
end SIMC
