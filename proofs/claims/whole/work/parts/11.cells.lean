/-! the rows of the cells -/
section SIMA
variable {p : Program} {l : Launch} {e : Env} {R : Room} {s : State} {m : MethodId} {args : Array Value} {below : List Frame} {meth : Method} {c : Code} {cc : ByteArray} {nL : Nat} {own : String} {ini : Bool} {rt : Option FieldType} {D : va_G} {A : Nat → Prop} {ad av : Nat → Nat} {w0 : va_W} {n0 s0 : Nat} {Q : State → Prop} {lv st : List AV} {h : AH} {pc : Nat}

theorem sm_get (X : CX p s m args meth c cc nL own ini rt D A ad av) {idx ci j kd pos a : Nat} {v : AV} (hd : decode cc pc = .ok (.getfield idx, 3)) (hok : okF own idx ci j kd pos = true) (ha : h.1[a]? = some (4, ci)) (hv : gtf h a j kd = some v) (k : SM p l e R s m args below meth c nL D ad A w0 n0 s0 Q (pc + 3) lv (v :: st) h) : SM p l e R s m args below meth c nL D ad A w0 n0 s0 Q pc lv (aR (some a) :: st) h := by
  intro H locs ls ws sv hP hD hw hS hx hl hs hn1 hn2
  obtain ⟨hX, hb, hml, hown, hts, hK, hA, hE, -⟩ := X
  obtain ⟨q, ee, h1, h2, hc⟩ := hw.at ha
  obtain ⟨fs, qc, rfl, g2, g3, g4⟩ := hc
  obtain ⟨q', f1, f2, f3, f4, f5⟩ := okF_s hok
  rw [g2] at f1
  cases f1
  obtain ⟨sv', rfl, hs'⟩ := srlA hs h2
  obtain ⟨a', v', e1, e2, e3⟩ := g4 j f2
  rw [f4, hv] at e1
  cases e1
  obtain ⟨o1, o2, o3, o4, o5⟩ := clsOK g2
  refine va_get hX hb hts o1 hown hK hP a h1 g2 j f2 (hts _ f3) (fun x hx => by rw [f5] at hx; exact hx) e2 hd ?_
  exact k H locs ls ws _ hP hD hw hS hx hl ⟨⟨gtf_ne hv, e3⟩, hs'⟩ hn1 hn2
theorem ptf_s {h h' : AH} {a j kd : Nat} {v : AV} (e : ptf h a j kd v = some h') : h'.1 = h.1 ∧ (∀ k, k ≠ a → hsm h h' k) ∧ gtf h' a j kd = some v ∧ ∀ j' kd', j' ≠ j → gtf h' a j' kd' = gtf h a j' kd' := by
  have main : ∀ h', (∃ x, h' = sI h a j x ∧ v = aI x ∧ (kd = 0 ∨ kd = 3)) ∨ (∃ x, h' = sL h a j x ∧ v = aL x ∧ kd = 1) ∨ (∃ x, h' = sR h a j x ∧ v = aR x ∧ kd = 2) → h'.1 = h.1 ∧ (∀ k, k ≠ a → hsm h h' k) ∧ gtf h' a j kd = some v ∧ ∀ j' kd', j' ≠ j → gtf h' a j' kd' = gtf h a j' kd' := by
    intro h' hh
    rcases hh with ⟨x, rfl, rfl, hk⟩ | ⟨x, rfl, rfl, rfl⟩ | ⟨x, rfl, rfl, rfl⟩
    · refine ⟨rfl, fun k hk => ⟨?_, rfl, rfl⟩, ?_, fun j' kd' hj => ?_⟩
      · funext i; simp [sI, hk]
      · rcases hk with rfl | rfl <;> simp [gtf, hI, sI]
      · unfold gtf; split <;> simp [hI, hL, hR, sI, hj]
    · refine ⟨rfl, fun k hk => ⟨rfl, ?_, rfl⟩, ?_, fun j' kd' hj => ?_⟩
      · funext i; simp [sL, hk]
      · simp [gtf, hL, sL]
      · unfold gtf; split <;> simp [hI, hL, hR, sL, hj]
    · refine ⟨rfl, fun k hk => ⟨rfl, rfl, ?_⟩, ?_, fun j' kd' hj => ?_⟩
      · funext i; simp [sR, hk]
      · simp [gtf, hR, sR]
      · unfold gtf; split <;> simp [hI, hL, hR, sR, hj]
  unfold ptf at e
  split at e
  · cases e; exact main _ (Or.inl ⟨_, rfl, rfl, Or.inl rfl⟩)
  · cases e; exact main _ (Or.inr (Or.inl ⟨_, rfl, rfl, rfl⟩))
  · cases e; exact main _ (Or.inr (Or.inr ⟨_, rfl, rfl, rfl⟩))
  · split at e
    · cases e; exact main _ (Or.inl ⟨_, rfl, rfl, Or.inr rfl⟩)
    · cases e
  · cases e
/-- what is put fits its field's type -/
theorem ptf_fit {ws : va_W} {h h' : AH} {a j kd : Nat} {v : AV} {w : Value} {ty : FieldType} (e : ptf h a j kd v = some h') (hty : fkk ty = kd) (hw : vrl ad ws v w) : narrow ty w = w ∧ fits ty w = true := by
  unfold ptf at e
  split at e
  · have : w = .int _ := hw
    subst this
    cases ty <;> first | exact ⟨rfl, rfl⟩ | (exfalso; revert hty; decide) | (exfalso; revert hty; simp [fkk])
  · have : w = .long _ := hw
    subst this
    cases ty <;> first | exact ⟨rfl, rfl⟩ | (exfalso; revert hty; decide) | (exfalso; revert hty; simp [fkk])
  · obtain ⟨o', -, rfl⟩ := hw
    cases ty <;> first | (cases o' <;> exact ⟨rfl, rfl⟩) | (exfalso; revert hty; decide) | (exfalso; revert hty; simp [fkk])
  · split at e
    · rename_i hx
      have : w = .int _ := hw
      subst this
      cases ty <;> first | (rcases hx with rfl | rfl <;> exact ⟨rfl, rfl⟩) | (exfalso; revert hty; decide) | (exfalso; revert hty; simp [fkk])
    · cases e
  · cases e
theorem sm_put (X : CX p s m args meth c cc nL own ini rt D A ad av) {idx ci j kd pos a : Nat} {v : AV} {h' : AH} (hd : decode cc pc = .ok (.putfield idx, 3)) (hok : okF own idx ci j kd pos = true) (hfi : okFin own ini ci j = true) (ha : h.1[a]? = some (4, ci)) (hv : ptf h a j kd v = some h') (k : SM p l e R s m args below meth c nL D ad A w0 n0 s0 Q (pc + 3) lv st h') : SM p l e R s m args below meth c nL D ad A w0 n0 s0 Q pc lv (v :: aR (some a) :: st) h := by
  intro H locs ls ws sv hP hD hw hS hx hl hs hn1 hn2
  obtain ⟨hX, hb, hml, hown, hts, hK, hA, hE, hr, hlk, hin⟩ := X
  obtain ⟨q, ee, h1, h2, hc⟩ := hw.at ha
  obtain ⟨fs, qc, rfl, g2, g3, g4⟩ := hc
  obtain ⟨q', f1, f2, f3, f4, f5⟩ := okF_s hok
  rw [g2] at f1
  cases f1
  obtain ⟨w, sv1, rfl, hvn, hvw, hs1⟩ := srlV hs
  obtain ⟨sv', rfl, hs'⟩ := srlA hs1 h2
  obtain ⟨o1, o2, o3, o4, o5⟩ := clsOK g2
  obtain ⟨t1, t2, t3, t4⟩ := ptf_s hv
  obtain ⟨u1, u2⟩ := ptf_fit hv f4 hvw
  have hxs : xt ws (ws.set a (q, .inr (ci, fs.set j w))) := xt_set h1
  have hw' : wrl s D ad (ws.set a (q, .inr (ci, fs.set j w))) h' := by
    refine hw.set h1 ha t1 t2 ⟨_, _, rfl, g2, by rw [List.length_set]; exact g3, fun j' hj' => ?_⟩
    by_cases hjj : j' = j
    · subst hjj
      exact ⟨v, w, by rw [f4]; exact t3, List.getElem?_set_self (by rw [g3]; exact hj'), hvw.mono hxs⟩
    · obtain ⟨a1, v1, e1, e2, e3⟩ := g4 j' hj'
      exact ⟨a1, v1, by rw [t4 j' _ hjj]; exact e1, by rw [List.getElem?_set_ne (Ne.symm hjj)]; exact e2, e3.mono hxs⟩
  have kk : ∀ (H1 : Heap) (locs1 : List Loc), va_P D cls (ws.set a (q, .inr (ci, fs.set j w))) H1 → va_D A (ws.set a (q, .inr (ci, fs.set j w))) → va_S A s.heap H1 locs1 → W p l e R s m args below meth c H1 locs1 (h.1.length - n0) (tsz h.1 - s0) Q (F0 m (pc + 3) ls sv') := by
    intro H1 locs1 hP1 hD1 hS1
    have := k H1 locs1 ls _ sv' hP1 hD1 hw' hS1 (hx.tr hxs) (hl.mono hxs) (hs'.mono hxs) (by rw [t1]; exact hn1) (by rw [t1]; exact hn2)
    rw [t1] at this
    exact this
  rcases okFin_s g2 hfi with hf | ⟨hf1, hf2, hf3⟩
  · exact va_put hX hb hts o1 (tyF ci) o2 o3 hown hK hP hD hS a h1 g2 j f2 (hts _ f3) (fun x hx => by rw [f5] at hx; exact hx) hf (o2 j f2) u1 u2 (by rw [g3]; exact f2) hd kk
  · exact va_putF hX hb hts o1 (tyF ci) o2 o3 hown hK hP hD hS a h1 g2 j f2 (hts _ f3) (fun x hx => by rw [f5] at hx; exact hx) hf2 (hin hf1) hf3 (o2 j f2) u1 u2 (by rw [g3]; exact f2) hd kk
theorem sm_iald (X : CX p s m args meth c cc nL own ini rt D A ad av) {a n : Nat} {i : Int32} (hd : decode cc pc = .ok (.iaload, 1)) (ha : h.1[a]? = some (0, n)) (hi : vp_in i n) (k : SM p l e R s m args below meth c nL D ad A w0 n0 s0 Q (pc + 1) lv (aI (hI h a i.toNatClampNeg) :: st) h) : SM p l e R s m args below meth c nL D ad A w0 n0 s0 Q pc lv (aI i :: aR (some a) :: st) h := by
  intro H locs ls ws sv hP hD hw hS hx hl hs hn1 hn2
  obtain ⟨hX, hb, -⟩ := X
  obtain ⟨q, ee, h1, h2, hc⟩ := hw.at ha
  obtain ⟨cA, rfl, hK⟩ := hc
  obtain ⟨sv1, rfl, hs1⟩ := srlI hs
  obtain ⟨sv', rfl, hs'⟩ := srlA hs1 h2
  exact va_iald hX hb hK hP a 0 h1 rfl hi hd (k H locs ls ws _ hP hD hw hS hx hl ⟨⟨nofun, rfl⟩, hs'⟩ hn1 hn2)
theorem sm_lald (X : CX p s m args meth c cc nL own ini rt D A ad av) {a n : Nat} {i : Int32} (hd : decode cc pc = .ok (.laload, 1)) (ha : h.1[a]? = some (1, n)) (hi : vp_in i n) (k : SM p l e R s m args below meth c nL D ad A w0 n0 s0 Q (pc + 1) lv (aL (hL h a i.toNatClampNeg) :: st) h) : SM p l e R s m args below meth c nL D ad A w0 n0 s0 Q pc lv (aI i :: aR (some a) :: st) h := by
  intro H locs ls ws sv hP hD hw hS hx hl hs hn1 hn2
  obtain ⟨hX, hb, -⟩ := X
  obtain ⟨q, ee, h1, h2, hc⟩ := hw.at ha
  obtain ⟨cA, rfl, hK⟩ := hc
  obtain ⟨sv1, rfl, hs1⟩ := srlI hs
  obtain ⟨sv', rfl, hs'⟩ := srlA hs1 h2
  exact va_lald hX hb hK hP a 0 h1 rfl hi hd (k H locs ls ws _ hP hD hw hS hx hl ⟨⟨nofun, rfl⟩, hs'⟩ hn1 hn2)
theorem sm_zald (X : CX p s m args meth c cc nL own ini rt D A ad av) {a n : Nat} {i : Int32} (hd : decode cc pc = .ok (.baload, 1)) (ha : h.1[a]? = some (2, n)) (hi : vp_in i n) (k : SM p l e R s m args below meth c nL D ad A w0 n0 s0 Q (pc + 1) lv (aI (hI h a i.toNatClampNeg) :: st) h) : SM p l e R s m args below meth c nL D ad A w0 n0 s0 Q pc lv (aI i :: aR (some a) :: st) h := by
  intro H locs ls ws sv hP hD hw hS hx hl hs hn1 hn2
  obtain ⟨hX, hb, -⟩ := X
  obtain ⟨q, ee, h1, h2, hc⟩ := hw.at ha
  obtain ⟨cA, rfl, hK⟩ := hc
  obtain ⟨sv1, rfl, hs1⟩ := srlI hs
  obtain ⟨sv', rfl, hs'⟩ := srlA hs1 h2
  exact va_zald hX hb hK hP a 0 h1 rfl hi hd (k H locs ls ws _ hP hD hw hS hx hl ⟨⟨nofun, rfl⟩, hs'⟩ hn1 hn2)
theorem sm_aald (X : CX p s m args meth c cc nL own ini rt D A ad av) {a n : Nat} {i : Int32} (hd : decode cc pc = .ok (.aaload, 1)) (ha : h.1[a]? = some (3, n)) (hi : vp_in i n) (k : SM p l e R s m args below meth c nL D ad A w0 n0 s0 Q (pc + 1) lv (aR (hR h a i.toNatClampNeg) :: st) h) : SM p l e R s m args below meth c nL D ad A w0 n0 s0 Q pc lv (aI i :: aR (some a) :: st) h := by
  intro H locs ls ws sv hP hD hw hS hx hl hs hn1 hn2
  obtain ⟨hX, hb, -⟩ := X
  obtain ⟨q, ee, h1, h2, hc⟩ := hw.at ha
  obtain ⟨cA, f, rfl, hK, hf⟩ := hc
  obtain ⟨sv1, rfl, hs1⟩ := srlI hs
  obtain ⟨sv', rfl, hs'⟩ := srlA hs1 h2
  exact va_aldq hX hb hK hP a 0 h1 rfl hi hd (k H locs ls ws _ hP hD hw hS hx hl ⟨⟨nofun, ⟨_, hf _, rfl⟩⟩, hs'⟩ hn1 hn2)
theorem sm_iast (X : CX p s m args meth c cc nL own ini rt D A ad av) {a n : Nat} {i : Int32} {x : Int32} (hd : decode cc pc = .ok (.iastore, 1)) (ha : h.1[a]? = some (0, n)) (hi : vp_in i n) (k : SM p l e R s m args below meth c nL D ad A w0 n0 s0 Q (pc + 1) lv st (sI h a i.toNatClampNeg x)) : SM p l e R s m args below meth c nL D ad A w0 n0 s0 Q pc lv (aI x :: aI i :: aR (some a) :: st) h := by
  intro H locs ls ws sv hP hD hw hS hx hl hs hn1 hn2
  obtain ⟨hX, hb, -⟩ := X
  obtain ⟨q, ee, h1, h2, hc⟩ := hw.at ha
  obtain ⟨cA, rfl, hK⟩ := hc
  obtain ⟨sv0, rfl, hs0⟩ := srlI hs
  obtain ⟨sv1, rfl, hs1⟩ := srlI hs0
  obtain ⟨sv', rfl, hs'⟩ := srlA hs1 h2
  refine va_iast hX hb hK hP hD hS a 0 h1 rfl hi hd (fun H1 locs1 hP1 hD1 hS1 => ?_)
  refine k H1 locs1 ls _ sv' hP1 hD1 (hw.set h1 ha rfl (fun k hk => ?_) ?_) hS1 (hx.tr (xt_set h1)) (hl.mono (xt_set h1)) (hs'.mono (xt_set h1)) hn1 hn2
  · refine ⟨?_, ?_, ?_⟩ <;> first | rfl | (funext z; simp [sI, hk])
  · show crl s D ad _ _ a (0, n) _
    refine ⟨cA, ?_, hK⟩
    congr 4
    funext z
    simp [sI, upd]
theorem sm_last (X : CX p s m args meth c cc nL own ini rt D A ad av) {a n : Nat} {i : Int32} {x : Int64} (hd : decode cc pc = .ok (.lastore, 1)) (ha : h.1[a]? = some (1, n)) (hi : vp_in i n) (k : SM p l e R s m args below meth c nL D ad A w0 n0 s0 Q (pc + 1) lv st (sL h a i.toNatClampNeg x)) : SM p l e R s m args below meth c nL D ad A w0 n0 s0 Q pc lv (aL x :: aI i :: aR (some a) :: st) h := by
  intro H locs ls ws sv hP hD hw hS hx hl hs hn1 hn2
  obtain ⟨hX, hb, -⟩ := X
  obtain ⟨q, ee, h1, h2, hc⟩ := hw.at ha
  obtain ⟨cA, rfl, hK⟩ := hc
  obtain ⟨sv0, rfl, hs0⟩ := srlL hs
  obtain ⟨sv1, rfl, hs1⟩ := srlI hs0
  obtain ⟨sv', rfl, hs'⟩ := srlA hs1 h2
  refine va_last hX hb hK hP hD hS a 0 h1 rfl hi hd (fun H1 locs1 hP1 hD1 hS1 => ?_)
  refine k H1 locs1 ls _ sv' hP1 hD1 (hw.set h1 ha rfl (fun k hk => ?_) ?_) hS1 (hx.tr (xt_set h1)) (hl.mono (xt_set h1)) (hs'.mono (xt_set h1)) hn1 hn2
  · refine ⟨?_, ?_, ?_⟩ <;> first | rfl | (funext z; simp [sL, hk])
  · show crl s D ad _ _ a (1, n) _
    refine ⟨cA, ?_, hK⟩
    congr 5
    funext z
    simp [sL, vp_updL]
theorem sm_zast (X : CX p s m args meth c cc nL own ini rt D A ad av) {a n : Nat} {i : Int32} {x : Int32} (hx01 : x = 0 ∨ x = 1) (hd : decode cc pc = .ok (.bastore, 1)) (ha : h.1[a]? = some (2, n)) (hi : vp_in i n) (k : SM p l e R s m args below meth c nL D ad A w0 n0 s0 Q (pc + 1) lv st (sI h a i.toNatClampNeg x)) : SM p l e R s m args below meth c nL D ad A w0 n0 s0 Q pc lv (aI x :: aI i :: aR (some a) :: st) h := by
  intro H locs ls ws sv hP hD hw hS hx hl hs hn1 hn2
  obtain ⟨hX, hb, -⟩ := X
  obtain ⟨q, ee, h1, h2, hc⟩ := hw.at ha
  obtain ⟨cA, rfl, hK⟩ := hc
  obtain ⟨sv0, rfl, hs0⟩ := srlI hs
  obtain ⟨sv1, rfl, hs1⟩ := srlI hs0
  obtain ⟨sv', rfl, hs'⟩ := srlA hs1 h2
  refine va_zast hX hb hK hP hD hS a 0 h1 rfl hi hd (fun H1 locs1 hP1 hD1 hS1 => ?_)
  refine k H1 locs1 ls _ sv' hP1 hD1 (hw.set h1 ha rfl (fun k hk => ?_) ?_) hS1 (hx.tr (xt_set h1)) (hl.mono (xt_set h1)) (hs'.mono (xt_set h1)) hn1 hn2
  · refine ⟨?_, ?_, ?_⟩ <;> first | rfl | (funext z; simp [sI, hk])
  · show crl s D ad _ _ a (2, n) _
    refine ⟨cA, ?_, hK⟩
    have e0 : vp_nar .boolean x = x := by rcases hx01 with rfl | rfl <;> rfl
    rw [e0]
    congr 4
    funext z
    simp [sI, upd]
theorem sm_aast (X : CX p s m args meth c cc nL own ini rt D A ad av) {a n v : Nat} {i : Int32} (hd : decode cc pc = .ok (.aastore, 1)) (ha : h.1[a]? = some (3, n)) (hv : h.1[v]? = some (4, 7)) (hi : vp_in i n) (k : SM p l e R s m args below meth c nL D ad A w0 n0 s0 Q (pc + 1) lv st (sR h a i.toNatClampNeg (some v))) : SM p l e R s m args below meth c nL D ad A w0 n0 s0 Q pc lv (aR (some v) :: aI i :: aR (some a) :: st) h := by
  intro H locs ls ws sv hP hD hw hS hx hl hs hn1 hn2
  obtain ⟨hX, hb, -⟩ := X
  obtain ⟨q, ee, h1, h2, hc⟩ := hw.at ha
  obtain ⟨cA, f, rfl, hK, hf⟩ := hc
  obtain ⟨qv, ev, g1, g2, hcv⟩ := hw.at hv
  obtain ⟨vs, qc, rfl, hcl, -, -⟩ := hcv
  have hqc : qc = (RX7, TX7, 4) := by cases hcl; rfl
  subst hqc
  obtain ⟨sv0, rfl, hs0⟩ := srlA hs g2
  obtain ⟨sv1, rfl, hs1⟩ := srlI hs0
  obtain ⟨sv', rfl, hs'⟩ := srlA hs1 h2
  refine va_astq hX hb hK hP hD hS a 0 v 7 h1 rfl g1 hcl hi hd (fun H1 locs1 hP1 hD1 hS1 => ?_)
  refine k H1 locs1 ls _ sv' hP1 hD1 (hw.set h1 ha rfl (fun k hk => ?_) ?_) hS1 (hx.tr (xt_set h1)) (hl.mono (xt_set h1)) (hs'.mono (xt_set h1)) hn1 hn2
  · refine ⟨rfl, rfl, ?_⟩
    funext z; simp [sR, hk]
  · refine ⟨cA, _, rfl, hK, fun j => ?_⟩
    by_cases hj : j = i.toNatClampNeg
    · rw [show (sR h a i.toNatClampNeg (some v)).2.2.2 a j = some v by simp [sR, hj], hj, show va_up f i.toNatClampNeg (some qv) i.toNatClampNeg = some qv by simp [va_up]]
      exact ⟨qv, xt_set h1 _ _ g2, rfl⟩
    · rw [show (sR h a i.toNatClampNeg (some v)).2.2.2 a j = h.2.2.2 a j by simp [sR, hj], show va_up f i.toNatClampNeg (some qv) j = f j by simp [va_up, hj]]
      exact (hf j).mono (xt_set h1)
theorem aln_s {h : AH} {a n : Nat} (e : aln h a = some n) : ∃ kd, kd < 4 ∧ h.1[a]? = some (kd, n) := by
  unfold aln at e
  split at e
  · cases e; exact ⟨0, by omega, by assumption⟩
  · cases e; exact ⟨1, by omega, by assumption⟩
  · cases e; exact ⟨2, by omega, by assumption⟩
  · cases e; exact ⟨3, by omega, by assumption⟩
  · cases e
theorem sm_alen (X : CX p s m args meth c cc nL own ini rt D A ad av) {a n : Nat} (hd : decode cc pc = .ok (.arraylength, 1)) (ha : aln h a = some n) (k : SM p l e R s m args below meth c nL D ad A w0 n0 s0 Q (pc + 1) lv (aI (nI n) :: st) h) : SM p l e R s m args below meth c nL D ad A w0 n0 s0 Q pc lv (aR (some a) :: st) h := by
  intro H locs ls ws sv hP hD hw hS hx hl hs hn1 hn2
  obtain ⟨hX, hb, -⟩ := X
  obtain ⟨kd, hkd, ha⟩ := aln_s ha
  obtain ⟨q, ee, h1, h2, hc⟩ := hw.at ha
  obtain ⟨sv', rfl, hs'⟩ := srlA hs h2
  have go : ∀ {cA : ClassId} {x : (Nat → Int32) ⊕ (Nat → Int64) ⊕ (Nat → UInt32) ⊕ (Nat → UInt64) ⊕ (Nat → Option Nat)} {ty : FieldType}, ws[a]? = some (q, .inl (cA, n, x)) → va_K D cls [(cA, ty)] s → W p l e R s m args below meth c H locs (h.1.length - n0) (tsz h.1 - s0) Q (F0 m pc ls (.ref q :: sv')) := fun h3 hK =>
    va_alen hX hb hK hP a 0 h3 rfl rfl hd (k H locs ls ws _ hP hD hw hS hx hl ⟨⟨nofun, rfl⟩, hs'⟩ hn1 hn2)
  match kd, hkd, hc with
  | 0, _, hc => obtain ⟨cA, rfl, hK⟩ := hc; exact go h1 hK
  | 1, _, hc => obtain ⟨cA, rfl, hK⟩ := hc; exact go h1 hK
  | 2, _, hc => obtain ⟨cA, rfl, hK⟩ := hc; exact go h1 hK
  | 3, _, hc => obtain ⟨cA, f, rfl, hK, -⟩ := hc; exact go h1 hK
end SIMA
