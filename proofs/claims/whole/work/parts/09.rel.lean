/-! the abstract machine's cells and the machine's: what it is to stand for one another -/
def adr (ws : va_W) (j : Nat) : Option Nat := (ws[j]?).map Prod.fst
def orl (ws : va_W) : Option Nat → Option Nat → Prop
  | none, o' => o' = none
  | some j, o' => ∃ q, adr ws j = some q ∧ o' = some q
def vrl (ad : Nat → Nat) (ws : va_W) : AV → Value → Prop
  | .inl x, v => v = .int x
  | .inr (.inl x), v => v = .long x
  | .inr (.inr (.inl o)), v => ∃ o', orl ws o o' ∧ v = va_rf o'
  | .inr (.inr (.inr 0)), _ => True
  | .inr (.inr (.inr (n + 1))), v => n < 10 ∧ v = .ref (ad n)
def srl (ad : Nat → Nat) (ws : va_W) : List AV → List Value → Prop
  | [], [] => True
  | a :: as, v :: vs => (a ≠ aU ∧ vrl ad ws a v) ∧ srl ad ws as vs
  | _, _ => False
def lrl (ad : Nat → Nat) (ws : va_W) (lv : List AV) (ls : Array Slot) (nL : Nat) : Prop :=
  lv.length = nL ∧ ∃ L, lv_has ls nL L ∧ ∀ (i : Nat) (v : AV), lv[i]? = some v → v ≠ aU → ∃ w, (i, w) ∈ L ∧ vrl ad ws v w
def crl (s : State) (D : va_G) (ad : Nat → Nat) (ws : va_W) (h : AH) (k : Nat) : Nat × Nat → va_E → Prop
  | (0, n), e => ∃ cA, e = .inl (cA, n, .inl (h.2.1 k)) ∧ va_K D cls [(cA, .int)] s
  | (1, n), e => ∃ cA, e = .inl (cA, n, .inr (.inl (h.2.2.1 k))) ∧ va_K D cls [(cA, .long)] s
  | (2, n), e => ∃ cA, e = .inl (cA, n, .inl (h.2.1 k)) ∧ va_K D cls [(cA, .boolean)] s
  | (3, n), e => ∃ cA f, e = .inl (cA, n, .inr (.inr (.inr (.inr f)))) ∧ va_K D cls [(cA, .object RX7)] s ∧ ∀ j, orl ws (h.2.2.2 k j) (f j)
  | (4, ci), e => ∃ fs q, e = .inr (ci, fs) ∧ cls[ci]? = some q ∧ fs.length = q.2.2 ∧ ∀ j, j < q.2.2 → ∃ a v, gtf h k j (fkk (tyF ci j)) = some a ∧ fs[j]? = some v ∧ vrl ad ws a v
  | _, _ => False
def wrl (s : State) (D : va_G) (ad : Nat → Nat) (ws : va_W) (h : AH) : Prop :=
  ws.length = h.1.length ∧ ∀ (k : Nat) (sh : Nat × Nat) (q : Nat) (e : va_E), h.1[k]? = some sh → ws[k]? = some (q, e) → crl s D ad ws h k sh e
def xt (ws ws' : va_W) : Prop := ∀ j q, adr ws j = some q → adr ws' j = some q
theorem xt.rf {ws : va_W} : xt ws ws := fun _ _ h => h
theorem xt.tr {a b c : va_W} (h1 : xt a b) (h2 : xt b c) : xt a c := fun j q h => h2 j q (h1 j q h)
theorem orl.mono {ws ws' : va_W} (hx : xt ws ws') : ∀ {o o' : Option Nat}, orl ws o o' → orl ws' o o'
  | none, _, h => h
  | some _, _, ⟨q, h1, h2⟩ => ⟨q, hx _ _ h1, h2⟩
theorem vrl.mono {ad : Nat → Nat} {ws ws' : va_W} (hx : xt ws ws') : ∀ {a : AV} {v : Value}, vrl ad ws a v → vrl ad ws' a v
  | .inl _, _, h => h
  | .inr (.inl _), _, h => h
  | .inr (.inr (.inl _)), _, ⟨o', h1, h2⟩ => ⟨o', h1.mono hx, h2⟩
  | .inr (.inr (.inr 0)), _, _ => trivial
  | .inr (.inr (.inr (_ + 1))), _, h => h
theorem srl.mono {ad : Nat → Nat} {ws ws' : va_W} (hx : xt ws ws') : ∀ {a : List AV} {v : List Value}, srl ad ws a v → srl ad ws' a v
  | [], [], _ => trivial
  | _ :: _, _ :: _, h => ⟨⟨h.1.1, h.1.2.mono hx⟩, srl.mono hx h.2⟩
  | [], _ :: _, h => h.elim
  | _ :: _, [], h => h.elim
theorem lrl.mono {ad : Nat → Nat} {ws ws' : va_W} (hx : xt ws ws') {lv : List AV} {ls : Array Slot} {nL : Nat} (h : lrl ad ws lv ls nL) : lrl ad ws' lv ls nL := by
  obtain ⟨h1, L, h2, h3⟩ := h
  refine ⟨h1, L, h2, fun i v hi hv => ?_⟩
  obtain ⟨w, h4, h5⟩ := h3 i v hi hv
  exact ⟨w, h4, h5.mono hx⟩
/-- what a cell holds is the same -/
def hsm (h h' : AH) (k : Nat) : Prop := h'.2.1 k = h.2.1 k ∧ h'.2.2.1 k = h.2.2.1 k ∧ h'.2.2.2 k = h.2.2.2 k
theorem gtf_sm {h h' : AH} {k : Nat} (e : hsm h h' k) (j kd : Nat) : gtf h' k j kd = gtf h k j kd := by
  obtain ⟨e1, e2, e3⟩ := e
  unfold gtf hI hL hR
  rw [e1, e2, e3]
theorem crl.mono {s : State} {D : va_G} {ad : Nat → Nat} {ws ws' : va_W} {h h' : AH} {k : Nat} {sh : Nat × Nat} {e : va_E} (hx : xt ws ws') (hs : hsm h h' k) (hc : crl s D ad ws h k sh e) : crl s D ad ws' h' k sh e := by
  obtain ⟨kd, n⟩ := sh
  obtain ⟨e1, e2, e3⟩ := id hs
  match kd, hc with
  | 0, hc => obtain ⟨cA, h1, h2⟩ := hc; exact ⟨cA, by rw [e1]; exact h1, h2⟩
  | 1, hc => obtain ⟨cA, h1, h2⟩ := hc; exact ⟨cA, by rw [e2]; exact h1, h2⟩
  | 2, hc => obtain ⟨cA, h1, h2⟩ := hc; exact ⟨cA, by rw [e1]; exact h1, h2⟩
  | 3, hc => obtain ⟨cA, f, h1, h2, h3⟩ := hc; exact ⟨cA, f, h1, h2, fun j => by rw [e3]; exact (h3 j).mono hx⟩
  | 4, hc =>
    obtain ⟨fs, q, h1, h2, h3, h4⟩ := hc
    refine ⟨fs, q, h1, h2, h3, fun j hj => ?_⟩
    obtain ⟨a, v, g1, g2, g3⟩ := h4 j hj
    exact ⟨a, v, by rw [gtf_sm hs]; exact g1, g2, g3.mono hx⟩
theorem crl.moved {s t : State} {D : va_G} {ad : Nat → Nat} {ws : va_W} {h : AH} {k : Nat} {sh : Nat × Nat} {e : va_E} (hv : s.vm.Alike t.vm) (hc : crl s D ad ws h k sh e) : crl t D ad ws h k sh e := by
  obtain ⟨kd, n⟩ := sh
  match kd, hc with
  | 0, hc => obtain ⟨cA, h1, h2⟩ := hc; exact ⟨cA, h1, h2.moved hv⟩
  | 1, hc => obtain ⟨cA, h1, h2⟩ := hc; exact ⟨cA, h1, h2.moved hv⟩
  | 2, hc => obtain ⟨cA, h1, h2⟩ := hc; exact ⟨cA, h1, h2.moved hv⟩
  | 3, hc => obtain ⟨cA, f, h1, h2, h3⟩ := hc; exact ⟨cA, f, h1, h2.moved hv, h3⟩
  | 4, hc => exact hc
theorem wrl.moved {s t : State} {D : va_G} {ad : Nat → Nat} {ws : va_W} {h : AH} (hv : s.vm.Alike t.vm) (hw : wrl s D ad ws h) : wrl t D ad ws h :=
  ⟨hw.1, fun k sh q e h1 h2 => (hw.2 k sh q e h1 h2).moved hv⟩
theorem xt_set {ws : va_W} {a q : Nat} {e0 e : va_E} (ha : ws[a]? = some (q, e0)) : xt ws (ws.set a (q, e)) := by
  intro j x hj
  unfold adr at hj ⊢
  by_cases hja : j = a
  · subst hja
    rw [List.getElem?_set_self (List.getElem?_eq_some_iff.mp ha).1]
    rw [ha] at hj
    exact hj
  · rw [List.getElem?_set_ne (Ne.symm hja)]
    exact hj
theorem xt_app {ws w2 : va_W} : xt ws (ws ++ w2) := by
  intro j x hj
  unfold adr at hj ⊢
  by_cases hl : j < ws.length
  · rw [List.getElem?_append_left hl]; exact hj
  · rw [List.getElem?_eq_none (by omega)] at hj; cases hj
theorem wrl.set {s : State} {D : va_G} {ad : Nat → Nat} {ws : va_W} {h h' : AH} {a q : Nat} {e0 e : va_E} {sh : Nat × Nat} (hw : wrl s D ad ws h) (ha : ws[a]? = some (q, e0)) (hsh : h.1[a]? = some sh) (h1 : h'.1 = h.1) (hs : ∀ k, k ≠ a → hsm h h' k) (hc : crl s D ad (ws.set a (q, e)) h' a sh e) : wrl s D ad (ws.set a (q, e)) h' := by
  refine ⟨by rw [List.length_set, h1]; exact hw.1, fun k sk qk ek hk1 hk2 => ?_⟩
  rw [h1] at hk1
  by_cases hka : k = a
  · subst hka
    rw [List.getElem?_set_self (List.getElem?_eq_some_iff.mp ha).1] at hk2
    cases hk2
    rw [hsh] at hk1
    cases hk1
    exact hc
  · rw [List.getElem?_set_ne (Ne.symm hka)] at hk2
    exact (hw.2 k sk qk ek hk1 hk2).mono (xt_set ha) (hs k hka)
theorem wrl.push {s : State} {D : va_G} {ad : Nat → Nat} {ws : va_W} {h : AH} {q : Nat} {e : va_E} {sh : Nat × Nat} (hw : wrl s D ad ws h) (hc : crl s D ad (ws ++ [(q, e)]) (nw h sh) h.1.length sh e) : wrl s D ad (ws ++ [(q, e)]) (nw h sh) := by
  refine ⟨by show (ws ++ _).length = (h.1 ++ _).length; simp [hw.1], fun k sk qk ek hk1 hk2 => ?_⟩
  have hk1 : (h.1 ++ [sh])[k]? = some sk := hk1
  by_cases hl : k < h.1.length
  · rw [List.getElem?_append_left hl] at hk1
    rw [List.getElem?_append_left (by rw [hw.1]; exact hl)] at hk2
    have hne : k ≠ h.1.length := by omega
    refine (hw.2 k sk qk ek hk1 hk2).mono xt_app ⟨?_, ?_, ?_⟩
    · funext j; simp [nw, hne]
    · funext j; simp [nw, hne]
    · funext j; simp [nw, hne]
  · have hz : k < (h.1 ++ [sh]).length := (List.getElem?_eq_some_iff.mp hk1).1
    rw [List.length_append, List.length_singleton] at hz
    have hk0 : k = h.1.length := by omega
    subst hk0
    rw [List.getElem?_append_right (by omega), Nat.sub_self] at hk1
    rw [List.getElem?_append_right (by rw [hw.1]; omega), hw.1, Nat.sub_self] at hk2
    cases hk1; cases hk2
    exact hc
theorem wrl.at {s : State} {D : va_G} {ad : Nat → Nat} {ws : va_W} {h : AH} {k : Nat} {sh : Nat × Nat} (hw : wrl s D ad ws h) (hk : h.1[k]? = some sh) : ∃ q e, ws[k]? = some (q, e) ∧ adr ws k = some q ∧ crl s D ad ws h k sh e := by
  have hl : k < ws.length := by rw [hw.1]; exact (List.getElem?_eq_some_iff.mp hk).1
  have h2 : ws[k]? = some (ws[k].1, ws[k].2) := List.getElem?_eq_getElem hl
  exact ⟨_, _, h2, by unfold adr; rw [h2]; rfl, hw.2 k sh _ _ hk h2⟩
theorem vrl.cat {ad : Nat → Nat} {ws : va_W} : ∀ {a : AV} {v : Value}, vrl ad ws a v → cat1 a = true → v.category = 1
  | .inl _, _, h, _ => by rw [h]; rfl
  | .inr (.inl _), _, _, hc => by cases hc
  | .inr (.inr (.inl _)), _, ⟨o', _, h2⟩, _ => by rw [h2]; cases o' <;> rfl
  | .inr (.inr (.inr 0)), _, _, hc => by cases hc
  | .inr (.inr (.inr (_ + 1))), _, h, _ => by rw [h.2]; rfl
theorem srl.wt {ad : Nat → Nat} {ws : va_W} : ∀ {st : List AV} {sv : List Value}, srl ad ws st sv → (sv.map fun v => v.category).sum = wt st
  | [], [], _ => rfl
  | .inl _ :: st, v :: vs, h => by
    rw [List.map_cons, List.sum_cons, srl.wt h.2, show v = _ from h.1.2]; rfl
  | .inr (.inl _) :: st, v :: vs, h => by
    rw [List.map_cons, List.sum_cons, srl.wt h.2, show v = _ from h.1.2]; rfl
  | .inr (.inr (.inl _)) :: st, v :: vs, h => by
    obtain ⟨o', -, h2⟩ := h.1.2
    rw [List.map_cons, List.sum_cons, srl.wt h.2, h2]; cases o' <;> rfl
  | .inr (.inr (.inr 0)) :: st, v :: vs, h => absurd rfl h.1.1
  | .inr (.inr (.inr (_ + 1))) :: st, v :: vs, h => by
    rw [List.map_cons, List.sum_cons, srl.wt h.2, h.1.2.2]; rfl
  | [], _ :: _, h => h.elim
  | _ :: _, [], h => h.elim
theorem msk_get : ∀ {bs : List Bool} {lv : List AV} {i : Nat} {v : AV}, (msk bs lv)[i]? = some v → v ≠ aU → lv[i]? = some v
  | [], [], i, v, h, _ => by simp [msk] at h
  | true :: _, [], i, v, h, _ => by simp [msk] at h
  | false :: _, [], i, v, h, _ => by simp [msk] at h
  | true :: bs, x :: lv, 0, v, h, _ => h
  | false :: bs, x :: lv, 0, v, h, hv => by
    rw [show (msk (false :: bs) (x :: lv))[0]? = some aU from rfl] at h
    exact absurd (Option.some.inj h).symm hv
  | [], x :: lv, 0, v, h, hv => by
    rw [show (msk [] (x :: lv))[0]? = some aU from rfl] at h
    exact absurd (Option.some.inj h).symm hv
  | true :: bs, x :: lv, i + 1, v, h, hv => msk_get (bs := bs) (lv := lv) (i := i) h hv
  | false :: bs, x :: lv, i + 1, v, h, hv => msk_get (bs := bs) (lv := lv) (i := i) h hv
  | [], x :: lv, i + 1, v, h, hv => msk_get (bs := []) (lv := lv) (i := i) h hv
theorem msk_len : ∀ (bs : List Bool) (lv : List AV), (msk bs lv).length = lv.length
  | [], [] => rfl
  | true :: _, [] => rfl
  | false :: _, [] => rfl
  | true :: bs, x :: lv => by show (msk bs lv).length + 1 = _; rw [msk_len bs lv]; rfl
  | false :: bs, x :: lv => by show (msk bs lv).length + 1 = _; rw [msk_len bs lv]; rfl
  | [], x :: lv => by show (msk [] lv).length + 1 = _; rw [msk_len [] lv]; rfl
theorem lrl.msk {ad : Nat → Nat} {ws : va_W} {lv : List AV} {ls : Array Slot} {nL : Nat} (h : lrl ad ws lv ls nL) (bs : List Bool) : lrl ad ws (msk bs lv) ls nL := by
  obtain ⟨h1, L, h2, h3⟩ := h
  exact ⟨by rw [msk_len]; exact h1, L, h2, fun i v hi hv => h3 i v (msk_get hi hv) hv⟩
theorem lrl.get {ad : Nat → Nat} {ws : va_W} {lv : List AV} {ls : Array Slot} {nL : Nat} (h : lrl ad ws lv ls nL) {i : Nat} {v : AV} (hi : lv[i]? = some v) (hv : v ≠ aU) : ∃ w, ls[i]? = some (.val w) ∧ vrl ad ws v w := by
  obtain ⟨h1, L, h2, h3⟩ := h
  obtain ⟨w, h4, h5⟩ := h3 i v hi hv
  exact ⟨w, h2.2.2 _ h4, h5⟩
theorem clr_get {lv : List AV} {i j : Nat} {x : AV} (hj : (clr lv i)[j]? = some x) (hx : x ≠ aU) : lv[j]? = some x ∧ ¬ (j + 1 = i ∧ ∃ y, x = aL y) := by
  cases i with
  | zero => exact ⟨hj, fun q => by omega⟩
  | succ k =>
    have hj2 : (match lv[k]? with | some (.inr (.inl _)) => lv.set k aU | _ => lv)[j]? = some x := hj
    split at hj2
    · rename_i y hy
      by_cases hjk : j = k
      · subst hjk
        rw [List.getElem?_set_self (List.getElem?_eq_some_iff.mp hy).1] at hj2
        exact absurd (Option.some.inj hj2).symm hx
      · rw [List.getElem?_set_ne (Ne.symm hjk)] at hj2
        exact ⟨hj2, fun q => hjk (by omega)⟩
    · rename_i hy
      refine ⟨hj2, fun ⟨q, y, hy2⟩ => ?_⟩
      have hjk : j = k := by omega
      rw [hjk, hy2] at hj2
      exact hy y hj2
theorem clr_len (lv : List AV) (j : Nat) : (clr lv j).length = lv.length := by
  unfold clr
  split
  · rfl
  · split
    · rw [List.length_set]
    · rfl
theorem vrl.cat' {ad : Nat → Nat} {ws : va_W} {x : AV} {w : Value} (h5 : vrl ad ws x w) (hx : x ≠ aU) (hl : ¬ ∃ y, x = aL y) : w.category = 1 := by
  match x, h5, hx with
  | .inl _, h5, _ => rw [show w = _ from h5]; rfl
  | .inr (.inl y), h5, _ => exact absurd ⟨y, rfl⟩ hl
  | .inr (.inr (.inl _)), h5, _ => obtain ⟨o', -, h2⟩ := h5; rw [h2]; cases o' <;> rfl
  | .inr (.inr (.inr 0)), _, hx => exact absurd rfl hx
  | .inr (.inr (.inr (_ + 1))), h5, _ => rw [h5.2]; rfl
/-- a store of a value of one word -/
theorem lrl.put1 {ad : Nat → Nat} {ws : va_W} {lv : List AV} {ls' : Array Slot} {nL i : Nat} {v : AV} {w : Value} {L : List (Nat × Value)} (h1 : lv.length = nL) (h3 : ∀ (i : Nat) (v : AV), lv[i]? = some v → v ≠ aU → ∃ w, (i, w) ∈ L ∧ vrl ad ws v w)
    (hl : lv_has ls' nL ((i, w) :: L.filter (fun q => !(q.1 == i) && !(q.1 + 1 == i && q.2.category == 2)))) (hw : vrl ad ws v w) (hi : i < nL) : lrl ad ws (st1 lv i v) ls' nL := by
  refine ⟨by show ((clr lv i).set i v).length = nL; rw [List.length_set, clr_len]; exact h1, _, hl, fun j x hj hx => ?_⟩
  have hj : ((clr lv i).set i v)[j]? = some x := hj
  by_cases hji : j = i
  · subst hji
    rw [List.getElem?_set_self (by rw [clr_len]; omega)] at hj
    cases hj
    exact ⟨w, List.mem_cons_self, hw⟩
  · rw [List.getElem?_set_ne (Ne.symm hji)] at hj
    have key := clr_get hj hx
    obtain ⟨w', h4, h5⟩ := h3 j x key.1 hx
    refine ⟨w', List.mem_cons_of_mem _ (List.mem_filter.mpr ⟨h4, ?_⟩), h5⟩
    simp only [Bool.and_eq_true, Bool.not_eq_true', beq_eq_false_iff_ne, ne_eq, Bool.and_eq_false_iff]
    refine ⟨hji, ?_⟩
    by_cases hq : j + 1 = i
    · right
      rw [h5.cat' hx (fun z => key.2 ⟨hq, z⟩)]
      decide
    · left; exact hq
theorem lrl.put2 {ad : Nat → Nat} {ws : va_W} {lv : List AV} {ls' : Array Slot} {nL i : Nat} {v : AV} {w : Value} {L : List (Nat × Value)} (h1 : lv.length = nL) (h3 : ∀ (i : Nat) (v : AV), lv[i]? = some v → v ≠ aU → ∃ w, (i, w) ∈ L ∧ vrl ad ws v w)
    (hl : lv_has ls' nL ((i, w) :: L.filter (fun q => !(q.1 == i) && (!(q.1 == i + 1) && !(q.1 + 1 == i && q.2.category == 2))))) (hw : vrl ad ws v w) (hi : i + 1 < nL) : lrl ad ws (st2 lv i v) ls' nL := by
  refine ⟨by show (((clr lv i).set i v).set (i + 1) aU).length = nL; rw [List.length_set, List.length_set, clr_len]; exact h1, _, hl, fun j x hj hx => ?_⟩
  have hj : (((clr lv i).set i v).set (i + 1) aU)[j]? = some x := hj
  by_cases hj1 : j = i + 1
  · subst hj1
    rw [List.getElem?_set_self (by rw [List.length_set, clr_len]; omega)] at hj
    exact absurd (Option.some.inj hj).symm hx
  rw [List.getElem?_set_ne (Ne.symm hj1)] at hj
  by_cases hji : j = i
  · subst hji
    rw [List.getElem?_set_self (by rw [clr_len]; omega)] at hj
    cases hj
    exact ⟨w, List.mem_cons_self, hw⟩
  · rw [List.getElem?_set_ne (Ne.symm hji)] at hj
    have key := clr_get hj hx
    obtain ⟨w', h4, h5⟩ := h3 j x key.1 hx
    refine ⟨w', List.mem_cons_of_mem _ (List.mem_filter.mpr ⟨h4, ?_⟩), h5⟩
    simp only [Bool.and_eq_true, Bool.not_eq_true', beq_eq_false_iff_ne, ne_eq, Bool.and_eq_false_iff]
    refine ⟨hji, hj1, ?_⟩
    by_cases hq : j + 1 = i
    · right
      rw [h5.cat' hx (fun z => key.2 ⟨hq, z⟩)]
      decide
    · left; exact hq
/-- the entry -/
theorem lv_args_1 {n : Nat} {v : Value} {vs : List Value} (h : v.category = 1) : lv_args n (v :: vs) = (n, v) :: lv_args (n + 1) vs := by
  show (n, v) :: lv_args (if v.category = 2 then n + 2 else n + 1) vs = _
  rw [h]; rfl
theorem lg_sl_1 {v : Value} {vs : List Value} (h : v.category = 1) : lg_sl (v :: vs) = .val v :: lg_sl vs := by
  unfold lg_sl
  rw [List.flatMap_cons, h]; rfl
theorem spr_1 {a : AV} {as : List AV} (hl : ¬ ∃ y, a = aL y) : spr (a :: as) = a :: spr as := by
  match a with
  | .inl _ => rfl
  | .inr (.inl y) => exact absurd ⟨y, rfl⟩ hl
  | .inr (.inr _) => rfl
theorem spr_arg {ad : Nat → Nat} {ws : va_W} : ∀ {as : List AV} {avs : List Value} (n : Nat), srl ad ws as avs → (spr as).length = (lg_sl avs).length ∧ ∀ (i : Nat) (v : AV), (spr as)[i]? = some v → v ≠ aU → ∃ w, (n + i, w) ∈ lv_args n avs ∧ vrl ad ws v w
  | [], [], n, _ => ⟨rfl, fun i v h => by simp [spr] at h⟩
  | [], _ :: _, n, h => h.elim
  | _ :: _, [], n, h => h.elim
  | a :: as, w :: vs, n, h => by
    by_cases hl : ∃ y, a = aL y
    · obtain ⟨y, rfl⟩ := hl
      have hw : w = .long y := h.1.2
      subst hw
      obtain ⟨e1, e2⟩ := spr_arg (n + 2) h.2
      refine ⟨by show (spr as).length + 1 + 1 = (Slot.val (.long y) :: Slot.second :: lg_sl vs).length; rw [e1]; rfl, fun i v hi hv => ?_⟩
      match i, hi with
      | 0, hi => cases hi; exact ⟨_, List.mem_cons_self, rfl⟩
      | 1, hi => cases hi; exact absurd rfl hv
      | i + 2, hi =>
        obtain ⟨w, g1, g2⟩ := e2 i v hi hv
        exact ⟨w, List.mem_cons_of_mem _ (by rw [show n + (i + 2) = n + 2 + i by omega]; exact g1), g2⟩
    · have hc := h.1.2.cat' h.1.1 hl
      obtain ⟨e1, e2⟩ := spr_arg (n + 1) h.2
      rw [spr_1 hl, lg_sl_1 hc, lv_args_1 hc]
      refine ⟨by rw [List.length_cons, List.length_cons, e1], fun i v hi hv => ?_⟩
      match i, hi with
      | 0, hi => cases hi; exact ⟨_, List.mem_cons_self, h.1.2⟩
      | i + 1, hi =>
        obtain ⟨w, g1, g2⟩ := e2 i v hi hv
        exact ⟨w, List.mem_cons_of_mem _ (by rw [show n + (i + 1) = n + 1 + i by omega]; exact g1), g2⟩
theorem lrl_entry {ad : Nat → Nat} {ws : va_W} {as : List AV} {avs : List Value} {nL : Nat} (h : srl ad ws as avs) (hn : (spr as).length ≤ nL) : lrl ad ws (ent nL as) ((lg_sl avs ++ List.replicate (nL - (lg_sl avs).length) Slot.unset).toArray) nL := by
  obtain ⟨e1, e2⟩ := spr_arg 0 h
  refine ⟨by unfold ent; rw [List.length_append, List.length_replicate]; omega, _, lv_entry avs (by omega), fun i v hi hv => ?_⟩
  unfold ent at hi
  by_cases hl : i < (spr as).length
  · rw [List.getElem?_append_left hl] at hi
    obtain ⟨w, g1, g2⟩ := e2 i v hi hv
    exact ⟨w, by rw [Nat.zero_add] at g1; exact g1, g2⟩
  · rw [List.getElem?_append_right (by omega)] at hi
    have := List.mem_of_getElem? hi
    rw [List.mem_replicate] at this
    exact absurd this.2 hv
