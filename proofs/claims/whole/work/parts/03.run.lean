/-! one instruction goes on with what is behind it, or jumps, or ends -/
def nx (C : AC) (lm : Nat → List Bool) (it : CI) (lv st : List AV) (h : AH) (K : AK) (k : AT) (r : AR) : Prop :=
  (∃ lv' st' h', k lv' st' h' = some r ∧ ∀ (K' : AK) (k' : AT), ev1 C K' lm it lv st h k' = k' lv' st' h') ∨
  (∃ t lv' st' h', K t lv' st' h' = some r ∧ ∀ (K' : AK) (k' : AT), ev1 C K' lm it lv st h k' = K' t lv' st' h') ∨
  (∀ (K' : AK) (k' : AT), ev1 C K' lm it lv st h k' = some r)
theorem p1I_s {st : List AV} {f : Int32 → List AV → Option AR} {r : AR} (h : p1I st f = some r) : ∃ x st', st = aI x :: st' ∧ f x st' = some r := by
  unfold p1I at h
  split at h
  · exact ⟨_, _, rfl, h⟩
  · cases h
theorem p1L_s {st : List AV} {f : Int64 → List AV → Option AR} {r : AR} (h : p1L st f = some r) : ∃ x st', st = aL x :: st' ∧ f x st' = some r := by
  unfold p1L at h
  split at h
  · exact ⟨_, _, rfl, h⟩
  · cases h
theorem p1R_s {st : List AV} {f : Option Nat → List AV → Option AR} {r : AR} (h : p1R st f = some r) : ∃ x st', st = aR x :: st' ∧ f x st' = some r := by
  unfold p1R at h
  split at h
  · exact ⟨_, _, rfl, h⟩
  · cases h
theorem p1V_s {st : List AV} {f : AV → List AV → Option AR} {r : AR} (h : p1V st f = some r) : ∃ x st', st = x :: st' ∧ f x st' = some r := by
  unfold p1V at h
  split at h
  · exact ⟨_, _, rfl, h⟩
  · cases h
theorem p2I_s {st : List AV} {f : Int32 → Int32 → List AV → Option AR} {r : AR} (h : p2I st f = some r) : ∃ x y st', st = aI y :: aI x :: st' ∧ f x y st' = some r := by
  unfold p2I at h
  split at h
  · exact ⟨_, _, _, rfl, h⟩
  · cases h
theorem p2L_s {st : List AV} {f : Int64 → Int64 → List AV → Option AR} {r : AR} (h : p2L st f = some r) : ∃ x y st', st = aL y :: aL x :: st' ∧ f x y st' = some r := by
  unfold p2L at h
  split at h
  · exact ⟨_, _, _, rfl, h⟩
  · cases h
theorem pLI_s {st : List AV} {f : Int64 → Int32 → List AV → Option AR} {r : AR} (h : pLI st f = some r) : ∃ x y st', st = aI y :: aL x :: st' ∧ f x y st' = some r := by
  unfold pLI at h
  split at h
  · exact ⟨_, _, _, rfl, h⟩
  · cases h
theorem pRI_s {st : List AV} {f : Option Nat → Int32 → List AV → Option AR} {r : AR} (h : pRI st f = some r) : ∃ o i st', st = aI i :: aR o :: st' ∧ f o i st' = some r := by
  unfold pRI at h
  split at h
  · exact ⟨_, _, _, rfl, h⟩
  · cases h
theorem nil_s {st : List AV} {x : Option AR} {r : AR} (h : nil st x = some r) : st = [] ∧ x = some r := by
  unfold nil at h
  split at h
  · exact ⟨rfl, h⟩
  · cases h
theorem rs1_s {rs : List Nat} {f : Nat → Option AR} {r : AR} (h : rs1 rs f = some r) : ∃ a l, rs = a :: l ∧ f a = some r := by
  unfold rs1 at h
  split at h
  · exact ⟨_, _, rfl, h⟩
  · cases h
theorem rsL_s {rs : List Nat} {f : Nat → List Nat → Option AR} {r : AR} (h : rsL rs f = some r) : ∃ a l, rs = a :: l ∧ f a l = some r := by
  unfold rsL at h
  split at h
  · exact ⟨_, _, rfl, h⟩
  · cases h
theorem rs2_s {rs : List Nat} {f : Nat → Nat → Option AR} {r : AR} (h : rs2 rs f = some r) : ∃ a b l, rs = a :: b :: l ∧ f a b = some r := by
  unfold rs2 at h
  split at h
  · exact ⟨_, _, _, rfl, h⟩
  · cases h
theorem rs3_s {rs : List Nat} {f : Nat → Nat → Nat → Option AR} {r : AR} (h : rs3 rs f = some r) : ∃ a b c l, rs = a :: b :: c :: l ∧ f a b c = some r := by
  unfold rs3 at h
  split at h
  · exact ⟨_, _, _, _, rfl, h⟩
  · cases h
theorem ldI_s {lv : List AV} {n : Nat} {f : Int32 → Option AR} {r : AR} (h : ldI lv n f = some r) : ∃ x, lv[n]? = some (aI x) ∧ f x = some r := by
  unfold ldI at h
  split at h
  · exact ⟨_, by assumption, h⟩
  · cases h
theorem ldL_s {lv : List AV} {n : Nat} {f : Int64 → Option AR} {r : AR} (h : ldL lv n f = some r) : ∃ x, lv[n]? = some (aL x) ∧ f x = some r := by
  unfold ldL at h
  split at h
  · exact ⟨_, by assumption, h⟩
  · cases h
theorem ldA_s {lv : List AV} {n : Nat} {f : AV → Option AR} {r : AR} (h : ldA lv n f = some r) : ∃ x, ((∃ o, x = aR o) ∨ ∃ q, x = aS q) ∧ lv[n]? = some x ∧ f x = some r := by
  unfold ldA at h
  split at h
  · exact ⟨_, Or.inl ⟨_, rfl⟩, by assumption, h⟩
  · exact ⟨_, Or.inr ⟨_, rfl⟩, by assumption, h⟩
  · cases h
theorem idx_s {h : AH} {kd : Nat} {o : Option Nat} {i : Int32} {f : Nat → Nat → Option AR} {r : AR} (hh : idx h kd o i f = some r) : ∃ a n, o = some a ∧ h.1[a]? = some (kd, n) ∧ vp_in i n ∧ f a i.toNatClampNeg = some r := by
  unfold idx at hh
  split at hh
  · cases hh
  · rename_i a
    split at hh
    · rename_i k n e
      split at hh
      · rename_i q
        exact ⟨a, n, rfl, by rw [e, q.1], q.2, hh⟩
      · cases hh
    · cases hh
theorem obj_s {h : AH} {ci : Nat} {o : Option Nat} {f : Nat → Option AR} {r : AR} (hh : obj h ci o f = some r) : ∃ a, o = some a ∧ h.1[a]? = some (4, ci) ∧ f a = some r := by
  unfold obj at hh
  split at hh
  · cases hh
  · rename_i a
    split at hh
    · rename_i q
      exact ⟨a, rfl, q, hh⟩
    · cases hh
theorem pop_s {n : Nat} {st : List AV} {f : List AV → List AV → Option AR} {r : AR} (h : pop n st f = some r) : ∃ as st', popW n st = some (as, st') ∧ f as st' = some r := by
  unfold pop at h
  split at h
  · exact ⟨_, _, by assumption, h⟩
  · cases h
theorem calV_s {o : Option AR} {f : AH → Option AR} {r : AR} (h : calV o f = some r) : ∃ h', o = some (none, h') ∧ f h' = some r := by
  unfold calV at h
  split at h
  · exact ⟨_, rfl, h⟩
  · cases h
theorem calI_s {o : Option AR} {f : Int32 → AH → Option AR} {r : AR} (h : calI o f = some r) : ∃ x h', o = some (some (aI x), h') ∧ f x h' = some r := by
  unfold calI at h
  split at h
  · exact ⟨_, _, rfl, h⟩
  · cases h
theorem calL_s {o : Option AR} {f : Int64 → AH → Option AR} {r : AR} (h : calL o f = some r) : ∃ x h', o = some (some (aL x), h') ∧ f x h' = some r := by
  unfold calL at h
  split at h
  · exact ⟨_, _, rfl, h⟩
  · cases h
theorem calR_s {o : Option AR} {f : Option Nat → AH → Option AR} {r : AR} (h : calR o f = some r) : ∃ x h', o = some (some (aR x), h') ∧ f x h' = some r := by
  unfold calR at h
  split at h
  · exact ⟨_, _, rfl, h⟩
  · cases h
/-- the kind of an answer -/
def rkd : Nat → Option AV → Prop
  | 0, v => v = none
  | 1, v => ∃ x, v = some (aI x)
  | 2, v => ∃ x, v = some (aL x)
  | _, v => ∃ x, v = some (aR x)
theorem cal_s {o : Option AR} {st : List AV} {k : List AV → AH → Option AR} {rk : Nat} {r : AR} (h : cal o st k rk = some r) : ∃ v h', o = some (v, h') ∧ rkd rk v ∧ k (v.toList ++ st) h' = some r := by
  match rk, h with
  | 0, h => obtain ⟨h', e, q⟩ := calV_s h; exact ⟨_, _, e, rfl, q⟩
  | 1, h => obtain ⟨x, h', e, q⟩ := calI_s h; exact ⟨_, _, e, ⟨x, rfl⟩, q⟩
  | 2, h => obtain ⟨x, h', e, q⟩ := calL_s h; exact ⟨_, _, e, ⟨x, rfl⟩, q⟩
  | n + 3, h => obtain ⟨x, h', e, q⟩ := calR_s h; exact ⟨_, _, e, ⟨x, rfl⟩, q⟩
theorem rcv_s {h : AH} {ci : Nat} {as : List AV} {x : Option AR} {r : AR} (hh : rcv h ci as x = some r) : ((∃ a as', as = aR (some a) :: as' ∧ h.1[a]? = some (4, ci)) ∨ ∃ q as', as = aS q :: as' ∧ ci = 100 ∧ q < 9) ∧ x = some r := by
  unfold rcv at hh
  split at hh
  · obtain ⟨a, rfl, e, e2⟩ := obj_s hh
    exact ⟨Or.inl ⟨a, _, rfl, e⟩, e2⟩
  · split at hh
    · rename_i hq
      exact ⟨Or.inr ⟨_, _, rfl, hq.1, hq.2⟩, hh⟩
    · cases hh
  · cases hh
theorem if_s {c : Prop} {_ : Decidable c} {a : Option AR} {r : AR} (h : (if c then a else none) = some r) : c ∧ a = some r := by
  split at h
  · exact ⟨by assumption, h⟩
  · cases h
theorem if_n {c : Prop} {_ : Decidable c} {a : Option AR} {r : AR} (h : (if c then none else a) = some r) : ¬ c ∧ a = some r := by
  split at h
  · cases h
  · exact ⟨by assumption, h⟩
theorem mb_s {α : Type} {o : Option α} {f : α → Option AR} {r : AR} (h : mb o f = some r) : ∃ v, o = some v ∧ f v = some r := by
  unfold mb at h
  split at h
  · exact ⟨_, rfl, h⟩
  · cases h
theorem mb_e {α : Type} {o : Option α} {v : α} (e : o = some v) (f : α → Option AR) : mb o f = f v := by rw [e]; rfl
theorem if_c {c : Prop} {_ : Decidable c} {a b : Option AR} {r : AR} (h : (if c then a else b) = some r) : (c ∧ a = some r) ∨ (¬ c ∧ b = some r) := by
  split at h
  · exact Or.inl ⟨by assumption, h⟩
  · exact Or.inr ⟨by assumption, h⟩
theorem ifz_s {cd : ClassFile.Cond} {x : Int32} {r : AR} {a b : Option AR} (h : ifz cd x a b = some r) : (a = some r ∧ ∀ a' b', ifz cd x a' b' = a') ∨ (b = some r ∧ ∀ a' b', ifz cd x a' b' = b') := by
  cases cd <;> rcases if_c h with ⟨q, e⟩ | ⟨q, e⟩ <;> first | exact Or.inl ⟨e, fun a' b' => if_pos q⟩ | exact Or.inl ⟨e, fun a' b' => if_neg q⟩ | exact Or.inr ⟨e, fun a' b' => if_pos q⟩ | exact Or.inr ⟨e, fun a' b' => if_neg q⟩
theorem ifc_s {cd : ClassFile.Cond} {x y : Int32} {r : AR} {a b : Option AR} (h : ifc cd x y a b = some r) : (a = some r ∧ ∀ a' b', ifc cd x y a' b' = a') ∨ (b = some r ∧ ∀ a' b', ifc cd x y a' b' = b') := by
  cases cd <;> rcases if_c h with ⟨q, e⟩ | ⟨q, e⟩ <;> first | exact Or.inl ⟨e, fun a' b' => if_pos q⟩ | exact Or.inl ⟨e, fun a' b' => if_neg q⟩ | exact Or.inr ⟨e, fun a' b' => if_pos q⟩ | exact Or.inr ⟨e, fun a' b' => if_neg q⟩
theorem ldI_e {lv : List AV} {n : Nat} {x : Int32} (e : lv[n]? = some (aI x)) (f : Int32 → Option AR) : ldI lv n f = f x := by unfold ldI; rw [e]
theorem ldL_e {lv : List AV} {n : Nat} {x : Int64} (e : lv[n]? = some (aL x)) (f : Int64 → Option AR) : ldL lv n f = f x := by unfold ldL; rw [e]
theorem ldA_e {lv : List AV} {n : Nat} {x : AV} (hx : (∃ o, x = aR o) ∨ ∃ q, x = aS q) (e : lv[n]? = some x) (f : AV → Option AR) : ldA lv n f = f x := by
  unfold ldA; rw [e]; rcases hx with ⟨o, rfl⟩ | ⟨q, rfl⟩ <;> rfl
theorem idx_e {h : AH} {kd a n : Nat} {i : Int32} (e : h.1[a]? = some (kd, n)) (hi : vp_in i n) (f : Nat → Nat → Option AR) : idx h kd (some a) i f = f a i.toNatClampNeg := by
  show (match h.1[a]? with | some (k, n) => if k = kd ∧ ¬ (i < 0 ∨ n ≤ i.toNatClampNeg) then f a i.toNatClampNeg else none | none => none) = _
  rw [e]
  exact if_pos ⟨rfl, hi⟩
theorem obj_e {h : AH} {ci a : Nat} (e : h.1[a]? = some (4, ci)) (f : Nat → Option AR) : obj h ci (some a) f = f a := if_pos e
theorem pop_e {n : Nat} {st as st' : List AV} (e : popW n st = some (as, st')) (f : List AV → List AV → Option AR) : pop n st f = f as st' := by unfold pop; rw [e]
theorem rcv_e {h : AH} {ci : Nat} {as : List AV} (e : (∃ a as', as = aR (some a) :: as' ∧ h.1[a]? = some (4, ci)) ∨ ∃ q as', as = aS q :: as' ∧ ci = 100 ∧ q < 9) (x : Option AR) : rcv h ci as x = x := by
  rcases e with ⟨a, as', rfl, e⟩ | ⟨q, as', rfl, e⟩
  · exact if_pos e
  · exact if_pos e
theorem popW_s {n : Nat} {st as st' : List AV} (e : popW n st = some (as, st')) : popA n [] st = some (as, st') ∧ wt st' ≤ 8 := by
  unfold popW at e
  split at e
  · split at e
    · cases e
      exact ⟨by assumption, Nat.le_of_ble_eq_true (by assumption)⟩
    · cases e
  · cases e
theorem cal_e {o : Option AR} {st : List AV} {v : Option AV} {h' : AH} {rk : Nat} (e : o = some (v, h')) (hk : rkd rk v) (k : List AV → AH → Option AR) : cal o st k rk = k (v.toList ++ st) h' := by
  rw [e]
  match rk, hk with
  | 0, hk => cases hk; rfl
  | 1, hk => obtain ⟨x, rfl⟩ := hk; rfl
  | 2, hk => obtain ⟨x, rfl⟩ := hk; rfl
  | n + 3, hk => obtain ⟨x, rfl⟩ := hk; rfl
theorem rs4_s {rs : List Nat} {f : Nat → Nat → Nat → Nat → Option AR} {r : AR} (h : rs4 rs f = some r) : ∃ a b c d l, rs = a :: b :: c :: d :: l ∧ f a b c d = some r := by
  unfold rs4 at h
  split at h
  · exact ⟨_, _, _, _, _, rfl, h⟩
  · cases h
set_option maxHeartbeats 4000000 in
theorem ev1_nx (C : AC) (lm : Nat → List Bool) (it : CI) (lv st : List AV) (h : AH) (K : AK) (k : AT) (r : AR) (hr : ev1 C K lm it lv st h k = some r) : nx C lm it lv st h K k r := by
  obtain ⟨i, rs, z⟩ := it
  unfold nx
  cases i
  all_goals first
    | exact Or.inl ⟨_, _, _, hr, fun _ _ => rfl⟩
    | cases hr
    | (obtain ⟨x, st, rfl, h1⟩ := p1I_s hr; exact Or.inl ⟨_, _, _, h1, fun _ _ => rfl⟩)
    | (obtain ⟨x, st, rfl, h1⟩ := p1L_s hr; exact Or.inl ⟨_, _, _, h1, fun _ _ => rfl⟩)
    | (obtain ⟨x, st, rfl, h1⟩ := p1R_s hr; exact Or.inl ⟨_, _, _, h1, fun _ _ => rfl⟩)
    | (obtain ⟨x, y, st, rfl, h1⟩ := p2I_s hr; exact Or.inl ⟨_, _, _, h1, fun _ _ => rfl⟩)
    | (obtain ⟨x, y, st, rfl, h1⟩ := p2L_s hr; exact Or.inl ⟨_, _, _, h1, fun _ _ => rfl⟩)
    | (obtain ⟨x, y, st, rfl, h1⟩ := pLI_s hr; exact Or.inl ⟨_, _, _, h1, fun _ _ => rfl⟩)
    | (obtain ⟨x, y, st, rfl, h1⟩ := pRI_s hr; exact Or.inl ⟨_, _, _, h1, fun _ _ => rfl⟩)
    | (obtain ⟨x, e, h1⟩ := ldI_s hr; exact Or.inl ⟨_, _, _, h1, fun _ _ => ldI_e e _⟩)
    | (obtain ⟨x, e, h1⟩ := ldL_s hr; exact Or.inl ⟨_, _, _, h1, fun _ _ => ldL_e e _⟩)
    | (obtain ⟨x, hx, e, h1⟩ := ldA_s hr; exact Or.inl ⟨_, _, _, h1, fun _ _ => ldA_e hx e _⟩)
    | (obtain ⟨v, st, rfl, h1⟩ := p1V_s hr; obtain ⟨q, h2⟩ := if_s h1; exact Or.inl ⟨_, _, _, h2, fun _ _ => if_pos q⟩)
    | (obtain ⟨x, y, st, rfl, h1⟩ := p2I_s hr; obtain ⟨q, h2⟩ := if_n h1; exact Or.inl ⟨_, _, _, h2, fun _ _ => if_neg q⟩)
    | (obtain ⟨o, i, st, rfl, h1⟩ := pRI_s hr; obtain ⟨a, n, rfl, e, hi, h2⟩ := idx_s h1; exact Or.inl ⟨_, _, _, h2, fun _ _ => by simp only [ev1, rs1, rs2, rs3, rsL, p1I, p1L, p1R, p1V, p2I, p2L, pLI, pRI, lt, idx_e e hi]⟩)
    | (obtain ⟨x, st, rfl, h1⟩ := p1I_s hr; obtain ⟨o, i, st, rfl, h2⟩ := pRI_s h1; obtain ⟨a, n, rfl, e, hi, h3⟩ := idx_s h2; exact Or.inl ⟨_, _, _, h3, fun _ _ => by simp only [ev1, rs1, rs2, rs3, rsL, p1I, p1L, p1R, p1V, p2I, p2L, pLI, pRI, lt, idx_e e hi]⟩)
    | (obtain ⟨x, st, rfl, h1⟩ := p1L_s hr; obtain ⟨o, i, st, rfl, h2⟩ := pRI_s h1; obtain ⟨a, n, rfl, e, hi, h3⟩ := idx_s h2; exact Or.inl ⟨_, _, _, h3, fun _ _ => by simp only [ev1, rs1, rs2, rs3, rsL, p1I, p1L, p1R, p1V, p2I, p2L, pLI, pRI, lt, idx_e e hi]⟩)
    | (obtain ⟨x, st, rfl, h1⟩ := p1I_s hr; obtain ⟨o, i, st, rfl, h2⟩ := pRI_s h1; obtain ⟨q, h3⟩ := if_s h2; obtain ⟨a, n, rfl, e, hi, h4⟩ := idx_s h3; exact Or.inl ⟨_, _, _, h4, fun _ _ => by simp only [ev1, rs1, rs2, rs3, rsL, p1I, p1L, p1R, p1V, p2I, p2L, pLI, pRI, lt, if_pos q, idx_e e hi]⟩)
    | (obtain ⟨v, st, rfl, h1⟩ := p1R_s hr; obtain ⟨o, i, st, rfl, h2⟩ := pRI_s h1; obtain ⟨b, rfl, e2, h3⟩ := obj_s h2; obtain ⟨a, n, rfl, e, hi, h4⟩ := idx_s h3; exact Or.inl ⟨_, _, _, h4, fun _ _ => by simp only [ev1, rs1, rs2, rs3, rsL, p1I, p1L, p1R, p1V, p2I, p2L, pLI, pRI, lt, obj_e e2, idx_e e hi]⟩)
    | (obtain ⟨a, l, rfl, h1⟩ := rs1_s hr; exact Or.inr (Or.inl ⟨_, _, _, _, h1, fun _ _ => rfl⟩))
    | (obtain ⟨a, l, rfl, h1⟩ := rs1_s hr; exact Or.inl ⟨_, _, _, h1, fun _ _ => rfl⟩)
    | (obtain ⟨a, l, rfl, h1⟩ := rs1_s hr; obtain ⟨x, st, rfl, h2⟩ := p1I_s h1; obtain ⟨q, h3⟩ := if_n h2; exact Or.inl ⟨_, _, _, h3, fun _ _ => if_neg q⟩)
    | (obtain ⟨x, st, rfl, h1⟩ := p1I_s hr; obtain ⟨q, h2⟩ := if_n h1; exact Or.inl ⟨_, _, _, h2, fun _ _ => if_neg q⟩)
    | (obtain ⟨x, st, rfl, h1⟩ := p1L_s hr; obtain ⟨rfl, h2⟩ := nil_s h1; exact Or.inr (Or.inr fun _ _ => h2))
    | (obtain ⟨x, st, rfl, h1⟩ := p1R_s hr; obtain ⟨rfl, h2⟩ := nil_s h1; exact Or.inr (Or.inr fun _ _ => h2))
    | (obtain ⟨rfl, h1⟩ := nil_s hr; exact Or.inr (Or.inr fun _ _ => h1))
    | (obtain ⟨a, l, rfl, h1⟩ := rs1_s hr; obtain ⟨x, st, rfl, h2⟩ := p1I_s h1; obtain ⟨rfl, h3⟩ := nil_s h2; exact Or.inr (Or.inr fun _ _ => h3))
    | (obtain ⟨a, b, l, rfl, h1⟩ := rs2_s hr; rcases if_c h1 with ⟨q, h2⟩ | ⟨q, h2⟩; exact Or.inl ⟨_, _, _, h2, fun _ _ => if_pos q⟩; exact Or.inl ⟨_, _, _, h2, fun _ _ => if_neg q⟩)
    | (obtain ⟨a, b, l, rfl, h1⟩ := rs2_s hr; obtain ⟨x, st, rfl, h2⟩ := p1I_s h1; rcases ifz_s h2 with ⟨h3, q⟩ | ⟨h3, q⟩ <;> exact Or.inr (Or.inl ⟨_, _, _, _, h3, fun _ _ => q _ _⟩))
    | (obtain ⟨a, b, l, rfl, h1⟩ := rs2_s hr; obtain ⟨x, y, st, rfl, h2⟩ := p2I_s h1; rcases ifc_s h2 with ⟨h3, q⟩ | ⟨h3, q⟩ <;> exact Or.inr (Or.inl ⟨_, _, _, _, h3, fun _ _ => q _ _⟩))
    | (obtain ⟨a, b, l, rfl, h1⟩ := rs2_s hr; obtain ⟨o, st, rfl, h2⟩ := p1R_s h1; rcases if_c h2 with ⟨q, h3⟩ | ⟨q, h3⟩; exact Or.inr (Or.inl ⟨_, _, _, _, h3, fun _ _ => if_pos q⟩); exact Or.inr (Or.inl ⟨_, _, _, _, h3, fun _ _ => if_neg q⟩))
    | skip
  case aload =>
    simp only [ev1] at hr
    obtain ⟨x, hx, e, g1⟩ := ldA_s hr
    exact Or.inl ⟨_, _, _, g1, fun _ _ => by simp only [ev1, ldA_e hx e]⟩
  case aload_n =>
    simp only [ev1] at hr
    obtain ⟨x, hx, e, g1⟩ := ldA_s hr
    exact Or.inl ⟨_, _, _, g1, fun _ _ => by simp only [ev1, ldA_e hx e]⟩
  case invokestatic =>
    obtain ⟨c, n, rk, l, rfl, g1⟩ := rs3_s hr
    obtain ⟨as, st', e, g2⟩ := pop_s g1
    obtain ⟨v, h', e2, hk, g3⟩ := cal_s g2
    exact Or.inl ⟨_, _, _, g3, fun _ _ => by simp only [ev1, rs1, rs2, rs3, rs4, rsL, p1I, p1L, p1R, p1V, p2I, p2L, pLI, pRI, pop_e e, cal_e e2 hk]⟩
  case invokevirtual =>
    obtain ⟨c, n, ci, rk, l, rfl, g1⟩ := rs4_s hr
    obtain ⟨as, st', e, g2⟩ := pop_s g1
    obtain ⟨e3, g3⟩ := rcv_s g2
    obtain ⟨v, h', e2, hk, g4⟩ := cal_s g3
    exact Or.inl ⟨_, _, _, g4, fun _ _ => by simp only [ev1, rs1, rs2, rs3, rs4, rsL, p1I, p1L, p1R, p1V, p2I, p2L, pLI, pRI, pop_e e, rcv_e e3, cal_e e2 hk]⟩
  case invokespecial =>
    obtain ⟨c, n, ci, rk, l, rfl, g1⟩ := rs4_s hr
    obtain ⟨as, st', e, g2⟩ := pop_s g1
    obtain ⟨e3, g3⟩ := rcv_s g2
    rcases if_c g3 with ⟨q, g4⟩ | ⟨q, g4⟩
    · exact Or.inl ⟨_, _, _, g4, fun _ _ => by simp only [ev1, rs1, rs2, rs3, rs4, rsL, p1I, p1L, p1R, p1V, p2I, p2L, pLI, pRI, pop_e e, rcv_e e3, if_pos q]⟩
    · obtain ⟨v, h', e2, hk, g5⟩ := cal_s g4
      exact Or.inl ⟨_, _, _, g5, fun _ _ => by simp only [ev1, rs1, rs2, rs3, rs4, rsL, p1I, p1L, p1R, p1V, p2I, p2L, pLI, pRI, pop_e e, rcv_e e3, if_neg q, cal_e e2 hk]⟩
  case getfield =>
    obtain ⟨ci, j, kd, l, rfl, g1⟩ := rs3_s hr
    obtain ⟨o, st, rfl, g2⟩ := p1R_s g1
    obtain ⟨a, rfl, e, g3⟩ := obj_s g2
    obtain ⟨v, e2, g4⟩ := mb_s g3
    exact Or.inl ⟨_, _, _, g4, fun _ _ => by simp only [ev1, rs1, rs2, rs3, rsL, p1I, p1L, p1R, p1V, p2I, p2L, pLI, pRI, obj_e e, mb_e e2]⟩
  case putfield =>
    obtain ⟨ci, j, kd, l, rfl, g1⟩ := rs3_s hr
    obtain ⟨v, st, rfl, g2⟩ := p1V_s g1
    obtain ⟨o, st, rfl, g3⟩ := p1R_s g2
    obtain ⟨a, rfl, e, g4⟩ := obj_s g3
    obtain ⟨h', e2, g5⟩ := mb_s g4
    exact Or.inl ⟨_, _, _, g5, fun _ _ => by simp only [ev1, rs1, rs2, rs3, rsL, p1I, p1L, p1R, p1V, p2I, p2L, pLI, pRI, obj_e e, mb_e e2]⟩
  case arraylength =>
    obtain ⟨o, st, rfl, g1⟩ := p1R_s hr
    obtain ⟨a, rfl, g2⟩ := mb_s g1
    obtain ⟨n, e2, g3⟩ := mb_s g2
    exact Or.inl ⟨_, _, _, g3, fun _ _ => by simp only [ev1, rs1, rs2, rs3, rsL, p1I, p1L, p1R, p1V, p2I, p2L, pLI, pRI, mb_e rfl, mb_e e2]⟩
  case tableswitch d lo hi offs =>
    obtain ⟨d, ts, rfl, g1⟩ := rsL_s hr
    obtain ⟨x, st, rfl, g2⟩ := p1I_s g1
    rcases if_c g2 with ⟨q, g3⟩ | ⟨q, g3⟩
    · exact Or.inr (Or.inl ⟨_, _, _, _, g3, fun _ _ => if_pos q⟩)
    · obtain ⟨t, e2, g4⟩ := mb_s g3
      exact Or.inr (Or.inl ⟨_, _, _, _, g4, fun _ _ => by simp only [ev1, rs1, rs2, rs3, rsL, p1I, p1L, p1R, p1V, p2I, p2L, pLI, pRI, if_neg q, mb_e e2]⟩)
/-! a block, a method, a call -/
def evL (C : AC) (K : AK) (lm : Nat → List Bool) (nt : Nat) : List CI → AT
  | [] => fun lv st h => K nt (msk (lm nt) lv) st h
  | i :: is => fun lv st h => ev1 C K lm i lv st h (evL C K lm nt is)
/-- a block: the next one, the instructions -/
abbrev BT : Type := Nat → Nat × List CI
def rn (B : BT) (lm : Nat → List Bool) (C : AC) : Nat → AK
  | 0 => fun _ _ _ _ => none
  | n + 1 => fun b lv st h => evL C (rn B lm C n) lm (B b).1 (B b).2 lv st h
theorem evL_up {C : AC} {K K' : AK} {lm : Nat → List Bool} {nt : Nat} (hK : ∀ t lv st h r, K t lv st h = some r → K' t lv st h = some r) :
    ∀ (is : List CI) (lv st : List AV) (h : AH) (r : AR), evL C K lm nt is lv st h = some r → evL C K' lm nt is lv st h = some r
  | [], lv, st, h, r, e => hK _ _ _ _ _ e
  | i :: is, lv, st, h, r, e => by
    rcases ev1_nx C lm i lv st h K _ r e with ⟨lv', st', h', e1, e2⟩ | ⟨t, lv', st', h', e1, e2⟩ | e2
    · exact (e2 K' _).trans (evL_up hK is _ _ _ _ e1)
    · exact (e2 K' _).trans (hK _ _ _ _ _ e1)
    · exact e2 K' _
theorem rn_up {B : BT} {lm : Nat → List Bool} {C : AC} : ∀ (n : Nat) (t : Nat) (lv st : List AV) (h : AH) (r : AR), rn B lm C n t lv st h = some r → rn B lm C (n + 1) t lv st h = some r
  | 0, t, lv, st, h, r, e => by cases e
  | n + 1, t, lv, st, h, r, e => evL_up (fun t lv st h r => rn_up n t lv st h r) _ _ _ _ _ e
theorem rn_le {B : BT} {lm : Nat → List Bool} {C : AC} {n : Nat} {t : Nat} {lv st : List AV} {h : AH} {r : AR} (e : rn B lm C n t lv st h = some r) : ∀ m, rn B lm C (n + m) t lv st h = some r
  | 0 => e
  | m + 1 => rn_up (n + m) _ _ _ _ _ (rn_le e m)
noncomputable def Rk (B : BT) (lm : Nat → List Bool) (C : AC) : AK := fun t lv st h =>
  @dite _ (∃ n r, rn B lm C n t lv st h = some r) (Classical.propDecidable _) (fun hh => rn B lm C (Classical.choose hh) t lv st h) (fun _ => none)
theorem Rk_some {B : BT} {lm : Nat → List Bool} {C : AC} {t : Nat} {lv st : List AV} {h : AH} {r : AR} : Rk B lm C t lv st h = some r ↔ ∃ n, rn B lm C n t lv st h = some r := by
  constructor
  · intro e
    unfold Rk at e
    split at e
    · exact ⟨_, e⟩
    · cases e
  · intro ⟨n, e⟩
    have hh : ∃ n r, rn B lm C n t lv st h = some r := ⟨n, r, e⟩
    unfold Rk
    rw [dif_pos hh]
    obtain ⟨r', e'⟩ := Classical.choose_spec hh
    have a1 := rn_le e' n
    have a2 := rn_le e (Classical.choose hh)
    rw [Nat.add_comm] at a2
    rw [e', ← a1, a2]
theorem evL_lim {B : BT} {lm : Nat → List Bool} {C : AC} {nt : Nat} : ∀ (is : List CI) (lv st : List AV) (h : AH) (r : AR), evL C (Rk B lm C) lm nt is lv st h = some r → ∃ n, evL C (rn B lm C n) lm nt is lv st h = some r
  | [], lv, st, h, r, e => Rk_some.mp e
  | i :: is, lv, st, h, r, e => by
    rcases ev1_nx C lm i lv st h (Rk B lm C) _ r e with ⟨lv', st', h', e1, e2⟩ | ⟨t, lv', st', h', e1, e2⟩ | e2
    · obtain ⟨n, e3⟩ := evL_lim is _ _ _ _ e1
      exact ⟨n, (e2 _ _).trans e3⟩
    · obtain ⟨n, e3⟩ := Rk_some.mp e1
      exact ⟨n, (e2 _ _).trans e3⟩
    · exact ⟨0, e2 _ _⟩
/-- a block's equation -/
theorem Rk_eq {B : BT} {lm : Nat → List Bool} {C : AC} (t : Nat) (lv st : List AV) (h : AH) : Rk B lm C t lv st h = evL C (Rk B lm C) lm (B t).1 (B t).2 lv st h := by
  have up : ∀ r, Rk B lm C t lv st h = some r ↔ evL C (Rk B lm C) lm (B t).1 (B t).2 lv st h = some r := by
    intro r
    constructor
    · intro e
      obtain ⟨n, e⟩ := Rk_some.mp e
      cases n with
      | zero => cases e
      | succ n => exact evL_up (fun t lv st h r e => Rk_some.mpr ⟨n, e⟩) _ _ _ _ _ e
    · intro e
      obtain ⟨n, e⟩ := evL_lim _ _ _ _ _ e
      exact Rk_some.mpr ⟨n + 1, e⟩
  cases e : evL C (Rk B lm C) lm (B t).1 (B t).2 lv st h with
  | some r => exact (up r).mpr e
  | none =>
    cases e2 : Rk B lm C t lv st h with
    | none => rfl
    | some r => rw [(up r).mp e2] at e; cases e
