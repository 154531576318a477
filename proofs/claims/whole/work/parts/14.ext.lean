/-! cells are never taken away; one instruction of the abstract machine is one of the machine -/
def le2 (a b : List (Nat × Nat)) : Prop := a.length ≤ b.length ∧ tsz a ≤ tsz b
theorem le2.rf {a : List (Nat × Nat)} : le2 a a := ⟨Nat.le_refl _, Nat.le_refl _⟩
theorem le2.tr {a b c : List (Nat × Nat)} (h1 : le2 a b) (h2 : le2 b c) : le2 a c := ⟨Nat.le_trans h1.1 h2.1, Nat.le_trans h1.2 h2.2⟩
theorem le2_nw (h : AH) (s : Nat × Nat) : le2 h.1 (nw h s).1 := by
  refine ⟨by simp [nw], ?_⟩
  show tsz h.1 ≤ tsz (h.1 ++ [s])
  rw [tsz_app]; omega
theorem rtI_s {z : Nat} {x : Int32} {h : AH} {r : AR} (e : rtI z x h = some r) : r = (some (aI x), h) ∧ (z = 0 ∨ x = 0 ∨ x = 1) := by
  cases z with
  | zero => cases e; exact ⟨rfl, Or.inl rfl⟩
  | succ z => obtain ⟨h1, h2⟩ := if_s e; cases h2; exact ⟨rfl, Or.inr h1⟩
set_option maxHeartbeats 4000000 in
theorem ev1_ext {C : AC} {K : AK} {lm : Nat → List Bool} {it : CI} {lv st : List AV} {h : AH} {k : AT} {r : AR} (hC : ∀ c as h r', C c as h = some r' → le2 h.1 r'.2.1) (hK : ∀ t lv st h, K t lv st h = some r → le2 h.1 r.2.1) (hk : ∀ lv st h, k lv st h = some r → le2 h.1 r.2.1) (hr : ev1 C K lm it lv st h k = some r) : le2 h.1 r.2.1 := by
  obtain ⟨i, rs, z⟩ := it
  cases i
  all_goals first
    | exact hk _ _ _ hr
    | cases hr
    | (obtain ⟨x, st, rfl, h1⟩ := p1I_s hr; exact hk _ _ _ h1)
    | (obtain ⟨x, st, rfl, h1⟩ := p1L_s hr; exact hk _ _ _ h1)
    | (obtain ⟨x, st, rfl, h1⟩ := p1R_s hr; exact hk _ _ _ h1)
    | (obtain ⟨x, y, st, rfl, h1⟩ := p2I_s hr; exact hk _ _ _ h1)
    | (obtain ⟨x, y, st, rfl, h1⟩ := p2L_s hr; exact hk _ _ _ h1)
    | (obtain ⟨x, y, st, rfl, h1⟩ := pLI_s hr; exact hk _ _ _ h1)
    | (obtain ⟨x, y, st, rfl, h1⟩ := pRI_s hr; exact hk _ _ _ h1)
    | (obtain ⟨x, e, h1⟩ := ldI_s hr; exact hk _ _ _ h1)
    | (obtain ⟨x, e, h1⟩ := ldL_s hr; exact hk _ _ _ h1)
    | (obtain ⟨v, st, rfl, h1⟩ := p1V_s hr; obtain ⟨q, h2⟩ := if_s h1; exact hk _ _ _ h2)
    | (obtain ⟨x, y, st, rfl, h1⟩ := p2I_s hr; obtain ⟨q, h2⟩ := if_n h1; exact hk _ _ _ h2)
    | (obtain ⟨o, i, st, rfl, h1⟩ := pRI_s hr; obtain ⟨a, n, rfl, e, hi, h2⟩ := idx_s h1; exact hk _ _ _ h2)
    | (obtain ⟨x, st, rfl, h1⟩ := p1I_s hr; obtain ⟨o, i, st, rfl, h2⟩ := pRI_s h1; obtain ⟨a, n, rfl, e, hi, h3⟩ := idx_s h2; have z9 := hk _ _ _ h3; exact z9)
    | (obtain ⟨x, st, rfl, h1⟩ := p1L_s hr; obtain ⟨o, i, st, rfl, h2⟩ := pRI_s h1; obtain ⟨a, n, rfl, e, hi, h3⟩ := idx_s h2; have z9 := hk _ _ _ h3; exact z9)
    | (obtain ⟨x, st, rfl, h1⟩ := p1I_s hr; obtain ⟨o, i, st, rfl, h2⟩ := pRI_s h1; obtain ⟨q, h3⟩ := if_s h2; obtain ⟨a, n, rfl, e, hi, h4⟩ := idx_s h3; have z9 := hk _ _ _ h4; exact z9)
    | (obtain ⟨v, st, rfl, h1⟩ := p1R_s hr; obtain ⟨o, i, st, rfl, h2⟩ := pRI_s h1; obtain ⟨b, rfl, e2, h3⟩ := obj_s h2; obtain ⟨a, n, rfl, e, hi, h4⟩ := idx_s h3; have z9 := hk _ _ _ h4; exact z9)
    | (obtain ⟨a, l, rfl, h1⟩ := rs1_s hr; exact hK _ _ _ _ h1)
    | (obtain ⟨x, st, rfl, h1⟩ := p1L_s hr; obtain ⟨rfl, h2⟩ := nil_s h1; cases h2; exact le2.rf)
    | (obtain ⟨x, st, rfl, h1⟩ := p1R_s hr; obtain ⟨rfl, h2⟩ := nil_s h1; cases h2; exact le2.rf)
    | (obtain ⟨rfl, h1⟩ := nil_s hr; cases h1; exact le2.rf)
    | (obtain ⟨a, l, rfl, h1⟩ := rs1_s hr; obtain ⟨x, st, rfl, h2⟩ := p1I_s h1; obtain ⟨rfl, h3⟩ := nil_s h2; obtain ⟨rfl, -⟩ := rtI_s h3; exact le2.rf)
    | (obtain ⟨a, b, l, rfl, h1⟩ := rs2_s hr; rcases if_c h1 with ⟨q, h2⟩ | ⟨q, h2⟩ <;> exact hk _ _ _ h2)
    | (obtain ⟨a, b, l, rfl, h1⟩ := rs2_s hr; obtain ⟨x, st, rfl, h2⟩ := p1I_s h1; rcases ifz_s h2 with ⟨h3, q⟩ | ⟨h3, q⟩ <;> exact hK _ _ _ _ h3)
    | (obtain ⟨a, b, l, rfl, h1⟩ := rs2_s hr; obtain ⟨x, y, st, rfl, h2⟩ := p2I_s h1; rcases ifc_s h2 with ⟨h3, q⟩ | ⟨h3, q⟩ <;> exact hK _ _ _ _ h3)
    | (obtain ⟨a, b, l, rfl, h1⟩ := rs2_s hr; obtain ⟨o, st, rfl, h2⟩ := p1R_s h1; rcases if_c h2 with ⟨q, h3⟩ | ⟨q, h3⟩ <;> exact hK _ _ _ _ h3)
    | skip
  case aload =>
    simp only [ev1] at hr
    obtain ⟨x, hx, e, g1⟩ := ldA_s hr
    exact hk _ _ _ g1
  case aload_n =>
    simp only [ev1] at hr
    obtain ⟨x, hx, e, g1⟩ := ldA_s hr
    exact hk _ _ _ g1
  case invokestatic =>
    obtain ⟨c, n, rk, l, rfl, g1⟩ := rs3_s hr
    obtain ⟨as, st', e, g2⟩ := pop_s g1
    obtain ⟨v, h', e2, hk2, g3⟩ := cal_s g2
    exact (hC _ _ _ _ e2).tr (hk _ _ _ g3)
  case invokevirtual =>
    obtain ⟨c, n, ci, rk, l, rfl, g1⟩ := rs4_s hr
    obtain ⟨as, st', e, g2⟩ := pop_s g1
    obtain ⟨e3, g3⟩ := rcv_s g2
    obtain ⟨v, h', e2, hk2, g4⟩ := cal_s g3
    exact (hC _ _ _ _ e2).tr (hk _ _ _ g4)
  case invokespecial =>
    obtain ⟨c, n, ci, rk, l, rfl, g1⟩ := rs4_s hr
    obtain ⟨as, st', e, g2⟩ := pop_s g1
    obtain ⟨e3, g3⟩ := rcv_s g2
    rcases if_c g3 with ⟨q, g4⟩ | ⟨q, g4⟩
    · exact hk _ _ _ g4
    · obtain ⟨v, h', e2, hk2, g5⟩ := cal_s g4
      exact (hC _ _ _ _ e2).tr (hk _ _ _ g5)
  case getfield =>
    obtain ⟨ci, j, kd, l, rfl, g1⟩ := rs3_s hr
    obtain ⟨o, st, rfl, g2⟩ := p1R_s g1
    obtain ⟨a, rfl, e, g3⟩ := obj_s g2
    obtain ⟨v, e2, g4⟩ := mb_s g3
    exact hk _ _ _ g4
  case putfield =>
    obtain ⟨ci, j, kd, l, rfl, g1⟩ := rs3_s hr
    obtain ⟨v, st, rfl, g2⟩ := p1V_s g1
    obtain ⟨o, st, rfl, g3⟩ := p1R_s g2
    obtain ⟨a, rfl, e, g4⟩ := obj_s g3
    obtain ⟨h', e2, g5⟩ := mb_s g4
    have := hk _ _ _ g5
    rw [(ptf_s e2).1] at this
    exact this
  case arraylength =>
    obtain ⟨o, st, rfl, g1⟩ := p1R_s hr
    obtain ⟨a, rfl, g2⟩ := mb_s g1
    obtain ⟨n, e2, g3⟩ := mb_s g2
    exact hk _ _ _ g3
  case tableswitch d lo hi offs =>
    obtain ⟨d, ts, rfl, g1⟩ := rsL_s hr
    obtain ⟨x, st, rfl, g2⟩ := p1I_s g1
    rcases if_c g2 with ⟨q, g3⟩ | ⟨q, g3⟩
    · exact hK _ _ _ _ g3
    · obtain ⟨t, e2, g4⟩ := mb_s g3
      exact hK _ _ _ _ g4
  case new =>
    obtain ⟨ci, l, rfl, g1⟩ := rs1_s hr
    exact (le2_nw h _).tr (hk _ _ _ g1)
  case newarray =>
    obtain ⟨kd, l, rfl, g1⟩ := rs1_s hr
    obtain ⟨x, st, rfl, g2⟩ := p1I_s g1
    obtain ⟨q, g3⟩ := if_n g2
    exact (le2_nw h _).tr (hk _ _ _ g3)
  case anewarray =>
    obtain ⟨x, st, rfl, g2⟩ := p1I_s hr
    obtain ⟨q, g3⟩ := if_n g2
    exact (le2_nw h _).tr (hk _ _ _ g3)
theorem evL_ext {C : AC} {K : AK} {lm : Nat → List Bool} {nt : Nat} {r : AR} (hC : ∀ c as h r', C c as h = some r' → le2 h.1 r'.2.1) (hK : ∀ t lv st h, K t lv st h = some r → le2 h.1 r.2.1) :
    ∀ (is : List CI) (lv st : List AV) (h : AH), evL C K lm nt is lv st h = some r → le2 h.1 r.2.1
  | [], lv, st, h, e => hK _ _ _ _ e
  | i :: is, lv, st, h, e => ev1_ext hC hK (fun lv st h e => evL_ext hC hK is lv st h e) e
theorem rn_ext {B : BT} {lm : Nat → List Bool} {C : AC} {r : AR} (hC : ∀ c as h r', C c as h = some r' → le2 h.1 r'.2.1) : ∀ (n t : Nat) (lv st : List AV) (h : AH), rn B lm C n t lv st h = some r → le2 h.1 r.2.1
  | 0, t, lv, st, h, e => by cases e
  | n + 1, t, lv, st, h, e => evL_ext hC (fun t lv st h e => rn_ext hC n t lv st h e) _ _ _ _ e
theorem Cc_ext : ∀ (d c : Nat) (as : List AV) (h : AH) (r : AR), Cc d c as h = some r → le2 h.1 r.2.1
  | 0, c, as, h, r, e => by cases e
  | d + 1, c, as, h, r, e => by
    have e : (if c < 6 then (if (c = 2 ∨ c = 3) ∧ d < 4 then none else prm c as h) else match KT[c]? with
      | some K => match Nat.ble (spr as).length K.2.2.1 with
        | true => Rk K.2.2.2.2.1 K.2.2.2.2.2.1 (Cc d) 0 (ent K.2.2.1 as) [] h
        | false => none
      | none => none) = some r := e
    split at e
    · obtain ⟨-, e⟩ := if_n e
      unfold prm at e
      split at e
      · split at e
        · split at e
          · cases e; exact le2.rf
          · cases e
        · cases e
      · split at e
        · cases e; exact le2.rf
        · cases e
      · split at e
        · split at e
          · cases e; exact le2.rf
          · cases e
        · cases e
      · cases e; exact le2.rf
      · cases e; exact le2.rf
      · cases e; exact le2.rf
      · cases e
    · split at e
      · split at e
        · obtain ⟨n, e⟩ := Rk_some.mp e
          exact rn_ext (fun c as h r' e => Cc_ext d c as h r' e) n _ _ _ _ e
        · cases e
      · cases e
