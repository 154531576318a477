/-! X: Mender: come, spread -/
def CS (h : AH) (b A : Nat) (O : Cfg → Nat → Prop) : Prop := (∀ c n, O c n → CV c) ∧ (∃ T, SP h b 24576 T ∧ ∀ t, T t = true ↔ ∃ c n, O c n ∧ t = eX c) ∧ ∀ c n, O c n → O c (csH h A (eX c)) ∧ csH h A (eX c) ≤ n
theorem CS_c {h : AH} {b A : Nat} {O O' : Cfg → Nat → Prop} (p : CS h b A O) (e : ∀ c n, O c n ↔ O' c n) : CS h b A O' := by
  have : O = O' := funext fun c => funext fun n => propext (e c n)
  rw [← this]; exact p
theorem CS.fr {F : Nat → Prop} {h h' : AH} {b A : Nat} {O : Cfg → Nat → Prop} (p : CS h b A O) (f : fr F h h') (n1 : ∀ x, spF b x → ¬ F x) (n2 : ¬ F A) : CS h' b A O := by
  obtain ⟨p1, ⟨T, p2, p3⟩, p4⟩ := p
  refine ⟨p1, ⟨T, p2.fr f n1, p3⟩, fun c n hc => ?_⟩
  have : csH h' A (eX c) = csH h A (eX c) := by unfold csH; rw [f.L n2]
  rw [this]
  exact p4 c n hc
def MnQ (s : Stt) (h : AH) (r : Rdr) (a b A A' : Nat) : Prop := XI s h ∧ hR h 74 2 = some a ∧ hR h 74 3 = some b ∧ hR h 74 4 = some A ∧ hR h 74 5 = some A' ∧ ((a = 22 ∧ b = 25) ∨ (a = 25 ∧ b = 22)) ∧ ((A = 64 ∧ A' = 65) ∨ (A = 65 ∧ A' = 64)) ∧ SVY h r s.2.2.2 0
def cmF (b A x : Nat) : Prop := spF b x ∨ x = A
theorem z6x {h : AH} (p : h.1 = SHP) {A : Nat} (hA : A = 64 ∨ A = 65) : h.1[A]? = some (1, 2058) := by
  rcases hA with rfl | rfl
  · exact z64 p
  · exact z65 p
theorem MnQ_sp {s : Stt} {h h' : AH} {r : Rdr} {a b A A' : Nat} {T : Nat → Bool} (q : MnQ s h r a b A A') (f : fr (spF b) h h') (sp : SP h' b 24576 T) : MnQ s h' r a b A A' := by
  obtain ⟨px, r2, r3, r4, r5, hab, hAA, sv⟩ := q
  have n : ∀ x, 64 ≤ x → ¬ spF b x := fun x hx => by unfold spF; omega
  obtain ⟨k0, hk0, hb⟩ : ∃ k0, k0 < 14 ∧ b = 22 + 3 * k0 := by
    rcases hab with ⟨-, w⟩ | ⟨-, w⟩
    · exact ⟨1, by omega, by omega⟩
    · exact ⟨0, by omega, by omega⟩
  refine ⟨by subst hb; exact XI_sp px hk0 f sp, by rw [f.R (n _ (by omega))]; exact r2, by rw [f.R (n _ (by omega))]; exact r3, by rw [f.R (n _ (by omega))]; exact r4, by rw [f.R (n _ (by omega))]; exact r5, hab, hAA, fun i h1 h2 => ?_⟩
  rw [f.I (n _ (by omega)), f.I (n _ (by omega))]
  exact sv i h1 h2
theorem MnQ_lg {s : Stt} {h h' : AH} {r : Rdr} {a b A A' B : Nat} (q : MnQ s h r a b A A') (hB : B = 64 ∨ B = 65) (f : fr (fun x => x = B) h h') (hr : ∀ a j, hR h' a j = hR h a j) : MnQ s h' r a b A A' := by
  obtain ⟨px, r2, r3, r4, r5, hab, hAA, sv⟩ := q
  refine ⟨XI_sc px f (fun x hx => by unfold nI'; omega) hr, by rw [hr]; exact r2, by rw [hr]; exact r3, by rw [hr]; exact r4, by rw [hr]; exact r5, hab, hAA, fun i h1 h2 => ?_⟩
  rw [f.I (by omega), f.I (by omega)]
  exact sv i h1 h2
theorem Mn_come (d : Nat) {s : Stt} {h : AH} {r : Rdr} {a b A A' : Nat} {O : Cfg → Nat → Prop} (q : MnQ s h r a b A A') (cs : CS h b A' O) {o : Option Cfg} (ho : ∀ e, o = some e → CV e) {k cost : Nat} (hk : k ≤ s.2.2.2.length) (hc : cost < 16) : ∃ h', Cc (d + 2) k_Mn_come [aR (some 74), aI (zI (oX o)), aI (zI k), aI (zI cost)] h = some (none, h') ∧ fr (cmF b A') h h' ∧ MnQ s h' r a b A A' ∧ CS h' b A' (fun c n => O c n ∨ ∃ e, o = some e ∧ c = stl (aL13 r s.2.2.2 k) 13 e ∧ n = cost) := by
  cases o with
  | none =>
    refine ⟨h, ?_, fr.rf _ h, q, CS_c cs (fun c n => ⟨Or.inl, fun w => w.elim id (fun ⟨e, h1, _⟩ => by cases h1)⟩)⟩
    rw [C_Mn_come, E_Mn_come_0, if_pos (by decide), E_Mn_come_1]
  | some e =>
    have ev := ho e rfl
    obtain ⟨px, r2, r3, r4, r5, hab, hAA, sv⟩ := id q
    have hl12 := px.rw.1.1
    have el := eX_lt ev
    obtain ⟨c1, ⟨T, sp, c2⟩, c3⟩ := cs
    have sL := MSK_AL (sv k (Nat.zero_le _) hk).1
    have tv : CV (stl (aL13 r s.2.2.2 k) 13 e) := stl_v ev (by omega)
    have tl := eX_lt tv
    obtain ⟨S, hS⟩ : ∃ S, S = stl (aL13 r s.2.2.2 k) 13 e := ⟨_, rfl⟩
    have est := Rd_settle (d := d) h ev sL (o := 13) (by omega)
    rw [show stl (fun n => bl (alvd r s.2.2.2 k n)) 13 e = S from hS.symm] at est
    rw [← hS] at tv tl
    obtain ⟨h1, e1, f1, sp1⟩ := Sp_add (d := d) sp (s := eX S) tl
    have q1 := MnQ_sp q f1 sp1
    have nA : ¬ spF b A' := by unfold spF; omega
    have csame : ∀ c, csH h1 A' (eX c) = csH h A' (eX c) := fun c => by unfold csH; rw [f1.L nA]
    have hz1 := z6x q1.1.1 (A := A') (by omega)
    have e0 : Cc (d + 2) k_Mn_come [aR (some 74), aI (zI (oX (some e))), aI (zI k), aI (zI cost)] h = if T (eX S) = true then Rk B_Mn_come L_Mn_come (Cc (d + 1)) 3 [aR (some 74), aU, aU, aI (zI cost), aI (zI (eX S))] [] h1 else Rk B_Mn_come L_Mn_come (Cc (d + 1)) 4 [aR (some 74), aU, aU, aI (zI cost), aI (zI (eX S))] [] h1 := by
      rw [C_Mn_come, E_Mn_come_0, oX_some]
      simp (disch := omega) only [nlt0, if_false]
      rw [E_Mn_come_2, obj_e (z74 px.1), px.r (a := 74) (j := 0) (c := 75) (by decide)]
      simp (disch := omega) only [idx_n (z75 px.1)]
      rw [show zI 13 = zI ((13 : Nat) : Int) from rfl, calI_e est, lt_e, obj_e (z74 px.1), r3, obj_e sp.1.1, calI_e e1]
      cases T (eX S) with
      | true => rw [if_pos rfl, if_pos rfl, if_pos zI_0.symm]
      | false => rw [if_neg (show ¬ (false = true) by simp), if_neg (show ¬ (false = true) by simp), if_neg (by decide)]
    have spx : ∀ (t : Nat), (T t || t == eX S) = true ↔ ∃ c n, (O c n ∨ ∃ e', some e = some e' ∧ c = stl (aL13 r s.2.2.2 k) 13 e' ∧ n = cost) ∧ t = eX c := by
      intro t
      rw [Bool.or_eq_true, beq_iff_eq, c2 t]
      constructor
      · rintro (⟨c, n, h1, h2⟩ | h1)
        · exact ⟨c, n, Or.inl h1, h2⟩
        · exact ⟨S, cost, Or.inr ⟨e, rfl, hS, rfl⟩, h1⟩
      · rintro ⟨c, n, h1 | ⟨e', h1, h2, h3⟩, h4⟩
        · exact Or.inl ⟨c, n, h1, h4⟩
        · cases h1
          rw [← hS] at h2
          exact Or.inr (by rw [h4, h2])
    have cvx : ∀ c n, (O c n ∨ ∃ e', some e = some e' ∧ c = stl (aL13 r s.2.2.2 k) 13 e' ∧ n = cost) → CV c := by
      rintro c n (h1 | ⟨e', h1, h2, h3⟩)
      · exact c1 c n h1
      · cases h1; rw [h2, ← hS]; exact tv
    -- the cost is set
    have setc : (∀ n, O S n → cost ≤ n) → ∃ h', Rk B_Mn_come L_Mn_come (Cc (d + 1)) 4 [aR (some 74), aU, aU, aI (zI cost), aI (zI (eX S))] [] h1 = some (none, h') ∧ fr (cmF b A') h h' ∧ MnQ s h' r a b A A' ∧ CS h' b A' (fun c n => O c n ∨ ∃ e', some e = some e' ∧ c = stl (aL13 r s.2.2.2 k) 13 e' ∧ n = cost) := by
      intro hmin
      obtain ⟨h2, e2, f2, g2, g3, g4, g5⟩ := Mn_setCost (d := d) hz1 tl hc
      refine ⟨h2, ?_, (f1.mo (fun x hx => Or.inl hx)).tr (f2.mo (fun x hx => Or.inr hx)), MnQ_lg q1 (by omega) f2 g2, cvx, ⟨_, sp1.fr f2 (fun x hx => by unfold spF at hx; omega), spx⟩, ?_⟩
      · rw [E_Mn_come_4, obj_e (z74 q1.1.1), q1.2.2.2.2.1, calV_e e2, E_Mn_come_5]
      · intro c n hc'
        have cv := cvx c n hc'
        by_cases z : c = S
        · rw [z, g4]
          refine ⟨Or.inr ⟨e, rfl, hS, rfl⟩, ?_⟩
          rcases hc' with w | ⟨e', -, -, w⟩
          · rw [z] at w; exact hmin n w
          · omega
        · have hne : eX c ≠ eX S := fun w => z (by rw [← dX_e cv, w, dX_e tv])
          rw [g5 _ hne, csame]
          rcases hc' with w | ⟨e', w1, w2, w3⟩
          · exact ⟨Or.inl (c3 c n w).1, (c3 c n w).2⟩
          · cases w1; exact absurd (w2.trans hS.symm) z
    cases t : T (eX S) with
    | false =>
      rw [t, if_neg (by simp)] at e0
      obtain ⟨h', w1, w2⟩ := setc (fun n hn => by
        have := (c2 (eX S)).mpr ⟨S, n, hn, rfl⟩
        rw [t] at this
        cases this)
      exact ⟨h', by rw [e0, w1], w2⟩
    | true =>
      rw [t, if_pos rfl] at e0
      obtain ⟨c', n', o1, o2⟩ := (c2 (eX S)).mp t
      have hcS : c' = S := by rw [← dX_e (c1 c' n' o1), ← o2, dX_e tv]
      rw [hcS] at o1
      have hlt := csH_lt h A' (eX S)
      have e3 : Rk B_Mn_come L_Mn_come (Cc (d + 1)) 3 [aR (some 74), aU, aU, aI (zI cost), aI (zI (eX S))] [] h1 = if cost < csH h A' (eX S) then Rk B_Mn_come L_Mn_come (Cc (d + 1)) 4 [aR (some 74), aU, aU, aI (zI cost), aI (zI (eX S))] [] h1 else some (none, h1) := by
        rw [E_Mn_come_3, obj_e (z74 q1.1.1), q1.2.2.2.2.1, calI_e (Mn_costOf (d := d) hz1 tl), csame, E_Mn_come_5]
        simp (disch := omega) only [nlt]
      by_cases z : cost < csH h A' (eX S)
      · rw [if_pos z] at e3
        obtain ⟨h', w1, w2⟩ := setc (fun n hn => by have := (c3 S n hn).2; omega)
        exact ⟨h', by rw [e0, e3, w1], w2⟩
      · rw [if_neg z] at e3
        refine ⟨h1, by rw [e0, e3], f1.mo (fun x hx => Or.inl hx), q1, cvx, ⟨_, sp1, spx⟩, ?_⟩
        intro c n hc'
        rw [csame]
        rcases hc' with w | ⟨e', w1, w2, w3⟩
        · exact ⟨Or.inl (c3 c n w).1, (c3 c n w).2⟩
        · cases w1
          rw [w2, ← hS]
          exact ⟨Or.inl (c3 S n' o1).1, by omega⟩
theorem sc_lp (d : Nat) {s : Stt} {ra : Nat} {r : Rdr} {a b A A' : Nat} {u : Cfg} {m : Mv} {i k cost : Nat} (hr : ∀ h, XI s h → RD h ra r) (hu : CV u) (hm : r.2.2.2[i]? = some m) (hk : k ≤ s.2.2.2.length) (hc : cost < 16) : ∀ (n x : Nat) (h : AH) (O : Cfg → Nat → Prop), x + n = 13 → 1 ≤ x → MnQ s h r a b A A' → CS h b A' O →
    ∃ h', Rk B_Mn_spreadChanged L_Mn_spreadChanged (Cc (d + 2)) 7 [aR (some 74), aR (some ra), aI (zI (eX u)), aI (zI i), aI (zI k), aI (zI cost), aU, aI (zI x)] [] h = some (none, h') ∧ fr (cmF b A') h h' ∧ MnQ s h' r a b A A' ∧ CS h' b A' (fun c n => O c n ∨ ∃ y e, x ≤ y ∧ y ≤ 12 ∧ wtd r s.2.2.2 k y ∧ stp m u y = some e ∧ c = stl (aL13 r s.2.2.2 k) 13 e ∧ n = cost)
  | 0, x, h, O, hn, hx, q, cs => by
    refine ⟨h, ?_, fr.rf _ h, q, CS_c cs (fun c n => ⟨Or.inl, fun w => w.elim id (fun ⟨y, e, h1, h2, _⟩ => by omega)⟩)⟩
    rw [E_Mn_spreadChanged_7, show zI 13 = zI ((13 : Nat) : Int) from rfl]
    simp (disch := omega) only [nlt]
    rw [if_neg (by omega), E_Mn_spreadChanged_11]
  | n + 1, x, h, O, hn, hx, q, cs => by
    obtain ⟨px, r2, r3, r4, r5, hab, hAA, sv⟩ := id q
    have rd := hr h px
    have hmv := (rd.1.mi hm).1
    have hl12 := px.rw.1.1
    obtain ⟨W, W1, W2, W3⟩ := (sv k (Nat.zero_le _) hk).2
    have hWd : W / 2 ^ x ≤ W := Nat.div_le_self _ _
    have e0 : Rk B_Mn_spreadChanged L_Mn_spreadChanged (Cc (d + 2)) 7 [aR (some 74), aR (some ra), aI (zI (eX u)), aI (zI i), aI (zI k), aI (zI cost), aU, aI (zI x)] [] h = if W / 2 ^ x % 2 = 0 then Rk B_Mn_spreadChanged L_Mn_spreadChanged (Cc (d + 2)) 10 [aR (some 74), aR (some ra), aI (zI (eX u)), aI (zI i), aI (zI k), aI (zI cost), aU, aI (zI x)] [] h else Rk B_Mn_spreadChanged L_Mn_spreadChanged (Cc (d + 2)) 9 [aR (some 74), aR (some ra), aI (zI (eX u)), aI (zI i), aI (zI k), aI (zI cost), aU, aI (zI x)] [] h := by
      rw [E_Mn_spreadChanged_7, show zI 13 = zI ((13 : Nat) : Int) from rfl]
      simp (disch := omega) only [nlt]
      rw [if_pos (by omega), E_Mn_spreadChanged_8, obj_e (z74 px.1), px.r (a := 74) (j := 1) (c := 76) (by decide)]
      simp (disch := omega) only [idx_n (z76 px.1), W2]
      rw [nshr (by omega) (by omega), and1 (by omega)]
      simp (disch := omega) only [neq0]
    have bit : W / 2 ^ x % 2 = 1 ↔ wtd r s.2.2.2 k x := by rw [tbN, W3 x (by omega)]
    have cont : ∀ (h1 : AH) (O1 : Cfg → Nat → Prop), Rk B_Mn_spreadChanged L_Mn_spreadChanged (Cc (d + 2)) 7 [aR (some 74), aR (some ra), aI (zI (eX u)), aI (zI i), aI (zI k), aI (zI cost), aU, aI (zI x)] [] h = Rk B_Mn_spreadChanged L_Mn_spreadChanged (Cc (d + 2)) 10 [aR (some 74), aR (some ra), aI (zI (eX u)), aI (zI i), aI (zI k), aI (zI cost), aU, aI (zI x)] [] h1 → fr (cmF b A') h h1 → MnQ s h1 r a b A A' → CS h1 b A' O1 → (∀ c n, O1 c n ↔ O c n ∨ ∃ e, wtd r s.2.2.2 k x ∧ stp m u x = some e ∧ c = stl (aL13 r s.2.2.2 k) 13 e ∧ n = cost) →
        ∃ h', Rk B_Mn_spreadChanged L_Mn_spreadChanged (Cc (d + 2)) 7 [aR (some 74), aR (some ra), aI (zI (eX u)), aI (zI i), aI (zI k), aI (zI cost), aU, aI (zI x)] [] h = some (none, h') ∧ fr (cmF b A') h h' ∧ MnQ s h' r a b A A' ∧ CS h' b A' (fun c n => O c n ∨ ∃ y e, x ≤ y ∧ y ≤ 12 ∧ wtd r s.2.2.2 k y ∧ stp m u y = some e ∧ c = stl (aL13 r s.2.2.2 k) 13 e ∧ n = cost) := by
      intro h1 O1 e1 f1 q1 cs1 hO
      obtain ⟨h', e, f, q', cs'⟩ := sc_lp d (a := a) (b := b) (A := A) (A' := A') hr hu hm hk hc n (x + 1) h1 O1 (by omega) (by omega) q1 cs1
      refine ⟨h', ?_, f1.tr f, q', CS_c cs' (fun c n => ?_)⟩
      · rw [e1, E_Mn_spreadChanged_10, nadd1, lt_e]; exact e
      · rw [hO c n]
        constructor
        · rintro ((w | ⟨e, w⟩) | ⟨y, e, w1, w2⟩)
          · exact Or.inl w
          · exact Or.inr ⟨x, e, Nat.le_refl _, by omega, w⟩
          · exact Or.inr ⟨y, e, by omega, w2⟩
        · rintro (w | ⟨y, e', w1, w2, w3⟩)
          · exact Or.inl (Or.inl w)
          · by_cases z : y = x
            · rw [z] at w3; exact Or.inl (Or.inr ⟨e', w3⟩)
            · exact Or.inr ⟨y, e', by omega, w2, w3⟩
    by_cases z : W / 2 ^ x % 2 = 0
    · rw [if_pos z] at e0
      exact cont h O e0 (fr.rf _ h) q cs (fun c n => ⟨Or.inl, fun w => w.elim id (fun ⟨e, w1, _⟩ => by have := bit.mpr w1; omega)⟩)
    · rw [if_neg z] at e0
      obtain ⟨h1, e1, f1, q1, cs1⟩ := Mn_come d q cs (o := stp m u x) (fun e he => stp_v hmv hu (by omega) he) hk hc
      refine cont h1 _ ?_ f1 q1 cs1 (fun c n => ?_)
      · rw [e0, E_Mn_spreadChanged_9, obj_e rd.2.1.1, calI_e (Rd_after _ rd hu hm (by omega)), obj_e (z74 px.1), calV_e e1]
      · have hw := bit.mp (by omega)
        constructor
        · rintro (w | ⟨e, w⟩)
          · exact Or.inl w
          · exact Or.inr ⟨e, hw, w⟩
        · rintro (w | ⟨e, -, w⟩)
          · exact Or.inl w
          · exact Or.inr ⟨e, w⟩
theorem Mn_spreadChanged (d : Nat) {s : Stt} {ra : Nat} {r : Rdr} {a b A A' : Nat} {u : Cfg} {m : Mv} {i k cost : Nat} {h : AH} {O : Cfg → Nat → Prop} (hr : ∀ h, XI s h → RD h ra r) (hu : CV u) (hm : r.2.2.2[i]? = some m) (hk : k ≤ s.2.2.2.length) (hc : cost < 16) (q : MnQ s h r a b A A') (cs : CS h b A' O) :
    ∃ h', Cc (d + 3) k_Mn_spreadChanged [aR (some 74), aR (some ra), aI (zI (eX u)), aI (zI i), aI (zI k), aI (zI cost)] h = some (none, h') ∧ fr (cmF b A') h h' ∧ MnQ s h' r a b A A' ∧ CS h' b A' (fun c n => O c n ∨ ∃ y e, xnm r s.2.2.2 k u m y ∧ stp m u y = some e ∧ c = stl (aL13 r s.2.2.2 k) 13 e ∧ n = cost) := by
  have px := q.1
  have rd := hr h px
  have hmv := (rd.1.mi hm).1
  have hmv' := hmv
  unfold MV at hmv'
  have p2 := Rd_part (d + 1) rd hm (k := 2) (by omega)
  rw [C_Mn_spreadChanged, E_Mn_spreadChanged_0, obj_e rd.2.1.1, show zI 2 = zI ((2 : Nat) : Int) from rfl, calI_e p2, lt_e, show prt m 2 = ((m.2.2.1 : Nat) : Int) from rfl, zc3]
  simp (disch := omega) only [nlt]
  by_cases t3 : m.2.2.1 < 3
  · have hrg : rg u m.2.2.1 < 16 := by have := hu; unfold CV at this; unfold rg; split; omega; split <;> omega
    rw [if_pos t3, E_Mn_spreadChanged_1, calI_e (Rd_heldIn _ h hu t3), lt_e]
    simp (disch := omega) only [nle0]
    by_cases z : rg u m.2.2.1 = 0
    · refine ⟨h, by rw [if_pos z, E_Mn_spreadChanged_3], fr.rf _ h, q, CS_c cs (fun c n => ⟨Or.inl, fun w => w.elim id (fun ⟨y, e, w1, _⟩ => ?_)⟩)⟩
      rcases w1 with ⟨-, w2, w3⟩ | ⟨w2, -⟩ <;> omega
    · obtain ⟨h1, e1, f1, q1, cs1⟩ := Mn_come (d) q cs (o := stp m u (rg u m.2.2.1)) (fun e he => stp_v hmv hu (by omega) he) hk hc
      refine ⟨h1, ?_, f1, q1, CS_c cs1 (fun c n => ?_)⟩
      · rw [if_neg z, E_Mn_spreadChanged_2, obj_e rd.2.1.1, calI_e (Rd_after _ rd hu hm (by omega)), obj_e (z74 px.1), calV_e e1, E_Mn_spreadChanged_3]
      · constructor
        · rintro (w | ⟨e, w⟩)
          · exact Or.inl w
          · exact Or.inr ⟨_, e, Or.inl ⟨t3, rfl, z⟩, w⟩
        · rintro (w | ⟨y, e, w1, w2⟩)
          · exact Or.inl w
          · rcases w1 with ⟨-, w3, w4⟩ | ⟨w3, -⟩
            · rw [w3] at w2; exact Or.inr ⟨e, w2⟩
            · omega
  · obtain ⟨h1, e1, f1, q1, cs1⟩ := Mn_come (d) q cs (o := stp m u 14) (fun e he => stp_v hmv hu (by omega) he) hk hc
    have px1 := q1.1
    have rd1 := hr h1 px1
    have p3 := Rd_part (d + 1) rd1 hm (k := 3) (by omega)
    have e4 : Rk B_Mn_spreadChanged L_Mn_spreadChanged (Cc (d + 2)) 4 [aR (some 74), aR (some ra), aI (zI (eX u)), aI (zI i), aI (zI k), aI (zI cost), aU, aU] [] h = if m.2.2.2.1 < 0 then some (none, h1) else Rk B_Mn_spreadChanged L_Mn_spreadChanged (Cc (d + 2)) 7 [aR (some 74), aR (some ra), aI (zI (eX u)), aI (zI i), aI (zI k), aI (zI cost), aU, aI (zI ((1 : Nat) : Int))] [] h1 := by
      rw [E_Mn_spreadChanged_4, obj_e rd.2.1.1, show zI 14 = zI ((14 : Nat) : Int) from rfl, calI_e (Rd_after _ rd hu hm (by omega)), obj_e (z74 px.1), calV_e e1, obj_e rd1.2.1.1, zc3, calI_e p3, show prt m 3 = m.2.2.2.1 from rfl, E_Mn_spreadChanged_5, E_Mn_spreadChanged_6, lt_e]
      simp (disch := omega) only [ylt0]
      rfl
    rw [if_neg t3, e4]
    by_cases z : m.2.2.2.1 < 0
    · refine ⟨h1, by rw [if_pos z], f1, q1, CS_c cs1 (fun c n => ?_)⟩
      constructor
      · rintro (w | ⟨e, w⟩)
        · exact Or.inl w
        · exact Or.inr ⟨14, e, Or.inr ⟨by omega, Or.inl rfl⟩, w⟩
      · rintro (w | ⟨y, e, w1, w2⟩)
        · exact Or.inl w
        · rcases w1 with ⟨w3, -⟩ | ⟨w3, w4 | w4⟩
          · omega
          · rw [w4] at w2; exact Or.inr ⟨e, w2⟩
          · omega
    · obtain ⟨h2, e2, f2, q2, cs2⟩ := sc_lp d (a := a) (b := b) (A := A) (A' := A') hr hu hm hk hc 12 1 h1 _ (by omega) (by omega) q1 cs1
      refine ⟨h2, by rw [if_neg z]; exact e2, f1.tr f2, q2, CS_c cs2 (fun c n => ?_)⟩
      constructor
      · rintro ((w | ⟨e, w⟩) | ⟨y, e, w1, w2, w3, w4⟩)
        · exact Or.inl w
        · exact Or.inr ⟨14, e, Or.inr ⟨by omega, Or.inl rfl⟩, w⟩
        · exact Or.inr ⟨y, e, Or.inr ⟨by omega, Or.inr ⟨by omega, w1, w2, w3⟩⟩, w4⟩
      · rintro (w | ⟨y, e, w1, w2⟩)
        · exact Or.inl (Or.inl w)
        · rcases w1 with ⟨w3, -⟩ | ⟨w3, w4 | ⟨w4, w5, w6, w7⟩⟩
          · omega
          · rw [w4] at w2; exact Or.inl (Or.inr ⟨e, w2⟩)
          · exact Or.inr ⟨y, e, w5, w6, w7, w2⟩
