/-! a block, a method: the abstract machine's answer is the machine's -/
theorem ev1_T {C : AC} {K : AK} {lm : Nat → List Bool} {it : CI} {lv st : List AV} {h : AH} (k k' : AT) (hT : isT it.1 = true) : ev1 C K lm it lv st h k = ev1 C K lm it lv st h k' := by
  obtain ⟨i, rs, z⟩ := it
  cases i <;> first | rfl | cases hT
section SIMG
variable {p : Program} {l : Launch} {e : Env} {R : Room} {s : State} {m : MethodId} {args : Array Value} {below : List Frame} {meth : Method} {c : Code} {cc : ByteArray} {nL : Nat} {own : String} {ini : Bool} {rt : Option FieldType} {D : va_G} {ad av : Nat → Nat} {w0 : va_W} {n0 s0 : Nat} {lv st : List AV} {h : AH} {pc : Nat}

theorem simL (X : CX p s m args meth c cc nL own ini rt D (va_A w0 s.heap.size) ad av) {d nt : Nat} {C : AC} {K : AK} {lm : Nat → List Bool} {P : List Nat} {r : AR}
    (hC : ∀ c K as h r', C c as h = some r' → 2 ≤ c → c ≠ 4 → c ≠ 5 → KT[c]? = some K → CON l d K as h r') (hC1 : ∀ c as h r', C c as h = some r' → c = 1 ∨ c = 4 ∨ c = 5 ∨ c = 0 → prm c as h = some r') (hCx : ∀ c as h r', C c as h = some r' → le2 h.1 r'.2.1) (hKT : ∀ c K, KT[c]? = some K → 2 ≤ c → okE K = true)
    (hRf : d + 1 ≤ R.frames) (hRl : 64 * d + 64 ≤ R.locals) (hR1 : r.2.1.length - n0 ≤ R.cells) (hR2 : tsz r.2.1 - s0 ≤ R.slots)
    (hK : ∀ t q lv' st' h', K t lv' st' h' = some r → P[t]? = some q → SM p l e R s m args below meth c nL D ad (va_A w0 s.heap.size) w0 n0 s0 (MQ below (QQ D ad w0 s.heap.size r) args s (r.2.1.length - n0) (tsz r.2.1 - s0) (va_A w0 s.heap.size)) q lv' st' h') (hKx : ∀ t lv st h, K t lv st h = some r → le2 h.1 r.2.1) :
    ∀ (is : List CI) (pc : Nat) (lv st : List AV) (h : AH), okL own nL ini rt P cc nt pc is = true → evL C K lm nt is lv st h = some r → SM p l e R s m args below meth c nL D ad (va_A w0 s.heap.size) w0 n0 s0 (MQ below (QQ D ad w0 s.heap.size r) args s (r.2.1.length - n0) (tsz r.2.1 - s0) (va_A w0 s.heap.size)) pc lv st h
  | [], pc, lv, st, h, ho, he => by
    obtain ⟨q, h1, h2⟩ := okT_s ho
    have hq : q = pc := by omega
    subst hq
    intro H locs ls ws sv hP hD hw hS hx hl hs hn1 hn2
    exact hK _ _ _ _ _ he h1 H locs ls ws sv hP hD hw hS hx (hl.msk _) hs hn1 hn2
  | it :: is, pc, lv, st, h, ho, he => by
    have ho2 : (match decode cc pc with
      | .ok (i, len) => decide (i = it.1) && okI own nL ini rt P pc len it && (isT it.1 || okL own nL ini rt P cc nt (pc + len) is)
      | _ => false) = true := ho
    split at ho2
    · rename_i i len hd
      obtain ⟨h1, h3⟩ := and_s ho2
      obtain ⟨h1, h2⟩ := and_s h1
      have hi : i = it.1 := of_decide_eq_true h1
      subst hi
      have he2 : ev1 C K lm it lv st h (evL C K lm nt is) = some r := he
      by_cases hT : isT it.1 = true
      · rw [ev1_T _ (fun _ _ _ => none) hT] at he2
        exact sim1 X hd h2 hC hC1 hCx hKT hRf hRl hR1 hR2 (fun _ _ _ z => by cases z) (fun _ _ _ z => by cases z) hK he2
      · have h4 : okL own nL ini rt P cc nt (pc + len) is = true := by
          rcases Bool.or_eq_true_iff.mp h3 with z | z
          · exact absurd z hT
          · exact z
        exact sim1 X hd h2 hC hC1 hCx hKT hRf hRl hR1 hR2 (fun lv' st' h' z => simL X hC hC1 hCx hKT hRf hRl hR1 hR2 hK hKx is (pc + len) lv' st' h' h4 z) (fun lv' st' h' z => evL_ext hCx hKx is lv' st' h' z) hK he2
    · cases ho2
theorem simN (X : CX p s m args meth c cc nL own ini rt D (va_A w0 s.heap.size) ad av) {d : Nat} {C : AC} {B : BT} {lm : Nat → List Bool} {P : List Nat} {r : AR}
    (hC : ∀ c K as h r', C c as h = some r' → 2 ≤ c → c ≠ 4 → c ≠ 5 → KT[c]? = some K → CON l d K as h r') (hC1 : ∀ c as h r', C c as h = some r' → c = 1 ∨ c = 4 ∨ c = 5 ∨ c = 0 → prm c as h = some r') (hCx : ∀ c as h r', C c as h = some r' → le2 h.1 r'.2.1) (hKT : ∀ c K, KT[c]? = some K → 2 ≤ c → okE K = true)
    (hRf : d + 1 ≤ R.frames) (hRl : 64 * d + 64 ≤ R.locals) (hR1 : r.2.1.length - n0 ≤ R.cells) (hR2 : tsz r.2.1 - s0 ≤ R.slots)
    (hB : ∀ b q, P[b]? = some q → okL own nL ini rt P cc (B b).1 q (B b).2 = true) :
    ∀ (n t q : Nat) (lv st : List AV) (h : AH), rn B lm C n t lv st h = some r → P[t]? = some q → SM p l e R s m args below meth c nL D ad (va_A w0 s.heap.size) w0 n0 s0 (MQ below (QQ D ad w0 s.heap.size r) args s (r.2.1.length - n0) (tsz r.2.1 - s0) (va_A w0 s.heap.size)) q lv st h
  | 0, t, q, lv, st, h, he, hq => by cases he
  | n + 1, t, q, lv, st, h, he, hq => simL X hC hC1 hCx hKT hRf hRl hR1 hR2 (fun t q lv st h he hq => simN X hC hC1 hCx hKT hRf hRl hR1 hR2 hB n t q lv st h he hq) (fun t lv st h e => rn_ext hCx n t lv st h e) _ q lv st h (hB t q hq) he
end SIMG
theorem okM_s {K : KE} (h : okM K = true) : K.2.2.2.2.2.2.1[0]? = some 0 ∧ ∀ b q, K.2.2.2.2.2.2.1[b]? = some q → okL K.1.cls K.2.2.1 (decide (K.1.name = "<init>")) K.2.2.2.1 K.2.2.2.2.2.2.1 K.2.1 (K.2.2.2.2.1 b).1 q (K.2.2.2.2.1 b).2 = true := by
  obtain ⟨h1, h2⟩ := and_s h
  refine ⟨of_decide_eq_true h1, fun b q hq => ?_⟩
  have h3 := List.all_eq_true.mp h2 b (List.mem_range.mpr (List.getElem?_eq_some_iff.mp hq).1)
  rw [hq] at h3
  exact h3
theorem sound (l : Launch) (hKT : ∀ c K, KT[c]? = some K → 2 ≤ c → okE K = true) (hKM : ∀ c K, KT[c]? = some K → 6 ≤ c → okM K = true) (hPr : ∀ (d c : Nat) (K : KE) (as : List AV) (h : AH) (r : AR), prm c as h = some r → c = 2 ∨ c = 3 → 4 ≤ d → KT[c]? = some K → CON l (d + 1) K as h r) :
    ∀ (d c : Nat) (K : KE) (as : List AV) (h : AH) (r : AR), Cc d c as h = some r → 2 ≤ c → c ≠ 4 → c ≠ 5 → KT[c]? = some K → CON l d K as h r
  | 0, c, K, as, h, r, e, hc, _, _, hK => by cases e
  | d + 1, c, K, as, h, r, e, hc, hn4, hn5, hK => by
    have e : (if c < 6 then (if (c = 2 ∨ c = 3) ∧ d < 4 then none else prm c as h) else match KT[c]? with
      | some K => match Nat.ble (spr as).length K.2.2.1 with
        | true => Rk K.2.2.2.2.1 K.2.2.2.2.2.1 (Cc d) 0 (ent K.2.2.1 as) [] h
        | false => none
      | none => none) = some r := e
    by_cases hc4 : c < 6
    · rw [if_pos hc4] at e
      obtain ⟨hz, e⟩ := if_n e
      have h23 : c = 2 ∨ c = 3 := by omega
      exact hPr d c K as h r e h23 (Nat.not_lt.mp (fun z => hz ⟨h23, z⟩)) hK
    · rw [if_neg hc4, hK] at e
      have e : (match Nat.ble (spr as).length K.2.2.1 with
        | true => Rk K.2.2.2.2.1 K.2.2.2.2.2.1 (Cc d) 0 (ent K.2.2.1 as) [] h
        | false => none) = some r := e
      split at e
      case h_2 => cases e
      rename_i hble
      have hsp : (spr as).length ≤ K.2.2.1 := Nat.le_of_ble_eq_true hble
      obtain ⟨n, e⟩ := Rk_some.mp e
      obtain ⟨m0, m1⟩ := okM_s (hKM c K hK (by omega))
      obtain ⟨kd, nn, -, -, c1, c2, c3, c4, c5, c6, c7, c8, c9, c10, c11, c12⟩ := okE_s (hKT c K hK hc)
      have hex : le2 h.1 r.2.1 := rn_ext (fun c as h r' e => Cc_ext d c as h r' e) n _ _ _ _ e
      intro D ad av ws avs sz has
      refine Met.ofW (cc := K.2.1) (maxL := K.2.2.1) (ret := K.2.2.2.1) c10 rfl ?_
      intro p e' s m args below meth c' s₁ B hml hv
      obtain ⟨rfl, rfl, hP, hKK, hD0, hw, hE⟩ := hv
      have hX : CX p s m avs.toArray meth c' K.2.1 K.2.2.1 K.1.cls (decide (K.1.name = "<init>")) K.2.2.2.1 D (va_A ws s.heap.size) ad av := by
        refine ⟨B.exec, B.bytes, hml, findClass_of_methodNamed B.named, fun w hw => atoms_spec (ws := .code K.1 K.2.1 K.2.2.1 K.2.2.2.1 :: gtbl) B.pre w (List.mem_cons_of_mem _ hw), hKK, fun q hq => Or.inr hq, hE, B.returns, B.notSynchronized, fun hz => ?_⟩
        rw [(name_of_methodNamed B.named B.method).1]
        exact of_decide_eq_true hz
      have key := simN (e := e') (below := below) (R := { frames := d + 1, cells := r.2.1.length - h.1.length, slots := tsz r.2.1 - tsz h.1, locals := 64 * (d + 1) }) (n0 := h.1.length) (s0 := tsz h.1) (d := d) (P := K.2.2.2.2.2.2.1) hX (fun c K as h r' z hc h4 h5 hK => sound l hKT hKM hPr d c K as h r' z hc h4 h5 hK) (fun c as h r' z hz => ?_) (fun c as h r' z => Cc_ext d c as h r' z) hKT (Nat.le_refl _) (by show 64 * d + 64 ≤ 64 * (d + 1); omega) (Nat.le_refl _) (Nat.le_refl _) m1 n 0 0 (ent K.2.2.1 as) [] h e m0
      · rw [lg_entry_eq]
        have k2 := key s.heap [] _ ws [] hP hD0.self hw va_S.rf xt.rf (lrl_entry has hsp) trivial (Nat.le_refl _) (Nat.le_refl _)
        exact W.cs (by omega) (by omega) k2
      · cases d with
        | zero => cases z
        | succ d =>
          have z : (if c < 6 then (if (c = 2 ∨ c = 3) ∧ d < 4 then none else prm c as h) else _) = some r' := z
          rw [if_pos (by omega)] at z
          exact (if_n z).2
