/-! the class: parse, fault, moves -/
def fP (a j : Nat) : Prop := (a = 13 ∧ (j = 3 ∨ j = 4 ∨ j = 5)) ∨ a = 15
theorem PL_b {t : List Nat} {r : Rdr} (hv : RV r) : ∀ (n e : Nat) (ms : List Mv), n + ms.length = 150 → 9 * ms.length ≤ e → e ≤ t.length → t.length ≤ 150 → (∀ m, m ∈ ms → m.1 < r.1 ∧ m.2.1 < 3 ∧ (m.2.2.1 < r.2.1 ∨ m.2.2.1 = 3 ∨ m.2.2.1 = 4) ∧ -1 ≤ m.2.2.2.1 ∧ m.2.2.2.1 < r.2.1 ∧ m.2.2.2.2 < r.1) →
    (PL t r.1 r.2.1 n e ms).2.length ≤ 17 ∧ (∀ m, m ∈ (PL t r.1 r.2.1 n e ms).2 → m.1 < r.1 ∧ m.2.1 < 3 ∧ (m.2.2.1 < r.2.1 ∨ m.2.2.1 = 3 ∨ m.2.2.1 = 4) ∧ -1 ≤ m.2.2.2.1 ∧ m.2.2.2.1 < r.2.1 ∧ m.2.2.2.2 < r.1) ∧ -1 ≤ (PL t r.1 r.2.1 n e ms).1 ∧ (PL t r.1 r.2.1 n e ms).1 ≤ 150
  | 0, e, ms, h1, h2, h3, h4, hm => by omega
  | n + 1, e, ms, h1, h2, h3, h4, hm => by
    unfold PL
    cases pm : PM t r.1 r.2.1 e with
    | inl s =>
      refine ⟨by simp only; omega, hm, ?_⟩
      have : s ≤ t.length := by
        unfold PM at pm
        have a1 := tk_b h3
        have a2 := tk_b a1.2.2.1
        split at pm
        · cases pm; omega
        split at pm
        · cases pm; omega
        split at pm
        · rename_i s' q
          cases pm
          unfold PT at q
          have a3 := tk_b a2.2.2.1
          have a4 := tk_b a3.2.2.1
          split at q
          · cases q
          split at q
          · cases q
          split at q
          · split at q
            · cases q; omega
            · cases q
          · cases q; omega
        · rename_i k e3 q
          have b3 := PT_b a2.2.2.1 q
          split at pm
          · rename_i s' q2
            cases pm
            unfold PK at q2
            have a3 := tk_b b3.2.1
            have a4 := tk_b a3.2.2.1
            split at q2
            · split at q2
              · cases q2; omega
              · cases q2
            · cases q2
          · rename_i kp e4 q2
            have b4 := PK_b b3.2.1 q2
            have a5 := tk_b b4.2.1
            have a6 := tk_b a5.2.2.1
            split at pm
            · split at pm
              · cases pm; omega
              · cases pm
            · cases pm; omega
      simp only
      omega
    | inr me =>
      obtain ⟨m, e2⟩ := me
      have b := PM_b h3 pm
      have hm2 : ∀ m', m' ∈ ms ++ [m] → m'.1 < r.1 ∧ m'.2.1 < 3 ∧ (m'.2.2.1 < r.2.1 ∨ m'.2.2.1 = 3 ∨ m'.2.2.1 = 4) ∧ -1 ≤ m'.2.2.2.1 ∧ m'.2.2.2.1 < r.2.1 ∧ m'.2.2.2.2 < r.1 := by
        intro m' hm'
        rcases List.mem_append.mp hm' with q | q
        · exact hm m' q
        · rw [List.mem_singleton.mp q]; omega
      have a := tk_b b.2.1
      simp only
      split
      · split
        · rename_i q1 q2
          have := isW_e q2
          simp at this
          exact PL_b hv n (tkE t e2) (ms ++ [m]) (by simp; omega) (by simp; omega) a.2.2.1 h4 hm2
        · exact ⟨by simp; omega, hm2, by simp only; omega, by simp only; omega⟩
      · exact ⟨by simp; omega, hm2, by simp only; omega, by simp only; omega⟩
theorem PTX_b {t : List Nat} {r : Rdr} (hv : RV r) (ht : TV t) : (PTX t r).2.length ≤ 17 ∧ (∀ m, m ∈ (PTX t r).2 → m.1 < r.1 ∧ m.2.1 < 3 ∧ (m.2.2.1 < r.2.1 ∨ m.2.2.1 = 3 ∨ m.2.2.1 = 4) ∧ -1 ≤ m.2.2.2.1 ∧ m.2.2.2.1 < r.2.1 ∧ m.2.2.2.2 < r.1) ∧ -1 ≤ (PTX t r).1 ∧ (PTX t r).1 ≤ 150 :=
  PL_b hv 150 0 [] (by simp) (by simp) (by omega) ht.1 (by simp)
theorem Tx_parse_lp (d : Nat) {t : List Nat} {a : Nat} {r : Rdr} (ha : a ≤ 9) : ∀ (n e : Nat) (ms : List Mv) (h : AH), n + ms.length = 150 → 9 * ms.length ≤ e → e ≤ t.length → TXQ h t → RD h a r → hI h 13 5 = zI e → hI h 13 3 = zI ms.length → (∀ (i : Nat) (m : Mv), ms[i]? = some m → mvAt h 15 i m) →
    ∃ h', Rk B_Tx_parse L_Tx_parse (Cc (d + 8)) 1 [aR (some 13), aR (some a), aI (zI ms.length)] [] h = some (some (aI (zI (PL t r.1 r.2.1 n e ms).1)), h') ∧ xfr fP h h' ∧ TXQ h' t ∧ hI h' 13 3 = zI (PL t r.1 r.2.1 n e ms).2.length ∧ ∀ (i : Nat) (m : Mv), (PL t r.1 r.2.1 n e ms).2[i]? = some m → mvAt h' 15 i m
  | 0, e, ms, h, h1, h2, h3, q, rd, h5, hn, hm => by have := q.2.2.2.1.1; omega
  | n + 1, e, ms, h, h1, h2, h3, q, rd, h5, hn, hm => by
    have hl := q.2.2.2.1.1
    obtain ⟨h', v, c, f, q', pm⟩ := Tx_parseMove d q rd ha h3 h5 hn (by omega)
    have fm : ∀ b j, fM ms.length b j → fP b j := by intro b j; unfold fM fP; omega
    rw [E_Tx_parse_1, show zI 150 = zI ((150 : Nat) : Int) from rfl]
    simp (disch := omega) only [nlt]
    rw [if_pos (by omega), E_Tx_parse_2, obj_e (z13 q.1), calI_e c]
    unfold PL
    cases pe : PM t r.1 r.2.1 e with
    | inl s =>
      rw [pe] at pm
      obtain ⟨rfl, g4, g3⟩ := pm
      refine ⟨h', ?_, f.mo fm, q', g3, ?_⟩
      · rw [if_pos zI_0.symm, E_Tx_parse_3, obj_e (z13 q'.1), g4]
      · intro i m hi
        have hi : ms[i]? = some m := hi
        have := hm i m hi
        have hi2 := (List.getElem?_eq_some_iff.mp hi).1
        unfold mvAt at *
        rw [f.I (by unfold fM; omega), f.I (by unfold fM; omega), f.I (by unfold fM; omega), f.I (by unfold fM; omega), f.I (by unfold fM; omega)]
        exact this
    | inr me =>
      obtain ⟨m, e2⟩ := me
      rw [pe] at pm
      obtain ⟨rfl, g5, g3, gm⟩ := pm
      have b := PM_b h3 pe
      obtain ⟨h2, c2, f2, k4, k5, q2⟩ := Tx_advance (d + 6) q' b.2.1 g5
      obtain ⟨b21, b22, b23, b24⟩ := tk_b b.2.1
      have f12 : xfr fP h h2 := (f.mo fm).tr (f2.mo (by intro b j; unfold fT fP; omega))
      have g3' : hI h2 13 3 = zI (ms ++ [m]).length := by rw [f2.I (by unfold fT; omega), g3]; simp
      have hm2 : ∀ (i : Nat) (m' : Mv), (ms ++ [m])[i]? = some m' → mvAt h2 15 i m' := by
        intro i m' hi
        have hi2 := (List.getElem?_eq_some_iff.mp hi).1
        rw [List.length_append] at hi2
        have k : mvAt h' 15 i m' := by
          by_cases z : i < ms.length
          · rw [List.getElem?_append_left z] at hi
            have := hm i m' hi
            unfold mvAt at *
            rw [f.I (by unfold fM; omega), f.I (by unfold fM; omega), f.I (by unfold fM; omega), f.I (by unfold fM; omega), f.I (by unfold fM; omega)]
            exact this
          · have : i = ms.length := by simp at hi2; omega
            subst this
            simp at hi
            rw [← hi]; exact gm
        unfold mvAt at *
        rw [f2.I (by unfold fT; omega), f2.I (by unfold fT; omega), f2.I (by unfold fT; omega), f2.I (by unfold fT; omega), f2.I (by unfold fT; omega)]
        exact k
      rw [if_neg (by decide), E_Tx_parse_4, obj_e (z13 q'.1), calV_e c2]
      simp only [obj_e (z13 q2.1), k4, q2.2.2.2.2.1]
      simp (disch := omega) only [nlt]
      by_cases x : tkS t e2 < t.length
      · rw [if_pos x, E_Tx_parse_6, obj_e (z13 q2.1), calI_e (Tx_isWord (d + 2) q2 k4 k5 b22 b23 (k := 0) (w := [59]) (by omega) rfl (by decide) (by decide)), if01]
        simp only [if_pos x]
        by_cases y : isW t (tkS t e2) (tkE t e2) [59] = true
        · have hw := isW_e y
          simp at hw
          obtain ⟨h3, c3, f3, q3, g33, gm3⟩ := Tx_parse_lp d ha n (tkE t e2) (ms ++ [m]) h2 (by simp; omega) (by simp; omega) b23 q2 (RD_x rd ha f12 (by intro b j; unfold fP; omega)) k5 g3' hm2
          rw [if_pos y, if_pos y]
          refine ⟨h3, ?_, f12.tr f3, q3, g33, gm3⟩
          rw [E_Tx_parse_8, lt_e, nadd1]
          simp only [List.length_append, List.length_singleton] at c3
          exact c3
        · rw [if_neg y, if_neg y]
          exact ⟨h2, by rw [E_Tx_parse_7, obj_e (z13 q2.1), k4], f12, q2, g3', hm2⟩
      · rw [if_neg x]
        simp only [if_neg x]
        exact ⟨h2, by rw [E_Tx_parse_5], f12, q2, g3', hm2⟩
theorem Tx_parse (d : Nat) {h : AH} {t : List Nat} {a : Nat} {r : Rdr} (ha : a ≤ 9) (q : TXQ h t) (rd : RD h a r) : ∃ h', Cc (d + 9) k_Tx_parse [aR (some 13), aR (some a)] h = some (some (aI (zI (PTX t r).1)), h') ∧ xfr fP h h' ∧ TXQ h' t ∧ hI h' 13 3 = zI (PTX t r).2.length ∧ ∀ (i : Nat) (m : Mv), (PTX t r).2[i]? = some m → mvAt h' 15 i m := by
  have f0 : xfr fP h (sI (sI h 13 5 (zI 0)) 13 3 (zI 0)) := (xfr_sI h (by unfold fP; omega) _).tr (xfr_sI _ (by unfold fP; omega) _)
  obtain ⟨h', c, f, q', g3, gm⟩ := Tx_parse_lp d ha 150 0 [] (sI (sI h 13 5 (zI 0)) 13 3 (zI 0)) (by simp) (by simp) (by omega) (q.mv f0 (by unfold fP; omega) (by unfold fP; omega)) (RD_x rd ha f0 (by intro b j; unfold fP; omega)) (by rw [hI_off (by omega), hI_hit]; rfl) (by rw [hI_hit]; rfl) (by intro i m hi; simp at hi)
  refine ⟨h', ?_, f0.tr f, q', g3, gm⟩
  rw [C_Tx_parse, E_Tx_parse_0]
  simp only [obj_e (z13 q.1), mb_some, obj_sI, lt_e]
  exact c
theorem XI.txq {s : Stt} {h : AH} (p : XI s h) : TXQ h s.2.2.1 := ⟨p.1, p.r (by decide), p.r (by decide), p.tx⟩
theorem XI_x {F : Nat → Nat → Prop} {s : Stt} {h h' : AH} (p : XI s h) (f : xfr F h h') (n : ∀ a j, F a j → fP a j) : XI s h' := by
  have f1 : fr (fun b => 13 ≤ b ∧ b ≤ 15) h h' := f.f (fun a j hh => by have := n a j hh; unfold fP at this; omega)
  have := XI_setT p f1 f.2.1 (t := s.2.2.1) (by
    refine ⟨p.tx.1, ?_, ?_⟩
    · rw [f.I (fun z => by have := n _ _ z; unfold fP at this; omega)]; exact p.tx.2.1
    · intro i c hc; rw [f.I (fun z => by have := n _ _ z; unfold fP at this; omega)]; exact p.tx.2.2 i c hc)
  exact this
theorem xa_le (x : Int) : xa x ≤ 9 := by unfold xa; split <;> omega
theorem X_fault {x : Int} (x1 : -2147483648 ≤ x) (x2 : x < 2147483648) : XOK k_X_fault [aI (zI x)] (fun s => if x = 0 ∨ x = 1 then (PTX s.2.2.1 (rdr s x)).1 else -2) id := by
  intro s h p
  rw [C_X_fault, E_X_fault_0, obj_e p.o, calR_e (X_readerOf _ p x1 x2), xo_if]
  by_cases a1 : x = 0 ∨ x = 1
  · simp only [if_pos a1]
    obtain ⟨h', c, f, q', g3, gm⟩ := Tx_parse 50 (xa_le x) p.txq (p.rd x)
    refine ⟨h', ?_, f.f (fun a j hh => by unfold fP at hh; omega), XI_x p f (fun _ _ z => z)⟩
    rw [xo_some a1, E_X_fault_2, obj_e p.o, p.r (c := 13) (by decide), obj_e (z13 p.1), calI_e c, E_X_fault_3]
  · simp only [if_neg a1]
    exact ⟨h, by rw [E_X_fault_1, E_X_fault_3], fr.rf _ h, p⟩
/-- what moves() answers and leaves -/
def mvsA (s : Stt) (x : Int) : Int := if x = 0 ∨ x = 1 then (if (PTX s.2.2.1 (rdr s x)).1 = -1 then (if (rdr s x).2.2.2.length + (PTX s.2.2.1 (rdr s x)).2.length ≤ 20 then ((rdr s x).2.2.2.length : Int) + (PTX s.2.2.1 (rdr s x)).2.length else -5) else -4) else -2
def mvsN (s : Stt) (x : Int) : Stt := if x = 0 ∨ x = 1 then (if (PTX s.2.2.1 (rdr s x)).1 = -1 then (if (rdr s x).2.2.2.length + (PTX s.2.2.1 (rdr s x)).2.length ≤ 20 then sT (sR' s x ((rdr s x).1, (rdr s x).2.1, (rdr s x).2.2.1, (rdr s x).2.2.2 ++ (PTX s.2.2.1 (rdr s x)).2)) [] else s) else s) else s
theorem RV_app {r : Rdr} (hv : RV r) {l : List Mv} (hl : r.2.2.2.length + l.length ≤ 20) (hm : ∀ m, m ∈ l → m.1 < r.1 ∧ m.2.1 < 3 ∧ (m.2.2.1 < r.2.1 ∨ m.2.2.1 = 3 ∨ m.2.2.1 = 4) ∧ -1 ≤ m.2.2.2.1 ∧ m.2.2.2.1 < r.2.1 ∧ m.2.2.2.2 < r.1) : RV (r.1, r.2.1, r.2.2.1, r.2.2.2 ++ l) := by
  obtain ⟨p1, p2, p3, p4, p5, p6⟩ := hv
  refine ⟨p1, p2, p3, p4, by simp; omega, ?_⟩
  intro m q
  rcases List.mem_append.mp q with q | q
  · exact p6 m q
  · exact hm m q
theorem rdr_s {s : Stt} {x : Int} (r : Rdr) : rdr (sR' s x r) x = r := by unfold rdr sR'; split <;> rfl
theorem X_moves {x : Int} (x1 : -2147483648 ≤ x) (x2 : x < 2147483648) : XOK k_X_moves [aI (zI x)] (fun s => mvsA s x) (fun s => mvsN s x) := by
  intro s h p
  rw [C_X_moves, E_X_moves_0, obj_e p.o, calR_e (X_readerOf _ p x1 x2), xo_if]
  unfold mvsA mvsN
  by_cases a1 : x = 0 ∨ x = 1
  · simp only [if_pos a1]
    have hb := PTX_b (p.rd x).1 p.tx.1
    obtain ⟨h1, c, f, q', g3, gm⟩ := Tx_parse 50 (xa_le x) p.txq (p.rd x)
    have p1 := XI_x p f (fun _ _ z => z)
    have f94 : fr (fun a => a < 94) h h1 := f.f (fun a j hh => by unfold fP at hh; omega)
    have hr := p1.rd x
    have hl := hr.1.2.2.2.2.1
    rw [xo_some a1, E_X_moves_2, obj_e p.o, p.r (c := 13) (by decide), obj_e (z13 p.1), calI_e c]
    simp (disch := omega) only [yeq]
    by_cases a2 : (PTX s.2.2.1 (rdr s x)).1 = -1
    · simp only [if_pos a2]
      have cf : Cc 59 k_Tx_found [aR (some 13)] h1 = some (some (aI (zI (PTX s.2.2.1 (rdr s x)).2.length)), h1) := by
        rw [C_Tx_found, E_Tx_found_0, obj_e (z13 p1.1), g3]
      rw [E_X_moves_4, obj_e hr.2.1.1, calI_e (Rd_size _ hr), obj_e p1.o, p1.r (c := 13) (by decide), obj_e (z13 p1.1), calI_e cf, nadd, show zI 20 = zI ((20 : Nat) : Int) from rfl]
      simp (disch := omega) only [nle]
      by_cases a3 : (rdr s x).2.2.2.length + (PTX s.2.2.1 (rdr s x)).2.length ≤ 20
      · simp only [if_pos a3]
        obtain ⟨h2, c2, f2, rd2⟩ := Rd_appendAll 56 hr (t := 15) (tl := (PTX s.2.2.1 (rdr s x)).2) (z15 p1.1) a3 gm (RV_app hr.1 a3 hb.2.1)
        have p2 := XI_setR p1 x f2 rd2
        obtain ⟨c3, f3, p3⟩ := Tx_wipe 58 p2
        have hr3 := p3.rd x
        have f2' : fr (fun a => a < 94) h1 h2 := f2.mo (fun b hb => by have := xa_le x; omega)
        refine ⟨_, ?_, (f94.tr f2').tr (f3.mo (fun b hb => by omega)), p3⟩
        have ct : Cc 59 k_Tx_told [aR (some 13)] h1 = some (some (aR (some 15)), h1) := by
          rw [C_Tx_told, E_Tx_told_0, obj_e (z13 p1.1), p1.r (c := 15) (by decide)]
        rw [E_X_moves_6, obj_e p1.o, p1.r (c := 13) (by decide), obj_e (z13 p1.1), calR_e ct, obj_e p1.o, p1.r (c := 13) (by decide), obj_e (z13 p1.1), calI_e cf, obj_e hr.2.1.1, calV_e c2, obj_e p2.o, p2.r (c := 13) (by decide), obj_e (z13 p2.1), calI_e c3, obj_e hr3.2.1.1, calI_e (Rd_size _ hr3)]
        have : rdr (sT (sR' s x ((rdr s x).1, (rdr s x).2.1, (rdr s x).2.2.1, (rdr s x).2.2.2 ++ (PTX s.2.2.1 (rdr s x)).2)) []) x = ((rdr s x).1, (rdr s x).2.1, (rdr s x).2.2.1, (rdr s x).2.2.2 ++ (PTX s.2.2.1 (rdr s x)).2) := rdr_s (s := s) _
        rw [this]
        simp
      · simp only [if_neg a3]
        exact ⟨h1, by rw [E_X_moves_5], f94, p1⟩
    · simp only [if_neg a2]
      exact ⟨h1, by rw [E_X_moves_3], f94, p1⟩
  · simp only [if_neg a1]
    exact ⟨h, by rw [E_X_moves_1], fr.rf _ h, p⟩
