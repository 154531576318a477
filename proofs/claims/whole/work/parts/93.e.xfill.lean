/-! X: Fillings: the search -/
def FFS (s : Stt) (x : Int) (la n : Nat) : Prop := ∀ (d b i o f0 : Nat) (u : List (Nat × Nat)) (h : AH) (S : Nat → Bool), i + n = la → FQ s h x la b → b ≤ 1 → SP h (22 + 3 * i) 24576 S → RQS S (rdr s x) u (Lw s.2.2.2 i) → (∀ p, p ∈ u → p.2 < 16) → o ≤ gnm s.2.2.2 i → hI h 69 11 = zI f0 → FO s x la b i i h f0 (Cc (d + 20 + 2 * n) k_Fl_fillFrom [aR (some 69), aI (zI i), aI (zI o)] h) (fun h' => some (some (aI (zI 0)), h')) (fls (rdr s x) s.2.2.2 (s.2.2.2.length - i) i o u)
theorem FQ_73 {s : Stt} {h : AH} {x : Int} {la b a : Nat} {v : Int32} {p : Int × Int} (q : FQ s h x la b) (hp : s.2.2.2[a]? = some p) (hg : p.1 = -1 ∨ p.2 = -1) {B : Nat} (hB : B = 72 ∨ B = 73) : FQ s (sI h B a v) x la b := by
  obtain ⟨px, q8, q10, q12, qn, qg, ⟨S, sp, gd⟩, qa⟩ := q
  have f : fr (fun z => z = B) h (sI h B a v) := fr_sI (F := fun z => z = B) h rfl _ _
  refine ⟨XI_sc px f (fun z hz => by unfold nI'; omega) (fun _ _ => rfl), q8, by rw [hI_off (by omega)]; exact q10, by rw [hI_off (by omega)]; exact q12, qn.fr f (by omega) (by omega) (by omega), fun t t1 t2 => (qg t t1 t2).fr f (fun z hz => by unfold spF at hz; have := px.rw.1.1; omega), ⟨S, sp.fr f (fun z hz => by unfold spF at hz; omega), gd⟩, fun t p' tp t1 t2 => ?_⟩
  have hne : t ≠ a := by
    intro e
    rw [e, hp] at tp
    cases tp
    rcases hg with g | g
    · exact t1 g
    · exact t2 g
  rw [hI_off (by omega), hI_off (by omega)]
  exact qa t p' tp t1 t2
theorem FQ_69 {s : Stt} {h : AH} {x : Int} {la b : Nat} {v : Int32} (q : FQ s h x la b) : FQ s (sI h 69 11 v) x la b := by
  obtain ⟨px, q8, q10, q12, qn, qg, ⟨S, sp, gd⟩, qa⟩ := q
  have f : fr (fun z => z = 69) h (sI h 69 11 v) := fr_sI (F := fun z => z = 69) h rfl _ _
  refine ⟨XI_sc px f (fun z hz => by unfold nI'; omega) (fun _ _ => rfl), q8, by rw [hI_off (by omega)]; exact q10, by rw [hI_off (by omega)]; exact q12, ⟨by rw [hI_off (by omega)]; exact qn.1, fun k m hm => by rw [hI_off (by omega)]; exact qn.2.1 k m hm, fun m hm => by rw [hI_off (by omega)]; exact qn.2.2 m hm⟩, fun t t1 t2 => (qg t t1 t2).fr f (fun z hz => by unfold spF at hz; have := px.rw.1.1; omega), ⟨S, sp.fr f (fun z hz => by unfold spF at hz; omega), gd⟩, fun t p' tp t1 t2 => by rw [hI_off (by omega), hI_off (by omega)]; exact qa t p' tp t1 t2⟩
theorem FQ_set {s : Stt} {h h' : AH} {x : Int} {la b k : Nat} {T : Nat → Bool} (q : FQ s h x la b) (hk : k ≤ la) (hla : la < s.2.2.2.length) (f : fr (spF (22 + 3 * k)) h h') (sp : SP h' (22 + 3 * k) 24576 T) : FQ s h' x la b := by
  obtain ⟨px, q8, q10, q12, qn, qg, ⟨S, sp', gd⟩, qa⟩ := q
  have hl12 := px.rw.1.1
  have n : ∀ z, 61 ≤ z → ¬ spF (22 + 3 * k) z := fun z hz => by unfold spF; omega
  exact ⟨XI_sp px (by omega) f sp, by rw [f.R (n _ (by omega))]; exact q8, by rw [f.I (n _ (by omega))]; exact q10, by rw [f.I (n _ (by omega))]; exact q12, qn.fr f (n _ (by omega)) (n _ (by omega)) (n _ (by omega)), fun t t1 t2 => (qg t t1 t2).fr f (fun z hz => by unfold spF at *; omega), ⟨S, sp'.fr f (fun z hz => n z (by unfold spF at hz; omega)), gd⟩, fun t p tp t1 t2 => by rw [f.I (n _ (by omega)), f.I (n _ (by omega))]; exact qa t p tp t1 t2⟩
theorem CN_m {w : Rw} (hw : WV w) {m : Nat} (h : m ∈ CNn w 100) : idN w m ≤ (tn w).length + gnm w w.length ∧ m < 100 ∧ idN w m ≤ 12 := by
  unfold CNn at h
  rw [List.mem_filter, List.mem_range] at h
  have := of_decide_eq_true h.2
  have := tn_gnm w
  have := hw.1
  exact ⟨by assumption, h.1, by omega⟩
theorem Lw_g {w : Rw} {i y : Nat} {p : Int × Int} (hp : w[i]? = some p) (hg : p.2 = -1) : Lw w i y = true := by
  unfold Lw lvs
  rw [Bool.or_eq_true]
  right
  rw [List.any_eq_true]
  obtain ⟨hi, e⟩ := List.getElem?_eq_some_iff.mp hp
  refine ⟨p, ?_, by simp [hg]⟩
  rw [List.drop_eq_getElem_cons hi, e]; exact List.mem_cons_self
/-- one choice -/
theorem fl_one (d : Nat) {s : Stt} {x : Int} {la n b a o l m f0 : Nat} {S : Nat → Bool} {u : List (Nat × Nat)} {p : Int × Int} {h : AH} {k : AH → Option AR} (IH : ∀ n', n' < n → FFS s x la n') (hla : LST s.2.2.2 la) (hn : a + n = la) (hp : s.2.2.2[a]? = some p) (hg : p.1 = -1 ∨ p.2 = -1) (hb : b ≤ 1) (hl : l < 3) (hm : m ∈ CNn s.2.2.2 100) (hmy : if p.2 = -1 then idN s.2.2.2 m ≤ (tn s.2.2.2).length + o + 1 else idN s.2.2.2 m = idn s.2.2.2 p.2) (ho : o ≤ gnm s.2.2.2 a) (q : FQ s h x la b) (h72 : hI h 72 a = zI l) (sp : SP h (22 + 3 * a) 24576 S) (rqs : RQS S (rdr s x) u (Lw s.2.2.2 a)) (hu : ∀ p, p ∈ u → p.2 < 16) (hf : hI h 69 11 = zI f0) :
    FO s x la b a (a + 1) h f0 (calI (Cc (d + 19 + 2 * n) k_Fl_fillOne [aR (some 69), aI (zI a), aI (zI (idN s.2.2.2 m)), aI (zI o)] h) fun v h2 => if v = 0 then k h2 else some (some (aI (zI 1)), h2)) k ((fls (rdr s x) s.2.2.2 (s.2.2.2.length - (a + 1)) (a + 1) (nxo s.2.2.2 o m) ((l, idN s.2.2.2 m) :: u)).map ((l, m) :: ·)) := by
  obtain ⟨px, q8, q10, q12, qn, qg, qd, qa⟩ := id q
  have hw := px.rw.1
  have hl12 := hw.1
  have hlal := hla.1
  obtain ⟨c1, c2, c3⟩ := CN_m hw hm
  have ip := idN_pos s.2.2.2 m
  have hT : (tn s.2.2.2).length ≤ 12 := Nat.le_trans (tn_len _) hw.1
  have rv := (px.rd x).1
  have ho12 : o ≤ 12 := by
    have := gnm_m (w := s.2.2.2) (show a ≤ s.2.2.2.length by omega)
    have := tn_gnm s.2.2.2
    omega
  have yL : Lw s.2.2.2 a (idN s.2.2.2 m) = true := by
    by_cases z : p.2 = -1
    · exact Lw_g hp z
    · rw [if_neg z] at hmy
      rw [hmy]; exact lvs_x hp
  have hnx : nxo s.2.2.2 o m ≤ gnm s.2.2.2 (a + 1) := by
    rw [gnm_s hp]
    unfold nxo
    by_cases z : p.2 = -1
    · rw [if_pos z]; split <;> omega
    · rw [if_neg z] at hmy ⊢
      have := idn_le s.2.2.2 p.2
      rw [if_neg (by omega)]; omega
  have q1 : FQ s (sI h 73 a (zI m)) x la b := FQ_73 q hp hg (Or.inr rfl)
  have f1 : fr (fiF a) h (sI h 73 a (zI m)) := fr_sI (F := fiF a) h (by unfold fiF; omega) _ _
  have px1 := q1.1
  have sp1 : SP (sI h 73 a (zI m)) (22 + 3 * a) 24576 S := sp.fr (fr_sI (F := fun z => z = 73) h rfl a (zI m)) (fun z hz => by unfold spF at hz; omega)
  have h721 : hI (sI h 73 a (zI m)) 72 a = zI l := by rw [hI_off (by omega)]; exact h72
  have hf1 : hI (sI h 73 a (zI m)) 69 11 = zI f0 := by rw [hI_off (by omega)]; exact hf
  have e0 : Cc (d + 19 + 2 * n) k_Fl_fillOne [aR (some 69), aI (zI a), aI (zI (idN s.2.2.2 m)), aI (zI o)] h = if a < la then Rk B_Fl_fillOne L_Fl_fillOne (Cc (d + 2 * n + 18)) 1 [aR (some 69), aI (zI a), aI (zI (idN s.2.2.2 m)), aI (zI o)] [] (sI h 73 a (zI m)) else Rk B_Fl_fillOne L_Fl_fillOne (Cc (d + 2 * n + 18)) 5 [aR (some 69), aU, aI (zI (idN s.2.2.2 m)), aU] [] (sI h 73 a (zI m)) := by
    rw [show d + 19 + 2 * n = d + 2 * n + 18 + 1 by omega, C_Fl_fillOne, E_Fl_fillOne_0, obj_e (z69 px.1), obj_e (z69 px.1), px.r (a := 69) (j := 4) (c := 71) (by decide), px.r (a := 69) (j := 6) (c := 73) (by decide)]
    simp (disch := omega) only [idx_n (z71 px.1), qn.2.2 m hm, idx_n (z73 px.1), lt_e]
    rw [obj_e (z69 px1.1), q1.2.2.1]
    simp (disch := omega) only [nlt]
  by_cases z : a < la
  · -- a gap behind this one
    have e21a := (px1.set (k := a) (by omega)).2
    have e21b := (px1.set (k := a + 1) (by omega)).2
    obtain ⟨T0, spT⟩ := (px1.set (k := a + 1) (by omega)).1
    obtain ⟨h2, T, e2, f2, sp2, gT⟩ := Sp_follow (d + 2 * n + 13) (a := 22 + 3 * (a + 1)) (b := 22 + 3 * a) (ra := xa x) (l := l) (x := idN s.2.2.2 m) (by unfold xa; split <;> omega) (by omega) (by omega) hl (by omega) (alv_L hw (a + 1)) spT sp1 (px1.rd x)
    have q2 : FQ s h2 x la b := FQ_set q1 (by omega) hlal f2 sp2
    have rqs2 : RQS T (rdr s x) ((l, idN s.2.2.2 m) :: u) (Lw s.2.2.2 (a + 1)) := RQS_s rv hu rqs yL (by omega) (lvs_0 _ _) (fun t ht => lvs_s t ht) gT
    have nf : ∀ t, 64 ≤ t → ¬ spF (22 + 3 * (a + 1)) t := fun t ht => by unfold spF; omega
    have hu2 : ∀ p', p' ∈ (l, idN s.2.2.2 m) :: u → p'.2 < 16 := by
      intro p' hp'
      rcases List.mem_cons.mp hp' with w | w
      · rw [w]; show idN s.2.2.2 m < 16; omega
      · exact hu p' w
    have hf2 : hI h2 69 11 = zI f0 := by rw [f2.I (nf _ (by omega))]; exact hf1
    obtain ⟨h3, f3, q3, a1, a2, alt⟩ := IH (la - (a + 1)) (by omega) (d + 2 * (n - 1 - (la - (a + 1)))) b (a + 1) (nxo s.2.2.2 o m) f0 ((l, idN s.2.2.2 m) :: u) h2 T (by omega) q2 hb sp2 rqs2 hu2 hnx hf2
    rw [show d + 2 * (n - 1 - (la - (a + 1))) + 20 + 2 * (la - (a + 1)) = d + 2 * n + 18 by omega] at alt
    rw [if_pos z] at e0
    have e3 : ∀ v : Int32, (v = 0 ∨ v = 1) → Cc (d + 2 * n + 18) k_Fl_fillFrom [aR (some 69), aI (zI ((a + 1 : Nat) : Int)), aI (zI (nxo s.2.2.2 o m))] h2 = some (some (aI v), h3) → Cc (d + 19 + 2 * n) k_Fl_fillOne [aR (some 69), aI (zI a), aI (zI (idN s.2.2.2 m)), aI (zI o)] h = some (some (aI v), h3) := by
      intro v hv ev
      have e4 : Rk B_Fl_fillOne L_Fl_fillOne (Cc (d + 2 * n + 18)) 4 [aU, aU, aU, aU] [aI (zI (nxo s.2.2.2 o m)), aI (zI ((a + 1 : Nat) : Int)), aR (some 69)] h2 = some (some (aI v), h3) := by
        rw [E_Fl_fillOne_4, obj_e (z69 q2.1.1), calI_e ev, if_pos hv]
      rw [e0, E_Fl_fillOne_1, obj_e (z69 px1.1), px1.r (a := 69) (j := 0) (c := 21) (by decide), nadd1]
      simp (disch := omega) only [idx_n (z21 px1.1), e21b, obj_e (z69 px1.1), px1.r (a := 69) (j := 0) (c := 21) (by decide), e21a, px1.r (a := 69) (j := 5) (c := 72) (by decide), idx_n (z72 px1.1), h721]
      rw [px1.r (a := 69) (j := 7) (c := 16) (by decide), obj_e (z16 px1.1), calI_e (Rw_alive _ px1.rw (by omega)), obj_e spT.1.1, q1.2.1, calV_e e2, obj_e (z69 q2.1.1), q2.1.r (a := 69) (j := 7) (c := 16) (by decide), obj_e (z16 q2.1.1), calI_e (Rw_told _ q2.1.rw), nadd]
      simp (disch := omega) only [nle]
      unfold nxo at e4
      by_cases y : idN s.2.2.2 m ≤ (tn s.2.2.2).length + o
      · rw [if_neg (by omega)] at e4
        rw [if_pos y, E_Fl_fillOne_3, e4]
      · rw [if_pos (by omega)] at e4
        rw [if_neg y, E_Fl_fillOne_2, nadd1, e4]
    have f2' : fr (fiF a) (sI h 73 a (zI m)) h2 := f2.mo (fun t ht => by unfold spF at ht; unfold fiF; omega)
    have f3' : fr (fiF a) h2 h3 := f3.mo (fun t ht => by unfold fiF at *; omega)
    have k72 : ∀ t, t < a + 1 → hI h3 72 t = hI h 72 t := fun t ht => by rw [a1 t ht, f2.I (nf _ (by omega)), hI_off (by omega)]
    have k73 : ∀ t, t < a → hI h3 73 t = hI h 73 t := fun t ht => by rw [a2 t (by omega), f2.I (nf _ (by omega)), hI_off (by omega)]
    have k73a : hI h3 73 a = zI m := by rw [a2 a (by omega), f2.I (nf _ (by omega)), hI_hit]
    refine ⟨h3, f1.tr (f2'.tr f3'), q3, k72, k73, ?_⟩
    rcases alt with ⟨b1, b2, b3, t, T', b4, b5⟩ | ⟨b1, b2, b3⟩
    · refine Or.inl ⟨b1, by rw [calI_e (e3 (zI 1) (Or.inr (by decide)) b2), if_neg (by decide)], b3, (l, m) :: t, T'.map ((l, m) :: ·), by rw [b4]; rfl, ?_⟩
      intro t' q' hq'
      cases t' with
      | zero =>
        cases hq'
        exact ⟨by show hI _ 72 a = zI l; rw [k72 a (by omega)]; exact h72, k73a⟩
      | succ t' =>
        rw [show a + (t' + 1) = a + 1 + t' by omega]
        exact b5 t' q' hq'
    · refine Or.inr ⟨?_, by rw [calI_e (e3 (zI 0) (Or.inl (by decide)) b2), if_pos zI_0.symm], by rw [b3, List.length_map]⟩
      rcases b1 with b1 | b1
      · exact Or.inl b1
      · exact Or.inr (by rw [b1]; rfl)
  · -- the last gap
    have ea : a = la := by omega
    subst ea
    rw [if_neg z] at e0
    obtain ⟨h2, v, e2, f2, q2, alt⟩ := Fl_restIsTaken (d + 2 * n) hla hl (show idN s.2.2.2 m < 16 by omega) (by omega) yL hu q1 h721 sp1 rqs
    have nf : ∀ t, 64 ≤ t → t ≠ 67 → ¬ rsF a t := fun t ht h2 => by unfold rsF; omega
    have f2' : fr (fiF a) (sI h 73 a (zI m)) h2 := f2.mo (fun t ht => by unfold rsF at ht; unfold fiF; omega)
    have fe := fls_end (r := rdr s x) (o := nxo s.2.2.2 o m) (u := (l, idN s.2.2.2 m) :: u) hw (s.2.2.2.length - (a + 1)) (a + 1) (by omega) hla.2
    have hf2 : hI h2 69 11 = zI f0 := by rw [f2.I (nf _ (by omega) (by omega))]; exact hf1
    rcases alt with ⟨rfl, ex⟩ | ⟨rfl, nex⟩
    · rw [if_pos (bl_t.mpr ex)] at fe
      rw [fe]
      have q3 : FQ s (sI h2 69 11 (zI ((f0 + 1 : Nat) : Int))) x a b := FQ_69 q2
      have e5 : Cc (d + 19 + 2 * n) k_Fl_fillOne [aR (some 69), aI (zI a), aI (zI (idN s.2.2.2 m)), aI (zI o)] h = some (some (aI (zI b)), sI h2 69 11 (zI ((f0 + 1 : Nat) : Int))) := by
        rw [e0, E_Fl_fillOne_5, obj_e (z69 px1.1), calI_e e2, if_neg (by decide), E_Fl_fillOne_7, obj_e (z69 q2.1.1), obj_e (z69 q2.1.1), hf2, nadd1, mb_some, obj_sI, obj_e (z69 q2.1.1), hI_off (by omega), q2.2.2.2.1, if_pos (by rcases (show b = 0 ∨ b = 1 by omega) with w | w; rw [w]; exact Or.inl (by decide); rw [w]; exact Or.inr (by decide))]
      have f3 : fr (fiF a) h2 (sI h2 69 11 (zI ((f0 + 1 : Nat) : Int))) := fr_sI (F := fiF a) h2 (by unfold fiF; omega) _ _
      have k72 : ∀ t, t < a + 1 → hI (sI h2 69 11 (zI ((f0 + 1 : Nat) : Int))) 72 t = hI h 72 t := fun t ht => by rw [hI_off (by omega), f2.I (nf _ (by omega) (by omega)), hI_off (by omega)]
      have k73 : ∀ t, t < a → hI (sI h2 69 11 (zI ((f0 + 1 : Nat) : Int))) 73 t = hI h 73 t := fun t ht => by rw [hI_off (by omega), f2.I (nf _ (by omega) (by omega)), hI_off (by omega)]
      refine ⟨_, f1.tr (f2'.tr f3), q3, k72, k73, ?_⟩
      rcases (show b = 0 ∨ b = 1 by omega) with w | w
      · subst w
        exact Or.inr ⟨Or.inl rfl, by rw [calI_e e5, if_pos (show zI ((0 : Nat) : Int) = 0 from rfl)], by rw [hI_hit]; rfl⟩
      · subst w
        refine Or.inl ⟨rfl, by rw [calI_e e5, if_neg (by decide)], by rw [hI_hit], (l, m) :: tgl s.2.2.2 (a + 1), [], rfl, ?_⟩
        intro t' q' hq'
        cases t' with
        | zero =>
          cases hq'
          exact ⟨by show hI _ 72 a = zI l; rw [k72 a (by omega)]; exact h72, by show hI _ 73 a = zI m; rw [hI_off (by omega), f2.I (nf _ (by omega) (by omega)), hI_hit]⟩
        | succ t' =>
          rw [List.getElem?_cons_succ] at hq'
          unfold tgl at hq'
          rw [List.getElem?_map] at hq'
          cases hd : (s.2.2.2.drop (a + 1))[t']? with
          | none => rw [hd] at hq'; cases hq'
          | some p' =>
            rw [hd] at hq'
            cases hq'
            rw [List.getElem?_drop] at hd
            have g := hla.2 _ p' (by omega) hd
            have hb' := hw.2 p' (List.mem_of_getElem? hd)
            obtain ⟨w1, w2⟩ := q3.2.2.2.2.2.2.2 _ p' hd g.1 g.2
            rw [show a + (t' + 1) = a + 1 + t' by omega, w1, w2]
            exact ⟨by show zI p'.1 = zI ((p'.1.toNat : Nat) : Int); congr 1; omega, by show zI p'.2 = zI ((p'.2.toNat : Nat) : Int); congr 1; omega⟩
    · rw [if_neg (fun w => nex (bl_t.mp w))] at fe
      rw [fe]
      have e5 : Cc (d + 19 + 2 * n) k_Fl_fillOne [aR (some 69), aI (zI a), aI (zI (idN s.2.2.2 m)), aI (zI o)] h = some (some (aI (zI 0)), h2) := by
        rw [e0, E_Fl_fillOne_5, obj_e (z69 px1.1), calI_e e2, if_pos zI_0.symm, E_Fl_fillOne_6, fr0]
      exact ⟨h2, f1.tr f2', q2, fun t ht => by rw [f2.I (nf _ (by omega) (by omega)), hI_off (by omega)], fun t ht => by rw [f2.I (nf _ (by omega) (by omega)), hI_off (by omega)], Or.inr ⟨Or.inr rfl, by rw [calI_e e5, if_pos zI_0.symm], by simpa using hf2⟩⟩
