/-! how many runs take, told up to a bound -/
def MANY : Nat := 1000000001
def sums {α : Type} (f : α → Nat) : List α → Nat
  | [] => 0
  | a :: l => f a + sums f l
theorem sums_c {α : Type} {f g : α → Nat} : ∀ (l : List α), (∀ a, a ∈ l → f a = g a) → sums f l = sums g l
  | [], _ => rfl
  | a :: l, h => by rw [sums, sums, h a List.mem_cons_self, sums_c l (fun b hb => h b (List.mem_cons_of_mem _ hb))]
theorem sums_0 {α : Type} {f : α → Nat} : ∀ (l : List α), (∀ a, a ∈ l → f a = 0) → sums f l = 0
  | [], _ => rfl
  | a :: l, h => by rw [sums, h a List.mem_cons_self, sums_0 l (fun b hb => h b (List.mem_cons_of_mem _ hb))]
theorem sums_m {α : Type} {f : α → Nat} {k : Nat} : ∀ (l : List α), sums (fun a => k * f a) l = k * sums f l
  | [] => by simp [sums]
  | a :: l => by rw [sums, sums, sums_m l, Nat.mul_add]
theorem sums_er {f : Cfg → Nat} {c : Cfg} : ∀ (l : List Cfg), c ∈ l → sums f l = sums f (l.erase c) + f c
  | [], h => by simp at h
  | a :: l, h => by
    by_cases z : a = c
    · subst z; rw [List.erase_cons_head, sums]; omega
    · have hc : c ∈ l := by rcases List.mem_cons.mp h with y | y; exact absurd y.symm z; exact y
      rw [List.erase_cons_tail (by simp [z]), sums, sums, sums_er l hc]; omega
/-- the number of runs from a configuration that take -/
def nr (r : Rdr) : List (Nat × Nat) → Cfg → Nat
  | [], c => if tks r c.1 then 1 else 0
  | p :: v, c => sums (fun m => if canB m c p.1 p.2 then nr r v (goC m c p.2) else 0) r.2.2.2
/-- the bound does no harm -/
theorem cap (A x a y : Nat) : min MANY (A + min MANY (x + a) * y) = min MANY (A + (x + a) * y) := by
  by_cases h : x + a ≤ MANY
  · rw [Nat.min_eq_right h]
  · rw [show min MANY (x + a) = MANY from Nat.min_eq_left (by omega)]
    cases y with
    | zero => simp
    | succ y =>
      have h1 : MANY ≤ MANY * (y + 1) := Nat.le_mul_of_pos_right _ (by omega)
      have h2 : MANY * (y + 1) ≤ (x + a) * (y + 1) := Nat.mul_le_mul_right _ (by omega)
      rw [show min MANY (A + MANY * (y + 1)) = MANY from Nat.min_eq_left (by omega), show min MANY (A + (x + a) * (y + 1)) = MANY from Nat.min_eq_left (by omega)]
def upW (W : Cfg → Nat) (c : Cfg) (v : Nat) : Cfg → Nat := fun d => if d = c then v else W d
/-- one more way -/
theorem upd_s {W g : Cfg → Nat} {L : List Cfg} {c : Cfg} (nd : L.Nodup) (hc : c ∈ L) (a B : Nat) : min MANY (sums (fun d => upW W c (min MANY (W c + a)) d * g d) L + B) = min MANY (sums (fun d => W d * g d) L + (a * g c + B)) := by
  rw [sums_er L hc, sums_er (f := fun d => W d * g d) L hc]
  have e : sums (fun d => upW W c (min MANY (W c + a)) d * g d) (L.erase c) = sums (fun d => W d * g d) (L.erase c) := sums_c _ (fun d hd => by
    have : d ≠ c := ((List.Nodup.mem_erase_iff nd).mp hd).1
    unfold upW; rw [if_neg this])
  rw [e]
  unfold upW
  rw [if_pos rfl]
  have := cap (sums (fun d => W d * g d) (L.erase c) + B) (W c) a (g c)
  rw [Nat.add_mul] at this
  rw [show sums (fun d => W d * g d) (L.erase c) + min MANY (W c + a) * g c + B = sums (fun d => W d * g d) (L.erase c) + B + min MANY (W c + a) * g c by omega, this]
  congr 1
  omega
/-! the model's ways -/
def WY (h : AH) (W W' : Cfg → Nat) : Prop := ∀ c, CM c → hL h 117 (eM c) = zL (W c) ∧ hL h 118 (eM c) = zL (W' c)
theorem WY.mv {F : Nat → Nat → Prop} {h h' : AH} {W W' : Cfg → Nat} (p : WY h W W') (e : ∀ a j, hL h' a j = hL h a j) : WY h' W W' := fun c hc => by rw [e, e]; exact p c hc
theorem WY_l {h : AH} {W W' : Cfg → Nat} (p : WY h W W') {c : Cfg} (hc : CM c) (v : Nat) : WY (sL h 118 (eM c) (zL v)) W (upW W' c v) := by
  intro d hd
  refine ⟨by rw [hL_off (by omega)]; exact (p d hd).1, ?_⟩
  unfold upW
  by_cases z : d = c
  · subst z; rw [hL_hit, if_pos rfl]
  · rw [hL_off (Or.inr fun e => z (eM_inj hd hc e)), if_neg z]; exact (p d hd).2
theorem WY_k {h : AH} {W W' : Cfg → Nat} (p : WY h W W') {c : Cfg} (hc : CM c) (v : Nat) : WY (sL h 117 (eM c) (zL v)) (upW W c v) W' := by
  intro d hd
  refine ⟨?_, by rw [hL_off (by omega)]; exact (p d hd).2⟩
  unfold upW
  by_cases z : d = c
  · subst z; rw [hL_hit, if_pos rfl]
  · rw [hL_off (Or.inr fun e => z (eM_inj hd hc e)), if_neg z]; exact (p d hd).1
theorem zL_add (a b : Int) : zL a + zL b = zL (a + b) := (Int64.ofInt_add a b).symm
/-- frames that change longs alone -/
def lfr (h h' : AH) : Prop := h'.1 = h.1 ∧ (∀ a j, hR h' a j = hR h a j) ∧ (∀ a j, hI h' a j = hI h a j) ∧ (∀ a j, a < 117 ∨ 118 < a → hL h' a j = hL h a j)
theorem lfr.rf (h : AH) : lfr h h := ⟨rfl, fun _ _ => rfl, fun _ _ => rfl, fun _ _ _ => rfl⟩
theorem lfr.tr {h h' h'' : AH} (p : lfr h h') (q : lfr h' h'') : lfr h h'' := ⟨q.1.trans p.1, fun a j => (q.2.1 a j).trans (p.2.1 a j), fun a j => (q.2.2.1 a j).trans (p.2.2.1 a j), fun a j n => (q.2.2.2 a j n).trans (p.2.2.2 a j n)⟩
theorem lfr_sL (h : AH) {a : Nat} (ha : a = 117 ∨ a = 118) (j : Nat) (x : Int64) : lfr h (sL h a j x) := ⟨rfl, fun _ _ => rfl, fun _ _ => rfl, fun b i n => hL_off (by left; omega)⟩
theorem lfr.m {h h' : AH} (p : lfr h h') (F : Nat → Nat → Prop) : mfr F h h' := ⟨p.1, p.2.1, fun a j _ => p.2.2.1 a j, p.2.2.2⟩
theorem runs_in (d : Nat) {j k l i0 : Nat} {r : Rdr} {w : Rw} {q : Int × Int} {W g : Cfg → Nat} {L : List Cfg} (nd : L.Nodup) (hv : RV r) (hj : j < 2) (hw : WV w) (hq : w[k]? = some q) (hl : q.1 = (l : Int)) (hl3 : l < 3) (hL : ∀ c', c' ∈ L ↔ rq r (prs w (k + 1)) c') (hWm : ∀ c, W c ≤ MANY) {c : Cfg} (hc : rq r (prs w k) c) : ∀ (ms2 ms1 : List Mv) (h : AH) (W' : Cfg → Nat), ms1 ++ ms2 = r.2.2.2 → MS h → MR h j r → MW h w → IDS h w → WY h W W' → (∀ c, W' c ≤ MANY) → (∀ c, c ∉ L → W' c = 0) →
    ∃ h' W'', Rk B_M_runs L_M_runs (Cc (d + 2)) 12 [aR (some 94), aI (zI j), aI (zI k), aI (zI i0), aI (zI (eM c)), aI (zI ((20 * j + ms1.length : Nat) : Int)), aU] [] h = Rk B_M_runs L_M_runs (Cc (d + 2)) 19 [aR (some 94), aI (zI j), aI (zI k), aI (zI i0), aU, aU, aU] [] h' ∧ lfr h h' ∧ WY h' W W'' ∧ (∀ c, W'' c ≤ MANY) ∧ (∀ c, c ∉ L → W'' c = 0) ∧ ∀ B, min MANY (sums (fun d => W'' d * g d) L + B) = min MANY (sums (fun d => W' d * g d) L + (W c * sums (fun m => if canB m c l (idn w q.2) then g (goC m c (idn w q.2)) else 0) ms2 + B))
  | [], ms1, h, W', hms, p, mr, mw, ids, wy, hm, h0 => by
    have hLn := hv.2.2.2.2.1
    rw [List.append_nil] at hms
    refine ⟨h, W', ?_, lfr.rf h, wy, hm, h0, fun B => by simp [sums]⟩
    rw [E_M_runs_12]
    simp (disch := omega) only [obj_e (z94 p.1), m3 p, idx_n (z98 p.1), mr.2.2.2.1]
    rw [show zI 20 * zI j + zI (r.2.2.2.length : Int) = zI ((20 * j + r.2.2.2.length : Nat) : Int) from by rw [zI_mul, zI_add]; rfl, hms]
    simp (disch := omega) only [nlt]
    rw [if_neg (by omega)]
  | m :: ms2, ms1, h, W', hms, p, mr, mw, ids, wy, hm, h0 => by
    have hLn := hv.2.2.2.2.1
    have hwl := hw.1
    obtain ⟨v0, v00, -⟩ := hw.at hq
    have hlen : ms1.length < r.2.2.2.length := by rw [← hms]; simp
    have hmi : r.2.2.2[ms1.length]? = some m := by rw [← hms]; simp
    have hmv := (hv.mi hmi).1
    have hrow := mr.2.2.2.2 _ _ hmi
    have h12 := rq_12 hv _ c (prs_12 hw k) hc
    have hlt := eM_lt h12.m
    have hx12 : idn w q.2 ≤ 12 := by have := idn_le w q.2; have := tn_len w; omega
    have nx : ∀ (h1 : AH) (W1 : Cfg → Nat), lfr h h1 → WY h1 W W1 → (∀ c, W1 c ≤ MANY) → (∀ c, c ∉ L → W1 c = 0) → (∀ B, min MANY (sums (fun d => W1 d * g d) L + B) = min MANY (sums (fun d => W' d * g d) L + (W c * (if canB m c l (idn w q.2) then g (goC m c (idn w q.2)) else 0) + B))) → ∃ h' W'', Rk B_M_runs L_M_runs (Cc (d + 2)) 18 [aR (some 94), aI (zI j), aI (zI k), aI (zI i0), aI (zI (eM c)), aI (zI ((20 * j + ms1.length : Nat) : Int)), aU] [] h1 = Rk B_M_runs L_M_runs (Cc (d + 2)) 19 [aR (some 94), aI (zI j), aI (zI k), aI (zI i0), aU, aU, aU] [] h' ∧ lfr h h' ∧ WY h' W W'' ∧ (∀ c, W'' c ≤ MANY) ∧ (∀ c, c ∉ L → W'' c = 0) ∧ ∀ B, min MANY (sums (fun d => W'' d * g d) L + B) = min MANY (sums (fun d => W' d * g d) L + (W c * sums (fun m => if canB m c l (idn w q.2) then g (goC m c (idn w q.2)) else 0) (m :: ms2) + B)) := by
      intro h1 W1 f wy1 hm1 h01 hp1
      obtain ⟨h2, W2, e, f2, a1, a2, a3, a4⟩ := runs_in d (i0 := i0) (g := g) nd hv hj hw hq hl hl3 hL hWm hc ms2 (ms1 ++ [m]) h1 W1 (by rw [← hms]; simp) (p.mf (f.m (fun _ _ => False))) (mr.mv (f.m (fun _ _ => False)) (by intro a i _ _ z; exact z)) (mw.mv (f.m (fun _ _ => False)) id (fun _ => id) (fun _ => id)) (fun t q hq => by rw [f.2.2.1]; exact ids t q hq) wy1 hm1 h01
      refine ⟨h2, W2, ?_, f.tr f2, a1, a2, a3, fun B => ?_⟩
      · rw [E_M_runs_18, lt_e, nadd1]
        rw [List.length_append] at e
        exact e
      · rw [a4 B, hp1]
        congr 1
        rw [sums, Nat.mul_add]; omega
    rw [E_M_runs_12]
    simp (disch := omega) only [obj_e (z94 p.1), m3 p, idx_n (z98 p.1), mr.2.2.2.1]
    rw [show zI 20 * zI j + zI (r.2.2.2.length : Int) = zI ((20 * j + r.2.2.2.length : Nat) : Int) from by rw [zI_mul, zI_add]; rfl]
    simp (disch := omega) only [nlt]
    rw [if_pos (by omega), E_M_runs_13]
    simp (disch := omega) only [obj_e (z94 p.1), m17 p, m25 p, idx_n (z110 p.1), idx_n (z113 p.1)]
    rw [(mw.2 k _ hq).1, ids k _ hq, hl, calI_e (M_can d p (by omega) hrow hmv h12.m hl3 (by omega)), if01]
    by_cases y : canB m c l (idn w q.2) = true
    · obtain ⟨y1, y2, y3⟩ := canB_t y
      have h12' := goC_12 hmv h12 hx12
      have hlt' := eM_lt h12'.m
      have hc' : goC m c (idn w q.2) ∈ L := by
        rw [hL, prs_s hq, hl]; exact ⟨c, hc, _, _, hmi, y1, y2, y3⟩
      have b1 := hWm c
      have b2 := hm (goC m c (idn w q.2))
      have hM : MANY = 1000000001 := rfl
      rw [if_pos y, E_M_runs_14]
      simp (disch := omega) only [obj_e (z94 p.1), m25 p, idx_n (z113 p.1)]
      rw [ids k _ hq, calI_e (M_behind d p (by omega) hrow hmv h12.m (by omega)), lt_e]
      simp (disch := omega) only [obj_e (z94 p.1), m30 p, m31 p, idx_n (z117 p.1), idx_n (z118 p.1), (wy _ h12'.m).2, (wy _ h12.m).1, zL_add, lg_le]
      have b17 : ∀ v : Nat, v = min MANY (W' (goC m c (idn w q.2)) + W c) → ∃ h' W'', Rk B_M_runs L_M_runs (Cc (d + 2)) 17 [aR (some 94), aI (zI j), aI (zI k), aI (zI i0), aI (zI (eM c)), aI (zI ((20 * j + ms1.length : Nat) : Int)), aU] [aL (zL v), aI (zI (eM (goC m c (idn w q.2)))), aR (some 118)] h = Rk B_M_runs L_M_runs (Cc (d + 2)) 19 [aR (some 94), aI (zI j), aI (zI k), aI (zI i0), aU, aU, aU] [] h' ∧ lfr h h' ∧ WY h' W W'' ∧ (∀ c, W'' c ≤ MANY) ∧ (∀ c, c ∉ L → W'' c = 0) ∧ ∀ B, min MANY (sums (fun d => W'' d * g d) L + B) = min MANY (sums (fun d => W' d * g d) L + (W c * sums (fun m => if canB m c l (idn w q.2) then g (goC m c (idn w q.2)) else 0) (m :: ms2) + B)) := by
        intro v hv2
        rw [E_M_runs_17]
        simp (disch := omega) only [idx_n (z118 p.1), lt_e]
        refine nx _ (upW W' (goC m c (idn w q.2)) v) (lfr_sL h (Or.inr rfl) _ _) (WY_l wy h12'.m v) ?_ ?_ ?_
        · intro d; unfold upW; split
          · rw [hv2]; exact Nat.min_le_left _ _
          · exact hm d
        · intro d hd; unfold upW; rw [if_neg (fun (e : d = goC m c (idn w q.2)) => hd (e ▸ hc'))]; exact h0 d hd
        · intro B; rw [hv2, upd_s nd hc', if_pos y]
      by_cases z : (W' (goC m c (idn w q.2)) : Int) + W c ≤ 1000000001
      · rw [if_pos z, E_M_runs_16]
        simp (disch := omega) only [obj_e (z94 p.1), m30 p, m31 p, idx_n (z117 p.1), idx_n (z118 p.1), (wy _ h12'.m).2, (wy _ h12.m).1, zL_add]
        exact b17 (W' (goC m c (idn w q.2)) + W c) (by omega)
      · rw [if_neg z, E_M_runs_15]
        exact b17 1000000001 (by omega)
    · rw [if_neg y]
      exact nx h W' (lfr.rf h) wy hm h0 (fun B => by rw [if_neg y]; simp)
