/-! THE STATE: two readers, the text, the row; how each side's heap holds it; one step of both -/
abbrev Stt : Type := Rdr × Rdr × List Nat × Rw
def TV (t : List Nat) : Prop := t.length ≤ 150 ∧ ∀ c, c ∈ t → c < 256
def VS (s : Stt) : Prop := RV s.1 ∧ RV s.2.1 ∧ TV s.2.2.1 ∧ WV s.2.2.2
def BLK : Rdr := (1, 0, 0, [])
def TXT (h : AH) (t : List Nat) : Prop := TV t ∧ hI h 13 2 = zI t.length ∧ ∀ (i c : Nat), t[i]? = some c → hI h 14 i = zI c
def XRefs : List (Nat × Nat × Nat) := [(0,0,1),(0,1,5),(0,2,9),(0,3,13),(0,4,16),(0,5,66),(0,6,69),(0,7,74),(0,8,77),(0,9,79),(0,10,83),(13,0,14),(13,1,15),(66,0,21),(66,1,67),(66,2,68),(69,0,21),(69,1,66),(69,2,61),(69,3,70),(69,4,71),(69,5,72),(69,6,73),(69,7,16),(74,0,75),(74,1,76),(77,0,21),(77,1,78),(79,0,80),(79,1,81),(79,2,82),(83,0,84),(83,3,93),(83,4,1),(83,5,5)]
def prr (h : AH) (a i j u v : Nat) : Prop := (hR h a i = some u ∧ hR h a j = some v) ∨ (hR h a i = some v ∧ hR h a j = some u)
/-- the table of rows that go on -/
def RT : List Nat := [1, 1, 1, 1, 1, 1, 1, 2, 3, 4, 5, 6, 7, 0, 5, 10, 17, 26, 37, 0, 0, 15, 37, 77, 141, 0, 0, 0, 52, 151, 372, 0, 0, 0, 0, 203, 674, 0, 0, 0, 0, 0]
def XR (h : AH) : Prop := (∀ k, k < 14 → (∃ S, SP h (22 + 3 * k) 24576 S) ∧ hR h 21 k = some (22 + 3 * k)) ∧ (∃ S, SP h 84 31572 S) ∧ (∃ S, SP h 87 31572 S) ∧ (∃ S, SP h 90 31572 S) ∧ prr h 66 3 4 64 65 ∧ prr h 74 2 3 22 25 ∧ prr h 74 4 5 64 65 ∧ prr h 79 4 5 22 25 ∧ prr h 83 1 2 87 90 ∧ (∀ j, j < 42 → hI h 93 j = zI (RT.getD j 0)) ∧ hI h 68 0 = zI 0
def XF (h : AH) : Prop := ∀ t, t ∈ XRefs → hR h t.1 t.2.1 = some t.2.2
def XI (s : Stt) (h : AH) : Prop := h.1 = SHP ∧ XF h ∧ RD h 1 s.1 ∧ RD h 5 s.2.1 ∧ RD h 9 BLK ∧ TXT h s.2.2.1 ∧ RW h s.2.2.2 ∧ XR h
theorem TXT.fr {F : Nat → Prop} {h h' : AH} {t : List Nat} (p : TXT h t) (f : fr F h h') (n : ¬ F 13) (n2 : ¬ F 14) : TXT h' t := by
  unfold TXT at *; simp only [f.I n, f.I n2]; exact p
theorem prr.fr {F : Nat → Prop} {h h' : AH} {a i j u v : Nat} (p : prr h a i j u v) (f : fr F h h') (n : ¬ F a) : prr h' a i j u v := by
  unfold prr at *; simp only [f.R n]; exact p
theorem XR.fr {F : Nat → Prop} {h h' : AH} (p : XR h) (f : fr F h h') (n : ∀ b, 21 ≤ b → b < 94 → ¬ F b) : XR h' := by
  obtain ⟨p1, p2, p3, p4, q1, q2, q3, q4, q5, q6⟩ := p
  refine ⟨?_, ?_, ?_, ?_, q1.fr f (n _ (by omega) (by omega)), q2.fr f (n _ (by omega) (by omega)), q3.fr f (n _ (by omega) (by omega)), q4.fr f (n _ (by omega) (by omega)), q5.fr f (n _ (by omega) (by omega)), ?_⟩
  · intro k hk
    obtain ⟨⟨S, hS⟩, e⟩ := p1 k hk
    exact ⟨⟨S, hS.fr f (fun b hb => n b (by unfold spF at hb; omega) (by unfold spF at hb; omega))⟩, by rw [f.R (n 21 (by omega) (by omega))]; exact e⟩
  · obtain ⟨S, hS⟩ := p2; exact ⟨S, hS.fr f (fun b hb => n b (by unfold spF at hb; omega) (by unfold spF at hb; omega))⟩
  · obtain ⟨S, hS⟩ := p3; exact ⟨S, hS.fr f (fun b hb => n b (by unfold spF at hb; omega) (by unfold spF at hb; omega))⟩
  · obtain ⟨S, hS⟩ := p4; exact ⟨S, hS.fr f (fun b hb => n b (by unfold spF at hb; omega) (by unfold spF at hb; omega))⟩
  · exact ⟨fun j hj => by rw [f.I (n 93 (by omega) (by omega))]; exact q6.1 j hj, by rw [f.I (n 68 (by omega) (by omega))]; exact q6.2⟩
theorem XF.mv {h h' : AH} (p : XF h) (q : ∀ t, t ∈ XRefs → hR h' t.1 t.2.1 = hR h t.1 t.2.1) : XF h' := fun t ht => by rw [q t ht]; exact p t ht
theorem XI.fr {F : Nat → Prop} {h h' : AH} {s : Stt} (p : XI s h) (f : fr F h h') (n : ∀ b, b < 94 → ¬ F b) : XI s h' := by
  obtain ⟨p1, p2, p3, p4, p5, p6, p7, p8⟩ := p
  refine ⟨f.1.trans p1, p2.mv ?_, p3.fr f (fun b _ _ => n b (by omega)), p4.fr f (fun b _ _ => n b (by omega)), p5.fr f (fun b _ _ => n b (by omega)), p6.fr f (n _ (by omega)) (n _ (by omega)), p7.fr f (fun b _ _ => n b (by omega)), p8.fr f (fun b _ h => n b h)⟩
  intro t ht
  have : ∀ t, t ∈ XRefs → t.1 < 94 := by decide
  exact f.R (n _ (this t ht)) _
theorem XI.vs {s : Stt} {h : AH} (p : XI s h) : VS s := ⟨p.2.2.1.1, p.2.2.2.1.1, p.2.2.2.2.2.1.1, p.2.2.2.2.2.2.1.1⟩
/-! the model's side -/
def mfr (F : Nat → Nat → Prop) (h h' : AH) : Prop := h'.1 = h.1 ∧ (∀ a j, hR h' a j = hR h a j) ∧ (∀ a j, ¬ F a j → hI h' a j = hI h a j) ∧ (∀ a j, a < 117 ∨ 118 < a → hL h' a j = hL h a j)
theorem mfr.rf (F : Nat → Nat → Prop) (h : AH) : mfr F h h := ⟨rfl, fun _ _ => rfl, fun _ _ _ => rfl, fun _ _ _ => rfl⟩
theorem mfr.tr {F : Nat → Nat → Prop} {h h' h'' : AH} (p : mfr F h h') (q : mfr F h' h'') : mfr F h h'' :=
  ⟨q.1.trans p.1, fun a j => (q.2.1 a j).trans (p.2.1 a j), fun a j n => (q.2.2.1 a j n).trans (p.2.2.1 a j n), fun a j n => (q.2.2.2 a j n).trans (p.2.2.2 a j n)⟩
theorem mfr.mo {F G : Nat → Nat → Prop} {h h' : AH} (p : mfr F h h') (hm : ∀ a j, F a j → G a j) : mfr G h h' := ⟨p.1, p.2.1, fun a j n => p.2.2.1 a j fun q => n (hm a j q), p.2.2.2⟩
theorem mfr.I {F : Nat → Nat → Prop} {h h' : AH} (p : mfr F h h') {a j : Nat} (n : ¬ F a j) : hI h' a j = hI h a j := p.2.2.1 a j n
theorem mfr_sI {F : Nat → Nat → Prop} (h : AH) {a j : Nat} (hF : F a j) (x : Int32) : mfr F h (sI h a j x) :=
  ⟨rfl, fun _ _ => rfl, fun b i n => hI_off (by by_cases z : b = a; right; intro y; exact n (z ▸ y ▸ hF); left; exact z), fun _ _ _ => rfl⟩
theorem mfr_sL {F : Nat → Nat → Prop} (h : AH) {a : Nat} (ha : a = 117 ∨ a = 118) (j : Nat) (x : Int64) : mfr F h (sL h a j x) :=
  ⟨rfl, fun _ _ => rfl, fun _ _ _ => rfl, fun b i n => hL_off (by left; omega)⟩
def mrow (h : AH) (i : Nat) (m : Mv) : Prop := hI h 99 i = zI m.1 ∧ hI h 100 i = zI m.2.1 ∧ hI h 101 i = zI m.2.2.1 ∧ hI h 102 i = zI m.2.2.2.1 ∧ hI h 103 i = zI m.2.2.2.2
def MR (h : AH) (j : Nat) (r : Rdr) : Prop := hI h 95 j = zI r.1 ∧ hI h 96 j = zI r.2.1 ∧ hI h 97 j = zI r.2.2.1 ∧ hI h 98 j = zI r.2.2.2.length ∧ ∀ i m, r.2.2.2[i]? = some m → mrow h (20 * j + i) m
def MT (h : AH) (t : List Nat) : Prop := hI h 94 16 = zI t.length ∧ ∀ (i c : Nat), t[i]? = some c → hI h 109 i = zI c
def MW (h : AH) (w : Rw) : Prop := hI h 94 19 = zI w.length ∧ ∀ i p, w[i]? = some p → hI h 110 i = zI p.1 ∧ hI h 111 i = zI p.2
def MK (h : AH) (b : Nat) : Prop := ∃ u : Nat, u ≤ b ∧ hI h 94 29 = zI u ∧ ∀ j, j < 29478 → ∃ s : Nat, s ≤ u ∧ hI h 116 j = zI s
def MI (k : Nat) (s : Stt) (h : AH) : Prop := MS h ∧ MR h 0 s.1 ∧ MR h 1 s.2.1 ∧ MT h s.2.2.1 ∧ MW h s.2.2.2 ∧ MK h (4000000 * k)
/-- what stays over a call of the model that changes none of the state -/
def scr (a j : Nat) : Prop := (a = 94 ∧ j ≠ 16 ∧ j ≠ 19 ∧ j ≠ 29) ∨ (104 ≤ a ∧ a ≠ 109 ∧ a ≠ 110 ∧ a ≠ 111 ∧ a ≠ 116)
theorem MR.mv {F : Nat → Nat → Prop} {h h' : AH} {j : Nat} {r : Rdr} (p : MR h j r) (f : mfr F h h') (n : ∀ a i, 95 ≤ a → a ≤ 103 → ¬ F a i) : MR h' j r := by
  unfold MR mrow at *
  rw [f.I (n 95 _ (by omega) (by omega)), f.I (n 96 _ (by omega) (by omega)), f.I (n 97 _ (by omega) (by omega)), f.I (n 98 _ (by omega) (by omega))]
  refine ⟨p.1, p.2.1, p.2.2.1, p.2.2.2.1, fun i m hm => ?_⟩
  rw [f.I (n 99 _ (by omega) (by omega)), f.I (n 100 _ (by omega) (by omega)), f.I (n 101 _ (by omega) (by omega)), f.I (n 102 _ (by omega) (by omega)), f.I (n 103 _ (by omega) (by omega))]
  exact p.2.2.2.2 i m hm
theorem MT.mv {F : Nat → Nat → Prop} {h h' : AH} {t : List Nat} (p : MT h t) (f : mfr F h h') (n : ¬ F 94 16) (n2 : ∀ i, ¬ F 109 i) : MT h' t := by
  unfold MT at *; rw [f.I n]; exact ⟨p.1, fun i c hc => by rw [f.I (n2 i)]; exact p.2 i c hc⟩
theorem MW.mv {F : Nat → Nat → Prop} {h h' : AH} {w : Rw} (p : MW h w) (f : mfr F h h') (n : ¬ F 94 19) (n2 : ∀ i, ¬ F 110 i) (n3 : ∀ i, ¬ F 111 i) : MW h' w := by
  unfold MW at *; rw [f.I n]; exact ⟨p.1, fun i c hc => by rw [f.I (n2 i), f.I (n3 i)]; exact p.2 i c hc⟩
theorem MK.mv {F : Nat → Nat → Prop} {h h' : AH} {b : Nat} (p : MK h b) (f : mfr F h h') (n : ¬ F 94 29) (n2 : ∀ i, ¬ F 116 i) : MK h' b := by
  unfold MK at *; rw [f.I n]; obtain ⟨u, h1, h2, h3⟩ := p; exact ⟨u, h1, h2, fun j hj => by rw [f.I (n2 j)]; exact h3 j hj⟩
theorem MK.le {h : AH} {b c : Nat} (p : MK h b) (q : b ≤ c) : MK h c := by obtain ⟨u, h1, h2⟩ := p; exact ⟨u, by omega, h2⟩
theorem MS.mf {F : Nat → Nat → Prop} {h h' : AH} (p : MS h) (f : mfr F h h') : MS h' := p.mv f.1 (f.2.1 94)
/-- the state is kept -/
theorem MI.mv {F : Nat → Nat → Prop} {h h' : AH} {k : Nat} {s : Stt} (p : MI k s h) (f : mfr F h h') (n : ∀ a i, F a i → scr a i) : MI k s h' := by
  obtain ⟨p1, p2, p3, p4, p5, p6⟩ := p
  have nn : ∀ a i, ¬ scr a i → ¬ F a i := fun a i h1 h2 => h1 (n a i h2)
  exact ⟨p1.mf f, p2.mv f (fun a i h1 h2 => nn a i (by unfold scr; omega)), p3.mv f (fun a i h1 h2 => nn a i (by unfold scr; omega)), p4.mv f (nn _ _ (by unfold scr; omega)) (fun i => nn _ _ (by unfold scr; omega)), p5.mv f (nn _ _ (by unfold scr; omega)) (fun i => nn _ _ (by unfold scr; omega)) (fun i => nn _ _ (by unfold scr; omega)), p6.mv f (nn _ _ (by unfold scr; omega)) (fun i => nn _ _ (by unfold scr; omega))⟩
theorem MI.up {k : Nat} {s : Stt} {h : AH} (p : MI k s h) : MI (k + 1) s h := ⟨p.1, p.2.1, p.2.2.1, p.2.2.2.1, p.2.2.2.2.1, p.2.2.2.2.2.le (by omega)⟩
theorem MI.fr {h h' : AH} {k : Nat} {s : Stt} (p : MI k s h) (f : fr (fun a => a < 94) h h') : MI k s h' := by
  obtain ⟨p1, p2, p3, p4, p5, p6⟩ := p
  have i : ∀ a j, 94 ≤ a → hI h' a j = hI h a j := fun a j ha => f.I (by omega) j
  have r : ∀ a j, 94 ≤ a → hR h' a j = hR h a j := fun a j ha => f.R (by omega) j
  refine ⟨p1.mv f.1 (fun j => r 94 j (by omega)), ?_, ?_, ?_, ?_, ?_⟩
  · unfold MR mrow at *; simp only [i _ _ (show 94 ≤ 95 by omega), i _ _ (show 94 ≤ 96 by omega), i _ _ (show 94 ≤ 97 by omega), i _ _ (show 94 ≤ 98 by omega), i _ _ (show 94 ≤ 99 by omega), i _ _ (show 94 ≤ 100 by omega), i _ _ (show 94 ≤ 101 by omega), i _ _ (show 94 ≤ 102 by omega), i _ _ (show 94 ≤ 103 by omega)]; exact p2
  · unfold MR mrow at *; simp only [i _ _ (show 94 ≤ 95 by omega), i _ _ (show 94 ≤ 96 by omega), i _ _ (show 94 ≤ 97 by omega), i _ _ (show 94 ≤ 98 by omega), i _ _ (show 94 ≤ 99 by omega), i _ _ (show 94 ≤ 100 by omega), i _ _ (show 94 ≤ 101 by omega), i _ _ (show 94 ≤ 102 by omega), i _ _ (show 94 ≤ 103 by omega)]; exact p3
  · unfold MT at *; simp only [i _ _ (show 94 ≤ 94 by omega), i _ _ (show 94 ≤ 109 by omega)]; exact p4
  · unfold MW at *; simp only [i _ _ (show 94 ≤ 94 by omega), i _ _ (show 94 ≤ 110 by omega), i _ _ (show 94 ≤ 111 by omega)]; exact p5
  · unfold MK at *; simp only [i _ _ (show 94 ≤ 94 by omega), i _ _ (show 94 ≤ 116 by omega)]; exact p6
/-! one step of both -/
def II (k : Nat) (h : AH) : Prop := h.1 = SHP ∧ ∃ s, XI s h ∧ MI k s h
def XOK (kx : Nat) (as : List AV) (ans : Stt → Int) (nxt : Stt → Stt) : Prop := ∀ s h, XI s h → ∃ h1, Cc 60 kx (aR (some 0) :: as) h = some (some (aI (zI (ans s))), h1) ∧ fr (fun a => a < 94) h h1 ∧ XI (nxt s) h1
def MOK (km : Nat) (as : List AV) (ans : Stt → Int) (nxt : Stt → Stt) : Prop := ∀ s k h, k < 512 → VS s → MI k s h → ∃ h2, Cc 60 km (aR (some 94) :: as) h = some (some (aI (zI (ans s))), h2) ∧ mfr (fun a _ => 94 ≤ a) h h2 ∧ MI (k + 1) (nxt s) h2
def STQ (I : Nat → AH → Prop) (mi kx km : Nat) (as : List AV) : Prop := ∀ (k : Nat) (h : AH), k < 512 → I k h → ∃ v h1 h2, Cc 60 kx (aR (some 0) :: as) h = some (some (aI v), h1) ∧ h1.1 = h.1 ∧ Cc 60 km (aR (some mi) :: as) h1 = some (some (aI v), h2) ∧ I (k + 1) h2
theorem comb {kx km : Nat} {as : List AV} {ans : Stt → Int} {nxt : Stt → Stt} (px : XOK kx as ans nxt) (pm : MOK km as ans nxt) : STQ II 94 kx km as := by
  rintro k h hk ⟨h0, s, hx, hm⟩
  obtain ⟨h1, e1, f1, x1⟩ := px s h hx
  obtain ⟨h2, e2, f2, m2⟩ := pm s k h1 hk hx.vs (hm.fr f1)
  have f3 : fr (fun a => 94 ≤ a) h1 h2 := ⟨f2.1, fun a ha => ⟨fun j => f2.I ha, fun j => f2.2.2.2 a j (by omega), fun j => f2.2.1 a j⟩⟩
  exact ⟨_, h1, h2, e1, f1.1, e2, (f2.1.trans f1.1).trans h0, nxt s, x1.fr f3 (fun b hb => by omega), m2⟩
