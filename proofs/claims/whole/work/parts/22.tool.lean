/-! tools for the pure side: frames, readings, ints by their integers -/
theorem obj_sI (h : AH) (a j : Nat) (x : Int32) (ci : Nat) (o : Option Nat) (f : Nat → Option AR) : obj (sI h a j x) ci o f = obj h ci o f := rfl
theorem obj_sL (h : AH) (a j : Nat) (x : Int64) (ci : Nat) (o : Option Nat) (f : Nat → Option AR) : obj (sL h a j x) ci o f = obj h ci o f := rfl
theorem obj_sR (h : AH) (a j : Nat) (x : Option Nat) (ci : Nat) (o : Option Nat) (f : Nat → Option AR) : obj (sR h a j x) ci o f = obj h ci o f := rfl
theorem idx_sI (h : AH) (a j : Nat) (x : Int32) (kd : Nat) (o : Option Nat) (i : Int32) (f : Nat → Nat → Option AR) : idx (sI h a j x) kd o i f = idx h kd o i f := rfl
theorem idx_sL (h : AH) (a j : Nat) (x : Int64) (kd : Nat) (o : Option Nat) (i : Int32) (f : Nat → Nat → Option AR) : idx (sL h a j x) kd o i f = idx h kd o i f := rfl
theorem idx_sR (h : AH) (a j : Nat) (x : Option Nat) (kd : Nat) (o : Option Nat) (i : Int32) (f : Nat → Nat → Option AR) : idx (sR h a j x) kd o i f = idx h kd o i f := rfl
theorem obj_h {h h' : AH} (e : h'.1 = h.1) (ci : Nat) (o : Option Nat) (f : Nat → Option AR) : obj h' ci o f = obj h ci o f := by unfold obj; rw [e]
theorem idx_h {h h' : AH} (e : h'.1 = h.1) (kd : Nat) (o : Option Nat) (i : Int32) (f : Nat → Nat → Option AR) : idx h' kd o i f = idx h kd o i f := by unfold idx; rw [e]
theorem idx_z {h : AH} {kd a n : Nat} {k : Int} (e : h.1[a]? = some (kd, n)) (h0 : 0 ≤ k) (h1 : k < n) (h2 : k < 2147483648) (f : Nat → Nat → Option AR) : idx h kd (some a) (zI k) f = f a k.toNat := by
  obtain ⟨m, rfl⟩ : ∃ m : Nat, k = m := ⟨k.toNat, by omega⟩
  have h2' : m < 2147483648 := by omega
  unfold idx
  simp only [e]
  rw [zI_clamp h2', if_pos]
  · rfl
  · refine ⟨trivial, ?_⟩
    intro q
    rcases q with q | q
    · rw [zI_lt0 ⟨by omega, by omega⟩] at q; omega
    · omega
/-- but for the cells F nothing has changed -/
def fr (F : Nat → Prop) (h h' : AH) : Prop := h'.1 = h.1 ∧ ∀ a, ¬ F a → (∀ j, hI h' a j = hI h a j) ∧ (∀ j, hL h' a j = hL h a j) ∧ (∀ j, hR h' a j = hR h a j)
theorem fr.rf (F : Nat → Prop) (h : AH) : fr F h h := ⟨rfl, fun _ _ => ⟨fun _ => rfl, fun _ => rfl, fun _ => rfl⟩⟩
theorem fr.tr {F : Nat → Prop} {h h' h'' : AH} (p : fr F h h') (q : fr F h' h'') : fr F h h'' :=
  ⟨q.1.trans p.1, fun a ha => ⟨fun j => ((q.2 a ha).1 j).trans ((p.2 a ha).1 j), fun j => ((q.2 a ha).2.1 j).trans ((p.2 a ha).2.1 j), fun j => ((q.2 a ha).2.2 j).trans ((p.2 a ha).2.2 j)⟩⟩
theorem fr.mo {F G : Nat → Prop} {h h' : AH} (p : fr F h h') (hm : ∀ a, F a → G a) : fr G h h' := ⟨p.1, fun a ha => p.2 a fun q => ha (hm a q)⟩
theorem fr.I {F : Nat → Prop} {h h' : AH} (p : fr F h h') {a : Nat} (ha : ¬ F a) (j : Nat) : hI h' a j = hI h a j := (p.2 a ha).1 j
theorem fr.L {F : Nat → Prop} {h h' : AH} (p : fr F h h') {a : Nat} (ha : ¬ F a) (j : Nat) : hL h' a j = hL h a j := (p.2 a ha).2.1 j
theorem fr.R {F : Nat → Prop} {h h' : AH} (p : fr F h h') {a : Nat} (ha : ¬ F a) (j : Nat) : hR h' a j = hR h a j := (p.2 a ha).2.2 j
theorem fr_sI {F : Nat → Prop} (h : AH) {a : Nat} (ha : F a) (j : Nat) (x : Int32) : fr F h (sI h a j x) :=
  ⟨rfl, fun b hb => ⟨fun i => if_neg (fun (q : b = a ∧ i = j) => hb (q.1 ▸ ha)), fun _ => rfl, fun _ => rfl⟩⟩
theorem fr_sL {F : Nat → Prop} (h : AH) {a : Nat} (ha : F a) (j : Nat) (x : Int64) : fr F h (sL h a j x) :=
  ⟨rfl, fun b hb => ⟨fun _ => rfl, fun i => if_neg (fun (q : b = a ∧ i = j) => hb (q.1 ▸ ha)), fun _ => rfl⟩⟩
theorem fr_sR {F : Nat → Prop} (h : AH) {a : Nat} (ha : F a) (j : Nat) (x : Option Nat) : fr F h (sR h a j x) :=
  ⟨rfl, fun b hb => ⟨fun _ => rfl, fun _ => rfl, fun i => if_neg (fun (q : b = a ∧ i = j) => hb (q.1 ▸ ha))⟩⟩
/-! readings that hit, readings that miss -/
theorem hI_hit (h : AH) (a j : Nat) (x : Int32) : hI (sI h a j x) a j = x := if_pos ⟨rfl, rfl⟩
theorem hL_hit (h : AH) (a j : Nat) (x : Int64) : hL (sL h a j x) a j = x := if_pos ⟨rfl, rfl⟩
theorem hR_hit (h : AH) (a j : Nat) (x : Option Nat) : hR (sR h a j x) a j = x := if_pos ⟨rfl, rfl⟩
theorem hI_off {h : AH} {a j : Nat} {x : Int32} {a' j' : Nat} (q : a' ≠ a ∨ j' ≠ j) : hI (sI h a j x) a' j' = hI h a' j' := if_neg fun z => by rcases q with q | q; exact q z.1; exact q z.2
theorem hL_off {h : AH} {a j : Nat} {x : Int64} {a' j' : Nat} (q : a' ≠ a ∨ j' ≠ j) : hL (sL h a j x) a' j' = hL h a' j' := if_neg fun z => by rcases q with q | q; exact q z.1; exact q z.2
theorem hR_off {h : AH} {a j : Nat} {x : Option Nat} {a' j' : Nat} (q : a' ≠ a ∨ j' ≠ j) : hR (sR h a j x) a' j' = hR h a' j' := if_neg fun z => by rcases q with q | q; exact q z.1; exact q z.2
/-! ints with their bounds open -/
theorem ylt {a b : Int} (h1 : -2147483648 ≤ a) (h2 : a < 2147483648) (h3 : -2147483648 ≤ b) (h4 : b < 2147483648) : (zI a < zI b) = (a < b) := propext (zI_lt ⟨h1, h2⟩ ⟨h3, h4⟩)
theorem yle {a b : Int} (h1 : -2147483648 ≤ a) (h2 : a < 2147483648) (h3 : -2147483648 ≤ b) (h4 : b < 2147483648) : (zI a ≤ zI b) = (a ≤ b) := propext (zI_le ⟨h1, h2⟩ ⟨h3, h4⟩)
theorem yeq {a b : Int} (h1 : -2147483648 ≤ a) (h2 : a < 2147483648) (h3 : -2147483648 ≤ b) (h4 : b < 2147483648) : (zI a = zI b) = (a = b) := propext (zI_eq ⟨h1, h2⟩ ⟨h3, h4⟩)
theorem ylt0 {a : Int} (h1 : -2147483648 ≤ a) (h2 : a < 2147483648) : (zI a < 0) = (a < 0) := propext (zI_lt0 ⟨h1, h2⟩)
theorem yle0 {a : Int} (h1 : -2147483648 ≤ a) (h2 : a < 2147483648) : (zI a ≤ 0) = (a ≤ 0) := propext (zI_le0 ⟨h1, h2⟩)
theorem yeq0 {a : Int} (h1 : -2147483648 ≤ a) (h2 : a < 2147483648) : (zI a = 0) = (a = 0) := propext (zI_eq0 ⟨h1, h2⟩)
theorem yshr {a : Int} {k : Int} (h0 : 0 ≤ a) (h1 : a < 2147483648) (k0 : 0 ≤ k) (k1 : k < 32) : zI a >>> (zI k &&& 31) = zI (a / 2 ^ k.toNat) := by
  obtain ⟨n, rfl⟩ : ∃ n : Nat, a = n := ⟨a.toNat, by omega⟩
  obtain ⟨m, rfl⟩ : ∃ n : Nat, k = n := ⟨k.toNat, by omega⟩
  rw [zI_shr (by omega) (by omega)]
  simp
theorem yshl {a : Int} {k : Int} (h0 : 0 ≤ a) (k0 : 0 ≤ k) (k1 : k < 32) : zI a <<< (zI k &&& 31) = zI (a * 2 ^ k.toNat) := by
  obtain ⟨n, rfl⟩ : ∃ n : Nat, a = n := ⟨a.toNat, by omega⟩
  obtain ⟨m, rfl⟩ : ∃ n : Nat, k = n := ⟨k.toNat, by omega⟩
  rw [zI_shl (by omega)]
  simp
theorem ydiv {a b : Int} (h0 : 0 ≤ a) (h1 : a < 2147483648) (k0 : 0 < b) (k1 : b < 2147483648) : zI a / zI b = zI (a / b) := by
  obtain ⟨n, rfl⟩ : ∃ n : Nat, a = n := ⟨a.toNat, by omega⟩
  obtain ⟨m, rfl⟩ : ∃ n : Nat, b = n := ⟨b.toNat, by omega⟩
  rw [zI_div (by omega) (by omega) (by omega)]
  simp
theorem yrem {a b : Int} (h0 : 0 ≤ a) (h1 : a < 2147483648) (k0 : 0 < b) (k1 : b < 2147483648) : zI a - zI a / zI b * zI b = zI (a % b) := by
  obtain ⟨n, rfl⟩ : ∃ n : Nat, a = n := ⟨a.toNat, by omega⟩
  obtain ⟨m, rfl⟩ : ∃ n : Nat, b = n := ⟨b.toNat, by omega⟩
  rw [zI_rem (by omega) (by omega) (by omega)]
  simp
/-- the last bits -/
theorem yand {a : Int} (k : Nat) (hk : k < 31) (h0 : 0 ≤ a) (h1 : a < 2147483648) : zI a &&& zI (2 ^ k - 1) = zI (a % 2 ^ k) := by
  obtain ⟨n, rfl⟩ : ∃ n : Nat, a = n := ⟨a.toNat, by omega⟩
  have hp : 2 ^ k ≤ 2 ^ 30 := Nat.pow_le_pow_right (by omega) (by omega)
  have hp1 : 1 ≤ 2 ^ k := Nat.one_le_two_pow
  have e : ((2 : Int) ^ k - 1) = ((2 ^ k - 1 : Nat) : Int) := by rw [Int.natCast_sub hp1]; simp
  rw [e, zI_and (by omega) (by omega), Nat.and_two_pow_sub_one_eq_mod]
  simp
theorem yand15 {a : Int} (h0 : 0 ≤ a) (h1 : a < 2147483648) : zI a &&& zI 15 = zI (a % 16) := yand 4 (by decide) h0 h1
theorem yand1 {a : Int} (h0 : 0 ≤ a) (h1 : a < 2147483648) : zI a &&& zI 1 = zI (a % 2) := yand 1 (by decide) h0 h1
theorem yand3 {a : Int} (h0 : 0 ≤ a) (h1 : a < 2147483648) : zI a &&& zI 3 = zI (a % 4) := yand 2 (by decide) h0 h1
theorem yand4095 {a : Int} (h0 : 0 ≤ a) (h1 : a < 2147483648) : zI a &&& zI 4095 = zI (a % 4096) := yand 12 (by decide) h0 h1
theorem yor {a b : Int} (h0 : 0 ≤ a) (h1 : a < 2147483648) (k0 : 0 ≤ b) (k1 : b < 2147483648) : zI a ||| zI b = zI ((a.toNat ||| b.toNat : Nat) : Int) := by
  obtain ⟨n, rfl⟩ : ∃ n : Nat, a = n := ⟨a.toNat, by omega⟩
  obtain ⟨m, rfl⟩ : ∃ n : Nat, b = n := ⟨b.toNat, by omega⟩
  rw [zI_or (by omega) (by omega)]
  rfl
