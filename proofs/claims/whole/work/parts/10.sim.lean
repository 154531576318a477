/-! the abstract machine is carried to the machine: what a method's frame stands for, row by row -/
def nfl (ci : Nat) : Nat := match cls[ci]? with
  | some q => q.2.2
  | none => 0
def szS (s : Nat × Nat) : Nat := if s.1 = 4 then nfl s.2 else s.2
def tsz (l : List (Nat × Nat)) : Nat := (l.map szS).sum
theorem tsz_app (l : List (Nat × Nat)) (s : Nat × Nat) : tsz (l ++ [s]) = tsz l + szS s := by simp [tsz]
def LEN : List Nat := TX.map List.length
def BYT : List (List Int32) := TX.map fun t => t.map nI
/-- the text constants, and what String asks for -/
def EV (ad av : Nat → Nat) (A : Nat → Prop) (U : State) (H : Heap) : Prop :=
  vk_S 9 LEN BYT ad av A U H ∧ va_Z "java/lang/String" "COMPACT_STRINGS" "Z" (.int 1) A U H ∧ (∀ q ∈ STRL, ∃ tx, vk_R q.1 q.2.1 tx (ad q.2.2) U) ∧ (∀ w ∈ NESTL, va_Nw w U) ∧ va_AO RX7 U ∧ va_Zq "jdk/internal/util/Preconditions" "SIOOBE_FORMATTER" "Ljava/util/function/BiFunction;" A U H
def SM (p : Program) (l : Launch) (e : Env) (R : Room) (s : State) (m : MethodId) (args : Array Value) (below : List Frame) (meth : Method) (c : Code) (nL : Nat) (D : va_G) (ad : Nat → Nat) (A : Nat → Prop) (w0 : va_W) (n0 s0 : Nat) (Q : State → Prop) (pc : Nat) (lv st : List AV) (h : AH) : Prop :=
  ∀ (H : Heap) (locs : List Loc) (ls : Array Slot) (ws : va_W) (sv : List Value), va_P D cls ws H → va_D A ws → wrl s D ad ws h → va_S A s.heap H locs → xt w0 ws → lrl ad ws lv ls nL → srl ad ws st sv → n0 ≤ h.1.length → s0 ≤ tsz h.1 →
    W p l e R s m args below meth c H locs (h.1.length - n0) (tsz h.1 - s0) Q (F0 m pc ls sv)
def CX (p : Program) (s : State) (m : MethodId) (args : Array Value) (meth : Method) (c : Code) (cc : ByteArray) (nL : Nat) (own : String) (ini : Bool) (rt : Option FieldType) (D : va_G) (A : Nat → Prop) (ad av : Nat → Nat) : Prop :=
  p.tables.exec = Jvm.exec ∧ c.code = cc ∧ c.maxLocals = nL ∧ s.vm.findClass own = some m.cls ∧ (∀ w ∈ gtbl, w.before args s = true) ∧ va_K D cls [] s ∧ (∀ q, s.heap.size ≤ q → A q) ∧ EV ad av A s s.heap ∧ meth.sig.returnType = rt ∧ meth.locks = false ∧ (ini = true → meth.name = "<init>")
theorem aI_ne (x : Int32) : aI x ≠ aU := nofun
theorem aL_ne (x : Int64) : aL x ≠ aU := nofun
theorem aR_ne (x : Option Nat) : aR x ≠ aU := nofun
theorem aS_ne (x : Nat) : aS x ≠ aU := fun h => by injection h with h; injection h with h; injection h with h; cases h
theorem srlI {ad : Nat → Nat} {ws : va_W} {x : Int32} {st : List AV} {sv : List Value} (h : srl ad ws (aI x :: st) sv) : ∃ sv', sv = .int x :: sv' ∧ srl ad ws st sv' := by
  cases sv with
  | nil => exact h.elim
  | cons v sv => exact ⟨sv, by rw [show v = _ from h.1.2], h.2⟩
theorem srlL {ad : Nat → Nat} {ws : va_W} {x : Int64} {st : List AV} {sv : List Value} (h : srl ad ws (aL x :: st) sv) : ∃ sv', sv = .long x :: sv' ∧ srl ad ws st sv' := by
  cases sv with
  | nil => exact h.elim
  | cons v sv => exact ⟨sv, by rw [show v = _ from h.1.2], h.2⟩
theorem srlR {ad : Nat → Nat} {ws : va_W} {o : Option Nat} {st : List AV} {sv : List Value} (h : srl ad ws (aR o :: st) sv) : ∃ o' sv', sv = va_rf o' :: sv' ∧ orl ws o o' ∧ srl ad ws st sv' := by
  cases sv with
  | nil => exact h.elim
  | cons v sv => obtain ⟨o', h1, h2⟩ := h.1.2; exact ⟨o', sv, by rw [h2], h1, h.2⟩
theorem srlV {ad : Nat → Nat} {ws : va_W} {a : AV} {st : List AV} {sv : List Value} (h : srl ad ws (a :: st) sv) : ∃ v sv', sv = v :: sv' ∧ a ≠ aU ∧ vrl ad ws a v ∧ srl ad ws st sv' := by
  cases sv with
  | nil => exact h.elim
  | cons v sv => exact ⟨v, sv, rfl, h.1.1, h.1.2, h.2⟩
theorem srlN {ad : Nat → Nat} {ws : va_W} {sv : List Value} (h : srl ad ws [] sv) : sv = [] := by
  cases sv with
  | nil => rfl
  | cons v sv => exact h.elim
/-- a reference to a cell that is there -/
theorem srlA {ad : Nat → Nat} {ws : va_W} {a q : Nat} {st : List AV} {sv : List Value} (h : srl ad ws (aR (some a) :: st) sv) (hq : adr ws a = some q) : ∃ sv', sv = .ref q :: sv' ∧ srl ad ws st sv' := by
  obtain ⟨o', sv', h1, ⟨q', h2, h3⟩, h4⟩ := srlR h
  rw [hq] at h2
  cases h2
  subst h3
  exact ⟨sv', h1, h4⟩
theorem gtf_ne {h : AH} {a j kd : Nat} {v : AV} (e : gtf h a j kd = some v) : v ≠ aU := by
  match kd, e with
  | 0, e => cases e; exact aI_ne _
  | 1, e => cases e; exact aL_ne _
  | 2, e => cases e; exact aR_ne _
  | 3, e => cases e; exact aI_ne _
theorem okq1_s {rs : List Nat} {f : Nat → Bool} (h : okq1 rs f = true) : ∃ a l, rs = a :: l ∧ f a = true := by
  unfold okq1 at h
  split at h
  · exact ⟨_, _, rfl, h⟩
  · cases h
theorem okq2_s {rs : List Nat} {f : Nat → Nat → Bool} (h : okq2 rs f = true) : ∃ a b l, rs = a :: b :: l ∧ f a b = true := by
  unfold okq2 at h
  split at h
  · exact ⟨_, _, _, rfl, h⟩
  · cases h
theorem okq4_s {rs : List Nat} {f : Nat → Nat → Nat → Nat → Bool} (h : okq4 rs f = true) : ∃ a b c d l, rs = a :: b :: c :: d :: l ∧ f a b c d = true := by
  unfold okq4 at h
  split at h
  · exact ⟨_, _, _, _, _, rfl, h⟩
  · cases h
theorem okq5_s {rs : List Nat} {f : Nat → Nat → Nat → Nat → Nat → List Nat → Bool} (h : okq5 rs f = true) : ∃ a b c d e l, rs = a :: b :: c :: d :: e :: l ∧ f a b c d e l = true := by
  unfold okq5 at h
  split at h
  · exact ⟨_, _, _, _, _, _, rfl, h⟩
  · cases h
theorem and_s {a b : Bool} (h : (a && b) = true) : a = true ∧ b = true := by
  cases a <;> cases b <;> simp_all
theorem okF_s {own : String} {idx ci j kd pos : Nat} (h : okF own idx ci j kd pos = true) : ∃ q : vw_C, cls[ci]? = some q ∧ j < q.2.2 ∧ Cond.fieldLink own idx q.1 (q.2.1 j).2.1 (q.2.1 j).2.2.1 ∈ gtbl ∧ fkk (tyF ci j) = kd ∧ (q.2.1 j).1 = q.1 := by
  unfold okF at h
  split at h
  · rename_i C T N e
    obtain ⟨h, h4⟩ := and_s h
    obtain ⟨h, h3⟩ := and_s h
    obtain ⟨h1, h2⟩ := and_s h
    exact ⟨_, e, of_decide_eq_true h1, okW_m h2, of_decide_eq_true h3, of_decide_eq_true h4⟩
  · cases h
theorem okFin_s {own : String} {ini : Bool} {ci j : Nat} {q : vw_C} (hq : cls[ci]? = some q) (h : okFin own ini ci j = true) : (q.2.1 j).2.2.2 = false ∨ (ini = true ∧ (q.2.1 j).2.2.2 = true ∧ (q.2.1 j).1 = own) := by
  unfold okFin at h
  rw [hq] at h
  simp only [Bool.or_eq_true, Bool.and_eq_true, decide_eq_true_eq] at h
  rcases h with h | ⟨⟨h1, h2⟩, h3⟩
  · exact Or.inl h
  · exact Or.inr ⟨h1, h2, h3⟩
set_option maxRecDepth 100000 in
theorem inw0 : ∀ w ∈ u_ws RX0 TX0 13, w ∈ gtbl := by decide +kernel
set_option maxRecDepth 100000 in
theorem ins0 : Cond.instantiable RX0 13 ∈ gtbl ∧ Cond.initialized RX0 ∈ gtbl := by decide +kernel
set_option maxRecDepth 100000 in
theorem inw1 : ∀ w ∈ u_ws RX1 TX1 9, w ∈ gtbl := by decide +kernel
set_option maxRecDepth 100000 in
theorem ins1 : Cond.instantiable RX1 9 ∈ gtbl ∧ Cond.initialized RX1 ∈ gtbl := by decide +kernel
set_option maxRecDepth 100000 in
theorem inw2 : ∀ w ∈ u_ws RX2 TX2 6, w ∈ gtbl := by decide +kernel
set_option maxRecDepth 100000 in
theorem ins2 : Cond.instantiable RX2 6 ∈ gtbl ∧ Cond.initialized RX2 ∈ gtbl := by decide +kernel
set_option maxRecDepth 100000 in
theorem inw3 : ∀ w ∈ u_ws RX3 TX3 6, w ∈ gtbl := by decide +kernel
set_option maxRecDepth 100000 in
theorem ins3 : Cond.instantiable RX3 6 ∈ gtbl ∧ Cond.initialized RX3 ∈ gtbl := by decide +kernel
set_option maxRecDepth 100000 in
theorem inw4 : ∀ w ∈ u_ws RX4 TX4 7, w ∈ gtbl := by decide +kernel
set_option maxRecDepth 100000 in
theorem ins4 : Cond.instantiable RX4 7 ∈ gtbl ∧ Cond.initialized RX4 ∈ gtbl := by decide +kernel
set_option maxRecDepth 100000 in
theorem inw5 : ∀ w ∈ u_ws RX5 TX5 8, w ∈ gtbl := by decide +kernel
set_option maxRecDepth 100000 in
theorem ins5 : Cond.instantiable RX5 8 ∈ gtbl ∧ Cond.initialized RX5 ∈ gtbl := by decide +kernel
set_option maxRecDepth 100000 in
theorem inw6 : ∀ w ∈ u_ws RX6 TX6 8, w ∈ gtbl := by decide +kernel
set_option maxRecDepth 100000 in
theorem ins6 : Cond.instantiable RX6 8 ∈ gtbl ∧ Cond.initialized RX6 ∈ gtbl := by decide +kernel
set_option maxRecDepth 100000 in
theorem inw7 : ∀ w ∈ u_ws RX7 TX7 4, w ∈ gtbl := by decide +kernel
set_option maxRecDepth 100000 in
theorem ins7 : Cond.instantiable RX7 4 ∈ gtbl ∧ Cond.initialized RX7 ∈ gtbl := by decide +kernel
set_option maxRecDepth 100000 in
theorem inw8 : ∀ w ∈ u_ws RX8 TX8 6, w ∈ gtbl := by decide +kernel
set_option maxRecDepth 100000 in
theorem ins8 : Cond.instantiable RX8 6 ∈ gtbl ∧ Cond.initialized RX8 ∈ gtbl := by decide +kernel
set_option maxRecDepth 100000 in
theorem inw9 : ∀ w ∈ u_ws RX9 TX9 5, w ∈ gtbl := by decide +kernel
set_option maxRecDepth 100000 in
theorem ins9 : Cond.instantiable RX9 5 ∈ gtbl ∧ Cond.initialized RX9 ∈ gtbl := by decide +kernel
set_option maxRecDepth 100000 in
theorem inw10 : ∀ w ∈ u_ws RX10 TX10 11, w ∈ gtbl := by decide +kernel
set_option maxRecDepth 100000 in
theorem ins10 : Cond.instantiable RX10 11 ∈ gtbl ∧ Cond.initialized RX10 ∈ gtbl := by decide +kernel
set_option maxRecDepth 100000 in
theorem inw11 : ∀ w ∈ u_ws RX11 TX11 56, w ∈ gtbl := by decide +kernel
set_option maxRecDepth 100000 in
theorem ins11 : Cond.instantiable RX11 56 ∈ gtbl ∧ Cond.initialized RX11 ∈ gtbl := by decide +kernel
/-- what the tables say of a class -/
def clsP (ci : Nat) (q : vw_C) : Prop := (∀ w ∈ u_ws q.1 q.2.1 q.2.2, w ∈ gtbl) ∧ (∀ k, k < q.2.2 → parseFieldDescriptor (q.2.1 k).2.2.1 = some (tyF ci k)) ∧ (∀ a, a < q.2.2 → ∀ b, b < q.2.2 → a ≠ b → (q.2.1 a).2.1 ≠ (q.2.1 b).2.1) ∧ Cond.instantiable q.1 q.2.2 ∈ gtbl ∧ Cond.initialized q.1 ∈ gtbl
theorem clsOK : ∀ {ci : Nat} {q : vw_C}, cls[ci]? = some q → clsP ci q
  | 0, _, h => by cases h; exact ⟨inw0, tyX0_ok, nmX0, ins0.1, ins0.2⟩
  | 1, _, h => by cases h; exact ⟨inw1, tyX1_ok, nmX1, ins1.1, ins1.2⟩
  | 2, _, h => by cases h; exact ⟨inw2, tyX2_ok, nmX2, ins2.1, ins2.2⟩
  | 3, _, h => by cases h; exact ⟨inw3, tyX3_ok, nmX3, ins3.1, ins3.2⟩
  | 4, _, h => by cases h; exact ⟨inw4, tyX4_ok, nmX4, ins4.1, ins4.2⟩
  | 5, _, h => by cases h; exact ⟨inw5, tyX5_ok, nmX5, ins5.1, ins5.2⟩
  | 6, _, h => by cases h; exact ⟨inw6, tyX6_ok, nmX6, ins6.1, ins6.2⟩
  | 7, _, h => by cases h; exact ⟨inw7, tyX7_ok, nmX7, ins7.1, ins7.2⟩
  | 8, _, h => by cases h; exact ⟨inw8, tyX8_ok, nmX8, ins8.1, ins8.2⟩
  | 9, _, h => by cases h; exact ⟨inw9, tyX9_ok, nmX9, ins9.1, ins9.2⟩
  | 10, _, h => by cases h; exact ⟨inw10, tyX10_ok, nmX10, ins10.1, ins10.2⟩
  | 11, _, h => by cases h; exact ⟨inw11, tyX11_ok, nmX11, ins11.1, ins11.2⟩
  | n + 12, q, h => by simp [cls] at h
