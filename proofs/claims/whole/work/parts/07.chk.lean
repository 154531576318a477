/-! the tables against the bytes: what is checked of an instruction, a block, a method -/
/-- the words that every method may carry -/
def gtbl : List Cond := lw_tbl.filter goodWord
def okW (pos : Nat) (w : Cond) : Bool := decide (lw_tbl[pos]? = some w) && goodWord w
theorem okW_m {pos : Nat} {w : Cond} (h : okW pos w = true) : w ∈ gtbl := by
  have h1 := Bool.and_eq_true_iff.mp h
  exact List.mem_filter.mpr ⟨List.mem_of_getElem? (of_decide_eq_true h1.1), h1.2⟩
/-- private constructors, called from the outer class -/
def NESTL : List Cond := [.methodLinkNest "NameReaders" 11 ⟨"NameReaders$Reader", "<init>", "()V"⟩ "NameReaders", .methodLinkNest "NameReaders" 24 ⟨"NameReaders$Text", "<init>", "()V"⟩ "NameReaders", .methodLinkNest "NameReaders" 31 ⟨"NameReaders$Row", "<init>", "()V"⟩ "NameReaders"]
def okT (P : List Nat) (t : Nat) (pc : Int) : Bool := match P[t]? with
  | some q => decide ((q : Int) = pc)
  | none => false
theorem okT_s {P : List Nat} {t : Nat} {pc : Int} (h : okT P t pc = true) : ∃ q : Nat, P[t]? = some q ∧ pc = (q : Int) := by
  unfold okT at h
  split at h
  · exact ⟨_, by assumption, (of_decide_eq_true h).symm⟩
  · cases h
/-- where the code names a text constant -/
def STRL : List (String × Nat × Nat) := [("NameReaders$Text", 40, 0), ("NameReaders$Text", 65, 1), ("NameReaders$Text", 67, 2), ("NameReaders$Text", 72, 3), ("NameReaders$Text", 74, 4), ("NameReaders$Text", 76, 5), ("NameReaders$Text", 78, 6), ("NameReaders$Text", 80, 7), ("NameReaders$Text", 82, 8)]
def okq1 (rs : List Nat) (f : Nat → Bool) : Bool := match rs with
  | a :: _ => f a
  | _ => false
def okq2 (rs : List Nat) (f : Nat → Nat → Bool) : Bool := match rs with
  | a :: b :: _ => f a b
  | _ => false
def okq4 (rs : List Nat) (f : Nat → Nat → Nat → Nat → Bool) : Bool := match rs with
  | a :: b :: c :: d :: _ => f a b c d
  | _ => false
def okq5 (rs : List Nat) (f : Nat → Nat → Nat → Nat → Nat → List Nat → Bool) : Bool := match rs with
  | a :: b :: c :: d :: e :: l => f a b c d e l
  | _ => false
/-- a field: its class, its place, its kind -/
def okF (own : String) (idx ci j kd pos : Nat) : Bool := match cls[ci]? with
  | some (C, T, N) => decide (j < N) && okW pos (.fieldLink own idx C (T j).2.1 (T j).2.2.1) && decide (fkk (tyF ci j) = kd) && decide ((T j).1 = C)
  | none => false
def okFin (own : String) (ini : Bool) (ci j : Nat) : Bool := match cls[ci]? with
  | some (_, T, _) => decide ((T j).2.2.2 = false) || (ini && decide ((T j).2.2.2 = true) && decide ((T j).1 = own))
  | none => false
/-- a callee: its link, its kind (0 on an object, 1 static, 2 a constructor), how many arguments -/
def okC (own : String) (idx c n pos kind : Nat) : Bool := match KT[c]? with
  | some K => decide (2 ≤ c) && okW pos (.methodLink own idx K.1) && decide (K.2.2.2.2.2.2.2[4]? = some kind) && decide (K.2.2.2.2.2.2.2[5]? = some n)
  | none => false
def okCN (own : String) (idx c n pos kind : Nat) : Bool := match KT[c]? with
  | some K => decide (2 ≤ c) && decide (Cond.methodLinkNest own idx K.1 "NameReaders" ∈ NESTL) && decide (K.2.2.2.2.2.2.2[4]? = some kind) && decide (K.2.2.2.2.2.2.2[5]? = some n)
  | none => false
def okCl (c ci : Nat) : Bool := match KT[c]? with
  | some K => (decide (ci = 100) && decide (K.1.cls = "java/lang/String")) || (match cls[ci]? with
    | some q => decide (K.1.cls = q.1)
    | none => false)
  | none => false
def okI (own : String) (nL : Nat) (ini : Bool) (rt : Option FieldType) (P : List Nat) (pc len : Nat) (it : CI) : Bool :=
  match it.1 with
  | .iconst _ => decide (len = 1)
  | .bipush n => decide (len = 2) && decide ((Int8.ofInt n).toInt32 = zI n)
  | .sipush n => decide (len = 3) && decide ((Int16.ofInt n).toInt32 = zI n)
  | .ldc i => decide (len = 2) && okq2 it.2.1 fun m n => if m = 0 then okW n (.constant own i (zI it.2.2)) else decide (n < 9) && decide ((own, i, n) ∈ STRL)
  | .ldc_w i => decide (len = 3) && okq2 it.2.1 fun _ n => okW n (.constant own i (zI it.2.2))
  | .ldc2_w i => decide (len = 3) && okq1 it.2.1 fun n => okW n (.constantLong own i (zL it.2.2))
  | .lconst _ | .aconst_null | .iload_n _ | .lload_n _ | .aload_n _ => decide (len = 1)
  | .iload _ | .lload _ | .aload _ => decide (len = 2)
  | .istore n | .astore n => decide (len = 2) && decide (n < nL)
  | .istore_n n | .astore_n n => decide (len = 1) && decide ((n : Nat) < nL)
  | .lstore n => decide (len = 2) && decide (n + 1 < nL)
  | .lstore_n n => decide (len = 1) && decide ((n : Nat) + 1 < nL)
  | .iinc n _ => decide (len = 3) && decide (n < nL)
  | .dup | .dup2 | .pop | .iadd | .isub | .imul | .idiv | .irem | .ineg | .iand | .ior | .ixor | .ishl | .ishr | .iushr => decide (len = 1)
  | .ladd | .lsub | .lneg | .land | .lor | .lxor | .lshl | .lshr | .lushr | .lcmp | .i2l | .l2i => decide (len = 1)
  | .iaload | .laload | .baload | .aaload | .iastore | .lastore | .bastore | .aastore | .arraylength => decide (len = 1)
  | .getfield i => decide (len = 3) && okq4 it.2.1 fun ci j kd pos => okF own i ci j kd pos
  | .putfield i => decide (len = 3) && okq4 it.2.1 fun ci j kd pos => okF own i ci j kd pos && okFin own ini ci j
  | .goto o => decide (len = 3) && okq1 it.2.1 fun t => okT P t (pc + o)
  | .ifCond _ o | .if_icmp _ o | .ifnull o | .ifnonnull o => decide (len = 3) && okq2 it.2.1 fun t f => okT P t (pc + o) && okT P f (pc + 3)
  | .tableswitch d _ _ offs => okq1 it.2.1 fun t => okT P t (pc + d) && decide (it.2.1.tail.length = offs.size) && ((List.range offs.size).all fun i => match it.2.1.tail[i]?, offs[i]? with
    | some t, some o => okT P t (pc + o)
    | _, _ => false)
  | .invokestatic i => decide (len = 3) && okq4 it.2.1 fun c n _ pos => if c = 1 then decide (n = 5) && okW pos (.methodLink own i arraycopyName) else if c = 4 then decide (n = 2) && okW pos (.methodLink own i Lib.Math.max.name) else if c = 5 then decide (n = 2) && okW pos (.methodLink own i Lib.MathLoose.min_long.x) else if c = 0 then decide (n = 2) && okW pos (.methodLink own i Lib.Math.min.name) else okC own i c n pos 1
  | .invokevirtual i => decide (len = 3) && okq5 it.2.1 fun c n ci _ pos _ => okC own i c n pos 0 && okCl c ci
  | .invokespecial i => decide (len = 3) && okq5 it.2.1 fun c n ci _ pos l => decide (ci ≠ 100) && if c = 0 then decide (n = 1) && okW pos (.methodLink own i Lib.objectInit) else match l with
    | [] => okC own i c n pos 2 && okCl c ci
    | _ => okCN own i c n pos 2 && okCl c ci
  | .new i => decide (len = 3) && okq2 it.2.1 fun ci pos => match cls[ci]? with
    | some q => okW pos (.classLink own i q.1)
    | none => false
  | .newarray ty => decide (len = 2) && okq1 it.2.1 fun kd => match ty with
    | .int => decide (kd = 0)
    | .long => decide (kd = 1)
    | .boolean => decide (kd = 2)
    | _ => false
  | .anewarray i => decide (len = 3) && okq1 it.2.1 fun pos => okW pos (.classLink own i RX7)
  | .ireturn => decide (len = 1) && okq1 it.2.1 fun z => if z = 0 then decide (rt = some .int) else decide (rt = some .boolean)
  | .lreturn => decide (len = 1) && decide (rt = some .long)
  | .areturn => decide (len = 1) && (match rt with
    | some (.object _) => true
    | some (.array _) => true
    | _ => false)
  | .return_ => decide (len = 1) && decide (rt = none)
  | _ => false
def isT : Instr → Bool
  | .goto _ | .ifCond _ _ | .if_icmp _ _ | .ifnull _ | .ifnonnull _ | .tableswitch _ _ _ _ | .ireturn | .lreturn | .areturn | .return_ => true
  | _ => false
def okL (own : String) (nL : Nat) (ini : Bool) (rt : Option FieldType) (P : List Nat) (cc : ByteArray) (nt : Nat) : Nat → List CI → Bool
  | pc, [] => okT P nt pc
  | pc, it :: is => match decode cc pc with
    | .ok (i, len) => decide (i = it.1) && okI own nL ini rt P pc len it && (isT it.1 || okL own nL ini rt P cc nt (pc + len) is)
    | _ => false
/-- a method's words -/
def okE (K : KE) : Bool := match K.2.2.2.2.2.2.2 with
  | [p0, p1, p2, p3, kd, n] => okW p0 (.code K.1 K.2.1 K.2.2.1 K.2.2.2.1) && (if kd = 1 then okW p1 (.static K.1) else okW p1 (.instanceMethod K.1)) && (if kd = 0 then okW p2 (.selects K.1.cls K.1 K.1) else true) && okW p3 (.initialized K.1.cls)
    && decide (K.1.cls ≠ "java/lang/invoke/MethodHandle") && decide (K.1.cls ≠ "java/lang/invoke/VarHandle") && decide ((parseMethodDescriptor K.1.desc).map (fun d => d.parameters.length) = some (if kd = 1 then n else n - 1)) && decide (K.2.2.1 ≤ 40) && plainName K.1.cls && (if kd = 1 then true else decide (1 ≤ n)) && (if kd = 2 then decide (K.1.name = "<init>") && decide (K.2.2.2.1 = none) else true)
  | _ => false
/-- a method's blocks -/
def okM (K : KE) : Bool := decide (K.2.2.2.2.2.2.1[0]? = some 0) && (List.range K.2.2.2.2.2.2.1.length).all fun b => match K.2.2.2.2.2.2.1[b]? with
  | some pc => okL K.1.cls K.2.2.1 (decide (K.1.name = "<init>")) K.2.2.2.1 K.2.2.2.2.2.2.1 K.2.1 (K.2.2.2.2.1 b).1 pc (K.2.2.2.2.1 b).2
  | none => false
