/-! THE ABSTRACT MACHINE: a method's code as blocks; values without addresses (a cell is its number); a pure heap.
    Its runs are carried to the machine's own in a later part; all reasoning of the two classes is done here. -/
abbrev AV : Type := Int32 ⊕ (Int64 ⊕ (Option Nat ⊕ Nat))
abbrev aI (x : Int32) : AV := .inl x
abbrev aL (x : Int64) : AV := .inr (.inl x)
abbrev aR (o : Option Nat) : AV := .inr (.inr (.inl o))
/-- the text constant n -/
abbrev aS (n : Nat) : AV := .inr (.inr (.inr (n + 1)))
/-- a local that is not known, or not needed any more -/
abbrev aU : AV := .inr (.inr (.inr 0))
/-- the cells' shapes (0 int[], 1 long[], 2 boolean[], 3 an array of objects, each with its length; 4 an object, with its class), and what they hold -/
abbrev AH : Type := List (Nat × Nat) × (Nat → Nat → Int32) × (Nat → Nat → Int64) × (Nat → Nat → Option Nat)
abbrev AR : Type := Option AV × AH
abbrev CI : Type := Instr × List Nat × Int
def zI (z : Int) : Int32 := Int32.ofInt z
def zL (z : Int) : Int64 := Int64.ofInt z
def hI (h : AH) (a j : Nat) : Int32 := h.2.1 a j
def hL (h : AH) (a j : Nat) : Int64 := h.2.2.1 a j
def hR (h : AH) (a j : Nat) : Option Nat := h.2.2.2 a j
def sI (h : AH) (a j : Nat) (x : Int32) : AH := (h.1, fun a' j' => if a' = a ∧ j' = j then x else h.2.1 a' j', h.2.2)
def sL (h : AH) (a j : Nat) (x : Int64) : AH := (h.1, h.2.1, fun a' j' => if a' = a ∧ j' = j then x else h.2.2.1 a' j', h.2.2.2)
def sR (h : AH) (a j : Nat) (x : Option Nat) : AH := (h.1, h.2.1, h.2.2.1, fun a' j' => if a' = a ∧ j' = j then x else h.2.2.2 a' j')
/-- a new cell: all that it holds is 0 or null -/
def nw (h : AH) (s : Nat × Nat) : AH := (h.1 ++ [s], fun a j => if a = h.1.length then 0 else h.2.1 a j, fun a j => if a = h.1.length then 0 else h.2.2.1 a j, fun a j => if a = h.1.length then none else h.2.2.2 a j)
/-- System.arraycopy between int arrays -/
def cpI (h : AH) (a b : Nat) (sp dp n : Nat) : AH := (h.1, fun a' j' => if a' = b then va_cpy (h.2.1 a) (h.2.1 b) sp dp n j' else h.2.1 a' j', h.2.2)
abbrev AK : Type := Nat → List AV → List AV → AH → Option AR
abbrev AC : Type := Nat → List AV → AH → Option AR
abbrev AT : Type := List AV → List AV → AH → Option AR
def popA : Nat → List AV → List AV → Option (List AV × List AV)
  | 0, acc, st => some (acc, st)
  | n + 1, acc, v :: st => popA n (v :: acc) st
  | _ + 1, _, [] => none
/-- what is behind a long that a store breaks -/
def clr (lv : List AV) : Nat → List AV
  | 0 => lv
  | j + 1 => match lv[j]? with
    | some (.inr (.inl _)) => lv.set j aU
    | _ => lv
def st1 (lv : List AV) (i : Nat) (v : AV) : List AV := (clr lv i).set i v
def st2 (lv : List AV) (i : Nat) (v : AV) : List AV := ((clr lv i).set i v).set (i + 1) aU
def msk : List Bool → List AV → List AV
  | true :: bs, v :: vs => v :: msk bs vs
  | false :: bs, _ :: vs => aU :: msk bs vs
  | [], _ :: vs => aU :: msk [] vs
  | _, [] => []
def ldI (lv : List AV) (n : Nat) (f : Int32 → Option AR) : Option AR := match lv[n]? with
  | some (.inl x) => f x
  | _ => none
def ldL (lv : List AV) (n : Nat) (f : Int64 → Option AR) : Option AR := match lv[n]? with
  | some (.inr (.inl x)) => f x
  | _ => none
def ldA (lv : List AV) (n : Nat) (f : AV → Option AR) : Option AR := match lv[n]? with
  | some (.inr (.inr (.inl o))) => f (aR o)
  | some (.inr (.inr (.inr (k + 1)))) => f (aS k)
  | _ => none
/-- the place i of an array of that kind -/
def idx (h : AH) (kd : Nat) (o : Option Nat) (i : Int32) (f : Nat → Nat → Option AR) : Option AR := match o with
  | none => none
  | some a => match h.1[a]? with
    | some (k, n) => if k = kd ∧ ¬ (i < 0 ∨ n ≤ i.toNatClampNeg) then f a i.toNatClampNeg else none
    | none => none
/-- an object of that class -/
def obj (h : AH) (ci : Nat) (o : Option Nat) (f : Nat → Option AR) : Option AR := match o with
  | none => none
  | some a => if h.1[a]? = some (4, ci) then f a else none
def ifz (cd : ClassFile.Cond) (x : Int32) (a b : Option AR) : Option AR := match cd with
  | .eq => if x = 0 then a else b
  | .ne => if x = 0 then b else a
  | .lt => if x < 0 then a else b
  | .ge => if x < 0 then b else a
  | .gt => if x ≤ 0 then b else a
  | .le => if x ≤ 0 then a else b
def ifc (cd : ClassFile.Cond) (x y : Int32) (a b : Option AR) : Option AR := match cd with
  | .eq => if x = y then a else b
  | .ne => if x = y then b else a
  | .lt => if x < y then a else b
  | .ge => if x < y then b else a
  | .gt => if x ≤ y then b else a
  | .le => if x ≤ y then a else b
/-- a field's kind: 0 int, 1 long, 2 a reference, 3 boolean -/
def gtf (h : AH) (a j : Nat) : Nat → Option AV
  | 0 => some (aI (hI h a j))
  | 1 => some (aL (hL h a j))
  | 2 => some (aR (hR h a j))
  | 3 => some (aI (hI h a j))
  | _ => none
def ptf (h : AH) (a j : Nat) : Nat → AV → Option AH
  | 0, .inl x => some (sI h a j x)
  | 1, .inr (.inl x) => some (sL h a j x)
  | 2, .inr (.inr (.inl o)) => some (sR h a j o)
  | 3, .inl x => if x = 0 ∨ x = 1 then some (sI h a j x) else none
  | _, _ => none
def cat1 : AV → Bool
  | .inr (.inl _) => false
  | .inr (.inr (.inr 0)) => false
  | _ => true
def p1I (st : List AV) (f : Int32 → List AV → Option AR) : Option AR := match st with
  | .inl x :: st => f x st
  | _ => none
def p1L (st : List AV) (f : Int64 → List AV → Option AR) : Option AR := match st with
  | .inr (.inl x) :: st => f x st
  | _ => none
def p1R (st : List AV) (f : Option Nat → List AV → Option AR) : Option AR := match st with
  | .inr (.inr (.inl o)) :: st => f o st
  | _ => none
def p1V (st : List AV) (f : AV → List AV → Option AR) : Option AR := match st with
  | v :: st => f v st
  | _ => none
def p2I (st : List AV) (f : Int32 → Int32 → List AV → Option AR) : Option AR := match st with
  | .inl y :: .inl x :: st => f x y st
  | _ => none
def p2L (st : List AV) (f : Int64 → Int64 → List AV → Option AR) : Option AR := match st with
  | .inr (.inl y) :: .inr (.inl x) :: st => f x y st
  | _ => none
def pLI (st : List AV) (f : Int64 → Int32 → List AV → Option AR) : Option AR := match st with
  | .inl y :: .inr (.inl x) :: st => f x y st
  | _ => none
def pRI (st : List AV) (f : Option Nat → Int32 → List AV → Option AR) : Option AR := match st with
  | .inl i :: .inr (.inr (.inl o)) :: st => f o i st
  | _ => none
def nil (st : List AV) (x : Option AR) : Option AR := match st with
  | [] => x
  | _ => none
def rs1 (rs : List Nat) (f : Nat → Option AR) : Option AR := match rs with
  | a :: _ => f a
  | _ => none
def rs2 (rs : List Nat) (f : Nat → Nat → Option AR) : Option AR := match rs with
  | a :: b :: _ => f a b
  | _ => none
def rs3 (rs : List Nat) (f : Nat → Nat → Nat → Option AR) : Option AR := match rs with
  | a :: b :: c :: _ => f a b c
  | _ => none
def rs4 (rs : List Nat) (f : Nat → Nat → Nat → Nat → Option AR) : Option AR := match rs with
  | a :: b :: c :: d :: _ => f a b c d
  | _ => none
def rsL (rs : List Nat) (f : Nat → List Nat → Option AR) : Option AR := match rs with
  | a :: l => f a l
  | _ => none
def mb {α : Type} (o : Option α) (f : α → Option AR) : Option AR := match o with
  | some a => f a
  | none => none
/-- what a call gives back: nothing, an int, a long, a reference -/
def calV (o : Option AR) (f : AH → Option AR) : Option AR := match o with
  | some (none, h') => f h'
  | _ => none
def calI (o : Option AR) (f : Int32 → AH → Option AR) : Option AR := match o with
  | some (some (.inl x), h') => f x h'
  | _ => none
def calL (o : Option AR) (f : Int64 → AH → Option AR) : Option AR := match o with
  | some (some (.inr (.inl x)), h') => f x h'
  | _ => none
def calR (o : Option AR) (f : Option Nat → AH → Option AR) : Option AR := match o with
  | some (some (.inr (.inr (.inl x))), h') => f x h'
  | _ => none
def cal (o : Option AR) (st : List AV) (k : List AV → AH → Option AR) : Nat → Option AR
  | 0 => calV o fun h' => k st h'
  | 1 => calI o fun x h' => k (aI x :: st) h'
  | 2 => calL o fun x h' => k (aL x :: st) h'
  | _ => calR o fun x h' => k (aR x :: st) h'
/-- how many words a stack takes -/
def wt : List AV → Nat
  | [] => 0
  | .inr (.inl _) :: st => 2 + wt st
  | _ :: st => 1 + wt st
/-- a call's arguments, and what is left of the stack: eight words at most -/
def popW (n : Nat) (st : List AV) : Option (List AV × List AV) := match popA n [] st with
  | some (as, st) => match Nat.ble (wt st) 8 with
    | true => some (as, st)
    | false => none
  | none => none
def pop (n : Nat) (st : List AV) (f : List AV → List AV → Option AR) : Option AR := match popW n st with
  | some (as, st) => f as st
  | none => none
/-- a call on an object, or on a text constant -/
def rcv (h : AH) (ci : Nat) (as : List AV) (x : Option AR) : Option AR := match as with
  | .inr (.inr (.inl o)) :: _ => obj h ci o fun _ => x
  | .inr (.inr (.inr (q + 1))) :: _ => if ci = 100 ∧ q < 9 then x else none
  | _ => none
def aln (h : AH) (a : Nat) : Option Nat := match h.1[a]? with
  | some (0, n) => some n
  | some (1, n) => some n
  | some (2, n) => some n
  | some (3, n) => some n
  | _ => none
/-- a name for a value -/
def lt {α : Type} (x : α) (f : α → Option AR) : Option AR := f x
/-- a new cell, and the heap with it -/
def newC (h : AH) (s : Nat × Nat) (f : Nat → AH → Option AR) : Option AR := f h.1.length (nw h s)
/-- an answer: 0 int, else boolean -/
def rtI (z : Nat) (x : Int32) (h : AH) : Option AR := match z with
  | 0 => some (some (aI x), h)
  | _ => if x = 0 ∨ x = 1 then some (some (aI x), h) else none
/-- one instruction, and what comes behind it -/
def ev1 (C : AC) (K : AK) (lm : Nat → List Bool) (it : CI) (lv st : List AV) (h : AH) (k : AT) : Option AR :=
  match it.1 with
  | .iconst n => k lv (aI (zI n) :: st) h
  | .bipush n => k lv (aI (zI n) :: st) h
  | .sipush n => k lv (aI (zI n) :: st) h
  | .ldc _ => rs2 it.2.1 fun m n => if m = 0 then k lv (aI (zI it.2.2) :: st) h else k lv (aS n :: st) h
  | .ldc_w _ => k lv (aI (zI it.2.2) :: st) h
  | .ldc2_w _ => k lv (aL (zL it.2.2) :: st) h
  | .lconst n => k lv (aL (zL (n : Nat)) :: st) h
  | .aconst_null => k lv (aR none :: st) h
  | .iload n => ldI lv n fun x => k lv (aI x :: st) h
  | .iload_n n => ldI lv n fun x => k lv (aI x :: st) h
  | .lload n => ldL lv n fun x => k lv (aL x :: st) h
  | .lload_n n => ldL lv n fun x => k lv (aL x :: st) h
  | .aload n => ldA lv n fun x => k lv (x :: st) h
  | .aload_n n => ldA lv n fun x => k lv (x :: st) h
  | .istore n => p1I st fun x st => lt x fun x => k (st1 lv n (aI x)) st h
  | .istore_n n => p1I st fun x st => lt x fun x => k (st1 lv n (aI x)) st h
  | .lstore n => p1L st fun x st => lt x fun x => k (st2 lv n (aL x)) st h
  | .lstore_n n => p1L st fun x st => lt x fun x => k (st2 lv n (aL x)) st h
  | .astore n => p1R st fun o st => k (st1 lv n (aR o)) st h
  | .astore_n n => p1R st fun o st => k (st1 lv n (aR o)) st h
  | .iinc n z => ldI lv n fun x => lt (x + zI z) fun x => k (st1 lv n (aI x)) st h
  | .dup => p1V st fun v st => if cat1 v = true then k lv (v :: v :: st) h else none
  | .dup2 => pRI st fun o i st => k lv (aI i :: aR o :: aI i :: aR o :: st) h
  | .pop => p1V st fun v st => if cat1 v = true then k lv st h else none
  | .iadd => p2I st fun x y st => k lv (aI (x + y) :: st) h
  | .isub => p2I st fun x y st => k lv (aI (x - y) :: st) h
  | .imul => p2I st fun x y st => k lv (aI (x * y) :: st) h
  | .idiv => p2I st fun x y st => if y = 0 then none else k lv (aI (x / y) :: st) h
  | .irem => p2I st fun x y st => if y = 0 then none else k lv (aI (x - x / y * y) :: st) h
  | .ineg => p1I st fun x st => k lv (aI (-x) :: st) h
  | .iand => p2I st fun x y st => k lv (aI (x &&& y) :: st) h
  | .ior => p2I st fun x y st => k lv (aI (x ||| y) :: st) h
  | .ixor => p2I st fun x y st => k lv (aI (x ^^^ y) :: st) h
  | .ishl => p2I st fun x y st => k lv (aI (x <<< (y &&& 31)) :: st) h
  | .ishr => p2I st fun x y st => k lv (aI (x >>> (y &&& 31)) :: st) h
  | .iushr => p2I st fun x y st => k lv (aI ((x.toUInt32 >>> (y.toUInt32 &&& Int32.toUInt32 31)).toInt32) :: st) h
  | .ladd => p2L st fun x y st => k lv (aL (x + y) :: st) h
  | .lsub => p2L st fun x y st => k lv (aL (x - y) :: st) h
  | .lneg => p1L st fun x st => k lv (aL (-x) :: st) h
  | .land => p2L st fun x y st => k lv (aL (x &&& y) :: st) h
  | .lor => p2L st fun x y st => k lv (aL (x ||| y) :: st) h
  | .lxor => p2L st fun x y st => k lv (aL (x ^^^ y) :: st) h
  | .lshl => pLI st fun x y st => k lv (aL (x <<< (y.toInt64 &&& 63)) :: st) h
  | .lshr => pLI st fun x y st => k lv (aL (x >>> (y.toInt64 &&& 63)) :: st) h
  | .lushr => pLI st fun x y st => k lv (aL ((x.toUInt64 >>> (y.toInt64.toUInt64 &&& Int64.toUInt64 63)).toInt64) :: st) h
  | .lcmp => p2L st fun x y st => k lv (aI (lg_cmp x y) :: st) h
  | .i2l => p1I st fun x st => k lv (aL x.toInt64 :: st) h
  | .l2i => p1L st fun x st => k lv (aI x.toInt32 :: st) h
  | .getfield _ => rs3 it.2.1 fun ci j kd => p1R st fun o st => obj h ci o fun a => mb (gtf h a j kd) fun v => k lv (v :: st) h
  | .putfield _ => rs3 it.2.1 fun ci j kd => p1V st fun v st => p1R st fun o st => obj h ci o fun a => mb (ptf h a j kd v) fun h' => k lv st h'
  | .iaload => pRI st fun o i st => idx h 0 o i fun a j => k lv (aI (hI h a j) :: st) h
  | .laload => pRI st fun o i st => idx h 1 o i fun a j => k lv (aL (hL h a j) :: st) h
  | .baload => pRI st fun o i st => idx h 2 o i fun a j => k lv (aI (hI h a j) :: st) h
  | .aaload => pRI st fun o i st => idx h 3 o i fun a j => k lv (aR (hR h a j) :: st) h
  | .iastore => p1I st fun x st => pRI st fun o i st => idx h 0 o i fun a j => lt (sI h a j x) fun h => k lv st h
  | .lastore => p1L st fun x st => pRI st fun o i st => idx h 1 o i fun a j => lt (sL h a j x) fun h => k lv st h
  | .bastore => p1I st fun x st => pRI st fun o i st => if x = 0 ∨ x = 1 then idx h 2 o i fun a j => lt (sI h a j x) fun h => k lv st h else none
  | .aastore => p1R st fun v st => pRI st fun o i st => obj h 7 v fun q => idx h 3 o i fun a j => lt (sR h a j (some q)) fun h => k lv st h
  | .arraylength => p1R st fun o st => mb o fun a => mb (aln h a) fun n => k lv (aI (nI n) :: st) h
  | .goto _ => rs1 it.2.1 fun t => K t (msk (lm t) lv) st h
  | .ifCond cd _ => rs2 it.2.1 fun t f => p1I st fun x st => ifz cd x (K t (msk (lm t) lv) st h) (K f (msk (lm f) lv) st h)
  | .if_icmp cd _ => rs2 it.2.1 fun t f => p2I st fun x y st => ifc cd x y (K t (msk (lm t) lv) st h) (K f (msk (lm f) lv) st h)
  | .ifnull _ => rs2 it.2.1 fun t f => p1R st fun o st => if o = none then K t (msk (lm t) lv) st h else K f (msk (lm f) lv) st h
  | .ifnonnull _ => rs2 it.2.1 fun t f => p1R st fun o st => if o = none then K f (msk (lm f) lv) st h else K t (msk (lm t) lv) st h
  | .tableswitch _ lo hi _ => rsL it.2.1 fun d ts => p1I st fun x st => if x.toInt < lo ∨ hi < x.toInt then K d (msk (lm d) lv) st h else mb (ts[(x.toInt - lo).toNat]?) fun t => K t (msk (lm t) lv) st h
  | .invokestatic _ => rs3 it.2.1 fun c n rk => pop n st fun as st => cal (C c as h) st (k lv) rk
  | .invokevirtual _ => rs4 it.2.1 fun c n ci rk => pop n st fun as st => rcv h ci as (cal (C c as h) st (k lv) rk)
  | .invokespecial _ => rs4 it.2.1 fun c n ci rk => pop n st fun as st => rcv h ci as (if c = 0 then k lv st h else cal (C c as h) st (k lv) rk)
  | .new _ => rs1 it.2.1 fun ci => newC h (4, ci) fun a h => k lv (aR (some a) :: st) h
  | .newarray _ => rs1 it.2.1 fun kd => p1I st fun x st => if x < 0 ∨ zI 1000000 < x then none else newC h (kd, x.toNatClampNeg) fun a h => k lv (aR (some a) :: st) h
  | .anewarray _ => p1I st fun x st => if x < 0 ∨ zI 1000000 < x then none else newC h (3, x.toNatClampNeg) fun a h => k lv (aR (some a) :: st) h
  | .ireturn => rs1 it.2.1 fun z => p1I st fun x st => nil st (rtI z x h)
  | .lreturn => p1L st fun x st => nil st (some (some (aL x), h))
  | .areturn => p1R st fun o st => nil st (some (some (aR o), h))
  | .return_ => nil st (some (none, h))
  | _ => none
