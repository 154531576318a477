def B_Tx_number : BT := fun b => match b with
  | 0 => (1, [(.aload_n 0, [], 0), (.invokevirtual 37, [k_Tx_advance, 1, 8, 0, 501], 0), (.aload_n 0, [], 0), (.getfield 28, [8, 5, 0, 149], 0), (.aload_n 0, [], 0), (.getfield 25, [8, 4, 0, 148], 0), (.isub, [], 0), (.iconst 1, [], 0), (.if_icmp .ne 19, [2, 1], 0)])
  | 1 => (2, [(.aload_n 0, [], 0), (.getfield 9, [8, 0, 2, 144], 0), (.aload_n 0, [], 0), (.getfield 25, [8, 4, 0, 148], 0), (.iaload, [], 0), (.invokestatic 69, [k_Tx_kindOf, 1, 1, 505], 0), (.iconst 1, [], 0), (.if_icmp .eq 5, [3, 2], 0)])
  | 2 => (3, [(.iconst (-1), [], 0), (.ireturn, [0], 0)])
  | 3 => (4, [(.aload_n 0, [], 0), (.getfield 9, [8, 0, 2, 144], 0), (.aload_n 0, [], 0), (.getfield 25, [8, 4, 0, 148], 0), (.iaload, [], 0), (.bipush 48, [], 0), (.isub, [], 0), (.istore_n 2, [], 0), (.iload_n 2, [], 0), (.iload_n 1, [], 0), (.if_icmp .ge 7, [5, 4], 0)])
  | 4 => (5, [(.iload_n 2, [], 0), (.goto 4, [6], 0)])
  | 5 => (6, [(.iconst (-1), [], 0)])
  | 6 => (7, [(.ireturn, [0], 0)])
  | _ => (0, [])
def L_Tx_number : Nat → List Bool := fun b => match b with
  | 0 => [true, true, false]
  | 1 => [true, true, false]
  | 2 => [false, false, false]
  | 3 => [true, true, false]
  | 4 => [false, false, true]
  | 5 => [false, false, false]
  | 6 => [false, false, false]
  | _ => []
def P_Tx_number : List Nat := [0, 17, 33, 35, 53, 57, 58]
def K_Tx_number : KE := (⟨"NameReaders$Text", "number", "(I)I"⟩, prog_10_method_9_code, 3, (Option.some Jvm.ClassFile.FieldType.int), B_Tx_number, L_Tx_number, P_Tx_number, [500, 499, 3, 83, 0, 2])
def B_Tx_letter : BT := fun b => match b with
  | 0 => (1, [(.aload_n 0, [], 0), (.invokevirtual 37, [k_Tx_advance, 1, 8, 0, 501], 0), (.aload_n 0, [], 0), (.ldc 72, [1, 3, 512], 0), (.invokevirtual 42, [k_Tx_isWord, 2, 8, 1, 513], 0), (.ifCond .eq 5, [2, 1], 0)])
  | 1 => (2, [(.iconst 0, [], 0), (.ireturn, [0], 0)])
  | 2 => (3, [(.aload_n 0, [], 0), (.ldc 74, [1, 4, 565], 0), (.invokevirtual 42, [k_Tx_isWord, 2, 8, 1, 513], 0), (.ifCond .eq 5, [4, 3], 0)])
  | 3 => (4, [(.iconst 1, [], 0), (.ireturn, [0], 0)])
  | 4 => (5, [(.aload_n 0, [], 0), (.ldc 76, [1, 5, 566], 0), (.invokevirtual 42, [k_Tx_isWord, 2, 8, 1, 513], 0), (.ifCond .eq 7, [6, 5], 0)])
  | 5 => (6, [(.iconst 2, [], 0), (.goto 4, [7], 0)])
  | 6 => (7, [(.iconst (-1), [], 0)])
  | 7 => (8, [(.ireturn, [0], 0)])
  | _ => (0, [])
def L_Tx_letter : Nat → List Bool := fun b => match b with
  | 0 => [true]
  | 1 => [false]
  | 2 => [true]
  | 3 => [false]
  | 4 => [true]
  | 5 => [false]
  | 6 => [false]
  | 7 => [false]
  | _ => []
def P_Tx_letter : List Nat := [0, 13, 15, 24, 26, 35, 39, 40]
def K_Tx_letter : KE := (⟨"NameReaders$Text", "letter", "()I"⟩, prog_10_method_10_code, 1, (Option.some Jvm.ClassFile.FieldType.int), B_Tx_letter, L_Tx_letter, P_Tx_letter, [511, 510, 5, 83, 0, 1])
def B_Tx_test : BT := fun b => match b with
  | 0 => (1, [(.aload_n 0, [], 0), (.invokevirtual 37, [k_Tx_advance, 1, 8, 0, 501], 0), (.aload_n 0, [], 0), (.ldc 78, [1, 6, 575], 0), (.invokevirtual 42, [k_Tx_isWord, 2, 8, 1, 513], 0), (.ifCond .eq 5, [2, 1], 0)])
  | 1 => (2, [(.iconst 3, [], 0), (.ireturn, [0], 0)])
  | 2 => (3, [(.aload_n 0, [], 0), (.ldc 80, [1, 7, 576], 0), (.invokevirtual 42, [k_Tx_isWord, 2, 8, 1, 513], 0), (.ifCond .eq 5, [4, 3], 0)])
  | 3 => (4, [(.iconst 4, [], 0), (.ireturn, [0], 0)])
  | 4 => (5, [(.aload_n 0, [], 0), (.ldc 82, [1, 8, 577], 0), (.invokevirtual 42, [k_Tx_isWord, 2, 8, 1, 513], 0), (.ifCond .eq 11, [6, 5], 0)])
  | 5 => (6, [(.aload_n 0, [], 0), (.iload_n 1, [], 0), (.invokevirtual 52, [k_Tx_number, 2, 8, 1, 497], 0), (.goto 4, [7], 0)])
  | 6 => (7, [(.iconst (-1), [], 0)])
  | 7 => (8, [(.ireturn, [0], 0)])
  | _ => (0, [])
def L_Tx_test : Nat → List Bool := fun b => match b with
  | 0 => [true, true]
  | 1 => [false, false]
  | 2 => [true, true]
  | 3 => [false, false]
  | 4 => [true, true]
  | 5 => [true, true]
  | 6 => [false, false]
  | 7 => [false, false]
  | _ => []
def P_Tx_test : List Nat := [0, 13, 15, 24, 26, 35, 43, 44]
def K_Tx_test : KE := (⟨"NameReaders$Text", "test", "(I)I"⟩, prog_10_method_11_code, 2, (Option.some Jvm.ClassFile.FieldType.int), B_Tx_test, L_Tx_test, P_Tx_test, [574, 573, 7, 83, 0, 2])
def B_Tx_advance : BT := fun b => match b with
  | 0 => (1, [(.aload_n 0, [], 0), (.aload_n 0, [], 0), (.getfield 28, [8, 5, 0, 149], 0), (.putfield 25, [8, 4, 0, 148], 0)])
  | 1 => (2, [(.aload_n 0, [], 0), (.getfield 25, [8, 4, 0, 148], 0), (.aload_n 0, [], 0), (.getfield 18, [8, 2, 0, 146], 0), (.if_icmp .ge 30, [4, 2], 0)])
  | 2 => (3, [(.aload_n 0, [], 0), (.getfield 9, [8, 0, 2, 144], 0), (.aload_n 0, [], 0), (.getfield 25, [8, 4, 0, 148], 0), (.iaload, [], 0), (.bipush 32, [], 0), (.if_icmp .ne 16, [4, 3], 0)])
  | 3 => (4, [(.aload_n 0, [], 0), (.dup, [], 0), (.getfield 25, [8, 4, 0, 148], 0), (.iconst 1, [], 0), (.iadd, [], 0), (.putfield 25, [8, 4, 0, 148], 0), (.goto (-35), [1], 0)])
  | 4 => (5, [(.aload_n 0, [], 0), (.aload_n 0, [], 0), (.getfield 25, [8, 4, 0, 148], 0), (.putfield 28, [8, 5, 0, 149], 0), (.aload_n 0, [], 0), (.getfield 25, [8, 4, 0, 148], 0), (.aload_n 0, [], 0), (.getfield 18, [8, 2, 0, 146], 0), (.if_icmp .lt 4, [6, 5], 0)])
  | 5 => (6, [(.return_, [], 0)])
  | 6 => (7, [(.aload_n 0, [], 0), (.getfield 9, [8, 0, 2, 144], 0), (.aload_n 0, [], 0), (.getfield 25, [8, 4, 0, 148], 0), (.iaload, [], 0), (.invokestatic 69, [k_Tx_kindOf, 1, 1, 505], 0), (.istore_n 1, [], 0), (.aload_n 0, [], 0), (.dup, [], 0), (.getfield 28, [8, 5, 0, 149], 0), (.iconst 1, [], 0), (.iadd, [], 0), (.putfield 28, [8, 5, 0, 149], 0)])
  | 7 => (8, [(.aload_n 0, [], 0), (.getfield 28, [8, 5, 0, 149], 0), (.aload_n 0, [], 0), (.getfield 18, [8, 2, 0, 146], 0), (.if_icmp .ge 37, [11, 8], 0)])
  | 8 => (9, [(.iload_n 1, [], 0), (.iconst 2, [], 0), (.if_icmp .eq 32, [11, 9], 0)])
  | 9 => (10, [(.aload_n 0, [], 0), (.getfield 9, [8, 0, 2, 144], 0), (.aload_n 0, [], 0), (.getfield 28, [8, 5, 0, 149], 0), (.iaload, [], 0), (.invokestatic 69, [k_Tx_kindOf, 1, 1, 505], 0), (.iload_n 1, [], 0), (.if_icmp .ne 16, [11, 10], 0)])
  | 10 => (11, [(.aload_n 0, [], 0), (.dup, [], 0), (.getfield 28, [8, 5, 0, 149], 0), (.iconst 1, [], 0), (.iadd, [], 0), (.putfield 28, [8, 5, 0, 149], 0), (.goto (-42), [7], 0)])
  | 11 => (12, [(.return_, [], 0)])
  | _ => (0, [])
def L_Tx_advance : Nat → List Bool := fun b => match b with
  | 0 => [true, false]
  | 1 => [true, false]
  | 2 => [true, false]
  | 3 => [true, false]
  | 4 => [true, false]
  | 5 => [false, false]
  | 6 => [true, false]
  | 7 => [true, true]
  | 8 => [true, true]
  | 9 => [true, true]
  | 10 => [true, true]
  | 11 => [false, false]
  | _ => []
def P_Tx_advance : List Nat := [0, 8, 19, 33, 46, 65, 66, 89, 100, 105, 121, 134]
def K_Tx_advance : KE := (⟨"NameReaders$Text", "advance", "()V"⟩, prog_10_method_12_code, 2, (Option.none : Option Jvm.ClassFile.FieldType), B_Tx_advance, L_Tx_advance, P_Tx_advance, [504, 503, 4, 83, 0, 1])
def B_Tx_isWord : BT := fun b => match b with
  | 0 => (1, [(.aload_n 0, [], 0), (.getfield 28, [8, 5, 0, 149], 0), (.aload_n 0, [], 0), (.getfield 25, [8, 4, 0, 148], 0), (.isub, [], 0), (.aload_n 1, [], 0), (.invokevirtual 84, [2, 1, 100, 1, 517], 0), (.if_icmp .eq 5, [2, 1], 0)])
  | 1 => (2, [(.iconst 0, [], 0), (.ireturn, [1], 0)])
  | 2 => (3, [(.iconst 0, [], 0), (.istore_n 2, [], 0)])
  | 3 => (4, [(.iload_n 2, [], 0), (.aload_n 1, [], 0), (.invokevirtual 84, [2, 1, 100, 1, 517], 0), (.if_icmp .ge 30, [7, 4], 0)])
  | 4 => (5, [(.aload_n 0, [], 0), (.getfield 9, [8, 0, 2, 144], 0), (.aload_n 0, [], 0), (.getfield 25, [8, 4, 0, 148], 0), (.iload_n 2, [], 0), (.iadd, [], 0), (.iaload, [], 0), (.aload_n 1, [], 0), (.iload_n 2, [], 0), (.invokevirtual 89, [3, 2, 100, 1, 527], 0), (.if_icmp .eq 5, [6, 5], 0)])
  | 5 => (6, [(.iconst 0, [], 0), (.ireturn, [1], 0)])
  | 6 => (7, [(.iinc 2 1, [], 0), (.goto (-32), [3], 0)])
  | 7 => (8, [(.iconst 1, [], 0), (.ireturn, [1], 0)])
  | _ => (0, [])
def L_Tx_isWord : Nat → List Bool := fun b => match b with
  | 0 => [true, true, false]
  | 1 => [false, false, false]
  | 2 => [true, true, false]
  | 3 => [true, true, true]
  | 4 => [true, true, true]
  | 5 => [false, false, false]
  | 6 => [true, true, true]
  | 7 => [false, false, false]
  | _ => []
def P_Tx_isWord : List Nat := [0, 16, 18, 20, 28, 47, 49, 55]
def K_Tx_isWord : KE := (⟨"NameReaders$Text", "isWord", "(Ljava/lang/String;)Z"⟩, prog_10_method_13_code, 3, (Option.some Jvm.ClassFile.FieldType.boolean), B_Tx_isWord, L_Tx_isWord, P_Tx_isWord, [516, 515, 6, 83, 0, 2])
def B_Tx_kindOf : BT := fun b => match b with
  | 0 => (1, [(.iload_n 0, [], 0), (.bipush 97, [], 0), (.if_icmp .lt 11, [3, 1], 0)])
  | 1 => (2, [(.iload_n 0, [], 0), (.bipush 122, [], 0), (.if_icmp .gt 5, [3, 2], 0)])
  | 2 => (3, [(.iconst 0, [], 0), (.ireturn, [0], 0)])
  | 3 => (4, [(.iload_n 0, [], 0), (.bipush 48, [], 0), (.if_icmp .lt 13, [6, 4], 0)])
  | 4 => (5, [(.iload_n 0, [], 0), (.bipush 57, [], 0), (.if_icmp .gt 7, [6, 5], 0)])
  | 5 => (6, [(.iconst 1, [], 0), (.goto 4, [7], 0)])
  | 6 => (7, [(.iconst 2, [], 0)])
  | 7 => (8, [(.ireturn, [0], 0)])
  | _ => (0, [])
def L_Tx_kindOf : Nat → List Bool := fun b => match b with
  | 0 => [true]
  | 1 => [true]
  | 2 => [false]
  | 3 => [true]
  | 4 => [true]
  | 5 => [false]
  | 6 => [false]
  | 7 => [false]
  | _ => []
def P_Tx_kindOf : List Nat := [0, 6, 12, 14, 20, 26, 30, 31]
def K_Tx_kindOf : KE := (⟨"NameReaders$Text", "kindOf", "(I)I"⟩, prog_10_method_14_code, 1, (Option.some Jvm.ClassFile.FieldType.int), B_Tx_kindOf, L_Tx_kindOf, P_Tx_kindOf, [507, 506, 0, 83, 1, 1])
def B_Wk_init : BT := fun b => match b with
  | 0 => (1, [(.aload_n 0, [], 0), (.invokespecial 3, [0, 1, 9, 0, 223], 0), (.aload_n 0, [], 0), (.bipush 12, [], 0), (.newarray .int, [0], 0), (.putfield 9, [9, 1, 2, 225], 0), (.aload_n 0, [], 0), (.bipush 13, [], 0), (.newarray .int, [0], 0), (.putfield 15, [9, 2, 2, 226], 0), (.aload_n 0, [], 0), (.aload_n 1, [], 0), (.putfield 18, [9, 0, 2, 224], 0), (.aload_n 0, [], 0), (.aload_n 2, [], 0), (.putfield 22, [9, 3, 2, 227], 0), (.aload_n 0, [], 0), (.aload_n 3, [], 0), (.putfield 26, [9, 4, 2, 228], 0), (.return_, [], 0)])
  | _ => (0, [])
def L_Wk_init : Nat → List Bool := fun b => match b with
  | 0 => [true, true, true, true]
  | _ => []
def P_Wk_init : List Nat := [0]
def K_Wk_init : KE := (⟨"NameReaders$Walks", "<init>", "([LNameReaders$Spots;[J[J)V"⟩, prog_11_method_1_code, 4, (Option.none : Option Jvm.ClassFile.FieldType), B_Wk_init, L_Wk_init, P_Wk_init, [222, 221, 0, 87, 2, 4])
def B_Wk_statesBehind : BT := fun b => match b with
  | 0 => (1, [(.aload_n 0, [], 0), (.getfield 18, [9, 0, 2, 224], 0), (.iconst 0, [], 0), (.aaload, [], 0), (.iconst 0, [], 0), (.invokevirtual 29, [k_Sp_startAt, 2, 7, 0, 674], 0), (.iconst 0, [], 0), (.istore 4, [], 0)])
  | 1 => (2, [(.iload 4, [], 0), (.iload_n 3, [], 0), (.if_icmp .ge 49, [3, 2], 0)])
  | 2 => (3, [(.aload_n 0, [], 0), (.getfield 18, [9, 0, 2, 224], 0), (.iload 4, [], 0), (.iconst 1, [], 0), (.iadd, [], 0), (.aaload, [], 0), (.aload_n 1, [], 0), (.aload_n 0, [], 0), (.getfield 18, [9, 0, 2, 224], 0), (.iload 4, [], 0), (.aaload, [], 0), (.aload_n 2, [], 0), (.iload 4, [], 0), (.invokevirtual 35, [k_Rw_letter, 2, 5, 1, 695], 0), (.aload_n 2, [], 0), (.iload 4, [], 0), (.invokevirtual 41, [k_Rw_id, 2, 5, 1, 699], 0), (.aload_n 2, [], 0), (.iload 4, [], 0), (.iconst 1, [], 0), (.iadd, [], 0), (.invokevirtual 44, [k_Rw_aliveBehind, 2, 5, 1, 703], 0), (.invokevirtual 47, [k_Sp_follow, 6, 7, 0, 707], 0), (.iinc 4 1, [], 0), (.goto (-49), [1], 0)])
  | 3 => (4, [(.aload_n 0, [], 0), (.getfield 18, [9, 0, 2, 224], 0), (.iload_n 3, [], 0), (.aaload, [], 0), (.invokevirtual 51, [k_Sp_statesByBits, 1, 7, 1, 735], 0), (.ireturn, [0], 0)])
  | _ => (0, [])
def L_Wk_statesBehind : Nat → List Bool := fun b => match b with
  | 0 => [true, true, true, true, false]
  | 1 => [true, true, true, true, true]
  | 2 => [true, true, true, true, true]
  | 3 => [true, false, false, true, false]
  | _ => []
def P_Wk_statesBehind : List Nat := [0, 13, 19, 65]
def K_Wk_statesBehind : KE := (⟨"NameReaders$Walks", "statesBehind", "(LNameReaders$Reader;LNameReaders$Row;I)I"⟩, prog_11_method_2_code, 5, (Option.some Jvm.ClassFile.FieldType.int), B_Wk_statesBehind, L_Wk_statesBehind, P_Wk_statesBehind, [673, 671, 672, 87, 0, 4])
def B_Wk_findRun : BT := fun b => match b with
  | 0 => (1, [(.aload_n 0, [], 0), (.iconst 0, [], 0), (.aload_n 2, [], 0), (.invokevirtual 55, [k_Rw_size, 1, 5, 1, 759], 0), (.invokevirtual 58, [k_Wk_forget, 3, 9, 0, 802], 0), (.aload_n 0, [], 0), (.aload_n 1, [], 0), (.aload_n 2, [], 0), (.iconst 0, [], 0), (.iconst 0, [], 0), (.invokevirtual 62, [k_Wk_runFrom, 5, 9, 1, 806], 0), (.ireturn, [1], 0)])
  | _ => (0, [])
def L_Wk_findRun : Nat → List Bool := fun b => match b with
  | 0 => [true, true, true]
  | _ => []
def P_Wk_findRun : List Nat := [0]
def K_Wk_findRun : KE := (⟨"NameReaders$Walks", "findRun", "(LNameReaders$Reader;LNameReaders$Row;)Z"⟩, prog_11_method_3_code, 3, (Option.some Jvm.ClassFile.FieldType.boolean), B_Wk_findRun, L_Wk_findRun, P_Wk_findRun, [801, 799, 800, 87, 0, 3])
def B_Wk_moveOfRun : BT := fun b => match b with
  | 0 => (1, [(.aload_n 0, [], 0), (.getfield 9, [9, 1, 2, 225], 0), (.iload_n 1, [], 0), (.iaload, [], 0), (.ireturn, [0], 0)])
  | _ => (0, [])
def L_Wk_moveOfRun : Nat → List Bool := fun b => match b with
  | 0 => [true, true]
  | _ => []
def P_Wk_moveOfRun : List Nat := [0]
def K_Wk_moveOfRun : KE := (⟨"NameReaders$Walks", "moveOfRun", "(I)I"⟩, prog_11_method_4_code, 2, (Option.some Jvm.ClassFile.FieldType.int), B_Wk_moveOfRun, L_Wk_moveOfRun, P_Wk_moveOfRun, [817, 815, 816, 87, 0, 2])
def B_Wk_forget : BT := fun b => match b with
  | 0 => (1, [(.iload_n 1, [], 0), (.istore_n 3, [], 0)])
  | 1 => (2, [(.iload_n 3, [], 0), (.iload_n 2, [], 0), (.if_icmp .ge 18, [3, 2], 0)])
  | 2 => (3, [(.aload_n 0, [], 0), (.getfield 18, [9, 0, 2, 224], 0), (.iload_n 3, [], 0), (.aaload, [], 0), (.invokevirtual 66, [k_Sp_clear, 1, 7, 0, 767], 0), (.iinc 3 1, [], 0), (.goto (-17), [1], 0)])
  | 3 => (4, [(.return_, [], 0)])
  | _ => (0, [])
def L_Wk_forget : Nat → List Bool := fun b => match b with
  | 0 => [true, true, true, false]
  | 1 => [true, false, true, true]
  | 2 => [true, false, true, true]
  | 3 => [false, false, false, false]
  | _ => []
def P_Wk_forget : List Nat := [0, 2, 7, 22]
def K_Wk_forget : KE := (⟨"NameReaders$Walks", "forget", "(II)V"⟩, prog_11_method_5_code, 4, (Option.none : Option Jvm.ClassFile.FieldType), B_Wk_forget, L_Wk_forget, P_Wk_forget, [805, 803, 804, 87, 0, 3])
def B_Wk_isTakenFrom : BT := fun b => match b with
  | 0 => (1, [(.aload_n 0, [], 0), (.aload_n 1, [], 0), (.aload_n 2, [], 0), (.iload_n 3, [], 0), (.iload 4, [], 0), (.invokevirtual 62, [k_Wk_runFrom, 5, 9, 1, 806], 0), (.ireturn, [1], 0)])
  | _ => (0, [])
def L_Wk_isTakenFrom : Nat → List Bool := fun b => match b with
  | 0 => [true, true, true, true, true]
  | _ => []
def P_Wk_isTakenFrom : List Nat := [0]
def K_Wk_isTakenFrom : KE := (⟨"NameReaders$Walks", "isTakenFrom", "(LNameReaders$Reader;LNameReaders$Row;II)Z"⟩, prog_11_method_6_code, 5, (Option.some Jvm.ClassFile.FieldType.boolean), B_Wk_isTakenFrom, L_Wk_isTakenFrom, P_Wk_isTakenFrom, [1047, 1045, 1046, 87, 0, 5])
def B_Wk_runFrom : BT := fun b => match b with
  | 0 => (1, [(.iload_n 3, [], 0), (.aload_n 2, [], 0), (.invokevirtual 55, [k_Rw_size, 1, 5, 1, 759], 0), (.if_icmp .lt 10, [2, 1], 0)])
  | 1 => (2, [(.aload_n 1, [], 0), (.iload 4, [], 0), (.invokevirtual 69, [k_Rd_takesAt, 2, 4, 1, 790], 0), (.ireturn, [1], 0)])
  | 2 => (3, [(.aload_n 0, [], 0), (.getfield 18, [9, 0, 2, 224], 0), (.iload_n 3, [], 0), (.aaload, [], 0), (.iload 4, [], 0), (.invokevirtual 75, [k_Sp_has, 2, 7, 1, 810], 0), (.ifCond .eq 5, [4, 3], 0)])
  | 3 => (4, [(.iconst 0, [], 0), (.ireturn, [1], 0)])
  | 4 => (5, [(.aload_n 1, [], 0), (.iload 4, [], 0), (.aload_n 2, [], 0), (.iload_n 3, [], 0), (.invokevirtual 35, [k_Rw_letter, 2, 5, 1, 695], 0), (.invokevirtual 78, [k_Rd_end, 3, 4, 1, 780], 0), (.istore 5, [], 0), (.aload_n 1, [], 0), (.iload 4, [], 0), (.aload_n 2, [], 0), (.iload_n 3, [], 0), (.invokevirtual 35, [k_Rw_letter, 2, 5, 1, 695], 0), (.invokevirtual 82, [k_Rd_begin, 3, 4, 1, 781], 0), (.istore 6, [], 0)])
  | 5 => (6, [(.iload 6, [], 0), (.iload 5, [], 0), (.if_icmp .ge 72, [10, 6], 0)])
  | 6 => (7, [(.aload_n 1, [], 0), (.iload 6, [], 0), (.invokevirtual 85, [k_Rd_moveAt, 2, 4, 1, 782], 0), (.istore 7, [], 0), (.aload_n 1, [], 0), (.iload 4, [], 0), (.iload 7, [], 0), (.aload_n 2, [], 0), (.iload_n 3, [], 0), (.invokevirtual 41, [k_Rw_id, 2, 5, 1, 699], 0), (.invokevirtual 88, [k_Rd_after, 4, 4, 1, 783], 0), (.istore 8, [], 0), (.iload 8, [], 0), (.ifCond .lt 38, [9, 7], 0)])
  | 7 => (8, [(.aload_n 0, [], 0), (.aload_n 1, [], 0), (.aload_n 2, [], 0), (.iload_n 3, [], 0), (.iconst 1, [], 0), (.iadd, [], 0), (.iload 8, [], 0), (.aload_n 2, [], 0), (.iload_n 3, [], 0), (.iconst 1, [], 0), (.iadd, [], 0), (.invokevirtual 44, [k_Rw_aliveBehind, 2, 5, 1, 703], 0), (.iconst 0, [], 0), (.invokestatic 92, [k_Rd_settle, 3, 1, 784], 0), (.invokevirtual 62, [k_Wk_runFrom, 5, 9, 1, 806], 0), (.ifCond .eq 13, [9, 8], 0)])
  | 8 => (9, [(.aload_n 0, [], 0), (.getfield 9, [9, 1, 2, 225], 0), (.iload_n 3, [], 0), (.iload 7, [], 0), (.iastore, [], 0), (.iconst 1, [], 0), (.ireturn, [1], 0)])
  | 9 => (10, [(.iinc 6 1, [], 0), (.goto (-73), [5], 0)])
  | 10 => (11, [(.aload_n 0, [], 0), (.getfield 18, [9, 0, 2, 224], 0), (.iload_n 3, [], 0), (.aaload, [], 0), (.iload 4, [], 0), (.invokevirtual 95, [k_Sp_add, 2, 7, 1, 785], 0), (.pop, [], 0), (.iconst 0, [], 0), (.ireturn, [1], 0)])
  | _ => (0, [])
def L_Wk_runFrom : Nat → List Bool := fun b => match b with
  | 0 => [true, true, true, true, true, false, false, false, false]
  | 1 => [false, true, false, false, true, false, false, false, false]
  | 2 => [true, true, true, true, true, false, false, false, false]
  | 3 => [false, false, false, false, false, false, false, false, false]
  | 4 => [true, true, true, true, true, false, false, false, false]
  | 5 => [true, true, true, true, true, true, true, false, false]
  | 6 => [true, true, true, true, true, true, true, false, false]
  | 7 => [true, true, true, true, true, true, true, true, true]
  | 8 => [true, false, false, true, false, false, false, true, false]
  | 9 => [true, true, true, true, true, true, true, false, false]
  | 10 => [true, false, false, true, true, false, false, false, false]
  | _ => []
def P_Wk_runFrom : List Nat := [0, 8, 15, 29, 31, 57, 64, 92, 117, 127, 133]
def K_Wk_runFrom : KE := (⟨"NameReaders$Walks", "runFrom", "(LNameReaders$Reader;LNameReaders$Row;II)Z"⟩, prog_11_method_7_code, 9, (Option.some Jvm.ClassFile.FieldType.boolean), B_Wk_runFrom, L_Wk_runFrom, P_Wk_runFrom, [809, 808, 13, 87, 0, 5])
def B_Wk_runsThatTake : BT := fun b => match b with
  | 0 => (1, [(.aload_n 0, [], 0), (.aload_n 2, [], 0), (.invokevirtual 98, [k_Wk_giveSlots, 2, 9, 0, 755], 0), (.aload_n 0, [], 0), (.getfield 18, [9, 0, 2, 224], 0), (.iconst 0, [], 0), (.aaload, [], 0), (.iconst 0, [], 0), (.invokevirtual 29, [k_Sp_startAt, 2, 7, 0, 674], 0), (.aload_n 0, [], 0), (.getfield 22, [9, 3, 2, 227], 0), (.iconst 0, [], 0), (.lconst 1, [], 0), (.lastore, [], 0), (.iconst 0, [], 0), (.istore_n 3, [], 0)])
  | 1 => (2, [(.iload_n 3, [], 0), (.aload_n 2, [], 0), (.invokevirtual 55, [k_Rw_size, 1, 5, 1, 759], 0), (.if_icmp .ge 36, [3, 2], 0)])
  | 2 => (3, [(.aload_n 0, [], 0), (.aload_n 1, [], 0), (.aload_n 2, [], 0), (.iload_n 3, [], 0), (.invokevirtual 102, [k_Wk_spread, 4, 9, 0, 763], 0), (.aload_n 0, [], 0), (.getfield 22, [9, 3, 2, 227], 0), (.astore 4, [], 0), (.aload_n 0, [], 0), (.aload_n 0, [], 0), (.getfield 26, [9, 4, 2, 228], 0), (.putfield 22, [9, 3, 2, 227], 0), (.aload_n 0, [], 0), (.aload 4, [], 0), (.putfield 26, [9, 4, 2, 228], 0), (.iinc 3 1, [], 0), (.goto (-38), [1], 0)])
  | 3 => (4, [(.aload_n 0, [], 0), (.getfield 18, [9, 0, 2, 224], 0), (.aload_n 2, [], 0), (.invokevirtual 55, [k_Rw_size, 1, 5, 1, 759], 0), (.aaload, [], 0), (.astore_n 3, [], 0), (.lconst 0, [], 0), (.lstore 4, [], 0), (.aload_n 3, [], 0), (.iconst 0, [], 0), (.invokevirtual 106, [k_Sp_next, 2, 7, 1, 768], 0), (.istore 6, [], 0), (.aload_n 3, [], 0), (.invokevirtual 109, [k_Sp_size, 1, 7, 1, 769], 0), (.istore 7, [], 0)])
  | 4 => (5, [(.iload 7, [], 0), (.ifCond .le 53, [10, 5], 0)])
  | 5 => (6, [(.iload 6, [], 0), (.ifCond .lt 48, [10, 6], 0)])
  | 6 => (7, [(.lload 4, [], 0), (.aload_n 1, [], 0), (.iload 6, [], 0), (.invokevirtual 69, [k_Rd_takesAt, 2, 4, 1, 790], 0), (.ifCond .eq 17, [8, 7], 0)])
  | 7 => (8, [(.aload_n 0, [], 0), (.getfield 22, [9, 3, 2, 227], 0), (.aload_n 0, [], 0), (.iload 6, [], 0), (.invokevirtual 110, [k_Wk_placeOf, 2, 9, 1, 773], 0), (.laload, [], 0), (.goto 4, [9], 0)])
  | 8 => (9, [(.lconst 0, [], 0)])
  | 9 => (10, [(.ladd, [], 0), (.lstore 4, [], 0), (.aload_n 3, [], 0), (.iload 6, [], 0), (.iconst 1, [], 0), (.iadd, [], 0), (.invokevirtual 106, [k_Sp_next, 2, 7, 1, 768], 0), (.istore 6, [], 0), (.iinc 7 (-1), [], 0), (.goto (-52), [4], 0)])
  | 10 => (11, [(.lload 4, [], 0), (.ldc2_w 113, [786], 1000000001), (.invokestatic 115, [5, 2, 2, 787], 0), (.l2i, [], 0), (.ireturn, [0], 0)])
  | _ => (0, [])
def L_Wk_runsThatTake : Nat → List Bool := fun b => match b with
  | 0 => [true, true, true, false, false, false, false, false]
  | 1 => [true, true, true, true, false, false, false, false]
  | 2 => [true, true, true, true, false, false, false, false]
  | 3 => [true, true, true, false, false, false, false, false]
  | 4 => [true, true, false, true, true, false, true, true]
  | 5 => [true, true, false, true, true, false, true, true]
  | 6 => [true, true, false, true, true, false, true, true]
  | 7 => [true, true, false, true, false, false, true, true]
  | 8 => [true, true, false, true, false, false, true, true]
  | 9 => [true, true, false, true, false, false, true, true]
  | 10 => [false, false, false, false, true, false, false, false]
  | _ => []
def P_Wk_runsThatTake : List Nat := [0, 24, 32, 65, 91, 96, 101, 112, 126, 127, 146]
def K_Wk_runsThatTake : KE := (⟨"NameReaders$Walks", "runsThatTake", "(LNameReaders$Reader;LNameReaders$Row;)I"⟩, prog_11_method_8_code, 8, (Option.some Jvm.ClassFile.FieldType.int), B_Wk_runsThatTake, L_Wk_runsThatTake, P_Wk_runsThatTake, [754, 752, 753, 87, 0, 3])
def B_Wk_spread : BT := fun b => match b with
  | 0 => (1, [(.aload_n 0, [], 0), (.getfield 18, [9, 0, 2, 224], 0), (.iload_n 3, [], 0), (.aaload, [], 0), (.astore 4, [], 0), (.aload_n 0, [], 0), (.getfield 18, [9, 0, 2, 224], 0), (.iload_n 3, [], 0), (.iconst 1, [], 0), (.iadd, [], 0), (.aaload, [], 0), (.astore 5, [], 0), (.aload 5, [], 0), (.invokevirtual 66, [k_Sp_clear, 1, 7, 0, 767], 0), (.aload 4, [], 0), (.iconst 0, [], 0), (.invokevirtual 106, [k_Sp_next, 2, 7, 1, 768], 0), (.istore 6, [], 0), (.aload 4, [], 0), (.invokevirtual 109, [k_Sp_size, 1, 7, 1, 769], 0), (.istore 7, [], 0)])
  | 1 => (2, [(.iload 7, [], 0), (.ifCond .le 165, [12, 2], 0)])
  | 2 => (3, [(.iload 6, [], 0), (.ifCond .lt 160, [12, 3], 0)])
  | 3 => (4, [(.aload_n 0, [], 0), (.getfield 22, [9, 3, 2, 227], 0), (.aload_n 0, [], 0), (.iload 6, [], 0), (.invokevirtual 110, [k_Wk_placeOf, 2, 9, 1, 773], 0), (.laload, [], 0), (.lstore 8, [], 0), (.aload_n 1, [], 0), (.iload 6, [], 0), (.aload_n 2, [], 0), (.iload_n 3, [], 0), (.invokevirtual 35, [k_Rw_letter, 2, 5, 1, 695], 0), (.invokevirtual 78, [k_Rd_end, 3, 4, 1, 780], 0), (.istore 10, [], 0), (.aload_n 1, [], 0), (.iload 6, [], 0), (.aload_n 2, [], 0), (.iload_n 3, [], 0), (.invokevirtual 35, [k_Rw_letter, 2, 5, 1, 695], 0), (.invokevirtual 82, [k_Rd_begin, 3, 4, 1, 781], 0), (.istore 11, [], 0)])
  | 4 => (5, [(.iload 11, [], 0), (.iload 10, [], 0), (.if_icmp .ge 97, [11, 5], 0)])
  | 5 => (6, [(.aload_n 1, [], 0), (.iload 6, [], 0), (.aload_n 1, [], 0), (.iload 11, [], 0), (.invokevirtual 85, [k_Rd_moveAt, 2, 4, 1, 782], 0), (.aload_n 2, [], 0), (.iload_n 3, [], 0), (.invokevirtual 41, [k_Rw_id, 2, 5, 1, 699], 0), (.invokevirtual 88, [k_Rd_after, 4, 4, 1, 783], 0), (.istore 12, [], 0), (.iload 12, [], 0), (.ifCond .lt 67, [10, 6], 0)])
  | 6 => (7, [(.iload 12, [], 0), (.aload_n 2, [], 0), (.iload_n 3, [], 0), (.iconst 1, [], 0), (.iadd, [], 0), (.invokevirtual 44, [k_Rw_aliveBehind, 2, 5, 1, 703], 0), (.iconst 0, [], 0), (.invokestatic 92, [k_Rd_settle, 3, 1, 784], 0), (.istore 12, [], 0), (.aload_n 0, [], 0), (.iload 12, [], 0), (.invokevirtual 110, [k_Wk_placeOf, 2, 9, 1, 773], 0), (.istore 13, [], 0), (.aload 5, [], 0), (.iload 12, [], 0), (.invokevirtual 95, [k_Sp_add, 2, 7, 1, 785], 0), (.ifCond .eq 7, [8, 7], 0)])
  | 7 => (8, [(.lconst 0, [], 0), (.goto 10, [9], 0)])
  | 8 => (9, [(.aload_n 0, [], 0), (.getfield 26, [9, 4, 2, 228], 0), (.iload 13, [], 0), (.laload, [], 0)])
  | 9 => (10, [(.lstore 14, [], 0), (.aload_n 0, [], 0), (.getfield 26, [9, 4, 2, 228], 0), (.iload 13, [], 0), (.lload 14, [], 0), (.lload 8, [], 0), (.ladd, [], 0), (.ldc2_w 113, [786], 1000000001), (.invokestatic 115, [5, 2, 2, 787], 0), (.lastore, [], 0)])
  | 10 => (11, [(.iinc 11 1, [], 0), (.goto (-98), [4], 0)])
  | 11 => (12, [(.aload 4, [], 0), (.iload 6, [], 0), (.iconst 1, [], 0), (.iadd, [], 0), (.invokevirtual 106, [k_Sp_next, 2, 7, 1, 768], 0), (.istore 6, [], 0), (.iinc 7 (-1), [], 0), (.goto (-164), [1], 0)])
  | 12 => (13, [(.return_, [], 0)])
  | _ => (0, [])
def L_Wk_spread : Nat → List Bool := fun b => match b with
  | 0 => [true, true, true, true, false, false, false, false, false, false, false, false, false, false, false, false]
  | 1 => [true, true, true, true, true, true, true, true, false, false, false, false, false, false, false, false]
  | 2 => [true, true, true, true, true, true, true, true, false, false, false, false, false, false, false, false]
  | 3 => [true, true, true, true, true, true, true, true, false, false, false, false, false, false, false, false]
  | 4 => [true, true, true, true, true, true, true, true, true, false, true, true, false, false, false, false]
  | 5 => [true, true, true, true, true, true, true, true, true, false, true, true, false, false, false, false]
  | 6 => [true, true, true, true, true, true, true, true, true, false, true, true, true, false, false, false]
  | 7 => [true, true, true, true, true, true, true, true, true, false, true, true, false, true, false, false]
  | 8 => [true, true, true, true, true, true, true, true, true, false, true, true, false, true, false, false]
  | 9 => [true, true, true, true, true, true, true, true, true, false, true, true, false, true, false, false]
  | 10 => [true, true, true, true, true, true, true, true, true, false, true, true, false, false, false, false]
  | 11 => [true, true, true, true, true, true, true, true, false, false, false, false, false, false, false, false]
  | 12 => [false, false, false, false, false, false, false, false, false, false, false, false, false, false, false, false]
  | _ => []
def P_Wk_spread : List Nat := [0, 38, 43, 48, 87, 94, 118, 151, 155, 162, 182, 188, 205]
def K_Wk_spread : KE := (⟨"NameReaders$Walks", "spread", "(LNameReaders$Reader;LNameReaders$Row;I)V"⟩, prog_11_method_9_code, 16, (Option.none : Option Jvm.ClassFile.FieldType), B_Wk_spread, L_Wk_spread, P_Wk_spread, [766, 765, 11, 87, 0, 4])
def B_Wk_placeOf : BT := fun b => match b with
  | 0 => (1, [(.iload_n 1, [], 0), (.bipush 12, [], 0), (.ishr, [], 0), (.istore_n 2, [], 0), (.iconst 0, [], 0), (.istore_n 3, [], 0)])
  | 1 => (2, [(.iload_n 3, [], 0), (.iconst 3, [], 0), (.if_icmp .ge 43, [6, 2], 0)])
  | 2 => (3, [(.iload_n 1, [], 0), (.iload_n 3, [], 0), (.invokestatic 121, [k_Rd_heldIn, 2, 1, 777], 0), (.istore 4, [], 0), (.iload_n 2, [], 0), (.bipush 7, [], 0), (.imul, [], 0), (.iload 4, [], 0), (.aload_n 0, [], 0), (.getfield 15, [9, 2, 2, 226], 0), (.arraylength, [], 0), (.if_icmp .ge 13, [4, 3], 0)])
  | 3 => (4, [(.aload_n 0, [], 0), (.getfield 15, [9, 2, 2, 226], 0), (.iload 4, [], 0), (.iaload, [], 0), (.goto 4, [5], 0)])
  | 4 => (5, [(.iconst 0, [], 0)])
  | 5 => (6, [(.iadd, [], 0), (.istore_n 2, [], 0), (.iinc 3 1, [], 0), (.goto (-42), [1], 0)])
  | 6 => (7, [(.iload_n 2, [], 0), (.ireturn, [0], 0)])
  | _ => (0, [])
def L_Wk_placeOf : Nat → List Bool := fun b => match b with
  | 0 => [true, true, false, false, false]
  | 1 => [true, true, true, true, false]
  | 2 => [true, true, true, true, false]
  | 3 => [true, true, false, true, true]
  | 4 => [true, true, false, true, false]
  | 5 => [true, true, false, true, false]
  | 6 => [false, false, true, false, false]
  | _ => []
def P_Wk_placeOf : List Nat := [0, 7, 12, 33, 43, 44, 52]
def K_Wk_placeOf : KE := (⟨"NameReaders$Walks", "placeOf", "(I)I"⟩, prog_11_method_10_code, 5, (Option.some Jvm.ClassFile.FieldType.int), B_Wk_placeOf, L_Wk_placeOf, P_Wk_placeOf, [776, 775, 12, 87, 0, 2])
def B_Wk_giveSlots : BT := fun b => match b with
  | 0 => (1, [(.iconst 0, [], 0), (.istore_n 2, [], 0), (.iconst 0, [], 0), (.istore_n 3, [], 0), (.iconst 0, [], 0), (.istore 4, [], 0)])
  | 1 => (2, [(.iload 4, [], 0), (.aload_n 1, [], 0), (.invokevirtual 55, [k_Rw_size, 1, 5, 1, 759], 0), (.if_icmp .ge 84, [14, 2], 0)])
  | 2 => (3, [(.aload_n 1, [], 0), (.iload 4, [], 0), (.invokevirtual 41, [k_Rw_id, 2, 5, 1, 699], 0), (.istore 5, [], 0), (.iload 5, [], 0), (.iload_n 2, [], 0), (.if_icmp .le 64, [13, 3], 0)])
  | 3 => (4, [(.iload 5, [], 0), (.istore_n 2, [], 0), (.aload_n 1, [], 0), (.iload 4, [], 0), (.iconst 1, [], 0), (.iadd, [], 0), (.invokevirtual 44, [k_Rw_aliveBehind, 2, 5, 1, 703], 0), (.iload 5, [], 0), (.ishr, [], 0), (.iconst 1, [], 0), (.iand, [], 0), (.ifCond .eq 7, [5, 4], 0)])
  | 4 => (5, [(.iconst 1, [], 0), (.goto 4, [6], 0)])
  | 5 => (6, [(.iconst 0, [], 0)])
  | 6 => (7, [(.istore 6, [], 0), (.iload_n 3, [], 0), (.iload 6, [], 0), (.ifCond .eq 7, [8, 7], 0)])
  | 7 => (8, [(.iconst 1, [], 0), (.goto 4, [9], 0)])
  | 8 => (9, [(.iconst 0, [], 0)])
  | 9 => (10, [(.iadd, [], 0), (.istore_n 3, [], 0), (.aload_n 0, [], 0), (.getfield 15, [9, 2, 2, 226], 0), (.iload 5, [], 0), (.iload 6, [], 0), (.ifCond .eq 12, [11, 10], 0)])
  | 10 => (11, [(.iload_n 3, [], 0), (.bipush 6, [], 0), (.invokestatic 124, [0, 2, 1, 760], 0), (.goto 4, [12], 0)])
  | 11 => (12, [(.iconst 0, [], 0)])
  | 12 => (13, [(.iastore, [], 0)])
  | 13 => (14, [(.iinc 4 1, [], 0), (.goto (-87), [1], 0)])
  | 14 => (15, [(.return_, [], 0)])
  | _ => (0, [])
def L_Wk_giveSlots : Nat → List Bool := fun b => match b with
  | 0 => [true, true, false, false, false, false, false]
  | 1 => [true, true, true, true, true, false, false]
  | 2 => [true, true, true, true, true, false, false]
  | 3 => [true, true, false, true, true, true, false]
  | 4 => [true, true, true, true, true, true, false]
  | 5 => [true, true, true, true, true, true, false]
  | 6 => [true, true, true, true, true, true, false]
  | 7 => [true, true, true, false, true, true, true]
  | 8 => [true, true, true, false, true, true, true]
  | 9 => [true, true, true, false, true, true, true]
  | 10 => [true, true, true, true, true, false, false]
  | 11 => [true, true, true, true, true, false, false]
  | 12 => [true, true, true, true, true, false, false]
  | 13 => [true, true, true, true, true, false, false]
  | 14 => [false, false, false, false, false, false, false]
  | _ => []
def P_Wk_giveSlots : List Nat := [0, 7, 16, 30, 49, 53, 54, 62, 66, 67, 80, 89, 90, 91, 97]
def K_Wk_giveSlots : KE := (⟨"NameReaders$Walks", "giveSlots", "(LNameReaders$Row;)V"⟩, prog_11_method_11_code, 7, (Option.none : Option Jvm.ClassFile.FieldType), B_Wk_giveSlots, L_Wk_giveSlots, P_Wk_giveSlots, [758, 757, 10, 87, 0, 2])
def B_X_init : BT := fun b => match b with
  | 0 => (1, [(.aload_n 0, [], 0), (.invokespecial 3, [0, 1, 10, 0, 106], 0), (.aload_n 0, [], 0), (.new 9, [4, 109], 0), (.dup, [], 0), (.invokespecial 11, [k_Rd_init, 1, 4, 0, 111, 1], 0), (.putfield 12, [10, 0, 2, 403], 0), (.aload_n 0, [], 0), (.new 9, [4, 109], 0), (.dup, [], 0), (.invokespecial 11, [k_Rd_init, 1, 4, 0, 111, 1], 0), (.putfield 16, [10, 1, 2, 404], 0), (.aload_n 0, [], 0), (.new 9, [4, 109], 0), (.dup, [], 0), (.invokespecial 11, [k_Rd_init, 1, 4, 0, 111, 1], 0), (.putfield 19, [10, 2, 2, 405], 0), (.aload_n 0, [], 0), (.new 22, [8, 138], 0), (.dup, [], 0), (.invokespecial 24, [k_Tx_init, 1, 8, 0, 140, 1], 0), (.putfield 25, [10, 3, 2, 406], 0), (.aload_n 0, [], 0), (.new 29, [5, 163], 0), (.dup, [], 0), (.invokespecial 31, [k_Rw_init, 1, 5, 0, 165, 1], 0), (.putfield 32, [10, 4, 2, 407], 0), (.bipush 14, [], 0), (.anewarray 36, [194], 0), (.astore_n 1, [], 0), (.iconst 0, [], 0), (.istore_n 2, [], 0)])
  | 1 => (2, [(.iload_n 2, [], 0), (.aload_n 1, [], 0), (.arraylength, [], 0), (.if_icmp .ge 22, [3, 2], 0)])
  | 2 => (3, [(.aload_n 1, [], 0), (.iload_n 2, [], 0), (.new 36, [7, 194], 0), (.dup, [], 0), (.sipush 24576, [], 0), (.invokespecial 38, [k_Sp_init, 2, 7, 0, 197], 0), (.aastore, [], 0), (.iinc 2 1, [], 0), (.goto (-22), [1], 0)])
  | 3 => (4, [(.sipush 2058, [], 0), (.newarray .long, [1], 0), (.astore_n 2, [], 0), (.sipush 2058, [], 0), (.newarray .long, [1], 0), (.astore_n 3, [], 0), (.aload_n 0, [], 0), (.new 41, [9, 218], 0), (.dup, [], 0), (.aload_n 1, [], 0), (.aload_n 2, [], 0), (.aload_n 3, [], 0), (.invokespecial 43, [k_Wk_init, 4, 9, 0, 220], 0), (.putfield 46, [10, 5, 2, 408], 0), (.aload_n 0, [], 0), (.new 50, [0, 240], 0), (.dup, [], 0), (.aload_n 1, [], 0), (.aload_n 0, [], 0), (.getfield 46, [10, 5, 2, 408], 0), (.aload_n 0, [], 0), (.getfield 32, [10, 4, 2, 407], 0), (.aload_n 0, [], 0), (.getfield 19, [10, 2, 2, 405], 0), (.invokespecial 52, [k_Fl_init, 5, 0, 0, 242], 0), (.putfield 55, [10, 6, 2, 409], 0), (.aload_n 0, [], 0), (.new 59, [2, 286], 0), (.dup, [], 0), (.aload_n 1, [], 0), (.iconst 0, [], 0), (.aaload, [], 0), (.aload_n 1, [], 0), (.iconst 1, [], 0), (.aaload, [], 0), (.aload_n 2, [], 0), (.aload_n 3, [], 0), (.invokespecial 61, [k_Mn_init, 5, 2, 0, 288], 0), (.putfield 64, [10, 7, 2, 410], 0), (.aload_n 0, [], 0), (.new 68, [6, 311], 0), (.dup, [], 0), (.aload_n 1, [], 0), (.aload_n 0, [], 0), (.getfield 19, [10, 2, 2, 405], 0), (.invokespecial 70, [k_Ss_init, 3, 6, 0, 313], 0), (.putfield 73, [10, 8, 2, 411], 0), (.aload_n 0, [], 0), (.new 77, [3, 342], 0), (.dup, [], 0), (.aload_n 1, [], 0), (.iconst 0, [], 0), (.aaload, [], 0), (.aload_n 1, [], 0), (.iconst 1, [], 0), (.aaload, [], 0), (.invokespecial 79, [k_Ol_init, 3, 3, 0, 344], 0), (.putfield 82, [10, 9, 2, 412], 0), (.aload_n 0, [], 0), (.new 86, [1, 367], 0), (.dup, [], 0), (.aload_n 0, [], 0), (.getfield 12, [10, 0, 2, 403], 0), (.aload_n 0, [], 0), (.getfield 16, [10, 1, 2, 404], 0), (.invokespecial 88, [k_Mt_init, 3, 1, 0, 369], 0), (.putfield 91, [10, 10, 2, 413], 0), (.return_, [], 0)])
  | _ => (0, [])
def L_X_init : Nat → List Bool := fun b => match b with
  | 0 => [true, false, false, false]
  | 1 => [true, true, true, false]
  | 2 => [true, true, true, false]
  | 3 => [true, true, false, false]
  | _ => []
def P_X_init : List Nat := [0, 67, 73, 92]
def K_X_init : KE := (⟨"NameReaders", "<init>", "()V"⟩, prog_1_method_1_code, 4, (Option.none : Option Jvm.ClassFile.FieldType), B_X_init, L_X_init, P_X_init, [105, 104, 0, 81, 2, 1])
def B_X_reader : BT := fun b => match b with
  | 0 => (1, [(.aload_n 0, [], 0), (.iload_n 1, [], 0), (.invokevirtual 95, [k_X_readerOf, 2, 10, 3, 441], 0), (.astore 5, [], 0), (.aload 5, [], 0), (.ifnonnull 6, [2, 1], 0)])
  | 1 => (2, [(.bipush (-2), [], 0), (.ireturn, [0], 0)])
  | 2 => (3, [(.iload_n 2, [], 0), (.iconst 1, [], 0), (.bipush 6, [], 0), (.invokestatic 99, [k_X_within, 3, 1, 445], 0), (.ifCond .eq 19, [5, 3], 0)])
  | 3 => (4, [(.iload_n 3, [], 0), (.iconst 0, [], 0), (.iconst 3, [], 0), (.invokestatic 99, [k_X_within, 3, 1, 445], 0), (.ifCond .eq 10, [5, 4], 0)])
  | 4 => (5, [(.iload 4, [], 0), (.iload_n 2, [], 0), (.ishr, [], 0), (.ifCond .eq 6, [6, 5], 0)])
  | 5 => (6, [(.bipush (-3), [], 0), (.ireturn, [0], 0)])
  | 6 => (7, [(.aload 5, [], 0), (.iload_n 2, [], 0), (.iload_n 3, [], 0), (.iload 4, [], 0), (.invokevirtual 103, [k_Rd_become, 4, 4, 0, 448], 0), (.iconst 1, [], 0), (.ireturn, [0], 0)])
  | _ => (0, [])
def L_X_reader : Nat → List Bool := fun b => match b with
  | 0 => [true, true, true, true, true, false]
  | 1 => [false, false, false, false, false, false]
  | 2 => [false, false, true, true, true, true]
  | 3 => [false, false, true, true, true, true]
  | 4 => [false, false, true, true, true, true]
  | 5 => [false, false, false, false, false, false]
  | 6 => [false, false, true, true, true, true]
  | _ => []
def P_X_reader : List Nat := [0, 12, 15, 25, 34, 41, 44]
def K_X_reader : KE := (⟨"NameReaders", "reader", "(IIII)I"⟩, prog_1_method_2_code, 6, (Option.some Jvm.ClassFile.FieldType.int), B_X_reader, L_X_reader, P_X_reader, [440, 438, 439, 81, 0, 5])
def B_X_write : BT := fun b => match b with
  | 0 => (1, [(.iload_n 3, [], 0), (.iconst 1, [], 0), (.bipush 8, [], 0), (.invokestatic 99, [k_X_within, 3, 1, 445], 0), (.ifCond .ne 6, [2, 1], 0)])
  | 1 => (2, [(.bipush (-3), [], 0), (.ireturn, [0], 0)])
  | 2 => (3, [(.aload_n 0, [], 0), (.getfield 25, [10, 3, 2, 406], 0), (.invokevirtual 107, [k_Tx_size, 1, 8, 1, 464], 0), (.iload_n 3, [], 0), (.iadd, [], 0), (.sipush 150, [], 0), (.if_icmp .le 6, [4, 3], 0)])
  | 3 => (4, [(.bipush (-5), [], 0), (.ireturn, [0], 0)])
  | 4 => (5, [(.aload_n 0, [], 0), (.getfield 25, [10, 3, 2, 406], 0), (.lload_n 1, [], 0), (.iload_n 3, [], 0), (.invokevirtual 111, [k_Tx_put, 3, 8, 1, 468], 0), (.ireturn, [0], 0)])
  | _ => (0, [])
def L_X_write : Nat → List Bool := fun b => match b with
  | 0 => [true, true, false, true]
  | 1 => [false, false, false, false]
  | 2 => [true, true, false, true]
  | 3 => [false, false, false, false]
  | 4 => [true, true, false, true]
  | _ => []
def P_X_write : List Nat := [0, 10, 13, 28, 31]
def K_X_write : KE := (⟨"NameReaders", "write", "(JI)I"⟩, prog_1_method_3_code, 4, (Option.some Jvm.ClassFile.FieldType.int), B_X_write, L_X_write, P_X_write, [463, 461, 462, 81, 0, 3])
def B_X_erase : BT := fun b => match b with
  | 0 => (1, [(.aload_n 0, [], 0), (.getfield 25, [10, 3, 2, 406], 0), (.invokevirtual 115, [k_Tx_wipe, 1, 8, 1, 477], 0), (.ireturn, [0], 0)])
  | _ => (0, [])
def L_X_erase : Nat → List Bool := fun b => match b with
  | 0 => [true]
  | _ => []
def P_X_erase : List Nat := [0]
def K_X_erase : KE := (⟨"NameReaders", "erase", "()I"⟩, prog_1_method_4_code, 1, (Option.some Jvm.ClassFile.FieldType.int), B_X_erase, L_X_erase, P_X_erase, [476, 474, 475, 81, 0, 1])
def B_X_fault : BT := fun b => match b with
  | 0 => (1, [(.aload_n 0, [], 0), (.iload_n 1, [], 0), (.invokevirtual 95, [k_X_readerOf, 2, 10, 3, 441], 0), (.astore_n 2, [], 0), (.aload_n 2, [], 0), (.ifnonnull 8, [2, 1], 0)])
  | 1 => (2, [(.bipush (-2), [], 0), (.goto 11, [3], 0)])
  | 2 => (3, [(.aload_n 0, [], 0), (.getfield 25, [10, 3, 2, 406], 0), (.aload_n 2, [], 0), (.invokevirtual 118, [k_Tx_parse, 2, 8, 1, 485], 0)])
  | 3 => (4, [(.ireturn, [0], 0)])
  | _ => (0, [])
def L_X_fault : Nat → List Bool := fun b => match b with
  | 0 => [true, true, false]
  | 1 => [false, false, false]
  | 2 => [true, false, true]
  | 3 => [false, false, false]
  | _ => []
def P_X_fault : List Nat := [0, 10, 15, 23]
def K_X_fault : KE := (⟨"NameReaders", "fault", "(I)I"⟩, prog_1_method_5_code, 3, (Option.some Jvm.ClassFile.FieldType.int), B_X_fault, L_X_fault, P_X_fault, [484, 482, 483, 81, 0, 2])
def B_X_moves : BT := fun b => match b with
  | 0 => (1, [(.aload_n 0, [], 0), (.iload_n 1, [], 0), (.invokevirtual 95, [k_X_readerOf, 2, 10, 3, 441], 0), (.astore_n 2, [], 0), (.aload_n 2, [], 0), (.ifnonnull 6, [2, 1], 0)])
  | 1 => (2, [(.bipush (-2), [], 0), (.ireturn, [0], 0)])
  | 2 => (3, [(.aload_n 0, [], 0), (.getfield 25, [10, 3, 2, 406], 0), (.aload_n 2, [], 0), (.invokevirtual 118, [k_Tx_parse, 2, 8, 1, 485], 0), (.iconst (-1), [], 0), (.if_icmp .eq 6, [4, 3], 0)])
  | 3 => (4, [(.bipush (-4), [], 0), (.ireturn, [0], 0)])
  | 4 => (5, [(.aload_n 2, [], 0), (.invokevirtual 122, [k_Rd_size, 1, 4, 1, 586], 0), (.aload_n 0, [], 0), (.getfield 25, [10, 3, 2, 406], 0), (.invokevirtual 123, [k_Tx_found, 1, 8, 1, 590], 0), (.iadd, [], 0), (.bipush 20, [], 0), (.if_icmp .le 6, [6, 5], 0)])
  | 5 => (6, [(.bipush (-5), [], 0), (.ireturn, [0], 0)])
  | 6 => (7, [(.aload_n 2, [], 0), (.aload_n 0, [], 0), (.getfield 25, [10, 3, 2, 406], 0), (.invokevirtual 126, [k_Tx_told, 1, 8, 3, 594], 0), (.aload_n 0, [], 0), (.getfield 25, [10, 3, 2, 406], 0), (.invokevirtual 123, [k_Tx_found, 1, 8, 1, 590], 0), (.invokevirtual 130, [k_Rd_appendAll, 3, 4, 0, 598], 0), (.aload_n 0, [], 0), (.getfield 25, [10, 3, 2, 406], 0), (.invokevirtual 115, [k_Tx_wipe, 1, 8, 1, 477], 0), (.pop, [], 0), (.aload_n 2, [], 0), (.invokevirtual 122, [k_Rd_size, 1, 4, 1, 586], 0), (.ireturn, [0], 0)])
  | _ => (0, [])
def L_X_moves : Nat → List Bool := fun b => match b with
  | 0 => [true, true, false]
  | 1 => [false, false, false]
  | 2 => [true, false, true]
  | 3 => [false, false, false]
  | 4 => [true, false, true]
  | 5 => [false, false, false]
  | 6 => [true, false, true]
  | _ => []
def P_X_moves : List Nat := [0, 10, 13, 25, 28, 45, 48]
def K_X_moves : KE := (⟨"NameReaders", "moves", "(I)I"⟩, prog_1_method_6_code, 3, (Option.some Jvm.ClassFile.FieldType.int), B_X_moves, L_X_moves, P_X_moves, [585, 583, 584, 81, 0, 2])
def B_X_move : BT := fun b => match b with
  | 0 => (1, [(.aload_n 0, [], 0), (.iload_n 1, [], 0), (.invokevirtual 95, [k_X_readerOf, 2, 10, 3, 441], 0), (.astore 4, [], 0), (.aload 4, [], 0), (.ifnull 18, [2, 1], 0)])
  | 1 => (2, [(.iload_n 2, [], 0), (.iconst 0, [], 0), (.aload 4, [], 0), (.invokevirtual 122, [k_Rd_size, 1, 4, 1, 586], 0), (.iconst 1, [], 0), (.isub, [], 0), (.invokestatic 99, [k_X_within, 3, 1, 445], 0), (.ifCond .ne 6, [3, 2], 0)])
  | 2 => (3, [(.bipush (-2), [], 0), (.ireturn, [0], 0)])
  | 3 => (4, [(.iload_n 3, [], 0), (.iconst 0, [], 0), (.iconst 4, [], 0), (.invokestatic 99, [k_X_within, 3, 1, 445], 0), (.ifCond .eq 13, [5, 4], 0)])
  | 4 => (5, [(.aload 4, [], 0), (.iload_n 2, [], 0), (.iload_n 3, [], 0), (.invokevirtual 134, [k_Rd_part, 3, 4, 1, 609], 0), (.goto 5, [6], 0)])
  | 5 => (6, [(.bipush (-3), [], 0)])
  | 6 => (7, [(.ireturn, [0], 0)])
  | _ => (0, [])
def L_X_move : Nat → List Bool := fun b => match b with
  | 0 => [true, true, true, true, false]
  | 1 => [false, false, true, true, true]
  | 2 => [false, false, false, false, false]
  | 3 => [false, false, true, true, true]
  | 4 => [false, false, true, true, true]
  | 5 => [false, false, false, false, false]
  | 6 => [false, false, false, false, false]
  | _ => []
def P_X_move : List Nat := [0, 12, 27, 30, 39, 49, 51]
def K_X_move : KE := (⟨"NameReaders", "move", "(III)I"⟩, prog_1_method_7_code, 5, (Option.some Jvm.ClassFile.FieldType.int), B_X_move, L_X_move, P_X_move, [608, 606, 607, 81, 0, 4])
def B_X_drop : BT := fun b => match b with
  | 0 => (1, [(.aload_n 0, [], 0), (.iload_n 1, [], 0), (.invokevirtual 95, [k_X_readerOf, 2, 10, 3, 441], 0), (.astore_n 3, [], 0), (.aload_n 3, [], 0), (.ifnull 17, [2, 1], 0)])
  | 1 => (2, [(.iload_n 2, [], 0), (.iconst 0, [], 0), (.aload_n 3, [], 0), (.invokevirtual 122, [k_Rd_size, 1, 4, 1, 586], 0), (.iconst 1, [], 0), (.isub, [], 0), (.invokestatic 99, [k_X_within, 3, 1, 445], 0), (.ifCond .ne 6, [3, 2], 0)])
  | 2 => (3, [(.bipush (-2), [], 0), (.ireturn, [0], 0)])
  | 3 => (4, [(.aload_n 3, [], 0), (.iload_n 2, [], 0), (.invokevirtual 138, [k_Rd_remove, 2, 4, 0, 614], 0), (.aload_n 3, [], 0), (.invokevirtual 122, [k_Rd_size, 1, 4, 1, 586], 0), (.ireturn, [0], 0)])
  | _ => (0, [])
def L_X_drop : Nat → List Bool := fun b => match b with
  | 0 => [true, true, true, false]
  | 1 => [false, false, true, true]
  | 2 => [false, false, false, false]
  | 3 => [false, false, true, true]
  | _ => []
def P_X_drop : List Nat := [0, 10, 24, 27]
def K_X_drop : KE := (⟨"NameReaders", "drop", "(II)I"⟩, prog_1_method_8_code, 4, (Option.some Jvm.ClassFile.FieldType.int), B_X_drop, L_X_drop, P_X_drop, [613, 611, 612, 81, 0, 3])
def B_X_pair : BT := fun b => match b with
  | 0 => (1, [(.iload_n 1, [], 0), (.iload_n 2, [], 0), (.invokestatic 141, [k_X_isPair, 2, 1, 622], 0), (.ifCond .ne 6, [2, 1], 0)])
  | 1 => (2, [(.bipush (-3), [], 0), (.ireturn, [0], 0)])
  | 2 => (3, [(.aload_n 0, [], 0), (.getfield 32, [10, 4, 2, 407], 0), (.invokevirtual 145, [k_Rw_size, 1, 5, 1, 625], 0), (.bipush 12, [], 0), (.if_icmp .lt 6, [4, 3], 0)])
  | 3 => (4, [(.bipush (-5), [], 0), (.ireturn, [0], 0)])
  | 4 => (5, [(.aload_n 0, [], 0), (.getfield 32, [10, 4, 2, 407], 0), (.iload_n 1, [], 0), (.iload_n 2, [], 0), (.invokevirtual 146, [k_Rw_append, 3, 5, 0, 629], 0), (.aload_n 0, [], 0), (.getfield 32, [10, 4, 2, 407], 0), (.invokevirtual 145, [k_Rw_size, 1, 5, 1, 625], 0), (.ireturn, [0], 0)])
  | _ => (0, [])
def L_X_pair : Nat → List Bool := fun b => match b with
  | 0 => [true, true, true]
  | 1 => [false, false, false]
  | 2 => [true, true, true]
  | 3 => [false, false, false]
  | 4 => [true, true, true]
  | _ => []
def P_X_pair : List Nat := [0, 8, 11, 23, 26]
def K_X_pair : KE := (⟨"NameReaders", "pair", "(II)I"⟩, prog_1_method_9_code, 3, (Option.some Jvm.ClassFile.FieldType.int), B_X_pair, L_X_pair, P_X_pair, [621, 619, 620, 81, 0, 3])
def B_X_change : BT := fun b => match b with
  | 0 => (1, [(.iload_n 1, [], 0), (.iconst 0, [], 0), (.aload_n 0, [], 0), (.getfield 32, [10, 4, 2, 407], 0), (.invokevirtual 145, [k_Rw_size, 1, 5, 1, 625], 0), (.iconst 1, [], 0), (.isub, [], 0), (.invokestatic 99, [k_X_within, 3, 1, 445], 0), (.ifCond .ne 6, [2, 1], 0)])
  | 1 => (2, [(.bipush (-2), [], 0), (.ireturn, [0], 0)])
  | 2 => (3, [(.iload_n 2, [], 0), (.iload_n 3, [], 0), (.invokestatic 141, [k_X_isPair, 2, 1, 622], 0), (.ifCond .ne 6, [4, 3], 0)])
  | 3 => (4, [(.bipush (-3), [], 0), (.ireturn, [0], 0)])
  | 4 => (5, [(.aload_n 0, [], 0), (.getfield 32, [10, 4, 2, 407], 0), (.iload_n 1, [], 0), (.iload_n 2, [], 0), (.iload_n 3, [], 0), (.invokevirtual 150, [k_Rw_put, 4, 5, 0, 653], 0), (.iconst 1, [], 0), (.ireturn, [0], 0)])
  | _ => (0, [])
def L_X_change : Nat → List Bool := fun b => match b with
  | 0 => [true, true, true, true]
  | 1 => [false, false, false, false]
  | 2 => [true, true, true, true]
  | 3 => [false, false, false, false]
  | 4 => [true, true, true, true]
  | _ => []
def P_X_change : List Nat := [0, 17, 20, 28, 31]
def K_X_change : KE := (⟨"NameReaders", "change", "(III)I"⟩, prog_1_method_10_code, 4, (Option.some Jvm.ClassFile.FieldType.int), B_X_change, L_X_change, P_X_change, [652, 650, 651, 81, 0, 4])
def B_X_hush : BT := fun b => match b with
  | 0 => (1, [(.aload_n 0, [], 0), (.getfield 32, [10, 4, 2, 407], 0), (.invokevirtual 152, [k_Rw_wipe, 1, 5, 1, 658], 0), (.ireturn, [0], 0)])
  | _ => (0, [])
def L_X_hush : Nat → List Bool := fun b => match b with
  | 0 => [true]
  | _ => []
def P_X_hush : List Nat := [0]
def K_X_hush : KE := (⟨"NameReaders", "hush", "()I"⟩, prog_1_method_11_code, 1, (Option.some Jvm.ClassFile.FieldType.int), B_X_hush, L_X_hush, P_X_hush, [657, 655, 656, 81, 0, 1])
def B_X_taken : BT := fun b => match b with
  | 0 => (1, [(.aload_n 0, [], 0), (.iload_n 1, [], 0), (.invokevirtual 95, [k_X_readerOf, 2, 10, 3, 441], 0), (.astore_n 2, [], 0), (.aload_n 2, [], 0), (.ifnonnull 6, [2, 1], 0)])
  | 1 => (2, [(.bipush (-2), [], 0), (.ireturn, [0], 0)])
  | 2 => (3, [(.aload_n 0, [], 0), (.getfield 32, [10, 4, 2, 407], 0), (.invokevirtual 153, [k_Rw_gaps, 1, 5, 1, 666], 0), (.ifCond .le 6, [4, 3], 0)])
  | 3 => (4, [(.bipush (-4), [], 0), (.ireturn, [0], 0)])
  | 4 => (5, [(.aload_n 2, [], 0), (.aload_n 0, [], 0), (.getfield 46, [10, 5, 2, 408], 0), (.aload_n 2, [], 0), (.aload_n 0, [], 0), (.getfield 32, [10, 4, 2, 407], 0), (.aload_n 0, [], 0), (.getfield 32, [10, 4, 2, 407], 0), (.invokevirtual 145, [k_Rw_size, 1, 5, 1, 625], 0), (.invokevirtual 155, [k_Wk_statesBehind, 4, 9, 1, 670], 0), (.invokevirtual 159, [k_Rd_takesSome, 2, 4, 1, 739], 0), (.ifCond .eq 7, [6, 5], 0)])
  | 5 => (6, [(.iconst 1, [], 0), (.goto 4, [7], 0)])
  | 6 => (7, [(.iconst 0, [], 0)])
  | 7 => (8, [(.ireturn, [0], 0)])
  | _ => (0, [])
def L_X_taken : Nat → List Bool := fun b => match b with
  | 0 => [true, true, false]
  | 1 => [false, false, false]
  | 2 => [true, false, true]
  | 3 => [false, false, false]
  | 4 => [true, false, true]
  | 5 => [false, false, false]
  | 6 => [false, false, false]
  | 7 => [false, false, false]
  | _ => []
def P_X_taken : List Nat := [0, 10, 13, 23, 26, 52, 56, 57]
def K_X_taken : KE := (⟨"NameReaders", "taken", "(I)I"⟩, prog_1_method_12_code, 3, (Option.some Jvm.ClassFile.FieldType.int), B_X_taken, L_X_taken, P_X_taken, [665, 663, 664, 81, 0, 2])
def B_X_may : BT := fun b => match b with
  | 0 => (1, [(.aload_n 0, [], 0), (.iload_n 1, [], 0), (.invokevirtual 95, [k_X_readerOf, 2, 10, 3, 441], 0), (.astore_n 3, [], 0), (.aload_n 3, [], 0), (.ifnonnull 6, [2, 1], 0)])
  | 1 => (2, [(.bipush (-2), [], 0), (.ireturn, [0], 0)])
  | 2 => (3, [(.iload_n 2, [], 0), (.iconst 0, [], 0), (.aload_n 0, [], 0), (.getfield 32, [10, 4, 2, 407], 0), (.invokevirtual 145, [k_Rw_size, 1, 5, 1, 625], 0), (.invokestatic 99, [k_X_within, 3, 1, 445], 0), (.ifCond .ne 6, [4, 3], 0)])
  | 3 => (4, [(.bipush (-3), [], 0), (.ireturn, [0], 0)])
  | 4 => (5, [(.aload_n 0, [], 0), (.getfield 32, [10, 4, 2, 407], 0), (.invokevirtual 153, [k_Rw_gaps, 1, 5, 1, 666], 0), (.ifCond .le 8, [6, 5], 0)])
  | 5 => (6, [(.bipush (-4), [], 0), (.goto 16, [7], 0)])
  | 6 => (7, [(.aload_n 0, [], 0), (.getfield 46, [10, 5, 2, 408], 0), (.aload_n 3, [], 0), (.aload_n 0, [], 0), (.getfield 32, [10, 4, 2, 407], 0), (.iload_n 2, [], 0), (.invokevirtual 155, [k_Wk_statesBehind, 4, 9, 1, 670], 0)])
  | 7 => (8, [(.ireturn, [0], 0)])
  | _ => (0, [])
def L_X_may : Nat → List Bool := fun b => match b with
  | 0 => [true, true, true, false]
  | 1 => [false, false, false, false]
  | 2 => [true, false, true, true]
  | 3 => [false, false, false, false]
  | 4 => [true, false, true, true]
  | 5 => [false, false, false, false]
  | 6 => [true, false, true, true]
  | 7 => [false, false, false, false]
  | _ => []
def P_X_may : List Nat := [0, 10, 13, 28, 31, 41, 46, 59]
def K_X_may : KE := (⟨"NameReaders", "may", "(II)I"⟩, prog_1_method_13_code, 4, (Option.some Jvm.ClassFile.FieldType.int), B_X_may, L_X_may, P_X_may, [746, 744, 745, 81, 0, 3])
def B_X_runs : BT := fun b => match b with
  | 0 => (1, [(.aload_n 0, [], 0), (.iload_n 1, [], 0), (.invokevirtual 95, [k_X_readerOf, 2, 10, 3, 441], 0), (.astore_n 2, [], 0), (.aload_n 2, [], 0), (.ifnonnull 6, [2, 1], 0)])
  | 1 => (2, [(.bipush (-2), [], 0), (.ireturn, [0], 0)])
  | 2 => (3, [(.aload_n 0, [], 0), (.getfield 32, [10, 4, 2, 407], 0), (.invokevirtual 153, [k_Rw_gaps, 1, 5, 1, 666], 0), (.ifCond .le 8, [4, 3], 0)])
  | 3 => (4, [(.bipush (-4), [], 0), (.goto 15, [5], 0)])
  | 4 => (5, [(.aload_n 0, [], 0), (.getfield 46, [10, 5, 2, 408], 0), (.aload_n 2, [], 0), (.aload_n 0, [], 0), (.getfield 32, [10, 4, 2, 407], 0), (.invokevirtual 163, [k_Wk_runsThatTake, 3, 9, 1, 751], 0)])
  | 5 => (6, [(.ireturn, [0], 0)])
  | _ => (0, [])
def L_X_runs : Nat → List Bool := fun b => match b with
  | 0 => [true, true, false]
  | 1 => [false, false, false]
  | 2 => [true, false, true]
  | 3 => [false, false, false]
  | 4 => [true, false, true]
  | 5 => [false, false, false]
  | _ => []
def P_X_runs : List Nat := [0, 10, 13, 23, 28, 40]
def K_X_runs : KE := (⟨"NameReaders", "runs", "(I)I"⟩, prog_1_method_14_code, 3, (Option.some Jvm.ClassFile.FieldType.int), B_X_runs, L_X_runs, P_X_runs, [750, 748, 749, 81, 0, 2])
def B_X_run : BT := fun b => match b with
  | 0 => (1, [(.aload_n 0, [], 0), (.iload_n 1, [], 0), (.invokevirtual 95, [k_X_readerOf, 2, 10, 3, 441], 0), (.astore_n 3, [], 0), (.aload_n 3, [], 0), (.ifnonnull 6, [2, 1], 0)])
  | 1 => (2, [(.bipush (-2), [], 0), (.ireturn, [0], 0)])
  | 2 => (3, [(.iload_n 2, [], 0), (.ifCond .ge 6, [4, 3], 0)])
  | 3 => (4, [(.bipush (-3), [], 0), (.ireturn, [0], 0)])
  | 4 => (5, [(.aload_n 0, [], 0), (.getfield 32, [10, 4, 2, 407], 0), (.invokevirtual 153, [k_Rw_gaps, 1, 5, 1, 666], 0), (.ifCond .le 6, [6, 5], 0)])
  | 5 => (6, [(.bipush (-4), [], 0), (.ireturn, [0], 0)])
  | 6 => (7, [(.iload_n 2, [], 0), (.aload_n 0, [], 0), (.getfield 32, [10, 4, 2, 407], 0), (.invokevirtual 145, [k_Rw_size, 1, 5, 1, 625], 0), (.if_icmp .ge 29, [9, 7], 0)])
  | 7 => (8, [(.aload_n 0, [], 0), (.getfield 46, [10, 5, 2, 408], 0), (.aload_n 3, [], 0), (.aload_n 0, [], 0), (.getfield 32, [10, 4, 2, 407], 0), (.invokevirtual 167, [k_Wk_findRun, 3, 9, 1, 798], 0), (.ifCond .eq 14, [9, 8], 0)])
  | 8 => (9, [(.aload_n 0, [], 0), (.getfield 46, [10, 5, 2, 408], 0), (.iload_n 2, [], 0), (.invokevirtual 171, [k_Wk_moveOfRun, 2, 9, 1, 814], 0), (.goto 4, [10], 0)])
  | 9 => (10, [(.iconst (-1), [], 0)])
  | 10 => (11, [(.ireturn, [0], 0)])
  | _ => (0, [])
def L_X_run : Nat → List Bool := fun b => match b with
  | 0 => [true, true, true, false]
  | 1 => [false, false, false, false]
  | 2 => [true, false, true, true]
  | 3 => [false, false, false, false]
  | 4 => [true, false, true, true]
  | 5 => [false, false, false, false]
  | 6 => [true, false, true, true]
  | 7 => [true, false, true, true]
  | 8 => [true, false, true, false]
  | 9 => [false, false, false, false]
  | 10 => [false, false, false, false]
  | _ => []
def P_X_run : List Nat := [0, 10, 13, 17, 20, 30, 33, 44, 59, 70, 71]
def K_X_run : KE := (⟨"NameReaders", "run", "(II)I"⟩, prog_1_method_15_code, 4, (Option.some Jvm.ClassFile.FieldType.int), B_X_run, L_X_run, P_X_run, [797, 795, 796, 81, 0, 3])
def B_X_shapes : BT := fun b => match b with
  | 0 => (1, [(.aload_n 0, [], 0), (.iload_n 1, [], 0), (.invokevirtual 95, [k_X_readerOf, 2, 10, 3, 441], 0), (.astore 4, [], 0), (.aload 4, [], 0), (.ifnonnull 6, [2, 1], 0)])
  | 1 => (2, [(.bipush (-2), [], 0), (.ireturn, [0], 0)])
  | 2 => (3, [(.iload_n 2, [], 0), (.iconst 0, [], 0), (.bipush 6, [], 0), (.invokestatic 99, [k_X_within, 3, 1, 445], 0), (.ifCond .eq 12, [4, 3], 0)])
  | 3 => (4, [(.iload_n 3, [], 0), (.iconst 1, [], 0), (.iconst 3, [], 0), (.invokestatic 99, [k_X_within, 3, 1, 445], 0), (.ifCond .ne 6, [5, 4], 0)])
  | 4 => (5, [(.bipush (-3), [], 0), (.ireturn, [0], 0)])
  | 5 => (6, [(.aload_n 0, [], 0), (.getfield 73, [10, 8, 2, 411], 0), (.aload 4, [], 0), (.aload_n 0, [], 0), (.getfield 19, [10, 2, 2, 405], 0), (.iload_n 2, [], 0), (.iload_n 3, [], 0), (.ldc 175, [0, 822], 1000000001), (.invokevirtual 176, [k_Ss_find, 6, 6, 1, 823], 0), (.pop, [], 0), (.aload_n 0, [], 0), (.getfield 73, [10, 8, 2, 411], 0), (.invokevirtual 180, [k_Ss_passed, 1, 6, 1, 872], 0), (.ireturn, [0], 0)])
  | _ => (0, [])
def L_X_shapes : Nat → List Bool := fun b => match b with
  | 0 => [true, true, true, true, false]
  | 1 => [false, false, false, false, false]
  | 2 => [true, false, true, true, true]
  | 3 => [true, false, true, true, true]
  | 4 => [false, false, false, false, false]
  | 5 => [true, false, true, true, true]
  | _ => []
def P_X_shapes : List Nat := [0, 12, 15, 25, 34, 37]
def K_X_shapes : KE := (⟨"NameReaders", "shapes", "(III)I"⟩, prog_1_method_16_code, 5, (Option.some Jvm.ClassFile.FieldType.int), B_X_shapes, L_X_shapes, P_X_shapes, [821, 819, 820, 81, 0, 4])
def B_X_shape : BT := fun b => match b with
  | 0 => (1, [(.aload_n 0, [], 0), (.iload_n 1, [], 0), (.invokevirtual 95, [k_X_readerOf, 2, 10, 3, 441], 0), (.astore 6, [], 0), (.aload 6, [], 0), (.ifnonnull 6, [2, 1], 0)])
  | 1 => (2, [(.bipush (-2), [], 0), (.ireturn, [0], 0)])
  | 2 => (3, [(.iload_n 2, [], 0), (.iconst 0, [], 0), (.bipush 6, [], 0), (.invokestatic 99, [k_X_within, 3, 1, 445], 0), (.ifCond .eq 22, [6, 3], 0)])
  | 3 => (4, [(.iload_n 3, [], 0), (.iconst 1, [], 0), (.iconst 3, [], 0), (.invokestatic 99, [k_X_within, 3, 1, 445], 0), (.ifCond .eq 13, [6, 4], 0)])
  | 4 => (5, [(.iload 4, [], 0), (.ifCond .lt 8, [6, 5], 0)])
  | 5 => (6, [(.iload 5, [], 0), (.ifCond .ge 6, [7, 6], 0)])
  | 6 => (7, [(.bipush (-3), [], 0), (.ireturn, [0], 0)])
  | 7 => (8, [(.iload 5, [], 0), (.iload_n 2, [], 0), (.if_icmp .ge 35, [10, 8], 0)])
  | 8 => (9, [(.aload_n 0, [], 0), (.getfield 73, [10, 8, 2, 411], 0), (.aload 6, [], 0), (.aload_n 0, [], 0), (.getfield 19, [10, 2, 2, 405], 0), (.iload_n 2, [], 0), (.iload_n 3, [], 0), (.iload 4, [], 0), (.invokevirtual 176, [k_Ss_find, 6, 6, 1, 823], 0), (.ifCond .eq 15, [10, 9], 0)])
  | 9 => (10, [(.aload_n 0, [], 0), (.getfield 73, [10, 8, 2, 411], 0), (.iload 5, [], 0), (.invokevirtual 183, [k_Ss_pairAt, 2, 6, 1, 880], 0), (.goto 4, [11], 0)])
  | 10 => (11, [(.iconst (-1), [], 0)])
  | 11 => (12, [(.ireturn, [0], 0)])
  | _ => (0, [])
def L_X_shape : Nat → List Bool := fun b => match b with
  | 0 => [true, true, true, true, true, true, false]
  | 1 => [false, false, false, false, false, false, false]
  | 2 => [true, false, true, true, true, true, true]
  | 3 => [true, false, true, true, true, true, true]
  | 4 => [true, false, true, true, true, true, true]
  | 5 => [true, false, true, true, true, true, true]
  | 6 => [false, false, false, false, false, false, false]
  | 7 => [true, false, true, true, true, true, true]
  | 8 => [true, false, true, true, true, true, true]
  | 9 => [true, false, false, false, false, true, false]
  | 10 => [false, false, false, false, false, false, false]
  | 11 => [false, false, false, false, false, false, false]
  | _ => []
def P_X_shape : List Nat := [0, 12, 15, 25, 34, 39, 44, 47, 53, 73, 85, 86]
def K_X_shape : KE := (⟨"NameReaders", "shape", "(IIIII)I"⟩, prog_1_method_17_code, 7, (Option.some Jvm.ClassFile.FieldType.int), B_X_shape, L_X_shape, P_X_shape, [879, 877, 878, 81, 0, 6])
def B_X_least : BT := fun b => match b with
  | 0 => (1, [(.aload_n 0, [], 0), (.iload_n 1, [], 0), (.invokevirtual 95, [k_X_readerOf, 2, 10, 3, 441], 0), (.astore_n 2, [], 0), (.aload_n 2, [], 0), (.ifnonnull 8, [2, 1], 0)])
  | 1 => (2, [(.bipush (-2), [], 0), (.goto 11, [3], 0)])
  | 2 => (3, [(.aload_n 0, [], 0), (.getfield 82, [10, 9, 2, 412], 0), (.aload_n 2, [], 0), (.invokevirtual 186, [k_Ol_shortest, 2, 3, 1, 888], 0)])
  | 3 => (4, [(.ireturn, [0], 0)])
  | _ => (0, [])
def L_X_least : Nat → List Bool := fun b => match b with
  | 0 => [true, true, false]
  | 1 => [false, false, false]
  | 2 => [true, false, true]
  | 3 => [false, false, false]
  | _ => []
def P_X_least : List Nat := [0, 10, 15, 23]
def K_X_least : KE := (⟨"NameReaders", "least", "(I)I"⟩, prog_1_method_18_code, 3, (Option.some Jvm.ClassFile.FieldType.int), B_X_least, L_X_least, P_X_least, [887, 885, 886, 81, 0, 2])
def B_X_first : BT := fun b => match b with
  | 0 => (1, [(.aload_n 0, [], 0), (.iload_n 1, [], 0), (.invokevirtual 95, [k_X_readerOf, 2, 10, 3, 441], 0), (.astore_n 3, [], 0), (.aload_n 3, [], 0), (.ifnonnull 6, [2, 1], 0)])
  | 1 => (2, [(.bipush (-2), [], 0), (.ireturn, [0], 0)])
  | 2 => (3, [(.iload_n 2, [], 0), (.ifCond .ge 6, [4, 3], 0)])
  | 3 => (4, [(.bipush (-3), [], 0), (.ireturn, [0], 0)])
  | 4 => (5, [(.aload_n 0, [], 0), (.getfield 82, [10, 9, 2, 412], 0), (.aload_n 3, [], 0), (.invokevirtual 186, [k_Ol_shortest, 2, 3, 1, 888], 0), (.istore 4, [], 0), (.iload 4, [], 0), (.bipush 12, [], 0), (.if_icmp .gt 9, [6, 5], 0)])
  | 5 => (6, [(.iload_n 2, [], 0), (.iload 4, [], 0), (.if_icmp .lt 5, [7, 6], 0)])
  | 6 => (7, [(.iconst (-1), [], 0), (.ireturn, [0], 0)])
  | 7 => (8, [(.aload_n 0, [], 0), (.getfield 82, [10, 9, 2, 412], 0), (.aload_n 3, [], 0), (.iload 4, [], 0), (.iload_n 2, [], 0), (.invokevirtual 189, [k_Ol_firstPair, 4, 3, 1, 931], 0), (.ireturn, [0], 0)])
  | _ => (0, [])
def L_X_first : Nat → List Bool := fun b => match b with
  | 0 => [true, true, true, false, false]
  | 1 => [false, false, false, false, false]
  | 2 => [true, false, true, true, false]
  | 3 => [false, false, false, false, false]
  | 4 => [true, false, true, true, false]
  | 5 => [true, false, true, true, true]
  | 6 => [false, false, false, false, false]
  | 7 => [true, false, true, true, true]
  | _ => []
def P_X_first : List Nat := [0, 10, 13, 17, 20, 37, 43, 45]
def K_X_first : KE := (⟨"NameReaders", "first", "(II)I"⟩, prog_1_method_19_code, 5, (Option.some Jvm.ClassFile.FieldType.int), B_X_first, L_X_first, P_X_first, [930, 928, 929, 81, 0, 3])
def B_X_useless : BT := fun b => match b with
  | 0 => (1, [(.aload_n 0, [], 0), (.iload_n 1, [], 0), (.invokevirtual 95, [k_X_readerOf, 2, 10, 3, 441], 0), (.astore_n 2, [], 0), (.aload_n 2, [], 0), (.ifnonnull 8, [2, 1], 0)])
  | 1 => (2, [(.bipush (-2), [], 0), (.goto 11, [3], 0)])
  | 2 => (3, [(.aload_n 0, [], 0), (.getfield 82, [10, 9, 2, 412], 0), (.aload_n 2, [], 0), (.invokevirtual 193, [k_Ol_neverMade, 2, 3, 1, 952], 0)])
  | 3 => (4, [(.ireturn, [0], 0)])
  | _ => (0, [])
def L_X_useless : Nat → List Bool := fun b => match b with
  | 0 => [true, true, false]
  | 1 => [false, false, false]
  | 2 => [true, false, true]
  | 3 => [false, false, false]
  | _ => []
def P_X_useless : List Nat := [0, 10, 15, 23]
def K_X_useless : KE := (⟨"NameReaders", "useless", "(I)I"⟩, prog_1_method_20_code, 3, (Option.some Jvm.ClassFile.FieldType.int), B_X_useless, L_X_useless, P_X_useless, [951, 949, 950, 81, 0, 2])
def B_X_twofold : BT := fun b => match b with
  | 0 => (1, [(.aload_n 0, [], 0), (.iload_n 1, [], 0), (.invokevirtual 95, [k_X_readerOf, 2, 10, 3, 441], 0), (.astore_n 2, [], 0), (.aload_n 2, [], 0), (.ifnonnull 8, [2, 1], 0)])
  | 1 => (2, [(.bipush (-2), [], 0), (.goto 11, [3], 0)])
  | 2 => (3, [(.aload_n 0, [], 0), (.getfield 82, [10, 9, 2, 412], 0), (.aload_n 2, [], 0), (.invokevirtual 196, [k_Ol_twoAtOnce, 2, 3, 1, 961], 0)])
  | 3 => (4, [(.ireturn, [0], 0)])
  | _ => (0, [])
def L_X_twofold : Nat → List Bool := fun b => match b with
  | 0 => [true, true, false]
  | 1 => [false, false, false]
  | 2 => [true, false, true]
  | 3 => [false, false, false]
  | _ => []
def P_X_twofold : List Nat := [0, 10, 15, 23]
def K_X_twofold : KE := (⟨"NameReaders", "twofold", "(I)I"⟩, prog_1_method_21_code, 3, (Option.some Jvm.ClassFile.FieldType.int), B_X_twofold, L_X_twofold, P_X_twofold, [960, 958, 959, 81, 0, 2])
def B_X_both : BT := fun b => match b with
  | 0 => (1, [(.aload_n 0, [], 0), (.getfield 91, [10, 10, 2, 413], 0), (.invokevirtual 199, [k_Mt_shortest, 1, 1, 1, 972], 0), (.ireturn, [0], 0)])
  | _ => (0, [])
def L_X_both : Nat → List Bool := fun b => match b with
  | 0 => [true]
  | _ => []
def P_X_both : List Nat := [0]
def K_X_both : KE := (⟨"NameReaders", "both", "()I"⟩, prog_1_method_22_code, 1, (Option.some Jvm.ClassFile.FieldType.int), B_X_both, L_X_both, P_X_both, [971, 969, 970, 81, 0, 1])
def B_X_parted : BT := fun b => match b with
  | 0 => (1, [(.iload_n 1, [], 0), (.iconst 0, [], 0), (.iconst 5, [], 0), (.invokestatic 99, [k_X_within, 3, 1, 445], 0), (.ifCond .eq 8, [2, 1], 0)])
  | 1 => (2, [(.iload_n 2, [], 0), (.iconst (-1), [], 0), (.if_icmp .ge 6, [3, 2], 0)])
  | 2 => (3, [(.bipush (-3), [], 0), (.ireturn, [0], 0)])
  | 3 => (4, [(.iconst 0, [], 0), (.istore_n 3, [], 0)])
  | 4 => (5, [(.iload_n 3, [], 0), (.iload_n 1, [], 0), (.if_icmp .gt 54, [13, 5], 0)])
  | 5 => (6, [(.aload_n 0, [], 0), (.getfield 73, [10, 8, 2, 411], 0), (.aload_n 0, [], 0), (.getfield 12, [10, 0, 2, 403], 0), (.aload_n 0, [], 0), (.getfield 16, [10, 1, 2, 404], 0), (.iload_n 3, [], 0), (.iconst 3, [], 0), (.iconst 0, [], 0), (.invokevirtual 176, [k_Ss_find, 6, 6, 1, 823], 0), (.ifCond .eq 27, [12, 6], 0)])
  | 6 => (7, [(.iload_n 2, [], 0), (.ifCond .ge 5, [8, 7], 0)])
  | 7 => (8, [(.iload_n 3, [], 0), (.ireturn, [0], 0)])
  | 8 => (9, [(.iload_n 2, [], 0), (.iload_n 3, [], 0), (.if_icmp .ge 14, [10, 9], 0)])
  | 9 => (10, [(.aload_n 0, [], 0), (.getfield 73, [10, 8, 2, 411], 0), (.iload_n 2, [], 0), (.invokevirtual 183, [k_Ss_pairAt, 2, 6, 1, 880], 0), (.goto 4, [11], 0)])
  | 10 => (11, [(.iconst (-1), [], 0)])
  | 11 => (12, [(.ireturn, [0], 0)])
  | 12 => (13, [(.iinc 3 1, [], 0), (.goto (-53), [4], 0)])
  | 13 => (14, [(.iconst (-1), [], 0), (.ireturn, [0], 0)])
  | _ => (0, [])
def L_X_parted : Nat → List Bool := fun b => match b with
  | 0 => [true, true, true, false]
  | 1 => [true, true, true, false]
  | 2 => [false, false, false, false]
  | 3 => [true, true, true, false]
  | 4 => [true, true, true, true]
  | 5 => [true, true, true, true]
  | 6 => [true, false, true, true]
  | 7 => [false, false, false, true]
  | 8 => [true, false, true, true]
  | 9 => [true, false, true, false]
  | 10 => [false, false, false, false]
  | 11 => [false, false, false, false]
  | 12 => [true, true, true, true]
  | 13 => [false, false, false, false]
  | _ => []
def P_X_parted : List Nat := [0, 9, 14, 17, 19, 24, 45, 49, 51, 56, 67, 68, 69, 75]
def K_X_parted : KE := (⟨"NameReaders", "parted", "(II)I"⟩, prog_1_method_23_code, 4, (Option.some Jvm.ClassFile.FieldType.int), B_X_parted, L_X_parted, P_X_parted, [1010, 1008, 1009, 81, 0, 3])
def B_X_fillings : BT := fun b => match b with
  | 0 => (1, [(.aload_n 0, [], 0), (.iload_n 1, [], 0), (.invokevirtual 95, [k_X_readerOf, 2, 10, 3, 441], 0), (.astore_n 2, [], 0), (.aload_n 2, [], 0), (.ifnonnull 6, [2, 1], 0)])
  | 1 => (2, [(.bipush (-2), [], 0), (.ireturn, [0], 0)])
  | 2 => (3, [(.aload_n 0, [], 0), (.getfield 32, [10, 4, 2, 407], 0), (.invokevirtual 201, [k_Rw_gapPairs, 1, 5, 1, 1015], 0), (.iconst 3, [], 0), (.if_icmp .le 8, [4, 3], 0)])
  | 3 => (4, [(.bipush (-4), [], 0), (.goto 12, [5], 0)])
  | 4 => (5, [(.aload_n 0, [], 0), (.getfield 55, [10, 6, 2, 409], 0), (.aload_n 2, [], 0), (.iconst 0, [], 0), (.invokevirtual 204, [k_Fl_search, 3, 0, 1, 1019], 0)])
  | 5 => (6, [(.ireturn, [0], 0)])
  | _ => (0, [])
def L_X_fillings : Nat → List Bool := fun b => match b with
  | 0 => [true, true, false]
  | 1 => [false, false, false]
  | 2 => [true, false, true]
  | 3 => [false, false, false]
  | 4 => [true, false, true]
  | 5 => [false, false, false]
  | _ => []
def P_X_fillings : List Nat := [0, 10, 13, 24, 29, 38]
def K_X_fillings : KE := (⟨"NameReaders", "fillings", "(I)I"⟩, prog_1_method_24_code, 3, (Option.some Jvm.ClassFile.FieldType.int), B_X_fillings, L_X_fillings, P_X_fillings, [1014, 1012, 1013, 81, 0, 2])
def B_X_filled : BT := fun b => match b with
  | 0 => (1, [(.aload_n 0, [], 0), (.iload_n 1, [], 0), (.invokevirtual 95, [k_X_readerOf, 2, 10, 3, 441], 0), (.astore_n 3, [], 0), (.aload_n 3, [], 0), (.ifnonnull 6, [2, 1], 0)])
  | 1 => (2, [(.bipush (-2), [], 0), (.ireturn, [0], 0)])
  | 2 => (3, [(.iload_n 2, [], 0), (.ifCond .ge 6, [4, 3], 0)])
  | 3 => (4, [(.bipush (-3), [], 0), (.ireturn, [0], 0)])
  | 4 => (5, [(.aload_n 0, [], 0), (.getfield 32, [10, 4, 2, 407], 0), (.invokevirtual 201, [k_Rw_gapPairs, 1, 5, 1, 1015], 0), (.iconst 3, [], 0), (.if_icmp .le 6, [6, 5], 0)])
  | 5 => (6, [(.bipush (-4), [], 0), (.ireturn, [0], 0)])
  | 6 => (7, [(.iload_n 2, [], 0), (.aload_n 0, [], 0), (.getfield 32, [10, 4, 2, 407], 0), (.invokevirtual 145, [k_Rw_size, 1, 5, 1, 625], 0), (.if_icmp .ge 26, [9, 7], 0)])
  | 7 => (8, [(.aload_n 0, [], 0), (.getfield 55, [10, 6, 2, 409], 0), (.aload_n 3, [], 0), (.iconst 1, [], 0), (.invokevirtual 204, [k_Fl_search, 3, 0, 1, 1019], 0), (.ifCond .le 14, [9, 8], 0)])
  | 8 => (9, [(.aload_n 0, [], 0), (.getfield 55, [10, 6, 2, 409], 0), (.iload_n 2, [], 0), (.invokevirtual 207, [k_Fl_pairAt, 2, 0, 1, 1081], 0), (.goto 4, [10], 0)])
  | 9 => (10, [(.iconst (-1), [], 0)])
  | 10 => (11, [(.ireturn, [0], 0)])
  | _ => (0, [])
def L_X_filled : Nat → List Bool := fun b => match b with
  | 0 => [true, true, true, false]
  | 1 => [false, false, false, false]
  | 2 => [true, false, true, true]
  | 3 => [false, false, false, false]
  | 4 => [true, false, true, true]
  | 5 => [false, false, false, false]
  | 6 => [true, false, true, true]
  | 7 => [true, false, true, true]
  | 8 => [true, false, true, false]
  | 9 => [false, false, false, false]
  | 10 => [false, false, false, false]
  | _ => []
def P_X_filled : List Nat := [0, 10, 13, 17, 20, 31, 34, 45, 57, 68, 69]
def K_X_filled : KE := (⟨"NameReaders", "filled", "(II)I"⟩, prog_1_method_25_code, 4, (Option.some Jvm.ClassFile.FieldType.int), B_X_filled, L_X_filled, P_X_filled, [1080, 1078, 1079, 81, 0, 3])
def B_X_mend : BT := fun b => match b with
  | 0 => (1, [(.aload_n 0, [], 0), (.iload_n 1, [], 0), (.invokevirtual 95, [k_X_readerOf, 2, 10, 3, 441], 0), (.astore_n 2, [], 0), (.aload_n 2, [], 0), (.ifnonnull 6, [2, 1], 0)])
  | 1 => (2, [(.bipush (-2), [], 0), (.ireturn, [0], 0)])
  | 2 => (3, [(.aload_n 0, [], 0), (.getfield 32, [10, 4, 2, 407], 0), (.invokevirtual 153, [k_Rw_gaps, 1, 5, 1, 666], 0), (.ifCond .le 8, [4, 3], 0)])
  | 3 => (4, [(.bipush (-4), [], 0), (.goto 15, [5], 0)])
  | 4 => (5, [(.aload_n 0, [], 0), (.getfield 64, [10, 7, 2, 410], 0), (.aload_n 2, [], 0), (.aload_n 0, [], 0), (.getfield 32, [10, 4, 2, 407], 0), (.invokevirtual 208, [k_Mn_fewest, 3, 2, 1, 1089], 0)])
  | 5 => (6, [(.ireturn, [0], 0)])
  | _ => (0, [])
def L_X_mend : Nat → List Bool := fun b => match b with
  | 0 => [true, true, false]
  | 1 => [false, false, false]
  | 2 => [true, false, true]
  | 3 => [false, false, false]
  | 4 => [true, false, true]
  | 5 => [false, false, false]
  | _ => []
def P_X_mend : List Nat := [0, 10, 13, 23, 28, 40]
def K_X_mend : KE := (⟨"NameReaders", "mend", "(I)I"⟩, prog_1_method_26_code, 3, (Option.some Jvm.ClassFile.FieldType.int), B_X_mend, L_X_mend, P_X_mend, [1088, 1086, 1087, 81, 0, 2])
def B_X_count : BT := fun b => match b with
  | 0 => (1, [(.iload_n 1, [], 0), (.tableswitch 87 0 5 #[39, 47, 55, 63, 71, 79], [7, 1, 2, 3, 4, 5, 6], 0)])
  | 1 => (2, [(.aload_n 0, [], 0), (.getfield 32, [10, 4, 2, 407], 0), (.invokevirtual 145, [k_Rw_size, 1, 5, 1, 625], 0), (.ireturn, [0], 0)])
  | 2 => (3, [(.aload_n 0, [], 0), (.getfield 32, [10, 4, 2, 407], 0), (.invokevirtual 153, [k_Rw_gaps, 1, 5, 1, 666], 0), (.ireturn, [0], 0)])
  | 3 => (4, [(.aload_n 0, [], 0), (.getfield 32, [10, 4, 2, 407], 0), (.invokevirtual 211, [k_Rw_told, 1, 5, 1, 1145], 0), (.ireturn, [0], 0)])
  | 4 => (5, [(.aload_n 0, [], 0), (.getfield 25, [10, 3, 2, 406], 0), (.invokevirtual 107, [k_Tx_size, 1, 8, 1, 464], 0), (.ireturn, [0], 0)])
  | 5 => (6, [(.aload_n 0, [], 0), (.getfield 12, [10, 0, 2, 403], 0), (.invokevirtual 122, [k_Rd_size, 1, 4, 1, 586], 0), (.ireturn, [0], 0)])
  | 6 => (7, [(.aload_n 0, [], 0), (.getfield 16, [10, 1, 2, 404], 0), (.invokevirtual 122, [k_Rd_size, 1, 4, 1, 586], 0), (.ireturn, [0], 0)])
  | 7 => (8, [(.bipush (-3), [], 0), (.ireturn, [0], 0)])
  | _ => (0, [])
def L_X_count : Nat → List Bool := fun b => match b with
  | 0 => [true, true]
  | 1 => [true, false]
  | 2 => [true, false]
  | 3 => [true, false]
  | 4 => [true, false]
  | 5 => [true, false]
  | 6 => [true, false]
  | 7 => [false, false]
  | _ => []
def P_X_count : List Nat := [0, 40, 48, 56, 64, 72, 80, 88]
def K_X_count : KE := (⟨"NameReaders", "count", "(I)I"⟩, prog_1_method_27_code, 2, (Option.some Jvm.ClassFile.FieldType.int), B_X_count, L_X_count, P_X_count, [1144, 1142, 1143, 81, 0, 2])
def B_X_readerOf : BT := fun b => match b with
  | 0 => (1, [(.iload_n 1, [], 0), (.ifCond .ne 8, [2, 1], 0)])
  | 1 => (2, [(.aload_n 0, [], 0), (.getfield 12, [10, 0, 2, 403], 0), (.areturn, [], 0)])
  | 2 => (3, [(.iload_n 1, [], 0), (.iconst 1, [], 0), (.if_icmp .ne 10, [4, 3], 0)])
  | 3 => (4, [(.aload_n 0, [], 0), (.getfield 16, [10, 1, 2, 404], 0), (.goto 4, [5], 0)])
  | 4 => (5, [(.aconst_null, [], 0)])
  | 5 => (6, [(.areturn, [], 0)])
  | _ => (0, [])
def L_X_readerOf : Nat → List Bool := fun b => match b with
  | 0 => [true, true]
  | 1 => [true, false]
  | 2 => [true, true]
  | 3 => [true, false]
  | 4 => [false, false]
  | 5 => [false, false]
  | _ => []
def P_X_readerOf : List Nat := [0, 4, 9, 14, 21, 22]
def K_X_readerOf : KE := (⟨"NameReaders", "readerOf", "(I)LNameReaders$Reader;"⟩, prog_1_method_28_code, 2, (Option.some (Jvm.ClassFile.FieldType.object "NameReaders$Reader")), B_X_readerOf, L_X_readerOf, P_X_readerOf, [444, 443, 0, 81, 0, 2])
def B_X_within : BT := fun b => match b with
  | 0 => (1, [(.iload_n 0, [], 0), (.iload_n 1, [], 0), (.if_icmp .lt 12, [3, 1], 0)])
  | 1 => (2, [(.iload_n 0, [], 0), (.iload_n 2, [], 0), (.if_icmp .gt 7, [3, 2], 0)])
  | 2 => (3, [(.iconst 1, [], 0), (.goto 4, [4], 0)])
  | 3 => (4, [(.iconst 0, [], 0)])
  | 4 => (5, [(.ireturn, [1], 0)])
  | _ => (0, [])
def L_X_within : Nat → List Bool := fun b => match b with
  | 0 => [true, true, true]
  | 1 => [true, false, true]
  | 2 => [false, false, false]
  | 3 => [false, false, false]
  | 4 => [false, false, false]
  | _ => []
def P_X_within : List Nat := [0, 5, 10, 14, 15]
def K_X_within : KE := (⟨"NameReaders", "within", "(III)Z"⟩, prog_1_method_29_code, 3, (Option.some Jvm.ClassFile.FieldType.boolean), B_X_within, L_X_within, P_X_within, [447, 446, 0, 81, 1, 3])
def B_X_isPair : BT := fun b => match b with
  | 0 => (1, [(.iload_n 0, [], 0), (.iconst (-1), [], 0), (.iconst 2, [], 0), (.invokestatic 99, [k_X_within, 3, 1, 445], 0), (.ifCond .eq 17, [3, 1], 0)])
  | 1 => (2, [(.iload_n 1, [], 0), (.iconst (-1), [], 0), (.bipush 99, [], 0), (.invokestatic 99, [k_X_within, 3, 1, 445], 0), (.ifCond .eq 7, [3, 2], 0)])
  | 2 => (3, [(.iconst 1, [], 0), (.goto 4, [4], 0)])
  | 3 => (4, [(.iconst 0, [], 0)])
  | 4 => (5, [(.ireturn, [1], 0)])
  | _ => (0, [])
def L_X_isPair : Nat → List Bool := fun b => match b with
  | 0 => [true, true]
  | 1 => [false, true]
  | 2 => [false, false]
  | 3 => [false, false]
  | 4 => [false, false]
  | _ => []
def P_X_isPair : List Nat := [0, 9, 19, 23, 24]
def K_X_isPair : KE := (⟨"NameReaders", "isPair", "(II)Z"⟩, prog_1_method_30_code, 2, (Option.some Jvm.ClassFile.FieldType.boolean), B_X_isPair, L_X_isPair, P_X_isPair, [624, 623, 0, 81, 1, 2])
def B_M_init : BT := fun b => match b with
  | 0 => (1, [(.aload_n 0, [], 0), (.invokespecial 1, [0, 1, 11, 0, 1151], 0), (.aload_n 0, [], 0), (.iconst 2, [], 0), (.newarray .int, [0], 0), (.dup, [], 0), (.iconst 0, [], 0), (.iconst 1, [], 0), (.iastore, [], 0), (.dup, [], 0), (.iconst 1, [], 0), (.iconst 1, [], 0), (.iastore, [], 0), (.putfield 7, [11, 0, 2, 1156], 0), (.aload_n 0, [], 0), (.iconst 2, [], 0), (.newarray .int, [0], 0), (.putfield 13, [11, 1, 2, 1157], 0), (.aload_n 0, [], 0), (.iconst 2, [], 0), (.newarray .int, [0], 0), (.putfield 16, [11, 2, 2, 1158], 0), (.aload_n 0, [], 0), (.iconst 2, [], 0), (.newarray .int, [0], 0), (.putfield 19, [11, 3, 2, 1159], 0), (.aload_n 0, [], 0), (.bipush 40, [], 0), (.newarray .int, [0], 0), (.putfield 22, [11, 4, 2, 1160], 0), (.aload_n 0, [], 0), (.bipush 40, [], 0), (.newarray .int, [0], 0), (.putfield 25, [11, 5, 2, 1161], 0), (.aload_n 0, [], 0), (.bipush 40, [], 0), (.newarray .int, [0], 0), (.putfield 28, [11, 6, 2, 1162], 0), (.aload_n 0, [], 0), (.bipush 40, [], 0), (.newarray .int, [0], 0), (.putfield 31, [11, 7, 2, 1163], 0), (.aload_n 0, [], 0), (.bipush 40, [], 0), (.newarray .int, [0], 0), (.putfield 34, [11, 8, 2, 1164], 0), (.aload_n 0, [], 0), (.bipush 20, [], 0), (.newarray .int, [0], 0), (.putfield 37, [11, 10, 2, 1166], 0), (.aload_n 0, [], 0), (.bipush 20, [], 0), (.newarray .int, [0], 0), (.putfield 40, [11, 11, 2, 1167], 0), (.aload_n 0, [], 0), (.bipush 20, [], 0), (.newarray .int, [0], 0), (.putfield 43, [11, 12, 2, 1168], 0), (.aload_n 0, [], 0), (.bipush 20, [], 0), (.newarray .int, [0], 0), (.putfield 46, [11, 13, 2, 1169], 0), (.aload_n 0, [], 0), (.bipush 20, [], 0), (.newarray .int, [0], 0), (.putfield 49, [11, 14, 2, 1170], 0), (.aload_n 0, [], 0), (.sipush 150, [], 0), (.newarray .int, [0], 0), (.putfield 52, [11, 15, 2, 1171], 0), (.aload_n 0, [], 0), (.bipush 12, [], 0), (.newarray .int, [0], 0), (.putfield 55, [11, 17, 2, 1173], 0), (.aload_n 0, [], 0), (.bipush 12, [], 0), (.newarray .int, [0], 0), (.putfield 58, [11, 18, 2, 1174], 0), (.aload_n 0, [], 0), (.bipush 16, [], 0), (.newarray .int, [0], 0), (.putfield 61, [11, 23, 2, 1179], 0), (.aload_n 0, [], 0), (.bipush 12, [], 0), (.newarray .int, [0], 0), (.putfield 64, [11, 25, 2, 1181], 0), (.aload_n 0, [], 0), (.ldc 67, [0, 1152], 319800), (.newarray .int, [0], 0), (.putfield 68, [11, 26, 2, 1182], 0), (.aload_n 0, [], 0), (.bipush 13, [], 0), (.newarray .int, [0], 0), (.putfield 71, [11, 27, 2, 1183], 0), (.aload_n 0, [], 0), (.sipush 29478, [], 0), (.newarray .int, [0], 0), (.putfield 74, [11, 28, 2, 1184], 0), (.aload_n 0, [], 0), (.sipush 29478, [], 0), (.newarray .long, [1], 0), (.putfield 77, [11, 30, 2, 1186], 0), (.aload_n 0, [], 0), (.sipush 29478, [], 0), (.newarray .long, [1], 0), (.putfield 81, [11, 31, 2, 1187], 0), (.aload_n 0, [], 0), (.ldc 84, [0, 1153], 383214), (.newarray .boolean, [2], 0), (.putfield 85, [11, 32, 2, 1188], 0), (.aload_n 0, [], 0), (.bipush 13, [], 0), (.newarray .int, [0], 0), (.putfield 89, [11, 33, 2, 1189], 0), (.aload_n 0, [], 0), (.bipush 13, [], 0), (.newarray .int, [0], 0), (.putfield 92, [11, 34, 2, 1190], 0), (.aload_n 0, [], 0), (.bipush 14, [], 0), (.newarray .int, [0], 0), (.putfield 95, [11, 35, 2, 1191], 0), (.aload_n 0, [], 0), (.sipush 384, [], 0), (.newarray .int, [0], 0), (.putfield 98, [11, 36, 2, 1192], 0), (.aload_n 0, [], 0), (.sipush 384, [], 0), (.newarray .boolean, [2], 0), (.putfield 101, [11, 37, 2, 1193], 0), (.aload_n 0, [], 0), (.sipush 20000, [], 0), (.newarray .int, [0], 0), (.putfield 104, [11, 38, 2, 1194], 0), (.aload_n 0, [], 0), (.sipush 20000, [], 0), (.newarray .int, [0], 0), (.putfield 107, [11, 39, 2, 1195], 0), (.aload_n 0, [], 0), (.ldc 110, [0, 1154], 65536), (.newarray .int, [0], 0), (.putfield 111, [11, 42, 2, 1198], 0), (.aload_n 0, [], 0), (.ldc 114, [0, 1155], 40000), (.newarray .int, [0], 0), (.putfield 115, [11, 43, 2, 1199], 0), (.aload_n 0, [], 0), (.ldc 114, [0, 1155], 40000), (.newarray .int, [0], 0), (.putfield 118, [11, 44, 2, 1200], 0), (.aload_n 0, [], 0), (.bipush 6, [], 0), (.newarray .int, [0], 0), (.putfield 121, [11, 46, 2, 1202], 0), (.aload_n 0, [], 0), (.bipush 6, [], 0), (.newarray .int, [0], 0), (.putfield 124, [11, 47, 2, 1203], 0), (.aload_n 0, [], 0), (.sipush 24600, [], 0), (.newarray .int, [0], 0), (.putfield 127, [11, 48, 2, 1204], 0), (.aload_n 0, [], 0), (.bipush 7, [], 0), (.newarray .int, [0], 0), (.putfield 130, [11, 49, 2, 1205], 0), (.aload_n 0, [], 0), (.bipush 12, [], 0), (.newarray .int, [0], 0), (.putfield 133, [11, 50, 2, 1206], 0), (.aload_n 0, [], 0), (.bipush 12, [], 0), (.newarray .int, [0], 0), (.putfield 136, [11, 51, 2, 1207], 0), (.aload_n 0, [], 0), (.bipush 13, [], 0), (.newarray .int, [0], 0), (.putfield 139, [11, 52, 2, 1208], 0), (.aload_n 0, [], 0), (.iconst 4, [], 0), (.newarray .int, [0], 0), (.putfield 142, [11, 53, 2, 1209], 0), (.aload_n 0, [], 0), (.sipush 29478, [], 0), (.newarray .int, [0], 0), (.putfield 145, [11, 54, 2, 1210], 0), (.aload_n 0, [], 0), (.sipush 29478, [], 0), (.newarray .int, [0], 0), (.putfield 148, [11, 55, 2, 1211], 0), (.return_, [], 0)])
  | _ => (0, [])
def L_M_init : Nat → List Bool := fun b => match b with
  | 0 => [true]
  | _ => []
def P_M_init : List Nat := [0]
def K_M_init : KE := (⟨"NameReadersModel", "<init>", "()V"⟩, prog_13_method_1_code, 1, (Option.none : Option Jvm.ClassFile.FieldType), B_M_init, L_M_init, P_M_init, [1150, 1149, 0, 93, 2, 1])
def B_M_in : BT := fun b => match b with
  | 0 => (1, [(.lload_n 0, [], 0), (.lload_n 2, [], 0), (.lcmp, [], 0), (.ifCond .lt 14, [3, 1], 0)])
  | 1 => (2, [(.lload_n 0, [], 0), (.lload 4, [], 0), (.lcmp, [], 0), (.ifCond .gt 7, [3, 2], 0)])
  | 2 => (3, [(.iconst 1, [], 0), (.goto 4, [4], 0)])
  | 3 => (4, [(.iconst 0, [], 0)])
  | 4 => (5, [(.ireturn, [1], 0)])
  | _ => (0, [])
def L_M_in : Nat → List Bool := fun b => match b with
  | 0 => [true, false, true, false, true, false]
  | 1 => [true, false, false, false, true, false]
  | 2 => [false, false, false, false, false, false]
  | 3 => [false, false, false, false, false, false]
  | 4 => [false, false, false, false, false, false]
  | _ => []
def P_M_in : List Nat := [0, 6, 13, 17, 18]
def K_M_in : KE := (⟨"NameReadersModel", "in", "(JJJ)Z"⟩, prog_13_method_2_code, 6, (Option.some Jvm.ClassFile.FieldType.boolean), B_M_in, L_M_in, P_M_in, [1335, 1334, 0, 93, 1, 3])
def B_M_isReader : BT := fun b => match b with
  | 0 => (1, [(.iload_n 0, [], 0), (.i2l, [], 0), (.lconst 0, [], 0), (.lconst 1, [], 0), (.invokestatic 151, [k_M_in, 3, 1, 1333], 0), (.ireturn, [1], 0)])
  | _ => (0, [])
def L_M_isReader : Nat → List Bool := fun b => match b with
  | 0 => [true]
  | _ => []
def P_M_isReader : List Nat := [0]
def K_M_isReader : KE := (⟨"NameReadersModel", "isReader", "(I)Z"⟩, prog_13_method_3_code, 1, (Option.some Jvm.ClassFile.FieldType.boolean), B_M_isReader, L_M_isReader, P_M_isReader, [1332, 1331, 0, 93, 1, 1])
def B_M_reader : BT := fun b => match b with
  | 0 => (1, [(.iload_n 1, [], 0), (.invokestatic 155, [k_M_isReader, 1, 1, 1330], 0), (.ifCond .ne 6, [2, 1], 0)])
  | 1 => (2, [(.bipush (-2), [], 0), (.ireturn, [0], 0)])
  | 2 => (3, [(.iload_n 2, [], 0), (.i2l, [], 0), (.lconst 1, [], 0), (.ldc2_w 159, [1336], 6), (.invokestatic 151, [k_M_in, 3, 1, 1333], 0), (.ifCond .eq 31, [5, 3], 0)])
  | 3 => (4, [(.iload_n 3, [], 0), (.i2l, [], 0), (.lconst 0, [], 0), (.ldc2_w 161, [1337], 3), (.invokestatic 151, [k_M_in, 3, 1, 1333], 0), (.ifCond .eq 19, [5, 4], 0)])
  | 4 => (5, [(.iload 4, [], 0), (.i2l, [], 0), (.lconst 0, [], 0), (.iconst 1, [], 0), (.iload_n 2, [], 0), (.ishl, [], 0), (.iconst 1, [], 0), (.isub, [], 0), (.i2l, [], 0), (.invokestatic 151, [k_M_in, 3, 1, 1333], 0), (.ifCond .ne 6, [6, 5], 0)])
  | 5 => (6, [(.bipush (-3), [], 0), (.ireturn, [0], 0)])
  | 6 => (7, [(.aload_n 0, [], 0), (.getfield 7, [11, 0, 2, 1156], 0), (.iload_n 1, [], 0), (.iload_n 2, [], 0), (.iastore, [], 0), (.aload_n 0, [], 0), (.getfield 13, [11, 1, 2, 1157], 0), (.iload_n 1, [], 0), (.iload_n 3, [], 0), (.iastore, [], 0), (.aload_n 0, [], 0), (.getfield 16, [11, 2, 2, 1158], 0), (.iload_n 1, [], 0), (.iload 4, [], 0), (.iastore, [], 0), (.aload_n 0, [], 0), (.getfield 19, [11, 3, 2, 1159], 0), (.iload_n 1, [], 0), (.iconst 0, [], 0), (.iastore, [], 0), (.iconst 1, [], 0), (.ireturn, [0], 0)])
  | _ => (0, [])
def L_M_reader : Nat → List Bool := fun b => match b with
  | 0 => [true, true, true, true, true]
  | 1 => [false, false, false, false, false]
  | 2 => [true, true, true, true, true]
  | 3 => [true, true, true, true, true]
  | 4 => [true, true, true, true, true]
  | 5 => [false, false, false, false, false]
  | 6 => [true, true, true, true, true]
  | _ => []
def P_M_reader : List Nat := [0, 7, 10, 22, 34, 50, 53]
def K_M_reader : KE := (⟨"NameReadersModel", "reader", "(IIII)I"⟩, prog_13_method_4_code, 5, (Option.some Jvm.ClassFile.FieldType.int), B_M_reader, L_M_reader, P_M_reader, [1329, 1327, 1328, 93, 0, 5])
def B_M_write : BT := fun b => match b with
  | 0 => (1, [(.iload_n 3, [], 0), (.i2l, [], 0), (.lconst 1, [], 0), (.ldc2_w 163, [1342], 8), (.invokestatic 151, [k_M_in, 3, 1, 1333], 0), (.ifCond .ne 6, [2, 1], 0)])
  | 1 => (2, [(.bipush (-3), [], 0), (.ireturn, [0], 0)])
  | 2 => (3, [(.aload_n 0, [], 0), (.getfield 165, [11, 16, 0, 1172], 0), (.iload_n 3, [], 0), (.iadd, [], 0), (.sipush 150, [], 0), (.if_icmp .le 6, [4, 3], 0)])
  | 3 => (4, [(.bipush (-5), [], 0), (.ireturn, [0], 0)])
  | 4 => (5, [(.iconst 0, [], 0), (.istore 4, [], 0)])
  | 5 => (6, [(.iload 4, [], 0), (.iload_n 3, [], 0), (.if_icmp .ge 40, [7, 6], 0)])
  | 6 => (7, [(.aload_n 0, [], 0), (.getfield 52, [11, 15, 2, 1171], 0), (.aload_n 0, [], 0), (.getfield 165, [11, 16, 0, 1172], 0), (.lload_n 1, [], 0), (.bipush 8, [], 0), (.iload 4, [], 0), (.imul, [], 0), (.lshr, [], 0), (.ldc2_w 169, [1343], 255), (.land, [], 0), (.l2i, [], 0), (.iastore, [], 0), (.aload_n 0, [], 0), (.dup, [], 0), (.getfield 165, [11, 16, 0, 1172], 0), (.iconst 1, [], 0), (.iadd, [], 0), (.putfield 165, [11, 16, 0, 1172], 0), (.iinc 4 1, [], 0), (.goto (-40), [5], 0)])
  | 7 => (8, [(.aload_n 0, [], 0), (.getfield 165, [11, 16, 0, 1172], 0), (.ireturn, [0], 0)])
  | _ => (0, [])
def L_M_write : Nat → List Bool := fun b => match b with
  | 0 => [true, true, false, true, false]
  | 1 => [false, false, false, false, false]
  | 2 => [true, true, false, true, false]
  | 3 => [false, false, false, false, false]
  | 4 => [true, true, false, true, false]
  | 5 => [true, true, false, true, true]
  | 6 => [true, true, false, true, true]
  | 7 => [true, false, false, false, false]
  | _ => []
def P_M_write : List Nat := [0, 12, 15, 27, 30, 33, 39, 76]
def K_M_write : KE := (⟨"NameReadersModel", "write", "(JI)I"⟩, prog_13_method_5_code, 5, (Option.some Jvm.ClassFile.FieldType.int), B_M_write, L_M_write, P_M_write, [1341, 1339, 1340, 93, 0, 3])
def B_M_erase : BT := fun b => match b with
  | 0 => (1, [(.aload_n 0, [], 0), (.getfield 165, [11, 16, 0, 1172], 0), (.istore_n 1, [], 0), (.aload_n 0, [], 0), (.iconst 0, [], 0), (.putfield 165, [11, 16, 0, 1172], 0), (.iload_n 1, [], 0), (.ireturn, [0], 0)])
  | _ => (0, [])
def L_M_erase : Nat → List Bool := fun b => match b with
  | 0 => [true, false]
  | _ => []
def P_M_erase : List Nat := [0]
def K_M_erase : KE := (⟨"NameReadersModel", "erase", "()I"⟩, prog_13_method_6_code, 2, (Option.some Jvm.ClassFile.FieldType.int), B_M_erase, L_M_erase, P_M_erase, [1347, 1345, 1346, 93, 0, 1])
def B_M_sort : BT := fun b => match b with
  | 0 => (1, [(.iload_n 0, [], 0), (.bipush 97, [], 0), (.if_icmp .lt 13, [3, 1], 0)])
  | 1 => (2, [(.iload_n 0, [], 0), (.bipush 122, [], 0), (.if_icmp .gt 7, [3, 2], 0)])
  | 2 => (3, [(.iconst 1, [], 0), (.goto 20, [7], 0)])
  | 3 => (4, [(.iload_n 0, [], 0), (.bipush 48, [], 0), (.if_icmp .lt 13, [6, 4], 0)])
  | 4 => (5, [(.iload_n 0, [], 0), (.bipush 57, [], 0), (.if_icmp .gt 7, [6, 5], 0)])
  | 5 => (6, [(.iconst 2, [], 0), (.goto 4, [7], 0)])
  | 6 => (7, [(.iconst 0, [], 0)])
  | 7 => (8, [(.ireturn, [0], 0)])
  | _ => (0, [])
def L_M_sort : Nat → List Bool := fun b => match b with
  | 0 => [true]
  | 1 => [true]
  | 2 => [false]
  | 3 => [true]
  | 4 => [true]
  | 5 => [false]
  | 6 => [false]
  | 7 => [false]
  | _ => []
def P_M_sort : List Nat := [0, 6, 12, 16, 22, 28, 32, 33]
def K_M_sort : KE := (⟨"NameReadersModel", "sort", "(I)I"⟩, prog_13_method_7_code, 1, (Option.some Jvm.ClassFile.FieldType.int), B_M_sort, L_M_sort, P_M_sort, [1358, 1357, 0, 93, 1, 1])
def B_M_token : BT := fun b => match b with
  | 0 => (1, [(.aload_n 0, [], 0), (.getfield 171, [11, 20, 0, 1176], 0), (.aload_n 0, [], 0), (.getfield 165, [11, 16, 0, 1172], 0), (.if_icmp .ge 30, [3, 1], 0)])
  | 1 => (2, [(.aload_n 0, [], 0), (.getfield 52, [11, 15, 2, 1171], 0), (.aload_n 0, [], 0), (.getfield 171, [11, 20, 0, 1176], 0), (.iaload, [], 0), (.bipush 32, [], 0), (.if_icmp .ne 16, [3, 2], 0)])
  | 2 => (3, [(.aload_n 0, [], 0), (.dup, [], 0), (.getfield 171, [11, 20, 0, 1176], 0), (.iconst 1, [], 0), (.iadd, [], 0), (.putfield 171, [11, 20, 0, 1176], 0), (.goto (-35), [0], 0)])
  | 3 => (4, [(.aload_n 0, [], 0), (.aload_n 0, [], 0), (.getfield 171, [11, 20, 0, 1176], 0), (.putfield 174, [11, 21, 0, 1177], 0), (.aload_n 0, [], 0), (.dup, [], 0), (.getfield 171, [11, 20, 0, 1176], 0), (.aload_n 0, [], 0), (.getfield 171, [11, 20, 0, 1176], 0), (.aload_n 0, [], 0), (.getfield 165, [11, 16, 0, 1172], 0), (.if_icmp .ge 7, [5, 4], 0)])
  | 4 => (5, [(.iconst 1, [], 0), (.goto 4, [6], 0)])
  | 5 => (6, [(.iconst 0, [], 0)])
  | 6 => (7, [(.iadd, [], 0), (.putfield 171, [11, 20, 0, 1176], 0)])
  | 7 => (8, [(.aload_n 0, [], 0), (.getfield 171, [11, 20, 0, 1176], 0), (.aload_n 0, [], 0), (.getfield 165, [11, 16, 0, 1172], 0), (.if_icmp .ge 58, [11, 8], 0)])
  | 8 => (9, [(.aload_n 0, [], 0), (.getfield 52, [11, 15, 2, 1171], 0), (.aload_n 0, [], 0), (.getfield 174, [11, 21, 0, 1177], 0), (.iaload, [], 0), (.invokestatic 177, [k_M_sort, 1, 1, 1356], 0), (.ifCond .le 43, [11, 9], 0)])
  | 9 => (10, [(.aload_n 0, [], 0), (.getfield 52, [11, 15, 2, 1171], 0), (.aload_n 0, [], 0), (.getfield 171, [11, 20, 0, 1176], 0), (.iaload, [], 0), (.invokestatic 177, [k_M_sort, 1, 1, 1356], 0), (.aload_n 0, [], 0), (.getfield 52, [11, 15, 2, 1171], 0), (.aload_n 0, [], 0), (.getfield 174, [11, 21, 0, 1177], 0), (.iaload, [], 0), (.invokestatic 177, [k_M_sort, 1, 1, 1356], 0), (.if_icmp .ne 16, [11, 10], 0)])
  | 10 => (11, [(.aload_n 0, [], 0), (.dup, [], 0), (.getfield 171, [11, 20, 0, 1176], 0), (.iconst 1, [], 0), (.iadd, [], 0), (.putfield 171, [11, 20, 0, 1176], 0), (.goto (-63), [7], 0)])
  | 11 => (12, [(.aload_n 0, [], 0), (.aload_n 0, [], 0), (.getfield 171, [11, 20, 0, 1176], 0), (.putfield 181, [11, 22, 0, 1178], 0), (.return_, [], 0)])
  | _ => (0, [])
def L_M_token : Nat → List Bool := fun b => match b with
  | 0 => [true]
  | 1 => [true]
  | 2 => [true]
  | 3 => [true]
  | 4 => [true]
  | 5 => [true]
  | 6 => [true]
  | 7 => [true]
  | 8 => [true]
  | 9 => [true]
  | 10 => [true]
  | 11 => [true]
  | _ => []
def P_M_token : List Nat := [0, 11, 25, 38, 62, 66, 67, 71, 82, 97, 124, 137]
def K_M_token : KE := (⟨"NameReadersModel", "token", "()V"⟩, prog_13_method_8_code, 1, (Option.none : Option Jvm.ClassFile.FieldType), B_M_token, L_M_token, P_M_token, [1355, 1354, 41, 93, 0, 1])
def B_M_isWord : BT := fun b => match b with
  | 0 => (1, [(.aload_n 0, [], 0), (.getfield 181, [11, 22, 0, 1178], 0), (.aload_n 0, [], 0), (.getfield 174, [11, 21, 0, 1177], 0), (.isub, [], 0), (.iload_n 2, [], 0), (.if_icmp .ne 7, [2, 1], 0)])
  | 1 => (2, [(.iconst 1, [], 0), (.goto 4, [3], 0)])
  | 2 => (3, [(.iconst 0, [], 0)])
  | 3 => (4, [(.istore_n 3, [], 0), (.iconst 0, [], 0), (.istore 4, [], 0)])
  | 4 => (5, [(.iload_n 3, [], 0), (.ifCond .eq 48, [10, 5], 0)])
  | 5 => (6, [(.iload 4, [], 0), (.iload_n 2, [], 0), (.if_icmp .ge 42, [10, 6], 0)])
  | 6 => (7, [(.aload_n 0, [], 0), (.getfield 52, [11, 15, 2, 1171], 0), (.aload_n 0, [], 0), (.getfield 174, [11, 21, 0, 1177], 0), (.iload 4, [], 0), (.iadd, [], 0), (.iaload, [], 0), (.bipush 96, [], 0), (.iload_n 1, [], 0), (.iconst 5, [], 0), (.iload 4, [], 0), (.imul, [], 0), (.ishr, [], 0), (.bipush 31, [], 0), (.iand, [], 0), (.iadd, [], 0), (.if_icmp .ne 7, [8, 7], 0)])
  | 7 => (8, [(.iconst 1, [], 0), (.goto 4, [9], 0)])
  | 8 => (9, [(.iconst 0, [], 0)])
  | 9 => (10, [(.istore_n 3, [], 0), (.iinc 4 1, [], 0), (.goto (-46), [4], 0)])
  | 10 => (11, [(.iload_n 3, [], 0), (.ireturn, [1], 0)])
  | _ => (0, [])
def L_M_isWord : Nat → List Bool := fun b => match b with
  | 0 => [true, true, true, false, false]
  | 1 => [true, true, true, false, false]
  | 2 => [true, true, true, false, false]
  | 3 => [true, true, true, false, false]
  | 4 => [true, true, true, true, true]
  | 5 => [true, true, true, true, true]
  | 6 => [true, true, true, false, true]
  | 7 => [true, true, true, false, true]
  | 8 => [true, true, true, false, true]
  | 9 => [true, true, true, false, true]
  | 10 => [false, false, false, true, false]
  | _ => []
def P_M_isWord : List Nat := [0, 13, 17, 18, 22, 26, 32, 59, 63, 64, 71]
def K_M_isWord : KE := (⟨"NameReadersModel", "isWord", "(II)Z"⟩, prog_13_method_9_code, 5, (Option.some Jvm.ClassFile.FieldType.boolean), B_M_isWord, L_M_isWord, P_M_isWord, [1370, 1369, 44, 93, 0, 3])
def B_M_skips : BT := fun b => match b with
  | 0 => (1, [(.aload_n 0, [], 0), (.iload_n 1, [], 0), (.iload_n 2, [], 0), (.invokevirtual 184, [k_M_isWord, 3, 11, 1, 1367], 0), (.istore_n 3, [], 0), (.iload_n 3, [], 0), (.ifCond .eq 7, [2, 1], 0)])
  | 1 => (2, [(.aload_n 0, [], 0), (.invokevirtual 188, [k_M_token, 1, 11, 0, 1352], 0)])
  | 2 => (3, [(.iload_n 3, [], 0), (.ireturn, [1], 0)])
  | _ => (0, [])
def L_M_skips : Nat → List Bool := fun b => match b with
  | 0 => [true, true, true, false]
  | 1 => [true, false, false, true]
  | 2 => [false, false, false, true]
  | _ => []
def P_M_skips : List Nat := [0, 11, 15]
def K_M_skips : KE := (⟨"NameReadersModel", "skips", "(II)Z"⟩, prog_13_method_10_code, 4, (Option.some Jvm.ClassFile.FieldType.boolean), B_M_skips, L_M_skips, P_M_skips, [1375, 1374, 45, 93, 0, 3])
