def B_Ol_seeBehind : BT := fun b => match b with
  | 0 => (1, [(.aload_n 1, [], 0), (.iload_n 2, [], 0), (.iconst 2, [], 0), (.invokevirtual 66, [k_Rd_end, 3, 4, 1, 908], 0), (.istore_n 3, [], 0), (.aload_n 1, [], 0), (.iload_n 2, [], 0), (.iconst 0, [], 0), (.invokevirtual 71, [k_Rd_begin, 3, 4, 1, 909], 0), (.istore 4, [], 0)])
  | 1 => (2, [(.iload 4, [], 0), (.iload_n 3, [], 0), (.if_icmp .ge 56, [8, 2], 0)])
  | 2 => (3, [(.iload_n 2, [], 0), (.invokestatic 91, [k_Ol_newName, 1, 1, 910], 0), (.istore 5, [], 0)])
  | 3 => (4, [(.iload 5, [], 0), (.ifCond .le 39, [7, 4], 0)])
  | 4 => (5, [(.aload_n 1, [], 0), (.iload_n 2, [], 0), (.aload_n 1, [], 0), (.iload 4, [], 0), (.invokevirtual 74, [k_Rd_moveAt, 2, 4, 1, 914], 0), (.iload 5, [], 0), (.invokevirtual 77, [k_Rd_after, 4, 4, 1, 915], 0), (.istore 6, [], 0), (.iload 6, [], 0), (.ifCond .lt 13, [6, 5], 0)])
  | 5 => (6, [(.aload_n 0, [], 0), (.aload_n 1, [], 0), (.iload 6, [], 0), (.invokestatic 81, [k_Ol_placeOf, 1, 1, 916], 0), (.invokevirtual 98, [k_Ol_see, 3, 3, 0, 896], 0)])
  | 6 => (7, [(.iinc 5 (-1), [], 0), (.goto (-38), [3], 0)])
  | 7 => (8, [(.iinc 4 1, [], 0), (.goto (-56), [1], 0)])
  | 8 => (9, [(.return_, [], 0)])
  | _ => (0, [])
def L_Ol_seeBehind : Nat → List Bool := fun b => match b with
  | 0 => [true, true, true, false, false, false, false]
  | 1 => [true, true, true, true, true, false, false]
  | 2 => [true, true, true, true, true, false, false]
  | 3 => [true, true, true, true, true, true, false]
  | 4 => [true, true, true, true, true, true, false]
  | 5 => [true, true, true, true, true, true, true]
  | 6 => [true, true, true, true, true, true, false]
  | 7 => [true, true, true, true, true, false, false]
  | 8 => [false, false, false, false, false, false, false]
  | _ => []
def P_Ol_seeBehind : List Nat := [0, 15, 21, 27, 32, 52, 62, 68, 74]
def K_Ol_seeBehind : KE := (⟨"NameReaders$Outlook", "seeBehind", "(LNameReaders$Reader;I)V"⟩, prog_5_method_11_code, 7, (Option.none : Option Jvm.ClassFile.FieldType), B_Ol_seeBehind, L_Ol_seeBehind, P_Ol_seeBehind, [907, 906, 21, 91, 0, 3])
def B_Ol_tellAhead : BT := fun b => match b with
  | 0 => (1, [(.iconst 0, [], 0), (.istore_n 3, [], 0), (.iconst 0, [], 0), (.istore 4, [], 0)])
  | 1 => (2, [(.iload 4, [], 0), (.aload_n 0, [], 0), (.getfield 21, [3, 3, 0, 351], 0), (.if_icmp .ge 61, [6, 2], 0)])
  | 2 => (3, [(.aload_n 0, [], 0), (.getfield 11, [3, 0, 2, 348], 0), (.aload_n 0, [], 0), (.getfield 15, [3, 1, 2, 349], 0), (.iload 4, [], 0), (.iaload, [], 0), (.iaload, [], 0), (.iconst (-1), [], 0), (.if_icmp .ne 39, [5, 3], 0)])
  | 3 => (4, [(.aload_n 0, [], 0), (.aload_n 1, [], 0), (.aload_n 0, [], 0), (.getfield 15, [3, 1, 2, 349], 0), (.iload 4, [], 0), (.iaload, [], 0), (.invokestatic 88, [k_Ol_spotOf, 1, 1, 900], 0), (.iload_n 2, [], 0), (.invokevirtual 112, [k_Ol_leadsTo, 4, 3, 1, 923], 0), (.ifCond .eq 20, [5, 4], 0)])
  | 4 => (5, [(.aload_n 0, [], 0), (.getfield 11, [3, 0, 2, 348], 0), (.aload_n 0, [], 0), (.getfield 15, [3, 1, 2, 349], 0), (.iload 4, [], 0), (.iaload, [], 0), (.iload_n 2, [], 0), (.iconst 1, [], 0), (.iadd, [], 0), (.iastore, [], 0), (.iconst 1, [], 0), (.istore_n 3, [], 0)])
  | 5 => (6, [(.iinc 4 1, [], 0), (.goto (-64), [1], 0)])
  | 6 => (7, [(.iload_n 3, [], 0), (.ireturn, [1], 0)])
  | _ => (0, [])
def L_Ol_tellAhead : Nat → List Bool := fun b => match b with
  | 0 => [true, true, true, false, false]
  | 1 => [true, true, true, true, true]
  | 2 => [true, true, true, true, true]
  | 3 => [true, true, true, true, true]
  | 4 => [true, true, true, false, true]
  | 5 => [true, true, true, true, true]
  | 6 => [false, false, false, true, false]
  | _ => []
def P_Ol_tellAhead : List Nat := [0, 5, 14, 30, 49, 66, 72]
def K_Ol_tellAhead : KE := (⟨"NameReaders$Outlook", "tellAhead", "(LNameReaders$Reader;I)Z"⟩, prog_5_method_12_code, 5, (Option.some Jvm.ClassFile.FieldType.boolean), B_Ol_tellAhead, L_Ol_tellAhead, P_Ol_tellAhead, [922, 921, 22, 91, 0, 3])
def B_Ol_leadsTo : BT := fun b => match b with
  | 0 => (1, [(.aload_n 1, [], 0), (.iload_n 2, [], 0), (.iconst 2, [], 0), (.invokevirtual 66, [k_Rd_end, 3, 4, 1, 908], 0), (.istore 4, [], 0), (.aload_n 1, [], 0), (.iload_n 2, [], 0), (.iconst 0, [], 0), (.invokevirtual 71, [k_Rd_begin, 3, 4, 1, 909], 0), (.istore 5, [], 0)])
  | 1 => (2, [(.iload 5, [], 0), (.iload 4, [], 0), (.if_icmp .ge 62, [9, 2], 0)])
  | 2 => (3, [(.iload_n 2, [], 0), (.invokestatic 91, [k_Ol_newName, 1, 1, 910], 0), (.istore 6, [], 0)])
  | 3 => (4, [(.iload 6, [], 0), (.ifCond .le 45, [8, 4], 0)])
  | 4 => (5, [(.aload_n 1, [], 0), (.iload_n 2, [], 0), (.aload_n 1, [], 0), (.iload 5, [], 0), (.invokevirtual 74, [k_Rd_moveAt, 2, 4, 1, 914], 0), (.iload 6, [], 0), (.invokevirtual 77, [k_Rd_after, 4, 4, 1, 915], 0), (.istore 7, [], 0), (.iload 7, [], 0), (.ifCond .lt 19, [7, 5], 0)])
  | 5 => (6, [(.aload_n 0, [], 0), (.getfield 11, [3, 0, 2, 348], 0), (.iload 7, [], 0), (.invokestatic 81, [k_Ol_placeOf, 1, 1, 916], 0), (.iaload, [], 0), (.iload_n 3, [], 0), (.if_icmp .ne 5, [7, 6], 0)])
  | 6 => (7, [(.iconst 1, [], 0), (.ireturn, [1], 0)])
  | 7 => (8, [(.iinc 6 (-1), [], 0), (.goto (-44), [3], 0)])
  | 8 => (9, [(.iinc 5 1, [], 0), (.goto (-63), [1], 0)])
  | 9 => (10, [(.iconst 0, [], 0), (.ireturn, [1], 0)])
  | _ => (0, [])
def L_Ol_leadsTo : Nat → List Bool := fun b => match b with
  | 0 => [true, true, true, true, false, false, false, false]
  | 1 => [true, true, true, true, true, true, false, false]
  | 2 => [true, true, true, true, true, true, false, false]
  | 3 => [true, true, true, true, true, true, true, false]
  | 4 => [true, true, true, true, true, true, true, false]
  | 5 => [true, true, true, true, true, true, true, true]
  | 6 => [false, false, false, false, false, false, false, false]
  | 7 => [true, true, true, true, true, true, true, false]
  | 8 => [true, true, true, true, true, true, false, false]
  | 9 => [false, false, false, false, false, false, false, false]
  | _ => []
def P_Ol_leadsTo : List Nat := [0, 16, 23, 29, 34, 54, 68, 70, 76, 82]
def K_Ol_leadsTo : KE := (⟨"NameReaders$Outlook", "leadsTo", "(LNameReaders$Reader;II)Z"⟩, prog_5_method_13_code, 8, (Option.some Jvm.ClassFile.FieldType.boolean), B_Ol_leadsTo, L_Ol_leadsTo, P_Ol_leadsTo, [926, 925, 23, 91, 0, 4])
def B_Ol_newName : BT := fun b => match b with
  | 0 => (1, [(.iconst 1, [], 0), (.iload_n 0, [], 0), (.bipush 15, [], 0), (.iand, [], 0), (.iload_n 0, [], 0), (.iconst 4, [], 0), (.ishr, [], 0), (.bipush 15, [], 0), (.iand, [], 0), (.iload_n 0, [], 0), (.bipush 8, [], 0), (.ishr, [], 0), (.bipush 15, [], 0), (.iand, [], 0), (.invokestatic 46, [4, 2, 1, 913], 0), (.invokestatic 46, [4, 2, 1, 913], 0), (.iadd, [], 0), (.ireturn, [0], 0)])
  | _ => (0, [])
def L_Ol_newName : Nat → List Bool := fun b => match b with
  | 0 => [true]
  | _ => []
def P_Ol_newName : List Nat := [0]
def K_Ol_newName : KE := (⟨"NameReaders$Outlook", "newName", "(I)I"⟩, prog_5_method_14_code, 1, (Option.some Jvm.ClassFile.FieldType.int), B_Ol_newName, L_Ol_newName, P_Ol_newName, [912, 911, 0, 91, 1, 1])
def B_Ol_placeOf : BT := fun b => match b with
  | 0 => (1, [(.iload_n 0, [], 0), (.bipush 15, [], 0), (.iand, [], 0), (.istore_n 1, [], 0), (.iload_n 0, [], 0), (.iconst 4, [], 0), (.ishr, [], 0), (.bipush 15, [], 0), (.iand, [], 0), (.istore_n 2, [], 0), (.iload_n 0, [], 0), (.bipush 8, [], 0), (.ishr, [], 0), (.bipush 15, [], 0), (.iand, [], 0), (.istore_n 3, [], 0), (.iload_n 1, [], 0), (.ifCond .ne 7, [2, 1], 0)])
  | 1 => (2, [(.iconst 0, [], 0), (.goto 4, [3], 0)])
  | 2 => (3, [(.iconst 1, [], 0)])
  | 3 => (4, [(.istore 4, [], 0), (.iload_n 2, [], 0), (.ifCond .ne 7, [5, 4], 0)])
  | 4 => (5, [(.iconst 0, [], 0), (.goto 17, [8], 0)])
  | 5 => (6, [(.iload_n 2, [], 0), (.iload_n 1, [], 0), (.if_icmp .ne 8, [7, 6], 0)])
  | 6 => (7, [(.iload 4, [], 0), (.goto 7, [8], 0)])
  | 7 => (8, [(.iload 4, [], 0), (.iconst 1, [], 0), (.iadd, [], 0)])
  | 8 => (9, [(.istore 5, [], 0), (.iload 4, [], 0), (.iload 5, [], 0), (.invokestatic 46, [4, 2, 1, 913], 0), (.iconst 1, [], 0), (.iadd, [], 0), (.istore 6, [], 0), (.iload_n 3, [], 0), (.ifCond .ne 9, [10, 9], 0)])
  | 9 => (10, [(.iconst 0, [], 0), (.istore 6, [], 0), (.goto 24, [14], 0)])
  | 10 => (11, [(.iload_n 3, [], 0), (.iload_n 1, [], 0), (.if_icmp .ne 10, [12, 11], 0)])
  | 11 => (12, [(.iload 4, [], 0), (.istore 6, [], 0), (.goto 12, [14], 0)])
  | 12 => (13, [(.iload_n 3, [], 0), (.iload_n 2, [], 0), (.if_icmp .ne 7, [14, 13], 0)])
  | 13 => (14, [(.iload 5, [], 0), (.istore 6, [], 0)])
  | 14 => (15, [(.iload_n 0, [], 0), (.bipush 12, [], 0), (.ishr, [], 0), (.bipush 6, [], 0), (.ishl, [], 0), (.iload 6, [], 0), (.iconst 4, [], 0), (.ishl, [], 0), (.ior, [], 0), (.iload 5, [], 0), (.iconst 2, [], 0), (.ishl, [], 0), (.ior, [], 0), (.iload 4, [], 0), (.ior, [], 0), (.ireturn, [0], 0)])
  | _ => (0, [])
def L_Ol_placeOf : Nat → List Bool := fun b => match b with
  | 0 => [true, false, false, false, false, false, false]
  | 1 => [true, true, true, true, false, false, false]
  | 2 => [true, true, true, true, false, false, false]
  | 3 => [true, true, true, true, false, false, false]
  | 4 => [true, true, true, true, true, false, false]
  | 5 => [true, true, true, true, true, false, false]
  | 6 => [true, true, true, true, true, false, false]
  | 7 => [true, true, true, true, true, false, false]
  | 8 => [true, true, true, true, true, false, false]
  | 9 => [true, false, false, false, true, true, false]
  | 10 => [true, true, true, true, true, true, true]
  | 11 => [true, false, false, false, true, true, false]
  | 12 => [true, false, true, true, true, true, true]
  | 13 => [true, false, false, false, true, true, false]
  | 14 => [true, false, false, false, true, true, true]
  | _ => []
def P_Ol_placeOf : List Nat := [0, 24, 28, 29, 35, 39, 44, 49, 53, 70, 76, 81, 88, 93, 97]
def K_Ol_placeOf : KE := (⟨"NameReaders$Outlook", "placeOf", "(I)I"⟩, prog_5_method_15_code, 7, (Option.some Jvm.ClassFile.FieldType.int), B_Ol_placeOf, L_Ol_placeOf, P_Ol_placeOf, [918, 917, 0, 91, 1, 1])
def B_Ol_spotOf : BT := fun b => match b with
  | 0 => (1, [(.iload_n 0, [], 0), (.bipush 6, [], 0), (.ishr, [], 0), (.bipush 12, [], 0), (.ishl, [], 0), (.iload_n 0, [], 0), (.iconst 4, [], 0), (.ishr, [], 0), (.iconst 3, [], 0), (.iand, [], 0), (.bipush 8, [], 0), (.ishl, [], 0), (.ior, [], 0), (.iload_n 0, [], 0), (.iconst 2, [], 0), (.ishr, [], 0), (.iconst 3, [], 0), (.iand, [], 0), (.iconst 4, [], 0), (.ishl, [], 0), (.ior, [], 0), (.iload_n 0, [], 0), (.iconst 3, [], 0), (.iand, [], 0), (.ior, [], 0), (.ireturn, [0], 0)])
  | _ => (0, [])
def L_Ol_spotOf : Nat → List Bool := fun b => match b with
  | 0 => [true]
  | _ => []
def P_Ol_spotOf : List Nat := [0]
def K_Ol_spotOf : KE := (⟨"NameReaders$Outlook", "spotOf", "(I)I"⟩, prog_5_method_16_code, 1, (Option.some Jvm.ClassFile.FieldType.int), B_Ol_spotOf, L_Ol_spotOf, P_Ol_spotOf, [902, 901, 0, 91, 1, 1])
def B_Rd_init : BT := fun b => match b with
  | 0 => (1, [(.aload_n 0, [], 0), (.invokespecial 3, [0, 1, 4, 0, 114], 0), (.aload_n 0, [], 0), (.bipush 100, [], 0), (.newarray .int, [0], 0), (.putfield 9, [4, 0, 2, 115], 0), (.aload_n 0, [], 0), (.bipush 20, [], 0), (.newarray .int, [0], 0), (.putfield 15, [4, 1, 2, 116], 0), (.aload_n 0, [], 0), (.bipush 19, [], 0), (.newarray .int, [0], 0), (.putfield 18, [4, 2, 2, 117], 0), (.aload_n 0, [], 0), (.iconst 1, [], 0), (.putfield 21, [4, 3, 0, 118], 0), (.aload_n 0, [], 0), (.iconst 0, [], 0), (.putfield 25, [4, 4, 0, 119], 0), (.aload_n 0, [], 0), (.iconst 0, [], 0), (.putfield 28, [4, 5, 0, 120], 0), (.aload_n 0, [], 0), (.iconst 0, [], 0), (.putfield 31, [4, 6, 0, 121], 0), (.return_, [], 0)])
  | _ => (0, [])
def L_Rd_init : Nat → List Bool := fun b => match b with
  | 0 => [true]
  | _ => []
def P_Rd_init : List Nat := [0]
def K_Rd_init : KE := (⟨"NameReaders$Reader", "<init>", "()V"⟩, prog_6_method_1_code, 1, (Option.none : Option Jvm.ClassFile.FieldType), B_Rd_init, L_Rd_init, P_Rd_init, [113, 112, 0, 82, 2, 1])
def B_Rd_states : BT := fun b => match b with
  | 0 => (1, [(.aload_n 0, [], 0), (.getfield 21, [4, 3, 0, 118], 0), (.ireturn, [0], 0)])
  | _ => (0, [])
def L_Rd_states : Nat → List Bool := fun b => match b with
  | 0 => [true]
  | _ => []
def P_Rd_states : List Nat := [0]
def K_Rd_states : KE := (⟨"NameReaders$Reader", "states", "()I"⟩, prog_6_method_2_code, 1, (Option.some Jvm.ClassFile.FieldType.int), B_Rd_states, L_Rd_states, P_Rd_states, [496, 494, 495, 82, 0, 1])
def B_Rd_registers : BT := fun b => match b with
  | 0 => (1, [(.aload_n 0, [], 0), (.getfield 25, [4, 4, 0, 119], 0), (.ireturn, [0], 0)])
  | _ => (0, [])
def L_Rd_registers : Nat → List Bool := fun b => match b with
  | 0 => [true]
  | _ => []
def P_Rd_registers : List Nat := [0]
def K_Rd_registers : KE := (⟨"NameReaders$Reader", "registers", "()I"⟩, prog_6_method_3_code, 1, (Option.some Jvm.ClassFile.FieldType.int), B_Rd_registers, L_Rd_registers, P_Rd_registers, [570, 568, 569, 82, 0, 1])
def B_Rd_size : BT := fun b => match b with
  | 0 => (1, [(.aload_n 0, [], 0), (.getfield 31, [4, 6, 0, 121], 0), (.ireturn, [0], 0)])
  | _ => (0, [])
def L_Rd_size : Nat → List Bool := fun b => match b with
  | 0 => [true]
  | _ => []
def P_Rd_size : List Nat := [0]
def K_Rd_size : KE := (⟨"NameReaders$Reader", "size", "()I"⟩, prog_6_method_4_code, 1, (Option.some Jvm.ClassFile.FieldType.int), B_Rd_size, L_Rd_size, P_Rd_size, [589, 587, 588, 82, 0, 1])
def B_Rd_become : BT := fun b => match b with
  | 0 => (1, [(.aload_n 0, [], 0), (.iload_n 1, [], 0), (.putfield 21, [4, 3, 0, 118], 0), (.aload_n 0, [], 0), (.iload_n 2, [], 0), (.putfield 25, [4, 4, 0, 119], 0), (.aload_n 0, [], 0), (.iload_n 3, [], 0), (.putfield 28, [4, 5, 0, 120], 0), (.aload_n 0, [], 0), (.iconst 0, [], 0), (.putfield 31, [4, 6, 0, 121], 0), (.aload_n 0, [], 0), (.invokevirtual 34, [k_Rd_sort, 1, 4, 0, 452], 0), (.return_, [], 0)])
  | _ => (0, [])
def L_Rd_become : Nat → List Bool := fun b => match b with
  | 0 => [true, true, true, true]
  | _ => []
def P_Rd_become : List Nat := [0]
def K_Rd_become : KE := (⟨"NameReaders$Reader", "become", "(III)V"⟩, prog_6_method_5_code, 4, (Option.none : Option Jvm.ClassFile.FieldType), B_Rd_become, L_Rd_become, P_Rd_become, [451, 449, 450, 82, 0, 4])
def B_Rd_appendAll : BT := fun b => match b with
  | 0 => (1, [(.iload_n 2, [], 0), (.ifCond .lt 22, [3, 1], 0)])
  | 1 => (2, [(.iload_n 2, [], 0), (.bipush 20, [], 0), (.aload_n 0, [], 0), (.getfield 31, [4, 6, 0, 121], 0), (.isub, [], 0), (.if_icmp .gt 11, [3, 2], 0)])
  | 2 => (3, [(.iload_n 2, [], 0), (.iconst 5, [], 0), (.imul, [], 0), (.aload_n 1, [], 0), (.arraylength, [], 0), (.if_icmp .le 4, [4, 3], 0)])
  | 3 => (4, [(.return_, [], 0)])
  | 4 => (5, [(.aload_n 1, [], 0), (.iconst 0, [], 0), (.aload_n 0, [], 0), (.getfield 9, [4, 0, 2, 115], 0), (.aload_n 0, [], 0), (.getfield 31, [4, 6, 0, 121], 0), (.iconst 5, [], 0), (.imul, [], 0), (.iload_n 2, [], 0), (.iconst 5, [], 0), (.imul, [], 0), (.invokestatic 37, [1, 5, 0, 602], 0), (.aload_n 0, [], 0), (.dup, [], 0), (.getfield 31, [4, 6, 0, 121], 0), (.iload_n 2, [], 0), (.iadd, [], 0), (.putfield 31, [4, 6, 0, 121], 0), (.aload_n 0, [], 0), (.invokevirtual 34, [k_Rd_sort, 1, 4, 0, 452], 0), (.return_, [], 0)])
  | _ => (0, [])
def L_Rd_appendAll : Nat → List Bool := fun b => match b with
  | 0 => [true, true, true]
  | 1 => [true, true, true]
  | 2 => [true, true, true]
  | 3 => [false, false, false]
  | 4 => [true, true, true]
  | _ => []
def P_Rd_appendAll : List Nat := [0, 4, 15, 23, 24]
def K_Rd_appendAll : KE := (⟨"NameReaders$Reader", "appendAll", "([II)V"⟩, prog_6_method_6_code, 3, (Option.none : Option Jvm.ClassFile.FieldType), B_Rd_appendAll, L_Rd_appendAll, P_Rd_appendAll, [601, 599, 600, 82, 0, 3])
def B_Rd_remove : BT := fun b => match b with
  | 0 => (1, [(.iload_n 1, [], 0), (.ifCond .lt 11, [2, 1], 0)])
  | 1 => (2, [(.iload_n 1, [], 0), (.aload_n 0, [], 0), (.getfield 31, [4, 6, 0, 121], 0), (.if_icmp .lt 4, [3, 2], 0)])
  | 2 => (3, [(.return_, [], 0)])
  | 3 => (4, [(.iload_n 1, [], 0), (.iconst 1, [], 0), (.iadd, [], 0), (.iconst 5, [], 0), (.imul, [], 0), (.istore_n 2, [], 0), (.aload_n 0, [], 0), (.getfield 9, [4, 0, 2, 115], 0), (.iload_n 2, [], 0), (.aload_n 0, [], 0), (.getfield 9, [4, 0, 2, 115], 0), (.iload_n 2, [], 0), (.iconst 5, [], 0), (.isub, [], 0), (.aload_n 0, [], 0), (.getfield 31, [4, 6, 0, 121], 0), (.iconst 5, [], 0), (.imul, [], 0), (.iload_n 2, [], 0), (.isub, [], 0), (.invokestatic 37, [1, 5, 0, 602], 0), (.aload_n 0, [], 0), (.dup, [], 0), (.getfield 31, [4, 6, 0, 121], 0), (.iconst 1, [], 0), (.isub, [], 0), (.putfield 31, [4, 6, 0, 121], 0), (.aload_n 0, [], 0), (.invokevirtual 34, [k_Rd_sort, 1, 4, 0, 452], 0), (.return_, [], 0)])
  | _ => (0, [])
def L_Rd_remove : Nat → List Bool := fun b => match b with
  | 0 => [true, true, false]
  | 1 => [true, true, false]
  | 2 => [false, false, false]
  | 3 => [true, true, false]
  | _ => []
def P_Rd_remove : List Nat := [0, 4, 12, 13]
def K_Rd_remove : KE := (⟨"NameReaders$Reader", "remove", "(I)V"⟩, prog_6_method_7_code, 3, (Option.none : Option Jvm.ClassFile.FieldType), B_Rd_remove, L_Rd_remove, P_Rd_remove, [617, 615, 616, 82, 0, 2])
def B_Rd_sort : BT := fun b => match b with
  | 0 => (1, [(.iconst 0, [], 0), (.istore_n 1, [], 0), (.iconst 0, [], 0), (.istore_n 2, [], 0)])
  | 1 => (2, [(.iload_n 2, [], 0), (.bipush 18, [], 0), (.if_icmp .ge 67, [9, 2], 0)])
  | 2 => (3, [(.aload_n 0, [], 0), (.getfield 18, [4, 2, 2, 117], 0), (.iload_n 2, [], 0), (.iload_n 1, [], 0), (.iastore, [], 0), (.iconst 0, [], 0), (.istore_n 3, [], 0)])
  | 3 => (4, [(.iload_n 3, [], 0), (.aload_n 0, [], 0), (.getfield 31, [4, 6, 0, 121], 0), (.if_icmp .ge 44, [8, 4], 0)])
  | 4 => (5, [(.iload_n 1, [], 0), (.bipush 20, [], 0), (.if_icmp .ge 38, [8, 5], 0)])
  | 5 => (6, [(.aload_n 0, [], 0), (.iload_n 3, [], 0), (.iconst 0, [], 0), (.invokevirtual 43, [k_Rd_part, 3, 4, 1, 456], 0), (.iconst 3, [], 0), (.imul, [], 0), (.aload_n 0, [], 0), (.iload_n 3, [], 0), (.iconst 1, [], 0), (.invokevirtual 43, [k_Rd_part, 3, 4, 1, 456], 0), (.iadd, [], 0), (.iload_n 2, [], 0), (.if_icmp .ne 13, [7, 6], 0)])
  | 6 => (7, [(.aload_n 0, [], 0), (.getfield 15, [4, 1, 2, 116], 0), (.iload_n 1, [], 0), (.iload_n 3, [], 0), (.iastore, [], 0), (.iinc 1 1, [], 0)])
  | 7 => (8, [(.iinc 3 1, [], 0), (.goto (-46), [3], 0)])
  | 8 => (9, [(.iinc 2 1, [], 0), (.goto (-67), [1], 0)])
  | 9 => (10, [(.aload_n 0, [], 0), (.getfield 18, [4, 2, 2, 117], 0), (.bipush 18, [], 0), (.iload_n 1, [], 0), (.iastore, [], 0), (.return_, [], 0)])
  | _ => (0, [])
def L_Rd_sort : Nat → List Bool := fun b => match b with
  | 0 => [true, false, false, false]
  | 1 => [true, true, true, false]
  | 2 => [true, true, true, false]
  | 3 => [true, true, true, true]
  | 4 => [true, true, true, true]
  | 5 => [true, true, true, true]
  | 6 => [true, true, true, true]
  | 7 => [true, true, true, true]
  | 8 => [true, true, true, false]
  | 9 => [true, true, false, false]
  | _ => []
def P_Rd_sort : List Nat := [0, 4, 10, 19, 27, 33, 52, 62, 68, 74]
def K_Rd_sort : KE := (⟨"NameReaders$Reader", "sort", "()V"⟩, prog_6_method_8_code, 4, (Option.none : Option Jvm.ClassFile.FieldType), B_Rd_sort, L_Rd_sort, P_Rd_sort, [455, 454, 1, 82, 0, 1])
def B_Rd_part : BT := fun b => match b with
  | 0 => (1, [(.aload_n 0, [], 0), (.getfield 9, [4, 0, 2, 115], 0), (.iload_n 1, [], 0), (.iconst 5, [], 0), (.imul, [], 0), (.iload_n 2, [], 0), (.iadd, [], 0), (.iaload, [], 0), (.ireturn, [0], 0)])
  | _ => (0, [])
def L_Rd_part : Nat → List Bool := fun b => match b with
  | 0 => [true, true, true]
  | _ => []
def P_Rd_part : List Nat := [0]
def K_Rd_part : KE := (⟨"NameReaders$Reader", "part", "(II)I"⟩, prog_6_method_9_code, 3, (Option.some Jvm.ClassFile.FieldType.int), B_Rd_part, L_Rd_part, P_Rd_part, [459, 457, 458, 82, 0, 3])
def B_Rd_begin : BT := fun b => match b with
  | 0 => (1, [(.aload_n 0, [], 0), (.getfield 18, [4, 2, 2, 117], 0), (.iload_n 1, [], 0), (.bipush 12, [], 0), (.ishr, [], 0), (.iconst 3, [], 0), (.imul, [], 0), (.iload_n 2, [], 0), (.iadd, [], 0), (.iaload, [], 0), (.ireturn, [0], 0)])
  | _ => (0, [])
def L_Rd_begin : Nat → List Bool := fun b => match b with
  | 0 => [true, true, true]
  | _ => []
def P_Rd_begin : List Nat := [0]
def K_Rd_begin : KE := (⟨"NameReaders$Reader", "begin", "(II)I"⟩, prog_6_method_10_code, 3, (Option.some Jvm.ClassFile.FieldType.int), B_Rd_begin, L_Rd_begin, P_Rd_begin, [723, 721, 722, 82, 0, 3])
def B_Rd_end : BT := fun b => match b with
  | 0 => (1, [(.aload_n 0, [], 0), (.getfield 18, [4, 2, 2, 117], 0), (.iload_n 1, [], 0), (.bipush 12, [], 0), (.ishr, [], 0), (.iconst 3, [], 0), (.imul, [], 0), (.iload_n 2, [], 0), (.iadd, [], 0), (.iconst 1, [], 0), (.iadd, [], 0), (.iaload, [], 0), (.ireturn, [0], 0)])
  | _ => (0, [])
def L_Rd_end : Nat → List Bool := fun b => match b with
  | 0 => [true, true, true]
  | _ => []
def P_Rd_end : List Nat := [0]
def K_Rd_end : KE := (⟨"NameReaders$Reader", "end", "(II)I"⟩, prog_6_method_11_code, 3, (Option.some Jvm.ClassFile.FieldType.int), B_Rd_end, L_Rd_end, P_Rd_end, [719, 717, 718, 82, 0, 3])
def B_Rd_moveAt : BT := fun b => match b with
  | 0 => (1, [(.aload_n 0, [], 0), (.getfield 15, [4, 1, 2, 116], 0), (.iload_n 1, [], 0), (.iaload, [], 0), (.ireturn, [0], 0)])
  | _ => (0, [])
def L_Rd_moveAt : Nat → List Bool := fun b => match b with
  | 0 => [true, true]
  | _ => []
def P_Rd_moveAt : List Nat := [0]
def K_Rd_moveAt : KE := (⟨"NameReaders$Reader", "moveAt", "(I)I"⟩, prog_6_method_12_code, 2, (Option.some Jvm.ClassFile.FieldType.int), B_Rd_moveAt, L_Rd_moveAt, P_Rd_moveAt, [727, 725, 726, 82, 0, 2])
def B_Rd_hasTest : BT := fun b => match b with
  | 0 => (1, [(.iconst 0, [], 0), (.istore 4, [], 0)])
  | 1 => (2, [(.iload 4, [], 0), (.aload_n 0, [], 0), (.getfield 31, [4, 6, 0, 121], 0), (.if_icmp .ge 44, [7, 2], 0)])
  | 2 => (3, [(.aload_n 0, [], 0), (.iload 4, [], 0), (.iconst 1, [], 0), (.invokevirtual 43, [k_Rd_part, 3, 4, 1, 456], 0), (.iload_n 1, [], 0), (.if_icmp .ne 27, [6, 3], 0)])
  | 3 => (4, [(.aload_n 0, [], 0), (.iload 4, [], 0), (.iconst 2, [], 0), (.invokevirtual 43, [k_Rd_part, 3, 4, 1, 456], 0), (.iload_n 2, [], 0), (.if_icmp .lt 16, [6, 4], 0)])
  | 4 => (5, [(.aload_n 0, [], 0), (.iload 4, [], 0), (.iconst 2, [], 0), (.invokevirtual 43, [k_Rd_part, 3, 4, 1, 456], 0), (.iload_n 3, [], 0), (.if_icmp .gt 5, [6, 5], 0)])
  | 5 => (6, [(.iconst 1, [], 0), (.ireturn, [1], 0)])
  | 6 => (7, [(.iinc 4 1, [], 0), (.goto (-47), [1], 0)])
  | 7 => (8, [(.iconst 0, [], 0), (.ireturn, [1], 0)])
  | _ => (0, [])
def L_Rd_hasTest : Nat → List Bool := fun b => match b with
  | 0 => [true, true, true, true, false]
  | 1 => [true, true, true, true, true]
  | 2 => [true, true, true, true, true]
  | 3 => [true, true, true, true, true]
  | 4 => [true, true, true, true, true]
  | 5 => [false, false, false, false, false]
  | 6 => [true, true, true, true, true]
  | 7 => [false, false, false, false, false]
  | _ => []
def P_Rd_hasTest : List Nat := [0, 3, 12, 23, 34, 45, 47, 53]
def K_Rd_hasTest : KE := (⟨"NameReaders$Reader", "hasTest", "(III)Z"⟩, prog_6_method_13_code, 5, (Option.some Jvm.ClassFile.FieldType.boolean), B_Rd_hasTest, L_Rd_hasTest, P_Rd_hasTest, [1102, 1100, 1101, 82, 0, 4])
def B_Rd_takesSome : BT := fun b => match b with
  | 0 => (1, [(.aload_n 0, [], 0), (.getfield 28, [4, 5, 0, 120], 0), (.iload_n 1, [], 0), (.iand, [], 0), (.ifCond .eq 7, [2, 1], 0)])
  | 1 => (2, [(.iconst 1, [], 0), (.goto 4, [3], 0)])
  | 2 => (3, [(.iconst 0, [], 0)])
  | 3 => (4, [(.ireturn, [1], 0)])
  | _ => (0, [])
def L_Rd_takesSome : Nat → List Bool := fun b => match b with
  | 0 => [true, true]
  | 1 => [false, false]
  | 2 => [false, false]
  | 3 => [false, false]
  | _ => []
def P_Rd_takesSome : List Nat := [0, 9, 13, 14]
def K_Rd_takesSome : KE := (⟨"NameReaders$Reader", "takesSome", "(I)Z"⟩, prog_6_method_14_code, 2, (Option.some Jvm.ClassFile.FieldType.boolean), B_Rd_takesSome, L_Rd_takesSome, P_Rd_takesSome, [742, 740, 741, 82, 0, 2])
def B_Rd_takesAt : BT := fun b => match b with
  | 0 => (1, [(.aload_n 0, [], 0), (.getfield 28, [4, 5, 0, 120], 0), (.iload_n 1, [], 0), (.bipush 12, [], 0), (.ishr, [], 0), (.ishr, [], 0), (.iconst 1, [], 0), (.iand, [], 0), (.ifCond .eq 7, [2, 1], 0)])
  | 1 => (2, [(.iconst 1, [], 0), (.goto 4, [3], 0)])
  | 2 => (3, [(.iconst 0, [], 0)])
  | 3 => (4, [(.ireturn, [1], 0)])
  | _ => (0, [])
def L_Rd_takesAt : Nat → List Bool := fun b => match b with
  | 0 => [true, true]
  | 1 => [false, false]
  | 2 => [false, false]
  | 3 => [false, false]
  | _ => []
def P_Rd_takesAt : List Nat := [0, 14, 18, 19]
def K_Rd_takesAt : KE := (⟨"NameReaders$Reader", "takesAt", "(I)Z"⟩, prog_6_method_15_code, 2, (Option.some Jvm.ClassFile.FieldType.boolean), B_Rd_takesAt, L_Rd_takesAt, P_Rd_takesAt, [793, 791, 792, 82, 0, 2])
def B_Rd_takesBehind : BT := fun b => match b with
  | 0 => (1, [(.aload_n 0, [], 0), (.getfield 28, [4, 5, 0, 120], 0), (.aload_n 0, [], 0), (.iload_n 1, [], 0), (.iconst 4, [], 0), (.invokevirtual 43, [k_Rd_part, 3, 4, 1, 456], 0), (.ishr, [], 0), (.iconst 1, [], 0), (.iand, [], 0), (.ifCond .eq 7, [2, 1], 0)])
  | 1 => (2, [(.iconst 1, [], 0), (.goto 4, [3], 0)])
  | 2 => (3, [(.iconst 0, [], 0)])
  | 3 => (4, [(.ireturn, [1], 0)])
  | _ => (0, [])
def L_Rd_takesBehind : Nat → List Bool := fun b => match b with
  | 0 => [true, true]
  | 1 => [false, false]
  | 2 => [false, false]
  | 3 => [false, false]
  | _ => []
def P_Rd_takesBehind : List Nat := [0, 16, 20, 21]
def K_Rd_takesBehind : KE := (⟨"NameReaders$Reader", "takesBehind", "(I)Z"⟩, prog_6_method_16_code, 2, (Option.some Jvm.ClassFile.FieldType.boolean), B_Rd_takesBehind, L_Rd_takesBehind, P_Rd_takesBehind, [857, 855, 856, 82, 0, 2])
def B_Rd_after : BT := fun b => match b with
  | 0 => (1, [(.iload_n 2, [], 0), (.iconst 5, [], 0), (.imul, [], 0), (.istore 4, [], 0), (.aload_n 0, [], 0), (.getfield 9, [4, 0, 2, 115], 0), (.iload 4, [], 0), (.iconst 2, [], 0), (.iadd, [], 0), (.iaload, [], 0), (.istore 5, [], 0), (.iconst 1, [], 0), (.istore 6, [], 0), (.iload 5, [], 0), (.iconst 3, [], 0), (.if_icmp .ne 42, [7, 1], 0)])
  | 1 => (2, [(.iload_n 1, [], 0), (.bipush 15, [], 0), (.iand, [], 0), (.iload_n 3, [], 0), (.if_icmp .eq 28, [5, 2], 0)])
  | 2 => (3, [(.iload_n 1, [], 0), (.iconst 4, [], 0), (.ishr, [], 0), (.bipush 15, [], 0), (.iand, [], 0), (.iload_n 3, [], 0), (.if_icmp .eq 18, [5, 3], 0)])
  | 3 => (4, [(.iload_n 1, [], 0), (.bipush 8, [], 0), (.ishr, [], 0), (.bipush 15, [], 0), (.iand, [], 0), (.iload_n 3, [], 0), (.if_icmp .eq 7, [5, 4], 0)])
  | 4 => (5, [(.iconst 1, [], 0), (.goto 4, [6], 0)])
  | 5 => (6, [(.iconst 0, [], 0)])
  | 6 => (7, [(.istore 6, [], 0), (.goto 29, [12], 0)])
  | 7 => (8, [(.iload 5, [], 0), (.iconst 4, [], 0), (.if_icmp .eq 23, [12, 8], 0)])
  | 8 => (9, [(.iload_n 1, [], 0), (.iload 5, [], 0), (.iconst 2, [], 0), (.ishl, [], 0), (.ishr, [], 0), (.bipush 15, [], 0), (.iand, [], 0), (.iload_n 3, [], 0), (.if_icmp .ne 7, [10, 9], 0)])
  | 9 => (10, [(.iconst 1, [], 0), (.goto 4, [11], 0)])
  | 10 => (11, [(.iconst 0, [], 0)])
  | 11 => (12, [(.istore 6, [], 0)])
  | 12 => (13, [(.iload 6, [], 0), (.ifCond .ne 5, [14, 13], 0)])
  | 13 => (14, [(.iconst (-1), [], 0), (.ireturn, [0], 0)])
  | 14 => (15, [(.iload_n 1, [], 0), (.sipush 4095, [], 0), (.iand, [], 0), (.istore 7, [], 0), (.aload_n 0, [], 0), (.getfield 9, [4, 0, 2, 115], 0), (.iload 4, [], 0), (.iconst 3, [], 0), (.iadd, [], 0), (.iaload, [], 0), (.istore 8, [], 0), (.iload 8, [], 0), (.ifCond .lt 24, [16, 15], 0)])
  | 15 => (16, [(.iload 7, [], 0), (.bipush 15, [], 0), (.iload 8, [], 0), (.iconst 2, [], 0), (.ishl, [], 0), (.ishl, [], 0), (.iconst (-1), [], 0), (.ixor, [], 0), (.iand, [], 0), (.iload_n 3, [], 0), (.iload 8, [], 0), (.iconst 2, [], 0), (.ishl, [], 0), (.ishl, [], 0), (.ior, [], 0), (.istore 7, [], 0)])
  | 16 => (17, [(.aload_n 0, [], 0), (.getfield 9, [4, 0, 2, 115], 0), (.iload 4, [], 0), (.iconst 4, [], 0), (.iadd, [], 0), (.iaload, [], 0), (.bipush 12, [], 0), (.ishl, [], 0), (.iload 7, [], 0), (.ior, [], 0), (.ireturn, [0], 0)])
  | _ => (0, [])
def L_Rd_after : Nat → List Bool := fun b => match b with
  | 0 => [true, true, true, true, false, false, false, false, false]
  | 1 => [true, true, false, true, true, false, false, false, false]
  | 2 => [true, true, false, true, true, false, false, false, false]
  | 3 => [true, true, false, true, true, false, false, false, false]
  | 4 => [true, true, false, true, true, false, false, false, false]
  | 5 => [true, true, false, true, true, false, false, false, false]
  | 6 => [true, true, false, true, true, false, false, false, false]
  | 7 => [true, true, false, true, true, true, true, false, false]
  | 8 => [true, true, false, true, true, true, false, false, false]
  | 9 => [true, true, false, true, true, false, false, false, false]
  | 10 => [true, true, false, true, true, false, false, false, false]
  | 11 => [true, true, false, true, true, false, false, false, false]
  | 12 => [true, true, false, true, true, false, true, false, false]
  | 13 => [false, false, false, false, false, false, false, false, false]
  | 14 => [true, true, false, true, true, false, false, false, false]
  | 15 => [true, false, false, true, true, false, false, true, true]
  | 16 => [true, false, false, false, true, false, false, true, false]
  | _ => []
def P_Rd_after : List Nat := [0, 25, 33, 43, 54, 58, 59, 64, 70, 83, 87, 88, 90, 95, 97, 120, 141]
def K_Rd_after : KE := (⟨"NameReaders$Reader", "after", "(III)I"⟩, prog_6_method_17_code, 9, (Option.some Jvm.ClassFile.FieldType.int), B_Rd_after, L_Rd_after, P_Rd_after, [731, 729, 730, 82, 0, 4])
def B_Rd_heldIn : BT := fun b => match b with
  | 0 => (1, [(.iload_n 0, [], 0), (.iload_n 1, [], 0), (.iconst 2, [], 0), (.ishl, [], 0), (.ishr, [], 0), (.bipush 15, [], 0), (.iand, [], 0), (.ireturn, [0], 0)])
  | _ => (0, [])
def L_Rd_heldIn : Nat → List Bool := fun b => match b with
  | 0 => [true, true]
  | _ => []
def P_Rd_heldIn : List Nat := [0]
def K_Rd_heldIn : KE := (⟨"NameReaders$Reader", "heldIn", "(II)I"⟩, prog_6_method_18_code, 2, (Option.some Jvm.ClassFile.FieldType.int), B_Rd_heldIn, L_Rd_heldIn, P_Rd_heldIn, [779, 778, 0, 82, 1, 2])
def B_Rd_settle : BT := fun b => match b with
  | 0 => (1, [(.iload_n 1, [], 0), (.iconst (-1), [], 0), (.if_icmp .ne 5, [2, 1], 0)])
  | 1 => (2, [(.iload_n 0, [], 0), (.ireturn, [0], 0)])
  | 2 => (3, [(.iload_n 0, [], 0), (.sipush (-4096), [], 0), (.iand, [], 0), (.istore_n 3, [], 0), (.iconst 0, [], 0), (.istore 4, [], 0)])
  | 3 => (4, [(.iload 4, [], 0), (.bipush 12, [], 0), (.if_icmp .ge 39, [8, 4], 0)])
  | 4 => (5, [(.iload_n 0, [], 0), (.iload 4, [], 0), (.ishr, [], 0), (.bipush 15, [], 0), (.iand, [], 0), (.istore 5, [], 0), (.iload_n 3, [], 0), (.iload_n 1, [], 0), (.iload 5, [], 0), (.ishr, [], 0), (.iconst 1, [], 0), (.iand, [], 0), (.ifCond .eq 8, [6, 5], 0)])
  | 5 => (6, [(.iload 5, [], 0), (.goto 4, [7], 0)])
  | 6 => (7, [(.iload_n 2, [], 0)])
  | 7 => (8, [(.iload 4, [], 0), (.ishl, [], 0), (.ior, [], 0), (.istore_n 3, [], 0), (.iinc 4 4, [], 0), (.goto (-40), [3], 0)])
  | 8 => (9, [(.iload_n 3, [], 0), (.ireturn, [0], 0)])
  | _ => (0, [])
def L_Rd_settle : Nat → List Bool := fun b => match b with
  | 0 => [true, true, true, false, false, false]
  | 1 => [true, false, false, false, false, false]
  | 2 => [true, true, true, false, false, false]
  | 3 => [true, true, true, true, true, false]
  | 4 => [true, true, true, true, true, false]
  | 5 => [true, true, true, false, true, true]
  | 6 => [true, true, true, false, true, false]
  | 7 => [true, true, true, false, true, false]
  | 8 => [false, false, false, true, false, false]
  | _ => []
def P_Rd_settle : List Nat := [0, 5, 7, 16, 23, 42, 47, 48, 59]
def K_Rd_settle : KE := (⟨"NameReaders$Reader", "settle", "(III)I"⟩, prog_6_method_19_code, 6, (Option.some Jvm.ClassFile.FieldType.int), B_Rd_settle, L_Rd_settle, P_Rd_settle, [734, 733, 0, 82, 1, 3])
def B_Rw_init : BT := fun b => match b with
  | 0 => (1, [(.aload_n 0, [], 0), (.invokespecial 3, [0, 1, 5, 0, 168], 0), (.aload_n 0, [], 0), (.bipush 12, [], 0), (.newarray .int, [0], 0), (.putfield 9, [5, 0, 2, 169], 0), (.aload_n 0, [], 0), (.bipush 12, [], 0), (.newarray .int, [0], 0), (.putfield 15, [5, 1, 2, 170], 0), (.aload_n 0, [], 0), (.bipush 12, [], 0), (.newarray .int, [0], 0), (.putfield 18, [5, 2, 2, 171], 0), (.aload_n 0, [], 0), (.bipush 13, [], 0), (.newarray .int, [0], 0), (.putfield 21, [5, 3, 2, 172], 0), (.aload_n 0, [], 0), (.iconst 0, [], 0), (.putfield 24, [5, 4, 0, 173], 0), (.aload_n 0, [], 0), (.iconst 0, [], 0), (.putfield 28, [5, 5, 0, 174], 0), (.aload_n 0, [], 0), (.iconst 0, [], 0), (.putfield 31, [5, 6, 0, 175], 0), (.aload_n 0, [], 0), (.iconst 0, [], 0), (.putfield 34, [5, 7, 0, 176], 0), (.return_, [], 0)])
  | _ => (0, [])
def L_Rw_init : Nat → List Bool := fun b => match b with
  | 0 => [true]
  | _ => []
def P_Rw_init : List Nat := [0]
def K_Rw_init : KE := (⟨"NameReaders$Row", "<init>", "()V"⟩, prog_7_method_1_code, 1, (Option.none : Option Jvm.ClassFile.FieldType), B_Rw_init, L_Rw_init, P_Rw_init, [167, 166, 0, 84, 2, 1])
def B_Rw_size : BT := fun b => match b with
  | 0 => (1, [(.aload_n 0, [], 0), (.getfield 24, [5, 4, 0, 173], 0), (.ireturn, [0], 0)])
  | _ => (0, [])
def L_Rw_size : Nat → List Bool := fun b => match b with
  | 0 => [true]
  | _ => []
def P_Rw_size : List Nat := [0]
def K_Rw_size : KE := (⟨"NameReaders$Row", "size", "()I"⟩, prog_7_method_2_code, 1, (Option.some Jvm.ClassFile.FieldType.int), B_Rw_size, L_Rw_size, P_Rw_size, [628, 626, 627, 84, 0, 1])
def B_Rw_told : BT := fun b => match b with
  | 0 => (1, [(.aload_n 0, [], 0), (.getfield 28, [5, 5, 0, 174], 0), (.ireturn, [0], 0)])
  | _ => (0, [])
def L_Rw_told : Nat → List Bool := fun b => match b with
  | 0 => [true]
  | _ => []
def P_Rw_told : List Nat := [0]
def K_Rw_told : KE := (⟨"NameReaders$Row", "told", "()I"⟩, prog_7_method_3_code, 1, (Option.some Jvm.ClassFile.FieldType.int), B_Rw_told, L_Rw_told, P_Rw_told, [1037, 1035, 1036, 84, 0, 1])
def B_Rw_gaps : BT := fun b => match b with
  | 0 => (1, [(.aload_n 0, [], 0), (.getfield 31, [5, 6, 0, 175], 0), (.ireturn, [0], 0)])
  | _ => (0, [])
def L_Rw_gaps : Nat → List Bool := fun b => match b with
  | 0 => [true]
  | _ => []
def P_Rw_gaps : List Nat := [0]
def K_Rw_gaps : KE := (⟨"NameReaders$Row", "gaps", "()I"⟩, prog_7_method_4_code, 1, (Option.some Jvm.ClassFile.FieldType.int), B_Rw_gaps, L_Rw_gaps, P_Rw_gaps, [669, 667, 668, 84, 0, 1])
def B_Rw_gapPairs : BT := fun b => match b with
  | 0 => (1, [(.aload_n 0, [], 0), (.getfield 34, [5, 7, 0, 176], 0), (.ireturn, [0], 0)])
  | _ => (0, [])
def L_Rw_gapPairs : Nat → List Bool := fun b => match b with
  | 0 => [true]
  | _ => []
def P_Rw_gapPairs : List Nat := [0]
def K_Rw_gapPairs : KE := (⟨"NameReaders$Row", "gapPairs", "()I"⟩, prog_7_method_5_code, 1, (Option.some Jvm.ClassFile.FieldType.int), B_Rw_gapPairs, L_Rw_gapPairs, P_Rw_gapPairs, [1018, 1016, 1017, 84, 0, 1])
def B_Rw_letter : BT := fun b => match b with
  | 0 => (1, [(.aload_n 0, [], 0), (.getfield 9, [5, 0, 2, 169], 0), (.iload_n 1, [], 0), (.iaload, [], 0), (.ireturn, [0], 0)])
  | _ => (0, [])
def L_Rw_letter : Nat → List Bool := fun b => match b with
  | 0 => [true, true]
  | _ => []
def P_Rw_letter : List Nat := [0]
def K_Rw_letter : KE := (⟨"NameReaders$Row", "letter", "(I)I"⟩, prog_7_method_6_code, 2, (Option.some Jvm.ClassFile.FieldType.int), B_Rw_letter, L_Rw_letter, P_Rw_letter, [698, 696, 697, 84, 0, 2])
def B_Rw_name : BT := fun b => match b with
  | 0 => (1, [(.aload_n 0, [], 0), (.getfield 15, [5, 1, 2, 170], 0), (.iload_n 1, [], 0), (.iaload, [], 0), (.ireturn, [0], 0)])
  | _ => (0, [])
def L_Rw_name : Nat → List Bool := fun b => match b with
  | 0 => [true, true]
  | _ => []
def P_Rw_name : List Nat := [0]
def K_Rw_name : KE := (⟨"NameReaders$Row", "name", "(I)I"⟩, prog_7_method_7_code, 2, (Option.some Jvm.ClassFile.FieldType.int), B_Rw_name, L_Rw_name, P_Rw_name, [1028, 1026, 1027, 84, 0, 2])
def B_Rw_id : BT := fun b => match b with
  | 0 => (1, [(.aload_n 0, [], 0), (.getfield 18, [5, 2, 2, 171], 0), (.iload_n 1, [], 0), (.iaload, [], 0), (.ireturn, [0], 0)])
  | _ => (0, [])
def L_Rw_id : Nat → List Bool := fun b => match b with
  | 0 => [true, true]
  | _ => []
def P_Rw_id : List Nat := [0]
def K_Rw_id : KE := (⟨"NameReaders$Row", "id", "(I)I"⟩, prog_7_method_8_code, 2, (Option.some Jvm.ClassFile.FieldType.int), B_Rw_id, L_Rw_id, P_Rw_id, [702, 700, 701, 84, 0, 2])
def B_Rw_aliveBehind : BT := fun b => match b with
  | 0 => (1, [(.aload_n 0, [], 0), (.getfield 21, [5, 3, 2, 172], 0), (.iload_n 1, [], 0), (.iaload, [], 0), (.ireturn, [0], 0)])
  | _ => (0, [])
def L_Rw_aliveBehind : Nat → List Bool := fun b => match b with
  | 0 => [true, true]
  | _ => []
def P_Rw_aliveBehind : List Nat := [0]
def K_Rw_aliveBehind : KE := (⟨"NameReaders$Row", "aliveBehind", "(I)I"⟩, prog_7_method_9_code, 2, (Option.some Jvm.ClassFile.FieldType.int), B_Rw_aliveBehind, L_Rw_aliveBehind, P_Rw_aliveBehind, [706, 704, 705, 84, 0, 2])
def B_Rw_hasGap : BT := fun b => match b with
  | 0 => (1, [(.aload_n 0, [], 0), (.getfield 9, [5, 0, 2, 169], 0), (.iload_n 1, [], 0), (.iaload, [], 0), (.iconst (-1), [], 0), (.if_icmp .eq 13, [2, 1], 0)])
  | 1 => (2, [(.aload_n 0, [], 0), (.getfield 15, [5, 1, 2, 170], 0), (.iload_n 1, [], 0), (.iaload, [], 0), (.iconst (-1), [], 0), (.if_icmp .ne 7, [3, 2], 0)])
  | 2 => (3, [(.iconst 1, [], 0), (.goto 4, [4], 0)])
  | 3 => (4, [(.iconst 0, [], 0)])
  | 4 => (5, [(.ireturn, [1], 0)])
  | _ => (0, [])
def L_Rw_hasGap : Nat → List Bool := fun b => match b with
  | 0 => [true, true]
  | 1 => [true, true]
  | 2 => [false, false]
  | 3 => [false, false]
  | 4 => [false, false]
  | _ => []
def P_Rw_hasGap : List Nat := [0, 10, 20, 24, 25]
def K_Rw_hasGap : KE := (⟨"NameReaders$Row", "hasGap", "(I)Z"⟩, prog_7_method_10_code, 2, (Option.some Jvm.ClassFile.FieldType.boolean), B_Rw_hasGap, L_Rw_hasGap, P_Rw_hasGap, [648, 646, 647, 84, 0, 2])
def B_Rw_append : BT := fun b => match b with
  | 0 => (1, [(.aload_n 0, [], 0), (.getfield 24, [5, 4, 0, 173], 0), (.bipush 12, [], 0), (.if_icmp .lt 4, [2, 1], 0)])
  | 1 => (2, [(.return_, [], 0)])
  | 2 => (3, [(.aload_n 0, [], 0), (.dup, [], 0), (.getfield 24, [5, 4, 0, 173], 0), (.iconst 1, [], 0), (.iadd, [], 0), (.putfield 24, [5, 4, 0, 173], 0), (.aload_n 0, [], 0), (.aload_n 0, [], 0), (.getfield 24, [5, 4, 0, 173], 0), (.iconst 1, [], 0), (.isub, [], 0), (.iload_n 1, [], 0), (.iload_n 2, [], 0), (.invokevirtual 37, [k_Rw_put, 4, 5, 0, 633], 0), (.return_, [], 0)])
  | _ => (0, [])
def L_Rw_append : Nat → List Bool := fun b => match b with
  | 0 => [true, true, true]
  | 1 => [false, false, false]
  | 2 => [true, true, true]
  | _ => []
def P_Rw_append : List Nat := [0, 9, 10]
def K_Rw_append : KE := (⟨"NameReaders$Row", "append", "(II)V"⟩, prog_7_method_11_code, 3, (Option.none : Option Jvm.ClassFile.FieldType), B_Rw_append, L_Rw_append, P_Rw_append, [632, 630, 631, 84, 0, 3])
def B_Rw_put : BT := fun b => match b with
  | 0 => (1, [(.iload_n 1, [], 0), (.ifCond .lt 11, [2, 1], 0)])
  | 1 => (2, [(.iload_n 1, [], 0), (.aload_n 0, [], 0), (.getfield 24, [5, 4, 0, 173], 0), (.if_icmp .lt 4, [3, 2], 0)])
  | 2 => (3, [(.return_, [], 0)])
  | 3 => (4, [(.aload_n 0, [], 0), (.getfield 9, [5, 0, 2, 169], 0), (.iload_n 1, [], 0), (.iload_n 2, [], 0), (.iastore, [], 0), (.aload_n 0, [], 0), (.getfield 15, [5, 1, 2, 170], 0), (.iload_n 1, [], 0), (.iload_n 3, [], 0), (.iastore, [], 0), (.aload_n 0, [], 0), (.invokevirtual 41, [k_Rw_survey, 1, 5, 0, 637], 0), (.return_, [], 0)])
  | _ => (0, [])
def L_Rw_put : Nat → List Bool := fun b => match b with
  | 0 => [true, true, true, true]
  | 1 => [true, true, true, true]
  | 2 => [false, false, false, false]
  | 3 => [true, true, true, true]
  | _ => []
def P_Rw_put : List Nat := [0, 4, 12, 13]
def K_Rw_put : KE := (⟨"NameReaders$Row", "put", "(III)V"⟩, prog_7_method_12_code, 4, (Option.none : Option Jvm.ClassFile.FieldType), B_Rw_put, L_Rw_put, P_Rw_put, [636, 634, 635, 84, 0, 4])
def B_Rw_wipe : BT := fun b => match b with
  | 0 => (1, [(.aload_n 0, [], 0), (.getfield 24, [5, 4, 0, 173], 0), (.istore_n 1, [], 0), (.aload_n 0, [], 0), (.iconst 0, [], 0), (.putfield 24, [5, 4, 0, 173], 0), (.aload_n 0, [], 0), (.invokevirtual 41, [k_Rw_survey, 1, 5, 0, 637], 0), (.iload_n 1, [], 0), (.ireturn, [0], 0)])
  | _ => (0, [])
def L_Rw_wipe : Nat → List Bool := fun b => match b with
  | 0 => [true, false]
  | _ => []
def P_Rw_wipe : List Nat := [0]
def K_Rw_wipe : KE := (⟨"NameReaders$Row", "wipe", "()I"⟩, prog_7_method_13_code, 2, (Option.some Jvm.ClassFile.FieldType.int), B_Rw_wipe, L_Rw_wipe, P_Rw_wipe, [661, 659, 660, 84, 0, 1])
def B_Rw_idOf : BT := fun b => match b with
  | 0 => (1, [(.iconst 0, [], 0), (.istore_n 2, [], 0)])
  | 1 => (2, [(.iload_n 2, [], 0), (.aload_n 0, [], 0), (.getfield 24, [5, 4, 0, 173], 0), (.if_icmp .ge 26, [5, 2], 0)])
  | 2 => (3, [(.aload_n 0, [], 0), (.getfield 15, [5, 1, 2, 170], 0), (.iload_n 2, [], 0), (.iaload, [], 0), (.iload_n 1, [], 0), (.if_icmp .ne 10, [4, 3], 0)])
  | 3 => (4, [(.aload_n 0, [], 0), (.getfield 18, [5, 2, 2, 171], 0), (.iload_n 2, [], 0), (.iaload, [], 0), (.ireturn, [0], 0)])
  | 4 => (5, [(.iinc 2 1, [], 0), (.goto (-28), [1], 0)])
  | 5 => (6, [(.iconst 0, [], 0), (.ireturn, [0], 0)])
  | _ => (0, [])
def L_Rw_idOf : Nat → List Bool := fun b => match b with
  | 0 => [true, true, false]
  | 1 => [true, true, true]
  | 2 => [true, true, true]
  | 3 => [true, false, true]
  | 4 => [true, true, true]
  | 5 => [false, false, false]
  | _ => []
def P_Rw_idOf : List Nat := [0, 2, 10, 20, 27, 33]
def K_Rw_idOf : KE := (⟨"NameReaders$Row", "idOf", "(I)I"⟩, prog_7_method_14_code, 3, (Option.some Jvm.ClassFile.FieldType.int), B_Rw_idOf, L_Rw_idOf, P_Rw_idOf, [1041, 1039, 1040, 84, 0, 2])
def B_Rw_survey : BT := fun b => match b with
  | 0 => (1, [(.aload_n 0, [], 0), (.iconst 0, [], 0), (.putfield 28, [5, 5, 0, 174], 0), (.aload_n 0, [], 0), (.iconst 0, [], 0), (.putfield 31, [5, 6, 0, 175], 0), (.aload_n 0, [], 0), (.iconst 0, [], 0), (.putfield 34, [5, 7, 0, 176], 0), (.iconst 0, [], 0), (.istore_n 1, [], 0)])
  | 1 => (2, [(.iload_n 1, [], 0), (.aload_n 0, [], 0), (.getfield 24, [5, 4, 0, 173], 0), (.if_icmp .ge 82, [12, 2], 0)])
  | 2 => (3, [(.aload_n 0, [], 0), (.getfield 18, [5, 2, 2, 171], 0), (.iload_n 1, [], 0), (.aload_n 0, [], 0), (.iload_n 1, [], 0), (.invokevirtual 44, [k_Rw_idAt, 2, 5, 1, 641], 0), (.iastore, [], 0), (.aload_n 0, [], 0), (.dup, [], 0), (.getfield 31, [5, 6, 0, 175], 0), (.aload_n 0, [], 0), (.getfield 9, [5, 0, 2, 169], 0), (.iload_n 1, [], 0), (.iaload, [], 0), (.iconst (-1), [], 0), (.if_icmp .ne 7, [4, 3], 0)])
  | 3 => (4, [(.iconst 1, [], 0), (.goto 4, [5], 0)])
  | 4 => (5, [(.iconst 0, [], 0)])
  | 5 => (6, [(.aload_n 0, [], 0), (.getfield 15, [5, 1, 2, 170], 0), (.iload_n 1, [], 0), (.iaload, [], 0), (.iconst (-1), [], 0), (.if_icmp .ne 7, [7, 6], 0)])
  | 6 => (7, [(.iconst 1, [], 0), (.goto 4, [8], 0)])
  | 7 => (8, [(.iconst 0, [], 0)])
  | 8 => (9, [(.iadd, [], 0), (.iadd, [], 0), (.putfield 31, [5, 6, 0, 175], 0), (.aload_n 0, [], 0), (.dup, [], 0), (.getfield 34, [5, 7, 0, 176], 0), (.aload_n 0, [], 0), (.iload_n 1, [], 0), (.invokevirtual 48, [k_Rw_hasGap, 2, 5, 1, 645], 0), (.ifCond .eq 7, [10, 9], 0)])
  | 9 => (10, [(.iconst 1, [], 0), (.goto 4, [11], 0)])
  | 10 => (11, [(.iconst 0, [], 0)])
  | 11 => (12, [(.iadd, [], 0), (.putfield 34, [5, 7, 0, 176], 0), (.iinc 1 1, [], 0), (.goto (-84), [1], 0)])
  | 12 => (13, [(.aload_n 0, [], 0), (.getfield 21, [5, 3, 2, 172], 0), (.aload_n 0, [], 0), (.getfield 24, [5, 4, 0, 173], 0), (.iconst 1, [], 0), (.iastore, [], 0), (.aload_n 0, [], 0), (.getfield 24, [5, 4, 0, 173], 0), (.iconst 1, [], 0), (.isub, [], 0), (.istore_n 1, [], 0)])
  | 13 => (14, [(.iload_n 1, [], 0), (.ifCond .lt 46, [18, 14], 0)])
  | 14 => (15, [(.aload_n 0, [], 0), (.getfield 21, [5, 3, 2, 172], 0), (.iload_n 1, [], 0), (.aload_n 0, [], 0), (.getfield 15, [5, 1, 2, 170], 0), (.iload_n 1, [], 0), (.iaload, [], 0), (.iconst (-1), [], 0), (.if_icmp .ne 7, [16, 15], 0)])
  | 15 => (16, [(.iconst (-1), [], 0), (.goto 20, [17], 0)])
  | 16 => (17, [(.aload_n 0, [], 0), (.getfield 21, [5, 3, 2, 172], 0), (.iload_n 1, [], 0), (.iconst 1, [], 0), (.iadd, [], 0), (.iaload, [], 0), (.iconst 1, [], 0), (.aload_n 0, [], 0), (.getfield 18, [5, 2, 2, 171], 0), (.iload_n 1, [], 0), (.iaload, [], 0), (.ishl, [], 0), (.ior, [], 0)])
  | 17 => (18, [(.iastore, [], 0), (.iinc 1 (-1), [], 0), (.goto (-44), [13], 0)])
  | 18 => (19, [(.return_, [], 0)])
  | _ => (0, [])
def L_Rw_survey : Nat → List Bool := fun b => match b with
  | 0 => [true, false]
  | 1 => [true, true]
  | 2 => [true, true]
  | 3 => [true, true]
  | 4 => [true, true]
  | 5 => [true, true]
  | 6 => [true, true]
  | 7 => [true, true]
  | 8 => [true, true]
  | 9 => [true, true]
  | 10 => [true, true]
  | 11 => [true, true]
  | 12 => [true, false]
  | 13 => [true, true]
  | 14 => [true, true]
  | 15 => [true, true]
  | 16 => [true, true]
  | 17 => [true, true]
  | 18 => [false, false]
  | _ => []
def P_Rw_survey : List Nat := [0, 17, 25, 51, 55, 56, 66, 70, 71, 89, 93, 94, 104, 121, 125, 140, 144, 161, 168]
def K_Rw_survey : KE := (⟨"NameReaders$Row", "survey", "()V"⟩, prog_7_method_15_code, 2, (Option.none : Option Jvm.ClassFile.FieldType), B_Rw_survey, L_Rw_survey, P_Rw_survey, [640, 639, 8, 84, 0, 1])
def B_Rw_idAt : BT := fun b => match b with
  | 0 => (1, [(.aload_n 0, [], 0), (.getfield 15, [5, 1, 2, 170], 0), (.iload_n 1, [], 0), (.iaload, [], 0), (.iconst (-1), [], 0), (.if_icmp .ne 5, [2, 1], 0)])
  | 1 => (2, [(.iconst 0, [], 0), (.ireturn, [0], 0)])
  | 2 => (3, [(.iconst 0, [], 0), (.istore_n 2, [], 0)])
  | 3 => (4, [(.iload_n 2, [], 0), (.iload_n 1, [], 0), (.if_icmp .ge 31, [7, 4], 0)])
  | 4 => (5, [(.aload_n 0, [], 0), (.getfield 15, [5, 1, 2, 170], 0), (.iload_n 2, [], 0), (.iaload, [], 0), (.aload_n 0, [], 0), (.getfield 15, [5, 1, 2, 170], 0), (.iload_n 1, [], 0), (.iaload, [], 0), (.if_icmp .ne 10, [6, 5], 0)])
  | 5 => (6, [(.aload_n 0, [], 0), (.getfield 18, [5, 2, 2, 171], 0), (.iload_n 2, [], 0), (.iaload, [], 0), (.ireturn, [0], 0)])
  | 6 => (7, [(.iinc 2 1, [], 0), (.goto (-30), [3], 0)])
  | 7 => (8, [(.aload_n 0, [], 0), (.dup, [], 0), (.getfield 28, [5, 5, 0, 174], 0), (.iconst 1, [], 0), (.iadd, [], 0), (.putfield 28, [5, 5, 0, 174], 0), (.aload_n 0, [], 0), (.getfield 28, [5, 5, 0, 174], 0), (.ireturn, [0], 0)])
  | _ => (0, [])
def L_Rw_idAt : Nat → List Bool := fun b => match b with
  | 0 => [true, true, false]
  | 1 => [false, false, false]
  | 2 => [true, true, false]
  | 3 => [true, true, true]
  | 4 => [true, true, true]
  | 5 => [true, false, true]
  | 6 => [true, true, true]
  | 7 => [true, false, false]
  | _ => []
def P_Rw_idAt : List Nat := [0, 10, 12, 14, 19, 34, 41, 47]
def K_Rw_idAt : KE := (⟨"NameReaders$Row", "idAt", "(I)I"⟩, prog_7_method_16_code, 3, (Option.some Jvm.ClassFile.FieldType.int), B_Rw_idAt, L_Rw_idAt, P_Rw_idAt, [644, 643, 9, 84, 0, 2])
def B_Ss_init : BT := fun b => match b with
  | 0 => (1, [(.aload_n 0, [], 0), (.invokespecial 3, [0, 1, 6, 0, 316], 0), (.aload_n 0, [], 0), (.bipush 6, [], 0), (.newarray .int, [0], 0), (.putfield 9, [6, 1, 2, 318], 0), (.aload_n 0, [], 0), (.iconst 0, [], 0), (.putfield 15, [6, 4, 0, 321], 0), (.aload_n 0, [], 0), (.iconst 0, [], 0), (.putfield 19, [6, 5, 0, 322], 0), (.aload_n 0, [], 0), (.iconst 0, [], 0), (.putfield 22, [6, 6, 0, 323], 0), (.aload_n 0, [], 0), (.iconst 0, [], 0), (.putfield 25, [6, 7, 0, 324], 0), (.aload_n 0, [], 0), (.aload_n 1, [], 0), (.putfield 28, [6, 0, 2, 317], 0), (.aload_n 0, [], 0), (.aload_n 2, [], 0), (.putfield 32, [6, 2, 2, 319], 0), (.aload_n 0, [], 0), (.aload_n 2, [], 0), (.putfield 36, [6, 3, 2, 320], 0), (.return_, [], 0)])
  | _ => (0, [])
def L_Ss_init : Nat → List Bool := fun b => match b with
  | 0 => [true, true, true]
  | _ => []
def P_Ss_init : List Nat := [0]
def K_Ss_init : KE := (⟨"NameReaders$ShapeSearch", "<init>", "([LNameReaders$Spots;LNameReaders$Reader;)V"⟩, prog_8_method_1_code, 3, (Option.none : Option Jvm.ClassFile.FieldType), B_Ss_init, L_Ss_init, P_Ss_init, [315, 314, 0, 90, 2, 3])
def B_Ss_passed : BT := fun b => match b with
  | 0 => (1, [(.aload_n 0, [], 0), (.getfield 25, [6, 7, 0, 324], 0), (.ireturn, [0], 0)])
  | _ => (0, [])
def L_Ss_passed : Nat → List Bool := fun b => match b with
  | 0 => [true]
  | _ => []
def P_Ss_passed : List Nat := [0]
def K_Ss_passed : KE := (⟨"NameReaders$ShapeSearch", "passed", "()I"⟩, prog_8_method_2_code, 1, (Option.some Jvm.ClassFile.FieldType.int), B_Ss_passed, L_Ss_passed, P_Ss_passed, [875, 873, 874, 90, 0, 1])
def B_Ss_find : BT := fun b => match b with
  | 0 => (1, [(.aload_n 0, [], 0), (.aload_n 1, [], 0), (.putfield 32, [6, 2, 2, 319], 0), (.aload_n 0, [], 0), (.aload_n 2, [], 0), (.putfield 36, [6, 3, 2, 320], 0), (.aload_n 0, [], 0), (.iload_n 3, [], 0), (.putfield 15, [6, 4, 0, 321], 0), (.aload_n 0, [], 0), (.iload 4, [], 0), (.putfield 19, [6, 5, 0, 322], 0), (.aload_n 0, [], 0), (.iload 5, [], 0), (.putfield 22, [6, 6, 0, 323], 0), (.aload_n 0, [], 0), (.iconst 0, [], 0), (.putfield 25, [6, 7, 0, 324], 0), (.aload_n 0, [], 0), (.getfield 15, [6, 4, 0, 321], 0), (.ifCond .ne 48, [8, 1], 0)])
  | 1 => (2, [(.aload_n 0, [], 0), (.aload_n 0, [], 0), (.getfield 32, [6, 2, 2, 319], 0), (.iconst 0, [], 0), (.invokevirtual 39, [k_Rd_takesAt, 2, 4, 1, 827], 0), (.aload_n 0, [], 0), (.getfield 36, [6, 3, 2, 320], 0), (.iconst 0, [], 0), (.invokevirtual 39, [k_Rd_takesAt, 2, 4, 1, 827], 0), (.if_icmp .eq 7, [3, 2], 0)])
  | 2 => (3, [(.iconst 1, [], 0), (.goto 4, [4], 0)])
  | 3 => (4, [(.iconst 0, [], 0)])
  | 4 => (5, [(.putfield 25, [6, 7, 0, 324], 0), (.aload_n 0, [], 0), (.getfield 22, [6, 6, 0, 323], 0), (.aload_n 0, [], 0), (.getfield 25, [6, 7, 0, 324], 0), (.if_icmp .ge 7, [6, 5], 0)])
  | 5 => (6, [(.iconst 1, [], 0), (.goto 4, [7], 0)])
  | 6 => (7, [(.iconst 0, [], 0)])
  | 7 => (8, [(.ireturn, [1], 0)])
  | 8 => (9, [(.aload_n 0, [], 0), (.iconst 0, [], 0), (.invokevirtual 45, [k_Ss_setOf, 2, 6, 3, 828], 0), (.iconst 0, [], 0), (.invokevirtual 49, [k_Sp_startAt, 2, 7, 0, 832], 0), (.aload_n 0, [], 0), (.iconst 0, [], 0), (.invokevirtual 55, [k_Ss_otherSetOf, 2, 6, 3, 833], 0), (.iconst 0, [], 0), (.invokevirtual 49, [k_Sp_startAt, 2, 7, 0, 832], 0), (.aload_n 0, [], 0), (.iconst 0, [], 0), (.iconst 0, [], 0), (.invokevirtual 58, [k_Ss_goOn, 3, 6, 1, 837], 0), (.ireturn, [1], 0)])
  | _ => (0, [])
def L_Ss_find : Nat → List Bool := fun b => match b with
  | 0 => [true, true, true, true, true, true]
  | 1 => [true, false, false, false, false, false]
  | 2 => [true, false, false, false, false, false]
  | 3 => [true, false, false, false, false, false]
  | 4 => [true, false, false, false, false, false]
  | 5 => [false, false, false, false, false, false]
  | 6 => [false, false, false, false, false, false]
  | 7 => [false, false, false, false, false, false]
  | 8 => [true, false, false, false, false, false]
  | _ => []
def P_Ss_find : List Nat := [0, 39, 59, 63, 64, 78, 82, 83, 84]
def K_Ss_find : KE := (⟨"NameReaders$ShapeSearch", "find", "(LNameReaders$Reader;LNameReaders$Reader;III)Z"⟩, prog_8_method_3_code, 6, (Option.some Jvm.ClassFile.FieldType.boolean), B_Ss_find, L_Ss_find, P_Ss_find, [826, 824, 825, 90, 0, 6])
def B_Ss_pairAt : BT := fun b => match b with
  | 0 => (1, [(.aload_n 0, [], 0), (.getfield 9, [6, 1, 2, 318], 0), (.iload_n 1, [], 0), (.iaload, [], 0), (.ireturn, [0], 0)])
  | _ => (0, [])
def L_Ss_pairAt : Nat → List Bool := fun b => match b with
  | 0 => [true, true]
  | _ => []
def P_Ss_pairAt : List Nat := [0]
def K_Ss_pairAt : KE := (⟨"NameReaders$ShapeSearch", "pairAt", "(I)I"⟩, prog_8_method_4_code, 2, (Option.some Jvm.ClassFile.FieldType.int), B_Ss_pairAt, L_Ss_pairAt, P_Ss_pairAt, [883, 881, 882, 90, 0, 2])
def B_Ss_setOf : BT := fun b => match b with
  | 0 => (1, [(.aload_n 0, [], 0), (.getfield 28, [6, 0, 2, 317], 0), (.iload_n 1, [], 0), (.aaload, [], 0), (.areturn, [], 0)])
  | _ => (0, [])
def L_Ss_setOf : Nat → List Bool := fun b => match b with
  | 0 => [true, true]
  | _ => []
def P_Ss_setOf : List Nat := [0]
def K_Ss_setOf : KE := (⟨"NameReaders$ShapeSearch", "setOf", "(I)LNameReaders$Spots;"⟩, prog_8_method_5_code, 2, (Option.some (Jvm.ClassFile.FieldType.object "NameReaders$Spots")), B_Ss_setOf, L_Ss_setOf, P_Ss_setOf, [831, 830, 14, 90, 0, 2])
def B_Ss_otherSetOf : BT := fun b => match b with
  | 0 => (1, [(.aload_n 0, [], 0), (.getfield 28, [6, 0, 2, 317], 0), (.bipush 6, [], 0), (.iload_n 1, [], 0), (.iadd, [], 0), (.aaload, [], 0), (.areturn, [], 0)])
  | _ => (0, [])
def L_Ss_otherSetOf : Nat → List Bool := fun b => match b with
  | 0 => [true, true]
  | _ => []
def P_Ss_otherSetOf : List Nat := [0]
def K_Ss_otherSetOf : KE := (⟨"NameReaders$ShapeSearch", "otherSetOf", "(I)LNameReaders$Spots;"⟩, prog_8_method_6_code, 2, (Option.some (Jvm.ClassFile.FieldType.object "NameReaders$Spots")), B_Ss_otherSetOf, L_Ss_otherSetOf, P_Ss_otherSetOf, [836, 835, 15, 90, 0, 2])
def B_Ss_goOn : BT := fun b => match b with
  | 0 => (1, [(.iload_n 1, [], 0), (.aload_n 0, [], 0), (.getfield 15, [6, 4, 0, 321], 0), (.iconst 1, [], 0), (.isub, [], 0), (.if_icmp .lt 10, [2, 1], 0)])
  | 1 => (2, [(.aload_n 0, [], 0), (.iload_n 1, [], 0), (.iload_n 2, [], 0), (.invokevirtual 62, [k_Ss_end, 3, 6, 1, 841], 0), (.ireturn, [1], 0)])
  | 2 => (3, [(.iconst 0, [], 0), (.istore_n 3, [], 0)])
  | 3 => (4, [(.iload_n 3, [], 0), (.aload_n 0, [], 0), (.getfield 19, [6, 5, 0, 322], 0), (.if_icmp .ge 148, [17, 4], 0)])
  | 4 => (5, [(.iconst 0, [], 0), (.istore 4, [], 0)])
  | 5 => (6, [(.iload 4, [], 0), (.iload_n 2, [], 0), (.if_icmp .gt 133, [16, 6], 0)])
  | 6 => (7, [(.aload_n 0, [], 0), (.iload_n 1, [], 0), (.iconst 1, [], 0), (.iadd, [], 0), (.invokevirtual 45, [k_Ss_setOf, 2, 6, 3, 828], 0), (.aload_n 0, [], 0), (.getfield 32, [6, 2, 2, 319], 0), (.aload_n 0, [], 0), (.iload_n 1, [], 0), (.invokevirtual 45, [k_Ss_setOf, 2, 6, 3, 828], 0), (.iload_n 3, [], 0), (.iload 4, [], 0), (.iconst 1, [], 0), (.iadd, [], 0), (.iconst (-1), [], 0), (.invokevirtual 65, [k_Sp_follow, 6, 7, 0, 871], 0), (.aload_n 0, [], 0), (.iload_n 1, [], 0), (.iconst 1, [], 0), (.iadd, [], 0), (.invokevirtual 55, [k_Ss_otherSetOf, 2, 6, 3, 833], 0), (.aload_n 0, [], 0), (.getfield 36, [6, 3, 2, 320], 0), (.aload_n 0, [], 0), (.iload_n 1, [], 0), (.invokevirtual 55, [k_Ss_otherSetOf, 2, 6, 3, 833], 0), (.iload_n 3, [], 0), (.iload 4, [], 0), (.iconst 1, [], 0), (.iadd, [], 0), (.iconst (-1), [], 0), (.invokevirtual 65, [k_Sp_follow, 6, 7, 0, 871], 0), (.aload_n 0, [], 0), (.getfield 9, [6, 1, 2, 318], 0), (.iload_n 1, [], 0), (.bipush 16, [], 0), (.iload_n 3, [], 0), (.imul, [], 0), (.iload 4, [], 0), (.iadd, [], 0), (.iastore, [], 0), (.aload_n 0, [], 0), (.iload_n 1, [], 0), (.iconst 1, [], 0), (.iadd, [], 0), (.invokevirtual 45, [k_Ss_setOf, 2, 6, 3, 828], 0), (.invokevirtual 69, [k_Sp_size, 1, 7, 1, 850], 0), (.aload_n 0, [], 0), (.iload_n 1, [], 0), (.iconst 1, [], 0), (.iadd, [], 0), (.invokevirtual 55, [k_Ss_otherSetOf, 2, 6, 3, 833], 0), (.invokevirtual 69, [k_Sp_size, 1, 7, 1, 850], 0), (.iadd, [], 0), (.ifCond .le 7, [8, 7], 0)])
  | 7 => (8, [(.iconst 1, [], 0), (.goto 4, [9], 0)])
  | 8 => (9, [(.iconst 0, [], 0)])
  | 9 => (10, [(.istore 5, [], 0), (.iload 5, [], 0), (.ifCond .eq 28, [15, 10], 0)])
  | 10 => (11, [(.aload_n 0, [], 0), (.iload_n 1, [], 0), (.iconst 1, [], 0), (.iadd, [], 0), (.iload 4, [], 0), (.iload_n 2, [], 0), (.if_icmp .ne 9, [12, 11], 0)])
  | 11 => (12, [(.iload_n 2, [], 0), (.iconst 1, [], 0), (.iadd, [], 0), (.goto 4, [13], 0)])
  | 12 => (13, [(.iload_n 2, [], 0)])
  | 13 => (14, [(.invokevirtual 58, [k_Ss_goOn, 3, 6, 1, 837], 0), (.ifCond .eq 5, [15, 14], 0)])
  | 14 => (15, [(.iconst 1, [], 0), (.ireturn, [1], 0)])
  | 15 => (16, [(.iinc 4 1, [], 0), (.goto (-133), [5], 0)])
  | 16 => (17, [(.iinc 3 1, [], 0), (.goto (-150), [3], 0)])
  | 17 => (18, [(.iconst 0, [], 0), (.ireturn, [1], 0)])
  | _ => (0, [])
def L_Ss_goOn : Nat → List Bool := fun b => match b with
  | 0 => [true, true, true, false, false, false]
  | 1 => [true, true, true, false, false, false]
  | 2 => [true, true, true, false, false, false]
  | 3 => [true, true, true, true, false, false]
  | 4 => [true, true, true, true, false, false]
  | 5 => [true, true, true, true, true, false]
  | 6 => [true, true, true, true, true, false]
  | 7 => [true, true, true, true, true, false]
  | 8 => [true, true, true, true, true, false]
  | 9 => [true, true, true, true, true, false]
  | 10 => [true, true, true, true, true, false]
  | 11 => [true, true, true, true, true, false]
  | 12 => [true, true, true, true, true, false]
  | 13 => [true, true, true, true, true, false]
  | 14 => [false, false, false, false, false, false]
  | 15 => [true, true, true, true, true, false]
  | 16 => [true, true, true, true, false, false]
  | 17 => [false, false, false, false, false, false]
  | _ => []
def P_Ss_goOn : List Nat := [0, 10, 17, 19, 27, 30, 36, 123, 127, 128, 135, 145, 151, 152, 158, 160, 166, 172]
def K_Ss_goOn : KE := (⟨"NameReaders$ShapeSearch", "goOn", "(II)Z"⟩, prog_8_method_7_code, 6, (Option.some Jvm.ClassFile.FieldType.boolean), B_Ss_goOn, L_Ss_goOn, P_Ss_goOn, [840, 839, 16, 90, 0, 3])
def B_Ss_end : BT := fun b => match b with
  | 0 => (1, [(.aload_n 0, [], 0), (.aload_n 0, [], 0), (.getfield 32, [6, 2, 2, 319], 0), (.aload_n 0, [], 0), (.iload_n 1, [], 0), (.invokevirtual 45, [k_Ss_setOf, 2, 6, 3, 828], 0), (.iload_n 2, [], 0), (.invokevirtual 73, [k_Ss_endings, 4, 6, 1, 845], 0), (.aload_n 0, [], 0), (.aload_n 0, [], 0), (.getfield 36, [6, 3, 2, 320], 0), (.aload_n 0, [], 0), (.iload_n 1, [], 0), (.invokevirtual 55, [k_Ss_otherSetOf, 2, 6, 3, 833], 0), (.iload_n 2, [], 0), (.invokevirtual 73, [k_Ss_endings, 4, 6, 1, 845], 0), (.ixor, [], 0), (.istore_n 3, [], 0), (.iload_n 3, [], 0), (.invokestatic 77, [k_J_bitI, 1, 1, 865], 0), (.istore 4, [], 0), (.aload_n 0, [], 0), (.getfield 22, [6, 6, 0, 323], 0), (.aload_n 0, [], 0), (.getfield 25, [6, 7, 0, 324], 0), (.isub, [], 0), (.iload 4, [], 0), (.if_icmp .lt 16, [2, 1], 0)])
  | 1 => (2, [(.aload_n 0, [], 0), (.dup, [], 0), (.getfield 25, [6, 7, 0, 324], 0), (.iload 4, [], 0), (.iadd, [], 0), (.putfield 25, [6, 7, 0, 324], 0), (.iconst 0, [], 0), (.ireturn, [1], 0)])
  | 2 => (3, [(.aload_n 0, [], 0), (.getfield 22, [6, 6, 0, 323], 0), (.aload_n 0, [], 0), (.getfield 25, [6, 7, 0, 324], 0), (.isub, [], 0), (.istore 5, [], 0)])
  | 3 => (4, [(.iload 5, [], 0), (.ifCond .le 15, [5, 4], 0)])
  | 4 => (5, [(.iload_n 3, [], 0), (.iload_n 3, [], 0), (.iconst 1, [], 0), (.isub, [], 0), (.iand, [], 0), (.istore_n 3, [], 0), (.iinc 5 (-1), [], 0), (.goto (-14), [3], 0)])
  | 5 => (6, [(.iload_n 3, [], 0), (.iload_n 3, [], 0), (.ineg, [], 0), (.iand, [], 0), (.iconst 1, [], 0), (.isub, [], 0), (.invokestatic 77, [k_J_bitI, 1, 1, 865], 0), (.istore 5, [], 0), (.aload_n 0, [], 0), (.getfield 9, [6, 1, 2, 318], 0), (.iload_n 1, [], 0), (.bipush 16, [], 0), (.iload 5, [], 0), (.bipush 8, [], 0), (.idiv, [], 0), (.imul, [], 0), (.iload 5, [], 0), (.bipush 8, [], 0), (.irem, [], 0), (.iadd, [], 0), (.iastore, [], 0), (.iconst 1, [], 0), (.ireturn, [1], 0)])
  | _ => (0, [])
def L_Ss_end : Nat → List Bool := fun b => match b with
  | 0 => [true, true, true, false, false, false]
  | 1 => [true, false, false, false, true, false]
  | 2 => [true, true, false, true, false, false]
  | 3 => [true, true, false, true, false, true]
  | 4 => [true, true, false, true, false, true]
  | 5 => [true, true, false, true, false, false]
  | _ => []
def P_Ss_end : List Nat := [0, 50, 63, 74, 79, 91]
def K_Ss_end : KE := (⟨"NameReaders$ShapeSearch", "end", "(II)Z"⟩, prog_8_method_8_code, 6, (Option.some Jvm.ClassFile.FieldType.boolean), B_Ss_end, L_Ss_end, P_Ss_end, [844, 843, 17, 90, 0, 3])
def B_Ss_endings : BT := fun b => match b with
  | 0 => (1, [(.iconst 2, [], 0), (.iload_n 3, [], 0), (.ishl, [], 0), (.iconst 1, [], 0), (.isub, [], 0), (.istore 4, [], 0), (.iconst 0, [], 0), (.istore 5, [], 0), (.iconst 0, [], 0), (.istore 6, [], 0)])
  | 1 => (2, [(.iload 6, [], 0), (.aload_n 0, [], 0), (.getfield 19, [6, 5, 0, 322], 0), (.if_icmp .ge 22, [3, 2], 0)])
  | 2 => (3, [(.iload 5, [], 0), (.iload 4, [], 0), (.iload 6, [], 0), (.bipush 8, [], 0), (.imul, [], 0), (.ishl, [], 0), (.ior, [], 0), (.istore 5, [], 0), (.iinc 6 1, [], 0), (.goto (-25), [1], 0)])
  | 3 => (4, [(.iconst 0, [], 0), (.istore 6, [], 0), (.aload_n 2, [], 0), (.iconst 0, [], 0), (.invokevirtual 83, [k_Sp_next, 2, 7, 1, 849], 0), (.istore 7, [], 0), (.aload_n 2, [], 0), (.invokevirtual 69, [k_Sp_size, 1, 7, 1, 850], 0), (.istore 8, [], 0)])
  | 4 => (5, [(.iload 8, [], 0), (.ifCond .le 124, [16, 5], 0)])
  | 5 => (6, [(.iload 7, [], 0), (.ifCond .lt 119, [16, 6], 0)])
  | 6 => (7, [(.iload 6, [], 0), (.iload 5, [], 0), (.if_icmp .eq 112, [16, 7], 0)])
  | 7 => (8, [(.iconst 0, [], 0), (.istore 9, [], 0)])
  | 8 => (9, [(.iload 9, [], 0), (.aload_n 0, [], 0), (.getfield 19, [6, 5, 0, 322], 0), (.if_icmp .ge 84, [15, 9], 0)])
  | 9 => (10, [(.aload_n 1, [], 0), (.iload 7, [], 0), (.iload 9, [], 0), (.invokevirtual 86, [k_Rd_end, 3, 4, 1, 851], 0), (.istore 10, [], 0), (.aload_n 1, [], 0), (.iload 7, [], 0), (.iload 9, [], 0), (.invokevirtual 89, [k_Rd_begin, 3, 4, 1, 852], 0), (.istore 11, [], 0)])
  | 10 => (11, [(.iload 11, [], 0), (.iload 10, [], 0), (.if_icmp .ge 51, [14, 11], 0)])
  | 11 => (12, [(.aload_n 1, [], 0), (.iload 11, [], 0), (.invokevirtual 92, [k_Rd_moveAt, 2, 4, 1, 853], 0), (.istore 12, [], 0), (.aload_n 1, [], 0), (.iload 12, [], 0), (.invokevirtual 95, [k_Rd_takesBehind, 2, 4, 1, 854], 0), (.ifCond .eq 28, [13, 12], 0)])
  | 12 => (13, [(.iload 6, [], 0), (.aload_n 1, [], 0), (.iload 12, [], 0), (.iconst 2, [], 0), (.invokevirtual 98, [k_Rd_part, 3, 4, 1, 858], 0), (.iload 7, [], 0), (.iload 4, [], 0), (.invokestatic 101, [k_Ss_namesFor, 3, 1, 859], 0), (.iload 9, [], 0), (.bipush 8, [], 0), (.imul, [], 0), (.ishl, [], 0), (.ior, [], 0), (.istore 6, [], 0)])
  | 13 => (14, [(.iinc 11 1, [], 0), (.goto (-52), [10], 0)])
  | 14 => (15, [(.iinc 9 1, [], 0), (.goto (-87), [8], 0)])
  | 15 => (16, [(.aload_n 2, [], 0), (.iload 7, [], 0), (.iconst 1, [], 0), (.iadd, [], 0), (.invokevirtual 83, [k_Sp_next, 2, 7, 1, 849], 0), (.istore 7, [], 0), (.iinc 8 (-1), [], 0), (.goto (-123), [4], 0)])
  | 16 => (17, [(.iload 6, [], 0), (.ireturn, [0], 0)])
  | _ => (0, [])
def L_Ss_endings : Nat → List Bool := fun b => match b with
  | 0 => [true, true, true, true, false, false, false, false, false, false, false, false, false]
  | 1 => [true, true, true, false, true, true, true, false, false, false, false, false, false]
  | 2 => [true, true, true, false, true, true, true, false, false, false, false, false, false]
  | 3 => [true, true, true, false, true, true, false, false, false, false, false, false, false]
  | 4 => [true, true, true, false, true, true, true, true, true, false, false, false, false]
  | 5 => [true, true, true, false, true, true, true, true, true, false, false, false, false]
  | 6 => [true, true, true, false, true, true, true, true, true, false, false, false, false]
  | 7 => [true, true, true, false, true, true, true, true, true, false, false, false, false]
  | 8 => [true, true, true, false, true, true, true, true, true, true, false, false, false]
  | 9 => [true, true, true, false, true, true, true, true, true, true, false, false, false]
  | 10 => [true, true, true, false, true, true, true, true, true, true, true, true, false]
  | 11 => [true, true, true, false, true, true, true, true, true, true, true, true, false]
  | 12 => [true, true, true, false, true, true, true, true, true, true, true, true, true]
  | 13 => [true, true, true, false, true, true, true, true, true, true, true, true, false]
  | 14 => [true, true, true, false, true, true, true, true, true, true, false, false, false]
  | 15 => [true, true, true, false, true, true, true, true, true, false, false, false, false]
  | 16 => [false, false, false, false, false, false, true, false, false, false, false, false, false]
  | _ => []
def P_Ss_endings : List Nat := [0, 13, 22, 41, 57, 62, 67, 74, 77, 86, 106, 113, 130, 155, 161, 167, 183]
def K_Ss_endings : KE := (⟨"NameReaders$ShapeSearch", "endings", "(LNameReaders$Reader;LNameReaders$Spots;I)I"⟩, prog_8_method_9_code, 13, (Option.some Jvm.ClassFile.FieldType.int), B_Ss_endings, L_Ss_endings, P_Ss_endings, [848, 847, 18, 90, 0, 4])
def B_Ss_namesFor : BT := fun b => match b with
  | 0 => (1, [(.iload_n 0, [], 0), (.iconst 4, [], 0), (.if_icmp .ne 5, [2, 1], 0)])
  | 1 => (2, [(.iload_n 2, [], 0), (.ireturn, [0], 0)])
  | 2 => (3, [(.iload_n 0, [], 0), (.iconst 3, [], 0), (.if_icmp .ne 25, [4, 3], 0)])
  | 3 => (4, [(.iload_n 2, [], 0), (.iload_n 1, [], 0), (.iconst 0, [], 0), (.invokestatic 105, [k_Ss_bitOf, 2, 1, 862], 0), (.iload_n 1, [], 0), (.iconst 1, [], 0), (.invokestatic 105, [k_Ss_bitOf, 2, 1, 862], 0), (.ior, [], 0), (.iload_n 1, [], 0), (.iconst 2, [], 0), (.invokestatic 105, [k_Ss_bitOf, 2, 1, 862], 0), (.ior, [], 0), (.iconst (-1), [], 0), (.ixor, [], 0), (.iand, [], 0), (.ireturn, [0], 0)])
  | 4 => (5, [(.iload_n 1, [], 0), (.iload_n 0, [], 0), (.invokestatic 105, [k_Ss_bitOf, 2, 1, 862], 0), (.ireturn, [0], 0)])
  | _ => (0, [])
def L_Ss_namesFor : Nat → List Bool := fun b => match b with
  | 0 => [true, true, true]
  | 1 => [false, false, true]
  | 2 => [true, true, true]
  | 3 => [false, true, true]
  | 4 => [true, true, false]
  | _ => []
def P_Ss_namesFor : List Nat := [0, 5, 7, 12, 34]
def K_Ss_namesFor : KE := (⟨"NameReaders$ShapeSearch", "namesFor", "(III)I"⟩, prog_8_method_10_code, 3, (Option.some Jvm.ClassFile.FieldType.int), B_Ss_namesFor, L_Ss_namesFor, P_Ss_namesFor, [861, 860, 0, 90, 1, 3])
def B_Ss_bitOf : BT := fun b => match b with
  | 0 => (1, [(.iconst 1, [], 0), (.iload_n 0, [], 0), (.iload_n 1, [], 0), (.iconst 2, [], 0), (.ishl, [], 0), (.ishr, [], 0), (.bipush 15, [], 0), (.iand, [], 0), (.ishl, [], 0), (.iconst 1, [], 0), (.ishr, [], 0), (.ireturn, [0], 0)])
  | _ => (0, [])
def L_Ss_bitOf : Nat → List Bool := fun b => match b with
  | 0 => [true, true]
  | _ => []
def P_Ss_bitOf : List Nat := [0]
def K_Ss_bitOf : KE := (⟨"NameReaders$ShapeSearch", "bitOf", "(II)I"⟩, prog_8_method_11_code, 2, (Option.some Jvm.ClassFile.FieldType.int), B_Ss_bitOf, L_Ss_bitOf, P_Ss_bitOf, [864, 863, 0, 90, 1, 2])
def B_Sp_init : BT := fun b => match b with
  | 0 => (1, [(.aload_n 0, [], 0), (.invokespecial 3, [0, 1, 7, 0, 200], 0), (.aload_n 0, [], 0), (.iconst 0, [], 0), (.putfield 9, [7, 3, 0, 207], 0), (.aload_n 0, [], 0), (.iload_n 1, [], 0), (.iconst 1, [], 0), (.invokestatic 15, [4, 2, 1, 201], 0), (.putfield 21, [7, 0, 0, 204], 0), (.aload_n 0, [], 0), (.aload_n 0, [], 0), (.getfield 21, [7, 0, 0, 204], 0), (.bipush 63, [], 0), (.iadd, [], 0), (.bipush 64, [], 0), (.idiv, [], 0), (.newarray .long, [1], 0), (.putfield 24, [7, 1, 2, 205], 0), (.aload_n 0, [], 0), (.aload_n 0, [], 0), (.getfield 24, [7, 1, 2, 205], 0), (.arraylength, [], 0), (.bipush 63, [], 0), (.iadd, [], 0), (.bipush 64, [], 0), (.idiv, [], 0), (.newarray .long, [1], 0), (.putfield 28, [7, 2, 2, 206], 0), (.return_, [], 0)])
  | _ => (0, [])
def L_Sp_init : Nat → List Bool := fun b => match b with
  | 0 => [true, true]
  | _ => []
def P_Sp_init : List Nat := [0]
def K_Sp_init : KE := (⟨"NameReaders$Spots", "<init>", "(I)V"⟩, prog_9_method_1_code, 2, (Option.none : Option Jvm.ClassFile.FieldType), B_Sp_init, L_Sp_init, P_Sp_init, [199, 198, 0, 85, 2, 2])
def B_Sp_size : BT := fun b => match b with
  | 0 => (1, [(.aload_n 0, [], 0), (.getfield 9, [7, 3, 0, 207], 0), (.ireturn, [0], 0)])
  | _ => (0, [])
def L_Sp_size : Nat → List Bool := fun b => match b with
  | 0 => [true]
  | _ => []
def P_Sp_size : List Nat := [0]
def K_Sp_size : KE := (⟨"NameReaders$Spots", "size", "()I"⟩, prog_9_method_2_code, 1, (Option.some Jvm.ClassFile.FieldType.int), B_Sp_size, L_Sp_size, P_Sp_size, [772, 770, 771, 85, 0, 1])
def B_Sp_has : BT := fun b => match b with
  | 0 => (1, [(.iload_n 1, [], 0), (.ifCond .lt 33, [4, 1], 0)])
  | 1 => (2, [(.iload_n 1, [], 0), (.aload_n 0, [], 0), (.getfield 21, [7, 0, 0, 204], 0), (.if_icmp .ge 25, [4, 2], 0)])
  | 2 => (3, [(.aload_n 0, [], 0), (.getfield 24, [7, 1, 2, 205], 0), (.iload_n 1, [], 0), (.bipush 6, [], 0), (.ishr, [], 0), (.laload, [], 0), (.iload_n 1, [], 0), (.lshr, [], 0), (.lconst 1, [], 0), (.land, [], 0), (.lconst 0, [], 0), (.lcmp, [], 0), (.ifCond .eq 7, [4, 3], 0)])
  | 3 => (4, [(.iconst 1, [], 0), (.goto 4, [5], 0)])
  | 4 => (5, [(.iconst 0, [], 0)])
  | 5 => (6, [(.ireturn, [1], 0)])
  | _ => (0, [])
def L_Sp_has : Nat → List Bool := fun b => match b with
  | 0 => [true, true]
  | 1 => [true, true]
  | 2 => [true, true]
  | 3 => [false, false]
  | 4 => [false, false]
  | 5 => [false, false]
  | _ => []
def P_Sp_has : List Nat := [0, 4, 12, 30, 34, 35]
def K_Sp_has : KE := (⟨"NameReaders$Spots", "has", "(I)Z"⟩, prog_9_method_3_code, 2, (Option.some Jvm.ClassFile.FieldType.boolean), B_Sp_has, L_Sp_has, P_Sp_has, [813, 811, 812, 85, 0, 2])
def B_Sp_add : BT := fun b => match b with
  | 0 => (1, [(.iload_n 1, [], 0), (.ifCond .lt 11, [2, 1], 0)])
  | 1 => (2, [(.iload_n 1, [], 0), (.aload_n 0, [], 0), (.getfield 21, [7, 0, 0, 204], 0), (.if_icmp .lt 5, [3, 2], 0)])
  | 2 => (3, [(.iconst 0, [], 0), (.ireturn, [1], 0)])
  | 3 => (4, [(.iload_n 1, [], 0), (.bipush 6, [], 0), (.ishr, [], 0), (.istore_n 2, [], 0), (.aload_n 0, [], 0), (.getfield 24, [7, 1, 2, 205], 0), (.iload_n 2, [], 0), (.laload, [], 0), (.lstore_n 3, [], 0), (.aload_n 0, [], 0), (.getfield 24, [7, 1, 2, 205], 0), (.iload_n 2, [], 0), (.lload_n 3, [], 0), (.lconst 1, [], 0), (.iload_n 1, [], 0), (.lshl, [], 0), (.lor, [], 0), (.lastore, [], 0), (.aload_n 0, [], 0), (.getfield 24, [7, 1, 2, 205], 0), (.iload_n 2, [], 0), (.laload, [], 0), (.lload_n 3, [], 0), (.lcmp, [], 0), (.ifCond .ne 5, [5, 4], 0)])
  | 4 => (5, [(.iconst 0, [], 0), (.ireturn, [1], 0)])
  | 5 => (6, [(.aload_n 0, [], 0), (.getfield 28, [7, 2, 2, 206], 0), (.iload_n 2, [], 0), (.bipush 6, [], 0), (.ishr, [], 0), (.dup2, [], 0), (.laload, [], 0), (.lconst 1, [], 0), (.iload_n 2, [], 0), (.lshl, [], 0), (.lor, [], 0), (.lastore, [], 0), (.aload_n 0, [], 0), (.dup, [], 0), (.getfield 9, [7, 3, 0, 207], 0), (.iconst 1, [], 0), (.iadd, [], 0), (.putfield 9, [7, 3, 0, 207], 0), (.iconst 1, [], 0), (.ireturn, [1], 0)])
  | _ => (0, [])
def L_Sp_add : Nat → List Bool := fun b => match b with
  | 0 => [true, true, false, false, false]
  | 1 => [true, true, false, false, false]
  | 2 => [false, false, false, false, false]
  | 3 => [true, true, false, false, false]
  | 4 => [false, false, false, false, false]
  | 5 => [true, false, true, false, false]
  | _ => []
def P_Sp_add : List Nat := [0, 4, 12, 14, 48, 50]
def K_Sp_add : KE := (⟨"NameReaders$Spots", "add", "(I)Z"⟩, prog_9_method_4_code, 5, (Option.some Jvm.ClassFile.FieldType.boolean), B_Sp_add, L_Sp_add, P_Sp_add, [694, 692, 693, 85, 0, 2])
def B_Sp_clear : BT := fun b => match b with
  | 0 => (1, [(.iconst 0, [], 0), (.istore_n 1, [], 0)])
  | 1 => (2, [(.iload_n 1, [], 0), (.aload_n 0, [], 0), (.getfield 28, [7, 2, 2, 206], 0), (.arraylength, [], 0), (.if_icmp .ge 68, [7, 2], 0)])
  | 2 => (3, [(.aload_n 0, [], 0), (.getfield 9, [7, 3, 0, 207], 0), (.ifCond .le 61, [7, 3], 0)])
  | 3 => (4, [(.aload_n 0, [], 0), (.getfield 28, [7, 2, 2, 206], 0), (.iload_n 1, [], 0), (.laload, [], 0), (.lstore_n 2, [], 0), (.lload_n 2, [], 0), (.invokestatic 31, [k_J_bitL, 1, 1, 682], 0), (.istore 4, [], 0)])
  | 4 => (5, [(.iload 4, [], 0), (.ifCond .le 30, [6, 5], 0)])
  | 5 => (6, [(.aload_n 0, [], 0), (.getfield 24, [7, 1, 2, 205], 0), (.iload_n 1, [], 0), (.bipush 6, [], 0), (.ishl, [], 0), (.lload_n 2, [], 0), (.invokestatic 37, [k_Sp_lowest, 1, 1, 688], 0), (.iadd, [], 0), (.lconst 0, [], 0), (.lastore, [], 0), (.lload_n 2, [], 0), (.lload_n 2, [], 0), (.lconst 1, [], 0), (.lsub, [], 0), (.land, [], 0), (.lstore_n 2, [], 0), (.iinc 4 (-1), [], 0), (.goto (-29), [4], 0)])
  | 6 => (7, [(.aload_n 0, [], 0), (.getfield 28, [7, 2, 2, 206], 0), (.iload_n 1, [], 0), (.lconst 0, [], 0), (.lastore, [], 0), (.iinc 1 1, [], 0), (.goto (-71), [1], 0)])
  | 7 => (8, [(.aload_n 0, [], 0), (.iconst 0, [], 0), (.putfield 9, [7, 3, 0, 207], 0), (.return_, [], 0)])
  | _ => (0, [])
def L_Sp_clear : Nat → List Bool := fun b => match b with
  | 0 => [true, false, false, false, false]
  | 1 => [true, true, false, false, false]
  | 2 => [true, true, false, false, false]
  | 3 => [true, true, false, false, false]
  | 4 => [true, true, true, false, true]
  | 5 => [true, true, true, false, true]
  | 6 => [true, true, false, false, false]
  | 7 => [true, false, false, false, false]
  | _ => []
def P_Sp_clear : List Nat := [0, 2, 11, 18, 31, 36, 63, 76]
def K_Sp_clear : KE := (⟨"NameReaders$Spots", "clear", "()V"⟩, prog_9_method_5_code, 5, (Option.none : Option Jvm.ClassFile.FieldType), B_Sp_clear, L_Sp_clear, P_Sp_clear, [681, 679, 680, 85, 0, 1])
def B_Sp_startAt : BT := fun b => match b with
  | 0 => (1, [(.aload_n 0, [], 0), (.invokevirtual 40, [k_Sp_clear, 1, 7, 0, 678], 0), (.aload_n 0, [], 0), (.iload_n 1, [], 0), (.invokevirtual 43, [k_Sp_add, 2, 7, 1, 691], 0), (.pop, [], 0), (.return_, [], 0)])
  | _ => (0, [])
def L_Sp_startAt : Nat → List Bool := fun b => match b with
  | 0 => [true, true]
  | _ => []
def P_Sp_startAt : List Nat := [0]
def K_Sp_startAt : KE := (⟨"NameReaders$Spots", "startAt", "(I)V"⟩, prog_9_method_6_code, 2, (Option.none : Option Jvm.ClassFile.FieldType), B_Sp_startAt, L_Sp_startAt, P_Sp_startAt, [677, 675, 676, 85, 0, 2])
def B_Sp_next : BT := fun b => match b with
  | 0 => (1, [(.iload_n 1, [], 0), (.ifCond .lt 11, [2, 1], 0)])
  | 1 => (2, [(.iload_n 1, [], 0), (.aload_n 0, [], 0), (.getfield 21, [7, 0, 0, 204], 0), (.if_icmp .lt 5, [3, 2], 0)])
  | 2 => (3, [(.iconst (-1), [], 0), (.ireturn, [0], 0)])
  | 3 => (4, [(.iload_n 1, [], 0), (.bipush 6, [], 0), (.ishr, [], 0), (.istore_n 2, [], 0), (.aload_n 0, [], 0), (.getfield 24, [7, 1, 2, 205], 0), (.iload_n 2, [], 0), (.laload, [], 0), (.ldc2_w 47, [715], -1), (.iload_n 1, [], 0), (.lshl, [], 0), (.land, [], 0), (.lstore_n 3, [], 0), (.lload_n 3, [], 0), (.lconst 0, [], 0), (.lcmp, [], 0), (.ifCond .eq 13, [5, 4], 0)])
  | 4 => (5, [(.iload_n 2, [], 0), (.bipush 6, [], 0), (.ishl, [], 0), (.lload_n 3, [], 0), (.invokestatic 37, [k_Sp_lowest, 1, 1, 688], 0), (.iadd, [], 0), (.ireturn, [0], 0)])
  | 5 => (6, [(.iinc 2 1, [], 0), (.iload_n 2, [], 0), (.bipush 6, [], 0), (.ishr, [], 0), (.istore 5, [], 0), (.iload 5, [], 0), (.aload_n 0, [], 0), (.getfield 28, [7, 2, 2, 206], 0), (.arraylength, [], 0), (.if_icmp .lt 5, [7, 6], 0)])
  | 6 => (7, [(.iconst (-1), [], 0), (.ireturn, [0], 0)])
  | 7 => (8, [(.aload_n 0, [], 0), (.getfield 28, [7, 2, 2, 206], 0), (.iload 5, [], 0), (.laload, [], 0), (.ldc2_w 47, [715], -1), (.iload_n 2, [], 0), (.lshl, [], 0), (.land, [], 0), (.lstore 6, [], 0), (.iinc 5 1, [], 0)])
  | 8 => (9, [(.lload 6, [], 0), (.lconst 0, [], 0), (.lcmp, [], 0), (.ifCond .ne 28, [11, 9], 0)])
  | 9 => (10, [(.iload 5, [], 0), (.aload_n 0, [], 0), (.getfield 28, [7, 2, 2, 206], 0), (.arraylength, [], 0), (.if_icmp .ge 18, [11, 10], 0)])
  | 10 => (11, [(.aload_n 0, [], 0), (.getfield 28, [7, 2, 2, 206], 0), (.iload 5, [], 0), (.laload, [], 0), (.lstore 6, [], 0), (.iinc 5 1, [], 0), (.goto (-29), [8], 0)])
  | 11 => (12, [(.lload 6, [], 0), (.lconst 0, [], 0), (.lcmp, [], 0), (.ifCond .ne 5, [13, 12], 0)])
  | 12 => (13, [(.iconst (-1), [], 0), (.ireturn, [0], 0)])
  | 13 => (14, [(.iload 5, [], 0), (.iconst 1, [], 0), (.isub, [], 0), (.bipush 6, [], 0), (.ishl, [], 0), (.lload 6, [], 0), (.invokestatic 37, [k_Sp_lowest, 1, 1, 688], 0), (.iadd, [], 0), (.istore_n 2, [], 0), (.iload_n 2, [], 0), (.bipush 6, [], 0), (.ishl, [], 0), (.aload_n 0, [], 0), (.getfield 24, [7, 1, 2, 205], 0), (.iload_n 2, [], 0), (.laload, [], 0), (.invokestatic 37, [k_Sp_lowest, 1, 1, 688], 0), (.iadd, [], 0), (.ireturn, [0], 0)])
  | _ => (0, [])
def L_Sp_next : Nat → List Bool := fun b => match b with
  | 0 => [true, true, false, false, false, false, false, false]
  | 1 => [true, true, false, false, false, false, false, false]
  | 2 => [false, false, false, false, false, false, false, false]
  | 3 => [true, true, false, false, false, false, false, false]
  | 4 => [false, false, true, true, false, false, false, false]
  | 5 => [true, false, true, false, false, false, false, false]
  | 6 => [false, false, false, false, false, false, false, false]
  | 7 => [true, false, true, false, false, true, false, false]
  | 8 => [true, false, false, false, false, true, true, false]
  | 9 => [true, false, false, false, false, true, true, false]
  | 10 => [true, false, false, false, false, true, false, false]
  | 11 => [true, false, false, false, false, true, true, false]
  | 12 => [false, false, false, false, false, false, false, false]
  | 13 => [true, false, false, false, false, true, true, false]
  | _ => []
def P_Sp_next : List Nat := [0, 4, 12, 14, 38, 48, 67, 69, 87, 94, 104, 119, 126, 128]
def K_Sp_next : KE := (⟨"NameReaders$Spots", "next", "(I)I"⟩, prog_9_method_7_code, 8, (Option.some Jvm.ClassFile.FieldType.int), B_Sp_next, L_Sp_next, P_Sp_next, [714, 712, 713, 85, 0, 2])
def B_Sp_follow : BT := fun b => match b with
  | 0 => (1, [(.aload_n 0, [], 0), (.invokevirtual 40, [k_Sp_clear, 1, 7, 0, 678], 0), (.aload_n 2, [], 0), (.iconst 0, [], 0), (.invokevirtual 49, [k_Sp_next, 2, 7, 1, 711], 0), (.istore 6, [], 0), (.aload_n 2, [], 0), (.getfield 9, [7, 3, 0, 207], 0), (.istore 7, [], 0)])
  | 1 => (2, [(.iload 7, [], 0), (.ifCond .le 89, [9, 2], 0)])
  | 2 => (3, [(.iload 6, [], 0), (.ifCond .lt 84, [9, 3], 0)])
  | 3 => (4, [(.aload_n 1, [], 0), (.iload 6, [], 0), (.iload_n 3, [], 0), (.invokevirtual 53, [k_Rd_end, 3, 4, 1, 716], 0), (.istore 8, [], 0), (.aload_n 1, [], 0), (.iload 6, [], 0), (.iload_n 3, [], 0), (.invokevirtual 58, [k_Rd_begin, 3, 4, 1, 720], 0), (.istore 9, [], 0)])
  | 4 => (5, [(.iload 9, [], 0), (.iload 8, [], 0), (.if_icmp .ge 43, [8, 5], 0)])
  | 5 => (6, [(.aload_n 1, [], 0), (.iload 6, [], 0), (.aload_n 1, [], 0), (.iload 9, [], 0), (.invokevirtual 61, [k_Rd_moveAt, 2, 4, 1, 724], 0), (.iload 4, [], 0), (.invokevirtual 64, [k_Rd_after, 4, 4, 1, 728], 0), (.istore 10, [], 0), (.iload 10, [], 0), (.ifCond .lt 16, [7, 6], 0)])
  | 6 => (7, [(.aload_n 0, [], 0), (.iload 10, [], 0), (.iload 5, [], 0), (.iconst 0, [], 0), (.invokestatic 68, [k_Rd_settle, 3, 1, 732], 0), (.invokevirtual 43, [k_Sp_add, 2, 7, 1, 691], 0), (.pop, [], 0)])
  | 7 => (8, [(.iinc 9 1, [], 0), (.goto (-44), [4], 0)])
  | 8 => (9, [(.aload_n 2, [], 0), (.iload 6, [], 0), (.iconst 1, [], 0), (.iadd, [], 0), (.invokevirtual 49, [k_Sp_next, 2, 7, 1, 711], 0), (.istore 6, [], 0), (.iinc 7 (-1), [], 0), (.goto (-88), [1], 0)])
  | 9 => (10, [(.return_, [], 0)])
  | _ => (0, [])
def L_Sp_follow : Nat → List Bool := fun b => match b with
  | 0 => [true, true, true, true, true, true, false, false, false, false, false]
  | 1 => [true, true, true, true, true, true, true, true, false, false, false]
  | 2 => [true, true, true, true, true, true, true, true, false, false, false]
  | 3 => [true, true, true, true, true, true, true, true, false, false, false]
  | 4 => [true, true, true, true, true, true, true, true, true, true, false]
  | 5 => [true, true, true, true, true, true, true, true, true, true, false]
  | 6 => [true, true, true, true, true, true, true, true, true, true, true]
  | 7 => [true, true, true, true, true, true, true, true, true, true, false]
  | 8 => [true, true, true, true, true, true, true, true, false, false, false]
  | 9 => [false, false, false, false, false, false, false, false, false, false, false]
  | _ => []
def P_Sp_follow : List Nat := [0, 17, 22, 27, 45, 52, 73, 86, 92, 108]
def K_Sp_follow : KE := (⟨"NameReaders$Spots", "follow", "(LNameReaders$Reader;LNameReaders$Spots;III)V"⟩, prog_9_method_8_code, 11, (Option.none : Option Jvm.ClassFile.FieldType), B_Sp_follow, L_Sp_follow, P_Sp_follow, [710, 708, 709, 85, 0, 6])
def B_Sp_statesByBits : BT := fun b => match b with
  | 0 => (1, [(.iconst 0, [], 0), (.istore_n 1, [], 0), (.aload_n 0, [], 0), (.iconst 0, [], 0), (.invokevirtual 49, [k_Sp_next, 2, 7, 1, 711], 0), (.istore_n 2, [], 0), (.aload_n 0, [], 0), (.getfield 9, [7, 3, 0, 207], 0), (.istore_n 3, [], 0)])
  | 1 => (2, [(.iload_n 3, [], 0), (.ifCond .le 30, [4, 2], 0)])
  | 2 => (3, [(.iload_n 2, [], 0), (.ifCond .lt 26, [4, 3], 0)])
  | 3 => (4, [(.iload_n 1, [], 0), (.iconst 1, [], 0), (.iload_n 2, [], 0), (.bipush 12, [], 0), (.ishr, [], 0), (.ishl, [], 0), (.ior, [], 0), (.istore_n 1, [], 0), (.aload_n 0, [], 0), (.iload_n 2, [], 0), (.iconst 1, [], 0), (.iadd, [], 0), (.invokevirtual 49, [k_Sp_next, 2, 7, 1, 711], 0), (.istore_n 2, [], 0), (.iinc 3 (-1), [], 0), (.goto (-28), [1], 0)])
  | 4 => (5, [(.iload_n 1, [], 0), (.ireturn, [0], 0)])
  | _ => (0, [])
def L_Sp_statesByBits : Nat → List Bool := fun b => match b with
  | 0 => [true, false, false, false]
  | 1 => [true, true, true, true]
  | 2 => [true, true, true, true]
  | 3 => [true, true, true, true]
  | 4 => [false, true, false, false]
  | _ => []
def P_Sp_statesByBits : List Nat := [0, 13, 17, 21, 44]
def K_Sp_statesByBits : KE := (⟨"NameReaders$Spots", "statesByBits", "()I"⟩, prog_9_method_9_code, 4, (Option.some Jvm.ClassFile.FieldType.int), B_Sp_statesByBits, L_Sp_statesByBits, P_Sp_statesByBits, [738, 736, 737, 85, 0, 1])
def B_Sp_lowest : BT := fun b => match b with
  | 0 => (1, [(.lload_n 0, [], 0), (.lload_n 0, [], 0), (.lneg, [], 0), (.land, [], 0), (.lconst 1, [], 0), (.lsub, [], 0), (.invokestatic 31, [k_J_bitL, 1, 1, 682], 0), (.ireturn, [0], 0)])
  | _ => (0, [])
def L_Sp_lowest : Nat → List Bool := fun b => match b with
  | 0 => [true, false]
  | _ => []
def P_Sp_lowest : List Nat := [0]
def K_Sp_lowest : KE := (⟨"NameReaders$Spots", "lowest", "(J)I"⟩, prog_9_method_10_code, 2, (Option.some Jvm.ClassFile.FieldType.int), B_Sp_lowest, L_Sp_lowest, P_Sp_lowest, [690, 689, 0, 85, 1, 1])
def B_Tx_init : BT := fun b => match b with
  | 0 => (1, [(.aload_n 0, [], 0), (.invokespecial 3, [0, 1, 8, 0, 143], 0), (.aload_n 0, [], 0), (.sipush 150, [], 0), (.newarray .int, [0], 0), (.putfield 9, [8, 0, 2, 144], 0), (.aload_n 0, [], 0), (.bipush 100, [], 0), (.newarray .int, [0], 0), (.putfield 15, [8, 1, 2, 145], 0), (.aload_n 0, [], 0), (.iconst 0, [], 0), (.putfield 18, [8, 2, 0, 146], 0), (.aload_n 0, [], 0), (.iconst 0, [], 0), (.putfield 22, [8, 3, 0, 147], 0), (.aload_n 0, [], 0), (.iconst 0, [], 0), (.putfield 25, [8, 4, 0, 148], 0), (.aload_n 0, [], 0), (.iconst 0, [], 0), (.putfield 28, [8, 5, 0, 149], 0), (.return_, [], 0)])
  | _ => (0, [])
def L_Tx_init : Nat → List Bool := fun b => match b with
  | 0 => [true]
  | _ => []
def P_Tx_init : List Nat := [0]
def K_Tx_init : KE := (⟨"NameReaders$Text", "<init>", "()V"⟩, prog_10_method_1_code, 1, (Option.none : Option Jvm.ClassFile.FieldType), B_Tx_init, L_Tx_init, P_Tx_init, [142, 141, 0, 83, 2, 1])
def B_Tx_size : BT := fun b => match b with
  | 0 => (1, [(.aload_n 0, [], 0), (.getfield 18, [8, 2, 0, 146], 0), (.ireturn, [0], 0)])
  | _ => (0, [])
def L_Tx_size : Nat → List Bool := fun b => match b with
  | 0 => [true]
  | _ => []
def P_Tx_size : List Nat := [0]
def K_Tx_size : KE := (⟨"NameReaders$Text", "size", "()I"⟩, prog_10_method_2_code, 1, (Option.some Jvm.ClassFile.FieldType.int), B_Tx_size, L_Tx_size, P_Tx_size, [467, 465, 466, 83, 0, 1])
def B_Tx_found : BT := fun b => match b with
  | 0 => (1, [(.aload_n 0, [], 0), (.getfield 22, [8, 3, 0, 147], 0), (.ireturn, [0], 0)])
  | _ => (0, [])
def L_Tx_found : Nat → List Bool := fun b => match b with
  | 0 => [true]
  | _ => []
def P_Tx_found : List Nat := [0]
def K_Tx_found : KE := (⟨"NameReaders$Text", "found", "()I"⟩, prog_10_method_3_code, 1, (Option.some Jvm.ClassFile.FieldType.int), B_Tx_found, L_Tx_found, P_Tx_found, [593, 591, 592, 83, 0, 1])
def B_Tx_told : BT := fun b => match b with
  | 0 => (1, [(.aload_n 0, [], 0), (.getfield 15, [8, 1, 2, 145], 0), (.areturn, [], 0)])
  | _ => (0, [])
def L_Tx_told : Nat → List Bool := fun b => match b with
  | 0 => [true]
  | _ => []
def P_Tx_told : List Nat := [0]
def K_Tx_told : KE := (⟨"NameReaders$Text", "told", "()[I"⟩, prog_10_method_4_code, 1, (Option.some (Jvm.ClassFile.FieldType.array Jvm.ClassFile.FieldType.int)), B_Tx_told, L_Tx_told, P_Tx_told, [597, 595, 596, 83, 0, 1])
def B_Tx_put : BT := fun b => match b with
  | 0 => (1, [(.iconst 0, [], 0), (.istore 4, [], 0)])
  | 1 => (2, [(.iload 4, [], 0), (.iload_n 3, [], 0), (.if_icmp .ge 50, [4, 2], 0)])
  | 2 => (3, [(.aload_n 0, [], 0), (.getfield 18, [8, 2, 0, 146], 0), (.sipush 150, [], 0), (.if_icmp .ge 40, [4, 3], 0)])
  | 3 => (4, [(.aload_n 0, [], 0), (.getfield 9, [8, 0, 2, 144], 0), (.aload_n 0, [], 0), (.getfield 18, [8, 2, 0, 146], 0), (.lload_n 1, [], 0), (.bipush 8, [], 0), (.iload 4, [], 0), (.imul, [], 0), (.lshr, [], 0), (.ldc2_w 31, [472], 255), (.land, [], 0), (.l2i, [], 0), (.iastore, [], 0), (.aload_n 0, [], 0), (.dup, [], 0), (.getfield 18, [8, 2, 0, 146], 0), (.iconst 1, [], 0), (.iadd, [], 0), (.putfield 18, [8, 2, 0, 146], 0), (.iinc 4 1, [], 0), (.goto (-50), [1], 0)])
  | 4 => (5, [(.aload_n 0, [], 0), (.getfield 18, [8, 2, 0, 146], 0), (.ireturn, [0], 0)])
  | _ => (0, [])
def L_Tx_put : Nat → List Bool := fun b => match b with
  | 0 => [true, true, false, true, false]
  | 1 => [true, true, false, true, true]
  | 2 => [true, true, false, true, true]
  | 3 => [true, true, false, true, true]
  | 4 => [true, false, false, false, false]
  | _ => []
def P_Tx_put : List Nat := [0, 3, 9, 19, 56]
def K_Tx_put : KE := (⟨"NameReaders$Text", "put", "(JI)I"⟩, prog_10_method_5_code, 5, (Option.some Jvm.ClassFile.FieldType.int), B_Tx_put, L_Tx_put, P_Tx_put, [471, 469, 470, 83, 0, 3])
def B_Tx_wipe : BT := fun b => match b with
  | 0 => (1, [(.aload_n 0, [], 0), (.getfield 18, [8, 2, 0, 146], 0), (.istore_n 1, [], 0), (.aload_n 0, [], 0), (.iconst 0, [], 0), (.putfield 18, [8, 2, 0, 146], 0), (.iload_n 1, [], 0), (.ireturn, [0], 0)])
  | _ => (0, [])
def L_Tx_wipe : Nat → List Bool := fun b => match b with
  | 0 => [true, false]
  | _ => []
def P_Tx_wipe : List Nat := [0]
def K_Tx_wipe : KE := (⟨"NameReaders$Text", "wipe", "()I"⟩, prog_10_method_6_code, 2, (Option.some Jvm.ClassFile.FieldType.int), B_Tx_wipe, L_Tx_wipe, P_Tx_wipe, [480, 478, 479, 83, 0, 1])
def B_Tx_parse : BT := fun b => match b with
  | 0 => (1, [(.aload_n 0, [], 0), (.iconst 0, [], 0), (.putfield 28, [8, 5, 0, 149], 0), (.aload_n 0, [], 0), (.iconst 0, [], 0), (.putfield 22, [8, 3, 0, 147], 0), (.iconst 0, [], 0), (.istore_n 2, [], 0)])
  | 1 => (2, [(.iload_n 2, [], 0), (.sipush 150, [], 0), (.if_icmp .ge 53, [9, 2], 0)])
  | 2 => (3, [(.aload_n 0, [], 0), (.aload_n 1, [], 0), (.invokevirtual 33, [k_Tx_parseMove, 2, 8, 1, 489], 0), (.ifCond .ne 8, [4, 3], 0)])
  | 3 => (4, [(.aload_n 0, [], 0), (.getfield 25, [8, 4, 0, 148], 0), (.ireturn, [0], 0)])
  | 4 => (5, [(.aload_n 0, [], 0), (.invokevirtual 37, [k_Tx_advance, 1, 8, 0, 501], 0), (.aload_n 0, [], 0), (.getfield 25, [8, 4, 0, 148], 0), (.aload_n 0, [], 0), (.getfield 18, [8, 2, 0, 146], 0), (.if_icmp .lt 5, [6, 5], 0)])
  | 5 => (6, [(.iconst (-1), [], 0), (.ireturn, [0], 0)])
  | 6 => (7, [(.aload_n 0, [], 0), (.ldc 40, [1, 0, 580], 0), (.invokevirtual 42, [k_Tx_isWord, 2, 8, 1, 513], 0), (.ifCond .ne 8, [8, 7], 0)])
  | 7 => (8, [(.aload_n 0, [], 0), (.getfield 25, [8, 4, 0, 148], 0), (.ireturn, [0], 0)])
  | 8 => (9, [(.iinc 2 1, [], 0), (.goto (-54), [1], 0)])
  | 9 => (10, [(.aload_n 0, [], 0), (.getfield 25, [8, 4, 0, 148], 0), (.ireturn, [0], 0)])
  | _ => (0, [])
def L_Tx_parse : Nat → List Bool := fun b => match b with
  | 0 => [true, true, false]
  | 1 => [true, true, true]
  | 2 => [true, true, true]
  | 3 => [true, false, false]
  | 4 => [true, true, true]
  | 5 => [false, false, false]
  | 6 => [true, true, true]
  | 7 => [true, false, false]
  | 8 => [true, true, true]
  | 9 => [true, false, false]
  | _ => []
def P_Tx_parse : List Nat := [0, 12, 19, 27, 32, 47, 49, 58, 63, 69]
def K_Tx_parse : KE := (⟨"NameReaders$Text", "parse", "(LNameReaders$Reader;)I"⟩, prog_10_method_7_code, 3, (Option.some Jvm.ClassFile.FieldType.int), B_Tx_parse, L_Tx_parse, P_Tx_parse, [488, 486, 487, 83, 0, 2])
def B_Tx_parseMove : BT := fun b => match b with
  | 0 => (1, [(.aload_n 0, [], 0), (.getfield 22, [8, 3, 0, 147], 0), (.iconst 5, [], 0), (.imul, [], 0), (.istore_n 2, [], 0), (.aload_n 0, [], 0), (.aload_n 1, [], 0), (.invokevirtual 46, [k_Rd_states, 1, 4, 1, 493], 0), (.invokevirtual 52, [k_Tx_number, 2, 8, 1, 497], 0), (.istore_n 3, [], 0), (.iload_n 3, [], 0), (.ifCond .lt 14, [2, 1], 0)])
  | 1 => (2, [(.iload_n 2, [], 0), (.iconst 5, [], 0), (.iadd, [], 0), (.aload_n 0, [], 0), (.getfield 15, [8, 1, 2, 145], 0), (.arraylength, [], 0), (.if_icmp .le 5, [3, 2], 0)])
  | 2 => (3, [(.iconst 0, [], 0), (.ireturn, [1], 0)])
  | 3 => (4, [(.aload_n 0, [], 0), (.invokevirtual 56, [k_Tx_letter, 1, 8, 1, 508], 0), (.istore 4, [], 0), (.iload 4, [], 0), (.ifCond .ge 5, [5, 4], 0)])
  | 4 => (5, [(.iconst 0, [], 0), (.ireturn, [1], 0)])
  | 5 => (6, [(.aload_n 0, [], 0), (.aload_n 1, [], 0), (.invokevirtual 59, [k_Rd_registers, 1, 4, 1, 567], 0), (.invokevirtual 62, [k_Tx_test, 2, 8, 1, 571], 0), (.istore 5, [], 0), (.iload 5, [], 0), (.ifCond .ge 5, [7, 6], 0)])
  | 6 => (7, [(.iconst 0, [], 0), (.ireturn, [1], 0)])
  | 7 => (8, [(.iconst (-1), [], 0), (.istore 6, [], 0), (.aload_n 0, [], 0), (.invokevirtual 37, [k_Tx_advance, 1, 8, 0, 501], 0), (.aload_n 0, [], 0), (.ldc 65, [1, 1, 578], 0), (.invokevirtual 42, [k_Tx_isWord, 2, 8, 1, 513], 0), (.ifCond .eq 24, [11, 8], 0)])
  | 8 => (9, [(.aload_n 0, [], 0), (.aload_n 1, [], 0), (.invokevirtual 59, [k_Rd_registers, 1, 4, 1, 567], 0), (.invokevirtual 52, [k_Tx_number, 2, 8, 1, 497], 0), (.istore 6, [], 0), (.iload 6, [], 0), (.ifCond .ge 5, [10, 9], 0)])
  | 9 => (10, [(.iconst 0, [], 0), (.ireturn, [1], 0)])
  | 10 => (11, [(.aload_n 0, [], 0), (.invokevirtual 37, [k_Tx_advance, 1, 8, 0, 501], 0)])
  | 11 => (12, [(.aload_n 0, [], 0), (.ldc 67, [1, 2, 579], 0), (.invokevirtual 42, [k_Tx_isWord, 2, 8, 1, 513], 0), (.ifCond .ne 5, [13, 12], 0)])
  | 12 => (13, [(.iconst 0, [], 0), (.ireturn, [1], 0)])
  | 13 => (14, [(.aload_n 0, [], 0), (.aload_n 1, [], 0), (.invokevirtual 46, [k_Rd_states, 1, 4, 1, 493], 0), (.invokevirtual 52, [k_Tx_number, 2, 8, 1, 497], 0), (.istore 7, [], 0), (.iload 7, [], 0), (.ifCond .ge 5, [15, 14], 0)])
  | 14 => (15, [(.iconst 0, [], 0), (.ireturn, [1], 0)])
  | 15 => (16, [(.aload_n 0, [], 0), (.getfield 15, [8, 1, 2, 145], 0), (.iload_n 2, [], 0), (.iconst 0, [], 0), (.iadd, [], 0), (.iload_n 3, [], 0), (.iastore, [], 0), (.aload_n 0, [], 0), (.getfield 15, [8, 1, 2, 145], 0), (.iload_n 2, [], 0), (.iconst 1, [], 0), (.iadd, [], 0), (.iload 4, [], 0), (.iastore, [], 0), (.aload_n 0, [], 0), (.getfield 15, [8, 1, 2, 145], 0), (.iload_n 2, [], 0), (.iconst 2, [], 0), (.iadd, [], 0), (.iload 5, [], 0), (.iastore, [], 0), (.aload_n 0, [], 0), (.getfield 15, [8, 1, 2, 145], 0), (.iload_n 2, [], 0), (.iconst 3, [], 0), (.iadd, [], 0), (.iload 6, [], 0), (.iastore, [], 0), (.aload_n 0, [], 0), (.getfield 15, [8, 1, 2, 145], 0), (.iload_n 2, [], 0), (.iconst 4, [], 0), (.iadd, [], 0), (.iload 7, [], 0), (.iastore, [], 0), (.aload_n 0, [], 0), (.dup, [], 0), (.getfield 22, [8, 3, 0, 147], 0), (.iconst 1, [], 0), (.iadd, [], 0), (.putfield 22, [8, 3, 0, 147], 0), (.iconst 1, [], 0), (.ireturn, [1], 0)])
  | _ => (0, [])
def L_Tx_parseMove : Nat → List Bool := fun b => match b with
  | 0 => [true, true, false, false, false, false, false, false]
  | 1 => [true, true, true, true, false, false, false, false]
  | 2 => [false, false, false, false, false, false, false, false]
  | 3 => [true, true, true, true, false, false, false, false]
  | 4 => [false, false, false, false, false, false, false, false]
  | 5 => [true, true, true, true, true, false, false, false]
  | 6 => [false, false, false, false, false, false, false, false]
  | 7 => [true, true, true, true, true, true, false, false]
  | 8 => [true, true, true, true, true, true, false, false]
  | 9 => [false, false, false, false, false, false, false, false]
  | 10 => [true, true, true, true, true, true, true, false]
  | 11 => [true, true, true, true, true, true, true, false]
  | 12 => [false, false, false, false, false, false, false, false]
  | 13 => [true, true, true, true, true, true, true, false]
  | 14 => [false, false, false, false, false, false, false, false]
  | 15 => [true, false, true, true, true, true, true, true]
  | _ => []
def P_Tx_parseMove : List Nat := [0, 20, 31, 33, 44, 46, 61, 63, 79, 94, 96, 100, 109, 111, 126, 128]
def K_Tx_parseMove : KE := (⟨"NameReaders$Text", "parseMove", "(LNameReaders$Reader;)Z"⟩, prog_10_method_8_code, 8, (Option.some Jvm.ClassFile.FieldType.boolean), B_Tx_parseMove, L_Tx_parseMove, P_Tx_parseMove, [492, 491, 2, 83, 0, 2])
