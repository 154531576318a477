section
-- ===== PART A: goes FIRST, ahead of the names: the tables' words, and 'selects' of the private methods out of them =====
/-- a private method of a class that the tables say can be made, by its rows of tables_1 -/
def lw_okq (q : MethodName × Nat) : Prop := (q.1.cls ≠ "java/lang/invoke/MethodHandle" ∧ q.1.cls ≠ "java/lang/invoke/VarHandle") ∧ Cond.instantiable q.1.cls q.2 ∈ tables_1 ∧ Cond.privateMethod q.1 ∈ tables_1 ∧ Cond.instanceMethod q.1 ∈ tables_1
theorem lw_p0 : lw_okq (⟨"NameReaders", "readerOf", "(I)LNameReaders$Reader;"⟩, 11) := ⟨⟨by decide +kernel, by decide +kernel⟩, List.mem_of_getElem? (i := 22) (by decide +kernel), List.mem_of_getElem? (i := 362) (by decide +kernel), List.mem_of_getElem? (i := 363) (by decide +kernel)⟩
theorem lw_p1 : lw_okq (⟨"NameReaders$Reader", "sort", "()V"⟩, 7) := ⟨⟨by decide +kernel, by decide +kernel⟩, List.mem_of_getElem? (i := 30) (by decide +kernel), List.mem_of_getElem? (i := 373) (by decide +kernel), List.mem_of_getElem? (i := 374) (by decide +kernel)⟩
theorem lw_p2 : lw_okq (⟨"NameReaders$Text", "parseMove", "(LNameReaders$Reader;)Z"⟩, 6) := ⟨⟨by decide +kernel, by decide +kernel⟩, List.mem_of_getElem? (i := 59) (by decide +kernel), List.mem_of_getElem? (i := 410) (by decide +kernel), List.mem_of_getElem? (i := 411) (by decide +kernel)⟩
theorem lw_p3 : lw_okq (⟨"NameReaders$Text", "number", "(I)I"⟩, 6) := ⟨⟨by decide +kernel, by decide +kernel⟩, List.mem_of_getElem? (i := 59) (by decide +kernel), List.mem_of_getElem? (i := 418) (by decide +kernel), List.mem_of_getElem? (i := 419) (by decide +kernel)⟩
theorem lw_p4 : lw_okq (⟨"NameReaders$Text", "advance", "()V"⟩, 6) := ⟨⟨by decide +kernel, by decide +kernel⟩, List.mem_of_getElem? (i := 59) (by decide +kernel), List.mem_of_getElem? (i := 422) (by decide +kernel), List.mem_of_getElem? (i := 423) (by decide +kernel)⟩
theorem lw_p5 : lw_okq (⟨"NameReaders$Text", "letter", "()I"⟩, 6) := ⟨⟨by decide +kernel, by decide +kernel⟩, List.mem_of_getElem? (i := 59) (by decide +kernel), List.mem_of_getElem? (i := 429) (by decide +kernel), List.mem_of_getElem? (i := 430) (by decide +kernel)⟩
theorem lw_p6 : lw_okq (⟨"NameReaders$Text", "isWord", "(Ljava/lang/String;)Z"⟩, 6) := ⟨⟨by decide +kernel, by decide +kernel⟩, List.mem_of_getElem? (i := 59) (by decide +kernel), List.mem_of_getElem? (i := 434) (by decide +kernel), List.mem_of_getElem? (i := 435) (by decide +kernel)⟩
theorem lw_p7 : lw_okq (⟨"NameReaders$Text", "test", "(I)I"⟩, 6) := ⟨⟨by decide +kernel, by decide +kernel⟩, List.mem_of_getElem? (i := 59) (by decide +kernel), List.mem_of_getElem? (i := 492) (by decide +kernel), List.mem_of_getElem? (i := 493) (by decide +kernel)⟩
theorem lw_p8 : lw_okq (⟨"NameReaders$Row", "survey", "()V"⟩, 8) := ⟨⟨by decide +kernel, by decide +kernel⟩, List.mem_of_getElem? (i := 84) (by decide +kernel), List.mem_of_getElem? (i := 558) (by decide +kernel), List.mem_of_getElem? (i := 559) (by decide +kernel)⟩
theorem lw_p9 : lw_okq (⟨"NameReaders$Row", "idAt", "(I)I"⟩, 8) := ⟨⟨by decide +kernel, by decide +kernel⟩, List.mem_of_getElem? (i := 84) (by decide +kernel), List.mem_of_getElem? (i := 562) (by decide +kernel), List.mem_of_getElem? (i := 563) (by decide +kernel)⟩
theorem lw_p10 : lw_okq (⟨"NameReaders$Walks", "giveSlots", "(LNameReaders$Row;)V"⟩, 5) := ⟨⟨by decide +kernel, by decide +kernel⟩, List.mem_of_getElem? (i := 139) (by decide +kernel), List.mem_of_getElem? (i := 676) (by decide +kernel), List.mem_of_getElem? (i := 677) (by decide +kernel)⟩
theorem lw_p11 : lw_okq (⟨"NameReaders$Walks", "spread", "(LNameReaders$Reader;LNameReaders$Row;I)V"⟩, 5) := ⟨⟨by decide +kernel, by decide +kernel⟩, List.mem_of_getElem? (i := 139) (by decide +kernel), List.mem_of_getElem? (i := 684) (by decide +kernel), List.mem_of_getElem? (i := 685) (by decide +kernel)⟩
theorem lw_p12 : lw_okq (⟨"NameReaders$Walks", "placeOf", "(I)I"⟩, 5) := ⟨⟨by decide +kernel, by decide +kernel⟩, List.mem_of_getElem? (i := 139) (by decide +kernel), List.mem_of_getElem? (i := 694) (by decide +kernel), List.mem_of_getElem? (i := 695) (by decide +kernel)⟩
theorem lw_p13 : lw_okq (⟨"NameReaders$Walks", "runFrom", "(LNameReaders$Reader;LNameReaders$Row;II)Z"⟩, 5) := ⟨⟨by decide +kernel, by decide +kernel⟩, List.mem_of_getElem? (i := 139) (by decide +kernel), List.mem_of_getElem? (i := 727) (by decide +kernel), List.mem_of_getElem? (i := 728) (by decide +kernel)⟩
theorem lw_p14 : lw_okq (⟨"NameReaders$ShapeSearch", "setOf", "(I)LNameReaders$Spots;"⟩, 8) := ⟨⟨by decide +kernel, by decide +kernel⟩, List.mem_of_getElem? (i := 232) (by decide +kernel), List.mem_of_getElem? (i := 749) (by decide +kernel), List.mem_of_getElem? (i := 750) (by decide +kernel)⟩
theorem lw_p15 : lw_okq (⟨"NameReaders$ShapeSearch", "otherSetOf", "(I)LNameReaders$Spots;"⟩, 8) := ⟨⟨by decide +kernel, by decide +kernel⟩, List.mem_of_getElem? (i := 232) (by decide +kernel), List.mem_of_getElem? (i := 754) (by decide +kernel), List.mem_of_getElem? (i := 755) (by decide +kernel)⟩
def lw_privs_1 : List (MethodName × Nat) := [(⟨"NameReaders", "readerOf", "(I)LNameReaders$Reader;"⟩, 11), (⟨"NameReaders$Reader", "sort", "()V"⟩, 7), (⟨"NameReaders$Text", "parseMove", "(LNameReaders$Reader;)Z"⟩, 6), (⟨"NameReaders$Text", "number", "(I)I"⟩, 6), (⟨"NameReaders$Text", "advance", "()V"⟩, 6), (⟨"NameReaders$Text", "letter", "()I"⟩, 6), (⟨"NameReaders$Text", "isWord", "(Ljava/lang/String;)Z"⟩, 6), (⟨"NameReaders$Text", "test", "(I)I"⟩, 6), (⟨"NameReaders$Row", "survey", "()V"⟩, 8), (⟨"NameReaders$Row", "idAt", "(I)I"⟩, 8), (⟨"NameReaders$Walks", "giveSlots", "(LNameReaders$Row;)V"⟩, 5), (⟨"NameReaders$Walks", "spread", "(LNameReaders$Reader;LNameReaders$Row;I)V"⟩, 5), (⟨"NameReaders$Walks", "placeOf", "(I)I"⟩, 5), (⟨"NameReaders$Walks", "runFrom", "(LNameReaders$Reader;LNameReaders$Row;II)Z"⟩, 5), (⟨"NameReaders$ShapeSearch", "setOf", "(I)LNameReaders$Spots;"⟩, 8), (⟨"NameReaders$ShapeSearch", "otherSetOf", "(I)LNameReaders$Spots;"⟩, 8)]
theorem lw_r1 : ∀ q ∈ lw_privs_1, lw_okq q := List.forall_mem_cons.mpr ⟨lw_p0, List.forall_mem_cons.mpr ⟨lw_p1, List.forall_mem_cons.mpr ⟨lw_p2, List.forall_mem_cons.mpr ⟨lw_p3, List.forall_mem_cons.mpr ⟨lw_p4, List.forall_mem_cons.mpr ⟨lw_p5, List.forall_mem_cons.mpr ⟨lw_p6, List.forall_mem_cons.mpr ⟨lw_p7, List.forall_mem_cons.mpr ⟨lw_p8, List.forall_mem_cons.mpr ⟨lw_p9, List.forall_mem_cons.mpr ⟨lw_p10, List.forall_mem_cons.mpr ⟨lw_p11, List.forall_mem_cons.mpr ⟨lw_p12, List.forall_mem_cons.mpr ⟨lw_p13, List.forall_mem_cons.mpr ⟨lw_p14, List.forall_mem_cons.mpr ⟨lw_p15, fun _ h => absurd h List.not_mem_nil⟩⟩⟩⟩⟩⟩⟩⟩⟩⟩⟩⟩⟩⟩⟩⟩
theorem lw_p16 : lw_okq (⟨"NameReaders$ShapeSearch", "goOn", "(II)Z"⟩, 8) := ⟨⟨by decide +kernel, by decide +kernel⟩, List.mem_of_getElem? (i := 232) (by decide +kernel), List.mem_of_getElem? (i := 758) (by decide +kernel), List.mem_of_getElem? (i := 759) (by decide +kernel)⟩
theorem lw_p17 : lw_okq (⟨"NameReaders$ShapeSearch", "end", "(II)Z"⟩, 8) := ⟨⟨by decide +kernel, by decide +kernel⟩, List.mem_of_getElem? (i := 232) (by decide +kernel), List.mem_of_getElem? (i := 762) (by decide +kernel), List.mem_of_getElem? (i := 763) (by decide +kernel)⟩
theorem lw_p18 : lw_okq (⟨"NameReaders$ShapeSearch", "endings", "(LNameReaders$Reader;LNameReaders$Spots;I)I"⟩, 8) := ⟨⟨by decide +kernel, by decide +kernel⟩, List.mem_of_getElem? (i := 232) (by decide +kernel), List.mem_of_getElem? (i := 766) (by decide +kernel), List.mem_of_getElem? (i := 767) (by decide +kernel)⟩
theorem lw_p19 : lw_okq (⟨"NameReaders$Outlook", "study", "(LNameReaders$Reader;)V"⟩, 6) := ⟨⟨by decide +kernel, by decide +kernel⟩, List.mem_of_getElem? (i := 263) (by decide +kernel), List.mem_of_getElem? (i := 813) (by decide +kernel), List.mem_of_getElem? (i := 814) (by decide +kernel)⟩
theorem lw_p20 : lw_okq (⟨"NameReaders$Outlook", "see", "(LNameReaders$Reader;I)V"⟩, 6) := ⟨⟨by decide +kernel, by decide +kernel⟩, List.mem_of_getElem? (i := 263) (by decide +kernel), List.mem_of_getElem? (i := 817) (by decide +kernel), List.mem_of_getElem? (i := 818) (by decide +kernel)⟩
theorem lw_p21 : lw_okq (⟨"NameReaders$Outlook", "seeBehind", "(LNameReaders$Reader;I)V"⟩, 6) := ⟨⟨by decide +kernel, by decide +kernel⟩, List.mem_of_getElem? (i := 263) (by decide +kernel), List.mem_of_getElem? (i := 825) (by decide +kernel), List.mem_of_getElem? (i := 826) (by decide +kernel)⟩
theorem lw_p22 : lw_okq (⟨"NameReaders$Outlook", "tellAhead", "(LNameReaders$Reader;I)Z"⟩, 6) := ⟨⟨by decide +kernel, by decide +kernel⟩, List.mem_of_getElem? (i := 263) (by decide +kernel), List.mem_of_getElem? (i := 840) (by decide +kernel), List.mem_of_getElem? (i := 841) (by decide +kernel)⟩
theorem lw_p23 : lw_okq (⟨"NameReaders$Outlook", "leadsTo", "(LNameReaders$Reader;II)Z"⟩, 6) := ⟨⟨by decide +kernel, by decide +kernel⟩, List.mem_of_getElem? (i := 263) (by decide +kernel), List.mem_of_getElem? (i := 844) (by decide +kernel), List.mem_of_getElem? (i := 845) (by decide +kernel)⟩
theorem lw_p24 : lw_okq (⟨"NameReaders$Outlook", "choosePair", "(LNameReaders$Reader;III)I"⟩, 6) := ⟨⟨by decide +kernel, by decide +kernel⟩, List.mem_of_getElem? (i := 263) (by decide +kernel), List.mem_of_getElem? (i := 857) (by decide +kernel), List.mem_of_getElem? (i := 858) (by decide +kernel)⟩
theorem lw_p25 : lw_okq (⟨"NameReaders$Outlook", "followTo", "(LNameReaders$Reader;III)V"⟩, 6) := ⟨⟨by decide +kernel, by decide +kernel⟩, List.mem_of_getElem? (i := 263) (by decide +kernel), List.mem_of_getElem? (i := 861) (by decide +kernel), List.mem_of_getElem? (i := 862) (by decide +kernel)⟩
theorem lw_p26 : lw_okq (⟨"NameReaders$Meeting", "comeTo", "(I)V"⟩, 9) := ⟨⟨by decide +kernel, by decide +kernel⟩, List.mem_of_getElem? (i := 288) (by decide +kernel), List.mem_of_getElem? (i := 902) (by decide +kernel), List.mem_of_getElem? (i := 903) (by decide +kernel)⟩
theorem lw_p27 : lw_okq (⟨"NameReaders$Meeting", "rowsBehind", "(II)I"⟩, 9) := ⟨⟨by decide +kernel, by decide +kernel⟩, List.mem_of_getElem? (i := 288) (by decide +kernel), List.mem_of_getElem? (i := 906) (by decide +kernel), List.mem_of_getElem? (i := 907) (by decide +kernel)⟩
theorem lw_p28 : lw_okq (⟨"NameReaders$Meeting", "spread", "()Z"⟩, 9) := ⟨⟨by decide +kernel, by decide +kernel⟩, List.mem_of_getElem? (i := 288) (by decide +kernel), List.mem_of_getElem? (i := 911) (by decide +kernel), List.mem_of_getElem? (i := 912) (by decide +kernel)⟩
theorem lw_p29 : lw_okq (⟨"NameReaders$Meeting", "spreadOther", "(III)Z"⟩, 9) := ⟨⟨by decide +kernel, by decide +kernel⟩, List.mem_of_getElem? (i := 288) (by decide +kernel), List.mem_of_getElem? (i := 919) (by decide +kernel), List.mem_of_getElem? (i := 920) (by decide +kernel)⟩
theorem lw_p30 : lw_okq (⟨"NameReaders$Meeting", "placeOf", "(II)I"⟩, 9) := ⟨⟨by decide +kernel, by decide +kernel⟩, List.mem_of_getElem? (i := 288) (by decide +kernel), List.mem_of_getElem? (i := 923) (by decide +kernel), List.mem_of_getElem? (i := 924) (by decide +kernel)⟩
theorem lw_p31 : lw_okq (⟨"NameReaders$Fillings", "tellNames", "()V"⟩, 13) := ⟨⟨by decide +kernel, by decide +kernel⟩, List.mem_of_getElem? (i := 161) (by decide +kernel), List.mem_of_getElem? (i := 951) (by decide +kernel), List.mem_of_getElem? (i := 952) (by decide +kernel)⟩
def lw_privs_2 : List (MethodName × Nat) := [(⟨"NameReaders$ShapeSearch", "goOn", "(II)Z"⟩, 8), (⟨"NameReaders$ShapeSearch", "end", "(II)Z"⟩, 8), (⟨"NameReaders$ShapeSearch", "endings", "(LNameReaders$Reader;LNameReaders$Spots;I)I"⟩, 8), (⟨"NameReaders$Outlook", "study", "(LNameReaders$Reader;)V"⟩, 6), (⟨"NameReaders$Outlook", "see", "(LNameReaders$Reader;I)V"⟩, 6), (⟨"NameReaders$Outlook", "seeBehind", "(LNameReaders$Reader;I)V"⟩, 6), (⟨"NameReaders$Outlook", "tellAhead", "(LNameReaders$Reader;I)Z"⟩, 6), (⟨"NameReaders$Outlook", "leadsTo", "(LNameReaders$Reader;II)Z"⟩, 6), (⟨"NameReaders$Outlook", "choosePair", "(LNameReaders$Reader;III)I"⟩, 6), (⟨"NameReaders$Outlook", "followTo", "(LNameReaders$Reader;III)V"⟩, 6), (⟨"NameReaders$Meeting", "comeTo", "(I)V"⟩, 9), (⟨"NameReaders$Meeting", "rowsBehind", "(II)I"⟩, 9), (⟨"NameReaders$Meeting", "spread", "()Z"⟩, 9), (⟨"NameReaders$Meeting", "spreadOther", "(III)Z"⟩, 9), (⟨"NameReaders$Meeting", "placeOf", "(II)I"⟩, 9), (⟨"NameReaders$Fillings", "tellNames", "()V"⟩, 13)]
theorem lw_r2 : ∀ q ∈ lw_privs_2, lw_okq q := List.forall_mem_cons.mpr ⟨lw_p16, List.forall_mem_cons.mpr ⟨lw_p17, List.forall_mem_cons.mpr ⟨lw_p18, List.forall_mem_cons.mpr ⟨lw_p19, List.forall_mem_cons.mpr ⟨lw_p20, List.forall_mem_cons.mpr ⟨lw_p21, List.forall_mem_cons.mpr ⟨lw_p22, List.forall_mem_cons.mpr ⟨lw_p23, List.forall_mem_cons.mpr ⟨lw_p24, List.forall_mem_cons.mpr ⟨lw_p25, List.forall_mem_cons.mpr ⟨lw_p26, List.forall_mem_cons.mpr ⟨lw_p27, List.forall_mem_cons.mpr ⟨lw_p28, List.forall_mem_cons.mpr ⟨lw_p29, List.forall_mem_cons.mpr ⟨lw_p30, List.forall_mem_cons.mpr ⟨lw_p31, fun _ h => absurd h List.not_mem_nil⟩⟩⟩⟩⟩⟩⟩⟩⟩⟩⟩⟩⟩⟩⟩⟩
theorem lw_p32 : lw_okq (⟨"NameReaders$Fillings", "fillFrom", "(II)Z"⟩, 13) := ⟨⟨by decide +kernel, by decide +kernel⟩, List.mem_of_getElem? (i := 161) (by decide +kernel), List.mem_of_getElem? (i := 970) (by decide +kernel), List.mem_of_getElem? (i := 971) (by decide +kernel)⟩
theorem lw_p33 : lw_okq (⟨"NameReaders$Fillings", "mayHave", "(III)Z"⟩, 13) := ⟨⟨by decide +kernel, by decide +kernel⟩, List.mem_of_getElem? (i := 161) (by decide +kernel), List.mem_of_getElem? (i := 978) (by decide +kernel), List.mem_of_getElem? (i := 979) (by decide +kernel)⟩
theorem lw_p34 : lw_okq (⟨"NameReaders$Fillings", "fillOne", "(III)Z"⟩, 13) := ⟨⟨by decide +kernel, by decide +kernel⟩, List.mem_of_getElem? (i := 161) (by decide +kernel), List.mem_of_getElem? (i := 982) (by decide +kernel), List.mem_of_getElem? (i := 983) (by decide +kernel)⟩
theorem lw_p35 : lw_okq (⟨"NameReaders$Fillings", "restIsTaken", "(I)Z"⟩, 13) := ⟨⟨by decide +kernel, by decide +kernel⟩, List.mem_of_getElem? (i := 161) (by decide +kernel), List.mem_of_getElem? (i := 986) (by decide +kernel), List.mem_of_getElem? (i := 987) (by decide +kernel)⟩
theorem lw_p36 : lw_okq (⟨"NameReaders$Mender", "survey", "(LNameReaders$Reader;LNameReaders$Row;)V"⟩, 6) := ⟨⟨by decide +kernel, by decide +kernel⟩, List.mem_of_getElem? (i := 207) (by decide +kernel), List.mem_of_getElem? (i := 1014) (by decide +kernel), List.mem_of_getElem? (i := 1015) (by decide +kernel)⟩
theorem lw_p37 : lw_okq (⟨"NameReaders$Mender", "spread", "(LNameReaders$Reader;LNameReaders$Row;II)V"⟩, 6) := ⟨⟨by decide +kernel, by decide +kernel⟩, List.mem_of_getElem? (i := 207) (by decide +kernel), List.mem_of_getElem? (i := 1034) (by decide +kernel), List.mem_of_getElem? (i := 1035) (by decide +kernel)⟩
theorem lw_p38 : lw_okq (⟨"NameReaders$Mender", "come", "(III)V"⟩, 6) := ⟨⟨by decide +kernel, by decide +kernel⟩, List.mem_of_getElem? (i := 207) (by decide +kernel), List.mem_of_getElem? (i := 1045) (by decide +kernel), List.mem_of_getElem? (i := 1046) (by decide +kernel)⟩
theorem lw_p39 : lw_okq (⟨"NameReaders$Mender", "spreadChanged", "(LNameReaders$Reader;IIII)V"⟩, 6) := ⟨⟨by decide +kernel, by decide +kernel⟩, List.mem_of_getElem? (i := 207) (by decide +kernel), List.mem_of_getElem? (i := 1051) (by decide +kernel), List.mem_of_getElem? (i := 1052) (by decide +kernel)⟩
theorem lw_p40 : lw_okq (⟨"NameReaders$Mender", "turn", "()V"⟩, 6) := ⟨⟨by decide +kernel, by decide +kernel⟩, List.mem_of_getElem? (i := 207) (by decide +kernel), List.mem_of_getElem? (i := 1057) (by decide +kernel), List.mem_of_getElem? (i := 1058) (by decide +kernel)⟩
theorem lw_p41 : lw_okq (⟨"NameReadersModel", "token", "()V"⟩, 56) := ⟨⟨by decide +kernel, by decide +kernel⟩, List.mem_of_getElem? (i := 1067) (by decide +kernel), List.mem_of_getElem? (i := 1273) (by decide +kernel), List.mem_of_getElem? (i := 1274) (by decide +kernel)⟩
theorem lw_p42 : lw_okq (⟨"NameReadersModel", "readsMove", "(I)Z"⟩, 56) := ⟨⟨by decide +kernel, by decide +kernel⟩, List.mem_of_getElem? (i := 1067) (by decide +kernel), List.mem_of_getElem? (i := 1280) (by decide +kernel), List.mem_of_getElem? (i := 1281) (by decide +kernel)⟩
theorem lw_p43 : lw_okq (⟨"NameReadersModel", "figure", "(I)I"⟩, 56) := ⟨⟨by decide +kernel, by decide +kernel⟩, List.mem_of_getElem? (i := 1067) (by decide +kernel), List.mem_of_getElem? (i := 1284) (by decide +kernel), List.mem_of_getElem? (i := 1285) (by decide +kernel)⟩
theorem lw_p44 : lw_okq (⟨"NameReadersModel", "isWord", "(II)Z"⟩, 56) := ⟨⟨by decide +kernel, by decide +kernel⟩, List.mem_of_getElem? (i := 1067) (by decide +kernel), List.mem_of_getElem? (i := 1288) (by decide +kernel), List.mem_of_getElem? (i := 1289) (by decide +kernel)⟩
theorem lw_p45 : lw_okq (⟨"NameReadersModel", "skips", "(II)Z"⟩, 56) := ⟨⟨by decide +kernel, by decide +kernel⟩, List.mem_of_getElem? (i := 1067) (by decide +kernel), List.mem_of_getElem? (i := 1293) (by decide +kernel), List.mem_of_getElem? (i := 1294) (by decide +kernel)⟩
theorem lw_p46 : lw_okq (⟨"NameReadersModel", "isMove", "(II)Z"⟩, 56) := ⟨⟨by decide +kernel, by decide +kernel⟩, List.mem_of_getElem? (i := 1067) (by decide +kernel), List.mem_of_getElem? (i := 1306) (by decide +kernel), List.mem_of_getElem? (i := 1307) (by decide +kernel)⟩
theorem lw_p47 : lw_okq (⟨"NameReadersModel", "gapPairs", "()I"⟩, 56) := ⟨⟨by decide +kernel, by decide +kernel⟩, List.mem_of_getElem? (i := 1067) (by decide +kernel), List.mem_of_getElem? (i := 1336) (by decide +kernel), List.mem_of_getElem? (i := 1337) (by decide +kernel)⟩
def lw_privs_3 : List (MethodName × Nat) := [(⟨"NameReaders$Fillings", "fillFrom", "(II)Z"⟩, 13), (⟨"NameReaders$Fillings", "mayHave", "(III)Z"⟩, 13), (⟨"NameReaders$Fillings", "fillOne", "(III)Z"⟩, 13), (⟨"NameReaders$Fillings", "restIsTaken", "(I)Z"⟩, 13), (⟨"NameReaders$Mender", "survey", "(LNameReaders$Reader;LNameReaders$Row;)V"⟩, 6), (⟨"NameReaders$Mender", "spread", "(LNameReaders$Reader;LNameReaders$Row;II)V"⟩, 6), (⟨"NameReaders$Mender", "come", "(III)V"⟩, 6), (⟨"NameReaders$Mender", "spreadChanged", "(LNameReaders$Reader;IIII)V"⟩, 6), (⟨"NameReaders$Mender", "turn", "()V"⟩, 6), (⟨"NameReadersModel", "token", "()V"⟩, 56), (⟨"NameReadersModel", "readsMove", "(I)Z"⟩, 56), (⟨"NameReadersModel", "figure", "(I)I"⟩, 56), (⟨"NameReadersModel", "isWord", "(II)Z"⟩, 56), (⟨"NameReadersModel", "skips", "(II)Z"⟩, 56), (⟨"NameReadersModel", "isMove", "(II)Z"⟩, 56), (⟨"NameReadersModel", "gapPairs", "()I"⟩, 56)]
theorem lw_r3 : ∀ q ∈ lw_privs_3, lw_okq q := List.forall_mem_cons.mpr ⟨lw_p32, List.forall_mem_cons.mpr ⟨lw_p33, List.forall_mem_cons.mpr ⟨lw_p34, List.forall_mem_cons.mpr ⟨lw_p35, List.forall_mem_cons.mpr ⟨lw_p36, List.forall_mem_cons.mpr ⟨lw_p37, List.forall_mem_cons.mpr ⟨lw_p38, List.forall_mem_cons.mpr ⟨lw_p39, List.forall_mem_cons.mpr ⟨lw_p40, List.forall_mem_cons.mpr ⟨lw_p41, List.forall_mem_cons.mpr ⟨lw_p42, List.forall_mem_cons.mpr ⟨lw_p43, List.forall_mem_cons.mpr ⟨lw_p44, List.forall_mem_cons.mpr ⟨lw_p45, List.forall_mem_cons.mpr ⟨lw_p46, List.forall_mem_cons.mpr ⟨lw_p47, fun _ h => absurd h List.not_mem_nil⟩⟩⟩⟩⟩⟩⟩⟩⟩⟩⟩⟩⟩⟩⟩⟩
theorem lw_p48 : lw_okq (⟨"NameReadersModel", "isGap", "(I)Z"⟩, 56) := ⟨⟨by decide +kernel, by decide +kernel⟩, List.mem_of_getElem? (i := 1067) (by decide +kernel), List.mem_of_getElem? (i := 1340) (by decide +kernel), List.mem_of_getElem? (i := 1341) (by decide +kernel)⟩
theorem lw_p49 : lw_okq (⟨"NameReadersModel", "goAll", "(I)V"⟩, 56) := ⟨⟨by decide +kernel, by decide +kernel⟩, List.mem_of_getElem? (i := 1067) (by decide +kernel), List.mem_of_getElem? (i := 1344) (by decide +kernel), List.mem_of_getElem? (i := 1345) (by decide +kernel)⟩
theorem lw_p50 : lw_okq (⟨"NameReadersModel", "layNames", "()V"⟩, 56) := ⟨⟨by decide +kernel, by decide +kernel⟩, List.mem_of_getElem? (i := 1067) (by decide +kernel), List.mem_of_getElem? (i := 1348) (by decide +kernel), List.mem_of_getElem? (i := 1349) (by decide +kernel)⟩
theorem lw_p51 : lw_okq (⟨"NameReadersModel", "idOf", "(I)I"⟩, 56) := ⟨⟨by decide +kernel, by decide +kernel⟩, List.mem_of_getElem? (i := 1067) (by decide +kernel), List.mem_of_getElem? (i := 1352) (by decide +kernel), List.mem_of_getElem? (i := 1353) (by decide +kernel)⟩
theorem lw_p52 : lw_okq (⟨"NameReadersModel", "beginList", "()V"⟩, 56) := ⟨⟨by decide +kernel, by decide +kernel⟩, List.mem_of_getElem? (i := 1067) (by decide +kernel), List.mem_of_getElem? (i := 1356) (by decide +kernel), List.mem_of_getElem? (i := 1357) (by decide +kernel)⟩
theorem lw_p53 : lw_okq (⟨"NameReadersModel", "goOn", "(IIII)V"⟩, 56) := ⟨⟨by decide +kernel, by decide +kernel⟩, List.mem_of_getElem? (i := 1067) (by decide +kernel), List.mem_of_getElem? (i := 1360) (by decide +kernel), List.mem_of_getElem? (i := 1361) (by decide +kernel)⟩
theorem lw_p54 : lw_okq (⟨"NameReadersModel", "can", "(IIII)Z"⟩, 56) := ⟨⟨by decide +kernel, by decide +kernel⟩, List.mem_of_getElem? (i := 1067) (by decide +kernel), List.mem_of_getElem? (i := 1364) (by decide +kernel), List.mem_of_getElem? (i := 1365) (by decide +kernel)⟩
theorem lw_p55 : lw_okq (⟨"NameReadersModel", "behind", "(III)I"⟩, 56) := ⟨⟨by decide +kernel, by decide +kernel⟩, List.mem_of_getElem? (i := 1067) (by decide +kernel), List.mem_of_getElem? (i := 1371) (by decide +kernel), List.mem_of_getElem? (i := 1372) (by decide +kernel)⟩
theorem lw_p56 : lw_okq (⟨"NameReadersModel", "takesList", "(II)Z"⟩, 56) := ⟨⟨by decide +kernel, by decide +kernel⟩, List.mem_of_getElem? (i := 1067) (by decide +kernel), List.mem_of_getElem? (i := 1375) (by decide +kernel), List.mem_of_getElem? (i := 1376) (by decide +kernel)⟩
theorem lw_p57 : lw_okq (⟨"NameReadersModel", "isTaken", "(II)Z"⟩, 56) := ⟨⟨by decide +kernel, by decide +kernel⟩, List.mem_of_getElem? (i := 1067) (by decide +kernel), List.mem_of_getElem? (i := 1379) (by decide +kernel), List.mem_of_getElem? (i := 1380) (by decide +kernel)⟩
theorem lw_p58 : lw_okq (⟨"NameReadersModel", "layGood", "(I)V"⟩, 56) := ⟨⟨by decide +kernel, by decide +kernel⟩, List.mem_of_getElem? (i := 1067) (by decide +kernel), List.mem_of_getElem? (i := 1396) (by decide +kernel), List.mem_of_getElem? (i := 1397) (by decide +kernel)⟩
theorem lw_p59 : lw_okq (⟨"NameReadersModel", "goShapes", "(IIII)I"⟩, 56) := ⟨⟨by decide +kernel, by decide +kernel⟩, List.mem_of_getElem? (i := 1067) (by decide +kernel), List.mem_of_getElem? (i := 1404) (by decide +kernel), List.mem_of_getElem? (i := 1405) (by decide +kernel)⟩
theorem lw_p60 : lw_okq (⟨"NameReadersModel", "beginPair", "(I)V"⟩, 56) := ⟨⟨by decide +kernel, by decide +kernel⟩, List.mem_of_getElem? (i := 1067) (by decide +kernel), List.mem_of_getElem? (i := 1408) (by decide +kernel), List.mem_of_getElem? (i := 1409) (by decide +kernel)⟩
theorem lw_p61 : lw_okq (⟨"NameReadersModel", "nextPair", "(II)Z"⟩, 56) := ⟨⟨by decide +kernel, by decide +kernel⟩, List.mem_of_getElem? (i := 1067) (by decide +kernel), List.mem_of_getElem? (i := 1412) (by decide +kernel), List.mem_of_getElem? (i := 1413) (by decide +kernel)⟩
theorem lw_p62 : lw_okq (⟨"NameReadersModel", "layKinds", "(I)V"⟩, 56) := ⟨⟨by decide +kernel, by decide +kernel⟩, List.mem_of_getElem? (i := 1067) (by decide +kernel), List.mem_of_getElem? (i := 1425) (by decide +kernel), List.mem_of_getElem? (i := 1426) (by decide +kernel)⟩
theorem lw_p63 : lw_okq (⟨"NameReadersModel", "canBy", "(III)Z"⟩, 56) := ⟨⟨by decide +kernel, by decide +kernel⟩, List.mem_of_getElem? (i := 1067) (by decide +kernel), List.mem_of_getElem? (i := 1439) (by decide +kernel), List.mem_of_getElem? (i := 1440) (by decide +kernel)⟩
def lw_privs_4 : List (MethodName × Nat) := [(⟨"NameReadersModel", "isGap", "(I)Z"⟩, 56), (⟨"NameReadersModel", "goAll", "(I)V"⟩, 56), (⟨"NameReadersModel", "layNames", "()V"⟩, 56), (⟨"NameReadersModel", "idOf", "(I)I"⟩, 56), (⟨"NameReadersModel", "beginList", "()V"⟩, 56), (⟨"NameReadersModel", "goOn", "(IIII)V"⟩, 56), (⟨"NameReadersModel", "can", "(IIII)Z"⟩, 56), (⟨"NameReadersModel", "behind", "(III)I"⟩, 56), (⟨"NameReadersModel", "takesList", "(II)Z"⟩, 56), (⟨"NameReadersModel", "isTaken", "(II)Z"⟩, 56), (⟨"NameReadersModel", "layGood", "(I)V"⟩, 56), (⟨"NameReadersModel", "goShapes", "(IIII)I"⟩, 56), (⟨"NameReadersModel", "beginPair", "(I)V"⟩, 56), (⟨"NameReadersModel", "nextPair", "(II)Z"⟩, 56), (⟨"NameReadersModel", "layKinds", "(I)V"⟩, 56), (⟨"NameReadersModel", "canBy", "(III)Z"⟩, 56)]
theorem lw_r4 : ∀ q ∈ lw_privs_4, lw_okq q := List.forall_mem_cons.mpr ⟨lw_p48, List.forall_mem_cons.mpr ⟨lw_p49, List.forall_mem_cons.mpr ⟨lw_p50, List.forall_mem_cons.mpr ⟨lw_p51, List.forall_mem_cons.mpr ⟨lw_p52, List.forall_mem_cons.mpr ⟨lw_p53, List.forall_mem_cons.mpr ⟨lw_p54, List.forall_mem_cons.mpr ⟨lw_p55, List.forall_mem_cons.mpr ⟨lw_p56, List.forall_mem_cons.mpr ⟨lw_p57, List.forall_mem_cons.mpr ⟨lw_p58, List.forall_mem_cons.mpr ⟨lw_p59, List.forall_mem_cons.mpr ⟨lw_p60, List.forall_mem_cons.mpr ⟨lw_p61, List.forall_mem_cons.mpr ⟨lw_p62, List.forall_mem_cons.mpr ⟨lw_p63, fun _ h => absurd h List.not_mem_nil⟩⟩⟩⟩⟩⟩⟩⟩⟩⟩⟩⟩⟩⟩⟩⟩
theorem lw_p64 : lw_okq (⟨"NameReadersModel", "kindBehind", "(III)I"⟩, 56) := ⟨⟨by decide +kernel, by decide +kernel⟩, List.mem_of_getElem? (i := 1067) (by decide +kernel), List.mem_of_getElem? (i := 1443) (by decide +kernel), List.mem_of_getElem? (i := 1444) (by decide +kernel)⟩
theorem lw_p65 : lw_okq (⟨"NameReadersModel", "goWide", "(IIII)V"⟩, 56) := ⟨⟨by decide +kernel, by decide +kernel⟩, List.mem_of_getElem? (i := 1067) (by decide +kernel), List.mem_of_getElem? (i := 1454) (by decide +kernel), List.mem_of_getElem? (i := 1455) (by decide +kernel)⟩
theorem lw_p66 : lw_okq (⟨"NameReadersModel", "addWide", "(I)V"⟩, 56) := ⟨⟨by decide +kernel, by decide +kernel⟩, List.mem_of_getElem? (i := 1067) (by decide +kernel), List.mem_of_getElem? (i := 1461) (by decide +kernel), List.mem_of_getElem? (i := 1462) (by decide +kernel)⟩
theorem lw_p67 : lw_okq (⟨"NameReadersModel", "meet", "(II)V"⟩, 56) := ⟨⟨by decide +kernel, by decide +kernel⟩, List.mem_of_getElem? (i := 1067) (by decide +kernel), List.mem_of_getElem? (i := 1477) (by decide +kernel), List.mem_of_getElem? (i := 1478) (by decide +kernel)⟩
theorem lw_p68 : lw_okq (⟨"NameReadersModel", "canHere", "(IIIII)Z"⟩, 56) := ⟨⟨by decide +kernel, by decide +kernel⟩, List.mem_of_getElem? (i := 1067) (by decide +kernel), List.mem_of_getElem? (i := 1486) (by decide +kernel), List.mem_of_getElem? (i := 1487) (by decide +kernel)⟩
theorem lw_p69 : lw_okq (⟨"NameReadersModel", "goBoth", "(IIII)V"⟩, 56) := ⟨⟨by decide +kernel, by decide +kernel⟩, List.mem_of_getElem? (i := 1067) (by decide +kernel), List.mem_of_getElem? (i := 1490) (by decide +kernel), List.mem_of_getElem? (i := 1491) (by decide +kernel)⟩
theorem lw_p70 : lw_okq (⟨"NameReadersModel", "together", "(II)I"⟩, 56) := ⟨⟨by decide +kernel, by decide +kernel⟩, List.mem_of_getElem? (i := 1067) (by decide +kernel), List.mem_of_getElem? (i := 1494) (by decide +kernel), List.mem_of_getElem? (i := 1495) (by decide +kernel)⟩
theorem lw_p71 : lw_okq (⟨"NameReadersModel", "parts", "(I)Z"⟩, 56) := ⟨⟨by decide +kernel, by decide +kernel⟩, List.mem_of_getElem? (i := 1067) (by decide +kernel), List.mem_of_getElem? (i := 1503) (by decide +kernel), List.mem_of_getElem? (i := 1504) (by decide +kernel)⟩
theorem lw_p72 : lw_okq (⟨"NameReadersModel", "takesOther", "(I)Z"⟩, 56) := ⟨⟨by decide +kernel, by decide +kernel⟩, List.mem_of_getElem? (i := 1067) (by decide +kernel), List.mem_of_getElem? (i := 1507) (by decide +kernel), List.mem_of_getElem? (i := 1508) (by decide +kernel)⟩
theorem lw_p73 : lw_okq (⟨"NameReadersModel", "goOther", "(III)V"⟩, 56) := ⟨⟨by decide +kernel, by decide +kernel⟩, List.mem_of_getElem? (i := 1067) (by decide +kernel), List.mem_of_getElem? (i := 1511) (by decide +kernel), List.mem_of_getElem? (i := 1512) (by decide +kernel)⟩
theorem lw_p74 : lw_okq (⟨"NameReadersModel", "goFill", "(IZ)I"⟩, 56) := ⟨⟨by decide +kernel, by decide +kernel⟩, List.mem_of_getElem? (i := 1067) (by decide +kernel), List.mem_of_getElem? (i := 1519) (by decide +kernel), List.mem_of_getElem? (i := 1520) (by decide +kernel)⟩
theorem lw_p75 : lw_okq (⟨"NameReadersModel", "freeBehind", "(I)I"⟩, 56) := ⟨⟨by decide +kernel, by decide +kernel⟩, List.mem_of_getElem? (i := 1067) (by decide +kernel), List.mem_of_getElem? (i := 1523) (by decide +kernel), List.mem_of_getElem? (i := 1524) (by decide +kernel)⟩
theorem lw_p76 : lw_okq (⟨"NameReadersModel", "nextFill", "(I)Z"⟩, 56) := ⟨⟨by decide +kernel, by decide +kernel⟩, List.mem_of_getElem? (i := 1067) (by decide +kernel), List.mem_of_getElem? (i := 1527) (by decide +kernel), List.mem_of_getElem? (i := 1528) (by decide +kernel)⟩
theorem lw_p77 : lw_okq (⟨"NameReadersModel", "nextName", "(II)I"⟩, 56) := ⟨⟨by decide +kernel, by decide +kernel⟩, List.mem_of_getElem? (i := 1067) (by decide +kernel), List.mem_of_getElem? (i := 1531) (by decide +kernel), List.mem_of_getElem? (i := 1532) (by decide +kernel)⟩
theorem lw_p78 : lw_okq (⟨"NameReadersModel", "idOfAny", "(I)I"⟩, 56) := ⟨⟨by decide +kernel, by decide +kernel⟩, List.mem_of_getElem? (i := 1067) (by decide +kernel), List.mem_of_getElem? (i := 1535) (by decide +kernel), List.mem_of_getElem? (i := 1536) (by decide +kernel)⟩
theorem lw_p79 : lw_okq (⟨"NameReadersModel", "mendFrom", "(III)V"⟩, 56) := ⟨⟨by decide +kernel, by decide +kernel⟩, List.mem_of_getElem? (i := 1067) (by decide +kernel), List.mem_of_getElem? (i := 1547) (by decide +kernel), List.mem_of_getElem? (i := 1548) (by decide +kernel)⟩
def lw_privs_5 : List (MethodName × Nat) := [(⟨"NameReadersModel", "kindBehind", "(III)I"⟩, 56), (⟨"NameReadersModel", "goWide", "(IIII)V"⟩, 56), (⟨"NameReadersModel", "addWide", "(I)V"⟩, 56), (⟨"NameReadersModel", "meet", "(II)V"⟩, 56), (⟨"NameReadersModel", "canHere", "(IIIII)Z"⟩, 56), (⟨"NameReadersModel", "goBoth", "(IIII)V"⟩, 56), (⟨"NameReadersModel", "together", "(II)I"⟩, 56), (⟨"NameReadersModel", "parts", "(I)Z"⟩, 56), (⟨"NameReadersModel", "takesOther", "(I)Z"⟩, 56), (⟨"NameReadersModel", "goOther", "(III)V"⟩, 56), (⟨"NameReadersModel", "goFill", "(IZ)I"⟩, 56), (⟨"NameReadersModel", "freeBehind", "(I)I"⟩, 56), (⟨"NameReadersModel", "nextFill", "(I)Z"⟩, 56), (⟨"NameReadersModel", "nextName", "(II)I"⟩, 56), (⟨"NameReadersModel", "idOfAny", "(I)I"⟩, 56), (⟨"NameReadersModel", "mendFrom", "(III)V"⟩, 56)]
theorem lw_r5 : ∀ q ∈ lw_privs_5, lw_okq q := List.forall_mem_cons.mpr ⟨lw_p64, List.forall_mem_cons.mpr ⟨lw_p65, List.forall_mem_cons.mpr ⟨lw_p66, List.forall_mem_cons.mpr ⟨lw_p67, List.forall_mem_cons.mpr ⟨lw_p68, List.forall_mem_cons.mpr ⟨lw_p69, List.forall_mem_cons.mpr ⟨lw_p70, List.forall_mem_cons.mpr ⟨lw_p71, List.forall_mem_cons.mpr ⟨lw_p72, List.forall_mem_cons.mpr ⟨lw_p73, List.forall_mem_cons.mpr ⟨lw_p74, List.forall_mem_cons.mpr ⟨lw_p75, List.forall_mem_cons.mpr ⟨lw_p76, List.forall_mem_cons.mpr ⟨lw_p77, List.forall_mem_cons.mpr ⟨lw_p78, List.forall_mem_cons.mpr ⟨lw_p79, fun _ h => absurd h List.not_mem_nil⟩⟩⟩⟩⟩⟩⟩⟩⟩⟩⟩⟩⟩⟩⟩⟩
def lw_privs : List (MethodName × Nat) := lw_privs_1 ++ (lw_privs_2 ++ (lw_privs_3 ++ (lw_privs_4 ++ (lw_privs_5))))
def lw_tbl : List Cond := k2_sels lw_privs ++ tables_1
theorem lw_privs_ok : ∀ q ∈ lw_privs, lw_okq q := by
  show ∀ q ∈ lw_privs_1 ++ (lw_privs_2 ++ (lw_privs_3 ++ (lw_privs_4 ++ (lw_privs_5)))), lw_okq q
  exact List.forall_mem_append.mpr ⟨lw_r1, List.forall_mem_append.mpr ⟨lw_r2, List.forall_mem_append.mpr ⟨lw_r3, List.forall_mem_append.mpr ⟨lw_r4, lw_r5⟩⟩⟩⟩
end
section
/-! THE ABSTRACT MACHINE: a method's code as blocks; values without addresses (a cell is its number); a pure heap.
    Its runs are carried to the machine's own in a later part; all reasoning of the two classes is done here. -/
abbrev AV : Type := Int32 ⊕ (Int64 ⊕ (Option Nat ⊕ Nat))
abbrev aI (x : Int32) : AV := .inl x
abbrev aL (x : Int64) : AV := .inr (.inl x)
abbrev aR (o : Option Nat) : AV := .inr (.inr (.inl o))
/-- the text constant n -/
abbrev aS (n : Nat) : AV := .inr (.inr (.inr (n + 1)))
/-- a local that is not known, or not needed any more -/
abbrev aU : AV := .inr (.inr (.inr 0))
/-- the cells' shapes (0 int[], 1 long[], 2 boolean[], 3 an array of objects, each with its length; 4 an object, with its class), and what they hold -/
abbrev AH : Type := List (Nat × Nat) × (Nat → Nat → Int32) × (Nat → Nat → Int64) × (Nat → Nat → Option Nat)
abbrev AR : Type := Option AV × AH
abbrev CI : Type := Instr × List Nat × Int
def zI (z : Int) : Int32 := Int32.ofInt z
def zL (z : Int) : Int64 := Int64.ofInt z
def hI (h : AH) (a j : Nat) : Int32 := h.2.1 a j
def hL (h : AH) (a j : Nat) : Int64 := h.2.2.1 a j
def hR (h : AH) (a j : Nat) : Option Nat := h.2.2.2 a j
def sI (h : AH) (a j : Nat) (x : Int32) : AH := (h.1, fun a' j' => if a' = a ∧ j' = j then x else h.2.1 a' j', h.2.2)
def sL (h : AH) (a j : Nat) (x : Int64) : AH := (h.1, h.2.1, fun a' j' => if a' = a ∧ j' = j then x else h.2.2.1 a' j', h.2.2.2)
def sR (h : AH) (a j : Nat) (x : Option Nat) : AH := (h.1, h.2.1, h.2.2.1, fun a' j' => if a' = a ∧ j' = j then x else h.2.2.2 a' j')
/-- a new cell: all that it holds is 0 or null -/
def nw (h : AH) (s : Nat × Nat) : AH := (h.1 ++ [s], fun a j => if a = h.1.length then 0 else h.2.1 a j, fun a j => if a = h.1.length then 0 else h.2.2.1 a j, fun a j => if a = h.1.length then none else h.2.2.2 a j)
/-- System.arraycopy between int arrays -/
def cpI (h : AH) (a b : Nat) (sp dp n : Nat) : AH := (h.1, fun a' j' => if a' = b then va_cpy (h.2.1 a) (h.2.1 b) sp dp n j' else h.2.1 a' j', h.2.2)
abbrev AK : Type := Nat → List AV → List AV → AH → Option AR
abbrev AC : Type := Nat → List AV → AH → Option AR
abbrev AT : Type := List AV → List AV → AH → Option AR
def popA : Nat → List AV → List AV → Option (List AV × List AV)
  | 0, acc, st => some (acc, st)
  | n + 1, acc, v :: st => popA n (v :: acc) st
  | _ + 1, _, [] => none
/-- what is behind a long that a store breaks -/
def clr (lv : List AV) : Nat → List AV
  | 0 => lv
  | j + 1 => match lv[j]? with
    | some (.inr (.inl _)) => lv.set j aU
    | _ => lv
def st1 (lv : List AV) (i : Nat) (v : AV) : List AV := (clr lv i).set i v
def st2 (lv : List AV) (i : Nat) (v : AV) : List AV := ((clr lv i).set i v).set (i + 1) aU
def msk : List Bool → List AV → List AV
  | true :: bs, v :: vs => v :: msk bs vs
  | false :: bs, _ :: vs => aU :: msk bs vs
  | [], _ :: vs => aU :: msk [] vs
  | _, [] => []
def ldI (lv : List AV) (n : Nat) (f : Int32 → Option AR) : Option AR := match lv[n]? with
  | some (.inl x) => f x
  | _ => none
def ldL (lv : List AV) (n : Nat) (f : Int64 → Option AR) : Option AR := match lv[n]? with
  | some (.inr (.inl x)) => f x
  | _ => none
def ldA (lv : List AV) (n : Nat) (f : AV → Option AR) : Option AR := match lv[n]? with
  | some (.inr (.inr (.inl o))) => f (aR o)
  | some (.inr (.inr (.inr (k + 1)))) => f (aS k)
  | _ => none
/-- the place i of an array of that kind -/
def idx (h : AH) (kd : Nat) (o : Option Nat) (i : Int32) (f : Nat → Nat → Option AR) : Option AR := match o with
  | none => none
  | some a => match h.1[a]? with
    | some (k, n) => if k = kd ∧ ¬ (i < 0 ∨ n ≤ i.toNatClampNeg) then f a i.toNatClampNeg else none
    | none => none
/-- an object of that class -/
def obj (h : AH) (ci : Nat) (o : Option Nat) (f : Nat → Option AR) : Option AR := match o with
  | none => none
  | some a => if h.1[a]? = some (4, ci) then f a else none
def ifz (cd : ClassFile.Cond) (x : Int32) (a b : Option AR) : Option AR := match cd with
  | .eq => if x = 0 then a else b
  | .ne => if x = 0 then b else a
  | .lt => if x < 0 then a else b
  | .ge => if x < 0 then b else a
  | .gt => if x ≤ 0 then b else a
  | .le => if x ≤ 0 then a else b
def ifc (cd : ClassFile.Cond) (x y : Int32) (a b : Option AR) : Option AR := match cd with
  | .eq => if x = y then a else b
  | .ne => if x = y then b else a
  | .lt => if x < y then a else b
  | .ge => if x < y then b else a
  | .gt => if x ≤ y then b else a
  | .le => if x ≤ y then a else b
/-- a field's kind: 0 int, 1 long, 2 a reference, 3 boolean -/
def gtf (h : AH) (a j : Nat) : Nat → Option AV
  | 0 => some (aI (hI h a j))
  | 1 => some (aL (hL h a j))
  | 2 => some (aR (hR h a j))
  | 3 => some (aI (hI h a j))
  | _ => none
def ptf (h : AH) (a j : Nat) : Nat → AV → Option AH
  | 0, .inl x => some (sI h a j x)
  | 1, .inr (.inl x) => some (sL h a j x)
  | 2, .inr (.inr (.inl o)) => some (sR h a j o)
  | 3, .inl x => if x = 0 ∨ x = 1 then some (sI h a j x) else none
  | _, _ => none
def cat1 : AV → Bool
  | .inr (.inl _) => false
  | .inr (.inr (.inr 0)) => false
  | _ => true
def p1I (st : List AV) (f : Int32 → List AV → Option AR) : Option AR := match st with
  | .inl x :: st => f x st
  | _ => none
def p1L (st : List AV) (f : Int64 → List AV → Option AR) : Option AR := match st with
  | .inr (.inl x) :: st => f x st
  | _ => none
def p1R (st : List AV) (f : Option Nat → List AV → Option AR) : Option AR := match st with
  | .inr (.inr (.inl o)) :: st => f o st
  | _ => none
def p1V (st : List AV) (f : AV → List AV → Option AR) : Option AR := match st with
  | v :: st => f v st
  | _ => none
def p2I (st : List AV) (f : Int32 → Int32 → List AV → Option AR) : Option AR := match st with
  | .inl y :: .inl x :: st => f x y st
  | _ => none
def p2L (st : List AV) (f : Int64 → Int64 → List AV → Option AR) : Option AR := match st with
  | .inr (.inl y) :: .inr (.inl x) :: st => f x y st
  | _ => none
def pLI (st : List AV) (f : Int64 → Int32 → List AV → Option AR) : Option AR := match st with
  | .inl y :: .inr (.inl x) :: st => f x y st
  | _ => none
def pRI (st : List AV) (f : Option Nat → Int32 → List AV → Option AR) : Option AR := match st with
  | .inl i :: .inr (.inr (.inl o)) :: st => f o i st
  | _ => none
def nil (st : List AV) (x : Option AR) : Option AR := match st with
  | [] => x
  | _ => none
def rs1 (rs : List Nat) (f : Nat → Option AR) : Option AR := match rs with
  | a :: _ => f a
  | _ => none
def rs2 (rs : List Nat) (f : Nat → Nat → Option AR) : Option AR := match rs with
  | a :: b :: _ => f a b
  | _ => none
def rs3 (rs : List Nat) (f : Nat → Nat → Nat → Option AR) : Option AR := match rs with
  | a :: b :: c :: _ => f a b c
  | _ => none
def rsL (rs : List Nat) (f : Nat → List Nat → Option AR) : Option AR := match rs with
  | a :: l => f a l
  | _ => none
def mb {α : Type} (o : Option α) (f : α → Option AR) : Option AR := match o with
  | some a => f a
  | none => none
/-- what a call gives back -/
def cal (o : Option AR) (st : List AV) (k : List AV → AH → Option AR) : Option AR := match o with
  | some (some v, h') => k (v :: st) h'
  | some (none, h') => k st h'
  | none => none
def pop (n : Nat) (st : List AV) (f : List AV → List AV → Option AR) : Option AR := match popA n [] st with
  | some (as, st) => f as st
  | none => none
/-- a call on an object, or on a text constant -/
def rcv (h : AH) (ci : Nat) (as : List AV) (x : Option AR) : Option AR := match as with
  | .inr (.inr (.inl o)) :: _ => obj h ci o fun _ => x
  | .inr (.inr (.inr (_ + 1))) :: _ => if ci = 100 then x else none
  | _ => none
def aln (h : AH) (a : Nat) : Option Nat := match h.1[a]? with
  | some (0, n) => some n
  | some (1, n) => some n
  | some (2, n) => some n
  | some (3, n) => some n
  | _ => none
/-- one instruction, and what comes behind it -/
def ev1 (C : AC) (K : AK) (lm : Nat → List Bool) (it : CI) (lv st : List AV) (h : AH) (k : AT) : Option AR :=
  match it.1 with
  | .iconst n => k lv (aI (zI n) :: st) h
  | .bipush n => k lv (aI (zI n) :: st) h
  | .sipush n => k lv (aI (zI n) :: st) h
  | .ldc _ => rs2 it.2.1 fun m n => if m = 0 then k lv (aI (zI it.2.2) :: st) h else k lv (aS n :: st) h
  | .ldc_w _ => k lv (aI (zI it.2.2) :: st) h
  | .ldc2_w _ => k lv (aL (zL it.2.2) :: st) h
  | .lconst n => k lv (aL (zL (n : Nat)) :: st) h
  | .aconst_null => k lv (aR none :: st) h
  | .iload n => ldI lv n fun x => k lv (aI x :: st) h
  | .iload_n n => ldI lv n fun x => k lv (aI x :: st) h
  | .lload n => ldL lv n fun x => k lv (aL x :: st) h
  | .lload_n n => ldL lv n fun x => k lv (aL x :: st) h
  | .aload n => ldA lv n fun x => k lv (x :: st) h
  | .aload_n n => ldA lv n fun x => k lv (x :: st) h
  | .istore n => p1I st fun x st => k (st1 lv n (aI x)) st h
  | .istore_n n => p1I st fun x st => k (st1 lv n (aI x)) st h
  | .lstore n => p1L st fun x st => k (st2 lv n (aL x)) st h
  | .lstore_n n => p1L st fun x st => k (st2 lv n (aL x)) st h
  | .astore n => p1R st fun o st => k (st1 lv n (aR o)) st h
  | .astore_n n => p1R st fun o st => k (st1 lv n (aR o)) st h
  | .iinc n z => ldI lv n fun x => k (st1 lv n (aI (x + zI z))) st h
  | .dup => p1V st fun v st => if cat1 v = true then k lv (v :: v :: st) h else none
  | .dup2 => pRI st fun o i st => k lv (aI i :: aR o :: aI i :: aR o :: st) h
  | .pop => p1V st fun v st => if cat1 v = true then k lv st h else none
  | .iadd => p2I st fun x y st => k lv (aI (x + y) :: st) h
  | .isub => p2I st fun x y st => k lv (aI (x - y) :: st) h
  | .imul => p2I st fun x y st => k lv (aI (x * y) :: st) h
  | .idiv => p2I st fun x y st => if y = 0 then none else k lv (aI (x / y) :: st) h
  | .irem => p2I st fun x y st => if y = 0 then none else k lv (aI (x - x / y * y) :: st) h
  | .ineg => p1I st fun x st => k lv (aI (-x) :: st) h
  | .iand => p2I st fun x y st => k lv (aI (x &&& y) :: st) h
  | .ior => p2I st fun x y st => k lv (aI (x ||| y) :: st) h
  | .ixor => p2I st fun x y st => k lv (aI (x ^^^ y) :: st) h
  | .ishl => p2I st fun x y st => k lv (aI (x <<< (y &&& 31)) :: st) h
  | .ishr => p2I st fun x y st => k lv (aI (x >>> (y &&& 31)) :: st) h
  | .iushr => p2I st fun x y st => k lv (aI ((x.toUInt32 >>> (y.toUInt32 &&& Int32.toUInt32 31)).toInt32) :: st) h
  | .ladd => p2L st fun x y st => k lv (aL (x + y) :: st) h
  | .lsub => p2L st fun x y st => k lv (aL (x - y) :: st) h
  | .lneg => p1L st fun x st => k lv (aL (-x) :: st) h
  | .land => p2L st fun x y st => k lv (aL (x &&& y) :: st) h
  | .lor => p2L st fun x y st => k lv (aL (x ||| y) :: st) h
  | .lxor => p2L st fun x y st => k lv (aL (x ^^^ y) :: st) h
  | .lshl => pLI st fun x y st => k lv (aL (x <<< (y.toInt64 &&& 63)) :: st) h
  | .lshr => pLI st fun x y st => k lv (aL (x >>> (y.toInt64 &&& 63)) :: st) h
  | .lushr => pLI st fun x y st => k lv (aL ((x.toUInt64 >>> (y.toInt64.toUInt64 &&& Int64.toUInt64 63)).toInt64) :: st) h
  | .lcmp => p2L st fun x y st => k lv (aI (lg_cmp x y) :: st) h
  | .i2l => p1I st fun x st => k lv (aL x.toInt64 :: st) h
  | .l2i => p1L st fun x st => k lv (aI x.toInt32 :: st) h
  | .getfield _ => rs3 it.2.1 fun ci j kd => p1R st fun o st => obj h ci o fun a => mb (gtf h a j kd) fun v => k lv (v :: st) h
  | .putfield _ => rs3 it.2.1 fun ci j kd => p1V st fun v st => p1R st fun o st => obj h ci o fun a => mb (ptf h a j kd v) fun h' => k lv st h'
  | .iaload => pRI st fun o i st => idx h 0 o i fun a j => k lv (aI (hI h a j) :: st) h
  | .laload => pRI st fun o i st => idx h 1 o i fun a j => k lv (aL (hL h a j) :: st) h
  | .baload => pRI st fun o i st => idx h 2 o i fun a j => k lv (aI (hI h a j) :: st) h
  | .aaload => pRI st fun o i st => idx h 3 o i fun a j => k lv (aR (hR h a j) :: st) h
  | .iastore => p1I st fun x st => pRI st fun o i st => idx h 0 o i fun a j => k lv st (sI h a j x)
  | .lastore => p1L st fun x st => pRI st fun o i st => idx h 1 o i fun a j => k lv st (sL h a j x)
  | .bastore => p1I st fun x st => pRI st fun o i st => if x = 0 ∨ x = 1 then idx h 2 o i fun a j => k lv st (sI h a j x) else none
  | .aastore => p1R st fun v st => pRI st fun o i st => obj h 7 v fun q => idx h 3 o i fun a j => k lv st (sR h a j (some q))
  | .arraylength => p1R st fun o st => mb o fun a => mb (aln h a) fun n => k lv (aI (nI n) :: st) h
  | .goto _ => rs1 it.2.1 fun t => K t (msk (lm t) lv) st h
  | .ifCond cd _ => rs2 it.2.1 fun t f => p1I st fun x st => ifz cd x (K t (msk (lm t) lv) st h) (K f (msk (lm f) lv) st h)
  | .if_icmp cd _ => rs2 it.2.1 fun t f => p2I st fun x y st => ifc cd x y (K t (msk (lm t) lv) st h) (K f (msk (lm f) lv) st h)
  | .ifnull _ => rs2 it.2.1 fun t f => p1R st fun o st => if o = none then K t (msk (lm t) lv) st h else K f (msk (lm f) lv) st h
  | .ifnonnull _ => rs2 it.2.1 fun t f => p1R st fun o st => if o = none then K f (msk (lm f) lv) st h else K t (msk (lm t) lv) st h
  | .tableswitch _ lo hi _ => rsL it.2.1 fun d ts => p1I st fun x st => if x.toInt < lo ∨ hi < x.toInt then K d (msk (lm d) lv) st h else mb (ts[(x.toInt - lo).toNat]?) fun t => K t (msk (lm t) lv) st h
  | .invokestatic _ => rs2 it.2.1 fun c n => pop n st fun as st => cal (C c as h) st (k lv)
  | .invokevirtual _ => rs3 it.2.1 fun c n ci => pop n st fun as st => rcv h ci as (cal (C c as h) st (k lv))
  | .invokespecial _ => rs3 it.2.1 fun c n ci => pop n st fun as st => rcv h ci as (if c = 0 then k lv st h else cal (C c as h) st (k lv))
  | .new _ => rs1 it.2.1 fun ci => k lv (aR (some h.1.length) :: st) (nw h (4, ci))
  | .newarray _ => rs1 it.2.1 fun kd => p1I st fun x st => if x < 0 then none else k lv (aR (some h.1.length) :: st) (nw h (kd, x.toNatClampNeg))
  | .anewarray _ => p1I st fun x st => if x < 0 then none else k lv (aR (some h.1.length) :: st) (nw h (3, x.toNatClampNeg))
  | .ireturn => rs1 it.2.1 fun z => p1I st fun x st => nil st (if z = 0 ∨ x = 0 ∨ x = 1 then some (some (aI x), h) else none)
  | .lreturn => p1L st fun x st => nil st (some (some (aL x), h))
  | .areturn => p1R st fun o st => nil st (some (some (aR o), h))
  | .return_ => nil st (some (none, h))
  | _ => none
end
section
/-! one instruction goes on with what is behind it, or jumps, or ends -/
def nx (C : AC) (lm : Nat → List Bool) (it : CI) (lv st : List AV) (h : AH) (K : AK) (k : AT) (r : AR) : Prop :=
  (∃ lv' st' h', k lv' st' h' = some r ∧ ∀ (K' : AK) (k' : AT), ev1 C K' lm it lv st h k' = k' lv' st' h') ∨
  (∃ t lv' st' h', K t lv' st' h' = some r ∧ ∀ (K' : AK) (k' : AT), ev1 C K' lm it lv st h k' = K' t lv' st' h') ∨
  (∀ (K' : AK) (k' : AT), ev1 C K' lm it lv st h k' = some r)
theorem p1I_s {st : List AV} {f : Int32 → List AV → Option AR} {r : AR} (h : p1I st f = some r) : ∃ x st', st = aI x :: st' ∧ f x st' = some r := by
  unfold p1I at h
  split at h
  · exact ⟨_, _, rfl, h⟩
  · cases h
theorem p1L_s {st : List AV} {f : Int64 → List AV → Option AR} {r : AR} (h : p1L st f = some r) : ∃ x st', st = aL x :: st' ∧ f x st' = some r := by
  unfold p1L at h
  split at h
  · exact ⟨_, _, rfl, h⟩
  · cases h
theorem p1R_s {st : List AV} {f : Option Nat → List AV → Option AR} {r : AR} (h : p1R st f = some r) : ∃ x st', st = aR x :: st' ∧ f x st' = some r := by
  unfold p1R at h
  split at h
  · exact ⟨_, _, rfl, h⟩
  · cases h
theorem p1V_s {st : List AV} {f : AV → List AV → Option AR} {r : AR} (h : p1V st f = some r) : ∃ x st', st = x :: st' ∧ f x st' = some r := by
  unfold p1V at h
  split at h
  · exact ⟨_, _, rfl, h⟩
  · cases h
theorem p2I_s {st : List AV} {f : Int32 → Int32 → List AV → Option AR} {r : AR} (h : p2I st f = some r) : ∃ x y st', st = aI y :: aI x :: st' ∧ f x y st' = some r := by
  unfold p2I at h
  split at h
  · exact ⟨_, _, _, rfl, h⟩
  · cases h
theorem p2L_s {st : List AV} {f : Int64 → Int64 → List AV → Option AR} {r : AR} (h : p2L st f = some r) : ∃ x y st', st = aL y :: aL x :: st' ∧ f x y st' = some r := by
  unfold p2L at h
  split at h
  · exact ⟨_, _, _, rfl, h⟩
  · cases h
theorem pLI_s {st : List AV} {f : Int64 → Int32 → List AV → Option AR} {r : AR} (h : pLI st f = some r) : ∃ x y st', st = aI y :: aL x :: st' ∧ f x y st' = some r := by
  unfold pLI at h
  split at h
  · exact ⟨_, _, _, rfl, h⟩
  · cases h
theorem pRI_s {st : List AV} {f : Option Nat → Int32 → List AV → Option AR} {r : AR} (h : pRI st f = some r) : ∃ o i st', st = aI i :: aR o :: st' ∧ f o i st' = some r := by
  unfold pRI at h
  split at h
  · exact ⟨_, _, _, rfl, h⟩
  · cases h
theorem nil_s {st : List AV} {x : Option AR} {r : AR} (h : nil st x = some r) : st = [] ∧ x = some r := by
  unfold nil at h
  split at h
  · exact ⟨rfl, h⟩
  · cases h
theorem rs1_s {rs : List Nat} {f : Nat → Option AR} {r : AR} (h : rs1 rs f = some r) : ∃ a l, rs = a :: l ∧ f a = some r := by
  unfold rs1 at h
  split at h
  · exact ⟨_, _, rfl, h⟩
  · cases h
theorem rsL_s {rs : List Nat} {f : Nat → List Nat → Option AR} {r : AR} (h : rsL rs f = some r) : ∃ a l, rs = a :: l ∧ f a l = some r := by
  unfold rsL at h
  split at h
  · exact ⟨_, _, rfl, h⟩
  · cases h
theorem rs2_s {rs : List Nat} {f : Nat → Nat → Option AR} {r : AR} (h : rs2 rs f = some r) : ∃ a b l, rs = a :: b :: l ∧ f a b = some r := by
  unfold rs2 at h
  split at h
  · exact ⟨_, _, _, rfl, h⟩
  · cases h
theorem rs3_s {rs : List Nat} {f : Nat → Nat → Nat → Option AR} {r : AR} (h : rs3 rs f = some r) : ∃ a b c l, rs = a :: b :: c :: l ∧ f a b c = some r := by
  unfold rs3 at h
  split at h
  · exact ⟨_, _, _, _, rfl, h⟩
  · cases h
theorem ldI_s {lv : List AV} {n : Nat} {f : Int32 → Option AR} {r : AR} (h : ldI lv n f = some r) : ∃ x, lv[n]? = some (aI x) ∧ f x = some r := by
  unfold ldI at h
  split at h
  · exact ⟨_, by assumption, h⟩
  · cases h
theorem ldL_s {lv : List AV} {n : Nat} {f : Int64 → Option AR} {r : AR} (h : ldL lv n f = some r) : ∃ x, lv[n]? = some (aL x) ∧ f x = some r := by
  unfold ldL at h
  split at h
  · exact ⟨_, by assumption, h⟩
  · cases h
theorem ldA_s {lv : List AV} {n : Nat} {f : AV → Option AR} {r : AR} (h : ldA lv n f = some r) : ∃ x, ((∃ o, x = aR o) ∨ ∃ q, x = aS q) ∧ lv[n]? = some x ∧ f x = some r := by
  unfold ldA at h
  split at h
  · exact ⟨_, Or.inl ⟨_, rfl⟩, by assumption, h⟩
  · exact ⟨_, Or.inr ⟨_, rfl⟩, by assumption, h⟩
  · cases h
theorem idx_s {h : AH} {kd : Nat} {o : Option Nat} {i : Int32} {f : Nat → Nat → Option AR} {r : AR} (hh : idx h kd o i f = some r) : ∃ a n, o = some a ∧ h.1[a]? = some (kd, n) ∧ vp_in i n ∧ f a i.toNatClampNeg = some r := by
  unfold idx at hh
  split at hh
  · cases hh
  · rename_i a
    split at hh
    · rename_i k n e
      split at hh
      · rename_i q
        exact ⟨a, n, rfl, by rw [e, q.1], q.2, hh⟩
      · cases hh
    · cases hh
theorem obj_s {h : AH} {ci : Nat} {o : Option Nat} {f : Nat → Option AR} {r : AR} (hh : obj h ci o f = some r) : ∃ a, o = some a ∧ h.1[a]? = some (4, ci) ∧ f a = some r := by
  unfold obj at hh
  split at hh
  · cases hh
  · rename_i a
    split at hh
    · rename_i q
      exact ⟨a, rfl, q, hh⟩
    · cases hh
theorem pop_s {n : Nat} {st : List AV} {f : List AV → List AV → Option AR} {r : AR} (h : pop n st f = some r) : ∃ as st', popA n [] st = some (as, st') ∧ f as st' = some r := by
  unfold pop at h
  split at h
  · exact ⟨_, _, by assumption, h⟩
  · cases h
theorem cal_s {o : Option AR} {st : List AV} {k : List AV → AH → Option AR} {r : AR} (h : cal o st k = some r) : ∃ v h', o = some (v, h') ∧ k (v.toList ++ st) h' = some r := by
  unfold cal at h
  split at h
  · exact ⟨some _, _, rfl, h⟩
  · exact ⟨none, _, rfl, h⟩
  · cases h
theorem rcv_s {h : AH} {ci : Nat} {as : List AV} {x : Option AR} {r : AR} (hh : rcv h ci as x = some r) : ((∃ a as', as = aR (some a) :: as' ∧ h.1[a]? = some (4, ci)) ∨ ∃ q as', as = aS q :: as' ∧ ci = 100) ∧ x = some r := by
  unfold rcv at hh
  split at hh
  · obtain ⟨a, rfl, e, e2⟩ := obj_s hh
    exact ⟨Or.inl ⟨a, _, rfl, e⟩, e2⟩
  · split at hh
    · exact ⟨Or.inr ⟨_, _, rfl, by assumption⟩, hh⟩
    · cases hh
  · cases hh
theorem if_s {c : Prop} {_ : Decidable c} {a : Option AR} {r : AR} (h : (if c then a else none) = some r) : c ∧ a = some r := by
  split at h
  · exact ⟨by assumption, h⟩
  · cases h
theorem if_n {c : Prop} {_ : Decidable c} {a : Option AR} {r : AR} (h : (if c then none else a) = some r) : ¬ c ∧ a = some r := by
  split at h
  · cases h
  · exact ⟨by assumption, h⟩
theorem mb_s {α : Type} {o : Option α} {f : α → Option AR} {r : AR} (h : mb o f = some r) : ∃ v, o = some v ∧ f v = some r := by
  unfold mb at h
  split at h
  · exact ⟨_, rfl, h⟩
  · cases h
theorem mb_e {α : Type} {o : Option α} {v : α} (e : o = some v) (f : α → Option AR) : mb o f = f v := by rw [e]; rfl
theorem if_c {c : Prop} {_ : Decidable c} {a b : Option AR} {r : AR} (h : (if c then a else b) = some r) : (c ∧ a = some r) ∨ (¬ c ∧ b = some r) := by
  split at h
  · exact Or.inl ⟨by assumption, h⟩
  · exact Or.inr ⟨by assumption, h⟩
theorem ifz_s {cd : ClassFile.Cond} {x : Int32} {r : AR} {a b : Option AR} (h : ifz cd x a b = some r) : (a = some r ∧ ∀ a' b', ifz cd x a' b' = a') ∨ (b = some r ∧ ∀ a' b', ifz cd x a' b' = b') := by
  cases cd <;> rcases if_c h with ⟨q, e⟩ | ⟨q, e⟩ <;> first | exact Or.inl ⟨e, fun a' b' => if_pos q⟩ | exact Or.inl ⟨e, fun a' b' => if_neg q⟩ | exact Or.inr ⟨e, fun a' b' => if_pos q⟩ | exact Or.inr ⟨e, fun a' b' => if_neg q⟩
theorem ifc_s {cd : ClassFile.Cond} {x y : Int32} {r : AR} {a b : Option AR} (h : ifc cd x y a b = some r) : (a = some r ∧ ∀ a' b', ifc cd x y a' b' = a') ∨ (b = some r ∧ ∀ a' b', ifc cd x y a' b' = b') := by
  cases cd <;> rcases if_c h with ⟨q, e⟩ | ⟨q, e⟩ <;> first | exact Or.inl ⟨e, fun a' b' => if_pos q⟩ | exact Or.inl ⟨e, fun a' b' => if_neg q⟩ | exact Or.inr ⟨e, fun a' b' => if_pos q⟩ | exact Or.inr ⟨e, fun a' b' => if_neg q⟩
theorem ldI_e {lv : List AV} {n : Nat} {x : Int32} (e : lv[n]? = some (aI x)) (f : Int32 → Option AR) : ldI lv n f = f x := by unfold ldI; rw [e]
theorem ldL_e {lv : List AV} {n : Nat} {x : Int64} (e : lv[n]? = some (aL x)) (f : Int64 → Option AR) : ldL lv n f = f x := by unfold ldL; rw [e]
theorem ldA_e {lv : List AV} {n : Nat} {x : AV} (hx : (∃ o, x = aR o) ∨ ∃ q, x = aS q) (e : lv[n]? = some x) (f : AV → Option AR) : ldA lv n f = f x := by
  unfold ldA; rw [e]; rcases hx with ⟨o, rfl⟩ | ⟨q, rfl⟩ <;> rfl
theorem idx_e {h : AH} {kd a n : Nat} {i : Int32} (e : h.1[a]? = some (kd, n)) (hi : vp_in i n) (f : Nat → Nat → Option AR) : idx h kd (some a) i f = f a i.toNatClampNeg := by
  show (match h.1[a]? with | some (k, n) => if k = kd ∧ ¬ (i < 0 ∨ n ≤ i.toNatClampNeg) then f a i.toNatClampNeg else none | none => none) = _
  rw [e]
  exact if_pos ⟨rfl, hi⟩
theorem obj_e {h : AH} {ci a : Nat} (e : h.1[a]? = some (4, ci)) (f : Nat → Option AR) : obj h ci (some a) f = f a := if_pos e
theorem pop_e {n : Nat} {st as st' : List AV} (e : popA n [] st = some (as, st')) (f : List AV → List AV → Option AR) : pop n st f = f as st' := by unfold pop; rw [e]
theorem rcv_e {h : AH} {ci : Nat} {as : List AV} (e : (∃ a as', as = aR (some a) :: as' ∧ h.1[a]? = some (4, ci)) ∨ ∃ q as', as = aS q :: as' ∧ ci = 100) (x : Option AR) : rcv h ci as x = x := by
  rcases e with ⟨a, as', rfl, e⟩ | ⟨q, as', rfl, e⟩
  · exact if_pos e
  · exact if_pos e
theorem cal_e {o : Option AR} {st : List AV} {v : Option AV} {h' : AH} (e : o = some (v, h')) (k : List AV → AH → Option AR) : cal o st k = k (v.toList ++ st) h' := by
  rw [e]; cases v <;> rfl
set_option maxHeartbeats 4000000 in
theorem ev1_nx (C : AC) (lm : Nat → List Bool) (it : CI) (lv st : List AV) (h : AH) (K : AK) (k : AT) (r : AR) (hr : ev1 C K lm it lv st h k = some r) : nx C lm it lv st h K k r := by
  obtain ⟨i, rs, z⟩ := it
  unfold nx
  cases i
  all_goals first
    | exact Or.inl ⟨_, _, _, hr, fun _ _ => rfl⟩
    | cases hr
    | (obtain ⟨x, st, rfl, h1⟩ := p1I_s hr; exact Or.inl ⟨_, _, _, h1, fun _ _ => rfl⟩)
    | (obtain ⟨x, st, rfl, h1⟩ := p1L_s hr; exact Or.inl ⟨_, _, _, h1, fun _ _ => rfl⟩)
    | (obtain ⟨x, st, rfl, h1⟩ := p1R_s hr; exact Or.inl ⟨_, _, _, h1, fun _ _ => rfl⟩)
    | (obtain ⟨x, y, st, rfl, h1⟩ := p2I_s hr; exact Or.inl ⟨_, _, _, h1, fun _ _ => rfl⟩)
    | (obtain ⟨x, y, st, rfl, h1⟩ := p2L_s hr; exact Or.inl ⟨_, _, _, h1, fun _ _ => rfl⟩)
    | (obtain ⟨x, y, st, rfl, h1⟩ := pLI_s hr; exact Or.inl ⟨_, _, _, h1, fun _ _ => rfl⟩)
    | (obtain ⟨x, y, st, rfl, h1⟩ := pRI_s hr; exact Or.inl ⟨_, _, _, h1, fun _ _ => rfl⟩)
    | (obtain ⟨x, e, h1⟩ := ldI_s hr; exact Or.inl ⟨_, _, _, h1, fun _ _ => ldI_e e _⟩)
    | (obtain ⟨x, e, h1⟩ := ldL_s hr; exact Or.inl ⟨_, _, _, h1, fun _ _ => ldL_e e _⟩)
    | (obtain ⟨x, hx, e, h1⟩ := ldA_s hr; exact Or.inl ⟨_, _, _, h1, fun _ _ => ldA_e hx e _⟩)
    | (obtain ⟨v, st, rfl, h1⟩ := p1V_s hr; obtain ⟨q, h2⟩ := if_s h1; exact Or.inl ⟨_, _, _, h2, fun _ _ => if_pos q⟩)
    | (obtain ⟨x, y, st, rfl, h1⟩ := p2I_s hr; obtain ⟨q, h2⟩ := if_n h1; exact Or.inl ⟨_, _, _, h2, fun _ _ => if_neg q⟩)
    | (obtain ⟨o, i, st, rfl, h1⟩ := pRI_s hr; obtain ⟨a, n, rfl, e, hi, h2⟩ := idx_s h1; exact Or.inl ⟨_, _, _, h2, fun _ _ => by simp only [ev1, rs1, rs2, rs3, rsL, p1I, p1L, p1R, p1V, p2I, p2L, pLI, pRI, idx_e e hi]⟩)
    | (obtain ⟨x, st, rfl, h1⟩ := p1I_s hr; obtain ⟨o, i, st, rfl, h2⟩ := pRI_s h1; obtain ⟨a, n, rfl, e, hi, h3⟩ := idx_s h2; exact Or.inl ⟨_, _, _, h3, fun _ _ => by simp only [ev1, rs1, rs2, rs3, rsL, p1I, p1L, p1R, p1V, p2I, p2L, pLI, pRI, idx_e e hi]⟩)
    | (obtain ⟨x, st, rfl, h1⟩ := p1L_s hr; obtain ⟨o, i, st, rfl, h2⟩ := pRI_s h1; obtain ⟨a, n, rfl, e, hi, h3⟩ := idx_s h2; exact Or.inl ⟨_, _, _, h3, fun _ _ => by simp only [ev1, rs1, rs2, rs3, rsL, p1I, p1L, p1R, p1V, p2I, p2L, pLI, pRI, idx_e e hi]⟩)
    | (obtain ⟨x, st, rfl, h1⟩ := p1I_s hr; obtain ⟨o, i, st, rfl, h2⟩ := pRI_s h1; obtain ⟨q, h3⟩ := if_s h2; obtain ⟨a, n, rfl, e, hi, h4⟩ := idx_s h3; exact Or.inl ⟨_, _, _, h4, fun _ _ => by simp only [ev1, rs1, rs2, rs3, rsL, p1I, p1L, p1R, p1V, p2I, p2L, pLI, pRI, if_pos q, idx_e e hi]⟩)
    | (obtain ⟨v, st, rfl, h1⟩ := p1R_s hr; obtain ⟨o, i, st, rfl, h2⟩ := pRI_s h1; obtain ⟨b, rfl, e2, h3⟩ := obj_s h2; obtain ⟨a, n, rfl, e, hi, h4⟩ := idx_s h3; exact Or.inl ⟨_, _, _, h4, fun _ _ => by simp only [ev1, rs1, rs2, rs3, rsL, p1I, p1L, p1R, p1V, p2I, p2L, pLI, pRI, obj_e e2, idx_e e hi]⟩)
    | (obtain ⟨a, l, rfl, h1⟩ := rs1_s hr; exact Or.inr (Or.inl ⟨_, _, _, _, h1, fun _ _ => rfl⟩))
    | (obtain ⟨a, l, rfl, h1⟩ := rs1_s hr; exact Or.inl ⟨_, _, _, h1, fun _ _ => rfl⟩)
    | (obtain ⟨a, l, rfl, h1⟩ := rs1_s hr; obtain ⟨x, st, rfl, h2⟩ := p1I_s h1; obtain ⟨q, h3⟩ := if_n h2; exact Or.inl ⟨_, _, _, h3, fun _ _ => if_neg q⟩)
    | (obtain ⟨x, st, rfl, h1⟩ := p1I_s hr; obtain ⟨q, h2⟩ := if_n h1; exact Or.inl ⟨_, _, _, h2, fun _ _ => if_neg q⟩)
    | (obtain ⟨x, st, rfl, h1⟩ := p1L_s hr; obtain ⟨rfl, h2⟩ := nil_s h1; exact Or.inr (Or.inr fun _ _ => h2))
    | (obtain ⟨x, st, rfl, h1⟩ := p1R_s hr; obtain ⟨rfl, h2⟩ := nil_s h1; exact Or.inr (Or.inr fun _ _ => h2))
    | (obtain ⟨rfl, h1⟩ := nil_s hr; exact Or.inr (Or.inr fun _ _ => h1))
    | (obtain ⟨a, l, rfl, h1⟩ := rs1_s hr; obtain ⟨x, st, rfl, h2⟩ := p1I_s h1; obtain ⟨rfl, h3⟩ := nil_s h2; exact Or.inr (Or.inr fun _ _ => h3))
    | (obtain ⟨a, b, l, rfl, h1⟩ := rs2_s hr; rcases if_c h1 with ⟨q, h2⟩ | ⟨q, h2⟩; exact Or.inl ⟨_, _, _, h2, fun _ _ => if_pos q⟩; exact Or.inl ⟨_, _, _, h2, fun _ _ => if_neg q⟩)
    | (obtain ⟨a, b, l, rfl, h1⟩ := rs2_s hr; obtain ⟨x, st, rfl, h2⟩ := p1I_s h1; rcases ifz_s h2 with ⟨h3, q⟩ | ⟨h3, q⟩ <;> exact Or.inr (Or.inl ⟨_, _, _, _, h3, fun _ _ => q _ _⟩))
    | (obtain ⟨a, b, l, rfl, h1⟩ := rs2_s hr; obtain ⟨x, y, st, rfl, h2⟩ := p2I_s h1; rcases ifc_s h2 with ⟨h3, q⟩ | ⟨h3, q⟩ <;> exact Or.inr (Or.inl ⟨_, _, _, _, h3, fun _ _ => q _ _⟩))
    | (obtain ⟨a, b, l, rfl, h1⟩ := rs2_s hr; obtain ⟨o, st, rfl, h2⟩ := p1R_s h1; rcases if_c h2 with ⟨q, h3⟩ | ⟨q, h3⟩; exact Or.inr (Or.inl ⟨_, _, _, _, h3, fun _ _ => if_pos q⟩); exact Or.inr (Or.inl ⟨_, _, _, _, h3, fun _ _ => if_neg q⟩))
    | (obtain ⟨c, n, l, rfl, h1⟩ := rs2_s hr; obtain ⟨as, st', e, h2⟩ := pop_s h1; obtain ⟨v, h', e2, h3⟩ := cal_s h2; exact Or.inl ⟨_, _, _, h3, fun _ _ => by simp only [ev1, rs1, rs2, rs3, rsL, p1I, p1L, p1R, p1V, p2I, p2L, pLI, pRI, pop_e e, cal_e e2]⟩)
    | (obtain ⟨c, n, ci, l, rfl, h1⟩ := rs3_s hr; obtain ⟨as, st', e, h2⟩ := pop_s h1; obtain ⟨e3, h3⟩ := rcv_s h2; obtain ⟨v, h', e2, h4⟩ := cal_s h3; exact Or.inl ⟨_, _, _, h4, fun _ _ => by simp only [ev1, rs1, rs2, rs3, rsL, p1I, p1L, p1R, p1V, p2I, p2L, pLI, pRI, pop_e e, rcv_e e3, cal_e e2]⟩)
    | (obtain ⟨c, n, ci, l, rfl, h1⟩ := rs3_s hr; obtain ⟨as, st', e, h2⟩ := pop_s h1; obtain ⟨e3, h3⟩ := rcv_s h2; rcases if_c h3 with ⟨q, h4⟩ | ⟨q, h4⟩; exact Or.inl ⟨_, _, _, h4, fun _ _ => by simp only [ev1, rs1, rs2, rs3, rsL, p1I, p1L, p1R, p1V, p2I, p2L, pLI, pRI, pop_e e, rcv_e e3, if_pos q]⟩; obtain ⟨v, h', e2, h5⟩ := cal_s h4; exact Or.inl ⟨_, _, _, h5, fun _ _ => by simp only [ev1, rs1, rs2, rs3, rsL, p1I, p1L, p1R, p1V, p2I, p2L, pLI, pRI, pop_e e, rcv_e e3, if_neg q, cal_e e2]⟩)
    | skip
  case aload =>
    simp only [ev1] at hr
    obtain ⟨x, hx, e, g1⟩ := ldA_s hr
    exact Or.inl ⟨_, _, _, g1, fun _ _ => by simp only [ev1, ldA_e hx e]⟩
  case aload_n =>
    simp only [ev1] at hr
    obtain ⟨x, hx, e, g1⟩ := ldA_s hr
    exact Or.inl ⟨_, _, _, g1, fun _ _ => by simp only [ev1, ldA_e hx e]⟩
  case getfield =>
    obtain ⟨ci, j, kd, l, rfl, g1⟩ := rs3_s hr
    obtain ⟨o, st, rfl, g2⟩ := p1R_s g1
    obtain ⟨a, rfl, e, g3⟩ := obj_s g2
    obtain ⟨v, e2, g4⟩ := mb_s g3
    exact Or.inl ⟨_, _, _, g4, fun _ _ => by simp only [ev1, rs1, rs2, rs3, rsL, p1I, p1L, p1R, p1V, p2I, p2L, pLI, pRI, obj_e e, mb_e e2]⟩
  case putfield =>
    obtain ⟨ci, j, kd, l, rfl, g1⟩ := rs3_s hr
    obtain ⟨v, st, rfl, g2⟩ := p1V_s g1
    obtain ⟨o, st, rfl, g3⟩ := p1R_s g2
    obtain ⟨a, rfl, e, g4⟩ := obj_s g3
    obtain ⟨h', e2, g5⟩ := mb_s g4
    exact Or.inl ⟨_, _, _, g5, fun _ _ => by simp only [ev1, rs1, rs2, rs3, rsL, p1I, p1L, p1R, p1V, p2I, p2L, pLI, pRI, obj_e e, mb_e e2]⟩
  case arraylength =>
    obtain ⟨o, st, rfl, g1⟩ := p1R_s hr
    obtain ⟨a, rfl, g2⟩ := mb_s g1
    obtain ⟨n, e2, g3⟩ := mb_s g2
    exact Or.inl ⟨_, _, _, g3, fun _ _ => by simp only [ev1, rs1, rs2, rs3, rsL, p1I, p1L, p1R, p1V, p2I, p2L, pLI, pRI, mb_e rfl, mb_e e2]⟩
  case tableswitch d lo hi offs =>
    obtain ⟨d, ts, rfl, g1⟩ := rsL_s hr
    obtain ⟨x, st, rfl, g2⟩ := p1I_s g1
    rcases if_c g2 with ⟨q, g3⟩ | ⟨q, g3⟩
    · exact Or.inr (Or.inl ⟨_, _, _, _, g3, fun _ _ => if_pos q⟩)
    · obtain ⟨t, e2, g4⟩ := mb_s g3
      exact Or.inr (Or.inl ⟨_, _, _, _, g4, fun _ _ => by simp only [ev1, rs1, rs2, rs3, rsL, p1I, p1L, p1R, p1V, p2I, p2L, pLI, pRI, if_neg q, mb_e e2]⟩)
/-! a block, a method, a call -/
def evL (C : AC) (K : AK) (lm : Nat → List Bool) (nt : Nat) : List CI → AT
  | [] => fun lv st h => K nt (msk (lm nt) lv) st h
  | i :: is => fun lv st h => ev1 C K lm i lv st h (evL C K lm nt is)
/-- a block: the next one, the instructions -/
abbrev BT : Type := Nat → Nat × List CI
def rn (B : BT) (lm : Nat → List Bool) (C : AC) : Nat → AK
  | 0 => fun _ _ _ _ => none
  | n + 1 => fun b lv st h => evL C (rn B lm C n) lm (B b).1 (B b).2 lv st h
theorem evL_up {C : AC} {K K' : AK} {lm : Nat → List Bool} {nt : Nat} (hK : ∀ t lv st h r, K t lv st h = some r → K' t lv st h = some r) :
    ∀ (is : List CI) (lv st : List AV) (h : AH) (r : AR), evL C K lm nt is lv st h = some r → evL C K' lm nt is lv st h = some r
  | [], lv, st, h, r, e => hK _ _ _ _ _ e
  | i :: is, lv, st, h, r, e => by
    rcases ev1_nx C lm i lv st h K _ r e with ⟨lv', st', h', e1, e2⟩ | ⟨t, lv', st', h', e1, e2⟩ | e2
    · exact (e2 K' _).trans (evL_up hK is _ _ _ _ e1)
    · exact (e2 K' _).trans (hK _ _ _ _ _ e1)
    · exact e2 K' _
theorem rn_up {B : BT} {lm : Nat → List Bool} {C : AC} : ∀ (n : Nat) (t : Nat) (lv st : List AV) (h : AH) (r : AR), rn B lm C n t lv st h = some r → rn B lm C (n + 1) t lv st h = some r
  | 0, t, lv, st, h, r, e => by cases e
  | n + 1, t, lv, st, h, r, e => evL_up (fun t lv st h r => rn_up n t lv st h r) _ _ _ _ _ e
theorem rn_le {B : BT} {lm : Nat → List Bool} {C : AC} {n : Nat} {t : Nat} {lv st : List AV} {h : AH} {r : AR} (e : rn B lm C n t lv st h = some r) : ∀ m, rn B lm C (n + m) t lv st h = some r
  | 0 => e
  | m + 1 => rn_up (n + m) _ _ _ _ _ (rn_le e m)
noncomputable def Rk (B : BT) (lm : Nat → List Bool) (C : AC) : AK := fun t lv st h =>
  @dite _ (∃ n r, rn B lm C n t lv st h = some r) (Classical.propDecidable _) (fun hh => rn B lm C (Classical.choose hh) t lv st h) (fun _ => none)
theorem Rk_some {B : BT} {lm : Nat → List Bool} {C : AC} {t : Nat} {lv st : List AV} {h : AH} {r : AR} : Rk B lm C t lv st h = some r ↔ ∃ n, rn B lm C n t lv st h = some r := by
  constructor
  · intro e
    unfold Rk at e
    split at e
    · exact ⟨_, e⟩
    · cases e
  · intro ⟨n, e⟩
    have hh : ∃ n r, rn B lm C n t lv st h = some r := ⟨n, r, e⟩
    unfold Rk
    rw [dif_pos hh]
    obtain ⟨r', e'⟩ := Classical.choose_spec hh
    have a1 := rn_le e' n
    have a2 := rn_le e (Classical.choose hh)
    rw [Nat.add_comm] at a2
    rw [e', ← a1, a2]
theorem evL_lim {B : BT} {lm : Nat → List Bool} {C : AC} {nt : Nat} : ∀ (is : List CI) (lv st : List AV) (h : AH) (r : AR), evL C (Rk B lm C) lm nt is lv st h = some r → ∃ n, evL C (rn B lm C n) lm nt is lv st h = some r
  | [], lv, st, h, r, e => Rk_some.mp e
  | i :: is, lv, st, h, r, e => by
    rcases ev1_nx C lm i lv st h (Rk B lm C) _ r e with ⟨lv', st', h', e1, e2⟩ | ⟨t, lv', st', h', e1, e2⟩ | e2
    · obtain ⟨n, e3⟩ := evL_lim is _ _ _ _ e1
      exact ⟨n, (e2 _ _).trans e3⟩
    · obtain ⟨n, e3⟩ := Rk_some.mp e1
      exact ⟨n, (e2 _ _).trans e3⟩
    · exact ⟨0, e2 _ _⟩
/-- a block's equation -/
theorem Rk_eq {B : BT} {lm : Nat → List Bool} {C : AC} (t : Nat) (lv st : List AV) (h : AH) : Rk B lm C t lv st h = evL C (Rk B lm C) lm (B t).1 (B t).2 lv st h := by
  have up : ∀ r, Rk B lm C t lv st h = some r ↔ evL C (Rk B lm C) lm (B t).1 (B t).2 lv st h = some r := by
    intro r
    constructor
    · intro e
      obtain ⟨n, e⟩ := Rk_some.mp e
      cases n with
      | zero => cases e
      | succ n => exact evL_up (fun t lv st h r e => Rk_some.mpr ⟨n, e⟩) _ _ _ _ _ e
    · intro e
      obtain ⟨n, e⟩ := evL_lim _ _ _ _ _ e
      exact Rk_some.mpr ⟨n + 1, e⟩
  cases e : evL C (Rk B lm C) lm (B t).1 (B t).2 lv st h with
  | some r => exact (up r).mpr e
  | none =>
    cases e2 : Rk B lm C t lv st h with
    | none => rfl
    | some r => rw [(up r).mp e2] at e; cases e
end
