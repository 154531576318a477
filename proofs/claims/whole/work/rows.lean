section
-- ===== PART A: goes FIRST, ahead of the names: the tables' words, and 'selects' of the private methods out of them =====
/-- a private method of a class that the tables say can be made, by its rows of tables_1 -/
def lw_okq (q : MethodName × Nat) : Prop := (q.1.cls ≠ "java/lang/invoke/MethodHandle" ∧ q.1.cls ≠ "java/lang/invoke/VarHandle") ∧ Cond.instantiable q.1.cls q.2 ∈ tables_1 ∧ Cond.privateMethod q.1 ∈ tables_1 ∧ Cond.instanceMethod q.1 ∈ tables_1
theorem lw_p0 : lw_okq (⟨"NameReaders", "readerOf", "(I)LNameReaders$Reader;"⟩, 11) := ⟨⟨by decide +kernel, by decide +kernel⟩, List.mem_of_getElem? (i := 22) (by decide +kernel), List.mem_of_getElem? (i := 362) (by decide +kernel), List.mem_of_getElem? (i := 363) (by decide +kernel)⟩
theorem lw_p1 : lw_okq (⟨"NameReaders$Reader", "sort", "()V"⟩, 7) := ⟨⟨by decide +kernel, by decide +kernel⟩, List.mem_of_getElem? (i := 30) (by decide +kernel), List.mem_of_getElem? (i := 373) (by decide +kernel), List.mem_of_getElem? (i := 374) (by decide +kernel)⟩
theorem lw_p2 : lw_okq (⟨"NameReaders$Text", "parseMove", "(LNameReaders$Reader;)Z"⟩, 6) := ⟨⟨by decide +kernel, by decide +kernel⟩, List.mem_of_getElem? (i := 59) (by decide +kernel), List.mem_of_getElem? (i := 410) (by decide +kernel), List.mem_of_getElem? (i := 411) (by decide +kernel)⟩
theorem lw_p3 : lw_okq (⟨"NameReaders$Text", "number", "(I)I"⟩, 6) := ⟨⟨by decide +kernel, by decide +kernel⟩, List.mem_of_getElem? (i := 59) (by decide +kernel), List.mem_of_getElem? (i := 418) (by decide +kernel), List.mem_of_getElem? (i := 419) (by decide +kernel)⟩
theorem lw_p4 : lw_okq (⟨"NameReaders$Text", "advance", "()V"⟩, 6) := ⟨⟨by decide +kernel, by decide +kernel⟩, List.mem_of_getElem? (i := 59) (by decide +kernel), List.mem_of_getElem? (i := 422) (by decide +kernel), List.mem_of_getElem? (i := 423) (by decide +kernel)⟩
theorem lw_p5 : lw_okq (⟨"NameReaders$Text", "letter", "()I"⟩, 6) := ⟨⟨by decide +kernel, by decide +kernel⟩, List.mem_of_getElem? (i := 59) (by decide +kernel), List.mem_of_getElem? (i := 429) (by decide +kernel), List.mem_of_getElem? (i := 430) (by decide +kernel)⟩
theorem lw_p6 : lw_okq (⟨"NameReaders$Text", "isWord", "(Ljava/lang/String;)Z"⟩, 6) := ⟨⟨by decide +kernel, by decide +kernel⟩, List.mem_of_getElem? (i := 59) (by decide +kernel), List.mem_of_getElem? (i := 434) (by decide +kernel), List.mem_of_getElem? (i := 435) (by decide +kernel)⟩
theorem lw_p7 : lw_okq (⟨"NameReaders$Text", "test", "(I)I"⟩, 6) := ⟨⟨by decide +kernel, by decide +kernel⟩, List.mem_of_getElem? (i := 59) (by decide +kernel), List.mem_of_getElem? (i := 492) (by decide +kernel), List.mem_of_getElem? (i := 493) (by decide +kernel)⟩
theorem lw_p8 : lw_okq (⟨"NameReaders$Row", "survey", "()V"⟩, 8) := ⟨⟨by decide +kernel, by decide +kernel⟩, List.mem_of_getElem? (i := 84) (by decide +kernel), List.mem_of_getElem? (i := 558) (by decide +kernel), List.mem_of_getElem? (i := 559) (by decide +kernel)⟩
theorem lw_p9 : lw_okq (⟨"NameReaders$Row", "idAt", "(I)I"⟩, 8) := ⟨⟨by decide +kernel, by decide +kernel⟩, List.mem_of_getElem? (i := 84) (by decide +kernel), List.mem_of_getElem? (i := 562) (by decide +kernel), List.mem_of_getElem? (i := 563) (by decide +kernel)⟩
theorem lw_p10 : lw_okq (⟨"NameReaders$Walks", "giveSlots", "(LNameReaders$Row;)V"⟩, 5) := ⟨⟨by decide +kernel, by decide +kernel⟩, List.mem_of_getElem? (i := 139) (by decide +kernel), List.mem_of_getElem? (i := 676) (by decide +kernel), List.mem_of_getElem? (i := 677) (by decide +kernel)⟩
theorem lw_p11 : lw_okq (⟨"NameReaders$Walks", "spread", "(LNameReaders$Reader;LNameReaders$Row;I)V"⟩, 5) := ⟨⟨by decide +kernel, by decide +kernel⟩, List.mem_of_getElem? (i := 139) (by decide +kernel), List.mem_of_getElem? (i := 684) (by decide +kernel), List.mem_of_getElem? (i := 685) (by decide +kernel)⟩
theorem lw_p12 : lw_okq (⟨"NameReaders$Walks", "placeOf", "(I)I"⟩, 5) := ⟨⟨by decide +kernel, by decide +kernel⟩, List.mem_of_getElem? (i := 139) (by decide +kernel), List.mem_of_getElem? (i := 694) (by decide +kernel), List.mem_of_getElem? (i := 695) (by decide +kernel)⟩
theorem lw_p13 : lw_okq (⟨"NameReaders$Walks", "runFrom", "(LNameReaders$Reader;LNameReaders$Row;II)Z"⟩, 5) := ⟨⟨by decide +kernel, by decide +kernel⟩, List.mem_of_getElem? (i := 139) (by decide +kernel), List.mem_of_getElem? (i := 727) (by decide +kernel), List.mem_of_getElem? (i := 728) (by decide +kernel)⟩
theorem lw_p14 : lw_okq (⟨"NameReaders$ShapeSearch", "setOf", "(I)LNameReaders$Spots;"⟩, 8) := ⟨⟨by decide +kernel, by decide +kernel⟩, List.mem_of_getElem? (i := 232) (by decide +kernel), List.mem_of_getElem? (i := 749) (by decide +kernel), List.mem_of_getElem? (i := 750) (by decide +kernel)⟩
theorem lw_p15 : lw_okq (⟨"NameReaders$ShapeSearch", "otherSetOf", "(I)LNameReaders$Spots;"⟩, 8) := ⟨⟨by decide +kernel, by decide +kernel⟩, List.mem_of_getElem? (i := 232) (by decide +kernel), List.mem_of_getElem? (i := 754) (by decide +kernel), List.mem_of_getElem? (i := 755) (by decide +kernel)⟩
def lw_privs_1 : List (MethodName × Nat) := [(⟨"NameReaders", "readerOf", "(I)LNameReaders$Reader;"⟩, 11), (⟨"NameReaders$Reader", "sort", "()V"⟩, 7), (⟨"NameReaders$Text", "parseMove", "(LNameReaders$Reader;)Z"⟩, 6), (⟨"NameReaders$Text", "number", "(I)I"⟩, 6), (⟨"NameReaders$Text", "advance", "()V"⟩, 6), (⟨"NameReaders$Text", "letter", "()I"⟩, 6), (⟨"NameReaders$Text", "isWord", "(Ljava/lang/String;)Z"⟩, 6), (⟨"NameReaders$Text", "test", "(I)I"⟩, 6), (⟨"NameReaders$Row", "survey", "()V"⟩, 8), (⟨"NameReaders$Row", "idAt", "(I)I"⟩, 8), (⟨"NameReaders$Walks", "giveSlots", "(LNameReaders$Row;)V"⟩, 5), (⟨"NameReaders$Walks", "spread", "(LNameReaders$Reader;LNameReaders$Row;I)V"⟩, 5), (⟨"NameReaders$Walks", "placeOf", "(I)I"⟩, 5), (⟨"NameReaders$Walks", "runFrom", "(LNameReaders$Reader;LNameReaders$Row;II)Z"⟩, 5), (⟨"NameReaders$ShapeSearch", "setOf", "(I)LNameReaders$Spots;"⟩, 8), (⟨"NameReaders$ShapeSearch", "otherSetOf", "(I)LNameReaders$Spots;"⟩, 8)]
theorem lw_r1 : ∀ q ∈ lw_privs_1, lw_okq q := List.forall_mem_cons.mpr ⟨lw_p0, List.forall_mem_cons.mpr ⟨lw_p1, List.forall_mem_cons.mpr ⟨lw_p2, List.forall_mem_cons.mpr ⟨lw_p3, List.forall_mem_cons.mpr ⟨lw_p4, List.forall_mem_cons.mpr ⟨lw_p5, List.forall_mem_cons.mpr ⟨lw_p6, List.forall_mem_cons.mpr ⟨lw_p7, List.forall_mem_cons.mpr ⟨lw_p8, List.forall_mem_cons.mpr ⟨lw_p9, List.forall_mem_cons.mpr ⟨lw_p10, List.forall_mem_cons.mpr ⟨lw_p11, List.forall_mem_cons.mpr ⟨lw_p12, List.forall_mem_cons.mpr ⟨lw_p13, List.forall_mem_cons.mpr ⟨lw_p14, List.forall_mem_cons.mpr ⟨lw_p15, fun _ h => absurd h List.not_mem_nil⟩⟩⟩⟩⟩⟩⟩⟩⟩⟩⟩⟩⟩⟩⟩⟩
theorem lw_p16 : lw_okq (⟨"NameReaders$ShapeSearch", "goOn", "(II)Z"⟩, 8) := ⟨⟨by decide +kernel, by decide +kernel⟩, List.mem_of_getElem? (i := 232) (by decide +kernel), List.mem_of_getElem? (i := 758) (by decide +kernel), List.mem_of_getElem? (i := 759) (by decide +kernel)⟩
theorem lw_p17 : lw_okq (⟨"NameReaders$ShapeSearch", "end", "(II)Z"⟩, 8) := ⟨⟨by decide +kernel, by decide +kernel⟩, List.mem_of_getElem? (i := 232) (by decide +kernel), List.mem_of_getElem? (i := 762) (by decide +kernel), List.mem_of_getElem? (i := 763) (by decide +kernel)⟩
theorem lw_p18 : lw_okq (⟨"NameReaders$ShapeSearch", "endings", "(LNameReaders$Reader;LNameReaders$Spots;I)I"⟩, 8) := ⟨⟨by decide +kernel, by decide +kernel⟩, List.mem_of_getElem? (i := 232) (by decide +kernel), List.mem_of_getElem? (i := 766) (by decide +kernel), List.mem_of_getElem? (i := 767) (by decide +kernel)⟩
theorem lw_p19 : lw_okq (⟨"NameReaders$Outlook", "study", "(LNameReaders$Reader;)V"⟩, 6) := ⟨⟨by decide +kernel, by decide +kernel⟩, List.mem_of_getElem? (i := 263) (by decide +kernel), List.mem_of_getElem? (i := 813) (by decide +kernel), List.mem_of_getElem? (i := 814) (by decide +kernel)⟩
theorem lw_p20 : lw_okq (⟨"NameReaders$Outlook", "see", "(LNameReaders$Reader;I)V"⟩, 6) := ⟨⟨by decide +kernel, by decide +kernel⟩, List.mem_of_getElem? (i := 263) (by decide +kernel), List.mem_of_getElem? (i := 817) (by decide +kernel), List.mem_of_getElem? (i := 818) (by decide +kernel)⟩
theorem lw_p21 : lw_okq (⟨"NameReaders$Outlook", "seeBehind", "(LNameReaders$Reader;I)V"⟩, 6) := ⟨⟨by decide +kernel, by decide +kernel⟩, List.mem_of_getElem? (i := 263) (by decide +kernel), List.mem_of_getElem? (i := 825) (by decide +kernel), List.mem_of_getElem? (i := 826) (by decide +kernel)⟩
theorem lw_p22 : lw_okq (⟨"NameReaders$Outlook", "tellAhead", "(LNameReaders$Reader;I)Z"⟩, 6) := ⟨⟨by decide +kernel, by decide +kernel⟩, List.mem_of_getElem? (i := 263) (by decide +kernel), List.mem_of_getElem? (i := 840) (by decide +kernel), List.mem_of_getElem? (i := 841) (by decide +kernel)⟩
theorem lw_p23 : lw_okq (⟨"NameReaders$Outlook", "leadsTo", "(LNameReaders$Reader;II)Z"⟩, 6) := ⟨⟨by decide +kernel, by decide +kernel⟩, List.mem_of_getElem? (i := 263) (by decide +kernel), List.mem_of_getElem? (i := 844) (by decide +kernel), List.mem_of_getElem? (i := 845) (by decide +kernel)⟩
theorem lw_p24 : lw_okq (⟨"NameReaders$Outlook", "choosePair", "(LNameReaders$Reader;III)I"⟩, 6) := ⟨⟨by decide +kernel, by decide +kernel⟩, List.mem_of_getElem? (i := 263) (by decide +kernel), List.mem_of_getElem? (i := 857) (by decide +kernel), List.mem_of_getElem? (i := 858) (by decide +kernel)⟩
theorem lw_p25 : lw_okq (⟨"NameReaders$Outlook", "followTo", "(LNameReaders$Reader;III)V"⟩, 6) := ⟨⟨by decide +kernel, by decide +kernel⟩, List.mem_of_getElem? (i := 263) (by decide +kernel), List.mem_of_getElem? (i := 861) (by decide +kernel), List.mem_of_getElem? (i := 862) (by decide +kernel)⟩
theorem lw_p26 : lw_okq (⟨"NameReaders$Meeting", "comeTo", "(I)V"⟩, 9) := ⟨⟨by decide +kernel, by decide +kernel⟩, List.mem_of_getElem? (i := 288) (by decide +kernel), List.mem_of_getElem? (i := 902) (by decide +kernel), List.mem_of_getElem? (i := 903) (by decide +kernel)⟩
theorem lw_p27 : lw_okq (⟨"NameReaders$Meeting", "rowsBehind", "(II)I"⟩, 9) := ⟨⟨by decide +kernel, by decide +kernel⟩, List.mem_of_getElem? (i := 288) (by decide +kernel), List.mem_of_getElem? (i := 906) (by decide +kernel), List.mem_of_getElem? (i := 907) (by decide +kernel)⟩
theorem lw_p28 : lw_okq (⟨"NameReaders$Meeting", "spread", "()Z"⟩, 9) := ⟨⟨by decide +kernel, by decide +kernel⟩, List.mem_of_getElem? (i := 288) (by decide +kernel), List.mem_of_getElem? (i := 911) (by decide +kernel), List.mem_of_getElem? (i := 912) (by decide +kernel)⟩
theorem lw_p29 : lw_okq (⟨"NameReaders$Meeting", "spreadOther", "(III)Z"⟩, 9) := ⟨⟨by decide +kernel, by decide +kernel⟩, List.mem_of_getElem? (i := 288) (by decide +kernel), List.mem_of_getElem? (i := 919) (by decide +kernel), List.mem_of_getElem? (i := 920) (by decide +kernel)⟩
theorem lw_p30 : lw_okq (⟨"NameReaders$Meeting", "placeOf", "(II)I"⟩, 9) := ⟨⟨by decide +kernel, by decide +kernel⟩, List.mem_of_getElem? (i := 288) (by decide +kernel), List.mem_of_getElem? (i := 923) (by decide +kernel), List.mem_of_getElem? (i := 924) (by decide +kernel)⟩
theorem lw_p31 : lw_okq (⟨"NameReaders$Fillings", "tellNames", "()V"⟩, 13) := ⟨⟨by decide +kernel, by decide +kernel⟩, List.mem_of_getElem? (i := 161) (by decide +kernel), List.mem_of_getElem? (i := 951) (by decide +kernel), List.mem_of_getElem? (i := 952) (by decide +kernel)⟩
def lw_privs_2 : List (MethodName × Nat) := [(⟨"NameReaders$ShapeSearch", "goOn", "(II)Z"⟩, 8), (⟨"NameReaders$ShapeSearch", "end", "(II)Z"⟩, 8), (⟨"NameReaders$ShapeSearch", "endings", "(LNameReaders$Reader;LNameReaders$Spots;I)I"⟩, 8), (⟨"NameReaders$Outlook", "study", "(LNameReaders$Reader;)V"⟩, 6), (⟨"NameReaders$Outlook", "see", "(LNameReaders$Reader;I)V"⟩, 6), (⟨"NameReaders$Outlook", "seeBehind", "(LNameReaders$Reader;I)V"⟩, 6), (⟨"NameReaders$Outlook", "tellAhead", "(LNameReaders$Reader;I)Z"⟩, 6), (⟨"NameReaders$Outlook", "leadsTo", "(LNameReaders$Reader;II)Z"⟩, 6), (⟨"NameReaders$Outlook", "choosePair", "(LNameReaders$Reader;III)I"⟩, 6), (⟨"NameReaders$Outlook", "followTo", "(LNameReaders$Reader;III)V"⟩, 6), (⟨"NameReaders$Meeting", "comeTo", "(I)V"⟩, 9), (⟨"NameReaders$Meeting", "rowsBehind", "(II)I"⟩, 9), (⟨"NameReaders$Meeting", "spread", "()Z"⟩, 9), (⟨"NameReaders$Meeting", "spreadOther", "(III)Z"⟩, 9), (⟨"NameReaders$Meeting", "placeOf", "(II)I"⟩, 9), (⟨"NameReaders$Fillings", "tellNames", "()V"⟩, 13)]
theorem lw_r2 : ∀ q ∈ lw_privs_2, lw_okq q := List.forall_mem_cons.mpr ⟨lw_p16, List.forall_mem_cons.mpr ⟨lw_p17, List.forall_mem_cons.mpr ⟨lw_p18, List.forall_mem_cons.mpr ⟨lw_p19, List.forall_mem_cons.mpr ⟨lw_p20, List.forall_mem_cons.mpr ⟨lw_p21, List.forall_mem_cons.mpr ⟨lw_p22, List.forall_mem_cons.mpr ⟨lw_p23, List.forall_mem_cons.mpr ⟨lw_p24, List.forall_mem_cons.mpr ⟨lw_p25, List.forall_mem_cons.mpr ⟨lw_p26, List.forall_mem_cons.mpr ⟨lw_p27, List.forall_mem_cons.mpr ⟨lw_p28, List.forall_mem_cons.mpr ⟨lw_p29, List.forall_mem_cons.mpr ⟨lw_p30, List.forall_mem_cons.mpr ⟨lw_p31, fun _ h => absurd h List.not_mem_nil⟩⟩⟩⟩⟩⟩⟩⟩⟩⟩⟩⟩⟩⟩⟩⟩
theorem lw_p32 : lw_okq (⟨"NameReaders$Fillings", "fillFrom", "(II)Z"⟩, 13) := ⟨⟨by decide +kernel, by decide +kernel⟩, List.mem_of_getElem? (i := 161) (by decide +kernel), List.mem_of_getElem? (i := 970) (by decide +kernel), List.mem_of_getElem? (i := 971) (by decide +kernel)⟩
theorem lw_p33 : lw_okq (⟨"NameReaders$Fillings", "mayHave", "(III)Z"⟩, 13) := ⟨⟨by decide +kernel, by decide +kernel⟩, List.mem_of_getElem? (i := 161) (by decide +kernel), List.mem_of_getElem? (i := 978) (by decide +kernel), List.mem_of_getElem? (i := 979) (by decide +kernel)⟩
theorem lw_p34 : lw_okq (⟨"NameReaders$Fillings", "fillOne", "(III)Z"⟩, 13) := ⟨⟨by decide +kernel, by decide +kernel⟩, List.mem_of_getElem? (i := 161) (by decide +kernel), List.mem_of_getElem? (i := 982) (by decide +kernel), List.mem_of_getElem? (i := 983) (by decide +kernel)⟩
theorem lw_p35 : lw_okq (⟨"NameReaders$Fillings", "restIsTaken", "(I)Z"⟩, 13) := ⟨⟨by decide +kernel, by decide +kernel⟩, List.mem_of_getElem? (i := 161) (by decide +kernel), List.mem_of_getElem? (i := 986) (by decide +kernel), List.mem_of_getElem? (i := 987) (by decide +kernel)⟩
theorem lw_p36 : lw_okq (⟨"NameReaders$Mender", "survey", "(LNameReaders$Reader;LNameReaders$Row;)V"⟩, 6) := ⟨⟨by decide +kernel, by decide +kernel⟩, List.mem_of_getElem? (i := 207) (by decide +kernel), List.mem_of_getElem? (i := 1014) (by decide +kernel), List.mem_of_getElem? (i := 1015) (by decide +kernel)⟩
theorem lw_p37 : lw_okq (⟨"NameReaders$Mender", "spread", "(LNameReaders$Reader;LNameReaders$Row;II)V"⟩, 6) := ⟨⟨by decide +kernel, by decide +kernel⟩, List.mem_of_getElem? (i := 207) (by decide +kernel), List.mem_of_getElem? (i := 1034) (by decide +kernel), List.mem_of_getElem? (i := 1035) (by decide +kernel)⟩
theorem lw_p38 : lw_okq (⟨"NameReaders$Mender", "come", "(III)V"⟩, 6) := ⟨⟨by decide +kernel, by decide +kernel⟩, List.mem_of_getElem? (i := 207) (by decide +kernel), List.mem_of_getElem? (i := 1045) (by decide +kernel), List.mem_of_getElem? (i := 1046) (by decide +kernel)⟩
theorem lw_p39 : lw_okq (⟨"NameReaders$Mender", "spreadChanged", "(LNameReaders$Reader;IIII)V"⟩, 6) := ⟨⟨by decide +kernel, by decide +kernel⟩, List.mem_of_getElem? (i := 207) (by decide +kernel), List.mem_of_getElem? (i := 1051) (by decide +kernel), List.mem_of_getElem? (i := 1052) (by decide +kernel)⟩
theorem lw_p40 : lw_okq (⟨"NameReaders$Mender", "turn", "()V"⟩, 6) := ⟨⟨by decide +kernel, by decide +kernel⟩, List.mem_of_getElem? (i := 207) (by decide +kernel), List.mem_of_getElem? (i := 1057) (by decide +kernel), List.mem_of_getElem? (i := 1058) (by decide +kernel)⟩
theorem lw_p41 : lw_okq (⟨"NameReadersModel", "token", "()V"⟩, 56) := ⟨⟨by decide +kernel, by decide +kernel⟩, List.mem_of_getElem? (i := 1067) (by decide +kernel), List.mem_of_getElem? (i := 1273) (by decide +kernel), List.mem_of_getElem? (i := 1274) (by decide +kernel)⟩
theorem lw_p42 : lw_okq (⟨"NameReadersModel", "readsMove", "(I)Z"⟩, 56) := ⟨⟨by decide +kernel, by decide +kernel⟩, List.mem_of_getElem? (i := 1067) (by decide +kernel), List.mem_of_getElem? (i := 1280) (by decide +kernel), List.mem_of_getElem? (i := 1281) (by decide +kernel)⟩
theorem lw_p43 : lw_okq (⟨"NameReadersModel", "figure", "(I)I"⟩, 56) := ⟨⟨by decide +kernel, by decide +kernel⟩, List.mem_of_getElem? (i := 1067) (by decide +kernel), List.mem_of_getElem? (i := 1284) (by decide +kernel), List.mem_of_getElem? (i := 1285) (by decide +kernel)⟩
theorem lw_p44 : lw_okq (⟨"NameReadersModel", "isWord", "(II)Z"⟩, 56) := ⟨⟨by decide +kernel, by decide +kernel⟩, List.mem_of_getElem? (i := 1067) (by decide +kernel), List.mem_of_getElem? (i := 1288) (by decide +kernel), List.mem_of_getElem? (i := 1289) (by decide +kernel)⟩
theorem lw_p45 : lw_okq (⟨"NameReadersModel", "skips", "(II)Z"⟩, 56) := ⟨⟨by decide +kernel, by decide +kernel⟩, List.mem_of_getElem? (i := 1067) (by decide +kernel), List.mem_of_getElem? (i := 1293) (by decide +kernel), List.mem_of_getElem? (i := 1294) (by decide +kernel)⟩
theorem lw_p46 : lw_okq (⟨"NameReadersModel", "isMove", "(II)Z"⟩, 56) := ⟨⟨by decide +kernel, by decide +kernel⟩, List.mem_of_getElem? (i := 1067) (by decide +kernel), List.mem_of_getElem? (i := 1306) (by decide +kernel), List.mem_of_getElem? (i := 1307) (by decide +kernel)⟩
theorem lw_p47 : lw_okq (⟨"NameReadersModel", "gapPairs", "()I"⟩, 56) := ⟨⟨by decide +kernel, by decide +kernel⟩, List.mem_of_getElem? (i := 1067) (by decide +kernel), List.mem_of_getElem? (i := 1336) (by decide +kernel), List.mem_of_getElem? (i := 1337) (by decide +kernel)⟩
def lw_privs_3 : List (MethodName × Nat) := [(⟨"NameReaders$Fillings", "fillFrom", "(II)Z"⟩, 13), (⟨"NameReaders$Fillings", "mayHave", "(III)Z"⟩, 13), (⟨"NameReaders$Fillings", "fillOne", "(III)Z"⟩, 13), (⟨"NameReaders$Fillings", "restIsTaken", "(I)Z"⟩, 13), (⟨"NameReaders$Mender", "survey", "(LNameReaders$Reader;LNameReaders$Row;)V"⟩, 6), (⟨"NameReaders$Mender", "spread", "(LNameReaders$Reader;LNameReaders$Row;II)V"⟩, 6), (⟨"NameReaders$Mender", "come", "(III)V"⟩, 6), (⟨"NameReaders$Mender", "spreadChanged", "(LNameReaders$Reader;IIII)V"⟩, 6), (⟨"NameReaders$Mender", "turn", "()V"⟩, 6), (⟨"NameReadersModel", "token", "()V"⟩, 56), (⟨"NameReadersModel", "readsMove", "(I)Z"⟩, 56), (⟨"NameReadersModel", "figure", "(I)I"⟩, 56), (⟨"NameReadersModel", "isWord", "(II)Z"⟩, 56), (⟨"NameReadersModel", "skips", "(II)Z"⟩, 56), (⟨"NameReadersModel", "isMove", "(II)Z"⟩, 56), (⟨"NameReadersModel", "gapPairs", "()I"⟩, 56)]
theorem lw_r3 : ∀ q ∈ lw_privs_3, lw_okq q := List.forall_mem_cons.mpr ⟨lw_p32, List.forall_mem_cons.mpr ⟨lw_p33, List.forall_mem_cons.mpr ⟨lw_p34, List.forall_mem_cons.mpr ⟨lw_p35, List.forall_mem_cons.mpr ⟨lw_p36, List.forall_mem_cons.mpr ⟨lw_p37, List.forall_mem_cons.mpr ⟨lw_p38, List.forall_mem_cons.mpr ⟨lw_p39, List.forall_mem_cons.mpr ⟨lw_p40, List.forall_mem_cons.mpr ⟨lw_p41, List.forall_mem_cons.mpr ⟨lw_p42, List.forall_mem_cons.mpr ⟨lw_p43, List.forall_mem_cons.mpr ⟨lw_p44, List.forall_mem_cons.mpr ⟨lw_p45, List.forall_mem_cons.mpr ⟨lw_p46, List.forall_mem_cons.mpr ⟨lw_p47, fun _ h => absurd h List.not_mem_nil⟩⟩⟩⟩⟩⟩⟩⟩⟩⟩⟩⟩⟩⟩⟩⟩
theorem lw_p48 : lw_okq (⟨"NameReadersModel", "isGap", "(I)Z"⟩, 56) := ⟨⟨by decide +kernel, by decide +kernel⟩, List.mem_of_getElem? (i := 1067) (by decide +kernel), List.mem_of_getElem? (i := 1340) (by decide +kernel), List.mem_of_getElem? (i := 1341) (by decide +kernel)⟩
theorem lw_p49 : lw_okq (⟨"NameReadersModel", "goAll", "(I)V"⟩, 56) := ⟨⟨by decide +kernel, by decide +kernel⟩, List.mem_of_getElem? (i := 1067) (by decide +kernel), List.mem_of_getElem? (i := 1344) (by decide +kernel), List.mem_of_getElem? (i := 1345) (by decide +kernel)⟩
theorem lw_p50 : lw_okq (⟨"NameReadersModel", "layNames", "()V"⟩, 56) := ⟨⟨by decide +kernel, by decide +kernel⟩, List.mem_of_getElem? (i := 1067) (by decide +kernel), List.mem_of_getElem? (i := 1348) (by decide +kernel), List.mem_of_getElem? (i := 1349) (by decide +kernel)⟩
theorem lw_p51 : lw_okq (⟨"NameReadersModel", "idOf", "(I)I"⟩, 56) := ⟨⟨by decide +kernel, by decide +kernel⟩, List.mem_of_getElem? (i := 1067) (by decide +kernel), List.mem_of_getElem? (i := 1352) (by decide +kernel), List.mem_of_getElem? (i := 1353) (by decide +kernel)⟩
theorem lw_p52 : lw_okq (⟨"NameReadersModel", "beginList", "()V"⟩, 56) := ⟨⟨by decide +kernel, by decide +kernel⟩, List.mem_of_getElem? (i := 1067) (by decide +kernel), List.mem_of_getElem? (i := 1356) (by decide +kernel), List.mem_of_getElem? (i := 1357) (by decide +kernel)⟩
theorem lw_p53 : lw_okq (⟨"NameReadersModel", "goOn", "(IIII)V"⟩, 56) := ⟨⟨by decide +kernel, by decide +kernel⟩, List.mem_of_getElem? (i := 1067) (by decide +kernel), List.mem_of_getElem? (i := 1360) (by decide +kernel), List.mem_of_getElem? (i := 1361) (by decide +kernel)⟩
theorem lw_p54 : lw_okq (⟨"NameReadersModel", "can", "(IIII)Z"⟩, 56) := ⟨⟨by decide +kernel, by decide +kernel⟩, List.mem_of_getElem? (i := 1067) (by decide +kernel), List.mem_of_getElem? (i := 1364) (by decide +kernel), List.mem_of_getElem? (i := 1365) (by decide +kernel)⟩
theorem lw_p55 : lw_okq (⟨"NameReadersModel", "behind", "(III)I"⟩, 56) := ⟨⟨by decide +kernel, by decide +kernel⟩, List.mem_of_getElem? (i := 1067) (by decide +kernel), List.mem_of_getElem? (i := 1371) (by decide +kernel), List.mem_of_getElem? (i := 1372) (by decide +kernel)⟩
theorem lw_p56 : lw_okq (⟨"NameReadersModel", "takesList", "(II)Z"⟩, 56) := ⟨⟨by decide +kernel, by decide +kernel⟩, List.mem_of_getElem? (i := 1067) (by decide +kernel), List.mem_of_getElem? (i := 1375) (by decide +kernel), List.mem_of_getElem? (i := 1376) (by decide +kernel)⟩
theorem lw_p57 : lw_okq (⟨"NameReadersModel", "isTaken", "(II)Z"⟩, 56) := ⟨⟨by decide +kernel, by decide +kernel⟩, List.mem_of_getElem? (i := 1067) (by decide +kernel), List.mem_of_getElem? (i := 1379) (by decide +kernel), List.mem_of_getElem? (i := 1380) (by decide +kernel)⟩
theorem lw_p58 : lw_okq (⟨"NameReadersModel", "layGood", "(I)V"⟩, 56) := ⟨⟨by decide +kernel, by decide +kernel⟩, List.mem_of_getElem? (i := 1067) (by decide +kernel), List.mem_of_getElem? (i := 1396) (by decide +kernel), List.mem_of_getElem? (i := 1397) (by decide +kernel)⟩
theorem lw_p59 : lw_okq (⟨"NameReadersModel", "goShapes", "(IIII)I"⟩, 56) := ⟨⟨by decide +kernel, by decide +kernel⟩, List.mem_of_getElem? (i := 1067) (by decide +kernel), List.mem_of_getElem? (i := 1404) (by decide +kernel), List.mem_of_getElem? (i := 1405) (by decide +kernel)⟩
theorem lw_p60 : lw_okq (⟨"NameReadersModel", "beginPair", "(I)V"⟩, 56) := ⟨⟨by decide +kernel, by decide +kernel⟩, List.mem_of_getElem? (i := 1067) (by decide +kernel), List.mem_of_getElem? (i := 1408) (by decide +kernel), List.mem_of_getElem? (i := 1409) (by decide +kernel)⟩
theorem lw_p61 : lw_okq (⟨"NameReadersModel", "nextPair", "(II)Z"⟩, 56) := ⟨⟨by decide +kernel, by decide +kernel⟩, List.mem_of_getElem? (i := 1067) (by decide +kernel), List.mem_of_getElem? (i := 1412) (by decide +kernel), List.mem_of_getElem? (i := 1413) (by decide +kernel)⟩
theorem lw_p62 : lw_okq (⟨"NameReadersModel", "layKinds", "(I)V"⟩, 56) := ⟨⟨by decide +kernel, by decide +kernel⟩, List.mem_of_getElem? (i := 1067) (by decide +kernel), List.mem_of_getElem? (i := 1425) (by decide +kernel), List.mem_of_getElem? (i := 1426) (by decide +kernel)⟩
theorem lw_p63 : lw_okq (⟨"NameReadersModel", "canBy", "(III)Z"⟩, 56) := ⟨⟨by decide +kernel, by decide +kernel⟩, List.mem_of_getElem? (i := 1067) (by decide +kernel), List.mem_of_getElem? (i := 1439) (by decide +kernel), List.mem_of_getElem? (i := 1440) (by decide +kernel)⟩
def lw_privs_4 : List (MethodName × Nat) := [(⟨"NameReadersModel", "isGap", "(I)Z"⟩, 56), (⟨"NameReadersModel", "goAll", "(I)V"⟩, 56), (⟨"NameReadersModel", "layNames", "()V"⟩, 56), (⟨"NameReadersModel", "idOf", "(I)I"⟩, 56), (⟨"NameReadersModel", "beginList", "()V"⟩, 56), (⟨"NameReadersModel", "goOn", "(IIII)V"⟩, 56), (⟨"NameReadersModel", "can", "(IIII)Z"⟩, 56), (⟨"NameReadersModel", "behind", "(III)I"⟩, 56), (⟨"NameReadersModel", "takesList", "(II)Z"⟩, 56), (⟨"NameReadersModel", "isTaken", "(II)Z"⟩, 56), (⟨"NameReadersModel", "layGood", "(I)V"⟩, 56), (⟨"NameReadersModel", "goShapes", "(IIII)I"⟩, 56), (⟨"NameReadersModel", "beginPair", "(I)V"⟩, 56), (⟨"NameReadersModel", "nextPair", "(II)Z"⟩, 56), (⟨"NameReadersModel", "layKinds", "(I)V"⟩, 56), (⟨"NameReadersModel", "canBy", "(III)Z"⟩, 56)]
theorem lw_r4 : ∀ q ∈ lw_privs_4, lw_okq q := List.forall_mem_cons.mpr ⟨lw_p48, List.forall_mem_cons.mpr ⟨lw_p49, List.forall_mem_cons.mpr ⟨lw_p50, List.forall_mem_cons.mpr ⟨lw_p51, List.forall_mem_cons.mpr ⟨lw_p52, List.forall_mem_cons.mpr ⟨lw_p53, List.forall_mem_cons.mpr ⟨lw_p54, List.forall_mem_cons.mpr ⟨lw_p55, List.forall_mem_cons.mpr ⟨lw_p56, List.forall_mem_cons.mpr ⟨lw_p57, List.forall_mem_cons.mpr ⟨lw_p58, List.forall_mem_cons.mpr ⟨lw_p59, List.forall_mem_cons.mpr ⟨lw_p60, List.forall_mem_cons.mpr ⟨lw_p61, List.forall_mem_cons.mpr ⟨lw_p62, List.forall_mem_cons.mpr ⟨lw_p63, fun _ h => absurd h List.not_mem_nil⟩⟩⟩⟩⟩⟩⟩⟩⟩⟩⟩⟩⟩⟩⟩⟩
theorem lw_p64 : lw_okq (⟨"NameReadersModel", "kindBehind", "(III)I"⟩, 56) := ⟨⟨by decide +kernel, by decide +kernel⟩, List.mem_of_getElem? (i := 1067) (by decide +kernel), List.mem_of_getElem? (i := 1443) (by decide +kernel), List.mem_of_getElem? (i := 1444) (by decide +kernel)⟩
theorem lw_p65 : lw_okq (⟨"NameReadersModel", "goWide", "(IIII)V"⟩, 56) := ⟨⟨by decide +kernel, by decide +kernel⟩, List.mem_of_getElem? (i := 1067) (by decide +kernel), List.mem_of_getElem? (i := 1454) (by decide +kernel), List.mem_of_getElem? (i := 1455) (by decide +kernel)⟩
theorem lw_p66 : lw_okq (⟨"NameReadersModel", "addWide", "(I)V"⟩, 56) := ⟨⟨by decide +kernel, by decide +kernel⟩, List.mem_of_getElem? (i := 1067) (by decide +kernel), List.mem_of_getElem? (i := 1461) (by decide +kernel), List.mem_of_getElem? (i := 1462) (by decide +kernel)⟩
theorem lw_p67 : lw_okq (⟨"NameReadersModel", "meet", "(II)V"⟩, 56) := ⟨⟨by decide +kernel, by decide +kernel⟩, List.mem_of_getElem? (i := 1067) (by decide +kernel), List.mem_of_getElem? (i := 1477) (by decide +kernel), List.mem_of_getElem? (i := 1478) (by decide +kernel)⟩
theorem lw_p68 : lw_okq (⟨"NameReadersModel", "canHere", "(IIIII)Z"⟩, 56) := ⟨⟨by decide +kernel, by decide +kernel⟩, List.mem_of_getElem? (i := 1067) (by decide +kernel), List.mem_of_getElem? (i := 1486) (by decide +kernel), List.mem_of_getElem? (i := 1487) (by decide +kernel)⟩
theorem lw_p69 : lw_okq (⟨"NameReadersModel", "goBoth", "(IIII)V"⟩, 56) := ⟨⟨by decide +kernel, by decide +kernel⟩, List.mem_of_getElem? (i := 1067) (by decide +kernel), List.mem_of_getElem? (i := 1490) (by decide +kernel), List.mem_of_getElem? (i := 1491) (by decide +kernel)⟩
theorem lw_p70 : lw_okq (⟨"NameReadersModel", "together", "(II)I"⟩, 56) := ⟨⟨by decide +kernel, by decide +kernel⟩, List.mem_of_getElem? (i := 1067) (by decide +kernel), List.mem_of_getElem? (i := 1494) (by decide +kernel), List.mem_of_getElem? (i := 1495) (by decide +kernel)⟩
theorem lw_p71 : lw_okq (⟨"NameReadersModel", "parts", "(I)Z"⟩, 56) := ⟨⟨by decide +kernel, by decide +kernel⟩, List.mem_of_getElem? (i := 1067) (by decide +kernel), List.mem_of_getElem? (i := 1503) (by decide +kernel), List.mem_of_getElem? (i := 1504) (by decide +kernel)⟩
theorem lw_p72 : lw_okq (⟨"NameReadersModel", "takesOther", "(I)Z"⟩, 56) := ⟨⟨by decide +kernel, by decide +kernel⟩, List.mem_of_getElem? (i := 1067) (by decide +kernel), List.mem_of_getElem? (i := 1507) (by decide +kernel), List.mem_of_getElem? (i := 1508) (by decide +kernel)⟩
theorem lw_p73 : lw_okq (⟨"NameReadersModel", "goOther", "(III)V"⟩, 56) := ⟨⟨by decide +kernel, by decide +kernel⟩, List.mem_of_getElem? (i := 1067) (by decide +kernel), List.mem_of_getElem? (i := 1511) (by decide +kernel), List.mem_of_getElem? (i := 1512) (by decide +kernel)⟩
theorem lw_p74 : lw_okq (⟨"NameReadersModel", "goFill", "(IZ)I"⟩, 56) := ⟨⟨by decide +kernel, by decide +kernel⟩, List.mem_of_getElem? (i := 1067) (by decide +kernel), List.mem_of_getElem? (i := 1519) (by decide +kernel), List.mem_of_getElem? (i := 1520) (by decide +kernel)⟩
theorem lw_p75 : lw_okq (⟨"NameReadersModel", "freeBehind", "(I)I"⟩, 56) := ⟨⟨by decide +kernel, by decide +kernel⟩, List.mem_of_getElem? (i := 1067) (by decide +kernel), List.mem_of_getElem? (i := 1523) (by decide +kernel), List.mem_of_getElem? (i := 1524) (by decide +kernel)⟩
theorem lw_p76 : lw_okq (⟨"NameReadersModel", "nextFill", "(I)Z"⟩, 56) := ⟨⟨by decide +kernel, by decide +kernel⟩, List.mem_of_getElem? (i := 1067) (by decide +kernel), List.mem_of_getElem? (i := 1527) (by decide +kernel), List.mem_of_getElem? (i := 1528) (by decide +kernel)⟩
theorem lw_p77 : lw_okq (⟨"NameReadersModel", "nextName", "(II)I"⟩, 56) := ⟨⟨by decide +kernel, by decide +kernel⟩, List.mem_of_getElem? (i := 1067) (by decide +kernel), List.mem_of_getElem? (i := 1531) (by decide +kernel), List.mem_of_getElem? (i := 1532) (by decide +kernel)⟩
theorem lw_p78 : lw_okq (⟨"NameReadersModel", "idOfAny", "(I)I"⟩, 56) := ⟨⟨by decide +kernel, by decide +kernel⟩, List.mem_of_getElem? (i := 1067) (by decide +kernel), List.mem_of_getElem? (i := 1535) (by decide +kernel), List.mem_of_getElem? (i := 1536) (by decide +kernel)⟩
theorem lw_p79 : lw_okq (⟨"NameReadersModel", "mendFrom", "(III)V"⟩, 56) := ⟨⟨by decide +kernel, by decide +kernel⟩, List.mem_of_getElem? (i := 1067) (by decide +kernel), List.mem_of_getElem? (i := 1547) (by decide +kernel), List.mem_of_getElem? (i := 1548) (by decide +kernel)⟩
def lw_privs_5 : List (MethodName × Nat) := [(⟨"NameReadersModel", "kindBehind", "(III)I"⟩, 56), (⟨"NameReadersModel", "goWide", "(IIII)V"⟩, 56), (⟨"NameReadersModel", "addWide", "(I)V"⟩, 56), (⟨"NameReadersModel", "meet", "(II)V"⟩, 56), (⟨"NameReadersModel", "canHere", "(IIIII)Z"⟩, 56), (⟨"NameReadersModel", "goBoth", "(IIII)V"⟩, 56), (⟨"NameReadersModel", "together", "(II)I"⟩, 56), (⟨"NameReadersModel", "parts", "(I)Z"⟩, 56), (⟨"NameReadersModel", "takesOther", "(I)Z"⟩, 56), (⟨"NameReadersModel", "goOther", "(III)V"⟩, 56), (⟨"NameReadersModel", "goFill", "(IZ)I"⟩, 56), (⟨"NameReadersModel", "freeBehind", "(I)I"⟩, 56), (⟨"NameReadersModel", "nextFill", "(I)Z"⟩, 56), (⟨"NameReadersModel", "nextName", "(II)I"⟩, 56), (⟨"NameReadersModel", "idOfAny", "(I)I"⟩, 56), (⟨"NameReadersModel", "mendFrom", "(III)V"⟩, 56)]
theorem lw_r5 : ∀ q ∈ lw_privs_5, lw_okq q := List.forall_mem_cons.mpr ⟨lw_p64, List.forall_mem_cons.mpr ⟨lw_p65, List.forall_mem_cons.mpr ⟨lw_p66, List.forall_mem_cons.mpr ⟨lw_p67, List.forall_mem_cons.mpr ⟨lw_p68, List.forall_mem_cons.mpr ⟨lw_p69, List.forall_mem_cons.mpr ⟨lw_p70, List.forall_mem_cons.mpr ⟨lw_p71, List.forall_mem_cons.mpr ⟨lw_p72, List.forall_mem_cons.mpr ⟨lw_p73, List.forall_mem_cons.mpr ⟨lw_p74, List.forall_mem_cons.mpr ⟨lw_p75, List.forall_mem_cons.mpr ⟨lw_p76, List.forall_mem_cons.mpr ⟨lw_p77, List.forall_mem_cons.mpr ⟨lw_p78, List.forall_mem_cons.mpr ⟨lw_p79, fun _ h => absurd h List.not_mem_nil⟩⟩⟩⟩⟩⟩⟩⟩⟩⟩⟩⟩⟩⟩⟩⟩
def lw_privs : List (MethodName × Nat) := lw_privs_1 ++ (lw_privs_2 ++ (lw_privs_3 ++ (lw_privs_4 ++ (lw_privs_5))))
def lw_tbl : List Cond := k2_sels lw_privs ++ tables_1
theorem lw_privs_ok : ∀ q ∈ lw_privs, lw_okq q := by
  show ∀ q ∈ lw_privs_1 ++ (lw_privs_2 ++ (lw_privs_3 ++ (lw_privs_4 ++ (lw_privs_5)))), lw_okq q
  exact List.forall_mem_append.mpr ⟨lw_r1, List.forall_mem_append.mpr ⟨lw_r2, List.forall_mem_append.mpr ⟨lw_r3, List.forall_mem_append.mpr ⟨lw_r4, lw_r5⟩⟩⟩⟩
end
section
/-! THE ABSTRACT MACHINE: a method's code as blocks; values without addresses (a cell is its number); a pure heap.
    Its runs are carried to the machine's own in a later part; all reasoning of the two classes is done here. -/
abbrev AV : Type := Int32 ⊕ (Int64 ⊕ (Option Nat ⊕ Nat))
abbrev aI (x : Int32) : AV := .inl x
abbrev aL (x : Int64) : AV := .inr (.inl x)
abbrev aR (o : Option Nat) : AV := .inr (.inr (.inl o))
/-- the text constant n -/
abbrev aS (n : Nat) : AV := .inr (.inr (.inr (n + 1)))
/-- a local that is not known, or not needed any more -/
abbrev aU : AV := .inr (.inr (.inr 0))
/-- the cells' shapes (0 int[], 1 long[], 2 boolean[], 3 an array of objects, each with its length; 4 an object, with its class), and what they hold -/
abbrev AH : Type := List (Nat × Nat) × (Nat → Nat → Int32) × (Nat → Nat → Int64) × (Nat → Nat → Option Nat)
abbrev AR : Type := Option AV × AH
abbrev CI : Type := Instr × List Nat × Int
def zI (z : Int) : Int32 := Int32.ofInt z
def zL (z : Int) : Int64 := Int64.ofInt z
def hI (h : AH) (a j : Nat) : Int32 := h.2.1 a j
def hL (h : AH) (a j : Nat) : Int64 := h.2.2.1 a j
def hR (h : AH) (a j : Nat) : Option Nat := h.2.2.2 a j
def sI (h : AH) (a j : Nat) (x : Int32) : AH := (h.1, fun a' j' => if a' = a ∧ j' = j then x else h.2.1 a' j', h.2.2)
def sL (h : AH) (a j : Nat) (x : Int64) : AH := (h.1, h.2.1, fun a' j' => if a' = a ∧ j' = j then x else h.2.2.1 a' j', h.2.2.2)
def sR (h : AH) (a j : Nat) (x : Option Nat) : AH := (h.1, h.2.1, h.2.2.1, fun a' j' => if a' = a ∧ j' = j then x else h.2.2.2 a' j')
/-- a new cell: all that it holds is 0 or null -/
def nw (h : AH) (s : Nat × Nat) : AH := (h.1 ++ [s], fun a j => if a = h.1.length then 0 else h.2.1 a j, fun a j => if a = h.1.length then 0 else h.2.2.1 a j, fun a j => if a = h.1.length then none else h.2.2.2 a j)
/-- System.arraycopy between int arrays -/
def cpI (h : AH) (a b : Nat) (sp dp n : Nat) : AH := (h.1, fun a' j' => if a' = b then va_cpy (h.2.1 a) (h.2.1 b) sp dp n j' else h.2.1 a' j', h.2.2)
abbrev AK : Type := Nat → List AV → List AV → AH → Option AR
abbrev AC : Type := Nat → List AV → AH → Option AR
abbrev AT : Type := List AV → List AV → AH → Option AR
def popA : Nat → List AV → List AV → Option (List AV × List AV)
  | 0, acc, st => some (acc, st)
  | n + 1, acc, v :: st => popA n (v :: acc) st
  | _ + 1, _, [] => none
/-- what is behind a long that a store breaks -/
def clr (lv : List AV) : Nat → List AV
  | 0 => lv
  | j + 1 => match lv[j]? with
    | some (.inr (.inl _)) => lv.set j aU
    | _ => lv
def st1 (lv : List AV) (i : Nat) (v : AV) : List AV := (clr lv i).set i v
def st2 (lv : List AV) (i : Nat) (v : AV) : List AV := ((clr lv i).set i v).set (i + 1) aU
def msk : List Bool → List AV → List AV
  | true :: bs, v :: vs => v :: msk bs vs
  | false :: bs, _ :: vs => aU :: msk bs vs
  | [], _ :: vs => aU :: msk [] vs
  | _, [] => []
def ldI (lv : List AV) (n : Nat) (f : Int32 → Option AR) : Option AR := match lv[n]? with
  | some (.inl x) => f x
  | _ => none
def ldL (lv : List AV) (n : Nat) (f : Int64 → Option AR) : Option AR := match lv[n]? with
  | some (.inr (.inl x)) => f x
  | _ => none
def ldA (lv : List AV) (n : Nat) (f : AV → Option AR) : Option AR := match lv[n]? with
  | some (.inr (.inr (.inl o))) => f (aR o)
  | some (.inr (.inr (.inr (k + 1)))) => f (aS k)
  | _ => none
/-- the place i of an array of that kind -/
def idx (h : AH) (kd : Nat) (o : Option Nat) (i : Int32) (f : Nat → Nat → Option AR) : Option AR := match o with
  | none => none
  | some a => match h.1[a]? with
    | some (k, n) => if k = kd ∧ ¬ (i < 0 ∨ n ≤ i.toNatClampNeg) then f a i.toNatClampNeg else none
    | none => none
/-- an object of that class -/
def obj (h : AH) (ci : Nat) (o : Option Nat) (f : Nat → Option AR) : Option AR := match o with
  | none => none
  | some a => if h.1[a]? = some (4, ci) then f a else none
def ifz (cd : ClassFile.Cond) (x : Int32) (a b : Option AR) : Option AR := match cd with
  | .eq => if x = 0 then a else b
  | .ne => if x = 0 then b else a
  | .lt => if x < 0 then a else b
  | .ge => if x < 0 then b else a
  | .gt => if x ≤ 0 then b else a
  | .le => if x ≤ 0 then a else b
def ifc (cd : ClassFile.Cond) (x y : Int32) (a b : Option AR) : Option AR := match cd with
  | .eq => if x = y then a else b
  | .ne => if x = y then b else a
  | .lt => if x < y then a else b
  | .ge => if x < y then b else a
  | .gt => if x ≤ y then b else a
  | .le => if x ≤ y then a else b
/-- a field's kind: 0 int, 1 long, 2 a reference, 3 boolean -/
def gtf (h : AH) (a j : Nat) : Nat → Option AV
  | 0 => some (aI (hI h a j))
  | 1 => some (aL (hL h a j))
  | 2 => some (aR (hR h a j))
  | 3 => some (aI (hI h a j))
  | _ => none
def ptf (h : AH) (a j : Nat) : Nat → AV → Option AH
  | 0, .inl x => some (sI h a j x)
  | 1, .inr (.inl x) => some (sL h a j x)
  | 2, .inr (.inr (.inl o)) => some (sR h a j o)
  | 3, .inl x => if x = 0 ∨ x = 1 then some (sI h a j x) else none
  | _, _ => none
def cat1 : AV → Bool
  | .inr (.inl _) => false
  | .inr (.inr (.inr 0)) => false
  | _ => true
def p1I (st : List AV) (f : Int32 → List AV → Option AR) : Option AR := match st with
  | .inl x :: st => f x st
  | _ => none
def p1L (st : List AV) (f : Int64 → List AV → Option AR) : Option AR := match st with
  | .inr (.inl x) :: st => f x st
  | _ => none
def p1R (st : List AV) (f : Option Nat → List AV → Option AR) : Option AR := match st with
  | .inr (.inr (.inl o)) :: st => f o st
  | _ => none
def p1V (st : List AV) (f : AV → List AV → Option AR) : Option AR := match st with
  | v :: st => f v st
  | _ => none
def p2I (st : List AV) (f : Int32 → Int32 → List AV → Option AR) : Option AR := match st with
  | .inl y :: .inl x :: st => f x y st
  | _ => none
def p2L (st : List AV) (f : Int64 → Int64 → List AV → Option AR) : Option AR := match st with
  | .inr (.inl y) :: .inr (.inl x) :: st => f x y st
  | _ => none
def pLI (st : List AV) (f : Int64 → Int32 → List AV → Option AR) : Option AR := match st with
  | .inl y :: .inr (.inl x) :: st => f x y st
  | _ => none
def pRI (st : List AV) (f : Option Nat → Int32 → List AV → Option AR) : Option AR := match st with
  | .inl i :: .inr (.inr (.inl o)) :: st => f o i st
  | _ => none
def nil (st : List AV) (x : Option AR) : Option AR := match st with
  | [] => x
  | _ => none
def rs1 (rs : List Nat) (f : Nat → Option AR) : Option AR := match rs with
  | a :: _ => f a
  | _ => none
def rs2 (rs : List Nat) (f : Nat → Nat → Option AR) : Option AR := match rs with
  | a :: b :: _ => f a b
  | _ => none
def rs3 (rs : List Nat) (f : Nat → Nat → Nat → Option AR) : Option AR := match rs with
  | a :: b :: c :: _ => f a b c
  | _ => none
def rsL (rs : List Nat) (f : Nat → List Nat → Option AR) : Option AR := match rs with
  | a :: l => f a l
  | _ => none
def mb {α : Type} (o : Option α) (f : α → Option AR) : Option AR := match o with
  | some a => f a
  | none => none
/-- what a call gives back -/
def cal (o : Option AR) (st : List AV) (k : List AV → AH → Option AR) : Option AR := match o with
  | some (some v, h') => k (v :: st) h'
  | some (none, h') => k st h'
  | none => none
def pop (n : Nat) (st : List AV) (f : List AV → List AV → Option AR) : Option AR := match popA n [] st with
  | some (as, st) => f as st
  | none => none
/-- a call on an object, or on a text constant -/
def rcv (h : AH) (ci : Nat) (as : List AV) (x : Option AR) : Option AR := match as with
  | .inr (.inr (.inl o)) :: _ => obj h ci o fun _ => x
  | .inr (.inr (.inr (_ + 1))) :: _ => if ci = 100 then x else none
  | _ => none
def aln (h : AH) (a : Nat) : Option Nat := match h.1[a]? with
  | some (0, n) => some n
  | some (1, n) => some n
  | some (2, n) => some n
  | some (3, n) => some n
  | _ => none
/-- one instruction, and what comes behind it -/
def ev1 (C : AC) (K : AK) (lm : Nat → List Bool) (it : CI) (lv st : List AV) (h : AH) (k : AT) : Option AR :=
  match it.1 with
  | .iconst n => k lv (aI (zI n) :: st) h
  | .bipush n => k lv (aI (zI n) :: st) h
  | .sipush n => k lv (aI (zI n) :: st) h
  | .ldc _ => rs2 it.2.1 fun m n => if m = 0 then k lv (aI (zI it.2.2) :: st) h else k lv (aS n :: st) h
  | .ldc_w _ => k lv (aI (zI it.2.2) :: st) h
  | .ldc2_w _ => k lv (aL (zL it.2.2) :: st) h
  | .lconst n => k lv (aL (zL (n : Nat)) :: st) h
  | .aconst_null => k lv (aR none :: st) h
  | .iload n => ldI lv n fun x => k lv (aI x :: st) h
  | .iload_n n => ldI lv n fun x => k lv (aI x :: st) h
  | .lload n => ldL lv n fun x => k lv (aL x :: st) h
  | .lload_n n => ldL lv n fun x => k lv (aL x :: st) h
  | .aload n => ldA lv n fun x => k lv (x :: st) h
  | .aload_n n => ldA lv n fun x => k lv (x :: st) h
  | .istore n => p1I st fun x st => k (st1 lv n (aI x)) st h
  | .istore_n n => p1I st fun x st => k (st1 lv n (aI x)) st h
  | .lstore n => p1L st fun x st => k (st2 lv n (aL x)) st h
  | .lstore_n n => p1L st fun x st => k (st2 lv n (aL x)) st h
  | .astore n => p1R st fun o st => k (st1 lv n (aR o)) st h
  | .astore_n n => p1R st fun o st => k (st1 lv n (aR o)) st h
  | .iinc n z => ldI lv n fun x => k (st1 lv n (aI (x + zI z))) st h
  | .dup => p1V st fun v st => if cat1 v = true then k lv (v :: v :: st) h else none
  | .dup2 => pRI st fun o i st => k lv (aI i :: aR o :: aI i :: aR o :: st) h
  | .pop => p1V st fun v st => if cat1 v = true then k lv st h else none
  | .iadd => p2I st fun x y st => k lv (aI (x + y) :: st) h
  | .isub => p2I st fun x y st => k lv (aI (x - y) :: st) h
  | .imul => p2I st fun x y st => k lv (aI (x * y) :: st) h
  | .idiv => p2I st fun x y st => if y = 0 then none else k lv (aI (x / y) :: st) h
  | .irem => p2I st fun x y st => if y = 0 then none else k lv (aI (x - x / y * y) :: st) h
  | .ineg => p1I st fun x st => k lv (aI (-x) :: st) h
  | .iand => p2I st fun x y st => k lv (aI (x &&& y) :: st) h
  | .ior => p2I st fun x y st => k lv (aI (x ||| y) :: st) h
  | .ixor => p2I st fun x y st => k lv (aI (x ^^^ y) :: st) h
  | .ishl => p2I st fun x y st => k lv (aI (x <<< (y &&& 31)) :: st) h
  | .ishr => p2I st fun x y st => k lv (aI (x >>> (y &&& 31)) :: st) h
  | .iushr => p2I st fun x y st => k lv (aI ((x.toUInt32 >>> (y.toUInt32 &&& Int32.toUInt32 31)).toInt32) :: st) h
  | .ladd => p2L st fun x y st => k lv (aL (x + y) :: st) h
  | .lsub => p2L st fun x y st => k lv (aL (x - y) :: st) h
  | .lneg => p1L st fun x st => k lv (aL (-x) :: st) h
  | .land => p2L st fun x y st => k lv (aL (x &&& y) :: st) h
  | .lor => p2L st fun x y st => k lv (aL (x ||| y) :: st) h
  | .lxor => p2L st fun x y st => k lv (aL (x ^^^ y) :: st) h
  | .lshl => pLI st fun x y st => k lv (aL (x <<< (y.toInt64 &&& 63)) :: st) h
  | .lshr => pLI st fun x y st => k lv (aL (x >>> (y.toInt64 &&& 63)) :: st) h
  | .lushr => pLI st fun x y st => k lv (aL ((x.toUInt64 >>> (y.toInt64.toUInt64 &&& Int64.toUInt64 63)).toInt64) :: st) h
  | .lcmp => p2L st fun x y st => k lv (aI (lg_cmp x y) :: st) h
  | .i2l => p1I st fun x st => k lv (aL x.toInt64 :: st) h
  | .l2i => p1L st fun x st => k lv (aI x.toInt32 :: st) h
  | .getfield _ => rs3 it.2.1 fun ci j kd => p1R st fun o st => obj h ci o fun a => mb (gtf h a j kd) fun v => k lv (v :: st) h
  | .putfield _ => rs3 it.2.1 fun ci j kd => p1V st fun v st => p1R st fun o st => obj h ci o fun a => mb (ptf h a j kd v) fun h' => k lv st h'
  | .iaload => pRI st fun o i st => idx h 0 o i fun a j => k lv (aI (hI h a j) :: st) h
  | .laload => pRI st fun o i st => idx h 1 o i fun a j => k lv (aL (hL h a j) :: st) h
  | .baload => pRI st fun o i st => idx h 2 o i fun a j => k lv (aI (hI h a j) :: st) h
  | .aaload => pRI st fun o i st => idx h 3 o i fun a j => k lv (aR (hR h a j) :: st) h
  | .iastore => p1I st fun x st => pRI st fun o i st => idx h 0 o i fun a j => k lv st (sI h a j x)
  | .lastore => p1L st fun x st => pRI st fun o i st => idx h 1 o i fun a j => k lv st (sL h a j x)
  | .bastore => p1I st fun x st => pRI st fun o i st => if x = 0 ∨ x = 1 then idx h 2 o i fun a j => k lv st (sI h a j x) else none
  | .aastore => p1R st fun v st => pRI st fun o i st => obj h 7 v fun q => idx h 3 o i fun a j => k lv st (sR h a j (some q))
  | .arraylength => p1R st fun o st => mb o fun a => mb (aln h a) fun n => k lv (aI (nI n) :: st) h
  | .goto _ => rs1 it.2.1 fun t => K t (msk (lm t) lv) st h
  | .ifCond cd _ => rs2 it.2.1 fun t f => p1I st fun x st => ifz cd x (K t (msk (lm t) lv) st h) (K f (msk (lm f) lv) st h)
  | .if_icmp cd _ => rs2 it.2.1 fun t f => p2I st fun x y st => ifc cd x y (K t (msk (lm t) lv) st h) (K f (msk (lm f) lv) st h)
  | .ifnull _ => rs2 it.2.1 fun t f => p1R st fun o st => if o = none then K t (msk (lm t) lv) st h else K f (msk (lm f) lv) st h
  | .ifnonnull _ => rs2 it.2.1 fun t f => p1R st fun o st => if o = none then K f (msk (lm f) lv) st h else K t (msk (lm t) lv) st h
  | .tableswitch _ lo hi _ => rsL it.2.1 fun d ts => p1I st fun x st => if x.toInt < lo ∨ hi < x.toInt then K d (msk (lm d) lv) st h else mb (ts[(x.toInt - lo).toNat]?) fun t => K t (msk (lm t) lv) st h
  | .invokestatic _ => rs2 it.2.1 fun c n => pop n st fun as st => cal (C c as h) st (k lv)
  | .invokevirtual _ => rs3 it.2.1 fun c n ci => pop n st fun as st => rcv h ci as (cal (C c as h) st (k lv))
  | .invokespecial _ => rs3 it.2.1 fun c n ci => pop n st fun as st => rcv h ci as (if c = 0 then k lv st h else cal (C c as h) st (k lv))
  | .new _ => rs1 it.2.1 fun ci => k lv (aR (some h.1.length) :: st) (nw h (4, ci))
  | .newarray _ => rs1 it.2.1 fun kd => p1I st fun x st => if x < 0 then none else k lv (aR (some h.1.length) :: st) (nw h (kd, x.toNatClampNeg))
  | .anewarray _ => p1I st fun x st => if x < 0 then none else k lv (aR (some h.1.length) :: st) (nw h (3, x.toNatClampNeg))
  | .ireturn => rs1 it.2.1 fun z => p1I st fun x st => nil st (if z = 0 ∨ x = 0 ∨ x = 1 then some (some (aI x), h) else none)
  | .lreturn => p1L st fun x st => nil st (some (some (aL x), h))
  | .areturn => p1R st fun o st => nil st (some (some (aR o), h))
  | .return_ => nil st (some (none, h))
  | _ => none
end
section
/-! one instruction goes on with what is behind it, or jumps, or ends -/
def nx (C : AC) (lm : Nat → List Bool) (it : CI) (lv st : List AV) (h : AH) (K : AK) (k : AT) (r : AR) : Prop :=
  (∃ lv' st' h', k lv' st' h' = some r ∧ ∀ (K' : AK) (k' : AT), ev1 C K' lm it lv st h k' = k' lv' st' h') ∨
  (∃ t lv' st' h', K t lv' st' h' = some r ∧ ∀ (K' : AK) (k' : AT), ev1 C K' lm it lv st h k' = K' t lv' st' h') ∨
  (∀ (K' : AK) (k' : AT), ev1 C K' lm it lv st h k' = some r)
theorem p1I_s {st : List AV} {f : Int32 → List AV → Option AR} {r : AR} (h : p1I st f = some r) : ∃ x st', st = aI x :: st' ∧ f x st' = some r := by
  unfold p1I at h
  split at h
  · exact ⟨_, _, rfl, h⟩
  · cases h
theorem p1L_s {st : List AV} {f : Int64 → List AV → Option AR} {r : AR} (h : p1L st f = some r) : ∃ x st', st = aL x :: st' ∧ f x st' = some r := by
  unfold p1L at h
  split at h
  · exact ⟨_, _, rfl, h⟩
  · cases h
theorem p1R_s {st : List AV} {f : Option Nat → List AV → Option AR} {r : AR} (h : p1R st f = some r) : ∃ x st', st = aR x :: st' ∧ f x st' = some r := by
  unfold p1R at h
  split at h
  · exact ⟨_, _, rfl, h⟩
  · cases h
theorem p1V_s {st : List AV} {f : AV → List AV → Option AR} {r : AR} (h : p1V st f = some r) : ∃ x st', st = x :: st' ∧ f x st' = some r := by
  unfold p1V at h
  split at h
  · exact ⟨_, _, rfl, h⟩
  · cases h
theorem p2I_s {st : List AV} {f : Int32 → Int32 → List AV → Option AR} {r : AR} (h : p2I st f = some r) : ∃ x y st', st = aI y :: aI x :: st' ∧ f x y st' = some r := by
  unfold p2I at h
  split at h
  · exact ⟨_, _, _, rfl, h⟩
  · cases h
theorem p2L_s {st : List AV} {f : Int64 → Int64 → List AV → Option AR} {r : AR} (h : p2L st f = some r) : ∃ x y st', st = aL y :: aL x :: st' ∧ f x y st' = some r := by
  unfold p2L at h
  split at h
  · exact ⟨_, _, _, rfl, h⟩
  · cases h
theorem pLI_s {st : List AV} {f : Int64 → Int32 → List AV → Option AR} {r : AR} (h : pLI st f = some r) : ∃ x y st', st = aI y :: aL x :: st' ∧ f x y st' = some r := by
  unfold pLI at h
  split at h
  · exact ⟨_, _, _, rfl, h⟩
  · cases h
theorem pRI_s {st : List AV} {f : Option Nat → Int32 → List AV → Option AR} {r : AR} (h : pRI st f = some r) : ∃ o i st', st = aI i :: aR o :: st' ∧ f o i st' = some r := by
  unfold pRI at h
  split at h
  · exact ⟨_, _, _, rfl, h⟩
  · cases h
theorem nil_s {st : List AV} {x : Option AR} {r : AR} (h : nil st x = some r) : st = [] ∧ x = some r := by
  unfold nil at h
  split at h
  · exact ⟨rfl, h⟩
  · cases h
theorem rs1_s {rs : List Nat} {f : Nat → Option AR} {r : AR} (h : rs1 rs f = some r) : ∃ a l, rs = a :: l ∧ f a = some r := by
  unfold rs1 at h
  split at h
  · exact ⟨_, _, rfl, h⟩
  · cases h
theorem rsL_s {rs : List Nat} {f : Nat → List Nat → Option AR} {r : AR} (h : rsL rs f = some r) : ∃ a l, rs = a :: l ∧ f a l = some r := by
  unfold rsL at h
  split at h
  · exact ⟨_, _, rfl, h⟩
  · cases h
theorem rs2_s {rs : List Nat} {f : Nat → Nat → Option AR} {r : AR} (h : rs2 rs f = some r) : ∃ a b l, rs = a :: b :: l ∧ f a b = some r := by
  unfold rs2 at h
  split at h
  · exact ⟨_, _, _, rfl, h⟩
  · cases h
theorem rs3_s {rs : List Nat} {f : Nat → Nat → Nat → Option AR} {r : AR} (h : rs3 rs f = some r) : ∃ a b c l, rs = a :: b :: c :: l ∧ f a b c = some r := by
  unfold rs3 at h
  split at h
  · exact ⟨_, _, _, _, rfl, h⟩
  · cases h
theorem ldI_s {lv : List AV} {n : Nat} {f : Int32 → Option AR} {r : AR} (h : ldI lv n f = some r) : ∃ x, lv[n]? = some (aI x) ∧ f x = some r := by
  unfold ldI at h
  split at h
  · exact ⟨_, by assumption, h⟩
  · cases h
theorem ldL_s {lv : List AV} {n : Nat} {f : Int64 → Option AR} {r : AR} (h : ldL lv n f = some r) : ∃ x, lv[n]? = some (aL x) ∧ f x = some r := by
  unfold ldL at h
  split at h
  · exact ⟨_, by assumption, h⟩
  · cases h
theorem ldA_s {lv : List AV} {n : Nat} {f : AV → Option AR} {r : AR} (h : ldA lv n f = some r) : ∃ x, ((∃ o, x = aR o) ∨ ∃ q, x = aS q) ∧ lv[n]? = some x ∧ f x = some r := by
  unfold ldA at h
  split at h
  · exact ⟨_, Or.inl ⟨_, rfl⟩, by assumption, h⟩
  · exact ⟨_, Or.inr ⟨_, rfl⟩, by assumption, h⟩
  · cases h
theorem idx_s {h : AH} {kd : Nat} {o : Option Nat} {i : Int32} {f : Nat → Nat → Option AR} {r : AR} (hh : idx h kd o i f = some r) : ∃ a n, o = some a ∧ h.1[a]? = some (kd, n) ∧ vp_in i n ∧ f a i.toNatClampNeg = some r := by
  unfold idx at hh
  split at hh
  · cases hh
  · rename_i a
    split at hh
    · rename_i k n e
      split at hh
      · rename_i q
        exact ⟨a, n, rfl, by rw [e, q.1], q.2, hh⟩
      · cases hh
    · cases hh
theorem obj_s {h : AH} {ci : Nat} {o : Option Nat} {f : Nat → Option AR} {r : AR} (hh : obj h ci o f = some r) : ∃ a, o = some a ∧ h.1[a]? = some (4, ci) ∧ f a = some r := by
  unfold obj at hh
  split at hh
  · cases hh
  · rename_i a
    split at hh
    · rename_i q
      exact ⟨a, rfl, q, hh⟩
    · cases hh
theorem pop_s {n : Nat} {st : List AV} {f : List AV → List AV → Option AR} {r : AR} (h : pop n st f = some r) : ∃ as st', popA n [] st = some (as, st') ∧ f as st' = some r := by
  unfold pop at h
  split at h
  · exact ⟨_, _, by assumption, h⟩
  · cases h
theorem cal_s {o : Option AR} {st : List AV} {k : List AV → AH → Option AR} {r : AR} (h : cal o st k = some r) : ∃ v h', o = some (v, h') ∧ k (v.toList ++ st) h' = some r := by
  unfold cal at h
  split at h
  · exact ⟨some _, _, rfl, h⟩
  · exact ⟨none, _, rfl, h⟩
  · cases h
theorem rcv_s {h : AH} {ci : Nat} {as : List AV} {x : Option AR} {r : AR} (hh : rcv h ci as x = some r) : ((∃ a as', as = aR (some a) :: as' ∧ h.1[a]? = some (4, ci)) ∨ ∃ q as', as = aS q :: as' ∧ ci = 100) ∧ x = some r := by
  unfold rcv at hh
  split at hh
  · obtain ⟨a, rfl, e, e2⟩ := obj_s hh
    exact ⟨Or.inl ⟨a, _, rfl, e⟩, e2⟩
  · split at hh
    · exact ⟨Or.inr ⟨_, _, rfl, by assumption⟩, hh⟩
    · cases hh
  · cases hh
theorem if_s {c : Prop} {_ : Decidable c} {a : Option AR} {r : AR} (h : (if c then a else none) = some r) : c ∧ a = some r := by
  split at h
  · exact ⟨by assumption, h⟩
  · cases h
theorem if_n {c : Prop} {_ : Decidable c} {a : Option AR} {r : AR} (h : (if c then none else a) = some r) : ¬ c ∧ a = some r := by
  split at h
  · cases h
  · exact ⟨by assumption, h⟩
theorem mb_s {α : Type} {o : Option α} {f : α → Option AR} {r : AR} (h : mb o f = some r) : ∃ v, o = some v ∧ f v = some r := by
  unfold mb at h
  split at h
  · exact ⟨_, rfl, h⟩
  · cases h
theorem mb_e {α : Type} {o : Option α} {v : α} (e : o = some v) (f : α → Option AR) : mb o f = f v := by rw [e]; rfl
theorem if_c {c : Prop} {_ : Decidable c} {a b : Option AR} {r : AR} (h : (if c then a else b) = some r) : (c ∧ a = some r) ∨ (¬ c ∧ b = some r) := by
  split at h
  · exact Or.inl ⟨by assumption, h⟩
  · exact Or.inr ⟨by assumption, h⟩
theorem ifz_s {cd : ClassFile.Cond} {x : Int32} {r : AR} {a b : Option AR} (h : ifz cd x a b = some r) : (a = some r ∧ ∀ a' b', ifz cd x a' b' = a') ∨ (b = some r ∧ ∀ a' b', ifz cd x a' b' = b') := by
  cases cd <;> rcases if_c h with ⟨q, e⟩ | ⟨q, e⟩ <;> first | exact Or.inl ⟨e, fun a' b' => if_pos q⟩ | exact Or.inl ⟨e, fun a' b' => if_neg q⟩ | exact Or.inr ⟨e, fun a' b' => if_pos q⟩ | exact Or.inr ⟨e, fun a' b' => if_neg q⟩
theorem ifc_s {cd : ClassFile.Cond} {x y : Int32} {r : AR} {a b : Option AR} (h : ifc cd x y a b = some r) : (a = some r ∧ ∀ a' b', ifc cd x y a' b' = a') ∨ (b = some r ∧ ∀ a' b', ifc cd x y a' b' = b') := by
  cases cd <;> rcases if_c h with ⟨q, e⟩ | ⟨q, e⟩ <;> first | exact Or.inl ⟨e, fun a' b' => if_pos q⟩ | exact Or.inl ⟨e, fun a' b' => if_neg q⟩ | exact Or.inr ⟨e, fun a' b' => if_pos q⟩ | exact Or.inr ⟨e, fun a' b' => if_neg q⟩
theorem ldI_e {lv : List AV} {n : Nat} {x : Int32} (e : lv[n]? = some (aI x)) (f : Int32 → Option AR) : ldI lv n f = f x := by unfold ldI; rw [e]
theorem ldL_e {lv : List AV} {n : Nat} {x : Int64} (e : lv[n]? = some (aL x)) (f : Int64 → Option AR) : ldL lv n f = f x := by unfold ldL; rw [e]
theorem ldA_e {lv : List AV} {n : Nat} {x : AV} (hx : (∃ o, x = aR o) ∨ ∃ q, x = aS q) (e : lv[n]? = some x) (f : AV → Option AR) : ldA lv n f = f x := by
  unfold ldA; rw [e]; rcases hx with ⟨o, rfl⟩ | ⟨q, rfl⟩ <;> rfl
theorem idx_e {h : AH} {kd a n : Nat} {i : Int32} (e : h.1[a]? = some (kd, n)) (hi : vp_in i n) (f : Nat → Nat → Option AR) : idx h kd (some a) i f = f a i.toNatClampNeg := by
  show (match h.1[a]? with | some (k, n) => if k = kd ∧ ¬ (i < 0 ∨ n ≤ i.toNatClampNeg) then f a i.toNatClampNeg else none | none => none) = _
  rw [e]
  exact if_pos ⟨rfl, hi⟩
theorem obj_e {h : AH} {ci a : Nat} (e : h.1[a]? = some (4, ci)) (f : Nat → Option AR) : obj h ci (some a) f = f a := if_pos e
theorem pop_e {n : Nat} {st as st' : List AV} (e : popA n [] st = some (as, st')) (f : List AV → List AV → Option AR) : pop n st f = f as st' := by unfold pop; rw [e]
theorem rcv_e {h : AH} {ci : Nat} {as : List AV} (e : (∃ a as', as = aR (some a) :: as' ∧ h.1[a]? = some (4, ci)) ∨ ∃ q as', as = aS q :: as' ∧ ci = 100) (x : Option AR) : rcv h ci as x = x := by
  rcases e with ⟨a, as', rfl, e⟩ | ⟨q, as', rfl, e⟩
  · exact if_pos e
  · exact if_pos e
theorem cal_e {o : Option AR} {st : List AV} {v : Option AV} {h' : AH} (e : o = some (v, h')) (k : List AV → AH → Option AR) : cal o st k = k (v.toList ++ st) h' := by
  rw [e]; cases v <;> rfl
set_option maxHeartbeats 4000000 in
theorem ev1_nx (C : AC) (lm : Nat → List Bool) (it : CI) (lv st : List AV) (h : AH) (K : AK) (k : AT) (r : AR) (hr : ev1 C K lm it lv st h k = some r) : nx C lm it lv st h K k r := by
  obtain ⟨i, rs, z⟩ := it
  unfold nx
  cases i
  all_goals first
    | exact Or.inl ⟨_, _, _, hr, fun _ _ => rfl⟩
    | cases hr
    | (obtain ⟨x, st, rfl, h1⟩ := p1I_s hr; exact Or.inl ⟨_, _, _, h1, fun _ _ => rfl⟩)
    | (obtain ⟨x, st, rfl, h1⟩ := p1L_s hr; exact Or.inl ⟨_, _, _, h1, fun _ _ => rfl⟩)
    | (obtain ⟨x, st, rfl, h1⟩ := p1R_s hr; exact Or.inl ⟨_, _, _, h1, fun _ _ => rfl⟩)
    | (obtain ⟨x, y, st, rfl, h1⟩ := p2I_s hr; exact Or.inl ⟨_, _, _, h1, fun _ _ => rfl⟩)
    | (obtain ⟨x, y, st, rfl, h1⟩ := p2L_s hr; exact Or.inl ⟨_, _, _, h1, fun _ _ => rfl⟩)
    | (obtain ⟨x, y, st, rfl, h1⟩ := pLI_s hr; exact Or.inl ⟨_, _, _, h1, fun _ _ => rfl⟩)
    | (obtain ⟨x, y, st, rfl, h1⟩ := pRI_s hr; exact Or.inl ⟨_, _, _, h1, fun _ _ => rfl⟩)
    | (obtain ⟨x, e, h1⟩ := ldI_s hr; exact Or.inl ⟨_, _, _, h1, fun _ _ => ldI_e e _⟩)
    | (obtain ⟨x, e, h1⟩ := ldL_s hr; exact Or.inl ⟨_, _, _, h1, fun _ _ => ldL_e e _⟩)
    | (obtain ⟨x, hx, e, h1⟩ := ldA_s hr; exact Or.inl ⟨_, _, _, h1, fun _ _ => ldA_e hx e _⟩)
    | (obtain ⟨v, st, rfl, h1⟩ := p1V_s hr; obtain ⟨q, h2⟩ := if_s h1; exact Or.inl ⟨_, _, _, h2, fun _ _ => if_pos q⟩)
    | (obtain ⟨x, y, st, rfl, h1⟩ := p2I_s hr; obtain ⟨q, h2⟩ := if_n h1; exact Or.inl ⟨_, _, _, h2, fun _ _ => if_neg q⟩)
    | (obtain ⟨o, i, st, rfl, h1⟩ := pRI_s hr; obtain ⟨a, n, rfl, e, hi, h2⟩ := idx_s h1; exact Or.inl ⟨_, _, _, h2, fun _ _ => by simp only [ev1, rs1, rs2, rs3, rsL, p1I, p1L, p1R, p1V, p2I, p2L, pLI, pRI, idx_e e hi]⟩)
    | (obtain ⟨x, st, rfl, h1⟩ := p1I_s hr; obtain ⟨o, i, st, rfl, h2⟩ := pRI_s h1; obtain ⟨a, n, rfl, e, hi, h3⟩ := idx_s h2; exact Or.inl ⟨_, _, _, h3, fun _ _ => by simp only [ev1, rs1, rs2, rs3, rsL, p1I, p1L, p1R, p1V, p2I, p2L, pLI, pRI, idx_e e hi]⟩)
    | (obtain ⟨x, st, rfl, h1⟩ := p1L_s hr; obtain ⟨o, i, st, rfl, h2⟩ := pRI_s h1; obtain ⟨a, n, rfl, e, hi, h3⟩ := idx_s h2; exact Or.inl ⟨_, _, _, h3, fun _ _ => by simp only [ev1, rs1, rs2, rs3, rsL, p1I, p1L, p1R, p1V, p2I, p2L, pLI, pRI, idx_e e hi]⟩)
    | (obtain ⟨x, st, rfl, h1⟩ := p1I_s hr; obtain ⟨o, i, st, rfl, h2⟩ := pRI_s h1; obtain ⟨q, h3⟩ := if_s h2; obtain ⟨a, n, rfl, e, hi, h4⟩ := idx_s h3; exact Or.inl ⟨_, _, _, h4, fun _ _ => by simp only [ev1, rs1, rs2, rs3, rsL, p1I, p1L, p1R, p1V, p2I, p2L, pLI, pRI, if_pos q, idx_e e hi]⟩)
    | (obtain ⟨v, st, rfl, h1⟩ := p1R_s hr; obtain ⟨o, i, st, rfl, h2⟩ := pRI_s h1; obtain ⟨b, rfl, e2, h3⟩ := obj_s h2; obtain ⟨a, n, rfl, e, hi, h4⟩ := idx_s h3; exact Or.inl ⟨_, _, _, h4, fun _ _ => by simp only [ev1, rs1, rs2, rs3, rsL, p1I, p1L, p1R, p1V, p2I, p2L, pLI, pRI, obj_e e2, idx_e e hi]⟩)
    | (obtain ⟨a, l, rfl, h1⟩ := rs1_s hr; exact Or.inr (Or.inl ⟨_, _, _, _, h1, fun _ _ => rfl⟩))
    | (obtain ⟨a, l, rfl, h1⟩ := rs1_s hr; exact Or.inl ⟨_, _, _, h1, fun _ _ => rfl⟩)
    | (obtain ⟨a, l, rfl, h1⟩ := rs1_s hr; obtain ⟨x, st, rfl, h2⟩ := p1I_s h1; obtain ⟨q, h3⟩ := if_n h2; exact Or.inl ⟨_, _, _, h3, fun _ _ => if_neg q⟩)
    | (obtain ⟨x, st, rfl, h1⟩ := p1I_s hr; obtain ⟨q, h2⟩ := if_n h1; exact Or.inl ⟨_, _, _, h2, fun _ _ => if_neg q⟩)
    | (obtain ⟨x, st, rfl, h1⟩ := p1L_s hr; obtain ⟨rfl, h2⟩ := nil_s h1; exact Or.inr (Or.inr fun _ _ => h2))
    | (obtain ⟨x, st, rfl, h1⟩ := p1R_s hr; obtain ⟨rfl, h2⟩ := nil_s h1; exact Or.inr (Or.inr fun _ _ => h2))
    | (obtain ⟨rfl, h1⟩ := nil_s hr; exact Or.inr (Or.inr fun _ _ => h1))
    | (obtain ⟨a, l, rfl, h1⟩ := rs1_s hr; obtain ⟨x, st, rfl, h2⟩ := p1I_s h1; obtain ⟨rfl, h3⟩ := nil_s h2; exact Or.inr (Or.inr fun _ _ => h3))
    | (obtain ⟨a, b, l, rfl, h1⟩ := rs2_s hr; rcases if_c h1 with ⟨q, h2⟩ | ⟨q, h2⟩; exact Or.inl ⟨_, _, _, h2, fun _ _ => if_pos q⟩; exact Or.inl ⟨_, _, _, h2, fun _ _ => if_neg q⟩)
    | (obtain ⟨a, b, l, rfl, h1⟩ := rs2_s hr; obtain ⟨x, st, rfl, h2⟩ := p1I_s h1; rcases ifz_s h2 with ⟨h3, q⟩ | ⟨h3, q⟩ <;> exact Or.inr (Or.inl ⟨_, _, _, _, h3, fun _ _ => q _ _⟩))
    | (obtain ⟨a, b, l, rfl, h1⟩ := rs2_s hr; obtain ⟨x, y, st, rfl, h2⟩ := p2I_s h1; rcases ifc_s h2 with ⟨h3, q⟩ | ⟨h3, q⟩ <;> exact Or.inr (Or.inl ⟨_, _, _, _, h3, fun _ _ => q _ _⟩))
    | (obtain ⟨a, b, l, rfl, h1⟩ := rs2_s hr; obtain ⟨o, st, rfl, h2⟩ := p1R_s h1; rcases if_c h2 with ⟨q, h3⟩ | ⟨q, h3⟩; exact Or.inr (Or.inl ⟨_, _, _, _, h3, fun _ _ => if_pos q⟩); exact Or.inr (Or.inl ⟨_, _, _, _, h3, fun _ _ => if_neg q⟩))
    | (obtain ⟨c, n, l, rfl, h1⟩ := rs2_s hr; obtain ⟨as, st', e, h2⟩ := pop_s h1; obtain ⟨v, h', e2, h3⟩ := cal_s h2; exact Or.inl ⟨_, _, _, h3, fun _ _ => by simp only [ev1, rs1, rs2, rs3, rsL, p1I, p1L, p1R, p1V, p2I, p2L, pLI, pRI, pop_e e, cal_e e2]⟩)
    | (obtain ⟨c, n, ci, l, rfl, h1⟩ := rs3_s hr; obtain ⟨as, st', e, h2⟩ := pop_s h1; obtain ⟨e3, h3⟩ := rcv_s h2; obtain ⟨v, h', e2, h4⟩ := cal_s h3; exact Or.inl ⟨_, _, _, h4, fun _ _ => by simp only [ev1, rs1, rs2, rs3, rsL, p1I, p1L, p1R, p1V, p2I, p2L, pLI, pRI, pop_e e, rcv_e e3, cal_e e2]⟩)
    | (obtain ⟨c, n, ci, l, rfl, h1⟩ := rs3_s hr; obtain ⟨as, st', e, h2⟩ := pop_s h1; obtain ⟨e3, h3⟩ := rcv_s h2; rcases if_c h3 with ⟨q, h4⟩ | ⟨q, h4⟩; exact Or.inl ⟨_, _, _, h4, fun _ _ => by simp only [ev1, rs1, rs2, rs3, rsL, p1I, p1L, p1R, p1V, p2I, p2L, pLI, pRI, pop_e e, rcv_e e3, if_pos q]⟩; obtain ⟨v, h', e2, h5⟩ := cal_s h4; exact Or.inl ⟨_, _, _, h5, fun _ _ => by simp only [ev1, rs1, rs2, rs3, rsL, p1I, p1L, p1R, p1V, p2I, p2L, pLI, pRI, pop_e e, rcv_e e3, if_neg q, cal_e e2]⟩)
    | skip
  case aload =>
    simp only [ev1] at hr
    obtain ⟨x, hx, e, g1⟩ := ldA_s hr
    exact Or.inl ⟨_, _, _, g1, fun _ _ => by simp only [ev1, ldA_e hx e]⟩
  case aload_n =>
    simp only [ev1] at hr
    obtain ⟨x, hx, e, g1⟩ := ldA_s hr
    exact Or.inl ⟨_, _, _, g1, fun _ _ => by simp only [ev1, ldA_e hx e]⟩
  case getfield =>
    obtain ⟨ci, j, kd, l, rfl, g1⟩ := rs3_s hr
    obtain ⟨o, st, rfl, g2⟩ := p1R_s g1
    obtain ⟨a, rfl, e, g3⟩ := obj_s g2
    obtain ⟨v, e2, g4⟩ := mb_s g3
    exact Or.inl ⟨_, _, _, g4, fun _ _ => by simp only [ev1, rs1, rs2, rs3, rsL, p1I, p1L, p1R, p1V, p2I, p2L, pLI, pRI, obj_e e, mb_e e2]⟩
  case putfield =>
    obtain ⟨ci, j, kd, l, rfl, g1⟩ := rs3_s hr
    obtain ⟨v, st, rfl, g2⟩ := p1V_s g1
    obtain ⟨o, st, rfl, g3⟩ := p1R_s g2
    obtain ⟨a, rfl, e, g4⟩ := obj_s g3
    obtain ⟨h', e2, g5⟩ := mb_s g4
    exact Or.inl ⟨_, _, _, g5, fun _ _ => by simp only [ev1, rs1, rs2, rs3, rsL, p1I, p1L, p1R, p1V, p2I, p2L, pLI, pRI, obj_e e, mb_e e2]⟩
  case arraylength =>
    obtain ⟨o, st, rfl, g1⟩ := p1R_s hr
    obtain ⟨a, rfl, g2⟩ := mb_s g1
    obtain ⟨n, e2, g3⟩ := mb_s g2
    exact Or.inl ⟨_, _, _, g3, fun _ _ => by simp only [ev1, rs1, rs2, rs3, rsL, p1I, p1L, p1R, p1V, p2I, p2L, pLI, pRI, mb_e rfl, mb_e e2]⟩
  case tableswitch d lo hi offs =>
    obtain ⟨d, ts, rfl, g1⟩ := rsL_s hr
    obtain ⟨x, st, rfl, g2⟩ := p1I_s g1
    rcases if_c g2 with ⟨q, g3⟩ | ⟨q, g3⟩
    · exact Or.inr (Or.inl ⟨_, _, _, _, g3, fun _ _ => if_pos q⟩)
    · obtain ⟨t, e2, g4⟩ := mb_s g3
      exact Or.inr (Or.inl ⟨_, _, _, _, g4, fun _ _ => by simp only [ev1, rs1, rs2, rs3, rsL, p1I, p1L, p1R, p1V, p2I, p2L, pLI, pRI, if_neg q, mb_e e2]⟩)
/-! a block, a method, a call -/
def evL (C : AC) (K : AK) (lm : Nat → List Bool) (nt : Nat) : List CI → AT
  | [] => fun lv st h => K nt (msk (lm nt) lv) st h
  | i :: is => fun lv st h => ev1 C K lm i lv st h (evL C K lm nt is)
/-- a block: the next one, the instructions -/
abbrev BT : Type := Nat → Nat × List CI
def rn (B : BT) (lm : Nat → List Bool) (C : AC) : Nat → AK
  | 0 => fun _ _ _ _ => none
  | n + 1 => fun b lv st h => evL C (rn B lm C n) lm (B b).1 (B b).2 lv st h
theorem evL_up {C : AC} {K K' : AK} {lm : Nat → List Bool} {nt : Nat} (hK : ∀ t lv st h r, K t lv st h = some r → K' t lv st h = some r) :
    ∀ (is : List CI) (lv st : List AV) (h : AH) (r : AR), evL C K lm nt is lv st h = some r → evL C K' lm nt is lv st h = some r
  | [], lv, st, h, r, e => hK _ _ _ _ _ e
  | i :: is, lv, st, h, r, e => by
    rcases ev1_nx C lm i lv st h K _ r e with ⟨lv', st', h', e1, e2⟩ | ⟨t, lv', st', h', e1, e2⟩ | e2
    · exact (e2 K' _).trans (evL_up hK is _ _ _ _ e1)
    · exact (e2 K' _).trans (hK _ _ _ _ _ e1)
    · exact e2 K' _
theorem rn_up {B : BT} {lm : Nat → List Bool} {C : AC} : ∀ (n : Nat) (t : Nat) (lv st : List AV) (h : AH) (r : AR), rn B lm C n t lv st h = some r → rn B lm C (n + 1) t lv st h = some r
  | 0, t, lv, st, h, r, e => by cases e
  | n + 1, t, lv, st, h, r, e => evL_up (fun t lv st h r => rn_up n t lv st h r) _ _ _ _ _ e
theorem rn_le {B : BT} {lm : Nat → List Bool} {C : AC} {n : Nat} {t : Nat} {lv st : List AV} {h : AH} {r : AR} (e : rn B lm C n t lv st h = some r) : ∀ m, rn B lm C (n + m) t lv st h = some r
  | 0 => e
  | m + 1 => rn_up (n + m) _ _ _ _ _ (rn_le e m)
noncomputable def Rk (B : BT) (lm : Nat → List Bool) (C : AC) : AK := fun t lv st h =>
  @dite _ (∃ n r, rn B lm C n t lv st h = some r) (Classical.propDecidable _) (fun hh => rn B lm C (Classical.choose hh) t lv st h) (fun _ => none)
theorem Rk_some {B : BT} {lm : Nat → List Bool} {C : AC} {t : Nat} {lv st : List AV} {h : AH} {r : AR} : Rk B lm C t lv st h = some r ↔ ∃ n, rn B lm C n t lv st h = some r := by
  constructor
  · intro e
    unfold Rk at e
    split at e
    · exact ⟨_, e⟩
    · cases e
  · intro ⟨n, e⟩
    have hh : ∃ n r, rn B lm C n t lv st h = some r := ⟨n, r, e⟩
    unfold Rk
    rw [dif_pos hh]
    obtain ⟨r', e'⟩ := Classical.choose_spec hh
    have a1 := rn_le e' n
    have a2 := rn_le e (Classical.choose hh)
    rw [Nat.add_comm] at a2
    rw [e', ← a1, a2]
theorem evL_lim {B : BT} {lm : Nat → List Bool} {C : AC} {nt : Nat} : ∀ (is : List CI) (lv st : List AV) (h : AH) (r : AR), evL C (Rk B lm C) lm nt is lv st h = some r → ∃ n, evL C (rn B lm C n) lm nt is lv st h = some r
  | [], lv, st, h, r, e => Rk_some.mp e
  | i :: is, lv, st, h, r, e => by
    rcases ev1_nx C lm i lv st h (Rk B lm C) _ r e with ⟨lv', st', h', e1, e2⟩ | ⟨t, lv', st', h', e1, e2⟩ | e2
    · obtain ⟨n, e3⟩ := evL_lim is _ _ _ _ e1
      exact ⟨n, (e2 _ _).trans e3⟩
    · obtain ⟨n, e3⟩ := Rk_some.mp e1
      exact ⟨n, (e2 _ _).trans e3⟩
    · exact ⟨0, e2 _ _⟩
/-- a block's equation -/
theorem Rk_eq {B : BT} {lm : Nat → List Bool} {C : AC} (t : Nat) (lv st : List AV) (h : AH) : Rk B lm C t lv st h = evL C (Rk B lm C) lm (B t).1 (B t).2 lv st h := by
  have up : ∀ r, Rk B lm C t lv st h = some r ↔ evL C (Rk B lm C) lm (B t).1 (B t).2 lv st h = some r := by
    intro r
    constructor
    · intro e
      obtain ⟨n, e⟩ := Rk_some.mp e
      cases n with
      | zero => cases e
      | succ n => exact evL_up (fun t lv st h r e => Rk_some.mpr ⟨n, e⟩) _ _ _ _ _ e
    · intro e
      obtain ⟨n, e⟩ := evL_lim _ _ _ _ _ e
      exact Rk_some.mpr ⟨n + 1, e⟩
  cases e : evL C (Rk B lm C) lm (B t).1 (B t).2 lv st h with
  | some r => exact (up r).mpr e
  | none =>
    cases e2 : Rk B lm C t lv st h with
    | none => rfl
    | some r => rw [(up r).mp e2] at e; cases e
end
section
/-! THE CODE of both classes, as blocks: printed by a program out of the listing; checked against the bytes in a later part -/
abbrev KE : Type := MethodName × ByteArray × Nat × Option FieldType × BT × (Nat → List Bool) × List Nat × List Nat
def TX : List (List Nat) := [[59], [107, 101, 101, 112], [116, 111], [97], [98], [99], [110, 101, 119], [97, 110, 121], [105, 115]]
abbrev k_J_bitI : Nat := 4
abbrev k_J_bitL : Nat := 5
abbrev k_J_max : Nat := 6
abbrev k_J_minL : Nat := 7
abbrev k_Fl_init : Nat := 8
abbrev k_Fl_pairAt : Nat := 9
abbrev k_Fl_search : Nat := 10
abbrev k_Fl_tellNames : Nat := 11
abbrev k_Fl_fillFrom : Nat := 12
abbrev k_Fl_mayHave : Nat := 13
abbrev k_Fl_fillOne : Nat := 14
abbrev k_Fl_restIsTaken : Nat := 15
abbrev k_Mt_init : Nat := 16
abbrev k_Mt_shortest : Nat := 17
abbrev k_Mt_spread : Nat := 18
abbrev k_Mt_spreadOther : Nat := 19
abbrev k_Mt_placeOf : Nat := 20
abbrev k_Mt_comeTo : Nat := 21
abbrev k_Mt_rowsBehind : Nat := 22
abbrev k_Mn_init : Nat := 23
abbrev k_Mn_fewest : Nat := 24
abbrev k_Mn_survey : Nat := 25
abbrev k_Mn_turn : Nat := 26
abbrev k_Mn_spread : Nat := 27
abbrev k_Mn_spreadChanged : Nat := 28
abbrev k_Mn_come : Nat := 29
abbrev k_Mn_costOf : Nat := 30
abbrev k_Mn_setCost : Nat := 31
abbrev k_Ol_init : Nat := 32
abbrev k_Ol_shortest : Nat := 33
abbrev k_Ol_firstPair : Nat := 34
abbrev k_Ol_choosePair : Nat := 35
abbrev k_Ol_followTo : Nat := 36
abbrev k_Ol_neverMade : Nat := 37
abbrev k_Ol_twoAtOnce : Nat := 38
abbrev k_Ol_firstTwo : Nat := 39
abbrev k_Ol_study : Nat := 40
abbrev k_Ol_see : Nat := 41
abbrev k_Ol_seeBehind : Nat := 42
abbrev k_Ol_tellAhead : Nat := 43
abbrev k_Ol_leadsTo : Nat := 44
abbrev k_Ol_newName : Nat := 45
abbrev k_Ol_placeOf : Nat := 46
abbrev k_Ol_spotOf : Nat := 47
abbrev k_Rd_init : Nat := 48
abbrev k_Rd_states : Nat := 49
abbrev k_Rd_registers : Nat := 50
abbrev k_Rd_size : Nat := 51
abbrev k_Rd_become : Nat := 52
abbrev k_Rd_appendAll : Nat := 53
abbrev k_Rd_remove : Nat := 54
abbrev k_Rd_sort : Nat := 55
abbrev k_Rd_part : Nat := 56
abbrev k_Rd_begin : Nat := 57
abbrev k_Rd_end : Nat := 58
abbrev k_Rd_moveAt : Nat := 59
abbrev k_Rd_hasTest : Nat := 60
abbrev k_Rd_takesSome : Nat := 61
abbrev k_Rd_takesAt : Nat := 62
abbrev k_Rd_takesBehind : Nat := 63
abbrev k_Rd_after : Nat := 64
abbrev k_Rd_heldIn : Nat := 65
abbrev k_Rd_settle : Nat := 66
abbrev k_Rw_init : Nat := 67
abbrev k_Rw_size : Nat := 68
abbrev k_Rw_told : Nat := 69
abbrev k_Rw_gaps : Nat := 70
abbrev k_Rw_gapPairs : Nat := 71
abbrev k_Rw_letter : Nat := 72
abbrev k_Rw_name : Nat := 73
abbrev k_Rw_id : Nat := 74
abbrev k_Rw_aliveBehind : Nat := 75
abbrev k_Rw_hasGap : Nat := 76
abbrev k_Rw_append : Nat := 77
abbrev k_Rw_put : Nat := 78
abbrev k_Rw_wipe : Nat := 79
abbrev k_Rw_idOf : Nat := 80
abbrev k_Rw_survey : Nat := 81
abbrev k_Rw_idAt : Nat := 82
abbrev k_Ss_init : Nat := 83
abbrev k_Ss_passed : Nat := 84
abbrev k_Ss_find : Nat := 85
abbrev k_Ss_pairAt : Nat := 86
abbrev k_Ss_setOf : Nat := 87
abbrev k_Ss_otherSetOf : Nat := 88
abbrev k_Ss_goOn : Nat := 89
abbrev k_Ss_end : Nat := 90
abbrev k_Ss_endings : Nat := 91
abbrev k_Ss_namesFor : Nat := 92
abbrev k_Ss_bitOf : Nat := 93
abbrev k_Sp_init : Nat := 94
abbrev k_Sp_size : Nat := 95
abbrev k_Sp_has : Nat := 96
abbrev k_Sp_add : Nat := 97
abbrev k_Sp_clear : Nat := 98
abbrev k_Sp_startAt : Nat := 99
abbrev k_Sp_next : Nat := 100
abbrev k_Sp_follow : Nat := 101
abbrev k_Sp_statesByBits : Nat := 102
abbrev k_Sp_lowest : Nat := 103
abbrev k_Tx_init : Nat := 104
abbrev k_Tx_size : Nat := 105
abbrev k_Tx_found : Nat := 106
abbrev k_Tx_told : Nat := 107
abbrev k_Tx_put : Nat := 108
abbrev k_Tx_wipe : Nat := 109
abbrev k_Tx_parse : Nat := 110
abbrev k_Tx_parseMove : Nat := 111
abbrev k_Tx_number : Nat := 112
abbrev k_Tx_letter : Nat := 113
abbrev k_Tx_test : Nat := 114
abbrev k_Tx_advance : Nat := 115
abbrev k_Tx_isWord : Nat := 116
abbrev k_Tx_kindOf : Nat := 117
abbrev k_Wk_init : Nat := 118
abbrev k_Wk_statesBehind : Nat := 119
abbrev k_Wk_findRun : Nat := 120
abbrev k_Wk_moveOfRun : Nat := 121
abbrev k_Wk_forget : Nat := 122
abbrev k_Wk_isTakenFrom : Nat := 123
abbrev k_Wk_runFrom : Nat := 124
abbrev k_Wk_runsThatTake : Nat := 125
abbrev k_Wk_spread : Nat := 126
abbrev k_Wk_placeOf : Nat := 127
abbrev k_Wk_giveSlots : Nat := 128
abbrev k_Wk_freeSlot : Nat := 129
abbrev k_X_init : Nat := 130
abbrev k_X_reader : Nat := 131
abbrev k_X_write : Nat := 132
abbrev k_X_erase : Nat := 133
abbrev k_X_fault : Nat := 134
abbrev k_X_moves : Nat := 135
abbrev k_X_move : Nat := 136
abbrev k_X_drop : Nat := 137
abbrev k_X_pair : Nat := 138
abbrev k_X_change : Nat := 139
abbrev k_X_hush : Nat := 140
abbrev k_X_taken : Nat := 141
abbrev k_X_may : Nat := 142
abbrev k_X_runs : Nat := 143
abbrev k_X_run : Nat := 144
abbrev k_X_shapes : Nat := 145
abbrev k_X_shape : Nat := 146
abbrev k_X_least : Nat := 147
abbrev k_X_first : Nat := 148
abbrev k_X_useless : Nat := 149
abbrev k_X_twofold : Nat := 150
abbrev k_X_both : Nat := 151
abbrev k_X_parted : Nat := 152
abbrev k_X_fillings : Nat := 153
abbrev k_X_filled : Nat := 154
abbrev k_X_mend : Nat := 155
abbrev k_X_count : Nat := 156
abbrev k_X_readerOf : Nat := 157
abbrev k_X_within : Nat := 158
abbrev k_X_isPair : Nat := 159
abbrev k_M_init : Nat := 160
abbrev k_M_in : Nat := 161
abbrev k_M_isReader : Nat := 162
abbrev k_M_reader : Nat := 163
abbrev k_M_write : Nat := 164
abbrev k_M_erase : Nat := 165
abbrev k_M_sort : Nat := 166
abbrev k_M_token : Nat := 167
abbrev k_M_isWord : Nat := 168
abbrev k_M_skips : Nat := 169
abbrev k_M_figure : Nat := 170
abbrev k_M_readsMove : Nat := 171
abbrev k_M_fault : Nat := 172
abbrev k_M_moves : Nat := 173
abbrev k_M_isMove : Nat := 174
abbrev k_M_move : Nat := 175
abbrev k_M_drop : Nat := 176
abbrev k_M_isPair : Nat := 177
abbrev k_M_pair : Nat := 178
abbrev k_M_change : Nat := 179
abbrev k_M_hush : Nat := 180
abbrev k_M_isGap : Nat := 181
abbrev k_M_gapPairs : Nat := 182
abbrev k_M_idOf : Nat := 183
abbrev k_M_layNames : Nat := 184
abbrev k_M_heldIn : Nat := 185
abbrev k_M_can : Nat := 186
abbrev k_M_behind : Nat := 187
abbrev k_M_isTaken : Nat := 188
abbrev k_M_goOn : Nat := 189
abbrev k_M_beginList : Nat := 190
abbrev k_M_takesList : Nat := 191
abbrev k_M_goAll : Nat := 192
abbrev k_M_taken : Nat := 193
abbrev k_M_may : Nat := 194
abbrev k_M_runs : Nat := 195
abbrev k_M_layGood : Nat := 196
abbrev k_M_run : Nat := 197
abbrev k_M_nextPair : Nat := 198
abbrev k_M_beginPair : Nat := 199
abbrev k_M_goShapes : Nat := 200
abbrev k_M_shapes : Nat := 201
abbrev k_M_shape : Nat := 202
abbrev k_M_kindIn : Nat := 203
abbrev k_M_kindOf : Nat := 204
abbrev k_M_canBy : Nat := 205
abbrev k_M_kindBehind : Nat := 206
abbrev k_M_isNameOf : Nat := 207
abbrev k_M_nameAt : Nat := 208
abbrev k_M_layKinds : Nat := 209
abbrev k_M_least : Nat := 210
abbrev k_M_wideIn : Nat := 211
abbrev k_M_goWide : Nat := 212
abbrev k_M_addWide : Nat := 213
abbrev k_M_first : Nat := 214
abbrev k_M_useless : Nat := 215
abbrev k_M_twofold : Nat := 216
abbrev k_M_power : Nat := 217
abbrev k_M_together : Nat := 218
abbrev k_M_meet : Nat := 219
abbrev k_M_canHere : Nat := 220
abbrev k_M_both : Nat := 221
abbrev k_M_goBoth : Nat := 222
abbrev k_M_goOther : Nat := 223
abbrev k_M_takesOther : Nat := 224
abbrev k_M_parts : Nat := 225
abbrev k_M_parted : Nat := 226
abbrev k_M_freeBehind : Nat := 227
abbrev k_M_idOfAny : Nat := 228
abbrev k_M_nextName : Nat := 229
abbrev k_M_nextFill : Nat := 230
abbrev k_M_goFill : Nat := 231
abbrev k_M_fillings : Nat := 232
abbrev k_M_filled : Nat := 233
abbrev k_M_unused : Nat := 234
abbrev k_M_mend : Nat := 235
abbrev k_M_mendFrom : Nat := 236
abbrev k_M_count : Nat := 237
def B_J_bitI : BT := fun b => match b with
  | 0 => (1, [(.iload_n 0, [], 0), (.iload_n 0, [], 0), (.iconst 1, [], 0), (.iushr, [], 0), (.ldc_w 265, [0, 868], 1431655765), (.iand, [], 0), (.isub, [], 0), (.istore_n 0, [], 0), (.iload_n 0, [], 0), (.ldc_w 266, [0, 869], 858993459), (.iand, [], 0), (.iload_n 0, [], 0), (.iconst 2, [], 0), (.iushr, [], 0), (.ldc_w 266, [0, 869], 858993459), (.iand, [], 0), (.iadd, [], 0), (.istore_n 0, [], 0), (.iload_n 0, [], 0), (.iload_n 0, [], 0), (.iconst 4, [], 0), (.iushr, [], 0), (.iadd, [], 0), (.ldc_w 267, [0, 870], 252645135), (.iand, [], 0), (.istore_n 0, [], 0), (.iload_n 0, [], 0), (.iload_n 0, [], 0), (.bipush 8, [], 0), (.iushr, [], 0), (.iadd, [], 0), (.istore_n 0, [], 0), (.iload_n 0, [], 0), (.iload_n 0, [], 0), (.bipush 16, [], 0), (.iushr, [], 0), (.iadd, [], 0), (.istore_n 0, [], 0), (.iload_n 0, [], 0), (.bipush 63, [], 0), (.iand, [], 0), (.ireturn, [0], 0)])
  | _ => (0, [])
def L_J_bitI : Nat → List Bool := fun b => match b with
  | 0 => [true]
  | _ => []
def P_J_bitI : List Nat := [0]
def K_J_bitI : KE := (⟨"java/lang/Integer", "bitCount", "(I)I"⟩, prog_14_method_49_code, 1, (Option.some Jvm.ClassFile.FieldType.int), B_J_bitI, L_J_bitI, P_J_bitI, [867, 866, 0, 100, 1, 1])
def B_J_bitL : BT := fun b => match b with
  | 0 => (1, [(.lload_n 0, [], 0), (.lload_n 0, [], 0), (.iconst 1, [], 0), (.lushr, [], 0), (.ldc2_w 314, [685], 6148914691236517205), (.land, [], 0), (.lsub, [], 0), (.lstore_n 0, [], 0), (.lload_n 0, [], 0), (.ldc2_w 316, [686], 3689348814741910323), (.land, [], 0), (.lload_n 0, [], 0), (.iconst 2, [], 0), (.lushr, [], 0), (.ldc2_w 316, [686], 3689348814741910323), (.land, [], 0), (.ladd, [], 0), (.lstore_n 0, [], 0), (.lload_n 0, [], 0), (.lload_n 0, [], 0), (.iconst 4, [], 0), (.lushr, [], 0), (.ladd, [], 0), (.ldc2_w 318, [687], 1085102592571150095), (.land, [], 0), (.lstore_n 0, [], 0), (.lload_n 0, [], 0), (.lload_n 0, [], 0), (.bipush 8, [], 0), (.lushr, [], 0), (.ladd, [], 0), (.lstore_n 0, [], 0), (.lload_n 0, [], 0), (.lload_n 0, [], 0), (.bipush 16, [], 0), (.lushr, [], 0), (.ladd, [], 0), (.lstore_n 0, [], 0), (.lload_n 0, [], 0), (.lload_n 0, [], 0), (.bipush 32, [], 0), (.lushr, [], 0), (.ladd, [], 0), (.lstore_n 0, [], 0), (.lload_n 0, [], 0), (.l2i, [], 0), (.bipush 127, [], 0), (.iand, [], 0), (.ireturn, [0], 0)])
  | _ => (0, [])
def L_J_bitL : Nat → List Bool := fun b => match b with
  | 0 => [true, false]
  | _ => []
def P_J_bitL : List Nat := [0]
def K_J_bitL : KE := (⟨"java/lang/Long", "bitCount", "(J)I"⟩, prog_15_method_50_code, 2, (Option.some Jvm.ClassFile.FieldType.int), B_J_bitL, L_J_bitL, P_J_bitL, [684, 683, 0, 99, 1, 1])
def B_J_max : BT := fun b => match b with
  | 0 => (1, [(.iload_n 0, [], 0), (.iload_n 1, [], 0), (.if_icmp .lt 7, [2, 1], 0)])
  | 1 => (2, [(.iload_n 0, [], 0), (.goto 4, [3], 0)])
  | 2 => (3, [(.iload_n 1, [], 0)])
  | 3 => (4, [(.ireturn, [0], 0)])
  | _ => (0, [])
def L_J_max : Nat → List Bool := fun b => match b with
  | 0 => [true, true]
  | 1 => [true, false]
  | 2 => [false, true]
  | 3 => [false, false]
  | _ => []
def P_J_max : List Nat := [0, 5, 9, 10]
def K_J_max : KE := (⟨"java/lang/Math", "max", "(II)I"⟩, prog_16_method_65_code, 2, (Option.some Jvm.ClassFile.FieldType.int), B_J_max, L_J_max, P_J_max, [203, 202, 0, 86, 1, 2])
def B_J_minL : BT := fun b => match b with
  | 0 => (1, [(.lload_n 0, [], 0), (.lload_n 2, [], 0), (.lcmp, [], 0), (.ifCond .gt 7, [2, 1], 0)])
  | 1 => (2, [(.lload_n 0, [], 0), (.goto 4, [3], 0)])
  | 2 => (3, [(.lload_n 2, [], 0)])
  | 3 => (4, [(.lreturn, [], 0)])
  | _ => (0, [])
def L_J_minL : Nat → List Bool := fun b => match b with
  | 0 => [true, false, true, false]
  | 1 => [true, false, false, false]
  | 2 => [false, false, true, false]
  | 3 => [false, false, false, false]
  | _ => []
def P_J_minL : List Nat := [0, 6, 10, 11]
def K_J_minL : KE := (⟨"java/lang/Math", "min", "(JJ)J"⟩, prog_16_method_70_code, 4, (Option.some Jvm.ClassFile.FieldType.long), B_J_minL, L_J_minL, P_J_minL, [789, 788, 0, 86, 1, 2])
def B_Fl_init : BT := fun b => match b with
  | 0 => (1, [(.aload_n 0, [], 0), (.invokespecial 3, [0, 1, 0, 245], 0), (.aload_n 0, [], 0), (.bipush 12, [], 0), (.newarray .int, [0], 0), (.putfield 9, [0, 3, 2, 249], 0), (.aload_n 0, [], 0), (.bipush 13, [], 0), (.newarray .int, [0], 0), (.putfield 15, [0, 4, 2, 250], 0), (.aload_n 0, [], 0), (.bipush 12, [], 0), (.newarray .int, [0], 0), (.putfield 18, [0, 5, 2, 251], 0), (.aload_n 0, [], 0), (.bipush 12, [], 0), (.newarray .int, [0], 0), (.putfield 21, [0, 6, 2, 252], 0), (.aload_n 0, [], 0), (.iconst 0, [], 0), (.putfield 24, [0, 9, 0, 255], 0), (.aload_n 0, [], 0), (.iconst 0, [], 0), (.putfield 28, [0, 10, 0, 256], 0), (.aload_n 0, [], 0), (.iconst 0, [], 0), (.putfield 31, [0, 11, 0, 257], 0), (.aload_n 0, [], 0), (.iconst 0, [], 0), (.putfield 34, [0, 12, 3, 258], 0), (.aload_n 0, [], 0), (.aload_n 1, [], 0), (.putfield 38, [0, 0, 2, 246], 0), (.aload_n 0, [], 0), (.aload_n 2, [], 0), (.putfield 42, [0, 1, 2, 247], 0), (.aload_n 0, [], 0), (.aload_n 3, [], 0), (.putfield 46, [0, 7, 2, 253], 0), (.aload_n 0, [], 0), (.aload 4, [], 0), (.putfield 50, [0, 8, 2, 254], 0), (.aload_n 0, [], 0), (.aload_n 1, [], 0), (.aload_n 1, [], 0), (.arraylength, [], 0), (.iconst 1, [], 0), (.isub, [], 0), (.aaload, [], 0), (.putfield 54, [0, 2, 2, 248], 0), (.return_, [], 0)])
  | _ => (0, [])
def L_Fl_init : Nat → List Bool := fun b => match b with
  | 0 => [true, true, true, true, true]
  | _ => []
def P_Fl_init : List Nat := [0]
def K_Fl_init : KE := (⟨"NameReaders$Fillings", "<init>", "([LNameReaders$Spots;LNameReaders$Walks;LNameReaders$Row;LNameReaders$Reader;)V"⟩, prog_2_method_1_code, 5, (Option.none : Option Jvm.ClassFile.FieldType), B_Fl_init, L_Fl_init, P_Fl_init, [244, 243, 0, 88, 2, 5])
def B_Fl_pairAt : BT := fun b => match b with
  | 0 => (1, [(.sipush 128, [], 0), (.aload_n 0, [], 0), (.getfield 18, [0, 5, 2, 251], 0), (.iload_n 1, [], 0), (.iaload, [], 0), (.imul, [], 0), (.aload_n 0, [], 0), (.getfield 21, [0, 6, 2, 252], 0), (.iload_n 1, [], 0), (.iaload, [], 0), (.iadd, [], 0), (.ireturn, [0], 0)])
  | _ => (0, [])
def L_Fl_pairAt : Nat → List Bool := fun b => match b with
  | 0 => [true, true]
  | _ => []
def P_Fl_pairAt : List Nat := [0]
def K_Fl_pairAt : KE := (⟨"NameReaders$Fillings", "pairAt", "(I)I"⟩, prog_2_method_2_code, 2, (Option.some Jvm.ClassFile.FieldType.int), B_Fl_pairAt, L_Fl_pairAt, P_Fl_pairAt, [1084, 1082, 1083, 88, 0, 2])
def B_Fl_search : BT := fun b => match b with
  | 0 => (1, [(.aload_n 0, [], 0), (.aload_n 1, [], 0), (.putfield 50, [0, 8, 2, 254], 0), (.aload_n 0, [], 0), (.iload_n 2, [], 0), (.putfield 34, [0, 12, 3, 258], 0), (.aload_n 0, [], 0), (.iconst 0, [], 0), (.putfield 31, [0, 11, 0, 257], 0), (.aload_n 0, [], 0), (.iconst (-1), [], 0), (.putfield 28, [0, 10, 0, 256], 0), (.iconst 0, [], 0), (.istore_n 3, [], 0)])
  | 1 => (2, [(.iload_n 3, [], 0), (.aload_n 0, [], 0), (.getfield 46, [0, 7, 2, 253], 0), (.invokevirtual 58, [k_Rw_size, 1, 5, 1023], 0), (.if_icmp .ge 60, [6, 2], 0)])
  | 2 => (3, [(.aload_n 0, [], 0), (.getfield 18, [0, 5, 2, 251], 0), (.iload_n 3, [], 0), (.aload_n 0, [], 0), (.getfield 46, [0, 7, 2, 253], 0), (.iload_n 3, [], 0), (.invokevirtual 64, [k_Rw_letter, 2, 5, 1024], 0), (.iastore, [], 0), (.aload_n 0, [], 0), (.getfield 21, [0, 6, 2, 252], 0), (.iload_n 3, [], 0), (.aload_n 0, [], 0), (.getfield 46, [0, 7, 2, 253], 0), (.iload_n 3, [], 0), (.invokevirtual 68, [k_Rw_name, 2, 5, 1025], 0), (.iastore, [], 0), (.aload_n 0, [], 0), (.aload_n 0, [], 0), (.getfield 46, [0, 7, 2, 253], 0), (.iload_n 3, [], 0), (.invokevirtual 71, [k_Rw_hasGap, 2, 5, 1029], 0), (.ifCond .eq 7, [4, 3], 0)])
  | 3 => (4, [(.iload_n 3, [], 0), (.goto 7, [5], 0)])
  | 4 => (5, [(.aload_n 0, [], 0), (.getfield 28, [0, 10, 0, 256], 0)])
  | 5 => (6, [(.putfield 28, [0, 10, 0, 256], 0), (.iinc 3 1, [], 0), (.goto (-65), [1], 0)])
  | 6 => (7, [(.aload_n 0, [], 0), (.invokevirtual 75, [k_Fl_tellNames, 1, 0, 1030], 0), (.aload_n 0, [], 0), (.getfield 54, [0, 2, 2, 248], 0), (.invokevirtual 78, [k_Sp_clear, 1, 7, 1042], 0), (.aload_n 0, [], 0), (.getfield 42, [0, 1, 2, 247], 0), (.aload_n 0, [], 0), (.getfield 28, [0, 10, 0, 256], 0), (.iconst 1, [], 0), (.iadd, [], 0), (.aload_n 0, [], 0), (.getfield 46, [0, 7, 2, 253], 0), (.invokevirtual 58, [k_Rw_size, 1, 5, 1023], 0), (.invokevirtual 83, [k_Wk_forget, 3, 9, 1043], 0), (.aload_n 0, [], 0), (.getfield 28, [0, 10, 0, 256], 0), (.ifCond .ge 29, [11, 7], 0)])
  | 7 => (8, [(.aload_n 0, [], 0), (.getfield 42, [0, 1, 2, 247], 0), (.aload_n 0, [], 0), (.getfield 50, [0, 8, 2, 254], 0), (.aload_n 0, [], 0), (.getfield 46, [0, 7, 2, 253], 0), (.iconst 0, [], 0), (.iconst 0, [], 0), (.invokevirtual 89, [k_Wk_isTakenFrom, 5, 9, 1044], 0), (.ifCond .eq 7, [9, 8], 0)])
  | 8 => (9, [(.iconst 1, [], 0), (.goto 4, [10], 0)])
  | 9 => (10, [(.iconst 0, [], 0)])
  | 10 => (11, [(.ireturn, [0], 0)])
  | 11 => (12, [(.aload_n 0, [], 0), (.getfield 38, [0, 0, 2, 246], 0), (.iconst 0, [], 0), (.aaload, [], 0), (.iconst 0, [], 0), (.invokevirtual 93, [k_Sp_startAt, 2, 7, 1048], 0), (.aload_n 0, [], 0), (.iconst 0, [], 0), (.iconst 0, [], 0), (.invokevirtual 97, [k_Fl_fillFrom, 3, 0, 1049], 0), (.pop, [], 0), (.aload_n 0, [], 0), (.getfield 31, [0, 11, 0, 257], 0), (.ireturn, [0], 0)])
  | _ => (0, [])
def L_Fl_search : Nat → List Bool := fun b => match b with
  | 0 => [true, true, true, false]
  | 1 => [true, false, false, true]
  | 2 => [true, false, false, true]
  | 3 => [true, false, false, true]
  | 4 => [true, false, false, true]
  | 5 => [true, false, false, true]
  | 6 => [true, false, false, false]
  | 7 => [true, false, false, false]
  | 8 => [false, false, false, false]
  | 9 => [false, false, false, false]
  | 10 => [false, false, false, false]
  | 11 => [true, false, false, false]
  | _ => []
def P_Fl_search : List Nat := [0, 22, 33, 73, 77, 81, 90, 128, 148, 152, 153, 154]
def K_Fl_search : KE := (⟨"NameReaders$Fillings", "search", "(LNameReaders$Reader;Z)I"⟩, prog_2_method_3_code, 4, (Option.some Jvm.ClassFile.FieldType.int), B_Fl_search, L_Fl_search, P_Fl_search, [1022, 1020, 1021, 88, 0, 3])
def B_Fl_tellNames : BT := fun b => match b with
  | 0 => (1, [(.iconst 0, [], 0), (.istore_n 1, [], 0), (.iconst 0, [], 0), (.istore_n 2, [], 0)])
  | 1 => (2, [(.iload_n 2, [], 0), (.aload_n 0, [], 0), (.getfield 46, [0, 7, 2, 253], 0), (.invokevirtual 58, [k_Rw_size, 1, 5, 1023], 0), (.if_icmp .ge 29, [6, 2], 0)])
  | 2 => (3, [(.iload_n 1, [], 0), (.aload_n 0, [], 0), (.getfield 46, [0, 7, 2, 253], 0), (.iload_n 2, [], 0), (.invokevirtual 68, [k_Rw_name, 2, 5, 1025], 0), (.iconst (-1), [], 0), (.if_icmp .ne 7, [4, 3], 0)])
  | 3 => (4, [(.iconst 1, [], 0), (.goto 4, [5], 0)])
  | 4 => (5, [(.iconst 0, [], 0)])
  | 5 => (6, [(.iadd, [], 0), (.istore_n 1, [], 0), (.iinc 2 1, [], 0), (.goto (-34), [1], 0)])
  | 6 => (7, [(.aload_n 0, [], 0), (.getfield 46, [0, 7, 2, 253], 0), (.invokevirtual 101, [k_Rw_told, 1, 5, 1034], 0), (.istore_n 2, [], 0), (.aload_n 0, [], 0), (.iconst 0, [], 0), (.putfield 24, [0, 9, 0, 255], 0), (.iconst 0, [], 0), (.istore_n 3, [], 0)])
  | 7 => (8, [(.iload_n 3, [], 0), (.bipush 100, [], 0), (.if_icmp .ge 102, [16, 8], 0)])
  | 8 => (9, [(.aload_n 0, [], 0), (.getfield 24, [0, 9, 0, 255], 0), (.aload_n 0, [], 0), (.getfield 46, [0, 7, 2, 253], 0), (.invokevirtual 101, [k_Rw_told, 1, 5, 1034], 0), (.iload_n 1, [], 0), (.iadd, [], 0), (.if_icmp .ge 86, [16, 9], 0)])
  | 9 => (10, [(.aload_n 0, [], 0), (.getfield 46, [0, 7, 2, 253], 0), (.iload_n 3, [], 0), (.invokevirtual 104, [k_Rw_idOf, 2, 5, 1038], 0), (.istore 4, [], 0), (.iload 4, [], 0), (.ifCond .ne 22, [12, 10], 0)])
  | 10 => (11, [(.iload_n 2, [], 0), (.aload_n 0, [], 0), (.getfield 46, [0, 7, 2, 253], 0), (.invokevirtual 101, [k_Rw_told, 1, 5, 1034], 0), (.iload_n 1, [], 0), (.iadd, [], 0), (.if_icmp .ge 9, [12, 11], 0)])
  | 11 => (12, [(.iinc 2 1, [], 0), (.iload_n 2, [], 0), (.istore 4, [], 0)])
  | 12 => (13, [(.iload 4, [], 0), (.ifCond .le 41, [15, 13], 0)])
  | 13 => (14, [(.aload_n 0, [], 0), (.getfield 24, [0, 9, 0, 255], 0), (.bipush 12, [], 0), (.if_icmp .ge 32, [15, 14], 0)])
  | 14 => (15, [(.aload_n 0, [], 0), (.getfield 9, [0, 3, 2, 249], 0), (.aload_n 0, [], 0), (.getfield 24, [0, 9, 0, 255], 0), (.iload 4, [], 0), (.iastore, [], 0), (.aload_n 0, [], 0), (.getfield 15, [0, 4, 2, 250], 0), (.iload 4, [], 0), (.iload_n 3, [], 0), (.iastore, [], 0), (.aload_n 0, [], 0), (.dup, [], 0), (.getfield 24, [0, 9, 0, 255], 0), (.iconst 1, [], 0), (.iadd, [], 0), (.putfield 24, [0, 9, 0, 255], 0)])
  | 15 => (16, [(.iinc 3 1, [], 0), (.goto (-102), [7], 0)])
  | 16 => (17, [(.return_, [], 0)])
  | _ => (0, [])
def L_Fl_tellNames : Nat → List Bool := fun b => match b with
  | 0 => [true, false, false, false, false]
  | 1 => [true, true, true, false, false]
  | 2 => [true, true, true, false, false]
  | 3 => [true, false, true, false, false]
  | 4 => [true, false, true, false, false]
  | 5 => [true, false, true, false, false]
  | 6 => [true, true, false, false, false]
  | 7 => [true, true, true, true, false]
  | 8 => [true, true, true, true, false]
  | 9 => [true, true, true, true, false]
  | 10 => [true, true, true, true, true]
  | 11 => [true, true, true, true, false]
  | 12 => [true, true, true, true, true]
  | 13 => [true, true, true, true, true]
  | 14 => [true, true, true, true, true]
  | 15 => [true, true, true, true, false]
  | 16 => [false, false, false, false, false]
  | _ => []
def P_Fl_tellNames : List Nat := [0, 4, 15, 28, 32, 33, 41, 56, 62, 78, 93, 106, 112, 117, 126, 155, 161]
def K_Fl_tellNames : KE := (⟨"NameReaders$Fillings", "tellNames", "()V"⟩, prog_2_method_4_code, 5, (Option.none : Option Jvm.ClassFile.FieldType), B_Fl_tellNames, L_Fl_tellNames, P_Fl_tellNames, [1033, 1032, 31, 88, 0, 1])
def B_Fl_fillFrom : BT := fun b => match b with
  | 0 => (1, [(.iload_n 1, [], 0), (.istore_n 3, [], 0)])
  | 1 => (2, [(.iload_n 3, [], 0), (.aload_n 0, [], 0), (.getfield 28, [0, 10, 0, 256], 0), (.if_icmp .ge 67, [4, 2], 0)])
  | 2 => (3, [(.aload_n 0, [], 0), (.getfield 46, [0, 7, 2, 253], 0), (.iload_n 3, [], 0), (.invokevirtual 71, [k_Rw_hasGap, 2, 5, 1029], 0), (.ifCond .ne 56, [4, 3], 0)])
  | 3 => (4, [(.aload_n 0, [], 0), (.getfield 38, [0, 0, 2, 246], 0), (.iload_n 3, [], 0), (.iconst 1, [], 0), (.iadd, [], 0), (.aaload, [], 0), (.aload_n 0, [], 0), (.getfield 50, [0, 8, 2, 254], 0), (.aload_n 0, [], 0), (.getfield 38, [0, 0, 2, 246], 0), (.iload_n 3, [], 0), (.aaload, [], 0), (.aload_n 0, [], 0), (.getfield 46, [0, 7, 2, 253], 0), (.iload_n 3, [], 0), (.invokevirtual 64, [k_Rw_letter, 2, 5, 1024], 0), (.aload_n 0, [], 0), (.getfield 46, [0, 7, 2, 253], 0), (.iload_n 3, [], 0), (.invokevirtual 107, [k_Rw_id, 2, 5, 1053], 0), (.aload_n 0, [], 0), (.getfield 46, [0, 7, 2, 253], 0), (.iload_n 3, [], 0), (.iconst 1, [], 0), (.iadd, [], 0), (.invokevirtual 110, [k_Rw_aliveBehind, 2, 5, 1054], 0), (.invokevirtual 113, [k_Sp_follow, 6, 7, 1055], 0), (.iinc 3 1, [], 0), (.goto (-69), [1], 0)])
  | 4 => (5, [(.aload_n 0, [], 0), (.getfield 38, [0, 0, 2, 246], 0), (.iload_n 3, [], 0), (.aaload, [], 0), (.invokevirtual 117, [k_Sp_size, 1, 7, 1056], 0), (.ifCond .ne 5, [6, 5], 0)])
  | 5 => (6, [(.iconst 0, [], 0), (.ireturn, [1], 0)])
  | 6 => (7, [(.aload_n 0, [], 0), (.getfield 46, [0, 7, 2, 253], 0), (.iload_n 3, [], 0), (.invokevirtual 64, [k_Rw_letter, 2, 5, 1024], 0), (.iconst (-1), [], 0), (.if_icmp .ne 7, [8, 7], 0)])
  | 7 => (8, [(.iconst 1, [], 0), (.goto 4, [9], 0)])
  | 8 => (9, [(.iconst 0, [], 0)])
  | 9 => (10, [(.istore 4, [], 0), (.iload 4, [], 0), (.ifCond .eq 7, [11, 10], 0)])
  | 10 => (11, [(.iconst 0, [], 0), (.goto 11, [12], 0)])
  | 11 => (12, [(.aload_n 0, [], 0), (.getfield 46, [0, 7, 2, 253], 0), (.iload_n 3, [], 0), (.invokevirtual 64, [k_Rw_letter, 2, 5, 1024], 0)])
  | 12 => (13, [(.istore 5, [], 0)])
  | 13 => (14, [(.iload 5, [], 0), (.iload 4, [], 0), (.ifCond .eq 7, [15, 14], 0)])
  | 14 => (15, [(.iconst 2, [], 0), (.goto 11, [16], 0)])
  | 15 => (16, [(.aload_n 0, [], 0), (.getfield 46, [0, 7, 2, 253], 0), (.iload_n 3, [], 0), (.invokevirtual 64, [k_Rw_letter, 2, 5, 1024], 0)])
  | 16 => (17, [(.if_icmp .gt 69, [24, 17], 0)])
  | 17 => (18, [(.aload_n 0, [], 0), (.getfield 18, [0, 5, 2, 251], 0), (.iload_n 3, [], 0), (.iload 5, [], 0), (.iastore, [], 0), (.iconst 0, [], 0), (.istore 6, [], 0)])
  | 18 => (19, [(.iload 6, [], 0), (.aload_n 0, [], 0), (.getfield 24, [0, 9, 0, 255], 0), (.if_icmp .ge 43, [23, 19], 0)])
  | 19 => (20, [(.aload_n 0, [], 0), (.iload_n 3, [], 0), (.aload_n 0, [], 0), (.getfield 9, [0, 3, 2, 249], 0), (.iload 6, [], 0), (.iaload, [], 0), (.iload_n 2, [], 0), (.invokevirtual 118, [k_Fl_mayHave, 4, 0, 1057], 0), (.ifCond .eq 21, [22, 20], 0)])
  | 20 => (21, [(.aload_n 0, [], 0), (.iload_n 3, [], 0), (.aload_n 0, [], 0), (.getfield 9, [0, 3, 2, 249], 0), (.iload 6, [], 0), (.iaload, [], 0), (.iload_n 2, [], 0), (.invokevirtual 122, [k_Fl_fillOne, 4, 0, 1061], 0), (.ifCond .eq 5, [22, 21], 0)])
  | 21 => (22, [(.iconst 1, [], 0), (.ireturn, [1], 0)])
  | 22 => (23, [(.iinc 6 1, [], 0), (.goto (-46), [18], 0)])
  | 23 => (24, [(.iinc 5 1, [], 0), (.goto (-85), [13], 0)])
  | 24 => (25, [(.iconst 0, [], 0), (.ireturn, [1], 0)])
  | _ => (0, [])
def L_Fl_fillFrom : Nat → List Bool := fun b => match b with
  | 0 => [true, true, true, false, false, false, false]
  | 1 => [true, false, true, true, false, false, false]
  | 2 => [true, false, true, true, false, false, false]
  | 3 => [true, false, true, true, false, false, false]
  | 4 => [true, false, true, true, false, false, false]
  | 5 => [false, false, false, false, false, false, false]
  | 6 => [true, false, true, true, false, false, false]
  | 7 => [true, false, true, true, false, false, false]
  | 8 => [true, false, true, true, false, false, false]
  | 9 => [true, false, true, true, false, false, false]
  | 10 => [true, false, true, true, true, false, false]
  | 11 => [true, false, true, true, true, false, false]
  | 12 => [true, false, true, true, true, false, false]
  | 13 => [true, false, true, true, true, true, false]
  | 14 => [true, false, true, true, true, true, false]
  | 15 => [true, false, true, true, true, true, false]
  | 16 => [true, false, true, true, true, true, false]
  | 17 => [true, false, true, true, true, true, false]
  | 18 => [true, false, true, true, true, true, true]
  | 19 => [true, false, true, true, true, true, true]
  | 20 => [true, false, true, true, true, true, true]
  | 21 => [false, false, false, false, false, false, false]
  | 22 => [true, false, true, true, true, true, true]
  | 23 => [true, false, true, true, true, true, false]
  | 24 => [false, false, false, false, false, false, false]
  | _ => []
def P_Fl_fillFrom : List Nat := [0, 2, 10, 21, 74, 86, 88, 100, 104, 105, 112, 116, 124, 126, 133, 137, 145, 148, 159, 168, 184, 200, 202, 208, 214]
def K_Fl_fillFrom : KE := (⟨"NameReaders$Fillings", "fillFrom", "(II)Z"⟩, prog_2_method_5_code, 7, (Option.some Jvm.ClassFile.FieldType.boolean), B_Fl_fillFrom, L_Fl_fillFrom, P_Fl_fillFrom, [1052, 1051, 32, 88, 0, 3])
def B_Fl_mayHave : BT := fun b => match b with
  | 0 => (1, [(.aload_n 0, [], 0), (.getfield 46, [0, 7, 2, 253], 0), (.iload_n 1, [], 0), (.invokevirtual 68, [k_Rw_name, 2, 5, 1025], 0), (.iconst (-1), [], 0), (.if_icmp .ne 26, [4, 1], 0)])
  | 1 => (2, [(.iload_n 2, [], 0), (.aload_n 0, [], 0), (.getfield 46, [0, 7, 2, 253], 0), (.invokevirtual 101, [k_Rw_told, 1, 5, 1034], 0), (.iload_n 3, [], 0), (.iadd, [], 0), (.iconst 1, [], 0), (.iadd, [], 0), (.if_icmp .gt 7, [3, 2], 0)])
  | 2 => (3, [(.iconst 1, [], 0), (.goto 24, [7], 0)])
  | 3 => (4, [(.iconst 0, [], 0), (.goto 20, [7], 0)])
  | 4 => (5, [(.iload_n 2, [], 0), (.aload_n 0, [], 0), (.getfield 46, [0, 7, 2, 253], 0), (.iload_n 1, [], 0), (.invokevirtual 107, [k_Rw_id, 2, 5, 1053], 0), (.if_icmp .ne 7, [6, 5], 0)])
  | 5 => (6, [(.iconst 1, [], 0), (.goto 4, [7], 0)])
  | 6 => (7, [(.iconst 0, [], 0)])
  | 7 => (8, [(.ireturn, [1], 0)])
  | _ => (0, [])
def L_Fl_mayHave : Nat → List Bool := fun b => match b with
  | 0 => [true, true, true, true]
  | 1 => [true, false, true, true]
  | 2 => [false, false, false, false]
  | 3 => [false, false, false, false]
  | 4 => [true, true, true, false]
  | 5 => [false, false, false, false]
  | 6 => [false, false, false, false]
  | 7 => [false, false, false, false]
  | _ => []
def P_Fl_mayHave : List Nat := [0, 12, 27, 31, 35, 47, 51, 52]
def K_Fl_mayHave : KE := (⟨"NameReaders$Fillings", "mayHave", "(III)Z"⟩, prog_2_method_6_code, 4, (Option.some Jvm.ClassFile.FieldType.boolean), B_Fl_mayHave, L_Fl_mayHave, P_Fl_mayHave, [1060, 1059, 33, 88, 0, 4])
def B_Fl_fillOne : BT := fun b => match b with
  | 0 => (1, [(.aload_n 0, [], 0), (.getfield 21, [0, 6, 2, 252], 0), (.iload_n 1, [], 0), (.aload_n 0, [], 0), (.getfield 15, [0, 4, 2, 250], 0), (.iload_n 2, [], 0), (.iaload, [], 0), (.iastore, [], 0), (.iload_n 1, [], 0), (.aload_n 0, [], 0), (.getfield 28, [0, 10, 0, 256], 0), (.if_icmp .ge 69, [5, 1], 0)])
  | 1 => (2, [(.aload_n 0, [], 0), (.getfield 38, [0, 0, 2, 246], 0), (.iload_n 1, [], 0), (.iconst 1, [], 0), (.iadd, [], 0), (.aaload, [], 0), (.aload_n 0, [], 0), (.getfield 50, [0, 8, 2, 254], 0), (.aload_n 0, [], 0), (.getfield 38, [0, 0, 2, 246], 0), (.iload_n 1, [], 0), (.aaload, [], 0), (.aload_n 0, [], 0), (.getfield 18, [0, 5, 2, 251], 0), (.iload_n 1, [], 0), (.iaload, [], 0), (.iload_n 2, [], 0), (.aload_n 0, [], 0), (.getfield 46, [0, 7, 2, 253], 0), (.iload_n 1, [], 0), (.iconst 1, [], 0), (.iadd, [], 0), (.invokevirtual 110, [k_Rw_aliveBehind, 2, 5, 1054], 0), (.invokevirtual 113, [k_Sp_follow, 6, 7, 1055], 0), (.aload_n 0, [], 0), (.iload_n 1, [], 0), (.iconst 1, [], 0), (.iadd, [], 0), (.iload_n 2, [], 0), (.aload_n 0, [], 0), (.getfield 46, [0, 7, 2, 253], 0), (.invokevirtual 101, [k_Rw_told, 1, 5, 1034], 0), (.iload_n 3, [], 0), (.iadd, [], 0), (.if_icmp .le 9, [3, 2], 0)])
  | 2 => (3, [(.iload_n 3, [], 0), (.iconst 1, [], 0), (.iadd, [], 0), (.goto 4, [4], 0)])
  | 3 => (4, [(.iload_n 3, [], 0)])
  | 4 => (5, [(.invokevirtual 97, [k_Fl_fillFrom, 3, 0, 1049], 0), (.ireturn, [1], 0)])
  | 5 => (6, [(.aload_n 0, [], 0), (.iload_n 2, [], 0), (.invokevirtual 125, [k_Fl_restIsTaken, 2, 0, 1065], 0), (.ifCond .ne 5, [7, 6], 0)])
  | 6 => (7, [(.iconst 0, [], 0), (.ireturn, [1], 0)])
  | 7 => (8, [(.aload_n 0, [], 0), (.dup, [], 0), (.getfield 31, [0, 11, 0, 257], 0), (.iconst 1, [], 0), (.iadd, [], 0), (.putfield 31, [0, 11, 0, 257], 0), (.aload_n 0, [], 0), (.getfield 34, [0, 12, 3, 258], 0), (.ireturn, [1], 0)])
  | _ => (0, [])
def L_Fl_fillOne : Nat → List Bool := fun b => match b with
  | 0 => [true, true, true, true]
  | 1 => [true, true, true, true]
  | 2 => [false, false, false, true]
  | 3 => [false, false, false, true]
  | 4 => [false, false, false, false]
  | 5 => [true, false, true, false]
  | 6 => [false, false, false, false]
  | 7 => [true, false, false, false]
  | _ => []
def P_Fl_fillOne : List Nat := [0, 20, 75, 81, 82, 86, 94, 96]
def K_Fl_fillOne : KE := (⟨"NameReaders$Fillings", "fillOne", "(III)Z"⟩, prog_2_method_7_code, 4, (Option.some Jvm.ClassFile.FieldType.boolean), B_Fl_fillOne, L_Fl_fillOne, P_Fl_fillOne, [1064, 1063, 34, 88, 0, 4])
def B_Fl_restIsTaken : BT := fun b => match b with
  | 0 => (1, [(.aload_n 0, [], 0), (.getfield 38, [0, 0, 2, 246], 0), (.aload_n 0, [], 0), (.getfield 28, [0, 10, 0, 256], 0), (.aaload, [], 0), (.astore_n 2, [], 0), (.aload_n 2, [], 0), (.iconst 0, [], 0), (.invokevirtual 128, [k_Sp_next, 2, 7, 1069], 0), (.istore_n 3, [], 0), (.aload_n 2, [], 0), (.invokevirtual 117, [k_Sp_size, 1, 7, 1056], 0), (.istore 4, [], 0)])
  | 1 => (2, [(.iload 4, [], 0), (.ifCond .le 177, [14, 2], 0)])
  | 2 => (3, [(.iload_n 3, [], 0), (.ifCond .lt 173, [14, 3], 0)])
  | 3 => (4, [(.aload_n 0, [], 0), (.getfield 50, [0, 8, 2, 254], 0), (.iload_n 3, [], 0), (.aload_n 0, [], 0), (.getfield 18, [0, 5, 2, 251], 0), (.aload_n 0, [], 0), (.getfield 28, [0, 10, 0, 256], 0), (.iaload, [], 0), (.invokevirtual 131, [k_Rd_end, 3, 4, 1070], 0), (.istore 5, [], 0), (.aload_n 0, [], 0), (.getfield 50, [0, 8, 2, 254], 0), (.iload_n 3, [], 0), (.aload_n 0, [], 0), (.getfield 18, [0, 5, 2, 251], 0), (.aload_n 0, [], 0), (.getfield 28, [0, 10, 0, 256], 0), (.iaload, [], 0), (.invokevirtual 137, [k_Rd_begin, 3, 4, 1071], 0), (.istore 6, [], 0)])
  | 4 => (5, [(.iload 6, [], 0), (.iload 5, [], 0), (.if_icmp .ge 114, [13, 5], 0)])
  | 5 => (6, [(.aload_n 0, [], 0), (.getfield 50, [0, 8, 2, 254], 0), (.iload_n 3, [], 0), (.aload_n 0, [], 0), (.getfield 50, [0, 8, 2, 254], 0), (.iload 6, [], 0), (.invokevirtual 140, [k_Rd_moveAt, 2, 4, 1072], 0), (.iload_n 1, [], 0), (.invokevirtual 143, [k_Rd_after, 4, 4, 1073], 0), (.istore 7, [], 0), (.iload 7, [], 0), (.ifCond .ge 7, [7, 6], 0)])
  | 6 => (7, [(.iconst (-1), [], 0), (.goto 22, [8], 0)])
  | 7 => (8, [(.iload 7, [], 0), (.aload_n 0, [], 0), (.getfield 46, [0, 7, 2, 253], 0), (.aload_n 0, [], 0), (.getfield 28, [0, 10, 0, 256], 0), (.iconst 1, [], 0), (.iadd, [], 0), (.invokevirtual 110, [k_Rw_aliveBehind, 2, 5, 1054], 0), (.iconst 0, [], 0), (.invokestatic 147, [k_Rd_settle, 3, 1074], 0)])
  | 8 => (9, [(.istore 7, [], 0), (.aload_n 0, [], 0), (.getfield 54, [0, 2, 2, 248], 0), (.iload 7, [], 0), (.invokevirtual 150, [k_Sp_has, 2, 7, 1075], 0), (.ifCond .ne 34, [11, 9], 0)])
  | 9 => (10, [(.iload 7, [], 0), (.ifCond .lt 41, [12, 10], 0)])
  | 10 => (11, [(.aload_n 0, [], 0), (.getfield 42, [0, 1, 2, 247], 0), (.aload_n 0, [], 0), (.getfield 50, [0, 8, 2, 254], 0), (.aload_n 0, [], 0), (.getfield 46, [0, 7, 2, 253], 0), (.aload_n 0, [], 0), (.getfield 28, [0, 10, 0, 256], 0), (.iconst 1, [], 0), (.iadd, [], 0), (.iload 7, [], 0), (.invokevirtual 89, [k_Wk_isTakenFrom, 5, 9, 1044], 0), (.ifCond .eq 15, [12, 11], 0)])
  | 11 => (12, [(.aload_n 0, [], 0), (.getfield 54, [0, 2, 2, 248], 0), (.iload 7, [], 0), (.invokevirtual 153, [k_Sp_add, 2, 7, 1076], 0), (.pop, [], 0), (.iconst 1, [], 0), (.ireturn, [1], 0)])
  | 12 => (13, [(.iinc 6 1, [], 0), (.goto (-115), [4], 0)])
  | 13 => (14, [(.aload_n 2, [], 0), (.iload_n 3, [], 0), (.iconst 1, [], 0), (.iadd, [], 0), (.invokevirtual 128, [k_Sp_next, 2, 7, 1069], 0), (.istore_n 3, [], 0), (.iinc 4 (-1), [], 0), (.goto (-176), [1], 0)])
  | 14 => (15, [(.iconst 0, [], 0), (.ireturn, [1], 0)])
  | _ => (0, [])
def L_Fl_restIsTaken : Nat → List Bool := fun b => match b with
  | 0 => [true, true, false, false, false, false, false, false]
  | 1 => [true, true, true, true, true, false, false, false]
  | 2 => [true, true, true, true, true, false, false, false]
  | 3 => [true, true, true, true, true, false, false, false]
  | 4 => [true, true, true, true, true, true, true, false]
  | 5 => [true, true, true, true, true, true, true, false]
  | 6 => [true, true, true, true, true, true, true, false]
  | 7 => [true, true, true, true, true, true, true, true]
  | 8 => [true, true, true, true, true, true, true, false]
  | 9 => [true, true, true, true, true, true, true, true]
  | 10 => [true, true, true, true, true, true, true, true]
  | 11 => [true, false, false, false, false, false, false, true]
  | 12 => [true, true, true, true, true, true, true, false]
  | 13 => [true, true, true, true, true, false, false, false]
  | 14 => [false, false, false, false, false, false, false, false]
  | _ => []
def P_Fl_restIsTaken : List Nat := [0, 22, 27, 31, 69, 76, 101, 105, 124, 138, 143, 169, 181, 187, 201]
def K_Fl_restIsTaken : KE := (⟨"NameReaders$Fillings", "restIsTaken", "(I)Z"⟩, prog_2_method_8_code, 8, (Option.some Jvm.ClassFile.FieldType.boolean), B_Fl_restIsTaken, L_Fl_restIsTaken, P_Fl_restIsTaken, [1068, 1067, 35, 88, 0, 2])
def B_Mt_init : BT := fun b => match b with
  | 0 => (1, [(.aload_n 0, [], 0), (.invokespecial 5, [0, 1, 1, 372], 0), (.aload_n 0, [], 0), (.new 11, [7, 373], 0), (.dup, [], 0), (.sipush 31572, [], 0), (.invokespecial 13, [k_Sp_init, 2, 7, 374], 0), (.putfield 16, [1, 0, 2, 375], 0), (.aload_n 0, [], 0), (.new 11, [7, 373], 0), (.dup, [], 0), (.sipush 31572, [], 0), (.invokespecial 13, [k_Sp_init, 2, 7, 374], 0), (.putfield 20, [1, 1, 2, 376], 0), (.aload_n 0, [], 0), (.new 11, [7, 373], 0), (.dup, [], 0), (.sipush 31572, [], 0), (.invokespecial 13, [k_Sp_init, 2, 7, 374], 0), (.putfield 23, [1, 2, 2, 377], 0), (.aload_n 0, [], 0), (.bipush 42, [], 0), (.newarray .int, [0], 0), (.putfield 26, [1, 3, 2, 378], 0), (.aload_n 0, [], 0), (.iconst 0, [], 0), (.putfield 30, [1, 6, 0, 381], 0), (.aload_n 0, [], 0), (.iconst 0, [], 0), (.putfield 34, [1, 7, 0, 382], 0), (.aload_n 0, [], 0), (.iconst 1, [], 0), (.putfield 37, [1, 8, 0, 383], 0), (.aload_n 0, [], 0), (.aload_n 1, [], 0), (.putfield 40, [1, 4, 2, 379], 0), (.aload_n 0, [], 0), (.aload_n 2, [], 0), (.putfield 44, [1, 5, 2, 380], 0), (.iconst 0, [], 0), (.istore_n 3, [], 0)])
  | 1 => (2, [(.iload_n 3, [], 0), (.bipush 6, [], 0), (.if_icmp .gt 16, [3, 2], 0)])
  | 2 => (3, [(.aload_n 0, [], 0), (.getfield 26, [1, 3, 2, 378], 0), (.iload_n 3, [], 0), (.iconst 1, [], 0), (.iastore, [], 0), (.iinc 3 1, [], 0), (.goto (-16), [1], 0)])
  | 3 => (4, [(.iconst 1, [], 0), (.istore_n 3, [], 0)])
  | 4 => (5, [(.iload_n 3, [], 0), (.bipush 6, [], 0), (.if_icmp .ge 74, [9, 5], 0)])
  | 5 => (6, [(.iconst 0, [], 0), (.istore 4, [], 0)])
  | 6 => (7, [(.iload 4, [], 0), (.bipush 6, [], 0), (.iload_n 3, [], 0), (.isub, [], 0), (.iconst 1, [], 0), (.iadd, [], 0), (.if_icmp .ge 54, [8, 7], 0)])
  | 7 => (8, [(.iload_n 3, [], 0), (.iconst 1, [], 0), (.isub, [], 0), (.bipush 7, [], 0), (.imul, [], 0), (.iload 4, [], 0), (.iadd, [], 0), (.istore 5, [], 0), (.aload_n 0, [], 0), (.getfield 26, [1, 3, 2, 378], 0), (.iload_n 3, [], 0), (.bipush 7, [], 0), (.imul, [], 0), (.iload 4, [], 0), (.iadd, [], 0), (.iload 4, [], 0), (.iconst 1, [], 0), (.iadd, [], 0), (.aload_n 0, [], 0), (.getfield 26, [1, 3, 2, 378], 0), (.iload 5, [], 0), (.iaload, [], 0), (.imul, [], 0), (.aload_n 0, [], 0), (.getfield 26, [1, 3, 2, 378], 0), (.iload 5, [], 0), (.iconst 1, [], 0), (.iadd, [], 0), (.iaload, [], 0), (.iadd, [], 0), (.iastore, [], 0), (.iinc 4 1, [], 0), (.goto (-59), [6], 0)])
  | 8 => (9, [(.iinc 3 1, [], 0), (.goto (-74), [4], 0)])
  | 9 => (10, [(.return_, [], 0)])
  | _ => (0, [])
def L_Mt_init : Nat → List Bool := fun b => match b with
  | 0 => [true, true, true, false, false, false]
  | 1 => [true, false, false, true, false, false]
  | 2 => [true, false, false, true, false, false]
  | 3 => [true, false, false, false, false, false]
  | 4 => [true, false, false, true, false, false]
  | 5 => [true, false, false, true, false, false]
  | 6 => [true, false, false, true, true, false]
  | 7 => [true, false, false, true, true, false]
  | 8 => [true, false, false, true, false, false]
  | 9 => [false, false, false, false, false, false]
  | _ => []
def P_Mt_init : List Nat := [0, 81, 87, 100, 102, 108, 111, 122, 173, 179]
def K_Mt_init : KE := (⟨"NameReaders$Meeting", "<init>", "(LNameReaders$Reader;LNameReaders$Reader;)V"⟩, prog_3_method_1_code, 6, (Option.none : Option Jvm.ClassFile.FieldType), B_Mt_init, L_Mt_init, P_Mt_init, [371, 370, 0, 92, 2, 3])
def B_Mt_shortest : BT := fun b => match b with
  | 0 => (1, [(.aload_n 0, [], 0), (.getfield 40, [1, 4, 2, 379], 0), (.iconst 0, [], 0), (.invokevirtual 47, [k_Rd_takesAt, 2, 4, 976], 0), (.ifCond .eq 16, [3, 1], 0)])
  | 1 => (2, [(.aload_n 0, [], 0), (.getfield 44, [1, 5, 2, 380], 0), (.iconst 0, [], 0), (.invokevirtual 47, [k_Rd_takesAt, 2, 4, 976], 0), (.ifCond .eq 5, [3, 2], 0)])
  | 2 => (3, [(.iconst 0, [], 0), (.ireturn, [0], 0)])
  | 3 => (4, [(.aload_n 0, [], 0), (.getfield 16, [1, 0, 2, 375], 0), (.iconst 0, [], 0), (.invokevirtual 53, [k_Sp_startAt, 2, 7, 977], 0), (.aload_n 0, [], 0), (.getfield 20, [1, 1, 2, 376], 0), (.iconst 0, [], 0), (.invokevirtual 53, [k_Sp_startAt, 2, 7, 977], 0), (.iconst 1, [], 0), (.istore_n 1, [], 0)])
  | 4 => (5, [(.iload_n 1, [], 0), (.sipush 31572, [], 0), (.if_icmp .gt 100, [13, 5], 0)])
  | 5 => (6, [(.aload_n 0, [], 0), (.getfield 20, [1, 1, 2, 376], 0), (.invokevirtual 56, [k_Sp_size, 1, 7, 978], 0), (.ifCond .le 90, [13, 6], 0)])
  | 6 => (7, [(.aload_n 0, [], 0), (.getfield 23, [1, 2, 2, 377], 0), (.invokevirtual 60, [k_Sp_clear, 1, 7, 979], 0), (.aload_n 0, [], 0), (.getfield 20, [1, 1, 2, 376], 0), (.iconst 0, [], 0), (.invokevirtual 63, [k_Sp_next, 2, 7, 980], 0), (.istore_n 2, [], 0), (.aload_n 0, [], 0), (.getfield 20, [1, 1, 2, 376], 0), (.invokevirtual 56, [k_Sp_size, 1, 7, 978], 0), (.istore_n 3, [], 0)])
  | 7 => (8, [(.iload_n 3, [], 0), (.ifCond .le 38, [12, 8], 0)])
  | 8 => (9, [(.iload_n 2, [], 0), (.ifCond .lt 34, [12, 9], 0)])
  | 9 => (10, [(.aload_n 0, [], 0), (.iload_n 2, [], 0), (.invokevirtual 66, [k_Mt_comeTo, 2, 1, 981], 0), (.aload_n 0, [], 0), (.invokevirtual 69, [k_Mt_spread, 1, 1, 990], 0), (.ifCond .eq 5, [11, 10], 0)])
  | 10 => (11, [(.iload_n 1, [], 0), (.ireturn, [0], 0)])
  | 11 => (12, [(.aload_n 0, [], 0), (.getfield 20, [1, 1, 2, 376], 0), (.iload_n 2, [], 0), (.iconst 1, [], 0), (.iadd, [], 0), (.invokevirtual 63, [k_Sp_next, 2, 7, 980], 0), (.istore_n 2, [], 0), (.iinc 3 (-1), [], 0), (.goto (-36), [7], 0)])
  | 12 => (13, [(.aload_n 0, [], 0), (.getfield 20, [1, 1, 2, 376], 0), (.astore_n 2, [], 0), (.aload_n 0, [], 0), (.aload_n 0, [], 0), (.getfield 23, [1, 2, 2, 377], 0), (.putfield 20, [1, 1, 2, 376], 0), (.aload_n 0, [], 0), (.aload_n 2, [], 0), (.putfield 23, [1, 2, 2, 377], 0), (.iinc 1 1, [], 0), (.goto (-101), [4], 0)])
  | 13 => (14, [(.iconst (-1), [], 0), (.ireturn, [0], 0)])
  | _ => (0, [])
def L_Mt_shortest : Nat → List Bool := fun b => match b with
  | 0 => [true, false, false, false]
  | 1 => [true, false, false, false]
  | 2 => [false, false, false, false]
  | 3 => [true, false, false, false]
  | 4 => [true, true, false, false]
  | 5 => [true, true, false, false]
  | 6 => [true, true, false, false]
  | 7 => [true, true, true, true]
  | 8 => [true, true, true, true]
  | 9 => [true, true, true, true]
  | 10 => [false, true, false, false]
  | 11 => [true, true, true, true]
  | 12 => [true, true, false, false]
  | 13 => [false, false, false, false]
  | _ => []
def P_Mt_shortest : List Nat := [0, 11, 22, 24, 42, 49, 59, 83, 87, 91, 103, 105, 122, 146]
def K_Mt_shortest : KE := (⟨"NameReaders$Meeting", "shortest", "()I"⟩, prog_3_method_2_code, 4, (Option.some Jvm.ClassFile.FieldType.int), B_Mt_shortest, L_Mt_shortest, P_Mt_shortest, [975, 973, 974, 92, 0, 1])
def B_Mt_spread : BT := fun b => match b with
  | 0 => (1, [(.iconst 0, [], 0), (.istore_n 1, [], 0)])
  | 1 => (2, [(.iload_n 1, [], 0), (.iconst 3, [], 0), (.if_icmp .ge 105, [12, 2], 0)])
  | 2 => (3, [(.iconst 1, [], 0), (.istore_n 2, [], 0)])
  | 3 => (4, [(.iload_n 2, [], 0), (.aload_n 0, [], 0), (.getfield 37, [1, 8, 0, 383], 0), (.if_icmp .gt 89, [11, 4], 0)])
  | 4 => (5, [(.aload_n 0, [], 0), (.getfield 40, [1, 4, 2, 379], 0), (.aload_n 0, [], 0), (.getfield 30, [1, 6, 0, 381], 0), (.iload_n 1, [], 0), (.invokevirtual 73, [k_Rd_end, 3, 4, 994], 0), (.istore_n 3, [], 0), (.aload_n 0, [], 0), (.getfield 40, [1, 4, 2, 379], 0), (.aload_n 0, [], 0), (.getfield 30, [1, 6, 0, 381], 0), (.iload_n 1, [], 0), (.invokevirtual 77, [k_Rd_begin, 3, 4, 995], 0), (.istore 4, [], 0)])
  | 5 => (6, [(.iload 4, [], 0), (.iload_n 3, [], 0), (.if_icmp .ge 50, [10, 6], 0)])
  | 6 => (7, [(.aload_n 0, [], 0), (.getfield 40, [1, 4, 2, 379], 0), (.aload_n 0, [], 0), (.getfield 30, [1, 6, 0, 381], 0), (.aload_n 0, [], 0), (.getfield 40, [1, 4, 2, 379], 0), (.iload 4, [], 0), (.invokevirtual 80, [k_Rd_moveAt, 2, 4, 996], 0), (.iload_n 2, [], 0), (.invokevirtual 83, [k_Rd_after, 4, 4, 997], 0), (.istore 5, [], 0), (.iload 5, [], 0), (.ifCond .lt 16, [9, 7], 0)])
  | 7 => (8, [(.aload_n 0, [], 0), (.iload_n 1, [], 0), (.iload_n 2, [], 0), (.iload 5, [], 0), (.invokevirtual 87, [k_Mt_spreadOther, 4, 1, 998], 0), (.ifCond .eq 5, [9, 8], 0)])
  | 8 => (9, [(.iconst 1, [], 0), (.ireturn, [1], 0)])
  | 9 => (10, [(.iinc 4 1, [], 0), (.goto (-50), [5], 0)])
  | 10 => (11, [(.iinc 2 1, [], 0), (.goto (-91), [3], 0)])
  | 11 => (12, [(.iinc 1 1, [], 0), (.goto (-104), [1], 0)])
  | 12 => (13, [(.iconst 0, [], 0), (.ireturn, [1], 0)])
  | _ => (0, [])
def L_Mt_spread : Nat → List Bool := fun b => match b with
  | 0 => [true, false, false, false, false, false]
  | 1 => [true, true, false, false, false, false]
  | 2 => [true, true, false, false, false, false]
  | 3 => [true, true, true, false, false, false]
  | 4 => [true, true, true, false, false, false]
  | 5 => [true, true, true, true, true, false]
  | 6 => [true, true, true, true, true, false]
  | 7 => [true, true, true, true, true, true]
  | 8 => [false, false, false, false, false, false]
  | 9 => [true, true, true, true, true, false]
  | 10 => [true, true, true, false, false, false]
  | 11 => [true, true, false, false, false, false]
  | 12 => [false, false, false, false, false, false]
  | _ => []
def P_Mt_spread : List Nat := [0, 2, 7, 9, 17, 44, 50, 78, 89, 91, 97, 103, 109]
def K_Mt_spread : KE := (⟨"NameReaders$Meeting", "spread", "()Z"⟩, prog_3_method_3_code, 6, (Option.some Jvm.ClassFile.FieldType.boolean), B_Mt_spread, L_Mt_spread, P_Mt_spread, [993, 992, 28, 92, 0, 1])
def B_Mt_spreadOther : BT := fun b => match b with
  | 0 => (1, [(.aload_n 0, [], 0), (.getfield 44, [1, 5, 2, 380], 0), (.aload_n 0, [], 0), (.getfield 34, [1, 7, 0, 382], 0), (.iload_n 1, [], 0), (.invokevirtual 73, [k_Rd_end, 3, 4, 994], 0), (.istore 4, [], 0), (.aload_n 0, [], 0), (.getfield 44, [1, 5, 2, 380], 0), (.aload_n 0, [], 0), (.getfield 34, [1, 7, 0, 382], 0), (.iload_n 1, [], 0), (.invokevirtual 77, [k_Rd_begin, 3, 4, 995], 0), (.istore 5, [], 0)])
  | 1 => (2, [(.iload 5, [], 0), (.iload 4, [], 0), (.if_icmp .ge 93, [9, 2], 0)])
  | 2 => (3, [(.aload_n 0, [], 0), (.getfield 44, [1, 5, 2, 380], 0), (.aload_n 0, [], 0), (.getfield 34, [1, 7, 0, 382], 0), (.aload_n 0, [], 0), (.getfield 44, [1, 5, 2, 380], 0), (.iload 5, [], 0), (.invokevirtual 80, [k_Rd_moveAt, 2, 4, 996], 0), (.iload_n 2, [], 0), (.invokevirtual 83, [k_Rd_after, 4, 4, 997], 0), (.istore 6, [], 0), (.iload 6, [], 0), (.ifCond .lt 59, [8, 3], 0)])
  | 3 => (4, [(.aload_n 0, [], 0), (.getfield 40, [1, 4, 2, 379], 0), (.iload_n 3, [], 0), (.invokevirtual 47, [k_Rd_takesAt, 2, 4, 976], 0), (.ifCond .eq 17, [6, 4], 0)])
  | 4 => (5, [(.aload_n 0, [], 0), (.getfield 44, [1, 5, 2, 380], 0), (.iload 6, [], 0), (.invokevirtual 47, [k_Rd_takesAt, 2, 4, 976], 0), (.ifCond .eq 5, [6, 5], 0)])
  | 5 => (6, [(.iconst 1, [], 0), (.ireturn, [1], 0)])
  | 6 => (7, [(.aload_n 0, [], 0), (.iload_n 3, [], 0), (.iload 6, [], 0), (.invokevirtual 91, [k_Mt_placeOf, 3, 1, 1002], 0), (.istore 7, [], 0), (.aload_n 0, [], 0), (.getfield 16, [1, 0, 2, 375], 0), (.iload 7, [], 0), (.invokevirtual 94, [k_Sp_add, 2, 7, 1006], 0), (.ifCond .eq 13, [8, 7], 0)])
  | 7 => (8, [(.aload_n 0, [], 0), (.getfield 23, [1, 2, 2, 377], 0), (.iload 7, [], 0), (.invokevirtual 94, [k_Sp_add, 2, 7, 1006], 0), (.pop, [], 0)])
  | 8 => (9, [(.iinc 5 1, [], 0), (.goto (-94), [1], 0)])
  | 9 => (10, [(.iconst 0, [], 0), (.ireturn, [1], 0)])
  | _ => (0, [])
def L_Mt_spreadOther : Nat → List Bool := fun b => match b with
  | 0 => [true, true, true, true, false, false, false, false]
  | 1 => [true, false, true, true, true, true, false, false]
  | 2 => [true, false, true, true, true, true, false, false]
  | 3 => [true, false, true, true, true, true, true, false]
  | 4 => [true, false, true, true, true, true, true, false]
  | 5 => [false, false, false, false, false, false, false, false]
  | 6 => [true, false, true, true, true, true, true, false]
  | 7 => [true, false, true, true, true, true, false, true]
  | 8 => [true, false, true, true, true, true, false, false]
  | 9 => [false, false, false, false, false, false, false, false]
  | _ => []
def P_Mt_spreadOther : List Nat := [0, 28, 35, 63, 74, 86, 88, 109, 119, 125]
def K_Mt_spreadOther : KE := (⟨"NameReaders$Meeting", "spreadOther", "(III)Z"⟩, prog_3_method_4_code, 8, (Option.some Jvm.ClassFile.FieldType.boolean), B_Mt_spreadOther, L_Mt_spreadOther, P_Mt_spreadOther, [1001, 1000, 29, 92, 0, 4])
def B_Mt_placeOf : BT := fun b => match b with
  | 0 => (1, [(.iload_n 1, [], 0), (.sipush 4095, [], 0), (.iand, [], 0), (.iload_n 2, [], 0), (.sipush 4095, [], 0), (.iand, [], 0), (.bipush 12, [], 0), (.ishl, [], 0), (.ior, [], 0), (.istore_n 3, [], 0), (.iconst 0, [], 0), (.istore 4, [], 0), (.iconst 0, [], 0), (.istore 5, [], 0), (.iconst 0, [], 0), (.istore 6, [], 0), (.iconst 0, [], 0), (.istore 7, [], 0)])
  | 1 => (2, [(.iload 7, [], 0), (.bipush 6, [], 0), (.if_icmp .ge 83, [6, 2], 0)])
  | 2 => (3, [(.iload_n 3, [], 0), (.iconst 4, [], 0), (.iload 7, [], 0), (.imul, [], 0), (.ishr, [], 0), (.bipush 15, [], 0), (.iand, [], 0), (.iconst 2, [], 0), (.ishl, [], 0), (.istore 8, [], 0), (.iload 4, [], 0), (.iload 8, [], 0), (.ishr, [], 0), (.bipush 15, [], 0), (.iand, [], 0), (.istore 9, [], 0), (.iload 8, [], 0), (.ifCond .le 24, [5, 3], 0)])
  | 3 => (4, [(.iload 9, [], 0), (.ifCond .ne 19, [5, 4], 0)])
  | 4 => (5, [(.iload 5, [], 0), (.iconst 1, [], 0), (.iadd, [], 0), (.istore 9, [], 0), (.iload 4, [], 0), (.iload 9, [], 0), (.iload 8, [], 0), (.ishl, [], 0), (.ior, [], 0), (.istore 4, [], 0)])
  | 5 => (6, [(.iload 6, [], 0), (.iload 9, [], 0), (.aload_n 0, [], 0), (.iload 7, [], 0), (.iload 5, [], 0), (.invokevirtual 97, [k_Mt_rowsBehind, 3, 1, 985], 0), (.imul, [], 0), (.iadd, [], 0), (.istore 6, [], 0), (.iload 5, [], 0), (.iload 9, [], 0), (.invokestatic 100, [k_J_max, 2, 989], 0), (.istore 5, [], 0), (.iinc 7 1, [], 0), (.goto (-84), [1], 0)])
  | 6 => (7, [(.iload_n 1, [], 0), (.bipush 12, [], 0), (.ishr, [], 0), (.bipush 6, [], 0), (.imul, [], 0), (.iload_n 2, [], 0), (.bipush 12, [], 0), (.ishr, [], 0), (.iadd, [], 0), (.sipush 877, [], 0), (.imul, [], 0), (.iload 6, [], 0), (.iadd, [], 0), (.ireturn, [0], 0)])
  | _ => (0, [])
def L_Mt_placeOf : Nat → List Bool := fun b => match b with
  | 0 => [true, true, true, false, false, false, false, false, false, false]
  | 1 => [true, true, true, true, true, true, true, true, false, false]
  | 2 => [true, true, true, true, true, true, true, true, false, false]
  | 3 => [true, true, true, true, true, true, true, true, true, true]
  | 4 => [true, true, true, true, true, true, true, true, true, false]
  | 5 => [true, true, true, true, true, true, true, true, false, true]
  | 6 => [false, true, true, false, false, false, true, false, false, false]
  | _ => []
def P_Mt_placeOf : List Nat := [0, 27, 34, 62, 67, 83, 114]
def K_Mt_placeOf : KE := (⟨"NameReaders$Meeting", "placeOf", "(II)I"⟩, prog_3_method_5_code, 10, (Option.some Jvm.ClassFile.FieldType.int), B_Mt_placeOf, L_Mt_placeOf, P_Mt_placeOf, [1005, 1004, 30, 92, 0, 3])
def B_Mt_comeTo : BT := fun b => match b with
  | 0 => (1, [(.iload_n 1, [], 0), (.sipush 877, [], 0), (.irem, [], 0), (.istore_n 2, [], 0), (.iconst 0, [], 0), (.istore_n 3, [], 0), (.iconst 0, [], 0), (.istore 4, [], 0), (.iconst 0, [], 0), (.istore 5, [], 0)])
  | 1 => (2, [(.iload 5, [], 0), (.bipush 6, [], 0), (.if_icmp .ge 65, [7, 2], 0)])
  | 2 => (3, [(.aload_n 0, [], 0), (.iload 5, [], 0), (.iload 4, [], 0), (.invokevirtual 97, [k_Mt_rowsBehind, 3, 1, 985], 0), (.istore 6, [], 0), (.iconst 0, [], 0), (.istore 7, [], 0)])
  | 3 => (4, [(.iload 7, [], 0), (.iload 4, [], 0), (.if_icmp .gt 20, [6, 4], 0)])
  | 4 => (5, [(.iload_n 2, [], 0), (.iload 6, [], 0), (.if_icmp .lt 14, [6, 5], 0)])
  | 5 => (6, [(.iload_n 2, [], 0), (.iload 6, [], 0), (.isub, [], 0), (.istore_n 2, [], 0), (.iinc 7 1, [], 0), (.goto (-21), [3], 0)])
  | 6 => (7, [(.iload_n 3, [], 0), (.iload 7, [], 0), (.iconst 4, [], 0), (.iload 5, [], 0), (.imul, [], 0), (.ishl, [], 0), (.ior, [], 0), (.istore_n 3, [], 0), (.iload 4, [], 0), (.iload 7, [], 0), (.invokestatic 100, [k_J_max, 2, 989], 0), (.istore 4, [], 0), (.iinc 5 1, [], 0), (.goto (-66), [1], 0)])
  | 7 => (8, [(.iload_n 1, [], 0), (.sipush 877, [], 0), (.idiv, [], 0), (.istore 5, [], 0), (.aload_n 0, [], 0), (.iload 5, [], 0), (.bipush 6, [], 0), (.idiv, [], 0), (.bipush 12, [], 0), (.ishl, [], 0), (.iload_n 3, [], 0), (.sipush 4095, [], 0), (.iand, [], 0), (.ior, [], 0), (.putfield 30, [1, 6, 0, 381], 0), (.aload_n 0, [], 0), (.iload 5, [], 0), (.bipush 6, [], 0), (.irem, [], 0), (.bipush 12, [], 0), (.ishl, [], 0), (.iload_n 3, [], 0), (.bipush 12, [], 0), (.ishr, [], 0), (.ior, [], 0), (.putfield 34, [1, 7, 0, 382], 0), (.aload_n 0, [], 0), (.iload 4, [], 0), (.iconst 1, [], 0), (.iadd, [], 0), (.putfield 37, [1, 8, 0, 383], 0), (.return_, [], 0)])
  | _ => (0, [])
def L_Mt_comeTo : Nat → List Bool := fun b => match b with
  | 0 => [true, true, false, false, false, false, false, false]
  | 1 => [true, true, true, true, true, true, false, false]
  | 2 => [true, true, true, true, true, true, false, false]
  | 3 => [true, true, true, true, true, true, true, true]
  | 4 => [true, true, true, true, true, true, true, true]
  | 5 => [true, true, true, true, true, true, true, true]
  | 6 => [true, true, true, true, true, true, false, true]
  | 7 => [true, true, false, true, true, false, false, false]
  | _ => []
def P_Mt_comeTo : List Nat := [0, 14, 21, 34, 41, 47, 58, 83]
def K_Mt_comeTo : KE := (⟨"NameReaders$Meeting", "comeTo", "(I)V"⟩, prog_3_method_6_code, 8, (Option.none : Option Jvm.ClassFile.FieldType), B_Mt_comeTo, L_Mt_comeTo, P_Mt_comeTo, [984, 983, 26, 92, 0, 2])
def B_Mt_rowsBehind : BT := fun b => match b with
  | 0 => (1, [(.aload_n 0, [], 0), (.getfield 26, [1, 3, 2, 378], 0), (.iconst 5, [], 0), (.iload_n 1, [], 0), (.isub, [], 0), (.bipush 7, [], 0), (.imul, [], 0), (.iload_n 2, [], 0), (.iadd, [], 0), (.iaload, [], 0), (.ireturn, [0], 0)])
  | _ => (0, [])
def L_Mt_rowsBehind : Nat → List Bool := fun b => match b with
  | 0 => [true, true, true]
  | _ => []
def P_Mt_rowsBehind : List Nat := [0]
def K_Mt_rowsBehind : KE := (⟨"NameReaders$Meeting", "rowsBehind", "(II)I"⟩, prog_3_method_7_code, 3, (Option.some Jvm.ClassFile.FieldType.int), B_Mt_rowsBehind, L_Mt_rowsBehind, P_Mt_rowsBehind, [988, 987, 27, 92, 0, 3])
def B_Mn_init : BT := fun b => match b with
  | 0 => (1, [(.aload_n 0, [], 0), (.invokespecial 5, [0, 1, 2, 291], 0), (.aload_n 0, [], 0), (.bipush 13, [], 0), (.newarray .int, [0], 0), (.putfield 11, [2, 0, 2, 292], 0), (.aload_n 0, [], 0), (.bipush 13, [], 0), (.newarray .int, [0], 0), (.putfield 15, [2, 1, 2, 293], 0), (.aload_n 0, [], 0), (.aload_n 1, [], 0), (.putfield 18, [2, 2, 2, 294], 0), (.aload_n 0, [], 0), (.aload_n 2, [], 0), (.putfield 22, [2, 3, 2, 295], 0), (.aload_n 0, [], 0), (.aload_n 3, [], 0), (.putfield 25, [2, 4, 2, 296], 0), (.aload_n 0, [], 0), (.aload 4, [], 0), (.putfield 29, [2, 5, 2, 297], 0), (.return_, [], 0)])
  | _ => (0, [])
def L_Mn_init : Nat → List Bool := fun b => match b with
  | 0 => [true, true, true, true, true]
  | _ => []
def P_Mn_init : List Nat := [0]
def K_Mn_init : KE := (⟨"NameReaders$Mender", "<init>", "(LNameReaders$Spots;LNameReaders$Spots;[J[J)V"⟩, prog_4_method_1_code, 5, (Option.none : Option Jvm.ClassFile.FieldType), B_Mn_init, L_Mn_init, P_Mn_init, [290, 289, 0, 89, 2, 5])
def B_Mn_fewest : BT := fun b => match b with
  | 0 => (1, [(.aload_n 0, [], 0), (.aload_n 1, [], 0), (.aload_n 2, [], 0), (.invokevirtual 32, [k_Mn_survey, 3, 2, 1093], 0), (.aload_n 0, [], 0), (.getfield 18, [2, 2, 2, 294], 0), (.iconst 0, [], 0), (.invokevirtual 36, [k_Sp_startAt, 2, 7, 1104], 0), (.aload_n 0, [], 0), (.getfield 25, [2, 4, 2, 296], 0), (.iconst 0, [], 0), (.iconst 0, [], 0), (.invokestatic 42, [k_Mn_setCost, 3, 1105], 0), (.iconst 0, [], 0), (.istore_n 3, [], 0)])
  | 1 => (2, [(.iload_n 3, [], 0), (.aload_n 2, [], 0), (.invokevirtual 46, [k_Rw_size, 1, 5, 1097], 0), (.if_icmp .ge 77, [7, 2], 0)])
  | 2 => (3, [(.aload_n 0, [], 0), (.getfield 22, [2, 3, 2, 295], 0), (.invokevirtual 52, [k_Sp_clear, 1, 7, 1110], 0), (.aload_n 0, [], 0), (.getfield 18, [2, 2, 2, 294], 0), (.iconst 0, [], 0), (.invokevirtual 55, [k_Sp_next, 2, 7, 1111], 0), (.istore 4, [], 0), (.aload_n 0, [], 0), (.getfield 18, [2, 2, 2, 294], 0), (.invokevirtual 58, [k_Sp_size, 1, 7, 1112], 0), (.istore 5, [], 0)])
  | 3 => (4, [(.iload 5, [], 0), (.ifCond .le 36, [6, 4], 0)])
  | 4 => (5, [(.iload 4, [], 0), (.ifCond .lt 31, [6, 5], 0)])
  | 5 => (6, [(.aload_n 0, [], 0), (.aload_n 1, [], 0), (.aload_n 2, [], 0), (.iload_n 3, [], 0), (.iload 4, [], 0), (.invokevirtual 59, [k_Mn_spread, 5, 2, 1113], 0), (.aload_n 0, [], 0), (.getfield 18, [2, 2, 2, 294], 0), (.iload 4, [], 0), (.iconst 1, [], 0), (.iadd, [], 0), (.invokevirtual 55, [k_Sp_next, 2, 7, 1111], 0), (.istore 4, [], 0), (.iinc 5 (-1), [], 0), (.goto (-35), [3], 0)])
  | 6 => (7, [(.aload_n 0, [], 0), (.invokevirtual 63, [k_Mn_turn, 1, 2, 1136], 0), (.iinc 3 1, [], 0), (.goto (-79), [1], 0)])
  | 7 => (8, [(.iconst (-1), [], 0), (.istore_n 3, [], 0), (.aload_n 0, [], 0), (.getfield 18, [2, 2, 2, 294], 0), (.iconst 0, [], 0), (.invokevirtual 55, [k_Sp_next, 2, 7, 1111], 0), (.istore 4, [], 0), (.aload_n 0, [], 0), (.getfield 18, [2, 2, 2, 294], 0), (.invokevirtual 58, [k_Sp_size, 1, 7, 1112], 0), (.istore 5, [], 0)])
  | 8 => (9, [(.iload 5, [], 0), (.ifCond .le 60, [15, 9], 0)])
  | 9 => (10, [(.iload 4, [], 0), (.ifCond .lt 55, [15, 10], 0)])
  | 10 => (11, [(.aload_n 0, [], 0), (.getfield 25, [2, 4, 2, 296], 0), (.iload 4, [], 0), (.invokestatic 66, [k_Mn_costOf, 2, 1117], 0), (.istore 6, [], 0), (.aload_n 1, [], 0), (.iload 4, [], 0), (.invokevirtual 70, [k_Rd_takesAt, 2, 4, 1140], 0), (.ifCond .eq 16, [14, 11], 0)])
  | 11 => (12, [(.iload_n 3, [], 0), (.ifCond .lt 9, [13, 12], 0)])
  | 12 => (13, [(.iload 6, [], 0), (.iload_n 3, [], 0), (.if_icmp .ge 6, [14, 13], 0)])
  | 13 => (14, [(.iload 6, [], 0), (.istore_n 3, [], 0)])
  | 14 => (15, [(.aload_n 0, [], 0), (.getfield 18, [2, 2, 2, 294], 0), (.iload 4, [], 0), (.iconst 1, [], 0), (.iadd, [], 0), (.invokevirtual 55, [k_Sp_next, 2, 7, 1111], 0), (.istore 4, [], 0), (.iinc 5 (-1), [], 0), (.goto (-59), [8], 0)])
  | 15 => (16, [(.iload_n 3, [], 0), (.ireturn, [0], 0)])
  | _ => (0, [])
def L_Mn_fewest : Nat → List Bool := fun b => match b with
  | 0 => [true, true, true, false, false, false, false]
  | 1 => [true, true, true, true, false, false, false]
  | 2 => [true, true, true, true, false, false, false]
  | 3 => [true, true, true, true, true, true, false]
  | 4 => [true, true, true, true, true, true, false]
  | 5 => [true, true, true, true, true, true, false]
  | 6 => [true, true, true, true, false, false, false]
  | 7 => [true, true, false, false, false, false, false]
  | 8 => [true, true, false, true, true, true, false]
  | 9 => [true, true, false, true, true, true, false]
  | 10 => [true, true, false, true, true, true, false]
  | 11 => [true, true, false, true, true, true, true]
  | 12 => [true, true, false, true, true, true, true]
  | 13 => [true, true, false, false, true, true, true]
  | 14 => [true, true, false, true, true, true, false]
  | 15 => [false, false, false, true, false, false, false]
  | _ => []
def P_Mn_fewest : List Nat := [0, 25, 33, 59, 64, 69, 97, 107, 128, 133, 138, 158, 162, 168, 171, 190]
def K_Mn_fewest : KE := (⟨"NameReaders$Mender", "fewest", "(LNameReaders$Reader;LNameReaders$Row;)I"⟩, prog_4_method_2_code, 7, (Option.some Jvm.ClassFile.FieldType.int), B_Mn_fewest, L_Mn_fewest, P_Mn_fewest, [1092, 1090, 1091, 89, 0, 3])
def B_Mn_survey : BT := fun b => match b with
  | 0 => (1, [(.aload_n 0, [], 0), (.getfield 11, [2, 0, 2, 292], 0), (.aload_n 2, [], 0), (.invokevirtual 46, [k_Rw_size, 1, 5, 1097], 0), (.iconst 1, [], 0), (.iastore, [], 0), (.aload_n 0, [], 0), (.getfield 15, [2, 1, 2, 293], 0), (.aload_n 2, [], 0), (.invokevirtual 46, [k_Rw_size, 1, 5, 1097], 0), (.iconst 0, [], 0), (.iastore, [], 0), (.aload_n 2, [], 0), (.invokevirtual 46, [k_Rw_size, 1, 5, 1097], 0), (.iconst 1, [], 0), (.isub, [], 0), (.istore_n 3, [], 0)])
  | 1 => (2, [(.iload_n 3, [], 0), (.ifCond .lt 110, [13, 2], 0)])
  | 2 => (3, [(.aload_n 1, [], 0), (.aload_n 2, [], 0), (.iload_n 3, [], 0), (.invokevirtual 76, [k_Rw_letter, 2, 5, 1098], 0), (.iconst 0, [], 0), (.iconst 2, [], 0), (.invokevirtual 79, [k_Rd_hasTest, 4, 4, 1099], 0), (.istore 4, [], 0), (.iload 4, [], 0), (.ifCond .ne 17, [4, 3], 0)])
  | 3 => (4, [(.aload_n 1, [], 0), (.aload_n 2, [], 0), (.iload_n 3, [], 0), (.invokevirtual 76, [k_Rw_letter, 2, 5, 1098], 0), (.iconst 3, [], 0), (.iconst 3, [], 0), (.invokevirtual 79, [k_Rd_hasTest, 4, 4, 1099], 0), (.ifCond .eq 7, [5, 4], 0)])
  | 4 => (5, [(.iconst 1, [], 0), (.goto 4, [6], 0)])
  | 5 => (6, [(.iconst 0, [], 0)])
  | 6 => (7, [(.istore 5, [], 0), (.aload_n 0, [], 0), (.getfield 15, [2, 1, 2, 293], 0), (.iload_n 3, [], 0), (.aload_n 0, [], 0), (.getfield 15, [2, 1, 2, 293], 0), (.iload_n 3, [], 0), (.iconst 1, [], 0), (.iadd, [], 0), (.iaload, [], 0), (.iload 4, [], 0), (.ifCond .eq 13, [8, 7], 0)])
  | 7 => (8, [(.iconst 1, [], 0), (.aload_n 2, [], 0), (.iload_n 3, [], 0), (.invokevirtual 83, [k_Rw_id, 2, 5, 1103], 0), (.ishl, [], 0), (.goto 4, [9], 0)])
  | 8 => (9, [(.iconst 0, [], 0)])
  | 9 => (10, [(.ior, [], 0), (.iastore, [], 0), (.aload_n 0, [], 0), (.getfield 11, [2, 0, 2, 292], 0), (.iload_n 3, [], 0), (.aload_n 0, [], 0), (.getfield 11, [2, 0, 2, 292], 0), (.iload_n 3, [], 0), (.iconst 1, [], 0), (.iadd, [], 0), (.iaload, [], 0), (.iload 5, [], 0), (.ifCond .eq 13, [11, 10], 0)])
  | 10 => (11, [(.iconst 1, [], 0), (.aload_n 2, [], 0), (.iload_n 3, [], 0), (.invokevirtual 83, [k_Rw_id, 2, 5, 1103], 0), (.ishl, [], 0), (.goto 4, [12], 0)])
  | 11 => (12, [(.iconst 0, [], 0)])
  | 12 => (13, [(.ior, [], 0), (.iastore, [], 0), (.iinc 3 (-1), [], 0), (.goto (-108), [1], 0)])
  | 13 => (14, [(.return_, [], 0)])
  | _ => (0, [])
def L_Mn_survey : Nat → List Bool := fun b => match b with
  | 0 => [true, true, true, false, false, false]
  | 1 => [true, true, true, true, false, false]
  | 2 => [true, true, true, true, false, false]
  | 3 => [true, true, true, true, true, false]
  | 4 => [true, true, true, true, true, false]
  | 5 => [true, true, true, true, true, false]
  | 6 => [true, true, true, true, true, false]
  | 7 => [true, true, true, true, false, true]
  | 8 => [true, true, true, true, false, true]
  | 9 => [true, true, true, true, false, true]
  | 10 => [true, true, true, true, false, false]
  | 11 => [true, true, true, true, false, false]
  | 12 => [true, true, true, true, false, false]
  | 13 => [false, false, false, false, false, false]
  | _ => []
def P_Mn_survey : List Nat := [0, 27, 31, 49, 63, 67, 68, 88, 98, 99, 119, 129, 130, 138]
def K_Mn_survey : KE := (⟨"NameReaders$Mender", "survey", "(LNameReaders$Reader;LNameReaders$Row;)V"⟩, prog_4_method_3_code, 6, (Option.none : Option Jvm.ClassFile.FieldType), B_Mn_survey, L_Mn_survey, P_Mn_survey, [1096, 1095, 36, 89, 0, 3])
def B_Mn_turn : BT := fun b => match b with
  | 0 => (1, [(.aload_n 0, [], 0), (.getfield 18, [2, 2, 2, 294], 0), (.astore_n 1, [], 0), (.aload_n 0, [], 0), (.aload_n 0, [], 0), (.getfield 22, [2, 3, 2, 295], 0), (.putfield 18, [2, 2, 2, 294], 0), (.aload_n 0, [], 0), (.aload_n 1, [], 0), (.putfield 22, [2, 3, 2, 295], 0), (.aload_n 0, [], 0), (.getfield 25, [2, 4, 2, 296], 0), (.astore_n 2, [], 0), (.aload_n 0, [], 0), (.aload_n 0, [], 0), (.getfield 29, [2, 5, 2, 297], 0), (.putfield 25, [2, 4, 2, 296], 0), (.aload_n 0, [], 0), (.aload_n 2, [], 0), (.putfield 29, [2, 5, 2, 297], 0), (.return_, [], 0)])
  | _ => (0, [])
def L_Mn_turn : Nat → List Bool := fun b => match b with
  | 0 => [true, false, false]
  | _ => []
def P_Mn_turn : List Nat := [0]
def K_Mn_turn : KE := (⟨"NameReaders$Mender", "turn", "()V"⟩, prog_4_method_4_code, 3, (Option.none : Option Jvm.ClassFile.FieldType), B_Mn_turn, L_Mn_turn, P_Mn_turn, [1139, 1138, 40, 89, 0, 1])
def B_Mn_spread : BT := fun b => match b with
  | 0 => (1, [(.aload_n 0, [], 0), (.getfield 25, [2, 4, 2, 296], 0), (.iload 4, [], 0), (.invokestatic 66, [k_Mn_costOf, 2, 1117], 0), (.istore 5, [], 0), (.iconst 0, [], 0), (.istore 6, [], 0)])
  | 1 => (2, [(.iload 6, [], 0), (.iconst 3, [], 0), (.if_icmp .ge 98, [8, 2], 0)])
  | 2 => (3, [(.aload_n 1, [], 0), (.iload 4, [], 0), (.iload 6, [], 0), (.invokevirtual 86, [k_Rd_end, 3, 4, 1120], 0), (.istore 7, [], 0), (.aload_n 1, [], 0), (.iload 4, [], 0), (.iload 6, [], 0), (.invokevirtual 90, [k_Rd_begin, 3, 4, 1121], 0), (.istore 8, [], 0)])
  | 3 => (4, [(.iload 8, [], 0), (.iload 7, [], 0), (.if_icmp .ge 65, [7, 4], 0)])
  | 4 => (5, [(.aload_n 1, [], 0), (.iload 8, [], 0), (.invokevirtual 93, [k_Rd_moveAt, 2, 4, 1122], 0), (.istore 9, [], 0), (.iload 6, [], 0), (.aload_n 2, [], 0), (.iload_n 3, [], 0), (.invokevirtual 76, [k_Rw_letter, 2, 5, 1098], 0), (.if_icmp .ne 25, [6, 5], 0)])
  | 5 => (6, [(.aload_n 0, [], 0), (.aload_n 1, [], 0), (.iload 4, [], 0), (.iload 9, [], 0), (.aload_n 2, [], 0), (.iload_n 3, [], 0), (.invokevirtual 83, [k_Rw_id, 2, 5, 1103], 0), (.invokevirtual 96, [k_Rd_after, 4, 4, 1123], 0), (.iload_n 3, [], 0), (.iconst 1, [], 0), (.iadd, [], 0), (.iload 5, [], 0), (.invokevirtual 100, [k_Mn_come, 4, 2, 1124], 0)])
  | 6 => (7, [(.aload_n 0, [], 0), (.aload_n 1, [], 0), (.iload 4, [], 0), (.iload 9, [], 0), (.iload_n 3, [], 0), (.iconst 1, [], 0), (.iadd, [], 0), (.iload 5, [], 0), (.iconst 1, [], 0), (.iadd, [], 0), (.invokevirtual 104, [k_Mn_spreadChanged, 6, 2, 1130], 0), (.iinc 8 1, [], 0), (.goto (-66), [3], 0)])
  | 7 => (8, [(.iinc 6 1, [], 0), (.goto (-98), [1], 0)])
  | 8 => (9, [(.return_, [], 0)])
  | _ => (0, [])
def L_Mn_spread : Nat → List Bool := fun b => match b with
  | 0 => [true, true, true, true, true, false, false, false, false, false]
  | 1 => [true, true, true, true, true, true, true, false, false, false]
  | 2 => [true, true, true, true, true, true, true, false, false, false]
  | 3 => [true, true, true, true, true, true, true, true, true, false]
  | 4 => [true, true, true, true, true, true, true, true, true, false]
  | 5 => [true, true, true, true, true, true, true, true, true, true]
  | 6 => [true, true, true, true, true, true, true, true, true, true]
  | 7 => [true, true, true, true, true, true, true, false, false, false]
  | 8 => [false, false, false, false, false, false, false, false, false, false]
  | _ => []
def P_Mn_spread : List Nat := [0, 14, 20, 40, 47, 65, 87, 109, 115]
def K_Mn_spread : KE := (⟨"NameReaders$Mender", "spread", "(LNameReaders$Reader;LNameReaders$Row;II)V"⟩, prog_4_method_5_code, 10, (Option.none : Option Jvm.ClassFile.FieldType), B_Mn_spread, L_Mn_spread, P_Mn_spread, [1116, 1115, 37, 89, 0, 5])
def B_Mn_spreadChanged : BT := fun b => match b with
  | 0 => (1, [(.aload_n 1, [], 0), (.iload_n 3, [], 0), (.iconst 2, [], 0), (.invokevirtual 108, [k_Rd_part, 3, 4, 1134], 0), (.istore 6, [], 0), (.iload 6, [], 0), (.iconst 3, [], 0), (.if_icmp .ge 33, [4, 1], 0)])
  | 1 => (2, [(.iload_n 2, [], 0), (.iload 6, [], 0), (.invokestatic 111, [k_Rd_heldIn, 2, 1135], 0), (.istore 7, [], 0), (.iload 7, [], 0), (.ifCond .le 19, [3, 2], 0)])
  | 2 => (3, [(.aload_n 0, [], 0), (.aload_n 1, [], 0), (.iload_n 2, [], 0), (.iload_n 3, [], 0), (.iload 7, [], 0), (.invokevirtual 96, [k_Rd_after, 4, 4, 1123], 0), (.iload 4, [], 0), (.iload 5, [], 0), (.invokevirtual 100, [k_Mn_come, 4, 2, 1124], 0)])
  | 3 => (4, [(.return_, [], 0)])
  | 4 => (5, [(.aload_n 0, [], 0), (.aload_n 1, [], 0), (.iload_n 2, [], 0), (.iload_n 3, [], 0), (.bipush 14, [], 0), (.invokevirtual 96, [k_Rd_after, 4, 4, 1123], 0), (.iload 4, [], 0), (.iload 5, [], 0), (.invokevirtual 100, [k_Mn_come, 4, 2, 1124], 0), (.aload_n 1, [], 0), (.iload_n 3, [], 0), (.iconst 3, [], 0), (.invokevirtual 108, [k_Rd_part, 3, 4, 1134], 0), (.ifCond .ge 4, [6, 5], 0)])
  | 5 => (6, [(.return_, [], 0)])
  | 6 => (7, [(.iconst 1, [], 0), (.istore 7, [], 0)])
  | 7 => (8, [(.iload 7, [], 0), (.bipush 13, [], 0), (.if_icmp .ge 40, [11, 8], 0)])
  | 8 => (9, [(.aload_n 0, [], 0), (.getfield 15, [2, 1, 2, 293], 0), (.iload 4, [], 0), (.iaload, [], 0), (.iload 7, [], 0), (.ishr, [], 0), (.iconst 1, [], 0), (.iand, [], 0), (.ifCond .eq 19, [10, 9], 0)])
  | 9 => (10, [(.aload_n 0, [], 0), (.aload_n 1, [], 0), (.iload_n 2, [], 0), (.iload_n 3, [], 0), (.iload 7, [], 0), (.invokevirtual 96, [k_Rd_after, 4, 4, 1123], 0), (.iload 4, [], 0), (.iload 5, [], 0), (.invokevirtual 100, [k_Mn_come, 4, 2, 1124], 0)])
  | 10 => (11, [(.iinc 7 1, [], 0), (.goto (-41), [7], 0)])
  | 11 => (12, [(.return_, [], 0)])
  | _ => (0, [])
def L_Mn_spreadChanged : Nat → List Bool := fun b => match b with
  | 0 => [true, true, true, true, true, true, false, false]
  | 1 => [true, true, true, true, true, true, true, false]
  | 2 => [true, true, true, true, true, true, false, true]
  | 3 => [false, false, false, false, false, false, false, false]
  | 4 => [true, true, true, true, true, true, false, false]
  | 5 => [false, false, false, false, false, false, false, false]
  | 6 => [true, true, true, true, true, true, false, false]
  | 7 => [true, true, true, true, true, true, false, true]
  | 8 => [true, true, true, true, true, true, false, true]
  | 9 => [true, true, true, true, true, true, false, true]
  | 10 => [true, true, true, true, true, true, false, true]
  | 11 => [false, false, false, false, false, false, false, false]
  | _ => []
def P_Mn_spreadChanged : List Nat := [0, 14, 27, 43, 44, 69, 70, 73, 80, 95, 111, 117]
def K_Mn_spreadChanged : KE := (⟨"NameReaders$Mender", "spreadChanged", "(LNameReaders$Reader;IIII)V"⟩, prog_4_method_6_code, 8, (Option.none : Option Jvm.ClassFile.FieldType), B_Mn_spreadChanged, L_Mn_spreadChanged, P_Mn_spreadChanged, [1133, 1132, 39, 89, 0, 6])
def B_Mn_come : BT := fun b => match b with
  | 0 => (1, [(.iload_n 1, [], 0), (.ifCond .ge 4, [2, 1], 0)])
  | 1 => (2, [(.return_, [], 0)])
  | 2 => (3, [(.iload_n 1, [], 0), (.aload_n 0, [], 0), (.getfield 11, [2, 0, 2, 292], 0), (.iload_n 2, [], 0), (.iaload, [], 0), (.bipush 13, [], 0), (.invokestatic 114, [k_Rd_settle, 3, 1128], 0), (.istore 4, [], 0), (.aload_n 0, [], 0), (.getfield 22, [2, 3, 2, 295], 0), (.iload 4, [], 0), (.invokevirtual 117, [k_Sp_add, 2, 7, 1129], 0), (.ifCond .ne 16, [4, 3], 0)])
  | 3 => (4, [(.iload_n 3, [], 0), (.aload_n 0, [], 0), (.getfield 29, [2, 5, 2, 297], 0), (.iload 4, [], 0), (.invokestatic 66, [k_Mn_costOf, 2, 1117], 0), (.if_icmp .ge 13, [5, 4], 0)])
  | 4 => (5, [(.aload_n 0, [], 0), (.getfield 29, [2, 5, 2, 297], 0), (.iload 4, [], 0), (.iload_n 3, [], 0), (.invokestatic 42, [k_Mn_setCost, 3, 1105], 0)])
  | 5 => (6, [(.return_, [], 0)])
  | _ => (0, [])
def L_Mn_come : Nat → List Bool := fun b => match b with
  | 0 => [true, true, true, true, false]
  | 1 => [false, false, false, false, false]
  | 2 => [true, true, true, true, false]
  | 3 => [true, false, false, true, true]
  | 4 => [true, false, false, true, true]
  | 5 => [false, false, false, false, false]
  | _ => []
def P_Mn_come : List Nat := [0, 4, 5, 31, 44, 54]
def K_Mn_come : KE := (⟨"NameReaders$Mender", "come", "(III)V"⟩, prog_4_method_7_code, 5, (Option.none : Option Jvm.ClassFile.FieldType), B_Mn_come, L_Mn_come, P_Mn_come, [1127, 1126, 38, 89, 0, 4])
def B_Mn_costOf : BT := fun b => match b with
  | 0 => (1, [(.aload_n 0, [], 0), (.iload_n 1, [], 0), (.iconst 4, [], 0), (.ishr, [], 0), (.laload, [], 0), (.iload_n 1, [], 0), (.bipush 15, [], 0), (.iand, [], 0), (.iconst 2, [], 0), (.ishl, [], 0), (.lshr, [], 0), (.ldc2_w 120, [1108], 15), (.land, [], 0), (.l2i, [], 0), (.ireturn, [0], 0)])
  | _ => (0, [])
def L_Mn_costOf : Nat → List Bool := fun b => match b with
  | 0 => [true, true]
  | _ => []
def P_Mn_costOf : List Nat := [0]
def K_Mn_costOf : KE := (⟨"NameReaders$Mender", "costOf", "([JI)I"⟩, prog_4_method_8_code, 2, (Option.some Jvm.ClassFile.FieldType.int), B_Mn_costOf, L_Mn_costOf, P_Mn_costOf, [1119, 1118, 0, 89, 1, 2])
def B_Mn_setCost : BT := fun b => match b with
  | 0 => (1, [(.iload_n 1, [], 0), (.bipush 15, [], 0), (.iand, [], 0), (.iconst 2, [], 0), (.ishl, [], 0), (.istore_n 3, [], 0), (.aload_n 0, [], 0), (.iload_n 1, [], 0), (.iconst 4, [], 0), (.ishr, [], 0), (.aload_n 0, [], 0), (.iload_n 1, [], 0), (.iconst 4, [], 0), (.ishr, [], 0), (.laload, [], 0), (.ldc2_w 120, [1108], 15), (.iload_n 3, [], 0), (.lshl, [], 0), (.ldc2_w 122, [1109], -1), (.lxor, [], 0), (.land, [], 0), (.iload_n 2, [], 0), (.i2l, [], 0), (.iload_n 3, [], 0), (.lshl, [], 0), (.lor, [], 0), (.lastore, [], 0), (.return_, [], 0)])
  | _ => (0, [])
def L_Mn_setCost : Nat → List Bool := fun b => match b with
  | 0 => [true, true, true, false]
  | _ => []
def P_Mn_setCost : List Nat := [0]
def K_Mn_setCost : KE := (⟨"NameReaders$Mender", "setCost", "([JII)V"⟩, prog_4_method_9_code, 4, (Option.none : Option Jvm.ClassFile.FieldType), B_Mn_setCost, L_Mn_setCost, P_Mn_setCost, [1107, 1106, 0, 89, 1, 3])
def B_Ol_init : BT := fun b => match b with
  | 0 => (1, [(.aload_n 0, [], 0), (.invokespecial 3, [0, 1, 3, 347], 0), (.aload_n 0, [], 0), (.sipush 384, [], 0), (.newarray .int, [0], 0), (.putfield 11, [3, 0, 2, 348], 0), (.aload_n 0, [], 0), (.sipush 384, [], 0), (.newarray .int, [0], 0), (.putfield 15, [3, 1, 2, 349], 0), (.aload_n 0, [], 0), (.bipush 12, [], 0), (.newarray .int, [0], 0), (.putfield 18, [3, 2, 2, 350], 0), (.aload_n 0, [], 0), (.iconst 0, [], 0), (.putfield 21, [3, 3, 0, 351], 0), (.aload_n 0, [], 0), (.aload_n 1, [], 0), (.putfield 25, [3, 4, 2, 352], 0), (.aload_n 0, [], 0), (.aload_n 2, [], 0), (.putfield 29, [3, 5, 2, 353], 0), (.return_, [], 0)])
  | _ => (0, [])
def L_Ol_init : Nat → List Bool := fun b => match b with
  | 0 => [true, true, true]
  | _ => []
def P_Ol_init : List Nat := [0]
def K_Ol_init : KE := (⟨"NameReaders$Outlook", "<init>", "(LNameReaders$Spots;LNameReaders$Spots;)V"⟩, prog_5_method_1_code, 3, (Option.none : Option Jvm.ClassFile.FieldType), B_Ol_init, L_Ol_init, P_Ol_init, [346, 345, 0, 91, 2, 3])
def B_Ol_shortest : BT := fun b => match b with
  | 0 => (1, [(.aload_n 0, [], 0), (.aload_n 1, [], 0), (.invokevirtual 32, [k_Ol_study, 2, 3, 892], 0), (.aload_n 0, [], 0), (.getfield 11, [3, 0, 2, 348], 0), (.iconst 0, [], 0), (.iaload, [], 0), (.ireturn, [0], 0)])
  | _ => (0, [])
def L_Ol_shortest : Nat → List Bool := fun b => match b with
  | 0 => [true, true]
  | _ => []
def P_Ol_shortest : List Nat := [0]
def K_Ol_shortest : KE := (⟨"NameReaders$Outlook", "shortest", "(LNameReaders$Reader;)I"⟩, prog_5_method_2_code, 2, (Option.some Jvm.ClassFile.FieldType.int), B_Ol_shortest, L_Ol_shortest, P_Ol_shortest, [891, 889, 890, 91, 0, 2])
def B_Ol_firstPair : BT := fun b => match b with
  | 0 => (1, [(.aload_n 0, [], 0), (.getfield 25, [3, 4, 2, 352], 0), (.iconst 0, [], 0), (.invokevirtual 36, [k_Sp_startAt, 2, 7, 935], 0), (.iconst 0, [], 0), (.istore 4, [], 0), (.iconst 0, [], 0), (.istore 5, [], 0)])
  | 1 => (2, [(.iload 5, [], 0), (.iload_n 3, [], 0), (.if_icmp .gt 38, [4, 2], 0)])
  | 2 => (3, [(.iload 5, [], 0), (.bipush 12, [], 0), (.if_icmp .ge 31, [4, 3], 0)])
  | 3 => (4, [(.iload 4, [], 0), (.aload_n 0, [], 0), (.aload_n 1, [], 0), (.iload 5, [], 0), (.iload 4, [], 0), (.iload_n 2, [], 0), (.iload 5, [], 0), (.isub, [], 0), (.iconst 1, [], 0), (.isub, [], 0), (.invokevirtual 42, [k_Ol_choosePair, 5, 3, 936], 0), (.invokestatic 46, [k_J_max, 2, 913], 0), (.istore 4, [], 0), (.iinc 5 1, [], 0), (.goto (-38), [1], 0)])
  | 4 => (5, [(.aload_n 0, [], 0), (.getfield 18, [3, 2, 2, 350], 0), (.iload_n 3, [], 0), (.iaload, [], 0), (.ireturn, [0], 0)])
  | _ => (0, [])
def L_Ol_firstPair : Nat → List Bool := fun b => match b with
  | 0 => [true, true, true, true, false, false]
  | 1 => [true, true, true, true, true, true]
  | 2 => [true, true, true, true, true, true]
  | 3 => [true, true, true, true, true, true]
  | 4 => [true, false, false, true, false, false]
  | _ => []
def P_Ol_firstPair : List Nat := [0, 14, 20, 27, 55]
def K_Ol_firstPair : KE := (⟨"NameReaders$Outlook", "firstPair", "(LNameReaders$Reader;II)I"⟩, prog_5_method_3_code, 6, (Option.some Jvm.ClassFile.FieldType.int), B_Ol_firstPair, L_Ol_firstPair, P_Ol_firstPair, [934, 932, 933, 91, 0, 4])
def B_Ol_choosePair : BT := fun b => match b with
  | 0 => (1, [(.iconst 0, [], 0), (.istore 5, [], 0)])
  | 1 => (2, [(.iload 5, [], 0), (.iconst 3, [], 0), (.if_icmp .ge 86, [8, 2], 0)])
  | 2 => (3, [(.iconst 1, [], 0), (.istore 6, [], 0)])
  | 3 => (4, [(.iload 6, [], 0), (.iload_n 3, [], 0), (.iconst 1, [], 0), (.iadd, [], 0), (.if_icmp .gt 69, [7, 4], 0)])
  | 4 => (5, [(.aload_n 0, [], 0), (.aload_n 1, [], 0), (.iload 5, [], 0), (.iload 6, [], 0), (.iload 4, [], 0), (.invokevirtual 52, [k_Ol_followTo, 5, 3, 940], 0), (.aload_n 0, [], 0), (.getfield 29, [3, 5, 2, 353], 0), (.invokevirtual 56, [k_Sp_size, 1, 7, 946], 0), (.ifCond .le 42, [6, 5], 0)])
  | 5 => (6, [(.aload_n 0, [], 0), (.getfield 25, [3, 4, 2, 352], 0), (.astore 7, [], 0), (.aload_n 0, [], 0), (.aload_n 0, [], 0), (.getfield 29, [3, 5, 2, 353], 0), (.putfield 25, [3, 4, 2, 352], 0), (.aload_n 0, [], 0), (.aload 7, [], 0), (.putfield 29, [3, 5, 2, 353], 0), (.aload_n 0, [], 0), (.getfield 18, [3, 2, 2, 350], 0), (.iload_n 2, [], 0), (.bipush 16, [], 0), (.iload 5, [], 0), (.imul, [], 0), (.iload 6, [], 0), (.iadd, [], 0), (.iconst 1, [], 0), (.isub, [], 0), (.iastore, [], 0), (.iload 6, [], 0), (.ireturn, [0], 0)])
  | 6 => (7, [(.iinc 6 1, [], 0), (.goto (-71), [3], 0)])
  | 7 => (8, [(.iinc 5 1, [], 0), (.goto (-86), [1], 0)])
  | 8 => (9, [(.iconst 0, [], 0), (.ireturn, [0], 0)])
  | _ => (0, [])
def L_Ol_choosePair : Nat → List Bool := fun b => match b with
  | 0 => [true, true, true, true, true, false, false, false]
  | 1 => [true, true, true, true, true, true, false, false]
  | 2 => [true, true, true, true, true, true, false, false]
  | 3 => [true, true, true, true, true, true, true, false]
  | 4 => [true, true, true, true, true, true, true, false]
  | 5 => [true, false, true, false, false, true, true, false]
  | 6 => [true, true, true, true, true, true, true, false]
  | 7 => [true, true, true, true, true, true, false, false]
  | 8 => [false, false, false, false, false, false, false, false]
  | _ => []
def P_Ol_choosePair : List Nat := [0, 3, 9, 12, 20, 41, 80, 86, 92]
def K_Ol_choosePair : KE := (⟨"NameReaders$Outlook", "choosePair", "(LNameReaders$Reader;III)I"⟩, prog_5_method_4_code, 8, (Option.some Jvm.ClassFile.FieldType.int), B_Ol_choosePair, L_Ol_choosePair, P_Ol_choosePair, [939, 938, 24, 91, 0, 5])
def B_Ol_followTo : BT := fun b => match b with
  | 0 => (1, [(.aload_n 0, [], 0), (.getfield 29, [3, 5, 2, 353], 0), (.invokevirtual 60, [k_Sp_clear, 1, 7, 944], 0), (.aload_n 0, [], 0), (.getfield 25, [3, 4, 2, 352], 0), (.iconst 0, [], 0), (.invokevirtual 63, [k_Sp_next, 2, 7, 945], 0), (.istore 5, [], 0), (.aload_n 0, [], 0), (.getfield 25, [3, 4, 2, 352], 0), (.invokevirtual 56, [k_Sp_size, 1, 7, 946], 0), (.istore 6, [], 0)])
  | 1 => (2, [(.iload 6, [], 0), (.ifCond .le 103, [10, 2], 0)])
  | 2 => (3, [(.iload 5, [], 0), (.ifCond .lt 98, [10, 3], 0)])
  | 3 => (4, [(.aload_n 1, [], 0), (.iload 5, [], 0), (.iload_n 2, [], 0), (.invokevirtual 66, [k_Rd_end, 3, 4, 908], 0), (.istore 7, [], 0), (.aload_n 1, [], 0), (.iload 5, [], 0), (.iload_n 2, [], 0), (.invokevirtual 71, [k_Rd_begin, 3, 4, 909], 0), (.istore 8, [], 0)])
  | 4 => (5, [(.iload 8, [], 0), (.iload 7, [], 0), (.if_icmp .ge 54, [9, 5], 0)])
  | 5 => (6, [(.aload_n 1, [], 0), (.iload 5, [], 0), (.aload_n 1, [], 0), (.iload 8, [], 0), (.invokevirtual 74, [k_Rd_moveAt, 2, 4, 914], 0), (.iload_n 3, [], 0), (.invokevirtual 77, [k_Rd_after, 4, 4, 915], 0), (.istore 9, [], 0), (.iload 9, [], 0), (.ifCond .lt 28, [8, 6], 0)])
  | 6 => (7, [(.aload_n 0, [], 0), (.getfield 11, [3, 0, 2, 348], 0), (.iload 9, [], 0), (.invokestatic 81, [k_Ol_placeOf, 1, 916], 0), (.iaload, [], 0), (.iload 4, [], 0), (.if_icmp .ne 13, [8, 7], 0)])
  | 7 => (8, [(.aload_n 0, [], 0), (.getfield 29, [3, 5, 2, 353], 0), (.iload 9, [], 0), (.invokevirtual 84, [k_Sp_add, 2, 7, 947], 0), (.pop, [], 0)])
  | 8 => (9, [(.iinc 8 1, [], 0), (.goto (-55), [4], 0)])
  | 9 => (10, [(.aload_n 0, [], 0), (.getfield 25, [3, 4, 2, 352], 0), (.iload 5, [], 0), (.iconst 1, [], 0), (.iadd, [], 0), (.invokevirtual 63, [k_Sp_next, 2, 7, 945], 0), (.istore 5, [], 0), (.iinc 6 (-1), [], 0), (.goto (-102), [1], 0)])
  | 10 => (11, [(.return_, [], 0)])
  | _ => (0, [])
def L_Ol_followTo : Nat → List Bool := fun b => match b with
  | 0 => [true, true, true, true, true, false, false, false, false, false]
  | 1 => [true, true, true, true, true, true, true, false, false, false]
  | 2 => [true, true, true, true, true, true, true, false, false, false]
  | 3 => [true, true, true, true, true, true, true, false, false, false]
  | 4 => [true, true, true, true, true, true, true, true, true, false]
  | 5 => [true, true, true, true, true, true, true, true, true, false]
  | 6 => [true, true, true, true, true, true, true, true, true, true]
  | 7 => [true, true, true, true, true, true, true, true, true, true]
  | 8 => [true, true, true, true, true, true, true, true, true, false]
  | 9 => [true, true, true, true, true, true, true, false, false, false]
  | 10 => [false, false, false, false, false, false, false, false, false, false]
  | _ => []
def P_Ol_followTo : List Nat := [0, 26, 31, 36, 54, 61, 81, 96, 106, 112, 131]
def K_Ol_followTo : KE := (⟨"NameReaders$Outlook", "followTo", "(LNameReaders$Reader;III)V"⟩, prog_5_method_5_code, 10, (Option.none : Option Jvm.ClassFile.FieldType), B_Ol_followTo, L_Ol_followTo, P_Ol_followTo, [943, 942, 25, 91, 0, 5])
def B_Ol_neverMade : BT := fun b => match b with
  | 0 => (1, [(.aload_n 0, [], 0), (.aload_n 1, [], 0), (.invokevirtual 32, [k_Ol_study, 2, 3, 892], 0), (.iconst 0, [], 0), (.istore_n 2, [], 0), (.iconst 0, [], 0), (.istore_n 3, [], 0)])
  | 1 => (2, [(.iload_n 3, [], 0), (.aload_n 0, [], 0), (.getfield 21, [3, 3, 0, 351], 0), (.if_icmp .ge 114, [12, 2], 0)])
  | 2 => (3, [(.aload_n 0, [], 0), (.getfield 15, [3, 1, 2, 349], 0), (.iload_n 3, [], 0), (.iaload, [], 0), (.invokestatic 88, [k_Ol_spotOf, 1, 900], 0), (.istore 4, [], 0), (.aload_n 1, [], 0), (.iload 4, [], 0), (.iconst 2, [], 0), (.invokevirtual 66, [k_Rd_end, 3, 4, 908], 0), (.istore 5, [], 0), (.aload_n 1, [], 0), (.iload 4, [], 0), (.iconst 0, [], 0), (.invokevirtual 71, [k_Rd_begin, 3, 4, 909], 0), (.istore 6, [], 0)])
  | 3 => (4, [(.iload 6, [], 0), (.iload 5, [], 0), (.if_icmp .ge 72, [11, 4], 0)])
  | 4 => (5, [(.aload_n 1, [], 0), (.iload 6, [], 0), (.invokevirtual 74, [k_Rd_moveAt, 2, 4, 914], 0), (.istore 7, [], 0), (.iload 4, [], 0), (.invokestatic 91, [k_Ol_newName, 1, 910], 0), (.istore 8, [], 0)])
  | 5 => (6, [(.iload 8, [], 0), (.ifCond .le 46, [10, 6], 0)])
  | 6 => (7, [(.aload_n 1, [], 0), (.iload 4, [], 0), (.iload 7, [], 0), (.iload 8, [], 0), (.invokevirtual 77, [k_Rd_after, 4, 4, 915], 0), (.istore 9, [], 0), (.iload 9, [], 0), (.ifCond .lt 23, [9, 7], 0)])
  | 7 => (8, [(.aload_n 0, [], 0), (.getfield 11, [3, 0, 2, 348], 0), (.iload 9, [], 0), (.invokestatic 81, [k_Ol_placeOf, 1, 916], 0), (.iaload, [], 0), (.ifCond .lt 10, [9, 8], 0)])
  | 8 => (9, [(.iload_n 2, [], 0), (.iconst 1, [], 0), (.iload 7, [], 0), (.ishl, [], 0), (.ior, [], 0), (.istore_n 2, [], 0)])
  | 9 => (10, [(.iinc 8 (-1), [], 0), (.goto (-45), [5], 0)])
  | 10 => (11, [(.iinc 6 1, [], 0), (.goto (-73), [3], 0)])
  | 11 => (12, [(.iinc 3 1, [], 0), (.goto (-116), [1], 0)])
  | 12 => (13, [(.iconst 1, [], 0), (.aload_n 1, [], 0), (.invokevirtual 94, [k_Rd_size, 1, 4, 956], 0), (.ishl, [], 0), (.iconst 1, [], 0), (.isub, [], 0), (.iload_n 2, [], 0), (.iconst (-1), [], 0), (.ixor, [], 0), (.iand, [], 0), (.ireturn, [0], 0)])
  | _ => (0, [])
def L_Ol_neverMade : Nat → List Bool := fun b => match b with
  | 0 => [true, true, false, false, false, false, false, false, false, false]
  | 1 => [true, true, true, true, false, false, false, false, false, false]
  | 2 => [true, true, true, true, false, false, false, false, false, false]
  | 3 => [true, true, true, true, true, true, true, false, false, false]
  | 4 => [true, true, true, true, true, true, true, false, false, false]
  | 5 => [true, true, true, true, true, true, true, true, true, false]
  | 6 => [true, true, true, true, true, true, true, true, true, false]
  | 7 => [true, true, true, true, true, true, true, true, true, true]
  | 8 => [true, true, true, true, true, true, true, true, true, false]
  | 9 => [true, true, true, true, true, true, true, true, true, false]
  | 10 => [true, true, true, true, true, true, true, false, false, false]
  | 11 => [true, true, true, true, false, false, false, false, false, false]
  | 12 => [false, true, true, false, false, false, false, false, false, false]
  | _ => []
def P_Ol_neverMade : List Nat := [0, 9, 17, 46, 53, 68, 73, 90, 103, 110, 116, 122, 128]
def K_Ol_neverMade : KE := (⟨"NameReaders$Outlook", "neverMade", "(LNameReaders$Reader;)I"⟩, prog_5_method_6_code, 10, (Option.some Jvm.ClassFile.FieldType.int), B_Ol_neverMade, L_Ol_neverMade, P_Ol_neverMade, [955, 953, 954, 91, 0, 2])
def B_Ol_twoAtOnce : BT := fun b => match b with
  | 0 => (1, [(.aload_n 0, [], 0), (.aload_n 1, [], 0), (.invokevirtual 32, [k_Ol_study, 2, 3, 892], 0), (.iconst (-1), [], 0), (.istore_n 2, [], 0), (.iconst 0, [], 0), (.istore_n 3, [], 0)])
  | 1 => (2, [(.iload_n 3, [], 0), (.aload_n 0, [], 0), (.getfield 21, [3, 3, 0, 351], 0), (.if_icmp .ge 87, [14, 2], 0)])
  | 2 => (3, [(.aload_n 0, [], 0), (.getfield 15, [3, 1, 2, 349], 0), (.iload_n 3, [], 0), (.iaload, [], 0), (.invokestatic 88, [k_Ol_spotOf, 1, 900], 0), (.istore 4, [], 0), (.iconst 0, [], 0), (.istore 5, [], 0)])
  | 3 => (4, [(.iload 5, [], 0), (.iconst 3, [], 0), (.if_icmp .ge 61, [13, 4], 0)])
  | 4 => (5, [(.iload 4, [], 0), (.invokestatic 91, [k_Ol_newName, 1, 910], 0), (.istore 6, [], 0)])
  | 5 => (6, [(.iload 6, [], 0), (.ifCond .le 43, [12, 6], 0)])
  | 6 => (7, [(.aload_n 1, [], 0), (.iload 4, [], 0), (.iload 5, [], 0), (.iload 6, [], 0), (.invokestatic 95, [k_Ol_firstTwo, 4, 965], 0), (.istore 7, [], 0), (.iload 7, [], 0), (.ifCond .lt 18, [10, 7], 0)])
  | 7 => (8, [(.iload_n 2, [], 0), (.ifCond .lt 9, [9, 8], 0)])
  | 8 => (9, [(.iload 7, [], 0), (.iload_n 2, [], 0), (.if_icmp .ge 8, [10, 9], 0)])
  | 9 => (10, [(.iload 7, [], 0), (.goto 4, [11], 0)])
  | 10 => (11, [(.iload_n 2, [], 0)])
  | 11 => (12, [(.istore_n 2, [], 0), (.iinc 6 (-1), [], 0), (.goto (-42), [5], 0)])
  | 12 => (13, [(.iinc 5 1, [], 0), (.goto (-61), [3], 0)])
  | 13 => (14, [(.iinc 3 1, [], 0), (.goto (-89), [1], 0)])
  | 14 => (15, [(.iload_n 2, [], 0), (.ireturn, [0], 0)])
  | _ => (0, [])
def L_Ol_twoAtOnce : Nat → List Bool := fun b => match b with
  | 0 => [true, true, false, false, false, false, false, false]
  | 1 => [true, true, true, true, false, false, false, false]
  | 2 => [true, true, true, true, false, false, false, false]
  | 3 => [true, true, true, true, true, true, false, false]
  | 4 => [true, true, true, true, true, true, false, false]
  | 5 => [true, true, true, true, true, true, true, false]
  | 6 => [true, true, true, true, true, true, true, false]
  | 7 => [true, true, true, true, true, true, true, true]
  | 8 => [true, true, true, true, true, true, true, true]
  | 9 => [true, true, false, true, true, true, true, true]
  | 10 => [true, true, true, true, true, true, true, false]
  | 11 => [true, true, false, true, true, true, true, false]
  | 12 => [true, true, true, true, true, true, false, false]
  | 13 => [true, true, true, true, false, false, false, false]
  | 14 => [false, false, true, false, false, false, false, false]
  | _ => []
def P_Ol_twoAtOnce : List Nat := [0, 9, 17, 31, 37, 44, 49, 66, 70, 76, 81, 82, 89, 95, 101]
def K_Ol_twoAtOnce : KE := (⟨"NameReaders$Outlook", "twoAtOnce", "(LNameReaders$Reader;)I"⟩, prog_5_method_7_code, 8, (Option.some Jvm.ClassFile.FieldType.int), B_Ol_twoAtOnce, L_Ol_twoAtOnce, P_Ol_twoAtOnce, [964, 962, 963, 91, 0, 2])
def B_Ol_firstTwo : BT := fun b => match b with
  | 0 => (1, [(.iconst (-1), [], 0), (.istore 4, [], 0), (.aload_n 0, [], 0), (.iload_n 1, [], 0), (.iload_n 2, [], 0), (.invokevirtual 66, [k_Rd_end, 3, 4, 908], 0), (.istore 5, [], 0), (.aload_n 0, [], 0), (.iload_n 1, [], 0), (.iload_n 2, [], 0), (.invokevirtual 71, [k_Rd_begin, 3, 4, 909], 0), (.istore 6, [], 0)])
  | 1 => (2, [(.iload 6, [], 0), (.iload 5, [], 0), (.if_icmp .ge 46, [7, 2], 0)])
  | 2 => (3, [(.aload_n 0, [], 0), (.iload 6, [], 0), (.invokevirtual 74, [k_Rd_moveAt, 2, 4, 914], 0), (.istore 7, [], 0), (.aload_n 0, [], 0), (.iload_n 1, [], 0), (.iload 7, [], 0), (.iload_n 3, [], 0), (.invokevirtual 77, [k_Rd_after, 4, 4, 915], 0), (.ifCond .lt 21, [6, 3], 0)])
  | 3 => (4, [(.iload 4, [], 0), (.ifCond .lt 12, [5, 4], 0)])
  | 4 => (5, [(.bipush 32, [], 0), (.iload 4, [], 0), (.imul, [], 0), (.iload 7, [], 0), (.iadd, [], 0), (.ireturn, [0], 0)])
  | 5 => (6, [(.iload 7, [], 0), (.istore 4, [], 0)])
  | 6 => (7, [(.iinc 6 1, [], 0), (.goto (-47), [1], 0)])
  | 7 => (8, [(.iconst (-1), [], 0), (.ireturn, [0], 0)])
  | _ => (0, [])
def L_Ol_firstTwo : Nat → List Bool := fun b => match b with
  | 0 => [true, true, true, true, false, false, false, false]
  | 1 => [true, true, false, true, true, true, true, false]
  | 2 => [true, true, false, true, true, true, true, false]
  | 3 => [true, true, false, true, true, true, true, true]
  | 4 => [false, false, false, false, true, false, false, true]
  | 5 => [true, true, false, true, false, true, true, true]
  | 6 => [true, true, false, true, true, true, true, false]
  | 7 => [false, false, false, false, false, false, false, false]
  | _ => []
def P_Ol_firstTwo : List Nat := [0, 19, 26, 45, 50, 59, 63, 69]
def K_Ol_firstTwo : KE := (⟨"NameReaders$Outlook", "firstTwo", "(LNameReaders$Reader;III)I"⟩, prog_5_method_8_code, 8, (Option.some Jvm.ClassFile.FieldType.int), B_Ol_firstTwo, L_Ol_firstTwo, P_Ol_firstTwo, [967, 966, 0, 91, 1, 4])
def B_Ol_study : BT := fun b => match b with
  | 0 => (1, [(.iconst 0, [], 0), (.istore_n 2, [], 0)])
  | 1 => (2, [(.iload_n 2, [], 0), (.sipush 384, [], 0), (.if_icmp .ge 17, [3, 2], 0)])
  | 2 => (3, [(.aload_n 0, [], 0), (.getfield 11, [3, 0, 2, 348], 0), (.iload_n 2, [], 0), (.bipush (-2), [], 0), (.iastore, [], 0), (.iinc 2 1, [], 0), (.goto (-18), [1], 0)])
  | 3 => (4, [(.aload_n 0, [], 0), (.iconst 0, [], 0), (.putfield 21, [3, 3, 0, 351], 0), (.aload_n 0, [], 0), (.aload_n 1, [], 0), (.iconst 0, [], 0), (.invokevirtual 98, [k_Ol_see, 3, 3, 896], 0), (.iconst 0, [], 0), (.istore_n 2, [], 0)])
  | 4 => (5, [(.iload_n 2, [], 0), (.aload_n 0, [], 0), (.getfield 21, [3, 3, 0, 351], 0), (.if_icmp .ge 30, [7, 5], 0)])
  | 5 => (6, [(.iload_n 2, [], 0), (.sipush 384, [], 0), (.if_icmp .ge 23, [7, 6], 0)])
  | 6 => (7, [(.aload_n 0, [], 0), (.aload_n 1, [], 0), (.aload_n 0, [], 0), (.getfield 15, [3, 1, 2, 349], 0), (.iload_n 2, [], 0), (.iaload, [], 0), (.invokestatic 88, [k_Ol_spotOf, 1, 900], 0), (.invokevirtual 102, [k_Ol_seeBehind, 3, 3, 904], 0), (.iinc 2 1, [], 0), (.goto (-32), [4], 0)])
  | 7 => (8, [(.iconst 1, [], 0), (.istore_n 2, [], 0), (.iconst 0, [], 0), (.istore_n 3, [], 0)])
  | 8 => (9, [(.iload_n 2, [], 0), (.ifCond .eq 23, [11, 9], 0)])
  | 9 => (10, [(.iload_n 3, [], 0), (.sipush 384, [], 0), (.if_icmp .ge 16, [11, 10], 0)])
  | 10 => (11, [(.aload_n 0, [], 0), (.aload_n 1, [], 0), (.iload_n 3, [], 0), (.invokevirtual 105, [k_Ol_tellAhead, 3, 3, 919], 0), (.istore_n 2, [], 0), (.iinc 3 1, [], 0), (.goto (-21), [8], 0)])
  | 11 => (12, [(.return_, [], 0)])
  | _ => (0, [])
def L_Ol_study : Nat → List Bool := fun b => match b with
  | 0 => [true, true, false, false]
  | 1 => [true, true, true, false]
  | 2 => [true, true, true, false]
  | 3 => [true, true, false, false]
  | 4 => [true, true, true, false]
  | 5 => [true, true, true, false]
  | 6 => [true, true, true, false]
  | 7 => [true, true, false, false]
  | 8 => [true, true, true, true]
  | 9 => [true, true, false, true]
  | 10 => [true, true, false, true]
  | 11 => [false, false, false, false]
  | _ => []
def P_Ol_study : List Nat := [0, 2, 9, 23, 36, 44, 51, 71, 75, 79, 86, 99]
def K_Ol_study : KE := (⟨"NameReaders$Outlook", "study", "(LNameReaders$Reader;)V"⟩, prog_5_method_9_code, 4, (Option.none : Option Jvm.ClassFile.FieldType), B_Ol_study, L_Ol_study, P_Ol_study, [895, 894, 19, 91, 0, 2])
end
section
def B_Ol_see : BT := fun b => match b with
  | 0 => (1, [(.aload_n 0, [], 0), (.getfield 11, [3, 0, 2, 348], 0), (.iload_n 2, [], 0), (.iaload, [], 0), (.bipush (-2), [], 0), (.if_icmp .ne 55, [6, 1], 0)])
  | 1 => (2, [(.aload_n 0, [], 0), (.getfield 21, [3, 3, 0, 351], 0), (.sipush 384, [], 0), (.if_icmp .ge 45, [6, 2], 0)])
  | 2 => (3, [(.aload_n 0, [], 0), (.getfield 11, [3, 0, 2, 348], 0), (.iload_n 2, [], 0), (.aload_n 1, [], 0), (.iload_n 2, [], 0), (.invokestatic 88, [k_Ol_spotOf, 1, 900], 0), (.invokevirtual 109, [k_Rd_takesAt, 2, 4, 903], 0), (.ifCond .eq 7, [4, 3], 0)])
  | 3 => (4, [(.iconst 0, [], 0), (.goto 4, [5], 0)])
  | 4 => (5, [(.iconst (-1), [], 0)])
  | 5 => (6, [(.iastore, [], 0), (.aload_n 0, [], 0), (.getfield 15, [3, 1, 2, 349], 0), (.aload_n 0, [], 0), (.getfield 21, [3, 3, 0, 351], 0), (.iload_n 2, [], 0), (.iastore, [], 0), (.aload_n 0, [], 0), (.dup, [], 0), (.getfield 21, [3, 3, 0, 351], 0), (.iconst 1, [], 0), (.iadd, [], 0), (.putfield 21, [3, 3, 0, 351], 0)])
  | 6 => (7, [(.return_, [], 0)])
  | _ => (0, [])
def L_Ol_see : Nat → List Bool := fun b => match b with
  | 0 => [true, true, true]
  | 1 => [true, true, true]
  | 2 => [true, true, true]
  | 3 => [true, false, true]
  | 4 => [true, false, true]
  | 5 => [true, false, true]
  | 6 => [false, false, false]
  | _ => []
def P_Ol_see : List Nat := [0, 11, 21, 37, 41, 42, 63]
def K_Ol_see : KE := (⟨"NameReaders$Outlook", "see", "(LNameReaders$Reader;I)V"⟩, prog_5_method_10_code, 3, (Option.none : Option Jvm.ClassFile.FieldType), B_Ol_see, L_Ol_see, P_Ol_see, [899, 898, 20, 91, 0, 3])
def B_Ol_seeBehind : BT := fun b => match b with
  | 0 => (1, [(.aload_n 1, [], 0), (.iload_n 2, [], 0), (.iconst 2, [], 0), (.invokevirtual 66, [k_Rd_end, 3, 4, 908], 0), (.istore_n 3, [], 0), (.aload_n 1, [], 0), (.iload_n 2, [], 0), (.iconst 0, [], 0), (.invokevirtual 71, [k_Rd_begin, 3, 4, 909], 0), (.istore 4, [], 0)])
  | 1 => (2, [(.iload 4, [], 0), (.iload_n 3, [], 0), (.if_icmp .ge 56, [8, 2], 0)])
  | 2 => (3, [(.iload_n 2, [], 0), (.invokestatic 91, [k_Ol_newName, 1, 910], 0), (.istore 5, [], 0)])
  | 3 => (4, [(.iload 5, [], 0), (.ifCond .le 39, [7, 4], 0)])
  | 4 => (5, [(.aload_n 1, [], 0), (.iload_n 2, [], 0), (.aload_n 1, [], 0), (.iload 4, [], 0), (.invokevirtual 74, [k_Rd_moveAt, 2, 4, 914], 0), (.iload 5, [], 0), (.invokevirtual 77, [k_Rd_after, 4, 4, 915], 0), (.istore 6, [], 0), (.iload 6, [], 0), (.ifCond .lt 13, [6, 5], 0)])
  | 5 => (6, [(.aload_n 0, [], 0), (.aload_n 1, [], 0), (.iload 6, [], 0), (.invokestatic 81, [k_Ol_placeOf, 1, 916], 0), (.invokevirtual 98, [k_Ol_see, 3, 3, 896], 0)])
  | 6 => (7, [(.iinc 5 (-1), [], 0), (.goto (-38), [3], 0)])
  | 7 => (8, [(.iinc 4 1, [], 0), (.goto (-56), [1], 0)])
  | 8 => (9, [(.return_, [], 0)])
  | _ => (0, [])
def L_Ol_seeBehind : Nat → List Bool := fun b => match b with
  | 0 => [true, true, true, false, false, false, false]
  | 1 => [true, true, true, true, true, false, false]
  | 2 => [true, true, true, true, true, false, false]
  | 3 => [true, true, true, true, true, true, false]
  | 4 => [true, true, true, true, true, true, false]
  | 5 => [true, true, true, true, true, true, true]
  | 6 => [true, true, true, true, true, true, false]
  | 7 => [true, true, true, true, true, false, false]
  | 8 => [false, false, false, false, false, false, false]
  | _ => []
def P_Ol_seeBehind : List Nat := [0, 15, 21, 27, 32, 52, 62, 68, 74]
def K_Ol_seeBehind : KE := (⟨"NameReaders$Outlook", "seeBehind", "(LNameReaders$Reader;I)V"⟩, prog_5_method_11_code, 7, (Option.none : Option Jvm.ClassFile.FieldType), B_Ol_seeBehind, L_Ol_seeBehind, P_Ol_seeBehind, [907, 906, 21, 91, 0, 3])
def B_Ol_tellAhead : BT := fun b => match b with
  | 0 => (1, [(.iconst 0, [], 0), (.istore_n 3, [], 0), (.iconst 0, [], 0), (.istore 4, [], 0)])
  | 1 => (2, [(.iload 4, [], 0), (.aload_n 0, [], 0), (.getfield 21, [3, 3, 0, 351], 0), (.if_icmp .ge 61, [6, 2], 0)])
  | 2 => (3, [(.aload_n 0, [], 0), (.getfield 11, [3, 0, 2, 348], 0), (.aload_n 0, [], 0), (.getfield 15, [3, 1, 2, 349], 0), (.iload 4, [], 0), (.iaload, [], 0), (.iaload, [], 0), (.iconst (-1), [], 0), (.if_icmp .ne 39, [5, 3], 0)])
  | 3 => (4, [(.aload_n 0, [], 0), (.aload_n 1, [], 0), (.aload_n 0, [], 0), (.getfield 15, [3, 1, 2, 349], 0), (.iload 4, [], 0), (.iaload, [], 0), (.invokestatic 88, [k_Ol_spotOf, 1, 900], 0), (.iload_n 2, [], 0), (.invokevirtual 112, [k_Ol_leadsTo, 4, 3, 923], 0), (.ifCond .eq 20, [5, 4], 0)])
  | 4 => (5, [(.aload_n 0, [], 0), (.getfield 11, [3, 0, 2, 348], 0), (.aload_n 0, [], 0), (.getfield 15, [3, 1, 2, 349], 0), (.iload 4, [], 0), (.iaload, [], 0), (.iload_n 2, [], 0), (.iconst 1, [], 0), (.iadd, [], 0), (.iastore, [], 0), (.iconst 1, [], 0), (.istore_n 3, [], 0)])
  | 5 => (6, [(.iinc 4 1, [], 0), (.goto (-64), [1], 0)])
  | 6 => (7, [(.iload_n 3, [], 0), (.ireturn, [1], 0)])
  | _ => (0, [])
def L_Ol_tellAhead : Nat → List Bool := fun b => match b with
  | 0 => [true, true, true, false, false]
  | 1 => [true, true, true, true, true]
  | 2 => [true, true, true, true, true]
  | 3 => [true, true, true, true, true]
  | 4 => [true, true, true, false, true]
  | 5 => [true, true, true, true, true]
  | 6 => [false, false, false, true, false]
  | _ => []
def P_Ol_tellAhead : List Nat := [0, 5, 14, 30, 49, 66, 72]
def K_Ol_tellAhead : KE := (⟨"NameReaders$Outlook", "tellAhead", "(LNameReaders$Reader;I)Z"⟩, prog_5_method_12_code, 5, (Option.some Jvm.ClassFile.FieldType.boolean), B_Ol_tellAhead, L_Ol_tellAhead, P_Ol_tellAhead, [922, 921, 22, 91, 0, 3])
def B_Ol_leadsTo : BT := fun b => match b with
  | 0 => (1, [(.aload_n 1, [], 0), (.iload_n 2, [], 0), (.iconst 2, [], 0), (.invokevirtual 66, [k_Rd_end, 3, 4, 908], 0), (.istore 4, [], 0), (.aload_n 1, [], 0), (.iload_n 2, [], 0), (.iconst 0, [], 0), (.invokevirtual 71, [k_Rd_begin, 3, 4, 909], 0), (.istore 5, [], 0)])
  | 1 => (2, [(.iload 5, [], 0), (.iload 4, [], 0), (.if_icmp .ge 62, [9, 2], 0)])
  | 2 => (3, [(.iload_n 2, [], 0), (.invokestatic 91, [k_Ol_newName, 1, 910], 0), (.istore 6, [], 0)])
  | 3 => (4, [(.iload 6, [], 0), (.ifCond .le 45, [8, 4], 0)])
  | 4 => (5, [(.aload_n 1, [], 0), (.iload_n 2, [], 0), (.aload_n 1, [], 0), (.iload 5, [], 0), (.invokevirtual 74, [k_Rd_moveAt, 2, 4, 914], 0), (.iload 6, [], 0), (.invokevirtual 77, [k_Rd_after, 4, 4, 915], 0), (.istore 7, [], 0), (.iload 7, [], 0), (.ifCond .lt 19, [7, 5], 0)])
  | 5 => (6, [(.aload_n 0, [], 0), (.getfield 11, [3, 0, 2, 348], 0), (.iload 7, [], 0), (.invokestatic 81, [k_Ol_placeOf, 1, 916], 0), (.iaload, [], 0), (.iload_n 3, [], 0), (.if_icmp .ne 5, [7, 6], 0)])
  | 6 => (7, [(.iconst 1, [], 0), (.ireturn, [1], 0)])
  | 7 => (8, [(.iinc 6 (-1), [], 0), (.goto (-44), [3], 0)])
  | 8 => (9, [(.iinc 5 1, [], 0), (.goto (-63), [1], 0)])
  | 9 => (10, [(.iconst 0, [], 0), (.ireturn, [1], 0)])
  | _ => (0, [])
def L_Ol_leadsTo : Nat → List Bool := fun b => match b with
  | 0 => [true, true, true, true, false, false, false, false]
  | 1 => [true, true, true, true, true, true, false, false]
  | 2 => [true, true, true, true, true, true, false, false]
  | 3 => [true, true, true, true, true, true, true, false]
  | 4 => [true, true, true, true, true, true, true, false]
  | 5 => [true, true, true, true, true, true, true, true]
  | 6 => [false, false, false, false, false, false, false, false]
  | 7 => [true, true, true, true, true, true, true, false]
  | 8 => [true, true, true, true, true, true, false, false]
  | 9 => [false, false, false, false, false, false, false, false]
  | _ => []
def P_Ol_leadsTo : List Nat := [0, 16, 23, 29, 34, 54, 68, 70, 76, 82]
def K_Ol_leadsTo : KE := (⟨"NameReaders$Outlook", "leadsTo", "(LNameReaders$Reader;II)Z"⟩, prog_5_method_13_code, 8, (Option.some Jvm.ClassFile.FieldType.boolean), B_Ol_leadsTo, L_Ol_leadsTo, P_Ol_leadsTo, [926, 925, 23, 91, 0, 4])
def B_Ol_newName : BT := fun b => match b with
  | 0 => (1, [(.iconst 1, [], 0), (.iload_n 0, [], 0), (.bipush 15, [], 0), (.iand, [], 0), (.iload_n 0, [], 0), (.iconst 4, [], 0), (.ishr, [], 0), (.bipush 15, [], 0), (.iand, [], 0), (.iload_n 0, [], 0), (.bipush 8, [], 0), (.ishr, [], 0), (.bipush 15, [], 0), (.iand, [], 0), (.invokestatic 46, [k_J_max, 2, 913], 0), (.invokestatic 46, [k_J_max, 2, 913], 0), (.iadd, [], 0), (.ireturn, [0], 0)])
  | _ => (0, [])
def L_Ol_newName : Nat → List Bool := fun b => match b with
  | 0 => [true]
  | _ => []
def P_Ol_newName : List Nat := [0]
def K_Ol_newName : KE := (⟨"NameReaders$Outlook", "newName", "(I)I"⟩, prog_5_method_14_code, 1, (Option.some Jvm.ClassFile.FieldType.int), B_Ol_newName, L_Ol_newName, P_Ol_newName, [912, 911, 0, 91, 1, 1])
def B_Ol_placeOf : BT := fun b => match b with
  | 0 => (1, [(.iload_n 0, [], 0), (.bipush 15, [], 0), (.iand, [], 0), (.istore_n 1, [], 0), (.iload_n 0, [], 0), (.iconst 4, [], 0), (.ishr, [], 0), (.bipush 15, [], 0), (.iand, [], 0), (.istore_n 2, [], 0), (.iload_n 0, [], 0), (.bipush 8, [], 0), (.ishr, [], 0), (.bipush 15, [], 0), (.iand, [], 0), (.istore_n 3, [], 0), (.iload_n 1, [], 0), (.ifCond .ne 7, [2, 1], 0)])
  | 1 => (2, [(.iconst 0, [], 0), (.goto 4, [3], 0)])
  | 2 => (3, [(.iconst 1, [], 0)])
  | 3 => (4, [(.istore 4, [], 0), (.iload_n 2, [], 0), (.ifCond .ne 7, [5, 4], 0)])
  | 4 => (5, [(.iconst 0, [], 0), (.goto 17, [8], 0)])
  | 5 => (6, [(.iload_n 2, [], 0), (.iload_n 1, [], 0), (.if_icmp .ne 8, [7, 6], 0)])
  | 6 => (7, [(.iload 4, [], 0), (.goto 7, [8], 0)])
  | 7 => (8, [(.iload 4, [], 0), (.iconst 1, [], 0), (.iadd, [], 0)])
  | 8 => (9, [(.istore 5, [], 0), (.iload 4, [], 0), (.iload 5, [], 0), (.invokestatic 46, [k_J_max, 2, 913], 0), (.iconst 1, [], 0), (.iadd, [], 0), (.istore 6, [], 0), (.iload_n 3, [], 0), (.ifCond .ne 9, [10, 9], 0)])
  | 9 => (10, [(.iconst 0, [], 0), (.istore 6, [], 0), (.goto 24, [14], 0)])
  | 10 => (11, [(.iload_n 3, [], 0), (.iload_n 1, [], 0), (.if_icmp .ne 10, [12, 11], 0)])
  | 11 => (12, [(.iload 4, [], 0), (.istore 6, [], 0), (.goto 12, [14], 0)])
  | 12 => (13, [(.iload_n 3, [], 0), (.iload_n 2, [], 0), (.if_icmp .ne 7, [14, 13], 0)])
  | 13 => (14, [(.iload 5, [], 0), (.istore 6, [], 0)])
  | 14 => (15, [(.iload_n 0, [], 0), (.bipush 12, [], 0), (.ishr, [], 0), (.bipush 6, [], 0), (.ishl, [], 0), (.iload 6, [], 0), (.iconst 4, [], 0), (.ishl, [], 0), (.ior, [], 0), (.iload 5, [], 0), (.iconst 2, [], 0), (.ishl, [], 0), (.ior, [], 0), (.iload 4, [], 0), (.ior, [], 0), (.ireturn, [0], 0)])
  | _ => (0, [])
def L_Ol_placeOf : Nat → List Bool := fun b => match b with
  | 0 => [true, false, false, false, false, false, false]
  | 1 => [true, true, true, true, false, false, false]
  | 2 => [true, true, true, true, false, false, false]
  | 3 => [true, true, true, true, false, false, false]
  | 4 => [true, true, true, true, true, false, false]
  | 5 => [true, true, true, true, true, false, false]
  | 6 => [true, true, true, true, true, false, false]
  | 7 => [true, true, true, true, true, false, false]
  | 8 => [true, true, true, true, true, false, false]
  | 9 => [true, false, false, false, true, true, false]
  | 10 => [true, true, true, true, true, true, true]
  | 11 => [true, false, false, false, true, true, false]
  | 12 => [true, false, true, true, true, true, true]
  | 13 => [true, false, false, false, true, true, false]
  | 14 => [true, false, false, false, true, true, true]
  | _ => []
def P_Ol_placeOf : List Nat := [0, 24, 28, 29, 35, 39, 44, 49, 53, 70, 76, 81, 88, 93, 97]
def K_Ol_placeOf : KE := (⟨"NameReaders$Outlook", "placeOf", "(I)I"⟩, prog_5_method_15_code, 7, (Option.some Jvm.ClassFile.FieldType.int), B_Ol_placeOf, L_Ol_placeOf, P_Ol_placeOf, [918, 917, 0, 91, 1, 1])
def B_Ol_spotOf : BT := fun b => match b with
  | 0 => (1, [(.iload_n 0, [], 0), (.bipush 6, [], 0), (.ishr, [], 0), (.bipush 12, [], 0), (.ishl, [], 0), (.iload_n 0, [], 0), (.iconst 4, [], 0), (.ishr, [], 0), (.iconst 3, [], 0), (.iand, [], 0), (.bipush 8, [], 0), (.ishl, [], 0), (.ior, [], 0), (.iload_n 0, [], 0), (.iconst 2, [], 0), (.ishr, [], 0), (.iconst 3, [], 0), (.iand, [], 0), (.iconst 4, [], 0), (.ishl, [], 0), (.ior, [], 0), (.iload_n 0, [], 0), (.iconst 3, [], 0), (.iand, [], 0), (.ior, [], 0), (.ireturn, [0], 0)])
  | _ => (0, [])
def L_Ol_spotOf : Nat → List Bool := fun b => match b with
  | 0 => [true]
  | _ => []
def P_Ol_spotOf : List Nat := [0]
def K_Ol_spotOf : KE := (⟨"NameReaders$Outlook", "spotOf", "(I)I"⟩, prog_5_method_16_code, 1, (Option.some Jvm.ClassFile.FieldType.int), B_Ol_spotOf, L_Ol_spotOf, P_Ol_spotOf, [902, 901, 0, 91, 1, 1])
def B_Rd_init : BT := fun b => match b with
  | 0 => (1, [(.aload_n 0, [], 0), (.invokespecial 3, [0, 1, 4, 114], 0), (.aload_n 0, [], 0), (.bipush 100, [], 0), (.newarray .int, [0], 0), (.putfield 9, [4, 0, 2, 115], 0), (.aload_n 0, [], 0), (.bipush 20, [], 0), (.newarray .int, [0], 0), (.putfield 15, [4, 1, 2, 116], 0), (.aload_n 0, [], 0), (.bipush 19, [], 0), (.newarray .int, [0], 0), (.putfield 18, [4, 2, 2, 117], 0), (.aload_n 0, [], 0), (.iconst 1, [], 0), (.putfield 21, [4, 3, 0, 118], 0), (.aload_n 0, [], 0), (.iconst 0, [], 0), (.putfield 25, [4, 4, 0, 119], 0), (.aload_n 0, [], 0), (.iconst 0, [], 0), (.putfield 28, [4, 5, 0, 120], 0), (.aload_n 0, [], 0), (.iconst 0, [], 0), (.putfield 31, [4, 6, 0, 121], 0), (.return_, [], 0)])
  | _ => (0, [])
def L_Rd_init : Nat → List Bool := fun b => match b with
  | 0 => [true]
  | _ => []
def P_Rd_init : List Nat := [0]
def K_Rd_init : KE := (⟨"NameReaders$Reader", "<init>", "()V"⟩, prog_6_method_1_code, 1, (Option.none : Option Jvm.ClassFile.FieldType), B_Rd_init, L_Rd_init, P_Rd_init, [113, 112, 0, 82, 2, 1])
def B_Rd_states : BT := fun b => match b with
  | 0 => (1, [(.aload_n 0, [], 0), (.getfield 21, [4, 3, 0, 118], 0), (.ireturn, [0], 0)])
  | _ => (0, [])
def L_Rd_states : Nat → List Bool := fun b => match b with
  | 0 => [true]
  | _ => []
def P_Rd_states : List Nat := [0]
def K_Rd_states : KE := (⟨"NameReaders$Reader", "states", "()I"⟩, prog_6_method_2_code, 1, (Option.some Jvm.ClassFile.FieldType.int), B_Rd_states, L_Rd_states, P_Rd_states, [496, 494, 495, 82, 0, 1])
def B_Rd_registers : BT := fun b => match b with
  | 0 => (1, [(.aload_n 0, [], 0), (.getfield 25, [4, 4, 0, 119], 0), (.ireturn, [0], 0)])
  | _ => (0, [])
def L_Rd_registers : Nat → List Bool := fun b => match b with
  | 0 => [true]
  | _ => []
def P_Rd_registers : List Nat := [0]
def K_Rd_registers : KE := (⟨"NameReaders$Reader", "registers", "()I"⟩, prog_6_method_3_code, 1, (Option.some Jvm.ClassFile.FieldType.int), B_Rd_registers, L_Rd_registers, P_Rd_registers, [570, 568, 569, 82, 0, 1])
def B_Rd_size : BT := fun b => match b with
  | 0 => (1, [(.aload_n 0, [], 0), (.getfield 31, [4, 6, 0, 121], 0), (.ireturn, [0], 0)])
  | _ => (0, [])
def L_Rd_size : Nat → List Bool := fun b => match b with
  | 0 => [true]
  | _ => []
def P_Rd_size : List Nat := [0]
def K_Rd_size : KE := (⟨"NameReaders$Reader", "size", "()I"⟩, prog_6_method_4_code, 1, (Option.some Jvm.ClassFile.FieldType.int), B_Rd_size, L_Rd_size, P_Rd_size, [589, 587, 588, 82, 0, 1])
def B_Rd_become : BT := fun b => match b with
  | 0 => (1, [(.aload_n 0, [], 0), (.iload_n 1, [], 0), (.putfield 21, [4, 3, 0, 118], 0), (.aload_n 0, [], 0), (.iload_n 2, [], 0), (.putfield 25, [4, 4, 0, 119], 0), (.aload_n 0, [], 0), (.iload_n 3, [], 0), (.putfield 28, [4, 5, 0, 120], 0), (.aload_n 0, [], 0), (.iconst 0, [], 0), (.putfield 31, [4, 6, 0, 121], 0), (.aload_n 0, [], 0), (.invokevirtual 34, [k_Rd_sort, 1, 4, 452], 0), (.return_, [], 0)])
  | _ => (0, [])
def L_Rd_become : Nat → List Bool := fun b => match b with
  | 0 => [true, true, true, true]
  | _ => []
def P_Rd_become : List Nat := [0]
def K_Rd_become : KE := (⟨"NameReaders$Reader", "become", "(III)V"⟩, prog_6_method_5_code, 4, (Option.none : Option Jvm.ClassFile.FieldType), B_Rd_become, L_Rd_become, P_Rd_become, [451, 449, 450, 82, 0, 4])
def B_Rd_appendAll : BT := fun b => match b with
  | 0 => (1, [(.iload_n 2, [], 0), (.ifCond .lt 22, [3, 1], 0)])
  | 1 => (2, [(.iload_n 2, [], 0), (.bipush 20, [], 0), (.aload_n 0, [], 0), (.getfield 31, [4, 6, 0, 121], 0), (.isub, [], 0), (.if_icmp .gt 11, [3, 2], 0)])
  | 2 => (3, [(.iload_n 2, [], 0), (.iconst 5, [], 0), (.imul, [], 0), (.aload_n 1, [], 0), (.arraylength, [], 0), (.if_icmp .le 4, [4, 3], 0)])
  | 3 => (4, [(.return_, [], 0)])
  | 4 => (5, [(.aload_n 1, [], 0), (.iconst 0, [], 0), (.aload_n 0, [], 0), (.getfield 9, [4, 0, 2, 115], 0), (.aload_n 0, [], 0), (.getfield 31, [4, 6, 0, 121], 0), (.iconst 5, [], 0), (.imul, [], 0), (.iload_n 2, [], 0), (.iconst 5, [], 0), (.imul, [], 0), (.invokestatic 37, [1, 5, 602], 0), (.aload_n 0, [], 0), (.dup, [], 0), (.getfield 31, [4, 6, 0, 121], 0), (.iload_n 2, [], 0), (.iadd, [], 0), (.putfield 31, [4, 6, 0, 121], 0), (.aload_n 0, [], 0), (.invokevirtual 34, [k_Rd_sort, 1, 4, 452], 0), (.return_, [], 0)])
  | _ => (0, [])
def L_Rd_appendAll : Nat → List Bool := fun b => match b with
  | 0 => [true, true, true]
  | 1 => [true, true, true]
  | 2 => [true, true, true]
  | 3 => [false, false, false]
  | 4 => [true, true, true]
  | _ => []
def P_Rd_appendAll : List Nat := [0, 4, 15, 23, 24]
def K_Rd_appendAll : KE := (⟨"NameReaders$Reader", "appendAll", "([II)V"⟩, prog_6_method_6_code, 3, (Option.none : Option Jvm.ClassFile.FieldType), B_Rd_appendAll, L_Rd_appendAll, P_Rd_appendAll, [601, 599, 600, 82, 0, 3])
def B_Rd_remove : BT := fun b => match b with
  | 0 => (1, [(.iload_n 1, [], 0), (.ifCond .lt 11, [2, 1], 0)])
  | 1 => (2, [(.iload_n 1, [], 0), (.aload_n 0, [], 0), (.getfield 31, [4, 6, 0, 121], 0), (.if_icmp .lt 4, [3, 2], 0)])
  | 2 => (3, [(.return_, [], 0)])
  | 3 => (4, [(.iload_n 1, [], 0), (.iconst 1, [], 0), (.iadd, [], 0), (.iconst 5, [], 0), (.imul, [], 0), (.istore_n 2, [], 0), (.aload_n 0, [], 0), (.getfield 9, [4, 0, 2, 115], 0), (.iload_n 2, [], 0), (.aload_n 0, [], 0), (.getfield 9, [4, 0, 2, 115], 0), (.iload_n 2, [], 0), (.iconst 5, [], 0), (.isub, [], 0), (.aload_n 0, [], 0), (.getfield 31, [4, 6, 0, 121], 0), (.iconst 5, [], 0), (.imul, [], 0), (.iload_n 2, [], 0), (.isub, [], 0), (.invokestatic 37, [1, 5, 602], 0), (.aload_n 0, [], 0), (.dup, [], 0), (.getfield 31, [4, 6, 0, 121], 0), (.iconst 1, [], 0), (.isub, [], 0), (.putfield 31, [4, 6, 0, 121], 0), (.aload_n 0, [], 0), (.invokevirtual 34, [k_Rd_sort, 1, 4, 452], 0), (.return_, [], 0)])
  | _ => (0, [])
def L_Rd_remove : Nat → List Bool := fun b => match b with
  | 0 => [true, true, false]
  | 1 => [true, true, false]
  | 2 => [false, false, false]
  | 3 => [true, true, false]
  | _ => []
def P_Rd_remove : List Nat := [0, 4, 12, 13]
def K_Rd_remove : KE := (⟨"NameReaders$Reader", "remove", "(I)V"⟩, prog_6_method_7_code, 3, (Option.none : Option Jvm.ClassFile.FieldType), B_Rd_remove, L_Rd_remove, P_Rd_remove, [617, 615, 616, 82, 0, 2])
def B_Rd_sort : BT := fun b => match b with
  | 0 => (1, [(.iconst 0, [], 0), (.istore_n 1, [], 0), (.iconst 0, [], 0), (.istore_n 2, [], 0)])
  | 1 => (2, [(.iload_n 2, [], 0), (.bipush 18, [], 0), (.if_icmp .ge 67, [9, 2], 0)])
  | 2 => (3, [(.aload_n 0, [], 0), (.getfield 18, [4, 2, 2, 117], 0), (.iload_n 2, [], 0), (.iload_n 1, [], 0), (.iastore, [], 0), (.iconst 0, [], 0), (.istore_n 3, [], 0)])
  | 3 => (4, [(.iload_n 3, [], 0), (.aload_n 0, [], 0), (.getfield 31, [4, 6, 0, 121], 0), (.if_icmp .ge 44, [8, 4], 0)])
  | 4 => (5, [(.iload_n 1, [], 0), (.bipush 20, [], 0), (.if_icmp .ge 38, [8, 5], 0)])
  | 5 => (6, [(.aload_n 0, [], 0), (.iload_n 3, [], 0), (.iconst 0, [], 0), (.invokevirtual 43, [k_Rd_part, 3, 4, 456], 0), (.iconst 3, [], 0), (.imul, [], 0), (.aload_n 0, [], 0), (.iload_n 3, [], 0), (.iconst 1, [], 0), (.invokevirtual 43, [k_Rd_part, 3, 4, 456], 0), (.iadd, [], 0), (.iload_n 2, [], 0), (.if_icmp .ne 13, [7, 6], 0)])
  | 6 => (7, [(.aload_n 0, [], 0), (.getfield 15, [4, 1, 2, 116], 0), (.iload_n 1, [], 0), (.iload_n 3, [], 0), (.iastore, [], 0), (.iinc 1 1, [], 0)])
  | 7 => (8, [(.iinc 3 1, [], 0), (.goto (-46), [3], 0)])
  | 8 => (9, [(.iinc 2 1, [], 0), (.goto (-67), [1], 0)])
  | 9 => (10, [(.aload_n 0, [], 0), (.getfield 18, [4, 2, 2, 117], 0), (.bipush 18, [], 0), (.iload_n 1, [], 0), (.iastore, [], 0), (.return_, [], 0)])
  | _ => (0, [])
def L_Rd_sort : Nat → List Bool := fun b => match b with
  | 0 => [true, false, false, false]
  | 1 => [true, true, true, false]
  | 2 => [true, true, true, false]
  | 3 => [true, true, true, true]
  | 4 => [true, true, true, true]
  | 5 => [true, true, true, true]
  | 6 => [true, true, true, true]
  | 7 => [true, true, true, true]
  | 8 => [true, true, true, false]
  | 9 => [true, true, false, false]
  | _ => []
def P_Rd_sort : List Nat := [0, 4, 10, 19, 27, 33, 52, 62, 68, 74]
def K_Rd_sort : KE := (⟨"NameReaders$Reader", "sort", "()V"⟩, prog_6_method_8_code, 4, (Option.none : Option Jvm.ClassFile.FieldType), B_Rd_sort, L_Rd_sort, P_Rd_sort, [455, 454, 1, 82, 0, 1])
def B_Rd_part : BT := fun b => match b with
  | 0 => (1, [(.aload_n 0, [], 0), (.getfield 9, [4, 0, 2, 115], 0), (.iload_n 1, [], 0), (.iconst 5, [], 0), (.imul, [], 0), (.iload_n 2, [], 0), (.iadd, [], 0), (.iaload, [], 0), (.ireturn, [0], 0)])
  | _ => (0, [])
def L_Rd_part : Nat → List Bool := fun b => match b with
  | 0 => [true, true, true]
  | _ => []
def P_Rd_part : List Nat := [0]
def K_Rd_part : KE := (⟨"NameReaders$Reader", "part", "(II)I"⟩, prog_6_method_9_code, 3, (Option.some Jvm.ClassFile.FieldType.int), B_Rd_part, L_Rd_part, P_Rd_part, [459, 457, 458, 82, 0, 3])
def B_Rd_begin : BT := fun b => match b with
  | 0 => (1, [(.aload_n 0, [], 0), (.getfield 18, [4, 2, 2, 117], 0), (.iload_n 1, [], 0), (.bipush 12, [], 0), (.ishr, [], 0), (.iconst 3, [], 0), (.imul, [], 0), (.iload_n 2, [], 0), (.iadd, [], 0), (.iaload, [], 0), (.ireturn, [0], 0)])
  | _ => (0, [])
def L_Rd_begin : Nat → List Bool := fun b => match b with
  | 0 => [true, true, true]
  | _ => []
def P_Rd_begin : List Nat := [0]
def K_Rd_begin : KE := (⟨"NameReaders$Reader", "begin", "(II)I"⟩, prog_6_method_10_code, 3, (Option.some Jvm.ClassFile.FieldType.int), B_Rd_begin, L_Rd_begin, P_Rd_begin, [723, 721, 722, 82, 0, 3])
def B_Rd_end : BT := fun b => match b with
  | 0 => (1, [(.aload_n 0, [], 0), (.getfield 18, [4, 2, 2, 117], 0), (.iload_n 1, [], 0), (.bipush 12, [], 0), (.ishr, [], 0), (.iconst 3, [], 0), (.imul, [], 0), (.iload_n 2, [], 0), (.iadd, [], 0), (.iconst 1, [], 0), (.iadd, [], 0), (.iaload, [], 0), (.ireturn, [0], 0)])
  | _ => (0, [])
def L_Rd_end : Nat → List Bool := fun b => match b with
  | 0 => [true, true, true]
  | _ => []
def P_Rd_end : List Nat := [0]
def K_Rd_end : KE := (⟨"NameReaders$Reader", "end", "(II)I"⟩, prog_6_method_11_code, 3, (Option.some Jvm.ClassFile.FieldType.int), B_Rd_end, L_Rd_end, P_Rd_end, [719, 717, 718, 82, 0, 3])
def B_Rd_moveAt : BT := fun b => match b with
  | 0 => (1, [(.aload_n 0, [], 0), (.getfield 15, [4, 1, 2, 116], 0), (.iload_n 1, [], 0), (.iaload, [], 0), (.ireturn, [0], 0)])
  | _ => (0, [])
def L_Rd_moveAt : Nat → List Bool := fun b => match b with
  | 0 => [true, true]
  | _ => []
def P_Rd_moveAt : List Nat := [0]
def K_Rd_moveAt : KE := (⟨"NameReaders$Reader", "moveAt", "(I)I"⟩, prog_6_method_12_code, 2, (Option.some Jvm.ClassFile.FieldType.int), B_Rd_moveAt, L_Rd_moveAt, P_Rd_moveAt, [727, 725, 726, 82, 0, 2])
def B_Rd_hasTest : BT := fun b => match b with
  | 0 => (1, [(.iconst 0, [], 0), (.istore 4, [], 0)])
  | 1 => (2, [(.iload 4, [], 0), (.aload_n 0, [], 0), (.getfield 31, [4, 6, 0, 121], 0), (.if_icmp .ge 44, [7, 2], 0)])
  | 2 => (3, [(.aload_n 0, [], 0), (.iload 4, [], 0), (.iconst 1, [], 0), (.invokevirtual 43, [k_Rd_part, 3, 4, 456], 0), (.iload_n 1, [], 0), (.if_icmp .ne 27, [6, 3], 0)])
  | 3 => (4, [(.aload_n 0, [], 0), (.iload 4, [], 0), (.iconst 2, [], 0), (.invokevirtual 43, [k_Rd_part, 3, 4, 456], 0), (.iload_n 2, [], 0), (.if_icmp .lt 16, [6, 4], 0)])
  | 4 => (5, [(.aload_n 0, [], 0), (.iload 4, [], 0), (.iconst 2, [], 0), (.invokevirtual 43, [k_Rd_part, 3, 4, 456], 0), (.iload_n 3, [], 0), (.if_icmp .gt 5, [6, 5], 0)])
  | 5 => (6, [(.iconst 1, [], 0), (.ireturn, [1], 0)])
  | 6 => (7, [(.iinc 4 1, [], 0), (.goto (-47), [1], 0)])
  | 7 => (8, [(.iconst 0, [], 0), (.ireturn, [1], 0)])
  | _ => (0, [])
def L_Rd_hasTest : Nat → List Bool := fun b => match b with
  | 0 => [true, true, true, true, false]
  | 1 => [true, true, true, true, true]
  | 2 => [true, true, true, true, true]
  | 3 => [true, true, true, true, true]
  | 4 => [true, true, true, true, true]
  | 5 => [false, false, false, false, false]
  | 6 => [true, true, true, true, true]
  | 7 => [false, false, false, false, false]
  | _ => []
def P_Rd_hasTest : List Nat := [0, 3, 12, 23, 34, 45, 47, 53]
def K_Rd_hasTest : KE := (⟨"NameReaders$Reader", "hasTest", "(III)Z"⟩, prog_6_method_13_code, 5, (Option.some Jvm.ClassFile.FieldType.boolean), B_Rd_hasTest, L_Rd_hasTest, P_Rd_hasTest, [1102, 1100, 1101, 82, 0, 4])
def B_Rd_takesSome : BT := fun b => match b with
  | 0 => (1, [(.aload_n 0, [], 0), (.getfield 28, [4, 5, 0, 120], 0), (.iload_n 1, [], 0), (.iand, [], 0), (.ifCond .eq 7, [2, 1], 0)])
  | 1 => (2, [(.iconst 1, [], 0), (.goto 4, [3], 0)])
  | 2 => (3, [(.iconst 0, [], 0)])
  | 3 => (4, [(.ireturn, [1], 0)])
  | _ => (0, [])
def L_Rd_takesSome : Nat → List Bool := fun b => match b with
  | 0 => [true, true]
  | 1 => [false, false]
  | 2 => [false, false]
  | 3 => [false, false]
  | _ => []
def P_Rd_takesSome : List Nat := [0, 9, 13, 14]
def K_Rd_takesSome : KE := (⟨"NameReaders$Reader", "takesSome", "(I)Z"⟩, prog_6_method_14_code, 2, (Option.some Jvm.ClassFile.FieldType.boolean), B_Rd_takesSome, L_Rd_takesSome, P_Rd_takesSome, [742, 740, 741, 82, 0, 2])
def B_Rd_takesAt : BT := fun b => match b with
  | 0 => (1, [(.aload_n 0, [], 0), (.getfield 28, [4, 5, 0, 120], 0), (.iload_n 1, [], 0), (.bipush 12, [], 0), (.ishr, [], 0), (.ishr, [], 0), (.iconst 1, [], 0), (.iand, [], 0), (.ifCond .eq 7, [2, 1], 0)])
  | 1 => (2, [(.iconst 1, [], 0), (.goto 4, [3], 0)])
  | 2 => (3, [(.iconst 0, [], 0)])
  | 3 => (4, [(.ireturn, [1], 0)])
  | _ => (0, [])
def L_Rd_takesAt : Nat → List Bool := fun b => match b with
  | 0 => [true, true]
  | 1 => [false, false]
  | 2 => [false, false]
  | 3 => [false, false]
  | _ => []
def P_Rd_takesAt : List Nat := [0, 14, 18, 19]
def K_Rd_takesAt : KE := (⟨"NameReaders$Reader", "takesAt", "(I)Z"⟩, prog_6_method_15_code, 2, (Option.some Jvm.ClassFile.FieldType.boolean), B_Rd_takesAt, L_Rd_takesAt, P_Rd_takesAt, [793, 791, 792, 82, 0, 2])
def B_Rd_takesBehind : BT := fun b => match b with
  | 0 => (1, [(.aload_n 0, [], 0), (.getfield 28, [4, 5, 0, 120], 0), (.aload_n 0, [], 0), (.iload_n 1, [], 0), (.iconst 4, [], 0), (.invokevirtual 43, [k_Rd_part, 3, 4, 456], 0), (.ishr, [], 0), (.iconst 1, [], 0), (.iand, [], 0), (.ifCond .eq 7, [2, 1], 0)])
  | 1 => (2, [(.iconst 1, [], 0), (.goto 4, [3], 0)])
  | 2 => (3, [(.iconst 0, [], 0)])
  | 3 => (4, [(.ireturn, [1], 0)])
  | _ => (0, [])
def L_Rd_takesBehind : Nat → List Bool := fun b => match b with
  | 0 => [true, true]
  | 1 => [false, false]
  | 2 => [false, false]
  | 3 => [false, false]
  | _ => []
def P_Rd_takesBehind : List Nat := [0, 16, 20, 21]
def K_Rd_takesBehind : KE := (⟨"NameReaders$Reader", "takesBehind", "(I)Z"⟩, prog_6_method_16_code, 2, (Option.some Jvm.ClassFile.FieldType.boolean), B_Rd_takesBehind, L_Rd_takesBehind, P_Rd_takesBehind, [857, 855, 856, 82, 0, 2])
def B_Rd_after : BT := fun b => match b with
  | 0 => (1, [(.iload_n 2, [], 0), (.iconst 5, [], 0), (.imul, [], 0), (.istore 4, [], 0), (.aload_n 0, [], 0), (.getfield 9, [4, 0, 2, 115], 0), (.iload 4, [], 0), (.iconst 2, [], 0), (.iadd, [], 0), (.iaload, [], 0), (.istore 5, [], 0), (.iconst 1, [], 0), (.istore 6, [], 0), (.iload 5, [], 0), (.iconst 3, [], 0), (.if_icmp .ne 42, [7, 1], 0)])
  | 1 => (2, [(.iload_n 1, [], 0), (.bipush 15, [], 0), (.iand, [], 0), (.iload_n 3, [], 0), (.if_icmp .eq 28, [5, 2], 0)])
  | 2 => (3, [(.iload_n 1, [], 0), (.iconst 4, [], 0), (.ishr, [], 0), (.bipush 15, [], 0), (.iand, [], 0), (.iload_n 3, [], 0), (.if_icmp .eq 18, [5, 3], 0)])
  | 3 => (4, [(.iload_n 1, [], 0), (.bipush 8, [], 0), (.ishr, [], 0), (.bipush 15, [], 0), (.iand, [], 0), (.iload_n 3, [], 0), (.if_icmp .eq 7, [5, 4], 0)])
  | 4 => (5, [(.iconst 1, [], 0), (.goto 4, [6], 0)])
  | 5 => (6, [(.iconst 0, [], 0)])
  | 6 => (7, [(.istore 6, [], 0), (.goto 29, [12], 0)])
  | 7 => (8, [(.iload 5, [], 0), (.iconst 4, [], 0), (.if_icmp .eq 23, [12, 8], 0)])
  | 8 => (9, [(.iload_n 1, [], 0), (.iload 5, [], 0), (.iconst 2, [], 0), (.ishl, [], 0), (.ishr, [], 0), (.bipush 15, [], 0), (.iand, [], 0), (.iload_n 3, [], 0), (.if_icmp .ne 7, [10, 9], 0)])
  | 9 => (10, [(.iconst 1, [], 0), (.goto 4, [11], 0)])
  | 10 => (11, [(.iconst 0, [], 0)])
  | 11 => (12, [(.istore 6, [], 0)])
  | 12 => (13, [(.iload 6, [], 0), (.ifCond .ne 5, [14, 13], 0)])
  | 13 => (14, [(.iconst (-1), [], 0), (.ireturn, [0], 0)])
  | 14 => (15, [(.iload_n 1, [], 0), (.sipush 4095, [], 0), (.iand, [], 0), (.istore 7, [], 0), (.aload_n 0, [], 0), (.getfield 9, [4, 0, 2, 115], 0), (.iload 4, [], 0), (.iconst 3, [], 0), (.iadd, [], 0), (.iaload, [], 0), (.istore 8, [], 0), (.iload 8, [], 0), (.ifCond .lt 24, [16, 15], 0)])
  | 15 => (16, [(.iload 7, [], 0), (.bipush 15, [], 0), (.iload 8, [], 0), (.iconst 2, [], 0), (.ishl, [], 0), (.ishl, [], 0), (.iconst (-1), [], 0), (.ixor, [], 0), (.iand, [], 0), (.iload_n 3, [], 0), (.iload 8, [], 0), (.iconst 2, [], 0), (.ishl, [], 0), (.ishl, [], 0), (.ior, [], 0), (.istore 7, [], 0)])
  | 16 => (17, [(.aload_n 0, [], 0), (.getfield 9, [4, 0, 2, 115], 0), (.iload 4, [], 0), (.iconst 4, [], 0), (.iadd, [], 0), (.iaload, [], 0), (.bipush 12, [], 0), (.ishl, [], 0), (.iload 7, [], 0), (.ior, [], 0), (.ireturn, [0], 0)])
  | _ => (0, [])
def L_Rd_after : Nat → List Bool := fun b => match b with
  | 0 => [true, true, true, true, false, false, false, false, false]
  | 1 => [true, true, false, true, true, false, false, false, false]
  | 2 => [true, true, false, true, true, false, false, false, false]
  | 3 => [true, true, false, true, true, false, false, false, false]
  | 4 => [true, true, false, true, true, false, false, false, false]
  | 5 => [true, true, false, true, true, false, false, false, false]
  | 6 => [true, true, false, true, true, false, false, false, false]
  | 7 => [true, true, false, true, true, true, true, false, false]
  | 8 => [true, true, false, true, true, true, false, false, false]
  | 9 => [true, true, false, true, true, false, false, false, false]
  | 10 => [true, true, false, true, true, false, false, false, false]
  | 11 => [true, true, false, true, true, false, false, false, false]
  | 12 => [true, true, false, true, true, false, true, false, false]
  | 13 => [false, false, false, false, false, false, false, false, false]
  | 14 => [true, true, false, true, true, false, false, false, false]
  | 15 => [true, false, false, true, true, false, false, true, true]
  | 16 => [true, false, false, false, true, false, false, true, false]
  | _ => []
def P_Rd_after : List Nat := [0, 25, 33, 43, 54, 58, 59, 64, 70, 83, 87, 88, 90, 95, 97, 120, 141]
def K_Rd_after : KE := (⟨"NameReaders$Reader", "after", "(III)I"⟩, prog_6_method_17_code, 9, (Option.some Jvm.ClassFile.FieldType.int), B_Rd_after, L_Rd_after, P_Rd_after, [731, 729, 730, 82, 0, 4])
def B_Rd_heldIn : BT := fun b => match b with
  | 0 => (1, [(.iload_n 0, [], 0), (.iload_n 1, [], 0), (.iconst 2, [], 0), (.ishl, [], 0), (.ishr, [], 0), (.bipush 15, [], 0), (.iand, [], 0), (.ireturn, [0], 0)])
  | _ => (0, [])
def L_Rd_heldIn : Nat → List Bool := fun b => match b with
  | 0 => [true, true]
  | _ => []
def P_Rd_heldIn : List Nat := [0]
def K_Rd_heldIn : KE := (⟨"NameReaders$Reader", "heldIn", "(II)I"⟩, prog_6_method_18_code, 2, (Option.some Jvm.ClassFile.FieldType.int), B_Rd_heldIn, L_Rd_heldIn, P_Rd_heldIn, [779, 778, 0, 82, 1, 2])
def B_Rd_settle : BT := fun b => match b with
  | 0 => (1, [(.iload_n 1, [], 0), (.iconst (-1), [], 0), (.if_icmp .ne 5, [2, 1], 0)])
  | 1 => (2, [(.iload_n 0, [], 0), (.ireturn, [0], 0)])
  | 2 => (3, [(.iload_n 0, [], 0), (.sipush (-4096), [], 0), (.iand, [], 0), (.istore_n 3, [], 0), (.iconst 0, [], 0), (.istore 4, [], 0)])
  | 3 => (4, [(.iload 4, [], 0), (.bipush 12, [], 0), (.if_icmp .ge 39, [8, 4], 0)])
  | 4 => (5, [(.iload_n 0, [], 0), (.iload 4, [], 0), (.ishr, [], 0), (.bipush 15, [], 0), (.iand, [], 0), (.istore 5, [], 0), (.iload_n 3, [], 0), (.iload_n 1, [], 0), (.iload 5, [], 0), (.ishr, [], 0), (.iconst 1, [], 0), (.iand, [], 0), (.ifCond .eq 8, [6, 5], 0)])
  | 5 => (6, [(.iload 5, [], 0), (.goto 4, [7], 0)])
  | 6 => (7, [(.iload_n 2, [], 0)])
  | 7 => (8, [(.iload 4, [], 0), (.ishl, [], 0), (.ior, [], 0), (.istore_n 3, [], 0), (.iinc 4 4, [], 0), (.goto (-40), [3], 0)])
  | 8 => (9, [(.iload_n 3, [], 0), (.ireturn, [0], 0)])
  | _ => (0, [])
def L_Rd_settle : Nat → List Bool := fun b => match b with
  | 0 => [true, true, true, false, false, false]
  | 1 => [true, false, false, false, false, false]
  | 2 => [true, true, true, false, false, false]
  | 3 => [true, true, true, true, true, false]
  | 4 => [true, true, true, true, true, false]
  | 5 => [true, true, true, false, true, true]
  | 6 => [true, true, true, false, true, false]
  | 7 => [true, true, true, false, true, false]
  | 8 => [false, false, false, true, false, false]
  | _ => []
def P_Rd_settle : List Nat := [0, 5, 7, 16, 23, 42, 47, 48, 59]
def K_Rd_settle : KE := (⟨"NameReaders$Reader", "settle", "(III)I"⟩, prog_6_method_19_code, 6, (Option.some Jvm.ClassFile.FieldType.int), B_Rd_settle, L_Rd_settle, P_Rd_settle, [734, 733, 0, 82, 1, 3])
def B_Rw_init : BT := fun b => match b with
  | 0 => (1, [(.aload_n 0, [], 0), (.invokespecial 3, [0, 1, 5, 168], 0), (.aload_n 0, [], 0), (.bipush 12, [], 0), (.newarray .int, [0], 0), (.putfield 9, [5, 0, 2, 169], 0), (.aload_n 0, [], 0), (.bipush 12, [], 0), (.newarray .int, [0], 0), (.putfield 15, [5, 1, 2, 170], 0), (.aload_n 0, [], 0), (.bipush 12, [], 0), (.newarray .int, [0], 0), (.putfield 18, [5, 2, 2, 171], 0), (.aload_n 0, [], 0), (.bipush 13, [], 0), (.newarray .int, [0], 0), (.putfield 21, [5, 3, 2, 172], 0), (.aload_n 0, [], 0), (.iconst 0, [], 0), (.putfield 24, [5, 4, 0, 173], 0), (.aload_n 0, [], 0), (.iconst 0, [], 0), (.putfield 28, [5, 5, 0, 174], 0), (.aload_n 0, [], 0), (.iconst 0, [], 0), (.putfield 31, [5, 6, 0, 175], 0), (.aload_n 0, [], 0), (.iconst 0, [], 0), (.putfield 34, [5, 7, 0, 176], 0), (.return_, [], 0)])
  | _ => (0, [])
def L_Rw_init : Nat → List Bool := fun b => match b with
  | 0 => [true]
  | _ => []
def P_Rw_init : List Nat := [0]
def K_Rw_init : KE := (⟨"NameReaders$Row", "<init>", "()V"⟩, prog_7_method_1_code, 1, (Option.none : Option Jvm.ClassFile.FieldType), B_Rw_init, L_Rw_init, P_Rw_init, [167, 166, 0, 84, 2, 1])
def B_Rw_size : BT := fun b => match b with
  | 0 => (1, [(.aload_n 0, [], 0), (.getfield 24, [5, 4, 0, 173], 0), (.ireturn, [0], 0)])
  | _ => (0, [])
def L_Rw_size : Nat → List Bool := fun b => match b with
  | 0 => [true]
  | _ => []
def P_Rw_size : List Nat := [0]
def K_Rw_size : KE := (⟨"NameReaders$Row", "size", "()I"⟩, prog_7_method_2_code, 1, (Option.some Jvm.ClassFile.FieldType.int), B_Rw_size, L_Rw_size, P_Rw_size, [628, 626, 627, 84, 0, 1])
def B_Rw_told : BT := fun b => match b with
  | 0 => (1, [(.aload_n 0, [], 0), (.getfield 28, [5, 5, 0, 174], 0), (.ireturn, [0], 0)])
  | _ => (0, [])
def L_Rw_told : Nat → List Bool := fun b => match b with
  | 0 => [true]
  | _ => []
def P_Rw_told : List Nat := [0]
def K_Rw_told : KE := (⟨"NameReaders$Row", "told", "()I"⟩, prog_7_method_3_code, 1, (Option.some Jvm.ClassFile.FieldType.int), B_Rw_told, L_Rw_told, P_Rw_told, [1037, 1035, 1036, 84, 0, 1])
def B_Rw_gaps : BT := fun b => match b with
  | 0 => (1, [(.aload_n 0, [], 0), (.getfield 31, [5, 6, 0, 175], 0), (.ireturn, [0], 0)])
  | _ => (0, [])
def L_Rw_gaps : Nat → List Bool := fun b => match b with
  | 0 => [true]
  | _ => []
def P_Rw_gaps : List Nat := [0]
def K_Rw_gaps : KE := (⟨"NameReaders$Row", "gaps", "()I"⟩, prog_7_method_4_code, 1, (Option.some Jvm.ClassFile.FieldType.int), B_Rw_gaps, L_Rw_gaps, P_Rw_gaps, [669, 667, 668, 84, 0, 1])
def B_Rw_gapPairs : BT := fun b => match b with
  | 0 => (1, [(.aload_n 0, [], 0), (.getfield 34, [5, 7, 0, 176], 0), (.ireturn, [0], 0)])
  | _ => (0, [])
def L_Rw_gapPairs : Nat → List Bool := fun b => match b with
  | 0 => [true]
  | _ => []
def P_Rw_gapPairs : List Nat := [0]
def K_Rw_gapPairs : KE := (⟨"NameReaders$Row", "gapPairs", "()I"⟩, prog_7_method_5_code, 1, (Option.some Jvm.ClassFile.FieldType.int), B_Rw_gapPairs, L_Rw_gapPairs, P_Rw_gapPairs, [1018, 1016, 1017, 84, 0, 1])
def B_Rw_letter : BT := fun b => match b with
  | 0 => (1, [(.aload_n 0, [], 0), (.getfield 9, [5, 0, 2, 169], 0), (.iload_n 1, [], 0), (.iaload, [], 0), (.ireturn, [0], 0)])
  | _ => (0, [])
def L_Rw_letter : Nat → List Bool := fun b => match b with
  | 0 => [true, true]
  | _ => []
def P_Rw_letter : List Nat := [0]
def K_Rw_letter : KE := (⟨"NameReaders$Row", "letter", "(I)I"⟩, prog_7_method_6_code, 2, (Option.some Jvm.ClassFile.FieldType.int), B_Rw_letter, L_Rw_letter, P_Rw_letter, [698, 696, 697, 84, 0, 2])
def B_Rw_name : BT := fun b => match b with
  | 0 => (1, [(.aload_n 0, [], 0), (.getfield 15, [5, 1, 2, 170], 0), (.iload_n 1, [], 0), (.iaload, [], 0), (.ireturn, [0], 0)])
  | _ => (0, [])
def L_Rw_name : Nat → List Bool := fun b => match b with
  | 0 => [true, true]
  | _ => []
def P_Rw_name : List Nat := [0]
def K_Rw_name : KE := (⟨"NameReaders$Row", "name", "(I)I"⟩, prog_7_method_7_code, 2, (Option.some Jvm.ClassFile.FieldType.int), B_Rw_name, L_Rw_name, P_Rw_name, [1028, 1026, 1027, 84, 0, 2])
def B_Rw_id : BT := fun b => match b with
  | 0 => (1, [(.aload_n 0, [], 0), (.getfield 18, [5, 2, 2, 171], 0), (.iload_n 1, [], 0), (.iaload, [], 0), (.ireturn, [0], 0)])
  | _ => (0, [])
def L_Rw_id : Nat → List Bool := fun b => match b with
  | 0 => [true, true]
  | _ => []
def P_Rw_id : List Nat := [0]
def K_Rw_id : KE := (⟨"NameReaders$Row", "id", "(I)I"⟩, prog_7_method_8_code, 2, (Option.some Jvm.ClassFile.FieldType.int), B_Rw_id, L_Rw_id, P_Rw_id, [702, 700, 701, 84, 0, 2])
def B_Rw_aliveBehind : BT := fun b => match b with
  | 0 => (1, [(.aload_n 0, [], 0), (.getfield 21, [5, 3, 2, 172], 0), (.iload_n 1, [], 0), (.iaload, [], 0), (.ireturn, [0], 0)])
  | _ => (0, [])
def L_Rw_aliveBehind : Nat → List Bool := fun b => match b with
  | 0 => [true, true]
  | _ => []
def P_Rw_aliveBehind : List Nat := [0]
def K_Rw_aliveBehind : KE := (⟨"NameReaders$Row", "aliveBehind", "(I)I"⟩, prog_7_method_9_code, 2, (Option.some Jvm.ClassFile.FieldType.int), B_Rw_aliveBehind, L_Rw_aliveBehind, P_Rw_aliveBehind, [706, 704, 705, 84, 0, 2])
def B_Rw_hasGap : BT := fun b => match b with
  | 0 => (1, [(.aload_n 0, [], 0), (.getfield 9, [5, 0, 2, 169], 0), (.iload_n 1, [], 0), (.iaload, [], 0), (.iconst (-1), [], 0), (.if_icmp .eq 13, [2, 1], 0)])
  | 1 => (2, [(.aload_n 0, [], 0), (.getfield 15, [5, 1, 2, 170], 0), (.iload_n 1, [], 0), (.iaload, [], 0), (.iconst (-1), [], 0), (.if_icmp .ne 7, [3, 2], 0)])
  | 2 => (3, [(.iconst 1, [], 0), (.goto 4, [4], 0)])
  | 3 => (4, [(.iconst 0, [], 0)])
  | 4 => (5, [(.ireturn, [1], 0)])
  | _ => (0, [])
def L_Rw_hasGap : Nat → List Bool := fun b => match b with
  | 0 => [true, true]
  | 1 => [true, true]
  | 2 => [false, false]
  | 3 => [false, false]
  | 4 => [false, false]
  | _ => []
def P_Rw_hasGap : List Nat := [0, 10, 20, 24, 25]
def K_Rw_hasGap : KE := (⟨"NameReaders$Row", "hasGap", "(I)Z"⟩, prog_7_method_10_code, 2, (Option.some Jvm.ClassFile.FieldType.boolean), B_Rw_hasGap, L_Rw_hasGap, P_Rw_hasGap, [648, 646, 647, 84, 0, 2])
def B_Rw_append : BT := fun b => match b with
  | 0 => (1, [(.aload_n 0, [], 0), (.getfield 24, [5, 4, 0, 173], 0), (.bipush 12, [], 0), (.if_icmp .lt 4, [2, 1], 0)])
  | 1 => (2, [(.return_, [], 0)])
  | 2 => (3, [(.aload_n 0, [], 0), (.dup, [], 0), (.getfield 24, [5, 4, 0, 173], 0), (.iconst 1, [], 0), (.iadd, [], 0), (.putfield 24, [5, 4, 0, 173], 0), (.aload_n 0, [], 0), (.aload_n 0, [], 0), (.getfield 24, [5, 4, 0, 173], 0), (.iconst 1, [], 0), (.isub, [], 0), (.iload_n 1, [], 0), (.iload_n 2, [], 0), (.invokevirtual 37, [k_Rw_put, 4, 5, 633], 0), (.return_, [], 0)])
  | _ => (0, [])
def L_Rw_append : Nat → List Bool := fun b => match b with
  | 0 => [true, true, true]
  | 1 => [false, false, false]
  | 2 => [true, true, true]
  | _ => []
def P_Rw_append : List Nat := [0, 9, 10]
def K_Rw_append : KE := (⟨"NameReaders$Row", "append", "(II)V"⟩, prog_7_method_11_code, 3, (Option.none : Option Jvm.ClassFile.FieldType), B_Rw_append, L_Rw_append, P_Rw_append, [632, 630, 631, 84, 0, 3])
def B_Rw_put : BT := fun b => match b with
  | 0 => (1, [(.iload_n 1, [], 0), (.ifCond .lt 11, [2, 1], 0)])
  | 1 => (2, [(.iload_n 1, [], 0), (.aload_n 0, [], 0), (.getfield 24, [5, 4, 0, 173], 0), (.if_icmp .lt 4, [3, 2], 0)])
  | 2 => (3, [(.return_, [], 0)])
  | 3 => (4, [(.aload_n 0, [], 0), (.getfield 9, [5, 0, 2, 169], 0), (.iload_n 1, [], 0), (.iload_n 2, [], 0), (.iastore, [], 0), (.aload_n 0, [], 0), (.getfield 15, [5, 1, 2, 170], 0), (.iload_n 1, [], 0), (.iload_n 3, [], 0), (.iastore, [], 0), (.aload_n 0, [], 0), (.invokevirtual 41, [k_Rw_survey, 1, 5, 637], 0), (.return_, [], 0)])
  | _ => (0, [])
def L_Rw_put : Nat → List Bool := fun b => match b with
  | 0 => [true, true, true, true]
  | 1 => [true, true, true, true]
  | 2 => [false, false, false, false]
  | 3 => [true, true, true, true]
  | _ => []
def P_Rw_put : List Nat := [0, 4, 12, 13]
def K_Rw_put : KE := (⟨"NameReaders$Row", "put", "(III)V"⟩, prog_7_method_12_code, 4, (Option.none : Option Jvm.ClassFile.FieldType), B_Rw_put, L_Rw_put, P_Rw_put, [636, 634, 635, 84, 0, 4])
def B_Rw_wipe : BT := fun b => match b with
  | 0 => (1, [(.aload_n 0, [], 0), (.getfield 24, [5, 4, 0, 173], 0), (.istore_n 1, [], 0), (.aload_n 0, [], 0), (.iconst 0, [], 0), (.putfield 24, [5, 4, 0, 173], 0), (.aload_n 0, [], 0), (.invokevirtual 41, [k_Rw_survey, 1, 5, 637], 0), (.iload_n 1, [], 0), (.ireturn, [0], 0)])
  | _ => (0, [])
def L_Rw_wipe : Nat → List Bool := fun b => match b with
  | 0 => [true, false]
  | _ => []
def P_Rw_wipe : List Nat := [0]
def K_Rw_wipe : KE := (⟨"NameReaders$Row", "wipe", "()I"⟩, prog_7_method_13_code, 2, (Option.some Jvm.ClassFile.FieldType.int), B_Rw_wipe, L_Rw_wipe, P_Rw_wipe, [661, 659, 660, 84, 0, 1])
def B_Rw_idOf : BT := fun b => match b with
  | 0 => (1, [(.iconst 0, [], 0), (.istore_n 2, [], 0)])
  | 1 => (2, [(.iload_n 2, [], 0), (.aload_n 0, [], 0), (.getfield 24, [5, 4, 0, 173], 0), (.if_icmp .ge 26, [5, 2], 0)])
  | 2 => (3, [(.aload_n 0, [], 0), (.getfield 15, [5, 1, 2, 170], 0), (.iload_n 2, [], 0), (.iaload, [], 0), (.iload_n 1, [], 0), (.if_icmp .ne 10, [4, 3], 0)])
  | 3 => (4, [(.aload_n 0, [], 0), (.getfield 18, [5, 2, 2, 171], 0), (.iload_n 2, [], 0), (.iaload, [], 0), (.ireturn, [0], 0)])
  | 4 => (5, [(.iinc 2 1, [], 0), (.goto (-28), [1], 0)])
  | 5 => (6, [(.iconst 0, [], 0), (.ireturn, [0], 0)])
  | _ => (0, [])
def L_Rw_idOf : Nat → List Bool := fun b => match b with
  | 0 => [true, true, false]
  | 1 => [true, true, true]
  | 2 => [true, true, true]
  | 3 => [true, false, true]
  | 4 => [true, true, true]
  | 5 => [false, false, false]
  | _ => []
def P_Rw_idOf : List Nat := [0, 2, 10, 20, 27, 33]
def K_Rw_idOf : KE := (⟨"NameReaders$Row", "idOf", "(I)I"⟩, prog_7_method_14_code, 3, (Option.some Jvm.ClassFile.FieldType.int), B_Rw_idOf, L_Rw_idOf, P_Rw_idOf, [1041, 1039, 1040, 84, 0, 2])
def B_Rw_survey : BT := fun b => match b with
  | 0 => (1, [(.aload_n 0, [], 0), (.iconst 0, [], 0), (.putfield 28, [5, 5, 0, 174], 0), (.aload_n 0, [], 0), (.iconst 0, [], 0), (.putfield 31, [5, 6, 0, 175], 0), (.aload_n 0, [], 0), (.iconst 0, [], 0), (.putfield 34, [5, 7, 0, 176], 0), (.iconst 0, [], 0), (.istore_n 1, [], 0)])
  | 1 => (2, [(.iload_n 1, [], 0), (.aload_n 0, [], 0), (.getfield 24, [5, 4, 0, 173], 0), (.if_icmp .ge 82, [12, 2], 0)])
  | 2 => (3, [(.aload_n 0, [], 0), (.getfield 18, [5, 2, 2, 171], 0), (.iload_n 1, [], 0), (.aload_n 0, [], 0), (.iload_n 1, [], 0), (.invokevirtual 44, [k_Rw_idAt, 2, 5, 641], 0), (.iastore, [], 0), (.aload_n 0, [], 0), (.dup, [], 0), (.getfield 31, [5, 6, 0, 175], 0), (.aload_n 0, [], 0), (.getfield 9, [5, 0, 2, 169], 0), (.iload_n 1, [], 0), (.iaload, [], 0), (.iconst (-1), [], 0), (.if_icmp .ne 7, [4, 3], 0)])
  | 3 => (4, [(.iconst 1, [], 0), (.goto 4, [5], 0)])
  | 4 => (5, [(.iconst 0, [], 0)])
  | 5 => (6, [(.aload_n 0, [], 0), (.getfield 15, [5, 1, 2, 170], 0), (.iload_n 1, [], 0), (.iaload, [], 0), (.iconst (-1), [], 0), (.if_icmp .ne 7, [7, 6], 0)])
  | 6 => (7, [(.iconst 1, [], 0), (.goto 4, [8], 0)])
  | 7 => (8, [(.iconst 0, [], 0)])
  | 8 => (9, [(.iadd, [], 0), (.iadd, [], 0), (.putfield 31, [5, 6, 0, 175], 0), (.aload_n 0, [], 0), (.dup, [], 0), (.getfield 34, [5, 7, 0, 176], 0), (.aload_n 0, [], 0), (.iload_n 1, [], 0), (.invokevirtual 48, [k_Rw_hasGap, 2, 5, 645], 0), (.ifCond .eq 7, [10, 9], 0)])
  | 9 => (10, [(.iconst 1, [], 0), (.goto 4, [11], 0)])
  | 10 => (11, [(.iconst 0, [], 0)])
  | 11 => (12, [(.iadd, [], 0), (.putfield 34, [5, 7, 0, 176], 0), (.iinc 1 1, [], 0), (.goto (-84), [1], 0)])
  | 12 => (13, [(.aload_n 0, [], 0), (.getfield 21, [5, 3, 2, 172], 0), (.aload_n 0, [], 0), (.getfield 24, [5, 4, 0, 173], 0), (.iconst 1, [], 0), (.iastore, [], 0), (.aload_n 0, [], 0), (.getfield 24, [5, 4, 0, 173], 0), (.iconst 1, [], 0), (.isub, [], 0), (.istore_n 1, [], 0)])
  | 13 => (14, [(.iload_n 1, [], 0), (.ifCond .lt 46, [18, 14], 0)])
  | 14 => (15, [(.aload_n 0, [], 0), (.getfield 21, [5, 3, 2, 172], 0), (.iload_n 1, [], 0), (.aload_n 0, [], 0), (.getfield 15, [5, 1, 2, 170], 0), (.iload_n 1, [], 0), (.iaload, [], 0), (.iconst (-1), [], 0), (.if_icmp .ne 7, [16, 15], 0)])
  | 15 => (16, [(.iconst (-1), [], 0), (.goto 20, [17], 0)])
  | 16 => (17, [(.aload_n 0, [], 0), (.getfield 21, [5, 3, 2, 172], 0), (.iload_n 1, [], 0), (.iconst 1, [], 0), (.iadd, [], 0), (.iaload, [], 0), (.iconst 1, [], 0), (.aload_n 0, [], 0), (.getfield 18, [5, 2, 2, 171], 0), (.iload_n 1, [], 0), (.iaload, [], 0), (.ishl, [], 0), (.ior, [], 0)])
  | 17 => (18, [(.iastore, [], 0), (.iinc 1 (-1), [], 0), (.goto (-44), [13], 0)])
  | 18 => (19, [(.return_, [], 0)])
  | _ => (0, [])
def L_Rw_survey : Nat → List Bool := fun b => match b with
  | 0 => [true, false]
  | 1 => [true, true]
  | 2 => [true, true]
  | 3 => [true, true]
  | 4 => [true, true]
  | 5 => [true, true]
  | 6 => [true, true]
  | 7 => [true, true]
  | 8 => [true, true]
  | 9 => [true, true]
  | 10 => [true, true]
  | 11 => [true, true]
  | 12 => [true, false]
  | 13 => [true, true]
  | 14 => [true, true]
  | 15 => [true, true]
  | 16 => [true, true]
  | 17 => [true, true]
  | 18 => [false, false]
  | _ => []
def P_Rw_survey : List Nat := [0, 17, 25, 51, 55, 56, 66, 70, 71, 89, 93, 94, 104, 121, 125, 140, 144, 161, 168]
def K_Rw_survey : KE := (⟨"NameReaders$Row", "survey", "()V"⟩, prog_7_method_15_code, 2, (Option.none : Option Jvm.ClassFile.FieldType), B_Rw_survey, L_Rw_survey, P_Rw_survey, [640, 639, 8, 84, 0, 1])
def B_Rw_idAt : BT := fun b => match b with
  | 0 => (1, [(.aload_n 0, [], 0), (.getfield 15, [5, 1, 2, 170], 0), (.iload_n 1, [], 0), (.iaload, [], 0), (.iconst (-1), [], 0), (.if_icmp .ne 5, [2, 1], 0)])
  | 1 => (2, [(.iconst 0, [], 0), (.ireturn, [0], 0)])
  | 2 => (3, [(.iconst 0, [], 0), (.istore_n 2, [], 0)])
  | 3 => (4, [(.iload_n 2, [], 0), (.iload_n 1, [], 0), (.if_icmp .ge 31, [7, 4], 0)])
  | 4 => (5, [(.aload_n 0, [], 0), (.getfield 15, [5, 1, 2, 170], 0), (.iload_n 2, [], 0), (.iaload, [], 0), (.aload_n 0, [], 0), (.getfield 15, [5, 1, 2, 170], 0), (.iload_n 1, [], 0), (.iaload, [], 0), (.if_icmp .ne 10, [6, 5], 0)])
  | 5 => (6, [(.aload_n 0, [], 0), (.getfield 18, [5, 2, 2, 171], 0), (.iload_n 2, [], 0), (.iaload, [], 0), (.ireturn, [0], 0)])
  | 6 => (7, [(.iinc 2 1, [], 0), (.goto (-30), [3], 0)])
  | 7 => (8, [(.aload_n 0, [], 0), (.dup, [], 0), (.getfield 28, [5, 5, 0, 174], 0), (.iconst 1, [], 0), (.iadd, [], 0), (.putfield 28, [5, 5, 0, 174], 0), (.aload_n 0, [], 0), (.getfield 28, [5, 5, 0, 174], 0), (.ireturn, [0], 0)])
  | _ => (0, [])
def L_Rw_idAt : Nat → List Bool := fun b => match b with
  | 0 => [true, true, false]
  | 1 => [false, false, false]
  | 2 => [true, true, false]
  | 3 => [true, true, true]
  | 4 => [true, true, true]
  | 5 => [true, false, true]
  | 6 => [true, true, true]
  | 7 => [true, false, false]
  | _ => []
def P_Rw_idAt : List Nat := [0, 10, 12, 14, 19, 34, 41, 47]
def K_Rw_idAt : KE := (⟨"NameReaders$Row", "idAt", "(I)I"⟩, prog_7_method_16_code, 3, (Option.some Jvm.ClassFile.FieldType.int), B_Rw_idAt, L_Rw_idAt, P_Rw_idAt, [644, 643, 9, 84, 0, 2])
def B_Ss_init : BT := fun b => match b with
  | 0 => (1, [(.aload_n 0, [], 0), (.invokespecial 3, [0, 1, 6, 316], 0), (.aload_n 0, [], 0), (.bipush 6, [], 0), (.newarray .int, [0], 0), (.putfield 9, [6, 1, 2, 318], 0), (.aload_n 0, [], 0), (.iconst 0, [], 0), (.putfield 15, [6, 4, 0, 321], 0), (.aload_n 0, [], 0), (.iconst 0, [], 0), (.putfield 19, [6, 5, 0, 322], 0), (.aload_n 0, [], 0), (.iconst 0, [], 0), (.putfield 22, [6, 6, 0, 323], 0), (.aload_n 0, [], 0), (.iconst 0, [], 0), (.putfield 25, [6, 7, 0, 324], 0), (.aload_n 0, [], 0), (.aload_n 1, [], 0), (.putfield 28, [6, 0, 2, 317], 0), (.aload_n 0, [], 0), (.aload_n 2, [], 0), (.putfield 32, [6, 2, 2, 319], 0), (.aload_n 0, [], 0), (.aload_n 2, [], 0), (.putfield 36, [6, 3, 2, 320], 0), (.return_, [], 0)])
  | _ => (0, [])
def L_Ss_init : Nat → List Bool := fun b => match b with
  | 0 => [true, true, true]
  | _ => []
def P_Ss_init : List Nat := [0]
def K_Ss_init : KE := (⟨"NameReaders$ShapeSearch", "<init>", "([LNameReaders$Spots;LNameReaders$Reader;)V"⟩, prog_8_method_1_code, 3, (Option.none : Option Jvm.ClassFile.FieldType), B_Ss_init, L_Ss_init, P_Ss_init, [315, 314, 0, 90, 2, 3])
def B_Ss_passed : BT := fun b => match b with
  | 0 => (1, [(.aload_n 0, [], 0), (.getfield 25, [6, 7, 0, 324], 0), (.ireturn, [0], 0)])
  | _ => (0, [])
def L_Ss_passed : Nat → List Bool := fun b => match b with
  | 0 => [true]
  | _ => []
def P_Ss_passed : List Nat := [0]
def K_Ss_passed : KE := (⟨"NameReaders$ShapeSearch", "passed", "()I"⟩, prog_8_method_2_code, 1, (Option.some Jvm.ClassFile.FieldType.int), B_Ss_passed, L_Ss_passed, P_Ss_passed, [875, 873, 874, 90, 0, 1])
def B_Ss_find : BT := fun b => match b with
  | 0 => (1, [(.aload_n 0, [], 0), (.aload_n 1, [], 0), (.putfield 32, [6, 2, 2, 319], 0), (.aload_n 0, [], 0), (.aload_n 2, [], 0), (.putfield 36, [6, 3, 2, 320], 0), (.aload_n 0, [], 0), (.iload_n 3, [], 0), (.putfield 15, [6, 4, 0, 321], 0), (.aload_n 0, [], 0), (.iload 4, [], 0), (.putfield 19, [6, 5, 0, 322], 0), (.aload_n 0, [], 0), (.iload 5, [], 0), (.putfield 22, [6, 6, 0, 323], 0), (.aload_n 0, [], 0), (.iconst 0, [], 0), (.putfield 25, [6, 7, 0, 324], 0), (.aload_n 0, [], 0), (.getfield 15, [6, 4, 0, 321], 0), (.ifCond .ne 48, [8, 1], 0)])
  | 1 => (2, [(.aload_n 0, [], 0), (.aload_n 0, [], 0), (.getfield 32, [6, 2, 2, 319], 0), (.iconst 0, [], 0), (.invokevirtual 39, [k_Rd_takesAt, 2, 4, 827], 0), (.aload_n 0, [], 0), (.getfield 36, [6, 3, 2, 320], 0), (.iconst 0, [], 0), (.invokevirtual 39, [k_Rd_takesAt, 2, 4, 827], 0), (.if_icmp .eq 7, [3, 2], 0)])
  | 2 => (3, [(.iconst 1, [], 0), (.goto 4, [4], 0)])
  | 3 => (4, [(.iconst 0, [], 0)])
  | 4 => (5, [(.putfield 25, [6, 7, 0, 324], 0), (.aload_n 0, [], 0), (.getfield 22, [6, 6, 0, 323], 0), (.aload_n 0, [], 0), (.getfield 25, [6, 7, 0, 324], 0), (.if_icmp .ge 7, [6, 5], 0)])
  | 5 => (6, [(.iconst 1, [], 0), (.goto 4, [7], 0)])
  | 6 => (7, [(.iconst 0, [], 0)])
  | 7 => (8, [(.ireturn, [1], 0)])
  | 8 => (9, [(.aload_n 0, [], 0), (.iconst 0, [], 0), (.invokevirtual 45, [k_Ss_setOf, 2, 6, 828], 0), (.iconst 0, [], 0), (.invokevirtual 49, [k_Sp_startAt, 2, 7, 832], 0), (.aload_n 0, [], 0), (.iconst 0, [], 0), (.invokevirtual 55, [k_Ss_otherSetOf, 2, 6, 833], 0), (.iconst 0, [], 0), (.invokevirtual 49, [k_Sp_startAt, 2, 7, 832], 0), (.aload_n 0, [], 0), (.iconst 0, [], 0), (.iconst 0, [], 0), (.invokevirtual 58, [k_Ss_goOn, 3, 6, 837], 0), (.ireturn, [1], 0)])
  | _ => (0, [])
def L_Ss_find : Nat → List Bool := fun b => match b with
  | 0 => [true, true, true, true, true, true]
  | 1 => [true, false, false, false, false, false]
  | 2 => [true, false, false, false, false, false]
  | 3 => [true, false, false, false, false, false]
  | 4 => [true, false, false, false, false, false]
  | 5 => [false, false, false, false, false, false]
  | 6 => [false, false, false, false, false, false]
  | 7 => [false, false, false, false, false, false]
  | 8 => [true, false, false, false, false, false]
  | _ => []
def P_Ss_find : List Nat := [0, 39, 59, 63, 64, 78, 82, 83, 84]
def K_Ss_find : KE := (⟨"NameReaders$ShapeSearch", "find", "(LNameReaders$Reader;LNameReaders$Reader;III)Z"⟩, prog_8_method_3_code, 6, (Option.some Jvm.ClassFile.FieldType.boolean), B_Ss_find, L_Ss_find, P_Ss_find, [826, 824, 825, 90, 0, 6])
def B_Ss_pairAt : BT := fun b => match b with
  | 0 => (1, [(.aload_n 0, [], 0), (.getfield 9, [6, 1, 2, 318], 0), (.iload_n 1, [], 0), (.iaload, [], 0), (.ireturn, [0], 0)])
  | _ => (0, [])
def L_Ss_pairAt : Nat → List Bool := fun b => match b with
  | 0 => [true, true]
  | _ => []
def P_Ss_pairAt : List Nat := [0]
def K_Ss_pairAt : KE := (⟨"NameReaders$ShapeSearch", "pairAt", "(I)I"⟩, prog_8_method_4_code, 2, (Option.some Jvm.ClassFile.FieldType.int), B_Ss_pairAt, L_Ss_pairAt, P_Ss_pairAt, [883, 881, 882, 90, 0, 2])
def B_Ss_setOf : BT := fun b => match b with
  | 0 => (1, [(.aload_n 0, [], 0), (.getfield 28, [6, 0, 2, 317], 0), (.iload_n 1, [], 0), (.aaload, [], 0), (.areturn, [], 0)])
  | _ => (0, [])
def L_Ss_setOf : Nat → List Bool := fun b => match b with
  | 0 => [true, true]
  | _ => []
def P_Ss_setOf : List Nat := [0]
def K_Ss_setOf : KE := (⟨"NameReaders$ShapeSearch", "setOf", "(I)LNameReaders$Spots;"⟩, prog_8_method_5_code, 2, (Option.some (Jvm.ClassFile.FieldType.object "NameReaders$Spots")), B_Ss_setOf, L_Ss_setOf, P_Ss_setOf, [831, 830, 14, 90, 0, 2])
def B_Ss_otherSetOf : BT := fun b => match b with
  | 0 => (1, [(.aload_n 0, [], 0), (.getfield 28, [6, 0, 2, 317], 0), (.bipush 6, [], 0), (.iload_n 1, [], 0), (.iadd, [], 0), (.aaload, [], 0), (.areturn, [], 0)])
  | _ => (0, [])
def L_Ss_otherSetOf : Nat → List Bool := fun b => match b with
  | 0 => [true, true]
  | _ => []
def P_Ss_otherSetOf : List Nat := [0]
def K_Ss_otherSetOf : KE := (⟨"NameReaders$ShapeSearch", "otherSetOf", "(I)LNameReaders$Spots;"⟩, prog_8_method_6_code, 2, (Option.some (Jvm.ClassFile.FieldType.object "NameReaders$Spots")), B_Ss_otherSetOf, L_Ss_otherSetOf, P_Ss_otherSetOf, [836, 835, 15, 90, 0, 2])
def B_Ss_goOn : BT := fun b => match b with
  | 0 => (1, [(.iload_n 1, [], 0), (.aload_n 0, [], 0), (.getfield 15, [6, 4, 0, 321], 0), (.iconst 1, [], 0), (.isub, [], 0), (.if_icmp .lt 10, [2, 1], 0)])
  | 1 => (2, [(.aload_n 0, [], 0), (.iload_n 1, [], 0), (.iload_n 2, [], 0), (.invokevirtual 62, [k_Ss_end, 3, 6, 841], 0), (.ireturn, [1], 0)])
  | 2 => (3, [(.iconst 0, [], 0), (.istore_n 3, [], 0)])
  | 3 => (4, [(.iload_n 3, [], 0), (.aload_n 0, [], 0), (.getfield 19, [6, 5, 0, 322], 0), (.if_icmp .ge 148, [17, 4], 0)])
  | 4 => (5, [(.iconst 0, [], 0), (.istore 4, [], 0)])
  | 5 => (6, [(.iload 4, [], 0), (.iload_n 2, [], 0), (.if_icmp .gt 133, [16, 6], 0)])
  | 6 => (7, [(.aload_n 0, [], 0), (.iload_n 1, [], 0), (.iconst 1, [], 0), (.iadd, [], 0), (.invokevirtual 45, [k_Ss_setOf, 2, 6, 828], 0), (.aload_n 0, [], 0), (.getfield 32, [6, 2, 2, 319], 0), (.aload_n 0, [], 0), (.iload_n 1, [], 0), (.invokevirtual 45, [k_Ss_setOf, 2, 6, 828], 0), (.iload_n 3, [], 0), (.iload 4, [], 0), (.iconst 1, [], 0), (.iadd, [], 0), (.iconst (-1), [], 0), (.invokevirtual 65, [k_Sp_follow, 6, 7, 871], 0), (.aload_n 0, [], 0), (.iload_n 1, [], 0), (.iconst 1, [], 0), (.iadd, [], 0), (.invokevirtual 55, [k_Ss_otherSetOf, 2, 6, 833], 0), (.aload_n 0, [], 0), (.getfield 36, [6, 3, 2, 320], 0), (.aload_n 0, [], 0), (.iload_n 1, [], 0), (.invokevirtual 55, [k_Ss_otherSetOf, 2, 6, 833], 0), (.iload_n 3, [], 0), (.iload 4, [], 0), (.iconst 1, [], 0), (.iadd, [], 0), (.iconst (-1), [], 0), (.invokevirtual 65, [k_Sp_follow, 6, 7, 871], 0), (.aload_n 0, [], 0), (.getfield 9, [6, 1, 2, 318], 0), (.iload_n 1, [], 0), (.bipush 16, [], 0), (.iload_n 3, [], 0), (.imul, [], 0), (.iload 4, [], 0), (.iadd, [], 0), (.iastore, [], 0), (.aload_n 0, [], 0), (.iload_n 1, [], 0), (.iconst 1, [], 0), (.iadd, [], 0), (.invokevirtual 45, [k_Ss_setOf, 2, 6, 828], 0), (.invokevirtual 69, [k_Sp_size, 1, 7, 850], 0), (.aload_n 0, [], 0), (.iload_n 1, [], 0), (.iconst 1, [], 0), (.iadd, [], 0), (.invokevirtual 55, [k_Ss_otherSetOf, 2, 6, 833], 0), (.invokevirtual 69, [k_Sp_size, 1, 7, 850], 0), (.iadd, [], 0), (.ifCond .le 7, [8, 7], 0)])
  | 7 => (8, [(.iconst 1, [], 0), (.goto 4, [9], 0)])
  | 8 => (9, [(.iconst 0, [], 0)])
  | 9 => (10, [(.istore 5, [], 0), (.iload 5, [], 0), (.ifCond .eq 28, [15, 10], 0)])
  | 10 => (11, [(.aload_n 0, [], 0), (.iload_n 1, [], 0), (.iconst 1, [], 0), (.iadd, [], 0), (.iload 4, [], 0), (.iload_n 2, [], 0), (.if_icmp .ne 9, [12, 11], 0)])
  | 11 => (12, [(.iload_n 2, [], 0), (.iconst 1, [], 0), (.iadd, [], 0), (.goto 4, [13], 0)])
  | 12 => (13, [(.iload_n 2, [], 0)])
  | 13 => (14, [(.invokevirtual 58, [k_Ss_goOn, 3, 6, 837], 0), (.ifCond .eq 5, [15, 14], 0)])
  | 14 => (15, [(.iconst 1, [], 0), (.ireturn, [1], 0)])
  | 15 => (16, [(.iinc 4 1, [], 0), (.goto (-133), [5], 0)])
  | 16 => (17, [(.iinc 3 1, [], 0), (.goto (-150), [3], 0)])
  | 17 => (18, [(.iconst 0, [], 0), (.ireturn, [1], 0)])
  | _ => (0, [])
def L_Ss_goOn : Nat → List Bool := fun b => match b with
  | 0 => [true, true, true, false, false, false]
  | 1 => [true, true, true, false, false, false]
  | 2 => [true, true, true, false, false, false]
  | 3 => [true, true, true, true, false, false]
  | 4 => [true, true, true, true, false, false]
  | 5 => [true, true, true, true, true, false]
  | 6 => [true, true, true, true, true, false]
  | 7 => [true, true, true, true, true, false]
  | 8 => [true, true, true, true, true, false]
  | 9 => [true, true, true, true, true, false]
  | 10 => [true, true, true, true, true, false]
  | 11 => [true, true, true, true, true, false]
  | 12 => [true, true, true, true, true, false]
  | 13 => [true, true, true, true, true, false]
  | 14 => [false, false, false, false, false, false]
  | 15 => [true, true, true, true, true, false]
  | 16 => [true, true, true, true, false, false]
  | 17 => [false, false, false, false, false, false]
  | _ => []
def P_Ss_goOn : List Nat := [0, 10, 17, 19, 27, 30, 36, 123, 127, 128, 135, 145, 151, 152, 158, 160, 166, 172]
def K_Ss_goOn : KE := (⟨"NameReaders$ShapeSearch", "goOn", "(II)Z"⟩, prog_8_method_7_code, 6, (Option.some Jvm.ClassFile.FieldType.boolean), B_Ss_goOn, L_Ss_goOn, P_Ss_goOn, [840, 839, 16, 90, 0, 3])
def B_Ss_end : BT := fun b => match b with
  | 0 => (1, [(.aload_n 0, [], 0), (.aload_n 0, [], 0), (.getfield 32, [6, 2, 2, 319], 0), (.aload_n 0, [], 0), (.iload_n 1, [], 0), (.invokevirtual 45, [k_Ss_setOf, 2, 6, 828], 0), (.iload_n 2, [], 0), (.invokevirtual 73, [k_Ss_endings, 4, 6, 845], 0), (.aload_n 0, [], 0), (.aload_n 0, [], 0), (.getfield 36, [6, 3, 2, 320], 0), (.aload_n 0, [], 0), (.iload_n 1, [], 0), (.invokevirtual 55, [k_Ss_otherSetOf, 2, 6, 833], 0), (.iload_n 2, [], 0), (.invokevirtual 73, [k_Ss_endings, 4, 6, 845], 0), (.ixor, [], 0), (.istore_n 3, [], 0), (.iload_n 3, [], 0), (.invokestatic 77, [k_J_bitI, 1, 865], 0), (.istore 4, [], 0), (.aload_n 0, [], 0), (.getfield 22, [6, 6, 0, 323], 0), (.aload_n 0, [], 0), (.getfield 25, [6, 7, 0, 324], 0), (.isub, [], 0), (.iload 4, [], 0), (.if_icmp .lt 16, [2, 1], 0)])
  | 1 => (2, [(.aload_n 0, [], 0), (.dup, [], 0), (.getfield 25, [6, 7, 0, 324], 0), (.iload 4, [], 0), (.iadd, [], 0), (.putfield 25, [6, 7, 0, 324], 0), (.iconst 0, [], 0), (.ireturn, [1], 0)])
  | 2 => (3, [(.aload_n 0, [], 0), (.getfield 22, [6, 6, 0, 323], 0), (.aload_n 0, [], 0), (.getfield 25, [6, 7, 0, 324], 0), (.isub, [], 0), (.istore 5, [], 0)])
  | 3 => (4, [(.iload 5, [], 0), (.ifCond .le 15, [5, 4], 0)])
  | 4 => (5, [(.iload_n 3, [], 0), (.iload_n 3, [], 0), (.iconst 1, [], 0), (.isub, [], 0), (.iand, [], 0), (.istore_n 3, [], 0), (.iinc 5 (-1), [], 0), (.goto (-14), [3], 0)])
  | 5 => (6, [(.iload_n 3, [], 0), (.iload_n 3, [], 0), (.ineg, [], 0), (.iand, [], 0), (.iconst 1, [], 0), (.isub, [], 0), (.invokestatic 77, [k_J_bitI, 1, 865], 0), (.istore 5, [], 0), (.aload_n 0, [], 0), (.getfield 9, [6, 1, 2, 318], 0), (.iload_n 1, [], 0), (.bipush 16, [], 0), (.iload 5, [], 0), (.bipush 8, [], 0), (.idiv, [], 0), (.imul, [], 0), (.iload 5, [], 0), (.bipush 8, [], 0), (.irem, [], 0), (.iadd, [], 0), (.iastore, [], 0), (.iconst 1, [], 0), (.ireturn, [1], 0)])
  | _ => (0, [])
def L_Ss_end : Nat → List Bool := fun b => match b with
  | 0 => [true, true, true, false, false, false]
  | 1 => [true, false, false, false, true, false]
  | 2 => [true, true, false, true, false, false]
  | 3 => [true, true, false, true, false, true]
  | 4 => [true, true, false, true, false, true]
  | 5 => [true, true, false, true, false, false]
  | _ => []
def P_Ss_end : List Nat := [0, 50, 63, 74, 79, 91]
def K_Ss_end : KE := (⟨"NameReaders$ShapeSearch", "end", "(II)Z"⟩, prog_8_method_8_code, 6, (Option.some Jvm.ClassFile.FieldType.boolean), B_Ss_end, L_Ss_end, P_Ss_end, [844, 843, 17, 90, 0, 3])
def B_Ss_endings : BT := fun b => match b with
  | 0 => (1, [(.iconst 2, [], 0), (.iload_n 3, [], 0), (.ishl, [], 0), (.iconst 1, [], 0), (.isub, [], 0), (.istore 4, [], 0), (.iconst 0, [], 0), (.istore 5, [], 0), (.iconst 0, [], 0), (.istore 6, [], 0)])
  | 1 => (2, [(.iload 6, [], 0), (.aload_n 0, [], 0), (.getfield 19, [6, 5, 0, 322], 0), (.if_icmp .ge 22, [3, 2], 0)])
  | 2 => (3, [(.iload 5, [], 0), (.iload 4, [], 0), (.iload 6, [], 0), (.bipush 8, [], 0), (.imul, [], 0), (.ishl, [], 0), (.ior, [], 0), (.istore 5, [], 0), (.iinc 6 1, [], 0), (.goto (-25), [1], 0)])
  | 3 => (4, [(.iconst 0, [], 0), (.istore 6, [], 0), (.aload_n 2, [], 0), (.iconst 0, [], 0), (.invokevirtual 83, [k_Sp_next, 2, 7, 849], 0), (.istore 7, [], 0), (.aload_n 2, [], 0), (.invokevirtual 69, [k_Sp_size, 1, 7, 850], 0), (.istore 8, [], 0)])
  | 4 => (5, [(.iload 8, [], 0), (.ifCond .le 124, [16, 5], 0)])
  | 5 => (6, [(.iload 7, [], 0), (.ifCond .lt 119, [16, 6], 0)])
  | 6 => (7, [(.iload 6, [], 0), (.iload 5, [], 0), (.if_icmp .eq 112, [16, 7], 0)])
  | 7 => (8, [(.iconst 0, [], 0), (.istore 9, [], 0)])
  | 8 => (9, [(.iload 9, [], 0), (.aload_n 0, [], 0), (.getfield 19, [6, 5, 0, 322], 0), (.if_icmp .ge 84, [15, 9], 0)])
  | 9 => (10, [(.aload_n 1, [], 0), (.iload 7, [], 0), (.iload 9, [], 0), (.invokevirtual 86, [k_Rd_end, 3, 4, 851], 0), (.istore 10, [], 0), (.aload_n 1, [], 0), (.iload 7, [], 0), (.iload 9, [], 0), (.invokevirtual 89, [k_Rd_begin, 3, 4, 852], 0), (.istore 11, [], 0)])
  | 10 => (11, [(.iload 11, [], 0), (.iload 10, [], 0), (.if_icmp .ge 51, [14, 11], 0)])
  | 11 => (12, [(.aload_n 1, [], 0), (.iload 11, [], 0), (.invokevirtual 92, [k_Rd_moveAt, 2, 4, 853], 0), (.istore 12, [], 0), (.aload_n 1, [], 0), (.iload 12, [], 0), (.invokevirtual 95, [k_Rd_takesBehind, 2, 4, 854], 0), (.ifCond .eq 28, [13, 12], 0)])
  | 12 => (13, [(.iload 6, [], 0), (.aload_n 1, [], 0), (.iload 12, [], 0), (.iconst 2, [], 0), (.invokevirtual 98, [k_Rd_part, 3, 4, 858], 0), (.iload 7, [], 0), (.iload 4, [], 0), (.invokestatic 101, [k_Ss_namesFor, 3, 859], 0), (.iload 9, [], 0), (.bipush 8, [], 0), (.imul, [], 0), (.ishl, [], 0), (.ior, [], 0), (.istore 6, [], 0)])
  | 13 => (14, [(.iinc 11 1, [], 0), (.goto (-52), [10], 0)])
  | 14 => (15, [(.iinc 9 1, [], 0), (.goto (-87), [8], 0)])
  | 15 => (16, [(.aload_n 2, [], 0), (.iload 7, [], 0), (.iconst 1, [], 0), (.iadd, [], 0), (.invokevirtual 83, [k_Sp_next, 2, 7, 849], 0), (.istore 7, [], 0), (.iinc 8 (-1), [], 0), (.goto (-123), [4], 0)])
  | 16 => (17, [(.iload 6, [], 0), (.ireturn, [0], 0)])
  | _ => (0, [])
def L_Ss_endings : Nat → List Bool := fun b => match b with
  | 0 => [true, true, true, true, false, false, false, false, false, false, false, false, false]
  | 1 => [true, true, true, false, true, true, true, false, false, false, false, false, false]
  | 2 => [true, true, true, false, true, true, true, false, false, false, false, false, false]
  | 3 => [true, true, true, false, true, true, false, false, false, false, false, false, false]
  | 4 => [true, true, true, false, true, true, true, true, true, false, false, false, false]
  | 5 => [true, true, true, false, true, true, true, true, true, false, false, false, false]
  | 6 => [true, true, true, false, true, true, true, true, true, false, false, false, false]
  | 7 => [true, true, true, false, true, true, true, true, true, false, false, false, false]
  | 8 => [true, true, true, false, true, true, true, true, true, true, false, false, false]
  | 9 => [true, true, true, false, true, true, true, true, true, true, false, false, false]
  | 10 => [true, true, true, false, true, true, true, true, true, true, true, true, false]
  | 11 => [true, true, true, false, true, true, true, true, true, true, true, true, false]
  | 12 => [true, true, true, false, true, true, true, true, true, true, true, true, true]
  | 13 => [true, true, true, false, true, true, true, true, true, true, true, true, false]
  | 14 => [true, true, true, false, true, true, true, true, true, true, false, false, false]
  | 15 => [true, true, true, false, true, true, true, true, true, false, false, false, false]
  | 16 => [false, false, false, false, false, false, true, false, false, false, false, false, false]
  | _ => []
def P_Ss_endings : List Nat := [0, 13, 22, 41, 57, 62, 67, 74, 77, 86, 106, 113, 130, 155, 161, 167, 183]
def K_Ss_endings : KE := (⟨"NameReaders$ShapeSearch", "endings", "(LNameReaders$Reader;LNameReaders$Spots;I)I"⟩, prog_8_method_9_code, 13, (Option.some Jvm.ClassFile.FieldType.int), B_Ss_endings, L_Ss_endings, P_Ss_endings, [848, 847, 18, 90, 0, 4])
def B_Ss_namesFor : BT := fun b => match b with
  | 0 => (1, [(.iload_n 0, [], 0), (.iconst 4, [], 0), (.if_icmp .ne 5, [2, 1], 0)])
  | 1 => (2, [(.iload_n 2, [], 0), (.ireturn, [0], 0)])
  | 2 => (3, [(.iload_n 0, [], 0), (.iconst 3, [], 0), (.if_icmp .ne 25, [4, 3], 0)])
  | 3 => (4, [(.iload_n 2, [], 0), (.iload_n 1, [], 0), (.iconst 0, [], 0), (.invokestatic 105, [k_Ss_bitOf, 2, 862], 0), (.iload_n 1, [], 0), (.iconst 1, [], 0), (.invokestatic 105, [k_Ss_bitOf, 2, 862], 0), (.ior, [], 0), (.iload_n 1, [], 0), (.iconst 2, [], 0), (.invokestatic 105, [k_Ss_bitOf, 2, 862], 0), (.ior, [], 0), (.iconst (-1), [], 0), (.ixor, [], 0), (.iand, [], 0), (.ireturn, [0], 0)])
  | 4 => (5, [(.iload_n 1, [], 0), (.iload_n 0, [], 0), (.invokestatic 105, [k_Ss_bitOf, 2, 862], 0), (.ireturn, [0], 0)])
  | _ => (0, [])
def L_Ss_namesFor : Nat → List Bool := fun b => match b with
  | 0 => [true, true, true]
  | 1 => [false, false, true]
  | 2 => [true, true, true]
  | 3 => [false, true, true]
  | 4 => [true, true, false]
  | _ => []
def P_Ss_namesFor : List Nat := [0, 5, 7, 12, 34]
def K_Ss_namesFor : KE := (⟨"NameReaders$ShapeSearch", "namesFor", "(III)I"⟩, prog_8_method_10_code, 3, (Option.some Jvm.ClassFile.FieldType.int), B_Ss_namesFor, L_Ss_namesFor, P_Ss_namesFor, [861, 860, 0, 90, 1, 3])
def B_Ss_bitOf : BT := fun b => match b with
  | 0 => (1, [(.iconst 1, [], 0), (.iload_n 0, [], 0), (.iload_n 1, [], 0), (.iconst 2, [], 0), (.ishl, [], 0), (.ishr, [], 0), (.bipush 15, [], 0), (.iand, [], 0), (.ishl, [], 0), (.iconst 1, [], 0), (.ishr, [], 0), (.ireturn, [0], 0)])
  | _ => (0, [])
def L_Ss_bitOf : Nat → List Bool := fun b => match b with
  | 0 => [true, true]
  | _ => []
def P_Ss_bitOf : List Nat := [0]
def K_Ss_bitOf : KE := (⟨"NameReaders$ShapeSearch", "bitOf", "(II)I"⟩, prog_8_method_11_code, 2, (Option.some Jvm.ClassFile.FieldType.int), B_Ss_bitOf, L_Ss_bitOf, P_Ss_bitOf, [864, 863, 0, 90, 1, 2])
def B_Sp_init : BT := fun b => match b with
  | 0 => (1, [(.aload_n 0, [], 0), (.invokespecial 3, [0, 1, 7, 200], 0), (.aload_n 0, [], 0), (.iconst 0, [], 0), (.putfield 9, [7, 3, 0, 207], 0), (.aload_n 0, [], 0), (.iload_n 1, [], 0), (.iconst 1, [], 0), (.invokestatic 15, [k_J_max, 2, 201], 0), (.putfield 21, [7, 0, 0, 204], 0), (.aload_n 0, [], 0), (.aload_n 0, [], 0), (.getfield 21, [7, 0, 0, 204], 0), (.bipush 63, [], 0), (.iadd, [], 0), (.bipush 64, [], 0), (.idiv, [], 0), (.newarray .long, [1], 0), (.putfield 24, [7, 1, 2, 205], 0), (.aload_n 0, [], 0), (.aload_n 0, [], 0), (.getfield 24, [7, 1, 2, 205], 0), (.arraylength, [], 0), (.bipush 63, [], 0), (.iadd, [], 0), (.bipush 64, [], 0), (.idiv, [], 0), (.newarray .long, [1], 0), (.putfield 28, [7, 2, 2, 206], 0), (.return_, [], 0)])
  | _ => (0, [])
def L_Sp_init : Nat → List Bool := fun b => match b with
  | 0 => [true, true]
  | _ => []
def P_Sp_init : List Nat := [0]
def K_Sp_init : KE := (⟨"NameReaders$Spots", "<init>", "(I)V"⟩, prog_9_method_1_code, 2, (Option.none : Option Jvm.ClassFile.FieldType), B_Sp_init, L_Sp_init, P_Sp_init, [199, 198, 0, 85, 2, 2])
def B_Sp_size : BT := fun b => match b with
  | 0 => (1, [(.aload_n 0, [], 0), (.getfield 9, [7, 3, 0, 207], 0), (.ireturn, [0], 0)])
  | _ => (0, [])
def L_Sp_size : Nat → List Bool := fun b => match b with
  | 0 => [true]
  | _ => []
def P_Sp_size : List Nat := [0]
def K_Sp_size : KE := (⟨"NameReaders$Spots", "size", "()I"⟩, prog_9_method_2_code, 1, (Option.some Jvm.ClassFile.FieldType.int), B_Sp_size, L_Sp_size, P_Sp_size, [772, 770, 771, 85, 0, 1])
def B_Sp_has : BT := fun b => match b with
  | 0 => (1, [(.iload_n 1, [], 0), (.ifCond .lt 33, [4, 1], 0)])
  | 1 => (2, [(.iload_n 1, [], 0), (.aload_n 0, [], 0), (.getfield 21, [7, 0, 0, 204], 0), (.if_icmp .ge 25, [4, 2], 0)])
  | 2 => (3, [(.aload_n 0, [], 0), (.getfield 24, [7, 1, 2, 205], 0), (.iload_n 1, [], 0), (.bipush 6, [], 0), (.ishr, [], 0), (.laload, [], 0), (.iload_n 1, [], 0), (.lshr, [], 0), (.lconst 1, [], 0), (.land, [], 0), (.lconst 0, [], 0), (.lcmp, [], 0), (.ifCond .eq 7, [4, 3], 0)])
  | 3 => (4, [(.iconst 1, [], 0), (.goto 4, [5], 0)])
  | 4 => (5, [(.iconst 0, [], 0)])
  | 5 => (6, [(.ireturn, [1], 0)])
  | _ => (0, [])
def L_Sp_has : Nat → List Bool := fun b => match b with
  | 0 => [true, true]
  | 1 => [true, true]
  | 2 => [true, true]
  | 3 => [false, false]
  | 4 => [false, false]
  | 5 => [false, false]
  | _ => []
def P_Sp_has : List Nat := [0, 4, 12, 30, 34, 35]
def K_Sp_has : KE := (⟨"NameReaders$Spots", "has", "(I)Z"⟩, prog_9_method_3_code, 2, (Option.some Jvm.ClassFile.FieldType.boolean), B_Sp_has, L_Sp_has, P_Sp_has, [813, 811, 812, 85, 0, 2])
def B_Sp_add : BT := fun b => match b with
  | 0 => (1, [(.iload_n 1, [], 0), (.ifCond .lt 11, [2, 1], 0)])
  | 1 => (2, [(.iload_n 1, [], 0), (.aload_n 0, [], 0), (.getfield 21, [7, 0, 0, 204], 0), (.if_icmp .lt 5, [3, 2], 0)])
  | 2 => (3, [(.iconst 0, [], 0), (.ireturn, [1], 0)])
  | 3 => (4, [(.iload_n 1, [], 0), (.bipush 6, [], 0), (.ishr, [], 0), (.istore_n 2, [], 0), (.aload_n 0, [], 0), (.getfield 24, [7, 1, 2, 205], 0), (.iload_n 2, [], 0), (.laload, [], 0), (.lstore_n 3, [], 0), (.aload_n 0, [], 0), (.getfield 24, [7, 1, 2, 205], 0), (.iload_n 2, [], 0), (.lload_n 3, [], 0), (.lconst 1, [], 0), (.iload_n 1, [], 0), (.lshl, [], 0), (.lor, [], 0), (.lastore, [], 0), (.aload_n 0, [], 0), (.getfield 24, [7, 1, 2, 205], 0), (.iload_n 2, [], 0), (.laload, [], 0), (.lload_n 3, [], 0), (.lcmp, [], 0), (.ifCond .ne 5, [5, 4], 0)])
  | 4 => (5, [(.iconst 0, [], 0), (.ireturn, [1], 0)])
  | 5 => (6, [(.aload_n 0, [], 0), (.getfield 28, [7, 2, 2, 206], 0), (.iload_n 2, [], 0), (.bipush 6, [], 0), (.ishr, [], 0), (.dup2, [], 0), (.laload, [], 0), (.lconst 1, [], 0), (.iload_n 2, [], 0), (.lshl, [], 0), (.lor, [], 0), (.lastore, [], 0), (.aload_n 0, [], 0), (.dup, [], 0), (.getfield 9, [7, 3, 0, 207], 0), (.iconst 1, [], 0), (.iadd, [], 0), (.putfield 9, [7, 3, 0, 207], 0), (.iconst 1, [], 0), (.ireturn, [1], 0)])
  | _ => (0, [])
def L_Sp_add : Nat → List Bool := fun b => match b with
  | 0 => [true, true, false, false, false]
  | 1 => [true, true, false, false, false]
  | 2 => [false, false, false, false, false]
  | 3 => [true, true, false, false, false]
  | 4 => [false, false, false, false, false]
  | 5 => [true, false, true, false, false]
  | _ => []
def P_Sp_add : List Nat := [0, 4, 12, 14, 48, 50]
def K_Sp_add : KE := (⟨"NameReaders$Spots", "add", "(I)Z"⟩, prog_9_method_4_code, 5, (Option.some Jvm.ClassFile.FieldType.boolean), B_Sp_add, L_Sp_add, P_Sp_add, [694, 692, 693, 85, 0, 2])
def B_Sp_clear : BT := fun b => match b with
  | 0 => (1, [(.iconst 0, [], 0), (.istore_n 1, [], 0)])
  | 1 => (2, [(.iload_n 1, [], 0), (.aload_n 0, [], 0), (.getfield 28, [7, 2, 2, 206], 0), (.arraylength, [], 0), (.if_icmp .ge 68, [7, 2], 0)])
  | 2 => (3, [(.aload_n 0, [], 0), (.getfield 9, [7, 3, 0, 207], 0), (.ifCond .le 61, [7, 3], 0)])
  | 3 => (4, [(.aload_n 0, [], 0), (.getfield 28, [7, 2, 2, 206], 0), (.iload_n 1, [], 0), (.laload, [], 0), (.lstore_n 2, [], 0), (.lload_n 2, [], 0), (.invokestatic 31, [k_J_bitL, 1, 682], 0), (.istore 4, [], 0)])
  | 4 => (5, [(.iload 4, [], 0), (.ifCond .le 30, [6, 5], 0)])
  | 5 => (6, [(.aload_n 0, [], 0), (.getfield 24, [7, 1, 2, 205], 0), (.iload_n 1, [], 0), (.bipush 6, [], 0), (.ishl, [], 0), (.lload_n 2, [], 0), (.invokestatic 37, [k_Sp_lowest, 1, 688], 0), (.iadd, [], 0), (.lconst 0, [], 0), (.lastore, [], 0), (.lload_n 2, [], 0), (.lload_n 2, [], 0), (.lconst 1, [], 0), (.lsub, [], 0), (.land, [], 0), (.lstore_n 2, [], 0), (.iinc 4 (-1), [], 0), (.goto (-29), [4], 0)])
  | 6 => (7, [(.aload_n 0, [], 0), (.getfield 28, [7, 2, 2, 206], 0), (.iload_n 1, [], 0), (.lconst 0, [], 0), (.lastore, [], 0), (.iinc 1 1, [], 0), (.goto (-71), [1], 0)])
  | 7 => (8, [(.aload_n 0, [], 0), (.iconst 0, [], 0), (.putfield 9, [7, 3, 0, 207], 0), (.return_, [], 0)])
  | _ => (0, [])
def L_Sp_clear : Nat → List Bool := fun b => match b with
  | 0 => [true, false, false, false, false]
  | 1 => [true, true, false, false, false]
  | 2 => [true, true, false, false, false]
  | 3 => [true, true, false, false, false]
  | 4 => [true, true, true, false, true]
  | 5 => [true, true, true, false, true]
  | 6 => [true, true, false, false, false]
  | 7 => [true, false, false, false, false]
  | _ => []
def P_Sp_clear : List Nat := [0, 2, 11, 18, 31, 36, 63, 76]
def K_Sp_clear : KE := (⟨"NameReaders$Spots", "clear", "()V"⟩, prog_9_method_5_code, 5, (Option.none : Option Jvm.ClassFile.FieldType), B_Sp_clear, L_Sp_clear, P_Sp_clear, [681, 679, 680, 85, 0, 1])
def B_Sp_startAt : BT := fun b => match b with
  | 0 => (1, [(.aload_n 0, [], 0), (.invokevirtual 40, [k_Sp_clear, 1, 7, 678], 0), (.aload_n 0, [], 0), (.iload_n 1, [], 0), (.invokevirtual 43, [k_Sp_add, 2, 7, 691], 0), (.pop, [], 0), (.return_, [], 0)])
  | _ => (0, [])
def L_Sp_startAt : Nat → List Bool := fun b => match b with
  | 0 => [true, true]
  | _ => []
def P_Sp_startAt : List Nat := [0]
def K_Sp_startAt : KE := (⟨"NameReaders$Spots", "startAt", "(I)V"⟩, prog_9_method_6_code, 2, (Option.none : Option Jvm.ClassFile.FieldType), B_Sp_startAt, L_Sp_startAt, P_Sp_startAt, [677, 675, 676, 85, 0, 2])
def B_Sp_next : BT := fun b => match b with
  | 0 => (1, [(.iload_n 1, [], 0), (.ifCond .lt 11, [2, 1], 0)])
  | 1 => (2, [(.iload_n 1, [], 0), (.aload_n 0, [], 0), (.getfield 21, [7, 0, 0, 204], 0), (.if_icmp .lt 5, [3, 2], 0)])
  | 2 => (3, [(.iconst (-1), [], 0), (.ireturn, [0], 0)])
  | 3 => (4, [(.iload_n 1, [], 0), (.bipush 6, [], 0), (.ishr, [], 0), (.istore_n 2, [], 0), (.aload_n 0, [], 0), (.getfield 24, [7, 1, 2, 205], 0), (.iload_n 2, [], 0), (.laload, [], 0), (.ldc2_w 47, [715], -1), (.iload_n 1, [], 0), (.lshl, [], 0), (.land, [], 0), (.lstore_n 3, [], 0), (.lload_n 3, [], 0), (.lconst 0, [], 0), (.lcmp, [], 0), (.ifCond .eq 13, [5, 4], 0)])
  | 4 => (5, [(.iload_n 2, [], 0), (.bipush 6, [], 0), (.ishl, [], 0), (.lload_n 3, [], 0), (.invokestatic 37, [k_Sp_lowest, 1, 688], 0), (.iadd, [], 0), (.ireturn, [0], 0)])
  | 5 => (6, [(.iinc 2 1, [], 0), (.iload_n 2, [], 0), (.bipush 6, [], 0), (.ishr, [], 0), (.istore 5, [], 0), (.iload 5, [], 0), (.aload_n 0, [], 0), (.getfield 28, [7, 2, 2, 206], 0), (.arraylength, [], 0), (.if_icmp .lt 5, [7, 6], 0)])
  | 6 => (7, [(.iconst (-1), [], 0), (.ireturn, [0], 0)])
  | 7 => (8, [(.aload_n 0, [], 0), (.getfield 28, [7, 2, 2, 206], 0), (.iload 5, [], 0), (.laload, [], 0), (.ldc2_w 47, [715], -1), (.iload_n 2, [], 0), (.lshl, [], 0), (.land, [], 0), (.lstore 6, [], 0), (.iinc 5 1, [], 0)])
  | 8 => (9, [(.lload 6, [], 0), (.lconst 0, [], 0), (.lcmp, [], 0), (.ifCond .ne 28, [11, 9], 0)])
  | 9 => (10, [(.iload 5, [], 0), (.aload_n 0, [], 0), (.getfield 28, [7, 2, 2, 206], 0), (.arraylength, [], 0), (.if_icmp .ge 18, [11, 10], 0)])
  | 10 => (11, [(.aload_n 0, [], 0), (.getfield 28, [7, 2, 2, 206], 0), (.iload 5, [], 0), (.laload, [], 0), (.lstore 6, [], 0), (.iinc 5 1, [], 0), (.goto (-29), [8], 0)])
  | 11 => (12, [(.lload 6, [], 0), (.lconst 0, [], 0), (.lcmp, [], 0), (.ifCond .ne 5, [13, 12], 0)])
  | 12 => (13, [(.iconst (-1), [], 0), (.ireturn, [0], 0)])
  | 13 => (14, [(.iload 5, [], 0), (.iconst 1, [], 0), (.isub, [], 0), (.bipush 6, [], 0), (.ishl, [], 0), (.lload 6, [], 0), (.invokestatic 37, [k_Sp_lowest, 1, 688], 0), (.iadd, [], 0), (.istore_n 2, [], 0), (.iload_n 2, [], 0), (.bipush 6, [], 0), (.ishl, [], 0), (.aload_n 0, [], 0), (.getfield 24, [7, 1, 2, 205], 0), (.iload_n 2, [], 0), (.laload, [], 0), (.invokestatic 37, [k_Sp_lowest, 1, 688], 0), (.iadd, [], 0), (.ireturn, [0], 0)])
  | _ => (0, [])
def L_Sp_next : Nat → List Bool := fun b => match b with
  | 0 => [true, true, false, false, false, false, false, false]
  | 1 => [true, true, false, false, false, false, false, false]
  | 2 => [false, false, false, false, false, false, false, false]
  | 3 => [true, true, false, false, false, false, false, false]
  | 4 => [false, false, true, true, false, false, false, false]
  | 5 => [true, false, true, false, false, false, false, false]
  | 6 => [false, false, false, false, false, false, false, false]
  | 7 => [true, false, true, false, false, true, false, false]
  | 8 => [true, false, false, false, false, true, true, false]
  | 9 => [true, false, false, false, false, true, true, false]
  | 10 => [true, false, false, false, false, true, false, false]
  | 11 => [true, false, false, false, false, true, true, false]
  | 12 => [false, false, false, false, false, false, false, false]
  | 13 => [true, false, false, false, false, true, true, false]
  | _ => []
def P_Sp_next : List Nat := [0, 4, 12, 14, 38, 48, 67, 69, 87, 94, 104, 119, 126, 128]
def K_Sp_next : KE := (⟨"NameReaders$Spots", "next", "(I)I"⟩, prog_9_method_7_code, 8, (Option.some Jvm.ClassFile.FieldType.int), B_Sp_next, L_Sp_next, P_Sp_next, [714, 712, 713, 85, 0, 2])
def B_Sp_follow : BT := fun b => match b with
  | 0 => (1, [(.aload_n 0, [], 0), (.invokevirtual 40, [k_Sp_clear, 1, 7, 678], 0), (.aload_n 2, [], 0), (.iconst 0, [], 0), (.invokevirtual 49, [k_Sp_next, 2, 7, 711], 0), (.istore 6, [], 0), (.aload_n 2, [], 0), (.getfield 9, [7, 3, 0, 207], 0), (.istore 7, [], 0)])
  | 1 => (2, [(.iload 7, [], 0), (.ifCond .le 89, [9, 2], 0)])
  | 2 => (3, [(.iload 6, [], 0), (.ifCond .lt 84, [9, 3], 0)])
  | 3 => (4, [(.aload_n 1, [], 0), (.iload 6, [], 0), (.iload_n 3, [], 0), (.invokevirtual 53, [k_Rd_end, 3, 4, 716], 0), (.istore 8, [], 0), (.aload_n 1, [], 0), (.iload 6, [], 0), (.iload_n 3, [], 0), (.invokevirtual 58, [k_Rd_begin, 3, 4, 720], 0), (.istore 9, [], 0)])
  | 4 => (5, [(.iload 9, [], 0), (.iload 8, [], 0), (.if_icmp .ge 43, [8, 5], 0)])
  | 5 => (6, [(.aload_n 1, [], 0), (.iload 6, [], 0), (.aload_n 1, [], 0), (.iload 9, [], 0), (.invokevirtual 61, [k_Rd_moveAt, 2, 4, 724], 0), (.iload 4, [], 0), (.invokevirtual 64, [k_Rd_after, 4, 4, 728], 0), (.istore 10, [], 0), (.iload 10, [], 0), (.ifCond .lt 16, [7, 6], 0)])
  | 6 => (7, [(.aload_n 0, [], 0), (.iload 10, [], 0), (.iload 5, [], 0), (.iconst 0, [], 0), (.invokestatic 68, [k_Rd_settle, 3, 732], 0), (.invokevirtual 43, [k_Sp_add, 2, 7, 691], 0), (.pop, [], 0)])
  | 7 => (8, [(.iinc 9 1, [], 0), (.goto (-44), [4], 0)])
  | 8 => (9, [(.aload_n 2, [], 0), (.iload 6, [], 0), (.iconst 1, [], 0), (.iadd, [], 0), (.invokevirtual 49, [k_Sp_next, 2, 7, 711], 0), (.istore 6, [], 0), (.iinc 7 (-1), [], 0), (.goto (-88), [1], 0)])
  | 9 => (10, [(.return_, [], 0)])
  | _ => (0, [])
def L_Sp_follow : Nat → List Bool := fun b => match b with
  | 0 => [true, true, true, true, true, true, false, false, false, false, false]
  | 1 => [true, true, true, true, true, true, true, true, false, false, false]
  | 2 => [true, true, true, true, true, true, true, true, false, false, false]
  | 3 => [true, true, true, true, true, true, true, true, false, false, false]
  | 4 => [true, true, true, true, true, true, true, true, true, true, false]
  | 5 => [true, true, true, true, true, true, true, true, true, true, false]
  | 6 => [true, true, true, true, true, true, true, true, true, true, true]
  | 7 => [true, true, true, true, true, true, true, true, true, true, false]
  | 8 => [true, true, true, true, true, true, true, true, false, false, false]
  | 9 => [false, false, false, false, false, false, false, false, false, false, false]
  | _ => []
def P_Sp_follow : List Nat := [0, 17, 22, 27, 45, 52, 73, 86, 92, 108]
def K_Sp_follow : KE := (⟨"NameReaders$Spots", "follow", "(LNameReaders$Reader;LNameReaders$Spots;III)V"⟩, prog_9_method_8_code, 11, (Option.none : Option Jvm.ClassFile.FieldType), B_Sp_follow, L_Sp_follow, P_Sp_follow, [710, 708, 709, 85, 0, 6])
def B_Sp_statesByBits : BT := fun b => match b with
  | 0 => (1, [(.iconst 0, [], 0), (.istore_n 1, [], 0), (.aload_n 0, [], 0), (.iconst 0, [], 0), (.invokevirtual 49, [k_Sp_next, 2, 7, 711], 0), (.istore_n 2, [], 0), (.aload_n 0, [], 0), (.getfield 9, [7, 3, 0, 207], 0), (.istore_n 3, [], 0)])
  | 1 => (2, [(.iload_n 3, [], 0), (.ifCond .le 30, [4, 2], 0)])
  | 2 => (3, [(.iload_n 2, [], 0), (.ifCond .lt 26, [4, 3], 0)])
  | 3 => (4, [(.iload_n 1, [], 0), (.iconst 1, [], 0), (.iload_n 2, [], 0), (.bipush 12, [], 0), (.ishr, [], 0), (.ishl, [], 0), (.ior, [], 0), (.istore_n 1, [], 0), (.aload_n 0, [], 0), (.iload_n 2, [], 0), (.iconst 1, [], 0), (.iadd, [], 0), (.invokevirtual 49, [k_Sp_next, 2, 7, 711], 0), (.istore_n 2, [], 0), (.iinc 3 (-1), [], 0), (.goto (-28), [1], 0)])
  | 4 => (5, [(.iload_n 1, [], 0), (.ireturn, [0], 0)])
  | _ => (0, [])
def L_Sp_statesByBits : Nat → List Bool := fun b => match b with
  | 0 => [true, false, false, false]
  | 1 => [true, true, true, true]
  | 2 => [true, true, true, true]
  | 3 => [true, true, true, true]
  | 4 => [false, true, false, false]
  | _ => []
def P_Sp_statesByBits : List Nat := [0, 13, 17, 21, 44]
def K_Sp_statesByBits : KE := (⟨"NameReaders$Spots", "statesByBits", "()I"⟩, prog_9_method_9_code, 4, (Option.some Jvm.ClassFile.FieldType.int), B_Sp_statesByBits, L_Sp_statesByBits, P_Sp_statesByBits, [738, 736, 737, 85, 0, 1])
def B_Sp_lowest : BT := fun b => match b with
  | 0 => (1, [(.lload_n 0, [], 0), (.lload_n 0, [], 0), (.lneg, [], 0), (.land, [], 0), (.lconst 1, [], 0), (.lsub, [], 0), (.invokestatic 31, [k_J_bitL, 1, 682], 0), (.ireturn, [0], 0)])
  | _ => (0, [])
def L_Sp_lowest : Nat → List Bool := fun b => match b with
  | 0 => [true, false]
  | _ => []
def P_Sp_lowest : List Nat := [0]
def K_Sp_lowest : KE := (⟨"NameReaders$Spots", "lowest", "(J)I"⟩, prog_9_method_10_code, 2, (Option.some Jvm.ClassFile.FieldType.int), B_Sp_lowest, L_Sp_lowest, P_Sp_lowest, [690, 689, 0, 85, 1, 1])
def B_Tx_init : BT := fun b => match b with
  | 0 => (1, [(.aload_n 0, [], 0), (.invokespecial 3, [0, 1, 8, 143], 0), (.aload_n 0, [], 0), (.sipush 150, [], 0), (.newarray .int, [0], 0), (.putfield 9, [8, 0, 2, 144], 0), (.aload_n 0, [], 0), (.bipush 100, [], 0), (.newarray .int, [0], 0), (.putfield 15, [8, 1, 2, 145], 0), (.aload_n 0, [], 0), (.iconst 0, [], 0), (.putfield 18, [8, 2, 0, 146], 0), (.aload_n 0, [], 0), (.iconst 0, [], 0), (.putfield 22, [8, 3, 0, 147], 0), (.aload_n 0, [], 0), (.iconst 0, [], 0), (.putfield 25, [8, 4, 0, 148], 0), (.aload_n 0, [], 0), (.iconst 0, [], 0), (.putfield 28, [8, 5, 0, 149], 0), (.return_, [], 0)])
  | _ => (0, [])
def L_Tx_init : Nat → List Bool := fun b => match b with
  | 0 => [true]
  | _ => []
def P_Tx_init : List Nat := [0]
def K_Tx_init : KE := (⟨"NameReaders$Text", "<init>", "()V"⟩, prog_10_method_1_code, 1, (Option.none : Option Jvm.ClassFile.FieldType), B_Tx_init, L_Tx_init, P_Tx_init, [142, 141, 0, 83, 2, 1])
def B_Tx_size : BT := fun b => match b with
  | 0 => (1, [(.aload_n 0, [], 0), (.getfield 18, [8, 2, 0, 146], 0), (.ireturn, [0], 0)])
  | _ => (0, [])
def L_Tx_size : Nat → List Bool := fun b => match b with
  | 0 => [true]
  | _ => []
def P_Tx_size : List Nat := [0]
def K_Tx_size : KE := (⟨"NameReaders$Text", "size", "()I"⟩, prog_10_method_2_code, 1, (Option.some Jvm.ClassFile.FieldType.int), B_Tx_size, L_Tx_size, P_Tx_size, [467, 465, 466, 83, 0, 1])
def B_Tx_found : BT := fun b => match b with
  | 0 => (1, [(.aload_n 0, [], 0), (.getfield 22, [8, 3, 0, 147], 0), (.ireturn, [0], 0)])
  | _ => (0, [])
def L_Tx_found : Nat → List Bool := fun b => match b with
  | 0 => [true]
  | _ => []
def P_Tx_found : List Nat := [0]
def K_Tx_found : KE := (⟨"NameReaders$Text", "found", "()I"⟩, prog_10_method_3_code, 1, (Option.some Jvm.ClassFile.FieldType.int), B_Tx_found, L_Tx_found, P_Tx_found, [593, 591, 592, 83, 0, 1])
def B_Tx_told : BT := fun b => match b with
  | 0 => (1, [(.aload_n 0, [], 0), (.getfield 15, [8, 1, 2, 145], 0), (.areturn, [], 0)])
  | _ => (0, [])
def L_Tx_told : Nat → List Bool := fun b => match b with
  | 0 => [true]
  | _ => []
def P_Tx_told : List Nat := [0]
def K_Tx_told : KE := (⟨"NameReaders$Text", "told", "()[I"⟩, prog_10_method_4_code, 1, (Option.some (Jvm.ClassFile.FieldType.array Jvm.ClassFile.FieldType.int)), B_Tx_told, L_Tx_told, P_Tx_told, [597, 595, 596, 83, 0, 1])
def B_Tx_put : BT := fun b => match b with
  | 0 => (1, [(.iconst 0, [], 0), (.istore 4, [], 0)])
  | 1 => (2, [(.iload 4, [], 0), (.iload_n 3, [], 0), (.if_icmp .ge 50, [4, 2], 0)])
  | 2 => (3, [(.aload_n 0, [], 0), (.getfield 18, [8, 2, 0, 146], 0), (.sipush 150, [], 0), (.if_icmp .ge 40, [4, 3], 0)])
  | 3 => (4, [(.aload_n 0, [], 0), (.getfield 9, [8, 0, 2, 144], 0), (.aload_n 0, [], 0), (.getfield 18, [8, 2, 0, 146], 0), (.lload_n 1, [], 0), (.bipush 8, [], 0), (.iload 4, [], 0), (.imul, [], 0), (.lshr, [], 0), (.ldc2_w 31, [472], 255), (.land, [], 0), (.l2i, [], 0), (.iastore, [], 0), (.aload_n 0, [], 0), (.dup, [], 0), (.getfield 18, [8, 2, 0, 146], 0), (.iconst 1, [], 0), (.iadd, [], 0), (.putfield 18, [8, 2, 0, 146], 0), (.iinc 4 1, [], 0), (.goto (-50), [1], 0)])
  | 4 => (5, [(.aload_n 0, [], 0), (.getfield 18, [8, 2, 0, 146], 0), (.ireturn, [0], 0)])
  | _ => (0, [])
def L_Tx_put : Nat → List Bool := fun b => match b with
  | 0 => [true, true, false, true, false]
  | 1 => [true, true, false, true, true]
  | 2 => [true, true, false, true, true]
  | 3 => [true, true, false, true, true]
  | 4 => [true, false, false, false, false]
  | _ => []
def P_Tx_put : List Nat := [0, 3, 9, 19, 56]
def K_Tx_put : KE := (⟨"NameReaders$Text", "put", "(JI)I"⟩, prog_10_method_5_code, 5, (Option.some Jvm.ClassFile.FieldType.int), B_Tx_put, L_Tx_put, P_Tx_put, [471, 469, 470, 83, 0, 3])
def B_Tx_wipe : BT := fun b => match b with
  | 0 => (1, [(.aload_n 0, [], 0), (.getfield 18, [8, 2, 0, 146], 0), (.istore_n 1, [], 0), (.aload_n 0, [], 0), (.iconst 0, [], 0), (.putfield 18, [8, 2, 0, 146], 0), (.iload_n 1, [], 0), (.ireturn, [0], 0)])
  | _ => (0, [])
def L_Tx_wipe : Nat → List Bool := fun b => match b with
  | 0 => [true, false]
  | _ => []
def P_Tx_wipe : List Nat := [0]
def K_Tx_wipe : KE := (⟨"NameReaders$Text", "wipe", "()I"⟩, prog_10_method_6_code, 2, (Option.some Jvm.ClassFile.FieldType.int), B_Tx_wipe, L_Tx_wipe, P_Tx_wipe, [480, 478, 479, 83, 0, 1])
def B_Tx_parse : BT := fun b => match b with
  | 0 => (1, [(.aload_n 0, [], 0), (.iconst 0, [], 0), (.putfield 28, [8, 5, 0, 149], 0), (.aload_n 0, [], 0), (.iconst 0, [], 0), (.putfield 22, [8, 3, 0, 147], 0), (.iconst 0, [], 0), (.istore_n 2, [], 0)])
  | 1 => (2, [(.iload_n 2, [], 0), (.sipush 150, [], 0), (.if_icmp .ge 53, [9, 2], 0)])
  | 2 => (3, [(.aload_n 0, [], 0), (.aload_n 1, [], 0), (.invokevirtual 33, [k_Tx_parseMove, 2, 8, 489], 0), (.ifCond .ne 8, [4, 3], 0)])
  | 3 => (4, [(.aload_n 0, [], 0), (.getfield 25, [8, 4, 0, 148], 0), (.ireturn, [0], 0)])
  | 4 => (5, [(.aload_n 0, [], 0), (.invokevirtual 37, [k_Tx_advance, 1, 8, 501], 0), (.aload_n 0, [], 0), (.getfield 25, [8, 4, 0, 148], 0), (.aload_n 0, [], 0), (.getfield 18, [8, 2, 0, 146], 0), (.if_icmp .lt 5, [6, 5], 0)])
  | 5 => (6, [(.iconst (-1), [], 0), (.ireturn, [0], 0)])
  | 6 => (7, [(.aload_n 0, [], 0), (.ldc 40, [1, 0, 580], 0), (.invokevirtual 42, [k_Tx_isWord, 2, 8, 513], 0), (.ifCond .ne 8, [8, 7], 0)])
  | 7 => (8, [(.aload_n 0, [], 0), (.getfield 25, [8, 4, 0, 148], 0), (.ireturn, [0], 0)])
  | 8 => (9, [(.iinc 2 1, [], 0), (.goto (-54), [1], 0)])
  | 9 => (10, [(.aload_n 0, [], 0), (.getfield 25, [8, 4, 0, 148], 0), (.ireturn, [0], 0)])
  | _ => (0, [])
def L_Tx_parse : Nat → List Bool := fun b => match b with
  | 0 => [true, true, false]
  | 1 => [true, true, true]
  | 2 => [true, true, true]
  | 3 => [true, false, false]
  | 4 => [true, true, true]
  | 5 => [false, false, false]
  | 6 => [true, true, true]
  | 7 => [true, false, false]
  | 8 => [true, true, true]
  | 9 => [true, false, false]
  | _ => []
def P_Tx_parse : List Nat := [0, 12, 19, 27, 32, 47, 49, 58, 63, 69]
def K_Tx_parse : KE := (⟨"NameReaders$Text", "parse", "(LNameReaders$Reader;)I"⟩, prog_10_method_7_code, 3, (Option.some Jvm.ClassFile.FieldType.int), B_Tx_parse, L_Tx_parse, P_Tx_parse, [488, 486, 487, 83, 0, 2])
def B_Tx_parseMove : BT := fun b => match b with
  | 0 => (1, [(.aload_n 0, [], 0), (.getfield 22, [8, 3, 0, 147], 0), (.iconst 5, [], 0), (.imul, [], 0), (.istore_n 2, [], 0), (.aload_n 0, [], 0), (.aload_n 1, [], 0), (.invokevirtual 46, [k_Rd_states, 1, 4, 493], 0), (.invokevirtual 52, [k_Tx_number, 2, 8, 497], 0), (.istore_n 3, [], 0), (.iload_n 3, [], 0), (.ifCond .lt 14, [2, 1], 0)])
  | 1 => (2, [(.iload_n 2, [], 0), (.iconst 5, [], 0), (.iadd, [], 0), (.aload_n 0, [], 0), (.getfield 15, [8, 1, 2, 145], 0), (.arraylength, [], 0), (.if_icmp .le 5, [3, 2], 0)])
  | 2 => (3, [(.iconst 0, [], 0), (.ireturn, [1], 0)])
  | 3 => (4, [(.aload_n 0, [], 0), (.invokevirtual 56, [k_Tx_letter, 1, 8, 508], 0), (.istore 4, [], 0), (.iload 4, [], 0), (.ifCond .ge 5, [5, 4], 0)])
  | 4 => (5, [(.iconst 0, [], 0), (.ireturn, [1], 0)])
  | 5 => (6, [(.aload_n 0, [], 0), (.aload_n 1, [], 0), (.invokevirtual 59, [k_Rd_registers, 1, 4, 567], 0), (.invokevirtual 62, [k_Tx_test, 2, 8, 571], 0), (.istore 5, [], 0), (.iload 5, [], 0), (.ifCond .ge 5, [7, 6], 0)])
  | 6 => (7, [(.iconst 0, [], 0), (.ireturn, [1], 0)])
  | 7 => (8, [(.iconst (-1), [], 0), (.istore 6, [], 0), (.aload_n 0, [], 0), (.invokevirtual 37, [k_Tx_advance, 1, 8, 501], 0), (.aload_n 0, [], 0), (.ldc 65, [1, 1, 578], 0), (.invokevirtual 42, [k_Tx_isWord, 2, 8, 513], 0), (.ifCond .eq 24, [11, 8], 0)])
  | 8 => (9, [(.aload_n 0, [], 0), (.aload_n 1, [], 0), (.invokevirtual 59, [k_Rd_registers, 1, 4, 567], 0), (.invokevirtual 52, [k_Tx_number, 2, 8, 497], 0), (.istore 6, [], 0), (.iload 6, [], 0), (.ifCond .ge 5, [10, 9], 0)])
  | 9 => (10, [(.iconst 0, [], 0), (.ireturn, [1], 0)])
  | 10 => (11, [(.aload_n 0, [], 0), (.invokevirtual 37, [k_Tx_advance, 1, 8, 501], 0)])
  | 11 => (12, [(.aload_n 0, [], 0), (.ldc 67, [1, 2, 579], 0), (.invokevirtual 42, [k_Tx_isWord, 2, 8, 513], 0), (.ifCond .ne 5, [13, 12], 0)])
  | 12 => (13, [(.iconst 0, [], 0), (.ireturn, [1], 0)])
  | 13 => (14, [(.aload_n 0, [], 0), (.aload_n 1, [], 0), (.invokevirtual 46, [k_Rd_states, 1, 4, 493], 0), (.invokevirtual 52, [k_Tx_number, 2, 8, 497], 0), (.istore 7, [], 0), (.iload 7, [], 0), (.ifCond .ge 5, [15, 14], 0)])
  | 14 => (15, [(.iconst 0, [], 0), (.ireturn, [1], 0)])
  | 15 => (16, [(.aload_n 0, [], 0), (.getfield 15, [8, 1, 2, 145], 0), (.iload_n 2, [], 0), (.iconst 0, [], 0), (.iadd, [], 0), (.iload_n 3, [], 0), (.iastore, [], 0), (.aload_n 0, [], 0), (.getfield 15, [8, 1, 2, 145], 0), (.iload_n 2, [], 0), (.iconst 1, [], 0), (.iadd, [], 0), (.iload 4, [], 0), (.iastore, [], 0), (.aload_n 0, [], 0), (.getfield 15, [8, 1, 2, 145], 0), (.iload_n 2, [], 0), (.iconst 2, [], 0), (.iadd, [], 0), (.iload 5, [], 0), (.iastore, [], 0), (.aload_n 0, [], 0), (.getfield 15, [8, 1, 2, 145], 0), (.iload_n 2, [], 0), (.iconst 3, [], 0), (.iadd, [], 0), (.iload 6, [], 0), (.iastore, [], 0), (.aload_n 0, [], 0), (.getfield 15, [8, 1, 2, 145], 0), (.iload_n 2, [], 0), (.iconst 4, [], 0), (.iadd, [], 0), (.iload 7, [], 0), (.iastore, [], 0), (.aload_n 0, [], 0), (.dup, [], 0), (.getfield 22, [8, 3, 0, 147], 0), (.iconst 1, [], 0), (.iadd, [], 0), (.putfield 22, [8, 3, 0, 147], 0), (.iconst 1, [], 0), (.ireturn, [1], 0)])
  | _ => (0, [])
def L_Tx_parseMove : Nat → List Bool := fun b => match b with
  | 0 => [true, true, false, false, false, false, false, false]
  | 1 => [true, true, true, true, false, false, false, false]
  | 2 => [false, false, false, false, false, false, false, false]
  | 3 => [true, true, true, true, false, false, false, false]
  | 4 => [false, false, false, false, false, false, false, false]
  | 5 => [true, true, true, true, true, false, false, false]
  | 6 => [false, false, false, false, false, false, false, false]
  | 7 => [true, true, true, true, true, true, false, false]
  | 8 => [true, true, true, true, true, true, false, false]
  | 9 => [false, false, false, false, false, false, false, false]
  | 10 => [true, true, true, true, true, true, true, false]
  | 11 => [true, true, true, true, true, true, true, false]
  | 12 => [false, false, false, false, false, false, false, false]
  | 13 => [true, true, true, true, true, true, true, false]
  | 14 => [false, false, false, false, false, false, false, false]
  | 15 => [true, false, true, true, true, true, true, true]
  | _ => []
def P_Tx_parseMove : List Nat := [0, 20, 31, 33, 44, 46, 61, 63, 79, 94, 96, 100, 109, 111, 126, 128]
def K_Tx_parseMove : KE := (⟨"NameReaders$Text", "parseMove", "(LNameReaders$Reader;)Z"⟩, prog_10_method_8_code, 8, (Option.some Jvm.ClassFile.FieldType.boolean), B_Tx_parseMove, L_Tx_parseMove, P_Tx_parseMove, [492, 491, 2, 83, 0, 2])
end
section
def B_Tx_number : BT := fun b => match b with
  | 0 => (1, [(.aload_n 0, [], 0), (.invokevirtual 37, [k_Tx_advance, 1, 8, 501], 0), (.aload_n 0, [], 0), (.getfield 28, [8, 5, 0, 149], 0), (.aload_n 0, [], 0), (.getfield 25, [8, 4, 0, 148], 0), (.isub, [], 0), (.iconst 1, [], 0), (.if_icmp .ne 19, [2, 1], 0)])
  | 1 => (2, [(.aload_n 0, [], 0), (.getfield 9, [8, 0, 2, 144], 0), (.aload_n 0, [], 0), (.getfield 25, [8, 4, 0, 148], 0), (.iaload, [], 0), (.invokestatic 69, [k_Tx_kindOf, 1, 505], 0), (.iconst 1, [], 0), (.if_icmp .eq 5, [3, 2], 0)])
  | 2 => (3, [(.iconst (-1), [], 0), (.ireturn, [0], 0)])
  | 3 => (4, [(.aload_n 0, [], 0), (.getfield 9, [8, 0, 2, 144], 0), (.aload_n 0, [], 0), (.getfield 25, [8, 4, 0, 148], 0), (.iaload, [], 0), (.bipush 48, [], 0), (.isub, [], 0), (.istore_n 2, [], 0), (.iload_n 2, [], 0), (.iload_n 1, [], 0), (.if_icmp .ge 7, [5, 4], 0)])
  | 4 => (5, [(.iload_n 2, [], 0), (.goto 4, [6], 0)])
  | 5 => (6, [(.iconst (-1), [], 0)])
  | 6 => (7, [(.ireturn, [0], 0)])
  | _ => (0, [])
def L_Tx_number : Nat → List Bool := fun b => match b with
  | 0 => [true, true, false]
  | 1 => [true, true, false]
  | 2 => [false, false, false]
  | 3 => [true, true, false]
  | 4 => [false, false, true]
  | 5 => [false, false, false]
  | 6 => [false, false, false]
  | _ => []
def P_Tx_number : List Nat := [0, 17, 33, 35, 53, 57, 58]
def K_Tx_number : KE := (⟨"NameReaders$Text", "number", "(I)I"⟩, prog_10_method_9_code, 3, (Option.some Jvm.ClassFile.FieldType.int), B_Tx_number, L_Tx_number, P_Tx_number, [500, 499, 3, 83, 0, 2])
def B_Tx_letter : BT := fun b => match b with
  | 0 => (1, [(.aload_n 0, [], 0), (.invokevirtual 37, [k_Tx_advance, 1, 8, 501], 0), (.aload_n 0, [], 0), (.ldc 72, [1, 3, 512], 0), (.invokevirtual 42, [k_Tx_isWord, 2, 8, 513], 0), (.ifCond .eq 5, [2, 1], 0)])
  | 1 => (2, [(.iconst 0, [], 0), (.ireturn, [0], 0)])
  | 2 => (3, [(.aload_n 0, [], 0), (.ldc 74, [1, 4, 565], 0), (.invokevirtual 42, [k_Tx_isWord, 2, 8, 513], 0), (.ifCond .eq 5, [4, 3], 0)])
  | 3 => (4, [(.iconst 1, [], 0), (.ireturn, [0], 0)])
  | 4 => (5, [(.aload_n 0, [], 0), (.ldc 76, [1, 5, 566], 0), (.invokevirtual 42, [k_Tx_isWord, 2, 8, 513], 0), (.ifCond .eq 7, [6, 5], 0)])
  | 5 => (6, [(.iconst 2, [], 0), (.goto 4, [7], 0)])
  | 6 => (7, [(.iconst (-1), [], 0)])
  | 7 => (8, [(.ireturn, [0], 0)])
  | _ => (0, [])
def L_Tx_letter : Nat → List Bool := fun b => match b with
  | 0 => [true]
  | 1 => [false]
  | 2 => [true]
  | 3 => [false]
  | 4 => [true]
  | 5 => [false]
  | 6 => [false]
  | 7 => [false]
  | _ => []
def P_Tx_letter : List Nat := [0, 13, 15, 24, 26, 35, 39, 40]
def K_Tx_letter : KE := (⟨"NameReaders$Text", "letter", "()I"⟩, prog_10_method_10_code, 1, (Option.some Jvm.ClassFile.FieldType.int), B_Tx_letter, L_Tx_letter, P_Tx_letter, [511, 510, 5, 83, 0, 1])
def B_Tx_test : BT := fun b => match b with
  | 0 => (1, [(.aload_n 0, [], 0), (.invokevirtual 37, [k_Tx_advance, 1, 8, 501], 0), (.aload_n 0, [], 0), (.ldc 78, [1, 6, 575], 0), (.invokevirtual 42, [k_Tx_isWord, 2, 8, 513], 0), (.ifCond .eq 5, [2, 1], 0)])
  | 1 => (2, [(.iconst 3, [], 0), (.ireturn, [0], 0)])
  | 2 => (3, [(.aload_n 0, [], 0), (.ldc 80, [1, 7, 576], 0), (.invokevirtual 42, [k_Tx_isWord, 2, 8, 513], 0), (.ifCond .eq 5, [4, 3], 0)])
  | 3 => (4, [(.iconst 4, [], 0), (.ireturn, [0], 0)])
  | 4 => (5, [(.aload_n 0, [], 0), (.ldc 82, [1, 8, 577], 0), (.invokevirtual 42, [k_Tx_isWord, 2, 8, 513], 0), (.ifCond .eq 11, [6, 5], 0)])
  | 5 => (6, [(.aload_n 0, [], 0), (.iload_n 1, [], 0), (.invokevirtual 52, [k_Tx_number, 2, 8, 497], 0), (.goto 4, [7], 0)])
  | 6 => (7, [(.iconst (-1), [], 0)])
  | 7 => (8, [(.ireturn, [0], 0)])
  | _ => (0, [])
def L_Tx_test : Nat → List Bool := fun b => match b with
  | 0 => [true, true]
  | 1 => [false, false]
  | 2 => [true, true]
  | 3 => [false, false]
  | 4 => [true, true]
  | 5 => [true, true]
  | 6 => [false, false]
  | 7 => [false, false]
  | _ => []
def P_Tx_test : List Nat := [0, 13, 15, 24, 26, 35, 43, 44]
def K_Tx_test : KE := (⟨"NameReaders$Text", "test", "(I)I"⟩, prog_10_method_11_code, 2, (Option.some Jvm.ClassFile.FieldType.int), B_Tx_test, L_Tx_test, P_Tx_test, [574, 573, 7, 83, 0, 2])
def B_Tx_advance : BT := fun b => match b with
  | 0 => (1, [(.aload_n 0, [], 0), (.aload_n 0, [], 0), (.getfield 28, [8, 5, 0, 149], 0), (.putfield 25, [8, 4, 0, 148], 0)])
  | 1 => (2, [(.aload_n 0, [], 0), (.getfield 25, [8, 4, 0, 148], 0), (.aload_n 0, [], 0), (.getfield 18, [8, 2, 0, 146], 0), (.if_icmp .ge 30, [4, 2], 0)])
  | 2 => (3, [(.aload_n 0, [], 0), (.getfield 9, [8, 0, 2, 144], 0), (.aload_n 0, [], 0), (.getfield 25, [8, 4, 0, 148], 0), (.iaload, [], 0), (.bipush 32, [], 0), (.if_icmp .ne 16, [4, 3], 0)])
  | 3 => (4, [(.aload_n 0, [], 0), (.dup, [], 0), (.getfield 25, [8, 4, 0, 148], 0), (.iconst 1, [], 0), (.iadd, [], 0), (.putfield 25, [8, 4, 0, 148], 0), (.goto (-35), [1], 0)])
  | 4 => (5, [(.aload_n 0, [], 0), (.aload_n 0, [], 0), (.getfield 25, [8, 4, 0, 148], 0), (.putfield 28, [8, 5, 0, 149], 0), (.aload_n 0, [], 0), (.getfield 25, [8, 4, 0, 148], 0), (.aload_n 0, [], 0), (.getfield 18, [8, 2, 0, 146], 0), (.if_icmp .lt 4, [6, 5], 0)])
  | 5 => (6, [(.return_, [], 0)])
  | 6 => (7, [(.aload_n 0, [], 0), (.getfield 9, [8, 0, 2, 144], 0), (.aload_n 0, [], 0), (.getfield 25, [8, 4, 0, 148], 0), (.iaload, [], 0), (.invokestatic 69, [k_Tx_kindOf, 1, 505], 0), (.istore_n 1, [], 0), (.aload_n 0, [], 0), (.dup, [], 0), (.getfield 28, [8, 5, 0, 149], 0), (.iconst 1, [], 0), (.iadd, [], 0), (.putfield 28, [8, 5, 0, 149], 0)])
  | 7 => (8, [(.aload_n 0, [], 0), (.getfield 28, [8, 5, 0, 149], 0), (.aload_n 0, [], 0), (.getfield 18, [8, 2, 0, 146], 0), (.if_icmp .ge 37, [11, 8], 0)])
  | 8 => (9, [(.iload_n 1, [], 0), (.iconst 2, [], 0), (.if_icmp .eq 32, [11, 9], 0)])
  | 9 => (10, [(.aload_n 0, [], 0), (.getfield 9, [8, 0, 2, 144], 0), (.aload_n 0, [], 0), (.getfield 28, [8, 5, 0, 149], 0), (.iaload, [], 0), (.invokestatic 69, [k_Tx_kindOf, 1, 505], 0), (.iload_n 1, [], 0), (.if_icmp .ne 16, [11, 10], 0)])
  | 10 => (11, [(.aload_n 0, [], 0), (.dup, [], 0), (.getfield 28, [8, 5, 0, 149], 0), (.iconst 1, [], 0), (.iadd, [], 0), (.putfield 28, [8, 5, 0, 149], 0), (.goto (-42), [7], 0)])
  | 11 => (12, [(.return_, [], 0)])
  | _ => (0, [])
def L_Tx_advance : Nat → List Bool := fun b => match b with
  | 0 => [true, false]
  | 1 => [true, false]
  | 2 => [true, false]
  | 3 => [true, false]
  | 4 => [true, false]
  | 5 => [false, false]
  | 6 => [true, false]
  | 7 => [true, true]
  | 8 => [true, true]
  | 9 => [true, true]
  | 10 => [true, true]
  | 11 => [false, false]
  | _ => []
def P_Tx_advance : List Nat := [0, 8, 19, 33, 46, 65, 66, 89, 100, 105, 121, 134]
def K_Tx_advance : KE := (⟨"NameReaders$Text", "advance", "()V"⟩, prog_10_method_12_code, 2, (Option.none : Option Jvm.ClassFile.FieldType), B_Tx_advance, L_Tx_advance, P_Tx_advance, [504, 503, 4, 83, 0, 1])
def B_Tx_isWord : BT := fun b => match b with
  | 0 => (1, [(.aload_n 0, [], 0), (.getfield 28, [8, 5, 0, 149], 0), (.aload_n 0, [], 0), (.getfield 25, [8, 4, 0, 148], 0), (.isub, [], 0), (.aload_n 1, [], 0), (.invokevirtual 84, [2, 1, 100, 517], 0), (.if_icmp .eq 5, [2, 1], 0)])
  | 1 => (2, [(.iconst 0, [], 0), (.ireturn, [1], 0)])
  | 2 => (3, [(.iconst 0, [], 0), (.istore_n 2, [], 0)])
  | 3 => (4, [(.iload_n 2, [], 0), (.aload_n 1, [], 0), (.invokevirtual 84, [2, 1, 100, 517], 0), (.if_icmp .ge 30, [7, 4], 0)])
  | 4 => (5, [(.aload_n 0, [], 0), (.getfield 9, [8, 0, 2, 144], 0), (.aload_n 0, [], 0), (.getfield 25, [8, 4, 0, 148], 0), (.iload_n 2, [], 0), (.iadd, [], 0), (.iaload, [], 0), (.aload_n 1, [], 0), (.iload_n 2, [], 0), (.invokevirtual 89, [3, 2, 100, 527], 0), (.if_icmp .eq 5, [6, 5], 0)])
  | 5 => (6, [(.iconst 0, [], 0), (.ireturn, [1], 0)])
  | 6 => (7, [(.iinc 2 1, [], 0), (.goto (-32), [3], 0)])
  | 7 => (8, [(.iconst 1, [], 0), (.ireturn, [1], 0)])
  | _ => (0, [])
def L_Tx_isWord : Nat → List Bool := fun b => match b with
  | 0 => [true, true, false]
  | 1 => [false, false, false]
  | 2 => [true, true, false]
  | 3 => [true, true, true]
  | 4 => [true, true, true]
  | 5 => [false, false, false]
  | 6 => [true, true, true]
  | 7 => [false, false, false]
  | _ => []
def P_Tx_isWord : List Nat := [0, 16, 18, 20, 28, 47, 49, 55]
def K_Tx_isWord : KE := (⟨"NameReaders$Text", "isWord", "(Ljava/lang/String;)Z"⟩, prog_10_method_13_code, 3, (Option.some Jvm.ClassFile.FieldType.boolean), B_Tx_isWord, L_Tx_isWord, P_Tx_isWord, [516, 515, 6, 83, 0, 2])
def B_Tx_kindOf : BT := fun b => match b with
  | 0 => (1, [(.iload_n 0, [], 0), (.bipush 97, [], 0), (.if_icmp .lt 11, [3, 1], 0)])
  | 1 => (2, [(.iload_n 0, [], 0), (.bipush 122, [], 0), (.if_icmp .gt 5, [3, 2], 0)])
  | 2 => (3, [(.iconst 0, [], 0), (.ireturn, [0], 0)])
  | 3 => (4, [(.iload_n 0, [], 0), (.bipush 48, [], 0), (.if_icmp .lt 13, [6, 4], 0)])
  | 4 => (5, [(.iload_n 0, [], 0), (.bipush 57, [], 0), (.if_icmp .gt 7, [6, 5], 0)])
  | 5 => (6, [(.iconst 1, [], 0), (.goto 4, [7], 0)])
  | 6 => (7, [(.iconst 2, [], 0)])
  | 7 => (8, [(.ireturn, [0], 0)])
  | _ => (0, [])
def L_Tx_kindOf : Nat → List Bool := fun b => match b with
  | 0 => [true]
  | 1 => [true]
  | 2 => [false]
  | 3 => [true]
  | 4 => [true]
  | 5 => [false]
  | 6 => [false]
  | 7 => [false]
  | _ => []
def P_Tx_kindOf : List Nat := [0, 6, 12, 14, 20, 26, 30, 31]
def K_Tx_kindOf : KE := (⟨"NameReaders$Text", "kindOf", "(I)I"⟩, prog_10_method_14_code, 1, (Option.some Jvm.ClassFile.FieldType.int), B_Tx_kindOf, L_Tx_kindOf, P_Tx_kindOf, [507, 506, 0, 83, 1, 1])
def B_Wk_init : BT := fun b => match b with
  | 0 => (1, [(.aload_n 0, [], 0), (.invokespecial 3, [0, 1, 9, 223], 0), (.aload_n 0, [], 0), (.bipush 12, [], 0), (.newarray .int, [0], 0), (.putfield 9, [9, 1, 2, 225], 0), (.aload_n 0, [], 0), (.bipush 13, [], 0), (.newarray .int, [0], 0), (.putfield 15, [9, 2, 2, 226], 0), (.aload_n 0, [], 0), (.aload_n 1, [], 0), (.putfield 18, [9, 0, 2, 224], 0), (.aload_n 0, [], 0), (.aload_n 2, [], 0), (.putfield 22, [9, 3, 2, 227], 0), (.aload_n 0, [], 0), (.aload_n 3, [], 0), (.putfield 26, [9, 4, 2, 228], 0), (.return_, [], 0)])
  | _ => (0, [])
def L_Wk_init : Nat → List Bool := fun b => match b with
  | 0 => [true, true, true, true]
  | _ => []
def P_Wk_init : List Nat := [0]
def K_Wk_init : KE := (⟨"NameReaders$Walks", "<init>", "([LNameReaders$Spots;[J[J)V"⟩, prog_11_method_1_code, 4, (Option.none : Option Jvm.ClassFile.FieldType), B_Wk_init, L_Wk_init, P_Wk_init, [222, 221, 0, 87, 2, 4])
def B_Wk_statesBehind : BT := fun b => match b with
  | 0 => (1, [(.aload_n 0, [], 0), (.getfield 18, [9, 0, 2, 224], 0), (.iconst 0, [], 0), (.aaload, [], 0), (.iconst 0, [], 0), (.invokevirtual 29, [k_Sp_startAt, 2, 7, 674], 0), (.iconst 0, [], 0), (.istore 4, [], 0)])
  | 1 => (2, [(.iload 4, [], 0), (.iload_n 3, [], 0), (.if_icmp .ge 49, [3, 2], 0)])
  | 2 => (3, [(.aload_n 0, [], 0), (.getfield 18, [9, 0, 2, 224], 0), (.iload 4, [], 0), (.iconst 1, [], 0), (.iadd, [], 0), (.aaload, [], 0), (.aload_n 1, [], 0), (.aload_n 0, [], 0), (.getfield 18, [9, 0, 2, 224], 0), (.iload 4, [], 0), (.aaload, [], 0), (.aload_n 2, [], 0), (.iload 4, [], 0), (.invokevirtual 35, [k_Rw_letter, 2, 5, 695], 0), (.aload_n 2, [], 0), (.iload 4, [], 0), (.invokevirtual 41, [k_Rw_id, 2, 5, 699], 0), (.aload_n 2, [], 0), (.iload 4, [], 0), (.iconst 1, [], 0), (.iadd, [], 0), (.invokevirtual 44, [k_Rw_aliveBehind, 2, 5, 703], 0), (.invokevirtual 47, [k_Sp_follow, 6, 7, 707], 0), (.iinc 4 1, [], 0), (.goto (-49), [1], 0)])
  | 3 => (4, [(.aload_n 0, [], 0), (.getfield 18, [9, 0, 2, 224], 0), (.iload_n 3, [], 0), (.aaload, [], 0), (.invokevirtual 51, [k_Sp_statesByBits, 1, 7, 735], 0), (.ireturn, [0], 0)])
  | _ => (0, [])
def L_Wk_statesBehind : Nat → List Bool := fun b => match b with
  | 0 => [true, true, true, true, false]
  | 1 => [true, true, true, true, true]
  | 2 => [true, true, true, true, true]
  | 3 => [true, false, false, true, false]
  | _ => []
def P_Wk_statesBehind : List Nat := [0, 13, 19, 65]
def K_Wk_statesBehind : KE := (⟨"NameReaders$Walks", "statesBehind", "(LNameReaders$Reader;LNameReaders$Row;I)I"⟩, prog_11_method_2_code, 5, (Option.some Jvm.ClassFile.FieldType.int), B_Wk_statesBehind, L_Wk_statesBehind, P_Wk_statesBehind, [673, 671, 672, 87, 0, 4])
def B_Wk_findRun : BT := fun b => match b with
  | 0 => (1, [(.aload_n 0, [], 0), (.iconst 0, [], 0), (.aload_n 2, [], 0), (.invokevirtual 55, [k_Rw_size, 1, 5, 759], 0), (.invokevirtual 58, [k_Wk_forget, 3, 9, 802], 0), (.aload_n 0, [], 0), (.aload_n 1, [], 0), (.aload_n 2, [], 0), (.iconst 0, [], 0), (.iconst 0, [], 0), (.invokevirtual 62, [k_Wk_runFrom, 5, 9, 806], 0), (.ireturn, [1], 0)])
  | _ => (0, [])
def L_Wk_findRun : Nat → List Bool := fun b => match b with
  | 0 => [true, true, true]
  | _ => []
def P_Wk_findRun : List Nat := [0]
def K_Wk_findRun : KE := (⟨"NameReaders$Walks", "findRun", "(LNameReaders$Reader;LNameReaders$Row;)Z"⟩, prog_11_method_3_code, 3, (Option.some Jvm.ClassFile.FieldType.boolean), B_Wk_findRun, L_Wk_findRun, P_Wk_findRun, [801, 799, 800, 87, 0, 3])
def B_Wk_moveOfRun : BT := fun b => match b with
  | 0 => (1, [(.aload_n 0, [], 0), (.getfield 9, [9, 1, 2, 225], 0), (.iload_n 1, [], 0), (.iaload, [], 0), (.ireturn, [0], 0)])
  | _ => (0, [])
def L_Wk_moveOfRun : Nat → List Bool := fun b => match b with
  | 0 => [true, true]
  | _ => []
def P_Wk_moveOfRun : List Nat := [0]
def K_Wk_moveOfRun : KE := (⟨"NameReaders$Walks", "moveOfRun", "(I)I"⟩, prog_11_method_4_code, 2, (Option.some Jvm.ClassFile.FieldType.int), B_Wk_moveOfRun, L_Wk_moveOfRun, P_Wk_moveOfRun, [817, 815, 816, 87, 0, 2])
def B_Wk_forget : BT := fun b => match b with
  | 0 => (1, [(.iload_n 1, [], 0), (.istore_n 3, [], 0)])
  | 1 => (2, [(.iload_n 3, [], 0), (.iload_n 2, [], 0), (.if_icmp .ge 18, [3, 2], 0)])
  | 2 => (3, [(.aload_n 0, [], 0), (.getfield 18, [9, 0, 2, 224], 0), (.iload_n 3, [], 0), (.aaload, [], 0), (.invokevirtual 66, [k_Sp_clear, 1, 7, 767], 0), (.iinc 3 1, [], 0), (.goto (-17), [1], 0)])
  | 3 => (4, [(.return_, [], 0)])
  | _ => (0, [])
def L_Wk_forget : Nat → List Bool := fun b => match b with
  | 0 => [true, true, true, false]
  | 1 => [true, false, true, true]
  | 2 => [true, false, true, true]
  | 3 => [false, false, false, false]
  | _ => []
def P_Wk_forget : List Nat := [0, 2, 7, 22]
def K_Wk_forget : KE := (⟨"NameReaders$Walks", "forget", "(II)V"⟩, prog_11_method_5_code, 4, (Option.none : Option Jvm.ClassFile.FieldType), B_Wk_forget, L_Wk_forget, P_Wk_forget, [805, 803, 804, 87, 0, 3])
def B_Wk_isTakenFrom : BT := fun b => match b with
  | 0 => (1, [(.aload_n 0, [], 0), (.aload_n 1, [], 0), (.aload_n 2, [], 0), (.iload_n 3, [], 0), (.iload 4, [], 0), (.invokevirtual 62, [k_Wk_runFrom, 5, 9, 806], 0), (.ireturn, [1], 0)])
  | _ => (0, [])
def L_Wk_isTakenFrom : Nat → List Bool := fun b => match b with
  | 0 => [true, true, true, true, true]
  | _ => []
def P_Wk_isTakenFrom : List Nat := [0]
def K_Wk_isTakenFrom : KE := (⟨"NameReaders$Walks", "isTakenFrom", "(LNameReaders$Reader;LNameReaders$Row;II)Z"⟩, prog_11_method_6_code, 5, (Option.some Jvm.ClassFile.FieldType.boolean), B_Wk_isTakenFrom, L_Wk_isTakenFrom, P_Wk_isTakenFrom, [1047, 1045, 1046, 87, 0, 5])
def B_Wk_runFrom : BT := fun b => match b with
  | 0 => (1, [(.iload_n 3, [], 0), (.aload_n 2, [], 0), (.invokevirtual 55, [k_Rw_size, 1, 5, 759], 0), (.if_icmp .lt 10, [2, 1], 0)])
  | 1 => (2, [(.aload_n 1, [], 0), (.iload 4, [], 0), (.invokevirtual 69, [k_Rd_takesAt, 2, 4, 790], 0), (.ireturn, [1], 0)])
  | 2 => (3, [(.aload_n 0, [], 0), (.getfield 18, [9, 0, 2, 224], 0), (.iload_n 3, [], 0), (.aaload, [], 0), (.iload 4, [], 0), (.invokevirtual 75, [k_Sp_has, 2, 7, 810], 0), (.ifCond .eq 5, [4, 3], 0)])
  | 3 => (4, [(.iconst 0, [], 0), (.ireturn, [1], 0)])
  | 4 => (5, [(.aload_n 1, [], 0), (.iload 4, [], 0), (.aload_n 2, [], 0), (.iload_n 3, [], 0), (.invokevirtual 35, [k_Rw_letter, 2, 5, 695], 0), (.invokevirtual 78, [k_Rd_end, 3, 4, 780], 0), (.istore 5, [], 0), (.aload_n 1, [], 0), (.iload 4, [], 0), (.aload_n 2, [], 0), (.iload_n 3, [], 0), (.invokevirtual 35, [k_Rw_letter, 2, 5, 695], 0), (.invokevirtual 82, [k_Rd_begin, 3, 4, 781], 0), (.istore 6, [], 0)])
  | 5 => (6, [(.iload 6, [], 0), (.iload 5, [], 0), (.if_icmp .ge 72, [10, 6], 0)])
  | 6 => (7, [(.aload_n 1, [], 0), (.iload 6, [], 0), (.invokevirtual 85, [k_Rd_moveAt, 2, 4, 782], 0), (.istore 7, [], 0), (.aload_n 1, [], 0), (.iload 4, [], 0), (.iload 7, [], 0), (.aload_n 2, [], 0), (.iload_n 3, [], 0), (.invokevirtual 41, [k_Rw_id, 2, 5, 699], 0), (.invokevirtual 88, [k_Rd_after, 4, 4, 783], 0), (.istore 8, [], 0), (.iload 8, [], 0), (.ifCond .lt 38, [9, 7], 0)])
  | 7 => (8, [(.aload_n 0, [], 0), (.aload_n 1, [], 0), (.aload_n 2, [], 0), (.iload_n 3, [], 0), (.iconst 1, [], 0), (.iadd, [], 0), (.iload 8, [], 0), (.aload_n 2, [], 0), (.iload_n 3, [], 0), (.iconst 1, [], 0), (.iadd, [], 0), (.invokevirtual 44, [k_Rw_aliveBehind, 2, 5, 703], 0), (.iconst 0, [], 0), (.invokestatic 92, [k_Rd_settle, 3, 784], 0), (.invokevirtual 62, [k_Wk_runFrom, 5, 9, 806], 0), (.ifCond .eq 13, [9, 8], 0)])
  | 8 => (9, [(.aload_n 0, [], 0), (.getfield 9, [9, 1, 2, 225], 0), (.iload_n 3, [], 0), (.iload 7, [], 0), (.iastore, [], 0), (.iconst 1, [], 0), (.ireturn, [1], 0)])
  | 9 => (10, [(.iinc 6 1, [], 0), (.goto (-73), [5], 0)])
  | 10 => (11, [(.aload_n 0, [], 0), (.getfield 18, [9, 0, 2, 224], 0), (.iload_n 3, [], 0), (.aaload, [], 0), (.iload 4, [], 0), (.invokevirtual 95, [k_Sp_add, 2, 7, 785], 0), (.pop, [], 0), (.iconst 0, [], 0), (.ireturn, [1], 0)])
  | _ => (0, [])
def L_Wk_runFrom : Nat → List Bool := fun b => match b with
  | 0 => [true, true, true, true, true, false, false, false, false]
  | 1 => [false, true, false, false, true, false, false, false, false]
  | 2 => [true, true, true, true, true, false, false, false, false]
  | 3 => [false, false, false, false, false, false, false, false, false]
  | 4 => [true, true, true, true, true, false, false, false, false]
  | 5 => [true, true, true, true, true, true, true, false, false]
  | 6 => [true, true, true, true, true, true, true, false, false]
  | 7 => [true, true, true, true, true, true, true, true, true]
  | 8 => [true, false, false, true, false, false, false, true, false]
  | 9 => [true, true, true, true, true, true, true, false, false]
  | 10 => [true, false, false, true, true, false, false, false, false]
  | _ => []
def P_Wk_runFrom : List Nat := [0, 8, 15, 29, 31, 57, 64, 92, 117, 127, 133]
def K_Wk_runFrom : KE := (⟨"NameReaders$Walks", "runFrom", "(LNameReaders$Reader;LNameReaders$Row;II)Z"⟩, prog_11_method_7_code, 9, (Option.some Jvm.ClassFile.FieldType.boolean), B_Wk_runFrom, L_Wk_runFrom, P_Wk_runFrom, [809, 808, 13, 87, 0, 5])
def B_Wk_runsThatTake : BT := fun b => match b with
  | 0 => (1, [(.aload_n 0, [], 0), (.aload_n 2, [], 0), (.invokevirtual 98, [k_Wk_giveSlots, 2, 9, 755], 0), (.aload_n 0, [], 0), (.getfield 18, [9, 0, 2, 224], 0), (.iconst 0, [], 0), (.aaload, [], 0), (.iconst 0, [], 0), (.invokevirtual 29, [k_Sp_startAt, 2, 7, 674], 0), (.aload_n 0, [], 0), (.getfield 22, [9, 3, 2, 227], 0), (.iconst 0, [], 0), (.lconst 1, [], 0), (.lastore, [], 0), (.iconst 0, [], 0), (.istore_n 3, [], 0)])
  | 1 => (2, [(.iload_n 3, [], 0), (.aload_n 2, [], 0), (.invokevirtual 55, [k_Rw_size, 1, 5, 759], 0), (.if_icmp .ge 36, [3, 2], 0)])
  | 2 => (3, [(.aload_n 0, [], 0), (.aload_n 1, [], 0), (.aload_n 2, [], 0), (.iload_n 3, [], 0), (.invokevirtual 102, [k_Wk_spread, 4, 9, 763], 0), (.aload_n 0, [], 0), (.getfield 22, [9, 3, 2, 227], 0), (.astore 4, [], 0), (.aload_n 0, [], 0), (.aload_n 0, [], 0), (.getfield 26, [9, 4, 2, 228], 0), (.putfield 22, [9, 3, 2, 227], 0), (.aload_n 0, [], 0), (.aload 4, [], 0), (.putfield 26, [9, 4, 2, 228], 0), (.iinc 3 1, [], 0), (.goto (-38), [1], 0)])
  | 3 => (4, [(.aload_n 0, [], 0), (.getfield 18, [9, 0, 2, 224], 0), (.aload_n 2, [], 0), (.invokevirtual 55, [k_Rw_size, 1, 5, 759], 0), (.aaload, [], 0), (.astore_n 3, [], 0), (.lconst 0, [], 0), (.lstore 4, [], 0), (.aload_n 3, [], 0), (.iconst 0, [], 0), (.invokevirtual 106, [k_Sp_next, 2, 7, 768], 0), (.istore 6, [], 0), (.aload_n 3, [], 0), (.invokevirtual 109, [k_Sp_size, 1, 7, 769], 0), (.istore 7, [], 0)])
  | 4 => (5, [(.iload 7, [], 0), (.ifCond .le 53, [10, 5], 0)])
  | 5 => (6, [(.iload 6, [], 0), (.ifCond .lt 48, [10, 6], 0)])
  | 6 => (7, [(.lload 4, [], 0), (.aload_n 1, [], 0), (.iload 6, [], 0), (.invokevirtual 69, [k_Rd_takesAt, 2, 4, 790], 0), (.ifCond .eq 17, [8, 7], 0)])
  | 7 => (8, [(.aload_n 0, [], 0), (.getfield 22, [9, 3, 2, 227], 0), (.aload_n 0, [], 0), (.iload 6, [], 0), (.invokevirtual 110, [k_Wk_placeOf, 2, 9, 773], 0), (.laload, [], 0), (.goto 4, [9], 0)])
  | 8 => (9, [(.lconst 0, [], 0)])
  | 9 => (10, [(.ladd, [], 0), (.lstore 4, [], 0), (.aload_n 3, [], 0), (.iload 6, [], 0), (.iconst 1, [], 0), (.iadd, [], 0), (.invokevirtual 106, [k_Sp_next, 2, 7, 768], 0), (.istore 6, [], 0), (.iinc 7 (-1), [], 0), (.goto (-52), [4], 0)])
  | 10 => (11, [(.lload 4, [], 0), (.ldc2_w 113, [786], 1000000001), (.invokestatic 115, [k_J_minL, 2, 787], 0), (.l2i, [], 0), (.ireturn, [0], 0)])
  | _ => (0, [])
def L_Wk_runsThatTake : Nat → List Bool := fun b => match b with
  | 0 => [true, true, true, false, false, false, false, false]
  | 1 => [true, true, true, true, false, false, false, false]
  | 2 => [true, true, true, true, false, false, false, false]
  | 3 => [true, true, true, false, false, false, false, false]
  | 4 => [true, true, false, true, true, false, true, true]
  | 5 => [true, true, false, true, true, false, true, true]
  | 6 => [true, true, false, true, true, false, true, true]
  | 7 => [true, true, false, true, false, false, true, true]
  | 8 => [true, true, false, true, false, false, true, true]
  | 9 => [true, true, false, true, false, false, true, true]
  | 10 => [false, false, false, false, true, false, false, false]
  | _ => []
def P_Wk_runsThatTake : List Nat := [0, 24, 32, 65, 91, 96, 101, 112, 126, 127, 146]
def K_Wk_runsThatTake : KE := (⟨"NameReaders$Walks", "runsThatTake", "(LNameReaders$Reader;LNameReaders$Row;)I"⟩, prog_11_method_8_code, 8, (Option.some Jvm.ClassFile.FieldType.int), B_Wk_runsThatTake, L_Wk_runsThatTake, P_Wk_runsThatTake, [754, 752, 753, 87, 0, 3])
def B_Wk_spread : BT := fun b => match b with
  | 0 => (1, [(.aload_n 0, [], 0), (.getfield 18, [9, 0, 2, 224], 0), (.iload_n 3, [], 0), (.aaload, [], 0), (.astore 4, [], 0), (.aload_n 0, [], 0), (.getfield 18, [9, 0, 2, 224], 0), (.iload_n 3, [], 0), (.iconst 1, [], 0), (.iadd, [], 0), (.aaload, [], 0), (.astore 5, [], 0), (.aload 5, [], 0), (.invokevirtual 66, [k_Sp_clear, 1, 7, 767], 0), (.aload 4, [], 0), (.iconst 0, [], 0), (.invokevirtual 106, [k_Sp_next, 2, 7, 768], 0), (.istore 6, [], 0), (.aload 4, [], 0), (.invokevirtual 109, [k_Sp_size, 1, 7, 769], 0), (.istore 7, [], 0)])
  | 1 => (2, [(.iload 7, [], 0), (.ifCond .le 165, [12, 2], 0)])
  | 2 => (3, [(.iload 6, [], 0), (.ifCond .lt 160, [12, 3], 0)])
  | 3 => (4, [(.aload_n 0, [], 0), (.getfield 22, [9, 3, 2, 227], 0), (.aload_n 0, [], 0), (.iload 6, [], 0), (.invokevirtual 110, [k_Wk_placeOf, 2, 9, 773], 0), (.laload, [], 0), (.lstore 8, [], 0), (.aload_n 1, [], 0), (.iload 6, [], 0), (.aload_n 2, [], 0), (.iload_n 3, [], 0), (.invokevirtual 35, [k_Rw_letter, 2, 5, 695], 0), (.invokevirtual 78, [k_Rd_end, 3, 4, 780], 0), (.istore 10, [], 0), (.aload_n 1, [], 0), (.iload 6, [], 0), (.aload_n 2, [], 0), (.iload_n 3, [], 0), (.invokevirtual 35, [k_Rw_letter, 2, 5, 695], 0), (.invokevirtual 82, [k_Rd_begin, 3, 4, 781], 0), (.istore 11, [], 0)])
  | 4 => (5, [(.iload 11, [], 0), (.iload 10, [], 0), (.if_icmp .ge 97, [11, 5], 0)])
  | 5 => (6, [(.aload_n 1, [], 0), (.iload 6, [], 0), (.aload_n 1, [], 0), (.iload 11, [], 0), (.invokevirtual 85, [k_Rd_moveAt, 2, 4, 782], 0), (.aload_n 2, [], 0), (.iload_n 3, [], 0), (.invokevirtual 41, [k_Rw_id, 2, 5, 699], 0), (.invokevirtual 88, [k_Rd_after, 4, 4, 783], 0), (.istore 12, [], 0), (.iload 12, [], 0), (.ifCond .lt 67, [10, 6], 0)])
  | 6 => (7, [(.iload 12, [], 0), (.aload_n 2, [], 0), (.iload_n 3, [], 0), (.iconst 1, [], 0), (.iadd, [], 0), (.invokevirtual 44, [k_Rw_aliveBehind, 2, 5, 703], 0), (.iconst 0, [], 0), (.invokestatic 92, [k_Rd_settle, 3, 784], 0), (.istore 12, [], 0), (.aload_n 0, [], 0), (.iload 12, [], 0), (.invokevirtual 110, [k_Wk_placeOf, 2, 9, 773], 0), (.istore 13, [], 0), (.aload 5, [], 0), (.iload 12, [], 0), (.invokevirtual 95, [k_Sp_add, 2, 7, 785], 0), (.ifCond .eq 7, [8, 7], 0)])
  | 7 => (8, [(.lconst 0, [], 0), (.goto 10, [9], 0)])
  | 8 => (9, [(.aload_n 0, [], 0), (.getfield 26, [9, 4, 2, 228], 0), (.iload 13, [], 0), (.laload, [], 0)])
  | 9 => (10, [(.lstore 14, [], 0), (.aload_n 0, [], 0), (.getfield 26, [9, 4, 2, 228], 0), (.iload 13, [], 0), (.lload 14, [], 0), (.lload 8, [], 0), (.ladd, [], 0), (.ldc2_w 113, [786], 1000000001), (.invokestatic 115, [k_J_minL, 2, 787], 0), (.lastore, [], 0)])
  | 10 => (11, [(.iinc 11 1, [], 0), (.goto (-98), [4], 0)])
  | 11 => (12, [(.aload 4, [], 0), (.iload 6, [], 0), (.iconst 1, [], 0), (.iadd, [], 0), (.invokevirtual 106, [k_Sp_next, 2, 7, 768], 0), (.istore 6, [], 0), (.iinc 7 (-1), [], 0), (.goto (-164), [1], 0)])
  | 12 => (13, [(.return_, [], 0)])
  | _ => (0, [])
def L_Wk_spread : Nat → List Bool := fun b => match b with
  | 0 => [true, true, true, true, false, false, false, false, false, false, false, false, false, false, false, false]
  | 1 => [true, true, true, true, true, true, true, true, false, false, false, false, false, false, false, false]
  | 2 => [true, true, true, true, true, true, true, true, false, false, false, false, false, false, false, false]
  | 3 => [true, true, true, true, true, true, true, true, false, false, false, false, false, false, false, false]
  | 4 => [true, true, true, true, true, true, true, true, true, false, true, true, false, false, false, false]
  | 5 => [true, true, true, true, true, true, true, true, true, false, true, true, false, false, false, false]
  | 6 => [true, true, true, true, true, true, true, true, true, false, true, true, true, false, false, false]
  | 7 => [true, true, true, true, true, true, true, true, true, false, true, true, false, true, false, false]
  | 8 => [true, true, true, true, true, true, true, true, true, false, true, true, false, true, false, false]
  | 9 => [true, true, true, true, true, true, true, true, true, false, true, true, false, true, false, false]
  | 10 => [true, true, true, true, true, true, true, true, true, false, true, true, false, false, false, false]
  | 11 => [true, true, true, true, true, true, true, true, false, false, false, false, false, false, false, false]
  | 12 => [false, false, false, false, false, false, false, false, false, false, false, false, false, false, false, false]
  | _ => []
def P_Wk_spread : List Nat := [0, 38, 43, 48, 87, 94, 118, 151, 155, 162, 182, 188, 205]
def K_Wk_spread : KE := (⟨"NameReaders$Walks", "spread", "(LNameReaders$Reader;LNameReaders$Row;I)V"⟩, prog_11_method_9_code, 16, (Option.none : Option Jvm.ClassFile.FieldType), B_Wk_spread, L_Wk_spread, P_Wk_spread, [766, 765, 11, 87, 0, 4])
def B_Wk_placeOf : BT := fun b => match b with
  | 0 => (1, [(.iload_n 1, [], 0), (.bipush 12, [], 0), (.ishr, [], 0), (.istore_n 2, [], 0), (.iconst 0, [], 0), (.istore_n 3, [], 0)])
  | 1 => (2, [(.iload_n 3, [], 0), (.iconst 3, [], 0), (.if_icmp .ge 43, [6, 2], 0)])
  | 2 => (3, [(.iload_n 1, [], 0), (.iload_n 3, [], 0), (.invokestatic 121, [k_Rd_heldIn, 2, 777], 0), (.istore 4, [], 0), (.iload_n 2, [], 0), (.bipush 7, [], 0), (.imul, [], 0), (.iload 4, [], 0), (.aload_n 0, [], 0), (.getfield 15, [9, 2, 2, 226], 0), (.arraylength, [], 0), (.if_icmp .ge 13, [4, 3], 0)])
  | 3 => (4, [(.aload_n 0, [], 0), (.getfield 15, [9, 2, 2, 226], 0), (.iload 4, [], 0), (.iaload, [], 0), (.goto 4, [5], 0)])
  | 4 => (5, [(.iconst 0, [], 0)])
  | 5 => (6, [(.iadd, [], 0), (.istore_n 2, [], 0), (.iinc 3 1, [], 0), (.goto (-42), [1], 0)])
  | 6 => (7, [(.iload_n 2, [], 0), (.ireturn, [0], 0)])
  | _ => (0, [])
def L_Wk_placeOf : Nat → List Bool := fun b => match b with
  | 0 => [true, true, false, false, false]
  | 1 => [true, true, true, true, false]
  | 2 => [true, true, true, true, false]
  | 3 => [true, true, false, true, true]
  | 4 => [true, true, false, true, false]
  | 5 => [true, true, false, true, false]
  | 6 => [false, false, true, false, false]
  | _ => []
def P_Wk_placeOf : List Nat := [0, 7, 12, 33, 43, 44, 52]
def K_Wk_placeOf : KE := (⟨"NameReaders$Walks", "placeOf", "(I)I"⟩, prog_11_method_10_code, 5, (Option.some Jvm.ClassFile.FieldType.int), B_Wk_placeOf, L_Wk_placeOf, P_Wk_placeOf, [776, 775, 12, 87, 0, 2])
def B_Wk_giveSlots : BT := fun b => match b with
  | 0 => (1, [(.iconst 1, [], 0), (.istore_n 2, [], 0), (.iconst 1, [], 0), (.istore_n 3, [], 0), (.aload_n 0, [], 0), (.getfield 15, [9, 2, 2, 226], 0), (.iconst 0, [], 0), (.iconst 0, [], 0), (.iastore, [], 0), (.iconst 0, [], 0), (.istore 4, [], 0)])
  | 1 => (2, [(.iload 4, [], 0), (.aload_n 1, [], 0), (.invokevirtual 55, [k_Rw_size, 1, 5, 759], 0), (.if_icmp .ge 111, [14, 2], 0)])
  | 2 => (3, [(.aload_n 1, [], 0), (.iload 4, [], 0), (.invokevirtual 41, [k_Rw_id, 2, 5, 699], 0), (.istore 5, [], 0), (.aload_n 1, [], 0), (.iload 4, [], 0), (.iconst 1, [], 0), (.iadd, [], 0), (.invokevirtual 44, [k_Rw_aliveBehind, 2, 5, 703], 0), (.iload 5, [], 0), (.ishr, [], 0), (.iconst 1, [], 0), (.iand, [], 0), (.ifCond .eq 7, [4, 3], 0)])
  | 3 => (4, [(.iconst 1, [], 0), (.goto 4, [5], 0)])
  | 4 => (5, [(.iconst 0, [], 0)])
  | 5 => (6, [(.istore 6, [], 0), (.iload_n 3, [], 0), (.iload 5, [], 0), (.ishr, [], 0), (.iconst 1, [], 0), (.iand, [], 0), (.ifCond .ne 30, [10, 6], 0)])
  | 6 => (7, [(.iload_n 3, [], 0), (.iconst 1, [], 0), (.iload 5, [], 0), (.ishl, [], 0), (.ior, [], 0), (.istore_n 3, [], 0), (.aload_n 0, [], 0), (.getfield 15, [9, 2, 2, 226], 0), (.iload 5, [], 0), (.iload 6, [], 0), (.ifCond .eq 10, [8, 7], 0)])
  | 7 => (8, [(.iload_n 2, [], 0), (.invokestatic 124, [k_Wk_freeSlot, 1, 760], 0), (.goto 4, [9], 0)])
  | 8 => (9, [(.iconst 0, [], 0)])
  | 9 => (10, [(.iastore, [], 0)])
  | 10 => (11, [(.iload 6, [], 0), (.ifCond .eq 17, [12, 11], 0)])
  | 11 => (12, [(.iload_n 2, [], 0), (.iconst 1, [], 0), (.aload_n 0, [], 0), (.getfield 15, [9, 2, 2, 226], 0), (.iload 5, [], 0), (.iaload, [], 0), (.ishl, [], 0), (.ior, [], 0), (.goto 18, [13], 0)])
  | 12 => (13, [(.iload_n 2, [], 0), (.iconst 1, [], 0), (.aload_n 0, [], 0), (.getfield 15, [9, 2, 2, 226], 0), (.iload 5, [], 0), (.iaload, [], 0), (.ishl, [], 0), (.iconst (-1), [], 0), (.ixor, [], 0), (.iand, [], 0), (.iconst 1, [], 0), (.ior, [], 0)])
  | 13 => (14, [(.istore_n 2, [], 0), (.iinc 4 1, [], 0), (.goto (-114), [1], 0)])
  | 14 => (15, [(.return_, [], 0)])
  | _ => (0, [])
def L_Wk_giveSlots : Nat → List Bool := fun b => match b with
  | 0 => [true, true, false, false, false, false, false]
  | 1 => [true, true, true, true, true, false, false]
  | 2 => [true, true, true, true, true, false, false]
  | 3 => [true, true, true, true, true, true, false]
  | 4 => [true, true, true, true, true, true, false]
  | 5 => [true, true, true, true, true, true, false]
  | 6 => [true, true, true, true, true, true, true]
  | 7 => [true, true, true, true, true, true, true]
  | 8 => [true, true, true, true, true, true, true]
  | 9 => [true, true, true, true, true, true, true]
  | 10 => [true, true, true, true, true, true, true]
  | 11 => [true, true, true, true, true, true, false]
  | 12 => [true, true, true, true, true, true, false]
  | 13 => [true, true, false, true, true, false, false]
  | 14 => [false, false, false, false, false, false, false]
  | _ => []
def P_Wk_giveSlots : List Nat := [0, 14, 23, 47, 51, 52, 63, 81, 88, 89, 90, 95, 109, 124, 131]
def K_Wk_giveSlots : KE := (⟨"NameReaders$Walks", "giveSlots", "(LNameReaders$Row;)V"⟩, prog_11_method_11_code, 7, (Option.none : Option Jvm.ClassFile.FieldType), B_Wk_giveSlots, L_Wk_giveSlots, P_Wk_giveSlots, [758, 757, 10, 87, 0, 2])
def B_Wk_freeSlot : BT := fun b => match b with
  | 0 => (1, [(.iconst 1, [], 0), (.istore_n 1, [], 0)])
  | 1 => (2, [(.iload_n 1, [], 0), (.bipush 6, [], 0), (.if_icmp .ge 17, [4, 2], 0)])
  | 2 => (3, [(.iload_n 0, [], 0), (.iload_n 1, [], 0), (.ishr, [], 0), (.iconst 1, [], 0), (.iand, [], 0), (.ifCond .eq 9, [4, 3], 0)])
  | 3 => (4, [(.iinc 1 1, [], 0), (.goto (-17), [1], 0)])
  | 4 => (5, [(.iload_n 1, [], 0), (.ireturn, [0], 0)])
  | _ => (0, [])
def L_Wk_freeSlot : Nat → List Bool := fun b => match b with
  | 0 => [true, false]
  | 1 => [true, true]
  | 2 => [true, true]
  | 3 => [true, true]
  | 4 => [false, true]
  | _ => []
def P_Wk_freeSlot : List Nat := [0, 2, 8, 16, 22]
def K_Wk_freeSlot : KE := (⟨"NameReaders$Walks", "freeSlot", "(I)I"⟩, prog_11_method_12_code, 2, (Option.some Jvm.ClassFile.FieldType.int), B_Wk_freeSlot, L_Wk_freeSlot, P_Wk_freeSlot, [762, 761, 0, 87, 1, 1])
def B_X_init : BT := fun b => match b with
  | 0 => (1, [(.aload_n 0, [], 0), (.invokespecial 3, [0, 1, 10, 106], 0), (.aload_n 0, [], 0), (.new 9, [4, 109], 0), (.dup, [], 0), (.invokespecial 11, [k_Rd_init, 1, 4, 111, 1], 0), (.putfield 12, [10, 0, 2, 403], 0), (.aload_n 0, [], 0), (.new 9, [4, 109], 0), (.dup, [], 0), (.invokespecial 11, [k_Rd_init, 1, 4, 111, 1], 0), (.putfield 16, [10, 1, 2, 404], 0), (.aload_n 0, [], 0), (.new 9, [4, 109], 0), (.dup, [], 0), (.invokespecial 11, [k_Rd_init, 1, 4, 111, 1], 0), (.putfield 19, [10, 2, 2, 405], 0), (.aload_n 0, [], 0), (.new 22, [8, 138], 0), (.dup, [], 0), (.invokespecial 24, [k_Tx_init, 1, 8, 140, 1], 0), (.putfield 25, [10, 3, 2, 406], 0), (.aload_n 0, [], 0), (.new 29, [5, 163], 0), (.dup, [], 0), (.invokespecial 31, [k_Rw_init, 1, 5, 165, 1], 0), (.putfield 32, [10, 4, 2, 407], 0), (.bipush 14, [], 0), (.anewarray 36, [194], 0), (.astore_n 1, [], 0), (.iconst 0, [], 0), (.istore_n 2, [], 0)])
  | 1 => (2, [(.iload_n 2, [], 0), (.aload_n 1, [], 0), (.arraylength, [], 0), (.if_icmp .ge 22, [3, 2], 0)])
  | 2 => (3, [(.aload_n 1, [], 0), (.iload_n 2, [], 0), (.new 36, [7, 194], 0), (.dup, [], 0), (.sipush 24576, [], 0), (.invokespecial 38, [k_Sp_init, 2, 7, 197], 0), (.aastore, [], 0), (.iinc 2 1, [], 0), (.goto (-22), [1], 0)])
  | 3 => (4, [(.sipush 2058, [], 0), (.newarray .long, [1], 0), (.astore_n 2, [], 0), (.sipush 2058, [], 0), (.newarray .long, [1], 0), (.astore_n 3, [], 0), (.aload_n 0, [], 0), (.new 41, [9, 218], 0), (.dup, [], 0), (.aload_n 1, [], 0), (.aload_n 2, [], 0), (.aload_n 3, [], 0), (.invokespecial 43, [k_Wk_init, 4, 9, 220], 0), (.putfield 46, [10, 5, 2, 408], 0), (.aload_n 0, [], 0), (.new 50, [0, 240], 0), (.dup, [], 0), (.aload_n 1, [], 0), (.aload_n 0, [], 0), (.getfield 46, [10, 5, 2, 408], 0), (.aload_n 0, [], 0), (.getfield 32, [10, 4, 2, 407], 0), (.aload_n 0, [], 0), (.getfield 19, [10, 2, 2, 405], 0), (.invokespecial 52, [k_Fl_init, 5, 0, 242], 0), (.putfield 55, [10, 6, 2, 409], 0), (.aload_n 0, [], 0), (.new 59, [2, 286], 0), (.dup, [], 0), (.aload_n 1, [], 0), (.iconst 0, [], 0), (.aaload, [], 0), (.aload_n 1, [], 0), (.iconst 1, [], 0), (.aaload, [], 0), (.aload_n 2, [], 0), (.aload_n 3, [], 0), (.invokespecial 61, [k_Mn_init, 5, 2, 288], 0), (.putfield 64, [10, 7, 2, 410], 0), (.aload_n 0, [], 0), (.new 68, [6, 311], 0), (.dup, [], 0), (.aload_n 1, [], 0), (.aload_n 0, [], 0), (.getfield 19, [10, 2, 2, 405], 0), (.invokespecial 70, [k_Ss_init, 3, 6, 313], 0), (.putfield 73, [10, 8, 2, 411], 0), (.aload_n 0, [], 0), (.new 77, [3, 342], 0), (.dup, [], 0), (.aload_n 1, [], 0), (.iconst 0, [], 0), (.aaload, [], 0), (.aload_n 1, [], 0), (.iconst 1, [], 0), (.aaload, [], 0), (.invokespecial 79, [k_Ol_init, 3, 3, 344], 0), (.putfield 82, [10, 9, 2, 412], 0), (.aload_n 0, [], 0), (.new 86, [1, 367], 0), (.dup, [], 0), (.aload_n 0, [], 0), (.getfield 12, [10, 0, 2, 403], 0), (.aload_n 0, [], 0), (.getfield 16, [10, 1, 2, 404], 0), (.invokespecial 88, [k_Mt_init, 3, 1, 369], 0), (.putfield 91, [10, 10, 2, 413], 0), (.return_, [], 0)])
  | _ => (0, [])
def L_X_init : Nat → List Bool := fun b => match b with
  | 0 => [true, false, false, false]
  | 1 => [true, true, true, false]
  | 2 => [true, true, true, false]
  | 3 => [true, true, false, false]
  | _ => []
def P_X_init : List Nat := [0, 67, 73, 92]
def K_X_init : KE := (⟨"NameReaders", "<init>", "()V"⟩, prog_1_method_1_code, 4, (Option.none : Option Jvm.ClassFile.FieldType), B_X_init, L_X_init, P_X_init, [105, 104, 0, 81, 2, 1])
def B_X_reader : BT := fun b => match b with
  | 0 => (1, [(.aload_n 0, [], 0), (.iload_n 1, [], 0), (.invokevirtual 95, [k_X_readerOf, 2, 10, 441], 0), (.astore 5, [], 0), (.aload 5, [], 0), (.ifnonnull 6, [2, 1], 0)])
  | 1 => (2, [(.bipush (-2), [], 0), (.ireturn, [0], 0)])
  | 2 => (3, [(.iload_n 2, [], 0), (.iconst 1, [], 0), (.bipush 6, [], 0), (.invokestatic 99, [k_X_within, 3, 445], 0), (.ifCond .eq 19, [5, 3], 0)])
  | 3 => (4, [(.iload_n 3, [], 0), (.iconst 0, [], 0), (.iconst 3, [], 0), (.invokestatic 99, [k_X_within, 3, 445], 0), (.ifCond .eq 10, [5, 4], 0)])
  | 4 => (5, [(.iload 4, [], 0), (.iload_n 2, [], 0), (.ishr, [], 0), (.ifCond .eq 6, [6, 5], 0)])
  | 5 => (6, [(.bipush (-3), [], 0), (.ireturn, [0], 0)])
  | 6 => (7, [(.aload 5, [], 0), (.iload_n 2, [], 0), (.iload_n 3, [], 0), (.iload 4, [], 0), (.invokevirtual 103, [k_Rd_become, 4, 4, 448], 0), (.iconst 1, [], 0), (.ireturn, [0], 0)])
  | _ => (0, [])
def L_X_reader : Nat → List Bool := fun b => match b with
  | 0 => [true, true, true, true, true, false]
  | 1 => [false, false, false, false, false, false]
  | 2 => [false, false, true, true, true, true]
  | 3 => [false, false, true, true, true, true]
  | 4 => [false, false, true, true, true, true]
  | 5 => [false, false, false, false, false, false]
  | 6 => [false, false, true, true, true, true]
  | _ => []
def P_X_reader : List Nat := [0, 12, 15, 25, 34, 41, 44]
def K_X_reader : KE := (⟨"NameReaders", "reader", "(IIII)I"⟩, prog_1_method_2_code, 6, (Option.some Jvm.ClassFile.FieldType.int), B_X_reader, L_X_reader, P_X_reader, [440, 438, 439, 81, 0, 5])
def B_X_write : BT := fun b => match b with
  | 0 => (1, [(.iload_n 3, [], 0), (.iconst 1, [], 0), (.bipush 8, [], 0), (.invokestatic 99, [k_X_within, 3, 445], 0), (.ifCond .ne 6, [2, 1], 0)])
  | 1 => (2, [(.bipush (-3), [], 0), (.ireturn, [0], 0)])
  | 2 => (3, [(.aload_n 0, [], 0), (.getfield 25, [10, 3, 2, 406], 0), (.invokevirtual 107, [k_Tx_size, 1, 8, 464], 0), (.iload_n 3, [], 0), (.iadd, [], 0), (.sipush 150, [], 0), (.if_icmp .le 6, [4, 3], 0)])
  | 3 => (4, [(.bipush (-5), [], 0), (.ireturn, [0], 0)])
  | 4 => (5, [(.aload_n 0, [], 0), (.getfield 25, [10, 3, 2, 406], 0), (.lload_n 1, [], 0), (.iload_n 3, [], 0), (.invokevirtual 111, [k_Tx_put, 3, 8, 468], 0), (.ireturn, [0], 0)])
  | _ => (0, [])
def L_X_write : Nat → List Bool := fun b => match b with
  | 0 => [true, true, false, true]
  | 1 => [false, false, false, false]
  | 2 => [true, true, false, true]
  | 3 => [false, false, false, false]
  | 4 => [true, true, false, true]
  | _ => []
def P_X_write : List Nat := [0, 10, 13, 28, 31]
def K_X_write : KE := (⟨"NameReaders", "write", "(JI)I"⟩, prog_1_method_3_code, 4, (Option.some Jvm.ClassFile.FieldType.int), B_X_write, L_X_write, P_X_write, [463, 461, 462, 81, 0, 3])
def B_X_erase : BT := fun b => match b with
  | 0 => (1, [(.aload_n 0, [], 0), (.getfield 25, [10, 3, 2, 406], 0), (.invokevirtual 115, [k_Tx_wipe, 1, 8, 477], 0), (.ireturn, [0], 0)])
  | _ => (0, [])
def L_X_erase : Nat → List Bool := fun b => match b with
  | 0 => [true]
  | _ => []
def P_X_erase : List Nat := [0]
def K_X_erase : KE := (⟨"NameReaders", "erase", "()I"⟩, prog_1_method_4_code, 1, (Option.some Jvm.ClassFile.FieldType.int), B_X_erase, L_X_erase, P_X_erase, [476, 474, 475, 81, 0, 1])
def B_X_fault : BT := fun b => match b with
  | 0 => (1, [(.aload_n 0, [], 0), (.iload_n 1, [], 0), (.invokevirtual 95, [k_X_readerOf, 2, 10, 441], 0), (.astore_n 2, [], 0), (.aload_n 2, [], 0), (.ifnonnull 8, [2, 1], 0)])
  | 1 => (2, [(.bipush (-2), [], 0), (.goto 11, [3], 0)])
  | 2 => (3, [(.aload_n 0, [], 0), (.getfield 25, [10, 3, 2, 406], 0), (.aload_n 2, [], 0), (.invokevirtual 118, [k_Tx_parse, 2, 8, 485], 0)])
  | 3 => (4, [(.ireturn, [0], 0)])
  | _ => (0, [])
def L_X_fault : Nat → List Bool := fun b => match b with
  | 0 => [true, true, false]
  | 1 => [false, false, false]
  | 2 => [true, false, true]
  | 3 => [false, false, false]
  | _ => []
def P_X_fault : List Nat := [0, 10, 15, 23]
def K_X_fault : KE := (⟨"NameReaders", "fault", "(I)I"⟩, prog_1_method_5_code, 3, (Option.some Jvm.ClassFile.FieldType.int), B_X_fault, L_X_fault, P_X_fault, [484, 482, 483, 81, 0, 2])
def B_X_moves : BT := fun b => match b with
  | 0 => (1, [(.aload_n 0, [], 0), (.iload_n 1, [], 0), (.invokevirtual 95, [k_X_readerOf, 2, 10, 441], 0), (.astore_n 2, [], 0), (.aload_n 2, [], 0), (.ifnonnull 6, [2, 1], 0)])
  | 1 => (2, [(.bipush (-2), [], 0), (.ireturn, [0], 0)])
  | 2 => (3, [(.aload_n 0, [], 0), (.getfield 25, [10, 3, 2, 406], 0), (.aload_n 2, [], 0), (.invokevirtual 118, [k_Tx_parse, 2, 8, 485], 0), (.iconst (-1), [], 0), (.if_icmp .eq 6, [4, 3], 0)])
  | 3 => (4, [(.bipush (-4), [], 0), (.ireturn, [0], 0)])
  | 4 => (5, [(.aload_n 2, [], 0), (.invokevirtual 122, [k_Rd_size, 1, 4, 586], 0), (.aload_n 0, [], 0), (.getfield 25, [10, 3, 2, 406], 0), (.invokevirtual 123, [k_Tx_found, 1, 8, 590], 0), (.iadd, [], 0), (.bipush 20, [], 0), (.if_icmp .le 6, [6, 5], 0)])
  | 5 => (6, [(.bipush (-5), [], 0), (.ireturn, [0], 0)])
  | 6 => (7, [(.aload_n 2, [], 0), (.aload_n 0, [], 0), (.getfield 25, [10, 3, 2, 406], 0), (.invokevirtual 126, [k_Tx_told, 1, 8, 594], 0), (.aload_n 0, [], 0), (.getfield 25, [10, 3, 2, 406], 0), (.invokevirtual 123, [k_Tx_found, 1, 8, 590], 0), (.invokevirtual 130, [k_Rd_appendAll, 3, 4, 598], 0), (.aload_n 0, [], 0), (.getfield 25, [10, 3, 2, 406], 0), (.invokevirtual 115, [k_Tx_wipe, 1, 8, 477], 0), (.pop, [], 0), (.aload_n 2, [], 0), (.invokevirtual 122, [k_Rd_size, 1, 4, 586], 0), (.ireturn, [0], 0)])
  | _ => (0, [])
def L_X_moves : Nat → List Bool := fun b => match b with
  | 0 => [true, true, false]
  | 1 => [false, false, false]
  | 2 => [true, false, true]
  | 3 => [false, false, false]
  | 4 => [true, false, true]
  | 5 => [false, false, false]
  | 6 => [true, false, true]
  | _ => []
def P_X_moves : List Nat := [0, 10, 13, 25, 28, 45, 48]
def K_X_moves : KE := (⟨"NameReaders", "moves", "(I)I"⟩, prog_1_method_6_code, 3, (Option.some Jvm.ClassFile.FieldType.int), B_X_moves, L_X_moves, P_X_moves, [585, 583, 584, 81, 0, 2])
def B_X_move : BT := fun b => match b with
  | 0 => (1, [(.aload_n 0, [], 0), (.iload_n 1, [], 0), (.invokevirtual 95, [k_X_readerOf, 2, 10, 441], 0), (.astore 4, [], 0), (.aload 4, [], 0), (.ifnull 18, [2, 1], 0)])
  | 1 => (2, [(.iload_n 2, [], 0), (.iconst 0, [], 0), (.aload 4, [], 0), (.invokevirtual 122, [k_Rd_size, 1, 4, 586], 0), (.iconst 1, [], 0), (.isub, [], 0), (.invokestatic 99, [k_X_within, 3, 445], 0), (.ifCond .ne 6, [3, 2], 0)])
  | 2 => (3, [(.bipush (-2), [], 0), (.ireturn, [0], 0)])
  | 3 => (4, [(.iload_n 3, [], 0), (.iconst 0, [], 0), (.iconst 4, [], 0), (.invokestatic 99, [k_X_within, 3, 445], 0), (.ifCond .eq 13, [5, 4], 0)])
  | 4 => (5, [(.aload 4, [], 0), (.iload_n 2, [], 0), (.iload_n 3, [], 0), (.invokevirtual 134, [k_Rd_part, 3, 4, 609], 0), (.goto 5, [6], 0)])
  | 5 => (6, [(.bipush (-3), [], 0)])
  | 6 => (7, [(.ireturn, [0], 0)])
  | _ => (0, [])
def L_X_move : Nat → List Bool := fun b => match b with
  | 0 => [true, true, true, true, false]
  | 1 => [false, false, true, true, true]
  | 2 => [false, false, false, false, false]
  | 3 => [false, false, true, true, true]
  | 4 => [false, false, true, true, true]
  | 5 => [false, false, false, false, false]
  | 6 => [false, false, false, false, false]
  | _ => []
def P_X_move : List Nat := [0, 12, 27, 30, 39, 49, 51]
def K_X_move : KE := (⟨"NameReaders", "move", "(III)I"⟩, prog_1_method_7_code, 5, (Option.some Jvm.ClassFile.FieldType.int), B_X_move, L_X_move, P_X_move, [608, 606, 607, 81, 0, 4])
def B_X_drop : BT := fun b => match b with
  | 0 => (1, [(.aload_n 0, [], 0), (.iload_n 1, [], 0), (.invokevirtual 95, [k_X_readerOf, 2, 10, 441], 0), (.astore_n 3, [], 0), (.aload_n 3, [], 0), (.ifnull 17, [2, 1], 0)])
  | 1 => (2, [(.iload_n 2, [], 0), (.iconst 0, [], 0), (.aload_n 3, [], 0), (.invokevirtual 122, [k_Rd_size, 1, 4, 586], 0), (.iconst 1, [], 0), (.isub, [], 0), (.invokestatic 99, [k_X_within, 3, 445], 0), (.ifCond .ne 6, [3, 2], 0)])
  | 2 => (3, [(.bipush (-2), [], 0), (.ireturn, [0], 0)])
  | 3 => (4, [(.aload_n 3, [], 0), (.iload_n 2, [], 0), (.invokevirtual 138, [k_Rd_remove, 2, 4, 614], 0), (.aload_n 3, [], 0), (.invokevirtual 122, [k_Rd_size, 1, 4, 586], 0), (.ireturn, [0], 0)])
  | _ => (0, [])
def L_X_drop : Nat → List Bool := fun b => match b with
  | 0 => [true, true, true, false]
  | 1 => [false, false, true, true]
  | 2 => [false, false, false, false]
  | 3 => [false, false, true, true]
  | _ => []
def P_X_drop : List Nat := [0, 10, 24, 27]
def K_X_drop : KE := (⟨"NameReaders", "drop", "(II)I"⟩, prog_1_method_8_code, 4, (Option.some Jvm.ClassFile.FieldType.int), B_X_drop, L_X_drop, P_X_drop, [613, 611, 612, 81, 0, 3])
def B_X_pair : BT := fun b => match b with
  | 0 => (1, [(.iload_n 1, [], 0), (.iload_n 2, [], 0), (.invokestatic 141, [k_X_isPair, 2, 622], 0), (.ifCond .ne 6, [2, 1], 0)])
  | 1 => (2, [(.bipush (-3), [], 0), (.ireturn, [0], 0)])
  | 2 => (3, [(.aload_n 0, [], 0), (.getfield 32, [10, 4, 2, 407], 0), (.invokevirtual 145, [k_Rw_size, 1, 5, 625], 0), (.bipush 12, [], 0), (.if_icmp .lt 6, [4, 3], 0)])
  | 3 => (4, [(.bipush (-5), [], 0), (.ireturn, [0], 0)])
  | 4 => (5, [(.aload_n 0, [], 0), (.getfield 32, [10, 4, 2, 407], 0), (.iload_n 1, [], 0), (.iload_n 2, [], 0), (.invokevirtual 146, [k_Rw_append, 3, 5, 629], 0), (.aload_n 0, [], 0), (.getfield 32, [10, 4, 2, 407], 0), (.invokevirtual 145, [k_Rw_size, 1, 5, 625], 0), (.ireturn, [0], 0)])
  | _ => (0, [])
def L_X_pair : Nat → List Bool := fun b => match b with
  | 0 => [true, true, true]
  | 1 => [false, false, false]
  | 2 => [true, true, true]
  | 3 => [false, false, false]
  | 4 => [true, true, true]
  | _ => []
def P_X_pair : List Nat := [0, 8, 11, 23, 26]
def K_X_pair : KE := (⟨"NameReaders", "pair", "(II)I"⟩, prog_1_method_9_code, 3, (Option.some Jvm.ClassFile.FieldType.int), B_X_pair, L_X_pair, P_X_pair, [621, 619, 620, 81, 0, 3])
def B_X_change : BT := fun b => match b with
  | 0 => (1, [(.iload_n 1, [], 0), (.iconst 0, [], 0), (.aload_n 0, [], 0), (.getfield 32, [10, 4, 2, 407], 0), (.invokevirtual 145, [k_Rw_size, 1, 5, 625], 0), (.iconst 1, [], 0), (.isub, [], 0), (.invokestatic 99, [k_X_within, 3, 445], 0), (.ifCond .ne 6, [2, 1], 0)])
  | 1 => (2, [(.bipush (-2), [], 0), (.ireturn, [0], 0)])
  | 2 => (3, [(.iload_n 2, [], 0), (.iload_n 3, [], 0), (.invokestatic 141, [k_X_isPair, 2, 622], 0), (.ifCond .ne 6, [4, 3], 0)])
  | 3 => (4, [(.bipush (-3), [], 0), (.ireturn, [0], 0)])
  | 4 => (5, [(.aload_n 0, [], 0), (.getfield 32, [10, 4, 2, 407], 0), (.iload_n 1, [], 0), (.iload_n 2, [], 0), (.iload_n 3, [], 0), (.invokevirtual 150, [k_Rw_put, 4, 5, 653], 0), (.iconst 1, [], 0), (.ireturn, [0], 0)])
  | _ => (0, [])
def L_X_change : Nat → List Bool := fun b => match b with
  | 0 => [true, true, true, true]
  | 1 => [false, false, false, false]
  | 2 => [true, true, true, true]
  | 3 => [false, false, false, false]
  | 4 => [true, true, true, true]
  | _ => []
def P_X_change : List Nat := [0, 17, 20, 28, 31]
def K_X_change : KE := (⟨"NameReaders", "change", "(III)I"⟩, prog_1_method_10_code, 4, (Option.some Jvm.ClassFile.FieldType.int), B_X_change, L_X_change, P_X_change, [652, 650, 651, 81, 0, 4])
def B_X_hush : BT := fun b => match b with
  | 0 => (1, [(.aload_n 0, [], 0), (.getfield 32, [10, 4, 2, 407], 0), (.invokevirtual 152, [k_Rw_wipe, 1, 5, 658], 0), (.ireturn, [0], 0)])
  | _ => (0, [])
def L_X_hush : Nat → List Bool := fun b => match b with
  | 0 => [true]
  | _ => []
def P_X_hush : List Nat := [0]
def K_X_hush : KE := (⟨"NameReaders", "hush", "()I"⟩, prog_1_method_11_code, 1, (Option.some Jvm.ClassFile.FieldType.int), B_X_hush, L_X_hush, P_X_hush, [657, 655, 656, 81, 0, 1])
def B_X_taken : BT := fun b => match b with
  | 0 => (1, [(.aload_n 0, [], 0), (.iload_n 1, [], 0), (.invokevirtual 95, [k_X_readerOf, 2, 10, 441], 0), (.astore_n 2, [], 0), (.aload_n 2, [], 0), (.ifnonnull 6, [2, 1], 0)])
  | 1 => (2, [(.bipush (-2), [], 0), (.ireturn, [0], 0)])
  | 2 => (3, [(.aload_n 0, [], 0), (.getfield 32, [10, 4, 2, 407], 0), (.invokevirtual 153, [k_Rw_gaps, 1, 5, 666], 0), (.ifCond .le 6, [4, 3], 0)])
  | 3 => (4, [(.bipush (-4), [], 0), (.ireturn, [0], 0)])
  | 4 => (5, [(.aload_n 2, [], 0), (.aload_n 0, [], 0), (.getfield 46, [10, 5, 2, 408], 0), (.aload_n 2, [], 0), (.aload_n 0, [], 0), (.getfield 32, [10, 4, 2, 407], 0), (.aload_n 0, [], 0), (.getfield 32, [10, 4, 2, 407], 0), (.invokevirtual 145, [k_Rw_size, 1, 5, 625], 0), (.invokevirtual 155, [k_Wk_statesBehind, 4, 9, 670], 0), (.invokevirtual 159, [k_Rd_takesSome, 2, 4, 739], 0), (.ifCond .eq 7, [6, 5], 0)])
  | 5 => (6, [(.iconst 1, [], 0), (.goto 4, [7], 0)])
  | 6 => (7, [(.iconst 0, [], 0)])
  | 7 => (8, [(.ireturn, [0], 0)])
  | _ => (0, [])
def L_X_taken : Nat → List Bool := fun b => match b with
  | 0 => [true, true, false]
  | 1 => [false, false, false]
  | 2 => [true, false, true]
  | 3 => [false, false, false]
  | 4 => [true, false, true]
  | 5 => [false, false, false]
  | 6 => [false, false, false]
  | 7 => [false, false, false]
  | _ => []
def P_X_taken : List Nat := [0, 10, 13, 23, 26, 52, 56, 57]
def K_X_taken : KE := (⟨"NameReaders", "taken", "(I)I"⟩, prog_1_method_12_code, 3, (Option.some Jvm.ClassFile.FieldType.int), B_X_taken, L_X_taken, P_X_taken, [665, 663, 664, 81, 0, 2])
def B_X_may : BT := fun b => match b with
  | 0 => (1, [(.aload_n 0, [], 0), (.iload_n 1, [], 0), (.invokevirtual 95, [k_X_readerOf, 2, 10, 441], 0), (.astore_n 3, [], 0), (.aload_n 3, [], 0), (.ifnonnull 6, [2, 1], 0)])
  | 1 => (2, [(.bipush (-2), [], 0), (.ireturn, [0], 0)])
  | 2 => (3, [(.iload_n 2, [], 0), (.iconst 0, [], 0), (.aload_n 0, [], 0), (.getfield 32, [10, 4, 2, 407], 0), (.invokevirtual 145, [k_Rw_size, 1, 5, 625], 0), (.invokestatic 99, [k_X_within, 3, 445], 0), (.ifCond .ne 6, [4, 3], 0)])
  | 3 => (4, [(.bipush (-3), [], 0), (.ireturn, [0], 0)])
  | 4 => (5, [(.aload_n 0, [], 0), (.getfield 32, [10, 4, 2, 407], 0), (.invokevirtual 153, [k_Rw_gaps, 1, 5, 666], 0), (.ifCond .le 8, [6, 5], 0)])
  | 5 => (6, [(.bipush (-4), [], 0), (.goto 16, [7], 0)])
  | 6 => (7, [(.aload_n 0, [], 0), (.getfield 46, [10, 5, 2, 408], 0), (.aload_n 3, [], 0), (.aload_n 0, [], 0), (.getfield 32, [10, 4, 2, 407], 0), (.iload_n 2, [], 0), (.invokevirtual 155, [k_Wk_statesBehind, 4, 9, 670], 0)])
  | 7 => (8, [(.ireturn, [0], 0)])
  | _ => (0, [])
def L_X_may : Nat → List Bool := fun b => match b with
  | 0 => [true, true, true, false]
  | 1 => [false, false, false, false]
  | 2 => [true, false, true, true]
  | 3 => [false, false, false, false]
  | 4 => [true, false, true, true]
  | 5 => [false, false, false, false]
  | 6 => [true, false, true, true]
  | 7 => [false, false, false, false]
  | _ => []
def P_X_may : List Nat := [0, 10, 13, 28, 31, 41, 46, 59]
def K_X_may : KE := (⟨"NameReaders", "may", "(II)I"⟩, prog_1_method_13_code, 4, (Option.some Jvm.ClassFile.FieldType.int), B_X_may, L_X_may, P_X_may, [746, 744, 745, 81, 0, 3])
def B_X_runs : BT := fun b => match b with
  | 0 => (1, [(.aload_n 0, [], 0), (.iload_n 1, [], 0), (.invokevirtual 95, [k_X_readerOf, 2, 10, 441], 0), (.astore_n 2, [], 0), (.aload_n 2, [], 0), (.ifnonnull 6, [2, 1], 0)])
  | 1 => (2, [(.bipush (-2), [], 0), (.ireturn, [0], 0)])
  | 2 => (3, [(.aload_n 0, [], 0), (.getfield 32, [10, 4, 2, 407], 0), (.invokevirtual 153, [k_Rw_gaps, 1, 5, 666], 0), (.ifCond .le 8, [4, 3], 0)])
  | 3 => (4, [(.bipush (-4), [], 0), (.goto 15, [5], 0)])
  | 4 => (5, [(.aload_n 0, [], 0), (.getfield 46, [10, 5, 2, 408], 0), (.aload_n 2, [], 0), (.aload_n 0, [], 0), (.getfield 32, [10, 4, 2, 407], 0), (.invokevirtual 163, [k_Wk_runsThatTake, 3, 9, 751], 0)])
  | 5 => (6, [(.ireturn, [0], 0)])
  | _ => (0, [])
def L_X_runs : Nat → List Bool := fun b => match b with
  | 0 => [true, true, false]
  | 1 => [false, false, false]
  | 2 => [true, false, true]
  | 3 => [false, false, false]
  | 4 => [true, false, true]
  | 5 => [false, false, false]
  | _ => []
def P_X_runs : List Nat := [0, 10, 13, 23, 28, 40]
def K_X_runs : KE := (⟨"NameReaders", "runs", "(I)I"⟩, prog_1_method_14_code, 3, (Option.some Jvm.ClassFile.FieldType.int), B_X_runs, L_X_runs, P_X_runs, [750, 748, 749, 81, 0, 2])
def B_X_run : BT := fun b => match b with
  | 0 => (1, [(.aload_n 0, [], 0), (.iload_n 1, [], 0), (.invokevirtual 95, [k_X_readerOf, 2, 10, 441], 0), (.astore_n 3, [], 0), (.aload_n 3, [], 0), (.ifnonnull 6, [2, 1], 0)])
  | 1 => (2, [(.bipush (-2), [], 0), (.ireturn, [0], 0)])
  | 2 => (3, [(.iload_n 2, [], 0), (.ifCond .ge 6, [4, 3], 0)])
  | 3 => (4, [(.bipush (-3), [], 0), (.ireturn, [0], 0)])
  | 4 => (5, [(.aload_n 0, [], 0), (.getfield 32, [10, 4, 2, 407], 0), (.invokevirtual 153, [k_Rw_gaps, 1, 5, 666], 0), (.ifCond .le 6, [6, 5], 0)])
  | 5 => (6, [(.bipush (-4), [], 0), (.ireturn, [0], 0)])
  | 6 => (7, [(.iload_n 2, [], 0), (.aload_n 0, [], 0), (.getfield 32, [10, 4, 2, 407], 0), (.invokevirtual 145, [k_Rw_size, 1, 5, 625], 0), (.if_icmp .ge 29, [9, 7], 0)])
  | 7 => (8, [(.aload_n 0, [], 0), (.getfield 46, [10, 5, 2, 408], 0), (.aload_n 3, [], 0), (.aload_n 0, [], 0), (.getfield 32, [10, 4, 2, 407], 0), (.invokevirtual 167, [k_Wk_findRun, 3, 9, 798], 0), (.ifCond .eq 14, [9, 8], 0)])
  | 8 => (9, [(.aload_n 0, [], 0), (.getfield 46, [10, 5, 2, 408], 0), (.iload_n 2, [], 0), (.invokevirtual 171, [k_Wk_moveOfRun, 2, 9, 814], 0), (.goto 4, [10], 0)])
  | 9 => (10, [(.iconst (-1), [], 0)])
  | 10 => (11, [(.ireturn, [0], 0)])
  | _ => (0, [])
def L_X_run : Nat → List Bool := fun b => match b with
  | 0 => [true, true, true, false]
  | 1 => [false, false, false, false]
  | 2 => [true, false, true, true]
  | 3 => [false, false, false, false]
  | 4 => [true, false, true, true]
  | 5 => [false, false, false, false]
  | 6 => [true, false, true, true]
  | 7 => [true, false, true, true]
  | 8 => [true, false, true, false]
  | 9 => [false, false, false, false]
  | 10 => [false, false, false, false]
  | _ => []
def P_X_run : List Nat := [0, 10, 13, 17, 20, 30, 33, 44, 59, 70, 71]
def K_X_run : KE := (⟨"NameReaders", "run", "(II)I"⟩, prog_1_method_15_code, 4, (Option.some Jvm.ClassFile.FieldType.int), B_X_run, L_X_run, P_X_run, [797, 795, 796, 81, 0, 3])
def B_X_shapes : BT := fun b => match b with
  | 0 => (1, [(.aload_n 0, [], 0), (.iload_n 1, [], 0), (.invokevirtual 95, [k_X_readerOf, 2, 10, 441], 0), (.astore 4, [], 0), (.aload 4, [], 0), (.ifnonnull 6, [2, 1], 0)])
  | 1 => (2, [(.bipush (-2), [], 0), (.ireturn, [0], 0)])
  | 2 => (3, [(.iload_n 2, [], 0), (.iconst 0, [], 0), (.bipush 6, [], 0), (.invokestatic 99, [k_X_within, 3, 445], 0), (.ifCond .eq 12, [4, 3], 0)])
  | 3 => (4, [(.iload_n 3, [], 0), (.iconst 1, [], 0), (.iconst 3, [], 0), (.invokestatic 99, [k_X_within, 3, 445], 0), (.ifCond .ne 6, [5, 4], 0)])
  | 4 => (5, [(.bipush (-3), [], 0), (.ireturn, [0], 0)])
  | 5 => (6, [(.aload_n 0, [], 0), (.getfield 73, [10, 8, 2, 411], 0), (.aload 4, [], 0), (.aload_n 0, [], 0), (.getfield 19, [10, 2, 2, 405], 0), (.iload_n 2, [], 0), (.iload_n 3, [], 0), (.ldc 175, [0, 822], 1000000001), (.invokevirtual 176, [k_Ss_find, 6, 6, 823], 0), (.pop, [], 0), (.aload_n 0, [], 0), (.getfield 73, [10, 8, 2, 411], 0), (.invokevirtual 180, [k_Ss_passed, 1, 6, 872], 0), (.ireturn, [0], 0)])
  | _ => (0, [])
def L_X_shapes : Nat → List Bool := fun b => match b with
  | 0 => [true, true, true, true, false]
  | 1 => [false, false, false, false, false]
  | 2 => [true, false, true, true, true]
  | 3 => [true, false, true, true, true]
  | 4 => [false, false, false, false, false]
  | 5 => [true, false, true, true, true]
  | _ => []
def P_X_shapes : List Nat := [0, 12, 15, 25, 34, 37]
def K_X_shapes : KE := (⟨"NameReaders", "shapes", "(III)I"⟩, prog_1_method_16_code, 5, (Option.some Jvm.ClassFile.FieldType.int), B_X_shapes, L_X_shapes, P_X_shapes, [821, 819, 820, 81, 0, 4])
def B_X_shape : BT := fun b => match b with
  | 0 => (1, [(.aload_n 0, [], 0), (.iload_n 1, [], 0), (.invokevirtual 95, [k_X_readerOf, 2, 10, 441], 0), (.astore 6, [], 0), (.aload 6, [], 0), (.ifnonnull 6, [2, 1], 0)])
  | 1 => (2, [(.bipush (-2), [], 0), (.ireturn, [0], 0)])
  | 2 => (3, [(.iload_n 2, [], 0), (.iconst 0, [], 0), (.bipush 6, [], 0), (.invokestatic 99, [k_X_within, 3, 445], 0), (.ifCond .eq 22, [6, 3], 0)])
  | 3 => (4, [(.iload_n 3, [], 0), (.iconst 1, [], 0), (.iconst 3, [], 0), (.invokestatic 99, [k_X_within, 3, 445], 0), (.ifCond .eq 13, [6, 4], 0)])
  | 4 => (5, [(.iload 4, [], 0), (.ifCond .lt 8, [6, 5], 0)])
  | 5 => (6, [(.iload 5, [], 0), (.ifCond .ge 6, [7, 6], 0)])
  | 6 => (7, [(.bipush (-3), [], 0), (.ireturn, [0], 0)])
  | 7 => (8, [(.iload 5, [], 0), (.iload_n 2, [], 0), (.if_icmp .ge 35, [10, 8], 0)])
  | 8 => (9, [(.aload_n 0, [], 0), (.getfield 73, [10, 8, 2, 411], 0), (.aload 6, [], 0), (.aload_n 0, [], 0), (.getfield 19, [10, 2, 2, 405], 0), (.iload_n 2, [], 0), (.iload_n 3, [], 0), (.iload 4, [], 0), (.invokevirtual 176, [k_Ss_find, 6, 6, 823], 0), (.ifCond .eq 15, [10, 9], 0)])
  | 9 => (10, [(.aload_n 0, [], 0), (.getfield 73, [10, 8, 2, 411], 0), (.iload 5, [], 0), (.invokevirtual 183, [k_Ss_pairAt, 2, 6, 880], 0), (.goto 4, [11], 0)])
  | 10 => (11, [(.iconst (-1), [], 0)])
  | 11 => (12, [(.ireturn, [0], 0)])
  | _ => (0, [])
def L_X_shape : Nat → List Bool := fun b => match b with
  | 0 => [true, true, true, true, true, true, false]
  | 1 => [false, false, false, false, false, false, false]
  | 2 => [true, false, true, true, true, true, true]
  | 3 => [true, false, true, true, true, true, true]
  | 4 => [true, false, true, true, true, true, true]
  | 5 => [true, false, true, true, true, true, true]
  | 6 => [false, false, false, false, false, false, false]
  | 7 => [true, false, true, true, true, true, true]
  | 8 => [true, false, true, true, true, true, true]
  | 9 => [true, false, false, false, false, true, false]
  | 10 => [false, false, false, false, false, false, false]
  | 11 => [false, false, false, false, false, false, false]
  | _ => []
def P_X_shape : List Nat := [0, 12, 15, 25, 34, 39, 44, 47, 53, 73, 85, 86]
def K_X_shape : KE := (⟨"NameReaders", "shape", "(IIIII)I"⟩, prog_1_method_17_code, 7, (Option.some Jvm.ClassFile.FieldType.int), B_X_shape, L_X_shape, P_X_shape, [879, 877, 878, 81, 0, 6])
def B_X_least : BT := fun b => match b with
  | 0 => (1, [(.aload_n 0, [], 0), (.iload_n 1, [], 0), (.invokevirtual 95, [k_X_readerOf, 2, 10, 441], 0), (.astore_n 2, [], 0), (.aload_n 2, [], 0), (.ifnonnull 8, [2, 1], 0)])
  | 1 => (2, [(.bipush (-2), [], 0), (.goto 11, [3], 0)])
  | 2 => (3, [(.aload_n 0, [], 0), (.getfield 82, [10, 9, 2, 412], 0), (.aload_n 2, [], 0), (.invokevirtual 186, [k_Ol_shortest, 2, 3, 888], 0)])
  | 3 => (4, [(.ireturn, [0], 0)])
  | _ => (0, [])
def L_X_least : Nat → List Bool := fun b => match b with
  | 0 => [true, true, false]
  | 1 => [false, false, false]
  | 2 => [true, false, true]
  | 3 => [false, false, false]
  | _ => []
def P_X_least : List Nat := [0, 10, 15, 23]
def K_X_least : KE := (⟨"NameReaders", "least", "(I)I"⟩, prog_1_method_18_code, 3, (Option.some Jvm.ClassFile.FieldType.int), B_X_least, L_X_least, P_X_least, [887, 885, 886, 81, 0, 2])
def B_X_first : BT := fun b => match b with
  | 0 => (1, [(.aload_n 0, [], 0), (.iload_n 1, [], 0), (.invokevirtual 95, [k_X_readerOf, 2, 10, 441], 0), (.astore_n 3, [], 0), (.aload_n 3, [], 0), (.ifnonnull 6, [2, 1], 0)])
  | 1 => (2, [(.bipush (-2), [], 0), (.ireturn, [0], 0)])
  | 2 => (3, [(.iload_n 2, [], 0), (.ifCond .ge 6, [4, 3], 0)])
  | 3 => (4, [(.bipush (-3), [], 0), (.ireturn, [0], 0)])
  | 4 => (5, [(.aload_n 0, [], 0), (.getfield 82, [10, 9, 2, 412], 0), (.aload_n 3, [], 0), (.invokevirtual 186, [k_Ol_shortest, 2, 3, 888], 0), (.istore 4, [], 0), (.iload 4, [], 0), (.bipush 12, [], 0), (.if_icmp .gt 9, [6, 5], 0)])
  | 5 => (6, [(.iload_n 2, [], 0), (.iload 4, [], 0), (.if_icmp .lt 5, [7, 6], 0)])
  | 6 => (7, [(.iconst (-1), [], 0), (.ireturn, [0], 0)])
  | 7 => (8, [(.aload_n 0, [], 0), (.getfield 82, [10, 9, 2, 412], 0), (.aload_n 3, [], 0), (.iload 4, [], 0), (.iload_n 2, [], 0), (.invokevirtual 189, [k_Ol_firstPair, 4, 3, 931], 0), (.ireturn, [0], 0)])
  | _ => (0, [])
def L_X_first : Nat → List Bool := fun b => match b with
  | 0 => [true, true, true, false, false]
  | 1 => [false, false, false, false, false]
  | 2 => [true, false, true, true, false]
  | 3 => [false, false, false, false, false]
  | 4 => [true, false, true, true, false]
  | 5 => [true, false, true, true, true]
  | 6 => [false, false, false, false, false]
  | 7 => [true, false, true, true, true]
  | _ => []
def P_X_first : List Nat := [0, 10, 13, 17, 20, 37, 43, 45]
def K_X_first : KE := (⟨"NameReaders", "first", "(II)I"⟩, prog_1_method_19_code, 5, (Option.some Jvm.ClassFile.FieldType.int), B_X_first, L_X_first, P_X_first, [930, 928, 929, 81, 0, 3])
def B_X_useless : BT := fun b => match b with
  | 0 => (1, [(.aload_n 0, [], 0), (.iload_n 1, [], 0), (.invokevirtual 95, [k_X_readerOf, 2, 10, 441], 0), (.astore_n 2, [], 0), (.aload_n 2, [], 0), (.ifnonnull 8, [2, 1], 0)])
  | 1 => (2, [(.bipush (-2), [], 0), (.goto 11, [3], 0)])
  | 2 => (3, [(.aload_n 0, [], 0), (.getfield 82, [10, 9, 2, 412], 0), (.aload_n 2, [], 0), (.invokevirtual 193, [k_Ol_neverMade, 2, 3, 952], 0)])
  | 3 => (4, [(.ireturn, [0], 0)])
  | _ => (0, [])
def L_X_useless : Nat → List Bool := fun b => match b with
  | 0 => [true, true, false]
  | 1 => [false, false, false]
  | 2 => [true, false, true]
  | 3 => [false, false, false]
  | _ => []
def P_X_useless : List Nat := [0, 10, 15, 23]
def K_X_useless : KE := (⟨"NameReaders", "useless", "(I)I"⟩, prog_1_method_20_code, 3, (Option.some Jvm.ClassFile.FieldType.int), B_X_useless, L_X_useless, P_X_useless, [951, 949, 950, 81, 0, 2])
def B_X_twofold : BT := fun b => match b with
  | 0 => (1, [(.aload_n 0, [], 0), (.iload_n 1, [], 0), (.invokevirtual 95, [k_X_readerOf, 2, 10, 441], 0), (.astore_n 2, [], 0), (.aload_n 2, [], 0), (.ifnonnull 8, [2, 1], 0)])
  | 1 => (2, [(.bipush (-2), [], 0), (.goto 11, [3], 0)])
  | 2 => (3, [(.aload_n 0, [], 0), (.getfield 82, [10, 9, 2, 412], 0), (.aload_n 2, [], 0), (.invokevirtual 196, [k_Ol_twoAtOnce, 2, 3, 961], 0)])
  | 3 => (4, [(.ireturn, [0], 0)])
  | _ => (0, [])
def L_X_twofold : Nat → List Bool := fun b => match b with
  | 0 => [true, true, false]
  | 1 => [false, false, false]
  | 2 => [true, false, true]
  | 3 => [false, false, false]
  | _ => []
def P_X_twofold : List Nat := [0, 10, 15, 23]
def K_X_twofold : KE := (⟨"NameReaders", "twofold", "(I)I"⟩, prog_1_method_21_code, 3, (Option.some Jvm.ClassFile.FieldType.int), B_X_twofold, L_X_twofold, P_X_twofold, [960, 958, 959, 81, 0, 2])
def B_X_both : BT := fun b => match b with
  | 0 => (1, [(.aload_n 0, [], 0), (.getfield 91, [10, 10, 2, 413], 0), (.invokevirtual 199, [k_Mt_shortest, 1, 1, 972], 0), (.ireturn, [0], 0)])
  | _ => (0, [])
def L_X_both : Nat → List Bool := fun b => match b with
  | 0 => [true]
  | _ => []
def P_X_both : List Nat := [0]
def K_X_both : KE := (⟨"NameReaders", "both", "()I"⟩, prog_1_method_22_code, 1, (Option.some Jvm.ClassFile.FieldType.int), B_X_both, L_X_both, P_X_both, [971, 969, 970, 81, 0, 1])
def B_X_parted : BT := fun b => match b with
  | 0 => (1, [(.iload_n 1, [], 0), (.iconst 0, [], 0), (.iconst 5, [], 0), (.invokestatic 99, [k_X_within, 3, 445], 0), (.ifCond .eq 8, [2, 1], 0)])
  | 1 => (2, [(.iload_n 2, [], 0), (.iconst (-1), [], 0), (.if_icmp .ge 6, [3, 2], 0)])
  | 2 => (3, [(.bipush (-3), [], 0), (.ireturn, [0], 0)])
  | 3 => (4, [(.iconst 0, [], 0), (.istore_n 3, [], 0)])
  | 4 => (5, [(.iload_n 3, [], 0), (.iload_n 1, [], 0), (.if_icmp .gt 54, [13, 5], 0)])
  | 5 => (6, [(.aload_n 0, [], 0), (.getfield 73, [10, 8, 2, 411], 0), (.aload_n 0, [], 0), (.getfield 12, [10, 0, 2, 403], 0), (.aload_n 0, [], 0), (.getfield 16, [10, 1, 2, 404], 0), (.iload_n 3, [], 0), (.iconst 3, [], 0), (.iconst 0, [], 0), (.invokevirtual 176, [k_Ss_find, 6, 6, 823], 0), (.ifCond .eq 27, [12, 6], 0)])
  | 6 => (7, [(.iload_n 2, [], 0), (.ifCond .ge 5, [8, 7], 0)])
  | 7 => (8, [(.iload_n 3, [], 0), (.ireturn, [0], 0)])
  | 8 => (9, [(.iload_n 2, [], 0), (.iload_n 3, [], 0), (.if_icmp .ge 14, [10, 9], 0)])
  | 9 => (10, [(.aload_n 0, [], 0), (.getfield 73, [10, 8, 2, 411], 0), (.iload_n 2, [], 0), (.invokevirtual 183, [k_Ss_pairAt, 2, 6, 880], 0), (.goto 4, [11], 0)])
  | 10 => (11, [(.iconst (-1), [], 0)])
  | 11 => (12, [(.ireturn, [0], 0)])
  | 12 => (13, [(.iinc 3 1, [], 0), (.goto (-53), [4], 0)])
  | 13 => (14, [(.iconst (-1), [], 0), (.ireturn, [0], 0)])
  | _ => (0, [])
def L_X_parted : Nat → List Bool := fun b => match b with
  | 0 => [true, true, true, false]
  | 1 => [true, true, true, false]
  | 2 => [false, false, false, false]
  | 3 => [true, true, true, false]
  | 4 => [true, true, true, true]
  | 5 => [true, true, true, true]
  | 6 => [true, false, true, true]
  | 7 => [false, false, false, true]
  | 8 => [true, false, true, true]
  | 9 => [true, false, true, false]
  | 10 => [false, false, false, false]
  | 11 => [false, false, false, false]
  | 12 => [true, true, true, true]
  | 13 => [false, false, false, false]
  | _ => []
def P_X_parted : List Nat := [0, 9, 14, 17, 19, 24, 45, 49, 51, 56, 67, 68, 69, 75]
def K_X_parted : KE := (⟨"NameReaders", "parted", "(II)I"⟩, prog_1_method_23_code, 4, (Option.some Jvm.ClassFile.FieldType.int), B_X_parted, L_X_parted, P_X_parted, [1010, 1008, 1009, 81, 0, 3])
def B_X_fillings : BT := fun b => match b with
  | 0 => (1, [(.aload_n 0, [], 0), (.iload_n 1, [], 0), (.invokevirtual 95, [k_X_readerOf, 2, 10, 441], 0), (.astore_n 2, [], 0), (.aload_n 2, [], 0), (.ifnonnull 6, [2, 1], 0)])
  | 1 => (2, [(.bipush (-2), [], 0), (.ireturn, [0], 0)])
  | 2 => (3, [(.aload_n 0, [], 0), (.getfield 32, [10, 4, 2, 407], 0), (.invokevirtual 201, [k_Rw_gapPairs, 1, 5, 1015], 0), (.iconst 3, [], 0), (.if_icmp .le 8, [4, 3], 0)])
  | 3 => (4, [(.bipush (-4), [], 0), (.goto 12, [5], 0)])
  | 4 => (5, [(.aload_n 0, [], 0), (.getfield 55, [10, 6, 2, 409], 0), (.aload_n 2, [], 0), (.iconst 0, [], 0), (.invokevirtual 204, [k_Fl_search, 3, 0, 1019], 0)])
  | 5 => (6, [(.ireturn, [0], 0)])
  | _ => (0, [])
def L_X_fillings : Nat → List Bool := fun b => match b with
  | 0 => [true, true, false]
  | 1 => [false, false, false]
  | 2 => [true, false, true]
  | 3 => [false, false, false]
  | 4 => [true, false, true]
  | 5 => [false, false, false]
  | _ => []
def P_X_fillings : List Nat := [0, 10, 13, 24, 29, 38]
def K_X_fillings : KE := (⟨"NameReaders", "fillings", "(I)I"⟩, prog_1_method_24_code, 3, (Option.some Jvm.ClassFile.FieldType.int), B_X_fillings, L_X_fillings, P_X_fillings, [1014, 1012, 1013, 81, 0, 2])
def B_X_filled : BT := fun b => match b with
  | 0 => (1, [(.aload_n 0, [], 0), (.iload_n 1, [], 0), (.invokevirtual 95, [k_X_readerOf, 2, 10, 441], 0), (.astore_n 3, [], 0), (.aload_n 3, [], 0), (.ifnonnull 6, [2, 1], 0)])
  | 1 => (2, [(.bipush (-2), [], 0), (.ireturn, [0], 0)])
  | 2 => (3, [(.iload_n 2, [], 0), (.ifCond .ge 6, [4, 3], 0)])
  | 3 => (4, [(.bipush (-3), [], 0), (.ireturn, [0], 0)])
  | 4 => (5, [(.aload_n 0, [], 0), (.getfield 32, [10, 4, 2, 407], 0), (.invokevirtual 201, [k_Rw_gapPairs, 1, 5, 1015], 0), (.iconst 3, [], 0), (.if_icmp .le 6, [6, 5], 0)])
  | 5 => (6, [(.bipush (-4), [], 0), (.ireturn, [0], 0)])
  | 6 => (7, [(.iload_n 2, [], 0), (.aload_n 0, [], 0), (.getfield 32, [10, 4, 2, 407], 0), (.invokevirtual 145, [k_Rw_size, 1, 5, 625], 0), (.if_icmp .ge 26, [9, 7], 0)])
  | 7 => (8, [(.aload_n 0, [], 0), (.getfield 55, [10, 6, 2, 409], 0), (.aload_n 3, [], 0), (.iconst 1, [], 0), (.invokevirtual 204, [k_Fl_search, 3, 0, 1019], 0), (.ifCond .le 14, [9, 8], 0)])
  | 8 => (9, [(.aload_n 0, [], 0), (.getfield 55, [10, 6, 2, 409], 0), (.iload_n 2, [], 0), (.invokevirtual 207, [k_Fl_pairAt, 2, 0, 1081], 0), (.goto 4, [10], 0)])
  | 9 => (10, [(.iconst (-1), [], 0)])
  | 10 => (11, [(.ireturn, [0], 0)])
  | _ => (0, [])
def L_X_filled : Nat → List Bool := fun b => match b with
  | 0 => [true, true, true, false]
  | 1 => [false, false, false, false]
  | 2 => [true, false, true, true]
  | 3 => [false, false, false, false]
  | 4 => [true, false, true, true]
  | 5 => [false, false, false, false]
  | 6 => [true, false, true, true]
  | 7 => [true, false, true, true]
  | 8 => [true, false, true, false]
  | 9 => [false, false, false, false]
  | 10 => [false, false, false, false]
  | _ => []
def P_X_filled : List Nat := [0, 10, 13, 17, 20, 31, 34, 45, 57, 68, 69]
def K_X_filled : KE := (⟨"NameReaders", "filled", "(II)I"⟩, prog_1_method_25_code, 4, (Option.some Jvm.ClassFile.FieldType.int), B_X_filled, L_X_filled, P_X_filled, [1080, 1078, 1079, 81, 0, 3])
def B_X_mend : BT := fun b => match b with
  | 0 => (1, [(.aload_n 0, [], 0), (.iload_n 1, [], 0), (.invokevirtual 95, [k_X_readerOf, 2, 10, 441], 0), (.astore_n 2, [], 0), (.aload_n 2, [], 0), (.ifnonnull 6, [2, 1], 0)])
  | 1 => (2, [(.bipush (-2), [], 0), (.ireturn, [0], 0)])
  | 2 => (3, [(.aload_n 0, [], 0), (.getfield 32, [10, 4, 2, 407], 0), (.invokevirtual 153, [k_Rw_gaps, 1, 5, 666], 0), (.ifCond .le 8, [4, 3], 0)])
  | 3 => (4, [(.bipush (-4), [], 0), (.goto 15, [5], 0)])
  | 4 => (5, [(.aload_n 0, [], 0), (.getfield 64, [10, 7, 2, 410], 0), (.aload_n 2, [], 0), (.aload_n 0, [], 0), (.getfield 32, [10, 4, 2, 407], 0), (.invokevirtual 208, [k_Mn_fewest, 3, 2, 1089], 0)])
  | 5 => (6, [(.ireturn, [0], 0)])
  | _ => (0, [])
def L_X_mend : Nat → List Bool := fun b => match b with
  | 0 => [true, true, false]
  | 1 => [false, false, false]
  | 2 => [true, false, true]
  | 3 => [false, false, false]
  | 4 => [true, false, true]
  | 5 => [false, false, false]
  | _ => []
def P_X_mend : List Nat := [0, 10, 13, 23, 28, 40]
def K_X_mend : KE := (⟨"NameReaders", "mend", "(I)I"⟩, prog_1_method_26_code, 3, (Option.some Jvm.ClassFile.FieldType.int), B_X_mend, L_X_mend, P_X_mend, [1088, 1086, 1087, 81, 0, 2])
def B_X_count : BT := fun b => match b with
  | 0 => (1, [(.iload_n 1, [], 0), (.tableswitch 87 0 5 #[39, 47, 55, 63, 71, 79], [7, 1, 2, 3, 4, 5, 6], 0)])
  | 1 => (2, [(.aload_n 0, [], 0), (.getfield 32, [10, 4, 2, 407], 0), (.invokevirtual 145, [k_Rw_size, 1, 5, 625], 0), (.ireturn, [0], 0)])
  | 2 => (3, [(.aload_n 0, [], 0), (.getfield 32, [10, 4, 2, 407], 0), (.invokevirtual 153, [k_Rw_gaps, 1, 5, 666], 0), (.ireturn, [0], 0)])
  | 3 => (4, [(.aload_n 0, [], 0), (.getfield 32, [10, 4, 2, 407], 0), (.invokevirtual 211, [k_Rw_told, 1, 5, 1145], 0), (.ireturn, [0], 0)])
  | 4 => (5, [(.aload_n 0, [], 0), (.getfield 25, [10, 3, 2, 406], 0), (.invokevirtual 107, [k_Tx_size, 1, 8, 464], 0), (.ireturn, [0], 0)])
  | 5 => (6, [(.aload_n 0, [], 0), (.getfield 12, [10, 0, 2, 403], 0), (.invokevirtual 122, [k_Rd_size, 1, 4, 586], 0), (.ireturn, [0], 0)])
  | 6 => (7, [(.aload_n 0, [], 0), (.getfield 16, [10, 1, 2, 404], 0), (.invokevirtual 122, [k_Rd_size, 1, 4, 586], 0), (.ireturn, [0], 0)])
  | 7 => (8, [(.bipush (-3), [], 0), (.ireturn, [0], 0)])
  | _ => (0, [])
def L_X_count : Nat → List Bool := fun b => match b with
  | 0 => [true, true]
  | 1 => [true, false]
  | 2 => [true, false]
  | 3 => [true, false]
  | 4 => [true, false]
  | 5 => [true, false]
  | 6 => [true, false]
  | 7 => [false, false]
  | _ => []
def P_X_count : List Nat := [0, 40, 48, 56, 64, 72, 80, 88]
def K_X_count : KE := (⟨"NameReaders", "count", "(I)I"⟩, prog_1_method_27_code, 2, (Option.some Jvm.ClassFile.FieldType.int), B_X_count, L_X_count, P_X_count, [1144, 1142, 1143, 81, 0, 2])
def B_X_readerOf : BT := fun b => match b with
  | 0 => (1, [(.iload_n 1, [], 0), (.ifCond .ne 8, [2, 1], 0)])
  | 1 => (2, [(.aload_n 0, [], 0), (.getfield 12, [10, 0, 2, 403], 0), (.areturn, [], 0)])
  | 2 => (3, [(.iload_n 1, [], 0), (.iconst 1, [], 0), (.if_icmp .ne 10, [4, 3], 0)])
  | 3 => (4, [(.aload_n 0, [], 0), (.getfield 16, [10, 1, 2, 404], 0), (.goto 4, [5], 0)])
  | 4 => (5, [(.aconst_null, [], 0)])
  | 5 => (6, [(.areturn, [], 0)])
  | _ => (0, [])
def L_X_readerOf : Nat → List Bool := fun b => match b with
  | 0 => [true, true]
  | 1 => [true, false]
  | 2 => [true, true]
  | 3 => [true, false]
  | 4 => [false, false]
  | 5 => [false, false]
  | _ => []
def P_X_readerOf : List Nat := [0, 4, 9, 14, 21, 22]
def K_X_readerOf : KE := (⟨"NameReaders", "readerOf", "(I)LNameReaders$Reader;"⟩, prog_1_method_28_code, 2, (Option.some (Jvm.ClassFile.FieldType.object "NameReaders$Reader")), B_X_readerOf, L_X_readerOf, P_X_readerOf, [444, 443, 0, 81, 0, 2])
def B_X_within : BT := fun b => match b with
  | 0 => (1, [(.iload_n 0, [], 0), (.iload_n 1, [], 0), (.if_icmp .lt 12, [3, 1], 0)])
  | 1 => (2, [(.iload_n 0, [], 0), (.iload_n 2, [], 0), (.if_icmp .gt 7, [3, 2], 0)])
  | 2 => (3, [(.iconst 1, [], 0), (.goto 4, [4], 0)])
  | 3 => (4, [(.iconst 0, [], 0)])
  | 4 => (5, [(.ireturn, [1], 0)])
  | _ => (0, [])
def L_X_within : Nat → List Bool := fun b => match b with
  | 0 => [true, true, true]
  | 1 => [true, false, true]
  | 2 => [false, false, false]
  | 3 => [false, false, false]
  | 4 => [false, false, false]
  | _ => []
def P_X_within : List Nat := [0, 5, 10, 14, 15]
def K_X_within : KE := (⟨"NameReaders", "within", "(III)Z"⟩, prog_1_method_29_code, 3, (Option.some Jvm.ClassFile.FieldType.boolean), B_X_within, L_X_within, P_X_within, [447, 446, 0, 81, 1, 3])
def B_X_isPair : BT := fun b => match b with
  | 0 => (1, [(.iload_n 0, [], 0), (.iconst (-1), [], 0), (.iconst 2, [], 0), (.invokestatic 99, [k_X_within, 3, 445], 0), (.ifCond .eq 17, [3, 1], 0)])
  | 1 => (2, [(.iload_n 1, [], 0), (.iconst (-1), [], 0), (.bipush 99, [], 0), (.invokestatic 99, [k_X_within, 3, 445], 0), (.ifCond .eq 7, [3, 2], 0)])
  | 2 => (3, [(.iconst 1, [], 0), (.goto 4, [4], 0)])
  | 3 => (4, [(.iconst 0, [], 0)])
  | 4 => (5, [(.ireturn, [1], 0)])
  | _ => (0, [])
def L_X_isPair : Nat → List Bool := fun b => match b with
  | 0 => [true, true]
  | 1 => [false, true]
  | 2 => [false, false]
  | 3 => [false, false]
  | 4 => [false, false]
  | _ => []
def P_X_isPair : List Nat := [0, 9, 19, 23, 24]
def K_X_isPair : KE := (⟨"NameReaders", "isPair", "(II)Z"⟩, prog_1_method_30_code, 2, (Option.some Jvm.ClassFile.FieldType.boolean), B_X_isPair, L_X_isPair, P_X_isPair, [624, 623, 0, 81, 1, 2])
def B_M_init : BT := fun b => match b with
  | 0 => (1, [(.aload_n 0, [], 0), (.invokespecial 1, [0, 1, 11, 1151], 0), (.aload_n 0, [], 0), (.iconst 2, [], 0), (.newarray .int, [0], 0), (.dup, [], 0), (.iconst 0, [], 0), (.iconst 1, [], 0), (.iastore, [], 0), (.dup, [], 0), (.iconst 1, [], 0), (.iconst 1, [], 0), (.iastore, [], 0), (.putfield 7, [11, 0, 2, 1156], 0), (.aload_n 0, [], 0), (.iconst 2, [], 0), (.newarray .int, [0], 0), (.putfield 13, [11, 1, 2, 1157], 0), (.aload_n 0, [], 0), (.iconst 2, [], 0), (.newarray .int, [0], 0), (.putfield 16, [11, 2, 2, 1158], 0), (.aload_n 0, [], 0), (.iconst 2, [], 0), (.newarray .int, [0], 0), (.putfield 19, [11, 3, 2, 1159], 0), (.aload_n 0, [], 0), (.bipush 40, [], 0), (.newarray .int, [0], 0), (.putfield 22, [11, 4, 2, 1160], 0), (.aload_n 0, [], 0), (.bipush 40, [], 0), (.newarray .int, [0], 0), (.putfield 25, [11, 5, 2, 1161], 0), (.aload_n 0, [], 0), (.bipush 40, [], 0), (.newarray .int, [0], 0), (.putfield 28, [11, 6, 2, 1162], 0), (.aload_n 0, [], 0), (.bipush 40, [], 0), (.newarray .int, [0], 0), (.putfield 31, [11, 7, 2, 1163], 0), (.aload_n 0, [], 0), (.bipush 40, [], 0), (.newarray .int, [0], 0), (.putfield 34, [11, 8, 2, 1164], 0), (.aload_n 0, [], 0), (.bipush 20, [], 0), (.newarray .int, [0], 0), (.putfield 37, [11, 10, 2, 1166], 0), (.aload_n 0, [], 0), (.bipush 20, [], 0), (.newarray .int, [0], 0), (.putfield 40, [11, 11, 2, 1167], 0), (.aload_n 0, [], 0), (.bipush 20, [], 0), (.newarray .int, [0], 0), (.putfield 43, [11, 12, 2, 1168], 0), (.aload_n 0, [], 0), (.bipush 20, [], 0), (.newarray .int, [0], 0), (.putfield 46, [11, 13, 2, 1169], 0), (.aload_n 0, [], 0), (.bipush 20, [], 0), (.newarray .int, [0], 0), (.putfield 49, [11, 14, 2, 1170], 0), (.aload_n 0, [], 0), (.sipush 150, [], 0), (.newarray .int, [0], 0), (.putfield 52, [11, 15, 2, 1171], 0), (.aload_n 0, [], 0), (.bipush 12, [], 0), (.newarray .int, [0], 0), (.putfield 55, [11, 17, 2, 1173], 0), (.aload_n 0, [], 0), (.bipush 12, [], 0), (.newarray .int, [0], 0), (.putfield 58, [11, 18, 2, 1174], 0), (.aload_n 0, [], 0), (.bipush 16, [], 0), (.newarray .int, [0], 0), (.putfield 61, [11, 23, 2, 1179], 0), (.aload_n 0, [], 0), (.bipush 12, [], 0), (.newarray .int, [0], 0), (.putfield 64, [11, 25, 2, 1181], 0), (.aload_n 0, [], 0), (.ldc 67, [0, 1152], 319800), (.newarray .int, [0], 0), (.putfield 68, [11, 26, 2, 1182], 0), (.aload_n 0, [], 0), (.bipush 13, [], 0), (.newarray .int, [0], 0), (.putfield 71, [11, 27, 2, 1183], 0), (.aload_n 0, [], 0), (.sipush 29478, [], 0), (.newarray .int, [0], 0), (.putfield 74, [11, 28, 2, 1184], 0), (.aload_n 0, [], 0), (.sipush 29478, [], 0), (.newarray .long, [1], 0), (.putfield 77, [11, 30, 2, 1186], 0), (.aload_n 0, [], 0), (.sipush 29478, [], 0), (.newarray .long, [1], 0), (.putfield 81, [11, 31, 2, 1187], 0), (.aload_n 0, [], 0), (.ldc 84, [0, 1153], 383214), (.newarray .boolean, [2], 0), (.putfield 85, [11, 32, 2, 1188], 0), (.aload_n 0, [], 0), (.bipush 13, [], 0), (.newarray .int, [0], 0), (.putfield 89, [11, 33, 2, 1189], 0), (.aload_n 0, [], 0), (.bipush 13, [], 0), (.newarray .int, [0], 0), (.putfield 92, [11, 34, 2, 1190], 0), (.aload_n 0, [], 0), (.bipush 14, [], 0), (.newarray .int, [0], 0), (.putfield 95, [11, 35, 2, 1191], 0), (.aload_n 0, [], 0), (.sipush 384, [], 0), (.newarray .int, [0], 0), (.putfield 98, [11, 36, 2, 1192], 0), (.aload_n 0, [], 0), (.sipush 384, [], 0), (.newarray .boolean, [2], 0), (.putfield 101, [11, 37, 2, 1193], 0), (.aload_n 0, [], 0), (.sipush 20000, [], 0), (.newarray .int, [0], 0), (.putfield 104, [11, 38, 2, 1194], 0), (.aload_n 0, [], 0), (.sipush 20000, [], 0), (.newarray .int, [0], 0), (.putfield 107, [11, 39, 2, 1195], 0), (.aload_n 0, [], 0), (.ldc 110, [0, 1154], 65536), (.newarray .int, [0], 0), (.putfield 111, [11, 42, 2, 1198], 0), (.aload_n 0, [], 0), (.ldc 114, [0, 1155], 40000), (.newarray .int, [0], 0), (.putfield 115, [11, 43, 2, 1199], 0), (.aload_n 0, [], 0), (.ldc 114, [0, 1155], 40000), (.newarray .int, [0], 0), (.putfield 118, [11, 44, 2, 1200], 0), (.aload_n 0, [], 0), (.bipush 6, [], 0), (.newarray .int, [0], 0), (.putfield 121, [11, 46, 2, 1202], 0), (.aload_n 0, [], 0), (.bipush 6, [], 0), (.newarray .int, [0], 0), (.putfield 124, [11, 47, 2, 1203], 0), (.aload_n 0, [], 0), (.sipush 24600, [], 0), (.newarray .int, [0], 0), (.putfield 127, [11, 48, 2, 1204], 0), (.aload_n 0, [], 0), (.bipush 7, [], 0), (.newarray .int, [0], 0), (.putfield 130, [11, 49, 2, 1205], 0), (.aload_n 0, [], 0), (.bipush 12, [], 0), (.newarray .int, [0], 0), (.putfield 133, [11, 50, 2, 1206], 0), (.aload_n 0, [], 0), (.bipush 12, [], 0), (.newarray .int, [0], 0), (.putfield 136, [11, 51, 2, 1207], 0), (.aload_n 0, [], 0), (.bipush 13, [], 0), (.newarray .int, [0], 0), (.putfield 139, [11, 52, 2, 1208], 0), (.aload_n 0, [], 0), (.iconst 4, [], 0), (.newarray .int, [0], 0), (.putfield 142, [11, 53, 2, 1209], 0), (.aload_n 0, [], 0), (.sipush 29478, [], 0), (.newarray .int, [0], 0), (.putfield 145, [11, 54, 2, 1210], 0), (.aload_n 0, [], 0), (.sipush 29478, [], 0), (.newarray .int, [0], 0), (.putfield 148, [11, 55, 2, 1211], 0), (.return_, [], 0)])
  | _ => (0, [])
def L_M_init : Nat → List Bool := fun b => match b with
  | 0 => [true]
  | _ => []
def P_M_init : List Nat := [0]
def K_M_init : KE := (⟨"NameReadersModel", "<init>", "()V"⟩, prog_13_method_1_code, 1, (Option.none : Option Jvm.ClassFile.FieldType), B_M_init, L_M_init, P_M_init, [1150, 1149, 0, 93, 2, 1])
def B_M_in : BT := fun b => match b with
  | 0 => (1, [(.lload_n 0, [], 0), (.lload_n 2, [], 0), (.lcmp, [], 0), (.ifCond .lt 14, [3, 1], 0)])
  | 1 => (2, [(.lload_n 0, [], 0), (.lload 4, [], 0), (.lcmp, [], 0), (.ifCond .gt 7, [3, 2], 0)])
  | 2 => (3, [(.iconst 1, [], 0), (.goto 4, [4], 0)])
  | 3 => (4, [(.iconst 0, [], 0)])
  | 4 => (5, [(.ireturn, [1], 0)])
  | _ => (0, [])
def L_M_in : Nat → List Bool := fun b => match b with
  | 0 => [true, false, true, false, true, false]
  | 1 => [true, false, false, false, true, false]
  | 2 => [false, false, false, false, false, false]
  | 3 => [false, false, false, false, false, false]
  | 4 => [false, false, false, false, false, false]
  | _ => []
def P_M_in : List Nat := [0, 6, 13, 17, 18]
def K_M_in : KE := (⟨"NameReadersModel", "in", "(JJJ)Z"⟩, prog_13_method_2_code, 6, (Option.some Jvm.ClassFile.FieldType.boolean), B_M_in, L_M_in, P_M_in, [1335, 1334, 0, 93, 1, 3])
def B_M_isReader : BT := fun b => match b with
  | 0 => (1, [(.iload_n 0, [], 0), (.i2l, [], 0), (.lconst 0, [], 0), (.lconst 1, [], 0), (.invokestatic 151, [k_M_in, 3, 1333], 0), (.ireturn, [1], 0)])
  | _ => (0, [])
def L_M_isReader : Nat → List Bool := fun b => match b with
  | 0 => [true]
  | _ => []
def P_M_isReader : List Nat := [0]
def K_M_isReader : KE := (⟨"NameReadersModel", "isReader", "(I)Z"⟩, prog_13_method_3_code, 1, (Option.some Jvm.ClassFile.FieldType.boolean), B_M_isReader, L_M_isReader, P_M_isReader, [1332, 1331, 0, 93, 1, 1])
def B_M_reader : BT := fun b => match b with
  | 0 => (1, [(.iload_n 1, [], 0), (.invokestatic 155, [k_M_isReader, 1, 1330], 0), (.ifCond .ne 6, [2, 1], 0)])
  | 1 => (2, [(.bipush (-2), [], 0), (.ireturn, [0], 0)])
  | 2 => (3, [(.iload_n 2, [], 0), (.i2l, [], 0), (.lconst 1, [], 0), (.ldc2_w 159, [1336], 6), (.invokestatic 151, [k_M_in, 3, 1333], 0), (.ifCond .eq 31, [5, 3], 0)])
  | 3 => (4, [(.iload_n 3, [], 0), (.i2l, [], 0), (.lconst 0, [], 0), (.ldc2_w 161, [1337], 3), (.invokestatic 151, [k_M_in, 3, 1333], 0), (.ifCond .eq 19, [5, 4], 0)])
  | 4 => (5, [(.iload 4, [], 0), (.i2l, [], 0), (.lconst 0, [], 0), (.iconst 1, [], 0), (.iload_n 2, [], 0), (.ishl, [], 0), (.iconst 1, [], 0), (.isub, [], 0), (.i2l, [], 0), (.invokestatic 151, [k_M_in, 3, 1333], 0), (.ifCond .ne 6, [6, 5], 0)])
  | 5 => (6, [(.bipush (-3), [], 0), (.ireturn, [0], 0)])
  | 6 => (7, [(.aload_n 0, [], 0), (.getfield 7, [11, 0, 2, 1156], 0), (.iload_n 1, [], 0), (.iload_n 2, [], 0), (.iastore, [], 0), (.aload_n 0, [], 0), (.getfield 13, [11, 1, 2, 1157], 0), (.iload_n 1, [], 0), (.iload_n 3, [], 0), (.iastore, [], 0), (.aload_n 0, [], 0), (.getfield 16, [11, 2, 2, 1158], 0), (.iload_n 1, [], 0), (.iload 4, [], 0), (.iastore, [], 0), (.aload_n 0, [], 0), (.getfield 19, [11, 3, 2, 1159], 0), (.iload_n 1, [], 0), (.iconst 0, [], 0), (.iastore, [], 0), (.iconst 1, [], 0), (.ireturn, [0], 0)])
  | _ => (0, [])
def L_M_reader : Nat → List Bool := fun b => match b with
  | 0 => [true, true, true, true, true]
  | 1 => [false, false, false, false, false]
  | 2 => [true, true, true, true, true]
  | 3 => [true, true, true, true, true]
  | 4 => [true, true, true, true, true]
  | 5 => [false, false, false, false, false]
  | 6 => [true, true, true, true, true]
  | _ => []
def P_M_reader : List Nat := [0, 7, 10, 22, 34, 50, 53]
def K_M_reader : KE := (⟨"NameReadersModel", "reader", "(IIII)I"⟩, prog_13_method_4_code, 5, (Option.some Jvm.ClassFile.FieldType.int), B_M_reader, L_M_reader, P_M_reader, [1329, 1327, 1328, 93, 0, 5])
def B_M_write : BT := fun b => match b with
  | 0 => (1, [(.iload_n 3, [], 0), (.i2l, [], 0), (.lconst 1, [], 0), (.ldc2_w 163, [1342], 8), (.invokestatic 151, [k_M_in, 3, 1333], 0), (.ifCond .ne 6, [2, 1], 0)])
  | 1 => (2, [(.bipush (-3), [], 0), (.ireturn, [0], 0)])
  | 2 => (3, [(.aload_n 0, [], 0), (.getfield 165, [11, 16, 0, 1172], 0), (.iload_n 3, [], 0), (.iadd, [], 0), (.sipush 150, [], 0), (.if_icmp .le 6, [4, 3], 0)])
  | 3 => (4, [(.bipush (-5), [], 0), (.ireturn, [0], 0)])
  | 4 => (5, [(.iconst 0, [], 0), (.istore 4, [], 0)])
  | 5 => (6, [(.iload 4, [], 0), (.iload_n 3, [], 0), (.if_icmp .ge 40, [7, 6], 0)])
  | 6 => (7, [(.aload_n 0, [], 0), (.getfield 52, [11, 15, 2, 1171], 0), (.aload_n 0, [], 0), (.getfield 165, [11, 16, 0, 1172], 0), (.lload_n 1, [], 0), (.bipush 8, [], 0), (.iload 4, [], 0), (.imul, [], 0), (.lshr, [], 0), (.ldc2_w 169, [1343], 255), (.land, [], 0), (.l2i, [], 0), (.iastore, [], 0), (.aload_n 0, [], 0), (.dup, [], 0), (.getfield 165, [11, 16, 0, 1172], 0), (.iconst 1, [], 0), (.iadd, [], 0), (.putfield 165, [11, 16, 0, 1172], 0), (.iinc 4 1, [], 0), (.goto (-40), [5], 0)])
  | 7 => (8, [(.aload_n 0, [], 0), (.getfield 165, [11, 16, 0, 1172], 0), (.ireturn, [0], 0)])
  | _ => (0, [])
def L_M_write : Nat → List Bool := fun b => match b with
  | 0 => [true, true, false, true, false]
  | 1 => [false, false, false, false, false]
  | 2 => [true, true, false, true, false]
  | 3 => [false, false, false, false, false]
  | 4 => [true, true, false, true, false]
  | 5 => [true, true, false, true, true]
  | 6 => [true, true, false, true, true]
  | 7 => [true, false, false, false, false]
  | _ => []
def P_M_write : List Nat := [0, 12, 15, 27, 30, 33, 39, 76]
def K_M_write : KE := (⟨"NameReadersModel", "write", "(JI)I"⟩, prog_13_method_5_code, 5, (Option.some Jvm.ClassFile.FieldType.int), B_M_write, L_M_write, P_M_write, [1341, 1339, 1340, 93, 0, 3])
def B_M_erase : BT := fun b => match b with
  | 0 => (1, [(.aload_n 0, [], 0), (.getfield 165, [11, 16, 0, 1172], 0), (.istore_n 1, [], 0), (.aload_n 0, [], 0), (.iconst 0, [], 0), (.putfield 165, [11, 16, 0, 1172], 0), (.iload_n 1, [], 0), (.ireturn, [0], 0)])
  | _ => (0, [])
def L_M_erase : Nat → List Bool := fun b => match b with
  | 0 => [true, false]
  | _ => []
def P_M_erase : List Nat := [0]
def K_M_erase : KE := (⟨"NameReadersModel", "erase", "()I"⟩, prog_13_method_6_code, 2, (Option.some Jvm.ClassFile.FieldType.int), B_M_erase, L_M_erase, P_M_erase, [1347, 1345, 1346, 93, 0, 1])
def B_M_sort : BT := fun b => match b with
  | 0 => (1, [(.iload_n 0, [], 0), (.bipush 97, [], 0), (.if_icmp .lt 13, [3, 1], 0)])
  | 1 => (2, [(.iload_n 0, [], 0), (.bipush 122, [], 0), (.if_icmp .gt 7, [3, 2], 0)])
  | 2 => (3, [(.iconst 1, [], 0), (.goto 20, [7], 0)])
  | 3 => (4, [(.iload_n 0, [], 0), (.bipush 48, [], 0), (.if_icmp .lt 13, [6, 4], 0)])
  | 4 => (5, [(.iload_n 0, [], 0), (.bipush 57, [], 0), (.if_icmp .gt 7, [6, 5], 0)])
  | 5 => (6, [(.iconst 2, [], 0), (.goto 4, [7], 0)])
  | 6 => (7, [(.iconst 0, [], 0)])
  | 7 => (8, [(.ireturn, [0], 0)])
  | _ => (0, [])
def L_M_sort : Nat → List Bool := fun b => match b with
  | 0 => [true]
  | 1 => [true]
  | 2 => [false]
  | 3 => [true]
  | 4 => [true]
  | 5 => [false]
  | 6 => [false]
  | 7 => [false]
  | _ => []
def P_M_sort : List Nat := [0, 6, 12, 16, 22, 28, 32, 33]
def K_M_sort : KE := (⟨"NameReadersModel", "sort", "(I)I"⟩, prog_13_method_7_code, 1, (Option.some Jvm.ClassFile.FieldType.int), B_M_sort, L_M_sort, P_M_sort, [1358, 1357, 0, 93, 1, 1])
def B_M_token : BT := fun b => match b with
  | 0 => (1, [(.aload_n 0, [], 0), (.getfield 171, [11, 20, 0, 1176], 0), (.aload_n 0, [], 0), (.getfield 165, [11, 16, 0, 1172], 0), (.if_icmp .ge 30, [3, 1], 0)])
  | 1 => (2, [(.aload_n 0, [], 0), (.getfield 52, [11, 15, 2, 1171], 0), (.aload_n 0, [], 0), (.getfield 171, [11, 20, 0, 1176], 0), (.iaload, [], 0), (.bipush 32, [], 0), (.if_icmp .ne 16, [3, 2], 0)])
  | 2 => (3, [(.aload_n 0, [], 0), (.dup, [], 0), (.getfield 171, [11, 20, 0, 1176], 0), (.iconst 1, [], 0), (.iadd, [], 0), (.putfield 171, [11, 20, 0, 1176], 0), (.goto (-35), [0], 0)])
  | 3 => (4, [(.aload_n 0, [], 0), (.aload_n 0, [], 0), (.getfield 171, [11, 20, 0, 1176], 0), (.putfield 174, [11, 21, 0, 1177], 0), (.aload_n 0, [], 0), (.dup, [], 0), (.getfield 171, [11, 20, 0, 1176], 0), (.aload_n 0, [], 0), (.getfield 171, [11, 20, 0, 1176], 0), (.aload_n 0, [], 0), (.getfield 165, [11, 16, 0, 1172], 0), (.if_icmp .ge 7, [5, 4], 0)])
  | 4 => (5, [(.iconst 1, [], 0), (.goto 4, [6], 0)])
  | 5 => (6, [(.iconst 0, [], 0)])
  | 6 => (7, [(.iadd, [], 0), (.putfield 171, [11, 20, 0, 1176], 0)])
  | 7 => (8, [(.aload_n 0, [], 0), (.getfield 171, [11, 20, 0, 1176], 0), (.aload_n 0, [], 0), (.getfield 165, [11, 16, 0, 1172], 0), (.if_icmp .ge 58, [11, 8], 0)])
  | 8 => (9, [(.aload_n 0, [], 0), (.getfield 52, [11, 15, 2, 1171], 0), (.aload_n 0, [], 0), (.getfield 174, [11, 21, 0, 1177], 0), (.iaload, [], 0), (.invokestatic 177, [k_M_sort, 1, 1356], 0), (.ifCond .le 43, [11, 9], 0)])
  | 9 => (10, [(.aload_n 0, [], 0), (.getfield 52, [11, 15, 2, 1171], 0), (.aload_n 0, [], 0), (.getfield 171, [11, 20, 0, 1176], 0), (.iaload, [], 0), (.invokestatic 177, [k_M_sort, 1, 1356], 0), (.aload_n 0, [], 0), (.getfield 52, [11, 15, 2, 1171], 0), (.aload_n 0, [], 0), (.getfield 174, [11, 21, 0, 1177], 0), (.iaload, [], 0), (.invokestatic 177, [k_M_sort, 1, 1356], 0), (.if_icmp .ne 16, [11, 10], 0)])
  | 10 => (11, [(.aload_n 0, [], 0), (.dup, [], 0), (.getfield 171, [11, 20, 0, 1176], 0), (.iconst 1, [], 0), (.iadd, [], 0), (.putfield 171, [11, 20, 0, 1176], 0), (.goto (-63), [7], 0)])
  | 11 => (12, [(.aload_n 0, [], 0), (.aload_n 0, [], 0), (.getfield 171, [11, 20, 0, 1176], 0), (.putfield 181, [11, 22, 0, 1178], 0), (.return_, [], 0)])
  | _ => (0, [])
def L_M_token : Nat → List Bool := fun b => match b with
  | 0 => [true]
  | 1 => [true]
  | 2 => [true]
  | 3 => [true]
  | 4 => [true]
  | 5 => [true]
  | 6 => [true]
  | 7 => [true]
  | 8 => [true]
  | 9 => [true]
  | 10 => [true]
  | 11 => [true]
  | _ => []
def P_M_token : List Nat := [0, 11, 25, 38, 62, 66, 67, 71, 82, 97, 124, 137]
def K_M_token : KE := (⟨"NameReadersModel", "token", "()V"⟩, prog_13_method_8_code, 1, (Option.none : Option Jvm.ClassFile.FieldType), B_M_token, L_M_token, P_M_token, [1355, 1354, 41, 93, 0, 1])
def B_M_isWord : BT := fun b => match b with
  | 0 => (1, [(.aload_n 0, [], 0), (.getfield 181, [11, 22, 0, 1178], 0), (.aload_n 0, [], 0), (.getfield 174, [11, 21, 0, 1177], 0), (.isub, [], 0), (.iload_n 2, [], 0), (.if_icmp .ne 7, [2, 1], 0)])
  | 1 => (2, [(.iconst 1, [], 0), (.goto 4, [3], 0)])
  | 2 => (3, [(.iconst 0, [], 0)])
  | 3 => (4, [(.istore_n 3, [], 0), (.iconst 0, [], 0), (.istore 4, [], 0)])
  | 4 => (5, [(.iload_n 3, [], 0), (.ifCond .eq 48, [10, 5], 0)])
  | 5 => (6, [(.iload 4, [], 0), (.iload_n 2, [], 0), (.if_icmp .ge 42, [10, 6], 0)])
  | 6 => (7, [(.aload_n 0, [], 0), (.getfield 52, [11, 15, 2, 1171], 0), (.aload_n 0, [], 0), (.getfield 174, [11, 21, 0, 1177], 0), (.iload 4, [], 0), (.iadd, [], 0), (.iaload, [], 0), (.bipush 96, [], 0), (.iload_n 1, [], 0), (.iconst 5, [], 0), (.iload 4, [], 0), (.imul, [], 0), (.ishr, [], 0), (.bipush 31, [], 0), (.iand, [], 0), (.iadd, [], 0), (.if_icmp .ne 7, [8, 7], 0)])
  | 7 => (8, [(.iconst 1, [], 0), (.goto 4, [9], 0)])
  | 8 => (9, [(.iconst 0, [], 0)])
  | 9 => (10, [(.istore_n 3, [], 0), (.iinc 4 1, [], 0), (.goto (-46), [4], 0)])
  | 10 => (11, [(.iload_n 3, [], 0), (.ireturn, [1], 0)])
  | _ => (0, [])
def L_M_isWord : Nat → List Bool := fun b => match b with
  | 0 => [true, true, true, false, false]
  | 1 => [true, true, true, false, false]
  | 2 => [true, true, true, false, false]
  | 3 => [true, true, true, false, false]
  | 4 => [true, true, true, true, true]
  | 5 => [true, true, true, true, true]
  | 6 => [true, true, true, false, true]
  | 7 => [true, true, true, false, true]
  | 8 => [true, true, true, false, true]
  | 9 => [true, true, true, false, true]
  | 10 => [false, false, false, true, false]
  | _ => []
def P_M_isWord : List Nat := [0, 13, 17, 18, 22, 26, 32, 59, 63, 64, 71]
def K_M_isWord : KE := (⟨"NameReadersModel", "isWord", "(II)Z"⟩, prog_13_method_9_code, 5, (Option.some Jvm.ClassFile.FieldType.boolean), B_M_isWord, L_M_isWord, P_M_isWord, [1370, 1369, 44, 93, 0, 3])
end
section
def B_M_skips : BT := fun b => match b with
  | 0 => (1, [(.aload_n 0, [], 0), (.iload_n 1, [], 0), (.iload_n 2, [], 0), (.invokevirtual 184, [k_M_isWord, 3, 11, 1367], 0), (.istore_n 3, [], 0), (.iload_n 3, [], 0), (.ifCond .eq 7, [2, 1], 0)])
  | 1 => (2, [(.aload_n 0, [], 0), (.invokevirtual 188, [k_M_token, 1, 11, 1352], 0)])
  | 2 => (3, [(.iload_n 3, [], 0), (.ireturn, [1], 0)])
  | _ => (0, [])
def L_M_skips : Nat → List Bool := fun b => match b with
  | 0 => [true, true, true, false]
  | 1 => [true, false, false, true]
  | 2 => [false, false, false, true]
  | _ => []
def P_M_skips : List Nat := [0, 11, 15]
def K_M_skips : KE := (⟨"NameReadersModel", "skips", "(II)Z"⟩, prog_13_method_10_code, 4, (Option.some Jvm.ClassFile.FieldType.boolean), B_M_skips, L_M_skips, P_M_skips, [1375, 1374, 45, 93, 0, 3])
def B_M_figure : BT := fun b => match b with
  | 0 => (1, [(.aload_n 0, [], 0), (.getfield 174, [11, 21, 0, 1177], 0), (.aload_n 0, [], 0), (.getfield 165, [11, 16, 0, 1172], 0), (.if_icmp .ge 50, [5, 1], 0)])
  | 1 => (2, [(.aload_n 0, [], 0), (.getfield 181, [11, 22, 0, 1178], 0), (.aload_n 0, [], 0), (.getfield 174, [11, 21, 0, 1177], 0), (.isub, [], 0), (.iconst 1, [], 0), (.if_icmp .ne 37, [5, 2], 0)])
  | 2 => (3, [(.aload_n 0, [], 0), (.getfield 52, [11, 15, 2, 1171], 0), (.aload_n 0, [], 0), (.getfield 174, [11, 21, 0, 1177], 0), (.iaload, [], 0), (.bipush 48, [], 0), (.if_icmp .lt 23, [5, 3], 0)])
  | 3 => (4, [(.aload_n 0, [], 0), (.getfield 52, [11, 15, 2, 1171], 0), (.aload_n 0, [], 0), (.getfield 174, [11, 21, 0, 1177], 0), (.iaload, [], 0), (.bipush 48, [], 0), (.iload_n 1, [], 0), (.iadd, [], 0), (.if_icmp .ge 7, [5, 4], 0)])
  | 4 => (5, [(.iconst 1, [], 0), (.goto 4, [6], 0)])
  | 5 => (6, [(.iconst 0, [], 0)])
  | 6 => (7, [(.istore_n 2, [], 0), (.iload_n 2, [], 0), (.ifCond .eq 18, [8, 7], 0)])
  | 7 => (8, [(.aload_n 0, [], 0), (.getfield 52, [11, 15, 2, 1171], 0), (.aload_n 0, [], 0), (.getfield 174, [11, 21, 0, 1177], 0), (.iaload, [], 0), (.bipush 48, [], 0), (.isub, [], 0), (.goto 4, [9], 0)])
  | 8 => (9, [(.iconst (-1), [], 0)])
  | 9 => (10, [(.istore_n 3, [], 0), (.iload_n 2, [], 0), (.ifCond .eq 7, [11, 10], 0)])
  | 10 => (11, [(.aload_n 0, [], 0), (.invokevirtual 188, [k_M_token, 1, 11, 1352], 0)])
  | 11 => (12, [(.iload_n 3, [], 0), (.ireturn, [0], 0)])
  | _ => (0, [])
def L_M_figure : Nat → List Bool := fun b => match b with
  | 0 => [true, true, false, false]
  | 1 => [true, true, false, false]
  | 2 => [true, true, false, false]
  | 3 => [true, true, false, false]
  | 4 => [true, false, false, false]
  | 5 => [true, false, false, false]
  | 6 => [true, false, false, false]
  | 7 => [true, false, true, false]
  | 8 => [true, false, true, false]
  | 9 => [true, false, true, false]
  | 10 => [true, false, false, true]
  | 11 => [false, false, false, true]
  | _ => []
def P_M_figure : List Nat := [0, 11, 24, 38, 54, 58, 59, 64, 79, 80, 85, 89]
def K_M_figure : KE := (⟨"NameReadersModel", "figure", "(I)I"⟩, prog_13_method_11_code, 4, (Option.some Jvm.ClassFile.FieldType.int), B_M_figure, L_M_figure, P_M_figure, [1366, 1365, 43, 93, 0, 2])
def B_M_readsMove : BT := fun b => match b with
  | 0 => (1, [(.aload_n 0, [], 0), (.aload_n 0, [], 0), (.getfield 7, [11, 0, 2, 1156], 0), (.iload_n 1, [], 0), (.iaload, [], 0), (.invokevirtual 191, [k_M_figure, 2, 11, 1363], 0), (.istore_n 2, [], 0), (.iload_n 2, [], 0), (.iconst (-1), [], 0), (.if_icmp .ne 5, [2, 1], 0)])
  | 1 => (2, [(.iconst 0, [], 0), (.ireturn, [1], 0)])
  | 2 => (3, [(.aload_n 0, [], 0), (.getfield 181, [11, 22, 0, 1178], 0), (.aload_n 0, [], 0), (.getfield 174, [11, 21, 0, 1177], 0), (.isub, [], 0), (.iconst 1, [], 0), (.if_icmp .ne 57, [7, 3], 0)])
  | 3 => (4, [(.aload_n 0, [], 0), (.getfield 174, [11, 21, 0, 1177], 0), (.aload_n 0, [], 0), (.getfield 165, [11, 16, 0, 1172], 0), (.if_icmp .ge 46, [7, 4], 0)])
  | 4 => (5, [(.aload_n 0, [], 0), (.getfield 52, [11, 15, 2, 1171], 0), (.aload_n 0, [], 0), (.getfield 174, [11, 21, 0, 1177], 0), (.iaload, [], 0), (.bipush 97, [], 0), (.if_icmp .lt 32, [7, 5], 0)])
  | 5 => (6, [(.aload_n 0, [], 0), (.getfield 52, [11, 15, 2, 1171], 0), (.aload_n 0, [], 0), (.getfield 174, [11, 21, 0, 1177], 0), (.iaload, [], 0), (.bipush 99, [], 0), (.if_icmp .gt 18, [7, 6], 0)])
  | 6 => (7, [(.aload_n 0, [], 0), (.getfield 52, [11, 15, 2, 1171], 0), (.aload_n 0, [], 0), (.getfield 174, [11, 21, 0, 1177], 0), (.iaload, [], 0), (.bipush 97, [], 0), (.isub, [], 0), (.goto 4, [8], 0)])
  | 7 => (8, [(.iconst (-1), [], 0)])
  | 8 => (9, [(.istore_n 3, [], 0), (.iload_n 3, [], 0), (.iconst (-1), [], 0), (.if_icmp .ne 5, [10, 9], 0)])
  | 9 => (10, [(.iconst 0, [], 0), (.ireturn, [1], 0)])
  | 10 => (11, [(.aload_n 0, [], 0), (.invokevirtual 188, [k_M_token, 1, 11, 1352], 0), (.aload_n 0, [], 0), (.sipush 23726, [], 0), (.iconst 3, [], 0), (.invokevirtual 184, [k_M_isWord, 3, 11, 1367], 0), (.ifCond .eq 7, [12, 11], 0)])
  | 11 => (12, [(.iconst 3, [], 0), (.goto 34, [17], 0)])
  | 12 => (13, [(.aload_n 0, [], 0), (.sipush 26049, [], 0), (.iconst 3, [], 0), (.invokevirtual 184, [k_M_isWord, 3, 11, 1367], 0), (.ifCond .eq 7, [14, 13], 0)])
  | 13 => (14, [(.iconst 4, [], 0), (.goto 19, [17], 0)])
  | 14 => (15, [(.aload_n 0, [], 0), (.sipush 617, [], 0), (.iconst 2, [], 0), (.invokevirtual 184, [k_M_isWord, 3, 11, 1367], 0), (.ifCond .eq 7, [16, 15], 0)])
  | 15 => (16, [(.iconst 0, [], 0), (.goto 4, [17], 0)])
  | 16 => (17, [(.iconst (-1), [], 0)])
  | 17 => (18, [(.istore 4, [], 0), (.iload 4, [], 0), (.iconst (-1), [], 0), (.if_icmp .ne 5, [19, 18], 0)])
  | 18 => (19, [(.iconst 0, [], 0), (.ireturn, [1], 0)])
  | 19 => (20, [(.aload_n 0, [], 0), (.invokevirtual 188, [k_M_token, 1, 11, 1352], 0), (.iload 4, [], 0), (.ifCond .ne 23, [22, 20], 0)])
  | 20 => (21, [(.aload_n 0, [], 0), (.aload_n 0, [], 0), (.getfield 13, [11, 1, 2, 1157], 0), (.iload_n 1, [], 0), (.iaload, [], 0), (.invokevirtual 191, [k_M_figure, 2, 11, 1363], 0), (.istore 4, [], 0), (.iload 4, [], 0), (.iconst (-1), [], 0), (.if_icmp .ne 5, [22, 21], 0)])
  | 21 => (22, [(.iconst 0, [], 0), (.ireturn, [1], 0)])
  | 22 => (23, [(.iconst (-1), [], 0), (.istore 5, [], 0), (.aload_n 0, [], 0), (.ldc 194, [0, 1371], 529579), (.iconst 4, [], 0), (.invokevirtual 195, [k_M_skips, 3, 11, 1372], 0), (.ifCond .eq 23, [25, 23], 0)])
  | 23 => (24, [(.aload_n 0, [], 0), (.aload_n 0, [], 0), (.getfield 13, [11, 1, 2, 1157], 0), (.iload_n 1, [], 0), (.iaload, [], 0), (.invokevirtual 191, [k_M_figure, 2, 11, 1363], 0), (.istore 5, [], 0), (.iload 5, [], 0), (.iconst (-1), [], 0), (.if_icmp .ne 5, [25, 24], 0)])
  | 24 => (25, [(.iconst 0, [], 0), (.ireturn, [1], 0)])
  | 25 => (26, [(.aload_n 0, [], 0), (.sipush 500, [], 0), (.iconst 2, [], 0), (.invokevirtual 195, [k_M_skips, 3, 11, 1372], 0), (.ifCond .ne 5, [27, 26], 0)])
  | 26 => (27, [(.iconst 0, [], 0), (.ireturn, [1], 0)])
  | 27 => (28, [(.aload_n 0, [], 0), (.aload_n 0, [], 0), (.getfield 7, [11, 0, 2, 1156], 0), (.iload_n 1, [], 0), (.iaload, [], 0), (.invokevirtual 191, [k_M_figure, 2, 11, 1363], 0), (.istore 6, [], 0), (.iload 6, [], 0), (.iconst (-1), [], 0), (.if_icmp .ne 5, [29, 28], 0)])
  | 28 => (29, [(.iconst 0, [], 0), (.ireturn, [1], 0)])
  | 29 => (30, [(.aload_n 0, [], 0), (.getfield 198, [11, 9, 0, 1165], 0), (.bipush 20, [], 0), (.if_icmp .ge 56, [31, 30], 0)])
  | 30 => (31, [(.aload_n 0, [], 0), (.getfield 37, [11, 10, 2, 1166], 0), (.aload_n 0, [], 0), (.getfield 198, [11, 9, 0, 1165], 0), (.iload_n 2, [], 0), (.iastore, [], 0), (.aload_n 0, [], 0), (.getfield 40, [11, 11, 2, 1167], 0), (.aload_n 0, [], 0), (.getfield 198, [11, 9, 0, 1165], 0), (.iload_n 3, [], 0), (.iastore, [], 0), (.aload_n 0, [], 0), (.getfield 43, [11, 12, 2, 1168], 0), (.aload_n 0, [], 0), (.getfield 198, [11, 9, 0, 1165], 0), (.iload 4, [], 0), (.iastore, [], 0), (.aload_n 0, [], 0), (.getfield 46, [11, 13, 2, 1169], 0), (.aload_n 0, [], 0), (.getfield 198, [11, 9, 0, 1165], 0), (.iload 5, [], 0), (.iastore, [], 0), (.aload_n 0, [], 0), (.getfield 49, [11, 14, 2, 1170], 0), (.aload_n 0, [], 0), (.getfield 198, [11, 9, 0, 1165], 0), (.iload 6, [], 0), (.iastore, [], 0)])
  | 31 => (32, [(.aload_n 0, [], 0), (.dup, [], 0), (.getfield 198, [11, 9, 0, 1165], 0), (.iconst 1, [], 0), (.iadd, [], 0), (.putfield 198, [11, 9, 0, 1165], 0), (.iconst 1, [], 0), (.ireturn, [1], 0)])
  | _ => (0, [])
def L_M_readsMove : Nat → List Bool := fun b => match b with
  | 0 => [true, true, false, false, false, false, false]
  | 1 => [false, false, false, false, false, false, false]
  | 2 => [true, true, true, false, false, false, false]
  | 3 => [true, true, true, false, false, false, false]
  | 4 => [true, true, true, false, false, false, false]
  | 5 => [true, true, true, false, false, false, false]
  | 6 => [true, true, true, false, false, false, false]
  | 7 => [true, true, true, false, false, false, false]
  | 8 => [true, true, true, false, false, false, false]
  | 9 => [false, false, false, false, false, false, false]
  | 10 => [true, true, true, true, false, false, false]
  | 11 => [true, true, true, true, false, false, false]
  | 12 => [true, true, true, true, false, false, false]
  | 13 => [true, true, true, true, false, false, false]
  | 14 => [true, true, true, true, false, false, false]
  | 15 => [true, true, true, true, false, false, false]
  | 16 => [true, true, true, true, false, false, false]
  | 17 => [true, true, true, true, false, false, false]
  | 18 => [false, false, false, false, false, false, false]
  | 19 => [true, true, true, true, true, false, false]
  | 20 => [true, true, true, true, false, false, false]
  | 21 => [false, false, false, false, false, false, false]
  | 22 => [true, true, true, true, true, false, false]
  | 23 => [true, true, true, true, true, false, false]
  | 24 => [false, false, false, false, false, false, false]
  | 25 => [true, true, true, true, true, true, false]
  | 26 => [false, false, false, false, false, false, false]
  | 27 => [true, true, true, true, true, true, false]
  | 28 => [false, false, false, false, false, false, false]
  | 29 => [true, false, true, true, true, true, true]
  | 30 => [true, false, true, true, true, true, true]
  | 31 => [true, false, false, false, false, false, false]
  | _ => []
def P_M_readsMove : List Nat := [0, 16, 18, 31, 42, 56, 70, 85, 86, 92, 94, 109, 113, 124, 128, 139, 143, 144, 152, 154, 163, 181, 183, 196, 214, 216, 227, 229, 247, 249, 258, 311]
def K_M_readsMove : KE := (⟨"NameReadersModel", "readsMove", "(I)Z"⟩, prog_13_method_12_code, 7, (Option.some Jvm.ClassFile.FieldType.boolean), B_M_readsMove, L_M_readsMove, P_M_readsMove, [1362, 1361, 42, 93, 0, 2])
def B_M_fault : BT := fun b => match b with
  | 0 => (1, [(.iload_n 1, [], 0), (.invokestatic 155, [k_M_isReader, 1, 1330], 0), (.ifCond .ne 6, [2, 1], 0)])
  | 1 => (2, [(.bipush (-2), [], 0), (.ireturn, [0], 0)])
  | 2 => (3, [(.aload_n 0, [], 0), (.iconst 0, [], 0), (.putfield 171, [11, 20, 0, 1176], 0), (.aload_n 0, [], 0), (.iconst 0, [], 0), (.putfield 198, [11, 9, 0, 1165], 0), (.aload_n 0, [], 0), (.invokevirtual 188, [k_M_token, 1, 11, 1352], 0), (.aload_n 0, [], 0), (.iload_n 1, [], 0), (.invokevirtual 201, [k_M_readsMove, 2, 11, 1359], 0), (.ifCond .ne 8, [4, 3], 0)])
  | 3 => (4, [(.aload_n 0, [], 0), (.getfield 174, [11, 21, 0, 1177], 0), (.ireturn, [0], 0)])
  | 4 => (5, [(.aload_n 0, [], 0), (.getfield 174, [11, 21, 0, 1177], 0), (.aload_n 0, [], 0), (.getfield 165, [11, 16, 0, 1172], 0), (.if_icmp .ge 62, [14, 5], 0)])
  | 5 => (6, [(.aload_n 0, [], 0), (.getfield 181, [11, 22, 0, 1178], 0), (.aload_n 0, [], 0), (.getfield 174, [11, 21, 0, 1177], 0), (.isub, [], 0), (.iconst 1, [], 0), (.if_icmp .ne 21, [8, 6], 0)])
  | 6 => (7, [(.aload_n 0, [], 0), (.getfield 52, [11, 15, 2, 1171], 0), (.aload_n 0, [], 0), (.getfield 174, [11, 21, 0, 1177], 0), (.iaload, [], 0), (.bipush 59, [], 0), (.if_icmp .ne 7, [8, 7], 0)])
  | 7 => (8, [(.iconst 1, [], 0), (.goto 4, [9], 0)])
  | 8 => (9, [(.iconst 0, [], 0)])
  | 9 => (10, [(.istore_n 2, [], 0), (.iload_n 2, [], 0), (.ifCond .eq 13, [11, 10], 0)])
  | 10 => (11, [(.aload_n 0, [], 0), (.invokevirtual 188, [k_M_token, 1, 11, 1352], 0), (.aload_n 0, [], 0), (.iload_n 1, [], 0), (.invokevirtual 201, [k_M_readsMove, 2, 11, 1359], 0), (.istore_n 2, [], 0)])
  | 11 => (12, [(.iload_n 2, [], 0), (.ifCond .ne 8, [13, 12], 0)])
  | 12 => (13, [(.aload_n 0, [], 0), (.getfield 174, [11, 21, 0, 1177], 0), (.ireturn, [0], 0)])
  | 13 => (14, [(.goto (-67), [4], 0)])
  | 14 => (15, [(.iconst (-1), [], 0), (.ireturn, [0], 0)])
  | _ => (0, [])
def L_M_fault : Nat → List Bool := fun b => match b with
  | 0 => [true, true, false]
  | 1 => [false, false, false]
  | 2 => [true, true, false]
  | 3 => [true, false, false]
  | 4 => [true, true, false]
  | 5 => [true, true, false]
  | 6 => [true, true, false]
  | 7 => [true, true, false]
  | 8 => [true, true, false]
  | 9 => [true, true, false]
  | 10 => [true, true, false]
  | 11 => [true, true, true]
  | 12 => [true, false, false]
  | 13 => [true, true, false]
  | 14 => [false, false, false]
  | _ => []
def P_M_fault : List Nat := [0, 7, 10, 32, 37, 48, 61, 75, 79, 80, 85, 95, 99, 104, 107]
def K_M_fault : KE := (⟨"NameReadersModel", "fault", "(I)I"⟩, prog_13_method_13_code, 3, (Option.some Jvm.ClassFile.FieldType.int), B_M_fault, L_M_fault, P_M_fault, [1351, 1349, 1350, 93, 0, 2])
def B_M_moves : BT := fun b => match b with
  | 0 => (1, [(.iload_n 1, [], 0), (.invokestatic 155, [k_M_isReader, 1, 1330], 0), (.ifCond .ne 6, [2, 1], 0)])
  | 1 => (2, [(.bipush (-2), [], 0), (.ireturn, [0], 0)])
  | 2 => (3, [(.aload_n 0, [], 0), (.iload_n 1, [], 0), (.invokevirtual 204, [k_M_fault, 2, 11, 1380], 0), (.iconst (-1), [], 0), (.if_icmp .eq 6, [4, 3], 0)])
  | 3 => (4, [(.bipush (-4), [], 0), (.ireturn, [0], 0)])
  | 4 => (5, [(.aload_n 0, [], 0), (.getfield 19, [11, 3, 2, 1159], 0), (.iload_n 1, [], 0), (.iaload, [], 0), (.aload_n 0, [], 0), (.getfield 198, [11, 9, 0, 1165], 0), (.iadd, [], 0), (.bipush 20, [], 0), (.if_icmp .le 6, [6, 5], 0)])
  | 5 => (6, [(.bipush (-5), [], 0), (.ireturn, [0], 0)])
  | 6 => (7, [(.iconst 0, [], 0), (.istore_n 2, [], 0)])
  | 7 => (8, [(.iload_n 2, [], 0), (.aload_n 0, [], 0), (.getfield 198, [11, 9, 0, 1165], 0), (.if_icmp .ge 91, [9, 8], 0)])
  | 8 => (9, [(.bipush 20, [], 0), (.iload_n 1, [], 0), (.imul, [], 0), (.aload_n 0, [], 0), (.getfield 19, [11, 3, 2, 1159], 0), (.iload_n 1, [], 0), (.iaload, [], 0), (.iadd, [], 0), (.istore_n 3, [], 0), (.aload_n 0, [], 0), (.getfield 22, [11, 4, 2, 1160], 0), (.iload_n 3, [], 0), (.aload_n 0, [], 0), (.getfield 37, [11, 10, 2, 1166], 0), (.iload_n 2, [], 0), (.iaload, [], 0), (.iastore, [], 0), (.aload_n 0, [], 0), (.getfield 25, [11, 5, 2, 1161], 0), (.iload_n 3, [], 0), (.aload_n 0, [], 0), (.getfield 40, [11, 11, 2, 1167], 0), (.iload_n 2, [], 0), (.iaload, [], 0), (.iastore, [], 0), (.aload_n 0, [], 0), (.getfield 28, [11, 6, 2, 1162], 0), (.iload_n 3, [], 0), (.aload_n 0, [], 0), (.getfield 43, [11, 12, 2, 1168], 0), (.iload_n 2, [], 0), (.iaload, [], 0), (.iastore, [], 0), (.aload_n 0, [], 0), (.getfield 31, [11, 7, 2, 1163], 0), (.iload_n 3, [], 0), (.aload_n 0, [], 0), (.getfield 46, [11, 13, 2, 1169], 0), (.iload_n 2, [], 0), (.iaload, [], 0), (.iastore, [], 0), (.aload_n 0, [], 0), (.getfield 34, [11, 8, 2, 1164], 0), (.iload_n 3, [], 0), (.aload_n 0, [], 0), (.getfield 49, [11, 14, 2, 1170], 0), (.iload_n 2, [], 0), (.iaload, [], 0), (.iastore, [], 0), (.aload_n 0, [], 0), (.getfield 19, [11, 3, 2, 1159], 0), (.iload_n 1, [], 0), (.dup2, [], 0), (.iaload, [], 0), (.iconst 1, [], 0), (.iadd, [], 0), (.iastore, [], 0), (.iinc 2 1, [], 0), (.goto (-93), [7], 0)])
  | 9 => (10, [(.aload_n 0, [], 0), (.iconst 0, [], 0), (.putfield 165, [11, 16, 0, 1172], 0), (.aload_n 0, [], 0), (.getfield 19, [11, 3, 2, 1159], 0), (.iload_n 1, [], 0), (.iaload, [], 0), (.ireturn, [0], 0)])
  | _ => (0, [])
def L_M_moves : Nat → List Bool := fun b => match b with
  | 0 => [true, true, false, false]
  | 1 => [false, false, false, false]
  | 2 => [true, true, false, false]
  | 3 => [false, false, false, false]
  | 4 => [true, true, false, false]
  | 5 => [false, false, false, false]
  | 6 => [true, true, false, false]
  | 7 => [true, true, true, false]
  | 8 => [true, true, true, false]
  | 9 => [true, true, false, false]
  | _ => []
def P_M_moves : List Nat := [0, 7, 10, 19, 22, 38, 41, 43, 51, 139]
def K_M_moves : KE := (⟨"NameReadersModel", "moves", "(I)I"⟩, prog_13_method_14_code, 4, (Option.some Jvm.ClassFile.FieldType.int), B_M_moves, L_M_moves, P_M_moves, [1379, 1377, 1378, 93, 0, 2])
def B_M_isMove : BT := fun b => match b with
  | 0 => (1, [(.iload_n 1, [], 0), (.invokestatic 155, [k_M_isReader, 1, 1330], 0), (.ifCond .eq 25, [3, 1], 0)])
  | 1 => (2, [(.iload_n 2, [], 0), (.i2l, [], 0), (.lconst 0, [], 0), (.aload_n 0, [], 0), (.getfield 19, [11, 3, 2, 1159], 0), (.iload_n 1, [], 0), (.iaload, [], 0), (.iconst 1, [], 0), (.isub, [], 0), (.i2l, [], 0), (.invokestatic 151, [k_M_in, 3, 1333], 0), (.ifCond .eq 7, [3, 2], 0)])
  | 2 => (3, [(.iconst 1, [], 0), (.goto 4, [4], 0)])
  | 3 => (4, [(.iconst 0, [], 0)])
  | 4 => (5, [(.ireturn, [1], 0)])
  | _ => (0, [])
def L_M_isMove : Nat → List Bool := fun b => match b with
  | 0 => [true, true, true]
  | 1 => [true, true, true]
  | 2 => [false, false, false]
  | 3 => [false, false, false]
  | 4 => [false, false, false]
  | _ => []
def P_M_isMove : List Nat := [0, 7, 25, 29, 30]
def K_M_isMove : KE := (⟨"NameReadersModel", "isMove", "(II)Z"⟩, prog_13_method_15_code, 3, (Option.some Jvm.ClassFile.FieldType.boolean), B_M_isMove, L_M_isMove, P_M_isMove, [1388, 1387, 46, 93, 0, 3])
def B_M_move : BT := fun b => match b with
  | 0 => (1, [(.aload_n 0, [], 0), (.iload_n 1, [], 0), (.iload_n 2, [], 0), (.invokevirtual 207, [k_M_isMove, 3, 11, 1385], 0), (.ifCond .ne 6, [2, 1], 0)])
  | 1 => (2, [(.bipush (-2), [], 0), (.ireturn, [0], 0)])
  | 2 => (3, [(.bipush 20, [], 0), (.iload_n 1, [], 0), (.imul, [], 0), (.iload_n 2, [], 0), (.iadd, [], 0), (.istore 4, [], 0), (.iload_n 3, [], 0), (.tableswitch 75 0 4 #[35, 43, 51, 59, 67], [8, 3, 4, 5, 6, 7], 0)])
  | 3 => (4, [(.aload_n 0, [], 0), (.getfield 22, [11, 4, 2, 1160], 0), (.iload 4, [], 0), (.iaload, [], 0), (.ireturn, [0], 0)])
  | 4 => (5, [(.aload_n 0, [], 0), (.getfield 25, [11, 5, 2, 1161], 0), (.iload 4, [], 0), (.iaload, [], 0), (.ireturn, [0], 0)])
  | 5 => (6, [(.aload_n 0, [], 0), (.getfield 28, [11, 6, 2, 1162], 0), (.iload 4, [], 0), (.iaload, [], 0), (.ireturn, [0], 0)])
  | 6 => (7, [(.aload_n 0, [], 0), (.getfield 31, [11, 7, 2, 1163], 0), (.iload 4, [], 0), (.iaload, [], 0), (.ireturn, [0], 0)])
  | 7 => (8, [(.aload_n 0, [], 0), (.getfield 34, [11, 8, 2, 1164], 0), (.iload 4, [], 0), (.iaload, [], 0), (.ireturn, [0], 0)])
  | 8 => (9, [(.bipush (-3), [], 0), (.ireturn, [0], 0)])
  | _ => (0, [])
def L_M_move : Nat → List Bool := fun b => match b with
  | 0 => [true, true, true, true, false]
  | 1 => [false, false, false, false, false]
  | 2 => [true, true, true, true, false]
  | 3 => [true, false, false, false, true]
  | 4 => [true, false, false, false, true]
  | 5 => [true, false, false, false, true]
  | 6 => [true, false, false, false, true]
  | 7 => [true, false, false, false, true]
  | 8 => [false, false, false, false, false]
  | _ => []
def P_M_move : List Nat := [0, 9, 12, 56, 64, 72, 80, 88, 96]
def K_M_move : KE := (⟨"NameReadersModel", "move", "(III)I"⟩, prog_13_method_16_code, 5, (Option.some Jvm.ClassFile.FieldType.int), B_M_move, L_M_move, P_M_move, [1384, 1382, 1383, 93, 0, 4])
def B_M_drop : BT := fun b => match b with
  | 0 => (1, [(.aload_n 0, [], 0), (.iload_n 1, [], 0), (.iload_n 2, [], 0), (.invokevirtual 207, [k_M_isMove, 3, 11, 1385], 0), (.ifCond .ne 6, [2, 1], 0)])
  | 1 => (2, [(.bipush (-2), [], 0), (.ireturn, [0], 0)])
  | 2 => (3, [(.aload_n 0, [], 0), (.getfield 19, [11, 3, 2, 1159], 0), (.iload_n 1, [], 0), (.dup2, [], 0), (.iaload, [], 0), (.iconst 1, [], 0), (.isub, [], 0), (.iastore, [], 0), (.bipush 20, [], 0), (.iload_n 1, [], 0), (.imul, [], 0), (.iload_n 2, [], 0), (.iadd, [], 0), (.istore_n 3, [], 0)])
  | 3 => (4, [(.iload_n 3, [], 0), (.bipush 20, [], 0), (.iload_n 1, [], 0), (.imul, [], 0), (.aload_n 0, [], 0), (.getfield 19, [11, 3, 2, 1159], 0), (.iload_n 1, [], 0), (.iaload, [], 0), (.iadd, [], 0), (.if_icmp .ge 79, [5, 4], 0)])
  | 4 => (5, [(.aload_n 0, [], 0), (.getfield 22, [11, 4, 2, 1160], 0), (.iload_n 3, [], 0), (.aload_n 0, [], 0), (.getfield 22, [11, 4, 2, 1160], 0), (.iload_n 3, [], 0), (.iconst 1, [], 0), (.iadd, [], 0), (.iaload, [], 0), (.iastore, [], 0), (.aload_n 0, [], 0), (.getfield 25, [11, 5, 2, 1161], 0), (.iload_n 3, [], 0), (.aload_n 0, [], 0), (.getfield 25, [11, 5, 2, 1161], 0), (.iload_n 3, [], 0), (.iconst 1, [], 0), (.iadd, [], 0), (.iaload, [], 0), (.iastore, [], 0), (.aload_n 0, [], 0), (.getfield 28, [11, 6, 2, 1162], 0), (.iload_n 3, [], 0), (.aload_n 0, [], 0), (.getfield 28, [11, 6, 2, 1162], 0), (.iload_n 3, [], 0), (.iconst 1, [], 0), (.iadd, [], 0), (.iaload, [], 0), (.iastore, [], 0), (.aload_n 0, [], 0), (.getfield 31, [11, 7, 2, 1163], 0), (.iload_n 3, [], 0), (.aload_n 0, [], 0), (.getfield 31, [11, 7, 2, 1163], 0), (.iload_n 3, [], 0), (.iconst 1, [], 0), (.iadd, [], 0), (.iaload, [], 0), (.iastore, [], 0), (.aload_n 0, [], 0), (.getfield 34, [11, 8, 2, 1164], 0), (.iload_n 3, [], 0), (.aload_n 0, [], 0), (.getfield 34, [11, 8, 2, 1164], 0), (.iload_n 3, [], 0), (.iconst 1, [], 0), (.iadd, [], 0), (.iaload, [], 0), (.iastore, [], 0), (.iinc 3 1, [], 0), (.goto (-88), [3], 0)])
  | 5 => (6, [(.aload_n 0, [], 0), (.getfield 19, [11, 3, 2, 1159], 0), (.iload_n 1, [], 0), (.iaload, [], 0), (.ireturn, [0], 0)])
  | _ => (0, [])
def L_M_drop : Nat → List Bool := fun b => match b with
  | 0 => [true, true, true, false]
  | 1 => [false, false, false, false]
  | 2 => [true, true, true, false]
  | 3 => [true, true, false, true]
  | 4 => [true, true, false, true]
  | 5 => [true, true, false, false]
  | _ => []
def P_M_drop : List Nat := [0, 9, 12, 29, 44, 120]
def K_M_drop : KE := (⟨"NameReadersModel", "drop", "(II)I"⟩, prog_13_method_17_code, 4, (Option.some Jvm.ClassFile.FieldType.int), B_M_drop, L_M_drop, P_M_drop, [1392, 1390, 1391, 93, 0, 3])
def B_M_isPair : BT := fun b => match b with
  | 0 => (1, [(.iload_n 0, [], 0), (.i2l, [], 0), (.ldc2_w 210, [1400], -1), (.ldc2_w 212, [1401], 2), (.invokestatic 151, [k_M_in, 3, 1333], 0), (.ifCond .eq 21, [3, 1], 0)])
  | 1 => (2, [(.iload_n 1, [], 0), (.i2l, [], 0), (.ldc2_w 210, [1400], -1), (.ldc2_w 214, [1402], 99), (.invokestatic 151, [k_M_in, 3, 1333], 0), (.ifCond .eq 7, [3, 2], 0)])
  | 2 => (3, [(.iconst 1, [], 0), (.goto 4, [4], 0)])
  | 3 => (4, [(.iconst 0, [], 0)])
  | 4 => (5, [(.ireturn, [1], 0)])
  | _ => (0, [])
def L_M_isPair : Nat → List Bool := fun b => match b with
  | 0 => [true, true]
  | 1 => [false, true]
  | 2 => [false, false]
  | 3 => [false, false]
  | 4 => [false, false]
  | _ => []
def P_M_isPair : List Nat := [0, 14, 28, 32, 33]
def K_M_isPair : KE := (⟨"NameReadersModel", "isPair", "(II)Z"⟩, prog_13_method_18_code, 2, (Option.some Jvm.ClassFile.FieldType.boolean), B_M_isPair, L_M_isPair, P_M_isPair, [1399, 1398, 0, 93, 1, 2])
def B_M_pair : BT := fun b => match b with
  | 0 => (1, [(.iload_n 1, [], 0), (.iload_n 2, [], 0), (.invokestatic 216, [k_M_isPair, 2, 1397], 0), (.ifCond .ne 6, [2, 1], 0)])
  | 1 => (2, [(.bipush (-3), [], 0), (.ireturn, [0], 0)])
  | 2 => (3, [(.aload_n 0, [], 0), (.getfield 219, [11, 19, 0, 1175], 0), (.bipush 12, [], 0), (.if_icmp .ne 6, [4, 3], 0)])
  | 3 => (4, [(.bipush (-5), [], 0), (.ireturn, [0], 0)])
  | 4 => (5, [(.aload_n 0, [], 0), (.getfield 55, [11, 17, 2, 1173], 0), (.aload_n 0, [], 0), (.getfield 219, [11, 19, 0, 1175], 0), (.iload_n 1, [], 0), (.iastore, [], 0), (.aload_n 0, [], 0), (.getfield 58, [11, 18, 2, 1174], 0), (.aload_n 0, [], 0), (.getfield 219, [11, 19, 0, 1175], 0), (.iload_n 2, [], 0), (.iastore, [], 0), (.aload_n 0, [], 0), (.dup, [], 0), (.getfield 219, [11, 19, 0, 1175], 0), (.iconst 1, [], 0), (.iadd, [], 0), (.putfield 219, [11, 19, 0, 1175], 0), (.aload_n 0, [], 0), (.getfield 219, [11, 19, 0, 1175], 0), (.ireturn, [0], 0)])
  | _ => (0, [])
def L_M_pair : Nat → List Bool := fun b => match b with
  | 0 => [true, true, true]
  | 1 => [false, false, false]
  | 2 => [true, true, true]
  | 3 => [false, false, false]
  | 4 => [true, true, true]
  | _ => []
def P_M_pair : List Nat := [0, 8, 11, 20, 23]
def K_M_pair : KE := (⟨"NameReadersModel", "pair", "(II)I"⟩, prog_13_method_19_code, 3, (Option.some Jvm.ClassFile.FieldType.int), B_M_pair, L_M_pair, P_M_pair, [1396, 1394, 1395, 93, 0, 3])
def B_M_change : BT := fun b => match b with
  | 0 => (1, [(.iload_n 1, [], 0), (.i2l, [], 0), (.lconst 0, [], 0), (.aload_n 0, [], 0), (.getfield 219, [11, 19, 0, 1175], 0), (.iconst 1, [], 0), (.isub, [], 0), (.i2l, [], 0), (.invokestatic 151, [k_M_in, 3, 1333], 0), (.ifCond .ne 6, [2, 1], 0)])
  | 1 => (2, [(.bipush (-2), [], 0), (.ireturn, [0], 0)])
  | 2 => (3, [(.iload_n 2, [], 0), (.iload_n 3, [], 0), (.invokestatic 216, [k_M_isPair, 2, 1397], 0), (.ifCond .ne 6, [4, 3], 0)])
  | 3 => (4, [(.bipush (-3), [], 0), (.ireturn, [0], 0)])
  | 4 => (5, [(.aload_n 0, [], 0), (.getfield 55, [11, 17, 2, 1173], 0), (.iload_n 1, [], 0), (.iload_n 2, [], 0), (.iastore, [], 0), (.aload_n 0, [], 0), (.getfield 58, [11, 18, 2, 1174], 0), (.iload_n 1, [], 0), (.iload_n 3, [], 0), (.iastore, [], 0), (.iconst 1, [], 0), (.ireturn, [0], 0)])
  | _ => (0, [])
def L_M_change : Nat → List Bool := fun b => match b with
  | 0 => [true, true, true, true]
  | 1 => [false, false, false, false]
  | 2 => [true, true, true, true]
  | 3 => [false, false, false, false]
  | 4 => [true, true, true, true]
  | _ => []
def P_M_change : List Nat := [0, 16, 19, 27, 30]
def K_M_change : KE := (⟨"NameReadersModel", "change", "(III)I"⟩, prog_13_method_20_code, 4, (Option.some Jvm.ClassFile.FieldType.int), B_M_change, L_M_change, P_M_change, [1406, 1404, 1405, 93, 0, 4])
def B_M_hush : BT := fun b => match b with
  | 0 => (1, [(.aload_n 0, [], 0), (.getfield 219, [11, 19, 0, 1175], 0), (.istore_n 1, [], 0), (.aload_n 0, [], 0), (.iconst 0, [], 0), (.putfield 219, [11, 19, 0, 1175], 0), (.iload_n 1, [], 0), (.ireturn, [0], 0)])
  | _ => (0, [])
def L_M_hush : Nat → List Bool := fun b => match b with
  | 0 => [true, false]
  | _ => []
def P_M_hush : List Nat := [0]
def K_M_hush : KE := (⟨"NameReadersModel", "hush", "()I"⟩, prog_13_method_21_code, 2, (Option.some Jvm.ClassFile.FieldType.int), B_M_hush, L_M_hush, P_M_hush, [1410, 1408, 1409, 93, 0, 1])
def B_M_isGap : BT := fun b => match b with
  | 0 => (1, [(.aload_n 0, [], 0), (.getfield 55, [11, 17, 2, 1173], 0), (.iload_n 1, [], 0), (.iaload, [], 0), (.iconst (-1), [], 0), (.if_icmp .eq 13, [2, 1], 0)])
  | 1 => (2, [(.aload_n 0, [], 0), (.getfield 58, [11, 18, 2, 1174], 0), (.iload_n 1, [], 0), (.iaload, [], 0), (.iconst (-1), [], 0), (.if_icmp .ne 7, [3, 2], 0)])
  | 2 => (3, [(.iconst 1, [], 0), (.goto 4, [4], 0)])
  | 3 => (4, [(.iconst 0, [], 0)])
  | 4 => (5, [(.ireturn, [1], 0)])
  | _ => (0, [])
def L_M_isGap : Nat → List Bool := fun b => match b with
  | 0 => [true, true]
  | 1 => [true, true]
  | 2 => [false, false]
  | 3 => [false, false]
  | 4 => [false, false]
  | _ => []
def P_M_isGap : List Nat := [0, 10, 20, 24, 25]
def K_M_isGap : KE := (⟨"NameReadersModel", "isGap", "(I)Z"⟩, prog_13_method_22_code, 2, (Option.some Jvm.ClassFile.FieldType.boolean), B_M_isGap, L_M_isGap, P_M_isGap, [1422, 1421, 48, 93, 0, 2])
def B_M_gapPairs : BT := fun b => match b with
  | 0 => (1, [(.iconst 0, [], 0), (.istore_n 1, [], 0), (.iconst 0, [], 0), (.istore_n 2, [], 0)])
  | 1 => (2, [(.iload_n 2, [], 0), (.aload_n 0, [], 0), (.getfield 219, [11, 19, 0, 1175], 0), (.if_icmp .ge 25, [6, 2], 0)])
  | 2 => (3, [(.iload_n 1, [], 0), (.aload_n 0, [], 0), (.iload_n 2, [], 0), (.invokevirtual 222, [k_M_isGap, 2, 11, 1419], 0), (.ifCond .eq 7, [4, 3], 0)])
  | 3 => (4, [(.iconst 1, [], 0), (.goto 4, [5], 0)])
  | 4 => (5, [(.iconst 0, [], 0)])
  | 5 => (6, [(.iadd, [], 0), (.istore_n 1, [], 0), (.iinc 2 1, [], 0), (.goto (-27), [1], 0)])
  | 6 => (7, [(.iload_n 1, [], 0), (.ireturn, [0], 0)])
  | _ => (0, [])
def L_M_gapPairs : Nat → List Bool := fun b => match b with
  | 0 => [true, false, false]
  | 1 => [true, true, true]
  | 2 => [true, true, true]
  | 3 => [true, false, true]
  | 4 => [true, false, true]
  | 5 => [true, false, true]
  | 6 => [false, true, false]
  | _ => []
def P_M_gapPairs : List Nat := [0, 4, 12, 21, 25, 26, 34]
def K_M_gapPairs : KE := (⟨"NameReadersModel", "gapPairs", "()I"⟩, prog_13_method_23_code, 3, (Option.some Jvm.ClassFile.FieldType.int), B_M_gapPairs, L_M_gapPairs, P_M_gapPairs, [1418, 1417, 47, 93, 0, 1])
def B_M_idOf : BT := fun b => match b with
  | 0 => (1, [(.iconst 0, [], 0), (.istore_n 2, [], 0), (.iconst 0, [], 0), (.istore_n 3, [], 0)])
  | 1 => (2, [(.iload_n 3, [], 0), (.aload_n 0, [], 0), (.getfield 225, [11, 24, 0, 1180], 0), (.if_icmp .ge 27, [6, 2], 0)])
  | 2 => (3, [(.aload_n 0, [], 0), (.getfield 61, [11, 23, 2, 1179], 0), (.iload_n 3, [], 0), (.iaload, [], 0), (.iload_n 1, [], 0), (.if_icmp .ne 9, [4, 3], 0)])
  | 3 => (4, [(.iload_n 3, [], 0), (.iconst 1, [], 0), (.iadd, [], 0), (.goto 4, [5], 0)])
  | 4 => (5, [(.iload_n 2, [], 0)])
  | 5 => (6, [(.istore_n 2, [], 0), (.iinc 3 1, [], 0), (.goto (-29), [1], 0)])
  | 6 => (7, [(.iload_n 2, [], 0), (.ireturn, [0], 0)])
  | _ => (0, [])
def L_M_idOf : Nat → List Bool := fun b => match b with
  | 0 => [true, true, false, false]
  | 1 => [true, true, true, true]
  | 2 => [true, true, true, true]
  | 3 => [true, true, false, true]
  | 4 => [true, true, true, true]
  | 5 => [true, true, false, true]
  | 6 => [false, false, true, false]
  | _ => []
def P_M_idOf : List Nat := [0, 4, 12, 22, 28, 29, 36]
def K_M_idOf : KE := (⟨"NameReadersModel", "idOf", "(I)I"⟩, prog_13_method_24_code, 4, (Option.some Jvm.ClassFile.FieldType.int), B_M_idOf, L_M_idOf, P_M_idOf, [1434, 1433, 51, 93, 0, 2])
def B_M_layNames : BT := fun b => match b with
  | 0 => (1, [(.aload_n 0, [], 0), (.iconst 0, [], 0), (.putfield 225, [11, 24, 0, 1180], 0), (.iconst 0, [], 0), (.istore_n 1, [], 0)])
  | 1 => (2, [(.iload_n 1, [], 0), (.aload_n 0, [], 0), (.getfield 219, [11, 19, 0, 1175], 0), (.if_icmp .ge 87, [9, 2], 0)])
  | 2 => (3, [(.aload_n 0, [], 0), (.getfield 58, [11, 18, 2, 1174], 0), (.iload_n 1, [], 0), (.iaload, [], 0), (.iconst (-1), [], 0), (.if_icmp .eq 41, [5, 3], 0)])
  | 3 => (4, [(.aload_n 0, [], 0), (.aload_n 0, [], 0), (.getfield 58, [11, 18, 2, 1174], 0), (.iload_n 1, [], 0), (.iaload, [], 0), (.invokevirtual 228, [k_M_idOf, 2, 11, 1431], 0), (.ifCond .ne 28, [5, 4], 0)])
  | 4 => (5, [(.aload_n 0, [], 0), (.getfield 61, [11, 23, 2, 1179], 0), (.aload_n 0, [], 0), (.getfield 225, [11, 24, 0, 1180], 0), (.aload_n 0, [], 0), (.getfield 58, [11, 18, 2, 1174], 0), (.iload_n 1, [], 0), (.iaload, [], 0), (.iastore, [], 0), (.aload_n 0, [], 0), (.dup, [], 0), (.getfield 225, [11, 24, 0, 1180], 0), (.iconst 1, [], 0), (.iadd, [], 0), (.putfield 225, [11, 24, 0, 1180], 0)])
  | 5 => (6, [(.aload_n 0, [], 0), (.getfield 64, [11, 25, 2, 1181], 0), (.iload_n 1, [], 0), (.aload_n 0, [], 0), (.getfield 58, [11, 18, 2, 1174], 0), (.iload_n 1, [], 0), (.iaload, [], 0), (.iconst (-1), [], 0), (.if_icmp .ne 7, [7, 6], 0)])
  | 6 => (7, [(.iconst 0, [], 0), (.goto 13, [8], 0)])
  | 7 => (8, [(.aload_n 0, [], 0), (.aload_n 0, [], 0), (.getfield 58, [11, 18, 2, 1174], 0), (.iload_n 1, [], 0), (.iaload, [], 0), (.invokevirtual 228, [k_M_idOf, 2, 11, 1431], 0)])
  | 8 => (9, [(.iastore, [], 0), (.iinc 1 1, [], 0), (.goto (-89), [1], 0)])
  | 9 => (10, [(.return_, [], 0)])
  | _ => (0, [])
def L_M_layNames : Nat → List Bool := fun b => match b with
  | 0 => [true, false]
  | 1 => [true, true]
  | 2 => [true, true]
  | 3 => [true, true]
  | 4 => [true, true]
  | 5 => [true, true]
  | 6 => [true, true]
  | 7 => [true, true]
  | 8 => [true, true]
  | 9 => [false, false]
  | _ => []
def P_M_layNames : List Nat := [0, 7, 15, 25, 38, 63, 78, 82, 92, 99]
def K_M_layNames : KE := (⟨"NameReadersModel", "layNames", "()V"⟩, prog_13_method_25_code, 2, (Option.none : Option Jvm.ClassFile.FieldType), B_M_layNames, L_M_layNames, P_M_layNames, [1430, 1429, 50, 93, 0, 1])
def B_M_heldIn : BT := fun b => match b with
  | 0 => (1, [(.iload_n 1, [], 0), (.ifCond .ne 13, [2, 1], 0)])
  | 1 => (2, [(.iload_n 0, [], 0), (.bipush 6, [], 0), (.idiv, [], 0), (.bipush 17, [], 0), (.irem, [], 0), (.goto 23, [5], 0)])
  | 2 => (3, [(.iload_n 1, [], 0), (.iconst 1, [], 0), (.if_icmp .ne 13, [4, 3], 0)])
  | 3 => (4, [(.iload_n 0, [], 0), (.bipush 102, [], 0), (.idiv, [], 0), (.bipush 17, [], 0), (.irem, [], 0), (.goto 8, [5], 0)])
  | 4 => (5, [(.iload_n 0, [], 0), (.sipush 1734, [], 0), (.idiv, [], 0)])
  | 5 => (6, [(.ireturn, [0], 0)])
  | _ => (0, [])
def L_M_heldIn : Nat → List Bool := fun b => match b with
  | 0 => [true, true]
  | 1 => [true, false]
  | 2 => [true, true]
  | 3 => [true, false]
  | 4 => [true, false]
  | 5 => [false, false]
  | _ => []
def P_M_heldIn : List Nat := [0, 4, 14, 19, 29, 34]
def K_M_heldIn : KE := (⟨"NameReadersModel", "heldIn", "(II)I"⟩, prog_13_method_26_code, 2, (Option.some Jvm.ClassFile.FieldType.int), B_M_heldIn, L_M_heldIn, P_M_heldIn, [1449, 1448, 0, 93, 1, 2])
def B_M_can : BT := fun b => match b with
  | 0 => (1, [(.aload_n 0, [], 0), (.getfield 22, [11, 4, 2, 1160], 0), (.iload_n 1, [], 0), (.iaload, [], 0), (.iload_n 2, [], 0), (.bipush 6, [], 0), (.irem, [], 0), (.if_icmp .ne 13, [2, 1], 0)])
  | 1 => (2, [(.aload_n 0, [], 0), (.getfield 25, [11, 5, 2, 1161], 0), (.iload_n 1, [], 0), (.iaload, [], 0), (.iload_n 3, [], 0), (.if_icmp .eq 5, [3, 2], 0)])
  | 2 => (3, [(.iconst 0, [], 0), (.ireturn, [1], 0)])
  | 3 => (4, [(.aload_n 0, [], 0), (.getfield 28, [11, 6, 2, 1162], 0), (.iload_n 1, [], 0), (.iaload, [], 0), (.iconst 4, [], 0), (.if_icmp .ne 5, [5, 4], 0)])
  | 4 => (5, [(.iconst 1, [], 0), (.ireturn, [1], 0)])
  | 5 => (6, [(.aload_n 0, [], 0), (.getfield 28, [11, 6, 2, 1162], 0), (.iload_n 1, [], 0), (.iaload, [], 0), (.iconst 3, [], 0), (.if_icmp .ne 39, [12, 6], 0)])
  | 6 => (7, [(.iload_n 2, [], 0), (.iconst 0, [], 0), (.invokestatic 231, [k_M_heldIn, 2, 1447], 0), (.iload 4, [], 0), (.if_icmp .eq 27, [10, 7], 0)])
  | 7 => (8, [(.iload_n 2, [], 0), (.iconst 1, [], 0), (.invokestatic 231, [k_M_heldIn, 2, 1447], 0), (.iload 4, [], 0), (.if_icmp .eq 17, [10, 8], 0)])
  | 8 => (9, [(.iload_n 2, [], 0), (.iconst 2, [], 0), (.invokestatic 231, [k_M_heldIn, 2, 1447], 0), (.iload 4, [], 0), (.if_icmp .eq 7, [10, 9], 0)])
  | 9 => (10, [(.iconst 1, [], 0), (.goto 4, [11], 0)])
  | 10 => (11, [(.iconst 0, [], 0)])
  | 11 => (12, [(.ireturn, [1], 0)])
  | 12 => (13, [(.iload_n 2, [], 0), (.aload_n 0, [], 0), (.getfield 28, [11, 6, 2, 1162], 0), (.iload_n 1, [], 0), (.iaload, [], 0), (.invokestatic 231, [k_M_heldIn, 2, 1447], 0), (.iload 4, [], 0), (.if_icmp .ne 7, [14, 13], 0)])
  | 13 => (14, [(.iconst 1, [], 0), (.goto 4, [15], 0)])
  | 14 => (15, [(.iconst 0, [], 0)])
  | 15 => (16, [(.ireturn, [1], 0)])
  | _ => (0, [])
def L_M_can : Nat → List Bool := fun b => match b with
  | 0 => [true, true, true, true, true]
  | 1 => [true, true, true, true, true]
  | 2 => [false, false, false, false, false]
  | 3 => [true, true, true, false, true]
  | 4 => [false, false, false, false, false]
  | 5 => [true, true, true, false, true]
  | 6 => [false, false, true, false, true]
  | 7 => [false, false, true, false, true]
  | 8 => [false, false, true, false, true]
  | 9 => [false, false, false, false, false]
  | 10 => [false, false, false, false, false]
  | 11 => [false, false, false, false, false]
  | 12 => [true, true, true, false, true]
  | 13 => [false, false, false, false, false]
  | 14 => [false, false, false, false, false]
  | 15 => [false, false, false, false, false]
  | _ => []
def P_M_can : List Nat := [0, 13, 23, 25, 35, 37, 47, 57, 67, 77, 81, 82, 83, 98, 102, 103]
def K_M_can : KE := (⟨"NameReadersModel", "can", "(IIII)Z"⟩, prog_13_method_27_code, 5, (Option.some Jvm.ClassFile.FieldType.boolean), B_M_can, L_M_can, P_M_can, [1446, 1445, 54, 93, 0, 5])
def B_M_behind : BT := fun b => match b with
  | 0 => (1, [(.aload_n 0, [], 0), (.getfield 31, [11, 7, 2, 1163], 0), (.iload_n 1, [], 0), (.iaload, [], 0), (.ifCond .ne 7, [2, 1], 0)])
  | 1 => (2, [(.iload_n 3, [], 0), (.goto 8, [3], 0)])
  | 2 => (3, [(.iload_n 2, [], 0), (.iconst 0, [], 0), (.invokestatic 231, [k_M_heldIn, 2, 1447], 0)])
  | 3 => (4, [(.istore 4, [], 0), (.aload_n 0, [], 0), (.getfield 31, [11, 7, 2, 1163], 0), (.iload_n 1, [], 0), (.iaload, [], 0), (.iconst 1, [], 0), (.if_icmp .ne 7, [5, 4], 0)])
  | 4 => (5, [(.iload_n 3, [], 0), (.goto 8, [6], 0)])
  | 5 => (6, [(.iload_n 2, [], 0), (.iconst 1, [], 0), (.invokestatic 231, [k_M_heldIn, 2, 1447], 0)])
  | 6 => (7, [(.istore 5, [], 0), (.aload_n 0, [], 0), (.getfield 31, [11, 7, 2, 1163], 0), (.iload_n 1, [], 0), (.iaload, [], 0), (.iconst 2, [], 0), (.if_icmp .ne 7, [8, 7], 0)])
  | 7 => (8, [(.iload_n 3, [], 0), (.goto 8, [9], 0)])
  | 8 => (9, [(.iload_n 2, [], 0), (.iconst 2, [], 0), (.invokestatic 231, [k_M_heldIn, 2, 1447], 0)])
  | 9 => (10, [(.istore 6, [], 0), (.aload_n 0, [], 0), (.getfield 34, [11, 8, 2, 1164], 0), (.iload_n 1, [], 0), (.iaload, [], 0), (.bipush 6, [], 0), (.iload 4, [], 0), (.imul, [], 0), (.iadd, [], 0), (.bipush 102, [], 0), (.iload 5, [], 0), (.imul, [], 0), (.iadd, [], 0), (.sipush 1734, [], 0), (.iload 6, [], 0), (.imul, [], 0), (.iadd, [], 0), (.ireturn, [0], 0)])
  | _ => (0, [])
def L_M_behind : Nat → List Bool := fun b => match b with
  | 0 => [true, true, true, true, false, false, false]
  | 1 => [true, true, true, true, false, false, false]
  | 2 => [true, true, true, true, false, false, false]
  | 3 => [true, true, true, true, false, false, false]
  | 4 => [true, true, true, true, true, false, false]
  | 5 => [true, true, true, true, true, false, false]
  | 6 => [true, true, true, true, true, false, false]
  | 7 => [true, true, false, true, true, true, false]
  | 8 => [true, true, true, false, true, true, false]
  | 9 => [true, true, false, false, true, true, false]
  | _ => []
def P_M_behind : List Nat := [0, 9, 13, 18, 30, 34, 39, 51, 55, 60]
def K_M_behind : KE := (⟨"NameReadersModel", "behind", "(III)I"⟩, prog_13_method_28_code, 7, (Option.some Jvm.ClassFile.FieldType.int), B_M_behind, L_M_behind, P_M_behind, [1453, 1452, 55, 93, 0, 4])
def B_M_isTaken : BT := fun b => match b with
  | 0 => (1, [(.aload_n 0, [], 0), (.getfield 16, [11, 2, 2, 1158], 0), (.iload_n 1, [], 0), (.iaload, [], 0), (.iload_n 2, [], 0), (.bipush 6, [], 0), (.irem, [], 0), (.ishr, [], 0), (.iconst 1, [], 0), (.iand, [], 0), (.iconst 1, [], 0), (.if_icmp .ne 7, [2, 1], 0)])
  | 1 => (2, [(.iconst 1, [], 0), (.goto 4, [3], 0)])
  | 2 => (3, [(.iconst 0, [], 0)])
  | 3 => (4, [(.ireturn, [1], 0)])
  | _ => (0, [])
def L_M_isTaken : Nat → List Bool := fun b => match b with
  | 0 => [true, true, true]
  | 1 => [false, false, false]
  | 2 => [false, false, false]
  | 3 => [false, false, false]
  | _ => []
def P_M_isTaken : List Nat := [0, 17, 21, 22]
def K_M_isTaken : KE := (⟨"NameReadersModel", "isTaken", "(II)Z"⟩, prog_13_method_29_code, 3, (Option.some Jvm.ClassFile.FieldType.boolean), B_M_isTaken, L_M_isTaken, P_M_isTaken, [1461, 1460, 57, 93, 0, 3])
def B_M_goOn : BT := fun b => match b with
  | 0 => (1, [(.aload_n 0, [], 0), (.dup, [], 0), (.getfield 235, [11, 29, 0, 1185], 0), (.iconst 1, [], 0), (.iadd, [], 0), (.putfield 235, [11, 29, 0, 1185], 0), (.iconst 0, [], 0), (.istore 5, [], 0), (.iconst 0, [], 0), (.istore 6, [], 0)])
  | 1 => (2, [(.iload 6, [], 0), (.aload_n 0, [], 0), (.getfield 71, [11, 27, 2, 1183], 0), (.iload_n 2, [], 0), (.iaload, [], 0), (.if_icmp .ge 123, [9, 2], 0)])
  | 2 => (3, [(.aload_n 0, [], 0), (.getfield 68, [11, 26, 2, 1182], 0), (.sipush 24600, [], 0), (.iload_n 2, [], 0), (.imul, [], 0), (.iload 6, [], 0), (.iadd, [], 0), (.iaload, [], 0), (.istore 7, [], 0), (.bipush 20, [], 0), (.iload_n 1, [], 0), (.imul, [], 0), (.istore 8, [], 0)])
  | 3 => (4, [(.iload 8, [], 0), (.bipush 20, [], 0), (.iload_n 1, [], 0), (.imul, [], 0), (.aload_n 0, [], 0), (.getfield 19, [11, 3, 2, 1159], 0), (.iload_n 1, [], 0), (.iaload, [], 0), (.iadd, [], 0), (.if_icmp .ge 80, [8, 4], 0)])
  | 4 => (5, [(.aload_n 0, [], 0), (.iload 8, [], 0), (.iload 7, [], 0), (.iload_n 3, [], 0), (.iload 4, [], 0), (.invokevirtual 238, [k_M_can, 5, 11, 1443], 0), (.ifCond .eq 60, [7, 5], 0)])
  | 5 => (6, [(.aload_n 0, [], 0), (.iload 8, [], 0), (.iload 7, [], 0), (.iload 4, [], 0), (.invokevirtual 242, [k_M_behind, 4, 11, 1450], 0), (.istore 9, [], 0), (.aload_n 0, [], 0), (.getfield 74, [11, 28, 2, 1184], 0), (.iload 9, [], 0), (.iaload, [], 0), (.aload_n 0, [], 0), (.getfield 235, [11, 29, 0, 1185], 0), (.if_icmp .eq 34, [7, 6], 0)])
  | 6 => (7, [(.aload_n 0, [], 0), (.getfield 74, [11, 28, 2, 1184], 0), (.iload 9, [], 0), (.aload_n 0, [], 0), (.getfield 235, [11, 29, 0, 1185], 0), (.iastore, [], 0), (.aload_n 0, [], 0), (.getfield 68, [11, 26, 2, 1182], 0), (.sipush 24600, [], 0), (.iload_n 2, [], 0), (.iconst 1, [], 0), (.iadd, [], 0), (.imul, [], 0), (.iload 5, [], 0), (.iadd, [], 0), (.iload 9, [], 0), (.iastore, [], 0), (.iinc 5 1, [], 0)])
  | 7 => (8, [(.iinc 8 1, [], 0), (.goto (-90), [3], 0)])
  | 8 => (9, [(.iinc 6 1, [], 0), (.goto (-128), [1], 0)])
  | 9 => (10, [(.aload_n 0, [], 0), (.getfield 71, [11, 27, 2, 1183], 0), (.iload_n 2, [], 0), (.iconst 1, [], 0), (.iadd, [], 0), (.iload 5, [], 0), (.iastore, [], 0), (.return_, [], 0)])
  | _ => (0, [])
def L_M_goOn : Nat → List Bool := fun b => match b with
  | 0 => [true, true, true, true, true, false, false, false, false, false]
  | 1 => [true, true, true, true, true, true, true, false, false, false]
  | 2 => [true, true, true, true, true, true, true, false, false, false]
  | 3 => [true, true, true, true, true, true, true, true, true, false]
  | 4 => [true, true, true, true, true, true, true, true, true, false]
  | 5 => [true, true, true, true, true, true, true, true, true, false]
  | 6 => [true, true, true, true, true, true, true, true, true, true]
  | 7 => [true, true, true, true, true, true, true, true, true, false]
  | 8 => [true, true, true, true, true, true, true, false, false, false]
  | 9 => [true, false, true, false, false, true, false, false, false, false]
  | _ => []
def P_M_goOn : List Nat := [0, 16, 27, 48, 64, 78, 104, 135, 141, 147]
def K_M_goOn : KE := (⟨"NameReadersModel", "goOn", "(IIII)V"⟩, prog_13_method_30_code, 10, (Option.none : Option Jvm.ClassFile.FieldType), B_M_goOn, L_M_goOn, P_M_goOn, [1442, 1441, 53, 93, 0, 5])
def B_M_beginList : BT := fun b => match b with
  | 0 => (1, [(.aload_n 0, [], 0), (.getfield 68, [11, 26, 2, 1182], 0), (.iconst 0, [], 0), (.iconst 0, [], 0), (.iastore, [], 0), (.aload_n 0, [], 0), (.getfield 71, [11, 27, 2, 1183], 0), (.iconst 0, [], 0), (.iconst 1, [], 0), (.iastore, [], 0), (.return_, [], 0)])
  | _ => (0, [])
def L_M_beginList : Nat → List Bool := fun b => match b with
  | 0 => [true]
  | _ => []
def P_M_beginList : List Nat := [0]
def K_M_beginList : KE := (⟨"NameReadersModel", "beginList", "()V"⟩, prog_13_method_31_code, 1, (Option.none : Option Jvm.ClassFile.FieldType), B_M_beginList, L_M_beginList, P_M_beginList, [1438, 1437, 52, 93, 0, 1])
def B_M_takesList : BT := fun b => match b with
  | 0 => (1, [(.iconst 0, [], 0), (.istore_n 3, [], 0), (.iconst 0, [], 0), (.istore 4, [], 0)])
  | 1 => (2, [(.iload 4, [], 0), (.aload_n 0, [], 0), (.getfield 71, [11, 27, 2, 1183], 0), (.iload_n 2, [], 0), (.iaload, [], 0), (.if_icmp .ge 40, [7, 2], 0)])
  | 2 => (3, [(.iload_n 3, [], 0), (.ifCond .ne 24, [4, 3], 0)])
  | 3 => (4, [(.aload_n 0, [], 0), (.iload_n 1, [], 0), (.aload_n 0, [], 0), (.getfield 68, [11, 26, 2, 1182], 0), (.sipush 24600, [], 0), (.iload_n 2, [], 0), (.imul, [], 0), (.iload 4, [], 0), (.iadd, [], 0), (.iaload, [], 0), (.invokevirtual 246, [k_M_isTaken, 3, 11, 1458], 0), (.ifCond .eq 7, [5, 4], 0)])
  | 4 => (5, [(.iconst 1, [], 0), (.goto 4, [6], 0)])
  | 5 => (6, [(.iconst 0, [], 0)])
  | 6 => (7, [(.istore_n 3, [], 0), (.iinc 4 1, [], 0), (.goto (-45), [1], 0)])
  | 7 => (8, [(.iload_n 3, [], 0), (.ireturn, [1], 0)])
  | _ => (0, [])
def L_M_takesList : Nat → List Bool := fun b => match b with
  | 0 => [true, true, true, false, false]
  | 1 => [true, true, true, true, true]
  | 2 => [true, true, true, true, true]
  | 3 => [true, true, true, false, true]
  | 4 => [true, true, true, false, true]
  | 5 => [true, true, true, false, true]
  | 6 => [true, true, true, false, true]
  | 7 => [false, false, false, true, false]
  | _ => []
def P_M_takesList : List Nat := [0, 5, 16, 20, 41, 45, 46, 53]
def K_M_takesList : KE := (⟨"NameReadersModel", "takesList", "(II)Z"⟩, prog_13_method_32_code, 5, (Option.some Jvm.ClassFile.FieldType.boolean), B_M_takesList, L_M_takesList, P_M_takesList, [1457, 1456, 56, 93, 0, 3])
def B_M_goAll : BT := fun b => match b with
  | 0 => (1, [(.aload_n 0, [], 0), (.invokevirtual 249, [k_M_layNames, 1, 11, 1427], 0), (.aload_n 0, [], 0), (.invokevirtual 252, [k_M_beginList, 1, 11, 1435], 0), (.iconst 0, [], 0), (.istore_n 2, [], 0)])
  | 1 => (2, [(.iload_n 2, [], 0), (.aload_n 0, [], 0), (.getfield 219, [11, 19, 0, 1175], 0), (.if_icmp .ge 27, [3, 2], 0)])
  | 2 => (3, [(.aload_n 0, [], 0), (.iload_n 1, [], 0), (.iload_n 2, [], 0), (.aload_n 0, [], 0), (.getfield 55, [11, 17, 2, 1173], 0), (.iload_n 2, [], 0), (.iaload, [], 0), (.aload_n 0, [], 0), (.getfield 64, [11, 25, 2, 1181], 0), (.iload_n 2, [], 0), (.iaload, [], 0), (.invokevirtual 255, [k_M_goOn, 5, 11, 1439], 0), (.iinc 2 1, [], 0), (.goto (-29), [1], 0)])
  | 3 => (4, [(.return_, [], 0)])
  | _ => (0, [])
def L_M_goAll : Nat → List Bool := fun b => match b with
  | 0 => [true, true, false]
  | 1 => [true, true, true]
  | 2 => [true, true, true]
  | 3 => [false, false, false]
  | _ => []
def P_M_goAll : List Nat := [0, 10, 18, 42]
def K_M_goAll : KE := (⟨"NameReadersModel", "goAll", "(I)V"⟩, prog_13_method_33_code, 3, (Option.none : Option Jvm.ClassFile.FieldType), B_M_goAll, L_M_goAll, P_M_goAll, [1426, 1425, 49, 93, 0, 2])
def B_M_taken : BT := fun b => match b with
  | 0 => (1, [(.iload_n 1, [], 0), (.invokestatic 155, [k_M_isReader, 1, 1330], 0), (.ifCond .ne 6, [2, 1], 0)])
  | 1 => (2, [(.bipush (-2), [], 0), (.ireturn, [0], 0)])
  | 2 => (3, [(.aload_n 0, [], 0), (.invokevirtual 259, [k_M_gapPairs, 1, 11, 1415], 0), (.ifCond .le 6, [4, 3], 0)])
  | 3 => (4, [(.bipush (-4), [], 0), (.ireturn, [0], 0)])
  | 4 => (5, [(.aload_n 0, [], 0), (.iload_n 1, [], 0), (.invokevirtual 263, [k_M_goAll, 2, 11, 1423], 0), (.aload_n 0, [], 0), (.iload_n 1, [], 0), (.aload_n 0, [], 0), (.getfield 219, [11, 19, 0, 1175], 0), (.invokevirtual 267, [k_M_takesList, 3, 11, 1454], 0), (.ifCond .eq 7, [6, 5], 0)])
  | 5 => (6, [(.iconst 1, [], 0), (.goto 4, [7], 0)])
  | 6 => (7, [(.iconst 0, [], 0)])
  | 7 => (8, [(.ireturn, [0], 0)])
  | _ => (0, [])
def L_M_taken : Nat → List Bool := fun b => match b with
  | 0 => [true, true]
  | 1 => [false, false]
  | 2 => [true, true]
  | 3 => [false, false]
  | 4 => [true, true]
  | 5 => [false, false]
  | 6 => [false, false]
  | 7 => [false, false]
  | _ => []
def P_M_taken : List Nat := [0, 7, 10, 17, 20, 37, 41, 42]
def K_M_taken : KE := (⟨"NameReadersModel", "taken", "(I)I"⟩, prog_13_method_34_code, 2, (Option.some Jvm.ClassFile.FieldType.int), B_M_taken, L_M_taken, P_M_taken, [1414, 1412, 1413, 93, 0, 2])
def B_M_may : BT := fun b => match b with
  | 0 => (1, [(.iload_n 1, [], 0), (.invokestatic 155, [k_M_isReader, 1, 1330], 0), (.ifCond .ne 6, [2, 1], 0)])
  | 1 => (2, [(.bipush (-2), [], 0), (.ireturn, [0], 0)])
  | 2 => (3, [(.iload_n 2, [], 0), (.i2l, [], 0), (.lconst 0, [], 0), (.aload_n 0, [], 0), (.getfield 219, [11, 19, 0, 1175], 0), (.i2l, [], 0), (.invokestatic 151, [k_M_in, 3, 1333], 0), (.ifCond .ne 6, [4, 3], 0)])
  | 3 => (4, [(.bipush (-3), [], 0), (.ireturn, [0], 0)])
  | 4 => (5, [(.aload_n 0, [], 0), (.invokevirtual 259, [k_M_gapPairs, 1, 11, 1415], 0), (.ifCond .le 6, [6, 5], 0)])
  | 5 => (6, [(.bipush (-4), [], 0), (.ireturn, [0], 0)])
  | 6 => (7, [(.aload_n 0, [], 0), (.iload_n 1, [], 0), (.invokevirtual 263, [k_M_goAll, 2, 11, 1423], 0), (.iconst 0, [], 0), (.istore_n 3, [], 0), (.iconst 0, [], 0), (.istore 4, [], 0)])
  | 7 => (8, [(.iload 4, [], 0), (.aload_n 0, [], 0), (.getfield 71, [11, 27, 2, 1183], 0), (.iload_n 2, [], 0), (.iaload, [], 0), (.if_icmp .ge 30, [9, 8], 0)])
  | 8 => (9, [(.iload_n 3, [], 0), (.iconst 1, [], 0), (.aload_n 0, [], 0), (.getfield 68, [11, 26, 2, 1182], 0), (.sipush 24600, [], 0), (.iload_n 2, [], 0), (.imul, [], 0), (.iload 4, [], 0), (.iadd, [], 0), (.iaload, [], 0), (.bipush 6, [], 0), (.irem, [], 0), (.ishl, [], 0), (.ior, [], 0), (.istore_n 3, [], 0), (.iinc 4 1, [], 0), (.goto (-35), [7], 0)])
  | 9 => (10, [(.iload_n 3, [], 0), (.ireturn, [0], 0)])
  | _ => (0, [])
def L_M_may : Nat → List Bool := fun b => match b with
  | 0 => [true, true, true, false, false]
  | 1 => [false, false, false, false, false]
  | 2 => [true, true, true, false, false]
  | 3 => [false, false, false, false, false]
  | 4 => [true, true, true, false, false]
  | 5 => [false, false, false, false, false]
  | 6 => [true, true, true, false, false]
  | 7 => [true, false, true, true, true]
  | 8 => [true, false, true, true, true]
  | 9 => [false, false, false, true, false]
  | _ => []
def P_M_may : List Nat := [0, 7, 10, 24, 27, 34, 37, 47, 58, 85]
def K_M_may : KE := (⟨"NameReadersModel", "may", "(II)I"⟩, prog_13_method_35_code, 5, (Option.some Jvm.ClassFile.FieldType.int), B_M_may, L_M_may, P_M_may, [1465, 1463, 1464, 93, 0, 3])
def B_M_runs : BT := fun b => match b with
  | 0 => (1, [(.iload_n 1, [], 0), (.invokestatic 155, [k_M_isReader, 1, 1330], 0), (.ifCond .ne 6, [2, 1], 0)])
  | 1 => (2, [(.bipush (-2), [], 0), (.ireturn, [0], 0)])
  | 2 => (3, [(.aload_n 0, [], 0), (.invokevirtual 259, [k_M_gapPairs, 1, 11, 1415], 0), (.ifCond .le 6, [4, 3], 0)])
  | 3 => (4, [(.bipush (-4), [], 0), (.ireturn, [0], 0)])
  | 4 => (5, [(.aload_n 0, [], 0), (.iload_n 1, [], 0), (.invokevirtual 263, [k_M_goAll, 2, 11, 1423], 0), (.iconst 0, [], 0), (.istore_n 2, [], 0)])
  | 5 => (6, [(.iload_n 2, [], 0), (.sipush 29478, [], 0), (.if_icmp .ge 23, [7, 6], 0)])
  | 6 => (7, [(.aload_n 0, [], 0), (.getfield 77, [11, 30, 2, 1186], 0), (.iload_n 2, [], 0), (.lconst 0, [], 0), (.lastore, [], 0), (.aload_n 0, [], 0), (.getfield 81, [11, 31, 2, 1187], 0), (.iload_n 2, [], 0), (.lconst 0, [], 0), (.lastore, [], 0), (.iinc 2 1, [], 0), (.goto (-24), [5], 0)])
  | 7 => (8, [(.aload_n 0, [], 0), (.getfield 77, [11, 30, 2, 1186], 0), (.iconst 0, [], 0), (.lconst 1, [], 0), (.lastore, [], 0), (.iconst 0, [], 0), (.istore_n 2, [], 0)])
  | 8 => (9, [(.iload_n 2, [], 0), (.aload_n 0, [], 0), (.getfield 219, [11, 19, 0, 1175], 0), (.if_icmp .ge 252, [27, 9], 0)])
  | 9 => (10, [(.iconst 0, [], 0), (.istore_n 3, [], 0)])
  | 10 => (11, [(.iload_n 3, [], 0), (.aload_n 0, [], 0), (.getfield 71, [11, 27, 2, 1183], 0), (.iload_n 2, [], 0), (.iaload, [], 0), (.if_icmp .ge 140, [20, 11], 0)])
  | 11 => (12, [(.aload_n 0, [], 0), (.getfield 68, [11, 26, 2, 1182], 0), (.sipush 24600, [], 0), (.iload_n 2, [], 0), (.imul, [], 0), (.iload_n 3, [], 0), (.iadd, [], 0), (.iaload, [], 0), (.istore 4, [], 0), (.bipush 20, [], 0), (.iload_n 1, [], 0), (.imul, [], 0), (.istore 5, [], 0)])
  | 12 => (13, [(.iload 5, [], 0), (.bipush 20, [], 0), (.iload_n 1, [], 0), (.imul, [], 0), (.aload_n 0, [], 0), (.getfield 19, [11, 3, 2, 1159], 0), (.iload_n 1, [], 0), (.iaload, [], 0), (.iadd, [], 0), (.if_icmp .ge 98, [19, 13], 0)])
  | 13 => (14, [(.aload_n 0, [], 0), (.iload 5, [], 0), (.iload 4, [], 0), (.aload_n 0, [], 0), (.getfield 55, [11, 17, 2, 1173], 0), (.iload_n 2, [], 0), (.iaload, [], 0), (.aload_n 0, [], 0), (.getfield 64, [11, 25, 2, 1181], 0), (.iload_n 2, [], 0), (.iaload, [], 0), (.invokevirtual 238, [k_M_can, 5, 11, 1443], 0), (.ifCond .eq 69, [18, 14], 0)])
  | 14 => (15, [(.aload_n 0, [], 0), (.iload 5, [], 0), (.iload 4, [], 0), (.aload_n 0, [], 0), (.getfield 64, [11, 25, 2, 1181], 0), (.iload_n 2, [], 0), (.iaload, [], 0), (.invokevirtual 242, [k_M_behind, 4, 11, 1450], 0), (.istore 6, [], 0), (.aload_n 0, [], 0), (.getfield 81, [11, 31, 2, 1187], 0), (.iload 6, [], 0), (.aload_n 0, [], 0), (.getfield 81, [11, 31, 2, 1187], 0), (.iload 6, [], 0), (.laload, [], 0), (.aload_n 0, [], 0), (.getfield 77, [11, 30, 2, 1186], 0), (.iload 4, [], 0), (.laload, [], 0), (.ladd, [], 0), (.ldc2_w 270, [1470], 1000000001), (.lcmp, [], 0), (.ifCond .le 9, [16, 15], 0)])
  | 15 => (16, [(.ldc2_w 270, [1470], 1000000001), (.goto 18, [17], 0)])
  | 16 => (17, [(.aload_n 0, [], 0), (.getfield 81, [11, 31, 2, 1187], 0), (.iload 6, [], 0), (.laload, [], 0), (.aload_n 0, [], 0), (.getfield 77, [11, 30, 2, 1186], 0), (.iload 4, [], 0), (.laload, [], 0), (.ladd, [], 0)])
  | 17 => (18, [(.lastore, [], 0)])
  | 18 => (19, [(.iinc 5 1, [], 0), (.goto (-108), [12], 0)])
  | 19 => (20, [(.iinc 3 1, [], 0), (.goto (-144), [10], 0)])
  | 20 => (21, [(.iconst 0, [], 0), (.istore_n 3, [], 0)])
  | 21 => (22, [(.iload_n 3, [], 0), (.aload_n 0, [], 0), (.getfield 71, [11, 27, 2, 1183], 0), (.iload_n 2, [], 0), (.iaload, [], 0), (.if_icmp .ge 27, [23, 22], 0)])
  | 22 => (23, [(.aload_n 0, [], 0), (.getfield 77, [11, 30, 2, 1186], 0), (.aload_n 0, [], 0), (.getfield 68, [11, 26, 2, 1182], 0), (.sipush 24600, [], 0), (.iload_n 2, [], 0), (.imul, [], 0), (.iload_n 3, [], 0), (.iadd, [], 0), (.iaload, [], 0), (.lconst 0, [], 0), (.lastore, [], 0), (.iinc 3 1, [], 0), (.goto (-31), [21], 0)])
  | 23 => (24, [(.iconst 0, [], 0), (.istore_n 3, [], 0)])
  | 24 => (25, [(.iload_n 3, [], 0), (.aload_n 0, [], 0), (.getfield 71, [11, 27, 2, 1183], 0), (.iload_n 2, [], 0), (.iconst 1, [], 0), (.iadd, [], 0), (.iaload, [], 0), (.if_icmp .ge 47, [26, 25], 0)])
  | 25 => (26, [(.aload_n 0, [], 0), (.getfield 68, [11, 26, 2, 1182], 0), (.sipush 24600, [], 0), (.iload_n 2, [], 0), (.iconst 1, [], 0), (.iadd, [], 0), (.imul, [], 0), (.iload_n 3, [], 0), (.iadd, [], 0), (.iaload, [], 0), (.istore 4, [], 0), (.aload_n 0, [], 0), (.getfield 77, [11, 30, 2, 1186], 0), (.iload 4, [], 0), (.aload_n 0, [], 0), (.getfield 81, [11, 31, 2, 1187], 0), (.iload 4, [], 0), (.laload, [], 0), (.lastore, [], 0), (.aload_n 0, [], 0), (.getfield 81, [11, 31, 2, 1187], 0), (.iload 4, [], 0), (.lconst 0, [], 0), (.lastore, [], 0), (.iinc 3 1, [], 0), (.goto (-53), [24], 0)])
  | 26 => (27, [(.iinc 2 1, [], 0), (.goto (-254), [8], 0)])
  | 27 => (28, [(.lconst 0, [], 0), (.lstore_n 2, [], 0), (.iconst 0, [], 0), (.istore 4, [], 0)])
  | 28 => (29, [(.iload 4, [], 0), (.aload_n 0, [], 0), (.getfield 71, [11, 27, 2, 1183], 0), (.aload_n 0, [], 0), (.getfield 219, [11, 19, 0, 1175], 0), (.iaload, [], 0), (.if_icmp .ge 67, [36, 29], 0)])
  | 29 => (30, [(.aload_n 0, [], 0), (.getfield 68, [11, 26, 2, 1182], 0), (.sipush 24600, [], 0), (.aload_n 0, [], 0), (.getfield 219, [11, 19, 0, 1175], 0), (.imul, [], 0), (.iload 4, [], 0), (.iadd, [], 0), (.iaload, [], 0), (.istore 5, [], 0), (.lload_n 2, [], 0), (.aload_n 0, [], 0), (.iload_n 1, [], 0), (.iload 5, [], 0), (.invokevirtual 246, [k_M_isTaken, 3, 11, 1458], 0), (.ifCond .eq 13, [31, 30], 0)])
  | 30 => (31, [(.aload_n 0, [], 0), (.getfield 77, [11, 30, 2, 1186], 0), (.iload 5, [], 0), (.laload, [], 0), (.goto 4, [32], 0)])
  | 31 => (32, [(.lconst 0, [], 0)])
  | 32 => (33, [(.ladd, [], 0), (.lstore_n 2, [], 0), (.lload_n 2, [], 0), (.ldc2_w 270, [1470], 1000000001), (.lcmp, [], 0), (.ifCond .le 9, [34, 33], 0)])
  | 33 => (34, [(.ldc2_w 270, [1470], 1000000001), (.goto 4, [35], 0)])
  | 34 => (35, [(.lload_n 2, [], 0)])
  | 35 => (36, [(.lstore_n 2, [], 0), (.iinc 4 1, [], 0), (.goto (-75), [28], 0)])
  | 36 => (37, [(.lload_n 2, [], 0), (.l2i, [], 0), (.ireturn, [0], 0)])
  | _ => (0, [])
def L_M_runs : Nat → List Bool := fun b => match b with
  | 0 => [true, true, false, false, false, false, false]
  | 1 => [false, false, false, false, false, false, false]
  | 2 => [true, true, false, false, false, false, false]
  | 3 => [false, false, false, false, false, false, false]
  | 4 => [true, true, false, false, false, false, false]
  | 5 => [true, true, true, false, false, false, false]
  | 6 => [true, true, true, false, false, false, false]
  | 7 => [true, true, false, false, false, false, false]
  | 8 => [true, true, true, false, false, false, false]
  | 9 => [true, true, true, false, false, false, false]
  | 10 => [true, true, true, true, false, false, false]
  | 11 => [true, true, true, true, false, false, false]
  | 12 => [true, true, true, true, true, true, false]
  | 13 => [true, true, true, true, true, true, false]
  | 14 => [true, true, true, true, true, true, false]
  | 15 => [true, true, true, true, true, true, false]
  | 16 => [true, true, true, true, true, true, true]
  | 17 => [true, true, true, true, true, true, false]
  | 18 => [true, true, true, true, true, true, false]
  | 19 => [true, true, true, true, false, false, false]
  | 20 => [true, true, true, false, false, false, false]
  | 21 => [true, true, true, true, false, false, false]
  | 22 => [true, true, true, true, false, false, false]
  | 23 => [true, true, true, false, false, false, false]
  | 24 => [true, true, true, true, false, false, false]
  | 25 => [true, true, true, true, false, false, false]
  | 26 => [true, true, true, false, false, false, false]
  | 27 => [true, true, false, false, false, false, false]
  | 28 => [true, true, true, false, true, false, false]
  | 29 => [true, true, true, false, true, false, false]
  | 30 => [true, true, false, false, true, true, false]
  | 31 => [true, true, false, false, true, false, false]
  | 32 => [true, true, false, false, true, false, false]
  | 33 => [true, true, false, false, true, false, false]
  | 34 => [true, true, true, false, true, false, false]
  | 35 => [true, true, false, false, true, false, false]
  | 36 => [false, false, true, false, false, false, false]
  | _ => []
def P_M_runs : List Nat := [0, 7, 10, 17, 20, 27, 34, 54, 63, 71, 73, 83, 103, 119, 142, 186, 192, 207, 208, 214, 220, 222, 232, 256, 258, 270, 314, 320, 325, 339, 368, 378, 379, 389, 395, 396, 403]
def K_M_runs : KE := (⟨"NameReadersModel", "runs", "(I)I"⟩, prog_13_method_36_code, 7, (Option.some Jvm.ClassFile.FieldType.int), B_M_runs, L_M_runs, P_M_runs, [1469, 1467, 1468, 93, 0, 2])
def B_M_layGood : BT := fun b => match b with
  | 0 => (1, [(.aload_n 0, [], 0), (.iload_n 1, [], 0), (.invokevirtual 263, [k_M_goAll, 2, 11, 1423], 0), (.aload_n 0, [], 0), (.getfield 219, [11, 19, 0, 1175], 0), (.istore_n 2, [], 0)])
  | 1 => (2, [(.iload_n 2, [], 0), (.ifCond .lt 182, [19, 2], 0)])
  | 2 => (3, [(.iconst 0, [], 0), (.istore_n 3, [], 0)])
  | 3 => (4, [(.iload_n 3, [], 0), (.aload_n 0, [], 0), (.getfield 71, [11, 27, 2, 1183], 0), (.iload_n 2, [], 0), (.iaload, [], 0), (.if_icmp .ge 164, [18, 4], 0)])
  | 4 => (5, [(.aload_n 0, [], 0), (.getfield 68, [11, 26, 2, 1182], 0), (.sipush 24600, [], 0), (.iload_n 2, [], 0), (.imul, [], 0), (.iload_n 3, [], 0), (.iadd, [], 0), (.iaload, [], 0), (.istore 4, [], 0), (.iload_n 2, [], 0), (.aload_n 0, [], 0), (.getfield 219, [11, 19, 0, 1175], 0), (.if_icmp .ne 17, [7, 5], 0)])
  | 5 => (6, [(.aload_n 0, [], 0), (.iload_n 1, [], 0), (.iload 4, [], 0), (.invokevirtual 246, [k_M_isTaken, 3, 11, 1458], 0), (.ifCond .eq 7, [7, 6], 0)])
  | 6 => (7, [(.iconst 1, [], 0), (.goto 4, [8], 0)])
  | 7 => (8, [(.iconst 0, [], 0)])
  | 8 => (9, [(.istore 5, [], 0), (.bipush 20, [], 0), (.iload_n 1, [], 0), (.imul, [], 0), (.istore 6, [], 0)])
  | 9 => (10, [(.iload_n 2, [], 0), (.aload_n 0, [], 0), (.getfield 219, [11, 19, 0, 1175], 0), (.if_icmp .ge 90, [17, 10], 0)])
  | 10 => (11, [(.iload 6, [], 0), (.bipush 20, [], 0), (.iload_n 1, [], 0), (.imul, [], 0), (.aload_n 0, [], 0), (.getfield 19, [11, 3, 2, 1159], 0), (.iload_n 1, [], 0), (.iaload, [], 0), (.iadd, [], 0), (.if_icmp .ge 74, [17, 11], 0)])
  | 11 => (12, [(.iload 5, [], 0), (.ifCond .ne 56, [14, 12], 0)])
  | 12 => (13, [(.aload_n 0, [], 0), (.iload 6, [], 0), (.iload 4, [], 0), (.aload_n 0, [], 0), (.getfield 55, [11, 17, 2, 1173], 0), (.iload_n 2, [], 0), (.iaload, [], 0), (.aload_n 0, [], 0), (.getfield 64, [11, 25, 2, 1181], 0), (.iload_n 2, [], 0), (.iaload, [], 0), (.invokevirtual 238, [k_M_can, 5, 11, 1443], 0), (.ifCond .eq 37, [15, 13], 0)])
  | 13 => (14, [(.aload_n 0, [], 0), (.getfield 85, [11, 32, 2, 1188], 0), (.sipush 29478, [], 0), (.iload_n 2, [], 0), (.iconst 1, [], 0), (.iadd, [], 0), (.imul, [], 0), (.aload_n 0, [], 0), (.iload 6, [], 0), (.iload 4, [], 0), (.aload_n 0, [], 0), (.getfield 64, [11, 25, 2, 1181], 0), (.iload_n 2, [], 0), (.iaload, [], 0), (.invokevirtual 242, [k_M_behind, 4, 11, 1450], 0), (.iadd, [], 0), (.baload, [], 0), (.ifCond .eq 7, [15, 14], 0)])
  | 14 => (15, [(.iconst 1, [], 0), (.goto 4, [16], 0)])
  | 15 => (16, [(.iconst 0, [], 0)])
  | 16 => (17, [(.istore 5, [], 0), (.iinc 6 1, [], 0), (.goto (-92), [9], 0)])
  | 17 => (18, [(.aload_n 0, [], 0), (.getfield 85, [11, 32, 2, 1188], 0), (.sipush 29478, [], 0), (.iload_n 2, [], 0), (.imul, [], 0), (.iload 4, [], 0), (.iadd, [], 0), (.iload 5, [], 0), (.bastore, [], 0), (.iinc 3 1, [], 0), (.goto (-168), [3], 0)])
  | 18 => (19, [(.iinc 2 (-1), [], 0), (.goto (-180), [1], 0)])
  | 19 => (20, [(.return_, [], 0)])
  | _ => (0, [])
def L_M_layGood : Nat → List Bool := fun b => match b with
  | 0 => [true, true, false, false, false, false, false]
  | 1 => [true, true, true, false, false, false, false]
  | 2 => [true, true, true, false, false, false, false]
  | 3 => [true, true, true, true, false, false, false]
  | 4 => [true, true, true, true, false, false, false]
  | 5 => [true, true, true, true, true, false, false]
  | 6 => [true, true, true, true, true, false, false]
  | 7 => [true, true, true, true, true, false, false]
  | 8 => [true, true, true, true, true, false, false]
  | 9 => [true, true, true, true, true, true, true]
  | 10 => [true, true, true, true, true, true, true]
  | 11 => [true, true, true, true, true, true, true]
  | 12 => [true, true, true, true, true, false, true]
  | 13 => [true, true, true, true, true, false, true]
  | 14 => [true, true, true, true, true, false, true]
  | 15 => [true, true, true, true, true, false, true]
  | 16 => [true, true, true, true, true, false, true]
  | 17 => [true, true, true, true, true, true, false]
  | 18 => [true, true, true, false, false, false, false]
  | 19 => [false, false, false, false, false, false, false]
  | _ => []
def P_M_layGood : List Nat := [0, 10, 14, 16, 26, 48, 58, 62, 63, 71, 79, 95, 100, 123, 153, 157, 158, 166, 187, 193]
def K_M_layGood : KE := (⟨"NameReadersModel", "layGood", "(I)V"⟩, prog_13_method_37_code, 7, (Option.none : Option Jvm.ClassFile.FieldType), B_M_layGood, L_M_layGood, P_M_layGood, [1478, 1477, 58, 93, 0, 2])
def B_M_run : BT := fun b => match b with
  | 0 => (1, [(.iload_n 1, [], 0), (.invokestatic 155, [k_M_isReader, 1, 1330], 0), (.ifCond .ne 6, [2, 1], 0)])
  | 1 => (2, [(.bipush (-2), [], 0), (.ireturn, [0], 0)])
  | 2 => (3, [(.iload_n 2, [], 0), (.ifCond .ge 6, [4, 3], 0)])
  | 3 => (4, [(.bipush (-3), [], 0), (.ireturn, [0], 0)])
  | 4 => (5, [(.aload_n 0, [], 0), (.invokevirtual 259, [k_M_gapPairs, 1, 11, 1415], 0), (.ifCond .le 6, [6, 5], 0)])
  | 5 => (6, [(.bipush (-4), [], 0), (.ireturn, [0], 0)])
  | 6 => (7, [(.aload_n 0, [], 0), (.iload_n 1, [], 0), (.invokevirtual 272, [k_M_layGood, 2, 11, 1475], 0), (.aload_n 0, [], 0), (.getfield 85, [11, 32, 2, 1188], 0), (.iconst 0, [], 0), (.baload, [], 0), (.ifCond .eq 11, [8, 7], 0)])
  | 7 => (8, [(.iload_n 2, [], 0), (.aload_n 0, [], 0), (.getfield 219, [11, 19, 0, 1175], 0), (.if_icmp .lt 5, [9, 8], 0)])
  | 8 => (9, [(.iconst (-1), [], 0), (.ireturn, [0], 0)])
  | 9 => (10, [(.iconst 0, [], 0), (.istore_n 3, [], 0), (.iconst 0, [], 0), (.istore 4, [], 0), (.iconst 0, [], 0), (.istore 5, [], 0)])
  | 10 => (11, [(.iload 5, [], 0), (.iload_n 2, [], 0), (.if_icmp .gt 91, [16, 11], 0)])
  | 11 => (12, [(.bipush 20, [], 0), (.iload_n 1, [], 0), (.imul, [], 0), (.istore 4, [], 0)])
  | 12 => (13, [(.aload_n 0, [], 0), (.iload 4, [], 0), (.iload_n 3, [], 0), (.aload_n 0, [], 0), (.getfield 55, [11, 17, 2, 1173], 0), (.iload 5, [], 0), (.iaload, [], 0), (.aload_n 0, [], 0), (.getfield 64, [11, 25, 2, 1181], 0), (.iload 5, [], 0), (.iaload, [], 0), (.invokevirtual 238, [k_M_can, 5, 11, 1443], 0), (.ifCond .eq 34, [14, 13], 0)])
  | 13 => (14, [(.aload_n 0, [], 0), (.getfield 85, [11, 32, 2, 1188], 0), (.sipush 29478, [], 0), (.iload 5, [], 0), (.iconst 1, [], 0), (.iadd, [], 0), (.imul, [], 0), (.aload_n 0, [], 0), (.iload 4, [], 0), (.iload_n 3, [], 0), (.aload_n 0, [], 0), (.getfield 64, [11, 25, 2, 1181], 0), (.iload 5, [], 0), (.iaload, [], 0), (.invokevirtual 242, [k_M_behind, 4, 11, 1450], 0), (.iadd, [], 0), (.baload, [], 0), (.ifCond .ne 9, [15, 14], 0)])
  | 14 => (15, [(.iinc 4 1, [], 0), (.goto (-58), [12], 0)])
  | 15 => (16, [(.aload_n 0, [], 0), (.iload 4, [], 0), (.iload_n 3, [], 0), (.aload_n 0, [], 0), (.getfield 64, [11, 25, 2, 1181], 0), (.iload 5, [], 0), (.iaload, [], 0), (.invokevirtual 242, [k_M_behind, 4, 11, 1450], 0), (.istore_n 3, [], 0), (.iinc 5 1, [], 0), (.goto (-91), [10], 0)])
  | 16 => (17, [(.iload 4, [], 0), (.bipush 20, [], 0), (.iload_n 1, [], 0), (.imul, [], 0), (.isub, [], 0), (.ireturn, [0], 0)])
  | _ => (0, [])
def L_M_run : Nat → List Bool := fun b => match b with
  | 0 => [true, true, true, false, false, false]
  | 1 => [false, false, false, false, false, false]
  | 2 => [true, true, true, false, false, false]
  | 3 => [false, false, false, false, false, false]
  | 4 => [true, true, true, false, false, false]
  | 5 => [false, false, false, false, false, false]
  | 6 => [true, true, true, false, false, false]
  | 7 => [true, true, true, false, false, false]
  | 8 => [false, false, false, false, false, false]
  | 9 => [true, true, true, false, false, false]
  | 10 => [true, true, true, true, true, true]
  | 11 => [true, true, true, true, false, true]
  | 12 => [true, true, true, true, true, true]
  | 13 => [true, true, true, true, true, true]
  | 14 => [true, true, true, true, true, true]
  | 15 => [true, true, true, true, true, true]
  | 16 => [false, true, false, false, true, false]
  | _ => []
def P_M_run : List Nat := [0, 7, 10, 14, 17, 24, 27, 41, 49, 51, 59, 65, 71, 95, 126, 132, 153]
def K_M_run : KE := (⟨"NameReadersModel", "run", "(II)I"⟩, prog_13_method_38_code, 6, (Option.some Jvm.ClassFile.FieldType.int), B_M_run, L_M_run, P_M_run, [1474, 1472, 1473, 93, 0, 3])
def B_M_nextPair : BT := fun b => match b with
  | 0 => (1, [(.aload_n 0, [], 0), (.getfield 92, [11, 34, 2, 1190], 0), (.iload_n 1, [], 0), (.iaload, [], 0), (.aload_n 0, [], 0), (.getfield 95, [11, 35, 2, 1191], 0), (.iload_n 1, [], 0), (.iaload, [], 0), (.if_icmp .ge 16, [2, 1], 0)])
  | 1 => (2, [(.aload_n 0, [], 0), (.getfield 92, [11, 34, 2, 1190], 0), (.iload_n 1, [], 0), (.dup2, [], 0), (.iaload, [], 0), (.iconst 1, [], 0), (.iadd, [], 0), (.iastore, [], 0), (.goto 20, [3], 0)])
  | 2 => (3, [(.aload_n 0, [], 0), (.getfield 92, [11, 34, 2, 1190], 0), (.iload_n 1, [], 0), (.iconst 0, [], 0), (.iastore, [], 0), (.aload_n 0, [], 0), (.getfield 89, [11, 33, 2, 1189], 0), (.iload_n 1, [], 0), (.dup2, [], 0), (.iaload, [], 0), (.iconst 1, [], 0), (.iadd, [], 0), (.iastore, [], 0)])
  | 3 => (4, [(.aload_n 0, [], 0), (.getfield 95, [11, 35, 2, 1191], 0), (.iload_n 1, [], 0), (.iconst 1, [], 0), (.iadd, [], 0), (.aload_n 0, [], 0), (.getfield 95, [11, 35, 2, 1191], 0), (.iload_n 1, [], 0), (.iaload, [], 0), (.aload_n 0, [], 0), (.getfield 92, [11, 34, 2, 1190], 0), (.iload_n 1, [], 0), (.iaload, [], 0), (.aload_n 0, [], 0), (.getfield 95, [11, 35, 2, 1191], 0), (.iload_n 1, [], 0), (.iaload, [], 0), (.if_icmp .ne 7, [5, 4], 0)])
  | 4 => (5, [(.iconst 1, [], 0), (.goto 4, [6], 0)])
  | 5 => (6, [(.iconst 0, [], 0)])
  | 6 => (7, [(.iadd, [], 0), (.iastore, [], 0), (.aload_n 0, [], 0), (.getfield 89, [11, 33, 2, 1189], 0), (.iload_n 1, [], 0), (.iaload, [], 0), (.iload_n 2, [], 0), (.if_icmp .ge 7, [8, 7], 0)])
  | 7 => (8, [(.iconst 1, [], 0), (.goto 4, [9], 0)])
  | 8 => (9, [(.iconst 0, [], 0)])
  | 9 => (10, [(.ireturn, [1], 0)])
  | _ => (0, [])
def L_M_nextPair : Nat → List Bool := fun b => match b with
  | 0 => [true, true, true]
  | 1 => [true, true, true]
  | 2 => [true, true, true]
  | 3 => [true, true, true]
  | 4 => [true, true, true]
  | 5 => [true, true, true]
  | 6 => [true, true, true]
  | 7 => [false, false, false]
  | 8 => [false, false, false]
  | 9 => [false, false, false]
  | _ => []
def P_M_nextPair : List Nat := [0, 15, 28, 45, 73, 77, 78, 90, 94, 95]
def K_M_nextPair : KE := (⟨"NameReadersModel", "nextPair", "(II)Z"⟩, prog_13_method_39_code, 3, (Option.some Jvm.ClassFile.FieldType.boolean), B_M_nextPair, L_M_nextPair, P_M_nextPair, [1494, 1493, 61, 93, 0, 3])
def B_M_beginPair : BT := fun b => match b with
  | 0 => (1, [(.aload_n 0, [], 0), (.getfield 89, [11, 33, 2, 1189], 0), (.iload_n 1, [], 0), (.iconst (-1), [], 0), (.iastore, [], 0), (.aload_n 0, [], 0), (.getfield 92, [11, 34, 2, 1190], 0), (.iload_n 1, [], 0), (.aload_n 0, [], 0), (.getfield 95, [11, 35, 2, 1191], 0), (.iload_n 1, [], 0), (.iaload, [], 0), (.iastore, [], 0), (.return_, [], 0)])
  | _ => (0, [])
def L_M_beginPair : Nat → List Bool := fun b => match b with
  | 0 => [true, true]
  | _ => []
def P_M_beginPair : List Nat := [0]
def K_M_beginPair : KE := (⟨"NameReadersModel", "beginPair", "(I)V"⟩, prog_13_method_40_code, 2, (Option.none : Option Jvm.ClassFile.FieldType), B_M_beginPair, L_M_beginPair, P_M_beginPair, [1490, 1489, 60, 93, 0, 2])
def B_M_goShapes : BT := fun b => match b with
  | 0 => (1, [(.aload_n 0, [], 0), (.invokevirtual 252, [k_M_beginList, 1, 11, 1435], 0), (.aload_n 0, [], 0), (.getfield 95, [11, 35, 2, 1191], 0), (.iconst 0, [], 0), (.iconst 0, [], 0), (.iastore, [], 0), (.iload_n 2, [], 0), (.ifCond .ne 18, [5, 1], 0)])
  | 1 => (2, [(.aload_n 0, [], 0), (.iload_n 1, [], 0), (.iconst 0, [], 0), (.invokevirtual 267, [k_M_takesList, 3, 11, 1454], 0), (.ifCond .eq 7, [3, 2], 0)])
  | 2 => (3, [(.iconst 1, [], 0), (.goto 4, [4], 0)])
  | 3 => (4, [(.iconst 0, [], 0)])
  | 4 => (5, [(.ireturn, [0], 0)])
  | 5 => (6, [(.iconst 0, [], 0), (.istore 5, [], 0), (.iconst 0, [], 0), (.istore 6, [], 0), (.aload_n 0, [], 0), (.iconst 0, [], 0), (.invokevirtual 275, [k_M_beginPair, 2, 11, 1487], 0)])
  | 6 => (7, [(.iload 6, [], 0), (.ifCond .lt 99, [16, 7], 0)])
  | 7 => (8, [(.aload_n 0, [], 0), (.iload 6, [], 0), (.iload_n 3, [], 0), (.invokevirtual 278, [k_M_nextPair, 3, 11, 1491], 0), (.ifCond .ne 9, [9, 8], 0)])
  | 8 => (9, [(.iinc 6 (-1), [], 0), (.goto (-18), [6], 0)])
  | 9 => (10, [(.aload_n 0, [], 0), (.iload_n 1, [], 0), (.iload 6, [], 0), (.aload_n 0, [], 0), (.getfield 89, [11, 33, 2, 1189], 0), (.iload 6, [], 0), (.iaload, [], 0), (.aload_n 0, [], 0), (.getfield 92, [11, 34, 2, 1190], 0), (.iload 6, [], 0), (.iaload, [], 0), (.iconst 1, [], 0), (.iadd, [], 0), (.invokevirtual 255, [k_M_goOn, 5, 11, 1439], 0), (.aload_n 0, [], 0), (.getfield 71, [11, 27, 2, 1183], 0), (.iload 6, [], 0), (.iconst 1, [], 0), (.iadd, [], 0), (.iaload, [], 0), (.ifCond .ne 6, [11, 10], 0)])
  | 10 => (11, [(.goto (-56), [6], 0)])
  | 11 => (12, [(.iload 6, [], 0), (.iconst 1, [], 0), (.iadd, [], 0), (.iload_n 2, [], 0), (.if_icmp .ge 15, [13, 12], 0)])
  | 12 => (13, [(.iinc 6 1, [], 0), (.aload_n 0, [], 0), (.iload 6, [], 0), (.invokevirtual 275, [k_M_beginPair, 2, 11, 1487], 0), (.goto (-76), [6], 0)])
  | 13 => (14, [(.aload_n 0, [], 0), (.iload_n 1, [], 0), (.iload_n 2, [], 0), (.invokevirtual 267, [k_M_takesList, 3, 11, 1454], 0), (.ifCond .eq (-85), [6, 14], 0)])
  | 14 => (15, [(.iinc 5 1, [], 0), (.iload 5, [], 0), (.iload 4, [], 0), (.if_icmp .ne (-95), [6, 15], 0)])
  | 15 => (16, [(.iload 5, [], 0), (.ireturn, [0], 0)])
  | 16 => (17, [(.iload 5, [], 0), (.ireturn, [0], 0)])
  | _ => (0, [])
def L_M_goShapes : Nat → List Bool := fun b => match b with
  | 0 => [true, true, true, true, true, false, false]
  | 1 => [true, true, false, false, false, false, false]
  | 2 => [false, false, false, false, false, false, false]
  | 3 => [false, false, false, false, false, false, false]
  | 4 => [false, false, false, false, false, false, false]
  | 5 => [true, true, true, true, true, false, false]
  | 6 => [true, true, true, true, true, true, true]
  | 7 => [true, true, true, true, true, true, true]
  | 8 => [true, true, true, true, true, true, true]
  | 9 => [true, true, true, true, true, true, true]
  | 10 => [true, true, true, true, true, true, true]
  | 11 => [true, true, true, true, true, true, true]
  | 12 => [true, true, true, true, true, true, true]
  | 13 => [true, true, true, true, true, true, true]
  | 14 => [true, true, true, true, true, true, true]
  | 15 => [false, false, false, false, false, true, false]
  | 16 => [false, false, false, false, false, true, false]
  | _ => []
def P_M_goShapes : List Nat := [0, 15, 24, 28, 29, 30, 41, 46, 56, 62, 97, 100, 108, 120, 129, 139, 142]
def K_M_goShapes : KE := (⟨"NameReadersModel", "goShapes", "(IIII)I"⟩, prog_13_method_41_code, 7, (Option.some Jvm.ClassFile.FieldType.int), B_M_goShapes, L_M_goShapes, P_M_goShapes, [1486, 1485, 59, 93, 0, 5])
def B_M_shapes : BT := fun b => match b with
  | 0 => (1, [(.iload_n 1, [], 0), (.invokestatic 155, [k_M_isReader, 1, 1330], 0), (.ifCond .ne 6, [2, 1], 0)])
  | 1 => (2, [(.bipush (-2), [], 0), (.ireturn, [0], 0)])
  | 2 => (3, [(.iload_n 2, [], 0), (.i2l, [], 0), (.lconst 0, [], 0), (.ldc2_w 159, [1336], 6), (.invokestatic 151, [k_M_in, 3, 1333], 0), (.ifCond .eq 26, [5, 3], 0)])
  | 3 => (4, [(.iload_n 3, [], 0), (.i2l, [], 0), (.lconst 1, [], 0), (.ldc2_w 161, [1337], 3), (.invokestatic 151, [k_M_in, 3, 1333], 0), (.ifCond .eq 14, [5, 4], 0)])
  | 4 => (5, [(.aload_n 0, [], 0), (.iload_n 1, [], 0), (.iload_n 2, [], 0), (.iload_n 3, [], 0), (.iconst 0, [], 0), (.invokevirtual 281, [k_M_goShapes, 5, 11, 1483], 0), (.goto 5, [6], 0)])
  | 5 => (6, [(.bipush (-3), [], 0)])
  | 6 => (7, [(.ireturn, [0], 0)])
  | _ => (0, [])
def L_M_shapes : Nat → List Bool := fun b => match b with
  | 0 => [true, true, true, true]
  | 1 => [false, false, false, false]
  | 2 => [true, true, true, true]
  | 3 => [true, true, true, true]
  | 4 => [true, true, true, true]
  | 5 => [false, false, false, false]
  | 6 => [false, false, false, false]
  | _ => []
def P_M_shapes : List Nat := [0, 7, 10, 22, 34, 45, 47]
def K_M_shapes : KE := (⟨"NameReadersModel", "shapes", "(III)I"⟩, prog_13_method_42_code, 4, (Option.some Jvm.ClassFile.FieldType.int), B_M_shapes, L_M_shapes, P_M_shapes, [1482, 1480, 1481, 93, 0, 4])
def B_M_shape : BT := fun b => match b with
  | 0 => (1, [(.iload_n 1, [], 0), (.invokestatic 155, [k_M_isReader, 1, 1330], 0), (.ifCond .ne 6, [2, 1], 0)])
  | 1 => (2, [(.bipush (-2), [], 0), (.ireturn, [0], 0)])
  | 2 => (3, [(.iload_n 2, [], 0), (.i2l, [], 0), (.lconst 0, [], 0), (.ldc2_w 159, [1336], 6), (.invokestatic 151, [k_M_in, 3, 1333], 0), (.ifCond .eq 25, [6, 3], 0)])
  | 3 => (4, [(.iload_n 3, [], 0), (.i2l, [], 0), (.lconst 1, [], 0), (.ldc2_w 161, [1337], 3), (.invokestatic 151, [k_M_in, 3, 1333], 0), (.ifCond .eq 13, [6, 4], 0)])
  | 4 => (5, [(.iload 4, [], 0), (.ifCond .lt 8, [6, 5], 0)])
  | 5 => (6, [(.iload 5, [], 0), (.ifCond .ge 6, [7, 6], 0)])
  | 6 => (7, [(.bipush (-3), [], 0), (.ireturn, [0], 0)])
  | 7 => (8, [(.iload 5, [], 0), (.iload_n 2, [], 0), (.if_icmp .ge 27, [10, 8], 0)])
  | 8 => (9, [(.iload 4, [], 0), (.ldc_w 285, [0, 1499], 1000000), (.if_icmp .gt 19, [10, 9], 0)])
  | 9 => (10, [(.aload_n 0, [], 0), (.iload_n 1, [], 0), (.iload_n 2, [], 0), (.iload_n 3, [], 0), (.iload 4, [], 0), (.iconst 1, [], 0), (.iadd, [], 0), (.invokevirtual 281, [k_M_goShapes, 5, 11, 1483], 0), (.iload 4, [], 0), (.if_icmp .gt 5, [11, 10], 0)])
  | 10 => (11, [(.iconst (-1), [], 0), (.ireturn, [0], 0)])
  | 11 => (12, [(.bipush 16, [], 0), (.aload_n 0, [], 0), (.getfield 89, [11, 33, 2, 1189], 0), (.iload 5, [], 0), (.iaload, [], 0), (.imul, [], 0), (.aload_n 0, [], 0), (.getfield 92, [11, 34, 2, 1190], 0), (.iload 5, [], 0), (.iaload, [], 0), (.iadd, [], 0), (.ireturn, [0], 0)])
  | _ => (0, [])
def L_M_shape : Nat → List Bool := fun b => match b with
  | 0 => [true, true, true, true, true, true]
  | 1 => [false, false, false, false, false, false]
  | 2 => [true, true, true, true, true, true]
  | 3 => [true, true, true, true, true, true]
  | 4 => [true, true, true, true, true, true]
  | 5 => [true, true, true, true, true, true]
  | 6 => [false, false, false, false, false, false]
  | 7 => [true, true, true, true, true, true]
  | 8 => [true, true, true, true, true, true]
  | 9 => [true, true, true, true, true, true]
  | 10 => [false, false, false, false, false, false]
  | 11 => [true, false, false, false, false, true]
  | _ => []
def P_M_shape : List Nat := [0, 7, 10, 22, 34, 39, 44, 47, 53, 61, 77, 79]
def K_M_shape : KE := (⟨"NameReadersModel", "shape", "(IIIII)I"⟩, prog_13_method_43_code, 6, (Option.some Jvm.ClassFile.FieldType.int), B_M_shape, L_M_shape, P_M_shape, [1498, 1496, 1497, 93, 0, 6])
def B_M_kindIn : BT := fun b => match b with
  | 0 => (1, [(.iload_n 1, [], 0), (.ifCond .ne 12, [2, 1], 0)])
  | 1 => (2, [(.iload_n 0, [], 0), (.bipush 6, [], 0), (.idiv, [], 0), (.iconst 4, [], 0), (.irem, [], 0), (.goto 21, [5], 0)])
  | 2 => (3, [(.iload_n 1, [], 0), (.iconst 1, [], 0), (.if_icmp .ne 12, [4, 3], 0)])
  | 3 => (4, [(.iload_n 0, [], 0), (.bipush 24, [], 0), (.idiv, [], 0), (.iconst 4, [], 0), (.irem, [], 0), (.goto 7, [5], 0)])
  | 4 => (5, [(.iload_n 0, [], 0), (.bipush 96, [], 0), (.idiv, [], 0)])
  | 5 => (6, [(.ireturn, [0], 0)])
  | _ => (0, [])
def L_M_kindIn : Nat → List Bool := fun b => match b with
  | 0 => [true, true]
  | 1 => [true, false]
  | 2 => [true, true]
  | 3 => [true, false]
  | 4 => [true, false]
  | 5 => [false, false]
  | _ => []
def P_M_kindIn : List Nat := [0, 4, 13, 18, 27, 31]
def K_M_kindIn : KE := (⟨"NameReadersModel", "kindIn", "(II)I"⟩, prog_13_method_44_code, 2, (Option.some Jvm.ClassFile.FieldType.int), B_M_kindIn, L_M_kindIn, P_M_kindIn, [1517, 1516, 0, 93, 1, 2])
def B_M_kindOf : BT := fun b => match b with
  | 0 => (1, [(.iload_n 1, [], 0), (.ifCond .ne 7, [2, 1], 0)])
  | 1 => (2, [(.iconst 0, [], 0), (.goto 4, [3], 0)])
  | 2 => (3, [(.iconst 1, [], 0)])
  | 3 => (4, [(.istore 4, [], 0), (.iload 4, [], 0), (.istore 5, [], 0), (.iload_n 2, [], 0), (.ifCond .ne 7, [5, 4], 0)])
  | 4 => (5, [(.iconst 0, [], 0), (.goto 17, [8], 0)])
  | 5 => (6, [(.iload_n 2, [], 0), (.iload_n 1, [], 0), (.if_icmp .ne 8, [7, 6], 0)])
  | 6 => (7, [(.iload 4, [], 0), (.goto 7, [8], 0)])
  | 7 => (8, [(.iload 5, [], 0), (.iconst 1, [], 0), (.iadd, [], 0)])
  | 8 => (9, [(.istore 6, [], 0), (.iload 6, [], 0), (.iload 5, [], 0), (.if_icmp .le 8, [10, 9], 0)])
  | 9 => (10, [(.iload 6, [], 0), (.goto 5, [11], 0)])
  | 10 => (11, [(.iload 5, [], 0)])
  | 11 => (12, [(.istore 5, [], 0), (.iload_n 3, [], 0), (.ifCond .ne 7, [13, 12], 0)])
  | 12 => (13, [(.iconst 0, [], 0), (.goto 27, [18], 0)])
  | 13 => (14, [(.iload_n 3, [], 0), (.iload_n 1, [], 0), (.if_icmp .ne 8, [15, 14], 0)])
  | 14 => (15, [(.iload 4, [], 0), (.goto 17, [18], 0)])
  | 15 => (16, [(.iload_n 3, [], 0), (.iload_n 2, [], 0), (.if_icmp .ne 8, [17, 16], 0)])
  | 16 => (17, [(.iload 6, [], 0), (.goto 7, [18], 0)])
  | 17 => (18, [(.iload 5, [], 0), (.iconst 1, [], 0), (.iadd, [], 0)])
  | 18 => (19, [(.istore 7, [], 0), (.iload_n 0, [], 0), (.bipush 6, [], 0), (.iload 4, [], 0), (.imul, [], 0), (.iadd, [], 0), (.bipush 24, [], 0), (.iload 6, [], 0), (.imul, [], 0), (.iadd, [], 0), (.bipush 96, [], 0), (.iload 7, [], 0), (.imul, [], 0), (.iadd, [], 0), (.ireturn, [0], 0)])
  | _ => (0, [])
def L_M_kindOf : Nat → List Bool := fun b => match b with
  | 0 => [true, true, true, true, false, false, false, false]
  | 1 => [true, true, true, true, false, false, false, false]
  | 2 => [true, true, true, true, false, false, false, false]
  | 3 => [true, true, true, true, false, false, false, false]
  | 4 => [true, true, true, true, true, true, false, false]
  | 5 => [true, true, true, true, true, true, false, false]
  | 6 => [true, true, true, true, true, true, false, false]
  | 7 => [true, true, true, true, true, true, false, false]
  | 8 => [true, true, true, true, true, true, false, false]
  | 9 => [true, true, true, true, true, false, true, false]
  | 10 => [true, true, true, true, true, true, true, false]
  | 11 => [true, true, true, true, true, false, true, false]
  | 12 => [true, false, false, false, true, false, true, false]
  | 13 => [true, true, true, true, true, true, true, false]
  | 14 => [true, false, false, false, true, false, true, false]
  | 15 => [true, false, true, true, true, true, true, false]
  | 16 => [true, false, false, false, true, false, true, false]
  | 17 => [true, false, false, false, true, true, true, false]
  | 18 => [true, false, false, false, true, false, true, false]
  | _ => []
def P_M_kindOf : List Nat := [0, 4, 8, 9, 19, 23, 28, 33, 37, 46, 51, 53, 59, 63, 68, 73, 78, 83, 87]
def K_M_kindOf : KE := (⟨"NameReadersModel", "kindOf", "(IIII)I"⟩, prog_13_method_45_code, 8, (Option.some Jvm.ClassFile.FieldType.int), B_M_kindOf, L_M_kindOf, P_M_kindOf, [1528, 1527, 0, 93, 1, 4])
def B_M_canBy : BT := fun b => match b with
  | 0 => (1, [(.aload_n 0, [], 0), (.getfield 22, [11, 4, 2, 1160], 0), (.iload_n 1, [], 0), (.iaload, [], 0), (.iload_n 2, [], 0), (.bipush 6, [], 0), (.irem, [], 0), (.if_icmp .eq 5, [2, 1], 0)])
  | 1 => (2, [(.iconst 0, [], 0), (.ireturn, [1], 0)])
  | 2 => (3, [(.iload_n 3, [], 0), (.bipush 9, [], 0), (.if_icmp .ge 7, [4, 3], 0)])
  | 3 => (4, [(.iconst 1, [], 0), (.goto 4, [5], 0)])
  | 4 => (5, [(.iconst 0, [], 0)])
  | 5 => (6, [(.istore 4, [], 0), (.aload_n 0, [], 0), (.getfield 28, [11, 6, 2, 1162], 0), (.iload_n 1, [], 0), (.iaload, [], 0), (.iconst 4, [], 0), (.if_icmp .eq 35, [10, 6], 0)])
  | 6 => (7, [(.aload_n 0, [], 0), (.getfield 28, [11, 6, 2, 1162], 0), (.iload_n 1, [], 0), (.iaload, [], 0), (.iconst 3, [], 0), (.if_icmp .ne 11, [9, 7], 0)])
  | 7 => (8, [(.iload 4, [], 0), (.ifCond .ne 24, [11, 8], 0)])
  | 8 => (9, [(.goto 17, [10], 0)])
  | 9 => (10, [(.iload_n 2, [], 0), (.aload_n 0, [], 0), (.getfield 28, [11, 6, 2, 1162], 0), (.iload_n 1, [], 0), (.iaload, [], 0), (.invokestatic 286, [k_M_kindIn, 2, 1515], 0), (.iload_n 3, [], 0), (.if_icmp .ne 7, [11, 10], 0)])
  | 10 => (11, [(.iconst 1, [], 0), (.goto 4, [12], 0)])
  | 11 => (12, [(.iconst 0, [], 0)])
  | 12 => (13, [(.ireturn, [1], 0)])
  | _ => (0, [])
def L_M_canBy : Nat → List Bool := fun b => match b with
  | 0 => [true, true, true, true, false]
  | 1 => [false, false, false, false, false]
  | 2 => [true, true, true, true, false]
  | 3 => [true, true, true, true, false]
  | 4 => [true, true, true, true, false]
  | 5 => [true, true, true, true, false]
  | 6 => [true, true, true, true, true]
  | 7 => [false, false, false, false, true]
  | 8 => [false, false, false, false, false]
  | 9 => [true, true, true, true, false]
  | 10 => [false, false, false, false, false]
  | 11 => [false, false, false, false, false]
  | 12 => [false, false, false, false, false]
  | _ => []
def P_M_canBy : List Nat := [0, 13, 15, 21, 25, 26, 38, 48, 53, 56, 70, 74, 75]
def K_M_canBy : KE := (⟨"NameReadersModel", "canBy", "(III)Z"⟩, prog_13_method_46_code, 5, (Option.some Jvm.ClassFile.FieldType.boolean), B_M_canBy, L_M_canBy, P_M_canBy, [1521, 1520, 63, 93, 0, 4])
def B_M_kindBehind : BT := fun b => match b with
  | 0 => (1, [(.aload_n 0, [], 0), (.getfield 31, [11, 7, 2, 1163], 0), (.iload_n 1, [], 0), (.iaload, [], 0), (.ifCond .ne 7, [2, 1], 0)])
  | 1 => (2, [(.iload_n 3, [], 0), (.goto 8, [3], 0)])
  | 2 => (3, [(.iload_n 2, [], 0), (.iconst 0, [], 0), (.invokestatic 286, [k_M_kindIn, 2, 1515], 0)])
  | 3 => (4, [(.istore 4, [], 0), (.aload_n 0, [], 0), (.getfield 31, [11, 7, 2, 1163], 0), (.iload_n 1, [], 0), (.iaload, [], 0), (.iconst 1, [], 0), (.if_icmp .ne 7, [5, 4], 0)])
  | 4 => (5, [(.iload_n 3, [], 0), (.goto 8, [6], 0)])
  | 5 => (6, [(.iload_n 2, [], 0), (.iconst 1, [], 0), (.invokestatic 286, [k_M_kindIn, 2, 1515], 0)])
  | 6 => (7, [(.istore 5, [], 0), (.aload_n 0, [], 0), (.getfield 31, [11, 7, 2, 1163], 0), (.iload_n 1, [], 0), (.iaload, [], 0), (.iconst 2, [], 0), (.if_icmp .ne 7, [8, 7], 0)])
  | 7 => (8, [(.iload_n 3, [], 0), (.goto 8, [9], 0)])
  | 8 => (9, [(.iload_n 2, [], 0), (.iconst 2, [], 0), (.invokestatic 286, [k_M_kindIn, 2, 1515], 0)])
  | 9 => (10, [(.istore 6, [], 0), (.aload_n 0, [], 0), (.getfield 34, [11, 8, 2, 1164], 0), (.iload_n 1, [], 0), (.iaload, [], 0), (.iload 4, [], 0), (.iload 5, [], 0), (.iload 6, [], 0), (.invokestatic 289, [k_M_kindOf, 4, 1526], 0), (.ireturn, [0], 0)])
  | _ => (0, [])
def L_M_kindBehind : Nat → List Bool := fun b => match b with
  | 0 => [true, true, true, true, false, false, false]
  | 1 => [true, true, true, true, false, false, false]
  | 2 => [true, true, true, true, false, false, false]
  | 3 => [true, true, true, true, false, false, false]
  | 4 => [true, true, true, true, true, false, false]
  | 5 => [true, true, true, true, true, false, false]
  | 6 => [true, true, true, true, true, false, false]
  | 7 => [true, true, false, true, true, true, false]
  | 8 => [true, true, true, false, true, true, false]
  | 9 => [true, true, false, false, true, true, false]
  | _ => []
def P_M_kindBehind : List Nat := [0, 9, 13, 18, 30, 34, 39, 51, 55, 60]
def K_M_kindBehind : KE := (⟨"NameReadersModel", "kindBehind", "(III)I"⟩, prog_13_method_47_code, 7, (Option.some Jvm.ClassFile.FieldType.int), B_M_kindBehind, L_M_kindBehind, P_M_kindBehind, [1525, 1524, 64, 93, 0, 4])
def B_M_isNameOf : BT := fun b => match b with
  | 0 => (1, [(.iload_n 1, [], 0), (.bipush 9, [], 0), (.if_icmp .eq 30, [4, 1], 0)])
  | 1 => (2, [(.iload_n 0, [], 0), (.iconst 0, [], 0), (.invokestatic 286, [k_M_kindIn, 2, 1515], 0), (.iload_n 1, [], 0), (.if_icmp .eq 21, [4, 2], 0)])
  | 2 => (3, [(.iload_n 0, [], 0), (.iconst 1, [], 0), (.invokestatic 286, [k_M_kindIn, 2, 1515], 0), (.iload_n 1, [], 0), (.if_icmp .eq 12, [4, 3], 0)])
  | 3 => (4, [(.iload_n 0, [], 0), (.iconst 2, [], 0), (.invokestatic 286, [k_M_kindIn, 2, 1515], 0), (.iload_n 1, [], 0), (.if_icmp .ne 7, [5, 4], 0)])
  | 4 => (5, [(.iconst 1, [], 0), (.goto 4, [6], 0)])
  | 5 => (6, [(.iconst 0, [], 0)])
  | 6 => (7, [(.ireturn, [1], 0)])
  | _ => (0, [])
def L_M_isNameOf : Nat → List Bool := fun b => match b with
  | 0 => [true, true]
  | 1 => [true, true]
  | 2 => [true, true]
  | 3 => [true, true]
  | 4 => [false, false]
  | 5 => [false, false]
  | 6 => [false, false]
  | _ => []
def P_M_isNameOf : List Nat := [0, 6, 15, 24, 33, 37, 38]
def K_M_isNameOf : KE := (⟨"NameReadersModel", "isNameOf", "(II)Z"⟩, prog_13_method_48_code, 2, (Option.some Jvm.ClassFile.FieldType.boolean), B_M_isNameOf, L_M_isNameOf, P_M_isNameOf, [1514, 1513, 0, 93, 1, 2])
def B_M_nameAt : BT := fun b => match b with
  | 0 => (1, [(.iload_n 0, [], 0), (.iconst 3, [], 0), (.if_icmp .ge 9, [2, 1], 0)])
  | 1 => (2, [(.iload_n 0, [], 0), (.iconst 1, [], 0), (.iadd, [], 0), (.goto 5, [3], 0)])
  | 2 => (3, [(.bipush 9, [], 0)])
  | 3 => (4, [(.ireturn, [0], 0)])
  | _ => (0, [])
def L_M_nameAt : Nat → List Bool := fun b => match b with
  | 0 => [true]
  | 1 => [true]
  | 2 => [false]
  | 3 => [false]
  | _ => []
def P_M_nameAt : List Nat := [0, 5, 11, 13]
def K_M_nameAt : KE := (⟨"NameReadersModel", "nameAt", "(I)I"⟩, prog_13_method_49_code, 1, (Option.some Jvm.ClassFile.FieldType.int), B_M_nameAt, L_M_nameAt, P_M_nameAt, [1511, 1510, 0, 93, 1, 1])
def B_M_layKinds : BT := fun b => match b with
  | 0 => (1, [(.iconst 0, [], 0), (.istore_n 2, [], 0)])
  | 1 => (2, [(.iload_n 2, [], 0), (.sipush 384, [], 0), (.if_icmp .ge 59, [10, 2], 0)])
  | 2 => (3, [(.aload_n 0, [], 0), (.getfield 98, [11, 36, 2, 1192], 0), (.iload_n 2, [], 0), (.iload_n 2, [], 0), (.bipush 6, [], 0), (.irem, [], 0), (.aload_n 0, [], 0), (.getfield 7, [11, 0, 2, 1156], 0), (.iload_n 1, [], 0), (.iaload, [], 0), (.if_icmp .ge 16, [5, 3], 0)])
  | 3 => (4, [(.aload_n 0, [], 0), (.iload_n 1, [], 0), (.iload_n 2, [], 0), (.invokevirtual 246, [k_M_isTaken, 3, 11, 1458], 0), (.ifCond .eq 7, [5, 4], 0)])
  | 4 => (5, [(.iconst 0, [], 0), (.goto 6, [6], 0)])
  | 5 => (6, [(.ldc_w 292, [0, 1508], 268435456)])
  | 6 => (7, [(.iastore, [], 0), (.aload_n 0, [], 0), (.getfield 101, [11, 37, 2, 1193], 0), (.iload_n 2, [], 0), (.iload_n 2, [], 0), (.ifCond .ne 7, [8, 7], 0)])
  | 7 => (8, [(.iconst 1, [], 0), (.goto 4, [9], 0)])
  | 8 => (9, [(.iconst 0, [], 0)])
  | 9 => (10, [(.bastore, [], 0), (.iinc 2 1, [], 0), (.goto (-60), [1], 0)])
  | 10 => (11, [(.iconst 1, [], 0), (.istore_n 2, [], 0)])
  | 11 => (12, [(.iload_n 2, [], 0), (.ifCond .eq 171, [29, 12], 0)])
  | 12 => (13, [(.iconst 0, [], 0), (.istore_n 2, [], 0), (.iconst 0, [], 0), (.istore_n 3, [], 0)])
  | 13 => (14, [(.iload_n 3, [], 0), (.sipush 384, [], 0), (.if_icmp .ge 157, [28, 14], 0)])
  | 14 => (15, [(.bipush 20, [], 0), (.iload_n 1, [], 0), (.imul, [], 0), (.istore 4, [], 0)])
  | 15 => (16, [(.iload 4, [], 0), (.bipush 20, [], 0), (.iload_n 1, [], 0), (.imul, [], 0), (.aload_n 0, [], 0), (.getfield 19, [11, 3, 2, 1159], 0), (.iload_n 1, [], 0), (.iaload, [], 0), (.iadd, [], 0), (.if_icmp .ge 129, [27, 16], 0)])
  | 16 => (17, [(.iconst 0, [], 0), (.istore 5, [], 0)])
  | 17 => (18, [(.iload 5, [], 0), (.iconst 4, [], 0), (.if_icmp .ge 114, [26, 18], 0)])
  | 18 => (19, [(.iload_n 3, [], 0), (.iload 5, [], 0), (.invokestatic 293, [k_M_nameAt, 1, 1509], 0), (.invokestatic 296, [k_M_isNameOf, 2, 1512], 0), (.ifCond .eq 96, [25, 19], 0)])
  | 19 => (20, [(.aload_n 0, [], 0), (.iload 4, [], 0), (.iload_n 3, [], 0), (.iload 5, [], 0), (.invokestatic 293, [k_M_nameAt, 1, 1509], 0), (.invokevirtual 299, [k_M_canBy, 4, 11, 1518], 0), (.ifCond .eq 81, [25, 20], 0)])
  | 20 => (21, [(.aload_n 0, [], 0), (.iload 4, [], 0), (.iload_n 3, [], 0), (.iload 5, [], 0), (.invokestatic 293, [k_M_nameAt, 1, 1509], 0), (.invokevirtual 303, [k_M_kindBehind, 4, 11, 1522], 0), (.istore 6, [], 0), (.aload_n 0, [], 0), (.getfield 98, [11, 36, 2, 1192], 0), (.iload 6, [], 0), (.iaload, [], 0), (.iconst 1, [], 0), (.iadd, [], 0), (.aload_n 0, [], 0), (.getfield 98, [11, 36, 2, 1192], 0), (.iload_n 3, [], 0), (.iaload, [], 0), (.if_icmp .ge 20, [22, 21], 0)])
  | 21 => (22, [(.aload_n 0, [], 0), (.getfield 98, [11, 36, 2, 1192], 0), (.iload_n 3, [], 0), (.aload_n 0, [], 0), (.getfield 98, [11, 36, 2, 1192], 0), (.iload 6, [], 0), (.iaload, [], 0), (.iconst 1, [], 0), (.iadd, [], 0), (.iastore, [], 0), (.iconst 1, [], 0), (.istore_n 2, [], 0)])
  | 22 => (23, [(.aload_n 0, [], 0), (.getfield 101, [11, 37, 2, 1193], 0), (.iload_n 3, [], 0), (.baload, [], 0), (.ifCond .eq 23, [25, 23], 0)])
  | 23 => (24, [(.aload_n 0, [], 0), (.getfield 101, [11, 37, 2, 1193], 0), (.iload 6, [], 0), (.baload, [], 0), (.ifCond .ne 13, [25, 24], 0)])
  | 24 => (25, [(.aload_n 0, [], 0), (.getfield 101, [11, 37, 2, 1193], 0), (.iload 6, [], 0), (.iconst 1, [], 0), (.bastore, [], 0), (.iconst 1, [], 0), (.istore_n 2, [], 0)])
  | 25 => (26, [(.iinc 5 1, [], 0), (.goto (-114), [17], 0)])
  | 26 => (27, [(.iinc 4 1, [], 0), (.goto (-139), [15], 0)])
  | 27 => (28, [(.iinc 3 1, [], 0), (.goto (-158), [13], 0)])
  | 28 => (29, [(.goto (-169), [11], 0)])
  | 29 => (30, [(.return_, [], 0)])
  | _ => (0, [])
def L_M_layKinds : Nat → List Bool := fun b => match b with
  | 0 => [true, true, false, false, false, false, false]
  | 1 => [true, true, true, false, false, false, false]
  | 2 => [true, true, true, false, false, false, false]
  | 3 => [true, true, true, false, false, false, false]
  | 4 => [true, true, true, false, false, false, false]
  | 5 => [true, true, true, false, false, false, false]
  | 6 => [true, true, true, false, false, false, false]
  | 7 => [true, true, true, false, false, false, false]
  | 8 => [true, true, true, false, false, false, false]
  | 9 => [true, true, true, false, false, false, false]
  | 10 => [true, true, false, false, false, false, false]
  | 11 => [true, true, true, false, false, false, false]
  | 12 => [true, true, false, false, false, false, false]
  | 13 => [true, true, true, true, false, false, false]
  | 14 => [true, true, true, true, false, false, false]
  | 15 => [true, true, true, true, true, false, false]
  | 16 => [true, true, true, true, true, false, false]
  | 17 => [true, true, true, true, true, true, false]
  | 18 => [true, true, true, true, true, true, false]
  | 19 => [true, true, true, true, true, true, false]
  | 20 => [true, true, true, true, true, true, false]
  | 21 => [true, true, false, true, true, true, true]
  | 22 => [true, true, true, true, true, true, true]
  | 23 => [true, true, true, true, true, true, true]
  | 24 => [true, true, false, true, true, true, true]
  | 25 => [true, true, true, true, true, true, false]
  | 26 => [true, true, true, true, true, false, false]
  | 27 => [true, true, true, true, false, false, false]
  | 28 => [true, true, true, false, false, false, false]
  | 29 => [false, false, false, false, false, false, false]
  | _ => []
def P_M_layKinds : List Nat := [0, 2, 9, 27, 36, 40, 43, 53, 57, 58, 65, 67, 71, 75, 82, 88, 104, 107, 113, 125, 140, 172, 189, 198, 208, 218, 224, 230, 236, 239]
def K_M_layKinds : KE := (⟨"NameReadersModel", "layKinds", "(I)V"⟩, prog_13_method_50_code, 7, (Option.none : Option Jvm.ClassFile.FieldType), B_M_layKinds, L_M_layKinds, P_M_layKinds, [1507, 1506, 62, 93, 0, 2])
end
section
def B_M_least : BT := fun b => match b with
  | 0 => (1, [(.iload_n 1, [], 0), (.invokestatic 155, [k_M_isReader, 1, 1330], 0), (.ifCond .ne 6, [2, 1], 0)])
  | 1 => (2, [(.bipush (-2), [], 0), (.ireturn, [0], 0)])
  | 2 => (3, [(.aload_n 0, [], 0), (.iload_n 1, [], 0), (.invokevirtual 306, [k_M_layKinds, 2, 11, 1504], 0), (.aload_n 0, [], 0), (.getfield 98, [11, 36, 2, 1192], 0), (.iconst 0, [], 0), (.iaload, [], 0), (.ldc_w 292, [0, 1508], 268435456), (.if_icmp .lt 7, [4, 3], 0)])
  | 3 => (4, [(.iconst (-1), [], 0), (.goto 9, [5], 0)])
  | 4 => (5, [(.aload_n 0, [], 0), (.getfield 98, [11, 36, 2, 1192], 0), (.iconst 0, [], 0), (.iaload, [], 0)])
  | 5 => (6, [(.ireturn, [0], 0)])
  | _ => (0, [])
def L_M_least : Nat → List Bool := fun b => match b with
  | 0 => [true, true]
  | 1 => [false, false]
  | 2 => [true, true]
  | 3 => [false, false]
  | 4 => [true, false]
  | 5 => [false, false]
  | _ => []
def P_M_least : List Nat := [0, 7, 10, 27, 31, 37]
def K_M_least : KE := (⟨"NameReadersModel", "least", "(I)I"⟩, prog_13_method_51_code, 2, (Option.some Jvm.ClassFile.FieldType.int), B_M_least, L_M_least, P_M_least, [1503, 1501, 1502, 93, 0, 2])
def B_M_wideIn : BT := fun b => match b with
  | 0 => (1, [(.iload_n 0, [], 0), (.iconst 3, [], 0), (.bipush 7, [], 0), (.iload_n 1, [], 0), (.imul, [], 0), (.iadd, [], 0), (.ishr, [], 0), (.bipush 127, [], 0), (.iand, [], 0), (.ireturn, [0], 0)])
  | _ => (0, [])
def L_M_wideIn : Nat → List Bool := fun b => match b with
  | 0 => [true, true]
  | _ => []
def P_M_wideIn : List Nat := [0]
def K_M_wideIn : KE := (⟨"NameReadersModel", "wideIn", "(II)I"⟩, prog_13_method_52_code, 2, (Option.some Jvm.ClassFile.FieldType.int), B_M_wideIn, L_M_wideIn, P_M_wideIn, [1539, 1538, 0, 93, 1, 2])
def B_M_goWide : BT := fun b => match b with
  | 0 => (1, [(.aload_n 0, [], 0), (.iconst 0, [], 0), (.putfield 309, [11, 41, 0, 1197], 0), (.iconst 0, [], 0), (.istore 5, [], 0)])
  | 1 => (2, [(.iload 5, [], 0), (.aload_n 0, [], 0), (.getfield 312, [11, 40, 0, 1196], 0), (.if_icmp .ge 289, [32, 2], 0)])
  | 2 => (3, [(.aload_n 0, [], 0), (.getfield 104, [11, 38, 2, 1194], 0), (.iload 5, [], 0), (.iaload, [], 0), (.istore 6, [], 0), (.bipush 20, [], 0), (.iload_n 1, [], 0), (.imul, [], 0), (.istore 7, [], 0)])
  | 3 => (4, [(.iload 7, [], 0), (.bipush 20, [], 0), (.iload_n 1, [], 0), (.imul, [], 0), (.aload_n 0, [], 0), (.getfield 19, [11, 3, 2, 1159], 0), (.iload_n 1, [], 0), (.iaload, [], 0), (.iadd, [], 0), (.if_icmp .ge 252, [31, 4], 0)])
  | 4 => (5, [(.iload 6, [], 0), (.iconst 0, [], 0), (.invokestatic 315, [k_M_wideIn, 2, 1537], 0), (.iload_n 3, [], 0), (.if_icmp .eq 23, [7, 5], 0)])
  | 5 => (6, [(.iload 6, [], 0), (.iconst 1, [], 0), (.invokestatic 315, [k_M_wideIn, 2, 1537], 0), (.iload_n 3, [], 0), (.if_icmp .eq 13, [7, 6], 0)])
  | 6 => (7, [(.iload 6, [], 0), (.iconst 2, [], 0), (.invokestatic 315, [k_M_wideIn, 2, 1537], 0), (.iload_n 3, [], 0), (.if_icmp .ne 7, [8, 7], 0)])
  | 7 => (8, [(.iconst 1, [], 0), (.goto 4, [9], 0)])
  | 8 => (9, [(.iconst 0, [], 0)])
  | 9 => (10, [(.istore 8, [], 0), (.aload_n 0, [], 0), (.getfield 22, [11, 4, 2, 1160], 0), (.iload 7, [], 0), (.iaload, [], 0), (.iload 6, [], 0), (.bipush 7, [], 0), (.iand, [], 0), (.if_icmp .ne 64, [17, 10], 0)])
  | 10 => (11, [(.aload_n 0, [], 0), (.getfield 25, [11, 5, 2, 1161], 0), (.iload 7, [], 0), (.iaload, [], 0), (.iload_n 2, [], 0), (.if_icmp .ne 53, [17, 11], 0)])
  | 11 => (12, [(.aload_n 0, [], 0), (.getfield 28, [11, 6, 2, 1162], 0), (.iload 7, [], 0), (.iaload, [], 0), (.iconst 4, [], 0), (.if_icmp .eq 38, [16, 12], 0)])
  | 12 => (13, [(.aload_n 0, [], 0), (.getfield 28, [11, 6, 2, 1162], 0), (.iload 7, [], 0), (.iaload, [], 0), (.iconst 3, [], 0), (.if_icmp .ne 11, [15, 13], 0)])
  | 13 => (14, [(.iload 8, [], 0), (.ifCond .ne 26, [17, 14], 0)])
  | 14 => (15, [(.goto 19, [16], 0)])
  | 15 => (16, [(.iload 6, [], 0), (.aload_n 0, [], 0), (.getfield 28, [11, 6, 2, 1162], 0), (.iload 7, [], 0), (.iaload, [], 0), (.invokestatic 315, [k_M_wideIn, 2, 1537], 0), (.iload_n 3, [], 0), (.if_icmp .ne 7, [17, 16], 0)])
  | 16 => (17, [(.iconst 1, [], 0), (.goto 4, [18], 0)])
  | 17 => (18, [(.iconst 0, [], 0)])
  | 18 => (19, [(.istore 9, [], 0), (.iload 9, [], 0), (.ifCond .eq 125, [30, 19], 0)])
  | 19 => (20, [(.aload_n 0, [], 0), (.getfield 31, [11, 7, 2, 1163], 0), (.iload 7, [], 0), (.iaload, [], 0), (.ifCond .ne 7, [21, 20], 0)])
  | 20 => (21, [(.iload_n 3, [], 0), (.goto 9, [22], 0)])
  | 21 => (22, [(.iload 6, [], 0), (.iconst 0, [], 0), (.invokestatic 315, [k_M_wideIn, 2, 1537], 0)])
  | 22 => (23, [(.istore 10, [], 0), (.aload_n 0, [], 0), (.getfield 31, [11, 7, 2, 1163], 0), (.iload 7, [], 0), (.iaload, [], 0), (.iconst 1, [], 0), (.if_icmp .ne 7, [24, 23], 0)])
  | 23 => (24, [(.iload_n 3, [], 0), (.goto 9, [25], 0)])
  | 24 => (25, [(.iload 6, [], 0), (.iconst 1, [], 0), (.invokestatic 315, [k_M_wideIn, 2, 1537], 0)])
  | 25 => (26, [(.istore 11, [], 0), (.aload_n 0, [], 0), (.getfield 31, [11, 7, 2, 1163], 0), (.iload 7, [], 0), (.iaload, [], 0), (.iconst 2, [], 0), (.if_icmp .ne 7, [27, 26], 0)])
  | 26 => (27, [(.iload_n 3, [], 0), (.goto 9, [28], 0)])
  | 27 => (28, [(.iload 6, [], 0), (.iconst 2, [], 0), (.invokestatic 315, [k_M_wideIn, 2, 1537], 0)])
  | 28 => (29, [(.istore 12, [], 0), (.aload_n 0, [], 0), (.getfield 98, [11, 36, 2, 1192], 0), (.aload_n 0, [], 0), (.getfield 34, [11, 8, 2, 1164], 0), (.iload 7, [], 0), (.iaload, [], 0), (.iload 10, [], 0), (.iload 11, [], 0), (.iload 12, [], 0), (.invokestatic 289, [k_M_kindOf, 4, 1526], 0), (.iaload, [], 0), (.iload 4, [], 0), (.if_icmp .ne 31, [30, 29], 0)])
  | 29 => (30, [(.aload_n 0, [], 0), (.aload_n 0, [], 0), (.getfield 34, [11, 8, 2, 1164], 0), (.iload 7, [], 0), (.iaload, [], 0), (.iload 10, [], 0), (.iconst 3, [], 0), (.ishl, [], 0), (.ior, [], 0), (.iload 11, [], 0), (.bipush 10, [], 0), (.ishl, [], 0), (.ior, [], 0), (.iload 12, [], 0), (.bipush 17, [], 0), (.ishl, [], 0), (.ior, [], 0), (.invokevirtual 318, [k_M_addWide, 2, 11, 1540], 0)])
  | 30 => (31, [(.iinc 7 1, [], 0), (.goto (-262), [3], 0)])
  | 31 => (32, [(.iinc 5 1, [], 0), (.goto (-292), [1], 0)])
  | 32 => (33, [(.return_, [], 0)])
  | _ => (0, [])
def L_M_goWide : Nat → List Bool := fun b => match b with
  | 0 => [true, true, true, true, true, false, false, false, false, false, false, false, false]
  | 1 => [true, true, true, true, true, true, false, false, false, false, false, false, false]
  | 2 => [true, true, true, true, true, true, false, false, false, false, false, false, false]
  | 3 => [true, true, true, true, true, true, true, true, false, false, false, false, false]
  | 4 => [true, true, true, true, true, true, true, true, false, false, false, false, false]
  | 5 => [true, true, true, true, true, true, true, true, false, false, false, false, false]
  | 6 => [true, true, true, true, true, true, true, true, false, false, false, false, false]
  | 7 => [true, true, true, true, true, true, true, true, false, false, false, false, false]
  | 8 => [true, true, true, true, true, true, true, true, false, false, false, false, false]
  | 9 => [true, true, true, true, true, true, true, true, false, false, false, false, false]
  | 10 => [true, true, true, true, true, true, true, true, true, false, false, false, false]
  | 11 => [true, true, true, true, true, true, true, true, true, false, false, false, false]
  | 12 => [true, true, true, true, true, true, true, true, true, false, false, false, false]
  | 13 => [true, true, true, true, true, true, true, true, true, false, false, false, false]
  | 14 => [true, true, true, true, true, true, true, true, false, false, false, false, false]
  | 15 => [true, true, true, true, true, true, true, true, false, false, false, false, false]
  | 16 => [true, true, true, true, true, true, true, true, false, false, false, false, false]
  | 17 => [true, true, true, true, true, true, true, true, false, false, false, false, false]
  | 18 => [true, true, true, true, true, true, true, true, false, false, false, false, false]
  | 19 => [true, true, true, true, true, true, true, true, false, false, false, false, false]
  | 20 => [true, true, true, true, true, true, true, true, false, false, false, false, false]
  | 21 => [true, true, true, true, true, true, true, true, false, false, false, false, false]
  | 22 => [true, true, true, true, true, true, true, true, false, false, false, false, false]
  | 23 => [true, true, true, true, true, true, true, true, false, false, true, false, false]
  | 24 => [true, true, true, true, true, true, true, true, false, false, true, false, false]
  | 25 => [true, true, true, true, true, true, true, true, false, false, true, false, false]
  | 26 => [true, true, true, true, true, true, true, true, false, false, true, true, false]
  | 27 => [true, true, true, true, true, true, true, true, false, false, true, true, false]
  | 28 => [true, true, true, true, true, true, true, true, false, false, true, true, false]
  | 29 => [true, true, true, true, true, true, true, true, false, false, true, true, true]
  | 30 => [true, true, true, true, true, true, true, true, false, false, false, false, false]
  | 31 => [true, true, true, true, true, true, false, false, false, false, false, false, false]
  | 32 => [false, false, false, false, false, false, false, false, false, false, false, false, false]
  | _ => []
def P_M_goWide : List Nat := [0, 8, 17, 32, 48, 58, 68, 78, 82, 83, 100, 111, 122, 133, 138, 141, 157, 161, 162, 169, 179, 183, 189, 202, 206, 212, 225, 229, 235, 263, 291, 297, 303]
def K_M_goWide : KE := (⟨"NameReadersModel", "goWide", "(IIII)V"⟩, prog_13_method_53_code, 13, (Option.none : Option Jvm.ClassFile.FieldType), B_M_goWide, L_M_goWide, P_M_goWide, [1536, 1535, 65, 93, 0, 5])
def B_M_addWide : BT := fun b => match b with
  | 0 => (1, [(.iconst 0, [], 0), (.istore_n 2, [], 0), (.iconst 0, [], 0), (.istore_n 3, [], 0)])
  | 1 => (2, [(.iload_n 3, [], 0), (.aload_n 0, [], 0), (.getfield 309, [11, 41, 0, 1197], 0), (.if_icmp .ge 29, [7, 2], 0)])
  | 2 => (3, [(.iload_n 2, [], 0), (.ifCond .ne 13, [4, 3], 0)])
  | 3 => (4, [(.aload_n 0, [], 0), (.getfield 107, [11, 39, 2, 1195], 0), (.iload_n 3, [], 0), (.iaload, [], 0), (.iload_n 1, [], 0), (.if_icmp .ne 7, [5, 4], 0)])
  | 4 => (5, [(.iconst 1, [], 0), (.goto 4, [6], 0)])
  | 5 => (6, [(.iconst 0, [], 0)])
  | 6 => (7, [(.istore_n 2, [], 0), (.iinc 3 1, [], 0), (.goto (-31), [1], 0)])
  | 7 => (8, [(.iload_n 2, [], 0), (.ifCond .ne 23, [9, 8], 0)])
  | 8 => (9, [(.aload_n 0, [], 0), (.getfield 107, [11, 39, 2, 1195], 0), (.aload_n 0, [], 0), (.getfield 309, [11, 41, 0, 1197], 0), (.iload_n 1, [], 0), (.iastore, [], 0), (.aload_n 0, [], 0), (.dup, [], 0), (.getfield 309, [11, 41, 0, 1197], 0), (.iconst 1, [], 0), (.iadd, [], 0), (.putfield 309, [11, 41, 0, 1197], 0)])
  | 9 => (10, [(.return_, [], 0)])
  | _ => (0, [])
def L_M_addWide : Nat → List Bool := fun b => match b with
  | 0 => [true, true, false, false]
  | 1 => [true, true, true, true]
  | 2 => [true, true, true, true]
  | 3 => [true, true, false, true]
  | 4 => [true, true, false, true]
  | 5 => [true, true, false, true]
  | 6 => [true, true, false, true]
  | 7 => [true, true, true, false]
  | 8 => [true, true, false, false]
  | 9 => [false, false, false, false]
  | _ => []
def P_M_addWide : List Nat := [0, 4, 12, 16, 26, 30, 31, 38, 42, 62]
def K_M_addWide : KE := (⟨"NameReadersModel", "addWide", "(I)V"⟩, prog_13_method_54_code, 4, (Option.none : Option Jvm.ClassFile.FieldType), B_M_addWide, L_M_addWide, P_M_addWide, [1543, 1542, 66, 93, 0, 2])
def B_M_first : BT := fun b => match b with
  | 0 => (1, [(.iload_n 1, [], 0), (.invokestatic 155, [k_M_isReader, 1, 1330], 0), (.ifCond .ne 6, [2, 1], 0)])
  | 1 => (2, [(.bipush (-2), [], 0), (.ireturn, [0], 0)])
  | 2 => (3, [(.iload_n 2, [], 0), (.ifCond .ge 6, [4, 3], 0)])
  | 3 => (4, [(.bipush (-3), [], 0), (.ireturn, [0], 0)])
  | 4 => (5, [(.aload_n 0, [], 0), (.iload_n 1, [], 0), (.invokevirtual 306, [k_M_layKinds, 2, 11, 1504], 0), (.aload_n 0, [], 0), (.getfield 98, [11, 36, 2, 1192], 0), (.iconst 0, [], 0), (.iaload, [], 0), (.bipush 12, [], 0), (.if_icmp .gt 13, [6, 5], 0)])
  | 5 => (6, [(.iload_n 2, [], 0), (.aload_n 0, [], 0), (.getfield 98, [11, 36, 2, 1192], 0), (.iconst 0, [], 0), (.iaload, [], 0), (.if_icmp .lt 5, [7, 6], 0)])
  | 6 => (7, [(.iconst (-1), [], 0), (.ireturn, [0], 0)])
  | 7 => (8, [(.aload_n 0, [], 0), (.getfield 104, [11, 38, 2, 1194], 0), (.iconst 0, [], 0), (.iconst 0, [], 0), (.iastore, [], 0), (.aload_n 0, [], 0), (.iconst 1, [], 0), (.putfield 312, [11, 40, 0, 1196], 0), (.iconst 0, [], 0), (.istore_n 3, [], 0), (.iconst 0, [], 0), (.istore 4, [], 0), (.iconst 0, [], 0), (.istore 5, [], 0), (.iconst 0, [], 0), (.istore 6, [], 0)])
  | 8 => (9, [(.iload 6, [], 0), (.iload_n 2, [], 0), (.if_icmp .gt 156, [25, 9], 0)])
  | 9 => (10, [(.iconst 0, [], 0), (.istore 4, [], 0), (.iconst 0, [], 0), (.istore 5, [], 0), (.aload_n 0, [], 0), (.iload_n 1, [], 0), (.iload 4, [], 0), (.iload 5, [], 0), (.iconst 1, [], 0), (.iadd, [], 0), (.aload_n 0, [], 0), (.getfield 98, [11, 36, 2, 1192], 0), (.iconst 0, [], 0), (.iaload, [], 0), (.iload 6, [], 0), (.isub, [], 0), (.iconst 1, [], 0), (.isub, [], 0), (.invokevirtual 321, [k_M_goWide, 5, 11, 1533], 0)])
  | 10 => (11, [(.aload_n 0, [], 0), (.getfield 309, [11, 41, 0, 1197], 0), (.ifCond .ne 61, [18, 11], 0)])
  | 11 => (12, [(.iload 5, [], 0), (.iload_n 3, [], 0), (.if_icmp .ge 8, [13, 12], 0)])
  | 12 => (13, [(.iload 4, [], 0), (.goto 7, [14], 0)])
  | 13 => (14, [(.iload 4, [], 0), (.iconst 1, [], 0), (.iadd, [], 0)])
  | 14 => (15, [(.istore 4, [], 0), (.iload 5, [], 0), (.iload_n 3, [], 0), (.if_icmp .ge 10, [16, 15], 0)])
  | 15 => (16, [(.iload 5, [], 0), (.iconst 1, [], 0), (.iadd, [], 0), (.goto 4, [17], 0)])
  | 16 => (17, [(.iconst 0, [], 0)])
  | 17 => (18, [(.istore 5, [], 0), (.aload_n 0, [], 0), (.iload_n 1, [], 0), (.iload 4, [], 0), (.iload 5, [], 0), (.iconst 1, [], 0), (.iadd, [], 0), (.aload_n 0, [], 0), (.getfield 98, [11, 36, 2, 1192], 0), (.iconst 0, [], 0), (.iaload, [], 0), (.iload 6, [], 0), (.isub, [], 0), (.iconst 1, [], 0), (.isub, [], 0), (.invokevirtual 321, [k_M_goWide, 5, 11, 1533], 0), (.goto (-62), [10], 0)])
  | 18 => (19, [(.iload 5, [], 0), (.iload_n 3, [], 0), (.if_icmp .ne 9, [20, 19], 0)])
  | 19 => (20, [(.iload_n 3, [], 0), (.iconst 1, [], 0), (.iadd, [], 0), (.goto 4, [21], 0)])
  | 20 => (21, [(.iload_n 3, [], 0)])
  | 21 => (22, [(.istore_n 3, [], 0), (.aload_n 0, [], 0), (.aload_n 0, [], 0), (.getfield 309, [11, 41, 0, 1197], 0), (.putfield 312, [11, 40, 0, 1196], 0), (.iconst 0, [], 0), (.istore 7, [], 0)])
  | 22 => (23, [(.iload 7, [], 0), (.aload_n 0, [], 0), (.getfield 309, [11, 41, 0, 1197], 0), (.if_icmp .ge 23, [24, 23], 0)])
  | 23 => (24, [(.aload_n 0, [], 0), (.getfield 104, [11, 38, 2, 1194], 0), (.iload 7, [], 0), (.aload_n 0, [], 0), (.getfield 107, [11, 39, 2, 1195], 0), (.iload 7, [], 0), (.iaload, [], 0), (.iastore, [], 0), (.iinc 7 1, [], 0), (.goto (-26), [22], 0)])
  | 24 => (25, [(.iinc 6 1, [], 0), (.goto (-156), [8], 0)])
  | 25 => (26, [(.bipush 16, [], 0), (.iload 4, [], 0), (.imul, [], 0), (.iload 5, [], 0), (.bipush 15, [], 0), (.if_icmp .le 8, [27, 26], 0)])
  | 26 => (27, [(.bipush 15, [], 0), (.goto 5, [28], 0)])
  | 27 => (28, [(.iload 5, [], 0)])
  | 28 => (29, [(.iadd, [], 0), (.ireturn, [0], 0)])
  | _ => (0, [])
def L_M_first : Nat → List Bool := fun b => match b with
  | 0 => [true, true, true, false, false, false, false, false]
  | 1 => [false, false, false, false, false, false, false, false]
  | 2 => [true, true, true, false, false, false, false, false]
  | 3 => [false, false, false, false, false, false, false, false]
  | 4 => [true, true, true, false, false, false, false, false]
  | 5 => [true, true, true, false, false, false, false, false]
  | 6 => [false, false, false, false, false, false, false, false]
  | 7 => [true, true, true, false, false, false, false, false]
  | 8 => [true, true, true, true, true, true, true, false]
  | 9 => [true, true, true, true, false, false, true, false]
  | 10 => [true, true, true, true, true, true, true, false]
  | 11 => [true, true, true, true, true, true, true, false]
  | 12 => [true, true, true, true, true, true, true, false]
  | 13 => [true, true, true, true, true, true, true, false]
  | 14 => [true, true, true, true, false, true, true, false]
  | 15 => [true, true, true, true, true, true, true, false]
  | 16 => [true, true, true, true, true, false, true, false]
  | 17 => [true, true, true, true, true, false, true, false]
  | 18 => [true, true, true, true, true, true, true, false]
  | 19 => [true, true, true, true, true, true, true, false]
  | 20 => [true, true, true, true, true, true, true, false]
  | 21 => [true, true, true, false, true, true, true, false]
  | 22 => [true, true, true, true, true, true, true, true]
  | 23 => [true, true, true, true, true, true, true, true]
  | 24 => [true, true, true, true, true, true, true, false]
  | 25 => [false, false, false, false, true, true, false, false]
  | 26 => [false, false, false, false, false, false, false, false]
  | 27 => [false, false, false, false, false, true, false, false]
  | 28 => [false, false, false, false, false, false, false, false]
  | _ => []
def P_M_first : List Nat := [0, 7, 10, 14, 17, 33, 43, 45, 68, 74, 102, 109, 115, 120, 124, 132, 139, 140, 167, 173, 179, 180, 192, 201, 221, 227, 239, 244, 246]
def K_M_first : KE := (⟨"NameReadersModel", "first", "(II)I"⟩, prog_13_method_55_code, 8, (Option.some Jvm.ClassFile.FieldType.int), B_M_first, L_M_first, P_M_first, [1532, 1530, 1531, 93, 0, 3])
def B_M_useless : BT := fun b => match b with
  | 0 => (1, [(.iload_n 1, [], 0), (.invokestatic 155, [k_M_isReader, 1, 1330], 0), (.ifCond .ne 6, [2, 1], 0)])
  | 1 => (2, [(.bipush (-2), [], 0), (.ireturn, [0], 0)])
  | 2 => (3, [(.aload_n 0, [], 0), (.iload_n 1, [], 0), (.invokevirtual 306, [k_M_layKinds, 2, 11, 1504], 0), (.iconst 0, [], 0), (.istore_n 2, [], 0), (.iconst 0, [], 0), (.istore_n 3, [], 0)])
  | 3 => (4, [(.iload_n 3, [], 0), (.sipush 384, [], 0), (.if_icmp .ge 139, [20, 4], 0)])
  | 4 => (5, [(.bipush 20, [], 0), (.iload_n 1, [], 0), (.imul, [], 0), (.istore 4, [], 0)])
  | 5 => (6, [(.iload 4, [], 0), (.bipush 20, [], 0), (.iload_n 1, [], 0), (.imul, [], 0), (.aload_n 0, [], 0), (.getfield 19, [11, 3, 2, 1159], 0), (.iload_n 1, [], 0), (.iaload, [], 0), (.iadd, [], 0), (.if_icmp .ge 111, [19, 6], 0)])
  | 6 => (7, [(.iconst 0, [], 0), (.istore 5, [], 0)])
  | 7 => (8, [(.iload 5, [], 0), (.iconst 4, [], 0), (.if_icmp .ge 96, [18, 8], 0)])
  | 8 => (9, [(.aload_n 0, [], 0), (.getfield 101, [11, 37, 2, 1193], 0), (.iload_n 3, [], 0), (.baload, [], 0), (.ifCond .eq 57, [13, 9], 0)])
  | 9 => (10, [(.iload_n 3, [], 0), (.iload 5, [], 0), (.invokestatic 293, [k_M_nameAt, 1, 1509], 0), (.invokestatic 296, [k_M_isNameOf, 2, 1512], 0), (.ifCond .eq 45, [13, 10], 0)])
  | 10 => (11, [(.aload_n 0, [], 0), (.iload 4, [], 0), (.iload_n 3, [], 0), (.iload 5, [], 0), (.invokestatic 293, [k_M_nameAt, 1, 1509], 0), (.invokevirtual 299, [k_M_canBy, 4, 11, 1518], 0), (.ifCond .eq 30, [13, 11], 0)])
  | 11 => (12, [(.aload_n 0, [], 0), (.getfield 98, [11, 36, 2, 1192], 0), (.aload_n 0, [], 0), (.iload 4, [], 0), (.iload_n 3, [], 0), (.iload 5, [], 0), (.invokestatic 293, [k_M_nameAt, 1, 1509], 0), (.invokevirtual 303, [k_M_kindBehind, 4, 11, 1522], 0), (.iaload, [], 0), (.ldc_w 292, [0, 1508], 268435456), (.if_icmp .ge 7, [13, 12], 0)])
  | 12 => (13, [(.iconst 1, [], 0), (.goto 4, [14], 0)])
  | 13 => (14, [(.iconst 0, [], 0)])
  | 14 => (15, [(.istore 6, [], 0), (.iload_n 2, [], 0), (.iload 6, [], 0), (.ifCond .eq 15, [16, 15], 0)])
  | 15 => (16, [(.iconst 1, [], 0), (.iload 4, [], 0), (.bipush 20, [], 0), (.iload_n 1, [], 0), (.imul, [], 0), (.isub, [], 0), (.ishl, [], 0), (.goto 4, [17], 0)])
  | 16 => (17, [(.iconst 0, [], 0)])
  | 17 => (18, [(.ior, [], 0), (.istore_n 2, [], 0), (.iinc 5 1, [], 0), (.goto (-96), [7], 0)])
  | 18 => (19, [(.iinc 4 1, [], 0), (.goto (-121), [5], 0)])
  | 19 => (20, [(.iinc 3 1, [], 0), (.goto (-140), [3], 0)])
  | 20 => (21, [(.iconst 1, [], 0), (.aload_n 0, [], 0), (.getfield 19, [11, 3, 2, 1159], 0), (.iload_n 1, [], 0), (.iaload, [], 0), (.ishl, [], 0), (.iconst 1, [], 0), (.isub, [], 0), (.iload_n 2, [], 0), (.iconst (-1), [], 0), (.ixor, [], 0), (.iand, [], 0), (.ireturn, [0], 0)])
  | _ => (0, [])
def L_M_useless : Nat → List Bool := fun b => match b with
  | 0 => [true, true, false, false, false, false, false]
  | 1 => [false, false, false, false, false, false, false]
  | 2 => [true, true, false, false, false, false, false]
  | 3 => [true, true, true, true, false, false, false]
  | 4 => [true, true, true, true, false, false, false]
  | 5 => [true, true, true, true, true, false, false]
  | 6 => [true, true, true, true, true, false, false]
  | 7 => [true, true, true, true, true, true, false]
  | 8 => [true, true, true, true, true, true, false]
  | 9 => [true, true, true, true, true, true, false]
  | 10 => [true, true, true, true, true, true, false]
  | 11 => [true, true, true, true, true, true, false]
  | 12 => [true, true, true, true, true, true, false]
  | 13 => [true, true, true, true, true, true, false]
  | 14 => [true, true, true, true, true, true, false]
  | 15 => [true, true, false, true, true, true, false]
  | 16 => [true, true, false, true, true, true, false]
  | 17 => [true, true, false, true, true, true, false]
  | 18 => [true, true, true, true, true, false, false]
  | 19 => [true, true, true, true, false, false, false]
  | 20 => [true, true, true, false, false, false, false]
  | _ => []
def P_M_useless : List Nat := [0, 7, 10, 19, 26, 32, 48, 51, 57, 66, 78, 93, 116, 120, 121, 129, 141, 142, 150, 156, 162]
def K_M_useless : KE := (⟨"NameReadersModel", "useless", "(I)I"⟩, prog_13_method_56_code, 7, (Option.some Jvm.ClassFile.FieldType.int), B_M_useless, L_M_useless, P_M_useless, [1547, 1545, 1546, 93, 0, 2])
def B_M_twofold : BT := fun b => match b with
  | 0 => (1, [(.iload_n 1, [], 0), (.invokestatic 155, [k_M_isReader, 1, 1330], 0), (.ifCond .ne 6, [2, 1], 0)])
  | 1 => (2, [(.bipush (-2), [], 0), (.ireturn, [0], 0)])
  | 2 => (3, [(.aload_n 0, [], 0), (.iload_n 1, [], 0), (.invokevirtual 306, [k_M_layKinds, 2, 11, 1504], 0), (.iconst 0, [], 0), (.istore_n 2, [], 0)])
  | 3 => (4, [(.iload_n 2, [], 0), (.aload_n 0, [], 0), (.getfield 19, [11, 3, 2, 1159], 0), (.iload_n 1, [], 0), (.iaload, [], 0), (.if_icmp .ge 168, [23, 4], 0)])
  | 4 => (5, [(.iload_n 2, [], 0), (.iconst 1, [], 0), (.iadd, [], 0), (.istore_n 3, [], 0)])
  | 5 => (6, [(.iload_n 3, [], 0), (.aload_n 0, [], 0), (.getfield 19, [11, 3, 2, 1159], 0), (.iload_n 1, [], 0), (.iaload, [], 0), (.if_icmp .ge 148, [22, 6], 0)])
  | 6 => (7, [(.iconst 0, [], 0), (.istore 4, [], 0)])
  | 7 => (8, [(.iload 4, [], 0), (.sipush 384, [], 0), (.if_icmp .ge 131, [21, 8], 0)])
  | 8 => (9, [(.iconst 0, [], 0), (.istore 5, [], 0)])
  | 9 => (10, [(.iload 5, [], 0), (.iconst 4, [], 0), (.if_icmp .ge 116, [20, 10], 0)])
  | 10 => (11, [(.aload_n 0, [], 0), (.getfield 101, [11, 37, 2, 1193], 0), (.iload 4, [], 0), (.baload, [], 0), (.ifCond .eq 45, [14, 11], 0)])
  | 11 => (12, [(.aload_n 0, [], 0), (.getfield 25, [11, 5, 2, 1161], 0), (.bipush 20, [], 0), (.iload_n 1, [], 0), (.imul, [], 0), (.iload_n 2, [], 0), (.iadd, [], 0), (.iaload, [], 0), (.aload_n 0, [], 0), (.getfield 25, [11, 5, 2, 1161], 0), (.bipush 20, [], 0), (.iload_n 1, [], 0), (.imul, [], 0), (.iload_n 3, [], 0), (.iadd, [], 0), (.iaload, [], 0), (.if_icmp .ne 20, [14, 12], 0)])
  | 12 => (13, [(.iload 4, [], 0), (.iload 5, [], 0), (.invokestatic 293, [k_M_nameAt, 1, 1509], 0), (.invokestatic 296, [k_M_isNameOf, 2, 1512], 0), (.ifCond .eq 7, [14, 13], 0)])
  | 13 => (14, [(.iconst 1, [], 0), (.goto 4, [15], 0)])
  | 14 => (15, [(.iconst 0, [], 0)])
  | 15 => (16, [(.istore 6, [], 0), (.iload 6, [], 0), (.ifCond .eq 50, [19, 16], 0)])
  | 16 => (17, [(.aload_n 0, [], 0), (.bipush 20, [], 0), (.iload_n 1, [], 0), (.imul, [], 0), (.iload_n 2, [], 0), (.iadd, [], 0), (.iload 4, [], 0), (.iload 5, [], 0), (.invokestatic 293, [k_M_nameAt, 1, 1509], 0), (.invokevirtual 299, [k_M_canBy, 4, 11, 1518], 0), (.ifCond .eq 30, [19, 17], 0)])
  | 17 => (18, [(.aload_n 0, [], 0), (.bipush 20, [], 0), (.iload_n 1, [], 0), (.imul, [], 0), (.iload_n 3, [], 0), (.iadd, [], 0), (.iload 4, [], 0), (.iload 5, [], 0), (.invokestatic 293, [k_M_nameAt, 1, 1509], 0), (.invokevirtual 299, [k_M_canBy, 4, 11, 1518], 0), (.ifCond .eq 10, [19, 18], 0)])
  | 18 => (19, [(.bipush 32, [], 0), (.iload_n 2, [], 0), (.imul, [], 0), (.iload_n 3, [], 0), (.iadd, [], 0), (.ireturn, [0], 0)])
  | 19 => (20, [(.iinc 5 1, [], 0), (.goto (-116), [9], 0)])
  | 20 => (21, [(.iinc 4 1, [], 0), (.goto (-133), [7], 0)])
  | 21 => (22, [(.iinc 3 1, [], 0), (.goto (-152), [5], 0)])
  | 22 => (23, [(.iinc 2 1, [], 0), (.goto (-172), [3], 0)])
  | 23 => (24, [(.iconst (-1), [], 0), (.ireturn, [0], 0)])
  | _ => (0, [])
def L_M_twofold : Nat → List Bool := fun b => match b with
  | 0 => [true, true, false, false, false, false, false]
  | 1 => [false, false, false, false, false, false, false]
  | 2 => [true, true, false, false, false, false, false]
  | 3 => [true, true, true, false, false, false, false]
  | 4 => [true, true, true, false, false, false, false]
  | 5 => [true, true, true, true, false, false, false]
  | 6 => [true, true, true, true, false, false, false]
  | 7 => [true, true, true, true, true, false, false]
  | 8 => [true, true, true, true, true, false, false]
  | 9 => [true, true, true, true, true, true, false]
  | 10 => [true, true, true, true, true, true, false]
  | 11 => [true, true, true, true, true, true, false]
  | 12 => [true, true, true, true, true, true, false]
  | 13 => [true, true, true, true, true, true, false]
  | 14 => [true, true, true, true, true, true, false]
  | 15 => [true, true, true, true, true, true, false]
  | 16 => [true, true, true, true, true, true, false]
  | 17 => [true, true, true, true, true, true, false]
  | 18 => [false, false, true, true, false, false, false]
  | 19 => [true, true, true, true, true, true, false]
  | 20 => [true, true, true, true, true, false, false]
  | 21 => [true, true, true, true, false, false, false]
  | 22 => [true, true, true, false, false, false, false]
  | 23 => [false, false, false, false, false, false, false]
  | _ => []
def P_M_twofold : List Nat := [0, 7, 10, 17, 27, 31, 41, 44, 52, 55, 61, 71, 96, 109, 113, 114, 121, 141, 161, 168, 174, 180, 186, 192]
def K_M_twofold : KE := (⟨"NameReadersModel", "twofold", "(I)I"⟩, prog_13_method_57_code, 7, (Option.some Jvm.ClassFile.FieldType.int), B_M_twofold, L_M_twofold, P_M_twofold, [1551, 1549, 1550, 93, 0, 2])
def B_M_power : BT := fun b => match b with
  | 0 => (1, [(.iload_n 0, [], 0), (.ifCond .ne 7, [2, 1], 0)])
  | 1 => (2, [(.iconst 1, [], 0), (.goto 48, [11], 0)])
  | 2 => (3, [(.iload_n 0, [], 0), (.iconst 1, [], 0), (.if_icmp .ne 8, [4, 3], 0)])
  | 3 => (4, [(.bipush 7, [], 0), (.goto 38, [11], 0)])
  | 4 => (5, [(.iload_n 0, [], 0), (.iconst 2, [], 0), (.if_icmp .ne 8, [6, 5], 0)])
  | 5 => (6, [(.bipush 49, [], 0), (.goto 28, [11], 0)])
  | 6 => (7, [(.iload_n 0, [], 0), (.iconst 3, [], 0), (.if_icmp .ne 9, [8, 7], 0)])
  | 7 => (8, [(.sipush 343, [], 0), (.goto 17, [11], 0)])
  | 8 => (9, [(.iload_n 0, [], 0), (.iconst 4, [], 0), (.if_icmp .ne 9, [10, 9], 0)])
  | 9 => (10, [(.sipush 2401, [], 0), (.goto 6, [11], 0)])
  | 10 => (11, [(.sipush 16807, [], 0)])
  | 11 => (12, [(.ireturn, [0], 0)])
  | _ => (0, [])
def L_M_power : Nat → List Bool := fun b => match b with
  | 0 => [true]
  | 1 => [false]
  | 2 => [true]
  | 3 => [false]
  | 4 => [true]
  | 5 => [false]
  | 6 => [true]
  | 7 => [false]
  | 8 => [true]
  | 9 => [false]
  | 10 => [false]
  | 11 => [false]
  | _ => []
def P_M_power : List Nat := [0, 4, 8, 13, 18, 23, 28, 33, 39, 44, 50, 53]
def K_M_power : KE := (⟨"NameReadersModel", "power", "(I)I"⟩, prog_13_method_58_code, 1, (Option.some Jvm.ClassFile.FieldType.int), B_M_power, L_M_power, P_M_power, [1564, 1563, 0, 93, 1, 1])
def B_M_together : BT := fun b => match b with
  | 0 => (1, [(.iconst 0, [], 0), (.istore_n 3, [], 0), (.iconst 0, [], 0), (.istore 4, [], 0), (.iconst 0, [], 0), (.istore 5, [], 0)])
  | 1 => (2, [(.iload 5, [], 0), (.bipush 6, [], 0), (.if_icmp .ge 95, [12, 2], 0)])
  | 2 => (3, [(.iconst 0, [], 0), (.istore 6, [], 0), (.aload_n 0, [], 0), (.getfield 124, [11, 47, 2, 1203], 0), (.iload 5, [], 0), (.iaload, [], 0), (.ifCond .eq 65, [11, 3], 0)])
  | 3 => (4, [(.iconst 0, [], 0), (.istore 7, [], 0)])
  | 4 => (5, [(.iload 7, [], 0), (.iload 5, [], 0), (.if_icmp .ge 43, [9, 5], 0)])
  | 5 => (6, [(.aload_n 0, [], 0), (.getfield 124, [11, 47, 2, 1203], 0), (.iload 7, [], 0), (.iaload, [], 0), (.aload_n 0, [], 0), (.getfield 124, [11, 47, 2, 1203], 0), (.iload 5, [], 0), (.iaload, [], 0), (.if_icmp .ne 16, [7, 6], 0)])
  | 6 => (7, [(.iload_n 3, [], 0), (.iload 7, [], 0), (.invokestatic 324, [k_M_power, 1, 1562], 0), (.idiv, [], 0), (.bipush 7, [], 0), (.irem, [], 0), (.goto 5, [8], 0)])
  | 7 => (8, [(.iload 6, [], 0)])
  | 8 => (9, [(.istore 6, [], 0), (.iinc 7 1, [], 0), (.goto (-44), [4], 0)])
  | 9 => (10, [(.iload 6, [], 0), (.ifCond .ne 10, [11, 10], 0)])
  | 10 => (11, [(.iinc 4 1, [], 0), (.iload 4, [], 0), (.istore 6, [], 0)])
  | 11 => (12, [(.iload_n 3, [], 0), (.iload 6, [], 0), (.iload 5, [], 0), (.invokestatic 324, [k_M_power, 1, 1562], 0), (.imul, [], 0), (.iadd, [], 0), (.istore_n 3, [], 0), (.iinc 5 1, [], 0), (.goto (-96), [1], 0)])
  | 12 => (13, [(.iload_n 1, [], 0), (.bipush 6, [], 0), (.iload_n 2, [], 0), (.imul, [], 0), (.iadd, [], 0), (.bipush 36, [], 0), (.iload_n 3, [], 0), (.imul, [], 0), (.iadd, [], 0), (.ireturn, [0], 0)])
  | _ => (0, [])
def L_M_together : Nat → List Bool := fun b => match b with
  | 0 => [true, true, true, false, false, false, false, false]
  | 1 => [true, true, true, true, true, true, false, false]
  | 2 => [true, true, true, true, true, true, false, false]
  | 3 => [true, true, true, true, true, true, true, false]
  | 4 => [true, true, true, true, true, true, true, true]
  | 5 => [true, true, true, true, true, true, true, true]
  | 6 => [true, true, true, true, true, true, false, true]
  | 7 => [true, true, true, true, true, true, true, true]
  | 8 => [true, true, true, true, true, true, false, true]
  | 9 => [true, true, true, true, true, true, true, false]
  | 10 => [true, true, true, true, true, true, false, false]
  | 11 => [true, true, true, true, true, true, true, false]
  | 12 => [false, true, true, true, false, false, false, false]
  | _ => []
def P_M_together : List Nat := [0, 8, 15, 28, 31, 38, 55, 68, 70, 78, 83, 90, 107]
def K_M_together : KE := (⟨"NameReadersModel", "together", "(II)I"⟩, prog_13_method_59_code, 8, (Option.some Jvm.ClassFile.FieldType.int), B_M_together, L_M_together, P_M_together, [1576, 1575, 70, 93, 0, 3])
def B_M_meet : BT := fun b => match b with
  | 0 => (1, [(.iload_n 1, [], 0), (.ldc_w 327, [0, 1560], 40503), (.imul, [], 0), (.ldc_w 328, [0, 1561], 2147483647), (.iand, [], 0), (.ldc 110, [0, 1154], 65536), (.irem, [], 0), (.istore_n 3, [], 0)])
  | 1 => (2, [(.aload_n 0, [], 0), (.getfield 111, [11, 42, 2, 1198], 0), (.iload_n 3, [], 0), (.iaload, [], 0), (.ifCond .eq 25, [4, 2], 0)])
  | 2 => (3, [(.aload_n 0, [], 0), (.getfield 111, [11, 42, 2, 1198], 0), (.iload_n 3, [], 0), (.iaload, [], 0), (.iload_n 1, [], 0), (.iconst 1, [], 0), (.iadd, [], 0), (.if_icmp .eq 13, [4, 3], 0)])
  | 3 => (4, [(.iload_n 3, [], 0), (.iconst 1, [], 0), (.iadd, [], 0), (.ldc 110, [0, 1154], 65536), (.irem, [], 0), (.istore_n 3, [], 0), (.goto (-28), [1], 0)])
  | 4 => (5, [(.aload_n 0, [], 0), (.getfield 111, [11, 42, 2, 1198], 0), (.iload_n 3, [], 0), (.iaload, [], 0), (.ifCond .ne 42, [6, 5], 0)])
  | 5 => (6, [(.aload_n 0, [], 0), (.getfield 111, [11, 42, 2, 1198], 0), (.iload_n 3, [], 0), (.iload_n 1, [], 0), (.iconst 1, [], 0), (.iadd, [], 0), (.iastore, [], 0), (.aload_n 0, [], 0), (.getfield 115, [11, 43, 2, 1199], 0), (.aload_n 0, [], 0), (.getfield 329, [11, 45, 0, 1201], 0), (.iload_n 1, [], 0), (.iastore, [], 0), (.aload_n 0, [], 0), (.getfield 118, [11, 44, 2, 1200], 0), (.aload_n 0, [], 0), (.getfield 329, [11, 45, 0, 1201], 0), (.iload_n 2, [], 0), (.iastore, [], 0), (.aload_n 0, [], 0), (.dup, [], 0), (.getfield 329, [11, 45, 0, 1201], 0), (.iconst 1, [], 0), (.iadd, [], 0), (.putfield 329, [11, 45, 0, 1201], 0)])
  | 6 => (7, [(.return_, [], 0)])
  | _ => (0, [])
def L_M_meet : Nat → List Bool := fun b => match b with
  | 0 => [true, true, true, false]
  | 1 => [true, true, true, true]
  | 2 => [true, true, true, true]
  | 3 => [true, true, true, true]
  | 4 => [true, true, true, true]
  | 5 => [true, true, true, true]
  | 6 => [false, false, false, false]
  | _ => []
def P_M_meet : List Nat := [0, 13, 22, 34, 44, 53, 92]
def K_M_meet : KE := (⟨"NameReadersModel", "meet", "(II)V"⟩, prog_13_method_60_code, 4, (Option.none : Option Jvm.ClassFile.FieldType), B_M_meet, L_M_meet, P_M_meet, [1559, 1558, 67, 93, 0, 3])
def B_M_canHere : BT := fun b => match b with
  | 0 => (1, [(.aload_n 0, [], 0), (.getfield 22, [11, 4, 2, 1160], 0), (.iload_n 1, [], 0), (.iaload, [], 0), (.iload_n 2, [], 0), (.if_icmp .ne 13, [2, 1], 0)])
  | 1 => (2, [(.aload_n 0, [], 0), (.getfield 25, [11, 5, 2, 1161], 0), (.iload_n 1, [], 0), (.iaload, [], 0), (.iload_n 3, [], 0), (.if_icmp .eq 5, [3, 2], 0)])
  | 2 => (3, [(.iconst 0, [], 0), (.ireturn, [1], 0)])
  | 3 => (4, [(.aload_n 0, [], 0), (.getfield 121, [11, 46, 2, 1202], 0), (.iload 5, [], 0), (.iaload, [], 0), (.iload 4, [], 0), (.if_icmp .eq 31, [6, 4], 0)])
  | 4 => (5, [(.aload_n 0, [], 0), (.getfield 121, [11, 46, 2, 1202], 0), (.iload 5, [], 0), (.iconst 1, [], 0), (.iadd, [], 0), (.iaload, [], 0), (.iload 4, [], 0), (.if_icmp .eq 17, [6, 5], 0)])
  | 5 => (6, [(.aload_n 0, [], 0), (.getfield 121, [11, 46, 2, 1202], 0), (.iload 5, [], 0), (.iconst 2, [], 0), (.iadd, [], 0), (.iaload, [], 0), (.iload 4, [], 0), (.if_icmp .ne 7, [7, 6], 0)])
  | 6 => (7, [(.iconst 1, [], 0), (.goto 4, [8], 0)])
  | 7 => (8, [(.iconst 0, [], 0)])
  | 8 => (9, [(.istore 6, [], 0), (.aload_n 0, [], 0), (.getfield 28, [11, 6, 2, 1162], 0), (.iload_n 1, [], 0), (.iaload, [], 0), (.iconst 4, [], 0), (.if_icmp .eq 40, [13, 9], 0)])
  | 9 => (10, [(.aload_n 0, [], 0), (.getfield 28, [11, 6, 2, 1162], 0), (.iload_n 1, [], 0), (.iaload, [], 0), (.iconst 3, [], 0), (.if_icmp .ne 11, [12, 10], 0)])
  | 10 => (11, [(.iload 6, [], 0), (.ifCond .ne 29, [14, 11], 0)])
  | 11 => (12, [(.goto 22, [13], 0)])
  | 12 => (13, [(.aload_n 0, [], 0), (.getfield 121, [11, 46, 2, 1202], 0), (.iload 5, [], 0), (.aload_n 0, [], 0), (.getfield 28, [11, 6, 2, 1162], 0), (.iload_n 1, [], 0), (.iaload, [], 0), (.iadd, [], 0), (.iaload, [], 0), (.iload 4, [], 0), (.if_icmp .ne 7, [14, 13], 0)])
  | 13 => (14, [(.iconst 1, [], 0), (.goto 4, [15], 0)])
  | 14 => (15, [(.iconst 0, [], 0)])
  | 15 => (16, [(.ireturn, [1], 0)])
  | _ => (0, [])
def L_M_canHere : Nat → List Bool := fun b => match b with
  | 0 => [true, true, true, true, true, true, false]
  | 1 => [true, true, false, true, true, true, false]
  | 2 => [false, false, false, false, false, false, false]
  | 3 => [true, true, false, false, true, true, false]
  | 4 => [true, true, false, false, true, true, false]
  | 5 => [true, true, false, false, true, true, false]
  | 6 => [true, true, false, false, true, true, false]
  | 7 => [true, true, false, false, true, true, false]
  | 8 => [true, true, false, false, true, true, false]
  | 9 => [true, true, false, false, true, true, true]
  | 10 => [false, false, false, false, false, false, true]
  | 11 => [false, false, false, false, false, false, false]
  | 12 => [true, true, false, false, true, true, false]
  | 13 => [false, false, false, false, false, false, false]
  | 14 => [false, false, false, false, false, false, false]
  | 15 => [false, false, false, false, false, false, false]
  | _ => []
def P_M_canHere : List Nat := [0, 10, 20, 22, 34, 48, 62, 66, 67, 79, 89, 94, 97, 116, 120, 121]
def K_M_canHere : KE := (⟨"NameReadersModel", "canHere", "(IIIII)Z"⟩, prog_13_method_61_code, 7, (Option.some Jvm.ClassFile.FieldType.boolean), B_M_canHere, L_M_canHere, P_M_canHere, [1568, 1567, 68, 93, 0, 6])
def B_M_both : BT := fun b => match b with
  | 0 => (1, [(.iconst 0, [], 0), (.istore_n 1, [], 0)])
  | 1 => (2, [(.iload_n 1, [], 0), (.ldc 110, [0, 1154], 65536), (.if_icmp .ge 16, [3, 2], 0)])
  | 2 => (3, [(.aload_n 0, [], 0), (.getfield 111, [11, 42, 2, 1198], 0), (.iload_n 1, [], 0), (.iconst 0, [], 0), (.iastore, [], 0), (.iinc 1 1, [], 0), (.goto (-16), [1], 0)])
  | 3 => (4, [(.aload_n 0, [], 0), (.iconst 0, [], 0), (.putfield 329, [11, 45, 0, 1201], 0), (.aload_n 0, [], 0), (.iconst 0, [], 0), (.iconst 0, [], 0), (.invokevirtual 332, [k_M_meet, 3, 11, 1556], 0), (.iconst 0, [], 0), (.istore_n 1, [], 0)])
  | 4 => (5, [(.iload_n 1, [], 0), (.aload_n 0, [], 0), (.getfield 329, [11, 45, 0, 1201], 0), (.if_icmp .ge 202, [23, 5], 0)])
  | 5 => (6, [(.aload_n 0, [], 0), (.getfield 115, [11, 43, 2, 1199], 0), (.iload_n 1, [], 0), (.iaload, [], 0), (.bipush 6, [], 0), (.irem, [], 0), (.istore_n 2, [], 0), (.aload_n 0, [], 0), (.getfield 115, [11, 43, 2, 1199], 0), (.iload_n 1, [], 0), (.iaload, [], 0), (.bipush 6, [], 0), (.idiv, [], 0), (.bipush 6, [], 0), (.irem, [], 0), (.istore_n 3, [], 0), (.aload_n 0, [], 0), (.iconst 0, [], 0), (.iload_n 2, [], 0), (.invokevirtual 246, [k_M_isTaken, 3, 11, 1458], 0), (.ifCond .eq 19, [8, 6], 0)])
  | 6 => (7, [(.aload_n 0, [], 0), (.iconst 1, [], 0), (.iload_n 3, [], 0), (.invokevirtual 246, [k_M_isTaken, 3, 11, 1458], 0), (.ifCond .eq 10, [8, 7], 0)])
  | 7 => (8, [(.aload_n 0, [], 0), (.getfield 118, [11, 44, 2, 1200], 0), (.iload_n 1, [], 0), (.iaload, [], 0), (.ireturn, [0], 0)])
  | 8 => (9, [(.iconst 0, [], 0), (.istore 4, [], 0), (.iconst 0, [], 0), (.istore 5, [], 0)])
  | 9 => (10, [(.iload 5, [], 0), (.bipush 6, [], 0), (.if_icmp .ge 60, [14, 10], 0)])
  | 10 => (11, [(.aload_n 0, [], 0), (.getfield 121, [11, 46, 2, 1202], 0), (.iload 5, [], 0), (.aload_n 0, [], 0), (.getfield 115, [11, 43, 2, 1199], 0), (.iload_n 1, [], 0), (.iaload, [], 0), (.bipush 36, [], 0), (.idiv, [], 0), (.iload 5, [], 0), (.invokestatic 324, [k_M_power, 1, 1562], 0), (.idiv, [], 0), (.bipush 7, [], 0), (.irem, [], 0), (.iastore, [], 0), (.aload_n 0, [], 0), (.getfield 121, [11, 46, 2, 1202], 0), (.iload 5, [], 0), (.iaload, [], 0), (.iload 4, [], 0), (.if_icmp .le 13, [12, 11], 0)])
  | 11 => (12, [(.aload_n 0, [], 0), (.getfield 121, [11, 46, 2, 1202], 0), (.iload 5, [], 0), (.iaload, [], 0), (.goto 5, [13], 0)])
  | 12 => (13, [(.iload 4, [], 0)])
  | 13 => (14, [(.istore 4, [], 0), (.iinc 5 1, [], 0), (.goto (-61), [9], 0)])
  | 14 => (15, [(.iconst 0, [], 0), (.istore 5, [], 0)])
  | 15 => (16, [(.iload 5, [], 0), (.aload_n 0, [], 0), (.getfield 19, [11, 3, 2, 1159], 0), (.iconst 0, [], 0), (.iaload, [], 0), (.if_icmp .ge 64, [22, 16], 0)])
  | 16 => (17, [(.iconst 1, [], 0), (.istore 6, [], 0)])
  | 17 => (18, [(.iload 6, [], 0), (.iload 4, [], 0), (.iconst 1, [], 0), (.iadd, [], 0), (.if_icmp .gt 46, [21, 18], 0)])
  | 18 => (19, [(.aload_n 0, [], 0), (.iload 5, [], 0), (.iload_n 2, [], 0), (.aload_n 0, [], 0), (.getfield 25, [11, 5, 2, 1161], 0), (.iload 5, [], 0), (.iaload, [], 0), (.iload 6, [], 0), (.iconst 0, [], 0), (.invokevirtual 336, [k_M_canHere, 6, 11, 1565], 0), (.ifCond .eq 20, [20, 19], 0)])
  | 19 => (20, [(.aload_n 0, [], 0), (.iload 5, [], 0), (.iload_n 3, [], 0), (.iload 6, [], 0), (.aload_n 0, [], 0), (.getfield 118, [11, 44, 2, 1200], 0), (.iload_n 1, [], 0), (.iaload, [], 0), (.iconst 1, [], 0), (.iadd, [], 0), (.invokevirtual 340, [k_M_goBoth, 5, 11, 1569], 0)])
  | 20 => (21, [(.iinc 6 1, [], 0), (.goto (-49), [17], 0)])
  | 21 => (22, [(.iinc 5 1, [], 0), (.goto (-69), [15], 0)])
  | 22 => (23, [(.iinc 1 1, [], 0), (.goto (-204), [4], 0)])
  | 23 => (24, [(.iconst (-1), [], 0), (.ireturn, [0], 0)])
  | _ => (0, [])
def L_M_both : Nat → List Bool := fun b => match b with
  | 0 => [true, false, false, false, false, false, false]
  | 1 => [true, true, false, false, false, false, false]
  | 2 => [true, true, false, false, false, false, false]
  | 3 => [true, false, false, false, false, false, false]
  | 4 => [true, true, false, false, false, false, false]
  | 5 => [true, true, false, false, false, false, false]
  | 6 => [true, true, true, true, false, false, false]
  | 7 => [true, true, false, false, false, false, false]
  | 8 => [true, true, true, true, false, false, false]
  | 9 => [true, true, true, true, true, true, false]
  | 10 => [true, true, true, true, true, true, false]
  | 11 => [true, true, true, true, false, true, false]
  | 12 => [true, true, true, true, true, true, false]
  | 13 => [true, true, true, true, false, true, false]
  | 14 => [true, true, true, true, true, false, false]
  | 15 => [true, true, true, true, true, true, false]
  | 16 => [true, true, true, true, true, true, false]
  | 17 => [true, true, true, true, true, true, true]
  | 18 => [true, true, true, true, true, true, true]
  | 19 => [true, true, true, true, true, true, true]
  | 20 => [true, true, true, true, true, true, true]
  | 21 => [true, true, true, true, true, true, false]
  | 22 => [true, true, false, false, false, false, false]
  | 23 => [false, false, false, false, false, false, false]
  | _ => []
def P_M_both : List Nat := [0, 2, 8, 21, 34, 42, 74, 83, 90, 96, 103, 140, 150, 152, 160, 163, 174, 177, 186, 206, 223, 229, 235, 241]
def K_M_both : KE := (⟨"NameReadersModel", "both", "()I"⟩, prog_13_method_62_code, 7, (Option.some Jvm.ClassFile.FieldType.int), B_M_both, L_M_both, P_M_both, [1555, 1553, 1554, 93, 0, 1])
def B_M_goBoth : BT := fun b => match b with
  | 0 => (1, [(.bipush 20, [], 0), (.istore 5, [], 0)])
  | 1 => (2, [(.iload 5, [], 0), (.bipush 20, [], 0), (.aload_n 0, [], 0), (.getfield 19, [11, 3, 2, 1159], 0), (.iconst 1, [], 0), (.iaload, [], 0), (.iadd, [], 0), (.if_icmp .ge 128, [12, 2], 0)])
  | 2 => (3, [(.aload_n 0, [], 0), (.iload 5, [], 0), (.iload_n 2, [], 0), (.aload_n 0, [], 0), (.getfield 25, [11, 5, 2, 1161], 0), (.iload_n 1, [], 0), (.iaload, [], 0), (.iload_n 3, [], 0), (.iconst 3, [], 0), (.invokevirtual 336, [k_M_canHere, 6, 11, 1565], 0), (.ifCond .eq 104, [11, 3], 0)])
  | 3 => (4, [(.iconst 0, [], 0), (.istore 6, [], 0)])
  | 4 => (5, [(.iload 6, [], 0), (.bipush 6, [], 0), (.if_icmp .ge 23, [6, 5], 0)])
  | 5 => (6, [(.aload_n 0, [], 0), (.getfield 124, [11, 47, 2, 1203], 0), (.iload 6, [], 0), (.aload_n 0, [], 0), (.getfield 121, [11, 46, 2, 1202], 0), (.iload 6, [], 0), (.iaload, [], 0), (.iastore, [], 0), (.iinc 6 1, [], 0), (.goto (-24), [4], 0)])
  | 6 => (7, [(.aload_n 0, [], 0), (.getfield 31, [11, 7, 2, 1163], 0), (.iload_n 1, [], 0), (.iaload, [], 0), (.iconst (-1), [], 0), (.if_icmp .eq 15, [8, 7], 0)])
  | 7 => (8, [(.aload_n 0, [], 0), (.getfield 124, [11, 47, 2, 1203], 0), (.aload_n 0, [], 0), (.getfield 31, [11, 7, 2, 1163], 0), (.iload_n 1, [], 0), (.iaload, [], 0), (.iload_n 3, [], 0), (.iastore, [], 0)])
  | 8 => (9, [(.aload_n 0, [], 0), (.getfield 31, [11, 7, 2, 1163], 0), (.iload 5, [], 0), (.iaload, [], 0), (.iconst (-1), [], 0), (.if_icmp .eq 18, [10, 9], 0)])
  | 9 => (10, [(.aload_n 0, [], 0), (.getfield 124, [11, 47, 2, 1203], 0), (.iconst 3, [], 0), (.aload_n 0, [], 0), (.getfield 31, [11, 7, 2, 1163], 0), (.iload 5, [], 0), (.iaload, [], 0), (.iadd, [], 0), (.iload_n 3, [], 0), (.iastore, [], 0)])
  | 10 => (11, [(.aload_n 0, [], 0), (.aload_n 0, [], 0), (.aload_n 0, [], 0), (.getfield 34, [11, 8, 2, 1164], 0), (.iload_n 1, [], 0), (.iaload, [], 0), (.aload_n 0, [], 0), (.getfield 34, [11, 8, 2, 1164], 0), (.iload 5, [], 0), (.iaload, [], 0), (.invokevirtual 343, [k_M_together, 3, 11, 1573], 0), (.iload 4, [], 0), (.invokevirtual 332, [k_M_meet, 3, 11, 1556], 0)])
  | 11 => (12, [(.iinc 5 1, [], 0), (.goto (-136), [1], 0)])
  | 12 => (13, [(.return_, [], 0)])
  | _ => (0, [])
def L_M_goBoth : Nat → List Bool := fun b => match b with
  | 0 => [true, true, true, true, true, false, false]
  | 1 => [true, true, true, true, true, true, false]
  | 2 => [true, true, true, true, true, true, false]
  | 3 => [true, true, true, true, true, true, false]
  | 4 => [true, true, true, true, true, true, true]
  | 5 => [true, true, true, true, true, true, true]
  | 6 => [true, true, true, true, true, true, false]
  | 7 => [true, true, true, true, true, true, false]
  | 8 => [true, true, true, true, true, true, false]
  | 9 => [true, true, true, true, true, true, false]
  | 10 => [true, true, true, true, true, true, false]
  | 11 => [true, true, true, true, true, true, false]
  | 12 => [false, false, false, false, false, false, false]
  | _ => []
def P_M_goBoth : List Nat := [0, 4, 18, 36, 39, 46, 66, 76, 88, 99, 114, 137, 143]
def K_M_goBoth : KE := (⟨"NameReadersModel", "goBoth", "(IIII)V"⟩, prog_13_method_63_code, 7, (Option.none : Option Jvm.ClassFile.FieldType), B_M_goBoth, L_M_goBoth, P_M_goBoth, [1572, 1571, 69, 93, 0, 5])
def B_M_goOther : BT := fun b => match b with
  | 0 => (1, [(.aload_n 0, [], 0), (.dup, [], 0), (.getfield 235, [11, 29, 0, 1185], 0), (.iconst 1, [], 0), (.iadd, [], 0), (.putfield 235, [11, 29, 0, 1185], 0), (.iconst 0, [], 0), (.istore 4, [], 0), (.iconst 0, [], 0), (.istore 5, [], 0)])
  | 1 => (2, [(.iload 5, [], 0), (.aload_n 0, [], 0), (.getfield 130, [11, 49, 2, 1205], 0), (.iload_n 1, [], 0), (.iaload, [], 0), (.if_icmp .ge 117, [9, 2], 0)])
  | 2 => (3, [(.aload_n 0, [], 0), (.getfield 127, [11, 48, 2, 1204], 0), (.sipush 4100, [], 0), (.iload_n 1, [], 0), (.imul, [], 0), (.iload 5, [], 0), (.iadd, [], 0), (.iaload, [], 0), (.istore 6, [], 0), (.bipush 20, [], 0), (.istore 7, [], 0)])
  | 3 => (4, [(.iload 7, [], 0), (.bipush 20, [], 0), (.aload_n 0, [], 0), (.getfield 19, [11, 3, 2, 1159], 0), (.iconst 1, [], 0), (.iaload, [], 0), (.iadd, [], 0), (.if_icmp .ge 78, [8, 4], 0)])
  | 4 => (5, [(.aload_n 0, [], 0), (.iload 7, [], 0), (.iload 6, [], 0), (.iload_n 2, [], 0), (.iload_n 3, [], 0), (.invokevirtual 238, [k_M_can, 5, 11, 1443], 0), (.ifCond .eq 59, [7, 5], 0)])
  | 5 => (6, [(.aload_n 0, [], 0), (.iload 7, [], 0), (.iload 6, [], 0), (.iload_n 3, [], 0), (.invokevirtual 242, [k_M_behind, 4, 11, 1450], 0), (.istore 8, [], 0), (.aload_n 0, [], 0), (.getfield 74, [11, 28, 2, 1184], 0), (.iload 8, [], 0), (.iaload, [], 0), (.aload_n 0, [], 0), (.getfield 235, [11, 29, 0, 1185], 0), (.if_icmp .eq 34, [7, 6], 0)])
  | 6 => (7, [(.aload_n 0, [], 0), (.getfield 74, [11, 28, 2, 1184], 0), (.iload 8, [], 0), (.aload_n 0, [], 0), (.getfield 235, [11, 29, 0, 1185], 0), (.iastore, [], 0), (.aload_n 0, [], 0), (.getfield 127, [11, 48, 2, 1204], 0), (.sipush 4100, [], 0), (.iload_n 1, [], 0), (.iconst 1, [], 0), (.iadd, [], 0), (.imul, [], 0), (.iload 4, [], 0), (.iadd, [], 0), (.iload 8, [], 0), (.iastore, [], 0), (.iinc 4 1, [], 0)])
  | 7 => (8, [(.iinc 7 1, [], 0), (.goto (-86), [3], 0)])
  | 8 => (9, [(.iinc 5 1, [], 0), (.goto (-122), [1], 0)])
  | 9 => (10, [(.aload_n 0, [], 0), (.getfield 130, [11, 49, 2, 1205], 0), (.iload_n 1, [], 0), (.iconst 1, [], 0), (.iadd, [], 0), (.iload 4, [], 0), (.iastore, [], 0), (.return_, [], 0)])
  | _ => (0, [])
def L_M_goOther : Nat → List Bool := fun b => match b with
  | 0 => [true, true, true, true, false, false, false, false, false]
  | 1 => [true, true, true, true, true, true, false, false, false]
  | 2 => [true, true, true, true, true, true, false, false, false]
  | 3 => [true, true, true, true, true, true, true, true, false]
  | 4 => [true, true, true, true, true, true, true, true, false]
  | 5 => [true, true, true, true, true, true, true, true, false]
  | 6 => [true, true, true, true, true, true, true, true, true]
  | 7 => [true, true, true, true, true, true, true, true, false]
  | 8 => [true, true, true, true, true, true, false, false, false]
  | 9 => [true, true, false, false, true, false, false, false, false]
  | _ => []
def P_M_goOther : List Nat := [0, 16, 27, 46, 60, 73, 98, 129, 135, 141]
def K_M_goOther : KE := (⟨"NameReadersModel", "goOther", "(III)V"⟩, prog_13_method_64_code, 9, (Option.none : Option Jvm.ClassFile.FieldType), B_M_goOther, L_M_goOther, P_M_goOther, [1593, 1592, 73, 93, 0, 4])
def B_M_takesOther : BT := fun b => match b with
  | 0 => (1, [(.iconst 0, [], 0), (.istore_n 2, [], 0), (.iconst 0, [], 0), (.istore_n 3, [], 0)])
  | 1 => (2, [(.iload_n 3, [], 0), (.aload_n 0, [], 0), (.getfield 130, [11, 49, 2, 1205], 0), (.iload_n 1, [], 0), (.iaload, [], 0), (.if_icmp .ge 39, [7, 2], 0)])
  | 2 => (3, [(.iload_n 2, [], 0), (.ifCond .ne 23, [4, 3], 0)])
  | 3 => (4, [(.aload_n 0, [], 0), (.iconst 1, [], 0), (.aload_n 0, [], 0), (.getfield 127, [11, 48, 2, 1204], 0), (.sipush 4100, [], 0), (.iload_n 1, [], 0), (.imul, [], 0), (.iload_n 3, [], 0), (.iadd, [], 0), (.iaload, [], 0), (.invokevirtual 246, [k_M_isTaken, 3, 11, 1458], 0), (.ifCond .eq 7, [5, 4], 0)])
  | 4 => (5, [(.iconst 1, [], 0), (.goto 4, [6], 0)])
  | 5 => (6, [(.iconst 0, [], 0)])
  | 6 => (7, [(.istore_n 2, [], 0), (.iinc 3 1, [], 0), (.goto (-43), [1], 0)])
  | 7 => (8, [(.iload_n 2, [], 0), (.ireturn, [1], 0)])
  | _ => (0, [])
def L_M_takesOther : Nat → List Bool := fun b => match b with
  | 0 => [true, true, false, false]
  | 1 => [true, true, true, true]
  | 2 => [true, true, true, true]
  | 3 => [true, true, false, true]
  | 4 => [true, true, false, true]
  | 5 => [true, true, false, true]
  | 6 => [true, true, false, true]
  | 7 => [false, false, true, false]
  | _ => []
def P_M_takesOther : List Nat := [0, 4, 14, 18, 38, 42, 43, 50]
def K_M_takesOther : KE := (⟨"NameReadersModel", "takesOther", "(I)Z"⟩, prog_13_method_65_code, 4, (Option.some Jvm.ClassFile.FieldType.boolean), B_M_takesOther, L_M_takesOther, P_M_takesOther, [1589, 1588, 72, 93, 0, 2])
def B_M_parts : BT := fun b => match b with
  | 0 => (1, [(.aload_n 0, [], 0), (.invokevirtual 252, [k_M_beginList, 1, 11, 1435], 0), (.aload_n 0, [], 0), (.getfield 127, [11, 48, 2, 1204], 0), (.iconst 0, [], 0), (.iconst 0, [], 0), (.iastore, [], 0), (.aload_n 0, [], 0), (.getfield 130, [11, 49, 2, 1205], 0), (.iconst 0, [], 0), (.iconst 1, [], 0), (.iastore, [], 0), (.aload_n 0, [], 0), (.getfield 95, [11, 35, 2, 1191], 0), (.iconst 0, [], 0), (.iconst 0, [], 0), (.iastore, [], 0), (.iload_n 1, [], 0), (.ifCond .ne 23, [5, 1], 0)])
  | 1 => (2, [(.aload_n 0, [], 0), (.iconst 0, [], 0), (.iconst 0, [], 0), (.invokevirtual 267, [k_M_takesList, 3, 11, 1454], 0), (.aload_n 0, [], 0), (.iconst 0, [], 0), (.invokevirtual 346, [k_M_takesOther, 2, 11, 1586], 0), (.if_icmp .eq 7, [3, 2], 0)])
  | 2 => (3, [(.iconst 1, [], 0), (.goto 4, [4], 0)])
  | 3 => (4, [(.iconst 0, [], 0)])
  | 4 => (5, [(.ireturn, [1], 0)])
  | 5 => (6, [(.iconst 0, [], 0), (.istore_n 2, [], 0), (.aload_n 0, [], 0), (.iconst 0, [], 0), (.invokevirtual 275, [k_M_beginPair, 2, 11, 1487], 0)])
  | 6 => (7, [(.iload_n 2, [], 0), (.ifCond .lt 91, [13, 7], 0)])
  | 7 => (8, [(.aload_n 0, [], 0), (.iload_n 2, [], 0), (.iconst 3, [], 0), (.invokevirtual 278, [k_M_nextPair, 3, 11, 1491], 0), (.ifCond .ne 9, [9, 8], 0)])
  | 8 => (9, [(.iinc 2 (-1), [], 0), (.goto (-16), [6], 0)])
  | 9 => (10, [(.aload_n 0, [], 0), (.iconst 0, [], 0), (.iload_n 2, [], 0), (.aload_n 0, [], 0), (.getfield 89, [11, 33, 2, 1189], 0), (.iload_n 2, [], 0), (.iaload, [], 0), (.aload_n 0, [], 0), (.getfield 92, [11, 34, 2, 1190], 0), (.iload_n 2, [], 0), (.iaload, [], 0), (.iconst 1, [], 0), (.iadd, [], 0), (.invokevirtual 255, [k_M_goOn, 5, 11, 1439], 0), (.aload_n 0, [], 0), (.iload_n 2, [], 0), (.aload_n 0, [], 0), (.getfield 89, [11, 33, 2, 1189], 0), (.iload_n 2, [], 0), (.iaload, [], 0), (.aload_n 0, [], 0), (.getfield 92, [11, 34, 2, 1190], 0), (.iload_n 2, [], 0), (.iaload, [], 0), (.iconst 1, [], 0), (.iadd, [], 0), (.invokevirtual 349, [k_M_goOther, 4, 11, 1590], 0), (.iload_n 2, [], 0), (.iconst 1, [], 0), (.iadd, [], 0), (.iload_n 1, [], 0), (.if_icmp .ge 14, [11, 10], 0)])
  | 10 => (11, [(.iinc 2 1, [], 0), (.aload_n 0, [], 0), (.iload_n 2, [], 0), (.invokevirtual 275, [k_M_beginPair, 2, 11, 1487], 0), (.goto (-73), [6], 0)])
  | 11 => (12, [(.aload_n 0, [], 0), (.iconst 0, [], 0), (.iload_n 1, [], 0), (.invokevirtual 267, [k_M_takesList, 3, 11, 1454], 0), (.aload_n 0, [], 0), (.iload_n 1, [], 0), (.invokevirtual 346, [k_M_takesOther, 2, 11, 1586], 0), (.if_icmp .eq (-87), [6, 12], 0)])
  | 12 => (13, [(.iconst 1, [], 0), (.ireturn, [1], 0)])
  | 13 => (14, [(.iconst 0, [], 0), (.ireturn, [1], 0)])
  | _ => (0, [])
def L_M_parts : Nat → List Bool := fun b => match b with
  | 0 => [true, true, false]
  | 1 => [true, false, false]
  | 2 => [false, false, false]
  | 3 => [false, false, false]
  | 4 => [false, false, false]
  | 5 => [true, true, false]
  | 6 => [true, true, true]
  | 7 => [true, true, true]
  | 8 => [true, true, true]
  | 9 => [true, true, true]
  | 10 => [true, true, true]
  | 11 => [true, true, true]
  | 12 => [false, false, false]
  | 13 => [false, false, false]
  | _ => []
def P_M_parts : List Nat := [0, 29, 43, 47, 48, 49, 56, 60, 69, 75, 121, 132, 146, 148]
def K_M_parts : KE := (⟨"NameReadersModel", "parts", "(I)Z"⟩, prog_13_method_66_code, 3, (Option.some Jvm.ClassFile.FieldType.boolean), B_M_parts, L_M_parts, P_M_parts, [1585, 1584, 71, 93, 0, 2])
def B_M_parted : BT := fun b => match b with
  | 0 => (1, [(.iload_n 1, [], 0), (.i2l, [], 0), (.lconst 0, [], 0), (.ldc2_w 353, [1581], 5), (.invokestatic 151, [k_M_in, 3, 1333], 0), (.ifCond .eq 8, [2, 1], 0)])
  | 1 => (2, [(.iload_n 2, [], 0), (.iconst (-1), [], 0), (.if_icmp .ge 6, [3, 2], 0)])
  | 2 => (3, [(.bipush (-3), [], 0), (.ireturn, [0], 0)])
  | 3 => (4, [(.iconst 0, [], 0), (.istore_n 3, [], 0)])
  | 4 => (5, [(.iload_n 3, [], 0), (.iload_n 1, [], 0), (.if_icmp .gt 52, [13, 5], 0)])
  | 5 => (6, [(.aload_n 0, [], 0), (.iload_n 3, [], 0), (.invokevirtual 355, [k_M_parts, 2, 11, 1582], 0), (.ifCond .eq 38, [12, 6], 0)])
  | 6 => (7, [(.iload_n 2, [], 0), (.iconst (-1), [], 0), (.if_icmp .ne 7, [8, 7], 0)])
  | 7 => (8, [(.iload_n 3, [], 0), (.goto 28, [11], 0)])
  | 8 => (9, [(.iload_n 2, [], 0), (.iload_n 3, [], 0), (.if_icmp .ge 22, [10, 9], 0)])
  | 9 => (10, [(.bipush 16, [], 0), (.aload_n 0, [], 0), (.getfield 89, [11, 33, 2, 1189], 0), (.iload_n 2, [], 0), (.iaload, [], 0), (.imul, [], 0), (.aload_n 0, [], 0), (.getfield 92, [11, 34, 2, 1190], 0), (.iload_n 2, [], 0), (.iaload, [], 0), (.iadd, [], 0), (.goto 4, [11], 0)])
  | 10 => (11, [(.iconst (-1), [], 0)])
  | 11 => (12, [(.ireturn, [0], 0)])
  | 12 => (13, [(.iinc 3 1, [], 0), (.goto (-51), [4], 0)])
  | 13 => (14, [(.iconst (-1), [], 0), (.ireturn, [0], 0)])
  | _ => (0, [])
def L_M_parted : Nat → List Bool := fun b => match b with
  | 0 => [true, true, true, false]
  | 1 => [true, true, true, false]
  | 2 => [false, false, false, false]
  | 3 => [true, true, true, false]
  | 4 => [true, true, true, true]
  | 5 => [true, true, true, true]
  | 6 => [true, false, true, true]
  | 7 => [false, false, false, true]
  | 8 => [true, false, true, true]
  | 9 => [true, false, true, false]
  | 10 => [false, false, false, false]
  | 11 => [false, false, false, false]
  | 12 => [true, true, true, true]
  | 13 => [false, false, false, false]
  | _ => []
def P_M_parted : List Nat := [0, 12, 17, 20, 22, 27, 35, 40, 44, 49, 68, 69, 70, 76]
def K_M_parted : KE := (⟨"NameReadersModel", "parted", "(II)I"⟩, prog_13_method_67_code, 4, (Option.some Jvm.ClassFile.FieldType.int), B_M_parted, L_M_parted, P_M_parted, [1580, 1578, 1579, 93, 0, 3])
def B_M_freeBehind : BT := fun b => match b with
  | 0 => (1, [(.iload_n 1, [], 0), (.iconst 1, [], 0), (.iadd, [], 0), (.istore_n 2, [], 0)])
  | 1 => (2, [(.aload_n 0, [], 0), (.iload_n 2, [], 0), (.invokevirtual 228, [k_M_idOf, 2, 11, 1431], 0), (.ifCond .eq 9, [3, 2], 0)])
  | 2 => (3, [(.iinc 2 1, [], 0), (.goto (-11), [1], 0)])
  | 3 => (4, [(.iload_n 2, [], 0), (.ireturn, [0], 0)])
  | _ => (0, [])
def L_M_freeBehind : Nat → List Bool := fun b => match b with
  | 0 => [true, true, false]
  | 1 => [true, false, true]
  | 2 => [true, false, true]
  | 3 => [false, false, true]
  | _ => []
def P_M_freeBehind : List Nat := [0, 4, 12, 18]
def K_M_freeBehind : KE := (⟨"NameReadersModel", "freeBehind", "(I)I"⟩, prog_13_method_68_code, 3, (Option.some Jvm.ClassFile.FieldType.int), B_M_freeBehind, L_M_freeBehind, P_M_freeBehind, [1605, 1604, 75, 93, 0, 2])
def B_M_idOfAny : BT := fun b => match b with
  | 0 => (1, [(.aload_n 0, [], 0), (.iload_n 1, [], 0), (.invokevirtual 228, [k_M_idOf, 2, 11, 1431], 0), (.istore_n 2, [], 0), (.iconst 0, [], 0), (.istore_n 3, [], 0)])
  | 1 => (2, [(.iload_n 3, [], 0), (.iconst 3, [], 0), (.if_icmp .ge 36, [7, 2], 0)])
  | 2 => (3, [(.iload_n 2, [], 0), (.ifCond .ne 24, [5, 3], 0)])
  | 3 => (4, [(.aload_n 0, [], 0), (.getfield 142, [11, 53, 2, 1209], 0), (.iload_n 3, [], 0), (.iaload, [], 0), (.iload_n 1, [], 0), (.if_icmp .ne 14, [5, 4], 0)])
  | 4 => (5, [(.aload_n 0, [], 0), (.getfield 225, [11, 24, 0, 1180], 0), (.iload_n 3, [], 0), (.iadd, [], 0), (.iconst 1, [], 0), (.iadd, [], 0), (.goto 4, [6], 0)])
  | 5 => (6, [(.iload_n 2, [], 0)])
  | 6 => (7, [(.istore_n 2, [], 0), (.iinc 3 1, [], 0), (.goto (-35), [1], 0)])
  | 7 => (8, [(.iload_n 2, [], 0), (.ireturn, [0], 0)])
  | _ => (0, [])
def L_M_idOfAny : Nat → List Bool := fun b => match b with
  | 0 => [true, true, false, false]
  | 1 => [true, true, true, true]
  | 2 => [true, true, true, true]
  | 3 => [true, true, true, true]
  | 4 => [true, true, false, true]
  | 5 => [true, true, true, true]
  | 6 => [true, true, false, true]
  | 7 => [false, false, true, false]
  | _ => []
def P_M_idOfAny : List Nat := [0, 8, 13, 17, 27, 38, 39, 46]
def K_M_idOfAny : KE := (⟨"NameReadersModel", "idOfAny", "(I)I"⟩, prog_13_method_69_code, 4, (Option.some Jvm.ClassFile.FieldType.int), B_M_idOfAny, L_M_idOfAny, P_M_idOfAny, [1617, 1616, 78, 93, 0, 2])
def B_M_nextName : BT := fun b => match b with
  | 0 => (1, [(.iload_n 2, [], 0), (.iconst 1, [], 0), (.iadd, [], 0), (.istore_n 3, [], 0), (.iconst 0, [], 0), (.istore 4, [], 0)])
  | 1 => (2, [(.iload 4, [], 0), (.ifCond .ne 110, [22, 2], 0)])
  | 2 => (3, [(.iload_n 3, [], 0), (.sipush 200, [], 0), (.if_icmp .ge 103, [22, 3], 0)])
  | 3 => (4, [(.aload_n 0, [], 0), (.iload_n 3, [], 0), (.invokevirtual 228, [k_M_idOf, 2, 11, 1431], 0), (.ifCond .eq 7, [5, 4], 0)])
  | 4 => (5, [(.iconst 1, [], 0), (.goto 4, [6], 0)])
  | 5 => (6, [(.iconst 0, [], 0)])
  | 6 => (7, [(.istore 5, [], 0), (.iconst 0, [], 0), (.istore 6, [], 0), (.iconst 0, [], 0), (.istore 7, [], 0)])
  | 7 => (8, [(.iload 7, [], 0), (.iconst 3, [], 0), (.if_icmp .ge 43, [14, 8], 0)])
  | 8 => (9, [(.iload 6, [], 0), (.ifCond .ne 25, [11, 9], 0)])
  | 9 => (10, [(.aload_n 0, [], 0), (.getfield 142, [11, 53, 2, 1209], 0), (.iload 7, [], 0), (.iaload, [], 0), (.iload_n 3, [], 0), (.if_icmp .ne 18, [12, 10], 0)])
  | 10 => (11, [(.iload 7, [], 0), (.aload_n 0, [], 0), (.getfield 139, [11, 52, 2, 1208], 0), (.iload_n 1, [], 0), (.iaload, [], 0), (.if_icmp .gt 7, [12, 11], 0)])
  | 11 => (12, [(.iconst 1, [], 0), (.goto 4, [13], 0)])
  | 12 => (13, [(.iconst 0, [], 0)])
  | 13 => (14, [(.istore 6, [], 0), (.iinc 7 1, [], 0), (.goto (-43), [7], 0)])
  | 14 => (15, [(.iload 5, [], 0), (.ifCond .ne 8, [16, 15], 0)])
  | 15 => (16, [(.iload 6, [], 0), (.ifCond .eq 7, [17, 16], 0)])
  | 16 => (17, [(.iconst 1, [], 0), (.goto 4, [18], 0)])
  | 17 => (18, [(.iconst 0, [], 0)])
  | 18 => (19, [(.istore 4, [], 0), (.iload 4, [], 0), (.ifCond .eq 7, [20, 19], 0)])
  | 19 => (20, [(.iload_n 3, [], 0), (.goto 6, [21], 0)])
  | 20 => (21, [(.iload_n 3, [], 0), (.iconst 1, [], 0), (.iadd, [], 0)])
  | 21 => (22, [(.istore_n 3, [], 0), (.goto (-109), [1], 0)])
  | 22 => (23, [(.iload_n 3, [], 0), (.ireturn, [0], 0)])
  | _ => (0, [])
def L_M_nextName : Nat → List Bool := fun b => match b with
  | 0 => [true, true, true, false, false, false, false, false]
  | 1 => [true, true, false, true, true, false, false, false]
  | 2 => [true, true, false, true, false, false, false, false]
  | 3 => [true, true, false, true, false, false, false, false]
  | 4 => [true, true, false, true, false, false, false, false]
  | 5 => [true, true, false, true, false, false, false, false]
  | 6 => [true, true, false, true, false, false, false, false]
  | 7 => [true, true, false, true, false, true, true, true]
  | 8 => [true, true, false, true, false, true, true, true]
  | 9 => [true, true, false, true, false, true, false, true]
  | 10 => [true, true, false, true, false, true, false, true]
  | 11 => [true, true, false, true, false, true, false, true]
  | 12 => [true, true, false, true, false, true, false, true]
  | 13 => [true, true, false, true, false, true, false, true]
  | 14 => [true, true, false, true, false, true, true, false]
  | 15 => [true, true, false, true, false, false, true, false]
  | 16 => [true, true, false, true, false, false, false, false]
  | 17 => [true, true, false, true, false, false, false, false]
  | 18 => [true, true, false, true, false, false, false, false]
  | 19 => [true, true, false, true, true, false, false, false]
  | 20 => [true, true, false, true, true, false, false, false]
  | 21 => [true, true, false, false, true, false, false, false]
  | 22 => [false, false, false, true, false, false, false, false]
  | _ => []
def P_M_nextName : List Nat := [0, 7, 12, 19, 27, 31, 32, 40, 46, 51, 62, 73, 77, 78, 86, 91, 96, 100, 101, 108, 112, 115, 119]
def K_M_nextName : KE := (⟨"NameReadersModel", "nextName", "(II)I"⟩, prog_13_method_70_code, 8, (Option.some Jvm.ClassFile.FieldType.int), B_M_nextName, L_M_nextName, P_M_nextName, [1613, 1612, 77, 93, 0, 3])
def B_M_nextFill : BT := fun b => match b with
  | 0 => (1, [(.aload_n 0, [], 0), (.getfield 55, [11, 17, 2, 1173], 0), (.iload_n 1, [], 0), (.iaload, [], 0), (.iconst (-1), [], 0), (.if_icmp .ne 7, [2, 1], 0)])
  | 1 => (2, [(.iconst 1, [], 0), (.goto 4, [3], 0)])
  | 2 => (3, [(.iconst 0, [], 0)])
  | 3 => (4, [(.istore_n 2, [], 0), (.aload_n 0, [], 0), (.getfield 58, [11, 18, 2, 1174], 0), (.iload_n 1, [], 0), (.iaload, [], 0), (.iconst (-1), [], 0), (.if_icmp .ne 7, [5, 4], 0)])
  | 4 => (5, [(.iconst 1, [], 0), (.goto 4, [6], 0)])
  | 5 => (6, [(.iconst 0, [], 0)])
  | 6 => (7, [(.istore_n 3, [], 0), (.aload_n 0, [], 0), (.getfield 133, [11, 50, 2, 1206], 0), (.iload_n 1, [], 0), (.iaload, [], 0), (.iconst (-1), [], 0), (.if_icmp .ne 51, [14, 7], 0)])
  | 7 => (8, [(.aload_n 0, [], 0), (.getfield 133, [11, 50, 2, 1206], 0), (.iload_n 1, [], 0), (.iload_n 2, [], 0), (.ifCond .eq 7, [9, 8], 0)])
  | 8 => (9, [(.iconst 0, [], 0), (.goto 9, [10], 0)])
  | 9 => (10, [(.aload_n 0, [], 0), (.getfield 55, [11, 17, 2, 1173], 0), (.iload_n 1, [], 0), (.iaload, [], 0)])
  | 10 => (11, [(.iastore, [], 0), (.aload_n 0, [], 0), (.getfield 136, [11, 51, 2, 1207], 0), (.iload_n 1, [], 0), (.iload_n 3, [], 0), (.ifCond .eq 12, [12, 11], 0)])
  | 11 => (12, [(.aload_n 0, [], 0), (.iload_n 1, [], 0), (.iconst (-1), [], 0), (.invokevirtual 358, [k_M_nextName, 3, 11, 1610], 0), (.goto 9, [13], 0)])
  | 12 => (13, [(.aload_n 0, [], 0), (.getfield 58, [11, 18, 2, 1174], 0), (.iload_n 1, [], 0), (.iaload, [], 0)])
  | 13 => (14, [(.iastore, [], 0), (.goto 89, [25], 0)])
  | 14 => (15, [(.iload_n 3, [], 0), (.ifCond .eq 17, [16, 15], 0)])
  | 15 => (16, [(.aload_n 0, [], 0), (.iload_n 1, [], 0), (.aload_n 0, [], 0), (.getfield 136, [11, 51, 2, 1207], 0), (.iload_n 1, [], 0), (.iaload, [], 0), (.invokevirtual 358, [k_M_nextName, 3, 11, 1610], 0), (.goto 6, [17], 0)])
  | 16 => (17, [(.sipush 200, [], 0)])
  | 17 => (18, [(.istore 4, [], 0), (.iload 4, [], 0), (.sipush 200, [], 0), (.if_icmp .ge 14, [19, 18], 0)])
  | 18 => (19, [(.aload_n 0, [], 0), (.getfield 136, [11, 51, 2, 1207], 0), (.iload_n 1, [], 0), (.iload 4, [], 0), (.iastore, [], 0), (.goto 47, [25], 0)])
  | 19 => (20, [(.iload_n 2, [], 0), (.ifCond .eq 41, [24, 20], 0)])
  | 20 => (21, [(.aload_n 0, [], 0), (.getfield 133, [11, 50, 2, 1206], 0), (.iload_n 1, [], 0), (.dup2, [], 0), (.iaload, [], 0), (.iconst 1, [], 0), (.iadd, [], 0), (.iastore, [], 0), (.aload_n 0, [], 0), (.getfield 136, [11, 51, 2, 1207], 0), (.iload_n 1, [], 0), (.iload_n 3, [], 0), (.ifCond .eq 12, [22, 21], 0)])
  | 21 => (22, [(.aload_n 0, [], 0), (.iload_n 1, [], 0), (.iconst (-1), [], 0), (.invokevirtual 358, [k_M_nextName, 3, 11, 1610], 0), (.goto 9, [23], 0)])
  | 22 => (23, [(.aload_n 0, [], 0), (.getfield 58, [11, 18, 2, 1174], 0), (.iload_n 1, [], 0), (.iaload, [], 0)])
  | 23 => (24, [(.iastore, [], 0), (.goto 5, [25], 0)])
  | 24 => (25, [(.iconst 0, [], 0), (.ireturn, [1], 0)])
  | 25 => (26, [(.aload_n 0, [], 0), (.getfield 139, [11, 52, 2, 1208], 0), (.iload_n 1, [], 0), (.iaload, [], 0), (.iconst 3, [], 0), (.if_icmp .ge 27, [28, 26], 0)])
  | 26 => (27, [(.aload_n 0, [], 0), (.getfield 136, [11, 51, 2, 1207], 0), (.iload_n 1, [], 0), (.iaload, [], 0), (.aload_n 0, [], 0), (.getfield 142, [11, 53, 2, 1209], 0), (.aload_n 0, [], 0), (.getfield 139, [11, 52, 2, 1208], 0), (.iload_n 1, [], 0), (.iaload, [], 0), (.iaload, [], 0), (.if_icmp .ne 7, [28, 27], 0)])
  | 27 => (28, [(.iconst 1, [], 0), (.goto 4, [29], 0)])
  | 28 => (29, [(.iconst 0, [], 0)])
  | 29 => (30, [(.istore 4, [], 0), (.aload_n 0, [], 0), (.getfield 139, [11, 52, 2, 1208], 0), (.iload_n 1, [], 0), (.iconst 1, [], 0), (.iadd, [], 0), (.aload_n 0, [], 0), (.getfield 139, [11, 52, 2, 1208], 0), (.iload_n 1, [], 0), (.iaload, [], 0), (.iload 4, [], 0), (.ifCond .eq 7, [31, 30], 0)])
  | 30 => (31, [(.iconst 1, [], 0), (.goto 4, [32], 0)])
  | 31 => (32, [(.iconst 0, [], 0)])
  | 32 => (33, [(.iadd, [], 0), (.iastore, [], 0), (.aload_n 0, [], 0), (.getfield 133, [11, 50, 2, 1206], 0), (.iload_n 1, [], 0), (.iaload, [], 0), (.iconst 3, [], 0), (.if_icmp .ge 7, [34, 33], 0)])
  | 33 => (34, [(.iconst 1, [], 0), (.goto 4, [35], 0)])
  | 34 => (35, [(.iconst 0, [], 0)])
  | 35 => (36, [(.ireturn, [1], 0)])
  | _ => (0, [])
def L_M_nextFill : Nat → List Bool := fun b => match b with
  | 0 => [true, true, false, false, false]
  | 1 => [true, true, false, false, false]
  | 2 => [true, true, false, false, false]
  | 3 => [true, true, false, false, false]
  | 4 => [true, true, true, false, false]
  | 5 => [true, true, true, false, false]
  | 6 => [true, true, true, false, false]
  | 7 => [true, true, true, true, false]
  | 8 => [true, true, false, true, false]
  | 9 => [true, true, false, true, false]
  | 10 => [true, true, false, true, false]
  | 11 => [true, true, false, false, false]
  | 12 => [true, true, false, false, false]
  | 13 => [true, true, false, false, false]
  | 14 => [true, true, true, true, false]
  | 15 => [true, true, true, true, false]
  | 16 => [true, true, true, true, false]
  | 17 => [true, true, true, true, false]
  | 18 => [true, true, false, false, true]
  | 19 => [true, true, true, true, false]
  | 20 => [true, true, false, true, false]
  | 21 => [true, true, false, false, false]
  | 22 => [true, true, false, false, false]
  | 23 => [true, true, false, false, false]
  | 24 => [false, false, false, false, false]
  | 25 => [true, true, false, false, false]
  | 26 => [true, true, false, false, false]
  | 27 => [true, true, false, false, false]
  | 28 => [true, true, false, false, false]
  | 29 => [true, true, false, false, false]
  | 30 => [true, true, false, false, false]
  | 31 => [true, true, false, false, false]
  | 32 => [true, true, false, false, false]
  | 33 => [false, false, false, false, false]
  | 34 => [false, false, false, false, false]
  | 35 => [false, false, false, false, false]
  | _ => []
def P_M_nextFill : List Nat := [0, 10, 14, 15, 26, 30, 31, 42, 51, 55, 61, 71, 80, 86, 90, 94, 108, 111, 121, 132, 136, 155, 164, 170, 174, 176, 186, 206, 210, 211, 231, 235, 236, 248, 252, 253]
def K_M_nextFill : KE := (⟨"NameReadersModel", "nextFill", "(I)Z"⟩, prog_13_method_71_code, 5, (Option.some Jvm.ClassFile.FieldType.boolean), B_M_nextFill, L_M_nextFill, P_M_nextFill, [1609, 1608, 76, 93, 0, 2])
def B_M_goFill : BT := fun b => match b with
  | 0 => (1, [(.aload_n 0, [], 0), (.invokevirtual 249, [k_M_layNames, 1, 11, 1427], 0), (.aload_n 0, [], 0), (.getfield 142, [11, 53, 2, 1209], 0), (.iconst 0, [], 0), (.aload_n 0, [], 0), (.iconst (-1), [], 0), (.invokevirtual 361, [k_M_freeBehind, 2, 11, 1602], 0), (.iastore, [], 0), (.aload_n 0, [], 0), (.getfield 142, [11, 53, 2, 1209], 0), (.iconst 1, [], 0), (.aload_n 0, [], 0), (.aload_n 0, [], 0), (.getfield 142, [11, 53, 2, 1209], 0), (.iconst 0, [], 0), (.iaload, [], 0), (.invokevirtual 361, [k_M_freeBehind, 2, 11, 1602], 0), (.iastore, [], 0), (.aload_n 0, [], 0), (.getfield 142, [11, 53, 2, 1209], 0), (.iconst 2, [], 0), (.aload_n 0, [], 0), (.aload_n 0, [], 0), (.getfield 142, [11, 53, 2, 1209], 0), (.iconst 1, [], 0), (.iaload, [], 0), (.invokevirtual 361, [k_M_freeBehind, 2, 11, 1602], 0), (.iastore, [], 0), (.aload_n 0, [], 0), (.invokevirtual 252, [k_M_beginList, 1, 11, 1435], 0), (.aload_n 0, [], 0), (.getfield 139, [11, 52, 2, 1208], 0), (.iconst 0, [], 0), (.iconst 0, [], 0), (.iastore, [], 0), (.aload_n 0, [], 0), (.getfield 219, [11, 19, 0, 1175], 0), (.ifCond .ne 18, [5, 1], 0)])
  | 1 => (2, [(.aload_n 0, [], 0), (.iload_n 1, [], 0), (.iconst 0, [], 0), (.invokevirtual 267, [k_M_takesList, 3, 11, 1454], 0), (.ifCond .eq 7, [3, 2], 0)])
  | 2 => (3, [(.iconst 1, [], 0), (.goto 4, [4], 0)])
  | 3 => (4, [(.iconst 0, [], 0)])
  | 4 => (5, [(.ireturn, [0], 0)])
  | 5 => (6, [(.iconst 0, [], 0), (.istore_n 3, [], 0), (.iconst 0, [], 0), (.istore 4, [], 0), (.aload_n 0, [], 0), (.getfield 133, [11, 50, 2, 1206], 0), (.iconst 0, [], 0), (.iconst (-1), [], 0), (.iastore, [], 0)])
  | 6 => (7, [(.iload 4, [], 0), (.ifCond .lt 104, [16, 7], 0)])
  | 7 => (8, [(.aload_n 0, [], 0), (.iload 4, [], 0), (.invokevirtual 364, [k_M_nextFill, 2, 11, 1606], 0), (.ifCond .ne 9, [9, 8], 0)])
  | 8 => (9, [(.iinc 4 (-1), [], 0), (.goto (-17), [6], 0)])
  | 9 => (10, [(.aload_n 0, [], 0), (.iload_n 1, [], 0), (.iload 4, [], 0), (.aload_n 0, [], 0), (.getfield 133, [11, 50, 2, 1206], 0), (.iload 4, [], 0), (.iaload, [], 0), (.aload_n 0, [], 0), (.aload_n 0, [], 0), (.getfield 136, [11, 51, 2, 1207], 0), (.iload 4, [], 0), (.iaload, [], 0), (.invokevirtual 367, [k_M_idOfAny, 2, 11, 1614], 0), (.invokevirtual 255, [k_M_goOn, 5, 11, 1439], 0), (.aload_n 0, [], 0), (.getfield 71, [11, 27, 2, 1183], 0), (.iload 4, [], 0), (.iconst 1, [], 0), (.iadd, [], 0), (.iaload, [], 0), (.ifCond .ne 6, [11, 10], 0)])
  | 10 => (11, [(.goto (-57), [6], 0)])
  | 11 => (12, [(.iload 4, [], 0), (.iconst 1, [], 0), (.iadd, [], 0), (.aload_n 0, [], 0), (.getfield 219, [11, 19, 0, 1175], 0), (.if_icmp .ge 17, [13, 12], 0)])
  | 12 => (13, [(.iinc 4 1, [], 0), (.aload_n 0, [], 0), (.getfield 133, [11, 50, 2, 1206], 0), (.iload 4, [], 0), (.iconst (-1), [], 0), (.iastore, [], 0), (.goto (-82), [6], 0)])
  | 13 => (14, [(.aload_n 0, [], 0), (.iload_n 1, [], 0), (.aload_n 0, [], 0), (.getfield 219, [11, 19, 0, 1175], 0), (.invokevirtual 267, [k_M_takesList, 3, 11, 1454], 0), (.ifCond .eq (-94), [6, 14], 0)])
  | 14 => (15, [(.iinc 3 1, [], 0), (.iload_n 2, [], 0), (.ifCond .eq (-101), [6, 15], 0)])
  | 15 => (16, [(.iload_n 3, [], 0), (.ireturn, [0], 0)])
  | 16 => (17, [(.iload_n 3, [], 0), (.ireturn, [0], 0)])
  | _ => (0, [])
def L_M_goFill : Nat → List Bool := fun b => match b with
  | 0 => [true, true, true, false, false]
  | 1 => [true, true, false, false, false]
  | 2 => [false, false, false, false, false]
  | 3 => [false, false, false, false, false]
  | 4 => [false, false, false, false, false]
  | 5 => [true, true, true, false, false]
  | 6 => [true, true, true, true, true]
  | 7 => [true, true, true, true, true]
  | 8 => [true, true, true, true, true]
  | 9 => [true, true, true, true, true]
  | 10 => [true, true, true, true, true]
  | 11 => [true, true, true, true, true]
  | 12 => [true, true, true, true, true]
  | 13 => [true, true, true, true, true]
  | 14 => [true, true, true, true, true]
  | 15 => [false, false, false, true, false]
  | 16 => [false, false, false, true, false]
  | _ => []
def P_M_goFill : List Nat := [0, 65, 74, 78, 79, 80, 92, 97, 106, 112, 149, 152, 163, 177, 189, 196, 198]
def K_M_goFill : KE := (⟨"NameReadersModel", "goFill", "(IZ)I"⟩, prog_13_method_72_code, 5, (Option.some Jvm.ClassFile.FieldType.int), B_M_goFill, L_M_goFill, P_M_goFill, [1601, 1600, 74, 93, 0, 3])
def B_M_fillings : BT := fun b => match b with
  | 0 => (1, [(.iload_n 1, [], 0), (.invokestatic 155, [k_M_isReader, 1, 1330], 0), (.ifCond .ne 6, [2, 1], 0)])
  | 1 => (2, [(.bipush (-2), [], 0), (.ireturn, [0], 0)])
  | 2 => (3, [(.aload_n 0, [], 0), (.invokevirtual 259, [k_M_gapPairs, 1, 11, 1415], 0), (.iconst 3, [], 0), (.if_icmp .le 8, [4, 3], 0)])
  | 3 => (4, [(.bipush (-4), [], 0), (.goto 9, [5], 0)])
  | 4 => (5, [(.aload_n 0, [], 0), (.iload_n 1, [], 0), (.iconst 0, [], 0), (.invokevirtual 370, [k_M_goFill, 3, 11, 1598], 0)])
  | 5 => (6, [(.ireturn, [0], 0)])
  | _ => (0, [])
def L_M_fillings : Nat → List Bool := fun b => match b with
  | 0 => [true, true]
  | 1 => [false, false]
  | 2 => [true, true]
  | 3 => [false, false]
  | 4 => [true, true]
  | 5 => [false, false]
  | _ => []
def P_M_fillings : List Nat := [0, 7, 10, 18, 23, 29]
def K_M_fillings : KE := (⟨"NameReadersModel", "fillings", "(I)I"⟩, prog_13_method_73_code, 2, (Option.some Jvm.ClassFile.FieldType.int), B_M_fillings, L_M_fillings, P_M_fillings, [1597, 1595, 1596, 93, 0, 2])
def B_M_filled : BT := fun b => match b with
  | 0 => (1, [(.iload_n 1, [], 0), (.invokestatic 155, [k_M_isReader, 1, 1330], 0), (.ifCond .ne 6, [2, 1], 0)])
  | 1 => (2, [(.bipush (-2), [], 0), (.ireturn, [0], 0)])
  | 2 => (3, [(.iload_n 2, [], 0), (.ifCond .ge 6, [4, 3], 0)])
  | 3 => (4, [(.bipush (-3), [], 0), (.ireturn, [0], 0)])
  | 4 => (5, [(.aload_n 0, [], 0), (.invokevirtual 259, [k_M_gapPairs, 1, 11, 1415], 0), (.iconst 3, [], 0), (.if_icmp .le 6, [6, 5], 0)])
  | 5 => (6, [(.bipush (-4), [], 0), (.ireturn, [0], 0)])
  | 6 => (7, [(.aload_n 0, [], 0), (.iload_n 1, [], 0), (.iconst 1, [], 0), (.invokevirtual 370, [k_M_goFill, 3, 11, 1598], 0), (.ifCond .eq 11, [8, 7], 0)])
  | 7 => (8, [(.iload_n 2, [], 0), (.aload_n 0, [], 0), (.getfield 219, [11, 19, 0, 1175], 0), (.if_icmp .lt 7, [9, 8], 0)])
  | 8 => (9, [(.iconst (-1), [], 0), (.goto 20, [10], 0)])
  | 9 => (10, [(.sipush 128, [], 0), (.aload_n 0, [], 0), (.getfield 133, [11, 50, 2, 1206], 0), (.iload_n 2, [], 0), (.iaload, [], 0), (.imul, [], 0), (.aload_n 0, [], 0), (.getfield 136, [11, 51, 2, 1207], 0), (.iload_n 2, [], 0), (.iaload, [], 0), (.iadd, [], 0)])
  | 10 => (11, [(.ireturn, [0], 0)])
  | _ => (0, [])
def L_M_filled : Nat → List Bool := fun b => match b with
  | 0 => [true, true, true]
  | 1 => [false, false, false]
  | 2 => [true, true, true]
  | 3 => [false, false, false]
  | 4 => [true, true, true]
  | 5 => [false, false, false]
  | 6 => [true, true, true]
  | 7 => [true, false, true]
  | 8 => [false, false, false]
  | 9 => [true, false, true]
  | 10 => [false, false, false]
  | _ => []
def P_M_filled : List Nat := [0, 7, 10, 14, 17, 25, 28, 37, 45, 49, 66]
def K_M_filled : KE := (⟨"NameReadersModel", "filled", "(II)I"⟩, prog_13_method_74_code, 3, (Option.some Jvm.ClassFile.FieldType.int), B_M_filled, L_M_filled, P_M_filled, [1621, 1619, 1620, 93, 0, 3])
def B_M_unused : BT := fun b => match b with
  | 0 => (1, [(.bipush 13, [], 0), (.istore_n 1, [], 0)])
  | 1 => (2, [(.iload_n 0, [], 0), (.iconst 0, [], 0), (.invokestatic 231, [k_M_heldIn, 2, 1447], 0), (.iload_n 1, [], 0), (.if_icmp .eq 21, [4, 2], 0)])
  | 2 => (3, [(.iload_n 0, [], 0), (.iconst 1, [], 0), (.invokestatic 231, [k_M_heldIn, 2, 1447], 0), (.iload_n 1, [], 0), (.if_icmp .eq 12, [4, 3], 0)])
  | 3 => (4, [(.iload_n 0, [], 0), (.iconst 2, [], 0), (.invokestatic 231, [k_M_heldIn, 2, 1447], 0), (.iload_n 1, [], 0), (.if_icmp .ne 9, [5, 4], 0)])
  | 4 => (5, [(.iinc 1 1, [], 0), (.goto (-30), [1], 0)])
  | 5 => (6, [(.iload_n 1, [], 0), (.ireturn, [0], 0)])
  | _ => (0, [])
def L_M_unused : Nat → List Bool := fun b => match b with
  | 0 => [true, false]
  | 1 => [true, true]
  | 2 => [true, true]
  | 3 => [true, true]
  | 4 => [true, true]
  | 5 => [false, true]
  | _ => []
def P_M_unused : List Nat := [0, 3, 12, 21, 30, 36]
def K_M_unused : KE := (⟨"NameReadersModel", "unused", "(I)I"⟩, prog_13_method_75_code, 2, (Option.some Jvm.ClassFile.FieldType.int), B_M_unused, L_M_unused, P_M_unused, [1632, 1631, 0, 93, 1, 1])
def B_M_mend : BT := fun b => match b with
  | 0 => (1, [(.iload_n 1, [], 0), (.invokestatic 155, [k_M_isReader, 1, 1330], 0), (.ifCond .ne 6, [2, 1], 0)])
  | 1 => (2, [(.bipush (-2), [], 0), (.ireturn, [0], 0)])
  | 2 => (3, [(.aload_n 0, [], 0), (.invokevirtual 259, [k_M_gapPairs, 1, 11, 1415], 0), (.ifCond .le 6, [4, 3], 0)])
  | 3 => (4, [(.bipush (-4), [], 0), (.ireturn, [0], 0)])
  | 4 => (5, [(.aload_n 0, [], 0), (.invokevirtual 249, [k_M_layNames, 1, 11, 1427], 0), (.iconst 0, [], 0), (.istore_n 2, [], 0)])
  | 5 => (6, [(.iload_n 2, [], 0), (.sipush 29478, [], 0), (.if_icmp .ge 35, [10, 6], 0)])
  | 6 => (7, [(.aload_n 0, [], 0), (.getfield 145, [11, 54, 2, 1210], 0), (.iload_n 2, [], 0), (.iload_n 2, [], 0), (.ifCond .ne 7, [8, 7], 0)])
  | 7 => (8, [(.iconst 0, [], 0), (.goto 6, [9], 0)])
  | 8 => (9, [(.ldc_w 292, [0, 1508], 268435456)])
  | 9 => (10, [(.iastore, [], 0), (.aload_n 0, [], 0), (.getfield 148, [11, 55, 2, 1211], 0), (.iload_n 2, [], 0), (.ldc_w 292, [0, 1508], 268435456), (.iastore, [], 0), (.iinc 2 1, [], 0), (.goto (-36), [5], 0)])
  | 10 => (11, [(.iconst 0, [], 0), (.istore_n 2, [], 0)])
  | 11 => (12, [(.iload_n 2, [], 0), (.aload_n 0, [], 0), (.getfield 219, [11, 19, 0, 1175], 0), (.if_icmp .ge 79, [21, 12], 0)])
  | 12 => (13, [(.iconst 0, [], 0), (.istore_n 3, [], 0)])
  | 13 => (14, [(.iload_n 3, [], 0), (.sipush 29478, [], 0), (.if_icmp .ge 28, [17, 14], 0)])
  | 14 => (15, [(.aload_n 0, [], 0), (.getfield 145, [11, 54, 2, 1210], 0), (.iload_n 3, [], 0), (.iaload, [], 0), (.ldc_w 292, [0, 1508], 268435456), (.if_icmp .ge 10, [16, 15], 0)])
  | 15 => (16, [(.aload_n 0, [], 0), (.iload_n 1, [], 0), (.iload_n 3, [], 0), (.iload_n 2, [], 0), (.invokevirtual 374, [k_M_mendFrom, 4, 11, 1626], 0)])
  | 16 => (17, [(.iinc 3 1, [], 0), (.goto (-29), [13], 0)])
  | 17 => (18, [(.iconst 0, [], 0), (.istore_n 3, [], 0)])
  | 18 => (19, [(.iload_n 3, [], 0), (.sipush 29478, [], 0), (.if_icmp .ge 30, [20, 19], 0)])
  | 19 => (20, [(.aload_n 0, [], 0), (.getfield 145, [11, 54, 2, 1210], 0), (.iload_n 3, [], 0), (.aload_n 0, [], 0), (.getfield 148, [11, 55, 2, 1211], 0), (.iload_n 3, [], 0), (.iaload, [], 0), (.iastore, [], 0), (.aload_n 0, [], 0), (.getfield 148, [11, 55, 2, 1211], 0), (.iload_n 3, [], 0), (.ldc_w 292, [0, 1508], 268435456), (.iastore, [], 0), (.iinc 3 1, [], 0), (.goto (-31), [18], 0)])
  | 20 => (21, [(.iinc 2 1, [], 0), (.goto (-81), [11], 0)])
  | 21 => (22, [(.ldc_w 292, [0, 1508], 268435456), (.istore_n 2, [], 0), (.iconst 0, [], 0), (.istore_n 3, [], 0)])
  | 22 => (23, [(.iload_n 3, [], 0), (.sipush 29478, [], 0), (.if_icmp .ge 39, [28, 23], 0)])
  | 23 => (24, [(.aload_n 0, [], 0), (.iload_n 1, [], 0), (.iload_n 3, [], 0), (.invokevirtual 246, [k_M_isTaken, 3, 11, 1458], 0), (.ifCond .eq 22, [26, 24], 0)])
  | 24 => (25, [(.aload_n 0, [], 0), (.getfield 145, [11, 54, 2, 1210], 0), (.iload_n 3, [], 0), (.iaload, [], 0), (.iload_n 2, [], 0), (.if_icmp .ge 12, [26, 25], 0)])
  | 25 => (26, [(.aload_n 0, [], 0), (.getfield 145, [11, 54, 2, 1210], 0), (.iload_n 3, [], 0), (.iaload, [], 0), (.goto 4, [27], 0)])
  | 26 => (27, [(.iload_n 2, [], 0)])
  | 27 => (28, [(.istore_n 2, [], 0), (.iinc 3 1, [], 0), (.goto (-40), [22], 0)])
  | 28 => (29, [(.iload_n 2, [], 0), (.ldc_w 292, [0, 1508], 268435456), (.if_icmp .lt 7, [30, 29], 0)])
  | 29 => (30, [(.iconst (-1), [], 0), (.goto 4, [31], 0)])
  | 30 => (31, [(.iload_n 2, [], 0)])
  | 31 => (32, [(.ireturn, [0], 0)])
  | _ => (0, [])
def L_M_mend : Nat → List Bool := fun b => match b with
  | 0 => [true, true, false, false]
  | 1 => [false, false, false, false]
  | 2 => [true, true, false, false]
  | 3 => [false, false, false, false]
  | 4 => [true, true, false, false]
  | 5 => [true, true, true, false]
  | 6 => [true, true, true, false]
  | 7 => [true, true, true, false]
  | 8 => [true, true, true, false]
  | 9 => [true, true, true, false]
  | 10 => [true, true, false, false]
  | 11 => [true, true, true, false]
  | 12 => [true, true, true, false]
  | 13 => [true, true, true, true]
  | 14 => [true, true, true, true]
  | 15 => [true, true, true, true]
  | 16 => [true, true, true, true]
  | 17 => [true, true, true, false]
  | 18 => [true, true, true, true]
  | 19 => [true, true, true, true]
  | 20 => [true, true, true, false]
  | 21 => [true, true, false, false]
  | 22 => [true, true, true, true]
  | 23 => [true, true, true, true]
  | 24 => [true, true, true, true]
  | 25 => [true, true, false, true]
  | 26 => [true, true, true, true]
  | 27 => [true, true, false, true]
  | 28 => [false, false, true, false]
  | 29 => [false, false, false, false]
  | 30 => [false, false, true, false]
  | 31 => [false, false, false, false]
  | _ => []
def P_M_mend : List Nat := [0, 7, 10, 17, 20, 26, 33, 42, 46, 49, 65, 67, 75, 77, 84, 96, 103, 109, 111, 118, 145, 151, 157, 164, 173, 183, 192, 193, 200, 207, 211, 212]
def K_M_mend : KE := (⟨"NameReadersModel", "mend", "(I)I"⟩, prog_13_method_76_code, 4, (Option.some Jvm.ClassFile.FieldType.int), B_M_mend, L_M_mend, P_M_mend, [1625, 1623, 1624, 93, 0, 2])
def B_M_mendFrom : BT := fun b => match b with
  | 0 => (1, [(.iload_n 2, [], 0), (.invokestatic 377, [k_M_unused, 1, 1630], 0), (.istore 4, [], 0), (.bipush 20, [], 0), (.iload_n 1, [], 0), (.imul, [], 0), (.istore 5, [], 0)])
  | 1 => (2, [(.iload 5, [], 0), (.bipush 20, [], 0), (.iload_n 1, [], 0), (.imul, [], 0), (.aload_n 0, [], 0), (.getfield 19, [11, 3, 2, 1159], 0), (.iload_n 1, [], 0), (.iaload, [], 0), (.iadd, [], 0), (.if_icmp .ge 192, [24, 2], 0)])
  | 2 => (3, [(.iconst 1, [], 0), (.istore 6, [], 0)])
  | 3 => (4, [(.iload 6, [], 0), (.bipush 17, [], 0), (.if_icmp .ge 176, [23, 4], 0)])
  | 4 => (5, [(.iload 6, [], 0), (.aload_n 0, [], 0), (.getfield 225, [11, 24, 0, 1180], 0), (.if_icmp .le 47, [10, 5], 0)])
  | 5 => (6, [(.iload 6, [], 0), (.iload 4, [], 0), (.if_icmp .eq 40, [10, 6], 0)])
  | 6 => (7, [(.iload 6, [], 0), (.bipush 12, [], 0), (.if_icmp .le 37, [11, 7], 0)])
  | 7 => (8, [(.iload_n 2, [], 0), (.iconst 0, [], 0), (.invokestatic 231, [k_M_heldIn, 2, 1447], 0), (.iload 6, [], 0), (.if_icmp .eq 23, [10, 8], 0)])
  | 8 => (9, [(.iload_n 2, [], 0), (.iconst 1, [], 0), (.invokestatic 231, [k_M_heldIn, 2, 1447], 0), (.iload 6, [], 0), (.if_icmp .eq 13, [10, 9], 0)])
  | 9 => (10, [(.iload_n 2, [], 0), (.iconst 2, [], 0), (.invokestatic 231, [k_M_heldIn, 2, 1447], 0), (.iload 6, [], 0), (.if_icmp .ne 7, [11, 10], 0)])
  | 10 => (11, [(.iconst 1, [], 0), (.goto 4, [12], 0)])
  | 11 => (12, [(.iconst 0, [], 0)])
  | 12 => (13, [(.istore 7, [], 0), (.iload 7, [], 0), (.ifCond .eq 105, [22, 13], 0)])
  | 13 => (14, [(.aload_n 0, [], 0), (.iload 5, [], 0), (.iload_n 2, [], 0), (.aload_n 0, [], 0), (.getfield 25, [11, 5, 2, 1161], 0), (.iload 5, [], 0), (.iaload, [], 0), (.iload 6, [], 0), (.invokevirtual 238, [k_M_can, 5, 11, 1443], 0), (.ifCond .eq 86, [22, 14], 0)])
  | 14 => (15, [(.aload_n 0, [], 0), (.iload 5, [], 0), (.iload_n 2, [], 0), (.iload 6, [], 0), (.invokevirtual 242, [k_M_behind, 4, 11, 1450], 0), (.istore 8, [], 0), (.aload_n 0, [], 0), (.getfield 145, [11, 54, 2, 1210], 0), (.iload_n 2, [], 0), (.iaload, [], 0), (.aload_n 0, [], 0), (.getfield 25, [11, 5, 2, 1161], 0), (.iload 5, [], 0), (.iaload, [], 0), (.aload_n 0, [], 0), (.getfield 55, [11, 17, 2, 1173], 0), (.iload_n 3, [], 0), (.iaload, [], 0), (.if_icmp .ne 18, [17, 15], 0)])
  | 15 => (16, [(.iload 6, [], 0), (.aload_n 0, [], 0), (.getfield 64, [11, 25, 2, 1181], 0), (.iload_n 3, [], 0), (.iaload, [], 0), (.if_icmp .ne 7, [17, 16], 0)])
  | 16 => (17, [(.iconst 0, [], 0), (.goto 4, [18], 0)])
  | 17 => (18, [(.iconst 1, [], 0)])
  | 18 => (19, [(.iadd, [], 0), (.istore 9, [], 0), (.aload_n 0, [], 0), (.getfield 148, [11, 55, 2, 1211], 0), (.iload 8, [], 0), (.iload 9, [], 0), (.aload_n 0, [], 0), (.getfield 148, [11, 55, 2, 1211], 0), (.iload 8, [], 0), (.iaload, [], 0), (.if_icmp .ge 8, [20, 19], 0)])
  | 19 => (20, [(.iload 9, [], 0), (.goto 10, [21], 0)])
  | 20 => (21, [(.aload_n 0, [], 0), (.getfield 148, [11, 55, 2, 1211], 0), (.iload 8, [], 0), (.iaload, [], 0)])
  | 21 => (22, [(.iastore, [], 0)])
  | 22 => (23, [(.iinc 6 1, [], 0), (.goto (-177), [3], 0)])
  | 23 => (24, [(.iinc 5 1, [], 0), (.goto (-202), [1], 0)])
  | 24 => (25, [(.return_, [], 0)])
  | _ => (0, [])
def L_M_mendFrom : Nat → List Bool := fun b => match b with
  | 0 => [true, true, true, true, false, false, false, false, false, false]
  | 1 => [true, true, true, true, true, true, false, false, false, false]
  | 2 => [true, true, true, true, true, true, false, false, false, false]
  | 3 => [true, true, true, true, true, true, true, false, false, false]
  | 4 => [true, true, true, true, true, true, true, false, false, false]
  | 5 => [true, true, true, true, true, true, true, false, false, false]
  | 6 => [true, true, true, true, true, true, true, false, false, false]
  | 7 => [true, true, true, true, true, true, true, false, false, false]
  | 8 => [true, true, true, true, true, true, true, false, false, false]
  | 9 => [true, true, true, true, true, true, true, false, false, false]
  | 10 => [true, true, true, true, true, true, true, false, false, false]
  | 11 => [true, true, true, true, true, true, true, false, false, false]
  | 12 => [true, true, true, true, true, true, true, false, false, false]
  | 13 => [true, true, true, true, true, true, true, false, false, false]
  | 14 => [true, true, true, true, true, true, true, false, false, false]
  | 15 => [true, true, true, true, true, true, true, false, true, false]
  | 16 => [true, true, true, true, true, true, true, false, true, false]
  | 17 => [true, true, true, true, true, true, true, false, true, false]
  | 18 => [true, true, true, true, true, true, true, false, true, false]
  | 19 => [true, true, true, true, true, true, true, false, false, true]
  | 20 => [true, true, true, true, true, true, true, false, true, false]
  | 21 => [true, true, true, true, true, true, true, false, false, false]
  | 22 => [true, true, true, true, true, true, true, false, false, false]
  | 23 => [true, true, true, true, true, true, false, false, false, false]
  | 24 => [false, false, false, false, false, false, false, false, false, false]
  | _ => []
def P_M_mendFrom : List Nat := [0, 12, 28, 31, 38, 47, 54, 61, 71, 81, 91, 95, 96, 103, 122, 155, 166, 170, 171, 192, 197, 204, 205, 211, 217]
def K_M_mendFrom : KE := (⟨"NameReadersModel", "mendFrom", "(III)V"⟩, prog_13_method_77_code, 10, (Option.none : Option Jvm.ClassFile.FieldType), B_M_mendFrom, L_M_mendFrom, P_M_mendFrom, [1629, 1628, 79, 93, 0, 4])
def B_M_count : BT := fun b => match b with
  | 0 => (1, [(.aload_n 0, [], 0), (.invokevirtual 249, [k_M_layNames, 1, 11, 1427], 0), (.iconst 0, [], 0), (.istore_n 2, [], 0), (.iload_n 1, [], 0), (.tableswitch 118 0 5 #[37, 42, 94, 99, 104, 111], [16, 1, 2, 12, 13, 14, 15], 0)])
  | 1 => (2, [(.aload_n 0, [], 0), (.getfield 219, [11, 19, 0, 1175], 0), (.ireturn, [0], 0)])
  | 2 => (3, [(.iconst 0, [], 0), (.istore_n 3, [], 0)])
  | 3 => (4, [(.iload_n 3, [], 0), (.aload_n 0, [], 0), (.getfield 219, [11, 19, 0, 1175], 0), (.if_icmp .ge 43, [11, 4], 0)])
  | 4 => (5, [(.iload_n 2, [], 0), (.aload_n 0, [], 0), (.getfield 55, [11, 17, 2, 1173], 0), (.iload_n 3, [], 0), (.iaload, [], 0), (.iconst (-1), [], 0), (.if_icmp .ne 7, [6, 5], 0)])
  | 5 => (6, [(.iconst 1, [], 0), (.goto 4, [7], 0)])
  | 6 => (7, [(.iconst 0, [], 0)])
  | 7 => (8, [(.aload_n 0, [], 0), (.getfield 58, [11, 18, 2, 1174], 0), (.iload_n 3, [], 0), (.iaload, [], 0), (.iconst (-1), [], 0), (.if_icmp .ne 7, [9, 8], 0)])
  | 8 => (9, [(.iconst 1, [], 0), (.goto 4, [10], 0)])
  | 9 => (10, [(.iconst 0, [], 0)])
  | 10 => (11, [(.iadd, [], 0), (.iadd, [], 0), (.istore_n 2, [], 0), (.iinc 3 1, [], 0), (.goto (-45), [3], 0)])
  | 11 => (12, [(.iload_n 2, [], 0), (.ireturn, [0], 0)])
  | 12 => (13, [(.aload_n 0, [], 0), (.getfield 225, [11, 24, 0, 1180], 0), (.ireturn, [0], 0)])
  | 13 => (14, [(.aload_n 0, [], 0), (.getfield 165, [11, 16, 0, 1172], 0), (.ireturn, [0], 0)])
  | 14 => (15, [(.aload_n 0, [], 0), (.getfield 19, [11, 3, 2, 1159], 0), (.iconst 0, [], 0), (.iaload, [], 0), (.ireturn, [0], 0)])
  | 15 => (16, [(.aload_n 0, [], 0), (.getfield 19, [11, 3, 2, 1159], 0), (.iconst 1, [], 0), (.iaload, [], 0), (.ireturn, [0], 0)])
  | 16 => (17, [(.bipush (-3), [], 0), (.ireturn, [0], 0)])
  | _ => (0, [])
def L_M_count : Nat → List Bool := fun b => match b with
  | 0 => [true, true, false, false]
  | 1 => [true, false, false, false]
  | 2 => [true, false, true, false]
  | 3 => [true, false, true, true]
  | 4 => [true, false, true, true]
  | 5 => [true, false, false, true]
  | 6 => [true, false, false, true]
  | 7 => [true, false, false, true]
  | 8 => [true, false, false, true]
  | 9 => [true, false, false, true]
  | 10 => [true, false, false, true]
  | 11 => [false, false, true, false]
  | 12 => [true, false, false, false]
  | 13 => [true, false, false, false]
  | 14 => [true, false, false, false]
  | 15 => [true, false, false, false]
  | 16 => [false, false, false, false]
  | _ => []
def P_M_count : List Nat := [0, 44, 49, 51, 59, 70, 74, 75, 85, 89, 90, 99, 101, 106, 111, 118, 125]
def K_M_count : KE := (⟨"NameReadersModel", "count", "(I)I"⟩, prog_13_method_78_code, 4, (Option.some Jvm.ClassFile.FieldType.int), B_M_count, L_M_count, P_M_count, [1636, 1634, 1635, 93, 0, 2])
end
