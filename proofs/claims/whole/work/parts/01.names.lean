-- ===== PART A: goes FIRST, ahead of the names: the tables' words, and 'selects' of the private methods out of them =====
/-- a private method of a class that the tables say can be made, by its rows of tables_1 -/
def lw_okq (q : MethodName × Nat) : Prop := (q.1.cls ≠ "java/lang/invoke/MethodHandle" ∧ q.1.cls ≠ "java/lang/invoke/VarHandle") ∧ Cond.instantiable q.1.cls q.2 ∈ tables_1 ∧ Cond.privateMethod q.1 ∈ tables_1 ∧ Cond.instanceMethod q.1 ∈ tables_1
theorem lw_p0 : lw_okq (⟨"EngraversHouse", "isAuthor", "(I)Z"⟩, 20) := ⟨⟨by decide +kernel, by decide +kernel⟩, List.mem_of_getElem? (i := 24) (by decide +kernel), List.mem_of_getElem? (i := 223) (by decide +kernel), List.mem_of_getElem? (i := 224) (by decide +kernel)⟩
theorem lw_p1 : lw_okq (⟨"EngraversHouse", "keep", "(LEngraversHouse$Thing;)I"⟩, 20) := ⟨⟨by decide +kernel, by decide +kernel⟩, List.mem_of_getElem? (i := 24) (by decide +kernel), List.mem_of_getElem? (i := 287) (by decide +kernel), List.mem_of_getElem? (i := 288) (by decide +kernel)⟩
theorem lw_p2 : lw_okq (⟨"EngraversHouse", "thingAt", "(I)LEngraversHouse$Thing;"⟩, 20) := ⟨⟨by decide +kernel, by decide +kernel⟩, List.mem_of_getElem? (i := 24) (by decide +kernel), List.mem_of_getElem? (i := 295) (by decide +kernel), List.mem_of_getElem? (i := 296) (by decide +kernel)⟩
theorem lw_p3 : lw_okq (⟨"EngraversHouse", "scoreAt", "(I)LEngraversHouse$Score;"⟩, 20) := ⟨⟨by decide +kernel, by decide +kernel⟩, List.mem_of_getElem? (i := 24) (by decide +kernel), List.mem_of_getElem? (i := 299) (by decide +kernel), List.mem_of_getElem? (i := 300) (by decide +kernel)⟩
theorem lw_p4 : lw_okq (⟨"EngraversHouse", "lacking", "(I)I"⟩, 20) := ⟨⟨by decide +kernel, by decide +kernel⟩, List.mem_of_getElem? (i := 24) (by decide +kernel), List.mem_of_getElem? (i := 311) (by decide +kernel), List.mem_of_getElem? (i := 312) (by decide +kernel)⟩
theorem lw_p5 : lw_okq (⟨"EngraversHouse$Score", "openBar", "(I)LEngraversHouse$Bar;"⟩, 8) := ⟨⟨by decide +kernel, by decide +kernel⟩, List.mem_of_getElem? (i := 234) (by decide +kernel), List.mem_of_getElem? (i := 330) (by decide +kernel), List.mem_of_getElem? (i := 331) (by decide +kernel)⟩
theorem lw_p6 : lw_okq (⟨"EngraversHouse$Score", "begunBar", "(II)LEngraversHouse$Bar;"⟩, 8) := ⟨⟨by decide +kernel, by decide +kernel⟩, List.mem_of_getElem? (i := 234) (by decide +kernel), List.mem_of_getElem? (i := 334) (by decide +kernel), List.mem_of_getElem? (i := 335) (by decide +kernel)⟩
theorem lw_p7 : lw_okq (⟨"EngraversHouse", "takeFromTape", "(LEngraversHouse$Score;IIJ)I"⟩, 20) := ⟨⟨by decide +kernel, by decide +kernel⟩, List.mem_of_getElem? (i := 24) (by decide +kernel), List.mem_of_getElem? (i := 403) (by decide +kernel), List.mem_of_getElem? (i := 404) (by decide +kernel)⟩
theorem lw_p8 : lw_okq (⟨"EngraversHouse", "hasStretch", "(IJJ)Z"⟩, 20) := ⟨⟨by decide +kernel, by decide +kernel⟩, List.mem_of_getElem? (i := 24) (by decide +kernel), List.mem_of_getElem? (i := 407) (by decide +kernel), List.mem_of_getElem? (i := 408) (by decide +kernel)⟩
theorem lw_p9 : lw_okq (⟨"EngraversHouse", "partAt", "(I)LEngraversHouse$Part;"⟩, 20) := ⟨⟨by decide +kernel, by decide +kernel⟩, List.mem_of_getElem? (i := 24) (by decide +kernel), List.mem_of_getElem? (i := 528) (by decide +kernel), List.mem_of_getElem? (i := 529) (by decide +kernel)⟩
theorem lw_p10 : lw_okq (⟨"EngraversHouse", "plateAt", "(I)LEngraversHouse$Plate;"⟩, 20) := ⟨⟨by decide +kernel, by decide +kernel⟩, List.mem_of_getElem? (i := 24) (by decide +kernel), List.mem_of_getElem? (i := 610) (by decide +kernel), List.mem_of_getElem? (i := 611) (by decide +kernel)⟩
theorem lw_p11 : lw_okq (⟨"EngraversHouse", "editionAt", "(I)LEngraversHouse$Edition;"⟩, 20) := ⟨⟨by decide +kernel, by decide +kernel⟩, List.mem_of_getElem? (i := 24) (by decide +kernel), List.mem_of_getElem? (i := 707) (by decide +kernel), List.mem_of_getElem? (i := 708) (by decide +kernel)⟩
theorem lw_p12 : lw_okq (⟨"EngraversHouse", "amendedNote", "(LEngraversHouse$Edition;IIII)I"⟩, 20) := ⟨⟨by decide +kernel, by decide +kernel⟩, List.mem_of_getElem? (i := 24) (by decide +kernel), List.mem_of_getElem? (i := 715) (by decide +kernel), List.mem_of_getElem? (i := 716) (by decide +kernel)⟩
theorem lw_p13 : lw_okq (⟨"EngraversHouse", "erratumAt", "(I)LEngraversHouse$Erratum;"⟩, 20) := ⟨⟨by decide +kernel, by decide +kernel⟩, List.mem_of_getElem? (i := 24) (by decide +kernel), List.mem_of_getElem? (i := 722) (by decide +kernel), List.mem_of_getElem? (i := 723) (by decide +kernel)⟩
theorem lw_p14 : lw_okq (⟨"EngraversHouse$Edition", "fillRow", "(LEngraversHouse$Bar;LEngraversHouse$Edition;I)V"⟩, 12) := ⟨⟨by decide +kernel, by decide +kernel⟩, List.mem_of_getElem? (i := 648) (by decide +kernel), List.mem_of_getElem? (i := 778) (by decide +kernel), List.mem_of_getElem? (i := 779) (by decide +kernel)⟩
theorem lw_p15 : lw_okq (⟨"EngraversHouse", "growTree", "(LEngraversHouse$Score;)V"⟩, 20) := ⟨⟨by decide +kernel, by decide +kernel⟩, List.mem_of_getElem? (i := 24) (by decide +kernel), List.mem_of_getElem? (i := 789) (by decide +kernel), List.mem_of_getElem? (i := 790) (by decide +kernel)⟩
def lw_privs_1 : List (MethodName × Nat) := [(⟨"EngraversHouse", "isAuthor", "(I)Z"⟩, 20), (⟨"EngraversHouse", "keep", "(LEngraversHouse$Thing;)I"⟩, 20), (⟨"EngraversHouse", "thingAt", "(I)LEngraversHouse$Thing;"⟩, 20), (⟨"EngraversHouse", "scoreAt", "(I)LEngraversHouse$Score;"⟩, 20), (⟨"EngraversHouse", "lacking", "(I)I"⟩, 20), (⟨"EngraversHouse$Score", "openBar", "(I)LEngraversHouse$Bar;"⟩, 8), (⟨"EngraversHouse$Score", "begunBar", "(II)LEngraversHouse$Bar;"⟩, 8), (⟨"EngraversHouse", "takeFromTape", "(LEngraversHouse$Score;IIJ)I"⟩, 20), (⟨"EngraversHouse", "hasStretch", "(IJJ)Z"⟩, 20), (⟨"EngraversHouse", "partAt", "(I)LEngraversHouse$Part;"⟩, 20), (⟨"EngraversHouse", "plateAt", "(I)LEngraversHouse$Plate;"⟩, 20), (⟨"EngraversHouse", "editionAt", "(I)LEngraversHouse$Edition;"⟩, 20), (⟨"EngraversHouse", "amendedNote", "(LEngraversHouse$Edition;IIII)I"⟩, 20), (⟨"EngraversHouse", "erratumAt", "(I)LEngraversHouse$Erratum;"⟩, 20), (⟨"EngraversHouse$Edition", "fillRow", "(LEngraversHouse$Bar;LEngraversHouse$Edition;I)V"⟩, 12), (⟨"EngraversHouse", "growTree", "(LEngraversHouse$Score;)V"⟩, 20)]
theorem lw_r1 : ∀ q ∈ lw_privs_1, lw_okq q := List.forall_mem_cons.mpr ⟨lw_p0, List.forall_mem_cons.mpr ⟨lw_p1, List.forall_mem_cons.mpr ⟨lw_p2, List.forall_mem_cons.mpr ⟨lw_p3, List.forall_mem_cons.mpr ⟨lw_p4, List.forall_mem_cons.mpr ⟨lw_p5, List.forall_mem_cons.mpr ⟨lw_p6, List.forall_mem_cons.mpr ⟨lw_p7, List.forall_mem_cons.mpr ⟨lw_p8, List.forall_mem_cons.mpr ⟨lw_p9, List.forall_mem_cons.mpr ⟨lw_p10, List.forall_mem_cons.mpr ⟨lw_p11, List.forall_mem_cons.mpr ⟨lw_p12, List.forall_mem_cons.mpr ⟨lw_p13, List.forall_mem_cons.mpr ⟨lw_p14, List.forall_mem_cons.mpr ⟨lw_p15, fun _ h => absurd h List.not_mem_nil⟩⟩⟩⟩⟩⟩⟩⟩⟩⟩⟩⟩⟩⟩⟩⟩
theorem lw_p16 : lw_okq (⟨"EngraversHouse", "nearestToTree", "(LEngraversHouse$Score;)LEngraversHouse$Edition;"⟩, 20) := ⟨⟨by decide +kernel, by decide +kernel⟩, List.mem_of_getElem? (i := 24) (by decide +kernel), List.mem_of_getElem? (i := 798) (by decide +kernel), List.mem_of_getElem? (i := 799) (by decide +kernel)⟩
theorem lw_p17 : lw_okq (⟨"EngraversHouse$Layout", "fillLine", "(IIII)V"⟩, 6) := ⟨⟨by decide +kernel, by decide +kernel⟩, List.mem_of_getElem? (i := 36) (by decide +kernel), List.mem_of_getElem? (i := 829) (by decide +kernel), List.mem_of_getElem? (i := 830) (by decide +kernel)⟩
theorem lw_p18 : lw_okq (⟨"EngraversHouse$Contract", "readClause", "(II)V"⟩, 13) := ⟨⟨by decide +kernel, by decide +kernel⟩, List.mem_of_getElem? (i := 858) (by decide +kernel), List.mem_of_getElem? (i := 928) (by decide +kernel), List.mem_of_getElem? (i := 929) (by decide +kernel)⟩
theorem lw_p19 : lw_okq (⟨"EngraversHouse$Contract", "sees", "(C)Z"⟩, 13) := ⟨⟨by decide +kernel, by decide +kernel⟩, List.mem_of_getElem? (i := 858) (by decide +kernel), List.mem_of_getElem? (i := 932) (by decide +kernel), List.mem_of_getElem? (i := 933) (by decide +kernel)⟩
theorem lw_p20 : lw_okq (⟨"EngraversHouse$Contract", "readTerm", "()V"⟩, 13) := ⟨⟨by decide +kernel, by decide +kernel⟩, List.mem_of_getElem? (i := 858) (by decide +kernel), List.mem_of_getElem? (i := 936) (by decide +kernel), List.mem_of_getElem? (i := 937) (by decide +kernel)⟩
theorem lw_p21 : lw_okq (⟨"EngraversHouse$Contract", "skip", "(Ljava/lang/String;)V"⟩, 13) := ⟨⟨by decide +kernel, by decide +kernel⟩, List.mem_of_getElem? (i := 858) (by decide +kernel), List.mem_of_getElem? (i := 941) (by decide +kernel), List.mem_of_getElem? (i := 942) (by decide +kernel)⟩
theorem lw_p22 : lw_okq (⟨"EngraversHouse$Contract", "pick", "(Ljava/lang/String;)I"⟩, 13) := ⟨⟨by decide +kernel, by decide +kernel⟩, List.mem_of_getElem? (i := 858) (by decide +kernel), List.mem_of_getElem? (i := 994) (by decide +kernel), List.mem_of_getElem? (i := 995) (by decide +kernel)⟩
theorem lw_p23 : lw_okq (⟨"EngraversHouse$Contract", "readNumber", "()I"⟩, 13) := ⟨⟨by decide +kernel, by decide +kernel⟩, List.mem_of_getElem? (i := 858) (by decide +kernel), List.mem_of_getElem? (i := 1055) (by decide +kernel), List.mem_of_getElem? (i := 1056) (by decide +kernel)⟩
theorem lw_p24 : lw_okq (⟨"EngraversHouse$Contract", "condition", "(I)Z"⟩, 13) := ⟨⟨by decide +kernel, by decide +kernel⟩, List.mem_of_getElem? (i := 858) (by decide +kernel), List.mem_of_getElem? (i := 1064) (by decide +kernel), List.mem_of_getElem? (i := 1065) (by decide +kernel)⟩
theorem lw_p25 : lw_okq (⟨"EngraversHouse$Contract", "single", "(I)Z"⟩, 13) := ⟨⟨by decide +kernel, by decide +kernel⟩, List.mem_of_getElem? (i := 858) (by decide +kernel), List.mem_of_getElem? (i := 1068) (by decide +kernel), List.mem_of_getElem? (i := 1069) (by decide +kernel)⟩
theorem lw_p26 : lw_okq (⟨"EngraversHouse$Contract", "nested", "(ZI)Z"⟩, 13) := ⟨⟨by decide +kernel, by decide +kernel⟩, List.mem_of_getElem? (i := 858) (by decide +kernel), List.mem_of_getElem? (i := 1073) (by decide +kernel), List.mem_of_getElem? (i := 1074) (by decide +kernel)⟩
theorem lw_p27 : lw_okq (⟨"EngraversHouse", "contractNumber", "(II)I"⟩, 20) := ⟨⟨by decide +kernel, by decide +kernel⟩, List.mem_of_getElem? (i := 24) (by decide +kernel), List.mem_of_getElem? (i := 1084) (by decide +kernel), List.mem_of_getElem? (i := 1085) (by decide +kernel)⟩
theorem lw_p28 : lw_okq (⟨"EngraversHouse", "contractAt", "(I)LEngraversHouse$Contract;"⟩, 20) := ⟨⟨by decide +kernel, by decide +kernel⟩, List.mem_of_getElem? (i := 24) (by decide +kernel), List.mem_of_getElem? (i := 1088) (by decide +kernel), List.mem_of_getElem? (i := 1089) (by decide +kernel)⟩
theorem lw_p29 : lw_okq (⟨"EngraversHouse", "hasRight", "(ILEngraversHouse$Contract;I)Z"⟩, 20) := ⟨⟨by decide +kernel, by decide +kernel⟩, List.mem_of_getElem? (i := 24) (by decide +kernel), List.mem_of_getElem? (i := 1099) (by decide +kernel), List.mem_of_getElem? (i := 1100) (by decide +kernel)⟩
theorem lw_p30 : lw_okq (⟨"EngraversHouse", "daysSinceDeath", "(II)I"⟩, 20) := ⟨⟨by decide +kernel, by decide +kernel⟩, List.mem_of_getElem? (i := 24) (by decide +kernel), List.mem_of_getElem? (i := 1103) (by decide +kernel), List.mem_of_getElem? (i := 1104) (by decide +kernel)⟩
theorem lw_p31 : lw_okq (⟨"EngraversHouse", "wholeYearsSince", "(II)I"⟩, 20) := ⟨⟨by decide +kernel, by decide +kernel⟩, List.mem_of_getElem? (i := 24) (by decide +kernel), List.mem_of_getElem? (i := 1112) (by decide +kernel), List.mem_of_getElem? (i := 1113) (by decide +kernel)⟩
def lw_privs_2 : List (MethodName × Nat) := [(⟨"EngraversHouse", "nearestToTree", "(LEngraversHouse$Score;)LEngraversHouse$Edition;"⟩, 20), (⟨"EngraversHouse$Layout", "fillLine", "(IIII)V"⟩, 6), (⟨"EngraversHouse$Contract", "readClause", "(II)V"⟩, 13), (⟨"EngraversHouse$Contract", "sees", "(C)Z"⟩, 13), (⟨"EngraversHouse$Contract", "readTerm", "()V"⟩, 13), (⟨"EngraversHouse$Contract", "skip", "(Ljava/lang/String;)V"⟩, 13), (⟨"EngraversHouse$Contract", "pick", "(Ljava/lang/String;)I"⟩, 13), (⟨"EngraversHouse$Contract", "readNumber", "()I"⟩, 13), (⟨"EngraversHouse$Contract", "condition", "(I)Z"⟩, 13), (⟨"EngraversHouse$Contract", "single", "(I)Z"⟩, 13), (⟨"EngraversHouse$Contract", "nested", "(ZI)Z"⟩, 13), (⟨"EngraversHouse", "contractNumber", "(II)I"⟩, 20), (⟨"EngraversHouse", "contractAt", "(I)LEngraversHouse$Contract;"⟩, 20), (⟨"EngraversHouse", "hasRight", "(ILEngraversHouse$Contract;I)Z"⟩, 20), (⟨"EngraversHouse", "daysSinceDeath", "(II)I"⟩, 20), (⟨"EngraversHouse", "wholeYearsSince", "(II)I"⟩, 20)]
theorem lw_r2 : ∀ q ∈ lw_privs_2, lw_okq q := List.forall_mem_cons.mpr ⟨lw_p16, List.forall_mem_cons.mpr ⟨lw_p17, List.forall_mem_cons.mpr ⟨lw_p18, List.forall_mem_cons.mpr ⟨lw_p19, List.forall_mem_cons.mpr ⟨lw_p20, List.forall_mem_cons.mpr ⟨lw_p21, List.forall_mem_cons.mpr ⟨lw_p22, List.forall_mem_cons.mpr ⟨lw_p23, List.forall_mem_cons.mpr ⟨lw_p24, List.forall_mem_cons.mpr ⟨lw_p25, List.forall_mem_cons.mpr ⟨lw_p26, List.forall_mem_cons.mpr ⟨lw_p27, List.forall_mem_cons.mpr ⟨lw_p28, List.forall_mem_cons.mpr ⟨lw_p29, List.forall_mem_cons.mpr ⟨lw_p30, List.forall_mem_cons.mpr ⟨lw_p31, fun _ h => absurd h List.not_mem_nil⟩⟩⟩⟩⟩⟩⟩⟩⟩⟩⟩⟩⟩⟩⟩⟩
theorem lw_p32 : lw_okq (⟨"EngraversHouse", "setAt", "(I)LEngraversHouse$Part;"⟩, 20) := ⟨⟨by decide +kernel, by decide +kernel⟩, List.mem_of_getElem? (i := 24) (by decide +kernel), List.mem_of_getElem? (i := 1140) (by decide +kernel), List.mem_of_getElem? (i := 1141) (by decide +kernel)⟩
theorem lw_p33 : lw_okq (⟨"EngraversHouse$Tour", "wayBetween", "(II)I"⟩, 10) := ⟨⟨by decide +kernel, by decide +kernel⟩, List.mem_of_getElem? (i := 65) (by decide +kernel), List.mem_of_getElem? (i := 1152) (by decide +kernel), List.mem_of_getElem? (i := 1153) (by decide +kernel)⟩
theorem lw_p34 : lw_okq (⟨"EngraversHouse$Tour", "bestBehind", "(III)I"⟩, 10) := ⟨⟨by decide +kernel, by decide +kernel⟩, List.mem_of_getElem? (i := 65) (by decide +kernel), List.mem_of_getElem? (i := 1177) (by decide +kernel), List.mem_of_getElem? (i := 1178) (by decide +kernel)⟩
theorem lw_p35 : lw_okq (⟨"EngraversHouse$Tour", "isBetter", "(II)Z"⟩, 10) := ⟨⟨by decide +kernel, by decide +kernel⟩, List.mem_of_getElem? (i := 65) (by decide +kernel), List.mem_of_getElem? (i := 1181) (by decide +kernel), List.mem_of_getElem? (i := 1182) (by decide +kernel)⟩
theorem lw_p36 : lw_okq (⟨"EngraversHouse$PrintPlan", "printAt", "(I)V"⟩, 8) := ⟨⟨by decide +kernel, by decide +kernel⟩, List.mem_of_getElem? (i := 106) (by decide +kernel), List.mem_of_getElem? (i := 1216) (by decide +kernel), List.mem_of_getElem? (i := 1217) (by decide +kernel)⟩
theorem lw_p37 : lw_okq (⟨"EngraversHouse$PrintPlan", "isBetter", "(IIII)Z"⟩, 8) := ⟨⟨by decide +kernel, by decide +kernel⟩, List.mem_of_getElem? (i := 106) (by decide +kernel), List.mem_of_getElem? (i := 1220) (by decide +kernel), List.mem_of_getElem? (i := 1221) (by decide +kernel)⟩
theorem lw_p38 : lw_okq (⟨"EngraversHouse", "runBody", "(LEngraversHouse$Thing;IIII)I"⟩, 20) := ⟨⟨by decide +kernel, by decide +kernel⟩, List.mem_of_getElem? (i := 24) (by decide +kernel), List.mem_of_getElem? (i := 1247) (by decide +kernel), List.mem_of_getElem? (i := 1248) (by decide +kernel)⟩
theorem lw_p39 : lw_okq (⟨"EngraversHouse", "answerOf", "(ILEngraversHouse$Thing;III)I"⟩, 20) := ⟨⟨by decide +kernel, by decide +kernel⟩, List.mem_of_getElem? (i := 24) (by decide +kernel), List.mem_of_getElem? (i := 1261) (by decide +kernel), List.mem_of_getElem? (i := 1262) (by decide +kernel)⟩
theorem lw_p40 : lw_okq (⟨"EngraversHouseModel", "isAuthor", "(I)Z"⟩, 82) := ⟨⟨by decide +kernel, by decide +kernel⟩, List.mem_of_getElem? (i := 1300) (by decide +kernel), List.mem_of_getElem? (i := 1568) (by decide +kernel), List.mem_of_getElem? (i := 1569) (by decide +kernel)⟩
theorem lw_p41 : lw_okq (⟨"EngraversHouseModel", "add", "(IIII)I"⟩, 82) := ⟨⟨by decide +kernel, by decide +kernel⟩, List.mem_of_getElem? (i := 1300) (by decide +kernel), List.mem_of_getElem? (i := 1579) (by decide +kernel), List.mem_of_getElem? (i := 1580) (by decide +kernel)⟩
theorem lw_p42 : lw_okq (⟨"EngraversHouseModel", "isThing", "(I)Z"⟩, 82) := ⟨⟨by decide +kernel, by decide +kernel⟩, List.mem_of_getElem? (i := 1300) (by decide +kernel), List.mem_of_getElem? (i := 1587) (by decide +kernel), List.mem_of_getElem? (i := 1588) (by decide +kernel)⟩
theorem lw_p43 : lw_okq (⟨"EngraversHouseModel", "isMusic", "(I)Z"⟩, 82) := ⟨⟨by decide +kernel, by decide +kernel⟩, List.mem_of_getElem? (i := 1300) (by decide +kernel), List.mem_of_getElem? (i := 1591) (by decide +kernel), List.mem_of_getElem? (i := 1592) (by decide +kernel)⟩
theorem lw_p44 : lw_okq (⟨"EngraversHouseModel", "put", "(IIIII)I"⟩, 82) := ⟨⟨by decide +kernel, by decide +kernel⟩, List.mem_of_getElem? (i := 1300) (by decide +kernel), List.mem_of_getElem? (i := 1602) (by decide +kernel), List.mem_of_getElem? (i := 1603) (by decide +kernel)⟩
theorem lw_p45 : lw_okq (⟨"EngraversHouseModel", "whole", "(II)I"⟩, 82) := ⟨⟨by decide +kernel, by decide +kernel⟩, List.mem_of_getElem? (i := 1300) (by decide +kernel), List.mem_of_getElem? (i := 1606) (by decide +kernel), List.mem_of_getElem? (i := 1607) (by decide +kernel)⟩
theorem lw_p46 : lw_okq (⟨"EngraversHouseModel", "barAt", "(III)I"⟩, 82) := ⟨⟨by decide +kernel, by decide +kernel⟩, List.mem_of_getElem? (i := 1300) (by decide +kernel), List.mem_of_getElem? (i := 1610) (by decide +kernel), List.mem_of_getElem? (i := 1611) (by decide +kernel)⟩
theorem lw_p47 : lw_okq (⟨"EngraversHouseModel", "filled", "(I)I"⟩, 82) := ⟨⟨by decide +kernel, by decide +kernel⟩, List.mem_of_getElem? (i := 1300) (by decide +kernel), List.mem_of_getElem? (i := 1614) (by decide +kernel), List.mem_of_getElem? (i := 1615) (by decide +kernel)⟩
def lw_privs_3 : List (MethodName × Nat) := [(⟨"EngraversHouse", "setAt", "(I)LEngraversHouse$Part;"⟩, 20), (⟨"EngraversHouse$Tour", "wayBetween", "(II)I"⟩, 10), (⟨"EngraversHouse$Tour", "bestBehind", "(III)I"⟩, 10), (⟨"EngraversHouse$Tour", "isBetter", "(II)Z"⟩, 10), (⟨"EngraversHouse$PrintPlan", "printAt", "(I)V"⟩, 8), (⟨"EngraversHouse$PrintPlan", "isBetter", "(IIII)Z"⟩, 8), (⟨"EngraversHouse", "runBody", "(LEngraversHouse$Thing;IIII)I"⟩, 20), (⟨"EngraversHouse", "answerOf", "(ILEngraversHouse$Thing;III)I"⟩, 20), (⟨"EngraversHouseModel", "isAuthor", "(I)Z"⟩, 82), (⟨"EngraversHouseModel", "add", "(IIII)I"⟩, 82), (⟨"EngraversHouseModel", "isThing", "(I)Z"⟩, 82), (⟨"EngraversHouseModel", "isMusic", "(I)Z"⟩, 82), (⟨"EngraversHouseModel", "put", "(IIIII)I"⟩, 82), (⟨"EngraversHouseModel", "whole", "(II)I"⟩, 82), (⟨"EngraversHouseModel", "barAt", "(III)I"⟩, 82), (⟨"EngraversHouseModel", "filled", "(I)I"⟩, 82)]
theorem lw_r3 : ∀ q ∈ lw_privs_3, lw_okq q := List.forall_mem_cons.mpr ⟨lw_p32, List.forall_mem_cons.mpr ⟨lw_p33, List.forall_mem_cons.mpr ⟨lw_p34, List.forall_mem_cons.mpr ⟨lw_p35, List.forall_mem_cons.mpr ⟨lw_p36, List.forall_mem_cons.mpr ⟨lw_p37, List.forall_mem_cons.mpr ⟨lw_p38, List.forall_mem_cons.mpr ⟨lw_p39, List.forall_mem_cons.mpr ⟨lw_p40, List.forall_mem_cons.mpr ⟨lw_p41, List.forall_mem_cons.mpr ⟨lw_p42, List.forall_mem_cons.mpr ⟨lw_p43, List.forall_mem_cons.mpr ⟨lw_p44, List.forall_mem_cons.mpr ⟨lw_p45, List.forall_mem_cons.mpr ⟨lw_p46, List.forall_mem_cons.mpr ⟨lw_p47, fun _ h => absurd h List.not_mem_nil⟩⟩⟩⟩⟩⟩⟩⟩⟩⟩⟩⟩⟩⟩⟩⟩
theorem lw_p48 : lw_okq (⟨"EngraversHouseModel", "scoreOf", "(I)I"⟩, 82) := ⟨⟨by decide +kernel, by decide +kernel⟩, List.mem_of_getElem? (i := 1300) (by decide +kernel), List.mem_of_getElem? (i := 1634) (by decide +kernel), List.mem_of_getElem? (i := 1635) (by decide +kernel)⟩
theorem lw_p49 : lw_okq (⟨"EngraversHouseModel", "errataOf", "(I)I"⟩, 82) := ⟨⟨by decide +kernel, by decide +kernel⟩, List.mem_of_getElem? (i := 1300) (by decide +kernel), List.mem_of_getElem? (i := 1638) (by decide +kernel), List.mem_of_getElem? (i := 1639) (by decide +kernel)⟩
theorem lw_p50 : lw_okq (⟨"EngraversHouseModel", "isPart", "(I)Z"⟩, 82) := ⟨⟨by decide +kernel, by decide +kernel⟩, List.mem_of_getElem? (i := 1300) (by decide +kernel), List.mem_of_getElem? (i := 1654) (by decide +kernel), List.mem_of_getElem? (i := 1655) (by decide +kernel)⟩
theorem lw_p51 : lw_okq (⟨"EngraversHouseModel", "barsOf", "(I)I"⟩, 82) := ⟨⟨by decide +kernel, by decide +kernel⟩, List.mem_of_getElem? (i := 1300) (by decide +kernel), List.mem_of_getElem? (i := 1658) (by decide +kernel), List.mem_of_getElem? (i := 1659) (by decide +kernel)⟩
theorem lw_p52 : lw_okq (⟨"EngraversHouseModel", "readBar", "(II)V"⟩, 82) := ⟨⟨by decide +kernel, by decide +kernel⟩, List.mem_of_getElem? (i := 1300) (by decide +kernel), List.mem_of_getElem? (i := 1662) (by decide +kernel), List.mem_of_getElem? (i := 1663) (by decide +kernel)⟩
theorem lw_p53 : lw_okq (⟨"EngraversHouseModel", "offs", "(I)I"⟩, 82) := ⟨⟨by decide +kernel, by decide +kernel⟩, List.mem_of_getElem? (i := 1300) (by decide +kernel), List.mem_of_getElem? (i := 1681) (by decide +kernel), List.mem_of_getElem? (i := 1682) (by decide +kernel)⟩
theorem lw_p54 : lw_okq (⟨"EngraversHouseModel", "isOff", "(II)Z"⟩, 82) := ⟨⟨by decide +kernel, by decide +kernel⟩, List.mem_of_getElem? (i := 1300) (by decide +kernel), List.mem_of_getElem? (i := 1685) (by decide +kernel), List.mem_of_getElem? (i := 1686) (by decide +kernel)⟩
theorem lw_p55 : lw_okq (⟨"EngraversHouseModel", "hasBar", "(III)Z"⟩, 82) := ⟨⟨by decide +kernel, by decide +kernel⟩, List.mem_of_getElem? (i := 1300) (by decide +kernel), List.mem_of_getElem? (i := 1704) (by decide +kernel), List.mem_of_getElem? (i := 1705) (by decide +kernel)⟩
theorem lw_p56 : lw_okq (⟨"EngraversHouseModel", "amendedPitch", "(IIIII)I"⟩, 82) := ⟨⟨by decide +kernel, by decide +kernel⟩, List.mem_of_getElem? (i := 1300) (by decide +kernel), List.mem_of_getElem? (i := 1708) (by decide +kernel), List.mem_of_getElem? (i := 1709) (by decide +kernel)⟩
theorem lw_p57 : lw_okq (⟨"EngraversHouseModel", "distance", "(II)I"⟩, 82) := ⟨⟨by decide +kernel, by decide +kernel⟩, List.mem_of_getElem? (i := 1300) (by decide +kernel), List.mem_of_getElem? (i := 1724) (by decide +kernel), List.mem_of_getElem? (i := 1725) (by decide +kernel)⟩
theorem lw_p58 : lw_okq (⟨"EngraversHouseModel", "changesOf", "(III)I"⟩, 82) := ⟨⟨by decide +kernel, by decide +kernel⟩, List.mem_of_getElem? (i := 1300) (by decide +kernel), List.mem_of_getElem? (i := 1728) (by decide +kernel), List.mem_of_getElem? (i := 1729) (by decide +kernel)⟩
theorem lw_p59 : lw_okq (⟨"EngraversHouseModel", "areAlike", "(II)Z"⟩, 82) := ⟨⟨by decide +kernel, by decide +kernel⟩, List.mem_of_getElem? (i := 1300) (by decide +kernel), List.mem_of_getElem? (i := 1732) (by decide +kernel), List.mem_of_getElem? (i := 1733) (by decide +kernel)⟩
theorem lw_p60 : lw_okq (⟨"EngraversHouseModel", "clause", "()Z"⟩, 82) := ⟨⟨by decide +kernel, by decide +kernel⟩, List.mem_of_getElem? (i := 1300) (by decide +kernel), List.mem_of_getElem? (i := 1755) (by decide +kernel), List.mem_of_getElem? (i := 1756) (by decide +kernel)⟩
theorem lw_p61 : lw_okq (⟨"EngraversHouseModel", "look", "()I"⟩, 82) := ⟨⟨by decide +kernel, by decide +kernel⟩, List.mem_of_getElem? (i := 1300) (by decide +kernel), List.mem_of_getElem? (i := 1759) (by decide +kernel), List.mem_of_getElem? (i := 1760) (by decide +kernel)⟩
theorem lw_p62 : lw_okq (⟨"EngraversHouseModel", "share", "()Z"⟩, 82) := ⟨⟨by decide +kernel, by decide +kernel⟩, List.mem_of_getElem? (i := 1300) (by decide +kernel), List.mem_of_getElem? (i := 1763) (by decide +kernel), List.mem_of_getElem? (i := 1764) (by decide +kernel)⟩
theorem lw_p63 : lw_okq (⟨"EngraversHouseModel", "takes0", "(I)Z"⟩, 82) := ⟨⟨by decide +kernel, by decide +kernel⟩, List.mem_of_getElem? (i := 1300) (by decide +kernel), List.mem_of_getElem? (i := 1767) (by decide +kernel), List.mem_of_getElem? (i := 1768) (by decide +kernel)⟩
def lw_privs_4 : List (MethodName × Nat) := [(⟨"EngraversHouseModel", "scoreOf", "(I)I"⟩, 82), (⟨"EngraversHouseModel", "errataOf", "(I)I"⟩, 82), (⟨"EngraversHouseModel", "isPart", "(I)Z"⟩, 82), (⟨"EngraversHouseModel", "barsOf", "(I)I"⟩, 82), (⟨"EngraversHouseModel", "readBar", "(II)V"⟩, 82), (⟨"EngraversHouseModel", "offs", "(I)I"⟩, 82), (⟨"EngraversHouseModel", "isOff", "(II)Z"⟩, 82), (⟨"EngraversHouseModel", "hasBar", "(III)Z"⟩, 82), (⟨"EngraversHouseModel", "amendedPitch", "(IIIII)I"⟩, 82), (⟨"EngraversHouseModel", "distance", "(II)I"⟩, 82), (⟨"EngraversHouseModel", "changesOf", "(III)I"⟩, 82), (⟨"EngraversHouseModel", "areAlike", "(II)Z"⟩, 82), (⟨"EngraversHouseModel", "clause", "()Z"⟩, 82), (⟨"EngraversHouseModel", "look", "()I"⟩, 82), (⟨"EngraversHouseModel", "share", "()Z"⟩, 82), (⟨"EngraversHouseModel", "takes0", "(I)Z"⟩, 82)]
theorem lw_r4 : ∀ q ∈ lw_privs_4, lw_okq q := List.forall_mem_cons.mpr ⟨lw_p48, List.forall_mem_cons.mpr ⟨lw_p49, List.forall_mem_cons.mpr ⟨lw_p50, List.forall_mem_cons.mpr ⟨lw_p51, List.forall_mem_cons.mpr ⟨lw_p52, List.forall_mem_cons.mpr ⟨lw_p53, List.forall_mem_cons.mpr ⟨lw_p54, List.forall_mem_cons.mpr ⟨lw_p55, List.forall_mem_cons.mpr ⟨lw_p56, List.forall_mem_cons.mpr ⟨lw_p57, List.forall_mem_cons.mpr ⟨lw_p58, List.forall_mem_cons.mpr ⟨lw_p59, List.forall_mem_cons.mpr ⟨lw_p60, List.forall_mem_cons.mpr ⟨lw_p61, List.forall_mem_cons.mpr ⟨lw_p62, List.forall_mem_cons.mpr ⟨lw_p63, fun _ h => absurd h List.not_mem_nil⟩⟩⟩⟩⟩⟩⟩⟩⟩⟩⟩⟩⟩⟩⟩⟩
theorem lw_p64 : lw_okq (⟨"EngraversHouseModel", "digits", "()Z"⟩, 82) := ⟨⟨by decide +kernel, by decide +kernel⟩, List.mem_of_getElem? (i := 1300) (by decide +kernel), List.mem_of_getElem? (i := 1771) (by decide +kernel), List.mem_of_getElem? (i := 1772) (by decide +kernel)⟩
theorem lw_p65 : lw_okq (⟨"EngraversHouseModel", "either", "()Z"⟩, 82) := ⟨⟨by decide +kernel, by decide +kernel⟩, List.mem_of_getElem? (i := 1300) (by decide +kernel), List.mem_of_getElem? (i := 1775) (by decide +kernel), List.mem_of_getElem? (i := 1776) (by decide +kernel)⟩
theorem lw_p66 : lw_okq (⟨"EngraversHouseModel", "both", "()Z"⟩, 82) := ⟨⟨by decide +kernel, by decide +kernel⟩, List.mem_of_getElem? (i := 1300) (by decide +kernel), List.mem_of_getElem? (i := 1779) (by decide +kernel), List.mem_of_getElem? (i := 1780) (by decide +kernel)⟩
theorem lw_p67 : lw_okq (⟨"EngraversHouseModel", "factor", "()Z"⟩, 82) := ⟨⟨by decide +kernel, by decide +kernel⟩, List.mem_of_getElem? (i := 1300) (by decide +kernel), List.mem_of_getElem? (i := 1783) (by decide +kernel), List.mem_of_getElem? (i := 1784) (by decide +kernel)⟩
theorem lw_p68 : lw_okq (⟨"EngraversHouseModel", "opens", "()Z"⟩, 82) := ⟨⟨by decide +kernel, by decide +kernel⟩, List.mem_of_getElem? (i := 1300) (by decide +kernel), List.mem_of_getElem? (i := 1787) (by decide +kernel), List.mem_of_getElem? (i := 1788) (by decide +kernel)⟩
theorem lw_p69 : lw_okq (⟨"EngraversHouseModel", "lay", "(II)V"⟩, 82) := ⟨⟨by decide +kernel, by decide +kernel⟩, List.mem_of_getElem? (i := 1300) (by decide +kernel), List.mem_of_getElem? (i := 1791) (by decide +kernel), List.mem_of_getElem? (i := 1792) (by decide +kernel)⟩
theorem lw_p70 : lw_okq (⟨"EngraversHouseModel", "contractOf", "(II)I"⟩, 82) := ⟨⟨by decide +kernel, by decide +kernel⟩, List.mem_of_getElem? (i := 1300) (by decide +kernel), List.mem_of_getElem? (i := 1799) (by decide +kernel), List.mem_of_getElem? (i := 1800) (by decide +kernel)⟩
theorem lw_p71 : lw_okq (⟨"EngraversHouseModel", "hasRight", "(III)Z"⟩, 82) := ⟨⟨by decide +kernel, by decide +kernel⟩, List.mem_of_getElem? (i := 1300) (by decide +kernel), List.mem_of_getElem? (i := 1807) (by decide +kernel), List.mem_of_getElem? (i := 1808) (by decide +kernel)⟩
theorem lw_p72 : lw_okq (⟨"EngraversHouseModel", "isAlive", "(II)Z"⟩, 82) := ⟨⟨by decide +kernel, by decide +kernel⟩, List.mem_of_getElem? (i := 1300) (by decide +kernel), List.mem_of_getElem? (i := 1811) (by decide +kernel), List.mem_of_getElem? (i := 1812) (by decide +kernel)⟩
theorem lw_p73 : lw_okq (⟨"EngraversHouseModel", "gets", "(IIIZIIII)I"⟩, 82) := ⟨⟨by decide +kernel, by decide +kernel⟩, List.mem_of_getElem? (i := 1300) (by decide +kernel), List.mem_of_getElem? (i := 1821) (by decide +kernel), List.mem_of_getElem? (i := 1822) (by decide +kernel)⟩
theorem lw_p74 : lw_okq (⟨"EngraversHouseModel", "holdsFor", "(IZII)Z"⟩, 82) := ⟨⟨by decide +kernel, by decide +kernel⟩, List.mem_of_getElem? (i := 1300) (by decide +kernel), List.mem_of_getElem? (i := 1825) (by decide +kernel), List.mem_of_getElem? (i := 1826) (by decide +kernel)⟩
theorem lw_p75 : lw_okq (⟨"EngraversHouseModel", "serves", "(II)Z"⟩, 82) := ⟨⟨by decide +kernel, by decide +kernel⟩, List.mem_of_getElem? (i := 1300) (by decide +kernel), List.mem_of_getElem? (i := 1857) (by decide +kernel), List.mem_of_getElem? (i := 1858) (by decide +kernel)⟩
theorem lw_p76 : lw_okq (⟨"EngraversHouseModel", "costOf", "(I)I"⟩, 82) := ⟨⟨by decide +kernel, by decide +kernel⟩, List.mem_of_getElem? (i := 1300) (by decide +kernel), List.mem_of_getElem? (i := 1873) (by decide +kernel), List.mem_of_getElem? (i := 1874) (by decide +kernel)⟩
theorem lw_p77 : lw_okq (⟨"EngraversHouseModel", "holds", "(II)I"⟩, 82) := ⟨⟨by decide +kernel, by decide +kernel⟩, List.mem_of_getElem? (i := 1300) (by decide +kernel), List.mem_of_getElem? (i := 1894) (by decide +kernel), List.mem_of_getElem? (i := 1895) (by decide +kernel)⟩
theorem lw_p78 : lw_okq (⟨"EngraversHouseModel", "ran", "(I)V"⟩, 82) := ⟨⟨by decide +kernel, by decide +kernel⟩, List.mem_of_getElem? (i := 1300) (by decide +kernel), List.mem_of_getElem? (i := 1898) (by decide +kernel), List.mem_of_getElem? (i := 1899) (by decide +kernel)⟩
theorem lw_p79 : lw_okq (⟨"EngraversHouseModel", "plainHolds", "(II)I"⟩, 82) := ⟨⟨by decide +kernel, by decide +kernel⟩, List.mem_of_getElem? (i := 1300) (by decide +kernel), List.mem_of_getElem? (i := 1902) (by decide +kernel), List.mem_of_getElem? (i := 1903) (by decide +kernel)⟩
def lw_privs_5 : List (MethodName × Nat) := [(⟨"EngraversHouseModel", "digits", "()Z"⟩, 82), (⟨"EngraversHouseModel", "either", "()Z"⟩, 82), (⟨"EngraversHouseModel", "both", "()Z"⟩, 82), (⟨"EngraversHouseModel", "factor", "()Z"⟩, 82), (⟨"EngraversHouseModel", "opens", "()Z"⟩, 82), (⟨"EngraversHouseModel", "lay", "(II)V"⟩, 82), (⟨"EngraversHouseModel", "contractOf", "(II)I"⟩, 82), (⟨"EngraversHouseModel", "hasRight", "(III)Z"⟩, 82), (⟨"EngraversHouseModel", "isAlive", "(II)Z"⟩, 82), (⟨"EngraversHouseModel", "gets", "(IIIZIIII)I"⟩, 82), (⟨"EngraversHouseModel", "holdsFor", "(IZII)Z"⟩, 82), (⟨"EngraversHouseModel", "serves", "(II)Z"⟩, 82), (⟨"EngraversHouseModel", "costOf", "(I)I"⟩, 82), (⟨"EngraversHouseModel", "holds", "(II)I"⟩, 82), (⟨"EngraversHouseModel", "ran", "(I)V"⟩, 82), (⟨"EngraversHouseModel", "plainHolds", "(II)I"⟩, 82)]
theorem lw_r5 : ∀ q ∈ lw_privs_5, lw_okq q := List.forall_mem_cons.mpr ⟨lw_p64, List.forall_mem_cons.mpr ⟨lw_p65, List.forall_mem_cons.mpr ⟨lw_p66, List.forall_mem_cons.mpr ⟨lw_p67, List.forall_mem_cons.mpr ⟨lw_p68, List.forall_mem_cons.mpr ⟨lw_p69, List.forall_mem_cons.mpr ⟨lw_p70, List.forall_mem_cons.mpr ⟨lw_p71, List.forall_mem_cons.mpr ⟨lw_p72, List.forall_mem_cons.mpr ⟨lw_p73, List.forall_mem_cons.mpr ⟨lw_p74, List.forall_mem_cons.mpr ⟨lw_p75, List.forall_mem_cons.mpr ⟨lw_p76, List.forall_mem_cons.mpr ⟨lw_p77, List.forall_mem_cons.mpr ⟨lw_p78, List.forall_mem_cons.mpr ⟨lw_p79, fun _ h => absurd h List.not_mem_nil⟩⟩⟩⟩⟩⟩⟩⟩⟩⟩⟩⟩⟩⟩⟩⟩
theorem lw_p80 : lw_okq (⟨"EngraversHouseModel", "scoreHolds", "(II)I"⟩, 82) := ⟨⟨by decide +kernel, by decide +kernel⟩, List.mem_of_getElem? (i := 1300) (by decide +kernel), List.mem_of_getElem? (i := 1906) (by decide +kernel), List.mem_of_getElem? (i := 1907) (by decide +kernel)⟩
theorem lw_p81 : lw_okq (⟨"EngraversHouseModel", "turns", "(II)I"⟩, 82) := ⟨⟨by decide +kernel, by decide +kernel⟩, List.mem_of_getElem? (i := 1300) (by decide +kernel), List.mem_of_getElem? (i := 1913) (by decide +kernel), List.mem_of_getElem? (i := 1914) (by decide +kernel)⟩
theorem lw_p82 : lw_okq (⟨"EngraversHouseModel", "partTurns", "(II)I"⟩, 82) := ⟨⟨by decide +kernel, by decide +kernel⟩, List.mem_of_getElem? (i := 1300) (by decide +kernel), List.mem_of_getElem? (i := 1917) (by decide +kernel), List.mem_of_getElem? (i := 1918) (by decide +kernel)⟩
theorem lw_p83 : lw_okq (⟨"EngraversHouseModel", "plainTurns", "(II)I"⟩, 82) := ⟨⟨by decide +kernel, by decide +kernel⟩, List.mem_of_getElem? (i := 1300) (by decide +kernel), List.mem_of_getElem? (i := 1921) (by decide +kernel), List.mem_of_getElem? (i := 1922) (by decide +kernel)⟩
theorem lw_p84 : lw_okq (⟨"EngraversHouseModel", "earns", "(II)I"⟩, 82) := ⟨⟨by decide +kernel, by decide +kernel⟩, List.mem_of_getElem? (i := 1300) (by decide +kernel), List.mem_of_getElem? (i := 1925) (by decide +kernel), List.mem_of_getElem? (i := 1926) (by decide +kernel)⟩
theorem lw_p85 : lw_okq (⟨"EngraversHouseModel", "plainEarns", "(II)I"⟩, 82) := ⟨⟨by decide +kernel, by decide +kernel⟩, List.mem_of_getElem? (i := 1300) (by decide +kernel), List.mem_of_getElem? (i := 1929) (by decide +kernel), List.mem_of_getElem? (i := 1930) (by decide +kernel)⟩
def lw_privs_6 : List (MethodName × Nat) := [(⟨"EngraversHouseModel", "scoreHolds", "(II)I"⟩, 82), (⟨"EngraversHouseModel", "turns", "(II)I"⟩, 82), (⟨"EngraversHouseModel", "partTurns", "(II)I"⟩, 82), (⟨"EngraversHouseModel", "plainTurns", "(II)I"⟩, 82), (⟨"EngraversHouseModel", "earns", "(II)I"⟩, 82), (⟨"EngraversHouseModel", "plainEarns", "(II)I"⟩, 82)]
theorem lw_r6 : ∀ q ∈ lw_privs_6, lw_okq q := List.forall_mem_cons.mpr ⟨lw_p80, List.forall_mem_cons.mpr ⟨lw_p81, List.forall_mem_cons.mpr ⟨lw_p82, List.forall_mem_cons.mpr ⟨lw_p83, List.forall_mem_cons.mpr ⟨lw_p84, List.forall_mem_cons.mpr ⟨lw_p85, fun _ h => absurd h List.not_mem_nil⟩⟩⟩⟩⟩⟩
def lw_privs : List (MethodName × Nat) := lw_privs_1 ++ (lw_privs_2 ++ (lw_privs_3 ++ (lw_privs_4 ++ (lw_privs_5 ++ (lw_privs_6)))))
def lw_tbl : List Cond := k2_sels lw_privs ++ tables_1
theorem lw_privs_ok : ∀ q ∈ lw_privs, lw_okq q := by
  show ∀ q ∈ lw_privs_1 ++ (lw_privs_2 ++ (lw_privs_3 ++ (lw_privs_4 ++ (lw_privs_5 ++ (lw_privs_6))))), lw_okq q
  exact List.forall_mem_append.mpr ⟨lw_r1, List.forall_mem_append.mpr ⟨lw_r2, List.forall_mem_append.mpr ⟨lw_r3, List.forall_mem_append.mpr ⟨lw_r4, List.forall_mem_append.mpr ⟨lw_r5, lw_r6⟩⟩⟩⟩⟩
-- ===== end of PART A; then your names; then what follows =====
/-! ===== BEGIN words of one list among another's, by their places ===== -/
theorem goodIn_r {big : List Cond} (ws : List Cond) (ps : List Nat) (hp : ws = ps.filterMap (fun i => big[i]?)) (h : ws.all goodWord = true) : GoodIn big ws := by
  intro w hw
  have h1 := List.all_eq_true.mp h w hw
  rw [hp] at hw
  obtain ⟨i, -, hi⟩ := List.mem_filterMap.mp hw
  have hm : w ∈ big := by first | exact List.mem_of_getElem? hi | exact List.getElem?_mem hi
  exact ⟨hm, good_of_word h1⟩
theorem goodIn_app {big a b : List Cond} (ha : GoodIn big a) (hb : GoodIn big b) : GoodIn big (a ++ b) := fun w h => (List.mem_append.mp h).elim (ha w) (hb w)
theorem goodIn_ca {big a b : List Cond} {c : Cond} (ha : GoodIn big (c :: a)) (hb : GoodIn big b) : GoodIn big (c :: (a ++ b)) := fun w h => (List.mem_cons.mp h).elim (fun e => ha w (List.mem_cons.mpr (Or.inl e))) (fun h => (List.mem_append.mp h).elim (fun h => ha w (List.mem_cons.mpr (Or.inr h))) (hb w))
theorem goodIn_sub {big ws : List Cond} (hm : ∀ w ∈ ws, w ∈ big) (h : ws.all goodWord = true) : GoodIn big ws := fun w hw => ⟨hm w hw, good_of_word (List.all_eq_true.mp h w hw)⟩
/-! ===== END ===== -/
/-! ===== BEGIN printed: names, fields, word lists, decode rows ===== -/
def RX0 : String := "EngraversHouse$Bar"
def TX0 : u_T := fun k => match k with
  | 0 => ("EngraversHouse$Bar", "notes", "[I", true)
  | 1 => ("EngraversHouse$Bar", "size", "I", false)
  | _ => ("EngraversHouse$Bar", "filled", "I", false)
def tyX0 : Nat → FieldType := fun k => match k with
  | 0 => .array .int
  | 1 => .int
  | _ => .int
abbrev wsX00 : List Cond := u_ws RX0 TX0 3
theorem nmX0 : ∀ a, a < 3 → ∀ b, b < 3 → a ≠ b → (TX0 a).2.1 ≠ (TX0 b).2.1 := by decide +kernel
theorem tyX0_ok : ∀ k, k < 3 → parseFieldDescriptor (TX0 k).2.2.1 = some (tyX0 k) := by decide +kernel
abbrev cX0_init : ByteArray := prog_2_method_1_code
def yX0_init : MethodName := ⟨RX0, "<init>", "()V"⟩
abbrev cX0_hasNote : ByteArray := prog_2_method_2_code
def yX0_hasNote : MethodName := ⟨RX0, "hasNote", "(I)Z"⟩
abbrev cX0_addNote : ByteArray := prog_2_method_3_code
def yX0_addNote : MethodName := ⟨RX0, "addNote", "(I)V"⟩
abbrev cX0_joinNote : ByteArray := prog_2_method_4_code
def yX0_joinNote : MethodName := ⟨RX0, "joinNote", "(I)V"⟩
abbrev cX0_clearNotes : ByteArray := prog_2_method_5_code
def yX0_clearNotes : MethodName := ⟨RX0, "clearNotes", "()V"⟩
abbrev cX0_copyShifted : ByteArray := prog_2_method_6_code
def yX0_copyShifted : MethodName := ⟨RX0, "copyShifted", "(LEngraversHouse$Bar;I)V"⟩
abbrev cX0_sameNotes : ByteArray := prog_2_method_7_code
def yX0_sameNotes : MethodName := ⟨RX0, "sameNotes", "(LEngraversHouse$Bar;)Z"⟩
abbrev cX0_restsFirst : ByteArray := prog_2_method_8_code
def yX0_restsFirst : MethodName := ⟨RX0, "restsFirst", "()Z"⟩
abbrev cX0_restsLast : ByteArray := prog_2_method_9_code
def yX0_restsLast : MethodName := ⟨RX0, "restsLast", "()Z"⟩
def RX1 : String := "EngraversHouse$Contract"
def TX1 : u_T := fun k => match k with
  | 0 => ("EngraversHouse$Contract", "land", "I", true)
  | 1 => ("EngraversHouse$Contract", "day", "I", true)
  | 2 => ("EngraversHouse$Contract", "text", "[I", true)
  | 3 => ("EngraversHouse$Contract", "place", "I", false)
  | 4 => ("EngraversHouse$Contract", "faulty", "Z", false)
  | 5 => ("EngraversHouse$Contract", "life", "I", false)
  | 6 => ("EngraversHouse$Contract", "least", "I", false)
  | 7 => ("EngraversHouse$Contract", "shares", "I", false)
  | 8 => ("EngraversHouse$Contract", "derived", "Z", false)
  | 9 => ("EngraversHouse$Contract", "years", "I", false)
  | 10 => ("EngraversHouse$Contract", "minutes", "I", false)
  | 11 => ("EngraversHouse$Contract", "thousandths", "I", false)
  | _ => ("EngraversHouse$Contract", "anyHolds", "Z", false)
def tyX1 : Nat → FieldType := fun k => match k with
  | 0 => .int
  | 1 => .int
  | 2 => .array .int
  | 3 => .int
  | 4 => .boolean
  | 5 => .int
  | 6 => .int
  | 7 => .int
  | 8 => .boolean
  | 9 => .int
  | 10 => .int
  | 11 => .int
  | _ => .boolean
abbrev wsX10 : List Cond := u_ws RX1 TX1 13
theorem nmX1 : ∀ a, a < 13 → ∀ b, b < 13 → a ≠ b → (TX1 a).2.1 ≠ (TX1 b).2.1 := by decide +kernel
theorem tyX1_ok : ∀ k, k < 13 → parseFieldDescriptor (TX1 k).2.2.1 = some (tyX1 k) := by decide +kernel
abbrev cX1_init : ByteArray := prog_3_method_1_code
def yX1_init : MethodName := ⟨RX1, "<init>", "(II[I)V"⟩
abbrev cX1_asked : ByteArray := prog_3_method_2_code
def yX1_asked : MethodName := ⟨RX1, "asked", "(ZII)V"⟩
abbrev cX1_shareOf : ByteArray := prog_3_method_3_code
def yX1_shareOf : MethodName := ⟨RX1, "shareOf", "(III)I"⟩
abbrev cX1_readAll : ByteArray := prog_3_method_4_code
def yX1_readAll : MethodName := ⟨RX1, "readAll", "(II)Z"⟩
abbrev cX1_readClause : ByteArray := prog_3_method_5_code
def yX1_readClause : MethodName := ⟨RX1, "readClause", "(II)V"⟩
abbrev cX1_readTerm : ByteArray := prog_3_method_6_code
def yX1_readTerm : MethodName := ⟨RX1, "readTerm", "()V"⟩
abbrev cX1_sees : ByteArray := prog_3_method_7_code
def yX1_sees : MethodName := ⟨RX1, "sees", "(C)Z"⟩
abbrev cX1_pick : ByteArray := prog_3_method_8_code
def yX1_pick : MethodName := ⟨RX1, "pick", "(Ljava/lang/String;)I"⟩
abbrev cX1_skip : ByteArray := prog_3_method_9_code
def yX1_skip : MethodName := ⟨RX1, "skip", "(Ljava/lang/String;)V"⟩
abbrev cX1_readNumber : ByteArray := prog_3_method_10_code
def yX1_readNumber : MethodName := ⟨RX1, "readNumber", "()I"⟩
abbrev cX1_condition : ByteArray := prog_3_method_11_code
def yX1_condition : MethodName := ⟨RX1, "condition", "(I)Z"⟩
abbrev cX1_single : ByteArray := prog_3_method_12_code
def yX1_single : MethodName := ⟨RX1, "single", "(I)Z"⟩
abbrev cX1_nested : ByteArray := prog_3_method_13_code
def yX1_nested : MethodName := ⟨RX1, "nested", "(ZI)Z"⟩
def RX2 : String := "EngraversHouse$Edition"
def TX2 : u_T := fun k => match k with
  | 0 => ("EngraversHouse$Thing", "kind", "I", true)
  | 1 => ("EngraversHouse$Thing", "number", "I", true)
  | 2 => ("EngraversHouse$Edition", "score", "LEngraversHouse$Score;", true)
  | 3 => ("EngraversHouse$Edition", "plates", "I", true)
  | 4 => ("EngraversHouse$Edition", "errata", "I", false)
  | 5 => ("EngraversHouse$Edition", "bars", "[LEngraversHouse$Bar;", true)
  | 6 => ("EngraversHouse$Edition", "distances", "[I", true)
  | 7 => ("EngraversHouse$Edition", "rowBefore", "[I", false)
  | 8 => ("EngraversHouse$Edition", "row", "[I", false)
  | 9 => ("EngraversHouse$Edition", "inTree", "Z", false)
  | 10 => ("EngraversHouse$Edition", "hangsOn", "I", false)
  | _ => ("EngraversHouse$Edition", "apart", "I", false)
def tyX2 : Nat → FieldType := fun k => match k with
  | 0 => .int
  | 1 => .int
  | 2 => .object "EngraversHouse$Score"
  | 3 => .int
  | 4 => .int
  | 5 => .array (.object "EngraversHouse$Bar")
  | 6 => .array .int
  | 7 => .array .int
  | 8 => .array .int
  | 9 => .boolean
  | 10 => .int
  | _ => .int
abbrev wsX20 : List Cond := u_ws RX2 TX2 12
theorem nmX2 : ∀ a, a < 12 → ∀ b, b < 12 → a ≠ b → (TX2 a).2.1 ≠ (TX2 b).2.1 := by decide +kernel
theorem tyX2_ok : ∀ k, k < 12 → parseFieldDescriptor (TX2 k).2.2.1 = some (tyX2 k) := by decide +kernel
abbrev cX2_init : ByteArray := prog_4_method_1_code
def yX2_init : MethodName := ⟨RX2, "<init>", "(ILEngraversHouse$Score;I)V"⟩
abbrev cX2_scoreNumber : ByteArray := prog_4_method_2_code
def yX2_scoreNumber : MethodName := ⟨RX2, "scoreNumber", "()I"⟩
abbrev cX2_second : ByteArray := prog_4_method_3_code
def yX2_second : MethodName := ⟨RX2, "second", "()I"⟩
abbrev cX2_third : ByteArray := prog_4_method_4_code
def yX2_third : MethodName := ⟨RX2, "third", "()I"⟩
abbrev cX2_barOf : ByteArray := prog_4_method_5_code
def yX2_barOf : MethodName := ⟨RX2, "barOf", "(II)LEngraversHouse$Bar;"⟩
abbrev cX2_takePlate : ByteArray := prog_4_method_6_code
def yX2_takePlate : MethodName := ⟨RX2, "takePlate", "(LEngraversHouse$Plate;)V"⟩
abbrev cX2_changesTo : ByteArray := prog_4_method_7_code
def yX2_changesTo : MethodName := ⟨RX2, "changesTo", "(LEngraversHouse$Edition;I)I"⟩
abbrev cX2_fillRow : ByteArray := prog_4_method_8_code
def yX2_fillRow : MethodName := ⟨RX2, "fillRow", "(LEngraversHouse$Bar;LEngraversHouse$Edition;I)V"⟩
abbrev cX2_distanceTo : ByteArray := prog_4_method_9_code
def yX2_distanceTo : MethodName := ⟨RX2, "distanceTo", "(LEngraversHouse$Edition;)I"⟩
abbrev cX2_mayHangOn : ByteArray := prog_4_method_10_code
def yX2_mayHangOn : MethodName := ⟨RX2, "mayHangOn", "(LEngraversHouse$Edition;)V"⟩
def RX3 : String := "EngraversHouse$Erratum"
def TX3 : u_T := fun k => match k with
  | 0 => ("EngraversHouse$Thing", "kind", "I", true)
  | 1 => ("EngraversHouse$Thing", "number", "I", true)
  | 2 => ("EngraversHouse$Erratum", "edition", "LEngraversHouse$Edition;", true)
  | 3 => ("EngraversHouse$Erratum", "place", "I", true)
  | 4 => ("EngraversHouse$Erratum", "from", "I", true)
  | _ => ("EngraversHouse$Erratum", "to", "I", true)
def tyX3 : Nat → FieldType := fun k => match k with
  | 0 => .int
  | 1 => .int
  | 2 => .object "EngraversHouse$Edition"
  | 3 => .int
  | 4 => .int
  | _ => .int
abbrev wsX30 : List Cond := u_ws RX3 TX3 6
theorem nmX3 : ∀ a, a < 6 → ∀ b, b < 6 → a ≠ b → (TX3 a).2.1 ≠ (TX3 b).2.1 := by decide +kernel
theorem tyX3_ok : ∀ k, k < 6 → parseFieldDescriptor (TX3 k).2.2.1 = some (tyX3 k) := by decide +kernel
abbrev cX3_init : ByteArray := prog_5_method_1_code
def yX3_init : MethodName := ⟨RX3, "<init>", "(ILEngraversHouse$Edition;III)V"⟩
abbrev cX3_voice : ByteArray := prog_5_method_2_code
def yX3_voice : MethodName := ⟨RX3, "voice", "()I"⟩
abbrev cX3_bar : ByteArray := prog_5_method_3_code
def yX3_bar : MethodName := ⟨RX3, "bar", "()I"⟩
abbrev cX3_noteIndex : ByteArray := prog_5_method_4_code
def yX3_noteIndex : MethodName := ⟨RX3, "noteIndex", "()I"⟩
abbrev cX3_scoreNumber : ByteArray := prog_5_method_5_code
def yX3_scoreNumber : MethodName := ⟨RX3, "scoreNumber", "()I"⟩
abbrev cX3_second : ByteArray := prog_5_method_6_code
def yX3_second : MethodName := ⟨RX3, "second", "()I"⟩
abbrev cX3_third : ByteArray := prog_5_method_7_code
def yX3_third : MethodName := ⟨RX3, "third", "()I"⟩
def RX4 : String := "EngraversHouse$Layout"
def TX4 : u_T := fun k => match k with
  | 0 => ("EngraversHouse$Layout", "bars", "I", false)
  | 1 => ("EngraversHouse$Layout", "widths", "[I", true)
  | 2 => ("EngraversHouse$Layout", "restsFirst", "[Z", true)
  | 3 => ("EngraversHouse$Layout", "restsLast", "[Z", true)
  | 4 => ("EngraversHouse$Layout", "cost", "[I", true)
  | _ => ("EngraversHouse$Layout", "taken", "[I", true)
def tyX4 : Nat → FieldType := fun k => match k with
  | 0 => .int
  | 1 => .array .int
  | 2 => .array .boolean
  | 3 => .array .boolean
  | 4 => .array .int
  | _ => .array .int
abbrev wsX40 : List Cond := u_ws RX4 TX4 6
theorem nmX4 : ∀ a, a < 6 → ∀ b, b < 6 → a ≠ b → (TX4 a).2.1 ≠ (TX4 b).2.1 := by decide +kernel
theorem tyX4_ok : ∀ k, k < 6 → parseFieldDescriptor (TX4 k).2.2.1 = some (tyX4 k) := by decide +kernel
abbrev cX4_init : ByteArray := prog_6_method_1_code
def yX4_init : MethodName := ⟨RX4, "<init>", "()V"⟩
abbrev cX4_measure : ByteArray := prog_6_method_2_code
def yX4_measure : MethodName := ⟨RX4, "measure", "(LEngraversHouse$Part;)V"⟩
abbrev cX4_fits : ByteArray := prog_6_method_3_code
def yX4_fits : MethodName := ⟨RX4, "fits", "(I)Z"⟩
abbrev cX4_fill : ByteArray := prog_6_method_4_code
def yX4_fill : MethodName := ⟨RX4, "fill", "(II)V"⟩
abbrev cX4_fillLine : ByteArray := prog_6_method_5_code
def yX4_fillLine : MethodName := ⟨RX4, "fillLine", "(IIII)V"⟩
abbrev cX4_placeBehind : ByteArray := prog_6_method_6_code
def yX4_placeBehind : MethodName := ⟨RX4, "placeBehind", "(II)I"⟩
abbrev cX4_leastCost : ByteArray := prog_6_method_7_code
def yX4_leastCost : MethodName := ⟨RX4, "leastCost", "()I"⟩
abbrev cX4_lineCount : ByteArray := prog_6_method_8_code
def yX4_lineCount : MethodName := ⟨RX4, "lineCount", "(I)I"⟩
abbrev cX4_barsInLine : ByteArray := prog_6_method_9_code
def yX4_barsInLine : MethodName := ⟨RX4, "barsInLine", "(II)I"⟩
def RX5 : String := "EngraversHouse$Part"
def TX5 : u_T := fun k => match k with
  | 0 => ("EngraversHouse$Thing", "kind", "I", true)
  | 1 => ("EngraversHouse$Thing", "number", "I", true)
  | 2 => ("EngraversHouse$Part", "score", "LEngraversHouse$Score;", true)
  | 3 => ("EngraversHouse$Part", "voice", "I", true)
  | 4 => ("EngraversHouse$Part", "shift", "I", true)
  | 5 => ("EngraversHouse$Part", "town", "I", false)
  | _ => ("EngraversHouse$Part", "asRead", "LEngraversHouse$Bar;", true)
def tyX5 : Nat → FieldType := fun k => match k with
  | 0 => .int
  | 1 => .int
  | 2 => .object "EngraversHouse$Score"
  | 3 => .int
  | 4 => .int
  | 5 => .int
  | _ => .object "EngraversHouse$Bar"
abbrev wsX50 : List Cond := u_ws RX5 TX5 7
theorem nmX5 : ∀ a, a < 7 → ∀ b, b < 7 → a ≠ b → (TX5 a).2.1 ≠ (TX5 b).2.1 := by decide +kernel
theorem tyX5_ok : ∀ k, k < 7 → parseFieldDescriptor (TX5 k).2.2.1 = some (tyX5 k) := by decide +kernel
abbrev cX5_init : ByteArray := prog_7_method_1_code
def yX5_init : MethodName := ⟨RX5, "<init>", "(IILEngraversHouse$Score;II)V"⟩
abbrev cX5_scoreNumber : ByteArray := prog_7_method_2_code
def yX5_scoreNumber : MethodName := ⟨RX5, "scoreNumber", "()I"⟩
abbrev cX5_second : ByteArray := prog_7_method_3_code
def yX5_second : MethodName := ⟨RX5, "second", "()I"⟩
abbrev cX5_third : ByteArray := prog_7_method_4_code
def yX5_third : MethodName := ⟨RX5, "third", "()I"⟩
abbrev cX5_barCount : ByteArray := prog_7_method_5_code
def yX5_barCount : MethodName := ⟨RX5, "barCount", "()I"⟩
abbrev cX5_barAsRead : ByteArray := prog_7_method_6_code
def yX5_barAsRead : MethodName := ⟨RX5, "barAsRead", "(I)LEngraversHouse$Bar;"⟩
def RX6 : String := "EngraversHouse$Plate"
def TX6 : u_T := fun k => match k with
  | 0 => ("EngraversHouse$Thing", "kind", "I", true)
  | 1 => ("EngraversHouse$Thing", "number", "I", true)
  | 2 => ("EngraversHouse$Plate", "part", "LEngraversHouse$Part;", true)
  | 3 => ("EngraversHouse$Plate", "first", "I", true)
  | 4 => ("EngraversHouse$Plate", "bars", "[LEngraversHouse$Bar;", true)
  | _ => ("EngraversHouse$Plate", "marks", "[I", true)
def tyX6 : Nat → FieldType := fun k => match k with
  | 0 => .int
  | 1 => .int
  | 2 => .object "EngraversHouse$Part"
  | 3 => .int
  | 4 => .array (.object "EngraversHouse$Bar")
  | _ => .array .int
abbrev wsX60 : List Cond := u_ws RX6 TX6 6
theorem nmX6 : ∀ a, a < 6 → ∀ b, b < 6 → a ≠ b → (TX6 a).2.1 ≠ (TX6 b).2.1 := by decide +kernel
theorem tyX6_ok : ∀ k, k < 6 → parseFieldDescriptor (TX6 k).2.2.1 = some (tyX6 k) := by decide +kernel
abbrev cX6_init : ByteArray := prog_8_method_1_code
def yX6_init : MethodName := ⟨RX6, "<init>", "(ILEngraversHouse$Part;II)V"⟩
abbrev cX6_scoreNumber : ByteArray := prog_8_method_2_code
def yX6_scoreNumber : MethodName := ⟨RX6, "scoreNumber", "()I"⟩
abbrev cX6_second : ByteArray := prog_8_method_3_code
def yX6_second : MethodName := ⟨RX6, "second", "()I"⟩
abbrev cX6_third : ByteArray := prog_8_method_4_code
def yX6_third : MethodName := ⟨RX6, "third", "()I"⟩
abbrev cX6_cutBar : ByteArray := prog_8_method_5_code
def yX6_cutBar : MethodName := ⟨RX6, "cutBar", "(I)LEngraversHouse$Bar;"⟩
abbrev cX6_unlikeBars : ByteArray := prog_8_method_6_code
def yX6_unlikeBars : MethodName := ⟨RX6, "unlikeBars", "()I"⟩
def RX7 : String := "EngraversHouse$PrintPlan"
def TX7 : u_T := fun k => match k with
  | 0 => ("EngraversHouse$PrintPlan", "setup", "I", false)
  | 1 => ("EngraversHouse$PrintPlan", "hold", "I", false)
  | 2 => ("EngraversHouse$PrintPlan", "most", "I", false)
  | 3 => ("EngraversHouse$PrintPlan", "months", "I", false)
  | 4 => ("EngraversHouse$PrintPlan", "asked", "[I", true)
  | 5 => ("EngraversHouse$PrintPlan", "cost", "[I", true)
  | 6 => ("EngraversHouse$PrintPlan", "prints", "[I", true)
  | _ => ("EngraversHouse$PrintPlan", "bits", "[I", true)
def tyX7 : Nat → FieldType := fun k => match k with
  | 0 => .int
  | 1 => .int
  | 2 => .int
  | 3 => .int
  | 4 => .array .int
  | 5 => .array .int
  | 6 => .array .int
  | _ => .array .int
abbrev wsX70 : List Cond := u_ws RX7 TX7 8
theorem nmX7 : ∀ a, a < 8 → ∀ b, b < 8 → a ≠ b → (TX7 a).2.1 ≠ (TX7 b).2.1 := by decide +kernel
theorem tyX7_ok : ∀ k, k < 8 → parseFieldDescriptor (TX7 k).2.2.1 = some (tyX7 k) := by decide +kernel
abbrev cX7_init : ByteArray := prog_9_method_1_code
def yX7_init : MethodName := ⟨RX7, "<init>", "()V"⟩
abbrev cX7_asksTooMuch : ByteArray := prog_9_method_2_code
def yX7_asksTooMuch : MethodName := ⟨RX7, "asksTooMuch", "()Z"⟩
abbrev cX7_bestFirst : ByteArray := prog_9_method_3_code
def yX7_bestFirst : MethodName := ⟨RX7, "bestFirst", "()I"⟩
abbrev cX7_printAt : ByteArray := prog_9_method_4_code
def yX7_printAt : MethodName := ⟨RX7, "printAt", "(I)V"⟩
abbrev cX7_isBetter : ByteArray := prog_9_method_5_code
def yX7_isBetter : MethodName := ⟨RX7, "isBetter", "(IIII)Z"⟩
def RX8 : String := "EngraversHouse$Score"
def TX8 : u_T := fun k => match k with
  | 0 => ("EngraversHouse$Thing", "kind", "I", true)
  | 1 => ("EngraversHouse$Thing", "number", "I", true)
  | 2 => ("EngraversHouse$Score", "root", "LEngraversHouse$Score;", true)
  | 3 => ("EngraversHouse$Score", "author", "I", true)
  | 4 => ("EngraversHouse$Score", "meter", "I", true)
  | 5 => ("EngraversHouse$Score", "voices", "I", true)
  | 6 => ("EngraversHouse$Score", "bars", "[LEngraversHouse$Bar;", true)
  | _ => ("EngraversHouse$Score", "begun", "[I", true)
def tyX8 : Nat → FieldType := fun k => match k with
  | 0 => .int
  | 1 => .int
  | 2 => .object "EngraversHouse$Score"
  | 3 => .int
  | 4 => .int
  | 5 => .int
  | 6 => .array (.object "EngraversHouse$Bar")
  | _ => .array .int
abbrev wsX80 : List Cond := u_ws RX8 TX8 8
theorem nmX8 : ∀ a, a < 8 → ∀ b, b < 8 → a ≠ b → (TX8 a).2.1 ≠ (TX8 b).2.1 := by decide +kernel
theorem tyX8_ok : ∀ k, k < 8 → parseFieldDescriptor (TX8 k).2.2.1 = some (tyX8 k) := by decide +kernel
abbrev cX8_init : ByteArray := prog_10_method_1_code
def yX8_init : MethodName := ⟨RX8, "<init>", "(ILEngraversHouse$Score;III)V"⟩
abbrev cX8_rootScore : ByteArray := prog_10_method_2_code
def yX8_rootScore : MethodName := ⟨RX8, "rootScore", "()LEngraversHouse$Score;"⟩
abbrev cX8_scoreNumber : ByteArray := prog_10_method_3_code
def yX8_scoreNumber : MethodName := ⟨RX8, "scoreNumber", "()I"⟩
abbrev cX8_second : ByteArray := prog_10_method_4_code
def yX8_second : MethodName := ⟨RX8, "second", "()I"⟩
abbrev cX8_third : ByteArray := prog_10_method_5_code
def yX8_third : MethodName := ⟨RX8, "third", "()I"⟩
abbrev cX8_hasVoice : ByteArray := prog_10_method_6_code
def yX8_hasVoice : MethodName := ⟨RX8, "hasVoice", "(I)Z"⟩
abbrev cX8_begunBar : ByteArray := prog_10_method_7_code
def yX8_begunBar : MethodName := ⟨RX8, "begunBar", "(II)LEngraversHouse$Bar;"⟩
abbrev cX8_openBar : ByteArray := prog_10_method_8_code
def yX8_openBar : MethodName := ⟨RX8, "openBar", "(I)LEngraversHouse$Bar;"⟩
abbrev cX8_wholeBars : ByteArray := prog_10_method_9_code
def yX8_wholeBars : MethodName := ⟨RX8, "wholeBars", "(I)I"⟩
abbrev cX8_wholeBar : ByteArray := prog_10_method_10_code
def yX8_wholeBar : MethodName := ⟨RX8, "wholeBar", "(II)LEngraversHouse$Bar;"⟩
abbrev cX8_takeNote : ByteArray := prog_10_method_11_code
def yX8_takeNote : MethodName := ⟨RX8, "takeNote", "(II)I"⟩
def RX9 : String := "EngraversHouse$Thing"
def TX9 : u_T := fun k => match k with
  | _ => ("", "", "", false)
def tyX9 : Nat → FieldType := fun k => match k with
  | _ => .int
abbrev wsX90 : List Cond := u_ws RX9 TX9 0
theorem nmX9 : ∀ a, a < 0 → ∀ b, b < 0 → a ≠ b → (TX9 a).2.1 ≠ (TX9 b).2.1 := by decide +kernel
theorem tyX9_ok : ∀ k, k < 0 → parseFieldDescriptor (TX9 k).2.2.1 = some (tyX9 k) := by decide +kernel
abbrev cX9_init : ByteArray := prog_11_method_1_code
def yX9_init : MethodName := ⟨RX9, "<init>", "(II)V"⟩
def RX10 : String := "EngraversHouse$Tour"
def TX10 : u_T := fun k => match k with
  | 0 => ("EngraversHouse$Tour", "ways", "[I", true)
  | 1 => ("EngraversHouse$Tour", "count", "I", false)
  | 2 => ("EngraversHouse$Tour", "towns", "[I", true)
  | 3 => ("EngraversHouse$Tour", "froms", "[I", true)
  | 4 => ("EngraversHouse$Tour", "tos", "[I", true)
  | 5 => ("EngraversHouse$Tour", "worths", "[I", true)
  | 6 => ("EngraversHouse$Tour", "order", "[I", true)
  | 7 => ("EngraversHouse$Tour", "bestWorth", "[I", true)
  | 8 => ("EngraversHouse$Tour", "bestSize", "[I", true)
  | _ => ("EngraversHouse$Tour", "bestBits", "[I", true)
def tyX10 : Nat → FieldType := fun k => match k with
  | 0 => .array .int
  | 1 => .int
  | 2 => .array .int
  | 3 => .array .int
  | 4 => .array .int
  | 5 => .array .int
  | 6 => .array .int
  | 7 => .array .int
  | 8 => .array .int
  | _ => .array .int
abbrev wsX100 : List Cond := u_ws RX10 TX10 10
theorem nmX10 : ∀ a, a < 10 → ∀ b, b < 10 → a ≠ b → (TX10 a).2.1 ≠ (TX10 b).2.1 := by decide +kernel
theorem tyX10_ok : ∀ k, k < 10 → parseFieldDescriptor (TX10 k).2.2.1 = some (tyX10 k) := by decide +kernel
abbrev cX10_init : ByteArray := prog_12_method_1_code
def yX10_init : MethodName := ⟨RX10, "<init>", "()V"⟩
abbrev cX10_wayBetween : ByteArray := prog_12_method_2_code
def yX10_wayBetween : MethodName := ⟨RX10, "wayBetween", "(II)I"⟩
abbrev cX10_changeWay : ByteArray := prog_12_method_3_code
def yX10_changeWay : MethodName := ⟨RX10, "changeWay", "(III)I"⟩
abbrev cX10_addAsk : ByteArray := prog_12_method_4_code
def yX10_addAsk : MethodName := ⟨RX10, "addAsk", "(IIII)I"⟩
abbrev cX10_bestFirst : ByteArray := prog_12_method_5_code
def yX10_bestFirst : MethodName := ⟨RX10, "bestFirst", "(II)I"⟩
abbrev cX10_bestBehind : ByteArray := prog_12_method_6_code
def yX10_bestBehind : MethodName := ⟨RX10, "bestBehind", "(III)I"⟩
abbrev cX10_isBetter : ByteArray := prog_12_method_7_code
def yX10_isBetter : MethodName := ⟨RX10, "isBetter", "(II)Z"⟩
abbrev cX10_worthFrom : ByteArray := prog_12_method_8_code
def yX10_worthFrom : MethodName := ⟨RX10, "worthFrom", "(I)I"⟩
abbrev cX10_bitsFrom : ByteArray := prog_12_method_9_code
def yX10_bitsFrom : MethodName := ⟨RX10, "bitsFrom", "(I)I"⟩
def RX11 : String := "EngraversHouse"
def TX11 : u_T := fun k => match k with
  | 0 => ("EngraversHouse", "today", "I", false)
  | 1 => ("EngraversHouse", "deaths", "[I", true)
  | 2 => ("EngraversHouse", "authorCount", "I", false)
  | 3 => ("EngraversHouse", "things", "[LEngraversHouse$Thing;", true)
  | 4 => ("EngraversHouse", "thingCount", "I", false)
  | 5 => ("EngraversHouse", "musicEnd", "I", false)
  | 6 => ("EngraversHouse", "pressed", "[LEngraversHouse$Plate;", true)
  | 7 => ("EngraversHouse", "pressCount", "I", false)
  | 8 => ("EngraversHouse", "layout", "LEngraversHouse$Layout;", true)
  | 9 => ("EngraversHouse", "text", "[I", true)
  | 10 => ("EngraversHouse", "textLength", "I", false)
  | 11 => ("EngraversHouse", "contracts", "[LEngraversHouse$Contract;", true)
  | 12 => ("EngraversHouse", "contractCount", "I", false)
  | 13 => ("EngraversHouse", "tour", "LEngraversHouse$Tour;", true)
  | 14 => ("EngraversHouse", "plan", "LEngraversHouse$PrintPlan;", true)
  | 15 => ("EngraversHouse", "tapes", "[[I", true)
  | 16 => ("EngraversHouse", "tapeSorts", "[I", true)
  | 17 => ("EngraversHouse", "tapeSizes", "[I", true)
  | 18 => ("EngraversHouse", "bodiesRun", "[I", true)
  | _ => ("EngraversHouse", "bodyCount", "I", false)
def tyX11 : Nat → FieldType := fun k => match k with
  | 0 => .int
  | 1 => .array .int
  | 2 => .int
  | 3 => .array (.object "EngraversHouse$Thing")
  | 4 => .int
  | 5 => .int
  | 6 => .array (.object "EngraversHouse$Plate")
  | 7 => .int
  | 8 => .object "EngraversHouse$Layout"
  | 9 => .array .int
  | 10 => .int
  | 11 => .array (.object "EngraversHouse$Contract")
  | 12 => .int
  | 13 => .object "EngraversHouse$Tour"
  | 14 => .object "EngraversHouse$PrintPlan"
  | 15 => .array (.array .int)
  | 16 => .array .int
  | 17 => .array .int
  | 18 => .array .int
  | _ => .int
abbrev wsX110 : List Cond := u_ws RX11 TX11 20
theorem nmX11 : ∀ a, a < 20 → ∀ b, b < 20 → a ≠ b → (TX11 a).2.1 ≠ (TX11 b).2.1 := by decide +kernel
theorem tyX11_ok : ∀ k, k < 20 → parseFieldDescriptor (TX11 k).2.2.1 = some (tyX11 k) := by decide +kernel
abbrev cX11_init : ByteArray := prog_1_method_1_code
def yX11_init : MethodName := ⟨RX11, "<init>", "()V"⟩
abbrev cX11_pass : ByteArray := prog_1_method_2_code
def yX11_pass : MethodName := ⟨RX11, "pass", "(I)I"⟩
abbrev cX11_author : ByteArray := prog_1_method_3_code
def yX11_author : MethodName := ⟨RX11, "author", "()I"⟩
abbrev cX11_died : ByteArray := prog_1_method_4_code
def yX11_died : MethodName := ⟨RX11, "died", "(II)I"⟩
abbrev cX11_score : ByteArray := prog_1_method_5_code
def yX11_score : MethodName := ⟨RX11, "score", "(III)I"⟩
abbrev cX11_derive : ByteArray := prog_1_method_6_code
def yX11_derive : MethodName := ⟨RX11, "derive", "(IIII)I"⟩
abbrev cX11_note : ByteArray := prog_1_method_7_code
def yX11_note : MethodName := ⟨RX11, "note", "(IIIII)I"⟩
abbrev cX11_alter : ByteArray := prog_1_method_8_code
def yX11_alter : MethodName := ⟨RX11, "alter", "(IIIII)I"⟩
abbrev cX11_music : ByteArray := prog_1_method_9_code
def yX11_music : MethodName := ⟨RX11, "music", "(IIIII)I"⟩
abbrev cX11_ended : ByteArray := prog_1_method_10_code
def yX11_ended : MethodName := ⟨RX11, "ended", "()I"⟩
abbrev cX11_of : ByteArray := prog_1_method_11_code
def yX11_of : MethodName := ⟨RX11, "of", "(II)I"⟩
abbrev cX11_bars : ByteArray := prog_1_method_12_code
def yX11_bars : MethodName := ⟨RX11, "bars", "(II)I"⟩
abbrev cX11_part : ByteArray := prog_1_method_13_code
def yX11_part : MethodName := ⟨RX11, "part", "(III)I"⟩
abbrev cX11_heard : ByteArray := prog_1_method_14_code
def yX11_heard : MethodName := ⟨RX11, "heard", "(III)I"⟩
abbrev cX11_plate : ByteArray := prog_1_method_15_code
def yX11_plate : MethodName := ⟨RX11, "plate", "(III)I"⟩
abbrev cX11_mend : ByteArray := prog_1_method_16_code
def yX11_mend : MethodName := ⟨RX11, "mend", "(IIII)I"⟩
abbrev cX11_differs : ByteArray := prog_1_method_17_code
def yX11_differs : MethodName := ⟨RX11, "differs", "(II)I"⟩
abbrev cX11_press : ByteArray := prog_1_method_18_code
def yX11_press : MethodName := ⟨RX11, "press", "(I)I"⟩
abbrev cX11_edition : ByteArray := prog_1_method_19_code
def yX11_edition : MethodName := ⟨RX11, "edition", "()I"⟩
abbrev cX11_printed : ByteArray := prog_1_method_20_code
def yX11_printed : MethodName := ⟨RX11, "printed", "(IIIII)I"⟩
abbrev cX11_erratum : ByteArray := prog_1_method_21_code
def yX11_erratum : MethodName := ⟨RX11, "erratum", "(IIIIII)I"⟩
abbrev cX11_idle : ByteArray := prog_1_method_22_code
def yX11_idle : MethodName := ⟨RX11, "idle", "(I)I"⟩
abbrev cX11_changes : ByteArray := prog_1_method_23_code
def yX11_changes : MethodName := ⟨RX11, "changes", "(III)I"⟩
abbrev cX11_hangs : ByteArray := prog_1_method_24_code
def yX11_hangs : MethodName := ⟨RX11, "hangs", "(I)I"⟩
abbrev cX11_pages : ByteArray := prog_1_method_25_code
def yX11_pages : MethodName := ⟨RX11, "pages", "(IIII)I"⟩
abbrev cX11_feed : ByteArray := prog_1_method_26_code
def yX11_feed : MethodName := ⟨RX11, "feed", "(II)I"⟩
abbrev cX11_contract : ByteArray := prog_1_method_27_code
def yX11_contract : MethodName := ⟨RX11, "contract", "(II)I"⟩
abbrev cX11_lawful : ByteArray := prog_1_method_28_code
def yX11_lawful : MethodName := ⟨RX11, "lawful", "(III)I"⟩
abbrev cX11_right : ByteArray := prog_1_method_29_code
def yX11_right : MethodName := ⟨RX11, "right", "(III)I"⟩
abbrev cX11_paid : ByteArray := prog_1_method_30_code
def yX11_paid : MethodName := ⟨RX11, "paid", "(IIIIIII)I"⟩
abbrev cX11_set : ByteArray := prog_1_method_31_code
def yX11_set : MethodName := ⟨RX11, "set", "(I)I"⟩
abbrev cX11_stands : ByteArray := prog_1_method_32_code
def yX11_stands : MethodName := ⟨RX11, "stands", "(II)I"⟩
abbrev cX11_way : ByteArray := prog_1_method_33_code
def yX11_way : MethodName := ⟨RX11, "way", "(III)I"⟩
abbrev cX11_ask : ByteArray := prog_1_method_34_code
def yX11_ask : MethodName := ⟨RX11, "ask", "(IIII)I"⟩
abbrev cX11_askless : ByteArray := prog_1_method_35_code
def yX11_askless : MethodName := ⟨RX11, "askless", "()I"⟩
abbrev cX11_hire : ByteArray := prog_1_method_36_code
def yX11_hire : MethodName := ⟨RX11, "hire", "(II)I"⟩
abbrev cX11_month : ByteArray := prog_1_method_37_code
def yX11_month : MethodName := ⟨RX11, "month", "(I)I"⟩
abbrev cX11_costs : ByteArray := prog_1_method_38_code
def yX11_costs : MethodName := ⟨RX11, "costs", "(III)I"⟩
abbrev cX11_prints : ByteArray := prog_1_method_39_code
def yX11_prints : MethodName := ⟨RX11, "prints", "(I)I"⟩
abbrev cX11_proof : ByteArray := prog_1_method_40_code
def yX11_proof : MethodName := ⟨RX11, "proof", "(III)I"⟩
abbrev cX11_left : ByteArray := prog_1_method_41_code
def yX11_left : MethodName := ⟨RX11, "left", "(IIII)J"⟩
abbrev cX11_missed : ByteArray := prog_1_method_42_code
def yX11_missed : MethodName := ⟨RX11, "missed", "(II)I"⟩
abbrev cX11_act : ByteArray := prog_1_method_43_code
def yX11_act : MethodName := ⟨RX11, "act", "(III)I"⟩
abbrev cX11_trace : ByteArray := prog_1_method_44_code
def yX11_trace : MethodName := ⟨RX11, "trace", "(I)I"⟩
abbrev cX11_taken : ByteArray := prog_1_method_45_code
def yX11_taken : MethodName := ⟨RX11, "taken", "(II)I"⟩
abbrev cX11_count : ByteArray := prog_1_method_46_code
def yX11_count : MethodName := ⟨RX11, "count", "(I)I"⟩
abbrev cX11_tape : ByteArray := prog_1_method_47_code
def yX11_tape : MethodName := ⟨RX11, "tape", "(III)I"⟩
abbrev cX11_item : ByteArray := prog_1_method_48_code
def yX11_item : MethodName := ⟨RX11, "item", "(III)I"⟩
abbrev cX11_read : ByteArray := prog_1_method_49_code
def yX11_read : MethodName := ⟨RX11, "read", "(II)J"⟩
abbrev cX11_shift : ByteArray := prog_1_method_50_code
def yX11_shift : MethodName := ⟨RX11, "shift", "(IIIII)I"⟩
abbrev cX11_within : ByteArray := prog_1_method_51_code
def yX11_within : MethodName := ⟨RX11, "within", "(III)Z"⟩
abbrev cX11_isDay : ByteArray := prog_1_method_52_code
def yX11_isDay : MethodName := ⟨RX11, "isDay", "(I)Z"⟩
abbrev cX11_isMeter : ByteArray := prog_1_method_53_code
def yX11_isMeter : MethodName := ⟨RX11, "isMeter", "(I)Z"⟩
abbrev cX11_isTown : ByteArray := prog_1_method_54_code
def yX11_isTown : MethodName := ⟨RX11, "isTown", "(I)Z"⟩
abbrev cX11_isHand : ByteArray := prog_1_method_55_code
def yX11_isHand : MethodName := ⟨RX11, "isHand", "(I)Z"⟩
abbrev cX11_isTape : ByteArray := prog_1_method_56_code
def yX11_isTape : MethodName := ⟨RX11, "isTape", "(I)Z"⟩
abbrev cX11_isNote : ByteArray := prog_1_method_57_code
def yX11_isNote : MethodName := ⟨RX11, "isNote", "(III)Z"⟩
abbrev cX11_isAuthor : ByteArray := prog_1_method_58_code
def yX11_isAuthor : MethodName := ⟨RX11, "isAuthor", "(I)Z"⟩
abbrev cX11_commonDivisor : ByteArray := prog_1_method_59_code
def yX11_commonDivisor : MethodName := ⟨RX11, "commonDivisor", "(II)I"⟩
abbrev cX11_noteCode : ByteArray := prog_1_method_60_code
def yX11_noteCode : MethodName := ⟨RX11, "noteCode", "(III)I"⟩
abbrev cX11_isRest : ByteArray := prog_1_method_61_code
def yX11_isRest : MethodName := ⟨RX11, "isRest", "(I)Z"⟩
abbrev cX11_pitchOf : ByteArray := prog_1_method_62_code
def yX11_pitchOf : MethodName := ⟨RX11, "pitchOf", "(I)I"⟩
abbrev cX11_lengthOf : ByteArray := prog_1_method_63_code
def yX11_lengthOf : MethodName := ⟨RX11, "lengthOf", "(I)I"⟩
abbrev cX11_shifted : ByteArray := prog_1_method_64_code
def yX11_shifted : MethodName := ⟨RX11, "shifted", "(II)I"⟩
abbrev cX11_withPitch : ByteArray := prog_1_method_65_code
def yX11_withPitch : MethodName := ⟨RX11, "withPitch", "(II)I"⟩
abbrev cX11_tellNote : ByteArray := prog_1_method_66_code
def yX11_tellNote : MethodName := ⟨RX11, "tellNote", "(LEngraversHouse$Bar;I)I"⟩
abbrev cX11_repitched : ByteArray := prog_1_method_67_code
def yX11_repitched : MethodName := ⟨RX11, "repitched", "(LEngraversHouse$Bar;III)I"⟩
abbrev cX11_keep : ByteArray := prog_1_method_68_code
def yX11_keep : MethodName := ⟨RX11, "keep", "(LEngraversHouse$Thing;)I"⟩
abbrev cX11_thingAt : ByteArray := prog_1_method_69_code
def yX11_thingAt : MethodName := ⟨RX11, "thingAt", "(I)LEngraversHouse$Thing;"⟩
abbrev cX11_lacking : ByteArray := prog_1_method_70_code
def yX11_lacking : MethodName := ⟨RX11, "lacking", "(I)I"⟩
abbrev cX11_scoreAt : ByteArray := prog_1_method_71_code
def yX11_scoreAt : MethodName := ⟨RX11, "scoreAt", "(I)LEngraversHouse$Score;"⟩
abbrev cX11_partAt : ByteArray := prog_1_method_72_code
def yX11_partAt : MethodName := ⟨RX11, "partAt", "(I)LEngraversHouse$Part;"⟩
abbrev cX11_setAt : ByteArray := prog_1_method_73_code
def yX11_setAt : MethodName := ⟨RX11, "setAt", "(I)LEngraversHouse$Part;"⟩
abbrev cX11_plateAt : ByteArray := prog_1_method_74_code
def yX11_plateAt : MethodName := ⟨RX11, "plateAt", "(I)LEngraversHouse$Plate;"⟩
abbrev cX11_editionAt : ByteArray := prog_1_method_75_code
def yX11_editionAt : MethodName := ⟨RX11, "editionAt", "(I)LEngraversHouse$Edition;"⟩
abbrev cX11_erratumAt : ByteArray := prog_1_method_76_code
def yX11_erratumAt : MethodName := ⟨RX11, "erratumAt", "(I)LEngraversHouse$Erratum;"⟩
abbrev cX11_hasStretch : ByteArray := prog_1_method_77_code
def yX11_hasStretch : MethodName := ⟨RX11, "hasStretch", "(IJJ)Z"⟩
abbrev cX11_asItem : ByteArray := prog_1_method_78_code
def yX11_asItem : MethodName := ⟨RX11, "asItem", "(II)I"⟩
abbrev cX11_takeFromTape : ByteArray := prog_1_method_79_code
def yX11_takeFromTape : MethodName := ⟨RX11, "takeFromTape", "(LEngraversHouse$Score;IIJ)I"⟩
abbrev cX11_placeInEdition : ByteArray := prog_1_method_80_code
def yX11_placeInEdition : MethodName := ⟨RX11, "placeInEdition", "(III)I"⟩
abbrev cX11_amendedNote : ByteArray := prog_1_method_81_code
def yX11_amendedNote : MethodName := ⟨RX11, "amendedNote", "(LEngraversHouse$Edition;IIII)I"⟩
abbrev cX11_growTree : ByteArray := prog_1_method_82_code
def yX11_growTree : MethodName := ⟨RX11, "growTree", "(LEngraversHouse$Score;)V"⟩
abbrev cX11_nearestToTree : ByteArray := prog_1_method_83_code
def yX11_nearestToTree : MethodName := ⟨RX11, "nearestToTree", "(LEngraversHouse$Score;)LEngraversHouse$Edition;"⟩
abbrev cX11_contractAt : ByteArray := prog_1_method_84_code
def yX11_contractAt : MethodName := ⟨RX11, "contractAt", "(I)LEngraversHouse$Contract;"⟩
abbrev cX11_contractNumber : ByteArray := prog_1_method_85_code
def yX11_contractNumber : MethodName := ⟨RX11, "contractNumber", "(II)I"⟩
abbrev cX11_lifeBy : ByteArray := prog_1_method_86_code
def yX11_lifeBy : MethodName := ⟨RX11, "lifeBy", "(LEngraversHouse$Contract;)I"⟩
abbrev cX11_daysSinceDeath : ByteArray := prog_1_method_87_code
def yX11_daysSinceDeath : MethodName := ⟨RX11, "daysSinceDeath", "(II)I"⟩
abbrev cX11_wholeYearsSince : ByteArray := prog_1_method_88_code
def yX11_wholeYearsSince : MethodName := ⟨RX11, "wholeYearsSince", "(II)I"⟩
abbrev cX11_hasRight : ByteArray := prog_1_method_89_code
def yX11_hasRight : MethodName := ⟨RX11, "hasRight", "(ILEngraversHouse$Contract;I)Z"⟩
abbrev cX11_isUnder : ByteArray := prog_1_method_90_code
def yX11_isUnder : MethodName := ⟨RX11, "isUnder", "(II)Z"⟩
abbrev cX11_ownBody : ByteArray := prog_1_method_91_code
def yX11_ownBody : MethodName := ⟨RX11, "ownBody", "(II)I"⟩
abbrev cX11_kindAbove : ByteArray := prog_1_method_92_code
def yX11_kindAbove : MethodName := ⟨RX11, "kindAbove", "(I)I"⟩
abbrev cX11_runBody : ByteArray := prog_1_method_93_code
def yX11_runBody : MethodName := ⟨RX11, "runBody", "(LEngraversHouse$Thing;IIII)I"⟩
abbrev cX11_answerOf : ByteArray := prog_1_method_94_code
def yX11_answerOf : MethodName := ⟨RX11, "answerOf", "(ILEngraversHouse$Thing;III)I"⟩
def RX12 : String := "EngraversHouseModel"
def TX12 : u_T := fun k => match k with
  | 0 => ("EngraversHouseModel", "code", "I", false)
  | 1 => ("EngraversHouseModel", "today", "I", false)
  | 2 => ("EngraversHouseModel", "things", "I", false)
  | 3 => ("EngraversHouseModel", "kind", "[I", true)
  | 4 => ("EngraversHouseModel", "first", "[I", true)
  | 5 => ("EngraversHouseModel", "second", "[I", true)
  | 6 => ("EngraversHouseModel", "third", "[I", true)
  | 7 => ("EngraversHouseModel", "authorOf", "[I", true)
  | 8 => ("EngraversHouseModel", "authors", "I", false)
  | 9 => ("EngraversHouseModel", "diedOn", "[I", true)
  | 10 => ("EngraversHouseModel", "pitch", "[I", true)
  | 11 => ("EngraversHouseModel", "length", "[I", true)
  | 12 => ("EngraversHouseModel", "tied", "[I", true)
  | 13 => ("EngraversHouseModel", "noteMany", "[I", true)
  | 14 => ("EngraversHouseModel", "barMany", "[I", true)
  | 15 => ("EngraversHouseModel", "musicEnded", "I", false)
  | 16 => ("EngraversHouseModel", "readMany", "I", false)
  | 17 => ("EngraversHouseModel", "readPitch", "[I", true)
  | 18 => ("EngraversHouseModel", "readLength", "[I", true)
  | 19 => ("EngraversHouseModel", "readTied", "[I", true)
  | 20 => ("EngraversHouseModel", "platePitch", "[I", true)
  | 21 => ("EngraversHouseModel", "plateLength", "[I", true)
  | 22 => ("EngraversHouseModel", "plateTied", "[I", true)
  | 23 => ("EngraversHouseModel", "plateMany", "[I", true)
  | 24 => ("EngraversHouseModel", "pressed", "I", false)
  | 25 => ("EngraversHouseModel", "press", "[I", true)
  | 26 => ("EngraversHouseModel", "printedPitch", "[I", true)
  | 27 => ("EngraversHouseModel", "printedLength", "[I", true)
  | 28 => ("EngraversHouseModel", "printedTied", "[I", true)
  | 29 => ("EngraversHouseModel", "printedMany", "[I", true)
  | 30 => ("EngraversHouseModel", "errorFrom", "[I", true)
  | 31 => ("EngraversHouseModel", "errorTo", "[I", true)
  | 32 => ("EngraversHouseModel", "errorNote", "[I", true)
  | 33 => ("EngraversHouseModel", "rowA", "[I", true)
  | 34 => ("EngraversHouseModel", "rowB", "[I", true)
  | 35 => ("EngraversHouseModel", "change", "[I", true)
  | 36 => ("EngraversHouseModel", "inTree", "[Z", true)
  | 37 => ("EngraversHouseModel", "wide", "[I", true)
  | 38 => ("EngraversHouseModel", "endsRest", "[Z", true)
  | 39 => ("EngraversHouseModel", "beginsRest", "[Z", true)
  | 40 => ("EngraversHouseModel", "leastCost", "[I", true)
  | 41 => ("EngraversHouseModel", "takes", "[I", true)
  | 42 => ("EngraversHouseModel", "text", "[B", true)
  | 43 => ("EngraversHouseModel", "texted", "I", false)
  | 44 => ("EngraversHouseModel", "contracts", "I", false)
  | 45 => ("EngraversHouseModel", "landOf", "[I", true)
  | 46 => ("EngraversHouseModel", "contractDay", "[I", true)
  | 47 => ("EngraversHouseModel", "life", "[I", true)
  | 48 => ("EngraversHouseModel", "leastPaid", "[I", true)
  | 49 => ("EngraversHouseModel", "clauseMany", "[I", true)
  | 50 => ("EngraversHouseModel", "clauseWho", "[I", true)
  | 51 => ("EngraversHouseModel", "clauseAct", "[I", true)
  | 52 => ("EngraversHouseModel", "clauseShare", "[I", true)
  | 53 => ("EngraversHouseModel", "clauseFrom", "[I", true)
  | 54 => ("EngraversHouseModel", "clauseTo", "[I", true)
  | 55 => ("EngraversHouseModel", "step", "[I", true)
  | 56 => ("EngraversHouseModel", "with", "[I", true)
  | 57 => ("EngraversHouseModel", "here", "I", false)
  | 58 => ("EngraversHouseModel", "laid", "I", false)
  | 59 => ("EngraversHouseModel", "row", "I", false)
  | 60 => ("EngraversHouseModel", "open", "I", false)
  | 61 => ("EngraversHouseModel", "number", "I", false)
  | 62 => ("EngraversHouseModel", "pile", "[Z", true)
  | 63 => ("EngraversHouseModel", "ways", "[I", true)
  | 64 => ("EngraversHouseModel", "townOf", "[I", true)
  | 65 => ("EngraversHouseModel", "asks", "I", false)
  | 66 => ("EngraversHouseModel", "askTown", "[I", true)
  | 67 => ("EngraversHouseModel", "askFrom", "[I", true)
  | 68 => ("EngraversHouseModel", "askTo", "[I", true)
  | 69 => ("EngraversHouseModel", "askWorth", "[I", true)
  | 70 => ("EngraversHouseModel", "months", "I", false)
  | 71 => ("EngraversHouseModel", "asked", "[I", true)
  | 72 => ("EngraversHouseModel", "setup", "I", false)
  | 73 => ("EngraversHouseModel", "hold", "I", false)
  | 74 => ("EngraversHouseModel", "most", "I", false)
  | 75 => ("EngraversHouseModel", "marked", "[I", true)
  | 76 => ("EngraversHouseModel", "traces", "I", false)
  | 77 => ("EngraversHouseModel", "traced", "[I", true)
  | 78 => ("EngraversHouseModel", "tapeSort", "[I", true)
  | 79 => ("EngraversHouseModel", "tapeSize", "[I", true)
  | 80 => ("EngraversHouseModel", "items", "[I", true)
  | _ => ("EngraversHouseModel", "shifted", "[I", true)
def tyX12 : Nat → FieldType := fun k => match k with
  | 0 => .int
  | 1 => .int
  | 2 => .int
  | 3 => .array .int
  | 4 => .array .int
  | 5 => .array .int
  | 6 => .array .int
  | 7 => .array .int
  | 8 => .int
  | 9 => .array .int
  | 10 => .array .int
  | 11 => .array .int
  | 12 => .array .int
  | 13 => .array .int
  | 14 => .array .int
  | 15 => .int
  | 16 => .int
  | 17 => .array .int
  | 18 => .array .int
  | 19 => .array .int
  | 20 => .array .int
  | 21 => .array .int
  | 22 => .array .int
  | 23 => .array .int
  | 24 => .int
  | 25 => .array .int
  | 26 => .array .int
  | 27 => .array .int
  | 28 => .array .int
  | 29 => .array .int
  | 30 => .array .int
  | 31 => .array .int
  | 32 => .array .int
  | 33 => .array .int
  | 34 => .array .int
  | 35 => .array .int
  | 36 => .array .boolean
  | 37 => .array .int
  | 38 => .array .boolean
  | 39 => .array .boolean
  | 40 => .array .int
  | 41 => .array .int
  | 42 => .array .byte
  | 43 => .int
  | 44 => .int
  | 45 => .array .int
  | 46 => .array .int
  | 47 => .array .int
  | 48 => .array .int
  | 49 => .array .int
  | 50 => .array .int
  | 51 => .array .int
  | 52 => .array .int
  | 53 => .array .int
  | 54 => .array .int
  | 55 => .array .int
  | 56 => .array .int
  | 57 => .int
  | 58 => .int
  | 59 => .int
  | 60 => .int
  | 61 => .int
  | 62 => .array .boolean
  | 63 => .array .int
  | 64 => .array .int
  | 65 => .int
  | 66 => .array .int
  | 67 => .array .int
  | 68 => .array .int
  | 69 => .array .int
  | 70 => .int
  | 71 => .array .int
  | 72 => .int
  | 73 => .int
  | 74 => .int
  | 75 => .array .int
  | 76 => .int
  | 77 => .array .int
  | 78 => .array .int
  | 79 => .array .int
  | 80 => .array .int
  | _ => .array .int
abbrev wsX120 : List Cond := u_ws RX12 TX12 82
theorem nmX12 : ∀ a, a < 82 → ∀ b, b < 82 → a ≠ b → (TX12 a).2.1 ≠ (TX12 b).2.1 := by decide +kernel
theorem tyX12_ok : ∀ k, k < 82 → parseFieldDescriptor (TX12 k).2.2.1 = some (tyX12 k) := by decide +kernel
abbrev cX12_in : ByteArray := prog_14_method_2_code
def yX12_in : MethodName := ⟨RX12, "in", "(III)Z"⟩
abbrev cX12_isDay : ByteArray := prog_14_method_3_code
def yX12_isDay : MethodName := ⟨RX12, "isDay", "(I)Z"⟩
abbrev cX12_init : ByteArray := prog_14_method_4_code
def yX12_init : MethodName := ⟨RX12, "<init>", "()V"⟩
abbrev cX12_isThing : ByteArray := prog_14_method_5_code
def yX12_isThing : MethodName := ⟨RX12, "isThing", "(I)Z"⟩
abbrev cX12_isUnder : ByteArray := prog_14_method_6_code
def yX12_isUnder : MethodName := ⟨RX12, "isUnder", "(II)Z"⟩
abbrev cX12_isMusic : ByteArray := prog_14_method_7_code
def yX12_isMusic : MethodName := ⟨RX12, "isMusic", "(I)Z"⟩
abbrev cX12_isPart : ByteArray := prog_14_method_8_code
def yX12_isPart : MethodName := ⟨RX12, "isPart", "(I)Z"⟩
abbrev cX12_add : ByteArray := prog_14_method_9_code
def yX12_add : MethodName := ⟨RX12, "add", "(IIII)I"⟩
abbrev cX12_pass : ByteArray := prog_14_method_10_code
def yX12_pass : MethodName := ⟨RX12, "pass", "(I)I"⟩
abbrev cX12_isAuthor : ByteArray := prog_14_method_11_code
def yX12_isAuthor : MethodName := ⟨RX12, "isAuthor", "(I)Z"⟩
abbrev cX12_author : ByteArray := prog_14_method_12_code
def yX12_author : MethodName := ⟨RX12, "author", "()I"⟩
abbrev cX12_died : ByteArray := prog_14_method_13_code
def yX12_died : MethodName := ⟨RX12, "died", "(II)I"⟩
abbrev cX12_areScore : ByteArray := prog_14_method_14_code
def yX12_areScore : MethodName := ⟨RX12, "areScore", "(II)Z"⟩
abbrev cX12_score : ByteArray := prog_14_method_15_code
def yX12_score : MethodName := ⟨RX12, "score", "(III)I"⟩
abbrev cX12_derive : ByteArray := prog_14_method_16_code
def yX12_derive : MethodName := ⟨RX12, "derive", "(IIII)I"⟩
abbrev cX12_barAt : ByteArray := prog_14_method_17_code
def yX12_barAt : MethodName := ⟨RX12, "barAt", "(III)I"⟩
abbrev cX12_filled : ByteArray := prog_14_method_18_code
def yX12_filled : MethodName := ⟨RX12, "filled", "(I)I"⟩
abbrev cX12_whole : ByteArray := prog_14_method_19_code
def yX12_whole : MethodName := ⟨RX12, "whole", "(II)I"⟩
abbrev cX12_put : ByteArray := prog_14_method_20_code
def yX12_put : MethodName := ⟨RX12, "put", "(IIIII)I"⟩
abbrev cX12_isNote : ByteArray := prog_14_method_21_code
def yX12_isNote : MethodName := ⟨RX12, "isNote", "(III)Z"⟩
abbrev cX12_note : ByteArray := prog_14_method_22_code
def yX12_note : MethodName := ⟨RX12, "note", "(IIIII)I"⟩
abbrev cX12_alter : ByteArray := prog_14_method_23_code
def yX12_alter : MethodName := ⟨RX12, "alter", "(IIIII)I"⟩
abbrev cX12_music : ByteArray := prog_14_method_24_code
def yX12_music : MethodName := ⟨RX12, "music", "(IIIII)I"⟩
abbrev cX12_ended : ByteArray := prog_14_method_25_code
def yX12_ended : MethodName := ⟨RX12, "ended", "()I"⟩
abbrev cX12_scoreOf : ByteArray := prog_14_method_26_code
def yX12_scoreOf : MethodName := ⟨RX12, "scoreOf", "(I)I"⟩
abbrev cX12_errataOf : ByteArray := prog_14_method_27_code
def yX12_errataOf : MethodName := ⟨RX12, "errataOf", "(I)I"⟩
abbrev cX12_of : ByteArray := prog_14_method_28_code
def yX12_of : MethodName := ⟨RX12, "of", "(II)I"⟩
abbrev cX12_bars : ByteArray := prog_14_method_29_code
def yX12_bars : MethodName := ⟨RX12, "bars", "(II)I"⟩
abbrev cX12_readBar : ByteArray := prog_14_method_30_code
def yX12_readBar : MethodName := ⟨RX12, "readBar", "(II)V"⟩
abbrev cX12_told : ByteArray := prog_14_method_31_code
def yX12_told : MethodName := ⟨RX12, "told", "(III)I"⟩
abbrev cX12_part : ByteArray := prog_14_method_32_code
def yX12_part : MethodName := ⟨RX12, "part", "(III)I"⟩
abbrev cX12_barsOf : ByteArray := prog_14_method_33_code
def yX12_barsOf : MethodName := ⟨RX12, "barsOf", "(I)I"⟩
abbrev cX12_heard : ByteArray := prog_14_method_34_code
def yX12_heard : MethodName := ⟨RX12, "heard", "(III)I"⟩
abbrev cX12_plate : ByteArray := prog_14_method_35_code
def yX12_plate : MethodName := ⟨RX12, "plate", "(III)I"⟩
abbrev cX12_mend : ByteArray := prog_14_method_36_code
def yX12_mend : MethodName := ⟨RX12, "mend", "(IIII)I"⟩
abbrev cX12_isOff : ByteArray := prog_14_method_37_code
def yX12_isOff : MethodName := ⟨RX12, "isOff", "(II)Z"⟩
abbrev cX12_offs : ByteArray := prog_14_method_38_code
def yX12_offs : MethodName := ⟨RX12, "offs", "(I)I"⟩
abbrev cX12_bitsOf : ByteArray := prog_14_method_39_code
def yX12_bitsOf : MethodName := ⟨RX12, "bitsOf", "(I)I"⟩
abbrev cX12_differs : ByteArray := prog_14_method_40_code
def yX12_differs : MethodName := ⟨RX12, "differs", "(II)I"⟩
abbrev cX12_press : ByteArray := prog_14_method_41_code
def yX12_press : MethodName := ⟨RX12, "press", "(I)I"⟩
abbrev cX12_edition : ByteArray := prog_14_method_42_code
def yX12_edition : MethodName := ⟨RX12, "edition", "()I"⟩
abbrev cX12_amendedPitch : ByteArray := prog_14_method_43_code
def yX12_amendedPitch : MethodName := ⟨RX12, "amendedPitch", "(IIIII)I"⟩
abbrev cX12_hasBar : ByteArray := prog_14_method_44_code
def yX12_hasBar : MethodName := ⟨RX12, "hasBar", "(III)Z"⟩
abbrev cX12_printed : ByteArray := prog_14_method_45_code
def yX12_printed : MethodName := ⟨RX12, "printed", "(IIIII)I"⟩
abbrev cX12_erratum : ByteArray := prog_14_method_46_code
def yX12_erratum : MethodName := ⟨RX12, "erratum", "(IIIIII)I"⟩
abbrev cX12_idle : ByteArray := prog_14_method_47_code
def yX12_idle : MethodName := ⟨RX12, "idle", "(I)I"⟩
abbrev cX12_areAlike : ByteArray := prog_14_method_48_code
def yX12_areAlike : MethodName := ⟨RX12, "areAlike", "(II)Z"⟩
abbrev cX12_changesOf : ByteArray := prog_14_method_49_code
def yX12_changesOf : MethodName := ⟨RX12, "changesOf", "(III)I"⟩
abbrev cX12_distance : ByteArray := prog_14_method_50_code
def yX12_distance : MethodName := ⟨RX12, "distance", "(II)I"⟩
abbrev cX12_changes : ByteArray := prog_14_method_51_code
def yX12_changes : MethodName := ⟨RX12, "changes", "(III)I"⟩
abbrev cX12_hangs : ByteArray := prog_14_method_52_code
def yX12_hangs : MethodName := ⟨RX12, "hangs", "(I)I"⟩
abbrev cX12_pages : ByteArray := prog_14_method_53_code
def yX12_pages : MethodName := ⟨RX12, "pages", "(IIII)I"⟩
abbrev cX12_feed : ByteArray := prog_14_method_54_code
def yX12_feed : MethodName := ⟨RX12, "feed", "(II)I"⟩
abbrev cX12_look : ByteArray := prog_14_method_55_code
def yX12_look : MethodName := ⟨RX12, "look", "()I"⟩
abbrev cX12_takes0 : ByteArray := prog_14_method_56_code
def yX12_takes0 : MethodName := ⟨RX12, "takes0", "(I)Z"⟩
abbrev cX12_digits : ByteArray := prog_14_method_57_code
def yX12_digits : MethodName := ⟨RX12, "digits", "()Z"⟩
abbrev cX12_lay : ByteArray := prog_14_method_58_code
def yX12_lay : MethodName := ⟨RX12, "lay", "(II)V"⟩
abbrev cX12_opens : ByteArray := prog_14_method_59_code
def yX12_opens : MethodName := ⟨RX12, "opens", "()Z"⟩
abbrev cX12_factor : ByteArray := prog_14_method_60_code
def yX12_factor : MethodName := ⟨RX12, "factor", "()Z"⟩
abbrev cX12_both : ByteArray := prog_14_method_61_code
def yX12_both : MethodName := ⟨RX12, "both", "()Z"⟩
abbrev cX12_either : ByteArray := prog_14_method_62_code
def yX12_either : MethodName := ⟨RX12, "either", "()Z"⟩
abbrev cX12_share : ByteArray := prog_14_method_63_code
def yX12_share : MethodName := ⟨RX12, "share", "()Z"⟩
abbrev cX12_clause : ByteArray := prog_14_method_64_code
def yX12_clause : MethodName := ⟨RX12, "clause", "()Z"⟩
abbrev cX12_contract : ByteArray := prog_14_method_65_code
def yX12_contract : MethodName := ⟨RX12, "contract", "(II)I"⟩
abbrev cX12_contractOf : ByteArray := prog_14_method_66_code
def yX12_contractOf : MethodName := ⟨RX12, "contractOf", "(II)I"⟩
abbrev cX12_lawful : ByteArray := prog_14_method_67_code
def yX12_lawful : MethodName := ⟨RX12, "lawful", "(III)I"⟩
abbrev cX12_isAlive : ByteArray := prog_14_method_68_code
def yX12_isAlive : MethodName := ⟨RX12, "isAlive", "(II)Z"⟩
abbrev cX12_hasRight : ByteArray := prog_14_method_69_code
def yX12_hasRight : MethodName := ⟨RX12, "hasRight", "(III)Z"⟩
abbrev cX12_right : ByteArray := prog_14_method_70_code
def yX12_right : MethodName := ⟨RX12, "right", "(III)I"⟩
abbrev cX12_holdsFor : ByteArray := prog_14_method_71_code
def yX12_holdsFor : MethodName := ⟨RX12, "holdsFor", "(IZII)Z"⟩
abbrev cX12_gets : ByteArray := prog_14_method_72_code
def yX12_gets : MethodName := ⟨RX12, "gets", "(IIIZIIII)I"⟩
abbrev cX12_paid : ByteArray := prog_14_method_73_code
def yX12_paid : MethodName := ⟨RX12, "paid", "(IIIIIII)I"⟩
abbrev cX12_isTown : ByteArray := prog_14_method_74_code
def yX12_isTown : MethodName := ⟨RX12, "isTown", "(I)Z"⟩
abbrev cX12_set : ByteArray := prog_14_method_75_code
def yX12_set : MethodName := ⟨RX12, "set", "(I)I"⟩
abbrev cX12_stands : ByteArray := prog_14_method_76_code
def yX12_stands : MethodName := ⟨RX12, "stands", "(II)I"⟩
abbrev cX12_way : ByteArray := prog_14_method_77_code
def yX12_way : MethodName := ⟨RX12, "way", "(III)I"⟩
abbrev cX12_ask : ByteArray := prog_14_method_78_code
def yX12_ask : MethodName := ⟨RX12, "ask", "(IIII)I"⟩
abbrev cX12_askless : ByteArray := prog_14_method_79_code
def yX12_askless : MethodName := ⟨RX12, "askless", "()I"⟩
abbrev cX12_serves : ByteArray := prog_14_method_80_code
def yX12_serves : MethodName := ⟨RX12, "serves", "(II)Z"⟩
abbrev cX12_hire : ByteArray := prog_14_method_81_code
def yX12_hire : MethodName := ⟨RX12, "hire", "(II)I"⟩
abbrev cX12_month : ByteArray := prog_14_method_82_code
def yX12_month : MethodName := ⟨RX12, "month", "(I)I"⟩
abbrev cX12_costs : ByteArray := prog_14_method_83_code
def yX12_costs : MethodName := ⟨RX12, "costs", "(III)I"⟩
abbrev cX12_costOf : ByteArray := prog_14_method_84_code
def yX12_costOf : MethodName := ⟨RX12, "costOf", "(I)I"⟩
abbrev cX12_prints : ByteArray := prog_14_method_85_code
def yX12_prints : MethodName := ⟨RX12, "prints", "(I)I"⟩
abbrev cX12_proof : ByteArray := prog_14_method_86_code
def yX12_proof : MethodName := ⟨RX12, "proof", "(III)I"⟩
abbrev cX12_left : ByteArray := prog_14_method_87_code
def yX12_left : MethodName := ⟨RX12, "left", "(IIII)J"⟩
abbrev cX12_missed : ByteArray := prog_14_method_88_code
def yX12_missed : MethodName := ⟨RX12, "missed", "(II)I"⟩
abbrev cX12_ran : ByteArray := prog_14_method_89_code
def yX12_ran : MethodName := ⟨RX12, "ran", "(I)V"⟩
abbrev cX12_plainHolds : ByteArray := prog_14_method_90_code
def yX12_plainHolds : MethodName := ⟨RX12, "plainHolds", "(II)I"⟩
abbrev cX12_scoreHolds : ByteArray := prog_14_method_91_code
def yX12_scoreHolds : MethodName := ⟨RX12, "scoreHolds", "(II)I"⟩
abbrev cX12_holds : ByteArray := prog_14_method_92_code
def yX12_holds : MethodName := ⟨RX12, "holds", "(II)I"⟩
abbrev cX12_plainTurns : ByteArray := prog_14_method_93_code
def yX12_plainTurns : MethodName := ⟨RX12, "plainTurns", "(II)I"⟩
abbrev cX12_partTurns : ByteArray := prog_14_method_94_code
def yX12_partTurns : MethodName := ⟨RX12, "partTurns", "(II)I"⟩
abbrev cX12_turns : ByteArray := prog_14_method_95_code
def yX12_turns : MethodName := ⟨RX12, "turns", "(II)I"⟩
abbrev cX12_plainEarns : ByteArray := prog_14_method_96_code
def yX12_plainEarns : MethodName := ⟨RX12, "plainEarns", "(II)I"⟩
abbrev cX12_earns : ByteArray := prog_14_method_97_code
def yX12_earns : MethodName := ⟨RX12, "earns", "(II)I"⟩
abbrev cX12_act : ByteArray := prog_14_method_98_code
def yX12_act : MethodName := ⟨RX12, "act", "(III)I"⟩
abbrev cX12_trace : ByteArray := prog_14_method_99_code
def yX12_trace : MethodName := ⟨RX12, "trace", "(I)I"⟩
abbrev cX12_taken : ByteArray := prog_14_method_100_code
def yX12_taken : MethodName := ⟨RX12, "taken", "(II)I"⟩
abbrev cX12_count : ByteArray := prog_14_method_101_code
def yX12_count : MethodName := ⟨RX12, "count", "(I)I"⟩
abbrev cX12_isTape : ByteArray := prog_14_method_102_code
def yX12_isTape : MethodName := ⟨RX12, "isTape", "(I)Z"⟩
abbrev cX12_tape : ByteArray := prog_14_method_103_code
def yX12_tape : MethodName := ⟨RX12, "tape", "(III)I"⟩
abbrev cX12_item : ByteArray := prog_14_method_104_code
def yX12_item : MethodName := ⟨RX12, "item", "(III)I"⟩
abbrev cX12_read : ByteArray := prog_14_method_105_code
def yX12_read : MethodName := ⟨RX12, "read", "(II)J"⟩
abbrev cX12_shift : ByteArray := prog_14_method_106_code
def yX12_shift : MethodName := ⟨RX12, "shift", "(IIIII)I"⟩
def RJx145de : String := "java/io/Serializable"
def TJx145de : u_T := fun k => match k with
  | _ => ("", "", "", false)
def tyJx145de : Nat → FieldType := fun k => match k with
  | _ => .int
abbrev wsJx145de0 : List Cond := u_ws RJx145de TJx145de 0
theorem nmJx145de : ∀ a, a < 0 → ∀ b, b < 0 → a ≠ b → (TJx145de a).2.1 ≠ (TJx145de b).2.1 := by decide +kernel
theorem tyJx145de_ok : ∀ k, k < 0 → parseFieldDescriptor (TJx145de k).2.2.1 = some (tyJx145de k) := by decide +kernel
def RJx9f9b0 : String := "java/lang/CharSequence"
def TJx9f9b0 : u_T := fun k => match k with
  | _ => ("", "", "", false)
def tyJx9f9b0 : Nat → FieldType := fun k => match k with
  | _ => .int
abbrev wsJx9f9b00 : List Cond := u_ws RJx9f9b0 TJx9f9b0 0
theorem nmJx9f9b0 : ∀ a, a < 0 → ∀ b, b < 0 → a ≠ b → (TJx9f9b0 a).2.1 ≠ (TJx9f9b0 b).2.1 := by decide +kernel
theorem tyJx9f9b0_ok : ∀ k, k < 0 → parseFieldDescriptor (TJx9f9b0 k).2.2.1 = some (tyJx9f9b0 k) := by decide +kernel
def RJ11 : String := "java/lang/Character"
def TJ11 : u_T := fun k => match k with
  | _ => ("", "", "", false)
def tyJ11 : Nat → FieldType := fun k => match k with
  | _ => .int
abbrev wsJ110 : List Cond := u_ws RJ11 TJ11 0
theorem nmJ11 : ∀ a, a < 0 → ∀ b, b < 0 → a ≠ b → (TJ11 a).2.1 ≠ (TJ11 b).2.1 := by decide +kernel
theorem tyJ11_ok : ∀ k, k < 0 → parseFieldDescriptor (TJ11 k).2.2.1 = some (tyJ11 k) := by decide +kernel
abbrev cJ11_isValidCodePoint_9a6ad : ByteArray := prog_15_method_11_code
def yJ11_isValidCodePoint_9a6ad : MethodName := ⟨RJ11, "isValidCodePoint", "(I)Z"⟩
abbrev cJ11_highSurrogate_5068e : ByteArray := prog_15_method_28_code
def yJ11_highSurrogate_5068e : MethodName := ⟨RJ11, "highSurrogate", "(I)C"⟩
abbrev cJ11_lowSurrogate_5068e : ByteArray := prog_15_method_29_code
def yJ11_lowSurrogate_5068e : MethodName := ⟨RJ11, "lowSurrogate", "(I)C"⟩
def RJx8e188 : String := "java/lang/Cloneable"
def TJx8e188 : u_T := fun k => match k with
  | _ => ("", "", "", false)
def tyJx8e188 : Nat → FieldType := fun k => match k with
  | _ => .int
abbrev wsJx8e1880 : List Cond := u_ws RJx8e188 TJx8e188 0
theorem nmJx8e188 : ∀ a, a < 0 → ∀ b, b < 0 → a ≠ b → (TJx8e188 a).2.1 ≠ (TJx8e188 b).2.1 := by decide +kernel
theorem tyJx8e188_ok : ∀ k, k < 0 → parseFieldDescriptor (TJx8e188 k).2.2.1 = some (tyJx8e188 k) := by decide +kernel
def RJxb160c : String := "java/lang/Comparable"
def TJxb160c : u_T := fun k => match k with
  | _ => ("", "", "", false)
def tyJxb160c : Nat → FieldType := fun k => match k with
  | _ => .int
abbrev wsJxb160c0 : List Cond := u_ws RJxb160c TJxb160c 0
theorem nmJxb160c : ∀ a, a < 0 → ∀ b, b < 0 → a ≠ b → (TJxb160c a).2.1 ≠ (TJxb160c b).2.1 := by decide +kernel
theorem tyJxb160c_ok : ∀ k, k < 0 → parseFieldDescriptor (TJxb160c k).2.2.1 = some (tyJxb160c k) := by decide +kernel
def RJ6 : String := "java/lang/Integer"
def TJ6 : u_T := fun k => match k with
  | _ => ("", "", "", false)
def tyJ6 : Nat → FieldType := fun k => match k with
  | _ => .int
abbrev wsJ60 : List Cond := u_ws RJ6 TJ6 0
theorem nmJ6 : ∀ a, a < 0 → ∀ b, b < 0 → a ≠ b → (TJ6 a).2.1 ≠ (TJ6 b).2.1 := by decide +kernel
theorem tyJ6_ok : ∀ k, k < 0 → parseFieldDescriptor (TJ6 k).2.2.1 = some (tyJ6 k) := by decide +kernel
abbrev cJ6_numberOfTrailingZeros_0f7a4 : ByteArray := prog_17_method_48_code
def yJ6_numberOfTrailingZeros_0f7a4 : MethodName := ⟨RJ6, "numberOfTrailingZeros", "(I)I"⟩
abbrev cJ6_bitCount_0f7a4 : ByteArray := prog_17_method_49_code
def yJ6_bitCount_0f7a4 : MethodName := ⟨RJ6, "bitCount", "(I)I"⟩
def RJ9 : String := "java/lang/Math"
def TJ9 : u_T := fun k => match k with
  | _ => ("", "", "", false)
def tyJ9 : Nat → FieldType := fun k => match k with
  | _ => .int
abbrev wsJ90 : List Cond := u_ws RJ9 TJ9 0
theorem nmJ9 : ∀ a, a < 0 → ∀ b, b < 0 → a ≠ b → (TJ9 a).2.1 ≠ (TJ9 b).2.1 := by decide +kernel
theorem tyJ9_ok : ∀ k, k < 0 → parseFieldDescriptor (TJ9 k).2.2.1 = some (tyJ9 k) := by decide +kernel
abbrev cJ9_max_7cf53 : ByteArray := prog_18_method_65_code
def yJ9_max_7cf53 : MethodName := ⟨RJ9, "max", "(II)I"⟩
abbrev cJ9_min_7cf53 : ByteArray := prog_18_method_69_code
def yJ9_min_7cf53 : MethodName := ⟨RJ9, "min", "(II)I"⟩
def RJ0 : String := "java/lang/String"
def TJ0 : u_T := fun k => match k with
  | _ => ("", "", "", false)
def tyJ0 : Nat → FieldType := fun k => match k with
  | _ => .int
abbrev wsJ00 : List Cond := u_ws RJ0 TJ0 0
theorem nmJ0 : ∀ a, a < 0 → ∀ b, b < 0 → a ≠ b → (TJ0 a).2.1 ≠ (TJ0 b).2.1 := by decide +kernel
theorem tyJ0_ok : ∀ k, k < 0 → parseFieldDescriptor (TJ0 k).2.2.1 = some (tyJ0 k) := by decide +kernel
abbrev cJ0_length_8abf5 : ByteArray := prog_19_method_54_code
def yJ0_length_8abf5 : MethodName := ⟨RJ0, "length", "()I"⟩
abbrev cJ0_charAt_5068e : ByteArray := prog_19_method_56_code
def yJ0_charAt_5068e : MethodName := ⟨RJ0, "charAt", "(I)C"⟩
abbrev cJ0_indexOf_0f7a4 : ByteArray := prog_19_method_79_code
def yJ0_indexOf_0f7a4 : MethodName := ⟨RJ0, "indexOf", "(I)I"⟩
abbrev cJ0_indexOf_7cf53 : ByteArray := prog_19_method_80_code
def yJ0_indexOf_7cf53 : MethodName := ⟨RJ0, "indexOf", "(II)I"⟩
abbrev cJ0_coder_7d493 : ByteArray := prog_19_method_152_code
def yJ0_coder_7d493 : MethodName := ⟨RJ0, "coder", "()B"⟩
abbrev cJ0_isLatin1_aae02 : ByteArray := prog_19_method_154_code
def yJ0_isLatin1_aae02 : MethodName := ⟨RJ0, "isLatin1", "()Z"⟩
abbrev cJ0_checkIndex_df160 : ByteArray := prog_19_method_155_code
def yJ0_checkIndex_df160 : MethodName := ⟨RJ0, "checkIndex", "(II)V"⟩
abbrev cJ0_checkBoundsBeginEnd_23922 : ByteArray := prog_19_method_158_code
def yJ0_checkBoundsBeginEnd_23922 : MethodName := ⟨RJ0, "checkBoundsBeginEnd", "(III)V"⟩
def RJ1 : String := "java/lang/StringLatin1"
def TJ1 : u_T := fun k => match k with
  | _ => ("", "", "", false)
def tyJ1 : Nat → FieldType := fun k => match k with
  | _ => .int
abbrev wsJ10 : List Cond := u_ws RJ1 TJ1 0
theorem nmJ1 : ∀ a, a < 0 → ∀ b, b < 0 → a ≠ b → (TJ1 a).2.1 ≠ (TJ1 b).2.1 := by decide +kernel
theorem tyJ1_ok : ∀ k, k < 0 → parseFieldDescriptor (TJ1 k).2.2.1 = some (tyJ1 k) := by decide +kernel
abbrev cJ1_charAt_3b067 : ByteArray := prog_20_method_2_code
def yJ1_charAt_3b067 : MethodName := ⟨RJ1, "charAt", "([BI)C"⟩
abbrev cJ1_canEncode_9a6ad : ByteArray := prog_20_method_4_code
def yJ1_canEncode_9a6ad : MethodName := ⟨RJ1, "canEncode", "(I)Z"⟩
abbrev cJ1_indexOf_4cfef : ByteArray := prog_20_method_22_code
def yJ1_indexOf_4cfef : MethodName := ⟨RJ1, "indexOf", "([BIII)I"⟩
abbrev cJ1_indexOfChar_4cfef : ByteArray := prog_20_method_23_code
def yJ1_indexOfChar_4cfef : MethodName := ⟨RJ1, "indexOfChar", "([BIII)I"⟩
def RJ2 : String := "java/lang/StringUTF16"
def TJ2 : u_T := fun k => match k with
  | _ => ("", "", "", false)
def tyJ2 : Nat → FieldType := fun k => match k with
  | _ => .int
abbrev wsJ20 : List Cond := u_ws RJ2 TJ2 0
theorem nmJ2 : ∀ a, a < 0 → ∀ b, b < 0 → a ≠ b → (TJ2 a).2.1 ≠ (TJ2 b).2.1 := by decide +kernel
theorem tyJ2_ok : ∀ k, k < 0 → parseFieldDescriptor (TJ2 k).2.2.1 = some (tyJ2 k) := by decide +kernel
abbrev cJ2_getChar_3b067 : ByteArray := prog_21_method_5_code
def yJ2_getChar_3b067 : MethodName := ⟨RJ2, "getChar", "([BI)C"⟩
abbrev cJ2_length_9d52b : ByteArray := prog_21_method_6_code
def yJ2_length_9d52b : MethodName := ⟨RJ2, "length", "([B)I"⟩
abbrev cJ2_indexOf_4cfef : ByteArray := prog_21_method_40_code
def yJ2_indexOf_4cfef : MethodName := ⟨RJ2, "indexOf", "([BIII)I"⟩
abbrev cJ2_indexOfChar_4cfef : ByteArray := prog_21_method_47_code
def yJ2_indexOfChar_4cfef : MethodName := ⟨RJ2, "indexOfChar", "([BIII)I"⟩
abbrev cJ2_indexOfCharUnsafe_4cfef : ByteArray := prog_21_method_48_code
def yJ2_indexOfCharUnsafe_4cfef : MethodName := ⟨RJ2, "indexOfCharUnsafe", "([BIII)I"⟩
abbrev cJ2_indexOfSupplementary_4cfef : ByteArray := prog_21_method_49_code
def yJ2_indexOfSupplementary_4cfef : MethodName := ⟨RJ2, "indexOfSupplementary", "([BIII)I"⟩
abbrev cJ2_charAt_3b067 : ByteArray := prog_21_method_83_code
def yJ2_charAt_3b067 : MethodName := ⟨RJ2, "charAt", "([BI)C"⟩
abbrev cJ2_checkIndex_2214a : ByteArray := prog_21_method_91_code
def yJ2_checkIndex_2214a : MethodName := ⟨RJ2, "checkIndex", "(I[B)V"⟩
abbrev cJ2_checkBoundsBeginEnd_d044e : ByteArray := prog_21_method_93_code
def yJ2_checkBoundsBeginEnd_d044e : MethodName := ⟨RJ2, "checkBoundsBeginEnd", "(II[B)V"⟩
def RJ10 : String := "java/lang/System"
def TJ10 : u_T := fun k => match k with
  | _ => ("", "", "", false)
def tyJ10 : Nat → FieldType := fun k => match k with
  | _ => .int
abbrev wsJ100 : List Cond := u_ws RJ10 TJ10 0
theorem nmJ10 : ∀ a, a < 0 → ∀ b, b < 0 → a ≠ b → (TJ10 a).2.1 ≠ (TJ10 b).2.1 := by decide +kernel
theorem tyJ10_ok : ∀ k, k < 0 → parseFieldDescriptor (TJ10 k).2.2.1 = some (tyJ10 k) := by decide +kernel
def RJxfd54e : String := "java/lang/constant/Constable"
def TJxfd54e : u_T := fun k => match k with
  | _ => ("", "", "", false)
def tyJxfd54e : Nat → FieldType := fun k => match k with
  | _ => .int
abbrev wsJxfd54e0 : List Cond := u_ws RJxfd54e TJxfd54e 0
theorem nmJxfd54e : ∀ a, a < 0 → ∀ b, b < 0 → a ≠ b → (TJxfd54e a).2.1 ≠ (TJxfd54e b).2.1 := by decide +kernel
theorem tyJxfd54e_ok : ∀ k, k < 0 → parseFieldDescriptor (TJxfd54e k).2.2.1 = some (tyJxfd54e k) := by decide +kernel
def RJx3cf43 : String := "java/lang/constant/ConstantDesc"
def TJx3cf43 : u_T := fun k => match k with
  | _ => ("", "", "", false)
def tyJx3cf43 : Nat → FieldType := fun k => match k with
  | _ => .int
abbrev wsJx3cf430 : List Cond := u_ws RJx3cf43 TJx3cf43 0
theorem nmJx3cf43 : ∀ a, a < 0 → ∀ b, b < 0 → a ≠ b → (TJx3cf43 a).2.1 ≠ (TJx3cf43 b).2.1 := by decide +kernel
theorem tyJx3cf43_ok : ∀ k, k < 0 → parseFieldDescriptor (TJx3cf43 k).2.2.1 = some (tyJx3cf43 k) := by decide +kernel
def RJ7 : String := "java/util/Arrays"
def TJ7 : u_T := fun k => match k with
  | _ => ("", "", "", false)
def tyJ7 : Nat → FieldType := fun k => match k with
  | _ => .int
abbrev wsJ70 : List Cond := u_ws RJ7 TJ7 0
theorem nmJ7 : ∀ a, a < 0 → ∀ b, b < 0 → a ≠ b → (TJ7 a).2.1 ≠ (TJ7 b).2.1 := by decide +kernel
theorem tyJ7_ok : ∀ k, k < 0 → parseFieldDescriptor (TJ7 k).2.2.1 = some (tyJ7 k) := by decide +kernel
abbrev cJ7_fill_53178 : ByteArray := prog_23_method_103_code
def yJ7_fill_53178 : MethodName := ⟨RJ7, "fill", "([II)V"⟩
abbrev cJ7_copyOf_59c91 : ByteArray := prog_23_method_123_code
def yJ7_copyOf_59c91 : MethodName := ⟨RJ7, "copyOf", "([II)[I"⟩
def RJ3 : String := "jdk/internal/util/Preconditions"
def TJ3 : u_T := fun k => match k with
  | _ => ("", "", "", false)
def tyJ3 : Nat → FieldType := fun k => match k with
  | _ => .int
abbrev wsJ30 : List Cond := u_ws RJ3 TJ3 0
theorem nmJ3 : ∀ a, a < 0 → ∀ b, b < 0 → a ≠ b → (TJ3 a).2.1 ≠ (TJ3 b).2.1 := by decide +kernel
theorem tyJ3_ok : ∀ k, k < 0 → parseFieldDescriptor (TJ3 k).2.2.1 = some (tyJ3 k) := by decide +kernel
abbrev cJ3_checkIndex_8e157 : ByteArray := prog_24_method_11_code
def yJ3_checkIndex_8e157 : MethodName := ⟨RJ3, "checkIndex", "(IILjava/util/function/BiFunction;)I"⟩
abbrev cJ3_checkFromToIndex_8c36e : ByteArray := prog_24_method_12_code
def yJ3_checkFromToIndex_8c36e : MethodName := ⟨RJ3, "checkFromToIndex", "(IIILjava/util/function/BiFunction;)I"⟩
def RL : String := "EngraversHouseLaw"
abbrev cL_law : ByteArray := code
def yL_law : MethodName := ⟨RL, "law", "([I)Z"⟩
abbrev vwCl : List vw_C := [(RX0, TX0, 3), (RX1, TX1, 13), (RX2, TX2, 12), (RX3, TX3, 6), (RX4, TX4, 6), (RX5, TX5, 7), (RX6, TX6, 6), (RX7, TX7, 8), (RX8, TX8, 8), (RX10, TX10, 10), (RX11, TX11, 20), (RX12, TX12, 82)]
