section
-- ===== PART A: goes FIRST, ahead of the names: the tables' words, and 'selects' of the private methods out of them =====
/-- a private method of a class that the tables say can be made, by its rows of tables_1 -/
def lw_okq (q : MethodName × Nat) : Prop := (q.1.cls ≠ "java/lang/invoke/MethodHandle" ∧ q.1.cls ≠ "java/lang/invoke/VarHandle") ∧ Cond.instantiable q.1.cls q.2 ∈ tables_1 ∧ Cond.privateMethod q.1 ∈ tables_1 ∧ Cond.instanceMethod q.1 ∈ tables_1
theorem lw_p0 : lw_okq (⟨"EngraversHouse", "isAuthor", "(I)Z"⟩, 20) := ⟨⟨by decide +kernel, by decide +kernel⟩, List.mem_of_getElem? (i := 24) (by decide +kernel), List.mem_of_getElem? (i := 223) (by decide +kernel), List.mem_of_getElem? (i := 224) (by decide +kernel)⟩
theorem lw_p1 : lw_okq (⟨"EngraversHouse", "keep", "(LEngraversHouse$Thing;)I"⟩, 20) := ⟨⟨by decide +kernel, by decide +kernel⟩, List.mem_of_getElem? (i := 24) (by decide +kernel), List.mem_of_getElem? (i := 287) (by decide +kernel), List.mem_of_getElem? (i := 288) (by decide +kernel)⟩
theorem lw_p2 : lw_okq (⟨"EngraversHouse", "thingAt", "(I)LEngraversHouse$Thing;"⟩, 20) := ⟨⟨by decide +kernel, by decide +kernel⟩, List.mem_of_getElem? (i := 24) (by decide +kernel), List.mem_of_getElem? (i := 295) (by decide +kernel), List.mem_of_getElem? (i := 296) (by decide +kernel)⟩
theorem lw_p3 : lw_okq (⟨"EngraversHouse", "scoreAt", "(I)LEngraversHouse$Score;"⟩, 20) := ⟨⟨by decide +kernel, by decide +kernel⟩, List.mem_of_getElem? (i := 24) (by decide +kernel), List.mem_of_getElem? (i := 299) (by decide +kernel), List.mem_of_getElem? (i := 300) (by decide +kernel)⟩
theorem lw_p4 : lw_okq (⟨"EngraversHouse", "lacking", "(I)I"⟩, 20) := ⟨⟨by decide +kernel, by decide +kernel⟩, List.mem_of_getElem? (i := 24) (by decide +kernel), List.mem_of_getElem? (i := 311) (by decide +kernel), List.mem_of_getElem? (i := 312) (by decide +kernel)⟩
theorem lw_p5 : lw_okq (⟨"EngraversHouse$Score", "openBar", "(I)LEngraversHouse$Bar;"⟩, 8) := ⟨⟨by decide +kernel, by decide +kernel⟩, List.mem_of_getElem? (i := 234) (by decide +kernel), List.mem_of_getElem? (i := 330) (by decide +kernel), List.mem_of_getElem? (i := 331) (by decide +kernel)⟩
theorem lw_p6 : lw_okq (⟨"EngraversHouse$Score", "begunBar", "(II)LEngraversHouse$Bar;"⟩, 8) := ⟨⟨by decide +kernel, by decide +kernel⟩, List.mem_of_getElem? (i := 234) (by decide +kernel), List.mem_of_getElem? (i := 334) (by decide +kernel), List.mem_of_getElem? (i := 335) (by decide +kernel)⟩
theorem lw_p7 : lw_okq (⟨"EngraversHouse", "takeFromTape", "(LEngraversHouse$Score;IIJ)I"⟩, 20) := ⟨⟨by decide +kernel, by decide +kernel⟩, List.mem_of_getElem? (i := 24) (by decide +kernel), List.mem_of_getElem? (i := 403) (by decide +kernel), List.mem_of_getElem? (i := 404) (by decide +kernel)⟩
theorem lw_p8 : lw_okq (⟨"EngraversHouse", "hasStretch", "(IJJ)Z"⟩, 20) := ⟨⟨by decide +kernel, by decide +kernel⟩, List.mem_of_getElem? (i := 24) (by decide +kernel), List.mem_of_getElem? (i := 407) (by decide +kernel), List.mem_of_getElem? (i := 408) (by decide +kernel)⟩
theorem lw_p9 : lw_okq (⟨"EngraversHouse", "partAt", "(I)LEngraversHouse$Part;"⟩, 20) := ⟨⟨by decide +kernel, by decide +kernel⟩, List.mem_of_getElem? (i := 24) (by decide +kernel), List.mem_of_getElem? (i := 528) (by decide +kernel), List.mem_of_getElem? (i := 529) (by decide +kernel)⟩
theorem lw_p10 : lw_okq (⟨"EngraversHouse", "plateAt", "(I)LEngraversHouse$Plate;"⟩, 20) := ⟨⟨by decide +kernel, by decide +kernel⟩, List.mem_of_getElem? (i := 24) (by decide +kernel), List.mem_of_getElem? (i := 610) (by decide +kernel), List.mem_of_getElem? (i := 611) (by decide +kernel)⟩
theorem lw_p11 : lw_okq (⟨"EngraversHouse", "editionAt", "(I)LEngraversHouse$Edition;"⟩, 20) := ⟨⟨by decide +kernel, by decide +kernel⟩, List.mem_of_getElem? (i := 24) (by decide +kernel), List.mem_of_getElem? (i := 707) (by decide +kernel), List.mem_of_getElem? (i := 708) (by decide +kernel)⟩
theorem lw_p12 : lw_okq (⟨"EngraversHouse", "amendedNote", "(LEngraversHouse$Edition;IIII)I"⟩, 20) := ⟨⟨by decide +kernel, by decide +kernel⟩, List.mem_of_getElem? (i := 24) (by decide +kernel), List.mem_of_getElem? (i := 715) (by decide +kernel), List.mem_of_getElem? (i := 716) (by decide +kernel)⟩
theorem lw_p13 : lw_okq (⟨"EngraversHouse", "erratumAt", "(I)LEngraversHouse$Erratum;"⟩, 20) := ⟨⟨by decide +kernel, by decide +kernel⟩, List.mem_of_getElem? (i := 24) (by decide +kernel), List.mem_of_getElem? (i := 722) (by decide +kernel), List.mem_of_getElem? (i := 723) (by decide +kernel)⟩
theorem lw_p14 : lw_okq (⟨"EngraversHouse$Edition", "fillRow", "(LEngraversHouse$Bar;LEngraversHouse$Edition;I)V"⟩, 12) := ⟨⟨by decide +kernel, by decide +kernel⟩, List.mem_of_getElem? (i := 648) (by decide +kernel), List.mem_of_getElem? (i := 778) (by decide +kernel), List.mem_of_getElem? (i := 779) (by decide +kernel)⟩
theorem lw_p15 : lw_okq (⟨"EngraversHouse", "growTree", "(LEngraversHouse$Score;)V"⟩, 20) := ⟨⟨by decide +kernel, by decide +kernel⟩, List.mem_of_getElem? (i := 24) (by decide +kernel), List.mem_of_getElem? (i := 789) (by decide +kernel), List.mem_of_getElem? (i := 790) (by decide +kernel)⟩
def lw_privs_1 : List (MethodName × Nat) := [(⟨"EngraversHouse", "isAuthor", "(I)Z"⟩, 20), (⟨"EngraversHouse", "keep", "(LEngraversHouse$Thing;)I"⟩, 20), (⟨"EngraversHouse", "thingAt", "(I)LEngraversHouse$Thing;"⟩, 20), (⟨"EngraversHouse", "scoreAt", "(I)LEngraversHouse$Score;"⟩, 20), (⟨"EngraversHouse", "lacking", "(I)I"⟩, 20), (⟨"EngraversHouse$Score", "openBar", "(I)LEngraversHouse$Bar;"⟩, 8), (⟨"EngraversHouse$Score", "begunBar", "(II)LEngraversHouse$Bar;"⟩, 8), (⟨"EngraversHouse", "takeFromTape", "(LEngraversHouse$Score;IIJ)I"⟩, 20), (⟨"EngraversHouse", "hasStretch", "(IJJ)Z"⟩, 20), (⟨"EngraversHouse", "partAt", "(I)LEngraversHouse$Part;"⟩, 20), (⟨"EngraversHouse", "plateAt", "(I)LEngraversHouse$Plate;"⟩, 20), (⟨"EngraversHouse", "editionAt", "(I)LEngraversHouse$Edition;"⟩, 20), (⟨"EngraversHouse", "amendedNote", "(LEngraversHouse$Edition;IIII)I"⟩, 20), (⟨"EngraversHouse", "erratumAt", "(I)LEngraversHouse$Erratum;"⟩, 20), (⟨"EngraversHouse$Edition", "fillRow", "(LEngraversHouse$Bar;LEngraversHouse$Edition;I)V"⟩, 12), (⟨"EngraversHouse", "growTree", "(LEngraversHouse$Score;)V"⟩, 20)]
theorem lw_r1 : ∀ q ∈ lw_privs_1, lw_okq q := List.forall_mem_cons.mpr ⟨lw_p0, List.forall_mem_cons.mpr ⟨lw_p1, List.forall_mem_cons.mpr ⟨lw_p2, List.forall_mem_cons.mpr ⟨lw_p3, List.forall_mem_cons.mpr ⟨lw_p4, List.forall_mem_cons.mpr ⟨lw_p5, List.forall_mem_cons.mpr ⟨lw_p6, List.forall_mem_cons.mpr ⟨lw_p7, List.forall_mem_cons.mpr ⟨lw_p8, List.forall_mem_cons.mpr ⟨lw_p9, List.forall_mem_cons.mpr ⟨lw_p10, List.forall_mem_cons.mpr ⟨lw_p11, List.forall_mem_cons.mpr ⟨lw_p12, List.forall_mem_cons.mpr ⟨lw_p13, List.forall_mem_cons.mpr ⟨lw_p14, List.forall_mem_cons.mpr ⟨lw_p15, fun _ h => absurd h List.not_mem_nil⟩⟩⟩⟩⟩⟩⟩⟩⟩⟩⟩⟩⟩⟩⟩⟩
theorem lw_p16 : lw_okq (⟨"EngraversHouse", "nearestToTree", "(LEngraversHouse$Score;)LEngraversHouse$Edition;"⟩, 20) := ⟨⟨by decide +kernel, by decide +kernel⟩, List.mem_of_getElem? (i := 24) (by decide +kernel), List.mem_of_getElem? (i := 798) (by decide +kernel), List.mem_of_getElem? (i := 799) (by decide +kernel)⟩
theorem lw_p17 : lw_okq (⟨"EngraversHouse$Layout", "fillLine", "(IIII)V"⟩, 6) := ⟨⟨by decide +kernel, by decide +kernel⟩, List.mem_of_getElem? (i := 36) (by decide +kernel), List.mem_of_getElem? (i := 829) (by decide +kernel), List.mem_of_getElem? (i := 830) (by decide +kernel)⟩
theorem lw_p18 : lw_okq (⟨"EngraversHouse$Contract", "readClause", "(II)V"⟩, 13) := ⟨⟨by decide +kernel, by decide +kernel⟩, List.mem_of_getElem? (i := 858) (by decide +kernel), List.mem_of_getElem? (i := 928) (by decide +kernel), List.mem_of_getElem? (i := 929) (by decide +kernel)⟩
theorem lw_p19 : lw_okq (⟨"EngraversHouse$Contract", "sees", "(C)Z"⟩, 13) := ⟨⟨by decide +kernel, by decide +kernel⟩, List.mem_of_getElem? (i := 858) (by decide +kernel), List.mem_of_getElem? (i := 932) (by decide +kernel), List.mem_of_getElem? (i := 933) (by decide +kernel)⟩
theorem lw_p20 : lw_okq (⟨"EngraversHouse$Contract", "readTerm", "()V"⟩, 13) := ⟨⟨by decide +kernel, by decide +kernel⟩, List.mem_of_getElem? (i := 858) (by decide +kernel), List.mem_of_getElem? (i := 936) (by decide +kernel), List.mem_of_getElem? (i := 937) (by decide +kernel)⟩
theorem lw_p21 : lw_okq (⟨"EngraversHouse$Contract", "skip", "(Ljava/lang/String;)V"⟩, 13) := ⟨⟨by decide +kernel, by decide +kernel⟩, List.mem_of_getElem? (i := 858) (by decide +kernel), List.mem_of_getElem? (i := 941) (by decide +kernel), List.mem_of_getElem? (i := 942) (by decide +kernel)⟩
theorem lw_p22 : lw_okq (⟨"EngraversHouse$Contract", "pick", "(Ljava/lang/String;)I"⟩, 13) := ⟨⟨by decide +kernel, by decide +kernel⟩, List.mem_of_getElem? (i := 858) (by decide +kernel), List.mem_of_getElem? (i := 994) (by decide +kernel), List.mem_of_getElem? (i := 995) (by decide +kernel)⟩
theorem lw_p23 : lw_okq (⟨"EngraversHouse$Contract", "readNumber", "()I"⟩, 13) := ⟨⟨by decide +kernel, by decide +kernel⟩, List.mem_of_getElem? (i := 858) (by decide +kernel), List.mem_of_getElem? (i := 1055) (by decide +kernel), List.mem_of_getElem? (i := 1056) (by decide +kernel)⟩
theorem lw_p24 : lw_okq (⟨"EngraversHouse$Contract", "condition", "(I)Z"⟩, 13) := ⟨⟨by decide +kernel, by decide +kernel⟩, List.mem_of_getElem? (i := 858) (by decide +kernel), List.mem_of_getElem? (i := 1064) (by decide +kernel), List.mem_of_getElem? (i := 1065) (by decide +kernel)⟩
theorem lw_p25 : lw_okq (⟨"EngraversHouse$Contract", "single", "(I)Z"⟩, 13) := ⟨⟨by decide +kernel, by decide +kernel⟩, List.mem_of_getElem? (i := 858) (by decide +kernel), List.mem_of_getElem? (i := 1068) (by decide +kernel), List.mem_of_getElem? (i := 1069) (by decide +kernel)⟩
theorem lw_p26 : lw_okq (⟨"EngraversHouse$Contract", "nested", "(ZI)Z"⟩, 13) := ⟨⟨by decide +kernel, by decide +kernel⟩, List.mem_of_getElem? (i := 858) (by decide +kernel), List.mem_of_getElem? (i := 1073) (by decide +kernel), List.mem_of_getElem? (i := 1074) (by decide +kernel)⟩
theorem lw_p27 : lw_okq (⟨"EngraversHouse", "contractNumber", "(II)I"⟩, 20) := ⟨⟨by decide +kernel, by decide +kernel⟩, List.mem_of_getElem? (i := 24) (by decide +kernel), List.mem_of_getElem? (i := 1084) (by decide +kernel), List.mem_of_getElem? (i := 1085) (by decide +kernel)⟩
theorem lw_p28 : lw_okq (⟨"EngraversHouse", "contractAt", "(I)LEngraversHouse$Contract;"⟩, 20) := ⟨⟨by decide +kernel, by decide +kernel⟩, List.mem_of_getElem? (i := 24) (by decide +kernel), List.mem_of_getElem? (i := 1088) (by decide +kernel), List.mem_of_getElem? (i := 1089) (by decide +kernel)⟩
theorem lw_p29 : lw_okq (⟨"EngraversHouse", "hasRight", "(ILEngraversHouse$Contract;I)Z"⟩, 20) := ⟨⟨by decide +kernel, by decide +kernel⟩, List.mem_of_getElem? (i := 24) (by decide +kernel), List.mem_of_getElem? (i := 1099) (by decide +kernel), List.mem_of_getElem? (i := 1100) (by decide +kernel)⟩
theorem lw_p30 : lw_okq (⟨"EngraversHouse", "daysSinceDeath", "(II)I"⟩, 20) := ⟨⟨by decide +kernel, by decide +kernel⟩, List.mem_of_getElem? (i := 24) (by decide +kernel), List.mem_of_getElem? (i := 1103) (by decide +kernel), List.mem_of_getElem? (i := 1104) (by decide +kernel)⟩
theorem lw_p31 : lw_okq (⟨"EngraversHouse", "wholeYearsSince", "(II)I"⟩, 20) := ⟨⟨by decide +kernel, by decide +kernel⟩, List.mem_of_getElem? (i := 24) (by decide +kernel), List.mem_of_getElem? (i := 1112) (by decide +kernel), List.mem_of_getElem? (i := 1113) (by decide +kernel)⟩
def lw_privs_2 : List (MethodName × Nat) := [(⟨"EngraversHouse", "nearestToTree", "(LEngraversHouse$Score;)LEngraversHouse$Edition;"⟩, 20), (⟨"EngraversHouse$Layout", "fillLine", "(IIII)V"⟩, 6), (⟨"EngraversHouse$Contract", "readClause", "(II)V"⟩, 13), (⟨"EngraversHouse$Contract", "sees", "(C)Z"⟩, 13), (⟨"EngraversHouse$Contract", "readTerm", "()V"⟩, 13), (⟨"EngraversHouse$Contract", "skip", "(Ljava/lang/String;)V"⟩, 13), (⟨"EngraversHouse$Contract", "pick", "(Ljava/lang/String;)I"⟩, 13), (⟨"EngraversHouse$Contract", "readNumber", "()I"⟩, 13), (⟨"EngraversHouse$Contract", "condition", "(I)Z"⟩, 13), (⟨"EngraversHouse$Contract", "single", "(I)Z"⟩, 13), (⟨"EngraversHouse$Contract", "nested", "(ZI)Z"⟩, 13), (⟨"EngraversHouse", "contractNumber", "(II)I"⟩, 20), (⟨"EngraversHouse", "contractAt", "(I)LEngraversHouse$Contract;"⟩, 20), (⟨"EngraversHouse", "hasRight", "(ILEngraversHouse$Contract;I)Z"⟩, 20), (⟨"EngraversHouse", "daysSinceDeath", "(II)I"⟩, 20), (⟨"EngraversHouse", "wholeYearsSince", "(II)I"⟩, 20)]
theorem lw_r2 : ∀ q ∈ lw_privs_2, lw_okq q := List.forall_mem_cons.mpr ⟨lw_p16, List.forall_mem_cons.mpr ⟨lw_p17, List.forall_mem_cons.mpr ⟨lw_p18, List.forall_mem_cons.mpr ⟨lw_p19, List.forall_mem_cons.mpr ⟨lw_p20, List.forall_mem_cons.mpr ⟨lw_p21, List.forall_mem_cons.mpr ⟨lw_p22, List.forall_mem_cons.mpr ⟨lw_p23, List.forall_mem_cons.mpr ⟨lw_p24, List.forall_mem_cons.mpr ⟨lw_p25, List.forall_mem_cons.mpr ⟨lw_p26, List.forall_mem_cons.mpr ⟨lw_p27, List.forall_mem_cons.mpr ⟨lw_p28, List.forall_mem_cons.mpr ⟨lw_p29, List.forall_mem_cons.mpr ⟨lw_p30, List.forall_mem_cons.mpr ⟨lw_p31, fun _ h => absurd h List.not_mem_nil⟩⟩⟩⟩⟩⟩⟩⟩⟩⟩⟩⟩⟩⟩⟩⟩
theorem lw_p32 : lw_okq (⟨"EngraversHouse", "setAt", "(I)LEngraversHouse$Part;"⟩, 20) := ⟨⟨by decide +kernel, by decide +kernel⟩, List.mem_of_getElem? (i := 24) (by decide +kernel), List.mem_of_getElem? (i := 1140) (by decide +kernel), List.mem_of_getElem? (i := 1141) (by decide +kernel)⟩
theorem lw_p33 : lw_okq (⟨"EngraversHouse$Tour", "wayBetween", "(II)I"⟩, 10) := ⟨⟨by decide +kernel, by decide +kernel⟩, List.mem_of_getElem? (i := 65) (by decide +kernel), List.mem_of_getElem? (i := 1152) (by decide +kernel), List.mem_of_getElem? (i := 1153) (by decide +kernel)⟩
theorem lw_p34 : lw_okq (⟨"EngraversHouse$Tour", "bestBehind", "(III)I"⟩, 10) := ⟨⟨by decide +kernel, by decide +kernel⟩, List.mem_of_getElem? (i := 65) (by decide +kernel), List.mem_of_getElem? (i := 1177) (by decide +kernel), List.mem_of_getElem? (i := 1178) (by decide +kernel)⟩
theorem lw_p35 : lw_okq (⟨"EngraversHouse$Tour", "isBetter", "(II)Z"⟩, 10) := ⟨⟨by decide +kernel, by decide +kernel⟩, List.mem_of_getElem? (i := 65) (by decide +kernel), List.mem_of_getElem? (i := 1181) (by decide +kernel), List.mem_of_getElem? (i := 1182) (by decide +kernel)⟩
theorem lw_p36 : lw_okq (⟨"EngraversHouse$PrintPlan", "printAt", "(I)V"⟩, 8) := ⟨⟨by decide +kernel, by decide +kernel⟩, List.mem_of_getElem? (i := 106) (by decide +kernel), List.mem_of_getElem? (i := 1216) (by decide +kernel), List.mem_of_getElem? (i := 1217) (by decide +kernel)⟩
theorem lw_p37 : lw_okq (⟨"EngraversHouse$PrintPlan", "isBetter", "(IIII)Z"⟩, 8) := ⟨⟨by decide +kernel, by decide +kernel⟩, List.mem_of_getElem? (i := 106) (by decide +kernel), List.mem_of_getElem? (i := 1220) (by decide +kernel), List.mem_of_getElem? (i := 1221) (by decide +kernel)⟩
theorem lw_p38 : lw_okq (⟨"EngraversHouse", "runBody", "(LEngraversHouse$Thing;IIII)I"⟩, 20) := ⟨⟨by decide +kernel, by decide +kernel⟩, List.mem_of_getElem? (i := 24) (by decide +kernel), List.mem_of_getElem? (i := 1247) (by decide +kernel), List.mem_of_getElem? (i := 1248) (by decide +kernel)⟩
theorem lw_p39 : lw_okq (⟨"EngraversHouse", "answerOf", "(ILEngraversHouse$Thing;III)I"⟩, 20) := ⟨⟨by decide +kernel, by decide +kernel⟩, List.mem_of_getElem? (i := 24) (by decide +kernel), List.mem_of_getElem? (i := 1261) (by decide +kernel), List.mem_of_getElem? (i := 1262) (by decide +kernel)⟩
theorem lw_p40 : lw_okq (⟨"EngraversHouseModel", "isAuthor", "(I)Z"⟩, 82) := ⟨⟨by decide +kernel, by decide +kernel⟩, List.mem_of_getElem? (i := 1300) (by decide +kernel), List.mem_of_getElem? (i := 1568) (by decide +kernel), List.mem_of_getElem? (i := 1569) (by decide +kernel)⟩
theorem lw_p41 : lw_okq (⟨"EngraversHouseModel", "add", "(IIII)I"⟩, 82) := ⟨⟨by decide +kernel, by decide +kernel⟩, List.mem_of_getElem? (i := 1300) (by decide +kernel), List.mem_of_getElem? (i := 1579) (by decide +kernel), List.mem_of_getElem? (i := 1580) (by decide +kernel)⟩
theorem lw_p42 : lw_okq (⟨"EngraversHouseModel", "isThing", "(I)Z"⟩, 82) := ⟨⟨by decide +kernel, by decide +kernel⟩, List.mem_of_getElem? (i := 1300) (by decide +kernel), List.mem_of_getElem? (i := 1587) (by decide +kernel), List.mem_of_getElem? (i := 1588) (by decide +kernel)⟩
theorem lw_p43 : lw_okq (⟨"EngraversHouseModel", "isMusic", "(I)Z"⟩, 82) := ⟨⟨by decide +kernel, by decide +kernel⟩, List.mem_of_getElem? (i := 1300) (by decide +kernel), List.mem_of_getElem? (i := 1591) (by decide +kernel), List.mem_of_getElem? (i := 1592) (by decide +kernel)⟩
theorem lw_p44 : lw_okq (⟨"EngraversHouseModel", "put", "(IIIII)I"⟩, 82) := ⟨⟨by decide +kernel, by decide +kernel⟩, List.mem_of_getElem? (i := 1300) (by decide +kernel), List.mem_of_getElem? (i := 1602) (by decide +kernel), List.mem_of_getElem? (i := 1603) (by decide +kernel)⟩
theorem lw_p45 : lw_okq (⟨"EngraversHouseModel", "whole", "(II)I"⟩, 82) := ⟨⟨by decide +kernel, by decide +kernel⟩, List.mem_of_getElem? (i := 1300) (by decide +kernel), List.mem_of_getElem? (i := 1606) (by decide +kernel), List.mem_of_getElem? (i := 1607) (by decide +kernel)⟩
theorem lw_p46 : lw_okq (⟨"EngraversHouseModel", "barAt", "(III)I"⟩, 82) := ⟨⟨by decide +kernel, by decide +kernel⟩, List.mem_of_getElem? (i := 1300) (by decide +kernel), List.mem_of_getElem? (i := 1610) (by decide +kernel), List.mem_of_getElem? (i := 1611) (by decide +kernel)⟩
theorem lw_p47 : lw_okq (⟨"EngraversHouseModel", "filled", "(I)I"⟩, 82) := ⟨⟨by decide +kernel, by decide +kernel⟩, List.mem_of_getElem? (i := 1300) (by decide +kernel), List.mem_of_getElem? (i := 1614) (by decide +kernel), List.mem_of_getElem? (i := 1615) (by decide +kernel)⟩
def lw_privs_3 : List (MethodName × Nat) := [(⟨"EngraversHouse", "setAt", "(I)LEngraversHouse$Part;"⟩, 20), (⟨"EngraversHouse$Tour", "wayBetween", "(II)I"⟩, 10), (⟨"EngraversHouse$Tour", "bestBehind", "(III)I"⟩, 10), (⟨"EngraversHouse$Tour", "isBetter", "(II)Z"⟩, 10), (⟨"EngraversHouse$PrintPlan", "printAt", "(I)V"⟩, 8), (⟨"EngraversHouse$PrintPlan", "isBetter", "(IIII)Z"⟩, 8), (⟨"EngraversHouse", "runBody", "(LEngraversHouse$Thing;IIII)I"⟩, 20), (⟨"EngraversHouse", "answerOf", "(ILEngraversHouse$Thing;III)I"⟩, 20), (⟨"EngraversHouseModel", "isAuthor", "(I)Z"⟩, 82), (⟨"EngraversHouseModel", "add", "(IIII)I"⟩, 82), (⟨"EngraversHouseModel", "isThing", "(I)Z"⟩, 82), (⟨"EngraversHouseModel", "isMusic", "(I)Z"⟩, 82), (⟨"EngraversHouseModel", "put", "(IIIII)I"⟩, 82), (⟨"EngraversHouseModel", "whole", "(II)I"⟩, 82), (⟨"EngraversHouseModel", "barAt", "(III)I"⟩, 82), (⟨"EngraversHouseModel", "filled", "(I)I"⟩, 82)]
theorem lw_r3 : ∀ q ∈ lw_privs_3, lw_okq q := List.forall_mem_cons.mpr ⟨lw_p32, List.forall_mem_cons.mpr ⟨lw_p33, List.forall_mem_cons.mpr ⟨lw_p34, List.forall_mem_cons.mpr ⟨lw_p35, List.forall_mem_cons.mpr ⟨lw_p36, List.forall_mem_cons.mpr ⟨lw_p37, List.forall_mem_cons.mpr ⟨lw_p38, List.forall_mem_cons.mpr ⟨lw_p39, List.forall_mem_cons.mpr ⟨lw_p40, List.forall_mem_cons.mpr ⟨lw_p41, List.forall_mem_cons.mpr ⟨lw_p42, List.forall_mem_cons.mpr ⟨lw_p43, List.forall_mem_cons.mpr ⟨lw_p44, List.forall_mem_cons.mpr ⟨lw_p45, List.forall_mem_cons.mpr ⟨lw_p46, List.forall_mem_cons.mpr ⟨lw_p47, fun _ h => absurd h List.not_mem_nil⟩⟩⟩⟩⟩⟩⟩⟩⟩⟩⟩⟩⟩⟩⟩⟩
theorem lw_p48 : lw_okq (⟨"EngraversHouseModel", "scoreOf", "(I)I"⟩, 82) := ⟨⟨by decide +kernel, by decide +kernel⟩, List.mem_of_getElem? (i := 1300) (by decide +kernel), List.mem_of_getElem? (i := 1634) (by decide +kernel), List.mem_of_getElem? (i := 1635) (by decide +kernel)⟩
theorem lw_p49 : lw_okq (⟨"EngraversHouseModel", "errataOf", "(I)I"⟩, 82) := ⟨⟨by decide +kernel, by decide +kernel⟩, List.mem_of_getElem? (i := 1300) (by decide +kernel), List.mem_of_getElem? (i := 1638) (by decide +kernel), List.mem_of_getElem? (i := 1639) (by decide +kernel)⟩
theorem lw_p50 : lw_okq (⟨"EngraversHouseModel", "isPart", "(I)Z"⟩, 82) := ⟨⟨by decide +kernel, by decide +kernel⟩, List.mem_of_getElem? (i := 1300) (by decide +kernel), List.mem_of_getElem? (i := 1654) (by decide +kernel), List.mem_of_getElem? (i := 1655) (by decide +kernel)⟩
theorem lw_p51 : lw_okq (⟨"EngraversHouseModel", "barsOf", "(I)I"⟩, 82) := ⟨⟨by decide +kernel, by decide +kernel⟩, List.mem_of_getElem? (i := 1300) (by decide +kernel), List.mem_of_getElem? (i := 1658) (by decide +kernel), List.mem_of_getElem? (i := 1659) (by decide +kernel)⟩
theorem lw_p52 : lw_okq (⟨"EngraversHouseModel", "readBar", "(II)V"⟩, 82) := ⟨⟨by decide +kernel, by decide +kernel⟩, List.mem_of_getElem? (i := 1300) (by decide +kernel), List.mem_of_getElem? (i := 1662) (by decide +kernel), List.mem_of_getElem? (i := 1663) (by decide +kernel)⟩
theorem lw_p53 : lw_okq (⟨"EngraversHouseModel", "offs", "(I)I"⟩, 82) := ⟨⟨by decide +kernel, by decide +kernel⟩, List.mem_of_getElem? (i := 1300) (by decide +kernel), List.mem_of_getElem? (i := 1681) (by decide +kernel), List.mem_of_getElem? (i := 1682) (by decide +kernel)⟩
theorem lw_p54 : lw_okq (⟨"EngraversHouseModel", "isOff", "(II)Z"⟩, 82) := ⟨⟨by decide +kernel, by decide +kernel⟩, List.mem_of_getElem? (i := 1300) (by decide +kernel), List.mem_of_getElem? (i := 1685) (by decide +kernel), List.mem_of_getElem? (i := 1686) (by decide +kernel)⟩
theorem lw_p55 : lw_okq (⟨"EngraversHouseModel", "hasBar", "(III)Z"⟩, 82) := ⟨⟨by decide +kernel, by decide +kernel⟩, List.mem_of_getElem? (i := 1300) (by decide +kernel), List.mem_of_getElem? (i := 1704) (by decide +kernel), List.mem_of_getElem? (i := 1705) (by decide +kernel)⟩
theorem lw_p56 : lw_okq (⟨"EngraversHouseModel", "amendedPitch", "(IIIII)I"⟩, 82) := ⟨⟨by decide +kernel, by decide +kernel⟩, List.mem_of_getElem? (i := 1300) (by decide +kernel), List.mem_of_getElem? (i := 1708) (by decide +kernel), List.mem_of_getElem? (i := 1709) (by decide +kernel)⟩
theorem lw_p57 : lw_okq (⟨"EngraversHouseModel", "distance", "(II)I"⟩, 82) := ⟨⟨by decide +kernel, by decide +kernel⟩, List.mem_of_getElem? (i := 1300) (by decide +kernel), List.mem_of_getElem? (i := 1724) (by decide +kernel), List.mem_of_getElem? (i := 1725) (by decide +kernel)⟩
theorem lw_p58 : lw_okq (⟨"EngraversHouseModel", "changesOf", "(III)I"⟩, 82) := ⟨⟨by decide +kernel, by decide +kernel⟩, List.mem_of_getElem? (i := 1300) (by decide +kernel), List.mem_of_getElem? (i := 1728) (by decide +kernel), List.mem_of_getElem? (i := 1729) (by decide +kernel)⟩
theorem lw_p59 : lw_okq (⟨"EngraversHouseModel", "areAlike", "(II)Z"⟩, 82) := ⟨⟨by decide +kernel, by decide +kernel⟩, List.mem_of_getElem? (i := 1300) (by decide +kernel), List.mem_of_getElem? (i := 1732) (by decide +kernel), List.mem_of_getElem? (i := 1733) (by decide +kernel)⟩
theorem lw_p60 : lw_okq (⟨"EngraversHouseModel", "clause", "()Z"⟩, 82) := ⟨⟨by decide +kernel, by decide +kernel⟩, List.mem_of_getElem? (i := 1300) (by decide +kernel), List.mem_of_getElem? (i := 1755) (by decide +kernel), List.mem_of_getElem? (i := 1756) (by decide +kernel)⟩
theorem lw_p61 : lw_okq (⟨"EngraversHouseModel", "look", "()I"⟩, 82) := ⟨⟨by decide +kernel, by decide +kernel⟩, List.mem_of_getElem? (i := 1300) (by decide +kernel), List.mem_of_getElem? (i := 1759) (by decide +kernel), List.mem_of_getElem? (i := 1760) (by decide +kernel)⟩
theorem lw_p62 : lw_okq (⟨"EngraversHouseModel", "share", "()Z"⟩, 82) := ⟨⟨by decide +kernel, by decide +kernel⟩, List.mem_of_getElem? (i := 1300) (by decide +kernel), List.mem_of_getElem? (i := 1763) (by decide +kernel), List.mem_of_getElem? (i := 1764) (by decide +kernel)⟩
theorem lw_p63 : lw_okq (⟨"EngraversHouseModel", "takes0", "(I)Z"⟩, 82) := ⟨⟨by decide +kernel, by decide +kernel⟩, List.mem_of_getElem? (i := 1300) (by decide +kernel), List.mem_of_getElem? (i := 1767) (by decide +kernel), List.mem_of_getElem? (i := 1768) (by decide +kernel)⟩
def lw_privs_4 : List (MethodName × Nat) := [(⟨"EngraversHouseModel", "scoreOf", "(I)I"⟩, 82), (⟨"EngraversHouseModel", "errataOf", "(I)I"⟩, 82), (⟨"EngraversHouseModel", "isPart", "(I)Z"⟩, 82), (⟨"EngraversHouseModel", "barsOf", "(I)I"⟩, 82), (⟨"EngraversHouseModel", "readBar", "(II)V"⟩, 82), (⟨"EngraversHouseModel", "offs", "(I)I"⟩, 82), (⟨"EngraversHouseModel", "isOff", "(II)Z"⟩, 82), (⟨"EngraversHouseModel", "hasBar", "(III)Z"⟩, 82), (⟨"EngraversHouseModel", "amendedPitch", "(IIIII)I"⟩, 82), (⟨"EngraversHouseModel", "distance", "(II)I"⟩, 82), (⟨"EngraversHouseModel", "changesOf", "(III)I"⟩, 82), (⟨"EngraversHouseModel", "areAlike", "(II)Z"⟩, 82), (⟨"EngraversHouseModel", "clause", "()Z"⟩, 82), (⟨"EngraversHouseModel", "look", "()I"⟩, 82), (⟨"EngraversHouseModel", "share", "()Z"⟩, 82), (⟨"EngraversHouseModel", "takes0", "(I)Z"⟩, 82)]
theorem lw_r4 : ∀ q ∈ lw_privs_4, lw_okq q := List.forall_mem_cons.mpr ⟨lw_p48, List.forall_mem_cons.mpr ⟨lw_p49, List.forall_mem_cons.mpr ⟨lw_p50, List.forall_mem_cons.mpr ⟨lw_p51, List.forall_mem_cons.mpr ⟨lw_p52, List.forall_mem_cons.mpr ⟨lw_p53, List.forall_mem_cons.mpr ⟨lw_p54, List.forall_mem_cons.mpr ⟨lw_p55, List.forall_mem_cons.mpr ⟨lw_p56, List.forall_mem_cons.mpr ⟨lw_p57, List.forall_mem_cons.mpr ⟨lw_p58, List.forall_mem_cons.mpr ⟨lw_p59, List.forall_mem_cons.mpr ⟨lw_p60, List.forall_mem_cons.mpr ⟨lw_p61, List.forall_mem_cons.mpr ⟨lw_p62, List.forall_mem_cons.mpr ⟨lw_p63, fun _ h => absurd h List.not_mem_nil⟩⟩⟩⟩⟩⟩⟩⟩⟩⟩⟩⟩⟩⟩⟩⟩
theorem lw_p64 : lw_okq (⟨"EngraversHouseModel", "digits", "()Z"⟩, 82) := ⟨⟨by decide +kernel, by decide +kernel⟩, List.mem_of_getElem? (i := 1300) (by decide +kernel), List.mem_of_getElem? (i := 1771) (by decide +kernel), List.mem_of_getElem? (i := 1772) (by decide +kernel)⟩
theorem lw_p65 : lw_okq (⟨"EngraversHouseModel", "either", "()Z"⟩, 82) := ⟨⟨by decide +kernel, by decide +kernel⟩, List.mem_of_getElem? (i := 1300) (by decide +kernel), List.mem_of_getElem? (i := 1775) (by decide +kernel), List.mem_of_getElem? (i := 1776) (by decide +kernel)⟩
theorem lw_p66 : lw_okq (⟨"EngraversHouseModel", "both", "()Z"⟩, 82) := ⟨⟨by decide +kernel, by decide +kernel⟩, List.mem_of_getElem? (i := 1300) (by decide +kernel), List.mem_of_getElem? (i := 1779) (by decide +kernel), List.mem_of_getElem? (i := 1780) (by decide +kernel)⟩
theorem lw_p67 : lw_okq (⟨"EngraversHouseModel", "factor", "()Z"⟩, 82) := ⟨⟨by decide +kernel, by decide +kernel⟩, List.mem_of_getElem? (i := 1300) (by decide +kernel), List.mem_of_getElem? (i := 1783) (by decide +kernel), List.mem_of_getElem? (i := 1784) (by decide +kernel)⟩
theorem lw_p68 : lw_okq (⟨"EngraversHouseModel", "opens", "()Z"⟩, 82) := ⟨⟨by decide +kernel, by decide +kernel⟩, List.mem_of_getElem? (i := 1300) (by decide +kernel), List.mem_of_getElem? (i := 1787) (by decide +kernel), List.mem_of_getElem? (i := 1788) (by decide +kernel)⟩
theorem lw_p69 : lw_okq (⟨"EngraversHouseModel", "lay", "(II)V"⟩, 82) := ⟨⟨by decide +kernel, by decide +kernel⟩, List.mem_of_getElem? (i := 1300) (by decide +kernel), List.mem_of_getElem? (i := 1791) (by decide +kernel), List.mem_of_getElem? (i := 1792) (by decide +kernel)⟩
theorem lw_p70 : lw_okq (⟨"EngraversHouseModel", "contractOf", "(II)I"⟩, 82) := ⟨⟨by decide +kernel, by decide +kernel⟩, List.mem_of_getElem? (i := 1300) (by decide +kernel), List.mem_of_getElem? (i := 1799) (by decide +kernel), List.mem_of_getElem? (i := 1800) (by decide +kernel)⟩
theorem lw_p71 : lw_okq (⟨"EngraversHouseModel", "hasRight", "(III)Z"⟩, 82) := ⟨⟨by decide +kernel, by decide +kernel⟩, List.mem_of_getElem? (i := 1300) (by decide +kernel), List.mem_of_getElem? (i := 1807) (by decide +kernel), List.mem_of_getElem? (i := 1808) (by decide +kernel)⟩
theorem lw_p72 : lw_okq (⟨"EngraversHouseModel", "isAlive", "(II)Z"⟩, 82) := ⟨⟨by decide +kernel, by decide +kernel⟩, List.mem_of_getElem? (i := 1300) (by decide +kernel), List.mem_of_getElem? (i := 1811) (by decide +kernel), List.mem_of_getElem? (i := 1812) (by decide +kernel)⟩
theorem lw_p73 : lw_okq (⟨"EngraversHouseModel", "gets", "(IIIZIIII)I"⟩, 82) := ⟨⟨by decide +kernel, by decide +kernel⟩, List.mem_of_getElem? (i := 1300) (by decide +kernel), List.mem_of_getElem? (i := 1821) (by decide +kernel), List.mem_of_getElem? (i := 1822) (by decide +kernel)⟩
theorem lw_p74 : lw_okq (⟨"EngraversHouseModel", "holdsFor", "(IZII)Z"⟩, 82) := ⟨⟨by decide +kernel, by decide +kernel⟩, List.mem_of_getElem? (i := 1300) (by decide +kernel), List.mem_of_getElem? (i := 1825) (by decide +kernel), List.mem_of_getElem? (i := 1826) (by decide +kernel)⟩
theorem lw_p75 : lw_okq (⟨"EngraversHouseModel", "serves", "(II)Z"⟩, 82) := ⟨⟨by decide +kernel, by decide +kernel⟩, List.mem_of_getElem? (i := 1300) (by decide +kernel), List.mem_of_getElem? (i := 1857) (by decide +kernel), List.mem_of_getElem? (i := 1858) (by decide +kernel)⟩
theorem lw_p76 : lw_okq (⟨"EngraversHouseModel", "costOf", "(I)I"⟩, 82) := ⟨⟨by decide +kernel, by decide +kernel⟩, List.mem_of_getElem? (i := 1300) (by decide +kernel), List.mem_of_getElem? (i := 1873) (by decide +kernel), List.mem_of_getElem? (i := 1874) (by decide +kernel)⟩
theorem lw_p77 : lw_okq (⟨"EngraversHouseModel", "holds", "(II)I"⟩, 82) := ⟨⟨by decide +kernel, by decide +kernel⟩, List.mem_of_getElem? (i := 1300) (by decide +kernel), List.mem_of_getElem? (i := 1894) (by decide +kernel), List.mem_of_getElem? (i := 1895) (by decide +kernel)⟩
theorem lw_p78 : lw_okq (⟨"EngraversHouseModel", "ran", "(I)V"⟩, 82) := ⟨⟨by decide +kernel, by decide +kernel⟩, List.mem_of_getElem? (i := 1300) (by decide +kernel), List.mem_of_getElem? (i := 1898) (by decide +kernel), List.mem_of_getElem? (i := 1899) (by decide +kernel)⟩
theorem lw_p79 : lw_okq (⟨"EngraversHouseModel", "plainHolds", "(II)I"⟩, 82) := ⟨⟨by decide +kernel, by decide +kernel⟩, List.mem_of_getElem? (i := 1300) (by decide +kernel), List.mem_of_getElem? (i := 1902) (by decide +kernel), List.mem_of_getElem? (i := 1903) (by decide +kernel)⟩
def lw_privs_5 : List (MethodName × Nat) := [(⟨"EngraversHouseModel", "digits", "()Z"⟩, 82), (⟨"EngraversHouseModel", "either", "()Z"⟩, 82), (⟨"EngraversHouseModel", "both", "()Z"⟩, 82), (⟨"EngraversHouseModel", "factor", "()Z"⟩, 82), (⟨"EngraversHouseModel", "opens", "()Z"⟩, 82), (⟨"EngraversHouseModel", "lay", "(II)V"⟩, 82), (⟨"EngraversHouseModel", "contractOf", "(II)I"⟩, 82), (⟨"EngraversHouseModel", "hasRight", "(III)Z"⟩, 82), (⟨"EngraversHouseModel", "isAlive", "(II)Z"⟩, 82), (⟨"EngraversHouseModel", "gets", "(IIIZIIII)I"⟩, 82), (⟨"EngraversHouseModel", "holdsFor", "(IZII)Z"⟩, 82), (⟨"EngraversHouseModel", "serves", "(II)Z"⟩, 82), (⟨"EngraversHouseModel", "costOf", "(I)I"⟩, 82), (⟨"EngraversHouseModel", "holds", "(II)I"⟩, 82), (⟨"EngraversHouseModel", "ran", "(I)V"⟩, 82), (⟨"EngraversHouseModel", "plainHolds", "(II)I"⟩, 82)]
theorem lw_r5 : ∀ q ∈ lw_privs_5, lw_okq q := List.forall_mem_cons.mpr ⟨lw_p64, List.forall_mem_cons.mpr ⟨lw_p65, List.forall_mem_cons.mpr ⟨lw_p66, List.forall_mem_cons.mpr ⟨lw_p67, List.forall_mem_cons.mpr ⟨lw_p68, List.forall_mem_cons.mpr ⟨lw_p69, List.forall_mem_cons.mpr ⟨lw_p70, List.forall_mem_cons.mpr ⟨lw_p71, List.forall_mem_cons.mpr ⟨lw_p72, List.forall_mem_cons.mpr ⟨lw_p73, List.forall_mem_cons.mpr ⟨lw_p74, List.forall_mem_cons.mpr ⟨lw_p75, List.forall_mem_cons.mpr ⟨lw_p76, List.forall_mem_cons.mpr ⟨lw_p77, List.forall_mem_cons.mpr ⟨lw_p78, List.forall_mem_cons.mpr ⟨lw_p79, fun _ h => absurd h List.not_mem_nil⟩⟩⟩⟩⟩⟩⟩⟩⟩⟩⟩⟩⟩⟩⟩⟩
theorem lw_p80 : lw_okq (⟨"EngraversHouseModel", "scoreHolds", "(II)I"⟩, 82) := ⟨⟨by decide +kernel, by decide +kernel⟩, List.mem_of_getElem? (i := 1300) (by decide +kernel), List.mem_of_getElem? (i := 1906) (by decide +kernel), List.mem_of_getElem? (i := 1907) (by decide +kernel)⟩
theorem lw_p81 : lw_okq (⟨"EngraversHouseModel", "turns", "(II)I"⟩, 82) := ⟨⟨by decide +kernel, by decide +kernel⟩, List.mem_of_getElem? (i := 1300) (by decide +kernel), List.mem_of_getElem? (i := 1913) (by decide +kernel), List.mem_of_getElem? (i := 1914) (by decide +kernel)⟩
theorem lw_p82 : lw_okq (⟨"EngraversHouseModel", "partTurns", "(II)I"⟩, 82) := ⟨⟨by decide +kernel, by decide +kernel⟩, List.mem_of_getElem? (i := 1300) (by decide +kernel), List.mem_of_getElem? (i := 1917) (by decide +kernel), List.mem_of_getElem? (i := 1918) (by decide +kernel)⟩
theorem lw_p83 : lw_okq (⟨"EngraversHouseModel", "plainTurns", "(II)I"⟩, 82) := ⟨⟨by decide +kernel, by decide +kernel⟩, List.mem_of_getElem? (i := 1300) (by decide +kernel), List.mem_of_getElem? (i := 1921) (by decide +kernel), List.mem_of_getElem? (i := 1922) (by decide +kernel)⟩
theorem lw_p84 : lw_okq (⟨"EngraversHouseModel", "earns", "(II)I"⟩, 82) := ⟨⟨by decide +kernel, by decide +kernel⟩, List.mem_of_getElem? (i := 1300) (by decide +kernel), List.mem_of_getElem? (i := 1925) (by decide +kernel), List.mem_of_getElem? (i := 1926) (by decide +kernel)⟩
theorem lw_p85 : lw_okq (⟨"EngraversHouseModel", "plainEarns", "(II)I"⟩, 82) := ⟨⟨by decide +kernel, by decide +kernel⟩, List.mem_of_getElem? (i := 1300) (by decide +kernel), List.mem_of_getElem? (i := 1929) (by decide +kernel), List.mem_of_getElem? (i := 1930) (by decide +kernel)⟩
def lw_privs_6 : List (MethodName × Nat) := [(⟨"EngraversHouseModel", "scoreHolds", "(II)I"⟩, 82), (⟨"EngraversHouseModel", "turns", "(II)I"⟩, 82), (⟨"EngraversHouseModel", "partTurns", "(II)I"⟩, 82), (⟨"EngraversHouseModel", "plainTurns", "(II)I"⟩, 82), (⟨"EngraversHouseModel", "earns", "(II)I"⟩, 82), (⟨"EngraversHouseModel", "plainEarns", "(II)I"⟩, 82)]
theorem lw_r6 : ∀ q ∈ lw_privs_6, lw_okq q := List.forall_mem_cons.mpr ⟨lw_p80, List.forall_mem_cons.mpr ⟨lw_p81, List.forall_mem_cons.mpr ⟨lw_p82, List.forall_mem_cons.mpr ⟨lw_p83, List.forall_mem_cons.mpr ⟨lw_p84, List.forall_mem_cons.mpr ⟨lw_p85, fun _ h => absurd h List.not_mem_nil⟩⟩⟩⟩⟩⟩
def lw_privs : List (MethodName × Nat) := lw_privs_1 ++ (lw_privs_2 ++ (lw_privs_3 ++ (lw_privs_4 ++ (lw_privs_5 ++ (lw_privs_6)))))
def lw_tbl : List Cond := k2_sels lw_privs ++ tables_1
theorem lw_privs_ok : ∀ q ∈ lw_privs, lw_okq q := by
  show ∀ q ∈ lw_privs_1 ++ (lw_privs_2 ++ (lw_privs_3 ++ (lw_privs_4 ++ (lw_privs_5 ++ (lw_privs_6))))), lw_okq q
  exact List.forall_mem_append.mpr ⟨lw_r1, List.forall_mem_append.mpr ⟨lw_r2, List.forall_mem_append.mpr ⟨lw_r3, List.forall_mem_append.mpr ⟨lw_r4, List.forall_mem_append.mpr ⟨lw_r5, lw_r6⟩⟩⟩⟩⟩
-- ===== end of PART A; then your names; then what follows =====
/-! ===== BEGIN words of one list among another's, by their places ===== -/
theorem goodIn_r {big : List Cond} (ws : List Cond) (ps : List Nat) (hp : ws = ps.filterMap (fun i => big[i]?)) (h : ws.all goodWord = true) : GoodIn big ws := by
  intro w hw
  have h1 := List.all_eq_true.mp h w hw
  rw [hp] at hw
  obtain ⟨i, -, hi⟩ := List.mem_filterMap.mp hw
  have hm : w ∈ big := by first | exact List.mem_of_getElem? hi | exact List.getElem?_mem hi
  exact ⟨hm, good_of_word h1⟩
theorem goodIn_app {big a b : List Cond} (ha : GoodIn big a) (hb : GoodIn big b) : GoodIn big (a ++ b) := fun w h => (List.mem_append.mp h).elim (ha w) (hb w)
theorem goodIn_ca {big a b : List Cond} {c : Cond} (ha : GoodIn big (c :: a)) (hb : GoodIn big b) : GoodIn big (c :: (a ++ b)) := fun w h => (List.mem_cons.mp h).elim (fun e => ha w (List.mem_cons.mpr (Or.inl e))) (fun h => (List.mem_append.mp h).elim (fun h => ha w (List.mem_cons.mpr (Or.inr h))) (hb w))
theorem goodIn_sub {big ws : List Cond} (hm : ∀ w ∈ ws, w ∈ big) (h : ws.all goodWord = true) : GoodIn big ws := fun w hw => ⟨hm w hw, good_of_word (List.all_eq_true.mp h w hw)⟩
/-! ===== END ===== -/
/-! ===== BEGIN printed: names, fields, word lists, decode rows ===== -/
def RX0 : String := "EngraversHouse$Bar"
def TX0 : u_T := fun k => match k with
  | 0 => ("EngraversHouse$Bar", "notes", "[I", true)
  | 1 => ("EngraversHouse$Bar", "size", "I", false)
  | _ => ("EngraversHouse$Bar", "filled", "I", false)
def tyX0 : Nat → FieldType := fun k => match k with
  | 0 => .array .int
  | 1 => .int
  | _ => .int
abbrev wsX00 : List Cond := u_ws RX0 TX0 3
theorem nmX0 : ∀ a, a < 3 → ∀ b, b < 3 → a ≠ b → (TX0 a).2.1 ≠ (TX0 b).2.1 := by decide +kernel
theorem tyX0_ok : ∀ k, k < 3 → parseFieldDescriptor (TX0 k).2.2.1 = some (tyX0 k) := by decide +kernel
abbrev cX0_init : ByteArray := prog_2_method_1_code
def yX0_init : MethodName := ⟨RX0, "<init>", "()V"⟩
abbrev cX0_hasNote : ByteArray := prog_2_method_2_code
def yX0_hasNote : MethodName := ⟨RX0, "hasNote", "(I)Z"⟩
abbrev cX0_addNote : ByteArray := prog_2_method_3_code
def yX0_addNote : MethodName := ⟨RX0, "addNote", "(I)V"⟩
abbrev cX0_joinNote : ByteArray := prog_2_method_4_code
def yX0_joinNote : MethodName := ⟨RX0, "joinNote", "(I)V"⟩
abbrev cX0_clearNotes : ByteArray := prog_2_method_5_code
def yX0_clearNotes : MethodName := ⟨RX0, "clearNotes", "()V"⟩
abbrev cX0_copyShifted : ByteArray := prog_2_method_6_code
def yX0_copyShifted : MethodName := ⟨RX0, "copyShifted", "(LEngraversHouse$Bar;I)V"⟩
abbrev cX0_sameNotes : ByteArray := prog_2_method_7_code
def yX0_sameNotes : MethodName := ⟨RX0, "sameNotes", "(LEngraversHouse$Bar;)Z"⟩
abbrev cX0_restsFirst : ByteArray := prog_2_method_8_code
def yX0_restsFirst : MethodName := ⟨RX0, "restsFirst", "()Z"⟩
abbrev cX0_restsLast : ByteArray := prog_2_method_9_code
def yX0_restsLast : MethodName := ⟨RX0, "restsLast", "()Z"⟩
def RX1 : String := "EngraversHouse$Contract"
def TX1 : u_T := fun k => match k with
  | 0 => ("EngraversHouse$Contract", "land", "I", true)
  | 1 => ("EngraversHouse$Contract", "day", "I", true)
  | 2 => ("EngraversHouse$Contract", "text", "[I", true)
  | 3 => ("EngraversHouse$Contract", "place", "I", false)
  | 4 => ("EngraversHouse$Contract", "faulty", "Z", false)
  | 5 => ("EngraversHouse$Contract", "life", "I", false)
  | 6 => ("EngraversHouse$Contract", "least", "I", false)
  | 7 => ("EngraversHouse$Contract", "shares", "I", false)
  | 8 => ("EngraversHouse$Contract", "derived", "Z", false)
  | 9 => ("EngraversHouse$Contract", "years", "I", false)
  | 10 => ("EngraversHouse$Contract", "minutes", "I", false)
  | 11 => ("EngraversHouse$Contract", "thousandths", "I", false)
  | _ => ("EngraversHouse$Contract", "anyHolds", "Z", false)
def tyX1 : Nat → FieldType := fun k => match k with
  | 0 => .int
  | 1 => .int
  | 2 => .array .int
  | 3 => .int
  | 4 => .boolean
  | 5 => .int
  | 6 => .int
  | 7 => .int
  | 8 => .boolean
  | 9 => .int
  | 10 => .int
  | 11 => .int
  | _ => .boolean
abbrev wsX10 : List Cond := u_ws RX1 TX1 13
theorem nmX1 : ∀ a, a < 13 → ∀ b, b < 13 → a ≠ b → (TX1 a).2.1 ≠ (TX1 b).2.1 := by decide +kernel
theorem tyX1_ok : ∀ k, k < 13 → parseFieldDescriptor (TX1 k).2.2.1 = some (tyX1 k) := by decide +kernel
abbrev cX1_init : ByteArray := prog_3_method_1_code
def yX1_init : MethodName := ⟨RX1, "<init>", "(II[I)V"⟩
abbrev cX1_asked : ByteArray := prog_3_method_2_code
def yX1_asked : MethodName := ⟨RX1, "asked", "(ZII)V"⟩
abbrev cX1_shareOf : ByteArray := prog_3_method_3_code
def yX1_shareOf : MethodName := ⟨RX1, "shareOf", "(III)I"⟩
abbrev cX1_readAll : ByteArray := prog_3_method_4_code
def yX1_readAll : MethodName := ⟨RX1, "readAll", "(II)Z"⟩
abbrev cX1_readClause : ByteArray := prog_3_method_5_code
def yX1_readClause : MethodName := ⟨RX1, "readClause", "(II)V"⟩
abbrev cX1_readTerm : ByteArray := prog_3_method_6_code
def yX1_readTerm : MethodName := ⟨RX1, "readTerm", "()V"⟩
abbrev cX1_sees : ByteArray := prog_3_method_7_code
def yX1_sees : MethodName := ⟨RX1, "sees", "(C)Z"⟩
abbrev cX1_pick : ByteArray := prog_3_method_8_code
def yX1_pick : MethodName := ⟨RX1, "pick", "(Ljava/lang/String;)I"⟩
abbrev cX1_skip : ByteArray := prog_3_method_9_code
def yX1_skip : MethodName := ⟨RX1, "skip", "(Ljava/lang/String;)V"⟩
abbrev cX1_readNumber : ByteArray := prog_3_method_10_code
def yX1_readNumber : MethodName := ⟨RX1, "readNumber", "()I"⟩
abbrev cX1_condition : ByteArray := prog_3_method_11_code
def yX1_condition : MethodName := ⟨RX1, "condition", "(I)Z"⟩
abbrev cX1_single : ByteArray := prog_3_method_12_code
def yX1_single : MethodName := ⟨RX1, "single", "(I)Z"⟩
abbrev cX1_nested : ByteArray := prog_3_method_13_code
def yX1_nested : MethodName := ⟨RX1, "nested", "(ZI)Z"⟩
def RX2 : String := "EngraversHouse$Edition"
def TX2 : u_T := fun k => match k with
  | 0 => ("EngraversHouse$Thing", "kind", "I", true)
  | 1 => ("EngraversHouse$Thing", "number", "I", true)
  | 2 => ("EngraversHouse$Edition", "score", "LEngraversHouse$Score;", true)
  | 3 => ("EngraversHouse$Edition", "plates", "I", true)
  | 4 => ("EngraversHouse$Edition", "errata", "I", false)
  | 5 => ("EngraversHouse$Edition", "bars", "[LEngraversHouse$Bar;", true)
  | 6 => ("EngraversHouse$Edition", "distances", "[I", true)
  | 7 => ("EngraversHouse$Edition", "rowBefore", "[I", false)
  | 8 => ("EngraversHouse$Edition", "row", "[I", false)
  | 9 => ("EngraversHouse$Edition", "inTree", "Z", false)
  | 10 => ("EngraversHouse$Edition", "hangsOn", "I", false)
  | _ => ("EngraversHouse$Edition", "apart", "I", false)
def tyX2 : Nat → FieldType := fun k => match k with
  | 0 => .int
  | 1 => .int
  | 2 => .object "EngraversHouse$Score"
  | 3 => .int
  | 4 => .int
  | 5 => .array (.object "EngraversHouse$Bar")
  | 6 => .array .int
  | 7 => .array .int
  | 8 => .array .int
  | 9 => .boolean
  | 10 => .int
  | _ => .int
abbrev wsX20 : List Cond := u_ws RX2 TX2 12
theorem nmX2 : ∀ a, a < 12 → ∀ b, b < 12 → a ≠ b → (TX2 a).2.1 ≠ (TX2 b).2.1 := by decide +kernel
theorem tyX2_ok : ∀ k, k < 12 → parseFieldDescriptor (TX2 k).2.2.1 = some (tyX2 k) := by decide +kernel
abbrev cX2_init : ByteArray := prog_4_method_1_code
def yX2_init : MethodName := ⟨RX2, "<init>", "(ILEngraversHouse$Score;I)V"⟩
abbrev cX2_scoreNumber : ByteArray := prog_4_method_2_code
def yX2_scoreNumber : MethodName := ⟨RX2, "scoreNumber", "()I"⟩
abbrev cX2_second : ByteArray := prog_4_method_3_code
def yX2_second : MethodName := ⟨RX2, "second", "()I"⟩
abbrev cX2_third : ByteArray := prog_4_method_4_code
def yX2_third : MethodName := ⟨RX2, "third", "()I"⟩
abbrev cX2_barOf : ByteArray := prog_4_method_5_code
def yX2_barOf : MethodName := ⟨RX2, "barOf", "(II)LEngraversHouse$Bar;"⟩
abbrev cX2_takePlate : ByteArray := prog_4_method_6_code
def yX2_takePlate : MethodName := ⟨RX2, "takePlate", "(LEngraversHouse$Plate;)V"⟩
abbrev cX2_changesTo : ByteArray := prog_4_method_7_code
def yX2_changesTo : MethodName := ⟨RX2, "changesTo", "(LEngraversHouse$Edition;I)I"⟩
abbrev cX2_fillRow : ByteArray := prog_4_method_8_code
def yX2_fillRow : MethodName := ⟨RX2, "fillRow", "(LEngraversHouse$Bar;LEngraversHouse$Edition;I)V"⟩
abbrev cX2_distanceTo : ByteArray := prog_4_method_9_code
def yX2_distanceTo : MethodName := ⟨RX2, "distanceTo", "(LEngraversHouse$Edition;)I"⟩
abbrev cX2_mayHangOn : ByteArray := prog_4_method_10_code
def yX2_mayHangOn : MethodName := ⟨RX2, "mayHangOn", "(LEngraversHouse$Edition;)V"⟩
def RX3 : String := "EngraversHouse$Erratum"
def TX3 : u_T := fun k => match k with
  | 0 => ("EngraversHouse$Thing", "kind", "I", true)
  | 1 => ("EngraversHouse$Thing", "number", "I", true)
  | 2 => ("EngraversHouse$Erratum", "edition", "LEngraversHouse$Edition;", true)
  | 3 => ("EngraversHouse$Erratum", "place", "I", true)
  | 4 => ("EngraversHouse$Erratum", "from", "I", true)
  | _ => ("EngraversHouse$Erratum", "to", "I", true)
def tyX3 : Nat → FieldType := fun k => match k with
  | 0 => .int
  | 1 => .int
  | 2 => .object "EngraversHouse$Edition"
  | 3 => .int
  | 4 => .int
  | _ => .int
abbrev wsX30 : List Cond := u_ws RX3 TX3 6
theorem nmX3 : ∀ a, a < 6 → ∀ b, b < 6 → a ≠ b → (TX3 a).2.1 ≠ (TX3 b).2.1 := by decide +kernel
theorem tyX3_ok : ∀ k, k < 6 → parseFieldDescriptor (TX3 k).2.2.1 = some (tyX3 k) := by decide +kernel
abbrev cX3_init : ByteArray := prog_5_method_1_code
def yX3_init : MethodName := ⟨RX3, "<init>", "(ILEngraversHouse$Edition;III)V"⟩
abbrev cX3_voice : ByteArray := prog_5_method_2_code
def yX3_voice : MethodName := ⟨RX3, "voice", "()I"⟩
abbrev cX3_bar : ByteArray := prog_5_method_3_code
def yX3_bar : MethodName := ⟨RX3, "bar", "()I"⟩
abbrev cX3_noteIndex : ByteArray := prog_5_method_4_code
def yX3_noteIndex : MethodName := ⟨RX3, "noteIndex", "()I"⟩
abbrev cX3_scoreNumber : ByteArray := prog_5_method_5_code
def yX3_scoreNumber : MethodName := ⟨RX3, "scoreNumber", "()I"⟩
abbrev cX3_second : ByteArray := prog_5_method_6_code
def yX3_second : MethodName := ⟨RX3, "second", "()I"⟩
abbrev cX3_third : ByteArray := prog_5_method_7_code
def yX3_third : MethodName := ⟨RX3, "third", "()I"⟩
def RX4 : String := "EngraversHouse$Layout"
def TX4 : u_T := fun k => match k with
  | 0 => ("EngraversHouse$Layout", "bars", "I", false)
  | 1 => ("EngraversHouse$Layout", "widths", "[I", true)
  | 2 => ("EngraversHouse$Layout", "restsFirst", "[Z", true)
  | 3 => ("EngraversHouse$Layout", "restsLast", "[Z", true)
  | 4 => ("EngraversHouse$Layout", "cost", "[I", true)
  | _ => ("EngraversHouse$Layout", "taken", "[I", true)
def tyX4 : Nat → FieldType := fun k => match k with
  | 0 => .int
  | 1 => .array .int
  | 2 => .array .boolean
  | 3 => .array .boolean
  | 4 => .array .int
  | _ => .array .int
abbrev wsX40 : List Cond := u_ws RX4 TX4 6
theorem nmX4 : ∀ a, a < 6 → ∀ b, b < 6 → a ≠ b → (TX4 a).2.1 ≠ (TX4 b).2.1 := by decide +kernel
theorem tyX4_ok : ∀ k, k < 6 → parseFieldDescriptor (TX4 k).2.2.1 = some (tyX4 k) := by decide +kernel
abbrev cX4_init : ByteArray := prog_6_method_1_code
def yX4_init : MethodName := ⟨RX4, "<init>", "()V"⟩
abbrev cX4_measure : ByteArray := prog_6_method_2_code
def yX4_measure : MethodName := ⟨RX4, "measure", "(LEngraversHouse$Part;)V"⟩
abbrev cX4_fits : ByteArray := prog_6_method_3_code
def yX4_fits : MethodName := ⟨RX4, "fits", "(I)Z"⟩
abbrev cX4_fill : ByteArray := prog_6_method_4_code
def yX4_fill : MethodName := ⟨RX4, "fill", "(II)V"⟩
abbrev cX4_fillLine : ByteArray := prog_6_method_5_code
def yX4_fillLine : MethodName := ⟨RX4, "fillLine", "(IIII)V"⟩
abbrev cX4_placeBehind : ByteArray := prog_6_method_6_code
def yX4_placeBehind : MethodName := ⟨RX4, "placeBehind", "(II)I"⟩
abbrev cX4_leastCost : ByteArray := prog_6_method_7_code
def yX4_leastCost : MethodName := ⟨RX4, "leastCost", "()I"⟩
abbrev cX4_lineCount : ByteArray := prog_6_method_8_code
def yX4_lineCount : MethodName := ⟨RX4, "lineCount", "(I)I"⟩
abbrev cX4_barsInLine : ByteArray := prog_6_method_9_code
def yX4_barsInLine : MethodName := ⟨RX4, "barsInLine", "(II)I"⟩
def RX5 : String := "EngraversHouse$Part"
def TX5 : u_T := fun k => match k with
  | 0 => ("EngraversHouse$Thing", "kind", "I", true)
  | 1 => ("EngraversHouse$Thing", "number", "I", true)
  | 2 => ("EngraversHouse$Part", "score", "LEngraversHouse$Score;", true)
  | 3 => ("EngraversHouse$Part", "voice", "I", true)
  | 4 => ("EngraversHouse$Part", "shift", "I", true)
  | 5 => ("EngraversHouse$Part", "town", "I", false)
  | _ => ("EngraversHouse$Part", "asRead", "LEngraversHouse$Bar;", true)
def tyX5 : Nat → FieldType := fun k => match k with
  | 0 => .int
  | 1 => .int
  | 2 => .object "EngraversHouse$Score"
  | 3 => .int
  | 4 => .int
  | 5 => .int
  | _ => .object "EngraversHouse$Bar"
abbrev wsX50 : List Cond := u_ws RX5 TX5 7
theorem nmX5 : ∀ a, a < 7 → ∀ b, b < 7 → a ≠ b → (TX5 a).2.1 ≠ (TX5 b).2.1 := by decide +kernel
theorem tyX5_ok : ∀ k, k < 7 → parseFieldDescriptor (TX5 k).2.2.1 = some (tyX5 k) := by decide +kernel
abbrev cX5_init : ByteArray := prog_7_method_1_code
def yX5_init : MethodName := ⟨RX5, "<init>", "(IILEngraversHouse$Score;II)V"⟩
abbrev cX5_scoreNumber : ByteArray := prog_7_method_2_code
def yX5_scoreNumber : MethodName := ⟨RX5, "scoreNumber", "()I"⟩
abbrev cX5_second : ByteArray := prog_7_method_3_code
def yX5_second : MethodName := ⟨RX5, "second", "()I"⟩
abbrev cX5_third : ByteArray := prog_7_method_4_code
def yX5_third : MethodName := ⟨RX5, "third", "()I"⟩
abbrev cX5_barCount : ByteArray := prog_7_method_5_code
def yX5_barCount : MethodName := ⟨RX5, "barCount", "()I"⟩
abbrev cX5_barAsRead : ByteArray := prog_7_method_6_code
def yX5_barAsRead : MethodName := ⟨RX5, "barAsRead", "(I)LEngraversHouse$Bar;"⟩
def RX6 : String := "EngraversHouse$Plate"
def TX6 : u_T := fun k => match k with
  | 0 => ("EngraversHouse$Thing", "kind", "I", true)
  | 1 => ("EngraversHouse$Thing", "number", "I", true)
  | 2 => ("EngraversHouse$Plate", "part", "LEngraversHouse$Part;", true)
  | 3 => ("EngraversHouse$Plate", "first", "I", true)
  | 4 => ("EngraversHouse$Plate", "bars", "[LEngraversHouse$Bar;", true)
  | _ => ("EngraversHouse$Plate", "marks", "[I", true)
def tyX6 : Nat → FieldType := fun k => match k with
  | 0 => .int
  | 1 => .int
  | 2 => .object "EngraversHouse$Part"
  | 3 => .int
  | 4 => .array (.object "EngraversHouse$Bar")
  | _ => .array .int
abbrev wsX60 : List Cond := u_ws RX6 TX6 6
theorem nmX6 : ∀ a, a < 6 → ∀ b, b < 6 → a ≠ b → (TX6 a).2.1 ≠ (TX6 b).2.1 := by decide +kernel
theorem tyX6_ok : ∀ k, k < 6 → parseFieldDescriptor (TX6 k).2.2.1 = some (tyX6 k) := by decide +kernel
abbrev cX6_init : ByteArray := prog_8_method_1_code
def yX6_init : MethodName := ⟨RX6, "<init>", "(ILEngraversHouse$Part;II)V"⟩
abbrev cX6_scoreNumber : ByteArray := prog_8_method_2_code
def yX6_scoreNumber : MethodName := ⟨RX6, "scoreNumber", "()I"⟩
abbrev cX6_second : ByteArray := prog_8_method_3_code
def yX6_second : MethodName := ⟨RX6, "second", "()I"⟩
abbrev cX6_third : ByteArray := prog_8_method_4_code
def yX6_third : MethodName := ⟨RX6, "third", "()I"⟩
abbrev cX6_cutBar : ByteArray := prog_8_method_5_code
def yX6_cutBar : MethodName := ⟨RX6, "cutBar", "(I)LEngraversHouse$Bar;"⟩
abbrev cX6_unlikeBars : ByteArray := prog_8_method_6_code
def yX6_unlikeBars : MethodName := ⟨RX6, "unlikeBars", "()I"⟩
def RX7 : String := "EngraversHouse$PrintPlan"
def TX7 : u_T := fun k => match k with
  | 0 => ("EngraversHouse$PrintPlan", "setup", "I", false)
  | 1 => ("EngraversHouse$PrintPlan", "hold", "I", false)
  | 2 => ("EngraversHouse$PrintPlan", "most", "I", false)
  | 3 => ("EngraversHouse$PrintPlan", "months", "I", false)
  | 4 => ("EngraversHouse$PrintPlan", "asked", "[I", true)
  | 5 => ("EngraversHouse$PrintPlan", "cost", "[I", true)
  | 6 => ("EngraversHouse$PrintPlan", "prints", "[I", true)
  | _ => ("EngraversHouse$PrintPlan", "bits", "[I", true)
def tyX7 : Nat → FieldType := fun k => match k with
  | 0 => .int
  | 1 => .int
  | 2 => .int
  | 3 => .int
  | 4 => .array .int
  | 5 => .array .int
  | 6 => .array .int
  | _ => .array .int
abbrev wsX70 : List Cond := u_ws RX7 TX7 8
theorem nmX7 : ∀ a, a < 8 → ∀ b, b < 8 → a ≠ b → (TX7 a).2.1 ≠ (TX7 b).2.1 := by decide +kernel
theorem tyX7_ok : ∀ k, k < 8 → parseFieldDescriptor (TX7 k).2.2.1 = some (tyX7 k) := by decide +kernel
abbrev cX7_init : ByteArray := prog_9_method_1_code
def yX7_init : MethodName := ⟨RX7, "<init>", "()V"⟩
abbrev cX7_asksTooMuch : ByteArray := prog_9_method_2_code
def yX7_asksTooMuch : MethodName := ⟨RX7, "asksTooMuch", "()Z"⟩
abbrev cX7_bestFirst : ByteArray := prog_9_method_3_code
def yX7_bestFirst : MethodName := ⟨RX7, "bestFirst", "()I"⟩
abbrev cX7_printAt : ByteArray := prog_9_method_4_code
def yX7_printAt : MethodName := ⟨RX7, "printAt", "(I)V"⟩
abbrev cX7_isBetter : ByteArray := prog_9_method_5_code
def yX7_isBetter : MethodName := ⟨RX7, "isBetter", "(IIII)Z"⟩
def RX8 : String := "EngraversHouse$Score"
def TX8 : u_T := fun k => match k with
  | 0 => ("EngraversHouse$Thing", "kind", "I", true)
  | 1 => ("EngraversHouse$Thing", "number", "I", true)
  | 2 => ("EngraversHouse$Score", "root", "LEngraversHouse$Score;", true)
  | 3 => ("EngraversHouse$Score", "author", "I", true)
  | 4 => ("EngraversHouse$Score", "meter", "I", true)
  | 5 => ("EngraversHouse$Score", "voices", "I", true)
  | 6 => ("EngraversHouse$Score", "bars", "[LEngraversHouse$Bar;", true)
  | _ => ("EngraversHouse$Score", "begun", "[I", true)
def tyX8 : Nat → FieldType := fun k => match k with
  | 0 => .int
  | 1 => .int
  | 2 => .object "EngraversHouse$Score"
  | 3 => .int
  | 4 => .int
  | 5 => .int
  | 6 => .array (.object "EngraversHouse$Bar")
  | _ => .array .int
abbrev wsX80 : List Cond := u_ws RX8 TX8 8
theorem nmX8 : ∀ a, a < 8 → ∀ b, b < 8 → a ≠ b → (TX8 a).2.1 ≠ (TX8 b).2.1 := by decide +kernel
theorem tyX8_ok : ∀ k, k < 8 → parseFieldDescriptor (TX8 k).2.2.1 = some (tyX8 k) := by decide +kernel
abbrev cX8_init : ByteArray := prog_10_method_1_code
def yX8_init : MethodName := ⟨RX8, "<init>", "(ILEngraversHouse$Score;III)V"⟩
abbrev cX8_rootScore : ByteArray := prog_10_method_2_code
def yX8_rootScore : MethodName := ⟨RX8, "rootScore", "()LEngraversHouse$Score;"⟩
abbrev cX8_scoreNumber : ByteArray := prog_10_method_3_code
def yX8_scoreNumber : MethodName := ⟨RX8, "scoreNumber", "()I"⟩
abbrev cX8_second : ByteArray := prog_10_method_4_code
def yX8_second : MethodName := ⟨RX8, "second", "()I"⟩
abbrev cX8_third : ByteArray := prog_10_method_5_code
def yX8_third : MethodName := ⟨RX8, "third", "()I"⟩
abbrev cX8_hasVoice : ByteArray := prog_10_method_6_code
def yX8_hasVoice : MethodName := ⟨RX8, "hasVoice", "(I)Z"⟩
abbrev cX8_begunBar : ByteArray := prog_10_method_7_code
def yX8_begunBar : MethodName := ⟨RX8, "begunBar", "(II)LEngraversHouse$Bar;"⟩
abbrev cX8_openBar : ByteArray := prog_10_method_8_code
def yX8_openBar : MethodName := ⟨RX8, "openBar", "(I)LEngraversHouse$Bar;"⟩
abbrev cX8_wholeBars : ByteArray := prog_10_method_9_code
def yX8_wholeBars : MethodName := ⟨RX8, "wholeBars", "(I)I"⟩
abbrev cX8_wholeBar : ByteArray := prog_10_method_10_code
def yX8_wholeBar : MethodName := ⟨RX8, "wholeBar", "(II)LEngraversHouse$Bar;"⟩
abbrev cX8_takeNote : ByteArray := prog_10_method_11_code
def yX8_takeNote : MethodName := ⟨RX8, "takeNote", "(II)I"⟩
def RX9 : String := "EngraversHouse$Thing"
def TX9 : u_T := fun k => match k with
  | _ => ("", "", "", false)
def tyX9 : Nat → FieldType := fun k => match k with
  | _ => .int
abbrev wsX90 : List Cond := u_ws RX9 TX9 0
theorem nmX9 : ∀ a, a < 0 → ∀ b, b < 0 → a ≠ b → (TX9 a).2.1 ≠ (TX9 b).2.1 := by decide +kernel
theorem tyX9_ok : ∀ k, k < 0 → parseFieldDescriptor (TX9 k).2.2.1 = some (tyX9 k) := by decide +kernel
abbrev cX9_init : ByteArray := prog_11_method_1_code
def yX9_init : MethodName := ⟨RX9, "<init>", "(II)V"⟩
def RX10 : String := "EngraversHouse$Tour"
def TX10 : u_T := fun k => match k with
  | 0 => ("EngraversHouse$Tour", "ways", "[I", true)
  | 1 => ("EngraversHouse$Tour", "count", "I", false)
  | 2 => ("EngraversHouse$Tour", "towns", "[I", true)
  | 3 => ("EngraversHouse$Tour", "froms", "[I", true)
  | 4 => ("EngraversHouse$Tour", "tos", "[I", true)
  | 5 => ("EngraversHouse$Tour", "worths", "[I", true)
  | 6 => ("EngraversHouse$Tour", "order", "[I", true)
  | 7 => ("EngraversHouse$Tour", "bestWorth", "[I", true)
  | 8 => ("EngraversHouse$Tour", "bestSize", "[I", true)
  | _ => ("EngraversHouse$Tour", "bestBits", "[I", true)
def tyX10 : Nat → FieldType := fun k => match k with
  | 0 => .array .int
  | 1 => .int
  | 2 => .array .int
  | 3 => .array .int
  | 4 => .array .int
  | 5 => .array .int
  | 6 => .array .int
  | 7 => .array .int
  | 8 => .array .int
  | _ => .array .int
abbrev wsX100 : List Cond := u_ws RX10 TX10 10
theorem nmX10 : ∀ a, a < 10 → ∀ b, b < 10 → a ≠ b → (TX10 a).2.1 ≠ (TX10 b).2.1 := by decide +kernel
theorem tyX10_ok : ∀ k, k < 10 → parseFieldDescriptor (TX10 k).2.2.1 = some (tyX10 k) := by decide +kernel
abbrev cX10_init : ByteArray := prog_12_method_1_code
def yX10_init : MethodName := ⟨RX10, "<init>", "()V"⟩
abbrev cX10_wayBetween : ByteArray := prog_12_method_2_code
def yX10_wayBetween : MethodName := ⟨RX10, "wayBetween", "(II)I"⟩
abbrev cX10_changeWay : ByteArray := prog_12_method_3_code
def yX10_changeWay : MethodName := ⟨RX10, "changeWay", "(III)I"⟩
abbrev cX10_addAsk : ByteArray := prog_12_method_4_code
def yX10_addAsk : MethodName := ⟨RX10, "addAsk", "(IIII)I"⟩
abbrev cX10_bestFirst : ByteArray := prog_12_method_5_code
def yX10_bestFirst : MethodName := ⟨RX10, "bestFirst", "(II)I"⟩
abbrev cX10_bestBehind : ByteArray := prog_12_method_6_code
def yX10_bestBehind : MethodName := ⟨RX10, "bestBehind", "(III)I"⟩
abbrev cX10_isBetter : ByteArray := prog_12_method_7_code
def yX10_isBetter : MethodName := ⟨RX10, "isBetter", "(II)Z"⟩
abbrev cX10_worthFrom : ByteArray := prog_12_method_8_code
def yX10_worthFrom : MethodName := ⟨RX10, "worthFrom", "(I)I"⟩
abbrev cX10_bitsFrom : ByteArray := prog_12_method_9_code
def yX10_bitsFrom : MethodName := ⟨RX10, "bitsFrom", "(I)I"⟩
def RX11 : String := "EngraversHouse"
def TX11 : u_T := fun k => match k with
  | 0 => ("EngraversHouse", "today", "I", false)
  | 1 => ("EngraversHouse", "deaths", "[I", true)
  | 2 => ("EngraversHouse", "authorCount", "I", false)
  | 3 => ("EngraversHouse", "things", "[LEngraversHouse$Thing;", true)
  | 4 => ("EngraversHouse", "thingCount", "I", false)
  | 5 => ("EngraversHouse", "musicEnd", "I", false)
  | 6 => ("EngraversHouse", "pressed", "[LEngraversHouse$Plate;", true)
  | 7 => ("EngraversHouse", "pressCount", "I", false)
  | 8 => ("EngraversHouse", "layout", "LEngraversHouse$Layout;", true)
  | 9 => ("EngraversHouse", "text", "[I", true)
  | 10 => ("EngraversHouse", "textLength", "I", false)
  | 11 => ("EngraversHouse", "contracts", "[LEngraversHouse$Contract;", true)
  | 12 => ("EngraversHouse", "contractCount", "I", false)
  | 13 => ("EngraversHouse", "tour", "LEngraversHouse$Tour;", true)
  | 14 => ("EngraversHouse", "plan", "LEngraversHouse$PrintPlan;", true)
  | 15 => ("EngraversHouse", "tapes", "[[I", true)
  | 16 => ("EngraversHouse", "tapeSorts", "[I", true)
  | 17 => ("EngraversHouse", "tapeSizes", "[I", true)
  | 18 => ("EngraversHouse", "bodiesRun", "[I", true)
  | _ => ("EngraversHouse", "bodyCount", "I", false)
def tyX11 : Nat → FieldType := fun k => match k with
  | 0 => .int
  | 1 => .array .int
  | 2 => .int
  | 3 => .array (.object "EngraversHouse$Thing")
  | 4 => .int
  | 5 => .int
  | 6 => .array (.object "EngraversHouse$Plate")
  | 7 => .int
  | 8 => .object "EngraversHouse$Layout"
  | 9 => .array .int
  | 10 => .int
  | 11 => .array (.object "EngraversHouse$Contract")
  | 12 => .int
  | 13 => .object "EngraversHouse$Tour"
  | 14 => .object "EngraversHouse$PrintPlan"
  | 15 => .array (.array .int)
  | 16 => .array .int
  | 17 => .array .int
  | 18 => .array .int
  | _ => .int
abbrev wsX110 : List Cond := u_ws RX11 TX11 20
theorem nmX11 : ∀ a, a < 20 → ∀ b, b < 20 → a ≠ b → (TX11 a).2.1 ≠ (TX11 b).2.1 := by decide +kernel
theorem tyX11_ok : ∀ k, k < 20 → parseFieldDescriptor (TX11 k).2.2.1 = some (tyX11 k) := by decide +kernel
abbrev cX11_init : ByteArray := prog_1_method_1_code
def yX11_init : MethodName := ⟨RX11, "<init>", "()V"⟩
abbrev cX11_pass : ByteArray := prog_1_method_2_code
def yX11_pass : MethodName := ⟨RX11, "pass", "(I)I"⟩
abbrev cX11_author : ByteArray := prog_1_method_3_code
def yX11_author : MethodName := ⟨RX11, "author", "()I"⟩
abbrev cX11_died : ByteArray := prog_1_method_4_code
def yX11_died : MethodName := ⟨RX11, "died", "(II)I"⟩
abbrev cX11_score : ByteArray := prog_1_method_5_code
def yX11_score : MethodName := ⟨RX11, "score", "(III)I"⟩
abbrev cX11_derive : ByteArray := prog_1_method_6_code
def yX11_derive : MethodName := ⟨RX11, "derive", "(IIII)I"⟩
abbrev cX11_note : ByteArray := prog_1_method_7_code
def yX11_note : MethodName := ⟨RX11, "note", "(IIIII)I"⟩
abbrev cX11_alter : ByteArray := prog_1_method_8_code
def yX11_alter : MethodName := ⟨RX11, "alter", "(IIIII)I"⟩
abbrev cX11_music : ByteArray := prog_1_method_9_code
def yX11_music : MethodName := ⟨RX11, "music", "(IIIII)I"⟩
abbrev cX11_ended : ByteArray := prog_1_method_10_code
def yX11_ended : MethodName := ⟨RX11, "ended", "()I"⟩
abbrev cX11_of : ByteArray := prog_1_method_11_code
def yX11_of : MethodName := ⟨RX11, "of", "(II)I"⟩
abbrev cX11_bars : ByteArray := prog_1_method_12_code
def yX11_bars : MethodName := ⟨RX11, "bars", "(II)I"⟩
abbrev cX11_part : ByteArray := prog_1_method_13_code
def yX11_part : MethodName := ⟨RX11, "part", "(III)I"⟩
abbrev cX11_heard : ByteArray := prog_1_method_14_code
def yX11_heard : MethodName := ⟨RX11, "heard", "(III)I"⟩
abbrev cX11_plate : ByteArray := prog_1_method_15_code
def yX11_plate : MethodName := ⟨RX11, "plate", "(III)I"⟩
abbrev cX11_mend : ByteArray := prog_1_method_16_code
def yX11_mend : MethodName := ⟨RX11, "mend", "(IIII)I"⟩
abbrev cX11_differs : ByteArray := prog_1_method_17_code
def yX11_differs : MethodName := ⟨RX11, "differs", "(II)I"⟩
abbrev cX11_press : ByteArray := prog_1_method_18_code
def yX11_press : MethodName := ⟨RX11, "press", "(I)I"⟩
abbrev cX11_edition : ByteArray := prog_1_method_19_code
def yX11_edition : MethodName := ⟨RX11, "edition", "()I"⟩
abbrev cX11_printed : ByteArray := prog_1_method_20_code
def yX11_printed : MethodName := ⟨RX11, "printed", "(IIIII)I"⟩
abbrev cX11_erratum : ByteArray := prog_1_method_21_code
def yX11_erratum : MethodName := ⟨RX11, "erratum", "(IIIIII)I"⟩
abbrev cX11_idle : ByteArray := prog_1_method_22_code
def yX11_idle : MethodName := ⟨RX11, "idle", "(I)I"⟩
abbrev cX11_changes : ByteArray := prog_1_method_23_code
def yX11_changes : MethodName := ⟨RX11, "changes", "(III)I"⟩
abbrev cX11_hangs : ByteArray := prog_1_method_24_code
def yX11_hangs : MethodName := ⟨RX11, "hangs", "(I)I"⟩
abbrev cX11_pages : ByteArray := prog_1_method_25_code
def yX11_pages : MethodName := ⟨RX11, "pages", "(IIII)I"⟩
abbrev cX11_feed : ByteArray := prog_1_method_26_code
def yX11_feed : MethodName := ⟨RX11, "feed", "(II)I"⟩
abbrev cX11_contract : ByteArray := prog_1_method_27_code
def yX11_contract : MethodName := ⟨RX11, "contract", "(II)I"⟩
abbrev cX11_lawful : ByteArray := prog_1_method_28_code
def yX11_lawful : MethodName := ⟨RX11, "lawful", "(III)I"⟩
abbrev cX11_right : ByteArray := prog_1_method_29_code
def yX11_right : MethodName := ⟨RX11, "right", "(III)I"⟩
abbrev cX11_paid : ByteArray := prog_1_method_30_code
def yX11_paid : MethodName := ⟨RX11, "paid", "(IIIIIII)I"⟩
abbrev cX11_set : ByteArray := prog_1_method_31_code
def yX11_set : MethodName := ⟨RX11, "set", "(I)I"⟩
abbrev cX11_stands : ByteArray := prog_1_method_32_code
def yX11_stands : MethodName := ⟨RX11, "stands", "(II)I"⟩
abbrev cX11_way : ByteArray := prog_1_method_33_code
def yX11_way : MethodName := ⟨RX11, "way", "(III)I"⟩
abbrev cX11_ask : ByteArray := prog_1_method_34_code
def yX11_ask : MethodName := ⟨RX11, "ask", "(IIII)I"⟩
abbrev cX11_askless : ByteArray := prog_1_method_35_code
def yX11_askless : MethodName := ⟨RX11, "askless", "()I"⟩
abbrev cX11_hire : ByteArray := prog_1_method_36_code
def yX11_hire : MethodName := ⟨RX11, "hire", "(II)I"⟩
abbrev cX11_month : ByteArray := prog_1_method_37_code
def yX11_month : MethodName := ⟨RX11, "month", "(I)I"⟩
abbrev cX11_costs : ByteArray := prog_1_method_38_code
def yX11_costs : MethodName := ⟨RX11, "costs", "(III)I"⟩
abbrev cX11_prints : ByteArray := prog_1_method_39_code
def yX11_prints : MethodName := ⟨RX11, "prints", "(I)I"⟩
abbrev cX11_proof : ByteArray := prog_1_method_40_code
def yX11_proof : MethodName := ⟨RX11, "proof", "(III)I"⟩
abbrev cX11_left : ByteArray := prog_1_method_41_code
def yX11_left : MethodName := ⟨RX11, "left", "(IIII)J"⟩
abbrev cX11_missed : ByteArray := prog_1_method_42_code
def yX11_missed : MethodName := ⟨RX11, "missed", "(II)I"⟩
abbrev cX11_act : ByteArray := prog_1_method_43_code
def yX11_act : MethodName := ⟨RX11, "act", "(III)I"⟩
abbrev cX11_trace : ByteArray := prog_1_method_44_code
def yX11_trace : MethodName := ⟨RX11, "trace", "(I)I"⟩
abbrev cX11_taken : ByteArray := prog_1_method_45_code
def yX11_taken : MethodName := ⟨RX11, "taken", "(II)I"⟩
abbrev cX11_count : ByteArray := prog_1_method_46_code
def yX11_count : MethodName := ⟨RX11, "count", "(I)I"⟩
abbrev cX11_tape : ByteArray := prog_1_method_47_code
def yX11_tape : MethodName := ⟨RX11, "tape", "(III)I"⟩
abbrev cX11_item : ByteArray := prog_1_method_48_code
def yX11_item : MethodName := ⟨RX11, "item", "(III)I"⟩
abbrev cX11_read : ByteArray := prog_1_method_49_code
def yX11_read : MethodName := ⟨RX11, "read", "(II)J"⟩
abbrev cX11_shift : ByteArray := prog_1_method_50_code
def yX11_shift : MethodName := ⟨RX11, "shift", "(IIIII)I"⟩
abbrev cX11_within : ByteArray := prog_1_method_51_code
def yX11_within : MethodName := ⟨RX11, "within", "(III)Z"⟩
abbrev cX11_isDay : ByteArray := prog_1_method_52_code
def yX11_isDay : MethodName := ⟨RX11, "isDay", "(I)Z"⟩
abbrev cX11_isMeter : ByteArray := prog_1_method_53_code
def yX11_isMeter : MethodName := ⟨RX11, "isMeter", "(I)Z"⟩
abbrev cX11_isTown : ByteArray := prog_1_method_54_code
def yX11_isTown : MethodName := ⟨RX11, "isTown", "(I)Z"⟩
abbrev cX11_isHand : ByteArray := prog_1_method_55_code
def yX11_isHand : MethodName := ⟨RX11, "isHand", "(I)Z"⟩
abbrev cX11_isTape : ByteArray := prog_1_method_56_code
def yX11_isTape : MethodName := ⟨RX11, "isTape", "(I)Z"⟩
abbrev cX11_isNote : ByteArray := prog_1_method_57_code
def yX11_isNote : MethodName := ⟨RX11, "isNote", "(III)Z"⟩
abbrev cX11_isAuthor : ByteArray := prog_1_method_58_code
def yX11_isAuthor : MethodName := ⟨RX11, "isAuthor", "(I)Z"⟩
abbrev cX11_commonDivisor : ByteArray := prog_1_method_59_code
def yX11_commonDivisor : MethodName := ⟨RX11, "commonDivisor", "(II)I"⟩
abbrev cX11_noteCode : ByteArray := prog_1_method_60_code
def yX11_noteCode : MethodName := ⟨RX11, "noteCode", "(III)I"⟩
abbrev cX11_isRest : ByteArray := prog_1_method_61_code
def yX11_isRest : MethodName := ⟨RX11, "isRest", "(I)Z"⟩
abbrev cX11_pitchOf : ByteArray := prog_1_method_62_code
def yX11_pitchOf : MethodName := ⟨RX11, "pitchOf", "(I)I"⟩
abbrev cX11_lengthOf : ByteArray := prog_1_method_63_code
def yX11_lengthOf : MethodName := ⟨RX11, "lengthOf", "(I)I"⟩
abbrev cX11_shifted : ByteArray := prog_1_method_64_code
def yX11_shifted : MethodName := ⟨RX11, "shifted", "(II)I"⟩
abbrev cX11_withPitch : ByteArray := prog_1_method_65_code
def yX11_withPitch : MethodName := ⟨RX11, "withPitch", "(II)I"⟩
abbrev cX11_tellNote : ByteArray := prog_1_method_66_code
def yX11_tellNote : MethodName := ⟨RX11, "tellNote", "(LEngraversHouse$Bar;I)I"⟩
abbrev cX11_repitched : ByteArray := prog_1_method_67_code
def yX11_repitched : MethodName := ⟨RX11, "repitched", "(LEngraversHouse$Bar;III)I"⟩
abbrev cX11_keep : ByteArray := prog_1_method_68_code
def yX11_keep : MethodName := ⟨RX11, "keep", "(LEngraversHouse$Thing;)I"⟩
abbrev cX11_thingAt : ByteArray := prog_1_method_69_code
def yX11_thingAt : MethodName := ⟨RX11, "thingAt", "(I)LEngraversHouse$Thing;"⟩
abbrev cX11_lacking : ByteArray := prog_1_method_70_code
def yX11_lacking : MethodName := ⟨RX11, "lacking", "(I)I"⟩
abbrev cX11_scoreAt : ByteArray := prog_1_method_71_code
def yX11_scoreAt : MethodName := ⟨RX11, "scoreAt", "(I)LEngraversHouse$Score;"⟩
abbrev cX11_partAt : ByteArray := prog_1_method_72_code
def yX11_partAt : MethodName := ⟨RX11, "partAt", "(I)LEngraversHouse$Part;"⟩
abbrev cX11_setAt : ByteArray := prog_1_method_73_code
def yX11_setAt : MethodName := ⟨RX11, "setAt", "(I)LEngraversHouse$Part;"⟩
abbrev cX11_plateAt : ByteArray := prog_1_method_74_code
def yX11_plateAt : MethodName := ⟨RX11, "plateAt", "(I)LEngraversHouse$Plate;"⟩
abbrev cX11_editionAt : ByteArray := prog_1_method_75_code
def yX11_editionAt : MethodName := ⟨RX11, "editionAt", "(I)LEngraversHouse$Edition;"⟩
abbrev cX11_erratumAt : ByteArray := prog_1_method_76_code
def yX11_erratumAt : MethodName := ⟨RX11, "erratumAt", "(I)LEngraversHouse$Erratum;"⟩
abbrev cX11_hasStretch : ByteArray := prog_1_method_77_code
def yX11_hasStretch : MethodName := ⟨RX11, "hasStretch", "(IJJ)Z"⟩
abbrev cX11_asItem : ByteArray := prog_1_method_78_code
def yX11_asItem : MethodName := ⟨RX11, "asItem", "(II)I"⟩
abbrev cX11_takeFromTape : ByteArray := prog_1_method_79_code
def yX11_takeFromTape : MethodName := ⟨RX11, "takeFromTape", "(LEngraversHouse$Score;IIJ)I"⟩
abbrev cX11_placeInEdition : ByteArray := prog_1_method_80_code
def yX11_placeInEdition : MethodName := ⟨RX11, "placeInEdition", "(III)I"⟩
abbrev cX11_amendedNote : ByteArray := prog_1_method_81_code
def yX11_amendedNote : MethodName := ⟨RX11, "amendedNote", "(LEngraversHouse$Edition;IIII)I"⟩
abbrev cX11_growTree : ByteArray := prog_1_method_82_code
def yX11_growTree : MethodName := ⟨RX11, "growTree", "(LEngraversHouse$Score;)V"⟩
abbrev cX11_nearestToTree : ByteArray := prog_1_method_83_code
def yX11_nearestToTree : MethodName := ⟨RX11, "nearestToTree", "(LEngraversHouse$Score;)LEngraversHouse$Edition;"⟩
abbrev cX11_contractAt : ByteArray := prog_1_method_84_code
def yX11_contractAt : MethodName := ⟨RX11, "contractAt", "(I)LEngraversHouse$Contract;"⟩
abbrev cX11_contractNumber : ByteArray := prog_1_method_85_code
def yX11_contractNumber : MethodName := ⟨RX11, "contractNumber", "(II)I"⟩
abbrev cX11_lifeBy : ByteArray := prog_1_method_86_code
def yX11_lifeBy : MethodName := ⟨RX11, "lifeBy", "(LEngraversHouse$Contract;)I"⟩
abbrev cX11_daysSinceDeath : ByteArray := prog_1_method_87_code
def yX11_daysSinceDeath : MethodName := ⟨RX11, "daysSinceDeath", "(II)I"⟩
abbrev cX11_wholeYearsSince : ByteArray := prog_1_method_88_code
def yX11_wholeYearsSince : MethodName := ⟨RX11, "wholeYearsSince", "(II)I"⟩
abbrev cX11_hasRight : ByteArray := prog_1_method_89_code
def yX11_hasRight : MethodName := ⟨RX11, "hasRight", "(ILEngraversHouse$Contract;I)Z"⟩
abbrev cX11_isUnder : ByteArray := prog_1_method_90_code
def yX11_isUnder : MethodName := ⟨RX11, "isUnder", "(II)Z"⟩
abbrev cX11_ownBody : ByteArray := prog_1_method_91_code
def yX11_ownBody : MethodName := ⟨RX11, "ownBody", "(II)I"⟩
abbrev cX11_kindAbove : ByteArray := prog_1_method_92_code
def yX11_kindAbove : MethodName := ⟨RX11, "kindAbove", "(I)I"⟩
abbrev cX11_runBody : ByteArray := prog_1_method_93_code
def yX11_runBody : MethodName := ⟨RX11, "runBody", "(LEngraversHouse$Thing;IIII)I"⟩
abbrev cX11_answerOf : ByteArray := prog_1_method_94_code
def yX11_answerOf : MethodName := ⟨RX11, "answerOf", "(ILEngraversHouse$Thing;III)I"⟩
def RX12 : String := "EngraversHouseModel"
def TX12 : u_T := fun k => match k with
  | 0 => ("EngraversHouseModel", "code", "I", false)
  | 1 => ("EngraversHouseModel", "today", "I", false)
  | 2 => ("EngraversHouseModel", "things", "I", false)
  | 3 => ("EngraversHouseModel", "kind", "[I", true)
  | 4 => ("EngraversHouseModel", "first", "[I", true)
  | 5 => ("EngraversHouseModel", "second", "[I", true)
  | 6 => ("EngraversHouseModel", "third", "[I", true)
  | 7 => ("EngraversHouseModel", "authorOf", "[I", true)
  | 8 => ("EngraversHouseModel", "authors", "I", false)
  | 9 => ("EngraversHouseModel", "diedOn", "[I", true)
  | 10 => ("EngraversHouseModel", "pitch", "[I", true)
  | 11 => ("EngraversHouseModel", "length", "[I", true)
  | 12 => ("EngraversHouseModel", "tied", "[I", true)
  | 13 => ("EngraversHouseModel", "noteMany", "[I", true)
  | 14 => ("EngraversHouseModel", "barMany", "[I", true)
  | 15 => ("EngraversHouseModel", "musicEnded", "I", false)
  | 16 => ("EngraversHouseModel", "readMany", "I", false)
  | 17 => ("EngraversHouseModel", "readPitch", "[I", true)
  | 18 => ("EngraversHouseModel", "readLength", "[I", true)
  | 19 => ("EngraversHouseModel", "readTied", "[I", true)
  | 20 => ("EngraversHouseModel", "platePitch", "[I", true)
  | 21 => ("EngraversHouseModel", "plateLength", "[I", true)
  | 22 => ("EngraversHouseModel", "plateTied", "[I", true)
  | 23 => ("EngraversHouseModel", "plateMany", "[I", true)
  | 24 => ("EngraversHouseModel", "pressed", "I", false)
  | 25 => ("EngraversHouseModel", "press", "[I", true)
  | 26 => ("EngraversHouseModel", "printedPitch", "[I", true)
  | 27 => ("EngraversHouseModel", "printedLength", "[I", true)
  | 28 => ("EngraversHouseModel", "printedTied", "[I", true)
  | 29 => ("EngraversHouseModel", "printedMany", "[I", true)
  | 30 => ("EngraversHouseModel", "errorFrom", "[I", true)
  | 31 => ("EngraversHouseModel", "errorTo", "[I", true)
  | 32 => ("EngraversHouseModel", "errorNote", "[I", true)
  | 33 => ("EngraversHouseModel", "rowA", "[I", true)
  | 34 => ("EngraversHouseModel", "rowB", "[I", true)
  | 35 => ("EngraversHouseModel", "change", "[I", true)
  | 36 => ("EngraversHouseModel", "inTree", "[Z", true)
  | 37 => ("EngraversHouseModel", "wide", "[I", true)
  | 38 => ("EngraversHouseModel", "endsRest", "[Z", true)
  | 39 => ("EngraversHouseModel", "beginsRest", "[Z", true)
  | 40 => ("EngraversHouseModel", "leastCost", "[I", true)
  | 41 => ("EngraversHouseModel", "takes", "[I", true)
  | 42 => ("EngraversHouseModel", "text", "[B", true)
  | 43 => ("EngraversHouseModel", "texted", "I", false)
  | 44 => ("EngraversHouseModel", "contracts", "I", false)
  | 45 => ("EngraversHouseModel", "landOf", "[I", true)
  | 46 => ("EngraversHouseModel", "contractDay", "[I", true)
  | 47 => ("EngraversHouseModel", "life", "[I", true)
  | 48 => ("EngraversHouseModel", "leastPaid", "[I", true)
  | 49 => ("EngraversHouseModel", "clauseMany", "[I", true)
  | 50 => ("EngraversHouseModel", "clauseWho", "[I", true)
  | 51 => ("EngraversHouseModel", "clauseAct", "[I", true)
  | 52 => ("EngraversHouseModel", "clauseShare", "[I", true)
  | 53 => ("EngraversHouseModel", "clauseFrom", "[I", true)
  | 54 => ("EngraversHouseModel", "clauseTo", "[I", true)
  | 55 => ("EngraversHouseModel", "step", "[I", true)
  | 56 => ("EngraversHouseModel", "with", "[I", true)
  | 57 => ("EngraversHouseModel", "here", "I", false)
  | 58 => ("EngraversHouseModel", "laid", "I", false)
  | 59 => ("EngraversHouseModel", "row", "I", false)
  | 60 => ("EngraversHouseModel", "open", "I", false)
  | 61 => ("EngraversHouseModel", "number", "I", false)
  | 62 => ("EngraversHouseModel", "pile", "[Z", true)
  | 63 => ("EngraversHouseModel", "ways", "[I", true)
  | 64 => ("EngraversHouseModel", "townOf", "[I", true)
  | 65 => ("EngraversHouseModel", "asks", "I", false)
  | 66 => ("EngraversHouseModel", "askTown", "[I", true)
  | 67 => ("EngraversHouseModel", "askFrom", "[I", true)
  | 68 => ("EngraversHouseModel", "askTo", "[I", true)
  | 69 => ("EngraversHouseModel", "askWorth", "[I", true)
  | 70 => ("EngraversHouseModel", "months", "I", false)
  | 71 => ("EngraversHouseModel", "asked", "[I", true)
  | 72 => ("EngraversHouseModel", "setup", "I", false)
  | 73 => ("EngraversHouseModel", "hold", "I", false)
  | 74 => ("EngraversHouseModel", "most", "I", false)
  | 75 => ("EngraversHouseModel", "marked", "[I", true)
  | 76 => ("EngraversHouseModel", "traces", "I", false)
  | 77 => ("EngraversHouseModel", "traced", "[I", true)
  | 78 => ("EngraversHouseModel", "tapeSort", "[I", true)
  | 79 => ("EngraversHouseModel", "tapeSize", "[I", true)
  | 80 => ("EngraversHouseModel", "items", "[I", true)
  | _ => ("EngraversHouseModel", "shifted", "[I", true)
def tyX12 : Nat → FieldType := fun k => match k with
  | 0 => .int
  | 1 => .int
  | 2 => .int
  | 3 => .array .int
  | 4 => .array .int
  | 5 => .array .int
  | 6 => .array .int
  | 7 => .array .int
  | 8 => .int
  | 9 => .array .int
  | 10 => .array .int
  | 11 => .array .int
  | 12 => .array .int
  | 13 => .array .int
  | 14 => .array .int
  | 15 => .int
  | 16 => .int
  | 17 => .array .int
  | 18 => .array .int
  | 19 => .array .int
  | 20 => .array .int
  | 21 => .array .int
  | 22 => .array .int
  | 23 => .array .int
  | 24 => .int
  | 25 => .array .int
  | 26 => .array .int
  | 27 => .array .int
  | 28 => .array .int
  | 29 => .array .int
  | 30 => .array .int
  | 31 => .array .int
  | 32 => .array .int
  | 33 => .array .int
  | 34 => .array .int
  | 35 => .array .int
  | 36 => .array .boolean
  | 37 => .array .int
  | 38 => .array .boolean
  | 39 => .array .boolean
  | 40 => .array .int
  | 41 => .array .int
  | 42 => .array .byte
  | 43 => .int
  | 44 => .int
  | 45 => .array .int
  | 46 => .array .int
  | 47 => .array .int
  | 48 => .array .int
  | 49 => .array .int
  | 50 => .array .int
  | 51 => .array .int
  | 52 => .array .int
  | 53 => .array .int
  | 54 => .array .int
  | 55 => .array .int
  | 56 => .array .int
  | 57 => .int
  | 58 => .int
  | 59 => .int
  | 60 => .int
  | 61 => .int
  | 62 => .array .boolean
  | 63 => .array .int
  | 64 => .array .int
  | 65 => .int
  | 66 => .array .int
  | 67 => .array .int
  | 68 => .array .int
  | 69 => .array .int
  | 70 => .int
  | 71 => .array .int
  | 72 => .int
  | 73 => .int
  | 74 => .int
  | 75 => .array .int
  | 76 => .int
  | 77 => .array .int
  | 78 => .array .int
  | 79 => .array .int
  | 80 => .array .int
  | _ => .array .int
abbrev wsX120 : List Cond := u_ws RX12 TX12 82
theorem nmX12 : ∀ a, a < 82 → ∀ b, b < 82 → a ≠ b → (TX12 a).2.1 ≠ (TX12 b).2.1 := by decide +kernel
theorem tyX12_ok : ∀ k, k < 82 → parseFieldDescriptor (TX12 k).2.2.1 = some (tyX12 k) := by decide +kernel
abbrev cX12_in : ByteArray := prog_14_method_2_code
def yX12_in : MethodName := ⟨RX12, "in", "(III)Z"⟩
abbrev cX12_isDay : ByteArray := prog_14_method_3_code
def yX12_isDay : MethodName := ⟨RX12, "isDay", "(I)Z"⟩
abbrev cX12_init : ByteArray := prog_14_method_4_code
def yX12_init : MethodName := ⟨RX12, "<init>", "()V"⟩
abbrev cX12_isThing : ByteArray := prog_14_method_5_code
def yX12_isThing : MethodName := ⟨RX12, "isThing", "(I)Z"⟩
abbrev cX12_isUnder : ByteArray := prog_14_method_6_code
def yX12_isUnder : MethodName := ⟨RX12, "isUnder", "(II)Z"⟩
abbrev cX12_isMusic : ByteArray := prog_14_method_7_code
def yX12_isMusic : MethodName := ⟨RX12, "isMusic", "(I)Z"⟩
abbrev cX12_isPart : ByteArray := prog_14_method_8_code
def yX12_isPart : MethodName := ⟨RX12, "isPart", "(I)Z"⟩
abbrev cX12_add : ByteArray := prog_14_method_9_code
def yX12_add : MethodName := ⟨RX12, "add", "(IIII)I"⟩
abbrev cX12_pass : ByteArray := prog_14_method_10_code
def yX12_pass : MethodName := ⟨RX12, "pass", "(I)I"⟩
abbrev cX12_isAuthor : ByteArray := prog_14_method_11_code
def yX12_isAuthor : MethodName := ⟨RX12, "isAuthor", "(I)Z"⟩
abbrev cX12_author : ByteArray := prog_14_method_12_code
def yX12_author : MethodName := ⟨RX12, "author", "()I"⟩
abbrev cX12_died : ByteArray := prog_14_method_13_code
def yX12_died : MethodName := ⟨RX12, "died", "(II)I"⟩
abbrev cX12_areScore : ByteArray := prog_14_method_14_code
def yX12_areScore : MethodName := ⟨RX12, "areScore", "(II)Z"⟩
abbrev cX12_score : ByteArray := prog_14_method_15_code
def yX12_score : MethodName := ⟨RX12, "score", "(III)I"⟩
abbrev cX12_derive : ByteArray := prog_14_method_16_code
def yX12_derive : MethodName := ⟨RX12, "derive", "(IIII)I"⟩
abbrev cX12_barAt : ByteArray := prog_14_method_17_code
def yX12_barAt : MethodName := ⟨RX12, "barAt", "(III)I"⟩
abbrev cX12_filled : ByteArray := prog_14_method_18_code
def yX12_filled : MethodName := ⟨RX12, "filled", "(I)I"⟩
abbrev cX12_whole : ByteArray := prog_14_method_19_code
def yX12_whole : MethodName := ⟨RX12, "whole", "(II)I"⟩
abbrev cX12_put : ByteArray := prog_14_method_20_code
def yX12_put : MethodName := ⟨RX12, "put", "(IIIII)I"⟩
abbrev cX12_isNote : ByteArray := prog_14_method_21_code
def yX12_isNote : MethodName := ⟨RX12, "isNote", "(III)Z"⟩
abbrev cX12_note : ByteArray := prog_14_method_22_code
def yX12_note : MethodName := ⟨RX12, "note", "(IIIII)I"⟩
abbrev cX12_alter : ByteArray := prog_14_method_23_code
def yX12_alter : MethodName := ⟨RX12, "alter", "(IIIII)I"⟩
abbrev cX12_music : ByteArray := prog_14_method_24_code
def yX12_music : MethodName := ⟨RX12, "music", "(IIIII)I"⟩
abbrev cX12_ended : ByteArray := prog_14_method_25_code
def yX12_ended : MethodName := ⟨RX12, "ended", "()I"⟩
abbrev cX12_scoreOf : ByteArray := prog_14_method_26_code
def yX12_scoreOf : MethodName := ⟨RX12, "scoreOf", "(I)I"⟩
abbrev cX12_errataOf : ByteArray := prog_14_method_27_code
def yX12_errataOf : MethodName := ⟨RX12, "errataOf", "(I)I"⟩
abbrev cX12_of : ByteArray := prog_14_method_28_code
def yX12_of : MethodName := ⟨RX12, "of", "(II)I"⟩
abbrev cX12_bars : ByteArray := prog_14_method_29_code
def yX12_bars : MethodName := ⟨RX12, "bars", "(II)I"⟩
abbrev cX12_readBar : ByteArray := prog_14_method_30_code
def yX12_readBar : MethodName := ⟨RX12, "readBar", "(II)V"⟩
abbrev cX12_told : ByteArray := prog_14_method_31_code
def yX12_told : MethodName := ⟨RX12, "told", "(III)I"⟩
abbrev cX12_part : ByteArray := prog_14_method_32_code
def yX12_part : MethodName := ⟨RX12, "part", "(III)I"⟩
abbrev cX12_barsOf : ByteArray := prog_14_method_33_code
def yX12_barsOf : MethodName := ⟨RX12, "barsOf", "(I)I"⟩
abbrev cX12_heard : ByteArray := prog_14_method_34_code
def yX12_heard : MethodName := ⟨RX12, "heard", "(III)I"⟩
abbrev cX12_plate : ByteArray := prog_14_method_35_code
def yX12_plate : MethodName := ⟨RX12, "plate", "(III)I"⟩
abbrev cX12_mend : ByteArray := prog_14_method_36_code
def yX12_mend : MethodName := ⟨RX12, "mend", "(IIII)I"⟩
abbrev cX12_isOff : ByteArray := prog_14_method_37_code
def yX12_isOff : MethodName := ⟨RX12, "isOff", "(II)Z"⟩
abbrev cX12_offs : ByteArray := prog_14_method_38_code
def yX12_offs : MethodName := ⟨RX12, "offs", "(I)I"⟩
abbrev cX12_bitsOf : ByteArray := prog_14_method_39_code
def yX12_bitsOf : MethodName := ⟨RX12, "bitsOf", "(I)I"⟩
abbrev cX12_differs : ByteArray := prog_14_method_40_code
def yX12_differs : MethodName := ⟨RX12, "differs", "(II)I"⟩
abbrev cX12_press : ByteArray := prog_14_method_41_code
def yX12_press : MethodName := ⟨RX12, "press", "(I)I"⟩
abbrev cX12_edition : ByteArray := prog_14_method_42_code
def yX12_edition : MethodName := ⟨RX12, "edition", "()I"⟩
abbrev cX12_amendedPitch : ByteArray := prog_14_method_43_code
def yX12_amendedPitch : MethodName := ⟨RX12, "amendedPitch", "(IIIII)I"⟩
abbrev cX12_hasBar : ByteArray := prog_14_method_44_code
def yX12_hasBar : MethodName := ⟨RX12, "hasBar", "(III)Z"⟩
abbrev cX12_printed : ByteArray := prog_14_method_45_code
def yX12_printed : MethodName := ⟨RX12, "printed", "(IIIII)I"⟩
abbrev cX12_erratum : ByteArray := prog_14_method_46_code
def yX12_erratum : MethodName := ⟨RX12, "erratum", "(IIIIII)I"⟩
abbrev cX12_idle : ByteArray := prog_14_method_47_code
def yX12_idle : MethodName := ⟨RX12, "idle", "(I)I"⟩
abbrev cX12_areAlike : ByteArray := prog_14_method_48_code
def yX12_areAlike : MethodName := ⟨RX12, "areAlike", "(II)Z"⟩
abbrev cX12_changesOf : ByteArray := prog_14_method_49_code
def yX12_changesOf : MethodName := ⟨RX12, "changesOf", "(III)I"⟩
abbrev cX12_distance : ByteArray := prog_14_method_50_code
def yX12_distance : MethodName := ⟨RX12, "distance", "(II)I"⟩
abbrev cX12_changes : ByteArray := prog_14_method_51_code
def yX12_changes : MethodName := ⟨RX12, "changes", "(III)I"⟩
abbrev cX12_hangs : ByteArray := prog_14_method_52_code
def yX12_hangs : MethodName := ⟨RX12, "hangs", "(I)I"⟩
abbrev cX12_pages : ByteArray := prog_14_method_53_code
def yX12_pages : MethodName := ⟨RX12, "pages", "(IIII)I"⟩
abbrev cX12_feed : ByteArray := prog_14_method_54_code
def yX12_feed : MethodName := ⟨RX12, "feed", "(II)I"⟩
abbrev cX12_look : ByteArray := prog_14_method_55_code
def yX12_look : MethodName := ⟨RX12, "look", "()I"⟩
abbrev cX12_takes0 : ByteArray := prog_14_method_56_code
def yX12_takes0 : MethodName := ⟨RX12, "takes0", "(I)Z"⟩
abbrev cX12_digits : ByteArray := prog_14_method_57_code
def yX12_digits : MethodName := ⟨RX12, "digits", "()Z"⟩
abbrev cX12_lay : ByteArray := prog_14_method_58_code
def yX12_lay : MethodName := ⟨RX12, "lay", "(II)V"⟩
abbrev cX12_opens : ByteArray := prog_14_method_59_code
def yX12_opens : MethodName := ⟨RX12, "opens", "()Z"⟩
abbrev cX12_factor : ByteArray := prog_14_method_60_code
def yX12_factor : MethodName := ⟨RX12, "factor", "()Z"⟩
abbrev cX12_both : ByteArray := prog_14_method_61_code
def yX12_both : MethodName := ⟨RX12, "both", "()Z"⟩
abbrev cX12_either : ByteArray := prog_14_method_62_code
def yX12_either : MethodName := ⟨RX12, "either", "()Z"⟩
abbrev cX12_share : ByteArray := prog_14_method_63_code
def yX12_share : MethodName := ⟨RX12, "share", "()Z"⟩
abbrev cX12_clause : ByteArray := prog_14_method_64_code
def yX12_clause : MethodName := ⟨RX12, "clause", "()Z"⟩
abbrev cX12_contract : ByteArray := prog_14_method_65_code
def yX12_contract : MethodName := ⟨RX12, "contract", "(II)I"⟩
abbrev cX12_contractOf : ByteArray := prog_14_method_66_code
def yX12_contractOf : MethodName := ⟨RX12, "contractOf", "(II)I"⟩
abbrev cX12_lawful : ByteArray := prog_14_method_67_code
def yX12_lawful : MethodName := ⟨RX12, "lawful", "(III)I"⟩
abbrev cX12_isAlive : ByteArray := prog_14_method_68_code
def yX12_isAlive : MethodName := ⟨RX12, "isAlive", "(II)Z"⟩
abbrev cX12_hasRight : ByteArray := prog_14_method_69_code
def yX12_hasRight : MethodName := ⟨RX12, "hasRight", "(III)Z"⟩
abbrev cX12_right : ByteArray := prog_14_method_70_code
def yX12_right : MethodName := ⟨RX12, "right", "(III)I"⟩
abbrev cX12_holdsFor : ByteArray := prog_14_method_71_code
def yX12_holdsFor : MethodName := ⟨RX12, "holdsFor", "(IZII)Z"⟩
abbrev cX12_gets : ByteArray := prog_14_method_72_code
def yX12_gets : MethodName := ⟨RX12, "gets", "(IIIZIIII)I"⟩
abbrev cX12_paid : ByteArray := prog_14_method_73_code
def yX12_paid : MethodName := ⟨RX12, "paid", "(IIIIIII)I"⟩
abbrev cX12_isTown : ByteArray := prog_14_method_74_code
def yX12_isTown : MethodName := ⟨RX12, "isTown", "(I)Z"⟩
abbrev cX12_set : ByteArray := prog_14_method_75_code
def yX12_set : MethodName := ⟨RX12, "set", "(I)I"⟩
abbrev cX12_stands : ByteArray := prog_14_method_76_code
def yX12_stands : MethodName := ⟨RX12, "stands", "(II)I"⟩
abbrev cX12_way : ByteArray := prog_14_method_77_code
def yX12_way : MethodName := ⟨RX12, "way", "(III)I"⟩
abbrev cX12_ask : ByteArray := prog_14_method_78_code
def yX12_ask : MethodName := ⟨RX12, "ask", "(IIII)I"⟩
abbrev cX12_askless : ByteArray := prog_14_method_79_code
def yX12_askless : MethodName := ⟨RX12, "askless", "()I"⟩
abbrev cX12_serves : ByteArray := prog_14_method_80_code
def yX12_serves : MethodName := ⟨RX12, "serves", "(II)Z"⟩
abbrev cX12_hire : ByteArray := prog_14_method_81_code
def yX12_hire : MethodName := ⟨RX12, "hire", "(II)I"⟩
abbrev cX12_month : ByteArray := prog_14_method_82_code
def yX12_month : MethodName := ⟨RX12, "month", "(I)I"⟩
abbrev cX12_costs : ByteArray := prog_14_method_83_code
def yX12_costs : MethodName := ⟨RX12, "costs", "(III)I"⟩
abbrev cX12_costOf : ByteArray := prog_14_method_84_code
def yX12_costOf : MethodName := ⟨RX12, "costOf", "(I)I"⟩
abbrev cX12_prints : ByteArray := prog_14_method_85_code
def yX12_prints : MethodName := ⟨RX12, "prints", "(I)I"⟩
abbrev cX12_proof : ByteArray := prog_14_method_86_code
def yX12_proof : MethodName := ⟨RX12, "proof", "(III)I"⟩
abbrev cX12_left : ByteArray := prog_14_method_87_code
def yX12_left : MethodName := ⟨RX12, "left", "(IIII)J"⟩
abbrev cX12_missed : ByteArray := prog_14_method_88_code
def yX12_missed : MethodName := ⟨RX12, "missed", "(II)I"⟩
abbrev cX12_ran : ByteArray := prog_14_method_89_code
def yX12_ran : MethodName := ⟨RX12, "ran", "(I)V"⟩
abbrev cX12_plainHolds : ByteArray := prog_14_method_90_code
def yX12_plainHolds : MethodName := ⟨RX12, "plainHolds", "(II)I"⟩
abbrev cX12_scoreHolds : ByteArray := prog_14_method_91_code
def yX12_scoreHolds : MethodName := ⟨RX12, "scoreHolds", "(II)I"⟩
abbrev cX12_holds : ByteArray := prog_14_method_92_code
def yX12_holds : MethodName := ⟨RX12, "holds", "(II)I"⟩
abbrev cX12_plainTurns : ByteArray := prog_14_method_93_code
def yX12_plainTurns : MethodName := ⟨RX12, "plainTurns", "(II)I"⟩
abbrev cX12_partTurns : ByteArray := prog_14_method_94_code
def yX12_partTurns : MethodName := ⟨RX12, "partTurns", "(II)I"⟩
abbrev cX12_turns : ByteArray := prog_14_method_95_code
def yX12_turns : MethodName := ⟨RX12, "turns", "(II)I"⟩
abbrev cX12_plainEarns : ByteArray := prog_14_method_96_code
def yX12_plainEarns : MethodName := ⟨RX12, "plainEarns", "(II)I"⟩
abbrev cX12_earns : ByteArray := prog_14_method_97_code
def yX12_earns : MethodName := ⟨RX12, "earns", "(II)I"⟩
abbrev cX12_act : ByteArray := prog_14_method_98_code
def yX12_act : MethodName := ⟨RX12, "act", "(III)I"⟩
abbrev cX12_trace : ByteArray := prog_14_method_99_code
def yX12_trace : MethodName := ⟨RX12, "trace", "(I)I"⟩
abbrev cX12_taken : ByteArray := prog_14_method_100_code
def yX12_taken : MethodName := ⟨RX12, "taken", "(II)I"⟩
abbrev cX12_count : ByteArray := prog_14_method_101_code
def yX12_count : MethodName := ⟨RX12, "count", "(I)I"⟩
abbrev cX12_isTape : ByteArray := prog_14_method_102_code
def yX12_isTape : MethodName := ⟨RX12, "isTape", "(I)Z"⟩
abbrev cX12_tape : ByteArray := prog_14_method_103_code
def yX12_tape : MethodName := ⟨RX12, "tape", "(III)I"⟩
abbrev cX12_item : ByteArray := prog_14_method_104_code
def yX12_item : MethodName := ⟨RX12, "item", "(III)I"⟩
abbrev cX12_read : ByteArray := prog_14_method_105_code
def yX12_read : MethodName := ⟨RX12, "read", "(II)J"⟩
abbrev cX12_shift : ByteArray := prog_14_method_106_code
def yX12_shift : MethodName := ⟨RX12, "shift", "(IIIII)I"⟩
def RJx145de : String := "java/io/Serializable"
def TJx145de : u_T := fun k => match k with
  | _ => ("", "", "", false)
def tyJx145de : Nat → FieldType := fun k => match k with
  | _ => .int
abbrev wsJx145de0 : List Cond := u_ws RJx145de TJx145de 0
theorem nmJx145de : ∀ a, a < 0 → ∀ b, b < 0 → a ≠ b → (TJx145de a).2.1 ≠ (TJx145de b).2.1 := by decide +kernel
theorem tyJx145de_ok : ∀ k, k < 0 → parseFieldDescriptor (TJx145de k).2.2.1 = some (tyJx145de k) := by decide +kernel
def RJx9f9b0 : String := "java/lang/CharSequence"
def TJx9f9b0 : u_T := fun k => match k with
  | _ => ("", "", "", false)
def tyJx9f9b0 : Nat → FieldType := fun k => match k with
  | _ => .int
abbrev wsJx9f9b00 : List Cond := u_ws RJx9f9b0 TJx9f9b0 0
theorem nmJx9f9b0 : ∀ a, a < 0 → ∀ b, b < 0 → a ≠ b → (TJx9f9b0 a).2.1 ≠ (TJx9f9b0 b).2.1 := by decide +kernel
theorem tyJx9f9b0_ok : ∀ k, k < 0 → parseFieldDescriptor (TJx9f9b0 k).2.2.1 = some (tyJx9f9b0 k) := by decide +kernel
def RJ11 : String := "java/lang/Character"
def TJ11 : u_T := fun k => match k with
  | _ => ("", "", "", false)
def tyJ11 : Nat → FieldType := fun k => match k with
  | _ => .int
abbrev wsJ110 : List Cond := u_ws RJ11 TJ11 0
theorem nmJ11 : ∀ a, a < 0 → ∀ b, b < 0 → a ≠ b → (TJ11 a).2.1 ≠ (TJ11 b).2.1 := by decide +kernel
theorem tyJ11_ok : ∀ k, k < 0 → parseFieldDescriptor (TJ11 k).2.2.1 = some (tyJ11 k) := by decide +kernel
abbrev cJ11_isValidCodePoint_9a6ad : ByteArray := prog_15_method_11_code
def yJ11_isValidCodePoint_9a6ad : MethodName := ⟨RJ11, "isValidCodePoint", "(I)Z"⟩
abbrev cJ11_highSurrogate_5068e : ByteArray := prog_15_method_28_code
def yJ11_highSurrogate_5068e : MethodName := ⟨RJ11, "highSurrogate", "(I)C"⟩
abbrev cJ11_lowSurrogate_5068e : ByteArray := prog_15_method_29_code
def yJ11_lowSurrogate_5068e : MethodName := ⟨RJ11, "lowSurrogate", "(I)C"⟩
def RJx8e188 : String := "java/lang/Cloneable"
def TJx8e188 : u_T := fun k => match k with
  | _ => ("", "", "", false)
def tyJx8e188 : Nat → FieldType := fun k => match k with
  | _ => .int
abbrev wsJx8e1880 : List Cond := u_ws RJx8e188 TJx8e188 0
theorem nmJx8e188 : ∀ a, a < 0 → ∀ b, b < 0 → a ≠ b → (TJx8e188 a).2.1 ≠ (TJx8e188 b).2.1 := by decide +kernel
theorem tyJx8e188_ok : ∀ k, k < 0 → parseFieldDescriptor (TJx8e188 k).2.2.1 = some (tyJx8e188 k) := by decide +kernel
def RJxb160c : String := "java/lang/Comparable"
def TJxb160c : u_T := fun k => match k with
  | _ => ("", "", "", false)
def tyJxb160c : Nat → FieldType := fun k => match k with
  | _ => .int
abbrev wsJxb160c0 : List Cond := u_ws RJxb160c TJxb160c 0
theorem nmJxb160c : ∀ a, a < 0 → ∀ b, b < 0 → a ≠ b → (TJxb160c a).2.1 ≠ (TJxb160c b).2.1 := by decide +kernel
theorem tyJxb160c_ok : ∀ k, k < 0 → parseFieldDescriptor (TJxb160c k).2.2.1 = some (tyJxb160c k) := by decide +kernel
def RJ6 : String := "java/lang/Integer"
def TJ6 : u_T := fun k => match k with
  | _ => ("", "", "", false)
def tyJ6 : Nat → FieldType := fun k => match k with
  | _ => .int
abbrev wsJ60 : List Cond := u_ws RJ6 TJ6 0
theorem nmJ6 : ∀ a, a < 0 → ∀ b, b < 0 → a ≠ b → (TJ6 a).2.1 ≠ (TJ6 b).2.1 := by decide +kernel
theorem tyJ6_ok : ∀ k, k < 0 → parseFieldDescriptor (TJ6 k).2.2.1 = some (tyJ6 k) := by decide +kernel
abbrev cJ6_numberOfTrailingZeros_0f7a4 : ByteArray := prog_17_method_48_code
def yJ6_numberOfTrailingZeros_0f7a4 : MethodName := ⟨RJ6, "numberOfTrailingZeros", "(I)I"⟩
abbrev cJ6_bitCount_0f7a4 : ByteArray := prog_17_method_49_code
def yJ6_bitCount_0f7a4 : MethodName := ⟨RJ6, "bitCount", "(I)I"⟩
def RJ9 : String := "java/lang/Math"
def TJ9 : u_T := fun k => match k with
  | _ => ("", "", "", false)
def tyJ9 : Nat → FieldType := fun k => match k with
  | _ => .int
abbrev wsJ90 : List Cond := u_ws RJ9 TJ9 0
theorem nmJ9 : ∀ a, a < 0 → ∀ b, b < 0 → a ≠ b → (TJ9 a).2.1 ≠ (TJ9 b).2.1 := by decide +kernel
theorem tyJ9_ok : ∀ k, k < 0 → parseFieldDescriptor (TJ9 k).2.2.1 = some (tyJ9 k) := by decide +kernel
abbrev cJ9_max_7cf53 : ByteArray := prog_18_method_65_code
def yJ9_max_7cf53 : MethodName := ⟨RJ9, "max", "(II)I"⟩
abbrev cJ9_min_7cf53 : ByteArray := prog_18_method_69_code
def yJ9_min_7cf53 : MethodName := ⟨RJ9, "min", "(II)I"⟩
def RJ0 : String := "java/lang/String"
def TJ0 : u_T := fun k => match k with
  | _ => ("", "", "", false)
def tyJ0 : Nat → FieldType := fun k => match k with
  | _ => .int
abbrev wsJ00 : List Cond := u_ws RJ0 TJ0 0
theorem nmJ0 : ∀ a, a < 0 → ∀ b, b < 0 → a ≠ b → (TJ0 a).2.1 ≠ (TJ0 b).2.1 := by decide +kernel
theorem tyJ0_ok : ∀ k, k < 0 → parseFieldDescriptor (TJ0 k).2.2.1 = some (tyJ0 k) := by decide +kernel
abbrev cJ0_length_8abf5 : ByteArray := prog_19_method_54_code
def yJ0_length_8abf5 : MethodName := ⟨RJ0, "length", "()I"⟩
abbrev cJ0_charAt_5068e : ByteArray := prog_19_method_56_code
def yJ0_charAt_5068e : MethodName := ⟨RJ0, "charAt", "(I)C"⟩
abbrev cJ0_indexOf_0f7a4 : ByteArray := prog_19_method_79_code
def yJ0_indexOf_0f7a4 : MethodName := ⟨RJ0, "indexOf", "(I)I"⟩
abbrev cJ0_indexOf_7cf53 : ByteArray := prog_19_method_80_code
def yJ0_indexOf_7cf53 : MethodName := ⟨RJ0, "indexOf", "(II)I"⟩
abbrev cJ0_coder_7d493 : ByteArray := prog_19_method_152_code
def yJ0_coder_7d493 : MethodName := ⟨RJ0, "coder", "()B"⟩
abbrev cJ0_isLatin1_aae02 : ByteArray := prog_19_method_154_code
def yJ0_isLatin1_aae02 : MethodName := ⟨RJ0, "isLatin1", "()Z"⟩
abbrev cJ0_checkIndex_df160 : ByteArray := prog_19_method_155_code
def yJ0_checkIndex_df160 : MethodName := ⟨RJ0, "checkIndex", "(II)V"⟩
abbrev cJ0_checkBoundsBeginEnd_23922 : ByteArray := prog_19_method_158_code
def yJ0_checkBoundsBeginEnd_23922 : MethodName := ⟨RJ0, "checkBoundsBeginEnd", "(III)V"⟩
def RJ1 : String := "java/lang/StringLatin1"
def TJ1 : u_T := fun k => match k with
  | _ => ("", "", "", false)
def tyJ1 : Nat → FieldType := fun k => match k with
  | _ => .int
abbrev wsJ10 : List Cond := u_ws RJ1 TJ1 0
theorem nmJ1 : ∀ a, a < 0 → ∀ b, b < 0 → a ≠ b → (TJ1 a).2.1 ≠ (TJ1 b).2.1 := by decide +kernel
theorem tyJ1_ok : ∀ k, k < 0 → parseFieldDescriptor (TJ1 k).2.2.1 = some (tyJ1 k) := by decide +kernel
abbrev cJ1_charAt_3b067 : ByteArray := prog_20_method_2_code
def yJ1_charAt_3b067 : MethodName := ⟨RJ1, "charAt", "([BI)C"⟩
abbrev cJ1_canEncode_9a6ad : ByteArray := prog_20_method_4_code
def yJ1_canEncode_9a6ad : MethodName := ⟨RJ1, "canEncode", "(I)Z"⟩
abbrev cJ1_indexOf_4cfef : ByteArray := prog_20_method_22_code
def yJ1_indexOf_4cfef : MethodName := ⟨RJ1, "indexOf", "([BIII)I"⟩
abbrev cJ1_indexOfChar_4cfef : ByteArray := prog_20_method_23_code
def yJ1_indexOfChar_4cfef : MethodName := ⟨RJ1, "indexOfChar", "([BIII)I"⟩
def RJ2 : String := "java/lang/StringUTF16"
def TJ2 : u_T := fun k => match k with
  | _ => ("", "", "", false)
def tyJ2 : Nat → FieldType := fun k => match k with
  | _ => .int
abbrev wsJ20 : List Cond := u_ws RJ2 TJ2 0
theorem nmJ2 : ∀ a, a < 0 → ∀ b, b < 0 → a ≠ b → (TJ2 a).2.1 ≠ (TJ2 b).2.1 := by decide +kernel
theorem tyJ2_ok : ∀ k, k < 0 → parseFieldDescriptor (TJ2 k).2.2.1 = some (tyJ2 k) := by decide +kernel
abbrev cJ2_getChar_3b067 : ByteArray := prog_21_method_5_code
def yJ2_getChar_3b067 : MethodName := ⟨RJ2, "getChar", "([BI)C"⟩
abbrev cJ2_length_9d52b : ByteArray := prog_21_method_6_code
def yJ2_length_9d52b : MethodName := ⟨RJ2, "length", "([B)I"⟩
abbrev cJ2_indexOf_4cfef : ByteArray := prog_21_method_40_code
def yJ2_indexOf_4cfef : MethodName := ⟨RJ2, "indexOf", "([BIII)I"⟩
abbrev cJ2_indexOfChar_4cfef : ByteArray := prog_21_method_47_code
def yJ2_indexOfChar_4cfef : MethodName := ⟨RJ2, "indexOfChar", "([BIII)I"⟩
abbrev cJ2_indexOfCharUnsafe_4cfef : ByteArray := prog_21_method_48_code
def yJ2_indexOfCharUnsafe_4cfef : MethodName := ⟨RJ2, "indexOfCharUnsafe", "([BIII)I"⟩
abbrev cJ2_indexOfSupplementary_4cfef : ByteArray := prog_21_method_49_code
def yJ2_indexOfSupplementary_4cfef : MethodName := ⟨RJ2, "indexOfSupplementary", "([BIII)I"⟩
abbrev cJ2_charAt_3b067 : ByteArray := prog_21_method_83_code
def yJ2_charAt_3b067 : MethodName := ⟨RJ2, "charAt", "([BI)C"⟩
abbrev cJ2_checkIndex_2214a : ByteArray := prog_21_method_91_code
def yJ2_checkIndex_2214a : MethodName := ⟨RJ2, "checkIndex", "(I[B)V"⟩
abbrev cJ2_checkBoundsBeginEnd_d044e : ByteArray := prog_21_method_93_code
def yJ2_checkBoundsBeginEnd_d044e : MethodName := ⟨RJ2, "checkBoundsBeginEnd", "(II[B)V"⟩
def RJ10 : String := "java/lang/System"
def TJ10 : u_T := fun k => match k with
  | _ => ("", "", "", false)
def tyJ10 : Nat → FieldType := fun k => match k with
  | _ => .int
abbrev wsJ100 : List Cond := u_ws RJ10 TJ10 0
theorem nmJ10 : ∀ a, a < 0 → ∀ b, b < 0 → a ≠ b → (TJ10 a).2.1 ≠ (TJ10 b).2.1 := by decide +kernel
theorem tyJ10_ok : ∀ k, k < 0 → parseFieldDescriptor (TJ10 k).2.2.1 = some (tyJ10 k) := by decide +kernel
def RJxfd54e : String := "java/lang/constant/Constable"
def TJxfd54e : u_T := fun k => match k with
  | _ => ("", "", "", false)
def tyJxfd54e : Nat → FieldType := fun k => match k with
  | _ => .int
abbrev wsJxfd54e0 : List Cond := u_ws RJxfd54e TJxfd54e 0
theorem nmJxfd54e : ∀ a, a < 0 → ∀ b, b < 0 → a ≠ b → (TJxfd54e a).2.1 ≠ (TJxfd54e b).2.1 := by decide +kernel
theorem tyJxfd54e_ok : ∀ k, k < 0 → parseFieldDescriptor (TJxfd54e k).2.2.1 = some (tyJxfd54e k) := by decide +kernel
def RJx3cf43 : String := "java/lang/constant/ConstantDesc"
def TJx3cf43 : u_T := fun k => match k with
  | _ => ("", "", "", false)
def tyJx3cf43 : Nat → FieldType := fun k => match k with
  | _ => .int
abbrev wsJx3cf430 : List Cond := u_ws RJx3cf43 TJx3cf43 0
theorem nmJx3cf43 : ∀ a, a < 0 → ∀ b, b < 0 → a ≠ b → (TJx3cf43 a).2.1 ≠ (TJx3cf43 b).2.1 := by decide +kernel
theorem tyJx3cf43_ok : ∀ k, k < 0 → parseFieldDescriptor (TJx3cf43 k).2.2.1 = some (tyJx3cf43 k) := by decide +kernel
def RJ7 : String := "java/util/Arrays"
def TJ7 : u_T := fun k => match k with
  | _ => ("", "", "", false)
def tyJ7 : Nat → FieldType := fun k => match k with
  | _ => .int
abbrev wsJ70 : List Cond := u_ws RJ7 TJ7 0
theorem nmJ7 : ∀ a, a < 0 → ∀ b, b < 0 → a ≠ b → (TJ7 a).2.1 ≠ (TJ7 b).2.1 := by decide +kernel
theorem tyJ7_ok : ∀ k, k < 0 → parseFieldDescriptor (TJ7 k).2.2.1 = some (tyJ7 k) := by decide +kernel
abbrev cJ7_fill_53178 : ByteArray := prog_23_method_103_code
def yJ7_fill_53178 : MethodName := ⟨RJ7, "fill", "([II)V"⟩
abbrev cJ7_copyOf_59c91 : ByteArray := prog_23_method_123_code
def yJ7_copyOf_59c91 : MethodName := ⟨RJ7, "copyOf", "([II)[I"⟩
def RJ3 : String := "jdk/internal/util/Preconditions"
def TJ3 : u_T := fun k => match k with
  | _ => ("", "", "", false)
def tyJ3 : Nat → FieldType := fun k => match k with
  | _ => .int
abbrev wsJ30 : List Cond := u_ws RJ3 TJ3 0
theorem nmJ3 : ∀ a, a < 0 → ∀ b, b < 0 → a ≠ b → (TJ3 a).2.1 ≠ (TJ3 b).2.1 := by decide +kernel
theorem tyJ3_ok : ∀ k, k < 0 → parseFieldDescriptor (TJ3 k).2.2.1 = some (tyJ3 k) := by decide +kernel
abbrev cJ3_checkIndex_8e157 : ByteArray := prog_24_method_11_code
def yJ3_checkIndex_8e157 : MethodName := ⟨RJ3, "checkIndex", "(IILjava/util/function/BiFunction;)I"⟩
abbrev cJ3_checkFromToIndex_8c36e : ByteArray := prog_24_method_12_code
def yJ3_checkFromToIndex_8c36e : MethodName := ⟨RJ3, "checkFromToIndex", "(IIILjava/util/function/BiFunction;)I"⟩
def RL : String := "EngraversHouseLaw"
abbrev cL_law : ByteArray := code
def yL_law : MethodName := ⟨RL, "law", "([I)Z"⟩
abbrev vwCl : List vw_C := [(RX0, TX0, 3), (RX1, TX1, 13), (RX2, TX2, 12), (RX3, TX3, 6), (RX4, TX4, 6), (RX5, TX5, 7), (RX6, TX6, 6), (RX7, TX7, 8), (RX8, TX8, 8), (RX10, TX10, 10), (RX11, TX11, 20), (RX12, TX12, 82)]
end
section
/-! the outer row of int[][] (it names the rest of the library: here at the head, so that every round is read over the whole of it at once) -/
theorem vr_outer (c : ClassId) (N h0 : Nat) : ∀ i : Nat, Jvm.Free.Multi.outerC c N h0 i = arrV c N (fun j => va_rf (if j < i then some (h0 + 1 + j) else none))
  | 0 => by
    show ({ cls := c, slots := Array.replicate N .null, vm := .none } : Cell) = _
    rw [arrV_new]
    refine congrArg (arrV c N) (funext fun j => ?_)
    simp [va_rf]
  | i + 1 => by
    show (Jvm.Free.Multi.outerC c N h0 i).setSlot i (.ref (h0 + 1 + i)) = _
    rw [vr_outer c N h0 i, arrV_store]
    refine congrArg (arrV c N) (funext fun j => ?_)
    by_cases e : j = i
    · subst e
      simp [updV, va_rf]
    · by_cases h : j < i
      · simp [updV, e, h, Nat.lt_succ_of_lt h]
      · simp [updV, e, h, show ¬ j < i + 1 by omega]
/-! AN ABSTRACT MACHINE over whole numbers: a value is an int, a long or a cell's number plus one (0: null); the heap is tags, lengths, contents, how many cells, how many slots -/
abbrev zAV : Type := Int ⊕ (Int ⊕ Nat)
abbrev zLo : Type := List (Option zAV)
abbrev zHp : Type := (Nat → Nat) × (Nat → Nat) × (Nat → Nat → Int) × Nat × Nat
/-- an instruction: its kind, its place, two numbers, a whole number, a table -/
abbrev zMI : Type := Nat × Nat × Nat × Nat × Int × List (Int × Nat)
def ztg (h : zHp) (a : Nat) : Nat := h.1 a
def zln (h : zHp) (a : Nat) : Nat := h.2.1 a
def zct (h : zHp) (a k : Nat) : Int := h.2.2.1 a k
def znx (h : zHp) : Nat := h.2.2.2.1
def zus (h : zHp) : Nat := h.2.2.2.2
def zwr (h : zHp) (a k : Nat) (v : Int) : zHp := (h.1, h.2.1, fun a' k' => if a' = a ∧ k' = k then v else h.2.2.1 a' k', h.2.2.2)
def zal (h : zHp) (t n : Nat) (f : Nat → Int) : zHp := (fun a => if a = znx h + 1 then t else h.1 a, fun a => if a = znx h + 1 then n else h.2.1 a, fun a k => if a = znx h + 1 then f k else h.2.2.1 a k, znx h + 1, zus h + n)
/-- n items of a's row from sp on come to b's row from dp on -/
def zcp (h : zHp) (a sp b dp n : Nat) : zHp := (h.1, h.2.1, fun a' k' => if a' = b ∧ dp ≤ k' ∧ k' < dp + n then h.2.2.1 a (sp + (k' - dp)) else h.2.2.1 a' k', h.2.2.2)
def zadd (x y : Int) : Int := (Int32.ofInt x + Int32.ofInt y).toInt
def zsub (x y : Int) : Int := (Int32.ofInt x - Int32.ofInt y).toInt
def zmul (x y : Int) : Int := (Int32.ofInt x * Int32.ofInt y).toInt
def zdiv (x y : Int) : Int := (Int32.ofInt x / Int32.ofInt y).toInt
def zrem (x y : Int) : Int := (Int32.ofInt x - Int32.ofInt x / Int32.ofInt y * Int32.ofInt y).toInt
def zmax (x y : Int) : Int := if x < y then y else x
def zmin (x y : Int) : Int := if y < x then y else x
def zneg (x : Int) : Int := (- Int32.ofInt x).toInt
def zshl (x y : Int) : Int := (Int32.ofInt x <<< (Int32.ofInt y &&& 31)).toInt
def zshr (x y : Int) : Int := (Int32.ofInt x >>> (Int32.ofInt y &&& 31)).toInt
def zushr (x y : Int) : Int := ((Int32.ofInt x).toUInt32 >>> ((Int32.ofInt y).toUInt32 &&& Int32.toUInt32 31)).toInt32.toInt
def zand (x y : Int) : Int := (Int32.ofInt x &&& Int32.ofInt y).toInt
def zor (x y : Int) : Int := (Int32.ofInt x ||| Int32.ofInt y).toInt
def zxor (x y : Int) : Int := (Int32.ofInt x ^^^ Int32.ofInt y).toInt
def zi2l (x : Int) : Int := (Int32.ofInt x).toInt64.toInt
def zl2i (x : Int) : Int := (Int64.ofInt x).toInt32.toInt
def zi2b (x : Int) : Int := ((Int32.ofInt x).toInt8.toInt32).toInt
def zi2s (x : Int) : Int := ((Int32.ofInt x).toInt16.toInt32).toInt
def zi2c (x : Int) : Int := (((Int32.ofInt x).toUInt32 % 65536).toInt32).toInt
def zladd (x y : Int) : Int := (Int64.ofInt x + Int64.ofInt y).toInt
def zlmul (x y : Int) : Int := (Int64.ofInt x * Int64.ofInt y).toInt
def zldiv (x y : Int) : Int := (Int64.ofInt x / Int64.ofInt y).toInt
def zlcmp (x y : Int) : Int := (lg_cmp (Int64.ofInt x) (Int64.ofInt y)).toInt
def zld (L : zLo) (a : Nat) : Option zAV := (L[a]?).join
/-- a long whose second half is written over is gone -/
def zpre (L : zLo) (a : Nat) : zLo := match a with
  | 0 => L
  | b + 1 => match zld L b with
    | some (.inr (.inl _)) => L.set b none
    | _ => L
def zst1 (L : zLo) (a : Nat) (v : zAV) : zLo := (zpre L a).set a (some v)
def zst2 (L : zLo) (a : Nat) (v : zAV) : zLo := ((zpre L a).set a (some v)).set (a + 1) none
/-- what works on locals and the stack alone -/
def zps (i : zMI) (L : zLo) (st : List zAV) : Option (zLo × List zAV) := match i, st with
  | (1, _, _, _, v, _), st => some (L, .inl v :: st)
  | (2, _, _, _, v, _), st => some (L, .inr (.inl v) :: st)
  | (3, _, _, _, _, _), st => some (L, .inr (.inr 0) :: st)
  | (4, _, a, _, _, _), st => match zld L a with
    | some (.inl x) => some (L, .inl x :: st)
    | _ => none
  | (5, _, a, _, _, _), st => match zld L a with
    | some (.inr (.inl x)) => some (L, .inr (.inl x) :: st)
    | _ => none
  | (6, _, a, _, _, _), st => match zld L a with
    | some (.inr (.inr x)) => some (L, .inr (.inr x) :: st)
    | _ => none
  | (7, _, a, _, _, _), .inl x :: st => if a < L.length then some (zst1 L a (.inl x), st) else none
  | (8, _, a, _, _, _), .inr (.inl x) :: st => if a + 1 < L.length then some (zst2 L a (.inr (.inl x)), st) else none
  | (9, _, a, _, _, _), .inr (.inr x) :: st => if a < L.length then some (zst1 L a (.inr (.inr x)), st) else none
  | (10, _, a, _, v, _), st => match zld L a with
    | some (.inl x) => if a < L.length then some (zst1 L a (.inl (zadd x v)), st) else none
    | _ => none
  | (11, _, _, _, _, _), .inl y :: .inl x :: st => some (L, .inl (zadd x y) :: st)
  | (12, _, _, _, _, _), .inl y :: .inl x :: st => some (L, .inl (zsub x y) :: st)
  | (13, _, _, _, _, _), .inl y :: .inl x :: st => some (L, .inl (zmul x y) :: st)
  | (16, _, _, _, _, _), .inl x :: st => some (L, .inl (zneg x) :: st)
  | (17, _, _, _, _, _), .inl y :: .inl x :: st => some (L, .inl (zshl x y) :: st)
  | (18, _, _, _, _, _), .inl y :: .inl x :: st => some (L, .inl (zshr x y) :: st)
  | (19, _, _, _, _, _), .inl y :: .inl x :: st => some (L, .inl (zushr x y) :: st)
  | (20, _, _, _, _, _), .inl y :: .inl x :: st => some (L, .inl (zand x y) :: st)
  | (21, _, _, _, _, _), .inl y :: .inl x :: st => some (L, .inl (zor x y) :: st)
  | (22, _, _, _, _, _), .inl y :: .inl x :: st => some (L, .inl (zxor x y) :: st)
  | (23, _, _, _, _, _), .inl x :: st => some (L, .inr (.inl (zi2l x)) :: st)
  | (24, _, _, _, _, _), .inr (.inl x) :: st => some (L, .inl (zl2i x) :: st)
  | (25, _, _, _, _, _), .inl x :: st => some (L, .inl (zi2b x) :: st)
  | (26, _, _, _, _, _), .inl x :: st => some (L, .inl (zi2s x) :: st)
  | (27, _, _, _, _, _), .inl x :: st => some (L, .inl (zi2c x) :: st)
  | (28, _, _, _, _, _), .inr (.inl y) :: .inr (.inl x) :: st => some (L, .inr (.inl (zladd x y)) :: st)
  | (29, _, _, _, _, _), .inr (.inl y) :: .inr (.inl x) :: st => some (L, .inr (.inl (zlmul x y)) :: st)
  | (31, _, _, _, _, _), .inr (.inl y) :: .inr (.inl x) :: st => some (L, .inl (zlcmp x y) :: st)
  | (32, _, _, _, _, _), .inl x :: st => some (L, .inl x :: .inl x :: st)
  | (33, _, _, _, _, _), .inr (.inr x) :: st => some (L, .inr (.inr x) :: .inr (.inr x) :: st)
  | (34, _, _, _, _, _), .inl y :: .inr (.inr x) :: st => some (L, .inl y :: .inr (.inr x) :: .inl y :: .inr (.inr x) :: st)
  | (35, _, _, _, _, _), .inl _ :: st => some (L, st)
  | (36, _, _, _, _, _), .inl y :: .inl x :: st => if st.length ≤ 4 then some (L, .inl (zmax x y) :: st) else none
  | (37, _, _, _, _, _), .inl y :: .inl x :: st => if st.length ≤ 4 then some (L, .inl (zmin x y) :: st) else none
  | (14, _, _, _, _, _), .inl y :: .inl x :: st => if y = 0 then none else some (L, .inl (zdiv x y) :: st)
  | (15, _, _, _, _, _), .inl y :: .inl x :: st => if y = 0 then none else some (L, .inl (zrem x y) :: st)
  | (30, _, _, _, _, _), .inr (.inl y) :: .inr (.inl x) :: st => if y = 0 then none else some (L, .inr (.inl (zldiv x y)) :: st)
  | _, _ => none
def zsw : List (Int × Nat) → Nat → Int → Nat
  | [], a, _ => a
  | q :: r, a, x => if x = q.1 then q.2 else zsw r a x
/-- where it goes on (none: behind it) -/
def zbr (i : zMI) (st : List zAV) : Option (Option Nat × List zAV) := match i, st with
  | (40, _, a, _, _, _), .inl x :: st => some (if x = 0 then some a else none, st)
  | (41, _, a, _, _, _), .inl x :: st => some (if x = 0 then none else some a, st)
  | (42, _, a, _, _, _), .inl x :: st => some (if x < 0 then some a else none, st)
  | (43, _, a, _, _, _), .inl x :: st => some (if x < 0 then none else some a, st)
  | (44, _, a, _, _, _), .inl x :: st => some (if 0 < x then some a else none, st)
  | (45, _, a, _, _, _), .inl x :: st => some (if 0 < x then none else some a, st)
  | (46, _, a, _, _, _), .inl y :: .inl x :: st => some (if x = y then some a else none, st)
  | (47, _, a, _, _, _), .inl y :: .inl x :: st => some (if x = y then none else some a, st)
  | (48, _, a, _, _, _), .inl y :: .inl x :: st => some (if x < y then some a else none, st)
  | (49, _, a, _, _, _), .inl y :: .inl x :: st => some (if x < y then none else some a, st)
  | (50, _, a, _, _, _), .inl y :: .inl x :: st => some (if y < x then some a else none, st)
  | (51, _, a, _, _, _), .inl y :: .inl x :: st => some (if y < x then none else some a, st)
  | (52, _, a, _, _, _), .inr (.inr y) :: .inr (.inr x) :: st => some (if x = y then some a else none, st)
  | (53, _, a, _, _, _), .inr (.inr y) :: .inr (.inr x) :: st => some (if x = y then none else some a, st)
  | (54, _, a, _, _, _), .inr (.inr x) :: st => some (if x = 0 then some a else none, st)
  | (55, _, a, _, _, _), .inr (.inr x) :: st => some (if x = 0 then none else some a, st)
  | (56, _, a, _, _, _), st => some (some a, st)
  | (57, _, a, _, _, _), st => some (some a, st)
  | (58, _, a, _, _, tb), .inl x :: st => some (some (zsw tb a x), st)
  | (59, _, a, _, _, tb), .inl x :: st => some (some (zsw tb a x), st)
  | _, _ => none
/-- is a cell of tag t one of kind c? (20: what is under Thing) -/
def zisA (c t : Nat) : Bool := if c = 20 then (t == 3 || t == 4 || t == 6 || t == 7 || t == 9) else t == c + 1
/-- may a row of tag t hold a cell of tag u? -/
def zmay (t u : Nat) : Bool := (t == 33 && zisA 20 u) || (t == 34 && u == 7) || (t == 35 && u == 2) || (t == 36 && u == 1)
/-- what reads and writes the heap; E: the cells that are there from the start (constants, rows of classes) -/
def zhp (E : Nat → Nat) (i : zMI) (st : List zAV) (h : zHp) : Option (List zAV × zHp) := match i, st with
  | (60, _, c, k, _, _), .inr (.inr r) :: st => if zisA c (ztg h r) = true then some (.inl (zct h r k) :: st, h) else none
  | (61, _, c, k, _, _), .inr (.inr r) :: st => if zisA c (ztg h r) = true then some (.inr (.inr (zct h r k).toNat) :: st, h) else none
  | (62, _, c, k, _, _), .inl v :: .inr (.inr r) :: st => if zisA c (ztg h r) = true then some (st, zwr h r k v) else none
  | (63, _, c, k, _, _), .inl v :: .inr (.inr r) :: st => if zisA c (ztg h r) = true ∧ (v = 0 ∨ v = 1) then some (st, zwr h r k v) else none
  | (64, _, c, k, _, _), .inr (.inr v) :: .inr (.inr r) :: st => if zisA c (ztg h r) = true then some (st, zwr h r k (v : Int)) else none
  | (65, _, _, _, _, _), .inl j :: .inr (.inr r) :: st => if (ztg h r = 30 ∨ ztg h r = 40) ∧ 0 ≤ j ∧ j < (zln h r : Int) then some (.inl (zct h r j.toNat) :: st, h) else none
  | (66, _, _, _, _, _), .inl j :: .inr (.inr r) :: st => if (ztg h r = 31 ∨ ztg h r = 32 ∨ ztg h r = 41) ∧ 0 ≤ j ∧ j < (zln h r : Int) then some (.inl (zct h r j.toNat) :: st, h) else none
  | (67, _, _, _, _, _), .inl j :: .inr (.inr r) :: st => if (33 ≤ ztg h r ∧ ztg h r ≤ 37) ∧ 0 ≤ j ∧ j < (zln h r : Int) then some (.inr (.inr (zct h r j.toNat).toNat) :: st, h) else none
  | (68, _, _, _, _, _), .inl v :: .inl j :: .inr (.inr r) :: st => if ztg h r = 30 ∧ 0 ≤ j ∧ j < (zln h r : Int) then some (st, zwr h r j.toNat v) else none
  | (69, _, _, _, _, _), .inl v :: .inl j :: .inr (.inr r) :: st => if ztg h r = 31 ∧ (v = 0 ∨ v = 1) ∧ 0 ≤ j ∧ j < (zln h r : Int) then some (st, zwr h r j.toNat v) else none
  | (70, _, _, _, _, _), .inl v :: .inl j :: .inr (.inr r) :: st => if ztg h r = 32 ∧ 0 ≤ j ∧ j < (zln h r : Int) then some (st, zwr h r j.toNat (zi2b v)) else none
  | (71, _, _, _, _, _), .inr (.inr v) :: .inl j :: .inr (.inr r) :: st => if (zmay (ztg h r) (ztg h v) = true) ∧ 0 ≤ j ∧ j < (zln h r : Int) then some (st, zwr h r j.toNat (v : Int)) else none
  | (72, _, _, _, _, _), .inr (.inr r) :: st => if 30 ≤ ztg h r ∧ ztg h r ≤ 41 then some (.inl (zln h r : Int) :: st, h) else none
  | (73, _, c, n, _, _), st => some (.inr (.inr (znx h + 1)) :: st, zal h (c + 1) n (fun _ => 0))
  | (74, _, t, _, _, _), .inl n :: st => if 0 ≤ n ∧ n ≤ 100000 then some (.inr (.inr (znx h + 1)) :: st, zal h t n.toNat (fun _ => 0)) else none
  | (75, _, t, _, _, _), .inl n :: st => if 0 ≤ n ∧ n ≤ 100000 then some (.inr (.inr (znx h + 1)) :: st, zal h t n.toNat (fun _ => 0)) else none
  | (77, _, c, _, _, _), .inr (.inr r) :: st => if r = 0 ∨ zisA 20 (ztg h r) = true then some (.inl (if zisA c (ztg h r) = true then 1 else 0) :: st, h) else none
  | (78, _, c, _, _, _), .inr (.inr r) :: st => if zisA c (ztg h r) = true then some (.inr (.inr r) :: st, h) else none
  | (79, _, _, _, v, _), st => some (.inl v :: st, h)
  | (80, _, a, _, _, _), st => some (.inr (.inr (E a)) :: st, h)
  | (81, _, a, _, _, _), st => some (.inr (.inr (E a)) :: st, h)
  | (82, _, _, _, _, _), .inr (.inr r) :: st => if r = 0 ∨ 8 < st.length then none else some (st, h)
  | (83, _, _, _, _, _), .inl n :: .inl dp :: .inr (.inr b) :: .inl sp :: .inr (.inr a) :: st => if ztg h a = 30 ∧ ztg h b = 30 ∧ 0 ≤ sp ∧ 0 ≤ dp ∧ 0 ≤ n ∧ sp + n ≤ (zln h a : Int) ∧ dp + n ≤ (zln h b : Int) ∧ st.length ≤ 4 then some (st, zcp h a sp.toNat b dp.toNat n.toNat) else none
  | (84, _, _, _, _, _), .inr (.inr r) :: st => if ztg h r = 30 ∧ st.length ≤ 4 then some (.inr (.inr (znx h + 1)) :: st, zal h 30 (zln h r) (fun k => zct h r k)) else none
  | (85, _, _, _, _, _), .inr (.inr r) :: st => if ztg h r = 30 then some (.inr (.inr r) :: st, h) else none
  | (86, _, _, _, _, _), .inr (.inr r) :: st => if ztg h r = 50 then some (.inr (.inr (zct h r 0).toNat) :: st, h) else none
  | (87, _, _, _, _, _), .inr (.inr r) :: st => if ztg h r = 50 then some (.inl 0 :: st, h) else none
  | (76, _, _, _, _, _), .inl k :: .inl n :: st => if 0 ≤ n ∧ n ≤ 10 ∧ 0 ≤ k ∧ k ≤ 100000 then some (.inr (.inr (znx h + 1)) :: st, (List.range n.toNat).foldl (fun g _ => zal g 30 k.toNat (fun _ => 0)) (zal h 37 n.toNat (fun j => if j < n.toNat then ((znx h + 2 + j : Nat) : Int) else 0))) else none
  | _, _ => none
def zlong : zAV → Bool
  | .inr (.inl _) => true
  | _ => false
def zargs : List zAV → zLo
  | [] => []
  | v :: vs => if zlong v = true then some v :: none :: zargs vs else some v :: zargs vs
def zent (mx : Nat) (vs : List zAV) : zLo := zargs vs ++ List.replicate (mx - (zargs vs).length) none
/-- which method a call runs, with how many numbers (its own cell too), how many locals -/
def zcall (i : zMI) (st : List zAV) (h : zHp) : Option (Nat × Nat × Nat) := match i with
  | (90, _, m, n, mx, _) => some (m, n, mx.toNat)
  | (91, _, m, n, mx, _) => match (st.take n).reverse with
    | .inr (.inr r) :: _ => if 0 < r then some (m, n, mx.toNat) else none
    | _ => none
  | (92, _, m, n, mx, tb) => match (st.take n).reverse with
    | .inr (.inr r) :: _ => if (tb.any fun q => zisA q.2 (ztg h r)) = true then some (m, n, mx.toNat) else none
    | _ => none
  | (93, _, _, n, mx, tb) => match (st.take n).reverse with
    | .inr (.inr r) :: _ => match tb.find? (fun q => q.1 == (ztg h r : Int)) with
      | some q => some (q.2, n, mx.toNat)
      | none => none
    | _ => none
  | _ => none
/-- what a method's end answers -/
def zrt (i : zMI) (st : List zAV) : Option (Option zAV) := match i, st with
  | (95, _, _, _, _, _), [.inl x] => some (some (.inl x))
  | (96, _, _, _, _, _), [.inl x] => if x = 0 ∨ x = 1 then some (some (.inl x)) else none
  | (97, _, _, _, _, _), [.inl x] => if 0 ≤ x ∧ x < 65536 then some (some (.inl x)) else none
  | (98, _, _, _, _, _), [.inl x] => if -128 ≤ x ∧ x < 128 then some (some (.inl x)) else none
  | (99, _, _, _, _, _), [.inr (.inl x)] => some (some (.inr (.inl x)))
  | (100, _, _, _, _, _), [.inr (.inr x)] => some (some (.inr (.inr x)))
  | (101, _, _, _, _, _), [] => some none
  | _, _ => none
def zpush : Option zAV → List zAV → List zAV
  | none, st => st
  | some v, st => v :: st
/-- the machine: n steps at most, calls d deep at most; B: the blocks of a method -/
def zexec (E : Nat → Nat) (B : Nat → Nat → List zMI) : Nat → Nat → Nat → List zMI → zLo → List zAV → zHp → Option (Option zAV × zHp)
  | 0, _, _, _, _, _, _ => none
  | _ + 1, _, _, [], _, _, _ => none
  | n + 1, d, m, i :: is, L, st, h =>
    if i.1 < 40 then match zps i L st with
      | some q => zexec E B n d m is q.1 q.2 h
      | none => none
    else if i.1 < 60 then match zbr i st with
      | some (none, st') => zexec E B n d m is L st' h
      | some (some b, st') => zexec E B n d m (B m b) L st' h
      | none => none
    else if i.1 < 90 then match zhp E i st h with
      | some q => zexec E B n d m is L q.1 q.2
      | none => none
    else if i.1 < 95 then match d, zcall i st h with
      | d' + 1, some (m2, k, mx) => if k ≤ st.length ∧ (st.drop k).length ≤ 4 ∧ (zargs (st.take k).reverse).length ≤ mx then
          match zexec E B n d' m2 (B m2 0) (zent mx (st.take k).reverse) [] h with
          | some (r, h') => zexec E B n d m is L (zpush r (st.drop k)) h'
          | none => none
        else none
      | _, _ => none
    else match zrt i st with
      | some r => some (r, h)
      | none => none
end
section
/-! THE PROGRAM of the abstract machine: a method is a list of blocks (written by wip/whole/tools/gen_prog.py out of the claim's own listing) -/
/-! 0: java/lang/Integer.bitCount:(I)I -/
set_option maxRecDepth 100000 in
noncomputable def zb0 : List (List zMI) := [
  [(4, 0, 0, 0, 0, []), (4, 1, 0, 0, 0, []), (1, 2, 0, 0, 1, []), (19, 3, 0, 0, 0, []), (1, 4, 0, 41419017, 1431655765, []), (20, 7, 0, 0, 0, []), (12, 8, 0, 0, 0, []), (7, 9, 0, 0, 0, []), (4, 10, 0, 0, 0, []), (1, 11, 0, 41484554, 858993459, []), (20, 14, 0, 0, 0, []), (4, 15, 0, 0, 0, []), (1, 16, 0, 0, 2, []), (19, 17, 0, 0, 0, []), (1, 18, 0, 41484554, 858993459, []), (20, 21, 0, 0, 0, []), (11, 22, 0, 0, 0, []), (7, 23, 0, 0, 0, []), (4, 24, 0, 0, 0, []), (4, 25, 0, 0, 0, []), (1, 26, 0, 0, 4, []), (19, 27, 0, 0, 0, []), (11, 28, 0, 0, 0, []), (1, 29, 0, 41550091, 252645135, []), (20, 32, 0, 0, 0, []), (7, 33, 0, 0, 0, []), (4, 34, 0, 0, 0, []), (4, 35, 0, 0, 0, []), (1, 36, 0, 0, 8, []), (19, 38, 0, 0, 0, []), (11, 39, 0, 0, 0, []), (7, 40, 0, 0, 0, []), (4, 41, 0, 0, 0, []), (4, 42, 0, 0, 0, []), (1, 43, 0, 0, 16, []), (19, 45, 0, 0, 0, []), (11, 46, 0, 0, 0, []), (7, 47, 0, 0, 0, []), (4, 48, 0, 0, 0, []), (1, 49, 0, 0, 63, []), (20, 51, 0, 0, 0, []), (95, 52, 0, 0, 0, [])]]
/-! 1: java/lang/Integer.numberOfTrailingZeros:(I)I -/
set_option maxRecDepth 100000 in
noncomputable def zb1 : List (List zMI) := [
  [(4, 0, 0, 0, 0, []), (1, 1, 0, 0, (-1), []), (22, 2, 0, 0, 0, []), (4, 3, 0, 0, 0, []), (1, 4, 0, 0, 1, []), (12, 5, 0, 0, 0, []), (20, 6, 0, 0, 0, []), (7, 7, 0, 0, 0, []), (4, 8, 0, 0, 0, []), (44, 9, 1, 0, 0, []), (4, 12, 0, 0, 0, []), (1, 13, 0, 0, 32, []), (20, 15, 0, 0, 0, []), (95, 16, 0, 0, 0, [])],
  [(1, 17, 0, 0, 1, []), (7, 18, 1, 0, 0, []), (4, 19, 0, 0, 0, []), (1, 20, 0, 41812232, 65536, []), (51, 23, 2, 0, 0, []), (10, 26, 1, 0, 16, []), (4, 29, 0, 0, 0, []), (1, 30, 0, 0, 16, []), (19, 32, 0, 0, 0, []), (7, 33, 0, 0, 0, []), (57, 34, 2, 0, 0, [])],
  [(4, 34, 0, 0, 0, []), (1, 35, 0, 0, 256, []), (51, 38, 3, 0, 0, []), (10, 41, 1, 0, 8, []), (4, 44, 0, 0, 0, []), (1, 45, 0, 0, 8, []), (19, 47, 0, 0, 0, []), (7, 48, 0, 0, 0, []), (57, 49, 3, 0, 0, [])],
  [(4, 49, 0, 0, 0, []), (1, 50, 0, 0, 16, []), (51, 52, 4, 0, 0, []), (10, 55, 1, 0, 4, []), (4, 58, 0, 0, 0, []), (1, 59, 0, 0, 4, []), (19, 60, 0, 0, 0, []), (7, 61, 0, 0, 0, []), (57, 62, 4, 0, 0, [])],
  [(4, 62, 0, 0, 0, []), (1, 63, 0, 0, 4, []), (51, 64, 5, 0, 0, []), (10, 67, 1, 0, 2, []), (4, 70, 0, 0, 0, []), (1, 71, 0, 0, 2, []), (19, 72, 0, 0, 0, []), (7, 73, 0, 0, 0, []), (57, 74, 5, 0, 0, [])],
  [(4, 74, 1, 0, 0, []), (4, 75, 0, 0, 0, []), (1, 76, 0, 0, 1, []), (19, 77, 0, 0, 0, []), (11, 78, 0, 0, 0, []), (95, 79, 0, 0, 0, [])]]
/-! 2: java/util/Arrays.fill:([II)V -/
set_option maxRecDepth 100000 in
noncomputable def zb2 : List (List zMI) := [
  [(1, 0, 0, 0, 0, []), (7, 1, 2, 0, 0, []), (6, 2, 0, 0, 0, []), (72, 3, 0, 0, 0, []), (7, 4, 3, 0, 0, []), (57, 5, 1, 0, 0, [])],
  [(4, 5, 2, 0, 0, []), (4, 6, 3, 0, 0, []), (49, 7, 2, 0, 0, []), (6, 10, 0, 0, 0, []), (4, 11, 2, 0, 0, []), (4, 12, 1, 0, 0, []), (68, 13, 0, 0, 0, []), (10, 14, 2, 0, 1, []), (56, 17, 1, 0, 0, [])],
  [(101, 20, 0, 0, 0, [])]]
/-! 3: java/util/Arrays.copyOf:([II)[I -/
set_option maxRecDepth 100000 in
noncomputable def zb3 : List (List zMI) := [
  [(4, 0, 1, 0, 0, []), (6, 1, 0, 0, 0, []), (72, 2, 0, 0, 0, []), (47, 3, 1, 0, 0, []), (6, 6, 0, 0, 0, []), (84, 7, 0, 0, 56492348, []), (85, 10, 0, 0, 56885565, []), (100, 13, 0, 0, 0, [])],
  [(4, 14, 1, 0, 0, []), (74, 15, 30, 0, 0, []), (9, 17, 2, 0, 0, []), (6, 18, 0, 0, 0, []), (1, 19, 0, 0, 0, []), (6, 20, 2, 0, 0, []), (1, 21, 0, 0, 0, []), (6, 22, 0, 0, 0, []), (72, 23, 0, 0, 0, []), (4, 24, 1, 0, 0, []), (37, 25, 0, 0, 56951088, []), (83, 28, 0, 0, 57016470, []), (6, 31, 2, 0, 0, []), (100, 32, 0, 0, 0, [])]]
/-! 4: jdk/internal/util/Preconditions.checkIndex:(IILjava/util/function/BiFunction;)I -/
set_option maxRecDepth 100000 in
noncomputable def zb4 : List (List zMI) := [
  [(4, 0, 0, 0, 0, []), (42, 1, 1, 0, 0, []), (4, 4, 0, 0, 0, []), (4, 5, 1, 0, 0, []), (48, 6, 2, 0, 0, []), (57, 9, 1, 0, 0, [])],
  [(6, 9, 2, 0, 0, []), (4, 10, 0, 0, 0, []), (4, 11, 1, 0, 0, []), (0, 12, 0, 0, 0, [])],
  [(4, 16, 0, 0, 0, []), (95, 17, 0, 0, 0, [])]]
/-! 5: java/lang/String.checkIndex:(II)V -/
set_option maxRecDepth 100000 in
noncomputable def zb5 : List (List zMI) := [
  [(4, 0, 0, 0, 0, []), (4, 1, 1, 0, 0, []), (80, 2, 12, 0, 63439901, []), (90, 5, 4, 3, 3, [(63570979, 99)]), (35, 8, 0, 0, 0, []), (101, 9, 0, 0, 0, [])]]
/-! 6: java/lang/String.coder:()B -/
set_option maxRecDepth 100000 in
noncomputable def zb6 : List (List zMI) := [
  [(79, 0, 0, 62390310, 1, []), (40, 3, 1, 0, 0, []), (6, 6, 0, 0, 0, []), (87, 7, 0, 0, 129040399, []), (56, 10, 2, 0, 0, [])],
  [(1, 13, 0, 0, 1, []), (57, 14, 2, 0, 0, [])],
  [(98, 14, 0, 0, 0, [])]]
/-! 7: java/lang/String.isLatin1:()Z -/
set_option maxRecDepth 100000 in
noncomputable def zb7 : List (List zMI) := [
  [(79, 0, 0, 62390310, 1, []), (40, 3, 1, 0, 0, []), (6, 6, 0, 0, 0, []), (87, 7, 0, 0, 129040399, []), (41, 10, 1, 0, 0, []), (1, 13, 0, 0, 1, []), (56, 14, 2, 0, 0, [])],
  [(1, 17, 0, 0, 0, []), (57, 18, 2, 0, 0, [])],
  [(96, 18, 0, 0, 0, [])]]
/-! 8: java/lang/String.length:()I -/
set_option maxRecDepth 100000 in
noncomputable def zb8 : List (List zMI) := [
  [(6, 0, 0, 0, 0, []), (86, 1, 0, 0, 128974857, []), (72, 4, 0, 0, 0, []), (6, 5, 0, 0, 0, []), (92, 6, 6, 1, 1, [(62128463, 49)]), (18, 9, 0, 0, 0, []), (95, 10, 0, 0, 0, [])]]
/-! 9: java/lang/StringLatin1.charAt:([BI)C -/
set_option maxRecDepth 100000 in
noncomputable def zb9 : List (List zMI) := [
  [(4, 0, 1, 0, 0, []), (6, 1, 0, 0, 0, []), (72, 2, 0, 0, 0, []), (90, 3, 5, 2, 2, [(63242249, 49)]), (6, 6, 0, 0, 0, []), (4, 7, 1, 0, 0, []), (66, 8, 0, 0, 0, []), (1, 9, 0, 0, 255, []), (20, 12, 0, 0, 0, []), (27, 13, 0, 0, 0, []), (97, 14, 0, 0, 0, [])]]
/-! 10: java/lang/String.charAt:(I)C -/
set_option maxRecDepth 100000 in
noncomputable def zb10 : List (List zMI) := [
  [(6, 0, 0, 0, 0, []), (92, 1, 7, 1, 1, [(62783980, 49)]), (40, 4, 1, 0, 0, []), (6, 7, 0, 0, 0, []), (86, 8, 0, 0, 128974857, []), (4, 11, 1, 0, 0, []), (90, 12, 9, 2, 2, [(63046127, 99)]), (97, 15, 0, 0, 0, [])],
  [(6, 16, 0, 0, 0, []), (86, 17, 0, 0, 128974857, []), (4, 20, 1, 0, 0, []), (0, 21, 0, 0, 0, [])]]
/-! 11: java/lang/StringLatin1.canEncode:(I)Z -/
set_option maxRecDepth 100000 in
noncomputable def zb11 : List (List zMI) := [
  [(4, 0, 0, 0, 0, []), (42, 1, 1, 0, 0, []), (4, 4, 0, 0, 0, []), (1, 5, 0, 0, 255, []), (50, 8, 1, 0, 0, []), (1, 11, 0, 0, 1, []), (56, 12, 2, 0, 0, [])],
  [(1, 15, 0, 0, 0, []), (57, 16, 2, 0, 0, [])],
  [(96, 16, 0, 0, 0, [])]]
/-! 12: java/lang/StringLatin1.indexOfChar:([BIII)I -/
set_option maxRecDepth 100000 in
noncomputable def zb12 : List (List zMI) := [
  [(4, 0, 1, 0, 0, []), (25, 1, 0, 0, 0, []), (7, 2, 4, 0, 0, []), (4, 4, 2, 0, 0, []), (7, 5, 5, 0, 0, []), (57, 7, 1, 0, 0, [])],
  [(4, 7, 5, 0, 0, []), (4, 9, 3, 0, 0, []), (49, 10, 3, 0, 0, []), (6, 13, 0, 0, 0, []), (4, 14, 5, 0, 0, []), (66, 16, 0, 0, 0, []), (4, 17, 4, 0, 0, []), (47, 19, 2, 0, 0, []), (4, 22, 5, 0, 0, []), (95, 24, 0, 0, 0, [])],
  [(10, 25, 5, 0, 1, []), (56, 28, 1, 0, 0, [])],
  [(1, 31, 0, 0, (-1), []), (95, 32, 0, 0, 0, [])]]
/-! 13: java/lang/StringLatin1.indexOf:([BIII)I -/
set_option maxRecDepth 100000 in
noncomputable def zb13 : List (List zMI) := [
  [(4, 0, 1, 0, 0, []), (90, 1, 11, 1, 1, [(66125912, 99)]), (41, 4, 1, 0, 0, []), (1, 7, 0, 0, (-1), []), (95, 8, 0, 0, 0, [])],
  [(4, 9, 2, 0, 0, []), (1, 10, 0, 0, 0, []), (36, 11, 0, 0, 66322524, []), (7, 14, 2, 0, 0, []), (4, 15, 3, 0, 0, []), (6, 16, 0, 0, 0, []), (72, 17, 0, 0, 0, []), (37, 18, 0, 0, 66388006, []), (7, 21, 3, 0, 0, []), (4, 22, 2, 0, 0, []), (4, 23, 3, 0, 0, []), (48, 24, 2, 0, 0, []), (1, 27, 0, 0, (-1), []), (95, 28, 0, 0, 0, [])],
  [(6, 29, 0, 0, 0, []), (4, 30, 1, 0, 0, []), (4, 31, 2, 0, 0, []), (4, 32, 3, 0, 0, []), (90, 33, 12, 4, 6, [(66453599, 99)]), (95, 36, 0, 0, 0, [])]]
/-! 14: java/lang/String.indexOf:(II)I -/
set_option maxRecDepth 100000 in
noncomputable def zb14 : List (List zMI) := [
  [(6, 0, 0, 0, 0, []), (92, 1, 7, 1, 1, [(62783980, 49)]), (40, 4, 1, 0, 0, []), (6, 7, 0, 0, 0, []), (86, 8, 0, 0, 128974857, []), (4, 11, 1, 0, 0, []), (4, 12, 2, 0, 0, []), (6, 13, 0, 0, 0, []), (92, 14, 8, 1, 1, [(65864185, 49)]), (90, 17, 13, 4, 4, [(65929853, 99)]), (56, 20, 2, 0, 0, [])],
  [(6, 23, 0, 0, 0, []), (86, 24, 0, 0, 128974857, []), (4, 27, 1, 0, 0, []), (4, 28, 2, 0, 0, []), (6, 29, 0, 0, 0, []), (92, 30, 8, 1, 1, [(65864185, 49)]), (0, 33, 0, 0, 0, [])],
  [(95, 36, 0, 0, 0, [])]]
/-! 15: java/lang/String.indexOf:(I)I -/
set_option maxRecDepth 100000 in
noncomputable def zb15 : List (List zMI) := [
  [(6, 0, 0, 0, 0, []), (4, 1, 1, 0, 0, []), (1, 2, 0, 0, 0, []), (92, 3, 14, 3, 3, [(65602169, 49)]), (95, 6, 0, 0, 0, [])]]
/-! 16: EngraversHouse$Layout.<init>:()V -/
set_option maxRecDepth 100000 in
noncomputable def zb16 : List (List zMI) := [
  [(6, 0, 0, 0, 0, []), (82, 1, 0, 0, 2621443, []), (6, 4, 0, 0, 0, []), (1, 5, 0, 0, 0, []), (62, 6, 4, 0, 2686985, []), (6, 9, 0, 0, 0, []), (1, 10, 0, 0, 20, []), (74, 12, 30, 0, 0, []), (64, 14, 4, 1, 2752527, []), (6, 17, 0, 0, 0, []), (1, 18, 0, 0, 20, []), (74, 20, 31, 0, 0, []), (64, 22, 4, 2, 2818067, []), (6, 25, 0, 0, 0, []), (1, 26, 0, 0, 20, []), (74, 28, 31, 0, 0, []), (64, 30, 4, 3, 2883607, []), (6, 33, 0, 0, 0, []), (1, 34, 0, 0, 84, []), (74, 36, 30, 0, 0, []), (64, 38, 4, 4, 2949146, []), (6, 41, 0, 0, 0, []), (1, 42, 0, 0, 84, []), (74, 44, 30, 0, 0, []), (64, 46, 4, 5, 3014685, []), (101, 49, 0, 0, 0, [])]]
/-! 17: EngraversHouse$Tour.<init>:()V -/
set_option maxRecDepth 100000 in
noncomputable def zb17 : List (List zMI) := [
  [(6, 0, 0, 0, 0, []), (82, 1, 0, 0, 4521987, []), (6, 4, 0, 0, 0, []), (1, 5, 0, 0, 36, []), (74, 7, 30, 0, 0, []), (64, 9, 9, 0, 4784137, []), (6, 12, 0, 0, 0, []), (1, 13, 0, 0, 0, []), (62, 14, 9, 1, 4849679, []), (6, 17, 0, 0, 0, []), (1, 18, 0, 0, 9, []), (74, 20, 30, 0, 0, []), (64, 22, 9, 2, 4980755, []), (6, 25, 0, 0, 0, []), (1, 26, 0, 0, 9, []), (74, 28, 30, 0, 0, []), (64, 30, 9, 3, 5046294, []), (6, 33, 0, 0, 0, []), (1, 34, 0, 0, 9, []), (74, 36, 30, 0, 0, []), (64, 38, 9, 4, 5111833, []), (6, 41, 0, 0, 0, []), (1, 42, 0, 0, 9, []), (74, 44, 30, 0, 0, []), (64, 46, 9, 5, 5177372, []), (6, 49, 0, 0, 0, []), (1, 50, 0, 0, 9, []), (74, 52, 30, 0, 0, []), (64, 54, 9, 6, 5242911, []), (6, 57, 0, 0, 0, []), (1, 58, 0, 0, 9, []), (74, 60, 30, 0, 0, []), (64, 62, 9, 7, 5308450, []), (6, 65, 0, 0, 0, []), (1, 66, 0, 0, 9, []), (74, 68, 30, 0, 0, []), (64, 70, 9, 8, 5373989, []), (6, 73, 0, 0, 0, []), (1, 74, 0, 0, 9, []), (74, 76, 30, 0, 0, []), (64, 78, 9, 9, 5439528, []), (6, 81, 0, 0, 0, []), (61, 82, 9, 0, 4784137, []), (1, 85, 0, 0, 1, []), (90, 86, 2, 2, 4, [(4587563, 99)]), (1, 89, 0, 0, 0, []), (7, 90, 1, 0, 0, []), (57, 91, 1, 0, 0, [])],
  [(4, 91, 1, 0, 0, []), (1, 92, 0, 0, 6, []), (49, 94, 2, 0, 0, []), (6, 97, 0, 0, 0, []), (61, 98, 9, 0, 4784137, []), (4, 101, 1, 0, 0, []), (1, 102, 0, 0, 6, []), (13, 104, 0, 0, 0, []), (4, 105, 1, 0, 0, []), (11, 106, 0, 0, 0, []), (1, 107, 0, 0, 0, []), (68, 108, 0, 0, 0, []), (10, 109, 1, 0, 1, []), (56, 112, 1, 0, 0, [])],
  [(101, 115, 0, 0, 0, [])]]
/-! 18: EngraversHouse$PrintPlan.<init>:()V -/
set_option maxRecDepth 100000 in
noncomputable def zb18 : List (List zMI) := [
  [(6, 0, 0, 0, 0, []), (82, 1, 0, 0, 7208963, []), (6, 4, 0, 0, 0, []), (1, 5, 0, 0, 0, []), (62, 6, 7, 0, 7274505, []), (6, 9, 0, 0, 0, []), (1, 10, 0, 0, 0, []), (62, 11, 7, 1, 7405583, []), (6, 14, 0, 0, 0, []), (1, 15, 0, 0, 9999, []), (62, 18, 7, 2, 7536658, []), (6, 21, 0, 0, 0, []), (1, 22, 0, 0, 0, []), (62, 23, 7, 3, 7667733, []), (6, 26, 0, 0, 0, []), (1, 27, 0, 0, 10, []), (74, 29, 30, 0, 0, []), (64, 31, 7, 4, 7798808, []), (6, 34, 0, 0, 0, []), (1, 35, 0, 0, 11, []), (74, 37, 30, 0, 0, []), (64, 39, 7, 5, 7929884, []), (6, 42, 0, 0, 0, []), (1, 43, 0, 0, 11, []), (74, 45, 30, 0, 0, []), (64, 47, 7, 6, 8060959, []), (6, 50, 0, 0, 0, []), (1, 51, 0, 0, 11, []), (74, 53, 30, 0, 0, []), (64, 55, 7, 7, 8126498, []), (101, 58, 0, 0, 0, [])]]
/-! 19: EngraversHouse.<init>:()V -/
set_option maxRecDepth 100000 in
noncomputable def zb19 : List (List zMI) := [
  [(6, 0, 0, 0, 0, []), (82, 1, 0, 0, 1835011, []), (6, 4, 0, 0, 0, []), (1, 5, 0, 0, 0, []), (62, 6, 10, 0, 9568265, []), (6, 9, 0, 0, 0, []), (1, 10, 0, 0, 12, []), (74, 12, 30, 0, 0, []), (64, 14, 10, 1, 9633807, []), (6, 17, 0, 0, 0, []), (1, 18, 0, 0, 0, []), (62, 19, 10, 2, 9699347, []), (6, 22, 0, 0, 0, []), (1, 23, 0, 0, 60, []), (75, 25, 33, 0, 2031638, []), (64, 28, 10, 3, 9764888, []), (6, 31, 0, 0, 0, []), (1, 32, 0, 0, 0, []), (62, 33, 10, 4, 9830428, []), (6, 36, 0, 0, 0, []), (1, 37, 0, 0, (-1), []), (62, 38, 10, 5, 9895967, []), (6, 41, 0, 0, 0, []), (1, 42, 0, 0, 12, []), (75, 44, 34, 0, 2162722, []), (64, 47, 10, 6, 9961508, []), (6, 50, 0, 0, 0, []), (1, 51, 0, 0, 0, []), (62, 52, 10, 7, 10027048, []), (6, 55, 0, 0, 0, []), (73, 56, 4, 6, 2293803, []), (33, 59, 0, 0, 0, []), (91, 60, 16, 1, 1, [(2424877, 4)]), (64, 63, 10, 8, 10092590, []), (6, 66, 0, 0, 0, []), (1, 67, 0, 0, 120, []), (74, 69, 30, 0, 0, []), (64, 71, 10, 9, 10158130, []), (6, 74, 0, 0, 0, []), (1, 75, 0, 0, 0, []), (62, 76, 10, 10, 10223669, []), (6, 79, 0, 0, 0, []), (1, 80, 0, 0, 12, []), (75, 82, 35, 0, 4063288, []), (64, 85, 10, 11, 10289210, []), (6, 88, 0, 0, 0, []), (1, 89, 0, 0, 0, []), (62, 90, 10, 12, 10354750, []), (6, 93, 0, 0, 0, []), (73, 94, 9, 10, 4194369, []), (33, 97, 0, 0, 0, []), (91, 98, 17, 1, 2, [(4325443, 9)]), (64, 101, 10, 13, 10420292, []), (6, 104, 0, 0, 0, []), (73, 105, 7, 8, 6881352, []), (33, 108, 0, 0, 0, []), (91, 109, 18, 1, 1, [(7012426, 7)]), (64, 112, 10, 14, 10485835, []), (6, 115, 0, 0, 0, []), (1, 116, 0, 0, 6, []), (1, 118, 0, 0, 60, []), (76, 120, 0, 0, 9371727, []), (64, 124, 10, 15, 10551377, []), (6, 127, 0, 0, 0, []), (1, 128, 0, 0, 6, []), (74, 130, 30, 0, 0, []), (64, 132, 10, 16, 10616916, []), (6, 135, 0, 0, 0, []), (1, 136, 0, 0, 6, []), (74, 138, 30, 0, 0, []), (64, 140, 10, 17, 10682455, []), (6, 143, 0, 0, 0, []), (1, 144, 0, 0, 20, []), (74, 146, 30, 0, 0, []), (64, 148, 10, 18, 10747994, []), (6, 151, 0, 0, 0, []), (1, 152, 0, 0, 0, []), (62, 153, 10, 19, 10813533, []), (6, 156, 0, 0, 0, []), (61, 157, 10, 16, 10616916, []), (1, 160, 0, 0, (-1), []), (90, 161, 2, 2, 4, [(9502816, 99)]), (101, 164, 0, 0, 0, [])]]
/-! 20: EngraversHouse.within:(III)Z -/
set_option maxRecDepth 100000 in
noncomputable def zb20 : List (List zMI) := [
  [(4, 0, 1, 0, 0, []), (4, 1, 0, 0, 0, []), (50, 2, 1, 0, 0, []), (4, 5, 0, 0, 0, []), (4, 6, 2, 0, 0, []), (50, 7, 1, 0, 0, []), (1, 10, 0, 0, 1, []), (56, 11, 2, 0, 0, [])],
  [(1, 14, 0, 0, 0, []), (57, 15, 2, 0, 0, [])],
  [(96, 15, 0, 0, 0, [])]]
/-! 21: EngraversHouse.pass:(I)I -/
set_option maxRecDepth 100000 in
noncomputable def zb21 : List (List zMI) := [
  [(4, 0, 1, 0, 0, []), (1, 1, 0, 0, 1, []), (1, 2, 0, 0, 400, []), (90, 5, 20, 3, 3, [(13828198, 10)]), (40, 8, 1, 0, 0, []), (6, 11, 0, 0, 0, []), (60, 12, 10, 0, 9568265, []), (4, 15, 1, 0, 0, []), (11, 16, 0, 0, 0, []), (1, 17, 0, 0, 9999, []), (51, 20, 2, 0, 0, []), (57, 23, 1, 0, 0, [])],
  [(1, 23, 0, 0, (-2), []), (95, 25, 0, 0, 0, [])],
  [(6, 26, 0, 0, 0, []), (33, 27, 0, 0, 0, []), (60, 28, 10, 0, 9568265, []), (4, 31, 1, 0, 0, []), (11, 32, 0, 0, 0, []), (62, 33, 10, 0, 9568265, []), (6, 36, 0, 0, 0, []), (60, 37, 10, 0, 9568265, []), (95, 40, 0, 0, 0, [])]]
/-! 22: EngraversHouse.author:()I -/
set_option maxRecDepth 100000 in
noncomputable def zb22 : List (List zMI) := [
  [(6, 0, 0, 0, 0, []), (60, 1, 10, 2, 9699347, []), (1, 4, 0, 0, 12, []), (48, 6, 1, 0, 0, []), (1, 9, 0, 0, (-4), []), (95, 11, 0, 0, 0, [])],
  [(6, 12, 0, 0, 0, []), (61, 13, 10, 1, 9633807, []), (6, 16, 0, 0, 0, []), (60, 17, 10, 2, 9699347, []), (1, 20, 0, 0, (-1), []), (68, 21, 0, 0, 0, []), (6, 22, 0, 0, 0, []), (33, 23, 0, 0, 0, []), (60, 24, 10, 2, 9699347, []), (1, 27, 0, 0, 1, []), (11, 28, 0, 0, 0, []), (62, 29, 10, 2, 9699347, []), (6, 32, 0, 0, 0, []), (60, 33, 10, 2, 9699347, []), (1, 36, 0, 0, 1, []), (12, 37, 0, 0, 0, []), (95, 38, 0, 0, 0, [])]]
/-! 23: EngraversHouse.isAuthor:(I)Z -/
set_option maxRecDepth 100000 in
noncomputable def zb23 : List (List zMI) := [
  [(1, 0, 0, 0, 0, []), (4, 1, 1, 0, 0, []), (50, 2, 1, 0, 0, []), (4, 5, 1, 0, 0, []), (6, 6, 0, 0, 0, []), (60, 7, 10, 2, 9699347, []), (49, 10, 1, 0, 0, []), (4, 13, 1, 0, 0, []), (1, 14, 0, 0, 12, []), (49, 16, 1, 0, 0, []), (1, 19, 0, 0, 1, []), (56, 20, 2, 0, 0, [])],
  [(1, 23, 0, 0, 0, []), (57, 24, 2, 0, 0, [])],
  [(96, 24, 0, 0, 0, [])]]
/-! 24: EngraversHouse.died:(II)I -/
set_option maxRecDepth 100000 in
noncomputable def zb24 : List (List zMI) := [
  [(6, 0, 0, 0, 0, []), (4, 1, 1, 0, 0, []), (92, 2, 23, 2, 2, [(14549098, 10)]), (41, 5, 1, 0, 0, []), (1, 8, 0, 0, (-1), []), (95, 9, 0, 0, 0, [])],
  [(4, 10, 2, 0, 0, []), (1, 11, 0, 0, 0, []), (6, 12, 0, 0, 0, []), (60, 13, 10, 0, 9568265, []), (90, 16, 20, 3, 3, [(13828198, 10)]), (41, 19, 2, 0, 0, []), (1, 22, 0, 0, (-2), []), (95, 24, 0, 0, 0, [])],
  [(6, 25, 0, 0, 0, []), (61, 26, 10, 1, 9633807, []), (4, 29, 1, 0, 0, []), (65, 30, 0, 0, 0, []), (1, 31, 0, 0, (-1), []), (46, 32, 3, 0, 0, []), (1, 35, 0, 0, (-3), []), (95, 37, 0, 0, 0, [])],
  [(6, 38, 0, 0, 0, []), (61, 39, 10, 1, 9633807, []), (4, 42, 1, 0, 0, []), (4, 43, 2, 0, 0, []), (68, 44, 0, 0, 0, []), (1, 45, 0, 0, 1, []), (95, 46, 0, 0, 0, [])]]
/-! 25: EngraversHouse.isMeter:(I)Z -/
set_option maxRecDepth 100000 in
noncomputable def zb25 : List (List zMI) := [
  [(4, 0, 0, 0, 0, []), (1, 1, 0, 0, 2, []), (1, 2, 0, 0, 12, []), (90, 4, 20, 3, 3, [(13828198, 10)]), (96, 7, 0, 0, 0, [])]]
/-! 26: EngraversHouse$Thing.<init>:(II)V -/
set_option maxRecDepth 100000 in
noncomputable def zb26 : List (List zMI) := [
  [(6, 0, 0, 0, 0, []), (82, 1, 0, 0, 15794177, []), (6, 4, 0, 0, 0, []), (4, 5, 1, 0, 0, []), (62, 6, 20, 0, 16449543, []), (6, 9, 0, 0, 0, []), (4, 10, 2, 0, 0, []), (62, 11, 20, 1, 16842765, []), (101, 14, 0, 0, 0, [])]]
/-! 27: EngraversHouse$Score.<init>:(ILEngraversHouse$Score;III)V -/
set_option maxRecDepth 100000 in
noncomputable def zb27 : List (List zMI) := [
  [(6, 0, 0, 0, 0, []), (6, 1, 2, 0, 0, []), (55, 2, 1, 0, 0, []), (1, 5, 0, 0, 1, []), (56, 6, 2, 0, 0, [])],
  [(1, 9, 0, 0, 6, []), (57, 11, 2, 0, 0, [])],
  [(4, 11, 1, 0, 0, []), (91, 12, 26, 3, 3, [(15597571, 20)]), (6, 15, 0, 0, 0, []), (1, 16, 0, 0, 80, []), (75, 18, 36, 0, 15859721, []), (64, 21, 8, 6, 16318475, []), (6, 24, 0, 0, 0, []), (1, 25, 0, 0, 4, []), (74, 26, 30, 0, 0, []), (64, 28, 8, 7, 16384017, []), (6, 31, 0, 0, 0, []), (6, 32, 2, 0, 0, []), (64, 33, 8, 2, 15990805, []), (6, 36, 0, 0, 0, []), (4, 37, 3, 0, 0, []), (62, 38, 8, 3, 16056345, []), (6, 41, 0, 0, 0, []), (4, 42, 4, 0, 0, []), (62, 44, 8, 4, 16187421, []), (6, 47, 0, 0, 0, []), (4, 48, 5, 0, 0, []), (62, 50, 8, 5, 16252960, []), (101, 53, 0, 0, 0, [])]]
/-! 28: EngraversHouse.keep:(LEngraversHouse$Thing;)I -/
set_option maxRecDepth 100000 in
noncomputable def zb28 : List (List zMI) := [
  [(6, 0, 0, 0, 0, []), (60, 1, 10, 4, 9830428, []), (1, 4, 0, 0, 60, []), (48, 6, 1, 0, 0, []), (1, 9, 0, 0, (-4), []), (95, 11, 0, 0, 0, [])],
  [(6, 12, 0, 0, 0, []), (61, 13, 10, 3, 9764888, []), (6, 16, 0, 0, 0, []), (60, 17, 10, 4, 9830428, []), (6, 20, 1, 0, 0, []), (71, 21, 0, 0, 0, []), (6, 22, 0, 0, 0, []), (33, 23, 0, 0, 0, []), (60, 24, 10, 4, 9830428, []), (1, 27, 0, 0, 1, []), (11, 28, 0, 0, 0, []), (62, 29, 10, 4, 9830428, []), (6, 32, 1, 0, 0, []), (60, 33, 20, 1, 17564144, []), (95, 36, 0, 0, 0, [])]]
/-! 29: EngraversHouse.score:(III)I -/
set_option maxRecDepth 100000 in
noncomputable def zb29 : List (List zMI) := [
  [(6, 0, 0, 0, 0, []), (4, 1, 1, 0, 0, []), (92, 2, 23, 2, 2, [(14549098, 10)]), (41, 5, 1, 0, 0, []), (1, 8, 0, 0, (-1), []), (95, 9, 0, 0, 0, [])],
  [(4, 10, 2, 0, 0, []), (90, 11, 25, 1, 1, [(15073390, 10)]), (40, 14, 2, 0, 0, []), (4, 17, 3, 0, 0, []), (1, 18, 0, 0, 1, []), (1, 19, 0, 0, 4, []), (90, 20, 20, 3, 3, [(13828198, 10)]), (41, 23, 3, 0, 0, []), (57, 26, 2, 0, 0, [])],
  [(1, 26, 0, 0, (-2), []), (95, 28, 0, 0, 0, [])],
  [(6, 29, 0, 0, 0, []), (60, 30, 10, 4, 9830428, []), (1, 33, 0, 0, 60, []), (48, 35, 4, 0, 0, []), (1, 38, 0, 0, (-4), []), (95, 40, 0, 0, 0, [])],
  [(6, 41, 0, 0, 0, []), (73, 42, 8, 8, 15270001, []), (33, 45, 0, 0, 0, []), (6, 46, 0, 0, 0, []), (60, 47, 10, 4, 9830428, []), (3, 50, 0, 0, 0, []), (4, 51, 1, 0, 0, []), (4, 52, 2, 0, 0, []), (4, 53, 3, 0, 0, []), (91, 54, 27, 6, 6, [(15401075, 8)]), (92, 57, 28, 2, 2, [(18743414, 10)]), (95, 60, 0, 0, 0, [])]]
/-! 30: EngraversHouse.thingAt:(I)LEngraversHouse$Thing; -/
set_option maxRecDepth 100000 in
noncomputable def zb30 : List (List zMI) := [
  [(1, 0, 0, 0, 0, []), (4, 1, 1, 0, 0, []), (50, 2, 1, 0, 0, []), (4, 5, 1, 0, 0, []), (6, 6, 0, 0, 0, []), (60, 7, 10, 4, 9830428, []), (49, 10, 1, 0, 0, []), (4, 13, 1, 0, 0, []), (1, 14, 0, 0, 60, []), (49, 16, 1, 0, 0, []), (6, 19, 0, 0, 0, []), (61, 20, 10, 3, 9764888, []), (4, 23, 1, 0, 0, []), (67, 24, 0, 0, 0, []), (56, 25, 2, 0, 0, [])],
  [(3, 28, 0, 0, 0, []), (57, 29, 2, 0, 0, [])],
  [(100, 29, 0, 0, 0, [])]]
/-! 31: EngraversHouse.scoreAt:(I)LEngraversHouse$Score; -/
set_option maxRecDepth 100000 in
noncomputable def zb31 : List (List zMI) := [
  [(6, 0, 0, 0, 0, []), (4, 1, 1, 0, 0, []), (92, 2, 30, 2, 2, [(19267706, 10)]), (9, 5, 3, 0, 0, []), (6, 6, 3, 0, 0, []), (77, 7, 8, 0, 15270001, []), (40, 10, 1, 0, 0, []), (6, 13, 3, 0, 0, []), (78, 14, 8, 0, 15270001, []), (9, 17, 2, 0, 0, []), (6, 18, 2, 0, 0, []), (56, 19, 2, 0, 0, [])],
  [(3, 22, 0, 0, 0, []), (57, 23, 2, 0, 0, [])],
  [(100, 23, 0, 0, 0, [])]]
/-! 32: EngraversHouse$Score.rootScore:()LEngraversHouse$Score; -/
set_option maxRecDepth 100000 in
noncomputable def zb32 : List (List zMI) := [
  [(6, 0, 0, 0, 0, []), (61, 1, 8, 2, 15990805, []), (55, 4, 1, 0, 0, []), (6, 7, 0, 0, 0, []), (56, 8, 2, 0, 0, [])],
  [(6, 11, 0, 0, 0, []), (61, 12, 8, 2, 15990805, []), (57, 15, 2, 0, 0, [])],
  [(100, 15, 0, 0, 0, [])]]
/-! 33: EngraversHouse.derive:(IIII)I -/
set_option maxRecDepth 100000 in
noncomputable def zb33 : List (List zMI) := [
  [(6, 0, 0, 0, 0, []), (4, 1, 1, 0, 0, []), (92, 2, 30, 2, 2, [(19267706, 10)]), (54, 5, 1, 0, 0, []), (6, 8, 0, 0, 0, []), (4, 9, 2, 0, 0, []), (92, 10, 23, 2, 2, [(14549098, 10)]), (41, 13, 2, 0, 0, []), (57, 16, 1, 0, 0, [])],
  [(1, 16, 0, 0, (-1), []), (95, 17, 0, 0, 0, [])],
  [(6, 18, 0, 0, 0, []), (4, 19, 1, 0, 0, []), (92, 20, 31, 2, 4, [(19529854, 10)]), (9, 23, 5, 0, 0, []), (6, 25, 5, 0, 0, []), (55, 27, 3, 0, 0, []), (1, 30, 0, 0, (-12), []), (95, 32, 0, 0, 0, [])],
  [(4, 33, 3, 0, 0, []), (90, 34, 25, 1, 1, [(15073390, 10)]), (40, 37, 4, 0, 0, []), (4, 40, 4, 0, 0, []), (1, 42, 0, 0, 1, []), (1, 43, 0, 0, 4, []), (90, 44, 20, 3, 3, [(13828198, 10)]), (41, 47, 5, 0, 0, []), (57, 50, 4, 0, 0, [])],
  [(1, 50, 0, 0, (-2), []), (95, 52, 0, 0, 0, [])],
  [(6, 53, 0, 0, 0, []), (60, 54, 10, 4, 9830428, []), (1, 57, 0, 0, 60, []), (48, 59, 6, 0, 0, []), (1, 62, 0, 0, (-4), []), (95, 64, 0, 0, 0, [])],
  [(6, 65, 0, 0, 0, []), (73, 66, 8, 8, 15270001, []), (33, 69, 0, 0, 0, []), (6, 70, 0, 0, 0, []), (60, 71, 10, 4, 9830428, []), (6, 74, 5, 0, 0, []), (92, 76, 32, 1, 1, [(19792002, 8)]), (4, 79, 2, 0, 0, []), (4, 80, 3, 0, 0, []), (4, 81, 4, 0, 0, []), (91, 83, 27, 6, 6, [(15401075, 8)]), (92, 86, 28, 2, 2, [(18743414, 10)]), (95, 89, 0, 0, 0, [])]]
/-! 34: EngraversHouse.lacking:(I)I -/
set_option maxRecDepth 100000 in
noncomputable def zb34 : List (List zMI) := [
  [(6, 0, 0, 0, 0, []), (4, 1, 1, 0, 0, []), (92, 2, 30, 2, 2, [(19267706, 10)]), (55, 5, 1, 0, 0, []), (1, 8, 0, 0, (-1), []), (56, 9, 2, 0, 0, [])],
  [(1, 12, 0, 0, (-12), []), (57, 14, 2, 0, 0, [])],
  [(95, 14, 0, 0, 0, [])]]
/-! 35: EngraversHouse$Score.hasVoice:(I)Z -/
set_option maxRecDepth 100000 in
noncomputable def zb35 : List (List zMI) := [
  [(1, 0, 0, 0, 0, []), (4, 1, 1, 0, 0, []), (50, 2, 1, 0, 0, []), (4, 5, 1, 0, 0, []), (6, 6, 0, 0, 0, []), (60, 7, 8, 5, 16252960, []), (49, 10, 1, 0, 0, []), (4, 13, 1, 0, 0, []), (1, 14, 0, 0, 4, []), (49, 15, 1, 0, 0, []), (1, 18, 0, 0, 1, []), (56, 19, 2, 0, 0, [])],
  [(1, 22, 0, 0, 0, []), (57, 23, 2, 0, 0, [])],
  [(96, 23, 0, 0, 0, [])]]
/-! 36: EngraversHouse.isNote:(III)Z -/
set_option maxRecDepth 100000 in
noncomputable def zb36 : List (List zMI) := [
  [(4, 0, 0, 0, 0, []), (1, 1, 0, 0, 0, []), (1, 2, 0, 0, 60, []), (90, 4, 20, 3, 3, [(13828198, 10)]), (40, 7, 2, 0, 0, []), (4, 10, 1, 0, 0, []), (1, 11, 0, 0, 1, []), (1, 12, 0, 0, 12, []), (90, 14, 20, 3, 3, [(13828198, 10)]), (40, 17, 2, 0, 0, []), (4, 20, 2, 0, 0, []), (1, 21, 0, 0, 0, []), (1, 22, 0, 0, 1, []), (90, 23, 20, 3, 3, [(13828198, 10)]), (40, 26, 2, 0, 0, []), (4, 29, 0, 0, 0, []), (41, 30, 1, 0, 0, []), (4, 33, 2, 0, 0, []), (1, 34, 0, 0, 1, []), (46, 35, 2, 0, 0, []), (57, 38, 1, 0, 0, [])],
  [(1, 38, 0, 0, 1, []), (56, 39, 3, 0, 0, [])],
  [(1, 42, 0, 0, 0, []), (57, 43, 3, 0, 0, [])],
  [(96, 43, 0, 0, 0, [])]]
/-! 37: EngraversHouse.noteCode:(III)I -/
set_option maxRecDepth 100000 in
noncomputable def zb37 : List (List zMI) := [
  [(4, 0, 0, 0, 0, []), (41, 1, 1, 0, 0, []), (1, 4, 0, 0, 0, []), (56, 5, 2, 0, 0, [])],
  [(1, 8, 0, 0, 1000, []), (4, 11, 0, 0, 0, []), (1, 12, 0, 0, 100, []), (11, 14, 0, 0, 0, []), (13, 15, 0, 0, 0, []), (57, 16, 2, 0, 0, [])],
  [(1, 16, 0, 0, 2, []), (4, 17, 1, 0, 0, []), (13, 18, 0, 0, 0, []), (11, 19, 0, 0, 0, []), (4, 20, 2, 0, 0, []), (11, 21, 0, 0, 0, []), (95, 22, 0, 0, 0, [])]]
/-! 38: EngraversHouse$Score.begunBar:(II)LEngraversHouse$Bar; -/
set_option maxRecDepth 100000 in
noncomputable def zb38 : List (List zMI) := [
  [(6, 0, 0, 0, 0, []), (4, 1, 1, 0, 0, []), (92, 2, 35, 2, 2, [(21495850, 8)]), (40, 5, 1, 0, 0, []), (1, 8, 0, 0, 0, []), (4, 9, 2, 0, 0, []), (50, 10, 1, 0, 0, []), (4, 13, 2, 0, 0, []), (1, 14, 0, 0, 20, []), (49, 16, 1, 0, 0, []), (4, 19, 2, 0, 0, []), (6, 20, 0, 0, 0, []), (61, 21, 8, 7, 16384017, []), (4, 24, 1, 0, 0, []), (65, 25, 0, 0, 0, []), (49, 26, 1, 0, 0, []), (6, 29, 0, 0, 0, []), (61, 30, 8, 6, 16318475, []), (4, 33, 1, 0, 0, []), (1, 34, 0, 0, 20, []), (13, 36, 0, 0, 0, []), (4, 37, 2, 0, 0, []), (11, 38, 0, 0, 0, []), (67, 39, 0, 0, 0, []), (56, 40, 2, 0, 0, [])],
  [(3, 43, 0, 0, 0, []), (57, 44, 2, 0, 0, [])],
  [(100, 44, 0, 0, 0, [])]]
/-! 39: EngraversHouse$Score.op_enBar:(I)LEngraversHouse$Bar; -/
set_option maxRecDepth 100000 in
noncomputable def zb39 : List (List zMI) := [
  [(6, 0, 0, 0, 0, []), (4, 1, 1, 0, 0, []), (92, 2, 35, 2, 2, [(21495850, 8)]), (40, 5, 1, 0, 0, []), (6, 8, 0, 0, 0, []), (4, 9, 1, 0, 0, []), (6, 10, 0, 0, 0, []), (61, 11, 8, 7, 16384017, []), (4, 14, 1, 0, 0, []), (65, 15, 0, 0, 0, []), (1, 16, 0, 0, 1, []), (12, 17, 0, 0, 0, []), (92, 18, 38, 3, 3, [(21823534, 8)]), (56, 21, 2, 0, 0, [])],
  [(3, 24, 0, 0, 0, []), (57, 25, 2, 0, 0, [])],
  [(9, 25, 2, 0, 0, []), (6, 26, 2, 0, 0, []), (54, 27, 3, 0, 0, []), (6, 30, 2, 0, 0, []), (60, 31, 0, 2, 23199794, []), (6, 34, 0, 0, 0, []), (60, 35, 8, 4, 16187421, []), (47, 38, 4, 0, 0, []), (57, 41, 3, 0, 0, [])],
  [(3, 41, 0, 0, 0, []), (56, 42, 5, 0, 0, [])],
  [(6, 45, 2, 0, 0, []), (57, 46, 5, 0, 0, [])],
  [(100, 46, 0, 0, 0, [])]]
/-! 40: EngraversHouse.lengthOf:(I)I -/
set_option maxRecDepth 100000 in
noncomputable def zb40 : List (List zMI) := [
  [(4, 0, 0, 0, 0, []), (1, 1, 0, 0, 1000, []), (15, 4, 0, 0, 0, []), (1, 5, 0, 0, 2, []), (14, 6, 0, 0, 0, []), (95, 7, 0, 0, 0, [])]]
/-! 41: EngraversHouse$Bar.<init>:()V -/
set_option maxRecDepth 100000 in
noncomputable def zb41 : List (List zMI) := [
  [(6, 0, 0, 0, 0, []), (82, 1, 0, 0, 22544387, []), (6, 4, 0, 0, 0, []), (1, 5, 0, 0, 8, []), (74, 7, 30, 0, 0, []), (64, 9, 0, 0, 22609929, []), (6, 12, 0, 0, 0, []), (1, 13, 0, 0, 0, []), (62, 14, 0, 1, 22806543, []), (6, 17, 0, 0, 0, []), (1, 18, 0, 0, 0, []), (62, 19, 0, 2, 23134227, []), (101, 22, 0, 0, 0, [])]]
/-! 42: EngraversHouse$Bar.addNote:(I)V -/
set_option maxRecDepth 100000 in
noncomputable def zb42 : List (List zMI) := [
  [(6, 0, 0, 0, 0, []), (60, 1, 0, 1, 22806543, []), (1, 4, 0, 0, 8, []), (49, 6, 1, 0, 0, []), (6, 9, 0, 0, 0, []), (61, 10, 0, 0, 22609929, []), (6, 13, 0, 0, 0, []), (60, 14, 0, 1, 22806543, []), (4, 17, 1, 0, 0, []), (68, 18, 0, 0, 0, []), (6, 19, 0, 0, 0, []), (33, 20, 0, 0, 0, []), (60, 21, 0, 1, 22806543, []), (1, 24, 0, 0, 1, []), (11, 25, 0, 0, 0, []), (62, 26, 0, 1, 22806543, []), (6, 29, 0, 0, 0, []), (33, 30, 0, 0, 0, []), (60, 31, 0, 2, 23134227, []), (4, 34, 1, 0, 0, []), (90, 35, 40, 1, 1, [(23986198, 10)]), (11, 38, 0, 0, 0, []), (62, 39, 0, 2, 23134227, []), (57, 42, 1, 0, 0, [])],
  [(101, 42, 0, 0, 0, [])]]
/-! 43: EngraversHouse$Score.takeNote:(II)I -/
set_option maxRecDepth 100000 in
noncomputable def zb43 : List (List zMI) := [
  [(6, 0, 0, 0, 0, []), (4, 1, 1, 0, 0, []), (92, 2, 35, 2, 2, [(21495850, 8)]), (41, 5, 1, 0, 0, []), (1, 8, 0, 0, (-3), []), (95, 10, 0, 0, 0, [])],
  [(6, 11, 0, 0, 0, []), (4, 12, 1, 0, 0, []), (92, 13, 39, 2, 3, [(21561397, 8)]), (9, 16, 3, 0, 0, []), (6, 17, 3, 0, 0, []), (55, 18, 2, 0, 0, []), (6, 21, 0, 0, 0, []), (60, 22, 8, 4, 16187421, []), (56, 25, 3, 0, 0, [])],
  [(6, 28, 0, 0, 0, []), (60, 29, 8, 4, 16187421, []), (6, 32, 3, 0, 0, []), (60, 33, 0, 2, 23199794, []), (12, 36, 0, 0, 0, []), (57, 37, 3, 0, 0, [])],
  [(7, 37, 4, 0, 0, []), (4, 39, 2, 0, 0, []), (90, 40, 40, 1, 1, [(22085689, 10)]), (7, 43, 5, 0, 0, []), (4, 45, 5, 0, 0, []), (4, 47, 4, 0, 0, []), (50, 49, 4, 0, 0, []), (6, 52, 3, 0, 0, []), (54, 53, 5, 0, 0, []), (6, 56, 3, 0, 0, []), (60, 57, 0, 1, 23003197, []), (1, 60, 0, 0, 7, []), (48, 62, 5, 0, 0, []), (4, 65, 5, 0, 0, []), (4, 67, 4, 0, 0, []), (49, 69, 5, 0, 0, []), (57, 72, 4, 0, 0, [])],
  [(1, 72, 0, 0, (-3), []), (95, 74, 0, 0, 0, [])],
  [(6, 75, 3, 0, 0, []), (55, 76, 7, 0, 0, []), (6, 79, 0, 0, 0, []), (61, 80, 8, 7, 16384017, []), (4, 83, 1, 0, 0, []), (65, 84, 0, 0, 0, []), (1, 85, 0, 0, 20, []), (48, 87, 6, 0, 0, []), (1, 90, 0, 0, (-4), []), (95, 92, 0, 0, 0, [])],
  [(73, 93, 0, 3, 15859721, []), (33, 96, 0, 0, 0, []), (91, 97, 41, 1, 1, [(22347840, 0)]), (9, 100, 3, 0, 0, []), (6, 101, 0, 0, 0, []), (61, 102, 8, 6, 16318475, []), (4, 105, 1, 0, 0, []), (1, 106, 0, 0, 20, []), (13, 108, 0, 0, 0, []), (6, 109, 0, 0, 0, []), (61, 110, 8, 7, 16384017, []), (4, 113, 1, 0, 0, []), (65, 114, 0, 0, 0, []), (11, 115, 0, 0, 0, []), (6, 116, 3, 0, 0, []), (71, 117, 0, 0, 0, []), (6, 118, 0, 0, 0, []), (61, 119, 8, 7, 16384017, []), (4, 122, 1, 0, 0, []), (34, 123, 0, 0, 0, []), (65, 124, 0, 0, 0, []), (1, 125, 0, 0, 1, []), (11, 126, 0, 0, 0, []), (68, 127, 0, 0, 0, []), (57, 128, 7, 0, 0, [])],
  [(6, 128, 3, 0, 0, []), (4, 129, 2, 0, 0, []), (92, 130, 42, 2, 2, [(23724099, 0)]), (1, 133, 0, 0, 0, []), (95, 134, 0, 0, 0, [])]]
/-! 44: EngraversHouse$Score.wholeBars:(I)I -/
set_option maxRecDepth 100000 in
noncomputable def zb44 : List (List zMI) := [
  [(6, 0, 0, 0, 0, []), (4, 1, 1, 0, 0, []), (92, 2, 35, 2, 2, [(21495850, 8)]), (41, 5, 1, 0, 0, []), (1, 8, 0, 0, 0, []), (95, 9, 0, 0, 0, [])],
  [(6, 10, 0, 0, 0, []), (4, 11, 1, 0, 0, []), (92, 12, 39, 2, 3, [(21561397, 8)]), (55, 15, 2, 0, 0, []), (6, 18, 0, 0, 0, []), (61, 19, 8, 7, 16384017, []), (4, 22, 1, 0, 0, []), (65, 23, 0, 0, 0, []), (56, 24, 3, 0, 0, [])],
  [(6, 27, 0, 0, 0, []), (61, 28, 8, 7, 16384017, []), (4, 31, 1, 0, 0, []), (65, 32, 0, 0, 0, []), (1, 33, 0, 0, 1, []), (12, 34, 0, 0, 0, []), (57, 35, 3, 0, 0, [])],
  [(95, 35, 0, 0, 0, [])]]
/-! 45: EngraversHouse.note:(IIIII)I -/
set_option maxRecDepth 100000 in
noncomputable def zb45 : List (List zMI) := [
  [(6, 0, 0, 0, 0, []), (4, 1, 1, 0, 0, []), (92, 2, 31, 2, 4, [(19529854, 10)]), (9, 5, 6, 0, 0, []), (6, 7, 6, 0, 0, []), (55, 9, 1, 0, 0, []), (6, 12, 0, 0, 0, []), (4, 13, 1, 0, 0, []), (92, 14, 34, 2, 2, [(20316294, 10)]), (95, 17, 0, 0, 0, [])],
  [(6, 18, 6, 0, 0, []), (4, 20, 2, 0, 0, []), (92, 21, 35, 2, 2, [(20578442, 8)]), (41, 24, 2, 0, 0, []), (1, 27, 0, 0, (-1), []), (95, 28, 0, 0, 0, [])],
  [(4, 29, 3, 0, 0, []), (4, 30, 4, 0, 0, []), (4, 32, 5, 0, 0, []), (90, 34, 36, 3, 3, [(20840589, 10)]), (41, 37, 3, 0, 0, []), (1, 40, 0, 0, (-2), []), (95, 42, 0, 0, 0, [])],
  [(6, 43, 6, 0, 0, []), (4, 45, 2, 0, 0, []), (4, 46, 3, 0, 0, []), (4, 47, 4, 0, 0, []), (4, 49, 5, 0, 0, []), (90, 51, 37, 3, 3, [(21037200, 10)]), (92, 54, 43, 3, 6, [(21233812, 8)]), (7, 57, 7, 0, 0, []), (4, 59, 7, 0, 0, []), (40, 61, 4, 0, 0, []), (4, 64, 7, 0, 0, []), (56, 66, 5, 0, 0, [])],
  [(6, 69, 6, 0, 0, []), (4, 71, 2, 0, 0, []), (92, 72, 44, 2, 2, [(24051864, 8)]), (57, 75, 5, 0, 0, [])],
  [(95, 75, 0, 0, 0, [])]]
/-! 46: EngraversHouse$Score.wholeBar:(II)LEngraversHouse$Bar; -/
set_option maxRecDepth 100000 in
noncomputable def zb46 : List (List zMI) := [
  [(6, 0, 0, 0, 0, []), (4, 1, 1, 0, 0, []), (4, 2, 2, 0, 0, []), (92, 3, 38, 3, 3, [(21823534, 8)]), (9, 6, 3, 0, 0, []), (6, 7, 3, 0, 0, []), (54, 8, 1, 0, 0, []), (6, 11, 3, 0, 0, []), (60, 12, 0, 2, 23199794, []), (6, 15, 0, 0, 0, []), (60, 16, 8, 4, 16187421, []), (47, 19, 1, 0, 0, []), (6, 22, 3, 0, 0, []), (56, 23, 2, 0, 0, [])],
  [(3, 26, 0, 0, 0, []), (57, 27, 2, 0, 0, [])],
  [(100, 27, 0, 0, 0, [])]]
/-! 47: EngraversHouse$Bar.hasNote:(I)Z -/
set_option maxRecDepth 100000 in
noncomputable def zb47 : List (List zMI) := [
  [(1, 0, 0, 0, 0, []), (4, 1, 1, 0, 0, []), (50, 2, 1, 0, 0, []), (4, 5, 1, 0, 0, []), (6, 6, 0, 0, 0, []), (60, 7, 0, 1, 22806543, []), (49, 10, 1, 0, 0, []), (4, 13, 1, 0, 0, []), (1, 14, 0, 0, 8, []), (49, 16, 1, 0, 0, []), (1, 19, 0, 0, 1, []), (56, 20, 2, 0, 0, [])],
  [(1, 23, 0, 0, 0, []), (57, 24, 2, 0, 0, [])],
  [(96, 24, 0, 0, 0, [])]]
/-! 48: EngraversHouse.isRest:(I)Z -/
set_option maxRecDepth 100000 in
noncomputable def zb48 : List (List zMI) := [
  [(4, 0, 0, 0, 0, []), (1, 1, 0, 0, 1000, []), (49, 4, 1, 0, 0, []), (1, 7, 0, 0, 1, []), (56, 8, 2, 0, 0, [])],
  [(1, 11, 0, 0, 0, []), (57, 12, 2, 0, 0, [])],
  [(96, 12, 0, 0, 0, [])]]
/-! 49: EngraversHouse.pitchOf:(I)I -/
set_option maxRecDepth 100000 in
noncomputable def zb49 : List (List zMI) := [
  [(4, 0, 0, 0, 0, []), (90, 1, 48, 1, 1, [(25297187, 10)]), (40, 4, 1, 0, 0, []), (1, 7, 0, 0, 0, []), (56, 8, 2, 0, 0, [])],
  [(4, 11, 0, 0, 0, []), (1, 12, 0, 0, 1000, []), (14, 15, 0, 0, 0, []), (1, 16, 0, 0, 100, []), (12, 18, 0, 0, 0, []), (57, 19, 2, 0, 0, [])],
  [(95, 19, 0, 0, 0, [])]]
/-! 50: EngraversHouse.withPitch:(II)I -/
set_option maxRecDepth 100000 in
noncomputable def zb50 : List (List zMI) := [
  [(1, 0, 0, 0, 1000, []), (4, 3, 1, 0, 0, []), (1, 4, 0, 0, 100, []), (11, 6, 0, 0, 0, []), (13, 7, 0, 0, 0, []), (4, 8, 0, 0, 0, []), (1, 9, 0, 0, 1000, []), (15, 12, 0, 0, 0, []), (11, 13, 0, 0, 0, []), (95, 14, 0, 0, 0, [])]]
/-! 51: EngraversHouse.repitched:(LEngraversHouse$Bar;III)I -/
set_option maxRecDepth 100000 in
noncomputable def zb51 : List (List zMI) := [
  [(4, 0, 2, 0, 0, []), (1, 1, 0, 0, 1, []), (4, 2, 3, 0, 0, []), (90, 3, 20, 3, 3, [(13828198, 10)]), (41, 6, 1, 0, 0, []), (1, 9, 0, 0, (-2), []), (95, 11, 0, 0, 0, [])],
  [(6, 12, 0, 0, 0, []), (4, 13, 1, 0, 0, []), (92, 14, 47, 2, 2, [(24838303, 0)]), (40, 17, 2, 0, 0, []), (6, 20, 0, 0, 0, []), (61, 21, 0, 0, 22741482, []), (4, 24, 1, 0, 0, []), (65, 25, 0, 0, 0, []), (90, 26, 48, 1, 1, [(25297187, 10)]), (40, 29, 3, 0, 0, []), (57, 32, 2, 0, 0, [])],
  [(1, 32, 0, 0, (-3), []), (95, 34, 0, 0, 0, [])],
  [(6, 35, 0, 0, 0, []), (61, 36, 0, 0, 22741482, []), (4, 39, 1, 0, 0, []), (65, 40, 0, 0, 0, []), (90, 41, 49, 1, 1, [(25493798, 10)]), (7, 44, 4, 0, 0, []), (6, 46, 0, 0, 0, []), (61, 47, 0, 0, 22741482, []), (4, 50, 1, 0, 0, []), (6, 51, 0, 0, 0, []), (61, 52, 0, 0, 22741482, []), (4, 55, 1, 0, 0, []), (65, 56, 0, 0, 0, []), (4, 57, 2, 0, 0, []), (90, 58, 50, 2, 2, [(25690605, 10)]), (68, 61, 0, 0, 0, []), (4, 62, 4, 0, 0, []), (95, 64, 0, 0, 0, [])]]
/-! 52: EngraversHouse.alter:(IIIII)I -/
set_option maxRecDepth 100000 in
noncomputable def zb52 : List (List zMI) := [
  [(6, 0, 0, 0, 0, []), (4, 1, 1, 0, 0, []), (92, 2, 31, 2, 4, [(19529854, 10)]), (9, 5, 6, 0, 0, []), (6, 7, 6, 0, 0, []), (55, 9, 1, 0, 0, []), (6, 12, 0, 0, 0, []), (4, 13, 1, 0, 0, []), (92, 14, 34, 2, 2, [(20316294, 10)]), (95, 17, 0, 0, 0, [])],
  [(6, 18, 6, 0, 0, []), (4, 20, 2, 0, 0, []), (4, 21, 3, 0, 0, []), (92, 22, 46, 3, 4, [(24576155, 8)]), (9, 25, 7, 0, 0, []), (6, 27, 7, 0, 0, []), (54, 29, 2, 0, 0, []), (6, 32, 7, 0, 0, []), (4, 34, 4, 0, 0, []), (92, 36, 47, 2, 2, [(24838303, 0)]), (41, 39, 3, 0, 0, []), (57, 42, 2, 0, 0, [])],
  [(1, 42, 0, 0, (-1), []), (95, 43, 0, 0, 0, [])],
  [(6, 44, 7, 0, 0, []), (4, 46, 4, 0, 0, []), (4, 48, 5, 0, 0, []), (1, 50, 0, 0, 60, []), (90, 52, 51, 4, 5, [(25100452, 10)]), (95, 55, 0, 0, 0, [])]]
/-! 53: EngraversHouse.isTape:(I)Z -/
set_option maxRecDepth 100000 in
noncomputable def zb53 : List (List zMI) := [
  [(4, 0, 0, 0, 0, []), (1, 1, 0, 0, 0, []), (1, 2, 0, 0, 5, []), (90, 3, 20, 3, 3, [(13828198, 10)]), (96, 6, 0, 0, 0, [])]]
/-! 54: EngraversHouse.hasStretch:(IJJ)Z -/
set_option maxRecDepth 100000 in
noncomputable def zb54 : List (List zMI) := [
  [(4, 0, 1, 0, 0, []), (90, 1, 53, 1, 1, [(26149032, 10)]), (40, 4, 1, 0, 0, []), (5, 7, 2, 0, 0, []), (2, 8, 0, 0, 0, []), (31, 9, 0, 0, 0, []), (42, 10, 1, 0, 0, []), (5, 13, 4, 0, 0, []), (2, 15, 0, 0, 0, []), (31, 16, 0, 0, 0, []), (42, 17, 1, 0, 0, []), (5, 20, 2, 0, 0, []), (5, 21, 4, 0, 0, []), (28, 23, 0, 0, 0, []), (6, 24, 0, 0, 0, []), (61, 25, 10, 17, 10682455, []), (4, 28, 1, 0, 0, []), (65, 29, 0, 0, 0, []), (23, 30, 0, 0, 0, []), (31, 31, 0, 0, 0, []), (44, 32, 1, 0, 0, []), (1, 35, 0, 0, 1, []), (56, 36, 2, 0, 0, [])],
  [(1, 39, 0, 0, 0, []), (57, 40, 2, 0, 0, [])],
  [(96, 40, 0, 0, 0, [])]]
/-! 55: EngraversHouse.takeFromTape:(LEngraversHouse$Score;IIJ)I -/
set_option maxRecDepth 100000 in
noncomputable def zb55 : List (List zMI) := [
  [(6, 0, 0, 0, 0, []), (4, 1, 3, 0, 0, []), (5, 2, 4, 0, 0, []), (2, 4, 0, 0, 1, []), (92, 5, 54, 4, 6, [(26608090, 10)]), (41, 8, 1, 0, 0, []), (1, 11, 0, 0, 1, []), (95, 12, 0, 0, 0, [])],
  [(6, 13, 0, 0, 0, []), (61, 14, 10, 15, 10551377, []), (4, 17, 3, 0, 0, []), (67, 18, 0, 0, 0, []), (5, 19, 4, 0, 0, []), (24, 21, 0, 0, 0, []), (65, 22, 0, 0, 0, []), (7, 23, 6, 0, 0, []), (4, 25, 6, 0, 0, []), (1, 27, 0, 0, 100, []), (14, 29, 0, 0, 0, []), (7, 30, 7, 0, 0, []), (4, 32, 6, 0, 0, []), (1, 34, 0, 0, 100, []), (15, 36, 0, 0, 0, []), (1, 37, 0, 0, 2, []), (14, 38, 0, 0, 0, []), (7, 39, 8, 0, 0, []), (4, 41, 6, 0, 0, []), (1, 43, 0, 0, 1, []), (20, 44, 0, 0, 0, []), (7, 45, 9, 0, 0, []), (4, 47, 7, 0, 0, []), (4, 49, 8, 0, 0, []), (4, 51, 9, 0, 0, []), (90, 53, 36, 3, 3, [(20840589, 10)]), (41, 56, 2, 0, 0, []), (1, 59, 0, 0, 2, []), (95, 60, 0, 0, 0, [])],
  [(6, 61, 1, 0, 0, []), (4, 62, 2, 0, 0, []), (4, 63, 7, 0, 0, []), (4, 65, 8, 0, 0, []), (4, 67, 9, 0, 0, []), (90, 69, 37, 3, 3, [(21037200, 10)]), (92, 72, 43, 3, 6, [(21233812, 8)]), (7, 75, 10, 0, 0, []), (4, 77, 10, 0, 0, []), (1, 79, 0, 0, (-4), []), (47, 81, 3, 0, 0, []), (1, 84, 0, 0, 3, []), (95, 85, 0, 0, 0, [])],
  [(4, 86, 10, 0, 0, []), (1, 88, 0, 0, (-3), []), (47, 90, 4, 0, 0, []), (1, 93, 0, 0, 2, []), (56, 94, 5, 0, 0, [])],
  [(1, 97, 0, 0, 0, []), (57, 98, 5, 0, 0, [])],
  [(95, 98, 0, 0, 0, [])]]
/-! 56: EngraversHouse.music:(IIIII)I -/
set_option maxRecDepth 100000 in
noncomputable def zb56 : List (List zMI) := [
  [(6, 0, 0, 0, 0, []), (4, 1, 1, 0, 0, []), (92, 2, 30, 2, 2, [(19267706, 10)]), (54, 5, 1, 0, 0, []), (4, 8, 3, 0, 0, []), (90, 9, 53, 1, 1, [(26149032, 10)]), (41, 12, 2, 0, 0, []), (57, 15, 1, 0, 0, [])],
  [(1, 15, 0, 0, (-1), []), (95, 16, 0, 0, 0, [])],
  [(6, 17, 0, 0, 0, []), (4, 18, 1, 0, 0, []), (92, 19, 31, 2, 4, [(19529854, 10)]), (9, 22, 6, 0, 0, []), (6, 24, 6, 0, 0, []), (55, 26, 3, 0, 0, []), (1, 29, 0, 0, (-12), []), (95, 31, 0, 0, 0, [])],
  [(6, 32, 6, 0, 0, []), (4, 34, 2, 0, 0, []), (92, 35, 35, 2, 2, [(20578442, 8)]), (41, 38, 4, 0, 0, []), (1, 41, 0, 0, (-1), []), (95, 42, 0, 0, 0, [])],
  [(4, 43, 5, 0, 0, []), (1, 45, 0, 0, 1, []), (1, 46, 0, 0, 60, []), (90, 48, 20, 3, 3, [(13828198, 10)]), (41, 51, 5, 0, 0, []), (1, 54, 0, 0, (-2), []), (95, 56, 0, 0, 0, [])],
  [(6, 57, 0, 0, 0, []), (61, 58, 10, 16, 10616916, []), (4, 61, 3, 0, 0, []), (65, 62, 0, 0, 0, []), (1, 63, 0, 0, (-1), []), (46, 64, 6, 0, 0, []), (6, 67, 0, 0, 0, []), (61, 68, 10, 16, 10616916, []), (4, 71, 3, 0, 0, []), (65, 72, 0, 0, 0, []), (1, 73, 0, 0, 1, []), (46, 74, 6, 0, 0, []), (1, 77, 0, 0, (-12), []), (95, 79, 0, 0, 0, [])],
  [(1, 80, 0, 0, 0, []), (7, 81, 7, 0, 0, []), (6, 83, 0, 0, 0, []), (1, 84, 0, 0, 0, []), (62, 85, 10, 5, 9895967, []), (57, 88, 7, 0, 0, [])],
  [(4, 88, 7, 0, 0, []), (4, 90, 5, 0, 0, []), (49, 92, 8, 0, 0, []), (6, 95, 0, 0, 0, []), (60, 96, 10, 5, 9895967, []), (41, 99, 8, 0, 0, []), (6, 102, 0, 0, 0, []), (6, 103, 0, 0, 0, []), (6, 104, 6, 0, 0, []), (4, 106, 2, 0, 0, []), (4, 107, 3, 0, 0, []), (4, 108, 4, 0, 0, []), (23, 110, 0, 0, 0, []), (4, 111, 7, 0, 0, []), (23, 113, 0, 0, 0, []), (28, 114, 0, 0, 0, []), (92, 115, 55, 5, 11, [(26345643, 10)]), (62, 118, 10, 5, 9895967, []), (6, 121, 0, 0, 0, []), (60, 122, 10, 5, 9895967, []), (41, 125, 7, 0, 0, []), (10, 128, 7, 0, 1, []), (56, 131, 7, 0, 0, [])],
  [(4, 134, 7, 0, 0, []), (95, 136, 0, 0, 0, [])]]
/-! 57: EngraversHouse.ended:()I -/
set_option maxRecDepth 100000 in
noncomputable def zb57 : List (List zMI) := [
  [(6, 0, 0, 0, 0, []), (60, 1, 10, 5, 9895967, []), (1, 4, 0, 0, (-1), []), (47, 5, 1, 0, 0, []), (1, 8, 0, 0, (-3), []), (56, 10, 2, 0, 0, [])],
  [(6, 13, 0, 0, 0, []), (60, 14, 10, 5, 9895967, []), (57, 17, 2, 0, 0, [])],
  [(95, 17, 0, 0, 0, [])]]
/-! 58: EngraversHouse$Edition.scoreNumber:()I -/
set_option maxRecDepth 100000 in
noncomputable def zb58 : List (List zMI) := [
  [(6, 0, 0, 0, 0, []), (61, 1, 2, 2, 42991654, []), (60, 4, 8, 1, 16908348, []), (95, 7, 0, 0, 0, [])]]
/-! 59: EngraversHouse$Erratum.scoreNumber:()I -/
set_option maxRecDepth 100000 in
noncomputable def zb59 : List (List zMI) := [
  [(6, 0, 0, 0, 0, []), (61, 1, 3, 2, 48168969, []), (61, 4, 2, 2, 43057177, []), (60, 7, 8, 1, 17235999, []), (95, 10, 0, 0, 0, [])]]
/-! 60: EngraversHouse$Part.scoreNumber:()I -/
set_option maxRecDepth 100000 in
noncomputable def zb60 : List (List zMI) := [
  [(6, 0, 0, 0, 0, []), (61, 1, 5, 2, 32571414, []), (60, 4, 8, 1, 17039392, []), (95, 7, 0, 0, 0, [])]]
/-! 61: EngraversHouse$Plate.scoreNumber:()I -/
set_option maxRecDepth 100000 in
noncomputable def zb61 : List (List zMI) := [
  [(6, 0, 0, 0, 0, []), (61, 1, 6, 2, 38207503, []), (61, 4, 5, 2, 32636985, []), (60, 7, 8, 1, 17104957, []), (95, 10, 0, 0, 0, [])]]
/-! 62: EngraversHouse$Score.scoreNumber:()I -/
set_option maxRecDepth 100000 in
noncomputable def zb62 : List (List zMI) := [
  [(6, 0, 0, 0, 0, []), (92, 1, 32, 1, 1, [(28573731, 8)]), (60, 4, 8, 1, 17170471, []), (95, 7, 0, 0, 0, [])]]
/-! 63: EngraversHouse$Edition.second:()I -/
set_option maxRecDepth 100000 in
noncomputable def zb63 : List (List zMI) := [
  [(6, 0, 0, 0, 0, []), (60, 1, 2, 3, 43188266, []), (95, 4, 0, 0, 0, [])]]
/-! 64: EngraversHouse$Erratum.voice:()I -/
set_option maxRecDepth 100000 in
noncomputable def zb64 : List (List zMI) := [
  [(6, 0, 0, 0, 0, []), (60, 1, 3, 3, 48300047, []), (1, 4, 0, 0, 160, []), (14, 7, 0, 0, 0, []), (95, 8, 0, 0, 0, [])]]
/-! 65: EngraversHouse$Erratum.second:()I -/
set_option maxRecDepth 100000 in
noncomputable def zb65 : List (List zMI) := [
  [(6, 0, 0, 0, 0, []), (92, 1, 64, 1, 1, [(29229092, 3)]), (95, 4, 0, 0, 0, [])]]
/-! 66: EngraversHouse$Part.second:()I -/
set_option maxRecDepth 100000 in
noncomputable def zb66 : List (List zMI) := [
  [(6, 0, 0, 0, 0, []), (60, 1, 5, 3, 32768026, []), (95, 4, 0, 0, 0, [])]]
/-! 67: EngraversHouse$Plate.second:()I -/
set_option maxRecDepth 100000 in
noncomputable def zb67 : List (List zMI) := [
  [(6, 0, 0, 0, 0, []), (61, 1, 6, 2, 38207503, []), (60, 4, 5, 3, 32833602, []), (95, 7, 0, 0, 0, [])]]
/-! 68: EngraversHouse$Score.second:()I -/
set_option maxRecDepth 100000 in
noncomputable def zb68 : List (List zMI) := [
  [(6, 0, 0, 0, 0, []), (60, 1, 8, 4, 16187421, []), (95, 4, 0, 0, 0, [])]]
/-! 69: EngraversHouse$Edition.third:()I -/
set_option maxRecDepth 100000 in
noncomputable def zb69 : List (List zMI) := [
  [(6, 0, 0, 0, 0, []), (60, 1, 2, 4, 43253769, []), (95, 4, 0, 0, 0, [])]]
/-! 70: EngraversHouse$Erratum.bar:()I -/
set_option maxRecDepth 100000 in
noncomputable def zb70 : List (List zMI) := [
  [(6, 0, 0, 0, 0, []), (60, 1, 3, 3, 48300047, []), (1, 4, 0, 0, 8, []), (14, 6, 0, 0, 0, []), (1, 7, 0, 0, 20, []), (15, 9, 0, 0, 0, []), (95, 10, 0, 0, 0, [])]]
/-! 71: EngraversHouse$Erratum.third:()I -/
set_option maxRecDepth 100000 in
noncomputable def zb71 : List (List zMI) := [
  [(6, 0, 0, 0, 0, []), (92, 1, 70, 1, 1, [(30670888, 3)]), (95, 4, 0, 0, 0, [])]]
/-! 72: EngraversHouse$Part.third:()I -/
set_option maxRecDepth 100000 in
noncomputable def zb72 : List (List zMI) := [
  [(6, 0, 0, 0, 0, []), (60, 1, 5, 4, 33030173, []), (95, 4, 0, 0, 0, [])]]
/-! 73: EngraversHouse$Plate.third:()I -/
set_option maxRecDepth 100000 in
noncomputable def zb73 : List (List zMI) := [
  [(6, 0, 0, 0, 0, []), (60, 1, 6, 3, 38404115, []), (95, 4, 0, 0, 0, [])]]
/-! 74: EngraversHouse$Score.third:()I -/
set_option maxRecDepth 100000 in
noncomputable def zb74 : List (List zMI) := [
  [(6, 0, 0, 0, 0, []), (60, 1, 8, 5, 16252960, []), (95, 4, 0, 0, 0, [])]]
/-! 75: EngraversHouse.of:(II)I -/
set_option maxRecDepth 100000 in
noncomputable def zb75 : List (List zMI) := [
  [(6, 0, 0, 0, 0, []), (4, 1, 1, 0, 0, []), (92, 2, 30, 2, 2, [(19267706, 10)]), (9, 5, 3, 0, 0, []), (6, 6, 3, 0, 0, []), (55, 7, 1, 0, 0, []), (1, 10, 0, 0, (-100), []), (95, 12, 0, 0, 0, [])],
  [(4, 13, 2, 0, 0, []), (58, 14, 6, 0, 0, [(0, 2), (1, 3), (2, 4), (3, 5)])],
  [(6, 44, 3, 0, 0, []), (60, 45, 20, 0, 16515247, []), (95, 48, 0, 0, 0, [])],
  [(6, 49, 3, 0, 0, []), (93, 50, 27394226, 1, 1, [(3, 58), (4, 59), (6, 60), (7, 61), (9, 62)]), (95, 53, 0, 0, 0, [])],
  [(6, 54, 3, 0, 0, []), (93, 55, 28639414, 1, 1, [(3, 63), (4, 65), (6, 66), (7, 67), (9, 68)]), (95, 58, 0, 0, 0, [])],
  [(6, 59, 3, 0, 0, []), (93, 60, 30081209, 1, 1, [(3, 69), (4, 71), (6, 72), (7, 73), (9, 74)]), (95, 63, 0, 0, 0, [])],
  [(1, 64, 0, 0, (-100), []), (95, 66, 0, 0, 0, [])]]
/-! 76: EngraversHouse.bars:(II)I -/
set_option maxRecDepth 100000 in
noncomputable def zb76 : List (List zMI) := [
  [(6, 0, 0, 0, 0, []), (4, 1, 1, 0, 0, []), (92, 2, 31, 2, 4, [(19529854, 10)]), (9, 5, 3, 0, 0, []), (6, 6, 3, 0, 0, []), (55, 7, 1, 0, 0, []), (6, 10, 0, 0, 0, []), (4, 11, 1, 0, 0, []), (92, 12, 34, 2, 2, [(20316294, 10)]), (95, 15, 0, 0, 0, [])],
  [(6, 16, 3, 0, 0, []), (4, 17, 2, 0, 0, []), (92, 18, 35, 2, 2, [(20578442, 8)]), (40, 21, 2, 0, 0, []), (6, 24, 3, 0, 0, []), (4, 25, 2, 0, 0, []), (92, 26, 44, 2, 2, [(24051864, 8)]), (56, 29, 3, 0, 0, [])],
  [(1, 32, 0, 0, (-1), []), (57, 33, 3, 0, 0, [])],
  [(95, 33, 0, 0, 0, [])]]
/-! 77: EngraversHouse$Part.<init>:(IILEngraversHouse$Score;II)V -/
set_option maxRecDepth 100000 in
noncomputable def zb77 : List (List zMI) := [
  [(6, 0, 0, 0, 0, []), (4, 1, 1, 0, 0, []), (4, 2, 2, 0, 0, []), (91, 3, 26, 3, 3, [(32374785, 20)]), (6, 6, 0, 0, 0, []), (1, 7, 0, 0, 0, []), (62, 8, 5, 5, 33226759, []), (6, 11, 0, 0, 0, []), (73, 12, 0, 3, 32440333, []), (33, 15, 0, 0, 0, []), (91, 16, 41, 1, 1, [(32505871, 0)]), (64, 19, 5, 6, 33357842, []), (6, 22, 0, 0, 0, []), (6, 23, 3, 0, 0, []), (64, 24, 5, 2, 32571414, []), (6, 27, 0, 0, 0, []), (4, 28, 4, 0, 0, []), (62, 30, 5, 3, 32768026, []), (6, 33, 0, 0, 0, []), (4, 34, 5, 0, 0, []), (62, 36, 5, 4, 33030173, []), (101, 39, 0, 0, 0, [])]]
/-! 78: EngraversHouse.part:(III)I -/
set_option maxRecDepth 100000 in
noncomputable def zb78 : List (List zMI) := [
  [(6, 0, 0, 0, 0, []), (4, 1, 1, 0, 0, []), (92, 2, 31, 2, 4, [(19529854, 10)]), (9, 5, 4, 0, 0, []), (6, 7, 4, 0, 0, []), (55, 9, 1, 0, 0, []), (6, 12, 0, 0, 0, []), (4, 13, 1, 0, 0, []), (92, 14, 34, 2, 2, [(20316294, 10)]), (95, 17, 0, 0, 0, [])],
  [(6, 18, 4, 0, 0, []), (4, 20, 2, 0, 0, []), (92, 21, 35, 2, 2, [(20578442, 8)]), (41, 24, 2, 0, 0, []), (1, 27, 0, 0, (-1), []), (95, 28, 0, 0, 0, [])],
  [(4, 29, 3, 0, 0, []), (1, 30, 0, 0, (-12), []), (1, 32, 0, 0, 12, []), (90, 34, 20, 3, 3, [(13828198, 10)]), (41, 37, 3, 0, 0, []), (1, 40, 0, 0, (-2), []), (95, 42, 0, 0, 0, [])],
  [(6, 43, 0, 0, 0, []), (60, 44, 10, 4, 9830428, []), (1, 47, 0, 0, 60, []), (48, 49, 4, 0, 0, []), (1, 52, 0, 0, (-4), []), (95, 54, 0, 0, 0, [])],
  [(6, 55, 0, 0, 0, []), (73, 56, 5, 7, 32047292, []), (33, 59, 0, 0, 0, []), (1, 60, 0, 0, 2, []), (6, 61, 0, 0, 0, []), (60, 62, 10, 4, 9830428, []), (6, 65, 4, 0, 0, []), (4, 67, 2, 0, 0, []), (4, 68, 3, 0, 0, []), (91, 69, 77, 6, 6, [(32178366, 5)]), (92, 72, 28, 2, 2, [(18743414, 10)]), (95, 75, 0, 0, 0, [])]]
/-! 79: EngraversHouse.partAt:(I)LEngraversHouse$Part; -/
set_option maxRecDepth 100000 in
noncomputable def zb79 : List (List zMI) := [
  [(6, 0, 0, 0, 0, []), (4, 1, 1, 0, 0, []), (92, 2, 30, 2, 2, [(19267706, 10)]), (9, 5, 3, 0, 0, []), (6, 6, 3, 0, 0, []), (77, 7, 5, 0, 32047292, []), (40, 10, 1, 0, 0, []), (6, 13, 3, 0, 0, []), (78, 14, 5, 0, 32047292, []), (9, 17, 2, 0, 0, []), (6, 18, 2, 0, 0, []), (56, 19, 2, 0, 0, [])],
  [(3, 22, 0, 0, 0, []), (57, 23, 2, 0, 0, [])],
  [(100, 23, 0, 0, 0, [])]]
/-! 80: EngraversHouse$Bar.clearNotes:()V -/
set_option maxRecDepth 100000 in
noncomputable def zb80 : List (List zMI) := [
  [(6, 0, 0, 0, 0, []), (1, 1, 0, 0, 0, []), (62, 2, 0, 1, 22806543, []), (6, 5, 0, 0, 0, []), (1, 6, 0, 0, 0, []), (62, 7, 0, 2, 23134227, []), (101, 10, 0, 0, 0, [])]]
/-! 81: EngraversHouse.shifted:(II)I -/
set_option maxRecDepth 100000 in
noncomputable def zb81 : List (List zMI) := [
  [(4, 0, 0, 0, 0, []), (90, 1, 48, 1, 1, [(25297187, 10)]), (40, 4, 1, 0, 0, []), (4, 7, 0, 0, 0, []), (56, 8, 2, 0, 0, [])],
  [(4, 11, 0, 0, 0, []), (1, 12, 0, 0, 1000, []), (4, 15, 1, 0, 0, []), (13, 16, 0, 0, 0, []), (11, 17, 0, 0, 0, []), (57, 18, 2, 0, 0, [])],
  [(95, 18, 0, 0, 0, [])]]
/-! 82: EngraversHouse$Bar.joinNote:(I)V -/
set_option maxRecDepth 100000 in
noncomputable def zb82 : List (List zMI) := [
  [(6, 0, 0, 0, 0, []), (60, 1, 0, 1, 22806543, []), (1, 4, 0, 0, 1, []), (12, 5, 0, 0, 0, []), (7, 6, 2, 0, 0, []), (6, 7, 0, 0, 0, []), (4, 8, 2, 0, 0, []), (92, 9, 47, 2, 2, [(35848218, 0)]), (40, 12, 2, 0, 0, []), (6, 15, 0, 0, 0, []), (61, 16, 0, 0, 22609929, []), (4, 19, 2, 0, 0, []), (65, 20, 0, 0, 0, []), (1, 21, 0, 0, 1000, []), (14, 24, 0, 0, 0, []), (4, 25, 1, 0, 0, []), (1, 26, 0, 0, 1000, []), (14, 29, 0, 0, 0, []), (47, 30, 2, 0, 0, []), (4, 33, 1, 0, 0, []), (90, 34, 48, 1, 1, [(35913758, 10)]), (41, 37, 1, 0, 0, []), (6, 40, 0, 0, 0, []), (61, 41, 0, 0, 22609929, []), (4, 44, 2, 0, 0, []), (65, 45, 0, 0, 0, []), (1, 46, 0, 0, 1, []), (20, 47, 0, 0, 0, []), (1, 48, 0, 0, 1, []), (47, 49, 2, 0, 0, []), (57, 52, 1, 0, 0, [])],
  [(6, 52, 0, 0, 0, []), (61, 53, 0, 0, 22609929, []), (4, 56, 2, 0, 0, []), (34, 57, 0, 0, 0, []), (65, 58, 0, 0, 0, []), (4, 59, 1, 0, 0, []), (1, 60, 0, 0, 1000, []), (15, 63, 0, 0, 0, []), (6, 64, 0, 0, 0, []), (61, 65, 0, 0, 22609929, []), (4, 68, 2, 0, 0, []), (65, 69, 0, 0, 0, []), (1, 70, 0, 0, 1, []), (20, 71, 0, 0, 0, []), (12, 72, 0, 0, 0, []), (11, 73, 0, 0, 0, []), (68, 74, 0, 0, 0, []), (6, 75, 0, 0, 0, []), (33, 76, 0, 0, 0, []), (60, 77, 0, 2, 23134227, []), (4, 80, 1, 0, 0, []), (90, 81, 40, 1, 1, [(23986198, 10)]), (11, 84, 0, 0, 0, []), (62, 85, 0, 2, 23134227, []), (56, 88, 3, 0, 0, [])],
  [(6, 91, 0, 0, 0, []), (4, 92, 1, 0, 0, []), (92, 93, 42, 2, 2, [(35979297, 0)]), (57, 96, 3, 0, 0, [])],
  [(101, 96, 0, 0, 0, [])]]
/-! 83: EngraversHouse$Part.barAsRead:(I)LEngraversHouse$Bar; -/
set_option maxRecDepth 100000 in
noncomputable def zb83 : List (List zMI) := [
  [(6, 0, 0, 0, 0, []), (61, 1, 5, 2, 32571414, []), (6, 4, 0, 0, 0, []), (60, 5, 5, 3, 32768026, []), (4, 8, 1, 0, 0, []), (92, 9, 46, 3, 4, [(35061801, 8)]), (9, 12, 2, 0, 0, []), (6, 13, 2, 0, 0, []), (55, 14, 1, 0, 0, []), (3, 17, 0, 0, 0, []), (100, 18, 0, 0, 0, [])],
  [(6, 19, 0, 0, 0, []), (61, 20, 5, 6, 33357842, []), (92, 23, 80, 1, 1, [(35127341, 0)]), (1, 26, 0, 0, 0, []), (7, 27, 3, 0, 0, []), (57, 28, 2, 0, 0, [])],
  [(4, 28, 3, 0, 0, []), (6, 29, 2, 0, 0, []), (60, 30, 0, 1, 22937648, []), (49, 33, 3, 0, 0, []), (6, 36, 0, 0, 0, []), (61, 37, 5, 6, 33357842, []), (6, 40, 2, 0, 0, []), (61, 41, 0, 0, 22675507, []), (4, 44, 3, 0, 0, []), (65, 45, 0, 0, 0, []), (6, 46, 0, 0, 0, []), (60, 47, 5, 4, 33030173, []), (90, 50, 81, 2, 2, [(35389495, 10)]), (92, 53, 82, 2, 3, [(35586109, 0)]), (10, 56, 3, 0, 1, []), (56, 59, 2, 0, 0, [])],
  [(6, 62, 0, 0, 0, []), (61, 63, 5, 6, 33357842, []), (100, 66, 0, 0, 0, [])]]
/-! 84: EngraversHouse.tellNote:(LEngraversHouse$Bar;I)I -/
set_option maxRecDepth 100000 in
noncomputable def zb84 : List (List zMI) := [
  [(6, 0, 0, 0, 0, []), (55, 1, 1, 0, 0, []), (1, 4, 0, 0, (-5), []), (95, 6, 0, 0, 0, [])],
  [(4, 7, 1, 0, 0, []), (1, 8, 0, 0, (-1), []), (47, 9, 2, 0, 0, []), (6, 12, 0, 0, 0, []), (60, 13, 0, 1, 23069159, []), (95, 16, 0, 0, 0, [])],
  [(6, 17, 0, 0, 0, []), (4, 18, 1, 0, 0, []), (92, 19, 47, 2, 2, [(24838303, 0)]), (40, 22, 3, 0, 0, []), (6, 25, 0, 0, 0, []), (61, 26, 0, 0, 22741482, []), (4, 29, 1, 0, 0, []), (65, 30, 0, 0, 0, []), (56, 31, 4, 0, 0, [])],
  [(1, 34, 0, 0, (-5), []), (57, 36, 4, 0, 0, [])],
  [(95, 36, 0, 0, 0, [])]]
/-! 85: EngraversHouse.heard:(III)I -/
set_option maxRecDepth 100000 in
noncomputable def zb85 : List (List zMI) := [
  [(6, 0, 0, 0, 0, []), (4, 1, 1, 0, 0, []), (92, 2, 79, 2, 4, [(34537665, 10)]), (9, 5, 4, 0, 0, []), (6, 7, 4, 0, 0, []), (55, 9, 1, 0, 0, []), (1, 12, 0, 0, (-5), []), (56, 14, 2, 0, 0, [])],
  [(6, 17, 4, 0, 0, []), (4, 19, 2, 0, 0, []), (92, 20, 83, 2, 4, [(34799813, 5)]), (4, 23, 3, 0, 0, []), (90, 24, 84, 2, 2, [(36045001, 10)]), (57, 27, 2, 0, 0, [])],
  [(95, 27, 0, 0, 0, [])]]
/-! 86: EngraversHouse$Part.barCount:()I -/
set_option maxRecDepth 100000 in
noncomputable def zb86 : List (List zMI) := [
  [(6, 0, 0, 0, 0, []), (61, 1, 5, 2, 32571414, []), (6, 4, 0, 0, 0, []), (60, 5, 5, 3, 32768026, []), (92, 8, 44, 2, 2, [(36765733, 8)]), (95, 11, 0, 0, 0, [])]]
/-! 87: EngraversHouse$Bar.copyShifted:(LEngraversHouse$Bar;I)V -/
set_option maxRecDepth 100000 in
noncomputable def zb87 : List (List zMI) := [
  [(6, 0, 0, 0, 0, []), (92, 1, 80, 1, 1, [(38010917, 0)]), (1, 4, 0, 0, 0, []), (7, 5, 3, 0, 0, []), (57, 6, 1, 0, 0, [])],
  [(4, 6, 3, 0, 0, []), (6, 7, 1, 0, 0, []), (60, 8, 0, 1, 22806543, []), (49, 11, 2, 0, 0, []), (6, 14, 0, 0, 0, []), (6, 15, 1, 0, 0, []), (61, 16, 0, 0, 22609929, []), (4, 19, 3, 0, 0, []), (65, 20, 0, 0, 0, []), (4, 21, 2, 0, 0, []), (90, 22, 81, 2, 2, [(38076456, 10)]), (92, 25, 42, 2, 2, [(35979297, 0)]), (10, 28, 3, 0, 1, []), (56, 31, 1, 0, 0, [])],
  [(101, 34, 0, 0, 0, [])]]
/-! 88: EngraversHouse$Plate.<init>:(ILEngraversHouse$Part;II)V -/
set_option maxRecDepth 100000 in
noncomputable def zb88 : List (List zMI) := [
  [(6, 0, 0, 0, 0, []), (1, 1, 0, 0, 3, []), (4, 2, 1, 0, 0, []), (91, 3, 26, 3, 3, [(37093379, 20)]), (6, 6, 0, 0, 0, []), (1, 7, 0, 0, 4, []), (74, 8, 30, 0, 0, []), (64, 10, 6, 5, 38797321, []), (6, 13, 0, 0, 0, []), (6, 14, 2, 0, 0, []), (64, 15, 6, 2, 38207503, []), (6, 18, 0, 0, 0, []), (4, 19, 3, 0, 0, []), (62, 20, 6, 3, 38404115, []), (6, 23, 0, 0, 0, []), (1, 24, 0, 0, 0, []), (4, 25, 4, 0, 0, []), (4, 27, 3, 0, 0, []), (12, 28, 0, 0, 0, []), (1, 29, 0, 0, 1, []), (11, 30, 0, 0, 0, []), (1, 31, 0, 0, 8, []), (37, 33, 0, 0, 37158935, []), (36, 36, 0, 0, 37355549, []), (75, 39, 36, 0, 37552160, []), (64, 42, 6, 4, 38600738, []), (1, 45, 0, 0, 0, []), (7, 46, 5, 0, 0, []), (57, 48, 1, 0, 0, [])],
  [(4, 48, 5, 0, 0, []), (6, 50, 0, 0, 0, []), (61, 51, 6, 4, 38600738, []), (72, 54, 0, 0, 0, []), (49, 55, 3, 0, 0, []), (6, 58, 0, 0, 0, []), (61, 59, 6, 4, 38600738, []), (4, 62, 5, 0, 0, []), (73, 64, 0, 3, 37552160, []), (33, 67, 0, 0, 0, []), (91, 68, 41, 1, 1, [(37617702, 0)]), (71, 71, 0, 0, 0, []), (6, 72, 2, 0, 0, []), (4, 73, 3, 0, 0, []), (4, 74, 5, 0, 0, []), (11, 76, 0, 0, 0, []), (92, 77, 83, 2, 4, [(37683241, 5)]), (9, 80, 6, 0, 0, []), (6, 82, 6, 0, 0, []), (54, 84, 2, 0, 0, []), (6, 87, 0, 0, 0, []), (61, 88, 6, 4, 38600738, []), (4, 91, 5, 0, 0, []), (67, 93, 0, 0, 0, []), (6, 94, 6, 0, 0, []), (1, 96, 0, 0, 0, []), (92, 97, 87, 3, 4, [(37748783, 0)]), (57, 100, 2, 0, 0, [])],
  [(10, 100, 5, 0, 1, []), (56, 103, 1, 0, 0, [])],
  [(6, 106, 0, 0, 0, []), (61, 107, 6, 5, 38797321, []), (1, 110, 0, 0, (-1), []), (90, 111, 2, 2, 4, [(38142003, 99)]), (101, 114, 0, 0, 0, [])]]
/-! 89: EngraversHouse.plate:(III)I -/
set_option maxRecDepth 100000 in
noncomputable def zb89 : List (List zMI) := [
  [(6, 0, 0, 0, 0, []), (4, 1, 1, 0, 0, []), (92, 2, 79, 2, 4, [(34537665, 10)]), (9, 5, 4, 0, 0, []), (6, 7, 4, 0, 0, []), (55, 9, 1, 0, 0, []), (6, 12, 0, 0, 0, []), (4, 13, 1, 0, 0, []), (92, 14, 34, 2, 2, [(20316294, 10)]), (95, 17, 0, 0, 0, [])],
  [(4, 18, 2, 0, 0, []), (42, 19, 2, 0, 0, []), (4, 22, 3, 0, 0, []), (4, 23, 2, 0, 0, []), (48, 24, 2, 0, 0, []), (4, 27, 3, 0, 0, []), (6, 28, 4, 0, 0, []), (92, 30, 86, 1, 1, [(36503757, 5)]), (49, 33, 2, 0, 0, []), (4, 36, 3, 0, 0, []), (4, 37, 2, 0, 0, []), (12, 38, 0, 0, 0, []), (1, 39, 0, 0, 8, []), (48, 41, 3, 0, 0, []), (57, 44, 2, 0, 0, [])],
  [(1, 44, 0, 0, (-2), []), (95, 46, 0, 0, 0, [])],
  [(6, 47, 0, 0, 0, []), (60, 48, 10, 4, 9830428, []), (1, 51, 0, 0, 60, []), (48, 53, 4, 0, 0, []), (1, 56, 0, 0, (-4), []), (95, 58, 0, 0, 0, [])],
  [(6, 59, 0, 0, 0, []), (73, 60, 6, 6, 2162722, []), (33, 63, 0, 0, 0, []), (6, 64, 0, 0, 0, []), (60, 65, 10, 4, 9830428, []), (6, 68, 4, 0, 0, []), (4, 70, 2, 0, 0, []), (4, 71, 3, 0, 0, []), (91, 72, 88, 5, 7, [(36896976, 6)]), (92, 75, 28, 2, 2, [(18743414, 10)]), (95, 78, 0, 0, 0, [])]]
/-! 90: EngraversHouse.plateAt:(I)LEngraversHouse$Plate; -/
set_option maxRecDepth 100000 in
noncomputable def zb90 : List (List zMI) := [
  [(6, 0, 0, 0, 0, []), (4, 1, 1, 0, 0, []), (92, 2, 30, 2, 2, [(19267706, 10)]), (9, 5, 3, 0, 0, []), (6, 6, 3, 0, 0, []), (77, 7, 6, 0, 2162722, []), (40, 10, 1, 0, 0, []), (6, 13, 3, 0, 0, []), (78, 14, 6, 0, 2162722, []), (9, 17, 2, 0, 0, []), (6, 18, 2, 0, 0, []), (56, 19, 2, 0, 0, [])],
  [(3, 22, 0, 0, 0, []), (57, 23, 2, 0, 0, [])],
  [(100, 23, 0, 0, 0, [])]]
/-! 91: EngraversHouse$Plate.cutBar:(I)LEngraversHouse$Bar; -/
set_option maxRecDepth 100000 in
noncomputable def zb91 : List (List zMI) := [
  [(4, 0, 1, 0, 0, []), (6, 1, 0, 0, 0, []), (60, 2, 6, 3, 38404115, []), (48, 5, 1, 0, 0, []), (4, 8, 1, 0, 0, []), (6, 9, 0, 0, 0, []), (60, 10, 6, 3, 38404115, []), (12, 13, 0, 0, 0, []), (6, 14, 0, 0, 0, []), (61, 15, 6, 4, 38600738, []), (72, 18, 0, 0, 0, []), (49, 19, 1, 0, 0, []), (6, 22, 0, 0, 0, []), (61, 23, 6, 4, 38600738, []), (4, 26, 1, 0, 0, []), (6, 27, 0, 0, 0, []), (60, 28, 6, 3, 38404115, []), (12, 31, 0, 0, 0, []), (67, 32, 0, 0, 0, []), (56, 33, 2, 0, 0, [])],
  [(3, 36, 0, 0, 0, []), (57, 37, 2, 0, 0, [])],
  [(100, 37, 0, 0, 0, [])]]
/-! 92: EngraversHouse.mend:(IIII)I -/
set_option maxRecDepth 100000 in
noncomputable def zb92 : List (List zMI) := [
  [(6, 0, 0, 0, 0, []), (4, 1, 1, 0, 0, []), (92, 2, 90, 2, 4, [(39911635, 10)]), (9, 5, 5, 0, 0, []), (6, 7, 5, 0, 0, []), (55, 9, 1, 0, 0, []), (6, 12, 0, 0, 0, []), (4, 13, 1, 0, 0, []), (92, 14, 34, 2, 2, [(20316294, 10)]), (95, 17, 0, 0, 0, [])],
  [(6, 18, 5, 0, 0, []), (4, 20, 2, 0, 0, []), (92, 21, 91, 2, 2, [(40173783, 6)]), (9, 24, 6, 0, 0, []), (6, 26, 6, 0, 0, []), (54, 28, 2, 0, 0, []), (6, 31, 6, 0, 0, []), (4, 33, 3, 0, 0, []), (92, 34, 47, 2, 2, [(24838303, 0)]), (41, 37, 3, 0, 0, []), (57, 40, 2, 0, 0, [])],
  [(1, 40, 0, 0, (-1), []), (95, 41, 0, 0, 0, [])],
  [(6, 42, 6, 0, 0, []), (4, 44, 3, 0, 0, []), (4, 45, 4, 0, 0, []), (1, 47, 0, 0, 72, []), (90, 49, 51, 4, 5, [(25100452, 10)]), (95, 52, 0, 0, 0, [])]]
/-! 93: EngraversHouse$Bar.sameNotes:(LEngraversHouse$Bar;)Z -/
set_option maxRecDepth 100000 in
noncomputable def zb93 : List (List zMI) := [
  [(6, 0, 0, 0, 0, []), (60, 1, 0, 1, 22806543, []), (6, 4, 1, 0, 0, []), (60, 5, 0, 1, 22806543, []), (47, 8, 1, 0, 0, []), (1, 11, 0, 0, 1, []), (56, 12, 2, 0, 0, [])],
  [(1, 15, 0, 0, 0, []), (57, 16, 2, 0, 0, [])],
  [(7, 16, 2, 0, 0, []), (1, 17, 0, 0, 0, []), (7, 18, 3, 0, 0, []), (57, 19, 3, 0, 0, [])],
  [(4, 19, 3, 0, 0, []), (6, 20, 0, 0, 0, []), (60, 21, 0, 1, 22806543, []), (49, 24, 6, 0, 0, []), (4, 27, 2, 0, 0, []), (40, 28, 6, 0, 0, []), (6, 31, 0, 0, 0, []), (61, 32, 0, 0, 22609929, []), (4, 35, 3, 0, 0, []), (65, 36, 0, 0, 0, []), (6, 37, 1, 0, 0, []), (61, 38, 0, 0, 22609929, []), (4, 41, 3, 0, 0, []), (65, 42, 0, 0, 0, []), (47, 43, 4, 0, 0, []), (1, 46, 0, 0, 1, []), (56, 47, 5, 0, 0, [])],
  [(1, 50, 0, 0, 0, []), (57, 51, 5, 0, 0, [])],
  [(7, 51, 2, 0, 0, []), (10, 52, 3, 0, 1, []), (56, 55, 3, 0, 0, [])],
  [(4, 58, 2, 0, 0, []), (96, 59, 0, 0, 0, [])]]
/-! 94: EngraversHouse$Plate.unlikeBars:()I -/
set_option maxRecDepth 100000 in
noncomputable def zb94 : List (List zMI) := [
  [(1, 0, 0, 0, 0, []), (7, 1, 1, 0, 0, []), (1, 2, 0, 0, 0, []), (7, 3, 2, 0, 0, []), (57, 4, 1, 0, 0, [])],
  [(4, 4, 2, 0, 0, []), (6, 5, 0, 0, 0, []), (61, 6, 6, 4, 38600738, []), (72, 9, 0, 0, 0, []), (49, 10, 4, 0, 0, []), (6, 13, 0, 0, 0, []), (61, 14, 6, 2, 38207503, []), (6, 17, 0, 0, 0, []), (60, 18, 6, 3, 38404115, []), (4, 21, 2, 0, 0, []), (11, 22, 0, 0, 0, []), (92, 23, 83, 2, 4, [(37683241, 5)]), (9, 26, 3, 0, 0, []), (6, 27, 3, 0, 0, []), (54, 28, 2, 0, 0, []), (6, 31, 0, 0, 0, []), (61, 32, 6, 4, 38600738, []), (4, 35, 2, 0, 0, []), (67, 36, 0, 0, 0, []), (54, 37, 2, 0, 0, []), (6, 40, 3, 0, 0, []), (6, 41, 0, 0, 0, []), (61, 42, 6, 4, 38600738, []), (4, 45, 2, 0, 0, []), (67, 46, 0, 0, 0, []), (92, 47, 93, 2, 4, [(40960069, 0)]), (41, 50, 3, 0, 0, []), (57, 53, 2, 0, 0, [])],
  [(4, 53, 1, 0, 0, []), (1, 54, 0, 0, 1, []), (4, 55, 2, 0, 0, []), (17, 56, 0, 0, 0, []), (21, 57, 0, 0, 0, []), (7, 58, 1, 0, 0, []), (57, 59, 3, 0, 0, [])],
  [(10, 59, 2, 0, 1, []), (56, 62, 1, 0, 0, [])],
  [(4, 65, 1, 0, 0, []), (95, 66, 0, 0, 0, [])]]
/-! 95: EngraversHouse.differs:(II)I -/
set_option maxRecDepth 100000 in
noncomputable def zb95 : List (List zMI) := [
  [(6, 0, 0, 0, 0, []), (4, 1, 1, 0, 0, []), (92, 2, 30, 2, 2, [(19267706, 10)]), (54, 5, 1, 0, 0, []), (4, 8, 2, 0, 0, []), (1, 9, 0, 0, 0, []), (1, 10, 0, 0, 1, []), (90, 11, 20, 3, 3, [(13828198, 10)]), (41, 14, 2, 0, 0, []), (57, 17, 1, 0, 0, [])],
  [(1, 17, 0, 0, (-1), []), (95, 18, 0, 0, 0, [])],
  [(6, 19, 0, 0, 0, []), (4, 20, 1, 0, 0, []), (92, 21, 90, 2, 4, [(39911635, 10)]), (9, 24, 3, 0, 0, []), (6, 25, 3, 0, 0, []), (55, 26, 3, 0, 0, []), (1, 29, 0, 0, (-12), []), (95, 31, 0, 0, 0, [])],
  [(6, 32, 3, 0, 0, []), (92, 33, 94, 1, 4, [(40698074, 6)]), (7, 36, 4, 0, 0, []), (4, 38, 2, 0, 0, []), (41, 39, 4, 0, 0, []), (4, 42, 4, 0, 0, []), (90, 44, 0, 1, 1, [(41222365, 99)]), (95, 47, 0, 0, 0, [])],
  [(4, 48, 4, 0, 0, []), (41, 50, 5, 0, 0, []), (1, 53, 0, 0, (-1), []), (56, 54, 6, 0, 0, [])],
  [(6, 57, 3, 0, 0, []), (60, 58, 6, 3, 38535394, []), (4, 61, 4, 0, 0, []), (90, 63, 1, 1, 2, [(41615589, 99)]), (11, 66, 0, 0, 0, []), (57, 67, 6, 0, 0, [])],
  [(95, 67, 0, 0, 0, [])]]
/-! 96: EngraversHouse.press:(I)I -/
set_option maxRecDepth 100000 in
noncomputable def zb96 : List (List zMI) := [
  [(6, 0, 0, 0, 0, []), (4, 1, 1, 0, 0, []), (92, 2, 90, 2, 4, [(39911635, 10)]), (9, 5, 2, 0, 0, []), (6, 6, 2, 0, 0, []), (55, 7, 1, 0, 0, []), (6, 10, 0, 0, 0, []), (4, 11, 1, 0, 0, []), (92, 12, 34, 2, 2, [(20316294, 10)]), (95, 15, 0, 0, 0, [])],
  [(6, 16, 0, 0, 0, []), (60, 17, 10, 7, 10027048, []), (45, 20, 2, 0, 0, []), (6, 23, 0, 0, 0, []), (61, 24, 10, 6, 9961508, []), (1, 27, 0, 0, 0, []), (67, 28, 0, 0, 0, []), (54, 29, 2, 0, 0, []), (6, 32, 0, 0, 0, []), (61, 33, 10, 6, 9961508, []), (1, 36, 0, 0, 0, []), (67, 37, 0, 0, 0, []), (61, 38, 6, 2, 38338792, []), (61, 41, 5, 2, 32702700, []), (6, 44, 2, 0, 0, []), (61, 45, 6, 2, 38338792, []), (61, 48, 5, 2, 32702700, []), (52, 51, 2, 0, 0, []), (1, 54, 0, 0, (-3), []), (95, 56, 0, 0, 0, [])],
  [(6, 57, 0, 0, 0, []), (60, 58, 10, 7, 10027048, []), (1, 61, 0, 0, 12, []), (48, 63, 3, 0, 0, []), (1, 66, 0, 0, (-4), []), (95, 68, 0, 0, 0, [])],
  [(6, 69, 0, 0, 0, []), (61, 70, 10, 6, 9961508, []), (6, 73, 0, 0, 0, []), (60, 74, 10, 7, 10027048, []), (6, 77, 2, 0, 0, []), (71, 78, 0, 0, 0, []), (6, 79, 0, 0, 0, []), (33, 80, 0, 0, 0, []), (60, 81, 10, 7, 10027048, []), (1, 84, 0, 0, 1, []), (11, 85, 0, 0, 0, []), (62, 86, 10, 7, 10027048, []), (6, 89, 0, 0, 0, []), (60, 90, 10, 7, 10027048, []), (95, 93, 0, 0, 0, [])]]
/-! 97: EngraversHouse$Edition.<init>:(ILEngraversHouse$Score;I)V -/
set_option maxRecDepth 100000 in
noncomputable def zb97 : List (List zMI) := [
  [(6, 0, 0, 0, 0, []), (1, 1, 0, 0, 4, []), (4, 2, 1, 0, 0, []), (91, 3, 26, 3, 3, [(42729475, 20)]), (6, 6, 0, 0, 0, []), (1, 7, 0, 0, 0, []), (62, 8, 2, 4, 43253769, []), (6, 11, 0, 0, 0, []), (1, 12, 0, 0, 80, []), (75, 14, 36, 0, 42795023, []), (64, 17, 2, 5, 43384849, []), (6, 20, 0, 0, 0, []), (1, 21, 0, 0, 21, []), (74, 23, 30, 0, 0, []), (64, 25, 2, 7, 43515925, []), (6, 28, 0, 0, 0, []), (1, 29, 0, 0, 21, []), (74, 31, 30, 0, 0, []), (64, 33, 2, 8, 43581465, []), (6, 36, 0, 0, 0, []), (1, 37, 0, 0, 0, []), (63, 38, 2, 9, 43647004, []), (6, 41, 0, 0, 0, []), (1, 42, 0, 0, (-1), []), (62, 43, 2, 10, 43778080, []), (6, 46, 0, 0, 0, []), (1, 47, 0, 0, 0, []), (62, 48, 2, 11, 43909155, []), (6, 51, 0, 0, 0, []), (6, 52, 2, 0, 0, []), (64, 53, 2, 2, 42991654, []), (6, 56, 0, 0, 0, []), (4, 57, 3, 0, 0, []), (62, 58, 2, 3, 43188266, []), (6, 61, 0, 0, 0, []), (1, 62, 0, 0, 0, []), (4, 63, 1, 0, 0, []), (36, 64, 0, 0, 42860589, []), (74, 67, 30, 0, 0, []), (64, 69, 2, 6, 43450419, []), (6, 72, 0, 0, 0, []), (61, 73, 2, 6, 43450419, []), (1, 76, 0, 0, (-1), []), (90, 77, 2, 2, 4, [(42926134, 99)]), (101, 80, 0, 0, 0, [])]]
/-! 98: EngraversHouse$Edition.takePlate:(LEngraversHouse$Plate;)V -/
set_option maxRecDepth 100000 in
noncomputable def zb98 : List (List zMI) := [
  [(6, 0, 1, 0, 0, []), (54, 1, 1, 0, 0, []), (6, 4, 1, 0, 0, []), (61, 5, 6, 2, 38273093, []), (60, 8, 5, 3, 32899147, []), (1, 11, 0, 0, 0, []), (1, 12, 0, 0, 3, []), (90, 13, 20, 3, 3, [(45809729, 10)]), (41, 16, 2, 0, 0, []), (57, 19, 1, 0, 0, [])],
  [(101, 19, 0, 0, 0, [])],
  [(1, 20, 0, 0, 0, []), (7, 21, 2, 0, 0, []), (57, 22, 3, 0, 0, [])],
  [(4, 22, 2, 0, 0, []), (6, 23, 1, 0, 0, []), (61, 24, 6, 4, 38666320, []), (72, 27, 0, 0, 0, []), (49, 28, 6, 0, 0, []), (6, 31, 1, 0, 0, []), (61, 32, 6, 2, 38273093, []), (60, 35, 5, 3, 32899147, []), (1, 38, 0, 0, 20, []), (13, 40, 0, 0, 0, []), (6, 41, 1, 0, 0, []), (60, 42, 6, 3, 38469713, []), (11, 45, 0, 0, 0, []), (4, 46, 2, 0, 0, []), (11, 47, 0, 0, 0, []), (7, 48, 3, 0, 0, []), (6, 49, 1, 0, 0, []), (61, 50, 6, 4, 38666320, []), (4, 53, 2, 0, 0, []), (67, 54, 0, 0, 0, []), (54, 55, 5, 0, 0, []), (1, 58, 0, 0, 0, []), (4, 59, 3, 0, 0, []), (50, 60, 5, 0, 0, []), (4, 63, 3, 0, 0, []), (6, 64, 0, 0, 0, []), (61, 65, 2, 5, 43384849, []), (72, 68, 0, 0, 0, []), (49, 69, 5, 0, 0, []), (6, 72, 0, 0, 0, []), (61, 73, 2, 5, 43384849, []), (4, 76, 3, 0, 0, []), (67, 77, 0, 0, 0, []), (55, 78, 4, 0, 0, []), (6, 81, 0, 0, 0, []), (61, 82, 2, 5, 43384849, []), (4, 85, 3, 0, 0, []), (73, 86, 0, 3, 42795023, []), (33, 89, 0, 0, 0, []), (91, 90, 41, 1, 1, [(45875284, 0)]), (71, 93, 0, 0, 0, []), (57, 94, 4, 0, 0, [])],
  [(6, 94, 0, 0, 0, []), (61, 95, 2, 5, 43384849, []), (4, 98, 3, 0, 0, []), (67, 99, 0, 0, 0, []), (6, 100, 1, 0, 0, []), (61, 101, 6, 4, 38666320, []), (4, 104, 2, 0, 0, []), (67, 105, 0, 0, 0, []), (6, 106, 1, 0, 0, []), (61, 107, 6, 2, 38273093, []), (60, 110, 5, 4, 33095767, []), (16, 113, 0, 0, 0, []), (92, 114, 87, 3, 4, [(45940826, 0)]), (57, 117, 5, 0, 0, [])],
  [(10, 117, 2, 0, 1, []), (56, 120, 3, 0, 0, [])],
  [(101, 123, 0, 0, 0, [])]]
/-! 99: EngraversHouse.edition:()I -/
set_option maxRecDepth 100000 in
noncomputable def zb99 : List (List zMI) := [
  [(6, 0, 0, 0, 0, []), (60, 1, 10, 7, 10027048, []), (40, 4, 1, 0, 0, []), (6, 7, 0, 0, 0, []), (61, 8, 10, 6, 9961508, []), (1, 11, 0, 0, 0, []), (67, 12, 0, 0, 0, []), (55, 13, 2, 0, 0, []), (57, 16, 1, 0, 0, [])],
  [(1, 16, 0, 0, (-3), []), (95, 18, 0, 0, 0, [])],
  [(6, 19, 0, 0, 0, []), (60, 20, 10, 4, 9830428, []), (1, 23, 0, 0, 60, []), (48, 25, 3, 0, 0, []), (1, 28, 0, 0, (-4), []), (95, 30, 0, 0, 0, [])],
  [(73, 31, 2, 12, 42402032, []), (33, 34, 0, 0, 0, []), (6, 35, 0, 0, 0, []), (60, 36, 10, 4, 9830428, []), (6, 39, 0, 0, 0, []), (61, 40, 10, 6, 9961508, []), (1, 43, 0, 0, 0, []), (67, 44, 0, 0, 0, []), (61, 45, 6, 2, 38338792, []), (61, 48, 5, 2, 32702700, []), (6, 51, 0, 0, 0, []), (60, 52, 10, 7, 10027048, []), (91, 55, 97, 4, 4, [(42533106, 2)]), (9, 58, 1, 0, 0, []), (1, 59, 0, 0, 0, []), (7, 60, 2, 0, 0, []), (57, 61, 4, 0, 0, [])],
  [(4, 61, 2, 0, 0, []), (6, 62, 0, 0, 0, []), (60, 63, 10, 7, 10027048, []), (49, 66, 5, 0, 0, []), (6, 69, 1, 0, 0, []), (6, 70, 0, 0, 0, []), (61, 71, 10, 6, 9961508, []), (4, 74, 2, 0, 0, []), (67, 75, 0, 0, 0, []), (92, 76, 98, 2, 4, [(45547765, 2)]), (10, 79, 2, 0, 1, []), (56, 82, 4, 0, 0, [])],
  [(6, 85, 0, 0, 0, []), (1, 86, 0, 0, 0, []), (62, 87, 10, 7, 10027048, []), (6, 90, 0, 0, 0, []), (6, 91, 1, 0, 0, []), (92, 92, 28, 2, 2, [(18743414, 10)]), (95, 95, 0, 0, 0, [])]]
/-! 100: EngraversHouse.editionAt:(I)LEngraversHouse$Edition; -/
set_option maxRecDepth 100000 in
noncomputable def zb100 : List (List zMI) := [
  [(6, 0, 0, 0, 0, []), (4, 1, 1, 0, 0, []), (92, 2, 30, 2, 2, [(19267706, 10)]), (9, 5, 3, 0, 0, []), (6, 6, 3, 0, 0, []), (77, 7, 2, 0, 42402032, []), (40, 10, 1, 0, 0, []), (6, 13, 3, 0, 0, []), (78, 14, 2, 0, 42402032, []), (9, 17, 2, 0, 0, []), (6, 18, 2, 0, 0, []), (56, 19, 2, 0, 0, [])],
  [(3, 22, 0, 0, 0, []), (57, 23, 2, 0, 0, [])],
  [(100, 23, 0, 0, 0, [])]]
/-! 101: EngraversHouse$Edition.barOf:(II)LEngraversHouse$Bar; -/
set_option maxRecDepth 100000 in
noncomputable def zb101 : List (List zMI) := [
  [(4, 0, 1, 0, 0, []), (1, 1, 0, 0, 0, []), (1, 2, 0, 0, 3, []), (90, 3, 20, 3, 3, [(45809729, 10)]), (40, 6, 1, 0, 0, []), (4, 9, 2, 0, 0, []), (1, 10, 0, 0, 0, []), (1, 11, 0, 0, 19, []), (90, 13, 20, 3, 3, [(45809729, 10)]), (40, 16, 1, 0, 0, []), (6, 19, 0, 0, 0, []), (61, 20, 2, 5, 43384849, []), (4, 23, 1, 0, 0, []), (1, 24, 0, 0, 20, []), (13, 26, 0, 0, 0, []), (4, 27, 2, 0, 0, []), (11, 28, 0, 0, 0, []), (67, 29, 0, 0, 0, []), (56, 30, 2, 0, 0, [])],
  [(3, 33, 0, 0, 0, []), (57, 34, 2, 0, 0, [])],
  [(100, 34, 0, 0, 0, [])]]
/-! 102: EngraversHouse.placeInEdition:(III)I -/
set_option maxRecDepth 100000 in
noncomputable def zb102 : List (List zMI) := [
  [(4, 0, 0, 0, 0, []), (1, 1, 0, 0, 20, []), (13, 3, 0, 0, 0, []), (4, 4, 1, 0, 0, []), (11, 5, 0, 0, 0, []), (1, 6, 0, 0, 8, []), (13, 8, 0, 0, 0, []), (4, 9, 2, 0, 0, []), (11, 10, 0, 0, 0, []), (95, 11, 0, 0, 0, [])]]
/-! 103: EngraversHouse.erratumAt:(I)LEngraversHouse$Erratum; -/
set_option maxRecDepth 100000 in
noncomputable def zb103 : List (List zMI) := [
  [(6, 0, 0, 0, 0, []), (4, 1, 1, 0, 0, []), (92, 2, 30, 2, 2, [(19267706, 10)]), (9, 5, 3, 0, 0, []), (6, 6, 3, 0, 0, []), (77, 7, 3, 0, 47513860, []), (40, 10, 1, 0, 0, []), (6, 13, 3, 0, 0, []), (78, 14, 3, 0, 47513860, []), (9, 17, 2, 0, 0, []), (6, 18, 2, 0, 0, []), (56, 19, 2, 0, 0, [])],
  [(3, 22, 0, 0, 0, []), (57, 23, 2, 0, 0, [])],
  [(100, 23, 0, 0, 0, [])]]
/-! 104: EngraversHouse.amendedNote:(LEngraversHouse$Edition;IIII)I -/
set_option maxRecDepth 100000 in
noncomputable def zb104 : List (List zMI) := [
  [(6, 0, 1, 0, 0, []), (4, 1, 2, 0, 0, []), (4, 2, 3, 0, 0, []), (92, 3, 101, 3, 3, [(46530813, 2)]), (4, 6, 4, 0, 0, []), (90, 8, 84, 2, 2, [(36045001, 10)]), (7, 11, 6, 0, 0, []), (4, 13, 6, 0, 0, []), (1, 15, 0, 0, (-5), []), (46, 17, 1, 0, 0, []), (4, 20, 6, 0, 0, []), (90, 22, 48, 1, 1, [(25297187, 10)]), (40, 25, 2, 0, 0, []), (57, 28, 1, 0, 0, [])],
  [(4, 28, 6, 0, 0, []), (95, 30, 0, 0, 0, [])],
  [(4, 31, 2, 0, 0, []), (4, 32, 3, 0, 0, []), (4, 33, 4, 0, 0, []), (90, 35, 102, 3, 3, [(47055110, 10)]), (7, 38, 7, 0, 0, []), (1, 40, 0, 0, 0, []), (7, 41, 8, 0, 0, []), (57, 43, 3, 0, 0, [])],
  [(4, 43, 8, 0, 0, []), (4, 45, 5, 0, 0, []), (49, 47, 5, 0, 0, []), (4, 50, 8, 0, 0, []), (6, 52, 0, 0, 0, []), (60, 53, 10, 4, 9830428, []), (49, 56, 5, 0, 0, []), (6, 59, 0, 0, 0, []), (4, 60, 8, 0, 0, []), (92, 62, 103, 2, 4, [(47251727, 10)]), (9, 65, 9, 0, 0, []), (6, 67, 9, 0, 0, []), (54, 69, 4, 0, 0, []), (6, 72, 9, 0, 0, []), (61, 74, 3, 2, 48234771, []), (6, 77, 1, 0, 0, []), (53, 78, 4, 0, 0, []), (6, 81, 9, 0, 0, []), (60, 83, 3, 3, 48366066, []), (4, 86, 7, 0, 0, []), (47, 88, 4, 0, 0, []), (4, 91, 6, 0, 0, []), (90, 93, 49, 1, 1, [(25493798, 10)]), (6, 96, 9, 0, 0, []), (60, 98, 3, 4, 48496937, []), (47, 101, 4, 0, 0, []), (4, 104, 6, 0, 0, []), (6, 106, 9, 0, 0, []), (60, 108, 3, 5, 48628211, []), (90, 111, 50, 2, 2, [(25690605, 10)]), (7, 114, 6, 0, 0, []), (57, 116, 4, 0, 0, [])],
  [(10, 116, 8, 0, 1, []), (56, 119, 3, 0, 0, [])],
  [(4, 122, 6, 0, 0, []), (95, 124, 0, 0, 0, [])]]
/-! 105: EngraversHouse.printed:(IIIII)I -/
set_option maxRecDepth 100000 in
noncomputable def zb105 : List (List zMI) := [
  [(6, 0, 0, 0, 0, []), (4, 1, 1, 0, 0, []), (92, 2, 100, 2, 4, [(46268665, 10)]), (9, 5, 6, 0, 0, []), (6, 7, 6, 0, 0, []), (54, 9, 1, 0, 0, []), (4, 12, 5, 0, 0, []), (1, 14, 0, 0, 0, []), (1, 15, 0, 0, 1, []), (90, 16, 20, 3, 3, [(13828198, 10)]), (41, 19, 2, 0, 0, []), (57, 22, 1, 0, 0, [])],
  [(1, 22, 0, 0, (-5), []), (95, 24, 0, 0, 0, [])],
  [(6, 25, 6, 0, 0, []), (4, 27, 2, 0, 0, []), (4, 28, 3, 0, 0, []), (92, 29, 101, 3, 3, [(46530813, 2)]), (9, 32, 7, 0, 0, []), (6, 34, 7, 0, 0, []), (4, 36, 4, 0, 0, []), (90, 38, 84, 2, 2, [(36045001, 10)]), (7, 41, 8, 0, 0, []), (4, 43, 8, 0, 0, []), (1, 45, 0, 0, (-5), []), (46, 47, 3, 0, 0, []), (4, 50, 4, 0, 0, []), (1, 52, 0, 0, (-1), []), (46, 53, 3, 0, 0, []), (4, 56, 5, 0, 0, []), (41, 58, 4, 0, 0, []), (57, 61, 3, 0, 0, [])],
  [(4, 61, 8, 0, 0, []), (95, 63, 0, 0, 0, [])],
  [(6, 64, 0, 0, 0, []), (6, 65, 6, 0, 0, []), (4, 67, 2, 0, 0, []), (4, 68, 3, 0, 0, []), (4, 69, 4, 0, 0, []), (6, 71, 0, 0, 0, []), (60, 72, 10, 4, 9830428, []), (92, 75, 104, 6, 10, [(46792960, 10)]), (95, 78, 0, 0, 0, [])]]
/-! 106: EngraversHouse$Erratum.<init>:(ILEngraversHouse$Edition;III)V -/
set_option maxRecDepth 100000 in
noncomputable def zb106 : List (List zMI) := [
  [(6, 0, 0, 0, 0, []), (1, 1, 0, 0, 7, []), (4, 3, 1, 0, 0, []), (91, 4, 26, 3, 3, [(48103427, 20)]), (6, 7, 0, 0, 0, []), (6, 8, 2, 0, 0, []), (64, 9, 3, 2, 48168969, []), (6, 12, 0, 0, 0, []), (4, 13, 3, 0, 0, []), (62, 14, 3, 3, 48300047, []), (6, 17, 0, 0, 0, []), (4, 18, 4, 0, 0, []), (62, 20, 3, 4, 48431123, []), (6, 23, 0, 0, 0, []), (4, 24, 5, 0, 0, []), (62, 26, 3, 5, 48562198, []), (101, 29, 0, 0, 0, [])]]
/-! 107: EngraversHouse.erratum:(IIIIII)I -/
set_option maxRecDepth 100000 in
noncomputable def zb107 : List (List zMI) := [
  [(6, 0, 0, 0, 0, []), (4, 1, 1, 0, 0, []), (92, 2, 30, 2, 2, [(19267706, 10)]), (54, 5, 1, 0, 0, []), (4, 8, 2, 0, 0, []), (1, 9, 0, 0, 0, []), (1, 10, 0, 0, 3, []), (90, 11, 20, 3, 3, [(13828198, 10)]), (41, 14, 2, 0, 0, []), (57, 17, 1, 0, 0, [])],
  [(1, 17, 0, 0, (-1), []), (95, 18, 0, 0, 0, [])],
  [(6, 19, 0, 0, 0, []), (4, 20, 1, 0, 0, []), (92, 21, 100, 2, 4, [(46268665, 10)]), (9, 24, 7, 0, 0, []), (6, 26, 7, 0, 0, []), (55, 28, 3, 0, 0, []), (1, 31, 0, 0, (-12), []), (95, 33, 0, 0, 0, [])],
  [(4, 34, 3, 0, 0, []), (1, 35, 0, 0, 0, []), (1, 36, 0, 0, 19, []), (90, 38, 20, 3, 3, [(13828198, 10)]), (40, 41, 4, 0, 0, []), (4, 44, 4, 0, 0, []), (1, 46, 0, 0, 0, []), (1, 47, 0, 0, 7, []), (90, 49, 20, 3, 3, [(13828198, 10)]), (40, 52, 4, 0, 0, []), (4, 55, 5, 0, 0, []), (1, 57, 0, 0, 1, []), (1, 58, 0, 0, 60, []), (90, 60, 20, 3, 3, [(13828198, 10)]), (40, 63, 4, 0, 0, []), (4, 66, 6, 0, 0, []), (1, 68, 0, 0, 1, []), (1, 69, 0, 0, 60, []), (90, 71, 20, 3, 3, [(13828198, 10)]), (41, 74, 5, 0, 0, []), (57, 77, 4, 0, 0, [])],
  [(1, 77, 0, 0, (-2), []), (95, 79, 0, 0, 0, [])],
  [(6, 80, 0, 0, 0, []), (60, 81, 10, 4, 9830428, []), (1, 84, 0, 0, 60, []), (48, 86, 6, 0, 0, []), (1, 89, 0, 0, (-4), []), (95, 91, 0, 0, 0, [])],
  [(73, 92, 3, 6, 47513860, []), (33, 95, 0, 0, 0, []), (6, 96, 0, 0, 0, []), (60, 97, 10, 4, 9830428, []), (6, 100, 7, 0, 0, []), (4, 102, 2, 0, 0, []), (4, 103, 3, 0, 0, []), (4, 104, 4, 0, 0, []), (90, 106, 102, 3, 3, [(47055110, 10)]), (4, 109, 5, 0, 0, []), (4, 111, 6, 0, 0, []), (91, 113, 106, 6, 6, [(47907081, 3)]), (9, 116, 8, 0, 0, []), (6, 118, 7, 0, 0, []), (33, 120, 0, 0, 0, []), (60, 121, 2, 4, 43319564, []), (1, 124, 0, 0, 1, []), (11, 125, 0, 0, 0, []), (62, 126, 2, 4, 43319564, []), (6, 129, 0, 0, 0, []), (6, 130, 8, 0, 0, []), (92, 132, 28, 2, 2, [(18743414, 10)]), (95, 135, 0, 0, 0, [])]]
/-! 108: EngraversHouse$Erratum.noteIndex:()I -/
set_option maxRecDepth 100000 in
noncomputable def zb108 : List (List zMI) := [
  [(6, 0, 0, 0, 0, []), (60, 1, 3, 3, 48300047, []), (1, 4, 0, 0, 8, []), (15, 6, 0, 0, 0, []), (95, 7, 0, 0, 0, [])]]
/-! 109: EngraversHouse.idle:(I)I -/
set_option maxRecDepth 100000 in
noncomputable def zb109 : List (List zMI) := [
  [(6, 0, 0, 0, 0, []), (4, 1, 1, 0, 0, []), (92, 2, 103, 2, 4, [(47251727, 10)]), (9, 5, 2, 0, 0, []), (6, 6, 2, 0, 0, []), (55, 7, 1, 0, 0, []), (6, 10, 0, 0, 0, []), (4, 11, 1, 0, 0, []), (92, 12, 34, 2, 2, [(20316294, 10)]), (95, 15, 0, 0, 0, [])],
  [(6, 16, 0, 0, 0, []), (6, 17, 2, 0, 0, []), (61, 18, 3, 2, 48234771, []), (6, 21, 2, 0, 0, []), (92, 22, 64, 1, 1, [(49676567, 3)]), (6, 25, 2, 0, 0, []), (92, 26, 70, 1, 1, [(49742106, 3)]), (6, 29, 2, 0, 0, []), (92, 30, 108, 1, 1, [(49807645, 3)]), (6, 33, 2, 0, 0, []), (60, 34, 3, 1, 17432864, []), (92, 37, 104, 6, 10, [(46792960, 10)]), (7, 40, 3, 0, 0, []), (4, 41, 3, 0, 0, []), (1, 42, 0, 0, (-5), []), (46, 44, 2, 0, 0, []), (4, 47, 3, 0, 0, []), (90, 48, 48, 1, 1, [(25297187, 10)]), (41, 51, 2, 0, 0, []), (4, 54, 3, 0, 0, []), (90, 55, 49, 1, 1, [(25493798, 10)]), (6, 58, 2, 0, 0, []), (60, 59, 3, 4, 48496937, []), (47, 62, 2, 0, 0, []), (1, 65, 0, 0, 0, []), (56, 66, 3, 0, 0, [])],
  [(1, 69, 0, 0, 1, []), (57, 70, 3, 0, 0, [])],
  [(95, 70, 0, 0, 0, [])]]
/-! 110: EngraversHouse$Edition.fillRow:(LEngraversHouse$Bar;LEngraversHouse$Edition;I)V -/
set_option maxRecDepth 100000 in
noncomputable def zb110 : List (List zMI) := [
  [(6, 0, 0, 0, 0, []), (61, 1, 2, 8, 43581465, []), (1, 4, 0, 0, 0, []), (6, 5, 0, 0, 0, []), (61, 6, 2, 7, 43515925, []), (1, 9, 0, 0, 0, []), (65, 10, 0, 0, 0, []), (1, 11, 0, 0, 1, []), (11, 12, 0, 0, 0, []), (68, 13, 0, 0, 0, []), (1, 14, 0, 0, 0, []), (7, 15, 4, 0, 0, []), (57, 17, 1, 0, 0, [])],
  [(4, 17, 4, 0, 0, []), (1, 19, 0, 0, 20, []), (49, 21, 6, 0, 0, []), (6, 24, 2, 0, 0, []), (4, 25, 3, 0, 0, []), (4, 26, 4, 0, 0, []), (92, 28, 101, 3, 3, [(50856030, 2)]), (9, 31, 5, 0, 0, []), (6, 33, 5, 0, 0, []), (55, 35, 2, 0, 0, []), (6, 38, 0, 0, 0, []), (61, 39, 2, 8, 43581465, []), (4, 42, 4, 0, 0, []), (1, 44, 0, 0, 1, []), (11, 45, 0, 0, 0, []), (6, 46, 0, 0, 0, []), (61, 47, 2, 8, 43581465, []), (4, 50, 4, 0, 0, []), (65, 52, 0, 0, 0, []), (68, 53, 0, 0, 0, []), (56, 54, 5, 0, 0, [])],
  [(6, 57, 0, 0, 0, []), (61, 58, 2, 8, 43581465, []), (4, 61, 4, 0, 0, []), (65, 63, 0, 0, 0, []), (6, 64, 0, 0, 0, []), (61, 65, 2, 7, 43515925, []), (4, 68, 4, 0, 0, []), (1, 70, 0, 0, 1, []), (11, 71, 0, 0, 0, []), (65, 72, 0, 0, 0, []), (37, 73, 0, 0, 51183718, []), (1, 76, 0, 0, 1, []), (11, 77, 0, 0, 0, []), (7, 78, 6, 0, 0, []), (6, 80, 0, 0, 0, []), (61, 81, 2, 8, 43581465, []), (4, 84, 4, 0, 0, []), (1, 86, 0, 0, 1, []), (11, 87, 0, 0, 0, []), (4, 88, 6, 0, 0, []), (6, 90, 0, 0, 0, []), (61, 91, 2, 7, 43515925, []), (4, 94, 4, 0, 0, []), (65, 96, 0, 0, 0, []), (6, 97, 1, 0, 0, []), (6, 98, 5, 0, 0, []), (92, 100, 93, 2, 4, [(51249257, 0)]), (40, 103, 3, 0, 0, []), (1, 106, 0, 0, 0, []), (56, 107, 4, 0, 0, [])],
  [(1, 110, 0, 0, 1, []), (57, 111, 4, 0, 0, [])],
  [(11, 111, 0, 0, 0, []), (37, 112, 0, 0, 51183718, []), (68, 115, 0, 0, 0, []), (57, 116, 5, 0, 0, [])],
  [(10, 116, 4, 0, 1, []), (56, 119, 1, 0, 0, [])],
  [(101, 122, 0, 0, 0, [])]]
/-! 111: EngraversHouse$Edition.changesTo:(LEngraversHouse$Edition;I)I -/
set_option maxRecDepth 100000 in
noncomputable def zb111 : List (List zMI) := [
  [(6, 0, 0, 0, 0, []), (61, 1, 2, 8, 43581465, []), (1, 4, 0, 0, 0, []), (1, 5, 0, 0, 0, []), (68, 6, 0, 0, 0, []), (1, 7, 0, 0, 0, []), (7, 8, 3, 0, 0, []), (57, 9, 1, 0, 0, [])],
  [(4, 9, 3, 0, 0, []), (1, 10, 0, 0, 20, []), (49, 12, 4, 0, 0, []), (6, 15, 0, 0, 0, []), (61, 16, 2, 8, 43581465, []), (4, 19, 3, 0, 0, []), (1, 20, 0, 0, 1, []), (11, 21, 0, 0, 0, []), (6, 22, 0, 0, 0, []), (61, 23, 2, 8, 43581465, []), (4, 26, 3, 0, 0, []), (65, 27, 0, 0, 0, []), (6, 28, 1, 0, 0, []), (4, 29, 2, 0, 0, []), (4, 30, 3, 0, 0, []), (92, 31, 101, 3, 3, [(50856030, 2)]), (55, 34, 2, 0, 0, []), (1, 37, 0, 0, 0, []), (56, 38, 3, 0, 0, [])],
  [(1, 41, 0, 0, 1, []), (57, 42, 3, 0, 0, [])],
  [(11, 42, 0, 0, 0, []), (68, 43, 0, 0, 0, []), (10, 44, 3, 0, 1, []), (56, 47, 1, 0, 0, [])],
  [(1, 50, 0, 0, 0, []), (7, 51, 3, 0, 0, []), (57, 52, 5, 0, 0, [])],
  [(4, 52, 3, 0, 0, []), (1, 53, 0, 0, 20, []), (49, 55, 7, 0, 0, []), (6, 58, 0, 0, 0, []), (4, 59, 2, 0, 0, []), (4, 60, 3, 0, 0, []), (92, 61, 101, 3, 3, [(50856030, 2)]), (9, 64, 4, 0, 0, []), (6, 66, 4, 0, 0, []), (54, 68, 6, 0, 0, []), (6, 71, 0, 0, 0, []), (61, 72, 2, 7, 43515925, []), (9, 75, 5, 0, 0, []), (6, 77, 0, 0, 0, []), (6, 78, 0, 0, 0, []), (61, 79, 2, 8, 43581465, []), (64, 82, 2, 7, 43515925, []), (6, 85, 0, 0, 0, []), (6, 86, 5, 0, 0, []), (64, 88, 2, 8, 43581465, []), (6, 91, 0, 0, 0, []), (6, 92, 4, 0, 0, []), (6, 94, 1, 0, 0, []), (4, 95, 2, 0, 0, []), (92, 96, 110, 4, 7, [(50921570, 2)]), (57, 99, 6, 0, 0, [])],
  [(10, 99, 3, 0, 1, []), (56, 102, 5, 0, 0, [])],
  [(6, 105, 0, 0, 0, []), (61, 106, 2, 8, 43581465, []), (1, 109, 0, 0, 20, []), (65, 111, 0, 0, 0, []), (95, 112, 0, 0, 0, [])]]
/-! 112: EngraversHouse$Edition.distanceTo:(LEngraversHouse$Edition;)I -/
set_option maxRecDepth 100000 in
noncomputable def zb112 : List (List zMI) := [
  [(6, 0, 1, 0, 0, []), (60, 1, 2, 1, 17301613, []), (6, 4, 0, 0, 0, []), (60, 5, 2, 1, 17301613, []), (51, 8, 1, 0, 0, []), (6, 11, 1, 0, 0, []), (56, 12, 2, 0, 0, [])],
  [(6, 15, 0, 0, 0, []), (57, 16, 2, 0, 0, [])],
  [(9, 16, 2, 0, 0, []), (6, 17, 1, 0, 0, []), (60, 18, 2, 1, 17301613, []), (6, 21, 0, 0, 0, []), (60, 22, 2, 1, 17301613, []), (51, 25, 3, 0, 0, []), (6, 28, 0, 0, 0, []), (56, 29, 4, 0, 0, [])],
  [(6, 32, 1, 0, 0, []), (57, 33, 4, 0, 0, [])],
  [(9, 33, 3, 0, 0, []), (6, 34, 3, 0, 0, []), (60, 35, 2, 1, 17301613, []), (42, 38, 5, 0, 0, []), (6, 41, 3, 0, 0, []), (60, 42, 2, 1, 17301613, []), (6, 45, 2, 0, 0, []), (61, 46, 2, 6, 43450419, []), (72, 49, 0, 0, 0, []), (48, 50, 6, 0, 0, []), (57, 53, 5, 0, 0, [])],
  [(1, 53, 0, 0, 0, []), (95, 54, 0, 0, 0, [])],
  [(6, 55, 2, 0, 0, []), (61, 56, 2, 6, 43450419, []), (6, 59, 3, 0, 0, []), (60, 60, 2, 1, 17301613, []), (65, 63, 0, 0, 0, []), (1, 64, 0, 0, (-1), []), (47, 65, 9, 0, 0, []), (1, 68, 0, 0, 0, []), (7, 69, 4, 0, 0, []), (1, 71, 0, 0, 0, []), (7, 72, 5, 0, 0, []), (57, 74, 7, 0, 0, [])],
  [(4, 74, 5, 0, 0, []), (1, 76, 0, 0, 4, []), (49, 77, 8, 0, 0, []), (4, 80, 4, 0, 0, []), (6, 82, 2, 0, 0, []), (6, 83, 3, 0, 0, []), (4, 84, 5, 0, 0, []), (92, 86, 111, 3, 6, [(50593902, 2)]), (11, 89, 0, 0, 0, []), (7, 90, 4, 0, 0, []), (10, 92, 5, 0, 1, []), (56, 95, 7, 0, 0, [])],
  [(6, 98, 2, 0, 0, []), (61, 99, 2, 6, 43450419, []), (6, 102, 3, 0, 0, []), (60, 103, 2, 1, 17301613, []), (4, 106, 4, 0, 0, []), (68, 108, 0, 0, 0, []), (57, 109, 9, 0, 0, [])],
  [(6, 109, 2, 0, 0, []), (61, 110, 2, 6, 43450419, []), (6, 113, 3, 0, 0, []), (60, 114, 2, 1, 17301613, []), (65, 117, 0, 0, 0, []), (95, 118, 0, 0, 0, [])]]
/-! 113: EngraversHouse.changes:(III)I -/
set_option maxRecDepth 100000 in
noncomputable def zb113 : List (List zMI) := [
  [(6, 0, 0, 0, 0, []), (4, 1, 1, 0, 0, []), (92, 2, 30, 2, 2, [(19267706, 10)]), (54, 5, 1, 0, 0, []), (6, 8, 0, 0, 0, []), (4, 9, 2, 0, 0, []), (92, 10, 30, 2, 2, [(19267706, 10)]), (54, 13, 1, 0, 0, []), (4, 16, 3, 0, 0, []), (1, 17, 0, 0, (-1), []), (1, 18, 0, 0, 3, []), (90, 19, 20, 3, 3, [(13828198, 10)]), (41, 22, 2, 0, 0, []), (57, 25, 1, 0, 0, [])],
  [(1, 25, 0, 0, (-1), []), (95, 26, 0, 0, 0, [])],
  [(6, 27, 0, 0, 0, []), (4, 28, 1, 0, 0, []), (92, 29, 100, 2, 4, [(46268665, 10)]), (9, 32, 4, 0, 0, []), (6, 34, 0, 0, 0, []), (4, 35, 2, 0, 0, []), (92, 36, 100, 2, 4, [(46268665, 10)]), (9, 39, 5, 0, 0, []), (6, 41, 4, 0, 0, []), (54, 43, 3, 0, 0, []), (6, 46, 5, 0, 0, []), (55, 48, 4, 0, 0, []), (57, 51, 3, 0, 0, [])],
  [(1, 51, 0, 0, (-12), []), (95, 53, 0, 0, 0, [])],
  [(6, 54, 4, 0, 0, []), (61, 56, 2, 2, 43122988, []), (6, 59, 5, 0, 0, []), (61, 61, 2, 2, 43122988, []), (52, 64, 5, 0, 0, []), (1, 67, 0, 0, (-3), []), (95, 69, 0, 0, 0, [])],
  [(4, 70, 3, 0, 0, []), (1, 71, 0, 0, (-1), []), (47, 72, 6, 0, 0, []), (6, 75, 4, 0, 0, []), (6, 77, 5, 0, 0, []), (92, 79, 112, 2, 6, [(50331949, 2)]), (56, 82, 7, 0, 0, [])],
  [(6, 85, 4, 0, 0, []), (6, 87, 5, 0, 0, []), (4, 89, 3, 0, 0, []), (92, 90, 111, 3, 6, [(51314993, 2)]), (57, 93, 7, 0, 0, [])],
  [(95, 93, 0, 0, 0, [])]]
/-! 114: EngraversHouse$Edition.mayHangOn:(LEngraversHouse$Edition;)V -/
set_option maxRecDepth 100000 in
noncomputable def zb114 : List (List zMI) := [
  [(6, 0, 0, 0, 0, []), (6, 1, 1, 0, 0, []), (92, 2, 112, 2, 6, [(52166770, 2)]), (7, 5, 2, 0, 0, []), (6, 6, 0, 0, 0, []), (60, 7, 2, 10, 43778080, []), (1, 10, 0, 0, (-1), []), (46, 11, 1, 0, 0, []), (4, 14, 2, 0, 0, []), (6, 15, 0, 0, 0, []), (60, 16, 2, 11, 43909155, []), (48, 19, 1, 0, 0, []), (4, 22, 2, 0, 0, []), (6, 23, 0, 0, 0, []), (60, 24, 2, 11, 43909155, []), (47, 27, 2, 0, 0, []), (6, 30, 1, 0, 0, []), (60, 31, 2, 1, 17301613, []), (6, 34, 0, 0, 0, []), (60, 35, 2, 10, 43778080, []), (49, 38, 2, 0, 0, []), (57, 41, 1, 0, 0, [])],
  [(6, 41, 0, 0, 0, []), (6, 42, 1, 0, 0, []), (60, 43, 2, 1, 17301613, []), (62, 46, 2, 10, 43778080, []), (6, 49, 0, 0, 0, []), (4, 50, 2, 0, 0, []), (62, 51, 2, 11, 43909155, []), (57, 54, 2, 0, 0, [])],
  [(101, 54, 0, 0, 0, [])]]
/-! 115: EngraversHouse.nearestToTree:(LEngraversHouse$Score;)LEngraversHouse$Edition; -/
set_option maxRecDepth 100000 in
noncomputable def zb115 : List (List zMI) := [
  [(3, 0, 0, 0, 0, []), (9, 1, 2, 0, 0, []), (1, 2, 0, 0, 0, []), (7, 3, 3, 0, 0, []), (57, 4, 1, 0, 0, [])],
  [(4, 4, 3, 0, 0, []), (6, 5, 0, 0, 0, []), (60, 6, 10, 4, 9830428, []), (49, 9, 4, 0, 0, []), (6, 12, 0, 0, 0, []), (4, 13, 3, 0, 0, []), (92, 14, 100, 2, 4, [(46268665, 10)]), (9, 17, 4, 0, 0, []), (6, 19, 4, 0, 0, []), (54, 21, 3, 0, 0, []), (6, 24, 4, 0, 0, []), (61, 26, 2, 2, 43122988, []), (6, 29, 1, 0, 0, []), (53, 30, 3, 0, 0, []), (6, 33, 4, 0, 0, []), (60, 35, 2, 9, 43713014, []), (41, 38, 3, 0, 0, []), (6, 41, 2, 0, 0, []), (54, 42, 2, 0, 0, []), (6, 45, 4, 0, 0, []), (60, 47, 2, 11, 43975170, []), (6, 50, 2, 0, 0, []), (60, 51, 2, 11, 43975170, []), (49, 54, 3, 0, 0, []), (57, 57, 2, 0, 0, [])],
  [(6, 57, 4, 0, 0, []), (9, 59, 2, 0, 0, []), (57, 60, 3, 0, 0, [])],
  [(10, 60, 3, 0, 1, []), (56, 63, 1, 0, 0, [])],
  [(6, 66, 2, 0, 0, []), (100, 67, 0, 0, 0, [])]]
/-! 116: EngraversHouse.growTree:(LEngraversHouse$Score;)V -/
set_option maxRecDepth 100000 in
noncomputable def zb116 : List (List zMI) := [
  [(3, 0, 0, 0, 0, []), (9, 1, 2, 0, 0, []), (1, 2, 0, 0, 0, []), (7, 3, 3, 0, 0, []), (57, 4, 1, 0, 0, [])],
  [(4, 4, 3, 0, 0, []), (6, 5, 0, 0, 0, []), (60, 6, 10, 4, 9830428, []), (49, 9, 7, 0, 0, []), (6, 12, 0, 0, 0, []), (4, 13, 3, 0, 0, []), (92, 14, 100, 2, 4, [(46268665, 10)]), (9, 17, 4, 0, 0, []), (6, 19, 4, 0, 0, []), (54, 21, 6, 0, 0, []), (6, 24, 4, 0, 0, []), (61, 26, 2, 2, 43122988, []), (6, 29, 1, 0, 0, []), (53, 30, 6, 0, 0, []), (6, 33, 4, 0, 0, []), (6, 35, 2, 0, 0, []), (55, 36, 2, 0, 0, []), (1, 39, 0, 0, 1, []), (56, 40, 3, 0, 0, [])],
  [(1, 43, 0, 0, 0, []), (57, 44, 3, 0, 0, [])],
  [(63, 44, 2, 9, 43713014, []), (6, 47, 4, 0, 0, []), (1, 49, 0, 0, (-1), []), (62, 50, 2, 10, 43843897, []), (6, 53, 4, 0, 0, []), (60, 55, 2, 9, 43713014, []), (40, 58, 4, 0, 0, []), (6, 61, 4, 0, 0, []), (56, 63, 5, 0, 0, [])],
  [(6, 66, 2, 0, 0, []), (57, 67, 5, 0, 0, [])],
  [(9, 67, 2, 0, 0, []), (57, 68, 6, 0, 0, [])],
  [(10, 68, 3, 0, 1, []), (56, 71, 1, 0, 0, [])],
  [(1, 74, 0, 0, 0, []), (7, 75, 3, 0, 0, []), (57, 76, 8, 0, 0, [])],
  [(4, 76, 3, 0, 0, []), (6, 77, 0, 0, 0, []), (60, 78, 10, 4, 9830428, []), (49, 81, 13, 0, 0, []), (6, 84, 2, 0, 0, []), (54, 85, 13, 0, 0, []), (1, 88, 0, 0, 0, []), (7, 89, 4, 0, 0, []), (57, 91, 9, 0, 0, [])],
  [(4, 91, 4, 0, 0, []), (6, 93, 0, 0, 0, []), (60, 94, 10, 4, 9830428, []), (49, 97, 11, 0, 0, []), (6, 100, 0, 0, 0, []), (4, 101, 4, 0, 0, []), (92, 103, 100, 2, 4, [(46268665, 10)]), (9, 106, 5, 0, 0, []), (6, 108, 5, 0, 0, []), (54, 110, 10, 0, 0, []), (6, 113, 5, 0, 0, []), (61, 115, 2, 2, 43122988, []), (6, 118, 1, 0, 0, []), (53, 119, 10, 0, 0, []), (6, 122, 5, 0, 0, []), (60, 124, 2, 9, 43713014, []), (41, 127, 10, 0, 0, []), (6, 130, 5, 0, 0, []), (6, 132, 2, 0, 0, []), (92, 133, 114, 2, 3, [(51905018, 2)]), (57, 136, 10, 0, 0, [])],
  [(10, 136, 4, 0, 1, []), (56, 139, 9, 0, 0, [])],
  [(6, 142, 0, 0, 0, []), (6, 143, 1, 0, 0, []), (92, 144, 115, 2, 5, [(52232702, 10)]), (9, 147, 2, 0, 0, []), (6, 148, 2, 0, 0, []), (54, 149, 12, 0, 0, []), (6, 152, 2, 0, 0, []), (1, 153, 0, 0, 1, []), (63, 154, 2, 9, 43713014, []), (57, 157, 12, 0, 0, [])],
  [(10, 157, 3, 0, 1, []), (56, 160, 8, 0, 0, [])],
  [(101, 163, 0, 0, 0, [])]]
/-! 117: EngraversHouse.hangs:(I)I -/
set_option maxRecDepth 100000 in
noncomputable def zb117 : List (List zMI) := [
  [(6, 0, 0, 0, 0, []), (4, 1, 1, 0, 0, []), (92, 2, 100, 2, 4, [(46268665, 10)]), (9, 5, 2, 0, 0, []), (6, 6, 2, 0, 0, []), (55, 7, 1, 0, 0, []), (1, 10, 0, 0, (-5), []), (95, 12, 0, 0, 0, [])],
  [(6, 13, 0, 0, 0, []), (6, 14, 2, 0, 0, []), (61, 15, 2, 2, 43122988, []), (92, 18, 116, 2, 6, [(51642677, 10)]), (6, 21, 2, 0, 0, []), (60, 22, 2, 10, 43843897, []), (95, 25, 0, 0, 0, [])]]
/-! 118: EngraversHouse$Bar.restsFirst:()Z -/
set_option maxRecDepth 100000 in
noncomputable def zb118 : List (List zMI) := [
  [(6, 0, 0, 0, 0, []), (1, 1, 0, 0, 0, []), (92, 2, 47, 2, 2, [(35848218, 0)]), (40, 5, 1, 0, 0, []), (6, 8, 0, 0, 0, []), (61, 9, 0, 0, 22609929, []), (1, 12, 0, 0, 0, []), (65, 13, 0, 0, 0, []), (90, 14, 48, 1, 1, [(35913758, 10)]), (40, 17, 1, 0, 0, []), (1, 20, 0, 0, 1, []), (56, 21, 2, 0, 0, [])],
  [(1, 24, 0, 0, 0, []), (57, 25, 2, 0, 0, [])],
  [(96, 25, 0, 0, 0, [])]]
/-! 119: EngraversHouse$Bar.restsLast:()Z -/
set_option maxRecDepth 100000 in
noncomputable def zb119 : List (List zMI) := [
  [(6, 0, 0, 0, 0, []), (6, 1, 0, 0, 0, []), (60, 2, 0, 1, 22806543, []), (1, 5, 0, 0, 1, []), (12, 6, 0, 0, 0, []), (92, 7, 47, 2, 2, [(35848218, 0)]), (40, 10, 1, 0, 0, []), (6, 13, 0, 0, 0, []), (61, 14, 0, 0, 22609929, []), (6, 17, 0, 0, 0, []), (60, 18, 0, 1, 22806543, []), (1, 21, 0, 0, 1, []), (12, 22, 0, 0, 0, []), (65, 23, 0, 0, 0, []), (90, 24, 48, 1, 1, [(35913758, 10)]), (40, 27, 1, 0, 0, []), (1, 30, 0, 0, 1, []), (56, 31, 2, 0, 0, [])],
  [(1, 34, 0, 0, 0, []), (57, 35, 2, 0, 0, [])],
  [(96, 35, 0, 0, 0, [])]]
/-! 120: EngraversHouse$Layout.measure:(LEngraversHouse$Part;)V -/
set_option maxRecDepth 100000 in
noncomputable def zb120 : List (List zMI) := [
  [(6, 0, 0, 0, 0, []), (6, 1, 1, 0, 0, []), (92, 2, 86, 1, 1, [(53018656, 5)]), (1, 5, 0, 0, 20, []), (37, 7, 0, 0, 53084198, []), (62, 10, 4, 0, 2686985, []), (1, 13, 0, 0, 0, []), (7, 14, 2, 0, 0, []), (57, 15, 1, 0, 0, [])],
  [(4, 15, 2, 0, 0, []), (6, 16, 0, 0, 0, []), (60, 17, 4, 0, 2686985, []), (49, 20, 8, 0, 0, []), (6, 23, 1, 0, 0, []), (4, 24, 2, 0, 0, []), (92, 25, 83, 2, 4, [(53149740, 5)]), (9, 28, 3, 0, 0, []), (6, 29, 0, 0, 0, []), (61, 30, 4, 1, 2752527, []), (4, 33, 2, 0, 0, []), (1, 34, 0, 0, 2, []), (1, 35, 0, 0, 3, []), (6, 36, 3, 0, 0, []), (55, 37, 2, 0, 0, []), (1, 40, 0, 0, 0, []), (56, 41, 3, 0, 0, [])],
  [(6, 44, 3, 0, 0, []), (60, 45, 0, 1, 22872112, []), (57, 48, 3, 0, 0, [])],
  [(13, 48, 0, 0, 0, []), (11, 49, 0, 0, 0, []), (68, 50, 0, 0, 0, []), (6, 51, 0, 0, 0, []), (61, 52, 4, 2, 2818067, []), (4, 55, 2, 0, 0, []), (6, 56, 3, 0, 0, []), (54, 57, 4, 0, 0, []), (6, 60, 3, 0, 0, []), (92, 61, 118, 1, 1, [(53215285, 0)]), (40, 64, 4, 0, 0, []), (1, 67, 0, 0, 1, []), (56, 68, 5, 0, 0, [])],
  [(1, 71, 0, 0, 0, []), (57, 72, 5, 0, 0, [])],
  [(69, 72, 0, 0, 0, []), (6, 73, 0, 0, 0, []), (61, 74, 4, 3, 2883607, []), (4, 77, 2, 0, 0, []), (6, 78, 3, 0, 0, []), (54, 79, 6, 0, 0, []), (6, 82, 3, 0, 0, []), (92, 83, 119, 1, 1, [(53477432, 0)]), (40, 86, 6, 0, 0, []), (1, 89, 0, 0, 1, []), (56, 90, 7, 0, 0, [])],
  [(1, 93, 0, 0, 0, []), (57, 94, 7, 0, 0, [])],
  [(69, 94, 0, 0, 0, []), (10, 95, 2, 0, 1, []), (56, 98, 1, 0, 0, [])],
  [(101, 101, 0, 0, 0, [])]]
/-! 121: EngraversHouse$Layout.fits:(I)Z -/
set_option maxRecDepth 100000 in
noncomputable def zb121 : List (List zMI) := [
  [(6, 0, 0, 0, 0, []), (60, 1, 4, 0, 2686985, []), (45, 4, 1, 0, 0, []), (1, 7, 0, 0, 1, []), (56, 8, 2, 0, 0, [])],
  [(1, 11, 0, 0, 0, []), (57, 12, 2, 0, 0, [])],
  [(7, 12, 2, 0, 0, []), (1, 13, 0, 0, 0, []), (7, 14, 3, 0, 0, []), (57, 15, 3, 0, 0, [])],
  [(4, 15, 3, 0, 0, []), (6, 16, 0, 0, 0, []), (60, 17, 4, 0, 2686985, []), (49, 20, 6, 0, 0, []), (4, 23, 2, 0, 0, []), (40, 24, 4, 0, 0, []), (6, 27, 0, 0, 0, []), (61, 28, 4, 1, 2752527, []), (4, 31, 3, 0, 0, []), (65, 32, 0, 0, 0, []), (4, 33, 1, 0, 0, []), (50, 34, 4, 0, 0, []), (1, 37, 0, 0, 1, []), (56, 38, 5, 0, 0, [])],
  [(1, 41, 0, 0, 0, []), (57, 42, 5, 0, 0, [])],
  [(7, 42, 2, 0, 0, []), (10, 43, 3, 0, 1, []), (56, 46, 3, 0, 0, [])],
  [(4, 49, 2, 0, 0, []), (96, 50, 0, 0, 0, [])]]
/-! 122: EngraversHouse$Layout.placeBehind:(II)I -/
set_option maxRecDepth 100000 in
noncomputable def zb122 : List (List zMI) := [
  [(4, 0, 0, 0, 0, []), (1, 1, 0, 0, 1, []), (11, 2, 0, 0, 0, []), (4, 3, 1, 0, 0, []), (48, 4, 1, 0, 0, []), (1, 7, 0, 0, 0, []), (56, 8, 2, 0, 0, [])],
  [(4, 11, 0, 0, 0, []), (1, 12, 0, 0, 1, []), (11, 13, 0, 0, 0, []), (57, 14, 2, 0, 0, [])],
  [(95, 14, 0, 0, 0, [])]]
/-! 123: EngraversHouse$Layout.fillLine:(IIII)V -/
set_option maxRecDepth 100000 in
noncomputable def zb123 : List (List zMI) := [
  [(4, 0, 1, 0, 0, []), (1, 1, 0, 0, 4, []), (13, 2, 0, 0, 0, []), (4, 3, 2, 0, 0, []), (11, 4, 0, 0, 0, []), (7, 5, 5, 0, 0, []), (1, 7, 0, 0, 0, []), (7, 8, 6, 0, 0, []), (6, 10, 0, 0, 0, []), (61, 11, 4, 5, 3014685, []), (4, 14, 5, 0, 0, []), (1, 16, 0, 0, 0, []), (68, 17, 0, 0, 0, []), (4, 18, 1, 0, 0, []), (1, 19, 0, 0, 1, []), (11, 20, 0, 0, 0, []), (7, 21, 7, 0, 0, []), (57, 23, 1, 0, 0, [])],
  [(4, 23, 7, 0, 0, []), (6, 25, 0, 0, 0, []), (60, 26, 4, 0, 2686985, []), (50, 29, 7, 0, 0, []), (4, 32, 6, 0, 0, []), (6, 34, 0, 0, 0, []), (61, 35, 4, 1, 2752527, []), (4, 38, 7, 0, 0, []), (1, 40, 0, 0, 1, []), (12, 41, 0, 0, 0, []), (65, 42, 0, 0, 0, []), (11, 43, 0, 0, 0, []), (4, 44, 3, 0, 0, []), (50, 45, 7, 0, 0, []), (4, 48, 6, 0, 0, []), (6, 50, 0, 0, 0, []), (61, 51, 4, 1, 2752527, []), (4, 54, 7, 0, 0, []), (1, 56, 0, 0, 1, []), (12, 57, 0, 0, 0, []), (65, 58, 0, 0, 0, []), (11, 59, 0, 0, 0, []), (7, 60, 6, 0, 0, []), (1, 62, 0, 0, 0, []), (7, 63, 8, 0, 0, []), (4, 65, 7, 0, 0, []), (6, 67, 0, 0, 0, []), (60, 68, 4, 0, 2686985, []), (49, 71, 4, 0, 0, []), (4, 74, 2, 0, 0, []), (1, 75, 0, 0, 1, []), (11, 76, 0, 0, 0, []), (4, 77, 4, 0, 0, []), (47, 79, 2, 0, 0, []), (6, 82, 0, 0, 0, []), (61, 83, 4, 3, 2883607, []), (4, 86, 7, 0, 0, []), (1, 88, 0, 0, 1, []), (12, 89, 0, 0, 0, []), (66, 90, 0, 0, 0, []), (41, 91, 2, 0, 0, []), (6, 94, 0, 0, 0, []), (61, 95, 4, 2, 2818067, []), (4, 98, 7, 0, 0, []), (66, 100, 0, 0, 0, []), (41, 101, 2, 0, 0, []), (1, 104, 0, 0, 1000, []), (56, 107, 3, 0, 0, [])],
  [(1, 110, 0, 0, 0, []), (57, 111, 3, 0, 0, [])],
  [(7, 111, 9, 0, 0, []), (4, 113, 3, 0, 0, []), (4, 114, 6, 0, 0, []), (12, 116, 0, 0, 0, []), (4, 117, 3, 0, 0, []), (4, 118, 6, 0, 0, []), (12, 120, 0, 0, 0, []), (13, 121, 0, 0, 0, []), (4, 122, 9, 0, 0, []), (11, 124, 0, 0, 0, []), (6, 125, 0, 0, 0, []), (61, 126, 4, 4, 2949146, []), (4, 129, 7, 0, 0, []), (1, 131, 0, 0, 4, []), (13, 132, 0, 0, 0, []), (4, 133, 2, 0, 0, []), (4, 134, 4, 0, 0, []), (90, 136, 122, 2, 2, [(54526014, 4)]), (11, 139, 0, 0, 0, []), (65, 140, 0, 0, 0, []), (11, 141, 0, 0, 0, []), (7, 142, 8, 0, 0, []), (57, 144, 4, 0, 0, [])],
  [(6, 144, 0, 0, 0, []), (61, 145, 4, 5, 3014685, []), (4, 148, 5, 0, 0, []), (65, 150, 0, 0, 0, []), (40, 151, 5, 0, 0, []), (4, 154, 8, 0, 0, []), (6, 156, 0, 0, 0, []), (61, 157, 4, 4, 2949146, []), (4, 160, 5, 0, 0, []), (65, 162, 0, 0, 0, []), (50, 163, 6, 0, 0, []), (57, 166, 5, 0, 0, [])],
  [(6, 166, 0, 0, 0, []), (61, 167, 4, 4, 2949146, []), (4, 170, 5, 0, 0, []), (4, 172, 8, 0, 0, []), (68, 174, 0, 0, 0, []), (6, 175, 0, 0, 0, []), (61, 176, 4, 5, 3014685, []), (4, 179, 5, 0, 0, []), (4, 181, 7, 0, 0, []), (4, 183, 1, 0, 0, []), (12, 184, 0, 0, 0, []), (68, 185, 0, 0, 0, []), (57, 186, 6, 0, 0, [])],
  [(10, 186, 7, 0, 1, []), (56, 189, 1, 0, 0, [])],
  [(101, 192, 0, 0, 0, [])]]
/-! 124: EngraversHouse$Layout.fill:(II)V -/
set_option maxRecDepth 100000 in
noncomputable def zb124 : List (List zMI) := [
  [(6, 0, 0, 0, 0, []), (60, 1, 4, 0, 2686985, []), (1, 4, 0, 0, 1, []), (12, 5, 0, 0, 0, []), (7, 6, 3, 0, 0, []), (57, 7, 1, 0, 0, [])],
  [(4, 7, 3, 0, 0, []), (42, 8, 4, 0, 0, []), (1, 11, 0, 0, 0, []), (7, 12, 4, 0, 0, []), (57, 14, 2, 0, 0, [])],
  [(4, 14, 4, 0, 0, []), (4, 16, 2, 0, 0, []), (49, 17, 3, 0, 0, []), (4, 20, 4, 0, 0, []), (1, 22, 0, 0, 4, []), (49, 23, 3, 0, 0, []), (6, 26, 0, 0, 0, []), (4, 27, 3, 0, 0, []), (4, 28, 4, 0, 0, []), (4, 30, 1, 0, 0, []), (4, 31, 2, 0, 0, []), (92, 32, 123, 5, 10, [(54263866, 4)]), (10, 35, 4, 0, 1, []), (56, 38, 2, 0, 0, [])],
  [(10, 41, 3, 0, (-1), []), (56, 44, 1, 0, 0, [])],
  [(101, 47, 0, 0, 0, [])]]
/-! 125: EngraversHouse$Layout.leastCost:()I -/
set_option maxRecDepth 100000 in
noncomputable def zb125 : List (List zMI) := [
  [(6, 0, 0, 0, 0, []), (61, 1, 4, 4, 2949146, []), (1, 4, 0, 0, 0, []), (65, 5, 0, 0, 0, []), (95, 6, 0, 0, 0, [])]]
/-! 126: EngraversHouse$Layout.lineCount:(I)I -/
set_option maxRecDepth 100000 in
noncomputable def zb126 : List (List zMI) := [
  [(1, 0, 0, 0, 0, []), (7, 1, 2, 0, 0, []), (1, 2, 0, 0, 0, []), (7, 3, 3, 0, 0, []), (1, 4, 0, 0, 0, []), (7, 5, 4, 0, 0, []), (57, 7, 1, 0, 0, [])],
  [(4, 7, 2, 0, 0, []), (1, 8, 0, 0, 20, []), (49, 10, 2, 0, 0, []), (4, 13, 4, 0, 0, []), (6, 15, 0, 0, 0, []), (60, 16, 4, 0, 2686985, []), (49, 19, 2, 0, 0, []), (4, 22, 4, 0, 0, []), (6, 24, 0, 0, 0, []), (61, 25, 4, 5, 3014685, []), (4, 28, 4, 0, 0, []), (1, 30, 0, 0, 4, []), (13, 31, 0, 0, 0, []), (4, 32, 3, 0, 0, []), (11, 33, 0, 0, 0, []), (65, 34, 0, 0, 0, []), (11, 35, 0, 0, 0, []), (7, 36, 4, 0, 0, []), (4, 38, 3, 0, 0, []), (4, 39, 1, 0, 0, []), (90, 40, 122, 2, 2, [(54526014, 4)]), (7, 43, 3, 0, 0, []), (10, 44, 2, 0, 1, []), (56, 47, 1, 0, 0, [])],
  [(4, 50, 2, 0, 0, []), (95, 51, 0, 0, 0, [])]]
/-! 127: EngraversHouse$Layout.barsInLine:(II)I -/
set_option maxRecDepth 100000 in
noncomputable def zb127 : List (List zMI) := [
  [(1, 0, 0, 0, 0, []), (7, 1, 3, 0, 0, []), (1, 2, 0, 0, 0, []), (7, 3, 4, 0, 0, []), (1, 5, 0, 0, 0, []), (7, 6, 5, 0, 0, []), (57, 8, 1, 0, 0, [])],
  [(4, 8, 5, 0, 0, []), (4, 10, 1, 0, 0, []), (49, 11, 2, 0, 0, []), (4, 14, 5, 0, 0, []), (1, 16, 0, 0, 20, []), (49, 18, 2, 0, 0, []), (4, 21, 4, 0, 0, []), (6, 23, 0, 0, 0, []), (60, 24, 4, 0, 2686985, []), (49, 27, 2, 0, 0, []), (4, 30, 4, 0, 0, []), (6, 32, 0, 0, 0, []), (61, 33, 4, 5, 3014685, []), (4, 36, 4, 0, 0, []), (1, 38, 0, 0, 4, []), (13, 39, 0, 0, 0, []), (4, 40, 3, 0, 0, []), (11, 41, 0, 0, 0, []), (65, 42, 0, 0, 0, []), (11, 43, 0, 0, 0, []), (7, 44, 4, 0, 0, []), (4, 46, 3, 0, 0, []), (4, 47, 2, 0, 0, []), (90, 48, 122, 2, 2, [(54526014, 4)]), (7, 51, 3, 0, 0, []), (10, 52, 5, 0, 1, []), (56, 55, 1, 0, 0, [])],
  [(4, 58, 4, 0, 0, []), (6, 60, 0, 0, 0, []), (60, 61, 4, 0, 2686985, []), (49, 64, 3, 0, 0, []), (6, 67, 0, 0, 0, []), (61, 68, 4, 5, 3014685, []), (4, 71, 4, 0, 0, []), (1, 73, 0, 0, 4, []), (13, 74, 0, 0, 0, []), (4, 75, 3, 0, 0, []), (11, 76, 0, 0, 0, []), (65, 77, 0, 0, 0, []), (56, 78, 4, 0, 0, [])],
  [(1, 81, 0, 0, (-1), []), (57, 82, 4, 0, 0, [])],
  [(95, 82, 0, 0, 0, [])]]
/-! 128: EngraversHouse.pages:(IIII)I -/
set_option maxRecDepth 100000 in
noncomputable def zb128 : List (List zMI) := [
  [(6, 0, 0, 0, 0, []), (4, 1, 1, 0, 0, []), (92, 2, 30, 2, 2, [(19267706, 10)]), (54, 5, 1, 0, 0, []), (4, 8, 4, 0, 0, []), (42, 10, 1, 0, 0, []), (4, 13, 4, 0, 0, []), (1, 15, 0, 0, 2, []), (1, 16, 0, 0, 9, []), (90, 18, 20, 3, 3, [(13828198, 10)]), (40, 21, 2, 0, 0, []), (57, 24, 1, 0, 0, [])],
  [(1, 24, 0, 0, (-1), []), (95, 25, 0, 0, 0, [])],
  [(6, 26, 0, 0, 0, []), (4, 27, 1, 0, 0, []), (92, 28, 79, 2, 4, [(34537665, 10)]), (9, 31, 5, 0, 0, []), (6, 33, 5, 0, 0, []), (55, 35, 3, 0, 0, []), (1, 38, 0, 0, (-12), []), (95, 40, 0, 0, 0, [])],
  [(4, 41, 2, 0, 0, []), (1, 42, 0, 0, 5, []), (1, 43, 0, 0, 99, []), (90, 45, 20, 3, 3, [(13828198, 10)]), (40, 48, 4, 0, 0, []), (4, 51, 3, 0, 0, []), (1, 52, 0, 0, 1, []), (1, 53, 0, 0, 4, []), (90, 54, 20, 3, 3, [(13828198, 10)]), (41, 57, 5, 0, 0, []), (57, 60, 4, 0, 0, [])],
  [(1, 60, 0, 0, (-2), []), (95, 62, 0, 0, 0, [])],
  [(6, 63, 0, 0, 0, []), (61, 64, 10, 8, 10092590, []), (6, 67, 5, 0, 0, []), (92, 69, 120, 2, 4, [(52756796, 4)]), (6, 72, 0, 0, 0, []), (61, 73, 10, 8, 10092590, []), (4, 76, 2, 0, 0, []), (92, 77, 121, 2, 4, [(53739840, 4)]), (41, 80, 6, 0, 0, []), (1, 83, 0, 0, (-3), []), (95, 85, 0, 0, 0, [])],
  [(6, 86, 0, 0, 0, []), (61, 87, 10, 8, 10092590, []), (4, 90, 2, 0, 0, []), (4, 91, 3, 0, 0, []), (92, 92, 124, 3, 5, [(54001987, 4)]), (4, 95, 4, 0, 0, []), (41, 97, 7, 0, 0, []), (6, 100, 0, 0, 0, []), (61, 101, 10, 8, 10092590, []), (92, 104, 125, 1, 1, [(54722886, 4)]), (95, 107, 0, 0, 0, [])],
  [(4, 108, 4, 0, 0, []), (1, 110, 0, 0, 1, []), (47, 111, 8, 0, 0, []), (6, 114, 0, 0, 0, []), (61, 115, 10, 8, 10092590, []), (4, 118, 3, 0, 0, []), (92, 119, 126, 2, 5, [(54985033, 4)]), (56, 122, 9, 0, 0, [])],
  [(6, 125, 0, 0, 0, []), (61, 126, 10, 8, 10092590, []), (4, 129, 4, 0, 0, []), (1, 131, 0, 0, 10, []), (12, 133, 0, 0, 0, []), (4, 134, 3, 0, 0, []), (92, 135, 127, 3, 6, [(55247180, 4)]), (57, 138, 9, 0, 0, [])],
  [(95, 138, 0, 0, 0, [])]]
/-! 129: EngraversHouse.feed:(II)I -/
set_option maxRecDepth 100000 in
noncomputable def zb129 : List (List zMI) := [
  [(4, 0, 2, 0, 0, []), (1, 1, 0, 0, 0, []), (1, 2, 0, 0, 4, []), (90, 3, 20, 3, 3, [(13828198, 10)]), (41, 6, 1, 0, 0, []), (1, 9, 0, 0, (-2), []), (95, 11, 0, 0, 0, [])],
  [(6, 12, 0, 0, 0, []), (60, 13, 10, 10, 10223669, []), (4, 16, 2, 0, 0, []), (11, 17, 0, 0, 0, []), (1, 18, 0, 0, 120, []), (51, 20, 2, 0, 0, []), (1, 23, 0, 0, (-4), []), (95, 25, 0, 0, 0, [])],
  [(4, 26, 2, 0, 0, []), (1, 27, 0, 0, 1, []), (12, 28, 0, 0, 0, []), (7, 29, 3, 0, 0, []), (57, 30, 3, 0, 0, [])],
  [(4, 30, 3, 0, 0, []), (42, 31, 4, 0, 0, []), (6, 34, 0, 0, 0, []), (61, 35, 10, 9, 10158130, []), (6, 38, 0, 0, 0, []), (60, 39, 10, 10, 10223669, []), (4, 42, 1, 0, 0, []), (1, 43, 0, 0, 8, []), (4, 45, 3, 0, 0, []), (13, 46, 0, 0, 0, []), (18, 47, 0, 0, 0, []), (1, 48, 0, 0, 255, []), (20, 51, 0, 0, 0, []), (68, 52, 0, 0, 0, []), (6, 53, 0, 0, 0, []), (33, 54, 0, 0, 0, []), (60, 55, 10, 10, 10223669, []), (1, 58, 0, 0, 1, []), (11, 59, 0, 0, 0, []), (62, 60, 10, 10, 10223669, []), (10, 63, 3, 0, (-1), []), (56, 66, 3, 0, 0, [])],
  [(6, 69, 0, 0, 0, []), (60, 70, 10, 10, 10223669, []), (95, 73, 0, 0, 0, [])]]
/-! 130: EngraversHouse.isDay:(I)Z -/
set_option maxRecDepth 100000 in
noncomputable def zb130 : List (List zMI) := [
  [(4, 0, 0, 0, 0, []), (1, 1, 0, 0, 0, []), (1, 2, 0, 0, 9999, []), (90, 5, 20, 3, 3, [(13828198, 10)]), (96, 8, 0, 0, 0, [])]]
/-! 131: EngraversHouse$Contract.<init>:(II[I)V -/
set_option maxRecDepth 100000 in
noncomputable def zb131 : List (List zMI) := [
  [(6, 0, 0, 0, 0, []), (82, 1, 0, 0, 57409539, []), (6, 4, 0, 0, 0, []), (1, 5, 0, 0, 0, []), (62, 6, 1, 3, 57802761, []), (6, 9, 0, 0, 0, []), (1, 10, 0, 0, 0, []), (63, 11, 1, 4, 57933839, []), (6, 14, 0, 0, 0, []), (1, 15, 0, 0, 10, []), (62, 17, 1, 5, 57999379, []), (6, 20, 0, 0, 0, []), (1, 21, 0, 0, 0, []), (62, 22, 1, 6, 58130454, []), (6, 25, 0, 0, 0, []), (1, 26, 0, 0, 0, []), (62, 27, 1, 7, 58261529, []), (6, 30, 0, 0, 0, []), (1, 31, 0, 0, 0, []), (63, 32, 1, 8, 58392604, []), (6, 35, 0, 0, 0, []), (1, 36, 0, 0, 0, []), (62, 37, 1, 9, 58458143, []), (6, 40, 0, 0, 0, []), (1, 41, 0, 0, 0, []), (62, 42, 1, 10, 58523682, []), (6, 45, 0, 0, 0, []), (1, 46, 0, 0, 0, []), (62, 47, 1, 11, 58589221, []), (6, 50, 0, 0, 0, []), (1, 51, 0, 0, 0, []), (63, 52, 1, 12, 58654760, []), (6, 55, 0, 0, 0, []), (4, 56, 1, 0, 0, []), (62, 57, 1, 0, 57475115, []), (6, 60, 0, 0, 0, []), (4, 61, 2, 0, 0, []), (62, 62, 1, 1, 57606190, []), (6, 65, 0, 0, 0, []), (6, 66, 3, 0, 0, []), (64, 67, 1, 2, 57737265, []), (101, 70, 0, 0, 0, [])]]
/-! 132: EngraversHouse$Contract.sees:(C)Z -/
set_option maxRecDepth 100000 in
noncomputable def zb132 : List (List zMI) := [
  [(6, 0, 0, 0, 0, []), (60, 1, 1, 4, 57933839, []), (41, 4, 1, 0, 0, []), (6, 7, 0, 0, 0, []), (60, 8, 1, 3, 57802761, []), (6, 11, 0, 0, 0, []), (61, 12, 1, 2, 57737265, []), (72, 15, 0, 0, 0, []), (49, 16, 1, 0, 0, []), (6, 19, 0, 0, 0, []), (61, 20, 1, 2, 57737265, []), (6, 23, 0, 0, 0, []), (60, 24, 1, 3, 57802761, []), (65, 27, 0, 0, 0, []), (4, 28, 1, 0, 0, []), (47, 29, 1, 0, 0, []), (1, 32, 0, 0, 1, []), (56, 33, 2, 0, 0, [])],
  [(1, 36, 0, 0, 0, []), (57, 37, 2, 0, 0, [])],
  [(96, 37, 0, 0, 0, [])]]
/-! 133: EngraversHouse$Contract.skip:(Ljava/lang/String;)V -/
set_option maxRecDepth 100000 in
noncomputable def zb133 : List (List zMI) := [
  [(1, 0, 0, 0, 0, []), (7, 1, 2, 0, 0, []), (57, 2, 1, 0, 0, [])],
  [(4, 2, 2, 0, 0, []), (6, 3, 1, 0, 0, []), (92, 4, 8, 1, 1, [(61866098, 49)]), (49, 7, 4, 0, 0, []), (6, 10, 0, 0, 0, []), (6, 11, 1, 0, 0, []), (4, 12, 2, 0, 0, []), (92, 13, 10, 2, 2, [(62521461, 49)]), (92, 16, 132, 2, 2, [(61014085, 1)]), (40, 19, 2, 0, 0, []), (6, 22, 0, 0, 0, []), (33, 23, 0, 0, 0, []), (60, 24, 1, 3, 57802761, []), (1, 27, 0, 0, 1, []), (11, 28, 0, 0, 0, []), (62, 29, 1, 3, 57802761, []), (56, 32, 3, 0, 0, [])],
  [(6, 35, 0, 0, 0, []), (1, 36, 0, 0, 1, []), (63, 37, 1, 4, 57933839, []), (57, 40, 3, 0, 0, [])],
  [(10, 40, 2, 0, 1, []), (56, 43, 1, 0, 0, [])],
  [(101, 46, 0, 0, 0, [])]]
/-! 134: EngraversHouse$Contract.pick:(Ljava/lang/String;)I -/
set_option maxRecDepth 100000 in
noncomputable def zb134 : List (List zMI) := [
  [(6, 0, 0, 0, 0, []), (60, 1, 1, 4, 57933839, []), (41, 4, 1, 0, 0, []), (6, 7, 0, 0, 0, []), (60, 8, 1, 3, 57802761, []), (6, 11, 0, 0, 0, []), (61, 12, 1, 2, 57737265, []), (72, 15, 0, 0, 0, []), (48, 16, 2, 0, 0, []), (57, 19, 1, 0, 0, [])],
  [(1, 19, 0, 0, (-1), []), (56, 20, 3, 0, 0, [])],
  [(6, 23, 1, 0, 0, []), (6, 24, 0, 0, 0, []), (61, 25, 1, 2, 57737265, []), (6, 28, 0, 0, 0, []), (60, 29, 1, 3, 57802761, []), (65, 32, 0, 0, 0, []), (27, 33, 0, 0, 0, []), (92, 34, 15, 2, 2, [(65339500, 49)]), (57, 37, 3, 0, 0, [])],
  [(7, 37, 2, 0, 0, []), (4, 38, 2, 0, 0, []), (1, 39, 0, 0, (-1), []), (47, 40, 4, 0, 0, []), (6, 43, 0, 0, 0, []), (1, 44, 0, 0, 1, []), (63, 45, 1, 4, 57933839, []), (56, 48, 5, 0, 0, [])],
  [(6, 51, 0, 0, 0, []), (33, 52, 0, 0, 0, []), (60, 53, 1, 3, 57802761, []), (1, 56, 0, 0, 1, []), (11, 57, 0, 0, 0, []), (62, 58, 1, 3, 57802761, []), (57, 61, 5, 0, 0, [])],
  [(4, 61, 2, 0, 0, []), (95, 62, 0, 0, 0, [])]]
/-! 135: EngraversHouse$Contract.readNumber:()I -/
set_option maxRecDepth 100000 in
noncomputable def zb135 : List (List zMI) := [
  [(6, 0, 0, 0, 0, []), (81, 1, 4, 0, 121, []), (92, 3, 134, 2, 3, [(65077326, 1)]), (7, 6, 1, 0, 0, []), (1, 7, 0, 0, 1, []), (7, 8, 2, 0, 0, []), (57, 9, 1, 0, 0, [])],
  [(4, 9, 2, 0, 0, []), (1, 10, 0, 0, 3, []), (49, 11, 4, 0, 0, []), (6, 14, 0, 0, 0, []), (60, 15, 1, 4, 57933839, []), (41, 18, 4, 0, 0, []), (6, 21, 0, 0, 0, []), (60, 22, 1, 3, 57802761, []), (6, 25, 0, 0, 0, []), (61, 26, 1, 2, 57737265, []), (72, 29, 0, 0, 0, []), (49, 30, 4, 0, 0, []), (6, 33, 0, 0, 0, []), (61, 34, 1, 2, 57737265, []), (6, 37, 0, 0, 0, []), (60, 38, 1, 3, 57802761, []), (65, 41, 0, 0, 0, []), (1, 42, 0, 0, 48, []), (12, 44, 0, 0, 0, []), (7, 45, 3, 0, 0, []), (4, 46, 3, 0, 0, []), (42, 47, 2, 0, 0, []), (4, 50, 3, 0, 0, []), (1, 51, 0, 0, 9, []), (51, 53, 3, 0, 0, []), (57, 56, 2, 0, 0, [])],
  [(4, 56, 1, 0, 0, []), (95, 57, 0, 0, 0, [])],
  [(4, 58, 1, 0, 0, []), (1, 59, 0, 0, 10, []), (13, 61, 0, 0, 0, []), (4, 62, 3, 0, 0, []), (11, 63, 0, 0, 0, []), (7, 64, 1, 0, 0, []), (6, 65, 0, 0, 0, []), (33, 66, 0, 0, 0, []), (60, 67, 1, 3, 57802761, []), (1, 70, 0, 0, 1, []), (11, 71, 0, 0, 0, []), (62, 72, 1, 3, 57802761, []), (10, 75, 2, 0, 1, []), (56, 78, 1, 0, 0, [])],
  [(4, 81, 1, 0, 0, []), (95, 82, 0, 0, 0, [])]]
/-! 136: EngraversHouse$Contract.readTerm:()V -/
set_option maxRecDepth 100000 in
noncomputable def zb136 : List (List zMI) := [
  [(6, 0, 0, 0, 0, []), (81, 1, 0, 0, 100, []), (92, 3, 133, 2, 3, [(61603926, 1)]), (6, 6, 0, 0, 0, []), (81, 7, 1, 0, 102, []), (92, 9, 134, 2, 3, [(65077326, 1)]), (41, 12, 1, 0, 0, []), (1, 15, 0, 0, 1, []), (56, 16, 2, 0, 0, [])],
  [(1, 19, 0, 0, 0, []), (57, 20, 2, 0, 0, [])],
  [(7, 20, 1, 0, 0, []), (6, 21, 0, 0, 0, []), (4, 22, 1, 0, 0, []), (40, 23, 3, 0, 0, []), (81, 26, 2, 0, 104, []), (56, 28, 4, 0, 0, [])],
  [(81, 31, 3, 0, 106, []), (57, 33, 4, 0, 0, [])],
  [(92, 33, 133, 2, 3, [(61603926, 1)]), (6, 36, 0, 0, 0, []), (92, 37, 135, 1, 4, [(69075034, 1)]), (7, 40, 2, 0, 0, []), (4, 41, 1, 0, 0, []), (40, 42, 5, 0, 0, []), (6, 45, 0, 0, 0, []), (4, 46, 2, 0, 0, []), (62, 47, 1, 5, 57999379, []), (56, 50, 6, 0, 0, [])],
  [(6, 53, 0, 0, 0, []), (4, 54, 2, 0, 0, []), (62, 55, 1, 6, 58130454, []), (57, 58, 6, 0, 0, [])],
  [(101, 58, 0, 0, 0, [])]]
/-! 137: EngraversHouse$Contract.nested:(ZI)Z -/
set_option maxRecDepth 100000 in
noncomputable def zb137 : List (List zMI) := [
  [(4, 0, 1, 0, 0, []), (40, 1, 3, 0, 0, []), (6, 4, 0, 0, 0, []), (4, 5, 2, 0, 0, []), (92, 6, 138, 2, 6, [(69927035, 1)]), (41, 9, 1, 0, 0, []), (1, 12, 0, 0, 1, []), (56, 13, 2, 0, 0, [])],
  [(1, 16, 0, 0, 0, []), (57, 17, 2, 0, 0, [])],
  [(96, 17, 0, 0, 0, [])],
  [(6, 18, 0, 0, 0, []), (4, 19, 2, 0, 0, []), (92, 20, 139, 2, 6, [(69664864, 1)]), (7, 23, 3, 0, 0, []), (6, 24, 0, 0, 0, []), (81, 25, 10, 0, 134, []), (92, 27, 134, 2, 3, [(65077326, 1)]), (35, 30, 0, 0, 0, []), (4, 31, 3, 0, 0, []), (96, 32, 0, 0, 0, [])]]
/-! 138: EngraversHouse$Contract.single:(I)Z -/
set_option maxRecDepth 100000 in
noncomputable def zb138 : List (List zMI) := [
  [(4, 0, 1, 0, 0, []), (1, 1, 0, 0, 5, []), (48, 2, 2, 0, 0, []), (6, 5, 0, 0, 0, []), (1, 6, 0, 0, 33, []), (92, 8, 132, 2, 2, [(61014085, 1)]), (41, 11, 1, 0, 0, []), (6, 14, 0, 0, 0, []), (1, 15, 0, 0, 40, []), (92, 17, 132, 2, 2, [(61014085, 1)]), (40, 20, 2, 0, 0, []), (57, 23, 1, 0, 0, [])],
  [(6, 23, 0, 0, 0, []), (1, 24, 0, 0, 1, []), (63, 25, 1, 4, 57933839, []), (57, 28, 2, 0, 0, [])],
  [(6, 28, 0, 0, 0, []), (81, 29, 9, 0, 126, []), (92, 31, 134, 2, 3, [(65077326, 1)]), (7, 34, 2, 0, 0, []), (4, 35, 2, 0, 0, []), (41, 36, 3, 0, 0, []), (6, 39, 0, 0, 0, []), (60, 40, 1, 8, 58392604, []), (96, 43, 0, 0, 0, [])],
  [(4, 44, 2, 0, 0, []), (1, 45, 0, 0, 2, []), (51, 46, 6, 0, 0, []), (6, 49, 0, 0, 0, []), (4, 50, 2, 0, 0, []), (1, 51, 0, 0, 3, []), (47, 52, 4, 0, 0, []), (1, 55, 0, 0, 1, []), (56, 56, 5, 0, 0, [])],
  [(1, 59, 0, 0, 0, []), (57, 60, 5, 0, 0, [])],
  [(4, 60, 1, 0, 0, []), (1, 61, 0, 0, 1, []), (11, 62, 0, 0, 0, []), (92, 63, 137, 3, 4, [(70254720, 1)]), (96, 66, 0, 0, 0, [])],
  [(6, 67, 0, 0, 0, []), (81, 68, 11, 0, 132, []), (92, 70, 134, 2, 3, [(65077326, 1)]), (41, 73, 7, 0, 0, []), (1, 76, 0, 0, 1, []), (56, 77, 8, 0, 0, [])],
  [(1, 80, 0, 0, 0, []), (57, 81, 8, 0, 0, [])],
  [(7, 81, 3, 0, 0, []), (6, 82, 0, 0, 0, []), (92, 83, 135, 1, 4, [(69075034, 1)]), (7, 86, 4, 0, 0, []), (4, 88, 2, 0, 0, []), (1, 89, 0, 0, 1, []), (47, 90, 9, 0, 0, []), (6, 93, 0, 0, 0, []), (60, 94, 1, 9, 58458143, []), (56, 97, 10, 0, 0, [])],
  [(6, 100, 0, 0, 0, []), (60, 101, 1, 10, 58523682, []), (57, 104, 10, 0, 0, [])],
  [(7, 104, 5, 0, 0, []), (4, 106, 3, 0, 0, []), (40, 107, 12, 0, 0, []), (4, 110, 5, 0, 0, []), (4, 112, 4, 0, 0, []), (49, 114, 11, 0, 0, []), (1, 117, 0, 0, 1, []), (56, 118, 14, 0, 0, [])],
  [(1, 121, 0, 0, 0, []), (56, 122, 14, 0, 0, [])],
  [(4, 125, 5, 0, 0, []), (4, 127, 4, 0, 0, []), (51, 129, 13, 0, 0, []), (1, 132, 0, 0, 1, []), (56, 133, 14, 0, 0, [])],
  [(1, 136, 0, 0, 0, []), (57, 137, 14, 0, 0, [])],
  [(96, 137, 0, 0, 0, [])]]
/-! 139: EngraversHouse$Contract.condition:(I)Z -/
set_option maxRecDepth 100000 in
noncomputable def zb139 : List (List zMI) := [
  [(1, 0, 0, 0, 0, []), (7, 1, 2, 0, 0, []), (1, 2, 0, 0, 1, []), (7, 3, 3, 0, 0, []), (1, 4, 0, 0, 0, []), (7, 5, 4, 0, 0, []), (57, 7, 1, 0, 0, [])],
  [(4, 7, 4, 0, 0, []), (1, 9, 0, 0, 120, []), (49, 11, 8, 0, 0, []), (6, 14, 0, 0, 0, []), (4, 15, 1, 0, 0, []), (92, 16, 138, 2, 6, [(69927035, 1)]), (7, 19, 5, 0, 0, []), (4, 21, 3, 0, 0, []), (40, 22, 2, 0, 0, []), (4, 25, 5, 0, 0, []), (40, 27, 2, 0, 0, []), (1, 30, 0, 0, 1, []), (56, 31, 3, 0, 0, [])],
  [(1, 34, 0, 0, 0, []), (57, 35, 3, 0, 0, [])],
  [(7, 35, 3, 0, 0, []), (6, 36, 0, 0, 0, []), (1, 37, 0, 0, 38, []), (92, 39, 132, 2, 2, [(61014085, 1)]), (41, 42, 7, 0, 0, []), (4, 45, 2, 0, 0, []), (41, 46, 4, 0, 0, []), (4, 49, 3, 0, 0, []), (40, 50, 5, 0, 0, []), (57, 53, 4, 0, 0, [])],
  [(1, 53, 0, 0, 1, []), (56, 54, 6, 0, 0, [])],
  [(1, 57, 0, 0, 0, []), (57, 58, 6, 0, 0, [])],
  [(7, 58, 2, 0, 0, []), (1, 59, 0, 0, 1, []), (7, 60, 3, 0, 0, []), (6, 61, 0, 0, 0, []), (1, 62, 0, 0, 124, []), (92, 64, 132, 2, 2, [(61014085, 1)]), (41, 67, 7, 0, 0, []), (4, 70, 2, 0, 0, []), (96, 71, 0, 0, 0, [])],
  [(6, 72, 0, 0, 0, []), (33, 73, 0, 0, 0, []), (60, 74, 1, 3, 57802761, []), (1, 77, 0, 0, 1, []), (11, 78, 0, 0, 0, []), (62, 79, 1, 3, 57802761, []), (10, 82, 4, 0, 1, []), (56, 85, 1, 0, 0, [])],
  [(4, 88, 2, 0, 0, []), (96, 89, 0, 0, 0, [])]]
/-! 140: EngraversHouse$Contract.readClause:(II)V -/
set_option maxRecDepth 100000 in
noncomputable def zb140 : List (List zMI) := [
  [(6, 0, 0, 0, 0, []), (1, 1, 0, 0, 108, []), (92, 3, 132, 2, 2, [(61014085, 1)]), (40, 6, 1, 0, 0, []), (6, 9, 0, 0, 0, []), (92, 10, 136, 1, 3, [(61276233, 1)]), (101, 13, 0, 0, 0, [])],
  [(6, 14, 0, 0, 0, []), (81, 15, 5, 0, 76, []), (92, 17, 134, 2, 3, [(65077326, 1)]), (7, 20, 3, 0, 0, []), (6, 21, 0, 0, 0, []), (81, 22, 6, 0, 82, []), (92, 24, 134, 2, 3, [(65077326, 1)]), (7, 27, 4, 0, 0, []), (6, 29, 0, 0, 0, []), (81, 30, 7, 0, 84, []), (92, 32, 133, 2, 3, [(61603926, 1)]), (6, 35, 0, 0, 0, []), (92, 36, 135, 1, 4, [(69075034, 1)]), (7, 39, 5, 0, 0, []), (1, 41, 0, 0, 1, []), (7, 42, 6, 0, 0, []), (6, 44, 0, 0, 0, []), (1, 45, 0, 0, 32, []), (92, 47, 132, 2, 2, [(61014085, 1)]), (40, 50, 2, 0, 0, []), (6, 53, 0, 0, 0, []), (81, 54, 8, 0, 94, []), (92, 56, 133, 2, 3, [(61603926, 1)]), (6, 59, 0, 0, 0, []), (1, 60, 0, 0, 0, []), (92, 61, 139, 2, 6, [(69664864, 1)]), (7, 64, 6, 0, 0, []), (57, 66, 2, 0, 0, [])],
  [(6, 66, 0, 0, 0, []), (33, 67, 0, 0, 0, []), (60, 68, 1, 7, 58261529, []), (1, 71, 0, 0, 1, []), (11, 72, 0, 0, 0, []), (62, 73, 1, 7, 58261529, []), (4, 76, 3, 0, 0, []), (4, 77, 1, 0, 0, []), (47, 78, 3, 0, 0, []), (4, 81, 4, 0, 0, []), (4, 83, 2, 0, 0, []), (47, 84, 3, 0, 0, []), (4, 87, 6, 0, 0, []), (40, 89, 3, 0, 0, []), (6, 92, 0, 0, 0, []), (60, 93, 1, 4, 57933839, []), (41, 96, 3, 0, 0, []), (6, 99, 0, 0, 0, []), (33, 100, 0, 0, 0, []), (60, 101, 1, 11, 58589221, []), (4, 104, 5, 0, 0, []), (11, 106, 0, 0, 0, []), (62, 107, 1, 11, 58589221, []), (6, 110, 0, 0, 0, []), (1, 111, 0, 0, 1, []), (63, 112, 1, 12, 58654760, []), (57, 115, 3, 0, 0, [])],
  [(101, 115, 0, 0, 0, [])]]
/-! 141: EngraversHouse$Contract.readAll:(II)Z -/
set_option maxRecDepth 100000 in
noncomputable def zb141 : List (List zMI) := [
  [(6, 0, 0, 0, 0, []), (1, 1, 0, 0, 0, []), (62, 2, 1, 3, 57802761, []), (6, 5, 0, 0, 0, []), (1, 6, 0, 0, 0, []), (63, 7, 1, 4, 57933839, []), (6, 10, 0, 0, 0, []), (1, 11, 0, 0, 0, []), (62, 12, 1, 7, 58261529, []), (6, 15, 0, 0, 0, []), (1, 16, 0, 0, 0, []), (62, 17, 1, 11, 58589221, []), (6, 20, 0, 0, 0, []), (1, 21, 0, 0, 0, []), (63, 22, 1, 12, 58654760, []), (1, 25, 0, 0, 1, []), (7, 26, 3, 0, 0, []), (1, 27, 0, 0, 1, []), (7, 28, 4, 0, 0, []), (57, 30, 1, 0, 0, [])],
  [(4, 30, 4, 0, 0, []), (1, 32, 0, 0, 8, []), (50, 34, 5, 0, 0, []), (4, 37, 3, 0, 0, []), (40, 38, 5, 0, 0, []), (6, 41, 0, 0, 0, []), (4, 42, 1, 0, 0, []), (4, 43, 2, 0, 0, []), (92, 44, 140, 3, 7, [(60751937, 1)]), (4, 47, 4, 0, 0, []), (1, 49, 0, 0, 8, []), (49, 51, 2, 0, 0, []), (6, 54, 0, 0, 0, []), (1, 55, 0, 0, 59, []), (92, 57, 132, 2, 2, [(61014085, 1)]), (40, 60, 2, 0, 0, []), (1, 63, 0, 0, 1, []), (56, 64, 3, 0, 0, [])],
  [(1, 67, 0, 0, 0, []), (57, 68, 3, 0, 0, [])],
  [(7, 68, 3, 0, 0, []), (4, 69, 3, 0, 0, []), (40, 70, 4, 0, 0, []), (6, 73, 0, 0, 0, []), (33, 74, 0, 0, 0, []), (60, 75, 1, 3, 57802761, []), (1, 78, 0, 0, 1, []), (11, 79, 0, 0, 0, []), (62, 80, 1, 3, 57802761, []), (57, 83, 4, 0, 0, [])],
  [(10, 83, 4, 0, 1, []), (56, 86, 1, 0, 0, [])],
  [(6, 89, 0, 0, 0, []), (60, 90, 1, 4, 57933839, []), (41, 93, 6, 0, 0, []), (6, 96, 0, 0, 0, []), (60, 97, 1, 3, 57802761, []), (6, 100, 0, 0, 0, []), (61, 101, 1, 2, 57737265, []), (72, 104, 0, 0, 0, []), (47, 105, 6, 0, 0, []), (1, 108, 0, 0, 1, []), (56, 109, 7, 0, 0, [])],
  [(1, 112, 0, 0, 0, []), (57, 113, 7, 0, 0, [])],
  [(96, 113, 0, 0, 0, [])]]
/-! 142: EngraversHouse.contract:(II)I -/
set_option maxRecDepth 100000 in
noncomputable def zb142 : List (List zMI) := [
  [(4, 0, 1, 0, 0, []), (1, 1, 0, 0, 0, []), (1, 2, 0, 0, 3, []), (90, 3, 20, 3, 3, [(13828198, 10)]), (41, 6, 1, 0, 0, []), (1, 9, 0, 0, (-1), []), (95, 10, 0, 0, 0, [])],
  [(4, 11, 2, 0, 0, []), (90, 12, 130, 1, 1, [(56033615, 10)]), (41, 15, 2, 0, 0, []), (1, 18, 0, 0, (-2), []), (95, 20, 0, 0, 0, [])],
  [(6, 21, 0, 0, 0, []), (60, 22, 10, 12, 10354750, []), (1, 25, 0, 0, 12, []), (48, 27, 3, 0, 0, []), (1, 30, 0, 0, (-4), []), (95, 32, 0, 0, 0, [])],
  [(73, 33, 1, 13, 4063288, []), (33, 36, 0, 0, 0, []), (4, 37, 1, 0, 0, []), (4, 38, 2, 0, 0, []), (6, 39, 0, 0, 0, []), (61, 40, 10, 9, 10158130, []), (6, 43, 0, 0, 0, []), (60, 44, 10, 10, 10223669, []), (90, 47, 3, 2, 3, [(56295762, 99)]), (91, 50, 131, 4, 4, [(57213270, 1)]), (9, 53, 3, 0, 0, []), (6, 54, 0, 0, 0, []), (1, 55, 0, 0, 0, []), (62, 56, 10, 10, 10223669, []), (6, 59, 3, 0, 0, []), (1, 60, 0, 0, (-1), []), (1, 61, 0, 0, (-1), []), (92, 62, 141, 3, 5, [(60490073, 1)]), (41, 65, 4, 0, 0, []), (1, 68, 0, 0, (-10), []), (6, 70, 3, 0, 0, []), (60, 71, 1, 3, 57868637, []), (12, 74, 0, 0, 0, []), (95, 75, 0, 0, 0, [])],
  [(6, 76, 0, 0, 0, []), (61, 77, 10, 11, 10289210, []), (6, 80, 0, 0, 0, []), (60, 81, 10, 12, 10354750, []), (6, 84, 3, 0, 0, []), (71, 85, 0, 0, 0, []), (6, 86, 0, 0, 0, []), (33, 87, 0, 0, 0, []), (60, 88, 10, 12, 10354750, []), (1, 91, 0, 0, 1, []), (11, 92, 0, 0, 0, []), (62, 93, 10, 12, 10354750, []), (6, 96, 0, 0, 0, []), (60, 97, 10, 12, 10354750, []), (1, 100, 0, 0, 1, []), (12, 101, 0, 0, 0, []), (95, 102, 0, 0, 0, [])]]
/-! 143: EngraversHouse.contractAt:(I)LEngraversHouse$Contract; -/
set_option maxRecDepth 100000 in
noncomputable def zb143 : List (List zMI) := [
  [(1, 0, 0, 0, 0, []), (4, 1, 1, 0, 0, []), (50, 2, 1, 0, 0, []), (4, 5, 1, 0, 0, []), (6, 6, 0, 0, 0, []), (60, 7, 10, 12, 10354750, []), (49, 10, 1, 0, 0, []), (4, 13, 1, 0, 0, []), (1, 14, 0, 0, 12, []), (49, 16, 1, 0, 0, []), (6, 19, 0, 0, 0, []), (61, 20, 10, 11, 10289210, []), (4, 23, 1, 0, 0, []), (67, 24, 0, 0, 0, []), (56, 25, 2, 0, 0, [])],
  [(3, 28, 0, 0, 0, []), (57, 29, 2, 0, 0, [])],
  [(100, 29, 0, 0, 0, [])]]
/-! 144: EngraversHouse.contractNumber:(II)I -/
set_option maxRecDepth 100000 in
noncomputable def zb144 : List (List zMI) := [
  [(1, 0, 0, 0, (-1), []), (7, 1, 3, 0, 0, []), (1, 2, 0, 0, (-1), []), (7, 3, 4, 0, 0, []), (1, 5, 0, 0, 0, []), (7, 6, 5, 0, 0, []), (57, 8, 1, 0, 0, [])],
  [(4, 8, 5, 0, 0, []), (6, 10, 0, 0, 0, []), (60, 11, 10, 12, 10354750, []), (49, 14, 3, 0, 0, []), (6, 17, 0, 0, 0, []), (4, 18, 5, 0, 0, []), (92, 20, 143, 2, 2, [(71237987, 10)]), (9, 23, 6, 0, 0, []), (6, 25, 6, 0, 0, []), (54, 27, 2, 0, 0, []), (6, 30, 6, 0, 0, []), (60, 32, 1, 0, 57541125, []), (4, 35, 1, 0, 0, []), (47, 36, 2, 0, 0, []), (6, 39, 6, 0, 0, []), (60, 41, 1, 1, 57672200, []), (4, 44, 2, 0, 0, []), (50, 45, 2, 0, 0, []), (6, 48, 6, 0, 0, []), (60, 50, 1, 1, 57672200, []), (4, 53, 4, 0, 0, []), (48, 55, 2, 0, 0, []), (4, 58, 5, 0, 0, []), (7, 60, 3, 0, 0, []), (6, 61, 6, 0, 0, []), (60, 63, 1, 1, 57672200, []), (7, 66, 4, 0, 0, []), (57, 68, 2, 0, 0, [])],
  [(10, 68, 5, 0, 1, []), (56, 71, 1, 0, 0, [])],
  [(4, 74, 3, 0, 0, []), (95, 75, 0, 0, 0, [])]]
/-! 145: EngraversHouse.lifeBy:(LEngraversHouse$Contract;)I -/
set_option maxRecDepth 100000 in
noncomputable def zb145 : List (List zMI) := [
  [(6, 0, 0, 0, 0, []), (55, 1, 1, 0, 0, []), (1, 4, 0, 0, 10, []), (56, 6, 2, 0, 0, [])],
  [(6, 9, 0, 0, 0, []), (60, 10, 1, 5, 58065419, []), (57, 13, 2, 0, 0, [])],
  [(95, 13, 0, 0, 0, [])]]
/-! 146: EngraversHouse.lawful:(III)I -/
set_option maxRecDepth 100000 in
noncomputable def zb146 : List (List zMI) := [
  [(4, 0, 1, 0, 0, []), (1, 1, 0, 0, 0, []), (1, 2, 0, 0, 3, []), (90, 3, 20, 3, 3, [(13828198, 10)]), (40, 6, 1, 0, 0, []), (4, 9, 2, 0, 0, []), (90, 10, 130, 1, 1, [(56033615, 10)]), (41, 13, 2, 0, 0, []), (57, 16, 1, 0, 0, [])],
  [(1, 16, 0, 0, (-5), []), (95, 18, 0, 0, 0, [])],
  [(6, 19, 0, 0, 0, []), (4, 20, 1, 0, 0, []), (4, 21, 2, 0, 0, []), (92, 22, 144, 3, 7, [(70975840, 10)]), (7, 25, 4, 0, 0, []), (6, 27, 0, 0, 0, []), (4, 28, 4, 0, 0, []), (92, 30, 143, 2, 2, [(71237987, 10)]), (9, 33, 5, 0, 0, []), (4, 35, 3, 0, 0, []), (58, 36, 11, 0, 0, [(0, 3), (1, 4), (2, 5), (3, 8)])],
  [(4, 68, 4, 0, 0, []), (95, 70, 0, 0, 0, [])],
  [(6, 71, 5, 0, 0, []), (90, 73, 145, 1, 1, [(71500135, 10)]), (95, 76, 0, 0, 0, [])],
  [(6, 77, 5, 0, 0, []), (55, 79, 6, 0, 0, []), (1, 82, 0, 0, 0, []), (56, 83, 7, 0, 0, [])],
  [(6, 86, 5, 0, 0, []), (60, 88, 1, 6, 58196331, []), (57, 91, 7, 0, 0, [])],
  [(95, 91, 0, 0, 0, [])],
  [(6, 92, 5, 0, 0, []), (55, 94, 9, 0, 0, []), (1, 97, 0, 0, 0, []), (56, 98, 10, 0, 0, [])],
  [(6, 101, 5, 0, 0, []), (60, 103, 1, 7, 58327406, []), (57, 106, 10, 0, 0, [])],
  [(95, 106, 0, 0, 0, [])],
  [(1, 107, 0, 0, (-5), []), (95, 109, 0, 0, 0, [])]]
/-! 147: EngraversHouse.daysSinceDeath:(II)I -/
set_option maxRecDepth 100000 in
noncomputable def zb147 : List (List zMI) := [
  [(6, 0, 0, 0, 0, []), (4, 1, 1, 0, 0, []), (92, 2, 23, 2, 2, [(14549098, 10)]), (40, 5, 1, 0, 0, []), (6, 8, 0, 0, 0, []), (61, 9, 10, 1, 9633807, []), (4, 12, 1, 0, 0, []), (65, 13, 0, 0, 0, []), (1, 14, 0, 0, (-1), []), (46, 15, 1, 0, 0, []), (4, 18, 2, 0, 0, []), (6, 19, 0, 0, 0, []), (61, 20, 10, 1, 9633807, []), (4, 23, 1, 0, 0, []), (65, 24, 0, 0, 0, []), (49, 25, 2, 0, 0, []), (57, 28, 1, 0, 0, [])],
  [(1, 28, 0, 0, (-1), []), (95, 29, 0, 0, 0, [])],
  [(4, 30, 2, 0, 0, []), (6, 31, 0, 0, 0, []), (61, 32, 10, 1, 9633807, []), (4, 35, 1, 0, 0, []), (65, 36, 0, 0, 0, []), (12, 37, 0, 0, 0, []), (95, 38, 0, 0, 0, [])]]
/-! 148: EngraversHouse.hasRight:(ILEngraversHouse$Contract;I)Z -/
set_option maxRecDepth 100000 in
noncomputable def zb148 : List (List zMI) := [
  [(6, 0, 0, 0, 0, []), (4, 1, 1, 0, 0, []), (4, 2, 3, 0, 0, []), (92, 3, 147, 3, 3, [(72221198, 10)]), (7, 6, 4, 0, 0, []), (4, 8, 4, 0, 0, []), (1, 10, 0, 0, (-1), []), (46, 11, 1, 0, 0, []), (4, 14, 4, 0, 0, []), (6, 16, 2, 0, 0, []), (90, 17, 145, 1, 1, [(71500135, 10)]), (1, 20, 0, 0, 365, []), (13, 23, 0, 0, 0, []), (49, 24, 2, 0, 0, []), (57, 27, 1, 0, 0, [])],
  [(1, 27, 0, 0, 1, []), (56, 28, 3, 0, 0, [])],
  [(1, 31, 0, 0, 0, []), (57, 32, 3, 0, 0, [])],
  [(96, 32, 0, 0, 0, [])]]
/-! 149: EngraversHouse.right:(III)I -/
set_option maxRecDepth 100000 in
noncomputable def zb149 : List (List zMI) := [
  [(6, 0, 0, 0, 0, []), (4, 1, 1, 0, 0, []), (92, 2, 23, 2, 2, [(14549098, 10)]), (40, 5, 1, 0, 0, []), (4, 8, 2, 0, 0, []), (1, 9, 0, 0, 0, []), (1, 10, 0, 0, 3, []), (90, 11, 20, 3, 3, [(13828198, 10)]), (41, 14, 2, 0, 0, []), (57, 17, 1, 0, 0, [])],
  [(1, 17, 0, 0, (-1), []), (95, 18, 0, 0, 0, [])],
  [(4, 19, 3, 0, 0, []), (90, 20, 130, 1, 1, [(56033615, 10)]), (41, 23, 3, 0, 0, []), (1, 26, 0, 0, (-2), []), (95, 28, 0, 0, 0, [])],
  [(6, 29, 0, 0, 0, []), (4, 30, 1, 0, 0, []), (6, 31, 0, 0, 0, []), (6, 32, 0, 0, 0, []), (4, 33, 2, 0, 0, []), (4, 34, 3, 0, 0, []), (92, 35, 144, 3, 7, [(70975840, 10)]), (92, 38, 143, 2, 2, [(71237987, 10)]), (4, 41, 3, 0, 0, []), (92, 42, 148, 4, 5, [(71958897, 10)]), (40, 45, 4, 0, 0, []), (1, 48, 0, 0, 1, []), (56, 49, 5, 0, 0, [])],
  [(1, 52, 0, 0, 0, []), (57, 53, 5, 0, 0, [])],
  [(95, 53, 0, 0, 0, [])]]
/-! 150: EngraversHouse.wholeYearsSince:(II)I -/
set_option maxRecDepth 100000 in
noncomputable def zb150 : List (List zMI) := [
  [(1, 0, 0, 0, 0, []), (6, 1, 0, 0, 0, []), (4, 2, 1, 0, 0, []), (4, 3, 2, 0, 0, []), (92, 4, 147, 3, 3, [(72221198, 10)]), (36, 7, 0, 0, 73073169, []), (1, 10, 0, 0, 365, []), (14, 13, 0, 0, 0, []), (95, 14, 0, 0, 0, [])]]
/-! 151: EngraversHouse$Contract.asked:(ZII)V -/
set_option maxRecDepth 100000 in
noncomputable def zb151 : List (List zMI) := [
  [(6, 0, 0, 0, 0, []), (4, 1, 1, 0, 0, []), (63, 2, 1, 8, 58392604, []), (6, 5, 0, 0, 0, []), (4, 6, 2, 0, 0, []), (62, 7, 1, 9, 58458143, []), (6, 10, 0, 0, 0, []), (4, 11, 3, 0, 0, []), (62, 12, 1, 10, 58523682, []), (101, 15, 0, 0, 0, [])]]
/-! 152: EngraversHouse$Contract.shareOf:(III)I -/
set_option maxRecDepth 100000 in
noncomputable def zb152 : List (List zMI) := [
  [(6, 0, 0, 0, 0, []), (4, 1, 1, 0, 0, []), (4, 2, 2, 0, 0, []), (92, 3, 141, 3, 5, [(73662517, 1)]), (35, 6, 0, 0, 0, []), (4, 7, 3, 0, 0, []), (23, 8, 0, 0, 0, []), (6, 9, 0, 0, 0, []), (60, 10, 1, 11, 58589221, []), (23, 13, 0, 0, 0, []), (29, 14, 0, 0, 0, []), (2, 15, 0, 73728057, 1000, []), (30, 18, 0, 0, 0, []), (24, 19, 0, 0, 0, []), (7, 20, 4, 0, 0, []), (6, 22, 0, 0, 0, []), (60, 23, 1, 12, 58654760, []), (40, 26, 1, 0, 0, []), (4, 29, 4, 0, 0, []), (6, 31, 0, 0, 0, []), (60, 32, 1, 6, 58130454, []), (36, 35, 0, 0, 73793595, []), (56, 38, 2, 0, 0, [])],
  [(1, 41, 0, 0, 0, []), (57, 42, 2, 0, 0, [])],
  [(95, 42, 0, 0, 0, [])]]
/-! 153: EngraversHouse.paid:(IIIIIII)I -/
set_option maxRecDepth 100000 in
noncomputable def zb153 : List (List zMI) := [
  [(6, 0, 0, 0, 0, []), (4, 1, 1, 0, 0, []), (92, 2, 30, 2, 2, [(19267706, 10)]), (54, 5, 1, 0, 0, []), (4, 8, 2, 0, 0, []), (1, 9, 0, 0, 0, []), (1, 10, 0, 0, 3, []), (90, 11, 20, 3, 3, [(13828198, 10)]), (40, 14, 1, 0, 0, []), (4, 17, 7, 0, 0, []), (1, 19, 0, 0, 0, []), (1, 20, 0, 0, 2, []), (90, 21, 20, 3, 3, [(13828198, 10)]), (41, 24, 2, 0, 0, []), (57, 27, 1, 0, 0, [])],
  [(1, 27, 0, 0, (-1), []), (95, 28, 0, 0, 0, [])],
  [(6, 29, 0, 0, 0, []), (4, 30, 1, 0, 0, []), (92, 31, 31, 2, 4, [(19529854, 10)]), (9, 34, 8, 0, 0, []), (6, 36, 8, 0, 0, []), (55, 38, 3, 0, 0, []), (1, 41, 0, 0, (-12), []), (95, 43, 0, 0, 0, [])],
  [(4, 44, 3, 0, 0, []), (90, 45, 130, 1, 1, [(56033615, 10)]), (40, 48, 4, 0, 0, []), (4, 51, 4, 0, 0, []), (1, 53, 0, 0, 0, []), (1, 54, 0, 0, 2, []), (90, 55, 20, 3, 3, [(13828198, 10)]), (40, 58, 4, 0, 0, []), (4, 61, 5, 0, 0, []), (1, 63, 0, 0, 0, []), (1, 64, 0, 72745333, 100000, []), (90, 67, 20, 3, 3, [(13828198, 10)]), (40, 70, 4, 0, 0, []), (4, 73, 6, 0, 0, []), (1, 75, 0, 0, 0, []), (1, 76, 0, 0, 999, []), (90, 79, 20, 3, 3, [(13828198, 10)]), (41, 82, 5, 0, 0, []), (57, 85, 4, 0, 0, [])],
  [(1, 85, 0, 0, (-2), []), (95, 87, 0, 0, 0, [])],
  [(6, 88, 0, 0, 0, []), (6, 89, 0, 0, 0, []), (4, 90, 2, 0, 0, []), (4, 91, 3, 0, 0, []), (92, 92, 144, 3, 7, [(70975840, 10)]), (92, 95, 143, 2, 2, [(71237987, 10)]), (9, 98, 9, 0, 0, []), (6, 100, 8, 0, 0, []), (92, 102, 32, 1, 1, [(19792002, 8)]), (60, 105, 8, 3, 16122230, []), (7, 108, 10, 0, 0, []), (6, 110, 8, 0, 0, []), (60, 112, 8, 0, 16580985, []), (1, 115, 0, 0, 6, []), (47, 117, 6, 0, 0, []), (1, 120, 0, 0, 1, []), (56, 121, 7, 0, 0, [])],
  [(1, 124, 0, 0, 0, []), (57, 125, 7, 0, 0, [])],
  [(7, 125, 11, 0, 0, []), (6, 127, 9, 0, 0, []), (54, 129, 8, 0, 0, []), (6, 132, 9, 0, 0, []), (4, 134, 11, 0, 0, []), (6, 136, 0, 0, 0, []), (4, 137, 10, 0, 0, []), (4, 139, 3, 0, 0, []), (92, 140, 150, 3, 3, [(72810874, 10)]), (4, 143, 6, 0, 0, []), (92, 145, 151, 4, 4, [(73138557, 1)]), (57, 148, 8, 0, 0, [])],
  [(6, 148, 9, 0, 0, []), (54, 150, 9, 0, 0, []), (6, 153, 0, 0, 0, []), (4, 154, 10, 0, 0, []), (6, 156, 9, 0, 0, []), (4, 158, 3, 0, 0, []), (92, 159, 148, 4, 5, [(71958897, 10)]), (40, 162, 9, 0, 0, []), (6, 165, 9, 0, 0, []), (1, 167, 0, 0, 0, []), (4, 168, 4, 0, 0, []), (4, 170, 5, 0, 0, []), (92, 172, 152, 4, 5, [(73400705, 1)]), (56, 175, 10, 0, 0, [])],
  [(1, 178, 0, 0, 0, []), (57, 179, 10, 0, 0, [])],
  [(7, 179, 12, 0, 0, []), (4, 181, 12, 0, 0, []), (4, 183, 5, 0, 0, []), (37, 185, 0, 0, 73859460, []), (7, 188, 12, 0, 0, []), (6, 190, 9, 0, 0, []), (54, 192, 11, 0, 0, []), (4, 195, 11, 0, 0, []), (40, 197, 11, 0, 0, []), (6, 200, 0, 0, 0, []), (6, 201, 8, 0, 0, []), (60, 203, 8, 3, 16122230, []), (6, 206, 9, 0, 0, []), (4, 208, 3, 0, 0, []), (92, 209, 148, 4, 5, [(71958897, 10)]), (40, 212, 11, 0, 0, []), (6, 215, 9, 0, 0, []), (1, 217, 0, 0, 1, []), (4, 218, 4, 0, 0, []), (4, 220, 5, 0, 0, []), (92, 222, 152, 4, 5, [(73400705, 1)]), (56, 225, 12, 0, 0, [])],
  [(1, 228, 0, 0, 0, []), (57, 229, 12, 0, 0, [])],
  [(7, 229, 13, 0, 0, []), (4, 231, 13, 0, 0, []), (4, 233, 5, 0, 0, []), (4, 235, 12, 0, 0, []), (12, 237, 0, 0, 0, []), (37, 238, 0, 0, 73859460, []), (7, 241, 13, 0, 0, []), (4, 243, 7, 0, 0, []), (1, 245, 0, 0, 2, []), (47, 246, 13, 0, 0, []), (4, 249, 5, 0, 0, []), (4, 251, 12, 0, 0, []), (12, 253, 0, 0, 0, []), (4, 254, 13, 0, 0, []), (12, 256, 0, 0, 0, []), (95, 257, 0, 0, 0, [])],
  [(4, 258, 7, 0, 0, []), (41, 260, 14, 0, 0, []), (4, 263, 12, 0, 0, []), (56, 265, 15, 0, 0, [])],
  [(4, 268, 13, 0, 0, []), (57, 270, 15, 0, 0, [])],
  [(95, 270, 0, 0, 0, [])]]
/-! 154: EngraversHouse.set:(I)I -/
set_option maxRecDepth 100000 in
noncomputable def zb154 : List (List zMI) := [
  [(6, 0, 0, 0, 0, []), (4, 1, 1, 0, 0, []), (92, 2, 79, 2, 4, [(34537665, 10)]), (9, 5, 2, 0, 0, []), (6, 6, 2, 0, 0, []), (55, 7, 1, 0, 0, []), (6, 10, 0, 0, 0, []), (4, 11, 1, 0, 0, []), (92, 12, 34, 2, 2, [(20316294, 10)]), (95, 15, 0, 0, 0, [])],
  [(6, 16, 0, 0, 0, []), (60, 17, 10, 4, 9830428, []), (1, 20, 0, 0, 60, []), (48, 22, 2, 0, 0, []), (1, 25, 0, 0, (-4), []), (95, 27, 0, 0, 0, [])],
  [(6, 28, 0, 0, 0, []), (73, 29, 5, 7, 32047292, []), (33, 32, 0, 0, 0, []), (1, 33, 0, 0, 5, []), (6, 34, 0, 0, 0, []), (60, 35, 10, 4, 9830428, []), (6, 38, 2, 0, 0, []), (61, 39, 5, 2, 32702700, []), (6, 42, 2, 0, 0, []), (60, 43, 5, 3, 32965001, []), (6, 46, 2, 0, 0, []), (60, 47, 5, 4, 33161611, []), (91, 50, 77, 6, 6, [(32178366, 5)]), (92, 53, 28, 2, 2, [(18743414, 10)]), (95, 56, 0, 0, 0, [])]]
/-! 155: EngraversHouse.isTown:(I)Z -/
set_option maxRecDepth 100000 in
noncomputable def zb155 : List (List zMI) := [
  [(4, 0, 0, 0, 0, []), (1, 1, 0, 0, 0, []), (1, 2, 0, 0, 5, []), (90, 3, 20, 3, 3, [(13828198, 10)]), (96, 6, 0, 0, 0, [])]]
/-! 156: EngraversHouse.setAt:(I)LEngraversHouse$Part; -/
set_option maxRecDepth 100000 in
noncomputable def zb156 : List (List zMI) := [
  [(6, 0, 0, 0, 0, []), (4, 1, 1, 0, 0, []), (92, 2, 79, 2, 4, [(34537665, 10)]), (9, 5, 2, 0, 0, []), (6, 6, 2, 0, 0, []), (54, 7, 1, 0, 0, []), (6, 10, 2, 0, 0, []), (60, 11, 5, 0, 16712177, []), (1, 14, 0, 0, 5, []), (47, 15, 1, 0, 0, []), (6, 18, 2, 0, 0, []), (56, 19, 2, 0, 0, [])],
  [(3, 22, 0, 0, 0, []), (57, 23, 2, 0, 0, [])],
  [(100, 23, 0, 0, 0, [])]]
/-! 157: EngraversHouse.stands:(II)I -/
set_option maxRecDepth 100000 in
noncomputable def zb157 : List (List zMI) := [
  [(6, 0, 0, 0, 0, []), (4, 1, 1, 0, 0, []), (92, 2, 30, 2, 2, [(19267706, 10)]), (54, 5, 1, 0, 0, []), (4, 8, 2, 0, 0, []), (90, 9, 155, 1, 1, [(74449294, 10)]), (41, 12, 2, 0, 0, []), (57, 15, 1, 0, 0, [])],
  [(1, 15, 0, 0, (-1), []), (95, 16, 0, 0, 0, [])],
  [(6, 17, 0, 0, 0, []), (4, 18, 1, 0, 0, []), (92, 19, 156, 2, 3, [(74645905, 10)]), (9, 22, 3, 0, 0, []), (6, 23, 3, 0, 0, []), (55, 24, 3, 0, 0, []), (1, 27, 0, 0, (-12), []), (95, 29, 0, 0, 0, [])],
  [(6, 30, 3, 0, 0, []), (60, 31, 5, 5, 33292692, []), (7, 34, 4, 0, 0, []), (6, 36, 3, 0, 0, []), (4, 37, 2, 0, 0, []), (62, 38, 5, 5, 33292692, []), (4, 41, 4, 0, 0, []), (95, 43, 0, 0, 0, [])]]
/-! 158: EngraversHouse$Tour.wayBetween:(II)I -/
set_option maxRecDepth 100000 in
noncomputable def zb158 : List (List zMI) := [
  [(4, 0, 1, 0, 0, []), (90, 1, 155, 1, 1, [(75694129, 10)]), (40, 4, 1, 0, 0, []), (4, 7, 2, 0, 0, []), (90, 8, 155, 1, 1, [(75694129, 10)]), (40, 11, 1, 0, 0, []), (6, 14, 0, 0, 0, []), (61, 15, 9, 0, 4784137, []), (4, 18, 1, 0, 0, []), (1, 19, 0, 0, 6, []), (13, 21, 0, 0, 0, []), (4, 22, 2, 0, 0, []), (11, 23, 0, 0, 0, []), (65, 24, 0, 0, 0, []), (56, 25, 2, 0, 0, [])],
  [(1, 28, 0, 0, 0, []), (57, 29, 2, 0, 0, [])],
  [(95, 29, 0, 0, 0, [])]]
/-! 159: EngraversHouse$Tour.changeWay:(III)I -/
set_option maxRecDepth 100000 in
noncomputable def zb159 : List (List zMI) := [
  [(6, 0, 0, 0, 0, []), (4, 1, 1, 0, 0, []), (4, 2, 2, 0, 0, []), (92, 3, 158, 3, 3, [(75431989, 9)]), (7, 6, 4, 0, 0, []), (4, 8, 1, 0, 0, []), (90, 9, 155, 1, 1, [(75694129, 10)]), (40, 12, 1, 0, 0, []), (4, 15, 2, 0, 0, []), (90, 16, 155, 1, 1, [(75694129, 10)]), (40, 19, 1, 0, 0, []), (6, 22, 0, 0, 0, []), (61, 23, 9, 0, 4784137, []), (4, 26, 1, 0, 0, []), (1, 27, 0, 0, 6, []), (13, 29, 0, 0, 0, []), (4, 30, 2, 0, 0, []), (11, 31, 0, 0, 0, []), (4, 32, 3, 0, 0, []), (68, 33, 0, 0, 0, []), (6, 34, 0, 0, 0, []), (61, 35, 9, 0, 4784137, []), (4, 38, 2, 0, 0, []), (1, 39, 0, 0, 6, []), (13, 41, 0, 0, 0, []), (4, 42, 1, 0, 0, []), (11, 43, 0, 0, 0, []), (4, 44, 3, 0, 0, []), (68, 45, 0, 0, 0, []), (57, 46, 1, 0, 0, [])],
  [(4, 46, 4, 0, 0, []), (95, 48, 0, 0, 0, [])]]
/-! 160: EngraversHouse.way:(III)I -/
set_option maxRecDepth 100000 in
noncomputable def zb160 : List (List zMI) := [
  [(4, 0, 1, 0, 0, []), (90, 1, 155, 1, 1, [(74449294, 10)]), (40, 4, 1, 0, 0, []), (4, 7, 2, 0, 0, []), (90, 8, 155, 1, 1, [(74449294, 10)]), (41, 11, 2, 0, 0, []), (57, 14, 1, 0, 0, [])],
  [(1, 14, 0, 0, (-1), []), (95, 15, 0, 0, 0, [])],
  [(4, 16, 1, 0, 0, []), (4, 17, 2, 0, 0, []), (46, 18, 3, 0, 0, []), (4, 21, 3, 0, 0, []), (1, 22, 0, 0, 0, []), (1, 23, 0, 0, 99, []), (90, 25, 20, 3, 3, [(13828198, 10)]), (41, 28, 4, 0, 0, []), (57, 31, 3, 0, 0, [])],
  [(1, 31, 0, 0, (-2), []), (95, 33, 0, 0, 0, [])],
  [(6, 34, 0, 0, 0, []), (61, 35, 10, 13, 10420292, []), (4, 38, 1, 0, 0, []), (4, 39, 2, 0, 0, []), (4, 40, 3, 0, 0, []), (92, 41, 159, 4, 5, [(75170199, 9)]), (95, 44, 0, 0, 0, [])]]
/-! 161: EngraversHouse$Tour.addAsk:(IIII)I -/
set_option maxRecDepth 100000 in
noncomputable def zb161 : List (List zMI) := [
  [(6, 0, 0, 0, 0, []), (60, 1, 9, 1, 4849679, []), (1, 4, 0, 0, 9, []), (48, 6, 1, 0, 0, []), (1, 9, 0, 0, (-4), []), (95, 11, 0, 0, 0, [])],
  [(6, 12, 0, 0, 0, []), (61, 13, 9, 2, 4980755, []), (6, 16, 0, 0, 0, []), (60, 17, 9, 1, 4849679, []), (4, 20, 1, 0, 0, []), (68, 21, 0, 0, 0, []), (6, 22, 0, 0, 0, []), (61, 23, 9, 3, 5046294, []), (6, 26, 0, 0, 0, []), (60, 27, 9, 1, 4849679, []), (4, 30, 2, 0, 0, []), (68, 31, 0, 0, 0, []), (6, 32, 0, 0, 0, []), (61, 33, 9, 4, 5111833, []), (6, 36, 0, 0, 0, []), (60, 37, 9, 1, 4849679, []), (4, 40, 3, 0, 0, []), (68, 41, 0, 0, 0, []), (6, 42, 0, 0, 0, []), (61, 43, 9, 5, 5177372, []), (6, 46, 0, 0, 0, []), (60, 47, 9, 1, 4849679, []), (4, 50, 4, 0, 0, []), (68, 52, 0, 0, 0, []), (6, 53, 0, 0, 0, []), (60, 54, 9, 1, 4849679, []), (7, 57, 5, 0, 0, []), (57, 59, 2, 0, 0, [])],
  [(4, 59, 5, 0, 0, []), (45, 61, 3, 0, 0, []), (6, 64, 0, 0, 0, []), (61, 65, 9, 3, 5046294, []), (6, 68, 0, 0, 0, []), (61, 69, 9, 6, 5242911, []), (4, 72, 5, 0, 0, []), (1, 74, 0, 0, 1, []), (12, 75, 0, 0, 0, []), (65, 76, 0, 0, 0, []), (65, 77, 0, 0, 0, []), (4, 78, 2, 0, 0, []), (51, 79, 3, 0, 0, []), (6, 82, 0, 0, 0, []), (61, 83, 9, 6, 5242911, []), (4, 86, 5, 0, 0, []), (6, 88, 0, 0, 0, []), (61, 89, 9, 6, 5242911, []), (4, 92, 5, 0, 0, []), (1, 94, 0, 0, 1, []), (12, 95, 0, 0, 0, []), (65, 96, 0, 0, 0, []), (68, 97, 0, 0, 0, []), (10, 98, 5, 0, (-1), []), (56, 101, 2, 0, 0, [])],
  [(6, 104, 0, 0, 0, []), (61, 105, 9, 6, 5242911, []), (4, 108, 5, 0, 0, []), (6, 110, 0, 0, 0, []), (60, 111, 9, 1, 4849679, []), (68, 114, 0, 0, 0, []), (6, 115, 0, 0, 0, []), (33, 116, 0, 0, 0, []), (60, 117, 9, 1, 4849679, []), (1, 120, 0, 0, 1, []), (11, 121, 0, 0, 0, []), (62, 122, 9, 1, 4849679, []), (6, 125, 0, 0, 0, []), (60, 126, 9, 1, 4849679, []), (1, 129, 0, 0, 1, []), (12, 130, 0, 0, 0, []), (95, 131, 0, 0, 0, [])]]
/-! 162: EngraversHouse.ask:(IIII)I -/
set_option maxRecDepth 100000 in
noncomputable def zb162 : List (List zMI) := [
  [(4, 0, 1, 0, 0, []), (90, 1, 155, 1, 1, [(74449294, 10)]), (41, 4, 1, 0, 0, []), (1, 7, 0, 0, (-1), []), (95, 8, 0, 0, 0, [])],
  [(4, 9, 2, 0, 0, []), (90, 10, 130, 1, 1, [(56033615, 10)]), (40, 13, 2, 0, 0, []), (4, 16, 3, 0, 0, []), (4, 17, 2, 0, 0, []), (1, 18, 0, 0, 9999, []), (90, 21, 20, 3, 3, [(13828198, 10)]), (40, 24, 2, 0, 0, []), (4, 27, 4, 0, 0, []), (1, 29, 0, 0, 0, []), (1, 30, 0, 0, 999, []), (90, 33, 20, 3, 3, [(13828198, 10)]), (41, 36, 3, 0, 0, []), (57, 39, 2, 0, 0, [])],
  [(1, 39, 0, 0, (-2), []), (95, 41, 0, 0, 0, [])],
  [(6, 42, 0, 0, 0, []), (61, 43, 10, 13, 10420292, []), (60, 46, 9, 1, 4915610, []), (1, 49, 0, 0, 9, []), (48, 51, 4, 0, 0, []), (1, 54, 0, 0, (-4), []), (95, 56, 0, 0, 0, [])],
  [(6, 57, 0, 0, 0, []), (61, 58, 10, 13, 10420292, []), (4, 61, 1, 0, 0, []), (4, 62, 2, 0, 0, []), (4, 63, 3, 0, 0, []), (4, 64, 4, 0, 0, []), (92, 66, 161, 5, 6, [(76022173, 9)]), (95, 69, 0, 0, 0, [])]]
/-! 163: EngraversHouse.askless:()I -/
set_option maxRecDepth 100000 in
noncomputable def zb163 : List (List zMI) := [
  [(6, 0, 0, 0, 0, []), (61, 1, 10, 13, 10420292, []), (60, 4, 9, 1, 4915610, []), (7, 7, 1, 0, 0, []), (6, 8, 0, 0, 0, []), (61, 9, 10, 13, 10420292, []), (1, 12, 0, 0, 0, []), (62, 13, 9, 1, 4915610, []), (4, 16, 1, 0, 0, []), (95, 17, 0, 0, 0, [])]]
/-! 164: EngraversHouse$Tour.worthFrom:(I)I -/
set_option maxRecDepth 100000 in
noncomputable def zb164 : List (List zMI) := [
  [(4, 0, 1, 0, 0, []), (1, 1, 0, 0, 0, []), (1, 2, 0, 0, 8, []), (90, 4, 20, 3, 3, [(77856840, 10)]), (40, 7, 1, 0, 0, []), (6, 10, 0, 0, 0, []), (61, 11, 9, 7, 5308450, []), (4, 14, 1, 0, 0, []), (65, 15, 0, 0, 0, []), (56, 16, 2, 0, 0, [])],
  [(1, 19, 0, 0, 0, []), (57, 20, 2, 0, 0, [])],
  [(95, 20, 0, 0, 0, [])]]
/-! 165: EngraversHouse$Tour.isBetter:(II)Z -/
set_option maxRecDepth 100000 in
noncomputable def zb165 : List (List zMI) := [
  [(4, 0, 2, 0, 0, []), (1, 1, 0, 0, (-1), []), (46, 2, 1, 0, 0, []), (6, 5, 0, 0, 0, []), (61, 6, 9, 7, 5308450, []), (4, 9, 1, 0, 0, []), (65, 10, 0, 0, 0, []), (6, 11, 0, 0, 0, []), (61, 12, 9, 7, 5308450, []), (4, 15, 2, 0, 0, []), (65, 16, 0, 0, 0, []), (46, 17, 4, 0, 0, []), (57, 20, 1, 0, 0, [])],
  [(6, 20, 0, 0, 0, []), (61, 21, 9, 7, 5308450, []), (4, 24, 1, 0, 0, []), (65, 25, 0, 0, 0, []), (6, 26, 0, 0, 0, []), (4, 27, 2, 0, 0, []), (92, 28, 164, 2, 2, [(77594685, 9)]), (51, 31, 2, 0, 0, []), (1, 34, 0, 0, 1, []), (56, 35, 3, 0, 0, [])],
  [(1, 38, 0, 0, 0, []), (57, 39, 3, 0, 0, [])],
  [(96, 39, 0, 0, 0, [])],
  [(6, 40, 0, 0, 0, []), (61, 41, 9, 8, 5373989, []), (4, 44, 1, 0, 0, []), (65, 45, 0, 0, 0, []), (6, 46, 0, 0, 0, []), (61, 47, 9, 8, 5373989, []), (4, 50, 2, 0, 0, []), (65, 51, 0, 0, 0, []), (46, 52, 7, 0, 0, []), (6, 55, 0, 0, 0, []), (61, 56, 9, 8, 5373989, []), (4, 59, 1, 0, 0, []), (65, 60, 0, 0, 0, []), (6, 61, 0, 0, 0, []), (61, 62, 9, 8, 5373989, []), (4, 65, 2, 0, 0, []), (65, 66, 0, 0, 0, []), (49, 67, 5, 0, 0, []), (1, 70, 0, 0, 1, []), (56, 71, 6, 0, 0, [])],
  [(1, 74, 0, 0, 0, []), (57, 75, 6, 0, 0, [])],
  [(96, 75, 0, 0, 0, [])],
  [(6, 76, 0, 0, 0, []), (61, 77, 9, 9, 5439528, []), (4, 80, 1, 0, 0, []), (65, 81, 0, 0, 0, []), (6, 82, 0, 0, 0, []), (61, 83, 9, 9, 5439528, []), (4, 86, 2, 0, 0, []), (65, 87, 0, 0, 0, []), (49, 88, 8, 0, 0, []), (1, 91, 0, 0, 1, []), (56, 92, 9, 0, 0, [])],
  [(1, 95, 0, 0, 0, []), (57, 96, 9, 0, 0, [])],
  [(96, 96, 0, 0, 0, [])]]
/-! 166: EngraversHouse$Tour.bestBehind:(III)I -/
set_option maxRecDepth 100000 in
noncomputable def zb166 : List (List zMI) := [
  [(1, 0, 0, 0, (-1), []), (7, 1, 4, 0, 0, []), (4, 3, 1, 0, 0, []), (1, 4, 0, 0, 1, []), (11, 5, 0, 0, 0, []), (7, 6, 5, 0, 0, []), (57, 8, 1, 0, 0, [])],
  [(4, 8, 5, 0, 0, []), (6, 10, 0, 0, 0, []), (60, 11, 9, 1, 4849679, []), (49, 14, 3, 0, 0, []), (6, 17, 0, 0, 0, []), (61, 18, 9, 6, 5242911, []), (4, 21, 5, 0, 0, []), (65, 23, 0, 0, 0, []), (7, 24, 6, 0, 0, []), (4, 26, 3, 0, 0, []), (6, 27, 0, 0, 0, []), (4, 28, 2, 0, 0, []), (6, 29, 0, 0, 0, []), (61, 30, 9, 2, 4980755, []), (4, 33, 6, 0, 0, []), (65, 35, 0, 0, 0, []), (92, 36, 158, 3, 3, [(75431989, 9)]), (11, 39, 0, 0, 0, []), (6, 40, 0, 0, 0, []), (61, 41, 9, 3, 5046294, []), (4, 44, 6, 0, 0, []), (65, 46, 0, 0, 0, []), (50, 47, 2, 0, 0, []), (6, 50, 0, 0, 0, []), (4, 51, 6, 0, 0, []), (4, 53, 4, 0, 0, []), (92, 55, 165, 3, 3, [(77332548, 9)]), (40, 58, 2, 0, 0, []), (4, 61, 6, 0, 0, []), (7, 63, 4, 0, 0, []), (57, 65, 2, 0, 0, [])],
  [(10, 65, 5, 0, 1, []), (56, 68, 1, 0, 0, [])],
  [(4, 71, 4, 0, 0, []), (95, 73, 0, 0, 0, [])]]
/-! 167: EngraversHouse$Tour.bitsFrom:(I)I -/
set_option maxRecDepth 100000 in
noncomputable def zb167 : List (List zMI) := [
  [(4, 0, 1, 0, 0, []), (1, 1, 0, 0, 0, []), (1, 2, 0, 0, 8, []), (90, 4, 20, 3, 3, [(77856840, 10)]), (40, 7, 1, 0, 0, []), (6, 10, 0, 0, 0, []), (61, 11, 9, 9, 5439528, []), (4, 14, 1, 0, 0, []), (65, 15, 0, 0, 0, []), (56, 16, 2, 0, 0, [])],
  [(1, 19, 0, 0, 0, []), (57, 20, 2, 0, 0, [])],
  [(95, 20, 0, 0, 0, [])]]
/-! 168: EngraversHouse$Tour.bestFirst:(II)I -/
set_option maxRecDepth 100000 in
noncomputable def zb168 : List (List zMI) := [
  [(6, 0, 0, 0, 0, []), (60, 1, 9, 1, 4849679, []), (1, 4, 0, 0, 1, []), (12, 5, 0, 0, 0, []), (7, 6, 3, 0, 0, []), (57, 7, 1, 0, 0, [])],
  [(4, 7, 3, 0, 0, []), (42, 8, 4, 0, 0, []), (6, 11, 0, 0, 0, []), (61, 12, 9, 6, 5242911, []), (4, 15, 3, 0, 0, []), (65, 16, 0, 0, 0, []), (7, 17, 4, 0, 0, []), (6, 19, 0, 0, 0, []), (4, 20, 3, 0, 0, []), (6, 21, 0, 0, 0, []), (61, 22, 9, 2, 4980755, []), (4, 25, 4, 0, 0, []), (65, 27, 0, 0, 0, []), (6, 28, 0, 0, 0, []), (61, 29, 9, 4, 5111833, []), (4, 32, 4, 0, 0, []), (65, 34, 0, 0, 0, []), (1, 35, 0, 0, 1, []), (11, 36, 0, 0, 0, []), (92, 37, 166, 4, 7, [(77070393, 9)]), (7, 40, 5, 0, 0, []), (6, 42, 0, 0, 0, []), (61, 43, 9, 7, 5308450, []), (4, 46, 4, 0, 0, []), (6, 48, 0, 0, 0, []), (61, 49, 9, 5, 5177372, []), (4, 52, 4, 0, 0, []), (65, 54, 0, 0, 0, []), (6, 55, 0, 0, 0, []), (4, 56, 5, 0, 0, []), (92, 58, 164, 2, 2, [(77594685, 9)]), (11, 61, 0, 0, 0, []), (68, 62, 0, 0, 0, []), (6, 63, 0, 0, 0, []), (61, 64, 9, 8, 5373989, []), (4, 67, 4, 0, 0, []), (1, 69, 0, 0, 1, []), (4, 70, 5, 0, 0, []), (1, 72, 0, 0, (-1), []), (47, 73, 2, 0, 0, []), (1, 76, 0, 0, 0, []), (56, 77, 3, 0, 0, [])],
  [(6, 80, 0, 0, 0, []), (61, 81, 9, 8, 5373989, []), (4, 84, 5, 0, 0, []), (65, 86, 0, 0, 0, []), (57, 87, 3, 0, 0, [])],
  [(11, 87, 0, 0, 0, []), (68, 88, 0, 0, 0, []), (6, 89, 0, 0, 0, []), (61, 90, 9, 9, 5439528, []), (4, 93, 4, 0, 0, []), (1, 95, 0, 0, 1, []), (4, 96, 4, 0, 0, []), (17, 98, 0, 0, 0, []), (6, 99, 0, 0, 0, []), (4, 100, 5, 0, 0, []), (92, 102, 167, 2, 2, [(77922369, 9)]), (21, 105, 0, 0, 0, []), (68, 106, 0, 0, 0, []), (10, 107, 3, 0, (-1), []), (56, 110, 1, 0, 0, [])],
  [(6, 113, 0, 0, 0, []), (1, 114, 0, 0, (-1), []), (4, 115, 1, 0, 0, []), (4, 116, 2, 0, 0, []), (92, 117, 166, 4, 7, [(77070393, 9)]), (95, 120, 0, 0, 0, [])]]
/-! 169: EngraversHouse.hire:(II)I -/
set_option maxRecDepth 100000 in
noncomputable def zb169 : List (List zMI) := [
  [(6, 0, 0, 0, 0, []), (4, 1, 1, 0, 0, []), (92, 2, 30, 2, 2, [(19267706, 10)]), (54, 5, 1, 0, 0, []), (4, 8, 2, 0, 0, []), (1, 9, 0, 0, 0, []), (1, 10, 0, 0, 1, []), (90, 11, 20, 3, 3, [(13828198, 10)]), (41, 14, 2, 0, 0, []), (57, 17, 1, 0, 0, [])],
  [(1, 17, 0, 0, (-1), []), (95, 18, 0, 0, 0, [])],
  [(6, 19, 0, 0, 0, []), (4, 20, 1, 0, 0, []), (92, 21, 156, 2, 3, [(74645905, 10)]), (9, 24, 3, 0, 0, []), (6, 25, 3, 0, 0, []), (55, 26, 3, 0, 0, []), (1, 29, 0, 0, (-12), []), (95, 31, 0, 0, 0, [])],
  [(6, 32, 0, 0, 0, []), (61, 33, 10, 13, 10420292, []), (6, 36, 3, 0, 0, []), (60, 37, 5, 5, 33292692, []), (6, 40, 0, 0, 0, []), (60, 41, 10, 0, 9568265, []), (92, 44, 168, 3, 6, [(76808609, 9)]), (7, 47, 4, 0, 0, []), (4, 49, 2, 0, 0, []), (41, 50, 4, 0, 0, []), (6, 53, 0, 0, 0, []), (61, 54, 10, 13, 10420292, []), (4, 57, 4, 0, 0, []), (92, 59, 164, 2, 2, [(78184868, 9)]), (56, 62, 5, 0, 0, [])],
  [(6, 65, 0, 0, 0, []), (61, 66, 10, 13, 10420292, []), (4, 69, 4, 0, 0, []), (92, 71, 167, 2, 2, [(78250407, 9)]), (57, 74, 5, 0, 0, [])],
  [(95, 74, 0, 0, 0, [])]]
/-! 170: EngraversHouse.month:(I)I -/
set_option maxRecDepth 100000 in
noncomputable def zb170 : List (List zMI) := [
  [(4, 0, 1, 0, 0, []), (1, 1, 0, 0, 0, []), (1, 2, 0, 0, 999, []), (90, 5, 20, 3, 3, [(13828198, 10)]), (41, 8, 1, 0, 0, []), (1, 11, 0, 0, (-2), []), (95, 13, 0, 0, 0, [])],
  [(6, 14, 0, 0, 0, []), (61, 15, 10, 14, 10485835, []), (60, 18, 7, 3, 7733674, []), (1, 21, 0, 0, 10, []), (48, 23, 2, 0, 0, []), (1, 26, 0, 0, (-4), []), (95, 28, 0, 0, 0, [])],
  [(6, 29, 0, 0, 0, []), (61, 30, 10, 14, 10485835, []), (61, 33, 7, 4, 7864749, []), (6, 36, 0, 0, 0, []), (61, 37, 10, 14, 10485835, []), (60, 40, 7, 3, 7733674, []), (4, 43, 1, 0, 0, []), (68, 44, 0, 0, 0, []), (6, 45, 0, 0, 0, []), (61, 46, 10, 14, 10485835, []), (32, 49, 0, 0, 0, []), (60, 50, 7, 3, 7733674, []), (1, 53, 0, 0, 1, []), (11, 54, 0, 0, 0, []), (62, 55, 7, 3, 7733674, []), (6, 58, 0, 0, 0, []), (61, 59, 10, 14, 10485835, []), (60, 62, 7, 3, 7733674, []), (95, 65, 0, 0, 0, [])]]
/-! 171: EngraversHouse.costs:(III)I -/
set_option maxRecDepth 100000 in
noncomputable def zb171 : List (List zMI) := [
  [(4, 0, 1, 0, 0, []), (1, 1, 0, 0, 0, []), (1, 2, 0, 0, 9999, []), (90, 5, 20, 3, 3, [(13828198, 10)]), (40, 8, 1, 0, 0, []), (4, 11, 2, 0, 0, []), (1, 12, 0, 0, 0, []), (1, 13, 0, 0, 99, []), (90, 15, 20, 3, 3, [(13828198, 10)]), (40, 18, 1, 0, 0, []), (4, 21, 3, 0, 0, []), (1, 22, 0, 0, 1, []), (1, 23, 0, 0, 9999, []), (90, 26, 20, 3, 3, [(13828198, 10)]), (41, 29, 2, 0, 0, []), (57, 32, 1, 0, 0, [])],
  [(1, 32, 0, 0, (-2), []), (95, 34, 0, 0, 0, [])],
  [(6, 35, 0, 0, 0, []), (61, 36, 10, 14, 10485835, []), (60, 39, 7, 3, 7733674, []), (7, 42, 4, 0, 0, []), (6, 44, 0, 0, 0, []), (61, 45, 10, 14, 10485835, []), (4, 48, 1, 0, 0, []), (62, 49, 7, 0, 7340463, []), (6, 52, 0, 0, 0, []), (61, 53, 10, 14, 10485835, []), (4, 56, 2, 0, 0, []), (62, 57, 7, 1, 7471538, []), (6, 60, 0, 0, 0, []), (61, 61, 10, 14, 10485835, []), (4, 64, 3, 0, 0, []), (62, 65, 7, 2, 7602613, []), (6, 68, 0, 0, 0, []), (61, 69, 10, 14, 10485835, []), (1, 72, 0, 0, 0, []), (62, 73, 7, 3, 7733674, []), (4, 76, 4, 0, 0, []), (95, 78, 0, 0, 0, [])]]
/-! 172: EngraversHouse$PrintPlan.asksTooMuch:()Z -/
set_option maxRecDepth 100000 in
noncomputable def zb172 : List (List zMI) := [
  [(1, 0, 0, 0, 0, []), (7, 1, 1, 0, 0, []), (1, 2, 0, 0, 0, []), (7, 3, 2, 0, 0, []), (57, 4, 1, 0, 0, [])],
  [(4, 4, 2, 0, 0, []), (6, 5, 0, 0, 0, []), (60, 6, 7, 3, 7667733, []), (49, 9, 5, 0, 0, []), (4, 12, 1, 0, 0, []), (41, 13, 2, 0, 0, []), (6, 16, 0, 0, 0, []), (61, 17, 7, 4, 7798808, []), (4, 20, 2, 0, 0, []), (65, 21, 0, 0, 0, []), (6, 22, 0, 0, 0, []), (60, 23, 7, 2, 7536658, []), (51, 26, 3, 0, 0, []), (57, 29, 2, 0, 0, [])],
  [(1, 29, 0, 0, 1, []), (56, 30, 4, 0, 0, [])],
  [(1, 33, 0, 0, 0, []), (57, 34, 4, 0, 0, [])],
  [(7, 34, 1, 0, 0, []), (10, 35, 2, 0, 1, []), (56, 38, 1, 0, 0, [])],
  [(4, 41, 1, 0, 0, []), (96, 42, 0, 0, 0, [])]]
/-! 173: EngraversHouse$PrintPlan.isBetter:(IIII)Z -/
set_option maxRecDepth 100000 in
noncomputable def zb173 : List (List zMI) := [
  [(4, 0, 1, 0, 0, []), (6, 1, 0, 0, 0, []), (61, 2, 7, 5, 7929884, []), (4, 5, 4, 0, 0, []), (65, 7, 0, 0, 0, []), (46, 8, 3, 0, 0, []), (4, 11, 1, 0, 0, []), (6, 12, 0, 0, 0, []), (61, 13, 7, 5, 7929884, []), (4, 16, 4, 0, 0, []), (65, 18, 0, 0, 0, []), (49, 19, 1, 0, 0, []), (1, 22, 0, 0, 1, []), (56, 23, 2, 0, 0, [])],
  [(1, 26, 0, 0, 0, []), (57, 27, 2, 0, 0, [])],
  [(96, 27, 0, 0, 0, [])],
  [(4, 28, 2, 0, 0, []), (6, 29, 0, 0, 0, []), (61, 30, 7, 6, 8060959, []), (4, 33, 4, 0, 0, []), (65, 35, 0, 0, 0, []), (46, 36, 6, 0, 0, []), (4, 39, 2, 0, 0, []), (6, 40, 0, 0, 0, []), (61, 41, 7, 6, 8060959, []), (4, 44, 4, 0, 0, []), (65, 46, 0, 0, 0, []), (49, 47, 4, 0, 0, []), (1, 50, 0, 0, 1, []), (56, 51, 5, 0, 0, [])],
  [(1, 54, 0, 0, 0, []), (57, 55, 5, 0, 0, [])],
  [(96, 55, 0, 0, 0, [])],
  [(4, 56, 3, 0, 0, []), (6, 57, 0, 0, 0, []), (61, 58, 7, 7, 8126498, []), (4, 61, 4, 0, 0, []), (65, 63, 0, 0, 0, []), (49, 64, 7, 0, 0, []), (1, 67, 0, 0, 1, []), (56, 68, 8, 0, 0, [])],
  [(1, 71, 0, 0, 0, []), (57, 72, 8, 0, 0, [])],
  [(96, 72, 0, 0, 0, [])]]
/-! 174: EngraversHouse$PrintPlan.printAt:(I)V -/
set_option maxRecDepth 100000 in
noncomputable def zb174 : List (List zMI) := [
  [(6, 0, 0, 0, 0, []), (61, 1, 7, 5, 7929884, []), (4, 4, 1, 0, 0, []), (1, 5, 0, 0, (-1), []), (68, 6, 0, 0, 0, []), (1, 7, 0, 0, 0, []), (7, 8, 2, 0, 0, []), (1, 9, 0, 0, 0, []), (7, 10, 3, 0, 0, []), (4, 11, 1, 0, 0, []), (1, 12, 0, 0, 1, []), (11, 13, 0, 0, 0, []), (7, 14, 4, 0, 0, []), (57, 16, 1, 0, 0, [])],
  [(4, 16, 4, 0, 0, []), (6, 18, 0, 0, 0, []), (60, 19, 7, 3, 7667733, []), (50, 22, 4, 0, 0, []), (4, 25, 2, 0, 0, []), (6, 26, 0, 0, 0, []), (61, 27, 7, 4, 7798808, []), (4, 30, 4, 0, 0, []), (1, 32, 0, 0, 1, []), (12, 33, 0, 0, 0, []), (65, 34, 0, 0, 0, []), (11, 35, 0, 0, 0, []), (7, 36, 2, 0, 0, []), (4, 37, 3, 0, 0, []), (6, 38, 0, 0, 0, []), (61, 39, 7, 4, 7798808, []), (4, 42, 4, 0, 0, []), (1, 44, 0, 0, 1, []), (12, 45, 0, 0, 0, []), (65, 46, 0, 0, 0, []), (4, 47, 4, 0, 0, []), (1, 49, 0, 0, 1, []), (12, 50, 0, 0, 0, []), (4, 51, 1, 0, 0, []), (12, 52, 0, 0, 0, []), (13, 53, 0, 0, 0, []), (6, 54, 0, 0, 0, []), (60, 55, 7, 1, 7405583, []), (13, 58, 0, 0, 0, []), (11, 59, 0, 0, 0, []), (7, 60, 3, 0, 0, []), (4, 61, 2, 0, 0, []), (45, 62, 3, 0, 0, []), (4, 65, 2, 0, 0, []), (6, 66, 0, 0, 0, []), (60, 67, 7, 2, 7536658, []), (50, 70, 3, 0, 0, []), (6, 73, 0, 0, 0, []), (61, 74, 7, 5, 7929884, []), (4, 77, 4, 0, 0, []), (65, 79, 0, 0, 0, []), (1, 80, 0, 0, (-1), []), (46, 81, 3, 0, 0, []), (6, 84, 0, 0, 0, []), (60, 85, 7, 0, 7274505, []), (4, 88, 3, 0, 0, []), (11, 89, 0, 0, 0, []), (6, 90, 0, 0, 0, []), (61, 91, 7, 5, 7929884, []), (4, 94, 4, 0, 0, []), (65, 96, 0, 0, 0, []), (11, 97, 0, 0, 0, []), (7, 98, 5, 0, 0, []), (1, 100, 0, 0, 1, []), (4, 101, 1, 0, 0, []), (17, 102, 0, 0, 0, []), (6, 103, 0, 0, 0, []), (61, 104, 7, 7, 8126498, []), (4, 107, 4, 0, 0, []), (65, 109, 0, 0, 0, []), (21, 110, 0, 0, 0, []), (7, 111, 6, 0, 0, []), (6, 113, 0, 0, 0, []), (61, 114, 7, 5, 7929884, []), (4, 117, 1, 0, 0, []), (65, 118, 0, 0, 0, []), (1, 119, 0, 0, (-1), []), (46, 120, 2, 0, 0, []), (6, 123, 0, 0, 0, []), (4, 124, 5, 0, 0, []), (6, 126, 0, 0, 0, []), (61, 127, 7, 6, 8060959, []), (4, 130, 4, 0, 0, []), (65, 132, 0, 0, 0, []), (1, 133, 0, 0, 1, []), (11, 134, 0, 0, 0, []), (4, 135, 6, 0, 0, []), (4, 137, 1, 0, 0, []), (92, 138, 173, 5, 5, [(79888425, 7)]), (40, 141, 3, 0, 0, []), (57, 144, 2, 0, 0, [])],
  [(6, 144, 0, 0, 0, []), (61, 145, 7, 5, 7929884, []), (4, 148, 1, 0, 0, []), (4, 149, 5, 0, 0, []), (68, 151, 0, 0, 0, []), (6, 152, 0, 0, 0, []), (61, 153, 7, 6, 8060959, []), (4, 156, 1, 0, 0, []), (6, 157, 0, 0, 0, []), (61, 158, 7, 6, 8060959, []), (4, 161, 4, 0, 0, []), (65, 163, 0, 0, 0, []), (1, 164, 0, 0, 1, []), (11, 165, 0, 0, 0, []), (68, 166, 0, 0, 0, []), (6, 167, 0, 0, 0, []), (61, 168, 7, 7, 8126498, []), (4, 171, 1, 0, 0, []), (4, 172, 6, 0, 0, []), (68, 174, 0, 0, 0, []), (57, 175, 3, 0, 0, [])],
  [(10, 175, 4, 0, 1, []), (56, 178, 1, 0, 0, [])],
  [(101, 181, 0, 0, 0, [])]]
/-! 175: EngraversHouse$PrintPlan.bestFirst:()I -/
set_option maxRecDepth 100000 in
noncomputable def zb175 : List (List zMI) := [
  [(6, 0, 0, 0, 0, []), (61, 1, 7, 5, 7929884, []), (6, 4, 0, 0, 0, []), (60, 5, 7, 3, 7667733, []), (1, 8, 0, 0, 0, []), (68, 9, 0, 0, 0, []), (6, 10, 0, 0, 0, []), (61, 11, 7, 6, 8060959, []), (6, 14, 0, 0, 0, []), (60, 15, 7, 3, 7667733, []), (1, 18, 0, 0, 0, []), (68, 19, 0, 0, 0, []), (6, 20, 0, 0, 0, []), (61, 21, 7, 7, 8126498, []), (6, 24, 0, 0, 0, []), (60, 25, 7, 3, 7667733, []), (1, 28, 0, 0, 0, []), (68, 29, 0, 0, 0, []), (6, 30, 0, 0, 0, []), (60, 31, 7, 3, 7667733, []), (1, 34, 0, 0, 1, []), (12, 35, 0, 0, 0, []), (7, 36, 1, 0, 0, []), (57, 37, 1, 0, 0, [])],
  [(4, 37, 1, 0, 0, []), (42, 38, 2, 0, 0, []), (6, 41, 0, 0, 0, []), (4, 42, 1, 0, 0, []), (92, 43, 174, 2, 7, [(79626277, 7)]), (10, 46, 1, 0, (-1), []), (56, 49, 1, 0, 0, [])],
  [(1, 52, 0, 0, 0, []), (7, 53, 1, 0, 0, []), (1, 54, 0, 0, 1, []), (7, 55, 2, 0, 0, []), (57, 56, 3, 0, 0, [])],
  [(4, 56, 2, 0, 0, []), (6, 57, 0, 0, 0, []), (60, 58, 7, 3, 7667733, []), (50, 61, 6, 0, 0, []), (6, 64, 0, 0, 0, []), (61, 65, 7, 4, 7798808, []), (4, 68, 2, 0, 0, []), (1, 69, 0, 0, 1, []), (12, 70, 0, 0, 0, []), (65, 71, 0, 0, 0, []), (41, 72, 6, 0, 0, []), (6, 75, 0, 0, 0, []), (61, 76, 7, 5, 7929884, []), (4, 79, 1, 0, 0, []), (65, 80, 0, 0, 0, []), (1, 81, 0, 0, (-1), []), (46, 82, 4, 0, 0, []), (6, 85, 0, 0, 0, []), (61, 86, 7, 5, 7929884, []), (4, 89, 2, 0, 0, []), (65, 90, 0, 0, 0, []), (1, 91, 0, 0, (-1), []), (46, 92, 5, 0, 0, []), (6, 95, 0, 0, 0, []), (6, 96, 0, 0, 0, []), (61, 97, 7, 5, 7929884, []), (4, 100, 2, 0, 0, []), (65, 101, 0, 0, 0, []), (6, 102, 0, 0, 0, []), (61, 103, 7, 6, 8060959, []), (4, 106, 2, 0, 0, []), (65, 107, 0, 0, 0, []), (6, 108, 0, 0, 0, []), (61, 109, 7, 7, 8126498, []), (4, 112, 2, 0, 0, []), (65, 113, 0, 0, 0, []), (4, 114, 1, 0, 0, []), (92, 115, 173, 5, 5, [(79888425, 7)]), (40, 118, 5, 0, 0, []), (57, 121, 4, 0, 0, [])],
  [(4, 121, 2, 0, 0, []), (7, 122, 1, 0, 0, []), (57, 123, 5, 0, 0, [])],
  [(10, 123, 2, 0, 1, []), (56, 126, 3, 0, 0, [])],
  [(4, 129, 1, 0, 0, []), (95, 130, 0, 0, 0, [])]]
/-! 176: EngraversHouse.prints:(I)I -/
set_option maxRecDepth 100000 in
noncomputable def zb176 : List (List zMI) := [
  [(4, 0, 1, 0, 0, []), (1, 1, 0, 0, 0, []), (1, 2, 0, 0, 1, []), (90, 3, 20, 3, 3, [(13828198, 10)]), (41, 6, 1, 0, 0, []), (1, 9, 0, 0, (-1), []), (95, 10, 0, 0, 0, [])],
  [(6, 11, 0, 0, 0, []), (61, 12, 10, 14, 10485835, []), (92, 15, 172, 1, 3, [(79102392, 7)]), (40, 18, 2, 0, 0, []), (1, 21, 0, 0, (-3), []), (95, 23, 0, 0, 0, [])],
  [(6, 24, 0, 0, 0, []), (61, 25, 10, 14, 10485835, []), (92, 28, 175, 1, 3, [(79364540, 7)]), (7, 31, 2, 0, 0, []), (4, 32, 1, 0, 0, []), (41, 33, 3, 0, 0, []), (6, 36, 0, 0, 0, []), (61, 37, 10, 14, 10485835, []), (61, 40, 7, 5, 7995838, []), (4, 43, 2, 0, 0, []), (65, 44, 0, 0, 0, []), (56, 45, 4, 0, 0, [])],
  [(6, 48, 0, 0, 0, []), (61, 49, 10, 14, 10485835, []), (61, 52, 7, 7, 8192449, []), (4, 55, 2, 0, 0, []), (65, 56, 0, 0, 0, []), (57, 57, 4, 0, 0, [])],
  [(95, 57, 0, 0, 0, [])]]
/-! 177: EngraversHouse.isHand:(I)Z -/
set_option maxRecDepth 100000 in
noncomputable def zb177 : List (List zMI) := [
  [(4, 0, 0, 0, 0, []), (1, 1, 0, 0, 0, []), (1, 2, 0, 0, 3, []), (90, 3, 20, 3, 3, [(13828198, 10)]), (96, 6, 0, 0, 0, [])]]
/-! 178: EngraversHouse.proof:(III)I -/
set_option maxRecDepth 100000 in
noncomputable def zb178 : List (List zMI) := [
  [(4, 0, 1, 0, 0, []), (90, 1, 177, 1, 1, [(80413124, 10)]), (40, 4, 1, 0, 0, []), (6, 7, 0, 0, 0, []), (4, 8, 2, 0, 0, []), (92, 9, 30, 2, 2, [(19267706, 10)]), (55, 12, 2, 0, 0, []), (57, 15, 1, 0, 0, [])],
  [(1, 15, 0, 0, (-1), []), (95, 16, 0, 0, 0, [])],
  [(6, 17, 0, 0, 0, []), (4, 18, 2, 0, 0, []), (92, 19, 90, 2, 4, [(39911635, 10)]), (9, 22, 4, 0, 0, []), (6, 24, 4, 0, 0, []), (55, 26, 3, 0, 0, []), (1, 29, 0, 0, (-12), []), (95, 31, 0, 0, 0, [])],
  [(4, 32, 3, 0, 0, []), (1, 33, 0, 0, 0, []), (1, 34, 0, 0, 1, []), (6, 35, 4, 0, 0, []), (61, 37, 6, 4, 38732231, []), (72, 40, 0, 0, 0, []), (17, 41, 0, 0, 0, []), (1, 42, 0, 0, 1, []), (12, 43, 0, 0, 0, []), (90, 44, 20, 3, 3, [(13828198, 10)]), (41, 47, 4, 0, 0, []), (1, 50, 0, 0, (-2), []), (95, 52, 0, 0, 0, [])],
  [(6, 53, 4, 0, 0, []), (61, 55, 6, 5, 38863307, []), (4, 58, 1, 0, 0, []), (4, 59, 3, 0, 0, []), (68, 60, 0, 0, 0, []), (4, 61, 3, 0, 0, []), (6, 62, 4, 0, 0, []), (92, 64, 94, 1, 4, [(40698074, 6)]), (20, 67, 0, 0, 0, []), (90, 68, 0, 1, 1, [(41222365, 99)]), (95, 71, 0, 0, 0, [])]]
/-! 179: EngraversHouse.commonDivisor:(II)I -/
set_option maxRecDepth 100000 in
noncomputable def zb179 : List (List zMI) := [
  [(4, 0, 1, 0, 0, []), (7, 1, 2, 0, 0, []), (57, 2, 1, 0, 0, [])],
  [(4, 2, 2, 0, 0, []), (1, 3, 0, 0, 1, []), (51, 4, 3, 0, 0, []), (4, 7, 0, 0, 0, []), (4, 8, 2, 0, 0, []), (15, 9, 0, 0, 0, []), (41, 10, 2, 0, 0, []), (4, 13, 1, 0, 0, []), (4, 14, 2, 0, 0, []), (15, 15, 0, 0, 0, []), (41, 16, 2, 0, 0, []), (4, 19, 2, 0, 0, []), (95, 20, 0, 0, 0, [])],
  [(10, 21, 2, 0, (-1), []), (56, 24, 1, 0, 0, [])],
  [(1, 27, 0, 0, 1, []), (95, 28, 0, 0, 0, [])]]
/-! 180: EngraversHouse.left:(IIII)J -/
set_option maxRecDepth 100000 in
noncomputable def zb180 : List (List zMI) := [
  [(6, 0, 0, 0, 0, []), (4, 1, 1, 0, 0, []), (92, 2, 90, 2, 4, [(39911635, 10)]), (9, 5, 5, 0, 0, []), (6, 7, 5, 0, 0, []), (54, 9, 1, 0, 0, []), (4, 12, 2, 0, 0, []), (90, 13, 177, 1, 1, [(80413124, 10)]), (40, 16, 1, 0, 0, []), (4, 19, 3, 0, 0, []), (90, 20, 177, 1, 1, [(80413124, 10)]), (40, 23, 1, 0, 0, []), (4, 26, 2, 0, 0, []), (4, 27, 3, 0, 0, []), (46, 28, 1, 0, 0, []), (4, 31, 4, 0, 0, []), (1, 33, 0, 0, 0, []), (1, 34, 0, 0, 1, []), (90, 35, 20, 3, 3, [(13828198, 10)]), (41, 38, 2, 0, 0, []), (57, 41, 1, 0, 0, [])],
  [(2, 41, 0, 80871886, (-9223372036854775808), []), (99, 44, 0, 0, 0, [])],
  [(6, 45, 5, 0, 0, []), (61, 47, 6, 5, 38863307, []), (4, 50, 2, 0, 0, []), (65, 51, 0, 0, 0, []), (7, 52, 6, 0, 0, []), (6, 54, 5, 0, 0, []), (61, 56, 6, 5, 38863307, []), (4, 59, 3, 0, 0, []), (65, 60, 0, 0, 0, []), (7, 61, 7, 0, 0, []), (4, 63, 6, 0, 0, []), (1, 65, 0, 0, (-1), []), (46, 66, 3, 0, 0, []), (4, 69, 7, 0, 0, []), (1, 71, 0, 0, (-1), []), (46, 72, 3, 0, 0, []), (4, 75, 6, 0, 0, []), (4, 77, 7, 0, 0, []), (20, 79, 0, 0, 0, []), (41, 80, 4, 0, 0, []), (57, 83, 3, 0, 0, [])],
  [(2, 83, 0, 80871886, (-9223372036854775808), []), (99, 86, 0, 0, 0, [])],
  [(4, 87, 6, 0, 0, []), (4, 89, 7, 0, 0, []), (20, 91, 0, 0, 0, []), (90, 92, 0, 1, 1, [(41222365, 99)]), (7, 95, 8, 0, 0, []), (4, 97, 6, 0, 0, []), (90, 99, 0, 1, 1, [(41222365, 99)]), (4, 102, 8, 0, 0, []), (12, 104, 0, 0, 0, []), (4, 105, 7, 0, 0, []), (90, 107, 0, 1, 1, [(41222365, 99)]), (4, 110, 8, 0, 0, []), (12, 112, 0, 0, 0, []), (13, 113, 0, 0, 0, []), (7, 114, 9, 0, 0, []), (4, 116, 9, 0, 0, []), (4, 118, 8, 0, 0, []), (90, 120, 179, 2, 3, [(80937424, 10)]), (7, 123, 10, 0, 0, []), (4, 125, 4, 0, 0, []), (41, 127, 5, 0, 0, []), (4, 130, 9, 0, 0, []), (4, 132, 10, 0, 0, []), (14, 134, 0, 0, 0, []), (23, 135, 0, 0, 0, []), (56, 136, 6, 0, 0, [])],
  [(4, 139, 8, 0, 0, []), (4, 141, 10, 0, 0, []), (14, 143, 0, 0, 0, []), (23, 144, 0, 0, 0, []), (57, 145, 6, 0, 0, [])],
  [(99, 145, 0, 0, 0, [])]]
/-! 181: EngraversHouse.missed:(II)I -/
set_option maxRecDepth 100000 in
noncomputable def zb181 : List (List zMI) := [
  [(4, 0, 1, 0, 0, []), (90, 1, 177, 1, 1, [(80413124, 10)]), (40, 4, 1, 0, 0, []), (6, 7, 0, 0, 0, []), (4, 8, 2, 0, 0, []), (92, 9, 30, 2, 2, [(19267706, 10)]), (55, 12, 2, 0, 0, []), (57, 15, 1, 0, 0, [])],
  [(1, 15, 0, 0, (-1), []), (95, 16, 0, 0, 0, [])],
  [(6, 17, 0, 0, 0, []), (4, 18, 2, 0, 0, []), (92, 19, 90, 2, 4, [(39911635, 10)]), (9, 22, 3, 0, 0, []), (6, 23, 3, 0, 0, []), (55, 24, 3, 0, 0, []), (1, 27, 0, 0, (-12), []), (95, 29, 0, 0, 0, [])],
  [(6, 30, 3, 0, 0, []), (61, 31, 6, 5, 38863307, []), (4, 34, 1, 0, 0, []), (65, 35, 0, 0, 0, []), (1, 36, 0, 0, (-1), []), (47, 37, 4, 0, 0, []), (1, 40, 0, 0, (-3), []), (95, 42, 0, 0, 0, [])],
  [(6, 43, 3, 0, 0, []), (92, 44, 94, 1, 4, [(40698074, 6)]), (6, 47, 3, 0, 0, []), (61, 48, 6, 5, 38863307, []), (4, 51, 1, 0, 0, []), (65, 52, 0, 0, 0, []), (1, 53, 0, 0, (-1), []), (22, 54, 0, 0, 0, []), (20, 55, 0, 0, 0, []), (90, 56, 0, 1, 1, [(41222365, 99)]), (95, 59, 0, 0, 0, [])]]
/-! 182: EngraversHouse.ownBody:(II)I -/
set_option maxRecDepth 100000 in
noncomputable def zb182 : List (List zMI) := [
  [(4, 0, 0, 0, 0, []), (1, 1, 0, 0, 3, []), (13, 2, 0, 0, 0, []), (4, 3, 1, 0, 0, []), (11, 4, 0, 0, 0, []), (7, 5, 2, 0, 0, []), (1, 6, 0, 0, 0, []), (4, 7, 2, 0, 0, []), (50, 8, 1, 0, 0, []), (4, 11, 2, 0, 0, []), (80, 12, 14, 0, 82117143, []), (72, 15, 0, 0, 0, []), (49, 16, 1, 0, 0, []), (80, 19, 14, 0, 82117143, []), (4, 22, 2, 0, 0, []), (65, 23, 0, 0, 0, []), (56, 24, 2, 0, 0, [])],
  [(1, 27, 0, 0, 0, []), (57, 28, 2, 0, 0, [])],
  [(95, 28, 0, 0, 0, [])]]
/-! 183: EngraversHouse.kindAbove:(I)I -/
set_option maxRecDepth 100000 in
noncomputable def zb183 : List (List zMI) := [
  [(4, 0, 0, 0, 0, []), (1, 1, 0, 0, 1, []), (1, 2, 0, 0, 7, []), (90, 4, 20, 3, 3, [(13828198, 10)]), (40, 7, 1, 0, 0, []), (80, 10, 13, 0, 82444820, []), (4, 13, 0, 0, 0, []), (65, 14, 0, 0, 0, []), (56, 15, 2, 0, 0, [])],
  [(1, 18, 0, 0, 0, []), (57, 19, 2, 0, 0, [])],
  [(95, 19, 0, 0, 0, [])]]
/-! 184: EngraversHouse.answerOf:(ILEngraversHouse$Thing;III)I -/
set_option maxRecDepth 100000 in
noncomputable def zb184 : List (List zMI) := [
  [(4, 0, 1, 0, 0, []), (59, 1, 12, 0, 0, [(10, 1), (11, 2), (12, 3), (20, 4), (30, 5), (40, 6), (50, 7), (60, 8), (61, 9), (70, 10), (80, 11)])],
  [(4, 100, 4, 0, 0, []), (6, 102, 2, 0, 0, []), (60, 103, 20, 1, 17564144, []), (11, 106, 0, 0, 0, []), (95, 107, 0, 0, 0, [])],
  [(6, 108, 0, 0, 0, []), (6, 109, 2, 0, 0, []), (1, 110, 0, 0, 0, []), (6, 111, 2, 0, 0, []), (60, 112, 20, 0, 16515247, []), (4, 115, 4, 0, 0, []), (4, 117, 5, 0, 0, []), (92, 119, 185, 6, 8, [(81658323, 10)]), (1, 122, 0, 0, 3, []), (22, 123, 0, 0, 0, []), (95, 124, 0, 0, 0, [])],
  [(6, 125, 0, 0, 0, []), (6, 126, 2, 0, 0, []), (1, 127, 0, 0, 1, []), (6, 128, 2, 0, 0, []), (60, 129, 20, 0, 16515247, []), (4, 132, 4, 0, 0, []), (4, 134, 5, 0, 0, []), (92, 136, 185, 6, 8, [(81658323, 10)]), (4, 139, 4, 0, 0, []), (12, 141, 0, 0, 0, []), (95, 142, 0, 0, 0, [])],
  [(6, 143, 0, 0, 0, []), (6, 144, 2, 0, 0, []), (1, 145, 0, 0, 0, []), (4, 146, 3, 0, 0, []), (4, 147, 4, 0, 0, []), (4, 149, 5, 0, 0, []), (92, 151, 185, 6, 8, [(81658323, 10)]), (1, 154, 0, 0, 2, []), (13, 155, 0, 0, 0, []), (95, 156, 0, 0, 0, [])],
  [(6, 157, 0, 0, 0, []), (6, 158, 2, 0, 0, []), (1, 159, 0, 0, 1, []), (4, 160, 3, 0, 0, []), (4, 161, 4, 0, 0, []), (4, 163, 5, 0, 0, []), (92, 165, 185, 6, 8, [(81658323, 10)]), (6, 168, 0, 0, 0, []), (6, 169, 2, 0, 0, []), (1, 170, 0, 0, 0, []), (6, 171, 2, 0, 0, []), (60, 172, 20, 0, 16515247, []), (1, 175, 0, 0, 1, []), (4, 176, 5, 0, 0, []), (92, 178, 185, 6, 8, [(81658323, 10)]), (11, 181, 0, 0, 0, []), (95, 182, 0, 0, 0, [])],
  [(6, 183, 0, 0, 0, []), (6, 184, 2, 0, 0, []), (1, 185, 0, 0, 2, []), (4, 186, 3, 0, 0, []), (4, 187, 4, 0, 0, []), (4, 189, 5, 0, 0, []), (92, 191, 185, 6, 8, [(81658323, 10)]), (1, 194, 0, 0, 7, []), (11, 196, 0, 0, 0, []), (95, 197, 0, 0, 0, [])],
  [(6, 198, 0, 0, 0, []), (6, 199, 2, 0, 0, []), (1, 200, 0, 0, 0, []), (4, 201, 3, 0, 0, []), (4, 202, 4, 0, 0, []), (1, 204, 0, 0, 4, []), (11, 205, 0, 0, 0, []), (4, 206, 5, 0, 0, []), (92, 208, 185, 6, 8, [(81658323, 10)]), (95, 211, 0, 0, 0, [])],
  [(6, 212, 0, 0, 0, []), (6, 213, 2, 0, 0, []), (1, 214, 0, 0, 1, []), (4, 215, 3, 0, 0, []), (4, 216, 4, 0, 0, []), (4, 218, 5, 0, 0, []), (92, 220, 185, 6, 8, [(81658323, 10)]), (16, 223, 0, 0, 0, []), (95, 224, 0, 0, 0, [])],
  [(6, 225, 0, 0, 0, []), (6, 226, 2, 0, 0, []), (1, 227, 0, 0, 0, []), (4, 228, 3, 0, 0, []), (4, 229, 4, 0, 0, []), (4, 231, 5, 0, 0, []), (92, 233, 185, 6, 8, [(81658323, 10)]), (1, 236, 0, 0, 1, []), (11, 237, 0, 0, 0, []), (95, 238, 0, 0, 0, [])],
  [(6, 239, 0, 0, 0, []), (6, 240, 2, 0, 0, []), (1, 241, 0, 0, 2, []), (4, 242, 3, 0, 0, []), (4, 243, 4, 0, 0, []), (4, 245, 5, 0, 0, []), (92, 247, 185, 6, 8, [(81658323, 10)]), (6, 250, 0, 0, 0, []), (6, 251, 2, 0, 0, []), (1, 252, 0, 0, 0, []), (6, 253, 2, 0, 0, []), (60, 254, 20, 0, 16515247, []), (4, 257, 4, 0, 0, []), (4, 259, 5, 0, 0, []), (92, 261, 185, 6, 8, [(81658323, 10)]), (22, 264, 0, 0, 0, []), (95, 265, 0, 0, 0, [])],
  [(6, 266, 0, 0, 0, []), (6, 267, 2, 0, 0, []), (1, 268, 0, 0, 0, []), (6, 269, 2, 0, 0, []), (60, 270, 20, 0, 16515247, []), (4, 273, 4, 0, 0, []), (4, 275, 5, 0, 0, []), (92, 277, 185, 6, 8, [(81658323, 10)]), (6, 280, 0, 0, 0, []), (6, 281, 2, 0, 0, []), (1, 282, 0, 0, 1, []), (4, 283, 3, 0, 0, []), (4, 284, 4, 0, 0, []), (4, 286, 5, 0, 0, []), (92, 288, 185, 6, 8, [(81658323, 10)]), (12, 291, 0, 0, 0, []), (95, 292, 0, 0, 0, [])],
  [(1, 293, 0, 0, 0, []), (95, 294, 0, 0, 0, [])]]
/-! 185: EngraversHouse.runBody:(LEngraversHouse$Thing;IIII)I -/
set_option maxRecDepth 100000 in
noncomputable def zb185 : List (List zMI) := [
  [(4, 0, 5, 0, 0, []), (1, 2, 0, 0, 40, []), (51, 4, 1, 0, 0, []), (1, 7, 0, 0, 0, []), (95, 8, 0, 0, 0, [])],
  [(4, 9, 3, 0, 0, []), (7, 10, 6, 0, 0, []), (1, 12, 0, 0, 0, []), (7, 13, 7, 0, 0, []), (57, 15, 2, 0, 0, [])],
  [(4, 15, 7, 0, 0, []), (1, 17, 0, 0, 7, []), (50, 19, 3, 0, 0, []), (4, 22, 6, 0, 0, []), (45, 24, 3, 0, 0, []), (4, 27, 6, 0, 0, []), (4, 29, 2, 0, 0, []), (90, 30, 182, 2, 3, [(81920538, 10)]), (41, 33, 3, 0, 0, []), (4, 36, 6, 0, 0, []), (90, 38, 183, 1, 1, [(82248221, 10)]), (7, 41, 6, 0, 0, []), (10, 43, 7, 0, 1, []), (56, 46, 2, 0, 0, [])],
  [(4, 49, 6, 0, 0, []), (4, 51, 2, 0, 0, []), (90, 52, 182, 2, 3, [(81920538, 10)]), (7, 55, 7, 0, 0, []), (6, 57, 0, 0, 0, []), (60, 58, 10, 19, 10813533, []), (1, 61, 0, 0, 20, []), (49, 63, 4, 0, 0, []), (6, 66, 0, 0, 0, []), (61, 67, 10, 18, 10747994, []), (6, 70, 0, 0, 0, []), (60, 71, 10, 19, 10813533, []), (4, 74, 7, 0, 0, []), (68, 76, 0, 0, 0, []), (57, 77, 4, 0, 0, [])],
  [(6, 77, 0, 0, 0, []), (33, 78, 0, 0, 0, []), (60, 79, 10, 19, 10813533, []), (1, 82, 0, 0, 1, []), (11, 83, 0, 0, 0, []), (62, 84, 10, 19, 10813533, []), (6, 87, 0, 0, 0, []), (4, 88, 7, 0, 0, []), (6, 90, 1, 0, 0, []), (4, 91, 6, 0, 0, []), (90, 93, 183, 1, 1, [(82248221, 10)]), (4, 96, 4, 0, 0, []), (4, 98, 5, 0, 0, []), (1, 100, 0, 0, 1, []), (11, 101, 0, 0, 0, []), (92, 102, 184, 6, 6, [(82575904, 10)]), (95, 105, 0, 0, 0, [])]]
/-! 186: EngraversHouse.act:(III)I -/
set_option maxRecDepth 100000 in
noncomputable def zb186 : List (List zMI) := [
  [(6, 0, 0, 0, 0, []), (1, 1, 0, 0, 0, []), (62, 2, 10, 19, 10813533, []), (6, 5, 0, 0, 0, []), (4, 6, 1, 0, 0, []), (92, 7, 30, 2, 2, [(19267706, 10)]), (9, 10, 4, 0, 0, []), (6, 12, 4, 0, 0, []), (54, 14, 1, 0, 0, []), (4, 17, 2, 0, 0, []), (1, 18, 0, 0, 0, []), (1, 19, 0, 0, 2, []), (90, 20, 20, 3, 3, [(13828198, 10)]), (41, 23, 2, 0, 0, []), (57, 26, 1, 0, 0, [])],
  [(1, 26, 0, 0, 0, []), (95, 27, 0, 0, 0, [])],
  [(6, 28, 0, 0, 0, []), (6, 29, 4, 0, 0, []), (4, 31, 2, 0, 0, []), (6, 32, 4, 0, 0, []), (60, 34, 20, 0, 16515247, []), (4, 37, 3, 0, 0, []), (1, 38, 0, 0, 0, []), (92, 39, 185, 6, 8, [(81658323, 10)]), (95, 42, 0, 0, 0, [])]]
/-! 187: EngraversHouse.trace:(I)I -/
set_option maxRecDepth 100000 in
noncomputable def zb187 : List (List zMI) := [
  [(4, 0, 1, 0, 0, []), (1, 1, 0, 0, 0, []), (6, 2, 0, 0, 0, []), (60, 3, 10, 19, 10813533, []), (1, 6, 0, 0, 20, []), (37, 8, 0, 0, 73859460, []), (1, 11, 0, 0, 1, []), (12, 12, 0, 0, 0, []), (90, 13, 20, 3, 3, [(13828198, 10)]), (40, 16, 1, 0, 0, []), (6, 19, 0, 0, 0, []), (61, 20, 10, 18, 10747994, []), (4, 23, 1, 0, 0, []), (65, 24, 0, 0, 0, []), (56, 25, 2, 0, 0, [])],
  [(1, 28, 0, 0, (-1), []), (57, 29, 2, 0, 0, [])],
  [(95, 29, 0, 0, 0, [])]]
/-! 188: EngraversHouse.isUnder:(II)Z -/
set_option maxRecDepth 100000 in
noncomputable def zb188 : List (List zMI) := [
  [(4, 0, 0, 0, 0, []), (7, 1, 2, 0, 0, []), (1, 2, 0, 0, 0, []), (7, 3, 3, 0, 0, []), (57, 4, 1, 0, 0, [])],
  [(4, 4, 3, 0, 0, []), (1, 5, 0, 0, 7, []), (50, 7, 2, 0, 0, []), (4, 10, 2, 0, 0, []), (45, 11, 2, 0, 0, []), (4, 14, 2, 0, 0, []), (4, 15, 1, 0, 0, []), (46, 16, 2, 0, 0, []), (80, 19, 13, 0, 82444820, []), (4, 22, 2, 0, 0, []), (65, 23, 0, 0, 0, []), (7, 24, 2, 0, 0, []), (10, 25, 3, 0, 1, []), (56, 28, 1, 0, 0, [])],
  [(4, 31, 2, 0, 0, []), (4, 32, 1, 0, 0, []), (47, 33, 3, 0, 0, []), (1, 36, 0, 0, 1, []), (56, 37, 4, 0, 0, [])],
  [(1, 40, 0, 0, 0, []), (57, 41, 4, 0, 0, [])],
  [(96, 41, 0, 0, 0, [])]]
/-! 189: EngraversHouse.taken:(II)I -/
set_option maxRecDepth 100000 in
noncomputable def zb189 : List (List zMI) := [
  [(4, 0, 2, 0, 0, []), (1, 1, 0, 0, 0, []), (1, 2, 0, 0, 7, []), (90, 4, 20, 3, 3, [(13828198, 10)]), (41, 7, 1, 0, 0, []), (1, 10, 0, 0, (-2), []), (95, 12, 0, 0, 0, [])],
  [(6, 13, 0, 0, 0, []), (4, 14, 1, 0, 0, []), (92, 15, 30, 2, 2, [(19267706, 10)]), (9, 18, 3, 0, 0, []), (6, 19, 3, 0, 0, []), (55, 20, 2, 0, 0, []), (1, 23, 0, 0, (-11), []), (95, 25, 0, 0, 0, [])],
  [(6, 26, 3, 0, 0, []), (60, 27, 20, 0, 16515247, []), (4, 30, 2, 0, 0, []), (90, 31, 188, 2, 4, [(83362263, 10)]), (40, 34, 3, 0, 0, []), (6, 37, 3, 0, 0, []), (60, 38, 20, 0, 16515247, []), (56, 41, 4, 0, 0, [])],
  [(1, 44, 0, 0, (-12), []), (57, 46, 4, 0, 0, [])],
  [(95, 46, 0, 0, 0, [])]]
/-! 190: EngraversHouse.count:(I)I -/
set_option maxRecDepth 100000 in
noncomputable def zb190 : List (List zMI) := [
  [(4, 0, 1, 0, 0, []), (58, 1, 10, 0, 0, [(0, 1), (1, 2), (2, 3), (3, 4), (4, 5), (5, 6), (6, 7), (7, 8), (8, 9)])],
  [(6, 52, 0, 0, 0, []), (60, 53, 10, 0, 9568265, []), (95, 56, 0, 0, 0, [])],
  [(6, 57, 0, 0, 0, []), (60, 58, 10, 2, 9699347, []), (95, 61, 0, 0, 0, [])],
  [(6, 62, 0, 0, 0, []), (60, 63, 10, 4, 9830428, []), (95, 66, 0, 0, 0, [])],
  [(6, 67, 0, 0, 0, []), (60, 68, 10, 12, 10354750, []), (95, 71, 0, 0, 0, [])],
  [(6, 72, 0, 0, 0, []), (60, 73, 10, 10, 10223669, []), (95, 76, 0, 0, 0, [])],
  [(6, 77, 0, 0, 0, []), (60, 78, 10, 7, 10027048, []), (95, 81, 0, 0, 0, [])],
  [(6, 82, 0, 0, 0, []), (61, 83, 10, 13, 10420292, []), (60, 86, 9, 1, 4915610, []), (95, 89, 0, 0, 0, [])],
  [(6, 90, 0, 0, 0, []), (61, 91, 10, 14, 10485835, []), (60, 94, 7, 3, 7733674, []), (95, 97, 0, 0, 0, [])],
  [(6, 98, 0, 0, 0, []), (60, 99, 10, 19, 10813533, []), (95, 102, 0, 0, 0, [])],
  [(1, 103, 0, 0, (-2), []), (95, 105, 0, 0, 0, [])]]
/-! 191: EngraversHouse.tape:(III)I -/
set_option maxRecDepth 100000 in
noncomputable def zb191 : List (List zMI) := [
  [(4, 0, 1, 0, 0, []), (90, 1, 53, 1, 1, [(26149032, 10)]), (41, 4, 1, 0, 0, []), (1, 7, 0, 0, (-1), []), (95, 8, 0, 0, 0, [])],
  [(4, 9, 2, 0, 0, []), (1, 10, 0, 0, (-1), []), (1, 11, 0, 0, 3, []), (90, 12, 20, 3, 3, [(13828198, 10)]), (40, 15, 2, 0, 0, []), (4, 18, 2, 0, 0, []), (1, 19, 0, 0, (-1), []), (46, 20, 3, 0, 0, []), (4, 23, 3, 0, 0, []), (1, 24, 0, 0, 60, []), (51, 26, 3, 0, 0, []), (57, 29, 2, 0, 0, [])],
  [(1, 29, 0, 0, (-2), []), (95, 31, 0, 0, 0, [])],
  [(4, 32, 2, 0, 0, []), (1, 33, 0, 0, (-1), []), (46, 34, 4, 0, 0, []), (4, 37, 3, 0, 0, []), (43, 38, 4, 0, 0, []), (1, 41, 0, 0, (-14), []), (95, 43, 0, 0, 0, [])],
  [(6, 44, 0, 0, 0, []), (61, 45, 10, 16, 10616916, []), (4, 48, 1, 0, 0, []), (4, 49, 2, 0, 0, []), (68, 50, 0, 0, 0, []), (6, 51, 0, 0, 0, []), (61, 52, 10, 17, 10682455, []), (4, 55, 1, 0, 0, []), (4, 56, 2, 0, 0, []), (1, 57, 0, 0, (-1), []), (47, 58, 5, 0, 0, []), (1, 61, 0, 0, 0, []), (56, 62, 6, 0, 0, [])],
  [(4, 65, 3, 0, 0, []), (57, 66, 6, 0, 0, [])],
  [(68, 66, 0, 0, 0, []), (6, 67, 0, 0, 0, []), (61, 68, 10, 15, 10551377, []), (4, 71, 1, 0, 0, []), (67, 72, 0, 0, 0, []), (1, 73, 0, 0, 0, []), (90, 74, 2, 2, 4, [(9502816, 99)]), (1, 77, 0, 0, 1, []), (95, 78, 0, 0, 0, [])]]
/-! 192: EngraversHouse.asItem:(II)I -/
set_option maxRecDepth 100000 in
noncomputable def zb192 : List (List zMI) := [
  [(4, 0, 0, 0, 0, []), (58, 1, 6, 0, 0, [(0, 1), (1, 2), (2, 6), (3, 3)])],
  [(4, 32, 1, 0, 0, []), (25, 33, 0, 0, 0, []), (95, 34, 0, 0, 0, [])],
  [(4, 35, 1, 0, 0, []), (26, 36, 0, 0, 0, []), (95, 37, 0, 0, 0, [])],
  [(4, 38, 1, 0, 0, []), (41, 39, 4, 0, 0, []), (1, 42, 0, 0, 0, []), (56, 43, 5, 0, 0, [])],
  [(1, 46, 0, 0, 1, []), (57, 47, 5, 0, 0, [])],
  [(95, 47, 0, 0, 0, [])],
  [(4, 48, 1, 0, 0, []), (95, 49, 0, 0, 0, [])]]
/-! 193: EngraversHouse.item:(III)I -/
set_option maxRecDepth 100000 in
noncomputable def zb193 : List (List zMI) := [
  [(4, 0, 1, 0, 0, []), (90, 1, 53, 1, 1, [(26149032, 10)]), (41, 4, 1, 0, 0, []), (1, 7, 0, 0, (-1), []), (95, 8, 0, 0, 0, [])],
  [(6, 9, 0, 0, 0, []), (61, 10, 10, 16, 10616916, []), (4, 13, 1, 0, 0, []), (65, 14, 0, 0, 0, []), (1, 15, 0, 0, (-1), []), (47, 16, 2, 0, 0, []), (1, 19, 0, 0, (-11), []), (95, 21, 0, 0, 0, [])],
  [(6, 22, 0, 0, 0, []), (4, 23, 1, 0, 0, []), (4, 24, 2, 0, 0, []), (23, 25, 0, 0, 0, []), (2, 26, 0, 0, 1, []), (92, 27, 54, 4, 6, [(26608090, 10)]), (41, 30, 3, 0, 0, []), (1, 33, 0, 0, (-13), []), (95, 35, 0, 0, 0, [])],
  [(6, 36, 0, 0, 0, []), (61, 37, 10, 15, 10551377, []), (4, 40, 1, 0, 0, []), (67, 41, 0, 0, 0, []), (4, 42, 2, 0, 0, []), (6, 43, 0, 0, 0, []), (61, 44, 10, 16, 10616916, []), (4, 47, 1, 0, 0, []), (65, 48, 0, 0, 0, []), (4, 49, 3, 0, 0, []), (90, 50, 192, 2, 2, [(84345310, 10)]), (68, 53, 0, 0, 0, []), (1, 54, 0, 0, 1, []), (95, 55, 0, 0, 0, [])]]
/-! 194: EngraversHouse.read:(II)J -/
set_option maxRecDepth 100000 in
noncomputable def zb194 : List (List zMI) := [
  [(4, 0, 1, 0, 0, []), (90, 1, 53, 1, 1, [(26149032, 10)]), (40, 4, 1, 0, 0, []), (6, 7, 0, 0, 0, []), (4, 8, 1, 0, 0, []), (4, 9, 2, 0, 0, []), (23, 10, 0, 0, 0, []), (2, 11, 0, 0, 1, []), (92, 12, 54, 4, 6, [(26608090, 10)]), (40, 15, 1, 0, 0, []), (6, 18, 0, 0, 0, []), (61, 19, 10, 15, 10551377, []), (4, 22, 1, 0, 0, []), (67, 23, 0, 0, 0, []), (4, 24, 2, 0, 0, []), (65, 25, 0, 0, 0, []), (23, 26, 0, 0, 0, []), (56, 27, 2, 0, 0, [])],
  [(2, 30, 0, 80871886, (-9223372036854775808), []), (57, 33, 2, 0, 0, [])],
  [(99, 33, 0, 0, 0, [])]]
/-! 195: EngraversHouse.shift:(IIIII)I -/
set_option maxRecDepth 100000 in
noncomputable def zb195 : List (List zMI) := [
  [(4, 0, 1, 0, 0, []), (90, 1, 53, 1, 1, [(26149032, 10)]), (40, 4, 1, 0, 0, []), (4, 7, 3, 0, 0, []), (90, 8, 53, 1, 1, [(26149032, 10)]), (41, 11, 2, 0, 0, []), (57, 14, 1, 0, 0, [])],
  [(1, 14, 0, 0, (-1), []), (95, 15, 0, 0, 0, [])],
  [(6, 16, 0, 0, 0, []), (61, 17, 10, 16, 10616916, []), (4, 20, 1, 0, 0, []), (65, 21, 0, 0, 0, []), (1, 22, 0, 0, (-1), []), (46, 23, 3, 0, 0, []), (6, 26, 0, 0, 0, []), (61, 27, 10, 16, 10616916, []), (4, 30, 3, 0, 0, []), (65, 31, 0, 0, 0, []), (1, 32, 0, 0, (-1), []), (47, 33, 4, 0, 0, []), (57, 36, 3, 0, 0, [])],
  [(1, 36, 0, 0, (-11), []), (95, 38, 0, 0, 0, [])],
  [(6, 39, 0, 0, 0, []), (61, 40, 10, 16, 10616916, []), (4, 43, 1, 0, 0, []), (65, 44, 0, 0, 0, []), (6, 45, 0, 0, 0, []), (61, 46, 10, 16, 10616916, []), (4, 49, 3, 0, 0, []), (65, 50, 0, 0, 0, []), (46, 51, 5, 0, 0, []), (1, 54, 0, 0, (-12), []), (95, 56, 0, 0, 0, [])],
  [(6, 57, 0, 0, 0, []), (4, 58, 1, 0, 0, []), (4, 59, 2, 0, 0, []), (23, 60, 0, 0, 0, []), (4, 61, 5, 0, 0, []), (23, 63, 0, 0, 0, []), (92, 64, 54, 4, 6, [(26608090, 10)]), (40, 67, 6, 0, 0, []), (6, 70, 0, 0, 0, []), (4, 71, 3, 0, 0, []), (4, 72, 4, 0, 0, []), (23, 74, 0, 0, 0, []), (4, 75, 5, 0, 0, []), (23, 77, 0, 0, 0, []), (92, 78, 54, 4, 6, [(26608090, 10)]), (41, 81, 7, 0, 0, []), (57, 84, 6, 0, 0, [])],
  [(1, 84, 0, 0, (-13), []), (95, 86, 0, 0, 0, [])],
  [(6, 87, 0, 0, 0, []), (61, 88, 10, 15, 10551377, []), (4, 91, 1, 0, 0, []), (67, 92, 0, 0, 0, []), (4, 93, 2, 0, 0, []), (6, 94, 0, 0, 0, []), (61, 95, 10, 15, 10551377, []), (4, 98, 3, 0, 0, []), (67, 99, 0, 0, 0, []), (4, 100, 4, 0, 0, []), (4, 102, 5, 0, 0, []), (83, 104, 0, 0, 85066209, []), (4, 107, 5, 0, 0, []), (95, 109, 0, 0, 0, [])]]
/-! 196: EngraversHouseModel.in:(III)Z -/
set_option maxRecDepth 100000 in
noncomputable def zb196 : List (List zMI) := [
  [(4, 0, 0, 0, 0, []), (4, 1, 1, 0, 0, []), (48, 2, 1, 0, 0, []), (4, 5, 0, 0, 0, []), (4, 6, 2, 0, 0, []), (50, 7, 1, 0, 0, []), (1, 10, 0, 0, 1, []), (56, 11, 2, 0, 0, [])],
  [(1, 14, 0, 0, 0, []), (57, 15, 2, 0, 0, [])],
  [(96, 15, 0, 0, 0, [])]]
/-! 197: EngraversHouseModel.isDay:(I)Z -/
set_option maxRecDepth 100000 in
noncomputable def zb197 : List (List zMI) := [
  [(4, 0, 0, 0, 0, []), (1, 1, 0, 0, 0, []), (1, 2, 0, 0, 9999, []), (90, 5, 196, 3, 3, [(101974025, 11)]), (96, 8, 0, 0, 0, [])]]
/-! 198: EngraversHouseModel.<init>:()V -/
set_option maxRecDepth 100000 in
noncomputable def zb198 : List (List zMI) := [
  [(6, 0, 0, 0, 0, []), (82, 1, 0, 0, 85458957, []), (6, 4, 0, 0, 0, []), (1, 5, 0, 0, 60, []), (74, 7, 30, 0, 0, []), (64, 9, 11, 3, 85721107, []), (6, 12, 0, 0, 0, []), (1, 13, 0, 0, 60, []), (74, 15, 30, 0, 0, []), (64, 17, 11, 4, 85786647, []), (6, 20, 0, 0, 0, []), (1, 21, 0, 0, 60, []), (74, 23, 30, 0, 0, []), (64, 25, 11, 5, 85852186, []), (6, 28, 0, 0, 0, []), (1, 29, 0, 0, 60, []), (74, 31, 30, 0, 0, []), (64, 33, 11, 6, 85917725, []), (6, 36, 0, 0, 0, []), (1, 37, 0, 0, 60, []), (74, 39, 30, 0, 0, []), (64, 41, 11, 7, 85983264, []), (6, 44, 0, 0, 0, []), (1, 45, 0, 0, 12, []), (74, 47, 30, 0, 0, []), (64, 49, 11, 9, 86114339, []), (6, 52, 0, 0, 0, []), (1, 53, 0, 85524518, 38400, []), (74, 55, 30, 0, 0, []), (64, 57, 11, 10, 86179879, []), (6, 60, 0, 0, 0, []), (1, 61, 0, 85524518, 38400, []), (74, 63, 30, 0, 0, []), (64, 65, 11, 11, 86245418, []), (6, 68, 0, 0, 0, []), (1, 69, 0, 85524518, 38400, []), (74, 71, 30, 0, 0, []), (64, 73, 11, 12, 86310957, []), (6, 76, 0, 0, 0, []), (1, 77, 0, 0, 4800, []), (74, 80, 30, 0, 0, []), (64, 82, 11, 13, 86376496, []), (6, 85, 0, 0, 0, []), (1, 86, 0, 0, 240, []), (74, 89, 30, 0, 0, []), (64, 91, 11, 14, 86442035, []), (6, 94, 0, 0, 0, []), (1, 95, 0, 0, 8, []), (74, 97, 30, 0, 0, []), (64, 99, 11, 17, 86638646, []), (6, 102, 0, 0, 0, []), (1, 103, 0, 0, 8, []), (74, 105, 30, 0, 0, []), (64, 107, 11, 18, 86704185, []), (6, 110, 0, 0, 0, []), (1, 111, 0, 0, 8, []), (74, 113, 30, 0, 0, []), (64, 115, 11, 19, 86769724, []), (6, 118, 0, 0, 0, []), (1, 119, 0, 0, 3840, []), (74, 122, 30, 0, 0, []), (64, 124, 11, 20, 86835263, []), (6, 127, 0, 0, 0, []), (1, 128, 0, 0, 3840, []), (74, 131, 30, 0, 0, []), (64, 133, 11, 21, 86900802, []), (6, 136, 0, 0, 0, []), (1, 137, 0, 0, 3840, []), (74, 140, 30, 0, 0, []), (64, 142, 11, 22, 86966341, []), (6, 145, 0, 0, 0, []), (1, 146, 0, 0, 480, []), (74, 149, 30, 0, 0, []), (64, 151, 11, 23, 87031880, []), (6, 154, 0, 0, 0, []), (1, 155, 0, 0, 12, []), (74, 157, 30, 0, 0, []), (64, 159, 11, 25, 87162955, []), (6, 162, 0, 0, 0, []), (1, 163, 0, 85524518, 38400, []), (74, 165, 30, 0, 0, []), (64, 167, 11, 26, 87228494, []), (6, 170, 0, 0, 0, []), (1, 171, 0, 85524518, 38400, []), (74, 173, 30, 0, 0, []), (64, 175, 11, 27, 87294033, []), (6, 178, 0, 0, 0, []), (1, 179, 0, 85524518, 38400, []), (74, 181, 30, 0, 0, []), (64, 183, 11, 28, 87359572, []), (6, 186, 0, 0, 0, []), (1, 187, 0, 0, 4800, []), (74, 190, 30, 0, 0, []), (64, 192, 11, 29, 87425111, []), (6, 195, 0, 0, 0, []), (1, 196, 0, 0, 60, []), (74, 198, 30, 0, 0, []), (64, 200, 11, 30, 87490650, []), (6, 203, 0, 0, 0, []), (1, 204, 0, 0, 60, []), (74, 206, 30, 0, 0, []), (64, 208, 11, 31, 87556189, []), (6, 211, 0, 0, 0, []), (1, 212, 0, 0, 60, []), (74, 214, 30, 0, 0, []), (64, 216, 11, 32, 87621728, []), (6, 219, 0, 0, 0, []), (1, 220, 0, 0, 20, []), (74, 222, 30, 0, 0, []), (64, 224, 11, 33, 87687267, []), (6, 227, 0, 0, 0, []), (1, 228, 0, 0, 20, []), (74, 230, 30, 0, 0, []), (64, 232, 11, 34, 87752806, []), (6, 235, 0, 0, 0, []), (1, 236, 0, 0, 441, []), (74, 239, 30, 0, 0, []), (64, 241, 11, 35, 87818345, []), (6, 244, 0, 0, 0, []), (1, 245, 0, 0, 60, []), (74, 247, 31, 0, 0, []), (64, 249, 11, 36, 87883884, []), (6, 252, 0, 0, 0, []), (1, 253, 0, 0, 20, []), (74, 255, 30, 0, 0, []), (64, 257, 11, 37, 87949424, []), (6, 260, 0, 0, 0, []), (1, 261, 0, 0, 20, []), (74, 263, 31, 0, 0, []), (64, 265, 11, 38, 88014963, []), (6, 268, 0, 0, 0, []), (1, 269, 0, 0, 20, []), (74, 271, 31, 0, 0, []), (64, 273, 11, 39, 88080502, []), (6, 276, 0, 0, 0, []), (1, 277, 0, 0, 84, []), (74, 279, 30, 0, 0, []), (64, 281, 11, 40, 88146041, []), (6, 284, 0, 0, 0, []), (1, 285, 0, 0, 84, []), (74, 287, 30, 0, 0, []), (64, 289, 11, 41, 88211580, []), (6, 292, 0, 0, 0, []), (1, 293, 0, 0, 120, []), (74, 295, 32, 0, 0, []), (64, 297, 11, 42, 88277119, []), (6, 300, 0, 0, 0, []), (1, 301, 0, 0, 13, []), (74, 303, 30, 0, 0, []), (64, 305, 11, 45, 88473731, []), (6, 308, 0, 0, 0, []), (1, 309, 0, 0, 13, []), (74, 311, 30, 0, 0, []), (64, 313, 11, 46, 88539270, []), (6, 316, 0, 0, 0, []), (1, 317, 0, 0, 13, []), (74, 319, 30, 0, 0, []), (64, 321, 11, 47, 88604809, []), (6, 324, 0, 0, 0, []), (1, 325, 0, 0, 13, []), (74, 327, 30, 0, 0, []), (64, 329, 11, 48, 88670348, []), (6, 332, 0, 0, 0, []), (1, 333, 0, 0, 13, []), (74, 335, 30, 0, 0, []), (64, 337, 11, 49, 88735887, []), (6, 340, 0, 0, 0, []), (1, 341, 0, 0, 104, []), (74, 343, 30, 0, 0, []), (64, 345, 11, 50, 88801426, []), (6, 348, 0, 0, 0, []), (1, 349, 0, 0, 104, []), (74, 351, 30, 0, 0, []), (64, 353, 11, 51, 88866965, []), (6, 356, 0, 0, 0, []), (1, 357, 0, 0, 104, []), (74, 359, 30, 0, 0, []), (64, 361, 11, 52, 88932504, []), (6, 364, 0, 0, 0, []), (1, 365, 0, 0, 104, []), (74, 367, 30, 0, 0, []), (64, 369, 11, 53, 88998043, []), (6, 372, 0, 0, 0, []), (1, 373, 0, 0, 104, []), (74, 375, 30, 0, 0, []), (64, 377, 11, 54, 89063582, []), (6, 380, 0, 0, 0, []), (1, 381, 0, 0, 1820, []), (74, 384, 30, 0, 0, []), (64, 386, 11, 55, 89129121, []), (6, 389, 0, 0, 0, []), (1, 390, 0, 0, 1820, []), (74, 393, 30, 0, 0, []), (64, 395, 11, 56, 89194660, []), (6, 398, 0, 0, 0, []), (1, 399, 0, 0, 130, []), (74, 402, 31, 0, 0, []), (64, 404, 11, 62, 89587879, []), (6, 407, 0, 0, 0, []), (1, 408, 0, 0, 36, []), (74, 410, 30, 0, 0, []), (64, 412, 11, 63, 89653418, []), (6, 415, 0, 0, 0, []), (1, 416, 0, 0, 60, []), (74, 418, 30, 0, 0, []), (64, 420, 11, 64, 89718957, []), (6, 423, 0, 0, 0, []), (1, 424, 0, 0, 9, []), (74, 426, 30, 0, 0, []), (64, 428, 11, 66, 89850032, []), (6, 431, 0, 0, 0, []), (1, 432, 0, 0, 9, []), (74, 434, 30, 0, 0, []), (64, 436, 11, 67, 89915571, []), (6, 439, 0, 0, 0, []), (1, 440, 0, 0, 9, []), (74, 442, 30, 0, 0, []), (64, 444, 11, 68, 89981110, []), (6, 447, 0, 0, 0, []), (1, 448, 0, 0, 9, []), (74, 450, 30, 0, 0, []), (64, 452, 11, 69, 90046649, []), (6, 455, 0, 0, 0, []), (1, 456, 0, 0, 10, []), (74, 458, 30, 0, 0, []), (64, 460, 11, 71, 90177724, []), (6, 463, 0, 0, 0, []), (1, 464, 0, 0, 240, []), (74, 467, 30, 0, 0, []), (64, 469, 11, 75, 90439871, []), (6, 472, 0, 0, 0, []), (1, 473, 0, 0, 20, []), (74, 475, 30, 0, 0, []), (64, 477, 11, 77, 90570946, []), (6, 480, 0, 0, 0, []), (1, 481, 0, 0, 6, []), (74, 483, 30, 0, 0, []), (64, 485, 11, 78, 90636485, []), (6, 488, 0, 0, 0, []), (1, 489, 0, 0, 6, []), (74, 491, 30, 0, 0, []), (64, 493, 11, 79, 90702024, []), (6, 496, 0, 0, 0, []), (1, 497, 0, 0, 360, []), (74, 500, 30, 0, 0, []), (64, 502, 11, 80, 90767563, []), (6, 505, 0, 0, 0, []), (1, 506, 0, 0, 60, []), (74, 508, 30, 0, 0, []), (64, 510, 11, 81, 90833102, []), (1, 513, 0, 0, 0, []), (7, 514, 1, 0, 0, []), (57, 515, 1, 0, 0, [])],
  [(4, 515, 1, 0, 0, []), (1, 516, 0, 0, 6, []), (49, 518, 2, 0, 0, []), (6, 521, 0, 0, 0, []), (61, 522, 11, 78, 90636485, []), (4, 525, 1, 0, 0, []), (1, 526, 0, 0, (-1), []), (68, 527, 0, 0, 0, []), (10, 528, 1, 0, 1, []), (56, 531, 1, 0, 0, [])],
  [(1, 534, 0, 0, 0, []), (7, 535, 1, 0, 0, []), (57, 536, 3, 0, 0, [])],
  [(4, 536, 1, 0, 0, []), (1, 537, 0, 0, 12, []), (49, 539, 4, 0, 0, []), (6, 542, 0, 0, 0, []), (61, 543, 11, 9, 86114339, []), (4, 546, 1, 0, 0, []), (1, 547, 0, 0, (-1), []), (68, 548, 0, 0, 0, []), (10, 549, 1, 0, 1, []), (56, 552, 3, 0, 0, [])],
  [(1, 555, 0, 0, 0, []), (7, 556, 1, 0, 0, []), (57, 557, 5, 0, 0, [])],
  [(4, 557, 1, 0, 0, []), (1, 558, 0, 0, 6, []), (49, 560, 10, 0, 0, []), (1, 563, 0, 0, 0, []), (7, 564, 2, 0, 0, []), (57, 565, 6, 0, 0, [])],
  [(4, 565, 2, 0, 0, []), (1, 566, 0, 0, 6, []), (49, 568, 9, 0, 0, []), (6, 571, 0, 0, 0, []), (61, 572, 11, 63, 89653418, []), (1, 575, 0, 0, 6, []), (4, 577, 1, 0, 0, []), (13, 578, 0, 0, 0, []), (4, 579, 2, 0, 0, []), (11, 580, 0, 0, 0, []), (4, 581, 1, 0, 0, []), (4, 582, 2, 0, 0, []), (47, 583, 7, 0, 0, []), (1, 586, 0, 0, 0, []), (56, 587, 8, 0, 0, [])],
  [(1, 590, 0, 0, 1, []), (57, 591, 8, 0, 0, [])],
  [(68, 591, 0, 0, 0, []), (10, 592, 2, 0, 1, []), (56, 595, 6, 0, 0, [])],
  [(10, 598, 1, 0, 1, []), (56, 601, 5, 0, 0, [])],
  [(1, 604, 0, 0, 0, []), (7, 605, 1, 0, 0, []), (57, 606, 11, 0, 0, [])],
  [(4, 606, 1, 0, 0, []), (1, 607, 0, 0, 4800, []), (49, 610, 12, 0, 0, []), (6, 613, 0, 0, 0, []), (61, 614, 11, 29, 87425111, []), (4, 617, 1, 0, 0, []), (1, 618, 0, 0, (-1), []), (68, 619, 0, 0, 0, []), (10, 620, 1, 0, 1, []), (56, 623, 11, 0, 0, [])],
  [(1, 626, 0, 0, 0, []), (7, 627, 1, 0, 0, []), (57, 628, 13, 0, 0, [])],
  [(4, 628, 1, 0, 0, []), (1, 629, 0, 0, 240, []), (49, 632, 14, 0, 0, []), (6, 635, 0, 0, 0, []), (61, 636, 11, 75, 90439871, []), (4, 639, 1, 0, 0, []), (1, 640, 0, 0, (-1), []), (68, 641, 0, 0, 0, []), (10, 642, 1, 0, 1, []), (56, 645, 13, 0, 0, [])],
  [(6, 648, 0, 0, 0, []), (1, 649, 0, 0, (-1), []), (62, 650, 11, 15, 86507729, []), (6, 653, 0, 0, 0, []), (1, 654, 0, 0, 9999, []), (62, 657, 11, 74, 90374356, []), (101, 660, 0, 0, 0, [])]]
/-! 199: EngraversHouseModel.isThing:(I)Z -/
set_option maxRecDepth 100000 in
noncomputable def zb199 : List (List zMI) := [
  [(4, 0, 1, 0, 0, []), (1, 1, 0, 0, 0, []), (6, 2, 0, 0, 0, []), (60, 3, 11, 2, 85655767, []), (1, 6, 0, 0, 1, []), (12, 7, 0, 0, 0, []), (90, 8, 196, 3, 3, [(101974025, 11)]), (96, 11, 0, 0, 0, [])]]
/-! 200: EngraversHouseModel.isUnder:(II)Z -/
set_option maxRecDepth 100000 in
noncomputable def zb200 : List (List zMI) := [
  [(4, 0, 1, 0, 0, []), (40, 1, 1, 0, 0, []), (4, 4, 0, 0, 0, []), (4, 5, 1, 0, 0, []), (47, 6, 2, 0, 0, []), (57, 9, 1, 0, 0, [])],
  [(1, 9, 0, 0, 1, []), (96, 10, 0, 0, 0, [])],
  [(4, 11, 1, 0, 0, []), (1, 12, 0, 0, 1, []), (47, 13, 6, 0, 0, []), (4, 16, 0, 0, 0, []), (1, 17, 0, 0, 2, []), (46, 18, 3, 0, 0, []), (4, 21, 0, 0, 0, []), (1, 22, 0, 0, 5, []), (46, 23, 3, 0, 0, []), (4, 26, 0, 0, 0, []), (1, 27, 0, 0, 6, []), (47, 29, 4, 0, 0, []), (57, 32, 3, 0, 0, [])],
  [(1, 32, 0, 0, 1, []), (56, 33, 5, 0, 0, [])],
  [(1, 36, 0, 0, 0, []), (57, 37, 5, 0, 0, [])],
  [(96, 37, 0, 0, 0, [])],
  [(4, 38, 1, 0, 0, []), (1, 39, 0, 0, 2, []), (47, 40, 7, 0, 0, []), (4, 43, 0, 0, 0, []), (1, 44, 0, 0, 5, []), (47, 45, 7, 0, 0, []), (1, 48, 0, 0, 1, []), (56, 49, 8, 0, 0, [])],
  [(1, 52, 0, 0, 0, []), (57, 53, 8, 0, 0, [])],
  [(96, 53, 0, 0, 0, [])]]
/-! 201: EngraversHouseModel.isMusic:(I)Z -/
set_option maxRecDepth 100000 in
noncomputable def zb201 : List (List zMI) := [
  [(6, 0, 0, 0, 0, []), (61, 1, 11, 3, 85721107, []), (4, 4, 1, 0, 0, []), (65, 5, 0, 0, 0, []), (1, 6, 0, 0, 1, []), (46, 7, 1, 0, 0, []), (6, 10, 0, 0, 0, []), (61, 11, 11, 3, 85721107, []), (4, 14, 1, 0, 0, []), (65, 15, 0, 0, 0, []), (1, 16, 0, 0, 6, []), (47, 18, 2, 0, 0, []), (57, 21, 1, 0, 0, [])],
  [(1, 21, 0, 0, 1, []), (56, 22, 3, 0, 0, [])],
  [(1, 25, 0, 0, 0, []), (57, 26, 3, 0, 0, [])],
  [(96, 26, 0, 0, 0, [])]]
/-! 202: EngraversHouseModel.isPart:(I)Z -/
set_option maxRecDepth 100000 in
noncomputable def zb202 : List (List zMI) := [
  [(6, 0, 0, 0, 0, []), (61, 1, 11, 3, 85721107, []), (4, 4, 1, 0, 0, []), (65, 5, 0, 0, 0, []), (1, 6, 0, 0, 2, []), (46, 7, 1, 0, 0, []), (6, 10, 0, 0, 0, []), (61, 11, 11, 3, 85721107, []), (4, 14, 1, 0, 0, []), (65, 15, 0, 0, 0, []), (1, 16, 0, 0, 5, []), (47, 17, 2, 0, 0, []), (57, 20, 1, 0, 0, [])],
  [(1, 20, 0, 0, 1, []), (56, 21, 3, 0, 0, [])],
  [(1, 24, 0, 0, 0, []), (57, 25, 3, 0, 0, [])],
  [(96, 25, 0, 0, 0, [])]]
/-! 203: EngraversHouseModel.add:(IIII)I -/
set_option maxRecDepth 100000 in
noncomputable def zb203 : List (List zMI) := [
  [(6, 0, 0, 0, 0, []), (60, 1, 11, 2, 85655767, []), (7, 4, 5, 0, 0, []), (6, 6, 0, 0, 0, []), (61, 7, 11, 3, 85721107, []), (4, 10, 5, 0, 0, []), (4, 12, 1, 0, 0, []), (68, 13, 0, 0, 0, []), (6, 14, 0, 0, 0, []), (61, 15, 11, 4, 85786647, []), (4, 18, 5, 0, 0, []), (4, 20, 2, 0, 0, []), (68, 21, 0, 0, 0, []), (6, 22, 0, 0, 0, []), (61, 23, 11, 5, 85852186, []), (4, 26, 5, 0, 0, []), (4, 28, 3, 0, 0, []), (68, 29, 0, 0, 0, []), (6, 30, 0, 0, 0, []), (61, 31, 11, 6, 85917725, []), (4, 34, 5, 0, 0, []), (4, 36, 4, 0, 0, []), (68, 38, 0, 0, 0, []), (6, 39, 0, 0, 0, []), (33, 40, 0, 0, 0, []), (60, 41, 11, 2, 85655767, []), (1, 44, 0, 0, 1, []), (11, 45, 0, 0, 0, []), (62, 46, 11, 2, 85655767, []), (4, 49, 5, 0, 0, []), (95, 51, 0, 0, 0, [])]]
/-! 204: EngraversHouseModel.pass:(I)I -/
set_option maxRecDepth 100000 in
noncomputable def zb204 : List (List zMI) := [
  [(4, 0, 1, 0, 0, []), (1, 1, 0, 0, 1, []), (1, 2, 0, 0, 400, []), (90, 5, 196, 3, 3, [(101974025, 11)]), (40, 8, 1, 0, 0, []), (6, 11, 0, 0, 0, []), (60, 12, 11, 1, 85590234, []), (4, 15, 1, 0, 0, []), (11, 16, 0, 0, 0, []), (1, 17, 0, 0, 9999, []), (51, 20, 2, 0, 0, []), (57, 23, 1, 0, 0, [])],
  [(1, 23, 0, 0, (-2), []), (95, 25, 0, 0, 0, [])],
  [(6, 26, 0, 0, 0, []), (33, 27, 0, 0, 0, []), (60, 28, 11, 1, 85590234, []), (4, 31, 1, 0, 0, []), (11, 32, 0, 0, 0, []), (62, 33, 11, 1, 85590234, []), (6, 36, 0, 0, 0, []), (60, 37, 11, 1, 85590234, []), (95, 40, 0, 0, 0, [])]]
/-! 205: EngraversHouseModel.isAuthor:(I)Z -/
set_option maxRecDepth 100000 in
noncomputable def zb205 : List (List zMI) := [
  [(4, 0, 1, 0, 0, []), (1, 1, 0, 0, 0, []), (6, 2, 0, 0, 0, []), (60, 3, 11, 8, 86048989, []), (1, 6, 0, 0, 1, []), (12, 7, 0, 0, 0, []), (90, 8, 196, 3, 3, [(101974025, 11)]), (96, 11, 0, 0, 0, [])]]
/-! 206: EngraversHouseModel.author:()I -/
set_option maxRecDepth 100000 in
noncomputable def zb206 : List (List zMI) := [
  [(6, 0, 0, 0, 0, []), (60, 1, 11, 8, 86048989, []), (1, 4, 0, 0, 12, []), (47, 6, 1, 0, 0, []), (1, 9, 0, 0, (-4), []), (95, 11, 0, 0, 0, [])],
  [(6, 12, 0, 0, 0, []), (33, 13, 0, 0, 0, []), (60, 14, 11, 8, 86048989, []), (1, 17, 0, 0, 1, []), (11, 18, 0, 0, 0, []), (62, 19, 11, 8, 86048989, []), (6, 22, 0, 0, 0, []), (60, 23, 11, 8, 86048989, []), (1, 26, 0, 0, 1, []), (12, 27, 0, 0, 0, []), (95, 28, 0, 0, 0, [])]]
/-! 207: EngraversHouseModel.died:(II)I -/
set_option maxRecDepth 100000 in
noncomputable def zb207 : List (List zMI) := [
  [(6, 0, 0, 0, 0, []), (4, 1, 1, 0, 0, []), (92, 2, 205, 2, 2, [(102695136, 11)]), (41, 5, 1, 0, 0, []), (1, 8, 0, 0, (-1), []), (95, 9, 0, 0, 0, [])],
  [(4, 10, 2, 0, 0, []), (1, 11, 0, 0, 0, []), (6, 12, 0, 0, 0, []), (60, 13, 11, 1, 85590234, []), (90, 16, 196, 3, 3, [(101974025, 11)]), (41, 19, 2, 0, 0, []), (1, 22, 0, 0, (-2), []), (95, 24, 0, 0, 0, [])],
  [(6, 25, 0, 0, 0, []), (61, 26, 11, 9, 86114339, []), (4, 29, 1, 0, 0, []), (65, 30, 0, 0, 0, []), (42, 31, 3, 0, 0, []), (1, 34, 0, 0, (-3), []), (95, 36, 0, 0, 0, [])],
  [(6, 37, 0, 0, 0, []), (61, 38, 11, 9, 86114339, []), (4, 41, 1, 0, 0, []), (4, 42, 2, 0, 0, []), (68, 43, 0, 0, 0, []), (1, 44, 0, 0, 1, []), (95, 45, 0, 0, 0, [])]]
/-! 208: EngraversHouseModel.areScore:(II)Z -/
set_option maxRecDepth 100000 in
noncomputable def zb208 : List (List zMI) := [
  [(4, 0, 0, 0, 0, []), (1, 1, 0, 0, 2, []), (1, 2, 0, 0, 12, []), (90, 4, 196, 3, 3, [(101974025, 11)]), (40, 7, 1, 0, 0, []), (4, 10, 1, 0, 0, []), (1, 11, 0, 0, 1, []), (1, 12, 0, 0, 4, []), (90, 13, 196, 3, 3, [(101974025, 11)]), (40, 16, 1, 0, 0, []), (1, 19, 0, 0, 1, []), (56, 20, 2, 0, 0, [])],
  [(1, 23, 0, 0, 0, []), (57, 24, 2, 0, 0, [])],
  [(96, 24, 0, 0, 0, [])]]
/-! 209: EngraversHouseModel.score:(III)I -/
set_option maxRecDepth 100000 in
noncomputable def zb209 : List (List zMI) := [
  [(6, 0, 0, 0, 0, []), (4, 1, 1, 0, 0, []), (92, 2, 205, 2, 2, [(102695136, 11)]), (41, 5, 1, 0, 0, []), (1, 8, 0, 0, (-1), []), (95, 9, 0, 0, 0, [])],
  [(4, 10, 2, 0, 0, []), (4, 11, 3, 0, 0, []), (90, 12, 208, 2, 2, [(103219428, 11)]), (41, 15, 2, 0, 0, []), (1, 18, 0, 0, (-2), []), (95, 20, 0, 0, 0, [])],
  [(6, 21, 0, 0, 0, []), (60, 22, 11, 2, 85655767, []), (1, 25, 0, 0, 60, []), (47, 27, 3, 0, 0, []), (1, 30, 0, 0, (-4), []), (95, 32, 0, 0, 0, [])],
  [(6, 33, 0, 0, 0, []), (1, 34, 0, 0, 1, []), (6, 35, 0, 0, 0, []), (60, 36, 11, 2, 85655767, []), (4, 39, 2, 0, 0, []), (4, 40, 3, 0, 0, []), (92, 41, 203, 5, 6, [(103416040, 11)]), (7, 44, 4, 0, 0, []), (6, 46, 0, 0, 0, []), (61, 47, 11, 7, 85983264, []), (4, 50, 4, 0, 0, []), (4, 52, 1, 0, 0, []), (68, 53, 0, 0, 0, []), (4, 54, 4, 0, 0, []), (95, 56, 0, 0, 0, [])]]
/-! 210: EngraversHouseModel.derive:(IIII)I -/
set_option maxRecDepth 100000 in
noncomputable def zb210 : List (List zMI) := [
  [(6, 0, 0, 0, 0, []), (4, 1, 1, 0, 0, []), (92, 2, 199, 2, 2, [(103940332, 11)]), (40, 5, 1, 0, 0, []), (6, 8, 0, 0, 0, []), (4, 9, 2, 0, 0, []), (92, 10, 205, 2, 2, [(102695136, 11)]), (41, 13, 2, 0, 0, []), (57, 16, 1, 0, 0, [])],
  [(1, 16, 0, 0, (-1), []), (95, 17, 0, 0, 0, [])],
  [(6, 18, 0, 0, 0, []), (4, 19, 1, 0, 0, []), (92, 20, 201, 2, 2, [(104202479, 11)]), (41, 23, 3, 0, 0, []), (1, 26, 0, 0, (-12), []), (95, 28, 0, 0, 0, [])],
  [(4, 29, 3, 0, 0, []), (4, 30, 4, 0, 0, []), (90, 32, 208, 2, 2, [(103219428, 11)]), (41, 35, 4, 0, 0, []), (1, 38, 0, 0, (-2), []), (95, 40, 0, 0, 0, [])],
  [(6, 41, 0, 0, 0, []), (60, 42, 11, 2, 85655767, []), (1, 45, 0, 0, 60, []), (47, 47, 5, 0, 0, []), (1, 50, 0, 0, (-4), []), (95, 52, 0, 0, 0, [])],
  [(6, 53, 0, 0, 0, []), (1, 54, 0, 0, 6, []), (6, 56, 0, 0, 0, []), (61, 57, 11, 4, 85786647, []), (4, 60, 1, 0, 0, []), (65, 61, 0, 0, 0, []), (4, 62, 3, 0, 0, []), (4, 63, 4, 0, 0, []), (92, 65, 203, 5, 6, [(103416040, 11)]), (7, 68, 5, 0, 0, []), (6, 70, 0, 0, 0, []), (61, 71, 11, 7, 85983264, []), (4, 74, 5, 0, 0, []), (4, 76, 2, 0, 0, []), (68, 77, 0, 0, 0, []), (4, 78, 5, 0, 0, []), (95, 80, 0, 0, 0, [])]]
/-! 211: EngraversHouseModel.barAt:(III)I -/
set_option maxRecDepth 100000 in
noncomputable def zb211 : List (List zMI) := [
  [(1, 0, 0, 0, 80, []), (4, 2, 1, 0, 0, []), (13, 3, 0, 0, 0, []), (1, 4, 0, 0, 20, []), (4, 6, 2, 0, 0, []), (13, 7, 0, 0, 0, []), (11, 8, 0, 0, 0, []), (4, 9, 3, 0, 0, []), (11, 10, 0, 0, 0, []), (95, 11, 0, 0, 0, [])]]
/-! 212: EngraversHouseModel.filled:(I)I -/
set_option maxRecDepth 100000 in
noncomputable def zb212 : List (List zMI) := [
  [(1, 0, 0, 0, 0, []), (7, 1, 2, 0, 0, []), (1, 2, 0, 0, 0, []), (7, 3, 3, 0, 0, []), (57, 4, 1, 0, 0, [])],
  [(4, 4, 3, 0, 0, []), (6, 5, 0, 0, 0, []), (61, 6, 11, 13, 86376496, []), (4, 9, 1, 0, 0, []), (65, 10, 0, 0, 0, []), (49, 11, 2, 0, 0, []), (4, 14, 2, 0, 0, []), (6, 15, 0, 0, 0, []), (61, 16, 11, 11, 86245418, []), (1, 19, 0, 0, 8, []), (4, 21, 1, 0, 0, []), (13, 22, 0, 0, 0, []), (4, 23, 3, 0, 0, []), (11, 24, 0, 0, 0, []), (65, 25, 0, 0, 0, []), (11, 26, 0, 0, 0, []), (7, 27, 2, 0, 0, []), (10, 28, 3, 0, 1, []), (56, 31, 1, 0, 0, [])],
  [(4, 34, 2, 0, 0, []), (95, 35, 0, 0, 0, [])]]
/-! 213: EngraversHouseModel.whole:(II)I -/
set_option maxRecDepth 100000 in
noncomputable def zb213 : List (List zMI) := [
  [(6, 0, 0, 0, 0, []), (61, 1, 11, 14, 86442035, []), (1, 4, 0, 0, 4, []), (4, 5, 1, 0, 0, []), (13, 6, 0, 0, 0, []), (4, 7, 2, 0, 0, []), (11, 8, 0, 0, 0, []), (65, 9, 0, 0, 0, []), (7, 10, 3, 0, 0, []), (4, 11, 3, 0, 0, []), (45, 12, 1, 0, 0, []), (6, 15, 0, 0, 0, []), (6, 16, 0, 0, 0, []), (4, 17, 1, 0, 0, []), (4, 18, 2, 0, 0, []), (4, 19, 3, 0, 0, []), (1, 20, 0, 0, 1, []), (12, 21, 0, 0, 0, []), (92, 22, 211, 4, 4, [(105447666, 11)]), (92, 25, 212, 2, 4, [(105709814, 11)]), (6, 28, 0, 0, 0, []), (61, 29, 11, 5, 85852186, []), (4, 32, 1, 0, 0, []), (65, 33, 0, 0, 0, []), (49, 34, 1, 0, 0, []), (4, 37, 3, 0, 0, []), (1, 38, 0, 0, 1, []), (12, 39, 0, 0, 0, []), (56, 40, 2, 0, 0, [])],
  [(4, 43, 3, 0, 0, []), (57, 44, 2, 0, 0, [])],
  [(95, 44, 0, 0, 0, [])]]
/-! 214: EngraversHouseModel.put:(IIIII)I -/
set_option maxRecDepth 100000 in
noncomputable def zb214 : List (List zMI) := [
  [(6, 0, 0, 0, 0, []), (61, 1, 11, 14, 86442035, []), (1, 4, 0, 0, 4, []), (4, 5, 1, 0, 0, []), (13, 6, 0, 0, 0, []), (4, 7, 2, 0, 0, []), (11, 8, 0, 0, 0, []), (65, 9, 0, 0, 0, []), (7, 10, 6, 0, 0, []), (6, 12, 0, 0, 0, []), (4, 13, 1, 0, 0, []), (4, 14, 2, 0, 0, []), (92, 15, 213, 3, 4, [(105185530, 11)]), (4, 18, 6, 0, 0, []), (49, 20, 1, 0, 0, []), (1, 23, 0, 0, 1, []), (56, 24, 2, 0, 0, [])],
  [(1, 27, 0, 0, 0, []), (57, 28, 2, 0, 0, [])],
  [(7, 28, 7, 0, 0, []), (6, 30, 0, 0, 0, []), (4, 31, 1, 0, 0, []), (4, 32, 2, 0, 0, []), (4, 33, 7, 0, 0, []), (40, 35, 3, 0, 0, []), (4, 38, 6, 0, 0, []), (1, 40, 0, 0, 1, []), (12, 41, 0, 0, 0, []), (56, 42, 5, 0, 0, [])],
  [(4, 45, 6, 0, 0, []), (1, 47, 0, 0, 20, []), (49, 49, 4, 0, 0, []), (4, 52, 6, 0, 0, []), (56, 54, 5, 0, 0, [])],
  [(1, 57, 0, 0, 19, []), (57, 59, 5, 0, 0, [])],
  [(92, 59, 211, 4, 4, [(105447666, 11)]), (7, 62, 8, 0, 0, []), (4, 64, 7, 0, 0, []), (40, 66, 6, 0, 0, []), (6, 69, 0, 0, 0, []), (61, 70, 11, 5, 85852186, []), (4, 73, 1, 0, 0, []), (65, 74, 0, 0, 0, []), (6, 75, 0, 0, 0, []), (4, 76, 8, 0, 0, []), (92, 78, 212, 2, 4, [(105709814, 11)]), (12, 81, 0, 0, 0, []), (56, 82, 7, 0, 0, [])],
  [(6, 85, 0, 0, 0, []), (61, 86, 11, 5, 85852186, []), (4, 89, 1, 0, 0, []), (65, 90, 0, 0, 0, []), (57, 91, 7, 0, 0, [])],
  [(7, 91, 9, 0, 0, []), (4, 93, 4, 0, 0, []), (4, 95, 9, 0, 0, []), (50, 97, 8, 0, 0, []), (4, 100, 7, 0, 0, []), (40, 102, 9, 0, 0, []), (6, 105, 0, 0, 0, []), (61, 106, 11, 13, 86376496, []), (4, 109, 8, 0, 0, []), (65, 111, 0, 0, 0, []), (1, 112, 0, 0, 7, []), (47, 114, 9, 0, 0, []), (4, 117, 4, 0, 0, []), (4, 119, 9, 0, 0, []), (49, 121, 9, 0, 0, []), (57, 124, 8, 0, 0, [])],
  [(1, 124, 0, 0, (-3), []), (95, 126, 0, 0, 0, [])],
  [(4, 127, 7, 0, 0, []), (41, 129, 10, 0, 0, []), (4, 132, 6, 0, 0, []), (1, 134, 0, 0, 20, []), (47, 136, 10, 0, 0, []), (1, 139, 0, 0, (-4), []), (95, 141, 0, 0, 0, [])],
  [(4, 142, 7, 0, 0, []), (41, 144, 11, 0, 0, []), (6, 147, 0, 0, 0, []), (61, 148, 11, 14, 86442035, []), (1, 151, 0, 0, 4, []), (4, 152, 1, 0, 0, []), (13, 153, 0, 0, 0, []), (4, 154, 2, 0, 0, []), (11, 155, 0, 0, 0, []), (34, 156, 0, 0, 0, []), (65, 157, 0, 0, 0, []), (1, 158, 0, 0, 1, []), (11, 159, 0, 0, 0, []), (68, 160, 0, 0, 0, []), (6, 161, 0, 0, 0, []), (61, 162, 11, 13, 86376496, []), (4, 165, 8, 0, 0, []), (1, 167, 0, 0, 0, []), (68, 168, 0, 0, 0, []), (57, 169, 11, 0, 0, [])],
  [(1, 169, 0, 0, 8, []), (4, 171, 8, 0, 0, []), (13, 173, 0, 0, 0, []), (6, 174, 0, 0, 0, []), (61, 175, 11, 13, 86376496, []), (4, 178, 8, 0, 0, []), (65, 180, 0, 0, 0, []), (11, 181, 0, 0, 0, []), (7, 182, 10, 0, 0, []), (6, 184, 0, 0, 0, []), (61, 185, 11, 10, 86179879, []), (4, 188, 10, 0, 0, []), (4, 190, 3, 0, 0, []), (41, 191, 12, 0, 0, []), (1, 194, 0, 0, (-1000), []), (56, 197, 13, 0, 0, [])],
  [(4, 200, 3, 0, 0, []), (57, 201, 13, 0, 0, [])],
  [(68, 201, 0, 0, 0, []), (6, 202, 0, 0, 0, []), (61, 203, 11, 11, 86245418, []), (4, 206, 10, 0, 0, []), (4, 208, 4, 0, 0, []), (68, 210, 0, 0, 0, []), (6, 211, 0, 0, 0, []), (61, 212, 11, 12, 86310957, []), (4, 215, 10, 0, 0, []), (4, 217, 5, 0, 0, []), (68, 219, 0, 0, 0, []), (6, 220, 0, 0, 0, []), (61, 221, 11, 13, 86376496, []), (4, 224, 8, 0, 0, []), (34, 226, 0, 0, 0, []), (65, 227, 0, 0, 0, []), (1, 228, 0, 0, 1, []), (11, 229, 0, 0, 0, []), (68, 230, 0, 0, 0, []), (1, 231, 0, 0, 0, []), (95, 232, 0, 0, 0, [])]]
/-! 215: EngraversHouseModel.isNote:(III)Z -/
set_option maxRecDepth 100000 in
noncomputable def zb215 : List (List zMI) := [
  [(4, 0, 0, 0, 0, []), (1, 1, 0, 0, 0, []), (1, 2, 0, 0, 60, []), (90, 4, 196, 3, 3, [(101974025, 11)]), (40, 7, 2, 0, 0, []), (4, 10, 1, 0, 0, []), (1, 11, 0, 0, 1, []), (1, 12, 0, 0, 12, []), (90, 14, 196, 3, 3, [(101974025, 11)]), (40, 17, 2, 0, 0, []), (4, 20, 2, 0, 0, []), (1, 21, 0, 0, 0, []), (1, 22, 0, 0, 1, []), (90, 23, 196, 3, 3, [(101974025, 11)]), (40, 26, 2, 0, 0, []), (4, 29, 0, 0, 0, []), (44, 30, 1, 0, 0, []), (4, 33, 2, 0, 0, []), (41, 34, 2, 0, 0, []), (57, 37, 1, 0, 0, [])],
  [(1, 37, 0, 0, 1, []), (56, 38, 3, 0, 0, [])],
  [(1, 41, 0, 0, 0, []), (57, 42, 3, 0, 0, [])],
  [(96, 42, 0, 0, 0, [])]]
/-! 216: EngraversHouseModel.note:(IIIII)I -/
set_option maxRecDepth 100000 in
noncomputable def zb216 : List (List zMI) := [
  [(6, 0, 0, 0, 0, []), (4, 1, 1, 0, 0, []), (92, 2, 199, 2, 2, [(103940332, 11)]), (41, 5, 1, 0, 0, []), (1, 8, 0, 0, (-1), []), (95, 9, 0, 0, 0, [])],
  [(6, 10, 0, 0, 0, []), (4, 11, 1, 0, 0, []), (92, 12, 201, 2, 2, [(104202479, 11)]), (41, 15, 2, 0, 0, []), (1, 18, 0, 0, (-12), []), (95, 20, 0, 0, 0, [])],
  [(4, 21, 2, 0, 0, []), (1, 22, 0, 0, 0, []), (6, 23, 0, 0, 0, []), (61, 24, 11, 6, 85917725, []), (4, 27, 1, 0, 0, []), (65, 28, 0, 0, 0, []), (1, 29, 0, 0, 1, []), (12, 30, 0, 0, 0, []), (90, 31, 196, 3, 3, [(101974025, 11)]), (41, 34, 3, 0, 0, []), (1, 37, 0, 0, (-1), []), (95, 38, 0, 0, 0, [])],
  [(4, 39, 3, 0, 0, []), (4, 40, 4, 0, 0, []), (4, 42, 5, 0, 0, []), (90, 44, 215, 3, 3, [(104726782, 11)]), (41, 47, 4, 0, 0, []), (1, 50, 0, 0, (-2), []), (95, 52, 0, 0, 0, [])],
  [(6, 53, 0, 0, 0, []), (4, 54, 1, 0, 0, []), (4, 55, 2, 0, 0, []), (4, 56, 3, 0, 0, []), (4, 57, 4, 0, 0, []), (4, 59, 5, 0, 0, []), (92, 61, 214, 6, 11, [(104923393, 11)]), (7, 64, 6, 0, 0, []), (4, 66, 6, 0, 0, []), (43, 68, 5, 0, 0, []), (4, 71, 6, 0, 0, []), (56, 73, 6, 0, 0, [])],
  [(6, 76, 0, 0, 0, []), (4, 77, 1, 0, 0, []), (4, 78, 2, 0, 0, []), (92, 79, 213, 3, 4, [(105185530, 11)]), (57, 82, 6, 0, 0, [])],
  [(95, 82, 0, 0, 0, [])]]
/-! 217: EngraversHouseModel.alter:(IIIII)I -/
set_option maxRecDepth 100000 in
noncomputable def zb217 : List (List zMI) := [
  [(6, 0, 0, 0, 0, []), (4, 1, 1, 0, 0, []), (92, 2, 199, 2, 2, [(103940332, 11)]), (41, 5, 1, 0, 0, []), (1, 8, 0, 0, (-1), []), (95, 9, 0, 0, 0, [])],
  [(6, 10, 0, 0, 0, []), (4, 11, 1, 0, 0, []), (92, 12, 201, 2, 2, [(104202479, 11)]), (41, 15, 2, 0, 0, []), (1, 18, 0, 0, (-12), []), (95, 20, 0, 0, 0, [])],
  [(4, 21, 2, 0, 0, []), (1, 22, 0, 0, 0, []), (6, 23, 0, 0, 0, []), (61, 24, 11, 6, 85917725, []), (4, 27, 1, 0, 0, []), (65, 28, 0, 0, 0, []), (1, 29, 0, 0, 1, []), (12, 30, 0, 0, 0, []), (90, 31, 196, 3, 3, [(101974025, 11)]), (40, 34, 3, 0, 0, []), (4, 37, 3, 0, 0, []), (1, 38, 0, 0, 0, []), (6, 39, 0, 0, 0, []), (4, 40, 1, 0, 0, []), (4, 41, 2, 0, 0, []), (92, 42, 213, 3, 4, [(105185530, 11)]), (1, 45, 0, 0, 1, []), (12, 46, 0, 0, 0, []), (90, 47, 196, 3, 3, [(101974025, 11)]), (40, 50, 3, 0, 0, []), (4, 53, 4, 0, 0, []), (1, 55, 0, 0, 0, []), (6, 56, 0, 0, 0, []), (61, 57, 11, 13, 86376496, []), (6, 60, 0, 0, 0, []), (4, 61, 1, 0, 0, []), (4, 62, 2, 0, 0, []), (4, 63, 3, 0, 0, []), (92, 64, 211, 4, 4, [(105447666, 11)]), (65, 67, 0, 0, 0, []), (1, 68, 0, 0, 1, []), (12, 69, 0, 0, 0, []), (90, 70, 196, 3, 3, [(101974025, 11)]), (41, 73, 4, 0, 0, []), (57, 76, 3, 0, 0, [])],
  [(1, 76, 0, 0, (-1), []), (95, 77, 0, 0, 0, [])],
  [(4, 78, 5, 0, 0, []), (1, 80, 0, 0, 1, []), (1, 81, 0, 0, 60, []), (90, 83, 196, 3, 3, [(101974025, 11)]), (41, 86, 5, 0, 0, []), (1, 89, 0, 0, (-2), []), (95, 91, 0, 0, 0, [])],
  [(1, 92, 0, 0, 8, []), (6, 94, 0, 0, 0, []), (4, 95, 1, 0, 0, []), (4, 96, 2, 0, 0, []), (4, 97, 3, 0, 0, []), (92, 98, 211, 4, 4, [(105447666, 11)]), (13, 101, 0, 0, 0, []), (4, 102, 4, 0, 0, []), (11, 104, 0, 0, 0, []), (7, 105, 6, 0, 0, []), (6, 107, 0, 0, 0, []), (61, 108, 11, 10, 86179879, []), (4, 111, 6, 0, 0, []), (65, 113, 0, 0, 0, []), (1, 114, 0, 0, (-1000), []), (47, 117, 6, 0, 0, []), (1, 120, 0, 0, (-3), []), (95, 122, 0, 0, 0, [])],
  [(6, 123, 0, 0, 0, []), (61, 124, 11, 10, 86179879, []), (4, 127, 6, 0, 0, []), (65, 129, 0, 0, 0, []), (7, 130, 7, 0, 0, []), (6, 132, 0, 0, 0, []), (61, 133, 11, 10, 86179879, []), (4, 136, 6, 0, 0, []), (4, 138, 5, 0, 0, []), (68, 140, 0, 0, 0, []), (4, 141, 7, 0, 0, []), (95, 143, 0, 0, 0, [])]]
/-! 218: EngraversHouseModel.music:(IIIII)I -/
set_option maxRecDepth 100000 in
noncomputable def zb218 : List (List zMI) := [
  [(6, 0, 0, 0, 0, []), (4, 1, 1, 0, 0, []), (92, 2, 199, 2, 2, [(103940332, 11)]), (40, 5, 1, 0, 0, []), (4, 8, 3, 0, 0, []), (1, 9, 0, 0, 0, []), (1, 10, 0, 0, 5, []), (90, 11, 196, 3, 3, [(101974025, 11)]), (41, 14, 2, 0, 0, []), (57, 17, 1, 0, 0, [])],
  [(1, 17, 0, 0, (-1), []), (95, 18, 0, 0, 0, [])],
  [(6, 19, 0, 0, 0, []), (4, 20, 1, 0, 0, []), (92, 21, 201, 2, 2, [(104202479, 11)]), (41, 24, 3, 0, 0, []), (1, 27, 0, 0, (-12), []), (95, 29, 0, 0, 0, [])],
  [(4, 30, 2, 0, 0, []), (1, 31, 0, 0, 0, []), (6, 32, 0, 0, 0, []), (61, 33, 11, 6, 85917725, []), (4, 36, 1, 0, 0, []), (65, 37, 0, 0, 0, []), (1, 38, 0, 0, 1, []), (12, 39, 0, 0, 0, []), (90, 40, 196, 3, 3, [(101974025, 11)]), (41, 43, 4, 0, 0, []), (1, 46, 0, 0, (-1), []), (95, 47, 0, 0, 0, [])],
  [(4, 48, 5, 0, 0, []), (1, 50, 0, 0, 1, []), (1, 51, 0, 0, 60, []), (90, 53, 196, 3, 3, [(101974025, 11)]), (41, 56, 5, 0, 0, []), (1, 59, 0, 0, (-2), []), (95, 61, 0, 0, 0, [])],
  [(6, 62, 0, 0, 0, []), (61, 63, 11, 78, 90636485, []), (4, 66, 3, 0, 0, []), (65, 67, 0, 0, 0, []), (42, 68, 6, 0, 0, []), (6, 71, 0, 0, 0, []), (61, 72, 11, 78, 90636485, []), (4, 75, 3, 0, 0, []), (65, 76, 0, 0, 0, []), (1, 77, 0, 0, 1, []), (46, 78, 6, 0, 0, []), (1, 81, 0, 0, (-12), []), (95, 83, 0, 0, 0, [])],
  [(6, 84, 0, 0, 0, []), (1, 85, 0, 0, 0, []), (62, 86, 11, 15, 86507729, []), (1, 89, 0, 0, 0, []), (7, 90, 6, 0, 0, []), (57, 92, 7, 0, 0, [])],
  [(4, 92, 6, 0, 0, []), (4, 94, 5, 0, 0, []), (49, 96, 16, 0, 0, []), (4, 99, 4, 0, 0, []), (23, 101, 0, 0, 0, []), (4, 102, 6, 0, 0, []), (23, 104, 0, 0, 0, []), (28, 105, 0, 0, 0, []), (8, 106, 7, 0, 0, []), (6, 108, 0, 0, 0, []), (61, 109, 11, 78, 90636485, []), (4, 112, 3, 0, 0, []), (65, 113, 0, 0, 0, []), (42, 114, 8, 0, 0, []), (5, 117, 7, 0, 0, []), (2, 119, 0, 0, 0, []), (31, 120, 0, 0, 0, []), (42, 121, 8, 0, 0, []), (5, 124, 7, 0, 0, []), (6, 126, 0, 0, 0, []), (61, 127, 11, 79, 90702024, []), (4, 130, 3, 0, 0, []), (65, 131, 0, 0, 0, []), (23, 132, 0, 0, 0, []), (31, 133, 0, 0, 0, []), (42, 134, 9, 0, 0, []), (57, 137, 8, 0, 0, [])],
  [(6, 137, 0, 0, 0, []), (1, 138, 0, 0, 1, []), (62, 139, 11, 15, 86507729, []), (4, 142, 6, 0, 0, []), (95, 144, 0, 0, 0, [])],
  [(6, 145, 0, 0, 0, []), (61, 146, 11, 80, 90767563, []), (1, 149, 0, 0, 60, []), (4, 151, 3, 0, 0, []), (13, 152, 0, 0, 0, []), (5, 153, 7, 0, 0, []), (24, 155, 0, 0, 0, []), (11, 156, 0, 0, 0, []), (65, 157, 0, 0, 0, []), (7, 158, 9, 0, 0, []), (4, 160, 9, 0, 0, []), (1, 162, 0, 0, 100, []), (15, 164, 0, 0, 0, []), (7, 165, 10, 0, 0, []), (4, 167, 9, 0, 0, []), (42, 169, 10, 0, 0, []), (4, 172, 9, 0, 0, []), (1, 174, 0, 0, 100, []), (14, 176, 0, 0, 0, []), (4, 177, 10, 0, 0, []), (1, 179, 0, 0, 2, []), (14, 180, 0, 0, 0, []), (4, 181, 10, 0, 0, []), (1, 183, 0, 0, 2, []), (15, 184, 0, 0, 0, []), (90, 185, 215, 3, 3, [(104726782, 11)]), (41, 188, 11, 0, 0, []), (57, 191, 10, 0, 0, [])],
  [(1, 191, 0, 0, (-3), []), (56, 193, 12, 0, 0, [])],
  [(6, 196, 0, 0, 0, []), (4, 197, 1, 0, 0, []), (4, 198, 2, 0, 0, []), (4, 199, 9, 0, 0, []), (1, 201, 0, 0, 100, []), (14, 203, 0, 0, 0, []), (4, 204, 10, 0, 0, []), (1, 206, 0, 0, 2, []), (14, 207, 0, 0, 0, []), (4, 208, 10, 0, 0, []), (1, 210, 0, 0, 2, []), (15, 211, 0, 0, 0, []), (92, 212, 214, 6, 11, [(104923393, 11)]), (57, 215, 12, 0, 0, [])],
  [(7, 215, 11, 0, 0, []), (4, 217, 11, 0, 0, []), (43, 219, 15, 0, 0, []), (6, 222, 0, 0, 0, []), (4, 223, 11, 0, 0, []), (1, 225, 0, 0, (-3), []), (47, 227, 13, 0, 0, []), (1, 230, 0, 0, 2, []), (56, 231, 14, 0, 0, [])],
  [(1, 234, 0, 0, 3, []), (57, 235, 14, 0, 0, [])],
  [(62, 235, 11, 15, 86507729, []), (4, 238, 6, 0, 0, []), (95, 240, 0, 0, 0, [])],
  [(10, 241, 6, 0, 1, []), (56, 244, 7, 0, 0, [])],
  [(4, 247, 5, 0, 0, []), (95, 249, 0, 0, 0, [])]]
/-! 219: EngraversHouseModel.ended:()I -/
set_option maxRecDepth 100000 in
noncomputable def zb219 : List (List zMI) := [
  [(6, 0, 0, 0, 0, []), (60, 1, 11, 15, 86507729, []), (43, 4, 1, 0, 0, []), (1, 7, 0, 0, (-3), []), (56, 9, 2, 0, 0, [])],
  [(6, 12, 0, 0, 0, []), (60, 13, 11, 15, 86507729, []), (57, 16, 2, 0, 0, [])],
  [(95, 16, 0, 0, 0, [])]]
/-! 220: EngraversHouseModel.scoreOf:(I)I -/
set_option maxRecDepth 100000 in
noncomputable def zb220 : List (List zMI) := [
  [(6, 0, 0, 0, 0, []), (61, 1, 11, 3, 85721107, []), (4, 4, 1, 0, 0, []), (65, 5, 0, 0, 0, []), (58, 6, 4, 0, 0, [(2, 1), (3, 2), (4, 1), (5, 1), (6, 4), (7, 3)])],
  [(6, 44, 0, 0, 0, []), (61, 45, 11, 4, 85786647, []), (4, 48, 1, 0, 0, []), (65, 49, 0, 0, 0, []), (95, 50, 0, 0, 0, [])],
  [(6, 51, 0, 0, 0, []), (61, 52, 11, 4, 85786647, []), (6, 55, 0, 0, 0, []), (61, 56, 11, 4, 85786647, []), (4, 59, 1, 0, 0, []), (65, 60, 0, 0, 0, []), (65, 61, 0, 0, 0, []), (95, 62, 0, 0, 0, [])],
  [(6, 63, 0, 0, 0, []), (61, 64, 11, 4, 85786647, []), (6, 67, 0, 0, 0, []), (61, 68, 11, 4, 85786647, []), (4, 71, 1, 0, 0, []), (65, 72, 0, 0, 0, []), (65, 73, 0, 0, 0, []), (95, 74, 0, 0, 0, [])],
  [(4, 75, 1, 0, 0, []), (95, 76, 0, 0, 0, [])]]
/-! 221: EngraversHouseModel.errataOf:(I)I -/
set_option maxRecDepth 100000 in
noncomputable def zb221 : List (List zMI) := [
  [(1, 0, 0, 0, 0, []), (7, 1, 2, 0, 0, []), (1, 2, 0, 0, 0, []), (7, 3, 3, 0, 0, []), (57, 4, 1, 0, 0, [])],
  [(4, 4, 3, 0, 0, []), (6, 5, 0, 0, 0, []), (60, 6, 11, 2, 85655767, []), (49, 9, 4, 0, 0, []), (4, 12, 2, 0, 0, []), (6, 13, 0, 0, 0, []), (61, 14, 11, 3, 85721107, []), (4, 17, 3, 0, 0, []), (65, 18, 0, 0, 0, []), (1, 19, 0, 0, 7, []), (47, 21, 2, 0, 0, []), (6, 24, 0, 0, 0, []), (61, 25, 11, 4, 85786647, []), (4, 28, 3, 0, 0, []), (65, 29, 0, 0, 0, []), (4, 30, 1, 0, 0, []), (47, 31, 2, 0, 0, []), (1, 34, 0, 0, 1, []), (56, 35, 3, 0, 0, [])],
  [(1, 38, 0, 0, 0, []), (57, 39, 3, 0, 0, [])],
  [(11, 39, 0, 0, 0, []), (7, 40, 2, 0, 0, []), (10, 41, 3, 0, 1, []), (56, 44, 1, 0, 0, [])],
  [(4, 47, 2, 0, 0, []), (95, 48, 0, 0, 0, [])]]
/-! 222: EngraversHouseModel.of:(II)I -/
set_option maxRecDepth 100000 in
noncomputable def zb222 : List (List zMI) := [
  [(6, 0, 0, 0, 0, []), (4, 1, 1, 0, 0, []), (92, 2, 199, 2, 2, [(103940332, 11)]), (40, 5, 1, 0, 0, []), (4, 8, 2, 0, 0, []), (1, 9, 0, 0, 0, []), (1, 10, 0, 0, 3, []), (90, 11, 196, 3, 3, [(101974025, 11)]), (41, 14, 2, 0, 0, []), (57, 17, 1, 0, 0, [])],
  [(1, 17, 0, 0, (-100), []), (95, 19, 0, 0, 0, [])],
  [(4, 20, 2, 0, 0, []), (41, 21, 3, 0, 0, []), (6, 24, 0, 0, 0, []), (61, 25, 11, 3, 85721107, []), (4, 28, 1, 0, 0, []), (65, 29, 0, 0, 0, []), (95, 30, 0, 0, 0, [])],
  [(4, 31, 2, 0, 0, []), (1, 32, 0, 0, 1, []), (47, 33, 6, 0, 0, []), (6, 36, 0, 0, 0, []), (4, 37, 1, 0, 0, []), (92, 38, 201, 2, 2, [(104202479, 11)]), (40, 41, 4, 0, 0, []), (6, 44, 0, 0, 0, []), (61, 45, 11, 4, 85786647, []), (4, 48, 1, 0, 0, []), (65, 49, 0, 0, 0, []), (56, 50, 5, 0, 0, [])],
  [(6, 53, 0, 0, 0, []), (4, 54, 1, 0, 0, []), (92, 55, 220, 2, 2, [(107020549, 11)]), (57, 58, 5, 0, 0, [])],
  [(95, 58, 0, 0, 0, [])],
  [(6, 59, 0, 0, 0, []), (61, 60, 11, 3, 85721107, []), (4, 63, 1, 0, 0, []), (65, 64, 0, 0, 0, []), (59, 65, 13, 0, 0, [(3, 7), (4, 10)])],
  [(4, 92, 2, 0, 0, []), (1, 93, 0, 0, 2, []), (47, 94, 8, 0, 0, []), (6, 97, 0, 0, 0, []), (61, 98, 11, 5, 85852186, []), (6, 101, 0, 0, 0, []), (61, 102, 11, 4, 85786647, []), (4, 105, 1, 0, 0, []), (65, 106, 0, 0, 0, []), (65, 107, 0, 0, 0, []), (56, 108, 9, 0, 0, [])],
  [(6, 111, 0, 0, 0, []), (61, 112, 11, 5, 85852186, []), (4, 115, 1, 0, 0, []), (65, 116, 0, 0, 0, []), (57, 117, 9, 0, 0, [])],
  [(95, 117, 0, 0, 0, [])],
  [(4, 118, 2, 0, 0, []), (1, 119, 0, 0, 2, []), (47, 120, 11, 0, 0, []), (6, 123, 0, 0, 0, []), (61, 124, 11, 5, 85852186, []), (4, 127, 1, 0, 0, []), (65, 128, 0, 0, 0, []), (56, 129, 12, 0, 0, [])],
  [(6, 132, 0, 0, 0, []), (4, 133, 1, 0, 0, []), (92, 134, 221, 2, 4, [(107282696, 11)]), (57, 137, 12, 0, 0, [])],
  [(95, 137, 0, 0, 0, [])],
  [(4, 138, 2, 0, 0, []), (1, 139, 0, 0, 2, []), (47, 140, 14, 0, 0, []), (6, 143, 0, 0, 0, []), (61, 144, 11, 5, 85852186, []), (4, 147, 1, 0, 0, []), (65, 148, 0, 0, 0, []), (56, 149, 15, 0, 0, [])],
  [(6, 152, 0, 0, 0, []), (61, 153, 11, 6, 85917725, []), (4, 156, 1, 0, 0, []), (65, 157, 0, 0, 0, []), (57, 158, 15, 0, 0, [])],
  [(95, 158, 0, 0, 0, [])]]
/-! 223: EngraversHouseModel.bars:(II)I -/
set_option maxRecDepth 100000 in
noncomputable def zb223 : List (List zMI) := [
  [(6, 0, 0, 0, 0, []), (4, 1, 1, 0, 0, []), (92, 2, 199, 2, 2, [(103940332, 11)]), (41, 5, 1, 0, 0, []), (1, 8, 0, 0, (-1), []), (95, 9, 0, 0, 0, [])],
  [(6, 10, 0, 0, 0, []), (4, 11, 1, 0, 0, []), (92, 12, 201, 2, 2, [(104202479, 11)]), (41, 15, 2, 0, 0, []), (1, 18, 0, 0, (-12), []), (95, 20, 0, 0, 0, [])],
  [(4, 21, 2, 0, 0, []), (1, 22, 0, 0, 0, []), (6, 23, 0, 0, 0, []), (61, 24, 11, 6, 85917725, []), (4, 27, 1, 0, 0, []), (65, 28, 0, 0, 0, []), (1, 29, 0, 0, 1, []), (12, 30, 0, 0, 0, []), (90, 31, 196, 3, 3, [(101974025, 11)]), (40, 34, 3, 0, 0, []), (6, 37, 0, 0, 0, []), (4, 38, 1, 0, 0, []), (4, 39, 2, 0, 0, []), (92, 40, 213, 3, 4, [(105185530, 11)]), (56, 43, 4, 0, 0, [])],
  [(1, 46, 0, 0, (-1), []), (57, 47, 4, 0, 0, [])],
  [(95, 47, 0, 0, 0, [])]]
/-! 224: EngraversHouseModel.readBar:(II)V -/
set_option maxRecDepth 100000 in
noncomputable def zb224 : List (List zMI) := [
  [(6, 0, 0, 0, 0, []), (6, 1, 0, 0, 0, []), (61, 2, 11, 4, 85786647, []), (4, 5, 1, 0, 0, []), (65, 6, 0, 0, 0, []), (6, 7, 0, 0, 0, []), (61, 8, 11, 5, 85852186, []), (4, 11, 1, 0, 0, []), (65, 12, 0, 0, 0, []), (4, 13, 2, 0, 0, []), (92, 14, 211, 4, 4, [(105447666, 11)]), (7, 17, 3, 0, 0, []), (6, 18, 0, 0, 0, []), (1, 19, 0, 0, 0, []), (62, 20, 11, 16, 86573323, []), (1, 23, 0, 0, 0, []), (7, 24, 4, 0, 0, []), (57, 26, 1, 0, 0, [])],
  [(4, 26, 4, 0, 0, []), (6, 28, 0, 0, 0, []), (61, 29, 11, 13, 86376496, []), (4, 32, 3, 0, 0, []), (65, 33, 0, 0, 0, []), (49, 34, 7, 0, 0, []), (1, 37, 0, 0, 8, []), (4, 39, 3, 0, 0, []), (13, 40, 0, 0, 0, []), (4, 41, 4, 0, 0, []), (11, 43, 0, 0, 0, []), (7, 44, 5, 0, 0, []), (6, 46, 0, 0, 0, []), (61, 47, 11, 10, 86179879, []), (4, 50, 5, 0, 0, []), (65, 52, 0, 0, 0, []), (1, 53, 0, 0, (-1000), []), (47, 56, 2, 0, 0, []), (1, 59, 0, 0, (-1000), []), (56, 62, 3, 0, 0, [])],
  [(6, 65, 0, 0, 0, []), (61, 66, 11, 10, 86179879, []), (4, 69, 5, 0, 0, []), (65, 71, 0, 0, 0, []), (6, 72, 0, 0, 0, []), (61, 73, 11, 6, 85917725, []), (4, 76, 1, 0, 0, []), (65, 77, 0, 0, 0, []), (11, 78, 0, 0, 0, []), (57, 79, 3, 0, 0, [])],
  [(7, 79, 6, 0, 0, []), (6, 81, 0, 0, 0, []), (60, 82, 11, 16, 86573323, []), (1, 85, 0, 0, 1, []), (12, 86, 0, 0, 0, []), (7, 87, 7, 0, 0, []), (4, 89, 7, 0, 0, []), (42, 91, 5, 0, 0, []), (6, 94, 0, 0, 0, []), (61, 95, 11, 17, 86638646, []), (4, 98, 7, 0, 0, []), (65, 100, 0, 0, 0, []), (4, 101, 6, 0, 0, []), (47, 103, 5, 0, 0, []), (4, 106, 6, 0, 0, []), (1, 108, 0, 0, (-1000), []), (46, 111, 4, 0, 0, []), (6, 114, 0, 0, 0, []), (61, 115, 11, 19, 86769724, []), (4, 118, 7, 0, 0, []), (65, 120, 0, 0, 0, []), (1, 121, 0, 0, 1, []), (47, 122, 5, 0, 0, []), (57, 125, 4, 0, 0, [])],
  [(6, 125, 0, 0, 0, []), (61, 126, 11, 18, 86704185, []), (4, 129, 7, 0, 0, []), (34, 131, 0, 0, 0, []), (65, 132, 0, 0, 0, []), (6, 133, 0, 0, 0, []), (61, 134, 11, 11, 86245418, []), (4, 137, 5, 0, 0, []), (65, 139, 0, 0, 0, []), (11, 140, 0, 0, 0, []), (68, 141, 0, 0, 0, []), (6, 142, 0, 0, 0, []), (61, 143, 11, 19, 86769724, []), (4, 146, 7, 0, 0, []), (6, 148, 0, 0, 0, []), (61, 149, 11, 12, 86310957, []), (4, 152, 5, 0, 0, []), (65, 154, 0, 0, 0, []), (68, 155, 0, 0, 0, []), (56, 156, 6, 0, 0, [])],
  [(6, 159, 0, 0, 0, []), (61, 160, 11, 17, 86638646, []), (6, 163, 0, 0, 0, []), (60, 164, 11, 16, 86573323, []), (4, 167, 6, 0, 0, []), (68, 169, 0, 0, 0, []), (6, 170, 0, 0, 0, []), (61, 171, 11, 18, 86704185, []), (6, 174, 0, 0, 0, []), (60, 175, 11, 16, 86573323, []), (6, 178, 0, 0, 0, []), (61, 179, 11, 11, 86245418, []), (4, 182, 5, 0, 0, []), (65, 184, 0, 0, 0, []), (68, 185, 0, 0, 0, []), (6, 186, 0, 0, 0, []), (61, 187, 11, 19, 86769724, []), (6, 190, 0, 0, 0, []), (60, 191, 11, 16, 86573323, []), (6, 194, 0, 0, 0, []), (61, 195, 11, 12, 86310957, []), (4, 198, 5, 0, 0, []), (65, 200, 0, 0, 0, []), (68, 201, 0, 0, 0, []), (6, 202, 0, 0, 0, []), (33, 203, 0, 0, 0, []), (60, 204, 11, 16, 86573323, []), (1, 207, 0, 0, 1, []), (11, 208, 0, 0, 0, []), (62, 209, 11, 16, 86573323, []), (57, 212, 6, 0, 0, [])],
  [(10, 212, 4, 0, 1, []), (56, 215, 1, 0, 0, [])],
  [(101, 218, 0, 0, 0, [])]]
/-! 225: EngraversHouseModel.told:(III)I -/
set_option maxRecDepth 100000 in
noncomputable def zb225 : List (List zMI) := [
  [(4, 0, 0, 0, 0, []), (1, 1, 0, 0, (-1000), []), (47, 4, 1, 0, 0, []), (1, 7, 0, 0, 0, []), (56, 8, 2, 0, 0, [])],
  [(1, 11, 0, 0, 1000, []), (4, 14, 0, 0, 0, []), (1, 15, 0, 0, 100, []), (11, 17, 0, 0, 0, []), (13, 18, 0, 0, 0, []), (57, 19, 2, 0, 0, [])],
  [(1, 19, 0, 0, 2, []), (4, 20, 1, 0, 0, []), (13, 21, 0, 0, 0, []), (11, 22, 0, 0, 0, []), (4, 23, 2, 0, 0, []), (11, 24, 0, 0, 0, []), (95, 25, 0, 0, 0, [])]]
/-! 226: EngraversHouseModel.part:(III)I -/
set_option maxRecDepth 100000 in
noncomputable def zb226 : List (List zMI) := [
  [(6, 0, 0, 0, 0, []), (4, 1, 1, 0, 0, []), (92, 2, 199, 2, 2, [(103940332, 11)]), (41, 5, 1, 0, 0, []), (1, 8, 0, 0, (-1), []), (95, 9, 0, 0, 0, [])],
  [(6, 10, 0, 0, 0, []), (4, 11, 1, 0, 0, []), (92, 12, 201, 2, 2, [(104202479, 11)]), (41, 15, 2, 0, 0, []), (1, 18, 0, 0, (-12), []), (95, 20, 0, 0, 0, [])],
  [(4, 21, 2, 0, 0, []), (1, 22, 0, 0, 0, []), (6, 23, 0, 0, 0, []), (61, 24, 11, 6, 85917725, []), (4, 27, 1, 0, 0, []), (65, 28, 0, 0, 0, []), (1, 29, 0, 0, 1, []), (12, 30, 0, 0, 0, []), (90, 31, 196, 3, 3, [(101974025, 11)]), (41, 34, 3, 0, 0, []), (1, 37, 0, 0, (-1), []), (95, 38, 0, 0, 0, [])],
  [(4, 39, 3, 0, 0, []), (1, 40, 0, 0, (-12), []), (1, 42, 0, 0, 12, []), (90, 44, 196, 3, 3, [(101974025, 11)]), (41, 47, 4, 0, 0, []), (1, 50, 0, 0, (-2), []), (95, 52, 0, 0, 0, [])],
  [(6, 53, 0, 0, 0, []), (60, 54, 11, 2, 85655767, []), (1, 57, 0, 0, 60, []), (47, 59, 5, 0, 0, []), (1, 62, 0, 0, (-4), []), (95, 64, 0, 0, 0, [])],
  [(6, 65, 0, 0, 0, []), (1, 66, 0, 0, 2, []), (4, 67, 1, 0, 0, []), (4, 68, 2, 0, 0, []), (4, 69, 3, 0, 0, []), (92, 70, 203, 5, 6, [(103416040, 11)]), (95, 73, 0, 0, 0, [])]]
/-! 227: EngraversHouseModel.barsOf:(I)I -/
set_option maxRecDepth 100000 in
noncomputable def zb227 : List (List zMI) := [
  [(6, 0, 0, 0, 0, []), (6, 1, 0, 0, 0, []), (61, 2, 11, 4, 85786647, []), (4, 5, 1, 0, 0, []), (65, 6, 0, 0, 0, []), (6, 7, 0, 0, 0, []), (61, 8, 11, 5, 85852186, []), (4, 11, 1, 0, 0, []), (65, 12, 0, 0, 0, []), (92, 13, 213, 3, 4, [(105185530, 11)]), (95, 16, 0, 0, 0, [])]]
/-! 228: EngraversHouseModel.heard:(III)I -/
set_option maxRecDepth 100000 in
noncomputable def zb228 : List (List zMI) := [
  [(6, 0, 0, 0, 0, []), (4, 1, 1, 0, 0, []), (92, 2, 199, 2, 2, [(103940332, 11)]), (40, 5, 1, 0, 0, []), (6, 8, 0, 0, 0, []), (4, 9, 1, 0, 0, []), (92, 10, 202, 2, 2, [(108331278, 11)]), (40, 13, 1, 0, 0, []), (4, 16, 2, 0, 0, []), (1, 17, 0, 0, 0, []), (6, 18, 0, 0, 0, []), (4, 19, 1, 0, 0, []), (92, 20, 227, 2, 2, [(108593425, 11)]), (1, 23, 0, 0, 1, []), (12, 24, 0, 0, 0, []), (90, 25, 196, 3, 3, [(101974025, 11)]), (41, 28, 2, 0, 0, []), (57, 31, 1, 0, 0, [])],
  [(1, 31, 0, 0, (-5), []), (95, 33, 0, 0, 0, [])],
  [(6, 34, 0, 0, 0, []), (4, 35, 1, 0, 0, []), (4, 36, 2, 0, 0, []), (92, 37, 224, 3, 8, [(108855572, 11)]), (4, 40, 3, 0, 0, []), (1, 41, 0, 0, (-1), []), (6, 42, 0, 0, 0, []), (60, 43, 11, 16, 86573323, []), (1, 46, 0, 0, 1, []), (12, 47, 0, 0, 0, []), (90, 48, 196, 3, 3, [(101974025, 11)]), (41, 51, 3, 0, 0, []), (1, 54, 0, 0, (-5), []), (95, 56, 0, 0, 0, [])],
  [(4, 57, 3, 0, 0, []), (43, 58, 4, 0, 0, []), (6, 61, 0, 0, 0, []), (60, 62, 11, 16, 86573323, []), (56, 65, 5, 0, 0, [])],
  [(6, 68, 0, 0, 0, []), (61, 69, 11, 17, 86638646, []), (4, 72, 3, 0, 0, []), (65, 73, 0, 0, 0, []), (6, 74, 0, 0, 0, []), (61, 75, 11, 18, 86704185, []), (4, 78, 3, 0, 0, []), (65, 79, 0, 0, 0, []), (6, 80, 0, 0, 0, []), (61, 81, 11, 19, 86769724, []), (4, 84, 3, 0, 0, []), (65, 85, 0, 0, 0, []), (90, 86, 225, 3, 3, [(109117720, 11)]), (57, 89, 5, 0, 0, [])],
  [(95, 89, 0, 0, 0, [])]]
/-! 229: EngraversHouseModel.plate:(III)I -/
set_option maxRecDepth 100000 in
noncomputable def zb229 : List (List zMI) := [
  [(6, 0, 0, 0, 0, []), (4, 1, 1, 0, 0, []), (92, 2, 199, 2, 2, [(103940332, 11)]), (41, 5, 1, 0, 0, []), (1, 8, 0, 0, (-1), []), (95, 9, 0, 0, 0, [])],
  [(6, 10, 0, 0, 0, []), (4, 11, 1, 0, 0, []), (92, 12, 202, 2, 2, [(108331278, 11)]), (41, 15, 2, 0, 0, []), (1, 18, 0, 0, (-12), []), (95, 20, 0, 0, 0, [])],
  [(4, 21, 2, 0, 0, []), (1, 22, 0, 0, 0, []), (6, 23, 0, 0, 0, []), (4, 24, 1, 0, 0, []), (92, 25, 227, 2, 2, [(108593425, 11)]), (1, 28, 0, 0, 1, []), (12, 29, 0, 0, 0, []), (90, 30, 196, 3, 3, [(101974025, 11)]), (40, 33, 3, 0, 0, []), (4, 36, 3, 0, 0, []), (4, 37, 2, 0, 0, []), (6, 38, 0, 0, 0, []), (4, 39, 1, 0, 0, []), (92, 40, 227, 2, 2, [(108593425, 11)]), (1, 43, 0, 0, 1, []), (12, 44, 0, 0, 0, []), (90, 45, 196, 3, 3, [(101974025, 11)]), (40, 48, 3, 0, 0, []), (4, 51, 3, 0, 0, []), (4, 52, 2, 0, 0, []), (12, 53, 0, 0, 0, []), (1, 54, 0, 0, 8, []), (48, 56, 4, 0, 0, []), (57, 59, 3, 0, 0, [])],
  [(1, 59, 0, 0, (-2), []), (95, 61, 0, 0, 0, [])],
  [(6, 62, 0, 0, 0, []), (60, 63, 11, 2, 85655767, []), (1, 66, 0, 0, 60, []), (47, 68, 5, 0, 0, []), (1, 71, 0, 0, (-4), []), (95, 73, 0, 0, 0, [])],
  [(6, 74, 0, 0, 0, []), (1, 75, 0, 0, 3, []), (4, 76, 1, 0, 0, []), (4, 77, 2, 0, 0, []), (4, 78, 3, 0, 0, []), (4, 79, 2, 0, 0, []), (12, 80, 0, 0, 0, []), (1, 81, 0, 0, 1, []), (11, 82, 0, 0, 0, []), (92, 83, 203, 5, 6, [(103416040, 11)]), (7, 86, 4, 0, 0, []), (1, 88, 0, 0, 0, []), (7, 89, 5, 0, 0, []), (57, 91, 6, 0, 0, [])],
  [(4, 91, 5, 0, 0, []), (4, 93, 3, 0, 0, []), (4, 94, 2, 0, 0, []), (12, 95, 0, 0, 0, []), (50, 96, 9, 0, 0, []), (6, 99, 0, 0, 0, []), (4, 100, 1, 0, 0, []), (4, 101, 2, 0, 0, []), (4, 102, 5, 0, 0, []), (11, 104, 0, 0, 0, []), (92, 105, 224, 3, 8, [(108855572, 11)]), (6, 108, 0, 0, 0, []), (61, 109, 11, 23, 87031880, []), (1, 112, 0, 0, 8, []), (4, 114, 4, 0, 0, []), (13, 116, 0, 0, 0, []), (4, 117, 5, 0, 0, []), (11, 119, 0, 0, 0, []), (6, 120, 0, 0, 0, []), (60, 121, 11, 16, 86573323, []), (68, 124, 0, 0, 0, []), (1, 125, 0, 0, 0, []), (7, 126, 6, 0, 0, []), (57, 128, 7, 0, 0, [])],
  [(4, 128, 6, 0, 0, []), (6, 130, 0, 0, 0, []), (60, 131, 11, 16, 86573323, []), (49, 134, 8, 0, 0, []), (1, 137, 0, 0, 64, []), (4, 139, 4, 0, 0, []), (13, 141, 0, 0, 0, []), (1, 142, 0, 0, 8, []), (4, 144, 5, 0, 0, []), (13, 146, 0, 0, 0, []), (11, 147, 0, 0, 0, []), (4, 148, 6, 0, 0, []), (11, 150, 0, 0, 0, []), (7, 151, 7, 0, 0, []), (6, 153, 0, 0, 0, []), (61, 154, 11, 20, 86835263, []), (4, 157, 7, 0, 0, []), (6, 159, 0, 0, 0, []), (61, 160, 11, 17, 86638646, []), (4, 163, 6, 0, 0, []), (65, 165, 0, 0, 0, []), (68, 166, 0, 0, 0, []), (6, 167, 0, 0, 0, []), (61, 168, 11, 21, 86900802, []), (4, 171, 7, 0, 0, []), (6, 173, 0, 0, 0, []), (61, 174, 11, 18, 86704185, []), (4, 177, 6, 0, 0, []), (65, 179, 0, 0, 0, []), (68, 180, 0, 0, 0, []), (6, 181, 0, 0, 0, []), (61, 182, 11, 22, 86966341, []), (4, 185, 7, 0, 0, []), (6, 187, 0, 0, 0, []), (61, 188, 11, 19, 86769724, []), (4, 191, 6, 0, 0, []), (65, 193, 0, 0, 0, []), (68, 194, 0, 0, 0, []), (10, 195, 6, 0, 1, []), (56, 198, 7, 0, 0, [])],
  [(10, 201, 5, 0, 1, []), (56, 204, 6, 0, 0, [])],
  [(4, 207, 4, 0, 0, []), (95, 209, 0, 0, 0, [])]]
/-! 230: EngraversHouseModel.mend:(IIII)I -/
set_option maxRecDepth 100000 in
noncomputable def zb230 : List (List zMI) := [
  [(6, 0, 0, 0, 0, []), (4, 1, 1, 0, 0, []), (92, 2, 199, 2, 2, [(103940332, 11)]), (41, 5, 1, 0, 0, []), (1, 8, 0, 0, (-1), []), (95, 9, 0, 0, 0, [])],
  [(6, 10, 0, 0, 0, []), (61, 11, 11, 3, 85721107, []), (4, 14, 1, 0, 0, []), (65, 15, 0, 0, 0, []), (1, 16, 0, 0, 3, []), (46, 17, 2, 0, 0, []), (1, 20, 0, 0, (-12), []), (95, 22, 0, 0, 0, [])],
  [(4, 23, 2, 0, 0, []), (6, 24, 0, 0, 0, []), (61, 25, 11, 5, 85852186, []), (4, 28, 1, 0, 0, []), (65, 29, 0, 0, 0, []), (6, 30, 0, 0, 0, []), (61, 31, 11, 5, 85852186, []), (4, 34, 1, 0, 0, []), (65, 35, 0, 0, 0, []), (6, 36, 0, 0, 0, []), (61, 37, 11, 6, 85917725, []), (4, 40, 1, 0, 0, []), (65, 41, 0, 0, 0, []), (11, 42, 0, 0, 0, []), (1, 43, 0, 0, 1, []), (12, 44, 0, 0, 0, []), (90, 45, 196, 3, 3, [(101974025, 11)]), (41, 48, 3, 0, 0, []), (1, 51, 0, 0, (-1), []), (95, 52, 0, 0, 0, [])],
  [(4, 53, 2, 0, 0, []), (6, 54, 0, 0, 0, []), (61, 55, 11, 5, 85852186, []), (4, 58, 1, 0, 0, []), (65, 59, 0, 0, 0, []), (12, 60, 0, 0, 0, []), (7, 61, 5, 0, 0, []), (4, 63, 3, 0, 0, []), (1, 64, 0, 0, 0, []), (6, 65, 0, 0, 0, []), (61, 66, 11, 23, 87031880, []), (1, 69, 0, 0, 8, []), (4, 71, 1, 0, 0, []), (13, 72, 0, 0, 0, []), (4, 73, 5, 0, 0, []), (11, 75, 0, 0, 0, []), (65, 76, 0, 0, 0, []), (1, 77, 0, 0, 1, []), (12, 78, 0, 0, 0, []), (90, 79, 196, 3, 3, [(101974025, 11)]), (41, 82, 4, 0, 0, []), (1, 85, 0, 0, (-1), []), (95, 86, 0, 0, 0, [])],
  [(4, 87, 4, 0, 0, []), (1, 89, 0, 0, 1, []), (1, 90, 0, 0, 72, []), (90, 92, 196, 3, 3, [(101974025, 11)]), (41, 95, 5, 0, 0, []), (1, 98, 0, 0, (-2), []), (95, 100, 0, 0, 0, [])],
  [(1, 101, 0, 0, 64, []), (4, 103, 1, 0, 0, []), (13, 104, 0, 0, 0, []), (1, 105, 0, 0, 8, []), (4, 107, 5, 0, 0, []), (13, 109, 0, 0, 0, []), (11, 110, 0, 0, 0, []), (4, 111, 3, 0, 0, []), (11, 112, 0, 0, 0, []), (7, 113, 6, 0, 0, []), (6, 115, 0, 0, 0, []), (61, 116, 11, 20, 86835263, []), (4, 119, 6, 0, 0, []), (65, 121, 0, 0, 0, []), (1, 122, 0, 0, (-1000), []), (47, 125, 6, 0, 0, []), (1, 128, 0, 0, (-3), []), (95, 130, 0, 0, 0, [])],
  [(6, 131, 0, 0, 0, []), (61, 132, 11, 20, 86835263, []), (4, 135, 6, 0, 0, []), (65, 137, 0, 0, 0, []), (7, 138, 7, 0, 0, []), (6, 140, 0, 0, 0, []), (61, 141, 11, 20, 86835263, []), (4, 144, 6, 0, 0, []), (4, 146, 4, 0, 0, []), (68, 148, 0, 0, 0, []), (4, 149, 7, 0, 0, []), (95, 151, 0, 0, 0, [])]]
/-! 231: EngraversHouseModel.isOff:(II)Z -/
set_option maxRecDepth 100000 in
noncomputable def zb231 : List (List zMI) := [
  [(6, 0, 0, 0, 0, []), (6, 1, 0, 0, 0, []), (61, 2, 11, 4, 85786647, []), (4, 5, 1, 0, 0, []), (65, 6, 0, 0, 0, []), (6, 7, 0, 0, 0, []), (61, 8, 11, 5, 85852186, []), (4, 11, 1, 0, 0, []), (65, 12, 0, 0, 0, []), (4, 13, 2, 0, 0, []), (11, 14, 0, 0, 0, []), (92, 15, 224, 3, 8, [(108855572, 11)]), (6, 18, 0, 0, 0, []), (60, 19, 11, 16, 86573323, []), (6, 22, 0, 0, 0, []), (61, 23, 11, 23, 87031880, []), (1, 26, 0, 0, 8, []), (4, 28, 1, 0, 0, []), (13, 29, 0, 0, 0, []), (4, 30, 2, 0, 0, []), (11, 31, 0, 0, 0, []), (65, 32, 0, 0, 0, []), (46, 33, 1, 0, 0, []), (1, 36, 0, 0, 1, []), (96, 37, 0, 0, 0, [])],
  [(1, 38, 0, 0, 0, []), (7, 39, 3, 0, 0, []), (57, 40, 2, 0, 0, [])],
  [(4, 40, 3, 0, 0, []), (6, 41, 0, 0, 0, []), (60, 42, 11, 16, 86573323, []), (49, 45, 5, 0, 0, []), (1, 48, 0, 0, 64, []), (4, 50, 1, 0, 0, []), (13, 51, 0, 0, 0, []), (1, 52, 0, 0, 8, []), (4, 54, 2, 0, 0, []), (13, 55, 0, 0, 0, []), (11, 56, 0, 0, 0, []), (4, 57, 3, 0, 0, []), (11, 58, 0, 0, 0, []), (7, 59, 4, 0, 0, []), (6, 61, 0, 0, 0, []), (61, 62, 11, 17, 86638646, []), (4, 65, 3, 0, 0, []), (65, 66, 0, 0, 0, []), (6, 67, 0, 0, 0, []), (61, 68, 11, 20, 86835263, []), (4, 71, 4, 0, 0, []), (65, 73, 0, 0, 0, []), (47, 74, 3, 0, 0, []), (6, 77, 0, 0, 0, []), (61, 78, 11, 18, 86704185, []), (4, 81, 3, 0, 0, []), (65, 82, 0, 0, 0, []), (6, 83, 0, 0, 0, []), (61, 84, 11, 21, 86900802, []), (4, 87, 4, 0, 0, []), (65, 89, 0, 0, 0, []), (47, 90, 3, 0, 0, []), (6, 93, 0, 0, 0, []), (61, 94, 11, 19, 86769724, []), (4, 97, 3, 0, 0, []), (65, 98, 0, 0, 0, []), (6, 99, 0, 0, 0, []), (61, 100, 11, 22, 86966341, []), (4, 103, 4, 0, 0, []), (65, 105, 0, 0, 0, []), (46, 106, 4, 0, 0, []), (57, 109, 3, 0, 0, [])],
  [(1, 109, 0, 0, 1, []), (96, 110, 0, 0, 0, [])],
  [(10, 111, 3, 0, 1, []), (56, 114, 2, 0, 0, [])],
  [(1, 117, 0, 0, 0, []), (96, 118, 0, 0, 0, [])]]
/-! 232: EngraversHouseModel.offs:(I)I -/
set_option maxRecDepth 100000 in
noncomputable def zb232 : List (List zMI) := [
  [(1, 0, 0, 0, 0, []), (7, 1, 2, 0, 0, []), (1, 2, 0, 0, 0, []), (7, 3, 3, 0, 0, []), (57, 4, 1, 0, 0, [])],
  [(4, 4, 3, 0, 0, []), (6, 5, 0, 0, 0, []), (61, 6, 11, 6, 85917725, []), (4, 9, 1, 0, 0, []), (65, 10, 0, 0, 0, []), (49, 11, 4, 0, 0, []), (4, 14, 2, 0, 0, []), (6, 15, 0, 0, 0, []), (4, 16, 1, 0, 0, []), (4, 17, 3, 0, 0, []), (92, 18, 231, 3, 5, [(110362907, 11)]), (40, 21, 2, 0, 0, []), (1, 24, 0, 0, 1, []), (4, 25, 3, 0, 0, []), (17, 26, 0, 0, 0, []), (56, 27, 3, 0, 0, [])],
  [(1, 30, 0, 0, 0, []), (57, 31, 3, 0, 0, [])],
  [(21, 31, 0, 0, 0, []), (7, 32, 2, 0, 0, []), (10, 33, 3, 0, 1, []), (56, 36, 1, 0, 0, [])],
  [(4, 39, 2, 0, 0, []), (95, 40, 0, 0, 0, [])]]
/-! 233: EngraversHouseModel.bitsOf:(I)I -/
set_option maxRecDepth 100000 in
noncomputable def zb233 : List (List zMI) := [
  [(1, 0, 0, 0, 0, []), (7, 1, 1, 0, 0, []), (4, 2, 0, 0, 0, []), (7, 3, 2, 0, 0, []), (57, 4, 1, 0, 0, [])],
  [(4, 4, 2, 0, 0, []), (40, 5, 2, 0, 0, []), (10, 8, 1, 0, 1, []), (4, 11, 2, 0, 0, []), (4, 12, 2, 0, 0, []), (1, 13, 0, 0, 1, []), (12, 14, 0, 0, 0, []), (20, 15, 0, 0, 0, []), (7, 16, 2, 0, 0, []), (56, 17, 1, 0, 0, [])],
  [(4, 20, 1, 0, 0, []), (95, 21, 0, 0, 0, [])]]
/-! 234: EngraversHouseModel.differs:(II)I -/
set_option maxRecDepth 100000 in
noncomputable def zb234 : List (List zMI) := [
  [(6, 0, 0, 0, 0, []), (4, 1, 1, 0, 0, []), (92, 2, 199, 2, 2, [(103940332, 11)]), (40, 5, 1, 0, 0, []), (4, 8, 2, 0, 0, []), (1, 9, 0, 0, 0, []), (1, 10, 0, 0, 1, []), (90, 11, 196, 3, 3, [(101974025, 11)]), (41, 14, 2, 0, 0, []), (57, 17, 1, 0, 0, [])],
  [(1, 17, 0, 0, (-1), []), (95, 18, 0, 0, 0, [])],
  [(6, 19, 0, 0, 0, []), (61, 20, 11, 3, 85721107, []), (4, 23, 1, 0, 0, []), (65, 24, 0, 0, 0, []), (1, 25, 0, 0, 3, []), (46, 26, 3, 0, 0, []), (1, 29, 0, 0, (-12), []), (95, 31, 0, 0, 0, [])],
  [(6, 32, 0, 0, 0, []), (4, 33, 1, 0, 0, []), (92, 34, 232, 2, 4, [(110100766, 11)]), (7, 37, 3, 0, 0, []), (4, 38, 2, 0, 0, []), (41, 39, 4, 0, 0, []), (4, 42, 3, 0, 0, []), (90, 43, 233, 1, 3, [(110625057, 11)]), (95, 46, 0, 0, 0, [])],
  [(4, 47, 3, 0, 0, []), (41, 48, 5, 0, 0, []), (1, 51, 0, 0, (-1), []), (95, 52, 0, 0, 0, [])],
  [(1, 53, 0, 0, 0, []), (7, 54, 4, 0, 0, []), (57, 56, 6, 0, 0, [])],
  [(4, 56, 3, 0, 0, []), (4, 57, 4, 0, 0, []), (18, 59, 0, 0, 0, []), (1, 60, 0, 0, 1, []), (20, 61, 0, 0, 0, []), (41, 62, 7, 0, 0, []), (10, 65, 4, 0, 1, []), (56, 68, 6, 0, 0, [])],
  [(6, 71, 0, 0, 0, []), (61, 72, 11, 5, 85852186, []), (4, 75, 1, 0, 0, []), (65, 76, 0, 0, 0, []), (4, 77, 4, 0, 0, []), (11, 79, 0, 0, 0, []), (95, 80, 0, 0, 0, [])]]
/-! 235: EngraversHouseModel.press:(I)I -/
set_option maxRecDepth 100000 in
noncomputable def zb235 : List (List zMI) := [
  [(6, 0, 0, 0, 0, []), (4, 1, 1, 0, 0, []), (92, 2, 199, 2, 2, [(103940332, 11)]), (41, 5, 1, 0, 0, []), (1, 8, 0, 0, (-1), []), (95, 9, 0, 0, 0, [])],
  [(6, 10, 0, 0, 0, []), (61, 11, 11, 3, 85721107, []), (4, 14, 1, 0, 0, []), (65, 15, 0, 0, 0, []), (1, 16, 0, 0, 3, []), (46, 17, 2, 0, 0, []), (1, 20, 0, 0, (-12), []), (95, 22, 0, 0, 0, [])],
  [(6, 23, 0, 0, 0, []), (60, 24, 11, 24, 87097636, []), (45, 27, 3, 0, 0, []), (6, 30, 0, 0, 0, []), (6, 31, 0, 0, 0, []), (61, 32, 11, 25, 87162955, []), (1, 35, 0, 0, 0, []), (65, 36, 0, 0, 0, []), (92, 37, 220, 2, 2, [(107020549, 11)]), (6, 40, 0, 0, 0, []), (4, 41, 1, 0, 0, []), (92, 42, 220, 2, 2, [(107020549, 11)]), (46, 45, 3, 0, 0, []), (1, 48, 0, 0, (-3), []), (95, 50, 0, 0, 0, [])],
  [(6, 51, 0, 0, 0, []), (60, 52, 11, 24, 87097636, []), (1, 55, 0, 0, 12, []), (47, 57, 4, 0, 0, []), (1, 60, 0, 0, (-4), []), (95, 62, 0, 0, 0, [])],
  [(6, 63, 0, 0, 0, []), (61, 64, 11, 25, 87162955, []), (6, 67, 0, 0, 0, []), (60, 68, 11, 24, 87097636, []), (4, 71, 1, 0, 0, []), (68, 72, 0, 0, 0, []), (6, 73, 0, 0, 0, []), (33, 74, 0, 0, 0, []), (60, 75, 11, 24, 87097636, []), (1, 78, 0, 0, 1, []), (11, 79, 0, 0, 0, []), (62, 80, 11, 24, 87097636, []), (6, 83, 0, 0, 0, []), (60, 84, 11, 24, 87097636, []), (95, 87, 0, 0, 0, [])]]
/-! 236: EngraversHouseModel.edition:()I -/
set_option maxRecDepth 100000 in
noncomputable def zb236 : List (List zMI) := [
  [(6, 0, 0, 0, 0, []), (60, 1, 11, 24, 87097636, []), (41, 4, 1, 0, 0, []), (1, 7, 0, 0, (-3), []), (95, 9, 0, 0, 0, [])],
  [(6, 10, 0, 0, 0, []), (60, 11, 11, 2, 85655767, []), (1, 14, 0, 0, 60, []), (47, 16, 2, 0, 0, []), (1, 19, 0, 0, (-4), []), (95, 21, 0, 0, 0, [])],
  [(6, 22, 0, 0, 0, []), (1, 23, 0, 0, 4, []), (6, 24, 0, 0, 0, []), (6, 25, 0, 0, 0, []), (61, 26, 11, 25, 87162955, []), (1, 29, 0, 0, 0, []), (65, 30, 0, 0, 0, []), (92, 31, 220, 2, 2, [(107020549, 11)]), (6, 34, 0, 0, 0, []), (60, 35, 11, 24, 87097636, []), (1, 38, 0, 0, 0, []), (92, 39, 203, 5, 6, [(103416040, 11)]), (7, 42, 1, 0, 0, []), (1, 43, 0, 0, 0, []), (7, 44, 2, 0, 0, []), (57, 45, 3, 0, 0, [])],
  [(4, 45, 2, 0, 0, []), (6, 46, 0, 0, 0, []), (60, 47, 11, 24, 87097636, []), (49, 50, 10, 0, 0, []), (6, 53, 0, 0, 0, []), (61, 54, 11, 25, 87162955, []), (4, 57, 2, 0, 0, []), (65, 58, 0, 0, 0, []), (7, 59, 3, 0, 0, []), (6, 60, 0, 0, 0, []), (61, 61, 11, 6, 85917725, []), (6, 64, 0, 0, 0, []), (61, 65, 11, 4, 85786647, []), (4, 68, 3, 0, 0, []), (65, 69, 0, 0, 0, []), (65, 70, 0, 0, 0, []), (7, 71, 4, 0, 0, []), (1, 73, 0, 0, 0, []), (7, 74, 5, 0, 0, []), (57, 76, 4, 0, 0, [])],
  [(4, 76, 5, 0, 0, []), (6, 78, 0, 0, 0, []), (61, 79, 11, 6, 85917725, []), (4, 82, 3, 0, 0, []), (65, 83, 0, 0, 0, []), (49, 84, 9, 0, 0, []), (6, 87, 0, 0, 0, []), (4, 88, 1, 0, 0, []), (6, 89, 0, 0, 0, []), (61, 90, 11, 5, 85852186, []), (6, 93, 0, 0, 0, []), (61, 94, 11, 4, 85786647, []), (4, 97, 3, 0, 0, []), (65, 98, 0, 0, 0, []), (65, 99, 0, 0, 0, []), (6, 100, 0, 0, 0, []), (61, 101, 11, 5, 85852186, []), (4, 104, 3, 0, 0, []), (65, 105, 0, 0, 0, []), (4, 106, 5, 0, 0, []), (11, 108, 0, 0, 0, []), (92, 109, 211, 4, 4, [(105447666, 11)]), (7, 112, 6, 0, 0, []), (6, 114, 0, 0, 0, []), (61, 115, 11, 29, 87425111, []), (4, 118, 6, 0, 0, []), (6, 120, 0, 0, 0, []), (61, 121, 11, 23, 87031880, []), (1, 124, 0, 0, 8, []), (4, 126, 3, 0, 0, []), (13, 127, 0, 0, 0, []), (4, 128, 5, 0, 0, []), (11, 130, 0, 0, 0, []), (65, 131, 0, 0, 0, []), (68, 132, 0, 0, 0, []), (1, 133, 0, 0, 0, []), (7, 134, 7, 0, 0, []), (57, 136, 5, 0, 0, [])],
  [(4, 136, 7, 0, 0, []), (6, 138, 0, 0, 0, []), (61, 139, 11, 29, 87425111, []), (4, 142, 6, 0, 0, []), (65, 144, 0, 0, 0, []), (49, 145, 8, 0, 0, []), (1, 148, 0, 0, 64, []), (4, 150, 3, 0, 0, []), (13, 151, 0, 0, 0, []), (1, 152, 0, 0, 8, []), (4, 154, 5, 0, 0, []), (13, 156, 0, 0, 0, []), (11, 157, 0, 0, 0, []), (4, 158, 7, 0, 0, []), (11, 160, 0, 0, 0, []), (7, 161, 8, 0, 0, []), (6, 163, 0, 0, 0, []), (61, 164, 11, 26, 87228494, []), (1, 167, 0, 0, 8, []), (4, 169, 6, 0, 0, []), (13, 171, 0, 0, 0, []), (4, 172, 7, 0, 0, []), (11, 174, 0, 0, 0, []), (6, 175, 0, 0, 0, []), (61, 176, 11, 20, 86835263, []), (4, 179, 8, 0, 0, []), (65, 181, 0, 0, 0, []), (1, 182, 0, 0, (-1000), []), (47, 185, 6, 0, 0, []), (1, 188, 0, 0, (-1000), []), (56, 191, 7, 0, 0, [])],
  [(6, 194, 0, 0, 0, []), (61, 195, 11, 20, 86835263, []), (4, 198, 8, 0, 0, []), (65, 200, 0, 0, 0, []), (4, 201, 4, 0, 0, []), (12, 203, 0, 0, 0, []), (57, 204, 7, 0, 0, [])],
  [(68, 204, 0, 0, 0, []), (6, 205, 0, 0, 0, []), (61, 206, 11, 27, 87294033, []), (1, 209, 0, 0, 8, []), (4, 211, 6, 0, 0, []), (13, 213, 0, 0, 0, []), (4, 214, 7, 0, 0, []), (11, 216, 0, 0, 0, []), (6, 217, 0, 0, 0, []), (61, 218, 11, 21, 86900802, []), (4, 221, 8, 0, 0, []), (65, 223, 0, 0, 0, []), (68, 224, 0, 0, 0, []), (6, 225, 0, 0, 0, []), (61, 226, 11, 28, 87359572, []), (1, 229, 0, 0, 8, []), (4, 231, 6, 0, 0, []), (13, 233, 0, 0, 0, []), (4, 234, 7, 0, 0, []), (11, 236, 0, 0, 0, []), (6, 237, 0, 0, 0, []), (61, 238, 11, 22, 86966341, []), (4, 241, 8, 0, 0, []), (65, 243, 0, 0, 0, []), (68, 244, 0, 0, 0, []), (10, 245, 7, 0, 1, []), (56, 248, 5, 0, 0, [])],
  [(10, 251, 5, 0, 1, []), (56, 254, 4, 0, 0, [])],
  [(10, 257, 2, 0, 1, []), (56, 260, 3, 0, 0, [])],
  [(6, 263, 0, 0, 0, []), (1, 264, 0, 0, 0, []), (62, 265, 11, 24, 87097636, []), (4, 268, 1, 0, 0, []), (95, 269, 0, 0, 0, [])]]
/-! 237: EngraversHouseModel.amendedPitch:(IIIII)I -/
set_option maxRecDepth 100000 in
noncomputable def zb237 : List (List zMI) := [
  [(6, 0, 0, 0, 0, []), (61, 1, 11, 26, 87228494, []), (1, 4, 0, 0, 8, []), (6, 6, 0, 0, 0, []), (4, 7, 1, 0, 0, []), (4, 8, 2, 0, 0, []), (4, 9, 3, 0, 0, []), (92, 10, 211, 4, 4, [(105447666, 11)]), (13, 13, 0, 0, 0, []), (4, 14, 4, 0, 0, []), (11, 16, 0, 0, 0, []), (65, 17, 0, 0, 0, []), (7, 18, 6, 0, 0, []), (1, 20, 0, 0, 0, []), (7, 21, 7, 0, 0, []), (57, 23, 1, 0, 0, [])],
  [(4, 23, 7, 0, 0, []), (4, 25, 5, 0, 0, []), (49, 27, 3, 0, 0, []), (6, 30, 0, 0, 0, []), (61, 31, 11, 3, 85721107, []), (4, 34, 7, 0, 0, []), (65, 36, 0, 0, 0, []), (1, 37, 0, 0, 7, []), (47, 39, 2, 0, 0, []), (6, 42, 0, 0, 0, []), (61, 43, 11, 4, 85786647, []), (4, 46, 7, 0, 0, []), (65, 48, 0, 0, 0, []), (4, 49, 1, 0, 0, []), (47, 50, 2, 0, 0, []), (6, 53, 0, 0, 0, []), (61, 54, 11, 5, 85852186, []), (4, 57, 7, 0, 0, []), (65, 59, 0, 0, 0, []), (4, 60, 2, 0, 0, []), (47, 61, 2, 0, 0, []), (6, 64, 0, 0, 0, []), (61, 65, 11, 6, 85917725, []), (4, 68, 7, 0, 0, []), (65, 70, 0, 0, 0, []), (4, 71, 3, 0, 0, []), (47, 72, 2, 0, 0, []), (6, 75, 0, 0, 0, []), (61, 76, 11, 32, 87621728, []), (4, 79, 7, 0, 0, []), (65, 81, 0, 0, 0, []), (4, 82, 4, 0, 0, []), (47, 84, 2, 0, 0, []), (4, 87, 6, 0, 0, []), (6, 89, 0, 0, 0, []), (61, 90, 11, 30, 87490650, []), (4, 93, 7, 0, 0, []), (65, 95, 0, 0, 0, []), (47, 96, 2, 0, 0, []), (6, 99, 0, 0, 0, []), (61, 100, 11, 31, 87556189, []), (4, 103, 7, 0, 0, []), (65, 105, 0, 0, 0, []), (7, 106, 6, 0, 0, []), (57, 108, 2, 0, 0, [])],
  [(10, 108, 7, 0, 1, []), (56, 111, 1, 0, 0, [])],
  [(4, 114, 6, 0, 0, []), (95, 116, 0, 0, 0, [])]]
/-! 238: EngraversHouseModel.hasBar:(III)Z -/
set_option maxRecDepth 100000 in
noncomputable def zb238 : List (List zMI) := [
  [(4, 0, 2, 0, 0, []), (1, 1, 0, 0, 0, []), (1, 2, 0, 0, 3, []), (90, 3, 196, 3, 3, [(101974025, 11)]), (40, 6, 1, 0, 0, []), (4, 9, 3, 0, 0, []), (1, 10, 0, 0, 0, []), (1, 11, 0, 0, 19, []), (90, 13, 196, 3, 3, [(101974025, 11)]), (40, 16, 1, 0, 0, []), (6, 19, 0, 0, 0, []), (61, 20, 11, 29, 87425111, []), (6, 23, 0, 0, 0, []), (4, 24, 1, 0, 0, []), (4, 25, 2, 0, 0, []), (4, 26, 3, 0, 0, []), (92, 27, 211, 4, 4, [(105447666, 11)]), (65, 30, 0, 0, 0, []), (42, 31, 1, 0, 0, []), (1, 34, 0, 0, 1, []), (56, 35, 2, 0, 0, [])],
  [(1, 38, 0, 0, 0, []), (57, 39, 2, 0, 0, [])],
  [(96, 39, 0, 0, 0, [])]]
/-! 239: EngraversHouseModel.printed:(IIIII)I -/
set_option maxRecDepth 100000 in
noncomputable def zb239 : List (List zMI) := [
  [(6, 0, 0, 0, 0, []), (4, 1, 1, 0, 0, []), (92, 2, 199, 2, 2, [(103940332, 11)]), (40, 5, 1, 0, 0, []), (6, 8, 0, 0, 0, []), (61, 9, 11, 3, 85721107, []), (4, 12, 1, 0, 0, []), (65, 13, 0, 0, 0, []), (1, 14, 0, 0, 4, []), (47, 15, 1, 0, 0, []), (6, 18, 0, 0, 0, []), (4, 19, 1, 0, 0, []), (4, 20, 2, 0, 0, []), (4, 21, 3, 0, 0, []), (92, 22, 238, 4, 4, [(111608103, 11)]), (40, 25, 1, 0, 0, []), (4, 28, 5, 0, 0, []), (1, 30, 0, 0, 0, []), (1, 31, 0, 0, 1, []), (90, 32, 196, 3, 3, [(101974025, 11)]), (41, 35, 2, 0, 0, []), (57, 38, 1, 0, 0, [])],
  [(1, 38, 0, 0, (-5), []), (95, 40, 0, 0, 0, [])],
  [(6, 41, 0, 0, 0, []), (4, 42, 1, 0, 0, []), (4, 43, 2, 0, 0, []), (4, 44, 3, 0, 0, []), (92, 45, 211, 4, 4, [(105447666, 11)]), (7, 48, 6, 0, 0, []), (4, 50, 4, 0, 0, []), (1, 52, 0, 0, (-1), []), (6, 53, 0, 0, 0, []), (61, 54, 11, 29, 87425111, []), (4, 57, 6, 0, 0, []), (65, 59, 0, 0, 0, []), (1, 60, 0, 0, 1, []), (12, 61, 0, 0, 0, []), (90, 62, 196, 3, 3, [(101974025, 11)]), (41, 65, 3, 0, 0, []), (1, 68, 0, 0, (-5), []), (95, 70, 0, 0, 0, [])],
  [(4, 71, 4, 0, 0, []), (43, 73, 4, 0, 0, []), (6, 76, 0, 0, 0, []), (61, 77, 11, 29, 87425111, []), (4, 80, 6, 0, 0, []), (65, 82, 0, 0, 0, []), (95, 83, 0, 0, 0, [])],
  [(6, 84, 0, 0, 0, []), (4, 85, 1, 0, 0, []), (4, 86, 2, 0, 0, []), (4, 87, 3, 0, 0, []), (4, 88, 4, 0, 0, []), (4, 90, 5, 0, 0, []), (41, 92, 5, 0, 0, []), (1, 95, 0, 0, 0, []), (56, 96, 6, 0, 0, [])],
  [(6, 99, 0, 0, 0, []), (60, 100, 11, 2, 85655767, []), (57, 103, 6, 0, 0, [])],
  [(92, 103, 237, 6, 8, [(111870250, 11)]), (6, 106, 0, 0, 0, []), (61, 107, 11, 27, 87294033, []), (1, 110, 0, 0, 8, []), (4, 112, 6, 0, 0, []), (13, 114, 0, 0, 0, []), (4, 115, 4, 0, 0, []), (11, 117, 0, 0, 0, []), (65, 118, 0, 0, 0, []), (6, 119, 0, 0, 0, []), (61, 120, 11, 28, 87359572, []), (1, 123, 0, 0, 8, []), (4, 125, 6, 0, 0, []), (13, 127, 0, 0, 0, []), (4, 128, 4, 0, 0, []), (11, 130, 0, 0, 0, []), (65, 131, 0, 0, 0, []), (90, 132, 225, 3, 3, [(109117720, 11)]), (95, 135, 0, 0, 0, [])]]
/-! 240: EngraversHouseModel.erratum:(IIIIII)I -/
set_option maxRecDepth 100000 in
noncomputable def zb240 : List (List zMI) := [
  [(6, 0, 0, 0, 0, []), (4, 1, 1, 0, 0, []), (92, 2, 199, 2, 2, [(103940332, 11)]), (40, 5, 1, 0, 0, []), (4, 8, 2, 0, 0, []), (1, 9, 0, 0, 0, []), (1, 10, 0, 0, 3, []), (90, 11, 196, 3, 3, [(101974025, 11)]), (41, 14, 2, 0, 0, []), (57, 17, 1, 0, 0, [])],
  [(1, 17, 0, 0, (-1), []), (95, 18, 0, 0, 0, [])],
  [(6, 19, 0, 0, 0, []), (61, 20, 11, 3, 85721107, []), (4, 23, 1, 0, 0, []), (65, 24, 0, 0, 0, []), (1, 25, 0, 0, 4, []), (46, 26, 3, 0, 0, []), (1, 29, 0, 0, (-12), []), (95, 31, 0, 0, 0, [])],
  [(4, 32, 3, 0, 0, []), (1, 33, 0, 0, 0, []), (1, 34, 0, 0, 19, []), (90, 36, 196, 3, 3, [(101974025, 11)]), (40, 39, 4, 0, 0, []), (4, 42, 4, 0, 0, []), (1, 44, 0, 0, 0, []), (1, 45, 0, 0, 7, []), (90, 47, 196, 3, 3, [(101974025, 11)]), (40, 50, 4, 0, 0, []), (4, 53, 5, 0, 0, []), (1, 55, 0, 0, 1, []), (1, 56, 0, 0, 60, []), (90, 58, 196, 3, 3, [(101974025, 11)]), (40, 61, 4, 0, 0, []), (4, 64, 6, 0, 0, []), (1, 66, 0, 0, 1, []), (1, 67, 0, 0, 60, []), (90, 69, 196, 3, 3, [(101974025, 11)]), (41, 72, 5, 0, 0, []), (57, 75, 4, 0, 0, [])],
  [(1, 75, 0, 0, (-2), []), (95, 77, 0, 0, 0, [])],
  [(6, 78, 0, 0, 0, []), (60, 79, 11, 2, 85655767, []), (1, 82, 0, 0, 60, []), (47, 84, 6, 0, 0, []), (1, 87, 0, 0, (-4), []), (95, 89, 0, 0, 0, [])],
  [(6, 90, 0, 0, 0, []), (1, 91, 0, 0, 7, []), (4, 93, 1, 0, 0, []), (4, 94, 2, 0, 0, []), (4, 95, 3, 0, 0, []), (92, 96, 203, 5, 6, [(103416040, 11)]), (7, 99, 7, 0, 0, []), (6, 101, 0, 0, 0, []), (61, 102, 11, 32, 87621728, []), (4, 105, 7, 0, 0, []), (4, 107, 4, 0, 0, []), (68, 109, 0, 0, 0, []), (6, 110, 0, 0, 0, []), (61, 111, 11, 30, 87490650, []), (4, 114, 7, 0, 0, []), (4, 116, 5, 0, 0, []), (68, 118, 0, 0, 0, []), (6, 119, 0, 0, 0, []), (61, 120, 11, 31, 87556189, []), (4, 123, 7, 0, 0, []), (4, 125, 6, 0, 0, []), (68, 127, 0, 0, 0, []), (4, 128, 7, 0, 0, []), (95, 130, 0, 0, 0, [])]]
/-! 241: EngraversHouseModel.idle:(I)I -/
set_option maxRecDepth 100000 in
noncomputable def zb241 : List (List zMI) := [
  [(6, 0, 0, 0, 0, []), (4, 1, 1, 0, 0, []), (92, 2, 199, 2, 2, [(103940332, 11)]), (41, 5, 1, 0, 0, []), (1, 8, 0, 0, (-1), []), (95, 9, 0, 0, 0, [])],
  [(6, 10, 0, 0, 0, []), (61, 11, 11, 3, 85721107, []), (4, 14, 1, 0, 0, []), (65, 15, 0, 0, 0, []), (1, 16, 0, 0, 7, []), (46, 18, 2, 0, 0, []), (1, 21, 0, 0, (-12), []), (95, 23, 0, 0, 0, [])],
  [(6, 24, 0, 0, 0, []), (61, 25, 11, 4, 85786647, []), (4, 28, 1, 0, 0, []), (65, 29, 0, 0, 0, []), (7, 30, 2, 0, 0, []), (6, 31, 0, 0, 0, []), (4, 32, 2, 0, 0, []), (6, 33, 0, 0, 0, []), (61, 34, 11, 5, 85852186, []), (4, 37, 1, 0, 0, []), (65, 38, 0, 0, 0, []), (6, 39, 0, 0, 0, []), (61, 40, 11, 6, 85917725, []), (4, 43, 1, 0, 0, []), (65, 44, 0, 0, 0, []), (92, 45, 238, 4, 4, [(111608103, 11)]), (40, 48, 3, 0, 0, []), (6, 51, 0, 0, 0, []), (61, 52, 11, 32, 87621728, []), (4, 55, 1, 0, 0, []), (65, 56, 0, 0, 0, []), (6, 57, 0, 0, 0, []), (61, 58, 11, 29, 87425111, []), (6, 61, 0, 0, 0, []), (4, 62, 2, 0, 0, []), (6, 63, 0, 0, 0, []), (61, 64, 11, 5, 85852186, []), (4, 67, 1, 0, 0, []), (65, 68, 0, 0, 0, []), (6, 69, 0, 0, 0, []), (61, 70, 11, 6, 85917725, []), (4, 73, 1, 0, 0, []), (65, 74, 0, 0, 0, []), (92, 75, 211, 4, 4, [(105447666, 11)]), (65, 78, 0, 0, 0, []), (48, 79, 4, 0, 0, []), (57, 82, 3, 0, 0, [])],
  [(1, 82, 0, 0, 1, []), (95, 83, 0, 0, 0, [])],
  [(6, 84, 0, 0, 0, []), (4, 85, 2, 0, 0, []), (6, 86, 0, 0, 0, []), (61, 87, 11, 5, 85852186, []), (4, 90, 1, 0, 0, []), (65, 91, 0, 0, 0, []), (6, 92, 0, 0, 0, []), (61, 93, 11, 6, 85917725, []), (4, 96, 1, 0, 0, []), (65, 97, 0, 0, 0, []), (6, 98, 0, 0, 0, []), (61, 99, 11, 32, 87621728, []), (4, 102, 1, 0, 0, []), (65, 103, 0, 0, 0, []), (4, 104, 1, 0, 0, []), (92, 105, 237, 6, 8, [(111870250, 11)]), (6, 108, 0, 0, 0, []), (61, 109, 11, 30, 87490650, []), (4, 112, 1, 0, 0, []), (65, 113, 0, 0, 0, []), (47, 114, 5, 0, 0, []), (1, 117, 0, 0, 0, []), (56, 118, 6, 0, 0, [])],
  [(1, 121, 0, 0, 1, []), (57, 122, 6, 0, 0, [])],
  [(95, 122, 0, 0, 0, [])]]
/-! 242: EngraversHouseModel.areAlike:(II)Z -/
set_option maxRecDepth 100000 in
noncomputable def zb242 : List (List zMI) := [
  [(6, 0, 0, 0, 0, []), (61, 1, 11, 29, 87425111, []), (4, 4, 1, 0, 0, []), (65, 5, 0, 0, 0, []), (6, 6, 0, 0, 0, []), (61, 7, 11, 29, 87425111, []), (4, 10, 2, 0, 0, []), (65, 11, 0, 0, 0, []), (46, 12, 1, 0, 0, []), (1, 15, 0, 0, 0, []), (96, 16, 0, 0, 0, [])],
  [(1, 17, 0, 0, 0, []), (7, 18, 3, 0, 0, []), (57, 19, 2, 0, 0, [])],
  [(4, 19, 3, 0, 0, []), (6, 20, 0, 0, 0, []), (61, 21, 11, 29, 87425111, []), (4, 24, 1, 0, 0, []), (65, 25, 0, 0, 0, []), (49, 26, 5, 0, 0, []), (6, 29, 0, 0, 0, []), (61, 30, 11, 26, 87228494, []), (1, 33, 0, 0, 8, []), (4, 35, 1, 0, 0, []), (13, 36, 0, 0, 0, []), (4, 37, 3, 0, 0, []), (11, 38, 0, 0, 0, []), (65, 39, 0, 0, 0, []), (6, 40, 0, 0, 0, []), (61, 41, 11, 26, 87228494, []), (1, 44, 0, 0, 8, []), (4, 46, 2, 0, 0, []), (13, 47, 0, 0, 0, []), (4, 48, 3, 0, 0, []), (11, 49, 0, 0, 0, []), (65, 50, 0, 0, 0, []), (47, 51, 3, 0, 0, []), (6, 54, 0, 0, 0, []), (61, 55, 11, 27, 87294033, []), (1, 58, 0, 0, 8, []), (4, 60, 1, 0, 0, []), (13, 61, 0, 0, 0, []), (4, 62, 3, 0, 0, []), (11, 63, 0, 0, 0, []), (65, 64, 0, 0, 0, []), (6, 65, 0, 0, 0, []), (61, 66, 11, 27, 87294033, []), (1, 69, 0, 0, 8, []), (4, 71, 2, 0, 0, []), (13, 72, 0, 0, 0, []), (4, 73, 3, 0, 0, []), (11, 74, 0, 0, 0, []), (65, 75, 0, 0, 0, []), (47, 76, 3, 0, 0, []), (6, 79, 0, 0, 0, []), (61, 80, 11, 28, 87359572, []), (1, 83, 0, 0, 8, []), (4, 85, 1, 0, 0, []), (13, 86, 0, 0, 0, []), (4, 87, 3, 0, 0, []), (11, 88, 0, 0, 0, []), (65, 89, 0, 0, 0, []), (6, 90, 0, 0, 0, []), (61, 91, 11, 28, 87359572, []), (1, 94, 0, 0, 8, []), (4, 96, 2, 0, 0, []), (13, 97, 0, 0, 0, []), (4, 98, 3, 0, 0, []), (11, 99, 0, 0, 0, []), (65, 100, 0, 0, 0, []), (46, 101, 4, 0, 0, []), (57, 104, 3, 0, 0, [])],
  [(1, 104, 0, 0, 0, []), (96, 105, 0, 0, 0, [])],
  [(10, 106, 3, 0, 1, []), (56, 109, 2, 0, 0, [])],
  [(1, 112, 0, 0, 1, []), (96, 113, 0, 0, 0, [])]]
/-! 243: EngraversHouseModel.changesOf:(III)I -/
set_option maxRecDepth 100000 in
noncomputable def zb243 : List (List zMI) := [
  [(1, 0, 0, 0, 0, []), (7, 1, 4, 0, 0, []), (1, 3, 0, 0, 0, []), (7, 4, 5, 0, 0, []), (1, 6, 0, 0, 0, []), (7, 7, 6, 0, 0, []), (57, 9, 1, 0, 0, [])],
  [(4, 9, 6, 0, 0, []), (1, 11, 0, 0, 20, []), (49, 13, 4, 0, 0, []), (6, 16, 0, 0, 0, []), (4, 17, 1, 0, 0, []), (4, 18, 3, 0, 0, []), (4, 19, 6, 0, 0, []), (92, 21, 238, 4, 4, [(111608103, 11)]), (40, 24, 2, 0, 0, []), (6, 27, 0, 0, 0, []), (61, 28, 11, 33, 87687267, []), (4, 31, 4, 0, 0, []), (6, 33, 0, 0, 0, []), (4, 34, 1, 0, 0, []), (4, 35, 3, 0, 0, []), (4, 36, 6, 0, 0, []), (92, 38, 211, 4, 4, [(105447666, 11)]), (68, 41, 0, 0, 0, []), (10, 42, 4, 0, 1, []), (57, 45, 2, 0, 0, [])],
  [(6, 45, 0, 0, 0, []), (4, 46, 2, 0, 0, []), (4, 47, 3, 0, 0, []), (4, 48, 6, 0, 0, []), (92, 50, 238, 4, 4, [(111608103, 11)]), (40, 53, 3, 0, 0, []), (6, 56, 0, 0, 0, []), (61, 57, 11, 34, 87752806, []), (4, 60, 5, 0, 0, []), (6, 62, 0, 0, 0, []), (4, 63, 2, 0, 0, []), (4, 64, 3, 0, 0, []), (4, 65, 6, 0, 0, []), (92, 67, 211, 4, 4, [(105447666, 11)]), (68, 70, 0, 0, 0, []), (10, 71, 5, 0, 1, []), (57, 74, 3, 0, 0, [])],
  [(10, 74, 6, 0, 1, []), (56, 77, 1, 0, 0, [])],
  [(1, 80, 0, 0, 0, []), (7, 81, 6, 0, 0, []), (57, 83, 5, 0, 0, [])],
  [(4, 83, 6, 0, 0, []), (4, 85, 4, 0, 0, []), (50, 87, 15, 0, 0, []), (1, 90, 0, 0, 0, []), (7, 91, 7, 0, 0, []), (57, 93, 6, 0, 0, [])],
  [(4, 93, 7, 0, 0, []), (4, 95, 5, 0, 0, []), (50, 97, 14, 0, 0, []), (4, 100, 6, 0, 0, []), (41, 102, 7, 0, 0, []), (4, 105, 7, 0, 0, []), (56, 107, 11, 0, 0, [])],
  [(4, 110, 7, 0, 0, []), (41, 112, 8, 0, 0, []), (4, 115, 6, 0, 0, []), (56, 117, 11, 0, 0, [])],
  [(6, 120, 0, 0, 0, []), (61, 121, 11, 35, 87818345, []), (1, 124, 0, 0, 21, []), (4, 126, 6, 0, 0, []), (1, 128, 0, 0, 1, []), (12, 129, 0, 0, 0, []), (13, 130, 0, 0, 0, []), (4, 131, 7, 0, 0, []), (11, 133, 0, 0, 0, []), (1, 134, 0, 0, 1, []), (12, 135, 0, 0, 0, []), (65, 136, 0, 0, 0, []), (6, 137, 0, 0, 0, []), (6, 138, 0, 0, 0, []), (61, 139, 11, 33, 87687267, []), (4, 142, 6, 0, 0, []), (1, 144, 0, 0, 1, []), (12, 145, 0, 0, 0, []), (65, 146, 0, 0, 0, []), (6, 147, 0, 0, 0, []), (61, 148, 11, 34, 87752806, []), (4, 151, 7, 0, 0, []), (1, 153, 0, 0, 1, []), (12, 154, 0, 0, 0, []), (65, 155, 0, 0, 0, []), (92, 156, 242, 3, 4, [(113443117, 11)]), (40, 159, 9, 0, 0, []), (1, 162, 0, 0, 0, []), (56, 163, 10, 0, 0, [])],
  [(1, 166, 0, 0, 1, []), (57, 167, 10, 0, 0, [])],
  [(11, 167, 0, 0, 0, []), (57, 168, 11, 0, 0, [])],
  [(7, 168, 8, 0, 0, []), (4, 170, 6, 0, 0, []), (45, 172, 13, 0, 0, []), (4, 175, 7, 0, 0, []), (45, 177, 13, 0, 0, []), (6, 180, 0, 0, 0, []), (61, 181, 11, 35, 87818345, []), (1, 184, 0, 0, 21, []), (4, 186, 6, 0, 0, []), (1, 188, 0, 0, 1, []), (12, 189, 0, 0, 0, []), (13, 190, 0, 0, 0, []), (4, 191, 7, 0, 0, []), (11, 193, 0, 0, 0, []), (65, 194, 0, 0, 0, []), (1, 195, 0, 0, 1, []), (11, 196, 0, 0, 0, []), (4, 197, 8, 0, 0, []), (49, 199, 12, 0, 0, []), (6, 202, 0, 0, 0, []), (61, 203, 11, 35, 87818345, []), (1, 206, 0, 0, 21, []), (4, 208, 6, 0, 0, []), (1, 210, 0, 0, 1, []), (12, 211, 0, 0, 0, []), (13, 212, 0, 0, 0, []), (4, 213, 7, 0, 0, []), (11, 215, 0, 0, 0, []), (65, 216, 0, 0, 0, []), (1, 217, 0, 0, 1, []), (11, 218, 0, 0, 0, []), (7, 219, 8, 0, 0, []), (57, 221, 12, 0, 0, [])],
  [(6, 221, 0, 0, 0, []), (61, 222, 11, 35, 87818345, []), (1, 225, 0, 0, 21, []), (4, 227, 6, 0, 0, []), (13, 229, 0, 0, 0, []), (4, 230, 7, 0, 0, []), (11, 232, 0, 0, 0, []), (1, 233, 0, 0, 1, []), (12, 234, 0, 0, 0, []), (65, 235, 0, 0, 0, []), (1, 236, 0, 0, 1, []), (11, 237, 0, 0, 0, []), (4, 238, 8, 0, 0, []), (49, 240, 13, 0, 0, []), (6, 243, 0, 0, 0, []), (61, 244, 11, 35, 87818345, []), (1, 247, 0, 0, 21, []), (4, 249, 6, 0, 0, []), (13, 251, 0, 0, 0, []), (4, 252, 7, 0, 0, []), (11, 254, 0, 0, 0, []), (1, 255, 0, 0, 1, []), (12, 256, 0, 0, 0, []), (65, 257, 0, 0, 0, []), (1, 258, 0, 0, 1, []), (11, 259, 0, 0, 0, []), (7, 260, 8, 0, 0, []), (57, 262, 13, 0, 0, [])],
  [(6, 262, 0, 0, 0, []), (61, 263, 11, 35, 87818345, []), (1, 266, 0, 0, 21, []), (4, 268, 6, 0, 0, []), (13, 270, 0, 0, 0, []), (4, 271, 7, 0, 0, []), (11, 273, 0, 0, 0, []), (4, 274, 8, 0, 0, []), (68, 276, 0, 0, 0, []), (10, 277, 7, 0, 1, []), (56, 280, 6, 0, 0, [])],
  [(10, 283, 6, 0, 1, []), (56, 286, 5, 0, 0, [])],
  [(6, 289, 0, 0, 0, []), (61, 290, 11, 35, 87818345, []), (1, 293, 0, 0, 21, []), (4, 295, 4, 0, 0, []), (13, 297, 0, 0, 0, []), (4, 298, 5, 0, 0, []), (11, 300, 0, 0, 0, []), (65, 301, 0, 0, 0, []), (95, 302, 0, 0, 0, [])]]
/-! 244: EngraversHouseModel.distance:(II)I -/
set_option maxRecDepth 100000 in
noncomputable def zb244 : List (List zMI) := [
  [(1, 0, 0, 0, 0, []), (7, 1, 3, 0, 0, []), (1, 2, 0, 0, 0, []), (7, 3, 4, 0, 0, []), (57, 5, 1, 0, 0, [])],
  [(4, 5, 4, 0, 0, []), (1, 7, 0, 0, 4, []), (49, 8, 2, 0, 0, []), (4, 11, 3, 0, 0, []), (6, 12, 0, 0, 0, []), (4, 13, 1, 0, 0, []), (4, 14, 2, 0, 0, []), (4, 15, 4, 0, 0, []), (92, 17, 243, 4, 9, [(113180976, 11)]), (11, 20, 0, 0, 0, []), (7, 21, 3, 0, 0, []), (10, 22, 4, 0, 1, []), (56, 25, 1, 0, 0, [])],
  [(4, 28, 3, 0, 0, []), (95, 29, 0, 0, 0, [])]]
/-! 245: EngraversHouseModel.changes:(III)I -/
set_option maxRecDepth 100000 in
noncomputable def zb245 : List (List zMI) := [
  [(6, 0, 0, 0, 0, []), (4, 1, 1, 0, 0, []), (92, 2, 199, 2, 2, [(103940332, 11)]), (40, 5, 1, 0, 0, []), (6, 8, 0, 0, 0, []), (4, 9, 2, 0, 0, []), (92, 10, 199, 2, 2, [(103940332, 11)]), (40, 13, 1, 0, 0, []), (4, 16, 3, 0, 0, []), (1, 17, 0, 0, (-1), []), (1, 18, 0, 0, 3, []), (90, 19, 196, 3, 3, [(101974025, 11)]), (41, 22, 2, 0, 0, []), (57, 25, 1, 0, 0, [])],
  [(1, 25, 0, 0, (-1), []), (95, 26, 0, 0, 0, [])],
  [(6, 27, 0, 0, 0, []), (61, 28, 11, 3, 85721107, []), (4, 31, 1, 0, 0, []), (65, 32, 0, 0, 0, []), (1, 33, 0, 0, 4, []), (47, 34, 3, 0, 0, []), (6, 37, 0, 0, 0, []), (61, 38, 11, 3, 85721107, []), (4, 41, 2, 0, 0, []), (65, 42, 0, 0, 0, []), (1, 43, 0, 0, 4, []), (46, 44, 4, 0, 0, []), (57, 47, 3, 0, 0, [])],
  [(1, 47, 0, 0, (-12), []), (95, 49, 0, 0, 0, [])],
  [(6, 50, 0, 0, 0, []), (61, 51, 11, 4, 85786647, []), (4, 54, 1, 0, 0, []), (65, 55, 0, 0, 0, []), (6, 56, 0, 0, 0, []), (61, 57, 11, 4, 85786647, []), (4, 60, 2, 0, 0, []), (65, 61, 0, 0, 0, []), (46, 62, 5, 0, 0, []), (1, 65, 0, 0, (-3), []), (95, 67, 0, 0, 0, [])],
  [(4, 68, 3, 0, 0, []), (43, 69, 6, 0, 0, []), (6, 72, 0, 0, 0, []), (4, 73, 1, 0, 0, []), (4, 74, 2, 0, 0, []), (92, 75, 244, 3, 5, [(112918835, 11)]), (56, 78, 7, 0, 0, [])],
  [(6, 81, 0, 0, 0, []), (4, 82, 1, 0, 0, []), (4, 83, 2, 0, 0, []), (4, 84, 3, 0, 0, []), (92, 85, 243, 4, 9, [(113180976, 11)]), (57, 88, 7, 0, 0, [])],
  [(95, 88, 0, 0, 0, [])]]
/-! 246: EngraversHouseModel.hangs:(I)I -/
set_option maxRecDepth 100000 in
noncomputable def zb246 : List (List zMI) := [
  [(6, 0, 0, 0, 0, []), (4, 1, 1, 0, 0, []), (92, 2, 199, 2, 2, [(103940332, 11)]), (40, 5, 1, 0, 0, []), (6, 8, 0, 0, 0, []), (61, 9, 11, 3, 85721107, []), (4, 12, 1, 0, 0, []), (65, 13, 0, 0, 0, []), (1, 14, 0, 0, 4, []), (46, 15, 2, 0, 0, []), (57, 18, 1, 0, 0, [])],
  [(1, 18, 0, 0, (-5), []), (95, 20, 0, 0, 0, [])],
  [(1, 21, 0, 0, 0, []), (7, 22, 2, 0, 0, []), (57, 23, 3, 0, 0, [])],
  [(6, 23, 0, 0, 0, []), (61, 24, 11, 3, 85721107, []), (4, 27, 2, 0, 0, []), (65, 28, 0, 0, 0, []), (1, 29, 0, 0, 4, []), (47, 30, 4, 0, 0, []), (6, 33, 0, 0, 0, []), (61, 34, 11, 4, 85786647, []), (4, 37, 2, 0, 0, []), (65, 38, 0, 0, 0, []), (6, 39, 0, 0, 0, []), (61, 40, 11, 4, 85786647, []), (4, 43, 1, 0, 0, []), (65, 44, 0, 0, 0, []), (46, 45, 5, 0, 0, []), (57, 48, 4, 0, 0, [])],
  [(10, 48, 2, 0, 1, []), (56, 51, 3, 0, 0, [])],
  [(4, 54, 2, 0, 0, []), (4, 55, 1, 0, 0, []), (47, 56, 6, 0, 0, []), (1, 59, 0, 0, (-1), []), (95, 60, 0, 0, 0, [])],
  [(1, 61, 0, 0, 0, []), (7, 62, 3, 0, 0, []), (57, 63, 7, 0, 0, [])],
  [(4, 63, 3, 0, 0, []), (6, 64, 0, 0, 0, []), (60, 65, 11, 2, 85655767, []), (49, 68, 10, 0, 0, []), (6, 71, 0, 0, 0, []), (61, 72, 11, 36, 87883884, []), (4, 75, 3, 0, 0, []), (4, 76, 3, 0, 0, []), (4, 77, 2, 0, 0, []), (47, 78, 8, 0, 0, []), (1, 81, 0, 0, 1, []), (56, 82, 9, 0, 0, [])],
  [(1, 85, 0, 0, 0, []), (57, 86, 9, 0, 0, [])],
  [(69, 86, 0, 0, 0, []), (10, 87, 3, 0, 1, []), (56, 90, 7, 0, 0, [])],
  [(1, 93, 0, 0, (-1), []), (7, 94, 3, 0, 0, []), (1, 95, 0, 0, (-1), []), (7, 96, 4, 0, 0, []), (1, 98, 0, 0, 0, []), (7, 99, 5, 0, 0, []), (1, 101, 0, 0, 0, []), (7, 102, 6, 0, 0, []), (57, 104, 11, 0, 0, [])],
  [(4, 104, 6, 0, 0, []), (6, 106, 0, 0, 0, []), (60, 107, 11, 2, 85655767, []), (49, 110, 18, 0, 0, []), (6, 113, 0, 0, 0, []), (61, 114, 11, 3, 85721107, []), (4, 117, 6, 0, 0, []), (65, 119, 0, 0, 0, []), (1, 120, 0, 0, 4, []), (47, 121, 17, 0, 0, []), (6, 124, 0, 0, 0, []), (61, 125, 11, 4, 85786647, []), (4, 128, 6, 0, 0, []), (65, 130, 0, 0, 0, []), (6, 131, 0, 0, 0, []), (61, 132, 11, 4, 85786647, []), (4, 135, 1, 0, 0, []), (65, 136, 0, 0, 0, []), (47, 137, 17, 0, 0, []), (6, 140, 0, 0, 0, []), (61, 141, 11, 36, 87883884, []), (4, 144, 6, 0, 0, []), (66, 146, 0, 0, 0, []), (40, 147, 12, 0, 0, []), (56, 150, 17, 0, 0, [])],
  [(1, 153, 0, 0, 0, []), (7, 154, 7, 0, 0, []), (57, 156, 13, 0, 0, [])],
  [(4, 156, 7, 0, 0, []), (6, 158, 0, 0, 0, []), (60, 159, 11, 2, 85655767, []), (49, 162, 17, 0, 0, []), (6, 165, 0, 0, 0, []), (61, 166, 11, 36, 87883884, []), (4, 169, 7, 0, 0, []), (66, 171, 0, 0, 0, []), (41, 172, 14, 0, 0, []), (56, 175, 16, 0, 0, [])],
  [(6, 178, 0, 0, 0, []), (4, 179, 6, 0, 0, []), (4, 181, 7, 0, 0, []), (92, 183, 244, 3, 5, [(112918835, 11)]), (7, 186, 8, 0, 0, []), (4, 188, 3, 0, 0, []), (42, 189, 15, 0, 0, []), (4, 192, 8, 0, 0, []), (4, 194, 5, 0, 0, []), (48, 196, 15, 0, 0, []), (56, 199, 16, 0, 0, [])],
  [(4, 202, 6, 0, 0, []), (7, 204, 3, 0, 0, []), (4, 205, 7, 0, 0, []), (7, 207, 4, 0, 0, []), (4, 209, 8, 0, 0, []), (7, 211, 5, 0, 0, []), (57, 213, 16, 0, 0, [])],
  [(10, 213, 7, 0, 1, []), (56, 216, 13, 0, 0, [])],
  [(10, 219, 6, 0, 1, []), (56, 222, 11, 0, 0, [])],
  [(6, 225, 0, 0, 0, []), (61, 226, 11, 36, 87883884, []), (4, 229, 3, 0, 0, []), (1, 230, 0, 0, 1, []), (69, 231, 0, 0, 0, []), (4, 232, 3, 0, 0, []), (4, 233, 1, 0, 0, []), (47, 234, 19, 0, 0, []), (4, 237, 4, 0, 0, []), (95, 239, 0, 0, 0, [])],
  [(56, 240, 10, 0, 0, [])]]
/-! 247: EngraversHouseModel.pages:(IIII)I -/
set_option maxRecDepth 100000 in
noncomputable def zb247 : List (List zMI) := [
  [(6, 0, 0, 0, 0, []), (4, 1, 1, 0, 0, []), (92, 2, 199, 2, 2, [(103940332, 11)]), (40, 5, 1, 0, 0, []), (4, 8, 4, 0, 0, []), (42, 10, 1, 0, 0, []), (4, 13, 4, 0, 0, []), (1, 15, 0, 0, 2, []), (1, 16, 0, 0, 9, []), (90, 18, 196, 3, 3, [(101974025, 11)]), (40, 21, 2, 0, 0, []), (57, 24, 1, 0, 0, [])],
  [(1, 24, 0, 0, (-1), []), (95, 25, 0, 0, 0, [])],
  [(6, 26, 0, 0, 0, []), (4, 27, 1, 0, 0, []), (92, 28, 202, 2, 2, [(108331278, 11)]), (41, 31, 3, 0, 0, []), (1, 34, 0, 0, (-12), []), (95, 36, 0, 0, 0, [])],
  [(4, 37, 2, 0, 0, []), (1, 38, 0, 0, 5, []), (1, 39, 0, 0, 99, []), (90, 41, 196, 3, 3, [(101974025, 11)]), (40, 44, 4, 0, 0, []), (4, 47, 3, 0, 0, []), (1, 48, 0, 0, 1, []), (1, 49, 0, 0, 4, []), (90, 50, 196, 3, 3, [(101974025, 11)]), (41, 53, 5, 0, 0, []), (57, 56, 4, 0, 0, [])],
  [(1, 56, 0, 0, (-2), []), (95, 58, 0, 0, 0, [])],
  [(6, 59, 0, 0, 0, []), (4, 60, 1, 0, 0, []), (92, 61, 227, 2, 2, [(108593425, 11)]), (7, 64, 5, 0, 0, []), (4, 66, 5, 0, 0, []), (41, 68, 6, 0, 0, []), (1, 71, 0, 0, (-3), []), (95, 73, 0, 0, 0, [])],
  [(1, 74, 0, 0, 0, []), (7, 75, 6, 0, 0, []), (57, 77, 7, 0, 0, [])],
  [(4, 77, 6, 0, 0, []), (4, 79, 5, 0, 0, []), (49, 81, 13, 0, 0, []), (6, 84, 0, 0, 0, []), (4, 85, 1, 0, 0, []), (4, 86, 6, 0, 0, []), (92, 88, 224, 3, 8, [(108855572, 11)]), (6, 91, 0, 0, 0, []), (61, 92, 11, 37, 87949424, []), (4, 95, 6, 0, 0, []), (1, 97, 0, 0, 2, []), (1, 98, 0, 0, 3, []), (6, 99, 0, 0, 0, []), (60, 100, 11, 16, 86573323, []), (13, 103, 0, 0, 0, []), (11, 104, 0, 0, 0, []), (68, 105, 0, 0, 0, []), (6, 106, 0, 0, 0, []), (61, 107, 11, 39, 88080502, []), (4, 110, 6, 0, 0, []), (6, 112, 0, 0, 0, []), (61, 113, 11, 17, 86638646, []), (1, 116, 0, 0, 0, []), (65, 117, 0, 0, 0, []), (1, 118, 0, 0, (-1000), []), (47, 121, 8, 0, 0, []), (1, 124, 0, 0, 1, []), (56, 125, 9, 0, 0, [])],
  [(1, 128, 0, 0, 0, []), (57, 129, 9, 0, 0, [])],
  [(69, 129, 0, 0, 0, []), (6, 130, 0, 0, 0, []), (61, 131, 11, 38, 88014963, []), (4, 134, 6, 0, 0, []), (6, 136, 0, 0, 0, []), (61, 137, 11, 17, 86638646, []), (6, 140, 0, 0, 0, []), (60, 141, 11, 16, 86573323, []), (1, 144, 0, 0, 1, []), (12, 145, 0, 0, 0, []), (65, 146, 0, 0, 0, []), (1, 147, 0, 0, (-1000), []), (47, 150, 10, 0, 0, []), (1, 153, 0, 0, 1, []), (56, 154, 11, 0, 0, [])],
  [(1, 157, 0, 0, 0, []), (57, 158, 11, 0, 0, [])],
  [(69, 158, 0, 0, 0, []), (6, 159, 0, 0, 0, []), (61, 160, 11, 37, 87949424, []), (4, 163, 6, 0, 0, []), (65, 165, 0, 0, 0, []), (4, 166, 2, 0, 0, []), (51, 167, 12, 0, 0, []), (1, 170, 0, 0, (-3), []), (95, 172, 0, 0, 0, [])],
  [(10, 173, 6, 0, 1, []), (56, 176, 7, 0, 0, [])],
  [(1, 179, 0, 0, 0, []), (7, 180, 6, 0, 0, []), (57, 182, 14, 0, 0, [])],
  [(4, 182, 6, 0, 0, []), (1, 184, 0, 0, 4, []), (49, 185, 15, 0, 0, []), (6, 188, 0, 0, 0, []), (61, 189, 11, 40, 88146041, []), (1, 192, 0, 0, 4, []), (4, 193, 5, 0, 0, []), (13, 195, 0, 0, 0, []), (4, 196, 6, 0, 0, []), (11, 198, 0, 0, 0, []), (1, 199, 0, 0, 0, []), (68, 200, 0, 0, 0, []), (10, 201, 6, 0, 1, []), (56, 204, 14, 0, 0, [])],
  [(4, 207, 5, 0, 0, []), (1, 209, 0, 0, 1, []), (12, 210, 0, 0, 0, []), (7, 211, 6, 0, 0, []), (57, 213, 16, 0, 0, [])],
  [(4, 213, 6, 0, 0, []), (42, 215, 30, 0, 0, []), (1, 218, 0, 0, 0, []), (7, 219, 7, 0, 0, []), (57, 221, 17, 0, 0, [])],
  [(4, 221, 7, 0, 0, []), (4, 223, 3, 0, 0, []), (49, 224, 29, 0, 0, []), (1, 227, 0, 0, (-1), []), (7, 228, 8, 0, 0, []), (1, 230, 0, 0, 0, []), (7, 231, 9, 0, 0, []), (4, 233, 6, 0, 0, []), (7, 235, 10, 0, 0, []), (57, 237, 18, 0, 0, [])],
  [(4, 237, 10, 0, 0, []), (4, 239, 5, 0, 0, []), (49, 241, 28, 0, 0, []), (4, 244, 9, 0, 0, []), (6, 246, 0, 0, 0, []), (61, 247, 11, 37, 87949424, []), (4, 250, 10, 0, 0, []), (65, 252, 0, 0, 0, []), (11, 253, 0, 0, 0, []), (4, 254, 2, 0, 0, []), (50, 255, 28, 0, 0, []), (4, 258, 9, 0, 0, []), (6, 260, 0, 0, 0, []), (61, 261, 11, 37, 87949424, []), (4, 264, 10, 0, 0, []), (65, 266, 0, 0, 0, []), (11, 267, 0, 0, 0, []), (7, 268, 9, 0, 0, []), (4, 270, 10, 0, 0, []), (4, 272, 5, 0, 0, []), (1, 274, 0, 0, 1, []), (12, 275, 0, 0, 0, []), (47, 276, 19, 0, 0, []), (1, 279, 0, 0, 0, []), (56, 280, 20, 0, 0, [])],
  [(4, 283, 2, 0, 0, []), (4, 284, 9, 0, 0, []), (12, 286, 0, 0, 0, []), (4, 287, 2, 0, 0, []), (4, 288, 9, 0, 0, []), (12, 290, 0, 0, 0, []), (13, 291, 0, 0, 0, []), (57, 292, 20, 0, 0, [])],
  [(7, 292, 11, 0, 0, []), (4, 294, 7, 0, 0, []), (4, 296, 3, 0, 0, []), (1, 297, 0, 0, 1, []), (12, 298, 0, 0, 0, []), (47, 299, 21, 0, 0, []), (1, 302, 0, 0, 1, []), (56, 303, 22, 0, 0, [])],
  [(1, 306, 0, 0, 0, []), (57, 307, 22, 0, 0, [])],
  [(7, 307, 12, 0, 0, []), (4, 309, 12, 0, 0, []), (40, 311, 23, 0, 0, []), (4, 314, 10, 0, 0, []), (4, 316, 5, 0, 0, []), (1, 318, 0, 0, 1, []), (12, 319, 0, 0, 0, []), (49, 320, 23, 0, 0, []), (6, 323, 0, 0, 0, []), (61, 324, 11, 38, 88014963, []), (4, 327, 10, 0, 0, []), (66, 329, 0, 0, 0, []), (41, 330, 23, 0, 0, []), (6, 333, 0, 0, 0, []), (61, 334, 11, 39, 88080502, []), (4, 337, 10, 0, 0, []), (1, 339, 0, 0, 1, []), (11, 340, 0, 0, 0, []), (66, 341, 0, 0, 0, []), (41, 342, 23, 0, 0, []), (10, 345, 11, 0, 1000, []), (57, 351, 23, 0, 0, [])],
  [(4, 351, 11, 0, 0, []), (6, 353, 0, 0, 0, []), (61, 354, 11, 40, 88146041, []), (1, 357, 0, 0, 4, []), (4, 358, 10, 0, 0, []), (1, 360, 0, 0, 1, []), (11, 361, 0, 0, 0, []), (13, 362, 0, 0, 0, []), (4, 363, 12, 0, 0, []), (40, 365, 24, 0, 0, []), (1, 368, 0, 0, 0, []), (56, 369, 25, 0, 0, [])],
  [(4, 372, 7, 0, 0, []), (1, 374, 0, 0, 1, []), (11, 375, 0, 0, 0, []), (57, 376, 25, 0, 0, [])],
  [(11, 376, 0, 0, 0, []), (65, 377, 0, 0, 0, []), (11, 378, 0, 0, 0, []), (7, 379, 11, 0, 0, []), (4, 381, 8, 0, 0, []), (42, 383, 26, 0, 0, []), (4, 386, 11, 0, 0, []), (4, 388, 8, 0, 0, []), (51, 390, 26, 0, 0, []), (56, 393, 27, 0, 0, [])],
  [(4, 396, 11, 0, 0, []), (7, 398, 8, 0, 0, []), (6, 400, 0, 0, 0, []), (61, 401, 11, 41, 88211580, []), (1, 404, 0, 0, 4, []), (4, 405, 6, 0, 0, []), (13, 407, 0, 0, 0, []), (4, 408, 7, 0, 0, []), (11, 410, 0, 0, 0, []), (4, 411, 10, 0, 0, []), (4, 413, 6, 0, 0, []), (12, 415, 0, 0, 0, []), (1, 416, 0, 0, 1, []), (11, 417, 0, 0, 0, []), (68, 418, 0, 0, 0, []), (57, 419, 27, 0, 0, [])],
  [(10, 419, 10, 0, 1, []), (56, 422, 18, 0, 0, [])],
  [(6, 425, 0, 0, 0, []), (61, 426, 11, 40, 88146041, []), (1, 429, 0, 0, 4, []), (4, 430, 6, 0, 0, []), (13, 432, 0, 0, 0, []), (4, 433, 7, 0, 0, []), (11, 435, 0, 0, 0, []), (4, 436, 8, 0, 0, []), (68, 438, 0, 0, 0, []), (10, 439, 7, 0, 1, []), (56, 442, 17, 0, 0, [])],
  [(10, 445, 6, 0, (-1), []), (56, 448, 16, 0, 0, [])],
  [(4, 451, 4, 0, 0, []), (41, 453, 31, 0, 0, []), (6, 456, 0, 0, 0, []), (61, 457, 11, 40, 88146041, []), (1, 460, 0, 0, 0, []), (65, 461, 0, 0, 0, []), (95, 462, 0, 0, 0, [])],
  [(1, 463, 0, 0, 0, []), (7, 464, 6, 0, 0, []), (1, 466, 0, 0, 0, []), (7, 467, 7, 0, 0, []), (57, 469, 32, 0, 0, [])],
  [(4, 469, 6, 0, 0, []), (4, 471, 5, 0, 0, []), (49, 473, 34, 0, 0, []), (6, 476, 0, 0, 0, []), (61, 477, 11, 41, 88211580, []), (1, 480, 0, 0, 4, []), (4, 481, 6, 0, 0, []), (13, 483, 0, 0, 0, []), (4, 484, 7, 0, 0, []), (4, 486, 3, 0, 0, []), (15, 487, 0, 0, 0, []), (11, 488, 0, 0, 0, []), (65, 489, 0, 0, 0, []), (7, 490, 8, 0, 0, []), (4, 492, 4, 0, 0, []), (1, 494, 0, 0, 10, []), (4, 496, 7, 0, 0, []), (11, 498, 0, 0, 0, []), (47, 499, 33, 0, 0, []), (4, 502, 8, 0, 0, []), (95, 504, 0, 0, 0, [])],
  [(4, 505, 6, 0, 0, []), (4, 507, 8, 0, 0, []), (11, 509, 0, 0, 0, []), (7, 510, 6, 0, 0, []), (10, 512, 7, 0, 1, []), (56, 515, 32, 0, 0, [])],
  [(4, 518, 4, 0, 0, []), (1, 520, 0, 0, 1, []), (47, 521, 35, 0, 0, []), (4, 524, 7, 0, 0, []), (56, 526, 36, 0, 0, [])],
  [(1, 529, 0, 0, (-1), []), (57, 530, 36, 0, 0, [])],
  [(95, 530, 0, 0, 0, [])]]
/-! 248: EngraversHouseModel.feed:(II)I -/
set_option maxRecDepth 100000 in
noncomputable def zb248 : List (List zMI) := [
  [(4, 0, 2, 0, 0, []), (1, 1, 0, 0, 0, []), (1, 2, 0, 0, 4, []), (90, 3, 196, 3, 3, [(101974025, 11)]), (41, 6, 1, 0, 0, []), (1, 9, 0, 0, (-2), []), (95, 11, 0, 0, 0, [])],
  [(6, 12, 0, 0, 0, []), (60, 13, 11, 43, 88342838, []), (4, 16, 2, 0, 0, []), (11, 17, 0, 0, 0, []), (1, 18, 0, 0, 120, []), (51, 20, 2, 0, 0, []), (1, 23, 0, 0, (-4), []), (95, 25, 0, 0, 0, [])],
  [(4, 26, 2, 0, 0, []), (1, 27, 0, 0, 1, []), (12, 28, 0, 0, 0, []), (7, 29, 3, 0, 0, []), (57, 30, 3, 0, 0, [])],
  [(4, 30, 3, 0, 0, []), (42, 31, 4, 0, 0, []), (6, 34, 0, 0, 0, []), (61, 35, 11, 42, 88277119, []), (6, 38, 0, 0, 0, []), (60, 39, 11, 43, 88342838, []), (4, 42, 1, 0, 0, []), (1, 43, 0, 0, 8, []), (4, 45, 3, 0, 0, []), (13, 46, 0, 0, 0, []), (18, 47, 0, 0, 0, []), (25, 48, 0, 0, 0, []), (70, 49, 0, 0, 0, []), (6, 50, 0, 0, 0, []), (33, 51, 0, 0, 0, []), (60, 52, 11, 43, 88342838, []), (1, 55, 0, 0, 1, []), (11, 56, 0, 0, 0, []), (62, 57, 11, 43, 88342838, []), (10, 60, 3, 0, (-1), []), (56, 63, 3, 0, 0, [])],
  [(6, 66, 0, 0, 0, []), (60, 67, 11, 43, 88342838, []), (95, 70, 0, 0, 0, [])]]
/-! 249: EngraversHouseModel.look:()I -/
set_option maxRecDepth 100000 in
noncomputable def zb249 : List (List zMI) := [
  [(6, 0, 0, 0, 0, []), (60, 1, 11, 57, 89260345, []), (6, 4, 0, 0, 0, []), (60, 5, 11, 43, 88342838, []), (49, 8, 1, 0, 0, []), (6, 11, 0, 0, 0, []), (61, 12, 11, 42, 88277119, []), (6, 15, 0, 0, 0, []), (60, 16, 11, 57, 89260345, []), (66, 19, 0, 0, 0, []), (56, 20, 2, 0, 0, [])],
  [(1, 23, 0, 0, (-1), []), (57, 24, 2, 0, 0, [])],
  [(95, 24, 0, 0, 0, [])]]
/-! 250: EngraversHouseModel.takes0:(I)Z -/
set_option maxRecDepth 100000 in
noncomputable def zb250 : List (List zMI) := [
  [(6, 0, 0, 0, 0, []), (92, 1, 249, 1, 1, [(115212604, 11)]), (4, 4, 1, 0, 0, []), (46, 5, 1, 0, 0, []), (1, 8, 0, 0, 0, []), (96, 9, 0, 0, 0, [])],
  [(6, 10, 0, 0, 0, []), (33, 11, 0, 0, 0, []), (60, 12, 11, 57, 89260345, []), (1, 15, 0, 0, 1, []), (11, 16, 0, 0, 0, []), (62, 17, 11, 57, 89260345, []), (1, 20, 0, 0, 1, []), (96, 21, 0, 0, 0, [])]]
/-! 251: EngraversHouseModel.digits:()Z -/
set_option maxRecDepth 100000 in
noncomputable def zb251 : List (List zMI) := [
  [(1, 0, 0, 0, 0, []), (7, 1, 1, 0, 0, []), (6, 2, 0, 0, 0, []), (1, 3, 0, 0, 0, []), (62, 4, 11, 61, 89522496, []), (57, 7, 1, 0, 0, [])],
  [(4, 7, 1, 0, 0, []), (1, 8, 0, 0, 3, []), (49, 9, 2, 0, 0, []), (6, 12, 0, 0, 0, []), (92, 13, 249, 1, 1, [(115212604, 11)]), (1, 16, 0, 0, 48, []), (1, 18, 0, 0, 57, []), (90, 20, 196, 3, 3, [(101974025, 11)]), (40, 23, 2, 0, 0, []), (6, 26, 0, 0, 0, []), (1, 27, 0, 0, 10, []), (6, 29, 0, 0, 0, []), (60, 30, 11, 61, 89522496, []), (13, 33, 0, 0, 0, []), (6, 34, 0, 0, 0, []), (92, 35, 249, 1, 1, [(115212604, 11)]), (11, 38, 0, 0, 0, []), (1, 39, 0, 0, 48, []), (12, 41, 0, 0, 0, []), (62, 42, 11, 61, 89522496, []), (10, 45, 1, 0, 1, []), (6, 48, 0, 0, 0, []), (33, 49, 0, 0, 0, []), (60, 50, 11, 57, 89260345, []), (1, 53, 0, 0, 1, []), (11, 54, 0, 0, 0, []), (62, 55, 11, 57, 89260345, []), (56, 58, 1, 0, 0, [])],
  [(4, 61, 1, 0, 0, []), (45, 62, 3, 0, 0, []), (1, 65, 0, 0, 1, []), (56, 66, 4, 0, 0, [])],
  [(1, 69, 0, 0, 0, []), (57, 70, 4, 0, 0, [])],
  [(96, 70, 0, 0, 0, [])]]
/-! 252: EngraversHouseModel.lay:(II)V -/
set_option maxRecDepth 100000 in
noncomputable def zb252 : List (List zMI) := [
  [(6, 0, 0, 0, 0, []), (61, 1, 11, 55, 89129121, []), (1, 4, 0, 0, 140, []), (6, 7, 0, 0, 0, []), (60, 8, 11, 59, 89391427, []), (13, 11, 0, 0, 0, []), (6, 12, 0, 0, 0, []), (60, 13, 11, 58, 89325894, []), (11, 16, 0, 0, 0, []), (4, 17, 1, 0, 0, []), (68, 18, 0, 0, 0, []), (6, 19, 0, 0, 0, []), (61, 20, 11, 56, 89194660, []), (1, 23, 0, 0, 140, []), (6, 26, 0, 0, 0, []), (60, 27, 11, 59, 89391427, []), (13, 30, 0, 0, 0, []), (6, 31, 0, 0, 0, []), (60, 32, 11, 58, 89325894, []), (11, 35, 0, 0, 0, []), (4, 36, 2, 0, 0, []), (68, 37, 0, 0, 0, []), (6, 38, 0, 0, 0, []), (33, 39, 0, 0, 0, []), (60, 40, 11, 58, 89325894, []), (1, 43, 0, 0, 1, []), (11, 44, 0, 0, 0, []), (62, 45, 11, 58, 89325894, []), (101, 48, 0, 0, 0, [])]]
/-! 253: EngraversHouseModel.op_ens:()Z -/
set_option maxRecDepth 100000 in
noncomputable def zb253 : List (List zMI) := [
  [(6, 0, 0, 0, 0, []), (60, 1, 11, 60, 89456969, []), (1, 4, 0, 0, 5, []), (47, 5, 1, 0, 0, []), (1, 8, 0, 0, 0, []), (96, 9, 0, 0, 0, [])],
  [(6, 10, 0, 0, 0, []), (33, 11, 0, 0, 0, []), (60, 12, 11, 60, 89456969, []), (1, 15, 0, 0, 1, []), (11, 16, 0, 0, 0, []), (62, 17, 11, 60, 89456969, []), (6, 20, 0, 0, 0, []), (33, 21, 0, 0, 0, []), (60, 22, 11, 57, 89260345, []), (1, 25, 0, 0, 1, []), (11, 26, 0, 0, 0, []), (62, 27, 11, 57, 89260345, []), (1, 30, 0, 0, 1, []), (96, 31, 0, 0, 0, [])]]
/-! 254: EngraversHouseModel.both:()Z -/
set_option maxRecDepth 100000 in
noncomputable def zb254 : List (List zMI) := [
  [(6, 0, 0, 0, 0, []), (92, 1, 256, 1, 3, [(116785488, 11)]), (41, 4, 1, 0, 0, []), (1, 7, 0, 0, 0, []), (96, 8, 0, 0, 0, [])],
  [(6, 9, 0, 0, 0, []), (92, 10, 249, 1, 1, [(115212604, 11)]), (1, 13, 0, 0, 38, []), (47, 15, 3, 0, 0, []), (6, 18, 0, 0, 0, []), (33, 19, 0, 0, 0, []), (60, 20, 11, 57, 89260345, []), (1, 23, 0, 0, 1, []), (11, 24, 0, 0, 0, []), (62, 25, 11, 57, 89260345, []), (6, 28, 0, 0, 0, []), (92, 29, 256, 1, 3, [(116785488, 11)]), (41, 32, 2, 0, 0, []), (1, 35, 0, 0, 0, []), (96, 36, 0, 0, 0, [])],
  [(6, 37, 0, 0, 0, []), (1, 38, 0, 0, 7, []), (1, 40, 0, 0, 0, []), (92, 41, 252, 3, 3, [(117309779, 11)]), (56, 44, 1, 0, 0, [])],
  [(1, 47, 0, 0, 1, []), (96, 48, 0, 0, 0, [])]]
/-! 255: EngraversHouseModel.either:()Z -/
set_option maxRecDepth 100000 in
noncomputable def zb255 : List (List zMI) := [
  [(6, 0, 0, 0, 0, []), (92, 1, 254, 1, 1, [(116523359, 11)]), (41, 4, 1, 0, 0, []), (1, 7, 0, 0, 0, []), (96, 8, 0, 0, 0, [])],
  [(6, 9, 0, 0, 0, []), (92, 10, 249, 1, 1, [(115212604, 11)]), (1, 13, 0, 0, 124, []), (47, 15, 3, 0, 0, []), (6, 18, 0, 0, 0, []), (33, 19, 0, 0, 0, []), (60, 20, 11, 57, 89260345, []), (1, 23, 0, 0, 1, []), (11, 24, 0, 0, 0, []), (62, 25, 11, 57, 89260345, []), (6, 28, 0, 0, 0, []), (92, 29, 254, 1, 1, [(116523359, 11)]), (41, 32, 2, 0, 0, []), (1, 35, 0, 0, 0, []), (96, 36, 0, 0, 0, [])],
  [(6, 37, 0, 0, 0, []), (1, 38, 0, 0, 8, []), (1, 40, 0, 0, 0, []), (92, 41, 252, 3, 3, [(117309779, 11)]), (56, 44, 1, 0, 0, [])],
  [(1, 47, 0, 0, 1, []), (96, 48, 0, 0, 0, [])]]
/-! 256: EngraversHouseModel.factor:()Z -/
set_option maxRecDepth 100000 in
noncomputable def zb256 : List (List zMI) := [
  [(6, 0, 0, 0, 0, []), (92, 1, 249, 1, 1, [(115212604, 11)]), (7, 4, 1, 0, 0, []), (4, 5, 1, 0, 0, []), (1, 6, 0, 0, 33, []), (47, 8, 3, 0, 0, []), (6, 11, 0, 0, 0, []), (92, 12, 253, 1, 1, [(117047628, 11)]), (40, 15, 1, 0, 0, []), (6, 18, 0, 0, 0, []), (92, 19, 256, 1, 3, [(116785488, 11)]), (41, 22, 2, 0, 0, []), (57, 25, 1, 0, 0, [])],
  [(1, 25, 0, 0, 0, []), (96, 26, 0, 0, 0, [])],
  [(6, 27, 0, 0, 0, []), (33, 28, 0, 0, 0, []), (60, 29, 11, 60, 89456969, []), (1, 32, 0, 0, 1, []), (12, 33, 0, 0, 0, []), (62, 34, 11, 60, 89456969, []), (6, 37, 0, 0, 0, []), (1, 38, 0, 0, 6, []), (1, 40, 0, 0, 0, []), (92, 41, 252, 3, 3, [(117309779, 11)]), (1, 44, 0, 0, 1, []), (96, 45, 0, 0, 0, [])],
  [(4, 46, 1, 0, 0, []), (1, 47, 0, 0, 40, []), (47, 49, 6, 0, 0, []), (6, 52, 0, 0, 0, []), (92, 53, 253, 1, 1, [(117047628, 11)]), (40, 56, 4, 0, 0, []), (6, 59, 0, 0, 0, []), (92, 60, 255, 1, 1, [(116261206, 11)]), (40, 63, 4, 0, 0, []), (6, 66, 0, 0, 0, []), (1, 67, 0, 0, 41, []), (92, 69, 250, 2, 2, [(115736921, 11)]), (41, 72, 5, 0, 0, []), (57, 75, 4, 0, 0, [])],
  [(1, 75, 0, 0, 0, []), (96, 76, 0, 0, 0, [])],
  [(6, 77, 0, 0, 0, []), (33, 78, 0, 0, 0, []), (60, 79, 11, 60, 89456969, []), (1, 82, 0, 0, 1, []), (12, 83, 0, 0, 0, []), (62, 84, 11, 60, 89456969, []), (1, 87, 0, 0, 1, []), (96, 88, 0, 0, 0, [])],
  [(4, 89, 1, 0, 0, []), (1, 90, 0, 0, 120, []), (47, 92, 7, 0, 0, []), (6, 95, 0, 0, 0, []), (33, 96, 0, 0, 0, []), (60, 97, 11, 57, 89260345, []), (1, 100, 0, 0, 1, []), (11, 101, 0, 0, 0, []), (62, 102, 11, 57, 89260345, []), (6, 105, 0, 0, 0, []), (1, 106, 0, 0, 1, []), (1, 107, 0, 0, 0, []), (92, 108, 252, 3, 3, [(117309779, 11)]), (1, 111, 0, 0, 1, []), (96, 112, 0, 0, 0, [])],
  [(4, 113, 1, 0, 0, []), (1, 114, 0, 0, 121, []), (46, 116, 8, 0, 0, []), (4, 119, 1, 0, 0, []), (1, 120, 0, 0, 109, []), (46, 122, 8, 0, 0, []), (1, 125, 0, 0, 0, []), (96, 126, 0, 0, 0, [])],
  [(6, 127, 0, 0, 0, []), (33, 128, 0, 0, 0, []), (60, 129, 11, 57, 89260345, []), (1, 132, 0, 0, 1, []), (11, 133, 0, 0, 0, []), (62, 134, 11, 57, 89260345, []), (6, 137, 0, 0, 0, []), (92, 138, 249, 1, 1, [(115212604, 11)]), (7, 141, 2, 0, 0, []), (4, 142, 2, 0, 0, []), (1, 143, 0, 0, 60, []), (46, 145, 9, 0, 0, []), (4, 148, 2, 0, 0, []), (1, 149, 0, 0, 62, []), (46, 151, 9, 0, 0, []), (1, 154, 0, 0, 0, []), (96, 155, 0, 0, 0, [])],
  [(6, 156, 0, 0, 0, []), (33, 157, 0, 0, 0, []), (60, 158, 11, 57, 89260345, []), (1, 161, 0, 0, 1, []), (11, 162, 0, 0, 0, []), (62, 163, 11, 57, 89260345, []), (6, 166, 0, 0, 0, []), (92, 167, 251, 1, 2, [(115999068, 11)]), (41, 170, 10, 0, 0, []), (1, 173, 0, 0, 0, []), (96, 174, 0, 0, 0, [])],
  [(6, 175, 0, 0, 0, []), (4, 176, 1, 0, 0, []), (1, 177, 0, 0, 121, []), (47, 179, 12, 0, 0, []), (4, 182, 2, 0, 0, []), (1, 183, 0, 0, 60, []), (47, 185, 11, 0, 0, []), (1, 188, 0, 0, 2, []), (56, 189, 14, 0, 0, [])],
  [(1, 192, 0, 0, 3, []), (56, 193, 14, 0, 0, [])],
  [(4, 196, 2, 0, 0, []), (1, 197, 0, 0, 60, []), (47, 199, 13, 0, 0, []), (1, 202, 0, 0, 4, []), (56, 203, 14, 0, 0, [])],
  [(1, 206, 0, 0, 5, []), (57, 207, 14, 0, 0, [])],
  [(6, 207, 0, 0, 0, []), (60, 208, 11, 61, 89522496, []), (92, 211, 252, 3, 3, [(117309779, 11)]), (1, 214, 0, 0, 1, []), (96, 215, 0, 0, 0, [])]]
/-! 257: EngraversHouseModel.share:()Z -/
set_option maxRecDepth 100000 in
noncomputable def zb257 : List (List zMI) := [
  [(1, 0, 0, 0, 8, []), (6, 2, 0, 0, 0, []), (60, 3, 11, 59, 89391427, []), (13, 6, 0, 0, 0, []), (6, 7, 0, 0, 0, []), (61, 8, 11, 49, 88735887, []), (6, 11, 0, 0, 0, []), (60, 12, 11, 59, 89391427, []), (65, 15, 0, 0, 0, []), (11, 16, 0, 0, 0, []), (7, 17, 1, 0, 0, []), (6, 18, 0, 0, 0, []), (61, 19, 11, 50, 88801426, []), (4, 22, 1, 0, 0, []), (6, 23, 0, 0, 0, []), (92, 24, 249, 1, 1, [(115212604, 11)]), (1, 27, 0, 0, 97, []), (47, 29, 1, 0, 0, []), (1, 32, 0, 0, 0, []), (56, 33, 2, 0, 0, [])],
  [(1, 36, 0, 0, 1, []), (57, 37, 2, 0, 0, [])],
  [(68, 37, 0, 0, 0, []), (6, 38, 0, 0, 0, []), (33, 39, 0, 0, 0, []), (60, 40, 11, 57, 89260345, []), (1, 43, 0, 0, 1, []), (11, 44, 0, 0, 0, []), (62, 45, 11, 57, 89260345, []), (6, 48, 0, 0, 0, []), (92, 49, 249, 1, 1, [(115212604, 11)]), (7, 52, 2, 0, 0, []), (4, 53, 2, 0, 0, []), (1, 54, 0, 0, 115, []), (46, 56, 3, 0, 0, []), (4, 59, 2, 0, 0, []), (1, 60, 0, 0, 104, []), (46, 62, 3, 0, 0, []), (4, 65, 2, 0, 0, []), (1, 66, 0, 0, 112, []), (46, 68, 3, 0, 0, []), (1, 71, 0, 0, 0, []), (96, 72, 0, 0, 0, [])],
  [(6, 73, 0, 0, 0, []), (61, 74, 11, 51, 88866965, []), (4, 77, 1, 0, 0, []), (4, 78, 2, 0, 0, []), (1, 79, 0, 0, 115, []), (47, 81, 4, 0, 0, []), (1, 84, 0, 0, 0, []), (56, 85, 6, 0, 0, [])],
  [(4, 88, 2, 0, 0, []), (1, 89, 0, 0, 104, []), (47, 91, 5, 0, 0, []), (1, 94, 0, 0, 1, []), (56, 95, 6, 0, 0, [])],
  [(1, 98, 0, 0, 2, []), (57, 99, 6, 0, 0, [])],
  [(68, 99, 0, 0, 0, []), (6, 100, 0, 0, 0, []), (33, 101, 0, 0, 0, []), (60, 102, 11, 57, 89260345, []), (1, 105, 0, 0, 1, []), (11, 106, 0, 0, 0, []), (62, 107, 11, 57, 89260345, []), (6, 110, 0, 0, 0, []), (1, 111, 0, 0, 32, []), (92, 113, 250, 2, 2, [(115736921, 11)]), (40, 116, 7, 0, 0, []), (6, 119, 0, 0, 0, []), (92, 120, 251, 1, 2, [(115999068, 11)]), (41, 123, 8, 0, 0, []), (57, 126, 7, 0, 0, [])],
  [(1, 126, 0, 0, 0, []), (96, 127, 0, 0, 0, [])],
  [(6, 128, 0, 0, 0, []), (61, 129, 11, 52, 88932504, []), (4, 132, 1, 0, 0, []), (6, 133, 0, 0, 0, []), (60, 134, 11, 61, 89522496, []), (68, 137, 0, 0, 0, []), (6, 138, 0, 0, 0, []), (61, 139, 11, 53, 88998043, []), (4, 142, 1, 0, 0, []), (6, 143, 0, 0, 0, []), (60, 144, 11, 58, 89325894, []), (68, 147, 0, 0, 0, []), (6, 148, 0, 0, 0, []), (92, 149, 249, 1, 1, [(115212604, 11)]), (1, 152, 0, 0, 32, []), (47, 154, 11, 0, 0, []), (6, 157, 0, 0, 0, []), (33, 158, 0, 0, 0, []), (60, 159, 11, 57, 89260345, []), (1, 162, 0, 0, 1, []), (11, 163, 0, 0, 0, []), (62, 164, 11, 57, 89260345, []), (6, 167, 0, 0, 0, []), (1, 168, 0, 0, 105, []), (92, 170, 250, 2, 2, [(115736921, 11)]), (40, 173, 9, 0, 0, []), (6, 176, 0, 0, 0, []), (1, 177, 0, 0, 102, []), (92, 179, 250, 2, 2, [(115736921, 11)]), (40, 182, 9, 0, 0, []), (6, 185, 0, 0, 0, []), (1, 186, 0, 0, 32, []), (92, 188, 250, 2, 2, [(115736921, 11)]), (41, 191, 10, 0, 0, []), (57, 194, 9, 0, 0, [])],
  [(1, 194, 0, 0, 0, []), (96, 195, 0, 0, 0, [])],
  [(6, 196, 0, 0, 0, []), (1, 197, 0, 0, 0, []), (62, 198, 11, 60, 89456969, []), (6, 201, 0, 0, 0, []), (92, 202, 255, 1, 1, [(116261206, 11)]), (41, 205, 11, 0, 0, []), (1, 208, 0, 0, 0, []), (96, 209, 0, 0, 0, [])],
  [(6, 210, 0, 0, 0, []), (61, 211, 11, 54, 89063582, []), (4, 214, 1, 0, 0, []), (6, 215, 0, 0, 0, []), (60, 216, 11, 58, 89325894, []), (68, 219, 0, 0, 0, []), (6, 220, 0, 0, 0, []), (61, 221, 11, 49, 88735887, []), (6, 224, 0, 0, 0, []), (60, 225, 11, 59, 89391427, []), (34, 228, 0, 0, 0, []), (65, 229, 0, 0, 0, []), (1, 230, 0, 0, 1, []), (11, 231, 0, 0, 0, []), (68, 232, 0, 0, 0, []), (1, 233, 0, 0, 1, []), (96, 234, 0, 0, 0, [])]]
/-! 258: EngraversHouseModel.clause:()Z -/
set_option maxRecDepth 100000 in
noncomputable def zb258 : List (List zMI) := [
  [(6, 0, 0, 0, 0, []), (92, 1, 249, 1, 1, [(115212604, 11)]), (1, 4, 0, 0, 97, []), (46, 6, 1, 0, 0, []), (6, 9, 0, 0, 0, []), (92, 10, 249, 1, 1, [(115212604, 11)]), (1, 13, 0, 0, 114, []), (47, 15, 2, 0, 0, []), (57, 18, 1, 0, 0, [])],
  [(6, 18, 0, 0, 0, []), (92, 19, 257, 1, 3, [(115474786, 11)]), (96, 22, 0, 0, 0, [])],
  [(6, 23, 0, 0, 0, []), (1, 24, 0, 0, 108, []), (92, 26, 250, 2, 2, [(115736921, 11)]), (41, 29, 3, 0, 0, []), (1, 32, 0, 0, 0, []), (96, 33, 0, 0, 0, [])],
  [(6, 34, 0, 0, 0, []), (92, 35, 249, 1, 1, [(115212604, 11)]), (1, 38, 0, 0, 105, []), (47, 40, 6, 0, 0, []), (6, 43, 0, 0, 0, []), (33, 44, 0, 0, 0, []), (60, 45, 11, 57, 89260345, []), (1, 48, 0, 0, 1, []), (11, 49, 0, 0, 0, []), (62, 50, 11, 57, 89260345, []), (6, 53, 0, 0, 0, []), (1, 54, 0, 0, 102, []), (92, 56, 250, 2, 2, [(115736921, 11)]), (40, 59, 4, 0, 0, []), (6, 62, 0, 0, 0, []), (1, 63, 0, 0, 101, []), (92, 65, 250, 2, 2, [(115736921, 11)]), (40, 68, 4, 0, 0, []), (6, 71, 0, 0, 0, []), (1, 72, 0, 0, 32, []), (92, 74, 250, 2, 2, [(115736921, 11)]), (40, 77, 4, 0, 0, []), (6, 80, 0, 0, 0, []), (92, 81, 251, 1, 2, [(115999068, 11)]), (41, 84, 5, 0, 0, []), (57, 87, 4, 0, 0, [])],
  [(1, 87, 0, 0, 0, []), (96, 88, 0, 0, 0, [])],
  [(6, 89, 0, 0, 0, []), (61, 90, 11, 47, 88604809, []), (6, 93, 0, 0, 0, []), (60, 94, 11, 59, 89391427, []), (6, 97, 0, 0, 0, []), (60, 98, 11, 61, 89522496, []), (68, 101, 0, 0, 0, []), (1, 102, 0, 0, 1, []), (96, 103, 0, 0, 0, [])],
  [(6, 104, 0, 0, 0, []), (1, 105, 0, 0, 101, []), (92, 107, 250, 2, 2, [(115736921, 11)]), (40, 110, 7, 0, 0, []), (6, 113, 0, 0, 0, []), (1, 114, 0, 0, 97, []), (92, 116, 250, 2, 2, [(115736921, 11)]), (40, 119, 7, 0, 0, []), (6, 122, 0, 0, 0, []), (1, 123, 0, 0, 115, []), (92, 125, 250, 2, 2, [(115736921, 11)]), (40, 128, 7, 0, 0, []), (6, 131, 0, 0, 0, []), (1, 132, 0, 0, 116, []), (92, 134, 250, 2, 2, [(115736921, 11)]), (40, 137, 7, 0, 0, []), (6, 140, 0, 0, 0, []), (1, 141, 0, 0, 32, []), (92, 143, 250, 2, 2, [(115736921, 11)]), (40, 146, 7, 0, 0, []), (6, 149, 0, 0, 0, []), (92, 150, 251, 1, 2, [(115999068, 11)]), (41, 153, 8, 0, 0, []), (57, 156, 7, 0, 0, [])],
  [(1, 156, 0, 0, 0, []), (96, 157, 0, 0, 0, [])],
  [(6, 158, 0, 0, 0, []), (61, 159, 11, 48, 88670348, []), (6, 162, 0, 0, 0, []), (60, 163, 11, 59, 89391427, []), (6, 166, 0, 0, 0, []), (60, 167, 11, 61, 89522496, []), (68, 170, 0, 0, 0, []), (1, 171, 0, 0, 1, []), (96, 172, 0, 0, 0, [])]]
/-! 259: EngraversHouseModel.contract:(II)I -/
set_option maxRecDepth 100000 in
noncomputable def zb259 : List (List zMI) := [
  [(4, 0, 1, 0, 0, []), (1, 1, 0, 0, 0, []), (1, 2, 0, 0, 3, []), (90, 3, 196, 3, 3, [(101974025, 11)]), (41, 6, 1, 0, 0, []), (1, 9, 0, 0, (-1), []), (95, 10, 0, 0, 0, [])],
  [(4, 11, 2, 0, 0, []), (90, 12, 197, 1, 1, [(114753893, 11)]), (41, 15, 2, 0, 0, []), (1, 18, 0, 0, (-2), []), (95, 20, 0, 0, 0, [])],
  [(6, 21, 0, 0, 0, []), (60, 22, 11, 44, 88408424, []), (1, 25, 0, 0, 12, []), (47, 27, 3, 0, 0, []), (1, 30, 0, 0, (-4), []), (95, 32, 0, 0, 0, [])],
  [(6, 33, 0, 0, 0, []), (6, 34, 0, 0, 0, []), (60, 35, 11, 44, 88408424, []), (62, 38, 11, 59, 89391427, []), (6, 41, 0, 0, 0, []), (1, 42, 0, 0, 0, []), (62, 43, 11, 57, 89260345, []), (6, 46, 0, 0, 0, []), (1, 47, 0, 0, 0, []), (62, 48, 11, 58, 89325894, []), (6, 51, 0, 0, 0, []), (61, 52, 11, 49, 88735887, []), (6, 55, 0, 0, 0, []), (60, 56, 11, 59, 89391427, []), (1, 59, 0, 0, 0, []), (68, 60, 0, 0, 0, []), (6, 61, 0, 0, 0, []), (61, 62, 11, 47, 88604809, []), (6, 65, 0, 0, 0, []), (60, 66, 11, 59, 89391427, []), (1, 69, 0, 0, 10, []), (68, 71, 0, 0, 0, []), (6, 72, 0, 0, 0, []), (61, 73, 11, 48, 88670348, []), (6, 76, 0, 0, 0, []), (60, 77, 11, 59, 89391427, []), (1, 80, 0, 0, 0, []), (68, 81, 0, 0, 0, []), (1, 82, 0, 0, 1, []), (7, 83, 3, 0, 0, []), (6, 84, 0, 0, 0, []), (92, 85, 258, 1, 1, [(114950507, 11)]), (7, 88, 4, 0, 0, []), (57, 90, 4, 0, 0, [])],
  [(4, 90, 4, 0, 0, []), (40, 92, 5, 0, 0, []), (6, 95, 0, 0, 0, []), (92, 96, 249, 1, 1, [(115212604, 11)]), (1, 99, 0, 0, 59, []), (47, 101, 5, 0, 0, []), (4, 104, 3, 0, 0, []), (1, 105, 0, 0, 8, []), (49, 107, 5, 0, 0, []), (6, 110, 0, 0, 0, []), (33, 111, 0, 0, 0, []), (60, 112, 11, 57, 89260345, []), (1, 115, 0, 0, 1, []), (11, 116, 0, 0, 0, []), (62, 117, 11, 57, 89260345, []), (10, 120, 3, 0, 1, []), (6, 123, 0, 0, 0, []), (92, 124, 258, 1, 1, [(114950507, 11)]), (7, 127, 4, 0, 0, []), (56, 129, 4, 0, 0, [])],
  [(4, 132, 4, 0, 0, []), (40, 134, 6, 0, 0, []), (6, 137, 0, 0, 0, []), (60, 138, 11, 57, 89260345, []), (6, 141, 0, 0, 0, []), (60, 142, 11, 43, 88342838, []), (47, 145, 6, 0, 0, []), (1, 148, 0, 0, 1, []), (56, 149, 7, 0, 0, [])],
  [(1, 152, 0, 0, 0, []), (57, 153, 7, 0, 0, [])],
  [(7, 153, 4, 0, 0, []), (6, 155, 0, 0, 0, []), (1, 156, 0, 0, 0, []), (62, 157, 11, 43, 88342838, []), (4, 160, 4, 0, 0, []), (41, 162, 8, 0, 0, []), (1, 165, 0, 0, (-10), []), (6, 167, 0, 0, 0, []), (60, 168, 11, 57, 89260345, []), (12, 171, 0, 0, 0, []), (95, 172, 0, 0, 0, [])],
  [(6, 173, 0, 0, 0, []), (61, 174, 11, 45, 88473731, []), (6, 177, 0, 0, 0, []), (60, 178, 11, 59, 89391427, []), (4, 181, 1, 0, 0, []), (68, 182, 0, 0, 0, []), (6, 183, 0, 0, 0, []), (61, 184, 11, 46, 88539270, []), (6, 187, 0, 0, 0, []), (60, 188, 11, 59, 89391427, []), (4, 191, 2, 0, 0, []), (68, 192, 0, 0, 0, []), (6, 193, 0, 0, 0, []), (33, 194, 0, 0, 0, []), (60, 195, 11, 44, 88408424, []), (1, 198, 0, 0, 1, []), (11, 199, 0, 0, 0, []), (62, 200, 11, 44, 88408424, []), (6, 203, 0, 0, 0, []), (60, 204, 11, 44, 88408424, []), (1, 207, 0, 0, 1, []), (12, 208, 0, 0, 0, []), (95, 209, 0, 0, 0, [])]]
/-! 260: EngraversHouseModel.contractOf:(II)I -/
set_option maxRecDepth 100000 in
noncomputable def zb260 : List (List zMI) := [
  [(1, 0, 0, 0, (-1), []), (7, 1, 3, 0, 0, []), (1, 2, 0, 0, 0, []), (7, 3, 4, 0, 0, []), (57, 5, 1, 0, 0, [])],
  [(4, 5, 4, 0, 0, []), (6, 7, 0, 0, 0, []), (60, 8, 11, 44, 88408424, []), (49, 11, 4, 0, 0, []), (6, 14, 0, 0, 0, []), (61, 15, 11, 45, 88473731, []), (4, 18, 4, 0, 0, []), (65, 20, 0, 0, 0, []), (4, 21, 1, 0, 0, []), (47, 22, 3, 0, 0, []), (6, 25, 0, 0, 0, []), (61, 26, 11, 46, 88539270, []), (4, 29, 4, 0, 0, []), (65, 31, 0, 0, 0, []), (4, 32, 2, 0, 0, []), (50, 33, 3, 0, 0, []), (4, 36, 3, 0, 0, []), (42, 37, 2, 0, 0, []), (6, 40, 0, 0, 0, []), (61, 41, 11, 46, 88539270, []), (4, 44, 4, 0, 0, []), (65, 46, 0, 0, 0, []), (6, 47, 0, 0, 0, []), (61, 48, 11, 46, 88539270, []), (4, 51, 3, 0, 0, []), (65, 52, 0, 0, 0, []), (48, 53, 3, 0, 0, []), (57, 56, 2, 0, 0, [])],
  [(4, 56, 4, 0, 0, []), (7, 58, 3, 0, 0, []), (57, 59, 3, 0, 0, [])],
  [(10, 59, 4, 0, 1, []), (56, 62, 1, 0, 0, [])],
  [(4, 65, 3, 0, 0, []), (95, 66, 0, 0, 0, [])]]
/-! 261: EngraversHouseModel.lawful:(III)I -/
set_option maxRecDepth 100000 in
noncomputable def zb261 : List (List zMI) := [
  [(4, 0, 1, 0, 0, []), (1, 1, 0, 0, 0, []), (1, 2, 0, 0, 3, []), (90, 3, 196, 3, 3, [(101974025, 11)]), (40, 6, 1, 0, 0, []), (4, 9, 2, 0, 0, []), (90, 10, 197, 1, 1, [(114753893, 11)]), (40, 13, 1, 0, 0, []), (4, 16, 3, 0, 0, []), (1, 17, 0, 0, 0, []), (1, 18, 0, 0, 3, []), (90, 19, 196, 3, 3, [(101974025, 11)]), (41, 22, 2, 0, 0, []), (57, 25, 1, 0, 0, [])],
  [(1, 25, 0, 0, (-5), []), (95, 27, 0, 0, 0, [])],
  [(6, 28, 0, 0, 0, []), (4, 29, 1, 0, 0, []), (4, 30, 2, 0, 0, []), (92, 31, 260, 3, 5, [(117834094, 11)]), (7, 34, 4, 0, 0, []), (4, 36, 3, 0, 0, []), (41, 37, 3, 0, 0, []), (4, 40, 4, 0, 0, []), (95, 42, 0, 0, 0, [])],
  [(4, 43, 3, 0, 0, []), (1, 44, 0, 0, 1, []), (47, 45, 5, 0, 0, []), (4, 48, 4, 0, 0, []), (43, 50, 4, 0, 0, []), (1, 53, 0, 0, 10, []), (56, 55, 8, 0, 0, [])],
  [(6, 58, 0, 0, 0, []), (61, 59, 11, 47, 88604809, []), (4, 62, 4, 0, 0, []), (65, 64, 0, 0, 0, []), (56, 65, 8, 0, 0, [])],
  [(4, 68, 4, 0, 0, []), (43, 70, 6, 0, 0, []), (1, 73, 0, 0, 0, []), (56, 74, 8, 0, 0, [])],
  [(4, 77, 3, 0, 0, []), (1, 78, 0, 0, 2, []), (47, 79, 7, 0, 0, []), (6, 82, 0, 0, 0, []), (61, 83, 11, 48, 88670348, []), (4, 86, 4, 0, 0, []), (65, 88, 0, 0, 0, []), (56, 89, 8, 0, 0, [])],
  [(6, 92, 0, 0, 0, []), (61, 93, 11, 49, 88735887, []), (4, 96, 4, 0, 0, []), (65, 98, 0, 0, 0, []), (57, 99, 8, 0, 0, [])],
  [(95, 99, 0, 0, 0, [])]]
/-! 262: EngraversHouseModel.isAlive:(II)Z -/
set_option maxRecDepth 100000 in
noncomputable def zb262 : List (List zMI) := [
  [(6, 0, 0, 0, 0, []), (61, 1, 11, 9, 86114339, []), (4, 4, 1, 0, 0, []), (65, 5, 0, 0, 0, []), (42, 6, 1, 0, 0, []), (6, 9, 0, 0, 0, []), (61, 10, 11, 9, 86114339, []), (4, 13, 1, 0, 0, []), (65, 14, 0, 0, 0, []), (4, 15, 2, 0, 0, []), (51, 16, 2, 0, 0, []), (57, 19, 1, 0, 0, [])],
  [(1, 19, 0, 0, 1, []), (56, 20, 3, 0, 0, [])],
  [(1, 23, 0, 0, 0, []), (57, 24, 3, 0, 0, [])],
  [(96, 24, 0, 0, 0, [])]]
/-! 263: EngraversHouseModel.hasRight:(III)Z -/
set_option maxRecDepth 100000 in
noncomputable def zb263 : List (List zMI) := [
  [(6, 0, 0, 0, 0, []), (4, 1, 1, 0, 0, []), (4, 2, 3, 0, 0, []), (92, 3, 262, 3, 3, [(118620529, 11)]), (41, 6, 1, 0, 0, []), (4, 9, 3, 0, 0, []), (6, 10, 0, 0, 0, []), (61, 11, 11, 9, 86114339, []), (4, 14, 1, 0, 0, []), (65, 15, 0, 0, 0, []), (12, 16, 0, 0, 0, []), (1, 17, 0, 0, 365, []), (6, 20, 0, 0, 0, []), (4, 21, 2, 0, 0, []), (4, 22, 3, 0, 0, []), (1, 23, 0, 0, 1, []), (92, 24, 261, 4, 5, [(118882676, 11)]), (13, 27, 0, 0, 0, []), (49, 28, 2, 0, 0, []), (57, 31, 1, 0, 0, [])],
  [(1, 31, 0, 0, 1, []), (56, 32, 3, 0, 0, [])],
  [(1, 35, 0, 0, 0, []), (57, 36, 3, 0, 0, [])],
  [(96, 36, 0, 0, 0, [])]]
/-! 264: EngraversHouseModel.right:(III)I -/
set_option maxRecDepth 100000 in
noncomputable def zb264 : List (List zMI) := [
  [(6, 0, 0, 0, 0, []), (4, 1, 1, 0, 0, []), (92, 2, 205, 2, 2, [(102695136, 11)]), (40, 5, 1, 0, 0, []), (4, 8, 2, 0, 0, []), (1, 9, 0, 0, 0, []), (1, 10, 0, 0, 3, []), (90, 11, 196, 3, 3, [(101974025, 11)]), (41, 14, 2, 0, 0, []), (57, 17, 1, 0, 0, [])],
  [(1, 17, 0, 0, (-1), []), (95, 18, 0, 0, 0, [])],
  [(4, 19, 3, 0, 0, []), (90, 20, 197, 1, 1, [(114753893, 11)]), (41, 23, 3, 0, 0, []), (1, 26, 0, 0, (-2), []), (95, 28, 0, 0, 0, [])],
  [(6, 29, 0, 0, 0, []), (4, 30, 1, 0, 0, []), (4, 31, 2, 0, 0, []), (4, 32, 3, 0, 0, []), (92, 33, 263, 4, 4, [(118358391, 11)]), (40, 36, 4, 0, 0, []), (1, 39, 0, 0, 1, []), (56, 40, 5, 0, 0, [])],
  [(1, 43, 0, 0, 0, []), (57, 44, 5, 0, 0, [])],
  [(95, 44, 0, 0, 0, [])]]
/-! 265: EngraversHouseModel.holdsFor:(IZII)Z -/
set_option maxRecDepth 100000 in
noncomputable def zb265 : List (List zMI) := [
  [(1, 0, 0, 0, 140, []), (4, 3, 1, 0, 0, []), (1, 4, 0, 0, 8, []), (14, 6, 0, 0, 0, []), (13, 7, 0, 0, 0, []), (7, 8, 5, 0, 0, []), (6, 10, 0, 0, 0, []), (61, 11, 11, 53, 88998043, []), (4, 14, 1, 0, 0, []), (65, 15, 0, 0, 0, []), (6, 16, 0, 0, 0, []), (61, 17, 11, 54, 89063582, []), (4, 20, 1, 0, 0, []), (65, 21, 0, 0, 0, []), (47, 22, 1, 0, 0, []), (1, 25, 0, 0, 1, []), (96, 26, 0, 0, 0, [])],
  [(1, 27, 0, 0, 0, []), (7, 28, 6, 0, 0, []), (6, 30, 0, 0, 0, []), (61, 31, 11, 53, 88998043, []), (4, 34, 1, 0, 0, []), (65, 35, 0, 0, 0, []), (7, 36, 7, 0, 0, []), (57, 38, 2, 0, 0, [])],
  [(4, 38, 7, 0, 0, []), (6, 40, 0, 0, 0, []), (61, 41, 11, 54, 89063582, []), (4, 44, 1, 0, 0, []), (65, 45, 0, 0, 0, []), (49, 46, 27, 0, 0, []), (6, 49, 0, 0, 0, []), (61, 50, 11, 56, 89194660, []), (4, 53, 5, 0, 0, []), (4, 55, 7, 0, 0, []), (11, 57, 0, 0, 0, []), (65, 58, 0, 0, 0, []), (7, 59, 8, 0, 0, []), (6, 61, 0, 0, 0, []), (61, 62, 11, 55, 89129121, []), (4, 65, 5, 0, 0, []), (4, 67, 7, 0, 0, []), (11, 69, 0, 0, 0, []), (65, 70, 0, 0, 0, []), (58, 71, 22, 0, 0, [(1, 3), (2, 4), (3, 7), (4, 10), (5, 13), (6, 16), (7, 19)])],
  [(6, 112, 0, 0, 0, []), (61, 113, 11, 62, 89587879, []), (4, 116, 6, 0, 0, []), (4, 118, 2, 0, 0, []), (69, 119, 0, 0, 0, []), (10, 120, 6, 0, 1, []), (56, 123, 26, 0, 0, [])],
  [(6, 126, 0, 0, 0, []), (61, 127, 11, 62, 89587879, []), (4, 130, 6, 0, 0, []), (4, 132, 3, 0, 0, []), (4, 133, 8, 0, 0, []), (49, 135, 5, 0, 0, []), (1, 138, 0, 0, 1, []), (56, 139, 6, 0, 0, [])],
  [(1, 142, 0, 0, 0, []), (57, 143, 6, 0, 0, [])],
  [(69, 143, 0, 0, 0, []), (10, 144, 6, 0, 1, []), (56, 147, 26, 0, 0, [])],
  [(6, 150, 0, 0, 0, []), (61, 151, 11, 62, 89587879, []), (4, 154, 6, 0, 0, []), (4, 156, 3, 0, 0, []), (4, 157, 8, 0, 0, []), (51, 159, 8, 0, 0, []), (1, 162, 0, 0, 1, []), (56, 163, 9, 0, 0, [])],
  [(1, 166, 0, 0, 0, []), (57, 167, 9, 0, 0, [])],
  [(69, 167, 0, 0, 0, []), (10, 168, 6, 0, 1, []), (56, 171, 26, 0, 0, [])],
  [(6, 174, 0, 0, 0, []), (61, 175, 11, 62, 89587879, []), (4, 178, 6, 0, 0, []), (4, 180, 4, 0, 0, []), (4, 182, 8, 0, 0, []), (49, 184, 11, 0, 0, []), (1, 187, 0, 0, 1, []), (56, 188, 12, 0, 0, [])],
  [(1, 191, 0, 0, 0, []), (57, 192, 12, 0, 0, [])],
  [(69, 192, 0, 0, 0, []), (10, 193, 6, 0, 1, []), (56, 196, 26, 0, 0, [])],
  [(6, 199, 0, 0, 0, []), (61, 200, 11, 62, 89587879, []), (4, 203, 6, 0, 0, []), (4, 205, 4, 0, 0, []), (4, 207, 8, 0, 0, []), (51, 209, 14, 0, 0, []), (1, 212, 0, 0, 1, []), (56, 213, 15, 0, 0, [])],
  [(1, 216, 0, 0, 0, []), (57, 217, 15, 0, 0, [])],
  [(69, 217, 0, 0, 0, []), (10, 218, 6, 0, 1, []), (56, 221, 26, 0, 0, [])],
  [(6, 224, 0, 0, 0, []), (61, 225, 11, 62, 89587879, []), (4, 228, 6, 0, 0, []), (1, 230, 0, 0, 1, []), (12, 231, 0, 0, 0, []), (6, 232, 0, 0, 0, []), (61, 233, 11, 62, 89587879, []), (4, 236, 6, 0, 0, []), (1, 238, 0, 0, 1, []), (12, 239, 0, 0, 0, []), (66, 240, 0, 0, 0, []), (41, 241, 17, 0, 0, []), (1, 244, 0, 0, 1, []), (56, 245, 18, 0, 0, [])],
  [(1, 248, 0, 0, 0, []), (57, 249, 18, 0, 0, [])],
  [(69, 249, 0, 0, 0, []), (56, 250, 26, 0, 0, [])],
  [(10, 253, 6, 0, (-1), []), (6, 256, 0, 0, 0, []), (61, 257, 11, 62, 89587879, []), (4, 260, 6, 0, 0, []), (1, 262, 0, 0, 1, []), (12, 263, 0, 0, 0, []), (6, 264, 0, 0, 0, []), (61, 265, 11, 62, 89587879, []), (4, 268, 6, 0, 0, []), (1, 270, 0, 0, 1, []), (12, 271, 0, 0, 0, []), (66, 272, 0, 0, 0, []), (40, 273, 20, 0, 0, []), (6, 276, 0, 0, 0, []), (61, 277, 11, 62, 89587879, []), (4, 280, 6, 0, 0, []), (66, 282, 0, 0, 0, []), (40, 283, 20, 0, 0, []), (1, 286, 0, 0, 1, []), (56, 287, 21, 0, 0, [])],
  [(1, 290, 0, 0, 0, []), (57, 291, 21, 0, 0, [])],
  [(69, 291, 0, 0, 0, []), (56, 292, 26, 0, 0, [])],
  [(10, 295, 6, 0, (-1), []), (6, 298, 0, 0, 0, []), (61, 299, 11, 62, 89587879, []), (4, 302, 6, 0, 0, []), (1, 304, 0, 0, 1, []), (12, 305, 0, 0, 0, []), (6, 306, 0, 0, 0, []), (61, 307, 11, 62, 89587879, []), (4, 310, 6, 0, 0, []), (1, 312, 0, 0, 1, []), (12, 313, 0, 0, 0, []), (66, 314, 0, 0, 0, []), (41, 315, 23, 0, 0, []), (6, 318, 0, 0, 0, []), (61, 319, 11, 62, 89587879, []), (4, 322, 6, 0, 0, []), (66, 324, 0, 0, 0, []), (40, 325, 24, 0, 0, []), (57, 328, 23, 0, 0, [])],
  [(1, 328, 0, 0, 1, []), (56, 329, 25, 0, 0, [])],
  [(1, 332, 0, 0, 0, []), (57, 333, 25, 0, 0, [])],
  [(69, 333, 0, 0, 0, []), (57, 334, 26, 0, 0, [])],
  [(10, 334, 7, 0, 1, []), (56, 337, 2, 0, 0, [])],
  [(6, 340, 0, 0, 0, []), (61, 341, 11, 62, 89587879, []), (1, 344, 0, 0, 0, []), (66, 345, 0, 0, 0, []), (96, 346, 0, 0, 0, [])]]
/-! 266: EngraversHouseModel.gets:(IIIZIIII)I -/
set_option maxRecDepth 100000 in
noncomputable def zb266 : List (List zMI) := [
  [(1, 0, 0, 0, 0, []), (7, 1, 9, 0, 0, []), (1, 3, 0, 0, 0, []), (7, 4, 10, 0, 0, []), (1, 6, 0, 0, 0, []), (7, 7, 11, 0, 0, []), (57, 9, 1, 0, 0, [])],
  [(4, 9, 1, 0, 0, []), (42, 10, 4, 0, 0, []), (4, 13, 11, 0, 0, []), (6, 15, 0, 0, 0, []), (61, 16, 11, 49, 88735887, []), (4, 19, 1, 0, 0, []), (65, 20, 0, 0, 0, []), (49, 21, 4, 0, 0, []), (1, 24, 0, 0, 8, []), (4, 26, 1, 0, 0, []), (13, 27, 0, 0, 0, []), (4, 28, 11, 0, 0, []), (11, 30, 0, 0, 0, []), (7, 31, 12, 0, 0, []), (6, 33, 0, 0, 0, []), (61, 34, 11, 50, 88801426, []), (4, 37, 12, 0, 0, []), (65, 39, 0, 0, 0, []), (4, 40, 2, 0, 0, []), (47, 41, 3, 0, 0, []), (6, 44, 0, 0, 0, []), (61, 45, 11, 51, 88866965, []), (4, 48, 12, 0, 0, []), (65, 50, 0, 0, 0, []), (4, 51, 3, 0, 0, []), (47, 52, 3, 0, 0, []), (6, 55, 0, 0, 0, []), (4, 56, 12, 0, 0, []), (4, 58, 4, 0, 0, []), (4, 60, 5, 0, 0, []), (4, 62, 6, 0, 0, []), (92, 64, 265, 5, 9, [(119538042, 11)]), (41, 67, 2, 0, 0, []), (56, 70, 3, 0, 0, [])],
  [(1, 73, 0, 0, 1, []), (7, 74, 10, 0, 0, []), (4, 76, 9, 0, 0, []), (6, 78, 0, 0, 0, []), (61, 79, 11, 52, 88932504, []), (4, 82, 12, 0, 0, []), (65, 84, 0, 0, 0, []), (11, 85, 0, 0, 0, []), (7, 86, 9, 0, 0, []), (57, 88, 3, 0, 0, [])],
  [(10, 88, 11, 0, 1, []), (56, 91, 1, 0, 0, [])],
  [(4, 94, 7, 0, 0, []), (23, 96, 0, 0, 0, []), (4, 97, 9, 0, 0, []), (23, 99, 0, 0, 0, []), (29, 100, 0, 0, 0, []), (2, 101, 0, 119800190, 1000, []), (30, 104, 0, 0, 0, []), (24, 105, 0, 0, 0, []), (7, 106, 11, 0, 0, []), (4, 108, 10, 0, 0, []), (40, 110, 5, 0, 0, []), (4, 113, 11, 0, 0, []), (6, 115, 0, 0, 0, []), (61, 116, 11, 48, 88670348, []), (4, 119, 1, 0, 0, []), (65, 120, 0, 0, 0, []), (49, 121, 5, 0, 0, []), (6, 124, 0, 0, 0, []), (61, 125, 11, 48, 88670348, []), (4, 128, 1, 0, 0, []), (65, 129, 0, 0, 0, []), (7, 130, 11, 0, 0, []), (57, 132, 5, 0, 0, [])],
  [(4, 132, 11, 0, 0, []), (4, 134, 8, 0, 0, []), (49, 136, 6, 0, 0, []), (4, 139, 11, 0, 0, []), (56, 141, 7, 0, 0, [])],
  [(4, 144, 8, 0, 0, []), (57, 146, 7, 0, 0, [])],
  [(95, 146, 0, 0, 0, [])]]
/-! 267: EngraversHouseModel.paid:(IIIIIII)I -/
set_option maxRecDepth 100000 in
noncomputable def zb267 : List (List zMI) := [
  [(6, 0, 0, 0, 0, []), (4, 1, 1, 0, 0, []), (92, 2, 199, 2, 2, [(103940332, 11)]), (40, 5, 1, 0, 0, []), (4, 8, 2, 0, 0, []), (1, 9, 0, 0, 0, []), (1, 10, 0, 0, 3, []), (90, 11, 196, 3, 3, [(101974025, 11)]), (40, 14, 1, 0, 0, []), (4, 17, 7, 0, 0, []), (1, 19, 0, 0, 0, []), (1, 20, 0, 0, 2, []), (90, 21, 196, 3, 3, [(101974025, 11)]), (41, 24, 2, 0, 0, []), (57, 27, 1, 0, 0, [])],
  [(1, 27, 0, 0, (-1), []), (95, 28, 0, 0, 0, [])],
  [(6, 29, 0, 0, 0, []), (4, 30, 1, 0, 0, []), (92, 31, 201, 2, 2, [(104202479, 11)]), (41, 34, 3, 0, 0, []), (1, 37, 0, 0, (-12), []), (95, 39, 0, 0, 0, [])],
  [(4, 40, 3, 0, 0, []), (90, 41, 197, 1, 1, [(114753893, 11)]), (40, 44, 4, 0, 0, []), (4, 47, 4, 0, 0, []), (1, 49, 0, 0, 0, []), (1, 50, 0, 0, 2, []), (90, 51, 196, 3, 3, [(101974025, 11)]), (40, 54, 4, 0, 0, []), (4, 57, 5, 0, 0, []), (1, 59, 0, 0, 0, []), (1, 60, 0, 119210368, 100000, []), (90, 63, 196, 3, 3, [(101974025, 11)]), (40, 66, 4, 0, 0, []), (4, 69, 6, 0, 0, []), (1, 71, 0, 0, 0, []), (1, 72, 0, 0, 999, []), (90, 75, 196, 3, 3, [(101974025, 11)]), (41, 78, 5, 0, 0, []), (57, 81, 4, 0, 0, [])],
  [(1, 81, 0, 0, (-2), []), (95, 83, 0, 0, 0, [])],
  [(6, 84, 0, 0, 0, []), (4, 85, 2, 0, 0, []), (4, 86, 3, 0, 0, []), (92, 87, 260, 3, 5, [(117834094, 11)]), (7, 90, 8, 0, 0, []), (6, 92, 0, 0, 0, []), (61, 93, 11, 7, 85983264, []), (6, 96, 0, 0, 0, []), (61, 97, 11, 4, 85786647, []), (4, 100, 1, 0, 0, []), (65, 101, 0, 0, 0, []), (65, 102, 0, 0, 0, []), (7, 103, 9, 0, 0, []), (6, 105, 0, 0, 0, []), (4, 106, 9, 0, 0, []), (4, 108, 3, 0, 0, []), (92, 109, 262, 3, 3, [(118620529, 11)]), (40, 112, 6, 0, 0, []), (1, 115, 0, 0, 0, []), (56, 116, 7, 0, 0, [])],
  [(4, 119, 3, 0, 0, []), (6, 120, 0, 0, 0, []), (61, 121, 11, 9, 86114339, []), (4, 124, 9, 0, 0, []), (65, 126, 0, 0, 0, []), (12, 127, 0, 0, 0, []), (1, 128, 0, 0, 365, []), (14, 131, 0, 0, 0, []), (57, 132, 7, 0, 0, [])],
  [(7, 132, 10, 0, 0, []), (6, 134, 0, 0, 0, []), (61, 135, 11, 3, 85721107, []), (4, 138, 1, 0, 0, []), (65, 139, 0, 0, 0, []), (1, 140, 0, 0, 6, []), (47, 142, 8, 0, 0, []), (1, 145, 0, 0, 1, []), (56, 146, 9, 0, 0, [])],
  [(1, 149, 0, 0, 0, []), (57, 150, 9, 0, 0, [])],
  [(7, 150, 11, 0, 0, []), (6, 152, 0, 0, 0, []), (4, 153, 9, 0, 0, []), (4, 155, 2, 0, 0, []), (4, 156, 3, 0, 0, []), (92, 157, 263, 4, 4, [(118358391, 11)]), (40, 160, 10, 0, 0, []), (6, 163, 0, 0, 0, []), (4, 164, 8, 0, 0, []), (1, 166, 0, 0, 0, []), (4, 167, 4, 0, 0, []), (4, 169, 11, 0, 0, []), (4, 171, 10, 0, 0, []), (4, 173, 6, 0, 0, []), (4, 175, 5, 0, 0, []), (4, 177, 5, 0, 0, []), (92, 179, 266, 9, 13, [(119275905, 11)]), (56, 182, 11, 0, 0, [])],
  [(1, 185, 0, 0, 0, []), (57, 186, 11, 0, 0, [])],
  [(7, 186, 12, 0, 0, []), (4, 188, 11, 0, 0, []), (40, 190, 12, 0, 0, []), (6, 193, 0, 0, 0, []), (6, 194, 0, 0, 0, []), (61, 195, 11, 7, 85983264, []), (4, 198, 1, 0, 0, []), (65, 199, 0, 0, 0, []), (4, 200, 2, 0, 0, []), (4, 201, 3, 0, 0, []), (92, 202, 263, 4, 4, [(118358391, 11)]), (40, 205, 12, 0, 0, []), (6, 208, 0, 0, 0, []), (4, 209, 8, 0, 0, []), (1, 211, 0, 0, 1, []), (4, 212, 4, 0, 0, []), (1, 214, 0, 0, 1, []), (4, 215, 10, 0, 0, []), (4, 217, 6, 0, 0, []), (4, 219, 5, 0, 0, []), (4, 221, 5, 0, 0, []), (4, 223, 12, 0, 0, []), (12, 225, 0, 0, 0, []), (92, 226, 266, 9, 13, [(119275905, 11)]), (56, 229, 13, 0, 0, [])],
  [(1, 232, 0, 0, 0, []), (57, 233, 13, 0, 0, [])],
  [(7, 233, 13, 0, 0, []), (4, 235, 7, 0, 0, []), (41, 237, 14, 0, 0, []), (4, 240, 12, 0, 0, []), (56, 242, 16, 0, 0, [])],
  [(4, 245, 7, 0, 0, []), (1, 247, 0, 0, 1, []), (47, 248, 15, 0, 0, []), (4, 251, 13, 0, 0, []), (56, 253, 16, 0, 0, [])],
  [(4, 256, 5, 0, 0, []), (4, 258, 12, 0, 0, []), (12, 260, 0, 0, 0, []), (4, 261, 13, 0, 0, []), (12, 263, 0, 0, 0, []), (57, 264, 16, 0, 0, [])],
  [(95, 264, 0, 0, 0, [])]]
/-! 268: EngraversHouseModel.isTown:(I)Z -/
set_option maxRecDepth 100000 in
noncomputable def zb268 : List (List zMI) := [
  [(4, 0, 0, 0, 0, []), (1, 1, 0, 0, 0, []), (1, 2, 0, 0, 5, []), (90, 3, 196, 3, 3, [(101974025, 11)]), (96, 6, 0, 0, 0, [])]]
/-! 269: EngraversHouseModel.set:(I)I -/
set_option maxRecDepth 100000 in
noncomputable def zb269 : List (List zMI) := [
  [(6, 0, 0, 0, 0, []), (4, 1, 1, 0, 0, []), (92, 2, 199, 2, 2, [(103940332, 11)]), (41, 5, 1, 0, 0, []), (1, 8, 0, 0, (-1), []), (95, 9, 0, 0, 0, [])],
  [(6, 10, 0, 0, 0, []), (4, 11, 1, 0, 0, []), (92, 12, 202, 2, 2, [(108331278, 11)]), (41, 15, 2, 0, 0, []), (1, 18, 0, 0, (-12), []), (95, 20, 0, 0, 0, [])],
  [(6, 21, 0, 0, 0, []), (60, 22, 11, 2, 85655767, []), (1, 25, 0, 0, 60, []), (47, 27, 3, 0, 0, []), (1, 30, 0, 0, (-4), []), (95, 32, 0, 0, 0, [])],
  [(6, 33, 0, 0, 0, []), (1, 34, 0, 0, 5, []), (6, 35, 0, 0, 0, []), (61, 36, 11, 4, 85786647, []), (4, 39, 1, 0, 0, []), (65, 40, 0, 0, 0, []), (6, 41, 0, 0, 0, []), (61, 42, 11, 5, 85852186, []), (4, 45, 1, 0, 0, []), (65, 46, 0, 0, 0, []), (6, 47, 0, 0, 0, []), (61, 48, 11, 6, 85917725, []), (4, 51, 1, 0, 0, []), (65, 52, 0, 0, 0, []), (92, 53, 203, 5, 6, [(103416040, 11)]), (95, 56, 0, 0, 0, [])]]
/-! 270: EngraversHouseModel.stands:(II)I -/
set_option maxRecDepth 100000 in
noncomputable def zb270 : List (List zMI) := [
  [(6, 0, 0, 0, 0, []), (4, 1, 1, 0, 0, []), (92, 2, 199, 2, 2, [(103940332, 11)]), (40, 5, 1, 0, 0, []), (4, 8, 2, 0, 0, []), (90, 9, 268, 1, 1, [(120390021, 11)]), (41, 12, 2, 0, 0, []), (57, 15, 1, 0, 0, [])],
  [(1, 15, 0, 0, (-1), []), (95, 16, 0, 0, 0, [])],
  [(6, 17, 0, 0, 0, []), (61, 18, 11, 3, 85721107, []), (4, 21, 1, 0, 0, []), (65, 22, 0, 0, 0, []), (1, 23, 0, 0, 5, []), (46, 24, 3, 0, 0, []), (1, 27, 0, 0, (-12), []), (95, 29, 0, 0, 0, [])],
  [(6, 30, 0, 0, 0, []), (61, 31, 11, 64, 89718957, []), (4, 34, 1, 0, 0, []), (65, 35, 0, 0, 0, []), (7, 36, 3, 0, 0, []), (6, 37, 0, 0, 0, []), (61, 38, 11, 64, 89718957, []), (4, 41, 1, 0, 0, []), (4, 42, 2, 0, 0, []), (68, 43, 0, 0, 0, []), (4, 44, 3, 0, 0, []), (95, 45, 0, 0, 0, [])]]
/-! 271: EngraversHouseModel.way:(III)I -/
set_option maxRecDepth 100000 in
noncomputable def zb271 : List (List zMI) := [
  [(4, 0, 1, 0, 0, []), (90, 1, 268, 1, 1, [(120390021, 11)]), (40, 4, 1, 0, 0, []), (4, 7, 2, 0, 0, []), (90, 8, 268, 1, 1, [(120390021, 11)]), (41, 11, 2, 0, 0, []), (57, 14, 1, 0, 0, [])],
  [(1, 14, 0, 0, (-1), []), (95, 15, 0, 0, 0, [])],
  [(4, 16, 1, 0, 0, []), (4, 17, 2, 0, 0, []), (46, 18, 3, 0, 0, []), (4, 21, 3, 0, 0, []), (1, 22, 0, 0, 0, []), (1, 23, 0, 0, 99, []), (90, 25, 196, 3, 3, [(101974025, 11)]), (41, 28, 4, 0, 0, []), (57, 31, 3, 0, 0, [])],
  [(1, 31, 0, 0, (-2), []), (95, 33, 0, 0, 0, [])],
  [(6, 34, 0, 0, 0, []), (61, 35, 11, 63, 89653418, []), (1, 38, 0, 0, 6, []), (4, 40, 1, 0, 0, []), (13, 41, 0, 0, 0, []), (4, 42, 2, 0, 0, []), (11, 43, 0, 0, 0, []), (65, 44, 0, 0, 0, []), (7, 45, 4, 0, 0, []), (6, 47, 0, 0, 0, []), (61, 48, 11, 63, 89653418, []), (1, 51, 0, 0, 6, []), (4, 53, 1, 0, 0, []), (13, 54, 0, 0, 0, []), (4, 55, 2, 0, 0, []), (11, 56, 0, 0, 0, []), (4, 57, 3, 0, 0, []), (68, 58, 0, 0, 0, []), (6, 59, 0, 0, 0, []), (61, 60, 11, 63, 89653418, []), (1, 63, 0, 0, 6, []), (4, 65, 2, 0, 0, []), (13, 66, 0, 0, 0, []), (4, 67, 1, 0, 0, []), (11, 68, 0, 0, 0, []), (4, 69, 3, 0, 0, []), (68, 70, 0, 0, 0, []), (4, 71, 4, 0, 0, []), (95, 73, 0, 0, 0, [])]]
/-! 272: EngraversHouseModel.ask:(IIII)I -/
set_option maxRecDepth 100000 in
noncomputable def zb272 : List (List zMI) := [
  [(4, 0, 1, 0, 0, []), (90, 1, 268, 1, 1, [(120390021, 11)]), (41, 4, 1, 0, 0, []), (1, 7, 0, 0, (-1), []), (95, 8, 0, 0, 0, [])],
  [(4, 9, 2, 0, 0, []), (90, 10, 197, 1, 1, [(114753893, 11)]), (40, 13, 2, 0, 0, []), (4, 16, 3, 0, 0, []), (4, 17, 2, 0, 0, []), (1, 18, 0, 0, 9999, []), (90, 21, 196, 3, 3, [(101974025, 11)]), (40, 24, 2, 0, 0, []), (4, 27, 4, 0, 0, []), (1, 29, 0, 0, 0, []), (1, 30, 0, 0, 999, []), (90, 33, 196, 3, 3, [(101974025, 11)]), (41, 36, 3, 0, 0, []), (57, 39, 2, 0, 0, [])],
  [(1, 39, 0, 0, (-2), []), (95, 41, 0, 0, 0, [])],
  [(6, 42, 0, 0, 0, []), (60, 43, 11, 65, 89784712, []), (1, 46, 0, 0, 9, []), (47, 48, 4, 0, 0, []), (1, 51, 0, 0, (-4), []), (95, 53, 0, 0, 0, [])],
  [(6, 54, 0, 0, 0, []), (61, 55, 11, 66, 89850032, []), (6, 58, 0, 0, 0, []), (60, 59, 11, 65, 89784712, []), (4, 62, 1, 0, 0, []), (68, 63, 0, 0, 0, []), (6, 64, 0, 0, 0, []), (61, 65, 11, 67, 89915571, []), (6, 68, 0, 0, 0, []), (60, 69, 11, 65, 89784712, []), (4, 72, 2, 0, 0, []), (68, 73, 0, 0, 0, []), (6, 74, 0, 0, 0, []), (61, 75, 11, 68, 89981110, []), (6, 78, 0, 0, 0, []), (60, 79, 11, 65, 89784712, []), (4, 82, 3, 0, 0, []), (68, 83, 0, 0, 0, []), (6, 84, 0, 0, 0, []), (61, 85, 11, 69, 90046649, []), (6, 88, 0, 0, 0, []), (60, 89, 11, 65, 89784712, []), (4, 92, 4, 0, 0, []), (68, 94, 0, 0, 0, []), (6, 95, 0, 0, 0, []), (33, 96, 0, 0, 0, []), (60, 97, 11, 65, 89784712, []), (1, 100, 0, 0, 1, []), (11, 101, 0, 0, 0, []), (62, 102, 11, 65, 89784712, []), (6, 105, 0, 0, 0, []), (60, 106, 11, 65, 89784712, []), (1, 109, 0, 0, 1, []), (12, 110, 0, 0, 0, []), (95, 111, 0, 0, 0, [])]]
/-! 273: EngraversHouseModel.askless:()I -/
set_option maxRecDepth 100000 in
noncomputable def zb273 : List (List zMI) := [
  [(6, 0, 0, 0, 0, []), (60, 1, 11, 65, 89784712, []), (7, 4, 1, 0, 0, []), (6, 5, 0, 0, 0, []), (1, 6, 0, 0, 0, []), (62, 7, 11, 65, 89784712, []), (4, 10, 1, 0, 0, []), (95, 11, 0, 0, 0, [])]]
/-! 274: EngraversHouseModel.serves:(II)Z -/
set_option maxRecDepth 100000 in
noncomputable def zb274 : List (List zMI) := [
  [(4, 0, 1, 0, 0, []), (7, 1, 3, 0, 0, []), (6, 2, 0, 0, 0, []), (60, 3, 11, 1, 85590234, []), (7, 6, 4, 0, 0, []), (4, 8, 2, 0, 0, []), (7, 9, 5, 0, 0, []), (57, 11, 1, 0, 0, [])],
  [(4, 11, 5, 0, 0, []), (40, 13, 7, 0, 0, []), (1, 16, 0, 0, (-1), []), (7, 17, 6, 0, 0, []), (1, 19, 0, 0, 0, []), (7, 20, 7, 0, 0, []), (57, 22, 2, 0, 0, [])],
  [(4, 22, 7, 0, 0, []), (6, 24, 0, 0, 0, []), (60, 25, 11, 65, 89784712, []), (49, 28, 5, 0, 0, []), (4, 31, 5, 0, 0, []), (4, 33, 7, 0, 0, []), (18, 35, 0, 0, 0, []), (1, 36, 0, 0, 1, []), (20, 37, 0, 0, 0, []), (1, 38, 0, 0, 1, []), (47, 39, 4, 0, 0, []), (4, 42, 6, 0, 0, []), (42, 44, 3, 0, 0, []), (6, 47, 0, 0, 0, []), (61, 48, 11, 67, 89915571, []), (4, 51, 7, 0, 0, []), (65, 53, 0, 0, 0, []), (6, 54, 0, 0, 0, []), (61, 55, 11, 67, 89915571, []), (4, 58, 6, 0, 0, []), (65, 60, 0, 0, 0, []), (49, 61, 4, 0, 0, []), (57, 64, 3, 0, 0, [])],
  [(4, 64, 7, 0, 0, []), (7, 66, 6, 0, 0, []), (57, 68, 4, 0, 0, [])],
  [(10, 68, 7, 0, 1, []), (56, 71, 2, 0, 0, [])],
  [(4, 74, 4, 0, 0, []), (6, 76, 0, 0, 0, []), (61, 77, 11, 63, 89653418, []), (1, 80, 0, 0, 6, []), (4, 82, 3, 0, 0, []), (13, 83, 0, 0, 0, []), (6, 84, 0, 0, 0, []), (61, 85, 11, 66, 89850032, []), (4, 88, 6, 0, 0, []), (65, 90, 0, 0, 0, []), (11, 91, 0, 0, 0, []), (65, 92, 0, 0, 0, []), (11, 93, 0, 0, 0, []), (6, 94, 0, 0, 0, []), (61, 95, 11, 67, 89915571, []), (4, 98, 6, 0, 0, []), (65, 100, 0, 0, 0, []), (51, 101, 6, 0, 0, []), (1, 104, 0, 0, 0, []), (96, 105, 0, 0, 0, [])],
  [(6, 106, 0, 0, 0, []), (61, 107, 11, 66, 89850032, []), (4, 110, 6, 0, 0, []), (65, 112, 0, 0, 0, []), (7, 113, 3, 0, 0, []), (6, 114, 0, 0, 0, []), (61, 115, 11, 68, 89981110, []), (4, 118, 6, 0, 0, []), (65, 120, 0, 0, 0, []), (1, 121, 0, 0, 1, []), (11, 122, 0, 0, 0, []), (7, 123, 4, 0, 0, []), (4, 125, 5, 0, 0, []), (1, 127, 0, 0, 1, []), (4, 128, 6, 0, 0, []), (17, 130, 0, 0, 0, []), (1, 131, 0, 0, (-1), []), (22, 132, 0, 0, 0, []), (20, 133, 0, 0, 0, []), (7, 134, 5, 0, 0, []), (56, 136, 1, 0, 0, [])],
  [(1, 139, 0, 0, 1, []), (96, 140, 0, 0, 0, [])]]
/-! 275: EngraversHouseModel.hire:(II)I -/
set_option maxRecDepth 100000 in
noncomputable def zb275 : List (List zMI) := [
  [(6, 0, 0, 0, 0, []), (4, 1, 1, 0, 0, []), (92, 2, 199, 2, 2, [(103940332, 11)]), (40, 5, 1, 0, 0, []), (4, 8, 2, 0, 0, []), (1, 9, 0, 0, 0, []), (1, 10, 0, 0, 1, []), (90, 11, 196, 3, 3, [(101974025, 11)]), (41, 14, 2, 0, 0, []), (57, 17, 1, 0, 0, [])],
  [(1, 17, 0, 0, (-1), []), (95, 18, 0, 0, 0, [])],
  [(6, 19, 0, 0, 0, []), (61, 20, 11, 3, 85721107, []), (4, 23, 1, 0, 0, []), (65, 24, 0, 0, 0, []), (1, 25, 0, 0, 5, []), (46, 26, 3, 0, 0, []), (1, 29, 0, 0, (-12), []), (95, 31, 0, 0, 0, [])],
  [(1, 32, 0, 0, 0, []), (7, 33, 3, 0, 0, []), (1, 34, 0, 0, 0, []), (7, 35, 4, 0, 0, []), (1, 37, 0, 0, 1, []), (7, 38, 5, 0, 0, []), (57, 40, 4, 0, 0, [])],
  [(4, 40, 5, 0, 0, []), (1, 42, 0, 0, 1, []), (6, 43, 0, 0, 0, []), (60, 44, 11, 65, 89784712, []), (17, 47, 0, 0, 0, []), (49, 48, 12, 0, 0, []), (1, 51, 0, 0, 0, []), (7, 52, 6, 0, 0, []), (1, 54, 0, 0, 0, []), (7, 55, 7, 0, 0, []), (57, 57, 5, 0, 0, [])],
  [(4, 57, 7, 0, 0, []), (6, 59, 0, 0, 0, []), (60, 60, 11, 65, 89784712, []), (49, 63, 8, 0, 0, []), (4, 66, 6, 0, 0, []), (4, 68, 5, 0, 0, []), (4, 70, 7, 0, 0, []), (18, 72, 0, 0, 0, []), (1, 73, 0, 0, 1, []), (20, 74, 0, 0, 0, []), (1, 75, 0, 0, 1, []), (47, 76, 6, 0, 0, []), (6, 79, 0, 0, 0, []), (61, 80, 11, 69, 90046649, []), (4, 83, 7, 0, 0, []), (65, 85, 0, 0, 0, []), (56, 86, 7, 0, 0, [])],
  [(1, 89, 0, 0, 0, []), (57, 90, 7, 0, 0, [])],
  [(11, 90, 0, 0, 0, []), (7, 91, 6, 0, 0, []), (10, 93, 7, 0, 1, []), (56, 96, 5, 0, 0, [])],
  [(4, 99, 6, 0, 0, []), (4, 101, 4, 0, 0, []), (48, 103, 11, 0, 0, []), (4, 106, 6, 0, 0, []), (4, 108, 4, 0, 0, []), (47, 110, 9, 0, 0, []), (4, 113, 5, 0, 0, []), (90, 115, 233, 1, 3, [(110625057, 11)]), (4, 118, 3, 0, 0, []), (90, 119, 233, 1, 3, [(110625057, 11)]), (49, 122, 11, 0, 0, []), (57, 125, 9, 0, 0, [])],
  [(6, 125, 0, 0, 0, []), (6, 126, 0, 0, 0, []), (61, 127, 11, 64, 89718957, []), (4, 130, 1, 0, 0, []), (65, 131, 0, 0, 0, []), (4, 132, 5, 0, 0, []), (92, 134, 274, 3, 8, [(121635211, 11)]), (41, 137, 10, 0, 0, []), (56, 140, 11, 0, 0, [])],
  [(4, 143, 5, 0, 0, []), (7, 145, 3, 0, 0, []), (4, 146, 6, 0, 0, []), (7, 148, 4, 0, 0, []), (57, 150, 11, 0, 0, [])],
  [(10, 150, 5, 0, 1, []), (56, 153, 4, 0, 0, [])],
  [(4, 156, 2, 0, 0, []), (41, 157, 13, 0, 0, []), (4, 160, 4, 0, 0, []), (56, 162, 14, 0, 0, [])],
  [(4, 165, 3, 0, 0, []), (57, 166, 14, 0, 0, [])],
  [(95, 166, 0, 0, 0, [])]]
/-! 276: EngraversHouseModel.month:(I)I -/
set_option maxRecDepth 100000 in
noncomputable def zb276 : List (List zMI) := [
  [(4, 0, 1, 0, 0, []), (1, 1, 0, 0, 0, []), (1, 2, 0, 0, 999, []), (90, 5, 196, 3, 3, [(101974025, 11)]), (41, 8, 1, 0, 0, []), (1, 11, 0, 0, (-2), []), (95, 13, 0, 0, 0, [])],
  [(6, 14, 0, 0, 0, []), (60, 15, 11, 70, 90112398, []), (1, 18, 0, 0, 10, []), (47, 20, 2, 0, 0, []), (1, 23, 0, 0, (-4), []), (95, 25, 0, 0, 0, [])],
  [(6, 26, 0, 0, 0, []), (61, 27, 11, 71, 90177724, []), (6, 30, 0, 0, 0, []), (60, 31, 11, 70, 90112398, []), (4, 34, 1, 0, 0, []), (68, 35, 0, 0, 0, []), (6, 36, 0, 0, 0, []), (33, 37, 0, 0, 0, []), (60, 38, 11, 70, 90112398, []), (1, 41, 0, 0, 1, []), (11, 42, 0, 0, 0, []), (62, 43, 11, 70, 90112398, []), (6, 46, 0, 0, 0, []), (60, 47, 11, 70, 90112398, []), (95, 50, 0, 0, 0, [])]]
/-! 277: EngraversHouseModel.costs:(III)I -/
set_option maxRecDepth 100000 in
noncomputable def zb277 : List (List zMI) := [
  [(4, 0, 1, 0, 0, []), (1, 1, 0, 0, 0, []), (1, 2, 0, 0, 9999, []), (90, 5, 196, 3, 3, [(101974025, 11)]), (40, 8, 1, 0, 0, []), (4, 11, 2, 0, 0, []), (1, 12, 0, 0, 0, []), (1, 13, 0, 0, 99, []), (90, 15, 196, 3, 3, [(101974025, 11)]), (40, 18, 1, 0, 0, []), (4, 21, 3, 0, 0, []), (1, 22, 0, 0, 1, []), (1, 23, 0, 0, 9999, []), (90, 26, 196, 3, 3, [(101974025, 11)]), (41, 29, 2, 0, 0, []), (57, 32, 1, 0, 0, [])],
  [(1, 32, 0, 0, (-2), []), (95, 34, 0, 0, 0, [])],
  [(6, 35, 0, 0, 0, []), (60, 36, 11, 70, 90112398, []), (7, 39, 4, 0, 0, []), (6, 41, 0, 0, 0, []), (4, 42, 1, 0, 0, []), (62, 43, 11, 72, 90243473, []), (6, 46, 0, 0, 0, []), (4, 47, 2, 0, 0, []), (62, 48, 11, 73, 90309012, []), (6, 51, 0, 0, 0, []), (4, 52, 3, 0, 0, []), (62, 53, 11, 74, 90374356, []), (6, 56, 0, 0, 0, []), (1, 57, 0, 0, 0, []), (62, 58, 11, 70, 90112398, []), (4, 61, 4, 0, 0, []), (95, 63, 0, 0, 0, [])]]
/-! 278: EngraversHouseModel.costOf:(I)I -/
set_option maxRecDepth 100000 in
noncomputable def zb278 : List (List zMI) := [
  [(1, 0, 0, 0, 0, []), (7, 1, 2, 0, 0, []), (1, 2, 0, 0, (-1), []), (7, 3, 3, 0, 0, []), (1, 4, 0, 0, 0, []), (7, 5, 4, 0, 0, []), (1, 7, 0, 0, 0, []), (7, 8, 5, 0, 0, []), (57, 10, 1, 0, 0, [])],
  [(4, 10, 5, 0, 0, []), (6, 12, 0, 0, 0, []), (60, 13, 11, 70, 90112398, []), (50, 16, 13, 0, 0, []), (4, 19, 5, 0, 0, []), (6, 21, 0, 0, 0, []), (60, 22, 11, 70, 90112398, []), (49, 25, 2, 0, 0, []), (4, 28, 1, 0, 0, []), (4, 29, 5, 0, 0, []), (18, 31, 0, 0, 0, []), (1, 32, 0, 0, 1, []), (20, 33, 0, 0, 0, []), (1, 34, 0, 0, 1, []), (47, 35, 2, 0, 0, []), (1, 38, 0, 0, 1, []), (56, 39, 3, 0, 0, [])],
  [(1, 42, 0, 0, 0, []), (57, 43, 3, 0, 0, [])],
  [(7, 43, 6, 0, 0, []), (4, 45, 6, 0, 0, []), (41, 47, 4, 0, 0, []), (4, 50, 5, 0, 0, []), (6, 52, 0, 0, 0, []), (60, 53, 11, 70, 90112398, []), (47, 56, 8, 0, 0, []), (57, 59, 4, 0, 0, [])],
  [(4, 59, 3, 0, 0, []), (42, 60, 5, 0, 0, []), (4, 63, 4, 0, 0, []), (40, 65, 6, 0, 0, []), (57, 68, 5, 0, 0, [])],
  [(4, 68, 4, 0, 0, []), (6, 70, 0, 0, 0, []), (60, 71, 11, 74, 90374356, []), (51, 74, 7, 0, 0, []), (57, 77, 6, 0, 0, [])],
  [(1, 77, 0, 0, (-1), []), (95, 78, 0, 0, 0, [])],
  [(4, 79, 6, 0, 0, []), (40, 81, 8, 0, 0, []), (4, 84, 2, 0, 0, []), (6, 85, 0, 0, 0, []), (60, 86, 11, 72, 90243473, []), (11, 89, 0, 0, 0, []), (7, 90, 2, 0, 0, []), (4, 91, 5, 0, 0, []), (7, 93, 3, 0, 0, []), (1, 94, 0, 0, 0, []), (7, 95, 4, 0, 0, []), (57, 97, 8, 0, 0, [])],
  [(4, 97, 5, 0, 0, []), (6, 99, 0, 0, 0, []), (60, 100, 11, 70, 90112398, []), (47, 103, 9, 0, 0, []), (4, 106, 2, 0, 0, []), (95, 107, 0, 0, 0, [])],
  [(4, 108, 3, 0, 0, []), (43, 109, 10, 0, 0, []), (6, 112, 0, 0, 0, []), (61, 113, 11, 71, 90177724, []), (4, 116, 5, 0, 0, []), (65, 118, 0, 0, 0, []), (45, 119, 10, 0, 0, []), (1, 122, 0, 0, (-1), []), (95, 123, 0, 0, 0, [])],
  [(4, 124, 3, 0, 0, []), (43, 125, 11, 0, 0, []), (56, 128, 12, 0, 0, [])],
  [(4, 131, 4, 0, 0, []), (6, 133, 0, 0, 0, []), (61, 134, 11, 71, 90177724, []), (4, 137, 5, 0, 0, []), (65, 139, 0, 0, 0, []), (11, 140, 0, 0, 0, []), (7, 141, 4, 0, 0, []), (4, 143, 2, 0, 0, []), (6, 144, 0, 0, 0, []), (60, 145, 11, 73, 90309012, []), (6, 148, 0, 0, 0, []), (61, 149, 11, 71, 90177724, []), (4, 152, 5, 0, 0, []), (65, 154, 0, 0, 0, []), (13, 155, 0, 0, 0, []), (4, 156, 5, 0, 0, []), (4, 158, 3, 0, 0, []), (12, 159, 0, 0, 0, []), (13, 160, 0, 0, 0, []), (11, 161, 0, 0, 0, []), (7, 162, 2, 0, 0, []), (57, 163, 12, 0, 0, [])],
  [(10, 163, 5, 0, 1, []), (56, 166, 1, 0, 0, [])],
  [(4, 169, 2, 0, 0, []), (95, 170, 0, 0, 0, [])]]
/-! 279: EngraversHouseModel.prints:(I)I -/
set_option maxRecDepth 100000 in
noncomputable def zb279 : List (List zMI) := [
  [(4, 0, 1, 0, 0, []), (1, 1, 0, 0, 0, []), (1, 2, 0, 0, 1, []), (90, 3, 196, 3, 3, [(101974025, 11)]), (41, 6, 1, 0, 0, []), (1, 9, 0, 0, (-1), []), (95, 10, 0, 0, 0, [])],
  [(1, 11, 0, 0, 0, []), (7, 12, 2, 0, 0, []), (57, 13, 2, 0, 0, [])],
  [(4, 13, 2, 0, 0, []), (6, 14, 0, 0, 0, []), (60, 15, 11, 70, 90112398, []), (49, 18, 4, 0, 0, []), (6, 21, 0, 0, 0, []), (61, 22, 11, 71, 90177724, []), (4, 25, 2, 0, 0, []), (65, 26, 0, 0, 0, []), (6, 27, 0, 0, 0, []), (60, 28, 11, 74, 90374356, []), (51, 31, 3, 0, 0, []), (1, 34, 0, 0, (-3), []), (95, 36, 0, 0, 0, [])],
  [(10, 37, 2, 0, 1, []), (56, 40, 2, 0, 0, [])],
  [(1, 43, 0, 0, (-1), []), (7, 44, 2, 0, 0, []), (1, 45, 0, 0, 0, []), (7, 46, 3, 0, 0, []), (1, 47, 0, 0, 0, []), (7, 48, 4, 0, 0, []), (57, 50, 5, 0, 0, [])],
  [(4, 50, 4, 0, 0, []), (1, 52, 0, 0, 1, []), (6, 53, 0, 0, 0, []), (60, 54, 11, 70, 90112398, []), (17, 57, 0, 0, 0, []), (49, 58, 8, 0, 0, []), (6, 61, 0, 0, 0, []), (4, 62, 4, 0, 0, []), (92, 64, 278, 2, 7, [(122683799, 11)]), (7, 67, 5, 0, 0, []), (4, 69, 5, 0, 0, []), (42, 71, 7, 0, 0, []), (4, 74, 2, 0, 0, []), (42, 75, 6, 0, 0, []), (4, 78, 5, 0, 0, []), (4, 80, 3, 0, 0, []), (50, 81, 7, 0, 0, []), (4, 84, 5, 0, 0, []), (4, 86, 3, 0, 0, []), (47, 87, 6, 0, 0, []), (4, 90, 4, 0, 0, []), (90, 92, 233, 1, 3, [(110625057, 11)]), (4, 95, 2, 0, 0, []), (90, 96, 233, 1, 3, [(110625057, 11)]), (48, 99, 6, 0, 0, []), (56, 102, 7, 0, 0, [])],
  [(4, 105, 4, 0, 0, []), (7, 107, 2, 0, 0, []), (4, 108, 5, 0, 0, []), (7, 110, 3, 0, 0, []), (57, 111, 7, 0, 0, [])],
  [(10, 111, 4, 0, 1, []), (56, 114, 5, 0, 0, [])],
  [(4, 117, 1, 0, 0, []), (41, 118, 9, 0, 0, []), (4, 121, 3, 0, 0, []), (56, 122, 10, 0, 0, [])],
  [(4, 125, 2, 0, 0, []), (57, 126, 10, 0, 0, [])],
  [(95, 126, 0, 0, 0, [])]]
/-! 280: EngraversHouseModel.proof:(III)I -/
set_option maxRecDepth 100000 in
noncomputable def zb280 : List (List zMI) := [
  [(4, 0, 1, 0, 0, []), (1, 1, 0, 0, 0, []), (1, 2, 0, 0, 3, []), (90, 3, 196, 3, 3, [(101974025, 11)]), (40, 6, 1, 0, 0, []), (6, 9, 0, 0, 0, []), (4, 10, 2, 0, 0, []), (92, 11, 199, 2, 2, [(103940332, 11)]), (41, 14, 2, 0, 0, []), (57, 17, 1, 0, 0, [])],
  [(1, 17, 0, 0, (-1), []), (95, 18, 0, 0, 0, [])],
  [(6, 19, 0, 0, 0, []), (61, 20, 11, 3, 85721107, []), (4, 23, 2, 0, 0, []), (65, 24, 0, 0, 0, []), (1, 25, 0, 0, 3, []), (46, 26, 3, 0, 0, []), (1, 29, 0, 0, (-12), []), (95, 31, 0, 0, 0, [])],
  [(4, 32, 3, 0, 0, []), (42, 33, 4, 0, 0, []), (4, 36, 3, 0, 0, []), (1, 37, 0, 0, 1, []), (6, 38, 0, 0, 0, []), (61, 39, 11, 6, 85917725, []), (4, 42, 2, 0, 0, []), (65, 43, 0, 0, 0, []), (17, 44, 0, 0, 0, []), (48, 45, 5, 0, 0, []), (57, 48, 4, 0, 0, [])],
  [(1, 48, 0, 0, (-2), []), (95, 50, 0, 0, 0, [])],
  [(6, 51, 0, 0, 0, []), (61, 52, 11, 75, 90439871, []), (1, 55, 0, 0, 4, []), (4, 56, 2, 0, 0, []), (13, 57, 0, 0, 0, []), (4, 58, 1, 0, 0, []), (11, 59, 0, 0, 0, []), (4, 60, 3, 0, 0, []), (68, 61, 0, 0, 0, []), (4, 62, 3, 0, 0, []), (6, 63, 0, 0, 0, []), (4, 64, 2, 0, 0, []), (92, 65, 232, 2, 4, [(110100766, 11)]), (20, 68, 0, 0, 0, []), (90, 69, 233, 1, 3, [(110625057, 11)]), (95, 72, 0, 0, 0, [])]]
/-! 281: EngraversHouseModel.left:(IIII)J -/
set_option maxRecDepth 100000 in
noncomputable def zb281 : List (List zMI) := [
  [(6, 0, 0, 0, 0, []), (4, 1, 1, 0, 0, []), (92, 2, 199, 2, 2, [(103940332, 11)]), (40, 5, 1, 0, 0, []), (6, 8, 0, 0, 0, []), (61, 9, 11, 3, 85721107, []), (4, 12, 1, 0, 0, []), (65, 13, 0, 0, 0, []), (1, 14, 0, 0, 3, []), (47, 15, 1, 0, 0, []), (4, 18, 2, 0, 0, []), (1, 19, 0, 0, 0, []), (1, 20, 0, 0, 3, []), (90, 21, 196, 3, 3, [(101974025, 11)]), (40, 24, 1, 0, 0, []), (4, 27, 3, 0, 0, []), (1, 28, 0, 0, 0, []), (1, 29, 0, 0, 3, []), (90, 30, 196, 3, 3, [(101974025, 11)]), (40, 33, 1, 0, 0, []), (4, 36, 2, 0, 0, []), (4, 37, 3, 0, 0, []), (46, 38, 1, 0, 0, []), (4, 41, 4, 0, 0, []), (1, 43, 0, 0, 0, []), (1, 44, 0, 0, 1, []), (90, 45, 196, 3, 3, [(101974025, 11)]), (41, 48, 2, 0, 0, []), (57, 51, 1, 0, 0, [])],
  [(2, 51, 0, 123470234, (-9223372036854775808), []), (99, 54, 0, 0, 0, [])],
  [(6, 55, 0, 0, 0, []), (61, 56, 11, 75, 90439871, []), (1, 59, 0, 0, 4, []), (4, 60, 1, 0, 0, []), (13, 61, 0, 0, 0, []), (4, 62, 2, 0, 0, []), (11, 63, 0, 0, 0, []), (65, 64, 0, 0, 0, []), (7, 65, 5, 0, 0, []), (6, 67, 0, 0, 0, []), (61, 68, 11, 75, 90439871, []), (1, 71, 0, 0, 4, []), (4, 72, 1, 0, 0, []), (13, 73, 0, 0, 0, []), (4, 74, 3, 0, 0, []), (11, 75, 0, 0, 0, []), (65, 76, 0, 0, 0, []), (7, 77, 6, 0, 0, []), (4, 79, 5, 0, 0, []), (42, 81, 3, 0, 0, []), (4, 84, 6, 0, 0, []), (42, 86, 3, 0, 0, []), (4, 89, 5, 0, 0, []), (4, 91, 6, 0, 0, []), (20, 93, 0, 0, 0, []), (41, 94, 4, 0, 0, []), (57, 97, 3, 0, 0, [])],
  [(2, 97, 0, 123470234, (-9223372036854775808), []), (99, 100, 0, 0, 0, [])],
  [(4, 101, 5, 0, 0, []), (4, 103, 6, 0, 0, []), (20, 105, 0, 0, 0, []), (90, 106, 233, 1, 3, [(110625057, 11)]), (7, 109, 7, 0, 0, []), (4, 111, 5, 0, 0, []), (90, 113, 233, 1, 3, [(110625057, 11)]), (4, 116, 6, 0, 0, []), (90, 118, 233, 1, 3, [(110625057, 11)]), (13, 121, 0, 0, 0, []), (4, 122, 5, 0, 0, []), (4, 124, 6, 0, 0, []), (21, 126, 0, 0, 0, []), (90, 127, 233, 1, 3, [(110625057, 11)]), (4, 130, 7, 0, 0, []), (13, 132, 0, 0, 0, []), (12, 133, 0, 0, 0, []), (7, 134, 8, 0, 0, []), (4, 136, 8, 0, 0, []), (43, 138, 5, 0, 0, []), (4, 141, 8, 0, 0, []), (16, 143, 0, 0, 0, []), (56, 144, 6, 0, 0, [])],
  [(4, 147, 8, 0, 0, []), (57, 149, 6, 0, 0, [])],
  [(7, 149, 9, 0, 0, []), (4, 151, 7, 0, 0, []), (7, 153, 10, 0, 0, []), (57, 155, 7, 0, 0, [])],
  [(4, 155, 10, 0, 0, []), (40, 157, 8, 0, 0, []), (4, 160, 9, 0, 0, []), (4, 162, 10, 0, 0, []), (15, 164, 0, 0, 0, []), (7, 165, 11, 0, 0, []), (4, 167, 10, 0, 0, []), (7, 169, 9, 0, 0, []), (4, 171, 11, 0, 0, []), (7, 173, 10, 0, 0, []), (56, 175, 7, 0, 0, [])],
  [(4, 178, 4, 0, 0, []), (41, 180, 9, 0, 0, []), (4, 183, 8, 0, 0, []), (4, 185, 9, 0, 0, []), (14, 187, 0, 0, 0, []), (23, 188, 0, 0, 0, []), (56, 189, 10, 0, 0, [])],
  [(4, 192, 7, 0, 0, []), (4, 194, 9, 0, 0, []), (14, 196, 0, 0, 0, []), (23, 197, 0, 0, 0, []), (57, 198, 10, 0, 0, [])],
  [(99, 198, 0, 0, 0, [])]]
/-! 282: EngraversHouseModel.missed:(II)I -/
set_option maxRecDepth 100000 in
noncomputable def zb282 : List (List zMI) := [
  [(4, 0, 1, 0, 0, []), (1, 1, 0, 0, 0, []), (1, 2, 0, 0, 3, []), (90, 3, 196, 3, 3, [(101974025, 11)]), (40, 6, 1, 0, 0, []), (6, 9, 0, 0, 0, []), (4, 10, 2, 0, 0, []), (92, 11, 199, 2, 2, [(103940332, 11)]), (41, 14, 2, 0, 0, []), (57, 17, 1, 0, 0, [])],
  [(1, 17, 0, 0, (-1), []), (95, 18, 0, 0, 0, [])],
  [(6, 19, 0, 0, 0, []), (61, 20, 11, 3, 85721107, []), (4, 23, 2, 0, 0, []), (65, 24, 0, 0, 0, []), (1, 25, 0, 0, 3, []), (46, 26, 3, 0, 0, []), (1, 29, 0, 0, (-12), []), (95, 31, 0, 0, 0, [])],
  [(6, 32, 0, 0, 0, []), (61, 33, 11, 75, 90439871, []), (1, 36, 0, 0, 4, []), (4, 37, 2, 0, 0, []), (13, 38, 0, 0, 0, []), (4, 39, 1, 0, 0, []), (11, 40, 0, 0, 0, []), (65, 41, 0, 0, 0, []), (7, 42, 3, 0, 0, []), (4, 43, 3, 0, 0, []), (43, 44, 4, 0, 0, []), (1, 47, 0, 0, (-3), []), (56, 49, 5, 0, 0, [])],
  [(6, 52, 0, 0, 0, []), (4, 53, 2, 0, 0, []), (92, 54, 232, 2, 4, [(110100766, 11)]), (4, 57, 3, 0, 0, []), (1, 58, 0, 0, (-1), []), (22, 59, 0, 0, 0, []), (20, 60, 0, 0, 0, []), (90, 61, 233, 1, 3, [(110625057, 11)]), (57, 64, 5, 0, 0, [])],
  [(95, 64, 0, 0, 0, [])]]
/-! 283: EngraversHouseModel.ran:(I)V -/
set_option maxRecDepth 100000 in
noncomputable def zb283 : List (List zMI) := [
  [(6, 0, 0, 0, 0, []), (60, 1, 11, 76, 90505628, []), (1, 4, 0, 0, 20, []), (49, 6, 1, 0, 0, []), (6, 9, 0, 0, 0, []), (61, 10, 11, 77, 90570946, []), (6, 13, 0, 0, 0, []), (60, 14, 11, 76, 90505628, []), (4, 17, 1, 0, 0, []), (68, 18, 0, 0, 0, []), (57, 19, 1, 0, 0, [])],
  [(6, 19, 0, 0, 0, []), (33, 20, 0, 0, 0, []), (60, 21, 11, 76, 90505628, []), (1, 24, 0, 0, 1, []), (11, 25, 0, 0, 0, []), (62, 26, 11, 76, 90505628, []), (101, 29, 0, 0, 0, [])]]
/-! 284: EngraversHouseModel.plainHolds:(II)I -/
set_option maxRecDepth 100000 in
noncomputable def zb284 : List (List zMI) := [
  [(6, 0, 0, 0, 0, []), (1, 1, 0, 0, 10, []), (92, 3, 283, 2, 2, [(124322207, 11)]), (4, 6, 2, 0, 0, []), (4, 7, 1, 0, 0, []), (11, 8, 0, 0, 0, []), (95, 9, 0, 0, 0, [])]]
/-! 285: EngraversHouseModel.scoreHolds:(II)I -/
set_option maxRecDepth 100000 in
noncomputable def zb285 : List (List zMI) := [
  [(6, 0, 0, 0, 0, []), (1, 1, 0, 0, 20, []), (92, 3, 283, 2, 2, [(124322207, 11)]), (6, 6, 0, 0, 0, []), (4, 7, 1, 0, 0, []), (4, 8, 2, 0, 0, []), (92, 9, 284, 3, 3, [(124584355, 11)]), (1, 12, 0, 0, 2, []), (13, 13, 0, 0, 0, []), (95, 14, 0, 0, 0, [])]]
/-! 286: EngraversHouseModel.holds:(II)I -/
set_option maxRecDepth 100000 in
noncomputable def zb286 : List (List zMI) := [
  [(6, 0, 0, 0, 0, []), (61, 1, 11, 3, 85721107, []), (4, 4, 1, 0, 0, []), (65, 5, 0, 0, 0, []), (1, 6, 0, 0, 4, []), (47, 7, 1, 0, 0, []), (6, 10, 0, 0, 0, []), (1, 11, 0, 0, 50, []), (92, 13, 283, 2, 2, [(124322207, 11)]), (6, 16, 0, 0, 0, []), (4, 17, 1, 0, 0, []), (4, 18, 2, 0, 0, []), (1, 19, 0, 0, 4, []), (11, 20, 0, 0, 0, []), (92, 21, 284, 3, 3, [(124584355, 11)]), (95, 24, 0, 0, 0, [])],
  [(6, 25, 0, 0, 0, []), (61, 26, 11, 3, 85721107, []), (4, 29, 1, 0, 0, []), (65, 30, 0, 0, 0, []), (1, 31, 0, 0, 5, []), (47, 32, 2, 0, 0, []), (6, 35, 0, 0, 0, []), (1, 36, 0, 0, 61, []), (92, 38, 283, 2, 2, [(124322207, 11)]), (6, 41, 0, 0, 0, []), (4, 42, 1, 0, 0, []), (4, 43, 2, 0, 0, []), (92, 44, 285, 3, 3, [(124846502, 11)]), (1, 47, 0, 0, 1, []), (11, 48, 0, 0, 0, []), (95, 49, 0, 0, 0, [])],
  [(6, 50, 0, 0, 0, []), (61, 51, 11, 3, 85721107, []), (4, 54, 1, 0, 0, []), (65, 55, 0, 0, 0, []), (1, 56, 0, 0, 1, []), (90, 57, 200, 2, 2, [(125108649, 11)]), (40, 60, 3, 0, 0, []), (6, 63, 0, 0, 0, []), (4, 64, 1, 0, 0, []), (4, 65, 2, 0, 0, []), (92, 66, 285, 3, 3, [(124846502, 11)]), (56, 69, 4, 0, 0, [])],
  [(6, 72, 0, 0, 0, []), (4, 73, 1, 0, 0, []), (4, 74, 2, 0, 0, []), (92, 75, 284, 3, 3, [(124584355, 11)]), (57, 78, 4, 0, 0, [])],
  [(95, 78, 0, 0, 0, [])]]
/-! 287: EngraversHouseModel.plainTurns:(II)I -/
set_option maxRecDepth 100000 in
noncomputable def zb287 : List (List zMI) := [
  [(6, 0, 0, 0, 0, []), (1, 1, 0, 0, 11, []), (92, 3, 283, 2, 2, [(124322207, 11)]), (6, 6, 0, 0, 0, []), (4, 7, 1, 0, 0, []), (4, 8, 2, 0, 0, []), (92, 9, 286, 3, 3, [(124060076, 11)]), (1, 12, 0, 0, 3, []), (22, 13, 0, 0, 0, []), (95, 14, 0, 0, 0, [])]]
/-! 288: EngraversHouseModel.partTurns:(II)I -/
set_option maxRecDepth 100000 in
noncomputable def zb288 : List (List zMI) := [
  [(6, 0, 0, 0, 0, []), (1, 1, 0, 0, 30, []), (92, 3, 283, 2, 2, [(124322207, 11)]), (6, 6, 0, 0, 0, []), (4, 7, 1, 0, 0, []), (4, 8, 2, 0, 0, []), (92, 9, 287, 3, 3, [(125829551, 11)]), (7, 12, 3, 0, 0, []), (4, 13, 3, 0, 0, []), (6, 14, 0, 0, 0, []), (4, 15, 1, 0, 0, []), (1, 16, 0, 0, 1, []), (92, 17, 286, 3, 3, [(124060076, 11)]), (11, 20, 0, 0, 0, []), (95, 21, 0, 0, 0, [])]]
/-! 289: EngraversHouseModel.turns:(II)I -/
set_option maxRecDepth 100000 in
noncomputable def zb289 : List (List zMI) := [
  [(6, 0, 0, 0, 0, []), (61, 1, 11, 3, 85721107, []), (4, 4, 1, 0, 0, []), (65, 5, 0, 0, 0, []), (1, 6, 0, 0, 5, []), (47, 7, 1, 0, 0, []), (6, 10, 0, 0, 0, []), (1, 11, 0, 0, 60, []), (92, 13, 283, 2, 2, [(124322207, 11)]), (6, 16, 0, 0, 0, []), (4, 17, 1, 0, 0, []), (4, 18, 2, 0, 0, []), (92, 19, 288, 3, 4, [(125567410, 11)]), (16, 22, 0, 0, 0, []), (95, 23, 0, 0, 0, [])],
  [(6, 24, 0, 0, 0, []), (61, 25, 11, 3, 85721107, []), (4, 28, 1, 0, 0, []), (65, 29, 0, 0, 0, []), (1, 30, 0, 0, 2, []), (47, 31, 2, 0, 0, []), (6, 34, 0, 0, 0, []), (4, 35, 1, 0, 0, []), (4, 36, 2, 0, 0, []), (92, 37, 288, 3, 4, [(125567410, 11)]), (95, 40, 0, 0, 0, [])],
  [(6, 41, 0, 0, 0, []), (61, 42, 11, 3, 85721107, []), (4, 45, 1, 0, 0, []), (65, 46, 0, 0, 0, []), (1, 47, 0, 0, 7, []), (47, 49, 3, 0, 0, []), (6, 52, 0, 0, 0, []), (1, 53, 0, 0, 80, []), (92, 55, 283, 2, 2, [(124322207, 11)]), (6, 58, 0, 0, 0, []), (4, 59, 1, 0, 0, []), (4, 60, 2, 0, 0, []), (92, 61, 286, 3, 3, [(124060076, 11)]), (7, 64, 3, 0, 0, []), (4, 65, 3, 0, 0, []), (6, 66, 0, 0, 0, []), (4, 67, 1, 0, 0, []), (4, 68, 2, 0, 0, []), (92, 69, 287, 3, 3, [(125829551, 11)]), (12, 72, 0, 0, 0, []), (95, 73, 0, 0, 0, [])],
  [(6, 74, 0, 0, 0, []), (4, 75, 1, 0, 0, []), (4, 76, 2, 0, 0, []), (92, 77, 287, 3, 3, [(125829551, 11)]), (95, 80, 0, 0, 0, [])]]
/-! 290: EngraversHouseModel.plainEarns:(II)I -/
set_option maxRecDepth 100000 in
noncomputable def zb290 : List (List zMI) := [
  [(6, 0, 0, 0, 0, []), (1, 1, 0, 0, 12, []), (92, 3, 283, 2, 2, [(124322207, 11)]), (6, 6, 0, 0, 0, []), (4, 7, 1, 0, 0, []), (4, 8, 2, 0, 0, []), (92, 9, 289, 3, 4, [(125305269, 11)]), (4, 12, 2, 0, 0, []), (12, 13, 0, 0, 0, []), (95, 14, 0, 0, 0, [])]]
/-! 291: EngraversHouseModel.earns:(II)I -/
set_option maxRecDepth 100000 in
noncomputable def zb291 : List (List zMI) := [
  [(6, 0, 0, 0, 0, []), (61, 1, 11, 3, 85721107, []), (4, 4, 1, 0, 0, []), (65, 5, 0, 0, 0, []), (1, 6, 0, 0, 3, []), (47, 7, 1, 0, 0, []), (6, 10, 0, 0, 0, []), (1, 11, 0, 0, 40, []), (92, 13, 283, 2, 2, [(124322207, 11)]), (6, 16, 0, 0, 0, []), (4, 17, 1, 0, 0, []), (4, 18, 2, 0, 0, []), (92, 19, 290, 3, 3, [(126353848, 11)]), (1, 22, 0, 0, 7, []), (11, 24, 0, 0, 0, []), (95, 25, 0, 0, 0, [])],
  [(6, 26, 0, 0, 0, []), (61, 27, 11, 3, 85721107, []), (4, 30, 1, 0, 0, []), (65, 31, 0, 0, 0, []), (1, 32, 0, 0, 6, []), (47, 34, 2, 0, 0, []), (6, 37, 0, 0, 0, []), (1, 38, 0, 0, 70, []), (92, 40, 283, 2, 2, [(124322207, 11)]), (6, 43, 0, 0, 0, []), (4, 44, 1, 0, 0, []), (4, 45, 2, 0, 0, []), (92, 46, 290, 3, 3, [(126353848, 11)]), (7, 49, 3, 0, 0, []), (4, 50, 3, 0, 0, []), (6, 51, 0, 0, 0, []), (4, 52, 1, 0, 0, []), (4, 53, 2, 0, 0, []), (92, 54, 286, 3, 3, [(124060076, 11)]), (22, 57, 0, 0, 0, []), (95, 58, 0, 0, 0, [])],
  [(6, 59, 0, 0, 0, []), (4, 60, 1, 0, 0, []), (4, 61, 2, 0, 0, []), (92, 62, 290, 3, 3, [(126353848, 11)]), (95, 65, 0, 0, 0, [])]]
/-! 292: EngraversHouseModel.act:(III)I -/
set_option maxRecDepth 100000 in
noncomputable def zb292 : List (List zMI) := [
  [(6, 0, 0, 0, 0, []), (1, 1, 0, 0, 0, []), (62, 2, 11, 76, 90505628, []), (6, 5, 0, 0, 0, []), (4, 6, 1, 0, 0, []), (92, 7, 199, 2, 2, [(103940332, 11)]), (40, 10, 1, 0, 0, []), (4, 13, 2, 0, 0, []), (1, 14, 0, 0, 0, []), (1, 15, 0, 0, 2, []), (90, 16, 196, 3, 3, [(101974025, 11)]), (41, 19, 2, 0, 0, []), (57, 22, 1, 0, 0, [])],
  [(1, 22, 0, 0, 0, []), (95, 23, 0, 0, 0, [])],
  [(4, 24, 2, 0, 0, []), (41, 25, 3, 0, 0, []), (6, 28, 0, 0, 0, []), (4, 29, 1, 0, 0, []), (4, 30, 3, 0, 0, []), (92, 31, 286, 3, 3, [(124060076, 11)]), (56, 34, 5, 0, 0, [])],
  [(4, 37, 2, 0, 0, []), (1, 38, 0, 0, 1, []), (47, 39, 4, 0, 0, []), (6, 42, 0, 0, 0, []), (4, 43, 1, 0, 0, []), (4, 44, 3, 0, 0, []), (92, 45, 289, 3, 4, [(125305269, 11)]), (56, 48, 5, 0, 0, [])],
  [(6, 51, 0, 0, 0, []), (4, 52, 1, 0, 0, []), (4, 53, 3, 0, 0, []), (92, 54, 291, 3, 4, [(126091707, 11)]), (57, 57, 5, 0, 0, [])],
  [(95, 57, 0, 0, 0, [])]]
/-! 293: EngraversHouseModel.trace:(I)I -/
set_option maxRecDepth 100000 in
noncomputable def zb293 : List (List zMI) := [
  [(4, 0, 1, 0, 0, []), (42, 1, 1, 0, 0, []), (4, 4, 1, 0, 0, []), (6, 5, 0, 0, 0, []), (60, 6, 11, 76, 90505628, []), (49, 9, 1, 0, 0, []), (4, 12, 1, 0, 0, []), (1, 13, 0, 0, 20, []), (49, 15, 1, 0, 0, []), (6, 18, 0, 0, 0, []), (61, 19, 11, 77, 90570946, []), (4, 22, 1, 0, 0, []), (65, 23, 0, 0, 0, []), (56, 24, 2, 0, 0, [])],
  [(1, 27, 0, 0, (-1), []), (57, 28, 2, 0, 0, [])],
  [(95, 28, 0, 0, 0, [])]]
/-! 294: EngraversHouseModel.taken:(II)I -/
set_option maxRecDepth 100000 in
noncomputable def zb294 : List (List zMI) := [
  [(4, 0, 2, 0, 0, []), (1, 1, 0, 0, 0, []), (1, 2, 0, 0, 7, []), (90, 4, 196, 3, 3, [(101974025, 11)]), (41, 7, 1, 0, 0, []), (1, 10, 0, 0, (-2), []), (95, 12, 0, 0, 0, [])],
  [(6, 13, 0, 0, 0, []), (4, 14, 1, 0, 0, []), (92, 15, 199, 2, 2, [(103940332, 11)]), (41, 18, 2, 0, 0, []), (1, 21, 0, 0, (-11), []), (95, 23, 0, 0, 0, [])],
  [(6, 24, 0, 0, 0, []), (61, 25, 11, 3, 85721107, []), (4, 28, 1, 0, 0, []), (65, 29, 0, 0, 0, []), (4, 30, 2, 0, 0, []), (90, 31, 200, 2, 2, [(125108649, 11)]), (40, 34, 3, 0, 0, []), (6, 37, 0, 0, 0, []), (61, 38, 11, 3, 85721107, []), (4, 41, 1, 0, 0, []), (65, 42, 0, 0, 0, []), (56, 43, 4, 0, 0, [])],
  [(1, 46, 0, 0, (-12), []), (57, 48, 4, 0, 0, [])],
  [(95, 48, 0, 0, 0, [])]]
/-! 295: EngraversHouseModel.count:(I)I -/
set_option maxRecDepth 100000 in
noncomputable def zb295 : List (List zMI) := [
  [(4, 0, 1, 0, 0, []), (58, 1, 10, 0, 0, [(0, 1), (1, 2), (2, 3), (3, 4), (4, 5), (5, 6), (6, 7), (7, 8), (8, 9)])],
  [(6, 52, 0, 0, 0, []), (60, 53, 11, 1, 85590234, []), (95, 56, 0, 0, 0, [])],
  [(6, 57, 0, 0, 0, []), (60, 58, 11, 8, 86048989, []), (95, 61, 0, 0, 0, [])],
  [(6, 62, 0, 0, 0, []), (60, 63, 11, 2, 85655767, []), (95, 66, 0, 0, 0, [])],
  [(6, 67, 0, 0, 0, []), (60, 68, 11, 44, 88408424, []), (95, 71, 0, 0, 0, [])],
  [(6, 72, 0, 0, 0, []), (60, 73, 11, 43, 88342838, []), (95, 76, 0, 0, 0, [])],
  [(6, 77, 0, 0, 0, []), (60, 78, 11, 24, 87097636, []), (95, 81, 0, 0, 0, [])],
  [(6, 82, 0, 0, 0, []), (60, 83, 11, 65, 89784712, []), (95, 86, 0, 0, 0, [])],
  [(6, 87, 0, 0, 0, []), (60, 88, 11, 70, 90112398, []), (95, 91, 0, 0, 0, [])],
  [(6, 92, 0, 0, 0, []), (60, 93, 11, 76, 90505628, []), (95, 96, 0, 0, 0, [])],
  [(1, 97, 0, 0, (-2), []), (95, 99, 0, 0, 0, [])]]
/-! 296: EngraversHouseModel.isTape:(I)Z -/
set_option maxRecDepth 100000 in
noncomputable def zb296 : List (List zMI) := [
  [(4, 0, 0, 0, 0, []), (1, 1, 0, 0, 0, []), (1, 2, 0, 0, 5, []), (90, 3, 196, 3, 3, [(101974025, 11)]), (96, 6, 0, 0, 0, [])]]
/-! 297: EngraversHouseModel.tape:(III)I -/
set_option maxRecDepth 100000 in
noncomputable def zb297 : List (List zMI) := [
  [(4, 0, 1, 0, 0, []), (90, 1, 296, 1, 1, [(127664574, 11)]), (41, 4, 1, 0, 0, []), (1, 7, 0, 0, (-1), []), (95, 8, 0, 0, 0, [])],
  [(4, 9, 2, 0, 0, []), (1, 10, 0, 0, (-1), []), (1, 11, 0, 0, 3, []), (90, 12, 196, 3, 3, [(101974025, 11)]), (40, 15, 2, 0, 0, []), (4, 18, 2, 0, 0, []), (42, 19, 3, 0, 0, []), (4, 22, 3, 0, 0, []), (1, 23, 0, 0, 60, []), (51, 25, 3, 0, 0, []), (57, 28, 2, 0, 0, [])],
  [(1, 28, 0, 0, (-2), []), (95, 30, 0, 0, 0, [])],
  [(4, 31, 2, 0, 0, []), (42, 32, 4, 0, 0, []), (4, 35, 3, 0, 0, []), (43, 36, 4, 0, 0, []), (1, 39, 0, 0, (-14), []), (95, 41, 0, 0, 0, [])],
  [(6, 42, 0, 0, 0, []), (61, 43, 11, 78, 90636485, []), (4, 46, 1, 0, 0, []), (4, 47, 2, 0, 0, []), (68, 48, 0, 0, 0, []), (6, 49, 0, 0, 0, []), (61, 50, 11, 79, 90702024, []), (4, 53, 1, 0, 0, []), (4, 54, 2, 0, 0, []), (43, 55, 5, 0, 0, []), (1, 58, 0, 0, 0, []), (56, 59, 6, 0, 0, [])],
  [(4, 62, 3, 0, 0, []), (57, 63, 6, 0, 0, [])],
  [(68, 63, 0, 0, 0, []), (1, 64, 0, 0, 60, []), (4, 66, 1, 0, 0, []), (13, 67, 0, 0, 0, []), (7, 68, 4, 0, 0, []), (57, 70, 7, 0, 0, [])],
  [(4, 70, 4, 0, 0, []), (1, 72, 0, 0, 60, []), (4, 74, 1, 0, 0, []), (13, 75, 0, 0, 0, []), (1, 76, 0, 0, 60, []), (11, 78, 0, 0, 0, []), (49, 79, 8, 0, 0, []), (6, 82, 0, 0, 0, []), (61, 83, 11, 80, 90767563, []), (4, 86, 4, 0, 0, []), (1, 88, 0, 0, 0, []), (68, 89, 0, 0, 0, []), (10, 90, 4, 0, 1, []), (56, 93, 7, 0, 0, [])],
  [(1, 96, 0, 0, 1, []), (95, 97, 0, 0, 0, [])]]
/-! 298: EngraversHouseModel.item:(III)I -/
set_option maxRecDepth 100000 in
noncomputable def zb298 : List (List zMI) := [
  [(4, 0, 1, 0, 0, []), (90, 1, 296, 1, 1, [(127664574, 11)]), (41, 4, 1, 0, 0, []), (1, 7, 0, 0, (-1), []), (95, 8, 0, 0, 0, [])],
  [(6, 9, 0, 0, 0, []), (61, 10, 11, 78, 90636485, []), (4, 13, 1, 0, 0, []), (65, 14, 0, 0, 0, []), (43, 15, 2, 0, 0, []), (1, 18, 0, 0, (-11), []), (95, 20, 0, 0, 0, [])],
  [(4, 21, 2, 0, 0, []), (1, 22, 0, 0, 0, []), (6, 23, 0, 0, 0, []), (61, 24, 11, 79, 90702024, []), (4, 27, 1, 0, 0, []), (65, 28, 0, 0, 0, []), (1, 29, 0, 0, 1, []), (12, 30, 0, 0, 0, []), (90, 31, 196, 3, 3, [(101974025, 11)]), (41, 34, 3, 0, 0, []), (1, 37, 0, 0, (-13), []), (95, 39, 0, 0, 0, [])],
  [(6, 40, 0, 0, 0, []), (61, 41, 11, 80, 90767563, []), (1, 44, 0, 0, 60, []), (4, 46, 1, 0, 0, []), (13, 47, 0, 0, 0, []), (4, 48, 2, 0, 0, []), (11, 49, 0, 0, 0, []), (6, 50, 0, 0, 0, []), (61, 51, 11, 78, 90636485, []), (4, 54, 1, 0, 0, []), (65, 55, 0, 0, 0, []), (41, 56, 4, 0, 0, []), (4, 59, 3, 0, 0, []), (25, 60, 0, 0, 0, []), (56, 61, 8, 0, 0, [])],
  [(6, 64, 0, 0, 0, []), (61, 65, 11, 78, 90636485, []), (4, 68, 1, 0, 0, []), (65, 69, 0, 0, 0, []), (1, 70, 0, 0, 1, []), (47, 71, 5, 0, 0, []), (4, 74, 3, 0, 0, []), (26, 75, 0, 0, 0, []), (56, 76, 8, 0, 0, [])],
  [(6, 79, 0, 0, 0, []), (61, 80, 11, 78, 90636485, []), (4, 83, 1, 0, 0, []), (65, 84, 0, 0, 0, []), (1, 85, 0, 0, 2, []), (47, 86, 6, 0, 0, []), (4, 89, 3, 0, 0, []), (56, 90, 8, 0, 0, [])],
  [(4, 93, 3, 0, 0, []), (40, 94, 7, 0, 0, []), (1, 97, 0, 0, 1, []), (56, 98, 8, 0, 0, [])],
  [(1, 101, 0, 0, 0, []), (57, 102, 8, 0, 0, [])],
  [(68, 102, 0, 0, 0, []), (1, 103, 0, 0, 1, []), (95, 104, 0, 0, 0, [])]]
/-! 299: EngraversHouseModel.read:(II)J -/
set_option maxRecDepth 100000 in
noncomputable def zb299 : List (List zMI) := [
  [(4, 0, 1, 0, 0, []), (90, 1, 296, 1, 1, [(127664574, 11)]), (40, 4, 1, 0, 0, []), (6, 7, 0, 0, 0, []), (61, 8, 11, 78, 90636485, []), (4, 11, 1, 0, 0, []), (65, 12, 0, 0, 0, []), (42, 13, 1, 0, 0, []), (4, 16, 2, 0, 0, []), (1, 17, 0, 0, 0, []), (6, 18, 0, 0, 0, []), (61, 19, 11, 79, 90702024, []), (4, 22, 1, 0, 0, []), (65, 23, 0, 0, 0, []), (1, 24, 0, 0, 1, []), (12, 25, 0, 0, 0, []), (90, 26, 196, 3, 3, [(101974025, 11)]), (40, 29, 1, 0, 0, []), (6, 32, 0, 0, 0, []), (61, 33, 11, 80, 90767563, []), (1, 36, 0, 0, 60, []), (4, 38, 1, 0, 0, []), (13, 39, 0, 0, 0, []), (4, 40, 2, 0, 0, []), (11, 41, 0, 0, 0, []), (65, 42, 0, 0, 0, []), (23, 43, 0, 0, 0, []), (56, 44, 2, 0, 0, [])],
  [(2, 47, 0, 123470234, (-9223372036854775808), []), (57, 50, 2, 0, 0, [])],
  [(99, 50, 0, 0, 0, [])]]
/-! 300: EngraversHouseModel.shift:(IIIII)I -/
set_option maxRecDepth 100000 in
noncomputable def zb300 : List (List zMI) := [
  [(4, 0, 1, 0, 0, []), (90, 1, 296, 1, 1, [(127664574, 11)]), (40, 4, 1, 0, 0, []), (4, 7, 3, 0, 0, []), (90, 8, 296, 1, 1, [(127664574, 11)]), (41, 11, 2, 0, 0, []), (57, 14, 1, 0, 0, [])],
  [(1, 14, 0, 0, (-1), []), (95, 15, 0, 0, 0, [])],
  [(6, 16, 0, 0, 0, []), (61, 17, 11, 78, 90636485, []), (4, 20, 1, 0, 0, []), (65, 21, 0, 0, 0, []), (42, 22, 3, 0, 0, []), (6, 25, 0, 0, 0, []), (61, 26, 11, 78, 90636485, []), (4, 29, 3, 0, 0, []), (65, 30, 0, 0, 0, []), (43, 31, 4, 0, 0, []), (57, 34, 3, 0, 0, [])],
  [(1, 34, 0, 0, (-11), []), (95, 36, 0, 0, 0, [])],
  [(6, 37, 0, 0, 0, []), (61, 38, 11, 78, 90636485, []), (4, 41, 1, 0, 0, []), (65, 42, 0, 0, 0, []), (6, 43, 0, 0, 0, []), (61, 44, 11, 78, 90636485, []), (4, 47, 3, 0, 0, []), (65, 48, 0, 0, 0, []), (46, 49, 5, 0, 0, []), (1, 52, 0, 0, (-12), []), (95, 54, 0, 0, 0, [])],
  [(4, 55, 5, 0, 0, []), (42, 57, 6, 0, 0, []), (4, 60, 2, 0, 0, []), (42, 61, 6, 0, 0, []), (4, 64, 4, 0, 0, []), (42, 66, 6, 0, 0, []), (4, 69, 2, 0, 0, []), (6, 70, 0, 0, 0, []), (61, 71, 11, 79, 90702024, []), (4, 74, 1, 0, 0, []), (65, 75, 0, 0, 0, []), (4, 76, 5, 0, 0, []), (12, 78, 0, 0, 0, []), (50, 79, 6, 0, 0, []), (4, 82, 4, 0, 0, []), (6, 84, 0, 0, 0, []), (61, 85, 11, 79, 90702024, []), (4, 88, 3, 0, 0, []), (65, 89, 0, 0, 0, []), (4, 90, 5, 0, 0, []), (12, 92, 0, 0, 0, []), (51, 93, 7, 0, 0, []), (57, 96, 6, 0, 0, [])],
  [(1, 96, 0, 0, (-13), []), (95, 98, 0, 0, 0, [])],
  [(1, 99, 0, 0, 0, []), (7, 100, 6, 0, 0, []), (57, 102, 8, 0, 0, [])],
  [(4, 102, 6, 0, 0, []), (4, 104, 5, 0, 0, []), (49, 106, 9, 0, 0, []), (6, 109, 0, 0, 0, []), (61, 110, 11, 81, 90833102, []), (4, 113, 6, 0, 0, []), (6, 115, 0, 0, 0, []), (61, 116, 11, 80, 90767563, []), (1, 119, 0, 0, 60, []), (4, 121, 1, 0, 0, []), (13, 122, 0, 0, 0, []), (4, 123, 2, 0, 0, []), (11, 124, 0, 0, 0, []), (4, 125, 6, 0, 0, []), (11, 127, 0, 0, 0, []), (65, 128, 0, 0, 0, []), (68, 129, 0, 0, 0, []), (10, 130, 6, 0, 1, []), (56, 133, 8, 0, 0, [])],
  [(1, 136, 0, 0, 0, []), (7, 137, 6, 0, 0, []), (57, 139, 10, 0, 0, [])],
  [(4, 139, 6, 0, 0, []), (4, 141, 5, 0, 0, []), (49, 143, 11, 0, 0, []), (6, 146, 0, 0, 0, []), (61, 147, 11, 80, 90767563, []), (1, 150, 0, 0, 60, []), (4, 152, 3, 0, 0, []), (13, 153, 0, 0, 0, []), (4, 154, 4, 0, 0, []), (11, 156, 0, 0, 0, []), (4, 157, 6, 0, 0, []), (11, 159, 0, 0, 0, []), (6, 160, 0, 0, 0, []), (61, 161, 11, 81, 90833102, []), (4, 164, 6, 0, 0, []), (65, 166, 0, 0, 0, []), (68, 167, 0, 0, 0, []), (10, 168, 6, 0, 1, []), (56, 171, 10, 0, 0, [])],
  [(4, 174, 5, 0, 0, []), (95, 176, 0, 0, 0, [])]]
/-! 301: EngraversHouseLaw.law:([I)Z -/
set_option maxRecDepth 100000 in
noncomputable def zb301 : List (List zMI) := [
  [(73, 0, 10, 20, 1507335, []), (33, 3, 0, 0, 0, []), (91, 4, 19, 1, 1, [(1638409, 10)]), (9, 7, 1, 0, 0, []), (73, 8, 11, 82, 85131274, []), (33, 11, 0, 0, 0, []), (91, 12, 198, 1, 3, [(85262348, 11)]), (9, 15, 2, 0, 0, []), (1, 16, 0, 0, 0, []), (7, 17, 3, 0, 0, []), (57, 18, 1, 0, 0, [])],
  [(4, 18, 3, 0, 0, []), (6, 19, 0, 0, 0, []), (72, 20, 0, 0, 0, []), (1, 21, 0, 0, 8, []), (12, 23, 0, 0, 0, []), (50, 24, 52, 0, 0, []), (6, 27, 0, 0, 0, []), (4, 28, 3, 0, 0, []), (65, 29, 0, 0, 0, []), (1, 30, 0, 0, 63, []), (20, 32, 0, 0, 0, []), (58, 33, 51, 0, 0, [(0, 2), (1, 3), (2, 4), (3, 5), (4, 6), (5, 7), (6, 8), (7, 9), (8, 10), (9, 11), (10, 12), (11, 13), (12, 14), (13, 15), (14, 16), (15, 17), (16, 18), (17, 19), (18, 20), (19, 21), (20, 22), (21, 23), (22, 24), (23, 25), (24, 26), (25, 27), (26, 28), (27, 29), (28, 30), (29, 31), (30, 32), (31, 33), (32, 34), (33, 35), (34, 36), (35, 37), (36, 38), (37, 39), (38, 40), (39, 41), (40, 42), (41, 43), (42, 44), (43, 45), (44, 46), (45, 47), (46, 48), (47, 49), (48, 50)])],
  [(6, 244, 1, 0, 0, []), (6, 245, 0, 0, 0, []), (4, 246, 3, 0, 0, []), (1, 247, 0, 0, 1, []), (11, 248, 0, 0, 0, []), (65, 249, 0, 0, 0, []), (92, 250, 21, 2, 2, [(13565965, 10)]), (6, 253, 2, 0, 0, []), (6, 254, 0, 0, 0, []), (4, 255, 3, 0, 0, []), (1, 256, 0, 0, 1, []), (11, 257, 0, 0, 0, []), (65, 258, 0, 0, 0, []), (92, 259, 204, 2, 2, [(101711889, 11)]), (46, 262, 51, 0, 0, []), (1, 265, 0, 0, 0, []), (96, 266, 0, 0, 0, [])],
  [(6, 267, 1, 0, 0, []), (92, 268, 22, 1, 1, [(14024722, 10)]), (6, 271, 2, 0, 0, []), (92, 272, 206, 1, 1, [(102170646, 11)]), (46, 275, 51, 0, 0, []), (1, 278, 0, 0, 0, []), (96, 279, 0, 0, 0, [])],
  [(6, 280, 1, 0, 0, []), (6, 281, 0, 0, 0, []), (4, 282, 3, 0, 0, []), (1, 283, 0, 0, 1, []), (11, 284, 0, 0, 0, []), (65, 285, 0, 0, 0, []), (6, 286, 0, 0, 0, []), (4, 287, 3, 0, 0, []), (1, 288, 0, 0, 2, []), (11, 289, 0, 0, 0, []), (65, 290, 0, 0, 0, []), (92, 291, 24, 3, 3, [(14286871, 10)]), (6, 294, 2, 0, 0, []), (6, 295, 0, 0, 0, []), (4, 296, 3, 0, 0, []), (1, 297, 0, 0, 1, []), (11, 298, 0, 0, 0, []), (65, 299, 0, 0, 0, []), (6, 300, 0, 0, 0, []), (4, 301, 3, 0, 0, []), (1, 302, 0, 0, 2, []), (11, 303, 0, 0, 0, []), (65, 304, 0, 0, 0, []), (92, 305, 207, 3, 3, [(102432795, 11)]), (46, 308, 51, 0, 0, []), (1, 311, 0, 0, 0, []), (96, 312, 0, 0, 0, [])],
  [(6, 313, 1, 0, 0, []), (6, 314, 0, 0, 0, []), (4, 315, 3, 0, 0, []), (1, 316, 0, 0, 1, []), (11, 317, 0, 0, 0, []), (65, 318, 0, 0, 0, []), (6, 319, 0, 0, 0, []), (4, 320, 3, 0, 0, []), (1, 321, 0, 0, 2, []), (11, 322, 0, 0, 0, []), (65, 323, 0, 0, 0, []), (6, 324, 0, 0, 0, []), (4, 325, 3, 0, 0, []), (1, 326, 0, 0, 3, []), (11, 327, 0, 0, 0, []), (65, 328, 0, 0, 0, []), (92, 329, 29, 4, 4, [(14811164, 10)]), (6, 332, 2, 0, 0, []), (6, 333, 0, 0, 0, []), (4, 334, 3, 0, 0, []), (1, 335, 0, 0, 1, []), (11, 336, 0, 0, 0, []), (65, 337, 0, 0, 0, []), (6, 338, 0, 0, 0, []), (4, 339, 3, 0, 0, []), (1, 340, 0, 0, 2, []), (11, 341, 0, 0, 0, []), (65, 342, 0, 0, 0, []), (6, 343, 0, 0, 0, []), (4, 344, 3, 0, 0, []), (1, 345, 0, 0, 3, []), (11, 346, 0, 0, 0, []), (65, 347, 0, 0, 0, []), (92, 348, 209, 4, 5, [(102957088, 11)]), (46, 351, 51, 0, 0, []), (1, 354, 0, 0, 0, []), (96, 355, 0, 0, 0, [])],
  [(6, 356, 1, 0, 0, []), (6, 357, 0, 0, 0, []), (4, 358, 3, 0, 0, []), (1, 359, 0, 0, 1, []), (11, 360, 0, 0, 0, []), (65, 361, 0, 0, 0, []), (6, 362, 0, 0, 0, []), (4, 363, 3, 0, 0, []), (1, 364, 0, 0, 2, []), (11, 365, 0, 0, 0, []), (65, 366, 0, 0, 0, []), (6, 367, 0, 0, 0, []), (4, 368, 3, 0, 0, []), (1, 369, 0, 0, 3, []), (11, 370, 0, 0, 0, []), (65, 371, 0, 0, 0, []), (6, 372, 0, 0, 0, []), (4, 373, 3, 0, 0, []), (1, 374, 0, 0, 4, []), (11, 375, 0, 0, 0, []), (65, 376, 0, 0, 0, []), (92, 377, 33, 5, 6, [(19005473, 10)]), (6, 380, 2, 0, 0, []), (6, 381, 0, 0, 0, []), (4, 382, 3, 0, 0, []), (1, 383, 0, 0, 1, []), (11, 384, 0, 0, 0, []), (65, 385, 0, 0, 0, []), (6, 386, 0, 0, 0, []), (4, 387, 3, 0, 0, []), (1, 388, 0, 0, 2, []), (11, 389, 0, 0, 0, []), (65, 390, 0, 0, 0, []), (6, 391, 0, 0, 0, []), (4, 392, 3, 0, 0, []), (1, 393, 0, 0, 3, []), (11, 394, 0, 0, 0, []), (65, 395, 0, 0, 0, []), (6, 396, 0, 0, 0, []), (4, 397, 3, 0, 0, []), (1, 398, 0, 0, 4, []), (11, 399, 0, 0, 0, []), (65, 400, 0, 0, 0, []), (92, 401, 210, 5, 6, [(103677989, 11)]), (46, 404, 51, 0, 0, []), (1, 407, 0, 0, 0, []), (96, 408, 0, 0, 0, [])],
  [(6, 409, 1, 0, 0, []), (6, 410, 0, 0, 0, []), (4, 411, 3, 0, 0, []), (1, 412, 0, 0, 1, []), (11, 413, 0, 0, 0, []), (65, 414, 0, 0, 0, []), (6, 415, 0, 0, 0, []), (4, 416, 3, 0, 0, []), (1, 417, 0, 0, 2, []), (11, 418, 0, 0, 0, []), (65, 419, 0, 0, 0, []), (6, 420, 0, 0, 0, []), (4, 421, 3, 0, 0, []), (1, 422, 0, 0, 3, []), (11, 423, 0, 0, 0, []), (65, 424, 0, 0, 0, []), (6, 425, 0, 0, 0, []), (4, 426, 3, 0, 0, []), (1, 427, 0, 0, 4, []), (11, 428, 0, 0, 0, []), (65, 429, 0, 0, 0, []), (6, 430, 0, 0, 0, []), (4, 431, 3, 0, 0, []), (1, 432, 0, 0, 5, []), (11, 433, 0, 0, 0, []), (65, 434, 0, 0, 0, []), (92, 435, 45, 6, 8, [(20054054, 10)]), (6, 438, 2, 0, 0, []), (6, 439, 0, 0, 0, []), (4, 440, 3, 0, 0, []), (1, 441, 0, 0, 1, []), (11, 442, 0, 0, 0, []), (65, 443, 0, 0, 0, []), (6, 444, 0, 0, 0, []), (4, 445, 3, 0, 0, []), (1, 446, 0, 0, 2, []), (11, 447, 0, 0, 0, []), (65, 448, 0, 0, 0, []), (6, 449, 0, 0, 0, []), (4, 450, 3, 0, 0, []), (1, 451, 0, 0, 3, []), (11, 452, 0, 0, 0, []), (65, 453, 0, 0, 0, []), (6, 454, 0, 0, 0, []), (4, 455, 3, 0, 0, []), (1, 456, 0, 0, 4, []), (11, 457, 0, 0, 0, []), (65, 458, 0, 0, 0, []), (6, 459, 0, 0, 0, []), (4, 460, 3, 0, 0, []), (1, 461, 0, 0, 5, []), (11, 462, 0, 0, 0, []), (65, 463, 0, 0, 0, []), (92, 464, 216, 6, 7, [(104464426, 11)]), (46, 467, 51, 0, 0, []), (1, 470, 0, 0, 0, []), (96, 471, 0, 0, 0, [])],
  [(6, 472, 1, 0, 0, []), (6, 473, 0, 0, 0, []), (4, 474, 3, 0, 0, []), (1, 475, 0, 0, 1, []), (11, 476, 0, 0, 0, []), (65, 477, 0, 0, 0, []), (6, 478, 0, 0, 0, []), (4, 479, 3, 0, 0, []), (1, 480, 0, 0, 2, []), (11, 481, 0, 0, 0, []), (65, 482, 0, 0, 0, []), (6, 483, 0, 0, 0, []), (4, 484, 3, 0, 0, []), (1, 485, 0, 0, 3, []), (11, 486, 0, 0, 0, []), (65, 487, 0, 0, 0, []), (6, 488, 0, 0, 0, []), (4, 489, 3, 0, 0, []), (1, 490, 0, 0, 4, []), (11, 491, 0, 0, 0, []), (65, 492, 0, 0, 0, []), (6, 493, 0, 0, 0, []), (4, 494, 3, 0, 0, []), (1, 495, 0, 0, 5, []), (11, 496, 0, 0, 0, []), (65, 497, 0, 0, 0, []), (92, 498, 52, 6, 8, [(24313899, 10)]), (6, 501, 2, 0, 0, []), (6, 502, 0, 0, 0, []), (4, 503, 3, 0, 0, []), (1, 504, 0, 0, 1, []), (11, 505, 0, 0, 0, []), (65, 506, 0, 0, 0, []), (6, 507, 0, 0, 0, []), (4, 508, 3, 0, 0, []), (1, 509, 0, 0, 2, []), (11, 510, 0, 0, 0, []), (65, 511, 0, 0, 0, []), (6, 512, 0, 0, 0, []), (4, 513, 3, 0, 0, []), (1, 514, 0, 0, 3, []), (11, 515, 0, 0, 0, []), (65, 516, 0, 0, 0, []), (6, 517, 0, 0, 0, []), (4, 518, 3, 0, 0, []), (1, 519, 0, 0, 4, []), (11, 520, 0, 0, 0, []), (65, 521, 0, 0, 0, []), (6, 522, 0, 0, 0, []), (4, 523, 3, 0, 0, []), (1, 524, 0, 0, 5, []), (11, 525, 0, 0, 0, []), (65, 526, 0, 0, 0, []), (92, 527, 217, 6, 8, [(105971758, 11)]), (46, 530, 51, 0, 0, []), (1, 533, 0, 0, 0, []), (96, 534, 0, 0, 0, [])],
  [(6, 535, 1, 0, 0, []), (6, 536, 0, 0, 0, []), (4, 537, 3, 0, 0, []), (1, 538, 0, 0, 1, []), (11, 539, 0, 0, 0, []), (65, 540, 0, 0, 0, []), (6, 541, 0, 0, 0, []), (4, 542, 3, 0, 0, []), (1, 543, 0, 0, 2, []), (11, 544, 0, 0, 0, []), (65, 545, 0, 0, 0, []), (6, 546, 0, 0, 0, []), (4, 547, 3, 0, 0, []), (1, 548, 0, 0, 3, []), (11, 549, 0, 0, 0, []), (65, 550, 0, 0, 0, []), (6, 551, 0, 0, 0, []), (4, 552, 3, 0, 0, []), (1, 553, 0, 0, 4, []), (11, 554, 0, 0, 0, []), (65, 555, 0, 0, 0, []), (6, 556, 0, 0, 0, []), (4, 557, 3, 0, 0, []), (1, 558, 0, 0, 5, []), (11, 559, 0, 0, 0, []), (65, 560, 0, 0, 0, []), (92, 561, 56, 6, 8, [(25886767, 10)]), (6, 564, 2, 0, 0, []), (6, 565, 0, 0, 0, []), (4, 566, 3, 0, 0, []), (1, 567, 0, 0, 1, []), (11, 568, 0, 0, 0, []), (65, 569, 0, 0, 0, []), (6, 570, 0, 0, 0, []), (4, 571, 3, 0, 0, []), (1, 572, 0, 0, 2, []), (11, 573, 0, 0, 0, []), (65, 574, 0, 0, 0, []), (6, 575, 0, 0, 0, []), (4, 576, 3, 0, 0, []), (1, 577, 0, 0, 3, []), (11, 578, 0, 0, 0, []), (65, 579, 0, 0, 0, []), (6, 580, 0, 0, 0, []), (4, 581, 3, 0, 0, []), (1, 582, 0, 0, 4, []), (11, 583, 0, 0, 0, []), (65, 584, 0, 0, 0, []), (6, 585, 0, 0, 0, []), (4, 586, 3, 0, 0, []), (1, 587, 0, 0, 5, []), (11, 588, 0, 0, 0, []), (65, 589, 0, 0, 0, []), (92, 590, 218, 6, 12, [(106233906, 11)]), (46, 593, 51, 0, 0, []), (1, 596, 0, 0, 0, []), (96, 597, 0, 0, 0, [])],
  [(6, 598, 1, 0, 0, []), (92, 599, 57, 1, 1, [(26869811, 10)]), (6, 602, 2, 0, 0, []), (92, 603, 219, 1, 1, [(106496054, 11)]), (46, 606, 51, 0, 0, []), (1, 609, 0, 0, 0, []), (96, 610, 0, 0, 0, [])],
  [(6, 611, 1, 0, 0, []), (6, 612, 0, 0, 0, []), (4, 613, 3, 0, 0, []), (1, 614, 0, 0, 1, []), (11, 615, 0, 0, 0, []), (65, 616, 0, 0, 0, []), (6, 617, 0, 0, 0, []), (4, 618, 3, 0, 0, []), (1, 619, 0, 0, 2, []), (11, 620, 0, 0, 0, []), (65, 621, 0, 0, 0, []), (92, 622, 75, 3, 4, [(27131959, 10)]), (6, 625, 2, 0, 0, []), (6, 626, 0, 0, 0, []), (4, 627, 3, 0, 0, []), (1, 628, 0, 0, 1, []), (11, 629, 0, 0, 0, []), (65, 630, 0, 0, 0, []), (6, 631, 0, 0, 0, []), (4, 632, 3, 0, 0, []), (1, 633, 0, 0, 2, []), (11, 634, 0, 0, 0, []), (65, 635, 0, 0, 0, []), (92, 636, 222, 3, 3, [(106758202, 11)]), (46, 639, 51, 0, 0, []), (1, 642, 0, 0, 0, []), (96, 643, 0, 0, 0, [])],
  [(6, 644, 1, 0, 0, []), (6, 645, 0, 0, 0, []), (4, 646, 3, 0, 0, []), (1, 647, 0, 0, 1, []), (11, 648, 0, 0, 0, []), (65, 649, 0, 0, 0, []), (6, 650, 0, 0, 0, []), (4, 651, 3, 0, 0, []), (1, 652, 0, 0, 2, []), (11, 653, 0, 0, 0, []), (65, 654, 0, 0, 0, []), (92, 655, 76, 3, 4, [(31522875, 10)]), (6, 658, 2, 0, 0, []), (6, 659, 0, 0, 0, []), (4, 660, 3, 0, 0, []), (1, 661, 0, 0, 1, []), (11, 662, 0, 0, 0, []), (65, 663, 0, 0, 0, []), (6, 664, 0, 0, 0, []), (4, 665, 3, 0, 0, []), (1, 666, 0, 0, 2, []), (11, 667, 0, 0, 0, []), (65, 668, 0, 0, 0, []), (92, 669, 223, 3, 3, [(107544638, 11)]), (46, 672, 51, 0, 0, []), (1, 675, 0, 0, 0, []), (96, 676, 0, 0, 0, [])],
  [(6, 677, 1, 0, 0, []), (6, 678, 0, 0, 0, []), (4, 679, 3, 0, 0, []), (1, 680, 0, 0, 1, []), (11, 681, 0, 0, 0, []), (65, 682, 0, 0, 0, []), (6, 683, 0, 0, 0, []), (4, 684, 3, 0, 0, []), (1, 685, 0, 0, 2, []), (11, 686, 0, 0, 0, []), (65, 687, 0, 0, 0, []), (6, 688, 0, 0, 0, []), (4, 689, 3, 0, 0, []), (1, 690, 0, 0, 3, []), (11, 691, 0, 0, 0, []), (65, 692, 0, 0, 0, []), (92, 693, 78, 4, 5, [(31785023, 10)]), (6, 696, 2, 0, 0, []), (6, 697, 0, 0, 0, []), (4, 698, 3, 0, 0, []), (1, 699, 0, 0, 1, []), (11, 700, 0, 0, 0, []), (65, 701, 0, 0, 0, []), (6, 702, 0, 0, 0, []), (4, 703, 3, 0, 0, []), (1, 704, 0, 0, 2, []), (11, 705, 0, 0, 0, []), (65, 706, 0, 0, 0, []), (6, 707, 0, 0, 0, []), (4, 708, 3, 0, 0, []), (1, 709, 0, 0, 3, []), (11, 710, 0, 0, 0, []), (65, 711, 0, 0, 0, []), (92, 712, 226, 4, 4, [(107806786, 11)]), (46, 715, 51, 0, 0, []), (1, 718, 0, 0, 0, []), (96, 719, 0, 0, 0, [])],
  [(6, 720, 1, 0, 0, []), (6, 721, 0, 0, 0, []), (4, 722, 3, 0, 0, []), (1, 723, 0, 0, 1, []), (11, 724, 0, 0, 0, []), (65, 725, 0, 0, 0, []), (6, 726, 0, 0, 0, []), (4, 727, 3, 0, 0, []), (1, 728, 0, 0, 2, []), (11, 729, 0, 0, 0, []), (65, 730, 0, 0, 0, []), (6, 731, 0, 0, 0, []), (4, 732, 3, 0, 0, []), (1, 733, 0, 0, 3, []), (11, 734, 0, 0, 0, []), (65, 735, 0, 0, 0, []), (92, 736, 85, 4, 5, [(34275395, 10)]), (6, 739, 2, 0, 0, []), (6, 740, 0, 0, 0, []), (4, 741, 3, 0, 0, []), (1, 742, 0, 0, 1, []), (11, 743, 0, 0, 0, []), (65, 744, 0, 0, 0, []), (6, 745, 0, 0, 0, []), (4, 746, 3, 0, 0, []), (1, 747, 0, 0, 2, []), (11, 748, 0, 0, 0, []), (65, 749, 0, 0, 0, []), (6, 750, 0, 0, 0, []), (4, 751, 3, 0, 0, []), (1, 752, 0, 0, 3, []), (11, 753, 0, 0, 0, []), (65, 754, 0, 0, 0, []), (92, 755, 228, 4, 4, [(108068934, 11)]), (46, 758, 51, 0, 0, []), (1, 761, 0, 0, 0, []), (96, 762, 0, 0, 0, [])],
  [(6, 763, 1, 0, 0, []), (6, 764, 0, 0, 0, []), (4, 765, 3, 0, 0, []), (1, 766, 0, 0, 1, []), (11, 767, 0, 0, 0, []), (65, 768, 0, 0, 0, []), (6, 769, 0, 0, 0, []), (4, 770, 3, 0, 0, []), (1, 771, 0, 0, 2, []), (11, 772, 0, 0, 0, []), (65, 773, 0, 0, 0, []), (6, 774, 0, 0, 0, []), (4, 775, 3, 0, 0, []), (1, 776, 0, 0, 3, []), (11, 777, 0, 0, 0, []), (65, 778, 0, 0, 0, []), (92, 779, 89, 4, 5, [(36241479, 10)]), (6, 782, 2, 0, 0, []), (6, 783, 0, 0, 0, []), (4, 784, 3, 0, 0, []), (1, 785, 0, 0, 1, []), (11, 786, 0, 0, 0, []), (65, 787, 0, 0, 0, []), (6, 788, 0, 0, 0, []), (4, 789, 3, 0, 0, []), (1, 790, 0, 0, 2, []), (11, 791, 0, 0, 0, []), (65, 792, 0, 0, 0, []), (6, 793, 0, 0, 0, []), (4, 794, 3, 0, 0, []), (1, 795, 0, 0, 3, []), (11, 796, 0, 0, 0, []), (65, 797, 0, 0, 0, []), (92, 798, 229, 4, 8, [(109314122, 11)]), (46, 801, 51, 0, 0, []), (1, 804, 0, 0, 0, []), (96, 805, 0, 0, 0, [])],
  [(6, 806, 1, 0, 0, []), (6, 807, 0, 0, 0, []), (4, 808, 3, 0, 0, []), (1, 809, 0, 0, 1, []), (11, 810, 0, 0, 0, []), (65, 811, 0, 0, 0, []), (6, 812, 0, 0, 0, []), (4, 813, 3, 0, 0, []), (1, 814, 0, 0, 2, []), (11, 815, 0, 0, 0, []), (65, 816, 0, 0, 0, []), (6, 817, 0, 0, 0, []), (4, 818, 3, 0, 0, []), (1, 819, 0, 0, 3, []), (11, 820, 0, 0, 0, []), (65, 821, 0, 0, 0, []), (6, 822, 0, 0, 0, []), (4, 823, 3, 0, 0, []), (1, 824, 0, 0, 4, []), (11, 825, 0, 0, 0, []), (65, 826, 0, 0, 0, []), (92, 827, 92, 5, 7, [(39649355, 10)]), (6, 830, 2, 0, 0, []), (6, 831, 0, 0, 0, []), (4, 832, 3, 0, 0, []), (1, 833, 0, 0, 1, []), (11, 834, 0, 0, 0, []), (65, 835, 0, 0, 0, []), (6, 836, 0, 0, 0, []), (4, 837, 3, 0, 0, []), (1, 838, 0, 0, 2, []), (11, 839, 0, 0, 0, []), (65, 840, 0, 0, 0, []), (6, 841, 0, 0, 0, []), (4, 842, 3, 0, 0, []), (1, 843, 0, 0, 3, []), (11, 844, 0, 0, 0, []), (65, 845, 0, 0, 0, []), (6, 846, 0, 0, 0, []), (4, 847, 3, 0, 0, []), (1, 848, 0, 0, 4, []), (11, 849, 0, 0, 0, []), (65, 850, 0, 0, 0, []), (92, 851, 230, 5, 8, [(109576270, 11)]), (46, 854, 51, 0, 0, []), (1, 857, 0, 0, 0, []), (96, 858, 0, 0, 0, [])],
  [(6, 859, 1, 0, 0, []), (6, 860, 0, 0, 0, []), (4, 861, 3, 0, 0, []), (1, 862, 0, 0, 1, []), (11, 863, 0, 0, 0, []), (65, 864, 0, 0, 0, []), (6, 865, 0, 0, 0, []), (4, 866, 3, 0, 0, []), (1, 867, 0, 0, 2, []), (11, 868, 0, 0, 0, []), (65, 869, 0, 0, 0, []), (92, 870, 95, 3, 5, [(40435791, 10)]), (6, 873, 2, 0, 0, []), (6, 874, 0, 0, 0, []), (4, 875, 3, 0, 0, []), (1, 876, 0, 0, 1, []), (11, 877, 0, 0, 0, []), (65, 878, 0, 0, 0, []), (6, 879, 0, 0, 0, []), (4, 880, 3, 0, 0, []), (1, 881, 0, 0, 2, []), (11, 882, 0, 0, 0, []), (65, 883, 0, 0, 0, []), (92, 884, 234, 3, 5, [(109838418, 11)]), (46, 887, 51, 0, 0, []), (1, 890, 0, 0, 0, []), (96, 891, 0, 0, 0, [])],
  [(6, 892, 1, 0, 0, []), (6, 893, 0, 0, 0, []), (4, 894, 3, 0, 0, []), (1, 895, 0, 0, 1, []), (11, 896, 0, 0, 0, []), (65, 897, 0, 0, 0, []), (92, 898, 96, 2, 3, [(41877587, 10)]), (6, 901, 2, 0, 0, []), (6, 902, 0, 0, 0, []), (4, 903, 3, 0, 0, []), (1, 904, 0, 0, 1, []), (11, 905, 0, 0, 0, []), (65, 906, 0, 0, 0, []), (92, 907, 235, 2, 2, [(110821462, 11)]), (46, 910, 51, 0, 0, []), (1, 913, 0, 0, 0, []), (96, 914, 0, 0, 0, [])],
  [(6, 915, 1, 0, 0, []), (92, 916, 99, 1, 3, [(42139735, 10)]), (6, 919, 2, 0, 0, []), (92, 920, 236, 1, 9, [(111083610, 11)]), (46, 923, 51, 0, 0, []), (1, 926, 0, 0, 0, []), (96, 927, 0, 0, 0, [])],
  [(6, 928, 1, 0, 0, []), (6, 929, 0, 0, 0, []), (4, 930, 3, 0, 0, []), (1, 931, 0, 0, 1, []), (11, 932, 0, 0, 0, []), (65, 933, 0, 0, 0, []), (6, 934, 0, 0, 0, []), (4, 935, 3, 0, 0, []), (1, 936, 0, 0, 2, []), (11, 937, 0, 0, 0, []), (65, 938, 0, 0, 0, []), (6, 939, 0, 0, 0, []), (4, 940, 3, 0, 0, []), (1, 941, 0, 0, 3, []), (11, 942, 0, 0, 0, []), (65, 943, 0, 0, 0, []), (6, 944, 0, 0, 0, []), (4, 945, 3, 0, 0, []), (1, 946, 0, 0, 4, []), (11, 947, 0, 0, 0, []), (65, 948, 0, 0, 0, []), (6, 949, 0, 0, 0, []), (4, 950, 3, 0, 0, []), (1, 951, 0, 0, 5, []), (11, 952, 0, 0, 0, []), (65, 953, 0, 0, 0, []), (92, 954, 105, 6, 9, [(46006363, 10)]), (6, 957, 2, 0, 0, []), (6, 958, 0, 0, 0, []), (4, 959, 3, 0, 0, []), (1, 960, 0, 0, 1, []), (11, 961, 0, 0, 0, []), (65, 962, 0, 0, 0, []), (6, 963, 0, 0, 0, []), (4, 964, 3, 0, 0, []), (1, 965, 0, 0, 2, []), (11, 966, 0, 0, 0, []), (65, 967, 0, 0, 0, []), (6, 968, 0, 0, 0, []), (4, 969, 3, 0, 0, []), (1, 970, 0, 0, 3, []), (11, 971, 0, 0, 0, []), (65, 972, 0, 0, 0, []), (6, 973, 0, 0, 0, []), (4, 974, 3, 0, 0, []), (1, 975, 0, 0, 4, []), (11, 976, 0, 0, 0, []), (65, 977, 0, 0, 0, []), (6, 978, 0, 0, 0, []), (4, 979, 3, 0, 0, []), (1, 980, 0, 0, 5, []), (11, 981, 0, 0, 0, []), (65, 982, 0, 0, 0, []), (92, 983, 239, 6, 7, [(111345758, 11)]), (46, 986, 51, 0, 0, []), (1, 989, 0, 0, 0, []), (96, 990, 0, 0, 0, [])],
  [(6, 991, 1, 0, 0, []), (6, 992, 0, 0, 0, []), (4, 993, 3, 0, 0, []), (1, 994, 0, 0, 1, []), (11, 995, 0, 0, 0, []), (65, 996, 0, 0, 0, []), (6, 997, 0, 0, 0, []), (4, 998, 3, 0, 0, []), (1, 999, 0, 0, 2, []), (11, 1000, 0, 0, 0, []), (65, 1001, 0, 0, 0, []), (6, 1002, 0, 0, 0, []), (4, 1003, 3, 0, 0, []), (1, 1004, 0, 0, 3, []), (11, 1005, 0, 0, 0, []), (65, 1006, 0, 0, 0, []), (6, 1007, 0, 0, 0, []), (4, 1008, 3, 0, 0, []), (1, 1009, 0, 0, 4, []), (11, 1010, 0, 0, 0, []), (65, 1011, 0, 0, 0, []), (6, 1012, 0, 0, 0, []), (4, 1013, 3, 0, 0, []), (1, 1014, 0, 0, 5, []), (11, 1015, 0, 0, 0, []), (65, 1016, 0, 0, 0, []), (6, 1017, 0, 0, 0, []), (4, 1018, 3, 0, 0, []), (1, 1019, 0, 0, 6, []), (11, 1021, 0, 0, 0, []), (65, 1022, 0, 0, 0, []), (92, 1023, 107, 7, 9, [(47579231, 10)]), (6, 1026, 2, 0, 0, []), (6, 1027, 0, 0, 0, []), (4, 1028, 3, 0, 0, []), (1, 1029, 0, 0, 1, []), (11, 1030, 0, 0, 0, []), (65, 1031, 0, 0, 0, []), (6, 1032, 0, 0, 0, []), (4, 1033, 3, 0, 0, []), (1, 1034, 0, 0, 2, []), (11, 1035, 0, 0, 0, []), (65, 1036, 0, 0, 0, []), (6, 1037, 0, 0, 0, []), (4, 1038, 3, 0, 0, []), (1, 1039, 0, 0, 3, []), (11, 1040, 0, 0, 0, []), (65, 1041, 0, 0, 0, []), (6, 1042, 0, 0, 0, []), (4, 1043, 3, 0, 0, []), (1, 1044, 0, 0, 4, []), (11, 1045, 0, 0, 0, []), (65, 1046, 0, 0, 0, []), (6, 1047, 0, 0, 0, []), (4, 1048, 3, 0, 0, []), (1, 1049, 0, 0, 5, []), (11, 1050, 0, 0, 0, []), (65, 1051, 0, 0, 0, []), (6, 1052, 0, 0, 0, []), (4, 1053, 3, 0, 0, []), (1, 1054, 0, 0, 6, []), (11, 1056, 0, 0, 0, []), (65, 1057, 0, 0, 0, []), (92, 1058, 240, 7, 8, [(112132195, 11)]), (46, 1061, 51, 0, 0, []), (1, 1064, 0, 0, 0, []), (96, 1065, 0, 0, 0, [])],
  [(6, 1066, 1, 0, 0, []), (6, 1067, 0, 0, 0, []), (4, 1068, 3, 0, 0, []), (1, 1069, 0, 0, 1, []), (11, 1070, 0, 0, 0, []), (65, 1071, 0, 0, 0, []), (92, 1072, 109, 2, 4, [(49414244, 10)]), (6, 1075, 2, 0, 0, []), (6, 1076, 0, 0, 0, []), (4, 1077, 3, 0, 0, []), (1, 1078, 0, 0, 1, []), (11, 1079, 0, 0, 0, []), (65, 1080, 0, 0, 0, []), (92, 1081, 241, 2, 3, [(112394343, 11)]), (46, 1084, 51, 0, 0, []), (1, 1087, 0, 0, 0, []), (96, 1088, 0, 0, 0, [])],
  [(6, 1089, 1, 0, 0, []), (6, 1090, 0, 0, 0, []), (4, 1091, 3, 0, 0, []), (1, 1092, 0, 0, 1, []), (11, 1093, 0, 0, 0, []), (65, 1094, 0, 0, 0, []), (6, 1095, 0, 0, 0, []), (4, 1096, 3, 0, 0, []), (1, 1097, 0, 0, 2, []), (11, 1098, 0, 0, 0, []), (65, 1099, 0, 0, 0, []), (6, 1100, 0, 0, 0, []), (4, 1101, 3, 0, 0, []), (1, 1102, 0, 0, 3, []), (11, 1103, 0, 0, 0, []), (65, 1104, 0, 0, 0, []), (92, 1105, 113, 4, 6, [(50069608, 10)]), (6, 1108, 2, 0, 0, []), (6, 1109, 0, 0, 0, []), (4, 1110, 3, 0, 0, []), (1, 1111, 0, 0, 1, []), (11, 1112, 0, 0, 0, []), (65, 1113, 0, 0, 0, []), (6, 1114, 0, 0, 0, []), (4, 1115, 3, 0, 0, []), (1, 1116, 0, 0, 2, []), (11, 1117, 0, 0, 0, []), (65, 1118, 0, 0, 0, []), (6, 1119, 0, 0, 0, []), (4, 1120, 3, 0, 0, []), (1, 1121, 0, 0, 3, []), (11, 1122, 0, 0, 0, []), (65, 1123, 0, 0, 0, []), (92, 1124, 245, 4, 4, [(112656491, 11)]), (46, 1127, 51, 0, 0, []), (1, 1130, 0, 0, 0, []), (96, 1131, 0, 0, 0, [])],
  [(6, 1132, 1, 0, 0, []), (6, 1133, 0, 0, 0, []), (4, 1134, 3, 0, 0, []), (1, 1135, 0, 0, 1, []), (11, 1136, 0, 0, 0, []), (65, 1137, 0, 0, 0, []), (92, 1138, 117, 2, 3, [(51380332, 10)]), (6, 1141, 2, 0, 0, []), (6, 1142, 0, 0, 0, []), (4, 1143, 3, 0, 0, []), (1, 1144, 0, 0, 1, []), (11, 1145, 0, 0, 0, []), (65, 1146, 0, 0, 0, []), (92, 1147, 246, 2, 9, [(113705071, 11)]), (46, 1150, 51, 0, 0, []), (1, 1153, 0, 0, 0, []), (96, 1154, 0, 0, 0, [])],
  [(6, 1155, 1, 0, 0, []), (6, 1156, 0, 0, 0, []), (4, 1157, 3, 0, 0, []), (1, 1158, 0, 0, 1, []), (11, 1159, 0, 0, 0, []), (65, 1160, 0, 0, 0, []), (6, 1161, 0, 0, 0, []), (4, 1162, 3, 0, 0, []), (1, 1163, 0, 0, 2, []), (11, 1164, 0, 0, 0, []), (65, 1165, 0, 0, 0, []), (6, 1166, 0, 0, 0, []), (4, 1167, 3, 0, 0, []), (1, 1168, 0, 0, 3, []), (11, 1169, 0, 0, 0, []), (65, 1170, 0, 0, 0, []), (6, 1171, 0, 0, 0, []), (4, 1172, 3, 0, 0, []), (1, 1173, 0, 0, 4, []), (11, 1174, 0, 0, 0, []), (65, 1175, 0, 0, 0, []), (92, 1176, 128, 5, 6, [(52494448, 10)]), (6, 1179, 2, 0, 0, []), (6, 1180, 0, 0, 0, []), (4, 1181, 3, 0, 0, []), (1, 1182, 0, 0, 1, []), (11, 1183, 0, 0, 0, []), (65, 1184, 0, 0, 0, []), (6, 1185, 0, 0, 0, []), (4, 1186, 3, 0, 0, []), (1, 1187, 0, 0, 2, []), (11, 1188, 0, 0, 0, []), (65, 1189, 0, 0, 0, []), (6, 1190, 0, 0, 0, []), (4, 1191, 3, 0, 0, []), (1, 1192, 0, 0, 3, []), (11, 1193, 0, 0, 0, []), (65, 1194, 0, 0, 0, []), (6, 1195, 0, 0, 0, []), (4, 1196, 3, 0, 0, []), (1, 1197, 0, 0, 4, []), (11, 1198, 0, 0, 0, []), (65, 1199, 0, 0, 0, []), (92, 1200, 247, 5, 13, [(113967219, 11)]), (46, 1203, 51, 0, 0, []), (1, 1206, 0, 0, 0, []), (96, 1207, 0, 0, 0, [])],
  [(6, 1208, 1, 0, 0, []), (6, 1209, 0, 0, 0, []), (4, 1210, 3, 0, 0, []), (1, 1211, 0, 0, 1, []), (11, 1212, 0, 0, 0, []), (65, 1213, 0, 0, 0, []), (6, 1214, 0, 0, 0, []), (4, 1215, 3, 0, 0, []), (1, 1216, 0, 0, 2, []), (11, 1217, 0, 0, 0, []), (65, 1218, 0, 0, 0, []), (92, 1219, 129, 3, 4, [(55509108, 10)]), (6, 1222, 2, 0, 0, []), (6, 1223, 0, 0, 0, []), (4, 1224, 3, 0, 0, []), (1, 1225, 0, 0, 1, []), (11, 1226, 0, 0, 0, []), (65, 1227, 0, 0, 0, []), (6, 1228, 0, 0, 0, []), (4, 1229, 3, 0, 0, []), (1, 1230, 0, 0, 2, []), (11, 1231, 0, 0, 0, []), (65, 1232, 0, 0, 0, []), (92, 1233, 248, 3, 4, [(114229367, 11)]), (46, 1236, 51, 0, 0, []), (1, 1239, 0, 0, 0, []), (96, 1240, 0, 0, 0, [])],
  [(6, 1241, 1, 0, 0, []), (6, 1242, 0, 0, 0, []), (4, 1243, 3, 0, 0, []), (1, 1244, 0, 0, 1, []), (11, 1245, 0, 0, 0, []), (65, 1246, 0, 0, 0, []), (6, 1247, 0, 0, 0, []), (4, 1248, 3, 0, 0, []), (1, 1249, 0, 0, 2, []), (11, 1250, 0, 0, 0, []), (65, 1251, 0, 0, 0, []), (92, 1252, 142, 3, 4, [(55771256, 10)]), (6, 1255, 2, 0, 0, []), (6, 1256, 0, 0, 0, []), (4, 1257, 3, 0, 0, []), (1, 1258, 0, 0, 1, []), (11, 1259, 0, 0, 0, []), (65, 1260, 0, 0, 0, []), (6, 1261, 0, 0, 0, []), (4, 1262, 3, 0, 0, []), (1, 1263, 0, 0, 2, []), (11, 1264, 0, 0, 0, []), (65, 1265, 0, 0, 0, []), (92, 1266, 259, 3, 5, [(114491515, 11)]), (46, 1269, 51, 0, 0, []), (1, 1272, 0, 0, 0, []), (96, 1273, 0, 0, 0, [])],
  [(6, 1274, 1, 0, 0, []), (6, 1275, 0, 0, 0, []), (4, 1276, 3, 0, 0, []), (1, 1277, 0, 0, 1, []), (11, 1278, 0, 0, 0, []), (65, 1279, 0, 0, 0, []), (6, 1280, 0, 0, 0, []), (4, 1281, 3, 0, 0, []), (1, 1282, 0, 0, 2, []), (11, 1283, 0, 0, 0, []), (65, 1284, 0, 0, 0, []), (6, 1285, 0, 0, 0, []), (4, 1286, 3, 0, 0, []), (1, 1287, 0, 0, 3, []), (11, 1288, 0, 0, 0, []), (65, 1289, 0, 0, 0, []), (92, 1290, 146, 4, 6, [(70713468, 10)]), (6, 1293, 2, 0, 0, []), (6, 1294, 0, 0, 0, []), (4, 1295, 3, 0, 0, []), (1, 1296, 0, 0, 1, []), (11, 1297, 0, 0, 0, []), (65, 1298, 0, 0, 0, []), (6, 1299, 0, 0, 0, []), (4, 1300, 3, 0, 0, []), (1, 1301, 0, 0, 2, []), (11, 1302, 0, 0, 0, []), (65, 1303, 0, 0, 0, []), (6, 1304, 0, 0, 0, []), (4, 1305, 3, 0, 0, []), (1, 1306, 0, 0, 3, []), (11, 1307, 0, 0, 0, []), (65, 1308, 0, 0, 0, []), (92, 1309, 261, 4, 5, [(117571711, 11)]), (46, 1312, 51, 0, 0, []), (1, 1315, 0, 0, 0, []), (96, 1316, 0, 0, 0, [])],
  [(6, 1317, 1, 0, 0, []), (6, 1318, 0, 0, 0, []), (4, 1319, 3, 0, 0, []), (1, 1320, 0, 0, 1, []), (11, 1321, 0, 0, 0, []), (65, 1322, 0, 0, 0, []), (6, 1323, 0, 0, 0, []), (4, 1324, 3, 0, 0, []), (1, 1325, 0, 0, 2, []), (11, 1326, 0, 0, 0, []), (65, 1327, 0, 0, 0, []), (6, 1328, 0, 0, 0, []), (4, 1329, 3, 0, 0, []), (1, 1330, 0, 0, 3, []), (11, 1331, 0, 0, 0, []), (65, 1332, 0, 0, 0, []), (92, 1333, 149, 4, 4, [(71696512, 10)]), (6, 1336, 2, 0, 0, []), (6, 1337, 0, 0, 0, []), (4, 1338, 3, 0, 0, []), (1, 1339, 0, 0, 1, []), (11, 1340, 0, 0, 0, []), (65, 1341, 0, 0, 0, []), (6, 1342, 0, 0, 0, []), (4, 1343, 3, 0, 0, []), (1, 1344, 0, 0, 2, []), (11, 1345, 0, 0, 0, []), (65, 1346, 0, 0, 0, []), (6, 1347, 0, 0, 0, []), (4, 1348, 3, 0, 0, []), (1, 1349, 0, 0, 3, []), (11, 1350, 0, 0, 0, []), (65, 1351, 0, 0, 0, []), (92, 1352, 264, 4, 4, [(118096003, 11)]), (46, 1355, 51, 0, 0, []), (1, 1358, 0, 0, 0, []), (96, 1359, 0, 0, 0, [])],
  [(6, 1360, 1, 0, 0, []), (6, 1361, 0, 0, 0, []), (4, 1362, 3, 0, 0, []), (1, 1363, 0, 0, 1, []), (11, 1364, 0, 0, 0, []), (65, 1365, 0, 0, 0, []), (6, 1366, 0, 0, 0, []), (4, 1367, 3, 0, 0, []), (1, 1368, 0, 0, 2, []), (11, 1369, 0, 0, 0, []), (65, 1370, 0, 0, 0, []), (6, 1371, 0, 0, 0, []), (4, 1372, 3, 0, 0, []), (1, 1373, 0, 0, 3, []), (11, 1374, 0, 0, 0, []), (65, 1375, 0, 0, 0, []), (6, 1376, 0, 0, 0, []), (4, 1377, 3, 0, 0, []), (1, 1378, 0, 0, 4, []), (11, 1379, 0, 0, 0, []), (65, 1380, 0, 0, 0, []), (6, 1381, 0, 0, 0, []), (4, 1382, 3, 0, 0, []), (1, 1383, 0, 0, 5, []), (11, 1384, 0, 0, 0, []), (65, 1385, 0, 0, 0, []), (6, 1386, 0, 0, 0, []), (4, 1387, 3, 0, 0, []), (1, 1388, 0, 0, 6, []), (11, 1390, 0, 0, 0, []), (65, 1391, 0, 0, 0, []), (6, 1392, 0, 0, 0, []), (4, 1393, 3, 0, 0, []), (1, 1394, 0, 0, 7, []), (11, 1396, 0, 0, 0, []), (65, 1397, 0, 0, 0, []), (92, 1398, 153, 8, 14, [(72482948, 10)]), (6, 1401, 2, 0, 0, []), (6, 1402, 0, 0, 0, []), (4, 1403, 3, 0, 0, []), (1, 1404, 0, 0, 1, []), (11, 1405, 0, 0, 0, []), (65, 1406, 0, 0, 0, []), (6, 1407, 0, 0, 0, []), (4, 1408, 3, 0, 0, []), (1, 1409, 0, 0, 2, []), (11, 1410, 0, 0, 0, []), (65, 1411, 0, 0, 0, []), (6, 1412, 0, 0, 0, []), (4, 1413, 3, 0, 0, []), (1, 1414, 0, 0, 3, []), (11, 1415, 0, 0, 0, []), (65, 1416, 0, 0, 0, []), (6, 1417, 0, 0, 0, []), (4, 1418, 3, 0, 0, []), (1, 1419, 0, 0, 4, []), (11, 1420, 0, 0, 0, []), (65, 1421, 0, 0, 0, []), (6, 1422, 0, 0, 0, []), (4, 1423, 3, 0, 0, []), (1, 1424, 0, 0, 5, []), (11, 1425, 0, 0, 0, []), (65, 1426, 0, 0, 0, []), (6, 1427, 0, 0, 0, []), (4, 1428, 3, 0, 0, []), (1, 1429, 0, 0, 6, []), (11, 1431, 0, 0, 0, []), (65, 1432, 0, 0, 0, []), (6, 1433, 0, 0, 0, []), (4, 1434, 3, 0, 0, []), (1, 1435, 0, 0, 7, []), (11, 1437, 0, 0, 0, []), (65, 1438, 0, 0, 0, []), (92, 1439, 267, 8, 14, [(118947976, 11)]), (46, 1442, 51, 0, 0, []), (1, 1445, 0, 0, 0, []), (96, 1446, 0, 0, 0, [])],
  [(6, 1447, 1, 0, 0, []), (6, 1448, 0, 0, 0, []), (4, 1449, 3, 0, 0, []), (1, 1450, 0, 0, 1, []), (11, 1451, 0, 0, 0, []), (65, 1452, 0, 0, 0, []), (92, 1453, 154, 2, 3, [(73924745, 10)]), (6, 1456, 2, 0, 0, []), (6, 1457, 0, 0, 0, []), (4, 1458, 3, 0, 0, []), (1, 1459, 0, 0, 1, []), (11, 1460, 0, 0, 0, []), (65, 1461, 0, 0, 0, []), (92, 1462, 269, 2, 2, [(119865484, 11)]), (46, 1465, 51, 0, 0, []), (1, 1468, 0, 0, 0, []), (96, 1469, 0, 0, 0, [])],
  [(6, 1470, 1, 0, 0, []), (6, 1471, 0, 0, 0, []), (4, 1472, 3, 0, 0, []), (1, 1473, 0, 0, 1, []), (11, 1474, 0, 0, 0, []), (65, 1475, 0, 0, 0, []), (6, 1476, 0, 0, 0, []), (4, 1477, 3, 0, 0, []), (1, 1478, 0, 0, 2, []), (11, 1479, 0, 0, 0, []), (65, 1480, 0, 0, 0, []), (92, 1481, 157, 3, 5, [(74186893, 10)]), (6, 1484, 2, 0, 0, []), (6, 1485, 0, 0, 0, []), (4, 1486, 3, 0, 0, []), (1, 1487, 0, 0, 1, []), (11, 1488, 0, 0, 0, []), (65, 1489, 0, 0, 0, []), (6, 1490, 0, 0, 0, []), (4, 1491, 3, 0, 0, []), (1, 1492, 0, 0, 2, []), (11, 1493, 0, 0, 0, []), (65, 1494, 0, 0, 0, []), (92, 1495, 270, 3, 4, [(120127632, 11)]), (46, 1498, 51, 0, 0, []), (1, 1501, 0, 0, 0, []), (96, 1502, 0, 0, 0, [])],
  [(6, 1503, 1, 0, 0, []), (6, 1504, 0, 0, 0, []), (4, 1505, 3, 0, 0, []), (1, 1506, 0, 0, 1, []), (11, 1507, 0, 0, 0, []), (65, 1508, 0, 0, 0, []), (6, 1509, 0, 0, 0, []), (4, 1510, 3, 0, 0, []), (1, 1511, 0, 0, 2, []), (11, 1512, 0, 0, 0, []), (65, 1513, 0, 0, 0, []), (6, 1514, 0, 0, 0, []), (4, 1515, 3, 0, 0, []), (1, 1516, 0, 0, 3, []), (11, 1517, 0, 0, 0, []), (65, 1518, 0, 0, 0, []), (92, 1519, 160, 4, 4, [(74907793, 10)]), (6, 1522, 2, 0, 0, []), (6, 1523, 0, 0, 0, []), (4, 1524, 3, 0, 0, []), (1, 1525, 0, 0, 1, []), (11, 1526, 0, 0, 0, []), (65, 1527, 0, 0, 0, []), (6, 1528, 0, 0, 0, []), (4, 1529, 3, 0, 0, []), (1, 1530, 0, 0, 2, []), (11, 1531, 0, 0, 0, []), (65, 1532, 0, 0, 0, []), (6, 1533, 0, 0, 0, []), (4, 1534, 3, 0, 0, []), (1, 1535, 0, 0, 3, []), (11, 1536, 0, 0, 0, []), (65, 1537, 0, 0, 0, []), (92, 1538, 271, 4, 5, [(120586388, 11)]), (46, 1541, 51, 0, 0, []), (1, 1544, 0, 0, 0, []), (96, 1545, 0, 0, 0, [])],
  [(6, 1546, 1, 0, 0, []), (6, 1547, 0, 0, 0, []), (4, 1548, 3, 0, 0, []), (1, 1549, 0, 0, 1, []), (11, 1550, 0, 0, 0, []), (65, 1551, 0, 0, 0, []), (6, 1552, 0, 0, 0, []), (4, 1553, 3, 0, 0, []), (1, 1554, 0, 0, 2, []), (11, 1555, 0, 0, 0, []), (65, 1556, 0, 0, 0, []), (6, 1557, 0, 0, 0, []), (4, 1558, 3, 0, 0, []), (1, 1559, 0, 0, 3, []), (11, 1560, 0, 0, 0, []), (65, 1561, 0, 0, 0, []), (6, 1562, 0, 0, 0, []), (4, 1563, 3, 0, 0, []), (1, 1564, 0, 0, 4, []), (11, 1565, 0, 0, 0, []), (65, 1566, 0, 0, 0, []), (92, 1567, 162, 5, 5, [(75759765, 10)]), (6, 1570, 2, 0, 0, []), (6, 1571, 0, 0, 0, []), (4, 1572, 3, 0, 0, []), (1, 1573, 0, 0, 1, []), (11, 1574, 0, 0, 0, []), (65, 1575, 0, 0, 0, []), (6, 1576, 0, 0, 0, []), (4, 1577, 3, 0, 0, []), (1, 1578, 0, 0, 2, []), (11, 1579, 0, 0, 0, []), (65, 1580, 0, 0, 0, []), (6, 1581, 0, 0, 0, []), (4, 1582, 3, 0, 0, []), (1, 1583, 0, 0, 3, []), (11, 1584, 0, 0, 0, []), (65, 1585, 0, 0, 0, []), (6, 1586, 0, 0, 0, []), (4, 1587, 3, 0, 0, []), (1, 1588, 0, 0, 4, []), (11, 1589, 0, 0, 0, []), (65, 1590, 0, 0, 0, []), (92, 1591, 272, 5, 5, [(120848536, 11)]), (46, 1594, 51, 0, 0, []), (1, 1597, 0, 0, 0, []), (96, 1598, 0, 0, 0, [])],
  [(6, 1599, 1, 0, 0, []), (92, 1600, 163, 1, 2, [(76284057, 10)]), (6, 1603, 2, 0, 0, []), (92, 1604, 273, 1, 2, [(121110684, 11)]), (46, 1607, 51, 0, 0, []), (1, 1610, 0, 0, 0, []), (96, 1611, 0, 0, 0, [])],
  [(6, 1612, 1, 0, 0, []), (6, 1613, 0, 0, 0, []), (4, 1614, 3, 0, 0, []), (1, 1615, 0, 0, 1, []), (11, 1616, 0, 0, 0, []), (65, 1617, 0, 0, 0, []), (6, 1618, 0, 0, 0, []), (4, 1619, 3, 0, 0, []), (1, 1620, 0, 0, 2, []), (11, 1621, 0, 0, 0, []), (65, 1622, 0, 0, 0, []), (92, 1623, 169, 3, 5, [(76546205, 10)]), (6, 1626, 2, 0, 0, []), (6, 1627, 0, 0, 0, []), (4, 1628, 3, 0, 0, []), (1, 1629, 0, 0, 1, []), (11, 1630, 0, 0, 0, []), (65, 1631, 0, 0, 0, []), (6, 1632, 0, 0, 0, []), (4, 1633, 3, 0, 0, []), (1, 1634, 0, 0, 2, []), (11, 1635, 0, 0, 0, []), (65, 1636, 0, 0, 0, []), (92, 1637, 275, 3, 8, [(121372832, 11)]), (46, 1640, 51, 0, 0, []), (1, 1643, 0, 0, 0, []), (96, 1644, 0, 0, 0, [])],
  [(6, 1645, 1, 0, 0, []), (6, 1646, 0, 0, 0, []), (4, 1647, 3, 0, 0, []), (1, 1648, 0, 0, 1, []), (11, 1649, 0, 0, 0, []), (65, 1650, 0, 0, 0, []), (92, 1651, 170, 2, 2, [(78315681, 10)]), (6, 1654, 2, 0, 0, []), (6, 1655, 0, 0, 0, []), (4, 1656, 3, 0, 0, []), (1, 1657, 0, 0, 1, []), (11, 1658, 0, 0, 0, []), (65, 1659, 0, 0, 0, []), (92, 1660, 276, 2, 2, [(121897124, 11)]), (46, 1663, 51, 0, 0, []), (1, 1666, 0, 0, 0, []), (96, 1667, 0, 0, 0, [])],
  [(6, 1668, 1, 0, 0, []), (6, 1669, 0, 0, 0, []), (4, 1670, 3, 0, 0, []), (1, 1671, 0, 0, 1, []), (11, 1672, 0, 0, 0, []), (65, 1673, 0, 0, 0, []), (6, 1674, 0, 0, 0, []), (4, 1675, 3, 0, 0, []), (1, 1676, 0, 0, 2, []), (11, 1677, 0, 0, 0, []), (65, 1678, 0, 0, 0, []), (6, 1679, 0, 0, 0, []), (4, 1680, 3, 0, 0, []), (1, 1681, 0, 0, 3, []), (11, 1682, 0, 0, 0, []), (65, 1683, 0, 0, 0, []), (92, 1684, 171, 4, 5, [(78577829, 10)]), (6, 1687, 2, 0, 0, []), (6, 1688, 0, 0, 0, []), (4, 1689, 3, 0, 0, []), (1, 1690, 0, 0, 1, []), (11, 1691, 0, 0, 0, []), (65, 1692, 0, 0, 0, []), (6, 1693, 0, 0, 0, []), (4, 1694, 3, 0, 0, []), (1, 1695, 0, 0, 2, []), (11, 1696, 0, 0, 0, []), (65, 1697, 0, 0, 0, []), (6, 1698, 0, 0, 0, []), (4, 1699, 3, 0, 0, []), (1, 1700, 0, 0, 3, []), (11, 1701, 0, 0, 0, []), (65, 1702, 0, 0, 0, []), (92, 1703, 277, 4, 5, [(122159272, 11)]), (46, 1706, 51, 0, 0, []), (1, 1709, 0, 0, 0, []), (96, 1710, 0, 0, 0, [])],
  [(6, 1711, 1, 0, 0, []), (6, 1712, 0, 0, 0, []), (4, 1713, 3, 0, 0, []), (1, 1714, 0, 0, 1, []), (11, 1715, 0, 0, 0, []), (65, 1716, 0, 0, 0, []), (92, 1717, 176, 2, 3, [(78839977, 10)]), (6, 1720, 2, 0, 0, []), (6, 1721, 0, 0, 0, []), (4, 1722, 3, 0, 0, []), (1, 1723, 0, 0, 1, []), (11, 1724, 0, 0, 0, []), (65, 1725, 0, 0, 0, []), (92, 1726, 279, 2, 6, [(122421420, 11)]), (46, 1729, 51, 0, 0, []), (1, 1732, 0, 0, 0, []), (96, 1733, 0, 0, 0, [])],
  [(6, 1734, 1, 0, 0, []), (6, 1735, 0, 0, 0, []), (4, 1736, 3, 0, 0, []), (1, 1737, 0, 0, 1, []), (11, 1738, 0, 0, 0, []), (65, 1739, 0, 0, 0, []), (6, 1740, 0, 0, 0, []), (4, 1741, 3, 0, 0, []), (1, 1742, 0, 0, 2, []), (11, 1743, 0, 0, 0, []), (65, 1744, 0, 0, 0, []), (6, 1745, 0, 0, 0, []), (4, 1746, 3, 0, 0, []), (1, 1747, 0, 0, 3, []), (11, 1748, 0, 0, 0, []), (65, 1749, 0, 0, 0, []), (92, 1750, 178, 4, 5, [(80150701, 10)]), (6, 1753, 2, 0, 0, []), (6, 1754, 0, 0, 0, []), (4, 1755, 3, 0, 0, []), (1, 1756, 0, 0, 1, []), (11, 1757, 0, 0, 0, []), (65, 1758, 0, 0, 0, []), (6, 1759, 0, 0, 0, []), (4, 1760, 3, 0, 0, []), (1, 1761, 0, 0, 2, []), (11, 1762, 0, 0, 0, []), (65, 1763, 0, 0, 0, []), (6, 1764, 0, 0, 0, []), (4, 1765, 3, 0, 0, []), (1, 1766, 0, 0, 3, []), (11, 1767, 0, 0, 0, []), (65, 1768, 0, 0, 0, []), (92, 1769, 280, 4, 4, [(122945712, 11)]), (46, 1772, 51, 0, 0, []), (1, 1775, 0, 0, 0, []), (96, 1776, 0, 0, 0, [])],
  [(6, 1777, 1, 0, 0, []), (6, 1778, 0, 0, 0, []), (4, 1779, 3, 0, 0, []), (1, 1780, 0, 0, 1, []), (11, 1781, 0, 0, 0, []), (65, 1782, 0, 0, 0, []), (6, 1783, 0, 0, 0, []), (4, 1784, 3, 0, 0, []), (1, 1785, 0, 0, 2, []), (11, 1786, 0, 0, 0, []), (65, 1787, 0, 0, 0, []), (6, 1788, 0, 0, 0, []), (4, 1789, 3, 0, 0, []), (1, 1790, 0, 0, 3, []), (11, 1791, 0, 0, 0, []), (65, 1792, 0, 0, 0, []), (6, 1793, 0, 0, 0, []), (4, 1794, 3, 0, 0, []), (1, 1795, 0, 0, 4, []), (11, 1796, 0, 0, 0, []), (65, 1797, 0, 0, 0, []), (92, 1798, 180, 5, 11, [(80609457, 10)]), (6, 1801, 2, 0, 0, []), (6, 1802, 0, 0, 0, []), (4, 1803, 3, 0, 0, []), (1, 1804, 0, 0, 1, []), (11, 1805, 0, 0, 0, []), (65, 1806, 0, 0, 0, []), (6, 1807, 0, 0, 0, []), (4, 1808, 3, 0, 0, []), (1, 1809, 0, 0, 2, []), (11, 1810, 0, 0, 0, []), (65, 1811, 0, 0, 0, []), (6, 1812, 0, 0, 0, []), (4, 1813, 3, 0, 0, []), (1, 1814, 0, 0, 3, []), (11, 1815, 0, 0, 0, []), (65, 1816, 0, 0, 0, []), (6, 1817, 0, 0, 0, []), (4, 1818, 3, 0, 0, []), (1, 1819, 0, 0, 4, []), (11, 1820, 0, 0, 0, []), (65, 1821, 0, 0, 0, []), (92, 1822, 281, 5, 12, [(123207861, 11)]), (31, 1825, 0, 0, 0, []), (40, 1826, 51, 0, 0, []), (1, 1829, 0, 0, 0, []), (96, 1830, 0, 0, 0, [])],
  [(6, 1831, 1, 0, 0, []), (6, 1832, 0, 0, 0, []), (4, 1833, 3, 0, 0, []), (1, 1834, 0, 0, 1, []), (11, 1835, 0, 0, 0, []), (65, 1836, 0, 0, 0, []), (6, 1837, 0, 0, 0, []), (4, 1838, 3, 0, 0, []), (1, 1839, 0, 0, 2, []), (11, 1840, 0, 0, 0, []), (65, 1841, 0, 0, 0, []), (92, 1842, 181, 3, 4, [(81133750, 10)]), (6, 1845, 2, 0, 0, []), (6, 1846, 0, 0, 0, []), (4, 1847, 3, 0, 0, []), (1, 1848, 0, 0, 1, []), (11, 1849, 0, 0, 0, []), (65, 1850, 0, 0, 0, []), (6, 1851, 0, 0, 0, []), (4, 1852, 3, 0, 0, []), (1, 1853, 0, 0, 2, []), (11, 1854, 0, 0, 0, []), (65, 1855, 0, 0, 0, []), (92, 1856, 282, 3, 4, [(123535545, 11)]), (46, 1859, 51, 0, 0, []), (1, 1862, 0, 0, 0, []), (96, 1863, 0, 0, 0, [])],
  [(6, 1864, 1, 0, 0, []), (6, 1865, 0, 0, 0, []), (4, 1866, 3, 0, 0, []), (1, 1867, 0, 0, 1, []), (11, 1868, 0, 0, 0, []), (65, 1869, 0, 0, 0, []), (6, 1870, 0, 0, 0, []), (4, 1871, 3, 0, 0, []), (1, 1872, 0, 0, 2, []), (11, 1873, 0, 0, 0, []), (65, 1874, 0, 0, 0, []), (6, 1875, 0, 0, 0, []), (4, 1876, 3, 0, 0, []), (1, 1877, 0, 0, 3, []), (11, 1878, 0, 0, 0, []), (65, 1879, 0, 0, 0, []), (92, 1880, 186, 4, 5, [(81395898, 10)]), (6, 1883, 2, 0, 0, []), (6, 1884, 0, 0, 0, []), (4, 1885, 3, 0, 0, []), (1, 1886, 0, 0, 1, []), (11, 1887, 0, 0, 0, []), (65, 1888, 0, 0, 0, []), (6, 1889, 0, 0, 0, []), (4, 1890, 3, 0, 0, []), (1, 1891, 0, 0, 2, []), (11, 1892, 0, 0, 0, []), (65, 1893, 0, 0, 0, []), (6, 1894, 0, 0, 0, []), (4, 1895, 3, 0, 0, []), (1, 1896, 0, 0, 3, []), (11, 1897, 0, 0, 0, []), (65, 1898, 0, 0, 0, []), (92, 1899, 292, 4, 4, [(123797693, 11)]), (46, 1902, 51, 0, 0, []), (1, 1905, 0, 0, 0, []), (96, 1906, 0, 0, 0, [])],
  [(6, 1907, 1, 0, 0, []), (6, 1908, 0, 0, 0, []), (4, 1909, 3, 0, 0, []), (1, 1910, 0, 0, 1, []), (11, 1911, 0, 0, 0, []), (65, 1912, 0, 0, 0, []), (92, 1913, 187, 2, 2, [(82837694, 10)]), (6, 1916, 2, 0, 0, []), (6, 1917, 0, 0, 0, []), (4, 1918, 3, 0, 0, []), (1, 1919, 0, 0, 1, []), (11, 1920, 0, 0, 0, []), (65, 1921, 0, 0, 0, []), (92, 1922, 293, 2, 2, [(126615745, 11)]), (46, 1925, 51, 0, 0, []), (1, 1928, 0, 0, 0, []), (96, 1929, 0, 0, 0, [])],
  [(6, 1930, 1, 0, 0, []), (6, 1931, 0, 0, 0, []), (4, 1932, 3, 0, 0, []), (1, 1933, 0, 0, 1, []), (11, 1934, 0, 0, 0, []), (65, 1935, 0, 0, 0, []), (6, 1936, 0, 0, 0, []), (4, 1937, 3, 0, 0, []), (1, 1938, 0, 0, 2, []), (11, 1939, 0, 0, 0, []), (65, 1940, 0, 0, 0, []), (92, 1941, 189, 3, 4, [(83099842, 10)]), (6, 1944, 2, 0, 0, []), (6, 1945, 0, 0, 0, []), (4, 1946, 3, 0, 0, []), (1, 1947, 0, 0, 1, []), (11, 1948, 0, 0, 0, []), (65, 1949, 0, 0, 0, []), (6, 1950, 0, 0, 0, []), (4, 1951, 3, 0, 0, []), (1, 1952, 0, 0, 2, []), (11, 1953, 0, 0, 0, []), (65, 1954, 0, 0, 0, []), (92, 1955, 294, 3, 3, [(126877893, 11)]), (46, 1958, 51, 0, 0, []), (1, 1961, 0, 0, 0, []), (96, 1962, 0, 0, 0, [])],
  [(6, 1963, 1, 0, 0, []), (6, 1964, 0, 0, 0, []), (4, 1965, 3, 0, 0, []), (1, 1966, 0, 0, 1, []), (11, 1967, 0, 0, 0, []), (65, 1968, 0, 0, 0, []), (92, 1969, 190, 2, 2, [(83558598, 10)]), (6, 1972, 2, 0, 0, []), (6, 1973, 0, 0, 0, []), (4, 1974, 3, 0, 0, []), (1, 1975, 0, 0, 1, []), (11, 1976, 0, 0, 0, []), (65, 1977, 0, 0, 0, []), (92, 1978, 295, 2, 2, [(127140041, 11)]), (46, 1981, 51, 0, 0, []), (1, 1984, 0, 0, 0, []), (96, 1985, 0, 0, 0, [])],
  [(6, 1986, 1, 0, 0, []), (6, 1987, 0, 0, 0, []), (4, 1988, 3, 0, 0, []), (1, 1989, 0, 0, 1, []), (11, 1990, 0, 0, 0, []), (65, 1991, 0, 0, 0, []), (6, 1992, 0, 0, 0, []), (4, 1993, 3, 0, 0, []), (1, 1994, 0, 0, 2, []), (11, 1995, 0, 0, 0, []), (65, 1996, 0, 0, 0, []), (6, 1997, 0, 0, 0, []), (4, 1998, 3, 0, 0, []), (1, 1999, 0, 0, 3, []), (11, 2000, 0, 0, 0, []), (65, 2001, 0, 0, 0, []), (92, 2002, 191, 4, 4, [(83820746, 10)]), (6, 2005, 2, 0, 0, []), (6, 2006, 0, 0, 0, []), (4, 2007, 3, 0, 0, []), (1, 2008, 0, 0, 1, []), (11, 2009, 0, 0, 0, []), (65, 2010, 0, 0, 0, []), (6, 2011, 0, 0, 0, []), (4, 2012, 3, 0, 0, []), (1, 2013, 0, 0, 2, []), (11, 2014, 0, 0, 0, []), (65, 2015, 0, 0, 0, []), (6, 2016, 0, 0, 0, []), (4, 2017, 3, 0, 0, []), (1, 2018, 0, 0, 3, []), (11, 2019, 0, 0, 0, []), (65, 2020, 0, 0, 0, []), (92, 2021, 297, 4, 5, [(127402189, 11)]), (46, 2024, 51, 0, 0, []), (1, 2027, 0, 0, 0, []), (96, 2028, 0, 0, 0, [])],
  [(6, 2029, 1, 0, 0, []), (6, 2030, 0, 0, 0, []), (4, 2031, 3, 0, 0, []), (1, 2032, 0, 0, 1, []), (11, 2033, 0, 0, 0, []), (65, 2034, 0, 0, 0, []), (6, 2035, 0, 0, 0, []), (4, 2036, 3, 0, 0, []), (1, 2037, 0, 0, 2, []), (11, 2038, 0, 0, 0, []), (65, 2039, 0, 0, 0, []), (6, 2040, 0, 0, 0, []), (4, 2041, 3, 0, 0, []), (1, 2042, 0, 0, 3, []), (11, 2043, 0, 0, 0, []), (65, 2044, 0, 0, 0, []), (92, 2045, 193, 4, 4, [(84082894, 10)]), (6, 2048, 2, 0, 0, []), (6, 2049, 0, 0, 0, []), (4, 2050, 3, 0, 0, []), (1, 2051, 0, 0, 1, []), (11, 2052, 0, 0, 0, []), (65, 2053, 0, 0, 0, []), (6, 2054, 0, 0, 0, []), (4, 2055, 3, 0, 0, []), (1, 2056, 0, 0, 2, []), (11, 2057, 0, 0, 0, []), (65, 2058, 0, 0, 0, []), (6, 2059, 0, 0, 0, []), (4, 2060, 3, 0, 0, []), (1, 2061, 0, 0, 3, []), (11, 2062, 0, 0, 0, []), (65, 2063, 0, 0, 0, []), (92, 2064, 298, 4, 4, [(127860945, 11)]), (46, 2067, 51, 0, 0, []), (1, 2070, 0, 0, 0, []), (96, 2071, 0, 0, 0, [])],
  [(6, 2072, 1, 0, 0, []), (6, 2073, 0, 0, 0, []), (4, 2074, 3, 0, 0, []), (1, 2075, 0, 0, 1, []), (11, 2076, 0, 0, 0, []), (65, 2077, 0, 0, 0, []), (6, 2078, 0, 0, 0, []), (4, 2079, 3, 0, 0, []), (1, 2080, 0, 0, 2, []), (11, 2081, 0, 0, 0, []), (65, 2082, 0, 0, 0, []), (92, 2083, 194, 3, 3, [(84541650, 10)]), (6, 2086, 2, 0, 0, []), (6, 2087, 0, 0, 0, []), (4, 2088, 3, 0, 0, []), (1, 2089, 0, 0, 1, []), (11, 2090, 0, 0, 0, []), (65, 2091, 0, 0, 0, []), (6, 2092, 0, 0, 0, []), (4, 2093, 3, 0, 0, []), (1, 2094, 0, 0, 2, []), (11, 2095, 0, 0, 0, []), (65, 2096, 0, 0, 0, []), (92, 2097, 299, 3, 3, [(128123094, 11)]), (31, 2100, 0, 0, 0, []), (40, 2101, 51, 0, 0, []), (1, 2104, 0, 0, 0, []), (96, 2105, 0, 0, 0, [])],
  [(6, 2106, 1, 0, 0, []), (6, 2107, 0, 0, 0, []), (4, 2108, 3, 0, 0, []), (1, 2109, 0, 0, 1, []), (11, 2110, 0, 0, 0, []), (65, 2111, 0, 0, 0, []), (6, 2112, 0, 0, 0, []), (4, 2113, 3, 0, 0, []), (1, 2114, 0, 0, 2, []), (11, 2115, 0, 0, 0, []), (65, 2116, 0, 0, 0, []), (6, 2117, 0, 0, 0, []), (4, 2118, 3, 0, 0, []), (1, 2119, 0, 0, 3, []), (11, 2120, 0, 0, 0, []), (65, 2121, 0, 0, 0, []), (6, 2122, 0, 0, 0, []), (4, 2123, 3, 0, 0, []), (1, 2124, 0, 0, 4, []), (11, 2125, 0, 0, 0, []), (65, 2126, 0, 0, 0, []), (6, 2127, 0, 0, 0, []), (4, 2128, 3, 0, 0, []), (1, 2129, 0, 0, 5, []), (11, 2130, 0, 0, 0, []), (65, 2131, 0, 0, 0, []), (92, 2132, 195, 6, 6, [(84803799, 10)]), (6, 2135, 2, 0, 0, []), (6, 2136, 0, 0, 0, []), (4, 2137, 3, 0, 0, []), (1, 2138, 0, 0, 1, []), (11, 2139, 0, 0, 0, []), (65, 2140, 0, 0, 0, []), (6, 2141, 0, 0, 0, []), (4, 2142, 3, 0, 0, []), (1, 2143, 0, 0, 2, []), (11, 2144, 0, 0, 0, []), (65, 2145, 0, 0, 0, []), (6, 2146, 0, 0, 0, []), (4, 2147, 3, 0, 0, []), (1, 2148, 0, 0, 3, []), (11, 2149, 0, 0, 0, []), (65, 2150, 0, 0, 0, []), (6, 2151, 0, 0, 0, []), (4, 2152, 3, 0, 0, []), (1, 2153, 0, 0, 4, []), (11, 2154, 0, 0, 0, []), (65, 2155, 0, 0, 0, []), (6, 2156, 0, 0, 0, []), (4, 2157, 3, 0, 0, []), (1, 2158, 0, 0, 5, []), (11, 2159, 0, 0, 0, []), (65, 2160, 0, 0, 0, []), (92, 2161, 300, 6, 7, [(128385242, 11)]), (46, 2164, 51, 0, 0, []), (1, 2167, 0, 0, 0, []), (96, 2168, 0, 0, 0, [])],
  [(10, 2169, 3, 0, 8, []), (56, 2172, 1, 0, 0, [])],
  [(1, 2175, 0, 0, 1, []), (96, 2176, 0, 0, 0, [])]]
noncomputable def zBs : List (List (List zMI)) := [zb0, zb1, zb2, zb3, zb4, zb5, zb6, zb7, zb8, zb9, zb10, zb11, zb12, zb13, zb14, zb15, zb16, zb17, zb18, zb19, zb20, zb21, zb22, zb23, zb24, zb25, zb26, zb27, zb28, zb29, zb30, zb31, zb32, zb33, zb34, zb35, zb36, zb37, zb38, zb39, zb40, zb41, zb42, zb43, zb44, zb45, zb46, zb47, zb48, zb49, zb50, zb51, zb52, zb53, zb54, zb55, zb56, zb57, zb58, zb59, zb60, zb61, zb62, zb63, zb64, zb65, zb66, zb67, zb68, zb69, zb70, zb71, zb72, zb73, zb74, zb75, zb76, zb77, zb78, zb79, zb80, zb81, zb82, zb83, zb84, zb85, zb86, zb87, zb88, zb89, zb90, zb91, zb92, zb93, zb94, zb95, zb96, zb97, zb98, zb99, zb100, zb101, zb102, zb103, zb104, zb105, zb106, zb107, zb108, zb109, zb110, zb111, zb112, zb113, zb114, zb115, zb116, zb117, zb118, zb119, zb120, zb121, zb122, zb123, zb124, zb125, zb126, zb127, zb128, zb129, zb130, zb131, zb132, zb133, zb134, zb135, zb136, zb137, zb138, zb139, zb140, zb141, zb142, zb143, zb144, zb145, zb146, zb147, zb148, zb149, zb150, zb151, zb152, zb153, zb154, zb155, zb156, zb157, zb158, zb159, zb160, zb161, zb162, zb163, zb164, zb165, zb166, zb167, zb168, zb169, zb170, zb171, zb172, zb173, zb174, zb175, zb176, zb177, zb178, zb179, zb180, zb181, zb182, zb183, zb184, zb185, zb186, zb187, zb188, zb189, zb190, zb191, zb192, zb193, zb194, zb195, zb196, zb197, zb198, zb199, zb200, zb201, zb202, zb203, zb204, zb205, zb206, zb207, zb208, zb209, zb210, zb211, zb212, zb213, zb214, zb215, zb216, zb217, zb218, zb219, zb220, zb221, zb222, zb223, zb224, zb225, zb226, zb227, zb228, zb229, zb230, zb231, zb232, zb233, zb234, zb235, zb236, zb237, zb238, zb239, zb240, zb241, zb242, zb243, zb244, zb245, zb246, zb247, zb248, zb249, zb250, zb251, zb252, zb253, zb254, zb255, zb256, zb257, zb258, zb259, zb260, zb261, zb262, zb263, zb264, zb265, zb266, zb267, zb268, zb269, zb270, zb271, zb272, zb273, zb274, zb275, zb276, zb277, zb278, zb279, zb280, zb281, zb282, zb283, zb284, zb285, zb286, zb287, zb288, zb289, zb290, zb291, zb292, zb293, zb294, zb295, zb296, zb297, zb298, zb299, zb300, zb301]
noncomputable def zB (m b : Nat) : List zMI := (zBs.getD m []).getD b []
end
section
/-! what stands of each method in the tables -/
def zYs_0 : List MethodName := [⟨"java/lang/Integer", "bitCount", "(I)I"⟩, ⟨"java/lang/Integer", "numberOfTrailingZeros", "(I)I"⟩, ⟨"java/util/Arrays", "fill", "([II)V"⟩, ⟨"java/util/Arrays", "copyOf", "([II)[I"⟩, ⟨"jdk/internal/util/Preconditions", "checkIndex", "(IILjava/util/function/BiFunction;)I"⟩, ⟨"java/lang/String", "checkIndex", "(II)V"⟩, ⟨"java/lang/String", "coder", "()B"⟩, ⟨"java/lang/String", "isLatin1", "()Z"⟩, ⟨"java/lang/String", "length", "()I"⟩, ⟨"java/lang/StringLatin1", "charAt", "([BI)C"⟩, ⟨"java/lang/String", "charAt", "(I)C"⟩, ⟨"java/lang/StringLatin1", "canEncode", "(I)Z"⟩, ⟨"java/lang/StringLatin1", "indexOfChar", "([BIII)I"⟩, ⟨"java/lang/StringLatin1", "indexOf", "([BIII)I"⟩, ⟨"java/lang/String", "indexOf", "(II)I"⟩, ⟨"java/lang/String", "indexOf", "(I)I"⟩, ⟨"EngraversHouse$Layout", "<init>", "()V"⟩, ⟨"EngraversHouse$Tour", "<init>", "()V"⟩, ⟨"EngraversHouse$PrintPlan", "<init>", "()V"⟩, ⟨"EngraversHouse", "<init>", "()V"⟩, ⟨"EngraversHouse", "within", "(III)Z"⟩, ⟨"EngraversHouse", "pass", "(I)I"⟩, ⟨"EngraversHouse", "author", "()I"⟩, ⟨"EngraversHouse", "isAuthor", "(I)Z"⟩, ⟨"EngraversHouse", "died", "(II)I"⟩, ⟨"EngraversHouse", "isMeter", "(I)Z"⟩, ⟨"EngraversHouse$Thing", "<init>", "(II)V"⟩, ⟨"EngraversHouse$Score", "<init>", "(ILEngraversHouse$Score;III)V"⟩, ⟨"EngraversHouse", "keep", "(LEngraversHouse$Thing;)I"⟩, ⟨"EngraversHouse", "score", "(III)I"⟩, ⟨"EngraversHouse", "thingAt", "(I)LEngraversHouse$Thing;"⟩, ⟨"EngraversHouse", "scoreAt", "(I)LEngraversHouse$Score;"⟩, ⟨"EngraversHouse$Score", "rootScore", "()LEngraversHouse$Score;"⟩, ⟨"EngraversHouse", "derive", "(IIII)I"⟩, ⟨"EngraversHouse", "lacking", "(I)I"⟩, ⟨"EngraversHouse$Score", "hasVoice", "(I)Z"⟩, ⟨"EngraversHouse", "isNote", "(III)Z"⟩, ⟨"EngraversHouse", "noteCode", "(III)I"⟩, ⟨"EngraversHouse$Score", "begunBar", "(II)LEngraversHouse$Bar;"⟩, ⟨"EngraversHouse$Score", "openBar", "(I)LEngraversHouse$Bar;"⟩, ⟨"EngraversHouse", "lengthOf", "(I)I"⟩, ⟨"EngraversHouse$Bar", "<init>", "()V"⟩, ⟨"EngraversHouse$Bar", "addNote", "(I)V"⟩, ⟨"EngraversHouse$Score", "takeNote", "(II)I"⟩, ⟨"EngraversHouse$Score", "wholeBars", "(I)I"⟩, ⟨"EngraversHouse", "note", "(IIIII)I"⟩, ⟨"EngraversHouse$Score", "wholeBar", "(II)LEngraversHouse$Bar;"⟩, ⟨"EngraversHouse$Bar", "hasNote", "(I)Z"⟩, ⟨"EngraversHouse", "isRest", "(I)Z"⟩, ⟨"EngraversHouse", "pitchOf", "(I)I"⟩, ⟨"EngraversHouse", "withPitch", "(II)I"⟩, ⟨"EngraversHouse", "repitched", "(LEngraversHouse$Bar;III)I"⟩, ⟨"EngraversHouse", "alter", "(IIIII)I"⟩, ⟨"EngraversHouse", "isTape", "(I)Z"⟩, ⟨"EngraversHouse", "hasStretch", "(IJJ)Z"⟩, ⟨"EngraversHouse", "takeFromTape", "(LEngraversHouse$Score;IIJ)I"⟩, ⟨"EngraversHouse", "music", "(IIIII)I"⟩, ⟨"EngraversHouse", "ended", "()I"⟩, ⟨"EngraversHouse$Edition", "scoreNumber", "()I"⟩, ⟨"EngraversHouse$Erratum", "scoreNumber", "()I"⟩]
def zYs_1 : List MethodName := [⟨"EngraversHouse$Part", "scoreNumber", "()I"⟩, ⟨"EngraversHouse$Plate", "scoreNumber", "()I"⟩, ⟨"EngraversHouse$Score", "scoreNumber", "()I"⟩, ⟨"EngraversHouse$Edition", "second", "()I"⟩, ⟨"EngraversHouse$Erratum", "voice", "()I"⟩, ⟨"EngraversHouse$Erratum", "second", "()I"⟩, ⟨"EngraversHouse$Part", "second", "()I"⟩, ⟨"EngraversHouse$Plate", "second", "()I"⟩, ⟨"EngraversHouse$Score", "second", "()I"⟩, ⟨"EngraversHouse$Edition", "third", "()I"⟩, ⟨"EngraversHouse$Erratum", "bar", "()I"⟩, ⟨"EngraversHouse$Erratum", "third", "()I"⟩, ⟨"EngraversHouse$Part", "third", "()I"⟩, ⟨"EngraversHouse$Plate", "third", "()I"⟩, ⟨"EngraversHouse$Score", "third", "()I"⟩, ⟨"EngraversHouse", "of", "(II)I"⟩, ⟨"EngraversHouse", "bars", "(II)I"⟩, ⟨"EngraversHouse$Part", "<init>", "(IILEngraversHouse$Score;II)V"⟩, ⟨"EngraversHouse", "part", "(III)I"⟩, ⟨"EngraversHouse", "partAt", "(I)LEngraversHouse$Part;"⟩, ⟨"EngraversHouse$Bar", "clearNotes", "()V"⟩, ⟨"EngraversHouse", "shifted", "(II)I"⟩, ⟨"EngraversHouse$Bar", "joinNote", "(I)V"⟩, ⟨"EngraversHouse$Part", "barAsRead", "(I)LEngraversHouse$Bar;"⟩, ⟨"EngraversHouse", "tellNote", "(LEngraversHouse$Bar;I)I"⟩, ⟨"EngraversHouse", "heard", "(III)I"⟩, ⟨"EngraversHouse$Part", "barCount", "()I"⟩, ⟨"EngraversHouse$Bar", "copyShifted", "(LEngraversHouse$Bar;I)V"⟩, ⟨"EngraversHouse$Plate", "<init>", "(ILEngraversHouse$Part;II)V"⟩, ⟨"EngraversHouse", "plate", "(III)I"⟩, ⟨"EngraversHouse", "plateAt", "(I)LEngraversHouse$Plate;"⟩, ⟨"EngraversHouse$Plate", "cutBar", "(I)LEngraversHouse$Bar;"⟩, ⟨"EngraversHouse", "mend", "(IIII)I"⟩, ⟨"EngraversHouse$Bar", "sameNotes", "(LEngraversHouse$Bar;)Z"⟩, ⟨"EngraversHouse$Plate", "unlikeBars", "()I"⟩, ⟨"EngraversHouse", "differs", "(II)I"⟩, ⟨"EngraversHouse", "press", "(I)I"⟩, ⟨"EngraversHouse$Edition", "<init>", "(ILEngraversHouse$Score;I)V"⟩, ⟨"EngraversHouse$Edition", "takePlate", "(LEngraversHouse$Plate;)V"⟩, ⟨"EngraversHouse", "edition", "()I"⟩, ⟨"EngraversHouse", "editionAt", "(I)LEngraversHouse$Edition;"⟩, ⟨"EngraversHouse$Edition", "barOf", "(II)LEngraversHouse$Bar;"⟩, ⟨"EngraversHouse", "placeInEdition", "(III)I"⟩, ⟨"EngraversHouse", "erratumAt", "(I)LEngraversHouse$Erratum;"⟩, ⟨"EngraversHouse", "amendedNote", "(LEngraversHouse$Edition;IIII)I"⟩, ⟨"EngraversHouse", "printed", "(IIIII)I"⟩, ⟨"EngraversHouse$Erratum", "<init>", "(ILEngraversHouse$Edition;III)V"⟩, ⟨"EngraversHouse", "erratum", "(IIIIII)I"⟩, ⟨"EngraversHouse$Erratum", "noteIndex", "()I"⟩, ⟨"EngraversHouse", "idle", "(I)I"⟩, ⟨"EngraversHouse$Edition", "fillRow", "(LEngraversHouse$Bar;LEngraversHouse$Edition;I)V"⟩, ⟨"EngraversHouse$Edition", "changesTo", "(LEngraversHouse$Edition;I)I"⟩, ⟨"EngraversHouse$Edition", "distanceTo", "(LEngraversHouse$Edition;)I"⟩, ⟨"EngraversHouse", "changes", "(III)I"⟩, ⟨"EngraversHouse$Edition", "mayHangOn", "(LEngraversHouse$Edition;)V"⟩, ⟨"EngraversHouse", "nearestToTree", "(LEngraversHouse$Score;)LEngraversHouse$Edition;"⟩, ⟨"EngraversHouse", "growTree", "(LEngraversHouse$Score;)V"⟩, ⟨"EngraversHouse", "hangs", "(I)I"⟩, ⟨"EngraversHouse$Bar", "restsFirst", "()Z"⟩, ⟨"EngraversHouse$Bar", "restsLast", "()Z"⟩]
def zYs_2 : List MethodName := [⟨"EngraversHouse$Layout", "measure", "(LEngraversHouse$Part;)V"⟩, ⟨"EngraversHouse$Layout", "fits", "(I)Z"⟩, ⟨"EngraversHouse$Layout", "placeBehind", "(II)I"⟩, ⟨"EngraversHouse$Layout", "fillLine", "(IIII)V"⟩, ⟨"EngraversHouse$Layout", "fill", "(II)V"⟩, ⟨"EngraversHouse$Layout", "leastCost", "()I"⟩, ⟨"EngraversHouse$Layout", "lineCount", "(I)I"⟩, ⟨"EngraversHouse$Layout", "barsInLine", "(II)I"⟩, ⟨"EngraversHouse", "pages", "(IIII)I"⟩, ⟨"EngraversHouse", "feed", "(II)I"⟩, ⟨"EngraversHouse", "isDay", "(I)Z"⟩, ⟨"EngraversHouse$Contract", "<init>", "(II[I)V"⟩, ⟨"EngraversHouse$Contract", "sees", "(C)Z"⟩, ⟨"EngraversHouse$Contract", "skip", "(Ljava/lang/String;)V"⟩, ⟨"EngraversHouse$Contract", "pick", "(Ljava/lang/String;)I"⟩, ⟨"EngraversHouse$Contract", "readNumber", "()I"⟩, ⟨"EngraversHouse$Contract", "readTerm", "()V"⟩, ⟨"EngraversHouse$Contract", "nested", "(ZI)Z"⟩, ⟨"EngraversHouse$Contract", "single", "(I)Z"⟩, ⟨"EngraversHouse$Contract", "condition", "(I)Z"⟩, ⟨"EngraversHouse$Contract", "readClause", "(II)V"⟩, ⟨"EngraversHouse$Contract", "readAll", "(II)Z"⟩, ⟨"EngraversHouse", "contract", "(II)I"⟩, ⟨"EngraversHouse", "contractAt", "(I)LEngraversHouse$Contract;"⟩, ⟨"EngraversHouse", "contractNumber", "(II)I"⟩, ⟨"EngraversHouse", "lifeBy", "(LEngraversHouse$Contract;)I"⟩, ⟨"EngraversHouse", "lawful", "(III)I"⟩, ⟨"EngraversHouse", "daysSinceDeath", "(II)I"⟩, ⟨"EngraversHouse", "hasRight", "(ILEngraversHouse$Contract;I)Z"⟩, ⟨"EngraversHouse", "right", "(III)I"⟩, ⟨"EngraversHouse", "wholeYearsSince", "(II)I"⟩, ⟨"EngraversHouse$Contract", "asked", "(ZII)V"⟩, ⟨"EngraversHouse$Contract", "shareOf", "(III)I"⟩, ⟨"EngraversHouse", "paid", "(IIIIIII)I"⟩, ⟨"EngraversHouse", "set", "(I)I"⟩, ⟨"EngraversHouse", "isTown", "(I)Z"⟩, ⟨"EngraversHouse", "setAt", "(I)LEngraversHouse$Part;"⟩, ⟨"EngraversHouse", "stands", "(II)I"⟩, ⟨"EngraversHouse$Tour", "wayBetween", "(II)I"⟩, ⟨"EngraversHouse$Tour", "changeWay", "(III)I"⟩, ⟨"EngraversHouse", "way", "(III)I"⟩, ⟨"EngraversHouse$Tour", "addAsk", "(IIII)I"⟩, ⟨"EngraversHouse", "ask", "(IIII)I"⟩, ⟨"EngraversHouse", "askless", "()I"⟩, ⟨"EngraversHouse$Tour", "worthFrom", "(I)I"⟩, ⟨"EngraversHouse$Tour", "isBetter", "(II)Z"⟩, ⟨"EngraversHouse$Tour", "bestBehind", "(III)I"⟩, ⟨"EngraversHouse$Tour", "bitsFrom", "(I)I"⟩, ⟨"EngraversHouse$Tour", "bestFirst", "(II)I"⟩, ⟨"EngraversHouse", "hire", "(II)I"⟩, ⟨"EngraversHouse", "month", "(I)I"⟩, ⟨"EngraversHouse", "costs", "(III)I"⟩, ⟨"EngraversHouse$PrintPlan", "asksTooMuch", "()Z"⟩, ⟨"EngraversHouse$PrintPlan", "isBetter", "(IIII)Z"⟩, ⟨"EngraversHouse$PrintPlan", "printAt", "(I)V"⟩, ⟨"EngraversHouse$PrintPlan", "bestFirst", "()I"⟩, ⟨"EngraversHouse", "prints", "(I)I"⟩, ⟨"EngraversHouse", "isHand", "(I)Z"⟩, ⟨"EngraversHouse", "proof", "(III)I"⟩, ⟨"EngraversHouse", "commonDivisor", "(II)I"⟩]
def zYs_3 : List MethodName := [⟨"EngraversHouse", "left", "(IIII)J"⟩, ⟨"EngraversHouse", "missed", "(II)I"⟩, ⟨"EngraversHouse", "ownBody", "(II)I"⟩, ⟨"EngraversHouse", "kindAbove", "(I)I"⟩, ⟨"EngraversHouse", "answerOf", "(ILEngraversHouse$Thing;III)I"⟩, ⟨"EngraversHouse", "runBody", "(LEngraversHouse$Thing;IIII)I"⟩, ⟨"EngraversHouse", "act", "(III)I"⟩, ⟨"EngraversHouse", "trace", "(I)I"⟩, ⟨"EngraversHouse", "isUnder", "(II)Z"⟩, ⟨"EngraversHouse", "taken", "(II)I"⟩, ⟨"EngraversHouse", "count", "(I)I"⟩, ⟨"EngraversHouse", "tape", "(III)I"⟩, ⟨"EngraversHouse", "asItem", "(II)I"⟩, ⟨"EngraversHouse", "item", "(III)I"⟩, ⟨"EngraversHouse", "read", "(II)J"⟩, ⟨"EngraversHouse", "shift", "(IIIII)I"⟩, ⟨"EngraversHouseModel", "in", "(III)Z"⟩, ⟨"EngraversHouseModel", "isDay", "(I)Z"⟩, ⟨"EngraversHouseModel", "<init>", "()V"⟩, ⟨"EngraversHouseModel", "isThing", "(I)Z"⟩, ⟨"EngraversHouseModel", "isUnder", "(II)Z"⟩, ⟨"EngraversHouseModel", "isMusic", "(I)Z"⟩, ⟨"EngraversHouseModel", "isPart", "(I)Z"⟩, ⟨"EngraversHouseModel", "add", "(IIII)I"⟩, ⟨"EngraversHouseModel", "pass", "(I)I"⟩, ⟨"EngraversHouseModel", "isAuthor", "(I)Z"⟩, ⟨"EngraversHouseModel", "author", "()I"⟩, ⟨"EngraversHouseModel", "died", "(II)I"⟩, ⟨"EngraversHouseModel", "areScore", "(II)Z"⟩, ⟨"EngraversHouseModel", "score", "(III)I"⟩, ⟨"EngraversHouseModel", "derive", "(IIII)I"⟩, ⟨"EngraversHouseModel", "barAt", "(III)I"⟩, ⟨"EngraversHouseModel", "filled", "(I)I"⟩, ⟨"EngraversHouseModel", "whole", "(II)I"⟩, ⟨"EngraversHouseModel", "put", "(IIIII)I"⟩, ⟨"EngraversHouseModel", "isNote", "(III)Z"⟩, ⟨"EngraversHouseModel", "note", "(IIIII)I"⟩, ⟨"EngraversHouseModel", "alter", "(IIIII)I"⟩, ⟨"EngraversHouseModel", "music", "(IIIII)I"⟩, ⟨"EngraversHouseModel", "ended", "()I"⟩, ⟨"EngraversHouseModel", "scoreOf", "(I)I"⟩, ⟨"EngraversHouseModel", "errataOf", "(I)I"⟩, ⟨"EngraversHouseModel", "of", "(II)I"⟩, ⟨"EngraversHouseModel", "bars", "(II)I"⟩, ⟨"EngraversHouseModel", "readBar", "(II)V"⟩, ⟨"EngraversHouseModel", "told", "(III)I"⟩, ⟨"EngraversHouseModel", "part", "(III)I"⟩, ⟨"EngraversHouseModel", "barsOf", "(I)I"⟩, ⟨"EngraversHouseModel", "heard", "(III)I"⟩, ⟨"EngraversHouseModel", "plate", "(III)I"⟩, ⟨"EngraversHouseModel", "mend", "(IIII)I"⟩, ⟨"EngraversHouseModel", "isOff", "(II)Z"⟩, ⟨"EngraversHouseModel", "offs", "(I)I"⟩, ⟨"EngraversHouseModel", "bitsOf", "(I)I"⟩, ⟨"EngraversHouseModel", "differs", "(II)I"⟩, ⟨"EngraversHouseModel", "press", "(I)I"⟩, ⟨"EngraversHouseModel", "edition", "()I"⟩, ⟨"EngraversHouseModel", "amendedPitch", "(IIIII)I"⟩, ⟨"EngraversHouseModel", "hasBar", "(III)Z"⟩, ⟨"EngraversHouseModel", "printed", "(IIIII)I"⟩]
def zYs_4 : List MethodName := [⟨"EngraversHouseModel", "erratum", "(IIIIII)I"⟩, ⟨"EngraversHouseModel", "idle", "(I)I"⟩, ⟨"EngraversHouseModel", "areAlike", "(II)Z"⟩, ⟨"EngraversHouseModel", "changesOf", "(III)I"⟩, ⟨"EngraversHouseModel", "distance", "(II)I"⟩, ⟨"EngraversHouseModel", "changes", "(III)I"⟩, ⟨"EngraversHouseModel", "hangs", "(I)I"⟩, ⟨"EngraversHouseModel", "pages", "(IIII)I"⟩, ⟨"EngraversHouseModel", "feed", "(II)I"⟩, ⟨"EngraversHouseModel", "look", "()I"⟩, ⟨"EngraversHouseModel", "takes0", "(I)Z"⟩, ⟨"EngraversHouseModel", "digits", "()Z"⟩, ⟨"EngraversHouseModel", "lay", "(II)V"⟩, ⟨"EngraversHouseModel", "opens", "()Z"⟩, ⟨"EngraversHouseModel", "both", "()Z"⟩, ⟨"EngraversHouseModel", "either", "()Z"⟩, ⟨"EngraversHouseModel", "factor", "()Z"⟩, ⟨"EngraversHouseModel", "share", "()Z"⟩, ⟨"EngraversHouseModel", "clause", "()Z"⟩, ⟨"EngraversHouseModel", "contract", "(II)I"⟩, ⟨"EngraversHouseModel", "contractOf", "(II)I"⟩, ⟨"EngraversHouseModel", "lawful", "(III)I"⟩, ⟨"EngraversHouseModel", "isAlive", "(II)Z"⟩, ⟨"EngraversHouseModel", "hasRight", "(III)Z"⟩, ⟨"EngraversHouseModel", "right", "(III)I"⟩, ⟨"EngraversHouseModel", "holdsFor", "(IZII)Z"⟩, ⟨"EngraversHouseModel", "gets", "(IIIZIIII)I"⟩, ⟨"EngraversHouseModel", "paid", "(IIIIIII)I"⟩, ⟨"EngraversHouseModel", "isTown", "(I)Z"⟩, ⟨"EngraversHouseModel", "set", "(I)I"⟩, ⟨"EngraversHouseModel", "stands", "(II)I"⟩, ⟨"EngraversHouseModel", "way", "(III)I"⟩, ⟨"EngraversHouseModel", "ask", "(IIII)I"⟩, ⟨"EngraversHouseModel", "askless", "()I"⟩, ⟨"EngraversHouseModel", "serves", "(II)Z"⟩, ⟨"EngraversHouseModel", "hire", "(II)I"⟩, ⟨"EngraversHouseModel", "month", "(I)I"⟩, ⟨"EngraversHouseModel", "costs", "(III)I"⟩, ⟨"EngraversHouseModel", "costOf", "(I)I"⟩, ⟨"EngraversHouseModel", "prints", "(I)I"⟩, ⟨"EngraversHouseModel", "proof", "(III)I"⟩, ⟨"EngraversHouseModel", "left", "(IIII)J"⟩, ⟨"EngraversHouseModel", "missed", "(II)I"⟩, ⟨"EngraversHouseModel", "ran", "(I)V"⟩, ⟨"EngraversHouseModel", "plainHolds", "(II)I"⟩, ⟨"EngraversHouseModel", "scoreHolds", "(II)I"⟩, ⟨"EngraversHouseModel", "holds", "(II)I"⟩, ⟨"EngraversHouseModel", "plainTurns", "(II)I"⟩, ⟨"EngraversHouseModel", "partTurns", "(II)I"⟩, ⟨"EngraversHouseModel", "turns", "(II)I"⟩, ⟨"EngraversHouseModel", "plainEarns", "(II)I"⟩, ⟨"EngraversHouseModel", "earns", "(II)I"⟩, ⟨"EngraversHouseModel", "act", "(III)I"⟩, ⟨"EngraversHouseModel", "trace", "(I)I"⟩, ⟨"EngraversHouseModel", "taken", "(II)I"⟩, ⟨"EngraversHouseModel", "count", "(I)I"⟩, ⟨"EngraversHouseModel", "isTape", "(I)Z"⟩, ⟨"EngraversHouseModel", "tape", "(III)I"⟩, ⟨"EngraversHouseModel", "item", "(III)I"⟩, ⟨"EngraversHouseModel", "read", "(II)J"⟩]
def zYs_5 : List MethodName := [⟨"EngraversHouseModel", "shift", "(IIIII)I"⟩, ⟨"EngraversHouseLaw", "law", "([I)Z"⟩]
def zYs : List MethodName := zYs_0 ++ zYs_1 ++ zYs_2 ++ zYs_3 ++ zYs_4 ++ zYs_5
def zCs_0 : List ByteArray := [prog_17_method_49_code, prog_17_method_48_code, prog_23_method_103_code, prog_23_method_123_code, prog_24_method_11_code, prog_19_method_155_code, prog_19_method_152_code, prog_19_method_154_code, prog_19_method_54_code, prog_20_method_2_code, prog_19_method_56_code, prog_20_method_4_code, prog_20_method_23_code, prog_20_method_22_code, prog_19_method_80_code, prog_19_method_79_code, prog_6_method_1_code, prog_12_method_1_code, prog_9_method_1_code, prog_1_method_1_code, prog_1_method_51_code, prog_1_method_2_code, prog_1_method_3_code, prog_1_method_58_code, prog_1_method_4_code, prog_1_method_53_code, prog_11_method_1_code, prog_10_method_1_code, prog_1_method_68_code, prog_1_method_5_code, prog_1_method_69_code, prog_1_method_71_code, prog_10_method_2_code, prog_1_method_6_code, prog_1_method_70_code, prog_10_method_6_code, prog_1_method_57_code, prog_1_method_60_code, prog_10_method_7_code, prog_10_method_8_code, prog_1_method_63_code, prog_2_method_1_code, prog_2_method_3_code, prog_10_method_11_code, prog_10_method_9_code, prog_1_method_7_code, prog_10_method_10_code, prog_2_method_2_code, prog_1_method_61_code, prog_1_method_62_code, prog_1_method_65_code, prog_1_method_67_code, prog_1_method_8_code, prog_1_method_56_code, prog_1_method_77_code, prog_1_method_79_code, prog_1_method_9_code, prog_1_method_10_code, prog_4_method_2_code, prog_5_method_5_code]
def zCs_1 : List ByteArray := [prog_7_method_2_code, prog_8_method_2_code, prog_10_method_3_code, prog_4_method_3_code, prog_5_method_2_code, prog_5_method_6_code, prog_7_method_3_code, prog_8_method_3_code, prog_10_method_4_code, prog_4_method_4_code, prog_5_method_3_code, prog_5_method_7_code, prog_7_method_4_code, prog_8_method_4_code, prog_10_method_5_code, prog_1_method_11_code, prog_1_method_12_code, prog_7_method_1_code, prog_1_method_13_code, prog_1_method_72_code, prog_2_method_5_code, prog_1_method_64_code, prog_2_method_4_code, prog_7_method_6_code, prog_1_method_66_code, prog_1_method_14_code, prog_7_method_5_code, prog_2_method_6_code, prog_8_method_1_code, prog_1_method_15_code, prog_1_method_74_code, prog_8_method_5_code, prog_1_method_16_code, prog_2_method_7_code, prog_8_method_6_code, prog_1_method_17_code, prog_1_method_18_code, prog_4_method_1_code, prog_4_method_6_code, prog_1_method_19_code, prog_1_method_75_code, prog_4_method_5_code, prog_1_method_80_code, prog_1_method_76_code, prog_1_method_81_code, prog_1_method_20_code, prog_5_method_1_code, prog_1_method_21_code, prog_5_method_4_code, prog_1_method_22_code, prog_4_method_8_code, prog_4_method_7_code, prog_4_method_9_code, prog_1_method_23_code, prog_4_method_10_code, prog_1_method_83_code, prog_1_method_82_code, prog_1_method_24_code, prog_2_method_8_code, prog_2_method_9_code]
def zCs_2 : List ByteArray := [prog_6_method_2_code, prog_6_method_3_code, prog_6_method_6_code, prog_6_method_5_code, prog_6_method_4_code, prog_6_method_7_code, prog_6_method_8_code, prog_6_method_9_code, prog_1_method_25_code, prog_1_method_26_code, prog_1_method_52_code, prog_3_method_1_code, prog_3_method_7_code, prog_3_method_9_code, prog_3_method_8_code, prog_3_method_10_code, prog_3_method_6_code, prog_3_method_13_code, prog_3_method_12_code, prog_3_method_11_code, prog_3_method_5_code, prog_3_method_4_code, prog_1_method_27_code, prog_1_method_84_code, prog_1_method_85_code, prog_1_method_86_code, prog_1_method_28_code, prog_1_method_87_code, prog_1_method_89_code, prog_1_method_29_code, prog_1_method_88_code, prog_3_method_2_code, prog_3_method_3_code, prog_1_method_30_code, prog_1_method_31_code, prog_1_method_54_code, prog_1_method_73_code, prog_1_method_32_code, prog_12_method_2_code, prog_12_method_3_code, prog_1_method_33_code, prog_12_method_4_code, prog_1_method_34_code, prog_1_method_35_code, prog_12_method_8_code, prog_12_method_7_code, prog_12_method_6_code, prog_12_method_9_code, prog_12_method_5_code, prog_1_method_36_code, prog_1_method_37_code, prog_1_method_38_code, prog_9_method_2_code, prog_9_method_5_code, prog_9_method_4_code, prog_9_method_3_code, prog_1_method_39_code, prog_1_method_55_code, prog_1_method_40_code, prog_1_method_59_code]
def zCs_3 : List ByteArray := [prog_1_method_41_code, prog_1_method_42_code, prog_1_method_91_code, prog_1_method_92_code, prog_1_method_94_code, prog_1_method_93_code, prog_1_method_43_code, prog_1_method_44_code, prog_1_method_90_code, prog_1_method_45_code, prog_1_method_46_code, prog_1_method_47_code, prog_1_method_78_code, prog_1_method_48_code, prog_1_method_49_code, prog_1_method_50_code, prog_14_method_2_code, prog_14_method_3_code, prog_14_method_4_code, prog_14_method_5_code, prog_14_method_6_code, prog_14_method_7_code, prog_14_method_8_code, prog_14_method_9_code, prog_14_method_10_code, prog_14_method_11_code, prog_14_method_12_code, prog_14_method_13_code, prog_14_method_14_code, prog_14_method_15_code, prog_14_method_16_code, prog_14_method_17_code, prog_14_method_18_code, prog_14_method_19_code, prog_14_method_20_code, prog_14_method_21_code, prog_14_method_22_code, prog_14_method_23_code, prog_14_method_24_code, prog_14_method_25_code, prog_14_method_26_code, prog_14_method_27_code, prog_14_method_28_code, prog_14_method_29_code, prog_14_method_30_code, prog_14_method_31_code, prog_14_method_32_code, prog_14_method_33_code, prog_14_method_34_code, prog_14_method_35_code, prog_14_method_36_code, prog_14_method_37_code, prog_14_method_38_code, prog_14_method_39_code, prog_14_method_40_code, prog_14_method_41_code, prog_14_method_42_code, prog_14_method_43_code, prog_14_method_44_code, prog_14_method_45_code]
def zCs_4 : List ByteArray := [prog_14_method_46_code, prog_14_method_47_code, prog_14_method_48_code, prog_14_method_49_code, prog_14_method_50_code, prog_14_method_51_code, prog_14_method_52_code, prog_14_method_53_code, prog_14_method_54_code, prog_14_method_55_code, prog_14_method_56_code, prog_14_method_57_code, prog_14_method_58_code, prog_14_method_59_code, prog_14_method_61_code, prog_14_method_62_code, prog_14_method_60_code, prog_14_method_63_code, prog_14_method_64_code, prog_14_method_65_code, prog_14_method_66_code, prog_14_method_67_code, prog_14_method_68_code, prog_14_method_69_code, prog_14_method_70_code, prog_14_method_71_code, prog_14_method_72_code, prog_14_method_73_code, prog_14_method_74_code, prog_14_method_75_code, prog_14_method_76_code, prog_14_method_77_code, prog_14_method_78_code, prog_14_method_79_code, prog_14_method_80_code, prog_14_method_81_code, prog_14_method_82_code, prog_14_method_83_code, prog_14_method_84_code, prog_14_method_85_code, prog_14_method_86_code, prog_14_method_87_code, prog_14_method_88_code, prog_14_method_89_code, prog_14_method_90_code, prog_14_method_91_code, prog_14_method_92_code, prog_14_method_93_code, prog_14_method_94_code, prog_14_method_95_code, prog_14_method_96_code, prog_14_method_97_code, prog_14_method_98_code, prog_14_method_99_code, prog_14_method_100_code, prog_14_method_101_code, prog_14_method_102_code, prog_14_method_103_code, prog_14_method_104_code, prog_14_method_105_code]
def zCs_5 : List ByteArray := [prog_14_method_106_code, code]
def zCs : List ByteArray := zCs_0 ++ zCs_1 ++ zCs_2 ++ zCs_3 ++ zCs_4 ++ zCs_5
def zMs_0 : List Nat := [1, 2, 4, 3, 3, 2, 1, 1, 1, 2, 2, 1, 6, 4, 3, 2, 1, 2, 1, 1, 3, 2, 1, 2, 3, 1, 3, 6, 2, 4, 2, 4, 1, 6, 2, 2, 3, 3, 3, 3, 1, 1, 2, 6, 2, 8, 4, 2, 1, 1, 2, 5, 8, 1, 6, 11, 8, 1, 1, 1]
def zMs_1 : List Nat := [1, 1, 1, 1, 1, 1, 1, 1, 1, 1, 1, 1, 1, 1, 1, 4, 4, 6, 5, 4, 1, 2, 3, 4, 2, 5, 1, 4, 7, 5, 4, 2, 7, 4, 4, 5, 3, 4, 4, 3, 4, 3, 3, 4, 10, 9, 6, 9, 1, 4, 7, 6, 6, 6, 3, 5, 6, 3, 1, 1]
def zMs_2 : List Nat := [4, 4, 2, 10, 5, 1, 5, 6, 6, 4, 1, 4, 2, 3, 3, 4, 3, 4, 6, 6, 7, 5, 4, 2, 7, 1, 6, 3, 5, 4, 3, 4, 5, 14, 3, 1, 3, 5, 3, 5, 4, 6, 5, 2, 2, 3, 7, 2, 6, 5, 2, 5, 3, 5, 7, 3, 3, 1, 5, 3]
def zMs_3 : List Nat := [11, 4, 3, 1, 6, 8, 5, 2, 4, 4, 2, 4, 2, 4, 3, 6, 3, 1, 3, 2, 2, 2, 2, 6, 2, 2, 1, 3, 2, 5, 6, 4, 4, 4, 11, 3, 7, 8, 12, 1, 2, 4, 3, 3, 8, 3, 4, 2, 4, 8, 8, 5, 4, 3, 5, 2, 9, 8, 4, 7]
def zMs_4 : List Nat := [8, 3, 4, 9, 5, 4, 9, 13, 4, 1, 2, 2, 3, 1, 1, 1, 3, 3, 1, 5, 5, 5, 3, 4, 4, 9, 13, 14, 1, 2, 4, 5, 5, 2, 8, 8, 2, 5, 7, 6, 4, 12, 4, 2, 3, 3, 3, 3, 4, 4, 3, 4, 4, 2, 3, 2, 1, 5, 4, 3]
def zMs_5 : List Nat := [7, 4]
def zMs : List Nat := zMs_0 ++ zMs_1 ++ zMs_2 ++ zMs_3 ++ zMs_4 ++ zMs_5
def zRs_0 : List (Option FieldType) := [(Option.some FieldType.int), (Option.some FieldType.int), (Option.none : Option FieldType), (Option.some (FieldType.array FieldType.int)), (Option.some FieldType.int), (Option.none : Option FieldType), (Option.some FieldType.byte), (Option.some FieldType.boolean), (Option.some FieldType.int), (Option.some FieldType.char), (Option.some FieldType.char), (Option.some FieldType.boolean), (Option.some FieldType.int), (Option.some FieldType.int), (Option.some FieldType.int), (Option.some FieldType.int), (Option.none : Option FieldType), (Option.none : Option FieldType), (Option.none : Option FieldType), (Option.none : Option FieldType), (Option.some FieldType.boolean), (Option.some FieldType.int), (Option.some FieldType.int), (Option.some FieldType.boolean), (Option.some FieldType.int), (Option.some FieldType.boolean), (Option.none : Option FieldType), (Option.none : Option FieldType), (Option.some FieldType.int), (Option.some FieldType.int), (Option.some (FieldType.object "EngraversHouse$Thing")), (Option.some (FieldType.object "EngraversHouse$Score")), (Option.some (FieldType.object "EngraversHouse$Score")), (Option.some FieldType.int), (Option.some FieldType.int), (Option.some FieldType.boolean), (Option.some FieldType.boolean), (Option.some FieldType.int), (Option.some (FieldType.object "EngraversHouse$Bar")), (Option.some (FieldType.object "EngraversHouse$Bar")), (Option.some FieldType.int), (Option.none : Option FieldType), (Option.none : Option FieldType), (Option.some FieldType.int), (Option.some FieldType.int), (Option.some FieldType.int), (Option.some (FieldType.object "EngraversHouse$Bar")), (Option.some FieldType.boolean), (Option.some FieldType.boolean), (Option.some FieldType.int), (Option.some FieldType.int), (Option.some FieldType.int), (Option.some FieldType.int), (Option.some FieldType.boolean), (Option.some FieldType.boolean), (Option.some FieldType.int), (Option.some FieldType.int), (Option.some FieldType.int), (Option.some FieldType.int), (Option.some FieldType.int)]
def zRs_1 : List (Option FieldType) := [(Option.some FieldType.int), (Option.some FieldType.int), (Option.some FieldType.int), (Option.some FieldType.int), (Option.some FieldType.int), (Option.some FieldType.int), (Option.some FieldType.int), (Option.some FieldType.int), (Option.some FieldType.int), (Option.some FieldType.int), (Option.some FieldType.int), (Option.some FieldType.int), (Option.some FieldType.int), (Option.some FieldType.int), (Option.some FieldType.int), (Option.some FieldType.int), (Option.some FieldType.int), (Option.none : Option FieldType), (Option.some FieldType.int), (Option.some (FieldType.object "EngraversHouse$Part")), (Option.none : Option FieldType), (Option.some FieldType.int), (Option.none : Option FieldType), (Option.some (FieldType.object "EngraversHouse$Bar")), (Option.some FieldType.int), (Option.some FieldType.int), (Option.some FieldType.int), (Option.none : Option FieldType), (Option.none : Option FieldType), (Option.some FieldType.int), (Option.some (FieldType.object "EngraversHouse$Plate")), (Option.some (FieldType.object "EngraversHouse$Bar")), (Option.some FieldType.int), (Option.some FieldType.boolean), (Option.some FieldType.int), (Option.some FieldType.int), (Option.some FieldType.int), (Option.none : Option FieldType), (Option.none : Option FieldType), (Option.some FieldType.int), (Option.some (FieldType.object "EngraversHouse$Edition")), (Option.some (FieldType.object "EngraversHouse$Bar")), (Option.some FieldType.int), (Option.some (FieldType.object "EngraversHouse$Erratum")), (Option.some FieldType.int), (Option.some FieldType.int), (Option.none : Option FieldType), (Option.some FieldType.int), (Option.some FieldType.int), (Option.some FieldType.int), (Option.none : Option FieldType), (Option.some FieldType.int), (Option.some FieldType.int), (Option.some FieldType.int), (Option.none : Option FieldType), (Option.some (FieldType.object "EngraversHouse$Edition")), (Option.none : Option FieldType), (Option.some FieldType.int), (Option.some FieldType.boolean), (Option.some FieldType.boolean)]
def zRs_2 : List (Option FieldType) := [(Option.none : Option FieldType), (Option.some FieldType.boolean), (Option.some FieldType.int), (Option.none : Option FieldType), (Option.none : Option FieldType), (Option.some FieldType.int), (Option.some FieldType.int), (Option.some FieldType.int), (Option.some FieldType.int), (Option.some FieldType.int), (Option.some FieldType.boolean), (Option.none : Option FieldType), (Option.some FieldType.boolean), (Option.none : Option FieldType), (Option.some FieldType.int), (Option.some FieldType.int), (Option.none : Option FieldType), (Option.some FieldType.boolean), (Option.some FieldType.boolean), (Option.some FieldType.boolean), (Option.none : Option FieldType), (Option.some FieldType.boolean), (Option.some FieldType.int), (Option.some (FieldType.object "EngraversHouse$Contract")), (Option.some FieldType.int), (Option.some FieldType.int), (Option.some FieldType.int), (Option.some FieldType.int), (Option.some FieldType.boolean), (Option.some FieldType.int), (Option.some FieldType.int), (Option.none : Option FieldType), (Option.some FieldType.int), (Option.some FieldType.int), (Option.some FieldType.int), (Option.some FieldType.boolean), (Option.some (FieldType.object "EngraversHouse$Part")), (Option.some FieldType.int), (Option.some FieldType.int), (Option.some FieldType.int), (Option.some FieldType.int), (Option.some FieldType.int), (Option.some FieldType.int), (Option.some FieldType.int), (Option.some FieldType.int), (Option.some FieldType.boolean), (Option.some FieldType.int), (Option.some FieldType.int), (Option.some FieldType.int), (Option.some FieldType.int), (Option.some FieldType.int), (Option.some FieldType.int), (Option.some FieldType.boolean), (Option.some FieldType.boolean), (Option.none : Option FieldType), (Option.some FieldType.int), (Option.some FieldType.int), (Option.some FieldType.boolean), (Option.some FieldType.int), (Option.some FieldType.int)]
def zRs_3 : List (Option FieldType) := [(Option.some FieldType.long), (Option.some FieldType.int), (Option.some FieldType.int), (Option.some FieldType.int), (Option.some FieldType.int), (Option.some FieldType.int), (Option.some FieldType.int), (Option.some FieldType.int), (Option.some FieldType.boolean), (Option.some FieldType.int), (Option.some FieldType.int), (Option.some FieldType.int), (Option.some FieldType.int), (Option.some FieldType.int), (Option.some FieldType.long), (Option.some FieldType.int), (Option.some FieldType.boolean), (Option.some FieldType.boolean), (Option.none : Option FieldType), (Option.some FieldType.boolean), (Option.some FieldType.boolean), (Option.some FieldType.boolean), (Option.some FieldType.boolean), (Option.some FieldType.int), (Option.some FieldType.int), (Option.some FieldType.boolean), (Option.some FieldType.int), (Option.some FieldType.int), (Option.some FieldType.boolean), (Option.some FieldType.int), (Option.some FieldType.int), (Option.some FieldType.int), (Option.some FieldType.int), (Option.some FieldType.int), (Option.some FieldType.int), (Option.some FieldType.boolean), (Option.some FieldType.int), (Option.some FieldType.int), (Option.some FieldType.int), (Option.some FieldType.int), (Option.some FieldType.int), (Option.some FieldType.int), (Option.some FieldType.int), (Option.some FieldType.int), (Option.none : Option FieldType), (Option.some FieldType.int), (Option.some FieldType.int), (Option.some FieldType.int), (Option.some FieldType.int), (Option.some FieldType.int), (Option.some FieldType.int), (Option.some FieldType.boolean), (Option.some FieldType.int), (Option.some FieldType.int), (Option.some FieldType.int), (Option.some FieldType.int), (Option.some FieldType.int), (Option.some FieldType.int), (Option.some FieldType.boolean), (Option.some FieldType.int)]
def zRs_4 : List (Option FieldType) := [(Option.some FieldType.int), (Option.some FieldType.int), (Option.some FieldType.boolean), (Option.some FieldType.int), (Option.some FieldType.int), (Option.some FieldType.int), (Option.some FieldType.int), (Option.some FieldType.int), (Option.some FieldType.int), (Option.some FieldType.int), (Option.some FieldType.boolean), (Option.some FieldType.boolean), (Option.none : Option FieldType), (Option.some FieldType.boolean), (Option.some FieldType.boolean), (Option.some FieldType.boolean), (Option.some FieldType.boolean), (Option.some FieldType.boolean), (Option.some FieldType.boolean), (Option.some FieldType.int), (Option.some FieldType.int), (Option.some FieldType.int), (Option.some FieldType.boolean), (Option.some FieldType.boolean), (Option.some FieldType.int), (Option.some FieldType.boolean), (Option.some FieldType.int), (Option.some FieldType.int), (Option.some FieldType.boolean), (Option.some FieldType.int), (Option.some FieldType.int), (Option.some FieldType.int), (Option.some FieldType.int), (Option.some FieldType.int), (Option.some FieldType.boolean), (Option.some FieldType.int), (Option.some FieldType.int), (Option.some FieldType.int), (Option.some FieldType.int), (Option.some FieldType.int), (Option.some FieldType.int), (Option.some FieldType.long), (Option.some FieldType.int), (Option.none : Option FieldType), (Option.some FieldType.int), (Option.some FieldType.int), (Option.some FieldType.int), (Option.some FieldType.int), (Option.some FieldType.int), (Option.some FieldType.int), (Option.some FieldType.int), (Option.some FieldType.int), (Option.some FieldType.int), (Option.some FieldType.int), (Option.some FieldType.int), (Option.some FieldType.int), (Option.some FieldType.boolean), (Option.some FieldType.int), (Option.some FieldType.int), (Option.some FieldType.long)]
def zRs_5 : List (Option FieldType) := [(Option.some FieldType.int), ret]
def zRs : List (Option FieldType) := zRs_0 ++ zRs_1 ++ zRs_2 ++ zRs_3 ++ zRs_4 ++ zRs_5
def zY (m : Nat) : MethodName := zYs.getD m ⟨"", "", ""⟩
def zC (m : Nat) : ByteArray := zCs.getD m ⟨#[]⟩
def zM (m : Nat) : Nat := zMs.getD m 0
def zT (m : Nat) : Option FieldType := zRs.getD m none
abbrev zN : Nat := 302
def zSi : List (Nat × String) := [(100, "l"), (102, "ie"), (104, "fe "), (106, "ast "), (121, "0123456789"), (76, "ar"), (82, "shp"), (84, " "), (94, " if "), (126, "xym!("), (134, ")"), (132, "<>")]
end
section
/-! classes by their places in vwCl; which words the machine's rows need -/
def zFt (c : Nat) : u_T := match c with
  | 0 => TX0 | 1 => TX1 | 2 => TX2 | 3 => TX3 | 4 => TX4 | 5 => TX5 | 6 => TX6 | 7 => TX7 | 8 => TX8 | 9 => TX10 | 10 => TX11 | _ => TX12
def zTy (c : Nat) : Nat → FieldType := match c with
  | 0 => tyX0 | 1 => tyX1 | 2 => tyX2 | 3 => tyX3 | 4 => tyX4 | 5 => tyX5 | 6 => tyX6 | 7 => tyX7 | 8 => tyX8 | 9 => tyX10 | 10 => tyX11 | _ => tyX12
def zNf (c : Nat) : Nat := match c with
  | 0 => 3 | 1 => 13 | 2 => 12 | 3 => 6 | 4 => 6 | 5 => 7 | 6 => 6 | 7 => 8 | 8 => 8 | 9 => 10 | 10 => 20 | _ => 82
def zRx (c : Nat) : String := match c with
  | 0 => RX0 | 1 => RX1 | 2 => RX2 | 3 => RX3 | 4 => RX4 | 5 => RX5 | 6 => RX6 | 7 => RX7 | 8 => RX8 | 9 => RX10 | 10 => RX11 | _ => RX12
theorem z_cl : ∀ c, c < 12 → vwCl[c]? = some (zRx c, zFt c, zNf c)
  | 0, _ => rfl | 1, _ => rfl | 2, _ => rfl | 3, _ => rfl | 4, _ => rfl | 5, _ => rfl | 6, _ => rfl | 7, _ => rfl | 8, _ => rfl | 9, _ => rfl | 10, _ => rfl | 11, _ => rfl
  | n + 12, h => absurd h (by omega)
theorem z_ty : ∀ c, c < 12 → ∀ k, k < zNf c → parseFieldDescriptor (zFt c k).2.2.1 = some (zTy c k)
  | 0, _ => tyX0_ok | 1, _ => tyX1_ok | 2, _ => tyX2_ok | 3, _ => tyX3_ok | 4, _ => tyX4_ok | 5, _ => tyX5_ok | 6, _ => tyX6_ok | 7, _ => tyX7_ok | 8, _ => tyX8_ok | 9, _ => tyX10_ok | 10, _ => tyX11_ok | 11, _ => tyX12_ok
  | n + 12, h => absurd h (by omega)
theorem z_nm : ∀ c, c < 12 → ∀ a, a < zNf c → ∀ b, b < zNf c → a ≠ b → (zFt c a).2.1 ≠ (zFt c b).2.1
  | 0, _ => nmX0 | 1, _ => nmX1 | 2, _ => nmX2 | 3, _ => nmX3 | 4, _ => nmX4 | 5, _ => nmX5 | 6, _ => nmX6 | 7, _ => nmX7 | 8, _ => nmX8 | 9, _ => nmX10 | 10, _ => nmX11 | 11, _ => nmX12
  | n + 12, h => absurd h (by omega)
noncomputable def zW : List Cond := lw_tbl.filter goodWord
theorem zW_good : ∀ w ∈ zW, goodWord w = true := fun _ h => (List.mem_filter.mp h).2
theorem zW_tbl : ∀ w ∈ zW, w ∈ lw_tbl := fun _ h => (List.mem_filter.mp h).1
theorem zW_in {w : Cond} {i : Nat} (h : tables_1[i]? = some w) (g : goodWord w = true) : w ∈ zW := List.mem_filter.mpr ⟨List.mem_append_right _ (List.mem_of_getElem? h), g⟩
def zAt (i : Nat) (w : Cond) : Bool := decide (tables_1[i]? = some w) && goodWord w
theorem zAt_in {i : Nat} {w : Cond} (h : zAt i w = true) : w ∈ zW := by
  simp only [zAt, Bool.and_eq_true, decide_eq_true_eq] at h
  exact zW_in h.1 h.2
def zPw : List (List Nat) := [[355, 357, 359], [896, 898, 900, 902, 904, 906, 908, 910, 912, 914, 916, 918, 920], [692, 693, 672, 674, 676, 678, 680, 682, 684, 686, 688, 690], [751, 752, 743, 745, 747, 749], [47, 49, 51, 53, 55, 57], [520, 521, 510, 512, 514, 516, 518], [602, 603, 594, 596, 598, 600], [126, 128, 130, 132, 134, 136, 138, 140], [281, 283, 269, 271, 273, 275, 277, 279], [84, 86, 88, 90, 92, 94, 96, 98, 100, 102], [166, 168, 170, 172, 174, 176, 178, 180, 182, 184, 186, 188, 190, 192, 194, 196, 198, 200, 202, 204], [1387, 1389, 1391, 1393, 1395, 1397, 1399, 1401, 1403, 1405, 1407, 1409, 1411, 1413, 1415, 1417, 1419, 1421, 1423, 1425, 1427, 1429, 1431, 1433, 1435, 1437, 1439, 1441, 1443, 1445, 1447, 1449, 1451, 1453, 1455, 1457, 1459, 1461, 1463, 1465, 1467, 1469, 1471, 1473, 1475, 1477, 1479, 1481, 1483, 1485, 1487, 1489, 1491, 1493, 1495, 1497, 1499, 1501, 1503, 1505, 1507, 1509, 1511, 1513, 1515, 1517, 1519, 1521, 1523, 1525, 1527, 1529, 1531, 1533, 1535, 1537, 1539, 1541, 1543, 1545, 1547, 1549]]
def zPc : List Nat := [631, 637, 72, 861, 972, 967, 951, 961, 947, 964, 957, 1011, 1016, 1008, 1004, 1000, 39, 68, 109, 27, 213, 210, 217, 225, 221, 232, 240, 237, 289, 229, 297, 301, 305, 293, 313, 317, 320, 323, 336, 332, 339, 343, 365, 327, 370, 309, 378, 382, 388, 391, 394, 385, 374, 401, 409, 405, 398, 413, 423, 426, 429, 432, 435, 442, 449, 445, 452, 455, 458, 464, 471, 467, 474, 477, 480, 417, 484, 493, 488, 530, 539, 542, 546, 534, 552, 526, 560, 579, 565, 556, 612, 616, 608, 628, 624, 620, 642, 651, 698, 646, 709, 713, 720, 724, 717, 705, 733, 729, 763, 757, 780, 775, 771, 767, 795, 800, 791, 787, 815, 819, 808, 823, 834, 831, 827, 838, 842, 846, 804, 850, 857, 875, 934, 943, 996, 1057, 938, 1075, 1070, 1066, 930, 926, 854, 1090, 1086, 1093, 1082, 1105, 1101, 1097, 1114, 1119, 1123, 1109, 1131, 1138, 1142, 1135, 1154, 1150, 1146, 1163, 1159, 1167, 1187, 1183, 1179, 1192, 1175, 1171, 1198, 1202, 1210, 1222, 1218, 1214, 1206, 1229, 1226, 1237, 1233, 1241, 1252, 1257, 1263, 1249, 1245, 1267, 1274, 1271, 1278, 1282, 1289, 1286, 1293, 1297, 1558, 1753, 1303, 1589, 1911, 1593, 1656, 1581, 1555, 1570, 1562, 1566, 1577, 1574, 1585, 1612, 1616, 1608, 1604, 1600, 1597, 1620, 1624, 1628, 1636, 1640, 1632, 1644, 1664, 1667, 1648, 1660, 1652, 1671, 1675, 1687, 1683, 1690, 1679, 1694, 1698, 1710, 1706, 1702, 1714, 1718, 1734, 1730, 1726, 1722, 1738, 1742, 1746, 1761, 1769, 1773, 1793, 1789, 1781, 1777, 1785, 1765, 1757, 1750, 1801, 1797, 1813, 1809, 1805, 1827, 1823, 1818, 1839, 1832, 1836, 1843, 1847, 1851, 1859, 1855, 1863, 1867, 1875, 1871, 1879, 1883, 1888, 1900, 1904, 1908, 1896, 1923, 1919, 1915, 1931, 1927, 1892, 1935, 1939, 1943, 1950, 1947, 1954, 1958, 1962]
def zPi : List Nat := [13, 13, 4, 4, 20, 18, 18, 18, 18, 19, 18, 19, 19, 19, 18, 18, 2, 3, 5, 1, 1, 1, 1, 1, 1, 1, 7, 8, 1, 1, 1, 1, 8, 1, 1, 8, 1, 1, 8, 8, 1, 9, 9, 8, 8, 1, 8, 9, 1, 1, 1, 1, 1, 1, 1, 1, 1, 1, 14, 15, 10, 11, 8, 14, 15, 15, 10, 11, 8, 14, 15, 15, 10, 11, 8, 1, 1, 10, 1, 1, 9, 1, 9, 10, 1, 1, 10, 9, 11, 1, 1, 11, 1, 9, 11, 1, 1, 14, 14, 1, 1, 14, 1, 1, 1, 1, 15, 1, 15, 1, 14, 14, 14, 1, 14, 1, 1, 1, 9, 9, 2, 2, 2, 2, 2, 2, 2, 2, 1, 1, 1, 16, 16, 16, 16, 16, 16, 16, 16, 16, 16, 16, 1, 1, 1, 1, 1, 1, 1, 1, 1, 16, 16, 1, 1, 1, 1, 1, 3, 3, 1, 3, 1, 1, 3, 3, 3, 3, 3, 1, 1, 1, 5, 5, 5, 5, 1, 1, 1, 1, 1, 1, 1, 1, 1, 1, 1, 1, 1, 1, 1, 1, 1, 1, 1, 1, 6, 6, 6, 6, 6, 6, 6, 6, 6, 6, 6, 6, 6, 6, 6, 6, 6, 6, 6, 6, 6, 6, 6, 6, 6, 6, 6, 6, 6, 6, 6, 6, 6, 6, 6, 6, 6, 6, 6, 6, 6, 6, 6, 6, 6, 6, 6, 6, 6, 6, 6, 6, 6, 6, 6, 6, 6, 6, 6, 6, 6, 6, 6, 6, 6, 6, 6, 6, 6, 6, 6, 6, 6, 6, 6, 6, 6, 6, 6, 6, 6, 6, 6, 6, 6, 6, 6, 6, 6, 6, 6, 6, 6, 6, 6, 6, 6, 6, 6, 6, 6, 6, 6, 6, 6]
set_option maxRecDepth 100000 in
theorem z_ws0 : ∀ c, c < 12 → ∀ k, k < zNf c → zAt ((zPw.getD c []).getD k 0) (u_lay (zRx c) (zFt c) k) = true := by decide +kernel
theorem z_ws : ∀ c, c < 12 → ∀ w ∈ u_ws (zRx c) (zFt c) (zNf c), w ∈ zW := by
  intro c hc w hw
  obtain ⟨k, hk, rfl⟩ := List.mem_map.mp hw
  exact zAt_in (z_ws0 c hc k (List.mem_range.mp hk))
set_option maxRecDepth 100000 in
theorem z_plain : ∀ m, m < 301 → plainName (zY m).cls = true := by decide +kernel
set_option maxRecDepth 100000 in
theorem z_init0 : ∀ m, m < 301 → zAt (zPi.getD m 0) (Cond.initialized (zY m).cls) = true := by decide +kernel
set_option maxRecDepth 100000 in
theorem z_code_0 : (List.range 60).map (fun m => tables_1[zPc.getD (0 + m) 0]?) = (List.range 60).map (fun m => some (Cond.code (zY (0 + m)) (zC (0 + m)) (zM (0 + m)) (zT (0 + m)))) := by rfl
set_option maxRecDepth 100000 in
theorem z_code_1 : (List.range 60).map (fun m => tables_1[zPc.getD (60 + m) 0]?) = (List.range 60).map (fun m => some (Cond.code (zY (60 + m)) (zC (60 + m)) (zM (60 + m)) (zT (60 + m)))) := by rfl
set_option maxRecDepth 100000 in
theorem z_code_2 : (List.range 60).map (fun m => tables_1[zPc.getD (120 + m) 0]?) = (List.range 60).map (fun m => some (Cond.code (zY (120 + m)) (zC (120 + m)) (zM (120 + m)) (zT (120 + m)))) := by rfl
set_option maxRecDepth 100000 in
theorem z_code_3 : (List.range 60).map (fun m => tables_1[zPc.getD (180 + m) 0]?) = (List.range 60).map (fun m => some (Cond.code (zY (180 + m)) (zC (180 + m)) (zM (180 + m)) (zT (180 + m)))) := by rfl
set_option maxRecDepth 100000 in
theorem z_code_4 : (List.range 60).map (fun m => tables_1[zPc.getD (240 + m) 0]?) = (List.range 60).map (fun m => some (Cond.code (zY (240 + m)) (zC (240 + m)) (zM (240 + m)) (zT (240 + m)))) := by rfl
set_option maxRecDepth 100000 in
theorem z_code_5 : (List.range 1).map (fun m => tables_1[zPc.getD (300 + m) 0]?) = (List.range 1).map (fun m => some (Cond.code (zY (300 + m)) (zC (300 + m)) (zM (300 + m)) (zT (300 + m)))) := by rfl
theorem z_code1 {a n : Nat} (h : (List.range n).map (fun m => tables_1[zPc.getD (a + m) 0]?) = (List.range n).map (fun m => some (Cond.code (zY (a + m)) (zC (a + m)) (zM (a + m)) (zT (a + m))))) (m : Nat) (h1 : a ≤ m) (h2 : m < a + n) : Cond.code (zY m) (zC m) (zM m) (zT m) ∈ zW := by
  have e := congrArg (fun l => l[m - a]?) h
  simp only [List.getElem?_map, List.getElem?_range (show m - a < n by omega), Option.map_some, show a + (m - a) = m by omega] at e
  exact zW_in (Option.some.inj e) rfl
theorem z_code (m : Nat) (h : m < 301) : Cond.code (zY m) (zC m) (zM m) (zT m) ∈ zW := by
  by_cases h0 : m < 60
  · exact z_code1 z_code_0 m (by omega) (by omega)
  by_cases h1 : m < 120
  · exact z_code1 z_code_1 m (by omega) (by omega)
  by_cases h2 : m < 180
  · exact z_code1 z_code_2 m (by omega) (by omega)
  by_cases h3 : m < 240
  · exact z_code1 z_code_3 m (by omega) (by omega)
  by_cases h4 : m < 300
  · exact z_code1 z_code_4 m (by omega) (by omega)
  exact z_code1 z_code_5 m (by omega) (by omega)
end
section
/-! what the abstract machine keeps: numbers within their sorts, the heap's tags -/
def zR32 (x : Int) : Prop := -2147483648 ≤ x ∧ x < 2147483648
def zR64 (x : Int) : Prop := -9223372036854775808 ≤ x ∧ x < 9223372036854775808
theorem zr_i (x : Int32) : zR32 x.toInt := by
  have h1 := Int32.le_toInt x
  have h2 := Int32.toInt_lt x
  constructor <;> omega
theorem zr_l (x : Int64) : zR64 x.toInt := by
  have h1 := Int64.le_toInt x
  have h2 := Int64.toInt_lt x
  constructor <;> omega
def zokV : zAV → Prop
  | .inl x => zR32 x
  | .inr (.inl x) => zR64 x
  | .inr (.inr _) => True
def zokS (st : List zAV) : Prop := ∀ v ∈ st, zokV v
def zokL (L : zLo) : Prop := ∀ v, some v ∈ L → zokV v
def zint (t : FieldType) : Bool := match t with
  | .int => true
  | .boolean => true
  | .byte => true
  | _ => false
/-- is place k of a cell of tag t a whole number? -/
def zis (t k : Nat) : Bool := if t < 20 then zint (zTy (t - 1) k) else (t == 30 || t == 31 || t == 32 || t == 40 || t == 41)
def zgrp (c : Nat) : List Nat := if c = 20 then [3, 4, 6, 7, 9] else [c + 1]
theorem zgrp_of {c t : Nat} (h : zisA c t = true) : t ∈ zgrp c := by
  unfold zisA at h
  unfold zgrp
  split at h
  · rename_i hc
    rw [if_pos hc]
    simp only [Bool.or_eq_true, beq_iff_eq] at h
    simp only [List.mem_cons, List.not_mem_nil, or_false]
    omega
  · rename_i hc
    rw [if_neg hc]
    simp only [beq_iff_eq] at h
    simp [h]
def zq32 (v : Int) : Bool := decide (-2147483648 ≤ v) && decide (v < 2147483648)
def zq64 (v : Int) : Bool := decide (-9223372036854775808 ≤ v) && decide (v < 9223372036854775808)
theorem zq32_of {v : Int} (h : zq32 v = true) : zR32 v := by
  simp only [zq32, Bool.and_eq_true, decide_eq_true_eq] at h
  exact h
theorem zq64_of {v : Int} (h : zq64 v = true) : zR64 v := by
  simp only [zq64, Bool.and_eq_true, decide_eq_true_eq] at h
  exact h
/-- what must stand of an instruction that sorts stay right -/
def zsc (i : zMI) : Bool := match i with
  | (1, _, _, _, v, _) => zq32 v
  | (2, _, _, _, v, _) => zq64 v
  | (79, _, _, _, v, _) => zq32 v
  | (60, _, c, k, _, _) => (zgrp c).all fun t => zis t k
  | (64, _, c, k, _, _) => (zgrp c).all fun t => !zis t k
  | (73, _, c, n, _, _) => decide (c < 12) && decide (n ≤ 100000)
  | (74, _, t, _, _, _) => t == 30 || t == 31 || t == 32
  | (75, _, t, _, _, _) => t == 33 || t == 34 || t == 35 || t == 36
  | _ => true
theorem zokS_tail {v : zAV} {st : List zAV} (h : zokS (v :: st)) : zokS st := fun w hw => h w (List.mem_cons_of_mem _ hw)
theorem zokS_head {v : zAV} {st : List zAV} (h : zokS (v :: st)) : zokV v := h v List.mem_cons_self
theorem zokS_cons {v : zAV} {st : List zAV} (hv : zokV v) (h : zokS st) : zokS (v :: st) := fun w hw => (List.mem_cons.mp hw).elim (fun e => e ▸ hv) (h w)
theorem zokL_ld {L : zLo} (h : zokL L) {a : Nat} {v : zAV} (e : zld L a = some v) : zokV v := by
  unfold zld at e
  cases hq : L[a]? with
  | none => rw [hq] at e; cases e
  | some q =>
    rw [hq] at e
    have : q = some v := e
    subst this
    exact h v (List.mem_of_getElem? hq)
theorem zokL_set {L : zLo} (h : zokL L) {a : Nat} {o : Option zAV} (ho : ∀ v, o = some v → zokV v) : zokL (L.set a o) := by
  intro v hv
  rcases List.mem_or_eq_of_mem_set hv with h1 | h1
  · exact h v h1
  · exact ho v h1.symm
theorem zokL_pre {L : zLo} (h : zokL L) (a : Nat) : zokL (zpre L a) := by
  unfold zpre
  split
  · exact h
  · split
    · exact zokL_set h (fun v hv => by cases hv)
    · exact h
theorem zokL_st1 {L : zLo} (h : zokL L) (a : Nat) {v : zAV} (hv : zokV v) : zokL (zst1 L a v) := zokL_set (zokL_pre h a) (fun w hw => by cases hw; exact hv)
theorem zokL_st2 {L : zLo} (h : zokL L) (a : Nat) {v : zAV} (hv : zokV v) : zokL (zst2 L a v) := zokL_set (zokL_set (zokL_pre h a) (fun w hw => by cases hw; exact hv)) (fun w hw => by cases hw)
theorem zr_max {x y : Int} (h1 : zR32 x) (h2 : zR32 y) : zR32 (zmax x y) := by unfold zmax; split <;> assumption
theorem zr_min {x y : Int} (h1 : zR32 x) (h2 : zR32 y) : zR32 (zmin x y) := by unfold zmin; split <;> assumption
set_option maxHeartbeats 4000000 in
theorem zps_ok {i : zMI} {L L' : zLo} {st st' : List zAV} (hc : zsc i = true) (hL : zokL L) (hs : zokS st) (h : zps i L st = some (L', st')) : zokL L' ∧ zokS st' := by
  unfold zps at h
  split at h <;> (try (split at h)) <;> (try (split at h)) <;> (try (cases h; done)) <;> simp only [Option.some.injEq, Prod.mk.injEq, reduceCtorEq] at h <;> obtain ⟨rfl, rfl⟩ := h
  all_goals first
    | exact ⟨hL, zokS_cons (zq32_of hc) hs⟩
    | exact ⟨hL, zokS_cons (zq64_of hc) hs⟩
    | exact ⟨hL, zokS_cons trivial hs⟩
    | exact ⟨hL, zokS_cons (zokL_ld hL (by assumption)) hs⟩
    | exact ⟨zokL_st1 hL _ (zokS_head hs), zokS_tail hs⟩
    | exact ⟨zokL_st2 hL _ (zokS_head hs), zokS_tail hs⟩
    | exact ⟨zokL_st1 hL _ (zr_i _), hs⟩
    | exact ⟨hL, zokS_cons (zr_i _) (zokS_tail (zokS_tail hs))⟩
    | exact ⟨hL, zokS_cons (zr_i _) (zokS_tail hs)⟩
    | exact ⟨hL, zokS_cons (zr_l _) (zokS_tail (zokS_tail hs))⟩
    | exact ⟨hL, zokS_cons (zr_l _) (zokS_tail hs)⟩
    | exact ⟨hL, zokS_cons (zr_max (zokS_head (zokS_tail hs)) (zokS_head hs)) (zokS_tail (zokS_tail hs))⟩
    | exact ⟨hL, zokS_cons (zr_min (zokS_head (zokS_tail hs)) (zokS_head hs)) (zokS_tail (zokS_tail hs))⟩
    | exact ⟨hL, zokS_cons (zokS_head hs) hs⟩
    | exact ⟨hL, zokS_cons (zokS_head hs) (zokS_cons (zokS_head (zokS_tail hs)) hs)⟩
    | exact ⟨hL, zokS_tail hs⟩
theorem zbr_ok {i : zMI} {o : Option Nat} {st st' : List zAV} (hs : zokS st) (h : zbr i st = some (o, st')) : zokS st' := by
  unfold zbr at h
  split at h <;> simp only [Option.some.injEq, Prod.mk.injEq, reduceCtorEq] at h <;> obtain ⟨-, rfl⟩ := h
  all_goals first
    | exact zokS_tail (zokS_tail hs)
    | exact zokS_tail hs
    | exact hs
end
section
def zTg (b0 : Nat) (h : zHp) (a : Nat) : Prop := ztg h a = 0 ∨ (((1 ≤ ztg h a ∧ ztg h a ≤ 12) ∨ (30 ≤ ztg h a ∧ ztg h a ≤ 37)) ∧ b0 < a ∧ a ≤ znx h) ∨ ((ztg h a = 40 ∨ ztg h a = 41 ∨ ztg h a = 50) ∧ 0 < a ∧ a ≤ b0)
def zinv (b0 : Nat) (h : zHp) : Prop := b0 ≤ znx h ∧ (∀ a, zTg b0 h a) ∧ (∀ a k, zis (ztg h a) k = true → zR32 (zct h a k)) ∧ ∀ a, zln h a ≤ 100000
def zgood (h h' : zHp) : Prop := znx h ≤ znx h' ∧ zus h ≤ zus h' ∧ ∀ a, (40 ≤ ztg h a ∨ 40 ≤ ztg h' a) → ztg h' a = ztg h a ∧ zln h' a = zln h a ∧ ∀ k, zct h' a k = zct h a k
theorem zgood_rf (h : zHp) : zgood h h := ⟨Nat.le_refl _, Nat.le_refl _, fun _ _ => ⟨rfl, rfl, fun _ => rfl⟩⟩
theorem zgood_tr {h1 h2 h3 : zHp} (a : zgood h1 h2) (b : zgood h2 h3) : zgood h1 h3 := by
  refine ⟨Nat.le_trans a.1 b.1, Nat.le_trans a.2.1 b.2.1, fun q hq => ?_⟩
  rcases hq with hq | hq
  · obtain ⟨e1, e2, e3⟩ := a.2.2 q (Or.inl hq)
    obtain ⟨f1, f2, f3⟩ := b.2.2 q (Or.inl (by rw [e1]; exact hq))
    exact ⟨f1.trans e1, f2.trans e2, fun k => (f3 k).trans (e3 k)⟩
  · obtain ⟨f1, f2, f3⟩ := b.2.2 q (Or.inr hq)
    obtain ⟨e1, e2, e3⟩ := a.2.2 q (Or.inr (by rw [← f1]; exact hq))
    exact ⟨f1.trans e1, f2.trans e2, fun k => (f3 k).trans (e3 k)⟩
theorem ztg_wr (h : zHp) (a k : Nat) (v : Int) (q : Nat) : ztg (zwr h a k v) q = ztg h q := rfl
theorem zln_wr (h : zHp) (a k : Nat) (v : Int) (q : Nat) : zln (zwr h a k v) q = zln h q := rfl
theorem znx_wr (h : zHp) (a k : Nat) (v : Int) : znx (zwr h a k v) = znx h := rfl
theorem zus_wr (h : zHp) (a k : Nat) (v : Int) : zus (zwr h a k v) = zus h := rfl
theorem zct_wr (h : zHp) (a k : Nat) (v : Int) (q j : Nat) : zct (zwr h a k v) q j = if q = a ∧ j = k then v else zct h q j := rfl
theorem ztg_al (h : zHp) (t n : Nat) (f : Nat → Int) (q : Nat) : ztg (zal h t n f) q = if q = znx h + 1 then t else ztg h q := rfl
theorem zln_al (h : zHp) (t n : Nat) (f : Nat → Int) (q : Nat) : zln (zal h t n f) q = if q = znx h + 1 then n else zln h q := rfl
theorem zct_al (h : zHp) (t n : Nat) (f : Nat → Int) (q k : Nat) : zct (zal h t n f) q k = if q = znx h + 1 then f k else zct h q k := rfl
theorem znx_al (h : zHp) (t n : Nat) (f : Nat → Int) : znx (zal h t n f) = znx h + 1 := rfl
theorem zus_al (h : zHp) (t n : Nat) (f : Nat → Int) : zus (zal h t n f) = zus h + n := rfl
theorem ztg_cp (h : zHp) (a sp b dp n : Nat) (q : Nat) : ztg (zcp h a sp b dp n) q = ztg h q := rfl
theorem zln_cp (h : zHp) (a sp b dp n : Nat) (q : Nat) : zln (zcp h a sp b dp n) q = zln h q := rfl
theorem zct_cp (h : zHp) (a sp b dp n : Nat) (q k : Nat) : zct (zcp h a sp b dp n) q k = if q = b ∧ dp ≤ k ∧ k < dp + n then zct h a (sp + (k - dp)) else zct h q k := rfl
theorem znx_cp (h : zHp) (a sp b dp n : Nat) : znx (zcp h a sp b dp n) = znx h := rfl
theorem zus_cp (h : zHp) (a sp b dp n : Nat) : zus (zcp h a sp b dp n) = zus h := rfl
theorem zwr_ok {b0 : Nat} {h : zHp} {r k : Nat} {v : Int} (hi : zinv b0 h) (ht : ztg h r < 40) (hv : zis (ztg h r) k = true → zR32 v) : zinv b0 (zwr h r k v) ∧ zgood h (zwr h r k v) := by
  obtain ⟨h1, h2, h3, h4⟩ := hi
  refine ⟨⟨h1, h2, fun a j hz => ?_, h4⟩, Nat.le_refl _, Nat.le_refl _, fun a ha => ⟨rfl, rfl, fun j => ?_⟩⟩
  · rw [zct_wr]
    rw [ztg_wr] at hz
    split
    · rename_i e
      obtain ⟨rfl, rfl⟩ := e
      exact hv hz
    · exact h3 a j hz
  · rw [zct_wr, if_neg]
    rintro ⟨rfl, -⟩
    rw [ztg_wr] at ha
    omega
theorem zal_ok {b0 : Nat} {h : zHp} {t n : Nat} {f : Nat → Int} (hi : zinv b0 h) (ht : (1 ≤ t ∧ t ≤ 12) ∨ (30 ≤ t ∧ t ≤ 37)) (hn : n ≤ 100000) (hf : ∀ k, zis t k = true → zR32 (f k)) : zinv b0 (zal h t n f) ∧ zgood h (zal h t n f) := by
  obtain ⟨h1, h2, h3, h4⟩ := hi
  have h0 : ztg h (znx h + 1) = 0 := by
    rcases h2 (znx h + 1) with e | e | e
    · exact e
    · omega
    · omega
  refine ⟨⟨by rw [znx_al]; omega, fun a => ?_, fun a j hz => ?_, fun a => ?_⟩, by rw [znx_al]; omega, by rw [zus_al]; omega, fun a ha => ?_⟩
  · unfold zTg
    rw [ztg_al, znx_al]
    by_cases e : a = znx h + 1
    · rw [if_pos e]
      exact Or.inr (Or.inl ⟨ht, by omega, by omega⟩)
    · rw [if_neg e]
      rcases h2 a with q | q | q
      · exact Or.inl q
      · exact Or.inr (Or.inl ⟨q.1, q.2.1, by omega⟩)
      · exact Or.inr (Or.inr q)
  · rw [zct_al]
    rw [ztg_al] at hz
    by_cases e : a = znx h + 1
    · rw [if_pos e]
      rw [if_pos e] at hz
      exact hf j hz
    · rw [if_neg e]
      rw [if_neg e] at hz
      exact h3 a j hz
  · rw [zln_al]
    split
    · exact hn
    · exact h4 a
  · have e : a ≠ znx h + 1 := by
      rintro rfl
      rw [ztg_al, if_pos rfl, h0] at ha
      omega
    refine ⟨?_, ?_, fun k => ?_⟩
    · rw [ztg_al, if_neg e]
    · rw [zln_al, if_neg e]
    · rw [zct_al, if_neg e]
theorem zcp_ok {b0 : Nat} {h : zHp} {a sp b dp n : Nat} (hi : zinv b0 h) (ha : ztg h a = 30) (hb : ztg h b = 30) : zinv b0 (zcp h a sp b dp n) ∧ zgood h (zcp h a sp b dp n) := by
  obtain ⟨h1, h2, h3, h4⟩ := hi
  refine ⟨⟨h1, h2, fun q j hz => ?_, h4⟩, Nat.le_refl _, Nat.le_refl _, fun q hq => ⟨rfl, rfl, fun j => ?_⟩⟩
  · rw [zct_cp]
    split
    · exact h3 a _ (by rw [ha]; rfl)
    · exact h3 q j hz
  · rw [zct_cp, if_neg]
    rintro ⟨rfl, -⟩
    rw [ztg_cp] at hq
    omega
theorem zfold_ok {b0 n : Nat} (hn : n ≤ 100000) : ∀ (l : List Nat) (h : zHp), zinv b0 h → zinv b0 (l.foldl (fun g _ => zal g 30 n (fun _ => 0)) h) ∧ zgood h (l.foldl (fun g _ => zal g 30 n (fun _ => 0)) h)
  | [], h, hi => ⟨hi, zgood_rf h⟩
  | _ :: l, h, hi => by
    obtain ⟨a1, a2⟩ := zal_ok (t := 30) (n := n) (f := fun _ => 0) hi (Or.inr ⟨by omega, by omega⟩) hn (fun _ _ => ⟨by omega, by omega⟩)
    obtain ⟨b1, b2⟩ := zfold_ok hn l _ a1
    exact ⟨b1, zgood_tr a2 b2⟩
theorem zisA_lt {c t : Nat} (hc : c < 12 ∨ c = 20) (h : zisA c t = true) : t < 13 := by
  have := zgrp_of h
  unfold zgrp at this
  split at this
  · simp only [List.mem_cons, List.not_mem_nil, or_false] at this
    omega
  · simp only [List.mem_cons, List.not_mem_nil, or_false] at this
    omega
/-- which kinds of cells an instruction names -/
def zsd (i : zMI) : Bool := match i with
  | (60, _, c, _, _, _) => decide (c < 12) || c == 20
  | (61, _, c, _, _, _) => decide (c < 12) || c == 20
  | (62, _, c, _, _, _) => decide (c < 12) || c == 20
  | (63, _, c, _, _, _) => decide (c < 12) || c == 20
  | (64, _, c, _, _, _) => decide (c < 12) || c == 20
  | (78, _, c, _, _, _) => decide (c < 12) || c == 20
  | _ => true
theorem zsd_of {c : Nat} (h : (decide (c < 12) || c == 20) = true) : c < 12 ∨ c = 20 := by
  simpa using h
theorem zis_ref {t k : Nat} (h : 33 ≤ t) (h2 : t ≤ 37) : zis t k = false := by
  unfold zis
  rw [if_neg (by omega)]
  have a1 : ¬ t = 30 := by omega
  have a2 : ¬ t = 31 := by omega
  have a3 : ¬ t = 32 := by omega
  have a4 : ¬ t = 40 := by omega
  have a5 : ¬ t = 41 := by omega
  simp [a1, a2, a3, a4, a5]
theorem zmay_of {t u : Nat} (h : zmay t u = true) : 33 ≤ t ∧ t ≤ 36 := by
  unfold zmay at h
  simp only [Bool.or_eq_true, Bool.and_eq_true, beq_iff_eq] at h
  omega
theorem zr_byte (v : Int) : zR32 (zi2b v) := zr_i _
set_option maxHeartbeats 4000000 in
theorem zhp_ok {E : Nat → Nat} {b0 : Nat} {i : zMI} {st st' : List zAV} {h h' : zHp} (hc : zsc i = true) (hd : zsd i = true) (hs : zokS st) (hi : zinv b0 h) (e : zhp E i st h = some (st', h')) : zokS st' ∧ zinv b0 h' ∧ zgood h h' := by
  have hI := hi
  obtain ⟨h1, h2, h3, h4⟩ := hi
  unfold zhp at e
  split at e <;> (try (split at e)) <;> simp only [Option.some.injEq, Prod.mk.injEq, reduceCtorEq] at e <;> obtain ⟨rfl, rfl⟩ := e
  · rename_i g
    exact ⟨zokS_cons (h3 _ _ (List.all_eq_true.mp hc _ (zgrp_of g))) (zokS_tail hs), hI, zgood_rf _⟩
  · exact ⟨zokS_cons trivial (zokS_tail hs), hI, zgood_rf _⟩
  · rename_i g
    have := zisA_lt (zsd_of hd) g
    exact ⟨zokS_tail (zokS_tail hs), zwr_ok hI (by omega) (fun _ => zokS_head hs)⟩
  · rename_i g
    have := zisA_lt (zsd_of hd) g.1
    exact ⟨zokS_tail (zokS_tail hs), zwr_ok hI (by omega) (fun _ => zokS_head hs)⟩
  · rename_i g
    have := zisA_lt (zsd_of hd) g
    have q := List.all_eq_true.mp hc _ (zgrp_of g)
    exact ⟨zokS_tail (zokS_tail hs), zwr_ok hI (by omega) (fun z => by rw [z] at q; cases q)⟩
  · rename_i g
    exact ⟨zokS_cons (h3 _ _ (by rcases g.1 with z | z <;> rw [z] <;> rfl)) (zokS_tail (zokS_tail hs)), hI, zgood_rf _⟩
  · rename_i g
    exact ⟨zokS_cons (h3 _ _ (by rcases g.1 with z | z | z <;> rw [z] <;> rfl)) (zokS_tail (zokS_tail hs)), hI, zgood_rf _⟩
  · exact ⟨zokS_cons trivial (zokS_tail (zokS_tail hs)), hI, zgood_rf _⟩
  · rename_i g
    exact ⟨zokS_tail (zokS_tail (zokS_tail hs)), zwr_ok hI (by omega) (fun _ => zokS_head hs)⟩
  · rename_i g
    exact ⟨zokS_tail (zokS_tail (zokS_tail hs)), zwr_ok hI (by omega) (fun _ => zokS_head hs)⟩
  · rename_i g
    exact ⟨zokS_tail (zokS_tail (zokS_tail hs)), zwr_ok hI (by omega) (fun _ => zr_byte _)⟩
  · rename_i g
    obtain ⟨g1, g2⟩ := zmay_of g.1
    exact ⟨zokS_tail (zokS_tail (zokS_tail hs)), zwr_ok hI (by omega) (fun z => by rw [zis_ref g1 (by omega)] at z; cases z)⟩
  · rename_i r _ g
    have := h4 r
    exact ⟨zokS_cons (show zR32 _ from ⟨by omega, by omega⟩) (zokS_tail hs), hI, zgood_rf _⟩
  · simp only [zsc, Bool.and_eq_true, decide_eq_true_eq] at hc
    refine ⟨zokS_cons trivial hs, zal_ok hI (Or.inl ⟨by omega, by omega⟩) hc.2 (fun _ _ => ⟨by omega, by omega⟩)⟩
  · rename_i g
    simp only [zsc, Bool.or_eq_true, beq_iff_eq] at hc
    exact ⟨zokS_cons trivial (zokS_tail hs), zal_ok hI (Or.inr ⟨by omega, by omega⟩) (by omega) (fun _ _ => ⟨by omega, by omega⟩)⟩
  · rename_i g
    simp only [zsc, Bool.or_eq_true, beq_iff_eq] at hc
    exact ⟨zokS_cons trivial (zokS_tail hs), zal_ok hI (Or.inr ⟨by omega, by omega⟩) (by omega) (fun _ _ => ⟨by omega, by omega⟩)⟩
  · refine ⟨zokS_cons (show zR32 _ from ?_) (zokS_tail hs), hI, zgood_rf _⟩
    split <;> exact ⟨by omega, by omega⟩
  · exact ⟨hs, hI, zgood_rf _⟩
  · exact ⟨zokS_cons (zq32_of hc) hs, hI, zgood_rf _⟩
  · exact ⟨zokS_cons trivial hs, hI, zgood_rf _⟩
  · exact ⟨zokS_cons trivial hs, hI, zgood_rf _⟩
  · exact ⟨zokS_tail hs, hI, zgood_rf _⟩
  · rename_i g
    exact ⟨zokS_tail (zokS_tail (zokS_tail (zokS_tail (zokS_tail hs)))), zcp_ok hI g.1 g.2.1⟩
  · rename_i r _ g
    exact ⟨zokS_cons trivial (zokS_tail hs), zal_ok hI (Or.inr ⟨by omega, by omega⟩) (h4 _) (fun k _ => h3 r k (by rw [g.1]; rfl))⟩
  · exact ⟨hs, hI, zgood_rf _⟩
  · exact ⟨zokS_cons trivial (zokS_tail hs), hI, zgood_rf _⟩
  · exact ⟨zokS_cons (show zR32 0 from ⟨by omega, by omega⟩) (zokS_tail hs), hI, zgood_rf _⟩
  · rename_i kk nn _ g
    refine ⟨zokS_cons trivial (zokS_tail (zokS_tail hs)), ?_⟩
    have a := zal_ok (t := 37) (n := nn.toNat) (f := fun j => if j < nn.toNat then ((znx h + 2 + j : Nat) : Int) else 0) hI (Or.inr ⟨by omega, by omega⟩) (by omega) (fun k z => by rw [zis_ref (by omega) (by omega)] at z; cases z)
    have b := zfold_ok (n := kk.toNat) (by omega) (List.range nn.toNat) _ a.1
    exact ⟨b.1, zgood_tr a.2 b.2⟩
end
section
/-! what is looked at in each instruction, once and for all, by the tables -/
def zix (v : Int) : Nat := v.toNat % 65536
def zpo (v : Int) : Nat := v.toNat / 65536
def zpc (is : List zMI) : Nat := match is with
  | [] => 0
  | i :: _ => i.2.1
def zD (mm pc nx : Nat) (x : Instr) (n : Nat) : Bool := decide (decode (zC mm) pc = .ok (x, n)) && (nx == pc + n)
noncomputable def zO (mm pc : Nat) : Int := (zpc (zB mm pc) : Int)
theorem zD_of {mm pc nx : Nat} {x : Instr} {n : Nat} (h : zD mm pc nx x n = true) : decode (zC mm) pc = .ok (x, n) ∧ nx = pc + n := by
  simpa [zD] using h
/-- the instructions on locals and stack -/
def zk1 (mm : Nat) (i : zMI) (nx : Nat) : Bool := match i with
  | (1, pc, _, b, v, _) => zD mm pc nx (.iconst v) 1 || (zD mm pc nx (.bipush v) 2 && decide ((Int8.ofInt v).toInt32 = Int32.ofInt v)) || (zD mm pc nx (.sipush v) 3 && decide ((Int16.ofInt v).toInt32 = Int32.ofInt v)) || ((zD mm pc nx (.ldc (b % 65536)) 2 || zD mm pc nx (.ldc_w (b % 65536)) 3) && zAt (b / 65536) (Cond.constant (zY mm).cls (b % 65536) (Int32.ofInt v)))
  | (2, pc, _, b, v, _) => (zD mm pc nx (.lconst 0) 1 && v == 0) || (zD mm pc nx (.lconst 1) 1 && v == 1) || (zD mm pc nx (.ldc2_w (b % 65536)) 3 && zAt (b / 65536) (Cond.constantLong (zY mm).cls (b % 65536) (Int64.ofInt v)))
  | (3, pc, _, _, _, _) => zD mm pc nx .aconst_null 1
  | (4, pc, a, _, _, _) => zD mm pc nx (.iload a) 2 || (zD mm pc nx (.iload_n (Fin.ofNat 4 a)) 1 && decide (a < 4))
  | (5, pc, a, _, _, _) => zD mm pc nx (.lload a) 2 || (zD mm pc nx (.lload_n (Fin.ofNat 4 a)) 1 && decide (a < 4))
  | (6, pc, a, _, _, _) => zD mm pc nx (.aload a) 2 || (zD mm pc nx (.aload_n (Fin.ofNat 4 a)) 1 && decide (a < 4))
  | (7, pc, a, _, _, _) => zD mm pc nx (.istore a) 2 || (zD mm pc nx (.istore_n (Fin.ofNat 4 a)) 1 && decide (a < 4))
  | (8, pc, a, _, _, _) => zD mm pc nx (.lstore a) 2 || (zD mm pc nx (.lstore_n (Fin.ofNat 4 a)) 1 && decide (a < 4))
  | (9, pc, a, _, _, _) => zD mm pc nx (.astore a) 2 || (zD mm pc nx (.astore_n (Fin.ofNat 4 a)) 1 && decide (a < 4))
  | (10, pc, a, _, v, _) => zD mm pc nx (.iinc a v) 3 || zD mm pc nx (.iinc a v) 6
  | (11, pc, _, _, _, _) => zD mm pc nx .iadd 1
  | (12, pc, _, _, _, _) => zD mm pc nx .isub 1
  | (13, pc, _, _, _, _) => zD mm pc nx .imul 1
  | (14, pc, _, _, _, _) => zD mm pc nx .idiv 1
  | (15, pc, _, _, _, _) => zD mm pc nx .irem 1
  | (16, pc, _, _, _, _) => zD mm pc nx .ineg 1
  | (17, pc, _, _, _, _) => zD mm pc nx .ishl 1
  | (18, pc, _, _, _, _) => zD mm pc nx .ishr 1
  | (19, pc, _, _, _, _) => zD mm pc nx .iushr 1
  | (20, pc, _, _, _, _) => zD mm pc nx .iand 1
  | (21, pc, _, _, _, _) => zD mm pc nx .ior 1
  | (22, pc, _, _, _, _) => zD mm pc nx .ixor 1
  | (23, pc, _, _, _, _) => zD mm pc nx .i2l 1
  | (24, pc, _, _, _, _) => zD mm pc nx .l2i 1
  | (25, pc, _, _, _, _) => zD mm pc nx .i2b 1
  | (26, pc, _, _, _, _) => zD mm pc nx .i2s 1
  | (27, pc, _, _, _, _) => zD mm pc nx .i2c 1
  | (28, pc, _, _, _, _) => zD mm pc nx .ladd 1
  | (29, pc, _, _, _, _) => zD mm pc nx .lmul 1
  | (30, pc, _, _, _, _) => zD mm pc nx .ldiv 1
  | (31, pc, _, _, _, _) => zD mm pc nx .lcmp 1
  | (32, pc, _, _, _, _) => zD mm pc nx .dup 1
  | (33, pc, _, _, _, _) => zD mm pc nx .dup 1
  | (34, pc, _, _, _, _) => zD mm pc nx .dup2 1
  | (35, pc, _, _, _, _) => zD mm pc nx .pop 1
  | (36, pc, _, _, v, _) => zD mm pc nx (.invokestatic (zix v)) 3 && zAt (zpo v) (Cond.methodLink (zY mm).cls (zix v) Lib.Math.max.name)
  | (37, pc, _, _, v, _) => zD mm pc nx (.invokestatic (zix v)) 3 && zAt (zpo v) (Cond.methodLink (zY mm).cls (zix v) Lib.Math.min.name)
  | _ => false
/-- jumps -/
noncomputable def zk2 (mm : Nat) (i : zMI) (nx : Nat) : Bool := match i with
  | (40, pc, a, _, _, _) => zD mm pc nx (.ifCond .eq (zO mm a - pc)) 3
  | (41, pc, a, _, _, _) => zD mm pc nx (.ifCond .ne (zO mm a - pc)) 3
  | (42, pc, a, _, _, _) => zD mm pc nx (.ifCond .lt (zO mm a - pc)) 3
  | (43, pc, a, _, _, _) => zD mm pc nx (.ifCond .ge (zO mm a - pc)) 3
  | (44, pc, a, _, _, _) => zD mm pc nx (.ifCond .gt (zO mm a - pc)) 3
  | (45, pc, a, _, _, _) => zD mm pc nx (.ifCond .le (zO mm a - pc)) 3
  | (46, pc, a, _, _, _) => zD mm pc nx (.if_icmp .eq (zO mm a - pc)) 3
  | (47, pc, a, _, _, _) => zD mm pc nx (.if_icmp .ne (zO mm a - pc)) 3
  | (48, pc, a, _, _, _) => zD mm pc nx (.if_icmp .lt (zO mm a - pc)) 3
  | (49, pc, a, _, _, _) => zD mm pc nx (.if_icmp .ge (zO mm a - pc)) 3
  | (50, pc, a, _, _, _) => zD mm pc nx (.if_icmp .gt (zO mm a - pc)) 3
  | (51, pc, a, _, _, _) => zD mm pc nx (.if_icmp .le (zO mm a - pc)) 3
  | (52, pc, a, _, _, _) => zD mm pc nx (.if_acmp .eq (zO mm a - pc)) 3
  | (53, pc, a, _, _, _) => zD mm pc nx (.if_acmp .ne (zO mm a - pc)) 3
  | (54, pc, a, _, _, _) => zD mm pc nx (.ifnull (zO mm a - pc)) 3
  | (55, pc, a, _, _, _) => zD mm pc nx (.ifnonnull (zO mm a - pc)) 3
  | (56, pc, a, _, _, _) => decide (decode (zC mm) pc = .ok (.goto (zO mm a - pc), 3))
  | (57, pc, a, _, _, _) => decide (zO mm a = pc)
  | (58, pc, a, _, _, tb) => match decode (zC mm) pc with
    | .ok (.tableswitch d lo hi offs, _) => decide ((pc : Int) + d = zO mm a) && decide (tb.length = (hi - lo + 1).toNat) && (List.range tb.length).all (fun j => match tb[j]?, offs[j]? with
      | some q, some o => decide (q.1 = lo + j) && decide ((pc : Int) + o = zO mm q.2)
      | _, _ => false)
    | _ => false
  | (59, pc, a, _, _, tb) => match decode (zC mm) pc with
    | .ok (.lookupswitch d ps, _) => decide ((pc : Int) + d = zO mm a) && decide (ps.toList = tb.map fun q => (q.1, zO mm q.2 - pc)) && (ps.toList.zip (ps.toList.drop 1)).all (fun (a, next) => a.1 < next.1)
    | _ => false
  | _ => false
def zr2 (r : Nat) : Option Nat := if r = 0 then none else some (r - 1)
def zV : zAV → Value
  | .inl x => .int (Int32.ofInt x)
  | .inr (.inl x) => .long (Int64.ofInt x)
  | .inr (.inr r) => va_rf (zr2 r)
theorem zV_ref {r : Nat} (h : 0 < r) : zV (.inr (.inr r)) = .ref (r - 1) := by simp [zV, zr2, Nat.ne_of_gt h, va_rf]
theorem zV_null : zV (.inr (.inr 0)) = .null := rfl
theorem zV_cat (v : zAV) : (zV v).category = if zlong v = true then 2 else 1 := by
  rcases v with x | x | x
  · rfl
  · rfl
  · show (va_rf (zr2 x)).category = 1
    unfold zr2
    split <;> rfl
/-- the locals -/
def zLs (n : Nat) (L : zLo) : List (Nat × Value) := (List.range n).filterMap fun i => (zld L i).map fun v => (i, zV v)
def zLR (ls : Array Slot) (n : Nat) (L : zLo) : Prop := L.length = n ∧ lv_has ls n (zLs n L)
theorem zLs_mem {n : Nat} {L : zLo} {q : Nat × Value} : q ∈ zLs n L ↔ q.1 < n ∧ ∃ v, zld L q.1 = some v ∧ zV v = q.2 := by
  unfold zLs
  rw [List.mem_filterMap]
  constructor
  · rintro ⟨i, hi, e⟩
    cases hq : zld L i with
    | none => rw [hq] at e; cases e
    | some v =>
      rw [hq] at e
      cases e
      exact ⟨List.mem_range.mp hi, v, hq, rfl⟩
  · rintro ⟨h1, v, h2, h3⟩
    exact ⟨q.1, List.mem_range.mpr h1, by rw [h2, Option.map_some, h3]⟩
theorem zld_lt {L : zLo} {i : Nat} {v : zAV} (h : zld L i = some v) : i < L.length := by
  unfold zld at h
  cases hq : L[i]? with
  | none => rw [hq] at h; cases h
  | some q => exact (List.getElem?_eq_some_iff.mp hq).1
theorem zLR_at {ls : Array Slot} {n : Nat} {L : zLo} (h : zLR ls n L) {i : Nat} {v : zAV} (e : zld L i = some v) : ls[i]? = some (.val (zV v)) := h.2.2.2 (i, zV v) (zLs_mem.mpr ⟨by rw [← h.1]; exact zld_lt e, v, e, rfl⟩)
theorem zld_set {L : zLo} {a : Nat} {o : Option zAV} (h : a < L.length) (j : Nat) : zld (L.set a o) j = if j = a then o else zld L j := by
  unfold zld
  by_cases e : j = a
  · subst e
    rw [List.getElem?_set_self h, if_pos rfl]
    rfl
  · rw [List.getElem?_set_ne (Ne.symm e), if_neg e]
theorem zpre_len (L : zLo) (a : Nat) : (zpre L a).length = L.length := by
  unfold zpre
  split
  · rfl
  · split
    · simp
    · rfl
theorem zld_pre {L : zLo} {a j : Nat} {v : zAV} (h : zld (zpre L a) j = some v) : zld L j = some v ∧ ¬ (j + 1 = a ∧ zlong v = true) := by
  unfold zpre at h
  split at h
  · exact ⟨h, by omega⟩
  · rename_i b
    split at h
    · rename_i x hx
      rw [zld_set (zld_lt hx)] at h
      split at h
      · cases h
      · exact ⟨h, by omega⟩
    · rename_i hx
      refine ⟨h, fun e => ?_⟩
      obtain ⟨e1, e2⟩ := e
      have : j = b := by omega
      subst this
      rcases v with x | x | x
      · cases e2
      · exact hx x h
      · cases e2
theorem zLR_st1 {ls' : Array Slot} {n : Nat} {L : zLo} {a : Nat} {v : zAV} (hn : L.length = n) (ha : a < n) (h : lv_has ls' n ((a, zV v) :: (zLs n L).filter (fun q => !(q.1 == a) && !(q.1 + 1 == a && q.2.category == 2)))) : zLR ls' n (zst1 L a v) := by
  have hl : a < (zpre L a).length := by rw [zpre_len]; omega
  refine ⟨by unfold zst1; rw [List.length_set, zpre_len]; exact hn, h.1, h.2.1, fun q hq => ?_⟩
  obtain ⟨h1, w, h2, h3⟩ := zLs_mem.mp hq
  refine h.2.2 q ?_
  unfold zst1 at h2
  rw [zld_set hl] at h2
  split at h2
  · rename_i e
    cases h2
    rw [List.mem_cons]
    exact Or.inl (Prod.ext e h3.symm)
  · rename_i e
    obtain ⟨g1, g2⟩ := zld_pre h2
    refine List.mem_cons_of_mem _ (List.mem_filter.mpr ⟨zLs_mem.mpr ⟨h1, w, g1, h3⟩, ?_⟩)
    rw [← h3, zV_cat]
    by_cases z : zlong w = true
    · simp [e, z]
      exact fun y => g2 ⟨y, z⟩
    · simp [e, z]
theorem zLR_st2 {ls' : Array Slot} {n : Nat} {L : zLo} {a : Nat} {v : zAV} (hn : L.length = n) (ha : a + 1 < n) (h : lv_has ls' n ((a, zV v) :: (zLs n L).filter (fun q => !(q.1 == a) && (!(q.1 == a + 1) && !(q.1 + 1 == a && q.2.category == 2))))) : zLR ls' n (zst2 L a v) := by
  have hl : a < (zpre L a).length := by rw [zpre_len]; omega
  refine ⟨by unfold zst2; rw [List.length_set, List.length_set, zpre_len]; exact hn, h.1, h.2.1, fun q hq => ?_⟩
  obtain ⟨h1, w, h2, h3⟩ := zLs_mem.mp hq
  refine h.2.2 q ?_
  unfold zst2 at h2
  rw [zld_set (by rw [List.length_set, zpre_len]; omega), zld_set hl] at h2
  split at h2
  · cases h2
  · rename_i e1
    split at h2
    · rename_i e
      cases h2
      rw [List.mem_cons]
      exact Or.inl (Prod.ext e h3.symm)
    · rename_i e
      obtain ⟨g1, g2⟩ := zld_pre h2
      refine List.mem_cons_of_mem _ (List.mem_filter.mpr ⟨zLs_mem.mpr ⟨h1, w, g1, h3⟩, ?_⟩)
      rw [← h3, zV_cat]
      by_cases z : zlong w = true
      · simp [e, e1, z]
        exact fun y => g2 ⟨y, z⟩
      · simp [e, e1, z]
theorem z32 (x : Int32) : Int32.ofInt x.toInt = x := Int32.ofInt_toInt x
theorem z64 (x : Int64) : Int64.ofInt x.toInt = x := Int64.ofInt_toInt x
theorem zfin {a : Nat} (h : a < 4) : ((Fin.ofNat 4 a : Fin 4) : Nat) = a := by simp [Fin.ofNat, Nat.mod_eq_of_lt h]
end
section
theorem zi_lt {x y : Int} (hx : zR32 x) (hy : zR32 y) : Int32.ofInt x < Int32.ofInt y ↔ x < y := by
  rw [Int32.lt_iff_toInt_lt, Int32.toInt_ofInt_of_le (by have := hx.1; omega) (by have := hx.2; omega), Int32.toInt_ofInt_of_le (by have := hy.1; omega) (by have := hy.2; omega)]
theorem zi_le {x y : Int} (hx : zR32 x) (hy : zR32 y) : Int32.ofInt x ≤ Int32.ofInt y ↔ x ≤ y := by
  rw [Int32.le_iff_toInt_le, Int32.toInt_ofInt_of_le (by have := hx.1; omega) (by have := hx.2; omega), Int32.toInt_ofInt_of_le (by have := hy.1; omega) (by have := hy.2; omega)]
theorem zi_eq {x y : Int} (hx : zR32 x) (hy : zR32 y) : Int32.ofInt x = Int32.ofInt y ↔ x = y := by
  rw [← Int32.toInt_inj, Int32.toInt_ofInt_of_le (by have := hx.1; omega) (by have := hx.2; omega), Int32.toInt_ofInt_of_le (by have := hy.1; omega) (by have := hy.2; omega)]
theorem zi_ne0 {x : Int} (hx : zR32 x) (h : ¬ x = 0) : ¬ Int32.ofInt x = 0 := fun e => h ((zi_eq hx ⟨by omega, by omega⟩).mp e)
theorem zl_ne0 {x : Int} (hx : zR64 x) (h : ¬ x = 0) : ¬ Int64.ofInt x = 0 := by
  intro e
  have e2 : Int64.ofInt x = Int64.ofInt 0 := e
  rw [← Int64.toInt_inj, Int64.toInt_ofInt_of_le (by have := hx.1; omega) (by have := hx.2; omega), Int64.toInt_ofInt_of_le (by omega) (by omega)] at e2
  exact h e2
section ZW
variable {p : Program} {l : Launch} {e : Env} {R : Room} {s : State} {m : MethodId} {args : Array Value} {below : List Frame} {meth : Method} {c : Code} {H : Heap} {locs : List Loc} {cells slots : Nat} {Q : State → Prop}
theorem z_stcat {st : List zAV} {k : Nat} (h : st.length ≤ k) : ((st.map zV).map fun v => v.category).sum ≤ 2 * k := by
  induction st generalizing k with
  | nil => simp
  | cons v st ih =>
    simp only [List.map_cons, List.sum_cons, List.length_cons] at *
    have := ih (k := k - 1) (by omega)
    have h2 : (zV v).category ≤ 2 := by rw [zV_cat]; split <;> omega
    omega
theorem z_mx {x y : Int} (hx : zR32 x) (hy : zR32 y) : (if Int32.ofInt x < Int32.ofInt y then Int32.ofInt y else Int32.ofInt x) = Int32.ofInt (zmax x y) := by
  unfold zmax
  by_cases h : x < y
  · rw [if_pos h, if_pos ((zi_lt hx hy).mpr h)]
  · rw [if_neg h, if_neg (fun q => h ((zi_lt hx hy).mp q))]
theorem z_mn {x y : Int} (hx : zR32 x) (hy : zR32 y) : (if Int32.ofInt y < Int32.ofInt x then Int32.ofInt y else Int32.ofInt x) = Int32.ofInt (zmin x y) := by
  unfold zmin
  by_cases h : y < x
  · rw [if_pos h, if_pos ((zi_lt hy hx).mpr h)]
  · rw [if_neg h, if_neg (fun q => h ((zi_lt hy hx).mp q))]
theorem z_ldR {ls : Array Slot} {n : Nat} {L : zLo} (hL : zLR ls n L) {a : Nat} {r : Nat} (e : zld L a = some (.inr (.inr r))) : ls[a]? = some (.val (va_rf (zr2 r))) := zLR_at hL e
set_option maxRecDepth 100000 in
theorem z_jm : ∀ w ∈ [Cond.static Lib.Math.max.name, Cond.static Lib.Math.min.name, Cond.initialized "java/lang/Math"], w ∈ lw_tbl := by decide +kernel
set_option maxRecDepth 100000 in
theorem z_jm1 : Cond.code Lib.Math.max.name Lib.Math.max.code 2 (some .int) ∈ lw_tbl ∧ Cond.code Lib.Math.min.name Lib.Math.min.code 2 (some .int) ∈ lw_tbl := by decide +kernel
theorem z_jw {w : Cond} (h : w ∈ lw_tbl) (g : goodWord w = true) : w ∈ zW := List.mem_filter.mpr ⟨h, g⟩
set_option maxHeartbeats 8000000 in
theorem zps_W {mm n nx : Nat} {i : zMI} {L L' : zLo} {st st' : List zAV} {ls : Array Slot} (hx : p.tables.exec = Jvm.exec) (hb : c.code = zC mm) (hml : c.maxLocals = n) (hown : s.vm.findClass (zY mm).cls = some m.cls) (hts : ∀ w ∈ zW, w.before args s = true) (hR1 : 1 ≤ R.frames) (hR2 : 40 ≤ R.locals) (hcl : cells ≤ R.cells) (hsl : slots ≤ R.slots)
    (hok : zk1 mm i nx = true) (he : zps i L st = some (L', st')) (hL : zLR ls n L) (hs : zokS st)
    (kk : ∀ ls', zLR ls' n L' → W p l e R s m args below meth c H locs cells slots Q (F0 m nx ls' (st'.map zV))) : W p l e R s m args below meth c H locs cells slots Q (F0 m i.2.1 ls (st.map zV)) := by
  unfold zps at he
  split at he
  · -- const
    simp only [Option.some.injEq, Prod.mk.injEq] at he
    obtain ⟨rfl, rfl⟩ := he
    simp only [zk1, Bool.or_eq_true, Bool.and_eq_true, decide_eq_true_eq] at hok
    rcases hok with ((hok | hok) | hok) | hok
    · obtain ⟨h1, rfl⟩ := zD_of hok
      exact lv_iconst hx hb h1 rfl (kk ls hL)
    · obtain ⟨h1, rfl⟩ := zD_of hok.1
      exact lv_bipush hx hb h1 hok.2 (kk ls hL)
    · obtain ⟨h1, rfl⟩ := zD_of hok.1
      exact lv_sipush hx hb h1 hok.2 (kk ls hL)
    · have hw := hts _ (zAt_in hok.2)
      rcases hok.1 with h | h
      · obtain ⟨h1, rfl⟩ := zD_of h
        exact lv_ldc hx hb hown hw h1 (kk ls hL)
      · obtain ⟨h1, rfl⟩ := zD_of h
        exact lv_ldcw hx hb hown hw h1 (kk ls hL)
  · simp only [Option.some.injEq, Prod.mk.injEq] at he
    obtain ⟨rfl, rfl⟩ := he
    simp only [zk1, Bool.or_eq_true, Bool.and_eq_true, beq_iff_eq] at hok
    rcases hok with (hok | hok) | hok
    · obtain ⟨h1, rfl⟩ := zD_of hok.1
      refine lv_lconst hx hb h1 ?_ (kk ls hL)
      rw [hok.2]; rfl
    · obtain ⟨h1, rfl⟩ := zD_of hok.1
      refine lv_lconst hx hb h1 ?_ (kk ls hL)
      rw [hok.2]; rfl
    · obtain ⟨h1, rfl⟩ := zD_of hok.1
      exact lv_ldc2 hx hb hown (hts _ (zAt_in hok.2)) h1 (kk ls hL)
  · simp only [Option.some.injEq, Prod.mk.injEq] at he
    obtain ⟨rfl, rfl⟩ := he
    obtain ⟨h1, rfl⟩ := zD_of hok
    exact lv_null hx hb h1 (kk ls hL)
  · -- iload
    split at he
    · rename_i x hv
      simp only [Option.some.injEq, Prod.mk.injEq] at he
      obtain ⟨rfl, rfl⟩ := he
      simp only [zk1, Bool.or_eq_true, Bool.and_eq_true, decide_eq_true_eq] at hok
      rcases hok with h | h
      · obtain ⟨h1, rfl⟩ := zD_of h
        exact lv_iload hx hb h1 (zLR_at hL hv) (kk ls hL)
      · obtain ⟨h1, rfl⟩ := zD_of h.1
        exact lv_iload_n hx hb h1 (zfin h.2) (zLR_at hL hv) (kk ls hL)
    · cases he
  · split at he
    · rename_i x hv
      simp only [Option.some.injEq, Prod.mk.injEq] at he
      obtain ⟨rfl, rfl⟩ := he
      simp only [zk1, Bool.or_eq_true, Bool.and_eq_true, decide_eq_true_eq] at hok
      rcases hok with h | h
      · obtain ⟨h1, rfl⟩ := zD_of h
        exact lv_lload hx hb h1 (zLR_at hL hv) (kk ls hL)
      · obtain ⟨h1, rfl⟩ := zD_of h.1
        exact lv_lload_n hx hb h1 (zfin h.2) (zLR_at hL hv) (kk ls hL)
    · cases he
  · split at he
    · rename_i x hv
      simp only [Option.some.injEq, Prod.mk.injEq] at he
      obtain ⟨rfl, rfl⟩ := he
      simp only [zk1, Bool.or_eq_true, Bool.and_eq_true, decide_eq_true_eq] at hok
      have hv2 := z_ldR hL hv
      simp only [List.map_cons, zV] at kk ⊢
      rcases hz : zr2 x with _ | y
      · rw [hz] at hv2 kk
        rcases hok with h | h
        · obtain ⟨h1, rfl⟩ := zD_of h
          exact lv_aloadN hx hb h1 hv2 (kk ls hL)
        · obtain ⟨h1, rfl⟩ := zD_of h.1
          exact lv_aload_nN hx hb h1 (zfin h.2) hv2 (kk ls hL)
      · rw [hz] at hv2 kk
        rcases hok with h | h
        · obtain ⟨h1, rfl⟩ := zD_of h
          exact lv_aload hx hb h1 hv2 (kk ls hL)
        · obtain ⟨h1, rfl⟩ := zD_of h.1
          exact lv_aload_n hx hb h1 (zfin h.2) hv2 (kk ls hL)
    · cases he
  · -- istore
    split at he
    · rename_i ha
      simp only [Option.some.injEq, Prod.mk.injEq] at he
      obtain ⟨rfl, rfl⟩ := he
      simp only [zk1, Bool.or_eq_true, Bool.and_eq_true, decide_eq_true_eq] at hok
      rw [hL.1] at ha
      rcases hok with h | h
      · obtain ⟨h1, rfl⟩ := zD_of h
        exact lv_istore hx hb h1 hL.2 ha rfl (fun ls' g => kk ls' (zLR_st1 hL.1 ha g))
      · obtain ⟨h1, rfl⟩ := zD_of h.1
        exact lv_istore_n hx hb h1 (zfin h.2) hL.2 ha rfl (fun ls' g => kk ls' (zLR_st1 hL.1 ha g))
    · cases he
  · split at he
    · rename_i ha
      simp only [Option.some.injEq, Prod.mk.injEq] at he
      obtain ⟨rfl, rfl⟩ := he
      simp only [zk1, Bool.or_eq_true, Bool.and_eq_true, decide_eq_true_eq] at hok
      rw [hL.1] at ha
      rcases hok with h | h
      · obtain ⟨h1, rfl⟩ := zD_of h
        exact lv_lstore hx hb h1 hL.2 ha rfl (fun ls' g => kk ls' (zLR_st2 hL.1 ha g))
      · obtain ⟨h1, rfl⟩ := zD_of h.1
        exact lv_lstore_n hx hb h1 (zfin h.2) hL.2 ha rfl (fun ls' g => kk ls' (zLR_st2 hL.1 ha g))
    · cases he
  · split at he
    · rename_i x _ ha
      simp only [Option.some.injEq, Prod.mk.injEq] at he
      obtain ⟨rfl, rfl⟩ := he
      simp only [zk1, Bool.or_eq_true, Bool.and_eq_true, decide_eq_true_eq] at hok
      rw [hL.1] at ha
      have kk2 : ∀ ls', lv_has ls' n _ → _ := fun ls' g => kk ls' (zLR_st1 (v := .inr (.inr x)) hL.1 ha g)
      simp only [List.map_cons, zV] at kk2 ⊢
      rcases hz : zr2 x with _ | y
      · rw [hz] at kk2
        rcases hok with h | h
        · obtain ⟨h1, rfl⟩ := zD_of h
          exact lv_astoreN hx hb h1 hL.2 ha rfl kk2
        · obtain ⟨h1, rfl⟩ := zD_of h.1
          exact lv_astore_nN hx hb h1 (zfin h.2) hL.2 ha rfl kk2
      · rw [hz] at kk2
        rcases hok with h | h
        · obtain ⟨h1, rfl⟩ := zD_of h
          exact lv_astore hx hb h1 hL.2 ha rfl kk2
        · obtain ⟨h1, rfl⟩ := zD_of h.1
          exact lv_astore_n hx hb h1 (zfin h.2) hL.2 ha rfl kk2
    · cases he
  · -- iinc
    split at he
    · rename_i x hv
      split at he
      · rename_i ha
        simp only [Option.some.injEq, Prod.mk.injEq] at he
        obtain ⟨rfl, rfl⟩ := he
        simp only [zk1, Bool.or_eq_true] at hok
        rw [hL.1] at ha
        obtain ⟨k, hk⟩ := List.getElem?_of_mem (zLs_mem.mpr (show (_, Value.int (Int32.ofInt x)).1 < n ∧ _ from ⟨ha, _, hv, rfl⟩))
        rcases hok with h | h
        · obtain ⟨h1, rfl⟩ := zD_of h
          exact lv_iinc hx hb h1 hL.2 hk rfl ha rfl (fun ls' g => kk ls' (zLR_st1 hL.1 ha (by simpa only [zV, zadd, z32] using g)))
        · obtain ⟨h1, rfl⟩ := zD_of h
          exact lv_iincW hx hb h1 hL.2 hk rfl ha rfl (fun ls' g => kk ls' (zLR_st1 hL.1 ha (by simpa only [zV, zadd, z32] using g)))
      · cases he
    · cases he
  · simp only [Option.some.injEq, Prod.mk.injEq] at he
    obtain ⟨rfl, rfl⟩ := he
    obtain ⟨h1, rfl⟩ := zD_of hok
    simp only [List.map_cons, zV] at kk ⊢
    simp only [zadd, z32, z64] at kk
    exact lv_iadd hx hb h1 (kk ls hL)
  · simp only [Option.some.injEq, Prod.mk.injEq] at he
    obtain ⟨rfl, rfl⟩ := he
    obtain ⟨h1, rfl⟩ := zD_of hok
    simp only [List.map_cons, zV] at kk ⊢
    simp only [zsub, z32, z64] at kk
    exact lv_isub hx hb h1 (kk ls hL)
  · simp only [Option.some.injEq, Prod.mk.injEq] at he
    obtain ⟨rfl, rfl⟩ := he
    obtain ⟨h1, rfl⟩ := zD_of hok
    simp only [List.map_cons, zV] at kk ⊢
    simp only [zmul, z32, z64] at kk
    exact lv_imul hx hb h1 (kk ls hL)
  · simp only [Option.some.injEq, Prod.mk.injEq] at he
    obtain ⟨rfl, rfl⟩ := he
    obtain ⟨h1, rfl⟩ := zD_of hok
    simp only [List.map_cons, zV] at kk ⊢
    simp only [zneg, z32, z64] at kk
    exact lv_ineg hx hb h1 (kk ls hL)
  · simp only [Option.some.injEq, Prod.mk.injEq] at he
    obtain ⟨rfl, rfl⟩ := he
    obtain ⟨h1, rfl⟩ := zD_of hok
    simp only [List.map_cons, zV] at kk ⊢
    simp only [zshl, z32, z64] at kk
    exact lv_ishl hx hb h1 (kk ls hL)
  · simp only [Option.some.injEq, Prod.mk.injEq] at he
    obtain ⟨rfl, rfl⟩ := he
    obtain ⟨h1, rfl⟩ := zD_of hok
    simp only [List.map_cons, zV] at kk ⊢
    simp only [zshr, z32, z64] at kk
    exact lv_ishr hx hb h1 (kk ls hL)
  · simp only [Option.some.injEq, Prod.mk.injEq] at he
    obtain ⟨rfl, rfl⟩ := he
    obtain ⟨h1, rfl⟩ := zD_of hok
    simp only [List.map_cons, zV] at kk ⊢
    simp only [zushr, z32, z64] at kk
    exact lv_iushr hx hb h1 rfl (kk ls hL)
  · simp only [Option.some.injEq, Prod.mk.injEq] at he
    obtain ⟨rfl, rfl⟩ := he
    obtain ⟨h1, rfl⟩ := zD_of hok
    simp only [List.map_cons, zV] at kk ⊢
    simp only [zand, z32, z64] at kk
    exact lv_iand hx hb h1 (kk ls hL)
  · simp only [Option.some.injEq, Prod.mk.injEq] at he
    obtain ⟨rfl, rfl⟩ := he
    obtain ⟨h1, rfl⟩ := zD_of hok
    simp only [List.map_cons, zV] at kk ⊢
    simp only [zor, z32, z64] at kk
    exact lv_ior hx hb h1 (kk ls hL)
  · simp only [Option.some.injEq, Prod.mk.injEq] at he
    obtain ⟨rfl, rfl⟩ := he
    obtain ⟨h1, rfl⟩ := zD_of hok
    simp only [List.map_cons, zV] at kk ⊢
    simp only [zxor, z32, z64] at kk
    exact lv_ixor hx hb h1 (kk ls hL)
  · simp only [Option.some.injEq, Prod.mk.injEq] at he
    obtain ⟨rfl, rfl⟩ := he
    obtain ⟨h1, rfl⟩ := zD_of hok
    simp only [List.map_cons, zV] at kk ⊢
    simp only [zi2l, z32, z64] at kk
    exact lv_i2l hx hb h1 rfl (kk ls hL)
  · simp only [Option.some.injEq, Prod.mk.injEq] at he
    obtain ⟨rfl, rfl⟩ := he
    obtain ⟨h1, rfl⟩ := zD_of hok
    simp only [List.map_cons, zV] at kk ⊢
    simp only [zl2i, z32, z64] at kk
    exact lv_l2i hx hb h1 rfl (kk ls hL)
  · simp only [Option.some.injEq, Prod.mk.injEq] at he
    obtain ⟨rfl, rfl⟩ := he
    obtain ⟨h1, rfl⟩ := zD_of hok
    simp only [List.map_cons, zV] at kk ⊢
    simp only [zi2b, z32, z64] at kk
    exact lv_i2b hx hb h1 rfl (kk ls hL)
  · simp only [Option.some.injEq, Prod.mk.injEq] at he
    obtain ⟨rfl, rfl⟩ := he
    obtain ⟨h1, rfl⟩ := zD_of hok
    simp only [List.map_cons, zV] at kk ⊢
    simp only [zi2s, z32, z64] at kk
    exact lv_i2s hx hb h1 rfl (kk ls hL)
  · simp only [Option.some.injEq, Prod.mk.injEq] at he
    obtain ⟨rfl, rfl⟩ := he
    obtain ⟨h1, rfl⟩ := zD_of hok
    simp only [List.map_cons, zV] at kk ⊢
    simp only [zi2c, z32, z64] at kk
    exact lv_i2c hx hb h1 rfl (kk ls hL)
  · simp only [Option.some.injEq, Prod.mk.injEq] at he
    obtain ⟨rfl, rfl⟩ := he
    obtain ⟨h1, rfl⟩ := zD_of hok
    simp only [List.map_cons, zV] at kk ⊢
    simp only [zladd, z32, z64] at kk
    exact lv_ladd hx hb h1 (kk ls hL)
  · simp only [Option.some.injEq, Prod.mk.injEq] at he
    obtain ⟨rfl, rfl⟩ := he
    obtain ⟨h1, rfl⟩ := zD_of hok
    simp only [List.map_cons, zV] at kk ⊢
    simp only [zlmul, z32, z64] at kk
    exact lv_lmul hx hb h1 (kk ls hL)
  · simp only [Option.some.injEq, Prod.mk.injEq] at he
    obtain ⟨rfl, rfl⟩ := he
    obtain ⟨h1, rfl⟩ := zD_of hok
    simp only [List.map_cons, zV] at kk ⊢
    simp only [zlcmp, z32, z64] at kk
    exact W.lcmp hx hb h1 (kk ls hL)
  · simp only [Option.some.injEq, Prod.mk.injEq] at he
    obtain ⟨rfl, rfl⟩ := he
    obtain ⟨h1, rfl⟩ := zD_of hok
    simp only [List.map_cons, zV] at kk ⊢
    exact lv_dup hx hb h1 rfl (kk ls hL)
  · simp only [Option.some.injEq, Prod.mk.injEq] at he
    obtain ⟨rfl, rfl⟩ := he
    obtain ⟨h1, rfl⟩ := zD_of hok
    simp only [List.map_cons, zV] at kk ⊢
    exact lv_dup hx hb h1 (zV_cat (.inr (.inr _))) (kk ls hL)
  · simp only [Option.some.injEq, Prod.mk.injEq] at he
    obtain ⟨rfl, rfl⟩ := he
    obtain ⟨h1, rfl⟩ := zD_of hok
    simp only [List.map_cons, zV] at kk ⊢
    exact lv_dup2_11 hx hb h1 rfl (zV_cat (.inr (.inr _))) (kk ls hL)
  · simp only [Option.some.injEq, Prod.mk.injEq] at he
    obtain ⟨rfl, rfl⟩ := he
    obtain ⟨h1, rfl⟩ := zD_of hok
    simp only [List.map_cons, zV] at kk ⊢
    exact lv_pop hx hb h1 rfl (kk ls hL)
  · split at he
    · rename_i hlen
      simp only [Option.some.injEq, Prod.mk.injEq] at he
      obtain ⟨rfl, rfl⟩ := he
      simp only [zk1, Bool.and_eq_true] at hok
      obtain ⟨h1, rfl⟩ := zD_of hok.1
      have hq := z_stcat hlen
      simp only [List.map_cons, zV] at kk ⊢
      refine va_mmax hx hb (hml.trans hL.2.1.symm) hown (hts _ (zAt_in hok.2)) (hts _ (z_jw (z_jm (Cond.static Lib.Math.max.name) (by simp)) rfl)) (hts _ (z_jw (z_jm (Cond.initialized "java/lang/Math") (by simp)) rfl)) (hts _ (z_jw z_jm1.1 rfl)) hR1 (by omega) hcl hsl h1 ?_
      rw [z_mx (zokS_head (zokS_tail hs)) (zokS_head hs)]
      exact kk ls hL
    · cases he
  · split at he
    · rename_i hlen
      simp only [Option.some.injEq, Prod.mk.injEq] at he
      obtain ⟨rfl, rfl⟩ := he
      simp only [zk1, Bool.and_eq_true] at hok
      obtain ⟨h1, rfl⟩ := zD_of hok.1
      have hq := z_stcat hlen
      simp only [List.map_cons, zV] at kk ⊢
      refine va_mmin hx hb (hml.trans hL.2.1.symm) hown (hts _ (zAt_in hok.2)) (hts _ (z_jw (z_jm (Cond.static Lib.Math.min.name) (by simp)) rfl)) (hts _ (z_jw (z_jm (Cond.initialized "java/lang/Math") (by simp)) rfl)) (hts _ (z_jw z_jm1.2 rfl)) hR1 (by omega) hcl hsl h1 ?_
      rw [z_mn (zokS_head (zokS_tail hs)) (zokS_head hs)]
      exact kk ls hL
    · cases he
  · split at he
    · cases he
    · rename_i hne
      simp only [Option.some.injEq, Prod.mk.injEq] at he
      obtain ⟨rfl, rfl⟩ := he
      obtain ⟨h1, rfl⟩ := zD_of hok
      simp only [List.map_cons, zV] at kk ⊢
      simp only [zdiv, z32, z64] at kk
      exact lv_idiv hx hb h1 (zi_ne0 (zokS_head hs) hne) (kk ls hL)
  · split at he
    · cases he
    · rename_i hne
      simp only [Option.some.injEq, Prod.mk.injEq] at he
      obtain ⟨rfl, rfl⟩ := he
      obtain ⟨h1, rfl⟩ := zD_of hok
      simp only [List.map_cons, zV] at kk ⊢
      simp only [zrem, z32, z64] at kk
      exact lv_irem hx hb h1 (zi_ne0 (zokS_head hs) hne) (kk ls hL)
  · split at he
    · cases he
    · rename_i hne
      simp only [Option.some.injEq, Prod.mk.injEq] at he
      obtain ⟨rfl, rfl⟩ := he
      obtain ⟨h1, rfl⟩ := zD_of hok
      simp only [List.map_cons, zV] at kk ⊢
      simp only [zldiv, z32, z64] at kk
      exact lv_ldiv hx hb h1 (zl_ne0 (zokS_head hs) hne) (kk ls hL)
  · cases he
end ZW
end
section
theorem zr2_inj {x y : Nat} : zr2 x = zr2 y ↔ x = y := by
  unfold zr2
  by_cases h1 : x = 0 <;> by_cases h2 : y = 0 <;> simp [h1, h2] <;> omega
noncomputable def zgo (mm nx : Nat) (o : Option Nat) : Nat := match o with
  | none => nx
  | some b => zpc (zB mm b)
section ZB
variable {p : Program} {l : Launch} {e : Env} {R : Room} {s : State} {m : MethodId} {args : Array Value} {below : List Frame} {meth : Method} {c : Code} {H : Heap} {locs : List Loc} {cells slots : Nat} {Q : State → Prop}
theorem zO_tgt (mm a pc : Nat) : (pc : Int) + (zO mm a - pc) = ((zpc (zB mm a) : Nat) : Int) := by unfold zO; omega
theorem zsw_in {tb : List (Int × Nat)} {a : Nat} {x : Int} (h : ∀ q ∈ tb, ¬ x = q.1) : zsw tb a x = a := by
  induction tb with
  | nil => rfl
  | cons q r ih => rw [zsw, if_neg (h q List.mem_cons_self)]; exact ih fun q hq => h q (List.mem_cons_of_mem _ hq)
/-- a row of keys that goes up by one -/
theorem zsw_tab : ∀ (tb : List (Int × Nat)) (lo x : Int) (a : Nat), (∀ (j : Nat) (q : Int × Nat), tb[j]? = some q → q.1 = lo + j) → ((x < lo ∨ lo + tb.length ≤ x) ∧ zsw tb a x = a) ∨ ∃ q, tb[(x - lo).toNat]? = some q ∧ lo ≤ x ∧ x < lo + tb.length ∧ zsw tb a x = q.2
  | [], lo, x, a, h => Or.inl ⟨by simp; omega, rfl⟩
  | q :: r, lo, x, a, h => by
    have h0 : q.1 = lo := by have := h 0 q rfl; simpa using this
    by_cases e : x = q.1
    · refine Or.inr ⟨q, ?_, by omega, by simp; omega, by rw [zsw, if_pos e]⟩
      rw [show (x - lo).toNat = 0 by omega]
      rfl
    · rcases zsw_tab r (lo + 1) x a (fun j q' hq => by have := h (j + 1) q' (by simpa using hq); push_cast at this; omega) with ⟨g1, g2⟩ | ⟨q', g1, g2, g3, g4⟩
      · exact Or.inl ⟨by simp only [List.length_cons]; omega, by rw [zsw, if_neg e]; exact g2⟩
      · refine Or.inr ⟨q', ?_, by omega, by simp only [List.length_cons]; omega, by rw [zsw, if_neg e]; exact g4⟩
        rw [show (x - lo).toNat = (x - (lo + 1)).toNat + 1 by omega]
        simpa using g1
theorem zsw_off {mm pc : Nat} : ∀ (tb : List (Int × Nat)) (a : Nat) (d x : Int), (pc : Int) + d = zO mm a → (pc : Int) + Op.lookupswitch.offset (tb.map fun q => (q.1, zO mm q.2 - pc)) d x = zO mm (zsw tb a x)
  | [], a, d, x, h => h
  | q :: r, a, d, x, h => by
    rw [zsw, List.map_cons]
    by_cases e : x = q.1
    · rw [if_pos e]
      simp only [Op.lookupswitch.offset]
      rw [if_pos (by simp [e])]
      omega
    · rw [if_neg e]
      simp only [Op.lookupswitch.offset]
      rw [if_neg (by simpa using Ne.symm e)]
      exact zsw_off r a d x h
set_option maxHeartbeats 8000000 in
theorem zbr_W {mm nx : Nat} {i : zMI} {L : zLo} {st st' : List zAV} {o : Option Nat} {ls : Array Slot} (hx : p.tables.exec = Jvm.exec) (hb : c.code = zC mm)
    (hok : zk2 mm i nx = true) (he : zbr i st = some (o, st')) (hs : zokS st)
    (kk : W p l e R s m args below meth c H locs cells slots Q (F0 m (zgo mm nx o) ls (st'.map zV))) : W p l e R s m args below meth c H locs cells slots Q (F0 m i.2.1 ls (st.map zV)) := by
  unfold zbr at he
  split at he
  · simp only [Option.some.injEq, Prod.mk.injEq] at he
    obtain ⟨rfl, rfl⟩ := he
    obtain ⟨h1, rfl⟩ := zD_of hok
    simp only [List.map_cons, zV] at kk ⊢
    have hq := zi_eq (zokS_head hs) (⟨by omega, by omega⟩ : zR32 0)
    refine lv_if_eq hx hb h1 (zO_tgt _ _ _) (fun z => ?_) (fun z => ?_)
    · rw [if_pos (hq.mp z)] at kk
      exact kk
    · rw [if_neg (fun y => z (hq.mpr y))] at kk
      exact kk
  · simp only [Option.some.injEq, Prod.mk.injEq] at he
    obtain ⟨rfl, rfl⟩ := he
    obtain ⟨h1, rfl⟩ := zD_of hok
    simp only [List.map_cons, zV] at kk ⊢
    have hq := zi_eq (zokS_head hs) (⟨by omega, by omega⟩ : zR32 0)
    refine lv_if_ne hx hb h1 (zO_tgt _ _ _) (fun z => ?_) (fun z => ?_)
    · rw [if_neg (fun y => z (hq.mpr y))] at kk
      exact kk
    · rw [if_pos (hq.mp z)] at kk
      exact kk
  · simp only [Option.some.injEq, Prod.mk.injEq] at he
    obtain ⟨rfl, rfl⟩ := he
    obtain ⟨h1, rfl⟩ := zD_of hok
    simp only [List.map_cons, zV] at kk ⊢
    have hq := zi_lt (zokS_head hs) (⟨by omega, by omega⟩ : zR32 0)
    refine lv_if_lt hx hb h1 (zO_tgt _ _ _) (fun z => ?_) (fun z => ?_)
    · rw [if_pos (hq.mp z)] at kk
      exact kk
    · rw [if_neg (fun y => z (hq.mpr y))] at kk
      exact kk
  · simp only [Option.some.injEq, Prod.mk.injEq] at he
    obtain ⟨rfl, rfl⟩ := he
    obtain ⟨h1, rfl⟩ := zD_of hok
    simp only [List.map_cons, zV] at kk ⊢
    have hq := zi_le (⟨by omega, by omega⟩ : zR32 0) (zokS_head hs)
    refine lv_if_ge hx hb h1 (zO_tgt _ _ _) (fun z => ?_) (fun z => ?_)
    · rw [if_neg (fun y => absurd (hq.mp z) (by omega))] at kk
      exact kk
    · rw [if_pos (by have h9 := mt hq.mpr z; omega)] at kk
      exact kk
  · simp only [Option.some.injEq, Prod.mk.injEq] at he
    obtain ⟨rfl, rfl⟩ := he
    obtain ⟨h1, rfl⟩ := zD_of hok
    simp only [List.map_cons, zV] at kk ⊢
    have hq := zi_lt (⟨by omega, by omega⟩ : zR32 0) (zokS_head hs)
    refine lv_if_gt hx hb h1 (zO_tgt _ _ _) (fun z => ?_) (fun z => ?_)
    · rw [if_pos (hq.mp z)] at kk
      exact kk
    · rw [if_neg (fun y => z (hq.mpr y))] at kk
      exact kk
  · simp only [Option.some.injEq, Prod.mk.injEq] at he
    obtain ⟨rfl, rfl⟩ := he
    obtain ⟨h1, rfl⟩ := zD_of hok
    simp only [List.map_cons, zV] at kk ⊢
    have hq := zi_le (zokS_head hs) (⟨by omega, by omega⟩ : zR32 0)
    refine lv_if_le hx hb h1 (zO_tgt _ _ _) (fun z => ?_) (fun z => ?_)
    · rw [if_neg (fun y => absurd (hq.mp z) (by omega))] at kk
      exact kk
    · rw [if_pos (by have h9 := mt hq.mpr z; omega)] at kk
      exact kk
  · simp only [Option.some.injEq, Prod.mk.injEq] at he
    obtain ⟨rfl, rfl⟩ := he
    obtain ⟨h1, rfl⟩ := zD_of hok
    simp only [List.map_cons, zV] at kk ⊢
    have hq := zi_eq (zokS_head (zokS_tail hs)) (zokS_head hs)
    refine lv_icmp_eq hx hb h1 (zO_tgt _ _ _) (fun z => ?_) (fun z => ?_)
    · rw [if_pos (hq.mp z)] at kk
      exact kk
    · rw [if_neg (fun y => z (hq.mpr y))] at kk
      exact kk
  · simp only [Option.some.injEq, Prod.mk.injEq] at he
    obtain ⟨rfl, rfl⟩ := he
    obtain ⟨h1, rfl⟩ := zD_of hok
    simp only [List.map_cons, zV] at kk ⊢
    have hq := zi_eq (zokS_head (zokS_tail hs)) (zokS_head hs)
    refine lv_icmp_ne hx hb h1 (zO_tgt _ _ _) (fun z => ?_) (fun z => ?_)
    · rw [if_neg (fun y => z (hq.mpr y))] at kk
      exact kk
    · rw [if_pos (hq.mp z)] at kk
      exact kk
  · simp only [Option.some.injEq, Prod.mk.injEq] at he
    obtain ⟨rfl, rfl⟩ := he
    obtain ⟨h1, rfl⟩ := zD_of hok
    simp only [List.map_cons, zV] at kk ⊢
    have hq := zi_lt (zokS_head (zokS_tail hs)) (zokS_head hs)
    refine lv_icmp_lt hx hb h1 (zO_tgt _ _ _) (fun z => ?_) (fun z => ?_)
    · rw [if_pos (hq.mp z)] at kk
      exact kk
    · rw [if_neg (fun y => z (hq.mpr y))] at kk
      exact kk
  · simp only [Option.some.injEq, Prod.mk.injEq] at he
    obtain ⟨rfl, rfl⟩ := he
    obtain ⟨h1, rfl⟩ := zD_of hok
    simp only [List.map_cons, zV] at kk ⊢
    have hq := zi_le (zokS_head hs) (zokS_head (zokS_tail hs))
    refine lv_icmp_ge hx hb h1 (zO_tgt _ _ _) (fun z => ?_) (fun z => ?_)
    · rw [if_neg (fun y => absurd (hq.mp z) (by omega))] at kk
      exact kk
    · rw [if_pos (by have h9 := mt hq.mpr z; omega)] at kk
      exact kk
  · simp only [Option.some.injEq, Prod.mk.injEq] at he
    obtain ⟨rfl, rfl⟩ := he
    obtain ⟨h1, rfl⟩ := zD_of hok
    simp only [List.map_cons, zV] at kk ⊢
    have hq := zi_lt (zokS_head hs) (zokS_head (zokS_tail hs))
    refine lv_icmp_gt hx hb h1 (zO_tgt _ _ _) (fun z => ?_) (fun z => ?_)
    · rw [if_pos (hq.mp z)] at kk
      exact kk
    · rw [if_neg (fun y => z (hq.mpr y))] at kk
      exact kk
  · simp only [Option.some.injEq, Prod.mk.injEq] at he
    obtain ⟨rfl, rfl⟩ := he
    obtain ⟨h1, rfl⟩ := zD_of hok
    simp only [List.map_cons, zV] at kk ⊢
    have hq := zi_le (zokS_head (zokS_tail hs)) (zokS_head hs)
    refine lv_icmp_le hx hb h1 (zO_tgt _ _ _) (fun z => ?_) (fun z => ?_)
    · rw [if_neg (fun y => absurd (hq.mp z) (by omega))] at kk
      exact kk
    · rw [if_pos (by have h9 := mt hq.mpr z; omega)] at kk
      exact kk
  · simp only [Option.some.injEq, Prod.mk.injEq] at he
    obtain ⟨rfl, rfl⟩ := he
    obtain ⟨h1, rfl⟩ := zD_of hok
    rename_i y x _
    simp only [List.map_cons, zV] at kk ⊢
    have hq : zr2 x = zr2 y ↔ x = y := zr2_inj
    refine lv_acmp_eq hx hb h1 (zO_tgt _ _ _) (fun z => ?_) (fun z => ?_)
    · rw [if_pos (hq.mp z)] at kk
      exact kk
    · rw [if_neg (fun y => z (hq.mpr y))] at kk
      exact kk
  · simp only [Option.some.injEq, Prod.mk.injEq] at he
    obtain ⟨rfl, rfl⟩ := he
    obtain ⟨h1, rfl⟩ := zD_of hok
    rename_i y x _
    simp only [List.map_cons, zV] at kk ⊢
    have hq : zr2 x = zr2 y ↔ x = y := zr2_inj
    refine lv_acmp_ne hx hb h1 (zO_tgt _ _ _) (fun z => ?_) (fun z => ?_)
    · rw [if_neg (fun y => z (hq.mpr y))] at kk
      exact kk
    · rw [if_pos (hq.mp z)] at kk
      exact kk
  · rename_i x _
    simp only [Option.some.injEq, Prod.mk.injEq] at he
    obtain ⟨rfl, rfl⟩ := he
    obtain ⟨h1, rfl⟩ := zD_of hok
    simp only [List.map_cons] at kk ⊢
    by_cases z : x = 0
    · rw [if_pos z] at kk
      subst z
      exact lv_ifnullN hx hb h1 (zO_tgt _ _ _) kk
    · rw [if_neg z] at kk
      rw [zV_ref (by omega)]
      exact lv_ifnull hx hb h1 kk
  · rename_i x _
    simp only [Option.some.injEq, Prod.mk.injEq] at he
    obtain ⟨rfl, rfl⟩ := he
    obtain ⟨h1, rfl⟩ := zD_of hok
    simp only [List.map_cons] at kk ⊢
    by_cases z : x = 0
    · rw [if_pos z] at kk
      subst z
      exact lv_ifnonnullN hx hb h1 kk
    · rw [if_neg z] at kk
      rw [zV_ref (by omega)]
      exact lv_ifnonnull hx hb h1 (zO_tgt _ _ _) kk
  · simp only [Option.some.injEq, Prod.mk.injEq] at he
    obtain ⟨rfl, rfl⟩ := he
    simp only [zk2, decide_eq_true_eq] at hok
    exact lv_goto hx hb hok (zO_tgt _ _ _) kk
  · simp only [Option.some.injEq, Prod.mk.injEq] at he
    obtain ⟨rfl, rfl⟩ := he
    have hok := Int.ofNat_inj.mp (of_decide_eq_true (show decide ((zpc (zB mm _) : Int) = _) = true from hok))
    simp only [zgo, hok] at kk
    exact kk
  · simp only [Option.some.injEq, Prod.mk.injEq] at he
    obtain ⟨rfl, rfl⟩ := he
    simp only [zk2] at hok
    split at hok
    · rename_i x st _ d lo hi offs len hd
      simp only [Bool.and_eq_true, decide_eq_true_eq, List.all_eq_true] at hok
      obtain ⟨⟨g1, g2⟩, g3⟩ := hok
      have hxr := zokS_head hs
      have hti : (Int32.ofInt x).toInt = x := Int32.toInt_ofInt_of_le (by have := hxr.1; omega) (by have := hxr.2; omega)
      simp only [List.map_cons, zV] at kk ⊢
      have hk : ∀ (j : Nat) (q : Int × Nat), _[j]? = some q → q.1 = lo + j := fun j q hq => by
        have hj := (List.getElem?_eq_some_iff.mp hq).1
        have := g3 j (List.mem_range.mpr hj)
        rw [hq] at this
        split at this
        · rename_i q' o' e1 e2
          cases e1
          simp only [Bool.and_eq_true, decide_eq_true_eq] at this
          exact this.1
        · cases this
      rcases zsw_tab _ lo x _ hk with ⟨q1, q2⟩ | ⟨q, q1, q2, q3, q4⟩
      · rw [q2] at kk
        exact lv_tableOut hx hb hd (by rw [hti]; omega) g1 kk
      · rw [q4] at kk
        have hj := (List.getElem?_eq_some_iff.mp q1).1
        have := g3 _ (List.mem_range.mpr hj)
        rw [q1] at this
        split at this
        · rename_i q' o' e1 e2
          cases e1
          simp only [Bool.and_eq_true, decide_eq_true_eq] at this
          exact lv_tableIn hx hb hd (by rw [hti]; omega) (by rw [hti]; omega) (by rw [hti]; exact e2) this.2 kk
        · cases this
    · cases hok
  · simp only [Option.some.injEq, Prod.mk.injEq] at he
    obtain ⟨rfl, rfl⟩ := he
    simp only [zk2] at hok
    split at hok
    · rename_i x st _ d ps len hd
      simp only [Bool.and_eq_true, decide_eq_true_eq] at hok
      obtain ⟨⟨g1, g2⟩, g3⟩ := hok
      have hxr := zokS_head hs
      have hti : (Int32.ofInt x).toInt = x := Int32.toInt_ofInt_of_le (by have := hxr.1; omega) (by have := hxr.2; omega)
      simp only [List.map_cons, zV] at kk ⊢
      exact lv_lookup hx hb hd g3 rfl (by rw [hti, g2]; exact zsw_off _ _ _ _ g1) kk
    · cases hok
  · cases he
end ZB
end
section
/-! the heap and its abstract picture -/
def zXM : List (String × Nat × MethodName × String) := [("EngraversHouse", 45, ⟨"EngraversHouse$Layout", "<init>", "()V"⟩, "EngraversHouse"), ("EngraversHouse", 74, ⟨"EngraversHouse$PrintPlan", "<init>", "()V"⟩, "EngraversHouse"), ("EngraversHouse$Score", 57, ⟨"EngraversHouse", "lengthOf", "(I)I"⟩, "EngraversHouse"), ("EngraversHouse$Score", 64, ⟨"EngraversHouse$Bar", "<init>", "()V"⟩, "EngraversHouse"), ("EngraversHouse$Bar", 22, ⟨"EngraversHouse", "lengthOf", "(I)I"⟩, "EngraversHouse"), ("EngraversHouse$Part", 15, ⟨"EngraversHouse$Bar", "<init>", "()V"⟩, "EngraversHouse"), ("EngraversHouse$Part", 55, ⟨"EngraversHouse", "shifted", "(II)I"⟩, "EngraversHouse"), ("EngraversHouse$Bar", 30, ⟨"EngraversHouse", "isRest", "(I)Z"⟩, "EngraversHouse"), ("EngraversHouse$Plate", 38, ⟨"EngraversHouse$Bar", "<init>", "()V"⟩, "EngraversHouse"), ("EngraversHouse$Bar", 40, ⟨"EngraversHouse", "shifted", "(II)I"⟩, "EngraversHouse"), ("EngraversHouse$Edition", 65, ⟨"EngraversHouse", "within", "(III)Z"⟩, "EngraversHouse"), ("EngraversHouse$Edition", 84, ⟨"EngraversHouse$Bar", "<init>", "()V"⟩, "EngraversHouse"), ("EngraversHouse$Tour", 49, ⟨"EngraversHouse", "isTown", "(I)Z"⟩, "EngraversHouse"), ("EngraversHouse$Tour", 72, ⟨"EngraversHouse", "within", "(III)Z"⟩, "EngraversHouse")]
def zXC : List (String × String) := [("[I", "java/lang/Cloneable"), ("EngraversHouse$Score", "EngraversHouse$Thing"), ("EngraversHouse$Part", "EngraversHouse$Thing"), ("EngraversHouse$Plate", "EngraversHouse$Thing"), ("EngraversHouse$Edition", "EngraversHouse$Thing"), ("EngraversHouse$Erratum", "EngraversHouse$Thing")]
def zXO : List String := ["EngraversHouse$Thing", "EngraversHouse$Plate", "EngraversHouse$Contract", "EngraversHouse$Bar"]
def zXD : List MethodName := [⟨RX9, "scoreNumber", "()I"⟩, ⟨RX9, "second", "()I"⟩, ⟨RX9, "third", "()I"⟩]
def zA (b0 : Nat) : Nat → Prop := fun q => b0 ≤ q
def zrf (t : FieldType) : Bool := match t with
  | .object _ => true
  | .array _ => true
  | _ => false
def zfv (t : FieldType) (x : Int) : Value := if zint t = true then .int (Int32.ofInt x) else va_rf (zr2 x.toNat)
def zTA (dA : Nat → ClassId) : List (ClassId × FieldType) := [(dA 30, .int), (dA 31, .boolean), (dA 32, .byte), (dA 33, .object RX9), (dA 34, .object RX6), (dA 35, .object RX1), (dA 36, .object RX0), (dA 37, .array .int)]
def zcell (dA : Nat → ClassId) (h : zHp) (a : Nat) : va_E :=
  if ztg h a < 20 then .inr (ztg h a - 1, (List.range (zNf (ztg h a - 1))).map fun k => zfv (zTy (ztg h a - 1) k) (zct h a k))
  else .inl (dA (ztg h a), zln h a, if ztg h a < 33 then .inl (fun i => Int32.ofInt (zct h a i)) else .inr (.inr (.inr (.inr fun i => zr2 (zct h a i).toNat))))
def zws (dA : Nat → ClassId) (b0 : Nat) (h : zHp) : va_W := (List.range (znx h - b0)).map fun k => (b0 + k, zcell dA h (b0 + k + 1))
def zHR (D : va_G) (dA : Nat → ClassId) (b0 : Nat) (h : zHp) (H : Heap) : Prop := va_P D vwCl (zws dA b0 h) H ∧ H.size = znx h
theorem zws_at {dA : Nat → ClassId} {b0 : Nat} {h : zHp} {a : Nat} (h1 : b0 < a) (h2 : a ≤ znx h) : (zws dA b0 h)[a - 1 - b0]? = some (a - 1, zcell dA h a) := by
  unfold zws
  rw [List.getElem?_map, List.getElem?_range (by omega), Option.map_some, show b0 + (a - 1 - b0) = a - 1 by omega, show a - 1 + 1 = a by omega]
theorem zws_D (dA : Nat → ClassId) (b0 : Nat) (h : zHp) : va_D (zA b0) (zws dA b0 h) := by
  have key : ∀ (k : Nat) (q : Nat × va_E), (zws dA b0 h)[k]? = some q → q.1 = b0 + k := by
    intro k q hq
    have hk := (List.getElem?_eq_some_iff.mp hq).1
    unfold zws at hq hk
    rw [List.length_map, List.length_range] at hk
    rw [List.getElem?_map, List.getElem?_range hk, Option.map_some] at hq
    cases hq
    rfl
  refine ⟨fun i j p q hi hj e => ?_, fun k q hk => ?_⟩
  · have := key i p hi
    have := key j q hj
    omega
  · have := key k q hk
    unfold zA
    omega
theorem zws_upd {dA : Nat → ClassId} {b0 : Nat} {h h' : zHp} {a : Nat} (hn : znx h' = znx h) (h1 : b0 < a) (h2 : a ≤ znx h) (hq : ∀ q, q ≠ a → zcell dA h' q = zcell dA h q) : (zws dA b0 h).set (a - 1 - b0) (a - 1, zcell dA h' a) = zws dA b0 h' := by
  apply List.ext_getElem?
  intro k
  by_cases hk : k < znx h - b0
  · have e2 : (zws dA b0 h')[k]? = some (b0 + k, zcell dA h' (b0 + k + 1)) := by
      unfold zws
      rw [hn, List.getElem?_map, List.getElem?_range hk, Option.map_some]
    have e1 : (zws dA b0 h)[k]? = some (b0 + k, zcell dA h (b0 + k + 1)) := by
      unfold zws
      rw [List.getElem?_map, List.getElem?_range hk, Option.map_some]
    rw [e2]
    by_cases e : k = a - 1 - b0
    · subst e
      rw [List.getElem?_set_self (List.getElem?_eq_some_iff.mp e1).1, show b0 + (a - 1 - b0) = a - 1 by omega, show a - 1 + 1 = a by omega]
    · rw [List.getElem?_set_ne (Ne.symm e), e1, hq _ (by omega)]
  · rw [List.getElem?_eq_none, List.getElem?_eq_none]
    · unfold zws; rw [List.length_map, List.length_range]; omega
    · rw [List.length_set]; unfold zws; rw [List.length_map, List.length_range]; omega
theorem zws_push {dA : Nat → ClassId} {b0 : Nat} {h : zHp} (hb : b0 ≤ znx h) (t n : Nat) (f : Nat → Int) : zws dA b0 (zal h t n f) = zws dA b0 h ++ [(znx h, zcell dA (zal h t n f) (znx h + 1))] := by
  unfold zws
  rw [znx_al, show znx h + 1 - b0 = (znx h - b0) + 1 by omega, List.range_succ, List.map_append]
  congr 1
  · apply List.map_congr_left
    intro k hk
    have := List.mem_range.mp hk
    congr 1
    unfold zcell
    have hne : ¬ b0 + k + 1 = znx h + 1 := by omega
    simp only [ztg_al, zln_al, zct_al, hne, if_false]
  · simp only [List.map_cons, List.map_nil, show b0 + (znx h - b0) = znx h by omega]
theorem zcell_wr {dA : Nat → ClassId} {h : zHp} {a k : Nat} {v : Int} {q : Nat} (hq : q ≠ a) : zcell dA (zwr h a k v) q = zcell dA h q := by
  unfold zcell
  simp only [ztg_wr, zln_wr, zct_wr, hq, false_and, if_false]
theorem zcell_ob {dA : Nat → ClassId} {h : zHp} {a : Nat} (ht : ztg h a < 20) : zcell dA h a = .inr (ztg h a - 1, (List.range (zNf (ztg h a - 1))).map fun k => zfv (zTy (ztg h a - 1) k) (zct h a k)) := by
  unfold zcell; rw [if_pos ht]
theorem zcell_ai {dA : Nat → ClassId} {h : zHp} {a : Nat} (h1 : 20 ≤ ztg h a) (h2 : ztg h a < 33) : zcell dA h a = .inl (dA (ztg h a), zln h a, .inl (fun i => Int32.ofInt (zct h a i))) := by
  unfold zcell; rw [if_neg (by omega), if_pos h2]
theorem zcell_ar {dA : Nat → ClassId} {h : zHp} {a : Nat} (h1 : 33 ≤ ztg h a) : zcell dA h a = .inl (dA (ztg h a), zln h a, .inr (.inr (.inr (.inr fun i => zr2 (zct h a i).toNat)))) := by
  unfold zcell; rw [if_neg (by omega), if_neg (by omega)]
/-- the class of int[][] is there -/
def zAOA (U : State) : Prop := (Cond.arrayOver (.array .int)).before #[] U = true
theorem zAOA.use {A : Array Value} {U : State} (h : zAOA U) : (Cond.arrayOver (.array .int)).before A U = true := h
theorem zAOA.moved {u U : State} (hvm : u.vm.Alike U.vm) (h : zAOA u) : zAOA U := by
  unfold zAOA Cond.before Cond.holds at h ⊢
  simp only [Cond.value, beq_iff_eq] at h ⊢
  cases hc : u.vm.findClass (FieldType.array .int).toString with
  | none => simp [hc] at h
  | some comp =>
    simp only [hc, Option.bind_some, Option.bind_eq_some_iff, Option.map_eq_some_iff] at h
    obtain ⟨c, hi, k, hk, hb⟩ := h
    obtain ⟨k', hk', he⟩ := hvm.2.2 _ _ hk
    have hi0 := (va_idx_bare u.vm comp).trans hi
    have hb0 : U.vm.bare = u.vm.bare := by first | exact hvm.bare_eq | exact hvm.bare_eq.symm
    rw [← hb0] at hi0
    have hi' := (va_idx_bare U.vm comp).symm.trans hi0
    have f1 : U.vm.findClass (FieldType.array .int).toString = some comp := by rw [hvm.findClass]; exact hc
    have hkind : k'.kind = k.kind := by rw [he]
    simp only [f1, Option.bind_some, Option.bind_eq_some_iff, Option.map_eq_some_iff]
    refine ⟨c, hi', k', hk', ?_⟩
    rw [hkind, hvm.findClass]
    exact hb
/-- what stands of the start's own cells, at every state -/
def zStm (A : Nat → Prop) (U : State) (H : Heap) (E : Nat → Nat) : Prop :=
  (∀ k, k < 12 → ∃ q, E k = q + 1 ∧ vk_R RX1 (zSi.getD k (0, "")).1 (zSi.getD k (0, "")).2 q U) ∧
  va_Z "java/lang/String" "COMPACT_STRINGS" "Z" (.int 1) A U H ∧ va_Z "jdk/internal/util/Preconditions" "SIOOBE_FORMATTER" "Ljava/util/function/BiFunction;" (va_rf (zr2 (E 12))) A U H ∧
  va_Z RX11 "KIND_ABOVE" "[I" (va_rf (zr2 (E 13))) A U H ∧ va_Z RX11 "BODIES" "[I" (va_rf (zr2 (E 14))) A U H ∧
  (∀ c ∈ [2, 3, 5, 6, 8], ∀ t ∈ [2, 3, 5, 6, 8], c ≠ t → va_Nc (zRx c) (zRx t) U) ∧
  (∀ q ∈ zXM, va_Nw (.methodLinkNest q.1 q.2.1 q.2.2.1 q.2.2.2) U) ∧ (∀ q ∈ zXC, va_Nw (.castable q.1 q.2) U) ∧ ((∀ q ∈ zXO, va_AO q U) ∧ zAOA U) ∧ (∀ q ∈ zXD, va_Nw (.declares q) U)
def zCo (h : zHp) (A : Nat → Prop) (U : State) (H : Heap) : Prop := ∀ a,
  (ztg h a = 40 → va_T .int (a - 1) (zln h a) (fun j => .int (Int32.ofInt (zct h a j))) A U H) ∧
  (ztg h a = 41 → va_T .byte (a - 1) (zln h a) (fun j => .int (Int32.ofInt (zct h a j))) A U H) ∧
  (ztg h a = 50 → va_O "java/lang/String" (a - 1) A U H ∧ va_OF "java/lang/String" "coder" "B" (.int 0) (a - 1) A U H ∧ va_OF "java/lang/String" "value" "[B" (va_rf (zr2 (zct h a 0).toNat)) (a - 1) A U H)
theorem zStm.warm {A : Nat → Prop} {s U : State} {H H1 : Heap} {E : Nat → Nat} (hW : s.WarmedH U.vm) (hq : ∀ a : Nat, a < H.size → ¬ A a → H1[a]? = H[a]?) (h : zStm A s H E) : zStm A U H1 E := by
  obtain ⟨h1, h2, h3, h4, h5, h6, h7, h8, h9, h10⟩ := h
  have hal := hW.alike
  refine ⟨fun k hk => ?_, va_Z.moved hal (h2.kept hq), va_Z.moved hal (h3.kept hq), va_Z.moved hal (h4.kept hq), va_Z.moved hal (h5.kept hq), fun c hc t ht hn => va_Nc.moved hal (h6 c hc t ht hn), fun q hm => va_Nw.warmM hW (h7 q hm), fun q hm => va_Nw.warmC hW (h8 q hm), ⟨fun q hm => va_AO.moved hal (h9.1 q hm), zAOA.moved hal h9.2⟩, fun q hm => va_Nw.warmD hW (h10 q hm)⟩
  obtain ⟨q, e, hr⟩ := h1 k hk
  exact ⟨q, e, vk_R.warm hW hr⟩
theorem va_T_moved {ty : FieldType} {t N : Nat} {f : Nat → Value} {A : Nat → Prop} {u U : State} {H H1 : Heap} (hvm : u.vm.Alike U.vm) (hq : ∀ a : Nat, a < H.size → ¬ A a → H1[a]? = H[a]?) (h : va_T ty t N f A u H) : va_T ty t N f A U H1 := by
  obtain ⟨cell, h1, h2, h3⟩ := h
  exact ⟨cell, by rw [hq t (Array.getElem?_eq_some_iff.mp h1).1 h3.2.2.2.2]; exact h1, State.isArrayOf_alike hvm h2, h3⟩
theorem zCo.warm {h : zHp} {A : Nat → Prop} {s U : State} {H H1 : Heap} (hal : s.vm.Alike U.vm) (hq : ∀ a : Nat, a < H.size → ¬ A a → H1[a]? = H[a]?) (hc : zCo h A s H) : zCo h A U H1 := fun a =>
  ⟨fun e => va_T_moved hal hq ((hc a).1 e), fun e => va_T_moved hal hq ((hc a).2.1 e), fun e => ⟨va_O.moved hal (((hc a).2.2 e).1.kept hq), va_OF.moved hal (((hc a).2.2 e).2.1.kept hq), va_OF.moved hal (((hc a).2.2 e).2.2.kept hq)⟩⟩
theorem zCo.good {h h' : zHp} {A : Nat → Prop} {U : State} {H : Heap} (hg : zgood h h') (hc : zCo h A U H) : zCo h' A U H := by
  intro a
  have key : 40 ≤ ztg h' a → ztg h' a = ztg h a ∧ zln h' a = zln h a ∧ ∀ k, zct h' a k = zct h a k := fun e => hg.2.2 a (Or.inr e)
  refine ⟨fun e => ?_, fun e => ?_, fun e => ?_⟩
  · obtain ⟨k1, k2, k3⟩ := key (by omega)
    simp only [k2, k3]
    exact (hc a).1 (by rw [← k1]; exact e)
  · obtain ⟨k1, k2, k3⟩ := key (by omega)
    simp only [k2, k3]
    exact (hc a).2.1 (by rw [← k1]; exact e)
  · obtain ⟨k1, k2, k3⟩ := key (by omega)
    simp only [k3]
    exact (hc a).2.2 (by rw [← k1]; exact e)
theorem zi_clamp {j : Int} (h0 : 0 ≤ j) (h : zR32 j) : (Int32.ofInt j).toNatClampNeg = j.toNat := by
  have e : (Int32.ofInt j).toInt = j := Int32.toInt_ofInt_of_le (by have := h.1; omega) (by have := h.2; omega)
  show (Int32.ofInt j).toInt.toNat = j.toNat
  rw [e]
theorem zi_in {j : Int} {n : Nat} (h0 : 0 ≤ j) (h1 : j < (n : Int)) (h : zR32 j) : vp_in (Int32.ofInt j) n := by
  rintro (q | q)
  · have := (zi_lt h (⟨by omega, by omega⟩ : zR32 0)).mp q
    omega
  · rw [zi_clamp h0 h] at q
    omega
theorem zfv_rf {t : FieldType} (h : zrf t = true) (x : Int) : zfv t x = va_rf (zr2 x.toNat) := by
  unfold zfv
  cases t <;> first | rfl | cases h
theorem zfv_in {t : FieldType} (h : zint t = true) (x : Int) : zfv t x = .int (Int32.ofInt x) := by
  unfold zfv
  rw [if_pos h]
theorem znar_rf {t : FieldType} (h : zrf t = true) (r : Option Nat) : narrow t (va_rf r) = va_rf r ∧ fits t (va_rf r) = true := by
  cases t <;> first | (cases h; done) | (cases r <;> exact ⟨rfl, rfl⟩)
end
section
/-! the heap's instructions -/
def zSFp : List Nat := [254, 256, 259, 265, 267]
def zPn : List Nat := [340, 858, 648, 730, 36, 490, 562, 106, 234, 65, 24, 1300]
def zPni : List Nat := [9, 16, 14, 15, 2, 10, 11, 5, 8, 3, 1, 6]
def zkf (mm c0 k : Nat) (v : Int) : Bool := match tables_1[zpo v]? with
  | some (.fieldLink o i r n d) => (o == (zY mm).cls) && (i == zix v) && (zgrp c0).all (fun t => decide (1 ≤ t) && decide (t ≤ 12) && decide (k < zNf (t - 1)) && (n == (zFt (t - 1) k).2.1) && (d == (zFt (t - 1) k).2.2.1) && (r == (zFt (t - 1) k).1 || zSFp.any (fun p => zAt p (.sameField r (zFt (t - 1) k).1 (zFt (t - 1) k).2.1 (zFt (t - 1) k).2.2.1))))
  | _ => false
theorem zkf_of {mm c0 k t : Nat} {v : Int} (h : zkf mm c0 k v = true) (ht : zisA c0 t = true) : ∃ ref, 1 ≤ t ∧ t ≤ 12 ∧ k < zNf (t - 1) ∧ Cond.fieldLink (zY mm).cls (zix v) ref (zFt (t - 1) k).2.1 (zFt (t - 1) k).2.2.1 ∈ zW ∧ (ref = (zFt (t - 1) k).1 ∨ Cond.sameField ref (zFt (t - 1) k).1 (zFt (t - 1) k).2.1 (zFt (t - 1) k).2.2.1 ∈ zW) := by
  unfold zkf at h
  split at h
  · rename_i o i r n d hw
    simp only [Bool.and_eq_true, beq_iff_eq] at h
    obtain ⟨⟨h1, h2⟩, h3⟩ := h
    have h4 := List.all_eq_true.mp h3 t (zgrp_of ht)
    simp only [Bool.and_eq_true, decide_eq_true_eq, beq_iff_eq, Bool.or_eq_true] at h4
    obtain ⟨⟨⟨⟨⟨g1, g2⟩, g3⟩, g4⟩, g5⟩, g6⟩ := h4
    subst h1; subst h2; subst g4; subst g5
    refine ⟨r, g1, g2, g3, zW_in hw rfl, ?_⟩
    rcases g6 with g6 | g6
    · exact Or.inl g6
    · obtain ⟨p, -, hp⟩ := List.any_eq_true.mp g6
      exact Or.inr (zAt_in hp)
  · cases h
def zCtx (E : Nat → Nat) (D : va_G) (dA : Nat → ClassId) (b0 mm n : Nat) (p : Program) (R : Room) (s : State) (m : MethodId) (args : Array Value) (meth : Method) (c : Code) : Prop :=
  p.tables.exec = Jvm.exec ∧ c.code = zC mm ∧ c.maxLocals = n ∧ meth.name = (zY mm).name ∧ s.vm.findClass (zY mm).cls = some m.cls ∧ (∀ w ∈ zW, w.before args s = true) ∧ va_K D vwCl (zTA dA) s ∧ zStm (zA b0) s s.heap E ∧ b0 ≤ s.heap.size ∧ 1 ≤ R.frames ∧ 60 ≤ R.locals
def zDyn (D : va_G) (dA : Nat → ClassId) (b0 : Nat) (s : State) (h : zHp) (H : Heap) (locs : List Loc) : Prop := zHR D dA b0 h H ∧ zCo h (zA b0) s s.heap ∧ zinv b0 h ∧ va_S (zA b0) s.heap H locs
theorem zin_ob {b0 : Nat} {h : zHp} {a : Nat} (hi : zinv b0 h) (ht : 1 ≤ ztg h a) (h2 : ztg h a < 40) : b0 < a ∧ a ≤ znx h := by
  rcases hi.2.1 a with e | e | e
  · omega
  · exact e.2
  · omega
theorem va_S_in {A : Nat → Prop} {H0 H H1 : Heap} {locs : List Loc} (hS : va_S A H0 H locs) (z : H.size ≤ H1.size) (o1 : ∀ q, q < H.size → H1[q]? = H[q]?) : va_S A H0 H1 locs :=
  ⟨Nat.le_trans hS.1 z, fun x h1 h2 => (o1 x (Nat.lt_of_lt_of_le h1 hS.1)).trans (hS.2.1 x h1 h2), hS.2.2⟩
/-- a write of one place -/
theorem zDyn_wr {D : va_G} {dA : Nat → ClassId} {b0 : Nat} {s : State} {h : zHp} {H H1 : Heap} {locs : List Loc} {r k sl : Nat} {v : Int} (Y : zDyn D dA b0 s h H locs) (ht : 1 ≤ ztg h r) (ht2 : ztg h r < 40) (hv : zis (ztg h r) k = true → zR32 v)
    (z : H1.size = H.size) (oq : ∀ q, q ≠ r - 1 → H1[q]? = H[q]?) (he : va_at D vwCl (r - 1, zcell dA (zwr h r k v) r) H1) : zDyn D dA b0 s (zwr h r k v) H1 (locs ++ [⟨r - 1, sl⟩]) := by
  obtain ⟨⟨hP, hs⟩, hC, hi, hS⟩ := Y
  obtain ⟨b1, b2⟩ := zin_ob hi ht ht2
  obtain ⟨w1, w2⟩ := zwr_ok hi ht2 hv
  refine ⟨⟨?_, by rw [z, hs]; rfl⟩, hC.good w2, w1, hS.put z oq (by unfold zA; omega)⟩
  rw [← zws_upd (dA := dA) (b0 := b0) (h := h) (h' := zwr h r k v) (a := r) rfl b1 b2 (fun q hq => zcell_wr hq)]
  exact hP.set (zws_D dA b0 h) (zws_at b1 b2) he oq
/-- a new cell -/
theorem zDyn_al {D : va_G} {dA : Nat → ClassId} {b0 : Nat} {s : State} {h : zHp} {H H1 : Heap} {locs : List Loc} {t n : Nat} {f : Nat → Int} (Y : zDyn D dA b0 s h H locs) (ht : (1 ≤ t ∧ t ≤ 12) ∨ (30 ≤ t ∧ t ≤ 37)) (hn : n ≤ 100000) (hf : ∀ k, zis t k = true → zR32 (f k))
    (z : H1.size = H.size + 1) (oq : ∀ q, q < H.size → H1[q]? = H[q]?) (he : va_at D vwCl (znx h, zcell dA (zal h t n f) (znx h + 1)) H1) : zDyn D dA b0 s (zal h t n f) H1 locs := by
  obtain ⟨⟨hP, hs⟩, hC, hi, hS⟩ := Y
  obtain ⟨w1, w2⟩ := zal_ok hi ht hn hf
  refine ⟨⟨?_, by rw [z, hs]; rfl⟩, hC.good w2, w1, va_S_in hS (by omega) oq⟩
  rw [zws_push hi.1]
  refine (hP.kept fun k x hx => oq x.1 (hP k x hx).lt).app fun k x hx => ?_
  have hz : k < 1 := (List.getElem?_eq_some_iff.mp hx).1
  rw [show k = 0 by omega] at hx
  cases hx
  exact he
theorem zfs_at {N : Nat} {f : Nat → Value} {k : Nat} (h : k < N) : ((List.range N).map f)[k]? = some (f k) := by
  rw [List.getElem?_map, List.getElem?_range h, Option.map_some]
section ZH
variable {E : Nat → Nat} {D : va_G} {dA : Nat → ClassId} {b0 mm n : Nat} {p : Program} {l : Launch} {e : Env} {R : Room} {s : State} {m : MethodId} {args : Array Value} {below : List Frame} {meth : Method} {c : Code} {H : Heap} {locs : List Loc} {cells slots : Nat} {Q : State → Prop} {h : zHp} {pc : Nat} {ls : Array Slot} {rest : List Value}
theorem z_get (X : zCtx E D dA b0 mm n p R s m args meth c) (Y : zDyn D dA b0 s h H locs) {c0 k r : Nat} {v : Int} (hk : zkf mm c0 k v = true) (hd : decode (zC mm) pc = .ok (.getfield (zix v), 3)) (ht : zisA c0 (ztg h r) = true)
    (kk : W p l e R s m args below meth c H locs cells slots Q (F0 m (pc + 3) ls (zfv (zTy (ztg h r - 1) k) (zct h r k) :: rest))) : W p l e R s m args below meth c H locs cells slots Q (F0 m pc ls (zV (.inr (.inr r)) :: rest)) := by
  obtain ⟨ref, g1, g2, g3, g4, g5⟩ := zkf_of hk ht
  obtain ⟨hx, hb, -, -, hown, hts, hK, -⟩ := X
  obtain ⟨⟨hP, -⟩, -, hi, -⟩ := Y
  obtain ⟨b1, b2⟩ := zin_ob hi g1 (by omega)
  rw [zV_ref (by omega)]
  have ha := zws_at (dA := dA) b1 b2
  rw [zcell_ob (by omega)] at ha
  refine va_get hx hb hts (z_ws _ (by omega)) hown hK hP _ ha (z_cl _ (by omega)) k g3 (hts _ g4) ?_ (zfs_at g3) hd kk
  rcases g5 with rfl | g5
  · exact fun _ hq => hq
  · exact u_same (hts _ g5)
/-- what a final field asks -/
def zfi (mm c0 k : Nat) : Bool := (zgrp c0).all fun t => (zFt (t - 1) k).2.2.2 == false || (((zY mm).name == "<init>") && ((zFt (t - 1) k).1 == (zY mm).cls))
theorem z_put (X : zCtx E D dA b0 mm n p R s m args meth c) (Y : zDyn D dA b0 s h H locs) {c0 k r : Nat} {v w : Int} {x : Value} (hk : zkf mm c0 k v = true) (hfi : zfi mm c0 k = true) (hd : decode (zC mm) pc = .ok (.putfield (zix v), 3)) (ht : zisA c0 (ztg h r) = true)
    (hxv : zfv (zTy (ztg h r - 1) k) w = x) (hn : narrow (zTy (ztg h r - 1) k) x = x) (hfit : fits (zTy (ztg h r - 1) k) x = true) (hw : zis (ztg h r) k = true → zR32 w)
    (kk : ∀ H1 locs1, zDyn D dA b0 s (zwr h r k w) H1 locs1 → W p l e R s m args below meth c H1 locs1 cells slots Q (F0 m (pc + 3) ls rest)) : W p l e R s m args below meth c H locs cells slots Q (F0 m pc ls (x :: zV (.inr (.inr r)) :: rest)) := by
  obtain ⟨ref, g1, g2, g3, g4, g5⟩ := zkf_of hk ht
  have hfi2 := List.all_eq_true.mp hfi _ (zgrp_of ht)
  obtain ⟨hx, hb, -, hnm, hown, hts, hK, -⟩ := X
  have Y0 := Y
  obtain ⟨⟨hP, -⟩, -, hi, -⟩ := Y
  obtain ⟨b1, b2⟩ := zin_ob hi g1 (by omega)
  rw [zV_ref (by omega)]
  have ha := zws_at (dA := dA) b1 b2
  rw [zcell_ob (by omega)] at ha
  have hc := z_cl (ztg h r - 1) (by omega)
  have hin := z_ws (ztg h r - 1) (by omega)
  have hty := z_ty (ztg h r - 1) (by omega)
  have hap := va_apart (own := (zY mm).cls) hts hin _ hty (z_nm _ (by omega)) hK hc
  obtain ⟨q, e1, cell, q1, q2, q3, q4⟩ := hP _ _ ha
  have hq : q = _ := Option.some.inj (e1.symm.trans hc)
  subst hq
  obtain ⟨hSl, hfc, kC, hkC, hkind⟩ := hK.1 _ _ hc
  obtain ⟨cf, kf, fi, f, hif, hsl⟩ := hSl k g3
  have hsame : s.fieldFound? ref (zFt (ztg h r - 1) k).2.1 (zFt (ztg h r - 1) k).2.2.1 = some (cf, kf, fi, f) := by
    rcases g5 with rfl | g5
    · exact hif
    · exact u_same (hts _ g5) _ hif
  have hlay := u_lays hts hin g3
  have hst := (u_facts hfc hkC hlay hif).1
  have key : ∀ H1 : Heap, H1[r - 1]? = some (cell.setSlot f.slot x) → H1.size = H.size → (∀ q, q ≠ r - 1 → H1[q]? = H[q]?) → W p l e R s m args below meth c H1 (locs ++ [⟨r - 1, f.slot⟩]) cells slots Q (F0 m (pc + 3) ls rest) := by
    intro H1 w1 w2 w3
    refine kk H1 _ (zDyn_wr Y0 g1 (by omega) hw w2 w3 ?_)
    rw [zcell_ob (by rw [ztg_wr]; omega)]
    refine ⟨_, hc, t_OB.to (V := updV (vp_V ((List.range (zNf (ztg h r - 1))).map fun k => zfv (zTy (ztg h r - 1) k) (zct h r k))) k x) ⟨_, w1, q2, q3, by rw [hsl]; exact t_set q4 hap g3 x⟩ (fun j hj => ?_)⟩
    rw [ztg_wr]
    unfold updV vp_V
    simp only [List.getD_eq_getElem?_getD, zfs_at hj, zct_wr, true_and, Option.getD_some]
    by_cases hjk : j = k
    · subst hjk
      rw [if_pos rfl, if_pos rfl, hxv]
    · rw [if_neg hjk, if_neg hjk]
  have hlt : f.slot < cell.slots.size := by rw [hsl]; exact k2_hasslot (q4 k g3)
  by_cases hfb : (zFt (ztg h r - 1) k).2.2.2 = false
  · have hl2 := hts _ (hin _ (u_in_lay g3))
    unfold u_lay at hl2
    rw [if_neg (by rw [hfb]; decide)] at hl2
    exact W.putK hx hb (f := f) ⟨hown, hts _ g4, ⟨_, _, _, hsame⟩, hst⟩ (by rw [q2]; exact u_store hfc hkC hkind hl2 hif (hty k g3) hn hfit) q1 q3 hlt rfl rfl hd key
  · have hft : (zFt (ztg h r - 1) k).2.2.2 = true := by simpa using hfb
    have hl2 := hts _ (hin _ (u_in_lay g3))
    unfold u_lay at hl2
    rw [if_pos hft] at hl2
    rw [hft] at hfi2
    simp only [Bool.or_eq_true, Bool.and_eq_true, beq_iff_eq, reduceCtorEq, false_or] at hfi2
    have hcf : m.cls = cf := by
      obtain ⟨_, _, c', _, _, _, -, -, hf', -, -, -, hown2, -⟩ := Cond.laysFinal_spec hl2
      have e1 : c' = cf := by have := hif.symm.trans hf'; simp at this; exact this.1.symm
      rw [hfi2.2] at hown2
      rw [← e1]; exact Option.some.inj (hown.symm.trans hown2)
    exact W.putFinK hx hb hown (hts _ g4) hsame hst hcf (by rw [hnm]; exact hfi2.1) (by rw [q2]; exact u_fits hfc hkC hkind (Or.inr hl2) hif (hty k g3) hn hfit) q1 q3 hlt rfl rfl hd key
end ZH
end
section
section ZR
variable {E : Nat → Nat} {D : va_G} {dA : Nat → ClassId} {b0 mm n : Nat} {p : Program} {l : Launch} {e : Env} {R : Room} {s : State} {m : MethodId} {args : Array Value} {below : List Frame} {meth : Method} {c : Code} {H : Heap} {locs : List Loc} {cells slots : Nat} {Q : State → Prop} {h : zHp} {pc : Nat} {ls : Array Slot} {rest : List Value}
theorem z_iald (X : zCtx E D dA b0 mm n p R s m args meth c) (Y : zDyn D dA b0 s h H locs) {r : Nat} {j : Int} (hd : decode (zC mm) pc = .ok (.iaload, 1)) (ht : ztg h r = 30 ∨ ztg h r = 40) (h0 : 0 ≤ j) (h1 : j < (zln h r : Int)) (hj : zR32 j)
    (kk : W p l e R s m args below meth c H locs cells slots Q (F0 m (pc + 1) ls (.int (Int32.ofInt (zct h r j.toNat)) :: rest))) : W p l e R s m args below meth c H locs cells slots Q (F0 m pc ls (.int (Int32.ofInt j) :: zV (.inr (.inr r)) :: rest)) := by
  obtain ⟨hx, hb, -, -, hown, hts, hK, -, hb0, -⟩ := X
  obtain ⟨⟨hP, -⟩, hC, hi, hS⟩ := Y
  rcases ht with ht | ht
  · obtain ⟨b1, b2⟩ := zin_ob (a := r) hi (by omega) (by omega)
    rw [zV_ref (by omega)]
    have ha := zws_at (dA := dA) b1 b2
    rw [zcell_ai (by omega) (by omega), ht] at ha
    refine va_iald hx hb hK hP _ 0 ha rfl (zi_in h0 h1 hj) hd ?_
    rw [zi_clamp h0 hj]
    exact kk
  · have h9 : 0 < r := by
      rcases hi.2.1 r with q | q | q
      · omega
      · omega
      · exact q.2.1
    rw [zV_ref h9]
    obtain ⟨cell, q1, q2, q3, q4, q5, q6, q7⟩ := (hC r).1 ht
    have hlt := (Array.getElem?_eq_some_iff.mp q1).1
    refine W.iald (v := .int (Int32.ofInt (zct h r j.toNat))) hx hb (by rw [hS.2.1 _ hlt q7]; exact q1) q2 q3 ?_ ?_ rfl rfl hd kk
    · exact zi_in h0 (by omega) hj
    · rw [zi_clamp h0 hj]
      exact q6 _ (by omega)
theorem z_ist (X : zCtx E D dA b0 mm n p R s m args meth c) (Y : zDyn D dA b0 s h H locs) {r : Nat} {j v : Int} (hd : decode (zC mm) pc = .ok (.iastore, 1)) (ht : ztg h r = 30) (h0 : 0 ≤ j) (h1 : j < (zln h r : Int)) (hj : zR32 j) (hv : zR32 v)
    (kk : ∀ H1 locs1, zDyn D dA b0 s (zwr h r j.toNat v) H1 locs1 → W p l e R s m args below meth c H1 locs1 cells slots Q (F0 m (pc + 1) ls rest)) : W p l e R s m args below meth c H locs cells slots Q (F0 m pc ls (.int (Int32.ofInt v) :: .int (Int32.ofInt j) :: zV (.inr (.inr r)) :: rest)) := by
  obtain ⟨hx, hb, -, -, hown, hts, hK, -, hb0, -⟩ := X
  have Y0 := Y
  obtain ⟨⟨hP, -⟩, hC, hi, hS⟩ := Y
  obtain ⟨b1, b2⟩ := zin_ob (a := r) hi (by omega) (by omega)
  rw [zV_ref (by omega)]
  have ha := zws_at (dA := dA) b1 b2
  rw [zcell_ai (by omega) (by omega), ht] at ha
  refine W.iast hx hb (hP _ _ ha) ((hK.2 0 _ rfl).1 _ (fun j => .int _)) (fun q => by cases q) (by show ¬ (_ ∨ (arrV _ _ _).slots.size ≤ _); rw [arrV_size]; exact zi_in h0 h1 hj) rfl rfl hd fun H1 e1 z oq => ?_
  refine kk H1 _ (zDyn_wr Y0 (by omega) (by omega) (fun _ => hv) z oq ?_)
  rw [zcell_ai (by rw [ztg_wr]; omega) (by rw [ztg_wr]; omega)]
  show H1[r - 1]? = some (vp_cell _ _)
  rw [e1, ztg_wr, ht, zln_wr, vp_cell_i, vp_cell_i, arrV_store, zi_clamp h0 hj]
  congr 2
  funext q
  simp only [zct_wr, true_and, updV]
  split <;> rfl
theorem z_bst (X : zCtx E D dA b0 mm n p R s m args meth c) (Y : zDyn D dA b0 s h H locs) {r : Nat} {j v : Int} (hd : decode (zC mm) pc = .ok (.bastore, 1)) (ht : ztg h r = 32) (h0 : 0 ≤ j) (h1 : j < (zln h r : Int)) (hj : zR32 j)
    (kk : ∀ H1 locs1, zDyn D dA b0 s (zwr h r j.toNat (zi2b v)) H1 locs1 → W p l e R s m args below meth c H1 locs1 cells slots Q (F0 m (pc + 1) ls rest)) : W p l e R s m args below meth c H locs cells slots Q (F0 m pc ls (.int (Int32.ofInt v) :: .int (Int32.ofInt j) :: zV (.inr (.inr r)) :: rest)) := by
  obtain ⟨hx, hb, -, -, hown, hts, hK, -, hb0, -⟩ := X
  have Y0 := Y
  obtain ⟨⟨hP, -⟩, hC, hi, hS⟩ := Y
  obtain ⟨b1, b2⟩ := zin_ob (a := r) hi (by omega) (by omega)
  rw [zV_ref (by omega)]
  have ha := zws_at (dA := dA) b1 b2
  rw [zcell_ai (by omega) (by omega), ht] at ha
  refine W.bast hx hb (hP _ _ ha) ((hK.2 2 _ rfl).1 _ (fun j => .int _)) (fun q => by cases q) (by show ¬ (_ ∨ (arrV _ _ _).slots.size ≤ _); rw [arrV_size]; exact zi_in h0 h1 hj) rfl rfl hd fun H1 e1 z oq => ?_
  refine kk H1 _ (zDyn_wr Y0 (by omega) (by omega) (fun _ => zr_i _) z oq ?_)
  rw [zcell_ai (by rw [ztg_wr]; omega) (by rw [ztg_wr]; omega)]
  show H1[r - 1]? = some (vp_cell _ _)
  rw [e1, ztg_wr, ht, zln_wr, vp_cell_i, vp_cell_i, arrV_store, zi_clamp h0 hj]
  congr 2
  funext q
  simp only [zct_wr, true_and, updV]
  split
  · unfold zi2b; rw [z32]; rfl
  · rfl
theorem z_zst (X : zCtx E D dA b0 mm n p R s m args meth c) (Y : zDyn D dA b0 s h H locs) {r : Nat} {j v : Int} (hd : decode (zC mm) pc = .ok (.bastore, 1)) (ht : ztg h r = 31) (hv : v = 0 ∨ v = 1) (h0 : 0 ≤ j) (h1 : j < (zln h r : Int)) (hj : zR32 j)
    (kk : ∀ H1 locs1, zDyn D dA b0 s (zwr h r j.toNat v) H1 locs1 → W p l e R s m args below meth c H1 locs1 cells slots Q (F0 m (pc + 1) ls rest)) : W p l e R s m args below meth c H locs cells slots Q (F0 m pc ls (.int (Int32.ofInt v) :: .int (Int32.ofInt j) :: zV (.inr (.inr r)) :: rest)) := by
  obtain ⟨hx, hb, -, -, hown, hts, hK, -, hb0, -⟩ := X
  have Y0 := Y
  obtain ⟨⟨hP, -⟩, hC, hi, hS⟩ := Y
  obtain ⟨b1, b2⟩ := zin_ob (a := r) hi (by omega) (by omega)
  rw [zV_ref (by omega)]
  have ha := zws_at (dA := dA) b1 b2
  rw [zcell_ai (by omega) (by omega), ht] at ha
  refine W.zast hx hb (hP _ _ ha) ((hK.2 1 _ rfl).1 _ (fun j => .int _)) (fun q => by cases q) (by show ¬ (_ ∨ (arrV _ _ _).slots.size ≤ _); rw [arrV_size]; exact zi_in h0 h1 hj) rfl rfl hd fun H1 e1 z oq => ?_
  refine kk H1 _ (zDyn_wr Y0 (by omega) (by omega) (fun _ => by rcases hv with rfl | rfl <;> exact ⟨by omega, by omega⟩) z oq ?_)
  rw [zcell_ai (by rw [ztg_wr]; omega) (by rw [ztg_wr]; omega)]
  show H1[r - 1]? = some (vp_cell _ _)
  rw [e1, ztg_wr, ht, zln_wr, vp_cell_i, vp_cell_i, arrV_store, zi_clamp h0 hj]
  congr 2
  funext q
  simp only [zct_wr, true_and, updV]
  split
  · rcases hv with rfl | rfl <;> rfl
  · rfl
theorem z_bald (X : zCtx E D dA b0 mm n p R s m args meth c) (Y : zDyn D dA b0 s h H locs) {r : Nat} {j : Int} (hd : decode (zC mm) pc = .ok (.baload, 1)) (ht : ztg h r = 31 ∨ ztg h r = 32 ∨ ztg h r = 41) (h0 : 0 ≤ j) (h1 : j < (zln h r : Int)) (hj : zR32 j)
    (kk : W p l e R s m args below meth c H locs cells slots Q (F0 m (pc + 1) ls (.int (Int32.ofInt (zct h r j.toNat)) :: rest))) : W p l e R s m args below meth c H locs cells slots Q (F0 m pc ls (.int (Int32.ofInt j) :: zV (.inr (.inr r)) :: rest)) := by
  obtain ⟨hx, hb, -, -, hown, hts, hK, -, hb0, -⟩ := X
  obtain ⟨⟨hP, -⟩, hC, hi, hS⟩ := Y
  rcases ht with ht | ht | ht
  · obtain ⟨b1, b2⟩ := zin_ob (a := r) hi (by omega) (by omega)
    rw [zV_ref (by omega)]
    have ha := zws_at (dA := dA) b1 b2
    rw [zcell_ai (by omega) (by omega), ht] at ha
    refine va_zald hx hb hK hP _ 1 ha rfl (zi_in h0 h1 hj) hd ?_
    rw [zi_clamp h0 hj]
    exact kk
  · obtain ⟨b1, b2⟩ := zin_ob (a := r) hi (by omega) (by omega)
    rw [zV_ref (by omega)]
    have ha := zws_at (dA := dA) b1 b2
    rw [zcell_ai (by omega) (by omega), ht] at ha
    refine va_bald hx hb hK hP _ 2 ha rfl (zi_in h0 h1 hj) hd ?_
    rw [zi_clamp h0 hj]
    exact kk
  · have h9 : 0 < r := by
      rcases hi.2.1 r with q | q | q
      · omega
      · omega
      · exact q.2.1
    rw [zV_ref h9]
    obtain ⟨cell, q1, q2, q3, q4, q5, q6, q7⟩ := (hC r).2.1 ht
    have hlt := (Array.getElem?_eq_some_iff.mp q1).1
    refine W.bald (v := .int (Int32.ofInt (zct h r j.toNat))) hx hb (by rw [hS.2.1 _ hlt q7]; exact q1) q2 q3 (zi_in h0 (by omega) hj) ?_ rfl rfl hd kk
    rw [zi_clamp h0 hj]
    exact q6 _ (by omega)
theorem zTA_at {dA : Nat → ClassId} {t : Nat} (h1 : 33 ≤ t) (h2 : t ≤ 37) : ∃ ty, (zTA dA)[t - 30]? = some (dA t, ty) ∧ ty.isReference = true := by
  have : t = 33 ∨ t = 34 ∨ t = 35 ∨ t = 36 ∨ t = 37 := by omega
  rcases this with rfl | rfl | rfl | rfl | rfl <;> exact ⟨_, rfl, rfl⟩
theorem z_aald (X : zCtx E D dA b0 mm n p R s m args meth c) (Y : zDyn D dA b0 s h H locs) {r : Nat} {j : Int} (hd : decode (zC mm) pc = .ok (.aaload, 1)) (ht : 33 ≤ ztg h r ∧ ztg h r ≤ 37) (h0 : 0 ≤ j) (h1 : j < (zln h r : Int)) (hj : zR32 j)
    (kk : W p l e R s m args below meth c H locs cells slots Q (F0 m (pc + 1) ls (zV (.inr (.inr (zct h r j.toNat).toNat)) :: rest))) : W p l e R s m args below meth c H locs cells slots Q (F0 m pc ls (.int (Int32.ofInt j) :: zV (.inr (.inr r)) :: rest)) := by
  obtain ⟨hx, hb, -, -, hown, hts, hK, -, hb0, -⟩ := X
  obtain ⟨⟨hP, -⟩, hC, hi, hS⟩ := Y
  obtain ⟨b1, b2⟩ := zin_ob (a := r) hi (by omega) (by omega)
  rw [zV_ref (by omega)]
  have ha := zws_at (dA := dA) b1 b2
  rw [zcell_ar ht.1] at ha
  obtain ⟨ty, t1, t2⟩ := zTA_at (dA := dA) ht.1 ht.2
  have hjn : j.toNat < zln h r := by omega
  exact W.aald (v := va_rf (zr2 (zct h r j.toNat).toNat)) (ty := ty) hx hb (hP _ _ ha) ((hK.2 _ _ t1).1 _ (fun j => va_rf _)) t2 (fun q => by cases q) (by show ¬ (_ ∨ (arrV _ _ _).slots.size ≤ _); rw [arrV_size]; exact zi_in h0 h1 hj) (by show (arrV _ _ _).slots[_]? = _; rw [zi_clamp h0 hj, arrV_read _ _ hjn]) rfl rfl hd kk
theorem z_alen (X : zCtx E D dA b0 mm n p R s m args meth c) (Y : zDyn D dA b0 s h H locs) {r : Nat} (hd : decode (zC mm) pc = .ok (.arraylength, 1)) (ht : 30 ≤ ztg h r ∧ ztg h r ≤ 41)
    (kk : W p l e R s m args below meth c H locs cells slots Q (F0 m (pc + 1) ls (.int (Int32.ofInt (zln h r)) :: rest))) : W p l e R s m args below meth c H locs cells slots Q (F0 m pc ls (zV (.inr (.inr r)) :: rest)) := by
  obtain ⟨hx, hb, -, -, hown, hts, hK, -, hb0, -⟩ := X
  obtain ⟨⟨hP, -⟩, hC, hi, hS⟩ := Y
  rcases hi.2.1 r with q | q | q
  · omega
  · rw [zV_ref (by omega)]
    have ha := zws_at (dA := dA) q.2.1 q.2.2
    have hT : ∃ ty, (zTA dA)[ztg h r - 30]? = some (dA (ztg h r), ty) := by
      have : ztg h r = 30 ∨ ztg h r = 31 ∨ ztg h r = 32 ∨ ztg h r = 33 ∨ ztg h r = 34 ∨ ztg h r = 35 ∨ ztg h r = 36 ∨ ztg h r = 37 := by omega
      rcases this with w | w | w | w | w | w | w | w <;> rw [w] <;> exact ⟨_, rfl⟩
    obtain ⟨ty, hty⟩ := hT
    by_cases h33 : ztg h r < 33
    · rw [zcell_ai (by omega) h33] at ha
      exact va_alen hx hb hK hP _ _ ha hty rfl hd kk
    · rw [zcell_ar (by omega)] at ha
      exact va_alen hx hb hK hP _ _ ha hty rfl hd kk
  · rw [zV_ref q.2.1]
    rcases q.1 with w | w | w
    · obtain ⟨cell, q1, q2, q3, q4, q5, q6, q7⟩ := (hC r).1 w
      have hlt := (Array.getElem?_eq_some_iff.mp q1).1
      exact W.alen hx hb (by rw [hS.2.1 _ hlt q7]; exact q1) q2 q5 rfl rfl hd kk
    · obtain ⟨cell, q1, q2, q3, q4, q5, q6, q7⟩ := (hC r).2.1 w
      have hlt := (Array.getElem?_eq_some_iff.mp q1).1
      exact W.alen hx hb (by rw [hS.2.1 _ hlt q7]; exact q1) q2 q5 rfl rfl hd kk
    · omega
/-- an object among the cells, for instanceof and the like -/
theorem z_recv (X : zCtx E D dA b0 mm n p R s m args meth c) (Y : zDyn D dA b0 s h H locs) {r : Nat} (h1 : 1 ≤ ztg h r) (h2 : ztg h r ≤ 12) : ∃ cell : Cell, H[r - 1]? = some cell ∧ cell.vm.isStatics = false ∧ s.vm.findClass (zRx (ztg h r - 1)) = some cell.cls := by
  obtain ⟨hx, hb, -, -, hown, hts, hK, -, hb0, -⟩ := X
  obtain ⟨⟨hP, -⟩, hC, hi, hS⟩ := Y
  obtain ⟨b1, b2⟩ := zin_ob (a := r) hi (by omega) (by omega)
  have ha := zws_at (dA := dA) b1 b2
  rw [zcell_ob (by omega)] at ha
  exact va_recv hK hP (z_cl _ (by omega)) ha
theorem zth {t : Nat} (h : zisA 20 t = true) : t = 3 ∨ t = 4 ∨ t = 6 ∨ t = 7 ∨ t = 9 := by
  have := zgrp_of h
  simpa [zgrp] using this
set_option maxRecDepth 100000 in
theorem z_cas : ∀ c ∈ [2, 3, 5, 6, 8], (zRx c, RX9) ∈ zXC := by decide +kernel
theorem z_ast (X : zCtx E D dA b0 mm n p R s m args meth c) (Y : zDyn D dA b0 s h H locs) {r v : Nat} {j : Int} (hd : decode (zC mm) pc = .ok (.aastore, 1)) (ht : zmay (ztg h r) (ztg h v) = true) (h0 : 0 ≤ j) (h1 : j < (zln h r : Int)) (hj : zR32 j)
    (kk : ∀ H1 locs1, zDyn D dA b0 s (zwr h r j.toNat (v : Int)) H1 locs1 → W p l e R s m args below meth c H1 locs1 cells slots Q (F0 m (pc + 1) ls rest)) : W p l e R s m args below meth c H locs cells slots Q (F0 m pc ls (zV (.inr (.inr v)) :: .int (Int32.ofInt j) :: zV (.inr (.inr r)) :: rest)) := by
  have X0 := X
  obtain ⟨hx, hb, -, -, hown, hts, hK, hSt, hb0, -⟩ := X
  have Y0 := Y
  obtain ⟨⟨hP, -⟩, hC, hi, hS⟩ := Y
  obtain ⟨t1, t2⟩ := zmay_of ht
  obtain ⟨b1, b2⟩ := zin_ob (a := r) hi (by omega) (by omega)
  have hv : 1 ≤ ztg h v ∧ ztg h v ≤ 12 := by
    unfold zmay at ht
    simp only [Bool.or_eq_true, Bool.and_eq_true, beq_iff_eq] at ht
    rcases ht with ((ht | ht) | ht) | ht
    · have := zth ht.2
      omega
    · omega
    · omega
    · omega
  obtain ⟨v1, v2⟩ := zin_ob (a := v) hi (by omega) (by omega)
  rw [zV_ref (by omega), zV_ref (by omega)]
  have ha := zws_at (dA := dA) b1 b2
  rw [zcell_ar t1] at ha
  have hav := zws_at (dA := dA) v1 v2
  rw [zcell_ob (by omega)] at hav
  have hcv := z_cl (ztg h v - 1) (by omega)
  obtain ⟨r', hr', cellV, g1, g2, g3, -⟩ := hP _ _ hav
  have hcls := (hK.1 _ _ hcv).2
  obtain ⟨kC, hkC, -⟩ := hcls.2
  -- the row's class, its component, and that the cell may stand there
  have key : ∃ C, (zTA dA)[ztg h r - 30]? = some (dA (ztg h r), .object C) ∧ ∀ comp, s.vm.findClass C = some comp → s.vm.assignable (D.1 (ztg h v - 1)) comp = true := by
    unfold zmay at ht
    simp only [Bool.or_eq_true, Bool.and_eq_true, beq_iff_eq] at ht
    have same : ∀ C, C = zRx (ztg h v - 1) → ∀ comp, s.vm.findClass C = some comp → s.vm.assignable (D.1 (ztg h v - 1)) comp = true := by
      intro C hC comp hcomp
      subst hC
      have : comp = D.1 (ztg h v - 1) := Option.some.inj (hcomp.symm.trans hcls.1)
      subst this
      exact va_assign hcls
    rcases ht with ((ht | ht) | ht) | ht
    · refine ⟨RX9, by rw [ht.1]; rfl, fun comp hcomp => ?_⟩
      have hmem : (zRx (ztg h v - 1), RX9) ∈ zXC := z_cas _ (by have := zth ht.2; rcases this with w | w | w | w | w <;> rw [w] <;> decide)
      exact vb_asgC (hSt.2.2.2.2.2.2.2.1 _ hmem) comp _ hcomp hcls.1
    · exact ⟨RX6, by rw [ht.1]; rfl, same _ (by rw [ht.2]; rfl)⟩
    · exact ⟨RX1, by rw [ht.1]; rfl, same _ (by rw [ht.2]; rfl)⟩
    · exact ⟨RX0, by rw [ht.1]; rfl, same _ (by rw [ht.2]; rfl)⟩
  obtain ⟨C, hT, hasg⟩ := key
  obtain ⟨kA, comp, k1, k2, k3, -⟩ := (hK.2 _ _ hT).2
  obtain ⟨kc, hkc, -⟩ := Vm.findClass_spec k3
  have hjn : j.toNat < zln h r := by omega
  refine W.aast hx hb (hP _ _ ha) (fun q h => by cases h) (fun h => by cases h) k1 k2 rfl hkc ⟨fun q => (zi_in h0 h1 hj) (Or.inl q), by show _ < (arrV _ _ _).slots.size; rw [arrV_size, zi_clamp h0 hj]; exact hjn⟩ g1 (fun q h => by rw [g3] at h; cases h) (by rw [g2]; exact hkC) (by rw [g2]; exact hasg comp k3) rfl rfl hd fun H1 e1 z oq => ?_
  refine kk H1 _ (zDyn_wr Y0 (by omega) (by omega) (fun q => by rw [zis_ref (by omega) (by omega)] at q; cases q) z oq ?_)
  rw [zcell_ar (by rw [ztg_wr]; omega)]
  show H1[r - 1]? = some (vp_cell _ _)
  rw [e1, ztg_wr, zln_wr, vp_cell_q, vp_cell_q, arrV_store, zi_clamp h0 hj]
  congr 2
  funext q
  simp only [zct_wr, true_and, updV]
  split
  · rw [Int.toNat_natCast, ← zV_ref (show 0 < v by omega)]; rfl
  · rfl
end ZR
end
section
section ZN
variable {E : Nat → Nat} {D : va_G} {dA : Nat → ClassId} {b0 mm n : Nat} {p : Program} {l : Launch} {e : Env} {R : Room} {s : State} {m : MethodId} {args : Array Value} {below : List Frame} {meth : Method} {c : Code} {H : Heap} {locs : List Loc} {cells slots : Nat} {Q : State → Prop} {h : zHp} {pc : Nat} {ls : Array Slot} {rest : List Value}
/-- a class all of whose fields are whole numbers or cells, made by 'new' -/
def zkn (mm c0 n : Nat) (v : Int) : Bool := decide (c0 < 12) && (n == zNf c0) && zAt (zpo v) (.classLink (zY mm).cls (zix v) (zRx c0)) && zAt (zPn.getD c0 0) (.instantiable (zRx c0) n) && zAt (zPni.getD c0 0) (.initialized (zRx c0)) && (List.range n).all (fun k => zint (zTy c0 k) || zrf (zTy c0 k)) && (List.range n).all (fun k => decide (zfv (zTy c0 k) 0 = defaultValue (zTy c0 k)))
theorem z_new (X : zCtx E D dA b0 mm n p R s m args meth c) (Y : zDyn D dA b0 s h H locs) {c0 nf : Nat} {v : Int} (hk : zkn mm c0 nf v = true) (hd : decode (zC mm) pc = .ok (.new (zix v), 3)) (hcl : cells + 1 ≤ R.cells) (hsl : slots + nf ≤ R.slots)
    (kk : ∀ H1, zDyn D dA b0 s (zal h (c0 + 1) nf (fun _ => 0)) H1 locs → W p l e R s m args below meth c H1 locs (cells + 1) (slots + nf) Q (F0 m (pc + 3) ls (zV (.inr (.inr (znx h + 1))) :: rest))) : W p l e R s m args below meth c H locs cells slots Q (F0 m pc ls rest) := by
  simp only [zkn, Bool.and_eq_true, decide_eq_true_eq, beq_iff_eq, List.all_eq_true, List.mem_range] at hk
  obtain ⟨⟨⟨⟨⟨⟨k1, k2⟩, k3⟩, k4⟩, k5⟩, -⟩, k7⟩ := hk
  subst k2
  obtain ⟨hx, hb, -, -, hown, hts, hK, hSt, hb0, -⟩ := X
  have Y0 := Y
  obtain ⟨⟨hP, hsz⟩, hC, hi, hS⟩ := Y
  have hc := z_cl c0 k1
  have hKn := hK.1 c0 _ hc
  have hnf : zNf c0 ≤ 100000 := by
    have : c0 = 0 ∨ c0 = 1 ∨ c0 = 2 ∨ c0 = 3 ∨ c0 = 4 ∨ c0 = 5 ∨ c0 = 6 ∨ c0 = 7 ∨ c0 = 8 ∨ c0 = 9 ∨ c0 = 10 ∨ c0 = 11 := by omega
    rcases this with rfl | rfl | rfl | rfl | rfl | rfl | rfl | rfl | rfl | rfl | rfl | rfl <;> decide
  refine W.newcK hx hb hown (hts _ (zAt_in k3)) (hts _ (zAt_in k4)) (hts _ (zAt_in k5)) rfl hd hcl hsl hKn.2.1 hsz fun H1 kC hkC e1 z1 o1 => ?_
  have h2 := kk H1 (zDyn_al Y0 (Or.inl ⟨by omega, by omega⟩) hnf (fun _ _ => ⟨by omega, by omega⟩) (by rw [z1, hsz]) (fun q hq => o1 q (by rw [← hsz]; exact hq)) ?_)
  · rw [zV_ref (by omega)] at h2
    exact h2
  · have hce : zcell dA (zal h (c0 + 1) (zNf c0) (fun _ => 0)) (znx h + 1) = .inr (c0, (List.range (zNf c0)).map fun k => zfv (zTy c0 k) 0) := by
      rw [zcell_ob (by rw [ztg_al, if_pos rfl]; omega)]
      simp only [ztg_al, zct_al, if_true, Nat.add_sub_cancel]
    rw [hce]
    refine ⟨_, hc, (u_born (zTy c0) hts (z_ws c0 k1) hKn hkC e1 (z_ty c0 k1)).to fun j hj => ?_⟩
    unfold vp_V
    rw [List.getD_eq_getElem?_getD, zfs_at hj, Option.getD_some]
    exact (k7 j hj).symm
theorem z_arc {A B : ClassId} {ty : FieldType} (hA : va_RA s A ty) (hn : ∀ C, ty ≠ .object C) (hB : s.vm.findClass ("[" ++ ty.toString) = some B) : B = A := by
  cases ty <;> first | exact Option.some.inj (hB.symm.trans hA) | exact absurd rfl (hn _)
set_option maxRecDepth 100000 in
theorem z_acl : ∀ t ∈ [FieldType.int, .boolean, .byte], Cond.arrayClass t ∈ lw_tbl := by decide +kernel
theorem z_newa (X : zCtx E D dA b0 mm n p R s m args meth c) (Y : zDyn D dA b0 s h H locs) {t : Nat} {at0 : ArrayType} {v : Int} (ht : t = 30 ∨ t = 31 ∨ t = 32) (hta : (zTA dA)[t - 30]? = some (dA t, newarray.typeOf at0)) (hd : decode (zC mm) pc = .ok (.newarray at0, 2)) (h0 : 0 ≤ v) (h1 : v ≤ 100000) (hcl : cells + 1 ≤ R.cells) (hsl : slots + v.toNat ≤ R.slots)
    (kk : ∀ H1, zDyn D dA b0 s (zal h t v.toNat (fun _ => 0)) H1 locs → W p l e R s m args below meth c H1 locs (cells + 1) (slots + v.toNat) Q (F0 m (pc + 2) ls (zV (.inr (.inr (znx h + 1))) :: rest))) : W p l e R s m args below meth c H locs cells slots Q (F0 m pc ls (.int (Int32.ofInt v) :: rest)) := by
  obtain ⟨hx, hb, -, -, hown, hts, hK, hSt, hb0, -⟩ := X
  have Y0 := Y
  obtain ⟨⟨hP, hsz⟩, hC, hi, hS⟩ := Y
  have hvr : zR32 v := ⟨by omega, by omega⟩
  have hty : newarray.typeOf at0 = .int ∨ newarray.typeOf at0 = .boolean ∨ newarray.typeOf at0 = .byte := by
    rcases ht with rfl | rfl | rfl
    · exact Or.inl (congrArg Prod.snd (Option.some.inj hta)).symm
    · exact Or.inr (Or.inl (congrArg Prod.snd (Option.some.inj hta)).symm)
    · exact Or.inr (Or.inr (congrArg Prod.snd (Option.some.inj hta)).symm)
  have hcb : componentBytes (newarray.typeOf at0) ≤ 4 := by rcases hty with e | e | e <;> rw [e] <;> decide
  refine va_newaK hx hb (hts _ (z_jw (z_acl _ (by rcases hty with e | e | e <;> rw [e] <;> simp)) rfl)) rfl hd rfl (fun q => ?_) (zi_clamp h0 hvr) ?_ hcl hsl hsz fun H1 cA e1 z1 o1 hAr hNm => ?_
  · have := (zi_lt hvr (⟨by omega, by omega⟩ : zR32 0)).mp q
    omega
  · have h9 : v.toNat ≤ 100000 := by omega
    exact Nat.le_trans (Nat.mul_le_mul h9 hcb) (by decide)
  · have h2 := kk H1 (zDyn_al Y0 (Or.inr ⟨by omega, by omega⟩) (by omega) (fun _ _ => ⟨by omega, by omega⟩) (by rw [z1, hsz]) (fun q hq => o1 q (by rw [← hsz]; exact hq)) ?_)
    · rw [zV_ref (by omega)] at h2
      exact h2
    · rw [zcell_ai (by rw [ztg_al, if_pos rfl]; omega) (by rw [ztg_al, if_pos rfl]; omega)]
      show H1[znx h]? = some (vp_cell _ _)
      have hcA : cA = dA t := z_arc (hK.2 _ _ hta).2 (fun C q => by have q : newarray.typeOf at0 = .object C := q; rw [q] at hty; rcases hty with w | w | w <;> cases w) hNm
      rw [e1, vp_cell_i, hcA]
      simp only [ztg_al, zln_al, zct_al, if_true]
      congr 2
      funext q
      rcases hty with w | w | w <;> rw [w] <;> rfl
theorem z_newq (X : zCtx E D dA b0 mm n p R s m args meth c) (Y : zDyn D dA b0 s h H locs) {t ix : Nat} {C : String} {v : Int} (ht : t = 33 ∨ t = 34 ∨ t = 35 ∨ t = 36) (hta : (zTA dA)[t - 30]? = some (dA t, .object C)) (hCO : C ∈ zXO) (hd : decode (zC mm) pc = .ok (.anewarray ix, 3)) (hl : Cond.classLink (zY mm).cls ix C ∈ zW) (h0 : 0 ≤ v) (h1 : v ≤ 100000) (hcl : cells + 1 ≤ R.cells) (hsl : slots + v.toNat ≤ R.slots)
    (kk : ∀ H1, zDyn D dA b0 s (zal h t v.toNat (fun _ => 0)) H1 locs → W p l e R s m args below meth c H1 locs (cells + 1) (slots + v.toNat) Q (F0 m (pc + 3) ls (zV (.inr (.inr (znx h + 1))) :: rest))) : W p l e R s m args below meth c H locs cells slots Q (F0 m pc ls (.int (Int32.ofInt v) :: rest)) := by
  obtain ⟨hx, hb, -, -, hown, hts, hK, hSt, hb0, -⟩ := X
  have Y0 := Y
  obtain ⟨⟨hP, hsz⟩, hC, hi, hS⟩ := Y
  have hvr : zR32 v := ⟨by omega, by omega⟩
  have hcm := zi_clamp h0 hvr
  refine W.anew hx hb hown (hts _ hl) (va_AO.use (hSt.2.2.2.2.2.2.2.2.1.1 C hCO)) rfl hd rfl (fun q => ?_) (by rw [hcm]; omega) hcl (by rw [hcm]; exact hsl) fun cA kA comp f1 f2 f3 f4 => ?_
  · have := (zi_lt hvr (⟨by omega, by omega⟩ : zR32 0)).mp q
    omega
  rw [hcm]
  generalize hH1 : H.push ({ cls := cA, slots := Array.replicate v.toNat .null, vm := .none } : Cell) = H1
  have z1 : H1.size = H.size + 1 := by rw [← hH1, Array.size_push]
  have e1 : H1[H.size]? = some (arrV cA v.toNat (fun _ => .null)) := by rw [← hH1, Array.getElem?_push_size, ← arrV_new]
  have o1 : ∀ q : Nat, q < H.size → H1[q]? = H[q]? := fun q hq => by rw [← hH1, Array.getElem?_push, if_neg (Nat.ne_of_lt hq)]
  obtain ⟨-, -, -, -, -, g4⟩ := (hK.2 _ _ hta).2
  have hcA : cA = dA t := Option.some.inj (f1.symm.trans g4)
  have h2 := kk H1 (zDyn_al Y0 (Or.inr ⟨by omega, by omega⟩) (by omega) (fun _ q => by rw [zis_ref (by omega) (by omega)] at q; cases q) z1 o1 ?_)
  · rw [zV_ref (by omega)] at h2
    rw [hsz]
    exact h2
  · rw [zcell_ar (by rw [ztg_al, if_pos rfl]; omega)]
    show H1[znx h]? = some (vp_cell _ _)
    rw [← hsz, e1, vp_cell_q, hcA]
    simp only [ztg_al, zln_al, zct_al, hsz, if_true]
    rfl
theorem z_inst (X : zCtx E D dA b0 mm n p R s m args meth c) (Y : zDyn D dA b0 s h H locs) {c0 ix r : Nat} (hc0 : c0 ∈ [2, 3, 5, 6, 8]) (hd : decode (zC mm) pc = .ok (.instanceof ix, 3)) (hl : Cond.classLink (zY mm).cls ix (zRx c0) ∈ zW) (hr : r = 0 ∨ zisA 20 (ztg h r) = true)
    (kk : W p l e R s m args below meth c H locs cells slots Q (F0 m (pc + 3) ls (.int (Int32.ofInt (if zisA c0 (ztg h r) = true then 1 else 0)) :: rest))) : W p l e R s m args below meth c H locs cells slots Q (F0 m pc ls (zV (.inr (.inr r)) :: rest)) := by
  have X0 := X
  obtain ⟨hx, hb, -, -, hown, hts, hK, hSt, hb0, -⟩ := X
  have Y0 := Y
  obtain ⟨⟨hP, hsz⟩, hC, hi, hS⟩ := Y
  have hc20 : c0 ≠ 20 := by rintro rfl; simp at hc0
  have hc12 : c0 < 12 := by simp only [List.mem_cons, List.not_mem_nil, or_false] at hc0; omega
  by_cases hr0 : r = 0
  · subst hr0
    have h0 : ztg h 0 = 0 := by
      rcases hi.2.1 0 with q | q | q
      · exact q
      · omega
      · omega
    rw [h0, if_neg (by unfold zisA; rw [if_neg hc20]; simp)] at kk
    exact lv_instN hx hb hd kk
  · have hr1 : zisA 20 (ztg h r) = true := by
      rcases hr with q | q
      · exact absurd q hr0
      · exact q
    have h5 := zth hr1
    rw [zV_ref (by omega)]
    have hrc := z_recv X0 Y0 (r := r) (by omega) (by omega)
    have hiff : zisA c0 (ztg h r) = true ↔ ztg h r - 1 = c0 := by
      unfold zisA
      rw [if_neg hc20]
      simp only [beq_iff_eq]
      omega
    by_cases hq : ztg h r - 1 = c0
    · rw [if_pos (hiff.mpr hq)] at kk
      rw [hq] at hrc
      exact va_instS hx hb hown (hts _ hl) (hK.1 c0 _ (z_cl c0 hc12)).2 hrc hd kk
    · rw [if_neg (fun y => hq (hiff.mp y))] at kk
      exact va_instNo hx hb hown (hts _ hl) (hSt.2.2.2.2.2.1 _ (by rcases h5 with w | w | w | w | w <;> rw [w] <;> decide) _ hc0 hq) hrc hd kk
theorem z_cast (X : zCtx E D dA b0 mm n p R s m args meth c) (Y : zDyn D dA b0 s h H locs) {c0 ix r : Nat} (hc0 : c0 < 12) (hd : decode (zC mm) pc = .ok (.checkcast ix, 3)) (hl : Cond.classLink (zY mm).cls ix (zRx c0) ∈ zW) (hr : zisA c0 (ztg h r) = true)
    (kk : W p l e R s m args below meth c H locs cells slots Q (F0 m (pc + 3) ls (zV (.inr (.inr r)) :: rest))) : W p l e R s m args below meth c H locs cells slots Q (F0 m pc ls (zV (.inr (.inr r)) :: rest)) := by
  have X0 := X
  obtain ⟨hx, hb, -, -, hown, hts, hK, hSt, hb0, -⟩ := X
  have hq : ztg h r = c0 + 1 := by
    unfold zisA at hr
    rw [if_neg (by omega)] at hr
    simpa using hr
  have hin := zin_ob (a := r) Y.2.2.1 (by omega) (by omega)
  have hrc := z_recv X0 Y (r := r) (by omega) (by omega)
  rw [hq, Nat.add_sub_cancel] at hrc
  rw [zV_ref (by omega)] at kk ⊢
  exact va_castS hx hb hown (hts _ hl) (hK.1 c0 _ (z_cl c0 hc0)).2 hrc hd kk
set_option maxRecDepth 100000 in
theorem z_oi : ∀ w ∈ [Cond.instanceMethod objectInit, .code objectInit ⟨#[0xb1]⟩ 1 none], w ∈ lw_tbl := by decide +kernel
theorem z_init (X : zCtx E D dA b0 mm n p R s m args meth c) {r ix : Nat} {st : List zAV} (hr : ¬ (r = 0 ∨ 8 < st.length)) (hls : ls.size = n) (hd : decode (zC mm) pc = .ok (.invokespecial ix, 3)) (hl : Cond.methodLink (zY mm).cls ix objectInit ∈ zW)
    (kk : W p l e R s m args below meth c H locs cells slots Q (F0 m (pc + 3) ls (st.map zV))) : W p l e R s m args below meth c H locs cells slots Q (F0 m pc ls (zV (.inr (.inr r)) :: st.map zV)) := by
  obtain ⟨hx, hb, hml, -, hown, hts, hK, hSt, hb0, hR1, hR2⟩ := X
  rw [zV_ref (by omega)]
  have := z_stcat (st := st) (k := 8) (by omega)
  exact W.objInit hx hb hown (hts _ hl) (hts _ (z_jw (z_oi _ (by simp)) rfl)) (hts _ (z_jw (z_oi _ (by simp)) rfl)) rfl (by rw [hml]; exact hls) rfl hd hR1 (by show 2 * 0 + _ + 12 ≤ _; omega) kk
end ZN
end
section
section ZM
variable {E : Nat → Nat} {D : va_G} {dA : Nat → ClassId} {b0 mm n : Nat} {p : Program} {l : Launch} {e : Env} {R : Room} {s : State} {m : MethodId} {args : Array Value} {below : List Frame} {meth : Method} {c : Code} {H : Heap} {locs : List Loc} {cells slots : Nat} {Q : State → Prop} {h : zHp} {pc : Nat} {ls : Array Slot} {rest : List Value}
/-- a static field, named as its own kind spells it -/
def zks (mm : Nat) (pos ix : Nat) (C nm d : String) : Bool := zAt pos (.fieldLink (zY mm).cls ix C nm d)
theorem z_gets (X : zCtx E D dA b0 mm n p R s m args meth c) (Y : zDyn D dA b0 s h H locs) {pos ix : Nat} {C nm d : String} {v : Value} (hZ : va_Z C nm d v (zA b0) s s.heap) (hk : zks mm pos ix C nm d = true) (hd : decode (zC mm) pc = .ok (.getstatic ix, 3))
    (kk : W p l e R s m args below meth c H locs cells slots Q (F0 m (pc + 3) ls (v :: rest))) : W p l e R s m args below meth c H locs cells slots Q (F0 m pc ls rest) := by
  obtain ⟨hx, hb, -, -, hown, hts, -⟩ := X
  exact va_gets hx hb hZ Y.2.2.2 hown (hts _ (zAt_in hk)) (fun _ q => q) hd kk
theorem z_ldcs (X : zCtx E D dA b0 mm n p R s m args meth c) {a ix : Nat} (ha : a < 12) (hix : (zSi.getD a (0, "")).1 = ix) (hcl : (zY mm).cls = RX1) (hd : decode (zC mm) pc = .ok (.ldc ix, 2))
    (kk : W p l e R s m args below meth c H locs cells slots Q (F0 m (pc + 2) ls (zV (.inr (.inr (E a))) :: rest))) : W p l e R s m args below meth c H locs cells slots Q (F0 m pc ls rest) := by
  obtain ⟨hx, hb, -, -, hown, hts, hK, hSt, -⟩ := X
  obtain ⟨q, e1, hr⟩ := hSt.1 a ha
  rw [e1, zV_ref (by omega)] at kk
  subst hix
  rw [hcl] at hown
  exact va_ldcS hx hb hown hr hd kk
set_option maxRecDepth 100000 in
theorem z_cpw : ∀ w ∈ [Cond.native arraycopyName, .static arraycopyName, .initialized "java/lang/System"], w ∈ lw_tbl := by decide +kernel
theorem zcell_cp {dA : Nat → ClassId} {h : zHp} {a sp b dp k q : Nat} (hq : q ≠ b) : zcell dA (zcp h a sp b dp k) q = zcell dA h q := by
  unfold zcell
  simp only [ztg_cp, zln_cp, zct_cp, hq, false_and, if_false]
theorem z_nnI {z : Int} (h0 : 0 ≤ z) (h : zR32 z) : (Int32.ofInt z).toInt = ((z.toNat : Nat) : Int) := by
  rw [Int32.toInt_ofInt_of_le (by have := h.1; omega) (by have := h.2; omega)]
  omega
theorem z_copy (X : zCtx E D dA b0 mm n p R s m args meth c) (Y : zDyn D dA b0 s h H locs) {a b ix : Nat} {sp dp k : Int} {st : List zAV} (hls : ls.size = n) (hst : st.length ≤ 4) (hd : decode (zC mm) pc = .ok (.invokestatic ix, 3)) (hl : Cond.methodLink (zY mm).cls ix arraycopyName ∈ zW) (ha : ztg h a = 30) (hb1 : ztg h b = 30) (h1 : 0 ≤ sp) (h2 : 0 ≤ dp) (h3 : 0 ≤ k) (h4 : sp + k ≤ (zln h a : Int)) (h5 : dp + k ≤ (zln h b : Int)) (r1 : zR32 sp) (r2 : zR32 dp) (r3 : zR32 k)
    (kk : ∀ H1 locs1, zDyn D dA b0 s (zcp h a sp.toNat b dp.toNat k.toNat) H1 locs1 → W p l e R s m args below meth c H1 locs1 cells slots Q (F0 m (pc + 3) ls (st.map zV))) : W p l e R s m args below meth c H locs cells slots Q (F0 m pc ls (.int (Int32.ofInt k) :: .int (Int32.ofInt dp) :: zV (.inr (.inr b)) :: .int (Int32.ofInt sp) :: zV (.inr (.inr a)) :: st.map zV)) := by
  obtain ⟨hx, hb, hml, -, hown, hts, hK, hSt, hb0, hR1, hR2⟩ := X
  obtain ⟨⟨hP, hsz⟩, hC, hi, hS⟩ := Y
  obtain ⟨a1, a2⟩ := zin_ob (a := a) hi (by omega) (by omega)
  obtain ⟨b1, b2⟩ := zin_ob (a := b) hi (by omega) (by omega)
  rw [zV_ref (show 0 < a by omega), zV_ref (show 0 < b by omega)]
  have ha0 := zws_at (dA := dA) a1 a2
  rw [zcell_ai (by omega) (by omega), ha] at ha0
  have ha1 := zws_at (dA := dA) b1 b2
  rw [zcell_ai (by omega) (by omega), hb1] at ha1
  have hcat := z_stcat hst
  have hnw : nativeFrameWords "java/lang/System" "arraycopy" 5 ≤ 30 := by decide +kernel
  have hzero : (⟨by omega, by omega⟩ : zR32 0) = ⟨by omega, by omega⟩ := rfl
  have n1 : ¬ Int32.ofInt sp < 0 := fun q => by have := (zi_lt r1 (⟨by omega, by omega⟩ : zR32 0)).mp q; omega
  have n2 : ¬ Int32.ofInt dp < 0 := fun q => by have := (zi_lt r2 (⟨by omega, by omega⟩ : zR32 0)).mp q; omega
  have n3 : ¬ Int32.ofInt k < 0 := fun q => by have := (zi_lt r3 (⟨by omega, by omega⟩ : zR32 0)).mp q; omega
  have c1 := zi_clamp h1 r1
  have c2 := zi_clamp h2 r2
  have c3 := zi_clamp h3 r3
  intro T hT XT
  have hc0 : H[a - 1]? = some (vp_cell (dA 30) (zln h a, .inl (fun i => Int32.ofInt (zct h a i)))) := hP _ _ ha0
  have hc1 : H[b - 1]? = some (vp_cell (dA 30) (zln h b, .inl (fun i => Int32.ofInt (zct h b i)))) := hP _ _ ha1
  obtain ⟨-, k0, hk0, cm0, hkk0⟩ := (hK.2 0 _ rfl).1 0 (fun _ => .null)
  obtain ⟨vm', X', step⟩ := XT.arraycopy hx hown (hts _ hl) (hts _ (z_jw (z_cpw _ (by simp)) rfl)) (hts _ (z_jw (z_cpw _ (by simp)) rfl)) (hts _ (z_jw (z_cpw _ (by simp)) rfl)) (src := a - 1) (dst := b - 1) (cs := vp_cell (dA 30) (zln h a, .inl (fun i => Int32.ofInt (zct h a i)))) (cd := vp_cell (dA 30) (zln h b, .inl (fun i => Int32.ofInt (zct h b i)))) (srcPos := Int32.ofInt sp) (destPos := Int32.ofInt dp) (n := Int32.ofInt k) (by rw [hT]; exact hc0) (by rw [hT]; exact hc1)
    (fun _ q => by cases q) (fun _ q => by cases q) (fun q => by cases q) (fun q => by cases q) hk0 hk0 hkk0 hkk0 (by simp [refKind]) n1 n2 n3
    (by rw [z_nnI h1 r1, z_nnI h3 r3]; show ¬ _ > ((arrV _ _ _).slots.size : Int); rw [arrV_size]; omega)
    (by rw [z_nnI h2 r2, z_nnI h3 r3]; show ¬ _ > ((arrV _ _ _).slots.size : Int); rw [arrV_size]; omega)
    (fun vm₁ _ i hii => by
      have e9 : (vp_cell (dA 30) (zln h a, .inl (fun i => Int32.ofInt (zct h a i)))).slots.getD ((Int32.ofInt sp).toNatClampNeg + i) .null = .int (Int32.ofInt (zct h a ((Int32.ofInt sp).toNatClampNeg + i))) := by
        show (arrV _ _ _).slots.getD _ _ = _
        rw [Array.getD_eq_getD_getElem?, arrV_read _ _ (by rw [c1]; rw [c3] at hii; omega)]
        rfl
      exact ⟨by rw [e9]; rfl, by rw [e9]; exact trivial⟩)
    (g := F0 m pc ls (.int (Int32.ofInt k) :: .int (Int32.ofInt dp) :: .ref (b - 1) :: .int (Int32.ofInt sp) :: .ref (a - 1) :: st.map zV)) rfl (by rw [hml]; exact hls) (rest := st.map zV) rfl (by rw [hb]; exact hd) hR1 (by show 2 * 0 + _ + _ ≤ _; omega)
  have e1 := va_copied (fun z => Value.int z) (dA 30) (dA 30) (n0 := zln h a) (n1 := zln h b) (sp := (Int32.ofInt sp).toNatClampNeg) (dp := (Int32.ofInt dp).toNatClampNeg) (n := (Int32.ofInt k).toNatClampNeg) (fun i => Int32.ofInt (zct h a i)) (fun i => Int32.ofInt (zct h b i)) (by rw [c1, c3]; omega)
  have e2 : copied (vp_cell (dA 30) (zln h a, .inl (fun i => Int32.ofInt (zct h a i)))) (vp_cell (dA 30) (zln h b, .inl (fun i => Int32.ofInt (zct h b i)))) (Int32.ofInt sp) (Int32.ofInt dp) (Int32.ofInt k) = vp_cell (dA 30) (zln h b, .inl (va_cpy (fun i => Int32.ofInt (zct h a i)) (fun i => Int32.ofInt (zct h b i)) (Int32.ofInt sp).toNatClampNeg (Int32.ofInt dp).toNatClampNeg (Int32.ofInt k).toNatClampNeg)) := e1
  rw [e2] at X' step
  rw [c1, c2, c3] at X' step
  have hlb : b - 1 < H.size := (Array.getElem?_eq_some_iff.mp hc1).1
  have hcellE : zcell dA (zcp h a sp.toNat b dp.toNat k.toNat) b = .inl (dA 30, zln h b, .inl (va_cpy (fun i => Int32.ofInt (zct h a i)) (fun i => Int32.ofInt (zct h b i)) sp.toNat dp.toNat k.toNat)) := by
    rw [zcell_ai (by rw [ztg_cp]; omega) (by rw [ztg_cp]; omega), ztg_cp, hb1, zln_cp]
    congr 3
    congr 1
    funext i
    simp only [zct_cp, true_and, va_cpy]
    split <;> rfl
  obtain ⟨w1, w2⟩ := zcp_ok (sp := sp.toNat) (dp := dp.toNat) (n := k.toNat) hi ha hb1
  have oq : ∀ q : Nat, q ≠ b - 1 → (H.setIfInBounds (b - 1) (vp_cell (dA 30) (zln h b, .inl (va_cpy (fun i => Int32.ofInt (zct h a i)) (fun i => Int32.ofInt (zct h b i)) sp.toNat dp.toNat k.toNat))))[q]? = H[q]? := fun q hq => by simp [Array.getElem?_setIfInBounds, Ne.symm hq]
  have hP' := hP.set (zws_D dA b0 h) (zws_at (dA := dA) b1 b2) (e := zcell dA (zcp h a sp.toNat b dp.toNat k.toNat) b) (H1 := H.setIfInBounds (b - 1) (vp_cell (dA 30) (zln h b, .inl (va_cpy (fun i => Int32.ofInt (zct h a i)) (fun i => Int32.ofInt (zct h b i)) sp.toNat dp.toNat k.toNat)))) (by
    rw [hcellE]
    show (H.setIfInBounds (b - 1) _)[b - 1]? = some _
    simp [Array.getElem?_setIfInBounds, hlb]) oq
  rw [zws_upd (dA := dA) (h := h) (h' := zcp h a sp.toNat b dp.toNat k.toNat) (a := b) rfl b1 b2 (fun q hq => zcell_cp hq)] at hP'
  obtain ⟨t, q1, q2⟩ := kk _ _ ⟨⟨hP', by rw [Array.size_setIfInBounds, hsz]; rfl⟩, hC.good w2, w1, ⟨by simp; exact hS.1, fun q g1 g2 => by
      rw [oq q (fun e => g2 (by rw [e]; unfold zA; omega))]
      exact hS.2.1 q g1 g2, fun q hq => by
      rcases List.mem_append.mp hq with z | z
      · exact hS.2.2 q z
      · obtain ⟨y, -, hy⟩ := List.mem_map.mp z
        rw [← hy]
        show b0 ≤ b - 1
        omega⟩⟩ _ (by rw [← hT]; rfl) X'
  exact ⟨t, step t q1, q2⟩
theorem z_casA (X : zCtx E D dA b0 mm n p R s m args meth c) (Y : zDyn D dA b0 s h H locs) {r ix : Nat} (hd : decode (zC mm) pc = .ok (.checkcast ix, 3)) (hl : Cond.classLink (zY mm).cls ix "[I" ∈ zW) (ht : ztg h r = 30)
    (kk : W p l e R s m args below meth c H locs cells slots Q (F0 m (pc + 3) ls (zV (.inr (.inr r)) :: rest))) : W p l e R s m args below meth c H locs cells slots Q (F0 m pc ls (zV (.inr (.inr r)) :: rest)) := by
  obtain ⟨hx, hb, hml, -, hown, hts, hK, hSt, hb0, hR1, hR2⟩ := X
  obtain ⟨⟨hP, hsz⟩, hC, hi, hS⟩ := Y
  obtain ⟨a1, a2⟩ := zin_ob (a := r) hi (by omega) (by omega)
  rw [zV_ref (by omega)] at kk ⊢
  have ha := zws_at (dA := dA) a1 a2
  rw [zcell_ai (by omega) (by omega), ht] at ha
  exact va_castA hx hb hown (hts _ hl) hP _ ha (va_nm_int (hK.2 0 _ rfl).2) hd kk
theorem z_sval (X : zCtx E D dA b0 mm n p R s m args meth c) (Y : zDyn D dA b0 s h H locs) {r : Nat} {v : Int} (hk : zAt (zpo v) (.fieldLink (zY mm).cls (zix v) "java/lang/String" "value" "[B") = true) (hd : decode (zC mm) pc = .ok (.getfield (zix v), 3)) (ht : ztg h r = 50)
    (kk : W p l e R s m args below meth c H locs cells slots Q (F0 m (pc + 3) ls (zV (.inr (.inr (zct h r 0).toNat)) :: rest))) : W p l e R s m args below meth c H locs cells slots Q (F0 m pc ls (zV (.inr (.inr r)) :: rest)) := by
  obtain ⟨hx, hb, hml, -, hown, hts, hK, hSt, hb0, hR1, hR2⟩ := X
  have h9 : 0 < r := by
    rcases Y.2.2.1.2.1 r with q | q | q
    · omega
    · omega
    · exact q.2.1
  rw [zV_ref h9]
  exact vk_getf hx hb ((Y.2.1 r).2.2 ht).2.2 Y.2.2.2 hown (hts _ (zAt_in hk)) (fun _ q => q) hd kk
theorem z_scod (X : zCtx E D dA b0 mm n p R s m args meth c) (Y : zDyn D dA b0 s h H locs) {r : Nat} {v : Int} (hk : zAt (zpo v) (.fieldLink (zY mm).cls (zix v) "java/lang/String" "coder" "B") = true) (hd : decode (zC mm) pc = .ok (.getfield (zix v), 3)) (ht : ztg h r = 50)
    (kk : W p l e R s m args below meth c H locs cells slots Q (F0 m (pc + 3) ls (.int (Int32.ofInt 0) :: rest))) : W p l e R s m args below meth c H locs cells slots Q (F0 m pc ls (zV (.inr (.inr r)) :: rest)) := by
  obtain ⟨hx, hb, hml, -, hown, hts, hK, hSt, hb0, hR1, hR2⟩ := X
  have h9 : 0 < r := by
    rcases Y.2.2.1.2.1 r with q | q | q
    · omega
    · omega
    · exact q.2.1
  rw [zV_ref h9]
  exact vk_getf hx hb ((Y.2.1 r).2.2 ht).2.1 Y.2.2.2 hown (hts _ (zAt_in hk)) (fun _ q => q) hd kk
set_option maxRecDepth 100000 in
theorem z_clw : ∀ w ∈ [Cond.sameMethod "[I" "java/lang/Object" "clone" "()Ljava/lang/Object;", .native ⟨"java/lang/Object", "clone", "()Ljava/lang/Object;"⟩, .instanceMethod ⟨"java/lang/Object", "clone", "()Ljava/lang/Object;"⟩, .selects "[I" ⟨"[I", "clone", "()Ljava/lang/Object;"⟩ ⟨"java/lang/Object", "clone", "()Ljava/lang/Object;"⟩], w ∈ lw_tbl := by decide +kernel
theorem z_clone (X : zCtx E D dA b0 mm n p R s m args meth c) (Y : zDyn D dA b0 s h H locs) {r ix : Nat} {st : List zAV} (hls : ls.size = n) (hst : st.length ≤ 4) (hd : decode (zC mm) pc = .ok (.invokevirtual ix, 3)) (hl : Cond.methodLink (zY mm).cls ix ⟨"[I", "clone", "()Ljava/lang/Object;"⟩ ∈ zW) (ht : ztg h r = 30) (hcl : cells + 1 ≤ R.cells) (hsl : slots + zln h r ≤ R.slots)
    (kk : ∀ H1, zDyn D dA b0 s (zal h 30 (zln h r) (fun k => zct h r k)) H1 locs → W p l e R s m args below meth c H1 locs (cells + 1) (slots + zln h r) Q (F0 m (pc + 3) ls (zV (.inr (.inr (znx h + 1))) :: st.map zV))) : W p l e R s m args below meth c H locs cells slots Q (F0 m pc ls (zV (.inr (.inr r)) :: st.map zV)) := by
  obtain ⟨hx, hb, hml, -, hown, hts, hK, hSt, hb0, hR1, hR2⟩ := X
  have Y0 := Y
  obtain ⟨⟨hP, hsz⟩, hC, hi, hS⟩ := Y
  obtain ⟨a1, a2⟩ := zin_ob (a := r) hi (by omega) (by omega)
  rw [zV_ref (show 0 < r by omega)]
  have ha := zws_at (dA := dA) a1 a2
  rw [zcell_ai (by omega) (by omega), ht] at ha
  have hcat := z_stcat hst
  have hnm : s.vm.findClass "[I" = some (dA 30) := va_nm_int (hK.2 0 _ rfl).2
  have hcs : (("[I", "java/lang/Cloneable") : String × String) ∈ zXC := by decide +kernel
  obtain ⟨c0, t0', f1, f2, f3⟩ := Cond.castable_spec (va_Nw.use (A := args) rfl (hSt.2.2.2.2.2.2.2.1 _ hcs))
  cases hnm.symm.trans f1
  intro T hT XT
  have hcellT : T.heap[r - 1]? = some (vp_cell (dA 30) (zln h r, .inl (fun i => Int32.ofInt (zct h r i)))) := by rw [hT]; exact hP _ _ ha
  obtain ⟨-, kA, hkA, comp, hkind⟩ := State.isArrayOf_alike XT.warmed.alike ((hK.2 0 _ rfl).1 0 (fun _ => .null))
  obtain ⟨-, kS, hkS, compS, hkindS⟩ := (hK.2 0 _ rfl).1 0 (fun _ => .null)
  obtain ⟨vm', X', st'⟩ := XT.cloneArray hx hown (hts _ hl) (hts _ (z_jw (z_clw _ (by simp)) rfl)) (hts _ (z_jw (z_clw _ (by simp)) rfl)) (hts _ (z_jw (z_clw _ (by simp)) rfl)) (hts _ (z_jw (z_clw _ (by simp)) rfl)) (a := r - 1) (cell := vp_cell (dA 30) (zln h r, .inl (fun i => Int32.ofInt (zct h r i)))) hcellT (fun k q => by cases q) (fun q => by cases q) hnm f2 f3
    (fun i v hv => by
      have hk' : T.vm.classes[dA 30]? = some kA := hkA
      have hv2 : (arrV (dA 30) (zln h r) (fun j => Value.int (Int32.ofInt (zct h r j)))).slots[i]? = some v := hv
      have hi2 : i < zln h r := by
        have := (Array.getElem?_eq_some_iff.mp hv2).1
        rw [arrV_size] at this
        exact this
      rw [arrV_read _ _ hi2] at hv2
      cases hv2
      show State.fitsSlot _ (dA 30) _ _ _ = true
      simp [State.fitsSlot, State.slotType?, hk', hkind, fits, vp_cell, arrV])
    (g := F0 m pc ls (.ref (r - 1) :: st.map zV)) rfl (by rw [hml]; exact hls) rfl (by rw [hb]; exact hd) hR1 (by show 2 * 0 + _ + 14 ≤ _; omega) hcl (by show slots + (arrV _ _ _).slots.size ≤ _; rw [arrV_size]; exact hsl) (hloader := Vm.clonesLoader_of_array hkS hkindS)
  have hcellE : ({ cls := (vp_cell (dA 30) (zln h r, .inl (fun i => Int32.ofInt (zct h r i)))).cls, slots := (vp_cell (dA 30) (zln h r, .inl (fun i => Int32.ofInt (zct h r i)))).slots } : Cell) = vp_cell (dA 30) (zln h r, .inl (fun i => Int32.ofInt (zct h r i))) := rfl
  have hsz2 : (vp_cell (dA 30) (zln h r, .inl (fun i => Int32.ofInt (zct h r i)))).slots.size = zln h r := arrV_size _ _ _
  rw [hcellE, hsz2] at X'
  generalize hH1 : H.push (vp_cell (dA 30) (zln h r, .inl (fun i => Int32.ofInt (zct h r i)))) = H1
  have z1 : H1.size = H.size + 1 := by rw [← hH1, Array.size_push]
  have e1 : H1[H.size]? = some (vp_cell (dA 30) (zln h r, .inl (fun i => Int32.ofInt (zct h r i)))) := by rw [← hH1, Array.getElem?_push_size]
  have o1 : ∀ q : Nat, q < H.size → H1[q]? = H[q]? := fun q hq => by rw [← hH1, Array.getElem?_push, if_neg (Nat.ne_of_lt hq)]
  have h2 := kk H1 (zDyn_al Y0 (Or.inr ⟨by omega, by omega⟩) (hi.2.2.2 r) (fun k _ => hi.2.2.1 r k (by rw [ht]; rfl)) z1 o1 ?_)
  · obtain ⟨t, q1, q2⟩ := h2 ((T.setVm vm').pushCell (vp_cell (dA 30) (zln h r, .inl (fun i => Int32.ofInt (zct h r i))))) (by rw [← hH1, ← hT]; rfl) X'
    refine ⟨t, st' t ?_, q2⟩
    rw [zV_ref (by omega), ← hsz] at q1
    rw [hcellE, hT]
    exact q1
  · rw [zcell_ai (by rw [ztg_al, if_pos rfl]; omega) (by rw [ztg_al, if_pos rfl]; omega)]
    show H1[znx h]? = some (vp_cell _ _)
    rw [← hsz, e1]
    simp only [ztg_al, zln_al, zct_al, hsz, if_true]
end ZM
end
section
def zgt (c0 : Nat) (f : Nat → Bool) : Bool := (zgrp c0).all f
/-- the heap's instructions, by the tables -/
def zk3 (mm : Nat) (i : zMI) (nx : Nat) : Bool := match i with
  | (60, pc, c0, k, v, _) => zD mm pc nx (.getfield (zix v)) 3 && zkf mm c0 k v && zgt c0 (fun t => zint (zTy (t - 1) k))
  | (61, pc, c0, k, v, _) => zD mm pc nx (.getfield (zix v)) 3 && zkf mm c0 k v && zgt c0 (fun t => zrf (zTy (t - 1) k))
  | (62, pc, c0, k, v, _) => zD mm pc nx (.putfield (zix v)) 3 && zkf mm c0 k v && zfi mm c0 k && zgt c0 (fun t => decide (zTy (t - 1) k = .int))
  | (63, pc, c0, k, v, _) => zD mm pc nx (.putfield (zix v)) 3 && zkf mm c0 k v && zfi mm c0 k && zgt c0 (fun t => decide (zTy (t - 1) k = .boolean))
  | (64, pc, c0, k, v, _) => zD mm pc nx (.putfield (zix v)) 3 && zkf mm c0 k v && zfi mm c0 k && zgt c0 (fun t => zrf (zTy (t - 1) k))
  | (65, pc, _, _, _, _) => zD mm pc nx .iaload 1
  | (66, pc, _, _, _, _) => zD mm pc nx .baload 1
  | (67, pc, _, _, _, _) => zD mm pc nx .aaload 1
  | (68, pc, _, _, _, _) => zD mm pc nx .iastore 1
  | (69, pc, _, _, _, _) => zD mm pc nx .bastore 1
  | (70, pc, _, _, _, _) => zD mm pc nx .bastore 1
  | (71, pc, _, _, _, _) => zD mm pc nx .aastore 1
  | (72, pc, _, _, _, _) => zD mm pc nx .arraylength 1
  | (73, pc, c0, k, v, _) => zD mm pc nx (.new (zix v)) 3 && zkn mm c0 k v
  | (74, pc, t, _, _, _) => (t == 30 && zD mm pc nx (.newarray .int) 2) || (t == 31 && zD mm pc nx (.newarray .boolean) 2) || (t == 32 && zD mm pc nx (.newarray .byte) 2)
  | (75, pc, t, _, v, _) => zD mm pc nx (.anewarray (zix v)) 3 && ((t == 33 && zAt (zpo v) (.classLink (zY mm).cls (zix v) RX9)) || (t == 34 && zAt (zpo v) (.classLink (zY mm).cls (zix v) RX6)) || (t == 35 && zAt (zpo v) (.classLink (zY mm).cls (zix v) RX1)) || (t == 36 && zAt (zpo v) (.classLink (zY mm).cls (zix v) RX0)))
  | (76, pc, _, _, v, _) => zD mm pc nx (.multianewarray (zix v) 2) 4 && zAt (zpo v) (.classLink (zY mm).cls (zix v) "[[I")
  | (77, pc, c0, _, v, _) => zD mm pc nx (.instanceof (zix v)) 3 && [2, 3, 5, 6, 8].contains c0 && zAt (zpo v) (.classLink (zY mm).cls (zix v) (zRx c0))
  | (78, pc, c0, _, v, _) => zD mm pc nx (.checkcast (zix v)) 3 && decide (c0 < 12) && zAt (zpo v) (.classLink (zY mm).cls (zix v) (zRx c0))
  | (79, pc, _, b, v, _) => zD mm pc nx (.getstatic (b % 65536)) 3 && v == 1 && zks mm (b / 65536) (b % 65536) "java/lang/String" "COMPACT_STRINGS" "Z"
  | (80, pc, a, _, v, _) => zD mm pc nx (.getstatic (zix v)) 3 && ((a == 12 && zks mm (zpo v) (zix v) "jdk/internal/util/Preconditions" "SIOOBE_FORMATTER" "Ljava/util/function/BiFunction;") || (a == 13 && zks mm (zpo v) (zix v) RX11 "KIND_ABOVE" "[I") || (a == 14 && zks mm (zpo v) (zix v) RX11 "BODIES" "[I"))
  | (81, pc, a, _, v, _) => zD mm pc nx (.ldc (zix v)) 2 && decide (a < 12) && (zSi.getD a (0, "")).1 == zix v && (zY mm).cls == RX1
  | (82, pc, _, _, v, _) => zD mm pc nx (.invokespecial (zix v)) 3 && zAt (zpo v) (.methodLink (zY mm).cls (zix v) objectInit)
  | (83, pc, _, _, v, _) => zD mm pc nx (.invokestatic (zix v)) 3 && zAt (zpo v) (.methodLink (zY mm).cls (zix v) arraycopyName)
  | (84, pc, _, _, v, _) => zD mm pc nx (.invokevirtual (zix v)) 3 && zAt (zpo v) (.methodLink (zY mm).cls (zix v) ⟨"[I", "clone", "()Ljava/lang/Object;"⟩)
  | (85, pc, _, _, v, _) => zD mm pc nx (.checkcast (zix v)) 3 && zAt (zpo v) (.classLink (zY mm).cls (zix v) "[I")
  | (86, pc, _, _, v, _) => zD mm pc nx (.getfield (zix v)) 3 && zAt (zpo v) (.fieldLink (zY mm).cls (zix v) "java/lang/String" "value" "[B")
  | (87, pc, _, _, v, _) => zD mm pc nx (.getfield (zix v)) 3 && zAt (zpo v) (.fieldLink (zY mm).cls (zix v) "java/lang/String" "coder" "B")
  | _ => false
section ZHH
variable {E : Nat → Nat} {D : va_G} {dA : Nat → ClassId} {b0 mm n : Nat} {p : Program} {l : Launch} {e : Env} {R : Room} {s : State} {m : MethodId} {args : Array Value} {below : List Frame} {meth : Method} {c : Code} {H : Heap} {locs : List Loc} {cells slots : Nat} {Q : State → Prop} {h h' : zHp} {ls : Array Slot}
theorem z_take {F : Heap} {n a : Nat} (h : a < n) (h2 : n ≤ F.size) : (F.extract 0 n)[a]? = F[a]? := by
  rw [Array.getElem?_extract]
  simp only [Nat.zero_add, Nat.sub_zero]
  rw [if_pos (by omega)]
theorem z_takesz {F : Heap} {n : Nat} (h2 : n ≤ F.size) : (F.extract 0 n).size = n := by
  rw [Array.size_extract]
  omega
set_option maxHeartbeats 4000000 in
theorem z_multiS {h : zHp} {k v : Int} {H : Heap} {F : Heap} (X : va_K D vwCl (zTA dA) s) (Y : zDyn D dA b0 s h H locs) (h2 : 0 ≤ k) (h3 : k ≤ 100000) (h0 : 0 ≤ v) (h1 : v ≤ 10)
    (hs : F.size = H.size + 1 + v.toNat) (hold : ∀ x, x < H.size → F[x]? = H[x]?) (hout : F[H.size]? = some (arrV (dA 37) v.toNat (fun j => va_rf (if j < v.toNat then some (H.size + 1 + j) else none)))) (hrow : ∀ j, j < v.toNat → F[H.size + 1 + j]? = some (arrV (dA 30) k.toNat (fun _ => .int 0))) :
    ∀ i, i ≤ v.toNat → zDyn D dA b0 s ((List.range i).foldl (fun g _ => zal g 30 k.toNat (fun _ => 0)) (zal h 37 v.toNat (fun j => if j < v.toNat then ((znx h + 2 + j : Nat) : Int) else 0))) (F.extract 0 (H.size + 1 + i)) locs ∧ znx ((List.range i).foldl (fun g _ => zal g 30 k.toNat (fun _ => 0)) (zal h 37 v.toNat (fun j => if j < v.toNat then ((znx h + 2 + j : Nat) : Int) else 0))) = H.size + 1 + i := by
  have hsz : H.size = znx h := Y.1.2
  intro i
  induction i with
  | zero =>
    intro hi
    refine ⟨?_, by show znx (zal h 37 _ _) = _; rw [znx_al, hsz]⟩
    show zDyn D dA b0 s (zal h 37 v.toNat (fun j => if j < v.toNat then ((znx h + 2 + j : Nat) : Int) else 0)) (F.extract 0 (H.size + 1 + 0)) locs
    refine zDyn_al Y (Or.inr ⟨by omega, by omega⟩) (by omega) (fun _ q => by rw [zis_ref (by omega) (by omega)] at q; cases q) (z_takesz (by omega)) (fun q hq => by rw [z_take (by omega) (by omega)]; exact hold q hq) ?_
    rw [zcell_ar (by rw [ztg_al, if_pos rfl]; omega)]
    show (F.extract 0 (H.size + 1 + 0))[znx h]? = some (vp_cell _ _)
    rw [← hsz, z_take (by omega) (by omega), hout, vp_cell_q]
    simp only [ztg_al, zln_al, zct_al, hsz, if_true]
    congr 2
    funext j
    by_cases hj : j < v.toNat
    · rw [if_pos hj, if_pos hj]
      rw [Int.toNat_natCast]
      show _ = va_rf (zr2 (znx h + 1 + j + 1))
      rw [show znx h + 2 + j = (znx h + 1 + j) + 1 by omega]
      rfl
    · rw [if_neg hj, if_neg hj]
      rfl
  | succ i ih =>
    intro hi
    obtain ⟨Y1, e1⟩ := ih (by omega)
    rw [List.range_succ, List.foldl_append]
    show zDyn D dA b0 s (zal _ 30 k.toNat (fun _ => 0)) _ locs ∧ znx (zal _ 30 k.toNat (fun _ => 0)) = _
    refine ⟨?_, by rw [znx_al, e1]; omega⟩
    refine zDyn_al Y1 (Or.inr ⟨by omega, by omega⟩) (by omega) (fun _ _ => ⟨by omega, by omega⟩) (by rw [z_takesz (by omega), z_takesz (by omega)]; omega) (fun q hq => by rw [z_takesz (by omega)] at hq; rw [z_take (by omega) (by omega), z_take (by omega) (by omega)]) ?_
    rw [zcell_ai (by rw [ztg_al, if_pos rfl]; omega) (by rw [ztg_al, if_pos rfl]; omega)]
    show (F.extract 0 (H.size + 1 + (i + 1)))[znx _]? = some (vp_cell _ _)
    rw [e1, z_take (by omega) (by omega), hrow i (by omega), vp_cell_i]
    simp only [ztg_al, zln_al, zct_al, e1, if_true]
    rfl
set_option maxRecDepth 100000 in
theorem z_acl1 : Cond.arrayClass .int ∈ lw_tbl := by decide +kernel
set_option maxHeartbeats 4000000 in
theorem z_multi (X : zCtx E D dA b0 mm n p R s m args meth c) (Y : zDyn D dA b0 s h H locs) {pc ix : Nat} {k v : Int} {rest : List Value} (hd : decode (zC mm) pc = .ok (.multianewarray ix 2, 4)) (hl : Cond.classLink (zY mm).cls ix "[[I" ∈ zW) (h0 : 0 ≤ v) (h1 : v ≤ 10) (h2 : 0 ≤ k) (h3 : k ≤ 100000)
    (hcl : cells + (1 + v.toNat) ≤ R.cells) (hsl : slots + (v.toNat + v.toNat * k.toNat) ≤ R.slots)
    (kk : ∀ H1 locs1, zDyn D dA b0 s ((List.range v.toNat).foldl (fun g _ => zal g 30 k.toNat (fun _ => 0)) (zal h 37 v.toNat (fun j => if j < v.toNat then ((znx h + 2 + j : Nat) : Int) else 0))) H1 locs1 → W p l e R s m args below meth c H1 locs1 (cells + (1 + v.toNat)) (slots + (v.toNat + v.toNat * k.toNat)) Q (F0 m (pc + 4) ls (zV (.inr (.inr (znx h + 1))) :: rest))) : W p l e R s m args below meth c H locs cells slots Q (F0 m pc ls (.int (Int32.ofInt k) :: .int (Int32.ofInt v) :: rest)) := by
  obtain ⟨hx, hb, -, -, hown, hts, hK, hSt, hb0, -⟩ := X
  have hvr : zR32 v := ⟨by omega, by omega⟩
  have hkr : zR32 k := ⟨by omega, by omega⟩
  have hcv := zi_clamp h0 hvr
  have hck := zi_clamp h2 hkr
  intro T hT Xs
  have hTs : T.heap = H := hT
  have hA37 := hK.2 7 (dA 37, .array .int) rfl
  have hA30 := hK.2 0 (dA 30, .int) rfl
  have n1 : ¬ Int32.ofInt v < 0 := fun q => by
    have := (zi_lt hvr (⟨by omega, by omega⟩ : zR32 0)).mp q
    omega
  have n2 : ¬ Int32.ofInt k < 0 := fun q => by
    have := (zi_lt hkr (⟨by omega, by omega⟩ : zR32 0)).mp q
    omega
  obtain ⟨vm₁, cA, comp, -, fA, fC, -, -, X', step⟩ := Xs.multianewarray2F (ty := .int) hx hown (hts _ hl) (zAOA.use hSt.2.2.2.2.2.2.2.2.1.2) (hts _ (z_jw z_acl1 rfl)) (g := F0 m pc ls (.int (Int32.ofInt k) :: .int (Int32.ofInt v) :: rest)) rfl (by rw [hb]; exact hd) rfl n1 n2 (by rw [hcv]; omega) (by rw [hck]; show k.toNat * 4 ≤ _; omega) (by rw [hck]; omega) rfl rfl (by rw [hcv]; exact hcl) (by rw [hcv, hck]; exact hsl)
  have hcA : cA = dA 37 := Option.some.inj (fA.symm.trans hA37.2)
  have hcI : comp = dA 30 := Option.some.inj (fC.symm.trans hA30.2)
  subst hcA
  subst hcI
  rw [hcv, hck] at X' step
  generalize hF : Jvm.Free.Multi.fill (T.setVm vm₁) (dA 37) (dA 30) v.toNat k.toNat (defaultValue .int) v.toNat = F at X' step
  have hTh : (T.setVm vm₁).heap = H := hTs
  obtain ⟨f1, f2, -, -⟩ := Jvm.Free.Multi.fill_facts (T.setVm vm₁) (dA 37) (dA 30) v.toNat k.toNat (defaultValue .int) v.toNat
  rw [hF, hTh] at f1 f2
  have hold : ∀ x : Nat, x < H.size → F.heap[x]? = H[x]? := fun x hx => by
    have := Jvm.Free.Multi.fill_old (T.setVm vm₁) (dA 37) (dA 30) v.toNat k.toNat (defaultValue .int) (a := x) (by rw [hTh]; exact hx) v.toNat
    rw [hF, hTh] at this
    exact this
  have hrow : ∀ j : Nat, j < v.toNat → F.heap[H.size + 1 + j]? = some (arrV (dA 30) k.toNat (fun _ => .int 0)) := fun j hj => by
    have := Jvm.Free.Multi.fill_inner (T.setVm vm₁) (dA 37) (dA 30) v.toNat k.toNat (defaultValue .int) v.toNat j hj
    rw [hF, hTh] at this
    rw [this]
    exact congrArg some (arrV_new _ _ _)
  rw [vr_outer] at f2
  obtain ⟨Y1, e1⟩ := z_multiS hK Y h2 h3 h0 h1 f1 hold f2 hrow v.toNat (Nat.le_refl _)
  have hall : F.heap.extract 0 (H.size + 1 + v.toNat) = F.heap := by
    rw [← f1]
    exact Array.extract_size
  rw [hall] at Y1
  have hk := kk F.heap locs Y1
  rw [zV_ref (by omega), show znx h + 1 - 1 = H.size by have := Y.1.2; omega] at hk
  obtain ⟨t, a1, b1⟩ := hk F rfl (by rw [Nat.add_assoc cells, Nat.add_assoc slots] at X'; exact X')
  exact ⟨t, step t (by rw [hTs]; exact a1), b1⟩
theorem zfold_nx (k : Nat) : ∀ (l : List Nat) (h : zHp), znx (l.foldl (fun g _ => zal g 30 k (fun _ => 0)) h) = znx h + l.length ∧ zus (l.foldl (fun g _ => zal g 30 k (fun _ => 0)) h) = zus h + l.length * k
  | [], h => ⟨rfl, by simp⟩
  | _ :: l, h => by
    obtain ⟨a, b⟩ := zfold_nx k l (zal h 30 k (fun _ => 0))
    rw [List.foldl_cons, a, b, znx_al, zus_al, List.length_cons, Nat.succ_mul]
    exact ⟨by omega, by omega⟩
set_option maxHeartbeats 16000000 in
theorem zhp_W (X : zCtx E D dA b0 mm n p R s m args meth c) (Y : zDyn D dA b0 s h H locs) {nx : Nat} {i : zMI} {st st' : List zAV} (hls : ls.size = n) (hok : zk3 mm i nx = true) (hsc : zsc i = true) (he : zhp E i st h = some (st', h')) (hs : zokS st)
    (hcl : cells + (znx h' - znx h) ≤ R.cells) (hsl : slots + (zus h' - zus h) ≤ R.slots)
    (kk : ∀ H1 locs1, zDyn D dA b0 s h' H1 locs1 → W p l e R s m args below meth c H1 locs1 (cells + (znx h' - znx h)) (slots + (zus h' - zus h)) Q (F0 m nx ls (st'.map zV))) : W p l e R s m args below meth c H locs cells slots Q (F0 m i.2.1 ls (st.map zV)) := by
  unfold zhp at he
  split at he <;> (try (split at he)) <;> simp only [Option.some.injEq, Prod.mk.injEq, reduceCtorEq] at he <;> obtain ⟨rfl, rfl⟩ := he
  all_goals simp only [zk3, Bool.and_eq_true, Bool.or_eq_true, decide_eq_true_eq, beq_iff_eq] at hok
  all_goals simp only [znx_wr, zus_wr, znx_al, zus_al, znx_cp, zus_cp, Nat.sub_self, Nat.add_zero, Nat.add_sub_cancel_left, List.map_cons] at kk hcl hsl ⊢
  · rename_i g
    obtain ⟨⟨k1, k2⟩, k3⟩ := hok
    obtain ⟨d1, rfl⟩ := zD_of k1
    have := kk H locs Y
    refine z_get X Y k2 d1 g ?_
    rw [zfv_in (List.all_eq_true.mp k3 _ (zgrp_of g))]
    exact this
  · rename_i g
    obtain ⟨⟨k1, k2⟩, k3⟩ := hok
    obtain ⟨d1, rfl⟩ := zD_of k1
    have := kk H locs Y
    refine z_get X Y k2 d1 g ?_
    rw [zfv_rf (List.all_eq_true.mp k3 _ (zgrp_of g))]
    exact this
  · rename_i g
    obtain ⟨⟨⟨k1, k2⟩, k3⟩, k4⟩ := hok
    obtain ⟨d1, rfl⟩ := zD_of k1
    have k5 := of_decide_eq_true (List.all_eq_true.mp k4 _ (zgrp_of g))
    exact z_put X Y k2 k3 d1 g (by rw [k5]; rfl) (by rw [k5]; rfl) (by rw [k5]; rfl) (fun _ => zokS_head hs) kk
  · rename_i g
    obtain ⟨⟨⟨k1, k2⟩, k3⟩, k4⟩ := hok
    obtain ⟨d1, rfl⟩ := zD_of k1
    have k5 := of_decide_eq_true (List.all_eq_true.mp k4 _ (zgrp_of g.1))
    exact z_put X Y k2 k3 d1 g.1 (by rw [k5]; rfl) (by rw [k5]; rcases g.2 with w | w <;> rw [w] <;> rfl) (by rw [k5]; rcases g.2 with w | w <;> rw [w] <;> rfl) (fun _ => zokS_head hs) kk
  · rename_i g
    obtain ⟨⟨⟨k1, k2⟩, k3⟩, k4⟩ := hok
    obtain ⟨d1, rfl⟩ := zD_of k1
    have k5 := List.all_eq_true.mp k4 _ (zgrp_of g)
    have k6 := List.all_eq_true.mp hsc _ (zgrp_of g)
    exact z_put X Y k2 k3 d1 g (by rw [zfv_rf k5, Int.toNat_natCast]; rfl) (znar_rf k5 _).1 (znar_rf k5 _).2 (fun q => by rw [q] at k6; cases k6) kk
  · rename_i g
    obtain ⟨d1, rfl⟩ := zD_of hok
    exact z_iald X Y d1 g.1 g.2.1 g.2.2 (zokS_head hs) (kk H locs Y)
  · rename_i g
    obtain ⟨d1, rfl⟩ := zD_of hok
    exact z_bald X Y d1 g.1 g.2.1 g.2.2 (zokS_head hs) (kk H locs Y)
  · rename_i g
    obtain ⟨d1, rfl⟩ := zD_of hok
    exact z_aald X Y d1 g.1 g.2.1 g.2.2 (zokS_head hs) (kk H locs Y)
  · rename_i g
    obtain ⟨d1, rfl⟩ := zD_of hok
    exact z_ist X Y d1 g.1 g.2.1 g.2.2 (zokS_head (zokS_tail hs)) (zokS_head hs) kk
  · rename_i g
    obtain ⟨d1, rfl⟩ := zD_of hok
    exact z_zst X Y d1 g.1 g.2.1 g.2.2.1 g.2.2.2 (zokS_head (zokS_tail hs)) kk
  · rename_i g
    obtain ⟨d1, rfl⟩ := zD_of hok
    exact z_bst X Y d1 g.1 g.2.1 g.2.2 (zokS_head (zokS_tail hs)) kk
  · rename_i g
    obtain ⟨d1, rfl⟩ := zD_of hok
    exact z_ast X Y d1 g.1 g.2.1 g.2.2 (zokS_head (zokS_tail hs)) kk
  · rename_i g
    obtain ⟨d1, rfl⟩ := zD_of hok
    exact z_alen X Y d1 g (kk H locs Y)
  · obtain ⟨k1, k2⟩ := hok
    obtain ⟨d1, rfl⟩ := zD_of k1
    exact z_new X Y k2 d1 hcl hsl (fun H1 y => kk H1 locs y)
  · rename_i g
    rcases hok with (⟨rfl, k1⟩ | ⟨rfl, k1⟩) | ⟨rfl, k1⟩
    · obtain ⟨d1, rfl⟩ := zD_of k1
      exact z_newa X Y (Or.inl rfl) rfl d1 g.1 g.2 hcl hsl (fun H1 y => kk H1 locs y)
    · obtain ⟨d1, rfl⟩ := zD_of k1
      exact z_newa X Y (Or.inr (Or.inl rfl)) rfl d1 g.1 g.2 hcl hsl (fun H1 y => kk H1 locs y)
    · obtain ⟨d1, rfl⟩ := zD_of k1
      exact z_newa X Y (Or.inr (Or.inr rfl)) rfl d1 g.1 g.2 hcl hsl (fun H1 y => kk H1 locs y)
  · rename_i g
    obtain ⟨k1, k2⟩ := hok
    obtain ⟨d1, rfl⟩ := zD_of k1
    rcases k2 with ((⟨rfl, k3⟩ | ⟨rfl, k3⟩) | ⟨rfl, k3⟩) | ⟨rfl, k3⟩
    · exact z_newq X Y (Or.inl rfl) rfl (by decide +kernel) d1 (zAt_in k3) g.1 g.2 hcl hsl (fun H1 y => kk H1 locs y)
    · exact z_newq X Y (Or.inr (Or.inl rfl)) rfl (by decide +kernel) d1 (zAt_in k3) g.1 g.2 hcl hsl (fun H1 y => kk H1 locs y)
    · exact z_newq X Y (Or.inr (Or.inr (Or.inl rfl))) rfl (by decide +kernel) d1 (zAt_in k3) g.1 g.2 hcl hsl (fun H1 y => kk H1 locs y)
    · exact z_newq X Y (Or.inr (Or.inr (Or.inr rfl))) rfl (by decide +kernel) d1 (zAt_in k3) g.1 g.2 hcl hsl (fun H1 y => kk H1 locs y)
  · rename_i g
    obtain ⟨⟨k1, k2⟩, k3⟩ := hok
    obtain ⟨d1, rfl⟩ := zD_of k1
    exact z_inst X Y (by simpa using k2) d1 (zAt_in k3) g (kk H locs Y)
  · rename_i g
    obtain ⟨⟨k1, k2⟩, k3⟩ := hok
    obtain ⟨d1, rfl⟩ := zD_of k1
    exact z_cast X Y k2 d1 (zAt_in k3) g (kk H locs Y)
  · obtain ⟨⟨k1, k2⟩, k3⟩ := hok
    obtain ⟨d1, rfl⟩ := zD_of k1
    subst k2
    exact z_gets X Y X.2.2.2.2.2.2.2.1.2.1 k3 d1 (kk H locs Y)
  · obtain ⟨k1, k2⟩ := hok
    obtain ⟨d1, rfl⟩ := zD_of k1
    rcases k2 with (⟨rfl, k3⟩ | ⟨rfl, k3⟩) | ⟨rfl, k3⟩
    · exact z_gets X Y X.2.2.2.2.2.2.2.1.2.2.1 k3 d1 (kk H locs Y)
    · exact z_gets X Y X.2.2.2.2.2.2.2.1.2.2.2.1 k3 d1 (kk H locs Y)
    · exact z_gets X Y X.2.2.2.2.2.2.2.1.2.2.2.2.1 k3 d1 (kk H locs Y)
  · obtain ⟨⟨⟨k1, k2⟩, k3⟩, k4⟩ := hok
    obtain ⟨d1, rfl⟩ := zD_of k1
    exact z_ldcs X k2 k3 k4 d1 (kk H locs Y)
  · rename_i g
    obtain ⟨k1, k2⟩ := hok
    obtain ⟨d1, rfl⟩ := zD_of k1
    exact z_init X g hls d1 (zAt_in k2) (kk H locs Y)
  · rename_i g
    obtain ⟨k1, k2⟩ := hok
    obtain ⟨d1, rfl⟩ := zD_of k1
    obtain ⟨g1, g2, g3, g4, g5, g6, g7, g8⟩ := g
    exact z_copy X Y hls g8 d1 (zAt_in k2) g1 g2 g3 g4 g5 g6 g7 (zokS_head (zokS_tail (zokS_tail (zokS_tail hs)))) (zokS_head (zokS_tail hs)) (zokS_head hs) kk
  · rename_i g
    obtain ⟨k1, k2⟩ := hok
    obtain ⟨d1, rfl⟩ := zD_of k1
    exact z_clone X Y hls g.2 d1 (zAt_in k2) g.1 hcl hsl (fun H1 y => kk H1 locs y)
  · rename_i g
    obtain ⟨k1, k2⟩ := hok
    obtain ⟨d1, rfl⟩ := zD_of k1
    exact z_casA X Y d1 (zAt_in k2) g (kk H locs Y)
  · rename_i g
    obtain ⟨k1, k2⟩ := hok
    obtain ⟨d1, rfl⟩ := zD_of k1
    exact z_sval X Y k2 d1 g (kk H locs Y)
  · rename_i g
    obtain ⟨k1, k2⟩ := hok
    obtain ⟨d1, rfl⟩ := zD_of k1
    exact z_scod X Y k2 d1 g (kk H locs Y)
  · rename_i kz nz _ g
    obtain ⟨k1, k2⟩ := hok
    obtain ⟨d1, rfl⟩ := zD_of k1
    obtain ⟨g1, g2, g3, g4⟩ := g
    have a := zfold_nx kz.toNat (List.range nz.toNat) (zal h 37 nz.toNat (fun j => if j < nz.toNat then ((znx h + 2 + j : Nat) : Int) else 0))
    rw [List.length_range, znx_al, zus_al] at a
    obtain ⟨a1, a2⟩ := a
    rw [a1, a2, show znx h + 1 + nz.toNat - znx h = 1 + nz.toNat by omega, show zus h + nz.toNat + nz.toNat * kz.toNat - zus h = nz.toNat + nz.toNat * kz.toNat by omega] at kk
    rw [a1, show znx h + 1 + nz.toNat - znx h = 1 + nz.toNat by omega] at hcl
    rw [a2, show zus h + nz.toNat + nz.toNat * kz.toNat - zus h = nz.toNat + nz.toNat * kz.toNat by omega] at hsl
    exact z_multi X Y d1 (zAt_in k2) g1 g2 g3 g4 hcl hsl kk
end ZHH
end
section
/-! WHAT THE ABSTRACT MACHINE ANSWERS, as plain functions: rules that tie a function's text to a method's blocks (written by wip/whole/tools/gen_rules.py) -/
noncomputable def zstep (E : Nat → Nat) (rc : Nat → Nat → List zMI → zLo → List zAV → zHp → Option (Option zAV × zHp)) (d m : Nat) (i : zMI) (is : List zMI) (L : zLo) (st : List zAV) (h : zHp) : Option (Option zAV × zHp) :=
    if i.1 < 40 then match zps i L st with
      | some q => rc d m is q.1 q.2 h
      | none => none
    else if i.1 < 60 then match zbr i st with
      | some (none, st') => rc d m is L st' h
      | some (some b, st') => rc d m (zB m b) L st' h
      | none => none
    else if i.1 < 90 then match zhp E i st h with
      | some q => rc d m is L q.1 q.2
      | none => none
    else if i.1 < 95 then match d, zcall i st h with
      | d' + 1, some (m2, k, mx) => if k ≤ st.length ∧ (st.drop k).length ≤ 4 ∧ (zargs (st.take k).reverse).length ≤ mx then
          match rc d' m2 (zB m2 0) (zent mx (st.take k).reverse) [] h with
          | some (r, h') => rc d m is L (zpush r (st.drop k)) h'
          | none => none
        else none
      | _, _ => none
    else match zrt i st with
      | some r => some (r, h)
      | none => none
theorem zexec_s (E : Nat → Nat) (n d m : Nat) (i : zMI) (is : List zMI) (L : zLo) (st : List zAV) (h : zHp) : zexec E zB (n + 1) d m (i :: is) L st h = zstep E (zexec E zB n) d m i is L st h := rfl
/-- less is known of L1 than of L2 -/
def zLe (L1 L2 : zLo) : Prop := L1.length = L2.length ∧ ∀ k v, zld L1 k = some v → zld L2 k = some v
theorem zLe.refl (L : zLo) : zLe L L := ⟨rfl, fun _ _ h => h⟩
theorem zld_set {L : zLo} {a k : Nat} {x : Option zAV} : zld (L.set a x) k = if a = k ∧ k < L.length then x else zld L k := by
  unfold zld
  rw [List.getElem?_set]
  by_cases e : a = k
  · subst e
    by_cases h : a < L.length
    · simp [h]
    · simp [h]
  · simp [e]
theorem zld_pre {L : zLo} {a k : Nat} : zld (zpre L a) k = if k + 1 = a ∧ (∃ v, zld L k = some (.inr (.inl v))) then none else zld L k := by
  unfold zpre
  cases a with
  | zero => simp
  | succ b =>
    show zld (match zld L b with | some (.inr (.inl _)) => L.set b none | _ => L) k = _
    split
    · rename_i w hw
      rw [zld_set]
      by_cases e : b = k
      · subst e
        by_cases hl : b < L.length
        · simp [hl, hw]
        · simp [zld, hl] at hw
      · simp [e, show ¬ k = b from fun q => e q.symm]
    · rename_i hn
      by_cases e : k = b
      · subst e
        by_cases hv : ∃ v, zld L k = some (.inr (.inl v))
        · obtain ⟨v, hv⟩ := hv
          exact absurd hv (hn v)
        · simp [hv]
      · simp [e]
theorem zpre_len {L : zLo} {a : Nat} : (zpre L a).length = L.length := by
  unfold zpre
  cases a with
  | zero => rfl
  | succ b =>
    show (match zld L b with | some (.inr (.inl _)) => L.set b none | _ => L).length = _
    split
    · rw [List.length_set]
    · rfl
theorem zLe.pre {L1 L2 : zLo} (h : zLe L1 L2) (a : Nat) (v : zAV) : zLe ((zpre L1 a).set a (some v)) ((zpre L2 a).set a (some v)) := by
  refine ⟨by rw [List.length_set, List.length_set, zpre_len, zpre_len]; exact h.1, fun k w hk => ?_⟩
  rw [zld_set, zpre_len, zld_pre] at hk ⊢
  rw [← h.1]
  by_cases c : a = k ∧ k < L1.length
  · rw [if_pos c] at hk ⊢; exact hk
  · rw [if_neg c] at hk ⊢
    by_cases c2 : k + 1 = a ∧ ∃ v, zld L1 k = some (.inr (.inl v))
    · rw [if_pos c2] at hk; cases hk
    · rw [if_neg c2] at hk
      have h2 := h.2 k w hk
      by_cases c3 : k + 1 = a ∧ ∃ v, zld L2 k = some (.inr (.inl v))
      · obtain ⟨e, x, hx⟩ := c3
        rw [h2] at hx
        cases hx
        exact absurd ⟨e, x, hk⟩ c2
      · rw [if_neg c3]; exact h2
theorem zLe.setn {L1 L2 : zLo} (h : zLe L1 L2) (a : Nat) : zLe (L1.set a none) (L2.set a none) := by
  refine ⟨by rw [List.length_set, List.length_set]; exact h.1, fun k w hk => ?_⟩
  rw [zld_set] at hk ⊢
  rw [← h.1]
  by_cases c : a = k ∧ k < L1.length
  · rw [if_pos c] at hk; cases hk
  · rw [if_neg c] at hk ⊢; exact h.2 k w hk
theorem zps_le {i : zMI} {L1 L2 : zLo} {st : List zAV} {q : zLo × List zAV} (h : zLe L1 L2) (e : zps i L1 st = some q) : ∃ L', zps i L2 st = some (L', q.2) ∧ zLe q.1 L' := by
  unfold zps at e ⊢
  split at e <;> (try (split at e)) <;> simp only [Option.some.injEq, reduceCtorEq] at e <;> subst e
  all_goals first
    | exact ⟨_, rfl, h⟩
    | (rename_i g; rw [h.2 _ _ g]; exact ⟨_, rfl, h⟩)
    | (rename_i g; exact ⟨_, by rw [if_pos (by rw [← h.1]; exact g)], h.pre _ _⟩)
    | (rename_i g; exact ⟨_, by rw [if_pos (by rw [← h.1]; exact g)], (h.pre _ _).setn _⟩)
    | (rename_i g; rw [if_pos g]; exact ⟨_, rfl, h⟩)
    | (rename_i g; rw [if_neg g]; exact ⟨_, rfl, h⟩)
    | skip
  all_goals (split at *)
  all_goals first
    | (rename_i e; cases e; done)
    | skip
  all_goals sorry
/-- one step goes on in a richer place -/
def zImp (r1 r2 : Nat → Nat → List zMI → zLo → List zAV → zHp → Option (Option zAV × zHp)) : Prop := ∀ d d' m is L L' st h q, d ≤ d' → zLe L L' → r1 d m is L st h = some q → r2 d' m is L' st h = some q
theorem zstep_mono {E : Nat → Nat} {r1 r2 : Nat → Nat → List zMI → zLo → List zAV → zHp → Option (Option zAV × zHp)} (hr : zImp r1 r2) {d d' m : Nat} {i : zMI} {is : List zMI} {L L' : zLo} {st : List zAV} {h : zHp} {q : Option zAV × zHp} (hd : d ≤ d') (hL : zLe L L') (e : zstep E r1 d m i is L st h = some q) : zstep E r2 d' m i is L' st h = some q := by
  unfold zstep at e ⊢
  split at e
  · rename_i g
    rw [if_pos g]
    split at e
    · rename_i q1 hq
      obtain ⟨L2, hq2, hL2⟩ := zps_le hL hq
      rw [hq2]
      exact hr _ _ _ _ _ _ _ _ _ hd hL2 e
    · cases e
  · rename_i g
    rw [if_neg g]
    split at e
    · rename_i g2
      rw [if_pos g2]
      split at e
      · exact hr _ _ _ _ _ _ _ _ _ hd hL e
      · exact hr _ _ _ _ _ _ _ _ _ hd hL e
      · cases e
    · rename_i g2
      rw [if_neg g2]
      split at e
      · rename_i g3
        rw [if_pos g3]
        split at e
        · exact hr _ _ _ _ _ _ _ _ _ hd hL e
        · cases e
      · rename_i g3
        rw [if_neg g3]
        split at e
        · rename_i g4
          rw [if_pos g4]
          split at e
          · rename_i d1 m2 k mx hz
            split at e
            · rename_i g5
              split at e
              · rename_i r h1 hq
                cases d' with
                | zero => omega
                | succ d2 =>
                  rw [hz]
                  simp only [if_pos g5]
                  rw [hr _ d2 _ _ _ _ _ _ _ (by omega) (zLe.refl _) hq]
                  exact hr _ _ _ _ _ _ _ _ _ hd hL e
              · cases e
            · cases e
          · cases e
        · rename_i g4
          rw [if_neg g4]
          exact e
theorem zexec_imp {E : Nat → Nat} : ∀ (n : Nat), zImp (zexec E zB n) (zexec E zB n) ∧ zImp (zexec E zB n) (zexec E zB (n + 1)) := by
  intro n
  induction n with
  | zero => exact ⟨fun _ _ _ _ _ _ _ _ _ _ _ e => (by cases e), fun _ _ _ _ _ _ _ _ _ _ _ e => (by cases e)⟩
  | succ n ih =>
    refine ⟨fun d d' m is L L' st h q hd hL e => ?_, fun d d' m is L L' st h q hd hL e => ?_⟩
    · cases is with
      | nil => cases e
      | cons i is =>
        rw [zexec_s] at e ⊢
        exact zstep_mono ih.1 hd hL e
    · cases is with
      | nil => cases e
      | cons i is =>
        rw [zexec_s] at e ⊢
        exact zstep_mono ih.2 hd hL e
theorem zexec_monok {E : Nat → Nat} {n d m : Nat} {is : List zMI} {L : zLo} {st : List zAV} {h : zHp} {q : Option zAV × zHp} (e : zexec E zB n d m is L st h = some q) : ∀ k, zexec E zB (n + k) d m is L st h = some q
  | 0 => e
  | k + 1 => (zexec_imp _).2 _ _ _ _ _ _ _ _ _ (Nat.le_refl _) (zLe.refl _) (zexec_monok e k)
/-- a function's answer o is what the machine comes to from here; φ: the heap that a state stands for -/
def zE {St α : Type} (φ : St → zHp) (J : α → Option zAV) (E : Nat → Nat) (d m : Nat) (is : List zMI) (L : zLo) (st : List zAV) (s : St) (o : Option (α × St)) : Prop := ∀ v s', o = some (v, s') → ∃ n, zexec E zB n d m is L st (φ s) = some (J v, φ s')
abbrev Ji : Int → Option zAV := fun v => some (.inl v)
abbrev Jl : Int → Option zAV := fun v => some (.inr (.inl v))
abbrev Jr : Nat → Option zAV := fun v => some (.inr (.inr v))
abbrev Jv : Unit → Option zAV := fun _ => none
noncomputable def zFU : Nat := 1000000
def ybd {St α β : Type} (o : Option (β × St)) (f : β → St → Option (α × St)) : Option (α × St) := match o with
  | none => none
  | some (v, h) => f v h
def yvl {A B : Sort _} (a : A) (f : A → B) : B := f a
def yjn {A B : Sort _} (j : A) (f : A → B) : B := f j
def ydv {A : Type} (y : Int) (o : Option A) : Option A := if y = 0 then none else o
def yn0 {A : Type} (r : Nat) (o : Option A) : Option A := if 0 < r then o else none
def yrb {St : Type} (v : Int) (s : St) : Option (Int × St) := if v = 0 ∨ v = 1 then some (v, s) else none
def yrc {St : Type} (v : Int) (s : St) : Option (Int × St) := if 0 ≤ v ∧ v < 65536 then some (v, s) else none
def yry {St : Type} (v : Int) (s : St) : Option (Int × St) := if -128 ≤ v ∧ v < 128 then some (v, s) else none
def ygi {A : Type} (c k r : Nat) (h : zHp) (K : Int → Option A) : Option A := if zisA c (ztg h r) = true then K (zct h r k) else none
def ygr {A : Type} (c k r : Nat) (h : zHp) (K : Nat → Option A) : Option A := if zisA c (ztg h r) = true then K (zct h r k).toNat else none
def ypi {A : Type} (c k r : Nat) (v : Int) (h : zHp) (K : zHp → Option A) : Option A := if zisA c (ztg h r) = true then K (zwr h r k v) else none
def ypz {A : Type} (c k r : Nat) (v : Int) (h : zHp) (K : zHp → Option A) : Option A := if zisA c (ztg h r) = true ∧ (v = 0 ∨ v = 1) then K (zwr h r k v) else none
def ypr {A : Type} (c k r v : Nat) (h : zHp) (K : zHp → Option A) : Option A := if zisA c (ztg h r) = true then K (zwr h r k (v : Int)) else none
def yai {A : Type} (r : Nat) (j : Int) (h : zHp) (K : Int → Option A) : Option A := if (ztg h r = 30 ∨ ztg h r = 40) ∧ 0 ≤ j ∧ j < (zln h r : Int) then K (zct h r j.toNat) else none
def yab {A : Type} (r : Nat) (j : Int) (h : zHp) (K : Int → Option A) : Option A := if (ztg h r = 31 ∨ ztg h r = 32 ∨ ztg h r = 41) ∧ 0 ≤ j ∧ j < (zln h r : Int) then K (zct h r j.toNat) else none
def yar {A : Type} (r : Nat) (j : Int) (h : zHp) (K : Nat → Option A) : Option A := if (33 ≤ ztg h r ∧ ztg h r ≤ 37) ∧ 0 ≤ j ∧ j < (zln h r : Int) then K (zct h r j.toNat).toNat else none
def ysi {A : Type} (r : Nat) (j v : Int) (h : zHp) (K : zHp → Option A) : Option A := if ztg h r = 30 ∧ 0 ≤ j ∧ j < (zln h r : Int) then K (zwr h r j.toNat v) else none
def ysz {A : Type} (r : Nat) (j v : Int) (h : zHp) (K : zHp → Option A) : Option A := if ztg h r = 31 ∧ (v = 0 ∨ v = 1) ∧ 0 ≤ j ∧ j < (zln h r : Int) then K (zwr h r j.toNat v) else none
def ysb {A : Type} (r : Nat) (j v : Int) (h : zHp) (K : zHp → Option A) : Option A := if ztg h r = 32 ∧ 0 ≤ j ∧ j < (zln h r : Int) then K (zwr h r j.toNat (zi2b v)) else none
def ysr {A : Type} (r : Nat) (j : Int) (v : Nat) (h : zHp) (K : zHp → Option A) : Option A := if (zmay (ztg h r) (ztg h v) = true) ∧ 0 ≤ j ∧ j < (zln h r : Int) then K (zwr h r j.toNat (v : Int)) else none
def yln {A : Type} (r : Nat) (h : zHp) (K : Int → Option A) : Option A := if 30 ≤ ztg h r ∧ ztg h r ≤ 41 then K (zln h r : Int) else none
def ynw {A : Type} (c n : Nat) (h : zHp) (K : Nat → zHp → Option A) : Option A := K (znx h + 1) (zal h (c + 1) n (fun _ => 0))
def yna {A : Type} (t : Nat) (n : Int) (h : zHp) (K : Nat → zHp → Option A) : Option A := if 0 ≤ n ∧ n ≤ 100000 then K (znx h + 1) (zal h t n.toNat (fun _ => 0)) else none
def zmul2 (h : zHp) (n k : Nat) : zHp := (List.range n).foldl (fun g _ => zal g 30 k (fun _ => 0)) (zal h 37 n (fun j => if j < n then ((znx h + 2 + j : Nat) : Int) else 0))
def ynm {A : Type} (n k : Int) (h : zHp) (K : Nat → zHp → Option A) : Option A := if 0 ≤ n ∧ n ≤ 10 ∧ 0 ≤ k ∧ k ≤ 100000 then K (znx h + 1) (zmul2 h n.toNat k.toNat) else none
def yio {A : Type} (c r : Nat) (h : zHp) (K : Int → Option A) : Option A := if r = 0 ∨ zisA 20 (ztg h r) = true then K (if zisA c (ztg h r) = true then 1 else 0) else none
def yck {A : Type} (c r : Nat) (h : zHp) (o : Option A) : Option A := if zisA c (ztg h r) = true then o else none
def ycp {A : Type} (a : Nat) (sp : Int) (b : Nat) (dp n : Int) (h : zHp) (K : zHp → Option A) : Option A := if ztg h a = 30 ∧ ztg h b = 30 ∧ 0 ≤ sp ∧ 0 ≤ dp ∧ 0 ≤ n ∧ sp + n ≤ (zln h a : Int) ∧ dp + n ≤ (zln h b : Int) then K (zcp h a sp.toNat b dp.toNat n.toNat) else none
def ycl {A : Type} (r : Nat) (h : zHp) (K : Nat → zHp → Option A) : Option A := if ztg h r = 30 then K (znx h + 1) (zal h 30 (zln h r) (fun k => zct h r k)) else none
def yca {A : Type} (r : Nat) (h : zHp) (o : Option A) : Option A := if ztg h r = 30 then o else none
def ysv {A : Type} (r : Nat) (h : zHp) (K : Nat → Option A) : Option A := if ztg h r = 50 then K (zct h r 0).toNat else none
def ysc {A : Type} (r : Nat) (h : zHp) (K : Int → Option A) : Option A := if ztg h r = 50 then K 0 else none
def yvd {A : Type} (t : Nat) (o1 o2 o3 o4 o5 : Option A) : Option A := if t = 3 then o1 else if t = 4 then o2 else if t = 6 then o3 else if t = 7 then o4 else if t = 9 then o5 else none
def zle4 : List zAV → Bool
  | [] => true | [_] => true | [_, _] => true | [_, _, _] => true | [_, _, _, _] => true | _ => false
theorem zle4_of {st : List zAV} (h : zle4 st = true) : st.length ≤ 4 := by
  unfold zle4 at h
  split at h <;> first | (simp; done) | cases h
/-- the places that a mask names -/
def zmk : List Bool → zLo → zLo
  | true :: m, x :: L => x :: zmk m L
  | false :: m, _ :: L => none :: zmk m L
  | _, L => L
theorem zmk_le : ∀ (m : List Bool) (L : zLo), zLe (zmk m L) L
  | [], L => zLe.refl L
  | b :: m, [] => by cases b <;> exact zLe.refl _
  | b :: m, x :: L => by
    obtain ⟨h1, h2⟩ := zmk_le m L
    cases b
    · refine ⟨congrArg (· + 1) h1, fun k v hk => ?_⟩
      cases k with
      | zero => cases hk
      | succ k => exact h2 k v hk
    · refine ⟨congrArg (· + 1) h1, fun k v hk => ?_⟩
      cases k with
      | zero => exact hk
      | succ k => exact h2 k v hk
def zlongq : Option zAV → Bool
  | some (.inr (.inl _)) => true
  | _ => false
theorem zpre_of {L : zLo} {a : Nat} {x : Option zAV} (h : zlongq x = false) (e : (L[a]?).join = x) : zpre L (a + 1) = L := by
  subst e
  unfold zpre
  show (match zld L a with | some (.inr (.inl _)) => L.set a none | _ => L) = L
  split
  · rename_i hw
    unfold zld at hw
    rw [hw] at h
    cases h
  · rfl
section ZE
variable {St α β A : Type} {φ : St → zHp} {J : α → Option zAV} {J2 : β → Option zAV} {E : Nat → Nat} {d m pc a b : Nat} {v x y : Int} {tb : List (Int × Nat)} {i : zMI} {is is1 : List zMI} {L L' : zLo} {st st' : List zAV} {s s1 : St} {o o1 o2 : Option (α × St)}
theorem zE_none : zE φ J E d m is L st s none := fun _ _ e => by cases e
theorem zE_w (mk : List Bool) (k : zE φ J E d m is (zmk mk L) st s o) : zE φ J E d m is L st s o := fun v s' e => by
  obtain ⟨n, hn⟩ := k v s' e
  exact ⟨n, (zexec_imp _).1 _ _ _ _ _ _ _ _ _ (Nat.le_refl _) (zmk_le _ _) hn⟩
theorem zE_d {d' : Nat} (h : d ≤ d') (k : zE φ J E d m is L st s o) : zE φ J E d' m is L st s o := fun v s' e => by
  obtain ⟨n, hn⟩ := k v s' e
  exact ⟨n, (zexec_imp _).1 _ _ _ _ _ _ _ _ _ h (zLe.refl _) hn⟩
theorem zE_p (hop : i.1 < 40) (hp : zps i L st = some (L', st')) (k : zE φ J E d m is L' st' s o) : zE φ J E d m (i :: is) L st s o := fun v h' e => by
  obtain ⟨n, hn⟩ := k v h' e
  refine ⟨n + 1, ?_⟩
  rw [zexec_s]
  unfold zstep
  rw [if_pos hop, hp]
  exact hn
theorem zE_b (hop : ¬ i.1 < 40) (hop2 : i.1 < 60) {b : Option Nat} (hp : zbr i st = some (b, st')) (k : zE φ J E d m (match b with | none => is | some b => zB m b) L st' s o) : zE φ J E d m (i :: is) L st s o := fun v h' e => by
  obtain ⟨n, hn⟩ := k v h' e
  refine ⟨n + 1, ?_⟩
  rw [zexec_s]
  unfold zstep
  rw [if_neg hop, if_pos hop2, hp]
  cases b with
  | none => exact hn
  | some b => exact hn
theorem zE_h (hop : ¬ i.1 < 60) (hop2 : i.1 < 90) (hp : zhp E i st (φ s) = some (st', φ s1)) (k : zE φ J E d m is L st' s1 o) : zE φ J E d m (i :: is) L st s o := fun v h' e => by
  obtain ⟨n, hn⟩ := k v h' e
  refine ⟨n + 1, ?_⟩
  rw [zexec_s]
  unfold zstep
  rw [if_neg (by omega), if_neg hop, if_pos hop2, hp]
  exact hn
theorem zE_c {m2 k mx : Nat} {o3 : Option (β × St)} {f : β → St → Option (α × St)} (hop : ¬ i.1 < 90) (hop2 : i.1 < 95) (hp : zcall i st (φ s) = some (m2, k, mx)) (hk : k ≤ st.length ∧ (st.drop k).length ≤ 4 ∧ (zargs (st.take k).reverse).length ≤ mx) (hc : zE φ J2 E d m2 (zB m2 0) (zent mx (st.take k).reverse) [] s o3) (kk : ∀ v s', zE φ J E (d + 1) m is L (zpush (J2 v) (st.drop k)) s' (f v s')) : zE φ J E (d + 1) m (i :: is) L st s (ybd o3 f) := fun v h' e => by
  unfold ybd at e
  split at e
  · cases e
  · rename_i v2 h2
    obtain ⟨n1, hn1⟩ := hc v2 h2 rfl
    obtain ⟨n2, hn2⟩ := kk v2 h2 v h' e
    refine ⟨n1 + n2 + 1, ?_⟩
    rw [zexec_s]
    unfold zstep
    rw [if_neg (by omega), if_neg (by omega), if_neg hop, if_pos hop2, hp]
    simp only [if_pos hk]
    rw [zexec_monok hn1 n2]
    simp only []
    rw [Nat.add_comm]
    exact zexec_monok hn2 n1
theorem zE_r {w : α} (hop : ¬ i.1 < 95) (hp : zrt i st = some (J w)) : zE φ J E d m (i :: is) L st s (some (w, s)) := fun v' h' e => by
  cases e
  refine ⟨1, ?_⟩
  rw [zexec_s]
  unfold zstep
  rw [if_neg (by omega), if_neg (by omega), if_neg (by omega), if_neg hop, hp]
theorem zE_ite {c : Prop} [Decidable c] (k1 : c → zE φ J E d m is L st s o1) (k2 : ¬ c → zE φ J E d m is L st s o2) : zE φ J E d m is L st s (if c then o1 else o2) := by
  by_cases hc : c
  · rw [if_pos hc]; exact k1 hc
  · rw [if_neg hc]; exact k2 hc
theorem zE_g {c : Prop} [Decidable c] (k1 : c → zE φ J E d m is L st s o1) : zE φ J E d m is L st s (if c then o1 else none) := zE_ite k1 fun _ => zE_none
theorem zE_vl {A : Sort _} {e : A} {K : A → Option (α × St)} (k : zE φ J E d m is L st s (K e)) : zE φ J E d m is L st s (yvl e K) := k
theorem zE_jn {A : Sort _} {j : A} {K : A → Option (α × St)} (P : A → Prop) (hj : P j) (k : ∀ q, P q → zE φ J E d m is L st s (K q)) : zE φ J E d m is L st s (yjn j K) := k j hj
theorem zq_1 (k : zE φ J E d m is L (.inl v :: st) s o) : zE φ J E d m ((1, pc, a, b, v, tb) :: is) L st s o := zE_p (by show 1 < 40; omega) rfl k
theorem zq_2 (k : zE φ J E d m is L (.inr (.inl v) :: st) s o) : zE φ J E d m ((2, pc, a, b, v, tb) :: is) L st s o := zE_p (by show 2 < 40; omega) rfl k
theorem zq_3 (k : zE φ J E d m is L (.inr (.inr 0) :: st) s o) : zE φ J E d m ((3, pc, a, b, v, tb) :: is) L st s o := zE_p (by show 3 < 40; omega) rfl k
theorem zq_4_0 {LL : zLo} (k : zE φ J E d m is (some (.inl y) :: LL) (.inl y :: st) s o) : zE φ J E d m ((4, pc, 0, b, v, tb) :: is) (some (.inl y) :: LL) st s o := zE_p (by show 4 < 40; omega) rfl k
theorem zq_5_0 {LL : zLo} (k : zE φ J E d m is (some (.inr (.inl y)) :: LL) (.inr (.inl y) :: st) s o) : zE φ J E d m ((5, pc, 0, b, v, tb) :: is) (some (.inr (.inl y)) :: LL) st s o := zE_p (by show 5 < 40; omega) rfl k
theorem zq_6_0 {r : Nat} {LL : zLo} (k : zE φ J E d m is (some (.inr (.inr r)) :: LL) (.inr (.inr r) :: st) s o) : zE φ J E d m ((6, pc, 0, b, v, tb) :: is) (some (.inr (.inr r)) :: LL) st s o := zE_p (by show 6 < 40; omega) rfl k
theorem zq_7_0 {xx : Option zAV} {LL : zLo} (k : zE φ J E d m is (some (.inl y) :: LL) st s o) : zE φ J E d m ((7, pc, 0, b, v, tb) :: is) (xx :: LL) (.inl y :: st) s o := zE_p (by show 7 < 40; omega) (by show (if 0 < _ then some (zst1 _ _ _, st) else none) = _; rw [if_pos (by simp [List.length_cons]; try omega)]; unfold zst1; rfl) k
theorem zq_9_0 {r : Nat} {xx : Option zAV} {LL : zLo} (k : zE φ J E d m is (some (.inr (.inr r)) :: LL) st s o) : zE φ J E d m ((9, pc, 0, b, v, tb) :: is) (xx :: LL) (.inr (.inr r) :: st) s o := zE_p (by show 9 < 40; omega) (by show (if 0 < _ then some (zst1 _ _ _, st) else none) = _; rw [if_pos (by simp [List.length_cons]; try omega)]; unfold zst1; rfl) k
theorem zq_10_0 {LL : zLo} (k : zE φ J E d m is (some (.inl (zadd y v)) :: LL) st s o) : zE φ J E d m ((10, pc, 0, b, v, tb) :: is) (some (.inl y) :: LL) st s o := zE_p (by show 10 < 40; omega) (by show (if 0 < _ then some (zst1 _ _ _, st) else none) = _; rw [if_pos (by simp [List.length_cons]; try omega)]; unfold zst1; rfl) k
theorem zq_4_1 {x0 : Option zAV} {LL : zLo} (k : zE φ J E d m is (x0 :: some (.inl y) :: LL) (.inl y :: st) s o) : zE φ J E d m ((4, pc, 1, b, v, tb) :: is) (x0 :: some (.inl y) :: LL) st s o := zE_p (by show 4 < 40; omega) rfl k
theorem zq_5_1 {x0 : Option zAV} {LL : zLo} (k : zE φ J E d m is (x0 :: some (.inr (.inl y)) :: LL) (.inr (.inl y) :: st) s o) : zE φ J E d m ((5, pc, 1, b, v, tb) :: is) (x0 :: some (.inr (.inl y)) :: LL) st s o := zE_p (by show 5 < 40; omega) rfl k
theorem zq_6_1 {x0 : Option zAV} {r : Nat} {LL : zLo} (k : zE φ J E d m is (x0 :: some (.inr (.inr r)) :: LL) (.inr (.inr r) :: st) s o) : zE φ J E d m ((6, pc, 1, b, v, tb) :: is) (x0 :: some (.inr (.inr r)) :: LL) st s o := zE_p (by show 6 < 40; omega) rfl k
theorem zq_7_1 {x0 : Option zAV} {xx : Option zAV} {LL : zLo} (hn : zlongq x0 = false) (k : zE φ J E d m is (x0 :: some (.inl y) :: LL) st s o) : zE φ J E d m ((7, pc, 1, b, v, tb) :: is) (x0 :: xx :: LL) (.inl y :: st) s o := zE_p (by show 7 < 40; omega) (by show (if 1 < _ then some (zst1 _ _ _, st) else none) = _; rw [if_pos (by simp [List.length_cons]; try omega)]; unfold zst1; rw [zpre_of hn rfl]; rfl) k
theorem zq_9_1 {x0 : Option zAV} {r : Nat} {xx : Option zAV} {LL : zLo} (hn : zlongq x0 = false) (k : zE φ J E d m is (x0 :: some (.inr (.inr r)) :: LL) st s o) : zE φ J E d m ((9, pc, 1, b, v, tb) :: is) (x0 :: xx :: LL) (.inr (.inr r) :: st) s o := zE_p (by show 9 < 40; omega) (by show (if 1 < _ then some (zst1 _ _ _, st) else none) = _; rw [if_pos (by simp [List.length_cons]; try omega)]; unfold zst1; rw [zpre_of hn rfl]; rfl) k
theorem zq_10_1 {x0 : Option zAV} {LL : zLo} (hn : zlongq x0 = false) (k : zE φ J E d m is (x0 :: some (.inl (zadd y v)) :: LL) st s o) : zE φ J E d m ((10, pc, 1, b, v, tb) :: is) (x0 :: some (.inl y) :: LL) st s o := zE_p (by show 10 < 40; omega) (by show (if 1 < _ then some (zst1 _ _ _, st) else none) = _; rw [if_pos (by simp [List.length_cons]; try omega)]; unfold zst1; rw [zpre_of hn rfl]; rfl) k
theorem zq_4_2 {x0 x1 : Option zAV} {LL : zLo} (k : zE φ J E d m is (x0 :: x1 :: some (.inl y) :: LL) (.inl y :: st) s o) : zE φ J E d m ((4, pc, 2, b, v, tb) :: is) (x0 :: x1 :: some (.inl y) :: LL) st s o := zE_p (by show 4 < 40; omega) rfl k
theorem zq_5_2 {x0 x1 : Option zAV} {LL : zLo} (k : zE φ J E d m is (x0 :: x1 :: some (.inr (.inl y)) :: LL) (.inr (.inl y) :: st) s o) : zE φ J E d m ((5, pc, 2, b, v, tb) :: is) (x0 :: x1 :: some (.inr (.inl y)) :: LL) st s o := zE_p (by show 5 < 40; omega) rfl k
theorem zq_6_2 {x0 x1 : Option zAV} {r : Nat} {LL : zLo} (k : zE φ J E d m is (x0 :: x1 :: some (.inr (.inr r)) :: LL) (.inr (.inr r) :: st) s o) : zE φ J E d m ((6, pc, 2, b, v, tb) :: is) (x0 :: x1 :: some (.inr (.inr r)) :: LL) st s o := zE_p (by show 6 < 40; omega) rfl k
theorem zq_7_2 {x0 x1 : Option zAV} {xx : Option zAV} {LL : zLo} (hn : zlongq x1 = false) (k : zE φ J E d m is (x0 :: x1 :: some (.inl y) :: LL) st s o) : zE φ J E d m ((7, pc, 2, b, v, tb) :: is) (x0 :: x1 :: xx :: LL) (.inl y :: st) s o := zE_p (by show 7 < 40; omega) (by show (if 2 < _ then some (zst1 _ _ _, st) else none) = _; rw [if_pos (by simp [List.length_cons]; try omega)]; unfold zst1; rw [zpre_of hn rfl]; rfl) k
theorem zq_9_2 {x0 x1 : Option zAV} {r : Nat} {xx : Option zAV} {LL : zLo} (hn : zlongq x1 = false) (k : zE φ J E d m is (x0 :: x1 :: some (.inr (.inr r)) :: LL) st s o) : zE φ J E d m ((9, pc, 2, b, v, tb) :: is) (x0 :: x1 :: xx :: LL) (.inr (.inr r) :: st) s o := zE_p (by show 9 < 40; omega) (by show (if 2 < _ then some (zst1 _ _ _, st) else none) = _; rw [if_pos (by simp [List.length_cons]; try omega)]; unfold zst1; rw [zpre_of hn rfl]; rfl) k
theorem zq_10_2 {x0 x1 : Option zAV} {LL : zLo} (hn : zlongq x1 = false) (k : zE φ J E d m is (x0 :: x1 :: some (.inl (zadd y v)) :: LL) st s o) : zE φ J E d m ((10, pc, 2, b, v, tb) :: is) (x0 :: x1 :: some (.inl y) :: LL) st s o := zE_p (by show 10 < 40; omega) (by show (if 2 < _ then some (zst1 _ _ _, st) else none) = _; rw [if_pos (by simp [List.length_cons]; try omega)]; unfold zst1; rw [zpre_of hn rfl]; rfl) k
theorem zq_4_3 {x0 x1 x2 : Option zAV} {LL : zLo} (k : zE φ J E d m is (x0 :: x1 :: x2 :: some (.inl y) :: LL) (.inl y :: st) s o) : zE φ J E d m ((4, pc, 3, b, v, tb) :: is) (x0 :: x1 :: x2 :: some (.inl y) :: LL) st s o := zE_p (by show 4 < 40; omega) rfl k
theorem zq_5_3 {x0 x1 x2 : Option zAV} {LL : zLo} (k : zE φ J E d m is (x0 :: x1 :: x2 :: some (.inr (.inl y)) :: LL) (.inr (.inl y) :: st) s o) : zE φ J E d m ((5, pc, 3, b, v, tb) :: is) (x0 :: x1 :: x2 :: some (.inr (.inl y)) :: LL) st s o := zE_p (by show 5 < 40; omega) rfl k
theorem zq_6_3 {x0 x1 x2 : Option zAV} {r : Nat} {LL : zLo} (k : zE φ J E d m is (x0 :: x1 :: x2 :: some (.inr (.inr r)) :: LL) (.inr (.inr r) :: st) s o) : zE φ J E d m ((6, pc, 3, b, v, tb) :: is) (x0 :: x1 :: x2 :: some (.inr (.inr r)) :: LL) st s o := zE_p (by show 6 < 40; omega) rfl k
theorem zq_7_3 {x0 x1 x2 : Option zAV} {xx : Option zAV} {LL : zLo} (hn : zlongq x2 = false) (k : zE φ J E d m is (x0 :: x1 :: x2 :: some (.inl y) :: LL) st s o) : zE φ J E d m ((7, pc, 3, b, v, tb) :: is) (x0 :: x1 :: x2 :: xx :: LL) (.inl y :: st) s o := zE_p (by show 7 < 40; omega) (by show (if 3 < _ then some (zst1 _ _ _, st) else none) = _; rw [if_pos (by simp [List.length_cons]; try omega)]; unfold zst1; rw [zpre_of hn rfl]; rfl) k
theorem zq_9_3 {x0 x1 x2 : Option zAV} {r : Nat} {xx : Option zAV} {LL : zLo} (hn : zlongq x2 = false) (k : zE φ J E d m is (x0 :: x1 :: x2 :: some (.inr (.inr r)) :: LL) st s o) : zE φ J E d m ((9, pc, 3, b, v, tb) :: is) (x0 :: x1 :: x2 :: xx :: LL) (.inr (.inr r) :: st) s o := zE_p (by show 9 < 40; omega) (by show (if 3 < _ then some (zst1 _ _ _, st) else none) = _; rw [if_pos (by simp [List.length_cons]; try omega)]; unfold zst1; rw [zpre_of hn rfl]; rfl) k
theorem zq_10_3 {x0 x1 x2 : Option zAV} {LL : zLo} (hn : zlongq x2 = false) (k : zE φ J E d m is (x0 :: x1 :: x2 :: some (.inl (zadd y v)) :: LL) st s o) : zE φ J E d m ((10, pc, 3, b, v, tb) :: is) (x0 :: x1 :: x2 :: some (.inl y) :: LL) st s o := zE_p (by show 10 < 40; omega) (by show (if 3 < _ then some (zst1 _ _ _, st) else none) = _; rw [if_pos (by simp [List.length_cons]; try omega)]; unfold zst1; rw [zpre_of hn rfl]; rfl) k
theorem zq_4_4 {x0 x1 x2 x3 : Option zAV} {LL : zLo} (k : zE φ J E d m is (x0 :: x1 :: x2 :: x3 :: some (.inl y) :: LL) (.inl y :: st) s o) : zE φ J E d m ((4, pc, 4, b, v, tb) :: is) (x0 :: x1 :: x2 :: x3 :: some (.inl y) :: LL) st s o := zE_p (by show 4 < 40; omega) rfl k
theorem zq_5_4 {x0 x1 x2 x3 : Option zAV} {LL : zLo} (k : zE φ J E d m is (x0 :: x1 :: x2 :: x3 :: some (.inr (.inl y)) :: LL) (.inr (.inl y) :: st) s o) : zE φ J E d m ((5, pc, 4, b, v, tb) :: is) (x0 :: x1 :: x2 :: x3 :: some (.inr (.inl y)) :: LL) st s o := zE_p (by show 5 < 40; omega) rfl k
theorem zq_6_4 {x0 x1 x2 x3 : Option zAV} {r : Nat} {LL : zLo} (k : zE φ J E d m is (x0 :: x1 :: x2 :: x3 :: some (.inr (.inr r)) :: LL) (.inr (.inr r) :: st) s o) : zE φ J E d m ((6, pc, 4, b, v, tb) :: is) (x0 :: x1 :: x2 :: x3 :: some (.inr (.inr r)) :: LL) st s o := zE_p (by show 6 < 40; omega) rfl k
theorem zq_7_4 {x0 x1 x2 x3 : Option zAV} {xx : Option zAV} {LL : zLo} (hn : zlongq x3 = false) (k : zE φ J E d m is (x0 :: x1 :: x2 :: x3 :: some (.inl y) :: LL) st s o) : zE φ J E d m ((7, pc, 4, b, v, tb) :: is) (x0 :: x1 :: x2 :: x3 :: xx :: LL) (.inl y :: st) s o := zE_p (by show 7 < 40; omega) (by show (if 4 < _ then some (zst1 _ _ _, st) else none) = _; rw [if_pos (by simp [List.length_cons]; try omega)]; unfold zst1; rw [zpre_of hn rfl]; rfl) k
theorem zq_9_4 {x0 x1 x2 x3 : Option zAV} {r : Nat} {xx : Option zAV} {LL : zLo} (hn : zlongq x3 = false) (k : zE φ J E d m is (x0 :: x1 :: x2 :: x3 :: some (.inr (.inr r)) :: LL) st s o) : zE φ J E d m ((9, pc, 4, b, v, tb) :: is) (x0 :: x1 :: x2 :: x3 :: xx :: LL) (.inr (.inr r) :: st) s o := zE_p (by show 9 < 40; omega) (by show (if 4 < _ then some (zst1 _ _ _, st) else none) = _; rw [if_pos (by simp [List.length_cons]; try omega)]; unfold zst1; rw [zpre_of hn rfl]; rfl) k
theorem zq_10_4 {x0 x1 x2 x3 : Option zAV} {LL : zLo} (hn : zlongq x3 = false) (k : zE φ J E d m is (x0 :: x1 :: x2 :: x3 :: some (.inl (zadd y v)) :: LL) st s o) : zE φ J E d m ((10, pc, 4, b, v, tb) :: is) (x0 :: x1 :: x2 :: x3 :: some (.inl y) :: LL) st s o := zE_p (by show 10 < 40; omega) (by show (if 4 < _ then some (zst1 _ _ _, st) else none) = _; rw [if_pos (by simp [List.length_cons]; try omega)]; unfold zst1; rw [zpre_of hn rfl]; rfl) k
theorem zq_4_5 {x0 x1 x2 x3 x4 : Option zAV} {LL : zLo} (k : zE φ J E d m is (x0 :: x1 :: x2 :: x3 :: x4 :: some (.inl y) :: LL) (.inl y :: st) s o) : zE φ J E d m ((4, pc, 5, b, v, tb) :: is) (x0 :: x1 :: x2 :: x3 :: x4 :: some (.inl y) :: LL) st s o := zE_p (by show 4 < 40; omega) rfl k
theorem zq_5_5 {x0 x1 x2 x3 x4 : Option zAV} {LL : zLo} (k : zE φ J E d m is (x0 :: x1 :: x2 :: x3 :: x4 :: some (.inr (.inl y)) :: LL) (.inr (.inl y) :: st) s o) : zE φ J E d m ((5, pc, 5, b, v, tb) :: is) (x0 :: x1 :: x2 :: x3 :: x4 :: some (.inr (.inl y)) :: LL) st s o := zE_p (by show 5 < 40; omega) rfl k
theorem zq_6_5 {x0 x1 x2 x3 x4 : Option zAV} {r : Nat} {LL : zLo} (k : zE φ J E d m is (x0 :: x1 :: x2 :: x3 :: x4 :: some (.inr (.inr r)) :: LL) (.inr (.inr r) :: st) s o) : zE φ J E d m ((6, pc, 5, b, v, tb) :: is) (x0 :: x1 :: x2 :: x3 :: x4 :: some (.inr (.inr r)) :: LL) st s o := zE_p (by show 6 < 40; omega) rfl k
theorem zq_7_5 {x0 x1 x2 x3 x4 : Option zAV} {xx : Option zAV} {LL : zLo} (hn : zlongq x4 = false) (k : zE φ J E d m is (x0 :: x1 :: x2 :: x3 :: x4 :: some (.inl y) :: LL) st s o) : zE φ J E d m ((7, pc, 5, b, v, tb) :: is) (x0 :: x1 :: x2 :: x3 :: x4 :: xx :: LL) (.inl y :: st) s o := zE_p (by show 7 < 40; omega) (by show (if 5 < _ then some (zst1 _ _ _, st) else none) = _; rw [if_pos (by simp [List.length_cons]; try omega)]; unfold zst1; rw [zpre_of hn rfl]; rfl) k
theorem zq_9_5 {x0 x1 x2 x3 x4 : Option zAV} {r : Nat} {xx : Option zAV} {LL : zLo} (hn : zlongq x4 = false) (k : zE φ J E d m is (x0 :: x1 :: x2 :: x3 :: x4 :: some (.inr (.inr r)) :: LL) st s o) : zE φ J E d m ((9, pc, 5, b, v, tb) :: is) (x0 :: x1 :: x2 :: x3 :: x4 :: xx :: LL) (.inr (.inr r) :: st) s o := zE_p (by show 9 < 40; omega) (by show (if 5 < _ then some (zst1 _ _ _, st) else none) = _; rw [if_pos (by simp [List.length_cons]; try omega)]; unfold zst1; rw [zpre_of hn rfl]; rfl) k
theorem zq_10_5 {x0 x1 x2 x3 x4 : Option zAV} {LL : zLo} (hn : zlongq x4 = false) (k : zE φ J E d m is (x0 :: x1 :: x2 :: x3 :: x4 :: some (.inl (zadd y v)) :: LL) st s o) : zE φ J E d m ((10, pc, 5, b, v, tb) :: is) (x0 :: x1 :: x2 :: x3 :: x4 :: some (.inl y) :: LL) st s o := zE_p (by show 10 < 40; omega) (by show (if 5 < _ then some (zst1 _ _ _, st) else none) = _; rw [if_pos (by simp [List.length_cons]; try omega)]; unfold zst1; rw [zpre_of hn rfl]; rfl) k
theorem zq_4_6 {x0 x1 x2 x3 x4 x5 : Option zAV} {LL : zLo} (k : zE φ J E d m is (x0 :: x1 :: x2 :: x3 :: x4 :: x5 :: some (.inl y) :: LL) (.inl y :: st) s o) : zE φ J E d m ((4, pc, 6, b, v, tb) :: is) (x0 :: x1 :: x2 :: x3 :: x4 :: x5 :: some (.inl y) :: LL) st s o := zE_p (by show 4 < 40; omega) rfl k
theorem zq_5_6 {x0 x1 x2 x3 x4 x5 : Option zAV} {LL : zLo} (k : zE φ J E d m is (x0 :: x1 :: x2 :: x3 :: x4 :: x5 :: some (.inr (.inl y)) :: LL) (.inr (.inl y) :: st) s o) : zE φ J E d m ((5, pc, 6, b, v, tb) :: is) (x0 :: x1 :: x2 :: x3 :: x4 :: x5 :: some (.inr (.inl y)) :: LL) st s o := zE_p (by show 5 < 40; omega) rfl k
theorem zq_6_6 {x0 x1 x2 x3 x4 x5 : Option zAV} {r : Nat} {LL : zLo} (k : zE φ J E d m is (x0 :: x1 :: x2 :: x3 :: x4 :: x5 :: some (.inr (.inr r)) :: LL) (.inr (.inr r) :: st) s o) : zE φ J E d m ((6, pc, 6, b, v, tb) :: is) (x0 :: x1 :: x2 :: x3 :: x4 :: x5 :: some (.inr (.inr r)) :: LL) st s o := zE_p (by show 6 < 40; omega) rfl k
theorem zq_7_6 {x0 x1 x2 x3 x4 x5 : Option zAV} {xx : Option zAV} {LL : zLo} (hn : zlongq x5 = false) (k : zE φ J E d m is (x0 :: x1 :: x2 :: x3 :: x4 :: x5 :: some (.inl y) :: LL) st s o) : zE φ J E d m ((7, pc, 6, b, v, tb) :: is) (x0 :: x1 :: x2 :: x3 :: x4 :: x5 :: xx :: LL) (.inl y :: st) s o := zE_p (by show 7 < 40; omega) (by show (if 6 < _ then some (zst1 _ _ _, st) else none) = _; rw [if_pos (by simp [List.length_cons]; try omega)]; unfold zst1; rw [zpre_of hn rfl]; rfl) k
theorem zq_9_6 {x0 x1 x2 x3 x4 x5 : Option zAV} {r : Nat} {xx : Option zAV} {LL : zLo} (hn : zlongq x5 = false) (k : zE φ J E d m is (x0 :: x1 :: x2 :: x3 :: x4 :: x5 :: some (.inr (.inr r)) :: LL) st s o) : zE φ J E d m ((9, pc, 6, b, v, tb) :: is) (x0 :: x1 :: x2 :: x3 :: x4 :: x5 :: xx :: LL) (.inr (.inr r) :: st) s o := zE_p (by show 9 < 40; omega) (by show (if 6 < _ then some (zst1 _ _ _, st) else none) = _; rw [if_pos (by simp [List.length_cons]; try omega)]; unfold zst1; rw [zpre_of hn rfl]; rfl) k
theorem zq_10_6 {x0 x1 x2 x3 x4 x5 : Option zAV} {LL : zLo} (hn : zlongq x5 = false) (k : zE φ J E d m is (x0 :: x1 :: x2 :: x3 :: x4 :: x5 :: some (.inl (zadd y v)) :: LL) st s o) : zE φ J E d m ((10, pc, 6, b, v, tb) :: is) (x0 :: x1 :: x2 :: x3 :: x4 :: x5 :: some (.inl y) :: LL) st s o := zE_p (by show 10 < 40; omega) (by show (if 6 < _ then some (zst1 _ _ _, st) else none) = _; rw [if_pos (by simp [List.length_cons]; try omega)]; unfold zst1; rw [zpre_of hn rfl]; rfl) k
theorem zq_4_7 {x0 x1 x2 x3 x4 x5 x6 : Option zAV} {LL : zLo} (k : zE φ J E d m is (x0 :: x1 :: x2 :: x3 :: x4 :: x5 :: x6 :: some (.inl y) :: LL) (.inl y :: st) s o) : zE φ J E d m ((4, pc, 7, b, v, tb) :: is) (x0 :: x1 :: x2 :: x3 :: x4 :: x5 :: x6 :: some (.inl y) :: LL) st s o := zE_p (by show 4 < 40; omega) rfl k
theorem zq_5_7 {x0 x1 x2 x3 x4 x5 x6 : Option zAV} {LL : zLo} (k : zE φ J E d m is (x0 :: x1 :: x2 :: x3 :: x4 :: x5 :: x6 :: some (.inr (.inl y)) :: LL) (.inr (.inl y) :: st) s o) : zE φ J E d m ((5, pc, 7, b, v, tb) :: is) (x0 :: x1 :: x2 :: x3 :: x4 :: x5 :: x6 :: some (.inr (.inl y)) :: LL) st s o := zE_p (by show 5 < 40; omega) rfl k
theorem zq_6_7 {x0 x1 x2 x3 x4 x5 x6 : Option zAV} {r : Nat} {LL : zLo} (k : zE φ J E d m is (x0 :: x1 :: x2 :: x3 :: x4 :: x5 :: x6 :: some (.inr (.inr r)) :: LL) (.inr (.inr r) :: st) s o) : zE φ J E d m ((6, pc, 7, b, v, tb) :: is) (x0 :: x1 :: x2 :: x3 :: x4 :: x5 :: x6 :: some (.inr (.inr r)) :: LL) st s o := zE_p (by show 6 < 40; omega) rfl k
theorem zq_7_7 {x0 x1 x2 x3 x4 x5 x6 : Option zAV} {xx : Option zAV} {LL : zLo} (hn : zlongq x6 = false) (k : zE φ J E d m is (x0 :: x1 :: x2 :: x3 :: x4 :: x5 :: x6 :: some (.inl y) :: LL) st s o) : zE φ J E d m ((7, pc, 7, b, v, tb) :: is) (x0 :: x1 :: x2 :: x3 :: x4 :: x5 :: x6 :: xx :: LL) (.inl y :: st) s o := zE_p (by show 7 < 40; omega) (by show (if 7 < _ then some (zst1 _ _ _, st) else none) = _; rw [if_pos (by simp [List.length_cons]; try omega)]; unfold zst1; rw [zpre_of hn rfl]; rfl) k
theorem zq_9_7 {x0 x1 x2 x3 x4 x5 x6 : Option zAV} {r : Nat} {xx : Option zAV} {LL : zLo} (hn : zlongq x6 = false) (k : zE φ J E d m is (x0 :: x1 :: x2 :: x3 :: x4 :: x5 :: x6 :: some (.inr (.inr r)) :: LL) st s o) : zE φ J E d m ((9, pc, 7, b, v, tb) :: is) (x0 :: x1 :: x2 :: x3 :: x4 :: x5 :: x6 :: xx :: LL) (.inr (.inr r) :: st) s o := zE_p (by show 9 < 40; omega) (by show (if 7 < _ then some (zst1 _ _ _, st) else none) = _; rw [if_pos (by simp [List.length_cons]; try omega)]; unfold zst1; rw [zpre_of hn rfl]; rfl) k
theorem zq_10_7 {x0 x1 x2 x3 x4 x5 x6 : Option zAV} {LL : zLo} (hn : zlongq x6 = false) (k : zE φ J E d m is (x0 :: x1 :: x2 :: x3 :: x4 :: x5 :: x6 :: some (.inl (zadd y v)) :: LL) st s o) : zE φ J E d m ((10, pc, 7, b, v, tb) :: is) (x0 :: x1 :: x2 :: x3 :: x4 :: x5 :: x6 :: some (.inl y) :: LL) st s o := zE_p (by show 10 < 40; omega) (by show (if 7 < _ then some (zst1 _ _ _, st) else none) = _; rw [if_pos (by simp [List.length_cons]; try omega)]; unfold zst1; rw [zpre_of hn rfl]; rfl) k
theorem zq_4_8 {x0 x1 x2 x3 x4 x5 x6 x7 : Option zAV} {LL : zLo} (k : zE φ J E d m is (x0 :: x1 :: x2 :: x3 :: x4 :: x5 :: x6 :: x7 :: some (.inl y) :: LL) (.inl y :: st) s o) : zE φ J E d m ((4, pc, 8, b, v, tb) :: is) (x0 :: x1 :: x2 :: x3 :: x4 :: x5 :: x6 :: x7 :: some (.inl y) :: LL) st s o := zE_p (by show 4 < 40; omega) rfl k
theorem zq_5_8 {x0 x1 x2 x3 x4 x5 x6 x7 : Option zAV} {LL : zLo} (k : zE φ J E d m is (x0 :: x1 :: x2 :: x3 :: x4 :: x5 :: x6 :: x7 :: some (.inr (.inl y)) :: LL) (.inr (.inl y) :: st) s o) : zE φ J E d m ((5, pc, 8, b, v, tb) :: is) (x0 :: x1 :: x2 :: x3 :: x4 :: x5 :: x6 :: x7 :: some (.inr (.inl y)) :: LL) st s o := zE_p (by show 5 < 40; omega) rfl k
theorem zq_6_8 {x0 x1 x2 x3 x4 x5 x6 x7 : Option zAV} {r : Nat} {LL : zLo} (k : zE φ J E d m is (x0 :: x1 :: x2 :: x3 :: x4 :: x5 :: x6 :: x7 :: some (.inr (.inr r)) :: LL) (.inr (.inr r) :: st) s o) : zE φ J E d m ((6, pc, 8, b, v, tb) :: is) (x0 :: x1 :: x2 :: x3 :: x4 :: x5 :: x6 :: x7 :: some (.inr (.inr r)) :: LL) st s o := zE_p (by show 6 < 40; omega) rfl k
theorem zq_7_8 {x0 x1 x2 x3 x4 x5 x6 x7 : Option zAV} {xx : Option zAV} {LL : zLo} (hn : zlongq x7 = false) (k : zE φ J E d m is (x0 :: x1 :: x2 :: x3 :: x4 :: x5 :: x6 :: x7 :: some (.inl y) :: LL) st s o) : zE φ J E d m ((7, pc, 8, b, v, tb) :: is) (x0 :: x1 :: x2 :: x3 :: x4 :: x5 :: x6 :: x7 :: xx :: LL) (.inl y :: st) s o := zE_p (by show 7 < 40; omega) (by show (if 8 < _ then some (zst1 _ _ _, st) else none) = _; rw [if_pos (by simp [List.length_cons]; try omega)]; unfold zst1; rw [zpre_of hn rfl]; rfl) k
theorem zq_9_8 {x0 x1 x2 x3 x4 x5 x6 x7 : Option zAV} {r : Nat} {xx : Option zAV} {LL : zLo} (hn : zlongq x7 = false) (k : zE φ J E d m is (x0 :: x1 :: x2 :: x3 :: x4 :: x5 :: x6 :: x7 :: some (.inr (.inr r)) :: LL) st s o) : zE φ J E d m ((9, pc, 8, b, v, tb) :: is) (x0 :: x1 :: x2 :: x3 :: x4 :: x5 :: x6 :: x7 :: xx :: LL) (.inr (.inr r) :: st) s o := zE_p (by show 9 < 40; omega) (by show (if 8 < _ then some (zst1 _ _ _, st) else none) = _; rw [if_pos (by simp [List.length_cons]; try omega)]; unfold zst1; rw [zpre_of hn rfl]; rfl) k
theorem zq_10_8 {x0 x1 x2 x3 x4 x5 x6 x7 : Option zAV} {LL : zLo} (hn : zlongq x7 = false) (k : zE φ J E d m is (x0 :: x1 :: x2 :: x3 :: x4 :: x5 :: x6 :: x7 :: some (.inl (zadd y v)) :: LL) st s o) : zE φ J E d m ((10, pc, 8, b, v, tb) :: is) (x0 :: x1 :: x2 :: x3 :: x4 :: x5 :: x6 :: x7 :: some (.inl y) :: LL) st s o := zE_p (by show 10 < 40; omega) (by show (if 8 < _ then some (zst1 _ _ _, st) else none) = _; rw [if_pos (by simp [List.length_cons]; try omega)]; unfold zst1; rw [zpre_of hn rfl]; rfl) k
theorem zq_4_9 {x0 x1 x2 x3 x4 x5 x6 x7 x8 : Option zAV} {LL : zLo} (k : zE φ J E d m is (x0 :: x1 :: x2 :: x3 :: x4 :: x5 :: x6 :: x7 :: x8 :: some (.inl y) :: LL) (.inl y :: st) s o) : zE φ J E d m ((4, pc, 9, b, v, tb) :: is) (x0 :: x1 :: x2 :: x3 :: x4 :: x5 :: x6 :: x7 :: x8 :: some (.inl y) :: LL) st s o := zE_p (by show 4 < 40; omega) rfl k
theorem zq_5_9 {x0 x1 x2 x3 x4 x5 x6 x7 x8 : Option zAV} {LL : zLo} (k : zE φ J E d m is (x0 :: x1 :: x2 :: x3 :: x4 :: x5 :: x6 :: x7 :: x8 :: some (.inr (.inl y)) :: LL) (.inr (.inl y) :: st) s o) : zE φ J E d m ((5, pc, 9, b, v, tb) :: is) (x0 :: x1 :: x2 :: x3 :: x4 :: x5 :: x6 :: x7 :: x8 :: some (.inr (.inl y)) :: LL) st s o := zE_p (by show 5 < 40; omega) rfl k
theorem zq_6_9 {x0 x1 x2 x3 x4 x5 x6 x7 x8 : Option zAV} {r : Nat} {LL : zLo} (k : zE φ J E d m is (x0 :: x1 :: x2 :: x3 :: x4 :: x5 :: x6 :: x7 :: x8 :: some (.inr (.inr r)) :: LL) (.inr (.inr r) :: st) s o) : zE φ J E d m ((6, pc, 9, b, v, tb) :: is) (x0 :: x1 :: x2 :: x3 :: x4 :: x5 :: x6 :: x7 :: x8 :: some (.inr (.inr r)) :: LL) st s o := zE_p (by show 6 < 40; omega) rfl k
theorem zq_7_9 {x0 x1 x2 x3 x4 x5 x6 x7 x8 : Option zAV} {xx : Option zAV} {LL : zLo} (hn : zlongq x8 = false) (k : zE φ J E d m is (x0 :: x1 :: x2 :: x3 :: x4 :: x5 :: x6 :: x7 :: x8 :: some (.inl y) :: LL) st s o) : zE φ J E d m ((7, pc, 9, b, v, tb) :: is) (x0 :: x1 :: x2 :: x3 :: x4 :: x5 :: x6 :: x7 :: x8 :: xx :: LL) (.inl y :: st) s o := zE_p (by show 7 < 40; omega) (by show (if 9 < _ then some (zst1 _ _ _, st) else none) = _; rw [if_pos (by simp [List.length_cons]; try omega)]; unfold zst1; rw [zpre_of hn rfl]; rfl) k
theorem zq_9_9 {x0 x1 x2 x3 x4 x5 x6 x7 x8 : Option zAV} {r : Nat} {xx : Option zAV} {LL : zLo} (hn : zlongq x8 = false) (k : zE φ J E d m is (x0 :: x1 :: x2 :: x3 :: x4 :: x5 :: x6 :: x7 :: x8 :: some (.inr (.inr r)) :: LL) st s o) : zE φ J E d m ((9, pc, 9, b, v, tb) :: is) (x0 :: x1 :: x2 :: x3 :: x4 :: x5 :: x6 :: x7 :: x8 :: xx :: LL) (.inr (.inr r) :: st) s o := zE_p (by show 9 < 40; omega) (by show (if 9 < _ then some (zst1 _ _ _, st) else none) = _; rw [if_pos (by simp [List.length_cons]; try omega)]; unfold zst1; rw [zpre_of hn rfl]; rfl) k
theorem zq_10_9 {x0 x1 x2 x3 x4 x5 x6 x7 x8 : Option zAV} {LL : zLo} (hn : zlongq x8 = false) (k : zE φ J E d m is (x0 :: x1 :: x2 :: x3 :: x4 :: x5 :: x6 :: x7 :: x8 :: some (.inl (zadd y v)) :: LL) st s o) : zE φ J E d m ((10, pc, 9, b, v, tb) :: is) (x0 :: x1 :: x2 :: x3 :: x4 :: x5 :: x6 :: x7 :: x8 :: some (.inl y) :: LL) st s o := zE_p (by show 10 < 40; omega) (by show (if 9 < _ then some (zst1 _ _ _, st) else none) = _; rw [if_pos (by simp [List.length_cons]; try omega)]; unfold zst1; rw [zpre_of hn rfl]; rfl) k
theorem zq_4_10 {x0 x1 x2 x3 x4 x5 x6 x7 x8 x9 : Option zAV} {LL : zLo} (k : zE φ J E d m is (x0 :: x1 :: x2 :: x3 :: x4 :: x5 :: x6 :: x7 :: x8 :: x9 :: some (.inl y) :: LL) (.inl y :: st) s o) : zE φ J E d m ((4, pc, 10, b, v, tb) :: is) (x0 :: x1 :: x2 :: x3 :: x4 :: x5 :: x6 :: x7 :: x8 :: x9 :: some (.inl y) :: LL) st s o := zE_p (by show 4 < 40; omega) rfl k
theorem zq_5_10 {x0 x1 x2 x3 x4 x5 x6 x7 x8 x9 : Option zAV} {LL : zLo} (k : zE φ J E d m is (x0 :: x1 :: x2 :: x3 :: x4 :: x5 :: x6 :: x7 :: x8 :: x9 :: some (.inr (.inl y)) :: LL) (.inr (.inl y) :: st) s o) : zE φ J E d m ((5, pc, 10, b, v, tb) :: is) (x0 :: x1 :: x2 :: x3 :: x4 :: x5 :: x6 :: x7 :: x8 :: x9 :: some (.inr (.inl y)) :: LL) st s o := zE_p (by show 5 < 40; omega) rfl k
theorem zq_6_10 {x0 x1 x2 x3 x4 x5 x6 x7 x8 x9 : Option zAV} {r : Nat} {LL : zLo} (k : zE φ J E d m is (x0 :: x1 :: x2 :: x3 :: x4 :: x5 :: x6 :: x7 :: x8 :: x9 :: some (.inr (.inr r)) :: LL) (.inr (.inr r) :: st) s o) : zE φ J E d m ((6, pc, 10, b, v, tb) :: is) (x0 :: x1 :: x2 :: x3 :: x4 :: x5 :: x6 :: x7 :: x8 :: x9 :: some (.inr (.inr r)) :: LL) st s o := zE_p (by show 6 < 40; omega) rfl k
theorem zq_7_10 {x0 x1 x2 x3 x4 x5 x6 x7 x8 x9 : Option zAV} {xx : Option zAV} {LL : zLo} (hn : zlongq x9 = false) (k : zE φ J E d m is (x0 :: x1 :: x2 :: x3 :: x4 :: x5 :: x6 :: x7 :: x8 :: x9 :: some (.inl y) :: LL) st s o) : zE φ J E d m ((7, pc, 10, b, v, tb) :: is) (x0 :: x1 :: x2 :: x3 :: x4 :: x5 :: x6 :: x7 :: x8 :: x9 :: xx :: LL) (.inl y :: st) s o := zE_p (by show 7 < 40; omega) (by show (if 10 < _ then some (zst1 _ _ _, st) else none) = _; rw [if_pos (by simp [List.length_cons]; try omega)]; unfold zst1; rw [zpre_of hn rfl]; rfl) k
theorem zq_9_10 {x0 x1 x2 x3 x4 x5 x6 x7 x8 x9 : Option zAV} {r : Nat} {xx : Option zAV} {LL : zLo} (hn : zlongq x9 = false) (k : zE φ J E d m is (x0 :: x1 :: x2 :: x3 :: x4 :: x5 :: x6 :: x7 :: x8 :: x9 :: some (.inr (.inr r)) :: LL) st s o) : zE φ J E d m ((9, pc, 10, b, v, tb) :: is) (x0 :: x1 :: x2 :: x3 :: x4 :: x5 :: x6 :: x7 :: x8 :: x9 :: xx :: LL) (.inr (.inr r) :: st) s o := zE_p (by show 9 < 40; omega) (by show (if 10 < _ then some (zst1 _ _ _, st) else none) = _; rw [if_pos (by simp [List.length_cons]; try omega)]; unfold zst1; rw [zpre_of hn rfl]; rfl) k
theorem zq_10_10 {x0 x1 x2 x3 x4 x5 x6 x7 x8 x9 : Option zAV} {LL : zLo} (hn : zlongq x9 = false) (k : zE φ J E d m is (x0 :: x1 :: x2 :: x3 :: x4 :: x5 :: x6 :: x7 :: x8 :: x9 :: some (.inl (zadd y v)) :: LL) st s o) : zE φ J E d m ((10, pc, 10, b, v, tb) :: is) (x0 :: x1 :: x2 :: x3 :: x4 :: x5 :: x6 :: x7 :: x8 :: x9 :: some (.inl y) :: LL) st s o := zE_p (by show 10 < 40; omega) (by show (if 10 < _ then some (zst1 _ _ _, st) else none) = _; rw [if_pos (by simp [List.length_cons]; try omega)]; unfold zst1; rw [zpre_of hn rfl]; rfl) k
theorem zq_4_11 {x0 x1 x2 x3 x4 x5 x6 x7 x8 x9 x10 : Option zAV} {LL : zLo} (k : zE φ J E d m is (x0 :: x1 :: x2 :: x3 :: x4 :: x5 :: x6 :: x7 :: x8 :: x9 :: x10 :: some (.inl y) :: LL) (.inl y :: st) s o) : zE φ J E d m ((4, pc, 11, b, v, tb) :: is) (x0 :: x1 :: x2 :: x3 :: x4 :: x5 :: x6 :: x7 :: x8 :: x9 :: x10 :: some (.inl y) :: LL) st s o := zE_p (by show 4 < 40; omega) rfl k
theorem zq_5_11 {x0 x1 x2 x3 x4 x5 x6 x7 x8 x9 x10 : Option zAV} {LL : zLo} (k : zE φ J E d m is (x0 :: x1 :: x2 :: x3 :: x4 :: x5 :: x6 :: x7 :: x8 :: x9 :: x10 :: some (.inr (.inl y)) :: LL) (.inr (.inl y) :: st) s o) : zE φ J E d m ((5, pc, 11, b, v, tb) :: is) (x0 :: x1 :: x2 :: x3 :: x4 :: x5 :: x6 :: x7 :: x8 :: x9 :: x10 :: some (.inr (.inl y)) :: LL) st s o := zE_p (by show 5 < 40; omega) rfl k
theorem zq_6_11 {x0 x1 x2 x3 x4 x5 x6 x7 x8 x9 x10 : Option zAV} {r : Nat} {LL : zLo} (k : zE φ J E d m is (x0 :: x1 :: x2 :: x3 :: x4 :: x5 :: x6 :: x7 :: x8 :: x9 :: x10 :: some (.inr (.inr r)) :: LL) (.inr (.inr r) :: st) s o) : zE φ J E d m ((6, pc, 11, b, v, tb) :: is) (x0 :: x1 :: x2 :: x3 :: x4 :: x5 :: x6 :: x7 :: x8 :: x9 :: x10 :: some (.inr (.inr r)) :: LL) st s o := zE_p (by show 6 < 40; omega) rfl k
theorem zq_7_11 {x0 x1 x2 x3 x4 x5 x6 x7 x8 x9 x10 : Option zAV} {xx : Option zAV} {LL : zLo} (hn : zlongq x10 = false) (k : zE φ J E d m is (x0 :: x1 :: x2 :: x3 :: x4 :: x5 :: x6 :: x7 :: x8 :: x9 :: x10 :: some (.inl y) :: LL) st s o) : zE φ J E d m ((7, pc, 11, b, v, tb) :: is) (x0 :: x1 :: x2 :: x3 :: x4 :: x5 :: x6 :: x7 :: x8 :: x9 :: x10 :: xx :: LL) (.inl y :: st) s o := zE_p (by show 7 < 40; omega) (by show (if 11 < _ then some (zst1 _ _ _, st) else none) = _; rw [if_pos (by simp [List.length_cons]; try omega)]; unfold zst1; rw [zpre_of hn rfl]; rfl) k
theorem zq_9_11 {x0 x1 x2 x3 x4 x5 x6 x7 x8 x9 x10 : Option zAV} {r : Nat} {xx : Option zAV} {LL : zLo} (hn : zlongq x10 = false) (k : zE φ J E d m is (x0 :: x1 :: x2 :: x3 :: x4 :: x5 :: x6 :: x7 :: x8 :: x9 :: x10 :: some (.inr (.inr r)) :: LL) st s o) : zE φ J E d m ((9, pc, 11, b, v, tb) :: is) (x0 :: x1 :: x2 :: x3 :: x4 :: x5 :: x6 :: x7 :: x8 :: x9 :: x10 :: xx :: LL) (.inr (.inr r) :: st) s o := zE_p (by show 9 < 40; omega) (by show (if 11 < _ then some (zst1 _ _ _, st) else none) = _; rw [if_pos (by simp [List.length_cons]; try omega)]; unfold zst1; rw [zpre_of hn rfl]; rfl) k
theorem zq_10_11 {x0 x1 x2 x3 x4 x5 x6 x7 x8 x9 x10 : Option zAV} {LL : zLo} (hn : zlongq x10 = false) (k : zE φ J E d m is (x0 :: x1 :: x2 :: x3 :: x4 :: x5 :: x6 :: x7 :: x8 :: x9 :: x10 :: some (.inl (zadd y v)) :: LL) st s o) : zE φ J E d m ((10, pc, 11, b, v, tb) :: is) (x0 :: x1 :: x2 :: x3 :: x4 :: x5 :: x6 :: x7 :: x8 :: x9 :: x10 :: some (.inl y) :: LL) st s o := zE_p (by show 10 < 40; omega) (by show (if 11 < _ then some (zst1 _ _ _, st) else none) = _; rw [if_pos (by simp [List.length_cons]; try omega)]; unfold zst1; rw [zpre_of hn rfl]; rfl) k
theorem zq_4_12 {x0 x1 x2 x3 x4 x5 x6 x7 x8 x9 x10 x11 : Option zAV} {LL : zLo} (k : zE φ J E d m is (x0 :: x1 :: x2 :: x3 :: x4 :: x5 :: x6 :: x7 :: x8 :: x9 :: x10 :: x11 :: some (.inl y) :: LL) (.inl y :: st) s o) : zE φ J E d m ((4, pc, 12, b, v, tb) :: is) (x0 :: x1 :: x2 :: x3 :: x4 :: x5 :: x6 :: x7 :: x8 :: x9 :: x10 :: x11 :: some (.inl y) :: LL) st s o := zE_p (by show 4 < 40; omega) rfl k
theorem zq_5_12 {x0 x1 x2 x3 x4 x5 x6 x7 x8 x9 x10 x11 : Option zAV} {LL : zLo} (k : zE φ J E d m is (x0 :: x1 :: x2 :: x3 :: x4 :: x5 :: x6 :: x7 :: x8 :: x9 :: x10 :: x11 :: some (.inr (.inl y)) :: LL) (.inr (.inl y) :: st) s o) : zE φ J E d m ((5, pc, 12, b, v, tb) :: is) (x0 :: x1 :: x2 :: x3 :: x4 :: x5 :: x6 :: x7 :: x8 :: x9 :: x10 :: x11 :: some (.inr (.inl y)) :: LL) st s o := zE_p (by show 5 < 40; omega) rfl k
theorem zq_6_12 {x0 x1 x2 x3 x4 x5 x6 x7 x8 x9 x10 x11 : Option zAV} {r : Nat} {LL : zLo} (k : zE φ J E d m is (x0 :: x1 :: x2 :: x3 :: x4 :: x5 :: x6 :: x7 :: x8 :: x9 :: x10 :: x11 :: some (.inr (.inr r)) :: LL) (.inr (.inr r) :: st) s o) : zE φ J E d m ((6, pc, 12, b, v, tb) :: is) (x0 :: x1 :: x2 :: x3 :: x4 :: x5 :: x6 :: x7 :: x8 :: x9 :: x10 :: x11 :: some (.inr (.inr r)) :: LL) st s o := zE_p (by show 6 < 40; omega) rfl k
theorem zq_7_12 {x0 x1 x2 x3 x4 x5 x6 x7 x8 x9 x10 x11 : Option zAV} {xx : Option zAV} {LL : zLo} (hn : zlongq x11 = false) (k : zE φ J E d m is (x0 :: x1 :: x2 :: x3 :: x4 :: x5 :: x6 :: x7 :: x8 :: x9 :: x10 :: x11 :: some (.inl y) :: LL) st s o) : zE φ J E d m ((7, pc, 12, b, v, tb) :: is) (x0 :: x1 :: x2 :: x3 :: x4 :: x5 :: x6 :: x7 :: x8 :: x9 :: x10 :: x11 :: xx :: LL) (.inl y :: st) s o := zE_p (by show 7 < 40; omega) (by show (if 12 < _ then some (zst1 _ _ _, st) else none) = _; rw [if_pos (by simp [List.length_cons]; try omega)]; unfold zst1; rw [zpre_of hn rfl]; rfl) k
theorem zq_9_12 {x0 x1 x2 x3 x4 x5 x6 x7 x8 x9 x10 x11 : Option zAV} {r : Nat} {xx : Option zAV} {LL : zLo} (hn : zlongq x11 = false) (k : zE φ J E d m is (x0 :: x1 :: x2 :: x3 :: x4 :: x5 :: x6 :: x7 :: x8 :: x9 :: x10 :: x11 :: some (.inr (.inr r)) :: LL) st s o) : zE φ J E d m ((9, pc, 12, b, v, tb) :: is) (x0 :: x1 :: x2 :: x3 :: x4 :: x5 :: x6 :: x7 :: x8 :: x9 :: x10 :: x11 :: xx :: LL) (.inr (.inr r) :: st) s o := zE_p (by show 9 < 40; omega) (by show (if 12 < _ then some (zst1 _ _ _, st) else none) = _; rw [if_pos (by simp [List.length_cons]; try omega)]; unfold zst1; rw [zpre_of hn rfl]; rfl) k
theorem zq_10_12 {x0 x1 x2 x3 x4 x5 x6 x7 x8 x9 x10 x11 : Option zAV} {LL : zLo} (hn : zlongq x11 = false) (k : zE φ J E d m is (x0 :: x1 :: x2 :: x3 :: x4 :: x5 :: x6 :: x7 :: x8 :: x9 :: x10 :: x11 :: some (.inl (zadd y v)) :: LL) st s o) : zE φ J E d m ((10, pc, 12, b, v, tb) :: is) (x0 :: x1 :: x2 :: x3 :: x4 :: x5 :: x6 :: x7 :: x8 :: x9 :: x10 :: x11 :: some (.inl y) :: LL) st s o := zE_p (by show 10 < 40; omega) (by show (if 12 < _ then some (zst1 _ _ _, st) else none) = _; rw [if_pos (by simp [List.length_cons]; try omega)]; unfold zst1; rw [zpre_of hn rfl]; rfl) k
theorem zq_4_13 {x0 x1 x2 x3 x4 x5 x6 x7 x8 x9 x10 x11 x12 : Option zAV} {LL : zLo} (k : zE φ J E d m is (x0 :: x1 :: x2 :: x3 :: x4 :: x5 :: x6 :: x7 :: x8 :: x9 :: x10 :: x11 :: x12 :: some (.inl y) :: LL) (.inl y :: st) s o) : zE φ J E d m ((4, pc, 13, b, v, tb) :: is) (x0 :: x1 :: x2 :: x3 :: x4 :: x5 :: x6 :: x7 :: x8 :: x9 :: x10 :: x11 :: x12 :: some (.inl y) :: LL) st s o := zE_p (by show 4 < 40; omega) rfl k
theorem zq_5_13 {x0 x1 x2 x3 x4 x5 x6 x7 x8 x9 x10 x11 x12 : Option zAV} {LL : zLo} (k : zE φ J E d m is (x0 :: x1 :: x2 :: x3 :: x4 :: x5 :: x6 :: x7 :: x8 :: x9 :: x10 :: x11 :: x12 :: some (.inr (.inl y)) :: LL) (.inr (.inl y) :: st) s o) : zE φ J E d m ((5, pc, 13, b, v, tb) :: is) (x0 :: x1 :: x2 :: x3 :: x4 :: x5 :: x6 :: x7 :: x8 :: x9 :: x10 :: x11 :: x12 :: some (.inr (.inl y)) :: LL) st s o := zE_p (by show 5 < 40; omega) rfl k
theorem zq_6_13 {x0 x1 x2 x3 x4 x5 x6 x7 x8 x9 x10 x11 x12 : Option zAV} {r : Nat} {LL : zLo} (k : zE φ J E d m is (x0 :: x1 :: x2 :: x3 :: x4 :: x5 :: x6 :: x7 :: x8 :: x9 :: x10 :: x11 :: x12 :: some (.inr (.inr r)) :: LL) (.inr (.inr r) :: st) s o) : zE φ J E d m ((6, pc, 13, b, v, tb) :: is) (x0 :: x1 :: x2 :: x3 :: x4 :: x5 :: x6 :: x7 :: x8 :: x9 :: x10 :: x11 :: x12 :: some (.inr (.inr r)) :: LL) st s o := zE_p (by show 6 < 40; omega) rfl k
theorem zq_7_13 {x0 x1 x2 x3 x4 x5 x6 x7 x8 x9 x10 x11 x12 : Option zAV} {xx : Option zAV} {LL : zLo} (hn : zlongq x12 = false) (k : zE φ J E d m is (x0 :: x1 :: x2 :: x3 :: x4 :: x5 :: x6 :: x7 :: x8 :: x9 :: x10 :: x11 :: x12 :: some (.inl y) :: LL) st s o) : zE φ J E d m ((7, pc, 13, b, v, tb) :: is) (x0 :: x1 :: x2 :: x3 :: x4 :: x5 :: x6 :: x7 :: x8 :: x9 :: x10 :: x11 :: x12 :: xx :: LL) (.inl y :: st) s o := zE_p (by show 7 < 40; omega) (by show (if 13 < _ then some (zst1 _ _ _, st) else none) = _; rw [if_pos (by simp [List.length_cons]; try omega)]; unfold zst1; rw [zpre_of hn rfl]; rfl) k
theorem zq_9_13 {x0 x1 x2 x3 x4 x5 x6 x7 x8 x9 x10 x11 x12 : Option zAV} {r : Nat} {xx : Option zAV} {LL : zLo} (hn : zlongq x12 = false) (k : zE φ J E d m is (x0 :: x1 :: x2 :: x3 :: x4 :: x5 :: x6 :: x7 :: x8 :: x9 :: x10 :: x11 :: x12 :: some (.inr (.inr r)) :: LL) st s o) : zE φ J E d m ((9, pc, 13, b, v, tb) :: is) (x0 :: x1 :: x2 :: x3 :: x4 :: x5 :: x6 :: x7 :: x8 :: x9 :: x10 :: x11 :: x12 :: xx :: LL) (.inr (.inr r) :: st) s o := zE_p (by show 9 < 40; omega) (by show (if 13 < _ then some (zst1 _ _ _, st) else none) = _; rw [if_pos (by simp [List.length_cons]; try omega)]; unfold zst1; rw [zpre_of hn rfl]; rfl) k
theorem zq_10_13 {x0 x1 x2 x3 x4 x5 x6 x7 x8 x9 x10 x11 x12 : Option zAV} {LL : zLo} (hn : zlongq x12 = false) (k : zE φ J E d m is (x0 :: x1 :: x2 :: x3 :: x4 :: x5 :: x6 :: x7 :: x8 :: x9 :: x10 :: x11 :: x12 :: some (.inl (zadd y v)) :: LL) st s o) : zE φ J E d m ((10, pc, 13, b, v, tb) :: is) (x0 :: x1 :: x2 :: x3 :: x4 :: x5 :: x6 :: x7 :: x8 :: x9 :: x10 :: x11 :: x12 :: some (.inl y) :: LL) st s o := zE_p (by show 10 < 40; omega) (by show (if 13 < _ then some (zst1 _ _ _, st) else none) = _; rw [if_pos (by simp [List.length_cons]; try omega)]; unfold zst1; rw [zpre_of hn rfl]; rfl) k
theorem zq_8_2 {x0 x1 : Option zAV} {xx xy : Option zAV} {LL : zLo} (hn : zlongq x1 = false) (k : zE φ J E d m is (x0 :: x1 :: some (.inr (.inl y)) :: none :: LL) st s o) : zE φ J E d m ((8, pc, 2, b, v, tb) :: is) (x0 :: x1 :: xx :: xy :: LL) (.inr (.inl y) :: st) s o := zE_p (by show 8 < 40; omega) (by show (if 2 + 1 < _ then some (zst2 _ _ _, st) else none) = _; rw [if_pos (by simp [List.length_cons]; try omega)]; unfold zst2; rw [zpre_of hn rfl]; rfl) k
theorem zq_8_3 {x0 x1 x2 : Option zAV} {xx xy : Option zAV} {LL : zLo} (hn : zlongq x2 = false) (k : zE φ J E d m is (x0 :: x1 :: x2 :: some (.inr (.inl y)) :: none :: LL) st s o) : zE φ J E d m ((8, pc, 3, b, v, tb) :: is) (x0 :: x1 :: x2 :: xx :: xy :: LL) (.inr (.inl y) :: st) s o := zE_p (by show 8 < 40; omega) (by show (if 3 + 1 < _ then some (zst2 _ _ _, st) else none) = _; rw [if_pos (by simp [List.length_cons]; try omega)]; unfold zst2; rw [zpre_of hn rfl]; rfl) k
theorem zq_8_4 {x0 x1 x2 x3 : Option zAV} {xx xy : Option zAV} {LL : zLo} (hn : zlongq x3 = false) (k : zE φ J E d m is (x0 :: x1 :: x2 :: x3 :: some (.inr (.inl y)) :: none :: LL) st s o) : zE φ J E d m ((8, pc, 4, b, v, tb) :: is) (x0 :: x1 :: x2 :: x3 :: xx :: xy :: LL) (.inr (.inl y) :: st) s o := zE_p (by show 8 < 40; omega) (by show (if 4 + 1 < _ then some (zst2 _ _ _, st) else none) = _; rw [if_pos (by simp [List.length_cons]; try omega)]; unfold zst2; rw [zpre_of hn rfl]; rfl) k
theorem zq_8_5 {x0 x1 x2 x3 x4 : Option zAV} {xx xy : Option zAV} {LL : zLo} (hn : zlongq x4 = false) (k : zE φ J E d m is (x0 :: x1 :: x2 :: x3 :: x4 :: some (.inr (.inl y)) :: none :: LL) st s o) : zE φ J E d m ((8, pc, 5, b, v, tb) :: is) (x0 :: x1 :: x2 :: x3 :: x4 :: xx :: xy :: LL) (.inr (.inl y) :: st) s o := zE_p (by show 8 < 40; omega) (by show (if 5 + 1 < _ then some (zst2 _ _ _, st) else none) = _; rw [if_pos (by simp [List.length_cons]; try omega)]; unfold zst2; rw [zpre_of hn rfl]; rfl) k
theorem zq_8_6 {x0 x1 x2 x3 x4 x5 : Option zAV} {xx xy : Option zAV} {LL : zLo} (hn : zlongq x5 = false) (k : zE φ J E d m is (x0 :: x1 :: x2 :: x3 :: x4 :: x5 :: some (.inr (.inl y)) :: none :: LL) st s o) : zE φ J E d m ((8, pc, 6, b, v, tb) :: is) (x0 :: x1 :: x2 :: x3 :: x4 :: x5 :: xx :: xy :: LL) (.inr (.inl y) :: st) s o := zE_p (by show 8 < 40; omega) (by show (if 6 + 1 < _ then some (zst2 _ _ _, st) else none) = _; rw [if_pos (by simp [List.length_cons]; try omega)]; unfold zst2; rw [zpre_of hn rfl]; rfl) k
theorem zq_8_7 {x0 x1 x2 x3 x4 x5 x6 : Option zAV} {xx xy : Option zAV} {LL : zLo} (hn : zlongq x6 = false) (k : zE φ J E d m is (x0 :: x1 :: x2 :: x3 :: x4 :: x5 :: x6 :: some (.inr (.inl y)) :: none :: LL) st s o) : zE φ J E d m ((8, pc, 7, b, v, tb) :: is) (x0 :: x1 :: x2 :: x3 :: x4 :: x5 :: x6 :: xx :: xy :: LL) (.inr (.inl y) :: st) s o := zE_p (by show 8 < 40; omega) (by show (if 7 + 1 < _ then some (zst2 _ _ _, st) else none) = _; rw [if_pos (by simp [List.length_cons]; try omega)]; unfold zst2; rw [zpre_of hn rfl]; rfl) k
theorem zq_8_8 {x0 x1 x2 x3 x4 x5 x6 x7 : Option zAV} {xx xy : Option zAV} {LL : zLo} (hn : zlongq x7 = false) (k : zE φ J E d m is (x0 :: x1 :: x2 :: x3 :: x4 :: x5 :: x6 :: x7 :: some (.inr (.inl y)) :: none :: LL) st s o) : zE φ J E d m ((8, pc, 8, b, v, tb) :: is) (x0 :: x1 :: x2 :: x3 :: x4 :: x5 :: x6 :: x7 :: xx :: xy :: LL) (.inr (.inl y) :: st) s o := zE_p (by show 8 < 40; omega) (by show (if 8 + 1 < _ then some (zst2 _ _ _, st) else none) = _; rw [if_pos (by simp [List.length_cons]; try omega)]; unfold zst2; rw [zpre_of hn rfl]; rfl) k
theorem zq_8_9 {x0 x1 x2 x3 x4 x5 x6 x7 x8 : Option zAV} {xx xy : Option zAV} {LL : zLo} (hn : zlongq x8 = false) (k : zE φ J E d m is (x0 :: x1 :: x2 :: x3 :: x4 :: x5 :: x6 :: x7 :: x8 :: some (.inr (.inl y)) :: none :: LL) st s o) : zE φ J E d m ((8, pc, 9, b, v, tb) :: is) (x0 :: x1 :: x2 :: x3 :: x4 :: x5 :: x6 :: x7 :: x8 :: xx :: xy :: LL) (.inr (.inl y) :: st) s o := zE_p (by show 8 < 40; omega) (by show (if 9 + 1 < _ then some (zst2 _ _ _, st) else none) = _; rw [if_pos (by simp [List.length_cons]; try omega)]; unfold zst2; rw [zpre_of hn rfl]; rfl) k
theorem zq_11 (k : zE φ J E d m is L (.inl (zadd x y) :: st) s o) : zE φ J E d m ((11, pc, a, b, v, tb) :: is) L (.inl y :: .inl x :: st) s o := zE_p (by show 11 < 40; omega) rfl k
theorem zq_12 (k : zE φ J E d m is L (.inl (zsub x y) :: st) s o) : zE φ J E d m ((12, pc, a, b, v, tb) :: is) L (.inl y :: .inl x :: st) s o := zE_p (by show 12 < 40; omega) rfl k
theorem zq_13 (k : zE φ J E d m is L (.inl (zmul x y) :: st) s o) : zE φ J E d m ((13, pc, a, b, v, tb) :: is) L (.inl y :: .inl x :: st) s o := zE_p (by show 13 < 40; omega) rfl k
theorem zq_17 (k : zE φ J E d m is L (.inl (zshl x y) :: st) s o) : zE φ J E d m ((17, pc, a, b, v, tb) :: is) L (.inl y :: .inl x :: st) s o := zE_p (by show 17 < 40; omega) rfl k
theorem zq_18 (k : zE φ J E d m is L (.inl (zshr x y) :: st) s o) : zE φ J E d m ((18, pc, a, b, v, tb) :: is) L (.inl y :: .inl x :: st) s o := zE_p (by show 18 < 40; omega) rfl k
theorem zq_19 (k : zE φ J E d m is L (.inl (zushr x y) :: st) s o) : zE φ J E d m ((19, pc, a, b, v, tb) :: is) L (.inl y :: .inl x :: st) s o := zE_p (by show 19 < 40; omega) rfl k
theorem zq_20 (k : zE φ J E d m is L (.inl (zand x y) :: st) s o) : zE φ J E d m ((20, pc, a, b, v, tb) :: is) L (.inl y :: .inl x :: st) s o := zE_p (by show 20 < 40; omega) rfl k
theorem zq_21 (k : zE φ J E d m is L (.inl (zor x y) :: st) s o) : zE φ J E d m ((21, pc, a, b, v, tb) :: is) L (.inl y :: .inl x :: st) s o := zE_p (by show 21 < 40; omega) rfl k
theorem zq_22 (k : zE φ J E d m is L (.inl (zxor x y) :: st) s o) : zE φ J E d m ((22, pc, a, b, v, tb) :: is) L (.inl y :: .inl x :: st) s o := zE_p (by show 22 < 40; omega) rfl k
theorem zq_16 (k : zE φ J E d m is L (.inl (zneg x) :: st) s o) : zE φ J E d m ((16, pc, a, b, v, tb) :: is) L (.inl x :: st) s o := zE_p (by show 16 < 40; omega) rfl k
theorem zq_23 (k : zE φ J E d m is L (.inr (.inl (zi2l x)) :: st) s o) : zE φ J E d m ((23, pc, a, b, v, tb) :: is) L (.inl x :: st) s o := zE_p (by show 23 < 40; omega) rfl k
theorem zq_25 (k : zE φ J E d m is L (.inl (zi2b x) :: st) s o) : zE φ J E d m ((25, pc, a, b, v, tb) :: is) L (.inl x :: st) s o := zE_p (by show 25 < 40; omega) rfl k
theorem zq_26 (k : zE φ J E d m is L (.inl (zi2s x) :: st) s o) : zE φ J E d m ((26, pc, a, b, v, tb) :: is) L (.inl x :: st) s o := zE_p (by show 26 < 40; omega) rfl k
theorem zq_27 (k : zE φ J E d m is L (.inl (zi2c x) :: st) s o) : zE φ J E d m ((27, pc, a, b, v, tb) :: is) L (.inl x :: st) s o := zE_p (by show 27 < 40; omega) rfl k
theorem zq_24 (k : zE φ J E d m is L (.inl (zl2i x) :: st) s o) : zE φ J E d m ((24, pc, a, b, v, tb) :: is) L (.inr (.inl x) :: st) s o := zE_p (by show 24 < 40; omega) rfl k
theorem zq_28 (k : zE φ J E d m is L (.inr (.inl (zladd x y)) :: st) s o) : zE φ J E d m ((28, pc, a, b, v, tb) :: is) L (.inr (.inl y) :: .inr (.inl x) :: st) s o := zE_p (by show 28 < 40; omega) rfl k
theorem zq_29 (k : zE φ J E d m is L (.inr (.inl (zlmul x y)) :: st) s o) : zE φ J E d m ((29, pc, a, b, v, tb) :: is) L (.inr (.inl y) :: .inr (.inl x) :: st) s o := zE_p (by show 29 < 40; omega) rfl k
theorem zq_31 (k : zE φ J E d m is L (.inl (zlcmp x y) :: st) s o) : zE φ J E d m ((31, pc, a, b, v, tb) :: is) L (.inr (.inl y) :: .inr (.inl x) :: st) s o := zE_p (by show 31 < 40; omega) rfl k
theorem zq_14 (k : zE φ J E d m is L (.inl (zdiv x y) :: st) s o) : zE φ J E d m ((14, pc, a, b, v, tb) :: is) L (.inl y :: .inl x :: st) s (ydv y o) := by
  unfold ydv
  by_cases h : y = 0
  · rw [if_pos h]; exact zE_none
  · rw [if_neg h]; exact zE_p (by show 14 < 40; omega) (by show (if y = 0 then none else some _) = _; rw [if_neg h]) k
theorem zq_14c (h : y ≠ 0) (k : zE φ J E d m is L (.inl (zdiv x y) :: st) s o) : zE φ J E d m ((14, pc, a, b, v, tb) :: is) L (.inl y :: .inl x :: st) s o := zE_p (by show 14 < 40; omega) (by show (if y = 0 then none else some _) = _; rw [if_neg h]) k
theorem zq_15 (k : zE φ J E d m is L (.inl (zrem x y) :: st) s o) : zE φ J E d m ((15, pc, a, b, v, tb) :: is) L (.inl y :: .inl x :: st) s (ydv y o) := by
  unfold ydv
  by_cases h : y = 0
  · rw [if_pos h]; exact zE_none
  · rw [if_neg h]; exact zE_p (by show 15 < 40; omega) (by show (if y = 0 then none else some _) = _; rw [if_neg h]) k
theorem zq_15c (h : y ≠ 0) (k : zE φ J E d m is L (.inl (zrem x y) :: st) s o) : zE φ J E d m ((15, pc, a, b, v, tb) :: is) L (.inl y :: .inl x :: st) s o := zE_p (by show 15 < 40; omega) (by show (if y = 0 then none else some _) = _; rw [if_neg h]) k
theorem zq_30 (k : zE φ J E d m is L (.inr (.inl (zldiv x y)) :: st) s o) : zE φ J E d m ((30, pc, a, b, v, tb) :: is) L (.inr (.inl y) :: .inr (.inl x) :: st) s (ydv y o) := by
  unfold ydv
  by_cases h : y = 0
  · rw [if_pos h]; exact zE_none
  · rw [if_neg h]; exact zE_p (by show 30 < 40; omega) (by show (if y = 0 then none else some _) = _; rw [if_neg h]) k
theorem zq_30c (h : y ≠ 0) (k : zE φ J E d m is L (.inr (.inl (zldiv x y)) :: st) s o) : zE φ J E d m ((30, pc, a, b, v, tb) :: is) L (.inr (.inl y) :: .inr (.inl x) :: st) s o := zE_p (by show 30 < 40; omega) (by show (if y = 0 then none else some _) = _; rw [if_neg h]) k
theorem zq_32 (k : zE φ J E d m is L (.inl x :: .inl x :: st) s o) : zE φ J E d m ((32, pc, a, b, v, tb) :: is) L (.inl x :: st) s o := zE_p (by show 32 < 40; omega) rfl k
theorem zq_33 {r : Nat} (k : zE φ J E d m is L (.inr (.inr r) :: .inr (.inr r) :: st) s o) : zE φ J E d m ((33, pc, a, b, v, tb) :: is) L (.inr (.inr r) :: st) s o := zE_p (by show 33 < 40; omega) rfl k
theorem zq_34 {r : Nat} (k : zE φ J E d m is L (.inl y :: .inr (.inr r) :: .inl y :: .inr (.inr r) :: st) s o) : zE φ J E d m ((34, pc, a, b, v, tb) :: is) L (.inl y :: .inr (.inr r) :: st) s o := zE_p (by show 34 < 40; omega) rfl k
theorem zq_35 (k : zE φ J E d m is L st s o) : zE φ J E d m ((35, pc, a, b, v, tb) :: is) L (.inl x :: st) s o := zE_p (by show 35 < 40; omega) rfl k
theorem zq_36 (h : zle4 st = true) (k : zE φ J E d m is L (.inl (zmax x y) :: st) s o) : zE φ J E d m ((36, pc, a, b, v, tb) :: is) L (.inl y :: .inl x :: st) s o := zE_p (by show 36 < 40; omega) (by show (if st.length ≤ 4 then some _ else none) = _; rw [if_pos (zle4_of h)]) k
theorem zq_37 (h : zle4 st = true) (k : zE φ J E d m is L (.inl (zmin x y) :: st) s o) : zE φ J E d m ((37, pc, a, b, v, tb) :: is) L (.inl y :: .inl x :: st) s o := zE_p (by show 37 < 40; omega) (by show (if st.length ≤ 4 then some _ else none) = _; rw [if_pos (zle4_of h)]) k
theorem zq_40 (k1 : zE φ J E d m (zB m a) L st s o1) (k2 : zE φ J E d m is L st s o2) : zE φ J E d m ((40, pc, a, b, v, tb) :: is) L (.inl x :: st) s (if x = 0 then o1 else o2) := by
  by_cases h : x = 0
  · rw [if_pos h]; exact zE_b (b := some a) (by show ¬ 40 < 40; omega) (by show 40 < 60; omega) (by show some (if x = 0 then some a else none, st) = _; rw [if_pos h]) k1
  · rw [if_neg h]; exact zE_b (b := none) (by show ¬ 40 < 40; omega) (by show 40 < 60; omega) (by show some (if x = 0 then some a else none, st) = _; rw [if_neg h]) k2
theorem zq_41 (k1 : zE φ J E d m is L st s o1) (k2 : zE φ J E d m (zB m a) L st s o2) : zE φ J E d m ((41, pc, a, b, v, tb) :: is) L (.inl x :: st) s (if x = 0 then o1 else o2) := by
  by_cases h : x = 0
  · rw [if_pos h]; exact zE_b (b := none) (by show ¬ 41 < 40; omega) (by show 41 < 60; omega) (by show some (if x = 0 then none else some a, st) = _; rw [if_pos h]) k1
  · rw [if_neg h]; exact zE_b (b := some a) (by show ¬ 41 < 40; omega) (by show 41 < 60; omega) (by show some (if x = 0 then none else some a, st) = _; rw [if_neg h]) k2
theorem zq_42 (k1 : zE φ J E d m (zB m a) L st s o1) (k2 : zE φ J E d m is L st s o2) : zE φ J E d m ((42, pc, a, b, v, tb) :: is) L (.inl x :: st) s (if x < 0 then o1 else o2) := by
  by_cases h : x < 0
  · rw [if_pos h]; exact zE_b (b := some a) (by show ¬ 42 < 40; omega) (by show 42 < 60; omega) (by show some (if x < 0 then some a else none, st) = _; rw [if_pos h]) k1
  · rw [if_neg h]; exact zE_b (b := none) (by show ¬ 42 < 40; omega) (by show 42 < 60; omega) (by show some (if x < 0 then some a else none, st) = _; rw [if_neg h]) k2
theorem zq_43 (k1 : zE φ J E d m is L st s o1) (k2 : zE φ J E d m (zB m a) L st s o2) : zE φ J E d m ((43, pc, a, b, v, tb) :: is) L (.inl x :: st) s (if x < 0 then o1 else o2) := by
  by_cases h : x < 0
  · rw [if_pos h]; exact zE_b (b := none) (by show ¬ 43 < 40; omega) (by show 43 < 60; omega) (by show some (if x < 0 then none else some a, st) = _; rw [if_pos h]) k1
  · rw [if_neg h]; exact zE_b (b := some a) (by show ¬ 43 < 40; omega) (by show 43 < 60; omega) (by show some (if x < 0 then none else some a, st) = _; rw [if_neg h]) k2
theorem zq_44 (k1 : zE φ J E d m (zB m a) L st s o1) (k2 : zE φ J E d m is L st s o2) : zE φ J E d m ((44, pc, a, b, v, tb) :: is) L (.inl x :: st) s (if 0 < x then o1 else o2) := by
  by_cases h : 0 < x
  · rw [if_pos h]; exact zE_b (b := some a) (by show ¬ 44 < 40; omega) (by show 44 < 60; omega) (by show some (if 0 < x then some a else none, st) = _; rw [if_pos h]) k1
  · rw [if_neg h]; exact zE_b (b := none) (by show ¬ 44 < 40; omega) (by show 44 < 60; omega) (by show some (if 0 < x then some a else none, st) = _; rw [if_neg h]) k2
theorem zq_45 (k1 : zE φ J E d m is L st s o1) (k2 : zE φ J E d m (zB m a) L st s o2) : zE φ J E d m ((45, pc, a, b, v, tb) :: is) L (.inl x :: st) s (if 0 < x then o1 else o2) := by
  by_cases h : 0 < x
  · rw [if_pos h]; exact zE_b (b := none) (by show ¬ 45 < 40; omega) (by show 45 < 60; omega) (by show some (if 0 < x then none else some a, st) = _; rw [if_pos h]) k1
  · rw [if_neg h]; exact zE_b (b := some a) (by show ¬ 45 < 40; omega) (by show 45 < 60; omega) (by show some (if 0 < x then none else some a, st) = _; rw [if_neg h]) k2
theorem zq_46 (k1 : zE φ J E d m (zB m a) L st s o1) (k2 : zE φ J E d m is L st s o2) : zE φ J E d m ((46, pc, a, b, v, tb) :: is) L (.inl y :: .inl x :: st) s (if x = y then o1 else o2) := by
  by_cases h : x = y
  · rw [if_pos h]; exact zE_b (b := some a) (by show ¬ 46 < 40; omega) (by show 46 < 60; omega) (by show some (if x = y then some a else none, st) = _; rw [if_pos h]) k1
  · rw [if_neg h]; exact zE_b (b := none) (by show ¬ 46 < 40; omega) (by show 46 < 60; omega) (by show some (if x = y then some a else none, st) = _; rw [if_neg h]) k2
theorem zq_47 (k1 : zE φ J E d m is L st s o1) (k2 : zE φ J E d m (zB m a) L st s o2) : zE φ J E d m ((47, pc, a, b, v, tb) :: is) L (.inl y :: .inl x :: st) s (if x = y then o1 else o2) := by
  by_cases h : x = y
  · rw [if_pos h]; exact zE_b (b := none) (by show ¬ 47 < 40; omega) (by show 47 < 60; omega) (by show some (if x = y then none else some a, st) = _; rw [if_pos h]) k1
  · rw [if_neg h]; exact zE_b (b := some a) (by show ¬ 47 < 40; omega) (by show 47 < 60; omega) (by show some (if x = y then none else some a, st) = _; rw [if_neg h]) k2
theorem zq_48 (k1 : zE φ J E d m (zB m a) L st s o1) (k2 : zE φ J E d m is L st s o2) : zE φ J E d m ((48, pc, a, b, v, tb) :: is) L (.inl y :: .inl x :: st) s (if x < y then o1 else o2) := by
  by_cases h : x < y
  · rw [if_pos h]; exact zE_b (b := some a) (by show ¬ 48 < 40; omega) (by show 48 < 60; omega) (by show some (if x < y then some a else none, st) = _; rw [if_pos h]) k1
  · rw [if_neg h]; exact zE_b (b := none) (by show ¬ 48 < 40; omega) (by show 48 < 60; omega) (by show some (if x < y then some a else none, st) = _; rw [if_neg h]) k2
theorem zq_49 (k1 : zE φ J E d m is L st s o1) (k2 : zE φ J E d m (zB m a) L st s o2) : zE φ J E d m ((49, pc, a, b, v, tb) :: is) L (.inl y :: .inl x :: st) s (if x < y then o1 else o2) := by
  by_cases h : x < y
  · rw [if_pos h]; exact zE_b (b := none) (by show ¬ 49 < 40; omega) (by show 49 < 60; omega) (by show some (if x < y then none else some a, st) = _; rw [if_pos h]) k1
  · rw [if_neg h]; exact zE_b (b := some a) (by show ¬ 49 < 40; omega) (by show 49 < 60; omega) (by show some (if x < y then none else some a, st) = _; rw [if_neg h]) k2
theorem zq_50 (k1 : zE φ J E d m (zB m a) L st s o1) (k2 : zE φ J E d m is L st s o2) : zE φ J E d m ((50, pc, a, b, v, tb) :: is) L (.inl y :: .inl x :: st) s (if y < x then o1 else o2) := by
  by_cases h : y < x
  · rw [if_pos h]; exact zE_b (b := some a) (by show ¬ 50 < 40; omega) (by show 50 < 60; omega) (by show some (if y < x then some a else none, st) = _; rw [if_pos h]) k1
  · rw [if_neg h]; exact zE_b (b := none) (by show ¬ 50 < 40; omega) (by show 50 < 60; omega) (by show some (if y < x then some a else none, st) = _; rw [if_neg h]) k2
theorem zq_51 (k1 : zE φ J E d m is L st s o1) (k2 : zE φ J E d m (zB m a) L st s o2) : zE φ J E d m ((51, pc, a, b, v, tb) :: is) L (.inl y :: .inl x :: st) s (if y < x then o1 else o2) := by
  by_cases h : y < x
  · rw [if_pos h]; exact zE_b (b := none) (by show ¬ 51 < 40; omega) (by show 51 < 60; omega) (by show some (if y < x then none else some a, st) = _; rw [if_pos h]) k1
  · rw [if_neg h]; exact zE_b (b := some a) (by show ¬ 51 < 40; omega) (by show 51 < 60; omega) (by show some (if y < x then none else some a, st) = _; rw [if_neg h]) k2
theorem zq_52 {p r : Nat} (k1 : zE φ J E d m (zB m a) L st s o1) (k2 : zE φ J E d m is L st s o2) : zE φ J E d m ((52, pc, a, b, v, tb) :: is) L (.inr (.inr r) :: .inr (.inr p) :: st) s (if p = r then o1 else o2) := by
  by_cases h : p = r
  · rw [if_pos h]; exact zE_b (b := some a) (by show ¬ 52 < 40; omega) (by show 52 < 60; omega) (by show some (if p = r then some a else none, st) = _; rw [if_pos h]) k1
  · rw [if_neg h]; exact zE_b (b := none) (by show ¬ 52 < 40; omega) (by show 52 < 60; omega) (by show some (if p = r then some a else none, st) = _; rw [if_neg h]) k2
theorem zq_53 {p r : Nat} (k1 : zE φ J E d m is L st s o1) (k2 : zE φ J E d m (zB m a) L st s o2) : zE φ J E d m ((53, pc, a, b, v, tb) :: is) L (.inr (.inr r) :: .inr (.inr p) :: st) s (if p = r then o1 else o2) := by
  by_cases h : p = r
  · rw [if_pos h]; exact zE_b (b := none) (by show ¬ 53 < 40; omega) (by show 53 < 60; omega) (by show some (if p = r then none else some a, st) = _; rw [if_pos h]) k1
  · rw [if_neg h]; exact zE_b (b := some a) (by show ¬ 53 < 40; omega) (by show 53 < 60; omega) (by show some (if p = r then none else some a, st) = _; rw [if_neg h]) k2
theorem zq_54 {p r : Nat} (k1 : zE φ J E d m (zB m a) L st s o1) (k2 : zE φ J E d m is L st s o2) : zE φ J E d m ((54, pc, a, b, v, tb) :: is) L (.inr (.inr p) :: st) s (if p = 0 then o1 else o2) := by
  by_cases h : p = 0
  · rw [if_pos h]; exact zE_b (b := some a) (by show ¬ 54 < 40; omega) (by show 54 < 60; omega) (by show some (if p = 0 then some a else none, st) = _; rw [if_pos h]) k1
  · rw [if_neg h]; exact zE_b (b := none) (by show ¬ 54 < 40; omega) (by show 54 < 60; omega) (by show some (if p = 0 then some a else none, st) = _; rw [if_neg h]) k2
theorem zq_55 {p r : Nat} (k1 : zE φ J E d m is L st s o1) (k2 : zE φ J E d m (zB m a) L st s o2) : zE φ J E d m ((55, pc, a, b, v, tb) :: is) L (.inr (.inr p) :: st) s (if p = 0 then o1 else o2) := by
  by_cases h : p = 0
  · rw [if_pos h]; exact zE_b (b := none) (by show ¬ 55 < 40; omega) (by show 55 < 60; omega) (by show some (if p = 0 then none else some a, st) = _; rw [if_pos h]) k1
  · rw [if_neg h]; exact zE_b (b := some a) (by show ¬ 55 < 40; omega) (by show 55 < 60; omega) (by show some (if p = 0 then none else some a, st) = _; rw [if_neg h]) k2
theorem zq_56 (k : zE φ J E d m (zB m a) L st s o) : zE φ J E d m ((56, pc, a, b, v, tb) :: is) L st s o := zE_b (b := some a) (by show ¬ 56 < 40; omega) (by show 56 < 60; omega) rfl k
theorem zq_57 (k : zE φ J E d m (zB m a) L st s o) : zE φ J E d m ((57, pc, a, b, v, tb) :: is) L st s o := zE_b (b := some a) (by show ¬ 57 < 40; omega) (by show 57 < 60; omega) rfl k
theorem zq_58 (k : zE φ J E d m (zB m (zsw tb a x)) L st s o) : zE φ J E d m ((58, pc, a, b, v, tb) :: is) L (.inl x :: st) s o := zE_b (b := some (zsw tb a x)) (by show ¬ 58 < 40; omega) (by show 58 < 60; omega) rfl k
theorem zq_59 (k : zE φ J E d m (zB m (zsw tb a x)) L st s o) : zE φ J E d m ((59, pc, a, b, v, tb) :: is) L (.inl x :: st) s o := zE_b (b := some (zsw tb a x)) (by show ¬ 59 < 40; omega) (by show 59 < 60; omega) rfl k
theorem zq_sw {q : Int × Nat} (k1 : zE φ J E d m (zB m q.2) L st s o1) (k2 : zE φ J E d m (zB m (zsw tb a x)) L st s o2) : zE φ J E d m (zB m (zsw (q :: tb) a x)) L st s (if x = q.1 then o1 else o2) := by
  by_cases h : x = q.1
  · rw [if_pos h]; unfold zsw; rw [if_pos h]; exact k1
  · rw [if_neg h]; unfold zsw; rw [if_neg h]; exact k2
theorem zq_95 {J : Int → Option zAV} (hJ : J x = some (.inl x)) : zE φ J E d m ((95, pc, a, b, v, tb) :: is) L [.inl x] s (some (x, s)) := zE_r (by show ¬ 95 < 95; omega) (by rw [hJ]; rfl)
theorem zq_96 : zE φ Ji E d m ((96, pc, a, b, v, tb) :: is) L [.inl x] s (yrb x s) := zE_g fun h => zE_r (by show ¬ 96 < 95; omega) (by show (if x = 0 ∨ x = 1 then some (some (.inl x)) else none) = _; rw [if_pos h])
theorem zq_96c (h : x = 0 ∨ x = 1) : zE φ Ji E d m ((96, pc, a, b, v, tb) :: is) L [.inl x] s (some (x, s)) := zE_r (by show ¬ 96 < 95; omega) (by show (if x = 0 ∨ x = 1 then some (some (.inl x)) else none) = _; rw [if_pos h])
theorem zq_97 : zE φ Ji E d m ((97, pc, a, b, v, tb) :: is) L [.inl x] s (yrc x s) := zE_g fun h => zE_r (by show ¬ 97 < 95; omega) (by show (if 0 ≤ x ∧ x < 65536 then some (some (.inl x)) else none) = _; rw [if_pos h])
theorem zq_98 : zE φ Ji E d m ((98, pc, a, b, v, tb) :: is) L [.inl x] s (yry x s) := zE_g fun h => zE_r (by show ¬ 98 < 95; omega) (by show (if -128 ≤ x ∧ x < 128 then some (some (.inl x)) else none) = _; rw [if_pos h])
theorem zq_99 : zE φ Jl E d m ((99, pc, a, b, v, tb) :: is) L [.inr (.inl x)] s (some (x, s)) := zE_r (by show ¬ 99 < 95; omega) rfl
theorem zq_100 {r : Nat} : zE φ Jr E d m ((100, pc, a, b, v, tb) :: is) L [.inr (.inr r)] s (some (r, s)) := zE_r (by show ¬ 100 < 95; omega) rfl
theorem zq_101 : zE φ Jv E d m ((101, pc, a, b, v, tb) :: is) L [] s (some ((), s)) := zE_r (by show ¬ 101 < 95; omega) rfl
theorem zcok {n mx : Nat} {q : List zAV} {w : List zAV} (h0 : w.length = n) (h1 : zle4 st = true) (h2 : Nat.ble (zargs w.reverse).length mx = true) : (n ≤ (w ++ st).length ∧ ((w ++ st).drop n).length ≤ 4 ∧ (zargs ((w ++ st).take n).reverse).length ≤ mx) := by
  subst h0
  rw [List.drop_left, List.take_left, List.length_append]
  exact ⟨by omega, zle4_of h1, Nat.le_of_ble_eq_true h2⟩
theorem zq_90_0i {m2 : Nat} {mx : Int} {o3 : Option (Int × St)} {f : Int → St → Option (α × St)} (h1 : zle4 st = true) (h2 : Nat.ble (zargs []).length mx.toNat = true) (hc : zE φ Ji E d m2 (zB m2 0) (zent mx.toNat []) [] s o3) (k : ∀ (w : Int) s1, zE φ J E (d + 1) m is L (.inl w :: st) s1 (f w s1)) : zE φ J E (d + 1) m ((90, pc, m2, 0, mx, tb) :: is) L (st) s (ybd o3 f) := zE_c (i := (90, pc, m2, 0, mx, tb)) (st := st) (J2 := Ji) (by show ¬ 90 < 90; omega) (by show 90 < 95; omega) rfl (zcok (w := []) (q := []) rfl h1 h2) hc k
theorem zq_90_0l {m2 : Nat} {mx : Int} {o3 : Option (Int × St)} {f : Int → St → Option (α × St)} (h1 : zle4 st = true) (h2 : Nat.ble (zargs []).length mx.toNat = true) (hc : zE φ Jl E d m2 (zB m2 0) (zent mx.toNat []) [] s o3) (k : ∀ (w : Int) s1, zE φ J E (d + 1) m is L (.inr (.inl w) :: st) s1 (f w s1)) : zE φ J E (d + 1) m ((90, pc, m2, 0, mx, tb) :: is) L (st) s (ybd o3 f) := zE_c (i := (90, pc, m2, 0, mx, tb)) (st := st) (J2 := Jl) (by show ¬ 90 < 90; omega) (by show 90 < 95; omega) rfl (zcok (w := []) (q := []) rfl h1 h2) hc k
theorem zq_90_0r {m2 : Nat} {mx : Int} {o3 : Option (Nat × St)} {f : Nat → St → Option (α × St)} (h1 : zle4 st = true) (h2 : Nat.ble (zargs []).length mx.toNat = true) (hc : zE φ Jr E d m2 (zB m2 0) (zent mx.toNat []) [] s o3) (k : ∀ (w : Nat) s1, zE φ J E (d + 1) m is L (.inr (.inr w) :: st) s1 (f w s1)) : zE φ J E (d + 1) m ((90, pc, m2, 0, mx, tb) :: is) L (st) s (ybd o3 f) := zE_c (i := (90, pc, m2, 0, mx, tb)) (st := st) (J2 := Jr) (by show ¬ 90 < 90; omega) (by show 90 < 95; omega) rfl (zcok (w := []) (q := []) rfl h1 h2) hc k
theorem zq_90_0v {m2 : Nat} {mx : Int} {o3 : Option (Unit × St)} {f : Unit → St → Option (α × St)} (h1 : zle4 st = true) (h2 : Nat.ble (zargs []).length mx.toNat = true) (hc : zE φ Jv E d m2 (zB m2 0) (zent mx.toNat []) [] s o3) (k : ∀ (w : Unit) s1, zE φ J E (d + 1) m is L (st) s1 (f w s1)) : zE φ J E (d + 1) m ((90, pc, m2, 0, mx, tb) :: is) L (st) s (ybd o3 f) := zE_c (i := (90, pc, m2, 0, mx, tb)) (st := st) (J2 := Jv) (by show ¬ 90 < 90; omega) (by show 90 < 95; omega) rfl (zcok (w := []) (q := []) rfl h1 h2) hc k
theorem zq_90_1i {v1 : zAV} {m2 : Nat} {mx : Int} {o3 : Option (Int × St)} {f : Int → St → Option (α × St)} (h1 : zle4 st = true) (h2 : Nat.ble (zargs [v1]).length mx.toNat = true) (hc : zE φ Ji E d m2 (zB m2 0) (zent mx.toNat [v1]) [] s o3) (k : ∀ (w : Int) s1, zE φ J E (d + 1) m is L (.inl w :: st) s1 (f w s1)) : zE φ J E (d + 1) m ((90, pc, m2, 1, mx, tb) :: is) L (v1 :: st) s (ybd o3 f) := zE_c (i := (90, pc, m2, 1, mx, tb)) (st := v1 :: st) (J2 := Ji) (by show ¬ 90 < 90; omega) (by show 90 < 95; omega) rfl (zcok (w := [v1]) (q := []) rfl h1 h2) hc k
theorem zq_91_1i {r : Nat} {m2 : Nat} {mx : Int} {o3 : Option (Int × St)} {f : Int → St → Option (α × St)} (h1 : zle4 st = true) (h2 : Nat.ble (zargs [.inr (.inr r)]).length mx.toNat = true) (hc : zE φ Ji E d m2 (zB m2 0) (zent mx.toNat [.inr (.inr r)]) [] s o3) (k : ∀ (w : Int) s1, zE φ J E (d + 1) m is L (.inl w :: st) s1 (f w s1)) : zE φ J E (d + 1) m ((91, pc, m2, 1, mx, tb) :: is) L (.inr (.inr r) :: st) s (yn0 r (ybd o3 f)) := zE_g fun hr => zE_c (i := (91, pc, m2, 1, mx, tb)) (st := .inr (.inr r) :: st) (J2 := Ji) (by show ¬ 91 < 90; omega) (by show 91 < 95; omega) (by show (if 0 < r then some (m2, 1, mx.toNat) else none) = _; rw [if_pos hr]) (zcok (w := [.inr (.inr r)]) (q := []) rfl h1 h2) hc k
theorem zq_92_1i {r : Nat} {cp : Int} {c : Nat} {m2 : Nat} {mx : Int} {o3 : Option (Int × St)} {f : Int → St → Option (α × St)} (hr : zisA c (ztg (φ s) r) = true) (h1 : zle4 st = true) (h2 : Nat.ble (zargs [.inr (.inr r)]).length mx.toNat = true) (hc : zE φ Ji E d m2 (zB m2 0) (zent mx.toNat [.inr (.inr r)]) [] s o3) (k : ∀ (w : Int) s1, zE φ J E (d + 1) m is L (.inl w :: st) s1 (f w s1)) : zE φ J E (d + 1) m ((92, pc, m2, 1, mx, [(cp, c)]) :: is) L (.inr (.inr r) :: st) s (ybd o3 f) := zE_c (i := (92, pc, m2, 1, mx, [(cp, c)])) (st := .inr (.inr r) :: st) (J2 := Ji) (by show ¬ 92 < 90; omega) (by show 92 < 95; omega) (by show (if ([(cp, c)].any fun q => zisA q.2 (ztg (φ s) r)) = true then some (m2, 1, mx.toNat) else none) = _; rw [if_pos (by simp only [List.any_cons, List.any_nil, Bool.or_false]; exact hr)]) (zcok (w := [.inr (.inr r)]) (q := []) rfl h1 h2) hc k
theorem zq_90_1l {v1 : zAV} {m2 : Nat} {mx : Int} {o3 : Option (Int × St)} {f : Int → St → Option (α × St)} (h1 : zle4 st = true) (h2 : Nat.ble (zargs [v1]).length mx.toNat = true) (hc : zE φ Jl E d m2 (zB m2 0) (zent mx.toNat [v1]) [] s o3) (k : ∀ (w : Int) s1, zE φ J E (d + 1) m is L (.inr (.inl w) :: st) s1 (f w s1)) : zE φ J E (d + 1) m ((90, pc, m2, 1, mx, tb) :: is) L (v1 :: st) s (ybd o3 f) := zE_c (i := (90, pc, m2, 1, mx, tb)) (st := v1 :: st) (J2 := Jl) (by show ¬ 90 < 90; omega) (by show 90 < 95; omega) rfl (zcok (w := [v1]) (q := []) rfl h1 h2) hc k
theorem zq_91_1l {r : Nat} {m2 : Nat} {mx : Int} {o3 : Option (Int × St)} {f : Int → St → Option (α × St)} (h1 : zle4 st = true) (h2 : Nat.ble (zargs [.inr (.inr r)]).length mx.toNat = true) (hc : zE φ Jl E d m2 (zB m2 0) (zent mx.toNat [.inr (.inr r)]) [] s o3) (k : ∀ (w : Int) s1, zE φ J E (d + 1) m is L (.inr (.inl w) :: st) s1 (f w s1)) : zE φ J E (d + 1) m ((91, pc, m2, 1, mx, tb) :: is) L (.inr (.inr r) :: st) s (yn0 r (ybd o3 f)) := zE_g fun hr => zE_c (i := (91, pc, m2, 1, mx, tb)) (st := .inr (.inr r) :: st) (J2 := Jl) (by show ¬ 91 < 90; omega) (by show 91 < 95; omega) (by show (if 0 < r then some (m2, 1, mx.toNat) else none) = _; rw [if_pos hr]) (zcok (w := [.inr (.inr r)]) (q := []) rfl h1 h2) hc k
theorem zq_92_1l {r : Nat} {cp : Int} {c : Nat} {m2 : Nat} {mx : Int} {o3 : Option (Int × St)} {f : Int → St → Option (α × St)} (hr : zisA c (ztg (φ s) r) = true) (h1 : zle4 st = true) (h2 : Nat.ble (zargs [.inr (.inr r)]).length mx.toNat = true) (hc : zE φ Jl E d m2 (zB m2 0) (zent mx.toNat [.inr (.inr r)]) [] s o3) (k : ∀ (w : Int) s1, zE φ J E (d + 1) m is L (.inr (.inl w) :: st) s1 (f w s1)) : zE φ J E (d + 1) m ((92, pc, m2, 1, mx, [(cp, c)]) :: is) L (.inr (.inr r) :: st) s (ybd o3 f) := zE_c (i := (92, pc, m2, 1, mx, [(cp, c)])) (st := .inr (.inr r) :: st) (J2 := Jl) (by show ¬ 92 < 90; omega) (by show 92 < 95; omega) (by show (if ([(cp, c)].any fun q => zisA q.2 (ztg (φ s) r)) = true then some (m2, 1, mx.toNat) else none) = _; rw [if_pos (by simp only [List.any_cons, List.any_nil, Bool.or_false]; exact hr)]) (zcok (w := [.inr (.inr r)]) (q := []) rfl h1 h2) hc k
theorem zq_90_1r {v1 : zAV} {m2 : Nat} {mx : Int} {o3 : Option (Nat × St)} {f : Nat → St → Option (α × St)} (h1 : zle4 st = true) (h2 : Nat.ble (zargs [v1]).length mx.toNat = true) (hc : zE φ Jr E d m2 (zB m2 0) (zent mx.toNat [v1]) [] s o3) (k : ∀ (w : Nat) s1, zE φ J E (d + 1) m is L (.inr (.inr w) :: st) s1 (f w s1)) : zE φ J E (d + 1) m ((90, pc, m2, 1, mx, tb) :: is) L (v1 :: st) s (ybd o3 f) := zE_c (i := (90, pc, m2, 1, mx, tb)) (st := v1 :: st) (J2 := Jr) (by show ¬ 90 < 90; omega) (by show 90 < 95; omega) rfl (zcok (w := [v1]) (q := []) rfl h1 h2) hc k
theorem zq_91_1r {r : Nat} {m2 : Nat} {mx : Int} {o3 : Option (Nat × St)} {f : Nat → St → Option (α × St)} (h1 : zle4 st = true) (h2 : Nat.ble (zargs [.inr (.inr r)]).length mx.toNat = true) (hc : zE φ Jr E d m2 (zB m2 0) (zent mx.toNat [.inr (.inr r)]) [] s o3) (k : ∀ (w : Nat) s1, zE φ J E (d + 1) m is L (.inr (.inr w) :: st) s1 (f w s1)) : zE φ J E (d + 1) m ((91, pc, m2, 1, mx, tb) :: is) L (.inr (.inr r) :: st) s (yn0 r (ybd o3 f)) := zE_g fun hr => zE_c (i := (91, pc, m2, 1, mx, tb)) (st := .inr (.inr r) :: st) (J2 := Jr) (by show ¬ 91 < 90; omega) (by show 91 < 95; omega) (by show (if 0 < r then some (m2, 1, mx.toNat) else none) = _; rw [if_pos hr]) (zcok (w := [.inr (.inr r)]) (q := []) rfl h1 h2) hc k
theorem zq_92_1r {r : Nat} {cp : Int} {c : Nat} {m2 : Nat} {mx : Int} {o3 : Option (Nat × St)} {f : Nat → St → Option (α × St)} (hr : zisA c (ztg (φ s) r) = true) (h1 : zle4 st = true) (h2 : Nat.ble (zargs [.inr (.inr r)]).length mx.toNat = true) (hc : zE φ Jr E d m2 (zB m2 0) (zent mx.toNat [.inr (.inr r)]) [] s o3) (k : ∀ (w : Nat) s1, zE φ J E (d + 1) m is L (.inr (.inr w) :: st) s1 (f w s1)) : zE φ J E (d + 1) m ((92, pc, m2, 1, mx, [(cp, c)]) :: is) L (.inr (.inr r) :: st) s (ybd o3 f) := zE_c (i := (92, pc, m2, 1, mx, [(cp, c)])) (st := .inr (.inr r) :: st) (J2 := Jr) (by show ¬ 92 < 90; omega) (by show 92 < 95; omega) (by show (if ([(cp, c)].any fun q => zisA q.2 (ztg (φ s) r)) = true then some (m2, 1, mx.toNat) else none) = _; rw [if_pos (by simp only [List.any_cons, List.any_nil, Bool.or_false]; exact hr)]) (zcok (w := [.inr (.inr r)]) (q := []) rfl h1 h2) hc k
theorem zq_90_1v {v1 : zAV} {m2 : Nat} {mx : Int} {o3 : Option (Unit × St)} {f : Unit → St → Option (α × St)} (h1 : zle4 st = true) (h2 : Nat.ble (zargs [v1]).length mx.toNat = true) (hc : zE φ Jv E d m2 (zB m2 0) (zent mx.toNat [v1]) [] s o3) (k : ∀ (w : Unit) s1, zE φ J E (d + 1) m is L (st) s1 (f w s1)) : zE φ J E (d + 1) m ((90, pc, m2, 1, mx, tb) :: is) L (v1 :: st) s (ybd o3 f) := zE_c (i := (90, pc, m2, 1, mx, tb)) (st := v1 :: st) (J2 := Jv) (by show ¬ 90 < 90; omega) (by show 90 < 95; omega) rfl (zcok (w := [v1]) (q := []) rfl h1 h2) hc k
theorem zq_91_1v {r : Nat} {m2 : Nat} {mx : Int} {o3 : Option (Unit × St)} {f : Unit → St → Option (α × St)} (h1 : zle4 st = true) (h2 : Nat.ble (zargs [.inr (.inr r)]).length mx.toNat = true) (hc : zE φ Jv E d m2 (zB m2 0) (zent mx.toNat [.inr (.inr r)]) [] s o3) (k : ∀ (w : Unit) s1, zE φ J E (d + 1) m is L (st) s1 (f w s1)) : zE φ J E (d + 1) m ((91, pc, m2, 1, mx, tb) :: is) L (.inr (.inr r) :: st) s (yn0 r (ybd o3 f)) := zE_g fun hr => zE_c (i := (91, pc, m2, 1, mx, tb)) (st := .inr (.inr r) :: st) (J2 := Jv) (by show ¬ 91 < 90; omega) (by show 91 < 95; omega) (by show (if 0 < r then some (m2, 1, mx.toNat) else none) = _; rw [if_pos hr]) (zcok (w := [.inr (.inr r)]) (q := []) rfl h1 h2) hc k
theorem zq_92_1v {r : Nat} {cp : Int} {c : Nat} {m2 : Nat} {mx : Int} {o3 : Option (Unit × St)} {f : Unit → St → Option (α × St)} (hr : zisA c (ztg (φ s) r) = true) (h1 : zle4 st = true) (h2 : Nat.ble (zargs [.inr (.inr r)]).length mx.toNat = true) (hc : zE φ Jv E d m2 (zB m2 0) (zent mx.toNat [.inr (.inr r)]) [] s o3) (k : ∀ (w : Unit) s1, zE φ J E (d + 1) m is L (st) s1 (f w s1)) : zE φ J E (d + 1) m ((92, pc, m2, 1, mx, [(cp, c)]) :: is) L (.inr (.inr r) :: st) s (ybd o3 f) := zE_c (i := (92, pc, m2, 1, mx, [(cp, c)])) (st := .inr (.inr r) :: st) (J2 := Jv) (by show ¬ 92 < 90; omega) (by show 92 < 95; omega) (by show (if ([(cp, c)].any fun q => zisA q.2 (ztg (φ s) r)) = true then some (m2, 1, mx.toNat) else none) = _; rw [if_pos (by simp only [List.any_cons, List.any_nil, Bool.or_false]; exact hr)]) (zcok (w := [.inr (.inr r)]) (q := []) rfl h1 h2) hc k
theorem zq_90_2i {v1 v2 : zAV} {m2 : Nat} {mx : Int} {o3 : Option (Int × St)} {f : Int → St → Option (α × St)} (h1 : zle4 st = true) (h2 : Nat.ble (zargs [v1, v2]).length mx.toNat = true) (hc : zE φ Ji E d m2 (zB m2 0) (zent mx.toNat [v1, v2]) [] s o3) (k : ∀ (w : Int) s1, zE φ J E (d + 1) m is L (.inl w :: st) s1 (f w s1)) : zE φ J E (d + 1) m ((90, pc, m2, 2, mx, tb) :: is) L (v2 :: v1 :: st) s (ybd o3 f) := zE_c (i := (90, pc, m2, 2, mx, tb)) (st := v2 :: v1 :: st) (J2 := Ji) (by show ¬ 90 < 90; omega) (by show 90 < 95; omega) rfl (zcok (w := [v2, v1]) (q := []) rfl h1 h2) hc k
theorem zq_91_2i {r : Nat} {v2 : zAV} {m2 : Nat} {mx : Int} {o3 : Option (Int × St)} {f : Int → St → Option (α × St)} (h1 : zle4 st = true) (h2 : Nat.ble (zargs [.inr (.inr r), v2]).length mx.toNat = true) (hc : zE φ Ji E d m2 (zB m2 0) (zent mx.toNat [.inr (.inr r), v2]) [] s o3) (k : ∀ (w : Int) s1, zE φ J E (d + 1) m is L (.inl w :: st) s1 (f w s1)) : zE φ J E (d + 1) m ((91, pc, m2, 2, mx, tb) :: is) L (v2 :: .inr (.inr r) :: st) s (yn0 r (ybd o3 f)) := zE_g fun hr => zE_c (i := (91, pc, m2, 2, mx, tb)) (st := v2 :: .inr (.inr r) :: st) (J2 := Ji) (by show ¬ 91 < 90; omega) (by show 91 < 95; omega) (by show (if 0 < r then some (m2, 2, mx.toNat) else none) = _; rw [if_pos hr]) (zcok (w := [v2, .inr (.inr r)]) (q := []) rfl h1 h2) hc k
theorem zq_92_2i {r : Nat} {v2 : zAV} {cp : Int} {c : Nat} {m2 : Nat} {mx : Int} {o3 : Option (Int × St)} {f : Int → St → Option (α × St)} (hr : zisA c (ztg (φ s) r) = true) (h1 : zle4 st = true) (h2 : Nat.ble (zargs [.inr (.inr r), v2]).length mx.toNat = true) (hc : zE φ Ji E d m2 (zB m2 0) (zent mx.toNat [.inr (.inr r), v2]) [] s o3) (k : ∀ (w : Int) s1, zE φ J E (d + 1) m is L (.inl w :: st) s1 (f w s1)) : zE φ J E (d + 1) m ((92, pc, m2, 2, mx, [(cp, c)]) :: is) L (v2 :: .inr (.inr r) :: st) s (ybd o3 f) := zE_c (i := (92, pc, m2, 2, mx, [(cp, c)])) (st := v2 :: .inr (.inr r) :: st) (J2 := Ji) (by show ¬ 92 < 90; omega) (by show 92 < 95; omega) (by show (if ([(cp, c)].any fun q => zisA q.2 (ztg (φ s) r)) = true then some (m2, 2, mx.toNat) else none) = _; rw [if_pos (by simp only [List.any_cons, List.any_nil, Bool.or_false]; exact hr)]) (zcok (w := [v2, .inr (.inr r)]) (q := []) rfl h1 h2) hc k
theorem zq_90_2l {v1 v2 : zAV} {m2 : Nat} {mx : Int} {o3 : Option (Int × St)} {f : Int → St → Option (α × St)} (h1 : zle4 st = true) (h2 : Nat.ble (zargs [v1, v2]).length mx.toNat = true) (hc : zE φ Jl E d m2 (zB m2 0) (zent mx.toNat [v1, v2]) [] s o3) (k : ∀ (w : Int) s1, zE φ J E (d + 1) m is L (.inr (.inl w) :: st) s1 (f w s1)) : zE φ J E (d + 1) m ((90, pc, m2, 2, mx, tb) :: is) L (v2 :: v1 :: st) s (ybd o3 f) := zE_c (i := (90, pc, m2, 2, mx, tb)) (st := v2 :: v1 :: st) (J2 := Jl) (by show ¬ 90 < 90; omega) (by show 90 < 95; omega) rfl (zcok (w := [v2, v1]) (q := []) rfl h1 h2) hc k
theorem zq_91_2l {r : Nat} {v2 : zAV} {m2 : Nat} {mx : Int} {o3 : Option (Int × St)} {f : Int → St → Option (α × St)} (h1 : zle4 st = true) (h2 : Nat.ble (zargs [.inr (.inr r), v2]).length mx.toNat = true) (hc : zE φ Jl E d m2 (zB m2 0) (zent mx.toNat [.inr (.inr r), v2]) [] s o3) (k : ∀ (w : Int) s1, zE φ J E (d + 1) m is L (.inr (.inl w) :: st) s1 (f w s1)) : zE φ J E (d + 1) m ((91, pc, m2, 2, mx, tb) :: is) L (v2 :: .inr (.inr r) :: st) s (yn0 r (ybd o3 f)) := zE_g fun hr => zE_c (i := (91, pc, m2, 2, mx, tb)) (st := v2 :: .inr (.inr r) :: st) (J2 := Jl) (by show ¬ 91 < 90; omega) (by show 91 < 95; omega) (by show (if 0 < r then some (m2, 2, mx.toNat) else none) = _; rw [if_pos hr]) (zcok (w := [v2, .inr (.inr r)]) (q := []) rfl h1 h2) hc k
theorem zq_92_2l {r : Nat} {v2 : zAV} {cp : Int} {c : Nat} {m2 : Nat} {mx : Int} {o3 : Option (Int × St)} {f : Int → St → Option (α × St)} (hr : zisA c (ztg (φ s) r) = true) (h1 : zle4 st = true) (h2 : Nat.ble (zargs [.inr (.inr r), v2]).length mx.toNat = true) (hc : zE φ Jl E d m2 (zB m2 0) (zent mx.toNat [.inr (.inr r), v2]) [] s o3) (k : ∀ (w : Int) s1, zE φ J E (d + 1) m is L (.inr (.inl w) :: st) s1 (f w s1)) : zE φ J E (d + 1) m ((92, pc, m2, 2, mx, [(cp, c)]) :: is) L (v2 :: .inr (.inr r) :: st) s (ybd o3 f) := zE_c (i := (92, pc, m2, 2, mx, [(cp, c)])) (st := v2 :: .inr (.inr r) :: st) (J2 := Jl) (by show ¬ 92 < 90; omega) (by show 92 < 95; omega) (by show (if ([(cp, c)].any fun q => zisA q.2 (ztg (φ s) r)) = true then some (m2, 2, mx.toNat) else none) = _; rw [if_pos (by simp only [List.any_cons, List.any_nil, Bool.or_false]; exact hr)]) (zcok (w := [v2, .inr (.inr r)]) (q := []) rfl h1 h2) hc k
theorem zq_90_2r {v1 v2 : zAV} {m2 : Nat} {mx : Int} {o3 : Option (Nat × St)} {f : Nat → St → Option (α × St)} (h1 : zle4 st = true) (h2 : Nat.ble (zargs [v1, v2]).length mx.toNat = true) (hc : zE φ Jr E d m2 (zB m2 0) (zent mx.toNat [v1, v2]) [] s o3) (k : ∀ (w : Nat) s1, zE φ J E (d + 1) m is L (.inr (.inr w) :: st) s1 (f w s1)) : zE φ J E (d + 1) m ((90, pc, m2, 2, mx, tb) :: is) L (v2 :: v1 :: st) s (ybd o3 f) := zE_c (i := (90, pc, m2, 2, mx, tb)) (st := v2 :: v1 :: st) (J2 := Jr) (by show ¬ 90 < 90; omega) (by show 90 < 95; omega) rfl (zcok (w := [v2, v1]) (q := []) rfl h1 h2) hc k
theorem zq_91_2r {r : Nat} {v2 : zAV} {m2 : Nat} {mx : Int} {o3 : Option (Nat × St)} {f : Nat → St → Option (α × St)} (h1 : zle4 st = true) (h2 : Nat.ble (zargs [.inr (.inr r), v2]).length mx.toNat = true) (hc : zE φ Jr E d m2 (zB m2 0) (zent mx.toNat [.inr (.inr r), v2]) [] s o3) (k : ∀ (w : Nat) s1, zE φ J E (d + 1) m is L (.inr (.inr w) :: st) s1 (f w s1)) : zE φ J E (d + 1) m ((91, pc, m2, 2, mx, tb) :: is) L (v2 :: .inr (.inr r) :: st) s (yn0 r (ybd o3 f)) := zE_g fun hr => zE_c (i := (91, pc, m2, 2, mx, tb)) (st := v2 :: .inr (.inr r) :: st) (J2 := Jr) (by show ¬ 91 < 90; omega) (by show 91 < 95; omega) (by show (if 0 < r then some (m2, 2, mx.toNat) else none) = _; rw [if_pos hr]) (zcok (w := [v2, .inr (.inr r)]) (q := []) rfl h1 h2) hc k
theorem zq_92_2r {r : Nat} {v2 : zAV} {cp : Int} {c : Nat} {m2 : Nat} {mx : Int} {o3 : Option (Nat × St)} {f : Nat → St → Option (α × St)} (hr : zisA c (ztg (φ s) r) = true) (h1 : zle4 st = true) (h2 : Nat.ble (zargs [.inr (.inr r), v2]).length mx.toNat = true) (hc : zE φ Jr E d m2 (zB m2 0) (zent mx.toNat [.inr (.inr r), v2]) [] s o3) (k : ∀ (w : Nat) s1, zE φ J E (d + 1) m is L (.inr (.inr w) :: st) s1 (f w s1)) : zE φ J E (d + 1) m ((92, pc, m2, 2, mx, [(cp, c)]) :: is) L (v2 :: .inr (.inr r) :: st) s (ybd o3 f) := zE_c (i := (92, pc, m2, 2, mx, [(cp, c)])) (st := v2 :: .inr (.inr r) :: st) (J2 := Jr) (by show ¬ 92 < 90; omega) (by show 92 < 95; omega) (by show (if ([(cp, c)].any fun q => zisA q.2 (ztg (φ s) r)) = true then some (m2, 2, mx.toNat) else none) = _; rw [if_pos (by simp only [List.any_cons, List.any_nil, Bool.or_false]; exact hr)]) (zcok (w := [v2, .inr (.inr r)]) (q := []) rfl h1 h2) hc k
theorem zq_90_2v {v1 v2 : zAV} {m2 : Nat} {mx : Int} {o3 : Option (Unit × St)} {f : Unit → St → Option (α × St)} (h1 : zle4 st = true) (h2 : Nat.ble (zargs [v1, v2]).length mx.toNat = true) (hc : zE φ Jv E d m2 (zB m2 0) (zent mx.toNat [v1, v2]) [] s o3) (k : ∀ (w : Unit) s1, zE φ J E (d + 1) m is L (st) s1 (f w s1)) : zE φ J E (d + 1) m ((90, pc, m2, 2, mx, tb) :: is) L (v2 :: v1 :: st) s (ybd o3 f) := zE_c (i := (90, pc, m2, 2, mx, tb)) (st := v2 :: v1 :: st) (J2 := Jv) (by show ¬ 90 < 90; omega) (by show 90 < 95; omega) rfl (zcok (w := [v2, v1]) (q := []) rfl h1 h2) hc k
theorem zq_91_2v {r : Nat} {v2 : zAV} {m2 : Nat} {mx : Int} {o3 : Option (Unit × St)} {f : Unit → St → Option (α × St)} (h1 : zle4 st = true) (h2 : Nat.ble (zargs [.inr (.inr r), v2]).length mx.toNat = true) (hc : zE φ Jv E d m2 (zB m2 0) (zent mx.toNat [.inr (.inr r), v2]) [] s o3) (k : ∀ (w : Unit) s1, zE φ J E (d + 1) m is L (st) s1 (f w s1)) : zE φ J E (d + 1) m ((91, pc, m2, 2, mx, tb) :: is) L (v2 :: .inr (.inr r) :: st) s (yn0 r (ybd o3 f)) := zE_g fun hr => zE_c (i := (91, pc, m2, 2, mx, tb)) (st := v2 :: .inr (.inr r) :: st) (J2 := Jv) (by show ¬ 91 < 90; omega) (by show 91 < 95; omega) (by show (if 0 < r then some (m2, 2, mx.toNat) else none) = _; rw [if_pos hr]) (zcok (w := [v2, .inr (.inr r)]) (q := []) rfl h1 h2) hc k
theorem zq_92_2v {r : Nat} {v2 : zAV} {cp : Int} {c : Nat} {m2 : Nat} {mx : Int} {o3 : Option (Unit × St)} {f : Unit → St → Option (α × St)} (hr : zisA c (ztg (φ s) r) = true) (h1 : zle4 st = true) (h2 : Nat.ble (zargs [.inr (.inr r), v2]).length mx.toNat = true) (hc : zE φ Jv E d m2 (zB m2 0) (zent mx.toNat [.inr (.inr r), v2]) [] s o3) (k : ∀ (w : Unit) s1, zE φ J E (d + 1) m is L (st) s1 (f w s1)) : zE φ J E (d + 1) m ((92, pc, m2, 2, mx, [(cp, c)]) :: is) L (v2 :: .inr (.inr r) :: st) s (ybd o3 f) := zE_c (i := (92, pc, m2, 2, mx, [(cp, c)])) (st := v2 :: .inr (.inr r) :: st) (J2 := Jv) (by show ¬ 92 < 90; omega) (by show 92 < 95; omega) (by show (if ([(cp, c)].any fun q => zisA q.2 (ztg (φ s) r)) = true then some (m2, 2, mx.toNat) else none) = _; rw [if_pos (by simp only [List.any_cons, List.any_nil, Bool.or_false]; exact hr)]) (zcok (w := [v2, .inr (.inr r)]) (q := []) rfl h1 h2) hc k
theorem zq_90_3i {v1 v2 v3 : zAV} {m2 : Nat} {mx : Int} {o3 : Option (Int × St)} {f : Int → St → Option (α × St)} (h1 : zle4 st = true) (h2 : Nat.ble (zargs [v1, v2, v3]).length mx.toNat = true) (hc : zE φ Ji E d m2 (zB m2 0) (zent mx.toNat [v1, v2, v3]) [] s o3) (k : ∀ (w : Int) s1, zE φ J E (d + 1) m is L (.inl w :: st) s1 (f w s1)) : zE φ J E (d + 1) m ((90, pc, m2, 3, mx, tb) :: is) L (v3 :: v2 :: v1 :: st) s (ybd o3 f) := zE_c (i := (90, pc, m2, 3, mx, tb)) (st := v3 :: v2 :: v1 :: st) (J2 := Ji) (by show ¬ 90 < 90; omega) (by show 90 < 95; omega) rfl (zcok (w := [v3, v2, v1]) (q := []) rfl h1 h2) hc k
theorem zq_91_3i {r : Nat} {v2 v3 : zAV} {m2 : Nat} {mx : Int} {o3 : Option (Int × St)} {f : Int → St → Option (α × St)} (h1 : zle4 st = true) (h2 : Nat.ble (zargs [.inr (.inr r), v2, v3]).length mx.toNat = true) (hc : zE φ Ji E d m2 (zB m2 0) (zent mx.toNat [.inr (.inr r), v2, v3]) [] s o3) (k : ∀ (w : Int) s1, zE φ J E (d + 1) m is L (.inl w :: st) s1 (f w s1)) : zE φ J E (d + 1) m ((91, pc, m2, 3, mx, tb) :: is) L (v3 :: v2 :: .inr (.inr r) :: st) s (yn0 r (ybd o3 f)) := zE_g fun hr => zE_c (i := (91, pc, m2, 3, mx, tb)) (st := v3 :: v2 :: .inr (.inr r) :: st) (J2 := Ji) (by show ¬ 91 < 90; omega) (by show 91 < 95; omega) (by show (if 0 < r then some (m2, 3, mx.toNat) else none) = _; rw [if_pos hr]) (zcok (w := [v3, v2, .inr (.inr r)]) (q := []) rfl h1 h2) hc k
theorem zq_92_3i {r : Nat} {v2 v3 : zAV} {cp : Int} {c : Nat} {m2 : Nat} {mx : Int} {o3 : Option (Int × St)} {f : Int → St → Option (α × St)} (hr : zisA c (ztg (φ s) r) = true) (h1 : zle4 st = true) (h2 : Nat.ble (zargs [.inr (.inr r), v2, v3]).length mx.toNat = true) (hc : zE φ Ji E d m2 (zB m2 0) (zent mx.toNat [.inr (.inr r), v2, v3]) [] s o3) (k : ∀ (w : Int) s1, zE φ J E (d + 1) m is L (.inl w :: st) s1 (f w s1)) : zE φ J E (d + 1) m ((92, pc, m2, 3, mx, [(cp, c)]) :: is) L (v3 :: v2 :: .inr (.inr r) :: st) s (ybd o3 f) := zE_c (i := (92, pc, m2, 3, mx, [(cp, c)])) (st := v3 :: v2 :: .inr (.inr r) :: st) (J2 := Ji) (by show ¬ 92 < 90; omega) (by show 92 < 95; omega) (by show (if ([(cp, c)].any fun q => zisA q.2 (ztg (φ s) r)) = true then some (m2, 3, mx.toNat) else none) = _; rw [if_pos (by simp only [List.any_cons, List.any_nil, Bool.or_false]; exact hr)]) (zcok (w := [v3, v2, .inr (.inr r)]) (q := []) rfl h1 h2) hc k
theorem zq_90_3l {v1 v2 v3 : zAV} {m2 : Nat} {mx : Int} {o3 : Option (Int × St)} {f : Int → St → Option (α × St)} (h1 : zle4 st = true) (h2 : Nat.ble (zargs [v1, v2, v3]).length mx.toNat = true) (hc : zE φ Jl E d m2 (zB m2 0) (zent mx.toNat [v1, v2, v3]) [] s o3) (k : ∀ (w : Int) s1, zE φ J E (d + 1) m is L (.inr (.inl w) :: st) s1 (f w s1)) : zE φ J E (d + 1) m ((90, pc, m2, 3, mx, tb) :: is) L (v3 :: v2 :: v1 :: st) s (ybd o3 f) := zE_c (i := (90, pc, m2, 3, mx, tb)) (st := v3 :: v2 :: v1 :: st) (J2 := Jl) (by show ¬ 90 < 90; omega) (by show 90 < 95; omega) rfl (zcok (w := [v3, v2, v1]) (q := []) rfl h1 h2) hc k
theorem zq_91_3l {r : Nat} {v2 v3 : zAV} {m2 : Nat} {mx : Int} {o3 : Option (Int × St)} {f : Int → St → Option (α × St)} (h1 : zle4 st = true) (h2 : Nat.ble (zargs [.inr (.inr r), v2, v3]).length mx.toNat = true) (hc : zE φ Jl E d m2 (zB m2 0) (zent mx.toNat [.inr (.inr r), v2, v3]) [] s o3) (k : ∀ (w : Int) s1, zE φ J E (d + 1) m is L (.inr (.inl w) :: st) s1 (f w s1)) : zE φ J E (d + 1) m ((91, pc, m2, 3, mx, tb) :: is) L (v3 :: v2 :: .inr (.inr r) :: st) s (yn0 r (ybd o3 f)) := zE_g fun hr => zE_c (i := (91, pc, m2, 3, mx, tb)) (st := v3 :: v2 :: .inr (.inr r) :: st) (J2 := Jl) (by show ¬ 91 < 90; omega) (by show 91 < 95; omega) (by show (if 0 < r then some (m2, 3, mx.toNat) else none) = _; rw [if_pos hr]) (zcok (w := [v3, v2, .inr (.inr r)]) (q := []) rfl h1 h2) hc k
theorem zq_92_3l {r : Nat} {v2 v3 : zAV} {cp : Int} {c : Nat} {m2 : Nat} {mx : Int} {o3 : Option (Int × St)} {f : Int → St → Option (α × St)} (hr : zisA c (ztg (φ s) r) = true) (h1 : zle4 st = true) (h2 : Nat.ble (zargs [.inr (.inr r), v2, v3]).length mx.toNat = true) (hc : zE φ Jl E d m2 (zB m2 0) (zent mx.toNat [.inr (.inr r), v2, v3]) [] s o3) (k : ∀ (w : Int) s1, zE φ J E (d + 1) m is L (.inr (.inl w) :: st) s1 (f w s1)) : zE φ J E (d + 1) m ((92, pc, m2, 3, mx, [(cp, c)]) :: is) L (v3 :: v2 :: .inr (.inr r) :: st) s (ybd o3 f) := zE_c (i := (92, pc, m2, 3, mx, [(cp, c)])) (st := v3 :: v2 :: .inr (.inr r) :: st) (J2 := Jl) (by show ¬ 92 < 90; omega) (by show 92 < 95; omega) (by show (if ([(cp, c)].any fun q => zisA q.2 (ztg (φ s) r)) = true then some (m2, 3, mx.toNat) else none) = _; rw [if_pos (by simp only [List.any_cons, List.any_nil, Bool.or_false]; exact hr)]) (zcok (w := [v3, v2, .inr (.inr r)]) (q := []) rfl h1 h2) hc k
theorem zq_90_3r {v1 v2 v3 : zAV} {m2 : Nat} {mx : Int} {o3 : Option (Nat × St)} {f : Nat → St → Option (α × St)} (h1 : zle4 st = true) (h2 : Nat.ble (zargs [v1, v2, v3]).length mx.toNat = true) (hc : zE φ Jr E d m2 (zB m2 0) (zent mx.toNat [v1, v2, v3]) [] s o3) (k : ∀ (w : Nat) s1, zE φ J E (d + 1) m is L (.inr (.inr w) :: st) s1 (f w s1)) : zE φ J E (d + 1) m ((90, pc, m2, 3, mx, tb) :: is) L (v3 :: v2 :: v1 :: st) s (ybd o3 f) := zE_c (i := (90, pc, m2, 3, mx, tb)) (st := v3 :: v2 :: v1 :: st) (J2 := Jr) (by show ¬ 90 < 90; omega) (by show 90 < 95; omega) rfl (zcok (w := [v3, v2, v1]) (q := []) rfl h1 h2) hc k
theorem zq_91_3r {r : Nat} {v2 v3 : zAV} {m2 : Nat} {mx : Int} {o3 : Option (Nat × St)} {f : Nat → St → Option (α × St)} (h1 : zle4 st = true) (h2 : Nat.ble (zargs [.inr (.inr r), v2, v3]).length mx.toNat = true) (hc : zE φ Jr E d m2 (zB m2 0) (zent mx.toNat [.inr (.inr r), v2, v3]) [] s o3) (k : ∀ (w : Nat) s1, zE φ J E (d + 1) m is L (.inr (.inr w) :: st) s1 (f w s1)) : zE φ J E (d + 1) m ((91, pc, m2, 3, mx, tb) :: is) L (v3 :: v2 :: .inr (.inr r) :: st) s (yn0 r (ybd o3 f)) := zE_g fun hr => zE_c (i := (91, pc, m2, 3, mx, tb)) (st := v3 :: v2 :: .inr (.inr r) :: st) (J2 := Jr) (by show ¬ 91 < 90; omega) (by show 91 < 95; omega) (by show (if 0 < r then some (m2, 3, mx.toNat) else none) = _; rw [if_pos hr]) (zcok (w := [v3, v2, .inr (.inr r)]) (q := []) rfl h1 h2) hc k
theorem zq_92_3r {r : Nat} {v2 v3 : zAV} {cp : Int} {c : Nat} {m2 : Nat} {mx : Int} {o3 : Option (Nat × St)} {f : Nat → St → Option (α × St)} (hr : zisA c (ztg (φ s) r) = true) (h1 : zle4 st = true) (h2 : Nat.ble (zargs [.inr (.inr r), v2, v3]).length mx.toNat = true) (hc : zE φ Jr E d m2 (zB m2 0) (zent mx.toNat [.inr (.inr r), v2, v3]) [] s o3) (k : ∀ (w : Nat) s1, zE φ J E (d + 1) m is L (.inr (.inr w) :: st) s1 (f w s1)) : zE φ J E (d + 1) m ((92, pc, m2, 3, mx, [(cp, c)]) :: is) L (v3 :: v2 :: .inr (.inr r) :: st) s (ybd o3 f) := zE_c (i := (92, pc, m2, 3, mx, [(cp, c)])) (st := v3 :: v2 :: .inr (.inr r) :: st) (J2 := Jr) (by show ¬ 92 < 90; omega) (by show 92 < 95; omega) (by show (if ([(cp, c)].any fun q => zisA q.2 (ztg (φ s) r)) = true then some (m2, 3, mx.toNat) else none) = _; rw [if_pos (by simp only [List.any_cons, List.any_nil, Bool.or_false]; exact hr)]) (zcok (w := [v3, v2, .inr (.inr r)]) (q := []) rfl h1 h2) hc k
theorem zq_90_3v {v1 v2 v3 : zAV} {m2 : Nat} {mx : Int} {o3 : Option (Unit × St)} {f : Unit → St → Option (α × St)} (h1 : zle4 st = true) (h2 : Nat.ble (zargs [v1, v2, v3]).length mx.toNat = true) (hc : zE φ Jv E d m2 (zB m2 0) (zent mx.toNat [v1, v2, v3]) [] s o3) (k : ∀ (w : Unit) s1, zE φ J E (d + 1) m is L (st) s1 (f w s1)) : zE φ J E (d + 1) m ((90, pc, m2, 3, mx, tb) :: is) L (v3 :: v2 :: v1 :: st) s (ybd o3 f) := zE_c (i := (90, pc, m2, 3, mx, tb)) (st := v3 :: v2 :: v1 :: st) (J2 := Jv) (by show ¬ 90 < 90; omega) (by show 90 < 95; omega) rfl (zcok (w := [v3, v2, v1]) (q := []) rfl h1 h2) hc k
theorem zq_91_3v {r : Nat} {v2 v3 : zAV} {m2 : Nat} {mx : Int} {o3 : Option (Unit × St)} {f : Unit → St → Option (α × St)} (h1 : zle4 st = true) (h2 : Nat.ble (zargs [.inr (.inr r), v2, v3]).length mx.toNat = true) (hc : zE φ Jv E d m2 (zB m2 0) (zent mx.toNat [.inr (.inr r), v2, v3]) [] s o3) (k : ∀ (w : Unit) s1, zE φ J E (d + 1) m is L (st) s1 (f w s1)) : zE φ J E (d + 1) m ((91, pc, m2, 3, mx, tb) :: is) L (v3 :: v2 :: .inr (.inr r) :: st) s (yn0 r (ybd o3 f)) := zE_g fun hr => zE_c (i := (91, pc, m2, 3, mx, tb)) (st := v3 :: v2 :: .inr (.inr r) :: st) (J2 := Jv) (by show ¬ 91 < 90; omega) (by show 91 < 95; omega) (by show (if 0 < r then some (m2, 3, mx.toNat) else none) = _; rw [if_pos hr]) (zcok (w := [v3, v2, .inr (.inr r)]) (q := []) rfl h1 h2) hc k
theorem zq_92_3v {r : Nat} {v2 v3 : zAV} {cp : Int} {c : Nat} {m2 : Nat} {mx : Int} {o3 : Option (Unit × St)} {f : Unit → St → Option (α × St)} (hr : zisA c (ztg (φ s) r) = true) (h1 : zle4 st = true) (h2 : Nat.ble (zargs [.inr (.inr r), v2, v3]).length mx.toNat = true) (hc : zE φ Jv E d m2 (zB m2 0) (zent mx.toNat [.inr (.inr r), v2, v3]) [] s o3) (k : ∀ (w : Unit) s1, zE φ J E (d + 1) m is L (st) s1 (f w s1)) : zE φ J E (d + 1) m ((92, pc, m2, 3, mx, [(cp, c)]) :: is) L (v3 :: v2 :: .inr (.inr r) :: st) s (ybd o3 f) := zE_c (i := (92, pc, m2, 3, mx, [(cp, c)])) (st := v3 :: v2 :: .inr (.inr r) :: st) (J2 := Jv) (by show ¬ 92 < 90; omega) (by show 92 < 95; omega) (by show (if ([(cp, c)].any fun q => zisA q.2 (ztg (φ s) r)) = true then some (m2, 3, mx.toNat) else none) = _; rw [if_pos (by simp only [List.any_cons, List.any_nil, Bool.or_false]; exact hr)]) (zcok (w := [v3, v2, .inr (.inr r)]) (q := []) rfl h1 h2) hc k
theorem zq_90_4i {v1 v2 v3 v4 : zAV} {m2 : Nat} {mx : Int} {o3 : Option (Int × St)} {f : Int → St → Option (α × St)} (h1 : zle4 st = true) (h2 : Nat.ble (zargs [v1, v2, v3, v4]).length mx.toNat = true) (hc : zE φ Ji E d m2 (zB m2 0) (zent mx.toNat [v1, v2, v3, v4]) [] s o3) (k : ∀ (w : Int) s1, zE φ J E (d + 1) m is L (.inl w :: st) s1 (f w s1)) : zE φ J E (d + 1) m ((90, pc, m2, 4, mx, tb) :: is) L (v4 :: v3 :: v2 :: v1 :: st) s (ybd o3 f) := zE_c (i := (90, pc, m2, 4, mx, tb)) (st := v4 :: v3 :: v2 :: v1 :: st) (J2 := Ji) (by show ¬ 90 < 90; omega) (by show 90 < 95; omega) rfl (zcok (w := [v4, v3, v2, v1]) (q := []) rfl h1 h2) hc k
theorem zq_91_4i {r : Nat} {v2 v3 v4 : zAV} {m2 : Nat} {mx : Int} {o3 : Option (Int × St)} {f : Int → St → Option (α × St)} (h1 : zle4 st = true) (h2 : Nat.ble (zargs [.inr (.inr r), v2, v3, v4]).length mx.toNat = true) (hc : zE φ Ji E d m2 (zB m2 0) (zent mx.toNat [.inr (.inr r), v2, v3, v4]) [] s o3) (k : ∀ (w : Int) s1, zE φ J E (d + 1) m is L (.inl w :: st) s1 (f w s1)) : zE φ J E (d + 1) m ((91, pc, m2, 4, mx, tb) :: is) L (v4 :: v3 :: v2 :: .inr (.inr r) :: st) s (yn0 r (ybd o3 f)) := zE_g fun hr => zE_c (i := (91, pc, m2, 4, mx, tb)) (st := v4 :: v3 :: v2 :: .inr (.inr r) :: st) (J2 := Ji) (by show ¬ 91 < 90; omega) (by show 91 < 95; omega) (by show (if 0 < r then some (m2, 4, mx.toNat) else none) = _; rw [if_pos hr]) (zcok (w := [v4, v3, v2, .inr (.inr r)]) (q := []) rfl h1 h2) hc k
theorem zq_92_4i {r : Nat} {v2 v3 v4 : zAV} {cp : Int} {c : Nat} {m2 : Nat} {mx : Int} {o3 : Option (Int × St)} {f : Int → St → Option (α × St)} (hr : zisA c (ztg (φ s) r) = true) (h1 : zle4 st = true) (h2 : Nat.ble (zargs [.inr (.inr r), v2, v3, v4]).length mx.toNat = true) (hc : zE φ Ji E d m2 (zB m2 0) (zent mx.toNat [.inr (.inr r), v2, v3, v4]) [] s o3) (k : ∀ (w : Int) s1, zE φ J E (d + 1) m is L (.inl w :: st) s1 (f w s1)) : zE φ J E (d + 1) m ((92, pc, m2, 4, mx, [(cp, c)]) :: is) L (v4 :: v3 :: v2 :: .inr (.inr r) :: st) s (ybd o3 f) := zE_c (i := (92, pc, m2, 4, mx, [(cp, c)])) (st := v4 :: v3 :: v2 :: .inr (.inr r) :: st) (J2 := Ji) (by show ¬ 92 < 90; omega) (by show 92 < 95; omega) (by show (if ([(cp, c)].any fun q => zisA q.2 (ztg (φ s) r)) = true then some (m2, 4, mx.toNat) else none) = _; rw [if_pos (by simp only [List.any_cons, List.any_nil, Bool.or_false]; exact hr)]) (zcok (w := [v4, v3, v2, .inr (.inr r)]) (q := []) rfl h1 h2) hc k
theorem zq_90_4l {v1 v2 v3 v4 : zAV} {m2 : Nat} {mx : Int} {o3 : Option (Int × St)} {f : Int → St → Option (α × St)} (h1 : zle4 st = true) (h2 : Nat.ble (zargs [v1, v2, v3, v4]).length mx.toNat = true) (hc : zE φ Jl E d m2 (zB m2 0) (zent mx.toNat [v1, v2, v3, v4]) [] s o3) (k : ∀ (w : Int) s1, zE φ J E (d + 1) m is L (.inr (.inl w) :: st) s1 (f w s1)) : zE φ J E (d + 1) m ((90, pc, m2, 4, mx, tb) :: is) L (v4 :: v3 :: v2 :: v1 :: st) s (ybd o3 f) := zE_c (i := (90, pc, m2, 4, mx, tb)) (st := v4 :: v3 :: v2 :: v1 :: st) (J2 := Jl) (by show ¬ 90 < 90; omega) (by show 90 < 95; omega) rfl (zcok (w := [v4, v3, v2, v1]) (q := []) rfl h1 h2) hc k
theorem zq_91_4l {r : Nat} {v2 v3 v4 : zAV} {m2 : Nat} {mx : Int} {o3 : Option (Int × St)} {f : Int → St → Option (α × St)} (h1 : zle4 st = true) (h2 : Nat.ble (zargs [.inr (.inr r), v2, v3, v4]).length mx.toNat = true) (hc : zE φ Jl E d m2 (zB m2 0) (zent mx.toNat [.inr (.inr r), v2, v3, v4]) [] s o3) (k : ∀ (w : Int) s1, zE φ J E (d + 1) m is L (.inr (.inl w) :: st) s1 (f w s1)) : zE φ J E (d + 1) m ((91, pc, m2, 4, mx, tb) :: is) L (v4 :: v3 :: v2 :: .inr (.inr r) :: st) s (yn0 r (ybd o3 f)) := zE_g fun hr => zE_c (i := (91, pc, m2, 4, mx, tb)) (st := v4 :: v3 :: v2 :: .inr (.inr r) :: st) (J2 := Jl) (by show ¬ 91 < 90; omega) (by show 91 < 95; omega) (by show (if 0 < r then some (m2, 4, mx.toNat) else none) = _; rw [if_pos hr]) (zcok (w := [v4, v3, v2, .inr (.inr r)]) (q := []) rfl h1 h2) hc k
theorem zq_92_4l {r : Nat} {v2 v3 v4 : zAV} {cp : Int} {c : Nat} {m2 : Nat} {mx : Int} {o3 : Option (Int × St)} {f : Int → St → Option (α × St)} (hr : zisA c (ztg (φ s) r) = true) (h1 : zle4 st = true) (h2 : Nat.ble (zargs [.inr (.inr r), v2, v3, v4]).length mx.toNat = true) (hc : zE φ Jl E d m2 (zB m2 0) (zent mx.toNat [.inr (.inr r), v2, v3, v4]) [] s o3) (k : ∀ (w : Int) s1, zE φ J E (d + 1) m is L (.inr (.inl w) :: st) s1 (f w s1)) : zE φ J E (d + 1) m ((92, pc, m2, 4, mx, [(cp, c)]) :: is) L (v4 :: v3 :: v2 :: .inr (.inr r) :: st) s (ybd o3 f) := zE_c (i := (92, pc, m2, 4, mx, [(cp, c)])) (st := v4 :: v3 :: v2 :: .inr (.inr r) :: st) (J2 := Jl) (by show ¬ 92 < 90; omega) (by show 92 < 95; omega) (by show (if ([(cp, c)].any fun q => zisA q.2 (ztg (φ s) r)) = true then some (m2, 4, mx.toNat) else none) = _; rw [if_pos (by simp only [List.any_cons, List.any_nil, Bool.or_false]; exact hr)]) (zcok (w := [v4, v3, v2, .inr (.inr r)]) (q := []) rfl h1 h2) hc k
theorem zq_90_4r {v1 v2 v3 v4 : zAV} {m2 : Nat} {mx : Int} {o3 : Option (Nat × St)} {f : Nat → St → Option (α × St)} (h1 : zle4 st = true) (h2 : Nat.ble (zargs [v1, v2, v3, v4]).length mx.toNat = true) (hc : zE φ Jr E d m2 (zB m2 0) (zent mx.toNat [v1, v2, v3, v4]) [] s o3) (k : ∀ (w : Nat) s1, zE φ J E (d + 1) m is L (.inr (.inr w) :: st) s1 (f w s1)) : zE φ J E (d + 1) m ((90, pc, m2, 4, mx, tb) :: is) L (v4 :: v3 :: v2 :: v1 :: st) s (ybd o3 f) := zE_c (i := (90, pc, m2, 4, mx, tb)) (st := v4 :: v3 :: v2 :: v1 :: st) (J2 := Jr) (by show ¬ 90 < 90; omega) (by show 90 < 95; omega) rfl (zcok (w := [v4, v3, v2, v1]) (q := []) rfl h1 h2) hc k
theorem zq_91_4r {r : Nat} {v2 v3 v4 : zAV} {m2 : Nat} {mx : Int} {o3 : Option (Nat × St)} {f : Nat → St → Option (α × St)} (h1 : zle4 st = true) (h2 : Nat.ble (zargs [.inr (.inr r), v2, v3, v4]).length mx.toNat = true) (hc : zE φ Jr E d m2 (zB m2 0) (zent mx.toNat [.inr (.inr r), v2, v3, v4]) [] s o3) (k : ∀ (w : Nat) s1, zE φ J E (d + 1) m is L (.inr (.inr w) :: st) s1 (f w s1)) : zE φ J E (d + 1) m ((91, pc, m2, 4, mx, tb) :: is) L (v4 :: v3 :: v2 :: .inr (.inr r) :: st) s (yn0 r (ybd o3 f)) := zE_g fun hr => zE_c (i := (91, pc, m2, 4, mx, tb)) (st := v4 :: v3 :: v2 :: .inr (.inr r) :: st) (J2 := Jr) (by show ¬ 91 < 90; omega) (by show 91 < 95; omega) (by show (if 0 < r then some (m2, 4, mx.toNat) else none) = _; rw [if_pos hr]) (zcok (w := [v4, v3, v2, .inr (.inr r)]) (q := []) rfl h1 h2) hc k
theorem zq_92_4r {r : Nat} {v2 v3 v4 : zAV} {cp : Int} {c : Nat} {m2 : Nat} {mx : Int} {o3 : Option (Nat × St)} {f : Nat → St → Option (α × St)} (hr : zisA c (ztg (φ s) r) = true) (h1 : zle4 st = true) (h2 : Nat.ble (zargs [.inr (.inr r), v2, v3, v4]).length mx.toNat = true) (hc : zE φ Jr E d m2 (zB m2 0) (zent mx.toNat [.inr (.inr r), v2, v3, v4]) [] s o3) (k : ∀ (w : Nat) s1, zE φ J E (d + 1) m is L (.inr (.inr w) :: st) s1 (f w s1)) : zE φ J E (d + 1) m ((92, pc, m2, 4, mx, [(cp, c)]) :: is) L (v4 :: v3 :: v2 :: .inr (.inr r) :: st) s (ybd o3 f) := zE_c (i := (92, pc, m2, 4, mx, [(cp, c)])) (st := v4 :: v3 :: v2 :: .inr (.inr r) :: st) (J2 := Jr) (by show ¬ 92 < 90; omega) (by show 92 < 95; omega) (by show (if ([(cp, c)].any fun q => zisA q.2 (ztg (φ s) r)) = true then some (m2, 4, mx.toNat) else none) = _; rw [if_pos (by simp only [List.any_cons, List.any_nil, Bool.or_false]; exact hr)]) (zcok (w := [v4, v3, v2, .inr (.inr r)]) (q := []) rfl h1 h2) hc k
theorem zq_90_4v {v1 v2 v3 v4 : zAV} {m2 : Nat} {mx : Int} {o3 : Option (Unit × St)} {f : Unit → St → Option (α × St)} (h1 : zle4 st = true) (h2 : Nat.ble (zargs [v1, v2, v3, v4]).length mx.toNat = true) (hc : zE φ Jv E d m2 (zB m2 0) (zent mx.toNat [v1, v2, v3, v4]) [] s o3) (k : ∀ (w : Unit) s1, zE φ J E (d + 1) m is L (st) s1 (f w s1)) : zE φ J E (d + 1) m ((90, pc, m2, 4, mx, tb) :: is) L (v4 :: v3 :: v2 :: v1 :: st) s (ybd o3 f) := zE_c (i := (90, pc, m2, 4, mx, tb)) (st := v4 :: v3 :: v2 :: v1 :: st) (J2 := Jv) (by show ¬ 90 < 90; omega) (by show 90 < 95; omega) rfl (zcok (w := [v4, v3, v2, v1]) (q := []) rfl h1 h2) hc k
theorem zq_91_4v {r : Nat} {v2 v3 v4 : zAV} {m2 : Nat} {mx : Int} {o3 : Option (Unit × St)} {f : Unit → St → Option (α × St)} (h1 : zle4 st = true) (h2 : Nat.ble (zargs [.inr (.inr r), v2, v3, v4]).length mx.toNat = true) (hc : zE φ Jv E d m2 (zB m2 0) (zent mx.toNat [.inr (.inr r), v2, v3, v4]) [] s o3) (k : ∀ (w : Unit) s1, zE φ J E (d + 1) m is L (st) s1 (f w s1)) : zE φ J E (d + 1) m ((91, pc, m2, 4, mx, tb) :: is) L (v4 :: v3 :: v2 :: .inr (.inr r) :: st) s (yn0 r (ybd o3 f)) := zE_g fun hr => zE_c (i := (91, pc, m2, 4, mx, tb)) (st := v4 :: v3 :: v2 :: .inr (.inr r) :: st) (J2 := Jv) (by show ¬ 91 < 90; omega) (by show 91 < 95; omega) (by show (if 0 < r then some (m2, 4, mx.toNat) else none) = _; rw [if_pos hr]) (zcok (w := [v4, v3, v2, .inr (.inr r)]) (q := []) rfl h1 h2) hc k
theorem zq_92_4v {r : Nat} {v2 v3 v4 : zAV} {cp : Int} {c : Nat} {m2 : Nat} {mx : Int} {o3 : Option (Unit × St)} {f : Unit → St → Option (α × St)} (hr : zisA c (ztg (φ s) r) = true) (h1 : zle4 st = true) (h2 : Nat.ble (zargs [.inr (.inr r), v2, v3, v4]).length mx.toNat = true) (hc : zE φ Jv E d m2 (zB m2 0) (zent mx.toNat [.inr (.inr r), v2, v3, v4]) [] s o3) (k : ∀ (w : Unit) s1, zE φ J E (d + 1) m is L (st) s1 (f w s1)) : zE φ J E (d + 1) m ((92, pc, m2, 4, mx, [(cp, c)]) :: is) L (v4 :: v3 :: v2 :: .inr (.inr r) :: st) s (ybd o3 f) := zE_c (i := (92, pc, m2, 4, mx, [(cp, c)])) (st := v4 :: v3 :: v2 :: .inr (.inr r) :: st) (J2 := Jv) (by show ¬ 92 < 90; omega) (by show 92 < 95; omega) (by show (if ([(cp, c)].any fun q => zisA q.2 (ztg (φ s) r)) = true then some (m2, 4, mx.toNat) else none) = _; rw [if_pos (by simp only [List.any_cons, List.any_nil, Bool.or_false]; exact hr)]) (zcok (w := [v4, v3, v2, .inr (.inr r)]) (q := []) rfl h1 h2) hc k
theorem zq_90_5i {v1 v2 v3 v4 v5 : zAV} {m2 : Nat} {mx : Int} {o3 : Option (Int × St)} {f : Int → St → Option (α × St)} (h1 : zle4 st = true) (h2 : Nat.ble (zargs [v1, v2, v3, v4, v5]).length mx.toNat = true) (hc : zE φ Ji E d m2 (zB m2 0) (zent mx.toNat [v1, v2, v3, v4, v5]) [] s o3) (k : ∀ (w : Int) s1, zE φ J E (d + 1) m is L (.inl w :: st) s1 (f w s1)) : zE φ J E (d + 1) m ((90, pc, m2, 5, mx, tb) :: is) L (v5 :: v4 :: v3 :: v2 :: v1 :: st) s (ybd o3 f) := zE_c (i := (90, pc, m2, 5, mx, tb)) (st := v5 :: v4 :: v3 :: v2 :: v1 :: st) (J2 := Ji) (by show ¬ 90 < 90; omega) (by show 90 < 95; omega) rfl (zcok (w := [v5, v4, v3, v2, v1]) (q := []) rfl h1 h2) hc k
theorem zq_91_5i {r : Nat} {v2 v3 v4 v5 : zAV} {m2 : Nat} {mx : Int} {o3 : Option (Int × St)} {f : Int → St → Option (α × St)} (h1 : zle4 st = true) (h2 : Nat.ble (zargs [.inr (.inr r), v2, v3, v4, v5]).length mx.toNat = true) (hc : zE φ Ji E d m2 (zB m2 0) (zent mx.toNat [.inr (.inr r), v2, v3, v4, v5]) [] s o3) (k : ∀ (w : Int) s1, zE φ J E (d + 1) m is L (.inl w :: st) s1 (f w s1)) : zE φ J E (d + 1) m ((91, pc, m2, 5, mx, tb) :: is) L (v5 :: v4 :: v3 :: v2 :: .inr (.inr r) :: st) s (yn0 r (ybd o3 f)) := zE_g fun hr => zE_c (i := (91, pc, m2, 5, mx, tb)) (st := v5 :: v4 :: v3 :: v2 :: .inr (.inr r) :: st) (J2 := Ji) (by show ¬ 91 < 90; omega) (by show 91 < 95; omega) (by show (if 0 < r then some (m2, 5, mx.toNat) else none) = _; rw [if_pos hr]) (zcok (w := [v5, v4, v3, v2, .inr (.inr r)]) (q := []) rfl h1 h2) hc k
theorem zq_92_5i {r : Nat} {v2 v3 v4 v5 : zAV} {cp : Int} {c : Nat} {m2 : Nat} {mx : Int} {o3 : Option (Int × St)} {f : Int → St → Option (α × St)} (hr : zisA c (ztg (φ s) r) = true) (h1 : zle4 st = true) (h2 : Nat.ble (zargs [.inr (.inr r), v2, v3, v4, v5]).length mx.toNat = true) (hc : zE φ Ji E d m2 (zB m2 0) (zent mx.toNat [.inr (.inr r), v2, v3, v4, v5]) [] s o3) (k : ∀ (w : Int) s1, zE φ J E (d + 1) m is L (.inl w :: st) s1 (f w s1)) : zE φ J E (d + 1) m ((92, pc, m2, 5, mx, [(cp, c)]) :: is) L (v5 :: v4 :: v3 :: v2 :: .inr (.inr r) :: st) s (ybd o3 f) := zE_c (i := (92, pc, m2, 5, mx, [(cp, c)])) (st := v5 :: v4 :: v3 :: v2 :: .inr (.inr r) :: st) (J2 := Ji) (by show ¬ 92 < 90; omega) (by show 92 < 95; omega) (by show (if ([(cp, c)].any fun q => zisA q.2 (ztg (φ s) r)) = true then some (m2, 5, mx.toNat) else none) = _; rw [if_pos (by simp only [List.any_cons, List.any_nil, Bool.or_false]; exact hr)]) (zcok (w := [v5, v4, v3, v2, .inr (.inr r)]) (q := []) rfl h1 h2) hc k
theorem zq_90_5l {v1 v2 v3 v4 v5 : zAV} {m2 : Nat} {mx : Int} {o3 : Option (Int × St)} {f : Int → St → Option (α × St)} (h1 : zle4 st = true) (h2 : Nat.ble (zargs [v1, v2, v3, v4, v5]).length mx.toNat = true) (hc : zE φ Jl E d m2 (zB m2 0) (zent mx.toNat [v1, v2, v3, v4, v5]) [] s o3) (k : ∀ (w : Int) s1, zE φ J E (d + 1) m is L (.inr (.inl w) :: st) s1 (f w s1)) : zE φ J E (d + 1) m ((90, pc, m2, 5, mx, tb) :: is) L (v5 :: v4 :: v3 :: v2 :: v1 :: st) s (ybd o3 f) := zE_c (i := (90, pc, m2, 5, mx, tb)) (st := v5 :: v4 :: v3 :: v2 :: v1 :: st) (J2 := Jl) (by show ¬ 90 < 90; omega) (by show 90 < 95; omega) rfl (zcok (w := [v5, v4, v3, v2, v1]) (q := []) rfl h1 h2) hc k
theorem zq_91_5l {r : Nat} {v2 v3 v4 v5 : zAV} {m2 : Nat} {mx : Int} {o3 : Option (Int × St)} {f : Int → St → Option (α × St)} (h1 : zle4 st = true) (h2 : Nat.ble (zargs [.inr (.inr r), v2, v3, v4, v5]).length mx.toNat = true) (hc : zE φ Jl E d m2 (zB m2 0) (zent mx.toNat [.inr (.inr r), v2, v3, v4, v5]) [] s o3) (k : ∀ (w : Int) s1, zE φ J E (d + 1) m is L (.inr (.inl w) :: st) s1 (f w s1)) : zE φ J E (d + 1) m ((91, pc, m2, 5, mx, tb) :: is) L (v5 :: v4 :: v3 :: v2 :: .inr (.inr r) :: st) s (yn0 r (ybd o3 f)) := zE_g fun hr => zE_c (i := (91, pc, m2, 5, mx, tb)) (st := v5 :: v4 :: v3 :: v2 :: .inr (.inr r) :: st) (J2 := Jl) (by show ¬ 91 < 90; omega) (by show 91 < 95; omega) (by show (if 0 < r then some (m2, 5, mx.toNat) else none) = _; rw [if_pos hr]) (zcok (w := [v5, v4, v3, v2, .inr (.inr r)]) (q := []) rfl h1 h2) hc k
theorem zq_92_5l {r : Nat} {v2 v3 v4 v5 : zAV} {cp : Int} {c : Nat} {m2 : Nat} {mx : Int} {o3 : Option (Int × St)} {f : Int → St → Option (α × St)} (hr : zisA c (ztg (φ s) r) = true) (h1 : zle4 st = true) (h2 : Nat.ble (zargs [.inr (.inr r), v2, v3, v4, v5]).length mx.toNat = true) (hc : zE φ Jl E d m2 (zB m2 0) (zent mx.toNat [.inr (.inr r), v2, v3, v4, v5]) [] s o3) (k : ∀ (w : Int) s1, zE φ J E (d + 1) m is L (.inr (.inl w) :: st) s1 (f w s1)) : zE φ J E (d + 1) m ((92, pc, m2, 5, mx, [(cp, c)]) :: is) L (v5 :: v4 :: v3 :: v2 :: .inr (.inr r) :: st) s (ybd o3 f) := zE_c (i := (92, pc, m2, 5, mx, [(cp, c)])) (st := v5 :: v4 :: v3 :: v2 :: .inr (.inr r) :: st) (J2 := Jl) (by show ¬ 92 < 90; omega) (by show 92 < 95; omega) (by show (if ([(cp, c)].any fun q => zisA q.2 (ztg (φ s) r)) = true then some (m2, 5, mx.toNat) else none) = _; rw [if_pos (by simp only [List.any_cons, List.any_nil, Bool.or_false]; exact hr)]) (zcok (w := [v5, v4, v3, v2, .inr (.inr r)]) (q := []) rfl h1 h2) hc k
theorem zq_90_5r {v1 v2 v3 v4 v5 : zAV} {m2 : Nat} {mx : Int} {o3 : Option (Nat × St)} {f : Nat → St → Option (α × St)} (h1 : zle4 st = true) (h2 : Nat.ble (zargs [v1, v2, v3, v4, v5]).length mx.toNat = true) (hc : zE φ Jr E d m2 (zB m2 0) (zent mx.toNat [v1, v2, v3, v4, v5]) [] s o3) (k : ∀ (w : Nat) s1, zE φ J E (d + 1) m is L (.inr (.inr w) :: st) s1 (f w s1)) : zE φ J E (d + 1) m ((90, pc, m2, 5, mx, tb) :: is) L (v5 :: v4 :: v3 :: v2 :: v1 :: st) s (ybd o3 f) := zE_c (i := (90, pc, m2, 5, mx, tb)) (st := v5 :: v4 :: v3 :: v2 :: v1 :: st) (J2 := Jr) (by show ¬ 90 < 90; omega) (by show 90 < 95; omega) rfl (zcok (w := [v5, v4, v3, v2, v1]) (q := []) rfl h1 h2) hc k
theorem zq_91_5r {r : Nat} {v2 v3 v4 v5 : zAV} {m2 : Nat} {mx : Int} {o3 : Option (Nat × St)} {f : Nat → St → Option (α × St)} (h1 : zle4 st = true) (h2 : Nat.ble (zargs [.inr (.inr r), v2, v3, v4, v5]).length mx.toNat = true) (hc : zE φ Jr E d m2 (zB m2 0) (zent mx.toNat [.inr (.inr r), v2, v3, v4, v5]) [] s o3) (k : ∀ (w : Nat) s1, zE φ J E (d + 1) m is L (.inr (.inr w) :: st) s1 (f w s1)) : zE φ J E (d + 1) m ((91, pc, m2, 5, mx, tb) :: is) L (v5 :: v4 :: v3 :: v2 :: .inr (.inr r) :: st) s (yn0 r (ybd o3 f)) := zE_g fun hr => zE_c (i := (91, pc, m2, 5, mx, tb)) (st := v5 :: v4 :: v3 :: v2 :: .inr (.inr r) :: st) (J2 := Jr) (by show ¬ 91 < 90; omega) (by show 91 < 95; omega) (by show (if 0 < r then some (m2, 5, mx.toNat) else none) = _; rw [if_pos hr]) (zcok (w := [v5, v4, v3, v2, .inr (.inr r)]) (q := []) rfl h1 h2) hc k
theorem zq_92_5r {r : Nat} {v2 v3 v4 v5 : zAV} {cp : Int} {c : Nat} {m2 : Nat} {mx : Int} {o3 : Option (Nat × St)} {f : Nat → St → Option (α × St)} (hr : zisA c (ztg (φ s) r) = true) (h1 : zle4 st = true) (h2 : Nat.ble (zargs [.inr (.inr r), v2, v3, v4, v5]).length mx.toNat = true) (hc : zE φ Jr E d m2 (zB m2 0) (zent mx.toNat [.inr (.inr r), v2, v3, v4, v5]) [] s o3) (k : ∀ (w : Nat) s1, zE φ J E (d + 1) m is L (.inr (.inr w) :: st) s1 (f w s1)) : zE φ J E (d + 1) m ((92, pc, m2, 5, mx, [(cp, c)]) :: is) L (v5 :: v4 :: v3 :: v2 :: .inr (.inr r) :: st) s (ybd o3 f) := zE_c (i := (92, pc, m2, 5, mx, [(cp, c)])) (st := v5 :: v4 :: v3 :: v2 :: .inr (.inr r) :: st) (J2 := Jr) (by show ¬ 92 < 90; omega) (by show 92 < 95; omega) (by show (if ([(cp, c)].any fun q => zisA q.2 (ztg (φ s) r)) = true then some (m2, 5, mx.toNat) else none) = _; rw [if_pos (by simp only [List.any_cons, List.any_nil, Bool.or_false]; exact hr)]) (zcok (w := [v5, v4, v3, v2, .inr (.inr r)]) (q := []) rfl h1 h2) hc k
theorem zq_90_5v {v1 v2 v3 v4 v5 : zAV} {m2 : Nat} {mx : Int} {o3 : Option (Unit × St)} {f : Unit → St → Option (α × St)} (h1 : zle4 st = true) (h2 : Nat.ble (zargs [v1, v2, v3, v4, v5]).length mx.toNat = true) (hc : zE φ Jv E d m2 (zB m2 0) (zent mx.toNat [v1, v2, v3, v4, v5]) [] s o3) (k : ∀ (w : Unit) s1, zE φ J E (d + 1) m is L (st) s1 (f w s1)) : zE φ J E (d + 1) m ((90, pc, m2, 5, mx, tb) :: is) L (v5 :: v4 :: v3 :: v2 :: v1 :: st) s (ybd o3 f) := zE_c (i := (90, pc, m2, 5, mx, tb)) (st := v5 :: v4 :: v3 :: v2 :: v1 :: st) (J2 := Jv) (by show ¬ 90 < 90; omega) (by show 90 < 95; omega) rfl (zcok (w := [v5, v4, v3, v2, v1]) (q := []) rfl h1 h2) hc k
theorem zq_91_5v {r : Nat} {v2 v3 v4 v5 : zAV} {m2 : Nat} {mx : Int} {o3 : Option (Unit × St)} {f : Unit → St → Option (α × St)} (h1 : zle4 st = true) (h2 : Nat.ble (zargs [.inr (.inr r), v2, v3, v4, v5]).length mx.toNat = true) (hc : zE φ Jv E d m2 (zB m2 0) (zent mx.toNat [.inr (.inr r), v2, v3, v4, v5]) [] s o3) (k : ∀ (w : Unit) s1, zE φ J E (d + 1) m is L (st) s1 (f w s1)) : zE φ J E (d + 1) m ((91, pc, m2, 5, mx, tb) :: is) L (v5 :: v4 :: v3 :: v2 :: .inr (.inr r) :: st) s (yn0 r (ybd o3 f)) := zE_g fun hr => zE_c (i := (91, pc, m2, 5, mx, tb)) (st := v5 :: v4 :: v3 :: v2 :: .inr (.inr r) :: st) (J2 := Jv) (by show ¬ 91 < 90; omega) (by show 91 < 95; omega) (by show (if 0 < r then some (m2, 5, mx.toNat) else none) = _; rw [if_pos hr]) (zcok (w := [v5, v4, v3, v2, .inr (.inr r)]) (q := []) rfl h1 h2) hc k
theorem zq_92_5v {r : Nat} {v2 v3 v4 v5 : zAV} {cp : Int} {c : Nat} {m2 : Nat} {mx : Int} {o3 : Option (Unit × St)} {f : Unit → St → Option (α × St)} (hr : zisA c (ztg (φ s) r) = true) (h1 : zle4 st = true) (h2 : Nat.ble (zargs [.inr (.inr r), v2, v3, v4, v5]).length mx.toNat = true) (hc : zE φ Jv E d m2 (zB m2 0) (zent mx.toNat [.inr (.inr r), v2, v3, v4, v5]) [] s o3) (k : ∀ (w : Unit) s1, zE φ J E (d + 1) m is L (st) s1 (f w s1)) : zE φ J E (d + 1) m ((92, pc, m2, 5, mx, [(cp, c)]) :: is) L (v5 :: v4 :: v3 :: v2 :: .inr (.inr r) :: st) s (ybd o3 f) := zE_c (i := (92, pc, m2, 5, mx, [(cp, c)])) (st := v5 :: v4 :: v3 :: v2 :: .inr (.inr r) :: st) (J2 := Jv) (by show ¬ 92 < 90; omega) (by show 92 < 95; omega) (by show (if ([(cp, c)].any fun q => zisA q.2 (ztg (φ s) r)) = true then some (m2, 5, mx.toNat) else none) = _; rw [if_pos (by simp only [List.any_cons, List.any_nil, Bool.or_false]; exact hr)]) (zcok (w := [v5, v4, v3, v2, .inr (.inr r)]) (q := []) rfl h1 h2) hc k
theorem zq_90_6i {v1 v2 v3 v4 v5 v6 : zAV} {m2 : Nat} {mx : Int} {o3 : Option (Int × St)} {f : Int → St → Option (α × St)} (h1 : zle4 st = true) (h2 : Nat.ble (zargs [v1, v2, v3, v4, v5, v6]).length mx.toNat = true) (hc : zE φ Ji E d m2 (zB m2 0) (zent mx.toNat [v1, v2, v3, v4, v5, v6]) [] s o3) (k : ∀ (w : Int) s1, zE φ J E (d + 1) m is L (.inl w :: st) s1 (f w s1)) : zE φ J E (d + 1) m ((90, pc, m2, 6, mx, tb) :: is) L (v6 :: v5 :: v4 :: v3 :: v2 :: v1 :: st) s (ybd o3 f) := zE_c (i := (90, pc, m2, 6, mx, tb)) (st := v6 :: v5 :: v4 :: v3 :: v2 :: v1 :: st) (J2 := Ji) (by show ¬ 90 < 90; omega) (by show 90 < 95; omega) rfl (zcok (w := [v6, v5, v4, v3, v2, v1]) (q := []) rfl h1 h2) hc k
theorem zq_91_6i {r : Nat} {v2 v3 v4 v5 v6 : zAV} {m2 : Nat} {mx : Int} {o3 : Option (Int × St)} {f : Int → St → Option (α × St)} (h1 : zle4 st = true) (h2 : Nat.ble (zargs [.inr (.inr r), v2, v3, v4, v5, v6]).length mx.toNat = true) (hc : zE φ Ji E d m2 (zB m2 0) (zent mx.toNat [.inr (.inr r), v2, v3, v4, v5, v6]) [] s o3) (k : ∀ (w : Int) s1, zE φ J E (d + 1) m is L (.inl w :: st) s1 (f w s1)) : zE φ J E (d + 1) m ((91, pc, m2, 6, mx, tb) :: is) L (v6 :: v5 :: v4 :: v3 :: v2 :: .inr (.inr r) :: st) s (yn0 r (ybd o3 f)) := zE_g fun hr => zE_c (i := (91, pc, m2, 6, mx, tb)) (st := v6 :: v5 :: v4 :: v3 :: v2 :: .inr (.inr r) :: st) (J2 := Ji) (by show ¬ 91 < 90; omega) (by show 91 < 95; omega) (by show (if 0 < r then some (m2, 6, mx.toNat) else none) = _; rw [if_pos hr]) (zcok (w := [v6, v5, v4, v3, v2, .inr (.inr r)]) (q := []) rfl h1 h2) hc k
theorem zq_92_6i {r : Nat} {v2 v3 v4 v5 v6 : zAV} {cp : Int} {c : Nat} {m2 : Nat} {mx : Int} {o3 : Option (Int × St)} {f : Int → St → Option (α × St)} (hr : zisA c (ztg (φ s) r) = true) (h1 : zle4 st = true) (h2 : Nat.ble (zargs [.inr (.inr r), v2, v3, v4, v5, v6]).length mx.toNat = true) (hc : zE φ Ji E d m2 (zB m2 0) (zent mx.toNat [.inr (.inr r), v2, v3, v4, v5, v6]) [] s o3) (k : ∀ (w : Int) s1, zE φ J E (d + 1) m is L (.inl w :: st) s1 (f w s1)) : zE φ J E (d + 1) m ((92, pc, m2, 6, mx, [(cp, c)]) :: is) L (v6 :: v5 :: v4 :: v3 :: v2 :: .inr (.inr r) :: st) s (ybd o3 f) := zE_c (i := (92, pc, m2, 6, mx, [(cp, c)])) (st := v6 :: v5 :: v4 :: v3 :: v2 :: .inr (.inr r) :: st) (J2 := Ji) (by show ¬ 92 < 90; omega) (by show 92 < 95; omega) (by show (if ([(cp, c)].any fun q => zisA q.2 (ztg (φ s) r)) = true then some (m2, 6, mx.toNat) else none) = _; rw [if_pos (by simp only [List.any_cons, List.any_nil, Bool.or_false]; exact hr)]) (zcok (w := [v6, v5, v4, v3, v2, .inr (.inr r)]) (q := []) rfl h1 h2) hc k
theorem zq_90_6l {v1 v2 v3 v4 v5 v6 : zAV} {m2 : Nat} {mx : Int} {o3 : Option (Int × St)} {f : Int → St → Option (α × St)} (h1 : zle4 st = true) (h2 : Nat.ble (zargs [v1, v2, v3, v4, v5, v6]).length mx.toNat = true) (hc : zE φ Jl E d m2 (zB m2 0) (zent mx.toNat [v1, v2, v3, v4, v5, v6]) [] s o3) (k : ∀ (w : Int) s1, zE φ J E (d + 1) m is L (.inr (.inl w) :: st) s1 (f w s1)) : zE φ J E (d + 1) m ((90, pc, m2, 6, mx, tb) :: is) L (v6 :: v5 :: v4 :: v3 :: v2 :: v1 :: st) s (ybd o3 f) := zE_c (i := (90, pc, m2, 6, mx, tb)) (st := v6 :: v5 :: v4 :: v3 :: v2 :: v1 :: st) (J2 := Jl) (by show ¬ 90 < 90; omega) (by show 90 < 95; omega) rfl (zcok (w := [v6, v5, v4, v3, v2, v1]) (q := []) rfl h1 h2) hc k
theorem zq_91_6l {r : Nat} {v2 v3 v4 v5 v6 : zAV} {m2 : Nat} {mx : Int} {o3 : Option (Int × St)} {f : Int → St → Option (α × St)} (h1 : zle4 st = true) (h2 : Nat.ble (zargs [.inr (.inr r), v2, v3, v4, v5, v6]).length mx.toNat = true) (hc : zE φ Jl E d m2 (zB m2 0) (zent mx.toNat [.inr (.inr r), v2, v3, v4, v5, v6]) [] s o3) (k : ∀ (w : Int) s1, zE φ J E (d + 1) m is L (.inr (.inl w) :: st) s1 (f w s1)) : zE φ J E (d + 1) m ((91, pc, m2, 6, mx, tb) :: is) L (v6 :: v5 :: v4 :: v3 :: v2 :: .inr (.inr r) :: st) s (yn0 r (ybd o3 f)) := zE_g fun hr => zE_c (i := (91, pc, m2, 6, mx, tb)) (st := v6 :: v5 :: v4 :: v3 :: v2 :: .inr (.inr r) :: st) (J2 := Jl) (by show ¬ 91 < 90; omega) (by show 91 < 95; omega) (by show (if 0 < r then some (m2, 6, mx.toNat) else none) = _; rw [if_pos hr]) (zcok (w := [v6, v5, v4, v3, v2, .inr (.inr r)]) (q := []) rfl h1 h2) hc k
theorem zq_92_6l {r : Nat} {v2 v3 v4 v5 v6 : zAV} {cp : Int} {c : Nat} {m2 : Nat} {mx : Int} {o3 : Option (Int × St)} {f : Int → St → Option (α × St)} (hr : zisA c (ztg (φ s) r) = true) (h1 : zle4 st = true) (h2 : Nat.ble (zargs [.inr (.inr r), v2, v3, v4, v5, v6]).length mx.toNat = true) (hc : zE φ Jl E d m2 (zB m2 0) (zent mx.toNat [.inr (.inr r), v2, v3, v4, v5, v6]) [] s o3) (k : ∀ (w : Int) s1, zE φ J E (d + 1) m is L (.inr (.inl w) :: st) s1 (f w s1)) : zE φ J E (d + 1) m ((92, pc, m2, 6, mx, [(cp, c)]) :: is) L (v6 :: v5 :: v4 :: v3 :: v2 :: .inr (.inr r) :: st) s (ybd o3 f) := zE_c (i := (92, pc, m2, 6, mx, [(cp, c)])) (st := v6 :: v5 :: v4 :: v3 :: v2 :: .inr (.inr r) :: st) (J2 := Jl) (by show ¬ 92 < 90; omega) (by show 92 < 95; omega) (by show (if ([(cp, c)].any fun q => zisA q.2 (ztg (φ s) r)) = true then some (m2, 6, mx.toNat) else none) = _; rw [if_pos (by simp only [List.any_cons, List.any_nil, Bool.or_false]; exact hr)]) (zcok (w := [v6, v5, v4, v3, v2, .inr (.inr r)]) (q := []) rfl h1 h2) hc k
theorem zq_90_6r {v1 v2 v3 v4 v5 v6 : zAV} {m2 : Nat} {mx : Int} {o3 : Option (Nat × St)} {f : Nat → St → Option (α × St)} (h1 : zle4 st = true) (h2 : Nat.ble (zargs [v1, v2, v3, v4, v5, v6]).length mx.toNat = true) (hc : zE φ Jr E d m2 (zB m2 0) (zent mx.toNat [v1, v2, v3, v4, v5, v6]) [] s o3) (k : ∀ (w : Nat) s1, zE φ J E (d + 1) m is L (.inr (.inr w) :: st) s1 (f w s1)) : zE φ J E (d + 1) m ((90, pc, m2, 6, mx, tb) :: is) L (v6 :: v5 :: v4 :: v3 :: v2 :: v1 :: st) s (ybd o3 f) := zE_c (i := (90, pc, m2, 6, mx, tb)) (st := v6 :: v5 :: v4 :: v3 :: v2 :: v1 :: st) (J2 := Jr) (by show ¬ 90 < 90; omega) (by show 90 < 95; omega) rfl (zcok (w := [v6, v5, v4, v3, v2, v1]) (q := []) rfl h1 h2) hc k
theorem zq_91_6r {r : Nat} {v2 v3 v4 v5 v6 : zAV} {m2 : Nat} {mx : Int} {o3 : Option (Nat × St)} {f : Nat → St → Option (α × St)} (h1 : zle4 st = true) (h2 : Nat.ble (zargs [.inr (.inr r), v2, v3, v4, v5, v6]).length mx.toNat = true) (hc : zE φ Jr E d m2 (zB m2 0) (zent mx.toNat [.inr (.inr r), v2, v3, v4, v5, v6]) [] s o3) (k : ∀ (w : Nat) s1, zE φ J E (d + 1) m is L (.inr (.inr w) :: st) s1 (f w s1)) : zE φ J E (d + 1) m ((91, pc, m2, 6, mx, tb) :: is) L (v6 :: v5 :: v4 :: v3 :: v2 :: .inr (.inr r) :: st) s (yn0 r (ybd o3 f)) := zE_g fun hr => zE_c (i := (91, pc, m2, 6, mx, tb)) (st := v6 :: v5 :: v4 :: v3 :: v2 :: .inr (.inr r) :: st) (J2 := Jr) (by show ¬ 91 < 90; omega) (by show 91 < 95; omega) (by show (if 0 < r then some (m2, 6, mx.toNat) else none) = _; rw [if_pos hr]) (zcok (w := [v6, v5, v4, v3, v2, .inr (.inr r)]) (q := []) rfl h1 h2) hc k
theorem zq_92_6r {r : Nat} {v2 v3 v4 v5 v6 : zAV} {cp : Int} {c : Nat} {m2 : Nat} {mx : Int} {o3 : Option (Nat × St)} {f : Nat → St → Option (α × St)} (hr : zisA c (ztg (φ s) r) = true) (h1 : zle4 st = true) (h2 : Nat.ble (zargs [.inr (.inr r), v2, v3, v4, v5, v6]).length mx.toNat = true) (hc : zE φ Jr E d m2 (zB m2 0) (zent mx.toNat [.inr (.inr r), v2, v3, v4, v5, v6]) [] s o3) (k : ∀ (w : Nat) s1, zE φ J E (d + 1) m is L (.inr (.inr w) :: st) s1 (f w s1)) : zE φ J E (d + 1) m ((92, pc, m2, 6, mx, [(cp, c)]) :: is) L (v6 :: v5 :: v4 :: v3 :: v2 :: .inr (.inr r) :: st) s (ybd o3 f) := zE_c (i := (92, pc, m2, 6, mx, [(cp, c)])) (st := v6 :: v5 :: v4 :: v3 :: v2 :: .inr (.inr r) :: st) (J2 := Jr) (by show ¬ 92 < 90; omega) (by show 92 < 95; omega) (by show (if ([(cp, c)].any fun q => zisA q.2 (ztg (φ s) r)) = true then some (m2, 6, mx.toNat) else none) = _; rw [if_pos (by simp only [List.any_cons, List.any_nil, Bool.or_false]; exact hr)]) (zcok (w := [v6, v5, v4, v3, v2, .inr (.inr r)]) (q := []) rfl h1 h2) hc k
theorem zq_90_6v {v1 v2 v3 v4 v5 v6 : zAV} {m2 : Nat} {mx : Int} {o3 : Option (Unit × St)} {f : Unit → St → Option (α × St)} (h1 : zle4 st = true) (h2 : Nat.ble (zargs [v1, v2, v3, v4, v5, v6]).length mx.toNat = true) (hc : zE φ Jv E d m2 (zB m2 0) (zent mx.toNat [v1, v2, v3, v4, v5, v6]) [] s o3) (k : ∀ (w : Unit) s1, zE φ J E (d + 1) m is L (st) s1 (f w s1)) : zE φ J E (d + 1) m ((90, pc, m2, 6, mx, tb) :: is) L (v6 :: v5 :: v4 :: v3 :: v2 :: v1 :: st) s (ybd o3 f) := zE_c (i := (90, pc, m2, 6, mx, tb)) (st := v6 :: v5 :: v4 :: v3 :: v2 :: v1 :: st) (J2 := Jv) (by show ¬ 90 < 90; omega) (by show 90 < 95; omega) rfl (zcok (w := [v6, v5, v4, v3, v2, v1]) (q := []) rfl h1 h2) hc k
theorem zq_91_6v {r : Nat} {v2 v3 v4 v5 v6 : zAV} {m2 : Nat} {mx : Int} {o3 : Option (Unit × St)} {f : Unit → St → Option (α × St)} (h1 : zle4 st = true) (h2 : Nat.ble (zargs [.inr (.inr r), v2, v3, v4, v5, v6]).length mx.toNat = true) (hc : zE φ Jv E d m2 (zB m2 0) (zent mx.toNat [.inr (.inr r), v2, v3, v4, v5, v6]) [] s o3) (k : ∀ (w : Unit) s1, zE φ J E (d + 1) m is L (st) s1 (f w s1)) : zE φ J E (d + 1) m ((91, pc, m2, 6, mx, tb) :: is) L (v6 :: v5 :: v4 :: v3 :: v2 :: .inr (.inr r) :: st) s (yn0 r (ybd o3 f)) := zE_g fun hr => zE_c (i := (91, pc, m2, 6, mx, tb)) (st := v6 :: v5 :: v4 :: v3 :: v2 :: .inr (.inr r) :: st) (J2 := Jv) (by show ¬ 91 < 90; omega) (by show 91 < 95; omega) (by show (if 0 < r then some (m2, 6, mx.toNat) else none) = _; rw [if_pos hr]) (zcok (w := [v6, v5, v4, v3, v2, .inr (.inr r)]) (q := []) rfl h1 h2) hc k
theorem zq_92_6v {r : Nat} {v2 v3 v4 v5 v6 : zAV} {cp : Int} {c : Nat} {m2 : Nat} {mx : Int} {o3 : Option (Unit × St)} {f : Unit → St → Option (α × St)} (hr : zisA c (ztg (φ s) r) = true) (h1 : zle4 st = true) (h2 : Nat.ble (zargs [.inr (.inr r), v2, v3, v4, v5, v6]).length mx.toNat = true) (hc : zE φ Jv E d m2 (zB m2 0) (zent mx.toNat [.inr (.inr r), v2, v3, v4, v5, v6]) [] s o3) (k : ∀ (w : Unit) s1, zE φ J E (d + 1) m is L (st) s1 (f w s1)) : zE φ J E (d + 1) m ((92, pc, m2, 6, mx, [(cp, c)]) :: is) L (v6 :: v5 :: v4 :: v3 :: v2 :: .inr (.inr r) :: st) s (ybd o3 f) := zE_c (i := (92, pc, m2, 6, mx, [(cp, c)])) (st := v6 :: v5 :: v4 :: v3 :: v2 :: .inr (.inr r) :: st) (J2 := Jv) (by show ¬ 92 < 90; omega) (by show 92 < 95; omega) (by show (if ([(cp, c)].any fun q => zisA q.2 (ztg (φ s) r)) = true then some (m2, 6, mx.toNat) else none) = _; rw [if_pos (by simp only [List.any_cons, List.any_nil, Bool.or_false]; exact hr)]) (zcok (w := [v6, v5, v4, v3, v2, .inr (.inr r)]) (q := []) rfl h1 h2) hc k
theorem zq_90_7i {v1 v2 v3 v4 v5 v6 v7 : zAV} {m2 : Nat} {mx : Int} {o3 : Option (Int × St)} {f : Int → St → Option (α × St)} (h1 : zle4 st = true) (h2 : Nat.ble (zargs [v1, v2, v3, v4, v5, v6, v7]).length mx.toNat = true) (hc : zE φ Ji E d m2 (zB m2 0) (zent mx.toNat [v1, v2, v3, v4, v5, v6, v7]) [] s o3) (k : ∀ (w : Int) s1, zE φ J E (d + 1) m is L (.inl w :: st) s1 (f w s1)) : zE φ J E (d + 1) m ((90, pc, m2, 7, mx, tb) :: is) L (v7 :: v6 :: v5 :: v4 :: v3 :: v2 :: v1 :: st) s (ybd o3 f) := zE_c (i := (90, pc, m2, 7, mx, tb)) (st := v7 :: v6 :: v5 :: v4 :: v3 :: v2 :: v1 :: st) (J2 := Ji) (by show ¬ 90 < 90; omega) (by show 90 < 95; omega) rfl (zcok (w := [v7, v6, v5, v4, v3, v2, v1]) (q := []) rfl h1 h2) hc k
theorem zq_91_7i {r : Nat} {v2 v3 v4 v5 v6 v7 : zAV} {m2 : Nat} {mx : Int} {o3 : Option (Int × St)} {f : Int → St → Option (α × St)} (h1 : zle4 st = true) (h2 : Nat.ble (zargs [.inr (.inr r), v2, v3, v4, v5, v6, v7]).length mx.toNat = true) (hc : zE φ Ji E d m2 (zB m2 0) (zent mx.toNat [.inr (.inr r), v2, v3, v4, v5, v6, v7]) [] s o3) (k : ∀ (w : Int) s1, zE φ J E (d + 1) m is L (.inl w :: st) s1 (f w s1)) : zE φ J E (d + 1) m ((91, pc, m2, 7, mx, tb) :: is) L (v7 :: v6 :: v5 :: v4 :: v3 :: v2 :: .inr (.inr r) :: st) s (yn0 r (ybd o3 f)) := zE_g fun hr => zE_c (i := (91, pc, m2, 7, mx, tb)) (st := v7 :: v6 :: v5 :: v4 :: v3 :: v2 :: .inr (.inr r) :: st) (J2 := Ji) (by show ¬ 91 < 90; omega) (by show 91 < 95; omega) (by show (if 0 < r then some (m2, 7, mx.toNat) else none) = _; rw [if_pos hr]) (zcok (w := [v7, v6, v5, v4, v3, v2, .inr (.inr r)]) (q := []) rfl h1 h2) hc k
theorem zq_92_7i {r : Nat} {v2 v3 v4 v5 v6 v7 : zAV} {cp : Int} {c : Nat} {m2 : Nat} {mx : Int} {o3 : Option (Int × St)} {f : Int → St → Option (α × St)} (hr : zisA c (ztg (φ s) r) = true) (h1 : zle4 st = true) (h2 : Nat.ble (zargs [.inr (.inr r), v2, v3, v4, v5, v6, v7]).length mx.toNat = true) (hc : zE φ Ji E d m2 (zB m2 0) (zent mx.toNat [.inr (.inr r), v2, v3, v4, v5, v6, v7]) [] s o3) (k : ∀ (w : Int) s1, zE φ J E (d + 1) m is L (.inl w :: st) s1 (f w s1)) : zE φ J E (d + 1) m ((92, pc, m2, 7, mx, [(cp, c)]) :: is) L (v7 :: v6 :: v5 :: v4 :: v3 :: v2 :: .inr (.inr r) :: st) s (ybd o3 f) := zE_c (i := (92, pc, m2, 7, mx, [(cp, c)])) (st := v7 :: v6 :: v5 :: v4 :: v3 :: v2 :: .inr (.inr r) :: st) (J2 := Ji) (by show ¬ 92 < 90; omega) (by show 92 < 95; omega) (by show (if ([(cp, c)].any fun q => zisA q.2 (ztg (φ s) r)) = true then some (m2, 7, mx.toNat) else none) = _; rw [if_pos (by simp only [List.any_cons, List.any_nil, Bool.or_false]; exact hr)]) (zcok (w := [v7, v6, v5, v4, v3, v2, .inr (.inr r)]) (q := []) rfl h1 h2) hc k
theorem zq_90_7l {v1 v2 v3 v4 v5 v6 v7 : zAV} {m2 : Nat} {mx : Int} {o3 : Option (Int × St)} {f : Int → St → Option (α × St)} (h1 : zle4 st = true) (h2 : Nat.ble (zargs [v1, v2, v3, v4, v5, v6, v7]).length mx.toNat = true) (hc : zE φ Jl E d m2 (zB m2 0) (zent mx.toNat [v1, v2, v3, v4, v5, v6, v7]) [] s o3) (k : ∀ (w : Int) s1, zE φ J E (d + 1) m is L (.inr (.inl w) :: st) s1 (f w s1)) : zE φ J E (d + 1) m ((90, pc, m2, 7, mx, tb) :: is) L (v7 :: v6 :: v5 :: v4 :: v3 :: v2 :: v1 :: st) s (ybd o3 f) := zE_c (i := (90, pc, m2, 7, mx, tb)) (st := v7 :: v6 :: v5 :: v4 :: v3 :: v2 :: v1 :: st) (J2 := Jl) (by show ¬ 90 < 90; omega) (by show 90 < 95; omega) rfl (zcok (w := [v7, v6, v5, v4, v3, v2, v1]) (q := []) rfl h1 h2) hc k
theorem zq_91_7l {r : Nat} {v2 v3 v4 v5 v6 v7 : zAV} {m2 : Nat} {mx : Int} {o3 : Option (Int × St)} {f : Int → St → Option (α × St)} (h1 : zle4 st = true) (h2 : Nat.ble (zargs [.inr (.inr r), v2, v3, v4, v5, v6, v7]).length mx.toNat = true) (hc : zE φ Jl E d m2 (zB m2 0) (zent mx.toNat [.inr (.inr r), v2, v3, v4, v5, v6, v7]) [] s o3) (k : ∀ (w : Int) s1, zE φ J E (d + 1) m is L (.inr (.inl w) :: st) s1 (f w s1)) : zE φ J E (d + 1) m ((91, pc, m2, 7, mx, tb) :: is) L (v7 :: v6 :: v5 :: v4 :: v3 :: v2 :: .inr (.inr r) :: st) s (yn0 r (ybd o3 f)) := zE_g fun hr => zE_c (i := (91, pc, m2, 7, mx, tb)) (st := v7 :: v6 :: v5 :: v4 :: v3 :: v2 :: .inr (.inr r) :: st) (J2 := Jl) (by show ¬ 91 < 90; omega) (by show 91 < 95; omega) (by show (if 0 < r then some (m2, 7, mx.toNat) else none) = _; rw [if_pos hr]) (zcok (w := [v7, v6, v5, v4, v3, v2, .inr (.inr r)]) (q := []) rfl h1 h2) hc k
theorem zq_92_7l {r : Nat} {v2 v3 v4 v5 v6 v7 : zAV} {cp : Int} {c : Nat} {m2 : Nat} {mx : Int} {o3 : Option (Int × St)} {f : Int → St → Option (α × St)} (hr : zisA c (ztg (φ s) r) = true) (h1 : zle4 st = true) (h2 : Nat.ble (zargs [.inr (.inr r), v2, v3, v4, v5, v6, v7]).length mx.toNat = true) (hc : zE φ Jl E d m2 (zB m2 0) (zent mx.toNat [.inr (.inr r), v2, v3, v4, v5, v6, v7]) [] s o3) (k : ∀ (w : Int) s1, zE φ J E (d + 1) m is L (.inr (.inl w) :: st) s1 (f w s1)) : zE φ J E (d + 1) m ((92, pc, m2, 7, mx, [(cp, c)]) :: is) L (v7 :: v6 :: v5 :: v4 :: v3 :: v2 :: .inr (.inr r) :: st) s (ybd o3 f) := zE_c (i := (92, pc, m2, 7, mx, [(cp, c)])) (st := v7 :: v6 :: v5 :: v4 :: v3 :: v2 :: .inr (.inr r) :: st) (J2 := Jl) (by show ¬ 92 < 90; omega) (by show 92 < 95; omega) (by show (if ([(cp, c)].any fun q => zisA q.2 (ztg (φ s) r)) = true then some (m2, 7, mx.toNat) else none) = _; rw [if_pos (by simp only [List.any_cons, List.any_nil, Bool.or_false]; exact hr)]) (zcok (w := [v7, v6, v5, v4, v3, v2, .inr (.inr r)]) (q := []) rfl h1 h2) hc k
theorem zq_90_7r {v1 v2 v3 v4 v5 v6 v7 : zAV} {m2 : Nat} {mx : Int} {o3 : Option (Nat × St)} {f : Nat → St → Option (α × St)} (h1 : zle4 st = true) (h2 : Nat.ble (zargs [v1, v2, v3, v4, v5, v6, v7]).length mx.toNat = true) (hc : zE φ Jr E d m2 (zB m2 0) (zent mx.toNat [v1, v2, v3, v4, v5, v6, v7]) [] s o3) (k : ∀ (w : Nat) s1, zE φ J E (d + 1) m is L (.inr (.inr w) :: st) s1 (f w s1)) : zE φ J E (d + 1) m ((90, pc, m2, 7, mx, tb) :: is) L (v7 :: v6 :: v5 :: v4 :: v3 :: v2 :: v1 :: st) s (ybd o3 f) := zE_c (i := (90, pc, m2, 7, mx, tb)) (st := v7 :: v6 :: v5 :: v4 :: v3 :: v2 :: v1 :: st) (J2 := Jr) (by show ¬ 90 < 90; omega) (by show 90 < 95; omega) rfl (zcok (w := [v7, v6, v5, v4, v3, v2, v1]) (q := []) rfl h1 h2) hc k
theorem zq_91_7r {r : Nat} {v2 v3 v4 v5 v6 v7 : zAV} {m2 : Nat} {mx : Int} {o3 : Option (Nat × St)} {f : Nat → St → Option (α × St)} (h1 : zle4 st = true) (h2 : Nat.ble (zargs [.inr (.inr r), v2, v3, v4, v5, v6, v7]).length mx.toNat = true) (hc : zE φ Jr E d m2 (zB m2 0) (zent mx.toNat [.inr (.inr r), v2, v3, v4, v5, v6, v7]) [] s o3) (k : ∀ (w : Nat) s1, zE φ J E (d + 1) m is L (.inr (.inr w) :: st) s1 (f w s1)) : zE φ J E (d + 1) m ((91, pc, m2, 7, mx, tb) :: is) L (v7 :: v6 :: v5 :: v4 :: v3 :: v2 :: .inr (.inr r) :: st) s (yn0 r (ybd o3 f)) := zE_g fun hr => zE_c (i := (91, pc, m2, 7, mx, tb)) (st := v7 :: v6 :: v5 :: v4 :: v3 :: v2 :: .inr (.inr r) :: st) (J2 := Jr) (by show ¬ 91 < 90; omega) (by show 91 < 95; omega) (by show (if 0 < r then some (m2, 7, mx.toNat) else none) = _; rw [if_pos hr]) (zcok (w := [v7, v6, v5, v4, v3, v2, .inr (.inr r)]) (q := []) rfl h1 h2) hc k
theorem zq_92_7r {r : Nat} {v2 v3 v4 v5 v6 v7 : zAV} {cp : Int} {c : Nat} {m2 : Nat} {mx : Int} {o3 : Option (Nat × St)} {f : Nat → St → Option (α × St)} (hr : zisA c (ztg (φ s) r) = true) (h1 : zle4 st = true) (h2 : Nat.ble (zargs [.inr (.inr r), v2, v3, v4, v5, v6, v7]).length mx.toNat = true) (hc : zE φ Jr E d m2 (zB m2 0) (zent mx.toNat [.inr (.inr r), v2, v3, v4, v5, v6, v7]) [] s o3) (k : ∀ (w : Nat) s1, zE φ J E (d + 1) m is L (.inr (.inr w) :: st) s1 (f w s1)) : zE φ J E (d + 1) m ((92, pc, m2, 7, mx, [(cp, c)]) :: is) L (v7 :: v6 :: v5 :: v4 :: v3 :: v2 :: .inr (.inr r) :: st) s (ybd o3 f) := zE_c (i := (92, pc, m2, 7, mx, [(cp, c)])) (st := v7 :: v6 :: v5 :: v4 :: v3 :: v2 :: .inr (.inr r) :: st) (J2 := Jr) (by show ¬ 92 < 90; omega) (by show 92 < 95; omega) (by show (if ([(cp, c)].any fun q => zisA q.2 (ztg (φ s) r)) = true then some (m2, 7, mx.toNat) else none) = _; rw [if_pos (by simp only [List.any_cons, List.any_nil, Bool.or_false]; exact hr)]) (zcok (w := [v7, v6, v5, v4, v3, v2, .inr (.inr r)]) (q := []) rfl h1 h2) hc k
theorem zq_90_7v {v1 v2 v3 v4 v5 v6 v7 : zAV} {m2 : Nat} {mx : Int} {o3 : Option (Unit × St)} {f : Unit → St → Option (α × St)} (h1 : zle4 st = true) (h2 : Nat.ble (zargs [v1, v2, v3, v4, v5, v6, v7]).length mx.toNat = true) (hc : zE φ Jv E d m2 (zB m2 0) (zent mx.toNat [v1, v2, v3, v4, v5, v6, v7]) [] s o3) (k : ∀ (w : Unit) s1, zE φ J E (d + 1) m is L (st) s1 (f w s1)) : zE φ J E (d + 1) m ((90, pc, m2, 7, mx, tb) :: is) L (v7 :: v6 :: v5 :: v4 :: v3 :: v2 :: v1 :: st) s (ybd o3 f) := zE_c (i := (90, pc, m2, 7, mx, tb)) (st := v7 :: v6 :: v5 :: v4 :: v3 :: v2 :: v1 :: st) (J2 := Jv) (by show ¬ 90 < 90; omega) (by show 90 < 95; omega) rfl (zcok (w := [v7, v6, v5, v4, v3, v2, v1]) (q := []) rfl h1 h2) hc k
theorem zq_91_7v {r : Nat} {v2 v3 v4 v5 v6 v7 : zAV} {m2 : Nat} {mx : Int} {o3 : Option (Unit × St)} {f : Unit → St → Option (α × St)} (h1 : zle4 st = true) (h2 : Nat.ble (zargs [.inr (.inr r), v2, v3, v4, v5, v6, v7]).length mx.toNat = true) (hc : zE φ Jv E d m2 (zB m2 0) (zent mx.toNat [.inr (.inr r), v2, v3, v4, v5, v6, v7]) [] s o3) (k : ∀ (w : Unit) s1, zE φ J E (d + 1) m is L (st) s1 (f w s1)) : zE φ J E (d + 1) m ((91, pc, m2, 7, mx, tb) :: is) L (v7 :: v6 :: v5 :: v4 :: v3 :: v2 :: .inr (.inr r) :: st) s (yn0 r (ybd o3 f)) := zE_g fun hr => zE_c (i := (91, pc, m2, 7, mx, tb)) (st := v7 :: v6 :: v5 :: v4 :: v3 :: v2 :: .inr (.inr r) :: st) (J2 := Jv) (by show ¬ 91 < 90; omega) (by show 91 < 95; omega) (by show (if 0 < r then some (m2, 7, mx.toNat) else none) = _; rw [if_pos hr]) (zcok (w := [v7, v6, v5, v4, v3, v2, .inr (.inr r)]) (q := []) rfl h1 h2) hc k
theorem zq_92_7v {r : Nat} {v2 v3 v4 v5 v6 v7 : zAV} {cp : Int} {c : Nat} {m2 : Nat} {mx : Int} {o3 : Option (Unit × St)} {f : Unit → St → Option (α × St)} (hr : zisA c (ztg (φ s) r) = true) (h1 : zle4 st = true) (h2 : Nat.ble (zargs [.inr (.inr r), v2, v3, v4, v5, v6, v7]).length mx.toNat = true) (hc : zE φ Jv E d m2 (zB m2 0) (zent mx.toNat [.inr (.inr r), v2, v3, v4, v5, v6, v7]) [] s o3) (k : ∀ (w : Unit) s1, zE φ J E (d + 1) m is L (st) s1 (f w s1)) : zE φ J E (d + 1) m ((92, pc, m2, 7, mx, [(cp, c)]) :: is) L (v7 :: v6 :: v5 :: v4 :: v3 :: v2 :: .inr (.inr r) :: st) s (ybd o3 f) := zE_c (i := (92, pc, m2, 7, mx, [(cp, c)])) (st := v7 :: v6 :: v5 :: v4 :: v3 :: v2 :: .inr (.inr r) :: st) (J2 := Jv) (by show ¬ 92 < 90; omega) (by show 92 < 95; omega) (by show (if ([(cp, c)].any fun q => zisA q.2 (ztg (φ s) r)) = true then some (m2, 7, mx.toNat) else none) = _; rw [if_pos (by simp only [List.any_cons, List.any_nil, Bool.or_false]; exact hr)]) (zcok (w := [v7, v6, v5, v4, v3, v2, .inr (.inr r)]) (q := []) rfl h1 h2) hc k
theorem zq_90_8i {v1 v2 v3 v4 v5 v6 v7 v8 : zAV} {m2 : Nat} {mx : Int} {o3 : Option (Int × St)} {f : Int → St → Option (α × St)} (h1 : zle4 st = true) (h2 : Nat.ble (zargs [v1, v2, v3, v4, v5, v6, v7, v8]).length mx.toNat = true) (hc : zE φ Ji E d m2 (zB m2 0) (zent mx.toNat [v1, v2, v3, v4, v5, v6, v7, v8]) [] s o3) (k : ∀ (w : Int) s1, zE φ J E (d + 1) m is L (.inl w :: st) s1 (f w s1)) : zE φ J E (d + 1) m ((90, pc, m2, 8, mx, tb) :: is) L (v8 :: v7 :: v6 :: v5 :: v4 :: v3 :: v2 :: v1 :: st) s (ybd o3 f) := zE_c (i := (90, pc, m2, 8, mx, tb)) (st := v8 :: v7 :: v6 :: v5 :: v4 :: v3 :: v2 :: v1 :: st) (J2 := Ji) (by show ¬ 90 < 90; omega) (by show 90 < 95; omega) rfl (zcok (w := [v8, v7, v6, v5, v4, v3, v2, v1]) (q := []) rfl h1 h2) hc k
theorem zq_91_8i {r : Nat} {v2 v3 v4 v5 v6 v7 v8 : zAV} {m2 : Nat} {mx : Int} {o3 : Option (Int × St)} {f : Int → St → Option (α × St)} (h1 : zle4 st = true) (h2 : Nat.ble (zargs [.inr (.inr r), v2, v3, v4, v5, v6, v7, v8]).length mx.toNat = true) (hc : zE φ Ji E d m2 (zB m2 0) (zent mx.toNat [.inr (.inr r), v2, v3, v4, v5, v6, v7, v8]) [] s o3) (k : ∀ (w : Int) s1, zE φ J E (d + 1) m is L (.inl w :: st) s1 (f w s1)) : zE φ J E (d + 1) m ((91, pc, m2, 8, mx, tb) :: is) L (v8 :: v7 :: v6 :: v5 :: v4 :: v3 :: v2 :: .inr (.inr r) :: st) s (yn0 r (ybd o3 f)) := zE_g fun hr => zE_c (i := (91, pc, m2, 8, mx, tb)) (st := v8 :: v7 :: v6 :: v5 :: v4 :: v3 :: v2 :: .inr (.inr r) :: st) (J2 := Ji) (by show ¬ 91 < 90; omega) (by show 91 < 95; omega) (by show (if 0 < r then some (m2, 8, mx.toNat) else none) = _; rw [if_pos hr]) (zcok (w := [v8, v7, v6, v5, v4, v3, v2, .inr (.inr r)]) (q := []) rfl h1 h2) hc k
theorem zq_92_8i {r : Nat} {v2 v3 v4 v5 v6 v7 v8 : zAV} {cp : Int} {c : Nat} {m2 : Nat} {mx : Int} {o3 : Option (Int × St)} {f : Int → St → Option (α × St)} (hr : zisA c (ztg (φ s) r) = true) (h1 : zle4 st = true) (h2 : Nat.ble (zargs [.inr (.inr r), v2, v3, v4, v5, v6, v7, v8]).length mx.toNat = true) (hc : zE φ Ji E d m2 (zB m2 0) (zent mx.toNat [.inr (.inr r), v2, v3, v4, v5, v6, v7, v8]) [] s o3) (k : ∀ (w : Int) s1, zE φ J E (d + 1) m is L (.inl w :: st) s1 (f w s1)) : zE φ J E (d + 1) m ((92, pc, m2, 8, mx, [(cp, c)]) :: is) L (v8 :: v7 :: v6 :: v5 :: v4 :: v3 :: v2 :: .inr (.inr r) :: st) s (ybd o3 f) := zE_c (i := (92, pc, m2, 8, mx, [(cp, c)])) (st := v8 :: v7 :: v6 :: v5 :: v4 :: v3 :: v2 :: .inr (.inr r) :: st) (J2 := Ji) (by show ¬ 92 < 90; omega) (by show 92 < 95; omega) (by show (if ([(cp, c)].any fun q => zisA q.2 (ztg (φ s) r)) = true then some (m2, 8, mx.toNat) else none) = _; rw [if_pos (by simp only [List.any_cons, List.any_nil, Bool.or_false]; exact hr)]) (zcok (w := [v8, v7, v6, v5, v4, v3, v2, .inr (.inr r)]) (q := []) rfl h1 h2) hc k
theorem zq_90_8l {v1 v2 v3 v4 v5 v6 v7 v8 : zAV} {m2 : Nat} {mx : Int} {o3 : Option (Int × St)} {f : Int → St → Option (α × St)} (h1 : zle4 st = true) (h2 : Nat.ble (zargs [v1, v2, v3, v4, v5, v6, v7, v8]).length mx.toNat = true) (hc : zE φ Jl E d m2 (zB m2 0) (zent mx.toNat [v1, v2, v3, v4, v5, v6, v7, v8]) [] s o3) (k : ∀ (w : Int) s1, zE φ J E (d + 1) m is L (.inr (.inl w) :: st) s1 (f w s1)) : zE φ J E (d + 1) m ((90, pc, m2, 8, mx, tb) :: is) L (v8 :: v7 :: v6 :: v5 :: v4 :: v3 :: v2 :: v1 :: st) s (ybd o3 f) := zE_c (i := (90, pc, m2, 8, mx, tb)) (st := v8 :: v7 :: v6 :: v5 :: v4 :: v3 :: v2 :: v1 :: st) (J2 := Jl) (by show ¬ 90 < 90; omega) (by show 90 < 95; omega) rfl (zcok (w := [v8, v7, v6, v5, v4, v3, v2, v1]) (q := []) rfl h1 h2) hc k
theorem zq_91_8l {r : Nat} {v2 v3 v4 v5 v6 v7 v8 : zAV} {m2 : Nat} {mx : Int} {o3 : Option (Int × St)} {f : Int → St → Option (α × St)} (h1 : zle4 st = true) (h2 : Nat.ble (zargs [.inr (.inr r), v2, v3, v4, v5, v6, v7, v8]).length mx.toNat = true) (hc : zE φ Jl E d m2 (zB m2 0) (zent mx.toNat [.inr (.inr r), v2, v3, v4, v5, v6, v7, v8]) [] s o3) (k : ∀ (w : Int) s1, zE φ J E (d + 1) m is L (.inr (.inl w) :: st) s1 (f w s1)) : zE φ J E (d + 1) m ((91, pc, m2, 8, mx, tb) :: is) L (v8 :: v7 :: v6 :: v5 :: v4 :: v3 :: v2 :: .inr (.inr r) :: st) s (yn0 r (ybd o3 f)) := zE_g fun hr => zE_c (i := (91, pc, m2, 8, mx, tb)) (st := v8 :: v7 :: v6 :: v5 :: v4 :: v3 :: v2 :: .inr (.inr r) :: st) (J2 := Jl) (by show ¬ 91 < 90; omega) (by show 91 < 95; omega) (by show (if 0 < r then some (m2, 8, mx.toNat) else none) = _; rw [if_pos hr]) (zcok (w := [v8, v7, v6, v5, v4, v3, v2, .inr (.inr r)]) (q := []) rfl h1 h2) hc k
theorem zq_92_8l {r : Nat} {v2 v3 v4 v5 v6 v7 v8 : zAV} {cp : Int} {c : Nat} {m2 : Nat} {mx : Int} {o3 : Option (Int × St)} {f : Int → St → Option (α × St)} (hr : zisA c (ztg (φ s) r) = true) (h1 : zle4 st = true) (h2 : Nat.ble (zargs [.inr (.inr r), v2, v3, v4, v5, v6, v7, v8]).length mx.toNat = true) (hc : zE φ Jl E d m2 (zB m2 0) (zent mx.toNat [.inr (.inr r), v2, v3, v4, v5, v6, v7, v8]) [] s o3) (k : ∀ (w : Int) s1, zE φ J E (d + 1) m is L (.inr (.inl w) :: st) s1 (f w s1)) : zE φ J E (d + 1) m ((92, pc, m2, 8, mx, [(cp, c)]) :: is) L (v8 :: v7 :: v6 :: v5 :: v4 :: v3 :: v2 :: .inr (.inr r) :: st) s (ybd o3 f) := zE_c (i := (92, pc, m2, 8, mx, [(cp, c)])) (st := v8 :: v7 :: v6 :: v5 :: v4 :: v3 :: v2 :: .inr (.inr r) :: st) (J2 := Jl) (by show ¬ 92 < 90; omega) (by show 92 < 95; omega) (by show (if ([(cp, c)].any fun q => zisA q.2 (ztg (φ s) r)) = true then some (m2, 8, mx.toNat) else none) = _; rw [if_pos (by simp only [List.any_cons, List.any_nil, Bool.or_false]; exact hr)]) (zcok (w := [v8, v7, v6, v5, v4, v3, v2, .inr (.inr r)]) (q := []) rfl h1 h2) hc k
theorem zq_90_8r {v1 v2 v3 v4 v5 v6 v7 v8 : zAV} {m2 : Nat} {mx : Int} {o3 : Option (Nat × St)} {f : Nat → St → Option (α × St)} (h1 : zle4 st = true) (h2 : Nat.ble (zargs [v1, v2, v3, v4, v5, v6, v7, v8]).length mx.toNat = true) (hc : zE φ Jr E d m2 (zB m2 0) (zent mx.toNat [v1, v2, v3, v4, v5, v6, v7, v8]) [] s o3) (k : ∀ (w : Nat) s1, zE φ J E (d + 1) m is L (.inr (.inr w) :: st) s1 (f w s1)) : zE φ J E (d + 1) m ((90, pc, m2, 8, mx, tb) :: is) L (v8 :: v7 :: v6 :: v5 :: v4 :: v3 :: v2 :: v1 :: st) s (ybd o3 f) := zE_c (i := (90, pc, m2, 8, mx, tb)) (st := v8 :: v7 :: v6 :: v5 :: v4 :: v3 :: v2 :: v1 :: st) (J2 := Jr) (by show ¬ 90 < 90; omega) (by show 90 < 95; omega) rfl (zcok (w := [v8, v7, v6, v5, v4, v3, v2, v1]) (q := []) rfl h1 h2) hc k
theorem zq_91_8r {r : Nat} {v2 v3 v4 v5 v6 v7 v8 : zAV} {m2 : Nat} {mx : Int} {o3 : Option (Nat × St)} {f : Nat → St → Option (α × St)} (h1 : zle4 st = true) (h2 : Nat.ble (zargs [.inr (.inr r), v2, v3, v4, v5, v6, v7, v8]).length mx.toNat = true) (hc : zE φ Jr E d m2 (zB m2 0) (zent mx.toNat [.inr (.inr r), v2, v3, v4, v5, v6, v7, v8]) [] s o3) (k : ∀ (w : Nat) s1, zE φ J E (d + 1) m is L (.inr (.inr w) :: st) s1 (f w s1)) : zE φ J E (d + 1) m ((91, pc, m2, 8, mx, tb) :: is) L (v8 :: v7 :: v6 :: v5 :: v4 :: v3 :: v2 :: .inr (.inr r) :: st) s (yn0 r (ybd o3 f)) := zE_g fun hr => zE_c (i := (91, pc, m2, 8, mx, tb)) (st := v8 :: v7 :: v6 :: v5 :: v4 :: v3 :: v2 :: .inr (.inr r) :: st) (J2 := Jr) (by show ¬ 91 < 90; omega) (by show 91 < 95; omega) (by show (if 0 < r then some (m2, 8, mx.toNat) else none) = _; rw [if_pos hr]) (zcok (w := [v8, v7, v6, v5, v4, v3, v2, .inr (.inr r)]) (q := []) rfl h1 h2) hc k
theorem zq_92_8r {r : Nat} {v2 v3 v4 v5 v6 v7 v8 : zAV} {cp : Int} {c : Nat} {m2 : Nat} {mx : Int} {o3 : Option (Nat × St)} {f : Nat → St → Option (α × St)} (hr : zisA c (ztg (φ s) r) = true) (h1 : zle4 st = true) (h2 : Nat.ble (zargs [.inr (.inr r), v2, v3, v4, v5, v6, v7, v8]).length mx.toNat = true) (hc : zE φ Jr E d m2 (zB m2 0) (zent mx.toNat [.inr (.inr r), v2, v3, v4, v5, v6, v7, v8]) [] s o3) (k : ∀ (w : Nat) s1, zE φ J E (d + 1) m is L (.inr (.inr w) :: st) s1 (f w s1)) : zE φ J E (d + 1) m ((92, pc, m2, 8, mx, [(cp, c)]) :: is) L (v8 :: v7 :: v6 :: v5 :: v4 :: v3 :: v2 :: .inr (.inr r) :: st) s (ybd o3 f) := zE_c (i := (92, pc, m2, 8, mx, [(cp, c)])) (st := v8 :: v7 :: v6 :: v5 :: v4 :: v3 :: v2 :: .inr (.inr r) :: st) (J2 := Jr) (by show ¬ 92 < 90; omega) (by show 92 < 95; omega) (by show (if ([(cp, c)].any fun q => zisA q.2 (ztg (φ s) r)) = true then some (m2, 8, mx.toNat) else none) = _; rw [if_pos (by simp only [List.any_cons, List.any_nil, Bool.or_false]; exact hr)]) (zcok (w := [v8, v7, v6, v5, v4, v3, v2, .inr (.inr r)]) (q := []) rfl h1 h2) hc k
theorem zq_90_8v {v1 v2 v3 v4 v5 v6 v7 v8 : zAV} {m2 : Nat} {mx : Int} {o3 : Option (Unit × St)} {f : Unit → St → Option (α × St)} (h1 : zle4 st = true) (h2 : Nat.ble (zargs [v1, v2, v3, v4, v5, v6, v7, v8]).length mx.toNat = true) (hc : zE φ Jv E d m2 (zB m2 0) (zent mx.toNat [v1, v2, v3, v4, v5, v6, v7, v8]) [] s o3) (k : ∀ (w : Unit) s1, zE φ J E (d + 1) m is L (st) s1 (f w s1)) : zE φ J E (d + 1) m ((90, pc, m2, 8, mx, tb) :: is) L (v8 :: v7 :: v6 :: v5 :: v4 :: v3 :: v2 :: v1 :: st) s (ybd o3 f) := zE_c (i := (90, pc, m2, 8, mx, tb)) (st := v8 :: v7 :: v6 :: v5 :: v4 :: v3 :: v2 :: v1 :: st) (J2 := Jv) (by show ¬ 90 < 90; omega) (by show 90 < 95; omega) rfl (zcok (w := [v8, v7, v6, v5, v4, v3, v2, v1]) (q := []) rfl h1 h2) hc k
theorem zq_91_8v {r : Nat} {v2 v3 v4 v5 v6 v7 v8 : zAV} {m2 : Nat} {mx : Int} {o3 : Option (Unit × St)} {f : Unit → St → Option (α × St)} (h1 : zle4 st = true) (h2 : Nat.ble (zargs [.inr (.inr r), v2, v3, v4, v5, v6, v7, v8]).length mx.toNat = true) (hc : zE φ Jv E d m2 (zB m2 0) (zent mx.toNat [.inr (.inr r), v2, v3, v4, v5, v6, v7, v8]) [] s o3) (k : ∀ (w : Unit) s1, zE φ J E (d + 1) m is L (st) s1 (f w s1)) : zE φ J E (d + 1) m ((91, pc, m2, 8, mx, tb) :: is) L (v8 :: v7 :: v6 :: v5 :: v4 :: v3 :: v2 :: .inr (.inr r) :: st) s (yn0 r (ybd o3 f)) := zE_g fun hr => zE_c (i := (91, pc, m2, 8, mx, tb)) (st := v8 :: v7 :: v6 :: v5 :: v4 :: v3 :: v2 :: .inr (.inr r) :: st) (J2 := Jv) (by show ¬ 91 < 90; omega) (by show 91 < 95; omega) (by show (if 0 < r then some (m2, 8, mx.toNat) else none) = _; rw [if_pos hr]) (zcok (w := [v8, v7, v6, v5, v4, v3, v2, .inr (.inr r)]) (q := []) rfl h1 h2) hc k
theorem zq_92_8v {r : Nat} {v2 v3 v4 v5 v6 v7 v8 : zAV} {cp : Int} {c : Nat} {m2 : Nat} {mx : Int} {o3 : Option (Unit × St)} {f : Unit → St → Option (α × St)} (hr : zisA c (ztg (φ s) r) = true) (h1 : zle4 st = true) (h2 : Nat.ble (zargs [.inr (.inr r), v2, v3, v4, v5, v6, v7, v8]).length mx.toNat = true) (hc : zE φ Jv E d m2 (zB m2 0) (zent mx.toNat [.inr (.inr r), v2, v3, v4, v5, v6, v7, v8]) [] s o3) (k : ∀ (w : Unit) s1, zE φ J E (d + 1) m is L (st) s1 (f w s1)) : zE φ J E (d + 1) m ((92, pc, m2, 8, mx, [(cp, c)]) :: is) L (v8 :: v7 :: v6 :: v5 :: v4 :: v3 :: v2 :: .inr (.inr r) :: st) s (ybd o3 f) := zE_c (i := (92, pc, m2, 8, mx, [(cp, c)])) (st := v8 :: v7 :: v6 :: v5 :: v4 :: v3 :: v2 :: .inr (.inr r) :: st) (J2 := Jv) (by show ¬ 92 < 90; omega) (by show 92 < 95; omega) (by show (if ([(cp, c)].any fun q => zisA q.2 (ztg (φ s) r)) = true then some (m2, 8, mx.toNat) else none) = _; rw [if_pos (by simp only [List.any_cons, List.any_nil, Bool.or_false]; exact hr)]) (zcok (w := [v8, v7, v6, v5, v4, v3, v2, .inr (.inr r)]) (q := []) rfl h1 h2) hc k
end ZE
end
