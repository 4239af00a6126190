section
-- ===== PART A: goes FIRST, ahead of the names: the tables' words, and 'selects' of the private methods out of them =====
/-- a private method of a class that the tables say can be made, by its rows of tables_1 -/
def lw_okq (q : MethodName × Nat) : Prop := (q.1.cls ≠ "java/lang/invoke/MethodHandle" ∧ q.1.cls ≠ "java/lang/invoke/VarHandle") ∧ Cond.instantiable q.1.cls q.2 ∈ tables_1 ∧ Cond.privateMethod q.1 ∈ tables_1 ∧ Cond.instanceMethod q.1 ∈ tables_1
theorem lw_p0 : lw_okq (⟨"DownhillPost", "finding", "(I)I"⟩, 8) := ⟨⟨by decide +kernel, by decide +kernel⟩, List.mem_of_getElem? (i := 17) (by decide +kernel), List.mem_of_getElem? (i := 218) (by decide +kernel), List.mem_of_getElem? (i := 219) (by decide +kernel)⟩
theorem lw_p1 : lw_okq (⟨"DownhillPost", "areUnlikeVillages", "(II)Z"⟩, 8) := ⟨⟨by decide +kernel, by decide +kernel⟩, List.mem_of_getElem? (i := 17) (by decide +kernel), List.mem_of_getElem? (i := 286) (by decide +kernel), List.mem_of_getElem? (i := 287) (by decide +kernel)⟩
theorem lw_p2 : lw_okq (⟨"DownhillPost", "areVillages", "(II)Z"⟩, 8) := ⟨⟨by decide +kernel, by decide +kernel⟩, List.mem_of_getElem? (i := 17) (by decide +kernel), List.mem_of_getElem? (i := 290) (by decide +kernel), List.mem_of_getElem? (i := 291) (by decide +kernel)⟩
theorem lw_p3 : lw_okq (⟨"DownhillPost$Ways", "layStep", "(LDownhillPost$Land;IIII)V"⟩, 9) := ⟨⟨by decide +kernel, by decide +kernel⟩, List.mem_of_getElem? (i := 99) (by decide +kernel), List.mem_of_getElem? (i := 392) (by decide +kernel), List.mem_of_getElem? (i := 393) (by decide +kernel)⟩
theorem lw_p4 : lw_okq (⟨"DownhillPost$Ways", "areHere", "(II)Z"⟩, 9) := ⟨⟨by decide +kernel, by decide +kernel⟩, List.mem_of_getElem? (i := 99) (by decide +kernel), List.mem_of_getElem? (i := 396) (by decide +kernel), List.mem_of_getElem? (i := 397) (by decide +kernel)⟩
theorem lw_p5 : lw_okq (⟨"DownhillPost$Ways", "joinSteps", "()V"⟩, 9) := ⟨⟨by decide +kernel, by decide +kernel⟩, List.mem_of_getElem? (i := 99) (by decide +kernel), List.mem_of_getElem? (i := 401) (by decide +kernel), List.mem_of_getElem? (i := 402) (by decide +kernel)⟩
theorem lw_p6 : lw_okq (⟨"DownhillPost$Ways", "shortenBy", "(II)V"⟩, 9) := ⟨⟨by decide +kernel, by decide +kernel⟩, List.mem_of_getElem? (i := 99) (by decide +kernel), List.mem_of_getElem? (i := 408) (by decide +kernel), List.mem_of_getElem? (i := 409) (by decide +kernel)⟩
theorem lw_p7 : lw_okq (⟨"DownhillPost$Ways", "downDays", "(II)I"⟩, 9) := ⟨⟨by decide +kernel, by decide +kernel⟩, List.mem_of_getElem? (i := 99) (by decide +kernel), List.mem_of_getElem? (i := 416) (by decide +kernel), List.mem_of_getElem? (i := 417) (by decide +kernel)⟩
theorem lw_p8 : lw_okq (⟨"DownhillPost$Ways", "flightFrom", "(I)I"⟩, 9) := ⟨⟨by decide +kernel, by decide +kernel⟩, List.mem_of_getElem? (i := 99) (by decide +kernel), List.mem_of_getElem? (i := 420) (by decide +kernel), List.mem_of_getElem? (i := 421) (by decide +kernel)⟩
theorem lw_p9 : lw_okq (⟨"DownhillPost", "daysUntil", "(I)I"⟩, 8) := ⟨⟨by decide +kernel, by decide +kernel⟩, List.mem_of_getElem? (i := 17) (by decide +kernel), List.mem_of_getElem? (i := 424) (by decide +kernel), List.mem_of_getElem? (i := 425) (by decide +kernel)⟩
theorem lw_p10 : lw_okq (⟨"DownhillPost$Ways", "comes", "(II)Z"⟩, 9) := ⟨⟨by decide +kernel, by decide +kernel⟩, List.mem_of_getElem? (i := 99) (by decide +kernel), List.mem_of_getElem? (i := 437) (by decide +kernel), List.mem_of_getElem? (i := 438) (by decide +kernel)⟩
theorem lw_p11 : lw_okq (⟨"DownhillPost$Ways", "lastAnswer", "(III)I"⟩, 9) := ⟨⟨by decide +kernel, by decide +kernel⟩, List.mem_of_getElem? (i := 99) (by decide +kernel), List.mem_of_getElem? (i := 482) (by decide +kernel), List.mem_of_getElem? (i := 483) (by decide +kernel)⟩
theorem lw_p12 : lw_okq (⟨"DownhillPost", "heightToRise", "(III)I"⟩, 8) := ⟨⟨by decide +kernel, by decide +kernel⟩, List.mem_of_getElem? (i := 17) (by decide +kernel), List.mem_of_getElem? (i := 504) (by decide +kernel), List.mem_of_getElem? (i := 505) (by decide +kernel)⟩
theorem lw_p13 : lw_okq (⟨"DownhillPost", "bestDigging", "(II)I"⟩, 8) := ⟨⟨by decide +kernel, by decide +kernel⟩, List.mem_of_getElem? (i := 17) (by decide +kernel), List.mem_of_getElem? (i := 519) (by decide +kernel), List.mem_of_getElem? (i := 520) (by decide +kernel)⟩
theorem lw_p14 : lw_okq (⟨"DownhillPost$Ways", "daysInto", "(III)I"⟩, 9) := ⟨⟨by decide +kernel, by decide +kernel⟩, List.mem_of_getElem? (i := 99) (by decide +kernel), List.mem_of_getElem? (i := 569) (by decide +kernel), List.mem_of_getElem? (i := 570) (by decide +kernel)⟩
theorem lw_p15 : lw_okq (⟨"DownhillPost$Ways", "stepDays", "(II)I"⟩, 9) := ⟨⟨by decide +kernel, by decide +kernel⟩, List.mem_of_getElem? (i := 99) (by decide +kernel), List.mem_of_getElem? (i := 573) (by decide +kernel), List.mem_of_getElem? (i := 574) (by decide +kernel)⟩
def lw_privs_1 : List (MethodName × Nat) := [(⟨"DownhillPost", "finding", "(I)I"⟩, 8), (⟨"DownhillPost", "areUnlikeVillages", "(II)Z"⟩, 8), (⟨"DownhillPost", "areVillages", "(II)Z"⟩, 8), (⟨"DownhillPost$Ways", "layStep", "(LDownhillPost$Land;IIII)V"⟩, 9), (⟨"DownhillPost$Ways", "areHere", "(II)Z"⟩, 9), (⟨"DownhillPost$Ways", "joinSteps", "()V"⟩, 9), (⟨"DownhillPost$Ways", "shortenBy", "(II)V"⟩, 9), (⟨"DownhillPost$Ways", "downDays", "(II)I"⟩, 9), (⟨"DownhillPost$Ways", "flightFrom", "(I)I"⟩, 9), (⟨"DownhillPost", "daysUntil", "(I)I"⟩, 8), (⟨"DownhillPost$Ways", "comes", "(II)Z"⟩, 9), (⟨"DownhillPost$Ways", "lastAnswer", "(III)I"⟩, 9), (⟨"DownhillPost", "heightToRise", "(III)I"⟩, 8), (⟨"DownhillPost", "bestDigging", "(II)I"⟩, 8), (⟨"DownhillPost$Ways", "daysInto", "(III)I"⟩, 9), (⟨"DownhillPost$Ways", "stepDays", "(II)I"⟩, 9)]
theorem lw_r1 : ∀ q ∈ lw_privs_1, lw_okq q := List.forall_mem_cons.mpr ⟨lw_p0, List.forall_mem_cons.mpr ⟨lw_p1, List.forall_mem_cons.mpr ⟨lw_p2, List.forall_mem_cons.mpr ⟨lw_p3, List.forall_mem_cons.mpr ⟨lw_p4, List.forall_mem_cons.mpr ⟨lw_p5, List.forall_mem_cons.mpr ⟨lw_p6, List.forall_mem_cons.mpr ⟨lw_p7, List.forall_mem_cons.mpr ⟨lw_p8, List.forall_mem_cons.mpr ⟨lw_p9, List.forall_mem_cons.mpr ⟨lw_p10, List.forall_mem_cons.mpr ⟨lw_p11, List.forall_mem_cons.mpr ⟨lw_p12, List.forall_mem_cons.mpr ⟨lw_p13, List.forall_mem_cons.mpr ⟨lw_p14, List.forall_mem_cons.mpr ⟨lw_p15, fun _ h => absurd h List.not_mem_nil⟩⟩⟩⟩⟩⟩⟩⟩⟩⟩⟩⟩⟩⟩⟩⟩
theorem lw_p16 : lw_okq (⟨"DownhillPost", "carryOn", "(LDownhillPost$Land;II)V"⟩, 8) := ⟨⟨by decide +kernel, by decide +kernel⟩, List.mem_of_getElem? (i := 17) (by decide +kernel), List.mem_of_getElem? (i := 586) (by decide +kernel), List.mem_of_getElem? (i := 587) (by decide +kernel)⟩
theorem lw_p17 : lw_okq (⟨"DownhillPost", "daysAhead", "(I)I"⟩, 8) := ⟨⟨by decide +kernel, by decide +kernel⟩, List.mem_of_getElem? (i := 17) (by decide +kernel), List.mem_of_getElem? (i := 620) (by decide +kernel), List.mem_of_getElem? (i := 621) (by decide +kernel)⟩
theorem lw_p18 : lw_okq (⟨"DownhillPost$Tape", "byteAt", "(I)I"⟩, 6) := ⟨⟨by decide +kernel, by decide +kernel⟩, List.mem_of_getElem? (i := 136) (by decide +kernel), List.mem_of_getElem? (i := 655) (by decide +kernel), List.mem_of_getElem? (i := 656) (by decide +kernel)⟩
theorem lw_p19 : lw_okq (⟨"DownhillPost$Tape", "passNumber", "()V"⟩, 6) := ⟨⟨by decide +kernel, by decide +kernel⟩, List.mem_of_getElem? (i := 136) (by decide +kernel), List.mem_of_getElem? (i := 662) (by decide +kernel), List.mem_of_getElem? (i := 663) (by decide +kernel)⟩
theorem lw_p20 : lw_okq (⟨"DownhillPost$Tape", "passWord", "()V"⟩, 6) := ⟨⟨by decide +kernel, by decide +kernel⟩, List.mem_of_getElem? (i := 136) (by decide +kernel), List.mem_of_getElem? (i := 667) (by decide +kernel), List.mem_of_getElem? (i := 668) (by decide +kernel)⟩
theorem lw_p21 : lw_okq (⟨"DownhillPost", "sheetAt", "(I)LDownhillPost$Sheet;"⟩, 8) := ⟨⟨by decide +kernel, by decide +kernel⟩, List.mem_of_getElem? (i := 17) (by decide +kernel), List.mem_of_getElem? (i := 789) (by decide +kernel), List.mem_of_getElem? (i := 790) (by decide +kernel)⟩
theorem lw_p22 : lw_okq (⟨"DownhillPost$Sheet", "narrowed", "(J)J"⟩, 3) := ⟨⟨by decide +kernel, by decide +kernel⟩, List.mem_of_getElem? (i := 165) (by decide +kernel), List.mem_of_getElem? (i := 825) (by decide +kernel), List.mem_of_getElem? (i := 826) (by decide +kernel)⟩
theorem lw_p23 : lw_okq (⟨"DownhillPostModel", "finds", "(I)I"⟩, 21) := ⟨⟨by decide +kernel, by decide +kernel⟩, List.mem_of_getElem? (i := 882) (by decide +kernel), List.mem_of_getElem? (i := 960) (by decide +kernel), List.mem_of_getElem? (i := 961) (by decide +kernel)⟩
theorem lw_p24 : lw_okq (⟨"DownhillPostModel", "addVillage", "(IZ)V"⟩, 21) := ⟨⟨by decide +kernel, by decide +kernel⟩, List.mem_of_getElem? (i := 882) (by decide +kernel), List.mem_of_getElem? (i := 965) (by decide +kernel), List.mem_of_getElem? (i := 966) (by decide +kernel)⟩
theorem lw_p25 : lw_okq (⟨"DownhillPostModel", "isVillage", "(I)Z"⟩, 21) := ⟨⟨by decide +kernel, by decide +kernel⟩, List.mem_of_getElem? (i := 882) (by decide +kernel), List.mem_of_getElem? (i := 973) (by decide +kernel), List.mem_of_getElem? (i := 974) (by decide +kernel)⟩
theorem lw_p26 : lw_okq (⟨"DownhillPostModel", "height", "(I)I"⟩, 21) := ⟨⟨by decide +kernel, by decide +kernel⟩, List.mem_of_getElem? (i := 882) (by decide +kernel), List.mem_of_getElem? (i := 977) (by decide +kernel), List.mem_of_getElem? (i := 978) (by decide +kernel)⟩
theorem lw_p27 : lw_okq (⟨"DownhillPostModel", "roadsAt", "(I)I"⟩, 21) := ⟨⟨by decide +kernel, by decide +kernel⟩, List.mem_of_getElem? (i := 882) (by decide +kernel), List.mem_of_getElem? (i := 981) (by decide +kernel), List.mem_of_getElem? (i := 982) (by decide +kernel)⟩
theorem lw_p28 : lw_okq (⟨"DownhillPostModel", "end", "(II)I"⟩, 21) := ⟨⟨by decide +kernel, by decide +kernel⟩, List.mem_of_getElem? (i := 882) (by decide +kernel), List.mem_of_getElem? (i := 985) (by decide +kernel), List.mem_of_getElem? (i := 986) (by decide +kernel)⟩
theorem lw_p29 : lw_okq (⟨"DownhillPostModel", "lettersAt", "(I)I"⟩, 21) := ⟨⟨by decide +kernel, by decide +kernel⟩, List.mem_of_getElem? (i := 882) (by decide +kernel), List.mem_of_getElem? (i := 989) (by decide +kernel), List.mem_of_getElem? (i := 990) (by decide +kernel)⟩
theorem lw_p30 : lw_okq (⟨"DownhillPostModel", "its", "(II)I"⟩, 21) := ⟨⟨by decide +kernel, by decide +kernel⟩, List.mem_of_getElem? (i := 882) (by decide +kernel), List.mem_of_getElem? (i := 993) (by decide +kernel), List.mem_of_getElem? (i := 994) (by decide +kernel)⟩
theorem lw_p31 : lw_okq (⟨"DownhillPostModel", "isHermits", "(I)Z"⟩, 21) := ⟨⟨by decide +kernel, by decide +kernel⟩, List.mem_of_getElem? (i := 882) (by decide +kernel), List.mem_of_getElem? (i := 1005) (by decide +kernel), List.mem_of_getElem? (i := 1006) (by decide +kernel)⟩
def lw_privs_2 : List (MethodName × Nat) := [(⟨"DownhillPost", "carryOn", "(LDownhillPost$Land;II)V"⟩, 8), (⟨"DownhillPost", "daysAhead", "(I)I"⟩, 8), (⟨"DownhillPost$Tape", "byteAt", "(I)I"⟩, 6), (⟨"DownhillPost$Tape", "passNumber", "()V"⟩, 6), (⟨"DownhillPost$Tape", "passWord", "()V"⟩, 6), (⟨"DownhillPost", "sheetAt", "(I)LDownhillPost$Sheet;"⟩, 8), (⟨"DownhillPost$Sheet", "narrowed", "(J)J"⟩, 3), (⟨"DownhillPostModel", "finds", "(I)I"⟩, 21), (⟨"DownhillPostModel", "addVillage", "(IZ)V"⟩, 21), (⟨"DownhillPostModel", "isVillage", "(I)Z"⟩, 21), (⟨"DownhillPostModel", "height", "(I)I"⟩, 21), (⟨"DownhillPostModel", "roadsAt", "(I)I"⟩, 21), (⟨"DownhillPostModel", "end", "(II)I"⟩, 21), (⟨"DownhillPostModel", "lettersAt", "(I)I"⟩, 21), (⟨"DownhillPostModel", "its", "(II)I"⟩, 21), (⟨"DownhillPostModel", "isHermits", "(I)Z"⟩, 21)]
theorem lw_r2 : ∀ q ∈ lw_privs_2, lw_okq q := List.forall_mem_cons.mpr ⟨lw_p16, List.forall_mem_cons.mpr ⟨lw_p17, List.forall_mem_cons.mpr ⟨lw_p18, List.forall_mem_cons.mpr ⟨lw_p19, List.forall_mem_cons.mpr ⟨lw_p20, List.forall_mem_cons.mpr ⟨lw_p21, List.forall_mem_cons.mpr ⟨lw_p22, List.forall_mem_cons.mpr ⟨lw_p23, List.forall_mem_cons.mpr ⟨lw_p24, List.forall_mem_cons.mpr ⟨lw_p25, List.forall_mem_cons.mpr ⟨lw_p26, List.forall_mem_cons.mpr ⟨lw_p27, List.forall_mem_cons.mpr ⟨lw_p28, List.forall_mem_cons.mpr ⟨lw_p29, List.forall_mem_cons.mpr ⟨lw_p30, List.forall_mem_cons.mpr ⟨lw_p31, fun _ h => absurd h List.not_mem_nil⟩⟩⟩⟩⟩⟩⟩⟩⟩⟩⟩⟩⟩⟩⟩⟩
theorem lw_p32 : lw_okq (⟨"DownhillPostModel", "between", "(II)I"⟩, 21) := ⟨⟨by decide +kernel, by decide +kernel⟩, List.mem_of_getElem? (i := 882) (by decide +kernel), List.mem_of_getElem? (i := 1013) (by decide +kernel), List.mem_of_getElem? (i := 1014) (by decide +kernel)⟩
theorem lw_p33 : lw_okq (⟨"DownhillPostModel", "addRoad", "(III)V"⟩, 21) := ⟨⟨by decide +kernel, by decide +kernel⟩, List.mem_of_getElem? (i := 882) (by decide +kernel), List.mem_of_getElem? (i := 1018) (by decide +kernel), List.mem_of_getElem? (i := 1019) (by decide +kernel)⟩
theorem lw_p34 : lw_okq (⟨"DownhillPostModel", "isRoad", "(I)Z"⟩, 21) := ⟨⟨by decide +kernel, by decide +kernel⟩, List.mem_of_getElem? (i := 882) (by decide +kernel), List.mem_of_getElem? (i := 1026) (by decide +kernel), List.mem_of_getElem? (i := 1027) (by decide +kernel)⟩
theorem lw_p35 : lw_okq (⟨"DownhillPostModel", "theSea", "()I"⟩, 21) := ⟨⟨by decide +kernel, by decide +kernel⟩, List.mem_of_getElem? (i := 882) (by decide +kernel), List.mem_of_getElem? (i := 1039) (by decide +kernel), List.mem_of_getElem? (i := 1040) (by decide +kernel)⟩
theorem lw_p36 : lw_okq (⟨"DownhillPostModel", "thePeak", "()I"⟩, 21) := ⟨⟨by decide +kernel, by decide +kernel⟩, List.mem_of_getElem? (i := 882) (by decide +kernel), List.mem_of_getElem? (i := 1047) (by decide +kernel), List.mem_of_getElem? (i := 1048) (by decide +kernel)⟩
theorem lw_p37 : lw_okq (⟨"DownhillPostModel", "needsOf", "(II)I"⟩, 21) := ⟨⟨by decide +kernel, by decide +kernel⟩, List.mem_of_getElem? (i := 882) (by decide +kernel), List.mem_of_getElem? (i := 1058) (by decide +kernel), List.mem_of_getElem? (i := 1059) (by decide +kernel)⟩
theorem lw_p38 : lw_okq (⟨"DownhillPostModel", "goesDown", "(III)Z"⟩, 21) := ⟨⟨by decide +kernel, by decide +kernel⟩, List.mem_of_getElem? (i := 882) (by decide +kernel), List.mem_of_getElem? (i := 1066) (by decide +kernel), List.mem_of_getElem? (i := 1067) (by decide +kernel)⟩
theorem lw_p39 : lw_okq (⟨"DownhillPostModel", "isAsked", "(III)Z"⟩, 21) := ⟨⟨by decide +kernel, by decide +kernel⟩, List.mem_of_getElem? (i := 882) (by decide +kernel), List.mem_of_getElem? (i := 1074) (by decide +kernel), List.mem_of_getElem? (i := 1075) (by decide +kernel)⟩
theorem lw_p40 : lw_okq (⟨"DownhillPostModel", "earliest", "(IIII)I"⟩, 21) := ⟨⟨by decide +kernel, by decide +kernel⟩, List.mem_of_getElem? (i := 882) (by decide +kernel), List.mem_of_getElem? (i := 1078) (by decide +kernel), List.mem_of_getElem? (i := 1079) (by decide +kernel)⟩
theorem lw_p41 : lw_okq (⟨"DownhillPostModel", "find", "(IIIZ)V"⟩, 21) := ⟨⟨by decide +kernel, by decide +kernel⟩, List.mem_of_getElem? (i := 882) (by decide +kernel), List.mem_of_getElem? (i := 1082) (by decide +kernel), List.mem_of_getElem? (i := 1083) (by decide +kernel)⟩
theorem lw_p42 : lw_okq (⟨"DownhillPostModel", "flies", "(I)Z"⟩, 21) := ⟨⟨by decide +kernel, by decide +kernel⟩, List.mem_of_getElem? (i := 882) (by decide +kernel), List.mem_of_getElem? (i := 1087) (by decide +kernel), List.mem_of_getElem? (i := 1088) (by decide +kernel)⟩
theorem lw_p43 : lw_okq (⟨"DownhillPostModel", "goesOn", "(IZ)Z"⟩, 21) := ⟨⟨by decide +kernel, by decide +kernel⟩, List.mem_of_getElem? (i := 882) (by decide +kernel), List.mem_of_getElem? (i := 1091) (by decide +kernel), List.mem_of_getElem? (i := 1092) (by decide +kernel)⟩
theorem lw_p44 : lw_okq (⟨"DownhillPostModel", "takesRoad", "(IIII)Z"⟩, 21) := ⟨⟨by decide +kernel, by decide +kernel⟩, List.mem_of_getElem? (i := 882) (by decide +kernel), List.mem_of_getElem? (i := 1095) (by decide +kernel), List.mem_of_getElem? (i := 1096) (by decide +kernel)⟩
theorem lw_p45 : lw_okq (⟨"DownhillPostModel", "takesBalloon", "()Z"⟩, 21) := ⟨⟨by decide +kernel, by decide +kernel⟩, List.mem_of_getElem? (i := 882) (by decide +kernel), List.mem_of_getElem? (i := 1099) (by decide +kernel), List.mem_of_getElem? (i := 1100) (by decide +kernel)⟩
theorem lw_p46 : lw_okq (⟨"DownhillPostModel", "reachOf", "(IIZ)I"⟩, 21) := ⟨⟨by decide +kernel, by decide +kernel⟩, List.mem_of_getElem? (i := 882) (by decide +kernel), List.mem_of_getElem? (i := 1107) (by decide +kernel), List.mem_of_getElem? (i := 1108) (by decide +kernel)⟩
theorem lw_p47 : lw_okq (⟨"DownhillPostModel", "reached", "()I"⟩, 21) := ⟨⟨by decide +kernel, by decide +kernel⟩, List.mem_of_getElem? (i := 882) (by decide +kernel), List.mem_of_getElem? (i := 1111) (by decide +kernel), List.mem_of_getElem? (i := 1112) (by decide +kernel)⟩
def lw_privs_3 : List (MethodName × Nat) := [(⟨"DownhillPostModel", "between", "(II)I"⟩, 21), (⟨"DownhillPostModel", "addRoad", "(III)V"⟩, 21), (⟨"DownhillPostModel", "isRoad", "(I)Z"⟩, 21), (⟨"DownhillPostModel", "theSea", "()I"⟩, 21), (⟨"DownhillPostModel", "thePeak", "()I"⟩, 21), (⟨"DownhillPostModel", "needsOf", "(II)I"⟩, 21), (⟨"DownhillPostModel", "goesDown", "(III)Z"⟩, 21), (⟨"DownhillPostModel", "isAsked", "(III)Z"⟩, 21), (⟨"DownhillPostModel", "earliest", "(IIII)I"⟩, 21), (⟨"DownhillPostModel", "find", "(IIIZ)V"⟩, 21), (⟨"DownhillPostModel", "flies", "(I)Z"⟩, 21), (⟨"DownhillPostModel", "goesOn", "(IZ)Z"⟩, 21), (⟨"DownhillPostModel", "takesRoad", "(IIII)Z"⟩, 21), (⟨"DownhillPostModel", "takesBalloon", "()Z"⟩, 21), (⟨"DownhillPostModel", "reachOf", "(IIZ)I"⟩, 21), (⟨"DownhillPostModel", "reached", "()I"⟩, 21)]
theorem lw_r3 : ∀ q ∈ lw_privs_3, lw_okq q := List.forall_mem_cons.mpr ⟨lw_p32, List.forall_mem_cons.mpr ⟨lw_p33, List.forall_mem_cons.mpr ⟨lw_p34, List.forall_mem_cons.mpr ⟨lw_p35, List.forall_mem_cons.mpr ⟨lw_p36, List.forall_mem_cons.mpr ⟨lw_p37, List.forall_mem_cons.mpr ⟨lw_p38, List.forall_mem_cons.mpr ⟨lw_p39, List.forall_mem_cons.mpr ⟨lw_p40, List.forall_mem_cons.mpr ⟨lw_p41, List.forall_mem_cons.mpr ⟨lw_p42, List.forall_mem_cons.mpr ⟨lw_p43, List.forall_mem_cons.mpr ⟨lw_p44, List.forall_mem_cons.mpr ⟨lw_p45, List.forall_mem_cons.mpr ⟨lw_p46, List.forall_mem_cons.mpr ⟨lw_p47, fun _ h => absurd h List.not_mem_nil⟩⟩⟩⟩⟩⟩⟩⟩⟩⟩⟩⟩⟩⟩⟩⟩
theorem lw_p48 : lw_okq (⟨"DownhillPostModel", "back", "(III)I"⟩, 21) := ⟨⟨by decide +kernel, by decide +kernel⟩, List.mem_of_getElem? (i := 882) (by decide +kernel), List.mem_of_getElem? (i := 1130) (by decide +kernel), List.mem_of_getElem? (i := 1131) (by decide +kernel)⟩
theorem lw_p49 : lw_okq (⟨"DownhillPostModel", "reachWith", "(III)I"⟩, 21) := ⟨⟨by decide +kernel, by decide +kernel⟩, List.mem_of_getElem? (i := 882) (by decide +kernel), List.mem_of_getElem? (i := 1161) (by decide +kernel), List.mem_of_getElem? (i := 1162) (by decide +kernel)⟩
theorem lw_p50 : lw_okq (⟨"DownhillPostModel", "addLetter", "(III)V"⟩, 21) := ⟨⟨by decide +kernel, by decide +kernel⟩, List.mem_of_getElem? (i := 882) (by decide +kernel), List.mem_of_getElem? (i := 1169) (by decide +kernel), List.mem_of_getElem? (i := 1170) (by decide +kernel)⟩
theorem lw_p51 : lw_okq (⟨"DownhillPostModel", "sets", "(III)V"⟩, 21) := ⟨⟨by decide +kernel, by decide +kernel⟩, List.mem_of_getElem? (i := 882) (by decide +kernel), List.mem_of_getElem? (i := 1173) (by decide +kernel), List.mem_of_getElem? (i := 1174) (by decide +kernel)⟩
theorem lw_p52 : lw_okq (⟨"DownhillPostModel", "isPost", "(I)Z"⟩, 21) := ⟨⟨by decide +kernel, by decide +kernel⟩, List.mem_of_getElem? (i := 882) (by decide +kernel), List.mem_of_getElem? (i := 1181) (by decide +kernel), List.mem_of_getElem? (i := 1182) (by decide +kernel)⟩
theorem lw_p53 : lw_okq (⟨"DownhillPostModel", "isThere", "(I)Z"⟩, 21) := ⟨⟨by decide +kernel, by decide +kernel⟩, List.mem_of_getElem? (i := 882) (by decide +kernel), List.mem_of_getElem? (i := 1185) (by decide +kernel), List.mem_of_getElem? (i := 1186) (by decide +kernel)⟩
theorem lw_p54 : lw_okq (⟨"DownhillPostModel", "findWay", "(I)V"⟩, 21) := ⟨⟨by decide +kernel, by decide +kernel⟩, List.mem_of_getElem? (i := 882) (by decide +kernel), List.mem_of_getElem? (i := 1205) (by decide +kernel), List.mem_of_getElem? (i := 1206) (by decide +kernel)⟩
theorem lw_p55 : lw_okq (⟨"DownhillPostModel", "keeps", "(IIIII)Z"⟩, 21) := ⟨⟨by decide +kernel, by decide +kernel⟩, List.mem_of_getElem? (i := 882) (by decide +kernel), List.mem_of_getElem? (i := 1209) (by decide +kernel), List.mem_of_getElem? (i := 1210) (by decide +kernel)⟩
theorem lw_p56 : lw_okq (⟨"DownhillPostModel", "allThere", "()I"⟩, 21) := ⟨⟨by decide +kernel, by decide +kernel⟩, List.mem_of_getElem? (i := 882) (by decide +kernel), List.mem_of_getElem? (i := 1217) (by decide +kernel), List.mem_of_getElem? (i := 1218) (by decide +kernel)⟩
theorem lw_p57 : lw_okq (⟨"DownhillPostModel", "aDay", "()V"⟩, 21) := ⟨⟨by decide +kernel, by decide +kernel⟩, List.mem_of_getElem? (i := 882) (by decide +kernel), List.mem_of_getElem? (i := 1221) (by decide +kernel), List.mem_of_getElem? (i := 1222) (by decide +kernel)⟩
theorem lw_p58 : lw_okq (⟨"DownhillPostModel", "onTheirWay", "()I"⟩, 21) := ⟨⟨by decide +kernel, by decide +kernel⟩, List.mem_of_getElem? (i := 882) (by decide +kernel), List.mem_of_getElem? (i := 1233) (by decide +kernel), List.mem_of_getElem? (i := 1234) (by decide +kernel)⟩
theorem lw_p59 : lw_okq (⟨"DownhillPostModel", "moveAll", "(Z[I)V"⟩, 21) := ⟨⟨by decide +kernel, by decide +kernel⟩, List.mem_of_getElem? (i := 882) (by decide +kernel), List.mem_of_getElem? (i := 1241) (by decide +kernel), List.mem_of_getElem? (i := 1242) (by decide +kernel)⟩
theorem lw_p60 : lw_okq (⟨"DownhillPostModel", "daysTill", "(I)I"⟩, 21) := ⟨⟨by decide +kernel, by decide +kernel⟩, List.mem_of_getElem? (i := 882) (by decide +kernel), List.mem_of_getElem? (i := 1249) (by decide +kernel), List.mem_of_getElem? (i := 1250) (by decide +kernel)⟩
theorem lw_p61 : lw_okq (⟨"DownhillPostModel", "advance", "()V"⟩, 21) := ⟨⟨by decide +kernel, by decide +kernel⟩, List.mem_of_getElem? (i := 882) (by decide +kernel), List.mem_of_getElem? (i := 1269) (by decide +kernel), List.mem_of_getElem? (i := 1270) (by decide +kernel)⟩
theorem lw_p62 : lw_okq (⟨"DownhillPostModel", "byteAt", "(I)I"⟩, 21) := ⟨⟨by decide +kernel, by decide +kernel⟩, List.mem_of_getElem? (i := 882) (by decide +kernel), List.mem_of_getElem? (i := 1273) (by decide +kernel), List.mem_of_getElem? (i := 1274) (by decide +kernel)⟩
theorem lw_p63 : lw_okq (⟨"DownhillPostModel", "wantItem", "()V"⟩, 21) := ⟨⟨by decide +kernel, by decide +kernel⟩, List.mem_of_getElem? (i := 882) (by decide +kernel), List.mem_of_getElem? (i := 1286) (by decide +kernel), List.mem_of_getElem? (i := 1287) (by decide +kernel)⟩
def lw_privs_4 : List (MethodName × Nat) := [(⟨"DownhillPostModel", "back", "(III)I"⟩, 21), (⟨"DownhillPostModel", "reachWith", "(III)I"⟩, 21), (⟨"DownhillPostModel", "addLetter", "(III)V"⟩, 21), (⟨"DownhillPostModel", "sets", "(III)V"⟩, 21), (⟨"DownhillPostModel", "isPost", "(I)Z"⟩, 21), (⟨"DownhillPostModel", "isThere", "(I)Z"⟩, 21), (⟨"DownhillPostModel", "findWay", "(I)V"⟩, 21), (⟨"DownhillPostModel", "keeps", "(IIIII)Z"⟩, 21), (⟨"DownhillPostModel", "allThere", "()I"⟩, 21), (⟨"DownhillPostModel", "aDay", "()V"⟩, 21), (⟨"DownhillPostModel", "onTheirWay", "()I"⟩, 21), (⟨"DownhillPostModel", "moveAll", "(Z[I)V"⟩, 21), (⟨"DownhillPostModel", "daysTill", "(I)I"⟩, 21), (⟨"DownhillPostModel", "advance", "()V"⟩, 21), (⟨"DownhillPostModel", "byteAt", "(I)I"⟩, 21), (⟨"DownhillPostModel", "wantItem", "()V"⟩, 21)]
theorem lw_r4 : ∀ q ∈ lw_privs_4, lw_okq q := List.forall_mem_cons.mpr ⟨lw_p48, List.forall_mem_cons.mpr ⟨lw_p49, List.forall_mem_cons.mpr ⟨lw_p50, List.forall_mem_cons.mpr ⟨lw_p51, List.forall_mem_cons.mpr ⟨lw_p52, List.forall_mem_cons.mpr ⟨lw_p53, List.forall_mem_cons.mpr ⟨lw_p54, List.forall_mem_cons.mpr ⟨lw_p55, List.forall_mem_cons.mpr ⟨lw_p56, List.forall_mem_cons.mpr ⟨lw_p57, List.forall_mem_cons.mpr ⟨lw_p58, List.forall_mem_cons.mpr ⟨lw_p59, List.forall_mem_cons.mpr ⟨lw_p60, List.forall_mem_cons.mpr ⟨lw_p61, List.forall_mem_cons.mpr ⟨lw_p62, List.forall_mem_cons.mpr ⟨lw_p63, fun _ h => absurd h List.not_mem_nil⟩⟩⟩⟩⟩⟩⟩⟩⟩⟩⟩⟩⟩⟩⟩⟩
theorem lw_p64 : lw_okq (⟨"DownhillPostModel", "isWord", "(J)Z"⟩, 21) := ⟨⟨by decide +kernel, by decide +kernel⟩, List.mem_of_getElem? (i := 882) (by decide +kernel), List.mem_of_getElem? (i := 1291) (by decide +kernel), List.mem_of_getElem? (i := 1292) (by decide +kernel)⟩
theorem lw_p65 : lw_okq (⟨"DownhillPostModel", "wantVillage", "()V"⟩, 21) := ⟨⟨by decide +kernel, by decide +kernel⟩, List.mem_of_getElem? (i := 882) (by decide +kernel), List.mem_of_getElem? (i := 1295) (by decide +kernel), List.mem_of_getElem? (i := 1296) (by decide +kernel)⟩
theorem lw_p66 : lw_okq (⟨"DownhillPostModel", "wantNumber", "(II)I"⟩, 21) := ⟨⟨by decide +kernel, by decide +kernel⟩, List.mem_of_getElem? (i := 882) (by decide +kernel), List.mem_of_getElem? (i := 1299) (by decide +kernel), List.mem_of_getElem? (i := 1300) (by decide +kernel)⟩
theorem lw_p67 : lw_okq (⟨"DownhillPostModel", "wantRoad", "()V"⟩, 21) := ⟨⟨by decide +kernel, by decide +kernel⟩, List.mem_of_getElem? (i := 882) (by decide +kernel), List.mem_of_getElem? (i := 1305) (by decide +kernel), List.mem_of_getElem? (i := 1306) (by decide +kernel)⟩
theorem lw_p68 : lw_okq (⟨"DownhillPostModel", "wantWord", "(J)V"⟩, 21) := ⟨⟨by decide +kernel, by decide +kernel⟩, List.mem_of_getElem? (i := 882) (by decide +kernel), List.mem_of_getElem? (i := 1310) (by decide +kernel), List.mem_of_getElem? (i := 1311) (by decide +kernel)⟩
theorem lw_p69 : lw_okq (⟨"DownhillPostModel", "mayWant", "(JIII)I"⟩, 21) := ⟨⟨by decide +kernel, by decide +kernel⟩, List.mem_of_getElem? (i := 882) (by decide +kernel), List.mem_of_getElem? (i := 1315) (by decide +kernel), List.mem_of_getElem? (i := 1316) (by decide +kernel)⟩
theorem lw_p70 : lw_okq (⟨"DownhillPostModel", "wantSlide", "()V"⟩, 21) := ⟨⟨by decide +kernel, by decide +kernel⟩, List.mem_of_getElem? (i := 882) (by decide +kernel), List.mem_of_getElem? (i := 1320) (by decide +kernel), List.mem_of_getElem? (i := 1321) (by decide +kernel)⟩
theorem lw_p71 : lw_okq (⟨"DownhillPostModel", "wantEvery", "()V"⟩, 21) := ⟨⟨by decide +kernel, by decide +kernel⟩, List.mem_of_getElem? (i := 882) (by decide +kernel), List.mem_of_getElem? (i := 1325) (by decide +kernel), List.mem_of_getElem? (i := 1326) (by decide +kernel)⟩
theorem lw_p72 : lw_okq (⟨"DownhillPostModel", "kindHere", "()I"⟩, 21) := ⟨⟨by decide +kernel, by decide +kernel⟩, List.mem_of_getElem? (i := 882) (by decide +kernel), List.mem_of_getElem? (i := 1329) (by decide +kernel), List.mem_of_getElem? (i := 1330) (by decide +kernel)⟩
theorem lw_p73 : lw_okq (⟨"DownhillPostModel", "wantLetter", "(I)V"⟩, 21) := ⟨⟨by decide +kernel, by decide +kernel⟩, List.mem_of_getElem? (i := 882) (by decide +kernel), List.mem_of_getElem? (i := 1339) (by decide +kernel), List.mem_of_getElem? (i := 1340) (by decide +kernel)⟩
theorem lw_p74 : lw_okq (⟨"DownhillPostModel", "isPart", "(III)Z"⟩, 21) := ⟨⟨by decide +kernel, by decide +kernel⟩, List.mem_of_getElem? (i := 882) (by decide +kernel), List.mem_of_getElem? (i := 1363) (by decide +kernel), List.mem_of_getElem? (i := 1364) (by decide +kernel)⟩
def lw_privs_5 : List (MethodName × Nat) := [(⟨"DownhillPostModel", "isWord", "(J)Z"⟩, 21), (⟨"DownhillPostModel", "wantVillage", "()V"⟩, 21), (⟨"DownhillPostModel", "wantNumber", "(II)I"⟩, 21), (⟨"DownhillPostModel", "wantRoad", "()V"⟩, 21), (⟨"DownhillPostModel", "wantWord", "(J)V"⟩, 21), (⟨"DownhillPostModel", "mayWant", "(JIII)I"⟩, 21), (⟨"DownhillPostModel", "wantSlide", "()V"⟩, 21), (⟨"DownhillPostModel", "wantEvery", "()V"⟩, 21), (⟨"DownhillPostModel", "kindHere", "()I"⟩, 21), (⟨"DownhillPostModel", "wantLetter", "(I)V"⟩, 21), (⟨"DownhillPostModel", "isPart", "(III)Z"⟩, 21)]
theorem lw_r5 : ∀ q ∈ lw_privs_5, lw_okq q := List.forall_mem_cons.mpr ⟨lw_p64, List.forall_mem_cons.mpr ⟨lw_p65, List.forall_mem_cons.mpr ⟨lw_p66, List.forall_mem_cons.mpr ⟨lw_p67, List.forall_mem_cons.mpr ⟨lw_p68, List.forall_mem_cons.mpr ⟨lw_p69, List.forall_mem_cons.mpr ⟨lw_p70, List.forall_mem_cons.mpr ⟨lw_p71, List.forall_mem_cons.mpr ⟨lw_p72, List.forall_mem_cons.mpr ⟨lw_p73, List.forall_mem_cons.mpr ⟨lw_p74, fun _ h => absurd h List.not_mem_nil⟩⟩⟩⟩⟩⟩⟩⟩⟩⟩⟩
def lw_privs : List (MethodName × Nat) := lw_privs_1 ++ (lw_privs_2 ++ (lw_privs_3 ++ (lw_privs_4 ++ (lw_privs_5))))
def lw_tbl : List Cond := k2_sels lw_privs ++ tables_1
theorem lw_privs_ok : ∀ q ∈ lw_privs, lw_okq q := by
  show ∀ q ∈ lw_privs_1 ++ (lw_privs_2 ++ (lw_privs_3 ++ (lw_privs_4 ++ (lw_privs_5)))), lw_okq q
  exact List.forall_mem_append.mpr ⟨lw_r1, List.forall_mem_append.mpr ⟨lw_r2, List.forall_mem_append.mpr ⟨lw_r3, List.forall_mem_append.mpr ⟨lw_r4, lw_r5⟩⟩⟩⟩
-- ===== end of PART A; then your names; then what follows =====
end
section
def RX0 : String := "DownhillPost$Land"
def TX0 : u_T := fun k => match k with
  | 0 => ("DownhillPost$Land", "villages", "I", false)
  | 1 => ("DownhillPost$Land", "heights", "[I", true)
  | 2 => ("DownhillPost$Land", "hermits", "I", false)
  | 3 => ("DownhillPost$Land", "roads", "I", false)
  | 4 => ("DownhillPost$Land", "ones", "[I", true)
  | 5 => ("DownhillPost$Land", "others", "[I", true)
  | 6 => ("DownhillPost$Land", "lengths", "[I", true)
  | 7 => ("DownhillPost$Land", "every", "I", false)
  | 8 => ("DownhillPost$Land", "day", "I", false)
  | 9 => ("DownhillPost$Land", "letters", "I", false)
  | 10 => ("DownhillPost$Land", "kinds", "[I", true)
  | 11 => ("DownhillPost$Land", "places", "[I", true)
  | 12 => ("DownhillPost$Land", "goals", "[I", true)
  | 13 => ("DownhillPost$Land", "sents", "[I", true)
  | _ => ("DownhillPost$Land", "lefts", "[I", true)
def tyX0 : Nat → FieldType := fun k => match k with
  | 0 => .int
  | 1 => .array .int
  | 2 => .int
  | 3 => .int
  | 4 => .array .int
  | 5 => .array .int
  | 6 => .array .int
  | 7 => .int
  | 8 => .int
  | 9 => .int
  | 10 => .array .int
  | 11 => .array .int
  | 12 => .array .int
  | 13 => .array .int
  | _ => .array .int
theorem nmX0 : ∀ a, a < 15 → ∀ b, b < 15 → a ≠ b → (TX0 a).2.1 ≠ (TX0 b).2.1 := by decide +kernel
theorem tyX0_ok : ∀ k, k < 15 → parseFieldDescriptor (TX0 k).2.2.1 = some (tyX0 k) := by decide +kernel
abbrev cX0_init : ByteArray := prog_2_method_1_code
def yX0_init : MethodName := ⟨RX0, "<init>", "()V"⟩
abbrev cX0_become : ByteArray := prog_2_method_2_code
def yX0_become : MethodName := ⟨RX0, "become", "(LDownhillPost$Land;)V"⟩
abbrev cX0_hasVillage : ByteArray := prog_2_method_3_code
def yX0_hasVillage : MethodName := ⟨RX0, "hasVillage", "(I)Z"⟩
abbrev cX0_hasRoad : ByteArray := prog_2_method_4_code
def yX0_hasRoad : MethodName := ⟨RX0, "hasRoad", "(I)Z"⟩
abbrev cX0_hasLetter : ByteArray := prog_2_method_5_code
def yX0_hasLetter : MethodName := ⟨RX0, "hasLetter", "(I)Z"⟩
abbrev cX0_villagesFull : ByteArray := prog_2_method_6_code
def yX0_villagesFull : MethodName := ⟨RX0, "villagesFull", "()Z"⟩
abbrev cX0_roadsFull : ByteArray := prog_2_method_7_code
def yX0_roadsFull : MethodName := ⟨RX0, "roadsFull", "()Z"⟩
abbrev cX0_lettersFull : ByteArray := prog_2_method_8_code
def yX0_lettersFull : MethodName := ⟨RX0, "lettersFull", "()Z"⟩
abbrev cX0_addVillage : ByteArray := prog_2_method_9_code
def yX0_addVillage : MethodName := ⟨RX0, "addVillage", "(IZ)I"⟩
abbrev cX0_addRoad : ByteArray := prog_2_method_10_code
def yX0_addRoad : MethodName := ⟨RX0, "addRoad", "(III)I"⟩
abbrev cX0_addLetter : ByteArray := prog_2_method_11_code
def yX0_addLetter : MethodName := ⟨RX0, "addLetter", "(III)I"⟩
abbrev cX0_heightOf : ByteArray := prog_2_method_12_code
def yX0_heightOf : MethodName := ⟨RX0, "heightOf", "(I)I"⟩
abbrev cX0_setHeight : ByteArray := prog_2_method_13_code
def yX0_setHeight : MethodName := ⟨RX0, "setHeight", "(II)V"⟩
abbrev cX0_isHermits : ByteArray := prog_2_method_14_code
def yX0_isHermits : MethodName := ⟨RX0, "isHermits", "(I)Z"⟩
abbrev cX0_setHermits : ByteArray := prog_2_method_15_code
def yX0_setHermits : MethodName := ⟨RX0, "setHermits", "(IZ)V"⟩
abbrev cX0_allVillages : ByteArray := prog_2_method_16_code
def yX0_allVillages : MethodName := ⟨RX0, "allVillages", "()I"⟩
abbrev cX0_roadsOf : ByteArray := prog_2_method_17_code
def yX0_roadsOf : MethodName := ⟨RX0, "roadsOf", "(I)I"⟩
abbrev cX0_areJoined : ByteArray := prog_2_method_18_code
def yX0_areJoined : MethodName := ⟨RX0, "areJoined", "(II)Z"⟩
abbrev cX0_lowest : ByteArray := prog_2_method_19_code
def yX0_lowest : MethodName := ⟨RX0, "lowest", "()I"⟩
abbrev cX0_highest : ByteArray := prog_2_method_20_code
def yX0_highest : MethodName := ⟨RX0, "highest", "()I"⟩
abbrev cX0_heightsTogether : ByteArray := prog_2_method_21_code
def yX0_heightsTogether : MethodName := ⟨RX0, "heightsTogether", "()I"⟩
abbrev cX0_takes : ByteArray := prog_2_method_22_code
def yX0_takes : MethodName := ⟨RX0, "takes", "(II)Z"⟩
abbrev cX0_carries : ByteArray := prog_2_method_23_code
def yX0_carries : MethodName := ⟨RX0, "carries", "(III)Z"⟩
abbrev cX0_leadsInto : ByteArray := prog_2_method_24_code
def yX0_leadsInto : MethodName := ⟨RX0, "leadsInto", "(III)Z"⟩
abbrev cX0_balloonTakes : ByteArray := prog_2_method_25_code
def yX0_balloonTakes : MethodName := ⟨RX0, "balloonTakes", "(I)Z"⟩
abbrev cX0_liesIn : ByteArray := prog_2_method_26_code
def yX0_liesIn : MethodName := ⟨RX0, "liesIn", "(II)Z"⟩
abbrev cX0_isThere : ByteArray := prog_2_method_27_code
def yX0_isThere : MethodName := ⟨RX0, "isThere", "(I)Z"⟩
abbrev cX0_lettersIn : ByteArray := prog_2_method_28_code
def yX0_lettersIn : MethodName := ⟨RX0, "lettersIn", "(I)I"⟩
abbrev cX0_lettersThere : ByteArray := prog_2_method_29_code
def yX0_lettersThere : MethodName := ⟨RX0, "lettersThere", "()I"⟩
abbrev cX0_lettersOnTheirWay : ByteArray := prog_2_method_30_code
def yX0_lettersOnTheirWay : MethodName := ⟨RX0, "lettersOnTheirWay", "()I"⟩
abbrev cX0_passDay : ByteArray := prog_2_method_31_code
def yX0_passDay : MethodName := ⟨RX0, "passDay", "(ILDownhillPost$Ways;I)V"⟩
def RX1 : String := "DownhillPost$LandText"
def TX1 : u_T := fun k => match k with
  | _ => ("", "", "", false)
def tyX1 : Nat → FieldType := fun k => match k with
  | _ => .int
theorem nmX1 : ∀ a, a < 0 → ∀ b, b < 0 → a ≠ b → (TX1 a).2.1 ≠ (TX1 b).2.1 := by decide +kernel
theorem tyX1_ok : ∀ k, k < 0 → parseFieldDescriptor (TX1 k).2.2.1 = some (tyX1 k) := by decide +kernel
abbrev cX1_bring : ByteArray := prog_3_method_2_code
def yX1_bring : MethodName := ⟨RX1, "bring", "(LDownhillPost$Tape;LDownhillPost$Land;)I"⟩
abbrev cX1_bringItem : ByteArray := prog_3_method_3_code
def yX1_bringItem : MethodName := ⟨RX1, "bringItem", "(LDownhillPost$Tape;LDownhillPost$Land;)Z"⟩
abbrev cX1_bringVillage : ByteArray := prog_3_method_4_code
def yX1_bringVillage : MethodName := ⟨RX1, "bringVillage", "(LDownhillPost$Tape;LDownhillPost$Land;)Z"⟩
abbrev cX1_bringRoad : ByteArray := prog_3_method_5_code
def yX1_bringRoad : MethodName := ⟨RX1, "bringRoad", "(LDownhillPost$Tape;LDownhillPost$Land;)Z"⟩
abbrev cX1_bringSlide : ByteArray := prog_3_method_6_code
def yX1_bringSlide : MethodName := ⟨RX1, "bringSlide", "(LDownhillPost$Tape;LDownhillPost$Land;)Z"⟩
abbrev cX1_bringEvery : ByteArray := prog_3_method_7_code
def yX1_bringEvery : MethodName := ⟨RX1, "bringEvery", "(LDownhillPost$Tape;LDownhillPost$Land;)Z"⟩
abbrev cX1_bringLetter : ByteArray := prog_3_method_8_code
def yX1_bringLetter : MethodName := ⟨RX1, "bringLetter", "(LDownhillPost$Tape;LDownhillPost$Land;I)Z"⟩
abbrev cX1_standsVillage : ByteArray := prog_3_method_9_code
def yX1_standsVillage : MethodName := ⟨RX1, "standsVillage", "(LDownhillPost$Tape;LDownhillPost$Land;)Z"⟩
abbrev cX1_kindNamed : ByteArray := prog_3_method_10_code
def yX1_kindNamed : MethodName := ⟨RX1, "kindNamed", "(LDownhillPost$Tape;)I"⟩
abbrev cX1_nameOf : ByteArray := prog_3_method_11_code
def yX1_nameOf : MethodName := ⟨RX1, "nameOf", "(I)Ljava/lang/String;"⟩
def RX2 : String := "DownhillPost$Post"
def TX2 : u_T := fun k => match k with
  | _ => ("", "", "", false)
def tyX2 : Nat → FieldType := fun k => match k with
  | _ => .int
theorem nmX2 : ∀ a, a < 0 → ∀ b, b < 0 → a ≠ b → (TX2 a).2.1 ≠ (TX2 b).2.1 := by decide +kernel
theorem tyX2_ok : ∀ k, k < 0 → parseFieldDescriptor (TX2 k).2.2.1 = some (tyX2 k) := by decide +kernel
abbrev cX2_isUnder : ByteArray := prog_4_method_2_code
def yX2_isUnder : MethodName := ⟨RX2, "isUnder", "(II)Z"⟩
abbrev cX2_daysFor : ByteArray := prog_4_method_3_code
def yX2_daysFor : MethodName := ⟨RX2, "daysFor", "(II)I"⟩
abbrev cX2_leastDrop : ByteArray := prog_4_method_4_code
def yX2_leastDrop : MethodName := ⟨RX2, "leastDrop", "(I)I"⟩
def RX3 : String := "DownhillPost$Sheet"
def TX3 : u_T := fun k => match k with
  | 0 => ("DownhillPost$Sheet", "bits", "I", false)
  | 1 => ("DownhillPost$Sheet", "size", "I", false)
  | _ => ("DownhillPost$Sheet", "numbers", "[J", true)
def tyX3 : Nat → FieldType := fun k => match k with
  | 0 => .int
  | 1 => .int
  | _ => .array .long
theorem nmX3 : ∀ a, a < 3 → ∀ b, b < 3 → a ≠ b → (TX3 a).2.1 ≠ (TX3 b).2.1 := by decide +kernel
theorem tyX3_ok : ∀ k, k < 3 → parseFieldDescriptor (TX3 k).2.2.1 = some (tyX3 k) := by decide +kernel
abbrev cX3_init : ByteArray := prog_5_method_1_code
def yX3_init : MethodName := ⟨RX3, "<init>", "()V"⟩
abbrev cX3_isWidth : ByteArray := prog_5_method_2_code
def yX3_isWidth : MethodName := ⟨RX3, "isWidth", "(I)Z"⟩
abbrev cX3_isMissing : ByteArray := prog_5_method_3_code
def yX3_isMissing : MethodName := ⟨RX3, "isMissing", "()Z"⟩
abbrev cX3_renew : ByteArray := prog_5_method_4_code
def yX3_renew : MethodName := ⟨RX3, "renew", "(II)V"⟩
abbrev cX3_has : ByteArray := prog_5_method_5_code
def yX3_has : MethodName := ⟨RX3, "has", "(I)Z"⟩
abbrev cX3_hasRun : ByteArray := prog_5_method_6_code
def yX3_hasRun : MethodName := ⟨RX3, "hasRun", "(II)Z"⟩
abbrev cX3_number : ByteArray := prog_5_method_7_code
def yX3_number : MethodName := ⟨RX3, "number", "(I)J"⟩
abbrev cX3_put : ByteArray := prog_5_method_8_code
def yX3_put : MethodName := ⟨RX3, "put", "(IJ)V"⟩
abbrev cX3_narrowed : ByteArray := prog_5_method_9_code
def yX3_narrowed : MethodName := ⟨RX3, "narrowed", "(J)J"⟩
def RX4 : String := "DownhillPost$Tape"
def TX4 : u_T := fun k => match k with
  | 0 => ("DownhillPost$Tape", "bytes", "[I", true)
  | 1 => ("DownhillPost$Tape", "length", "I", false)
  | 2 => ("DownhillPost$Tape", "start", "I", false)
  | 3 => ("DownhillPost$Tape", "end", "I", false)
  | 4 => ("DownhillPost$Tape", "sort", "I", false)
  | _ => ("DownhillPost$Tape", "value", "I", false)
def tyX4 : Nat → FieldType := fun k => match k with
  | 0 => .array .int
  | 1 => .int
  | 2 => .int
  | 3 => .int
  | 4 => .int
  | _ => .int
theorem nmX4 : ∀ a, a < 6 → ∀ b, b < 6 → a ≠ b → (TX4 a).2.1 ≠ (TX4 b).2.1 := by decide +kernel
theorem tyX4_ok : ∀ k, k < 6 → parseFieldDescriptor (TX4 k).2.2.1 = some (tyX4 k) := by decide +kernel
abbrev cX4_init : ByteArray := prog_6_method_1_code
def yX4_init : MethodName := ⟨RX4, "<init>", "()V"⟩
abbrev cX4_append : ByteArray := prog_6_method_2_code
def yX4_append : MethodName := ⟨RX4, "append", "(I)V"⟩
abbrev cX4_rewind : ByteArray := prog_6_method_3_code
def yX4_rewind : MethodName := ⟨RX4, "rewind", "()V"⟩
abbrev cX4_advance : ByteArray := prog_6_method_4_code
def yX4_advance : MethodName := ⟨RX4, "advance", "()V"⟩
abbrev cX4_byteAt : ByteArray := prog_6_method_5_code
def yX4_byteAt : MethodName := ⟨RX4, "byteAt", "(I)I"⟩
abbrev cX4_sortOf : ByteArray := prog_6_method_6_code
def yX4_sortOf : MethodName := ⟨RX4, "sortOf", "(I)I"⟩
abbrev cX4_passWord : ByteArray := prog_6_method_7_code
def yX4_passWord : MethodName := ⟨RX4, "passWord", "()V"⟩
abbrev cX4_passNumber : ByteArray := prog_6_method_8_code
def yX4_passNumber : MethodName := ⟨RX4, "passNumber", "()V"⟩
abbrev cX4_isEnd : ByteArray := prog_6_method_9_code
def yX4_isEnd : MethodName := ⟨RX4, "isEnd", "()Z"⟩
abbrev cX4_isSemicolon : ByteArray := prog_6_method_10_code
def yX4_isSemicolon : MethodName := ⟨RX4, "isSemicolon", "()Z"⟩
abbrev cX4_isNumber : ByteArray := prog_6_method_11_code
def yX4_isNumber : MethodName := ⟨RX4, "isNumber", "(II)Z"⟩
abbrev cX4_isWord : ByteArray := prog_6_method_12_code
def yX4_isWord : MethodName := ⟨RX4, "isWord", "(Ljava/lang/String;)Z"⟩
def RX5 : String := "DownhillPost$Ways"
def TX5 : u_T := fun k => match k with
  | 0 => ("DownhillPost$Ways", "steps", "[I", true)
  | 1 => ("DownhillPost$Ways", "downs", "[I", true)
  | 2 => ("DownhillPost$Ways", "villages", "I", false)
  | 3 => ("DownhillPost$Ways", "sea", "I", false)
  | 4 => ("DownhillPost$Ways", "peak", "I", false)
  | 5 => ("DownhillPost$Ways", "every", "I", false)
  | 6 => ("DownhillPost$Ways", "balloon", "Z", false)
  | 7 => ("DownhillPost$Ways", "stop", "I", false)
  | _ => ("DownhillPost$Ways", "stopDays", "I", false)
def tyX5 : Nat → FieldType := fun k => match k with
  | 0 => .array .int
  | 1 => .array .int
  | 2 => .int
  | 3 => .int
  | 4 => .int
  | 5 => .int
  | 6 => .boolean
  | 7 => .int
  | _ => .int
theorem nmX5 : ∀ a, a < 9 → ∀ b, b < 9 → a ≠ b → (TX5 a).2.1 ≠ (TX5 b).2.1 := by decide +kernel
theorem tyX5_ok : ∀ k, k < 9 → parseFieldDescriptor (TX5 k).2.2.1 = some (tyX5 k) := by decide +kernel
abbrev cX5_init : ByteArray := prog_7_method_1_code
def yX5_init : MethodName := ⟨RX5, "<init>", "()V"⟩
abbrev cX5_layOut : ByteArray := prog_7_method_2_code
def yX5_layOut : MethodName := ⟨RX5, "layOut", "(LDownhillPost$Land;I)V"⟩
abbrev cX5_layStep : ByteArray := prog_7_method_3_code
def yX5_layStep : MethodName := ⟨RX5, "layStep", "(LDownhillPost$Land;IIII)V"⟩
abbrev cX5_joinSteps : ByteArray := prog_7_method_4_code
def yX5_joinSteps : MethodName := ⟨RX5, "joinSteps", "()V"⟩
abbrev cX5_shortenBy : ByteArray := prog_7_method_5_code
def yX5_shortenBy : MethodName := ⟨RX5, "shortenBy", "(II)V"⟩
abbrev cX5_areHere : ByteArray := prog_7_method_6_code
def yX5_areHere : MethodName := ⟨RX5, "areHere", "(II)Z"⟩
abbrev cX5_stepDays : ByteArray := prog_7_method_7_code
def yX5_stepDays : MethodName := ⟨RX5, "stepDays", "(II)I"⟩
abbrev cX5_downDays : ByteArray := prog_7_method_8_code
def yX5_downDays : MethodName := ⟨RX5, "downDays", "(II)I"⟩
abbrev cX5_comesDown : ByteArray := prog_7_method_9_code
def yX5_comesDown : MethodName := ⟨RX5, "comesDown", "(II)Z"⟩
abbrev cX5_comes : ByteArray := prog_7_method_10_code
def yX5_comes : MethodName := ⟨RX5, "comes", "(II)Z"⟩
abbrev cX5_earliest : ByteArray := prog_7_method_11_code
def yX5_earliest : MethodName := ⟨RX5, "earliest", "(III)I"⟩
abbrev cX5_flightFrom : ByteArray := prog_7_method_12_code
def yX5_flightFrom : MethodName := ⟨RX5, "flightFrom", "(I)I"⟩
abbrev cX5_answered : ByteArray := prog_7_method_13_code
def yX5_answered : MethodName := ⟨RX5, "answered", "(III)I"⟩
abbrev cX5_allFrom : ByteArray := prog_7_method_14_code
def yX5_allFrom : MethodName := ⟨RX5, "allFrom", "(I)I"⟩
abbrev cX5_allInto : ByteArray := prog_7_method_15_code
def yX5_allInto : MethodName := ⟨RX5, "allInto", "(I)I"⟩
abbrev cX5_allDownFrom : ByteArray := prog_7_method_16_code
def yX5_allDownFrom : MethodName := ⟨RX5, "allDownFrom", "(I)I"⟩
abbrev cX5_bestHome : ByteArray := prog_7_method_17_code
def yX5_bestHome : MethodName := ⟨RX5, "bestHome", "(II)I"⟩
abbrev cX5_lastAnswer : ByteArray := prog_7_method_18_code
def yX5_lastAnswer : MethodName := ⟨RX5, "lastAnswer", "(III)I"⟩
abbrev cX5_silentPairs : ByteArray := prog_7_method_19_code
def yX5_silentPairs : MethodName := ⟨RX5, "silentPairs", "()I"⟩
abbrev cX5_lookAhead : ByteArray := prog_7_method_20_code
def yX5_lookAhead : MethodName := ⟨RX5, "lookAhead", "(III)V"⟩
abbrev cX5_daysInto : ByteArray := prog_7_method_21_code
def yX5_daysInto : MethodName := ⟨RX5, "daysInto", "(III)I"⟩
def RX6 : String := "DownhillPost"
def TX6 : u_T := fun k => match k with
  | 0 => ("DownhillPost", "land", "LDownhillPost$Land;", true)
  | 1 => ("DownhillPost", "kept", "LDownhillPost$Land;", true)
  | 2 => ("DownhillPost", "draft", "LDownhillPost$Land;", true)
  | 3 => ("DownhillPost", "ways", "LDownhillPost$Ways;", true)
  | 4 => ("DownhillPost", "tape", "LDownhillPost$Tape;", true)
  | 5 => ("DownhillPost", "sheets", "[LDownhillPost$Sheet;", true)
  | 6 => ("DownhillPost", "tally", "[I", true)
  | _ => ("DownhillPost", "imageKept", "Z", false)
def tyX6 : Nat → FieldType := fun k => match k with
  | 0 => .object "DownhillPost$Land"
  | 1 => .object "DownhillPost$Land"
  | 2 => .object "DownhillPost$Land"
  | 3 => .object "DownhillPost$Ways"
  | 4 => .object "DownhillPost$Tape"
  | 5 => .array (.object "DownhillPost$Sheet")
  | 6 => .array .int
  | _ => .boolean
theorem nmX6 : ∀ a, a < 8 → ∀ b, b < 8 → a ≠ b → (TX6 a).2.1 ≠ (TX6 b).2.1 := by decide +kernel
theorem tyX6_ok : ∀ k, k < 8 → parseFieldDescriptor (TX6 k).2.2.1 = some (tyX6 k) := by decide +kernel
abbrev cX6_init : ByteArray := prog_1_method_1_code
def yX6_init : MethodName := ⟨RX6, "<init>", "()V"⟩
abbrev cX6_village : ByteArray := prog_1_method_2_code
def yX6_village : MethodName := ⟨RX6, "village", "(I)I"⟩
abbrev cX6_villageOf : ByteArray := prog_1_method_3_code
def yX6_villageOf : MethodName := ⟨RX6, "villageOf", "(II)I"⟩
abbrev cX6_slide : ByteArray := prog_1_method_4_code
def yX6_slide : MethodName := ⟨RX6, "slide", "(II)I"⟩
abbrev cX6_hermit : ByteArray := prog_1_method_5_code
def yX6_hermit : MethodName := ⟨RX6, "hermit", "(IZ)I"⟩
abbrev cX6_road : ByteArray := prog_1_method_6_code
def yX6_road : MethodName := ⟨RX6, "road", "(III)I"⟩
abbrev cX6_roadOf : ByteArray := prog_1_method_7_code
def yX6_roadOf : MethodName := ⟨RX6, "roadOf", "(II)I"⟩
abbrev cX6_every : ByteArray := prog_1_method_8_code
def yX6_every : MethodName := ⟨RX6, "every", "(I)I"⟩
abbrev cX6_sea : ByteArray := prog_1_method_9_code
def yX6_sea : MethodName := ⟨RX6, "sea", "()I"⟩
abbrev cX6_peak : ByteArray := prog_1_method_10_code
def yX6_peak : MethodName := ⟨RX6, "peak", "()I"⟩
abbrev cX6_needs : ByteArray := prog_1_method_11_code
def yX6_needs : MethodName := ⟨RX6, "needs", "(II)I"⟩
abbrev cX6_goes : ByteArray := prog_1_method_12_code
def yX6_goes : MethodName := ⟨RX6, "goes", "(IIZ)I"⟩
abbrev cX6_least : ByteArray := prog_1_method_13_code
def yX6_least : MethodName := ⟨RX6, "least", "(III)I"⟩
abbrev cX6_reach : ByteArray := prog_1_method_14_code
def yX6_reach : MethodName := ⟨RX6, "reach", "(II)I"⟩
abbrev cX6_whence : ByteArray := prog_1_method_15_code
def yX6_whence : MethodName := ⟨RX6, "whence", "(II)I"⟩
abbrev cX6_below : ByteArray := prog_1_method_16_code
def yX6_below : MethodName := ⟨RX6, "below", "(II)I"⟩
abbrev cX6_round : ByteArray := prog_1_method_17_code
def yX6_round : MethodName := ⟨RX6, "round", "(III)I"⟩
abbrev cX6_live : ByteArray := prog_1_method_18_code
def yX6_live : MethodName := ⟨RX6, "live", "(II)I"⟩
abbrev cX6_quiet : ByteArray := prog_1_method_19_code
def yX6_quiet : MethodName := ⟨RX6, "quiet", "(I)I"⟩
abbrev cX6_kind : ByteArray := prog_1_method_20_code
def yX6_kind : MethodName := ⟨RX6, "kind", "(II)I"⟩
abbrev cX6_rise : ByteArray := prog_1_method_21_code
def yX6_rise : MethodName := ⟨RX6, "rise", "(III)I"⟩
abbrev cX6_fall : ByteArray := prog_1_method_22_code
def yX6_fall : MethodName := ⟨RX6, "fall", "(III)I"⟩
abbrev cX6_dig : ByteArray := prog_1_method_23_code
def yX6_dig : MethodName := ⟨RX6, "dig", "(II)I"⟩
abbrev cX6_send : ByteArray := prog_1_method_24_code
def yX6_send : MethodName := ⟨RX6, "send", "(III)I"⟩
abbrev cX6_of : ByteArray := prog_1_method_25_code
def yX6_of : MethodName := ⟨RX6, "of", "(II)I"⟩
abbrev cX6_turn : ByteArray := prog_1_method_26_code
def yX6_turn : MethodName := ⟨RX6, "turn", "(II)I"⟩
abbrev cX6_as : ByteArray := prog_1_method_27_code
def yX6_as : MethodName := ⟨RX6, "as", "(II)I"⟩
abbrev cX6_next : ByteArray := prog_1_method_28_code
def yX6_next : MethodName := ⟨RX6, "next", "(I)I"⟩
abbrev cX6_days : ByteArray := prog_1_method_29_code
def yX6_days : MethodName := ⟨RX6, "days", "(I)I"⟩
abbrev cX6_day : ByteArray := prog_1_method_30_code
def yX6_day : MethodName := ⟨RX6, "day", "(I)I"⟩
abbrev cX6_now : ByteArray := prog_1_method_31_code
def yX6_now : MethodName := ⟨RX6, "now", "(I)I"⟩
abbrev cX6_on : ByteArray := prog_1_method_32_code
def yX6_on : MethodName := ⟨RX6, "on", "(II)I"⟩
abbrev cX6_when : ByteArray := prog_1_method_33_code
def yX6_when : MethodName := ⟨RX6, "when", "(I)I"⟩
abbrev cX6_first : ByteArray := prog_1_method_34_code
def yX6_first : MethodName := ⟨RX6, "first", "(II)I"⟩
abbrev cX6_feed : ByteArray := prog_1_method_35_code
def yX6_feed : MethodName := ⟨RX6, "feed", "(II)I"⟩
abbrev cX6_wipe : ByteArray := prog_1_method_36_code
def yX6_wipe : MethodName := ⟨RX6, "wipe", "()I"⟩
abbrev cX6_text : ByteArray := prog_1_method_37_code
def yX6_text : MethodName := ⟨RX6, "text", "()I"⟩
abbrev cX6_sheet : ByteArray := prog_1_method_38_code
def yX6_sheet : MethodName := ⟨RX6, "sheet", "(III)I"⟩
abbrev cX6_write : ByteArray := prog_1_method_39_code
def yX6_write : MethodName := ⟨RX6, "write", "(IIJ)J"⟩
abbrev cX6_copy : ByteArray := prog_1_method_40_code
def yX6_copy : MethodName := ⟨RX6, "copy", "(IIIII)I"⟩
abbrev cX6_lays : ByteArray := prog_1_method_41_code
def yX6_lays : MethodName := ⟨RX6, "lays", "(I)I"⟩
abbrev cX6_table : ByteArray := prog_1_method_42_code
def yX6_table : MethodName := ⟨RX6, "table", "(III)I"⟩
abbrev cX6_read : ByteArray := prog_1_method_43_code
def yX6_read : MethodName := ⟨RX6, "read", "(II)I"⟩
abbrev cX6_image : ByteArray := prog_1_method_44_code
def yX6_image : MethodName := ⟨RX6, "image", "()I"⟩
abbrev cX6_undo : ByteArray := prog_1_method_45_code
def yX6_undo : MethodName := ⟨RX6, "undo", "()I"⟩
abbrev cX6_tear : ByteArray := prog_1_method_46_code
def yX6_tear : MethodName := ⟨RX6, "tear", "()I"⟩
abbrev cX6_count : ByteArray := prog_1_method_47_code
def yX6_count : MethodName := ⟨RX6, "count", "(I)I"⟩
abbrev cX6_status : ByteArray := prog_1_method_48_code
def yX6_status : MethodName := ⟨RX6, "status", "(I)I"⟩
abbrev cX6_finding : ByteArray := prog_1_method_49_code
def yX6_finding : MethodName := ⟨RX6, "finding", "(I)I"⟩
abbrev cX6_isKind : ByteArray := prog_1_method_50_code
def yX6_isKind : MethodName := ⟨RX6, "isKind", "(I)Z"⟩
abbrev cX6_isHeight : ByteArray := prog_1_method_51_code
def yX6_isHeight : MethodName := ⟨RX6, "isHeight", "(I)Z"⟩
abbrev cX6_areVillages : ByteArray := prog_1_method_52_code
def yX6_areVillages : MethodName := ⟨RX6, "areVillages", "(II)Z"⟩
abbrev cX6_areUnlikeVillages : ByteArray := prog_1_method_53_code
def yX6_areUnlikeVillages : MethodName := ⟨RX6, "areUnlikeVillages", "(II)Z"⟩
abbrev cX6_sheetAt : ByteArray := prog_1_method_54_code
def yX6_sheetAt : MethodName := ⟨RX6, "sheetAt", "(I)LDownhillPost$Sheet;"⟩
abbrev cX6_daysUntil : ByteArray := prog_1_method_55_code
def yX6_daysUntil : MethodName := ⟨RX6, "daysUntil", "(I)I"⟩
abbrev cX6_heightToRise : ByteArray := prog_1_method_56_code
def yX6_heightToRise : MethodName := ⟨RX6, "heightToRise", "(III)I"⟩
abbrev cX6_bestDigging : ByteArray := prog_1_method_57_code
def yX6_bestDigging : MethodName := ⟨RX6, "bestDigging", "(II)I"⟩
abbrev cX6_carryOn : ByteArray := prog_1_method_58_code
def yX6_carryOn : MethodName := ⟨RX6, "carryOn", "(LDownhillPost$Land;II)V"⟩
abbrev cX6_daysAhead : ByteArray := prog_1_method_59_code
def yX6_daysAhead : MethodName := ⟨RX6, "daysAhead", "(I)I"⟩
def RX7 : String := "DownhillPostModel"
def TX7 : u_T := fun k => match k with
  | 0 => ("DownhillPostModel", "row", "[I", true)
  | 1 => ("DownhillPostModel", "found", "[I", true)
  | 2 => ("DownhillPostModel", "best", "[I", true)
  | 3 => ("DownhillPostModel", "into", "I", false)
  | 4 => ("DownhillPostModel", "during", "I", false)
  | 5 => ("DownhillPostModel", "tried", "[I", true)
  | 6 => ("DownhillPostModel", "tape", "[I", true)
  | 7 => ("DownhillPostModel", "tapeMany", "I", false)
  | 8 => ("DownhillPostModel", "sort", "I", false)
  | 9 => ("DownhillPostModel", "begins", "I", false)
  | 10 => ("DownhillPostModel", "tokenEnds", "I", false)
  | 11 => ("DownhillPostModel", "word", "J", false)
  | 12 => ("DownhillPostModel", "value", "I", false)
  | 13 => ("DownhillPostModel", "good", "Z", false)
  | 14 => ("DownhillPostModel", "bitsOf", "[I", true)
  | 15 => ("DownhillPostModel", "sizeOf", "[I", true)
  | 16 => ("DownhillPostModel", "sheets", "[J", true)
  | 17 => ("DownhillPostModel", "lent", "[J", true)
  | 18 => ("DownhillPostModel", "image", "[I", true)
  | 19 => ("DownhillPostModel", "before", "[I", true)
  | _ => ("DownhillPostModel", "isKept", "Z", false)
def tyX7 : Nat → FieldType := fun k => match k with
  | 0 => .array .int
  | 1 => .array .int
  | 2 => .array .int
  | 3 => .int
  | 4 => .int
  | 5 => .array .int
  | 6 => .array .int
  | 7 => .int
  | 8 => .int
  | 9 => .int
  | 10 => .int
  | 11 => .long
  | 12 => .int
  | 13 => .boolean
  | 14 => .array .int
  | 15 => .array .int
  | 16 => .array .long
  | 17 => .array .long
  | 18 => .array .int
  | 19 => .array .int
  | _ => .boolean
theorem nmX7 : ∀ a, a < 21 → ∀ b, b < 21 → a ≠ b → (TX7 a).2.1 ≠ (TX7 b).2.1 := by decide +kernel
theorem tyX7_ok : ∀ k, k < 21 → parseFieldDescriptor (TX7 k).2.2.1 = some (tyX7 k) := by decide +kernel
abbrev cX7_init : ByteArray := prog_9_method_1_code
def yX7_init : MethodName := ⟨RX7, "<init>", "()V"⟩
abbrev cX7_in : ByteArray := prog_9_method_2_code
def yX7_in : MethodName := ⟨RX7, "in", "(III)Z"⟩
abbrev cX7_finds : ByteArray := prog_9_method_3_code
def yX7_finds : MethodName := ⟨RX7, "finds", "(I)I"⟩
abbrev cX7_isVillage : ByteArray := prog_9_method_4_code
def yX7_isVillage : MethodName := ⟨RX7, "isVillage", "(I)Z"⟩
abbrev cX7_isRoad : ByteArray := prog_9_method_5_code
def yX7_isRoad : MethodName := ⟨RX7, "isRoad", "(I)Z"⟩
abbrev cX7_isPost : ByteArray := prog_9_method_6_code
def yX7_isPost : MethodName := ⟨RX7, "isPost", "(I)Z"⟩
abbrev cX7_isKind : ByteArray := prog_9_method_7_code
def yX7_isKind : MethodName := ⟨RX7, "isKind", "(I)Z"⟩
abbrev cX7_has : ByteArray := prog_9_method_8_code
def yX7_has : MethodName := ⟨RX7, "has", "(II)Z"⟩
abbrev cX7_ones : ByteArray := prog_9_method_9_code
def yX7_ones : MethodName := ⟨RX7, "ones", "(I)I"⟩
abbrev cX7_height : ByteArray := prog_9_method_10_code
def yX7_height : MethodName := ⟨RX7, "height", "(I)I"⟩
abbrev cX7_isHermits : ByteArray := prog_9_method_11_code
def yX7_isHermits : MethodName := ⟨RX7, "isHermits", "(I)Z"⟩
abbrev cX7_end : ByteArray := prog_9_method_12_code
def yX7_end : MethodName := ⟨RX7, "end", "(II)I"⟩
abbrev cX7_its : ByteArray := prog_9_method_13_code
def yX7_its : MethodName := ⟨RX7, "its", "(II)I"⟩
abbrev cX7_sets : ByteArray := prog_9_method_14_code
def yX7_sets : MethodName := ⟨RX7, "sets", "(III)V"⟩
abbrev cX7_addVillage : ByteArray := prog_9_method_15_code
def yX7_addVillage : MethodName := ⟨RX7, "addVillage", "(IZ)V"⟩
abbrev cX7_village : ByteArray := prog_9_method_16_code
def yX7_village : MethodName := ⟨RX7, "village", "(I)I"⟩
abbrev cX7_roadsAt : ByteArray := prog_9_method_17_code
def yX7_roadsAt : MethodName := ⟨RX7, "roadsAt", "(I)I"⟩
abbrev cX7_lettersAt : ByteArray := prog_9_method_18_code
def yX7_lettersAt : MethodName := ⟨RX7, "lettersAt", "(I)I"⟩
abbrev cX7_villageOf : ByteArray := prog_9_method_19_code
def yX7_villageOf : MethodName := ⟨RX7, "villageOf", "(II)I"⟩
abbrev cX7_slide : ByteArray := prog_9_method_20_code
def yX7_slide : MethodName := ⟨RX7, "slide", "(II)I"⟩
abbrev cX7_hermit : ByteArray := prog_9_method_21_code
def yX7_hermit : MethodName := ⟨RX7, "hermit", "(IZ)I"⟩
abbrev cX7_between : ByteArray := prog_9_method_22_code
def yX7_between : MethodName := ⟨RX7, "between", "(II)I"⟩
abbrev cX7_addRoad : ByteArray := prog_9_method_23_code
def yX7_addRoad : MethodName := ⟨RX7, "addRoad", "(III)V"⟩
abbrev cX7_road : ByteArray := prog_9_method_24_code
def yX7_road : MethodName := ⟨RX7, "road", "(III)I"⟩
abbrev cX7_roadOf : ByteArray := prog_9_method_25_code
def yX7_roadOf : MethodName := ⟨RX7, "roadOf", "(II)I"⟩
abbrev cX7_every : ByteArray := prog_9_method_26_code
def yX7_every : MethodName := ⟨RX7, "every", "(I)I"⟩
abbrev cX7_theSea : ByteArray := prog_9_method_27_code
def yX7_theSea : MethodName := ⟨RX7, "theSea", "()I"⟩
abbrev cX7_thePeak : ByteArray := prog_9_method_28_code
def yX7_thePeak : MethodName := ⟨RX7, "thePeak", "()I"⟩
abbrev cX7_sea : ByteArray := prog_9_method_29_code
def yX7_sea : MethodName := ⟨RX7, "sea", "()I"⟩
abbrev cX7_peak : ByteArray := prog_9_method_30_code
def yX7_peak : MethodName := ⟨RX7, "peak", "()I"⟩
abbrev cX7_needsOf : ByteArray := prog_9_method_31_code
def yX7_needsOf : MethodName := ⟨RX7, "needsOf", "(II)I"⟩
abbrev cX7_needs : ByteArray := prog_9_method_32_code
def yX7_needs : MethodName := ⟨RX7, "needs", "(II)I"⟩
abbrev cX7_goesDown : ByteArray := prog_9_method_33_code
def yX7_goesDown : MethodName := ⟨RX7, "goesDown", "(III)Z"⟩
abbrev cX7_goes : ByteArray := prog_9_method_34_code
def yX7_goes : MethodName := ⟨RX7, "goes", "(IIZ)I"⟩
abbrev cX7_flies : ByteArray := prog_9_method_35_code
def yX7_flies : MethodName := ⟨RX7, "flies", "(I)Z"⟩
abbrev cX7_takesRoad : ByteArray := prog_9_method_36_code
def yX7_takesRoad : MethodName := ⟨RX7, "takesRoad", "(IIII)Z"⟩
abbrev cX7_takesBalloon : ByteArray := prog_9_method_37_code
def yX7_takesBalloon : MethodName := ⟨RX7, "takesBalloon", "()Z"⟩
abbrev cX7_goesOn : ByteArray := prog_9_method_38_code
def yX7_goesOn : MethodName := ⟨RX7, "goesOn", "(IZ)Z"⟩
abbrev cX7_find : ByteArray := prog_9_method_39_code
def yX7_find : MethodName := ⟨RX7, "find", "(IIIZ)V"⟩
abbrev cX7_earliest : ByteArray := prog_9_method_40_code
def yX7_earliest : MethodName := ⟨RX7, "earliest", "(IIII)I"⟩
abbrev cX7_reached : ByteArray := prog_9_method_41_code
def yX7_reached : MethodName := ⟨RX7, "reached", "()I"⟩
abbrev cX7_isAsked : ByteArray := prog_9_method_42_code
def yX7_isAsked : MethodName := ⟨RX7, "isAsked", "(III)Z"⟩
abbrev cX7_least : ByteArray := prog_9_method_43_code
def yX7_least : MethodName := ⟨RX7, "least", "(III)I"⟩
abbrev cX7_reachOf : ByteArray := prog_9_method_44_code
def yX7_reachOf : MethodName := ⟨RX7, "reachOf", "(IIZ)I"⟩
abbrev cX7_reach : ByteArray := prog_9_method_45_code
def yX7_reach : MethodName := ⟨RX7, "reach", "(II)I"⟩
abbrev cX7_whence : ByteArray := prog_9_method_46_code
def yX7_whence : MethodName := ⟨RX7, "whence", "(II)I"⟩
abbrev cX7_below : ByteArray := prog_9_method_47_code
def yX7_below : MethodName := ⟨RX7, "below", "(II)I"⟩
abbrev cX7_back : ByteArray := prog_9_method_48_code
def yX7_back : MethodName := ⟨RX7, "back", "(III)I"⟩
abbrev cX7_round : ByteArray := prog_9_method_49_code
def yX7_round : MethodName := ⟨RX7, "round", "(III)I"⟩
abbrev cX7_live : ByteArray := prog_9_method_50_code
def yX7_live : MethodName := ⟨RX7, "live", "(II)I"⟩
abbrev cX7_quiet : ByteArray := prog_9_method_51_code
def yX7_quiet : MethodName := ⟨RX7, "quiet", "(I)I"⟩
abbrev cX7_kind : ByteArray := prog_9_method_52_code
def yX7_kind : MethodName := ⟨RX7, "kind", "(II)I"⟩
abbrev cX7_rise : ByteArray := prog_9_method_53_code
def yX7_rise : MethodName := ⟨RX7, "rise", "(III)I"⟩
abbrev cX7_fall : ByteArray := prog_9_method_54_code
def yX7_fall : MethodName := ⟨RX7, "fall", "(III)I"⟩
abbrev cX7_reachWith : ByteArray := prog_9_method_55_code
def yX7_reachWith : MethodName := ⟨RX7, "reachWith", "(III)I"⟩
abbrev cX7_dig : ByteArray := prog_9_method_56_code
def yX7_dig : MethodName := ⟨RX7, "dig", "(II)I"⟩
abbrev cX7_addLetter : ByteArray := prog_9_method_57_code
def yX7_addLetter : MethodName := ⟨RX7, "addLetter", "(III)V"⟩
abbrev cX7_send : ByteArray := prog_9_method_58_code
def yX7_send : MethodName := ⟨RX7, "send", "(III)I"⟩
abbrev cX7_isThere : ByteArray := prog_9_method_59_code
def yX7_isThere : MethodName := ⟨RX7, "isThere", "(I)Z"⟩
abbrev cX7_of : ByteArray := prog_9_method_60_code
def yX7_of : MethodName := ⟨RX7, "of", "(II)I"⟩
abbrev cX7_turn : ByteArray := prog_9_method_61_code
def yX7_turn : MethodName := ⟨RX7, "turn", "(II)I"⟩
abbrev cX7_isUnder : ByteArray := prog_9_method_62_code
def yX7_isUnder : MethodName := ⟨RX7, "isUnder", "(II)Z"⟩
abbrev cX7_as : ByteArray := prog_9_method_63_code
def yX7_as : MethodName := ⟨RX7, "as", "(II)I"⟩
abbrev cX7_keeps : ByteArray := prog_9_method_64_code
def yX7_keeps : MethodName := ⟨RX7, "keeps", "(IIIII)Z"⟩
abbrev cX7_findWay : ByteArray := prog_9_method_65_code
def yX7_findWay : MethodName := ⟨RX7, "findWay", "(I)V"⟩
abbrev cX7_next : ByteArray := prog_9_method_66_code
def yX7_next : MethodName := ⟨RX7, "next", "(I)I"⟩
abbrev cX7_aDay : ByteArray := prog_9_method_67_code
def yX7_aDay : MethodName := ⟨RX7, "aDay", "()V"⟩
abbrev cX7_allThere : ByteArray := prog_9_method_68_code
def yX7_allThere : MethodName := ⟨RX7, "allThere", "()I"⟩
abbrev cX7_days : ByteArray := prog_9_method_69_code
def yX7_days : MethodName := ⟨RX7, "days", "(I)I"⟩
abbrev cX7_day : ByteArray := prog_9_method_70_code
def yX7_day : MethodName := ⟨RX7, "day", "(I)I"⟩
abbrev cX7_onTheirWay : ByteArray := prog_9_method_71_code
def yX7_onTheirWay : MethodName := ⟨RX7, "onTheirWay", "()I"⟩
abbrev cX7_now : ByteArray := prog_9_method_72_code
def yX7_now : MethodName := ⟨RX7, "now", "(I)I"⟩
abbrev cX7_on : ByteArray := prog_9_method_73_code
def yX7_on : MethodName := ⟨RX7, "on", "(II)I"⟩
abbrev cX7_daysTill : ByteArray := prog_9_method_74_code
def yX7_daysTill : MethodName := ⟨RX7, "daysTill", "(I)I"⟩
abbrev cX7_when : ByteArray := prog_9_method_75_code
def yX7_when : MethodName := ⟨RX7, "when", "(I)I"⟩
abbrev cX7_first : ByteArray := prog_9_method_76_code
def yX7_first : MethodName := ⟨RX7, "first", "(II)I"⟩
abbrev cX7_feed : ByteArray := prog_9_method_77_code
def yX7_feed : MethodName := ⟨RX7, "feed", "(II)I"⟩
abbrev cX7_wipe : ByteArray := prog_9_method_78_code
def yX7_wipe : MethodName := ⟨RX7, "wipe", "()I"⟩
abbrev cX7_byteAt : ByteArray := prog_9_method_79_code
def yX7_byteAt : MethodName := ⟨RX7, "byteAt", "(I)I"⟩
abbrev cX7_isLetter : ByteArray := prog_9_method_80_code
def yX7_isLetter : MethodName := ⟨RX7, "isLetter", "(I)Z"⟩
abbrev cX7_isDigit : ByteArray := prog_9_method_81_code
def yX7_isDigit : MethodName := ⟨RX7, "isDigit", "(I)Z"⟩
abbrev cX7_advance : ByteArray := prog_9_method_82_code
def yX7_advance : MethodName := ⟨RX7, "advance", "()V"⟩
abbrev cX7_isWord : ByteArray := prog_9_method_83_code
def yX7_isWord : MethodName := ⟨RX7, "isWord", "(J)Z"⟩
abbrev cX7_kindHere : ByteArray := prog_9_method_84_code
def yX7_kindHere : MethodName := ⟨RX7, "kindHere", "()I"⟩
abbrev cX7_wantNumber : ByteArray := prog_9_method_85_code
def yX7_wantNumber : MethodName := ⟨RX7, "wantNumber", "(II)I"⟩
abbrev cX7_mayWant : ByteArray := prog_9_method_86_code
def yX7_mayWant : MethodName := ⟨RX7, "mayWant", "(JIII)I"⟩
abbrev cX7_wantWord : ByteArray := prog_9_method_87_code
def yX7_wantWord : MethodName := ⟨RX7, "wantWord", "(J)V"⟩
abbrev cX7_wantVillage : ByteArray := prog_9_method_88_code
def yX7_wantVillage : MethodName := ⟨RX7, "wantVillage", "()V"⟩
abbrev cX7_wantRoad : ByteArray := prog_9_method_89_code
def yX7_wantRoad : MethodName := ⟨RX7, "wantRoad", "()V"⟩
abbrev cX7_wantSlide : ByteArray := prog_9_method_90_code
def yX7_wantSlide : MethodName := ⟨RX7, "wantSlide", "()V"⟩
abbrev cX7_wantEvery : ByteArray := prog_9_method_91_code
def yX7_wantEvery : MethodName := ⟨RX7, "wantEvery", "()V"⟩
abbrev cX7_wantLetter : ByteArray := prog_9_method_92_code
def yX7_wantLetter : MethodName := ⟨RX7, "wantLetter", "(I)V"⟩
abbrev cX7_wantItem : ByteArray := prog_9_method_93_code
def yX7_wantItem : MethodName := ⟨RX7, "wantItem", "()V"⟩
abbrev cX7_text : ByteArray := prog_9_method_94_code
def yX7_text : MethodName := ⟨RX7, "text", "()I"⟩
abbrev cX7_isSheet : ByteArray := prog_9_method_95_code
def yX7_isSheet : MethodName := ⟨RX7, "isSheet", "(I)Z"⟩
abbrev cX7_narrow : ByteArray := prog_9_method_96_code
def yX7_narrow : MethodName := ⟨RX7, "narrow", "(IJ)J"⟩
abbrev cX7_sheet : ByteArray := prog_9_method_97_code
def yX7_sheet : MethodName := ⟨RX7, "sheet", "(III)I"⟩
abbrev cX7_write : ByteArray := prog_9_method_98_code
def yX7_write : MethodName := ⟨RX7, "write", "(IIJ)J"⟩
abbrev cX7_isPart : ByteArray := prog_9_method_99_code
def yX7_isPart : MethodName := ⟨RX7, "isPart", "(III)Z"⟩
abbrev cX7_copy : ByteArray := prog_9_method_100_code
def yX7_copy : MethodName := ⟨RX7, "copy", "(IIIII)I"⟩
abbrev cX7_lays : ByteArray := prog_9_method_101_code
def yX7_lays : MethodName := ⟨RX7, "lays", "(I)I"⟩
abbrev cX7_table : ByteArray := prog_9_method_102_code
def yX7_table : MethodName := ⟨RX7, "table", "(III)I"⟩
abbrev cX7_read : ByteArray := prog_9_method_103_code
def yX7_read : MethodName := ⟨RX7, "read", "(II)I"⟩
abbrev cX7_moveAll : ByteArray := prog_9_method_104_code
def yX7_moveAll : MethodName := ⟨RX7, "moveAll", "(Z[I)V"⟩
abbrev cX7_image : ByteArray := prog_9_method_105_code
def yX7_image : MethodName := ⟨RX7, "image", "()I"⟩
abbrev cX7_undo : ByteArray := prog_9_method_106_code
def yX7_undo : MethodName := ⟨RX7, "undo", "()I"⟩
abbrev cX7_tear : ByteArray := prog_9_method_107_code
def yX7_tear : MethodName := ⟨RX7, "tear", "()I"⟩
abbrev cX7_count : ByteArray := prog_9_method_108_code
def yX7_count : MethodName := ⟨RX7, "count", "(I)I"⟩
abbrev cX7_status : ByteArray := prog_9_method_109_code
def yX7_status : MethodName := ⟨RX7, "status", "(I)I"⟩
def RJ6 : String := "java/lang/Integer"
abbrev cJ6_bitCount_0f7a4 : ByteArray := prog_10_method_49_code
def yJ6_bitCount_0f7a4 : MethodName := ⟨RJ6, "bitCount", "(I)I"⟩
def RJ9 : String := "java/lang/Math"
abbrev cJ9_max_7cf53 : ByteArray := prog_11_method_65_code
def yJ9_max_7cf53 : MethodName := ⟨RJ9, "max", "(II)I"⟩
abbrev cJ9_min_7cf53 : ByteArray := prog_11_method_69_code
def yJ9_min_7cf53 : MethodName := ⟨RJ9, "min", "(II)I"⟩
def RJ0 : String := "java/lang/String"
abbrev cJ0_length_8abf5 : ByteArray := prog_12_method_54_code
def yJ0_length_8abf5 : MethodName := ⟨RJ0, "length", "()I"⟩
abbrev cJ0_charAt_5068e : ByteArray := prog_12_method_56_code
def yJ0_charAt_5068e : MethodName := ⟨RJ0, "charAt", "(I)C"⟩
abbrev cJ0_coder_7d493 : ByteArray := prog_12_method_152_code
def yJ0_coder_7d493 : MethodName := ⟨RJ0, "coder", "()B"⟩
abbrev cJ0_isLatin1_aae02 : ByteArray := prog_12_method_154_code
def yJ0_isLatin1_aae02 : MethodName := ⟨RJ0, "isLatin1", "()Z"⟩
abbrev cJ0_checkIndex_df160 : ByteArray := prog_12_method_155_code
def yJ0_checkIndex_df160 : MethodName := ⟨RJ0, "checkIndex", "(II)V"⟩
def RJ1 : String := "java/lang/StringLatin1"
abbrev cJ1_charAt_3b067 : ByteArray := prog_13_method_2_code
def yJ1_charAt_3b067 : MethodName := ⟨RJ1, "charAt", "([BI)C"⟩
def RJ2 : String := "java/lang/StringUTF16"
abbrev cJ2_getChar_3b067 : ByteArray := prog_14_method_5_code
def yJ2_getChar_3b067 : MethodName := ⟨RJ2, "getChar", "([BI)C"⟩
abbrev cJ2_length_9d52b : ByteArray := prog_14_method_6_code
def yJ2_length_9d52b : MethodName := ⟨RJ2, "length", "([B)I"⟩
abbrev cJ2_charAt_3b067 : ByteArray := prog_14_method_83_code
def yJ2_charAt_3b067 : MethodName := ⟨RJ2, "charAt", "([BI)C"⟩
abbrev cJ2_checkIndex_2214a : ByteArray := prog_14_method_91_code
def yJ2_checkIndex_2214a : MethodName := ⟨RJ2, "checkIndex", "(I[B)V"⟩
def RJ10 : String := "java/lang/System"
def RJ3 : String := "jdk/internal/util/Preconditions"
abbrev cJ3_checkIndex_8e157 : ByteArray := prog_16_method_11_code
def yJ3_checkIndex_8e157 : MethodName := ⟨RJ3, "checkIndex", "(IILjava/util/function/BiFunction;)I"⟩
def RL : String := "DownhillPostLaw"
abbrev cL_law : ByteArray := code
def yL_law : MethodName := ⟨RL, "law", "([I)Z"⟩
abbrev vwCl : List vw_C := [(RX0, TX0, 15), (RX3, TX3, 3), (RX4, TX4, 6), (RX5, TX5, 9), (RX6, TX6, 8), (RX7, TX7, 21)]
end
section
/-! THE FRAME: the machine behind one simple judgement. The world: ints by place and index, longs by place and index; a reference is a place. -/
/-- the tables' words that hold at every call, too -/
def zT : List Cond := lw_tbl.filter goodWord
abbrev zW : Type := (Nat → Nat → Int32) × (Nat → Nat → Int64)
abbrev zC3 : Type := ClassId × ClassId × ClassId
def zsf (w : zW) (o k : Nat) (v : Int32) : zW := (fun a b => if a = o ∧ b = k then v else w.1 a b, w.2)
def zsg (w : zW) (o k : Nat) (v : Int64) : zW := (w.1, fun a b => if a = o ∧ b = k then v else w.2 a b)
def zcf (w : zW) (o : Nat) (f : Nat → Int32) : zW := (fun a b => if a = o then f b else w.1 a b, w.2)
def zcg (w : zW) (o : Nat) (f : Nat → Int64) : zW := (w.1, fun a b => if a = o then f b else w.2 a b)
def zIsLand (o : Nat) : Prop := o = 10 ∨ o = 20 ∨ o = 30
def zIsSheet (o : Nat) : Prop := o = 50 ∨ o = 52 ∨ o = 54 ∨ o = 56
def zIsStr (o : Nat) : Prop := ∃ k : Nat, k < 13 ∧ o = 100 + k
/-- what lies at a place: an object (its number in vwCl, its fields: 0 int, 1 long, q + 2 a reference to q), a row of ints, of longs, of references -/
def zlay (o : Nat) : Nat × Nat × List Nat :=
  if o = 10 ∨ o = 20 ∨ o = 30 then (0, 0, [0, o + 3, 0, 0, o + 4, o + 5, o + 6, 0, 0, 0, o + 7, o + 8, o + 9, o + 10, o + 11])
  else if o = 50 ∨ o = 52 ∨ o = 54 ∨ o = 56 then (0, 1, [0, 0, o + 3])
  else if o = 0 then (0, 4, [12, 22, 32, 42, 45, 47, 48, 0])
  else if o = 40 then (0, 3, [43, 44, 0, 0, 0, 0, 0, 0, 0])
  else if o = 43 then (0, 2, [46, 0, 0, 0, 0, 0])
  else if o = 60 then (0, 5, [63, 64, 65, 0, 0, 66, 67, 0, 0, 0, 0, 1, 0, 0, 68, 69, 70, 71, 72, 73, 0])
  else if o = 11 ∨ o = 21 ∨ o = 31 then (1, 12, [])
  else if o = 12 ∨ o = 22 ∨ o = 32 ∨ o = 13 ∨ o = 23 ∨ o = 33 ∨ o = 14 ∨ o = 24 ∨ o = 34 then (1, 24, [])
  else if o < 40 then (1, 10, [])
  else if o = 41 ∨ o = 42 then (1, 144, [])
  else if o = 44 ∨ o = 65 then (1, 120, [])
  else if o = 45 then (3, 4, [50, 52, 54, 56])
  else if o = 46 ∨ o = 62 then (1, 7, [])
  else if o = 51 ∨ o = 53 ∨ o = 55 ∨ o = 57 ∨ o = 69 then (2, 40, [])
  else if o = 61 ∨ o = 64 ∨ o = 70 ∨ o = 71 then (1, 151, [])
  else if o = 63 then (1, 12, [])
  else if o = 68 then (2, 160, [])
  else (1, 4, [])
def zpls : List Nat := [0, 10, 11, 12, 13, 14, 15, 16, 17, 18, 19, 20, 21, 22, 23, 24, 25, 26, 27, 28, 29, 30, 31, 32, 33, 34, 35, 36, 37, 38, 39, 40, 41, 42, 43, 44, 45, 46, 50, 51, 52, 53, 54, 55, 56, 57, 60, 61, 62, 63, 64, 65, 66, 67, 68, 69, 70, 71]
def zAt (o : Nat) (x : Nat × Nat × List Nat) : Prop := o ∈ zpls ∧ zlay o = x
def zval (ad : Nat → Nat) (w : zW) (o k q : Nat) : Value := match q with
  | 0 => .int (w.1 o k)
  | 1 => .long (w.2 o k)
  | q + 2 => .ref (ad q)
def zfs (ad : Nat → Nat) (w : zW) (o : Nat) : Nat → List Nat → List Value
  | _, [] => []
  | k, q :: qs => zval ad w o k q :: zfs ad w o (k + 1) qs
def zcellOf (ad : Nat → Nat) (c3 : zC3) (w : zW) (o : Nat) (x : Nat × Nat × List Nat) : va_E := match x with
  | (0, ci, fk) => .inr (ci, zfs ad w o 0 fk)
  | (1, n, _) => .inl (c3.1, n, .inl (w.1 o))
  | (2, n, _) => .inl (c3.2.1, n, .inr (.inl (w.2 o)))
  | (_, n, rs) => .inl (c3.2.2, n, .inr (.inr (.inr (.inr (fun i => (rs[i]?).map ad)))))
def zcell (ad : Nat → Nat) (c3 : zC3) (w : zW) (o : Nat) : va_E := zcellOf ad c3 w o (zlay o)
def zws (ad : Nat → Nat) (c3 : zC3) (w : zW) : va_W := zpls.map (fun o => (ad o, zcell ad c3 w o))
def ztr (ad : Nat → Nat) (v : Value) : Value := match v with
  | .ref o => .ref (ad o)
  | .int x => .int x
  | .long x => .long x
  | .float x => .float x
  | .double x => .double x
  | .null => .null
  | .retAddr x => .retAddr x
def zA (ad : Nat → Nat) : Nat → Prop := fun q => ∃ o, o ∈ zpls ∧ q = ad o
def zInj (ad : Nat → Nat) : Prop := ∀ a b : Nat, a ∈ zpls → b ∈ zpls → ad a = ad b → a = b
def ztys (c3 : zC3) : List (ClassId × FieldType) := [(c3.1, .int), (c3.2.1, .long), (c3.2.2, .object "DownhillPost$Sheet")]
theorem zfs_get (ad : Nat → Nat) (w : zW) (o : Nat) : ∀ (qs : List Nat) (k i : Nat), (zfs ad w o k qs)[i]? = (qs[i]?).map (fun q => zval ad w o (k + i) q) := by
  intro qs
  induction qs with
  | nil => intro k i; simp [zfs]
  | cons q qs ih =>
    intro k i
    cases i with
    | zero => simp [zfs]
    | succ i => simp only [zfs, List.getElem?_cons_succ]; rw [ih (k + 1) i, show k + 1 + i = k + (i + 1) by omega]
theorem zfs_len (ad : Nat → Nat) (w : zW) (o : Nat) : ∀ (qs : List Nat) (k : Nat), (zfs ad w o k qs).length = qs.length := by
  intro qs
  induction qs with
  | nil => intro k; rfl
  | cons q qs ih => intro k; simp [zfs, ih]
theorem zpls_ix : ∀ i, i < 58 → zpls.idxOf (zpls.getD i 0) = i := by decide +kernel
theorem zpls_one {i j o : Nat} (hi : zpls[i]? = some o) (hj : zpls[j]? = some o) : i = j := by
  have li : i < 58 := (List.getElem?_eq_some_iff.mp hi).1
  have lj : j < 58 := (List.getElem?_eq_some_iff.mp hj).1
  have a := zpls_ix i li
  have b := zpls_ix j lj
  rw [List.getD_eq_getElem?_getD, hi] at a
  rw [List.getD_eq_getElem?_getD, hj] at b
  exact a.symm.trans b
theorem zws_get {ad : Nat → Nat} {c3 : zC3} {w : zW} {i o : Nat} (h : zpls[i]? = some o) : (zws ad c3 w)[i]? = some (ad o, zcell ad c3 w o) := by
  unfold zws
  rw [List.getElem?_map, h]
  rfl
theorem zws_inv {ad : Nat → Nat} {c3 : zC3} {w : zW} {i : Nat} {q : Nat × va_E} (h : (zws ad c3 w)[i]? = some q) : ∃ o, zpls[i]? = some o ∧ q = (ad o, zcell ad c3 w o) := by
  unfold zws at h
  rw [List.getElem?_map] at h
  cases ho : zpls[i]? with
  | none => rw [ho] at h; cases h
  | some o => rw [ho] at h; cases h; exact ⟨o, rfl, rfl⟩
theorem zAt.ix {o : Nat} {x : Nat × Nat × List Nat} (h : zAt o x) : ∃ i : Nat, zpls[i]? = some o := List.getElem?_of_mem h.1
theorem zAt.cell {ad : Nat → Nat} {c3 : zC3} {w : zW} {o : Nat} {x : Nat × Nat × List Nat} (h : zAt o x) : zcell ad c3 w o = zcellOf ad c3 w o x := by
  unfold zcell
  rw [h.2]
theorem zws_set {ad : Nat → Nat} {c3 : zC3} {w w' : zW} {i o : Nat} (h : zpls[i]? = some o) (hk : ∀ o', o' ≠ o → zcell ad c3 w' o' = zcell ad c3 w o') : (zws ad c3 w).set i (ad o, zcell ad c3 w' o) = zws ad c3 w' := by
  apply List.ext_getElem?
  intro j
  have li : i < 58 := (List.getElem?_eq_some_iff.mp h).1
  by_cases e : i = j
  · subst e
    rw [zws_get h, List.getElem?_set_self]
    show i < (zws ad c3 w).length
    unfold zws
    rw [List.length_map]
    exact li
  · rw [List.getElem?_set_ne e]
    cases hj : zpls[j]? with
    | none => unfold zws; rw [List.getElem?_map, List.getElem?_map, hj]; rfl
    | some o' =>
      rw [zws_get hj, zws_get hj, hk o' (fun e2 => e (zpls_one h (e2 ▸ hj)))]
theorem zD {ad : Nat → Nat} {c3 : zC3} {w : zW} {A : Nat → Prop} (hi : zInj ad) (hA : ∀ q, zA ad q → A q) : va_D A (zws ad c3 w) := by
  refine ⟨fun i j p q h1 h2 e => ?_, fun k q h => ?_⟩
  · obtain ⟨o1, a1, rfl⟩ := zws_inv h1
    obtain ⟨o2, a2, rfl⟩ := zws_inv h2
    have e2 := hi o1 o2 (List.mem_of_getElem? a1) (List.mem_of_getElem? a2) e
    subst e2
    exact zpls_one a1 a2
  · obtain ⟨o, a, rfl⟩ := zws_inv h
    exact hA _ ⟨o, List.mem_of_getElem? a, rfl⟩
theorem zfs_other {ad : Nat → Nat} {w w' : zW} {o : Nat} (h1 : w'.1 o = w.1 o) (h2 : w'.2 o = w.2 o) : ∀ (qs : List Nat) (k : Nat), zfs ad w' o k qs = zfs ad w o k qs := by
  intro qs
  induction qs with
  | nil => intro k; rfl
  | cons q qs ih =>
    intro k
    have e : zval ad w' o k q = zval ad w o k q := by
      match q with
      | 0 => simp [zval, h1]
      | 1 => simp [zval, h2]
      | q + 2 => rfl
    simp [zfs, ih, e]
theorem zcell_other {ad : Nat → Nat} {c3 : zC3} {w w' : zW} {o : Nat} (h1 : w'.1 o = w.1 o) (h2 : w'.2 o = w.2 o) : zcell ad c3 w' o = zcell ad c3 w o := by
  unfold zcell zcellOf
  split <;> simp [h1, h2, zfs_other h1 h2]
theorem zcell_sf {ad : Nat → Nat} {c3 : zC3} {w : zW} {o k : Nat} {v : Int32} : ∀ o', o' ≠ o → zcell ad c3 (zsf w o k v) o' = zcell ad c3 w o' := fun o' h => zcell_other (by funext b; simp [zsf, h]) rfl
theorem zcell_sg {ad : Nat → Nat} {c3 : zC3} {w : zW} {o k : Nat} {v : Int64} : ∀ o', o' ≠ o → zcell ad c3 (zsg w o k v) o' = zcell ad c3 w o' := fun o' h => zcell_other rfl (by funext b; simp [zsg, h])
theorem zcell_cf {ad : Nat → Nat} {c3 : zC3} {w : zW} {o : Nat} {f : Nat → Int32} : ∀ o', o' ≠ o → zcell ad c3 (zcf w o f) o' = zcell ad c3 w o' := fun o' h => zcell_other (by funext b; simp [zcf, h]) rfl
theorem zcell_cg {ad : Nat → Nat} {c3 : zC3} {w : zW} {o : Nat} {f : Nat → Int64} : ∀ o', o' ≠ o → zcell ad c3 (zcg w o f) o' = zcell ad c3 w o' := fun o' h => zcell_other rfl (by funext b; simp [zcg, h])
/-- what lies outside the world: String constants, the static row ABOVE, String's and the others' statics -/
def zlen : List Nat := [7, 6, 4, 2, 4, 5, 5, 5, 5, 7, 4, 6, 6]
def zbyt : List (List Int32) := [[118, 105, 108, 108, 97, 103, 101], [104, 101, 114, 109, 105, 116], [114, 111, 97, 100], [116, 111], [100, 97, 121, 115], [115, 108, 105, 100, 101], [101, 118, 101, 114, 121], [113, 117, 105, 99, 107], [104, 101, 97, 118, 121], [102, 101, 97, 116, 104, 101, 114], [98, 105, 108, 108], [115, 101, 99, 114, 101, 116], [108, 101, 116, 116, 101, 114]]
def zstr : List (Nat × String) := [(34, "village"), (78, "hermit"), (43, "road"), (90, "to"), (95, "days"), (48, "slide"), (53, "every"), (120, "quick"), (122, "heavy"), (124, "feather"), (126, "bill"), (128, "secret"), (130, "letter")]
def zabove : List Int32 := [-1, 0, 0, 0, 2, 3]
def zX (ad : Nat → Nat) (A : Nat → Prop) (U : State) (H : Heap) : Prop :=
  vk_S 13 zlen zbyt (fun k => ad (100 + k)) (fun k => ad (200 + k)) A U H ∧ (∀ (k : Nat) (q : Nat × String), zstr[k]? = some q → vk_R RX1 q.1 q.2 (ad (100 + k)) U) ∧ va_Z "DownhillPost$Post" "ABOVE" "[I" (.ref (ad 80)) A U H ∧ va_T .int (ad 80) 6 (fun j => .int (zabove.getD j 0)) A U H ∧ va_Z "java/lang/String" "COMPACT_STRINGS" "Z" (.int 1) A U H ∧ (va_Z "jdk/internal/util/Preconditions" "SIOOBE_FORMATTER" "Ljava/util/function/BiFunction;" .null A U H ∨ va_Z "jdk/internal/util/Preconditions" "SIOOBE_FORMATTER" "Ljava/util/function/BiFunction;" (.ref (ad 85)) A U H)
theorem zX.go {ad : Nat → Nat} {A B : Nat → Prop} {s U : State} {H0 H : Heap} (h : zX ad A s H0) (hW : s.WarmedH U.vm) (hq : ∀ a : Nat, a < H0.size → ¬ A a → H[a]? = H0[a]?) (hAB : ∀ q, B q → A q) : zX ad B U H := by
  obtain ⟨h1, h2, h3, h4, h5, h6⟩ := h
  exact ⟨((h1.kept hq).moved hW.alike).narrow hAB, fun k q hk => (h2 k q hk).warm hW, ((h3.kept hq).moved hW.alike).narrow hAB, ((h4.kept hq).moved hW.alike).narrow hAB, ((h5.kept hq).moved hW.alike).narrow hAB, by
    rcases h6 with h6 | h6
    · exact Or.inl (((h6.kept hq).moved hW.alike).narrow hAB)
    · exact Or.inr (((h6.kept hq).moved hW.alike).narrow hAB)⟩
theorem zX.same {ad : Nat → Nat} {A : Nat → Prop} {u U : State} {H : Heap} (hv : U.vm = u.vm) (h : zX ad A u H) : zX ad A U H := by
  obtain ⟨h1, h2, h3, h4, h5, h6⟩ := h
  have ha : u.vm.Alike U.vm := by rw [hv]; exact Vm.Alike.refl _
  exact ⟨h1.moved ha, fun k q hk => (h2 k q hk).same hv, h3.moved ha, h4.moved ha, h5.moved ha, h6.imp (fun h => h.moved ha) (fun h => h.moved ha)⟩
/-- the locals: what is known of each -/
def zL (ad : Nat → Nat) (nL : Nat) (la : Array Slot) (ls : List (Option Value)) : Prop := la.size = nL ∧ lv_wf la ∧ ∀ (i : Nat) (v : Value), ls[i]? = some (some v) → la[i]? = some (.val (ztr ad v))
/-- what is the same all along a method: locals' number, answer's type, room, cells made so far, what it may write, a premise of its own, where it ends -/
abbrev zB : Type := Nat × Option FieldType × Room × (Nat × Nat) × (State → (Nat → Nat) → Nat → Prop) × (State → (Nat → Nat) → Prop) × (State → Array Value → List Frame → va_G → (Nat → Nat) → zC3 → State → Prop)
def zCx (own : String) (cc : ByteArray) (B : zB) (p : Program) (s : State) (m : MethodId) (args : Array Value) (meth : Method) (c : Code) (D : va_G) (ad : Nat → Nat) (c3 : zC3) : Prop :=
  p.tables.exec = Jvm.exec ∧ c.code = cc ∧ c.maxLocals = B.1 ∧ meth.sig.returnType = B.2.1 ∧ meth.locks = false ∧ s.vm.findClass own = some m.cls ∧ (∀ w ∈ zT, w.before args s = true) ∧ zInj ad ∧ va_K D vwCl (ztys c3) s ∧ zX ad (B.2.2.2.2.1 s ad) s s.heap ∧ (∀ q, zA ad q → B.2.2.2.2.1 s ad q) ∧ B.2.2.2.2.2.1 s ad
def zWP (own : String) (cc : ByteArray) (B : zB) (pc : Nat) (ls : List (Option Value)) (st : List Value) (w : zW) : Prop :=
  ∀ (p : Program) (l : Launch) (e : Env) (s : State) (m : MethodId) (args : Array Value) (below : List Frame) (meth : Method) (c : Code) (D : va_G) (ad : Nat → Nat) (c3 : zC3) (H : Heap) (locs : List Loc) (la : Array Slot),
    zCx own cc B p s m args meth c D ad c3 → va_P D vwCl (zws ad c3 w) H → va_S (B.2.2.2.2.1 s ad) s.heap H locs → zL ad B.1 la ls →
    W p l e B.2.2.1 s m args below meth c H locs B.2.2.2.1.1 B.2.2.2.1.2 (B.2.2.2.2.2.2 s args below D ad c3) (F0 m pc la (st.map (ztr ad)))
/-- a method's end: the answer and the world behind it -/
def zQc (D : va_G) (ad : Nat → Nat) (c3 : zC3) (Q : Option Value → zW → Prop) : Array Value → State → Outcome → State → Prop := fun _ st o t =>
  (∃ (r : Option Value) (w' : zW), o = .returned (r.map (ztr ad)) ∧ Q r w' ∧ va_P D vwCl (zws ad c3 w') t.heap) ∧ va_F (zA ad) st t
def zR (d : Nat) : Room := { frames := d, cells := 0, slots := 0, locals := 40 * d }
abbrev zMB (nL : Nat) (ret : Option FieldType) (d : Nat) (Q : Option Value → zW → Prop) : zB :=
  (nL, ret, zR d, (0, 0), fun _ ad => zA ad, fun _ _ => True, fun s args below D ad c3 => MQ below (zQc D ad c3 Q) args s 0 0 (zA ad))
def zPc (D : va_G) (ad : Nat → Nat) (c3 : zC3) (as : List Value) (w : zW) : Array Value → State → Prop := va_Pc (as.map (ztr ad)) (fun U => va_P D vwCl (zws ad c3 w) U.heap ∧ va_K D vwCl (ztys c3) U ∧ zX ad (zA ad) U U.heap)
def zRun (y : MethodName) (cc : ByteArray) (nL : Nat) (ret : Option FieldType) (d : Nat) (as : List Value) (w : zW) (Q : Option Value → zW → Prop) : Prop :=
  ∀ (l : Launch) (D : va_G) (ad : Nat → Nat) (c3 : zC3), zInj ad → Met l y (.code y cc nL ret :: zT) (zR d) (zPc D ad c3 as w) (zQc D ad c3 Q) 0 0 (zA ad)
end
section
theorem ztr_cat (ad : Nat → Nat) (v : Value) : (ztr ad v).category = v.category := by cases v <;> rfl
def zll (ad : Nat → Nat) (ls : List (Option Value)) : List (Nat × Value) := (List.range ls.length).filterMap (fun i => match ls[i]? with | some (some v) => some (i, ztr ad v) | _ => none)
theorem zll_in (ad : Nat → Nat) {ls : List (Option Value)} {i : Nat} {v : Value} (h : ls[i]? = some (some v)) : (i, ztr ad v) ∈ zll ad ls := by
  unfold zll
  refine List.mem_filterMap.mpr ⟨i, List.mem_range.mpr (List.getElem?_eq_some_iff.mp h).1, ?_⟩
  rw [h]
theorem zll_out {ad : Nat → Nat} {ls : List (Option Value)} {q : Nat × Value} (h : q ∈ zll ad ls) : ∃ v, ls[q.1]? = some (some v) ∧ q.2 = ztr ad v := by
  unfold zll at h
  obtain ⟨i, -, h⟩ := List.mem_filterMap.mp h
  match hv : ls[i]? with
  | none => rw [hv] at h; cases h
  | some none => rw [hv] at h; cases h
  | some (some v) => rw [hv] at h; cases h; exact ⟨v, hv, rfl⟩
theorem zL.has {ad : Nat → Nat} {nL : Nat} {la : Array Slot} {ls : List (Option Value)} (h : zL ad nL la ls) : lv_has la nL (zll ad ls) := by
  refine ⟨h.1, h.2.1, fun q hq => ?_⟩
  obtain ⟨v, h1, h2⟩ := zll_out hq
  rw [h2]
  exact h.2.2 _ _ h1
/-- no long lies just ahead of a slot that is written -/
def zok (ls : List (Option Value)) (i : Nat) : Bool := match i with
  | 0 => true
  | j + 1 => match ls[j]? with
    | some (some (.long _)) => false
    | some (some (.double _)) => false
    | _ => true
theorem zok_cat {ad : Nat → Nat} {ls : List (Option Value)} {i j : Nat} {v : Value} (hz : zok ls i = true) (hj : ls[j]? = some (some v)) (e : j + 1 = i) : ¬ (ztr ad v).category = 2 := by
  subst e
  simp only [zok, hj] at hz
  cases v <;> simp_all [ztr, Value.category]
theorem zL.set1 {ad : Nat → Nat} {nL : Nat} {la la2 : Array Slot} {ls : List (Option Value)} {i : Nat} {v : Value} (_ : zL ad nL la ls) (hz : zok ls i = true) {u : Value} (hu : ztr ad v = u) (h2 : lv_has la2 nL ((i, u) :: (zll ad ls).filter (fun q => !(q.1 == i) && !(q.1 + 1 == i && q.2.category == 2)))) : zL ad nL la2 (ls.set i (some v)) := by
  subst hu
  refine ⟨h2.1, h2.2.1, fun j x hx => ?_⟩
  by_cases e : i = j
  · subst e
    rw [List.getElem?_set] at hx
    simp only [if_true] at hx
    split at hx
    · cases hx; exact h2.2.2 _ List.mem_cons_self
    · cases hx
  · rw [List.getElem?_set_ne e] at hx
    refine h2.2.2 (j, ztr ad x) (List.mem_cons_of_mem _ (List.mem_filter.mpr ⟨zll_in ad hx, ?_⟩))
    have e1 : (j == i) = false := by simp [Ne.symm e]
    have e2 : (j + 1 == i && (ztr ad x).category == 2) = false := by
      by_cases q : j + 1 = i
      · have := zok_cat (ad := ad) hz hx q
        simp [this]
      · simp [q]
    simp [e1, e2]
theorem zL.set2 {ad : Nat → Nat} {nL : Nat} {la la2 : Array Slot} {ls : List (Option Value)} {i : Nat} {v : Value} (_ : zL ad nL la ls) (hz : zok ls i = true) {u : Value} (hu : ztr ad v = u) (h2 : lv_has la2 nL ((i, u) :: (zll ad ls).filter (fun q => !(q.1 == i) && (!(q.1 == i + 1) && !(q.1 + 1 == i && q.2.category == 2))))) : zL ad nL la2 ((ls.set i (some v)).set (i + 1) none) := by
  subst hu
  refine ⟨h2.1, h2.2.1, fun j x hx => ?_⟩
  by_cases e3 : i + 1 = j
  · subst e3
    rw [List.getElem?_set] at hx
    simp only [if_true] at hx
    split at hx <;> cases hx
  rw [List.getElem?_set_ne e3] at hx
  by_cases e : i = j
  · subst e
    rw [List.getElem?_set] at hx
    simp only [if_true] at hx
    split at hx
    · cases hx; exact h2.2.2 _ List.mem_cons_self
    · cases hx
  · rw [List.getElem?_set_ne e] at hx
    refine h2.2.2 (j, ztr ad x) (List.mem_cons_of_mem _ (List.mem_filter.mpr ⟨zll_in ad hx, ?_⟩))
    have e1 : (j == i) = false := by simp [Ne.symm e]
    have e4 : (j == i + 1) = false := by simp [Ne.symm e3]
    have e2 : (j + 1 == i && (ztr ad x).category == 2) = false := by
      by_cases q : j + 1 = i
      · have := zok_cat (ad := ad) hz hx q
        simp [this]
      · simp [q]
    simp [e1, e2, e4]
section ZROWS
variable {own : String} {cc : ByteArray} {B : zB} {pc : Nat} {ls : List (Option Value)} {st : List Value} {w : zW}
theorem zs_iadd {x y : Int32} (hd : decode cc pc = .ok (.iadd, 1)) (k : zWP own cc B (pc + 1) ls (.int (x + y) :: st) w) : zWP own cc B pc ls (.int y :: .int x :: st) w := by
  intro p l e s m args below meth c D ad c3 H locs la hC hP hS hL
  exact lv_iadd hC.1 hC.2.1 hd (k p l e s m args below meth c D ad c3 H locs la hC hP hS hL)
theorem zs_isub {x y : Int32} (hd : decode cc pc = .ok (.isub, 1)) (k : zWP own cc B (pc + 1) ls (.int (x - y) :: st) w) : zWP own cc B pc ls (.int y :: .int x :: st) w := by
  intro p l e s m args below meth c D ad c3 H locs la hC hP hS hL
  exact lv_isub hC.1 hC.2.1 hd (k p l e s m args below meth c D ad c3 H locs la hC hP hS hL)
theorem zs_imul {x y : Int32} (hd : decode cc pc = .ok (.imul, 1)) (k : zWP own cc B (pc + 1) ls (.int (x * y) :: st) w) : zWP own cc B pc ls (.int y :: .int x :: st) w := by
  intro p l e s m args below meth c D ad c3 H locs la hC hP hS hL
  exact lv_imul hC.1 hC.2.1 hd (k p l e s m args below meth c D ad c3 H locs la hC hP hS hL)
theorem zs_iand {x y : Int32} (hd : decode cc pc = .ok (.iand, 1)) (k : zWP own cc B (pc + 1) ls (.int (x &&& y) :: st) w) : zWP own cc B pc ls (.int y :: .int x :: st) w := by
  intro p l e s m args below meth c D ad c3 H locs la hC hP hS hL
  exact lv_iand hC.1 hC.2.1 hd (k p l e s m args below meth c D ad c3 H locs la hC hP hS hL)
theorem zs_ior {x y : Int32} (hd : decode cc pc = .ok (.ior, 1)) (k : zWP own cc B (pc + 1) ls (.int (x ||| y) :: st) w) : zWP own cc B pc ls (.int y :: .int x :: st) w := by
  intro p l e s m args below meth c D ad c3 H locs la hC hP hS hL
  exact lv_ior hC.1 hC.2.1 hd (k p l e s m args below meth c D ad c3 H locs la hC hP hS hL)
theorem zs_ixor {x y : Int32} (hd : decode cc pc = .ok (.ixor, 1)) (k : zWP own cc B (pc + 1) ls (.int (x ^^^ y) :: st) w) : zWP own cc B pc ls (.int y :: .int x :: st) w := by
  intro p l e s m args below meth c D ad c3 H locs la hC hP hS hL
  exact lv_ixor hC.1 hC.2.1 hd (k p l e s m args below meth c D ad c3 H locs la hC hP hS hL)
theorem zs_ishl {x y : Int32} (hd : decode cc pc = .ok (.ishl, 1)) (k : zWP own cc B (pc + 1) ls (.int (x <<< (y &&& 31)) :: st) w) : zWP own cc B pc ls (.int y :: .int x :: st) w := by
  intro p l e s m args below meth c D ad c3 H locs la hC hP hS hL
  exact lv_ishl hC.1 hC.2.1 hd (k p l e s m args below meth c D ad c3 H locs la hC hP hS hL)
theorem zs_ishr {x y : Int32} (hd : decode cc pc = .ok (.ishr, 1)) (k : zWP own cc B (pc + 1) ls (.int (x >>> (y &&& 31)) :: st) w) : zWP own cc B pc ls (.int y :: .int x :: st) w := by
  intro p l e s m args below meth c D ad c3 H locs la hC hP hS hL
  exact lv_ishr hC.1 hC.2.1 hd (k p l e s m args below meth c D ad c3 H locs la hC hP hS hL)
theorem zs_ladd {x y : Int64} (hd : decode cc pc = .ok (.ladd, 1)) (k : zWP own cc B (pc + 1) ls (.long (x + y) :: st) w) : zWP own cc B pc ls (.long y :: .long x :: st) w := by
  intro p l e s m args below meth c D ad c3 H locs la hC hP hS hL
  exact lv_ladd hC.1 hC.2.1 hd (k p l e s m args below meth c D ad c3 H locs la hC hP hS hL)
theorem zs_lsub {x y : Int64} (hd : decode cc pc = .ok (.lsub, 1)) (k : zWP own cc B (pc + 1) ls (.long (x - y) :: st) w) : zWP own cc B pc ls (.long y :: .long x :: st) w := by
  intro p l e s m args below meth c D ad c3 H locs la hC hP hS hL
  exact lv_lsub hC.1 hC.2.1 hd (k p l e s m args below meth c D ad c3 H locs la hC hP hS hL)
theorem zs_lmul {x y : Int64} (hd : decode cc pc = .ok (.lmul, 1)) (k : zWP own cc B (pc + 1) ls (.long (x * y) :: st) w) : zWP own cc B pc ls (.long y :: .long x :: st) w := by
  intro p l e s m args below meth c D ad c3 H locs la hC hP hS hL
  exact lv_lmul hC.1 hC.2.1 hd (k p l e s m args below meth c D ad c3 H locs la hC hP hS hL)
theorem zs_land {x y : Int64} (hd : decode cc pc = .ok (.land, 1)) (k : zWP own cc B (pc + 1) ls (.long (x &&& y) :: st) w) : zWP own cc B pc ls (.long y :: .long x :: st) w := by
  intro p l e s m args below meth c D ad c3 H locs la hC hP hS hL
  exact lv_land hC.1 hC.2.1 hd (k p l e s m args below meth c D ad c3 H locs la hC hP hS hL)
theorem zs_lor {x y : Int64} (hd : decode cc pc = .ok (.lor, 1)) (k : zWP own cc B (pc + 1) ls (.long (x ||| y) :: st) w) : zWP own cc B pc ls (.long y :: .long x :: st) w := by
  intro p l e s m args below meth c D ad c3 H locs la hC hP hS hL
  exact lv_lor hC.1 hC.2.1 hd (k p l e s m args below meth c D ad c3 H locs la hC hP hS hL)
theorem zs_idiv {x y : Int32} (hd : decode cc pc = .ok (.idiv, 1)) (hne : ¬ y = 0) (k : zWP own cc B (pc + 1) ls (.int (x / y) :: st) w) : zWP own cc B pc ls (.int y :: .int x :: st) w := by
  intro p l e s m args below meth c D ad c3 H locs la hC hP hS hL
  exact lv_idiv hC.1 hC.2.1 hd hne (k p l e s m args below meth c D ad c3 H locs la hC hP hS hL)
theorem zs_irem {x y : Int32} (hd : decode cc pc = .ok (.irem, 1)) (hne : ¬ y = 0) (k : zWP own cc B (pc + 1) ls (.int (x - x / y * y) :: st) w) : zWP own cc B pc ls (.int y :: .int x :: st) w := by
  intro p l e s m args below meth c D ad c3 H locs la hC hP hS hL
  exact lv_irem hC.1 hC.2.1 hd hne (k p l e s m args below meth c D ad c3 H locs la hC hP hS hL)
theorem zs_iushr {x y : Int32} (hd : decode cc pc = .ok (.iushr, 1)) (k : zWP own cc B (pc + 1) ls (.int ((x.toUInt32 >>> (y.toUInt32 &&& Int32.toUInt32 31)).toInt32) :: st) w) : zWP own cc B pc ls (.int y :: .int x :: st) w := by
  intro p l e s m args below meth c D ad c3 H locs la hC hP hS hL
  exact lv_iushr hC.1 hC.2.1 hd rfl (k p l e s m args below meth c D ad c3 H locs la hC hP hS hL)
theorem zs_ineg {x : Int32} (hd : decode cc pc = .ok (.ineg, 1)) (k : zWP own cc B (pc + 1) ls (.int (-x) :: st) w) : zWP own cc B pc ls (.int x :: st) w := by
  intro p l e s m args below meth c D ad c3 H locs la hC hP hS hL
  exact lv_ineg hC.1 hC.2.1 hd (k p l e s m args below meth c D ad c3 H locs la hC hP hS hL)
theorem zs_lshl {x : Int64} {y : Int32} (hd : decode cc pc = .ok (.lshl, 1)) (k : zWP own cc B (pc + 1) ls (.long (x <<< (y.toInt64 &&& 63)) :: st) w) : zWP own cc B pc ls (.int y :: .long x :: st) w := by
  intro p l e s m args below meth c D ad c3 H locs la hC hP hS hL
  exact lv_lshl hC.1 hC.2.1 hd rfl (k p l e s m args below meth c D ad c3 H locs la hC hP hS hL)
theorem zs_lshr {x : Int64} {y : Int32} (hd : decode cc pc = .ok (.lshr, 1)) (k : zWP own cc B (pc + 1) ls (.long (x >>> (y.toInt64 &&& 63)) :: st) w) : zWP own cc B pc ls (.int y :: .long x :: st) w := by
  intro p l e s m args below meth c D ad c3 H locs la hC hP hS hL
  exact lv_lshr hC.1 hC.2.1 hd rfl (k p l e s m args below meth c D ad c3 H locs la hC hP hS hL)
theorem zs_i2l {x : Int32} (hd : decode cc pc = .ok (.i2l, 1)) (k : zWP own cc B (pc + 1) ls (.long x.toInt64 :: st) w) : zWP own cc B pc ls (.int x :: st) w := by
  intro p l e s m args below meth c D ad c3 H locs la hC hP hS hL
  exact lv_i2l hC.1 hC.2.1 hd rfl (k p l e s m args below meth c D ad c3 H locs la hC hP hS hL)
theorem zs_l2i {x : Int64} (hd : decode cc pc = .ok (.l2i, 1)) (k : zWP own cc B (pc + 1) ls (.int x.toInt32 :: st) w) : zWP own cc B pc ls (.long x :: st) w := by
  intro p l e s m args below meth c D ad c3 H locs la hC hP hS hL
  exact lv_l2i hC.1 hC.2.1 hd rfl (k p l e s m args below meth c D ad c3 H locs la hC hP hS hL)
theorem zs_i2b {x : Int32} (hd : decode cc pc = .ok (.i2b, 1)) (k : zWP own cc B (pc + 1) ls (.int x.toInt8.toInt32 :: st) w) : zWP own cc B pc ls (.int x :: st) w := by
  intro p l e s m args below meth c D ad c3 H locs la hC hP hS hL
  exact lv_i2b hC.1 hC.2.1 hd rfl (k p l e s m args below meth c D ad c3 H locs la hC hP hS hL)
theorem zs_i2s {x : Int32} (hd : decode cc pc = .ok (.i2s, 1)) (k : zWP own cc B (pc + 1) ls (.int x.toInt16.toInt32 :: st) w) : zWP own cc B pc ls (.int x :: st) w := by
  intro p l e s m args below meth c D ad c3 H locs la hC hP hS hL
  exact lv_i2s hC.1 hC.2.1 hd rfl (k p l e s m args below meth c D ad c3 H locs la hC hP hS hL)
theorem zs_i2c {x : Int32} (hd : decode cc pc = .ok (.i2c, 1)) (k : zWP own cc B (pc + 1) ls (.int (x.toUInt32 % 65536).toInt32 :: st) w) : zWP own cc B pc ls (.int x :: st) w := by
  intro p l e s m args below meth c D ad c3 H locs la hC hP hS hL
  exact lv_i2c hC.1 hC.2.1 hd rfl (k p l e s m args below meth c D ad c3 H locs la hC hP hS hL)
theorem zs_lcmp {x y : Int64} (hd : decode cc pc = .ok (.lcmp, 1)) (k : zWP own cc B (pc + 1) ls (.int (lg_cmp x y) :: st) w) : zWP own cc B pc ls (.long y :: .long x :: st) w := by
  intro p l e s m args below meth c D ad c3 H locs la hC hP hS hL
  exact W.lcmp hC.1 hC.2.1 hd (k p l e s m args below meth c D ad c3 H locs la hC hP hS hL)
theorem zs_iconst {n : Int} (v : Int32) (hd : decode cc pc = .ok (.iconst n, 1)) (hv : Int32.ofInt n = v) (k : zWP own cc B (pc + 1) ls (.int v :: st) w) : zWP own cc B pc ls st w := by
  intro p l e s m args below meth c D ad c3 H locs la hC hP hS hL
  exact lv_iconst hC.1 hC.2.1 hd hv (k p l e s m args below meth c D ad c3 H locs la hC hP hS hL)
theorem zs_bipush {n : Int} (v : Int32) (hd : decode cc pc = .ok (.bipush n, 2)) (hv : (Int8.ofInt n).toInt32 = v) (k : zWP own cc B (pc + 2) ls (.int v :: st) w) : zWP own cc B pc ls st w := by
  intro p l e s m args below meth c D ad c3 H locs la hC hP hS hL
  exact lv_bipush hC.1 hC.2.1 hd hv (k p l e s m args below meth c D ad c3 H locs la hC hP hS hL)
theorem zs_sipush {n : Int} (v : Int32) (hd : decode cc pc = .ok (.sipush n, 3)) (hv : (Int16.ofInt n).toInt32 = v) (k : zWP own cc B (pc + 3) ls (.int v :: st) w) : zWP own cc B pc ls st w := by
  intro p l e s m args below meth c D ad c3 H locs la hC hP hS hL
  exact lv_sipush hC.1 hC.2.1 hd hv (k p l e s m args below meth c D ad c3 H locs la hC hP hS hL)
theorem zs_lconst {n : Fin 2} (v : Int64) (hd : decode cc pc = .ok (.lconst n, 1)) (hv : Int64.ofNat (n : Nat) = v) (k : zWP own cc B (pc + 1) ls (.long v :: st) w) : zWP own cc B pc ls st w := by
  intro p l e s m args below meth c D ad c3 H locs la hC hP hS hL
  exact lv_lconst hC.1 hC.2.1 hd hv (k p l e s m args below meth c D ad c3 H locs la hC hP hS hL)
theorem zs_ldc {i : Nat} {v : Int32} (hw : Cond.constant own i v ∈ zT) (hd : decode cc pc = .ok (.ldc i, 2)) (k : zWP own cc B (pc + 2) ls (.int v :: st) w) : zWP own cc B pc ls st w := by
  intro p l e s m args below meth c D ad c3 H locs la hC hP hS hL
  exact lv_ldc hC.1 hC.2.1 hC.2.2.2.2.2.1 (hC.2.2.2.2.2.2.1 _ hw) hd (k p l e s m args below meth c D ad c3 H locs la hC hP hS hL)
theorem zs_ldc_w {i : Nat} {v : Int32} (hw : Cond.constant own i v ∈ zT) (hd : decode cc pc = .ok (.ldc_w i, 3)) (k : zWP own cc B (pc + 3) ls (.int v :: st) w) : zWP own cc B pc ls st w := by
  intro p l e s m args below meth c D ad c3 H locs la hC hP hS hL
  exact lv_ldcw hC.1 hC.2.1 hC.2.2.2.2.2.1 (hC.2.2.2.2.2.2.1 _ hw) hd (k p l e s m args below meth c D ad c3 H locs la hC hP hS hL)
theorem zs_ldc2_w {i : Nat} {v : Int64} (hw : Cond.constantLong own i v ∈ zT) (hd : decode cc pc = .ok (.ldc2_w i, 3)) (k : zWP own cc B (pc + 3) ls (.long v :: st) w) : zWP own cc B pc ls st w := by
  intro p l e s m args below meth c D ad c3 H locs la hC hP hS hL
  exact lv_ldc2 hC.1 hC.2.1 hC.2.2.2.2.2.1 (hC.2.2.2.2.2.2.1 _ hw) hd (k p l e s m args below meth c D ad c3 H locs la hC hP hS hL)
theorem zs_iload_n {j : Fin 4} {x : Int32} (hd : decode cc pc = .ok (.iload_n j, 1)) (hl : ls[(j : Nat)]? = some (some (.int x))) (k : zWP own cc B (pc + 1) ls (.int x :: st) w) : zWP own cc B pc ls st w := by
  intro p l e s m args below meth c D ad c3 H locs la hC hP hS hL
  exact lv_iload_n hC.1 hC.2.1 hd rfl (hL.2.2 _ _ hl) (k p l e s m args below meth c D ad c3 H locs la hC hP hS hL)
theorem zs_iload {j : Nat} {x : Int32} (hd : decode cc pc = .ok (.iload j, 2)) (hl : ls[j]? = some (some (.int x))) (k : zWP own cc B (pc + 2) ls (.int x :: st) w) : zWP own cc B pc ls st w := by
  intro p l e s m args below meth c D ad c3 H locs la hC hP hS hL
  exact lv_iload hC.1 hC.2.1 hd (hL.2.2 _ _ hl) (k p l e s m args below meth c D ad c3 H locs la hC hP hS hL)
theorem zs_lload_n {j : Fin 4} {x : Int64} (hd : decode cc pc = .ok (.lload_n j, 1)) (hl : ls[(j : Nat)]? = some (some (.long x))) (k : zWP own cc B (pc + 1) ls (.long x :: st) w) : zWP own cc B pc ls st w := by
  intro p l e s m args below meth c D ad c3 H locs la hC hP hS hL
  exact lv_lload_n hC.1 hC.2.1 hd rfl (hL.2.2 _ _ hl) (k p l e s m args below meth c D ad c3 H locs la hC hP hS hL)
theorem zs_lload {j : Nat} {x : Int64} (hd : decode cc pc = .ok (.lload j, 2)) (hl : ls[j]? = some (some (.long x))) (k : zWP own cc B (pc + 2) ls (.long x :: st) w) : zWP own cc B pc ls st w := by
  intro p l e s m args below meth c D ad c3 H locs la hC hP hS hL
  exact lv_lload hC.1 hC.2.1 hd (hL.2.2 _ _ hl) (k p l e s m args below meth c D ad c3 H locs la hC hP hS hL)
theorem zs_aload_n {j : Fin 4} {x : Nat} (hd : decode cc pc = .ok (.aload_n j, 1)) (hl : ls[(j : Nat)]? = some (some (.ref x))) (k : zWP own cc B (pc + 1) ls (.ref x :: st) w) : zWP own cc B pc ls st w := by
  intro p l e s m args below meth c D ad c3 H locs la hC hP hS hL
  exact lv_aload_n hC.1 hC.2.1 hd rfl (hL.2.2 _ _ hl) (k p l e s m args below meth c D ad c3 H locs la hC hP hS hL)
theorem zs_aload {j : Nat} {x : Nat} (hd : decode cc pc = .ok (.aload j, 2)) (hl : ls[j]? = some (some (.ref x))) (k : zWP own cc B (pc + 2) ls (.ref x :: st) w) : zWP own cc B pc ls st w := by
  intro p l e s m args below meth c D ad c3 H locs la hC hP hS hL
  exact lv_aload hC.1 hC.2.1 hd (hL.2.2 _ _ hl) (k p l e s m args below meth c D ad c3 H locs la hC hP hS hL)
theorem zs_aload_nN {j : Fin 4} (hd : decode cc pc = .ok (.aload_n j, 1)) (hl : ls[(j : Nat)]? = some (some .null)) (k : zWP own cc B (pc + 1) ls (.null :: st) w) : zWP own cc B pc ls st w := by
  intro p l e s m args below meth c D ad c3 H locs la hC hP hS hL
  exact lv_aload_nN hC.1 hC.2.1 hd rfl (hL.2.2 _ _ hl) (k p l e s m args below meth c D ad c3 H locs la hC hP hS hL)
theorem zs_aloadN {j : Nat} (hd : decode cc pc = .ok (.aload j, 2)) (hl : ls[j]? = some (some .null)) (k : zWP own cc B (pc + 2) ls (.null :: st) w) : zWP own cc B pc ls st w := by
  intro p l e s m args below meth c D ad c3 H locs la hC hP hS hL
  exact lv_aloadN hC.1 hC.2.1 hd (hL.2.2 _ _ hl) (k p l e s m args below meth c D ad c3 H locs la hC hP hS hL)
theorem zs_dup {v : Value} (hd : decode cc pc = .ok (.dup, 1)) (hc : v.category = 1) (k : zWP own cc B (pc + 1) ls (v :: v :: st) w) : zWP own cc B pc ls (v :: st) w := by
  intro p l e s m args below meth c D ad c3 H locs la hC hP hS hL
  exact lv_dup hC.1 hC.2.1 hd ((ztr_cat ad v).trans hc) (k p l e s m args below meth c D ad c3 H locs la hC hP hS hL)
theorem zs_dup2 {v u : Value} (hd : decode cc pc = .ok (.dup2, 1)) (hc : v.category = 1) (hc2 : u.category = 1) (k : zWP own cc B (pc + 1) ls (v :: u :: v :: u :: st) w) : zWP own cc B pc ls (v :: u :: st) w := by
  intro p l e s m args below meth c D ad c3 H locs la hC hP hS hL
  exact lv_dup2_11 hC.1 hC.2.1 hd ((ztr_cat ad v).trans hc) ((ztr_cat ad u).trans hc2) (k p l e s m args below meth c D ad c3 H locs la hC hP hS hL)
theorem zs_dup_x1 {v u : Value} (hd : decode cc pc = .ok (.dup_x1, 1)) (hc : v.category = 1) (hc2 : u.category = 1) (k : zWP own cc B (pc + 1) ls (v :: u :: v :: st) w) : zWP own cc B pc ls (v :: u :: st) w := by
  intro p l e s m args below meth c D ad c3 H locs la hC hP hS hL
  exact lv_dup_x1 hC.1 hC.2.1 hd ((ztr_cat ad v).trans hc) ((ztr_cat ad u).trans hc2) (k p l e s m args below meth c D ad c3 H locs la hC hP hS hL)
theorem zs_pop {v : Value} (hd : decode cc pc = .ok (.pop, 1)) (hc : v.category = 1) (k : zWP own cc B (pc + 1) ls st w) : zWP own cc B pc ls (v :: st) w := by
  intro p l e s m args below meth c D ad c3 H locs la hC hP hS hL
  exact lv_pop hC.1 hC.2.1 hd ((ztr_cat ad v).trans hc) (k p l e s m args below meth c D ad c3 H locs la hC hP hS hL)
theorem zs_goto {off : Int} (tgt : Nat) (hd : decode cc pc = .ok (.goto off, 3)) (ht : (pc : Int) + off = (tgt : Int)) (k : zWP own cc B tgt ls st w) : zWP own cc B pc ls st w := by
  intro p l e s m args below meth c D ad c3 H locs la hC hP hS hL
  exact lv_goto hC.1 hC.2.1 hd ht (k p l e s m args below meth c D ad c3 H locs la hC hP hS hL)
theorem zs_ifnonnull {x : Nat} {off : Int} (tgt : Nat) (hd : decode cc pc = .ok (.ifnonnull off, 3)) (ht : (pc : Int) + off = (tgt : Int)) (k : zWP own cc B tgt ls st w) : zWP own cc B pc ls (.ref x :: st) w := by
  intro p l e s m args below meth c D ad c3 H locs la hC hP hS hL
  exact lv_ifnonnull hC.1 hC.2.1 hd ht (k p l e s m args below meth c D ad c3 H locs la hC hP hS hL)
theorem zs_ifnull {x : Nat} {off : Int} (hd : decode cc pc = .ok (.ifnull off, 3)) (k : zWP own cc B (pc + 3) ls st w) : zWP own cc B pc ls (.ref x :: st) w := by
  intro p l e s m args below meth c D ad c3 H locs la hC hP hS hL
  exact lv_ifnull hC.1 hC.2.1 hd (k p l e s m args below meth c D ad c3 H locs la hC hP hS hL)
theorem zs_ifnullN {off : Int} (tgt : Nat) (hd : decode cc pc = .ok (.ifnull off, 3)) (ht : (pc : Int) + off = (tgt : Int)) (k : zWP own cc B tgt ls st w) : zWP own cc B pc ls (.null :: st) w := by
  intro p l e s m args below meth c D ad c3 H locs la hC hP hS hL
  exact lv_ifnullN hC.1 hC.2.1 hd ht (k p l e s m args below meth c D ad c3 H locs la hC hP hS hL)
theorem zs_ifnonnullN {off : Int} (hd : decode cc pc = .ok (.ifnonnull off, 3)) (k : zWP own cc B (pc + 3) ls st w) : zWP own cc B pc ls (.null :: st) w := by
  intro p l e s m args below meth c D ad c3 H locs la hC hP hS hL
  exact lv_ifnonnullN hC.1 hC.2.1 hd (k p l e s m args below meth c D ad c3 H locs la hC hP hS hL)
theorem zs_if_eq {x : Int32} {off : Int} (tgt : Nat) (hd : decode cc pc = .ok (.ifCond .eq off, 3)) (ht : (pc : Int) + off = (tgt : Int)) (kt : x = 0 → zWP own cc B tgt ls st w) (kf : ¬ x = 0 → zWP own cc B (pc + 3) ls st w) : zWP own cc B pc ls (.int x :: st) w := by
  intro p l e s m args below meth c D ad c3 H locs la hC hP hS hL
  exact lv_if_eq hC.1 hC.2.1 hd ht (fun h => kt h p l e s m args below meth c D ad c3 H locs la hC hP hS hL) (fun h => kf h p l e s m args below meth c D ad c3 H locs la hC hP hS hL)
theorem zs_icmp_eq {x y : Int32} {off : Int} (tgt : Nat) (hd : decode cc pc = .ok (.if_icmp .eq off, 3)) (ht : (pc : Int) + off = (tgt : Int)) (kt : x = y → zWP own cc B tgt ls st w) (kf : ¬ x = y → zWP own cc B (pc + 3) ls st w) : zWP own cc B pc ls (.int y :: .int x :: st) w := by
  intro p l e s m args below meth c D ad c3 H locs la hC hP hS hL
  exact lv_icmp_eq hC.1 hC.2.1 hd ht (fun h => kt h p l e s m args below meth c D ad c3 H locs la hC hP hS hL) (fun h => kf h p l e s m args below meth c D ad c3 H locs la hC hP hS hL)
theorem zs_if_ne {x : Int32} {off : Int} (tgt : Nat) (hd : decode cc pc = .ok (.ifCond .ne off, 3)) (ht : (pc : Int) + off = (tgt : Int)) (kt : ¬ x = 0 → zWP own cc B tgt ls st w) (kf : x = 0 → zWP own cc B (pc + 3) ls st w) : zWP own cc B pc ls (.int x :: st) w := by
  intro p l e s m args below meth c D ad c3 H locs la hC hP hS hL
  exact lv_if_ne hC.1 hC.2.1 hd ht (fun h => kt h p l e s m args below meth c D ad c3 H locs la hC hP hS hL) (fun h => kf h p l e s m args below meth c D ad c3 H locs la hC hP hS hL)
theorem zs_icmp_ne {x y : Int32} {off : Int} (tgt : Nat) (hd : decode cc pc = .ok (.if_icmp .ne off, 3)) (ht : (pc : Int) + off = (tgt : Int)) (kt : ¬ x = y → zWP own cc B tgt ls st w) (kf : x = y → zWP own cc B (pc + 3) ls st w) : zWP own cc B pc ls (.int y :: .int x :: st) w := by
  intro p l e s m args below meth c D ad c3 H locs la hC hP hS hL
  exact lv_icmp_ne hC.1 hC.2.1 hd ht (fun h => kt h p l e s m args below meth c D ad c3 H locs la hC hP hS hL) (fun h => kf h p l e s m args below meth c D ad c3 H locs la hC hP hS hL)
theorem zs_if_lt {x : Int32} {off : Int} (tgt : Nat) (hd : decode cc pc = .ok (.ifCond .lt off, 3)) (ht : (pc : Int) + off = (tgt : Int)) (kt : x < 0 → zWP own cc B tgt ls st w) (kf : ¬ x < 0 → zWP own cc B (pc + 3) ls st w) : zWP own cc B pc ls (.int x :: st) w := by
  intro p l e s m args below meth c D ad c3 H locs la hC hP hS hL
  exact lv_if_lt hC.1 hC.2.1 hd ht (fun h => kt h p l e s m args below meth c D ad c3 H locs la hC hP hS hL) (fun h => kf h p l e s m args below meth c D ad c3 H locs la hC hP hS hL)
theorem zs_icmp_lt {x y : Int32} {off : Int} (tgt : Nat) (hd : decode cc pc = .ok (.if_icmp .lt off, 3)) (ht : (pc : Int) + off = (tgt : Int)) (kt : x < y → zWP own cc B tgt ls st w) (kf : ¬ x < y → zWP own cc B (pc + 3) ls st w) : zWP own cc B pc ls (.int y :: .int x :: st) w := by
  intro p l e s m args below meth c D ad c3 H locs la hC hP hS hL
  exact lv_icmp_lt hC.1 hC.2.1 hd ht (fun h => kt h p l e s m args below meth c D ad c3 H locs la hC hP hS hL) (fun h => kf h p l e s m args below meth c D ad c3 H locs la hC hP hS hL)
theorem zs_if_ge {x : Int32} {off : Int} (tgt : Nat) (hd : decode cc pc = .ok (.ifCond .ge off, 3)) (ht : (pc : Int) + off = (tgt : Int)) (kt : 0 ≤ x → zWP own cc B tgt ls st w) (kf : ¬ 0 ≤ x → zWP own cc B (pc + 3) ls st w) : zWP own cc B pc ls (.int x :: st) w := by
  intro p l e s m args below meth c D ad c3 H locs la hC hP hS hL
  exact lv_if_ge hC.1 hC.2.1 hd ht (fun h => kt h p l e s m args below meth c D ad c3 H locs la hC hP hS hL) (fun h => kf h p l e s m args below meth c D ad c3 H locs la hC hP hS hL)
theorem zs_icmp_ge {x y : Int32} {off : Int} (tgt : Nat) (hd : decode cc pc = .ok (.if_icmp .ge off, 3)) (ht : (pc : Int) + off = (tgt : Int)) (kt : y ≤ x → zWP own cc B tgt ls st w) (kf : ¬ y ≤ x → zWP own cc B (pc + 3) ls st w) : zWP own cc B pc ls (.int y :: .int x :: st) w := by
  intro p l e s m args below meth c D ad c3 H locs la hC hP hS hL
  exact lv_icmp_ge hC.1 hC.2.1 hd ht (fun h => kt h p l e s m args below meth c D ad c3 H locs la hC hP hS hL) (fun h => kf h p l e s m args below meth c D ad c3 H locs la hC hP hS hL)
theorem zs_if_gt {x : Int32} {off : Int} (tgt : Nat) (hd : decode cc pc = .ok (.ifCond .gt off, 3)) (ht : (pc : Int) + off = (tgt : Int)) (kt : 0 < x → zWP own cc B tgt ls st w) (kf : ¬ 0 < x → zWP own cc B (pc + 3) ls st w) : zWP own cc B pc ls (.int x :: st) w := by
  intro p l e s m args below meth c D ad c3 H locs la hC hP hS hL
  exact lv_if_gt hC.1 hC.2.1 hd ht (fun h => kt h p l e s m args below meth c D ad c3 H locs la hC hP hS hL) (fun h => kf h p l e s m args below meth c D ad c3 H locs la hC hP hS hL)
theorem zs_icmp_gt {x y : Int32} {off : Int} (tgt : Nat) (hd : decode cc pc = .ok (.if_icmp .gt off, 3)) (ht : (pc : Int) + off = (tgt : Int)) (kt : y < x → zWP own cc B tgt ls st w) (kf : ¬ y < x → zWP own cc B (pc + 3) ls st w) : zWP own cc B pc ls (.int y :: .int x :: st) w := by
  intro p l e s m args below meth c D ad c3 H locs la hC hP hS hL
  exact lv_icmp_gt hC.1 hC.2.1 hd ht (fun h => kt h p l e s m args below meth c D ad c3 H locs la hC hP hS hL) (fun h => kf h p l e s m args below meth c D ad c3 H locs la hC hP hS hL)
theorem zs_if_le {x : Int32} {off : Int} (tgt : Nat) (hd : decode cc pc = .ok (.ifCond .le off, 3)) (ht : (pc : Int) + off = (tgt : Int)) (kt : x ≤ 0 → zWP own cc B tgt ls st w) (kf : ¬ x ≤ 0 → zWP own cc B (pc + 3) ls st w) : zWP own cc B pc ls (.int x :: st) w := by
  intro p l e s m args below meth c D ad c3 H locs la hC hP hS hL
  exact lv_if_le hC.1 hC.2.1 hd ht (fun h => kt h p l e s m args below meth c D ad c3 H locs la hC hP hS hL) (fun h => kf h p l e s m args below meth c D ad c3 H locs la hC hP hS hL)
theorem zs_icmp_le {x y : Int32} {off : Int} (tgt : Nat) (hd : decode cc pc = .ok (.if_icmp .le off, 3)) (ht : (pc : Int) + off = (tgt : Int)) (kt : x ≤ y → zWP own cc B tgt ls st w) (kf : ¬ x ≤ y → zWP own cc B (pc + 3) ls st w) : zWP own cc B pc ls (.int y :: .int x :: st) w := by
  intro p l e s m args below meth c D ad c3 H locs la hC hP hS hL
  exact lv_icmp_le hC.1 hC.2.1 hd ht (fun h => kt h p l e s m args below meth c D ad c3 H locs la hC hP hS hL) (fun h => kf h p l e s m args below meth c D ad c3 H locs la hC hP hS hL)
theorem zs_istore_n {j : Fin 4} {x : Int32} (ls' : List (Option Value)) (hd : decode cc pc = .ok (.istore_n j, 1)) (hj : (j : Nat) < B.1) (hz : zok ls j = true) (hls : ls.set (j : Nat) (some (.int x)) = ls') (k : zWP own cc B (pc + 1) ls' st w) : zWP own cc B pc ls (.int x :: st) w := by
  intro p l e s m args below meth c D ad c3 H locs la hC hP hS hL
  exact lv_istore_n hC.1 hC.2.1 hd rfl hL.has hj rfl (fun la2 hl2 => k p l e s m args below meth c D ad c3 H locs la2 hC hP hS (hls ▸ hL.set1 hz rfl hl2))
theorem zs_istore {j : Nat} {x : Int32} (ls' : List (Option Value)) (hd : decode cc pc = .ok (.istore j, 2)) (hj : j < B.1) (hz : zok ls j = true) (hls : ls.set j (some (.int x)) = ls') (k : zWP own cc B (pc + 2) ls' st w) : zWP own cc B pc ls (.int x :: st) w := by
  intro p l e s m args below meth c D ad c3 H locs la hC hP hS hL
  exact lv_istore hC.1 hC.2.1 hd hL.has hj rfl (fun la2 hl2 => k p l e s m args below meth c D ad c3 H locs la2 hC hP hS (hls ▸ hL.set1 hz rfl hl2))
theorem zs_astore_n {j : Fin 4} {x : Nat} (ls' : List (Option Value)) (hd : decode cc pc = .ok (.astore_n j, 1)) (hj : (j : Nat) < B.1) (hz : zok ls j = true) (hls : ls.set (j : Nat) (some (.ref x)) = ls') (k : zWP own cc B (pc + 1) ls' st w) : zWP own cc B pc ls (.ref x :: st) w := by
  intro p l e s m args below meth c D ad c3 H locs la hC hP hS hL
  exact lv_astore_n hC.1 hC.2.1 hd rfl hL.has hj rfl (fun la2 hl2 => k p l e s m args below meth c D ad c3 H locs la2 hC hP hS (hls ▸ hL.set1 hz rfl hl2))
theorem zs_astore {j : Nat} {x : Nat} (ls' : List (Option Value)) (hd : decode cc pc = .ok (.astore j, 2)) (hj : j < B.1) (hz : zok ls j = true) (hls : ls.set j (some (.ref x)) = ls') (k : zWP own cc B (pc + 2) ls' st w) : zWP own cc B pc ls (.ref x :: st) w := by
  intro p l e s m args below meth c D ad c3 H locs la hC hP hS hL
  exact lv_astore hC.1 hC.2.1 hd hL.has hj rfl (fun la2 hl2 => k p l e s m args below meth c D ad c3 H locs la2 hC hP hS (hls ▸ hL.set1 hz rfl hl2))
theorem zs_astore_nN {j : Fin 4} (ls' : List (Option Value)) (hd : decode cc pc = .ok (.astore_n j, 1)) (hj : (j : Nat) < B.1) (hz : zok ls j = true) (hls : ls.set (j : Nat) (some .null) = ls') (k : zWP own cc B (pc + 1) ls' st w) : zWP own cc B pc ls (.null :: st) w := by
  intro p l e s m args below meth c D ad c3 H locs la hC hP hS hL
  exact lv_astore_nN hC.1 hC.2.1 hd rfl hL.has hj rfl (fun la2 hl2 => k p l e s m args below meth c D ad c3 H locs la2 hC hP hS (hls ▸ hL.set1 hz rfl hl2))
theorem zs_astoreN {j : Nat} (ls' : List (Option Value)) (hd : decode cc pc = .ok (.astore j, 2)) (hj : j < B.1) (hz : zok ls j = true) (hls : ls.set j (some .null) = ls') (k : zWP own cc B (pc + 2) ls' st w) : zWP own cc B pc ls (.null :: st) w := by
  intro p l e s m args below meth c D ad c3 H locs la hC hP hS hL
  exact lv_astoreN hC.1 hC.2.1 hd hL.has hj rfl (fun la2 hl2 => k p l e s m args below meth c D ad c3 H locs la2 hC hP hS (hls ▸ hL.set1 hz rfl hl2))
theorem zs_lstore_n {j : Fin 4} {x : Int64} (ls' : List (Option Value)) (hd : decode cc pc = .ok (.lstore_n j, 1)) (hj : (j : Nat) + 1 < B.1) (hz : zok ls j = true) (hls : (ls.set (j : Nat) (some (.long x))).set ((j : Nat) + 1) none = ls') (k : zWP own cc B (pc + 1) ls' st w) : zWP own cc B pc ls (.long x :: st) w := by
  intro p l e s m args below meth c D ad c3 H locs la hC hP hS hL
  exact lv_lstore_n hC.1 hC.2.1 hd rfl hL.has hj rfl (fun la2 hl2 => k p l e s m args below meth c D ad c3 H locs la2 hC hP hS (hls ▸ hL.set2 hz rfl hl2))
theorem zs_lstore {j : Nat} {x : Int64} (ls' : List (Option Value)) (hd : decode cc pc = .ok (.lstore j, 2)) (hj : j + 1 < B.1) (hz : zok ls j = true) (hls : (ls.set j (some (.long x))).set (j + 1) none = ls') (k : zWP own cc B (pc + 2) ls' st w) : zWP own cc B pc ls (.long x :: st) w := by
  intro p l e s m args below meth c D ad c3 H locs la hC hP hS hL
  exact lv_lstore hC.1 hC.2.1 hd hL.has hj rfl (fun la2 hl2 => k p l e s m args below meth c D ad c3 H locs la2 hC hP hS (hls ▸ hL.set2 hz rfl hl2))
theorem zs_iinc {j : Nat} {n : Int} {x : Int32} (v : Int32) (ls' : List (Option Value)) (hd : decode cc pc = .ok (.iinc j n, 3)) (hl : ls[j]? = some (some (.int x))) (hv : x + Int32.ofInt n = v) (hj : j < B.1) (hz : zok ls j = true) (hls : ls.set j (some (.int v)) = ls') (k : zWP own cc B (pc + 3) ls' st w) : zWP own cc B pc ls st w := by
  intro p l e s m args below meth c D ad c3 H locs la hC hP hS hL
  obtain ⟨i9, h9⟩ := List.getElem?_of_mem (zll_in ad hl)
  exact lv_iinc hC.1 hC.2.1 hd hL.has h9 hv hj rfl (fun la2 hl2 => k p l e s m args below meth c D ad c3 H locs la2 hC hP hS (hls ▸ hL.set1 hz rfl hl2))
end ZROWS
end
section
def zva (w : zW) (o k q : Nat) : Value := match q with
  | 0 => .int (w.1 o k)
  | 1 => .long (w.2 o k)
  | q + 2 => .ref q
theorem zval_tr (ad : Nat → Nat) (w : zW) (o k q : Nat) : zval ad w o k q = ztr ad (zva w o k q) := by
  match q with
  | 0 => rfl
  | 1 => rfl
  | q + 2 => rfl
theorem zfs_set {ad : Nat → Nat} {w w' : zW} {o : Nat} {k : Nat} {v : Value} : ∀ (qs : List Nat) (b : Nat), (∀ i q, qs[i]? = some q → b + i ≠ k → zval ad w' o (b + i) q = zval ad w o (b + i) q) → (∀ i q, qs[i]? = some q → b + i = k → zval ad w' o (b + i) q = v) → b ≤ k → (zfs ad w o b qs).set (k - b) v = zfs ad w' o b qs := by
  intro qs
  induction qs with
  | nil => intro b _ _ _; rfl
  | cons q qs ih =>
    intro b h1 h2 hb
    by_cases e : b = k
    · subst e
      have e1 : zval ad w' o b q = v := h2 0 q rfl rfl
      have e2 : zfs ad w o (b + 1) qs = zfs ad w' o (b + 1) qs := by
        apply List.ext_getElem?
        intro i
        rw [zfs_get, zfs_get]
        cases hq : qs[i]? with
        | none => rfl
        | some z => simp only [Option.map_some]; rw [show b + 1 + i = b + (i + 1) by omega, h1 (i + 1) z (by simpa using hq) (by omega)]
      simp [zfs, e1, e2]
    · have hs : k - b = (k - (b + 1)) + 1 := by omega
      have e1 : zval ad w' o b q = zval ad w o b q := h1 0 q rfl e
      have e2 := ih (b + 1) (fun i z hz hn => by rw [show b + 1 + i = b + (i + 1) by omega]; exact h1 (i + 1) z (by simpa using hz) (by omega)) (fun i z hz hn => by rw [show b + 1 + i = b + (i + 1) by omega]; exact h2 (i + 1) z (by simpa using hz) (by omega)) (by omega)
      rw [hs]
      simp [zfs, e1, e2]
theorem zfs_setI {ad : Nat → Nat} {w : zW} {o k : Nat} {x : Int32} {qs : List Nat} (hq : qs[k]? = some 0) : (zfs ad w o 0 qs).set k (.int x) = zfs ad (zsf w o k x) o 0 qs := by
  have := zfs_set (ad := ad) (w := w) (w' := zsf w o k x) (o := o) (k := k) (v := .int x) qs 0 (fun i q hi hn => by
    match q with
    | 0 => simp [zval, zsf]; intro h; omega
    | 1 => rfl
    | q + 2 => rfl) (fun i q hi hn => by
    have : i = k := by omega
    subst this
    rw [hq] at hi
    cases hi
    simp [zval, zsf]) (Nat.zero_le _)
  simpa using this
theorem zfs_setJ {ad : Nat → Nat} {w : zW} {o k : Nat} {x : Int64} {qs : List Nat} (hq : qs[k]? = some 1) : (zfs ad w o 0 qs).set k (.long x) = zfs ad (zsg w o k x) o 0 qs := by
  have := zfs_set (ad := ad) (w := w) (w' := zsg w o k x) (o := o) (k := k) (v := .long x) qs 0 (fun i q hi hn => by
    match q with
    | 0 => rfl
    | 1 => simp [zval, zsg]; intro h; omega
    | q + 2 => rfl) (fun i q hi hn => by
    have : i = k := by omega
    subst this
    rw [hq] at hi
    cases hi
    simp [zval, zsg]) (Nat.zero_le _)
  simpa using this
def zrd (w : zW) (o n : Nat) (i : Int32) : Option Int32 := if i < 0 ∨ n ≤ i.toNatClampNeg then none else some (w.1 o i.toNatClampNeg)
def zrl (w : zW) (o n : Nat) (i : Int32) : Option Int64 := if i < 0 ∨ n ≤ i.toNatClampNeg then none else some (w.2 o i.toNatClampNeg)
def zwr (w : zW) (o n : Nat) (i x : Int32) : Option zW := if i < 0 ∨ n ≤ i.toNatClampNeg then none else some (zsf w o i.toNatClampNeg x)
def zwl (w : zW) (o n : Nat) (i : Int32) (x : Int64) : Option zW := if i < 0 ∨ n ≤ i.toNatClampNeg then none else some (zsg w o i.toNatClampNeg x)
/-- an index of a row of N that nobody writes -/
def zix (n : Nat) (i : Int32) : Option Nat := if i < 0 ∨ n ≤ i.toNatClampNeg then none else some i.toNatClampNeg
def zgb (v : Int32) : Option Int32 := if v = 0 ∨ v = 1 then some v else none
def zdiv (x y : Int32) : Option Int32 := if y = 0 then none else some (x / y)
def zrem (x y : Int32) : Option Int32 := if y = 0 then none else some (x - x / y * y)
def zmin (x y : Int32) : Int32 := if y < x then y else x
def zmax (x y : Int32) : Int32 := if x < y then y else x
def zcpi (w : zW) (o1 n1 : Nat) (sp : Int32) (o2 n2 : Nat) (dp n : Int32) : Option zW :=
  if sp < 0 ∨ dp < 0 ∨ n < 0 ∨ n1 < sp.toNatClampNeg + n.toNatClampNeg ∨ n2 < dp.toNatClampNeg + n.toNatClampNeg then none else some (zcf w o2 (va_cpy (w.1 o1) (w.1 o2) sp.toNatClampNeg dp.toNatClampNeg n.toNatClampNeg))
def zcpl (w : zW) (o1 n1 : Nat) (sp : Int32) (o2 n2 : Nat) (dp n : Int32) : Option zW :=
  if sp < 0 ∨ dp < 0 ∨ n < 0 ∨ n1 < sp.toNatClampNeg + n.toNatClampNeg ∨ n2 < dp.toNatClampNeg + n.toNatClampNeg then none else some (zcg w o2 (va_cpy (w.2 o1) (w.2 o2) sp.toNatClampNeg dp.toNatClampNeg n.toNatClampNeg))
theorem zbind {α β : Type} {x : Option α} {f : α → Option β} {r : β} (h : x.bind f = some r) : ∃ a, x = some a ∧ f a = some r := by
  cases x with
  | none => cases h
  | some a => exact ⟨a, rfl, h⟩
theorem zite_t {α : Type} {c : Prop} [Decidable c] {a b r : α} (hc : c) (h : (if c then a else b) = r) : a = r := by rw [if_pos hc] at h; exact h
theorem zite_f {α : Type} {c : Prop} [Decidable c] {a b r : α} (hc : ¬ c) (h : (if c then a else b) = r) : b = r := by rw [if_neg hc] at h; exact h
section ZROWS2
variable {own : String} {cc : ByteArray} {B : zB} {pc : Nat} {ls : List (Option Value)} {st : List Value} {w : zW}
theorem zs_get {ci i k q o N : Nat} {C : String} {T : u_T} {fk : List Nat} (hc : vwCl[ci]? = some (C, T, N)) (hin : ∀ w ∈ u_ws C T N, w ∈ zT) (hk : k < N) (hl : Cond.fieldLink own i C (T k).2.1 (T k).2.2.1 ∈ zT) (hT : (T k).1 = C) (ha : zAt o (0, ci, fk)) (hq : fk[k]? = some q) (hd : decode cc pc = .ok (.getfield i, 3))
    {v : Value} (hv : zva w o k q = v) (kk : zWP own cc B (pc + 3) ls (v :: st) w) : zWP own cc B pc ls (.ref o :: st) w := by
  intro p l e s m args below meth c D ad c3 H locs la hC hP hS hL
  obtain ⟨j, hj⟩ := ha.ix
  have he := zws_get (ad := ad) (c3 := c3) (w := w) hj
  rw [ha.cell] at he
  refine va_get hC.1 hC.2.1 hC.2.2.2.2.2.2.1 hin hC.2.2.2.2.2.1 hC.2.2.2.2.2.2.2.2.1 hP j he hc k hk (hC.2.2.2.2.2.2.1 _ hl) (fun x h => hT ▸ h) (v := ztr ad v) ?_ hd (kk p l e s m args below meth c D ad c3 H locs la hC hP hS hL)
  rw [zfs_get, hq, ← hv]
  simp only [Option.map_some, Nat.zero_add]
  rw [zval_tr]
theorem zs_putI {ci i k o N : Nat} {C : String} {T : u_T} {fk : List Nat} (hc : vwCl[ci]? = some (C, T, N)) (hin : ∀ w ∈ u_ws C T N, w ∈ zT) (ty0 : Nat → FieldType) (hty : ∀ k, k < N → parseFieldDescriptor (T k).2.2.1 = some (ty0 k)) (hnm : ∀ a, a < N → ∀ b, b < N → a ≠ b → (T a).2.1 ≠ (T b).2.1) (hk : k < N) (hl : Cond.fieldLink own i C (T k).2.1 (T k).2.2.1 ∈ zT) (hT : (T k).1 = C) (hfin : (T k).2.2.2 = false) (ha : zAt o (0, ci, fk)) (hq : fk[k]? = some 0) (hd : decode cc pc = .ok (.putfield i, 3))
    {v : Int32} (hn : narrow (ty0 k) (.int v) = .int v) (hfit : fits (ty0 k) (.int v) = true) (kk : zWP own cc B (pc + 3) ls st (zsf w o k v)) : zWP own cc B pc ls (.int v :: .ref o :: st) w := by
  intro p l e s m args below meth c D ad c3 H locs la hC hP hS hL
  obtain ⟨j, hj⟩ := ha.ix
  have he := zws_get (ad := ad) (c3 := c3) (w := w) hj
  rw [ha.cell] at he
  refine va_put hC.1 hC.2.1 hC.2.2.2.2.2.2.1 hin ty0 hty hnm hC.2.2.2.2.2.1 hC.2.2.2.2.2.2.2.2.1 hP (zD hC.2.2.2.2.2.2.2.1 hC.2.2.2.2.2.2.2.2.2.2.1) hS j he hc k hk (hC.2.2.2.2.2.2.1 _ hl) (fun x h => hT ▸ h) hfin (hty k hk) hn hfit (by rw [zfs_len]; exact (List.getElem?_eq_some_iff.mp hq).1) hd (fun H1 locs1 h1 _ h3 => kk p l e s m args below meth c D ad c3 H1 locs1 la hC ?_ h3 hL)
  have e : (zws ad c3 w).set j (ad o, Sum.inr (ci, (zfs ad w o 0 fk).set k (.int v))) = zws ad c3 (zsf w o k v) := by
    rw [zfs_setI hq]
    have := zws_set (ad := ad) (c3 := c3) (w := w) (w' := zsf w o k v) hj zcell_sf
    rw [ha.cell] at this
    exact this
  exact e ▸ h1
theorem zs_putJ {ci i k o N : Nat} {C : String} {T : u_T} {fk : List Nat} (hc : vwCl[ci]? = some (C, T, N)) (hin : ∀ w ∈ u_ws C T N, w ∈ zT) (ty0 : Nat → FieldType) (hty : ∀ k, k < N → parseFieldDescriptor (T k).2.2.1 = some (ty0 k)) (hnm : ∀ a, a < N → ∀ b, b < N → a ≠ b → (T a).2.1 ≠ (T b).2.1) (hk : k < N) (hl : Cond.fieldLink own i C (T k).2.1 (T k).2.2.1 ∈ zT) (hT : (T k).1 = C) (hfin : (T k).2.2.2 = false) (ha : zAt o (0, ci, fk)) (hq : fk[k]? = some 1) (hd : decode cc pc = .ok (.putfield i, 3))
    {v : Int64} (hn : narrow (ty0 k) (.long v) = .long v) (hfit : fits (ty0 k) (.long v) = true) (kk : zWP own cc B (pc + 3) ls st (zsg w o k v)) : zWP own cc B pc ls (.long v :: .ref o :: st) w := by
  intro p l e s m args below meth c D ad c3 H locs la hC hP hS hL
  obtain ⟨j, hj⟩ := ha.ix
  have he := zws_get (ad := ad) (c3 := c3) (w := w) hj
  rw [ha.cell] at he
  refine va_put hC.1 hC.2.1 hC.2.2.2.2.2.2.1 hin ty0 hty hnm hC.2.2.2.2.2.1 hC.2.2.2.2.2.2.2.2.1 hP (zD hC.2.2.2.2.2.2.2.1 hC.2.2.2.2.2.2.2.2.2.2.1) hS j he hc k hk (hC.2.2.2.2.2.2.1 _ hl) (fun x h => hT ▸ h) hfin (hty k hk) hn hfit (by rw [zfs_len]; exact (List.getElem?_eq_some_iff.mp hq).1) hd (fun H1 locs1 h1 _ h3 => kk p l e s m args below meth c D ad c3 H1 locs1 la hC ?_ h3 hL)
  have e : (zws ad c3 w).set j (ad o, Sum.inr (ci, (zfs ad w o 0 fk).set k (.long v))) = zws ad c3 (zsg w o k v) := by
    rw [zfs_setJ hq]
    have := zws_set (ad := ad) (c3 := c3) (w := w) (w' := zsg w o k v) hj zcell_sg
    rw [ha.cell] at this
    exact this
  exact e ▸ h1
theorem zin {α : Type} {i : Int32} {n : Nat} {a : Option α} {v : α} (h : (if i < 0 ∨ n ≤ i.toNatClampNeg then none else a) = some v) : vp_in i n ∧ a = some v := by
  by_cases hc : i < 0 ∨ n ≤ i.toNatClampNeg
  · rw [if_pos hc] at h; cases h
  · rw [if_neg hc] at h; exact ⟨hc, h⟩
theorem zs_iald {o n : Nat} {i v : Int32} (hd : decode cc pc = .ok (.iaload, 1)) (ha : zAt o (1, n, [])) (h : zrd w o n i = some v) (kk : zWP own cc B (pc + 1) ls (.int v :: st) w) : zWP own cc B pc ls (.int i :: .ref o :: st) w := by
  intro p l e s m args below meth c D ad c3 H locs la hC hP hS hL
  obtain ⟨j, hj⟩ := ha.ix
  have he := zws_get (ad := ad) (c3 := c3) (w := w) hj
  rw [ha.cell] at he
  obtain ⟨h1, h2⟩ := zin h
  cases h2
  exact va_iald hC.1 hC.2.1 hC.2.2.2.2.2.2.2.2.1 hP j 0 he rfl h1 hd (kk p l e s m args below meth c D ad c3 H locs la hC hP hS hL)
theorem zs_lald {o n : Nat} {i : Int32} {v : Int64} (hd : decode cc pc = .ok (.laload, 1)) (ha : zAt o (2, n, [])) (h : zrl w o n i = some v) (kk : zWP own cc B (pc + 1) ls (.long v :: st) w) : zWP own cc B pc ls (.int i :: .ref o :: st) w := by
  intro p l e s m args below meth c D ad c3 H locs la hC hP hS hL
  obtain ⟨j, hj⟩ := ha.ix
  have he := zws_get (ad := ad) (c3 := c3) (w := w) hj
  rw [ha.cell] at he
  obtain ⟨h1, h2⟩ := zin h
  cases h2
  exact va_lald hC.1 hC.2.1 hC.2.2.2.2.2.2.2.2.1 hP j 1 he rfl h1 hd (kk p l e s m args below meth c D ad c3 H locs la hC hP hS hL)
theorem zs_iast {o n : Nat} {i v : Int32} {w' : zW} (hd : decode cc pc = .ok (.iastore, 1)) (ha : zAt o (1, n, [])) (h : zwr w o n i v = some w') (kk : zWP own cc B (pc + 1) ls st w') : zWP own cc B pc ls (.int v :: .int i :: .ref o :: st) w := by
  intro p l e s m args below meth c D ad c3 H locs la hC hP hS hL
  obtain ⟨j, hj⟩ := ha.ix
  have he := zws_get (ad := ad) (c3 := c3) (w := w) hj
  rw [ha.cell] at he
  obtain ⟨h1, h2⟩ := zin h
  cases h2
  refine va_iast hC.1 hC.2.1 hC.2.2.2.2.2.2.2.2.1 hP (zD hC.2.2.2.2.2.2.2.1 hC.2.2.2.2.2.2.2.2.2.2.1) hS j 0 he rfl h1 hd (fun H1 locs1 g1 _ g3 => kk p l e s m args below meth c D ad c3 H1 locs1 la hC ?_ g3 hL)
  have e : (zws ad c3 w).set j (ad o, Sum.inl (c3.1, n, .inl (upd (w.1 o) i.toNatClampNeg v))) = zws ad c3 (zsf w o i.toNatClampNeg v) := by
    have := zws_set (ad := ad) (c3 := c3) (w := w) (w' := zsf w o i.toNatClampNeg v) hj zcell_sf
    rw [ha.cell] at this
    rw [← this]
    have e2 : upd (w.1 o) i.toNatClampNeg v = (zsf w o i.toNatClampNeg v).1 o := by funext b; simp [upd, zsf]
    rw [e2]
    rfl
  exact e ▸ g1
theorem zs_last {o n : Nat} {i : Int32} {v : Int64} {w' : zW} (hd : decode cc pc = .ok (.lastore, 1)) (ha : zAt o (2, n, [])) (h : zwl w o n i v = some w') (kk : zWP own cc B (pc + 1) ls st w') : zWP own cc B pc ls (.long v :: .int i :: .ref o :: st) w := by
  intro p l e s m args below meth c D ad c3 H locs la hC hP hS hL
  obtain ⟨j, hj⟩ := ha.ix
  have he := zws_get (ad := ad) (c3 := c3) (w := w) hj
  rw [ha.cell] at he
  obtain ⟨h1, h2⟩ := zin h
  cases h2
  refine va_last hC.1 hC.2.1 hC.2.2.2.2.2.2.2.2.1 hP (zD hC.2.2.2.2.2.2.2.1 hC.2.2.2.2.2.2.2.2.2.2.1) hS j 1 he rfl h1 hd (fun H1 locs1 g1 _ g3 => kk p l e s m args below meth c D ad c3 H1 locs1 la hC ?_ g3 hL)
  have e : (zws ad c3 w).set j (ad o, Sum.inl (c3.2.1, n, .inr (.inl (vp_updL (w.2 o) i.toNatClampNeg v)))) = zws ad c3 (zsg w o i.toNatClampNeg v) := by
    have := zws_set (ad := ad) (c3 := c3) (w := w) (w' := zsg w o i.toNatClampNeg v) hj zcell_sg
    rw [ha.cell] at this
    rw [← this]
    have e2 : vp_updL (w.2 o) i.toNatClampNeg v = (zsg w o i.toNatClampNeg v).2 o := by funext b; simp [vp_updL, zsg]
    rw [e2]
    rfl
  exact e ▸ g1
theorem zs_aald {i : Int32} {n : Nat} (hd : decode cc pc = .ok (.aaload, 1)) (h : zix 4 i = some n) (kk : zWP own cc B (pc + 1) ls (.ref (50 + 2 * n) :: st) w) : zWP own cc B pc ls (.int i :: .ref 45 :: st) w := by
  intro p l e s m args below meth c D ad c3 H locs la hC hP hS hL
  have ha : zAt 45 (3, 4, [50, 52, 54, 56]) := ⟨by decide +kernel, by decide +kernel⟩
  obtain ⟨j, hj⟩ := ha.ix
  have he := zws_get (ad := ad) (c3 := c3) (w := w) hj
  rw [ha.cell] at he
  obtain ⟨h1, h2⟩ := zin h
  have h3 := kk p l e s m args below meth c D ad c3 H locs la hC hP hS hL
  refine va_aldq hC.1 hC.2.1 hC.2.2.2.2.2.2.2.2.1 hP j 2 he rfl h1 hd ?_
  have h4 : i.toNatClampNeg < 4 := Nat.lt_of_not_le (fun q => h1 (Or.inr q))
  cases h2
  have e : ∀ t : Nat, t < 4 → va_rf (([50, 52, 54, 56][t]?).map ad) = ztr ad (.ref (50 + 2 * t)) := by
    intro t ht
    match t, ht with
    | 0, _ => rfl
    | 1, _ => rfl
    | 2, _ => rfl
    | 3, _ => rfl
  rw [e _ h4]
  exact h3
end ZROWS2
end
section
theorem zT_of {w : Cond} (h : w ∈ tables_1) (hg : goodWord w = true) : w ∈ zT := List.mem_filter.mpr ⟨List.mem_append_right _ h, hg⟩
theorem zT_priv {q : MethodName × Nat} (h : q ∈ lw_privs) : Cond.selects q.1.cls q.1 q.1 ∈ zT := List.mem_filter.mpr ⟨List.mem_append_left _ (List.mem_map.mpr ⟨q, h, rfl⟩), rfl⟩
theorem zgood {w : Cond} (h : w ∈ zT) : (w.onTables && w.keeps) = true ∨ ∃ ty, w = .arrayClass ty := good_of_word (List.mem_filter.mp h).2
/-- what the tables say of a method -/
def zMo (y : MethodName) (cc : ByteArray) (nL : Nat) (ret : Option FieldType) (n : Nat) : Prop :=
  Cond.code y cc nL ret ∈ zT ∧ Cond.initialized y.cls ∈ zT ∧ (y.cls ≠ "java/lang/invoke/MethodHandle" ∧ y.cls ≠ "java/lang/invoke/VarHandle") ∧ (parseMethodDescriptor y.desc).map (fun d => d.parameters.length) = some n ∧ nL ≤ 21
theorem zMo.good {y : MethodName} {cc : ByteArray} {nL n : Nat} {ret : Option FieldType} (h : zMo y cc nL ret n) : GoodIn zT (Cond.code y cc nL ret :: zT) := by
  intro w hw
  rcases List.mem_cons.mp hw with rfl | hw
  · exact ⟨h.1, zgood h.1⟩
  · exact ⟨hw, zgood hw⟩
theorem zblind {D : va_G} {ad : Nat → Nat} {c3 : zC3} {as : List Value} {w : zW} : FrameBlind (zPc D ad c3 as w) := by
  intro a U g mk h
  obtain ⟨h0, h1, h2, h3⟩ := h
  exact ⟨h0, h1, va_K.moved (u := U) (U := U.calling g mk a) (Vm.Alike.refl U.vm) h2, zX.same (u := U) (U := U.calling g mk a) rfl h3⟩
section ZCALL
variable {own : String} {cc : ByteArray} {B : zB} {pc : Nat} {ls : List (Option Value)} {st : List Value} {w : zW}
/-- behind a call -/
theorem zs_back {p : Program} {l : Launch} {e : Env} {s : State} {m : MethodId} {args : Array Value} {below : List Frame} {meth : Method} {c : Code} {D : va_G} {ad : Nat → Nat} {c3 : zC3} {H : Heap} {locs : List Loc} {la : Array Slot} {st0 rest : List Value} {a : Array Value} {Qc : Option Value → zW → Prop}
    (hC : zCx own cc B p s m args meth c D ad c3) (hS : va_S (B.2.2.2.2.1 s ad) s.heap H locs) (hL : zL ad B.1 la ls)
    (hr : va_Run p l e B.2.2.1 s m args below meth c H locs B.2.2.2.1.1 B.2.2.2.1.2 0 0 (F0 m pc la st0) (rest.map (ztr ad)) (zQc D ad c3 Qc a) (zA ad))
    (kk : ∀ (r : Option Value) (w' : zW), Qc r w' → zWP own cc B (pc + 3) ls (r.toList ++ rest) w') : W p l e B.2.2.1 s m args below meth c H locs B.2.2.2.1.1 B.2.2.2.1.2 (B.2.2.2.2.2.2 s args below D ad c3) (F0 m pc la st0) := by
  intro T hT X
  obtain ⟨v, st₀, t, T', L, h0, X', hL', e1, e2, ⟨⟨r, w', hv, hq, hp⟩, hz, hk⟩, stp⟩ := hr T hT X
  cases hv
  rw [h0] at hz hk
  have hsub := hC.2.2.2.2.2.2.2.2.2.2.1
  have hS' : va_S (B.2.2.2.2.1 s ad) s.heap T'.heap (locs ++ L) := ⟨Nat.le_trans hS.1 (by rw [e1]; exact hz), fun q h1 h2 => by rw [e1, hk q (Nat.lt_of_lt_of_le h1 hS.1) (fun z => h2 (hsub q z))]; exact hS.2.1 q h1 h2, fun q hq => by
      rcases List.mem_append.mp hq with h | h
      · exact hS.2.2 q h
      · exact hsub _ (hL' q h)⟩
  have K := kk r w' hq p l e s m args below meth c D ad c3 T'.heap (locs ++ L) la hC (by rw [e1]; exact hp) hS' hL
  obtain ⟨t2, a1, b1⟩ := K T' rfl X'
  refine ⟨t2, stp t2 ?_, b1⟩
  cases r with
  | none => exact a1
  | some r => exact a1
theorem zs_pre {p : Program} {s : State} {m : MethodId} {args : Array Value} {meth : Method} {c : Code} {D : va_G} {ad : Nat → Nat} {c3 : zC3} {H : Heap} {locs : List Loc} {as : List Value} (hC : zCx own cc B p s m args meth c D ad c3) (hP : va_P D vwCl (zws ad c3 w) H) (hS : va_S (B.2.2.2.2.1 s ad) s.heap H locs) : ∀ U : State, U.heap = H → s.WarmedH U.vm → zPc D ad c3 as w (as.map (ztr ad)).toArray U := by
  intro U hU hW
  obtain ⟨hx, hb, hml, hr, hlk, hown, hts, hinj, hK, hX, hsub, hp0⟩ := hC
  exact ⟨rfl, by rw [hU]; exact hP, va_K.moved hW.alike hK, hX.go hW (fun a h1 h2 => by rw [hU]; exact hS.2.1 a h1 h2) hsub⟩
theorem zs_callV {y : MethodName} {cc' : ByteArray} {nL' n d i o ci N : Nat} {ret' : Option FieldType} {as rest : List Value} {Qc : Option Value → zW → Prop} {T : u_T} {fk : List Nat} (hm : zMo y cc' nL' ret' n) (hv : Cond.instanceMethod y ∈ zT ∧ Cond.selects y.cls y y ∈ zT) (hlk : Cond.methodLink own i y ∈ zT) (hci : vwCl[ci]? = some (y.cls, T, N))
    (hd : decode cc pc = .ok (.invokevirtual i, 3)) (ha : zAt o (0, ci, fk)) (hst : st = as.reverse ++ .ref o :: rest) (hn : as.length = n) (hcat : (rest.map fun v => v.category).sum ≤ 8) (hR : d + 1 ≤ B.2.2.1.frames ∧ 40 * d + 40 ≤ B.2.2.1.locals ∧ B.2.2.2.1.1 ≤ B.2.2.1.cells ∧ B.2.2.2.1.2 ≤ B.2.2.1.slots) (hrun : zRun y cc' nL' ret' d (.ref o :: as) w Qc)
    (kk : ∀ (r : Option Value) (w' : zW), Qc r w' → zWP own cc B (pc + 3) ls (r.toList ++ rest) w') : zWP own cc B pc ls st w := by
  intro p l e s m args below meth c D ad c3 H locs la hC hP hS hL
  obtain ⟨hx, hb, hml, hr, hlk', hown, hts, hinj, hK, hX, hsub, hp0⟩ := id hC
  obtain ⟨j, hj⟩ := ha.ix
  have he := zws_get (ad := ad) (c3 := c3) (w := w) hj
  rw [ha.cell] at he
  refine zs_back (Qc := Qc) hC hS hL (va_runV (As := as.map (ztr ad)) (b := ad o) (rest := rest.map (ztr ad)) (n := n) ⟨hx, hb, hml, hown, hts⟩ (hrun l D ad c3 hinj) (C := y.cls) (index := i) ⟨⟨rfl, rfl, hR.1, ?_, pay_in hts hm.good, List.mem_cons_self, hts _ hm.1, hts _ hm.2.1, hm.2.2.1, fun sig h => ?_, hts _ hlk⟩, hts _ hv.1, hts _ hv.2⟩ ⟨zblind, va_recv hK hP hci he, zs_pre (as := .ref o :: as) hC hP hS⟩ rfl (by rw [List.length_map]; exact hn) hL.1 ?_ ?_ hd ⟨hR.2.2.1, hR.2.2.2⟩) kk
  · have := hm.2.2.2.2
    show 8 + (nL' + 11) + 40 * d ≤ _
    have h2 := hR.2.1
    omega
  · have h2 := hm.2.2.2.1
    rw [h] at h2
    exact (Option.some.inj h2).symm
  · show st.map (ztr ad) = _
    rw [hst]
    simp [ztr]
  · refine lv_room ?_
    rw [List.map_map]
    have : ((fun v : Value => v.category) ∘ ztr ad) = fun v : Value => v.category := by funext v; exact ztr_cat ad v
    rw [this]
    exact hcat
theorem zs_callS {y : MethodName} {cc' : ByteArray} {nL' n d i : Nat} {ret' : Option FieldType} {as rest : List Value} {Qc : Option Value → zW → Prop} (hm : zMo y cc' nL' ret' n) (hv : Cond.static y ∈ zT) (hlk : Cond.methodLink own i y ∈ zT)
    (hd : decode cc pc = .ok (.invokestatic i, 3)) (hst : st = as.reverse ++ rest) (hn : as.length = n) (hcat : (rest.map fun v => v.category).sum ≤ 8) (hR : d + 1 ≤ B.2.2.1.frames ∧ 40 * d + 40 ≤ B.2.2.1.locals ∧ B.2.2.2.1.1 ≤ B.2.2.1.cells ∧ B.2.2.2.1.2 ≤ B.2.2.1.slots) (hrun : zRun y cc' nL' ret' d as w Qc)
    (kk : ∀ (r : Option Value) (w' : zW), Qc r w' → zWP own cc B (pc + 3) ls (r.toList ++ rest) w') : zWP own cc B pc ls st w := by
  intro p l e s m args below meth c D ad c3 H locs la hC hP hS hL
  obtain ⟨hx, hb, hml, hr, hlk', hown, hts, hinj, hK, hX, hsub, hp0⟩ := id hC
  refine zs_back (Qc := Qc) hC hS hL (va_runS (As := as.map (ztr ad)) (rest := rest.map (ztr ad)) (n := n) ⟨hx, hb, hml, hown, hts⟩ (hrun l D ad c3 hinj) (index := i) ⟨⟨rfl, rfl, hR.1, ?_, pay_in hts hm.good, List.mem_cons_self, hts _ hm.1, hts _ hm.2.1, hm.2.2.1, fun sig h => ?_, hts _ hlk⟩, hts _ hv⟩ ⟨zblind, zs_pre (as := as) hC hP hS⟩ rfl (by rw [List.length_map]; exact hn) hL.1 ?_ ?_ hd ⟨hR.2.2.1, hR.2.2.2⟩) kk
  · have := hm.2.2.2.2
    show 8 + (nL' + 11) + 40 * d ≤ _
    have h2 := hR.2.1
    omega
  · have h2 := hm.2.2.2.1
    rw [h] at h2
    exact (Option.some.inj h2).symm
  · show st.map (ztr ad) = _
    rw [hst]
    simp
  · refine lv_room ?_
    rw [List.map_map]
    have : ((fun v : Value => v.category) ∘ ztr ad) = fun v : Value => v.category := by funext v; exact ztr_cat ad v
    rw [this]
    exact hcat
/-- a virtual call of a String constant -/
theorem zs_callT {y : MethodName} {cc' : ByteArray} {nL' n d i k : Nat} {ret' : Option FieldType} {as rest : List Value} {Qc : Option Value → zW → Prop} (hm : zMo y cc' nL' ret' n) (hv : Cond.instanceMethod y ∈ zT ∧ Cond.selects y.cls y y ∈ zT) (hlk : Cond.methodLink own i y ∈ zT) (hci : y.cls = "java/lang/String")
    (hd : decode cc pc = .ok (.invokevirtual i, 3)) (hk : k < 13) (hst : st = as.reverse ++ .ref (100 + k) :: rest) (hn : as.length = n) (hcat : (rest.map fun v => v.category).sum ≤ 8) (hR : d + 1 ≤ B.2.2.1.frames ∧ 40 * d + 40 ≤ B.2.2.1.locals ∧ B.2.2.2.1.1 ≤ B.2.2.1.cells ∧ B.2.2.2.1.2 ≤ B.2.2.1.slots) (hrun : zRun y cc' nL' ret' d (.ref (100 + k) :: as) w Qc)
    (kk : ∀ (r : Option Value) (w' : zW), Qc r w' → zWP own cc B (pc + 3) ls (r.toList ++ rest) w') : zWP own cc B pc ls st w := by
  intro p l e s m args below meth c D ad c3 H locs la hC hP hS hL
  obtain ⟨hx, hb, hml, hr, hlk', hown, hts, hinj, hK, hX, hsub, hp0⟩ := id hC
  refine zs_back (Qc := Qc) hC hS hL (va_runV (As := as.map (ztr ad)) (b := ad (100 + k)) (rest := rest.map (ztr ad)) (n := n) ⟨hx, hb, hml, hown, hts⟩ (hrun l D ad c3 hinj) (C := y.cls) (index := i) ⟨⟨rfl, rfl, hR.1, ?_, pay_in hts hm.good, List.mem_cons_self, hts _ hm.1, hts _ hm.2.1, hm.2.2.1, fun sig h => ?_, hts _ hlk⟩, hts _ hv.1, hts _ hv.2⟩ ⟨zblind, by rw [hci]; exact vk_recv (i := k) (adK := fun k => ad (100 + k)) hX.1 hk hS, zs_pre (as := .ref (100 + k) :: as) hC hP hS⟩ rfl (by rw [List.length_map]; exact hn) hL.1 ?_ ?_ hd ⟨hR.2.2.1, hR.2.2.2⟩) kk
  · have := hm.2.2.2.2
    show 8 + (nL' + 11) + 40 * d ≤ _
    have h2 := hR.2.1
    omega
  · have h2 := hm.2.2.2.1
    rw [h] at h2
    exact (Option.some.inj h2).symm
  · show st.map (ztr ad) = _
    rw [hst]
    simp [ztr]
  · refine lv_room ?_
    rw [List.map_map]
    have : ((fun v : Value => v.category) ∘ ztr ad) = fun v : Value => v.category := by funext v; exact ztr_cat ad v
    rw [this]
    exact hcat
end ZCALL
section ZRET
variable {own : String} {cc : ByteArray} {pc nL d : Nat} {ls : List (Option Value)} {w : zW} {Q : Option Value → zW → Prop}
theorem zs_iret {v : Int32} (hd : decode cc pc = .ok (.ireturn, 1)) (hq : Q (some (.int v)) w) : zWP own cc (zMB nL (some .int) d Q) pc ls [.int v] w := by
  intro p l e s m args below meth c D ad c3 H locs la hC hP hS hL
  exact W.iret (v := v) hC.1 hC.2.1 hC.2.2.2.1 (fun t ht hW => ⟨⟨some (.int v), w, rfl, hq, by rw [ht]; exact hP⟩, hS.F ht⟩) hS.2.2 hd hC.2.2.2.2.1
theorem zs_zret {ty : FieldType} {v : Int32} (hd : decode cc pc = .ok (.ireturn, 1)) (hn : narrow ty (.int v) = .int v) (hq : Q (some (.int v)) w) : zWP own cc (zMB nL (some ty) d Q) pc ls [.int v] w := by
  intro p l e s m args below meth c D ad c3 H locs la hC hP hS hL
  exact W.zret (v := v) hC.1 hC.2.1 hC.2.2.2.1 hn (fun t ht hW => ⟨⟨some (.int v), w, rfl, hq, by rw [ht]; exact hP⟩, hS.F ht⟩) hS.2.2 hd hC.2.2.2.2.1
theorem zs_bret {v : Int32} (hd : decode cc pc = .ok (.ireturn, 1)) (hn : v = 0 ∨ v = 1) (hq : Q (some (.int v)) w) : zWP own cc (zMB nL (some .boolean) d Q) pc ls [.int v] w := zs_zret hd (by rcases hn with rfl | rfl <;> rfl) hq
theorem zs_lret {v : Int64} (hd : decode cc pc = .ok (.lreturn, 1)) (hq : Q (some (.long v)) w) : zWP own cc (zMB nL (some .long) d Q) pc ls [.long v] w := by
  intro p l e s m args below meth c D ad c3 H locs la hC hP hS hL
  exact W.lret (v := v) hC.1 hC.2.1 hC.2.2.2.1 (fun t ht hW => ⟨⟨some (.long v), w, rfl, hq, by rw [ht]; exact hP⟩, hS.F ht⟩) hS.2.2 hd hC.2.2.2.2.1
theorem zs_vret (hd : decode cc pc = .ok (.return_, 1)) (hq : Q none w) : zWP own cc (zMB nL none d Q) pc ls [] w := by
  intro p l e s m args below meth c D ad c3 H locs la hC hP hS hL
  exact W.vret hC.1 hC.2.1 hC.2.2.2.1 (fun t ht hW => ⟨⟨none, w, rfl, hq, by rw [ht]; exact hP⟩, hS.F ht⟩) hS.2.2 hd hC.2.2.2.2.1
theorem zs_aret {v : Option Nat} {n : String} (hd : decode cc pc = .ok (.areturn, 1)) (hq : Q (some (va_rf v)) w) : zWP own cc (zMB nL (some (.object n)) d Q) pc ls [va_rf v] w := by
  intro p l e s m args below meth c D ad c3 H locs la hC hP hS hL
  exact W.aret (v := ztr ad (va_rf v)) hC.1 hC.2.1 hC.2.2.2.1 (Or.inl ⟨n, rfl⟩) (by cases v with | none => exact Or.inl rfl | some a => exact Or.inr ⟨_, rfl⟩) (fun t ht hW => ⟨⟨some (va_rf v), w, rfl, hq, by rw [ht]; exact hP⟩, hS.F ht⟩) hS.2.2 hd hC.2.2.2.2.1
end ZRET
/-- the locals at a method's start -/
def zent : List Value → List (Option Value)
  | [] => []
  | v :: vs => if v.category = 2 then some v :: none :: zent vs else some v :: zent vs
theorem zent_in (ad : Nat → Nat) : ∀ (vs : List Value) (b i : Nat) (v : Value), (zent vs)[i]? = some (some v) → (b + i, ztr ad v) ∈ lv_args b (vs.map (ztr ad)) := by
  intro vs
  induction vs with
  | nil => intro b i v h; simp [zent] at h
  | cons x vs ih =>
    intro b i v h
    simp only [List.map_cons, lv_args, ztr_cat]
    unfold zent at h
    by_cases hc : x.category = 2
    · rw [if_pos hc] at h ⊢
      match i with
      | 0 => cases h; exact List.mem_cons_self
      | 1 => cases h
      | i + 2 =>
        have := ih (b + 2) i v (by simpa using h)
        rw [show b + 2 + i = b + (i + 2) by omega] at this
        exact List.mem_cons_of_mem _ this
    · rw [if_neg hc] at h ⊢
      match i with
      | 0 => cases h; exact List.mem_cons_self
      | i + 1 =>
        have := ih (b + 1) i v (by simpa using h)
        rw [show b + 1 + i = b + (i + 1) by omega] at this
        exact List.mem_cons_of_mem _ this
theorem zent_len (ad : Nat → Nat) : ∀ vs : List Value, (lg_sl (vs.map (ztr ad))).length = (zent vs).length := by
  intro vs
  induction vs with
  | nil => rfl
  | cons x vs ih =>
    unfold lg_sl at ih ⊢
    unfold zent
    simp only [List.map_cons, List.flatMap_cons, List.length_append, ztr_cat]
    by_cases hc : x.category = 2
    · rw [if_pos hc, if_pos hc]; simp only [List.length_cons, List.length_nil]; omega
    · rw [if_neg hc, if_neg hc]; simp only [List.length_cons, List.length_nil]; omega
theorem zRun.of {y : MethodName} {cc : ByteArray} {nL d k : Nat} {ret : Option FieldType} {as : List Value} {w : zW} {Q : Option Value → zW → Prop} {own : String} (hy : plainName y.cls = true) (ho : y.cls = own) (hk : (zent as).length + k = nL) (h : zWP own cc (zMB nL ret d Q) 0 (zent as ++ List.replicate k none) [] w) : zRun y cc nL ret d as w Q := by
  intro l D ad c3 hinj
  refine Met.ofW (cc := cc) (maxL := nL) (ret := ret) hy rfl ?_
  intro p e s m args below meth c s₁ B hml hv
  obtain ⟨rfl, hP, hK, hX⟩ := hv
  have hts := atoms_spec (ws := .code y cc nL ret :: zT) B.pre
  have hown : s.vm.findClass own = some m.cls := by rw [← ho]; exact findClass_of_methodNamed B.named
  have hlen : (lg_sl (as.map (ztr ad))).length ≤ nL := by rw [zent_len]; omega
  have hl := lv_entry (as.map (ztr ad)) (n := nL) hlen
  rw [lg_entry_eq]
  refine h p l e s m _ below meth c D ad c3 s.heap [] _ ⟨B.exec, B.bytes, hml, B.returns, B.notSynchronized, hown, fun w hw => hts w (List.mem_cons_of_mem _ hw), hinj, hK, hX, fun _ h => h, trivial⟩ hP va_S.rf ⟨hl.1, hl.2.1, fun i v hi => ?_⟩
  by_cases c1 : i < (zent as).length
  · rw [List.getElem?_append_left c1] at hi
    have := zent_in ad as 0 i v hi
    rw [Nat.zero_add] at this
    exact hl.2.2 _ this
  · rw [List.getElem?_append_right (by omega), List.getElem?_replicate] at hi
    split at hi <;> cases hi
end
section
section ZROWS4
variable {own : String} {cc : ByteArray} {B : zB} {pc : Nat} {ls : List (Option Value)} {st : List Value} {w : zW}
theorem zs_null (hd : decode cc pc = .ok (.aconst_null, 1)) (k : zWP own cc B (pc + 1) ls (.null :: st) w) : zWP own cc B pc ls st w := by
  intro p l e s m args below meth c D ad c3 H locs la hC hP hS hL
  exact lv_null hC.1 hC.2.1 hd (k p l e s m args below meth c D ad c3 H locs la hC hP hS hL)
theorem zcatsum (ad : Nat → Nat) (rest : List Value) : ((rest.map (ztr ad)).map fun v => v.category).sum = (rest.map fun v => v.category).sum := by
  rw [List.map_map]
  have : ((fun v : Value => v.category) ∘ ztr ad) = fun v : Value => v.category := by funext v; exact ztr_cat ad v
  rw [this]
theorem zs_max {i : Nat} {x y : Int32} (hlk : Cond.methodLink own i Lib.Math.max.name ∈ zT) (hst : Cond.static Lib.Math.max.name ∈ zT) (hin : Cond.initialized "java/lang/Math" ∈ zT) (hco : Cond.code Lib.Math.max.name Lib.Math.max.code 2 (some .int) ∈ zT) (hR : 1 ≤ B.2.2.1.frames ∧ 21 ≤ B.2.2.1.locals ∧ B.2.2.2.1.1 ≤ B.2.2.1.cells ∧ B.2.2.2.1.2 ≤ B.2.2.1.slots) (hcat : (st.map fun v => v.category).sum ≤ 8) (hd : decode cc pc = .ok (.invokestatic i, 3))
    (k : zWP own cc B (pc + 3) ls (.int (zmax x y) :: st) w) : zWP own cc B pc ls (.int y :: .int x :: st) w := by
  intro p l e s m args below meth c D ad c3 H locs la hC hP hS hL
  have hts := hC.2.2.2.2.2.2.1
  exact va_mmax hC.1 hC.2.1 (hC.2.2.1.trans hL.1.symm) hC.2.2.2.2.2.1 (hts _ hlk) (hts _ hst) (hts _ hin) (hts _ hco) hR.1 (by have h1 := zcatsum ad st; have h2 := hR.2.1; omega) hR.2.2.1 hR.2.2.2 hd (k p l e s m args below meth c D ad c3 H locs la hC hP hS hL)
theorem zs_min {i : Nat} {x y : Int32} (hlk : Cond.methodLink own i Lib.Math.min.name ∈ zT) (hst : Cond.static Lib.Math.min.name ∈ zT) (hin : Cond.initialized "java/lang/Math" ∈ zT) (hco : Cond.code Lib.Math.min.name Lib.Math.min.code 2 (some .int) ∈ zT) (hR : 1 ≤ B.2.2.1.frames ∧ 21 ≤ B.2.2.1.locals ∧ B.2.2.2.1.1 ≤ B.2.2.1.cells ∧ B.2.2.2.1.2 ≤ B.2.2.1.slots) (hcat : (st.map fun v => v.category).sum ≤ 8) (hd : decode cc pc = .ok (.invokestatic i, 3))
    (k : zWP own cc B (pc + 3) ls (.int (zmin x y) :: st) w) : zWP own cc B pc ls (.int y :: .int x :: st) w := by
  intro p l e s m args below meth c D ad c3 H locs la hC hP hS hL
  have hts := hC.2.2.2.2.2.2.1
  exact va_mmin hC.1 hC.2.1 (hC.2.2.1.trans hL.1.symm) hC.2.2.2.2.2.1 (hts _ hlk) (hts _ hst) (hts _ hin) (hts _ hco) hR.1 (by have h1 := zcatsum ad st; have h2 := hR.2.1; omega) hR.2.2.1 hR.2.2.2 hd (k p l e s m args below meth c D ad c3 H locs la hC hP hS hL)
theorem zcp_in {α : Type} {sp dp n : Int32} {n1 n2 : Nat} {a : Option α} {v : α} (h : (if sp < 0 ∨ dp < 0 ∨ n < 0 ∨ n1 < sp.toNatClampNeg + n.toNatClampNeg ∨ n2 < dp.toNatClampNeg + n.toNatClampNeg then none else a) = some v) : (¬ sp < 0 ∧ ¬ dp < 0 ∧ ¬ n < 0 ∧ sp.toNatClampNeg + n.toNatClampNeg ≤ n1 ∧ dp.toNatClampNeg + n.toNatClampNeg ≤ n2) ∧ a = some v := by
  by_cases hc : sp < 0 ∨ dp < 0 ∨ n < 0 ∨ n1 < sp.toNatClampNeg + n.toNatClampNeg ∨ n2 < dp.toNatClampNeg + n.toNatClampNeg
  · rw [if_pos hc] at h; cases h
  · rw [if_neg hc] at h
    exact ⟨⟨fun q => hc (Or.inl q), fun q => hc (Or.inr (Or.inl q)), fun q => hc (Or.inr (Or.inr (Or.inl q))), Nat.le_of_not_lt fun q => hc (Or.inr (Or.inr (Or.inr (Or.inl q)))), Nat.le_of_not_lt fun q => hc (Or.inr (Or.inr (Or.inr (Or.inr q))))⟩, h⟩
theorem zs_cpi {i o1 o2 n1 n2 : Nat} {sp dp n : Int32} {w' : zW} (hlk : Cond.methodLink own i arraycopyName ∈ zT) (hnat : Cond.native arraycopyName ∈ zT) (hst : Cond.static arraycopyName ∈ zT) (hin : Cond.initialized "java/lang/System" ∈ zT) (hR : 1 ≤ B.2.2.1.frames ∧ 40 ≤ B.2.2.1.locals) (hcat : (st.map fun v => v.category).sum ≤ 8) (hd : decode cc pc = .ok (.invokestatic i, 3)) (ha1 : zAt o1 (1, n1, [])) (ha2 : zAt o2 (1, n2, [])) (h : zcpi w o1 n1 sp o2 n2 dp n = some w')
    (k : zWP own cc B (pc + 3) ls st w') : zWP own cc B pc ls (.int n :: .int dp :: .ref o2 :: .int sp :: .ref o1 :: st) w := by
  intro p l e s m args below meth c D ad c3 H locs la hC hP hS hL
  have hts := hC.2.2.2.2.2.2.1
  obtain ⟨j1, hj1⟩ := ha1.ix
  have he1 := zws_get (ad := ad) (c3 := c3) (w := w) hj1
  rw [ha1.cell] at he1
  obtain ⟨j2, hj2⟩ := ha2.ix
  have he2 := zws_get (ad := ad) (c3 := c3) (w := w) hj2
  rw [ha2.cell] at he2
  obtain ⟨⟨g1, g2, g3, g4, g5⟩, h2⟩ := zcp_in h
  cases h2
  refine va_copyi hC.1 hC.2.1 (hC.2.2.1.trans hL.1.symm) hC.2.2.2.2.2.1 (hts _ hlk) (hts _ hnat) (hts _ hst) (hts _ hin) hC.2.2.2.2.2.2.2.2.1 hP (zD hC.2.2.2.2.2.2.2.1 hC.2.2.2.2.2.2.2.2.2.2.1) hS j1 j2 0 0 he1 he2 rfl rfl rfl g1 g2 g3 g4 g5 (fun _ _ => rfl) hR.1 ?_ hd (fun H1 locs1 q1 _ q3 => k p l e s m args below meth c D ad c3 H1 locs1 la hC ?_ q3 hL)
  · have h1 := zcatsum ad st
    have h2 := hR.2
    have h3 : nativeFrameWords "java/lang/System" "arraycopy" 5 + 11 ≤ 32 := by decide +kernel
    omega
  · have e2 := zws_set (ad := ad) (c3 := c3) (w := w) (w' := zcf w o2 (va_cpy (w.1 o1) (w.1 o2) sp.toNatClampNeg dp.toNatClampNeg n.toNatClampNeg)) hj2 zcell_cf
    rw [ha2.cell] at e2
    have e3 : (zcf w o2 (va_cpy (w.1 o1) (w.1 o2) sp.toNatClampNeg dp.toNatClampNeg n.toNatClampNeg)).1 o2 = va_cpy (w.1 o1) (w.1 o2) sp.toNatClampNeg dp.toNatClampNeg n.toNatClampNeg := by funext b; simp [zcf]
    rw [← e2]
    show va_P D vwCl ((zws ad c3 w).set j2 (ad o2, Sum.inl (c3.1, n2, .inl ((zcf w o2 (va_cpy (w.1 o1) (w.1 o2) sp.toNatClampNeg dp.toNatClampNeg n.toNatClampNeg)).1 o2)))) H1
    rw [e3]
    exact q1
theorem zs_cpl {i o1 o2 n1 n2 : Nat} {sp dp n : Int32} {w' : zW} (hlk : Cond.methodLink own i arraycopyName ∈ zT) (hnat : Cond.native arraycopyName ∈ zT) (hst : Cond.static arraycopyName ∈ zT) (hin : Cond.initialized "java/lang/System" ∈ zT) (hR : 1 ≤ B.2.2.1.frames ∧ 40 ≤ B.2.2.1.locals) (hcat : (st.map fun v => v.category).sum ≤ 8) (hd : decode cc pc = .ok (.invokestatic i, 3)) (ha1 : zAt o1 (2, n1, [])) (ha2 : zAt o2 (2, n2, [])) (h : zcpl w o1 n1 sp o2 n2 dp n = some w')
    (k : zWP own cc B (pc + 3) ls st w') : zWP own cc B pc ls (.int n :: .int dp :: .ref o2 :: .int sp :: .ref o1 :: st) w := by
  intro p l e s m args below meth c D ad c3 H locs la hC hP hS hL
  have hts := hC.2.2.2.2.2.2.1
  obtain ⟨j1, hj1⟩ := ha1.ix
  have he1 := zws_get (ad := ad) (c3 := c3) (w := w) hj1
  rw [ha1.cell] at he1
  obtain ⟨j2, hj2⟩ := ha2.ix
  have he2 := zws_get (ad := ad) (c3 := c3) (w := w) hj2
  rw [ha2.cell] at he2
  obtain ⟨⟨g1, g2, g3, g4, g5⟩, h2⟩ := zcp_in h
  cases h2
  refine va_copyl hC.1 hC.2.1 (hC.2.2.1.trans hL.1.symm) hC.2.2.2.2.2.1 (hts _ hlk) (hts _ hnat) (hts _ hst) (hts _ hin) hC.2.2.2.2.2.2.2.2.1 hP (zD hC.2.2.2.2.2.2.2.1 hC.2.2.2.2.2.2.2.2.2.2.1) hS j1 j2 1 1 he1 he2 rfl rfl rfl g1 g2 g3 g4 g5 (fun _ _ => rfl) hR.1 ?_ hd (fun H1 locs1 q1 _ q3 => k p l e s m args below meth c D ad c3 H1 locs1 la hC ?_ q3 hL)
  · have h1 := zcatsum ad st
    have h2 := hR.2
    have h3 : nativeFrameWords "java/lang/System" "arraycopy" 5 + 11 ≤ 32 := by decide +kernel
    omega
  · have e2 := zws_set (ad := ad) (c3 := c3) (w := w) (w' := zcg w o2 (va_cpy (w.2 o1) (w.2 o2) sp.toNatClampNeg dp.toNatClampNeg n.toNatClampNeg)) hj2 zcell_cg
    rw [ha2.cell] at e2
    have e3 : (zcg w o2 (va_cpy (w.2 o1) (w.2 o2) sp.toNatClampNeg dp.toNatClampNeg n.toNatClampNeg)).2 o2 = va_cpy (w.2 o1) (w.2 o2) sp.toNatClampNeg dp.toNatClampNeg n.toNatClampNeg := by funext b; simp [zcg]
    rw [← e2]
    show va_P D vwCl ((zws ad c3 w).set j2 (ad o2, Sum.inl (c3.2.1, n2, .inr (.inl ((zcg w o2 (va_cpy (w.2 o1) (w.2 o2) sp.toNatClampNeg dp.toNatClampNeg n.toNatClampNeg)).2 o2))))) H1
    rw [e3]
    exact q1
-- statics and String constants
theorem zs_above {i : Nat} (hl : Cond.fieldLink own i "DownhillPost$Post" "ABOVE" "[I" ∈ zT) (hd : decode cc pc = .ok (.getstatic i, 3)) (k : zWP own cc B (pc + 3) ls (.ref 80 :: st) w) : zWP own cc B pc ls st w := by
  intro p l e s m args below meth c D ad c3 H locs la hC hP hS hL
  exact va_gets hC.1 hC.2.1 hC.2.2.2.2.2.2.2.2.2.1.2.2.1 hS hC.2.2.2.2.2.1 (hC.2.2.2.2.2.2.1 _ hl) (fun _ h => h) hd (k p l e s m args below meth c D ad c3 H locs la hC hP hS hL)
def zrdA (i : Int32) : Option Int32 := if i < 0 ∨ 6 ≤ i.toNatClampNeg then none else some (zabove.getD i.toNatClampNeg 0)
theorem zs_aboveLd {i v : Int32} (hd : decode cc pc = .ok (.iaload, 1)) (h : zrdA i = some v) (k : zWP own cc B (pc + 1) ls (.int v :: st) w) : zWP own cc B pc ls (.int i :: .ref 80 :: st) w := by
  intro p l e s m args below meth c D ad c3 H locs la hC hP hS hL
  obtain ⟨h1, h2⟩ := zin h
  cases h2
  exact va_ti hC.1 hC.2.1 hC.2.2.2.2.2.2.2.2.2.1.2.2.2.1 hS h1 rfl hd (k p l e s m args below meth c D ad c3 H locs la hC hP hS hL)
theorem zs_aboveLen (hd : decode cc pc = .ok (.arraylength, 1)) (k : zWP own cc B (pc + 1) ls (.int 6 :: st) w) : zWP own cc B pc ls (.ref 80 :: st) w := by
  intro p l e s m args below meth c D ad c3 H locs la hC hP hS hL
  exact va_tlen hC.1 hC.2.1 hC.2.2.2.2.2.2.2.2.2.1.2.2.2.1 hS rfl hd (k p l e s m args below meth c D ad c3 H locs la hC hP hS hL)
theorem zs_ldcS {i q : Nat} {tx : String} (ho : own = RX1) (hz : zstr[q]? = some (i, tx)) (hd : decode cc pc = .ok (.ldc i, 2)) (k : zWP own cc B (pc + 2) ls (.ref (100 + q) :: st) w) : zWP own cc B pc ls st w := by
  subst ho
  intro p l e s m args below meth c D ad c3 H locs la hC hP hS hL
  exact va_ldcS hC.1 hC.2.1 hC.2.2.2.2.2.1 (hC.2.2.2.2.2.2.2.2.2.1.2.1 _ _ hz) hd (k p l e s m args below meth c D ad c3 H locs la hC hP hS hL)
theorem zs_strVal {i q : Nat} (hl : Cond.fieldLink own i "java/lang/String" "value" "[B" ∈ zT) (hq : q < 13) (hd : decode cc pc = .ok (.getfield i, 3)) (k : zWP own cc B (pc + 3) ls (.ref (200 + q) :: st) w) : zWP own cc B pc ls (.ref (100 + q) :: st) w := by
  intro p l e s m args below meth c D ad c3 H locs la hC hP hS hL
  exact vk_getf hC.1 hC.2.1 (hC.2.2.2.2.2.2.2.2.2.1.1.1 q hq).2.2.1 hS hC.2.2.2.2.2.1 (hC.2.2.2.2.2.2.1 _ hl) (fun _ h => h) hd (k p l e s m args below meth c D ad c3 H locs la hC hP hS hL)
theorem zs_strCoder {i q : Nat} (hl : Cond.fieldLink own i "java/lang/String" "coder" "B" ∈ zT) (hq : q < 13) (hd : decode cc pc = .ok (.getfield i, 3)) (k : zWP own cc B (pc + 3) ls (.int 0 :: st) w) : zWP own cc B pc ls (.ref (100 + q) :: st) w := by
  intro p l e s m args below meth c D ad c3 H locs la hC hP hS hL
  exact vk_getf hC.1 hC.2.1 (hC.2.2.2.2.2.2.2.2.2.1.1.1 q hq).2.1 hS hC.2.2.2.2.2.1 (hC.2.2.2.2.2.2.1 _ hl) (fun _ h => h) hd (k p l e s m args below meth c D ad c3 H locs la hC hP hS hL)
theorem zs_strLen {q : Nat} (hq : q < 13) (hd : decode cc pc = .ok (.arraylength, 1)) (k : zWP own cc B (pc + 1) ls (.int (Int32.ofNat (zlen.getD q 0)) :: st) w) : zWP own cc B pc ls (.ref (200 + q) :: st) w := by
  intro p l e s m args below meth c D ad c3 H locs la hC hP hS hL
  exact va_tlen hC.1 hC.2.1 (hC.2.2.2.2.2.2.2.2.2.1.1.1 q hq).2.2.2 hS rfl hd (k p l e s m args below meth c D ad c3 H locs la hC hP hS hL)
def zrdT (q : Nat) (i : Int32) : Option Int32 := if i < 0 ∨ zlen.getD q 0 ≤ i.toNatClampNeg then none else some ((zbyt.getD q []).getD i.toNatClampNeg 0)
theorem zs_strByte {q : Nat} {i v : Int32} (hq : q < 13) (hd : decode cc pc = .ok (.baload, 1)) (h : zrdT q i = some v) (k : zWP own cc B (pc + 1) ls (.int v :: st) w) : zWP own cc B pc ls (.int i :: .ref (200 + q) :: st) w := by
  intro p l e s m args below meth c D ad c3 H locs la hC hP hS hL
  obtain ⟨h1, h2⟩ := zin h
  cases h2
  exact va_tb hC.1 hC.2.1 (hC.2.2.2.2.2.2.2.2.2.1.1.1 q hq).2.2.2 hS h1 rfl hd (k p l e s m args below meth c D ad c3 H locs la hC hP hS hL)
theorem zs_compact {i : Nat} (hl : Cond.fieldLink own i "java/lang/String" "COMPACT_STRINGS" "Z" ∈ zT) (hd : decode cc pc = .ok (.getstatic i, 3)) (k : zWP own cc B (pc + 3) ls (.int 1 :: st) w) : zWP own cc B pc ls st w := by
  intro p l e s m args below meth c D ad c3 H locs la hC hP hS hL
  exact va_gets hC.1 hC.2.1 hC.2.2.2.2.2.2.2.2.2.1.2.2.2.2.1 hS hC.2.2.2.2.2.1 (hC.2.2.2.2.2.2.1 _ hl) (fun _ h => h) hd (k p l e s m args below meth c D ad c3 H locs la hC hP hS hL)
theorem zs_former {i : Nat} (hl : Cond.fieldLink own i "jdk/internal/util/Preconditions" "SIOOBE_FORMATTER" "Ljava/util/function/BiFunction;" ∈ zT) (hd : decode cc pc = .ok (.getstatic i, 3)) (k : ∀ v : Value, v = .null ∨ v = .ref 85 → zWP own cc B (pc + 3) ls (v :: st) w) : zWP own cc B pc ls st w := by
  intro p l e s m args below meth c D ad c3 H locs la hC hP hS hL
  rcases hC.2.2.2.2.2.2.2.2.2.1.2.2.2.2.2 with hz | hz
  · exact va_gets hC.1 hC.2.1 hz hS hC.2.2.2.2.2.1 (hC.2.2.2.2.2.2.1 _ hl) (fun _ h => h) hd (k .null (Or.inl rfl) p l e s m args below meth c D ad c3 H locs la hC hP hS hL)
  · exact va_gets hC.1 hC.2.1 hz hS hC.2.2.2.2.2.1 (hC.2.2.2.2.2.2.1 _ hl) (fun _ h => h) hd (k (.ref 85) (Or.inr rfl) p l e s m args below meth c D ad c3 H locs la hC hP hS hL)
-- switches
theorem zs_tswIn {dflt lo hi off : Int} {offs : Array Int} {len : Nat} {x : Int32} (v : Int32) (tgt : Nat) (hd : decode cc pc = .ok (.tableswitch dflt lo hi offs, len)) (hx : x = v) (h1 : ¬ v.toInt < lo) (h2 : ¬ hi < v.toInt) (ho : offs[(v.toInt - lo).toNat]? = some off) (ht : (pc : Int) + off = (tgt : Int)) (k : zWP own cc B tgt ls st w) : zWP own cc B pc ls (.int x :: st) w := by
  subst hx
  intro p l e s m args below meth c D ad c3 H locs la hC hP hS hL
  exact lv_tableIn hC.1 hC.2.1 hd h1 h2 ho ht (k p l e s m args below meth c D ad c3 H locs la hC hP hS hL)
theorem zs_tswOut {dflt lo hi : Int} {offs : Array Int} {len : Nat} {x : Int32} (tgt : Nat) (hd : decode cc pc = .ok (.tableswitch dflt lo hi offs, len)) (h : x.toInt < lo ∨ hi < x.toInt) (ht : (pc : Int) + dflt = (tgt : Int)) (k : zWP own cc B tgt ls st w) : zWP own cc B pc ls (.int x :: st) w := by
  intro p l e s m args below meth c D ad c3 H locs la hC hP hS hL
  exact lv_tableOut hC.1 hC.2.1 hd h ht (k p l e s m args below meth c D ad c3 H locs la hC hP hS hL)
theorem zs_lsw {dflt off : Int} {ps : Array (Int × Int)} {len : Nat} {x : Int32} (tgt : Nat) (hd : decode cc pc = .ok (.lookupswitch dflt ps, len)) (hp : (ps.toList.zip (ps.toList.drop 1)).all (fun (a, next) => a.1 < next.1) = true) (ho : Op.lookupswitch.offset ps.toList dflt x.toInt = off) (ht : (pc : Int) + off = (tgt : Int)) (k : zWP own cc B tgt ls st w) : zWP own cc B pc ls (.int x :: st) w := by
  intro p l e s m args below meth c D ad c3 H locs la hC hP hS hL
  exact lv_lookup hC.1 hC.2.1 hd hp ho ht (k p l e s m args below meth c D ad c3 H locs la hC hP hS hL)
end ZROWS4
/-- a number that is none of lo, lo + 1, .. hi lies outside -/
theorem zout {x : Int32} {n : Nat} {lo : Int} (h : ∀ i : Nat, i < n → x ≠ Int32.ofInt (lo + i)) : x.toInt < lo ∨ lo + n - 1 < x.toInt := by
  by_cases h1 : x.toInt < lo
  · exact Or.inl h1
  · by_cases h2 : lo + n - 1 < x.toInt
    · exact Or.inr h2
    · exfalso
      have h3 := h (x.toInt - lo).toNat (by omega)
      apply h3
      have e : lo + ((x.toInt - lo).toNat : Int) = x.toInt := by omega
      rw [e, Int32.ofInt_toInt]
end
section
theorem zin_ws {ws : List Cond} (ps : List Nat) (hp : ws = ps.filterMap (fun i => tables_1[i]?)) (hg : ws.all goodWord = true) : ∀ w ∈ ws, w ∈ zT := by
  intro w hw
  have h1 := List.all_eq_true.mp hg w hw
  rw [hp] at hw
  obtain ⟨i, -, hi⟩ := List.mem_filterMap.mp hw
  exact zT_of (List.mem_of_getElem? hi) h1
theorem inX0 : ∀ w ∈ u_ws RX0 TX0 15, w ∈ zT := zin_ws [66, 68, 70, 72, 74, 76, 78, 80, 82, 84, 86, 88, 90, 92, 94] (by decide +kernel) (by decide +kernel)
theorem inX3 : ∀ w ∈ u_ws RX3 TX3 3, w ∈ zT := zin_ws [176, 178, 180] (by decide +kernel) (by decide +kernel)
theorem inX4 : ∀ w ∈ u_ws RX4 TX4 6, w ∈ zT := zin_ws [150, 152, 154, 156, 158, 160] (by decide +kernel) (by decide +kernel)
theorem inX5 : ∀ w ∈ u_ws RX5 TX5 9, w ∈ zT := zin_ws [116, 118, 120, 122, 124, 126, 128, 130, 132] (by decide +kernel) (by decide +kernel)
theorem inX6 : ∀ w ∈ u_ws RX6 TX6 8, w ∈ zT := zin_ws [192, 194, 196, 198, 200, 202, 204, 206] (by decide +kernel) (by decide +kernel)
theorem inX7 : ∀ w ∈ u_ws RX7 TX7 21, w ∈ zT := zin_ws [908, 910, 912, 914, 916, 918, 920, 922, 924, 926, 928, 930, 932, 934, 936, 938, 940, 942, 944, 946, 948] (by decide +kernel) (by decide +kernel)
theorem za_L {o : Nat} (h : zIsLand o) : zAt o (0, 0, [0, o + 3, 0, 0, o + 4, o + 5, o + 6, 0, 0, 0, o + 7, o + 8, o + 9, o + 10, o + 11]) := by rcases h with rfl | rfl | rfl <;> exact ⟨by decide +kernel, by decide +kernel⟩
theorem za_L1 {o : Nat} (h : zIsLand o) : zAt (o + 1) (1, 12, []) := by rcases h with rfl | rfl | rfl <;> exact ⟨by decide +kernel, by decide +kernel⟩
theorem za_L2 {o : Nat} (h : zIsLand o) : zAt (o + 2) (1, 24, []) := by rcases h with rfl | rfl | rfl <;> exact ⟨by decide +kernel, by decide +kernel⟩
theorem za_L3 {o : Nat} (h : zIsLand o) : zAt (o + 3) (1, 24, []) := by rcases h with rfl | rfl | rfl <;> exact ⟨by decide +kernel, by decide +kernel⟩
theorem za_L4 {o : Nat} (h : zIsLand o) : zAt (o + 4) (1, 24, []) := by rcases h with rfl | rfl | rfl <;> exact ⟨by decide +kernel, by decide +kernel⟩
theorem za_L5 {o : Nat} (h : zIsLand o) : zAt (o + 5) (1, 10, []) := by rcases h with rfl | rfl | rfl <;> exact ⟨by decide +kernel, by decide +kernel⟩
theorem za_L6 {o : Nat} (h : zIsLand o) : zAt (o + 6) (1, 10, []) := by rcases h with rfl | rfl | rfl <;> exact ⟨by decide +kernel, by decide +kernel⟩
theorem za_L7 {o : Nat} (h : zIsLand o) : zAt (o + 7) (1, 10, []) := by rcases h with rfl | rfl | rfl <;> exact ⟨by decide +kernel, by decide +kernel⟩
theorem za_L8 {o : Nat} (h : zIsLand o) : zAt (o + 8) (1, 10, []) := by rcases h with rfl | rfl | rfl <;> exact ⟨by decide +kernel, by decide +kernel⟩
theorem za_L9 {o : Nat} (h : zIsLand o) : zAt (o + 9) (1, 10, []) := by rcases h with rfl | rfl | rfl <;> exact ⟨by decide +kernel, by decide +kernel⟩
theorem za_S {o : Nat} (h : zIsSheet o) : zAt o (0, 1, [0, 0, o + 3]) := by rcases h with rfl | rfl | rfl | rfl <;> exact ⟨by decide +kernel, by decide +kernel⟩
theorem za_S1 {o : Nat} (h : zIsSheet o) : zAt (o + 1) (2, 40, []) := by rcases h with rfl | rfl | rfl | rfl <;> exact ⟨by decide +kernel, by decide +kernel⟩
theorem za_0 : zAt 0 (0, 4, [12, 22, 32, 42, 45, 47, 48, 0]) := ⟨by decide +kernel, by decide +kernel⟩
theorem za_40 : zAt 40 (0, 3, [43, 44, 0, 0, 0, 0, 0, 0, 0]) := ⟨by decide +kernel, by decide +kernel⟩
theorem za_43 : zAt 43 (0, 2, [46, 0, 0, 0, 0, 0]) := ⟨by decide +kernel, by decide +kernel⟩
theorem za_60 : zAt 60 (0, 5, [63, 64, 65, 0, 0, 66, 67, 0, 0, 0, 0, 1, 0, 0, 68, 69, 70, 71, 72, 73, 0]) := ⟨by decide +kernel, by decide +kernel⟩
theorem za_41 : zAt 41 (1, 144, []) := ⟨by decide +kernel, by decide +kernel⟩
theorem za_42 : zAt 42 (1, 144, []) := ⟨by decide +kernel, by decide +kernel⟩
theorem za_44 : zAt 44 (1, 120, []) := ⟨by decide +kernel, by decide +kernel⟩
theorem za_46 : zAt 46 (1, 7, []) := ⟨by decide +kernel, by decide +kernel⟩
theorem za_61 : zAt 61 (1, 151, []) := ⟨by decide +kernel, by decide +kernel⟩
theorem za_62 : zAt 62 (1, 7, []) := ⟨by decide +kernel, by decide +kernel⟩
theorem za_63 : zAt 63 (1, 12, []) := ⟨by decide +kernel, by decide +kernel⟩
theorem za_64 : zAt 64 (1, 151, []) := ⟨by decide +kernel, by decide +kernel⟩
theorem za_65 : zAt 65 (1, 120, []) := ⟨by decide +kernel, by decide +kernel⟩
theorem za_66 : zAt 66 (1, 4, []) := ⟨by decide +kernel, by decide +kernel⟩
theorem za_67 : zAt 67 (1, 4, []) := ⟨by decide +kernel, by decide +kernel⟩
theorem za_68 : zAt 68 (2, 160, []) := ⟨by decide +kernel, by decide +kernel⟩
theorem za_69 : zAt 69 (2, 40, []) := ⟨by decide +kernel, by decide +kernel⟩
theorem za_70 : zAt 70 (1, 151, []) := ⟨by decide +kernel, by decide +kernel⟩
theorem za_71 : zAt 71 (1, 151, []) := ⟨by decide +kernel, by decide +kernel⟩
theorem zl_10 : zIsLand 10 := by unfold zIsLand; omega
theorem zl_20 : zIsLand 20 := by unfold zIsLand; omega
theorem zl_30 : zIsLand 30 := by unfold zIsLand; omega
theorem zl_sh {n : Nat} (h : n < 4) : zIsSheet (50 + 2 * n) := by unfold zIsSheet; omega
theorem zbipush_6 : (Int8.ofInt 6).toInt32 = (6 : Int32) := by decide +kernel
theorem zbipush_7 : (Int8.ofInt 7).toInt32 = (7 : Int32) := by decide +kernel
theorem zbipush_8 : (Int8.ofInt 8).toInt32 = (8 : Int32) := by decide +kernel
theorem zbipush_9 : (Int8.ofInt 9).toInt32 = (9 : Int32) := by decide +kernel
theorem zbipush_10 : (Int8.ofInt 10).toInt32 = (10 : Int32) := by decide +kernel
theorem zbipush_12 : (Int8.ofInt 12).toInt32 = (12 : Int32) := by decide +kernel
theorem zbipush_16 : (Int8.ofInt 16).toInt32 = (16 : Int32) := by decide +kernel
theorem zbipush_24 : (Int8.ofInt 24).toInt32 = (24 : Int32) := by decide +kernel
theorem zbipush_29 : (Int8.ofInt 29).toInt32 = (29 : Int32) := by decide +kernel
theorem zbipush_32 : (Int8.ofInt 32).toInt32 = (32 : Int32) := by decide +kernel
theorem zbipush_40 : (Int8.ofInt 40).toInt32 = (40 : Int32) := by decide +kernel
theorem zbipush_48 : (Int8.ofInt 48).toInt32 = (48 : Int32) := by decide +kernel
theorem zbipush_56 : (Int8.ofInt 56).toInt32 = (56 : Int32) := by decide +kernel
theorem zbipush_57 : (Int8.ofInt 57).toInt32 = (57 : Int32) := by decide +kernel
theorem zbipush_59 : (Int8.ofInt 59).toInt32 = (59 : Int32) := by decide +kernel
theorem zbipush_63 : (Int8.ofInt 63).toInt32 = (63 : Int32) := by decide +kernel
theorem zbipush_64 : (Int8.ofInt 64).toInt32 = (64 : Int32) := by decide +kernel
theorem zbipush_97 : (Int8.ofInt 97).toInt32 = (97 : Int32) := by decide +kernel
theorem zbipush_99 : (Int8.ofInt 99).toInt32 = (99 : Int32) := by decide +kernel
theorem zbipush_101 : (Int8.ofInt 101).toInt32 = (101 : Int32) := by decide +kernel
theorem zbipush_120 : (Int8.ofInt 120).toInt32 = (120 : Int32) := by decide +kernel
theorem zbipush_122 : (Int8.ofInt 122).toInt32 = (122 : Int32) := by decide +kernel
theorem ziconst_m1 : Int32.ofInt (-1) = (-1 : Int32) := by decide +kernel
theorem ziconst_0 : Int32.ofInt 0 = (0 : Int32) := by decide +kernel
theorem ziconst_1 : Int32.ofInt 1 = (1 : Int32) := by decide +kernel
theorem ziconst_2 : Int32.ofInt 2 = (2 : Int32) := by decide +kernel
theorem ziconst_3 : Int32.ofInt 3 = (3 : Int32) := by decide +kernel
theorem ziconst_4 : Int32.ofInt 4 = (4 : Int32) := by decide +kernel
theorem ziconst_5 : Int32.ofInt 5 = (5 : Int32) := by decide +kernel
theorem zsipush_144 : (Int16.ofInt 144).toInt32 = (144 : Int32) := by decide +kernel
theorem zsipush_151 : (Int16.ofInt 151).toInt32 = (151 : Int32) := by decide +kernel
theorem zsipush_160 : (Int16.ofInt 160).toInt32 = (160 : Int32) := by decide +kernel
theorem zsipush_200 : (Int16.ofInt 200).toInt32 = (200 : Int32) := by decide +kernel
theorem zsipush_255 : (Int16.ofInt 255).toInt32 = (255 : Int32) := by decide +kernel
theorem zsipush_999 : (Int16.ofInt 999).toInt32 = (999 : Int32) := by decide +kernel
theorem zsipush_9799 : (Int16.ofInt 9799).toInt32 = (9799 : Int32) := by decide +kernel
theorem zsipush_9999 : (Int16.ofInt 9999).toInt32 = (9999 : Int32) := by decide +kernel
theorem zsipush_10000 : (Int16.ofInt 10000).toInt32 = (10000 : Int32) := by decide +kernel
theorem kL_9 : Cond.methodLink RL 9 yX6_init ∈ zT := zT_of (List.mem_of_getElem? (i := 18) (by decide +kernel)) rfl
theorem kX5_18 : Cond.fieldLink RX5 18 "DownhillPost$Land" "villages" "I" ∈ zT := zT_of (List.mem_of_getElem? (i := 30) (by decide +kernel)) rfl
theorem kX0_43 : Cond.fieldLink RX0 43 "DownhillPost$Land" "villages" "I" ∈ zT := zT_of (List.mem_of_getElem? (i := 31) (by decide +kernel)) rfl
theorem kX1_113 : Cond.fieldLink RX1 113 "DownhillPost$Land" "villages" "I" ∈ zT := zT_of (List.mem_of_getElem? (i := 32) (by decide +kernel)) rfl
theorem kX6_119 : Cond.fieldLink RX6 119 "DownhillPost$Land" "villages" "I" ∈ zT := zT_of (List.mem_of_getElem? (i := 33) (by decide +kernel)) rfl
theorem kX0_9 : Cond.fieldLink RX0 9 "DownhillPost$Land" "heights" "[I" ∈ zT := zT_of (List.mem_of_getElem? (i := 34) (by decide +kernel)) rfl
theorem kX0_52 : Cond.fieldLink RX0 52 "DownhillPost$Land" "hermits" "I" ∈ zT := zT_of (List.mem_of_getElem? (i := 35) (by decide +kernel)) rfl
theorem kX0_55 : Cond.fieldLink RX0 55 "DownhillPost$Land" "roads" "I" ∈ zT := zT_of (List.mem_of_getElem? (i := 36) (by decide +kernel)) rfl
theorem kX5_60 : Cond.fieldLink RX5 60 "DownhillPost$Land" "roads" "I" ∈ zT := zT_of (List.mem_of_getElem? (i := 37) (by decide +kernel)) rfl
theorem kX6_322 : Cond.fieldLink RX6 322 "DownhillPost$Land" "roads" "I" ∈ zT := zT_of (List.mem_of_getElem? (i := 38) (by decide +kernel)) rfl
theorem kX0_15 : Cond.fieldLink RX0 15 "DownhillPost$Land" "ones" "[I" ∈ zT := zT_of (List.mem_of_getElem? (i := 39) (by decide +kernel)) rfl
theorem kX5_71 : Cond.fieldLink RX5 71 "DownhillPost$Land" "ones" "[I" ∈ zT := zT_of (List.mem_of_getElem? (i := 40) (by decide +kernel)) rfl
theorem kX6_106 : Cond.fieldLink RX6 106 "DownhillPost$Land" "ones" "[I" ∈ zT := zT_of (List.mem_of_getElem? (i := 41) (by decide +kernel)) rfl
theorem kX0_18 : Cond.fieldLink RX0 18 "DownhillPost$Land" "others" "[I" ∈ zT := zT_of (List.mem_of_getElem? (i := 42) (by decide +kernel)) rfl
theorem kX5_74 : Cond.fieldLink RX5 74 "DownhillPost$Land" "others" "[I" ∈ zT := zT_of (List.mem_of_getElem? (i := 43) (by decide +kernel)) rfl
theorem kX6_109 : Cond.fieldLink RX6 109 "DownhillPost$Land" "others" "[I" ∈ zT := zT_of (List.mem_of_getElem? (i := 44) (by decide +kernel)) rfl
theorem kX0_21 : Cond.fieldLink RX0 21 "DownhillPost$Land" "lengths" "[I" ∈ zT := zT_of (List.mem_of_getElem? (i := 45) (by decide +kernel)) rfl
theorem kX5_63 : Cond.fieldLink RX5 63 "DownhillPost$Land" "lengths" "[I" ∈ zT := zT_of (List.mem_of_getElem? (i := 46) (by decide +kernel)) rfl
theorem kX6_112 : Cond.fieldLink RX6 112 "DownhillPost$Land" "lengths" "[I" ∈ zT := zT_of (List.mem_of_getElem? (i := 47) (by decide +kernel)) rfl
theorem kX0_24 : Cond.fieldLink RX0 24 "DownhillPost$Land" "every" "I" ∈ zT := zT_of (List.mem_of_getElem? (i := 48) (by decide +kernel)) rfl
theorem kX5_44 : Cond.fieldLink RX5 44 "DownhillPost$Land" "every" "I" ∈ zT := zT_of (List.mem_of_getElem? (i := 49) (by decide +kernel)) rfl
theorem kX1_105 : Cond.fieldLink RX1 105 "DownhillPost$Land" "every" "I" ∈ zT := zT_of (List.mem_of_getElem? (i := 50) (by decide +kernel)) rfl
theorem kX6_115 : Cond.fieldLink RX6 115 "DownhillPost$Land" "every" "I" ∈ zT := zT_of (List.mem_of_getElem? (i := 51) (by decide +kernel)) rfl
theorem kX0_58 : Cond.fieldLink RX0 58 "DownhillPost$Land" "day" "I" ∈ zT := zT_of (List.mem_of_getElem? (i := 52) (by decide +kernel)) rfl
theorem kX6_150 : Cond.fieldLink RX6 150 "DownhillPost$Land" "day" "I" ∈ zT := zT_of (List.mem_of_getElem? (i := 53) (by decide +kernel)) rfl
theorem kX0_61 : Cond.fieldLink RX0 61 "DownhillPost$Land" "letters" "I" ∈ zT := zT_of (List.mem_of_getElem? (i := 54) (by decide +kernel)) rfl
theorem kX6_231 : Cond.fieldLink RX6 231 "DownhillPost$Land" "letters" "I" ∈ zT := zT_of (List.mem_of_getElem? (i := 55) (by decide +kernel)) rfl
theorem kX0_28 : Cond.fieldLink RX0 28 "DownhillPost$Land" "kinds" "[I" ∈ zT := zT_of (List.mem_of_getElem? (i := 56) (by decide +kernel)) rfl
theorem kX6_199 : Cond.fieldLink RX6 199 "DownhillPost$Land" "kinds" "[I" ∈ zT := zT_of (List.mem_of_getElem? (i := 57) (by decide +kernel)) rfl
theorem kX0_31 : Cond.fieldLink RX0 31 "DownhillPost$Land" "places" "[I" ∈ zT := zT_of (List.mem_of_getElem? (i := 58) (by decide +kernel)) rfl
theorem kX6_202 : Cond.fieldLink RX6 202 "DownhillPost$Land" "places" "[I" ∈ zT := zT_of (List.mem_of_getElem? (i := 59) (by decide +kernel)) rfl
theorem kX0_34 : Cond.fieldLink RX0 34 "DownhillPost$Land" "goals" "[I" ∈ zT := zT_of (List.mem_of_getElem? (i := 60) (by decide +kernel)) rfl
theorem kX6_205 : Cond.fieldLink RX6 205 "DownhillPost$Land" "goals" "[I" ∈ zT := zT_of (List.mem_of_getElem? (i := 61) (by decide +kernel)) rfl
theorem kX0_37 : Cond.fieldLink RX0 37 "DownhillPost$Land" "sents" "[I" ∈ zT := zT_of (List.mem_of_getElem? (i := 62) (by decide +kernel)) rfl
theorem kX6_208 : Cond.fieldLink RX6 208 "DownhillPost$Land" "sents" "[I" ∈ zT := zT_of (List.mem_of_getElem? (i := 63) (by decide +kernel)) rfl
theorem kX0_40 : Cond.fieldLink RX0 40 "DownhillPost$Land" "lefts" "[I" ∈ zT := zT_of (List.mem_of_getElem? (i := 64) (by decide +kernel)) rfl
theorem kX6_211 : Cond.fieldLink RX6 211 "DownhillPost$Land" "lefts" "[I" ∈ zT := zT_of (List.mem_of_getElem? (i := 65) (by decide +kernel)) rfl
theorem kX5_9 : Cond.fieldLink RX5 9 "DownhillPost$Ways" "steps" "[I" ∈ zT := zT_of (List.mem_of_getElem? (i := 104) (by decide +kernel)) rfl
theorem kX5_15 : Cond.fieldLink RX5 15 "DownhillPost$Ways" "downs" "[I" ∈ zT := zT_of (List.mem_of_getElem? (i := 105) (by decide +kernel)) rfl
theorem kX5_30 : Cond.fieldLink RX5 30 "DownhillPost$Ways" "villages" "I" ∈ zT := zT_of (List.mem_of_getElem? (i := 106) (by decide +kernel)) rfl
theorem kX5_35 : Cond.fieldLink RX5 35 "DownhillPost$Ways" "sea" "I" ∈ zT := zT_of (List.mem_of_getElem? (i := 107) (by decide +kernel)) rfl
theorem kX5_41 : Cond.fieldLink RX5 41 "DownhillPost$Ways" "peak" "I" ∈ zT := zT_of (List.mem_of_getElem? (i := 108) (by decide +kernel)) rfl
theorem kX5_50 : Cond.fieldLink RX5 50 "DownhillPost$Ways" "every" "I" ∈ zT := zT_of (List.mem_of_getElem? (i := 109) (by decide +kernel)) rfl
theorem kX5_55 : Cond.fieldLink RX5 55 "DownhillPost$Ways" "balloon" "Z" ∈ zT := zT_of (List.mem_of_getElem? (i := 110) (by decide +kernel)) rfl
theorem kX5_125 : Cond.fieldLink RX5 125 "DownhillPost$Ways" "stop" "I" ∈ zT := zT_of (List.mem_of_getElem? (i := 111) (by decide +kernel)) rfl
theorem kX6_225 : Cond.fieldLink RX6 225 "DownhillPost$Ways" "stop" "I" ∈ zT := zT_of (List.mem_of_getElem? (i := 112) (by decide +kernel)) rfl
theorem kX0_124 : Cond.fieldLink RX0 124 "DownhillPost$Ways" "stop" "I" ∈ zT := zT_of (List.mem_of_getElem? (i := 113) (by decide +kernel)) rfl
theorem kX5_128 : Cond.fieldLink RX5 128 "DownhillPost$Ways" "stopDays" "I" ∈ zT := zT_of (List.mem_of_getElem? (i := 114) (by decide +kernel)) rfl
theorem kX0_127 : Cond.fieldLink RX0 127 "DownhillPost$Ways" "stopDays" "I" ∈ zT := zT_of (List.mem_of_getElem? (i := 115) (by decide +kernel)) rfl
theorem kX4_9 : Cond.fieldLink RX4 9 "DownhillPost$Tape" "bytes" "[I" ∈ zT := zT_of (List.mem_of_getElem? (i := 141) (by decide +kernel)) rfl
theorem kX4_15 : Cond.fieldLink RX4 15 "DownhillPost$Tape" "length" "I" ∈ zT := zT_of (List.mem_of_getElem? (i := 142) (by decide +kernel)) rfl
theorem kX6_248 : Cond.fieldLink RX6 248 "DownhillPost$Tape" "length" "I" ∈ zT := zT_of (List.mem_of_getElem? (i := 143) (by decide +kernel)) rfl
theorem kX1_20 : Cond.fieldLink RX1 20 "DownhillPost$Tape" "start" "I" ∈ zT := zT_of (List.mem_of_getElem? (i := 144) (by decide +kernel)) rfl
theorem kX4_25 : Cond.fieldLink RX4 25 "DownhillPost$Tape" "start" "I" ∈ zT := zT_of (List.mem_of_getElem? (i := 145) (by decide +kernel)) rfl
theorem kX4_19 : Cond.fieldLink RX4 19 "DownhillPost$Tape" "end" "I" ∈ zT := zT_of (List.mem_of_getElem? (i := 146) (by decide +kernel)) rfl
theorem kX4_35 : Cond.fieldLink RX4 35 "DownhillPost$Tape" "sort" "I" ∈ zT := zT_of (List.mem_of_getElem? (i := 147) (by decide +kernel)) rfl
theorem kX1_75 : Cond.fieldLink RX1 75 "DownhillPost$Tape" "value" "I" ∈ zT := zT_of (List.mem_of_getElem? (i := 148) (by decide +kernel)) rfl
theorem kX4_44 : Cond.fieldLink RX4 44 "DownhillPost$Tape" "value" "I" ∈ zT := zT_of (List.mem_of_getElem? (i := 149) (by decide +kernel)) rfl
theorem kX3_15 : Cond.fieldLink RX3 15 "DownhillPost$Sheet" "bits" "I" ∈ zT := zT_of (List.mem_of_getElem? (i := 170) (by decide +kernel)) rfl
theorem kX6_290 : Cond.fieldLink RX6 290 "DownhillPost$Sheet" "bits" "I" ∈ zT := zT_of (List.mem_of_getElem? (i := 171) (by decide +kernel)) rfl
theorem kX3_28 : Cond.fieldLink RX3 28 "DownhillPost$Sheet" "size" "I" ∈ zT := zT_of (List.mem_of_getElem? (i := 172) (by decide +kernel)) rfl
theorem kX6_272 : Cond.fieldLink RX6 272 "DownhillPost$Sheet" "size" "I" ∈ zT := zT_of (List.mem_of_getElem? (i := 173) (by decide +kernel)) rfl
theorem kX3_9 : Cond.fieldLink RX3 9 "DownhillPost$Sheet" "numbers" "[J" ∈ zT := zT_of (List.mem_of_getElem? (i := 174) (by decide +kernel)) rfl
theorem kX6_296 : Cond.fieldLink RX6 296 "DownhillPost$Sheet" "numbers" "[J" ∈ zT := zT_of (List.mem_of_getElem? (i := 175) (by decide +kernel)) rfl
theorem kX6_10 : Cond.fieldLink RX6 10 "DownhillPost" "land" "LDownhillPost$Land;" ∈ zT := zT_of (List.mem_of_getElem? (i := 184) (by decide +kernel)) rfl
theorem kX6_16 : Cond.fieldLink RX6 16 "DownhillPost" "kept" "LDownhillPost$Land;" ∈ zT := zT_of (List.mem_of_getElem? (i := 185) (by decide +kernel)) rfl
theorem kX6_19 : Cond.fieldLink RX6 19 "DownhillPost" "draft" "LDownhillPost$Land;" ∈ zT := zT_of (List.mem_of_getElem? (i := 186) (by decide +kernel)) rfl
theorem kX6_25 : Cond.fieldLink RX6 25 "DownhillPost" "ways" "LDownhillPost$Ways;" ∈ zT := zT_of (List.mem_of_getElem? (i := 187) (by decide +kernel)) rfl
theorem kX6_32 : Cond.fieldLink RX6 32 "DownhillPost" "tape" "LDownhillPost$Tape;" ∈ zT := zT_of (List.mem_of_getElem? (i := 188) (by decide +kernel)) rfl
theorem kX6_38 : Cond.fieldLink RX6 38 "DownhillPost" "sheets" "[LDownhillPost$Sheet;" ∈ zT := zT_of (List.mem_of_getElem? (i := 189) (by decide +kernel)) rfl
theorem kX6_42 : Cond.fieldLink RX6 42 "DownhillPost" "tally" "[I" ∈ zT := zT_of (List.mem_of_getElem? (i := 190) (by decide +kernel)) rfl
theorem kX6_318 : Cond.fieldLink RX6 318 "DownhillPost" "imageKept" "Z" ∈ zT := zT_of (List.mem_of_getElem? (i := 191) (by decide +kernel)) rfl
theorem kL_13 : Cond.methodLink RL 13 yX6_village ∈ zT := zT_of (List.mem_of_getElem? (i := 209) (by decide +kernel)) rfl
theorem kX6_47 : Cond.methodLink RX6 47 yX6_isHeight ∈ zT := zT_of (List.mem_of_getElem? (i := 213) (by decide +kernel)) rfl
theorem kX6_51 : Cond.constant RX6 51 (-1000000001 : Int32) ∈ zT := zT_of (List.mem_of_getElem? (i := 216) (by decide +kernel)) rfl
theorem kX6_52 : Cond.methodLink RX6 52 yX6_finding ∈ zT := zT_of (List.mem_of_getElem? (i := 217) (by decide +kernel)) rfl
theorem kX6_56 : Cond.methodLink RX6 56 yX0_villagesFull ∈ zT := zT_of (List.mem_of_getElem? (i := 221) (by decide +kernel)) rfl
theorem kX6_60 : Cond.constant RX6 60 (-1000000002 : Int32) ∈ zT := zT_of (List.mem_of_getElem? (i := 225) (by decide +kernel)) rfl
theorem kX6_61 : Cond.methodLink RX6 61 yX0_addVillage ∈ zT := zT_of (List.mem_of_getElem? (i := 226) (by decide +kernel)) rfl
theorem kX0_64 : Cond.methodLink RX0 64 yX0_villagesFull ∈ zT := zT_of (List.mem_of_getElem? (i := 230) (by decide +kernel)) rfl
theorem kX0_68 : Cond.methodLink RX0 68 yX0_setHermits ∈ zT := zT_of (List.mem_of_getElem? (i := 231) (by decide +kernel)) rfl
theorem kX0_78 : Cond.methodLink RX0 78 yX0_hasVillage ∈ zT := zT_of (List.mem_of_getElem? (i := 235) (by decide +kernel)) rfl
theorem kL_18 : Cond.methodLink RL 18 yX6_villageOf ∈ zT := zT_of (List.mem_of_getElem? (i := 239) (by decide +kernel)) rfl
theorem kX6_65 : Cond.methodLink RX6 65 yX0_hasVillage ∈ zT := zT_of (List.mem_of_getElem? (i := 243) (by decide +kernel)) rfl
theorem kX6_68 : Cond.methodLink RX6 68 yX0_heightOf ∈ zT := zT_of (List.mem_of_getElem? (i := 244) (by decide +kernel)) rfl
theorem kX6_71 : Cond.methodLink RX6 71 yX0_isHermits ∈ zT := zT_of (List.mem_of_getElem? (i := 248) (by decide +kernel)) rfl
theorem kX6_74 : Cond.methodLink RX6 74 yX0_roadsOf ∈ zT := zT_of (List.mem_of_getElem? (i := 252) (by decide +kernel)) rfl
theorem kX6_77 : Cond.methodLink RX6 77 yX0_lettersIn ∈ zT := zT_of (List.mem_of_getElem? (i := 256) (by decide +kernel)) rfl
theorem kX0_112 : Cond.methodLink RX0 112 yX0_liesIn ∈ zT := zT_of (List.mem_of_getElem? (i := 260) (by decide +kernel)) rfl
theorem kX0_109 : Cond.methodLink RX0 109 yX0_hasLetter ∈ zT := zT_of (List.mem_of_getElem? (i := 264) (by decide +kernel)) rfl
theorem kL_23 : Cond.methodLink RL 23 yX6_slide ∈ zT := zT_of (List.mem_of_getElem? (i := 268) (by decide +kernel)) rfl
theorem kX6_80 : Cond.methodLink RX6 80 yX0_setHeight ∈ zT := zT_of (List.mem_of_getElem? (i := 272) (by decide +kernel)) rfl
theorem kL_27 : Cond.methodLink RL 27 yX6_hermit ∈ zT := zT_of (List.mem_of_getElem? (i := 276) (by decide +kernel)) rfl
theorem kX6_84 : Cond.methodLink RX6 84 yX0_setHermits ∈ zT := zT_of (List.mem_of_getElem? (i := 280) (by decide +kernel)) rfl
theorem kL_32 : Cond.methodLink RL 32 yX6_road ∈ zT := zT_of (List.mem_of_getElem? (i := 281) (by decide +kernel)) rfl
theorem kX6_88 : Cond.methodLink RX6 88 yX6_areUnlikeVillages ∈ zT := zT_of (List.mem_of_getElem? (i := 285) (by decide +kernel)) rfl
theorem kX6_143 : Cond.methodLink RX6 143 yX6_areVillages ∈ zT := zT_of (List.mem_of_getElem? (i := 289) (by decide +kernel)) rfl
theorem kX6_92 : Cond.methodLink RX6 92 yX0_areJoined ∈ zT := zT_of (List.mem_of_getElem? (i := 293) (by decide +kernel)) rfl
theorem kX6_95 : Cond.constant RX6 95 (-1000000005 : Int32) ∈ zT := zT_of (List.mem_of_getElem? (i := 297) (by decide +kernel)) rfl
theorem kX6_96 : Cond.methodLink RX6 96 yX0_roadsFull ∈ zT := zT_of (List.mem_of_getElem? (i := 298) (by decide +kernel)) rfl
theorem kX6_99 : Cond.methodLink RX6 99 yX0_addRoad ∈ zT := zT_of (List.mem_of_getElem? (i := 302) (by decide +kernel)) rfl
theorem kX0_72 : Cond.methodLink RX0 72 yX0_roadsFull ∈ zT := zT_of (List.mem_of_getElem? (i := 306) (by decide +kernel)) rfl
theorem kL_37 : Cond.methodLink RL 37 yX6_roadOf ∈ zT := zT_of (List.mem_of_getElem? (i := 307) (by decide +kernel)) rfl
theorem kX6_103 : Cond.methodLink RX6 103 yX0_hasRoad ∈ zT := zT_of (List.mem_of_getElem? (i := 311) (by decide +kernel)) rfl
theorem kL_41 : Cond.methodLink RL 41 yX6_every ∈ zT := zT_of (List.mem_of_getElem? (i := 315) (by decide +kernel)) rfl
theorem kL_45 : Cond.methodLink RL 45 yX6_sea ∈ zT := zT_of (List.mem_of_getElem? (i := 319) (by decide +kernel)) rfl
theorem kX6_122 : Cond.constant RX6 122 (-1000000004 : Int32) ∈ zT := zT_of (List.mem_of_getElem? (i := 323) (by decide +kernel)) rfl
theorem kX6_123 : Cond.methodLink RX6 123 yX0_lowest ∈ zT := zT_of (List.mem_of_getElem? (i := 324) (by decide +kernel)) rfl
theorem kL_50 : Cond.methodLink RL 50 yX6_peak ∈ zT := zT_of (List.mem_of_getElem? (i := 328) (by decide +kernel)) rfl
theorem kX6_127 : Cond.methodLink RX6 127 yX0_highest ∈ zT := zT_of (List.mem_of_getElem? (i := 332) (by decide +kernel)) rfl
theorem kL_54 : Cond.methodLink RL 54 yX6_needs ∈ zT := zT_of (List.mem_of_getElem? (i := 336) (by decide +kernel)) rfl
theorem kX6_130 : Cond.methodLink RX6 130 yX6_isKind ∈ zT := zT_of (List.mem_of_getElem? (i := 340) (by decide +kernel)) rfl
theorem kX6_133 : Cond.methodLink RX6 133 yX2_daysFor ∈ zT := zT_of (List.mem_of_getElem? (i := 343) (by decide +kernel)) rfl
theorem kL_58 : Cond.methodLink RL 58 yX6_goes ∈ zT := zT_of (List.mem_of_getElem? (i := 346) (by decide +kernel)) rfl
theorem kX6_139 : Cond.methodLink RX6 139 yX0_carries ∈ zT := zT_of (List.mem_of_getElem? (i := 350) (by decide +kernel)) rfl
theorem kX0_85 : Cond.methodLink RX0 85 yX0_takes ∈ zT := zT_of (List.mem_of_getElem? (i := 354) (by decide +kernel)) rfl
theorem kX0_82 : Cond.methodLink RX0 82 yX0_isHermits ∈ zT := zT_of (List.mem_of_getElem? (i := 358) (by decide +kernel)) rfl
theorem kX0_89 : Cond.methodLink RX0 89 yX0_heightOf ∈ zT := zT_of (List.mem_of_getElem? (i := 359) (by decide +kernel)) rfl
theorem kX0_93 : Cond.methodLink RX0 93 yX2_leastDrop ∈ zT := zT_of (List.mem_of_getElem? (i := 360) (by decide +kernel)) rfl
theorem kX2_15 : Cond.methodLink RX2 15 yX2_isUnder ∈ zT := zT_of (List.mem_of_getElem? (i := 363) (by decide +kernel)) rfl
theorem kX2_9 : Cond.fieldLink RX2 9 "DownhillPost$Post" "ABOVE" "[I" ∈ zT := zT_of (List.mem_of_getElem? (i := 366) (by decide +kernel)) rfl
theorem kL_63 : Cond.methodLink RL 63 yX6_least ∈ zT := zT_of (List.mem_of_getElem? (i := 368) (by decide +kernel)) rfl
theorem kX6_146 : Cond.methodLink RX6 146 yX5_layOut ∈ zT := zT_of (List.mem_of_getElem? (i := 372) (by decide +kernel)) rfl
theorem kX5_24 : Cond.methodLink RX5 24 Lib.Math.min.name ∈ zT := zT_of (List.mem_of_getElem? (i := 376) (by decide +kernel)) rfl
theorem kX5_31 : Cond.methodLink RX5 31 yX0_lowest ∈ zT := zT_of (List.mem_of_getElem? (i := 379) (by decide +kernel)) rfl
theorem kX5_38 : Cond.methodLink RX5 38 yX0_highest ∈ zT := zT_of (List.mem_of_getElem? (i := 380) (by decide +kernel)) rfl
theorem kX5_47 : Cond.methodLink RX5 47 Lib.Math.max.name ∈ zT := zT_of (List.mem_of_getElem? (i := 381) (by decide +kernel)) rfl
theorem kX5_51 : Cond.methodLink RX5 51 yX0_balloonTakes ∈ zT := zT_of (List.mem_of_getElem? (i := 384) (by decide +kernel)) rfl
theorem kX0_105 : Cond.methodLink RX0 105 yX0_highest ∈ zT := zT_of (List.mem_of_getElem? (i := 388) (by decide +kernel)) rfl
theorem kX5_59 : Cond.constant RX5 59 (1000000 : Int32) ∈ zT := zT_of (List.mem_of_getElem? (i := 389) (by decide +kernel)) rfl
theorem kX5_66 : Cond.methodLink RX5 66 yX2_daysFor ∈ zT := zT_of (List.mem_of_getElem? (i := 390) (by decide +kernel)) rfl
theorem kX5_77 : Cond.methodLink RX5 77 yX5_layStep ∈ zT := zT_of (List.mem_of_getElem? (i := 391) (by decide +kernel)) rfl
theorem kX5_84 : Cond.methodLink RX5 84 yX5_areHere ∈ zT := zT_of (List.mem_of_getElem? (i := 395) (by decide +kernel)) rfl
theorem kX5_88 : Cond.methodLink RX5 88 yX0_carries ∈ zT := zT_of (List.mem_of_getElem? (i := 399) (by decide +kernel)) rfl
theorem kX5_81 : Cond.methodLink RX5 81 yX5_joinSteps ∈ zT := zT_of (List.mem_of_getElem? (i := 400) (by decide +kernel)) rfl
theorem kX5_92 : Cond.methodLink RX5 92 arraycopyName ∈ zT := zT_of (List.mem_of_getElem? (i := 404) (by decide +kernel)) rfl
theorem kX5_98 : Cond.methodLink RX5 98 yX5_shortenBy ∈ zT := zT_of (List.mem_of_getElem? (i := 407) (by decide +kernel)) rfl
theorem kX6_153 : Cond.methodLink RX6 153 yX5_earliest ∈ zT := zT_of (List.mem_of_getElem? (i := 411) (by decide +kernel)) rfl
theorem kX5_102 : Cond.methodLink RX5 102 yX5_downDays ∈ zT := zT_of (List.mem_of_getElem? (i := 415) (by decide +kernel)) rfl
theorem kX5_108 : Cond.methodLink RX5 108 yX5_flightFrom ∈ zT := zT_of (List.mem_of_getElem? (i := 419) (by decide +kernel)) rfl
theorem kX6_156 : Cond.methodLink RX6 156 yX6_daysUntil ∈ zT := zT_of (List.mem_of_getElem? (i := 423) (by decide +kernel)) rfl
theorem kX6_180 : Cond.constant RX6 180 (1000000 : Int32) ∈ zT := zT_of (List.mem_of_getElem? (i := 427) (by decide +kernel)) rfl
theorem kL_67 : Cond.methodLink RL 67 yX6_reach ∈ zT := zT_of (List.mem_of_getElem? (i := 428) (by decide +kernel)) rfl
theorem kX6_159 : Cond.methodLink RX6 159 yX5_allFrom ∈ zT := zT_of (List.mem_of_getElem? (i := 432) (by decide +kernel)) rfl
theorem kX5_116 : Cond.methodLink RX5 116 yX5_comes ∈ zT := zT_of (List.mem_of_getElem? (i := 436) (by decide +kernel)) rfl
theorem kX5_105 : Cond.methodLink RX5 105 yX5_comesDown ∈ zT := zT_of (List.mem_of_getElem? (i := 440) (by decide +kernel)) rfl
theorem kL_71 : Cond.methodLink RL 71 yX6_whence ∈ zT := zT_of (List.mem_of_getElem? (i := 444) (by decide +kernel)) rfl
theorem kX6_162 : Cond.methodLink RX6 162 yX5_allInto ∈ zT := zT_of (List.mem_of_getElem? (i := 448) (by decide +kernel)) rfl
theorem kL_75 : Cond.methodLink RL 75 yX6_below ∈ zT := zT_of (List.mem_of_getElem? (i := 452) (by decide +kernel)) rfl
theorem kX6_165 : Cond.methodLink RX6 165 yX5_allDownFrom ∈ zT := zT_of (List.mem_of_getElem? (i := 456) (by decide +kernel)) rfl
theorem kL_79 : Cond.methodLink RL 79 yX6_round ∈ zT := zT_of (List.mem_of_getElem? (i := 460) (by decide +kernel)) rfl
theorem kX6_168 : Cond.methodLink RX6 168 yX5_answered ∈ zT := zT_of (List.mem_of_getElem? (i := 464) (by decide +kernel)) rfl
theorem kX5_112 : Cond.methodLink RX5 112 yX5_earliest ∈ zT := zT_of (List.mem_of_getElem? (i := 468) (by decide +kernel)) rfl
theorem kL_83 : Cond.methodLink RL 83 yX6_live ∈ zT := zT_of (List.mem_of_getElem? (i := 469) (by decide +kernel)) rfl
theorem kX6_171 : Cond.methodLink RX6 171 yX0_allVillages ∈ zT := zT_of (List.mem_of_getElem? (i := 473) (by decide +kernel)) rfl
theorem kX6_174 : Cond.methodLink RX6 174 yX5_bestHome ∈ zT := zT_of (List.mem_of_getElem? (i := 477) (by decide +kernel)) rfl
theorem kX5_119 : Cond.methodLink RX5 119 yX5_lastAnswer ∈ zT := zT_of (List.mem_of_getElem? (i := 481) (by decide +kernel)) rfl
theorem kX5_122 : Cond.methodLink RX5 122 yX5_answered ∈ zT := zT_of (List.mem_of_getElem? (i := 485) (by decide +kernel)) rfl
theorem kL_87 : Cond.methodLink RL 87 yX6_quiet ∈ zT := zT_of (List.mem_of_getElem? (i := 486) (by decide +kernel)) rfl
theorem kX6_177 : Cond.methodLink RX6 177 yX5_silentPairs ∈ zT := zT_of (List.mem_of_getElem? (i := 490) (by decide +kernel)) rfl
theorem kL_91 : Cond.methodLink RL 91 yX6_kind ∈ zT := zT_of (List.mem_of_getElem? (i := 494) (by decide +kernel)) rfl
theorem kL_95 : Cond.methodLink RL 95 yX6_rise ∈ zT := zT_of (List.mem_of_getElem? (i := 498) (by decide +kernel)) rfl
theorem kX6_181 : Cond.methodLink RX6 181 yX5_comesDown ∈ zT := zT_of (List.mem_of_getElem? (i := 502) (by decide +kernel)) rfl
theorem kX6_184 : Cond.methodLink RX6 184 yX6_heightToRise ∈ zT := zT_of (List.mem_of_getElem? (i := 503) (by decide +kernel)) rfl
theorem kX6_328 : Cond.methodLink RX6 328 yX0_takes ∈ zT := zT_of (List.mem_of_getElem? (i := 507) (by decide +kernel)) rfl
theorem kX6_331 : Cond.methodLink RX6 331 yX2_leastDrop ∈ zT := zT_of (List.mem_of_getElem? (i := 508) (by decide +kernel)) rfl
theorem kX6_308 : Cond.methodLink RX6 308 Lib.Math.min.name ∈ zT := zT_of (List.mem_of_getElem? (i := 509) (by decide +kernel)) rfl
theorem kL_99 : Cond.methodLink RL 99 yX6_fall ∈ zT := zT_of (List.mem_of_getElem? (i := 510) (by decide +kernel)) rfl
theorem kL_103 : Cond.methodLink RL 103 yX6_dig ∈ zT := zT_of (List.mem_of_getElem? (i := 514) (by decide +kernel)) rfl
theorem kX6_187 : Cond.methodLink RX6 187 yX6_bestDigging ∈ zT := zT_of (List.mem_of_getElem? (i := 518) (by decide +kernel)) rfl
theorem kX6_334 : Cond.methodLink RX6 334 yJ6_bitCount_0f7a4 ∈ zT := zT_of (List.mem_of_getElem? (i := 522) (by decide +kernel)) rfl
theorem kJ6_265 : Cond.constant RJ6 265 (1431655765 : Int32) ∈ zT := zT_of (List.mem_of_getElem? (i := 525) (by decide +kernel)) rfl
theorem kJ6_266 : Cond.constant RJ6 266 (858993459 : Int32) ∈ zT := zT_of (List.mem_of_getElem? (i := 526) (by decide +kernel)) rfl
theorem kJ6_267 : Cond.constant RJ6 267 (252645135 : Int32) ∈ zT := zT_of (List.mem_of_getElem? (i := 527) (by decide +kernel)) rfl
theorem kL_107 : Cond.methodLink RL 107 yX6_send ∈ zT := zT_of (List.mem_of_getElem? (i := 528) (by decide +kernel)) rfl
theorem kX6_190 : Cond.methodLink RX6 190 yX0_lettersFull ∈ zT := zT_of (List.mem_of_getElem? (i := 532) (by decide +kernel)) rfl
theorem kX6_193 : Cond.methodLink RX6 193 yX0_addLetter ∈ zT := zT_of (List.mem_of_getElem? (i := 536) (by decide +kernel)) rfl
theorem kX0_75 : Cond.methodLink RX0 75 yX0_lettersFull ∈ zT := zT_of (List.mem_of_getElem? (i := 540) (by decide +kernel)) rfl
theorem kL_111 : Cond.methodLink RL 111 yX6_of ∈ zT := zT_of (List.mem_of_getElem? (i := 541) (by decide +kernel)) rfl
theorem kX6_196 : Cond.methodLink RX6 196 yX0_hasLetter ∈ zT := zT_of (List.mem_of_getElem? (i := 545) (by decide +kernel)) rfl
theorem kX6_214 : Cond.methodLink RX6 214 yX0_isThere ∈ zT := zT_of (List.mem_of_getElem? (i := 546) (by decide +kernel)) rfl
theorem kL_115 : Cond.methodLink RL 115 yX6_turn ∈ zT := zT_of (List.mem_of_getElem? (i := 550) (by decide +kernel)) rfl
theorem kL_119 : Cond.methodLink RL 119 yX6_as ∈ zT := zT_of (List.mem_of_getElem? (i := 554) (by decide +kernel)) rfl
theorem kX6_217 : Cond.methodLink RX6 217 yX2_isUnder ∈ zT := zT_of (List.mem_of_getElem? (i := 558) (by decide +kernel)) rfl
theorem kX6_220 : Cond.constant RX6 220 (-1000000003 : Int32) ∈ zT := zT_of (List.mem_of_getElem? (i := 559) (by decide +kernel)) rfl
theorem kL_123 : Cond.methodLink RL 123 yX6_next ∈ zT := zT_of (List.mem_of_getElem? (i := 560) (by decide +kernel)) rfl
theorem kX6_221 : Cond.methodLink RX6 221 yX5_lookAhead ∈ zT := zT_of (List.mem_of_getElem? (i := 564) (by decide +kernel)) rfl
theorem kX5_131 : Cond.methodLink RX5 131 yX5_daysInto ∈ zT := zT_of (List.mem_of_getElem? (i := 568) (by decide +kernel)) rfl
theorem kX5_134 : Cond.methodLink RX5 134 yX5_stepDays ∈ zT := zT_of (List.mem_of_getElem? (i := 572) (by decide +kernel)) rfl
theorem kL_127 : Cond.methodLink RL 127 yX6_days ∈ zT := zT_of (List.mem_of_getElem? (i := 576) (by decide +kernel)) rfl
theorem kX6_228 : Cond.methodLink RX6 228 yX0_lettersThere ∈ zT := zT_of (List.mem_of_getElem? (i := 580) (by decide +kernel)) rfl
theorem kX0_115 : Cond.methodLink RX0 115 yX0_isThere ∈ zT := zT_of (List.mem_of_getElem? (i := 584) (by decide +kernel)) rfl
theorem kX6_234 : Cond.methodLink RX6 234 yX6_carryOn ∈ zT := zT_of (List.mem_of_getElem? (i := 585) (by decide +kernel)) rfl
theorem kX6_339 : Cond.methodLink RX6 339 yX0_passDay ∈ zT := zT_of (List.mem_of_getElem? (i := 589) (by decide +kernel)) rfl
theorem kX0_118 : Cond.methodLink RX0 118 yX5_lookAhead ∈ zT := zT_of (List.mem_of_getElem? (i := 593) (by decide +kernel)) rfl
theorem kL_131 : Cond.methodLink RL 131 yX6_day ∈ zT := zT_of (List.mem_of_getElem? (i := 594) (by decide +kernel)) rfl
theorem kL_135 : Cond.methodLink RL 135 yX6_now ∈ zT := zT_of (List.mem_of_getElem? (i := 598) (by decide +kernel)) rfl
theorem kX6_238 : Cond.methodLink RX6 238 yX0_lettersOnTheirWay ∈ zT := zT_of (List.mem_of_getElem? (i := 602) (by decide +kernel)) rfl
theorem kL_139 : Cond.methodLink RL 139 yX6_on ∈ zT := zT_of (List.mem_of_getElem? (i := 606) (by decide +kernel)) rfl
theorem kX6_241 : Cond.methodLink RX6 241 yX0_become ∈ zT := zT_of (List.mem_of_getElem? (i := 610) (by decide +kernel)) rfl
theorem kX0_46 : Cond.methodLink RX0 46 arraycopyName ∈ zT := zT_of (List.mem_of_getElem? (i := 614) (by decide +kernel)) rfl
theorem kL_143 : Cond.methodLink RL 143 yX6_when ∈ zT := zT_of (List.mem_of_getElem? (i := 615) (by decide +kernel)) rfl
theorem kX6_245 : Cond.methodLink RX6 245 yX6_daysAhead ∈ zT := zT_of (List.mem_of_getElem? (i := 619) (by decide +kernel)) rfl
theorem kL_147 : Cond.methodLink RL 147 yX6_first ∈ zT := zT_of (List.mem_of_getElem? (i := 623) (by decide +kernel)) rfl
theorem kL_151 : Cond.methodLink RL 151 yX6_feed ∈ zT := zT_of (List.mem_of_getElem? (i := 627) (by decide +kernel)) rfl
theorem kX6_251 : Cond.methodLink RX6 251 yX4_append ∈ zT := zT_of (List.mem_of_getElem? (i := 631) (by decide +kernel)) rfl
theorem kL_155 : Cond.methodLink RL 155 yX6_wipe ∈ zT := zT_of (List.mem_of_getElem? (i := 635) (by decide +kernel)) rfl
theorem kL_159 : Cond.methodLink RL 159 yX6_text ∈ zT := zT_of (List.mem_of_getElem? (i := 639) (by decide +kernel)) rfl
theorem kX6_255 : Cond.methodLink RX6 255 yX1_bring ∈ zT := zT_of (List.mem_of_getElem? (i := 643) (by decide +kernel)) rfl
theorem kX1_9 : Cond.methodLink RX1 9 yX4_rewind ∈ zT := zT_of (List.mem_of_getElem? (i := 646) (by decide +kernel)) rfl
theorem kX4_22 : Cond.methodLink RX4 22 yX4_advance ∈ zT := zT_of (List.mem_of_getElem? (i := 650) (by decide +kernel)) rfl
theorem kX4_28 : Cond.methodLink RX4 28 yX4_byteAt ∈ zT := zT_of (List.mem_of_getElem? (i := 654) (by decide +kernel)) rfl
theorem kX4_32 : Cond.methodLink RX4 32 yX4_sortOf ∈ zT := zT_of (List.mem_of_getElem? (i := 658) (by decide +kernel)) rfl
theorem kX4_38 : Cond.methodLink RX4 38 yX4_passNumber ∈ zT := zT_of (List.mem_of_getElem? (i := 661) (by decide +kernel)) rfl
theorem kX4_47 : Cond.methodLink RX4 47 Lib.Math.min.name ∈ zT := zT_of (List.mem_of_getElem? (i := 665) (by decide +kernel)) rfl
theorem kX4_41 : Cond.methodLink RX4 41 yX4_passWord ∈ zT := zT_of (List.mem_of_getElem? (i := 666) (by decide +kernel)) rfl
theorem kX1_14 : Cond.methodLink RX1 14 yX1_bringItem ∈ zT := zT_of (List.mem_of_getElem? (i := 670) (by decide +kernel)) rfl
theorem kX1_36 : Cond.methodLink RX1 36 yX4_isWord ∈ zT := zT_of (List.mem_of_getElem? (i := 674) (by decide +kernel)) rfl
theorem kX4_53 : Cond.methodLink RX4 53 yJ0_length_8abf5 ∈ zT := zT_of (List.mem_of_getElem? (i := 678) (by decide +kernel)) rfl
theorem kJ0_335 : Cond.methodLink RJ0 335 yJ0_coder_7d493 ∈ zT := zT_of (List.mem_of_getElem? (i := 682) (by decide +kernel)) rfl
theorem kJ0_38 : Cond.fieldLink RJ0 38 "java/lang/String" "COMPACT_STRINGS" "Z" ∈ zT := zT_of (List.mem_of_getElem? (i := 686) (by decide +kernel)) rfl
theorem kX4_58 : Cond.methodLink RX4 58 yJ0_charAt_5068e ∈ zT := zT_of (List.mem_of_getElem? (i := 688) (by decide +kernel)) rfl
theorem kJ0_492 : Cond.methodLink RJ0 492 yJ0_isLatin1_aae02 ∈ zT := zT_of (List.mem_of_getElem? (i := 692) (by decide +kernel)) rfl
theorem kJ0_495 : Cond.methodLink RJ0 495 yJ1_charAt_3b067 ∈ zT := zT_of (List.mem_of_getElem? (i := 696) (by decide +kernel)) rfl
theorem kJ1_9 : Cond.methodLink RJ1 9 yJ0_checkIndex_df160 ∈ zT := zT_of (List.mem_of_getElem? (i := 699) (by decide +kernel)) rfl
theorem kJ0_1053 : Cond.fieldLink RJ0 1053 "jdk/internal/util/Preconditions" "SIOOBE_FORMATTER" "Ljava/util/function/BiFunction;" ∈ zT := zT_of (List.mem_of_getElem? (i := 702) (by decide +kernel)) rfl
theorem kJ0_1059 : Cond.methodLink RJ0 1059 yJ3_checkIndex_8e157 ∈ zT := zT_of (List.mem_of_getElem? (i := 704) (by decide +kernel)) rfl
theorem kJ0_498 : Cond.methodLink RJ0 498 yJ2_charAt_3b067 ∈ zT := zT_of (List.mem_of_getElem? (i := 707) (by decide +kernel)) rfl
theorem kJ2_67 : Cond.methodLink RJ2 67 yJ2_checkIndex_2214a ∈ zT := zT_of (List.mem_of_getElem? (i := 710) (by decide +kernel)) rfl
theorem kJ2_48 : Cond.methodLink RJ2 48 yJ2_length_9d52b ∈ zT := zT_of (List.mem_of_getElem? (i := 713) (by decide +kernel)) rfl
theorem kJ2_414 : Cond.methodLink RJ2 414 yJ0_checkIndex_df160 ∈ zT := zT_of (List.mem_of_getElem? (i := 716) (by decide +kernel)) rfl
theorem kJ2_71 : Cond.methodLink RJ2 71 yJ2_getChar_3b067 ∈ zT := zT_of (List.mem_of_getElem? (i := 717) (by decide +kernel)) rfl
theorem kJ2_44 : Cond.fieldLink RJ2 44 "java/lang/StringUTF16" "$assertionsDisabled" "Z" ∈ zT := zT_of (List.mem_of_getElem? (i := 720) (by decide +kernel)) rfl
theorem kJ2_59 : Cond.fieldLink RJ2 59 "java/lang/StringUTF16" "HI_BYTE_SHIFT" "I" ∈ zT := zT_of (List.mem_of_getElem? (i := 722) (by decide +kernel)) rfl
theorem kJ2_63 : Cond.fieldLink RJ2 63 "java/lang/StringUTF16" "LO_BYTE_SHIFT" "I" ∈ zT := zT_of (List.mem_of_getElem? (i := 724) (by decide +kernel)) rfl
theorem kX1_40 : Cond.methodLink RX1 40 yX1_bringVillage ∈ zT := zT_of (List.mem_of_getElem? (i := 726) (by decide +kernel)) rfl
theorem kX1_66 : Cond.methodLink RX1 66 yX0_villagesFull ∈ zT := zT_of (List.mem_of_getElem? (i := 729) (by decide +kernel)) rfl
theorem kX1_31 : Cond.methodLink RX1 31 yX4_advance ∈ zT := zT_of (List.mem_of_getElem? (i := 730) (by decide +kernel)) rfl
theorem kX1_71 : Cond.methodLink RX1 71 yX4_isNumber ∈ zT := zT_of (List.mem_of_getElem? (i := 731) (by decide +kernel)) rfl
theorem kX1_80 : Cond.methodLink RX1 80 yX0_addVillage ∈ zT := zT_of (List.mem_of_getElem? (i := 736) (by decide +kernel)) rfl
theorem kX1_45 : Cond.methodLink RX1 45 yX1_bringRoad ∈ zT := zT_of (List.mem_of_getElem? (i := 738) (by decide +kernel)) rfl
theorem kX1_84 : Cond.methodLink RX1 84 yX0_roadsFull ∈ zT := zT_of (List.mem_of_getElem? (i := 741) (by decide +kernel)) rfl
theorem kX1_87 : Cond.methodLink RX1 87 yX1_standsVillage ∈ zT := zT_of (List.mem_of_getElem? (i := 742) (by decide +kernel)) rfl
theorem kX1_92 : Cond.methodLink RX1 92 yX0_areJoined ∈ zT := zT_of (List.mem_of_getElem? (i := 746) (by decide +kernel)) rfl
theorem kX1_97 : Cond.methodLink RX1 97 yX0_addRoad ∈ zT := zT_of (List.mem_of_getElem? (i := 748) (by decide +kernel)) rfl
theorem kX1_50 : Cond.methodLink RX1 50 yX1_bringSlide ∈ zT := zT_of (List.mem_of_getElem? (i := 750) (by decide +kernel)) rfl
theorem kX1_101 : Cond.methodLink RX1 101 yX0_setHeight ∈ zT := zT_of (List.mem_of_getElem? (i := 753) (by decide +kernel)) rfl
theorem kX1_55 : Cond.methodLink RX1 55 yX1_bringEvery ∈ zT := zT_of (List.mem_of_getElem? (i := 755) (by decide +kernel)) rfl
theorem kX1_58 : Cond.methodLink RX1 58 yX1_kindNamed ∈ zT := zT_of (List.mem_of_getElem? (i := 758) (by decide +kernel)) rfl
theorem kX1_116 : Cond.methodLink RX1 116 yX1_nameOf ∈ zT := zT_of (List.mem_of_getElem? (i := 761) (by decide +kernel)) rfl
theorem kX1_62 : Cond.methodLink RX1 62 yX1_bringLetter ∈ zT := zT_of (List.mem_of_getElem? (i := 770) (by decide +kernel)) rfl
theorem kX1_107 : Cond.methodLink RX1 107 yX0_lettersFull ∈ zT := zT_of (List.mem_of_getElem? (i := 773) (by decide +kernel)) rfl
theorem kX1_110 : Cond.methodLink RX1 110 yX0_addLetter ∈ zT := zT_of (List.mem_of_getElem? (i := 774) (by decide +kernel)) rfl
theorem kX1_24 : Cond.methodLink RX1 24 yX4_isEnd ∈ zT := zT_of (List.mem_of_getElem? (i := 775) (by decide +kernel)) rfl
theorem kX1_28 : Cond.methodLink RX1 28 yX4_isSemicolon ∈ zT := zT_of (List.mem_of_getElem? (i := 779) (by decide +kernel)) rfl
theorem kL_163 : Cond.methodLink RL 163 yX6_sheet ∈ zT := zT_of (List.mem_of_getElem? (i := 784) (by decide +kernel)) rfl
theorem kX6_261 : Cond.methodLink RX6 261 yX6_sheetAt ∈ zT := zT_of (List.mem_of_getElem? (i := 788) (by decide +kernel)) rfl
theorem kX6_265 : Cond.methodLink RX6 265 yX3_isWidth ∈ zT := zT_of (List.mem_of_getElem? (i := 792) (by decide +kernel)) rfl
theorem kX6_268 : Cond.constant RX6 268 (-1000000007 : Int32) ∈ zT := zT_of (List.mem_of_getElem? (i := 795) (by decide +kernel)) rfl
theorem kX6_269 : Cond.methodLink RX6 269 yX3_renew ∈ zT := zT_of (List.mem_of_getElem? (i := 796) (by decide +kernel)) rfl
theorem kX3_19 : Cond.methodLink RX3 19 Lib.Math.min.name ∈ zT := zT_of (List.mem_of_getElem? (i := 800) (by decide +kernel)) rfl
theorem kX3_25 : Cond.methodLink RX3 25 Lib.Math.max.name ∈ zT := zT_of (List.mem_of_getElem? (i := 801) (by decide +kernel)) rfl
theorem kL_169 : Cond.methodLink RL 169 yX6_write ∈ zT := zT_of (List.mem_of_getElem? (i := 802) (by decide +kernel)) rfl
theorem kX6_275 : Cond.methodLink RX6 275 yX3_isMissing ∈ zT := zT_of (List.mem_of_getElem? (i := 806) (by decide +kernel)) rfl
theorem kX6_278 : Cond.constant RX6 278 (-1000000006 : Int32) ∈ zT := zT_of (List.mem_of_getElem? (i := 810) (by decide +kernel)) rfl
theorem kX6_279 : Cond.methodLink RX6 279 yX3_has ∈ zT := zT_of (List.mem_of_getElem? (i := 811) (by decide +kernel)) rfl
theorem kX6_282 : Cond.methodLink RX6 282 yX3_number ∈ zT := zT_of (List.mem_of_getElem? (i := 815) (by decide +kernel)) rfl
theorem kX3_31 : Cond.methodLink RX3 31 yX3_has ∈ zT := zT_of (List.mem_of_getElem? (i := 819) (by decide +kernel)) rfl
theorem kX6_286 : Cond.methodLink RX6 286 yX3_put ∈ zT := zT_of (List.mem_of_getElem? (i := 820) (by decide +kernel)) rfl
theorem kX3_35 : Cond.methodLink RX3 35 yX3_narrowed ∈ zT := zT_of (List.mem_of_getElem? (i := 824) (by decide +kernel)) rfl
theorem kL_174 : Cond.methodLink RL 174 yX6_copy ∈ zT := zT_of (List.mem_of_getElem? (i := 828) (by decide +kernel)) rfl
theorem kX6_293 : Cond.methodLink RX6 293 yX3_hasRun ∈ zT := zT_of (List.mem_of_getElem? (i := 832) (by decide +kernel)) rfl
theorem kX6_300 : Cond.methodLink RX6 300 arraycopyName ∈ zT := zT_of (List.mem_of_getElem? (i := 836) (by decide +kernel)) rfl
theorem kL_179 : Cond.methodLink RL 179 yX6_lays ∈ zT := zT_of (List.mem_of_getElem? (i := 837) (by decide +kernel)) rfl
theorem kX6_306 : Cond.constantLong RX6 306 (9999 : Int64) ∈ zT := zT_of (List.mem_of_getElem? (i := 841) (by decide +kernel)) rfl
theorem kL_183 : Cond.methodLink RL 183 yX6_table ∈ zT := zT_of (List.mem_of_getElem? (i := 842) (by decide +kernel)) rfl
theorem kX6_313 : Cond.constantLong RX6 313 (-1 : Int64) ∈ zT := zT_of (List.mem_of_getElem? (i := 846) (by decide +kernel)) rfl
theorem kL_187 : Cond.methodLink RL 187 yX6_read ∈ zT := zT_of (List.mem_of_getElem? (i := 847) (by decide +kernel)) rfl
theorem kX6_315 : Cond.methodLink RX6 315 yX0_leadsInto ∈ zT := zT_of (List.mem_of_getElem? (i := 851) (by decide +kernel)) rfl
theorem kX0_98 : Cond.methodLink RX0 98 yX0_areJoined ∈ zT := zT_of (List.mem_of_getElem? (i := 855) (by decide +kernel)) rfl
theorem kX0_101 : Cond.methodLink RX0 101 yX0_carries ∈ zT := zT_of (List.mem_of_getElem? (i := 856) (by decide +kernel)) rfl
theorem kL_191 : Cond.methodLink RL 191 yX6_image ∈ zT := zT_of (List.mem_of_getElem? (i := 857) (by decide +kernel)) rfl
theorem kL_195 : Cond.methodLink RL 195 yX6_undo ∈ zT := zT_of (List.mem_of_getElem? (i := 861) (by decide +kernel)) rfl
theorem kL_199 : Cond.methodLink RL 199 yX6_tear ∈ zT := zT_of (List.mem_of_getElem? (i := 865) (by decide +kernel)) rfl
theorem kL_203 : Cond.methodLink RL 203 yX6_count ∈ zT := zT_of (List.mem_of_getElem? (i := 869) (by decide +kernel)) rfl
theorem kX6_325 : Cond.methodLink RX6 325 yX0_heightsTogether ∈ zT := zT_of (List.mem_of_getElem? (i := 873) (by decide +kernel)) rfl
theorem kL_207 : Cond.methodLink RL 207 yX6_status ∈ zT := zT_of (List.mem_of_getElem? (i := 877) (by decide +kernel)) rfl
theorem kL_12 : Cond.methodLink RL 12 yX7_init ∈ zT := zT_of (List.mem_of_getElem? (i := 883) (by decide +kernel)) rfl
theorem kX7_7 : Cond.fieldLink RX7 7 "DownhillPostModel" "row" "[I" ∈ zT := zT_of (List.mem_of_getElem? (i := 887) (by decide +kernel)) rfl
theorem kX7_13 : Cond.fieldLink RX7 13 "DownhillPostModel" "found" "[I" ∈ zT := zT_of (List.mem_of_getElem? (i := 888) (by decide +kernel)) rfl
theorem kX7_16 : Cond.fieldLink RX7 16 "DownhillPostModel" "best" "[I" ∈ zT := zT_of (List.mem_of_getElem? (i := 889) (by decide +kernel)) rfl
theorem kX7_173 : Cond.fieldLink RX7 173 "DownhillPostModel" "into" "I" ∈ zT := zT_of (List.mem_of_getElem? (i := 890) (by decide +kernel)) rfl
theorem kX7_177 : Cond.fieldLink RX7 177 "DownhillPostModel" "during" "I" ∈ zT := zT_of (List.mem_of_getElem? (i := 891) (by decide +kernel)) rfl
theorem kX7_19 : Cond.fieldLink RX7 19 "DownhillPostModel" "tried" "[I" ∈ zT := zT_of (List.mem_of_getElem? (i := 892) (by decide +kernel)) rfl
theorem kX7_22 : Cond.fieldLink RX7 22 "DownhillPostModel" "tape" "[I" ∈ zT := zT_of (List.mem_of_getElem? (i := 893) (by decide +kernel)) rfl
theorem kX7_204 : Cond.fieldLink RX7 204 "DownhillPostModel" "tapeMany" "I" ∈ zT := zT_of (List.mem_of_getElem? (i := 894) (by decide +kernel)) rfl
theorem kX7_222 : Cond.fieldLink RX7 222 "DownhillPostModel" "sort" "I" ∈ zT := zT_of (List.mem_of_getElem? (i := 895) (by decide +kernel)) rfl
theorem kX7_210 : Cond.fieldLink RX7 210 "DownhillPostModel" "begins" "I" ∈ zT := zT_of (List.mem_of_getElem? (i := 896) (by decide +kernel)) rfl
theorem kX7_207 : Cond.fieldLink RX7 207 "DownhillPostModel" "tokenEnds" "I" ∈ zT := zT_of (List.mem_of_getElem? (i := 897) (by decide +kernel)) rfl
theorem kX7_225 : Cond.fieldLink RX7 225 "DownhillPostModel" "word" "J" ∈ zT := zT_of (List.mem_of_getElem? (i := 898) (by decide +kernel)) rfl
theorem kX7_229 : Cond.fieldLink RX7 229 "DownhillPostModel" "value" "I" ∈ zT := zT_of (List.mem_of_getElem? (i := 899) (by decide +kernel)) rfl
theorem kX7_254 : Cond.fieldLink RX7 254 "DownhillPostModel" "good" "Z" ∈ zT := zT_of (List.mem_of_getElem? (i := 900) (by decide +kernel)) rfl
theorem kX7_25 : Cond.fieldLink RX7 25 "DownhillPostModel" "bitsOf" "[I" ∈ zT := zT_of (List.mem_of_getElem? (i := 901) (by decide +kernel)) rfl
theorem kX7_28 : Cond.fieldLink RX7 28 "DownhillPostModel" "sizeOf" "[I" ∈ zT := zT_of (List.mem_of_getElem? (i := 902) (by decide +kernel)) rfl
theorem kX7_31 : Cond.fieldLink RX7 31 "DownhillPostModel" "sheets" "[J" ∈ zT := zT_of (List.mem_of_getElem? (i := 903) (by decide +kernel)) rfl
theorem kX7_35 : Cond.fieldLink RX7 35 "DownhillPostModel" "lent" "[J" ∈ zT := zT_of (List.mem_of_getElem? (i := 904) (by decide +kernel)) rfl
theorem kX7_38 : Cond.fieldLink RX7 38 "DownhillPostModel" "image" "[I" ∈ zT := zT_of (List.mem_of_getElem? (i := 905) (by decide +kernel)) rfl
theorem kX7_41 : Cond.fieldLink RX7 41 "DownhillPostModel" "before" "[I" ∈ zT := zT_of (List.mem_of_getElem? (i := 906) (by decide +kernel)) rfl
theorem kX7_321 : Cond.fieldLink RX7 321 "DownhillPostModel" "isKept" "Z" ∈ zT := zT_of (List.mem_of_getElem? (i := 907) (by decide +kernel)) rfl
theorem kL_17 : Cond.methodLink RL 17 yX7_village ∈ zT := zT_of (List.mem_of_getElem? (i := 951) (by decide +kernel)) rfl
theorem kX7_45 : Cond.methodLink RX7 45 yX7_in ∈ zT := zT_of (List.mem_of_getElem? (i := 955) (by decide +kernel)) rfl
theorem kX7_44 : Cond.constant RX7 44 (-1000000001 : Int32) ∈ zT := zT_of (List.mem_of_getElem? (i := 958) (by decide +kernel)) rfl
theorem kX7_49 : Cond.methodLink RX7 49 yX7_finds ∈ zT := zT_of (List.mem_of_getElem? (i := 959) (by decide +kernel)) rfl
theorem kX7_53 : Cond.constant RX7 53 (-1000000002 : Int32) ∈ zT := zT_of (List.mem_of_getElem? (i := 963) (by decide +kernel)) rfl
theorem kX7_54 : Cond.methodLink RX7 54 yX7_addVillage ∈ zT := zT_of (List.mem_of_getElem? (i := 964) (by decide +kernel)) rfl
theorem kL_22 : Cond.methodLink RL 22 yX7_villageOf ∈ zT := zT_of (List.mem_of_getElem? (i := 968) (by decide +kernel)) rfl
theorem kX7_65 : Cond.methodLink RX7 65 yX7_isVillage ∈ zT := zT_of (List.mem_of_getElem? (i := 972) (by decide +kernel)) rfl
theorem kX7_69 : Cond.methodLink RX7 69 yX7_height ∈ zT := zT_of (List.mem_of_getElem? (i := 976) (by decide +kernel)) rfl
theorem kX7_72 : Cond.methodLink RX7 72 yX7_roadsAt ∈ zT := zT_of (List.mem_of_getElem? (i := 980) (by decide +kernel)) rfl
theorem kX7_58 : Cond.methodLink RX7 58 yX7_end ∈ zT := zT_of (List.mem_of_getElem? (i := 984) (by decide +kernel)) rfl
theorem kX7_75 : Cond.methodLink RX7 75 yX7_lettersAt ∈ zT := zT_of (List.mem_of_getElem? (i := 988) (by decide +kernel)) rfl
theorem kX7_62 : Cond.methodLink RX7 62 yX7_its ∈ zT := zT_of (List.mem_of_getElem? (i := 992) (by decide +kernel)) rfl
theorem kL_26 : Cond.methodLink RL 26 yX7_slide ∈ zT := zT_of (List.mem_of_getElem? (i := 996) (by decide +kernel)) rfl
theorem kL_31 : Cond.methodLink RL 31 yX7_hermit ∈ zT := zT_of (List.mem_of_getElem? (i := 1000) (by decide +kernel)) rfl
theorem kX7_78 : Cond.methodLink RX7 78 yX7_isHermits ∈ zT := zT_of (List.mem_of_getElem? (i := 1004) (by decide +kernel)) rfl
theorem kL_36 : Cond.methodLink RL 36 yX7_road ∈ zT := zT_of (List.mem_of_getElem? (i := 1008) (by decide +kernel)) rfl
theorem kX7_81 : Cond.methodLink RX7 81 yX7_between ∈ zT := zT_of (List.mem_of_getElem? (i := 1012) (by decide +kernel)) rfl
theorem kX7_84 : Cond.constant RX7 84 (-1000000005 : Int32) ∈ zT := zT_of (List.mem_of_getElem? (i := 1016) (by decide +kernel)) rfl
theorem kX7_85 : Cond.methodLink RX7 85 yX7_addRoad ∈ zT := zT_of (List.mem_of_getElem? (i := 1017) (by decide +kernel)) rfl
theorem kL_40 : Cond.methodLink RL 40 yX7_roadOf ∈ zT := zT_of (List.mem_of_getElem? (i := 1021) (by decide +kernel)) rfl
theorem kX7_89 : Cond.methodLink RX7 89 yX7_isRoad ∈ zT := zT_of (List.mem_of_getElem? (i := 1025) (by decide +kernel)) rfl
theorem kL_44 : Cond.methodLink RL 44 yX7_every ∈ zT := zT_of (List.mem_of_getElem? (i := 1029) (by decide +kernel)) rfl
theorem kL_49 : Cond.methodLink RL 49 yX7_sea ∈ zT := zT_of (List.mem_of_getElem? (i := 1033) (by decide +kernel)) rfl
theorem kX7_92 : Cond.constant RX7 92 (-1000000004 : Int32) ∈ zT := zT_of (List.mem_of_getElem? (i := 1037) (by decide +kernel)) rfl
theorem kX7_93 : Cond.methodLink RX7 93 yX7_theSea ∈ zT := zT_of (List.mem_of_getElem? (i := 1038) (by decide +kernel)) rfl
theorem kL_53 : Cond.methodLink RL 53 yX7_peak ∈ zT := zT_of (List.mem_of_getElem? (i := 1042) (by decide +kernel)) rfl
theorem kX7_97 : Cond.methodLink RX7 97 yX7_thePeak ∈ zT := zT_of (List.mem_of_getElem? (i := 1046) (by decide +kernel)) rfl
theorem kL_57 : Cond.methodLink RL 57 yX7_needs ∈ zT := zT_of (List.mem_of_getElem? (i := 1050) (by decide +kernel)) rfl
theorem kX7_100 : Cond.methodLink RX7 100 yX7_isKind ∈ zT := zT_of (List.mem_of_getElem? (i := 1054) (by decide +kernel)) rfl
theorem kX7_103 : Cond.methodLink RX7 103 yX7_needsOf ∈ zT := zT_of (List.mem_of_getElem? (i := 1057) (by decide +kernel)) rfl
theorem kL_62 : Cond.methodLink RL 62 yX7_goes ∈ zT := zT_of (List.mem_of_getElem? (i := 1061) (by decide +kernel)) rfl
theorem kX7_106 : Cond.methodLink RX7 106 yX7_goesDown ∈ zT := zT_of (List.mem_of_getElem? (i := 1065) (by decide +kernel)) rfl
theorem kL_66 : Cond.methodLink RL 66 yX7_least ∈ zT := zT_of (List.mem_of_getElem? (i := 1069) (by decide +kernel)) rfl
theorem kX7_129 : Cond.methodLink RX7 129 yX7_isAsked ∈ zT := zT_of (List.mem_of_getElem? (i := 1073) (by decide +kernel)) rfl
theorem kX7_132 : Cond.methodLink RX7 132 yX7_earliest ∈ zT := zT_of (List.mem_of_getElem? (i := 1077) (by decide +kernel)) rfl
theorem kX7_125 : Cond.methodLink RX7 125 yX7_find ∈ zT := zT_of (List.mem_of_getElem? (i := 1081) (by decide +kernel)) rfl
theorem kX7_109 : Cond.constant RX7 109 (1000000000 : Int32) ∈ zT := zT_of (List.mem_of_getElem? (i := 1085) (by decide +kernel)) rfl
theorem kX7_118 : Cond.methodLink RX7 118 yX7_flies ∈ zT := zT_of (List.mem_of_getElem? (i := 1086) (by decide +kernel)) rfl
theorem kX7_121 : Cond.methodLink RX7 121 yX7_goesOn ∈ zT := zT_of (List.mem_of_getElem? (i := 1090) (by decide +kernel)) rfl
theorem kX7_110 : Cond.methodLink RX7 110 yX7_takesRoad ∈ zT := zT_of (List.mem_of_getElem? (i := 1094) (by decide +kernel)) rfl
theorem kX7_114 : Cond.methodLink RX7 114 yX7_takesBalloon ∈ zT := zT_of (List.mem_of_getElem? (i := 1098) (by decide +kernel)) rfl
theorem kL_70 : Cond.methodLink RL 70 yX7_reach ∈ zT := zT_of (List.mem_of_getElem? (i := 1102) (by decide +kernel)) rfl
theorem kX7_139 : Cond.methodLink RX7 139 yX7_reachOf ∈ zT := zT_of (List.mem_of_getElem? (i := 1106) (by decide +kernel)) rfl
theorem kX7_136 : Cond.methodLink RX7 136 yX7_reached ∈ zT := zT_of (List.mem_of_getElem? (i := 1110) (by decide +kernel)) rfl
theorem kL_74 : Cond.methodLink RL 74 yX7_whence ∈ zT := zT_of (List.mem_of_getElem? (i := 1114) (by decide +kernel)) rfl
theorem kX7_143 : Cond.methodLink RX7 143 yX7_has ∈ zT := zT_of (List.mem_of_getElem? (i := 1118) (by decide +kernel)) rfl
theorem kL_78 : Cond.methodLink RL 78 yX7_below ∈ zT := zT_of (List.mem_of_getElem? (i := 1121) (by decide +kernel)) rfl
theorem kL_82 : Cond.methodLink RL 82 yX7_round ∈ zT := zT_of (List.mem_of_getElem? (i := 1125) (by decide +kernel)) rfl
theorem kX7_147 : Cond.methodLink RX7 147 yX7_back ∈ zT := zT_of (List.mem_of_getElem? (i := 1129) (by decide +kernel)) rfl
theorem kL_86 : Cond.methodLink RL 86 yX7_live ∈ zT := zT_of (List.mem_of_getElem? (i := 1133) (by decide +kernel)) rfl
theorem kL_90 : Cond.methodLink RL 90 yX7_quiet ∈ zT := zT_of (List.mem_of_getElem? (i := 1137) (by decide +kernel)) rfl
theorem kL_94 : Cond.methodLink RL 94 yX7_kind ∈ zT := zT_of (List.mem_of_getElem? (i := 1141) (by decide +kernel)) rfl
theorem kL_98 : Cond.methodLink RL 98 yX7_rise ∈ zT := zT_of (List.mem_of_getElem? (i := 1145) (by decide +kernel)) rfl
theorem kL_102 : Cond.methodLink RL 102 yX7_fall ∈ zT := zT_of (List.mem_of_getElem? (i := 1149) (by decide +kernel)) rfl
theorem kL_106 : Cond.methodLink RL 106 yX7_dig ∈ zT := zT_of (List.mem_of_getElem? (i := 1153) (by decide +kernel)) rfl
theorem kX7_151 : Cond.methodLink RX7 151 yX7_ones ∈ zT := zT_of (List.mem_of_getElem? (i := 1157) (by decide +kernel)) rfl
theorem kX7_154 : Cond.methodLink RX7 154 yX7_reachWith ∈ zT := zT_of (List.mem_of_getElem? (i := 1160) (by decide +kernel)) rfl
theorem kL_110 : Cond.methodLink RL 110 yX7_send ∈ zT := zT_of (List.mem_of_getElem? (i := 1164) (by decide +kernel)) rfl
theorem kX7_160 : Cond.methodLink RX7 160 yX7_addLetter ∈ zT := zT_of (List.mem_of_getElem? (i := 1168) (by decide +kernel)) rfl
theorem kX7_157 : Cond.methodLink RX7 157 yX7_sets ∈ zT := zT_of (List.mem_of_getElem? (i := 1172) (by decide +kernel)) rfl
theorem kL_114 : Cond.methodLink RL 114 yX7_of ∈ zT := zT_of (List.mem_of_getElem? (i := 1176) (by decide +kernel)) rfl
theorem kX7_163 : Cond.methodLink RX7 163 yX7_isPost ∈ zT := zT_of (List.mem_of_getElem? (i := 1180) (by decide +kernel)) rfl
theorem kX7_166 : Cond.methodLink RX7 166 yX7_isThere ∈ zT := zT_of (List.mem_of_getElem? (i := 1184) (by decide +kernel)) rfl
theorem kL_118 : Cond.methodLink RL 118 yX7_turn ∈ zT := zT_of (List.mem_of_getElem? (i := 1188) (by decide +kernel)) rfl
theorem kL_122 : Cond.methodLink RL 122 yX7_as ∈ zT := zT_of (List.mem_of_getElem? (i := 1192) (by decide +kernel)) rfl
theorem kX7_169 : Cond.methodLink RX7 169 yX7_isUnder ∈ zT := zT_of (List.mem_of_getElem? (i := 1196) (by decide +kernel)) rfl
theorem kX7_172 : Cond.constant RX7 172 (-1000000003 : Int32) ∈ zT := zT_of (List.mem_of_getElem? (i := 1199) (by decide +kernel)) rfl
theorem kL_126 : Cond.methodLink RL 126 yX7_next ∈ zT := zT_of (List.mem_of_getElem? (i := 1200) (by decide +kernel)) rfl
theorem kX7_184 : Cond.methodLink RX7 184 yX7_findWay ∈ zT := zT_of (List.mem_of_getElem? (i := 1204) (by decide +kernel)) rfl
theorem kX7_180 : Cond.methodLink RX7 180 yX7_keeps ∈ zT := zT_of (List.mem_of_getElem? (i := 1208) (by decide +kernel)) rfl
theorem kL_130 : Cond.methodLink RL 130 yX7_days ∈ zT := zT_of (List.mem_of_getElem? (i := 1212) (by decide +kernel)) rfl
theorem kX7_188 : Cond.methodLink RX7 188 yX7_allThere ∈ zT := zT_of (List.mem_of_getElem? (i := 1216) (by decide +kernel)) rfl
theorem kX7_191 : Cond.methodLink RX7 191 yX7_aDay ∈ zT := zT_of (List.mem_of_getElem? (i := 1220) (by decide +kernel)) rfl
theorem kL_134 : Cond.methodLink RL 134 yX7_day ∈ zT := zT_of (List.mem_of_getElem? (i := 1224) (by decide +kernel)) rfl
theorem kL_138 : Cond.methodLink RL 138 yX7_now ∈ zT := zT_of (List.mem_of_getElem? (i := 1228) (by decide +kernel)) rfl
theorem kX7_194 : Cond.methodLink RX7 194 yX7_onTheirWay ∈ zT := zT_of (List.mem_of_getElem? (i := 1232) (by decide +kernel)) rfl
theorem kL_142 : Cond.methodLink RL 142 yX7_on ∈ zT := zT_of (List.mem_of_getElem? (i := 1236) (by decide +kernel)) rfl
theorem kX7_197 : Cond.methodLink RX7 197 yX7_moveAll ∈ zT := zT_of (List.mem_of_getElem? (i := 1240) (by decide +kernel)) rfl
theorem kL_146 : Cond.methodLink RL 146 yX7_when ∈ zT := zT_of (List.mem_of_getElem? (i := 1244) (by decide +kernel)) rfl
theorem kX7_201 : Cond.methodLink RX7 201 yX7_daysTill ∈ zT := zT_of (List.mem_of_getElem? (i := 1248) (by decide +kernel)) rfl
theorem kL_150 : Cond.methodLink RL 150 yX7_first ∈ zT := zT_of (List.mem_of_getElem? (i := 1252) (by decide +kernel)) rfl
theorem kL_154 : Cond.methodLink RL 154 yX7_feed ∈ zT := zT_of (List.mem_of_getElem? (i := 1256) (by decide +kernel)) rfl
theorem kL_158 : Cond.methodLink RL 158 yX7_wipe ∈ zT := zT_of (List.mem_of_getElem? (i := 1260) (by decide +kernel)) rfl
theorem kL_162 : Cond.methodLink RL 162 yX7_text ∈ zT := zT_of (List.mem_of_getElem? (i := 1264) (by decide +kernel)) rfl
theorem kX7_258 : Cond.methodLink RX7 258 yX7_advance ∈ zT := zT_of (List.mem_of_getElem? (i := 1268) (by decide +kernel)) rfl
theorem kX7_213 : Cond.methodLink RX7 213 yX7_byteAt ∈ zT := zT_of (List.mem_of_getElem? (i := 1272) (by decide +kernel)) rfl
theorem kX7_216 : Cond.methodLink RX7 216 yX7_isLetter ∈ zT := zT_of (List.mem_of_getElem? (i := 1276) (by decide +kernel)) rfl
theorem kX7_219 : Cond.methodLink RX7 219 yX7_isDigit ∈ zT := zT_of (List.mem_of_getElem? (i := 1279) (by decide +kernel)) rfl
theorem kX7_232 : Cond.constantLong RX7 232 (27 : Int64) ∈ zT := zT_of (List.mem_of_getElem? (i := 1282) (by decide +kernel)) rfl
theorem kX7_234 : Cond.constantLong RX7 234 (96 : Int64) ∈ zT := zT_of (List.mem_of_getElem? (i := 1283) (by decide +kernel)) rfl
theorem kX7_236 : Cond.constantLong RX7 236 (-1 : Int64) ∈ zT := zT_of (List.mem_of_getElem? (i := 1284) (by decide +kernel)) rfl
theorem kX7_304 : Cond.methodLink RX7 304 yX7_wantItem ∈ zT := zT_of (List.mem_of_getElem? (i := 1285) (by decide +kernel)) rfl
theorem kX7_278 : Cond.constantLong RX7 278 (8659005332 : Int64) ∈ zT := zT_of (List.mem_of_getElem? (i := 1289) (by decide +kernel)) rfl
theorem kX7_240 : Cond.methodLink RX7 240 yX7_isWord ∈ zT := zT_of (List.mem_of_getElem? (i := 1290) (by decide +kernel)) rfl
theorem kX7_280 : Cond.methodLink RX7 280 yX7_wantVillage ∈ zT := zT_of (List.mem_of_getElem? (i := 1294) (by decide +kernel)) rfl
theorem kX7_261 : Cond.methodLink RX7 261 yX7_wantNumber ∈ zT := zT_of (List.mem_of_getElem? (i := 1298) (by decide +kernel)) rfl
theorem kX7_264 : Cond.constantLong RX7 264 (117812495 : Int64) ∈ zT := zT_of (List.mem_of_getElem? (i := 1302) (by decide +kernel)) rfl
theorem kX7_283 : Cond.constantLong RX7 283 (365260 : Int64) ∈ zT := zT_of (List.mem_of_getElem? (i := 1303) (by decide +kernel)) rfl
theorem kX7_285 : Cond.methodLink RX7 285 yX7_wantRoad ∈ zT := zT_of (List.mem_of_getElem? (i := 1304) (by decide +kernel)) rfl
theorem kX7_266 : Cond.constantLong RX7 266 (555 : Int64) ∈ zT := zT_of (List.mem_of_getElem? (i := 1308) (by decide +kernel)) rfl
theorem kX7_268 : Cond.methodLink RX7 268 yX7_wantWord ∈ zT := zT_of (List.mem_of_getElem? (i := 1309) (by decide +kernel)) rfl
theorem kX7_272 : Cond.constantLong RX7 272 (80155 : Int64) ∈ zT := zT_of (List.mem_of_getElem? (i := 1313) (by decide +kernel)) rfl
theorem kX7_274 : Cond.methodLink RX7 274 yX7_mayWant ∈ zT := zT_of (List.mem_of_getElem? (i := 1314) (by decide +kernel)) rfl
theorem kX7_288 : Cond.constantLong RX7 288 (10340249 : Int64) ∈ zT := zT_of (List.mem_of_getElem? (i := 1318) (by decide +kernel)) rfl
theorem kX7_290 : Cond.methodLink RX7 290 yX7_wantSlide ∈ zT := zT_of (List.mem_of_getElem? (i := 1319) (by decide +kernel)) rfl
theorem kX7_293 : Cond.constantLong RX7 293 (3094387 : Int64) ∈ zT := zT_of (List.mem_of_getElem? (i := 1323) (by decide +kernel)) rfl
theorem kX7_295 : Cond.methodLink RX7 295 yX7_wantEvery ∈ zT := zT_of (List.mem_of_getElem? (i := 1324) (by decide +kernel)) rfl
theorem kX7_298 : Cond.methodLink RX7 298 yX7_kindHere ∈ zT := zT_of (List.mem_of_getElem? (i := 1328) (by decide +kernel)) rfl
theorem kX7_238 : Cond.constantLong RX7 238 (175252482 : Int64) ∈ zT := zT_of (List.mem_of_getElem? (i := 1332) (by decide +kernel)) rfl
theorem kX7_244 : Cond.constantLong RX7 244 (9454493 : Int64) ∈ zT := zT_of (List.mem_of_getElem? (i := 1333) (by decide +kernel)) rfl
theorem kX7_246 : Cond.constantLong RX7 246 (4351291 : Int64) ∈ zT := zT_of (List.mem_of_getElem? (i := 1334) (by decide +kernel)) rfl
theorem kX7_248 : Cond.constantLong RX7 248 (2397198555 : Int64) ∈ zT := zT_of (List.mem_of_getElem? (i := 1335) (by decide +kernel)) rfl
theorem kX7_250 : Cond.constantLong RX7 250 (46263 : Int64) ∈ zT := zT_of (List.mem_of_getElem? (i := 1336) (by decide +kernel)) rfl
theorem kX7_252 : Cond.constantLong RX7 252 (275358764 : Int64) ∈ zT := zT_of (List.mem_of_getElem? (i := 1337) (by decide +kernel)) rfl
theorem kX7_301 : Cond.methodLink RX7 301 yX7_wantLetter ∈ zT := zT_of (List.mem_of_getElem? (i := 1338) (by decide +kernel)) rfl
theorem kL_166 : Cond.methodLink RL 166 yX7_sheet ∈ zT := zT_of (List.mem_of_getElem? (i := 1342) (by decide +kernel)) rfl
theorem kX7_307 : Cond.methodLink RX7 307 yX7_isSheet ∈ zT := zT_of (List.mem_of_getElem? (i := 1346) (by decide +kernel)) rfl
theorem kX7_310 : Cond.constant RX7 310 (-1000000007 : Int32) ∈ zT := zT_of (List.mem_of_getElem? (i := 1349) (by decide +kernel)) rfl
theorem kL_173 : Cond.methodLink RL 173 yX7_write ∈ zT := zT_of (List.mem_of_getElem? (i := 1350) (by decide +kernel)) rfl
theorem kX7_311 : Cond.constant RX7 311 (-1000000006 : Int32) ∈ zT := zT_of (List.mem_of_getElem? (i := 1354) (by decide +kernel)) rfl
theorem kX7_312 : Cond.methodLink RX7 312 yX7_narrow ∈ zT := zT_of (List.mem_of_getElem? (i := 1355) (by decide +kernel)) rfl
theorem kL_178 : Cond.methodLink RL 178 yX7_copy ∈ zT := zT_of (List.mem_of_getElem? (i := 1358) (by decide +kernel)) rfl
theorem kX7_316 : Cond.methodLink RX7 316 yX7_isPart ∈ zT := zT_of (List.mem_of_getElem? (i := 1362) (by decide +kernel)) rfl
theorem kL_182 : Cond.methodLink RL 182 yX7_lays ∈ zT := zT_of (List.mem_of_getElem? (i := 1366) (by decide +kernel)) rfl
theorem kX7_319 : Cond.constantLong RX7 319 (9999 : Int64) ∈ zT := zT_of (List.mem_of_getElem? (i := 1370) (by decide +kernel)) rfl
theorem kL_186 : Cond.methodLink RL 186 yX7_table ∈ zT := zT_of (List.mem_of_getElem? (i := 1371) (by decide +kernel)) rfl
theorem kL_190 : Cond.methodLink RL 190 yX7_read ∈ zT := zT_of (List.mem_of_getElem? (i := 1375) (by decide +kernel)) rfl
theorem kL_194 : Cond.methodLink RL 194 yX7_image ∈ zT := zT_of (List.mem_of_getElem? (i := 1379) (by decide +kernel)) rfl
theorem kL_198 : Cond.methodLink RL 198 yX7_undo ∈ zT := zT_of (List.mem_of_getElem? (i := 1383) (by decide +kernel)) rfl
theorem kL_202 : Cond.methodLink RL 202 yX7_tear ∈ zT := zT_of (List.mem_of_getElem? (i := 1387) (by decide +kernel)) rfl
theorem kL_206 : Cond.methodLink RL 206 yX7_count ∈ zT := zT_of (List.mem_of_getElem? (i := 1391) (by decide +kernel)) rfl
theorem kL_210 : Cond.methodLink RL 210 yX7_status ∈ zT := zT_of (List.mem_of_getElem? (i := 1395) (by decide +kernel)) rfl
theorem kL_167 : Cond.constantLong RL 167 (4294967295 : Int64) ∈ zT := zT_of (List.mem_of_getElem? (i := 1399) (by decide +kernel)) rfl
theorem kJ0_9 : Cond.fieldLink RJ0 9 "java/lang/String" "value" "[B" ∈ zT := zT_of (List.mem_of_getElem? (i := 1400) (by decide +kernel)) rfl
theorem kJ0_15 : Cond.fieldLink RJ0 15 "java/lang/String" "coder" "B" ∈ zT := zT_of (List.mem_of_getElem? (i := 1401) (by decide +kernel)) rfl
theorem zst_max : Cond.static Lib.Math.max.name ∈ zT := zT_of (List.mem_of_getElem? (i := 382) (by decide +kernel)) rfl
theorem zco_max : Cond.code Lib.Math.max.name Lib.Math.max.code 2 (some .int) ∈ zT := zT_of (List.mem_of_getElem? (i := 383) (by decide +kernel)) rfl
theorem zst_min : Cond.static Lib.Math.min.name ∈ zT := zT_of (List.mem_of_getElem? (i := 377) (by decide +kernel)) rfl
theorem zco_min : Cond.code Lib.Math.min.name Lib.Math.min.code 2 (some .int) ∈ zT := zT_of (List.mem_of_getElem? (i := 378) (by decide +kernel)) rfl
theorem zin_math : Cond.initialized "java/lang/Math" ∈ zT := zT_of (List.mem_of_getElem? (i := 8) (by decide +kernel)) rfl
theorem zin_sys : Cond.initialized "java/lang/System" ∈ zT := zT_of (List.mem_of_getElem? (i := 9) (by decide +kernel)) rfl
theorem znat_cp : Cond.native arraycopyName ∈ zT := zT_of (List.mem_of_getElem? (i := 406) (by decide +kernel)) rfl
theorem zst_cp : Cond.static arraycopyName ∈ zT := zT_of (List.mem_of_getElem? (i := 405) (by decide +kernel)) rfl
theorem moX0_become : zMo yX0_become cX0_become 2 none 1 := ⟨zT_of (List.mem_of_getElem? (i := 613) (by decide +kernel)) rfl, zT_of (List.mem_of_getElem? (i := 2) (by decide +kernel)) rfl, ⟨by decide +kernel, by decide +kernel⟩, by decide +kernel, by decide⟩
theorem mvX0_become : Cond.instanceMethod yX0_become ∈ zT ∧ Cond.selects yX0_become.cls yX0_become yX0_become ∈ zT := ⟨zT_of (List.mem_of_getElem? (i := 611) (by decide +kernel)) rfl, zT_of (List.mem_of_getElem? (i := 612) (by decide +kernel)) rfl⟩
theorem moX0_hasVillage : zMo yX0_hasVillage cX0_hasVillage 2 (some .boolean) 1 := ⟨zT_of (List.mem_of_getElem? (i := 238) (by decide +kernel)) rfl, zT_of (List.mem_of_getElem? (i := 2) (by decide +kernel)) rfl, ⟨by decide +kernel, by decide +kernel⟩, by decide +kernel, by decide⟩
theorem mvX0_hasVillage : Cond.instanceMethod yX0_hasVillage ∈ zT ∧ Cond.selects yX0_hasVillage.cls yX0_hasVillage yX0_hasVillage ∈ zT := ⟨zT_of (List.mem_of_getElem? (i := 236) (by decide +kernel)) rfl, zT_of (List.mem_of_getElem? (i := 237) (by decide +kernel)) rfl⟩
theorem moX0_hasRoad : zMo yX0_hasRoad cX0_hasRoad 2 (some .boolean) 1 := ⟨zT_of (List.mem_of_getElem? (i := 314) (by decide +kernel)) rfl, zT_of (List.mem_of_getElem? (i := 2) (by decide +kernel)) rfl, ⟨by decide +kernel, by decide +kernel⟩, by decide +kernel, by decide⟩
theorem mvX0_hasRoad : Cond.instanceMethod yX0_hasRoad ∈ zT ∧ Cond.selects yX0_hasRoad.cls yX0_hasRoad yX0_hasRoad ∈ zT := ⟨zT_of (List.mem_of_getElem? (i := 312) (by decide +kernel)) rfl, zT_of (List.mem_of_getElem? (i := 313) (by decide +kernel)) rfl⟩
theorem moX0_hasLetter : zMo yX0_hasLetter cX0_hasLetter 2 (some .boolean) 1 := ⟨zT_of (List.mem_of_getElem? (i := 267) (by decide +kernel)) rfl, zT_of (List.mem_of_getElem? (i := 2) (by decide +kernel)) rfl, ⟨by decide +kernel, by decide +kernel⟩, by decide +kernel, by decide⟩
theorem mvX0_hasLetter : Cond.instanceMethod yX0_hasLetter ∈ zT ∧ Cond.selects yX0_hasLetter.cls yX0_hasLetter yX0_hasLetter ∈ zT := ⟨zT_of (List.mem_of_getElem? (i := 265) (by decide +kernel)) rfl, zT_of (List.mem_of_getElem? (i := 266) (by decide +kernel)) rfl⟩
theorem moX0_villagesFull : zMo yX0_villagesFull cX0_villagesFull 1 (some .boolean) 0 := ⟨zT_of (List.mem_of_getElem? (i := 224) (by decide +kernel)) rfl, zT_of (List.mem_of_getElem? (i := 2) (by decide +kernel)) rfl, ⟨by decide +kernel, by decide +kernel⟩, by decide +kernel, by decide⟩
theorem mvX0_villagesFull : Cond.instanceMethod yX0_villagesFull ∈ zT ∧ Cond.selects yX0_villagesFull.cls yX0_villagesFull yX0_villagesFull ∈ zT := ⟨zT_of (List.mem_of_getElem? (i := 222) (by decide +kernel)) rfl, zT_of (List.mem_of_getElem? (i := 223) (by decide +kernel)) rfl⟩
theorem moX0_roadsFull : zMo yX0_roadsFull cX0_roadsFull 1 (some .boolean) 0 := ⟨zT_of (List.mem_of_getElem? (i := 301) (by decide +kernel)) rfl, zT_of (List.mem_of_getElem? (i := 2) (by decide +kernel)) rfl, ⟨by decide +kernel, by decide +kernel⟩, by decide +kernel, by decide⟩
theorem mvX0_roadsFull : Cond.instanceMethod yX0_roadsFull ∈ zT ∧ Cond.selects yX0_roadsFull.cls yX0_roadsFull yX0_roadsFull ∈ zT := ⟨zT_of (List.mem_of_getElem? (i := 299) (by decide +kernel)) rfl, zT_of (List.mem_of_getElem? (i := 300) (by decide +kernel)) rfl⟩
theorem moX0_lettersFull : zMo yX0_lettersFull cX0_lettersFull 1 (some .boolean) 0 := ⟨zT_of (List.mem_of_getElem? (i := 535) (by decide +kernel)) rfl, zT_of (List.mem_of_getElem? (i := 2) (by decide +kernel)) rfl, ⟨by decide +kernel, by decide +kernel⟩, by decide +kernel, by decide⟩
theorem mvX0_lettersFull : Cond.instanceMethod yX0_lettersFull ∈ zT ∧ Cond.selects yX0_lettersFull.cls yX0_lettersFull yX0_lettersFull ∈ zT := ⟨zT_of (List.mem_of_getElem? (i := 533) (by decide +kernel)) rfl, zT_of (List.mem_of_getElem? (i := 534) (by decide +kernel)) rfl⟩
theorem moX0_addVillage : zMo yX0_addVillage cX0_addVillage 4 (some .int) 2 := ⟨zT_of (List.mem_of_getElem? (i := 229) (by decide +kernel)) rfl, zT_of (List.mem_of_getElem? (i := 2) (by decide +kernel)) rfl, ⟨by decide +kernel, by decide +kernel⟩, by decide +kernel, by decide⟩
theorem mvX0_addVillage : Cond.instanceMethod yX0_addVillage ∈ zT ∧ Cond.selects yX0_addVillage.cls yX0_addVillage yX0_addVillage ∈ zT := ⟨zT_of (List.mem_of_getElem? (i := 227) (by decide +kernel)) rfl, zT_of (List.mem_of_getElem? (i := 228) (by decide +kernel)) rfl⟩
theorem moX0_addRoad : zMo yX0_addRoad cX0_addRoad 4 (some .int) 3 := ⟨zT_of (List.mem_of_getElem? (i := 305) (by decide +kernel)) rfl, zT_of (List.mem_of_getElem? (i := 2) (by decide +kernel)) rfl, ⟨by decide +kernel, by decide +kernel⟩, by decide +kernel, by decide⟩
theorem mvX0_addRoad : Cond.instanceMethod yX0_addRoad ∈ zT ∧ Cond.selects yX0_addRoad.cls yX0_addRoad yX0_addRoad ∈ zT := ⟨zT_of (List.mem_of_getElem? (i := 303) (by decide +kernel)) rfl, zT_of (List.mem_of_getElem? (i := 304) (by decide +kernel)) rfl⟩
theorem moX0_addLetter : zMo yX0_addLetter cX0_addLetter 4 (some .int) 3 := ⟨zT_of (List.mem_of_getElem? (i := 539) (by decide +kernel)) rfl, zT_of (List.mem_of_getElem? (i := 2) (by decide +kernel)) rfl, ⟨by decide +kernel, by decide +kernel⟩, by decide +kernel, by decide⟩
theorem mvX0_addLetter : Cond.instanceMethod yX0_addLetter ∈ zT ∧ Cond.selects yX0_addLetter.cls yX0_addLetter yX0_addLetter ∈ zT := ⟨zT_of (List.mem_of_getElem? (i := 537) (by decide +kernel)) rfl, zT_of (List.mem_of_getElem? (i := 538) (by decide +kernel)) rfl⟩
theorem moX0_heightOf : zMo yX0_heightOf cX0_heightOf 2 (some .int) 1 := ⟨zT_of (List.mem_of_getElem? (i := 247) (by decide +kernel)) rfl, zT_of (List.mem_of_getElem? (i := 2) (by decide +kernel)) rfl, ⟨by decide +kernel, by decide +kernel⟩, by decide +kernel, by decide⟩
theorem mvX0_heightOf : Cond.instanceMethod yX0_heightOf ∈ zT ∧ Cond.selects yX0_heightOf.cls yX0_heightOf yX0_heightOf ∈ zT := ⟨zT_of (List.mem_of_getElem? (i := 245) (by decide +kernel)) rfl, zT_of (List.mem_of_getElem? (i := 246) (by decide +kernel)) rfl⟩
theorem moX0_setHeight : zMo yX0_setHeight cX0_setHeight 3 none 2 := ⟨zT_of (List.mem_of_getElem? (i := 275) (by decide +kernel)) rfl, zT_of (List.mem_of_getElem? (i := 2) (by decide +kernel)) rfl, ⟨by decide +kernel, by decide +kernel⟩, by decide +kernel, by decide⟩
theorem mvX0_setHeight : Cond.instanceMethod yX0_setHeight ∈ zT ∧ Cond.selects yX0_setHeight.cls yX0_setHeight yX0_setHeight ∈ zT := ⟨zT_of (List.mem_of_getElem? (i := 273) (by decide +kernel)) rfl, zT_of (List.mem_of_getElem? (i := 274) (by decide +kernel)) rfl⟩
theorem moX0_isHermits : zMo yX0_isHermits cX0_isHermits 2 (some .boolean) 1 := ⟨zT_of (List.mem_of_getElem? (i := 251) (by decide +kernel)) rfl, zT_of (List.mem_of_getElem? (i := 2) (by decide +kernel)) rfl, ⟨by decide +kernel, by decide +kernel⟩, by decide +kernel, by decide⟩
theorem mvX0_isHermits : Cond.instanceMethod yX0_isHermits ∈ zT ∧ Cond.selects yX0_isHermits.cls yX0_isHermits yX0_isHermits ∈ zT := ⟨zT_of (List.mem_of_getElem? (i := 249) (by decide +kernel)) rfl, zT_of (List.mem_of_getElem? (i := 250) (by decide +kernel)) rfl⟩
theorem moX0_setHermits : zMo yX0_setHermits cX0_setHermits 3 none 2 := ⟨zT_of (List.mem_of_getElem? (i := 234) (by decide +kernel)) rfl, zT_of (List.mem_of_getElem? (i := 2) (by decide +kernel)) rfl, ⟨by decide +kernel, by decide +kernel⟩, by decide +kernel, by decide⟩
theorem mvX0_setHermits : Cond.instanceMethod yX0_setHermits ∈ zT ∧ Cond.selects yX0_setHermits.cls yX0_setHermits yX0_setHermits ∈ zT := ⟨zT_of (List.mem_of_getElem? (i := 232) (by decide +kernel)) rfl, zT_of (List.mem_of_getElem? (i := 233) (by decide +kernel)) rfl⟩
theorem moX0_allVillages : zMo yX0_allVillages cX0_allVillages 1 (some .int) 0 := ⟨zT_of (List.mem_of_getElem? (i := 476) (by decide +kernel)) rfl, zT_of (List.mem_of_getElem? (i := 2) (by decide +kernel)) rfl, ⟨by decide +kernel, by decide +kernel⟩, by decide +kernel, by decide⟩
theorem mvX0_allVillages : Cond.instanceMethod yX0_allVillages ∈ zT ∧ Cond.selects yX0_allVillages.cls yX0_allVillages yX0_allVillages ∈ zT := ⟨zT_of (List.mem_of_getElem? (i := 474) (by decide +kernel)) rfl, zT_of (List.mem_of_getElem? (i := 475) (by decide +kernel)) rfl⟩
theorem moX0_roadsOf : zMo yX0_roadsOf cX0_roadsOf 4 (some .int) 1 := ⟨zT_of (List.mem_of_getElem? (i := 255) (by decide +kernel)) rfl, zT_of (List.mem_of_getElem? (i := 2) (by decide +kernel)) rfl, ⟨by decide +kernel, by decide +kernel⟩, by decide +kernel, by decide⟩
theorem mvX0_roadsOf : Cond.instanceMethod yX0_roadsOf ∈ zT ∧ Cond.selects yX0_roadsOf.cls yX0_roadsOf yX0_roadsOf ∈ zT := ⟨zT_of (List.mem_of_getElem? (i := 253) (by decide +kernel)) rfl, zT_of (List.mem_of_getElem? (i := 254) (by decide +kernel)) rfl⟩
theorem moX0_areJoined : zMo yX0_areJoined cX0_areJoined 4 (some .boolean) 2 := ⟨zT_of (List.mem_of_getElem? (i := 296) (by decide +kernel)) rfl, zT_of (List.mem_of_getElem? (i := 2) (by decide +kernel)) rfl, ⟨by decide +kernel, by decide +kernel⟩, by decide +kernel, by decide⟩
theorem mvX0_areJoined : Cond.instanceMethod yX0_areJoined ∈ zT ∧ Cond.selects yX0_areJoined.cls yX0_areJoined yX0_areJoined ∈ zT := ⟨zT_of (List.mem_of_getElem? (i := 294) (by decide +kernel)) rfl, zT_of (List.mem_of_getElem? (i := 295) (by decide +kernel)) rfl⟩
theorem moX0_lowest : zMo yX0_lowest cX0_lowest 3 (some .int) 0 := ⟨zT_of (List.mem_of_getElem? (i := 327) (by decide +kernel)) rfl, zT_of (List.mem_of_getElem? (i := 2) (by decide +kernel)) rfl, ⟨by decide +kernel, by decide +kernel⟩, by decide +kernel, by decide⟩
theorem mvX0_lowest : Cond.instanceMethod yX0_lowest ∈ zT ∧ Cond.selects yX0_lowest.cls yX0_lowest yX0_lowest ∈ zT := ⟨zT_of (List.mem_of_getElem? (i := 325) (by decide +kernel)) rfl, zT_of (List.mem_of_getElem? (i := 326) (by decide +kernel)) rfl⟩
theorem moX0_highest : zMo yX0_highest cX0_highest 3 (some .int) 0 := ⟨zT_of (List.mem_of_getElem? (i := 335) (by decide +kernel)) rfl, zT_of (List.mem_of_getElem? (i := 2) (by decide +kernel)) rfl, ⟨by decide +kernel, by decide +kernel⟩, by decide +kernel, by decide⟩
theorem mvX0_highest : Cond.instanceMethod yX0_highest ∈ zT ∧ Cond.selects yX0_highest.cls yX0_highest yX0_highest ∈ zT := ⟨zT_of (List.mem_of_getElem? (i := 333) (by decide +kernel)) rfl, zT_of (List.mem_of_getElem? (i := 334) (by decide +kernel)) rfl⟩
theorem moX0_heightsTogether : zMo yX0_heightsTogether cX0_heightsTogether 3 (some .int) 0 := ⟨zT_of (List.mem_of_getElem? (i := 876) (by decide +kernel)) rfl, zT_of (List.mem_of_getElem? (i := 2) (by decide +kernel)) rfl, ⟨by decide +kernel, by decide +kernel⟩, by decide +kernel, by decide⟩
theorem mvX0_heightsTogether : Cond.instanceMethod yX0_heightsTogether ∈ zT ∧ Cond.selects yX0_heightsTogether.cls yX0_heightsTogether yX0_heightsTogether ∈ zT := ⟨zT_of (List.mem_of_getElem? (i := 874) (by decide +kernel)) rfl, zT_of (List.mem_of_getElem? (i := 875) (by decide +kernel)) rfl⟩
theorem moX0_takes : zMo yX0_takes cX0_takes 3 (some .boolean) 2 := ⟨zT_of (List.mem_of_getElem? (i := 357) (by decide +kernel)) rfl, zT_of (List.mem_of_getElem? (i := 2) (by decide +kernel)) rfl, ⟨by decide +kernel, by decide +kernel⟩, by decide +kernel, by decide⟩
theorem mvX0_takes : Cond.instanceMethod yX0_takes ∈ zT ∧ Cond.selects yX0_takes.cls yX0_takes yX0_takes ∈ zT := ⟨zT_of (List.mem_of_getElem? (i := 355) (by decide +kernel)) rfl, zT_of (List.mem_of_getElem? (i := 356) (by decide +kernel)) rfl⟩
theorem moX0_carries : zMo yX0_carries cX0_carries 4 (some .boolean) 3 := ⟨zT_of (List.mem_of_getElem? (i := 353) (by decide +kernel)) rfl, zT_of (List.mem_of_getElem? (i := 2) (by decide +kernel)) rfl, ⟨by decide +kernel, by decide +kernel⟩, by decide +kernel, by decide⟩
theorem mvX0_carries : Cond.instanceMethod yX0_carries ∈ zT ∧ Cond.selects yX0_carries.cls yX0_carries yX0_carries ∈ zT := ⟨zT_of (List.mem_of_getElem? (i := 351) (by decide +kernel)) rfl, zT_of (List.mem_of_getElem? (i := 352) (by decide +kernel)) rfl⟩
theorem moX0_leadsInto : zMo yX0_leadsInto cX0_leadsInto 4 (some .boolean) 3 := ⟨zT_of (List.mem_of_getElem? (i := 854) (by decide +kernel)) rfl, zT_of (List.mem_of_getElem? (i := 2) (by decide +kernel)) rfl, ⟨by decide +kernel, by decide +kernel⟩, by decide +kernel, by decide⟩
theorem mvX0_leadsInto : Cond.instanceMethod yX0_leadsInto ∈ zT ∧ Cond.selects yX0_leadsInto.cls yX0_leadsInto yX0_leadsInto ∈ zT := ⟨zT_of (List.mem_of_getElem? (i := 852) (by decide +kernel)) rfl, zT_of (List.mem_of_getElem? (i := 853) (by decide +kernel)) rfl⟩
theorem moX0_balloonTakes : zMo yX0_balloonTakes cX0_balloonTakes 2 (some .boolean) 1 := ⟨zT_of (List.mem_of_getElem? (i := 387) (by decide +kernel)) rfl, zT_of (List.mem_of_getElem? (i := 2) (by decide +kernel)) rfl, ⟨by decide +kernel, by decide +kernel⟩, by decide +kernel, by decide⟩
theorem mvX0_balloonTakes : Cond.instanceMethod yX0_balloonTakes ∈ zT ∧ Cond.selects yX0_balloonTakes.cls yX0_balloonTakes yX0_balloonTakes ∈ zT := ⟨zT_of (List.mem_of_getElem? (i := 385) (by decide +kernel)) rfl, zT_of (List.mem_of_getElem? (i := 386) (by decide +kernel)) rfl⟩
theorem moX0_liesIn : zMo yX0_liesIn cX0_liesIn 3 (some .boolean) 2 := ⟨zT_of (List.mem_of_getElem? (i := 263) (by decide +kernel)) rfl, zT_of (List.mem_of_getElem? (i := 2) (by decide +kernel)) rfl, ⟨by decide +kernel, by decide +kernel⟩, by decide +kernel, by decide⟩
theorem mvX0_liesIn : Cond.instanceMethod yX0_liesIn ∈ zT ∧ Cond.selects yX0_liesIn.cls yX0_liesIn yX0_liesIn ∈ zT := ⟨zT_of (List.mem_of_getElem? (i := 261) (by decide +kernel)) rfl, zT_of (List.mem_of_getElem? (i := 262) (by decide +kernel)) rfl⟩
theorem moX0_isThere : zMo yX0_isThere cX0_isThere 2 (some .boolean) 1 := ⟨zT_of (List.mem_of_getElem? (i := 549) (by decide +kernel)) rfl, zT_of (List.mem_of_getElem? (i := 2) (by decide +kernel)) rfl, ⟨by decide +kernel, by decide +kernel⟩, by decide +kernel, by decide⟩
theorem mvX0_isThere : Cond.instanceMethod yX0_isThere ∈ zT ∧ Cond.selects yX0_isThere.cls yX0_isThere yX0_isThere ∈ zT := ⟨zT_of (List.mem_of_getElem? (i := 547) (by decide +kernel)) rfl, zT_of (List.mem_of_getElem? (i := 548) (by decide +kernel)) rfl⟩
theorem moX0_lettersIn : zMo yX0_lettersIn cX0_lettersIn 4 (some .int) 1 := ⟨zT_of (List.mem_of_getElem? (i := 259) (by decide +kernel)) rfl, zT_of (List.mem_of_getElem? (i := 2) (by decide +kernel)) rfl, ⟨by decide +kernel, by decide +kernel⟩, by decide +kernel, by decide⟩
theorem mvX0_lettersIn : Cond.instanceMethod yX0_lettersIn ∈ zT ∧ Cond.selects yX0_lettersIn.cls yX0_lettersIn yX0_lettersIn ∈ zT := ⟨zT_of (List.mem_of_getElem? (i := 257) (by decide +kernel)) rfl, zT_of (List.mem_of_getElem? (i := 258) (by decide +kernel)) rfl⟩
theorem moX0_lettersThere : zMo yX0_lettersThere cX0_lettersThere 3 (some .int) 0 := ⟨zT_of (List.mem_of_getElem? (i := 583) (by decide +kernel)) rfl, zT_of (List.mem_of_getElem? (i := 2) (by decide +kernel)) rfl, ⟨by decide +kernel, by decide +kernel⟩, by decide +kernel, by decide⟩
theorem mvX0_lettersThere : Cond.instanceMethod yX0_lettersThere ∈ zT ∧ Cond.selects yX0_lettersThere.cls yX0_lettersThere yX0_lettersThere ∈ zT := ⟨zT_of (List.mem_of_getElem? (i := 581) (by decide +kernel)) rfl, zT_of (List.mem_of_getElem? (i := 582) (by decide +kernel)) rfl⟩
theorem moX0_lettersOnTheirWay : zMo yX0_lettersOnTheirWay cX0_lettersOnTheirWay 3 (some .int) 0 := ⟨zT_of (List.mem_of_getElem? (i := 605) (by decide +kernel)) rfl, zT_of (List.mem_of_getElem? (i := 2) (by decide +kernel)) rfl, ⟨by decide +kernel, by decide +kernel⟩, by decide +kernel, by decide⟩
theorem mvX0_lettersOnTheirWay : Cond.instanceMethod yX0_lettersOnTheirWay ∈ zT ∧ Cond.selects yX0_lettersOnTheirWay.cls yX0_lettersOnTheirWay yX0_lettersOnTheirWay ∈ zT := ⟨zT_of (List.mem_of_getElem? (i := 603) (by decide +kernel)) rfl, zT_of (List.mem_of_getElem? (i := 604) (by decide +kernel)) rfl⟩
theorem moX0_passDay : zMo yX0_passDay cX0_passDay 4 none 3 := ⟨zT_of (List.mem_of_getElem? (i := 592) (by decide +kernel)) rfl, zT_of (List.mem_of_getElem? (i := 2) (by decide +kernel)) rfl, ⟨by decide +kernel, by decide +kernel⟩, by decide +kernel, by decide⟩
theorem mvX0_passDay : Cond.instanceMethod yX0_passDay ∈ zT ∧ Cond.selects yX0_passDay.cls yX0_passDay yX0_passDay ∈ zT := ⟨zT_of (List.mem_of_getElem? (i := 590) (by decide +kernel)) rfl, zT_of (List.mem_of_getElem? (i := 591) (by decide +kernel)) rfl⟩
theorem moX1_bring : zMo yX1_bring cX1_bring 3 (some .int) 2 := ⟨zT_of (List.mem_of_getElem? (i := 645) (by decide +kernel)) rfl, zT_of (List.mem_of_getElem? (i := 11) (by decide +kernel)) rfl, ⟨by decide +kernel, by decide +kernel⟩, by decide +kernel, by decide⟩
theorem mvX1_bring : Cond.static yX1_bring ∈ zT := zT_of (List.mem_of_getElem? (i := 644) (by decide +kernel)) rfl
theorem moX1_bringItem : zMo yX1_bringItem cX1_bringItem 3 (some .boolean) 2 := ⟨zT_of (List.mem_of_getElem? (i := 672) (by decide +kernel)) rfl, zT_of (List.mem_of_getElem? (i := 11) (by decide +kernel)) rfl, ⟨by decide +kernel, by decide +kernel⟩, by decide +kernel, by decide⟩
theorem mvX1_bringItem : Cond.static yX1_bringItem ∈ zT := zT_of (List.mem_of_getElem? (i := 671) (by decide +kernel)) rfl
theorem moX1_bringVillage : zMo yX1_bringVillage cX1_bringVillage 4 (some .boolean) 2 := ⟨zT_of (List.mem_of_getElem? (i := 728) (by decide +kernel)) rfl, zT_of (List.mem_of_getElem? (i := 11) (by decide +kernel)) rfl, ⟨by decide +kernel, by decide +kernel⟩, by decide +kernel, by decide⟩
theorem mvX1_bringVillage : Cond.static yX1_bringVillage ∈ zT := zT_of (List.mem_of_getElem? (i := 727) (by decide +kernel)) rfl
theorem moX1_bringRoad : zMo yX1_bringRoad cX1_bringRoad 5 (some .boolean) 2 := ⟨zT_of (List.mem_of_getElem? (i := 740) (by decide +kernel)) rfl, zT_of (List.mem_of_getElem? (i := 11) (by decide +kernel)) rfl, ⟨by decide +kernel, by decide +kernel⟩, by decide +kernel, by decide⟩
theorem mvX1_bringRoad : Cond.static yX1_bringRoad ∈ zT := zT_of (List.mem_of_getElem? (i := 739) (by decide +kernel)) rfl
theorem moX1_bringSlide : zMo yX1_bringSlide cX1_bringSlide 3 (some .boolean) 2 := ⟨zT_of (List.mem_of_getElem? (i := 752) (by decide +kernel)) rfl, zT_of (List.mem_of_getElem? (i := 11) (by decide +kernel)) rfl, ⟨by decide +kernel, by decide +kernel⟩, by decide +kernel, by decide⟩
theorem mvX1_bringSlide : Cond.static yX1_bringSlide ∈ zT := zT_of (List.mem_of_getElem? (i := 751) (by decide +kernel)) rfl
theorem moX1_bringEvery : zMo yX1_bringEvery cX1_bringEvery 2 (some .boolean) 2 := ⟨zT_of (List.mem_of_getElem? (i := 757) (by decide +kernel)) rfl, zT_of (List.mem_of_getElem? (i := 11) (by decide +kernel)) rfl, ⟨by decide +kernel, by decide +kernel⟩, by decide +kernel, by decide⟩
theorem mvX1_bringEvery : Cond.static yX1_bringEvery ∈ zT := zT_of (List.mem_of_getElem? (i := 756) (by decide +kernel)) rfl
theorem moX1_bringLetter : zMo yX1_bringLetter cX1_bringLetter 4 (some .boolean) 3 := ⟨zT_of (List.mem_of_getElem? (i := 772) (by decide +kernel)) rfl, zT_of (List.mem_of_getElem? (i := 11) (by decide +kernel)) rfl, ⟨by decide +kernel, by decide +kernel⟩, by decide +kernel, by decide⟩
theorem mvX1_bringLetter : Cond.static yX1_bringLetter ∈ zT := zT_of (List.mem_of_getElem? (i := 771) (by decide +kernel)) rfl
theorem moX1_standsVillage : zMo yX1_standsVillage cX1_standsVillage 2 (some .boolean) 2 := ⟨zT_of (List.mem_of_getElem? (i := 744) (by decide +kernel)) rfl, zT_of (List.mem_of_getElem? (i := 11) (by decide +kernel)) rfl, ⟨by decide +kernel, by decide +kernel⟩, by decide +kernel, by decide⟩
theorem mvX1_standsVillage : Cond.static yX1_standsVillage ∈ zT := zT_of (List.mem_of_getElem? (i := 743) (by decide +kernel)) rfl
theorem moX1_kindNamed : zMo yX1_kindNamed cX1_kindNamed 2 (some .int) 1 := ⟨zT_of (List.mem_of_getElem? (i := 760) (by decide +kernel)) rfl, zT_of (List.mem_of_getElem? (i := 11) (by decide +kernel)) rfl, ⟨by decide +kernel, by decide +kernel⟩, by decide +kernel, by decide⟩
theorem mvX1_kindNamed : Cond.static yX1_kindNamed ∈ zT := zT_of (List.mem_of_getElem? (i := 759) (by decide +kernel)) rfl
theorem moX1_nameOf : zMo yX1_nameOf cX1_nameOf 1 (some (.object "java/lang/String")) 1 := ⟨zT_of (List.mem_of_getElem? (i := 763) (by decide +kernel)) rfl, zT_of (List.mem_of_getElem? (i := 11) (by decide +kernel)) rfl, ⟨by decide +kernel, by decide +kernel⟩, by decide +kernel, by decide⟩
theorem mvX1_nameOf : Cond.static yX1_nameOf ∈ zT := zT_of (List.mem_of_getElem? (i := 762) (by decide +kernel)) rfl
theorem moX2_isUnder : zMo yX2_isUnder cX2_isUnder 4 (some .boolean) 2 := ⟨zT_of (List.mem_of_getElem? (i := 365) (by decide +kernel)) rfl, zT_of (List.mem_of_getElem? (i := 7) (by decide +kernel)) rfl, ⟨by decide +kernel, by decide +kernel⟩, by decide +kernel, by decide⟩
theorem mvX2_isUnder : Cond.static yX2_isUnder ∈ zT := zT_of (List.mem_of_getElem? (i := 364) (by decide +kernel)) rfl
theorem moX2_daysFor : zMo yX2_daysFor cX2_daysFor 2 (some .int) 2 := ⟨zT_of (List.mem_of_getElem? (i := 345) (by decide +kernel)) rfl, zT_of (List.mem_of_getElem? (i := 7) (by decide +kernel)) rfl, ⟨by decide +kernel, by decide +kernel⟩, by decide +kernel, by decide⟩
theorem mvX2_daysFor : Cond.static yX2_daysFor ∈ zT := zT_of (List.mem_of_getElem? (i := 344) (by decide +kernel)) rfl
theorem moX2_leastDrop : zMo yX2_leastDrop cX2_leastDrop 1 (some .int) 1 := ⟨zT_of (List.mem_of_getElem? (i := 362) (by decide +kernel)) rfl, zT_of (List.mem_of_getElem? (i := 7) (by decide +kernel)) rfl, ⟨by decide +kernel, by decide +kernel⟩, by decide +kernel, by decide⟩
theorem mvX2_leastDrop : Cond.static yX2_leastDrop ∈ zT := zT_of (List.mem_of_getElem? (i := 361) (by decide +kernel)) rfl
theorem moX3_isWidth : zMo yX3_isWidth cX3_isWidth 1 (some .boolean) 1 := ⟨zT_of (List.mem_of_getElem? (i := 794) (by decide +kernel)) rfl, zT_of (List.mem_of_getElem? (i := 5) (by decide +kernel)) rfl, ⟨by decide +kernel, by decide +kernel⟩, by decide +kernel, by decide⟩
theorem mvX3_isWidth : Cond.static yX3_isWidth ∈ zT := zT_of (List.mem_of_getElem? (i := 793) (by decide +kernel)) rfl
theorem moX3_isMissing : zMo yX3_isMissing cX3_isMissing 1 (some .boolean) 0 := ⟨zT_of (List.mem_of_getElem? (i := 809) (by decide +kernel)) rfl, zT_of (List.mem_of_getElem? (i := 5) (by decide +kernel)) rfl, ⟨by decide +kernel, by decide +kernel⟩, by decide +kernel, by decide⟩
theorem mvX3_isMissing : Cond.instanceMethod yX3_isMissing ∈ zT ∧ Cond.selects yX3_isMissing.cls yX3_isMissing yX3_isMissing ∈ zT := ⟨zT_of (List.mem_of_getElem? (i := 807) (by decide +kernel)) rfl, zT_of (List.mem_of_getElem? (i := 808) (by decide +kernel)) rfl⟩
theorem moX3_renew : zMo yX3_renew cX3_renew 4 none 2 := ⟨zT_of (List.mem_of_getElem? (i := 799) (by decide +kernel)) rfl, zT_of (List.mem_of_getElem? (i := 5) (by decide +kernel)) rfl, ⟨by decide +kernel, by decide +kernel⟩, by decide +kernel, by decide⟩
theorem mvX3_renew : Cond.instanceMethod yX3_renew ∈ zT ∧ Cond.selects yX3_renew.cls yX3_renew yX3_renew ∈ zT := ⟨zT_of (List.mem_of_getElem? (i := 797) (by decide +kernel)) rfl, zT_of (List.mem_of_getElem? (i := 798) (by decide +kernel)) rfl⟩
theorem moX3_has : zMo yX3_has cX3_has 2 (some .boolean) 1 := ⟨zT_of (List.mem_of_getElem? (i := 814) (by decide +kernel)) rfl, zT_of (List.mem_of_getElem? (i := 5) (by decide +kernel)) rfl, ⟨by decide +kernel, by decide +kernel⟩, by decide +kernel, by decide⟩
theorem mvX3_has : Cond.instanceMethod yX3_has ∈ zT ∧ Cond.selects yX3_has.cls yX3_has yX3_has ∈ zT := ⟨zT_of (List.mem_of_getElem? (i := 812) (by decide +kernel)) rfl, zT_of (List.mem_of_getElem? (i := 813) (by decide +kernel)) rfl⟩
theorem moX3_hasRun : zMo yX3_hasRun cX3_hasRun 3 (some .boolean) 2 := ⟨zT_of (List.mem_of_getElem? (i := 835) (by decide +kernel)) rfl, zT_of (List.mem_of_getElem? (i := 5) (by decide +kernel)) rfl, ⟨by decide +kernel, by decide +kernel⟩, by decide +kernel, by decide⟩
theorem mvX3_hasRun : Cond.instanceMethod yX3_hasRun ∈ zT ∧ Cond.selects yX3_hasRun.cls yX3_hasRun yX3_hasRun ∈ zT := ⟨zT_of (List.mem_of_getElem? (i := 833) (by decide +kernel)) rfl, zT_of (List.mem_of_getElem? (i := 834) (by decide +kernel)) rfl⟩
theorem moX3_number : zMo yX3_number cX3_number 2 (some .long) 1 := ⟨zT_of (List.mem_of_getElem? (i := 818) (by decide +kernel)) rfl, zT_of (List.mem_of_getElem? (i := 5) (by decide +kernel)) rfl, ⟨by decide +kernel, by decide +kernel⟩, by decide +kernel, by decide⟩
theorem mvX3_number : Cond.instanceMethod yX3_number ∈ zT ∧ Cond.selects yX3_number.cls yX3_number yX3_number ∈ zT := ⟨zT_of (List.mem_of_getElem? (i := 816) (by decide +kernel)) rfl, zT_of (List.mem_of_getElem? (i := 817) (by decide +kernel)) rfl⟩
theorem moX3_put : zMo yX3_put cX3_put 4 none 2 := ⟨zT_of (List.mem_of_getElem? (i := 823) (by decide +kernel)) rfl, zT_of (List.mem_of_getElem? (i := 5) (by decide +kernel)) rfl, ⟨by decide +kernel, by decide +kernel⟩, by decide +kernel, by decide⟩
theorem mvX3_put : Cond.instanceMethod yX3_put ∈ zT ∧ Cond.selects yX3_put.cls yX3_put yX3_put ∈ zT := ⟨zT_of (List.mem_of_getElem? (i := 821) (by decide +kernel)) rfl, zT_of (List.mem_of_getElem? (i := 822) (by decide +kernel)) rfl⟩
theorem moX3_narrowed : zMo yX3_narrowed cX3_narrowed 3 (some .long) 1 := ⟨zT_of (List.mem_of_getElem? (i := 827) (by decide +kernel)) rfl, zT_of (List.mem_of_getElem? (i := 5) (by decide +kernel)) rfl, ⟨by decide +kernel, by decide +kernel⟩, by decide +kernel, by decide⟩
theorem mvX3_narrowed : Cond.instanceMethod yX3_narrowed ∈ zT ∧ Cond.selects yX3_narrowed.cls yX3_narrowed yX3_narrowed ∈ zT := ⟨zT_of (List.mem_of_getElem? (i := 826) (by decide +kernel)) rfl, zT_priv (q := (yX3_narrowed, 3)) (List.mem_of_getElem? (i := 22) (by decide +kernel))⟩
theorem moX4_append : zMo yX4_append cX4_append 2 none 1 := ⟨zT_of (List.mem_of_getElem? (i := 634) (by decide +kernel)) rfl, zT_of (List.mem_of_getElem? (i := 4) (by decide +kernel)) rfl, ⟨by decide +kernel, by decide +kernel⟩, by decide +kernel, by decide⟩
theorem mvX4_append : Cond.instanceMethod yX4_append ∈ zT ∧ Cond.selects yX4_append.cls yX4_append yX4_append ∈ zT := ⟨zT_of (List.mem_of_getElem? (i := 632) (by decide +kernel)) rfl, zT_of (List.mem_of_getElem? (i := 633) (by decide +kernel)) rfl⟩
theorem moX4_rewind : zMo yX4_rewind cX4_rewind 1 none 0 := ⟨zT_of (List.mem_of_getElem? (i := 649) (by decide +kernel)) rfl, zT_of (List.mem_of_getElem? (i := 4) (by decide +kernel)) rfl, ⟨by decide +kernel, by decide +kernel⟩, by decide +kernel, by decide⟩
theorem mvX4_rewind : Cond.instanceMethod yX4_rewind ∈ zT ∧ Cond.selects yX4_rewind.cls yX4_rewind yX4_rewind ∈ zT := ⟨zT_of (List.mem_of_getElem? (i := 647) (by decide +kernel)) rfl, zT_of (List.mem_of_getElem? (i := 648) (by decide +kernel)) rfl⟩
theorem moX4_advance : zMo yX4_advance cX4_advance 1 none 0 := ⟨zT_of (List.mem_of_getElem? (i := 653) (by decide +kernel)) rfl, zT_of (List.mem_of_getElem? (i := 4) (by decide +kernel)) rfl, ⟨by decide +kernel, by decide +kernel⟩, by decide +kernel, by decide⟩
theorem mvX4_advance : Cond.instanceMethod yX4_advance ∈ zT ∧ Cond.selects yX4_advance.cls yX4_advance yX4_advance ∈ zT := ⟨zT_of (List.mem_of_getElem? (i := 651) (by decide +kernel)) rfl, zT_of (List.mem_of_getElem? (i := 652) (by decide +kernel)) rfl⟩
theorem moX4_byteAt : zMo yX4_byteAt cX4_byteAt 2 (some .int) 1 := ⟨zT_of (List.mem_of_getElem? (i := 657) (by decide +kernel)) rfl, zT_of (List.mem_of_getElem? (i := 4) (by decide +kernel)) rfl, ⟨by decide +kernel, by decide +kernel⟩, by decide +kernel, by decide⟩
theorem mvX4_byteAt : Cond.instanceMethod yX4_byteAt ∈ zT ∧ Cond.selects yX4_byteAt.cls yX4_byteAt yX4_byteAt ∈ zT := ⟨zT_of (List.mem_of_getElem? (i := 656) (by decide +kernel)) rfl, zT_priv (q := (yX4_byteAt, 6)) (List.mem_of_getElem? (i := 18) (by decide +kernel))⟩
theorem moX4_sortOf : zMo yX4_sortOf cX4_sortOf 1 (some .int) 1 := ⟨zT_of (List.mem_of_getElem? (i := 660) (by decide +kernel)) rfl, zT_of (List.mem_of_getElem? (i := 4) (by decide +kernel)) rfl, ⟨by decide +kernel, by decide +kernel⟩, by decide +kernel, by decide⟩
theorem mvX4_sortOf : Cond.static yX4_sortOf ∈ zT := zT_of (List.mem_of_getElem? (i := 659) (by decide +kernel)) rfl
theorem moX4_passWord : zMo yX4_passWord cX4_passWord 1 none 0 := ⟨zT_of (List.mem_of_getElem? (i := 669) (by decide +kernel)) rfl, zT_of (List.mem_of_getElem? (i := 4) (by decide +kernel)) rfl, ⟨by decide +kernel, by decide +kernel⟩, by decide +kernel, by decide⟩
theorem mvX4_passWord : Cond.instanceMethod yX4_passWord ∈ zT ∧ Cond.selects yX4_passWord.cls yX4_passWord yX4_passWord ∈ zT := ⟨zT_of (List.mem_of_getElem? (i := 668) (by decide +kernel)) rfl, zT_priv (q := (yX4_passWord, 6)) (List.mem_of_getElem? (i := 20) (by decide +kernel))⟩
theorem moX4_passNumber : zMo yX4_passNumber cX4_passNumber 1 none 0 := ⟨zT_of (List.mem_of_getElem? (i := 664) (by decide +kernel)) rfl, zT_of (List.mem_of_getElem? (i := 4) (by decide +kernel)) rfl, ⟨by decide +kernel, by decide +kernel⟩, by decide +kernel, by decide⟩
theorem mvX4_passNumber : Cond.instanceMethod yX4_passNumber ∈ zT ∧ Cond.selects yX4_passNumber.cls yX4_passNumber yX4_passNumber ∈ zT := ⟨zT_of (List.mem_of_getElem? (i := 663) (by decide +kernel)) rfl, zT_priv (q := (yX4_passNumber, 6)) (List.mem_of_getElem? (i := 19) (by decide +kernel))⟩
theorem moX4_isEnd : zMo yX4_isEnd cX4_isEnd 1 (some .boolean) 0 := ⟨zT_of (List.mem_of_getElem? (i := 778) (by decide +kernel)) rfl, zT_of (List.mem_of_getElem? (i := 4) (by decide +kernel)) rfl, ⟨by decide +kernel, by decide +kernel⟩, by decide +kernel, by decide⟩
theorem mvX4_isEnd : Cond.instanceMethod yX4_isEnd ∈ zT ∧ Cond.selects yX4_isEnd.cls yX4_isEnd yX4_isEnd ∈ zT := ⟨zT_of (List.mem_of_getElem? (i := 776) (by decide +kernel)) rfl, zT_of (List.mem_of_getElem? (i := 777) (by decide +kernel)) rfl⟩
theorem moX4_isSemicolon : zMo yX4_isSemicolon cX4_isSemicolon 1 (some .boolean) 0 := ⟨zT_of (List.mem_of_getElem? (i := 782) (by decide +kernel)) rfl, zT_of (List.mem_of_getElem? (i := 4) (by decide +kernel)) rfl, ⟨by decide +kernel, by decide +kernel⟩, by decide +kernel, by decide⟩
theorem mvX4_isSemicolon : Cond.instanceMethod yX4_isSemicolon ∈ zT ∧ Cond.selects yX4_isSemicolon.cls yX4_isSemicolon yX4_isSemicolon ∈ zT := ⟨zT_of (List.mem_of_getElem? (i := 780) (by decide +kernel)) rfl, zT_of (List.mem_of_getElem? (i := 781) (by decide +kernel)) rfl⟩
theorem moX4_isNumber : zMo yX4_isNumber cX4_isNumber 3 (some .boolean) 2 := ⟨zT_of (List.mem_of_getElem? (i := 734) (by decide +kernel)) rfl, zT_of (List.mem_of_getElem? (i := 4) (by decide +kernel)) rfl, ⟨by decide +kernel, by decide +kernel⟩, by decide +kernel, by decide⟩
theorem mvX4_isNumber : Cond.instanceMethod yX4_isNumber ∈ zT ∧ Cond.selects yX4_isNumber.cls yX4_isNumber yX4_isNumber ∈ zT := ⟨zT_of (List.mem_of_getElem? (i := 732) (by decide +kernel)) rfl, zT_of (List.mem_of_getElem? (i := 733) (by decide +kernel)) rfl⟩
theorem moX4_isWord : zMo yX4_isWord cX4_isWord 3 (some .boolean) 1 := ⟨zT_of (List.mem_of_getElem? (i := 677) (by decide +kernel)) rfl, zT_of (List.mem_of_getElem? (i := 4) (by decide +kernel)) rfl, ⟨by decide +kernel, by decide +kernel⟩, by decide +kernel, by decide⟩
theorem mvX4_isWord : Cond.instanceMethod yX4_isWord ∈ zT ∧ Cond.selects yX4_isWord.cls yX4_isWord yX4_isWord ∈ zT := ⟨zT_of (List.mem_of_getElem? (i := 675) (by decide +kernel)) rfl, zT_of (List.mem_of_getElem? (i := 676) (by decide +kernel)) rfl⟩
theorem moX5_layOut : zMo yX5_layOut cX5_layOut 5 none 2 := ⟨zT_of (List.mem_of_getElem? (i := 375) (by decide +kernel)) rfl, zT_of (List.mem_of_getElem? (i := 3) (by decide +kernel)) rfl, ⟨by decide +kernel, by decide +kernel⟩, by decide +kernel, by decide⟩
theorem mvX5_layOut : Cond.instanceMethod yX5_layOut ∈ zT ∧ Cond.selects yX5_layOut.cls yX5_layOut yX5_layOut ∈ zT := ⟨zT_of (List.mem_of_getElem? (i := 373) (by decide +kernel)) rfl, zT_of (List.mem_of_getElem? (i := 374) (by decide +kernel)) rfl⟩
theorem moX5_layStep : zMo yX5_layStep cX5_layStep 6 none 5 := ⟨zT_of (List.mem_of_getElem? (i := 394) (by decide +kernel)) rfl, zT_of (List.mem_of_getElem? (i := 3) (by decide +kernel)) rfl, ⟨by decide +kernel, by decide +kernel⟩, by decide +kernel, by decide⟩
theorem mvX5_layStep : Cond.instanceMethod yX5_layStep ∈ zT ∧ Cond.selects yX5_layStep.cls yX5_layStep yX5_layStep ∈ zT := ⟨zT_of (List.mem_of_getElem? (i := 393) (by decide +kernel)) rfl, zT_priv (q := (yX5_layStep, 9)) (List.mem_of_getElem? (i := 3) (by decide +kernel))⟩
theorem moX5_joinSteps : zMo yX5_joinSteps cX5_joinSteps 3 none 0 := ⟨zT_of (List.mem_of_getElem? (i := 403) (by decide +kernel)) rfl, zT_of (List.mem_of_getElem? (i := 3) (by decide +kernel)) rfl, ⟨by decide +kernel, by decide +kernel⟩, by decide +kernel, by decide⟩
theorem mvX5_joinSteps : Cond.instanceMethod yX5_joinSteps ∈ zT ∧ Cond.selects yX5_joinSteps.cls yX5_joinSteps yX5_joinSteps ∈ zT := ⟨zT_of (List.mem_of_getElem? (i := 402) (by decide +kernel)) rfl, zT_priv (q := (yX5_joinSteps, 9)) (List.mem_of_getElem? (i := 5) (by decide +kernel))⟩
theorem moX5_shortenBy : zMo yX5_shortenBy cX5_shortenBy 7 none 2 := ⟨zT_of (List.mem_of_getElem? (i := 410) (by decide +kernel)) rfl, zT_of (List.mem_of_getElem? (i := 3) (by decide +kernel)) rfl, ⟨by decide +kernel, by decide +kernel⟩, by decide +kernel, by decide⟩
theorem mvX5_shortenBy : Cond.instanceMethod yX5_shortenBy ∈ zT ∧ Cond.selects yX5_shortenBy.cls yX5_shortenBy yX5_shortenBy ∈ zT := ⟨zT_of (List.mem_of_getElem? (i := 409) (by decide +kernel)) rfl, zT_priv (q := (yX5_shortenBy, 9)) (List.mem_of_getElem? (i := 6) (by decide +kernel))⟩
theorem moX5_areHere : zMo yX5_areHere cX5_areHere 3 (some .boolean) 2 := ⟨zT_of (List.mem_of_getElem? (i := 398) (by decide +kernel)) rfl, zT_of (List.mem_of_getElem? (i := 3) (by decide +kernel)) rfl, ⟨by decide +kernel, by decide +kernel⟩, by decide +kernel, by decide⟩
theorem mvX5_areHere : Cond.instanceMethod yX5_areHere ∈ zT ∧ Cond.selects yX5_areHere.cls yX5_areHere yX5_areHere ∈ zT := ⟨zT_of (List.mem_of_getElem? (i := 397) (by decide +kernel)) rfl, zT_priv (q := (yX5_areHere, 9)) (List.mem_of_getElem? (i := 4) (by decide +kernel))⟩
theorem moX5_stepDays : zMo yX5_stepDays cX5_stepDays 3 (some .int) 2 := ⟨zT_of (List.mem_of_getElem? (i := 575) (by decide +kernel)) rfl, zT_of (List.mem_of_getElem? (i := 3) (by decide +kernel)) rfl, ⟨by decide +kernel, by decide +kernel⟩, by decide +kernel, by decide⟩
theorem mvX5_stepDays : Cond.instanceMethod yX5_stepDays ∈ zT ∧ Cond.selects yX5_stepDays.cls yX5_stepDays yX5_stepDays ∈ zT := ⟨zT_of (List.mem_of_getElem? (i := 574) (by decide +kernel)) rfl, zT_priv (q := (yX5_stepDays, 9)) (List.mem_of_getElem? (i := 15) (by decide +kernel))⟩
theorem moX5_downDays : zMo yX5_downDays cX5_downDays 3 (some .int) 2 := ⟨zT_of (List.mem_of_getElem? (i := 418) (by decide +kernel)) rfl, zT_of (List.mem_of_getElem? (i := 3) (by decide +kernel)) rfl, ⟨by decide +kernel, by decide +kernel⟩, by decide +kernel, by decide⟩
theorem mvX5_downDays : Cond.instanceMethod yX5_downDays ∈ zT ∧ Cond.selects yX5_downDays.cls yX5_downDays yX5_downDays ∈ zT := ⟨zT_of (List.mem_of_getElem? (i := 417) (by decide +kernel)) rfl, zT_priv (q := (yX5_downDays, 9)) (List.mem_of_getElem? (i := 7) (by decide +kernel))⟩
theorem moX5_comesDown : zMo yX5_comesDown cX5_comesDown 3 (some .boolean) 2 := ⟨zT_of (List.mem_of_getElem? (i := 443) (by decide +kernel)) rfl, zT_of (List.mem_of_getElem? (i := 3) (by decide +kernel)) rfl, ⟨by decide +kernel, by decide +kernel⟩, by decide +kernel, by decide⟩
theorem mvX5_comesDown : Cond.instanceMethod yX5_comesDown ∈ zT ∧ Cond.selects yX5_comesDown.cls yX5_comesDown yX5_comesDown ∈ zT := ⟨zT_of (List.mem_of_getElem? (i := 441) (by decide +kernel)) rfl, zT_of (List.mem_of_getElem? (i := 442) (by decide +kernel)) rfl⟩
theorem moX5_comes : zMo yX5_comes cX5_comes 3 (some .boolean) 2 := ⟨zT_of (List.mem_of_getElem? (i := 439) (by decide +kernel)) rfl, zT_of (List.mem_of_getElem? (i := 3) (by decide +kernel)) rfl, ⟨by decide +kernel, by decide +kernel⟩, by decide +kernel, by decide⟩
theorem mvX5_comes : Cond.instanceMethod yX5_comes ∈ zT ∧ Cond.selects yX5_comes.cls yX5_comes yX5_comes ∈ zT := ⟨zT_of (List.mem_of_getElem? (i := 438) (by decide +kernel)) rfl, zT_priv (q := (yX5_comes, 9)) (List.mem_of_getElem? (i := 10) (by decide +kernel))⟩
theorem moX5_earliest : zMo yX5_earliest cX5_earliest 8 (some .int) 3 := ⟨zT_of (List.mem_of_getElem? (i := 414) (by decide +kernel)) rfl, zT_of (List.mem_of_getElem? (i := 3) (by decide +kernel)) rfl, ⟨by decide +kernel, by decide +kernel⟩, by decide +kernel, by decide⟩
theorem mvX5_earliest : Cond.instanceMethod yX5_earliest ∈ zT ∧ Cond.selects yX5_earliest.cls yX5_earliest yX5_earliest ∈ zT := ⟨zT_of (List.mem_of_getElem? (i := 412) (by decide +kernel)) rfl, zT_of (List.mem_of_getElem? (i := 413) (by decide +kernel)) rfl⟩
theorem moX5_flightFrom : zMo yX5_flightFrom cX5_flightFrom 3 (some .int) 1 := ⟨zT_of (List.mem_of_getElem? (i := 422) (by decide +kernel)) rfl, zT_of (List.mem_of_getElem? (i := 3) (by decide +kernel)) rfl, ⟨by decide +kernel, by decide +kernel⟩, by decide +kernel, by decide⟩
theorem mvX5_flightFrom : Cond.instanceMethod yX5_flightFrom ∈ zT ∧ Cond.selects yX5_flightFrom.cls yX5_flightFrom yX5_flightFrom ∈ zT := ⟨zT_of (List.mem_of_getElem? (i := 421) (by decide +kernel)) rfl, zT_priv (q := (yX5_flightFrom, 9)) (List.mem_of_getElem? (i := 8) (by decide +kernel))⟩
theorem moX5_answered : zMo yX5_answered cX5_answered 5 (some .int) 3 := ⟨zT_of (List.mem_of_getElem? (i := 467) (by decide +kernel)) rfl, zT_of (List.mem_of_getElem? (i := 3) (by decide +kernel)) rfl, ⟨by decide +kernel, by decide +kernel⟩, by decide +kernel, by decide⟩
theorem mvX5_answered : Cond.instanceMethod yX5_answered ∈ zT ∧ Cond.selects yX5_answered.cls yX5_answered yX5_answered ∈ zT := ⟨zT_of (List.mem_of_getElem? (i := 465) (by decide +kernel)) rfl, zT_of (List.mem_of_getElem? (i := 466) (by decide +kernel)) rfl⟩
theorem moX5_allFrom : zMo yX5_allFrom cX5_allFrom 4 (some .int) 1 := ⟨zT_of (List.mem_of_getElem? (i := 435) (by decide +kernel)) rfl, zT_of (List.mem_of_getElem? (i := 3) (by decide +kernel)) rfl, ⟨by decide +kernel, by decide +kernel⟩, by decide +kernel, by decide⟩
theorem mvX5_allFrom : Cond.instanceMethod yX5_allFrom ∈ zT ∧ Cond.selects yX5_allFrom.cls yX5_allFrom yX5_allFrom ∈ zT := ⟨zT_of (List.mem_of_getElem? (i := 433) (by decide +kernel)) rfl, zT_of (List.mem_of_getElem? (i := 434) (by decide +kernel)) rfl⟩
theorem moX5_allInto : zMo yX5_allInto cX5_allInto 4 (some .int) 1 := ⟨zT_of (List.mem_of_getElem? (i := 451) (by decide +kernel)) rfl, zT_of (List.mem_of_getElem? (i := 3) (by decide +kernel)) rfl, ⟨by decide +kernel, by decide +kernel⟩, by decide +kernel, by decide⟩
theorem mvX5_allInto : Cond.instanceMethod yX5_allInto ∈ zT ∧ Cond.selects yX5_allInto.cls yX5_allInto yX5_allInto ∈ zT := ⟨zT_of (List.mem_of_getElem? (i := 449) (by decide +kernel)) rfl, zT_of (List.mem_of_getElem? (i := 450) (by decide +kernel)) rfl⟩
theorem moX5_allDownFrom : zMo yX5_allDownFrom cX5_allDownFrom 4 (some .int) 1 := ⟨zT_of (List.mem_of_getElem? (i := 459) (by decide +kernel)) rfl, zT_of (List.mem_of_getElem? (i := 3) (by decide +kernel)) rfl, ⟨by decide +kernel, by decide +kernel⟩, by decide +kernel, by decide⟩
theorem mvX5_allDownFrom : Cond.instanceMethod yX5_allDownFrom ∈ zT ∧ Cond.selects yX5_allDownFrom.cls yX5_allDownFrom yX5_allDownFrom ∈ zT := ⟨zT_of (List.mem_of_getElem? (i := 457) (by decide +kernel)) rfl, zT_of (List.mem_of_getElem? (i := 458) (by decide +kernel)) rfl⟩
theorem moX5_bestHome : zMo yX5_bestHome cX5_bestHome 7 (some .int) 2 := ⟨zT_of (List.mem_of_getElem? (i := 480) (by decide +kernel)) rfl, zT_of (List.mem_of_getElem? (i := 3) (by decide +kernel)) rfl, ⟨by decide +kernel, by decide +kernel⟩, by decide +kernel, by decide⟩
theorem mvX5_bestHome : Cond.instanceMethod yX5_bestHome ∈ zT ∧ Cond.selects yX5_bestHome.cls yX5_bestHome yX5_bestHome ∈ zT := ⟨zT_of (List.mem_of_getElem? (i := 478) (by decide +kernel)) rfl, zT_of (List.mem_of_getElem? (i := 479) (by decide +kernel)) rfl⟩
theorem moX5_lastAnswer : zMo yX5_lastAnswer cX5_lastAnswer 6 (some .int) 3 := ⟨zT_of (List.mem_of_getElem? (i := 484) (by decide +kernel)) rfl, zT_of (List.mem_of_getElem? (i := 3) (by decide +kernel)) rfl, ⟨by decide +kernel, by decide +kernel⟩, by decide +kernel, by decide⟩
theorem mvX5_lastAnswer : Cond.instanceMethod yX5_lastAnswer ∈ zT ∧ Cond.selects yX5_lastAnswer.cls yX5_lastAnswer yX5_lastAnswer ∈ zT := ⟨zT_of (List.mem_of_getElem? (i := 483) (by decide +kernel)) rfl, zT_priv (q := (yX5_lastAnswer, 9)) (List.mem_of_getElem? (i := 11) (by decide +kernel))⟩
theorem moX5_silentPairs : zMo yX5_silentPairs cX5_silentPairs 4 (some .int) 0 := ⟨zT_of (List.mem_of_getElem? (i := 493) (by decide +kernel)) rfl, zT_of (List.mem_of_getElem? (i := 3) (by decide +kernel)) rfl, ⟨by decide +kernel, by decide +kernel⟩, by decide +kernel, by decide⟩
theorem mvX5_silentPairs : Cond.instanceMethod yX5_silentPairs ∈ zT ∧ Cond.selects yX5_silentPairs.cls yX5_silentPairs yX5_silentPairs ∈ zT := ⟨zT_of (List.mem_of_getElem? (i := 491) (by decide +kernel)) rfl, zT_of (List.mem_of_getElem? (i := 492) (by decide +kernel)) rfl⟩
theorem moX5_lookAhead : zMo yX5_lookAhead cX5_lookAhead 7 none 3 := ⟨zT_of (List.mem_of_getElem? (i := 567) (by decide +kernel)) rfl, zT_of (List.mem_of_getElem? (i := 3) (by decide +kernel)) rfl, ⟨by decide +kernel, by decide +kernel⟩, by decide +kernel, by decide⟩
theorem mvX5_lookAhead : Cond.instanceMethod yX5_lookAhead ∈ zT ∧ Cond.selects yX5_lookAhead.cls yX5_lookAhead yX5_lookAhead ∈ zT := ⟨zT_of (List.mem_of_getElem? (i := 565) (by decide +kernel)) rfl, zT_of (List.mem_of_getElem? (i := 566) (by decide +kernel)) rfl⟩
theorem moX5_daysInto : zMo yX5_daysInto cX5_daysInto 5 (some .int) 3 := ⟨zT_of (List.mem_of_getElem? (i := 571) (by decide +kernel)) rfl, zT_of (List.mem_of_getElem? (i := 3) (by decide +kernel)) rfl, ⟨by decide +kernel, by decide +kernel⟩, by decide +kernel, by decide⟩
theorem mvX5_daysInto : Cond.instanceMethod yX5_daysInto ∈ zT ∧ Cond.selects yX5_daysInto.cls yX5_daysInto yX5_daysInto ∈ zT := ⟨zT_of (List.mem_of_getElem? (i := 570) (by decide +kernel)) rfl, zT_priv (q := (yX5_daysInto, 9)) (List.mem_of_getElem? (i := 14) (by decide +kernel))⟩
theorem moX6_village : zMo yX6_village cX6_village 2 (some .int) 1 := ⟨zT_of (List.mem_of_getElem? (i := 212) (by decide +kernel)) rfl, zT_of (List.mem_of_getElem? (i := 1) (by decide +kernel)) rfl, ⟨by decide +kernel, by decide +kernel⟩, by decide +kernel, by decide⟩
theorem mvX6_village : Cond.instanceMethod yX6_village ∈ zT ∧ Cond.selects yX6_village.cls yX6_village yX6_village ∈ zT := ⟨zT_of (List.mem_of_getElem? (i := 210) (by decide +kernel)) rfl, zT_of (List.mem_of_getElem? (i := 211) (by decide +kernel)) rfl⟩
theorem moX6_villageOf : zMo yX6_villageOf cX6_villageOf 3 (some .int) 2 := ⟨zT_of (List.mem_of_getElem? (i := 242) (by decide +kernel)) rfl, zT_of (List.mem_of_getElem? (i := 1) (by decide +kernel)) rfl, ⟨by decide +kernel, by decide +kernel⟩, by decide +kernel, by decide⟩
theorem mvX6_villageOf : Cond.instanceMethod yX6_villageOf ∈ zT ∧ Cond.selects yX6_villageOf.cls yX6_villageOf yX6_villageOf ∈ zT := ⟨zT_of (List.mem_of_getElem? (i := 240) (by decide +kernel)) rfl, zT_of (List.mem_of_getElem? (i := 241) (by decide +kernel)) rfl⟩
theorem moX6_slide : zMo yX6_slide cX6_slide 4 (some .int) 2 := ⟨zT_of (List.mem_of_getElem? (i := 271) (by decide +kernel)) rfl, zT_of (List.mem_of_getElem? (i := 1) (by decide +kernel)) rfl, ⟨by decide +kernel, by decide +kernel⟩, by decide +kernel, by decide⟩
theorem mvX6_slide : Cond.instanceMethod yX6_slide ∈ zT ∧ Cond.selects yX6_slide.cls yX6_slide yX6_slide ∈ zT := ⟨zT_of (List.mem_of_getElem? (i := 269) (by decide +kernel)) rfl, zT_of (List.mem_of_getElem? (i := 270) (by decide +kernel)) rfl⟩
theorem moX6_hermit : zMo yX6_hermit cX6_hermit 4 (some .int) 2 := ⟨zT_of (List.mem_of_getElem? (i := 279) (by decide +kernel)) rfl, zT_of (List.mem_of_getElem? (i := 1) (by decide +kernel)) rfl, ⟨by decide +kernel, by decide +kernel⟩, by decide +kernel, by decide⟩
theorem mvX6_hermit : Cond.instanceMethod yX6_hermit ∈ zT ∧ Cond.selects yX6_hermit.cls yX6_hermit yX6_hermit ∈ zT := ⟨zT_of (List.mem_of_getElem? (i := 277) (by decide +kernel)) rfl, zT_of (List.mem_of_getElem? (i := 278) (by decide +kernel)) rfl⟩
theorem moX6_road : zMo yX6_road cX6_road 4 (some .int) 3 := ⟨zT_of (List.mem_of_getElem? (i := 284) (by decide +kernel)) rfl, zT_of (List.mem_of_getElem? (i := 1) (by decide +kernel)) rfl, ⟨by decide +kernel, by decide +kernel⟩, by decide +kernel, by decide⟩
theorem mvX6_road : Cond.instanceMethod yX6_road ∈ zT ∧ Cond.selects yX6_road.cls yX6_road yX6_road ∈ zT := ⟨zT_of (List.mem_of_getElem? (i := 282) (by decide +kernel)) rfl, zT_of (List.mem_of_getElem? (i := 283) (by decide +kernel)) rfl⟩
theorem moX6_roadOf : zMo yX6_roadOf cX6_roadOf 3 (some .int) 2 := ⟨zT_of (List.mem_of_getElem? (i := 310) (by decide +kernel)) rfl, zT_of (List.mem_of_getElem? (i := 1) (by decide +kernel)) rfl, ⟨by decide +kernel, by decide +kernel⟩, by decide +kernel, by decide⟩
theorem mvX6_roadOf : Cond.instanceMethod yX6_roadOf ∈ zT ∧ Cond.selects yX6_roadOf.cls yX6_roadOf yX6_roadOf ∈ zT := ⟨zT_of (List.mem_of_getElem? (i := 308) (by decide +kernel)) rfl, zT_of (List.mem_of_getElem? (i := 309) (by decide +kernel)) rfl⟩
theorem moX6_every : zMo yX6_every cX6_every 3 (some .int) 1 := ⟨zT_of (List.mem_of_getElem? (i := 318) (by decide +kernel)) rfl, zT_of (List.mem_of_getElem? (i := 1) (by decide +kernel)) rfl, ⟨by decide +kernel, by decide +kernel⟩, by decide +kernel, by decide⟩
theorem mvX6_every : Cond.instanceMethod yX6_every ∈ zT ∧ Cond.selects yX6_every.cls yX6_every yX6_every ∈ zT := ⟨zT_of (List.mem_of_getElem? (i := 316) (by decide +kernel)) rfl, zT_of (List.mem_of_getElem? (i := 317) (by decide +kernel)) rfl⟩
theorem moX6_sea : zMo yX6_sea cX6_sea 1 (some .int) 0 := ⟨zT_of (List.mem_of_getElem? (i := 322) (by decide +kernel)) rfl, zT_of (List.mem_of_getElem? (i := 1) (by decide +kernel)) rfl, ⟨by decide +kernel, by decide +kernel⟩, by decide +kernel, by decide⟩
theorem mvX6_sea : Cond.instanceMethod yX6_sea ∈ zT ∧ Cond.selects yX6_sea.cls yX6_sea yX6_sea ∈ zT := ⟨zT_of (List.mem_of_getElem? (i := 320) (by decide +kernel)) rfl, zT_of (List.mem_of_getElem? (i := 321) (by decide +kernel)) rfl⟩
theorem moX6_peak : zMo yX6_peak cX6_peak 1 (some .int) 0 := ⟨zT_of (List.mem_of_getElem? (i := 331) (by decide +kernel)) rfl, zT_of (List.mem_of_getElem? (i := 1) (by decide +kernel)) rfl, ⟨by decide +kernel, by decide +kernel⟩, by decide +kernel, by decide⟩
theorem mvX6_peak : Cond.instanceMethod yX6_peak ∈ zT ∧ Cond.selects yX6_peak.cls yX6_peak yX6_peak ∈ zT := ⟨zT_of (List.mem_of_getElem? (i := 329) (by decide +kernel)) rfl, zT_of (List.mem_of_getElem? (i := 330) (by decide +kernel)) rfl⟩
theorem moX6_needs : zMo yX6_needs cX6_needs 3 (some .int) 2 := ⟨zT_of (List.mem_of_getElem? (i := 339) (by decide +kernel)) rfl, zT_of (List.mem_of_getElem? (i := 1) (by decide +kernel)) rfl, ⟨by decide +kernel, by decide +kernel⟩, by decide +kernel, by decide⟩
theorem mvX6_needs : Cond.instanceMethod yX6_needs ∈ zT ∧ Cond.selects yX6_needs.cls yX6_needs yX6_needs ∈ zT := ⟨zT_of (List.mem_of_getElem? (i := 337) (by decide +kernel)) rfl, zT_of (List.mem_of_getElem? (i := 338) (by decide +kernel)) rfl⟩
theorem moX6_goes : zMo yX6_goes cX6_goes 7 (some .int) 3 := ⟨zT_of (List.mem_of_getElem? (i := 349) (by decide +kernel)) rfl, zT_of (List.mem_of_getElem? (i := 1) (by decide +kernel)) rfl, ⟨by decide +kernel, by decide +kernel⟩, by decide +kernel, by decide⟩
theorem mvX6_goes : Cond.instanceMethod yX6_goes ∈ zT ∧ Cond.selects yX6_goes.cls yX6_goes yX6_goes ∈ zT := ⟨zT_of (List.mem_of_getElem? (i := 347) (by decide +kernel)) rfl, zT_of (List.mem_of_getElem? (i := 348) (by decide +kernel)) rfl⟩
theorem moX6_least : zMo yX6_least cX6_least 4 (some .int) 3 := ⟨zT_of (List.mem_of_getElem? (i := 371) (by decide +kernel)) rfl, zT_of (List.mem_of_getElem? (i := 1) (by decide +kernel)) rfl, ⟨by decide +kernel, by decide +kernel⟩, by decide +kernel, by decide⟩
theorem mvX6_least : Cond.instanceMethod yX6_least ∈ zT ∧ Cond.selects yX6_least.cls yX6_least yX6_least ∈ zT := ⟨zT_of (List.mem_of_getElem? (i := 369) (by decide +kernel)) rfl, zT_of (List.mem_of_getElem? (i := 370) (by decide +kernel)) rfl⟩
theorem moX6_reach : zMo yX6_reach cX6_reach 3 (some .int) 2 := ⟨zT_of (List.mem_of_getElem? (i := 431) (by decide +kernel)) rfl, zT_of (List.mem_of_getElem? (i := 1) (by decide +kernel)) rfl, ⟨by decide +kernel, by decide +kernel⟩, by decide +kernel, by decide⟩
theorem mvX6_reach : Cond.instanceMethod yX6_reach ∈ zT ∧ Cond.selects yX6_reach.cls yX6_reach yX6_reach ∈ zT := ⟨zT_of (List.mem_of_getElem? (i := 429) (by decide +kernel)) rfl, zT_of (List.mem_of_getElem? (i := 430) (by decide +kernel)) rfl⟩
theorem moX6_whence : zMo yX6_whence cX6_whence 3 (some .int) 2 := ⟨zT_of (List.mem_of_getElem? (i := 447) (by decide +kernel)) rfl, zT_of (List.mem_of_getElem? (i := 1) (by decide +kernel)) rfl, ⟨by decide +kernel, by decide +kernel⟩, by decide +kernel, by decide⟩
theorem mvX6_whence : Cond.instanceMethod yX6_whence ∈ zT ∧ Cond.selects yX6_whence.cls yX6_whence yX6_whence ∈ zT := ⟨zT_of (List.mem_of_getElem? (i := 445) (by decide +kernel)) rfl, zT_of (List.mem_of_getElem? (i := 446) (by decide +kernel)) rfl⟩
theorem moX6_below : zMo yX6_below cX6_below 3 (some .int) 2 := ⟨zT_of (List.mem_of_getElem? (i := 455) (by decide +kernel)) rfl, zT_of (List.mem_of_getElem? (i := 1) (by decide +kernel)) rfl, ⟨by decide +kernel, by decide +kernel⟩, by decide +kernel, by decide⟩
theorem mvX6_below : Cond.instanceMethod yX6_below ∈ zT ∧ Cond.selects yX6_below.cls yX6_below yX6_below ∈ zT := ⟨zT_of (List.mem_of_getElem? (i := 453) (by decide +kernel)) rfl, zT_of (List.mem_of_getElem? (i := 454) (by decide +kernel)) rfl⟩
theorem moX6_round : zMo yX6_round cX6_round 4 (some .int) 3 := ⟨zT_of (List.mem_of_getElem? (i := 463) (by decide +kernel)) rfl, zT_of (List.mem_of_getElem? (i := 1) (by decide +kernel)) rfl, ⟨by decide +kernel, by decide +kernel⟩, by decide +kernel, by decide⟩
theorem mvX6_round : Cond.instanceMethod yX6_round ∈ zT ∧ Cond.selects yX6_round.cls yX6_round yX6_round ∈ zT := ⟨zT_of (List.mem_of_getElem? (i := 461) (by decide +kernel)) rfl, zT_of (List.mem_of_getElem? (i := 462) (by decide +kernel)) rfl⟩
theorem moX6_live : zMo yX6_live cX6_live 4 (some .int) 2 := ⟨zT_of (List.mem_of_getElem? (i := 472) (by decide +kernel)) rfl, zT_of (List.mem_of_getElem? (i := 1) (by decide +kernel)) rfl, ⟨by decide +kernel, by decide +kernel⟩, by decide +kernel, by decide⟩
theorem mvX6_live : Cond.instanceMethod yX6_live ∈ zT ∧ Cond.selects yX6_live.cls yX6_live yX6_live ∈ zT := ⟨zT_of (List.mem_of_getElem? (i := 470) (by decide +kernel)) rfl, zT_of (List.mem_of_getElem? (i := 471) (by decide +kernel)) rfl⟩
theorem moX6_quiet : zMo yX6_quiet cX6_quiet 2 (some .int) 1 := ⟨zT_of (List.mem_of_getElem? (i := 489) (by decide +kernel)) rfl, zT_of (List.mem_of_getElem? (i := 1) (by decide +kernel)) rfl, ⟨by decide +kernel, by decide +kernel⟩, by decide +kernel, by decide⟩
theorem mvX6_quiet : Cond.instanceMethod yX6_quiet ∈ zT ∧ Cond.selects yX6_quiet.cls yX6_quiet yX6_quiet ∈ zT := ⟨zT_of (List.mem_of_getElem? (i := 487) (by decide +kernel)) rfl, zT_of (List.mem_of_getElem? (i := 488) (by decide +kernel)) rfl⟩
theorem moX6_kind : zMo yX6_kind cX6_kind 7 (some .int) 2 := ⟨zT_of (List.mem_of_getElem? (i := 497) (by decide +kernel)) rfl, zT_of (List.mem_of_getElem? (i := 1) (by decide +kernel)) rfl, ⟨by decide +kernel, by decide +kernel⟩, by decide +kernel, by decide⟩
theorem mvX6_kind : Cond.instanceMethod yX6_kind ∈ zT ∧ Cond.selects yX6_kind.cls yX6_kind yX6_kind ∈ zT := ⟨zT_of (List.mem_of_getElem? (i := 495) (by decide +kernel)) rfl, zT_of (List.mem_of_getElem? (i := 496) (by decide +kernel)) rfl⟩
theorem moX6_rise : zMo yX6_rise cX6_rise 5 (some .int) 3 := ⟨zT_of (List.mem_of_getElem? (i := 501) (by decide +kernel)) rfl, zT_of (List.mem_of_getElem? (i := 1) (by decide +kernel)) rfl, ⟨by decide +kernel, by decide +kernel⟩, by decide +kernel, by decide⟩
theorem mvX6_rise : Cond.instanceMethod yX6_rise ∈ zT ∧ Cond.selects yX6_rise.cls yX6_rise yX6_rise ∈ zT := ⟨zT_of (List.mem_of_getElem? (i := 499) (by decide +kernel)) rfl, zT_of (List.mem_of_getElem? (i := 500) (by decide +kernel)) rfl⟩
theorem moX6_fall : zMo yX6_fall cX6_fall 4 (some .int) 3 := ⟨zT_of (List.mem_of_getElem? (i := 513) (by decide +kernel)) rfl, zT_of (List.mem_of_getElem? (i := 1) (by decide +kernel)) rfl, ⟨by decide +kernel, by decide +kernel⟩, by decide +kernel, by decide⟩
theorem mvX6_fall : Cond.instanceMethod yX6_fall ∈ zT ∧ Cond.selects yX6_fall.cls yX6_fall yX6_fall ∈ zT := ⟨zT_of (List.mem_of_getElem? (i := 511) (by decide +kernel)) rfl, zT_of (List.mem_of_getElem? (i := 512) (by decide +kernel)) rfl⟩
theorem moX6_dig : zMo yX6_dig cX6_dig 4 (some .int) 2 := ⟨zT_of (List.mem_of_getElem? (i := 517) (by decide +kernel)) rfl, zT_of (List.mem_of_getElem? (i := 1) (by decide +kernel)) rfl, ⟨by decide +kernel, by decide +kernel⟩, by decide +kernel, by decide⟩
theorem mvX6_dig : Cond.instanceMethod yX6_dig ∈ zT ∧ Cond.selects yX6_dig.cls yX6_dig yX6_dig ∈ zT := ⟨zT_of (List.mem_of_getElem? (i := 515) (by decide +kernel)) rfl, zT_of (List.mem_of_getElem? (i := 516) (by decide +kernel)) rfl⟩
theorem moX6_send : zMo yX6_send cX6_send 4 (some .int) 3 := ⟨zT_of (List.mem_of_getElem? (i := 531) (by decide +kernel)) rfl, zT_of (List.mem_of_getElem? (i := 1) (by decide +kernel)) rfl, ⟨by decide +kernel, by decide +kernel⟩, by decide +kernel, by decide⟩
theorem mvX6_send : Cond.instanceMethod yX6_send ∈ zT ∧ Cond.selects yX6_send.cls yX6_send yX6_send ∈ zT := ⟨zT_of (List.mem_of_getElem? (i := 529) (by decide +kernel)) rfl, zT_of (List.mem_of_getElem? (i := 530) (by decide +kernel)) rfl⟩
theorem moX6_of : zMo yX6_of cX6_of 3 (some .int) 2 := ⟨zT_of (List.mem_of_getElem? (i := 544) (by decide +kernel)) rfl, zT_of (List.mem_of_getElem? (i := 1) (by decide +kernel)) rfl, ⟨by decide +kernel, by decide +kernel⟩, by decide +kernel, by decide⟩
theorem mvX6_of : Cond.instanceMethod yX6_of ∈ zT ∧ Cond.selects yX6_of.cls yX6_of yX6_of ∈ zT := ⟨zT_of (List.mem_of_getElem? (i := 542) (by decide +kernel)) rfl, zT_of (List.mem_of_getElem? (i := 543) (by decide +kernel)) rfl⟩
theorem moX6_turn : zMo yX6_turn cX6_turn 4 (some .int) 2 := ⟨zT_of (List.mem_of_getElem? (i := 553) (by decide +kernel)) rfl, zT_of (List.mem_of_getElem? (i := 1) (by decide +kernel)) rfl, ⟨by decide +kernel, by decide +kernel⟩, by decide +kernel, by decide⟩
theorem mvX6_turn : Cond.instanceMethod yX6_turn ∈ zT ∧ Cond.selects yX6_turn.cls yX6_turn yX6_turn ∈ zT := ⟨zT_of (List.mem_of_getElem? (i := 551) (by decide +kernel)) rfl, zT_of (List.mem_of_getElem? (i := 552) (by decide +kernel)) rfl⟩
theorem moX6_as : zMo yX6_as cX6_as 3 (some .int) 2 := ⟨zT_of (List.mem_of_getElem? (i := 557) (by decide +kernel)) rfl, zT_of (List.mem_of_getElem? (i := 1) (by decide +kernel)) rfl, ⟨by decide +kernel, by decide +kernel⟩, by decide +kernel, by decide⟩
theorem mvX6_as : Cond.instanceMethod yX6_as ∈ zT ∧ Cond.selects yX6_as.cls yX6_as yX6_as ∈ zT := ⟨zT_of (List.mem_of_getElem? (i := 555) (by decide +kernel)) rfl, zT_of (List.mem_of_getElem? (i := 556) (by decide +kernel)) rfl⟩
theorem moX6_next : zMo yX6_next cX6_next 2 (some .int) 1 := ⟨zT_of (List.mem_of_getElem? (i := 563) (by decide +kernel)) rfl, zT_of (List.mem_of_getElem? (i := 1) (by decide +kernel)) rfl, ⟨by decide +kernel, by decide +kernel⟩, by decide +kernel, by decide⟩
theorem mvX6_next : Cond.instanceMethod yX6_next ∈ zT ∧ Cond.selects yX6_next.cls yX6_next yX6_next ∈ zT := ⟨zT_of (List.mem_of_getElem? (i := 561) (by decide +kernel)) rfl, zT_of (List.mem_of_getElem? (i := 562) (by decide +kernel)) rfl⟩
theorem moX6_days : zMo yX6_days cX6_days 4 (some .int) 1 := ⟨zT_of (List.mem_of_getElem? (i := 579) (by decide +kernel)) rfl, zT_of (List.mem_of_getElem? (i := 1) (by decide +kernel)) rfl, ⟨by decide +kernel, by decide +kernel⟩, by decide +kernel, by decide⟩
theorem mvX6_days : Cond.instanceMethod yX6_days ∈ zT ∧ Cond.selects yX6_days.cls yX6_days yX6_days ∈ zT := ⟨zT_of (List.mem_of_getElem? (i := 577) (by decide +kernel)) rfl, zT_of (List.mem_of_getElem? (i := 578) (by decide +kernel)) rfl⟩
theorem moX6_day : zMo yX6_day cX6_day 3 (some .int) 1 := ⟨zT_of (List.mem_of_getElem? (i := 597) (by decide +kernel)) rfl, zT_of (List.mem_of_getElem? (i := 1) (by decide +kernel)) rfl, ⟨by decide +kernel, by decide +kernel⟩, by decide +kernel, by decide⟩
theorem mvX6_day : Cond.instanceMethod yX6_day ∈ zT ∧ Cond.selects yX6_day.cls yX6_day yX6_day ∈ zT := ⟨zT_of (List.mem_of_getElem? (i := 595) (by decide +kernel)) rfl, zT_of (List.mem_of_getElem? (i := 596) (by decide +kernel)) rfl⟩
theorem moX6_now : zMo yX6_now cX6_now 2 (some .int) 1 := ⟨zT_of (List.mem_of_getElem? (i := 601) (by decide +kernel)) rfl, zT_of (List.mem_of_getElem? (i := 1) (by decide +kernel)) rfl, ⟨by decide +kernel, by decide +kernel⟩, by decide +kernel, by decide⟩
theorem mvX6_now : Cond.instanceMethod yX6_now ∈ zT ∧ Cond.selects yX6_now.cls yX6_now yX6_now ∈ zT := ⟨zT_of (List.mem_of_getElem? (i := 599) (by decide +kernel)) rfl, zT_of (List.mem_of_getElem? (i := 600) (by decide +kernel)) rfl⟩
theorem moX6_on : zMo yX6_on cX6_on 3 (some .int) 2 := ⟨zT_of (List.mem_of_getElem? (i := 609) (by decide +kernel)) rfl, zT_of (List.mem_of_getElem? (i := 1) (by decide +kernel)) rfl, ⟨by decide +kernel, by decide +kernel⟩, by decide +kernel, by decide⟩
theorem mvX6_on : Cond.instanceMethod yX6_on ∈ zT ∧ Cond.selects yX6_on.cls yX6_on yX6_on ∈ zT := ⟨zT_of (List.mem_of_getElem? (i := 607) (by decide +kernel)) rfl, zT_of (List.mem_of_getElem? (i := 608) (by decide +kernel)) rfl⟩
theorem moX6_when : zMo yX6_when cX6_when 3 (some .int) 1 := ⟨zT_of (List.mem_of_getElem? (i := 618) (by decide +kernel)) rfl, zT_of (List.mem_of_getElem? (i := 1) (by decide +kernel)) rfl, ⟨by decide +kernel, by decide +kernel⟩, by decide +kernel, by decide⟩
theorem mvX6_when : Cond.instanceMethod yX6_when ∈ zT ∧ Cond.selects yX6_when.cls yX6_when yX6_when ∈ zT := ⟨zT_of (List.mem_of_getElem? (i := 616) (by decide +kernel)) rfl, zT_of (List.mem_of_getElem? (i := 617) (by decide +kernel)) rfl⟩
theorem moX6_first : zMo yX6_first cX6_first 5 (some .int) 2 := ⟨zT_of (List.mem_of_getElem? (i := 626) (by decide +kernel)) rfl, zT_of (List.mem_of_getElem? (i := 1) (by decide +kernel)) rfl, ⟨by decide +kernel, by decide +kernel⟩, by decide +kernel, by decide⟩
theorem mvX6_first : Cond.instanceMethod yX6_first ∈ zT ∧ Cond.selects yX6_first.cls yX6_first yX6_first ∈ zT := ⟨zT_of (List.mem_of_getElem? (i := 624) (by decide +kernel)) rfl, zT_of (List.mem_of_getElem? (i := 625) (by decide +kernel)) rfl⟩
theorem moX6_feed : zMo yX6_feed cX6_feed 4 (some .int) 2 := ⟨zT_of (List.mem_of_getElem? (i := 630) (by decide +kernel)) rfl, zT_of (List.mem_of_getElem? (i := 1) (by decide +kernel)) rfl, ⟨by decide +kernel, by decide +kernel⟩, by decide +kernel, by decide⟩
theorem mvX6_feed : Cond.instanceMethod yX6_feed ∈ zT ∧ Cond.selects yX6_feed.cls yX6_feed yX6_feed ∈ zT := ⟨zT_of (List.mem_of_getElem? (i := 628) (by decide +kernel)) rfl, zT_of (List.mem_of_getElem? (i := 629) (by decide +kernel)) rfl⟩
theorem moX6_wipe : zMo yX6_wipe cX6_wipe 2 (some .int) 0 := ⟨zT_of (List.mem_of_getElem? (i := 638) (by decide +kernel)) rfl, zT_of (List.mem_of_getElem? (i := 1) (by decide +kernel)) rfl, ⟨by decide +kernel, by decide +kernel⟩, by decide +kernel, by decide⟩
theorem mvX6_wipe : Cond.instanceMethod yX6_wipe ∈ zT ∧ Cond.selects yX6_wipe.cls yX6_wipe yX6_wipe ∈ zT := ⟨zT_of (List.mem_of_getElem? (i := 636) (by decide +kernel)) rfl, zT_of (List.mem_of_getElem? (i := 637) (by decide +kernel)) rfl⟩
theorem moX6_text : zMo yX6_text cX6_text 2 (some .int) 0 := ⟨zT_of (List.mem_of_getElem? (i := 642) (by decide +kernel)) rfl, zT_of (List.mem_of_getElem? (i := 1) (by decide +kernel)) rfl, ⟨by decide +kernel, by decide +kernel⟩, by decide +kernel, by decide⟩
theorem mvX6_text : Cond.instanceMethod yX6_text ∈ zT ∧ Cond.selects yX6_text.cls yX6_text yX6_text ∈ zT := ⟨zT_of (List.mem_of_getElem? (i := 640) (by decide +kernel)) rfl, zT_of (List.mem_of_getElem? (i := 641) (by decide +kernel)) rfl⟩
theorem moX6_sheet : zMo yX6_sheet cX6_sheet 5 (some .int) 3 := ⟨zT_of (List.mem_of_getElem? (i := 787) (by decide +kernel)) rfl, zT_of (List.mem_of_getElem? (i := 1) (by decide +kernel)) rfl, ⟨by decide +kernel, by decide +kernel⟩, by decide +kernel, by decide⟩
theorem mvX6_sheet : Cond.instanceMethod yX6_sheet ∈ zT ∧ Cond.selects yX6_sheet.cls yX6_sheet yX6_sheet ∈ zT := ⟨zT_of (List.mem_of_getElem? (i := 785) (by decide +kernel)) rfl, zT_of (List.mem_of_getElem? (i := 786) (by decide +kernel)) rfl⟩
theorem moX6_write : zMo yX6_write cX6_write 8 (some .long) 3 := ⟨zT_of (List.mem_of_getElem? (i := 805) (by decide +kernel)) rfl, zT_of (List.mem_of_getElem? (i := 1) (by decide +kernel)) rfl, ⟨by decide +kernel, by decide +kernel⟩, by decide +kernel, by decide⟩
theorem mvX6_write : Cond.instanceMethod yX6_write ∈ zT ∧ Cond.selects yX6_write.cls yX6_write yX6_write ∈ zT := ⟨zT_of (List.mem_of_getElem? (i := 803) (by decide +kernel)) rfl, zT_of (List.mem_of_getElem? (i := 804) (by decide +kernel)) rfl⟩
theorem moX6_copy : zMo yX6_copy cX6_copy 8 (some .int) 5 := ⟨zT_of (List.mem_of_getElem? (i := 831) (by decide +kernel)) rfl, zT_of (List.mem_of_getElem? (i := 1) (by decide +kernel)) rfl, ⟨by decide +kernel, by decide +kernel⟩, by decide +kernel, by decide⟩
theorem mvX6_copy : Cond.instanceMethod yX6_copy ∈ zT ∧ Cond.selects yX6_copy.cls yX6_copy yX6_copy ∈ zT := ⟨zT_of (List.mem_of_getElem? (i := 829) (by decide +kernel)) rfl, zT_of (List.mem_of_getElem? (i := 830) (by decide +kernel)) rfl⟩
theorem moX6_lays : zMo yX6_lays cX6_lays 7 (some .int) 1 := ⟨zT_of (List.mem_of_getElem? (i := 840) (by decide +kernel)) rfl, zT_of (List.mem_of_getElem? (i := 1) (by decide +kernel)) rfl, ⟨by decide +kernel, by decide +kernel⟩, by decide +kernel, by decide⟩
theorem mvX6_lays : Cond.instanceMethod yX6_lays ∈ zT ∧ Cond.selects yX6_lays.cls yX6_lays yX6_lays ∈ zT := ⟨zT_of (List.mem_of_getElem? (i := 838) (by decide +kernel)) rfl, zT_of (List.mem_of_getElem? (i := 839) (by decide +kernel)) rfl⟩
theorem moX6_table : zMo yX6_table cX6_table 8 (some .int) 3 := ⟨zT_of (List.mem_of_getElem? (i := 845) (by decide +kernel)) rfl, zT_of (List.mem_of_getElem? (i := 1) (by decide +kernel)) rfl, ⟨by decide +kernel, by decide +kernel⟩, by decide +kernel, by decide⟩
theorem mvX6_table : Cond.instanceMethod yX6_table ∈ zT ∧ Cond.selects yX6_table.cls yX6_table yX6_table ∈ zT := ⟨zT_of (List.mem_of_getElem? (i := 843) (by decide +kernel)) rfl, zT_of (List.mem_of_getElem? (i := 844) (by decide +kernel)) rfl⟩
theorem moX6_read : zMo yX6_read cX6_read 9 (some .int) 2 := ⟨zT_of (List.mem_of_getElem? (i := 850) (by decide +kernel)) rfl, zT_of (List.mem_of_getElem? (i := 1) (by decide +kernel)) rfl, ⟨by decide +kernel, by decide +kernel⟩, by decide +kernel, by decide⟩
theorem mvX6_read : Cond.instanceMethod yX6_read ∈ zT ∧ Cond.selects yX6_read.cls yX6_read yX6_read ∈ zT := ⟨zT_of (List.mem_of_getElem? (i := 848) (by decide +kernel)) rfl, zT_of (List.mem_of_getElem? (i := 849) (by decide +kernel)) rfl⟩
theorem moX6_image : zMo yX6_image cX6_image 1 (some .int) 0 := ⟨zT_of (List.mem_of_getElem? (i := 860) (by decide +kernel)) rfl, zT_of (List.mem_of_getElem? (i := 1) (by decide +kernel)) rfl, ⟨by decide +kernel, by decide +kernel⟩, by decide +kernel, by decide⟩
theorem mvX6_image : Cond.instanceMethod yX6_image ∈ zT ∧ Cond.selects yX6_image.cls yX6_image yX6_image ∈ zT := ⟨zT_of (List.mem_of_getElem? (i := 858) (by decide +kernel)) rfl, zT_of (List.mem_of_getElem? (i := 859) (by decide +kernel)) rfl⟩
theorem moX6_undo : zMo yX6_undo cX6_undo 1 (some .int) 0 := ⟨zT_of (List.mem_of_getElem? (i := 864) (by decide +kernel)) rfl, zT_of (List.mem_of_getElem? (i := 1) (by decide +kernel)) rfl, ⟨by decide +kernel, by decide +kernel⟩, by decide +kernel, by decide⟩
theorem mvX6_undo : Cond.instanceMethod yX6_undo ∈ zT ∧ Cond.selects yX6_undo.cls yX6_undo yX6_undo ∈ zT := ⟨zT_of (List.mem_of_getElem? (i := 862) (by decide +kernel)) rfl, zT_of (List.mem_of_getElem? (i := 863) (by decide +kernel)) rfl⟩
theorem moX6_tear : zMo yX6_tear cX6_tear 2 (some .int) 0 := ⟨zT_of (List.mem_of_getElem? (i := 868) (by decide +kernel)) rfl, zT_of (List.mem_of_getElem? (i := 1) (by decide +kernel)) rfl, ⟨by decide +kernel, by decide +kernel⟩, by decide +kernel, by decide⟩
theorem mvX6_tear : Cond.instanceMethod yX6_tear ∈ zT ∧ Cond.selects yX6_tear.cls yX6_tear yX6_tear ∈ zT := ⟨zT_of (List.mem_of_getElem? (i := 866) (by decide +kernel)) rfl, zT_of (List.mem_of_getElem? (i := 867) (by decide +kernel)) rfl⟩
theorem moX6_count : zMo yX6_count cX6_count 2 (some .int) 1 := ⟨zT_of (List.mem_of_getElem? (i := 872) (by decide +kernel)) rfl, zT_of (List.mem_of_getElem? (i := 1) (by decide +kernel)) rfl, ⟨by decide +kernel, by decide +kernel⟩, by decide +kernel, by decide⟩
theorem mvX6_count : Cond.instanceMethod yX6_count ∈ zT ∧ Cond.selects yX6_count.cls yX6_count yX6_count ∈ zT := ⟨zT_of (List.mem_of_getElem? (i := 870) (by decide +kernel)) rfl, zT_of (List.mem_of_getElem? (i := 871) (by decide +kernel)) rfl⟩
theorem moX6_status : zMo yX6_status cX6_status 4 (some .int) 1 := ⟨zT_of (List.mem_of_getElem? (i := 880) (by decide +kernel)) rfl, zT_of (List.mem_of_getElem? (i := 1) (by decide +kernel)) rfl, ⟨by decide +kernel, by decide +kernel⟩, by decide +kernel, by decide⟩
theorem mvX6_status : Cond.instanceMethod yX6_status ∈ zT ∧ Cond.selects yX6_status.cls yX6_status yX6_status ∈ zT := ⟨zT_of (List.mem_of_getElem? (i := 878) (by decide +kernel)) rfl, zT_of (List.mem_of_getElem? (i := 879) (by decide +kernel)) rfl⟩
theorem moX6_finding : zMo yX6_finding cX6_finding 3 (some .int) 1 := ⟨zT_of (List.mem_of_getElem? (i := 220) (by decide +kernel)) rfl, zT_of (List.mem_of_getElem? (i := 1) (by decide +kernel)) rfl, ⟨by decide +kernel, by decide +kernel⟩, by decide +kernel, by decide⟩
theorem mvX6_finding : Cond.instanceMethod yX6_finding ∈ zT ∧ Cond.selects yX6_finding.cls yX6_finding yX6_finding ∈ zT := ⟨zT_of (List.mem_of_getElem? (i := 219) (by decide +kernel)) rfl, zT_priv (q := (yX6_finding, 8)) (List.mem_of_getElem? (i := 0) (by decide +kernel))⟩
theorem moX6_isKind : zMo yX6_isKind cX6_isKind 1 (some .boolean) 1 := ⟨zT_of (List.mem_of_getElem? (i := 342) (by decide +kernel)) rfl, zT_of (List.mem_of_getElem? (i := 1) (by decide +kernel)) rfl, ⟨by decide +kernel, by decide +kernel⟩, by decide +kernel, by decide⟩
theorem mvX6_isKind : Cond.static yX6_isKind ∈ zT := zT_of (List.mem_of_getElem? (i := 341) (by decide +kernel)) rfl
theorem moX6_isHeight : zMo yX6_isHeight cX6_isHeight 1 (some .boolean) 1 := ⟨zT_of (List.mem_of_getElem? (i := 215) (by decide +kernel)) rfl, zT_of (List.mem_of_getElem? (i := 1) (by decide +kernel)) rfl, ⟨by decide +kernel, by decide +kernel⟩, by decide +kernel, by decide⟩
theorem mvX6_isHeight : Cond.static yX6_isHeight ∈ zT := zT_of (List.mem_of_getElem? (i := 214) (by decide +kernel)) rfl
theorem moX6_areVillages : zMo yX6_areVillages cX6_areVillages 3 (some .boolean) 2 := ⟨zT_of (List.mem_of_getElem? (i := 292) (by decide +kernel)) rfl, zT_of (List.mem_of_getElem? (i := 1) (by decide +kernel)) rfl, ⟨by decide +kernel, by decide +kernel⟩, by decide +kernel, by decide⟩
theorem mvX6_areVillages : Cond.instanceMethod yX6_areVillages ∈ zT ∧ Cond.selects yX6_areVillages.cls yX6_areVillages yX6_areVillages ∈ zT := ⟨zT_of (List.mem_of_getElem? (i := 291) (by decide +kernel)) rfl, zT_priv (q := (yX6_areVillages, 8)) (List.mem_of_getElem? (i := 2) (by decide +kernel))⟩
theorem moX6_areUnlikeVillages : zMo yX6_areUnlikeVillages cX6_areUnlikeVillages 3 (some .boolean) 2 := ⟨zT_of (List.mem_of_getElem? (i := 288) (by decide +kernel)) rfl, zT_of (List.mem_of_getElem? (i := 1) (by decide +kernel)) rfl, ⟨by decide +kernel, by decide +kernel⟩, by decide +kernel, by decide⟩
theorem mvX6_areUnlikeVillages : Cond.instanceMethod yX6_areUnlikeVillages ∈ zT ∧ Cond.selects yX6_areUnlikeVillages.cls yX6_areUnlikeVillages yX6_areUnlikeVillages ∈ zT := ⟨zT_of (List.mem_of_getElem? (i := 287) (by decide +kernel)) rfl, zT_priv (q := (yX6_areUnlikeVillages, 8)) (List.mem_of_getElem? (i := 1) (by decide +kernel))⟩
theorem moX6_sheetAt : zMo yX6_sheetAt cX6_sheetAt 2 (some (.object "DownhillPost$Sheet")) 1 := ⟨zT_of (List.mem_of_getElem? (i := 791) (by decide +kernel)) rfl, zT_of (List.mem_of_getElem? (i := 1) (by decide +kernel)) rfl, ⟨by decide +kernel, by decide +kernel⟩, by decide +kernel, by decide⟩
theorem mvX6_sheetAt : Cond.instanceMethod yX6_sheetAt ∈ zT ∧ Cond.selects yX6_sheetAt.cls yX6_sheetAt yX6_sheetAt ∈ zT := ⟨zT_of (List.mem_of_getElem? (i := 790) (by decide +kernel)) rfl, zT_priv (q := (yX6_sheetAt, 8)) (List.mem_of_getElem? (i := 21) (by decide +kernel))⟩
theorem moX6_daysUntil : zMo yX6_daysUntil cX6_daysUntil 2 (some .int) 1 := ⟨zT_of (List.mem_of_getElem? (i := 426) (by decide +kernel)) rfl, zT_of (List.mem_of_getElem? (i := 1) (by decide +kernel)) rfl, ⟨by decide +kernel, by decide +kernel⟩, by decide +kernel, by decide⟩
theorem mvX6_daysUntil : Cond.instanceMethod yX6_daysUntil ∈ zT ∧ Cond.selects yX6_daysUntil.cls yX6_daysUntil yX6_daysUntil ∈ zT := ⟨zT_of (List.mem_of_getElem? (i := 425) (by decide +kernel)) rfl, zT_priv (q := (yX6_daysUntil, 8)) (List.mem_of_getElem? (i := 9) (by decide +kernel))⟩
theorem moX6_heightToRise : zMo yX6_heightToRise cX6_heightToRise 6 (some .int) 3 := ⟨zT_of (List.mem_of_getElem? (i := 506) (by decide +kernel)) rfl, zT_of (List.mem_of_getElem? (i := 1) (by decide +kernel)) rfl, ⟨by decide +kernel, by decide +kernel⟩, by decide +kernel, by decide⟩
theorem mvX6_heightToRise : Cond.instanceMethod yX6_heightToRise ∈ zT ∧ Cond.selects yX6_heightToRise.cls yX6_heightToRise yX6_heightToRise ∈ zT := ⟨zT_of (List.mem_of_getElem? (i := 505) (by decide +kernel)) rfl, zT_priv (q := (yX6_heightToRise, 8)) (List.mem_of_getElem? (i := 12) (by decide +kernel))⟩
theorem moX6_bestDigging : zMo yX6_bestDigging cX6_bestDigging 8 (some .int) 2 := ⟨zT_of (List.mem_of_getElem? (i := 521) (by decide +kernel)) rfl, zT_of (List.mem_of_getElem? (i := 1) (by decide +kernel)) rfl, ⟨by decide +kernel, by decide +kernel⟩, by decide +kernel, by decide⟩
theorem mvX6_bestDigging : Cond.instanceMethod yX6_bestDigging ∈ zT ∧ Cond.selects yX6_bestDigging.cls yX6_bestDigging yX6_bestDigging ∈ zT := ⟨zT_of (List.mem_of_getElem? (i := 520) (by decide +kernel)) rfl, zT_priv (q := (yX6_bestDigging, 8)) (List.mem_of_getElem? (i := 13) (by decide +kernel))⟩
theorem moX6_carryOn : zMo yX6_carryOn cX6_carryOn 5 none 3 := ⟨zT_of (List.mem_of_getElem? (i := 588) (by decide +kernel)) rfl, zT_of (List.mem_of_getElem? (i := 1) (by decide +kernel)) rfl, ⟨by decide +kernel, by decide +kernel⟩, by decide +kernel, by decide⟩
theorem mvX6_carryOn : Cond.instanceMethod yX6_carryOn ∈ zT ∧ Cond.selects yX6_carryOn.cls yX6_carryOn yX6_carryOn ∈ zT := ⟨zT_of (List.mem_of_getElem? (i := 587) (by decide +kernel)) rfl, zT_priv (q := (yX6_carryOn, 8)) (List.mem_of_getElem? (i := 16) (by decide +kernel))⟩
theorem moX6_daysAhead : zMo yX6_daysAhead cX6_daysAhead 3 (some .int) 1 := ⟨zT_of (List.mem_of_getElem? (i := 622) (by decide +kernel)) rfl, zT_of (List.mem_of_getElem? (i := 1) (by decide +kernel)) rfl, ⟨by decide +kernel, by decide +kernel⟩, by decide +kernel, by decide⟩
theorem mvX6_daysAhead : Cond.instanceMethod yX6_daysAhead ∈ zT ∧ Cond.selects yX6_daysAhead.cls yX6_daysAhead yX6_daysAhead ∈ zT := ⟨zT_of (List.mem_of_getElem? (i := 621) (by decide +kernel)) rfl, zT_priv (q := (yX6_daysAhead, 8)) (List.mem_of_getElem? (i := 17) (by decide +kernel))⟩
theorem moX7_in : zMo yX7_in cX7_in 3 (some .boolean) 3 := ⟨zT_of (List.mem_of_getElem? (i := 957) (by decide +kernel)) rfl, zT_of (List.mem_of_getElem? (i := 6) (by decide +kernel)) rfl, ⟨by decide +kernel, by decide +kernel⟩, by decide +kernel, by decide⟩
theorem mvX7_in : Cond.static yX7_in ∈ zT := zT_of (List.mem_of_getElem? (i := 956) (by decide +kernel)) rfl
theorem moX7_finds : zMo yX7_finds cX7_finds 2 (some .int) 1 := ⟨zT_of (List.mem_of_getElem? (i := 962) (by decide +kernel)) rfl, zT_of (List.mem_of_getElem? (i := 6) (by decide +kernel)) rfl, ⟨by decide +kernel, by decide +kernel⟩, by decide +kernel, by decide⟩
theorem mvX7_finds : Cond.instanceMethod yX7_finds ∈ zT ∧ Cond.selects yX7_finds.cls yX7_finds yX7_finds ∈ zT := ⟨zT_of (List.mem_of_getElem? (i := 961) (by decide +kernel)) rfl, zT_priv (q := (yX7_finds, 21)) (List.mem_of_getElem? (i := 23) (by decide +kernel))⟩
theorem moX7_isVillage : zMo yX7_isVillage cX7_isVillage 2 (some .boolean) 1 := ⟨zT_of (List.mem_of_getElem? (i := 975) (by decide +kernel)) rfl, zT_of (List.mem_of_getElem? (i := 6) (by decide +kernel)) rfl, ⟨by decide +kernel, by decide +kernel⟩, by decide +kernel, by decide⟩
theorem mvX7_isVillage : Cond.instanceMethod yX7_isVillage ∈ zT ∧ Cond.selects yX7_isVillage.cls yX7_isVillage yX7_isVillage ∈ zT := ⟨zT_of (List.mem_of_getElem? (i := 974) (by decide +kernel)) rfl, zT_priv (q := (yX7_isVillage, 21)) (List.mem_of_getElem? (i := 25) (by decide +kernel))⟩
theorem moX7_isRoad : zMo yX7_isRoad cX7_isRoad 2 (some .boolean) 1 := ⟨zT_of (List.mem_of_getElem? (i := 1028) (by decide +kernel)) rfl, zT_of (List.mem_of_getElem? (i := 6) (by decide +kernel)) rfl, ⟨by decide +kernel, by decide +kernel⟩, by decide +kernel, by decide⟩
theorem mvX7_isRoad : Cond.instanceMethod yX7_isRoad ∈ zT ∧ Cond.selects yX7_isRoad.cls yX7_isRoad yX7_isRoad ∈ zT := ⟨zT_of (List.mem_of_getElem? (i := 1027) (by decide +kernel)) rfl, zT_priv (q := (yX7_isRoad, 21)) (List.mem_of_getElem? (i := 34) (by decide +kernel))⟩
theorem moX7_isPost : zMo yX7_isPost cX7_isPost 2 (some .boolean) 1 := ⟨zT_of (List.mem_of_getElem? (i := 1183) (by decide +kernel)) rfl, zT_of (List.mem_of_getElem? (i := 6) (by decide +kernel)) rfl, ⟨by decide +kernel, by decide +kernel⟩, by decide +kernel, by decide⟩
theorem mvX7_isPost : Cond.instanceMethod yX7_isPost ∈ zT ∧ Cond.selects yX7_isPost.cls yX7_isPost yX7_isPost ∈ zT := ⟨zT_of (List.mem_of_getElem? (i := 1182) (by decide +kernel)) rfl, zT_priv (q := (yX7_isPost, 21)) (List.mem_of_getElem? (i := 52) (by decide +kernel))⟩
theorem moX7_isKind : zMo yX7_isKind cX7_isKind 1 (some .boolean) 1 := ⟨zT_of (List.mem_of_getElem? (i := 1056) (by decide +kernel)) rfl, zT_of (List.mem_of_getElem? (i := 6) (by decide +kernel)) rfl, ⟨by decide +kernel, by decide +kernel⟩, by decide +kernel, by decide⟩
theorem mvX7_isKind : Cond.static yX7_isKind ∈ zT := zT_of (List.mem_of_getElem? (i := 1055) (by decide +kernel)) rfl
theorem moX7_has : zMo yX7_has cX7_has 2 (some .boolean) 2 := ⟨zT_of (List.mem_of_getElem? (i := 1120) (by decide +kernel)) rfl, zT_of (List.mem_of_getElem? (i := 6) (by decide +kernel)) rfl, ⟨by decide +kernel, by decide +kernel⟩, by decide +kernel, by decide⟩
theorem mvX7_has : Cond.static yX7_has ∈ zT := zT_of (List.mem_of_getElem? (i := 1119) (by decide +kernel)) rfl
theorem moX7_ones : zMo yX7_ones cX7_ones 3 (some .int) 1 := ⟨zT_of (List.mem_of_getElem? (i := 1159) (by decide +kernel)) rfl, zT_of (List.mem_of_getElem? (i := 6) (by decide +kernel)) rfl, ⟨by decide +kernel, by decide +kernel⟩, by decide +kernel, by decide⟩
theorem mvX7_ones : Cond.static yX7_ones ∈ zT := zT_of (List.mem_of_getElem? (i := 1158) (by decide +kernel)) rfl
theorem moX7_height : zMo yX7_height cX7_height 2 (some .int) 1 := ⟨zT_of (List.mem_of_getElem? (i := 979) (by decide +kernel)) rfl, zT_of (List.mem_of_getElem? (i := 6) (by decide +kernel)) rfl, ⟨by decide +kernel, by decide +kernel⟩, by decide +kernel, by decide⟩
theorem mvX7_height : Cond.instanceMethod yX7_height ∈ zT ∧ Cond.selects yX7_height.cls yX7_height yX7_height ∈ zT := ⟨zT_of (List.mem_of_getElem? (i := 978) (by decide +kernel)) rfl, zT_priv (q := (yX7_height, 21)) (List.mem_of_getElem? (i := 26) (by decide +kernel))⟩
theorem moX7_isHermits : zMo yX7_isHermits cX7_isHermits 2 (some .boolean) 1 := ⟨zT_of (List.mem_of_getElem? (i := 1007) (by decide +kernel)) rfl, zT_of (List.mem_of_getElem? (i := 6) (by decide +kernel)) rfl, ⟨by decide +kernel, by decide +kernel⟩, by decide +kernel, by decide⟩
theorem mvX7_isHermits : Cond.instanceMethod yX7_isHermits ∈ zT ∧ Cond.selects yX7_isHermits.cls yX7_isHermits yX7_isHermits ∈ zT := ⟨zT_of (List.mem_of_getElem? (i := 1006) (by decide +kernel)) rfl, zT_priv (q := (yX7_isHermits, 21)) (List.mem_of_getElem? (i := 31) (by decide +kernel))⟩
theorem moX7_end : zMo yX7_end cX7_end 3 (some .int) 2 := ⟨zT_of (List.mem_of_getElem? (i := 987) (by decide +kernel)) rfl, zT_of (List.mem_of_getElem? (i := 6) (by decide +kernel)) rfl, ⟨by decide +kernel, by decide +kernel⟩, by decide +kernel, by decide⟩
theorem mvX7_end : Cond.instanceMethod yX7_end ∈ zT ∧ Cond.selects yX7_end.cls yX7_end yX7_end ∈ zT := ⟨zT_of (List.mem_of_getElem? (i := 986) (by decide +kernel)) rfl, zT_priv (q := (yX7_end, 21)) (List.mem_of_getElem? (i := 28) (by decide +kernel))⟩
theorem moX7_its : zMo yX7_its cX7_its 3 (some .int) 2 := ⟨zT_of (List.mem_of_getElem? (i := 995) (by decide +kernel)) rfl, zT_of (List.mem_of_getElem? (i := 6) (by decide +kernel)) rfl, ⟨by decide +kernel, by decide +kernel⟩, by decide +kernel, by decide⟩
theorem mvX7_its : Cond.instanceMethod yX7_its ∈ zT ∧ Cond.selects yX7_its.cls yX7_its yX7_its ∈ zT := ⟨zT_of (List.mem_of_getElem? (i := 994) (by decide +kernel)) rfl, zT_priv (q := (yX7_its, 21)) (List.mem_of_getElem? (i := 30) (by decide +kernel))⟩
theorem moX7_sets : zMo yX7_sets cX7_sets 4 none 3 := ⟨zT_of (List.mem_of_getElem? (i := 1175) (by decide +kernel)) rfl, zT_of (List.mem_of_getElem? (i := 6) (by decide +kernel)) rfl, ⟨by decide +kernel, by decide +kernel⟩, by decide +kernel, by decide⟩
theorem mvX7_sets : Cond.instanceMethod yX7_sets ∈ zT ∧ Cond.selects yX7_sets.cls yX7_sets yX7_sets ∈ zT := ⟨zT_of (List.mem_of_getElem? (i := 1174) (by decide +kernel)) rfl, zT_priv (q := (yX7_sets, 21)) (List.mem_of_getElem? (i := 51) (by decide +kernel))⟩
theorem moX7_addVillage : zMo yX7_addVillage cX7_addVillage 4 none 2 := ⟨zT_of (List.mem_of_getElem? (i := 967) (by decide +kernel)) rfl, zT_of (List.mem_of_getElem? (i := 6) (by decide +kernel)) rfl, ⟨by decide +kernel, by decide +kernel⟩, by decide +kernel, by decide⟩
theorem mvX7_addVillage : Cond.instanceMethod yX7_addVillage ∈ zT ∧ Cond.selects yX7_addVillage.cls yX7_addVillage yX7_addVillage ∈ zT := ⟨zT_of (List.mem_of_getElem? (i := 966) (by decide +kernel)) rfl, zT_priv (q := (yX7_addVillage, 21)) (List.mem_of_getElem? (i := 24) (by decide +kernel))⟩
theorem moX7_village : zMo yX7_village cX7_village 2 (some .int) 1 := ⟨zT_of (List.mem_of_getElem? (i := 954) (by decide +kernel)) rfl, zT_of (List.mem_of_getElem? (i := 6) (by decide +kernel)) rfl, ⟨by decide +kernel, by decide +kernel⟩, by decide +kernel, by decide⟩
theorem mvX7_village : Cond.instanceMethod yX7_village ∈ zT ∧ Cond.selects yX7_village.cls yX7_village yX7_village ∈ zT := ⟨zT_of (List.mem_of_getElem? (i := 952) (by decide +kernel)) rfl, zT_of (List.mem_of_getElem? (i := 953) (by decide +kernel)) rfl⟩
theorem moX7_roadsAt : zMo yX7_roadsAt cX7_roadsAt 4 (some .int) 1 := ⟨zT_of (List.mem_of_getElem? (i := 983) (by decide +kernel)) rfl, zT_of (List.mem_of_getElem? (i := 6) (by decide +kernel)) rfl, ⟨by decide +kernel, by decide +kernel⟩, by decide +kernel, by decide⟩
theorem mvX7_roadsAt : Cond.instanceMethod yX7_roadsAt ∈ zT ∧ Cond.selects yX7_roadsAt.cls yX7_roadsAt yX7_roadsAt ∈ zT := ⟨zT_of (List.mem_of_getElem? (i := 982) (by decide +kernel)) rfl, zT_priv (q := (yX7_roadsAt, 21)) (List.mem_of_getElem? (i := 27) (by decide +kernel))⟩
theorem moX7_lettersAt : zMo yX7_lettersAt cX7_lettersAt 4 (some .int) 1 := ⟨zT_of (List.mem_of_getElem? (i := 991) (by decide +kernel)) rfl, zT_of (List.mem_of_getElem? (i := 6) (by decide +kernel)) rfl, ⟨by decide +kernel, by decide +kernel⟩, by decide +kernel, by decide⟩
theorem mvX7_lettersAt : Cond.instanceMethod yX7_lettersAt ∈ zT ∧ Cond.selects yX7_lettersAt.cls yX7_lettersAt yX7_lettersAt ∈ zT := ⟨zT_of (List.mem_of_getElem? (i := 990) (by decide +kernel)) rfl, zT_priv (q := (yX7_lettersAt, 21)) (List.mem_of_getElem? (i := 29) (by decide +kernel))⟩
theorem moX7_villageOf : zMo yX7_villageOf cX7_villageOf 3 (some .int) 2 := ⟨zT_of (List.mem_of_getElem? (i := 971) (by decide +kernel)) rfl, zT_of (List.mem_of_getElem? (i := 6) (by decide +kernel)) rfl, ⟨by decide +kernel, by decide +kernel⟩, by decide +kernel, by decide⟩
theorem mvX7_villageOf : Cond.instanceMethod yX7_villageOf ∈ zT ∧ Cond.selects yX7_villageOf.cls yX7_villageOf yX7_villageOf ∈ zT := ⟨zT_of (List.mem_of_getElem? (i := 969) (by decide +kernel)) rfl, zT_of (List.mem_of_getElem? (i := 970) (by decide +kernel)) rfl⟩
theorem moX7_slide : zMo yX7_slide cX7_slide 4 (some .int) 2 := ⟨zT_of (List.mem_of_getElem? (i := 999) (by decide +kernel)) rfl, zT_of (List.mem_of_getElem? (i := 6) (by decide +kernel)) rfl, ⟨by decide +kernel, by decide +kernel⟩, by decide +kernel, by decide⟩
theorem mvX7_slide : Cond.instanceMethod yX7_slide ∈ zT ∧ Cond.selects yX7_slide.cls yX7_slide yX7_slide ∈ zT := ⟨zT_of (List.mem_of_getElem? (i := 997) (by decide +kernel)) rfl, zT_of (List.mem_of_getElem? (i := 998) (by decide +kernel)) rfl⟩
theorem moX7_hermit : zMo yX7_hermit cX7_hermit 4 (some .int) 2 := ⟨zT_of (List.mem_of_getElem? (i := 1003) (by decide +kernel)) rfl, zT_of (List.mem_of_getElem? (i := 6) (by decide +kernel)) rfl, ⟨by decide +kernel, by decide +kernel⟩, by decide +kernel, by decide⟩
theorem mvX7_hermit : Cond.instanceMethod yX7_hermit ∈ zT ∧ Cond.selects yX7_hermit.cls yX7_hermit yX7_hermit ∈ zT := ⟨zT_of (List.mem_of_getElem? (i := 1001) (by decide +kernel)) rfl, zT_of (List.mem_of_getElem? (i := 1002) (by decide +kernel)) rfl⟩
theorem moX7_between : zMo yX7_between cX7_between 5 (some .int) 2 := ⟨zT_of (List.mem_of_getElem? (i := 1015) (by decide +kernel)) rfl, zT_of (List.mem_of_getElem? (i := 6) (by decide +kernel)) rfl, ⟨by decide +kernel, by decide +kernel⟩, by decide +kernel, by decide⟩
theorem mvX7_between : Cond.instanceMethod yX7_between ∈ zT ∧ Cond.selects yX7_between.cls yX7_between yX7_between ∈ zT := ⟨zT_of (List.mem_of_getElem? (i := 1014) (by decide +kernel)) rfl, zT_priv (q := (yX7_between, 21)) (List.mem_of_getElem? (i := 32) (by decide +kernel))⟩
theorem moX7_addRoad : zMo yX7_addRoad cX7_addRoad 5 none 3 := ⟨zT_of (List.mem_of_getElem? (i := 1020) (by decide +kernel)) rfl, zT_of (List.mem_of_getElem? (i := 6) (by decide +kernel)) rfl, ⟨by decide +kernel, by decide +kernel⟩, by decide +kernel, by decide⟩
theorem mvX7_addRoad : Cond.instanceMethod yX7_addRoad ∈ zT ∧ Cond.selects yX7_addRoad.cls yX7_addRoad yX7_addRoad ∈ zT := ⟨zT_of (List.mem_of_getElem? (i := 1019) (by decide +kernel)) rfl, zT_priv (q := (yX7_addRoad, 21)) (List.mem_of_getElem? (i := 33) (by decide +kernel))⟩
theorem moX7_road : zMo yX7_road cX7_road 4 (some .int) 3 := ⟨zT_of (List.mem_of_getElem? (i := 1011) (by decide +kernel)) rfl, zT_of (List.mem_of_getElem? (i := 6) (by decide +kernel)) rfl, ⟨by decide +kernel, by decide +kernel⟩, by decide +kernel, by decide⟩
theorem mvX7_road : Cond.instanceMethod yX7_road ∈ zT ∧ Cond.selects yX7_road.cls yX7_road yX7_road ∈ zT := ⟨zT_of (List.mem_of_getElem? (i := 1009) (by decide +kernel)) rfl, zT_of (List.mem_of_getElem? (i := 1010) (by decide +kernel)) rfl⟩
theorem moX7_roadOf : zMo yX7_roadOf cX7_roadOf 3 (some .int) 2 := ⟨zT_of (List.mem_of_getElem? (i := 1024) (by decide +kernel)) rfl, zT_of (List.mem_of_getElem? (i := 6) (by decide +kernel)) rfl, ⟨by decide +kernel, by decide +kernel⟩, by decide +kernel, by decide⟩
theorem mvX7_roadOf : Cond.instanceMethod yX7_roadOf ∈ zT ∧ Cond.selects yX7_roadOf.cls yX7_roadOf yX7_roadOf ∈ zT := ⟨zT_of (List.mem_of_getElem? (i := 1022) (by decide +kernel)) rfl, zT_of (List.mem_of_getElem? (i := 1023) (by decide +kernel)) rfl⟩
theorem moX7_every : zMo yX7_every cX7_every 3 (some .int) 1 := ⟨zT_of (List.mem_of_getElem? (i := 1032) (by decide +kernel)) rfl, zT_of (List.mem_of_getElem? (i := 6) (by decide +kernel)) rfl, ⟨by decide +kernel, by decide +kernel⟩, by decide +kernel, by decide⟩
theorem mvX7_every : Cond.instanceMethod yX7_every ∈ zT ∧ Cond.selects yX7_every.cls yX7_every yX7_every ∈ zT := ⟨zT_of (List.mem_of_getElem? (i := 1030) (by decide +kernel)) rfl, zT_of (List.mem_of_getElem? (i := 1031) (by decide +kernel)) rfl⟩
theorem moX7_theSea : zMo yX7_theSea cX7_theSea 3 (some .int) 0 := ⟨zT_of (List.mem_of_getElem? (i := 1041) (by decide +kernel)) rfl, zT_of (List.mem_of_getElem? (i := 6) (by decide +kernel)) rfl, ⟨by decide +kernel, by decide +kernel⟩, by decide +kernel, by decide⟩
theorem mvX7_theSea : Cond.instanceMethod yX7_theSea ∈ zT ∧ Cond.selects yX7_theSea.cls yX7_theSea yX7_theSea ∈ zT := ⟨zT_of (List.mem_of_getElem? (i := 1040) (by decide +kernel)) rfl, zT_priv (q := (yX7_theSea, 21)) (List.mem_of_getElem? (i := 35) (by decide +kernel))⟩
theorem moX7_thePeak : zMo yX7_thePeak cX7_thePeak 3 (some .int) 0 := ⟨zT_of (List.mem_of_getElem? (i := 1049) (by decide +kernel)) rfl, zT_of (List.mem_of_getElem? (i := 6) (by decide +kernel)) rfl, ⟨by decide +kernel, by decide +kernel⟩, by decide +kernel, by decide⟩
theorem mvX7_thePeak : Cond.instanceMethod yX7_thePeak ∈ zT ∧ Cond.selects yX7_thePeak.cls yX7_thePeak yX7_thePeak ∈ zT := ⟨zT_of (List.mem_of_getElem? (i := 1048) (by decide +kernel)) rfl, zT_priv (q := (yX7_thePeak, 21)) (List.mem_of_getElem? (i := 36) (by decide +kernel))⟩
theorem moX7_sea : zMo yX7_sea cX7_sea 1 (some .int) 0 := ⟨zT_of (List.mem_of_getElem? (i := 1036) (by decide +kernel)) rfl, zT_of (List.mem_of_getElem? (i := 6) (by decide +kernel)) rfl, ⟨by decide +kernel, by decide +kernel⟩, by decide +kernel, by decide⟩
theorem mvX7_sea : Cond.instanceMethod yX7_sea ∈ zT ∧ Cond.selects yX7_sea.cls yX7_sea yX7_sea ∈ zT := ⟨zT_of (List.mem_of_getElem? (i := 1034) (by decide +kernel)) rfl, zT_of (List.mem_of_getElem? (i := 1035) (by decide +kernel)) rfl⟩
theorem moX7_peak : zMo yX7_peak cX7_peak 1 (some .int) 0 := ⟨zT_of (List.mem_of_getElem? (i := 1045) (by decide +kernel)) rfl, zT_of (List.mem_of_getElem? (i := 6) (by decide +kernel)) rfl, ⟨by decide +kernel, by decide +kernel⟩, by decide +kernel, by decide⟩
theorem mvX7_peak : Cond.instanceMethod yX7_peak ∈ zT ∧ Cond.selects yX7_peak.cls yX7_peak yX7_peak ∈ zT := ⟨zT_of (List.mem_of_getElem? (i := 1043) (by decide +kernel)) rfl, zT_of (List.mem_of_getElem? (i := 1044) (by decide +kernel)) rfl⟩
theorem moX7_needsOf : zMo yX7_needsOf cX7_needsOf 3 (some .int) 2 := ⟨zT_of (List.mem_of_getElem? (i := 1060) (by decide +kernel)) rfl, zT_of (List.mem_of_getElem? (i := 6) (by decide +kernel)) rfl, ⟨by decide +kernel, by decide +kernel⟩, by decide +kernel, by decide⟩
theorem mvX7_needsOf : Cond.instanceMethod yX7_needsOf ∈ zT ∧ Cond.selects yX7_needsOf.cls yX7_needsOf yX7_needsOf ∈ zT := ⟨zT_of (List.mem_of_getElem? (i := 1059) (by decide +kernel)) rfl, zT_priv (q := (yX7_needsOf, 21)) (List.mem_of_getElem? (i := 37) (by decide +kernel))⟩
theorem moX7_needs : zMo yX7_needs cX7_needs 3 (some .int) 2 := ⟨zT_of (List.mem_of_getElem? (i := 1053) (by decide +kernel)) rfl, zT_of (List.mem_of_getElem? (i := 6) (by decide +kernel)) rfl, ⟨by decide +kernel, by decide +kernel⟩, by decide +kernel, by decide⟩
theorem mvX7_needs : Cond.instanceMethod yX7_needs ∈ zT ∧ Cond.selects yX7_needs.cls yX7_needs yX7_needs ∈ zT := ⟨zT_of (List.mem_of_getElem? (i := 1051) (by decide +kernel)) rfl, zT_of (List.mem_of_getElem? (i := 1052) (by decide +kernel)) rfl⟩
theorem moX7_goesDown : zMo yX7_goesDown cX7_goesDown 6 (some .boolean) 3 := ⟨zT_of (List.mem_of_getElem? (i := 1068) (by decide +kernel)) rfl, zT_of (List.mem_of_getElem? (i := 6) (by decide +kernel)) rfl, ⟨by decide +kernel, by decide +kernel⟩, by decide +kernel, by decide⟩
theorem mvX7_goesDown : Cond.instanceMethod yX7_goesDown ∈ zT ∧ Cond.selects yX7_goesDown.cls yX7_goesDown yX7_goesDown ∈ zT := ⟨zT_of (List.mem_of_getElem? (i := 1067) (by decide +kernel)) rfl, zT_priv (q := (yX7_goesDown, 21)) (List.mem_of_getElem? (i := 38) (by decide +kernel))⟩
theorem moX7_goes : zMo yX7_goes cX7_goes 4 (some .int) 3 := ⟨zT_of (List.mem_of_getElem? (i := 1064) (by decide +kernel)) rfl, zT_of (List.mem_of_getElem? (i := 6) (by decide +kernel)) rfl, ⟨by decide +kernel, by decide +kernel⟩, by decide +kernel, by decide⟩
theorem mvX7_goes : Cond.instanceMethod yX7_goes ∈ zT ∧ Cond.selects yX7_goes.cls yX7_goes yX7_goes ∈ zT := ⟨zT_of (List.mem_of_getElem? (i := 1062) (by decide +kernel)) rfl, zT_of (List.mem_of_getElem? (i := 1063) (by decide +kernel)) rfl⟩
theorem moX7_flies : zMo yX7_flies cX7_flies 2 (some .boolean) 1 := ⟨zT_of (List.mem_of_getElem? (i := 1089) (by decide +kernel)) rfl, zT_of (List.mem_of_getElem? (i := 6) (by decide +kernel)) rfl, ⟨by decide +kernel, by decide +kernel⟩, by decide +kernel, by decide⟩
theorem mvX7_flies : Cond.instanceMethod yX7_flies ∈ zT ∧ Cond.selects yX7_flies.cls yX7_flies yX7_flies ∈ zT := ⟨zT_of (List.mem_of_getElem? (i := 1088) (by decide +kernel)) rfl, zT_priv (q := (yX7_flies, 21)) (List.mem_of_getElem? (i := 42) (by decide +kernel))⟩
theorem moX7_takesRoad : zMo yX7_takesRoad cX7_takesRoad 7 (some .boolean) 4 := ⟨zT_of (List.mem_of_getElem? (i := 1097) (by decide +kernel)) rfl, zT_of (List.mem_of_getElem? (i := 6) (by decide +kernel)) rfl, ⟨by decide +kernel, by decide +kernel⟩, by decide +kernel, by decide⟩
theorem mvX7_takesRoad : Cond.instanceMethod yX7_takesRoad ∈ zT ∧ Cond.selects yX7_takesRoad.cls yX7_takesRoad yX7_takesRoad ∈ zT := ⟨zT_of (List.mem_of_getElem? (i := 1096) (by decide +kernel)) rfl, zT_priv (q := (yX7_takesRoad, 21)) (List.mem_of_getElem? (i := 44) (by decide +kernel))⟩
theorem moX7_takesBalloon : zMo yX7_takesBalloon cX7_takesBalloon 6 (some .boolean) 0 := ⟨zT_of (List.mem_of_getElem? (i := 1101) (by decide +kernel)) rfl, zT_of (List.mem_of_getElem? (i := 6) (by decide +kernel)) rfl, ⟨by decide +kernel, by decide +kernel⟩, by decide +kernel, by decide⟩
theorem mvX7_takesBalloon : Cond.instanceMethod yX7_takesBalloon ∈ zT ∧ Cond.selects yX7_takesBalloon.cls yX7_takesBalloon yX7_takesBalloon ∈ zT := ⟨zT_of (List.mem_of_getElem? (i := 1100) (by decide +kernel)) rfl, zT_priv (q := (yX7_takesBalloon, 21)) (List.mem_of_getElem? (i := 45) (by decide +kernel))⟩
theorem moX7_goesOn : zMo yX7_goesOn cX7_goesOn 7 (some .boolean) 2 := ⟨zT_of (List.mem_of_getElem? (i := 1093) (by decide +kernel)) rfl, zT_of (List.mem_of_getElem? (i := 6) (by decide +kernel)) rfl, ⟨by decide +kernel, by decide +kernel⟩, by decide +kernel, by decide⟩
theorem mvX7_goesOn : Cond.instanceMethod yX7_goesOn ∈ zT ∧ Cond.selects yX7_goesOn.cls yX7_goesOn yX7_goesOn ∈ zT := ⟨zT_of (List.mem_of_getElem? (i := 1092) (by decide +kernel)) rfl, zT_priv (q := (yX7_goesOn, 21)) (List.mem_of_getElem? (i := 43) (by decide +kernel))⟩
theorem moX7_find : zMo yX7_find cX7_find 7 none 4 := ⟨zT_of (List.mem_of_getElem? (i := 1084) (by decide +kernel)) rfl, zT_of (List.mem_of_getElem? (i := 6) (by decide +kernel)) rfl, ⟨by decide +kernel, by decide +kernel⟩, by decide +kernel, by decide⟩
theorem mvX7_find : Cond.instanceMethod yX7_find ∈ zT ∧ Cond.selects yX7_find.cls yX7_find yX7_find ∈ zT := ⟨zT_of (List.mem_of_getElem? (i := 1083) (by decide +kernel)) rfl, zT_priv (q := (yX7_find, 21)) (List.mem_of_getElem? (i := 41) (by decide +kernel))⟩
theorem moX7_earliest : zMo yX7_earliest cX7_earliest 5 (some .int) 4 := ⟨zT_of (List.mem_of_getElem? (i := 1080) (by decide +kernel)) rfl, zT_of (List.mem_of_getElem? (i := 6) (by decide +kernel)) rfl, ⟨by decide +kernel, by decide +kernel⟩, by decide +kernel, by decide⟩
theorem mvX7_earliest : Cond.instanceMethod yX7_earliest ∈ zT ∧ Cond.selects yX7_earliest.cls yX7_earliest yX7_earliest ∈ zT := ⟨zT_of (List.mem_of_getElem? (i := 1079) (by decide +kernel)) rfl, zT_priv (q := (yX7_earliest, 21)) (List.mem_of_getElem? (i := 40) (by decide +kernel))⟩
theorem moX7_reached : zMo yX7_reached cX7_reached 3 (some .int) 0 := ⟨zT_of (List.mem_of_getElem? (i := 1113) (by decide +kernel)) rfl, zT_of (List.mem_of_getElem? (i := 6) (by decide +kernel)) rfl, ⟨by decide +kernel, by decide +kernel⟩, by decide +kernel, by decide⟩
theorem mvX7_reached : Cond.instanceMethod yX7_reached ∈ zT ∧ Cond.selects yX7_reached.cls yX7_reached yX7_reached ∈ zT := ⟨zT_of (List.mem_of_getElem? (i := 1112) (by decide +kernel)) rfl, zT_priv (q := (yX7_reached, 21)) (List.mem_of_getElem? (i := 47) (by decide +kernel))⟩
theorem moX7_isAsked : zMo yX7_isAsked cX7_isAsked 4 (some .boolean) 3 := ⟨zT_of (List.mem_of_getElem? (i := 1076) (by decide +kernel)) rfl, zT_of (List.mem_of_getElem? (i := 6) (by decide +kernel)) rfl, ⟨by decide +kernel, by decide +kernel⟩, by decide +kernel, by decide⟩
theorem mvX7_isAsked : Cond.instanceMethod yX7_isAsked ∈ zT ∧ Cond.selects yX7_isAsked.cls yX7_isAsked yX7_isAsked ∈ zT := ⟨zT_of (List.mem_of_getElem? (i := 1075) (by decide +kernel)) rfl, zT_priv (q := (yX7_isAsked, 21)) (List.mem_of_getElem? (i := 39) (by decide +kernel))⟩
theorem moX7_least : zMo yX7_least cX7_least 5 (some .int) 3 := ⟨zT_of (List.mem_of_getElem? (i := 1072) (by decide +kernel)) rfl, zT_of (List.mem_of_getElem? (i := 6) (by decide +kernel)) rfl, ⟨by decide +kernel, by decide +kernel⟩, by decide +kernel, by decide⟩
theorem mvX7_least : Cond.instanceMethod yX7_least ∈ zT ∧ Cond.selects yX7_least.cls yX7_least yX7_least ∈ zT := ⟨zT_of (List.mem_of_getElem? (i := 1070) (by decide +kernel)) rfl, zT_of (List.mem_of_getElem? (i := 1071) (by decide +kernel)) rfl⟩
theorem moX7_reachOf : zMo yX7_reachOf cX7_reachOf 4 (some .int) 3 := ⟨zT_of (List.mem_of_getElem? (i := 1109) (by decide +kernel)) rfl, zT_of (List.mem_of_getElem? (i := 6) (by decide +kernel)) rfl, ⟨by decide +kernel, by decide +kernel⟩, by decide +kernel, by decide⟩
theorem mvX7_reachOf : Cond.instanceMethod yX7_reachOf ∈ zT ∧ Cond.selects yX7_reachOf.cls yX7_reachOf yX7_reachOf ∈ zT := ⟨zT_of (List.mem_of_getElem? (i := 1108) (by decide +kernel)) rfl, zT_priv (q := (yX7_reachOf, 21)) (List.mem_of_getElem? (i := 46) (by decide +kernel))⟩
theorem moX7_reach : zMo yX7_reach cX7_reach 3 (some .int) 2 := ⟨zT_of (List.mem_of_getElem? (i := 1105) (by decide +kernel)) rfl, zT_of (List.mem_of_getElem? (i := 6) (by decide +kernel)) rfl, ⟨by decide +kernel, by decide +kernel⟩, by decide +kernel, by decide⟩
theorem mvX7_reach : Cond.instanceMethod yX7_reach ∈ zT ∧ Cond.selects yX7_reach.cls yX7_reach yX7_reach ∈ zT := ⟨zT_of (List.mem_of_getElem? (i := 1103) (by decide +kernel)) rfl, zT_of (List.mem_of_getElem? (i := 1104) (by decide +kernel)) rfl⟩
theorem moX7_whence : zMo yX7_whence cX7_whence 5 (some .int) 2 := ⟨zT_of (List.mem_of_getElem? (i := 1117) (by decide +kernel)) rfl, zT_of (List.mem_of_getElem? (i := 6) (by decide +kernel)) rfl, ⟨by decide +kernel, by decide +kernel⟩, by decide +kernel, by decide⟩
theorem mvX7_whence : Cond.instanceMethod yX7_whence ∈ zT ∧ Cond.selects yX7_whence.cls yX7_whence yX7_whence ∈ zT := ⟨zT_of (List.mem_of_getElem? (i := 1115) (by decide +kernel)) rfl, zT_of (List.mem_of_getElem? (i := 1116) (by decide +kernel)) rfl⟩
theorem moX7_below : zMo yX7_below cX7_below 3 (some .int) 2 := ⟨zT_of (List.mem_of_getElem? (i := 1124) (by decide +kernel)) rfl, zT_of (List.mem_of_getElem? (i := 6) (by decide +kernel)) rfl, ⟨by decide +kernel, by decide +kernel⟩, by decide +kernel, by decide⟩
theorem mvX7_below : Cond.instanceMethod yX7_below ∈ zT ∧ Cond.selects yX7_below.cls yX7_below yX7_below ∈ zT := ⟨zT_of (List.mem_of_getElem? (i := 1122) (by decide +kernel)) rfl, zT_of (List.mem_of_getElem? (i := 1123) (by decide +kernel)) rfl⟩
theorem moX7_back : zMo yX7_back cX7_back 5 (some .int) 3 := ⟨zT_of (List.mem_of_getElem? (i := 1132) (by decide +kernel)) rfl, zT_of (List.mem_of_getElem? (i := 6) (by decide +kernel)) rfl, ⟨by decide +kernel, by decide +kernel⟩, by decide +kernel, by decide⟩
theorem mvX7_back : Cond.instanceMethod yX7_back ∈ zT ∧ Cond.selects yX7_back.cls yX7_back yX7_back ∈ zT := ⟨zT_of (List.mem_of_getElem? (i := 1131) (by decide +kernel)) rfl, zT_priv (q := (yX7_back, 21)) (List.mem_of_getElem? (i := 48) (by decide +kernel))⟩
theorem moX7_round : zMo yX7_round cX7_round 5 (some .int) 3 := ⟨zT_of (List.mem_of_getElem? (i := 1128) (by decide +kernel)) rfl, zT_of (List.mem_of_getElem? (i := 6) (by decide +kernel)) rfl, ⟨by decide +kernel, by decide +kernel⟩, by decide +kernel, by decide⟩
theorem mvX7_round : Cond.instanceMethod yX7_round ∈ zT ∧ Cond.selects yX7_round.cls yX7_round yX7_round ∈ zT := ⟨zT_of (List.mem_of_getElem? (i := 1126) (by decide +kernel)) rfl, zT_of (List.mem_of_getElem? (i := 1127) (by decide +kernel)) rfl⟩
theorem moX7_live : zMo yX7_live cX7_live 9 (some .int) 2 := ⟨zT_of (List.mem_of_getElem? (i := 1136) (by decide +kernel)) rfl, zT_of (List.mem_of_getElem? (i := 6) (by decide +kernel)) rfl, ⟨by decide +kernel, by decide +kernel⟩, by decide +kernel, by decide⟩
theorem mvX7_live : Cond.instanceMethod yX7_live ∈ zT ∧ Cond.selects yX7_live.cls yX7_live yX7_live ∈ zT := ⟨zT_of (List.mem_of_getElem? (i := 1134) (by decide +kernel)) rfl, zT_of (List.mem_of_getElem? (i := 1135) (by decide +kernel)) rfl⟩
theorem moX7_quiet : zMo yX7_quiet cX7_quiet 7 (some .int) 1 := ⟨zT_of (List.mem_of_getElem? (i := 1140) (by decide +kernel)) rfl, zT_of (List.mem_of_getElem? (i := 6) (by decide +kernel)) rfl, ⟨by decide +kernel, by decide +kernel⟩, by decide +kernel, by decide⟩
theorem mvX7_quiet : Cond.instanceMethod yX7_quiet ∈ zT ∧ Cond.selects yX7_quiet.cls yX7_quiet yX7_quiet ∈ zT := ⟨zT_of (List.mem_of_getElem? (i := 1138) (by decide +kernel)) rfl, zT_of (List.mem_of_getElem? (i := 1139) (by decide +kernel)) rfl⟩
theorem moX7_kind : zMo yX7_kind cX7_kind 7 (some .int) 2 := ⟨zT_of (List.mem_of_getElem? (i := 1144) (by decide +kernel)) rfl, zT_of (List.mem_of_getElem? (i := 6) (by decide +kernel)) rfl, ⟨by decide +kernel, by decide +kernel⟩, by decide +kernel, by decide⟩
theorem mvX7_kind : Cond.instanceMethod yX7_kind ∈ zT ∧ Cond.selects yX7_kind.cls yX7_kind yX7_kind ∈ zT := ⟨zT_of (List.mem_of_getElem? (i := 1142) (by decide +kernel)) rfl, zT_of (List.mem_of_getElem? (i := 1143) (by decide +kernel)) rfl⟩
theorem moX7_rise : zMo yX7_rise cX7_rise 8 (some .int) 3 := ⟨zT_of (List.mem_of_getElem? (i := 1148) (by decide +kernel)) rfl, zT_of (List.mem_of_getElem? (i := 6) (by decide +kernel)) rfl, ⟨by decide +kernel, by decide +kernel⟩, by decide +kernel, by decide⟩
theorem mvX7_rise : Cond.instanceMethod yX7_rise ∈ zT ∧ Cond.selects yX7_rise.cls yX7_rise yX7_rise ∈ zT := ⟨zT_of (List.mem_of_getElem? (i := 1146) (by decide +kernel)) rfl, zT_of (List.mem_of_getElem? (i := 1147) (by decide +kernel)) rfl⟩
theorem moX7_fall : zMo yX7_fall cX7_fall 4 (some .int) 3 := ⟨zT_of (List.mem_of_getElem? (i := 1152) (by decide +kernel)) rfl, zT_of (List.mem_of_getElem? (i := 6) (by decide +kernel)) rfl, ⟨by decide +kernel, by decide +kernel⟩, by decide +kernel, by decide⟩
theorem mvX7_fall : Cond.instanceMethod yX7_fall ∈ zT ∧ Cond.selects yX7_fall.cls yX7_fall yX7_fall ∈ zT := ⟨zT_of (List.mem_of_getElem? (i := 1150) (by decide +kernel)) rfl, zT_of (List.mem_of_getElem? (i := 1151) (by decide +kernel)) rfl⟩
theorem moX7_reachWith : zMo yX7_reachWith cX7_reachWith 8 (some .int) 3 := ⟨zT_of (List.mem_of_getElem? (i := 1163) (by decide +kernel)) rfl, zT_of (List.mem_of_getElem? (i := 6) (by decide +kernel)) rfl, ⟨by decide +kernel, by decide +kernel⟩, by decide +kernel, by decide⟩
theorem mvX7_reachWith : Cond.instanceMethod yX7_reachWith ∈ zT ∧ Cond.selects yX7_reachWith.cls yX7_reachWith yX7_reachWith ∈ zT := ⟨zT_of (List.mem_of_getElem? (i := 1162) (by decide +kernel)) rfl, zT_priv (q := (yX7_reachWith, 21)) (List.mem_of_getElem? (i := 49) (by decide +kernel))⟩
theorem moX7_dig : zMo yX7_dig cX7_dig 7 (some .int) 2 := ⟨zT_of (List.mem_of_getElem? (i := 1156) (by decide +kernel)) rfl, zT_of (List.mem_of_getElem? (i := 6) (by decide +kernel)) rfl, ⟨by decide +kernel, by decide +kernel⟩, by decide +kernel, by decide⟩
theorem mvX7_dig : Cond.instanceMethod yX7_dig ∈ zT ∧ Cond.selects yX7_dig.cls yX7_dig yX7_dig ∈ zT := ⟨zT_of (List.mem_of_getElem? (i := 1154) (by decide +kernel)) rfl, zT_of (List.mem_of_getElem? (i := 1155) (by decide +kernel)) rfl⟩
theorem moX7_addLetter : zMo yX7_addLetter cX7_addLetter 5 none 3 := ⟨zT_of (List.mem_of_getElem? (i := 1171) (by decide +kernel)) rfl, zT_of (List.mem_of_getElem? (i := 6) (by decide +kernel)) rfl, ⟨by decide +kernel, by decide +kernel⟩, by decide +kernel, by decide⟩
theorem mvX7_addLetter : Cond.instanceMethod yX7_addLetter ∈ zT ∧ Cond.selects yX7_addLetter.cls yX7_addLetter yX7_addLetter ∈ zT := ⟨zT_of (List.mem_of_getElem? (i := 1170) (by decide +kernel)) rfl, zT_priv (q := (yX7_addLetter, 21)) (List.mem_of_getElem? (i := 50) (by decide +kernel))⟩
theorem moX7_send : zMo yX7_send cX7_send 4 (some .int) 3 := ⟨zT_of (List.mem_of_getElem? (i := 1167) (by decide +kernel)) rfl, zT_of (List.mem_of_getElem? (i := 6) (by decide +kernel)) rfl, ⟨by decide +kernel, by decide +kernel⟩, by decide +kernel, by decide⟩
theorem mvX7_send : Cond.instanceMethod yX7_send ∈ zT ∧ Cond.selects yX7_send.cls yX7_send yX7_send ∈ zT := ⟨zT_of (List.mem_of_getElem? (i := 1165) (by decide +kernel)) rfl, zT_of (List.mem_of_getElem? (i := 1166) (by decide +kernel)) rfl⟩
theorem moX7_isThere : zMo yX7_isThere cX7_isThere 2 (some .boolean) 1 := ⟨zT_of (List.mem_of_getElem? (i := 1187) (by decide +kernel)) rfl, zT_of (List.mem_of_getElem? (i := 6) (by decide +kernel)) rfl, ⟨by decide +kernel, by decide +kernel⟩, by decide +kernel, by decide⟩
theorem mvX7_isThere : Cond.instanceMethod yX7_isThere ∈ zT ∧ Cond.selects yX7_isThere.cls yX7_isThere yX7_isThere ∈ zT := ⟨zT_of (List.mem_of_getElem? (i := 1186) (by decide +kernel)) rfl, zT_priv (q := (yX7_isThere, 21)) (List.mem_of_getElem? (i := 53) (by decide +kernel))⟩
theorem moX7_of : zMo yX7_of cX7_of 3 (some .int) 2 := ⟨zT_of (List.mem_of_getElem? (i := 1179) (by decide +kernel)) rfl, zT_of (List.mem_of_getElem? (i := 6) (by decide +kernel)) rfl, ⟨by decide +kernel, by decide +kernel⟩, by decide +kernel, by decide⟩
theorem mvX7_of : Cond.instanceMethod yX7_of ∈ zT ∧ Cond.selects yX7_of.cls yX7_of yX7_of ∈ zT := ⟨zT_of (List.mem_of_getElem? (i := 1177) (by decide +kernel)) rfl, zT_of (List.mem_of_getElem? (i := 1178) (by decide +kernel)) rfl⟩
theorem moX7_turn : zMo yX7_turn cX7_turn 4 (some .int) 2 := ⟨zT_of (List.mem_of_getElem? (i := 1191) (by decide +kernel)) rfl, zT_of (List.mem_of_getElem? (i := 6) (by decide +kernel)) rfl, ⟨by decide +kernel, by decide +kernel⟩, by decide +kernel, by decide⟩
theorem mvX7_turn : Cond.instanceMethod yX7_turn ∈ zT ∧ Cond.selects yX7_turn.cls yX7_turn yX7_turn ∈ zT := ⟨zT_of (List.mem_of_getElem? (i := 1189) (by decide +kernel)) rfl, zT_of (List.mem_of_getElem? (i := 1190) (by decide +kernel)) rfl⟩
theorem moX7_isUnder : zMo yX7_isUnder cX7_isUnder 2 (some .boolean) 2 := ⟨zT_of (List.mem_of_getElem? (i := 1198) (by decide +kernel)) rfl, zT_of (List.mem_of_getElem? (i := 6) (by decide +kernel)) rfl, ⟨by decide +kernel, by decide +kernel⟩, by decide +kernel, by decide⟩
theorem mvX7_isUnder : Cond.static yX7_isUnder ∈ zT := zT_of (List.mem_of_getElem? (i := 1197) (by decide +kernel)) rfl
theorem moX7_as : zMo yX7_as cX7_as 3 (some .int) 2 := ⟨zT_of (List.mem_of_getElem? (i := 1195) (by decide +kernel)) rfl, zT_of (List.mem_of_getElem? (i := 6) (by decide +kernel)) rfl, ⟨by decide +kernel, by decide +kernel⟩, by decide +kernel, by decide⟩
theorem mvX7_as : Cond.instanceMethod yX7_as ∈ zT ∧ Cond.selects yX7_as.cls yX7_as yX7_as ∈ zT := ⟨zT_of (List.mem_of_getElem? (i := 1193) (by decide +kernel)) rfl, zT_of (List.mem_of_getElem? (i := 1194) (by decide +kernel)) rfl⟩
theorem moX7_keeps : zMo yX7_keeps cX7_keeps 6 (some .boolean) 5 := ⟨zT_of (List.mem_of_getElem? (i := 1211) (by decide +kernel)) rfl, zT_of (List.mem_of_getElem? (i := 6) (by decide +kernel)) rfl, ⟨by decide +kernel, by decide +kernel⟩, by decide +kernel, by decide⟩
theorem mvX7_keeps : Cond.instanceMethod yX7_keeps ∈ zT ∧ Cond.selects yX7_keeps.cls yX7_keeps yX7_keeps ∈ zT := ⟨zT_of (List.mem_of_getElem? (i := 1210) (by decide +kernel)) rfl, zT_priv (q := (yX7_keeps, 21)) (List.mem_of_getElem? (i := 55) (by decide +kernel))⟩
theorem moX7_findWay : zMo yX7_findWay cX7_findWay 12 none 1 := ⟨zT_of (List.mem_of_getElem? (i := 1207) (by decide +kernel)) rfl, zT_of (List.mem_of_getElem? (i := 6) (by decide +kernel)) rfl, ⟨by decide +kernel, by decide +kernel⟩, by decide +kernel, by decide⟩
theorem mvX7_findWay : Cond.instanceMethod yX7_findWay ∈ zT ∧ Cond.selects yX7_findWay.cls yX7_findWay yX7_findWay ∈ zT := ⟨zT_of (List.mem_of_getElem? (i := 1206) (by decide +kernel)) rfl, zT_priv (q := (yX7_findWay, 21)) (List.mem_of_getElem? (i := 54) (by decide +kernel))⟩
theorem moX7_next : zMo yX7_next cX7_next 2 (some .int) 1 := ⟨zT_of (List.mem_of_getElem? (i := 1203) (by decide +kernel)) rfl, zT_of (List.mem_of_getElem? (i := 6) (by decide +kernel)) rfl, ⟨by decide +kernel, by decide +kernel⟩, by decide +kernel, by decide⟩
theorem mvX7_next : Cond.instanceMethod yX7_next ∈ zT ∧ Cond.selects yX7_next.cls yX7_next yX7_next ∈ zT := ⟨zT_of (List.mem_of_getElem? (i := 1201) (by decide +kernel)) rfl, zT_of (List.mem_of_getElem? (i := 1202) (by decide +kernel)) rfl⟩
theorem moX7_aDay : zMo yX7_aDay cX7_aDay 3 none 0 := ⟨zT_of (List.mem_of_getElem? (i := 1223) (by decide +kernel)) rfl, zT_of (List.mem_of_getElem? (i := 6) (by decide +kernel)) rfl, ⟨by decide +kernel, by decide +kernel⟩, by decide +kernel, by decide⟩
theorem mvX7_aDay : Cond.instanceMethod yX7_aDay ∈ zT ∧ Cond.selects yX7_aDay.cls yX7_aDay yX7_aDay ∈ zT := ⟨zT_of (List.mem_of_getElem? (i := 1222) (by decide +kernel)) rfl, zT_priv (q := (yX7_aDay, 21)) (List.mem_of_getElem? (i := 57) (by decide +kernel))⟩
theorem moX7_allThere : zMo yX7_allThere cX7_allThere 3 (some .int) 0 := ⟨zT_of (List.mem_of_getElem? (i := 1219) (by decide +kernel)) rfl, zT_of (List.mem_of_getElem? (i := 6) (by decide +kernel)) rfl, ⟨by decide +kernel, by decide +kernel⟩, by decide +kernel, by decide⟩
theorem mvX7_allThere : Cond.instanceMethod yX7_allThere ∈ zT ∧ Cond.selects yX7_allThere.cls yX7_allThere yX7_allThere ∈ zT := ⟨zT_of (List.mem_of_getElem? (i := 1218) (by decide +kernel)) rfl, zT_priv (q := (yX7_allThere, 21)) (List.mem_of_getElem? (i := 56) (by decide +kernel))⟩
theorem moX7_days : zMo yX7_days cX7_days 4 (some .int) 1 := ⟨zT_of (List.mem_of_getElem? (i := 1215) (by decide +kernel)) rfl, zT_of (List.mem_of_getElem? (i := 6) (by decide +kernel)) rfl, ⟨by decide +kernel, by decide +kernel⟩, by decide +kernel, by decide⟩
theorem mvX7_days : Cond.instanceMethod yX7_days ∈ zT ∧ Cond.selects yX7_days.cls yX7_days yX7_days ∈ zT := ⟨zT_of (List.mem_of_getElem? (i := 1213) (by decide +kernel)) rfl, zT_of (List.mem_of_getElem? (i := 1214) (by decide +kernel)) rfl⟩
theorem moX7_day : zMo yX7_day cX7_day 3 (some .int) 1 := ⟨zT_of (List.mem_of_getElem? (i := 1227) (by decide +kernel)) rfl, zT_of (List.mem_of_getElem? (i := 6) (by decide +kernel)) rfl, ⟨by decide +kernel, by decide +kernel⟩, by decide +kernel, by decide⟩
theorem mvX7_day : Cond.instanceMethod yX7_day ∈ zT ∧ Cond.selects yX7_day.cls yX7_day yX7_day ∈ zT := ⟨zT_of (List.mem_of_getElem? (i := 1225) (by decide +kernel)) rfl, zT_of (List.mem_of_getElem? (i := 1226) (by decide +kernel)) rfl⟩
theorem moX7_onTheirWay : zMo yX7_onTheirWay cX7_onTheirWay 3 (some .int) 0 := ⟨zT_of (List.mem_of_getElem? (i := 1235) (by decide +kernel)) rfl, zT_of (List.mem_of_getElem? (i := 6) (by decide +kernel)) rfl, ⟨by decide +kernel, by decide +kernel⟩, by decide +kernel, by decide⟩
theorem mvX7_onTheirWay : Cond.instanceMethod yX7_onTheirWay ∈ zT ∧ Cond.selects yX7_onTheirWay.cls yX7_onTheirWay yX7_onTheirWay ∈ zT := ⟨zT_of (List.mem_of_getElem? (i := 1234) (by decide +kernel)) rfl, zT_priv (q := (yX7_onTheirWay, 21)) (List.mem_of_getElem? (i := 58) (by decide +kernel))⟩
theorem moX7_now : zMo yX7_now cX7_now 2 (some .int) 1 := ⟨zT_of (List.mem_of_getElem? (i := 1231) (by decide +kernel)) rfl, zT_of (List.mem_of_getElem? (i := 6) (by decide +kernel)) rfl, ⟨by decide +kernel, by decide +kernel⟩, by decide +kernel, by decide⟩
theorem mvX7_now : Cond.instanceMethod yX7_now ∈ zT ∧ Cond.selects yX7_now.cls yX7_now yX7_now ∈ zT := ⟨zT_of (List.mem_of_getElem? (i := 1229) (by decide +kernel)) rfl, zT_of (List.mem_of_getElem? (i := 1230) (by decide +kernel)) rfl⟩
theorem moX7_on : zMo yX7_on cX7_on 4 (some .int) 2 := ⟨zT_of (List.mem_of_getElem? (i := 1239) (by decide +kernel)) rfl, zT_of (List.mem_of_getElem? (i := 6) (by decide +kernel)) rfl, ⟨by decide +kernel, by decide +kernel⟩, by decide +kernel, by decide⟩
theorem mvX7_on : Cond.instanceMethod yX7_on ∈ zT ∧ Cond.selects yX7_on.cls yX7_on yX7_on ∈ zT := ⟨zT_of (List.mem_of_getElem? (i := 1237) (by decide +kernel)) rfl, zT_of (List.mem_of_getElem? (i := 1238) (by decide +kernel)) rfl⟩
theorem moX7_daysTill : zMo yX7_daysTill cX7_daysTill 4 (some .int) 1 := ⟨zT_of (List.mem_of_getElem? (i := 1251) (by decide +kernel)) rfl, zT_of (List.mem_of_getElem? (i := 6) (by decide +kernel)) rfl, ⟨by decide +kernel, by decide +kernel⟩, by decide +kernel, by decide⟩
theorem mvX7_daysTill : Cond.instanceMethod yX7_daysTill ∈ zT ∧ Cond.selects yX7_daysTill.cls yX7_daysTill yX7_daysTill ∈ zT := ⟨zT_of (List.mem_of_getElem? (i := 1250) (by decide +kernel)) rfl, zT_priv (q := (yX7_daysTill, 21)) (List.mem_of_getElem? (i := 60) (by decide +kernel))⟩
theorem moX7_when : zMo yX7_when cX7_when 3 (some .int) 1 := ⟨zT_of (List.mem_of_getElem? (i := 1247) (by decide +kernel)) rfl, zT_of (List.mem_of_getElem? (i := 6) (by decide +kernel)) rfl, ⟨by decide +kernel, by decide +kernel⟩, by decide +kernel, by decide⟩
theorem mvX7_when : Cond.instanceMethod yX7_when ∈ zT ∧ Cond.selects yX7_when.cls yX7_when yX7_when ∈ zT := ⟨zT_of (List.mem_of_getElem? (i := 1245) (by decide +kernel)) rfl, zT_of (List.mem_of_getElem? (i := 1246) (by decide +kernel)) rfl⟩
theorem moX7_first : zMo yX7_first cX7_first 5 (some .int) 2 := ⟨zT_of (List.mem_of_getElem? (i := 1255) (by decide +kernel)) rfl, zT_of (List.mem_of_getElem? (i := 6) (by decide +kernel)) rfl, ⟨by decide +kernel, by decide +kernel⟩, by decide +kernel, by decide⟩
theorem mvX7_first : Cond.instanceMethod yX7_first ∈ zT ∧ Cond.selects yX7_first.cls yX7_first yX7_first ∈ zT := ⟨zT_of (List.mem_of_getElem? (i := 1253) (by decide +kernel)) rfl, zT_of (List.mem_of_getElem? (i := 1254) (by decide +kernel)) rfl⟩
theorem moX7_feed : zMo yX7_feed cX7_feed 4 (some .int) 2 := ⟨zT_of (List.mem_of_getElem? (i := 1259) (by decide +kernel)) rfl, zT_of (List.mem_of_getElem? (i := 6) (by decide +kernel)) rfl, ⟨by decide +kernel, by decide +kernel⟩, by decide +kernel, by decide⟩
theorem mvX7_feed : Cond.instanceMethod yX7_feed ∈ zT ∧ Cond.selects yX7_feed.cls yX7_feed yX7_feed ∈ zT := ⟨zT_of (List.mem_of_getElem? (i := 1257) (by decide +kernel)) rfl, zT_of (List.mem_of_getElem? (i := 1258) (by decide +kernel)) rfl⟩
theorem moX7_wipe : zMo yX7_wipe cX7_wipe 2 (some .int) 0 := ⟨zT_of (List.mem_of_getElem? (i := 1263) (by decide +kernel)) rfl, zT_of (List.mem_of_getElem? (i := 6) (by decide +kernel)) rfl, ⟨by decide +kernel, by decide +kernel⟩, by decide +kernel, by decide⟩
theorem mvX7_wipe : Cond.instanceMethod yX7_wipe ∈ zT ∧ Cond.selects yX7_wipe.cls yX7_wipe yX7_wipe ∈ zT := ⟨zT_of (List.mem_of_getElem? (i := 1261) (by decide +kernel)) rfl, zT_of (List.mem_of_getElem? (i := 1262) (by decide +kernel)) rfl⟩
theorem moX7_byteAt : zMo yX7_byteAt cX7_byteAt 2 (some .int) 1 := ⟨zT_of (List.mem_of_getElem? (i := 1275) (by decide +kernel)) rfl, zT_of (List.mem_of_getElem? (i := 6) (by decide +kernel)) rfl, ⟨by decide +kernel, by decide +kernel⟩, by decide +kernel, by decide⟩
theorem mvX7_byteAt : Cond.instanceMethod yX7_byteAt ∈ zT ∧ Cond.selects yX7_byteAt.cls yX7_byteAt yX7_byteAt ∈ zT := ⟨zT_of (List.mem_of_getElem? (i := 1274) (by decide +kernel)) rfl, zT_priv (q := (yX7_byteAt, 21)) (List.mem_of_getElem? (i := 62) (by decide +kernel))⟩
theorem moX7_isLetter : zMo yX7_isLetter cX7_isLetter 1 (some .boolean) 1 := ⟨zT_of (List.mem_of_getElem? (i := 1278) (by decide +kernel)) rfl, zT_of (List.mem_of_getElem? (i := 6) (by decide +kernel)) rfl, ⟨by decide +kernel, by decide +kernel⟩, by decide +kernel, by decide⟩
theorem mvX7_isLetter : Cond.static yX7_isLetter ∈ zT := zT_of (List.mem_of_getElem? (i := 1277) (by decide +kernel)) rfl
theorem moX7_isDigit : zMo yX7_isDigit cX7_isDigit 1 (some .boolean) 1 := ⟨zT_of (List.mem_of_getElem? (i := 1281) (by decide +kernel)) rfl, zT_of (List.mem_of_getElem? (i := 6) (by decide +kernel)) rfl, ⟨by decide +kernel, by decide +kernel⟩, by decide +kernel, by decide⟩
theorem mvX7_isDigit : Cond.static yX7_isDigit ∈ zT := zT_of (List.mem_of_getElem? (i := 1280) (by decide +kernel)) rfl
theorem moX7_advance : zMo yX7_advance cX7_advance 2 none 0 := ⟨zT_of (List.mem_of_getElem? (i := 1271) (by decide +kernel)) rfl, zT_of (List.mem_of_getElem? (i := 6) (by decide +kernel)) rfl, ⟨by decide +kernel, by decide +kernel⟩, by decide +kernel, by decide⟩
theorem mvX7_advance : Cond.instanceMethod yX7_advance ∈ zT ∧ Cond.selects yX7_advance.cls yX7_advance yX7_advance ∈ zT := ⟨zT_of (List.mem_of_getElem? (i := 1270) (by decide +kernel)) rfl, zT_priv (q := (yX7_advance, 21)) (List.mem_of_getElem? (i := 61) (by decide +kernel))⟩
theorem moX7_isWord : zMo yX7_isWord cX7_isWord 3 (some .boolean) 1 := ⟨zT_of (List.mem_of_getElem? (i := 1293) (by decide +kernel)) rfl, zT_of (List.mem_of_getElem? (i := 6) (by decide +kernel)) rfl, ⟨by decide +kernel, by decide +kernel⟩, by decide +kernel, by decide⟩
theorem mvX7_isWord : Cond.instanceMethod yX7_isWord ∈ zT ∧ Cond.selects yX7_isWord.cls yX7_isWord yX7_isWord ∈ zT := ⟨zT_of (List.mem_of_getElem? (i := 1292) (by decide +kernel)) rfl, zT_priv (q := (yX7_isWord, 21)) (List.mem_of_getElem? (i := 64) (by decide +kernel))⟩
theorem moX7_kindHere : zMo yX7_kindHere cX7_kindHere 1 (some .int) 0 := ⟨zT_of (List.mem_of_getElem? (i := 1331) (by decide +kernel)) rfl, zT_of (List.mem_of_getElem? (i := 6) (by decide +kernel)) rfl, ⟨by decide +kernel, by decide +kernel⟩, by decide +kernel, by decide⟩
theorem mvX7_kindHere : Cond.instanceMethod yX7_kindHere ∈ zT ∧ Cond.selects yX7_kindHere.cls yX7_kindHere yX7_kindHere ∈ zT := ⟨zT_of (List.mem_of_getElem? (i := 1330) (by decide +kernel)) rfl, zT_priv (q := (yX7_kindHere, 21)) (List.mem_of_getElem? (i := 72) (by decide +kernel))⟩
theorem moX7_wantNumber : zMo yX7_wantNumber cX7_wantNumber 4 (some .int) 2 := ⟨zT_of (List.mem_of_getElem? (i := 1301) (by decide +kernel)) rfl, zT_of (List.mem_of_getElem? (i := 6) (by decide +kernel)) rfl, ⟨by decide +kernel, by decide +kernel⟩, by decide +kernel, by decide⟩
theorem mvX7_wantNumber : Cond.instanceMethod yX7_wantNumber ∈ zT ∧ Cond.selects yX7_wantNumber.cls yX7_wantNumber yX7_wantNumber ∈ zT := ⟨zT_of (List.mem_of_getElem? (i := 1300) (by decide +kernel)) rfl, zT_priv (q := (yX7_wantNumber, 21)) (List.mem_of_getElem? (i := 66) (by decide +kernel))⟩
theorem moX7_mayWant : zMo yX7_mayWant cX7_mayWant 6 (some .int) 4 := ⟨zT_of (List.mem_of_getElem? (i := 1317) (by decide +kernel)) rfl, zT_of (List.mem_of_getElem? (i := 6) (by decide +kernel)) rfl, ⟨by decide +kernel, by decide +kernel⟩, by decide +kernel, by decide⟩
theorem mvX7_mayWant : Cond.instanceMethod yX7_mayWant ∈ zT ∧ Cond.selects yX7_mayWant.cls yX7_mayWant yX7_mayWant ∈ zT := ⟨zT_of (List.mem_of_getElem? (i := 1316) (by decide +kernel)) rfl, zT_priv (q := (yX7_mayWant, 21)) (List.mem_of_getElem? (i := 69) (by decide +kernel))⟩
theorem moX7_wantWord : zMo yX7_wantWord cX7_wantWord 3 none 1 := ⟨zT_of (List.mem_of_getElem? (i := 1312) (by decide +kernel)) rfl, zT_of (List.mem_of_getElem? (i := 6) (by decide +kernel)) rfl, ⟨by decide +kernel, by decide +kernel⟩, by decide +kernel, by decide⟩
theorem mvX7_wantWord : Cond.instanceMethod yX7_wantWord ∈ zT ∧ Cond.selects yX7_wantWord.cls yX7_wantWord yX7_wantWord ∈ zT := ⟨zT_of (List.mem_of_getElem? (i := 1311) (by decide +kernel)) rfl, zT_priv (q := (yX7_wantWord, 21)) (List.mem_of_getElem? (i := 68) (by decide +kernel))⟩
theorem moX7_wantVillage : zMo yX7_wantVillage cX7_wantVillage 3 none 0 := ⟨zT_of (List.mem_of_getElem? (i := 1297) (by decide +kernel)) rfl, zT_of (List.mem_of_getElem? (i := 6) (by decide +kernel)) rfl, ⟨by decide +kernel, by decide +kernel⟩, by decide +kernel, by decide⟩
theorem mvX7_wantVillage : Cond.instanceMethod yX7_wantVillage ∈ zT ∧ Cond.selects yX7_wantVillage.cls yX7_wantVillage yX7_wantVillage ∈ zT := ⟨zT_of (List.mem_of_getElem? (i := 1296) (by decide +kernel)) rfl, zT_priv (q := (yX7_wantVillage, 21)) (List.mem_of_getElem? (i := 65) (by decide +kernel))⟩
theorem moX7_wantRoad : zMo yX7_wantRoad cX7_wantRoad 4 none 0 := ⟨zT_of (List.mem_of_getElem? (i := 1307) (by decide +kernel)) rfl, zT_of (List.mem_of_getElem? (i := 6) (by decide +kernel)) rfl, ⟨by decide +kernel, by decide +kernel⟩, by decide +kernel, by decide⟩
theorem mvX7_wantRoad : Cond.instanceMethod yX7_wantRoad ∈ zT ∧ Cond.selects yX7_wantRoad.cls yX7_wantRoad yX7_wantRoad ∈ zT := ⟨zT_of (List.mem_of_getElem? (i := 1306) (by decide +kernel)) rfl, zT_priv (q := (yX7_wantRoad, 21)) (List.mem_of_getElem? (i := 67) (by decide +kernel))⟩
theorem moX7_wantSlide : zMo yX7_wantSlide cX7_wantSlide 3 none 0 := ⟨zT_of (List.mem_of_getElem? (i := 1322) (by decide +kernel)) rfl, zT_of (List.mem_of_getElem? (i := 6) (by decide +kernel)) rfl, ⟨by decide +kernel, by decide +kernel⟩, by decide +kernel, by decide⟩
theorem mvX7_wantSlide : Cond.instanceMethod yX7_wantSlide ∈ zT ∧ Cond.selects yX7_wantSlide.cls yX7_wantSlide yX7_wantSlide ∈ zT := ⟨zT_of (List.mem_of_getElem? (i := 1321) (by decide +kernel)) rfl, zT_priv (q := (yX7_wantSlide, 21)) (List.mem_of_getElem? (i := 70) (by decide +kernel))⟩
theorem moX7_wantEvery : zMo yX7_wantEvery cX7_wantEvery 2 none 0 := ⟨zT_of (List.mem_of_getElem? (i := 1327) (by decide +kernel)) rfl, zT_of (List.mem_of_getElem? (i := 6) (by decide +kernel)) rfl, ⟨by decide +kernel, by decide +kernel⟩, by decide +kernel, by decide⟩
theorem mvX7_wantEvery : Cond.instanceMethod yX7_wantEvery ∈ zT ∧ Cond.selects yX7_wantEvery.cls yX7_wantEvery yX7_wantEvery ∈ zT := ⟨zT_of (List.mem_of_getElem? (i := 1326) (by decide +kernel)) rfl, zT_priv (q := (yX7_wantEvery, 21)) (List.mem_of_getElem? (i := 71) (by decide +kernel))⟩
theorem moX7_wantLetter : zMo yX7_wantLetter cX7_wantLetter 4 none 1 := ⟨zT_of (List.mem_of_getElem? (i := 1341) (by decide +kernel)) rfl, zT_of (List.mem_of_getElem? (i := 6) (by decide +kernel)) rfl, ⟨by decide +kernel, by decide +kernel⟩, by decide +kernel, by decide⟩
theorem mvX7_wantLetter : Cond.instanceMethod yX7_wantLetter ∈ zT ∧ Cond.selects yX7_wantLetter.cls yX7_wantLetter yX7_wantLetter ∈ zT := ⟨zT_of (List.mem_of_getElem? (i := 1340) (by decide +kernel)) rfl, zT_priv (q := (yX7_wantLetter, 21)) (List.mem_of_getElem? (i := 73) (by decide +kernel))⟩
theorem moX7_wantItem : zMo yX7_wantItem cX7_wantItem 1 none 0 := ⟨zT_of (List.mem_of_getElem? (i := 1288) (by decide +kernel)) rfl, zT_of (List.mem_of_getElem? (i := 6) (by decide +kernel)) rfl, ⟨by decide +kernel, by decide +kernel⟩, by decide +kernel, by decide⟩
theorem mvX7_wantItem : Cond.instanceMethod yX7_wantItem ∈ zT ∧ Cond.selects yX7_wantItem.cls yX7_wantItem yX7_wantItem ∈ zT := ⟨zT_of (List.mem_of_getElem? (i := 1287) (by decide +kernel)) rfl, zT_priv (q := (yX7_wantItem, 21)) (List.mem_of_getElem? (i := 63) (by decide +kernel))⟩
theorem moX7_text : zMo yX7_text cX7_text 3 (some .int) 0 := ⟨zT_of (List.mem_of_getElem? (i := 1267) (by decide +kernel)) rfl, zT_of (List.mem_of_getElem? (i := 6) (by decide +kernel)) rfl, ⟨by decide +kernel, by decide +kernel⟩, by decide +kernel, by decide⟩
theorem mvX7_text : Cond.instanceMethod yX7_text ∈ zT ∧ Cond.selects yX7_text.cls yX7_text yX7_text ∈ zT := ⟨zT_of (List.mem_of_getElem? (i := 1265) (by decide +kernel)) rfl, zT_of (List.mem_of_getElem? (i := 1266) (by decide +kernel)) rfl⟩
theorem moX7_isSheet : zMo yX7_isSheet cX7_isSheet 1 (some .boolean) 1 := ⟨zT_of (List.mem_of_getElem? (i := 1348) (by decide +kernel)) rfl, zT_of (List.mem_of_getElem? (i := 6) (by decide +kernel)) rfl, ⟨by decide +kernel, by decide +kernel⟩, by decide +kernel, by decide⟩
theorem mvX7_isSheet : Cond.static yX7_isSheet ∈ zT := zT_of (List.mem_of_getElem? (i := 1347) (by decide +kernel)) rfl
theorem moX7_narrow : zMo yX7_narrow cX7_narrow 3 (some .long) 2 := ⟨zT_of (List.mem_of_getElem? (i := 1357) (by decide +kernel)) rfl, zT_of (List.mem_of_getElem? (i := 6) (by decide +kernel)) rfl, ⟨by decide +kernel, by decide +kernel⟩, by decide +kernel, by decide⟩
theorem mvX7_narrow : Cond.static yX7_narrow ∈ zT := zT_of (List.mem_of_getElem? (i := 1356) (by decide +kernel)) rfl
theorem moX7_sheet : zMo yX7_sheet cX7_sheet 5 (some .int) 3 := ⟨zT_of (List.mem_of_getElem? (i := 1345) (by decide +kernel)) rfl, zT_of (List.mem_of_getElem? (i := 6) (by decide +kernel)) rfl, ⟨by decide +kernel, by decide +kernel⟩, by decide +kernel, by decide⟩
theorem mvX7_sheet : Cond.instanceMethod yX7_sheet ∈ zT ∧ Cond.selects yX7_sheet.cls yX7_sheet yX7_sheet ∈ zT := ⟨zT_of (List.mem_of_getElem? (i := 1343) (by decide +kernel)) rfl, zT_of (List.mem_of_getElem? (i := 1344) (by decide +kernel)) rfl⟩
theorem moX7_write : zMo yX7_write cX7_write 7 (some .long) 3 := ⟨zT_of (List.mem_of_getElem? (i := 1353) (by decide +kernel)) rfl, zT_of (List.mem_of_getElem? (i := 6) (by decide +kernel)) rfl, ⟨by decide +kernel, by decide +kernel⟩, by decide +kernel, by decide⟩
theorem mvX7_write : Cond.instanceMethod yX7_write ∈ zT ∧ Cond.selects yX7_write.cls yX7_write yX7_write ∈ zT := ⟨zT_of (List.mem_of_getElem? (i := 1351) (by decide +kernel)) rfl, zT_of (List.mem_of_getElem? (i := 1352) (by decide +kernel)) rfl⟩
theorem moX7_isPart : zMo yX7_isPart cX7_isPart 4 (some .boolean) 3 := ⟨zT_of (List.mem_of_getElem? (i := 1365) (by decide +kernel)) rfl, zT_of (List.mem_of_getElem? (i := 6) (by decide +kernel)) rfl, ⟨by decide +kernel, by decide +kernel⟩, by decide +kernel, by decide⟩
theorem mvX7_isPart : Cond.instanceMethod yX7_isPart ∈ zT ∧ Cond.selects yX7_isPart.cls yX7_isPart yX7_isPart ∈ zT := ⟨zT_of (List.mem_of_getElem? (i := 1364) (by decide +kernel)) rfl, zT_priv (q := (yX7_isPart, 21)) (List.mem_of_getElem? (i := 74) (by decide +kernel))⟩
theorem moX7_copy : zMo yX7_copy cX7_copy 7 (some .int) 5 := ⟨zT_of (List.mem_of_getElem? (i := 1361) (by decide +kernel)) rfl, zT_of (List.mem_of_getElem? (i := 6) (by decide +kernel)) rfl, ⟨by decide +kernel, by decide +kernel⟩, by decide +kernel, by decide⟩
theorem mvX7_copy : Cond.instanceMethod yX7_copy ∈ zT ∧ Cond.selects yX7_copy.cls yX7_copy yX7_copy ∈ zT := ⟨zT_of (List.mem_of_getElem? (i := 1359) (by decide +kernel)) rfl, zT_of (List.mem_of_getElem? (i := 1360) (by decide +kernel)) rfl⟩
theorem moX7_lays : zMo yX7_lays cX7_lays 6 (some .int) 1 := ⟨zT_of (List.mem_of_getElem? (i := 1369) (by decide +kernel)) rfl, zT_of (List.mem_of_getElem? (i := 6) (by decide +kernel)) rfl, ⟨by decide +kernel, by decide +kernel⟩, by decide +kernel, by decide⟩
theorem mvX7_lays : Cond.instanceMethod yX7_lays ∈ zT ∧ Cond.selects yX7_lays.cls yX7_lays yX7_lays ∈ zT := ⟨zT_of (List.mem_of_getElem? (i := 1367) (by decide +kernel)) rfl, zT_of (List.mem_of_getElem? (i := 1368) (by decide +kernel)) rfl⟩
theorem moX7_table : zMo yX7_table cX7_table 6 (some .int) 3 := ⟨zT_of (List.mem_of_getElem? (i := 1374) (by decide +kernel)) rfl, zT_of (List.mem_of_getElem? (i := 6) (by decide +kernel)) rfl, ⟨by decide +kernel, by decide +kernel⟩, by decide +kernel, by decide⟩
theorem mvX7_table : Cond.instanceMethod yX7_table ∈ zT ∧ Cond.selects yX7_table.cls yX7_table yX7_table ∈ zT := ⟨zT_of (List.mem_of_getElem? (i := 1372) (by decide +kernel)) rfl, zT_of (List.mem_of_getElem? (i := 1373) (by decide +kernel)) rfl⟩
theorem moX7_read : zMo yX7_read cX7_read 11 (some .int) 2 := ⟨zT_of (List.mem_of_getElem? (i := 1378) (by decide +kernel)) rfl, zT_of (List.mem_of_getElem? (i := 6) (by decide +kernel)) rfl, ⟨by decide +kernel, by decide +kernel⟩, by decide +kernel, by decide⟩
theorem mvX7_read : Cond.instanceMethod yX7_read ∈ zT ∧ Cond.selects yX7_read.cls yX7_read yX7_read ∈ zT := ⟨zT_of (List.mem_of_getElem? (i := 1376) (by decide +kernel)) rfl, zT_of (List.mem_of_getElem? (i := 1377) (by decide +kernel)) rfl⟩
theorem moX7_moveAll : zMo yX7_moveAll cX7_moveAll 4 none 2 := ⟨zT_of (List.mem_of_getElem? (i := 1243) (by decide +kernel)) rfl, zT_of (List.mem_of_getElem? (i := 6) (by decide +kernel)) rfl, ⟨by decide +kernel, by decide +kernel⟩, by decide +kernel, by decide⟩
theorem mvX7_moveAll : Cond.instanceMethod yX7_moveAll ∈ zT ∧ Cond.selects yX7_moveAll.cls yX7_moveAll yX7_moveAll ∈ zT := ⟨zT_of (List.mem_of_getElem? (i := 1242) (by decide +kernel)) rfl, zT_priv (q := (yX7_moveAll, 21)) (List.mem_of_getElem? (i := 59) (by decide +kernel))⟩
theorem moX7_image : zMo yX7_image cX7_image 1 (some .int) 0 := ⟨zT_of (List.mem_of_getElem? (i := 1382) (by decide +kernel)) rfl, zT_of (List.mem_of_getElem? (i := 6) (by decide +kernel)) rfl, ⟨by decide +kernel, by decide +kernel⟩, by decide +kernel, by decide⟩
theorem mvX7_image : Cond.instanceMethod yX7_image ∈ zT ∧ Cond.selects yX7_image.cls yX7_image yX7_image ∈ zT := ⟨zT_of (List.mem_of_getElem? (i := 1380) (by decide +kernel)) rfl, zT_of (List.mem_of_getElem? (i := 1381) (by decide +kernel)) rfl⟩
theorem moX7_undo : zMo yX7_undo cX7_undo 1 (some .int) 0 := ⟨zT_of (List.mem_of_getElem? (i := 1386) (by decide +kernel)) rfl, zT_of (List.mem_of_getElem? (i := 6) (by decide +kernel)) rfl, ⟨by decide +kernel, by decide +kernel⟩, by decide +kernel, by decide⟩
theorem mvX7_undo : Cond.instanceMethod yX7_undo ∈ zT ∧ Cond.selects yX7_undo.cls yX7_undo yX7_undo ∈ zT := ⟨zT_of (List.mem_of_getElem? (i := 1384) (by decide +kernel)) rfl, zT_of (List.mem_of_getElem? (i := 1385) (by decide +kernel)) rfl⟩
theorem moX7_tear : zMo yX7_tear cX7_tear 2 (some .int) 0 := ⟨zT_of (List.mem_of_getElem? (i := 1390) (by decide +kernel)) rfl, zT_of (List.mem_of_getElem? (i := 6) (by decide +kernel)) rfl, ⟨by decide +kernel, by decide +kernel⟩, by decide +kernel, by decide⟩
theorem mvX7_tear : Cond.instanceMethod yX7_tear ∈ zT ∧ Cond.selects yX7_tear.cls yX7_tear yX7_tear ∈ zT := ⟨zT_of (List.mem_of_getElem? (i := 1388) (by decide +kernel)) rfl, zT_of (List.mem_of_getElem? (i := 1389) (by decide +kernel)) rfl⟩
theorem moX7_count : zMo yX7_count cX7_count 4 (some .int) 1 := ⟨zT_of (List.mem_of_getElem? (i := 1394) (by decide +kernel)) rfl, zT_of (List.mem_of_getElem? (i := 6) (by decide +kernel)) rfl, ⟨by decide +kernel, by decide +kernel⟩, by decide +kernel, by decide⟩
theorem mvX7_count : Cond.instanceMethod yX7_count ∈ zT ∧ Cond.selects yX7_count.cls yX7_count yX7_count ∈ zT := ⟨zT_of (List.mem_of_getElem? (i := 1392) (by decide +kernel)) rfl, zT_of (List.mem_of_getElem? (i := 1393) (by decide +kernel)) rfl⟩
theorem moX7_status : zMo yX7_status cX7_status 4 (some .int) 1 := ⟨zT_of (List.mem_of_getElem? (i := 1398) (by decide +kernel)) rfl, zT_of (List.mem_of_getElem? (i := 6) (by decide +kernel)) rfl, ⟨by decide +kernel, by decide +kernel⟩, by decide +kernel, by decide⟩
theorem mvX7_status : Cond.instanceMethod yX7_status ∈ zT ∧ Cond.selects yX7_status.cls yX7_status yX7_status ∈ zT := ⟨zT_of (List.mem_of_getElem? (i := 1396) (by decide +kernel)) rfl, zT_of (List.mem_of_getElem? (i := 1397) (by decide +kernel)) rfl⟩
theorem moJ6_bitCount_0f7a4 : zMo yJ6_bitCount_0f7a4 cJ6_bitCount_0f7a4 1 (some .int) 1 := ⟨zT_of (List.mem_of_getElem? (i := 524) (by decide +kernel)) rfl, zT_of (List.mem_of_getElem? (i := 10) (by decide +kernel)) rfl, ⟨by decide +kernel, by decide +kernel⟩, by decide +kernel, by decide⟩
theorem mvJ6_bitCount_0f7a4 : Cond.static yJ6_bitCount_0f7a4 ∈ zT := zT_of (List.mem_of_getElem? (i := 523) (by decide +kernel)) rfl
theorem moJ9_max_7cf53 : zMo yJ9_max_7cf53 cJ9_max_7cf53 2 (some .int) 2 := ⟨zT_of (List.mem_of_getElem? (i := 383) (by decide +kernel)) rfl, zT_of (List.mem_of_getElem? (i := 8) (by decide +kernel)) rfl, ⟨by decide +kernel, by decide +kernel⟩, by decide +kernel, by decide⟩
theorem mvJ9_max_7cf53 : Cond.static yJ9_max_7cf53 ∈ zT := zT_of (List.mem_of_getElem? (i := 382) (by decide +kernel)) rfl
theorem moJ9_min_7cf53 : zMo yJ9_min_7cf53 cJ9_min_7cf53 2 (some .int) 2 := ⟨zT_of (List.mem_of_getElem? (i := 378) (by decide +kernel)) rfl, zT_of (List.mem_of_getElem? (i := 8) (by decide +kernel)) rfl, ⟨by decide +kernel, by decide +kernel⟩, by decide +kernel, by decide⟩
theorem mvJ9_min_7cf53 : Cond.static yJ9_min_7cf53 ∈ zT := zT_of (List.mem_of_getElem? (i := 377) (by decide +kernel)) rfl
theorem moJ0_length_8abf5 : zMo yJ0_length_8abf5 cJ0_length_8abf5 1 (some .int) 0 := ⟨zT_of (List.mem_of_getElem? (i := 681) (by decide +kernel)) rfl, zT_of (List.mem_of_getElem? (i := 12) (by decide +kernel)) rfl, ⟨by decide +kernel, by decide +kernel⟩, by decide +kernel, by decide⟩
theorem mvJ0_length_8abf5 : Cond.instanceMethod yJ0_length_8abf5 ∈ zT ∧ Cond.selects yJ0_length_8abf5.cls yJ0_length_8abf5 yJ0_length_8abf5 ∈ zT := ⟨zT_of (List.mem_of_getElem? (i := 679) (by decide +kernel)) rfl, zT_of (List.mem_of_getElem? (i := 680) (by decide +kernel)) rfl⟩
theorem moJ0_charAt_5068e : zMo yJ0_charAt_5068e cJ0_charAt_5068e 2 (some .char) 1 := ⟨zT_of (List.mem_of_getElem? (i := 691) (by decide +kernel)) rfl, zT_of (List.mem_of_getElem? (i := 12) (by decide +kernel)) rfl, ⟨by decide +kernel, by decide +kernel⟩, by decide +kernel, by decide⟩
theorem mvJ0_charAt_5068e : Cond.instanceMethod yJ0_charAt_5068e ∈ zT ∧ Cond.selects yJ0_charAt_5068e.cls yJ0_charAt_5068e yJ0_charAt_5068e ∈ zT := ⟨zT_of (List.mem_of_getElem? (i := 689) (by decide +kernel)) rfl, zT_of (List.mem_of_getElem? (i := 690) (by decide +kernel)) rfl⟩
theorem moJ0_coder_7d493 : zMo yJ0_coder_7d493 cJ0_coder_7d493 1 (some .byte) 0 := ⟨zT_of (List.mem_of_getElem? (i := 685) (by decide +kernel)) rfl, zT_of (List.mem_of_getElem? (i := 12) (by decide +kernel)) rfl, ⟨by decide +kernel, by decide +kernel⟩, by decide +kernel, by decide⟩
theorem mvJ0_coder_7d493 : Cond.instanceMethod yJ0_coder_7d493 ∈ zT ∧ Cond.selects yJ0_coder_7d493.cls yJ0_coder_7d493 yJ0_coder_7d493 ∈ zT := ⟨zT_of (List.mem_of_getElem? (i := 683) (by decide +kernel)) rfl, zT_of (List.mem_of_getElem? (i := 684) (by decide +kernel)) rfl⟩
theorem moJ0_isLatin1_aae02 : zMo yJ0_isLatin1_aae02 cJ0_isLatin1_aae02 1 (some .boolean) 0 := ⟨zT_of (List.mem_of_getElem? (i := 695) (by decide +kernel)) rfl, zT_of (List.mem_of_getElem? (i := 12) (by decide +kernel)) rfl, ⟨by decide +kernel, by decide +kernel⟩, by decide +kernel, by decide⟩
theorem mvJ0_isLatin1_aae02 : Cond.instanceMethod yJ0_isLatin1_aae02 ∈ zT ∧ Cond.selects yJ0_isLatin1_aae02.cls yJ0_isLatin1_aae02 yJ0_isLatin1_aae02 ∈ zT := ⟨zT_of (List.mem_of_getElem? (i := 693) (by decide +kernel)) rfl, zT_of (List.mem_of_getElem? (i := 694) (by decide +kernel)) rfl⟩
theorem moJ0_checkIndex_df160 : zMo yJ0_checkIndex_df160 cJ0_checkIndex_df160 2 none 2 := ⟨zT_of (List.mem_of_getElem? (i := 701) (by decide +kernel)) rfl, zT_of (List.mem_of_getElem? (i := 12) (by decide +kernel)) rfl, ⟨by decide +kernel, by decide +kernel⟩, by decide +kernel, by decide⟩
theorem mvJ0_checkIndex_df160 : Cond.static yJ0_checkIndex_df160 ∈ zT := zT_of (List.mem_of_getElem? (i := 700) (by decide +kernel)) rfl
theorem moJ1_charAt_3b067 : zMo yJ1_charAt_3b067 cJ1_charAt_3b067 2 (some .char) 2 := ⟨zT_of (List.mem_of_getElem? (i := 698) (by decide +kernel)) rfl, zT_of (List.mem_of_getElem? (i := 13) (by decide +kernel)) rfl, ⟨by decide +kernel, by decide +kernel⟩, by decide +kernel, by decide⟩
theorem mvJ1_charAt_3b067 : Cond.static yJ1_charAt_3b067 ∈ zT := zT_of (List.mem_of_getElem? (i := 697) (by decide +kernel)) rfl
theorem moJ2_getChar_3b067 : zMo yJ2_getChar_3b067 cJ2_getChar_3b067 2 (some .char) 2 := ⟨zT_of (List.mem_of_getElem? (i := 719) (by decide +kernel)) rfl, zT_of (List.mem_of_getElem? (i := 15) (by decide +kernel)) rfl, ⟨by decide +kernel, by decide +kernel⟩, by decide +kernel, by decide⟩
theorem mvJ2_getChar_3b067 : Cond.static yJ2_getChar_3b067 ∈ zT := zT_of (List.mem_of_getElem? (i := 718) (by decide +kernel)) rfl
theorem moJ2_length_9d52b : zMo yJ2_length_9d52b cJ2_length_9d52b 1 (some .int) 1 := ⟨zT_of (List.mem_of_getElem? (i := 715) (by decide +kernel)) rfl, zT_of (List.mem_of_getElem? (i := 15) (by decide +kernel)) rfl, ⟨by decide +kernel, by decide +kernel⟩, by decide +kernel, by decide⟩
theorem mvJ2_length_9d52b : Cond.static yJ2_length_9d52b ∈ zT := zT_of (List.mem_of_getElem? (i := 714) (by decide +kernel)) rfl
theorem moJ2_charAt_3b067 : zMo yJ2_charAt_3b067 cJ2_charAt_3b067 2 (some .char) 2 := ⟨zT_of (List.mem_of_getElem? (i := 709) (by decide +kernel)) rfl, zT_of (List.mem_of_getElem? (i := 15) (by decide +kernel)) rfl, ⟨by decide +kernel, by decide +kernel⟩, by decide +kernel, by decide⟩
theorem mvJ2_charAt_3b067 : Cond.static yJ2_charAt_3b067 ∈ zT := zT_of (List.mem_of_getElem? (i := 708) (by decide +kernel)) rfl
theorem moJ2_checkIndex_2214a : zMo yJ2_checkIndex_2214a cJ2_checkIndex_2214a 2 none 2 := ⟨zT_of (List.mem_of_getElem? (i := 712) (by decide +kernel)) rfl, zT_of (List.mem_of_getElem? (i := 15) (by decide +kernel)) rfl, ⟨by decide +kernel, by decide +kernel⟩, by decide +kernel, by decide⟩
theorem mvJ2_checkIndex_2214a : Cond.static yJ2_checkIndex_2214a ∈ zT := zT_of (List.mem_of_getElem? (i := 711) (by decide +kernel)) rfl
theorem moJ3_checkIndex_8e157 : zMo yJ3_checkIndex_8e157 cJ3_checkIndex_8e157 3 (some .int) 3 := ⟨zT_of (List.mem_of_getElem? (i := 706) (by decide +kernel)) rfl, zT_of (List.mem_of_getElem? (i := 14) (by decide +kernel)) rfl, ⟨by decide +kernel, by decide +kernel⟩, by decide +kernel, by decide⟩
theorem mvJ3_checkIndex_8e157 : Cond.static yJ3_checkIndex_8e157 ∈ zT := zT_of (List.mem_of_getElem? (i := 705) (by decide +kernel)) rfl
def zI (r : Int32) (w' : zW) : Option Value → zW → Prop := fun v u => v = some (.int r) ∧ u = w'
def zJ (r : Int64) (w' : zW) : Option Value → zW → Prop := fun v u => v = some (.long r) ∧ u = w'
def zV (w' : zW) : Option Value → zW → Prop := fun v u => v = none ∧ u = w'
def zO (r : Option Nat) (w' : zW) : Option Value → zW → Prop := fun v u => v = some (va_rf r) ∧ u = w'
theorem zrm {nL d D : Nat} {ret : Option FieldType} {Q : Option Value → zW → Prop} (h : d < D) : d + 1 ≤ (zMB nL ret D Q).2.2.1.frames ∧ 40 * d + 40 ≤ (zMB nL ret D Q).2.2.1.locals ∧ (zMB nL ret D Q).2.2.2.1.1 ≤ (zMB nL ret D Q).2.2.1.cells ∧ (zMB nL ret D Q).2.2.2.1.2 ≤ (zMB nL ret D Q).2.2.1.slots := ⟨h, by show 40 * d + 40 ≤ 40 * D; omega, Nat.le_refl 0, Nat.le_refl 0⟩
theorem zrm1 {nL D : Nat} {ret : Option FieldType} {Q : Option Value → zW → Prop} (h : 0 < D) : 1 ≤ (zMB nL ret D Q).2.2.1.frames ∧ 21 ≤ (zMB nL ret D Q).2.2.1.locals ∧ (zMB nL ret D Q).2.2.2.1.1 ≤ (zMB nL ret D Q).2.2.1.cells ∧ (zMB nL ret D Q).2.2.2.1.2 ≤ (zMB nL ret D Q).2.2.1.slots := ⟨h, by show 21 ≤ 40 * D; omega, Nat.le_refl 0, Nat.le_refl 0⟩
theorem zrm2 {nL D : Nat} {ret : Option FieldType} {Q : Option Value → zW → Prop} (h : 0 < D) : 1 ≤ (zMB nL ret D Q).2.2.1.frames ∧ 40 ≤ (zMB nL ret D Q).2.2.1.locals := ⟨h, by show 40 ≤ 40 * D; omega⟩
section ZC
variable {own : String} {cc : ByteArray} {B : zB} {pc : Nat} {ls : List (Option Value)} {w : zW}
theorem zc_V0i {y : MethodName} {cc' : ByteArray} {nL' d i : Nat} {ret' : Option FieldType} {rest : List Value} {w' : zW} {r : Int32} {o ci N : Nat} {T : u_T} {fk : List Nat} (hm : zMo y cc' nL' ret' 0) (hv : Cond.instanceMethod y ∈ zT ∧ Cond.selects y.cls y y ∈ zT) (hlk : Cond.methodLink own i y ∈ zT) (hci : vwCl[ci]? = some (y.cls, T, N)) (hd : decode cc pc = .ok (.invokevirtual i, 3)) (ha : zAt o (0, ci, fk)) (hcat : (rest.map fun v => v.category).sum ≤ 8) (hR : d + 1 ≤ B.2.2.1.frames ∧ 40 * d + 40 ≤ B.2.2.1.locals ∧ B.2.2.2.1.1 ≤ B.2.2.1.cells ∧ B.2.2.2.1.2 ≤ B.2.2.1.slots) (hrun : zRun y cc' nL' ret' d (.ref o :: []) w (zI r w')) (kk : zWP own cc B (pc + 3) ls (.int r :: rest) w') : zWP own cc B pc ls (.ref o :: rest) w :=
  zs_callV (as := []) (rest := rest) hm hv hlk hci hd ha rfl rfl hcat hR hrun (fun _ _ h => by obtain ⟨rfl, rfl⟩ := h; exact kk)
theorem zc_V0j {y : MethodName} {cc' : ByteArray} {nL' d i : Nat} {ret' : Option FieldType} {rest : List Value} {w' : zW} {r : Int64} {o ci N : Nat} {T : u_T} {fk : List Nat} (hm : zMo y cc' nL' ret' 0) (hv : Cond.instanceMethod y ∈ zT ∧ Cond.selects y.cls y y ∈ zT) (hlk : Cond.methodLink own i y ∈ zT) (hci : vwCl[ci]? = some (y.cls, T, N)) (hd : decode cc pc = .ok (.invokevirtual i, 3)) (ha : zAt o (0, ci, fk)) (hcat : (rest.map fun v => v.category).sum ≤ 8) (hR : d + 1 ≤ B.2.2.1.frames ∧ 40 * d + 40 ≤ B.2.2.1.locals ∧ B.2.2.2.1.1 ≤ B.2.2.1.cells ∧ B.2.2.2.1.2 ≤ B.2.2.1.slots) (hrun : zRun y cc' nL' ret' d (.ref o :: []) w (zJ r w')) (kk : zWP own cc B (pc + 3) ls (.long r :: rest) w') : zWP own cc B pc ls (.ref o :: rest) w :=
  zs_callV (as := []) (rest := rest) hm hv hlk hci hd ha rfl rfl hcat hR hrun (fun _ _ h => by obtain ⟨rfl, rfl⟩ := h; exact kk)
theorem zc_V0v {y : MethodName} {cc' : ByteArray} {nL' d i : Nat} {ret' : Option FieldType} {rest : List Value} {w' : zW}  {o ci N : Nat} {T : u_T} {fk : List Nat} (hm : zMo y cc' nL' ret' 0) (hv : Cond.instanceMethod y ∈ zT ∧ Cond.selects y.cls y y ∈ zT) (hlk : Cond.methodLink own i y ∈ zT) (hci : vwCl[ci]? = some (y.cls, T, N)) (hd : decode cc pc = .ok (.invokevirtual i, 3)) (ha : zAt o (0, ci, fk)) (hcat : (rest.map fun v => v.category).sum ≤ 8) (hR : d + 1 ≤ B.2.2.1.frames ∧ 40 * d + 40 ≤ B.2.2.1.locals ∧ B.2.2.2.1.1 ≤ B.2.2.1.cells ∧ B.2.2.2.1.2 ≤ B.2.2.1.slots) (hrun : zRun y cc' nL' ret' d (.ref o :: []) w (zV w')) (kk : zWP own cc B (pc + 3) ls rest w') : zWP own cc B pc ls (.ref o :: rest) w :=
  zs_callV (as := []) (rest := rest) hm hv hlk hci hd ha rfl rfl hcat hR hrun (fun _ _ h => by obtain ⟨rfl, rfl⟩ := h; exact kk)
theorem zc_V0n {y : MethodName} {cc' : ByteArray} {nL' d i : Nat} {ret' : Option FieldType} {rest : List Value} {w' : zW}  {o ci N : Nat} {T : u_T} {fk : List Nat} (hm : zMo y cc' nL' ret' 0) (hv : Cond.instanceMethod y ∈ zT ∧ Cond.selects y.cls y y ∈ zT) (hlk : Cond.methodLink own i y ∈ zT) (hci : vwCl[ci]? = some (y.cls, T, N)) (hd : decode cc pc = .ok (.invokevirtual i, 3)) (ha : zAt o (0, ci, fk)) (hcat : (rest.map fun v => v.category).sum ≤ 8) (hR : d + 1 ≤ B.2.2.1.frames ∧ 40 * d + 40 ≤ B.2.2.1.locals ∧ B.2.2.2.1.1 ≤ B.2.2.1.cells ∧ B.2.2.2.1.2 ≤ B.2.2.1.slots) (hrun : zRun y cc' nL' ret' d (.ref o :: []) w (zO none w')) (kk : zWP own cc B (pc + 3) ls (.null :: rest) w') : zWP own cc B pc ls (.ref o :: rest) w :=
  zs_callV (as := []) (rest := rest) hm hv hlk hci hd ha rfl rfl hcat hR hrun (fun _ _ h => by obtain ⟨rfl, rfl⟩ := h; exact kk)
theorem zc_V0r {y : MethodName} {cc' : ByteArray} {nL' d i : Nat} {ret' : Option FieldType} {rest : List Value} {w' : zW} {r : Nat} {o ci N : Nat} {T : u_T} {fk : List Nat} (hm : zMo y cc' nL' ret' 0) (hv : Cond.instanceMethod y ∈ zT ∧ Cond.selects y.cls y y ∈ zT) (hlk : Cond.methodLink own i y ∈ zT) (hci : vwCl[ci]? = some (y.cls, T, N)) (hd : decode cc pc = .ok (.invokevirtual i, 3)) (ha : zAt o (0, ci, fk)) (hcat : (rest.map fun v => v.category).sum ≤ 8) (hR : d + 1 ≤ B.2.2.1.frames ∧ 40 * d + 40 ≤ B.2.2.1.locals ∧ B.2.2.2.1.1 ≤ B.2.2.1.cells ∧ B.2.2.2.1.2 ≤ B.2.2.1.slots) (hrun : zRun y cc' nL' ret' d (.ref o :: []) w (zO (some r) w')) (kk : zWP own cc B (pc + 3) ls (.ref r :: rest) w') : zWP own cc B pc ls (.ref o :: rest) w :=
  zs_callV (as := []) (rest := rest) hm hv hlk hci hd ha rfl rfl hcat hR hrun (fun _ _ h => by obtain ⟨rfl, rfl⟩ := h; exact kk)
theorem zc_V1i {y : MethodName} {cc' : ByteArray} {nL' d i : Nat} {ret' : Option FieldType} {a0 : Value} {rest : List Value} {w' : zW} {r : Int32} {o ci N : Nat} {T : u_T} {fk : List Nat} (hm : zMo y cc' nL' ret' 1) (hv : Cond.instanceMethod y ∈ zT ∧ Cond.selects y.cls y y ∈ zT) (hlk : Cond.methodLink own i y ∈ zT) (hci : vwCl[ci]? = some (y.cls, T, N)) (hd : decode cc pc = .ok (.invokevirtual i, 3)) (ha : zAt o (0, ci, fk)) (hcat : (rest.map fun v => v.category).sum ≤ 8) (hR : d + 1 ≤ B.2.2.1.frames ∧ 40 * d + 40 ≤ B.2.2.1.locals ∧ B.2.2.2.1.1 ≤ B.2.2.1.cells ∧ B.2.2.2.1.2 ≤ B.2.2.1.slots) (hrun : zRun y cc' nL' ret' d (.ref o :: [a0]) w (zI r w')) (kk : zWP own cc B (pc + 3) ls (.int r :: rest) w') : zWP own cc B pc ls (a0 :: .ref o :: rest) w :=
  zs_callV (as := [a0]) (rest := rest) hm hv hlk hci hd ha rfl rfl hcat hR hrun (fun _ _ h => by obtain ⟨rfl, rfl⟩ := h; exact kk)
theorem zc_V1j {y : MethodName} {cc' : ByteArray} {nL' d i : Nat} {ret' : Option FieldType} {a0 : Value} {rest : List Value} {w' : zW} {r : Int64} {o ci N : Nat} {T : u_T} {fk : List Nat} (hm : zMo y cc' nL' ret' 1) (hv : Cond.instanceMethod y ∈ zT ∧ Cond.selects y.cls y y ∈ zT) (hlk : Cond.methodLink own i y ∈ zT) (hci : vwCl[ci]? = some (y.cls, T, N)) (hd : decode cc pc = .ok (.invokevirtual i, 3)) (ha : zAt o (0, ci, fk)) (hcat : (rest.map fun v => v.category).sum ≤ 8) (hR : d + 1 ≤ B.2.2.1.frames ∧ 40 * d + 40 ≤ B.2.2.1.locals ∧ B.2.2.2.1.1 ≤ B.2.2.1.cells ∧ B.2.2.2.1.2 ≤ B.2.2.1.slots) (hrun : zRun y cc' nL' ret' d (.ref o :: [a0]) w (zJ r w')) (kk : zWP own cc B (pc + 3) ls (.long r :: rest) w') : zWP own cc B pc ls (a0 :: .ref o :: rest) w :=
  zs_callV (as := [a0]) (rest := rest) hm hv hlk hci hd ha rfl rfl hcat hR hrun (fun _ _ h => by obtain ⟨rfl, rfl⟩ := h; exact kk)
theorem zc_V1v {y : MethodName} {cc' : ByteArray} {nL' d i : Nat} {ret' : Option FieldType} {a0 : Value} {rest : List Value} {w' : zW}  {o ci N : Nat} {T : u_T} {fk : List Nat} (hm : zMo y cc' nL' ret' 1) (hv : Cond.instanceMethod y ∈ zT ∧ Cond.selects y.cls y y ∈ zT) (hlk : Cond.methodLink own i y ∈ zT) (hci : vwCl[ci]? = some (y.cls, T, N)) (hd : decode cc pc = .ok (.invokevirtual i, 3)) (ha : zAt o (0, ci, fk)) (hcat : (rest.map fun v => v.category).sum ≤ 8) (hR : d + 1 ≤ B.2.2.1.frames ∧ 40 * d + 40 ≤ B.2.2.1.locals ∧ B.2.2.2.1.1 ≤ B.2.2.1.cells ∧ B.2.2.2.1.2 ≤ B.2.2.1.slots) (hrun : zRun y cc' nL' ret' d (.ref o :: [a0]) w (zV w')) (kk : zWP own cc B (pc + 3) ls rest w') : zWP own cc B pc ls (a0 :: .ref o :: rest) w :=
  zs_callV (as := [a0]) (rest := rest) hm hv hlk hci hd ha rfl rfl hcat hR hrun (fun _ _ h => by obtain ⟨rfl, rfl⟩ := h; exact kk)
theorem zc_V1n {y : MethodName} {cc' : ByteArray} {nL' d i : Nat} {ret' : Option FieldType} {a0 : Value} {rest : List Value} {w' : zW}  {o ci N : Nat} {T : u_T} {fk : List Nat} (hm : zMo y cc' nL' ret' 1) (hv : Cond.instanceMethod y ∈ zT ∧ Cond.selects y.cls y y ∈ zT) (hlk : Cond.methodLink own i y ∈ zT) (hci : vwCl[ci]? = some (y.cls, T, N)) (hd : decode cc pc = .ok (.invokevirtual i, 3)) (ha : zAt o (0, ci, fk)) (hcat : (rest.map fun v => v.category).sum ≤ 8) (hR : d + 1 ≤ B.2.2.1.frames ∧ 40 * d + 40 ≤ B.2.2.1.locals ∧ B.2.2.2.1.1 ≤ B.2.2.1.cells ∧ B.2.2.2.1.2 ≤ B.2.2.1.slots) (hrun : zRun y cc' nL' ret' d (.ref o :: [a0]) w (zO none w')) (kk : zWP own cc B (pc + 3) ls (.null :: rest) w') : zWP own cc B pc ls (a0 :: .ref o :: rest) w :=
  zs_callV (as := [a0]) (rest := rest) hm hv hlk hci hd ha rfl rfl hcat hR hrun (fun _ _ h => by obtain ⟨rfl, rfl⟩ := h; exact kk)
theorem zc_V1r {y : MethodName} {cc' : ByteArray} {nL' d i : Nat} {ret' : Option FieldType} {a0 : Value} {rest : List Value} {w' : zW} {r : Nat} {o ci N : Nat} {T : u_T} {fk : List Nat} (hm : zMo y cc' nL' ret' 1) (hv : Cond.instanceMethod y ∈ zT ∧ Cond.selects y.cls y y ∈ zT) (hlk : Cond.methodLink own i y ∈ zT) (hci : vwCl[ci]? = some (y.cls, T, N)) (hd : decode cc pc = .ok (.invokevirtual i, 3)) (ha : zAt o (0, ci, fk)) (hcat : (rest.map fun v => v.category).sum ≤ 8) (hR : d + 1 ≤ B.2.2.1.frames ∧ 40 * d + 40 ≤ B.2.2.1.locals ∧ B.2.2.2.1.1 ≤ B.2.2.1.cells ∧ B.2.2.2.1.2 ≤ B.2.2.1.slots) (hrun : zRun y cc' nL' ret' d (.ref o :: [a0]) w (zO (some r) w')) (kk : zWP own cc B (pc + 3) ls (.ref r :: rest) w') : zWP own cc B pc ls (a0 :: .ref o :: rest) w :=
  zs_callV (as := [a0]) (rest := rest) hm hv hlk hci hd ha rfl rfl hcat hR hrun (fun _ _ h => by obtain ⟨rfl, rfl⟩ := h; exact kk)
theorem zc_V2i {y : MethodName} {cc' : ByteArray} {nL' d i : Nat} {ret' : Option FieldType} {a0 a1 : Value} {rest : List Value} {w' : zW} {r : Int32} {o ci N : Nat} {T : u_T} {fk : List Nat} (hm : zMo y cc' nL' ret' 2) (hv : Cond.instanceMethod y ∈ zT ∧ Cond.selects y.cls y y ∈ zT) (hlk : Cond.methodLink own i y ∈ zT) (hci : vwCl[ci]? = some (y.cls, T, N)) (hd : decode cc pc = .ok (.invokevirtual i, 3)) (ha : zAt o (0, ci, fk)) (hcat : (rest.map fun v => v.category).sum ≤ 8) (hR : d + 1 ≤ B.2.2.1.frames ∧ 40 * d + 40 ≤ B.2.2.1.locals ∧ B.2.2.2.1.1 ≤ B.2.2.1.cells ∧ B.2.2.2.1.2 ≤ B.2.2.1.slots) (hrun : zRun y cc' nL' ret' d (.ref o :: [a0, a1]) w (zI r w')) (kk : zWP own cc B (pc + 3) ls (.int r :: rest) w') : zWP own cc B pc ls (a1 :: a0 :: .ref o :: rest) w :=
  zs_callV (as := [a0, a1]) (rest := rest) hm hv hlk hci hd ha rfl rfl hcat hR hrun (fun _ _ h => by obtain ⟨rfl, rfl⟩ := h; exact kk)
theorem zc_V2j {y : MethodName} {cc' : ByteArray} {nL' d i : Nat} {ret' : Option FieldType} {a0 a1 : Value} {rest : List Value} {w' : zW} {r : Int64} {o ci N : Nat} {T : u_T} {fk : List Nat} (hm : zMo y cc' nL' ret' 2) (hv : Cond.instanceMethod y ∈ zT ∧ Cond.selects y.cls y y ∈ zT) (hlk : Cond.methodLink own i y ∈ zT) (hci : vwCl[ci]? = some (y.cls, T, N)) (hd : decode cc pc = .ok (.invokevirtual i, 3)) (ha : zAt o (0, ci, fk)) (hcat : (rest.map fun v => v.category).sum ≤ 8) (hR : d + 1 ≤ B.2.2.1.frames ∧ 40 * d + 40 ≤ B.2.2.1.locals ∧ B.2.2.2.1.1 ≤ B.2.2.1.cells ∧ B.2.2.2.1.2 ≤ B.2.2.1.slots) (hrun : zRun y cc' nL' ret' d (.ref o :: [a0, a1]) w (zJ r w')) (kk : zWP own cc B (pc + 3) ls (.long r :: rest) w') : zWP own cc B pc ls (a1 :: a0 :: .ref o :: rest) w :=
  zs_callV (as := [a0, a1]) (rest := rest) hm hv hlk hci hd ha rfl rfl hcat hR hrun (fun _ _ h => by obtain ⟨rfl, rfl⟩ := h; exact kk)
theorem zc_V2v {y : MethodName} {cc' : ByteArray} {nL' d i : Nat} {ret' : Option FieldType} {a0 a1 : Value} {rest : List Value} {w' : zW}  {o ci N : Nat} {T : u_T} {fk : List Nat} (hm : zMo y cc' nL' ret' 2) (hv : Cond.instanceMethod y ∈ zT ∧ Cond.selects y.cls y y ∈ zT) (hlk : Cond.methodLink own i y ∈ zT) (hci : vwCl[ci]? = some (y.cls, T, N)) (hd : decode cc pc = .ok (.invokevirtual i, 3)) (ha : zAt o (0, ci, fk)) (hcat : (rest.map fun v => v.category).sum ≤ 8) (hR : d + 1 ≤ B.2.2.1.frames ∧ 40 * d + 40 ≤ B.2.2.1.locals ∧ B.2.2.2.1.1 ≤ B.2.2.1.cells ∧ B.2.2.2.1.2 ≤ B.2.2.1.slots) (hrun : zRun y cc' nL' ret' d (.ref o :: [a0, a1]) w (zV w')) (kk : zWP own cc B (pc + 3) ls rest w') : zWP own cc B pc ls (a1 :: a0 :: .ref o :: rest) w :=
  zs_callV (as := [a0, a1]) (rest := rest) hm hv hlk hci hd ha rfl rfl hcat hR hrun (fun _ _ h => by obtain ⟨rfl, rfl⟩ := h; exact kk)
theorem zc_V2n {y : MethodName} {cc' : ByteArray} {nL' d i : Nat} {ret' : Option FieldType} {a0 a1 : Value} {rest : List Value} {w' : zW}  {o ci N : Nat} {T : u_T} {fk : List Nat} (hm : zMo y cc' nL' ret' 2) (hv : Cond.instanceMethod y ∈ zT ∧ Cond.selects y.cls y y ∈ zT) (hlk : Cond.methodLink own i y ∈ zT) (hci : vwCl[ci]? = some (y.cls, T, N)) (hd : decode cc pc = .ok (.invokevirtual i, 3)) (ha : zAt o (0, ci, fk)) (hcat : (rest.map fun v => v.category).sum ≤ 8) (hR : d + 1 ≤ B.2.2.1.frames ∧ 40 * d + 40 ≤ B.2.2.1.locals ∧ B.2.2.2.1.1 ≤ B.2.2.1.cells ∧ B.2.2.2.1.2 ≤ B.2.2.1.slots) (hrun : zRun y cc' nL' ret' d (.ref o :: [a0, a1]) w (zO none w')) (kk : zWP own cc B (pc + 3) ls (.null :: rest) w') : zWP own cc B pc ls (a1 :: a0 :: .ref o :: rest) w :=
  zs_callV (as := [a0, a1]) (rest := rest) hm hv hlk hci hd ha rfl rfl hcat hR hrun (fun _ _ h => by obtain ⟨rfl, rfl⟩ := h; exact kk)
theorem zc_V2r {y : MethodName} {cc' : ByteArray} {nL' d i : Nat} {ret' : Option FieldType} {a0 a1 : Value} {rest : List Value} {w' : zW} {r : Nat} {o ci N : Nat} {T : u_T} {fk : List Nat} (hm : zMo y cc' nL' ret' 2) (hv : Cond.instanceMethod y ∈ zT ∧ Cond.selects y.cls y y ∈ zT) (hlk : Cond.methodLink own i y ∈ zT) (hci : vwCl[ci]? = some (y.cls, T, N)) (hd : decode cc pc = .ok (.invokevirtual i, 3)) (ha : zAt o (0, ci, fk)) (hcat : (rest.map fun v => v.category).sum ≤ 8) (hR : d + 1 ≤ B.2.2.1.frames ∧ 40 * d + 40 ≤ B.2.2.1.locals ∧ B.2.2.2.1.1 ≤ B.2.2.1.cells ∧ B.2.2.2.1.2 ≤ B.2.2.1.slots) (hrun : zRun y cc' nL' ret' d (.ref o :: [a0, a1]) w (zO (some r) w')) (kk : zWP own cc B (pc + 3) ls (.ref r :: rest) w') : zWP own cc B pc ls (a1 :: a0 :: .ref o :: rest) w :=
  zs_callV (as := [a0, a1]) (rest := rest) hm hv hlk hci hd ha rfl rfl hcat hR hrun (fun _ _ h => by obtain ⟨rfl, rfl⟩ := h; exact kk)
theorem zc_V3i {y : MethodName} {cc' : ByteArray} {nL' d i : Nat} {ret' : Option FieldType} {a0 a1 a2 : Value} {rest : List Value} {w' : zW} {r : Int32} {o ci N : Nat} {T : u_T} {fk : List Nat} (hm : zMo y cc' nL' ret' 3) (hv : Cond.instanceMethod y ∈ zT ∧ Cond.selects y.cls y y ∈ zT) (hlk : Cond.methodLink own i y ∈ zT) (hci : vwCl[ci]? = some (y.cls, T, N)) (hd : decode cc pc = .ok (.invokevirtual i, 3)) (ha : zAt o (0, ci, fk)) (hcat : (rest.map fun v => v.category).sum ≤ 8) (hR : d + 1 ≤ B.2.2.1.frames ∧ 40 * d + 40 ≤ B.2.2.1.locals ∧ B.2.2.2.1.1 ≤ B.2.2.1.cells ∧ B.2.2.2.1.2 ≤ B.2.2.1.slots) (hrun : zRun y cc' nL' ret' d (.ref o :: [a0, a1, a2]) w (zI r w')) (kk : zWP own cc B (pc + 3) ls (.int r :: rest) w') : zWP own cc B pc ls (a2 :: a1 :: a0 :: .ref o :: rest) w :=
  zs_callV (as := [a0, a1, a2]) (rest := rest) hm hv hlk hci hd ha rfl rfl hcat hR hrun (fun _ _ h => by obtain ⟨rfl, rfl⟩ := h; exact kk)
theorem zc_V3j {y : MethodName} {cc' : ByteArray} {nL' d i : Nat} {ret' : Option FieldType} {a0 a1 a2 : Value} {rest : List Value} {w' : zW} {r : Int64} {o ci N : Nat} {T : u_T} {fk : List Nat} (hm : zMo y cc' nL' ret' 3) (hv : Cond.instanceMethod y ∈ zT ∧ Cond.selects y.cls y y ∈ zT) (hlk : Cond.methodLink own i y ∈ zT) (hci : vwCl[ci]? = some (y.cls, T, N)) (hd : decode cc pc = .ok (.invokevirtual i, 3)) (ha : zAt o (0, ci, fk)) (hcat : (rest.map fun v => v.category).sum ≤ 8) (hR : d + 1 ≤ B.2.2.1.frames ∧ 40 * d + 40 ≤ B.2.2.1.locals ∧ B.2.2.2.1.1 ≤ B.2.2.1.cells ∧ B.2.2.2.1.2 ≤ B.2.2.1.slots) (hrun : zRun y cc' nL' ret' d (.ref o :: [a0, a1, a2]) w (zJ r w')) (kk : zWP own cc B (pc + 3) ls (.long r :: rest) w') : zWP own cc B pc ls (a2 :: a1 :: a0 :: .ref o :: rest) w :=
  zs_callV (as := [a0, a1, a2]) (rest := rest) hm hv hlk hci hd ha rfl rfl hcat hR hrun (fun _ _ h => by obtain ⟨rfl, rfl⟩ := h; exact kk)
theorem zc_V3v {y : MethodName} {cc' : ByteArray} {nL' d i : Nat} {ret' : Option FieldType} {a0 a1 a2 : Value} {rest : List Value} {w' : zW}  {o ci N : Nat} {T : u_T} {fk : List Nat} (hm : zMo y cc' nL' ret' 3) (hv : Cond.instanceMethod y ∈ zT ∧ Cond.selects y.cls y y ∈ zT) (hlk : Cond.methodLink own i y ∈ zT) (hci : vwCl[ci]? = some (y.cls, T, N)) (hd : decode cc pc = .ok (.invokevirtual i, 3)) (ha : zAt o (0, ci, fk)) (hcat : (rest.map fun v => v.category).sum ≤ 8) (hR : d + 1 ≤ B.2.2.1.frames ∧ 40 * d + 40 ≤ B.2.2.1.locals ∧ B.2.2.2.1.1 ≤ B.2.2.1.cells ∧ B.2.2.2.1.2 ≤ B.2.2.1.slots) (hrun : zRun y cc' nL' ret' d (.ref o :: [a0, a1, a2]) w (zV w')) (kk : zWP own cc B (pc + 3) ls rest w') : zWP own cc B pc ls (a2 :: a1 :: a0 :: .ref o :: rest) w :=
  zs_callV (as := [a0, a1, a2]) (rest := rest) hm hv hlk hci hd ha rfl rfl hcat hR hrun (fun _ _ h => by obtain ⟨rfl, rfl⟩ := h; exact kk)
theorem zc_V4i {y : MethodName} {cc' : ByteArray} {nL' d i : Nat} {ret' : Option FieldType} {a0 a1 a2 a3 : Value} {rest : List Value} {w' : zW} {r : Int32} {o ci N : Nat} {T : u_T} {fk : List Nat} (hm : zMo y cc' nL' ret' 4) (hv : Cond.instanceMethod y ∈ zT ∧ Cond.selects y.cls y y ∈ zT) (hlk : Cond.methodLink own i y ∈ zT) (hci : vwCl[ci]? = some (y.cls, T, N)) (hd : decode cc pc = .ok (.invokevirtual i, 3)) (ha : zAt o (0, ci, fk)) (hcat : (rest.map fun v => v.category).sum ≤ 8) (hR : d + 1 ≤ B.2.2.1.frames ∧ 40 * d + 40 ≤ B.2.2.1.locals ∧ B.2.2.2.1.1 ≤ B.2.2.1.cells ∧ B.2.2.2.1.2 ≤ B.2.2.1.slots) (hrun : zRun y cc' nL' ret' d (.ref o :: [a0, a1, a2, a3]) w (zI r w')) (kk : zWP own cc B (pc + 3) ls (.int r :: rest) w') : zWP own cc B pc ls (a3 :: a2 :: a1 :: a0 :: .ref o :: rest) w :=
  zs_callV (as := [a0, a1, a2, a3]) (rest := rest) hm hv hlk hci hd ha rfl rfl hcat hR hrun (fun _ _ h => by obtain ⟨rfl, rfl⟩ := h; exact kk)
theorem zc_V4j {y : MethodName} {cc' : ByteArray} {nL' d i : Nat} {ret' : Option FieldType} {a0 a1 a2 a3 : Value} {rest : List Value} {w' : zW} {r : Int64} {o ci N : Nat} {T : u_T} {fk : List Nat} (hm : zMo y cc' nL' ret' 4) (hv : Cond.instanceMethod y ∈ zT ∧ Cond.selects y.cls y y ∈ zT) (hlk : Cond.methodLink own i y ∈ zT) (hci : vwCl[ci]? = some (y.cls, T, N)) (hd : decode cc pc = .ok (.invokevirtual i, 3)) (ha : zAt o (0, ci, fk)) (hcat : (rest.map fun v => v.category).sum ≤ 8) (hR : d + 1 ≤ B.2.2.1.frames ∧ 40 * d + 40 ≤ B.2.2.1.locals ∧ B.2.2.2.1.1 ≤ B.2.2.1.cells ∧ B.2.2.2.1.2 ≤ B.2.2.1.slots) (hrun : zRun y cc' nL' ret' d (.ref o :: [a0, a1, a2, a3]) w (zJ r w')) (kk : zWP own cc B (pc + 3) ls (.long r :: rest) w') : zWP own cc B pc ls (a3 :: a2 :: a1 :: a0 :: .ref o :: rest) w :=
  zs_callV (as := [a0, a1, a2, a3]) (rest := rest) hm hv hlk hci hd ha rfl rfl hcat hR hrun (fun _ _ h => by obtain ⟨rfl, rfl⟩ := h; exact kk)
theorem zc_V4v {y : MethodName} {cc' : ByteArray} {nL' d i : Nat} {ret' : Option FieldType} {a0 a1 a2 a3 : Value} {rest : List Value} {w' : zW}  {o ci N : Nat} {T : u_T} {fk : List Nat} (hm : zMo y cc' nL' ret' 4) (hv : Cond.instanceMethod y ∈ zT ∧ Cond.selects y.cls y y ∈ zT) (hlk : Cond.methodLink own i y ∈ zT) (hci : vwCl[ci]? = some (y.cls, T, N)) (hd : decode cc pc = .ok (.invokevirtual i, 3)) (ha : zAt o (0, ci, fk)) (hcat : (rest.map fun v => v.category).sum ≤ 8) (hR : d + 1 ≤ B.2.2.1.frames ∧ 40 * d + 40 ≤ B.2.2.1.locals ∧ B.2.2.2.1.1 ≤ B.2.2.1.cells ∧ B.2.2.2.1.2 ≤ B.2.2.1.slots) (hrun : zRun y cc' nL' ret' d (.ref o :: [a0, a1, a2, a3]) w (zV w')) (kk : zWP own cc B (pc + 3) ls rest w') : zWP own cc B pc ls (a3 :: a2 :: a1 :: a0 :: .ref o :: rest) w :=
  zs_callV (as := [a0, a1, a2, a3]) (rest := rest) hm hv hlk hci hd ha rfl rfl hcat hR hrun (fun _ _ h => by obtain ⟨rfl, rfl⟩ := h; exact kk)
theorem zc_V5i {y : MethodName} {cc' : ByteArray} {nL' d i : Nat} {ret' : Option FieldType} {a0 a1 a2 a3 a4 : Value} {rest : List Value} {w' : zW} {r : Int32} {o ci N : Nat} {T : u_T} {fk : List Nat} (hm : zMo y cc' nL' ret' 5) (hv : Cond.instanceMethod y ∈ zT ∧ Cond.selects y.cls y y ∈ zT) (hlk : Cond.methodLink own i y ∈ zT) (hci : vwCl[ci]? = some (y.cls, T, N)) (hd : decode cc pc = .ok (.invokevirtual i, 3)) (ha : zAt o (0, ci, fk)) (hcat : (rest.map fun v => v.category).sum ≤ 8) (hR : d + 1 ≤ B.2.2.1.frames ∧ 40 * d + 40 ≤ B.2.2.1.locals ∧ B.2.2.2.1.1 ≤ B.2.2.1.cells ∧ B.2.2.2.1.2 ≤ B.2.2.1.slots) (hrun : zRun y cc' nL' ret' d (.ref o :: [a0, a1, a2, a3, a4]) w (zI r w')) (kk : zWP own cc B (pc + 3) ls (.int r :: rest) w') : zWP own cc B pc ls (a4 :: a3 :: a2 :: a1 :: a0 :: .ref o :: rest) w :=
  zs_callV (as := [a0, a1, a2, a3, a4]) (rest := rest) hm hv hlk hci hd ha rfl rfl hcat hR hrun (fun _ _ h => by obtain ⟨rfl, rfl⟩ := h; exact kk)
theorem zc_V5j {y : MethodName} {cc' : ByteArray} {nL' d i : Nat} {ret' : Option FieldType} {a0 a1 a2 a3 a4 : Value} {rest : List Value} {w' : zW} {r : Int64} {o ci N : Nat} {T : u_T} {fk : List Nat} (hm : zMo y cc' nL' ret' 5) (hv : Cond.instanceMethod y ∈ zT ∧ Cond.selects y.cls y y ∈ zT) (hlk : Cond.methodLink own i y ∈ zT) (hci : vwCl[ci]? = some (y.cls, T, N)) (hd : decode cc pc = .ok (.invokevirtual i, 3)) (ha : zAt o (0, ci, fk)) (hcat : (rest.map fun v => v.category).sum ≤ 8) (hR : d + 1 ≤ B.2.2.1.frames ∧ 40 * d + 40 ≤ B.2.2.1.locals ∧ B.2.2.2.1.1 ≤ B.2.2.1.cells ∧ B.2.2.2.1.2 ≤ B.2.2.1.slots) (hrun : zRun y cc' nL' ret' d (.ref o :: [a0, a1, a2, a3, a4]) w (zJ r w')) (kk : zWP own cc B (pc + 3) ls (.long r :: rest) w') : zWP own cc B pc ls (a4 :: a3 :: a2 :: a1 :: a0 :: .ref o :: rest) w :=
  zs_callV (as := [a0, a1, a2, a3, a4]) (rest := rest) hm hv hlk hci hd ha rfl rfl hcat hR hrun (fun _ _ h => by obtain ⟨rfl, rfl⟩ := h; exact kk)
theorem zc_V5v {y : MethodName} {cc' : ByteArray} {nL' d i : Nat} {ret' : Option FieldType} {a0 a1 a2 a3 a4 : Value} {rest : List Value} {w' : zW}  {o ci N : Nat} {T : u_T} {fk : List Nat} (hm : zMo y cc' nL' ret' 5) (hv : Cond.instanceMethod y ∈ zT ∧ Cond.selects y.cls y y ∈ zT) (hlk : Cond.methodLink own i y ∈ zT) (hci : vwCl[ci]? = some (y.cls, T, N)) (hd : decode cc pc = .ok (.invokevirtual i, 3)) (ha : zAt o (0, ci, fk)) (hcat : (rest.map fun v => v.category).sum ≤ 8) (hR : d + 1 ≤ B.2.2.1.frames ∧ 40 * d + 40 ≤ B.2.2.1.locals ∧ B.2.2.2.1.1 ≤ B.2.2.1.cells ∧ B.2.2.2.1.2 ≤ B.2.2.1.slots) (hrun : zRun y cc' nL' ret' d (.ref o :: [a0, a1, a2, a3, a4]) w (zV w')) (kk : zWP own cc B (pc + 3) ls rest w') : zWP own cc B pc ls (a4 :: a3 :: a2 :: a1 :: a0 :: .ref o :: rest) w :=
  zs_callV (as := [a0, a1, a2, a3, a4]) (rest := rest) hm hv hlk hci hd ha rfl rfl hcat hR hrun (fun _ _ h => by obtain ⟨rfl, rfl⟩ := h; exact kk)
theorem zc_S0i {y : MethodName} {cc' : ByteArray} {nL' d i : Nat} {ret' : Option FieldType} {rest : List Value} {w' : zW} {r : Int32} (hm : zMo y cc' nL' ret' 0) (hv : Cond.static y ∈ zT) (hlk : Cond.methodLink own i y ∈ zT) (hd : decode cc pc = .ok (.invokestatic i, 3)) (hcat : (rest.map fun v => v.category).sum ≤ 8) (hR : d + 1 ≤ B.2.2.1.frames ∧ 40 * d + 40 ≤ B.2.2.1.locals ∧ B.2.2.2.1.1 ≤ B.2.2.1.cells ∧ B.2.2.2.1.2 ≤ B.2.2.1.slots) (hrun : zRun y cc' nL' ret' d ([]) w (zI r w')) (kk : zWP own cc B (pc + 3) ls (.int r :: rest) w') : zWP own cc B pc ls (rest) w :=
  zs_callS (as := []) (rest := rest) hm hv hlk hd rfl rfl hcat hR hrun (fun _ _ h => by obtain ⟨rfl, rfl⟩ := h; exact kk)
theorem zc_S0j {y : MethodName} {cc' : ByteArray} {nL' d i : Nat} {ret' : Option FieldType} {rest : List Value} {w' : zW} {r : Int64} (hm : zMo y cc' nL' ret' 0) (hv : Cond.static y ∈ zT) (hlk : Cond.methodLink own i y ∈ zT) (hd : decode cc pc = .ok (.invokestatic i, 3)) (hcat : (rest.map fun v => v.category).sum ≤ 8) (hR : d + 1 ≤ B.2.2.1.frames ∧ 40 * d + 40 ≤ B.2.2.1.locals ∧ B.2.2.2.1.1 ≤ B.2.2.1.cells ∧ B.2.2.2.1.2 ≤ B.2.2.1.slots) (hrun : zRun y cc' nL' ret' d ([]) w (zJ r w')) (kk : zWP own cc B (pc + 3) ls (.long r :: rest) w') : zWP own cc B pc ls (rest) w :=
  zs_callS (as := []) (rest := rest) hm hv hlk hd rfl rfl hcat hR hrun (fun _ _ h => by obtain ⟨rfl, rfl⟩ := h; exact kk)
theorem zc_S0v {y : MethodName} {cc' : ByteArray} {nL' d i : Nat} {ret' : Option FieldType} {rest : List Value} {w' : zW}  (hm : zMo y cc' nL' ret' 0) (hv : Cond.static y ∈ zT) (hlk : Cond.methodLink own i y ∈ zT) (hd : decode cc pc = .ok (.invokestatic i, 3)) (hcat : (rest.map fun v => v.category).sum ≤ 8) (hR : d + 1 ≤ B.2.2.1.frames ∧ 40 * d + 40 ≤ B.2.2.1.locals ∧ B.2.2.2.1.1 ≤ B.2.2.1.cells ∧ B.2.2.2.1.2 ≤ B.2.2.1.slots) (hrun : zRun y cc' nL' ret' d ([]) w (zV w')) (kk : zWP own cc B (pc + 3) ls rest w') : zWP own cc B pc ls (rest) w :=
  zs_callS (as := []) (rest := rest) hm hv hlk hd rfl rfl hcat hR hrun (fun _ _ h => by obtain ⟨rfl, rfl⟩ := h; exact kk)
theorem zc_S0n {y : MethodName} {cc' : ByteArray} {nL' d i : Nat} {ret' : Option FieldType} {rest : List Value} {w' : zW}  (hm : zMo y cc' nL' ret' 0) (hv : Cond.static y ∈ zT) (hlk : Cond.methodLink own i y ∈ zT) (hd : decode cc pc = .ok (.invokestatic i, 3)) (hcat : (rest.map fun v => v.category).sum ≤ 8) (hR : d + 1 ≤ B.2.2.1.frames ∧ 40 * d + 40 ≤ B.2.2.1.locals ∧ B.2.2.2.1.1 ≤ B.2.2.1.cells ∧ B.2.2.2.1.2 ≤ B.2.2.1.slots) (hrun : zRun y cc' nL' ret' d ([]) w (zO none w')) (kk : zWP own cc B (pc + 3) ls (.null :: rest) w') : zWP own cc B pc ls (rest) w :=
  zs_callS (as := []) (rest := rest) hm hv hlk hd rfl rfl hcat hR hrun (fun _ _ h => by obtain ⟨rfl, rfl⟩ := h; exact kk)
theorem zc_S0r {y : MethodName} {cc' : ByteArray} {nL' d i : Nat} {ret' : Option FieldType} {rest : List Value} {w' : zW} {r : Nat} (hm : zMo y cc' nL' ret' 0) (hv : Cond.static y ∈ zT) (hlk : Cond.methodLink own i y ∈ zT) (hd : decode cc pc = .ok (.invokestatic i, 3)) (hcat : (rest.map fun v => v.category).sum ≤ 8) (hR : d + 1 ≤ B.2.2.1.frames ∧ 40 * d + 40 ≤ B.2.2.1.locals ∧ B.2.2.2.1.1 ≤ B.2.2.1.cells ∧ B.2.2.2.1.2 ≤ B.2.2.1.slots) (hrun : zRun y cc' nL' ret' d ([]) w (zO (some r) w')) (kk : zWP own cc B (pc + 3) ls (.ref r :: rest) w') : zWP own cc B pc ls (rest) w :=
  zs_callS (as := []) (rest := rest) hm hv hlk hd rfl rfl hcat hR hrun (fun _ _ h => by obtain ⟨rfl, rfl⟩ := h; exact kk)
theorem zc_S1i {y : MethodName} {cc' : ByteArray} {nL' d i : Nat} {ret' : Option FieldType} {a0 : Value} {rest : List Value} {w' : zW} {r : Int32} (hm : zMo y cc' nL' ret' 1) (hv : Cond.static y ∈ zT) (hlk : Cond.methodLink own i y ∈ zT) (hd : decode cc pc = .ok (.invokestatic i, 3)) (hcat : (rest.map fun v => v.category).sum ≤ 8) (hR : d + 1 ≤ B.2.2.1.frames ∧ 40 * d + 40 ≤ B.2.2.1.locals ∧ B.2.2.2.1.1 ≤ B.2.2.1.cells ∧ B.2.2.2.1.2 ≤ B.2.2.1.slots) (hrun : zRun y cc' nL' ret' d ([a0]) w (zI r w')) (kk : zWP own cc B (pc + 3) ls (.int r :: rest) w') : zWP own cc B pc ls (a0 :: rest) w :=
  zs_callS (as := [a0]) (rest := rest) hm hv hlk hd rfl rfl hcat hR hrun (fun _ _ h => by obtain ⟨rfl, rfl⟩ := h; exact kk)
theorem zc_S1j {y : MethodName} {cc' : ByteArray} {nL' d i : Nat} {ret' : Option FieldType} {a0 : Value} {rest : List Value} {w' : zW} {r : Int64} (hm : zMo y cc' nL' ret' 1) (hv : Cond.static y ∈ zT) (hlk : Cond.methodLink own i y ∈ zT) (hd : decode cc pc = .ok (.invokestatic i, 3)) (hcat : (rest.map fun v => v.category).sum ≤ 8) (hR : d + 1 ≤ B.2.2.1.frames ∧ 40 * d + 40 ≤ B.2.2.1.locals ∧ B.2.2.2.1.1 ≤ B.2.2.1.cells ∧ B.2.2.2.1.2 ≤ B.2.2.1.slots) (hrun : zRun y cc' nL' ret' d ([a0]) w (zJ r w')) (kk : zWP own cc B (pc + 3) ls (.long r :: rest) w') : zWP own cc B pc ls (a0 :: rest) w :=
  zs_callS (as := [a0]) (rest := rest) hm hv hlk hd rfl rfl hcat hR hrun (fun _ _ h => by obtain ⟨rfl, rfl⟩ := h; exact kk)
theorem zc_S1v {y : MethodName} {cc' : ByteArray} {nL' d i : Nat} {ret' : Option FieldType} {a0 : Value} {rest : List Value} {w' : zW}  (hm : zMo y cc' nL' ret' 1) (hv : Cond.static y ∈ zT) (hlk : Cond.methodLink own i y ∈ zT) (hd : decode cc pc = .ok (.invokestatic i, 3)) (hcat : (rest.map fun v => v.category).sum ≤ 8) (hR : d + 1 ≤ B.2.2.1.frames ∧ 40 * d + 40 ≤ B.2.2.1.locals ∧ B.2.2.2.1.1 ≤ B.2.2.1.cells ∧ B.2.2.2.1.2 ≤ B.2.2.1.slots) (hrun : zRun y cc' nL' ret' d ([a0]) w (zV w')) (kk : zWP own cc B (pc + 3) ls rest w') : zWP own cc B pc ls (a0 :: rest) w :=
  zs_callS (as := [a0]) (rest := rest) hm hv hlk hd rfl rfl hcat hR hrun (fun _ _ h => by obtain ⟨rfl, rfl⟩ := h; exact kk)
theorem zc_S1n {y : MethodName} {cc' : ByteArray} {nL' d i : Nat} {ret' : Option FieldType} {a0 : Value} {rest : List Value} {w' : zW}  (hm : zMo y cc' nL' ret' 1) (hv : Cond.static y ∈ zT) (hlk : Cond.methodLink own i y ∈ zT) (hd : decode cc pc = .ok (.invokestatic i, 3)) (hcat : (rest.map fun v => v.category).sum ≤ 8) (hR : d + 1 ≤ B.2.2.1.frames ∧ 40 * d + 40 ≤ B.2.2.1.locals ∧ B.2.2.2.1.1 ≤ B.2.2.1.cells ∧ B.2.2.2.1.2 ≤ B.2.2.1.slots) (hrun : zRun y cc' nL' ret' d ([a0]) w (zO none w')) (kk : zWP own cc B (pc + 3) ls (.null :: rest) w') : zWP own cc B pc ls (a0 :: rest) w :=
  zs_callS (as := [a0]) (rest := rest) hm hv hlk hd rfl rfl hcat hR hrun (fun _ _ h => by obtain ⟨rfl, rfl⟩ := h; exact kk)
theorem zc_S1r {y : MethodName} {cc' : ByteArray} {nL' d i : Nat} {ret' : Option FieldType} {a0 : Value} {rest : List Value} {w' : zW} {r : Nat} (hm : zMo y cc' nL' ret' 1) (hv : Cond.static y ∈ zT) (hlk : Cond.methodLink own i y ∈ zT) (hd : decode cc pc = .ok (.invokestatic i, 3)) (hcat : (rest.map fun v => v.category).sum ≤ 8) (hR : d + 1 ≤ B.2.2.1.frames ∧ 40 * d + 40 ≤ B.2.2.1.locals ∧ B.2.2.2.1.1 ≤ B.2.2.1.cells ∧ B.2.2.2.1.2 ≤ B.2.2.1.slots) (hrun : zRun y cc' nL' ret' d ([a0]) w (zO (some r) w')) (kk : zWP own cc B (pc + 3) ls (.ref r :: rest) w') : zWP own cc B pc ls (a0 :: rest) w :=
  zs_callS (as := [a0]) (rest := rest) hm hv hlk hd rfl rfl hcat hR hrun (fun _ _ h => by obtain ⟨rfl, rfl⟩ := h; exact kk)
theorem zc_S2i {y : MethodName} {cc' : ByteArray} {nL' d i : Nat} {ret' : Option FieldType} {a0 a1 : Value} {rest : List Value} {w' : zW} {r : Int32} (hm : zMo y cc' nL' ret' 2) (hv : Cond.static y ∈ zT) (hlk : Cond.methodLink own i y ∈ zT) (hd : decode cc pc = .ok (.invokestatic i, 3)) (hcat : (rest.map fun v => v.category).sum ≤ 8) (hR : d + 1 ≤ B.2.2.1.frames ∧ 40 * d + 40 ≤ B.2.2.1.locals ∧ B.2.2.2.1.1 ≤ B.2.2.1.cells ∧ B.2.2.2.1.2 ≤ B.2.2.1.slots) (hrun : zRun y cc' nL' ret' d ([a0, a1]) w (zI r w')) (kk : zWP own cc B (pc + 3) ls (.int r :: rest) w') : zWP own cc B pc ls (a1 :: a0 :: rest) w :=
  zs_callS (as := [a0, a1]) (rest := rest) hm hv hlk hd rfl rfl hcat hR hrun (fun _ _ h => by obtain ⟨rfl, rfl⟩ := h; exact kk)
theorem zc_S2j {y : MethodName} {cc' : ByteArray} {nL' d i : Nat} {ret' : Option FieldType} {a0 a1 : Value} {rest : List Value} {w' : zW} {r : Int64} (hm : zMo y cc' nL' ret' 2) (hv : Cond.static y ∈ zT) (hlk : Cond.methodLink own i y ∈ zT) (hd : decode cc pc = .ok (.invokestatic i, 3)) (hcat : (rest.map fun v => v.category).sum ≤ 8) (hR : d + 1 ≤ B.2.2.1.frames ∧ 40 * d + 40 ≤ B.2.2.1.locals ∧ B.2.2.2.1.1 ≤ B.2.2.1.cells ∧ B.2.2.2.1.2 ≤ B.2.2.1.slots) (hrun : zRun y cc' nL' ret' d ([a0, a1]) w (zJ r w')) (kk : zWP own cc B (pc + 3) ls (.long r :: rest) w') : zWP own cc B pc ls (a1 :: a0 :: rest) w :=
  zs_callS (as := [a0, a1]) (rest := rest) hm hv hlk hd rfl rfl hcat hR hrun (fun _ _ h => by obtain ⟨rfl, rfl⟩ := h; exact kk)
theorem zc_S2v {y : MethodName} {cc' : ByteArray} {nL' d i : Nat} {ret' : Option FieldType} {a0 a1 : Value} {rest : List Value} {w' : zW}  (hm : zMo y cc' nL' ret' 2) (hv : Cond.static y ∈ zT) (hlk : Cond.methodLink own i y ∈ zT) (hd : decode cc pc = .ok (.invokestatic i, 3)) (hcat : (rest.map fun v => v.category).sum ≤ 8) (hR : d + 1 ≤ B.2.2.1.frames ∧ 40 * d + 40 ≤ B.2.2.1.locals ∧ B.2.2.2.1.1 ≤ B.2.2.1.cells ∧ B.2.2.2.1.2 ≤ B.2.2.1.slots) (hrun : zRun y cc' nL' ret' d ([a0, a1]) w (zV w')) (kk : zWP own cc B (pc + 3) ls rest w') : zWP own cc B pc ls (a1 :: a0 :: rest) w :=
  zs_callS (as := [a0, a1]) (rest := rest) hm hv hlk hd rfl rfl hcat hR hrun (fun _ _ h => by obtain ⟨rfl, rfl⟩ := h; exact kk)
theorem zc_S2n {y : MethodName} {cc' : ByteArray} {nL' d i : Nat} {ret' : Option FieldType} {a0 a1 : Value} {rest : List Value} {w' : zW}  (hm : zMo y cc' nL' ret' 2) (hv : Cond.static y ∈ zT) (hlk : Cond.methodLink own i y ∈ zT) (hd : decode cc pc = .ok (.invokestatic i, 3)) (hcat : (rest.map fun v => v.category).sum ≤ 8) (hR : d + 1 ≤ B.2.2.1.frames ∧ 40 * d + 40 ≤ B.2.2.1.locals ∧ B.2.2.2.1.1 ≤ B.2.2.1.cells ∧ B.2.2.2.1.2 ≤ B.2.2.1.slots) (hrun : zRun y cc' nL' ret' d ([a0, a1]) w (zO none w')) (kk : zWP own cc B (pc + 3) ls (.null :: rest) w') : zWP own cc B pc ls (a1 :: a0 :: rest) w :=
  zs_callS (as := [a0, a1]) (rest := rest) hm hv hlk hd rfl rfl hcat hR hrun (fun _ _ h => by obtain ⟨rfl, rfl⟩ := h; exact kk)
theorem zc_S2r {y : MethodName} {cc' : ByteArray} {nL' d i : Nat} {ret' : Option FieldType} {a0 a1 : Value} {rest : List Value} {w' : zW} {r : Nat} (hm : zMo y cc' nL' ret' 2) (hv : Cond.static y ∈ zT) (hlk : Cond.methodLink own i y ∈ zT) (hd : decode cc pc = .ok (.invokestatic i, 3)) (hcat : (rest.map fun v => v.category).sum ≤ 8) (hR : d + 1 ≤ B.2.2.1.frames ∧ 40 * d + 40 ≤ B.2.2.1.locals ∧ B.2.2.2.1.1 ≤ B.2.2.1.cells ∧ B.2.2.2.1.2 ≤ B.2.2.1.slots) (hrun : zRun y cc' nL' ret' d ([a0, a1]) w (zO (some r) w')) (kk : zWP own cc B (pc + 3) ls (.ref r :: rest) w') : zWP own cc B pc ls (a1 :: a0 :: rest) w :=
  zs_callS (as := [a0, a1]) (rest := rest) hm hv hlk hd rfl rfl hcat hR hrun (fun _ _ h => by obtain ⟨rfl, rfl⟩ := h; exact kk)
theorem zc_S3i {y : MethodName} {cc' : ByteArray} {nL' d i : Nat} {ret' : Option FieldType} {a0 a1 a2 : Value} {rest : List Value} {w' : zW} {r : Int32} (hm : zMo y cc' nL' ret' 3) (hv : Cond.static y ∈ zT) (hlk : Cond.methodLink own i y ∈ zT) (hd : decode cc pc = .ok (.invokestatic i, 3)) (hcat : (rest.map fun v => v.category).sum ≤ 8) (hR : d + 1 ≤ B.2.2.1.frames ∧ 40 * d + 40 ≤ B.2.2.1.locals ∧ B.2.2.2.1.1 ≤ B.2.2.1.cells ∧ B.2.2.2.1.2 ≤ B.2.2.1.slots) (hrun : zRun y cc' nL' ret' d ([a0, a1, a2]) w (zI r w')) (kk : zWP own cc B (pc + 3) ls (.int r :: rest) w') : zWP own cc B pc ls (a2 :: a1 :: a0 :: rest) w :=
  zs_callS (as := [a0, a1, a2]) (rest := rest) hm hv hlk hd rfl rfl hcat hR hrun (fun _ _ h => by obtain ⟨rfl, rfl⟩ := h; exact kk)
theorem zc_S3j {y : MethodName} {cc' : ByteArray} {nL' d i : Nat} {ret' : Option FieldType} {a0 a1 a2 : Value} {rest : List Value} {w' : zW} {r : Int64} (hm : zMo y cc' nL' ret' 3) (hv : Cond.static y ∈ zT) (hlk : Cond.methodLink own i y ∈ zT) (hd : decode cc pc = .ok (.invokestatic i, 3)) (hcat : (rest.map fun v => v.category).sum ≤ 8) (hR : d + 1 ≤ B.2.2.1.frames ∧ 40 * d + 40 ≤ B.2.2.1.locals ∧ B.2.2.2.1.1 ≤ B.2.2.1.cells ∧ B.2.2.2.1.2 ≤ B.2.2.1.slots) (hrun : zRun y cc' nL' ret' d ([a0, a1, a2]) w (zJ r w')) (kk : zWP own cc B (pc + 3) ls (.long r :: rest) w') : zWP own cc B pc ls (a2 :: a1 :: a0 :: rest) w :=
  zs_callS (as := [a0, a1, a2]) (rest := rest) hm hv hlk hd rfl rfl hcat hR hrun (fun _ _ h => by obtain ⟨rfl, rfl⟩ := h; exact kk)
theorem zc_S3v {y : MethodName} {cc' : ByteArray} {nL' d i : Nat} {ret' : Option FieldType} {a0 a1 a2 : Value} {rest : List Value} {w' : zW}  (hm : zMo y cc' nL' ret' 3) (hv : Cond.static y ∈ zT) (hlk : Cond.methodLink own i y ∈ zT) (hd : decode cc pc = .ok (.invokestatic i, 3)) (hcat : (rest.map fun v => v.category).sum ≤ 8) (hR : d + 1 ≤ B.2.2.1.frames ∧ 40 * d + 40 ≤ B.2.2.1.locals ∧ B.2.2.2.1.1 ≤ B.2.2.1.cells ∧ B.2.2.2.1.2 ≤ B.2.2.1.slots) (hrun : zRun y cc' nL' ret' d ([a0, a1, a2]) w (zV w')) (kk : zWP own cc B (pc + 3) ls rest w') : zWP own cc B pc ls (a2 :: a1 :: a0 :: rest) w :=
  zs_callS (as := [a0, a1, a2]) (rest := rest) hm hv hlk hd rfl rfl hcat hR hrun (fun _ _ h => by obtain ⟨rfl, rfl⟩ := h; exact kk)
theorem zc_S4i {y : MethodName} {cc' : ByteArray} {nL' d i : Nat} {ret' : Option FieldType} {a0 a1 a2 a3 : Value} {rest : List Value} {w' : zW} {r : Int32} (hm : zMo y cc' nL' ret' 4) (hv : Cond.static y ∈ zT) (hlk : Cond.methodLink own i y ∈ zT) (hd : decode cc pc = .ok (.invokestatic i, 3)) (hcat : (rest.map fun v => v.category).sum ≤ 8) (hR : d + 1 ≤ B.2.2.1.frames ∧ 40 * d + 40 ≤ B.2.2.1.locals ∧ B.2.2.2.1.1 ≤ B.2.2.1.cells ∧ B.2.2.2.1.2 ≤ B.2.2.1.slots) (hrun : zRun y cc' nL' ret' d ([a0, a1, a2, a3]) w (zI r w')) (kk : zWP own cc B (pc + 3) ls (.int r :: rest) w') : zWP own cc B pc ls (a3 :: a2 :: a1 :: a0 :: rest) w :=
  zs_callS (as := [a0, a1, a2, a3]) (rest := rest) hm hv hlk hd rfl rfl hcat hR hrun (fun _ _ h => by obtain ⟨rfl, rfl⟩ := h; exact kk)
theorem zc_S4j {y : MethodName} {cc' : ByteArray} {nL' d i : Nat} {ret' : Option FieldType} {a0 a1 a2 a3 : Value} {rest : List Value} {w' : zW} {r : Int64} (hm : zMo y cc' nL' ret' 4) (hv : Cond.static y ∈ zT) (hlk : Cond.methodLink own i y ∈ zT) (hd : decode cc pc = .ok (.invokestatic i, 3)) (hcat : (rest.map fun v => v.category).sum ≤ 8) (hR : d + 1 ≤ B.2.2.1.frames ∧ 40 * d + 40 ≤ B.2.2.1.locals ∧ B.2.2.2.1.1 ≤ B.2.2.1.cells ∧ B.2.2.2.1.2 ≤ B.2.2.1.slots) (hrun : zRun y cc' nL' ret' d ([a0, a1, a2, a3]) w (zJ r w')) (kk : zWP own cc B (pc + 3) ls (.long r :: rest) w') : zWP own cc B pc ls (a3 :: a2 :: a1 :: a0 :: rest) w :=
  zs_callS (as := [a0, a1, a2, a3]) (rest := rest) hm hv hlk hd rfl rfl hcat hR hrun (fun _ _ h => by obtain ⟨rfl, rfl⟩ := h; exact kk)
theorem zc_S4v {y : MethodName} {cc' : ByteArray} {nL' d i : Nat} {ret' : Option FieldType} {a0 a1 a2 a3 : Value} {rest : List Value} {w' : zW}  (hm : zMo y cc' nL' ret' 4) (hv : Cond.static y ∈ zT) (hlk : Cond.methodLink own i y ∈ zT) (hd : decode cc pc = .ok (.invokestatic i, 3)) (hcat : (rest.map fun v => v.category).sum ≤ 8) (hR : d + 1 ≤ B.2.2.1.frames ∧ 40 * d + 40 ≤ B.2.2.1.locals ∧ B.2.2.2.1.1 ≤ B.2.2.1.cells ∧ B.2.2.2.1.2 ≤ B.2.2.1.slots) (hrun : zRun y cc' nL' ret' d ([a0, a1, a2, a3]) w (zV w')) (kk : zWP own cc B (pc + 3) ls rest w') : zWP own cc B pc ls (a3 :: a2 :: a1 :: a0 :: rest) w :=
  zs_callS (as := [a0, a1, a2, a3]) (rest := rest) hm hv hlk hd rfl rfl hcat hR hrun (fun _ _ h => by obtain ⟨rfl, rfl⟩ := h; exact kk)
theorem zc_S5i {y : MethodName} {cc' : ByteArray} {nL' d i : Nat} {ret' : Option FieldType} {a0 a1 a2 a3 a4 : Value} {rest : List Value} {w' : zW} {r : Int32} (hm : zMo y cc' nL' ret' 5) (hv : Cond.static y ∈ zT) (hlk : Cond.methodLink own i y ∈ zT) (hd : decode cc pc = .ok (.invokestatic i, 3)) (hcat : (rest.map fun v => v.category).sum ≤ 8) (hR : d + 1 ≤ B.2.2.1.frames ∧ 40 * d + 40 ≤ B.2.2.1.locals ∧ B.2.2.2.1.1 ≤ B.2.2.1.cells ∧ B.2.2.2.1.2 ≤ B.2.2.1.slots) (hrun : zRun y cc' nL' ret' d ([a0, a1, a2, a3, a4]) w (zI r w')) (kk : zWP own cc B (pc + 3) ls (.int r :: rest) w') : zWP own cc B pc ls (a4 :: a3 :: a2 :: a1 :: a0 :: rest) w :=
  zs_callS (as := [a0, a1, a2, a3, a4]) (rest := rest) hm hv hlk hd rfl rfl hcat hR hrun (fun _ _ h => by obtain ⟨rfl, rfl⟩ := h; exact kk)
theorem zc_S5j {y : MethodName} {cc' : ByteArray} {nL' d i : Nat} {ret' : Option FieldType} {a0 a1 a2 a3 a4 : Value} {rest : List Value} {w' : zW} {r : Int64} (hm : zMo y cc' nL' ret' 5) (hv : Cond.static y ∈ zT) (hlk : Cond.methodLink own i y ∈ zT) (hd : decode cc pc = .ok (.invokestatic i, 3)) (hcat : (rest.map fun v => v.category).sum ≤ 8) (hR : d + 1 ≤ B.2.2.1.frames ∧ 40 * d + 40 ≤ B.2.2.1.locals ∧ B.2.2.2.1.1 ≤ B.2.2.1.cells ∧ B.2.2.2.1.2 ≤ B.2.2.1.slots) (hrun : zRun y cc' nL' ret' d ([a0, a1, a2, a3, a4]) w (zJ r w')) (kk : zWP own cc B (pc + 3) ls (.long r :: rest) w') : zWP own cc B pc ls (a4 :: a3 :: a2 :: a1 :: a0 :: rest) w :=
  zs_callS (as := [a0, a1, a2, a3, a4]) (rest := rest) hm hv hlk hd rfl rfl hcat hR hrun (fun _ _ h => by obtain ⟨rfl, rfl⟩ := h; exact kk)
theorem zc_S5v {y : MethodName} {cc' : ByteArray} {nL' d i : Nat} {ret' : Option FieldType} {a0 a1 a2 a3 a4 : Value} {rest : List Value} {w' : zW}  (hm : zMo y cc' nL' ret' 5) (hv : Cond.static y ∈ zT) (hlk : Cond.methodLink own i y ∈ zT) (hd : decode cc pc = .ok (.invokestatic i, 3)) (hcat : (rest.map fun v => v.category).sum ≤ 8) (hR : d + 1 ≤ B.2.2.1.frames ∧ 40 * d + 40 ≤ B.2.2.1.locals ∧ B.2.2.2.1.1 ≤ B.2.2.1.cells ∧ B.2.2.2.1.2 ≤ B.2.2.1.slots) (hrun : zRun y cc' nL' ret' d ([a0, a1, a2, a3, a4]) w (zV w')) (kk : zWP own cc B (pc + 3) ls rest w') : zWP own cc B pc ls (a4 :: a3 :: a2 :: a1 :: a0 :: rest) w :=
  zs_callS (as := [a0, a1, a2, a3, a4]) (rest := rest) hm hv hlk hd rfl rfl hcat hR hrun (fun _ _ h => by obtain ⟨rfl, rfl⟩ := h; exact kk)
theorem zc_T0i {y : MethodName} {cc' : ByteArray} {nL' d i : Nat} {ret' : Option FieldType} {rest : List Value} {w' : zW} {r : Int32} {k : Nat} (hm : zMo y cc' nL' ret' 0) (hv : Cond.instanceMethod y ∈ zT ∧ Cond.selects y.cls y y ∈ zT) (hlk : Cond.methodLink own i y ∈ zT) (hci : y.cls = "java/lang/String") (hd : decode cc pc = .ok (.invokevirtual i, 3)) (hk : k < 13) (hcat : (rest.map fun v => v.category).sum ≤ 8) (hR : d + 1 ≤ B.2.2.1.frames ∧ 40 * d + 40 ≤ B.2.2.1.locals ∧ B.2.2.2.1.1 ≤ B.2.2.1.cells ∧ B.2.2.2.1.2 ≤ B.2.2.1.slots) (hrun : zRun y cc' nL' ret' d (.ref (100 + k) :: []) w (zI r w')) (kk : zWP own cc B (pc + 3) ls (.int r :: rest) w') : zWP own cc B pc ls (.ref (100 + k) :: rest) w :=
  zs_callT (as := []) (rest := rest) hm hv hlk hci hd hk rfl rfl hcat hR hrun (fun _ _ h => by obtain ⟨rfl, rfl⟩ := h; exact kk)
theorem zc_T0j {y : MethodName} {cc' : ByteArray} {nL' d i : Nat} {ret' : Option FieldType} {rest : List Value} {w' : zW} {r : Int64} {k : Nat} (hm : zMo y cc' nL' ret' 0) (hv : Cond.instanceMethod y ∈ zT ∧ Cond.selects y.cls y y ∈ zT) (hlk : Cond.methodLink own i y ∈ zT) (hci : y.cls = "java/lang/String") (hd : decode cc pc = .ok (.invokevirtual i, 3)) (hk : k < 13) (hcat : (rest.map fun v => v.category).sum ≤ 8) (hR : d + 1 ≤ B.2.2.1.frames ∧ 40 * d + 40 ≤ B.2.2.1.locals ∧ B.2.2.2.1.1 ≤ B.2.2.1.cells ∧ B.2.2.2.1.2 ≤ B.2.2.1.slots) (hrun : zRun y cc' nL' ret' d (.ref (100 + k) :: []) w (zJ r w')) (kk : zWP own cc B (pc + 3) ls (.long r :: rest) w') : zWP own cc B pc ls (.ref (100 + k) :: rest) w :=
  zs_callT (as := []) (rest := rest) hm hv hlk hci hd hk rfl rfl hcat hR hrun (fun _ _ h => by obtain ⟨rfl, rfl⟩ := h; exact kk)
theorem zc_T0v {y : MethodName} {cc' : ByteArray} {nL' d i : Nat} {ret' : Option FieldType} {rest : List Value} {w' : zW}  {k : Nat} (hm : zMo y cc' nL' ret' 0) (hv : Cond.instanceMethod y ∈ zT ∧ Cond.selects y.cls y y ∈ zT) (hlk : Cond.methodLink own i y ∈ zT) (hci : y.cls = "java/lang/String") (hd : decode cc pc = .ok (.invokevirtual i, 3)) (hk : k < 13) (hcat : (rest.map fun v => v.category).sum ≤ 8) (hR : d + 1 ≤ B.2.2.1.frames ∧ 40 * d + 40 ≤ B.2.2.1.locals ∧ B.2.2.2.1.1 ≤ B.2.2.1.cells ∧ B.2.2.2.1.2 ≤ B.2.2.1.slots) (hrun : zRun y cc' nL' ret' d (.ref (100 + k) :: []) w (zV w')) (kk : zWP own cc B (pc + 3) ls rest w') : zWP own cc B pc ls (.ref (100 + k) :: rest) w :=
  zs_callT (as := []) (rest := rest) hm hv hlk hci hd hk rfl rfl hcat hR hrun (fun _ _ h => by obtain ⟨rfl, rfl⟩ := h; exact kk)
theorem zc_T0n {y : MethodName} {cc' : ByteArray} {nL' d i : Nat} {ret' : Option FieldType} {rest : List Value} {w' : zW}  {k : Nat} (hm : zMo y cc' nL' ret' 0) (hv : Cond.instanceMethod y ∈ zT ∧ Cond.selects y.cls y y ∈ zT) (hlk : Cond.methodLink own i y ∈ zT) (hci : y.cls = "java/lang/String") (hd : decode cc pc = .ok (.invokevirtual i, 3)) (hk : k < 13) (hcat : (rest.map fun v => v.category).sum ≤ 8) (hR : d + 1 ≤ B.2.2.1.frames ∧ 40 * d + 40 ≤ B.2.2.1.locals ∧ B.2.2.2.1.1 ≤ B.2.2.1.cells ∧ B.2.2.2.1.2 ≤ B.2.2.1.slots) (hrun : zRun y cc' nL' ret' d (.ref (100 + k) :: []) w (zO none w')) (kk : zWP own cc B (pc + 3) ls (.null :: rest) w') : zWP own cc B pc ls (.ref (100 + k) :: rest) w :=
  zs_callT (as := []) (rest := rest) hm hv hlk hci hd hk rfl rfl hcat hR hrun (fun _ _ h => by obtain ⟨rfl, rfl⟩ := h; exact kk)
theorem zc_T0r {y : MethodName} {cc' : ByteArray} {nL' d i : Nat} {ret' : Option FieldType} {rest : List Value} {w' : zW} {r : Nat} {k : Nat} (hm : zMo y cc' nL' ret' 0) (hv : Cond.instanceMethod y ∈ zT ∧ Cond.selects y.cls y y ∈ zT) (hlk : Cond.methodLink own i y ∈ zT) (hci : y.cls = "java/lang/String") (hd : decode cc pc = .ok (.invokevirtual i, 3)) (hk : k < 13) (hcat : (rest.map fun v => v.category).sum ≤ 8) (hR : d + 1 ≤ B.2.2.1.frames ∧ 40 * d + 40 ≤ B.2.2.1.locals ∧ B.2.2.2.1.1 ≤ B.2.2.1.cells ∧ B.2.2.2.1.2 ≤ B.2.2.1.slots) (hrun : zRun y cc' nL' ret' d (.ref (100 + k) :: []) w (zO (some r) w')) (kk : zWP own cc B (pc + 3) ls (.ref r :: rest) w') : zWP own cc B pc ls (.ref (100 + k) :: rest) w :=
  zs_callT (as := []) (rest := rest) hm hv hlk hci hd hk rfl rfl hcat hR hrun (fun _ _ h => by obtain ⟨rfl, rfl⟩ := h; exact kk)
theorem zc_T1i {y : MethodName} {cc' : ByteArray} {nL' d i : Nat} {ret' : Option FieldType} {a0 : Value} {rest : List Value} {w' : zW} {r : Int32} {k : Nat} (hm : zMo y cc' nL' ret' 1) (hv : Cond.instanceMethod y ∈ zT ∧ Cond.selects y.cls y y ∈ zT) (hlk : Cond.methodLink own i y ∈ zT) (hci : y.cls = "java/lang/String") (hd : decode cc pc = .ok (.invokevirtual i, 3)) (hk : k < 13) (hcat : (rest.map fun v => v.category).sum ≤ 8) (hR : d + 1 ≤ B.2.2.1.frames ∧ 40 * d + 40 ≤ B.2.2.1.locals ∧ B.2.2.2.1.1 ≤ B.2.2.1.cells ∧ B.2.2.2.1.2 ≤ B.2.2.1.slots) (hrun : zRun y cc' nL' ret' d (.ref (100 + k) :: [a0]) w (zI r w')) (kk : zWP own cc B (pc + 3) ls (.int r :: rest) w') : zWP own cc B pc ls (a0 :: .ref (100 + k) :: rest) w :=
  zs_callT (as := [a0]) (rest := rest) hm hv hlk hci hd hk rfl rfl hcat hR hrun (fun _ _ h => by obtain ⟨rfl, rfl⟩ := h; exact kk)
theorem zc_T1j {y : MethodName} {cc' : ByteArray} {nL' d i : Nat} {ret' : Option FieldType} {a0 : Value} {rest : List Value} {w' : zW} {r : Int64} {k : Nat} (hm : zMo y cc' nL' ret' 1) (hv : Cond.instanceMethod y ∈ zT ∧ Cond.selects y.cls y y ∈ zT) (hlk : Cond.methodLink own i y ∈ zT) (hci : y.cls = "java/lang/String") (hd : decode cc pc = .ok (.invokevirtual i, 3)) (hk : k < 13) (hcat : (rest.map fun v => v.category).sum ≤ 8) (hR : d + 1 ≤ B.2.2.1.frames ∧ 40 * d + 40 ≤ B.2.2.1.locals ∧ B.2.2.2.1.1 ≤ B.2.2.1.cells ∧ B.2.2.2.1.2 ≤ B.2.2.1.slots) (hrun : zRun y cc' nL' ret' d (.ref (100 + k) :: [a0]) w (zJ r w')) (kk : zWP own cc B (pc + 3) ls (.long r :: rest) w') : zWP own cc B pc ls (a0 :: .ref (100 + k) :: rest) w :=
  zs_callT (as := [a0]) (rest := rest) hm hv hlk hci hd hk rfl rfl hcat hR hrun (fun _ _ h => by obtain ⟨rfl, rfl⟩ := h; exact kk)
theorem zc_T1v {y : MethodName} {cc' : ByteArray} {nL' d i : Nat} {ret' : Option FieldType} {a0 : Value} {rest : List Value} {w' : zW}  {k : Nat} (hm : zMo y cc' nL' ret' 1) (hv : Cond.instanceMethod y ∈ zT ∧ Cond.selects y.cls y y ∈ zT) (hlk : Cond.methodLink own i y ∈ zT) (hci : y.cls = "java/lang/String") (hd : decode cc pc = .ok (.invokevirtual i, 3)) (hk : k < 13) (hcat : (rest.map fun v => v.category).sum ≤ 8) (hR : d + 1 ≤ B.2.2.1.frames ∧ 40 * d + 40 ≤ B.2.2.1.locals ∧ B.2.2.2.1.1 ≤ B.2.2.1.cells ∧ B.2.2.2.1.2 ≤ B.2.2.1.slots) (hrun : zRun y cc' nL' ret' d (.ref (100 + k) :: [a0]) w (zV w')) (kk : zWP own cc B (pc + 3) ls rest w') : zWP own cc B pc ls (a0 :: .ref (100 + k) :: rest) w :=
  zs_callT (as := [a0]) (rest := rest) hm hv hlk hci hd hk rfl rfl hcat hR hrun (fun _ _ h => by obtain ⟨rfl, rfl⟩ := h; exact kk)
theorem zc_T1n {y : MethodName} {cc' : ByteArray} {nL' d i : Nat} {ret' : Option FieldType} {a0 : Value} {rest : List Value} {w' : zW}  {k : Nat} (hm : zMo y cc' nL' ret' 1) (hv : Cond.instanceMethod y ∈ zT ∧ Cond.selects y.cls y y ∈ zT) (hlk : Cond.methodLink own i y ∈ zT) (hci : y.cls = "java/lang/String") (hd : decode cc pc = .ok (.invokevirtual i, 3)) (hk : k < 13) (hcat : (rest.map fun v => v.category).sum ≤ 8) (hR : d + 1 ≤ B.2.2.1.frames ∧ 40 * d + 40 ≤ B.2.2.1.locals ∧ B.2.2.2.1.1 ≤ B.2.2.1.cells ∧ B.2.2.2.1.2 ≤ B.2.2.1.slots) (hrun : zRun y cc' nL' ret' d (.ref (100 + k) :: [a0]) w (zO none w')) (kk : zWP own cc B (pc + 3) ls (.null :: rest) w') : zWP own cc B pc ls (a0 :: .ref (100 + k) :: rest) w :=
  zs_callT (as := [a0]) (rest := rest) hm hv hlk hci hd hk rfl rfl hcat hR hrun (fun _ _ h => by obtain ⟨rfl, rfl⟩ := h; exact kk)
theorem zc_T1r {y : MethodName} {cc' : ByteArray} {nL' d i : Nat} {ret' : Option FieldType} {a0 : Value} {rest : List Value} {w' : zW} {r : Nat} {k : Nat} (hm : zMo y cc' nL' ret' 1) (hv : Cond.instanceMethod y ∈ zT ∧ Cond.selects y.cls y y ∈ zT) (hlk : Cond.methodLink own i y ∈ zT) (hci : y.cls = "java/lang/String") (hd : decode cc pc = .ok (.invokevirtual i, 3)) (hk : k < 13) (hcat : (rest.map fun v => v.category).sum ≤ 8) (hR : d + 1 ≤ B.2.2.1.frames ∧ 40 * d + 40 ≤ B.2.2.1.locals ∧ B.2.2.2.1.1 ≤ B.2.2.1.cells ∧ B.2.2.2.1.2 ≤ B.2.2.1.slots) (hrun : zRun y cc' nL' ret' d (.ref (100 + k) :: [a0]) w (zO (some r) w')) (kk : zWP own cc B (pc + 3) ls (.ref r :: rest) w') : zWP own cc B pc ls (a0 :: .ref (100 + k) :: rest) w :=
  zs_callT (as := [a0]) (rest := rest) hm hv hlk hci hd hk rfl rfl hcat hR hrun (fun _ _ h => by obtain ⟨rfl, rfl⟩ := h; exact kk)
end ZC
section ZF
variable {cc : ByteArray} {B : zB} {pc : Nat} {ls : List (Option Value)} {st : List Value} {w : zW}
theorem gX5_18 {o : Nat} (ho : zIsLand o) (hd : decode cc pc = .ok (.getfield 18, 3)) (kk : zWP RX5 cc B (pc + 3) ls ((.int (w.1 o 0)) :: st) w) : zWP RX5 cc B pc ls (.ref o :: st) w := zs_get (ci := 0) (k := 0) (C := RX0) (T := TX0) (N := 15) rfl inX0 (by decide) kX5_18 rfl (za_L ho) rfl hd rfl kk
theorem pX5_18 {o : Nat} (ho : zIsLand o) {v : Int32} (hd : decode cc pc = .ok (.putfield 18, 3)) (kk : zWP RX5 cc B (pc + 3) ls st (zsf w o 0 v)) : zWP RX5 cc B pc ls (.int v :: .ref o :: st) w := zs_putI (ci := 0) (k := 0) (C := RX0) (T := TX0) (N := 15) rfl inX0 tyX0 tyX0_ok nmX0 (by decide) kX5_18 rfl rfl (za_L ho) rfl hd rfl rfl kk
theorem gX0_43 {o : Nat} (ho : zIsLand o) (hd : decode cc pc = .ok (.getfield 43, 3)) (kk : zWP RX0 cc B (pc + 3) ls ((.int (w.1 o 0)) :: st) w) : zWP RX0 cc B pc ls (.ref o :: st) w := zs_get (ci := 0) (k := 0) (C := RX0) (T := TX0) (N := 15) rfl inX0 (by decide) kX0_43 rfl (za_L ho) rfl hd rfl kk
theorem pX0_43 {o : Nat} (ho : zIsLand o) {v : Int32} (hd : decode cc pc = .ok (.putfield 43, 3)) (kk : zWP RX0 cc B (pc + 3) ls st (zsf w o 0 v)) : zWP RX0 cc B pc ls (.int v :: .ref o :: st) w := zs_putI (ci := 0) (k := 0) (C := RX0) (T := TX0) (N := 15) rfl inX0 tyX0 tyX0_ok nmX0 (by decide) kX0_43 rfl rfl (za_L ho) rfl hd rfl rfl kk
theorem gX1_113 {o : Nat} (ho : zIsLand o) (hd : decode cc pc = .ok (.getfield 113, 3)) (kk : zWP RX1 cc B (pc + 3) ls ((.int (w.1 o 0)) :: st) w) : zWP RX1 cc B pc ls (.ref o :: st) w := zs_get (ci := 0) (k := 0) (C := RX0) (T := TX0) (N := 15) rfl inX0 (by decide) kX1_113 rfl (za_L ho) rfl hd rfl kk
theorem pX1_113 {o : Nat} (ho : zIsLand o) {v : Int32} (hd : decode cc pc = .ok (.putfield 113, 3)) (kk : zWP RX1 cc B (pc + 3) ls st (zsf w o 0 v)) : zWP RX1 cc B pc ls (.int v :: .ref o :: st) w := zs_putI (ci := 0) (k := 0) (C := RX0) (T := TX0) (N := 15) rfl inX0 tyX0 tyX0_ok nmX0 (by decide) kX1_113 rfl rfl (za_L ho) rfl hd rfl rfl kk
theorem gX6_119 {o : Nat} (ho : zIsLand o) (hd : decode cc pc = .ok (.getfield 119, 3)) (kk : zWP RX6 cc B (pc + 3) ls ((.int (w.1 o 0)) :: st) w) : zWP RX6 cc B pc ls (.ref o :: st) w := zs_get (ci := 0) (k := 0) (C := RX0) (T := TX0) (N := 15) rfl inX0 (by decide) kX6_119 rfl (za_L ho) rfl hd rfl kk
theorem pX6_119 {o : Nat} (ho : zIsLand o) {v : Int32} (hd : decode cc pc = .ok (.putfield 119, 3)) (kk : zWP RX6 cc B (pc + 3) ls st (zsf w o 0 v)) : zWP RX6 cc B pc ls (.int v :: .ref o :: st) w := zs_putI (ci := 0) (k := 0) (C := RX0) (T := TX0) (N := 15) rfl inX0 tyX0 tyX0_ok nmX0 (by decide) kX6_119 rfl rfl (za_L ho) rfl hd rfl rfl kk
theorem gX0_9 {o : Nat} (ho : zIsLand o) (hd : decode cc pc = .ok (.getfield 9, 3)) (kk : zWP RX0 cc B (pc + 3) ls ((.ref (o + 1)) :: st) w) : zWP RX0 cc B pc ls (.ref o :: st) w := zs_get (ci := 0) (k := 1) (C := RX0) (T := TX0) (N := 15) rfl inX0 (by decide) kX0_9 rfl (za_L ho) rfl hd rfl kk
theorem gX0_52 {o : Nat} (ho : zIsLand o) (hd : decode cc pc = .ok (.getfield 52, 3)) (kk : zWP RX0 cc B (pc + 3) ls ((.int (w.1 o 2)) :: st) w) : zWP RX0 cc B pc ls (.ref o :: st) w := zs_get (ci := 0) (k := 2) (C := RX0) (T := TX0) (N := 15) rfl inX0 (by decide) kX0_52 rfl (za_L ho) rfl hd rfl kk
theorem pX0_52 {o : Nat} (ho : zIsLand o) {v : Int32} (hd : decode cc pc = .ok (.putfield 52, 3)) (kk : zWP RX0 cc B (pc + 3) ls st (zsf w o 2 v)) : zWP RX0 cc B pc ls (.int v :: .ref o :: st) w := zs_putI (ci := 0) (k := 2) (C := RX0) (T := TX0) (N := 15) rfl inX0 tyX0 tyX0_ok nmX0 (by decide) kX0_52 rfl rfl (za_L ho) rfl hd rfl rfl kk
theorem gX0_55 {o : Nat} (ho : zIsLand o) (hd : decode cc pc = .ok (.getfield 55, 3)) (kk : zWP RX0 cc B (pc + 3) ls ((.int (w.1 o 3)) :: st) w) : zWP RX0 cc B pc ls (.ref o :: st) w := zs_get (ci := 0) (k := 3) (C := RX0) (T := TX0) (N := 15) rfl inX0 (by decide) kX0_55 rfl (za_L ho) rfl hd rfl kk
theorem pX0_55 {o : Nat} (ho : zIsLand o) {v : Int32} (hd : decode cc pc = .ok (.putfield 55, 3)) (kk : zWP RX0 cc B (pc + 3) ls st (zsf w o 3 v)) : zWP RX0 cc B pc ls (.int v :: .ref o :: st) w := zs_putI (ci := 0) (k := 3) (C := RX0) (T := TX0) (N := 15) rfl inX0 tyX0 tyX0_ok nmX0 (by decide) kX0_55 rfl rfl (za_L ho) rfl hd rfl rfl kk
theorem gX5_60 {o : Nat} (ho : zIsLand o) (hd : decode cc pc = .ok (.getfield 60, 3)) (kk : zWP RX5 cc B (pc + 3) ls ((.int (w.1 o 3)) :: st) w) : zWP RX5 cc B pc ls (.ref o :: st) w := zs_get (ci := 0) (k := 3) (C := RX0) (T := TX0) (N := 15) rfl inX0 (by decide) kX5_60 rfl (za_L ho) rfl hd rfl kk
theorem pX5_60 {o : Nat} (ho : zIsLand o) {v : Int32} (hd : decode cc pc = .ok (.putfield 60, 3)) (kk : zWP RX5 cc B (pc + 3) ls st (zsf w o 3 v)) : zWP RX5 cc B pc ls (.int v :: .ref o :: st) w := zs_putI (ci := 0) (k := 3) (C := RX0) (T := TX0) (N := 15) rfl inX0 tyX0 tyX0_ok nmX0 (by decide) kX5_60 rfl rfl (za_L ho) rfl hd rfl rfl kk
theorem gX6_322 {o : Nat} (ho : zIsLand o) (hd : decode cc pc = .ok (.getfield 322, 3)) (kk : zWP RX6 cc B (pc + 3) ls ((.int (w.1 o 3)) :: st) w) : zWP RX6 cc B pc ls (.ref o :: st) w := zs_get (ci := 0) (k := 3) (C := RX0) (T := TX0) (N := 15) rfl inX0 (by decide) kX6_322 rfl (za_L ho) rfl hd rfl kk
theorem pX6_322 {o : Nat} (ho : zIsLand o) {v : Int32} (hd : decode cc pc = .ok (.putfield 322, 3)) (kk : zWP RX6 cc B (pc + 3) ls st (zsf w o 3 v)) : zWP RX6 cc B pc ls (.int v :: .ref o :: st) w := zs_putI (ci := 0) (k := 3) (C := RX0) (T := TX0) (N := 15) rfl inX0 tyX0 tyX0_ok nmX0 (by decide) kX6_322 rfl rfl (za_L ho) rfl hd rfl rfl kk
theorem gX0_15 {o : Nat} (ho : zIsLand o) (hd : decode cc pc = .ok (.getfield 15, 3)) (kk : zWP RX0 cc B (pc + 3) ls ((.ref (o + 2)) :: st) w) : zWP RX0 cc B pc ls (.ref o :: st) w := zs_get (ci := 0) (k := 4) (C := RX0) (T := TX0) (N := 15) rfl inX0 (by decide) kX0_15 rfl (za_L ho) rfl hd rfl kk
theorem gX5_71 {o : Nat} (ho : zIsLand o) (hd : decode cc pc = .ok (.getfield 71, 3)) (kk : zWP RX5 cc B (pc + 3) ls ((.ref (o + 2)) :: st) w) : zWP RX5 cc B pc ls (.ref o :: st) w := zs_get (ci := 0) (k := 4) (C := RX0) (T := TX0) (N := 15) rfl inX0 (by decide) kX5_71 rfl (za_L ho) rfl hd rfl kk
theorem gX6_106 {o : Nat} (ho : zIsLand o) (hd : decode cc pc = .ok (.getfield 106, 3)) (kk : zWP RX6 cc B (pc + 3) ls ((.ref (o + 2)) :: st) w) : zWP RX6 cc B pc ls (.ref o :: st) w := zs_get (ci := 0) (k := 4) (C := RX0) (T := TX0) (N := 15) rfl inX0 (by decide) kX6_106 rfl (za_L ho) rfl hd rfl kk
theorem gX0_18 {o : Nat} (ho : zIsLand o) (hd : decode cc pc = .ok (.getfield 18, 3)) (kk : zWP RX0 cc B (pc + 3) ls ((.ref (o + 3)) :: st) w) : zWP RX0 cc B pc ls (.ref o :: st) w := zs_get (ci := 0) (k := 5) (C := RX0) (T := TX0) (N := 15) rfl inX0 (by decide) kX0_18 rfl (za_L ho) rfl hd rfl kk
theorem gX5_74 {o : Nat} (ho : zIsLand o) (hd : decode cc pc = .ok (.getfield 74, 3)) (kk : zWP RX5 cc B (pc + 3) ls ((.ref (o + 3)) :: st) w) : zWP RX5 cc B pc ls (.ref o :: st) w := zs_get (ci := 0) (k := 5) (C := RX0) (T := TX0) (N := 15) rfl inX0 (by decide) kX5_74 rfl (za_L ho) rfl hd rfl kk
theorem gX6_109 {o : Nat} (ho : zIsLand o) (hd : decode cc pc = .ok (.getfield 109, 3)) (kk : zWP RX6 cc B (pc + 3) ls ((.ref (o + 3)) :: st) w) : zWP RX6 cc B pc ls (.ref o :: st) w := zs_get (ci := 0) (k := 5) (C := RX0) (T := TX0) (N := 15) rfl inX0 (by decide) kX6_109 rfl (za_L ho) rfl hd rfl kk
theorem gX0_21 {o : Nat} (ho : zIsLand o) (hd : decode cc pc = .ok (.getfield 21, 3)) (kk : zWP RX0 cc B (pc + 3) ls ((.ref (o + 4)) :: st) w) : zWP RX0 cc B pc ls (.ref o :: st) w := zs_get (ci := 0) (k := 6) (C := RX0) (T := TX0) (N := 15) rfl inX0 (by decide) kX0_21 rfl (za_L ho) rfl hd rfl kk
theorem gX5_63 {o : Nat} (ho : zIsLand o) (hd : decode cc pc = .ok (.getfield 63, 3)) (kk : zWP RX5 cc B (pc + 3) ls ((.ref (o + 4)) :: st) w) : zWP RX5 cc B pc ls (.ref o :: st) w := zs_get (ci := 0) (k := 6) (C := RX0) (T := TX0) (N := 15) rfl inX0 (by decide) kX5_63 rfl (za_L ho) rfl hd rfl kk
theorem gX6_112 {o : Nat} (ho : zIsLand o) (hd : decode cc pc = .ok (.getfield 112, 3)) (kk : zWP RX6 cc B (pc + 3) ls ((.ref (o + 4)) :: st) w) : zWP RX6 cc B pc ls (.ref o :: st) w := zs_get (ci := 0) (k := 6) (C := RX0) (T := TX0) (N := 15) rfl inX0 (by decide) kX6_112 rfl (za_L ho) rfl hd rfl kk
theorem gX0_24 {o : Nat} (ho : zIsLand o) (hd : decode cc pc = .ok (.getfield 24, 3)) (kk : zWP RX0 cc B (pc + 3) ls ((.int (w.1 o 7)) :: st) w) : zWP RX0 cc B pc ls (.ref o :: st) w := zs_get (ci := 0) (k := 7) (C := RX0) (T := TX0) (N := 15) rfl inX0 (by decide) kX0_24 rfl (za_L ho) rfl hd rfl kk
theorem pX0_24 {o : Nat} (ho : zIsLand o) {v : Int32} (hd : decode cc pc = .ok (.putfield 24, 3)) (kk : zWP RX0 cc B (pc + 3) ls st (zsf w o 7 v)) : zWP RX0 cc B pc ls (.int v :: .ref o :: st) w := zs_putI (ci := 0) (k := 7) (C := RX0) (T := TX0) (N := 15) rfl inX0 tyX0 tyX0_ok nmX0 (by decide) kX0_24 rfl rfl (za_L ho) rfl hd rfl rfl kk
theorem gX5_44 {o : Nat} (ho : zIsLand o) (hd : decode cc pc = .ok (.getfield 44, 3)) (kk : zWP RX5 cc B (pc + 3) ls ((.int (w.1 o 7)) :: st) w) : zWP RX5 cc B pc ls (.ref o :: st) w := zs_get (ci := 0) (k := 7) (C := RX0) (T := TX0) (N := 15) rfl inX0 (by decide) kX5_44 rfl (za_L ho) rfl hd rfl kk
theorem pX5_44 {o : Nat} (ho : zIsLand o) {v : Int32} (hd : decode cc pc = .ok (.putfield 44, 3)) (kk : zWP RX5 cc B (pc + 3) ls st (zsf w o 7 v)) : zWP RX5 cc B pc ls (.int v :: .ref o :: st) w := zs_putI (ci := 0) (k := 7) (C := RX0) (T := TX0) (N := 15) rfl inX0 tyX0 tyX0_ok nmX0 (by decide) kX5_44 rfl rfl (za_L ho) rfl hd rfl rfl kk
theorem gX1_105 {o : Nat} (ho : zIsLand o) (hd : decode cc pc = .ok (.getfield 105, 3)) (kk : zWP RX1 cc B (pc + 3) ls ((.int (w.1 o 7)) :: st) w) : zWP RX1 cc B pc ls (.ref o :: st) w := zs_get (ci := 0) (k := 7) (C := RX0) (T := TX0) (N := 15) rfl inX0 (by decide) kX1_105 rfl (za_L ho) rfl hd rfl kk
theorem pX1_105 {o : Nat} (ho : zIsLand o) {v : Int32} (hd : decode cc pc = .ok (.putfield 105, 3)) (kk : zWP RX1 cc B (pc + 3) ls st (zsf w o 7 v)) : zWP RX1 cc B pc ls (.int v :: .ref o :: st) w := zs_putI (ci := 0) (k := 7) (C := RX0) (T := TX0) (N := 15) rfl inX0 tyX0 tyX0_ok nmX0 (by decide) kX1_105 rfl rfl (za_L ho) rfl hd rfl rfl kk
theorem gX6_115 {o : Nat} (ho : zIsLand o) (hd : decode cc pc = .ok (.getfield 115, 3)) (kk : zWP RX6 cc B (pc + 3) ls ((.int (w.1 o 7)) :: st) w) : zWP RX6 cc B pc ls (.ref o :: st) w := zs_get (ci := 0) (k := 7) (C := RX0) (T := TX0) (N := 15) rfl inX0 (by decide) kX6_115 rfl (za_L ho) rfl hd rfl kk
theorem pX6_115 {o : Nat} (ho : zIsLand o) {v : Int32} (hd : decode cc pc = .ok (.putfield 115, 3)) (kk : zWP RX6 cc B (pc + 3) ls st (zsf w o 7 v)) : zWP RX6 cc B pc ls (.int v :: .ref o :: st) w := zs_putI (ci := 0) (k := 7) (C := RX0) (T := TX0) (N := 15) rfl inX0 tyX0 tyX0_ok nmX0 (by decide) kX6_115 rfl rfl (za_L ho) rfl hd rfl rfl kk
theorem gX0_58 {o : Nat} (ho : zIsLand o) (hd : decode cc pc = .ok (.getfield 58, 3)) (kk : zWP RX0 cc B (pc + 3) ls ((.int (w.1 o 8)) :: st) w) : zWP RX0 cc B pc ls (.ref o :: st) w := zs_get (ci := 0) (k := 8) (C := RX0) (T := TX0) (N := 15) rfl inX0 (by decide) kX0_58 rfl (za_L ho) rfl hd rfl kk
theorem pX0_58 {o : Nat} (ho : zIsLand o) {v : Int32} (hd : decode cc pc = .ok (.putfield 58, 3)) (kk : zWP RX0 cc B (pc + 3) ls st (zsf w o 8 v)) : zWP RX0 cc B pc ls (.int v :: .ref o :: st) w := zs_putI (ci := 0) (k := 8) (C := RX0) (T := TX0) (N := 15) rfl inX0 tyX0 tyX0_ok nmX0 (by decide) kX0_58 rfl rfl (za_L ho) rfl hd rfl rfl kk
theorem gX6_150 {o : Nat} (ho : zIsLand o) (hd : decode cc pc = .ok (.getfield 150, 3)) (kk : zWP RX6 cc B (pc + 3) ls ((.int (w.1 o 8)) :: st) w) : zWP RX6 cc B pc ls (.ref o :: st) w := zs_get (ci := 0) (k := 8) (C := RX0) (T := TX0) (N := 15) rfl inX0 (by decide) kX6_150 rfl (za_L ho) rfl hd rfl kk
theorem pX6_150 {o : Nat} (ho : zIsLand o) {v : Int32} (hd : decode cc pc = .ok (.putfield 150, 3)) (kk : zWP RX6 cc B (pc + 3) ls st (zsf w o 8 v)) : zWP RX6 cc B pc ls (.int v :: .ref o :: st) w := zs_putI (ci := 0) (k := 8) (C := RX0) (T := TX0) (N := 15) rfl inX0 tyX0 tyX0_ok nmX0 (by decide) kX6_150 rfl rfl (za_L ho) rfl hd rfl rfl kk
theorem gX0_61 {o : Nat} (ho : zIsLand o) (hd : decode cc pc = .ok (.getfield 61, 3)) (kk : zWP RX0 cc B (pc + 3) ls ((.int (w.1 o 9)) :: st) w) : zWP RX0 cc B pc ls (.ref o :: st) w := zs_get (ci := 0) (k := 9) (C := RX0) (T := TX0) (N := 15) rfl inX0 (by decide) kX0_61 rfl (za_L ho) rfl hd rfl kk
theorem pX0_61 {o : Nat} (ho : zIsLand o) {v : Int32} (hd : decode cc pc = .ok (.putfield 61, 3)) (kk : zWP RX0 cc B (pc + 3) ls st (zsf w o 9 v)) : zWP RX0 cc B pc ls (.int v :: .ref o :: st) w := zs_putI (ci := 0) (k := 9) (C := RX0) (T := TX0) (N := 15) rfl inX0 tyX0 tyX0_ok nmX0 (by decide) kX0_61 rfl rfl (za_L ho) rfl hd rfl rfl kk
theorem gX6_231 {o : Nat} (ho : zIsLand o) (hd : decode cc pc = .ok (.getfield 231, 3)) (kk : zWP RX6 cc B (pc + 3) ls ((.int (w.1 o 9)) :: st) w) : zWP RX6 cc B pc ls (.ref o :: st) w := zs_get (ci := 0) (k := 9) (C := RX0) (T := TX0) (N := 15) rfl inX0 (by decide) kX6_231 rfl (za_L ho) rfl hd rfl kk
theorem pX6_231 {o : Nat} (ho : zIsLand o) {v : Int32} (hd : decode cc pc = .ok (.putfield 231, 3)) (kk : zWP RX6 cc B (pc + 3) ls st (zsf w o 9 v)) : zWP RX6 cc B pc ls (.int v :: .ref o :: st) w := zs_putI (ci := 0) (k := 9) (C := RX0) (T := TX0) (N := 15) rfl inX0 tyX0 tyX0_ok nmX0 (by decide) kX6_231 rfl rfl (za_L ho) rfl hd rfl rfl kk
theorem gX0_28 {o : Nat} (ho : zIsLand o) (hd : decode cc pc = .ok (.getfield 28, 3)) (kk : zWP RX0 cc B (pc + 3) ls ((.ref (o + 5)) :: st) w) : zWP RX0 cc B pc ls (.ref o :: st) w := zs_get (ci := 0) (k := 10) (C := RX0) (T := TX0) (N := 15) rfl inX0 (by decide) kX0_28 rfl (za_L ho) rfl hd rfl kk
theorem gX6_199 {o : Nat} (ho : zIsLand o) (hd : decode cc pc = .ok (.getfield 199, 3)) (kk : zWP RX6 cc B (pc + 3) ls ((.ref (o + 5)) :: st) w) : zWP RX6 cc B pc ls (.ref o :: st) w := zs_get (ci := 0) (k := 10) (C := RX0) (T := TX0) (N := 15) rfl inX0 (by decide) kX6_199 rfl (za_L ho) rfl hd rfl kk
theorem gX0_31 {o : Nat} (ho : zIsLand o) (hd : decode cc pc = .ok (.getfield 31, 3)) (kk : zWP RX0 cc B (pc + 3) ls ((.ref (o + 6)) :: st) w) : zWP RX0 cc B pc ls (.ref o :: st) w := zs_get (ci := 0) (k := 11) (C := RX0) (T := TX0) (N := 15) rfl inX0 (by decide) kX0_31 rfl (za_L ho) rfl hd rfl kk
theorem gX6_202 {o : Nat} (ho : zIsLand o) (hd : decode cc pc = .ok (.getfield 202, 3)) (kk : zWP RX6 cc B (pc + 3) ls ((.ref (o + 6)) :: st) w) : zWP RX6 cc B pc ls (.ref o :: st) w := zs_get (ci := 0) (k := 11) (C := RX0) (T := TX0) (N := 15) rfl inX0 (by decide) kX6_202 rfl (za_L ho) rfl hd rfl kk
theorem gX0_34 {o : Nat} (ho : zIsLand o) (hd : decode cc pc = .ok (.getfield 34, 3)) (kk : zWP RX0 cc B (pc + 3) ls ((.ref (o + 7)) :: st) w) : zWP RX0 cc B pc ls (.ref o :: st) w := zs_get (ci := 0) (k := 12) (C := RX0) (T := TX0) (N := 15) rfl inX0 (by decide) kX0_34 rfl (za_L ho) rfl hd rfl kk
theorem gX6_205 {o : Nat} (ho : zIsLand o) (hd : decode cc pc = .ok (.getfield 205, 3)) (kk : zWP RX6 cc B (pc + 3) ls ((.ref (o + 7)) :: st) w) : zWP RX6 cc B pc ls (.ref o :: st) w := zs_get (ci := 0) (k := 12) (C := RX0) (T := TX0) (N := 15) rfl inX0 (by decide) kX6_205 rfl (za_L ho) rfl hd rfl kk
theorem gX0_37 {o : Nat} (ho : zIsLand o) (hd : decode cc pc = .ok (.getfield 37, 3)) (kk : zWP RX0 cc B (pc + 3) ls ((.ref (o + 8)) :: st) w) : zWP RX0 cc B pc ls (.ref o :: st) w := zs_get (ci := 0) (k := 13) (C := RX0) (T := TX0) (N := 15) rfl inX0 (by decide) kX0_37 rfl (za_L ho) rfl hd rfl kk
theorem gX6_208 {o : Nat} (ho : zIsLand o) (hd : decode cc pc = .ok (.getfield 208, 3)) (kk : zWP RX6 cc B (pc + 3) ls ((.ref (o + 8)) :: st) w) : zWP RX6 cc B pc ls (.ref o :: st) w := zs_get (ci := 0) (k := 13) (C := RX0) (T := TX0) (N := 15) rfl inX0 (by decide) kX6_208 rfl (za_L ho) rfl hd rfl kk
theorem gX0_40 {o : Nat} (ho : zIsLand o) (hd : decode cc pc = .ok (.getfield 40, 3)) (kk : zWP RX0 cc B (pc + 3) ls ((.ref (o + 9)) :: st) w) : zWP RX0 cc B pc ls (.ref o :: st) w := zs_get (ci := 0) (k := 14) (C := RX0) (T := TX0) (N := 15) rfl inX0 (by decide) kX0_40 rfl (za_L ho) rfl hd rfl kk
theorem gX6_211 {o : Nat} (ho : zIsLand o) (hd : decode cc pc = .ok (.getfield 211, 3)) (kk : zWP RX6 cc B (pc + 3) ls ((.ref (o + 9)) :: st) w) : zWP RX6 cc B pc ls (.ref o :: st) w := zs_get (ci := 0) (k := 14) (C := RX0) (T := TX0) (N := 15) rfl inX0 (by decide) kX6_211 rfl (za_L ho) rfl hd rfl kk
theorem gX5_9 (hd : decode cc pc = .ok (.getfield 9, 3)) (kk : zWP RX5 cc B (pc + 3) ls ((.ref 41) :: st) w) : zWP RX5 cc B pc ls (.ref 40 :: st) w := zs_get (ci := 3) (k := 0) (C := RX5) (T := TX5) (N := 9) rfl inX5 (by decide) kX5_9 rfl za_40 rfl hd rfl kk
theorem gX5_15 (hd : decode cc pc = .ok (.getfield 15, 3)) (kk : zWP RX5 cc B (pc + 3) ls ((.ref 42) :: st) w) : zWP RX5 cc B pc ls (.ref 40 :: st) w := zs_get (ci := 3) (k := 1) (C := RX5) (T := TX5) (N := 9) rfl inX5 (by decide) kX5_15 rfl za_40 rfl hd rfl kk
theorem gX5_30 (hd : decode cc pc = .ok (.getfield 30, 3)) (kk : zWP RX5 cc B (pc + 3) ls ((.int (w.1 40 2)) :: st) w) : zWP RX5 cc B pc ls (.ref 40 :: st) w := zs_get (ci := 3) (k := 2) (C := RX5) (T := TX5) (N := 9) rfl inX5 (by decide) kX5_30 rfl za_40 rfl hd rfl kk
theorem pX5_30 {v : Int32} (hd : decode cc pc = .ok (.putfield 30, 3)) (kk : zWP RX5 cc B (pc + 3) ls st (zsf w 40 2 v)) : zWP RX5 cc B pc ls (.int v :: .ref 40 :: st) w := zs_putI (ci := 3) (k := 2) (C := RX5) (T := TX5) (N := 9) rfl inX5 tyX5 tyX5_ok nmX5 (by decide) kX5_30 rfl rfl za_40 rfl hd rfl rfl kk
theorem gX5_35 (hd : decode cc pc = .ok (.getfield 35, 3)) (kk : zWP RX5 cc B (pc + 3) ls ((.int (w.1 40 3)) :: st) w) : zWP RX5 cc B pc ls (.ref 40 :: st) w := zs_get (ci := 3) (k := 3) (C := RX5) (T := TX5) (N := 9) rfl inX5 (by decide) kX5_35 rfl za_40 rfl hd rfl kk
theorem pX5_35 {v : Int32} (hd : decode cc pc = .ok (.putfield 35, 3)) (kk : zWP RX5 cc B (pc + 3) ls st (zsf w 40 3 v)) : zWP RX5 cc B pc ls (.int v :: .ref 40 :: st) w := zs_putI (ci := 3) (k := 3) (C := RX5) (T := TX5) (N := 9) rfl inX5 tyX5 tyX5_ok nmX5 (by decide) kX5_35 rfl rfl za_40 rfl hd rfl rfl kk
theorem gX5_41 (hd : decode cc pc = .ok (.getfield 41, 3)) (kk : zWP RX5 cc B (pc + 3) ls ((.int (w.1 40 4)) :: st) w) : zWP RX5 cc B pc ls (.ref 40 :: st) w := zs_get (ci := 3) (k := 4) (C := RX5) (T := TX5) (N := 9) rfl inX5 (by decide) kX5_41 rfl za_40 rfl hd rfl kk
theorem pX5_41 {v : Int32} (hd : decode cc pc = .ok (.putfield 41, 3)) (kk : zWP RX5 cc B (pc + 3) ls st (zsf w 40 4 v)) : zWP RX5 cc B pc ls (.int v :: .ref 40 :: st) w := zs_putI (ci := 3) (k := 4) (C := RX5) (T := TX5) (N := 9) rfl inX5 tyX5 tyX5_ok nmX5 (by decide) kX5_41 rfl rfl za_40 rfl hd rfl rfl kk
theorem gX5_50 (hd : decode cc pc = .ok (.getfield 50, 3)) (kk : zWP RX5 cc B (pc + 3) ls ((.int (w.1 40 5)) :: st) w) : zWP RX5 cc B pc ls (.ref 40 :: st) w := zs_get (ci := 3) (k := 5) (C := RX5) (T := TX5) (N := 9) rfl inX5 (by decide) kX5_50 rfl za_40 rfl hd rfl kk
theorem pX5_50 {v : Int32} (hd : decode cc pc = .ok (.putfield 50, 3)) (kk : zWP RX5 cc B (pc + 3) ls st (zsf w 40 5 v)) : zWP RX5 cc B pc ls (.int v :: .ref 40 :: st) w := zs_putI (ci := 3) (k := 5) (C := RX5) (T := TX5) (N := 9) rfl inX5 tyX5 tyX5_ok nmX5 (by decide) kX5_50 rfl rfl za_40 rfl hd rfl rfl kk
theorem gX5_55 (hd : decode cc pc = .ok (.getfield 55, 3)) (kk : zWP RX5 cc B (pc + 3) ls ((.int (w.1 40 6)) :: st) w) : zWP RX5 cc B pc ls (.ref 40 :: st) w := zs_get (ci := 3) (k := 6) (C := RX5) (T := TX5) (N := 9) rfl inX5 (by decide) kX5_55 rfl za_40 rfl hd rfl kk
theorem pX5_55 {v : Int32} (hb : v = 0 ∨ v = 1) (hd : decode cc pc = .ok (.putfield 55, 3)) (kk : zWP RX5 cc B (pc + 3) ls st (zsf w 40 6 v)) : zWP RX5 cc B pc ls (.int v :: .ref 40 :: st) w := zs_putI (ci := 3) (k := 6) (C := RX5) (T := TX5) (N := 9) rfl inX5 tyX5 tyX5_ok nmX5 (by decide) kX5_55 rfl rfl za_40 rfl hd (by rcases hb with rfl | rfl <;> rfl) (by rcases hb with rfl | rfl <;> rfl) kk
theorem gX5_125 (hd : decode cc pc = .ok (.getfield 125, 3)) (kk : zWP RX5 cc B (pc + 3) ls ((.int (w.1 40 7)) :: st) w) : zWP RX5 cc B pc ls (.ref 40 :: st) w := zs_get (ci := 3) (k := 7) (C := RX5) (T := TX5) (N := 9) rfl inX5 (by decide) kX5_125 rfl za_40 rfl hd rfl kk
theorem pX5_125 {v : Int32} (hd : decode cc pc = .ok (.putfield 125, 3)) (kk : zWP RX5 cc B (pc + 3) ls st (zsf w 40 7 v)) : zWP RX5 cc B pc ls (.int v :: .ref 40 :: st) w := zs_putI (ci := 3) (k := 7) (C := RX5) (T := TX5) (N := 9) rfl inX5 tyX5 tyX5_ok nmX5 (by decide) kX5_125 rfl rfl za_40 rfl hd rfl rfl kk
theorem gX6_225 (hd : decode cc pc = .ok (.getfield 225, 3)) (kk : zWP RX6 cc B (pc + 3) ls ((.int (w.1 40 7)) :: st) w) : zWP RX6 cc B pc ls (.ref 40 :: st) w := zs_get (ci := 3) (k := 7) (C := RX5) (T := TX5) (N := 9) rfl inX5 (by decide) kX6_225 rfl za_40 rfl hd rfl kk
theorem pX6_225 {v : Int32} (hd : decode cc pc = .ok (.putfield 225, 3)) (kk : zWP RX6 cc B (pc + 3) ls st (zsf w 40 7 v)) : zWP RX6 cc B pc ls (.int v :: .ref 40 :: st) w := zs_putI (ci := 3) (k := 7) (C := RX5) (T := TX5) (N := 9) rfl inX5 tyX5 tyX5_ok nmX5 (by decide) kX6_225 rfl rfl za_40 rfl hd rfl rfl kk
theorem gX0_124 (hd : decode cc pc = .ok (.getfield 124, 3)) (kk : zWP RX0 cc B (pc + 3) ls ((.int (w.1 40 7)) :: st) w) : zWP RX0 cc B pc ls (.ref 40 :: st) w := zs_get (ci := 3) (k := 7) (C := RX5) (T := TX5) (N := 9) rfl inX5 (by decide) kX0_124 rfl za_40 rfl hd rfl kk
theorem pX0_124 {v : Int32} (hd : decode cc pc = .ok (.putfield 124, 3)) (kk : zWP RX0 cc B (pc + 3) ls st (zsf w 40 7 v)) : zWP RX0 cc B pc ls (.int v :: .ref 40 :: st) w := zs_putI (ci := 3) (k := 7) (C := RX5) (T := TX5) (N := 9) rfl inX5 tyX5 tyX5_ok nmX5 (by decide) kX0_124 rfl rfl za_40 rfl hd rfl rfl kk
theorem gX5_128 (hd : decode cc pc = .ok (.getfield 128, 3)) (kk : zWP RX5 cc B (pc + 3) ls ((.int (w.1 40 8)) :: st) w) : zWP RX5 cc B pc ls (.ref 40 :: st) w := zs_get (ci := 3) (k := 8) (C := RX5) (T := TX5) (N := 9) rfl inX5 (by decide) kX5_128 rfl za_40 rfl hd rfl kk
theorem pX5_128 {v : Int32} (hd : decode cc pc = .ok (.putfield 128, 3)) (kk : zWP RX5 cc B (pc + 3) ls st (zsf w 40 8 v)) : zWP RX5 cc B pc ls (.int v :: .ref 40 :: st) w := zs_putI (ci := 3) (k := 8) (C := RX5) (T := TX5) (N := 9) rfl inX5 tyX5 tyX5_ok nmX5 (by decide) kX5_128 rfl rfl za_40 rfl hd rfl rfl kk
theorem gX0_127 (hd : decode cc pc = .ok (.getfield 127, 3)) (kk : zWP RX0 cc B (pc + 3) ls ((.int (w.1 40 8)) :: st) w) : zWP RX0 cc B pc ls (.ref 40 :: st) w := zs_get (ci := 3) (k := 8) (C := RX5) (T := TX5) (N := 9) rfl inX5 (by decide) kX0_127 rfl za_40 rfl hd rfl kk
theorem pX0_127 {v : Int32} (hd : decode cc pc = .ok (.putfield 127, 3)) (kk : zWP RX0 cc B (pc + 3) ls st (zsf w 40 8 v)) : zWP RX0 cc B pc ls (.int v :: .ref 40 :: st) w := zs_putI (ci := 3) (k := 8) (C := RX5) (T := TX5) (N := 9) rfl inX5 tyX5 tyX5_ok nmX5 (by decide) kX0_127 rfl rfl za_40 rfl hd rfl rfl kk
theorem gX4_9 (hd : decode cc pc = .ok (.getfield 9, 3)) (kk : zWP RX4 cc B (pc + 3) ls ((.ref 44) :: st) w) : zWP RX4 cc B pc ls (.ref 43 :: st) w := zs_get (ci := 2) (k := 0) (C := RX4) (T := TX4) (N := 6) rfl inX4 (by decide) kX4_9 rfl za_43 rfl hd rfl kk
theorem gX4_15 (hd : decode cc pc = .ok (.getfield 15, 3)) (kk : zWP RX4 cc B (pc + 3) ls ((.int (w.1 43 1)) :: st) w) : zWP RX4 cc B pc ls (.ref 43 :: st) w := zs_get (ci := 2) (k := 1) (C := RX4) (T := TX4) (N := 6) rfl inX4 (by decide) kX4_15 rfl za_43 rfl hd rfl kk
theorem pX4_15 {v : Int32} (hd : decode cc pc = .ok (.putfield 15, 3)) (kk : zWP RX4 cc B (pc + 3) ls st (zsf w 43 1 v)) : zWP RX4 cc B pc ls (.int v :: .ref 43 :: st) w := zs_putI (ci := 2) (k := 1) (C := RX4) (T := TX4) (N := 6) rfl inX4 tyX4 tyX4_ok nmX4 (by decide) kX4_15 rfl rfl za_43 rfl hd rfl rfl kk
theorem gX6_248 (hd : decode cc pc = .ok (.getfield 248, 3)) (kk : zWP RX6 cc B (pc + 3) ls ((.int (w.1 43 1)) :: st) w) : zWP RX6 cc B pc ls (.ref 43 :: st) w := zs_get (ci := 2) (k := 1) (C := RX4) (T := TX4) (N := 6) rfl inX4 (by decide) kX6_248 rfl za_43 rfl hd rfl kk
theorem pX6_248 {v : Int32} (hd : decode cc pc = .ok (.putfield 248, 3)) (kk : zWP RX6 cc B (pc + 3) ls st (zsf w 43 1 v)) : zWP RX6 cc B pc ls (.int v :: .ref 43 :: st) w := zs_putI (ci := 2) (k := 1) (C := RX4) (T := TX4) (N := 6) rfl inX4 tyX4 tyX4_ok nmX4 (by decide) kX6_248 rfl rfl za_43 rfl hd rfl rfl kk
theorem gX1_20 (hd : decode cc pc = .ok (.getfield 20, 3)) (kk : zWP RX1 cc B (pc + 3) ls ((.int (w.1 43 2)) :: st) w) : zWP RX1 cc B pc ls (.ref 43 :: st) w := zs_get (ci := 2) (k := 2) (C := RX4) (T := TX4) (N := 6) rfl inX4 (by decide) kX1_20 rfl za_43 rfl hd rfl kk
theorem pX1_20 {v : Int32} (hd : decode cc pc = .ok (.putfield 20, 3)) (kk : zWP RX1 cc B (pc + 3) ls st (zsf w 43 2 v)) : zWP RX1 cc B pc ls (.int v :: .ref 43 :: st) w := zs_putI (ci := 2) (k := 2) (C := RX4) (T := TX4) (N := 6) rfl inX4 tyX4 tyX4_ok nmX4 (by decide) kX1_20 rfl rfl za_43 rfl hd rfl rfl kk
theorem gX4_25 (hd : decode cc pc = .ok (.getfield 25, 3)) (kk : zWP RX4 cc B (pc + 3) ls ((.int (w.1 43 2)) :: st) w) : zWP RX4 cc B pc ls (.ref 43 :: st) w := zs_get (ci := 2) (k := 2) (C := RX4) (T := TX4) (N := 6) rfl inX4 (by decide) kX4_25 rfl za_43 rfl hd rfl kk
theorem pX4_25 {v : Int32} (hd : decode cc pc = .ok (.putfield 25, 3)) (kk : zWP RX4 cc B (pc + 3) ls st (zsf w 43 2 v)) : zWP RX4 cc B pc ls (.int v :: .ref 43 :: st) w := zs_putI (ci := 2) (k := 2) (C := RX4) (T := TX4) (N := 6) rfl inX4 tyX4 tyX4_ok nmX4 (by decide) kX4_25 rfl rfl za_43 rfl hd rfl rfl kk
theorem gX4_19 (hd : decode cc pc = .ok (.getfield 19, 3)) (kk : zWP RX4 cc B (pc + 3) ls ((.int (w.1 43 3)) :: st) w) : zWP RX4 cc B pc ls (.ref 43 :: st) w := zs_get (ci := 2) (k := 3) (C := RX4) (T := TX4) (N := 6) rfl inX4 (by decide) kX4_19 rfl za_43 rfl hd rfl kk
theorem pX4_19 {v : Int32} (hd : decode cc pc = .ok (.putfield 19, 3)) (kk : zWP RX4 cc B (pc + 3) ls st (zsf w 43 3 v)) : zWP RX4 cc B pc ls (.int v :: .ref 43 :: st) w := zs_putI (ci := 2) (k := 3) (C := RX4) (T := TX4) (N := 6) rfl inX4 tyX4 tyX4_ok nmX4 (by decide) kX4_19 rfl rfl za_43 rfl hd rfl rfl kk
theorem gX4_35 (hd : decode cc pc = .ok (.getfield 35, 3)) (kk : zWP RX4 cc B (pc + 3) ls ((.int (w.1 43 4)) :: st) w) : zWP RX4 cc B pc ls (.ref 43 :: st) w := zs_get (ci := 2) (k := 4) (C := RX4) (T := TX4) (N := 6) rfl inX4 (by decide) kX4_35 rfl za_43 rfl hd rfl kk
theorem pX4_35 {v : Int32} (hd : decode cc pc = .ok (.putfield 35, 3)) (kk : zWP RX4 cc B (pc + 3) ls st (zsf w 43 4 v)) : zWP RX4 cc B pc ls (.int v :: .ref 43 :: st) w := zs_putI (ci := 2) (k := 4) (C := RX4) (T := TX4) (N := 6) rfl inX4 tyX4 tyX4_ok nmX4 (by decide) kX4_35 rfl rfl za_43 rfl hd rfl rfl kk
theorem gX1_75 (hd : decode cc pc = .ok (.getfield 75, 3)) (kk : zWP RX1 cc B (pc + 3) ls ((.int (w.1 43 5)) :: st) w) : zWP RX1 cc B pc ls (.ref 43 :: st) w := zs_get (ci := 2) (k := 5) (C := RX4) (T := TX4) (N := 6) rfl inX4 (by decide) kX1_75 rfl za_43 rfl hd rfl kk
theorem pX1_75 {v : Int32} (hd : decode cc pc = .ok (.putfield 75, 3)) (kk : zWP RX1 cc B (pc + 3) ls st (zsf w 43 5 v)) : zWP RX1 cc B pc ls (.int v :: .ref 43 :: st) w := zs_putI (ci := 2) (k := 5) (C := RX4) (T := TX4) (N := 6) rfl inX4 tyX4 tyX4_ok nmX4 (by decide) kX1_75 rfl rfl za_43 rfl hd rfl rfl kk
theorem gX4_44 (hd : decode cc pc = .ok (.getfield 44, 3)) (kk : zWP RX4 cc B (pc + 3) ls ((.int (w.1 43 5)) :: st) w) : zWP RX4 cc B pc ls (.ref 43 :: st) w := zs_get (ci := 2) (k := 5) (C := RX4) (T := TX4) (N := 6) rfl inX4 (by decide) kX4_44 rfl za_43 rfl hd rfl kk
theorem pX4_44 {v : Int32} (hd : decode cc pc = .ok (.putfield 44, 3)) (kk : zWP RX4 cc B (pc + 3) ls st (zsf w 43 5 v)) : zWP RX4 cc B pc ls (.int v :: .ref 43 :: st) w := zs_putI (ci := 2) (k := 5) (C := RX4) (T := TX4) (N := 6) rfl inX4 tyX4 tyX4_ok nmX4 (by decide) kX4_44 rfl rfl za_43 rfl hd rfl rfl kk
theorem gX3_15 {o : Nat} (ho : zIsSheet o) (hd : decode cc pc = .ok (.getfield 15, 3)) (kk : zWP RX3 cc B (pc + 3) ls ((.int (w.1 o 0)) :: st) w) : zWP RX3 cc B pc ls (.ref o :: st) w := zs_get (ci := 1) (k := 0) (C := RX3) (T := TX3) (N := 3) rfl inX3 (by decide) kX3_15 rfl (za_S ho) rfl hd rfl kk
theorem pX3_15 {o : Nat} (ho : zIsSheet o) {v : Int32} (hd : decode cc pc = .ok (.putfield 15, 3)) (kk : zWP RX3 cc B (pc + 3) ls st (zsf w o 0 v)) : zWP RX3 cc B pc ls (.int v :: .ref o :: st) w := zs_putI (ci := 1) (k := 0) (C := RX3) (T := TX3) (N := 3) rfl inX3 tyX3 tyX3_ok nmX3 (by decide) kX3_15 rfl rfl (za_S ho) rfl hd rfl rfl kk
theorem gX6_290 {o : Nat} (ho : zIsSheet o) (hd : decode cc pc = .ok (.getfield 290, 3)) (kk : zWP RX6 cc B (pc + 3) ls ((.int (w.1 o 0)) :: st) w) : zWP RX6 cc B pc ls (.ref o :: st) w := zs_get (ci := 1) (k := 0) (C := RX3) (T := TX3) (N := 3) rfl inX3 (by decide) kX6_290 rfl (za_S ho) rfl hd rfl kk
theorem pX6_290 {o : Nat} (ho : zIsSheet o) {v : Int32} (hd : decode cc pc = .ok (.putfield 290, 3)) (kk : zWP RX6 cc B (pc + 3) ls st (zsf w o 0 v)) : zWP RX6 cc B pc ls (.int v :: .ref o :: st) w := zs_putI (ci := 1) (k := 0) (C := RX3) (T := TX3) (N := 3) rfl inX3 tyX3 tyX3_ok nmX3 (by decide) kX6_290 rfl rfl (za_S ho) rfl hd rfl rfl kk
theorem gX3_28 {o : Nat} (ho : zIsSheet o) (hd : decode cc pc = .ok (.getfield 28, 3)) (kk : zWP RX3 cc B (pc + 3) ls ((.int (w.1 o 1)) :: st) w) : zWP RX3 cc B pc ls (.ref o :: st) w := zs_get (ci := 1) (k := 1) (C := RX3) (T := TX3) (N := 3) rfl inX3 (by decide) kX3_28 rfl (za_S ho) rfl hd rfl kk
theorem pX3_28 {o : Nat} (ho : zIsSheet o) {v : Int32} (hd : decode cc pc = .ok (.putfield 28, 3)) (kk : zWP RX3 cc B (pc + 3) ls st (zsf w o 1 v)) : zWP RX3 cc B pc ls (.int v :: .ref o :: st) w := zs_putI (ci := 1) (k := 1) (C := RX3) (T := TX3) (N := 3) rfl inX3 tyX3 tyX3_ok nmX3 (by decide) kX3_28 rfl rfl (za_S ho) rfl hd rfl rfl kk
theorem gX6_272 {o : Nat} (ho : zIsSheet o) (hd : decode cc pc = .ok (.getfield 272, 3)) (kk : zWP RX6 cc B (pc + 3) ls ((.int (w.1 o 1)) :: st) w) : zWP RX6 cc B pc ls (.ref o :: st) w := zs_get (ci := 1) (k := 1) (C := RX3) (T := TX3) (N := 3) rfl inX3 (by decide) kX6_272 rfl (za_S ho) rfl hd rfl kk
theorem pX6_272 {o : Nat} (ho : zIsSheet o) {v : Int32} (hd : decode cc pc = .ok (.putfield 272, 3)) (kk : zWP RX6 cc B (pc + 3) ls st (zsf w o 1 v)) : zWP RX6 cc B pc ls (.int v :: .ref o :: st) w := zs_putI (ci := 1) (k := 1) (C := RX3) (T := TX3) (N := 3) rfl inX3 tyX3 tyX3_ok nmX3 (by decide) kX6_272 rfl rfl (za_S ho) rfl hd rfl rfl kk
theorem gX3_9 {o : Nat} (ho : zIsSheet o) (hd : decode cc pc = .ok (.getfield 9, 3)) (kk : zWP RX3 cc B (pc + 3) ls ((.ref (o + 1)) :: st) w) : zWP RX3 cc B pc ls (.ref o :: st) w := zs_get (ci := 1) (k := 2) (C := RX3) (T := TX3) (N := 3) rfl inX3 (by decide) kX3_9 rfl (za_S ho) rfl hd rfl kk
theorem gX6_296 {o : Nat} (ho : zIsSheet o) (hd : decode cc pc = .ok (.getfield 296, 3)) (kk : zWP RX6 cc B (pc + 3) ls ((.ref (o + 1)) :: st) w) : zWP RX6 cc B pc ls (.ref o :: st) w := zs_get (ci := 1) (k := 2) (C := RX3) (T := TX3) (N := 3) rfl inX3 (by decide) kX6_296 rfl (za_S ho) rfl hd rfl kk
theorem gX6_10 (hd : decode cc pc = .ok (.getfield 10, 3)) (kk : zWP RX6 cc B (pc + 3) ls ((.ref 10) :: st) w) : zWP RX6 cc B pc ls (.ref 0 :: st) w := zs_get (ci := 4) (k := 0) (C := RX6) (T := TX6) (N := 8) rfl inX6 (by decide) kX6_10 rfl za_0 rfl hd rfl kk
theorem gX6_16 (hd : decode cc pc = .ok (.getfield 16, 3)) (kk : zWP RX6 cc B (pc + 3) ls ((.ref 20) :: st) w) : zWP RX6 cc B pc ls (.ref 0 :: st) w := zs_get (ci := 4) (k := 1) (C := RX6) (T := TX6) (N := 8) rfl inX6 (by decide) kX6_16 rfl za_0 rfl hd rfl kk
theorem gX6_19 (hd : decode cc pc = .ok (.getfield 19, 3)) (kk : zWP RX6 cc B (pc + 3) ls ((.ref 30) :: st) w) : zWP RX6 cc B pc ls (.ref 0 :: st) w := zs_get (ci := 4) (k := 2) (C := RX6) (T := TX6) (N := 8) rfl inX6 (by decide) kX6_19 rfl za_0 rfl hd rfl kk
theorem gX6_25 (hd : decode cc pc = .ok (.getfield 25, 3)) (kk : zWP RX6 cc B (pc + 3) ls ((.ref 40) :: st) w) : zWP RX6 cc B pc ls (.ref 0 :: st) w := zs_get (ci := 4) (k := 3) (C := RX6) (T := TX6) (N := 8) rfl inX6 (by decide) kX6_25 rfl za_0 rfl hd rfl kk
theorem gX6_32 (hd : decode cc pc = .ok (.getfield 32, 3)) (kk : zWP RX6 cc B (pc + 3) ls ((.ref 43) :: st) w) : zWP RX6 cc B pc ls (.ref 0 :: st) w := zs_get (ci := 4) (k := 4) (C := RX6) (T := TX6) (N := 8) rfl inX6 (by decide) kX6_32 rfl za_0 rfl hd rfl kk
theorem gX6_38 (hd : decode cc pc = .ok (.getfield 38, 3)) (kk : zWP RX6 cc B (pc + 3) ls ((.ref 45) :: st) w) : zWP RX6 cc B pc ls (.ref 0 :: st) w := zs_get (ci := 4) (k := 5) (C := RX6) (T := TX6) (N := 8) rfl inX6 (by decide) kX6_38 rfl za_0 rfl hd rfl kk
theorem gX6_42 (hd : decode cc pc = .ok (.getfield 42, 3)) (kk : zWP RX6 cc B (pc + 3) ls ((.ref 46) :: st) w) : zWP RX6 cc B pc ls (.ref 0 :: st) w := zs_get (ci := 4) (k := 6) (C := RX6) (T := TX6) (N := 8) rfl inX6 (by decide) kX6_42 rfl za_0 rfl hd rfl kk
theorem gX6_318 (hd : decode cc pc = .ok (.getfield 318, 3)) (kk : zWP RX6 cc B (pc + 3) ls ((.int (w.1 0 7)) :: st) w) : zWP RX6 cc B pc ls (.ref 0 :: st) w := zs_get (ci := 4) (k := 7) (C := RX6) (T := TX6) (N := 8) rfl inX6 (by decide) kX6_318 rfl za_0 rfl hd rfl kk
theorem pX6_318 {v : Int32} (hb : v = 0 ∨ v = 1) (hd : decode cc pc = .ok (.putfield 318, 3)) (kk : zWP RX6 cc B (pc + 3) ls st (zsf w 0 7 v)) : zWP RX6 cc B pc ls (.int v :: .ref 0 :: st) w := zs_putI (ci := 4) (k := 7) (C := RX6) (T := TX6) (N := 8) rfl inX6 tyX6 tyX6_ok nmX6 (by decide) kX6_318 rfl rfl za_0 rfl hd (by rcases hb with rfl | rfl <;> rfl) (by rcases hb with rfl | rfl <;> rfl) kk
theorem gX7_7 (hd : decode cc pc = .ok (.getfield 7, 3)) (kk : zWP RX7 cc B (pc + 3) ls ((.ref 61) :: st) w) : zWP RX7 cc B pc ls (.ref 60 :: st) w := zs_get (ci := 5) (k := 0) (C := RX7) (T := TX7) (N := 21) rfl inX7 (by decide) kX7_7 rfl za_60 rfl hd rfl kk
theorem gX7_13 (hd : decode cc pc = .ok (.getfield 13, 3)) (kk : zWP RX7 cc B (pc + 3) ls ((.ref 62) :: st) w) : zWP RX7 cc B pc ls (.ref 60 :: st) w := zs_get (ci := 5) (k := 1) (C := RX7) (T := TX7) (N := 21) rfl inX7 (by decide) kX7_13 rfl za_60 rfl hd rfl kk
theorem gX7_16 (hd : decode cc pc = .ok (.getfield 16, 3)) (kk : zWP RX7 cc B (pc + 3) ls ((.ref 63) :: st) w) : zWP RX7 cc B pc ls (.ref 60 :: st) w := zs_get (ci := 5) (k := 2) (C := RX7) (T := TX7) (N := 21) rfl inX7 (by decide) kX7_16 rfl za_60 rfl hd rfl kk
theorem gX7_173 (hd : decode cc pc = .ok (.getfield 173, 3)) (kk : zWP RX7 cc B (pc + 3) ls ((.int (w.1 60 3)) :: st) w) : zWP RX7 cc B pc ls (.ref 60 :: st) w := zs_get (ci := 5) (k := 3) (C := RX7) (T := TX7) (N := 21) rfl inX7 (by decide) kX7_173 rfl za_60 rfl hd rfl kk
theorem pX7_173 {v : Int32} (hd : decode cc pc = .ok (.putfield 173, 3)) (kk : zWP RX7 cc B (pc + 3) ls st (zsf w 60 3 v)) : zWP RX7 cc B pc ls (.int v :: .ref 60 :: st) w := zs_putI (ci := 5) (k := 3) (C := RX7) (T := TX7) (N := 21) rfl inX7 tyX7 tyX7_ok nmX7 (by decide) kX7_173 rfl rfl za_60 rfl hd rfl rfl kk
theorem gX7_177 (hd : decode cc pc = .ok (.getfield 177, 3)) (kk : zWP RX7 cc B (pc + 3) ls ((.int (w.1 60 4)) :: st) w) : zWP RX7 cc B pc ls (.ref 60 :: st) w := zs_get (ci := 5) (k := 4) (C := RX7) (T := TX7) (N := 21) rfl inX7 (by decide) kX7_177 rfl za_60 rfl hd rfl kk
theorem pX7_177 {v : Int32} (hd : decode cc pc = .ok (.putfield 177, 3)) (kk : zWP RX7 cc B (pc + 3) ls st (zsf w 60 4 v)) : zWP RX7 cc B pc ls (.int v :: .ref 60 :: st) w := zs_putI (ci := 5) (k := 4) (C := RX7) (T := TX7) (N := 21) rfl inX7 tyX7 tyX7_ok nmX7 (by decide) kX7_177 rfl rfl za_60 rfl hd rfl rfl kk
theorem gX7_19 (hd : decode cc pc = .ok (.getfield 19, 3)) (kk : zWP RX7 cc B (pc + 3) ls ((.ref 64) :: st) w) : zWP RX7 cc B pc ls (.ref 60 :: st) w := zs_get (ci := 5) (k := 5) (C := RX7) (T := TX7) (N := 21) rfl inX7 (by decide) kX7_19 rfl za_60 rfl hd rfl kk
theorem gX7_22 (hd : decode cc pc = .ok (.getfield 22, 3)) (kk : zWP RX7 cc B (pc + 3) ls ((.ref 65) :: st) w) : zWP RX7 cc B pc ls (.ref 60 :: st) w := zs_get (ci := 5) (k := 6) (C := RX7) (T := TX7) (N := 21) rfl inX7 (by decide) kX7_22 rfl za_60 rfl hd rfl kk
theorem gX7_204 (hd : decode cc pc = .ok (.getfield 204, 3)) (kk : zWP RX7 cc B (pc + 3) ls ((.int (w.1 60 7)) :: st) w) : zWP RX7 cc B pc ls (.ref 60 :: st) w := zs_get (ci := 5) (k := 7) (C := RX7) (T := TX7) (N := 21) rfl inX7 (by decide) kX7_204 rfl za_60 rfl hd rfl kk
theorem pX7_204 {v : Int32} (hd : decode cc pc = .ok (.putfield 204, 3)) (kk : zWP RX7 cc B (pc + 3) ls st (zsf w 60 7 v)) : zWP RX7 cc B pc ls (.int v :: .ref 60 :: st) w := zs_putI (ci := 5) (k := 7) (C := RX7) (T := TX7) (N := 21) rfl inX7 tyX7 tyX7_ok nmX7 (by decide) kX7_204 rfl rfl za_60 rfl hd rfl rfl kk
theorem gX7_222 (hd : decode cc pc = .ok (.getfield 222, 3)) (kk : zWP RX7 cc B (pc + 3) ls ((.int (w.1 60 8)) :: st) w) : zWP RX7 cc B pc ls (.ref 60 :: st) w := zs_get (ci := 5) (k := 8) (C := RX7) (T := TX7) (N := 21) rfl inX7 (by decide) kX7_222 rfl za_60 rfl hd rfl kk
theorem pX7_222 {v : Int32} (hd : decode cc pc = .ok (.putfield 222, 3)) (kk : zWP RX7 cc B (pc + 3) ls st (zsf w 60 8 v)) : zWP RX7 cc B pc ls (.int v :: .ref 60 :: st) w := zs_putI (ci := 5) (k := 8) (C := RX7) (T := TX7) (N := 21) rfl inX7 tyX7 tyX7_ok nmX7 (by decide) kX7_222 rfl rfl za_60 rfl hd rfl rfl kk
theorem gX7_210 (hd : decode cc pc = .ok (.getfield 210, 3)) (kk : zWP RX7 cc B (pc + 3) ls ((.int (w.1 60 9)) :: st) w) : zWP RX7 cc B pc ls (.ref 60 :: st) w := zs_get (ci := 5) (k := 9) (C := RX7) (T := TX7) (N := 21) rfl inX7 (by decide) kX7_210 rfl za_60 rfl hd rfl kk
theorem pX7_210 {v : Int32} (hd : decode cc pc = .ok (.putfield 210, 3)) (kk : zWP RX7 cc B (pc + 3) ls st (zsf w 60 9 v)) : zWP RX7 cc B pc ls (.int v :: .ref 60 :: st) w := zs_putI (ci := 5) (k := 9) (C := RX7) (T := TX7) (N := 21) rfl inX7 tyX7 tyX7_ok nmX7 (by decide) kX7_210 rfl rfl za_60 rfl hd rfl rfl kk
theorem gX7_207 (hd : decode cc pc = .ok (.getfield 207, 3)) (kk : zWP RX7 cc B (pc + 3) ls ((.int (w.1 60 10)) :: st) w) : zWP RX7 cc B pc ls (.ref 60 :: st) w := zs_get (ci := 5) (k := 10) (C := RX7) (T := TX7) (N := 21) rfl inX7 (by decide) kX7_207 rfl za_60 rfl hd rfl kk
theorem pX7_207 {v : Int32} (hd : decode cc pc = .ok (.putfield 207, 3)) (kk : zWP RX7 cc B (pc + 3) ls st (zsf w 60 10 v)) : zWP RX7 cc B pc ls (.int v :: .ref 60 :: st) w := zs_putI (ci := 5) (k := 10) (C := RX7) (T := TX7) (N := 21) rfl inX7 tyX7 tyX7_ok nmX7 (by decide) kX7_207 rfl rfl za_60 rfl hd rfl rfl kk
theorem gX7_225 (hd : decode cc pc = .ok (.getfield 225, 3)) (kk : zWP RX7 cc B (pc + 3) ls ((.long (w.2 60 11)) :: st) w) : zWP RX7 cc B pc ls (.ref 60 :: st) w := zs_get (ci := 5) (k := 11) (C := RX7) (T := TX7) (N := 21) rfl inX7 (by decide) kX7_225 rfl za_60 rfl hd rfl kk
theorem pX7_225 {v : Int64} (hd : decode cc pc = .ok (.putfield 225, 3)) (kk : zWP RX7 cc B (pc + 3) ls st (zsg w 60 11 v)) : zWP RX7 cc B pc ls (.long v :: .ref 60 :: st) w := zs_putJ (ci := 5) (k := 11) (C := RX7) (T := TX7) (N := 21) rfl inX7 tyX7 tyX7_ok nmX7 (by decide) kX7_225 rfl rfl za_60 rfl hd rfl rfl kk
theorem gX7_229 (hd : decode cc pc = .ok (.getfield 229, 3)) (kk : zWP RX7 cc B (pc + 3) ls ((.int (w.1 60 12)) :: st) w) : zWP RX7 cc B pc ls (.ref 60 :: st) w := zs_get (ci := 5) (k := 12) (C := RX7) (T := TX7) (N := 21) rfl inX7 (by decide) kX7_229 rfl za_60 rfl hd rfl kk
theorem pX7_229 {v : Int32} (hd : decode cc pc = .ok (.putfield 229, 3)) (kk : zWP RX7 cc B (pc + 3) ls st (zsf w 60 12 v)) : zWP RX7 cc B pc ls (.int v :: .ref 60 :: st) w := zs_putI (ci := 5) (k := 12) (C := RX7) (T := TX7) (N := 21) rfl inX7 tyX7 tyX7_ok nmX7 (by decide) kX7_229 rfl rfl za_60 rfl hd rfl rfl kk
theorem gX7_254 (hd : decode cc pc = .ok (.getfield 254, 3)) (kk : zWP RX7 cc B (pc + 3) ls ((.int (w.1 60 13)) :: st) w) : zWP RX7 cc B pc ls (.ref 60 :: st) w := zs_get (ci := 5) (k := 13) (C := RX7) (T := TX7) (N := 21) rfl inX7 (by decide) kX7_254 rfl za_60 rfl hd rfl kk
theorem pX7_254 {v : Int32} (hb : v = 0 ∨ v = 1) (hd : decode cc pc = .ok (.putfield 254, 3)) (kk : zWP RX7 cc B (pc + 3) ls st (zsf w 60 13 v)) : zWP RX7 cc B pc ls (.int v :: .ref 60 :: st) w := zs_putI (ci := 5) (k := 13) (C := RX7) (T := TX7) (N := 21) rfl inX7 tyX7 tyX7_ok nmX7 (by decide) kX7_254 rfl rfl za_60 rfl hd (by rcases hb with rfl | rfl <;> rfl) (by rcases hb with rfl | rfl <;> rfl) kk
theorem gX7_25 (hd : decode cc pc = .ok (.getfield 25, 3)) (kk : zWP RX7 cc B (pc + 3) ls ((.ref 66) :: st) w) : zWP RX7 cc B pc ls (.ref 60 :: st) w := zs_get (ci := 5) (k := 14) (C := RX7) (T := TX7) (N := 21) rfl inX7 (by decide) kX7_25 rfl za_60 rfl hd rfl kk
theorem gX7_28 (hd : decode cc pc = .ok (.getfield 28, 3)) (kk : zWP RX7 cc B (pc + 3) ls ((.ref 67) :: st) w) : zWP RX7 cc B pc ls (.ref 60 :: st) w := zs_get (ci := 5) (k := 15) (C := RX7) (T := TX7) (N := 21) rfl inX7 (by decide) kX7_28 rfl za_60 rfl hd rfl kk
theorem gX7_31 (hd : decode cc pc = .ok (.getfield 31, 3)) (kk : zWP RX7 cc B (pc + 3) ls ((.ref 68) :: st) w) : zWP RX7 cc B pc ls (.ref 60 :: st) w := zs_get (ci := 5) (k := 16) (C := RX7) (T := TX7) (N := 21) rfl inX7 (by decide) kX7_31 rfl za_60 rfl hd rfl kk
theorem gX7_35 (hd : decode cc pc = .ok (.getfield 35, 3)) (kk : zWP RX7 cc B (pc + 3) ls ((.ref 69) :: st) w) : zWP RX7 cc B pc ls (.ref 60 :: st) w := zs_get (ci := 5) (k := 17) (C := RX7) (T := TX7) (N := 21) rfl inX7 (by decide) kX7_35 rfl za_60 rfl hd rfl kk
theorem gX7_38 (hd : decode cc pc = .ok (.getfield 38, 3)) (kk : zWP RX7 cc B (pc + 3) ls ((.ref 70) :: st) w) : zWP RX7 cc B pc ls (.ref 60 :: st) w := zs_get (ci := 5) (k := 18) (C := RX7) (T := TX7) (N := 21) rfl inX7 (by decide) kX7_38 rfl za_60 rfl hd rfl kk
theorem gX7_41 (hd : decode cc pc = .ok (.getfield 41, 3)) (kk : zWP RX7 cc B (pc + 3) ls ((.ref 71) :: st) w) : zWP RX7 cc B pc ls (.ref 60 :: st) w := zs_get (ci := 5) (k := 19) (C := RX7) (T := TX7) (N := 21) rfl inX7 (by decide) kX7_41 rfl za_60 rfl hd rfl kk
theorem gX7_321 (hd : decode cc pc = .ok (.getfield 321, 3)) (kk : zWP RX7 cc B (pc + 3) ls ((.int (w.1 60 20)) :: st) w) : zWP RX7 cc B pc ls (.ref 60 :: st) w := zs_get (ci := 5) (k := 20) (C := RX7) (T := TX7) (N := 21) rfl inX7 (by decide) kX7_321 rfl za_60 rfl hd rfl kk
theorem pX7_321 {v : Int32} (hb : v = 0 ∨ v = 1) (hd : decode cc pc = .ok (.putfield 321, 3)) (kk : zWP RX7 cc B (pc + 3) ls st (zsf w 60 20 v)) : zWP RX7 cc B pc ls (.int v :: .ref 60 :: st) w := zs_putI (ci := 5) (k := 20) (C := RX7) (T := TX7) (N := 21) rfl inX7 tyX7 tyX7_ok nmX7 (by decide) kX7_321 rfl rfl za_60 rfl hd (by rcases hb with rfl | rfl <;> rfl) (by rcases hb with rfl | rfl <;> rfl) kk
end ZF
section ZN
variable {own : String} {cc : ByteArray} {B : zB} {pc : Nat} {ls ls' : List (Option Value)} {st : List Value} {w : zW}
theorem zs_nmi {a b : Int32} (h : a = b) (k : zWP own cc B pc ls (.int b :: st) w) : zWP own cc B pc ls (.int a :: st) w := h ▸ k
theorem zs_nml {a b : Int64} (h : a = b) (k : zWP own cc B pc ls (.long b :: st) w) : zWP own cc B pc ls (.long a :: st) w := h ▸ k
theorem zs_nmw {u : zW} (h : w = u) (k : zWP own cc B pc ls st u) : zWP own cc B pc ls st w := h ▸ k
/-- forget what some locals hold -/
def zfo : List Bool → List (Option Value) → List (Option Value)
  | true :: m, v :: vs => v :: zfo m vs
  | false :: m, _ :: vs => none :: zfo m vs
  | _, _ => []
theorem zfo_get : ∀ (m : List Bool) (l : List (Option Value)) (i : Nat) (v : Value), (zfo m l)[i]? = some (some v) → l[i]? = some (some v) := by
  intro m
  induction m with
  | nil => intro l i v h; cases l <;> simp [zfo] at h
  | cons b m ih =>
    intro l i v h
    cases l with
    | nil => cases b <;> simp [zfo] at h
    | cons x l =>
      cases i with
      | zero => cases b <;> simp [zfo] at h; simpa using h
      | succ i => cases b <;> simp [zfo] at h <;> simpa using ih l i v h
theorem zs_fo (m : List Bool) (h : zfo m ls = ls') (k : zWP own cc B pc ls' st w) : zWP own cc B pc ls st w := by
  intro p l e s mm args below meth c D ad c3 H locs la hC hP hS hL
  refine k p l e s mm args below meth c D ad c3 H locs la hC hP hS ⟨hL.1, hL.2.1, fun i v hi => hL.2.2 i v ?_⟩
  rw [← h] at hi
  exact zfo_get m ls i v hi
end ZN
def zF : Nat := 1000000000000
theorem zgb_inv {v b : Int32} (h : zgb v = some b) : (v = 0 ∨ v = 1) ∧ v = b := by
  unfold zgb at h
  split at h
  · cases h; exact ⟨by assumption, rfl⟩
  · cases h
theorem zdiv_inv {x y r : Int32} (h : zdiv x y = some r) : ¬ y = 0 ∧ x / y = r := by
  unfold zdiv at h
  split at h
  · cases h
  · cases h; exact ⟨by assumption, rfl⟩
theorem zrem_inv {x y r : Int32} (h : zrem x y = some r) : ¬ y = 0 ∧ x - x / y * y = r := by
  unfold zrem at h
  split at h
  · cases h
  · cases h; exact ⟨by assumption, rfl⟩
theorem zix_lt {n k : Nat} {i : Int32} (h : zix n i = some k) : k < n := by
  obtain ⟨h1, h2⟩ := zin h
  cases h2
  exact Nat.lt_of_not_le fun q => h1 (Or.inr q)
/-- a loop that may answer for the whole method -/
def zbs {α β : Type} (x : Option (α ⊕ β)) (f : β → Option α) : Option α := match x with
  | none => none
  | some (.inl a) => some a
  | some (.inr b) => f b
theorem zbs_inv {α β : Type} {x : Option (α ⊕ β)} {f : β → Option α} {r : α} (h : zbs x f = some r) : x = some (.inl r) ∨ ∃ b, x = some (.inr b) ∧ f b = some r := by
  match x, h with
  | some (.inl a), h => cases h; exact Or.inl rfl
  | some (.inr b), h => exact Or.inr ⟨b, rfl, h⟩
/-- an answer that may be null -/
def zbo {γ : Type} (x : Option (Option Nat)) (a : Option γ) (f : Nat → Option γ) : Option γ := match x with
  | none => none
  | some none => a
  | some (some o) => f o
theorem zbo_inv {γ : Type} {x : Option (Option Nat)} {a : Option γ} {f : Nat → Option γ} {r : γ} (h : zbo x a f = some r) : (x = some none ∧ a = some r) ∨ ∃ o, x = some (some o) ∧ f o = some r := by
  match x, h with
  | some none, h => exact Or.inl ⟨rfl, h⟩
  | some (some o), h => exact Or.inr ⟨o, rfl, h⟩
def zb2 {α β ρ : Type} (x : Option (α × β)) (f : α → β → Option ρ) : Option ρ := x.bind fun q => f (q.1) (q.2)
theorem zb2_inv {α β ρ : Type} {x : Option (α × β)} {f : α → β → Option ρ} {r : ρ} (h : zb2 x f = some r) : ∃ a0 a1, x = some (a0, a1) ∧ f a0 a1 = some r := by
  cases x with
  | none => cases h
  | some q => obtain ⟨a0, a1⟩ := q; exact ⟨a0, a1, rfl, h⟩
def zb3 {α β γ ρ : Type} (x : Option (α × β × γ)) (f : α → β → γ → Option ρ) : Option ρ := x.bind fun q => f (q.1) (q.2.1) (q.2.2)
theorem zb3_inv {α β γ ρ : Type} {x : Option (α × β × γ)} {f : α → β → γ → Option ρ} {r : ρ} (h : zb3 x f = some r) : ∃ a0 a1 a2, x = some (a0, a1, a2) ∧ f a0 a1 a2 = some r := by
  cases x with
  | none => cases h
  | some q => obtain ⟨a0, a1, a2⟩ := q; exact ⟨a0, a1, a2, rfl, h⟩
def zb4 {α β γ δ ρ : Type} (x : Option (α × β × γ × δ)) (f : α → β → γ → δ → Option ρ) : Option ρ := x.bind fun q => f (q.1) (q.2.1) (q.2.2.1) (q.2.2.2)
theorem zb4_inv {α β γ δ ρ : Type} {x : Option (α × β × γ × δ)} {f : α → β → γ → δ → Option ρ} {r : ρ} (h : zb4 x f = some r) : ∃ a0 a1 a2 a3, x = some (a0, a1, a2, a3) ∧ f a0 a1 a2 a3 = some r := by
  cases x with
  | none => cases h
  | some q => obtain ⟨a0, a1, a2, a3⟩ := q; exact ⟨a0, a1, a2, a3, rfl, h⟩
def zb5 {α β γ δ ε ρ : Type} (x : Option (α × β × γ × δ × ε)) (f : α → β → γ → δ → ε → Option ρ) : Option ρ := x.bind fun q => f (q.1) (q.2.1) (q.2.2.1) (q.2.2.2.1) (q.2.2.2.2)
theorem zb5_inv {α β γ δ ε ρ : Type} {x : Option (α × β × γ × δ × ε)} {f : α → β → γ → δ → ε → Option ρ} {r : ρ} (h : zb5 x f = some r) : ∃ a0 a1 a2 a3 a4, x = some (a0, a1, a2, a3, a4) ∧ f a0 a1 a2 a3 a4 = some r := by
  cases x with
  | none => cases h
  | some q => obtain ⟨a0, a1, a2, a3, a4⟩ := q; exact ⟨a0, a1, a2, a3, a4, rfl, h⟩
def zb6 {α β γ δ ε ζ ρ : Type} (x : Option (α × β × γ × δ × ε × ζ)) (f : α → β → γ → δ → ε → ζ → Option ρ) : Option ρ := x.bind fun q => f (q.1) (q.2.1) (q.2.2.1) (q.2.2.2.1) (q.2.2.2.2.1) (q.2.2.2.2.2)
theorem zb6_inv {α β γ δ ε ζ ρ : Type} {x : Option (α × β × γ × δ × ε × ζ)} {f : α → β → γ → δ → ε → ζ → Option ρ} {r : ρ} (h : zb6 x f = some r) : ∃ a0 a1 a2 a3 a4 a5, x = some (a0, a1, a2, a3, a4, a5) ∧ f a0 a1 a2 a3 a4 a5 = some r := by
  cases x with
  | none => cases h
  | some q => obtain ⟨a0, a1, a2, a3, a4, a5⟩ := q; exact ⟨a0, a1, a2, a3, a4, a5, rfl, h⟩
def zb7 {α β γ δ ε ζ η ρ : Type} (x : Option (α × β × γ × δ × ε × ζ × η)) (f : α → β → γ → δ → ε → ζ → η → Option ρ) : Option ρ := x.bind fun q => f (q.1) (q.2.1) (q.2.2.1) (q.2.2.2.1) (q.2.2.2.2.1) (q.2.2.2.2.2.1) (q.2.2.2.2.2.2)
theorem zb7_inv {α β γ δ ε ζ η ρ : Type} {x : Option (α × β × γ × δ × ε × ζ × η)} {f : α → β → γ → δ → ε → ζ → η → Option ρ} {r : ρ} (h : zb7 x f = some r) : ∃ a0 a1 a2 a3 a4 a5 a6, x = some (a0, a1, a2, a3, a4, a5, a6) ∧ f a0 a1 a2 a3 a4 a5 a6 = some r := by
  cases x with
  | none => cases h
  | some q => obtain ⟨a0, a1, a2, a3, a4, a5, a6⟩ := q; exact ⟨a0, a1, a2, a3, a4, a5, a6, rfl, h⟩
end
