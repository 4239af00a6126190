section
-- ===== PART A: goes FIRST, ahead of the names: the tables' words, and 'selects' of the private methods out of them =====
/-- a private method of a class that the tables say can be made, by its rows of tables_1 -/
def lw_okq (q : MethodName × Nat) : Prop := (q.1.cls ≠ "java/lang/invoke/MethodHandle" ∧ q.1.cls ≠ "java/lang/invoke/VarHandle") ∧ Cond.instantiable q.1.cls q.2 ∈ tables_1 ∧ Cond.privateMethod q.1 ∈ tables_1 ∧ Cond.instanceMethod q.1 ∈ tables_1
theorem lw_p0 : lw_okq (⟨"DownhillPost", "finding", "(I)I"⟩, 8) := ⟨⟨by decide +kernel, by decide +kernel⟩, List.mem_of_getElem? (i := 17) (by decide +kernel), List.mem_of_getElem? (i := 218) (by decide +kernel), List.mem_of_getElem? (i := 219) (by decide +kernel)⟩
theorem lw_p1 : lw_okq (⟨"DownhillPost", "areUnlikeVillages", "(II)Z"⟩, 8) := ⟨⟨by decide +kernel, by decide +kernel⟩, List.mem_of_getElem? (i := 17) (by decide +kernel), List.mem_of_getElem? (i := 286) (by decide +kernel), List.mem_of_getElem? (i := 287) (by decide +kernel)⟩
theorem lw_p2 : lw_okq (⟨"DownhillPost", "areVillages", "(II)Z"⟩, 8) := ⟨⟨by decide +kernel, by decide +kernel⟩, List.mem_of_getElem? (i := 17) (by decide +kernel), List.mem_of_getElem? (i := 290) (by decide +kernel), List.mem_of_getElem? (i := 291) (by decide +kernel)⟩
theorem lw_p3 : lw_okq (⟨"DownhillPost$Ways", "layStep", "(LDownhillPost$Land;IIII)V"⟩, 9) := ⟨⟨by decide +kernel, by decide +kernel⟩, List.mem_of_getElem? (i := 99) (by decide +kernel), List.mem_of_getElem? (i := 392) (by decide +kernel), List.mem_of_getElem? (i := 393) (by decide +kernel)⟩
theorem lw_p4 : lw_okq (⟨"DownhillPost$Ways", "areHere", "(II)Z"⟩, 9) := ⟨⟨by decide +kernel, by decide +kernel⟩, List.mem_of_getElem? (i := 99) (by decide +kernel), List.mem_of_getElem? (i := 396) (by decide +kernel), List.mem_of_getElem? (i := 397) (by decide +kernel)⟩
theorem lw_p5 : lw_okq (⟨"DownhillPost$Ways", "joinSteps", "()V"⟩, 9) := ⟨⟨by decide +kernel, by decide +kernel⟩, List.mem_of_getElem? (i := 99) (by decide +kernel), List.mem_of_getElem? (i := 401) (by decide +kernel), List.mem_of_getElem? (i := 402) (by decide +kernel)⟩
theorem lw_p6 : lw_okq (⟨"DownhillPost$Ways", "shortenBy", "(II)V"⟩, 9) := ⟨⟨by decide +kernel, by decide +kernel⟩, List.mem_of_getElem? (i := 99) (by decide +kernel), List.mem_of_getElem? (i := 408) (by decide +kernel), List.mem_of_getElem? (i := 409) (by decide +kernel)⟩
theorem lw_p7 : lw_okq (⟨"DownhillPost$Ways", "downDays", "(II)I"⟩, 9) := ⟨⟨by decide +kernel, by decide +kernel⟩, List.mem_of_getElem? (i := 99) (by decide +kernel), List.mem_of_getElem? (i := 416) (by decide +kernel), List.mem_of_getElem? (i := 417) (by decide +kernel)⟩
theorem lw_p8 : lw_okq (⟨"DownhillPost$Ways", "flightFrom", "(I)I"⟩, 9) := ⟨⟨by decide +kernel, by decide +kernel⟩, List.mem_of_getElem? (i := 99) (by decide +kernel), List.mem_of_getElem? (i := 420) (by decide +kernel), List.mem_of_getElem? (i := 421) (by decide +kernel)⟩
theorem lw_p9 : lw_okq (⟨"DownhillPost", "daysUntil", "(I)I"⟩, 8) := ⟨⟨by decide +kernel, by decide +kernel⟩, List.mem_of_getElem? (i := 17) (by decide +kernel), List.mem_of_getElem? (i := 424) (by decide +kernel), List.mem_of_getElem? (i := 425) (by decide +kernel)⟩
theorem lw_p10 : lw_okq (⟨"DownhillPost$Ways", "comes", "(II)Z"⟩, 9) := ⟨⟨by decide +kernel, by decide +kernel⟩, List.mem_of_getElem? (i := 99) (by decide +kernel), List.mem_of_getElem? (i := 437) (by decide +kernel), List.mem_of_getElem? (i := 438) (by decide +kernel)⟩
theorem lw_p11 : lw_okq (⟨"DownhillPost$Ways", "lastAnswer", "(III)I"⟩, 9) := ⟨⟨by decide +kernel, by decide +kernel⟩, List.mem_of_getElem? (i := 99) (by decide +kernel), List.mem_of_getElem? (i := 482) (by decide +kernel), List.mem_of_getElem? (i := 483) (by decide +kernel)⟩
theorem lw_p12 : lw_okq (⟨"DownhillPost", "heightToRise", "(III)I"⟩, 8) := ⟨⟨by decide +kernel, by decide +kernel⟩, List.mem_of_getElem? (i := 17) (by decide +kernel), List.mem_of_getElem? (i := 504) (by decide +kernel), List.mem_of_getElem? (i := 505) (by decide +kernel)⟩
theorem lw_p13 : lw_okq (⟨"DownhillPost", "bestDigging", "(II)I"⟩, 8) := ⟨⟨by decide +kernel, by decide +kernel⟩, List.mem_of_getElem? (i := 17) (by decide +kernel), List.mem_of_getElem? (i := 519) (by decide +kernel), List.mem_of_getElem? (i := 520) (by decide +kernel)⟩
theorem lw_p14 : lw_okq (⟨"DownhillPost$Ways", "daysInto", "(III)I"⟩, 9) := ⟨⟨by decide +kernel, by decide +kernel⟩, List.mem_of_getElem? (i := 99) (by decide +kernel), List.mem_of_getElem? (i := 569) (by decide +kernel), List.mem_of_getElem? (i := 570) (by decide +kernel)⟩
theorem lw_p15 : lw_okq (⟨"DownhillPost$Ways", "stepDays", "(II)I"⟩, 9) := ⟨⟨by decide +kernel, by decide +kernel⟩, List.mem_of_getElem? (i := 99) (by decide +kernel), List.mem_of_getElem? (i := 573) (by decide +kernel), List.mem_of_getElem? (i := 574) (by decide +kernel)⟩
def lw_privs_1 : List (MethodName × Nat) := [(⟨"DownhillPost", "finding", "(I)I"⟩, 8), (⟨"DownhillPost", "areUnlikeVillages", "(II)Z"⟩, 8), (⟨"DownhillPost", "areVillages", "(II)Z"⟩, 8), (⟨"DownhillPost$Ways", "layStep", "(LDownhillPost$Land;IIII)V"⟩, 9), (⟨"DownhillPost$Ways", "areHere", "(II)Z"⟩, 9), (⟨"DownhillPost$Ways", "joinSteps", "()V"⟩, 9), (⟨"DownhillPost$Ways", "shortenBy", "(II)V"⟩, 9), (⟨"DownhillPost$Ways", "downDays", "(II)I"⟩, 9), (⟨"DownhillPost$Ways", "flightFrom", "(I)I"⟩, 9), (⟨"DownhillPost", "daysUntil", "(I)I"⟩, 8), (⟨"DownhillPost$Ways", "comes", "(II)Z"⟩, 9), (⟨"DownhillPost$Ways", "lastAnswer", "(III)I"⟩, 9), (⟨"DownhillPost", "heightToRise", "(III)I"⟩, 8), (⟨"DownhillPost", "bestDigging", "(II)I"⟩, 8), (⟨"DownhillPost$Ways", "daysInto", "(III)I"⟩, 9), (⟨"DownhillPost$Ways", "stepDays", "(II)I"⟩, 9)]
theorem lw_r1 : ∀ q ∈ lw_privs_1, lw_okq q := List.forall_mem_cons.mpr ⟨lw_p0, List.forall_mem_cons.mpr ⟨lw_p1, List.forall_mem_cons.mpr ⟨lw_p2, List.forall_mem_cons.mpr ⟨lw_p3, List.forall_mem_cons.mpr ⟨lw_p4, List.forall_mem_cons.mpr ⟨lw_p5, List.forall_mem_cons.mpr ⟨lw_p6, List.forall_mem_cons.mpr ⟨lw_p7, List.forall_mem_cons.mpr ⟨lw_p8, List.forall_mem_cons.mpr ⟨lw_p9, List.forall_mem_cons.mpr ⟨lw_p10, List.forall_mem_cons.mpr ⟨lw_p11, List.forall_mem_cons.mpr ⟨lw_p12, List.forall_mem_cons.mpr ⟨lw_p13, List.forall_mem_cons.mpr ⟨lw_p14, List.forall_mem_cons.mpr ⟨lw_p15, fun _ h => absurd h List.not_mem_nil⟩⟩⟩⟩⟩⟩⟩⟩⟩⟩⟩⟩⟩⟩⟩⟩
theorem lw_p16 : lw_okq (⟨"DownhillPost", "carryOn", "(LDownhillPost$Land;II)V"⟩, 8) := ⟨⟨by decide +kernel, by decide +kernel⟩, List.mem_of_getElem? (i := 17) (by decide +kernel), List.mem_of_getElem? (i := 586) (by decide +kernel), List.mem_of_getElem? (i := 587) (by decide +kernel)⟩
theorem lw_p17 : lw_okq (⟨"DownhillPost", "daysAhead", "(I)I"⟩, 8) := ⟨⟨by decide +kernel, by decide +kernel⟩, List.mem_of_getElem? (i := 17) (by decide +kernel), List.mem_of_getElem? (i := 620) (by decide +kernel), List.mem_of_getElem? (i := 621) (by decide +kernel)⟩
theorem lw_p18 : lw_okq (⟨"DownhillPost$Tape", "byteAt", "(I)I"⟩, 6) := ⟨⟨by decide +kernel, by decide +kernel⟩, List.mem_of_getElem? (i := 136) (by decide +kernel), List.mem_of_getElem? (i := 655) (by decide +kernel), List.mem_of_getElem? (i := 656) (by decide +kernel)⟩
theorem lw_p19 : lw_okq (⟨"DownhillPost$Tape", "passNumber", "()V"⟩, 6) := ⟨⟨by decide +kernel, by decide +kernel⟩, List.mem_of_getElem? (i := 136) (by decide +kernel), List.mem_of_getElem? (i := 662) (by decide +kernel), List.mem_of_getElem? (i := 663) (by decide +kernel)⟩
theorem lw_p20 : lw_okq (⟨"DownhillPost$Tape", "passWord", "()V"⟩, 6) := ⟨⟨by decide +kernel, by decide +kernel⟩, List.mem_of_getElem? (i := 136) (by decide +kernel), List.mem_of_getElem? (i := 667) (by decide +kernel), List.mem_of_getElem? (i := 668) (by decide +kernel)⟩
theorem lw_p21 : lw_okq (⟨"DownhillPost", "sheetAt", "(I)LDownhillPost$Sheet;"⟩, 8) := ⟨⟨by decide +kernel, by decide +kernel⟩, List.mem_of_getElem? (i := 17) (by decide +kernel), List.mem_of_getElem? (i := 789) (by decide +kernel), List.mem_of_getElem? (i := 790) (by decide +kernel)⟩
theorem lw_p22 : lw_okq (⟨"DownhillPost$Sheet", "narrowed", "(J)J"⟩, 3) := ⟨⟨by decide +kernel, by decide +kernel⟩, List.mem_of_getElem? (i := 165) (by decide +kernel), List.mem_of_getElem? (i := 825) (by decide +kernel), List.mem_of_getElem? (i := 826) (by decide +kernel)⟩
theorem lw_p23 : lw_okq (⟨"DownhillPostModel", "finds", "(I)I"⟩, 21) := ⟨⟨by decide +kernel, by decide +kernel⟩, List.mem_of_getElem? (i := 882) (by decide +kernel), List.mem_of_getElem? (i := 960) (by decide +kernel), List.mem_of_getElem? (i := 961) (by decide +kernel)⟩
theorem lw_p24 : lw_okq (⟨"DownhillPostModel", "addVillage", "(IZ)V"⟩, 21) := ⟨⟨by decide +kernel, by decide +kernel⟩, List.mem_of_getElem? (i := 882) (by decide +kernel), List.mem_of_getElem? (i := 965) (by decide +kernel), List.mem_of_getElem? (i := 966) (by decide +kernel)⟩
theorem lw_p25 : lw_okq (⟨"DownhillPostModel", "isVillage", "(I)Z"⟩, 21) := ⟨⟨by decide +kernel, by decide +kernel⟩, List.mem_of_getElem? (i := 882) (by decide +kernel), List.mem_of_getElem? (i := 973) (by decide +kernel), List.mem_of_getElem? (i := 974) (by decide +kernel)⟩
theorem lw_p26 : lw_okq (⟨"DownhillPostModel", "height", "(I)I"⟩, 21) := ⟨⟨by decide +kernel, by decide +kernel⟩, List.mem_of_getElem? (i := 882) (by decide +kernel), List.mem_of_getElem? (i := 977) (by decide +kernel), List.mem_of_getElem? (i := 978) (by decide +kernel)⟩
theorem lw_p27 : lw_okq (⟨"DownhillPostModel", "roadsAt", "(I)I"⟩, 21) := ⟨⟨by decide +kernel, by decide +kernel⟩, List.mem_of_getElem? (i := 882) (by decide +kernel), List.mem_of_getElem? (i := 981) (by decide +kernel), List.mem_of_getElem? (i := 982) (by decide +kernel)⟩
theorem lw_p28 : lw_okq (⟨"DownhillPostModel", "end", "(II)I"⟩, 21) := ⟨⟨by decide +kernel, by decide +kernel⟩, List.mem_of_getElem? (i := 882) (by decide +kernel), List.mem_of_getElem? (i := 985) (by decide +kernel), List.mem_of_getElem? (i := 986) (by decide +kernel)⟩
theorem lw_p29 : lw_okq (⟨"DownhillPostModel", "lettersAt", "(I)I"⟩, 21) := ⟨⟨by decide +kernel, by decide +kernel⟩, List.mem_of_getElem? (i := 882) (by decide +kernel), List.mem_of_getElem? (i := 989) (by decide +kernel), List.mem_of_getElem? (i := 990) (by decide +kernel)⟩
theorem lw_p30 : lw_okq (⟨"DownhillPostModel", "its", "(II)I"⟩, 21) := ⟨⟨by decide +kernel, by decide +kernel⟩, List.mem_of_getElem? (i := 882) (by decide +kernel), List.mem_of_getElem? (i := 993) (by decide +kernel), List.mem_of_getElem? (i := 994) (by decide +kernel)⟩
theorem lw_p31 : lw_okq (⟨"DownhillPostModel", "isHermits", "(I)Z"⟩, 21) := ⟨⟨by decide +kernel, by decide +kernel⟩, List.mem_of_getElem? (i := 882) (by decide +kernel), List.mem_of_getElem? (i := 1005) (by decide +kernel), List.mem_of_getElem? (i := 1006) (by decide +kernel)⟩
def lw_privs_2 : List (MethodName × Nat) := [(⟨"DownhillPost", "carryOn", "(LDownhillPost$Land;II)V"⟩, 8), (⟨"DownhillPost", "daysAhead", "(I)I"⟩, 8), (⟨"DownhillPost$Tape", "byteAt", "(I)I"⟩, 6), (⟨"DownhillPost$Tape", "passNumber", "()V"⟩, 6), (⟨"DownhillPost$Tape", "passWord", "()V"⟩, 6), (⟨"DownhillPost", "sheetAt", "(I)LDownhillPost$Sheet;"⟩, 8), (⟨"DownhillPost$Sheet", "narrowed", "(J)J"⟩, 3), (⟨"DownhillPostModel", "finds", "(I)I"⟩, 21), (⟨"DownhillPostModel", "addVillage", "(IZ)V"⟩, 21), (⟨"DownhillPostModel", "isVillage", "(I)Z"⟩, 21), (⟨"DownhillPostModel", "height", "(I)I"⟩, 21), (⟨"DownhillPostModel", "roadsAt", "(I)I"⟩, 21), (⟨"DownhillPostModel", "end", "(II)I"⟩, 21), (⟨"DownhillPostModel", "lettersAt", "(I)I"⟩, 21), (⟨"DownhillPostModel", "its", "(II)I"⟩, 21), (⟨"DownhillPostModel", "isHermits", "(I)Z"⟩, 21)]
theorem lw_r2 : ∀ q ∈ lw_privs_2, lw_okq q := List.forall_mem_cons.mpr ⟨lw_p16, List.forall_mem_cons.mpr ⟨lw_p17, List.forall_mem_cons.mpr ⟨lw_p18, List.forall_mem_cons.mpr ⟨lw_p19, List.forall_mem_cons.mpr ⟨lw_p20, List.forall_mem_cons.mpr ⟨lw_p21, List.forall_mem_cons.mpr ⟨lw_p22, List.forall_mem_cons.mpr ⟨lw_p23, List.forall_mem_cons.mpr ⟨lw_p24, List.forall_mem_cons.mpr ⟨lw_p25, List.forall_mem_cons.mpr ⟨lw_p26, List.forall_mem_cons.mpr ⟨lw_p27, List.forall_mem_cons.mpr ⟨lw_p28, List.forall_mem_cons.mpr ⟨lw_p29, List.forall_mem_cons.mpr ⟨lw_p30, List.forall_mem_cons.mpr ⟨lw_p31, fun _ h => absurd h List.not_mem_nil⟩⟩⟩⟩⟩⟩⟩⟩⟩⟩⟩⟩⟩⟩⟩⟩
theorem lw_p32 : lw_okq (⟨"DownhillPostModel", "between", "(II)I"⟩, 21) := ⟨⟨by decide +kernel, by decide +kernel⟩, List.mem_of_getElem? (i := 882) (by decide +kernel), List.mem_of_getElem? (i := 1013) (by decide +kernel), List.mem_of_getElem? (i := 1014) (by decide +kernel)⟩
theorem lw_p33 : lw_okq (⟨"DownhillPostModel", "addRoad", "(III)V"⟩, 21) := ⟨⟨by decide +kernel, by decide +kernel⟩, List.mem_of_getElem? (i := 882) (by decide +kernel), List.mem_of_getElem? (i := 1018) (by decide +kernel), List.mem_of_getElem? (i := 1019) (by decide +kernel)⟩
theorem lw_p34 : lw_okq (⟨"DownhillPostModel", "isRoad", "(I)Z"⟩, 21) := ⟨⟨by decide +kernel, by decide +kernel⟩, List.mem_of_getElem? (i := 882) (by decide +kernel), List.mem_of_getElem? (i := 1026) (by decide +kernel), List.mem_of_getElem? (i := 1027) (by decide +kernel)⟩
theorem lw_p35 : lw_okq (⟨"DownhillPostModel", "theSea", "()I"⟩, 21) := ⟨⟨by decide +kernel, by decide +kernel⟩, List.mem_of_getElem? (i := 882) (by decide +kernel), List.mem_of_getElem? (i := 1039) (by decide +kernel), List.mem_of_getElem? (i := 1040) (by decide +kernel)⟩
theorem lw_p36 : lw_okq (⟨"DownhillPostModel", "thePeak", "()I"⟩, 21) := ⟨⟨by decide +kernel, by decide +kernel⟩, List.mem_of_getElem? (i := 882) (by decide +kernel), List.mem_of_getElem? (i := 1047) (by decide +kernel), List.mem_of_getElem? (i := 1048) (by decide +kernel)⟩
theorem lw_p37 : lw_okq (⟨"DownhillPostModel", "needsOf", "(II)I"⟩, 21) := ⟨⟨by decide +kernel, by decide +kernel⟩, List.mem_of_getElem? (i := 882) (by decide +kernel), List.mem_of_getElem? (i := 1058) (by decide +kernel), List.mem_of_getElem? (i := 1059) (by decide +kernel)⟩
theorem lw_p38 : lw_okq (⟨"DownhillPostModel", "goesDown", "(III)Z"⟩, 21) := ⟨⟨by decide +kernel, by decide +kernel⟩, List.mem_of_getElem? (i := 882) (by decide +kernel), List.mem_of_getElem? (i := 1066) (by decide +kernel), List.mem_of_getElem? (i := 1067) (by decide +kernel)⟩
theorem lw_p39 : lw_okq (⟨"DownhillPostModel", "isAsked", "(III)Z"⟩, 21) := ⟨⟨by decide +kernel, by decide +kernel⟩, List.mem_of_getElem? (i := 882) (by decide +kernel), List.mem_of_getElem? (i := 1074) (by decide +kernel), List.mem_of_getElem? (i := 1075) (by decide +kernel)⟩
theorem lw_p40 : lw_okq (⟨"DownhillPostModel", "earliest", "(IIII)I"⟩, 21) := ⟨⟨by decide +kernel, by decide +kernel⟩, List.mem_of_getElem? (i := 882) (by decide +kernel), List.mem_of_getElem? (i := 1078) (by decide +kernel), List.mem_of_getElem? (i := 1079) (by decide +kernel)⟩
theorem lw_p41 : lw_okq (⟨"DownhillPostModel", "find", "(IIIZ)V"⟩, 21) := ⟨⟨by decide +kernel, by decide +kernel⟩, List.mem_of_getElem? (i := 882) (by decide +kernel), List.mem_of_getElem? (i := 1082) (by decide +kernel), List.mem_of_getElem? (i := 1083) (by decide +kernel)⟩
theorem lw_p42 : lw_okq (⟨"DownhillPostModel", "flies", "(I)Z"⟩, 21) := ⟨⟨by decide +kernel, by decide +kernel⟩, List.mem_of_getElem? (i := 882) (by decide +kernel), List.mem_of_getElem? (i := 1087) (by decide +kernel), List.mem_of_getElem? (i := 1088) (by decide +kernel)⟩
theorem lw_p43 : lw_okq (⟨"DownhillPostModel", "goesOn", "(IZ)Z"⟩, 21) := ⟨⟨by decide +kernel, by decide +kernel⟩, List.mem_of_getElem? (i := 882) (by decide +kernel), List.mem_of_getElem? (i := 1091) (by decide +kernel), List.mem_of_getElem? (i := 1092) (by decide +kernel)⟩
theorem lw_p44 : lw_okq (⟨"DownhillPostModel", "takesRoad", "(IIII)Z"⟩, 21) := ⟨⟨by decide +kernel, by decide +kernel⟩, List.mem_of_getElem? (i := 882) (by decide +kernel), List.mem_of_getElem? (i := 1095) (by decide +kernel), List.mem_of_getElem? (i := 1096) (by decide +kernel)⟩
theorem lw_p45 : lw_okq (⟨"DownhillPostModel", "takesBalloon", "()Z"⟩, 21) := ⟨⟨by decide +kernel, by decide +kernel⟩, List.mem_of_getElem? (i := 882) (by decide +kernel), List.mem_of_getElem? (i := 1099) (by decide +kernel), List.mem_of_getElem? (i := 1100) (by decide +kernel)⟩
theorem lw_p46 : lw_okq (⟨"DownhillPostModel", "reachOf", "(IIZ)I"⟩, 21) := ⟨⟨by decide +kernel, by decide +kernel⟩, List.mem_of_getElem? (i := 882) (by decide +kernel), List.mem_of_getElem? (i := 1107) (by decide +kernel), List.mem_of_getElem? (i := 1108) (by decide +kernel)⟩
theorem lw_p47 : lw_okq (⟨"DownhillPostModel", "reached", "()I"⟩, 21) := ⟨⟨by decide +kernel, by decide +kernel⟩, List.mem_of_getElem? (i := 882) (by decide +kernel), List.mem_of_getElem? (i := 1111) (by decide +kernel), List.mem_of_getElem? (i := 1112) (by decide +kernel)⟩
def lw_privs_3 : List (MethodName × Nat) := [(⟨"DownhillPostModel", "between", "(II)I"⟩, 21), (⟨"DownhillPostModel", "addRoad", "(III)V"⟩, 21), (⟨"DownhillPostModel", "isRoad", "(I)Z"⟩, 21), (⟨"DownhillPostModel", "theSea", "()I"⟩, 21), (⟨"DownhillPostModel", "thePeak", "()I"⟩, 21), (⟨"DownhillPostModel", "needsOf", "(II)I"⟩, 21), (⟨"DownhillPostModel", "goesDown", "(III)Z"⟩, 21), (⟨"DownhillPostModel", "isAsked", "(III)Z"⟩, 21), (⟨"DownhillPostModel", "earliest", "(IIII)I"⟩, 21), (⟨"DownhillPostModel", "find", "(IIIZ)V"⟩, 21), (⟨"DownhillPostModel", "flies", "(I)Z"⟩, 21), (⟨"DownhillPostModel", "goesOn", "(IZ)Z"⟩, 21), (⟨"DownhillPostModel", "takesRoad", "(IIII)Z"⟩, 21), (⟨"DownhillPostModel", "takesBalloon", "()Z"⟩, 21), (⟨"DownhillPostModel", "reachOf", "(IIZ)I"⟩, 21), (⟨"DownhillPostModel", "reached", "()I"⟩, 21)]
theorem lw_r3 : ∀ q ∈ lw_privs_3, lw_okq q := List.forall_mem_cons.mpr ⟨lw_p32, List.forall_mem_cons.mpr ⟨lw_p33, List.forall_mem_cons.mpr ⟨lw_p34, List.forall_mem_cons.mpr ⟨lw_p35, List.forall_mem_cons.mpr ⟨lw_p36, List.forall_mem_cons.mpr ⟨lw_p37, List.forall_mem_cons.mpr ⟨lw_p38, List.forall_mem_cons.mpr ⟨lw_p39, List.forall_mem_cons.mpr ⟨lw_p40, List.forall_mem_cons.mpr ⟨lw_p41, List.forall_mem_cons.mpr ⟨lw_p42, List.forall_mem_cons.mpr ⟨lw_p43, List.forall_mem_cons.mpr ⟨lw_p44, List.forall_mem_cons.mpr ⟨lw_p45, List.forall_mem_cons.mpr ⟨lw_p46, List.forall_mem_cons.mpr ⟨lw_p47, fun _ h => absurd h List.not_mem_nil⟩⟩⟩⟩⟩⟩⟩⟩⟩⟩⟩⟩⟩⟩⟩⟩
theorem lw_p48 : lw_okq (⟨"DownhillPostModel", "back", "(III)I"⟩, 21) := ⟨⟨by decide +kernel, by decide +kernel⟩, List.mem_of_getElem? (i := 882) (by decide +kernel), List.mem_of_getElem? (i := 1130) (by decide +kernel), List.mem_of_getElem? (i := 1131) (by decide +kernel)⟩
theorem lw_p49 : lw_okq (⟨"DownhillPostModel", "reachWith", "(III)I"⟩, 21) := ⟨⟨by decide +kernel, by decide +kernel⟩, List.mem_of_getElem? (i := 882) (by decide +kernel), List.mem_of_getElem? (i := 1161) (by decide +kernel), List.mem_of_getElem? (i := 1162) (by decide +kernel)⟩
theorem lw_p50 : lw_okq (⟨"DownhillPostModel", "addLetter", "(III)V"⟩, 21) := ⟨⟨by decide +kernel, by decide +kernel⟩, List.mem_of_getElem? (i := 882) (by decide +kernel), List.mem_of_getElem? (i := 1169) (by decide +kernel), List.mem_of_getElem? (i := 1170) (by decide +kernel)⟩
theorem lw_p51 : lw_okq (⟨"DownhillPostModel", "sets", "(III)V"⟩, 21) := ⟨⟨by decide +kernel, by decide +kernel⟩, List.mem_of_getElem? (i := 882) (by decide +kernel), List.mem_of_getElem? (i := 1173) (by decide +kernel), List.mem_of_getElem? (i := 1174) (by decide +kernel)⟩
theorem lw_p52 : lw_okq (⟨"DownhillPostModel", "isPost", "(I)Z"⟩, 21) := ⟨⟨by decide +kernel, by decide +kernel⟩, List.mem_of_getElem? (i := 882) (by decide +kernel), List.mem_of_getElem? (i := 1181) (by decide +kernel), List.mem_of_getElem? (i := 1182) (by decide +kernel)⟩
theorem lw_p53 : lw_okq (⟨"DownhillPostModel", "isThere", "(I)Z"⟩, 21) := ⟨⟨by decide +kernel, by decide +kernel⟩, List.mem_of_getElem? (i := 882) (by decide +kernel), List.mem_of_getElem? (i := 1185) (by decide +kernel), List.mem_of_getElem? (i := 1186) (by decide +kernel)⟩
theorem lw_p54 : lw_okq (⟨"DownhillPostModel", "findWay", "(I)V"⟩, 21) := ⟨⟨by decide +kernel, by decide +kernel⟩, List.mem_of_getElem? (i := 882) (by decide +kernel), List.mem_of_getElem? (i := 1205) (by decide +kernel), List.mem_of_getElem? (i := 1206) (by decide +kernel)⟩
theorem lw_p55 : lw_okq (⟨"DownhillPostModel", "keeps", "(IIIII)Z"⟩, 21) := ⟨⟨by decide +kernel, by decide +kernel⟩, List.mem_of_getElem? (i := 882) (by decide +kernel), List.mem_of_getElem? (i := 1209) (by decide +kernel), List.mem_of_getElem? (i := 1210) (by decide +kernel)⟩
theorem lw_p56 : lw_okq (⟨"DownhillPostModel", "allThere", "()I"⟩, 21) := ⟨⟨by decide +kernel, by decide +kernel⟩, List.mem_of_getElem? (i := 882) (by decide +kernel), List.mem_of_getElem? (i := 1217) (by decide +kernel), List.mem_of_getElem? (i := 1218) (by decide +kernel)⟩
theorem lw_p57 : lw_okq (⟨"DownhillPostModel", "aDay", "()V"⟩, 21) := ⟨⟨by decide +kernel, by decide +kernel⟩, List.mem_of_getElem? (i := 882) (by decide +kernel), List.mem_of_getElem? (i := 1221) (by decide +kernel), List.mem_of_getElem? (i := 1222) (by decide +kernel)⟩
theorem lw_p58 : lw_okq (⟨"DownhillPostModel", "onTheirWay", "()I"⟩, 21) := ⟨⟨by decide +kernel, by decide +kernel⟩, List.mem_of_getElem? (i := 882) (by decide +kernel), List.mem_of_getElem? (i := 1233) (by decide +kernel), List.mem_of_getElem? (i := 1234) (by decide +kernel)⟩
theorem lw_p59 : lw_okq (⟨"DownhillPostModel", "moveAll", "(Z[I)V"⟩, 21) := ⟨⟨by decide +kernel, by decide +kernel⟩, List.mem_of_getElem? (i := 882) (by decide +kernel), List.mem_of_getElem? (i := 1241) (by decide +kernel), List.mem_of_getElem? (i := 1242) (by decide +kernel)⟩
theorem lw_p60 : lw_okq (⟨"DownhillPostModel", "daysTill", "(I)I"⟩, 21) := ⟨⟨by decide +kernel, by decide +kernel⟩, List.mem_of_getElem? (i := 882) (by decide +kernel), List.mem_of_getElem? (i := 1249) (by decide +kernel), List.mem_of_getElem? (i := 1250) (by decide +kernel)⟩
theorem lw_p61 : lw_okq (⟨"DownhillPostModel", "advance", "()V"⟩, 21) := ⟨⟨by decide +kernel, by decide +kernel⟩, List.mem_of_getElem? (i := 882) (by decide +kernel), List.mem_of_getElem? (i := 1269) (by decide +kernel), List.mem_of_getElem? (i := 1270) (by decide +kernel)⟩
theorem lw_p62 : lw_okq (⟨"DownhillPostModel", "byteAt", "(I)I"⟩, 21) := ⟨⟨by decide +kernel, by decide +kernel⟩, List.mem_of_getElem? (i := 882) (by decide +kernel), List.mem_of_getElem? (i := 1273) (by decide +kernel), List.mem_of_getElem? (i := 1274) (by decide +kernel)⟩
theorem lw_p63 : lw_okq (⟨"DownhillPostModel", "wantItem", "()V"⟩, 21) := ⟨⟨by decide +kernel, by decide +kernel⟩, List.mem_of_getElem? (i := 882) (by decide +kernel), List.mem_of_getElem? (i := 1286) (by decide +kernel), List.mem_of_getElem? (i := 1287) (by decide +kernel)⟩
def lw_privs_4 : List (MethodName × Nat) := [(⟨"DownhillPostModel", "back", "(III)I"⟩, 21), (⟨"DownhillPostModel", "reachWith", "(III)I"⟩, 21), (⟨"DownhillPostModel", "addLetter", "(III)V"⟩, 21), (⟨"DownhillPostModel", "sets", "(III)V"⟩, 21), (⟨"DownhillPostModel", "isPost", "(I)Z"⟩, 21), (⟨"DownhillPostModel", "isThere", "(I)Z"⟩, 21), (⟨"DownhillPostModel", "findWay", "(I)V"⟩, 21), (⟨"DownhillPostModel", "keeps", "(IIIII)Z"⟩, 21), (⟨"DownhillPostModel", "allThere", "()I"⟩, 21), (⟨"DownhillPostModel", "aDay", "()V"⟩, 21), (⟨"DownhillPostModel", "onTheirWay", "()I"⟩, 21), (⟨"DownhillPostModel", "moveAll", "(Z[I)V"⟩, 21), (⟨"DownhillPostModel", "daysTill", "(I)I"⟩, 21), (⟨"DownhillPostModel", "advance", "()V"⟩, 21), (⟨"DownhillPostModel", "byteAt", "(I)I"⟩, 21), (⟨"DownhillPostModel", "wantItem", "()V"⟩, 21)]
theorem lw_r4 : ∀ q ∈ lw_privs_4, lw_okq q := List.forall_mem_cons.mpr ⟨lw_p48, List.forall_mem_cons.mpr ⟨lw_p49, List.forall_mem_cons.mpr ⟨lw_p50, List.forall_mem_cons.mpr ⟨lw_p51, List.forall_mem_cons.mpr ⟨lw_p52, List.forall_mem_cons.mpr ⟨lw_p53, List.forall_mem_cons.mpr ⟨lw_p54, List.forall_mem_cons.mpr ⟨lw_p55, List.forall_mem_cons.mpr ⟨lw_p56, List.forall_mem_cons.mpr ⟨lw_p57, List.forall_mem_cons.mpr ⟨lw_p58, List.forall_mem_cons.mpr ⟨lw_p59, List.forall_mem_cons.mpr ⟨lw_p60, List.forall_mem_cons.mpr ⟨lw_p61, List.forall_mem_cons.mpr ⟨lw_p62, List.forall_mem_cons.mpr ⟨lw_p63, fun _ h => absurd h List.not_mem_nil⟩⟩⟩⟩⟩⟩⟩⟩⟩⟩⟩⟩⟩⟩⟩⟩
theorem lw_p64 : lw_okq (⟨"DownhillPostModel", "isWord", "(J)Z"⟩, 21) := ⟨⟨by decide +kernel, by decide +kernel⟩, List.mem_of_getElem? (i := 882) (by decide +kernel), List.mem_of_getElem? (i := 1291) (by decide +kernel), List.mem_of_getElem? (i := 1292) (by decide +kernel)⟩
theorem lw_p65 : lw_okq (⟨"DownhillPostModel", "wantVillage", "()V"⟩, 21) := ⟨⟨by decide +kernel, by decide +kernel⟩, List.mem_of_getElem? (i := 882) (by decide +kernel), List.mem_of_getElem? (i := 1295) (by decide +kernel), List.mem_of_getElem? (i := 1296) (by decide +kernel)⟩
theorem lw_p66 : lw_okq (⟨"DownhillPostModel", "wantNumber", "(II)I"⟩, 21) := ⟨⟨by decide +kernel, by decide +kernel⟩, List.mem_of_getElem? (i := 882) (by decide +kernel), List.mem_of_getElem? (i := 1299) (by decide +kernel), List.mem_of_getElem? (i := 1300) (by decide +kernel)⟩
theorem lw_p67 : lw_okq (⟨"DownhillPostModel", "wantRoad", "()V"⟩, 21) := ⟨⟨by decide +kernel, by decide +kernel⟩, List.mem_of_getElem? (i := 882) (by decide +kernel), List.mem_of_getElem? (i := 1305) (by decide +kernel), List.mem_of_getElem? (i := 1306) (by decide +kernel)⟩
theorem lw_p68 : lw_okq (⟨"DownhillPostModel", "wantWord", "(J)V"⟩, 21) := ⟨⟨by decide +kernel, by decide +kernel⟩, List.mem_of_getElem? (i := 882) (by decide +kernel), List.mem_of_getElem? (i := 1310) (by decide +kernel), List.mem_of_getElem? (i := 1311) (by decide +kernel)⟩
theorem lw_p69 : lw_okq (⟨"DownhillPostModel", "mayWant", "(JIII)I"⟩, 21) := ⟨⟨by decide +kernel, by decide +kernel⟩, List.mem_of_getElem? (i := 882) (by decide +kernel), List.mem_of_getElem? (i := 1315) (by decide +kernel), List.mem_of_getElem? (i := 1316) (by decide +kernel)⟩
theorem lw_p70 : lw_okq (⟨"DownhillPostModel", "wantSlide", "()V"⟩, 21) := ⟨⟨by decide +kernel, by decide +kernel⟩, List.mem_of_getElem? (i := 882) (by decide +kernel), List.mem_of_getElem? (i := 1320) (by decide +kernel), List.mem_of_getElem? (i := 1321) (by decide +kernel)⟩
theorem lw_p71 : lw_okq (⟨"DownhillPostModel", "wantEvery", "()V"⟩, 21) := ⟨⟨by decide +kernel, by decide +kernel⟩, List.mem_of_getElem? (i := 882) (by decide +kernel), List.mem_of_getElem? (i := 1325) (by decide +kernel), List.mem_of_getElem? (i := 1326) (by decide +kernel)⟩
theorem lw_p72 : lw_okq (⟨"DownhillPostModel", "kindHere", "()I"⟩, 21) := ⟨⟨by decide +kernel, by decide +kernel⟩, List.mem_of_getElem? (i := 882) (by decide +kernel), List.mem_of_getElem? (i := 1329) (by decide +kernel), List.mem_of_getElem? (i := 1330) (by decide +kernel)⟩
theorem lw_p73 : lw_okq (⟨"DownhillPostModel", "wantLetter", "(I)V"⟩, 21) := ⟨⟨by decide +kernel, by decide +kernel⟩, List.mem_of_getElem? (i := 882) (by decide +kernel), List.mem_of_getElem? (i := 1339) (by decide +kernel), List.mem_of_getElem? (i := 1340) (by decide +kernel)⟩
theorem lw_p74 : lw_okq (⟨"DownhillPostModel", "isPart", "(III)Z"⟩, 21) := ⟨⟨by decide +kernel, by decide +kernel⟩, List.mem_of_getElem? (i := 882) (by decide +kernel), List.mem_of_getElem? (i := 1363) (by decide +kernel), List.mem_of_getElem? (i := 1364) (by decide +kernel)⟩
def lw_privs_5 : List (MethodName × Nat) := [(⟨"DownhillPostModel", "isWord", "(J)Z"⟩, 21), (⟨"DownhillPostModel", "wantVillage", "()V"⟩, 21), (⟨"DownhillPostModel", "wantNumber", "(II)I"⟩, 21), (⟨"DownhillPostModel", "wantRoad", "()V"⟩, 21), (⟨"DownhillPostModel", "wantWord", "(J)V"⟩, 21), (⟨"DownhillPostModel", "mayWant", "(JIII)I"⟩, 21), (⟨"DownhillPostModel", "wantSlide", "()V"⟩, 21), (⟨"DownhillPostModel", "wantEvery", "()V"⟩, 21), (⟨"DownhillPostModel", "kindHere", "()I"⟩, 21), (⟨"DownhillPostModel", "wantLetter", "(I)V"⟩, 21), (⟨"DownhillPostModel", "isPart", "(III)Z"⟩, 21)]
theorem lw_r5 : ∀ q ∈ lw_privs_5, lw_okq q := List.forall_mem_cons.mpr ⟨lw_p64, List.forall_mem_cons.mpr ⟨lw_p65, List.forall_mem_cons.mpr ⟨lw_p66, List.forall_mem_cons.mpr ⟨lw_p67, List.forall_mem_cons.mpr ⟨lw_p68, List.forall_mem_cons.mpr ⟨lw_p69, List.forall_mem_cons.mpr ⟨lw_p70, List.forall_mem_cons.mpr ⟨lw_p71, List.forall_mem_cons.mpr ⟨lw_p72, List.forall_mem_cons.mpr ⟨lw_p73, List.forall_mem_cons.mpr ⟨lw_p74, fun _ h => absurd h List.not_mem_nil⟩⟩⟩⟩⟩⟩⟩⟩⟩⟩⟩
def lw_privs : List (MethodName × Nat) := lw_privs_1 ++ (lw_privs_2 ++ (lw_privs_3 ++ (lw_privs_4 ++ (lw_privs_5))))
def lw_tbl : List Cond := k2_sels lw_privs ++ tables_1
theorem lw_privs_ok : ∀ q ∈ lw_privs, lw_okq q := by
  show ∀ q ∈ lw_privs_1 ++ (lw_privs_2 ++ (lw_privs_3 ++ (lw_privs_4 ++ (lw_privs_5)))), lw_okq q
  exact List.forall_mem_append.mpr ⟨lw_r1, List.forall_mem_append.mpr ⟨lw_r2, List.forall_mem_append.mpr ⟨lw_r3, List.forall_mem_append.mpr ⟨lw_r4, lw_r5⟩⟩⟩⟩
-- ===== end of PART A; then your names; then what follows =====
end
section
def RX0 : String := "DownhillPost$Land"
def TX0 : u_T := fun k => match k with
  | 0 => ("DownhillPost$Land", "villages", "I", false)
  | 1 => ("DownhillPost$Land", "heights", "[I", true)
  | 2 => ("DownhillPost$Land", "hermits", "I", false)
  | 3 => ("DownhillPost$Land", "roads", "I", false)
  | 4 => ("DownhillPost$Land", "ones", "[I", true)
  | 5 => ("DownhillPost$Land", "others", "[I", true)
  | 6 => ("DownhillPost$Land", "lengths", "[I", true)
  | 7 => ("DownhillPost$Land", "every", "I", false)
  | 8 => ("DownhillPost$Land", "day", "I", false)
  | 9 => ("DownhillPost$Land", "letters", "I", false)
  | 10 => ("DownhillPost$Land", "kinds", "[I", true)
  | 11 => ("DownhillPost$Land", "places", "[I", true)
  | 12 => ("DownhillPost$Land", "goals", "[I", true)
  | 13 => ("DownhillPost$Land", "sents", "[I", true)
  | _ => ("DownhillPost$Land", "lefts", "[I", true)
def tyX0 : Nat → FieldType := fun k => match k with
  | 0 => .int
  | 1 => .array .int
  | 2 => .int
  | 3 => .int
  | 4 => .array .int
  | 5 => .array .int
  | 6 => .array .int
  | 7 => .int
  | 8 => .int
  | 9 => .int
  | 10 => .array .int
  | 11 => .array .int
  | 12 => .array .int
  | 13 => .array .int
  | _ => .array .int
theorem nmX0 : ∀ a, a < 15 → ∀ b, b < 15 → a ≠ b → (TX0 a).2.1 ≠ (TX0 b).2.1 := by decide +kernel
theorem tyX0_ok : ∀ k, k < 15 → parseFieldDescriptor (TX0 k).2.2.1 = some (tyX0 k) := by decide +kernel
abbrev cX0_init : ByteArray := prog_2_method_1_code
def yX0_init : MethodName := ⟨RX0, "<init>", "()V"⟩
abbrev cX0_become : ByteArray := prog_2_method_2_code
def yX0_become : MethodName := ⟨RX0, "become", "(LDownhillPost$Land;)V"⟩
abbrev cX0_hasVillage : ByteArray := prog_2_method_3_code
def yX0_hasVillage : MethodName := ⟨RX0, "hasVillage", "(I)Z"⟩
abbrev cX0_hasRoad : ByteArray := prog_2_method_4_code
def yX0_hasRoad : MethodName := ⟨RX0, "hasRoad", "(I)Z"⟩
abbrev cX0_hasLetter : ByteArray := prog_2_method_5_code
def yX0_hasLetter : MethodName := ⟨RX0, "hasLetter", "(I)Z"⟩
abbrev cX0_villagesFull : ByteArray := prog_2_method_6_code
def yX0_villagesFull : MethodName := ⟨RX0, "villagesFull", "()Z"⟩
abbrev cX0_roadsFull : ByteArray := prog_2_method_7_code
def yX0_roadsFull : MethodName := ⟨RX0, "roadsFull", "()Z"⟩
abbrev cX0_lettersFull : ByteArray := prog_2_method_8_code
def yX0_lettersFull : MethodName := ⟨RX0, "lettersFull", "()Z"⟩
abbrev cX0_addVillage : ByteArray := prog_2_method_9_code
def yX0_addVillage : MethodName := ⟨RX0, "addVillage", "(IZ)I"⟩
abbrev cX0_addRoad : ByteArray := prog_2_method_10_code
def yX0_addRoad : MethodName := ⟨RX0, "addRoad", "(III)I"⟩
abbrev cX0_addLetter : ByteArray := prog_2_method_11_code
def yX0_addLetter : MethodName := ⟨RX0, "addLetter", "(III)I"⟩
abbrev cX0_heightOf : ByteArray := prog_2_method_12_code
def yX0_heightOf : MethodName := ⟨RX0, "heightOf", "(I)I"⟩
abbrev cX0_setHeight : ByteArray := prog_2_method_13_code
def yX0_setHeight : MethodName := ⟨RX0, "setHeight", "(II)V"⟩
abbrev cX0_isHermits : ByteArray := prog_2_method_14_code
def yX0_isHermits : MethodName := ⟨RX0, "isHermits", "(I)Z"⟩
abbrev cX0_setHermits : ByteArray := prog_2_method_15_code
def yX0_setHermits : MethodName := ⟨RX0, "setHermits", "(IZ)V"⟩
abbrev cX0_allVillages : ByteArray := prog_2_method_16_code
def yX0_allVillages : MethodName := ⟨RX0, "allVillages", "()I"⟩
abbrev cX0_roadsOf : ByteArray := prog_2_method_17_code
def yX0_roadsOf : MethodName := ⟨RX0, "roadsOf", "(I)I"⟩
abbrev cX0_areJoined : ByteArray := prog_2_method_18_code
def yX0_areJoined : MethodName := ⟨RX0, "areJoined", "(II)Z"⟩
abbrev cX0_lowest : ByteArray := prog_2_method_19_code
def yX0_lowest : MethodName := ⟨RX0, "lowest", "()I"⟩
abbrev cX0_highest : ByteArray := prog_2_method_20_code
def yX0_highest : MethodName := ⟨RX0, "highest", "()I"⟩
abbrev cX0_heightsTogether : ByteArray := prog_2_method_21_code
def yX0_heightsTogether : MethodName := ⟨RX0, "heightsTogether", "()I"⟩
abbrev cX0_takes : ByteArray := prog_2_method_22_code
def yX0_takes : MethodName := ⟨RX0, "takes", "(II)Z"⟩
abbrev cX0_carries : ByteArray := prog_2_method_23_code
def yX0_carries : MethodName := ⟨RX0, "carries", "(III)Z"⟩
abbrev cX0_leadsInto : ByteArray := prog_2_method_24_code
def yX0_leadsInto : MethodName := ⟨RX0, "leadsInto", "(III)Z"⟩
abbrev cX0_balloonTakes : ByteArray := prog_2_method_25_code
def yX0_balloonTakes : MethodName := ⟨RX0, "balloonTakes", "(I)Z"⟩
abbrev cX0_liesIn : ByteArray := prog_2_method_26_code
def yX0_liesIn : MethodName := ⟨RX0, "liesIn", "(II)Z"⟩
abbrev cX0_isThere : ByteArray := prog_2_method_27_code
def yX0_isThere : MethodName := ⟨RX0, "isThere", "(I)Z"⟩
abbrev cX0_lettersIn : ByteArray := prog_2_method_28_code
def yX0_lettersIn : MethodName := ⟨RX0, "lettersIn", "(I)I"⟩
abbrev cX0_lettersThere : ByteArray := prog_2_method_29_code
def yX0_lettersThere : MethodName := ⟨RX0, "lettersThere", "()I"⟩
abbrev cX0_lettersOnTheirWay : ByteArray := prog_2_method_30_code
def yX0_lettersOnTheirWay : MethodName := ⟨RX0, "lettersOnTheirWay", "()I"⟩
abbrev cX0_passDay : ByteArray := prog_2_method_31_code
def yX0_passDay : MethodName := ⟨RX0, "passDay", "(ILDownhillPost$Ways;I)V"⟩
def RX1 : String := "DownhillPost$LandText"
def TX1 : u_T := fun k => match k with
  | _ => ("", "", "", false)
def tyX1 : Nat → FieldType := fun k => match k with
  | _ => .int
theorem nmX1 : ∀ a, a < 0 → ∀ b, b < 0 → a ≠ b → (TX1 a).2.1 ≠ (TX1 b).2.1 := by decide +kernel
theorem tyX1_ok : ∀ k, k < 0 → parseFieldDescriptor (TX1 k).2.2.1 = some (tyX1 k) := by decide +kernel
abbrev cX1_bring : ByteArray := prog_3_method_2_code
def yX1_bring : MethodName := ⟨RX1, "bring", "(LDownhillPost$Tape;LDownhillPost$Land;)I"⟩
abbrev cX1_bringItem : ByteArray := prog_3_method_3_code
def yX1_bringItem : MethodName := ⟨RX1, "bringItem", "(LDownhillPost$Tape;LDownhillPost$Land;)Z"⟩
abbrev cX1_bringVillage : ByteArray := prog_3_method_4_code
def yX1_bringVillage : MethodName := ⟨RX1, "bringVillage", "(LDownhillPost$Tape;LDownhillPost$Land;)Z"⟩
abbrev cX1_bringRoad : ByteArray := prog_3_method_5_code
def yX1_bringRoad : MethodName := ⟨RX1, "bringRoad", "(LDownhillPost$Tape;LDownhillPost$Land;)Z"⟩
abbrev cX1_bringSlide : ByteArray := prog_3_method_6_code
def yX1_bringSlide : MethodName := ⟨RX1, "bringSlide", "(LDownhillPost$Tape;LDownhillPost$Land;)Z"⟩
abbrev cX1_bringEvery : ByteArray := prog_3_method_7_code
def yX1_bringEvery : MethodName := ⟨RX1, "bringEvery", "(LDownhillPost$Tape;LDownhillPost$Land;)Z"⟩
abbrev cX1_bringLetter : ByteArray := prog_3_method_8_code
def yX1_bringLetter : MethodName := ⟨RX1, "bringLetter", "(LDownhillPost$Tape;LDownhillPost$Land;I)Z"⟩
abbrev cX1_standsVillage : ByteArray := prog_3_method_9_code
def yX1_standsVillage : MethodName := ⟨RX1, "standsVillage", "(LDownhillPost$Tape;LDownhillPost$Land;)Z"⟩
abbrev cX1_kindNamed : ByteArray := prog_3_method_10_code
def yX1_kindNamed : MethodName := ⟨RX1, "kindNamed", "(LDownhillPost$Tape;)I"⟩
abbrev cX1_nameOf : ByteArray := prog_3_method_11_code
def yX1_nameOf : MethodName := ⟨RX1, "nameOf", "(I)Ljava/lang/String;"⟩
def RX2 : String := "DownhillPost$Post"
def TX2 : u_T := fun k => match k with
  | _ => ("", "", "", false)
def tyX2 : Nat → FieldType := fun k => match k with
  | _ => .int
theorem nmX2 : ∀ a, a < 0 → ∀ b, b < 0 → a ≠ b → (TX2 a).2.1 ≠ (TX2 b).2.1 := by decide +kernel
theorem tyX2_ok : ∀ k, k < 0 → parseFieldDescriptor (TX2 k).2.2.1 = some (tyX2 k) := by decide +kernel
abbrev cX2_isUnder : ByteArray := prog_4_method_2_code
def yX2_isUnder : MethodName := ⟨RX2, "isUnder", "(II)Z"⟩
abbrev cX2_daysFor : ByteArray := prog_4_method_3_code
def yX2_daysFor : MethodName := ⟨RX2, "daysFor", "(II)I"⟩
abbrev cX2_leastDrop : ByteArray := prog_4_method_4_code
def yX2_leastDrop : MethodName := ⟨RX2, "leastDrop", "(I)I"⟩
def RX3 : String := "DownhillPost$Sheet"
def TX3 : u_T := fun k => match k with
  | 0 => ("DownhillPost$Sheet", "bits", "I", false)
  | 1 => ("DownhillPost$Sheet", "size", "I", false)
  | _ => ("DownhillPost$Sheet", "numbers", "[J", true)
def tyX3 : Nat → FieldType := fun k => match k with
  | 0 => .int
  | 1 => .int
  | _ => .array .long
theorem nmX3 : ∀ a, a < 3 → ∀ b, b < 3 → a ≠ b → (TX3 a).2.1 ≠ (TX3 b).2.1 := by decide +kernel
theorem tyX3_ok : ∀ k, k < 3 → parseFieldDescriptor (TX3 k).2.2.1 = some (tyX3 k) := by decide +kernel
abbrev cX3_init : ByteArray := prog_5_method_1_code
def yX3_init : MethodName := ⟨RX3, "<init>", "()V"⟩
abbrev cX3_isWidth : ByteArray := prog_5_method_2_code
def yX3_isWidth : MethodName := ⟨RX3, "isWidth", "(I)Z"⟩
abbrev cX3_isMissing : ByteArray := prog_5_method_3_code
def yX3_isMissing : MethodName := ⟨RX3, "isMissing", "()Z"⟩
abbrev cX3_renew : ByteArray := prog_5_method_4_code
def yX3_renew : MethodName := ⟨RX3, "renew", "(II)V"⟩
abbrev cX3_has : ByteArray := prog_5_method_5_code
def yX3_has : MethodName := ⟨RX3, "has", "(I)Z"⟩
abbrev cX3_hasRun : ByteArray := prog_5_method_6_code
def yX3_hasRun : MethodName := ⟨RX3, "hasRun", "(II)Z"⟩
abbrev cX3_number : ByteArray := prog_5_method_7_code
def yX3_number : MethodName := ⟨RX3, "number", "(I)J"⟩
abbrev cX3_put : ByteArray := prog_5_method_8_code
def yX3_put : MethodName := ⟨RX3, "put", "(IJ)V"⟩
abbrev cX3_narrowed : ByteArray := prog_5_method_9_code
def yX3_narrowed : MethodName := ⟨RX3, "narrowed", "(J)J"⟩
def RX4 : String := "DownhillPost$Tape"
def TX4 : u_T := fun k => match k with
  | 0 => ("DownhillPost$Tape", "bytes", "[I", true)
  | 1 => ("DownhillPost$Tape", "length", "I", false)
  | 2 => ("DownhillPost$Tape", "start", "I", false)
  | 3 => ("DownhillPost$Tape", "end", "I", false)
  | 4 => ("DownhillPost$Tape", "sort", "I", false)
  | _ => ("DownhillPost$Tape", "value", "I", false)
def tyX4 : Nat → FieldType := fun k => match k with
  | 0 => .array .int
  | 1 => .int
  | 2 => .int
  | 3 => .int
  | 4 => .int
  | _ => .int
theorem nmX4 : ∀ a, a < 6 → ∀ b, b < 6 → a ≠ b → (TX4 a).2.1 ≠ (TX4 b).2.1 := by decide +kernel
theorem tyX4_ok : ∀ k, k < 6 → parseFieldDescriptor (TX4 k).2.2.1 = some (tyX4 k) := by decide +kernel
abbrev cX4_init : ByteArray := prog_6_method_1_code
def yX4_init : MethodName := ⟨RX4, "<init>", "()V"⟩
abbrev cX4_append : ByteArray := prog_6_method_2_code
def yX4_append : MethodName := ⟨RX4, "append", "(I)V"⟩
abbrev cX4_rewind : ByteArray := prog_6_method_3_code
def yX4_rewind : MethodName := ⟨RX4, "rewind", "()V"⟩
abbrev cX4_advance : ByteArray := prog_6_method_4_code
def yX4_advance : MethodName := ⟨RX4, "advance", "()V"⟩
abbrev cX4_byteAt : ByteArray := prog_6_method_5_code
def yX4_byteAt : MethodName := ⟨RX4, "byteAt", "(I)I"⟩
abbrev cX4_sortOf : ByteArray := prog_6_method_6_code
def yX4_sortOf : MethodName := ⟨RX4, "sortOf", "(I)I"⟩
abbrev cX4_passWord : ByteArray := prog_6_method_7_code
def yX4_passWord : MethodName := ⟨RX4, "passWord", "()V"⟩
abbrev cX4_passNumber : ByteArray := prog_6_method_8_code
def yX4_passNumber : MethodName := ⟨RX4, "passNumber", "()V"⟩
abbrev cX4_isEnd : ByteArray := prog_6_method_9_code
def yX4_isEnd : MethodName := ⟨RX4, "isEnd", "()Z"⟩
abbrev cX4_isSemicolon : ByteArray := prog_6_method_10_code
def yX4_isSemicolon : MethodName := ⟨RX4, "isSemicolon", "()Z"⟩
abbrev cX4_isNumber : ByteArray := prog_6_method_11_code
def yX4_isNumber : MethodName := ⟨RX4, "isNumber", "(II)Z"⟩
abbrev cX4_isWord : ByteArray := prog_6_method_12_code
def yX4_isWord : MethodName := ⟨RX4, "isWord", "(Ljava/lang/String;)Z"⟩
def RX5 : String := "DownhillPost$Ways"
def TX5 : u_T := fun k => match k with
  | 0 => ("DownhillPost$Ways", "steps", "[I", true)
  | 1 => ("DownhillPost$Ways", "downs", "[I", true)
  | 2 => ("DownhillPost$Ways", "villages", "I", false)
  | 3 => ("DownhillPost$Ways", "sea", "I", false)
  | 4 => ("DownhillPost$Ways", "peak", "I", false)
  | 5 => ("DownhillPost$Ways", "every", "I", false)
  | 6 => ("DownhillPost$Ways", "balloon", "Z", false)
  | 7 => ("DownhillPost$Ways", "stop", "I", false)
  | _ => ("DownhillPost$Ways", "stopDays", "I", false)
def tyX5 : Nat → FieldType := fun k => match k with
  | 0 => .array .int
  | 1 => .array .int
  | 2 => .int
  | 3 => .int
  | 4 => .int
  | 5 => .int
  | 6 => .boolean
  | 7 => .int
  | _ => .int
theorem nmX5 : ∀ a, a < 9 → ∀ b, b < 9 → a ≠ b → (TX5 a).2.1 ≠ (TX5 b).2.1 := by decide +kernel
theorem tyX5_ok : ∀ k, k < 9 → parseFieldDescriptor (TX5 k).2.2.1 = some (tyX5 k) := by decide +kernel
abbrev cX5_init : ByteArray := prog_7_method_1_code
def yX5_init : MethodName := ⟨RX5, "<init>", "()V"⟩
abbrev cX5_layOut : ByteArray := prog_7_method_2_code
def yX5_layOut : MethodName := ⟨RX5, "layOut", "(LDownhillPost$Land;I)V"⟩
abbrev cX5_layStep : ByteArray := prog_7_method_3_code
def yX5_layStep : MethodName := ⟨RX5, "layStep", "(LDownhillPost$Land;IIII)V"⟩
abbrev cX5_joinSteps : ByteArray := prog_7_method_4_code
def yX5_joinSteps : MethodName := ⟨RX5, "joinSteps", "()V"⟩
abbrev cX5_shortenBy : ByteArray := prog_7_method_5_code
def yX5_shortenBy : MethodName := ⟨RX5, "shortenBy", "(II)V"⟩
abbrev cX5_areHere : ByteArray := prog_7_method_6_code
def yX5_areHere : MethodName := ⟨RX5, "areHere", "(II)Z"⟩
abbrev cX5_stepDays : ByteArray := prog_7_method_7_code
def yX5_stepDays : MethodName := ⟨RX5, "stepDays", "(II)I"⟩
abbrev cX5_downDays : ByteArray := prog_7_method_8_code
def yX5_downDays : MethodName := ⟨RX5, "downDays", "(II)I"⟩
abbrev cX5_comesDown : ByteArray := prog_7_method_9_code
def yX5_comesDown : MethodName := ⟨RX5, "comesDown", "(II)Z"⟩
abbrev cX5_comes : ByteArray := prog_7_method_10_code
def yX5_comes : MethodName := ⟨RX5, "comes", "(II)Z"⟩
abbrev cX5_earliest : ByteArray := prog_7_method_11_code
def yX5_earliest : MethodName := ⟨RX5, "earliest", "(III)I"⟩
abbrev cX5_flightFrom : ByteArray := prog_7_method_12_code
def yX5_flightFrom : MethodName := ⟨RX5, "flightFrom", "(I)I"⟩
abbrev cX5_answered : ByteArray := prog_7_method_13_code
def yX5_answered : MethodName := ⟨RX5, "answered", "(III)I"⟩
abbrev cX5_allFrom : ByteArray := prog_7_method_14_code
def yX5_allFrom : MethodName := ⟨RX5, "allFrom", "(I)I"⟩
abbrev cX5_allInto : ByteArray := prog_7_method_15_code
def yX5_allInto : MethodName := ⟨RX5, "allInto", "(I)I"⟩
abbrev cX5_allDownFrom : ByteArray := prog_7_method_16_code
def yX5_allDownFrom : MethodName := ⟨RX5, "allDownFrom", "(I)I"⟩
abbrev cX5_bestHome : ByteArray := prog_7_method_17_code
def yX5_bestHome : MethodName := ⟨RX5, "bestHome", "(II)I"⟩
abbrev cX5_lastAnswer : ByteArray := prog_7_method_18_code
def yX5_lastAnswer : MethodName := ⟨RX5, "lastAnswer", "(III)I"⟩
abbrev cX5_silentPairs : ByteArray := prog_7_method_19_code
def yX5_silentPairs : MethodName := ⟨RX5, "silentPairs", "()I"⟩
abbrev cX5_lookAhead : ByteArray := prog_7_method_20_code
def yX5_lookAhead : MethodName := ⟨RX5, "lookAhead", "(III)V"⟩
abbrev cX5_daysInto : ByteArray := prog_7_method_21_code
def yX5_daysInto : MethodName := ⟨RX5, "daysInto", "(III)I"⟩
def RX6 : String := "DownhillPost"
def TX6 : u_T := fun k => match k with
  | 0 => ("DownhillPost", "land", "LDownhillPost$Land;", true)
  | 1 => ("DownhillPost", "kept", "LDownhillPost$Land;", true)
  | 2 => ("DownhillPost", "draft", "LDownhillPost$Land;", true)
  | 3 => ("DownhillPost", "ways", "LDownhillPost$Ways;", true)
  | 4 => ("DownhillPost", "tape", "LDownhillPost$Tape;", true)
  | 5 => ("DownhillPost", "sheets", "[LDownhillPost$Sheet;", true)
  | 6 => ("DownhillPost", "tally", "[I", true)
  | _ => ("DownhillPost", "imageKept", "Z", false)
def tyX6 : Nat → FieldType := fun k => match k with
  | 0 => .object "DownhillPost$Land"
  | 1 => .object "DownhillPost$Land"
  | 2 => .object "DownhillPost$Land"
  | 3 => .object "DownhillPost$Ways"
  | 4 => .object "DownhillPost$Tape"
  | 5 => .array (.object "DownhillPost$Sheet")
  | 6 => .array .int
  | _ => .boolean
theorem nmX6 : ∀ a, a < 8 → ∀ b, b < 8 → a ≠ b → (TX6 a).2.1 ≠ (TX6 b).2.1 := by decide +kernel
theorem tyX6_ok : ∀ k, k < 8 → parseFieldDescriptor (TX6 k).2.2.1 = some (tyX6 k) := by decide +kernel
abbrev cX6_init : ByteArray := prog_1_method_1_code
def yX6_init : MethodName := ⟨RX6, "<init>", "()V"⟩
abbrev cX6_village : ByteArray := prog_1_method_2_code
def yX6_village : MethodName := ⟨RX6, "village", "(I)I"⟩
abbrev cX6_villageOf : ByteArray := prog_1_method_3_code
def yX6_villageOf : MethodName := ⟨RX6, "villageOf", "(II)I"⟩
abbrev cX6_slide : ByteArray := prog_1_method_4_code
def yX6_slide : MethodName := ⟨RX6, "slide", "(II)I"⟩
abbrev cX6_hermit : ByteArray := prog_1_method_5_code
def yX6_hermit : MethodName := ⟨RX6, "hermit", "(IZ)I"⟩
abbrev cX6_road : ByteArray := prog_1_method_6_code
def yX6_road : MethodName := ⟨RX6, "road", "(III)I"⟩
abbrev cX6_roadOf : ByteArray := prog_1_method_7_code
def yX6_roadOf : MethodName := ⟨RX6, "roadOf", "(II)I"⟩
abbrev cX6_every : ByteArray := prog_1_method_8_code
def yX6_every : MethodName := ⟨RX6, "every", "(I)I"⟩
abbrev cX6_sea : ByteArray := prog_1_method_9_code
def yX6_sea : MethodName := ⟨RX6, "sea", "()I"⟩
abbrev cX6_peak : ByteArray := prog_1_method_10_code
def yX6_peak : MethodName := ⟨RX6, "peak", "()I"⟩
abbrev cX6_needs : ByteArray := prog_1_method_11_code
def yX6_needs : MethodName := ⟨RX6, "needs", "(II)I"⟩
abbrev cX6_goes : ByteArray := prog_1_method_12_code
def yX6_goes : MethodName := ⟨RX6, "goes", "(IIZ)I"⟩
abbrev cX6_least : ByteArray := prog_1_method_13_code
def yX6_least : MethodName := ⟨RX6, "least", "(III)I"⟩
abbrev cX6_reach : ByteArray := prog_1_method_14_code
def yX6_reach : MethodName := ⟨RX6, "reach", "(II)I"⟩
abbrev cX6_whence : ByteArray := prog_1_method_15_code
def yX6_whence : MethodName := ⟨RX6, "whence", "(II)I"⟩
abbrev cX6_below : ByteArray := prog_1_method_16_code
def yX6_below : MethodName := ⟨RX6, "below", "(II)I"⟩
abbrev cX6_round : ByteArray := prog_1_method_17_code
def yX6_round : MethodName := ⟨RX6, "round", "(III)I"⟩
abbrev cX6_live : ByteArray := prog_1_method_18_code
def yX6_live : MethodName := ⟨RX6, "live", "(II)I"⟩
abbrev cX6_quiet : ByteArray := prog_1_method_19_code
def yX6_quiet : MethodName := ⟨RX6, "quiet", "(I)I"⟩
abbrev cX6_kind : ByteArray := prog_1_method_20_code
def yX6_kind : MethodName := ⟨RX6, "kind", "(II)I"⟩
abbrev cX6_rise : ByteArray := prog_1_method_21_code
def yX6_rise : MethodName := ⟨RX6, "rise", "(III)I"⟩
abbrev cX6_fall : ByteArray := prog_1_method_22_code
def yX6_fall : MethodName := ⟨RX6, "fall", "(III)I"⟩
abbrev cX6_dig : ByteArray := prog_1_method_23_code
def yX6_dig : MethodName := ⟨RX6, "dig", "(II)I"⟩
abbrev cX6_send : ByteArray := prog_1_method_24_code
def yX6_send : MethodName := ⟨RX6, "send", "(III)I"⟩
abbrev cX6_of : ByteArray := prog_1_method_25_code
def yX6_of : MethodName := ⟨RX6, "of", "(II)I"⟩
abbrev cX6_turn : ByteArray := prog_1_method_26_code
def yX6_turn : MethodName := ⟨RX6, "turn", "(II)I"⟩
abbrev cX6_as : ByteArray := prog_1_method_27_code
def yX6_as : MethodName := ⟨RX6, "as", "(II)I"⟩
abbrev cX6_next : ByteArray := prog_1_method_28_code
def yX6_next : MethodName := ⟨RX6, "next", "(I)I"⟩
abbrev cX6_days : ByteArray := prog_1_method_29_code
def yX6_days : MethodName := ⟨RX6, "days", "(I)I"⟩
abbrev cX6_day : ByteArray := prog_1_method_30_code
def yX6_day : MethodName := ⟨RX6, "day", "(I)I"⟩
abbrev cX6_now : ByteArray := prog_1_method_31_code
def yX6_now : MethodName := ⟨RX6, "now", "(I)I"⟩
abbrev cX6_on : ByteArray := prog_1_method_32_code
def yX6_on : MethodName := ⟨RX6, "on", "(II)I"⟩
abbrev cX6_when : ByteArray := prog_1_method_33_code
def yX6_when : MethodName := ⟨RX6, "when", "(I)I"⟩
abbrev cX6_first : ByteArray := prog_1_method_34_code
def yX6_first : MethodName := ⟨RX6, "first", "(II)I"⟩
abbrev cX6_feed : ByteArray := prog_1_method_35_code
def yX6_feed : MethodName := ⟨RX6, "feed", "(II)I"⟩
abbrev cX6_wipe : ByteArray := prog_1_method_36_code
def yX6_wipe : MethodName := ⟨RX6, "wipe", "()I"⟩
abbrev cX6_text : ByteArray := prog_1_method_37_code
def yX6_text : MethodName := ⟨RX6, "text", "()I"⟩
abbrev cX6_sheet : ByteArray := prog_1_method_38_code
def yX6_sheet : MethodName := ⟨RX6, "sheet", "(III)I"⟩
abbrev cX6_write : ByteArray := prog_1_method_39_code
def yX6_write : MethodName := ⟨RX6, "write", "(IIJ)J"⟩
abbrev cX6_copy : ByteArray := prog_1_method_40_code
def yX6_copy : MethodName := ⟨RX6, "copy", "(IIIII)I"⟩
abbrev cX6_lays : ByteArray := prog_1_method_41_code
def yX6_lays : MethodName := ⟨RX6, "lays", "(I)I"⟩
abbrev cX6_table : ByteArray := prog_1_method_42_code
def yX6_table : MethodName := ⟨RX6, "table", "(III)I"⟩
abbrev cX6_read : ByteArray := prog_1_method_43_code
def yX6_read : MethodName := ⟨RX6, "read", "(II)I"⟩
abbrev cX6_image : ByteArray := prog_1_method_44_code
def yX6_image : MethodName := ⟨RX6, "image", "()I"⟩
abbrev cX6_undo : ByteArray := prog_1_method_45_code
def yX6_undo : MethodName := ⟨RX6, "undo", "()I"⟩
abbrev cX6_tear : ByteArray := prog_1_method_46_code
def yX6_tear : MethodName := ⟨RX6, "tear", "()I"⟩
abbrev cX6_count : ByteArray := prog_1_method_47_code
def yX6_count : MethodName := ⟨RX6, "count", "(I)I"⟩
abbrev cX6_status : ByteArray := prog_1_method_48_code
def yX6_status : MethodName := ⟨RX6, "status", "(I)I"⟩
abbrev cX6_finding : ByteArray := prog_1_method_49_code
def yX6_finding : MethodName := ⟨RX6, "finding", "(I)I"⟩
abbrev cX6_isKind : ByteArray := prog_1_method_50_code
def yX6_isKind : MethodName := ⟨RX6, "isKind", "(I)Z"⟩
abbrev cX6_isHeight : ByteArray := prog_1_method_51_code
def yX6_isHeight : MethodName := ⟨RX6, "isHeight", "(I)Z"⟩
abbrev cX6_areVillages : ByteArray := prog_1_method_52_code
def yX6_areVillages : MethodName := ⟨RX6, "areVillages", "(II)Z"⟩
abbrev cX6_areUnlikeVillages : ByteArray := prog_1_method_53_code
def yX6_areUnlikeVillages : MethodName := ⟨RX6, "areUnlikeVillages", "(II)Z"⟩
abbrev cX6_sheetAt : ByteArray := prog_1_method_54_code
def yX6_sheetAt : MethodName := ⟨RX6, "sheetAt", "(I)LDownhillPost$Sheet;"⟩
abbrev cX6_daysUntil : ByteArray := prog_1_method_55_code
def yX6_daysUntil : MethodName := ⟨RX6, "daysUntil", "(I)I"⟩
abbrev cX6_heightToRise : ByteArray := prog_1_method_56_code
def yX6_heightToRise : MethodName := ⟨RX6, "heightToRise", "(III)I"⟩
abbrev cX6_bestDigging : ByteArray := prog_1_method_57_code
def yX6_bestDigging : MethodName := ⟨RX6, "bestDigging", "(II)I"⟩
abbrev cX6_carryOn : ByteArray := prog_1_method_58_code
def yX6_carryOn : MethodName := ⟨RX6, "carryOn", "(LDownhillPost$Land;II)V"⟩
abbrev cX6_daysAhead : ByteArray := prog_1_method_59_code
def yX6_daysAhead : MethodName := ⟨RX6, "daysAhead", "(I)I"⟩
def RX7 : String := "DownhillPostModel"
def TX7 : u_T := fun k => match k with
  | 0 => ("DownhillPostModel", "row", "[I", true)
  | 1 => ("DownhillPostModel", "found", "[I", true)
  | 2 => ("DownhillPostModel", "best", "[I", true)
  | 3 => ("DownhillPostModel", "into", "I", false)
  | 4 => ("DownhillPostModel", "during", "I", false)
  | 5 => ("DownhillPostModel", "tried", "[I", true)
  | 6 => ("DownhillPostModel", "tape", "[I", true)
  | 7 => ("DownhillPostModel", "tapeMany", "I", false)
  | 8 => ("DownhillPostModel", "sort", "I", false)
  | 9 => ("DownhillPostModel", "begins", "I", false)
  | 10 => ("DownhillPostModel", "tokenEnds", "I", false)
  | 11 => ("DownhillPostModel", "word", "J", false)
  | 12 => ("DownhillPostModel", "value", "I", false)
  | 13 => ("DownhillPostModel", "good", "Z", false)
  | 14 => ("DownhillPostModel", "bitsOf", "[I", true)
  | 15 => ("DownhillPostModel", "sizeOf", "[I", true)
  | 16 => ("DownhillPostModel", "sheets", "[J", true)
  | 17 => ("DownhillPostModel", "lent", "[J", true)
  | 18 => ("DownhillPostModel", "image", "[I", true)
  | 19 => ("DownhillPostModel", "before", "[I", true)
  | _ => ("DownhillPostModel", "isKept", "Z", false)
def tyX7 : Nat → FieldType := fun k => match k with
  | 0 => .array .int
  | 1 => .array .int
  | 2 => .array .int
  | 3 => .int
  | 4 => .int
  | 5 => .array .int
  | 6 => .array .int
  | 7 => .int
  | 8 => .int
  | 9 => .int
  | 10 => .int
  | 11 => .long
  | 12 => .int
  | 13 => .boolean
  | 14 => .array .int
  | 15 => .array .int
  | 16 => .array .long
  | 17 => .array .long
  | 18 => .array .int
  | 19 => .array .int
  | _ => .boolean
theorem nmX7 : ∀ a, a < 21 → ∀ b, b < 21 → a ≠ b → (TX7 a).2.1 ≠ (TX7 b).2.1 := by decide +kernel
theorem tyX7_ok : ∀ k, k < 21 → parseFieldDescriptor (TX7 k).2.2.1 = some (tyX7 k) := by decide +kernel
abbrev cX7_init : ByteArray := prog_9_method_1_code
def yX7_init : MethodName := ⟨RX7, "<init>", "()V"⟩
abbrev cX7_in : ByteArray := prog_9_method_2_code
def yX7_in : MethodName := ⟨RX7, "in", "(III)Z"⟩
abbrev cX7_finds : ByteArray := prog_9_method_3_code
def yX7_finds : MethodName := ⟨RX7, "finds", "(I)I"⟩
abbrev cX7_isVillage : ByteArray := prog_9_method_4_code
def yX7_isVillage : MethodName := ⟨RX7, "isVillage", "(I)Z"⟩
abbrev cX7_isRoad : ByteArray := prog_9_method_5_code
def yX7_isRoad : MethodName := ⟨RX7, "isRoad", "(I)Z"⟩
abbrev cX7_isPost : ByteArray := prog_9_method_6_code
def yX7_isPost : MethodName := ⟨RX7, "isPost", "(I)Z"⟩
abbrev cX7_isKind : ByteArray := prog_9_method_7_code
def yX7_isKind : MethodName := ⟨RX7, "isKind", "(I)Z"⟩
abbrev cX7_has : ByteArray := prog_9_method_8_code
def yX7_has : MethodName := ⟨RX7, "has", "(II)Z"⟩
abbrev cX7_ones : ByteArray := prog_9_method_9_code
def yX7_ones : MethodName := ⟨RX7, "ones", "(I)I"⟩
abbrev cX7_height : ByteArray := prog_9_method_10_code
def yX7_height : MethodName := ⟨RX7, "height", "(I)I"⟩
abbrev cX7_isHermits : ByteArray := prog_9_method_11_code
def yX7_isHermits : MethodName := ⟨RX7, "isHermits", "(I)Z"⟩
abbrev cX7_end : ByteArray := prog_9_method_12_code
def yX7_end : MethodName := ⟨RX7, "end", "(II)I"⟩
abbrev cX7_its : ByteArray := prog_9_method_13_code
def yX7_its : MethodName := ⟨RX7, "its", "(II)I"⟩
abbrev cX7_sets : ByteArray := prog_9_method_14_code
def yX7_sets : MethodName := ⟨RX7, "sets", "(III)V"⟩
abbrev cX7_addVillage : ByteArray := prog_9_method_15_code
def yX7_addVillage : MethodName := ⟨RX7, "addVillage", "(IZ)V"⟩
abbrev cX7_village : ByteArray := prog_9_method_16_code
def yX7_village : MethodName := ⟨RX7, "village", "(I)I"⟩
abbrev cX7_roadsAt : ByteArray := prog_9_method_17_code
def yX7_roadsAt : MethodName := ⟨RX7, "roadsAt", "(I)I"⟩
abbrev cX7_lettersAt : ByteArray := prog_9_method_18_code
def yX7_lettersAt : MethodName := ⟨RX7, "lettersAt", "(I)I"⟩
abbrev cX7_villageOf : ByteArray := prog_9_method_19_code
def yX7_villageOf : MethodName := ⟨RX7, "villageOf", "(II)I"⟩
abbrev cX7_slide : ByteArray := prog_9_method_20_code
def yX7_slide : MethodName := ⟨RX7, "slide", "(II)I"⟩
abbrev cX7_hermit : ByteArray := prog_9_method_21_code
def yX7_hermit : MethodName := ⟨RX7, "hermit", "(IZ)I"⟩
abbrev cX7_between : ByteArray := prog_9_method_22_code
def yX7_between : MethodName := ⟨RX7, "between", "(II)I"⟩
abbrev cX7_addRoad : ByteArray := prog_9_method_23_code
def yX7_addRoad : MethodName := ⟨RX7, "addRoad", "(III)V"⟩
abbrev cX7_road : ByteArray := prog_9_method_24_code
def yX7_road : MethodName := ⟨RX7, "road", "(III)I"⟩
abbrev cX7_roadOf : ByteArray := prog_9_method_25_code
def yX7_roadOf : MethodName := ⟨RX7, "roadOf", "(II)I"⟩
abbrev cX7_every : ByteArray := prog_9_method_26_code
def yX7_every : MethodName := ⟨RX7, "every", "(I)I"⟩
abbrev cX7_theSea : ByteArray := prog_9_method_27_code
def yX7_theSea : MethodName := ⟨RX7, "theSea", "()I"⟩
abbrev cX7_thePeak : ByteArray := prog_9_method_28_code
def yX7_thePeak : MethodName := ⟨RX7, "thePeak", "()I"⟩
abbrev cX7_sea : ByteArray := prog_9_method_29_code
def yX7_sea : MethodName := ⟨RX7, "sea", "()I"⟩
abbrev cX7_peak : ByteArray := prog_9_method_30_code
def yX7_peak : MethodName := ⟨RX7, "peak", "()I"⟩
abbrev cX7_needsOf : ByteArray := prog_9_method_31_code
def yX7_needsOf : MethodName := ⟨RX7, "needsOf", "(II)I"⟩
abbrev cX7_needs : ByteArray := prog_9_method_32_code
def yX7_needs : MethodName := ⟨RX7, "needs", "(II)I"⟩
abbrev cX7_goesDown : ByteArray := prog_9_method_33_code
def yX7_goesDown : MethodName := ⟨RX7, "goesDown", "(III)Z"⟩
abbrev cX7_goes : ByteArray := prog_9_method_34_code
def yX7_goes : MethodName := ⟨RX7, "goes", "(IIZ)I"⟩
abbrev cX7_flies : ByteArray := prog_9_method_35_code
def yX7_flies : MethodName := ⟨RX7, "flies", "(I)Z"⟩
abbrev cX7_takesRoad : ByteArray := prog_9_method_36_code
def yX7_takesRoad : MethodName := ⟨RX7, "takesRoad", "(IIII)Z"⟩
abbrev cX7_takesBalloon : ByteArray := prog_9_method_37_code
def yX7_takesBalloon : MethodName := ⟨RX7, "takesBalloon", "()Z"⟩
abbrev cX7_goesOn : ByteArray := prog_9_method_38_code
def yX7_goesOn : MethodName := ⟨RX7, "goesOn", "(IZ)Z"⟩
abbrev cX7_find : ByteArray := prog_9_method_39_code
def yX7_find : MethodName := ⟨RX7, "find", "(IIIZ)V"⟩
abbrev cX7_earliest : ByteArray := prog_9_method_40_code
def yX7_earliest : MethodName := ⟨RX7, "earliest", "(IIII)I"⟩
abbrev cX7_reached : ByteArray := prog_9_method_41_code
def yX7_reached : MethodName := ⟨RX7, "reached", "()I"⟩
abbrev cX7_isAsked : ByteArray := prog_9_method_42_code
def yX7_isAsked : MethodName := ⟨RX7, "isAsked", "(III)Z"⟩
abbrev cX7_least : ByteArray := prog_9_method_43_code
def yX7_least : MethodName := ⟨RX7, "least", "(III)I"⟩
abbrev cX7_reachOf : ByteArray := prog_9_method_44_code
def yX7_reachOf : MethodName := ⟨RX7, "reachOf", "(IIZ)I"⟩
abbrev cX7_reach : ByteArray := prog_9_method_45_code
def yX7_reach : MethodName := ⟨RX7, "reach", "(II)I"⟩
abbrev cX7_whence : ByteArray := prog_9_method_46_code
def yX7_whence : MethodName := ⟨RX7, "whence", "(II)I"⟩
abbrev cX7_below : ByteArray := prog_9_method_47_code
def yX7_below : MethodName := ⟨RX7, "below", "(II)I"⟩
abbrev cX7_back : ByteArray := prog_9_method_48_code
def yX7_back : MethodName := ⟨RX7, "back", "(III)I"⟩
abbrev cX7_round : ByteArray := prog_9_method_49_code
def yX7_round : MethodName := ⟨RX7, "round", "(III)I"⟩
abbrev cX7_live : ByteArray := prog_9_method_50_code
def yX7_live : MethodName := ⟨RX7, "live", "(II)I"⟩
abbrev cX7_quiet : ByteArray := prog_9_method_51_code
def yX7_quiet : MethodName := ⟨RX7, "quiet", "(I)I"⟩
abbrev cX7_kind : ByteArray := prog_9_method_52_code
def yX7_kind : MethodName := ⟨RX7, "kind", "(II)I"⟩
abbrev cX7_rise : ByteArray := prog_9_method_53_code
def yX7_rise : MethodName := ⟨RX7, "rise", "(III)I"⟩
abbrev cX7_fall : ByteArray := prog_9_method_54_code
def yX7_fall : MethodName := ⟨RX7, "fall", "(III)I"⟩
abbrev cX7_reachWith : ByteArray := prog_9_method_55_code
def yX7_reachWith : MethodName := ⟨RX7, "reachWith", "(III)I"⟩
abbrev cX7_dig : ByteArray := prog_9_method_56_code
def yX7_dig : MethodName := ⟨RX7, "dig", "(II)I"⟩
abbrev cX7_addLetter : ByteArray := prog_9_method_57_code
def yX7_addLetter : MethodName := ⟨RX7, "addLetter", "(III)V"⟩
abbrev cX7_send : ByteArray := prog_9_method_58_code
def yX7_send : MethodName := ⟨RX7, "send", "(III)I"⟩
abbrev cX7_isThere : ByteArray := prog_9_method_59_code
def yX7_isThere : MethodName := ⟨RX7, "isThere", "(I)Z"⟩
abbrev cX7_of : ByteArray := prog_9_method_60_code
def yX7_of : MethodName := ⟨RX7, "of", "(II)I"⟩
abbrev cX7_turn : ByteArray := prog_9_method_61_code
def yX7_turn : MethodName := ⟨RX7, "turn", "(II)I"⟩
abbrev cX7_isUnder : ByteArray := prog_9_method_62_code
def yX7_isUnder : MethodName := ⟨RX7, "isUnder", "(II)Z"⟩
abbrev cX7_as : ByteArray := prog_9_method_63_code
def yX7_as : MethodName := ⟨RX7, "as", "(II)I"⟩
abbrev cX7_keeps : ByteArray := prog_9_method_64_code
def yX7_keeps : MethodName := ⟨RX7, "keeps", "(IIIII)Z"⟩
abbrev cX7_findWay : ByteArray := prog_9_method_65_code
def yX7_findWay : MethodName := ⟨RX7, "findWay", "(I)V"⟩
abbrev cX7_next : ByteArray := prog_9_method_66_code
def yX7_next : MethodName := ⟨RX7, "next", "(I)I"⟩
abbrev cX7_aDay : ByteArray := prog_9_method_67_code
def yX7_aDay : MethodName := ⟨RX7, "aDay", "()V"⟩
abbrev cX7_allThere : ByteArray := prog_9_method_68_code
def yX7_allThere : MethodName := ⟨RX7, "allThere", "()I"⟩
abbrev cX7_days : ByteArray := prog_9_method_69_code
def yX7_days : MethodName := ⟨RX7, "days", "(I)I"⟩
abbrev cX7_day : ByteArray := prog_9_method_70_code
def yX7_day : MethodName := ⟨RX7, "day", "(I)I"⟩
abbrev cX7_onTheirWay : ByteArray := prog_9_method_71_code
def yX7_onTheirWay : MethodName := ⟨RX7, "onTheirWay", "()I"⟩
abbrev cX7_now : ByteArray := prog_9_method_72_code
def yX7_now : MethodName := ⟨RX7, "now", "(I)I"⟩
abbrev cX7_on : ByteArray := prog_9_method_73_code
def yX7_on : MethodName := ⟨RX7, "on", "(II)I"⟩
abbrev cX7_daysTill : ByteArray := prog_9_method_74_code
def yX7_daysTill : MethodName := ⟨RX7, "daysTill", "(I)I"⟩
abbrev cX7_when : ByteArray := prog_9_method_75_code
def yX7_when : MethodName := ⟨RX7, "when", "(I)I"⟩
abbrev cX7_first : ByteArray := prog_9_method_76_code
def yX7_first : MethodName := ⟨RX7, "first", "(II)I"⟩
abbrev cX7_feed : ByteArray := prog_9_method_77_code
def yX7_feed : MethodName := ⟨RX7, "feed", "(II)I"⟩
abbrev cX7_wipe : ByteArray := prog_9_method_78_code
def yX7_wipe : MethodName := ⟨RX7, "wipe", "()I"⟩
abbrev cX7_byteAt : ByteArray := prog_9_method_79_code
def yX7_byteAt : MethodName := ⟨RX7, "byteAt", "(I)I"⟩
abbrev cX7_isLetter : ByteArray := prog_9_method_80_code
def yX7_isLetter : MethodName := ⟨RX7, "isLetter", "(I)Z"⟩
abbrev cX7_isDigit : ByteArray := prog_9_method_81_code
def yX7_isDigit : MethodName := ⟨RX7, "isDigit", "(I)Z"⟩
abbrev cX7_advance : ByteArray := prog_9_method_82_code
def yX7_advance : MethodName := ⟨RX7, "advance", "()V"⟩
abbrev cX7_isWord : ByteArray := prog_9_method_83_code
def yX7_isWord : MethodName := ⟨RX7, "isWord", "(J)Z"⟩
abbrev cX7_kindHere : ByteArray := prog_9_method_84_code
def yX7_kindHere : MethodName := ⟨RX7, "kindHere", "()I"⟩
abbrev cX7_wantNumber : ByteArray := prog_9_method_85_code
def yX7_wantNumber : MethodName := ⟨RX7, "wantNumber", "(II)I"⟩
abbrev cX7_mayWant : ByteArray := prog_9_method_86_code
def yX7_mayWant : MethodName := ⟨RX7, "mayWant", "(JIII)I"⟩
abbrev cX7_wantWord : ByteArray := prog_9_method_87_code
def yX7_wantWord : MethodName := ⟨RX7, "wantWord", "(J)V"⟩
abbrev cX7_wantVillage : ByteArray := prog_9_method_88_code
def yX7_wantVillage : MethodName := ⟨RX7, "wantVillage", "()V"⟩
abbrev cX7_wantRoad : ByteArray := prog_9_method_89_code
def yX7_wantRoad : MethodName := ⟨RX7, "wantRoad", "()V"⟩
abbrev cX7_wantSlide : ByteArray := prog_9_method_90_code
def yX7_wantSlide : MethodName := ⟨RX7, "wantSlide", "()V"⟩
abbrev cX7_wantEvery : ByteArray := prog_9_method_91_code
def yX7_wantEvery : MethodName := ⟨RX7, "wantEvery", "()V"⟩
abbrev cX7_wantLetter : ByteArray := prog_9_method_92_code
def yX7_wantLetter : MethodName := ⟨RX7, "wantLetter", "(I)V"⟩
abbrev cX7_wantItem : ByteArray := prog_9_method_93_code
def yX7_wantItem : MethodName := ⟨RX7, "wantItem", "()V"⟩
abbrev cX7_text : ByteArray := prog_9_method_94_code
def yX7_text : MethodName := ⟨RX7, "text", "()I"⟩
abbrev cX7_isSheet : ByteArray := prog_9_method_95_code
def yX7_isSheet : MethodName := ⟨RX7, "isSheet", "(I)Z"⟩
abbrev cX7_narrow : ByteArray := prog_9_method_96_code
def yX7_narrow : MethodName := ⟨RX7, "narrow", "(IJ)J"⟩
abbrev cX7_sheet : ByteArray := prog_9_method_97_code
def yX7_sheet : MethodName := ⟨RX7, "sheet", "(III)I"⟩
abbrev cX7_write : ByteArray := prog_9_method_98_code
def yX7_write : MethodName := ⟨RX7, "write", "(IIJ)J"⟩
abbrev cX7_isPart : ByteArray := prog_9_method_99_code
def yX7_isPart : MethodName := ⟨RX7, "isPart", "(III)Z"⟩
abbrev cX7_copy : ByteArray := prog_9_method_100_code
def yX7_copy : MethodName := ⟨RX7, "copy", "(IIIII)I"⟩
abbrev cX7_lays : ByteArray := prog_9_method_101_code
def yX7_lays : MethodName := ⟨RX7, "lays", "(I)I"⟩
abbrev cX7_table : ByteArray := prog_9_method_102_code
def yX7_table : MethodName := ⟨RX7, "table", "(III)I"⟩
abbrev cX7_read : ByteArray := prog_9_method_103_code
def yX7_read : MethodName := ⟨RX7, "read", "(II)I"⟩
abbrev cX7_moveAll : ByteArray := prog_9_method_104_code
def yX7_moveAll : MethodName := ⟨RX7, "moveAll", "(Z[I)V"⟩
abbrev cX7_image : ByteArray := prog_9_method_105_code
def yX7_image : MethodName := ⟨RX7, "image", "()I"⟩
abbrev cX7_undo : ByteArray := prog_9_method_106_code
def yX7_undo : MethodName := ⟨RX7, "undo", "()I"⟩
abbrev cX7_tear : ByteArray := prog_9_method_107_code
def yX7_tear : MethodName := ⟨RX7, "tear", "()I"⟩
abbrev cX7_count : ByteArray := prog_9_method_108_code
def yX7_count : MethodName := ⟨RX7, "count", "(I)I"⟩
abbrev cX7_status : ByteArray := prog_9_method_109_code
def yX7_status : MethodName := ⟨RX7, "status", "(I)I"⟩
def RJ6 : String := "java/lang/Integer"
abbrev cJ6_bitCount_0f7a4 : ByteArray := prog_10_method_49_code
def yJ6_bitCount_0f7a4 : MethodName := ⟨RJ6, "bitCount", "(I)I"⟩
def RJ9 : String := "java/lang/Math"
abbrev cJ9_max_7cf53 : ByteArray := prog_11_method_65_code
def yJ9_max_7cf53 : MethodName := ⟨RJ9, "max", "(II)I"⟩
abbrev cJ9_min_7cf53 : ByteArray := prog_11_method_69_code
def yJ9_min_7cf53 : MethodName := ⟨RJ9, "min", "(II)I"⟩
def RJ0 : String := "java/lang/String"
abbrev cJ0_length_8abf5 : ByteArray := prog_12_method_54_code
def yJ0_length_8abf5 : MethodName := ⟨RJ0, "length", "()I"⟩
abbrev cJ0_charAt_5068e : ByteArray := prog_12_method_56_code
def yJ0_charAt_5068e : MethodName := ⟨RJ0, "charAt", "(I)C"⟩
abbrev cJ0_coder_7d493 : ByteArray := prog_12_method_152_code
def yJ0_coder_7d493 : MethodName := ⟨RJ0, "coder", "()B"⟩
abbrev cJ0_isLatin1_aae02 : ByteArray := prog_12_method_154_code
def yJ0_isLatin1_aae02 : MethodName := ⟨RJ0, "isLatin1", "()Z"⟩
abbrev cJ0_checkIndex_df160 : ByteArray := prog_12_method_155_code
def yJ0_checkIndex_df160 : MethodName := ⟨RJ0, "checkIndex", "(II)V"⟩
def RJ1 : String := "java/lang/StringLatin1"
abbrev cJ1_charAt_3b067 : ByteArray := prog_13_method_2_code
def yJ1_charAt_3b067 : MethodName := ⟨RJ1, "charAt", "([BI)C"⟩
def RJ2 : String := "java/lang/StringUTF16"
abbrev cJ2_getChar_3b067 : ByteArray := prog_14_method_5_code
def yJ2_getChar_3b067 : MethodName := ⟨RJ2, "getChar", "([BI)C"⟩
abbrev cJ2_length_9d52b : ByteArray := prog_14_method_6_code
def yJ2_length_9d52b : MethodName := ⟨RJ2, "length", "([B)I"⟩
abbrev cJ2_charAt_3b067 : ByteArray := prog_14_method_83_code
def yJ2_charAt_3b067 : MethodName := ⟨RJ2, "charAt", "([BI)C"⟩
abbrev cJ2_checkIndex_2214a : ByteArray := prog_14_method_91_code
def yJ2_checkIndex_2214a : MethodName := ⟨RJ2, "checkIndex", "(I[B)V"⟩
def RJ10 : String := "java/lang/System"
def RJ3 : String := "jdk/internal/util/Preconditions"
abbrev cJ3_checkIndex_8e157 : ByteArray := prog_16_method_11_code
def yJ3_checkIndex_8e157 : MethodName := ⟨RJ3, "checkIndex", "(IILjava/util/function/BiFunction;)I"⟩
def RL : String := "DownhillPostLaw"
abbrev cL_law : ByteArray := code
def yL_law : MethodName := ⟨RL, "law", "([I)Z"⟩
abbrev vwCl : List vw_C := [(RX0, TX0, 15), (RX3, TX3, 3), (RX4, TX4, 6), (RX5, TX5, 9), (RX6, TX6, 8), (RX7, TX7, 21)]
end
section
theorem dX0_init_0 : decode cX0_init 0 = .ok (.aload_n 0, 1) := by decide +kernel
theorem dX0_init_1 : decode cX0_init 1 = .ok (.invokespecial 3, 3) := by decide +kernel
theorem dX0_init_4 : decode cX0_init 4 = .ok (.aload_n 0, 1) := by decide +kernel
theorem dX0_init_5 : decode cX0_init 5 = .ok (.bipush 12, 2) := by decide +kernel
theorem dX0_init_7 : decode cX0_init 7 = .ok (.newarray .int, 2) := by decide +kernel
theorem dX0_init_9 : decode cX0_init 9 = .ok (.putfield 9, 3) := by decide +kernel
theorem dX0_init_12 : decode cX0_init 12 = .ok (.aload_n 0, 1) := by decide +kernel
theorem dX0_init_13 : decode cX0_init 13 = .ok (.bipush 24, 2) := by decide +kernel
theorem dX0_init_15 : decode cX0_init 15 = .ok (.newarray .int, 2) := by decide +kernel
theorem dX0_init_17 : decode cX0_init 17 = .ok (.putfield 15, 3) := by decide +kernel
theorem dX0_init_20 : decode cX0_init 20 = .ok (.aload_n 0, 1) := by decide +kernel
theorem dX0_init_21 : decode cX0_init 21 = .ok (.bipush 24, 2) := by decide +kernel
theorem dX0_init_23 : decode cX0_init 23 = .ok (.newarray .int, 2) := by decide +kernel
theorem dX0_init_25 : decode cX0_init 25 = .ok (.putfield 18, 3) := by decide +kernel
theorem dX0_init_28 : decode cX0_init 28 = .ok (.aload_n 0, 1) := by decide +kernel
theorem dX0_init_29 : decode cX0_init 29 = .ok (.bipush 24, 2) := by decide +kernel
theorem dX0_init_31 : decode cX0_init 31 = .ok (.newarray .int, 2) := by decide +kernel
theorem dX0_init_33 : decode cX0_init 33 = .ok (.putfield 21, 3) := by decide +kernel
theorem dX0_init_36 : decode cX0_init 36 = .ok (.aload_n 0, 1) := by decide +kernel
theorem dX0_init_37 : decode cX0_init 37 = .ok (.bipush 7, 2) := by decide +kernel
theorem dX0_init_39 : decode cX0_init 39 = .ok (.putfield 24, 3) := by decide +kernel
theorem dX0_init_42 : decode cX0_init 42 = .ok (.aload_n 0, 1) := by decide +kernel
theorem dX0_init_43 : decode cX0_init 43 = .ok (.bipush 10, 2) := by decide +kernel
theorem dX0_init_45 : decode cX0_init 45 = .ok (.newarray .int, 2) := by decide +kernel
theorem dX0_init_47 : decode cX0_init 47 = .ok (.putfield 28, 3) := by decide +kernel
theorem dX0_init_50 : decode cX0_init 50 = .ok (.aload_n 0, 1) := by decide +kernel
theorem dX0_init_51 : decode cX0_init 51 = .ok (.bipush 10, 2) := by decide +kernel
theorem dX0_init_53 : decode cX0_init 53 = .ok (.newarray .int, 2) := by decide +kernel
theorem dX0_init_55 : decode cX0_init 55 = .ok (.putfield 31, 3) := by decide +kernel
theorem dX0_init_58 : decode cX0_init 58 = .ok (.aload_n 0, 1) := by decide +kernel
theorem dX0_init_59 : decode cX0_init 59 = .ok (.bipush 10, 2) := by decide +kernel
theorem dX0_init_61 : decode cX0_init 61 = .ok (.newarray .int, 2) := by decide +kernel
theorem dX0_init_63 : decode cX0_init 63 = .ok (.putfield 34, 3) := by decide +kernel
theorem dX0_init_66 : decode cX0_init 66 = .ok (.aload_n 0, 1) := by decide +kernel
theorem dX0_init_67 : decode cX0_init 67 = .ok (.bipush 10, 2) := by decide +kernel
theorem dX0_init_69 : decode cX0_init 69 = .ok (.newarray .int, 2) := by decide +kernel
theorem dX0_init_71 : decode cX0_init 71 = .ok (.putfield 37, 3) := by decide +kernel
theorem dX0_init_74 : decode cX0_init 74 = .ok (.aload_n 0, 1) := by decide +kernel
theorem dX0_init_75 : decode cX0_init 75 = .ok (.bipush 10, 2) := by decide +kernel
theorem dX0_init_77 : decode cX0_init 77 = .ok (.newarray .int, 2) := by decide +kernel
theorem dX0_init_79 : decode cX0_init 79 = .ok (.putfield 40, 3) := by decide +kernel
theorem dX0_init_82 : decode cX0_init 82 = .ok (.return_, 1) := by decide +kernel
theorem dX0_become_0 : decode cX0_become 0 = .ok (.aload_n 0, 1) := by decide +kernel
theorem dX0_become_1 : decode cX0_become 1 = .ok (.aload_n 1, 1) := by decide +kernel
theorem dX0_become_2 : decode cX0_become 2 = .ok (.getfield 43, 3) := by decide +kernel
theorem dX0_become_5 : decode cX0_become 5 = .ok (.putfield 43, 3) := by decide +kernel
theorem dX0_become_8 : decode cX0_become 8 = .ok (.aload_n 1, 1) := by decide +kernel
theorem dX0_become_9 : decode cX0_become 9 = .ok (.getfield 9, 3) := by decide +kernel
theorem dX0_become_12 : decode cX0_become 12 = .ok (.iconst 0, 1) := by decide +kernel
theorem dX0_become_13 : decode cX0_become 13 = .ok (.aload_n 0, 1) := by decide +kernel
theorem dX0_become_14 : decode cX0_become 14 = .ok (.getfield 9, 3) := by decide +kernel
theorem dX0_become_17 : decode cX0_become 17 = .ok (.iconst 0, 1) := by decide +kernel
theorem dX0_become_18 : decode cX0_become 18 = .ok (.bipush 12, 2) := by decide +kernel
theorem dX0_become_20 : decode cX0_become 20 = .ok (.invokestatic 46, 3) := by decide +kernel
theorem dX0_become_23 : decode cX0_become 23 = .ok (.aload_n 0, 1) := by decide +kernel
theorem dX0_become_24 : decode cX0_become 24 = .ok (.aload_n 1, 1) := by decide +kernel
theorem dX0_become_25 : decode cX0_become 25 = .ok (.getfield 52, 3) := by decide +kernel
theorem dX0_become_28 : decode cX0_become 28 = .ok (.putfield 52, 3) := by decide +kernel
theorem dX0_become_31 : decode cX0_become 31 = .ok (.aload_n 0, 1) := by decide +kernel
theorem dX0_become_32 : decode cX0_become 32 = .ok (.aload_n 1, 1) := by decide +kernel
theorem dX0_become_33 : decode cX0_become 33 = .ok (.getfield 55, 3) := by decide +kernel
theorem dX0_become_36 : decode cX0_become 36 = .ok (.putfield 55, 3) := by decide +kernel
theorem dX0_become_39 : decode cX0_become 39 = .ok (.aload_n 1, 1) := by decide +kernel
theorem dX0_become_40 : decode cX0_become 40 = .ok (.getfield 15, 3) := by decide +kernel
theorem dX0_become_43 : decode cX0_become 43 = .ok (.iconst 0, 1) := by decide +kernel
theorem dX0_become_44 : decode cX0_become 44 = .ok (.aload_n 0, 1) := by decide +kernel
theorem dX0_become_45 : decode cX0_become 45 = .ok (.getfield 15, 3) := by decide +kernel
theorem dX0_become_48 : decode cX0_become 48 = .ok (.iconst 0, 1) := by decide +kernel
theorem dX0_become_49 : decode cX0_become 49 = .ok (.bipush 24, 2) := by decide +kernel
theorem dX0_become_51 : decode cX0_become 51 = .ok (.invokestatic 46, 3) := by decide +kernel
theorem dX0_become_54 : decode cX0_become 54 = .ok (.aload_n 1, 1) := by decide +kernel
theorem dX0_become_55 : decode cX0_become 55 = .ok (.getfield 18, 3) := by decide +kernel
theorem dX0_become_58 : decode cX0_become 58 = .ok (.iconst 0, 1) := by decide +kernel
theorem dX0_become_59 : decode cX0_become 59 = .ok (.aload_n 0, 1) := by decide +kernel
theorem dX0_become_60 : decode cX0_become 60 = .ok (.getfield 18, 3) := by decide +kernel
theorem dX0_become_63 : decode cX0_become 63 = .ok (.iconst 0, 1) := by decide +kernel
theorem dX0_become_64 : decode cX0_become 64 = .ok (.bipush 24, 2) := by decide +kernel
theorem dX0_become_66 : decode cX0_become 66 = .ok (.invokestatic 46, 3) := by decide +kernel
theorem dX0_become_69 : decode cX0_become 69 = .ok (.aload_n 1, 1) := by decide +kernel
theorem dX0_become_70 : decode cX0_become 70 = .ok (.getfield 21, 3) := by decide +kernel
theorem dX0_become_73 : decode cX0_become 73 = .ok (.iconst 0, 1) := by decide +kernel
theorem dX0_become_74 : decode cX0_become 74 = .ok (.aload_n 0, 1) := by decide +kernel
theorem dX0_become_75 : decode cX0_become 75 = .ok (.getfield 21, 3) := by decide +kernel
theorem dX0_become_78 : decode cX0_become 78 = .ok (.iconst 0, 1) := by decide +kernel
theorem dX0_become_79 : decode cX0_become 79 = .ok (.bipush 24, 2) := by decide +kernel
theorem dX0_become_81 : decode cX0_become 81 = .ok (.invokestatic 46, 3) := by decide +kernel
theorem dX0_become_84 : decode cX0_become 84 = .ok (.aload_n 0, 1) := by decide +kernel
theorem dX0_become_85 : decode cX0_become 85 = .ok (.aload_n 1, 1) := by decide +kernel
theorem dX0_become_86 : decode cX0_become 86 = .ok (.getfield 24, 3) := by decide +kernel
theorem dX0_become_89 : decode cX0_become 89 = .ok (.putfield 24, 3) := by decide +kernel
theorem dX0_become_92 : decode cX0_become 92 = .ok (.aload_n 0, 1) := by decide +kernel
theorem dX0_become_93 : decode cX0_become 93 = .ok (.aload_n 1, 1) := by decide +kernel
theorem dX0_become_94 : decode cX0_become 94 = .ok (.getfield 58, 3) := by decide +kernel
theorem dX0_become_97 : decode cX0_become 97 = .ok (.putfield 58, 3) := by decide +kernel
theorem dX0_become_100 : decode cX0_become 100 = .ok (.aload_n 0, 1) := by decide +kernel
theorem dX0_become_101 : decode cX0_become 101 = .ok (.aload_n 1, 1) := by decide +kernel
theorem dX0_become_102 : decode cX0_become 102 = .ok (.getfield 61, 3) := by decide +kernel
theorem dX0_become_105 : decode cX0_become 105 = .ok (.putfield 61, 3) := by decide +kernel
theorem dX0_become_108 : decode cX0_become 108 = .ok (.aload_n 1, 1) := by decide +kernel
theorem dX0_become_109 : decode cX0_become 109 = .ok (.getfield 28, 3) := by decide +kernel
theorem dX0_become_112 : decode cX0_become 112 = .ok (.iconst 0, 1) := by decide +kernel
theorem dX0_become_113 : decode cX0_become 113 = .ok (.aload_n 0, 1) := by decide +kernel
theorem dX0_become_114 : decode cX0_become 114 = .ok (.getfield 28, 3) := by decide +kernel
theorem dX0_become_117 : decode cX0_become 117 = .ok (.iconst 0, 1) := by decide +kernel
theorem dX0_become_118 : decode cX0_become 118 = .ok (.bipush 10, 2) := by decide +kernel
theorem dX0_become_120 : decode cX0_become 120 = .ok (.invokestatic 46, 3) := by decide +kernel
theorem dX0_become_123 : decode cX0_become 123 = .ok (.aload_n 1, 1) := by decide +kernel
theorem dX0_become_124 : decode cX0_become 124 = .ok (.getfield 31, 3) := by decide +kernel
theorem dX0_become_127 : decode cX0_become 127 = .ok (.iconst 0, 1) := by decide +kernel
theorem dX0_become_128 : decode cX0_become 128 = .ok (.aload_n 0, 1) := by decide +kernel
theorem dX0_become_129 : decode cX0_become 129 = .ok (.getfield 31, 3) := by decide +kernel
theorem dX0_become_132 : decode cX0_become 132 = .ok (.iconst 0, 1) := by decide +kernel
theorem dX0_become_133 : decode cX0_become 133 = .ok (.bipush 10, 2) := by decide +kernel
theorem dX0_become_135 : decode cX0_become 135 = .ok (.invokestatic 46, 3) := by decide +kernel
theorem dX0_become_138 : decode cX0_become 138 = .ok (.aload_n 1, 1) := by decide +kernel
theorem dX0_become_139 : decode cX0_become 139 = .ok (.getfield 34, 3) := by decide +kernel
theorem dX0_become_142 : decode cX0_become 142 = .ok (.iconst 0, 1) := by decide +kernel
theorem dX0_become_143 : decode cX0_become 143 = .ok (.aload_n 0, 1) := by decide +kernel
theorem dX0_become_144 : decode cX0_become 144 = .ok (.getfield 34, 3) := by decide +kernel
theorem dX0_become_147 : decode cX0_become 147 = .ok (.iconst 0, 1) := by decide +kernel
theorem dX0_become_148 : decode cX0_become 148 = .ok (.bipush 10, 2) := by decide +kernel
theorem dX0_become_150 : decode cX0_become 150 = .ok (.invokestatic 46, 3) := by decide +kernel
theorem dX0_become_153 : decode cX0_become 153 = .ok (.aload_n 1, 1) := by decide +kernel
theorem dX0_become_154 : decode cX0_become 154 = .ok (.getfield 37, 3) := by decide +kernel
theorem dX0_become_157 : decode cX0_become 157 = .ok (.iconst 0, 1) := by decide +kernel
theorem dX0_become_158 : decode cX0_become 158 = .ok (.aload_n 0, 1) := by decide +kernel
theorem dX0_become_159 : decode cX0_become 159 = .ok (.getfield 37, 3) := by decide +kernel
theorem dX0_become_162 : decode cX0_become 162 = .ok (.iconst 0, 1) := by decide +kernel
theorem dX0_become_163 : decode cX0_become 163 = .ok (.bipush 10, 2) := by decide +kernel
theorem dX0_become_165 : decode cX0_become 165 = .ok (.invokestatic 46, 3) := by decide +kernel
theorem dX0_become_168 : decode cX0_become 168 = .ok (.aload_n 1, 1) := by decide +kernel
theorem dX0_become_169 : decode cX0_become 169 = .ok (.getfield 40, 3) := by decide +kernel
theorem dX0_become_172 : decode cX0_become 172 = .ok (.iconst 0, 1) := by decide +kernel
theorem dX0_become_173 : decode cX0_become 173 = .ok (.aload_n 0, 1) := by decide +kernel
theorem dX0_become_174 : decode cX0_become 174 = .ok (.getfield 40, 3) := by decide +kernel
theorem dX0_become_177 : decode cX0_become 177 = .ok (.iconst 0, 1) := by decide +kernel
theorem dX0_become_178 : decode cX0_become 178 = .ok (.bipush 10, 2) := by decide +kernel
theorem dX0_become_180 : decode cX0_become 180 = .ok (.invokestatic 46, 3) := by decide +kernel
theorem dX0_become_183 : decode cX0_become 183 = .ok (.return_, 1) := by decide +kernel
theorem dX0_hasVillage_0 : decode cX0_hasVillage 0 = .ok (.iload_n 1, 1) := by decide +kernel
theorem dX0_hasVillage_1 : decode cX0_hasVillage 1 = .ok (.ifCond .lt 15, 3) := by decide +kernel
theorem dX0_hasVillage_4 : decode cX0_hasVillage 4 = .ok (.iload_n 1, 1) := by decide +kernel
theorem dX0_hasVillage_5 : decode cX0_hasVillage 5 = .ok (.aload_n 0, 1) := by decide +kernel
theorem dX0_hasVillage_6 : decode cX0_hasVillage 6 = .ok (.getfield 43, 3) := by decide +kernel
theorem dX0_hasVillage_9 : decode cX0_hasVillage 9 = .ok (.if_icmp .ge 7, 3) := by decide +kernel
theorem dX0_hasVillage_12 : decode cX0_hasVillage 12 = .ok (.iconst 1, 1) := by decide +kernel
theorem dX0_hasVillage_13 : decode cX0_hasVillage 13 = .ok (.goto 4, 3) := by decide +kernel
theorem dX0_hasVillage_16 : decode cX0_hasVillage 16 = .ok (.iconst 0, 1) := by decide +kernel
theorem dX0_hasVillage_17 : decode cX0_hasVillage 17 = .ok (.ireturn, 1) := by decide +kernel
theorem dX0_hasRoad_0 : decode cX0_hasRoad 0 = .ok (.iload_n 1, 1) := by decide +kernel
theorem dX0_hasRoad_1 : decode cX0_hasRoad 1 = .ok (.ifCond .lt 15, 3) := by decide +kernel
theorem dX0_hasRoad_4 : decode cX0_hasRoad 4 = .ok (.iload_n 1, 1) := by decide +kernel
theorem dX0_hasRoad_5 : decode cX0_hasRoad 5 = .ok (.aload_n 0, 1) := by decide +kernel
theorem dX0_hasRoad_6 : decode cX0_hasRoad 6 = .ok (.getfield 55, 3) := by decide +kernel
theorem dX0_hasRoad_9 : decode cX0_hasRoad 9 = .ok (.if_icmp .ge 7, 3) := by decide +kernel
theorem dX0_hasRoad_12 : decode cX0_hasRoad 12 = .ok (.iconst 1, 1) := by decide +kernel
theorem dX0_hasRoad_13 : decode cX0_hasRoad 13 = .ok (.goto 4, 3) := by decide +kernel
theorem dX0_hasRoad_16 : decode cX0_hasRoad 16 = .ok (.iconst 0, 1) := by decide +kernel
theorem dX0_hasRoad_17 : decode cX0_hasRoad 17 = .ok (.ireturn, 1) := by decide +kernel
theorem dX0_hasLetter_0 : decode cX0_hasLetter 0 = .ok (.iload_n 1, 1) := by decide +kernel
theorem dX0_hasLetter_1 : decode cX0_hasLetter 1 = .ok (.ifCond .lt 15, 3) := by decide +kernel
theorem dX0_hasLetter_4 : decode cX0_hasLetter 4 = .ok (.iload_n 1, 1) := by decide +kernel
theorem dX0_hasLetter_5 : decode cX0_hasLetter 5 = .ok (.aload_n 0, 1) := by decide +kernel
theorem dX0_hasLetter_6 : decode cX0_hasLetter 6 = .ok (.getfield 61, 3) := by decide +kernel
theorem dX0_hasLetter_9 : decode cX0_hasLetter 9 = .ok (.if_icmp .ge 7, 3) := by decide +kernel
theorem dX0_hasLetter_12 : decode cX0_hasLetter 12 = .ok (.iconst 1, 1) := by decide +kernel
theorem dX0_hasLetter_13 : decode cX0_hasLetter 13 = .ok (.goto 4, 3) := by decide +kernel
theorem dX0_hasLetter_16 : decode cX0_hasLetter 16 = .ok (.iconst 0, 1) := by decide +kernel
theorem dX0_hasLetter_17 : decode cX0_hasLetter 17 = .ok (.ireturn, 1) := by decide +kernel
theorem dX0_villagesFull_0 : decode cX0_villagesFull 0 = .ok (.aload_n 0, 1) := by decide +kernel
theorem dX0_villagesFull_1 : decode cX0_villagesFull 1 = .ok (.getfield 43, 3) := by decide +kernel
theorem dX0_villagesFull_4 : decode cX0_villagesFull 4 = .ok (.bipush 12, 2) := by decide +kernel
theorem dX0_villagesFull_6 : decode cX0_villagesFull 6 = .ok (.if_icmp .lt 7, 3) := by decide +kernel
theorem dX0_villagesFull_9 : decode cX0_villagesFull 9 = .ok (.iconst 1, 1) := by decide +kernel
theorem dX0_villagesFull_10 : decode cX0_villagesFull 10 = .ok (.goto 4, 3) := by decide +kernel
theorem dX0_villagesFull_13 : decode cX0_villagesFull 13 = .ok (.iconst 0, 1) := by decide +kernel
theorem dX0_villagesFull_14 : decode cX0_villagesFull 14 = .ok (.ireturn, 1) := by decide +kernel
theorem dX0_roadsFull_0 : decode cX0_roadsFull 0 = .ok (.aload_n 0, 1) := by decide +kernel
theorem dX0_roadsFull_1 : decode cX0_roadsFull 1 = .ok (.getfield 55, 3) := by decide +kernel
theorem dX0_roadsFull_4 : decode cX0_roadsFull 4 = .ok (.bipush 24, 2) := by decide +kernel
theorem dX0_roadsFull_6 : decode cX0_roadsFull 6 = .ok (.if_icmp .lt 7, 3) := by decide +kernel
theorem dX0_roadsFull_9 : decode cX0_roadsFull 9 = .ok (.iconst 1, 1) := by decide +kernel
theorem dX0_roadsFull_10 : decode cX0_roadsFull 10 = .ok (.goto 4, 3) := by decide +kernel
theorem dX0_roadsFull_13 : decode cX0_roadsFull 13 = .ok (.iconst 0, 1) := by decide +kernel
theorem dX0_roadsFull_14 : decode cX0_roadsFull 14 = .ok (.ireturn, 1) := by decide +kernel
theorem dX0_lettersFull_0 : decode cX0_lettersFull 0 = .ok (.aload_n 0, 1) := by decide +kernel
theorem dX0_lettersFull_1 : decode cX0_lettersFull 1 = .ok (.getfield 61, 3) := by decide +kernel
theorem dX0_lettersFull_4 : decode cX0_lettersFull 4 = .ok (.bipush 10, 2) := by decide +kernel
theorem dX0_lettersFull_6 : decode cX0_lettersFull 6 = .ok (.if_icmp .lt 7, 3) := by decide +kernel
theorem dX0_lettersFull_9 : decode cX0_lettersFull 9 = .ok (.iconst 1, 1) := by decide +kernel
theorem dX0_lettersFull_10 : decode cX0_lettersFull 10 = .ok (.goto 4, 3) := by decide +kernel
theorem dX0_lettersFull_13 : decode cX0_lettersFull 13 = .ok (.iconst 0, 1) := by decide +kernel
theorem dX0_lettersFull_14 : decode cX0_lettersFull 14 = .ok (.ireturn, 1) := by decide +kernel
theorem dX0_addVillage_0 : decode cX0_addVillage 0 = .ok (.aload_n 0, 1) := by decide +kernel
theorem dX0_addVillage_1 : decode cX0_addVillage 1 = .ok (.invokevirtual 64, 3) := by decide +kernel
theorem dX0_addVillage_4 : decode cX0_addVillage 4 = .ok (.ifCond .eq 5, 3) := by decide +kernel
theorem dX0_addVillage_7 : decode cX0_addVillage 7 = .ok (.iconst (-1), 1) := by decide +kernel
theorem dX0_addVillage_8 : decode cX0_addVillage 8 = .ok (.ireturn, 1) := by decide +kernel
theorem dX0_addVillage_9 : decode cX0_addVillage 9 = .ok (.aload_n 0, 1) := by decide +kernel
theorem dX0_addVillage_10 : decode cX0_addVillage 10 = .ok (.dup, 1) := by decide +kernel
theorem dX0_addVillage_11 : decode cX0_addVillage 11 = .ok (.getfield 43, 3) := by decide +kernel
theorem dX0_addVillage_14 : decode cX0_addVillage 14 = .ok (.dup_x1, 1) := by decide +kernel
theorem dX0_addVillage_15 : decode cX0_addVillage 15 = .ok (.iconst 1, 1) := by decide +kernel
theorem dX0_addVillage_16 : decode cX0_addVillage 16 = .ok (.iadd, 1) := by decide +kernel
theorem dX0_addVillage_17 : decode cX0_addVillage 17 = .ok (.putfield 43, 3) := by decide +kernel
theorem dX0_addVillage_20 : decode cX0_addVillage 20 = .ok (.istore_n 3, 1) := by decide +kernel
theorem dX0_addVillage_21 : decode cX0_addVillage 21 = .ok (.aload_n 0, 1) := by decide +kernel
theorem dX0_addVillage_22 : decode cX0_addVillage 22 = .ok (.getfield 9, 3) := by decide +kernel
theorem dX0_addVillage_25 : decode cX0_addVillage 25 = .ok (.iload_n 3, 1) := by decide +kernel
theorem dX0_addVillage_26 : decode cX0_addVillage 26 = .ok (.iload_n 1, 1) := by decide +kernel
theorem dX0_addVillage_27 : decode cX0_addVillage 27 = .ok (.iastore, 1) := by decide +kernel
theorem dX0_addVillage_28 : decode cX0_addVillage 28 = .ok (.aload_n 0, 1) := by decide +kernel
theorem dX0_addVillage_29 : decode cX0_addVillage 29 = .ok (.iload_n 3, 1) := by decide +kernel
theorem dX0_addVillage_30 : decode cX0_addVillage 30 = .ok (.iload_n 2, 1) := by decide +kernel
theorem dX0_addVillage_31 : decode cX0_addVillage 31 = .ok (.invokevirtual 68, 3) := by decide +kernel
theorem dX0_addVillage_34 : decode cX0_addVillage 34 = .ok (.iload_n 3, 1) := by decide +kernel
theorem dX0_addVillage_35 : decode cX0_addVillage 35 = .ok (.ireturn, 1) := by decide +kernel
theorem dX0_addRoad_0 : decode cX0_addRoad 0 = .ok (.aload_n 0, 1) := by decide +kernel
theorem dX0_addRoad_1 : decode cX0_addRoad 1 = .ok (.invokevirtual 72, 3) := by decide +kernel
theorem dX0_addRoad_4 : decode cX0_addRoad 4 = .ok (.ifCond .eq 5, 3) := by decide +kernel
theorem dX0_addRoad_7 : decode cX0_addRoad 7 = .ok (.iconst (-1), 1) := by decide +kernel
theorem dX0_addRoad_8 : decode cX0_addRoad 8 = .ok (.ireturn, 1) := by decide +kernel
theorem dX0_addRoad_9 : decode cX0_addRoad 9 = .ok (.aload_n 0, 1) := by decide +kernel
theorem dX0_addRoad_10 : decode cX0_addRoad 10 = .ok (.getfield 15, 3) := by decide +kernel
theorem dX0_addRoad_13 : decode cX0_addRoad 13 = .ok (.aload_n 0, 1) := by decide +kernel
theorem dX0_addRoad_14 : decode cX0_addRoad 14 = .ok (.getfield 55, 3) := by decide +kernel
theorem dX0_addRoad_17 : decode cX0_addRoad 17 = .ok (.iload_n 1, 1) := by decide +kernel
theorem dX0_addRoad_18 : decode cX0_addRoad 18 = .ok (.iastore, 1) := by decide +kernel
theorem dX0_addRoad_19 : decode cX0_addRoad 19 = .ok (.aload_n 0, 1) := by decide +kernel
theorem dX0_addRoad_20 : decode cX0_addRoad 20 = .ok (.getfield 18, 3) := by decide +kernel
theorem dX0_addRoad_23 : decode cX0_addRoad 23 = .ok (.aload_n 0, 1) := by decide +kernel
theorem dX0_addRoad_24 : decode cX0_addRoad 24 = .ok (.getfield 55, 3) := by decide +kernel
theorem dX0_addRoad_27 : decode cX0_addRoad 27 = .ok (.iload_n 2, 1) := by decide +kernel
theorem dX0_addRoad_28 : decode cX0_addRoad 28 = .ok (.iastore, 1) := by decide +kernel
theorem dX0_addRoad_29 : decode cX0_addRoad 29 = .ok (.aload_n 0, 1) := by decide +kernel
theorem dX0_addRoad_30 : decode cX0_addRoad 30 = .ok (.getfield 21, 3) := by decide +kernel
theorem dX0_addRoad_33 : decode cX0_addRoad 33 = .ok (.aload_n 0, 1) := by decide +kernel
theorem dX0_addRoad_34 : decode cX0_addRoad 34 = .ok (.getfield 55, 3) := by decide +kernel
theorem dX0_addRoad_37 : decode cX0_addRoad 37 = .ok (.iload_n 3, 1) := by decide +kernel
theorem dX0_addRoad_38 : decode cX0_addRoad 38 = .ok (.iastore, 1) := by decide +kernel
theorem dX0_addRoad_39 : decode cX0_addRoad 39 = .ok (.aload_n 0, 1) := by decide +kernel
theorem dX0_addRoad_40 : decode cX0_addRoad 40 = .ok (.dup, 1) := by decide +kernel
theorem dX0_addRoad_41 : decode cX0_addRoad 41 = .ok (.getfield 55, 3) := by decide +kernel
theorem dX0_addRoad_44 : decode cX0_addRoad 44 = .ok (.dup_x1, 1) := by decide +kernel
theorem dX0_addRoad_45 : decode cX0_addRoad 45 = .ok (.iconst 1, 1) := by decide +kernel
theorem dX0_addRoad_46 : decode cX0_addRoad 46 = .ok (.iadd, 1) := by decide +kernel
theorem dX0_addRoad_47 : decode cX0_addRoad 47 = .ok (.putfield 55, 3) := by decide +kernel
theorem dX0_addRoad_50 : decode cX0_addRoad 50 = .ok (.ireturn, 1) := by decide +kernel
theorem dX0_addLetter_0 : decode cX0_addLetter 0 = .ok (.aload_n 0, 1) := by decide +kernel
theorem dX0_addLetter_1 : decode cX0_addLetter 1 = .ok (.invokevirtual 75, 3) := by decide +kernel
theorem dX0_addLetter_4 : decode cX0_addLetter 4 = .ok (.ifCond .eq 5, 3) := by decide +kernel
theorem dX0_addLetter_7 : decode cX0_addLetter 7 = .ok (.iconst (-1), 1) := by decide +kernel
theorem dX0_addLetter_8 : decode cX0_addLetter 8 = .ok (.ireturn, 1) := by decide +kernel
theorem dX0_addLetter_9 : decode cX0_addLetter 9 = .ok (.aload_n 0, 1) := by decide +kernel
theorem dX0_addLetter_10 : decode cX0_addLetter 10 = .ok (.getfield 28, 3) := by decide +kernel
theorem dX0_addLetter_13 : decode cX0_addLetter 13 = .ok (.aload_n 0, 1) := by decide +kernel
theorem dX0_addLetter_14 : decode cX0_addLetter 14 = .ok (.getfield 61, 3) := by decide +kernel
theorem dX0_addLetter_17 : decode cX0_addLetter 17 = .ok (.iload_n 1, 1) := by decide +kernel
theorem dX0_addLetter_18 : decode cX0_addLetter 18 = .ok (.iastore, 1) := by decide +kernel
theorem dX0_addLetter_19 : decode cX0_addLetter 19 = .ok (.aload_n 0, 1) := by decide +kernel
theorem dX0_addLetter_20 : decode cX0_addLetter 20 = .ok (.getfield 31, 3) := by decide +kernel
theorem dX0_addLetter_23 : decode cX0_addLetter 23 = .ok (.aload_n 0, 1) := by decide +kernel
theorem dX0_addLetter_24 : decode cX0_addLetter 24 = .ok (.getfield 61, 3) := by decide +kernel
theorem dX0_addLetter_27 : decode cX0_addLetter 27 = .ok (.iload_n 2, 1) := by decide +kernel
theorem dX0_addLetter_28 : decode cX0_addLetter 28 = .ok (.iastore, 1) := by decide +kernel
theorem dX0_addLetter_29 : decode cX0_addLetter 29 = .ok (.aload_n 0, 1) := by decide +kernel
theorem dX0_addLetter_30 : decode cX0_addLetter 30 = .ok (.getfield 34, 3) := by decide +kernel
theorem dX0_addLetter_33 : decode cX0_addLetter 33 = .ok (.aload_n 0, 1) := by decide +kernel
theorem dX0_addLetter_34 : decode cX0_addLetter 34 = .ok (.getfield 61, 3) := by decide +kernel
theorem dX0_addLetter_37 : decode cX0_addLetter 37 = .ok (.iload_n 3, 1) := by decide +kernel
theorem dX0_addLetter_38 : decode cX0_addLetter 38 = .ok (.iastore, 1) := by decide +kernel
theorem dX0_addLetter_39 : decode cX0_addLetter 39 = .ok (.aload_n 0, 1) := by decide +kernel
theorem dX0_addLetter_40 : decode cX0_addLetter 40 = .ok (.getfield 37, 3) := by decide +kernel
theorem dX0_addLetter_43 : decode cX0_addLetter 43 = .ok (.aload_n 0, 1) := by decide +kernel
theorem dX0_addLetter_44 : decode cX0_addLetter 44 = .ok (.getfield 61, 3) := by decide +kernel
theorem dX0_addLetter_47 : decode cX0_addLetter 47 = .ok (.aload_n 0, 1) := by decide +kernel
theorem dX0_addLetter_48 : decode cX0_addLetter 48 = .ok (.getfield 58, 3) := by decide +kernel
theorem dX0_addLetter_51 : decode cX0_addLetter 51 = .ok (.iastore, 1) := by decide +kernel
theorem dX0_addLetter_52 : decode cX0_addLetter 52 = .ok (.aload_n 0, 1) := by decide +kernel
theorem dX0_addLetter_53 : decode cX0_addLetter 53 = .ok (.getfield 40, 3) := by decide +kernel
theorem dX0_addLetter_56 : decode cX0_addLetter 56 = .ok (.aload_n 0, 1) := by decide +kernel
theorem dX0_addLetter_57 : decode cX0_addLetter 57 = .ok (.getfield 61, 3) := by decide +kernel
theorem dX0_addLetter_60 : decode cX0_addLetter 60 = .ok (.iconst 0, 1) := by decide +kernel
theorem dX0_addLetter_61 : decode cX0_addLetter 61 = .ok (.iastore, 1) := by decide +kernel
theorem dX0_addLetter_62 : decode cX0_addLetter 62 = .ok (.aload_n 0, 1) := by decide +kernel
theorem dX0_addLetter_63 : decode cX0_addLetter 63 = .ok (.dup, 1) := by decide +kernel
theorem dX0_addLetter_64 : decode cX0_addLetter 64 = .ok (.getfield 61, 3) := by decide +kernel
theorem dX0_addLetter_67 : decode cX0_addLetter 67 = .ok (.dup_x1, 1) := by decide +kernel
theorem dX0_addLetter_68 : decode cX0_addLetter 68 = .ok (.iconst 1, 1) := by decide +kernel
theorem dX0_addLetter_69 : decode cX0_addLetter 69 = .ok (.iadd, 1) := by decide +kernel
theorem dX0_addLetter_70 : decode cX0_addLetter 70 = .ok (.putfield 61, 3) := by decide +kernel
theorem dX0_addLetter_73 : decode cX0_addLetter 73 = .ok (.ireturn, 1) := by decide +kernel
theorem dX0_heightOf_0 : decode cX0_heightOf 0 = .ok (.aload_n 0, 1) := by decide +kernel
theorem dX0_heightOf_1 : decode cX0_heightOf 1 = .ok (.iload_n 1, 1) := by decide +kernel
theorem dX0_heightOf_2 : decode cX0_heightOf 2 = .ok (.invokevirtual 78, 3) := by decide +kernel
theorem dX0_heightOf_5 : decode cX0_heightOf 5 = .ok (.ifCond .eq 12, 3) := by decide +kernel
theorem dX0_heightOf_8 : decode cX0_heightOf 8 = .ok (.aload_n 0, 1) := by decide +kernel
theorem dX0_heightOf_9 : decode cX0_heightOf 9 = .ok (.getfield 9, 3) := by decide +kernel
theorem dX0_heightOf_12 : decode cX0_heightOf 12 = .ok (.iload_n 1, 1) := by decide +kernel
theorem dX0_heightOf_13 : decode cX0_heightOf 13 = .ok (.iaload, 1) := by decide +kernel
theorem dX0_heightOf_14 : decode cX0_heightOf 14 = .ok (.goto 4, 3) := by decide +kernel
theorem dX0_heightOf_17 : decode cX0_heightOf 17 = .ok (.iconst 0, 1) := by decide +kernel
theorem dX0_heightOf_18 : decode cX0_heightOf 18 = .ok (.ireturn, 1) := by decide +kernel
theorem dX0_setHeight_0 : decode cX0_setHeight 0 = .ok (.aload_n 0, 1) := by decide +kernel
theorem dX0_setHeight_1 : decode cX0_setHeight 1 = .ok (.iload_n 1, 1) := by decide +kernel
theorem dX0_setHeight_2 : decode cX0_setHeight 2 = .ok (.invokevirtual 78, 3) := by decide +kernel
theorem dX0_setHeight_5 : decode cX0_setHeight 5 = .ok (.ifCond .eq 10, 3) := by decide +kernel
theorem dX0_setHeight_8 : decode cX0_setHeight 8 = .ok (.aload_n 0, 1) := by decide +kernel
theorem dX0_setHeight_9 : decode cX0_setHeight 9 = .ok (.getfield 9, 3) := by decide +kernel
theorem dX0_setHeight_12 : decode cX0_setHeight 12 = .ok (.iload_n 1, 1) := by decide +kernel
theorem dX0_setHeight_13 : decode cX0_setHeight 13 = .ok (.iload_n 2, 1) := by decide +kernel
theorem dX0_setHeight_14 : decode cX0_setHeight 14 = .ok (.iastore, 1) := by decide +kernel
theorem dX0_setHeight_15 : decode cX0_setHeight 15 = .ok (.return_, 1) := by decide +kernel
theorem dX0_isHermits_0 : decode cX0_isHermits 0 = .ok (.aload_n 0, 1) := by decide +kernel
theorem dX0_isHermits_1 : decode cX0_isHermits 1 = .ok (.getfield 52, 3) := by decide +kernel
theorem dX0_isHermits_4 : decode cX0_isHermits 4 = .ok (.iload_n 1, 1) := by decide +kernel
theorem dX0_isHermits_5 : decode cX0_isHermits 5 = .ok (.ishr, 1) := by decide +kernel
theorem dX0_isHermits_6 : decode cX0_isHermits 6 = .ok (.iconst 1, 1) := by decide +kernel
theorem dX0_isHermits_7 : decode cX0_isHermits 7 = .ok (.iand, 1) := by decide +kernel
theorem dX0_isHermits_8 : decode cX0_isHermits 8 = .ok (.iconst 1, 1) := by decide +kernel
theorem dX0_isHermits_9 : decode cX0_isHermits 9 = .ok (.if_icmp .ne 7, 3) := by decide +kernel
theorem dX0_isHermits_12 : decode cX0_isHermits 12 = .ok (.iconst 1, 1) := by decide +kernel
theorem dX0_isHermits_13 : decode cX0_isHermits 13 = .ok (.goto 4, 3) := by decide +kernel
theorem dX0_isHermits_16 : decode cX0_isHermits 16 = .ok (.iconst 0, 1) := by decide +kernel
theorem dX0_isHermits_17 : decode cX0_isHermits 17 = .ok (.ireturn, 1) := by decide +kernel
theorem dX0_setHermits_0 : decode cX0_setHermits 0 = .ok (.aload_n 0, 1) := by decide +kernel
theorem dX0_setHermits_1 : decode cX0_setHermits 1 = .ok (.iload_n 1, 1) := by decide +kernel
theorem dX0_setHermits_2 : decode cX0_setHermits 2 = .ok (.invokevirtual 78, 3) := by decide +kernel
theorem dX0_setHermits_5 : decode cX0_setHermits 5 = .ok (.ifCond .eq 32, 3) := by decide +kernel
theorem dX0_setHermits_8 : decode cX0_setHermits 8 = .ok (.aload_n 0, 1) := by decide +kernel
theorem dX0_setHermits_9 : decode cX0_setHermits 9 = .ok (.iload_n 2, 1) := by decide +kernel
theorem dX0_setHermits_10 : decode cX0_setHermits 10 = .ok (.ifCond .eq 14, 3) := by decide +kernel
theorem dX0_setHermits_13 : decode cX0_setHermits 13 = .ok (.aload_n 0, 1) := by decide +kernel
theorem dX0_setHermits_14 : decode cX0_setHermits 14 = .ok (.getfield 52, 3) := by decide +kernel
theorem dX0_setHermits_17 : decode cX0_setHermits 17 = .ok (.iconst 1, 1) := by decide +kernel
theorem dX0_setHermits_18 : decode cX0_setHermits 18 = .ok (.iload_n 1, 1) := by decide +kernel
theorem dX0_setHermits_19 : decode cX0_setHermits 19 = .ok (.ishl, 1) := by decide +kernel
theorem dX0_setHermits_20 : decode cX0_setHermits 20 = .ok (.ior, 1) := by decide +kernel
theorem dX0_setHermits_21 : decode cX0_setHermits 21 = .ok (.goto 13, 3) := by decide +kernel
theorem dX0_setHermits_24 : decode cX0_setHermits 24 = .ok (.aload_n 0, 1) := by decide +kernel
theorem dX0_setHermits_25 : decode cX0_setHermits 25 = .ok (.getfield 52, 3) := by decide +kernel
theorem dX0_setHermits_28 : decode cX0_setHermits 28 = .ok (.iconst 1, 1) := by decide +kernel
theorem dX0_setHermits_29 : decode cX0_setHermits 29 = .ok (.iload_n 1, 1) := by decide +kernel
theorem dX0_setHermits_30 : decode cX0_setHermits 30 = .ok (.ishl, 1) := by decide +kernel
theorem dX0_setHermits_31 : decode cX0_setHermits 31 = .ok (.iconst (-1), 1) := by decide +kernel
theorem dX0_setHermits_32 : decode cX0_setHermits 32 = .ok (.ixor, 1) := by decide +kernel
theorem dX0_setHermits_33 : decode cX0_setHermits 33 = .ok (.iand, 1) := by decide +kernel
theorem dX0_setHermits_34 : decode cX0_setHermits 34 = .ok (.putfield 52, 3) := by decide +kernel
theorem dX0_setHermits_37 : decode cX0_setHermits 37 = .ok (.return_, 1) := by decide +kernel
theorem dX0_allVillages_0 : decode cX0_allVillages 0 = .ok (.iconst 1, 1) := by decide +kernel
theorem dX0_allVillages_1 : decode cX0_allVillages 1 = .ok (.aload_n 0, 1) := by decide +kernel
theorem dX0_allVillages_2 : decode cX0_allVillages 2 = .ok (.getfield 43, 3) := by decide +kernel
theorem dX0_allVillages_5 : decode cX0_allVillages 5 = .ok (.ishl, 1) := by decide +kernel
theorem dX0_allVillages_6 : decode cX0_allVillages 6 = .ok (.iconst 1, 1) := by decide +kernel
theorem dX0_allVillages_7 : decode cX0_allVillages 7 = .ok (.isub, 1) := by decide +kernel
theorem dX0_allVillages_8 : decode cX0_allVillages 8 = .ok (.ireturn, 1) := by decide +kernel
theorem dX0_roadsOf_0 : decode cX0_roadsOf 0 = .ok (.iconst 0, 1) := by decide +kernel
theorem dX0_roadsOf_1 : decode cX0_roadsOf 1 = .ok (.istore_n 2, 1) := by decide +kernel
theorem dX0_roadsOf_2 : decode cX0_roadsOf 2 = .ok (.iconst 0, 1) := by decide +kernel
theorem dX0_roadsOf_3 : decode cX0_roadsOf 3 = .ok (.istore_n 3, 1) := by decide +kernel
theorem dX0_roadsOf_4 : decode cX0_roadsOf 4 = .ok (.iload_n 3, 1) := by decide +kernel
theorem dX0_roadsOf_5 : decode cX0_roadsOf 5 = .ok (.aload_n 0, 1) := by decide +kernel
theorem dX0_roadsOf_6 : decode cX0_roadsOf 6 = .ok (.getfield 55, 3) := by decide +kernel
theorem dX0_roadsOf_9 : decode cX0_roadsOf 9 = .ok (.if_icmp .ge 32, 3) := by decide +kernel
theorem dX0_roadsOf_12 : decode cX0_roadsOf 12 = .ok (.aload_n 0, 1) := by decide +kernel
theorem dX0_roadsOf_13 : decode cX0_roadsOf 13 = .ok (.getfield 15, 3) := by decide +kernel
theorem dX0_roadsOf_16 : decode cX0_roadsOf 16 = .ok (.iload_n 3, 1) := by decide +kernel
theorem dX0_roadsOf_17 : decode cX0_roadsOf 17 = .ok (.iaload, 1) := by decide +kernel
theorem dX0_roadsOf_18 : decode cX0_roadsOf 18 = .ok (.iload_n 1, 1) := by decide +kernel
theorem dX0_roadsOf_19 : decode cX0_roadsOf 19 = .ok (.if_icmp .eq 13, 3) := by decide +kernel
theorem dX0_roadsOf_22 : decode cX0_roadsOf 22 = .ok (.aload_n 0, 1) := by decide +kernel
theorem dX0_roadsOf_23 : decode cX0_roadsOf 23 = .ok (.getfield 18, 3) := by decide +kernel
theorem dX0_roadsOf_26 : decode cX0_roadsOf 26 = .ok (.iload_n 3, 1) := by decide +kernel
theorem dX0_roadsOf_27 : decode cX0_roadsOf 27 = .ok (.iaload, 1) := by decide +kernel
theorem dX0_roadsOf_28 : decode cX0_roadsOf 28 = .ok (.iload_n 1, 1) := by decide +kernel
theorem dX0_roadsOf_29 : decode cX0_roadsOf 29 = .ok (.if_icmp .ne 6, 3) := by decide +kernel
theorem dX0_roadsOf_32 : decode cX0_roadsOf 32 = .ok (.iinc 2 1, 3) := by decide +kernel
theorem dX0_roadsOf_35 : decode cX0_roadsOf 35 = .ok (.iinc 3 1, 3) := by decide +kernel
theorem dX0_roadsOf_38 : decode cX0_roadsOf 38 = .ok (.goto (-34), 3) := by decide +kernel
theorem dX0_roadsOf_41 : decode cX0_roadsOf 41 = .ok (.iload_n 2, 1) := by decide +kernel
theorem dX0_roadsOf_42 : decode cX0_roadsOf 42 = .ok (.ireturn, 1) := by decide +kernel
theorem dX0_areJoined_0 : decode cX0_areJoined 0 = .ok (.iconst 0, 1) := by decide +kernel
theorem dX0_areJoined_1 : decode cX0_areJoined 1 = .ok (.istore_n 3, 1) := by decide +kernel
theorem dX0_areJoined_2 : decode cX0_areJoined 2 = .ok (.iload_n 3, 1) := by decide +kernel
theorem dX0_areJoined_3 : decode cX0_areJoined 3 = .ok (.aload_n 0, 1) := by decide +kernel
theorem dX0_areJoined_4 : decode cX0_areJoined 4 = .ok (.getfield 55, 3) := by decide +kernel
theorem dX0_areJoined_7 : decode cX0_areJoined 7 = .ok (.if_icmp .ge 51, 3) := by decide +kernel
theorem dX0_areJoined_10 : decode cX0_areJoined 10 = .ok (.aload_n 0, 1) := by decide +kernel
theorem dX0_areJoined_11 : decode cX0_areJoined 11 = .ok (.getfield 15, 3) := by decide +kernel
theorem dX0_areJoined_14 : decode cX0_areJoined 14 = .ok (.iload_n 3, 1) := by decide +kernel
theorem dX0_areJoined_15 : decode cX0_areJoined 15 = .ok (.iaload, 1) := by decide +kernel
theorem dX0_areJoined_16 : decode cX0_areJoined 16 = .ok (.iload_n 1, 1) := by decide +kernel
theorem dX0_areJoined_17 : decode cX0_areJoined 17 = .ok (.if_icmp .ne 13, 3) := by decide +kernel
theorem dX0_areJoined_20 : decode cX0_areJoined 20 = .ok (.aload_n 0, 1) := by decide +kernel
theorem dX0_areJoined_21 : decode cX0_areJoined 21 = .ok (.getfield 18, 3) := by decide +kernel
theorem dX0_areJoined_24 : decode cX0_areJoined 24 = .ok (.iload_n 3, 1) := by decide +kernel
theorem dX0_areJoined_25 : decode cX0_areJoined 25 = .ok (.iaload, 1) := by decide +kernel
theorem dX0_areJoined_26 : decode cX0_areJoined 26 = .ok (.iload_n 2, 1) := by decide +kernel
theorem dX0_areJoined_27 : decode cX0_areJoined 27 = .ok (.if_icmp .eq 23, 3) := by decide +kernel
theorem dX0_areJoined_30 : decode cX0_areJoined 30 = .ok (.aload_n 0, 1) := by decide +kernel
theorem dX0_areJoined_31 : decode cX0_areJoined 31 = .ok (.getfield 15, 3) := by decide +kernel
theorem dX0_areJoined_34 : decode cX0_areJoined 34 = .ok (.iload_n 3, 1) := by decide +kernel
theorem dX0_areJoined_35 : decode cX0_areJoined 35 = .ok (.iaload, 1) := by decide +kernel
theorem dX0_areJoined_36 : decode cX0_areJoined 36 = .ok (.iload_n 2, 1) := by decide +kernel
theorem dX0_areJoined_37 : decode cX0_areJoined 37 = .ok (.if_icmp .ne 15, 3) := by decide +kernel
theorem dX0_areJoined_40 : decode cX0_areJoined 40 = .ok (.aload_n 0, 1) := by decide +kernel
theorem dX0_areJoined_41 : decode cX0_areJoined 41 = .ok (.getfield 18, 3) := by decide +kernel
theorem dX0_areJoined_44 : decode cX0_areJoined 44 = .ok (.iload_n 3, 1) := by decide +kernel
theorem dX0_areJoined_45 : decode cX0_areJoined 45 = .ok (.iaload, 1) := by decide +kernel
theorem dX0_areJoined_46 : decode cX0_areJoined 46 = .ok (.iload_n 1, 1) := by decide +kernel
theorem dX0_areJoined_47 : decode cX0_areJoined 47 = .ok (.if_icmp .ne 5, 3) := by decide +kernel
theorem dX0_areJoined_50 : decode cX0_areJoined 50 = .ok (.iconst 1, 1) := by decide +kernel
theorem dX0_areJoined_51 : decode cX0_areJoined 51 = .ok (.ireturn, 1) := by decide +kernel
theorem dX0_areJoined_52 : decode cX0_areJoined 52 = .ok (.iinc 3 1, 3) := by decide +kernel
theorem dX0_areJoined_55 : decode cX0_areJoined 55 = .ok (.goto (-53), 3) := by decide +kernel
theorem dX0_areJoined_58 : decode cX0_areJoined 58 = .ok (.iconst 0, 1) := by decide +kernel
theorem dX0_areJoined_59 : decode cX0_areJoined 59 = .ok (.ireturn, 1) := by decide +kernel
theorem dX0_lowest_0 : decode cX0_lowest 0 = .ok (.iconst 0, 1) := by decide +kernel
theorem dX0_lowest_1 : decode cX0_lowest 1 = .ok (.istore_n 1, 1) := by decide +kernel
theorem dX0_lowest_2 : decode cX0_lowest 2 = .ok (.iconst 1, 1) := by decide +kernel
theorem dX0_lowest_3 : decode cX0_lowest 3 = .ok (.istore_n 2, 1) := by decide +kernel
theorem dX0_lowest_4 : decode cX0_lowest 4 = .ok (.iload_n 2, 1) := by decide +kernel
theorem dX0_lowest_5 : decode cX0_lowest 5 = .ok (.aload_n 0, 1) := by decide +kernel
theorem dX0_lowest_6 : decode cX0_lowest 6 = .ok (.getfield 43, 3) := by decide +kernel
theorem dX0_lowest_9 : decode cX0_lowest 9 = .ok (.if_icmp .ge 26, 3) := by decide +kernel
theorem dX0_lowest_12 : decode cX0_lowest 12 = .ok (.aload_n 0, 1) := by decide +kernel
theorem dX0_lowest_13 : decode cX0_lowest 13 = .ok (.getfield 9, 3) := by decide +kernel
theorem dX0_lowest_16 : decode cX0_lowest 16 = .ok (.iload_n 2, 1) := by decide +kernel
theorem dX0_lowest_17 : decode cX0_lowest 17 = .ok (.iaload, 1) := by decide +kernel
theorem dX0_lowest_18 : decode cX0_lowest 18 = .ok (.aload_n 0, 1) := by decide +kernel
theorem dX0_lowest_19 : decode cX0_lowest 19 = .ok (.getfield 9, 3) := by decide +kernel
theorem dX0_lowest_22 : decode cX0_lowest 22 = .ok (.iload_n 1, 1) := by decide +kernel
theorem dX0_lowest_23 : decode cX0_lowest 23 = .ok (.iaload, 1) := by decide +kernel
theorem dX0_lowest_24 : decode cX0_lowest 24 = .ok (.if_icmp .ge 5, 3) := by decide +kernel
theorem dX0_lowest_27 : decode cX0_lowest 27 = .ok (.iload_n 2, 1) := by decide +kernel
theorem dX0_lowest_28 : decode cX0_lowest 28 = .ok (.istore_n 1, 1) := by decide +kernel
theorem dX0_lowest_29 : decode cX0_lowest 29 = .ok (.iinc 2 1, 3) := by decide +kernel
theorem dX0_lowest_32 : decode cX0_lowest 32 = .ok (.goto (-28), 3) := by decide +kernel
theorem dX0_lowest_35 : decode cX0_lowest 35 = .ok (.iload_n 1, 1) := by decide +kernel
theorem dX0_lowest_36 : decode cX0_lowest 36 = .ok (.ireturn, 1) := by decide +kernel
theorem dX0_highest_0 : decode cX0_highest 0 = .ok (.iconst 0, 1) := by decide +kernel
theorem dX0_highest_1 : decode cX0_highest 1 = .ok (.istore_n 1, 1) := by decide +kernel
theorem dX0_highest_2 : decode cX0_highest 2 = .ok (.iconst 1, 1) := by decide +kernel
theorem dX0_highest_3 : decode cX0_highest 3 = .ok (.istore_n 2, 1) := by decide +kernel
theorem dX0_highest_4 : decode cX0_highest 4 = .ok (.iload_n 2, 1) := by decide +kernel
theorem dX0_highest_5 : decode cX0_highest 5 = .ok (.aload_n 0, 1) := by decide +kernel
theorem dX0_highest_6 : decode cX0_highest 6 = .ok (.getfield 43, 3) := by decide +kernel
theorem dX0_highest_9 : decode cX0_highest 9 = .ok (.if_icmp .ge 26, 3) := by decide +kernel
theorem dX0_highest_12 : decode cX0_highest 12 = .ok (.aload_n 0, 1) := by decide +kernel
theorem dX0_highest_13 : decode cX0_highest 13 = .ok (.getfield 9, 3) := by decide +kernel
theorem dX0_highest_16 : decode cX0_highest 16 = .ok (.iload_n 2, 1) := by decide +kernel
theorem dX0_highest_17 : decode cX0_highest 17 = .ok (.iaload, 1) := by decide +kernel
theorem dX0_highest_18 : decode cX0_highest 18 = .ok (.aload_n 0, 1) := by decide +kernel
theorem dX0_highest_19 : decode cX0_highest 19 = .ok (.getfield 9, 3) := by decide +kernel
theorem dX0_highest_22 : decode cX0_highest 22 = .ok (.iload_n 1, 1) := by decide +kernel
theorem dX0_highest_23 : decode cX0_highest 23 = .ok (.iaload, 1) := by decide +kernel
theorem dX0_highest_24 : decode cX0_highest 24 = .ok (.if_icmp .le 5, 3) := by decide +kernel
theorem dX0_highest_27 : decode cX0_highest 27 = .ok (.iload_n 2, 1) := by decide +kernel
theorem dX0_highest_28 : decode cX0_highest 28 = .ok (.istore_n 1, 1) := by decide +kernel
theorem dX0_highest_29 : decode cX0_highest 29 = .ok (.iinc 2 1, 3) := by decide +kernel
theorem dX0_highest_32 : decode cX0_highest 32 = .ok (.goto (-28), 3) := by decide +kernel
theorem dX0_highest_35 : decode cX0_highest 35 = .ok (.iload_n 1, 1) := by decide +kernel
theorem dX0_highest_36 : decode cX0_highest 36 = .ok (.ireturn, 1) := by decide +kernel
theorem dX0_heightsTogether_0 : decode cX0_heightsTogether 0 = .ok (.iconst 0, 1) := by decide +kernel
theorem dX0_heightsTogether_1 : decode cX0_heightsTogether 1 = .ok (.istore_n 1, 1) := by decide +kernel
theorem dX0_heightsTogether_2 : decode cX0_heightsTogether 2 = .ok (.iconst 0, 1) := by decide +kernel
theorem dX0_heightsTogether_3 : decode cX0_heightsTogether 3 = .ok (.istore_n 2, 1) := by decide +kernel
theorem dX0_heightsTogether_4 : decode cX0_heightsTogether 4 = .ok (.iload_n 2, 1) := by decide +kernel
theorem dX0_heightsTogether_5 : decode cX0_heightsTogether 5 = .ok (.aload_n 0, 1) := by decide +kernel
theorem dX0_heightsTogether_6 : decode cX0_heightsTogether 6 = .ok (.getfield 43, 3) := by decide +kernel
theorem dX0_heightsTogether_9 : decode cX0_heightsTogether 9 = .ok (.if_icmp .ge 18, 3) := by decide +kernel
theorem dX0_heightsTogether_12 : decode cX0_heightsTogether 12 = .ok (.iload_n 1, 1) := by decide +kernel
theorem dX0_heightsTogether_13 : decode cX0_heightsTogether 13 = .ok (.aload_n 0, 1) := by decide +kernel
theorem dX0_heightsTogether_14 : decode cX0_heightsTogether 14 = .ok (.getfield 9, 3) := by decide +kernel
theorem dX0_heightsTogether_17 : decode cX0_heightsTogether 17 = .ok (.iload_n 2, 1) := by decide +kernel
theorem dX0_heightsTogether_18 : decode cX0_heightsTogether 18 = .ok (.iaload, 1) := by decide +kernel
theorem dX0_heightsTogether_19 : decode cX0_heightsTogether 19 = .ok (.iadd, 1) := by decide +kernel
theorem dX0_heightsTogether_20 : decode cX0_heightsTogether 20 = .ok (.istore_n 1, 1) := by decide +kernel
theorem dX0_heightsTogether_21 : decode cX0_heightsTogether 21 = .ok (.iinc 2 1, 3) := by decide +kernel
theorem dX0_heightsTogether_24 : decode cX0_heightsTogether 24 = .ok (.goto (-20), 3) := by decide +kernel
theorem dX0_heightsTogether_27 : decode cX0_heightsTogether 27 = .ok (.iload_n 1, 1) := by decide +kernel
theorem dX0_heightsTogether_28 : decode cX0_heightsTogether 28 = .ok (.ireturn, 1) := by decide +kernel
theorem dX0_takes_0 : decode cX0_takes 0 = .ok (.iload_n 1, 1) := by decide +kernel
theorem dX0_takes_1 : decode cX0_takes 1 = .ok (.iconst 4, 1) := by decide +kernel
theorem dX0_takes_2 : decode cX0_takes 2 = .ok (.if_icmp .ne 11, 3) := by decide +kernel
theorem dX0_takes_5 : decode cX0_takes 5 = .ok (.aload_n 0, 1) := by decide +kernel
theorem dX0_takes_6 : decode cX0_takes 6 = .ok (.iload_n 2, 1) := by decide +kernel
theorem dX0_takes_7 : decode cX0_takes 7 = .ok (.invokevirtual 82, 3) := by decide +kernel
theorem dX0_takes_10 : decode cX0_takes 10 = .ok (.ifCond .ne 7, 3) := by decide +kernel
theorem dX0_takes_13 : decode cX0_takes 13 = .ok (.iconst 1, 1) := by decide +kernel
theorem dX0_takes_14 : decode cX0_takes 14 = .ok (.goto 4, 3) := by decide +kernel
theorem dX0_takes_17 : decode cX0_takes 17 = .ok (.iconst 0, 1) := by decide +kernel
theorem dX0_takes_18 : decode cX0_takes 18 = .ok (.ireturn, 1) := by decide +kernel
theorem dX0_carries_0 : decode cX0_carries 0 = .ok (.aload_n 0, 1) := by decide +kernel
theorem dX0_carries_1 : decode cX0_carries 1 = .ok (.iload_n 1, 1) := by decide +kernel
theorem dX0_carries_2 : decode cX0_carries 2 = .ok (.iload_n 3, 1) := by decide +kernel
theorem dX0_carries_3 : decode cX0_carries 3 = .ok (.invokevirtual 85, 3) := by decide +kernel
theorem dX0_carries_6 : decode cX0_carries 6 = .ok (.ifCond .eq 25, 3) := by decide +kernel
theorem dX0_carries_9 : decode cX0_carries 9 = .ok (.aload_n 0, 1) := by decide +kernel
theorem dX0_carries_10 : decode cX0_carries 10 = .ok (.iload_n 2, 1) := by decide +kernel
theorem dX0_carries_11 : decode cX0_carries 11 = .ok (.invokevirtual 89, 3) := by decide +kernel
theorem dX0_carries_14 : decode cX0_carries 14 = .ok (.aload_n 0, 1) := by decide +kernel
theorem dX0_carries_15 : decode cX0_carries 15 = .ok (.iload_n 3, 1) := by decide +kernel
theorem dX0_carries_16 : decode cX0_carries 16 = .ok (.invokevirtual 89, 3) := by decide +kernel
theorem dX0_carries_19 : decode cX0_carries 19 = .ok (.isub, 1) := by decide +kernel
theorem dX0_carries_20 : decode cX0_carries 20 = .ok (.iload_n 1, 1) := by decide +kernel
theorem dX0_carries_21 : decode cX0_carries 21 = .ok (.invokestatic 93, 3) := by decide +kernel
theorem dX0_carries_24 : decode cX0_carries 24 = .ok (.if_icmp .lt 7, 3) := by decide +kernel
theorem dX0_carries_27 : decode cX0_carries 27 = .ok (.iconst 1, 1) := by decide +kernel
theorem dX0_carries_28 : decode cX0_carries 28 = .ok (.goto 4, 3) := by decide +kernel
theorem dX0_carries_31 : decode cX0_carries 31 = .ok (.iconst 0, 1) := by decide +kernel
theorem dX0_carries_32 : decode cX0_carries 32 = .ok (.ireturn, 1) := by decide +kernel
theorem dX0_leadsInto_0 : decode cX0_leadsInto 0 = .ok (.aload_n 0, 1) := by decide +kernel
theorem dX0_leadsInto_1 : decode cX0_leadsInto 1 = .ok (.iload_n 2, 1) := by decide +kernel
theorem dX0_leadsInto_2 : decode cX0_leadsInto 2 = .ok (.iload_n 3, 1) := by decide +kernel
theorem dX0_leadsInto_3 : decode cX0_leadsInto 3 = .ok (.invokevirtual 98, 3) := by decide +kernel
theorem dX0_leadsInto_6 : decode cX0_leadsInto 6 = .ok (.ifCond .eq 17, 3) := by decide +kernel
theorem dX0_leadsInto_9 : decode cX0_leadsInto 9 = .ok (.aload_n 0, 1) := by decide +kernel
theorem dX0_leadsInto_10 : decode cX0_leadsInto 10 = .ok (.iload_n 1, 1) := by decide +kernel
theorem dX0_leadsInto_11 : decode cX0_leadsInto 11 = .ok (.iload_n 2, 1) := by decide +kernel
theorem dX0_leadsInto_12 : decode cX0_leadsInto 12 = .ok (.iload_n 3, 1) := by decide +kernel
theorem dX0_leadsInto_13 : decode cX0_leadsInto 13 = .ok (.invokevirtual 101, 3) := by decide +kernel
theorem dX0_leadsInto_16 : decode cX0_leadsInto 16 = .ok (.ifCond .eq 7, 3) := by decide +kernel
theorem dX0_leadsInto_19 : decode cX0_leadsInto 19 = .ok (.iconst 1, 1) := by decide +kernel
theorem dX0_leadsInto_20 : decode cX0_leadsInto 20 = .ok (.goto 4, 3) := by decide +kernel
theorem dX0_leadsInto_23 : decode cX0_leadsInto 23 = .ok (.iconst 0, 1) := by decide +kernel
theorem dX0_leadsInto_24 : decode cX0_leadsInto 24 = .ok (.ireturn, 1) := by decide +kernel
theorem dX0_balloonTakes_0 : decode cX0_balloonTakes 0 = .ok (.iload_n 1, 1) := by decide +kernel
theorem dX0_balloonTakes_1 : decode cX0_balloonTakes 1 = .ok (.iconst 5, 1) := by decide +kernel
theorem dX0_balloonTakes_2 : decode cX0_balloonTakes 2 = .ok (.if_icmp .eq 19, 3) := by decide +kernel
theorem dX0_balloonTakes_5 : decode cX0_balloonTakes 5 = .ok (.aload_n 0, 1) := by decide +kernel
theorem dX0_balloonTakes_6 : decode cX0_balloonTakes 6 = .ok (.iload_n 1, 1) := by decide +kernel
theorem dX0_balloonTakes_7 : decode cX0_balloonTakes 7 = .ok (.aload_n 0, 1) := by decide +kernel
theorem dX0_balloonTakes_8 : decode cX0_balloonTakes 8 = .ok (.invokevirtual 105, 3) := by decide +kernel
theorem dX0_balloonTakes_11 : decode cX0_balloonTakes 11 = .ok (.invokevirtual 85, 3) := by decide +kernel
theorem dX0_balloonTakes_14 : decode cX0_balloonTakes 14 = .ok (.ifCond .eq 7, 3) := by decide +kernel
theorem dX0_balloonTakes_17 : decode cX0_balloonTakes 17 = .ok (.iconst 1, 1) := by decide +kernel
theorem dX0_balloonTakes_18 : decode cX0_balloonTakes 18 = .ok (.goto 4, 3) := by decide +kernel
theorem dX0_balloonTakes_21 : decode cX0_balloonTakes 21 = .ok (.iconst 0, 1) := by decide +kernel
theorem dX0_balloonTakes_22 : decode cX0_balloonTakes 22 = .ok (.ireturn, 1) := by decide +kernel
theorem dX0_liesIn_0 : decode cX0_liesIn 0 = .ok (.aload_n 0, 1) := by decide +kernel
theorem dX0_liesIn_1 : decode cX0_liesIn 1 = .ok (.iload_n 1, 1) := by decide +kernel
theorem dX0_liesIn_2 : decode cX0_liesIn 2 = .ok (.invokevirtual 109, 3) := by decide +kernel
theorem dX0_liesIn_5 : decode cX0_liesIn 5 = .ok (.ifCond .eq 26, 3) := by decide +kernel
theorem dX0_liesIn_8 : decode cX0_liesIn 8 = .ok (.aload_n 0, 1) := by decide +kernel
theorem dX0_liesIn_9 : decode cX0_liesIn 9 = .ok (.getfield 40, 3) := by decide +kernel
theorem dX0_liesIn_12 : decode cX0_liesIn 12 = .ok (.iload_n 1, 1) := by decide +kernel
theorem dX0_liesIn_13 : decode cX0_liesIn 13 = .ok (.iaload, 1) := by decide +kernel
theorem dX0_liesIn_14 : decode cX0_liesIn 14 = .ok (.ifCond .ne 17, 3) := by decide +kernel
theorem dX0_liesIn_17 : decode cX0_liesIn 17 = .ok (.aload_n 0, 1) := by decide +kernel
theorem dX0_liesIn_18 : decode cX0_liesIn 18 = .ok (.getfield 31, 3) := by decide +kernel
theorem dX0_liesIn_21 : decode cX0_liesIn 21 = .ok (.iload_n 1, 1) := by decide +kernel
theorem dX0_liesIn_22 : decode cX0_liesIn 22 = .ok (.iaload, 1) := by decide +kernel
theorem dX0_liesIn_23 : decode cX0_liesIn 23 = .ok (.iload_n 2, 1) := by decide +kernel
theorem dX0_liesIn_24 : decode cX0_liesIn 24 = .ok (.if_icmp .ne 7, 3) := by decide +kernel
theorem dX0_liesIn_27 : decode cX0_liesIn 27 = .ok (.iconst 1, 1) := by decide +kernel
theorem dX0_liesIn_28 : decode cX0_liesIn 28 = .ok (.goto 4, 3) := by decide +kernel
theorem dX0_liesIn_31 : decode cX0_liesIn 31 = .ok (.iconst 0, 1) := by decide +kernel
theorem dX0_liesIn_32 : decode cX0_liesIn 32 = .ok (.ireturn, 1) := by decide +kernel
theorem dX0_isThere_0 : decode cX0_isThere 0 = .ok (.aload_n 0, 1) := by decide +kernel
theorem dX0_isThere_1 : decode cX0_isThere 1 = .ok (.iload_n 1, 1) := by decide +kernel
theorem dX0_isThere_2 : decode cX0_isThere 2 = .ok (.invokevirtual 109, 3) := by decide +kernel
theorem dX0_isThere_5 : decode cX0_isThere 5 = .ok (.ifCond .eq 21, 3) := by decide +kernel
theorem dX0_isThere_8 : decode cX0_isThere 8 = .ok (.aload_n 0, 1) := by decide +kernel
theorem dX0_isThere_9 : decode cX0_isThere 9 = .ok (.iload_n 1, 1) := by decide +kernel
theorem dX0_isThere_10 : decode cX0_isThere 10 = .ok (.aload_n 0, 1) := by decide +kernel
theorem dX0_isThere_11 : decode cX0_isThere 11 = .ok (.getfield 34, 3) := by decide +kernel
theorem dX0_isThere_14 : decode cX0_isThere 14 = .ok (.iload_n 1, 1) := by decide +kernel
theorem dX0_isThere_15 : decode cX0_isThere 15 = .ok (.iaload, 1) := by decide +kernel
theorem dX0_isThere_16 : decode cX0_isThere 16 = .ok (.invokevirtual 112, 3) := by decide +kernel
theorem dX0_isThere_19 : decode cX0_isThere 19 = .ok (.ifCond .eq 7, 3) := by decide +kernel
theorem dX0_isThere_22 : decode cX0_isThere 22 = .ok (.iconst 1, 1) := by decide +kernel
theorem dX0_isThere_23 : decode cX0_isThere 23 = .ok (.goto 4, 3) := by decide +kernel
theorem dX0_isThere_26 : decode cX0_isThere 26 = .ok (.iconst 0, 1) := by decide +kernel
theorem dX0_isThere_27 : decode cX0_isThere 27 = .ok (.ireturn, 1) := by decide +kernel
theorem dX0_lettersIn_0 : decode cX0_lettersIn 0 = .ok (.iconst 0, 1) := by decide +kernel
theorem dX0_lettersIn_1 : decode cX0_lettersIn 1 = .ok (.istore_n 2, 1) := by decide +kernel
theorem dX0_lettersIn_2 : decode cX0_lettersIn 2 = .ok (.iconst 0, 1) := by decide +kernel
theorem dX0_lettersIn_3 : decode cX0_lettersIn 3 = .ok (.istore_n 3, 1) := by decide +kernel
theorem dX0_lettersIn_4 : decode cX0_lettersIn 4 = .ok (.iload_n 3, 1) := by decide +kernel
theorem dX0_lettersIn_5 : decode cX0_lettersIn 5 = .ok (.aload_n 0, 1) := by decide +kernel
theorem dX0_lettersIn_6 : decode cX0_lettersIn 6 = .ok (.getfield 61, 3) := by decide +kernel
theorem dX0_lettersIn_9 : decode cX0_lettersIn 9 = .ok (.if_icmp .ge 24, 3) := by decide +kernel
theorem dX0_lettersIn_12 : decode cX0_lettersIn 12 = .ok (.aload_n 0, 1) := by decide +kernel
theorem dX0_lettersIn_13 : decode cX0_lettersIn 13 = .ok (.iload_n 3, 1) := by decide +kernel
theorem dX0_lettersIn_14 : decode cX0_lettersIn 14 = .ok (.iload_n 1, 1) := by decide +kernel
theorem dX0_lettersIn_15 : decode cX0_lettersIn 15 = .ok (.invokevirtual 112, 3) := by decide +kernel
theorem dX0_lettersIn_18 : decode cX0_lettersIn 18 = .ok (.ifCond .eq 9, 3) := by decide +kernel
theorem dX0_lettersIn_21 : decode cX0_lettersIn 21 = .ok (.iload_n 2, 1) := by decide +kernel
theorem dX0_lettersIn_22 : decode cX0_lettersIn 22 = .ok (.iconst 1, 1) := by decide +kernel
theorem dX0_lettersIn_23 : decode cX0_lettersIn 23 = .ok (.iload_n 3, 1) := by decide +kernel
theorem dX0_lettersIn_24 : decode cX0_lettersIn 24 = .ok (.ishl, 1) := by decide +kernel
theorem dX0_lettersIn_25 : decode cX0_lettersIn 25 = .ok (.ior, 1) := by decide +kernel
theorem dX0_lettersIn_26 : decode cX0_lettersIn 26 = .ok (.istore_n 2, 1) := by decide +kernel
theorem dX0_lettersIn_27 : decode cX0_lettersIn 27 = .ok (.iinc 3 1, 3) := by decide +kernel
theorem dX0_lettersIn_30 : decode cX0_lettersIn 30 = .ok (.goto (-26), 3) := by decide +kernel
theorem dX0_lettersIn_33 : decode cX0_lettersIn 33 = .ok (.iload_n 2, 1) := by decide +kernel
theorem dX0_lettersIn_34 : decode cX0_lettersIn 34 = .ok (.ireturn, 1) := by decide +kernel
theorem dX0_lettersThere_0 : decode cX0_lettersThere 0 = .ok (.iconst 0, 1) := by decide +kernel
theorem dX0_lettersThere_1 : decode cX0_lettersThere 1 = .ok (.istore_n 1, 1) := by decide +kernel
theorem dX0_lettersThere_2 : decode cX0_lettersThere 2 = .ok (.iconst 0, 1) := by decide +kernel
theorem dX0_lettersThere_3 : decode cX0_lettersThere 3 = .ok (.istore_n 2, 1) := by decide +kernel
theorem dX0_lettersThere_4 : decode cX0_lettersThere 4 = .ok (.iload_n 2, 1) := by decide +kernel
theorem dX0_lettersThere_5 : decode cX0_lettersThere 5 = .ok (.aload_n 0, 1) := by decide +kernel
theorem dX0_lettersThere_6 : decode cX0_lettersThere 6 = .ok (.getfield 61, 3) := by decide +kernel
theorem dX0_lettersThere_9 : decode cX0_lettersThere 9 = .ok (.if_icmp .ge 20, 3) := by decide +kernel
theorem dX0_lettersThere_12 : decode cX0_lettersThere 12 = .ok (.aload_n 0, 1) := by decide +kernel
theorem dX0_lettersThere_13 : decode cX0_lettersThere 13 = .ok (.iload_n 2, 1) := by decide +kernel
theorem dX0_lettersThere_14 : decode cX0_lettersThere 14 = .ok (.invokevirtual 115, 3) := by decide +kernel
theorem dX0_lettersThere_17 : decode cX0_lettersThere 17 = .ok (.ifCond .eq 6, 3) := by decide +kernel
theorem dX0_lettersThere_20 : decode cX0_lettersThere 20 = .ok (.iinc 1 1, 3) := by decide +kernel
theorem dX0_lettersThere_23 : decode cX0_lettersThere 23 = .ok (.iinc 2 1, 3) := by decide +kernel
theorem dX0_lettersThere_26 : decode cX0_lettersThere 26 = .ok (.goto (-22), 3) := by decide +kernel
theorem dX0_lettersThere_29 : decode cX0_lettersThere 29 = .ok (.iload_n 1, 1) := by decide +kernel
theorem dX0_lettersThere_30 : decode cX0_lettersThere 30 = .ok (.ireturn, 1) := by decide +kernel
theorem dX0_lettersOnTheirWay_0 : decode cX0_lettersOnTheirWay 0 = .ok (.iconst 0, 1) := by decide +kernel
theorem dX0_lettersOnTheirWay_1 : decode cX0_lettersOnTheirWay 1 = .ok (.istore_n 1, 1) := by decide +kernel
theorem dX0_lettersOnTheirWay_2 : decode cX0_lettersOnTheirWay 2 = .ok (.iconst 0, 1) := by decide +kernel
theorem dX0_lettersOnTheirWay_3 : decode cX0_lettersOnTheirWay 3 = .ok (.istore_n 2, 1) := by decide +kernel
theorem dX0_lettersOnTheirWay_4 : decode cX0_lettersOnTheirWay 4 = .ok (.iload_n 2, 1) := by decide +kernel
theorem dX0_lettersOnTheirWay_5 : decode cX0_lettersOnTheirWay 5 = .ok (.aload_n 0, 1) := by decide +kernel
theorem dX0_lettersOnTheirWay_6 : decode cX0_lettersOnTheirWay 6 = .ok (.getfield 61, 3) := by decide +kernel
theorem dX0_lettersOnTheirWay_9 : decode cX0_lettersOnTheirWay 9 = .ok (.if_icmp .ge 21, 3) := by decide +kernel
theorem dX0_lettersOnTheirWay_12 : decode cX0_lettersOnTheirWay 12 = .ok (.aload_n 0, 1) := by decide +kernel
theorem dX0_lettersOnTheirWay_13 : decode cX0_lettersOnTheirWay 13 = .ok (.getfield 40, 3) := by decide +kernel
theorem dX0_lettersOnTheirWay_16 : decode cX0_lettersOnTheirWay 16 = .ok (.iload_n 2, 1) := by decide +kernel
theorem dX0_lettersOnTheirWay_17 : decode cX0_lettersOnTheirWay 17 = .ok (.iaload, 1) := by decide +kernel
theorem dX0_lettersOnTheirWay_18 : decode cX0_lettersOnTheirWay 18 = .ok (.ifCond .le 6, 3) := by decide +kernel
theorem dX0_lettersOnTheirWay_21 : decode cX0_lettersOnTheirWay 21 = .ok (.iinc 1 1, 3) := by decide +kernel
theorem dX0_lettersOnTheirWay_24 : decode cX0_lettersOnTheirWay 24 = .ok (.iinc 2 1, 3) := by decide +kernel
theorem dX0_lettersOnTheirWay_27 : decode cX0_lettersOnTheirWay 27 = .ok (.goto (-23), 3) := by decide +kernel
theorem dX0_lettersOnTheirWay_30 : decode cX0_lettersOnTheirWay 30 = .ok (.iload_n 1, 1) := by decide +kernel
theorem dX0_lettersOnTheirWay_31 : decode cX0_lettersOnTheirWay 31 = .ok (.ireturn, 1) := by decide +kernel
theorem dX0_passDay_0 : decode cX0_passDay 0 = .ok (.aload_n 0, 1) := by decide +kernel
theorem dX0_passDay_1 : decode cX0_passDay 1 = .ok (.iload_n 1, 1) := by decide +kernel
theorem dX0_passDay_2 : decode cX0_passDay 2 = .ok (.invokevirtual 109, 3) := by decide +kernel
theorem dX0_passDay_5 : decode cX0_passDay 5 = .ok (.ifCond .ne 4, 3) := by decide +kernel
theorem dX0_passDay_8 : decode cX0_passDay 8 = .ok (.return_, 1) := by decide +kernel
theorem dX0_passDay_9 : decode cX0_passDay 9 = .ok (.aload_n 0, 1) := by decide +kernel
theorem dX0_passDay_10 : decode cX0_passDay 10 = .ok (.getfield 40, 3) := by decide +kernel
theorem dX0_passDay_13 : decode cX0_passDay 13 = .ok (.iload_n 1, 1) := by decide +kernel
theorem dX0_passDay_14 : decode cX0_passDay 14 = .ok (.iaload, 1) := by decide +kernel
theorem dX0_passDay_15 : decode cX0_passDay 15 = .ok (.ifCond .ne 47, 3) := by decide +kernel
theorem dX0_passDay_18 : decode cX0_passDay 18 = .ok (.aload_n 2, 1) := by decide +kernel
theorem dX0_passDay_19 : decode cX0_passDay 19 = .ok (.aload_n 0, 1) := by decide +kernel
theorem dX0_passDay_20 : decode cX0_passDay 20 = .ok (.getfield 31, 3) := by decide +kernel
theorem dX0_passDay_23 : decode cX0_passDay 23 = .ok (.iload_n 1, 1) := by decide +kernel
theorem dX0_passDay_24 : decode cX0_passDay 24 = .ok (.iaload, 1) := by decide +kernel
theorem dX0_passDay_25 : decode cX0_passDay 25 = .ok (.aload_n 0, 1) := by decide +kernel
theorem dX0_passDay_26 : decode cX0_passDay 26 = .ok (.getfield 34, 3) := by decide +kernel
theorem dX0_passDay_29 : decode cX0_passDay 29 = .ok (.iload_n 1, 1) := by decide +kernel
theorem dX0_passDay_30 : decode cX0_passDay 30 = .ok (.iaload, 1) := by decide +kernel
theorem dX0_passDay_31 : decode cX0_passDay 31 = .ok (.iload_n 3, 1) := by decide +kernel
theorem dX0_passDay_32 : decode cX0_passDay 32 = .ok (.invokevirtual 118, 3) := by decide +kernel
theorem dX0_passDay_35 : decode cX0_passDay 35 = .ok (.aload_n 2, 1) := by decide +kernel
theorem dX0_passDay_36 : decode cX0_passDay 36 = .ok (.getfield 124, 3) := by decide +kernel
theorem dX0_passDay_39 : decode cX0_passDay 39 = .ok (.ifCond .lt 23, 3) := by decide +kernel
theorem dX0_passDay_42 : decode cX0_passDay 42 = .ok (.aload_n 0, 1) := by decide +kernel
theorem dX0_passDay_43 : decode cX0_passDay 43 = .ok (.getfield 31, 3) := by decide +kernel
theorem dX0_passDay_46 : decode cX0_passDay 46 = .ok (.iload_n 1, 1) := by decide +kernel
theorem dX0_passDay_47 : decode cX0_passDay 47 = .ok (.aload_n 2, 1) := by decide +kernel
theorem dX0_passDay_48 : decode cX0_passDay 48 = .ok (.getfield 124, 3) := by decide +kernel
theorem dX0_passDay_51 : decode cX0_passDay 51 = .ok (.iastore, 1) := by decide +kernel
theorem dX0_passDay_52 : decode cX0_passDay 52 = .ok (.aload_n 0, 1) := by decide +kernel
theorem dX0_passDay_53 : decode cX0_passDay 53 = .ok (.getfield 40, 3) := by decide +kernel
theorem dX0_passDay_56 : decode cX0_passDay 56 = .ok (.iload_n 1, 1) := by decide +kernel
theorem dX0_passDay_57 : decode cX0_passDay 57 = .ok (.aload_n 2, 1) := by decide +kernel
theorem dX0_passDay_58 : decode cX0_passDay 58 = .ok (.getfield 127, 3) := by decide +kernel
theorem dX0_passDay_61 : decode cX0_passDay 61 = .ok (.iastore, 1) := by decide +kernel
theorem dX0_passDay_62 : decode cX0_passDay 62 = .ok (.aload_n 0, 1) := by decide +kernel
theorem dX0_passDay_63 : decode cX0_passDay 63 = .ok (.getfield 40, 3) := by decide +kernel
theorem dX0_passDay_66 : decode cX0_passDay 66 = .ok (.iload_n 1, 1) := by decide +kernel
theorem dX0_passDay_67 : decode cX0_passDay 67 = .ok (.iaload, 1) := by decide +kernel
theorem dX0_passDay_68 : decode cX0_passDay 68 = .ok (.ifCond .le 13, 3) := by decide +kernel
theorem dX0_passDay_71 : decode cX0_passDay 71 = .ok (.aload_n 0, 1) := by decide +kernel
theorem dX0_passDay_72 : decode cX0_passDay 72 = .ok (.getfield 40, 3) := by decide +kernel
theorem dX0_passDay_75 : decode cX0_passDay 75 = .ok (.iload_n 1, 1) := by decide +kernel
theorem dX0_passDay_76 : decode cX0_passDay 76 = .ok (.dup2, 1) := by decide +kernel
theorem dX0_passDay_77 : decode cX0_passDay 77 = .ok (.iaload, 1) := by decide +kernel
theorem dX0_passDay_78 : decode cX0_passDay 78 = .ok (.iconst 1, 1) := by decide +kernel
theorem dX0_passDay_79 : decode cX0_passDay 79 = .ok (.isub, 1) := by decide +kernel
theorem dX0_passDay_80 : decode cX0_passDay 80 = .ok (.iastore, 1) := by decide +kernel
theorem dX0_passDay_81 : decode cX0_passDay 81 = .ok (.return_, 1) := by decide +kernel
end
