section
-- ===== PART A: goes FIRST, ahead of the names: the tables' words, and 'selects' of the private methods out of them =====
/-- a private method of a class that the tables say can be made, by its rows of tables_1 -/
def lw_okq (q : MethodName × Nat) : Prop := (q.1.cls ≠ "java/lang/invoke/MethodHandle" ∧ q.1.cls ≠ "java/lang/invoke/VarHandle") ∧ Cond.instantiable q.1.cls q.2 ∈ tables_1 ∧ Cond.privateMethod q.1 ∈ tables_1 ∧ Cond.instanceMethod q.1 ∈ tables_1
theorem lw_p0 : lw_okq (⟨"DownhillPost", "finding", "(I)I"⟩, 8) := ⟨⟨by decide +kernel, by decide +kernel⟩, List.mem_of_getElem? (i := 17) (by decide +kernel), List.mem_of_getElem? (i := 218) (by decide +kernel), List.mem_of_getElem? (i := 219) (by decide +kernel)⟩
theorem lw_p1 : lw_okq (⟨"DownhillPost", "areUnlikeVillages", "(II)Z"⟩, 8) := ⟨⟨by decide +kernel, by decide +kernel⟩, List.mem_of_getElem? (i := 17) (by decide +kernel), List.mem_of_getElem? (i := 286) (by decide +kernel), List.mem_of_getElem? (i := 287) (by decide +kernel)⟩
theorem lw_p2 : lw_okq (⟨"DownhillPost", "areVillages", "(II)Z"⟩, 8) := ⟨⟨by decide +kernel, by decide +kernel⟩, List.mem_of_getElem? (i := 17) (by decide +kernel), List.mem_of_getElem? (i := 290) (by decide +kernel), List.mem_of_getElem? (i := 291) (by decide +kernel)⟩
theorem lw_p3 : lw_okq (⟨"DownhillPost$Ways", "layStep", "(LDownhillPost$Land;IIII)V"⟩, 9) := ⟨⟨by decide +kernel, by decide +kernel⟩, List.mem_of_getElem? (i := 99) (by decide +kernel), List.mem_of_getElem? (i := 392) (by decide +kernel), List.mem_of_getElem? (i := 393) (by decide +kernel)⟩
theorem lw_p4 : lw_okq (⟨"DownhillPost$Ways", "areHere", "(II)Z"⟩, 9) := ⟨⟨by decide +kernel, by decide +kernel⟩, List.mem_of_getElem? (i := 99) (by decide +kernel), List.mem_of_getElem? (i := 396) (by decide +kernel), List.mem_of_getElem? (i := 397) (by decide +kernel)⟩
theorem lw_p5 : lw_okq (⟨"DownhillPost$Ways", "joinSteps", "()V"⟩, 9) := ⟨⟨by decide +kernel, by decide +kernel⟩, List.mem_of_getElem? (i := 99) (by decide +kernel), List.mem_of_getElem? (i := 401) (by decide +kernel), List.mem_of_getElem? (i := 402) (by decide +kernel)⟩
theorem lw_p6 : lw_okq (⟨"DownhillPost$Ways", "shortenBy", "(II)V"⟩, 9) := ⟨⟨by decide +kernel, by decide +kernel⟩, List.mem_of_getElem? (i := 99) (by decide +kernel), List.mem_of_getElem? (i := 408) (by decide +kernel), List.mem_of_getElem? (i := 409) (by decide +kernel)⟩
theorem lw_p7 : lw_okq (⟨"DownhillPost$Ways", "downDays", "(II)I"⟩, 9) := ⟨⟨by decide +kernel, by decide +kernel⟩, List.mem_of_getElem? (i := 99) (by decide +kernel), List.mem_of_getElem? (i := 416) (by decide +kernel), List.mem_of_getElem? (i := 417) (by decide +kernel)⟩
theorem lw_p8 : lw_okq (⟨"DownhillPost$Ways", "flightFrom", "(I)I"⟩, 9) := ⟨⟨by decide +kernel, by decide +kernel⟩, List.mem_of_getElem? (i := 99) (by decide +kernel), List.mem_of_getElem? (i := 420) (by decide +kernel), List.mem_of_getElem? (i := 421) (by decide +kernel)⟩
theorem lw_p9 : lw_okq (⟨"DownhillPost", "daysUntil", "(I)I"⟩, 8) := ⟨⟨by decide +kernel, by decide +kernel⟩, List.mem_of_getElem? (i := 17) (by decide +kernel), List.mem_of_getElem? (i := 424) (by decide +kernel), List.mem_of_getElem? (i := 425) (by decide +kernel)⟩
theorem lw_p10 : lw_okq (⟨"DownhillPost$Ways", "comes", "(II)Z"⟩, 9) := ⟨⟨by decide +kernel, by decide +kernel⟩, List.mem_of_getElem? (i := 99) (by decide +kernel), List.mem_of_getElem? (i := 437) (by decide +kernel), List.mem_of_getElem? (i := 438) (by decide +kernel)⟩
theorem lw_p11 : lw_okq (⟨"DownhillPost$Ways", "lastAnswer", "(III)I"⟩, 9) := ⟨⟨by decide +kernel, by decide +kernel⟩, List.mem_of_getElem? (i := 99) (by decide +kernel), List.mem_of_getElem? (i := 482) (by decide +kernel), List.mem_of_getElem? (i := 483) (by decide +kernel)⟩
theorem lw_p12 : lw_okq (⟨"DownhillPost", "heightToRise", "(III)I"⟩, 8) := ⟨⟨by decide +kernel, by decide +kernel⟩, List.mem_of_getElem? (i := 17) (by decide +kernel), List.mem_of_getElem? (i := 504) (by decide +kernel), List.mem_of_getElem? (i := 505) (by decide +kernel)⟩
theorem lw_p13 : lw_okq (⟨"DownhillPost", "bestDigging", "(II)I"⟩, 8) := ⟨⟨by decide +kernel, by decide +kernel⟩, List.mem_of_getElem? (i := 17) (by decide +kernel), List.mem_of_getElem? (i := 519) (by decide +kernel), List.mem_of_getElem? (i := 520) (by decide +kernel)⟩
theorem lw_p14 : lw_okq (⟨"DownhillPost$Ways", "daysInto", "(III)I"⟩, 9) := ⟨⟨by decide +kernel, by decide +kernel⟩, List.mem_of_getElem? (i := 99) (by decide +kernel), List.mem_of_getElem? (i := 569) (by decide +kernel), List.mem_of_getElem? (i := 570) (by decide +kernel)⟩
theorem lw_p15 : lw_okq (⟨"DownhillPost$Ways", "stepDays", "(II)I"⟩, 9) := ⟨⟨by decide +kernel, by decide +kernel⟩, List.mem_of_getElem? (i := 99) (by decide +kernel), List.mem_of_getElem? (i := 573) (by decide +kernel), List.mem_of_getElem? (i := 574) (by decide +kernel)⟩
def lw_privs_1 : List (MethodName × Nat) := [(⟨"DownhillPost", "finding", "(I)I"⟩, 8), (⟨"DownhillPost", "areUnlikeVillages", "(II)Z"⟩, 8), (⟨"DownhillPost", "areVillages", "(II)Z"⟩, 8), (⟨"DownhillPost$Ways", "layStep", "(LDownhillPost$Land;IIII)V"⟩, 9), (⟨"DownhillPost$Ways", "areHere", "(II)Z"⟩, 9), (⟨"DownhillPost$Ways", "joinSteps", "()V"⟩, 9), (⟨"DownhillPost$Ways", "shortenBy", "(II)V"⟩, 9), (⟨"DownhillPost$Ways", "downDays", "(II)I"⟩, 9), (⟨"DownhillPost$Ways", "flightFrom", "(I)I"⟩, 9), (⟨"DownhillPost", "daysUntil", "(I)I"⟩, 8), (⟨"DownhillPost$Ways", "comes", "(II)Z"⟩, 9), (⟨"DownhillPost$Ways", "lastAnswer", "(III)I"⟩, 9), (⟨"DownhillPost", "heightToRise", "(III)I"⟩, 8), (⟨"DownhillPost", "bestDigging", "(II)I"⟩, 8), (⟨"DownhillPost$Ways", "daysInto", "(III)I"⟩, 9), (⟨"DownhillPost$Ways", "stepDays", "(II)I"⟩, 9)]
theorem lw_r1 : ∀ q ∈ lw_privs_1, lw_okq q := List.forall_mem_cons.mpr ⟨lw_p0, List.forall_mem_cons.mpr ⟨lw_p1, List.forall_mem_cons.mpr ⟨lw_p2, List.forall_mem_cons.mpr ⟨lw_p3, List.forall_mem_cons.mpr ⟨lw_p4, List.forall_mem_cons.mpr ⟨lw_p5, List.forall_mem_cons.mpr ⟨lw_p6, List.forall_mem_cons.mpr ⟨lw_p7, List.forall_mem_cons.mpr ⟨lw_p8, List.forall_mem_cons.mpr ⟨lw_p9, List.forall_mem_cons.mpr ⟨lw_p10, List.forall_mem_cons.mpr ⟨lw_p11, List.forall_mem_cons.mpr ⟨lw_p12, List.forall_mem_cons.mpr ⟨lw_p13, List.forall_mem_cons.mpr ⟨lw_p14, List.forall_mem_cons.mpr ⟨lw_p15, fun _ h => absurd h List.not_mem_nil⟩⟩⟩⟩⟩⟩⟩⟩⟩⟩⟩⟩⟩⟩⟩⟩
theorem lw_p16 : lw_okq (⟨"DownhillPost", "carryOn", "(LDownhillPost$Land;II)V"⟩, 8) := ⟨⟨by decide +kernel, by decide +kernel⟩, List.mem_of_getElem? (i := 17) (by decide +kernel), List.mem_of_getElem? (i := 586) (by decide +kernel), List.mem_of_getElem? (i := 587) (by decide +kernel)⟩
theorem lw_p17 : lw_okq (⟨"DownhillPost", "daysAhead", "(I)I"⟩, 8) := ⟨⟨by decide +kernel, by decide +kernel⟩, List.mem_of_getElem? (i := 17) (by decide +kernel), List.mem_of_getElem? (i := 620) (by decide +kernel), List.mem_of_getElem? (i := 621) (by decide +kernel)⟩
theorem lw_p18 : lw_okq (⟨"DownhillPost$Tape", "byteAt", "(I)I"⟩, 6) := ⟨⟨by decide +kernel, by decide +kernel⟩, List.mem_of_getElem? (i := 136) (by decide +kernel), List.mem_of_getElem? (i := 655) (by decide +kernel), List.mem_of_getElem? (i := 656) (by decide +kernel)⟩
theorem lw_p19 : lw_okq (⟨"DownhillPost$Tape", "passNumber", "()V"⟩, 6) := ⟨⟨by decide +kernel, by decide +kernel⟩, List.mem_of_getElem? (i := 136) (by decide +kernel), List.mem_of_getElem? (i := 662) (by decide +kernel), List.mem_of_getElem? (i := 663) (by decide +kernel)⟩
theorem lw_p20 : lw_okq (⟨"DownhillPost$Tape", "passWord", "()V"⟩, 6) := ⟨⟨by decide +kernel, by decide +kernel⟩, List.mem_of_getElem? (i := 136) (by decide +kernel), List.mem_of_getElem? (i := 667) (by decide +kernel), List.mem_of_getElem? (i := 668) (by decide +kernel)⟩
theorem lw_p21 : lw_okq (⟨"DownhillPost", "sheetAt", "(I)LDownhillPost$Sheet;"⟩, 8) := ⟨⟨by decide +kernel, by decide +kernel⟩, List.mem_of_getElem? (i := 17) (by decide +kernel), List.mem_of_getElem? (i := 789) (by decide +kernel), List.mem_of_getElem? (i := 790) (by decide +kernel)⟩
theorem lw_p22 : lw_okq (⟨"DownhillPost$Sheet", "narrowed", "(J)J"⟩, 3) := ⟨⟨by decide +kernel, by decide +kernel⟩, List.mem_of_getElem? (i := 165) (by decide +kernel), List.mem_of_getElem? (i := 825) (by decide +kernel), List.mem_of_getElem? (i := 826) (by decide +kernel)⟩
theorem lw_p23 : lw_okq (⟨"DownhillPostModel", "finds", "(I)I"⟩, 21) := ⟨⟨by decide +kernel, by decide +kernel⟩, List.mem_of_getElem? (i := 882) (by decide +kernel), List.mem_of_getElem? (i := 960) (by decide +kernel), List.mem_of_getElem? (i := 961) (by decide +kernel)⟩
theorem lw_p24 : lw_okq (⟨"DownhillPostModel", "addVillage", "(IZ)V"⟩, 21) := ⟨⟨by decide +kernel, by decide +kernel⟩, List.mem_of_getElem? (i := 882) (by decide +kernel), List.mem_of_getElem? (i := 965) (by decide +kernel), List.mem_of_getElem? (i := 966) (by decide +kernel)⟩
theorem lw_p25 : lw_okq (⟨"DownhillPostModel", "isVillage", "(I)Z"⟩, 21) := ⟨⟨by decide +kernel, by decide +kernel⟩, List.mem_of_getElem? (i := 882) (by decide +kernel), List.mem_of_getElem? (i := 973) (by decide +kernel), List.mem_of_getElem? (i := 974) (by decide +kernel)⟩
theorem lw_p26 : lw_okq (⟨"DownhillPostModel", "height", "(I)I"⟩, 21) := ⟨⟨by decide +kernel, by decide +kernel⟩, List.mem_of_getElem? (i := 882) (by decide +kernel), List.mem_of_getElem? (i := 977) (by decide +kernel), List.mem_of_getElem? (i := 978) (by decide +kernel)⟩
theorem lw_p27 : lw_okq (⟨"DownhillPostModel", "roadsAt", "(I)I"⟩, 21) := ⟨⟨by decide +kernel, by decide +kernel⟩, List.mem_of_getElem? (i := 882) (by decide +kernel), List.mem_of_getElem? (i := 981) (by decide +kernel), List.mem_of_getElem? (i := 982) (by decide +kernel)⟩
theorem lw_p28 : lw_okq (⟨"DownhillPostModel", "end", "(II)I"⟩, 21) := ⟨⟨by decide +kernel, by decide +kernel⟩, List.mem_of_getElem? (i := 882) (by decide +kernel), List.mem_of_getElem? (i := 985) (by decide +kernel), List.mem_of_getElem? (i := 986) (by decide +kernel)⟩
theorem lw_p29 : lw_okq (⟨"DownhillPostModel", "lettersAt", "(I)I"⟩, 21) := ⟨⟨by decide +kernel, by decide +kernel⟩, List.mem_of_getElem? (i := 882) (by decide +kernel), List.mem_of_getElem? (i := 989) (by decide +kernel), List.mem_of_getElem? (i := 990) (by decide +kernel)⟩
theorem lw_p30 : lw_okq (⟨"DownhillPostModel", "its", "(II)I"⟩, 21) := ⟨⟨by decide +kernel, by decide +kernel⟩, List.mem_of_getElem? (i := 882) (by decide +kernel), List.mem_of_getElem? (i := 993) (by decide +kernel), List.mem_of_getElem? (i := 994) (by decide +kernel)⟩
theorem lw_p31 : lw_okq (⟨"DownhillPostModel", "isHermits", "(I)Z"⟩, 21) := ⟨⟨by decide +kernel, by decide +kernel⟩, List.mem_of_getElem? (i := 882) (by decide +kernel), List.mem_of_getElem? (i := 1005) (by decide +kernel), List.mem_of_getElem? (i := 1006) (by decide +kernel)⟩
def lw_privs_2 : List (MethodName × Nat) := [(⟨"DownhillPost", "carryOn", "(LDownhillPost$Land;II)V"⟩, 8), (⟨"DownhillPost", "daysAhead", "(I)I"⟩, 8), (⟨"DownhillPost$Tape", "byteAt", "(I)I"⟩, 6), (⟨"DownhillPost$Tape", "passNumber", "()V"⟩, 6), (⟨"DownhillPost$Tape", "passWord", "()V"⟩, 6), (⟨"DownhillPost", "sheetAt", "(I)LDownhillPost$Sheet;"⟩, 8), (⟨"DownhillPost$Sheet", "narrowed", "(J)J"⟩, 3), (⟨"DownhillPostModel", "finds", "(I)I"⟩, 21), (⟨"DownhillPostModel", "addVillage", "(IZ)V"⟩, 21), (⟨"DownhillPostModel", "isVillage", "(I)Z"⟩, 21), (⟨"DownhillPostModel", "height", "(I)I"⟩, 21), (⟨"DownhillPostModel", "roadsAt", "(I)I"⟩, 21), (⟨"DownhillPostModel", "end", "(II)I"⟩, 21), (⟨"DownhillPostModel", "lettersAt", "(I)I"⟩, 21), (⟨"DownhillPostModel", "its", "(II)I"⟩, 21), (⟨"DownhillPostModel", "isHermits", "(I)Z"⟩, 21)]
theorem lw_r2 : ∀ q ∈ lw_privs_2, lw_okq q := List.forall_mem_cons.mpr ⟨lw_p16, List.forall_mem_cons.mpr ⟨lw_p17, List.forall_mem_cons.mpr ⟨lw_p18, List.forall_mem_cons.mpr ⟨lw_p19, List.forall_mem_cons.mpr ⟨lw_p20, List.forall_mem_cons.mpr ⟨lw_p21, List.forall_mem_cons.mpr ⟨lw_p22, List.forall_mem_cons.mpr ⟨lw_p23, List.forall_mem_cons.mpr ⟨lw_p24, List.forall_mem_cons.mpr ⟨lw_p25, List.forall_mem_cons.mpr ⟨lw_p26, List.forall_mem_cons.mpr ⟨lw_p27, List.forall_mem_cons.mpr ⟨lw_p28, List.forall_mem_cons.mpr ⟨lw_p29, List.forall_mem_cons.mpr ⟨lw_p30, List.forall_mem_cons.mpr ⟨lw_p31, fun _ h => absurd h List.not_mem_nil⟩⟩⟩⟩⟩⟩⟩⟩⟩⟩⟩⟩⟩⟩⟩⟩
theorem lw_p32 : lw_okq (⟨"DownhillPostModel", "between", "(II)I"⟩, 21) := ⟨⟨by decide +kernel, by decide +kernel⟩, List.mem_of_getElem? (i := 882) (by decide +kernel), List.mem_of_getElem? (i := 1013) (by decide +kernel), List.mem_of_getElem? (i := 1014) (by decide +kernel)⟩
theorem lw_p33 : lw_okq (⟨"DownhillPostModel", "addRoad", "(III)V"⟩, 21) := ⟨⟨by decide +kernel, by decide +kernel⟩, List.mem_of_getElem? (i := 882) (by decide +kernel), List.mem_of_getElem? (i := 1018) (by decide +kernel), List.mem_of_getElem? (i := 1019) (by decide +kernel)⟩
theorem lw_p34 : lw_okq (⟨"DownhillPostModel", "isRoad", "(I)Z"⟩, 21) := ⟨⟨by decide +kernel, by decide +kernel⟩, List.mem_of_getElem? (i := 882) (by decide +kernel), List.mem_of_getElem? (i := 1026) (by decide +kernel), List.mem_of_getElem? (i := 1027) (by decide +kernel)⟩
theorem lw_p35 : lw_okq (⟨"DownhillPostModel", "theSea", "()I"⟩, 21) := ⟨⟨by decide +kernel, by decide +kernel⟩, List.mem_of_getElem? (i := 882) (by decide +kernel), List.mem_of_getElem? (i := 1039) (by decide +kernel), List.mem_of_getElem? (i := 1040) (by decide +kernel)⟩
theorem lw_p36 : lw_okq (⟨"DownhillPostModel", "thePeak", "()I"⟩, 21) := ⟨⟨by decide +kernel, by decide +kernel⟩, List.mem_of_getElem? (i := 882) (by decide +kernel), List.mem_of_getElem? (i := 1047) (by decide +kernel), List.mem_of_getElem? (i := 1048) (by decide +kernel)⟩
theorem lw_p37 : lw_okq (⟨"DownhillPostModel", "needsOf", "(II)I"⟩, 21) := ⟨⟨by decide +kernel, by decide +kernel⟩, List.mem_of_getElem? (i := 882) (by decide +kernel), List.mem_of_getElem? (i := 1058) (by decide +kernel), List.mem_of_getElem? (i := 1059) (by decide +kernel)⟩
theorem lw_p38 : lw_okq (⟨"DownhillPostModel", "goesDown", "(III)Z"⟩, 21) := ⟨⟨by decide +kernel, by decide +kernel⟩, List.mem_of_getElem? (i := 882) (by decide +kernel), List.mem_of_getElem? (i := 1066) (by decide +kernel), List.mem_of_getElem? (i := 1067) (by decide +kernel)⟩
theorem lw_p39 : lw_okq (⟨"DownhillPostModel", "isAsked", "(III)Z"⟩, 21) := ⟨⟨by decide +kernel, by decide +kernel⟩, List.mem_of_getElem? (i := 882) (by decide +kernel), List.mem_of_getElem? (i := 1074) (by decide +kernel), List.mem_of_getElem? (i := 1075) (by decide +kernel)⟩
theorem lw_p40 : lw_okq (⟨"DownhillPostModel", "earliest", "(IIII)I"⟩, 21) := ⟨⟨by decide +kernel, by decide +kernel⟩, List.mem_of_getElem? (i := 882) (by decide +kernel), List.mem_of_getElem? (i := 1078) (by decide +kernel), List.mem_of_getElem? (i := 1079) (by decide +kernel)⟩
theorem lw_p41 : lw_okq (⟨"DownhillPostModel", "find", "(IIIZ)V"⟩, 21) := ⟨⟨by decide +kernel, by decide +kernel⟩, List.mem_of_getElem? (i := 882) (by decide +kernel), List.mem_of_getElem? (i := 1082) (by decide +kernel), List.mem_of_getElem? (i := 1083) (by decide +kernel)⟩
theorem lw_p42 : lw_okq (⟨"DownhillPostModel", "flies", "(I)Z"⟩, 21) := ⟨⟨by decide +kernel, by decide +kernel⟩, List.mem_of_getElem? (i := 882) (by decide +kernel), List.mem_of_getElem? (i := 1087) (by decide +kernel), List.mem_of_getElem? (i := 1088) (by decide +kernel)⟩
theorem lw_p43 : lw_okq (⟨"DownhillPostModel", "goesOn", "(IZ)Z"⟩, 21) := ⟨⟨by decide +kernel, by decide +kernel⟩, List.mem_of_getElem? (i := 882) (by decide +kernel), List.mem_of_getElem? (i := 1091) (by decide +kernel), List.mem_of_getElem? (i := 1092) (by decide +kernel)⟩
theorem lw_p44 : lw_okq (⟨"DownhillPostModel", "takesRoad", "(IIII)Z"⟩, 21) := ⟨⟨by decide +kernel, by decide +kernel⟩, List.mem_of_getElem? (i := 882) (by decide +kernel), List.mem_of_getElem? (i := 1095) (by decide +kernel), List.mem_of_getElem? (i := 1096) (by decide +kernel)⟩
theorem lw_p45 : lw_okq (⟨"DownhillPostModel", "takesBalloon", "()Z"⟩, 21) := ⟨⟨by decide +kernel, by decide +kernel⟩, List.mem_of_getElem? (i := 882) (by decide +kernel), List.mem_of_getElem? (i := 1099) (by decide +kernel), List.mem_of_getElem? (i := 1100) (by decide +kernel)⟩
theorem lw_p46 : lw_okq (⟨"DownhillPostModel", "reachOf", "(IIZ)I"⟩, 21) := ⟨⟨by decide +kernel, by decide +kernel⟩, List.mem_of_getElem? (i := 882) (by decide +kernel), List.mem_of_getElem? (i := 1107) (by decide +kernel), List.mem_of_getElem? (i := 1108) (by decide +kernel)⟩
theorem lw_p47 : lw_okq (⟨"DownhillPostModel", "reached", "()I"⟩, 21) := ⟨⟨by decide +kernel, by decide +kernel⟩, List.mem_of_getElem? (i := 882) (by decide +kernel), List.mem_of_getElem? (i := 1111) (by decide +kernel), List.mem_of_getElem? (i := 1112) (by decide +kernel)⟩
def lw_privs_3 : List (MethodName × Nat) := [(⟨"DownhillPostModel", "between", "(II)I"⟩, 21), (⟨"DownhillPostModel", "addRoad", "(III)V"⟩, 21), (⟨"DownhillPostModel", "isRoad", "(I)Z"⟩, 21), (⟨"DownhillPostModel", "theSea", "()I"⟩, 21), (⟨"DownhillPostModel", "thePeak", "()I"⟩, 21), (⟨"DownhillPostModel", "needsOf", "(II)I"⟩, 21), (⟨"DownhillPostModel", "goesDown", "(III)Z"⟩, 21), (⟨"DownhillPostModel", "isAsked", "(III)Z"⟩, 21), (⟨"DownhillPostModel", "earliest", "(IIII)I"⟩, 21), (⟨"DownhillPostModel", "find", "(IIIZ)V"⟩, 21), (⟨"DownhillPostModel", "flies", "(I)Z"⟩, 21), (⟨"DownhillPostModel", "goesOn", "(IZ)Z"⟩, 21), (⟨"DownhillPostModel", "takesRoad", "(IIII)Z"⟩, 21), (⟨"DownhillPostModel", "takesBalloon", "()Z"⟩, 21), (⟨"DownhillPostModel", "reachOf", "(IIZ)I"⟩, 21), (⟨"DownhillPostModel", "reached", "()I"⟩, 21)]
theorem lw_r3 : ∀ q ∈ lw_privs_3, lw_okq q := List.forall_mem_cons.mpr ⟨lw_p32, List.forall_mem_cons.mpr ⟨lw_p33, List.forall_mem_cons.mpr ⟨lw_p34, List.forall_mem_cons.mpr ⟨lw_p35, List.forall_mem_cons.mpr ⟨lw_p36, List.forall_mem_cons.mpr ⟨lw_p37, List.forall_mem_cons.mpr ⟨lw_p38, List.forall_mem_cons.mpr ⟨lw_p39, List.forall_mem_cons.mpr ⟨lw_p40, List.forall_mem_cons.mpr ⟨lw_p41, List.forall_mem_cons.mpr ⟨lw_p42, List.forall_mem_cons.mpr ⟨lw_p43, List.forall_mem_cons.mpr ⟨lw_p44, List.forall_mem_cons.mpr ⟨lw_p45, List.forall_mem_cons.mpr ⟨lw_p46, List.forall_mem_cons.mpr ⟨lw_p47, fun _ h => absurd h List.not_mem_nil⟩⟩⟩⟩⟩⟩⟩⟩⟩⟩⟩⟩⟩⟩⟩⟩
theorem lw_p48 : lw_okq (⟨"DownhillPostModel", "back", "(III)I"⟩, 21) := ⟨⟨by decide +kernel, by decide +kernel⟩, List.mem_of_getElem? (i := 882) (by decide +kernel), List.mem_of_getElem? (i := 1130) (by decide +kernel), List.mem_of_getElem? (i := 1131) (by decide +kernel)⟩
theorem lw_p49 : lw_okq (⟨"DownhillPostModel", "reachWith", "(III)I"⟩, 21) := ⟨⟨by decide +kernel, by decide +kernel⟩, List.mem_of_getElem? (i := 882) (by decide +kernel), List.mem_of_getElem? (i := 1161) (by decide +kernel), List.mem_of_getElem? (i := 1162) (by decide +kernel)⟩
theorem lw_p50 : lw_okq (⟨"DownhillPostModel", "addLetter", "(III)V"⟩, 21) := ⟨⟨by decide +kernel, by decide +kernel⟩, List.mem_of_getElem? (i := 882) (by decide +kernel), List.mem_of_getElem? (i := 1169) (by decide +kernel), List.mem_of_getElem? (i := 1170) (by decide +kernel)⟩
theorem lw_p51 : lw_okq (⟨"DownhillPostModel", "sets", "(III)V"⟩, 21) := ⟨⟨by decide +kernel, by decide +kernel⟩, List.mem_of_getElem? (i := 882) (by decide +kernel), List.mem_of_getElem? (i := 1173) (by decide +kernel), List.mem_of_getElem? (i := 1174) (by decide +kernel)⟩
theorem lw_p52 : lw_okq (⟨"DownhillPostModel", "isPost", "(I)Z"⟩, 21) := ⟨⟨by decide +kernel, by decide +kernel⟩, List.mem_of_getElem? (i := 882) (by decide +kernel), List.mem_of_getElem? (i := 1181) (by decide +kernel), List.mem_of_getElem? (i := 1182) (by decide +kernel)⟩
theorem lw_p53 : lw_okq (⟨"DownhillPostModel", "isThere", "(I)Z"⟩, 21) := ⟨⟨by decide +kernel, by decide +kernel⟩, List.mem_of_getElem? (i := 882) (by decide +kernel), List.mem_of_getElem? (i := 1185) (by decide +kernel), List.mem_of_getElem? (i := 1186) (by decide +kernel)⟩
theorem lw_p54 : lw_okq (⟨"DownhillPostModel", "findWay", "(I)V"⟩, 21) := ⟨⟨by decide +kernel, by decide +kernel⟩, List.mem_of_getElem? (i := 882) (by decide +kernel), List.mem_of_getElem? (i := 1205) (by decide +kernel), List.mem_of_getElem? (i := 1206) (by decide +kernel)⟩
theorem lw_p55 : lw_okq (⟨"DownhillPostModel", "keeps", "(IIIII)Z"⟩, 21) := ⟨⟨by decide +kernel, by decide +kernel⟩, List.mem_of_getElem? (i := 882) (by decide +kernel), List.mem_of_getElem? (i := 1209) (by decide +kernel), List.mem_of_getElem? (i := 1210) (by decide +kernel)⟩
theorem lw_p56 : lw_okq (⟨"DownhillPostModel", "allThere", "()I"⟩, 21) := ⟨⟨by decide +kernel, by decide +kernel⟩, List.mem_of_getElem? (i := 882) (by decide +kernel), List.mem_of_getElem? (i := 1217) (by decide +kernel), List.mem_of_getElem? (i := 1218) (by decide +kernel)⟩
theorem lw_p57 : lw_okq (⟨"DownhillPostModel", "aDay", "()V"⟩, 21) := ⟨⟨by decide +kernel, by decide +kernel⟩, List.mem_of_getElem? (i := 882) (by decide +kernel), List.mem_of_getElem? (i := 1221) (by decide +kernel), List.mem_of_getElem? (i := 1222) (by decide +kernel)⟩
theorem lw_p58 : lw_okq (⟨"DownhillPostModel", "onTheirWay", "()I"⟩, 21) := ⟨⟨by decide +kernel, by decide +kernel⟩, List.mem_of_getElem? (i := 882) (by decide +kernel), List.mem_of_getElem? (i := 1233) (by decide +kernel), List.mem_of_getElem? (i := 1234) (by decide +kernel)⟩
theorem lw_p59 : lw_okq (⟨"DownhillPostModel", "moveAll", "(Z[I)V"⟩, 21) := ⟨⟨by decide +kernel, by decide +kernel⟩, List.mem_of_getElem? (i := 882) (by decide +kernel), List.mem_of_getElem? (i := 1241) (by decide +kernel), List.mem_of_getElem? (i := 1242) (by decide +kernel)⟩
theorem lw_p60 : lw_okq (⟨"DownhillPostModel", "daysTill", "(I)I"⟩, 21) := ⟨⟨by decide +kernel, by decide +kernel⟩, List.mem_of_getElem? (i := 882) (by decide +kernel), List.mem_of_getElem? (i := 1249) (by decide +kernel), List.mem_of_getElem? (i := 1250) (by decide +kernel)⟩
theorem lw_p61 : lw_okq (⟨"DownhillPostModel", "advance", "()V"⟩, 21) := ⟨⟨by decide +kernel, by decide +kernel⟩, List.mem_of_getElem? (i := 882) (by decide +kernel), List.mem_of_getElem? (i := 1269) (by decide +kernel), List.mem_of_getElem? (i := 1270) (by decide +kernel)⟩
theorem lw_p62 : lw_okq (⟨"DownhillPostModel", "byteAt", "(I)I"⟩, 21) := ⟨⟨by decide +kernel, by decide +kernel⟩, List.mem_of_getElem? (i := 882) (by decide +kernel), List.mem_of_getElem? (i := 1273) (by decide +kernel), List.mem_of_getElem? (i := 1274) (by decide +kernel)⟩
theorem lw_p63 : lw_okq (⟨"DownhillPostModel", "wantItem", "()V"⟩, 21) := ⟨⟨by decide +kernel, by decide +kernel⟩, List.mem_of_getElem? (i := 882) (by decide +kernel), List.mem_of_getElem? (i := 1286) (by decide +kernel), List.mem_of_getElem? (i := 1287) (by decide +kernel)⟩
def lw_privs_4 : List (MethodName × Nat) := [(⟨"DownhillPostModel", "back", "(III)I"⟩, 21), (⟨"DownhillPostModel", "reachWith", "(III)I"⟩, 21), (⟨"DownhillPostModel", "addLetter", "(III)V"⟩, 21), (⟨"DownhillPostModel", "sets", "(III)V"⟩, 21), (⟨"DownhillPostModel", "isPost", "(I)Z"⟩, 21), (⟨"DownhillPostModel", "isThere", "(I)Z"⟩, 21), (⟨"DownhillPostModel", "findWay", "(I)V"⟩, 21), (⟨"DownhillPostModel", "keeps", "(IIIII)Z"⟩, 21), (⟨"DownhillPostModel", "allThere", "()I"⟩, 21), (⟨"DownhillPostModel", "aDay", "()V"⟩, 21), (⟨"DownhillPostModel", "onTheirWay", "()I"⟩, 21), (⟨"DownhillPostModel", "moveAll", "(Z[I)V"⟩, 21), (⟨"DownhillPostModel", "daysTill", "(I)I"⟩, 21), (⟨"DownhillPostModel", "advance", "()V"⟩, 21), (⟨"DownhillPostModel", "byteAt", "(I)I"⟩, 21), (⟨"DownhillPostModel", "wantItem", "()V"⟩, 21)]
theorem lw_r4 : ∀ q ∈ lw_privs_4, lw_okq q := List.forall_mem_cons.mpr ⟨lw_p48, List.forall_mem_cons.mpr ⟨lw_p49, List.forall_mem_cons.mpr ⟨lw_p50, List.forall_mem_cons.mpr ⟨lw_p51, List.forall_mem_cons.mpr ⟨lw_p52, List.forall_mem_cons.mpr ⟨lw_p53, List.forall_mem_cons.mpr ⟨lw_p54, List.forall_mem_cons.mpr ⟨lw_p55, List.forall_mem_cons.mpr ⟨lw_p56, List.forall_mem_cons.mpr ⟨lw_p57, List.forall_mem_cons.mpr ⟨lw_p58, List.forall_mem_cons.mpr ⟨lw_p59, List.forall_mem_cons.mpr ⟨lw_p60, List.forall_mem_cons.mpr ⟨lw_p61, List.forall_mem_cons.mpr ⟨lw_p62, List.forall_mem_cons.mpr ⟨lw_p63, fun _ h => absurd h List.not_mem_nil⟩⟩⟩⟩⟩⟩⟩⟩⟩⟩⟩⟩⟩⟩⟩⟩
theorem lw_p64 : lw_okq (⟨"DownhillPostModel", "isWord", "(J)Z"⟩, 21) := ⟨⟨by decide +kernel, by decide +kernel⟩, List.mem_of_getElem? (i := 882) (by decide +kernel), List.mem_of_getElem? (i := 1291) (by decide +kernel), List.mem_of_getElem? (i := 1292) (by decide +kernel)⟩
theorem lw_p65 : lw_okq (⟨"DownhillPostModel", "wantVillage", "()V"⟩, 21) := ⟨⟨by decide +kernel, by decide +kernel⟩, List.mem_of_getElem? (i := 882) (by decide +kernel), List.mem_of_getElem? (i := 1295) (by decide +kernel), List.mem_of_getElem? (i := 1296) (by decide +kernel)⟩
theorem lw_p66 : lw_okq (⟨"DownhillPostModel", "wantNumber", "(II)I"⟩, 21) := ⟨⟨by decide +kernel, by decide +kernel⟩, List.mem_of_getElem? (i := 882) (by decide +kernel), List.mem_of_getElem? (i := 1299) (by decide +kernel), List.mem_of_getElem? (i := 1300) (by decide +kernel)⟩
theorem lw_p67 : lw_okq (⟨"DownhillPostModel", "wantRoad", "()V"⟩, 21) := ⟨⟨by decide +kernel, by decide +kernel⟩, List.mem_of_getElem? (i := 882) (by decide +kernel), List.mem_of_getElem? (i := 1305) (by decide +kernel), List.mem_of_getElem? (i := 1306) (by decide +kernel)⟩
theorem lw_p68 : lw_okq (⟨"DownhillPostModel", "wantWord", "(J)V"⟩, 21) := ⟨⟨by decide +kernel, by decide +kernel⟩, List.mem_of_getElem? (i := 882) (by decide +kernel), List.mem_of_getElem? (i := 1310) (by decide +kernel), List.mem_of_getElem? (i := 1311) (by decide +kernel)⟩
theorem lw_p69 : lw_okq (⟨"DownhillPostModel", "mayWant", "(JIII)I"⟩, 21) := ⟨⟨by decide +kernel, by decide +kernel⟩, List.mem_of_getElem? (i := 882) (by decide +kernel), List.mem_of_getElem? (i := 1315) (by decide +kernel), List.mem_of_getElem? (i := 1316) (by decide +kernel)⟩
theorem lw_p70 : lw_okq (⟨"DownhillPostModel", "wantSlide", "()V"⟩, 21) := ⟨⟨by decide +kernel, by decide +kernel⟩, List.mem_of_getElem? (i := 882) (by decide +kernel), List.mem_of_getElem? (i := 1320) (by decide +kernel), List.mem_of_getElem? (i := 1321) (by decide +kernel)⟩
theorem lw_p71 : lw_okq (⟨"DownhillPostModel", "wantEvery", "()V"⟩, 21) := ⟨⟨by decide +kernel, by decide +kernel⟩, List.mem_of_getElem? (i := 882) (by decide +kernel), List.mem_of_getElem? (i := 1325) (by decide +kernel), List.mem_of_getElem? (i := 1326) (by decide +kernel)⟩
theorem lw_p72 : lw_okq (⟨"DownhillPostModel", "kindHere", "()I"⟩, 21) := ⟨⟨by decide +kernel, by decide +kernel⟩, List.mem_of_getElem? (i := 882) (by decide +kernel), List.mem_of_getElem? (i := 1329) (by decide +kernel), List.mem_of_getElem? (i := 1330) (by decide +kernel)⟩
theorem lw_p73 : lw_okq (⟨"DownhillPostModel", "wantLetter", "(I)V"⟩, 21) := ⟨⟨by decide +kernel, by decide +kernel⟩, List.mem_of_getElem? (i := 882) (by decide +kernel), List.mem_of_getElem? (i := 1339) (by decide +kernel), List.mem_of_getElem? (i := 1340) (by decide +kernel)⟩
theorem lw_p74 : lw_okq (⟨"DownhillPostModel", "isPart", "(III)Z"⟩, 21) := ⟨⟨by decide +kernel, by decide +kernel⟩, List.mem_of_getElem? (i := 882) (by decide +kernel), List.mem_of_getElem? (i := 1363) (by decide +kernel), List.mem_of_getElem? (i := 1364) (by decide +kernel)⟩
def lw_privs_5 : List (MethodName × Nat) := [(⟨"DownhillPostModel", "isWord", "(J)Z"⟩, 21), (⟨"DownhillPostModel", "wantVillage", "()V"⟩, 21), (⟨"DownhillPostModel", "wantNumber", "(II)I"⟩, 21), (⟨"DownhillPostModel", "wantRoad", "()V"⟩, 21), (⟨"DownhillPostModel", "wantWord", "(J)V"⟩, 21), (⟨"DownhillPostModel", "mayWant", "(JIII)I"⟩, 21), (⟨"DownhillPostModel", "wantSlide", "()V"⟩, 21), (⟨"DownhillPostModel", "wantEvery", "()V"⟩, 21), (⟨"DownhillPostModel", "kindHere", "()I"⟩, 21), (⟨"DownhillPostModel", "wantLetter", "(I)V"⟩, 21), (⟨"DownhillPostModel", "isPart", "(III)Z"⟩, 21)]
theorem lw_r5 : ∀ q ∈ lw_privs_5, lw_okq q := List.forall_mem_cons.mpr ⟨lw_p64, List.forall_mem_cons.mpr ⟨lw_p65, List.forall_mem_cons.mpr ⟨lw_p66, List.forall_mem_cons.mpr ⟨lw_p67, List.forall_mem_cons.mpr ⟨lw_p68, List.forall_mem_cons.mpr ⟨lw_p69, List.forall_mem_cons.mpr ⟨lw_p70, List.forall_mem_cons.mpr ⟨lw_p71, List.forall_mem_cons.mpr ⟨lw_p72, List.forall_mem_cons.mpr ⟨lw_p73, List.forall_mem_cons.mpr ⟨lw_p74, fun _ h => absurd h List.not_mem_nil⟩⟩⟩⟩⟩⟩⟩⟩⟩⟩⟩
def lw_privs : List (MethodName × Nat) := lw_privs_1 ++ (lw_privs_2 ++ (lw_privs_3 ++ (lw_privs_4 ++ (lw_privs_5))))
def lw_tbl : List Cond := k2_sels lw_privs ++ tables_1
theorem lw_privs_ok : ∀ q ∈ lw_privs, lw_okq q := by
  show ∀ q ∈ lw_privs_1 ++ (lw_privs_2 ++ (lw_privs_3 ++ (lw_privs_4 ++ (lw_privs_5)))), lw_okq q
  exact List.forall_mem_append.mpr ⟨lw_r1, List.forall_mem_append.mpr ⟨lw_r2, List.forall_mem_append.mpr ⟨lw_r3, List.forall_mem_append.mpr ⟨lw_r4, lw_r5⟩⟩⟩⟩
-- ===== end of PART A; then your names; then what follows =====
end
section
def RX0 : String := "DownhillPost$Land"
def TX0 : u_T := fun k => match k with
  | 0 => ("DownhillPost$Land", "villages", "I", false)
  | 1 => ("DownhillPost$Land", "heights", "[I", true)
  | 2 => ("DownhillPost$Land", "hermits", "I", false)
  | 3 => ("DownhillPost$Land", "roads", "I", false)
  | 4 => ("DownhillPost$Land", "ones", "[I", true)
  | 5 => ("DownhillPost$Land", "others", "[I", true)
  | 6 => ("DownhillPost$Land", "lengths", "[I", true)
  | 7 => ("DownhillPost$Land", "every", "I", false)
  | 8 => ("DownhillPost$Land", "day", "I", false)
  | 9 => ("DownhillPost$Land", "letters", "I", false)
  | 10 => ("DownhillPost$Land", "kinds", "[I", true)
  | 11 => ("DownhillPost$Land", "places", "[I", true)
  | 12 => ("DownhillPost$Land", "goals", "[I", true)
  | 13 => ("DownhillPost$Land", "sents", "[I", true)
  | _ => ("DownhillPost$Land", "lefts", "[I", true)
def tyX0 : Nat → FieldType := fun k => match k with
  | 0 => .int
  | 1 => .array .int
  | 2 => .int
  | 3 => .int
  | 4 => .array .int
  | 5 => .array .int
  | 6 => .array .int
  | 7 => .int
  | 8 => .int
  | 9 => .int
  | 10 => .array .int
  | 11 => .array .int
  | 12 => .array .int
  | 13 => .array .int
  | _ => .array .int
theorem nmX0 : ∀ a, a < 15 → ∀ b, b < 15 → a ≠ b → (TX0 a).2.1 ≠ (TX0 b).2.1 := by decide +kernel
theorem tyX0_ok : ∀ k, k < 15 → parseFieldDescriptor (TX0 k).2.2.1 = some (tyX0 k) := by decide +kernel
abbrev cX0_init : ByteArray := prog_2_method_1_code
def yX0_init : MethodName := ⟨RX0, "<init>", "()V"⟩
abbrev cX0_become : ByteArray := prog_2_method_2_code
def yX0_become : MethodName := ⟨RX0, "become", "(LDownhillPost$Land;)V"⟩
abbrev cX0_hasVillage : ByteArray := prog_2_method_3_code
def yX0_hasVillage : MethodName := ⟨RX0, "hasVillage", "(I)Z"⟩
abbrev cX0_hasRoad : ByteArray := prog_2_method_4_code
def yX0_hasRoad : MethodName := ⟨RX0, "hasRoad", "(I)Z"⟩
abbrev cX0_hasLetter : ByteArray := prog_2_method_5_code
def yX0_hasLetter : MethodName := ⟨RX0, "hasLetter", "(I)Z"⟩
abbrev cX0_villagesFull : ByteArray := prog_2_method_6_code
def yX0_villagesFull : MethodName := ⟨RX0, "villagesFull", "()Z"⟩
abbrev cX0_roadsFull : ByteArray := prog_2_method_7_code
def yX0_roadsFull : MethodName := ⟨RX0, "roadsFull", "()Z"⟩
abbrev cX0_lettersFull : ByteArray := prog_2_method_8_code
def yX0_lettersFull : MethodName := ⟨RX0, "lettersFull", "()Z"⟩
abbrev cX0_addVillage : ByteArray := prog_2_method_9_code
def yX0_addVillage : MethodName := ⟨RX0, "addVillage", "(IZ)I"⟩
abbrev cX0_addRoad : ByteArray := prog_2_method_10_code
def yX0_addRoad : MethodName := ⟨RX0, "addRoad", "(III)I"⟩
abbrev cX0_addLetter : ByteArray := prog_2_method_11_code
def yX0_addLetter : MethodName := ⟨RX0, "addLetter", "(III)I"⟩
abbrev cX0_heightOf : ByteArray := prog_2_method_12_code
def yX0_heightOf : MethodName := ⟨RX0, "heightOf", "(I)I"⟩
abbrev cX0_setHeight : ByteArray := prog_2_method_13_code
def yX0_setHeight : MethodName := ⟨RX0, "setHeight", "(II)V"⟩
abbrev cX0_isHermits : ByteArray := prog_2_method_14_code
def yX0_isHermits : MethodName := ⟨RX0, "isHermits", "(I)Z"⟩
abbrev cX0_setHermits : ByteArray := prog_2_method_15_code
def yX0_setHermits : MethodName := ⟨RX0, "setHermits", "(IZ)V"⟩
abbrev cX0_allVillages : ByteArray := prog_2_method_16_code
def yX0_allVillages : MethodName := ⟨RX0, "allVillages", "()I"⟩
abbrev cX0_roadsOf : ByteArray := prog_2_method_17_code
def yX0_roadsOf : MethodName := ⟨RX0, "roadsOf", "(I)I"⟩
abbrev cX0_areJoined : ByteArray := prog_2_method_18_code
def yX0_areJoined : MethodName := ⟨RX0, "areJoined", "(II)Z"⟩
abbrev cX0_lowest : ByteArray := prog_2_method_19_code
def yX0_lowest : MethodName := ⟨RX0, "lowest", "()I"⟩
abbrev cX0_highest : ByteArray := prog_2_method_20_code
def yX0_highest : MethodName := ⟨RX0, "highest", "()I"⟩
abbrev cX0_heightsTogether : ByteArray := prog_2_method_21_code
def yX0_heightsTogether : MethodName := ⟨RX0, "heightsTogether", "()I"⟩
abbrev cX0_takes : ByteArray := prog_2_method_22_code
def yX0_takes : MethodName := ⟨RX0, "takes", "(II)Z"⟩
abbrev cX0_carries : ByteArray := prog_2_method_23_code
def yX0_carries : MethodName := ⟨RX0, "carries", "(III)Z"⟩
abbrev cX0_leadsInto : ByteArray := prog_2_method_24_code
def yX0_leadsInto : MethodName := ⟨RX0, "leadsInto", "(III)Z"⟩
abbrev cX0_balloonTakes : ByteArray := prog_2_method_25_code
def yX0_balloonTakes : MethodName := ⟨RX0, "balloonTakes", "(I)Z"⟩
abbrev cX0_liesIn : ByteArray := prog_2_method_26_code
def yX0_liesIn : MethodName := ⟨RX0, "liesIn", "(II)Z"⟩
abbrev cX0_isThere : ByteArray := prog_2_method_27_code
def yX0_isThere : MethodName := ⟨RX0, "isThere", "(I)Z"⟩
abbrev cX0_lettersIn : ByteArray := prog_2_method_28_code
def yX0_lettersIn : MethodName := ⟨RX0, "lettersIn", "(I)I"⟩
abbrev cX0_lettersThere : ByteArray := prog_2_method_29_code
def yX0_lettersThere : MethodName := ⟨RX0, "lettersThere", "()I"⟩
abbrev cX0_lettersOnTheirWay : ByteArray := prog_2_method_30_code
def yX0_lettersOnTheirWay : MethodName := ⟨RX0, "lettersOnTheirWay", "()I"⟩
abbrev cX0_passDay : ByteArray := prog_2_method_31_code
def yX0_passDay : MethodName := ⟨RX0, "passDay", "(ILDownhillPost$Ways;I)V"⟩
def RX1 : String := "DownhillPost$LandText"
def TX1 : u_T := fun k => match k with
  | _ => ("", "", "", false)
def tyX1 : Nat → FieldType := fun k => match k with
  | _ => .int
theorem nmX1 : ∀ a, a < 0 → ∀ b, b < 0 → a ≠ b → (TX1 a).2.1 ≠ (TX1 b).2.1 := by decide +kernel
theorem tyX1_ok : ∀ k, k < 0 → parseFieldDescriptor (TX1 k).2.2.1 = some (tyX1 k) := by decide +kernel
abbrev cX1_bring : ByteArray := prog_3_method_2_code
def yX1_bring : MethodName := ⟨RX1, "bring", "(LDownhillPost$Tape;LDownhillPost$Land;)I"⟩
abbrev cX1_bringItem : ByteArray := prog_3_method_3_code
def yX1_bringItem : MethodName := ⟨RX1, "bringItem", "(LDownhillPost$Tape;LDownhillPost$Land;)Z"⟩
abbrev cX1_bringVillage : ByteArray := prog_3_method_4_code
def yX1_bringVillage : MethodName := ⟨RX1, "bringVillage", "(LDownhillPost$Tape;LDownhillPost$Land;)Z"⟩
abbrev cX1_bringRoad : ByteArray := prog_3_method_5_code
def yX1_bringRoad : MethodName := ⟨RX1, "bringRoad", "(LDownhillPost$Tape;LDownhillPost$Land;)Z"⟩
abbrev cX1_bringSlide : ByteArray := prog_3_method_6_code
def yX1_bringSlide : MethodName := ⟨RX1, "bringSlide", "(LDownhillPost$Tape;LDownhillPost$Land;)Z"⟩
abbrev cX1_bringEvery : ByteArray := prog_3_method_7_code
def yX1_bringEvery : MethodName := ⟨RX1, "bringEvery", "(LDownhillPost$Tape;LDownhillPost$Land;)Z"⟩
abbrev cX1_bringLetter : ByteArray := prog_3_method_8_code
def yX1_bringLetter : MethodName := ⟨RX1, "bringLetter", "(LDownhillPost$Tape;LDownhillPost$Land;I)Z"⟩
abbrev cX1_standsVillage : ByteArray := prog_3_method_9_code
def yX1_standsVillage : MethodName := ⟨RX1, "standsVillage", "(LDownhillPost$Tape;LDownhillPost$Land;)Z"⟩
abbrev cX1_kindNamed : ByteArray := prog_3_method_10_code
def yX1_kindNamed : MethodName := ⟨RX1, "kindNamed", "(LDownhillPost$Tape;)I"⟩
abbrev cX1_nameOf : ByteArray := prog_3_method_11_code
def yX1_nameOf : MethodName := ⟨RX1, "nameOf", "(I)Ljava/lang/String;"⟩
def RX2 : String := "DownhillPost$Post"
def TX2 : u_T := fun k => match k with
  | _ => ("", "", "", false)
def tyX2 : Nat → FieldType := fun k => match k with
  | _ => .int
theorem nmX2 : ∀ a, a < 0 → ∀ b, b < 0 → a ≠ b → (TX2 a).2.1 ≠ (TX2 b).2.1 := by decide +kernel
theorem tyX2_ok : ∀ k, k < 0 → parseFieldDescriptor (TX2 k).2.2.1 = some (tyX2 k) := by decide +kernel
abbrev cX2_isUnder : ByteArray := prog_4_method_2_code
def yX2_isUnder : MethodName := ⟨RX2, "isUnder", "(II)Z"⟩
abbrev cX2_daysFor : ByteArray := prog_4_method_3_code
def yX2_daysFor : MethodName := ⟨RX2, "daysFor", "(II)I"⟩
abbrev cX2_leastDrop : ByteArray := prog_4_method_4_code
def yX2_leastDrop : MethodName := ⟨RX2, "leastDrop", "(I)I"⟩
def RX3 : String := "DownhillPost$Sheet"
def TX3 : u_T := fun k => match k with
  | 0 => ("DownhillPost$Sheet", "bits", "I", false)
  | 1 => ("DownhillPost$Sheet", "size", "I", false)
  | _ => ("DownhillPost$Sheet", "numbers", "[J", true)
def tyX3 : Nat → FieldType := fun k => match k with
  | 0 => .int
  | 1 => .int
  | _ => .array .long
theorem nmX3 : ∀ a, a < 3 → ∀ b, b < 3 → a ≠ b → (TX3 a).2.1 ≠ (TX3 b).2.1 := by decide +kernel
theorem tyX3_ok : ∀ k, k < 3 → parseFieldDescriptor (TX3 k).2.2.1 = some (tyX3 k) := by decide +kernel
abbrev cX3_init : ByteArray := prog_5_method_1_code
def yX3_init : MethodName := ⟨RX3, "<init>", "()V"⟩
abbrev cX3_isWidth : ByteArray := prog_5_method_2_code
def yX3_isWidth : MethodName := ⟨RX3, "isWidth", "(I)Z"⟩
abbrev cX3_isMissing : ByteArray := prog_5_method_3_code
def yX3_isMissing : MethodName := ⟨RX3, "isMissing", "()Z"⟩
abbrev cX3_renew : ByteArray := prog_5_method_4_code
def yX3_renew : MethodName := ⟨RX3, "renew", "(II)V"⟩
abbrev cX3_has : ByteArray := prog_5_method_5_code
def yX3_has : MethodName := ⟨RX3, "has", "(I)Z"⟩
abbrev cX3_hasRun : ByteArray := prog_5_method_6_code
def yX3_hasRun : MethodName := ⟨RX3, "hasRun", "(II)Z"⟩
abbrev cX3_number : ByteArray := prog_5_method_7_code
def yX3_number : MethodName := ⟨RX3, "number", "(I)J"⟩
abbrev cX3_put : ByteArray := prog_5_method_8_code
def yX3_put : MethodName := ⟨RX3, "put", "(IJ)V"⟩
abbrev cX3_narrowed : ByteArray := prog_5_method_9_code
def yX3_narrowed : MethodName := ⟨RX3, "narrowed", "(J)J"⟩
def RX4 : String := "DownhillPost$Tape"
def TX4 : u_T := fun k => match k with
  | 0 => ("DownhillPost$Tape", "bytes", "[I", true)
  | 1 => ("DownhillPost$Tape", "length", "I", false)
  | 2 => ("DownhillPost$Tape", "start", "I", false)
  | 3 => ("DownhillPost$Tape", "end", "I", false)
  | 4 => ("DownhillPost$Tape", "sort", "I", false)
  | _ => ("DownhillPost$Tape", "value", "I", false)
def tyX4 : Nat → FieldType := fun k => match k with
  | 0 => .array .int
  | 1 => .int
  | 2 => .int
  | 3 => .int
  | 4 => .int
  | _ => .int
theorem nmX4 : ∀ a, a < 6 → ∀ b, b < 6 → a ≠ b → (TX4 a).2.1 ≠ (TX4 b).2.1 := by decide +kernel
theorem tyX4_ok : ∀ k, k < 6 → parseFieldDescriptor (TX4 k).2.2.1 = some (tyX4 k) := by decide +kernel
abbrev cX4_init : ByteArray := prog_6_method_1_code
def yX4_init : MethodName := ⟨RX4, "<init>", "()V"⟩
abbrev cX4_append : ByteArray := prog_6_method_2_code
def yX4_append : MethodName := ⟨RX4, "append", "(I)V"⟩
abbrev cX4_rewind : ByteArray := prog_6_method_3_code
def yX4_rewind : MethodName := ⟨RX4, "rewind", "()V"⟩
abbrev cX4_advance : ByteArray := prog_6_method_4_code
def yX4_advance : MethodName := ⟨RX4, "advance", "()V"⟩
abbrev cX4_byteAt : ByteArray := prog_6_method_5_code
def yX4_byteAt : MethodName := ⟨RX4, "byteAt", "(I)I"⟩
abbrev cX4_sortOf : ByteArray := prog_6_method_6_code
def yX4_sortOf : MethodName := ⟨RX4, "sortOf", "(I)I"⟩
abbrev cX4_passWord : ByteArray := prog_6_method_7_code
def yX4_passWord : MethodName := ⟨RX4, "passWord", "()V"⟩
abbrev cX4_passNumber : ByteArray := prog_6_method_8_code
def yX4_passNumber : MethodName := ⟨RX4, "passNumber", "()V"⟩
abbrev cX4_isEnd : ByteArray := prog_6_method_9_code
def yX4_isEnd : MethodName := ⟨RX4, "isEnd", "()Z"⟩
abbrev cX4_isSemicolon : ByteArray := prog_6_method_10_code
def yX4_isSemicolon : MethodName := ⟨RX4, "isSemicolon", "()Z"⟩
abbrev cX4_isNumber : ByteArray := prog_6_method_11_code
def yX4_isNumber : MethodName := ⟨RX4, "isNumber", "(II)Z"⟩
abbrev cX4_isWord : ByteArray := prog_6_method_12_code
def yX4_isWord : MethodName := ⟨RX4, "isWord", "(Ljava/lang/String;)Z"⟩
def RX5 : String := "DownhillPost$Ways"
def TX5 : u_T := fun k => match k with
  | 0 => ("DownhillPost$Ways", "steps", "[I", true)
  | 1 => ("DownhillPost$Ways", "downs", "[I", true)
  | 2 => ("DownhillPost$Ways", "villages", "I", false)
  | 3 => ("DownhillPost$Ways", "sea", "I", false)
  | 4 => ("DownhillPost$Ways", "peak", "I", false)
  | 5 => ("DownhillPost$Ways", "every", "I", false)
  | 6 => ("DownhillPost$Ways", "balloon", "Z", false)
  | 7 => ("DownhillPost$Ways", "stop", "I", false)
  | _ => ("DownhillPost$Ways", "stopDays", "I", false)
def tyX5 : Nat → FieldType := fun k => match k with
  | 0 => .array .int
  | 1 => .array .int
  | 2 => .int
  | 3 => .int
  | 4 => .int
  | 5 => .int
  | 6 => .boolean
  | 7 => .int
  | _ => .int
theorem nmX5 : ∀ a, a < 9 → ∀ b, b < 9 → a ≠ b → (TX5 a).2.1 ≠ (TX5 b).2.1 := by decide +kernel
theorem tyX5_ok : ∀ k, k < 9 → parseFieldDescriptor (TX5 k).2.2.1 = some (tyX5 k) := by decide +kernel
abbrev cX5_init : ByteArray := prog_7_method_1_code
def yX5_init : MethodName := ⟨RX5, "<init>", "()V"⟩
abbrev cX5_layOut : ByteArray := prog_7_method_2_code
def yX5_layOut : MethodName := ⟨RX5, "layOut", "(LDownhillPost$Land;I)V"⟩
abbrev cX5_layStep : ByteArray := prog_7_method_3_code
def yX5_layStep : MethodName := ⟨RX5, "layStep", "(LDownhillPost$Land;IIII)V"⟩
abbrev cX5_joinSteps : ByteArray := prog_7_method_4_code
def yX5_joinSteps : MethodName := ⟨RX5, "joinSteps", "()V"⟩
abbrev cX5_shortenBy : ByteArray := prog_7_method_5_code
def yX5_shortenBy : MethodName := ⟨RX5, "shortenBy", "(II)V"⟩
abbrev cX5_areHere : ByteArray := prog_7_method_6_code
def yX5_areHere : MethodName := ⟨RX5, "areHere", "(II)Z"⟩
abbrev cX5_stepDays : ByteArray := prog_7_method_7_code
def yX5_stepDays : MethodName := ⟨RX5, "stepDays", "(II)I"⟩
abbrev cX5_downDays : ByteArray := prog_7_method_8_code
def yX5_downDays : MethodName := ⟨RX5, "downDays", "(II)I"⟩
abbrev cX5_comesDown : ByteArray := prog_7_method_9_code
def yX5_comesDown : MethodName := ⟨RX5, "comesDown", "(II)Z"⟩
abbrev cX5_comes : ByteArray := prog_7_method_10_code
def yX5_comes : MethodName := ⟨RX5, "comes", "(II)Z"⟩
abbrev cX5_earliest : ByteArray := prog_7_method_11_code
def yX5_earliest : MethodName := ⟨RX5, "earliest", "(III)I"⟩
abbrev cX5_flightFrom : ByteArray := prog_7_method_12_code
def yX5_flightFrom : MethodName := ⟨RX5, "flightFrom", "(I)I"⟩
abbrev cX5_answered : ByteArray := prog_7_method_13_code
def yX5_answered : MethodName := ⟨RX5, "answered", "(III)I"⟩
abbrev cX5_allFrom : ByteArray := prog_7_method_14_code
def yX5_allFrom : MethodName := ⟨RX5, "allFrom", "(I)I"⟩
abbrev cX5_allInto : ByteArray := prog_7_method_15_code
def yX5_allInto : MethodName := ⟨RX5, "allInto", "(I)I"⟩
abbrev cX5_allDownFrom : ByteArray := prog_7_method_16_code
def yX5_allDownFrom : MethodName := ⟨RX5, "allDownFrom", "(I)I"⟩
abbrev cX5_bestHome : ByteArray := prog_7_method_17_code
def yX5_bestHome : MethodName := ⟨RX5, "bestHome", "(II)I"⟩
abbrev cX5_lastAnswer : ByteArray := prog_7_method_18_code
def yX5_lastAnswer : MethodName := ⟨RX5, "lastAnswer", "(III)I"⟩
abbrev cX5_silentPairs : ByteArray := prog_7_method_19_code
def yX5_silentPairs : MethodName := ⟨RX5, "silentPairs", "()I"⟩
abbrev cX5_lookAhead : ByteArray := prog_7_method_20_code
def yX5_lookAhead : MethodName := ⟨RX5, "lookAhead", "(III)V"⟩
abbrev cX5_daysInto : ByteArray := prog_7_method_21_code
def yX5_daysInto : MethodName := ⟨RX5, "daysInto", "(III)I"⟩
def RX6 : String := "DownhillPost"
def TX6 : u_T := fun k => match k with
  | 0 => ("DownhillPost", "land", "LDownhillPost$Land;", true)
  | 1 => ("DownhillPost", "kept", "LDownhillPost$Land;", true)
  | 2 => ("DownhillPost", "draft", "LDownhillPost$Land;", true)
  | 3 => ("DownhillPost", "ways", "LDownhillPost$Ways;", true)
  | 4 => ("DownhillPost", "tape", "LDownhillPost$Tape;", true)
  | 5 => ("DownhillPost", "sheets", "[LDownhillPost$Sheet;", true)
  | 6 => ("DownhillPost", "tally", "[I", true)
  | _ => ("DownhillPost", "imageKept", "Z", false)
def tyX6 : Nat → FieldType := fun k => match k with
  | 0 => .object "DownhillPost$Land"
  | 1 => .object "DownhillPost$Land"
  | 2 => .object "DownhillPost$Land"
  | 3 => .object "DownhillPost$Ways"
  | 4 => .object "DownhillPost$Tape"
  | 5 => .array (.object "DownhillPost$Sheet")
  | 6 => .array .int
  | _ => .boolean
theorem nmX6 : ∀ a, a < 8 → ∀ b, b < 8 → a ≠ b → (TX6 a).2.1 ≠ (TX6 b).2.1 := by decide +kernel
theorem tyX6_ok : ∀ k, k < 8 → parseFieldDescriptor (TX6 k).2.2.1 = some (tyX6 k) := by decide +kernel
abbrev cX6_init : ByteArray := prog_1_method_1_code
def yX6_init : MethodName := ⟨RX6, "<init>", "()V"⟩
abbrev cX6_village : ByteArray := prog_1_method_2_code
def yX6_village : MethodName := ⟨RX6, "village", "(I)I"⟩
abbrev cX6_villageOf : ByteArray := prog_1_method_3_code
def yX6_villageOf : MethodName := ⟨RX6, "villageOf", "(II)I"⟩
abbrev cX6_slide : ByteArray := prog_1_method_4_code
def yX6_slide : MethodName := ⟨RX6, "slide", "(II)I"⟩
abbrev cX6_hermit : ByteArray := prog_1_method_5_code
def yX6_hermit : MethodName := ⟨RX6, "hermit", "(IZ)I"⟩
abbrev cX6_road : ByteArray := prog_1_method_6_code
def yX6_road : MethodName := ⟨RX6, "road", "(III)I"⟩
abbrev cX6_roadOf : ByteArray := prog_1_method_7_code
def yX6_roadOf : MethodName := ⟨RX6, "roadOf", "(II)I"⟩
abbrev cX6_every : ByteArray := prog_1_method_8_code
def yX6_every : MethodName := ⟨RX6, "every", "(I)I"⟩
abbrev cX6_sea : ByteArray := prog_1_method_9_code
def yX6_sea : MethodName := ⟨RX6, "sea", "()I"⟩
abbrev cX6_peak : ByteArray := prog_1_method_10_code
def yX6_peak : MethodName := ⟨RX6, "peak", "()I"⟩
abbrev cX6_needs : ByteArray := prog_1_method_11_code
def yX6_needs : MethodName := ⟨RX6, "needs", "(II)I"⟩
abbrev cX6_goes : ByteArray := prog_1_method_12_code
def yX6_goes : MethodName := ⟨RX6, "goes", "(IIZ)I"⟩
abbrev cX6_least : ByteArray := prog_1_method_13_code
def yX6_least : MethodName := ⟨RX6, "least", "(III)I"⟩
abbrev cX6_reach : ByteArray := prog_1_method_14_code
def yX6_reach : MethodName := ⟨RX6, "reach", "(II)I"⟩
abbrev cX6_whence : ByteArray := prog_1_method_15_code
def yX6_whence : MethodName := ⟨RX6, "whence", "(II)I"⟩
abbrev cX6_below : ByteArray := prog_1_method_16_code
def yX6_below : MethodName := ⟨RX6, "below", "(II)I"⟩
abbrev cX6_round : ByteArray := prog_1_method_17_code
def yX6_round : MethodName := ⟨RX6, "round", "(III)I"⟩
abbrev cX6_live : ByteArray := prog_1_method_18_code
def yX6_live : MethodName := ⟨RX6, "live", "(II)I"⟩
abbrev cX6_quiet : ByteArray := prog_1_method_19_code
def yX6_quiet : MethodName := ⟨RX6, "quiet", "(I)I"⟩
abbrev cX6_kind : ByteArray := prog_1_method_20_code
def yX6_kind : MethodName := ⟨RX6, "kind", "(II)I"⟩
abbrev cX6_rise : ByteArray := prog_1_method_21_code
def yX6_rise : MethodName := ⟨RX6, "rise", "(III)I"⟩
abbrev cX6_fall : ByteArray := prog_1_method_22_code
def yX6_fall : MethodName := ⟨RX6, "fall", "(III)I"⟩
abbrev cX6_dig : ByteArray := prog_1_method_23_code
def yX6_dig : MethodName := ⟨RX6, "dig", "(II)I"⟩
abbrev cX6_send : ByteArray := prog_1_method_24_code
def yX6_send : MethodName := ⟨RX6, "send", "(III)I"⟩
abbrev cX6_of : ByteArray := prog_1_method_25_code
def yX6_of : MethodName := ⟨RX6, "of", "(II)I"⟩
abbrev cX6_turn : ByteArray := prog_1_method_26_code
def yX6_turn : MethodName := ⟨RX6, "turn", "(II)I"⟩
abbrev cX6_as : ByteArray := prog_1_method_27_code
def yX6_as : MethodName := ⟨RX6, "as", "(II)I"⟩
abbrev cX6_next : ByteArray := prog_1_method_28_code
def yX6_next : MethodName := ⟨RX6, "next", "(I)I"⟩
abbrev cX6_days : ByteArray := prog_1_method_29_code
def yX6_days : MethodName := ⟨RX6, "days", "(I)I"⟩
abbrev cX6_day : ByteArray := prog_1_method_30_code
def yX6_day : MethodName := ⟨RX6, "day", "(I)I"⟩
abbrev cX6_now : ByteArray := prog_1_method_31_code
def yX6_now : MethodName := ⟨RX6, "now", "(I)I"⟩
abbrev cX6_on : ByteArray := prog_1_method_32_code
def yX6_on : MethodName := ⟨RX6, "on", "(II)I"⟩
abbrev cX6_when : ByteArray := prog_1_method_33_code
def yX6_when : MethodName := ⟨RX6, "when", "(I)I"⟩
abbrev cX6_first : ByteArray := prog_1_method_34_code
def yX6_first : MethodName := ⟨RX6, "first", "(II)I"⟩
abbrev cX6_feed : ByteArray := prog_1_method_35_code
def yX6_feed : MethodName := ⟨RX6, "feed", "(II)I"⟩
abbrev cX6_wipe : ByteArray := prog_1_method_36_code
def yX6_wipe : MethodName := ⟨RX6, "wipe", "()I"⟩
abbrev cX6_text : ByteArray := prog_1_method_37_code
def yX6_text : MethodName := ⟨RX6, "text", "()I"⟩
abbrev cX6_sheet : ByteArray := prog_1_method_38_code
def yX6_sheet : MethodName := ⟨RX6, "sheet", "(III)I"⟩
abbrev cX6_write : ByteArray := prog_1_method_39_code
def yX6_write : MethodName := ⟨RX6, "write", "(IIJ)J"⟩
abbrev cX6_copy : ByteArray := prog_1_method_40_code
def yX6_copy : MethodName := ⟨RX6, "copy", "(IIIII)I"⟩
abbrev cX6_lays : ByteArray := prog_1_method_41_code
def yX6_lays : MethodName := ⟨RX6, "lays", "(I)I"⟩
abbrev cX6_table : ByteArray := prog_1_method_42_code
def yX6_table : MethodName := ⟨RX6, "table", "(III)I"⟩
abbrev cX6_read : ByteArray := prog_1_method_43_code
def yX6_read : MethodName := ⟨RX6, "read", "(II)I"⟩
abbrev cX6_image : ByteArray := prog_1_method_44_code
def yX6_image : MethodName := ⟨RX6, "image", "()I"⟩
abbrev cX6_undo : ByteArray := prog_1_method_45_code
def yX6_undo : MethodName := ⟨RX6, "undo", "()I"⟩
abbrev cX6_tear : ByteArray := prog_1_method_46_code
def yX6_tear : MethodName := ⟨RX6, "tear", "()I"⟩
abbrev cX6_count : ByteArray := prog_1_method_47_code
def yX6_count : MethodName := ⟨RX6, "count", "(I)I"⟩
abbrev cX6_status : ByteArray := prog_1_method_48_code
def yX6_status : MethodName := ⟨RX6, "status", "(I)I"⟩
abbrev cX6_finding : ByteArray := prog_1_method_49_code
def yX6_finding : MethodName := ⟨RX6, "finding", "(I)I"⟩
abbrev cX6_isKind : ByteArray := prog_1_method_50_code
def yX6_isKind : MethodName := ⟨RX6, "isKind", "(I)Z"⟩
abbrev cX6_isHeight : ByteArray := prog_1_method_51_code
def yX6_isHeight : MethodName := ⟨RX6, "isHeight", "(I)Z"⟩
abbrev cX6_areVillages : ByteArray := prog_1_method_52_code
def yX6_areVillages : MethodName := ⟨RX6, "areVillages", "(II)Z"⟩
abbrev cX6_areUnlikeVillages : ByteArray := prog_1_method_53_code
def yX6_areUnlikeVillages : MethodName := ⟨RX6, "areUnlikeVillages", "(II)Z"⟩
abbrev cX6_sheetAt : ByteArray := prog_1_method_54_code
def yX6_sheetAt : MethodName := ⟨RX6, "sheetAt", "(I)LDownhillPost$Sheet;"⟩
abbrev cX6_daysUntil : ByteArray := prog_1_method_55_code
def yX6_daysUntil : MethodName := ⟨RX6, "daysUntil", "(I)I"⟩
abbrev cX6_heightToRise : ByteArray := prog_1_method_56_code
def yX6_heightToRise : MethodName := ⟨RX6, "heightToRise", "(III)I"⟩
abbrev cX6_bestDigging : ByteArray := prog_1_method_57_code
def yX6_bestDigging : MethodName := ⟨RX6, "bestDigging", "(II)I"⟩
abbrev cX6_carryOn : ByteArray := prog_1_method_58_code
def yX6_carryOn : MethodName := ⟨RX6, "carryOn", "(LDownhillPost$Land;II)V"⟩
abbrev cX6_daysAhead : ByteArray := prog_1_method_59_code
def yX6_daysAhead : MethodName := ⟨RX6, "daysAhead", "(I)I"⟩
def RX7 : String := "DownhillPostModel"
def TX7 : u_T := fun k => match k with
  | 0 => ("DownhillPostModel", "row", "[I", true)
  | 1 => ("DownhillPostModel", "found", "[I", true)
  | 2 => ("DownhillPostModel", "best", "[I", true)
  | 3 => ("DownhillPostModel", "into", "I", false)
  | 4 => ("DownhillPostModel", "during", "I", false)
  | 5 => ("DownhillPostModel", "tried", "[I", true)
  | 6 => ("DownhillPostModel", "tape", "[I", true)
  | 7 => ("DownhillPostModel", "tapeMany", "I", false)
  | 8 => ("DownhillPostModel", "sort", "I", false)
  | 9 => ("DownhillPostModel", "begins", "I", false)
  | 10 => ("DownhillPostModel", "tokenEnds", "I", false)
  | 11 => ("DownhillPostModel", "word", "J", false)
  | 12 => ("DownhillPostModel", "value", "I", false)
  | 13 => ("DownhillPostModel", "good", "Z", false)
  | 14 => ("DownhillPostModel", "bitsOf", "[I", true)
  | 15 => ("DownhillPostModel", "sizeOf", "[I", true)
  | 16 => ("DownhillPostModel", "sheets", "[J", true)
  | 17 => ("DownhillPostModel", "lent", "[J", true)
  | 18 => ("DownhillPostModel", "image", "[I", true)
  | 19 => ("DownhillPostModel", "before", "[I", true)
  | _ => ("DownhillPostModel", "isKept", "Z", false)
def tyX7 : Nat → FieldType := fun k => match k with
  | 0 => .array .int
  | 1 => .array .int
  | 2 => .array .int
  | 3 => .int
  | 4 => .int
  | 5 => .array .int
  | 6 => .array .int
  | 7 => .int
  | 8 => .int
  | 9 => .int
  | 10 => .int
  | 11 => .long
  | 12 => .int
  | 13 => .boolean
  | 14 => .array .int
  | 15 => .array .int
  | 16 => .array .long
  | 17 => .array .long
  | 18 => .array .int
  | 19 => .array .int
  | _ => .boolean
theorem nmX7 : ∀ a, a < 21 → ∀ b, b < 21 → a ≠ b → (TX7 a).2.1 ≠ (TX7 b).2.1 := by decide +kernel
theorem tyX7_ok : ∀ k, k < 21 → parseFieldDescriptor (TX7 k).2.2.1 = some (tyX7 k) := by decide +kernel
abbrev cX7_init : ByteArray := prog_9_method_1_code
def yX7_init : MethodName := ⟨RX7, "<init>", "()V"⟩
abbrev cX7_in : ByteArray := prog_9_method_2_code
def yX7_in : MethodName := ⟨RX7, "in", "(III)Z"⟩
abbrev cX7_finds : ByteArray := prog_9_method_3_code
def yX7_finds : MethodName := ⟨RX7, "finds", "(I)I"⟩
abbrev cX7_isVillage : ByteArray := prog_9_method_4_code
def yX7_isVillage : MethodName := ⟨RX7, "isVillage", "(I)Z"⟩
abbrev cX7_isRoad : ByteArray := prog_9_method_5_code
def yX7_isRoad : MethodName := ⟨RX7, "isRoad", "(I)Z"⟩
abbrev cX7_isPost : ByteArray := prog_9_method_6_code
def yX7_isPost : MethodName := ⟨RX7, "isPost", "(I)Z"⟩
abbrev cX7_isKind : ByteArray := prog_9_method_7_code
def yX7_isKind : MethodName := ⟨RX7, "isKind", "(I)Z"⟩
abbrev cX7_has : ByteArray := prog_9_method_8_code
def yX7_has : MethodName := ⟨RX7, "has", "(II)Z"⟩
abbrev cX7_ones : ByteArray := prog_9_method_9_code
def yX7_ones : MethodName := ⟨RX7, "ones", "(I)I"⟩
abbrev cX7_height : ByteArray := prog_9_method_10_code
def yX7_height : MethodName := ⟨RX7, "height", "(I)I"⟩
abbrev cX7_isHermits : ByteArray := prog_9_method_11_code
def yX7_isHermits : MethodName := ⟨RX7, "isHermits", "(I)Z"⟩
abbrev cX7_end : ByteArray := prog_9_method_12_code
def yX7_end : MethodName := ⟨RX7, "end", "(II)I"⟩
abbrev cX7_its : ByteArray := prog_9_method_13_code
def yX7_its : MethodName := ⟨RX7, "its", "(II)I"⟩
abbrev cX7_sets : ByteArray := prog_9_method_14_code
def yX7_sets : MethodName := ⟨RX7, "sets", "(III)V"⟩
abbrev cX7_addVillage : ByteArray := prog_9_method_15_code
def yX7_addVillage : MethodName := ⟨RX7, "addVillage", "(IZ)V"⟩
abbrev cX7_village : ByteArray := prog_9_method_16_code
def yX7_village : MethodName := ⟨RX7, "village", "(I)I"⟩
abbrev cX7_roadsAt : ByteArray := prog_9_method_17_code
def yX7_roadsAt : MethodName := ⟨RX7, "roadsAt", "(I)I"⟩
abbrev cX7_lettersAt : ByteArray := prog_9_method_18_code
def yX7_lettersAt : MethodName := ⟨RX7, "lettersAt", "(I)I"⟩
abbrev cX7_villageOf : ByteArray := prog_9_method_19_code
def yX7_villageOf : MethodName := ⟨RX7, "villageOf", "(II)I"⟩
abbrev cX7_slide : ByteArray := prog_9_method_20_code
def yX7_slide : MethodName := ⟨RX7, "slide", "(II)I"⟩
abbrev cX7_hermit : ByteArray := prog_9_method_21_code
def yX7_hermit : MethodName := ⟨RX7, "hermit", "(IZ)I"⟩
abbrev cX7_between : ByteArray := prog_9_method_22_code
def yX7_between : MethodName := ⟨RX7, "between", "(II)I"⟩
abbrev cX7_addRoad : ByteArray := prog_9_method_23_code
def yX7_addRoad : MethodName := ⟨RX7, "addRoad", "(III)V"⟩
abbrev cX7_road : ByteArray := prog_9_method_24_code
def yX7_road : MethodName := ⟨RX7, "road", "(III)I"⟩
abbrev cX7_roadOf : ByteArray := prog_9_method_25_code
def yX7_roadOf : MethodName := ⟨RX7, "roadOf", "(II)I"⟩
abbrev cX7_every : ByteArray := prog_9_method_26_code
def yX7_every : MethodName := ⟨RX7, "every", "(I)I"⟩
abbrev cX7_theSea : ByteArray := prog_9_method_27_code
def yX7_theSea : MethodName := ⟨RX7, "theSea", "()I"⟩
abbrev cX7_thePeak : ByteArray := prog_9_method_28_code
def yX7_thePeak : MethodName := ⟨RX7, "thePeak", "()I"⟩
abbrev cX7_sea : ByteArray := prog_9_method_29_code
def yX7_sea : MethodName := ⟨RX7, "sea", "()I"⟩
abbrev cX7_peak : ByteArray := prog_9_method_30_code
def yX7_peak : MethodName := ⟨RX7, "peak", "()I"⟩
abbrev cX7_needsOf : ByteArray := prog_9_method_31_code
def yX7_needsOf : MethodName := ⟨RX7, "needsOf", "(II)I"⟩
abbrev cX7_needs : ByteArray := prog_9_method_32_code
def yX7_needs : MethodName := ⟨RX7, "needs", "(II)I"⟩
abbrev cX7_goesDown : ByteArray := prog_9_method_33_code
def yX7_goesDown : MethodName := ⟨RX7, "goesDown", "(III)Z"⟩
abbrev cX7_goes : ByteArray := prog_9_method_34_code
def yX7_goes : MethodName := ⟨RX7, "goes", "(IIZ)I"⟩
abbrev cX7_flies : ByteArray := prog_9_method_35_code
def yX7_flies : MethodName := ⟨RX7, "flies", "(I)Z"⟩
abbrev cX7_takesRoad : ByteArray := prog_9_method_36_code
def yX7_takesRoad : MethodName := ⟨RX7, "takesRoad", "(IIII)Z"⟩
abbrev cX7_takesBalloon : ByteArray := prog_9_method_37_code
def yX7_takesBalloon : MethodName := ⟨RX7, "takesBalloon", "()Z"⟩
abbrev cX7_goesOn : ByteArray := prog_9_method_38_code
def yX7_goesOn : MethodName := ⟨RX7, "goesOn", "(IZ)Z"⟩
abbrev cX7_find : ByteArray := prog_9_method_39_code
def yX7_find : MethodName := ⟨RX7, "find", "(IIIZ)V"⟩
abbrev cX7_earliest : ByteArray := prog_9_method_40_code
def yX7_earliest : MethodName := ⟨RX7, "earliest", "(IIII)I"⟩
abbrev cX7_reached : ByteArray := prog_9_method_41_code
def yX7_reached : MethodName := ⟨RX7, "reached", "()I"⟩
abbrev cX7_isAsked : ByteArray := prog_9_method_42_code
def yX7_isAsked : MethodName := ⟨RX7, "isAsked", "(III)Z"⟩
abbrev cX7_least : ByteArray := prog_9_method_43_code
def yX7_least : MethodName := ⟨RX7, "least", "(III)I"⟩
abbrev cX7_reachOf : ByteArray := prog_9_method_44_code
def yX7_reachOf : MethodName := ⟨RX7, "reachOf", "(IIZ)I"⟩
abbrev cX7_reach : ByteArray := prog_9_method_45_code
def yX7_reach : MethodName := ⟨RX7, "reach", "(II)I"⟩
abbrev cX7_whence : ByteArray := prog_9_method_46_code
def yX7_whence : MethodName := ⟨RX7, "whence", "(II)I"⟩
abbrev cX7_below : ByteArray := prog_9_method_47_code
def yX7_below : MethodName := ⟨RX7, "below", "(II)I"⟩
abbrev cX7_back : ByteArray := prog_9_method_48_code
def yX7_back : MethodName := ⟨RX7, "back", "(III)I"⟩
abbrev cX7_round : ByteArray := prog_9_method_49_code
def yX7_round : MethodName := ⟨RX7, "round", "(III)I"⟩
abbrev cX7_live : ByteArray := prog_9_method_50_code
def yX7_live : MethodName := ⟨RX7, "live", "(II)I"⟩
abbrev cX7_quiet : ByteArray := prog_9_method_51_code
def yX7_quiet : MethodName := ⟨RX7, "quiet", "(I)I"⟩
abbrev cX7_kind : ByteArray := prog_9_method_52_code
def yX7_kind : MethodName := ⟨RX7, "kind", "(II)I"⟩
abbrev cX7_rise : ByteArray := prog_9_method_53_code
def yX7_rise : MethodName := ⟨RX7, "rise", "(III)I"⟩
abbrev cX7_fall : ByteArray := prog_9_method_54_code
def yX7_fall : MethodName := ⟨RX7, "fall", "(III)I"⟩
abbrev cX7_reachWith : ByteArray := prog_9_method_55_code
def yX7_reachWith : MethodName := ⟨RX7, "reachWith", "(III)I"⟩
abbrev cX7_dig : ByteArray := prog_9_method_56_code
def yX7_dig : MethodName := ⟨RX7, "dig", "(II)I"⟩
abbrev cX7_addLetter : ByteArray := prog_9_method_57_code
def yX7_addLetter : MethodName := ⟨RX7, "addLetter", "(III)V"⟩
abbrev cX7_send : ByteArray := prog_9_method_58_code
def yX7_send : MethodName := ⟨RX7, "send", "(III)I"⟩
abbrev cX7_isThere : ByteArray := prog_9_method_59_code
def yX7_isThere : MethodName := ⟨RX7, "isThere", "(I)Z"⟩
abbrev cX7_of : ByteArray := prog_9_method_60_code
def yX7_of : MethodName := ⟨RX7, "of", "(II)I"⟩
abbrev cX7_turn : ByteArray := prog_9_method_61_code
def yX7_turn : MethodName := ⟨RX7, "turn", "(II)I"⟩
abbrev cX7_isUnder : ByteArray := prog_9_method_62_code
def yX7_isUnder : MethodName := ⟨RX7, "isUnder", "(II)Z"⟩
abbrev cX7_as : ByteArray := prog_9_method_63_code
def yX7_as : MethodName := ⟨RX7, "as", "(II)I"⟩
abbrev cX7_keeps : ByteArray := prog_9_method_64_code
def yX7_keeps : MethodName := ⟨RX7, "keeps", "(IIIII)Z"⟩
abbrev cX7_findWay : ByteArray := prog_9_method_65_code
def yX7_findWay : MethodName := ⟨RX7, "findWay", "(I)V"⟩
abbrev cX7_next : ByteArray := prog_9_method_66_code
def yX7_next : MethodName := ⟨RX7, "next", "(I)I"⟩
abbrev cX7_aDay : ByteArray := prog_9_method_67_code
def yX7_aDay : MethodName := ⟨RX7, "aDay", "()V"⟩
abbrev cX7_allThere : ByteArray := prog_9_method_68_code
def yX7_allThere : MethodName := ⟨RX7, "allThere", "()I"⟩
abbrev cX7_days : ByteArray := prog_9_method_69_code
def yX7_days : MethodName := ⟨RX7, "days", "(I)I"⟩
abbrev cX7_day : ByteArray := prog_9_method_70_code
def yX7_day : MethodName := ⟨RX7, "day", "(I)I"⟩
abbrev cX7_onTheirWay : ByteArray := prog_9_method_71_code
def yX7_onTheirWay : MethodName := ⟨RX7, "onTheirWay", "()I"⟩
abbrev cX7_now : ByteArray := prog_9_method_72_code
def yX7_now : MethodName := ⟨RX7, "now", "(I)I"⟩
abbrev cX7_on : ByteArray := prog_9_method_73_code
def yX7_on : MethodName := ⟨RX7, "on", "(II)I"⟩
abbrev cX7_daysTill : ByteArray := prog_9_method_74_code
def yX7_daysTill : MethodName := ⟨RX7, "daysTill", "(I)I"⟩
abbrev cX7_when : ByteArray := prog_9_method_75_code
def yX7_when : MethodName := ⟨RX7, "when", "(I)I"⟩
abbrev cX7_first : ByteArray := prog_9_method_76_code
def yX7_first : MethodName := ⟨RX7, "first", "(II)I"⟩
abbrev cX7_feed : ByteArray := prog_9_method_77_code
def yX7_feed : MethodName := ⟨RX7, "feed", "(II)I"⟩
abbrev cX7_wipe : ByteArray := prog_9_method_78_code
def yX7_wipe : MethodName := ⟨RX7, "wipe", "()I"⟩
abbrev cX7_byteAt : ByteArray := prog_9_method_79_code
def yX7_byteAt : MethodName := ⟨RX7, "byteAt", "(I)I"⟩
abbrev cX7_isLetter : ByteArray := prog_9_method_80_code
def yX7_isLetter : MethodName := ⟨RX7, "isLetter", "(I)Z"⟩
abbrev cX7_isDigit : ByteArray := prog_9_method_81_code
def yX7_isDigit : MethodName := ⟨RX7, "isDigit", "(I)Z"⟩
abbrev cX7_advance : ByteArray := prog_9_method_82_code
def yX7_advance : MethodName := ⟨RX7, "advance", "()V"⟩
abbrev cX7_isWord : ByteArray := prog_9_method_83_code
def yX7_isWord : MethodName := ⟨RX7, "isWord", "(J)Z"⟩
abbrev cX7_kindHere : ByteArray := prog_9_method_84_code
def yX7_kindHere : MethodName := ⟨RX7, "kindHere", "()I"⟩
abbrev cX7_wantNumber : ByteArray := prog_9_method_85_code
def yX7_wantNumber : MethodName := ⟨RX7, "wantNumber", "(II)I"⟩
abbrev cX7_mayWant : ByteArray := prog_9_method_86_code
def yX7_mayWant : MethodName := ⟨RX7, "mayWant", "(JIII)I"⟩
abbrev cX7_wantWord : ByteArray := prog_9_method_87_code
def yX7_wantWord : MethodName := ⟨RX7, "wantWord", "(J)V"⟩
abbrev cX7_wantVillage : ByteArray := prog_9_method_88_code
def yX7_wantVillage : MethodName := ⟨RX7, "wantVillage", "()V"⟩
abbrev cX7_wantRoad : ByteArray := prog_9_method_89_code
def yX7_wantRoad : MethodName := ⟨RX7, "wantRoad", "()V"⟩
abbrev cX7_wantSlide : ByteArray := prog_9_method_90_code
def yX7_wantSlide : MethodName := ⟨RX7, "wantSlide", "()V"⟩
abbrev cX7_wantEvery : ByteArray := prog_9_method_91_code
def yX7_wantEvery : MethodName := ⟨RX7, "wantEvery", "()V"⟩
abbrev cX7_wantLetter : ByteArray := prog_9_method_92_code
def yX7_wantLetter : MethodName := ⟨RX7, "wantLetter", "(I)V"⟩
abbrev cX7_wantItem : ByteArray := prog_9_method_93_code
def yX7_wantItem : MethodName := ⟨RX7, "wantItem", "()V"⟩
abbrev cX7_text : ByteArray := prog_9_method_94_code
def yX7_text : MethodName := ⟨RX7, "text", "()I"⟩
abbrev cX7_isSheet : ByteArray := prog_9_method_95_code
def yX7_isSheet : MethodName := ⟨RX7, "isSheet", "(I)Z"⟩
abbrev cX7_narrow : ByteArray := prog_9_method_96_code
def yX7_narrow : MethodName := ⟨RX7, "narrow", "(IJ)J"⟩
abbrev cX7_sheet : ByteArray := prog_9_method_97_code
def yX7_sheet : MethodName := ⟨RX7, "sheet", "(III)I"⟩
abbrev cX7_write : ByteArray := prog_9_method_98_code
def yX7_write : MethodName := ⟨RX7, "write", "(IIJ)J"⟩
abbrev cX7_isPart : ByteArray := prog_9_method_99_code
def yX7_isPart : MethodName := ⟨RX7, "isPart", "(III)Z"⟩
abbrev cX7_copy : ByteArray := prog_9_method_100_code
def yX7_copy : MethodName := ⟨RX7, "copy", "(IIIII)I"⟩
abbrev cX7_lays : ByteArray := prog_9_method_101_code
def yX7_lays : MethodName := ⟨RX7, "lays", "(I)I"⟩
abbrev cX7_table : ByteArray := prog_9_method_102_code
def yX7_table : MethodName := ⟨RX7, "table", "(III)I"⟩
abbrev cX7_read : ByteArray := prog_9_method_103_code
def yX7_read : MethodName := ⟨RX7, "read", "(II)I"⟩
abbrev cX7_moveAll : ByteArray := prog_9_method_104_code
def yX7_moveAll : MethodName := ⟨RX7, "moveAll", "(Z[I)V"⟩
abbrev cX7_image : ByteArray := prog_9_method_105_code
def yX7_image : MethodName := ⟨RX7, "image", "()I"⟩
abbrev cX7_undo : ByteArray := prog_9_method_106_code
def yX7_undo : MethodName := ⟨RX7, "undo", "()I"⟩
abbrev cX7_tear : ByteArray := prog_9_method_107_code
def yX7_tear : MethodName := ⟨RX7, "tear", "()I"⟩
abbrev cX7_count : ByteArray := prog_9_method_108_code
def yX7_count : MethodName := ⟨RX7, "count", "(I)I"⟩
abbrev cX7_status : ByteArray := prog_9_method_109_code
def yX7_status : MethodName := ⟨RX7, "status", "(I)I"⟩
def RJ6 : String := "java/lang/Integer"
abbrev cJ6_bitCount_0f7a4 : ByteArray := prog_10_method_49_code
def yJ6_bitCount_0f7a4 : MethodName := ⟨RJ6, "bitCount", "(I)I"⟩
def RJ9 : String := "java/lang/Math"
abbrev cJ9_max_7cf53 : ByteArray := prog_11_method_65_code
def yJ9_max_7cf53 : MethodName := ⟨RJ9, "max", "(II)I"⟩
abbrev cJ9_min_7cf53 : ByteArray := prog_11_method_69_code
def yJ9_min_7cf53 : MethodName := ⟨RJ9, "min", "(II)I"⟩
def RJ0 : String := "java/lang/String"
abbrev cJ0_length_8abf5 : ByteArray := prog_12_method_54_code
def yJ0_length_8abf5 : MethodName := ⟨RJ0, "length", "()I"⟩
abbrev cJ0_charAt_5068e : ByteArray := prog_12_method_56_code
def yJ0_charAt_5068e : MethodName := ⟨RJ0, "charAt", "(I)C"⟩
abbrev cJ0_coder_7d493 : ByteArray := prog_12_method_152_code
def yJ0_coder_7d493 : MethodName := ⟨RJ0, "coder", "()B"⟩
abbrev cJ0_isLatin1_aae02 : ByteArray := prog_12_method_154_code
def yJ0_isLatin1_aae02 : MethodName := ⟨RJ0, "isLatin1", "()Z"⟩
abbrev cJ0_checkIndex_df160 : ByteArray := prog_12_method_155_code
def yJ0_checkIndex_df160 : MethodName := ⟨RJ0, "checkIndex", "(II)V"⟩
def RJ1 : String := "java/lang/StringLatin1"
abbrev cJ1_charAt_3b067 : ByteArray := prog_13_method_2_code
def yJ1_charAt_3b067 : MethodName := ⟨RJ1, "charAt", "([BI)C"⟩
def RJ2 : String := "java/lang/StringUTF16"
abbrev cJ2_getChar_3b067 : ByteArray := prog_14_method_5_code
def yJ2_getChar_3b067 : MethodName := ⟨RJ2, "getChar", "([BI)C"⟩
abbrev cJ2_length_9d52b : ByteArray := prog_14_method_6_code
def yJ2_length_9d52b : MethodName := ⟨RJ2, "length", "([B)I"⟩
abbrev cJ2_charAt_3b067 : ByteArray := prog_14_method_83_code
def yJ2_charAt_3b067 : MethodName := ⟨RJ2, "charAt", "([BI)C"⟩
abbrev cJ2_checkIndex_2214a : ByteArray := prog_14_method_91_code
def yJ2_checkIndex_2214a : MethodName := ⟨RJ2, "checkIndex", "(I[B)V"⟩
def RJ10 : String := "java/lang/System"
def RJ3 : String := "jdk/internal/util/Preconditions"
abbrev cJ3_checkIndex_8e157 : ByteArray := prog_16_method_11_code
def yJ3_checkIndex_8e157 : MethodName := ⟨RJ3, "checkIndex", "(IILjava/util/function/BiFunction;)I"⟩
def RL : String := "DownhillPostLaw"
abbrev cL_law : ByteArray := code
def yL_law : MethodName := ⟨RL, "law", "([I)Z"⟩
abbrev vwCl : List vw_C := [(RX0, TX0, 15), (RX3, TX3, 3), (RX4, TX4, 6), (RX5, TX5, 9), (RX6, TX6, 8), (RX7, TX7, 21)]
end
section
/-! THE FRAME: the machine behind one simple judgement. The world: ints by place and index, longs by place and index; a reference is a place. -/
/-- the tables' words that hold at every call, too -/
def zT : List Cond := lw_tbl.filter goodWord
abbrev zW : Type := (Nat → Nat → Int32) × (Nat → Nat → Int64)
abbrev zC3 : Type := ClassId × ClassId × ClassId
def zsf (w : zW) (o k : Nat) (v : Int32) : zW := (fun a b => if a = o ∧ b = k then v else w.1 a b, w.2)
def zsg (w : zW) (o k : Nat) (v : Int64) : zW := (w.1, fun a b => if a = o ∧ b = k then v else w.2 a b)
def zcf (w : zW) (o : Nat) (f : Nat → Int32) : zW := (fun a b => if a = o then f b else w.1 a b, w.2)
def zcg (w : zW) (o : Nat) (f : Nat → Int64) : zW := (w.1, fun a b => if a = o then f b else w.2 a b)
def zIsLand (o : Nat) : Prop := o = 10 ∨ o = 20 ∨ o = 30
def zIsSheet (o : Nat) : Prop := o = 50 ∨ o = 52 ∨ o = 54 ∨ o = 56
def zIsStr (o : Nat) : Prop := ∃ k : Nat, k < 13 ∧ o = 100 + k
/-- what lies at a place: an object (its number in vwCl, its fields: 0 int, 1 long, q + 2 a reference to q), a row of ints, of longs, of references -/
def zlay (o : Nat) : Nat × Nat × List Nat :=
  if o = 10 ∨ o = 20 ∨ o = 30 then (0, 0, [0, o + 3, 0, 0, o + 4, o + 5, o + 6, 0, 0, 0, o + 7, o + 8, o + 9, o + 10, o + 11])
  else if o = 50 ∨ o = 52 ∨ o = 54 ∨ o = 56 then (0, 1, [0, 0, o + 3])
  else if o = 0 then (0, 4, [12, 22, 32, 42, 45, 47, 48, 0])
  else if o = 40 then (0, 3, [43, 44, 0, 0, 0, 0, 0, 0, 0])
  else if o = 43 then (0, 2, [46, 0, 0, 0, 0, 0])
  else if o = 60 then (0, 5, [63, 64, 65, 0, 0, 66, 67, 0, 0, 0, 0, 1, 0, 0, 68, 69, 70, 71, 72, 73, 0])
  else if o = 11 ∨ o = 21 ∨ o = 31 then (1, 12, [])
  else if o = 12 ∨ o = 22 ∨ o = 32 ∨ o = 13 ∨ o = 23 ∨ o = 33 ∨ o = 14 ∨ o = 24 ∨ o = 34 then (1, 24, [])
  else if o < 40 then (1, 10, [])
  else if o = 41 ∨ o = 42 then (1, 144, [])
  else if o = 44 ∨ o = 65 then (1, 120, [])
  else if o = 45 then (3, 4, [50, 52, 54, 56])
  else if o = 46 ∨ o = 62 then (1, 7, [])
  else if o = 51 ∨ o = 53 ∨ o = 55 ∨ o = 57 ∨ o = 69 then (2, 40, [])
  else if o = 61 ∨ o = 64 ∨ o = 70 ∨ o = 71 then (1, 151, [])
  else if o = 63 then (1, 12, [])
  else if o = 68 then (2, 160, [])
  else (1, 4, [])
def zpls : List Nat := [0, 10, 11, 12, 13, 14, 15, 16, 17, 18, 19, 20, 21, 22, 23, 24, 25, 26, 27, 28, 29, 30, 31, 32, 33, 34, 35, 36, 37, 38, 39, 40, 41, 42, 43, 44, 45, 46, 50, 51, 52, 53, 54, 55, 56, 57, 60, 61, 62, 63, 64, 65, 66, 67, 68, 69, 70, 71]
def zAt (o : Nat) (x : Nat × Nat × List Nat) : Prop := o ∈ zpls ∧ zlay o = x
def zval (ad : Nat → Nat) (w : zW) (o k q : Nat) : Value := match q with
  | 0 => .int (w.1 o k)
  | 1 => .long (w.2 o k)
  | q + 2 => .ref (ad q)
def zfs (ad : Nat → Nat) (w : zW) (o : Nat) : Nat → List Nat → List Value
  | _, [] => []
  | k, q :: qs => zval ad w o k q :: zfs ad w o (k + 1) qs
def zcellOf (ad : Nat → Nat) (c3 : zC3) (w : zW) (o : Nat) (x : Nat × Nat × List Nat) : va_E := match x with
  | (0, ci, fk) => .inr (ci, zfs ad w o 0 fk)
  | (1, n, _) => .inl (c3.1, n, .inl (w.1 o))
  | (2, n, _) => .inl (c3.2.1, n, .inr (.inl (w.2 o)))
  | (_, n, rs) => .inl (c3.2.2, n, .inr (.inr (.inr (.inr (fun i => (rs[i]?).map ad)))))
def zcell (ad : Nat → Nat) (c3 : zC3) (w : zW) (o : Nat) : va_E := zcellOf ad c3 w o (zlay o)
def zws (ad : Nat → Nat) (c3 : zC3) (w : zW) : va_W := zpls.map (fun o => (ad o, zcell ad c3 w o))
def ztr (ad : Nat → Nat) (v : Value) : Value := match v with
  | .ref o => .ref (ad o)
  | .int x => .int x
  | .long x => .long x
  | .float x => .float x
  | .double x => .double x
  | .null => .null
  | .retAddr x => .retAddr x
def zA (ad : Nat → Nat) : Nat → Prop := fun q => ∃ o, o ∈ zpls ∧ q = ad o
def zInj (ad : Nat → Nat) : Prop := ∀ a b : Nat, a ∈ zpls → b ∈ zpls → ad a = ad b → a = b
def ztys (c3 : zC3) : List (ClassId × FieldType) := [(c3.1, .int), (c3.2.1, .long), (c3.2.2, .object "DownhillPost$Sheet")]
theorem zfs_get (ad : Nat → Nat) (w : zW) (o : Nat) : ∀ (qs : List Nat) (k i : Nat), (zfs ad w o k qs)[i]? = (qs[i]?).map (fun q => zval ad w o (k + i) q) := by
  intro qs
  induction qs with
  | nil => intro k i; simp [zfs]
  | cons q qs ih =>
    intro k i
    cases i with
    | zero => simp [zfs]
    | succ i => simp only [zfs, List.getElem?_cons_succ]; rw [ih (k + 1) i, show k + 1 + i = k + (i + 1) by omega]
theorem zfs_len (ad : Nat → Nat) (w : zW) (o : Nat) : ∀ (qs : List Nat) (k : Nat), (zfs ad w o k qs).length = qs.length := by
  intro qs
  induction qs with
  | nil => intro k; rfl
  | cons q qs ih => intro k; simp [zfs, ih]
theorem zpls_ix : ∀ i, i < 58 → zpls.idxOf (zpls.getD i 0) = i := by decide +kernel
theorem zpls_one {i j o : Nat} (hi : zpls[i]? = some o) (hj : zpls[j]? = some o) : i = j := by
  have li : i < 58 := (List.getElem?_eq_some_iff.mp hi).1
  have lj : j < 58 := (List.getElem?_eq_some_iff.mp hj).1
  have a := zpls_ix i li
  have b := zpls_ix j lj
  rw [List.getD_eq_getElem?_getD, hi] at a
  rw [List.getD_eq_getElem?_getD, hj] at b
  exact a.symm.trans b
theorem zws_get {ad : Nat → Nat} {c3 : zC3} {w : zW} {i o : Nat} (h : zpls[i]? = some o) : (zws ad c3 w)[i]? = some (ad o, zcell ad c3 w o) := by
  unfold zws
  rw [List.getElem?_map, h]
  rfl
theorem zws_inv {ad : Nat → Nat} {c3 : zC3} {w : zW} {i : Nat} {q : Nat × va_E} (h : (zws ad c3 w)[i]? = some q) : ∃ o, zpls[i]? = some o ∧ q = (ad o, zcell ad c3 w o) := by
  unfold zws at h
  rw [List.getElem?_map] at h
  cases ho : zpls[i]? with
  | none => rw [ho] at h; cases h
  | some o => rw [ho] at h; cases h; exact ⟨o, rfl, rfl⟩
theorem zAt.ix {o : Nat} {x : Nat × Nat × List Nat} (h : zAt o x) : ∃ i : Nat, zpls[i]? = some o := List.getElem?_of_mem h.1
theorem zAt.cell {ad : Nat → Nat} {c3 : zC3} {w : zW} {o : Nat} {x : Nat × Nat × List Nat} (h : zAt o x) : zcell ad c3 w o = zcellOf ad c3 w o x := by
  unfold zcell
  rw [h.2]
theorem zws_set {ad : Nat → Nat} {c3 : zC3} {w w' : zW} {i o : Nat} (h : zpls[i]? = some o) (hk : ∀ o', o' ≠ o → zcell ad c3 w' o' = zcell ad c3 w o') : (zws ad c3 w).set i (ad o, zcell ad c3 w' o) = zws ad c3 w' := by
  apply List.ext_getElem?
  intro j
  have li : i < 58 := (List.getElem?_eq_some_iff.mp h).1
  by_cases e : i = j
  · subst e
    rw [zws_get h, List.getElem?_set_self]
    show i < (zws ad c3 w).length
    unfold zws
    rw [List.length_map]
    exact li
  · rw [List.getElem?_set_ne e]
    cases hj : zpls[j]? with
    | none => unfold zws; rw [List.getElem?_map, List.getElem?_map, hj]; rfl
    | some o' =>
      rw [zws_get hj, zws_get hj, hk o' (fun e2 => e (zpls_one h (e2 ▸ hj)))]
theorem zD {ad : Nat → Nat} {c3 : zC3} {w : zW} {A : Nat → Prop} (hi : zInj ad) (hA : ∀ q, zA ad q → A q) : va_D A (zws ad c3 w) := by
  refine ⟨fun i j p q h1 h2 e => ?_, fun k q h => ?_⟩
  · obtain ⟨o1, a1, rfl⟩ := zws_inv h1
    obtain ⟨o2, a2, rfl⟩ := zws_inv h2
    have e2 := hi o1 o2 (List.mem_of_getElem? a1) (List.mem_of_getElem? a2) e
    subst e2
    exact zpls_one a1 a2
  · obtain ⟨o, a, rfl⟩ := zws_inv h
    exact hA _ ⟨o, List.mem_of_getElem? a, rfl⟩
theorem zfs_other {ad : Nat → Nat} {w w' : zW} {o : Nat} (h1 : w'.1 o = w.1 o) (h2 : w'.2 o = w.2 o) : ∀ (qs : List Nat) (k : Nat), zfs ad w' o k qs = zfs ad w o k qs := by
  intro qs
  induction qs with
  | nil => intro k; rfl
  | cons q qs ih =>
    intro k
    have e : zval ad w' o k q = zval ad w o k q := by
      match q with
      | 0 => simp [zval, h1]
      | 1 => simp [zval, h2]
      | q + 2 => rfl
    simp [zfs, ih, e]
theorem zcell_other {ad : Nat → Nat} {c3 : zC3} {w w' : zW} {o : Nat} (h1 : w'.1 o = w.1 o) (h2 : w'.2 o = w.2 o) : zcell ad c3 w' o = zcell ad c3 w o := by
  unfold zcell zcellOf
  split <;> simp [h1, h2, zfs_other h1 h2]
theorem zcell_sf {ad : Nat → Nat} {c3 : zC3} {w : zW} {o k : Nat} {v : Int32} : ∀ o', o' ≠ o → zcell ad c3 (zsf w o k v) o' = zcell ad c3 w o' := fun o' h => zcell_other (by funext b; simp [zsf, h]) rfl
theorem zcell_sg {ad : Nat → Nat} {c3 : zC3} {w : zW} {o k : Nat} {v : Int64} : ∀ o', o' ≠ o → zcell ad c3 (zsg w o k v) o' = zcell ad c3 w o' := fun o' h => zcell_other rfl (by funext b; simp [zsg, h])
theorem zcell_cf {ad : Nat → Nat} {c3 : zC3} {w : zW} {o : Nat} {f : Nat → Int32} : ∀ o', o' ≠ o → zcell ad c3 (zcf w o f) o' = zcell ad c3 w o' := fun o' h => zcell_other (by funext b; simp [zcf, h]) rfl
theorem zcell_cg {ad : Nat → Nat} {c3 : zC3} {w : zW} {o : Nat} {f : Nat → Int64} : ∀ o', o' ≠ o → zcell ad c3 (zcg w o f) o' = zcell ad c3 w o' := fun o' h => zcell_other rfl (by funext b; simp [zcg, h])
/-- what lies outside the world: String constants, the static row ABOVE, String's and the others' statics -/
def zlen : List Nat := [7, 6, 4, 2, 4, 5, 5, 5, 5, 7, 4, 6, 6]
def zbyt : List (List Int32) := [[118, 105, 108, 108, 97, 103, 101], [104, 101, 114, 109, 105, 116], [114, 111, 97, 100], [116, 111], [100, 97, 121, 115], [115, 108, 105, 100, 101], [101, 118, 101, 114, 121], [113, 117, 105, 99, 107], [104, 101, 97, 118, 121], [102, 101, 97, 116, 104, 101, 114], [98, 105, 108, 108], [115, 101, 99, 114, 101, 116], [108, 101, 116, 116, 101, 114]]
def zstr : List (Nat × String) := [(34, "village"), (78, "hermit"), (43, "road"), (90, "to"), (95, "days"), (48, "slide"), (53, "every"), (120, "quick"), (122, "heavy"), (124, "feather"), (126, "bill"), (128, "secret"), (130, "letter")]
def zabove : List Int32 := [-1, 0, 0, 0, 2, 3]
def zX (ad : Nat → Nat) (A : Nat → Prop) (U : State) (H : Heap) : Prop :=
  vk_S 13 zlen zbyt (fun k => ad (100 + k)) (fun k => ad (200 + k)) A U H ∧ (∀ (k : Nat) (q : Nat × String), zstr[k]? = some q → vk_R RX1 q.1 q.2 (ad (100 + k)) U) ∧ va_Z "DownhillPost$Post" "ABOVE" "[I" (.ref (ad 80)) A U H ∧ va_T .int (ad 80) 6 (fun j => .int (zabove.getD j 0)) A U H ∧ va_Z "java/lang/String" "COMPACT_STRINGS" "Z" (.int 1) A U H ∧ (va_Z "jdk/internal/util/Preconditions" "SIOOBE_FORMATTER" "Ljava/util/function/BiFunction;" .null A U H ∨ va_Z "jdk/internal/util/Preconditions" "SIOOBE_FORMATTER" "Ljava/util/function/BiFunction;" (.ref (ad 85)) A U H)
theorem zX.go {ad : Nat → Nat} {A B : Nat → Prop} {s U : State} {H0 H : Heap} (h : zX ad A s H0) (hW : s.WarmedH U.vm) (hq : ∀ a : Nat, a < H0.size → ¬ A a → H[a]? = H0[a]?) (hAB : ∀ q, B q → A q) : zX ad B U H := by
  obtain ⟨h1, h2, h3, h4, h5, h6⟩ := h
  exact ⟨((h1.kept hq).moved hW.alike).narrow hAB, fun k q hk => (h2 k q hk).warm hW, ((h3.kept hq).moved hW.alike).narrow hAB, ((h4.kept hq).moved hW.alike).narrow hAB, ((h5.kept hq).moved hW.alike).narrow hAB, by
    rcases h6 with h6 | h6
    · exact Or.inl (((h6.kept hq).moved hW.alike).narrow hAB)
    · exact Or.inr (((h6.kept hq).moved hW.alike).narrow hAB)⟩
theorem zX.same {ad : Nat → Nat} {A : Nat → Prop} {u U : State} {H : Heap} (hv : U.vm = u.vm) (h : zX ad A u H) : zX ad A U H := by
  obtain ⟨h1, h2, h3, h4, h5, h6⟩ := h
  have ha : u.vm.Alike U.vm := by rw [hv]; exact Vm.Alike.refl _
  exact ⟨h1.moved ha, fun k q hk => (h2 k q hk).same hv, h3.moved ha, h4.moved ha, h5.moved ha, h6.imp (fun h => h.moved ha) (fun h => h.moved ha)⟩
/-- the locals: what is known of each -/
def zL (ad : Nat → Nat) (nL : Nat) (la : Array Slot) (ls : List (Option Value)) : Prop := la.size = nL ∧ lv_wf la ∧ ∀ (i : Nat) (v : Value), ls[i]? = some (some v) → la[i]? = some (.val (ztr ad v))
/-- what is the same all along a method: locals' number, answer's type, room, cells made so far, what it may write, a premise of its own, where it ends -/
abbrev zB : Type := Nat × Option FieldType × Room × (Nat × Nat) × (State → (Nat → Nat) → Nat → Prop) × (State → (Nat → Nat) → Prop) × (State → Array Value → List Frame → va_G → (Nat → Nat) → zC3 → State → Prop)
def zCx (own : String) (cc : ByteArray) (B : zB) (p : Program) (s : State) (m : MethodId) (args : Array Value) (meth : Method) (c : Code) (D : va_G) (ad : Nat → Nat) (c3 : zC3) : Prop :=
  p.tables.exec = Jvm.exec ∧ c.code = cc ∧ c.maxLocals = B.1 ∧ meth.sig.returnType = B.2.1 ∧ meth.locks = false ∧ s.vm.findClass own = some m.cls ∧ (∀ w ∈ zT, w.before args s = true) ∧ zInj ad ∧ va_K D vwCl (ztys c3) s ∧ zX ad (B.2.2.2.2.1 s ad) s s.heap ∧ (∀ q, zA ad q → B.2.2.2.2.1 s ad q) ∧ B.2.2.2.2.2.1 s ad
def zWP (own : String) (cc : ByteArray) (B : zB) (pc : Nat) (ls : List (Option Value)) (st : List Value) (w : zW) : Prop :=
  ∀ (p : Program) (l : Launch) (e : Env) (s : State) (m : MethodId) (args : Array Value) (below : List Frame) (meth : Method) (c : Code) (D : va_G) (ad : Nat → Nat) (c3 : zC3) (H : Heap) (locs : List Loc) (la : Array Slot),
    zCx own cc B p s m args meth c D ad c3 → va_P D vwCl (zws ad c3 w) H → va_S (B.2.2.2.2.1 s ad) s.heap H locs → zL ad B.1 la ls →
    W p l e B.2.2.1 s m args below meth c H locs B.2.2.2.1.1 B.2.2.2.1.2 (B.2.2.2.2.2.2 s args below D ad c3) (F0 m pc la (st.map (ztr ad)))
/-- a method's end: the answer and the world behind it -/
def zQc (D : va_G) (ad : Nat → Nat) (c3 : zC3) (Q : Option Value → zW → Prop) : Array Value → State → Outcome → State → Prop := fun _ st o t =>
  (∃ (r : Option Value) (w' : zW), o = .returned (r.map (ztr ad)) ∧ Q r w' ∧ va_P D vwCl (zws ad c3 w') t.heap) ∧ va_F (zA ad) st t
def zR (d : Nat) : Room := { frames := d, cells := 0, slots := 0, locals := 40 * d }
abbrev zMB (nL : Nat) (ret : Option FieldType) (d : Nat) (Q : Option Value → zW → Prop) : zB :=
  (nL, ret, zR d, (0, 0), fun _ ad => zA ad, fun _ _ => True, fun s args below D ad c3 => MQ below (zQc D ad c3 Q) args s 0 0 (zA ad))
def zPc (D : va_G) (ad : Nat → Nat) (c3 : zC3) (as : List Value) (w : zW) : Array Value → State → Prop := va_Pc (as.map (ztr ad)) (fun U => va_P D vwCl (zws ad c3 w) U.heap ∧ va_K D vwCl (ztys c3) U ∧ zX ad (zA ad) U U.heap)
def zRun (y : MethodName) (cc : ByteArray) (nL : Nat) (ret : Option FieldType) (d : Nat) (as : List Value) (w : zW) (Q : Option Value → zW → Prop) : Prop :=
  ∀ (l : Launch) (D : va_G) (ad : Nat → Nat) (c3 : zC3), zInj ad → Met l y (.code y cc nL ret :: zT) (zR d) (zPc D ad c3 as w) (zQc D ad c3 Q) 0 0 (zA ad)
end
section
theorem ztr_cat (ad : Nat → Nat) (v : Value) : (ztr ad v).category = v.category := by cases v <;> rfl
def zll (ad : Nat → Nat) (ls : List (Option Value)) : List (Nat × Value) := (List.range ls.length).filterMap (fun i => match ls[i]? with | some (some v) => some (i, ztr ad v) | _ => none)
theorem zll_in (ad : Nat → Nat) {ls : List (Option Value)} {i : Nat} {v : Value} (h : ls[i]? = some (some v)) : (i, ztr ad v) ∈ zll ad ls := by
  unfold zll
  refine List.mem_filterMap.mpr ⟨i, List.mem_range.mpr (List.getElem?_eq_some_iff.mp h).1, ?_⟩
  rw [h]
theorem zll_out {ad : Nat → Nat} {ls : List (Option Value)} {q : Nat × Value} (h : q ∈ zll ad ls) : ∃ v, ls[q.1]? = some (some v) ∧ q.2 = ztr ad v := by
  unfold zll at h
  obtain ⟨i, -, h⟩ := List.mem_filterMap.mp h
  match hv : ls[i]? with
  | none => rw [hv] at h; cases h
  | some none => rw [hv] at h; cases h
  | some (some v) => rw [hv] at h; cases h; exact ⟨v, hv, rfl⟩
theorem zL.has {ad : Nat → Nat} {nL : Nat} {la : Array Slot} {ls : List (Option Value)} (h : zL ad nL la ls) : lv_has la nL (zll ad ls) := by
  refine ⟨h.1, h.2.1, fun q hq => ?_⟩
  obtain ⟨v, h1, h2⟩ := zll_out hq
  rw [h2]
  exact h.2.2 _ _ h1
/-- no long lies just ahead of a slot that is written -/
def zok (ls : List (Option Value)) (i : Nat) : Bool := match i with
  | 0 => true
  | j + 1 => match ls[j]? with
    | some (some (.long _)) => false
    | some (some (.double _)) => false
    | _ => true
theorem zok_cat {ad : Nat → Nat} {ls : List (Option Value)} {i j : Nat} {v : Value} (hz : zok ls i = true) (hj : ls[j]? = some (some v)) (e : j + 1 = i) : ¬ (ztr ad v).category = 2 := by
  subst e
  simp only [zok, hj] at hz
  cases v <;> simp_all [ztr, Value.category]
theorem zL.set1 {ad : Nat → Nat} {nL : Nat} {la la2 : Array Slot} {ls : List (Option Value)} {i : Nat} {v : Value} (_ : zL ad nL la ls) (hz : zok ls i = true) {u : Value} (hu : ztr ad v = u) (h2 : lv_has la2 nL ((i, u) :: (zll ad ls).filter (fun q => !(q.1 == i) && !(q.1 + 1 == i && q.2.category == 2)))) : zL ad nL la2 (ls.set i (some v)) := by
  subst hu
  refine ⟨h2.1, h2.2.1, fun j x hx => ?_⟩
  by_cases e : i = j
  · subst e
    rw [List.getElem?_set] at hx
    simp only [if_true] at hx
    split at hx
    · cases hx; exact h2.2.2 _ List.mem_cons_self
    · cases hx
  · rw [List.getElem?_set_ne e] at hx
    refine h2.2.2 (j, ztr ad x) (List.mem_cons_of_mem _ (List.mem_filter.mpr ⟨zll_in ad hx, ?_⟩))
    have e1 : (j == i) = false := by simp [Ne.symm e]
    have e2 : (j + 1 == i && (ztr ad x).category == 2) = false := by
      by_cases q : j + 1 = i
      · have := zok_cat (ad := ad) hz hx q
        simp [this]
      · simp [q]
    simp [e1, e2]
theorem zL.set2 {ad : Nat → Nat} {nL : Nat} {la la2 : Array Slot} {ls : List (Option Value)} {i : Nat} {v : Value} (_ : zL ad nL la ls) (hz : zok ls i = true) {u : Value} (hu : ztr ad v = u) (h2 : lv_has la2 nL ((i, u) :: (zll ad ls).filter (fun q => !(q.1 == i) && (!(q.1 == i + 1) && !(q.1 + 1 == i && q.2.category == 2))))) : zL ad nL la2 ((ls.set i (some v)).set (i + 1) none) := by
  subst hu
  refine ⟨h2.1, h2.2.1, fun j x hx => ?_⟩
  by_cases e3 : i + 1 = j
  · subst e3
    rw [List.getElem?_set] at hx
    simp only [if_true] at hx
    split at hx <;> cases hx
  rw [List.getElem?_set_ne e3] at hx
  by_cases e : i = j
  · subst e
    rw [List.getElem?_set] at hx
    simp only [if_true] at hx
    split at hx
    · cases hx; exact h2.2.2 _ List.mem_cons_self
    · cases hx
  · rw [List.getElem?_set_ne e] at hx
    refine h2.2.2 (j, ztr ad x) (List.mem_cons_of_mem _ (List.mem_filter.mpr ⟨zll_in ad hx, ?_⟩))
    have e1 : (j == i) = false := by simp [Ne.symm e]
    have e4 : (j == i + 1) = false := by simp [Ne.symm e3]
    have e2 : (j + 1 == i && (ztr ad x).category == 2) = false := by
      by_cases q : j + 1 = i
      · have := zok_cat (ad := ad) hz hx q
        simp [this]
      · simp [q]
    simp [e1, e2, e4]
section ZROWS
variable {own : String} {cc : ByteArray} {B : zB} {pc : Nat} {ls : List (Option Value)} {st : List Value} {w : zW}
theorem zs_iadd {x y : Int32} (hd : decode cc pc = .ok (.iadd, 1)) (k : zWP own cc B (pc + 1) ls (.int (x + y) :: st) w) : zWP own cc B pc ls (.int y :: .int x :: st) w := by
  intro p l e s m args below meth c D ad c3 H locs la hC hP hS hL
  exact lv_iadd hC.1 hC.2.1 hd (k p l e s m args below meth c D ad c3 H locs la hC hP hS hL)
theorem zs_isub {x y : Int32} (hd : decode cc pc = .ok (.isub, 1)) (k : zWP own cc B (pc + 1) ls (.int (x - y) :: st) w) : zWP own cc B pc ls (.int y :: .int x :: st) w := by
  intro p l e s m args below meth c D ad c3 H locs la hC hP hS hL
  exact lv_isub hC.1 hC.2.1 hd (k p l e s m args below meth c D ad c3 H locs la hC hP hS hL)
theorem zs_imul {x y : Int32} (hd : decode cc pc = .ok (.imul, 1)) (k : zWP own cc B (pc + 1) ls (.int (x * y) :: st) w) : zWP own cc B pc ls (.int y :: .int x :: st) w := by
  intro p l e s m args below meth c D ad c3 H locs la hC hP hS hL
  exact lv_imul hC.1 hC.2.1 hd (k p l e s m args below meth c D ad c3 H locs la hC hP hS hL)
theorem zs_iand {x y : Int32} (hd : decode cc pc = .ok (.iand, 1)) (k : zWP own cc B (pc + 1) ls (.int (x &&& y) :: st) w) : zWP own cc B pc ls (.int y :: .int x :: st) w := by
  intro p l e s m args below meth c D ad c3 H locs la hC hP hS hL
  exact lv_iand hC.1 hC.2.1 hd (k p l e s m args below meth c D ad c3 H locs la hC hP hS hL)
theorem zs_ior {x y : Int32} (hd : decode cc pc = .ok (.ior, 1)) (k : zWP own cc B (pc + 1) ls (.int (x ||| y) :: st) w) : zWP own cc B pc ls (.int y :: .int x :: st) w := by
  intro p l e s m args below meth c D ad c3 H locs la hC hP hS hL
  exact lv_ior hC.1 hC.2.1 hd (k p l e s m args below meth c D ad c3 H locs la hC hP hS hL)
theorem zs_ixor {x y : Int32} (hd : decode cc pc = .ok (.ixor, 1)) (k : zWP own cc B (pc + 1) ls (.int (x ^^^ y) :: st) w) : zWP own cc B pc ls (.int y :: .int x :: st) w := by
  intro p l e s m args below meth c D ad c3 H locs la hC hP hS hL
  exact lv_ixor hC.1 hC.2.1 hd (k p l e s m args below meth c D ad c3 H locs la hC hP hS hL)
theorem zs_ishl {x y : Int32} (hd : decode cc pc = .ok (.ishl, 1)) (k : zWP own cc B (pc + 1) ls (.int (x <<< (y &&& 31)) :: st) w) : zWP own cc B pc ls (.int y :: .int x :: st) w := by
  intro p l e s m args below meth c D ad c3 H locs la hC hP hS hL
  exact lv_ishl hC.1 hC.2.1 hd (k p l e s m args below meth c D ad c3 H locs la hC hP hS hL)
theorem zs_ishr {x y : Int32} (hd : decode cc pc = .ok (.ishr, 1)) (k : zWP own cc B (pc + 1) ls (.int (x >>> (y &&& 31)) :: st) w) : zWP own cc B pc ls (.int y :: .int x :: st) w := by
  intro p l e s m args below meth c D ad c3 H locs la hC hP hS hL
  exact lv_ishr hC.1 hC.2.1 hd (k p l e s m args below meth c D ad c3 H locs la hC hP hS hL)
theorem zs_ladd {x y : Int64} (hd : decode cc pc = .ok (.ladd, 1)) (k : zWP own cc B (pc + 1) ls (.long (x + y) :: st) w) : zWP own cc B pc ls (.long y :: .long x :: st) w := by
  intro p l e s m args below meth c D ad c3 H locs la hC hP hS hL
  exact lv_ladd hC.1 hC.2.1 hd (k p l e s m args below meth c D ad c3 H locs la hC hP hS hL)
theorem zs_lsub {x y : Int64} (hd : decode cc pc = .ok (.lsub, 1)) (k : zWP own cc B (pc + 1) ls (.long (x - y) :: st) w) : zWP own cc B pc ls (.long y :: .long x :: st) w := by
  intro p l e s m args below meth c D ad c3 H locs la hC hP hS hL
  exact lv_lsub hC.1 hC.2.1 hd (k p l e s m args below meth c D ad c3 H locs la hC hP hS hL)
theorem zs_lmul {x y : Int64} (hd : decode cc pc = .ok (.lmul, 1)) (k : zWP own cc B (pc + 1) ls (.long (x * y) :: st) w) : zWP own cc B pc ls (.long y :: .long x :: st) w := by
  intro p l e s m args below meth c D ad c3 H locs la hC hP hS hL
  exact lv_lmul hC.1 hC.2.1 hd (k p l e s m args below meth c D ad c3 H locs la hC hP hS hL)
theorem zs_land {x y : Int64} (hd : decode cc pc = .ok (.land, 1)) (k : zWP own cc B (pc + 1) ls (.long (x &&& y) :: st) w) : zWP own cc B pc ls (.long y :: .long x :: st) w := by
  intro p l e s m args below meth c D ad c3 H locs la hC hP hS hL
  exact lv_land hC.1 hC.2.1 hd (k p l e s m args below meth c D ad c3 H locs la hC hP hS hL)
theorem zs_lor {x y : Int64} (hd : decode cc pc = .ok (.lor, 1)) (k : zWP own cc B (pc + 1) ls (.long (x ||| y) :: st) w) : zWP own cc B pc ls (.long y :: .long x :: st) w := by
  intro p l e s m args below meth c D ad c3 H locs la hC hP hS hL
  exact lv_lor hC.1 hC.2.1 hd (k p l e s m args below meth c D ad c3 H locs la hC hP hS hL)
theorem zs_idiv {x y : Int32} (hd : decode cc pc = .ok (.idiv, 1)) (hne : ¬ y = 0) (k : zWP own cc B (pc + 1) ls (.int (x / y) :: st) w) : zWP own cc B pc ls (.int y :: .int x :: st) w := by
  intro p l e s m args below meth c D ad c3 H locs la hC hP hS hL
  exact lv_idiv hC.1 hC.2.1 hd hne (k p l e s m args below meth c D ad c3 H locs la hC hP hS hL)
theorem zs_irem {x y : Int32} (hd : decode cc pc = .ok (.irem, 1)) (hne : ¬ y = 0) (k : zWP own cc B (pc + 1) ls (.int (x - x / y * y) :: st) w) : zWP own cc B pc ls (.int y :: .int x :: st) w := by
  intro p l e s m args below meth c D ad c3 H locs la hC hP hS hL
  exact lv_irem hC.1 hC.2.1 hd hne (k p l e s m args below meth c D ad c3 H locs la hC hP hS hL)
theorem zs_iushr {x y : Int32} (hd : decode cc pc = .ok (.iushr, 1)) (k : zWP own cc B (pc + 1) ls (.int ((x.toUInt32 >>> (y.toUInt32 &&& Int32.toUInt32 31)).toInt32) :: st) w) : zWP own cc B pc ls (.int y :: .int x :: st) w := by
  intro p l e s m args below meth c D ad c3 H locs la hC hP hS hL
  exact lv_iushr hC.1 hC.2.1 hd rfl (k p l e s m args below meth c D ad c3 H locs la hC hP hS hL)
theorem zs_ineg {x : Int32} (hd : decode cc pc = .ok (.ineg, 1)) (k : zWP own cc B (pc + 1) ls (.int (-x) :: st) w) : zWP own cc B pc ls (.int x :: st) w := by
  intro p l e s m args below meth c D ad c3 H locs la hC hP hS hL
  exact lv_ineg hC.1 hC.2.1 hd (k p l e s m args below meth c D ad c3 H locs la hC hP hS hL)
theorem zs_lshl {x : Int64} {y : Int32} (hd : decode cc pc = .ok (.lshl, 1)) (k : zWP own cc B (pc + 1) ls (.long (x <<< (y.toInt64 &&& 63)) :: st) w) : zWP own cc B pc ls (.int y :: .long x :: st) w := by
  intro p l e s m args below meth c D ad c3 H locs la hC hP hS hL
  exact lv_lshl hC.1 hC.2.1 hd rfl (k p l e s m args below meth c D ad c3 H locs la hC hP hS hL)
theorem zs_lshr {x : Int64} {y : Int32} (hd : decode cc pc = .ok (.lshr, 1)) (k : zWP own cc B (pc + 1) ls (.long (x >>> (y.toInt64 &&& 63)) :: st) w) : zWP own cc B pc ls (.int y :: .long x :: st) w := by
  intro p l e s m args below meth c D ad c3 H locs la hC hP hS hL
  exact lv_lshr hC.1 hC.2.1 hd rfl (k p l e s m args below meth c D ad c3 H locs la hC hP hS hL)
theorem zs_i2l {x : Int32} (hd : decode cc pc = .ok (.i2l, 1)) (k : zWP own cc B (pc + 1) ls (.long x.toInt64 :: st) w) : zWP own cc B pc ls (.int x :: st) w := by
  intro p l e s m args below meth c D ad c3 H locs la hC hP hS hL
  exact lv_i2l hC.1 hC.2.1 hd rfl (k p l e s m args below meth c D ad c3 H locs la hC hP hS hL)
theorem zs_l2i {x : Int64} (hd : decode cc pc = .ok (.l2i, 1)) (k : zWP own cc B (pc + 1) ls (.int x.toInt32 :: st) w) : zWP own cc B pc ls (.long x :: st) w := by
  intro p l e s m args below meth c D ad c3 H locs la hC hP hS hL
  exact lv_l2i hC.1 hC.2.1 hd rfl (k p l e s m args below meth c D ad c3 H locs la hC hP hS hL)
theorem zs_i2b {x : Int32} (hd : decode cc pc = .ok (.i2b, 1)) (k : zWP own cc B (pc + 1) ls (.int x.toInt8.toInt32 :: st) w) : zWP own cc B pc ls (.int x :: st) w := by
  intro p l e s m args below meth c D ad c3 H locs la hC hP hS hL
  exact lv_i2b hC.1 hC.2.1 hd rfl (k p l e s m args below meth c D ad c3 H locs la hC hP hS hL)
theorem zs_i2s {x : Int32} (hd : decode cc pc = .ok (.i2s, 1)) (k : zWP own cc B (pc + 1) ls (.int x.toInt16.toInt32 :: st) w) : zWP own cc B pc ls (.int x :: st) w := by
  intro p l e s m args below meth c D ad c3 H locs la hC hP hS hL
  exact lv_i2s hC.1 hC.2.1 hd rfl (k p l e s m args below meth c D ad c3 H locs la hC hP hS hL)
theorem zs_i2c {x : Int32} (hd : decode cc pc = .ok (.i2c, 1)) (k : zWP own cc B (pc + 1) ls (.int (x.toUInt32 % 65536).toInt32 :: st) w) : zWP own cc B pc ls (.int x :: st) w := by
  intro p l e s m args below meth c D ad c3 H locs la hC hP hS hL
  exact lv_i2c hC.1 hC.2.1 hd rfl (k p l e s m args below meth c D ad c3 H locs la hC hP hS hL)
theorem zs_lcmp {x y : Int64} (hd : decode cc pc = .ok (.lcmp, 1)) (k : zWP own cc B (pc + 1) ls (.int (lg_cmp x y) :: st) w) : zWP own cc B pc ls (.long y :: .long x :: st) w := by
  intro p l e s m args below meth c D ad c3 H locs la hC hP hS hL
  exact W.lcmp hC.1 hC.2.1 hd (k p l e s m args below meth c D ad c3 H locs la hC hP hS hL)
theorem zs_iconst {n : Int} (v : Int32) (hd : decode cc pc = .ok (.iconst n, 1)) (hv : Int32.ofInt n = v) (k : zWP own cc B (pc + 1) ls (.int v :: st) w) : zWP own cc B pc ls st w := by
  intro p l e s m args below meth c D ad c3 H locs la hC hP hS hL
  exact lv_iconst hC.1 hC.2.1 hd hv (k p l e s m args below meth c D ad c3 H locs la hC hP hS hL)
theorem zs_bipush {n : Int} (v : Int32) (hd : decode cc pc = .ok (.bipush n, 2)) (hv : (Int8.ofInt n).toInt32 = v) (k : zWP own cc B (pc + 2) ls (.int v :: st) w) : zWP own cc B pc ls st w := by
  intro p l e s m args below meth c D ad c3 H locs la hC hP hS hL
  exact lv_bipush hC.1 hC.2.1 hd hv (k p l e s m args below meth c D ad c3 H locs la hC hP hS hL)
theorem zs_sipush {n : Int} (v : Int32) (hd : decode cc pc = .ok (.sipush n, 3)) (hv : (Int16.ofInt n).toInt32 = v) (k : zWP own cc B (pc + 3) ls (.int v :: st) w) : zWP own cc B pc ls st w := by
  intro p l e s m args below meth c D ad c3 H locs la hC hP hS hL
  exact lv_sipush hC.1 hC.2.1 hd hv (k p l e s m args below meth c D ad c3 H locs la hC hP hS hL)
theorem zs_lconst {n : Fin 2} (v : Int64) (hd : decode cc pc = .ok (.lconst n, 1)) (hv : Int64.ofNat (n : Nat) = v) (k : zWP own cc B (pc + 1) ls (.long v :: st) w) : zWP own cc B pc ls st w := by
  intro p l e s m args below meth c D ad c3 H locs la hC hP hS hL
  exact lv_lconst hC.1 hC.2.1 hd hv (k p l e s m args below meth c D ad c3 H locs la hC hP hS hL)
theorem zs_ldc {i : Nat} {v : Int32} (hw : Cond.constant own i v ∈ zT) (hd : decode cc pc = .ok (.ldc i, 2)) (k : zWP own cc B (pc + 2) ls (.int v :: st) w) : zWP own cc B pc ls st w := by
  intro p l e s m args below meth c D ad c3 H locs la hC hP hS hL
  exact lv_ldc hC.1 hC.2.1 hC.2.2.2.2.2.1 (hC.2.2.2.2.2.2.1 _ hw) hd (k p l e s m args below meth c D ad c3 H locs la hC hP hS hL)
theorem zs_ldc_w {i : Nat} {v : Int32} (hw : Cond.constant own i v ∈ zT) (hd : decode cc pc = .ok (.ldc_w i, 3)) (k : zWP own cc B (pc + 3) ls (.int v :: st) w) : zWP own cc B pc ls st w := by
  intro p l e s m args below meth c D ad c3 H locs la hC hP hS hL
  exact lv_ldcw hC.1 hC.2.1 hC.2.2.2.2.2.1 (hC.2.2.2.2.2.2.1 _ hw) hd (k p l e s m args below meth c D ad c3 H locs la hC hP hS hL)
theorem zs_ldc2_w {i : Nat} {v : Int64} (hw : Cond.constantLong own i v ∈ zT) (hd : decode cc pc = .ok (.ldc2_w i, 3)) (k : zWP own cc B (pc + 3) ls (.long v :: st) w) : zWP own cc B pc ls st w := by
  intro p l e s m args below meth c D ad c3 H locs la hC hP hS hL
  exact lv_ldc2 hC.1 hC.2.1 hC.2.2.2.2.2.1 (hC.2.2.2.2.2.2.1 _ hw) hd (k p l e s m args below meth c D ad c3 H locs la hC hP hS hL)
theorem zs_iload_n {j : Fin 4} {x : Int32} (hd : decode cc pc = .ok (.iload_n j, 1)) (hl : ls[(j : Nat)]? = some (some (.int x))) (k : zWP own cc B (pc + 1) ls (.int x :: st) w) : zWP own cc B pc ls st w := by
  intro p l e s m args below meth c D ad c3 H locs la hC hP hS hL
  exact lv_iload_n hC.1 hC.2.1 hd rfl (hL.2.2 _ _ hl) (k p l e s m args below meth c D ad c3 H locs la hC hP hS hL)
theorem zs_iload {j : Nat} {x : Int32} (hd : decode cc pc = .ok (.iload j, 2)) (hl : ls[j]? = some (some (.int x))) (k : zWP own cc B (pc + 2) ls (.int x :: st) w) : zWP own cc B pc ls st w := by
  intro p l e s m args below meth c D ad c3 H locs la hC hP hS hL
  exact lv_iload hC.1 hC.2.1 hd (hL.2.2 _ _ hl) (k p l e s m args below meth c D ad c3 H locs la hC hP hS hL)
theorem zs_lload_n {j : Fin 4} {x : Int64} (hd : decode cc pc = .ok (.lload_n j, 1)) (hl : ls[(j : Nat)]? = some (some (.long x))) (k : zWP own cc B (pc + 1) ls (.long x :: st) w) : zWP own cc B pc ls st w := by
  intro p l e s m args below meth c D ad c3 H locs la hC hP hS hL
  exact lv_lload_n hC.1 hC.2.1 hd rfl (hL.2.2 _ _ hl) (k p l e s m args below meth c D ad c3 H locs la hC hP hS hL)
theorem zs_lload {j : Nat} {x : Int64} (hd : decode cc pc = .ok (.lload j, 2)) (hl : ls[j]? = some (some (.long x))) (k : zWP own cc B (pc + 2) ls (.long x :: st) w) : zWP own cc B pc ls st w := by
  intro p l e s m args below meth c D ad c3 H locs la hC hP hS hL
  exact lv_lload hC.1 hC.2.1 hd (hL.2.2 _ _ hl) (k p l e s m args below meth c D ad c3 H locs la hC hP hS hL)
theorem zs_aload_n {j : Fin 4} {x : Nat} (hd : decode cc pc = .ok (.aload_n j, 1)) (hl : ls[(j : Nat)]? = some (some (.ref x))) (k : zWP own cc B (pc + 1) ls (.ref x :: st) w) : zWP own cc B pc ls st w := by
  intro p l e s m args below meth c D ad c3 H locs la hC hP hS hL
  exact lv_aload_n hC.1 hC.2.1 hd rfl (hL.2.2 _ _ hl) (k p l e s m args below meth c D ad c3 H locs la hC hP hS hL)
theorem zs_aload {j : Nat} {x : Nat} (hd : decode cc pc = .ok (.aload j, 2)) (hl : ls[j]? = some (some (.ref x))) (k : zWP own cc B (pc + 2) ls (.ref x :: st) w) : zWP own cc B pc ls st w := by
  intro p l e s m args below meth c D ad c3 H locs la hC hP hS hL
  exact lv_aload hC.1 hC.2.1 hd (hL.2.2 _ _ hl) (k p l e s m args below meth c D ad c3 H locs la hC hP hS hL)
theorem zs_aload_nN {j : Fin 4} (hd : decode cc pc = .ok (.aload_n j, 1)) (hl : ls[(j : Nat)]? = some (some .null)) (k : zWP own cc B (pc + 1) ls (.null :: st) w) : zWP own cc B pc ls st w := by
  intro p l e s m args below meth c D ad c3 H locs la hC hP hS hL
  exact lv_aload_nN hC.1 hC.2.1 hd rfl (hL.2.2 _ _ hl) (k p l e s m args below meth c D ad c3 H locs la hC hP hS hL)
theorem zs_aloadN {j : Nat} (hd : decode cc pc = .ok (.aload j, 2)) (hl : ls[j]? = some (some .null)) (k : zWP own cc B (pc + 2) ls (.null :: st) w) : zWP own cc B pc ls st w := by
  intro p l e s m args below meth c D ad c3 H locs la hC hP hS hL
  exact lv_aloadN hC.1 hC.2.1 hd (hL.2.2 _ _ hl) (k p l e s m args below meth c D ad c3 H locs la hC hP hS hL)
theorem zs_dup {v : Value} (hd : decode cc pc = .ok (.dup, 1)) (hc : v.category = 1) (k : zWP own cc B (pc + 1) ls (v :: v :: st) w) : zWP own cc B pc ls (v :: st) w := by
  intro p l e s m args below meth c D ad c3 H locs la hC hP hS hL
  exact lv_dup hC.1 hC.2.1 hd ((ztr_cat ad v).trans hc) (k p l e s m args below meth c D ad c3 H locs la hC hP hS hL)
theorem zs_dup2 {v u : Value} (hd : decode cc pc = .ok (.dup2, 1)) (hc : v.category = 1) (hc2 : u.category = 1) (k : zWP own cc B (pc + 1) ls (v :: u :: v :: u :: st) w) : zWP own cc B pc ls (v :: u :: st) w := by
  intro p l e s m args below meth c D ad c3 H locs la hC hP hS hL
  exact lv_dup2_11 hC.1 hC.2.1 hd ((ztr_cat ad v).trans hc) ((ztr_cat ad u).trans hc2) (k p l e s m args below meth c D ad c3 H locs la hC hP hS hL)
theorem zs_dup_x1 {v u : Value} (hd : decode cc pc = .ok (.dup_x1, 1)) (hc : v.category = 1) (hc2 : u.category = 1) (k : zWP own cc B (pc + 1) ls (v :: u :: v :: st) w) : zWP own cc B pc ls (v :: u :: st) w := by
  intro p l e s m args below meth c D ad c3 H locs la hC hP hS hL
  exact lv_dup_x1 hC.1 hC.2.1 hd ((ztr_cat ad v).trans hc) ((ztr_cat ad u).trans hc2) (k p l e s m args below meth c D ad c3 H locs la hC hP hS hL)
theorem zs_pop {v : Value} (hd : decode cc pc = .ok (.pop, 1)) (hc : v.category = 1) (k : zWP own cc B (pc + 1) ls st w) : zWP own cc B pc ls (v :: st) w := by
  intro p l e s m args below meth c D ad c3 H locs la hC hP hS hL
  exact lv_pop hC.1 hC.2.1 hd ((ztr_cat ad v).trans hc) (k p l e s m args below meth c D ad c3 H locs la hC hP hS hL)
theorem zs_goto {off : Int} (tgt : Nat) (hd : decode cc pc = .ok (.goto off, 3)) (ht : (pc : Int) + off = (tgt : Int)) (k : zWP own cc B tgt ls st w) : zWP own cc B pc ls st w := by
  intro p l e s m args below meth c D ad c3 H locs la hC hP hS hL
  exact lv_goto hC.1 hC.2.1 hd ht (k p l e s m args below meth c D ad c3 H locs la hC hP hS hL)
theorem zs_ifnonnull {x : Nat} {off : Int} (tgt : Nat) (hd : decode cc pc = .ok (.ifnonnull off, 3)) (ht : (pc : Int) + off = (tgt : Int)) (k : zWP own cc B tgt ls st w) : zWP own cc B pc ls (.ref x :: st) w := by
  intro p l e s m args below meth c D ad c3 H locs la hC hP hS hL
  exact lv_ifnonnull hC.1 hC.2.1 hd ht (k p l e s m args below meth c D ad c3 H locs la hC hP hS hL)
theorem zs_ifnull {x : Nat} {off : Int} (hd : decode cc pc = .ok (.ifnull off, 3)) (k : zWP own cc B (pc + 3) ls st w) : zWP own cc B pc ls (.ref x :: st) w := by
  intro p l e s m args below meth c D ad c3 H locs la hC hP hS hL
  exact lv_ifnull hC.1 hC.2.1 hd (k p l e s m args below meth c D ad c3 H locs la hC hP hS hL)
theorem zs_ifnullN {off : Int} (tgt : Nat) (hd : decode cc pc = .ok (.ifnull off, 3)) (ht : (pc : Int) + off = (tgt : Int)) (k : zWP own cc B tgt ls st w) : zWP own cc B pc ls (.null :: st) w := by
  intro p l e s m args below meth c D ad c3 H locs la hC hP hS hL
  exact lv_ifnullN hC.1 hC.2.1 hd ht (k p l e s m args below meth c D ad c3 H locs la hC hP hS hL)
theorem zs_ifnonnullN {off : Int} (hd : decode cc pc = .ok (.ifnonnull off, 3)) (k : zWP own cc B (pc + 3) ls st w) : zWP own cc B pc ls (.null :: st) w := by
  intro p l e s m args below meth c D ad c3 H locs la hC hP hS hL
  exact lv_ifnonnullN hC.1 hC.2.1 hd (k p l e s m args below meth c D ad c3 H locs la hC hP hS hL)
theorem zs_if_eq {x : Int32} {off : Int} (tgt : Nat) (hd : decode cc pc = .ok (.ifCond .eq off, 3)) (ht : (pc : Int) + off = (tgt : Int)) (kt : x = 0 → zWP own cc B tgt ls st w) (kf : ¬ x = 0 → zWP own cc B (pc + 3) ls st w) : zWP own cc B pc ls (.int x :: st) w := by
  intro p l e s m args below meth c D ad c3 H locs la hC hP hS hL
  exact lv_if_eq hC.1 hC.2.1 hd ht (fun h => kt h p l e s m args below meth c D ad c3 H locs la hC hP hS hL) (fun h => kf h p l e s m args below meth c D ad c3 H locs la hC hP hS hL)
theorem zs_icmp_eq {x y : Int32} {off : Int} (tgt : Nat) (hd : decode cc pc = .ok (.if_icmp .eq off, 3)) (ht : (pc : Int) + off = (tgt : Int)) (kt : x = y → zWP own cc B tgt ls st w) (kf : ¬ x = y → zWP own cc B (pc + 3) ls st w) : zWP own cc B pc ls (.int y :: .int x :: st) w := by
  intro p l e s m args below meth c D ad c3 H locs la hC hP hS hL
  exact lv_icmp_eq hC.1 hC.2.1 hd ht (fun h => kt h p l e s m args below meth c D ad c3 H locs la hC hP hS hL) (fun h => kf h p l e s m args below meth c D ad c3 H locs la hC hP hS hL)
theorem zs_if_ne {x : Int32} {off : Int} (tgt : Nat) (hd : decode cc pc = .ok (.ifCond .ne off, 3)) (ht : (pc : Int) + off = (tgt : Int)) (kt : ¬ x = 0 → zWP own cc B tgt ls st w) (kf : x = 0 → zWP own cc B (pc + 3) ls st w) : zWP own cc B pc ls (.int x :: st) w := by
  intro p l e s m args below meth c D ad c3 H locs la hC hP hS hL
  exact lv_if_ne hC.1 hC.2.1 hd ht (fun h => kt h p l e s m args below meth c D ad c3 H locs la hC hP hS hL) (fun h => kf h p l e s m args below meth c D ad c3 H locs la hC hP hS hL)
theorem zs_icmp_ne {x y : Int32} {off : Int} (tgt : Nat) (hd : decode cc pc = .ok (.if_icmp .ne off, 3)) (ht : (pc : Int) + off = (tgt : Int)) (kt : ¬ x = y → zWP own cc B tgt ls st w) (kf : x = y → zWP own cc B (pc + 3) ls st w) : zWP own cc B pc ls (.int y :: .int x :: st) w := by
  intro p l e s m args below meth c D ad c3 H locs la hC hP hS hL
  exact lv_icmp_ne hC.1 hC.2.1 hd ht (fun h => kt h p l e s m args below meth c D ad c3 H locs la hC hP hS hL) (fun h => kf h p l e s m args below meth c D ad c3 H locs la hC hP hS hL)
theorem zs_if_lt {x : Int32} {off : Int} (tgt : Nat) (hd : decode cc pc = .ok (.ifCond .lt off, 3)) (ht : (pc : Int) + off = (tgt : Int)) (kt : x < 0 → zWP own cc B tgt ls st w) (kf : ¬ x < 0 → zWP own cc B (pc + 3) ls st w) : zWP own cc B pc ls (.int x :: st) w := by
  intro p l e s m args below meth c D ad c3 H locs la hC hP hS hL
  exact lv_if_lt hC.1 hC.2.1 hd ht (fun h => kt h p l e s m args below meth c D ad c3 H locs la hC hP hS hL) (fun h => kf h p l e s m args below meth c D ad c3 H locs la hC hP hS hL)
theorem zs_icmp_lt {x y : Int32} {off : Int} (tgt : Nat) (hd : decode cc pc = .ok (.if_icmp .lt off, 3)) (ht : (pc : Int) + off = (tgt : Int)) (kt : x < y → zWP own cc B tgt ls st w) (kf : ¬ x < y → zWP own cc B (pc + 3) ls st w) : zWP own cc B pc ls (.int y :: .int x :: st) w := by
  intro p l e s m args below meth c D ad c3 H locs la hC hP hS hL
  exact lv_icmp_lt hC.1 hC.2.1 hd ht (fun h => kt h p l e s m args below meth c D ad c3 H locs la hC hP hS hL) (fun h => kf h p l e s m args below meth c D ad c3 H locs la hC hP hS hL)
theorem zs_if_ge {x : Int32} {off : Int} (tgt : Nat) (hd : decode cc pc = .ok (.ifCond .ge off, 3)) (ht : (pc : Int) + off = (tgt : Int)) (kt : 0 ≤ x → zWP own cc B tgt ls st w) (kf : ¬ 0 ≤ x → zWP own cc B (pc + 3) ls st w) : zWP own cc B pc ls (.int x :: st) w := by
  intro p l e s m args below meth c D ad c3 H locs la hC hP hS hL
  exact lv_if_ge hC.1 hC.2.1 hd ht (fun h => kt h p l e s m args below meth c D ad c3 H locs la hC hP hS hL) (fun h => kf h p l e s m args below meth c D ad c3 H locs la hC hP hS hL)
theorem zs_icmp_ge {x y : Int32} {off : Int} (tgt : Nat) (hd : decode cc pc = .ok (.if_icmp .ge off, 3)) (ht : (pc : Int) + off = (tgt : Int)) (kt : y ≤ x → zWP own cc B tgt ls st w) (kf : ¬ y ≤ x → zWP own cc B (pc + 3) ls st w) : zWP own cc B pc ls (.int y :: .int x :: st) w := by
  intro p l e s m args below meth c D ad c3 H locs la hC hP hS hL
  exact lv_icmp_ge hC.1 hC.2.1 hd ht (fun h => kt h p l e s m args below meth c D ad c3 H locs la hC hP hS hL) (fun h => kf h p l e s m args below meth c D ad c3 H locs la hC hP hS hL)
theorem zs_if_gt {x : Int32} {off : Int} (tgt : Nat) (hd : decode cc pc = .ok (.ifCond .gt off, 3)) (ht : (pc : Int) + off = (tgt : Int)) (kt : 0 < x → zWP own cc B tgt ls st w) (kf : ¬ 0 < x → zWP own cc B (pc + 3) ls st w) : zWP own cc B pc ls (.int x :: st) w := by
  intro p l e s m args below meth c D ad c3 H locs la hC hP hS hL
  exact lv_if_gt hC.1 hC.2.1 hd ht (fun h => kt h p l e s m args below meth c D ad c3 H locs la hC hP hS hL) (fun h => kf h p l e s m args below meth c D ad c3 H locs la hC hP hS hL)
theorem zs_icmp_gt {x y : Int32} {off : Int} (tgt : Nat) (hd : decode cc pc = .ok (.if_icmp .gt off, 3)) (ht : (pc : Int) + off = (tgt : Int)) (kt : y < x → zWP own cc B tgt ls st w) (kf : ¬ y < x → zWP own cc B (pc + 3) ls st w) : zWP own cc B pc ls (.int y :: .int x :: st) w := by
  intro p l e s m args below meth c D ad c3 H locs la hC hP hS hL
  exact lv_icmp_gt hC.1 hC.2.1 hd ht (fun h => kt h p l e s m args below meth c D ad c3 H locs la hC hP hS hL) (fun h => kf h p l e s m args below meth c D ad c3 H locs la hC hP hS hL)
theorem zs_if_le {x : Int32} {off : Int} (tgt : Nat) (hd : decode cc pc = .ok (.ifCond .le off, 3)) (ht : (pc : Int) + off = (tgt : Int)) (kt : x ≤ 0 → zWP own cc B tgt ls st w) (kf : ¬ x ≤ 0 → zWP own cc B (pc + 3) ls st w) : zWP own cc B pc ls (.int x :: st) w := by
  intro p l e s m args below meth c D ad c3 H locs la hC hP hS hL
  exact lv_if_le hC.1 hC.2.1 hd ht (fun h => kt h p l e s m args below meth c D ad c3 H locs la hC hP hS hL) (fun h => kf h p l e s m args below meth c D ad c3 H locs la hC hP hS hL)
theorem zs_icmp_le {x y : Int32} {off : Int} (tgt : Nat) (hd : decode cc pc = .ok (.if_icmp .le off, 3)) (ht : (pc : Int) + off = (tgt : Int)) (kt : x ≤ y → zWP own cc B tgt ls st w) (kf : ¬ x ≤ y → zWP own cc B (pc + 3) ls st w) : zWP own cc B pc ls (.int y :: .int x :: st) w := by
  intro p l e s m args below meth c D ad c3 H locs la hC hP hS hL
  exact lv_icmp_le hC.1 hC.2.1 hd ht (fun h => kt h p l e s m args below meth c D ad c3 H locs la hC hP hS hL) (fun h => kf h p l e s m args below meth c D ad c3 H locs la hC hP hS hL)
theorem zs_istore_n {j : Fin 4} {x : Int32} (ls' : List (Option Value)) (hd : decode cc pc = .ok (.istore_n j, 1)) (hj : (j : Nat) < B.1) (hz : zok ls j = true) (hls : ls.set (j : Nat) (some (.int x)) = ls') (k : zWP own cc B (pc + 1) ls' st w) : zWP own cc B pc ls (.int x :: st) w := by
  intro p l e s m args below meth c D ad c3 H locs la hC hP hS hL
  exact lv_istore_n hC.1 hC.2.1 hd rfl hL.has hj rfl (fun la2 hl2 => k p l e s m args below meth c D ad c3 H locs la2 hC hP hS (hls ▸ hL.set1 hz rfl hl2))
theorem zs_istore {j : Nat} {x : Int32} (ls' : List (Option Value)) (hd : decode cc pc = .ok (.istore j, 2)) (hj : j < B.1) (hz : zok ls j = true) (hls : ls.set j (some (.int x)) = ls') (k : zWP own cc B (pc + 2) ls' st w) : zWP own cc B pc ls (.int x :: st) w := by
  intro p l e s m args below meth c D ad c3 H locs la hC hP hS hL
  exact lv_istore hC.1 hC.2.1 hd hL.has hj rfl (fun la2 hl2 => k p l e s m args below meth c D ad c3 H locs la2 hC hP hS (hls ▸ hL.set1 hz rfl hl2))
theorem zs_astore_n {j : Fin 4} {x : Nat} (ls' : List (Option Value)) (hd : decode cc pc = .ok (.astore_n j, 1)) (hj : (j : Nat) < B.1) (hz : zok ls j = true) (hls : ls.set (j : Nat) (some (.ref x)) = ls') (k : zWP own cc B (pc + 1) ls' st w) : zWP own cc B pc ls (.ref x :: st) w := by
  intro p l e s m args below meth c D ad c3 H locs la hC hP hS hL
  exact lv_astore_n hC.1 hC.2.1 hd rfl hL.has hj rfl (fun la2 hl2 => k p l e s m args below meth c D ad c3 H locs la2 hC hP hS (hls ▸ hL.set1 hz rfl hl2))
theorem zs_astore {j : Nat} {x : Nat} (ls' : List (Option Value)) (hd : decode cc pc = .ok (.astore j, 2)) (hj : j < B.1) (hz : zok ls j = true) (hls : ls.set j (some (.ref x)) = ls') (k : zWP own cc B (pc + 2) ls' st w) : zWP own cc B pc ls (.ref x :: st) w := by
  intro p l e s m args below meth c D ad c3 H locs la hC hP hS hL
  exact lv_astore hC.1 hC.2.1 hd hL.has hj rfl (fun la2 hl2 => k p l e s m args below meth c D ad c3 H locs la2 hC hP hS (hls ▸ hL.set1 hz rfl hl2))
theorem zs_astore_nN {j : Fin 4} (ls' : List (Option Value)) (hd : decode cc pc = .ok (.astore_n j, 1)) (hj : (j : Nat) < B.1) (hz : zok ls j = true) (hls : ls.set (j : Nat) (some .null) = ls') (k : zWP own cc B (pc + 1) ls' st w) : zWP own cc B pc ls (.null :: st) w := by
  intro p l e s m args below meth c D ad c3 H locs la hC hP hS hL
  exact lv_astore_nN hC.1 hC.2.1 hd rfl hL.has hj rfl (fun la2 hl2 => k p l e s m args below meth c D ad c3 H locs la2 hC hP hS (hls ▸ hL.set1 hz rfl hl2))
theorem zs_astoreN {j : Nat} (ls' : List (Option Value)) (hd : decode cc pc = .ok (.astore j, 2)) (hj : j < B.1) (hz : zok ls j = true) (hls : ls.set j (some .null) = ls') (k : zWP own cc B (pc + 2) ls' st w) : zWP own cc B pc ls (.null :: st) w := by
  intro p l e s m args below meth c D ad c3 H locs la hC hP hS hL
  exact lv_astoreN hC.1 hC.2.1 hd hL.has hj rfl (fun la2 hl2 => k p l e s m args below meth c D ad c3 H locs la2 hC hP hS (hls ▸ hL.set1 hz rfl hl2))
theorem zs_lstore_n {j : Fin 4} {x : Int64} (ls' : List (Option Value)) (hd : decode cc pc = .ok (.lstore_n j, 1)) (hj : (j : Nat) + 1 < B.1) (hz : zok ls j = true) (hls : (ls.set (j : Nat) (some (.long x))).set ((j : Nat) + 1) none = ls') (k : zWP own cc B (pc + 1) ls' st w) : zWP own cc B pc ls (.long x :: st) w := by
  intro p l e s m args below meth c D ad c3 H locs la hC hP hS hL
  exact lv_lstore_n hC.1 hC.2.1 hd rfl hL.has hj rfl (fun la2 hl2 => k p l e s m args below meth c D ad c3 H locs la2 hC hP hS (hls ▸ hL.set2 hz rfl hl2))
theorem zs_lstore {j : Nat} {x : Int64} (ls' : List (Option Value)) (hd : decode cc pc = .ok (.lstore j, 2)) (hj : j + 1 < B.1) (hz : zok ls j = true) (hls : (ls.set j (some (.long x))).set (j + 1) none = ls') (k : zWP own cc B (pc + 2) ls' st w) : zWP own cc B pc ls (.long x :: st) w := by
  intro p l e s m args below meth c D ad c3 H locs la hC hP hS hL
  exact lv_lstore hC.1 hC.2.1 hd hL.has hj rfl (fun la2 hl2 => k p l e s m args below meth c D ad c3 H locs la2 hC hP hS (hls ▸ hL.set2 hz rfl hl2))
theorem zs_iinc {j : Nat} {n : Int} {x : Int32} (v : Int32) (ls' : List (Option Value)) (hd : decode cc pc = .ok (.iinc j n, 3)) (hl : ls[j]? = some (some (.int x))) (hv : x + Int32.ofInt n = v) (hj : j < B.1) (hz : zok ls j = true) (hls : ls.set j (some (.int v)) = ls') (k : zWP own cc B (pc + 3) ls' st w) : zWP own cc B pc ls st w := by
  intro p l e s m args below meth c D ad c3 H locs la hC hP hS hL
  obtain ⟨i9, h9⟩ := List.getElem?_of_mem (zll_in ad hl)
  exact lv_iinc hC.1 hC.2.1 hd hL.has h9 hv hj rfl (fun la2 hl2 => k p l e s m args below meth c D ad c3 H locs la2 hC hP hS (hls ▸ hL.set1 hz rfl hl2))
end ZROWS
end
section
def zva (w : zW) (o k q : Nat) : Value := match q with
  | 0 => .int (w.1 o k)
  | 1 => .long (w.2 o k)
  | q + 2 => .ref q
theorem zval_tr (ad : Nat → Nat) (w : zW) (o k q : Nat) : zval ad w o k q = ztr ad (zva w o k q) := by
  match q with
  | 0 => rfl
  | 1 => rfl
  | q + 2 => rfl
theorem zfs_set {ad : Nat → Nat} {w w' : zW} {o : Nat} {k : Nat} {v : Value} : ∀ (qs : List Nat) (b : Nat), (∀ i q, qs[i]? = some q → b + i ≠ k → zval ad w' o (b + i) q = zval ad w o (b + i) q) → (∀ i q, qs[i]? = some q → b + i = k → zval ad w' o (b + i) q = v) → b ≤ k → (zfs ad w o b qs).set (k - b) v = zfs ad w' o b qs := by
  intro qs
  induction qs with
  | nil => intro b _ _ _; rfl
  | cons q qs ih =>
    intro b h1 h2 hb
    by_cases e : b = k
    · subst e
      have e1 : zval ad w' o b q = v := h2 0 q rfl rfl
      have e2 : zfs ad w o (b + 1) qs = zfs ad w' o (b + 1) qs := by
        apply List.ext_getElem?
        intro i
        rw [zfs_get, zfs_get]
        cases hq : qs[i]? with
        | none => rfl
        | some z => simp only [Option.map_some]; rw [show b + 1 + i = b + (i + 1) by omega, h1 (i + 1) z (by simpa using hq) (by omega)]
      simp [zfs, e1, e2]
    · have hs : k - b = (k - (b + 1)) + 1 := by omega
      have e1 : zval ad w' o b q = zval ad w o b q := h1 0 q rfl e
      have e2 := ih (b + 1) (fun i z hz hn => by rw [show b + 1 + i = b + (i + 1) by omega]; exact h1 (i + 1) z (by simpa using hz) (by omega)) (fun i z hz hn => by rw [show b + 1 + i = b + (i + 1) by omega]; exact h2 (i + 1) z (by simpa using hz) (by omega)) (by omega)
      rw [hs]
      simp [zfs, e1, e2]
theorem zfs_setI {ad : Nat → Nat} {w : zW} {o k : Nat} {x : Int32} {qs : List Nat} (hq : qs[k]? = some 0) : (zfs ad w o 0 qs).set k (.int x) = zfs ad (zsf w o k x) o 0 qs := by
  have := zfs_set (ad := ad) (w := w) (w' := zsf w o k x) (o := o) (k := k) (v := .int x) qs 0 (fun i q hi hn => by
    match q with
    | 0 => simp [zval, zsf]; intro h; omega
    | 1 => rfl
    | q + 2 => rfl) (fun i q hi hn => by
    have : i = k := by omega
    subst this
    rw [hq] at hi
    cases hi
    simp [zval, zsf]) (Nat.zero_le _)
  simpa using this
theorem zfs_setJ {ad : Nat → Nat} {w : zW} {o k : Nat} {x : Int64} {qs : List Nat} (hq : qs[k]? = some 1) : (zfs ad w o 0 qs).set k (.long x) = zfs ad (zsg w o k x) o 0 qs := by
  have := zfs_set (ad := ad) (w := w) (w' := zsg w o k x) (o := o) (k := k) (v := .long x) qs 0 (fun i q hi hn => by
    match q with
    | 0 => rfl
    | 1 => simp [zval, zsg]; intro h; omega
    | q + 2 => rfl) (fun i q hi hn => by
    have : i = k := by omega
    subst this
    rw [hq] at hi
    cases hi
    simp [zval, zsg]) (Nat.zero_le _)
  simpa using this
def zrd (w : zW) (o n : Nat) (i : Int32) : Option Int32 := if i < 0 ∨ n ≤ i.toNatClampNeg then none else some (w.1 o i.toNatClampNeg)
def zrl (w : zW) (o n : Nat) (i : Int32) : Option Int64 := if i < 0 ∨ n ≤ i.toNatClampNeg then none else some (w.2 o i.toNatClampNeg)
def zwr (w : zW) (o n : Nat) (i x : Int32) : Option zW := if i < 0 ∨ n ≤ i.toNatClampNeg then none else some (zsf w o i.toNatClampNeg x)
def zwl (w : zW) (o n : Nat) (i : Int32) (x : Int64) : Option zW := if i < 0 ∨ n ≤ i.toNatClampNeg then none else some (zsg w o i.toNatClampNeg x)
/-- an index of a row of N that nobody writes -/
def zix (n : Nat) (i : Int32) : Option Nat := if i < 0 ∨ n ≤ i.toNatClampNeg then none else some i.toNatClampNeg
def zgb (v : Int32) : Option Int32 := if v = 0 ∨ v = 1 then some v else none
def zdiv (x y : Int32) : Option Int32 := if y = 0 then none else some (x / y)
def zrem (x y : Int32) : Option Int32 := if y = 0 then none else some (x - x / y * y)
def zmin (x y : Int32) : Int32 := if y < x then y else x
def zmax (x y : Int32) : Int32 := if x < y then y else x
def zcpi (w : zW) (o1 n1 : Nat) (sp : Int32) (o2 n2 : Nat) (dp n : Int32) : Option zW :=
  if sp < 0 ∨ dp < 0 ∨ n < 0 ∨ n1 < sp.toNatClampNeg + n.toNatClampNeg ∨ n2 < dp.toNatClampNeg + n.toNatClampNeg then none else some (zcf w o2 (va_cpy (w.1 o1) (w.1 o2) sp.toNatClampNeg dp.toNatClampNeg n.toNatClampNeg))
def zcpl (w : zW) (o1 n1 : Nat) (sp : Int32) (o2 n2 : Nat) (dp n : Int32) : Option zW :=
  if sp < 0 ∨ dp < 0 ∨ n < 0 ∨ n1 < sp.toNatClampNeg + n.toNatClampNeg ∨ n2 < dp.toNatClampNeg + n.toNatClampNeg then none else some (zcg w o2 (va_cpy (w.2 o1) (w.2 o2) sp.toNatClampNeg dp.toNatClampNeg n.toNatClampNeg))
theorem zbind {α β : Type} {x : Option α} {f : α → Option β} {r : β} (h : x.bind f = some r) : ∃ a, x = some a ∧ f a = some r := by
  cases x with
  | none => cases h
  | some a => exact ⟨a, rfl, h⟩
theorem zite_t {α : Type} {c : Prop} [Decidable c] {a b r : α} (hc : c) (h : (if c then a else b) = r) : a = r := by rw [if_pos hc] at h; exact h
theorem zite_f {α : Type} {c : Prop} [Decidable c] {a b r : α} (hc : ¬ c) (h : (if c then a else b) = r) : b = r := by rw [if_neg hc] at h; exact h
section ZROWS2
variable {own : String} {cc : ByteArray} {B : zB} {pc : Nat} {ls : List (Option Value)} {st : List Value} {w : zW}
theorem zs_get {ci i k q o N : Nat} {C : String} {T : u_T} {fk : List Nat} (hc : vwCl[ci]? = some (C, T, N)) (hin : ∀ w ∈ u_ws C T N, w ∈ zT) (hk : k < N) (hl : Cond.fieldLink own i C (T k).2.1 (T k).2.2.1 ∈ zT) (hT : (T k).1 = C) (ha : zAt o (0, ci, fk)) (hq : fk[k]? = some q) (hd : decode cc pc = .ok (.getfield i, 3))
    {v : Value} (hv : zva w o k q = v) (kk : zWP own cc B (pc + 3) ls (v :: st) w) : zWP own cc B pc ls (.ref o :: st) w := by
  intro p l e s m args below meth c D ad c3 H locs la hC hP hS hL
  obtain ⟨j, hj⟩ := ha.ix
  have he := zws_get (ad := ad) (c3 := c3) (w := w) hj
  rw [ha.cell] at he
  refine va_get hC.1 hC.2.1 hC.2.2.2.2.2.2.1 hin hC.2.2.2.2.2.1 hC.2.2.2.2.2.2.2.2.1 hP j he hc k hk (hC.2.2.2.2.2.2.1 _ hl) (fun x h => hT ▸ h) (v := ztr ad v) ?_ hd (kk p l e s m args below meth c D ad c3 H locs la hC hP hS hL)
  rw [zfs_get, hq, ← hv]
  simp only [Option.map_some, Nat.zero_add]
  rw [zval_tr]
theorem zs_putI {ci i k o N : Nat} {C : String} {T : u_T} {fk : List Nat} (hc : vwCl[ci]? = some (C, T, N)) (hin : ∀ w ∈ u_ws C T N, w ∈ zT) (ty0 : Nat → FieldType) (hty : ∀ k, k < N → parseFieldDescriptor (T k).2.2.1 = some (ty0 k)) (hnm : ∀ a, a < N → ∀ b, b < N → a ≠ b → (T a).2.1 ≠ (T b).2.1) (hk : k < N) (hl : Cond.fieldLink own i C (T k).2.1 (T k).2.2.1 ∈ zT) (hT : (T k).1 = C) (hfin : (T k).2.2.2 = false) (ha : zAt o (0, ci, fk)) (hq : fk[k]? = some 0) (hd : decode cc pc = .ok (.putfield i, 3))
    {v : Int32} (hn : narrow (ty0 k) (.int v) = .int v) (hfit : fits (ty0 k) (.int v) = true) (kk : zWP own cc B (pc + 3) ls st (zsf w o k v)) : zWP own cc B pc ls (.int v :: .ref o :: st) w := by
  intro p l e s m args below meth c D ad c3 H locs la hC hP hS hL
  obtain ⟨j, hj⟩ := ha.ix
  have he := zws_get (ad := ad) (c3 := c3) (w := w) hj
  rw [ha.cell] at he
  refine va_put hC.1 hC.2.1 hC.2.2.2.2.2.2.1 hin ty0 hty hnm hC.2.2.2.2.2.1 hC.2.2.2.2.2.2.2.2.1 hP (zD hC.2.2.2.2.2.2.2.1 hC.2.2.2.2.2.2.2.2.2.2.1) hS j he hc k hk (hC.2.2.2.2.2.2.1 _ hl) (fun x h => hT ▸ h) hfin (hty k hk) hn hfit (by rw [zfs_len]; exact (List.getElem?_eq_some_iff.mp hq).1) hd (fun H1 locs1 h1 _ h3 => kk p l e s m args below meth c D ad c3 H1 locs1 la hC ?_ h3 hL)
  have e : (zws ad c3 w).set j (ad o, Sum.inr (ci, (zfs ad w o 0 fk).set k (.int v))) = zws ad c3 (zsf w o k v) := by
    rw [zfs_setI hq]
    have := zws_set (ad := ad) (c3 := c3) (w := w) (w' := zsf w o k v) hj zcell_sf
    rw [ha.cell] at this
    exact this
  exact e ▸ h1
theorem zs_putJ {ci i k o N : Nat} {C : String} {T : u_T} {fk : List Nat} (hc : vwCl[ci]? = some (C, T, N)) (hin : ∀ w ∈ u_ws C T N, w ∈ zT) (ty0 : Nat → FieldType) (hty : ∀ k, k < N → parseFieldDescriptor (T k).2.2.1 = some (ty0 k)) (hnm : ∀ a, a < N → ∀ b, b < N → a ≠ b → (T a).2.1 ≠ (T b).2.1) (hk : k < N) (hl : Cond.fieldLink own i C (T k).2.1 (T k).2.2.1 ∈ zT) (hT : (T k).1 = C) (hfin : (T k).2.2.2 = false) (ha : zAt o (0, ci, fk)) (hq : fk[k]? = some 1) (hd : decode cc pc = .ok (.putfield i, 3))
    {v : Int64} (hn : narrow (ty0 k) (.long v) = .long v) (hfit : fits (ty0 k) (.long v) = true) (kk : zWP own cc B (pc + 3) ls st (zsg w o k v)) : zWP own cc B pc ls (.long v :: .ref o :: st) w := by
  intro p l e s m args below meth c D ad c3 H locs la hC hP hS hL
  obtain ⟨j, hj⟩ := ha.ix
  have he := zws_get (ad := ad) (c3 := c3) (w := w) hj
  rw [ha.cell] at he
  refine va_put hC.1 hC.2.1 hC.2.2.2.2.2.2.1 hin ty0 hty hnm hC.2.2.2.2.2.1 hC.2.2.2.2.2.2.2.2.1 hP (zD hC.2.2.2.2.2.2.2.1 hC.2.2.2.2.2.2.2.2.2.2.1) hS j he hc k hk (hC.2.2.2.2.2.2.1 _ hl) (fun x h => hT ▸ h) hfin (hty k hk) hn hfit (by rw [zfs_len]; exact (List.getElem?_eq_some_iff.mp hq).1) hd (fun H1 locs1 h1 _ h3 => kk p l e s m args below meth c D ad c3 H1 locs1 la hC ?_ h3 hL)
  have e : (zws ad c3 w).set j (ad o, Sum.inr (ci, (zfs ad w o 0 fk).set k (.long v))) = zws ad c3 (zsg w o k v) := by
    rw [zfs_setJ hq]
    have := zws_set (ad := ad) (c3 := c3) (w := w) (w' := zsg w o k v) hj zcell_sg
    rw [ha.cell] at this
    exact this
  exact e ▸ h1
theorem zin {α : Type} {i : Int32} {n : Nat} {a : Option α} {v : α} (h : (if i < 0 ∨ n ≤ i.toNatClampNeg then none else a) = some v) : vp_in i n ∧ a = some v := by
  by_cases hc : i < 0 ∨ n ≤ i.toNatClampNeg
  · rw [if_pos hc] at h; cases h
  · rw [if_neg hc] at h; exact ⟨hc, h⟩
theorem zs_iald {o n : Nat} {i v : Int32} (hd : decode cc pc = .ok (.iaload, 1)) (ha : zAt o (1, n, [])) (h : zrd w o n i = some v) (kk : zWP own cc B (pc + 1) ls (.int v :: st) w) : zWP own cc B pc ls (.int i :: .ref o :: st) w := by
  intro p l e s m args below meth c D ad c3 H locs la hC hP hS hL
  obtain ⟨j, hj⟩ := ha.ix
  have he := zws_get (ad := ad) (c3 := c3) (w := w) hj
  rw [ha.cell] at he
  obtain ⟨h1, h2⟩ := zin h
  cases h2
  exact va_iald hC.1 hC.2.1 hC.2.2.2.2.2.2.2.2.1 hP j 0 he rfl h1 hd (kk p l e s m args below meth c D ad c3 H locs la hC hP hS hL)
theorem zs_lald {o n : Nat} {i : Int32} {v : Int64} (hd : decode cc pc = .ok (.laload, 1)) (ha : zAt o (2, n, [])) (h : zrl w o n i = some v) (kk : zWP own cc B (pc + 1) ls (.long v :: st) w) : zWP own cc B pc ls (.int i :: .ref o :: st) w := by
  intro p l e s m args below meth c D ad c3 H locs la hC hP hS hL
  obtain ⟨j, hj⟩ := ha.ix
  have he := zws_get (ad := ad) (c3 := c3) (w := w) hj
  rw [ha.cell] at he
  obtain ⟨h1, h2⟩ := zin h
  cases h2
  exact va_lald hC.1 hC.2.1 hC.2.2.2.2.2.2.2.2.1 hP j 1 he rfl h1 hd (kk p l e s m args below meth c D ad c3 H locs la hC hP hS hL)
theorem zs_iast {o n : Nat} {i v : Int32} {w' : zW} (hd : decode cc pc = .ok (.iastore, 1)) (ha : zAt o (1, n, [])) (h : zwr w o n i v = some w') (kk : zWP own cc B (pc + 1) ls st w') : zWP own cc B pc ls (.int v :: .int i :: .ref o :: st) w := by
  intro p l e s m args below meth c D ad c3 H locs la hC hP hS hL
  obtain ⟨j, hj⟩ := ha.ix
  have he := zws_get (ad := ad) (c3 := c3) (w := w) hj
  rw [ha.cell] at he
  obtain ⟨h1, h2⟩ := zin h
  cases h2
  refine va_iast hC.1 hC.2.1 hC.2.2.2.2.2.2.2.2.1 hP (zD hC.2.2.2.2.2.2.2.1 hC.2.2.2.2.2.2.2.2.2.2.1) hS j 0 he rfl h1 hd (fun H1 locs1 g1 _ g3 => kk p l e s m args below meth c D ad c3 H1 locs1 la hC ?_ g3 hL)
  have e : (zws ad c3 w).set j (ad o, Sum.inl (c3.1, n, .inl (upd (w.1 o) i.toNatClampNeg v))) = zws ad c3 (zsf w o i.toNatClampNeg v) := by
    have := zws_set (ad := ad) (c3 := c3) (w := w) (w' := zsf w o i.toNatClampNeg v) hj zcell_sf
    rw [ha.cell] at this
    rw [← this]
    have e2 : upd (w.1 o) i.toNatClampNeg v = (zsf w o i.toNatClampNeg v).1 o := by funext b; simp [upd, zsf]
    rw [e2]
    rfl
  exact e ▸ g1
theorem zs_last {o n : Nat} {i : Int32} {v : Int64} {w' : zW} (hd : decode cc pc = .ok (.lastore, 1)) (ha : zAt o (2, n, [])) (h : zwl w o n i v = some w') (kk : zWP own cc B (pc + 1) ls st w') : zWP own cc B pc ls (.long v :: .int i :: .ref o :: st) w := by
  intro p l e s m args below meth c D ad c3 H locs la hC hP hS hL
  obtain ⟨j, hj⟩ := ha.ix
  have he := zws_get (ad := ad) (c3 := c3) (w := w) hj
  rw [ha.cell] at he
  obtain ⟨h1, h2⟩ := zin h
  cases h2
  refine va_last hC.1 hC.2.1 hC.2.2.2.2.2.2.2.2.1 hP (zD hC.2.2.2.2.2.2.2.1 hC.2.2.2.2.2.2.2.2.2.2.1) hS j 1 he rfl h1 hd (fun H1 locs1 g1 _ g3 => kk p l e s m args below meth c D ad c3 H1 locs1 la hC ?_ g3 hL)
  have e : (zws ad c3 w).set j (ad o, Sum.inl (c3.2.1, n, .inr (.inl (vp_updL (w.2 o) i.toNatClampNeg v)))) = zws ad c3 (zsg w o i.toNatClampNeg v) := by
    have := zws_set (ad := ad) (c3 := c3) (w := w) (w' := zsg w o i.toNatClampNeg v) hj zcell_sg
    rw [ha.cell] at this
    rw [← this]
    have e2 : vp_updL (w.2 o) i.toNatClampNeg v = (zsg w o i.toNatClampNeg v).2 o := by funext b; simp [vp_updL, zsg]
    rw [e2]
    rfl
  exact e ▸ g1
theorem zs_aald {i : Int32} {n : Nat} (hd : decode cc pc = .ok (.aaload, 1)) (h : zix 4 i = some n) (kk : zWP own cc B (pc + 1) ls (.ref (50 + 2 * n) :: st) w) : zWP own cc B pc ls (.int i :: .ref 45 :: st) w := by
  intro p l e s m args below meth c D ad c3 H locs la hC hP hS hL
  have ha : zAt 45 (3, 4, [50, 52, 54, 56]) := ⟨by decide +kernel, by decide +kernel⟩
  obtain ⟨j, hj⟩ := ha.ix
  have he := zws_get (ad := ad) (c3 := c3) (w := w) hj
  rw [ha.cell] at he
  obtain ⟨h1, h2⟩ := zin h
  have h3 := kk p l e s m args below meth c D ad c3 H locs la hC hP hS hL
  refine va_aldq hC.1 hC.2.1 hC.2.2.2.2.2.2.2.2.1 hP j 2 he rfl h1 hd ?_
  have h4 : i.toNatClampNeg < 4 := Nat.lt_of_not_le (fun q => h1 (Or.inr q))
  cases h2
  have e : ∀ t : Nat, t < 4 → va_rf (([50, 52, 54, 56][t]?).map ad) = ztr ad (.ref (50 + 2 * t)) := by
    intro t ht
    match t, ht with
    | 0, _ => rfl
    | 1, _ => rfl
    | 2, _ => rfl
    | 3, _ => rfl
  rw [e _ h4]
  exact h3
end ZROWS2
end
section
theorem zT_of {w : Cond} (h : w ∈ tables_1) (hg : goodWord w = true) : w ∈ zT := List.mem_filter.mpr ⟨List.mem_append_right _ h, hg⟩
theorem zT_priv {q : MethodName × Nat} (h : q ∈ lw_privs) : Cond.selects q.1.cls q.1 q.1 ∈ zT := List.mem_filter.mpr ⟨List.mem_append_left _ (List.mem_map.mpr ⟨q, h, rfl⟩), rfl⟩
theorem zgood {w : Cond} (h : w ∈ zT) : (w.onTables && w.keeps) = true ∨ ∃ ty, w = .arrayClass ty := good_of_word (List.mem_filter.mp h).2
/-- what the tables say of a method -/
def zMo (y : MethodName) (cc : ByteArray) (nL : Nat) (ret : Option FieldType) (n : Nat) : Prop :=
  Cond.code y cc nL ret ∈ zT ∧ Cond.initialized y.cls ∈ zT ∧ (y.cls ≠ "java/lang/invoke/MethodHandle" ∧ y.cls ≠ "java/lang/invoke/VarHandle") ∧ (parseMethodDescriptor y.desc).map (fun d => d.parameters.length) = some n ∧ nL ≤ 21
theorem zMo.good {y : MethodName} {cc : ByteArray} {nL n : Nat} {ret : Option FieldType} (h : zMo y cc nL ret n) : GoodIn zT (Cond.code y cc nL ret :: zT) := by
  intro w hw
  rcases List.mem_cons.mp hw with rfl | hw
  · exact ⟨h.1, zgood h.1⟩
  · exact ⟨hw, zgood hw⟩
theorem zblind {D : va_G} {ad : Nat → Nat} {c3 : zC3} {as : List Value} {w : zW} : FrameBlind (zPc D ad c3 as w) := by
  intro a U g mk h
  obtain ⟨h0, h1, h2, h3⟩ := h
  exact ⟨h0, h1, va_K.moved (u := U) (U := U.calling g mk a) (Vm.Alike.refl U.vm) h2, zX.same (u := U) (U := U.calling g mk a) rfl h3⟩
section ZCALL
variable {own : String} {cc : ByteArray} {B : zB} {pc : Nat} {ls : List (Option Value)} {st : List Value} {w : zW}
/-- behind a call -/
theorem zs_back {p : Program} {l : Launch} {e : Env} {s : State} {m : MethodId} {args : Array Value} {below : List Frame} {meth : Method} {c : Code} {D : va_G} {ad : Nat → Nat} {c3 : zC3} {H : Heap} {locs : List Loc} {la : Array Slot} {st0 rest : List Value} {a : Array Value} {Qc : Option Value → zW → Prop}
    (hC : zCx own cc B p s m args meth c D ad c3) (hS : va_S (B.2.2.2.2.1 s ad) s.heap H locs) (hL : zL ad B.1 la ls)
    (hr : va_Run p l e B.2.2.1 s m args below meth c H locs B.2.2.2.1.1 B.2.2.2.1.2 0 0 (F0 m pc la st0) (rest.map (ztr ad)) (zQc D ad c3 Qc a) (zA ad))
    (kk : ∀ (r : Option Value) (w' : zW), Qc r w' → zWP own cc B (pc + 3) ls (r.toList ++ rest) w') : W p l e B.2.2.1 s m args below meth c H locs B.2.2.2.1.1 B.2.2.2.1.2 (B.2.2.2.2.2.2 s args below D ad c3) (F0 m pc la st0) := by
  intro T hT X
  obtain ⟨v, st₀, t, T', L, h0, X', hL', e1, e2, ⟨⟨r, w', hv, hq, hp⟩, hz, hk⟩, stp⟩ := hr T hT X
  cases hv
  rw [h0] at hz hk
  have hsub := hC.2.2.2.2.2.2.2.2.2.2.1
  have hS' : va_S (B.2.2.2.2.1 s ad) s.heap T'.heap (locs ++ L) := ⟨Nat.le_trans hS.1 (by rw [e1]; exact hz), fun q h1 h2 => by rw [e1, hk q (Nat.lt_of_lt_of_le h1 hS.1) (fun z => h2 (hsub q z))]; exact hS.2.1 q h1 h2, fun q hq => by
      rcases List.mem_append.mp hq with h | h
      · exact hS.2.2 q h
      · exact hsub _ (hL' q h)⟩
  have K := kk r w' hq p l e s m args below meth c D ad c3 T'.heap (locs ++ L) la hC (by rw [e1]; exact hp) hS' hL
  obtain ⟨t2, a1, b1⟩ := K T' rfl X'
  refine ⟨t2, stp t2 ?_, b1⟩
  cases r with
  | none => exact a1
  | some r => exact a1
theorem zs_pre {p : Program} {s : State} {m : MethodId} {args : Array Value} {meth : Method} {c : Code} {D : va_G} {ad : Nat → Nat} {c3 : zC3} {H : Heap} {locs : List Loc} {as : List Value} (hC : zCx own cc B p s m args meth c D ad c3) (hP : va_P D vwCl (zws ad c3 w) H) (hS : va_S (B.2.2.2.2.1 s ad) s.heap H locs) : ∀ U : State, U.heap = H → s.WarmedH U.vm → zPc D ad c3 as w (as.map (ztr ad)).toArray U := by
  intro U hU hW
  obtain ⟨hx, hb, hml, hr, hlk, hown, hts, hinj, hK, hX, hsub, hp0⟩ := hC
  exact ⟨rfl, by rw [hU]; exact hP, va_K.moved hW.alike hK, hX.go hW (fun a h1 h2 => by rw [hU]; exact hS.2.1 a h1 h2) hsub⟩
theorem zs_callV {y : MethodName} {cc' : ByteArray} {nL' n d i o ci N : Nat} {ret' : Option FieldType} {as rest : List Value} {Qc : Option Value → zW → Prop} {T : u_T} {fk : List Nat} (hm : zMo y cc' nL' ret' n) (hv : Cond.instanceMethod y ∈ zT ∧ Cond.selects y.cls y y ∈ zT) (hlk : Cond.methodLink own i y ∈ zT) (hci : vwCl[ci]? = some (y.cls, T, N))
    (hd : decode cc pc = .ok (.invokevirtual i, 3)) (ha : zAt o (0, ci, fk)) (hst : st = as.reverse ++ .ref o :: rest) (hn : as.length = n) (hcat : (rest.map fun v => v.category).sum ≤ 8) (hR : d + 1 ≤ B.2.2.1.frames ∧ 40 * d + 40 ≤ B.2.2.1.locals ∧ B.2.2.2.1.1 ≤ B.2.2.1.cells ∧ B.2.2.2.1.2 ≤ B.2.2.1.slots) (hrun : zRun y cc' nL' ret' d (.ref o :: as) w Qc)
    (kk : ∀ (r : Option Value) (w' : zW), Qc r w' → zWP own cc B (pc + 3) ls (r.toList ++ rest) w') : zWP own cc B pc ls st w := by
  intro p l e s m args below meth c D ad c3 H locs la hC hP hS hL
  obtain ⟨hx, hb, hml, hr, hlk', hown, hts, hinj, hK, hX, hsub, hp0⟩ := id hC
  obtain ⟨j, hj⟩ := ha.ix
  have he := zws_get (ad := ad) (c3 := c3) (w := w) hj
  rw [ha.cell] at he
  refine zs_back (Qc := Qc) hC hS hL (va_runV (As := as.map (ztr ad)) (b := ad o) (rest := rest.map (ztr ad)) (n := n) ⟨hx, hb, hml, hown, hts⟩ (hrun l D ad c3 hinj) (C := y.cls) (index := i) ⟨⟨rfl, rfl, hR.1, ?_, pay_in hts hm.good, List.mem_cons_self, hts _ hm.1, hts _ hm.2.1, hm.2.2.1, fun sig h => ?_, hts _ hlk⟩, hts _ hv.1, hts _ hv.2⟩ ⟨zblind, va_recv hK hP hci he, zs_pre (as := .ref o :: as) hC hP hS⟩ rfl (by rw [List.length_map]; exact hn) hL.1 ?_ ?_ hd ⟨hR.2.2.1, hR.2.2.2⟩) kk
  · have := hm.2.2.2.2
    show 8 + (nL' + 11) + 40 * d ≤ _
    have h2 := hR.2.1
    omega
  · have h2 := hm.2.2.2.1
    rw [h] at h2
    exact (Option.some.inj h2).symm
  · show st.map (ztr ad) = _
    rw [hst]
    simp [ztr]
  · refine lv_room ?_
    rw [List.map_map]
    have : ((fun v : Value => v.category) ∘ ztr ad) = fun v : Value => v.category := by funext v; exact ztr_cat ad v
    rw [this]
    exact hcat
theorem zs_callS {y : MethodName} {cc' : ByteArray} {nL' n d i : Nat} {ret' : Option FieldType} {as rest : List Value} {Qc : Option Value → zW → Prop} (hm : zMo y cc' nL' ret' n) (hv : Cond.static y ∈ zT) (hlk : Cond.methodLink own i y ∈ zT)
    (hd : decode cc pc = .ok (.invokestatic i, 3)) (hst : st = as.reverse ++ rest) (hn : as.length = n) (hcat : (rest.map fun v => v.category).sum ≤ 8) (hR : d + 1 ≤ B.2.2.1.frames ∧ 40 * d + 40 ≤ B.2.2.1.locals ∧ B.2.2.2.1.1 ≤ B.2.2.1.cells ∧ B.2.2.2.1.2 ≤ B.2.2.1.slots) (hrun : zRun y cc' nL' ret' d as w Qc)
    (kk : ∀ (r : Option Value) (w' : zW), Qc r w' → zWP own cc B (pc + 3) ls (r.toList ++ rest) w') : zWP own cc B pc ls st w := by
  intro p l e s m args below meth c D ad c3 H locs la hC hP hS hL
  obtain ⟨hx, hb, hml, hr, hlk', hown, hts, hinj, hK, hX, hsub, hp0⟩ := id hC
  refine zs_back (Qc := Qc) hC hS hL (va_runS (As := as.map (ztr ad)) (rest := rest.map (ztr ad)) (n := n) ⟨hx, hb, hml, hown, hts⟩ (hrun l D ad c3 hinj) (index := i) ⟨⟨rfl, rfl, hR.1, ?_, pay_in hts hm.good, List.mem_cons_self, hts _ hm.1, hts _ hm.2.1, hm.2.2.1, fun sig h => ?_, hts _ hlk⟩, hts _ hv⟩ ⟨zblind, zs_pre (as := as) hC hP hS⟩ rfl (by rw [List.length_map]; exact hn) hL.1 ?_ ?_ hd ⟨hR.2.2.1, hR.2.2.2⟩) kk
  · have := hm.2.2.2.2
    show 8 + (nL' + 11) + 40 * d ≤ _
    have h2 := hR.2.1
    omega
  · have h2 := hm.2.2.2.1
    rw [h] at h2
    exact (Option.some.inj h2).symm
  · show st.map (ztr ad) = _
    rw [hst]
    simp
  · refine lv_room ?_
    rw [List.map_map]
    have : ((fun v : Value => v.category) ∘ ztr ad) = fun v : Value => v.category := by funext v; exact ztr_cat ad v
    rw [this]
    exact hcat
/-- a virtual call of a String constant -/
theorem zs_callT {y : MethodName} {cc' : ByteArray} {nL' n d i k : Nat} {ret' : Option FieldType} {as rest : List Value} {Qc : Option Value → zW → Prop} (hm : zMo y cc' nL' ret' n) (hv : Cond.instanceMethod y ∈ zT ∧ Cond.selects y.cls y y ∈ zT) (hlk : Cond.methodLink own i y ∈ zT) (hci : y.cls = "java/lang/String")
    (hd : decode cc pc = .ok (.invokevirtual i, 3)) (hk : k < 13) (hst : st = as.reverse ++ .ref (100 + k) :: rest) (hn : as.length = n) (hcat : (rest.map fun v => v.category).sum ≤ 8) (hR : d + 1 ≤ B.2.2.1.frames ∧ 40 * d + 40 ≤ B.2.2.1.locals ∧ B.2.2.2.1.1 ≤ B.2.2.1.cells ∧ B.2.2.2.1.2 ≤ B.2.2.1.slots) (hrun : zRun y cc' nL' ret' d (.ref (100 + k) :: as) w Qc)
    (kk : ∀ (r : Option Value) (w' : zW), Qc r w' → zWP own cc B (pc + 3) ls (r.toList ++ rest) w') : zWP own cc B pc ls st w := by
  intro p l e s m args below meth c D ad c3 H locs la hC hP hS hL
  obtain ⟨hx, hb, hml, hr, hlk', hown, hts, hinj, hK, hX, hsub, hp0⟩ := id hC
  refine zs_back (Qc := Qc) hC hS hL (va_runV (As := as.map (ztr ad)) (b := ad (100 + k)) (rest := rest.map (ztr ad)) (n := n) ⟨hx, hb, hml, hown, hts⟩ (hrun l D ad c3 hinj) (C := y.cls) (index := i) ⟨⟨rfl, rfl, hR.1, ?_, pay_in hts hm.good, List.mem_cons_self, hts _ hm.1, hts _ hm.2.1, hm.2.2.1, fun sig h => ?_, hts _ hlk⟩, hts _ hv.1, hts _ hv.2⟩ ⟨zblind, by rw [hci]; exact vk_recv (i := k) (adK := fun k => ad (100 + k)) hX.1 hk hS, zs_pre (as := .ref (100 + k) :: as) hC hP hS⟩ rfl (by rw [List.length_map]; exact hn) hL.1 ?_ ?_ hd ⟨hR.2.2.1, hR.2.2.2⟩) kk
  · have := hm.2.2.2.2
    show 8 + (nL' + 11) + 40 * d ≤ _
    have h2 := hR.2.1
    omega
  · have h2 := hm.2.2.2.1
    rw [h] at h2
    exact (Option.some.inj h2).symm
  · show st.map (ztr ad) = _
    rw [hst]
    simp [ztr]
  · refine lv_room ?_
    rw [List.map_map]
    have : ((fun v : Value => v.category) ∘ ztr ad) = fun v : Value => v.category := by funext v; exact ztr_cat ad v
    rw [this]
    exact hcat
end ZCALL
section ZRET
variable {own : String} {cc : ByteArray} {pc nL d : Nat} {ls : List (Option Value)} {w : zW} {Q : Option Value → zW → Prop}
theorem zs_iret {v : Int32} (hd : decode cc pc = .ok (.ireturn, 1)) (hq : Q (some (.int v)) w) : zWP own cc (zMB nL (some .int) d Q) pc ls [.int v] w := by
  intro p l e s m args below meth c D ad c3 H locs la hC hP hS hL
  exact W.iret (v := v) hC.1 hC.2.1 hC.2.2.2.1 (fun t ht hW => ⟨⟨some (.int v), w, rfl, hq, by rw [ht]; exact hP⟩, hS.F ht⟩) hS.2.2 hd hC.2.2.2.2.1
theorem zs_zret {ty : FieldType} {v : Int32} (hd : decode cc pc = .ok (.ireturn, 1)) (hn : narrow ty (.int v) = .int v) (hq : Q (some (.int v)) w) : zWP own cc (zMB nL (some ty) d Q) pc ls [.int v] w := by
  intro p l e s m args below meth c D ad c3 H locs la hC hP hS hL
  exact W.zret (v := v) hC.1 hC.2.1 hC.2.2.2.1 hn (fun t ht hW => ⟨⟨some (.int v), w, rfl, hq, by rw [ht]; exact hP⟩, hS.F ht⟩) hS.2.2 hd hC.2.2.2.2.1
theorem zs_bret {v : Int32} (hd : decode cc pc = .ok (.ireturn, 1)) (hn : v = 0 ∨ v = 1) (hq : Q (some (.int v)) w) : zWP own cc (zMB nL (some .boolean) d Q) pc ls [.int v] w := zs_zret hd (by rcases hn with rfl | rfl <;> rfl) hq
theorem zs_lret {v : Int64} (hd : decode cc pc = .ok (.lreturn, 1)) (hq : Q (some (.long v)) w) : zWP own cc (zMB nL (some .long) d Q) pc ls [.long v] w := by
  intro p l e s m args below meth c D ad c3 H locs la hC hP hS hL
  exact W.lret (v := v) hC.1 hC.2.1 hC.2.2.2.1 (fun t ht hW => ⟨⟨some (.long v), w, rfl, hq, by rw [ht]; exact hP⟩, hS.F ht⟩) hS.2.2 hd hC.2.2.2.2.1
theorem zs_vret (hd : decode cc pc = .ok (.return_, 1)) (hq : Q none w) : zWP own cc (zMB nL none d Q) pc ls [] w := by
  intro p l e s m args below meth c D ad c3 H locs la hC hP hS hL
  exact W.vret hC.1 hC.2.1 hC.2.2.2.1 (fun t ht hW => ⟨⟨none, w, rfl, hq, by rw [ht]; exact hP⟩, hS.F ht⟩) hS.2.2 hd hC.2.2.2.2.1
theorem zs_aret {v : Option Nat} {n : String} (hd : decode cc pc = .ok (.areturn, 1)) (hq : Q (some (va_rf v)) w) : zWP own cc (zMB nL (some (.object n)) d Q) pc ls [va_rf v] w := by
  intro p l e s m args below meth c D ad c3 H locs la hC hP hS hL
  exact W.aret (v := ztr ad (va_rf v)) hC.1 hC.2.1 hC.2.2.2.1 (Or.inl ⟨n, rfl⟩) (by cases v with | none => exact Or.inl rfl | some a => exact Or.inr ⟨_, rfl⟩) (fun t ht hW => ⟨⟨some (va_rf v), w, rfl, hq, by rw [ht]; exact hP⟩, hS.F ht⟩) hS.2.2 hd hC.2.2.2.2.1
end ZRET
/-- the locals at a method's start -/
def zent : List Value → List (Option Value)
  | [] => []
  | v :: vs => if v.category = 2 then some v :: none :: zent vs else some v :: zent vs
theorem zent_in (ad : Nat → Nat) : ∀ (vs : List Value) (b i : Nat) (v : Value), (zent vs)[i]? = some (some v) → (b + i, ztr ad v) ∈ lv_args b (vs.map (ztr ad)) := by
  intro vs
  induction vs with
  | nil => intro b i v h; simp [zent] at h
  | cons x vs ih =>
    intro b i v h
    simp only [List.map_cons, lv_args, ztr_cat]
    unfold zent at h
    by_cases hc : x.category = 2
    · rw [if_pos hc] at h ⊢
      match i with
      | 0 => cases h; exact List.mem_cons_self
      | 1 => cases h
      | i + 2 =>
        have := ih (b + 2) i v (by simpa using h)
        rw [show b + 2 + i = b + (i + 2) by omega] at this
        exact List.mem_cons_of_mem _ this
    · rw [if_neg hc] at h ⊢
      match i with
      | 0 => cases h; exact List.mem_cons_self
      | i + 1 =>
        have := ih (b + 1) i v (by simpa using h)
        rw [show b + 1 + i = b + (i + 1) by omega] at this
        exact List.mem_cons_of_mem _ this
theorem zent_len (ad : Nat → Nat) : ∀ vs : List Value, (lg_sl (vs.map (ztr ad))).length = (zent vs).length := by
  intro vs
  induction vs with
  | nil => rfl
  | cons x vs ih =>
    unfold lg_sl at ih ⊢
    unfold zent
    simp only [List.map_cons, List.flatMap_cons, List.length_append, ztr_cat]
    by_cases hc : x.category = 2
    · rw [if_pos hc, if_pos hc]; simp only [List.length_cons, List.length_nil]; omega
    · rw [if_neg hc, if_neg hc]; simp only [List.length_cons, List.length_nil]; omega
theorem zRun.of {y : MethodName} {cc : ByteArray} {nL d k : Nat} {ret : Option FieldType} {as : List Value} {w : zW} {Q : Option Value → zW → Prop} {own : String} (hy : plainName y.cls = true) (ho : y.cls = own) (hk : (zent as).length + k = nL) (h : zWP own cc (zMB nL ret d Q) 0 (zent as ++ List.replicate k none) [] w) : zRun y cc nL ret d as w Q := by
  intro l D ad c3 hinj
  refine Met.ofW (cc := cc) (maxL := nL) (ret := ret) hy rfl ?_
  intro p e s m args below meth c s₁ B hml hv
  obtain ⟨rfl, hP, hK, hX⟩ := hv
  have hts := atoms_spec (ws := .code y cc nL ret :: zT) B.pre
  have hown : s.vm.findClass own = some m.cls := by rw [← ho]; exact findClass_of_methodNamed B.named
  have hlen : (lg_sl (as.map (ztr ad))).length ≤ nL := by rw [zent_len]; omega
  have hl := lv_entry (as.map (ztr ad)) (n := nL) hlen
  rw [lg_entry_eq]
  refine h p l e s m _ below meth c D ad c3 s.heap [] _ ⟨B.exec, B.bytes, hml, B.returns, B.notSynchronized, hown, fun w hw => hts w (List.mem_cons_of_mem _ hw), hinj, hK, hX, fun _ h => h, trivial⟩ hP va_S.rf ⟨hl.1, hl.2.1, fun i v hi => ?_⟩
  by_cases c1 : i < (zent as).length
  · rw [List.getElem?_append_left c1] at hi
    have := zent_in ad as 0 i v hi
    rw [Nat.zero_add] at this
    exact hl.2.2 _ this
  · rw [List.getElem?_append_right (by omega), List.getElem?_replicate] at hi
    split at hi <;> cases hi
end
section
section ZROWS4
variable {own : String} {cc : ByteArray} {B : zB} {pc : Nat} {ls : List (Option Value)} {st : List Value} {w : zW}
theorem zs_null (hd : decode cc pc = .ok (.aconst_null, 1)) (k : zWP own cc B (pc + 1) ls (.null :: st) w) : zWP own cc B pc ls st w := by
  intro p l e s m args below meth c D ad c3 H locs la hC hP hS hL
  exact lv_null hC.1 hC.2.1 hd (k p l e s m args below meth c D ad c3 H locs la hC hP hS hL)
theorem zcatsum (ad : Nat → Nat) (rest : List Value) : ((rest.map (ztr ad)).map fun v => v.category).sum = (rest.map fun v => v.category).sum := by
  rw [List.map_map]
  have : ((fun v : Value => v.category) ∘ ztr ad) = fun v : Value => v.category := by funext v; exact ztr_cat ad v
  rw [this]
theorem zs_max {i : Nat} {x y : Int32} (hlk : Cond.methodLink own i Lib.Math.max.name ∈ zT) (hst : Cond.static Lib.Math.max.name ∈ zT) (hin : Cond.initialized "java/lang/Math" ∈ zT) (hco : Cond.code Lib.Math.max.name Lib.Math.max.code 2 (some .int) ∈ zT) (hR : 1 ≤ B.2.2.1.frames ∧ 21 ≤ B.2.2.1.locals ∧ B.2.2.2.1.1 ≤ B.2.2.1.cells ∧ B.2.2.2.1.2 ≤ B.2.2.1.slots) (hcat : (st.map fun v => v.category).sum ≤ 8) (hd : decode cc pc = .ok (.invokestatic i, 3))
    (k : zWP own cc B (pc + 3) ls (.int (zmax x y) :: st) w) : zWP own cc B pc ls (.int y :: .int x :: st) w := by
  intro p l e s m args below meth c D ad c3 H locs la hC hP hS hL
  have hts := hC.2.2.2.2.2.2.1
  exact va_mmax hC.1 hC.2.1 (hC.2.2.1.trans hL.1.symm) hC.2.2.2.2.2.1 (hts _ hlk) (hts _ hst) (hts _ hin) (hts _ hco) hR.1 (by have h1 := zcatsum ad st; have h2 := hR.2.1; omega) hR.2.2.1 hR.2.2.2 hd (k p l e s m args below meth c D ad c3 H locs la hC hP hS hL)
theorem zs_min {i : Nat} {x y : Int32} (hlk : Cond.methodLink own i Lib.Math.min.name ∈ zT) (hst : Cond.static Lib.Math.min.name ∈ zT) (hin : Cond.initialized "java/lang/Math" ∈ zT) (hco : Cond.code Lib.Math.min.name Lib.Math.min.code 2 (some .int) ∈ zT) (hR : 1 ≤ B.2.2.1.frames ∧ 21 ≤ B.2.2.1.locals ∧ B.2.2.2.1.1 ≤ B.2.2.1.cells ∧ B.2.2.2.1.2 ≤ B.2.2.1.slots) (hcat : (st.map fun v => v.category).sum ≤ 8) (hd : decode cc pc = .ok (.invokestatic i, 3))
    (k : zWP own cc B (pc + 3) ls (.int (zmin x y) :: st) w) : zWP own cc B pc ls (.int y :: .int x :: st) w := by
  intro p l e s m args below meth c D ad c3 H locs la hC hP hS hL
  have hts := hC.2.2.2.2.2.2.1
  exact va_mmin hC.1 hC.2.1 (hC.2.2.1.trans hL.1.symm) hC.2.2.2.2.2.1 (hts _ hlk) (hts _ hst) (hts _ hin) (hts _ hco) hR.1 (by have h1 := zcatsum ad st; have h2 := hR.2.1; omega) hR.2.2.1 hR.2.2.2 hd (k p l e s m args below meth c D ad c3 H locs la hC hP hS hL)
theorem zcp_in {α : Type} {sp dp n : Int32} {n1 n2 : Nat} {a : Option α} {v : α} (h : (if sp < 0 ∨ dp < 0 ∨ n < 0 ∨ n1 < sp.toNatClampNeg + n.toNatClampNeg ∨ n2 < dp.toNatClampNeg + n.toNatClampNeg then none else a) = some v) : (¬ sp < 0 ∧ ¬ dp < 0 ∧ ¬ n < 0 ∧ sp.toNatClampNeg + n.toNatClampNeg ≤ n1 ∧ dp.toNatClampNeg + n.toNatClampNeg ≤ n2) ∧ a = some v := by
  by_cases hc : sp < 0 ∨ dp < 0 ∨ n < 0 ∨ n1 < sp.toNatClampNeg + n.toNatClampNeg ∨ n2 < dp.toNatClampNeg + n.toNatClampNeg
  · rw [if_pos hc] at h; cases h
  · rw [if_neg hc] at h
    exact ⟨⟨fun q => hc (Or.inl q), fun q => hc (Or.inr (Or.inl q)), fun q => hc (Or.inr (Or.inr (Or.inl q))), Nat.le_of_not_lt fun q => hc (Or.inr (Or.inr (Or.inr (Or.inl q)))), Nat.le_of_not_lt fun q => hc (Or.inr (Or.inr (Or.inr (Or.inr q))))⟩, h⟩
theorem zs_cpi {i o1 o2 n1 n2 : Nat} {sp dp n : Int32} {w' : zW} (hlk : Cond.methodLink own i arraycopyName ∈ zT) (hnat : Cond.native arraycopyName ∈ zT) (hst : Cond.static arraycopyName ∈ zT) (hin : Cond.initialized "java/lang/System" ∈ zT) (hR : 1 ≤ B.2.2.1.frames ∧ 40 ≤ B.2.2.1.locals) (hcat : (st.map fun v => v.category).sum ≤ 8) (hd : decode cc pc = .ok (.invokestatic i, 3)) (ha1 : zAt o1 (1, n1, [])) (ha2 : zAt o2 (1, n2, [])) (h : zcpi w o1 n1 sp o2 n2 dp n = some w')
    (k : zWP own cc B (pc + 3) ls st w') : zWP own cc B pc ls (.int n :: .int dp :: .ref o2 :: .int sp :: .ref o1 :: st) w := by
  intro p l e s m args below meth c D ad c3 H locs la hC hP hS hL
  have hts := hC.2.2.2.2.2.2.1
  obtain ⟨j1, hj1⟩ := ha1.ix
  have he1 := zws_get (ad := ad) (c3 := c3) (w := w) hj1
  rw [ha1.cell] at he1
  obtain ⟨j2, hj2⟩ := ha2.ix
  have he2 := zws_get (ad := ad) (c3 := c3) (w := w) hj2
  rw [ha2.cell] at he2
  obtain ⟨⟨g1, g2, g3, g4, g5⟩, h2⟩ := zcp_in h
  cases h2
  refine va_copyi hC.1 hC.2.1 (hC.2.2.1.trans hL.1.symm) hC.2.2.2.2.2.1 (hts _ hlk) (hts _ hnat) (hts _ hst) (hts _ hin) hC.2.2.2.2.2.2.2.2.1 hP (zD hC.2.2.2.2.2.2.2.1 hC.2.2.2.2.2.2.2.2.2.2.1) hS j1 j2 0 0 he1 he2 rfl rfl rfl g1 g2 g3 g4 g5 (fun _ _ => rfl) hR.1 ?_ hd (fun H1 locs1 q1 _ q3 => k p l e s m args below meth c D ad c3 H1 locs1 la hC ?_ q3 hL)
  · have h1 := zcatsum ad st
    have h2 := hR.2
    have h3 : nativeFrameWords "java/lang/System" "arraycopy" 5 + 11 ≤ 32 := by decide +kernel
    omega
  · have e2 := zws_set (ad := ad) (c3 := c3) (w := w) (w' := zcf w o2 (va_cpy (w.1 o1) (w.1 o2) sp.toNatClampNeg dp.toNatClampNeg n.toNatClampNeg)) hj2 zcell_cf
    rw [ha2.cell] at e2
    have e3 : (zcf w o2 (va_cpy (w.1 o1) (w.1 o2) sp.toNatClampNeg dp.toNatClampNeg n.toNatClampNeg)).1 o2 = va_cpy (w.1 o1) (w.1 o2) sp.toNatClampNeg dp.toNatClampNeg n.toNatClampNeg := by funext b; simp [zcf]
    rw [← e2]
    show va_P D vwCl ((zws ad c3 w).set j2 (ad o2, Sum.inl (c3.1, n2, .inl ((zcf w o2 (va_cpy (w.1 o1) (w.1 o2) sp.toNatClampNeg dp.toNatClampNeg n.toNatClampNeg)).1 o2)))) H1
    rw [e3]
    exact q1
theorem zs_cpl {i o1 o2 n1 n2 : Nat} {sp dp n : Int32} {w' : zW} (hlk : Cond.methodLink own i arraycopyName ∈ zT) (hnat : Cond.native arraycopyName ∈ zT) (hst : Cond.static arraycopyName ∈ zT) (hin : Cond.initialized "java/lang/System" ∈ zT) (hR : 1 ≤ B.2.2.1.frames ∧ 40 ≤ B.2.2.1.locals) (hcat : (st.map fun v => v.category).sum ≤ 8) (hd : decode cc pc = .ok (.invokestatic i, 3)) (ha1 : zAt o1 (2, n1, [])) (ha2 : zAt o2 (2, n2, [])) (h : zcpl w o1 n1 sp o2 n2 dp n = some w')
    (k : zWP own cc B (pc + 3) ls st w') : zWP own cc B pc ls (.int n :: .int dp :: .ref o2 :: .int sp :: .ref o1 :: st) w := by
  intro p l e s m args below meth c D ad c3 H locs la hC hP hS hL
  have hts := hC.2.2.2.2.2.2.1
  obtain ⟨j1, hj1⟩ := ha1.ix
  have he1 := zws_get (ad := ad) (c3 := c3) (w := w) hj1
  rw [ha1.cell] at he1
  obtain ⟨j2, hj2⟩ := ha2.ix
  have he2 := zws_get (ad := ad) (c3 := c3) (w := w) hj2
  rw [ha2.cell] at he2
  obtain ⟨⟨g1, g2, g3, g4, g5⟩, h2⟩ := zcp_in h
  cases h2
  refine va_copyl hC.1 hC.2.1 (hC.2.2.1.trans hL.1.symm) hC.2.2.2.2.2.1 (hts _ hlk) (hts _ hnat) (hts _ hst) (hts _ hin) hC.2.2.2.2.2.2.2.2.1 hP (zD hC.2.2.2.2.2.2.2.1 hC.2.2.2.2.2.2.2.2.2.2.1) hS j1 j2 1 1 he1 he2 rfl rfl rfl g1 g2 g3 g4 g5 (fun _ _ => rfl) hR.1 ?_ hd (fun H1 locs1 q1 _ q3 => k p l e s m args below meth c D ad c3 H1 locs1 la hC ?_ q3 hL)
  · have h1 := zcatsum ad st
    have h2 := hR.2
    have h3 : nativeFrameWords "java/lang/System" "arraycopy" 5 + 11 ≤ 32 := by decide +kernel
    omega
  · have e2 := zws_set (ad := ad) (c3 := c3) (w := w) (w' := zcg w o2 (va_cpy (w.2 o1) (w.2 o2) sp.toNatClampNeg dp.toNatClampNeg n.toNatClampNeg)) hj2 zcell_cg
    rw [ha2.cell] at e2
    have e3 : (zcg w o2 (va_cpy (w.2 o1) (w.2 o2) sp.toNatClampNeg dp.toNatClampNeg n.toNatClampNeg)).2 o2 = va_cpy (w.2 o1) (w.2 o2) sp.toNatClampNeg dp.toNatClampNeg n.toNatClampNeg := by funext b; simp [zcg]
    rw [← e2]
    show va_P D vwCl ((zws ad c3 w).set j2 (ad o2, Sum.inl (c3.2.1, n2, .inr (.inl ((zcg w o2 (va_cpy (w.2 o1) (w.2 o2) sp.toNatClampNeg dp.toNatClampNeg n.toNatClampNeg)).2 o2))))) H1
    rw [e3]
    exact q1
-- statics and String constants
theorem zs_above {i : Nat} (hl : Cond.fieldLink own i "DownhillPost$Post" "ABOVE" "[I" ∈ zT) (hd : decode cc pc = .ok (.getstatic i, 3)) (k : zWP own cc B (pc + 3) ls (.ref 80 :: st) w) : zWP own cc B pc ls st w := by
  intro p l e s m args below meth c D ad c3 H locs la hC hP hS hL
  exact va_gets hC.1 hC.2.1 hC.2.2.2.2.2.2.2.2.2.1.2.2.1 hS hC.2.2.2.2.2.1 (hC.2.2.2.2.2.2.1 _ hl) (fun _ h => h) hd (k p l e s m args below meth c D ad c3 H locs la hC hP hS hL)
def zrdA (i : Int32) : Option Int32 := if i < 0 ∨ 6 ≤ i.toNatClampNeg then none else some (zabove.getD i.toNatClampNeg 0)
theorem zs_aboveLd {i v : Int32} (hd : decode cc pc = .ok (.iaload, 1)) (h : zrdA i = some v) (k : zWP own cc B (pc + 1) ls (.int v :: st) w) : zWP own cc B pc ls (.int i :: .ref 80 :: st) w := by
  intro p l e s m args below meth c D ad c3 H locs la hC hP hS hL
  obtain ⟨h1, h2⟩ := zin h
  cases h2
  exact va_ti hC.1 hC.2.1 hC.2.2.2.2.2.2.2.2.2.1.2.2.2.1 hS h1 rfl hd (k p l e s m args below meth c D ad c3 H locs la hC hP hS hL)
theorem zs_aboveLen (hd : decode cc pc = .ok (.arraylength, 1)) (k : zWP own cc B (pc + 1) ls (.int 6 :: st) w) : zWP own cc B pc ls (.ref 80 :: st) w := by
  intro p l e s m args below meth c D ad c3 H locs la hC hP hS hL
  exact va_tlen hC.1 hC.2.1 hC.2.2.2.2.2.2.2.2.2.1.2.2.2.1 hS rfl hd (k p l e s m args below meth c D ad c3 H locs la hC hP hS hL)
theorem zs_ldcS {i q : Nat} {tx : String} (ho : own = RX1) (hz : zstr[q]? = some (i, tx)) (hd : decode cc pc = .ok (.ldc i, 2)) (k : zWP own cc B (pc + 2) ls (.ref (100 + q) :: st) w) : zWP own cc B pc ls st w := by
  subst ho
  intro p l e s m args below meth c D ad c3 H locs la hC hP hS hL
  exact va_ldcS hC.1 hC.2.1 hC.2.2.2.2.2.1 (hC.2.2.2.2.2.2.2.2.2.1.2.1 _ _ hz) hd (k p l e s m args below meth c D ad c3 H locs la hC hP hS hL)
theorem zs_strVal {i q : Nat} (hl : Cond.fieldLink own i "java/lang/String" "value" "[B" ∈ zT) (hq : q < 13) (hd : decode cc pc = .ok (.getfield i, 3)) (k : zWP own cc B (pc + 3) ls (.ref (200 + q) :: st) w) : zWP own cc B pc ls (.ref (100 + q) :: st) w := by
  intro p l e s m args below meth c D ad c3 H locs la hC hP hS hL
  exact vk_getf hC.1 hC.2.1 (hC.2.2.2.2.2.2.2.2.2.1.1.1 q hq).2.2.1 hS hC.2.2.2.2.2.1 (hC.2.2.2.2.2.2.1 _ hl) (fun _ h => h) hd (k p l e s m args below meth c D ad c3 H locs la hC hP hS hL)
theorem zs_strCoder {i q : Nat} (hl : Cond.fieldLink own i "java/lang/String" "coder" "B" ∈ zT) (hq : q < 13) (hd : decode cc pc = .ok (.getfield i, 3)) (k : zWP own cc B (pc + 3) ls (.int 0 :: st) w) : zWP own cc B pc ls (.ref (100 + q) :: st) w := by
  intro p l e s m args below meth c D ad c3 H locs la hC hP hS hL
  exact vk_getf hC.1 hC.2.1 (hC.2.2.2.2.2.2.2.2.2.1.1.1 q hq).2.1 hS hC.2.2.2.2.2.1 (hC.2.2.2.2.2.2.1 _ hl) (fun _ h => h) hd (k p l e s m args below meth c D ad c3 H locs la hC hP hS hL)
theorem zs_strLen {q : Nat} (hq : q < 13) (hd : decode cc pc = .ok (.arraylength, 1)) (k : zWP own cc B (pc + 1) ls (.int (Int32.ofNat (zlen.getD q 0)) :: st) w) : zWP own cc B pc ls (.ref (200 + q) :: st) w := by
  intro p l e s m args below meth c D ad c3 H locs la hC hP hS hL
  exact va_tlen hC.1 hC.2.1 (hC.2.2.2.2.2.2.2.2.2.1.1.1 q hq).2.2.2 hS rfl hd (k p l e s m args below meth c D ad c3 H locs la hC hP hS hL)
def zrdT (q : Nat) (i : Int32) : Option Int32 := if i < 0 ∨ zlen.getD q 0 ≤ i.toNatClampNeg then none else some ((zbyt.getD q []).getD i.toNatClampNeg 0)
theorem zs_strByte {q : Nat} {i v : Int32} (hq : q < 13) (hd : decode cc pc = .ok (.baload, 1)) (h : zrdT q i = some v) (k : zWP own cc B (pc + 1) ls (.int v :: st) w) : zWP own cc B pc ls (.int i :: .ref (200 + q) :: st) w := by
  intro p l e s m args below meth c D ad c3 H locs la hC hP hS hL
  obtain ⟨h1, h2⟩ := zin h
  cases h2
  exact va_tb hC.1 hC.2.1 (hC.2.2.2.2.2.2.2.2.2.1.1.1 q hq).2.2.2 hS h1 rfl hd (k p l e s m args below meth c D ad c3 H locs la hC hP hS hL)
theorem zs_compact {i : Nat} (hl : Cond.fieldLink own i "java/lang/String" "COMPACT_STRINGS" "Z" ∈ zT) (hd : decode cc pc = .ok (.getstatic i, 3)) (k : zWP own cc B (pc + 3) ls (.int 1 :: st) w) : zWP own cc B pc ls st w := by
  intro p l e s m args below meth c D ad c3 H locs la hC hP hS hL
  exact va_gets hC.1 hC.2.1 hC.2.2.2.2.2.2.2.2.2.1.2.2.2.2.1 hS hC.2.2.2.2.2.1 (hC.2.2.2.2.2.2.1 _ hl) (fun _ h => h) hd (k p l e s m args below meth c D ad c3 H locs la hC hP hS hL)
theorem zs_former {i : Nat} (hl : Cond.fieldLink own i "jdk/internal/util/Preconditions" "SIOOBE_FORMATTER" "Ljava/util/function/BiFunction;" ∈ zT) (hd : decode cc pc = .ok (.getstatic i, 3)) (k : ∀ v : Value, v = .null ∨ v = .ref 85 → zWP own cc B (pc + 3) ls (v :: st) w) : zWP own cc B pc ls st w := by
  intro p l e s m args below meth c D ad c3 H locs la hC hP hS hL
  rcases hC.2.2.2.2.2.2.2.2.2.1.2.2.2.2.2 with hz | hz
  · exact va_gets hC.1 hC.2.1 hz hS hC.2.2.2.2.2.1 (hC.2.2.2.2.2.2.1 _ hl) (fun _ h => h) hd (k .null (Or.inl rfl) p l e s m args below meth c D ad c3 H locs la hC hP hS hL)
  · exact va_gets hC.1 hC.2.1 hz hS hC.2.2.2.2.2.1 (hC.2.2.2.2.2.2.1 _ hl) (fun _ h => h) hd (k (.ref 85) (Or.inr rfl) p l e s m args below meth c D ad c3 H locs la hC hP hS hL)
-- switches
theorem zs_tswIn {dflt lo hi off : Int} {offs : Array Int} {len : Nat} {x : Int32} (v : Int32) (tgt : Nat) (hd : decode cc pc = .ok (.tableswitch dflt lo hi offs, len)) (hx : x = v) (h1 : ¬ v.toInt < lo) (h2 : ¬ hi < v.toInt) (ho : offs[(v.toInt - lo).toNat]? = some off) (ht : (pc : Int) + off = (tgt : Int)) (k : zWP own cc B tgt ls st w) : zWP own cc B pc ls (.int x :: st) w := by
  subst hx
  intro p l e s m args below meth c D ad c3 H locs la hC hP hS hL
  exact lv_tableIn hC.1 hC.2.1 hd h1 h2 ho ht (k p l e s m args below meth c D ad c3 H locs la hC hP hS hL)
theorem zs_tswOut {dflt lo hi : Int} {offs : Array Int} {len : Nat} {x : Int32} (tgt : Nat) (hd : decode cc pc = .ok (.tableswitch dflt lo hi offs, len)) (h : x.toInt < lo ∨ hi < x.toInt) (ht : (pc : Int) + dflt = (tgt : Int)) (k : zWP own cc B tgt ls st w) : zWP own cc B pc ls (.int x :: st) w := by
  intro p l e s m args below meth c D ad c3 H locs la hC hP hS hL
  exact lv_tableOut hC.1 hC.2.1 hd h ht (k p l e s m args below meth c D ad c3 H locs la hC hP hS hL)
theorem zs_lsw {dflt off : Int} {ps : Array (Int × Int)} {len : Nat} {x : Int32} (tgt : Nat) (hd : decode cc pc = .ok (.lookupswitch dflt ps, len)) (hp : (ps.toList.zip (ps.toList.drop 1)).all (fun (a, next) => a.1 < next.1) = true) (ho : Op.lookupswitch.offset ps.toList dflt x.toInt = off) (ht : (pc : Int) + off = (tgt : Int)) (k : zWP own cc B tgt ls st w) : zWP own cc B pc ls (.int x :: st) w := by
  intro p l e s m args below meth c D ad c3 H locs la hC hP hS hL
  exact lv_lookup hC.1 hC.2.1 hd hp ho ht (k p l e s m args below meth c D ad c3 H locs la hC hP hS hL)
end ZROWS4
/-- a number that is none of lo, lo + 1, .. hi lies outside -/
theorem zout {x : Int32} {n : Nat} {lo : Int} (h : ∀ i : Nat, i < n → x ≠ Int32.ofInt (lo + i)) : x.toInt < lo ∨ lo + n - 1 < x.toInt := by
  by_cases h1 : x.toInt < lo
  · exact Or.inl h1
  · by_cases h2 : lo + n - 1 < x.toInt
    · exact Or.inr h2
    · exfalso
      have h3 := h (x.toInt - lo).toNat (by omega)
      apply h3
      have e : lo + ((x.toInt - lo).toNat : Int) = x.toInt := by omega
      rw [e, Int32.ofInt_toInt]
end
