theorem dX7_init_0 : decode cX7_init 0 = .ok (.aload_n 0, 1) := by decide +kernel
theorem dX7_init_1 : decode cX7_init 1 = .ok (.invokespecial 1, 3) := by decide +kernel
theorem dX7_init_4 : decode cX7_init 4 = .ok (.aload_n 0, 1) := by decide +kernel
theorem dX7_init_5 : decode cX7_init 5 = .ok (.sipush 151, 3) := by decide +kernel
theorem dX7_init_8 : decode cX7_init 8 = .ok (.newarray .int, 2) := by decide +kernel
theorem dX7_init_10 : decode cX7_init 10 = .ok (.putfield 7, 3) := by decide +kernel
theorem dX7_init_13 : decode cX7_init 13 = .ok (.aload_n 0, 1) := by decide +kernel
theorem dX7_init_14 : decode cX7_init 14 = .ok (.bipush 7, 2) := by decide +kernel
theorem dX7_init_16 : decode cX7_init 16 = .ok (.newarray .int, 2) := by decide +kernel
theorem dX7_init_18 : decode cX7_init 18 = .ok (.putfield 13, 3) := by decide +kernel
theorem dX7_init_21 : decode cX7_init 21 = .ok (.aload_n 0, 1) := by decide +kernel
theorem dX7_init_22 : decode cX7_init 22 = .ok (.bipush 12, 2) := by decide +kernel
theorem dX7_init_24 : decode cX7_init 24 = .ok (.newarray .int, 2) := by decide +kernel
theorem dX7_init_26 : decode cX7_init 26 = .ok (.putfield 16, 3) := by decide +kernel
theorem dX7_init_29 : decode cX7_init 29 = .ok (.aload_n 0, 1) := by decide +kernel
theorem dX7_init_30 : decode cX7_init 30 = .ok (.sipush 151, 3) := by decide +kernel
theorem dX7_init_33 : decode cX7_init 33 = .ok (.newarray .int, 2) := by decide +kernel
theorem dX7_init_35 : decode cX7_init 35 = .ok (.putfield 19, 3) := by decide +kernel
theorem dX7_init_38 : decode cX7_init 38 = .ok (.aload_n 0, 1) := by decide +kernel
theorem dX7_init_39 : decode cX7_init 39 = .ok (.bipush 120, 2) := by decide +kernel
theorem dX7_init_41 : decode cX7_init 41 = .ok (.newarray .int, 2) := by decide +kernel
theorem dX7_init_43 : decode cX7_init 43 = .ok (.putfield 22, 3) := by decide +kernel
theorem dX7_init_46 : decode cX7_init 46 = .ok (.aload_n 0, 1) := by decide +kernel
theorem dX7_init_47 : decode cX7_init 47 = .ok (.iconst 4, 1) := by decide +kernel
theorem dX7_init_48 : decode cX7_init 48 = .ok (.newarray .int, 2) := by decide +kernel
theorem dX7_init_50 : decode cX7_init 50 = .ok (.putfield 25, 3) := by decide +kernel
theorem dX7_init_53 : decode cX7_init 53 = .ok (.aload_n 0, 1) := by decide +kernel
theorem dX7_init_54 : decode cX7_init 54 = .ok (.iconst 4, 1) := by decide +kernel
theorem dX7_init_55 : decode cX7_init 55 = .ok (.newarray .int, 2) := by decide +kernel
theorem dX7_init_57 : decode cX7_init 57 = .ok (.putfield 28, 3) := by decide +kernel
theorem dX7_init_60 : decode cX7_init 60 = .ok (.aload_n 0, 1) := by decide +kernel
theorem dX7_init_61 : decode cX7_init 61 = .ok (.sipush 160, 3) := by decide +kernel
theorem dX7_init_64 : decode cX7_init 64 = .ok (.newarray .long, 2) := by decide +kernel
theorem dX7_init_66 : decode cX7_init 66 = .ok (.putfield 31, 3) := by decide +kernel
theorem dX7_init_69 : decode cX7_init 69 = .ok (.aload_n 0, 1) := by decide +kernel
theorem dX7_init_70 : decode cX7_init 70 = .ok (.bipush 40, 2) := by decide +kernel
theorem dX7_init_72 : decode cX7_init 72 = .ok (.newarray .long, 2) := by decide +kernel
theorem dX7_init_74 : decode cX7_init 74 = .ok (.putfield 35, 3) := by decide +kernel
theorem dX7_init_77 : decode cX7_init 77 = .ok (.aload_n 0, 1) := by decide +kernel
theorem dX7_init_78 : decode cX7_init 78 = .ok (.sipush 151, 3) := by decide +kernel
theorem dX7_init_81 : decode cX7_init 81 = .ok (.newarray .int, 2) := by decide +kernel
theorem dX7_init_83 : decode cX7_init 83 = .ok (.putfield 38, 3) := by decide +kernel
theorem dX7_init_86 : decode cX7_init 86 = .ok (.aload_n 0, 1) := by decide +kernel
theorem dX7_init_87 : decode cX7_init 87 = .ok (.sipush 151, 3) := by decide +kernel
theorem dX7_init_90 : decode cX7_init 90 = .ok (.newarray .int, 2) := by decide +kernel
theorem dX7_init_92 : decode cX7_init 92 = .ok (.putfield 41, 3) := by decide +kernel
theorem dX7_init_95 : decode cX7_init 95 = .ok (.aload_n 0, 1) := by decide +kernel
theorem dX7_init_96 : decode cX7_init 96 = .ok (.getfield 7, 3) := by decide +kernel
theorem dX7_init_99 : decode cX7_init 99 = .ok (.iconst 3, 1) := by decide +kernel
theorem dX7_init_100 : decode cX7_init 100 = .ok (.bipush 7, 2) := by decide +kernel
theorem dX7_init_102 : decode cX7_init 102 = .ok (.iastore, 1) := by decide +kernel
theorem dX7_init_103 : decode cX7_init 103 = .ok (.return_, 1) := by decide +kernel
theorem dX7_in_0 : decode cX7_in 0 = .ok (.iload_n 0, 1) := by decide +kernel
theorem dX7_in_1 : decode cX7_in 1 = .ok (.iload_n 1, 1) := by decide +kernel
theorem dX7_in_2 : decode cX7_in 2 = .ok (.if_icmp .lt 12, 3) := by decide +kernel
theorem dX7_in_5 : decode cX7_in 5 = .ok (.iload_n 0, 1) := by decide +kernel
theorem dX7_in_6 : decode cX7_in 6 = .ok (.iload_n 2, 1) := by decide +kernel
theorem dX7_in_7 : decode cX7_in 7 = .ok (.if_icmp .gt 7, 3) := by decide +kernel
theorem dX7_in_10 : decode cX7_in 10 = .ok (.iconst 1, 1) := by decide +kernel
theorem dX7_in_11 : decode cX7_in 11 = .ok (.goto 4, 3) := by decide +kernel
theorem dX7_in_14 : decode cX7_in 14 = .ok (.iconst 0, 1) := by decide +kernel
theorem dX7_in_15 : decode cX7_in 15 = .ok (.ireturn, 1) := by decide +kernel
theorem dX7_finds_0 : decode cX7_finds 0 = .ok (.aload_n 0, 1) := by decide +kernel
theorem dX7_finds_1 : decode cX7_finds 1 = .ok (.getfield 13, 3) := by decide +kernel
theorem dX7_finds_4 : decode cX7_finds 4 = .ok (.ldc 44, 2) := by decide +kernel
theorem dX7_finds_6 : decode cX7_finds 6 = .ok (.iload_n 1, 1) := by decide +kernel
theorem dX7_finds_7 : decode cX7_finds 7 = .ok (.isub, 1) := by decide +kernel
theorem dX7_finds_8 : decode cX7_finds 8 = .ok (.dup2, 1) := by decide +kernel
theorem dX7_finds_9 : decode cX7_finds 9 = .ok (.iaload, 1) := by decide +kernel
theorem dX7_finds_10 : decode cX7_finds 10 = .ok (.iconst 1, 1) := by decide +kernel
theorem dX7_finds_11 : decode cX7_finds 11 = .ok (.iadd, 1) := by decide +kernel
theorem dX7_finds_12 : decode cX7_finds 12 = .ok (.iastore, 1) := by decide +kernel
theorem dX7_finds_13 : decode cX7_finds 13 = .ok (.iload_n 1, 1) := by decide +kernel
theorem dX7_finds_14 : decode cX7_finds 14 = .ok (.ireturn, 1) := by decide +kernel
theorem dX7_isVillage_0 : decode cX7_isVillage 0 = .ok (.iload_n 1, 1) := by decide +kernel
theorem dX7_isVillage_1 : decode cX7_isVillage 1 = .ok (.iconst 0, 1) := by decide +kernel
theorem dX7_isVillage_2 : decode cX7_isVillage 2 = .ok (.aload_n 0, 1) := by decide +kernel
theorem dX7_isVillage_3 : decode cX7_isVillage 3 = .ok (.getfield 7, 3) := by decide +kernel
theorem dX7_isVillage_6 : decode cX7_isVillage 6 = .ok (.iconst 0, 1) := by decide +kernel
theorem dX7_isVillage_7 : decode cX7_isVillage 7 = .ok (.iaload, 1) := by decide +kernel
theorem dX7_isVillage_8 : decode cX7_isVillage 8 = .ok (.iconst 1, 1) := by decide +kernel
theorem dX7_isVillage_9 : decode cX7_isVillage 9 = .ok (.isub, 1) := by decide +kernel
theorem dX7_isVillage_10 : decode cX7_isVillage 10 = .ok (.invokestatic 45, 3) := by decide +kernel
theorem dX7_isVillage_13 : decode cX7_isVillage 13 = .ok (.ireturn, 1) := by decide +kernel
theorem dX7_isRoad_0 : decode cX7_isRoad 0 = .ok (.iload_n 1, 1) := by decide +kernel
theorem dX7_isRoad_1 : decode cX7_isRoad 1 = .ok (.iconst 0, 1) := by decide +kernel
theorem dX7_isRoad_2 : decode cX7_isRoad 2 = .ok (.aload_n 0, 1) := by decide +kernel
theorem dX7_isRoad_3 : decode cX7_isRoad 3 = .ok (.getfield 7, 3) := by decide +kernel
theorem dX7_isRoad_6 : decode cX7_isRoad 6 = .ok (.iconst 1, 1) := by decide +kernel
theorem dX7_isRoad_7 : decode cX7_isRoad 7 = .ok (.iaload, 1) := by decide +kernel
theorem dX7_isRoad_8 : decode cX7_isRoad 8 = .ok (.iconst 1, 1) := by decide +kernel
theorem dX7_isRoad_9 : decode cX7_isRoad 9 = .ok (.isub, 1) := by decide +kernel
theorem dX7_isRoad_10 : decode cX7_isRoad 10 = .ok (.invokestatic 45, 3) := by decide +kernel
theorem dX7_isRoad_13 : decode cX7_isRoad 13 = .ok (.ireturn, 1) := by decide +kernel
theorem dX7_isPost_0 : decode cX7_isPost 0 = .ok (.iload_n 1, 1) := by decide +kernel
theorem dX7_isPost_1 : decode cX7_isPost 1 = .ok (.iconst 0, 1) := by decide +kernel
theorem dX7_isPost_2 : decode cX7_isPost 2 = .ok (.aload_n 0, 1) := by decide +kernel
theorem dX7_isPost_3 : decode cX7_isPost 3 = .ok (.getfield 7, 3) := by decide +kernel
theorem dX7_isPost_6 : decode cX7_isPost 6 = .ok (.iconst 2, 1) := by decide +kernel
theorem dX7_isPost_7 : decode cX7_isPost 7 = .ok (.iaload, 1) := by decide +kernel
theorem dX7_isPost_8 : decode cX7_isPost 8 = .ok (.iconst 1, 1) := by decide +kernel
theorem dX7_isPost_9 : decode cX7_isPost 9 = .ok (.isub, 1) := by decide +kernel
theorem dX7_isPost_10 : decode cX7_isPost 10 = .ok (.invokestatic 45, 3) := by decide +kernel
theorem dX7_isPost_13 : decode cX7_isPost 13 = .ok (.ireturn, 1) := by decide +kernel
theorem dX7_isKind_0 : decode cX7_isKind 0 = .ok (.iload_n 0, 1) := by decide +kernel
theorem dX7_isKind_1 : decode cX7_isKind 1 = .ok (.iconst 0, 1) := by decide +kernel
theorem dX7_isKind_2 : decode cX7_isKind 2 = .ok (.iconst 5, 1) := by decide +kernel
theorem dX7_isKind_3 : decode cX7_isKind 3 = .ok (.invokestatic 45, 3) := by decide +kernel
theorem dX7_isKind_6 : decode cX7_isKind 6 = .ok (.ireturn, 1) := by decide +kernel
theorem dX7_has_0 : decode cX7_has 0 = .ok (.iload_n 0, 1) := by decide +kernel
theorem dX7_has_1 : decode cX7_has 1 = .ok (.iload_n 1, 1) := by decide +kernel
theorem dX7_has_2 : decode cX7_has 2 = .ok (.ishr, 1) := by decide +kernel
theorem dX7_has_3 : decode cX7_has 3 = .ok (.iconst 1, 1) := by decide +kernel
theorem dX7_has_4 : decode cX7_has 4 = .ok (.iand, 1) := by decide +kernel
theorem dX7_has_5 : decode cX7_has 5 = .ok (.iconst 1, 1) := by decide +kernel
theorem dX7_has_6 : decode cX7_has 6 = .ok (.if_icmp .ne 7, 3) := by decide +kernel
theorem dX7_has_9 : decode cX7_has 9 = .ok (.iconst 1, 1) := by decide +kernel
theorem dX7_has_10 : decode cX7_has 10 = .ok (.goto 4, 3) := by decide +kernel
theorem dX7_has_13 : decode cX7_has 13 = .ok (.iconst 0, 1) := by decide +kernel
theorem dX7_has_14 : decode cX7_has 14 = .ok (.ireturn, 1) := by decide +kernel
theorem dX7_ones_0 : decode cX7_ones 0 = .ok (.iconst 0, 1) := by decide +kernel
theorem dX7_ones_1 : decode cX7_ones 1 = .ok (.istore_n 1, 1) := by decide +kernel
theorem dX7_ones_2 : decode cX7_ones 2 = .ok (.iload_n 0, 1) := by decide +kernel
theorem dX7_ones_3 : decode cX7_ones 3 = .ok (.istore_n 2, 1) := by decide +kernel
theorem dX7_ones_4 : decode cX7_ones 4 = .ok (.iload_n 2, 1) := by decide +kernel
theorem dX7_ones_5 : decode cX7_ones 5 = .ok (.ifCond .eq 15, 3) := by decide +kernel
theorem dX7_ones_8 : decode cX7_ones 8 = .ok (.iinc 1 1, 3) := by decide +kernel
theorem dX7_ones_11 : decode cX7_ones 11 = .ok (.iload_n 2, 1) := by decide +kernel
theorem dX7_ones_12 : decode cX7_ones 12 = .ok (.iload_n 2, 1) := by decide +kernel
theorem dX7_ones_13 : decode cX7_ones 13 = .ok (.iconst 1, 1) := by decide +kernel
theorem dX7_ones_14 : decode cX7_ones 14 = .ok (.isub, 1) := by decide +kernel
theorem dX7_ones_15 : decode cX7_ones 15 = .ok (.iand, 1) := by decide +kernel
theorem dX7_ones_16 : decode cX7_ones 16 = .ok (.istore_n 2, 1) := by decide +kernel
theorem dX7_ones_17 : decode cX7_ones 17 = .ok (.goto (-13), 3) := by decide +kernel
theorem dX7_ones_20 : decode cX7_ones 20 = .ok (.iload_n 1, 1) := by decide +kernel
theorem dX7_ones_21 : decode cX7_ones 21 = .ok (.ireturn, 1) := by decide +kernel
theorem dX7_height_0 : decode cX7_height 0 = .ok (.aload_n 0, 1) := by decide +kernel
theorem dX7_height_1 : decode cX7_height 1 = .ok (.getfield 7, 3) := by decide +kernel
theorem dX7_height_4 : decode cX7_height 4 = .ok (.iconst 5, 1) := by decide +kernel
theorem dX7_height_5 : decode cX7_height 5 = .ok (.iconst 2, 1) := by decide +kernel
theorem dX7_height_6 : decode cX7_height 6 = .ok (.iload_n 1, 1) := by decide +kernel
theorem dX7_height_7 : decode cX7_height 7 = .ok (.imul, 1) := by decide +kernel
theorem dX7_height_8 : decode cX7_height 8 = .ok (.iadd, 1) := by decide +kernel
theorem dX7_height_9 : decode cX7_height 9 = .ok (.iaload, 1) := by decide +kernel
theorem dX7_height_10 : decode cX7_height 10 = .ok (.ireturn, 1) := by decide +kernel
theorem dX7_isHermits_0 : decode cX7_isHermits 0 = .ok (.aload_n 0, 1) := by decide +kernel
theorem dX7_isHermits_1 : decode cX7_isHermits 1 = .ok (.getfield 7, 3) := by decide +kernel
theorem dX7_isHermits_4 : decode cX7_isHermits 4 = .ok (.iconst 5, 1) := by decide +kernel
theorem dX7_isHermits_5 : decode cX7_isHermits 5 = .ok (.iconst 2, 1) := by decide +kernel
theorem dX7_isHermits_6 : decode cX7_isHermits 6 = .ok (.iload_n 1, 1) := by decide +kernel
theorem dX7_isHermits_7 : decode cX7_isHermits 7 = .ok (.imul, 1) := by decide +kernel
theorem dX7_isHermits_8 : decode cX7_isHermits 8 = .ok (.iadd, 1) := by decide +kernel
theorem dX7_isHermits_9 : decode cX7_isHermits 9 = .ok (.iconst 1, 1) := by decide +kernel
theorem dX7_isHermits_10 : decode cX7_isHermits 10 = .ok (.iadd, 1) := by decide +kernel
theorem dX7_isHermits_11 : decode cX7_isHermits 11 = .ok (.iaload, 1) := by decide +kernel
theorem dX7_isHermits_12 : decode cX7_isHermits 12 = .ok (.iconst 1, 1) := by decide +kernel
theorem dX7_isHermits_13 : decode cX7_isHermits 13 = .ok (.if_icmp .ne 7, 3) := by decide +kernel
theorem dX7_isHermits_16 : decode cX7_isHermits 16 = .ok (.iconst 1, 1) := by decide +kernel
theorem dX7_isHermits_17 : decode cX7_isHermits 17 = .ok (.goto 4, 3) := by decide +kernel
theorem dX7_isHermits_20 : decode cX7_isHermits 20 = .ok (.iconst 0, 1) := by decide +kernel
theorem dX7_isHermits_21 : decode cX7_isHermits 21 = .ok (.ireturn, 1) := by decide +kernel
theorem dX7_end_0 : decode cX7_end 0 = .ok (.aload_n 0, 1) := by decide +kernel
theorem dX7_end_1 : decode cX7_end 1 = .ok (.getfield 7, 3) := by decide +kernel
theorem dX7_end_4 : decode cX7_end 4 = .ok (.bipush 29, 2) := by decide +kernel
theorem dX7_end_6 : decode cX7_end 6 = .ok (.iconst 3, 1) := by decide +kernel
theorem dX7_end_7 : decode cX7_end 7 = .ok (.iload_n 1, 1) := by decide +kernel
theorem dX7_end_8 : decode cX7_end 8 = .ok (.imul, 1) := by decide +kernel
theorem dX7_end_9 : decode cX7_end 9 = .ok (.iadd, 1) := by decide +kernel
theorem dX7_end_10 : decode cX7_end 10 = .ok (.iload_n 2, 1) := by decide +kernel
theorem dX7_end_11 : decode cX7_end 11 = .ok (.iadd, 1) := by decide +kernel
theorem dX7_end_12 : decode cX7_end 12 = .ok (.iaload, 1) := by decide +kernel
theorem dX7_end_13 : decode cX7_end 13 = .ok (.ireturn, 1) := by decide +kernel
theorem dX7_its_0 : decode cX7_its 0 = .ok (.aload_n 0, 1) := by decide +kernel
theorem dX7_its_1 : decode cX7_its 1 = .ok (.getfield 7, 3) := by decide +kernel
theorem dX7_its_4 : decode cX7_its 4 = .ok (.bipush 101, 2) := by decide +kernel
theorem dX7_its_6 : decode cX7_its 6 = .ok (.iconst 5, 1) := by decide +kernel
theorem dX7_its_7 : decode cX7_its 7 = .ok (.iload_n 1, 1) := by decide +kernel
theorem dX7_its_8 : decode cX7_its 8 = .ok (.imul, 1) := by decide +kernel
theorem dX7_its_9 : decode cX7_its 9 = .ok (.iadd, 1) := by decide +kernel
theorem dX7_its_10 : decode cX7_its 10 = .ok (.iload_n 2, 1) := by decide +kernel
theorem dX7_its_11 : decode cX7_its 11 = .ok (.iadd, 1) := by decide +kernel
theorem dX7_its_12 : decode cX7_its 12 = .ok (.iaload, 1) := by decide +kernel
theorem dX7_its_13 : decode cX7_its 13 = .ok (.ireturn, 1) := by decide +kernel
theorem dX7_sets_0 : decode cX7_sets 0 = .ok (.aload_n 0, 1) := by decide +kernel
theorem dX7_sets_1 : decode cX7_sets 1 = .ok (.getfield 7, 3) := by decide +kernel
theorem dX7_sets_4 : decode cX7_sets 4 = .ok (.bipush 101, 2) := by decide +kernel
theorem dX7_sets_6 : decode cX7_sets 6 = .ok (.iconst 5, 1) := by decide +kernel
theorem dX7_sets_7 : decode cX7_sets 7 = .ok (.iload_n 1, 1) := by decide +kernel
theorem dX7_sets_8 : decode cX7_sets 8 = .ok (.imul, 1) := by decide +kernel
theorem dX7_sets_9 : decode cX7_sets 9 = .ok (.iadd, 1) := by decide +kernel
theorem dX7_sets_10 : decode cX7_sets 10 = .ok (.iload_n 2, 1) := by decide +kernel
theorem dX7_sets_11 : decode cX7_sets 11 = .ok (.iadd, 1) := by decide +kernel
theorem dX7_sets_12 : decode cX7_sets 12 = .ok (.iload_n 3, 1) := by decide +kernel
theorem dX7_sets_13 : decode cX7_sets 13 = .ok (.iastore, 1) := by decide +kernel
theorem dX7_sets_14 : decode cX7_sets 14 = .ok (.return_, 1) := by decide +kernel
theorem dX7_addVillage_0 : decode cX7_addVillage 0 = .ok (.aload_n 0, 1) := by decide +kernel
theorem dX7_addVillage_1 : decode cX7_addVillage 1 = .ok (.getfield 7, 3) := by decide +kernel
theorem dX7_addVillage_4 : decode cX7_addVillage 4 = .ok (.iconst 0, 1) := by decide +kernel
theorem dX7_addVillage_5 : decode cX7_addVillage 5 = .ok (.iaload, 1) := by decide +kernel
theorem dX7_addVillage_6 : decode cX7_addVillage 6 = .ok (.istore_n 3, 1) := by decide +kernel
theorem dX7_addVillage_7 : decode cX7_addVillage 7 = .ok (.aload_n 0, 1) := by decide +kernel
theorem dX7_addVillage_8 : decode cX7_addVillage 8 = .ok (.getfield 7, 3) := by decide +kernel
theorem dX7_addVillage_11 : decode cX7_addVillage 11 = .ok (.iconst 5, 1) := by decide +kernel
theorem dX7_addVillage_12 : decode cX7_addVillage 12 = .ok (.iconst 2, 1) := by decide +kernel
theorem dX7_addVillage_13 : decode cX7_addVillage 13 = .ok (.iload_n 3, 1) := by decide +kernel
theorem dX7_addVillage_14 : decode cX7_addVillage 14 = .ok (.imul, 1) := by decide +kernel
theorem dX7_addVillage_15 : decode cX7_addVillage 15 = .ok (.iadd, 1) := by decide +kernel
theorem dX7_addVillage_16 : decode cX7_addVillage 16 = .ok (.iload_n 1, 1) := by decide +kernel
theorem dX7_addVillage_17 : decode cX7_addVillage 17 = .ok (.iastore, 1) := by decide +kernel
theorem dX7_addVillage_18 : decode cX7_addVillage 18 = .ok (.aload_n 0, 1) := by decide +kernel
theorem dX7_addVillage_19 : decode cX7_addVillage 19 = .ok (.getfield 7, 3) := by decide +kernel
theorem dX7_addVillage_22 : decode cX7_addVillage 22 = .ok (.iconst 5, 1) := by decide +kernel
theorem dX7_addVillage_23 : decode cX7_addVillage 23 = .ok (.iconst 2, 1) := by decide +kernel
theorem dX7_addVillage_24 : decode cX7_addVillage 24 = .ok (.iload_n 3, 1) := by decide +kernel
theorem dX7_addVillage_25 : decode cX7_addVillage 25 = .ok (.imul, 1) := by decide +kernel
theorem dX7_addVillage_26 : decode cX7_addVillage 26 = .ok (.iadd, 1) := by decide +kernel
theorem dX7_addVillage_27 : decode cX7_addVillage 27 = .ok (.iconst 1, 1) := by decide +kernel
theorem dX7_addVillage_28 : decode cX7_addVillage 28 = .ok (.iadd, 1) := by decide +kernel
theorem dX7_addVillage_29 : decode cX7_addVillage 29 = .ok (.iload_n 2, 1) := by decide +kernel
theorem dX7_addVillage_30 : decode cX7_addVillage 30 = .ok (.ifCond .eq 7, 3) := by decide +kernel
theorem dX7_addVillage_33 : decode cX7_addVillage 33 = .ok (.iconst 1, 1) := by decide +kernel
theorem dX7_addVillage_34 : decode cX7_addVillage 34 = .ok (.goto 4, 3) := by decide +kernel
theorem dX7_addVillage_37 : decode cX7_addVillage 37 = .ok (.iconst 0, 1) := by decide +kernel
theorem dX7_addVillage_38 : decode cX7_addVillage 38 = .ok (.iastore, 1) := by decide +kernel
theorem dX7_addVillage_39 : decode cX7_addVillage 39 = .ok (.aload_n 0, 1) := by decide +kernel
theorem dX7_addVillage_40 : decode cX7_addVillage 40 = .ok (.getfield 7, 3) := by decide +kernel
theorem dX7_addVillage_43 : decode cX7_addVillage 43 = .ok (.iconst 0, 1) := by decide +kernel
theorem dX7_addVillage_44 : decode cX7_addVillage 44 = .ok (.dup2, 1) := by decide +kernel
theorem dX7_addVillage_45 : decode cX7_addVillage 45 = .ok (.iaload, 1) := by decide +kernel
theorem dX7_addVillage_46 : decode cX7_addVillage 46 = .ok (.iconst 1, 1) := by decide +kernel
theorem dX7_addVillage_47 : decode cX7_addVillage 47 = .ok (.iadd, 1) := by decide +kernel
theorem dX7_addVillage_48 : decode cX7_addVillage 48 = .ok (.iastore, 1) := by decide +kernel
theorem dX7_addVillage_49 : decode cX7_addVillage 49 = .ok (.return_, 1) := by decide +kernel
theorem dX7_village_0 : decode cX7_village 0 = .ok (.iload_n 1, 1) := by decide +kernel
theorem dX7_village_1 : decode cX7_village 1 = .ok (.iconst 0, 1) := by decide +kernel
theorem dX7_village_2 : decode cX7_village 2 = .ok (.sipush 9999, 3) := by decide +kernel
theorem dX7_village_5 : decode cX7_village 5 = .ok (.invokestatic 45, 3) := by decide +kernel
theorem dX7_village_8 : decode cX7_village 8 = .ok (.ifCond .ne 10, 3) := by decide +kernel
theorem dX7_village_11 : decode cX7_village 11 = .ok (.aload_n 0, 1) := by decide +kernel
theorem dX7_village_12 : decode cX7_village 12 = .ok (.ldc 44, 2) := by decide +kernel
theorem dX7_village_14 : decode cX7_village 14 = .ok (.invokevirtual 49, 3) := by decide +kernel
theorem dX7_village_17 : decode cX7_village 17 = .ok (.ireturn, 1) := by decide +kernel
theorem dX7_village_18 : decode cX7_village 18 = .ok (.aload_n 0, 1) := by decide +kernel
theorem dX7_village_19 : decode cX7_village 19 = .ok (.getfield 7, 3) := by decide +kernel
theorem dX7_village_22 : decode cX7_village 22 = .ok (.iconst 0, 1) := by decide +kernel
theorem dX7_village_23 : decode cX7_village 23 = .ok (.iaload, 1) := by decide +kernel
theorem dX7_village_24 : decode cX7_village 24 = .ok (.bipush 12, 2) := by decide +kernel
theorem dX7_village_26 : decode cX7_village 26 = .ok (.if_icmp .ne 10, 3) := by decide +kernel
theorem dX7_village_29 : decode cX7_village 29 = .ok (.aload_n 0, 1) := by decide +kernel
theorem dX7_village_30 : decode cX7_village 30 = .ok (.ldc 53, 2) := by decide +kernel
theorem dX7_village_32 : decode cX7_village 32 = .ok (.invokevirtual 49, 3) := by decide +kernel
theorem dX7_village_35 : decode cX7_village 35 = .ok (.ireturn, 1) := by decide +kernel
theorem dX7_village_36 : decode cX7_village 36 = .ok (.aload_n 0, 1) := by decide +kernel
theorem dX7_village_37 : decode cX7_village 37 = .ok (.iload_n 1, 1) := by decide +kernel
theorem dX7_village_38 : decode cX7_village 38 = .ok (.iconst 0, 1) := by decide +kernel
theorem dX7_village_39 : decode cX7_village 39 = .ok (.invokevirtual 54, 3) := by decide +kernel
theorem dX7_village_42 : decode cX7_village 42 = .ok (.aload_n 0, 1) := by decide +kernel
theorem dX7_village_43 : decode cX7_village 43 = .ok (.getfield 7, 3) := by decide +kernel
theorem dX7_village_46 : decode cX7_village 46 = .ok (.iconst 0, 1) := by decide +kernel
theorem dX7_village_47 : decode cX7_village 47 = .ok (.iaload, 1) := by decide +kernel
theorem dX7_village_48 : decode cX7_village 48 = .ok (.iconst 1, 1) := by decide +kernel
theorem dX7_village_49 : decode cX7_village 49 = .ok (.isub, 1) := by decide +kernel
theorem dX7_village_50 : decode cX7_village 50 = .ok (.ireturn, 1) := by decide +kernel
theorem dX7_roadsAt_0 : decode cX7_roadsAt 0 = .ok (.iconst 0, 1) := by decide +kernel
theorem dX7_roadsAt_1 : decode cX7_roadsAt 1 = .ok (.istore_n 2, 1) := by decide +kernel
theorem dX7_roadsAt_2 : decode cX7_roadsAt 2 = .ok (.iconst 0, 1) := by decide +kernel
theorem dX7_roadsAt_3 : decode cX7_roadsAt 3 = .ok (.istore_n 3, 1) := by decide +kernel
theorem dX7_roadsAt_4 : decode cX7_roadsAt 4 = .ok (.iload_n 3, 1) := by decide +kernel
theorem dX7_roadsAt_5 : decode cX7_roadsAt 5 = .ok (.aload_n 0, 1) := by decide +kernel
theorem dX7_roadsAt_6 : decode cX7_roadsAt 6 = .ok (.getfield 7, 3) := by decide +kernel
theorem dX7_roadsAt_9 : decode cX7_roadsAt 9 = .ok (.iconst 1, 1) := by decide +kernel
theorem dX7_roadsAt_10 : decode cX7_roadsAt 10 = .ok (.iaload, 1) := by decide +kernel
theorem dX7_roadsAt_11 : decode cX7_roadsAt 11 = .ok (.if_icmp .ge 37, 3) := by decide +kernel
theorem dX7_roadsAt_14 : decode cX7_roadsAt 14 = .ok (.iload_n 2, 1) := by decide +kernel
theorem dX7_roadsAt_15 : decode cX7_roadsAt 15 = .ok (.aload_n 0, 1) := by decide +kernel
theorem dX7_roadsAt_16 : decode cX7_roadsAt 16 = .ok (.iload_n 3, 1) := by decide +kernel
theorem dX7_roadsAt_17 : decode cX7_roadsAt 17 = .ok (.iconst 0, 1) := by decide +kernel
theorem dX7_roadsAt_18 : decode cX7_roadsAt 18 = .ok (.invokevirtual 58, 3) := by decide +kernel
theorem dX7_roadsAt_21 : decode cX7_roadsAt 21 = .ok (.iload_n 1, 1) := by decide +kernel
theorem dX7_roadsAt_22 : decode cX7_roadsAt 22 = .ok (.if_icmp .eq 13, 3) := by decide +kernel
theorem dX7_roadsAt_25 : decode cX7_roadsAt 25 = .ok (.aload_n 0, 1) := by decide +kernel
theorem dX7_roadsAt_26 : decode cX7_roadsAt 26 = .ok (.iload_n 3, 1) := by decide +kernel
theorem dX7_roadsAt_27 : decode cX7_roadsAt 27 = .ok (.iconst 1, 1) := by decide +kernel
theorem dX7_roadsAt_28 : decode cX7_roadsAt 28 = .ok (.invokevirtual 58, 3) := by decide +kernel
theorem dX7_roadsAt_31 : decode cX7_roadsAt 31 = .ok (.iload_n 1, 1) := by decide +kernel
theorem dX7_roadsAt_32 : decode cX7_roadsAt 32 = .ok (.if_icmp .ne 7, 3) := by decide +kernel
theorem dX7_roadsAt_35 : decode cX7_roadsAt 35 = .ok (.iconst 1, 1) := by decide +kernel
theorem dX7_roadsAt_36 : decode cX7_roadsAt 36 = .ok (.goto 4, 3) := by decide +kernel
theorem dX7_roadsAt_39 : decode cX7_roadsAt 39 = .ok (.iconst 0, 1) := by decide +kernel
theorem dX7_roadsAt_40 : decode cX7_roadsAt 40 = .ok (.iadd, 1) := by decide +kernel
theorem dX7_roadsAt_41 : decode cX7_roadsAt 41 = .ok (.istore_n 2, 1) := by decide +kernel
theorem dX7_roadsAt_42 : decode cX7_roadsAt 42 = .ok (.iinc 3 1, 3) := by decide +kernel
theorem dX7_roadsAt_45 : decode cX7_roadsAt 45 = .ok (.goto (-41), 3) := by decide +kernel
theorem dX7_roadsAt_48 : decode cX7_roadsAt 48 = .ok (.iload_n 2, 1) := by decide +kernel
theorem dX7_roadsAt_49 : decode cX7_roadsAt 49 = .ok (.ireturn, 1) := by decide +kernel
theorem dX7_lettersAt_0 : decode cX7_lettersAt 0 = .ok (.iconst 0, 1) := by decide +kernel
theorem dX7_lettersAt_1 : decode cX7_lettersAt 1 = .ok (.istore_n 2, 1) := by decide +kernel
theorem dX7_lettersAt_2 : decode cX7_lettersAt 2 = .ok (.iconst 0, 1) := by decide +kernel
theorem dX7_lettersAt_3 : decode cX7_lettersAt 3 = .ok (.istore_n 3, 1) := by decide +kernel
theorem dX7_lettersAt_4 : decode cX7_lettersAt 4 = .ok (.iload_n 3, 1) := by decide +kernel
theorem dX7_lettersAt_5 : decode cX7_lettersAt 5 = .ok (.aload_n 0, 1) := by decide +kernel
theorem dX7_lettersAt_6 : decode cX7_lettersAt 6 = .ok (.getfield 7, 3) := by decide +kernel
theorem dX7_lettersAt_9 : decode cX7_lettersAt 9 = .ok (.iconst 2, 1) := by decide +kernel
theorem dX7_lettersAt_10 : decode cX7_lettersAt 10 = .ok (.iaload, 1) := by decide +kernel
theorem dX7_lettersAt_11 : decode cX7_lettersAt 11 = .ok (.if_icmp .ge 38, 3) := by decide +kernel
theorem dX7_lettersAt_14 : decode cX7_lettersAt 14 = .ok (.iload_n 2, 1) := by decide +kernel
theorem dX7_lettersAt_15 : decode cX7_lettersAt 15 = .ok (.aload_n 0, 1) := by decide +kernel
theorem dX7_lettersAt_16 : decode cX7_lettersAt 16 = .ok (.iload_n 3, 1) := by decide +kernel
theorem dX7_lettersAt_17 : decode cX7_lettersAt 17 = .ok (.iconst 1, 1) := by decide +kernel
theorem dX7_lettersAt_18 : decode cX7_lettersAt 18 = .ok (.invokevirtual 62, 3) := by decide +kernel
theorem dX7_lettersAt_21 : decode cX7_lettersAt 21 = .ok (.iload_n 1, 1) := by decide +kernel
theorem dX7_lettersAt_22 : decode cX7_lettersAt 22 = .ok (.if_icmp .ne 18, 3) := by decide +kernel
theorem dX7_lettersAt_25 : decode cX7_lettersAt 25 = .ok (.aload_n 0, 1) := by decide +kernel
theorem dX7_lettersAt_26 : decode cX7_lettersAt 26 = .ok (.iload_n 3, 1) := by decide +kernel
theorem dX7_lettersAt_27 : decode cX7_lettersAt 27 = .ok (.iconst 4, 1) := by decide +kernel
theorem dX7_lettersAt_28 : decode cX7_lettersAt 28 = .ok (.invokevirtual 62, 3) := by decide +kernel
theorem dX7_lettersAt_31 : decode cX7_lettersAt 31 = .ok (.ifCond .ne 9, 3) := by decide +kernel
theorem dX7_lettersAt_34 : decode cX7_lettersAt 34 = .ok (.iconst 1, 1) := by decide +kernel
theorem dX7_lettersAt_35 : decode cX7_lettersAt 35 = .ok (.iload_n 3, 1) := by decide +kernel
theorem dX7_lettersAt_36 : decode cX7_lettersAt 36 = .ok (.ishl, 1) := by decide +kernel
theorem dX7_lettersAt_37 : decode cX7_lettersAt 37 = .ok (.goto 4, 3) := by decide +kernel
theorem dX7_lettersAt_40 : decode cX7_lettersAt 40 = .ok (.iconst 0, 1) := by decide +kernel
theorem dX7_lettersAt_41 : decode cX7_lettersAt 41 = .ok (.ior, 1) := by decide +kernel
theorem dX7_lettersAt_42 : decode cX7_lettersAt 42 = .ok (.istore_n 2, 1) := by decide +kernel
theorem dX7_lettersAt_43 : decode cX7_lettersAt 43 = .ok (.iinc 3 1, 3) := by decide +kernel
theorem dX7_lettersAt_46 : decode cX7_lettersAt 46 = .ok (.goto (-42), 3) := by decide +kernel
theorem dX7_lettersAt_49 : decode cX7_lettersAt 49 = .ok (.iload_n 2, 1) := by decide +kernel
theorem dX7_lettersAt_50 : decode cX7_lettersAt 50 = .ok (.ireturn, 1) := by decide +kernel
theorem dX7_villageOf_0 : decode cX7_villageOf 0 = .ok (.aload_n 0, 1) := by decide +kernel
theorem dX7_villageOf_1 : decode cX7_villageOf 1 = .ok (.iload_n 1, 1) := by decide +kernel
theorem dX7_villageOf_2 : decode cX7_villageOf 2 = .ok (.invokevirtual 65, 3) := by decide +kernel
theorem dX7_villageOf_5 : decode cX7_villageOf 5 = .ok (.ifCond .eq 12, 3) := by decide +kernel
theorem dX7_villageOf_8 : decode cX7_villageOf 8 = .ok (.iload_n 2, 1) := by decide +kernel
theorem dX7_villageOf_9 : decode cX7_villageOf 9 = .ok (.iconst 0, 1) := by decide +kernel
theorem dX7_villageOf_10 : decode cX7_villageOf 10 = .ok (.iconst 3, 1) := by decide +kernel
theorem dX7_villageOf_11 : decode cX7_villageOf 11 = .ok (.invokestatic 45, 3) := by decide +kernel
theorem dX7_villageOf_14 : decode cX7_villageOf 14 = .ok (.ifCond .ne 10, 3) := by decide +kernel
theorem dX7_villageOf_17 : decode cX7_villageOf 17 = .ok (.aload_n 0, 1) := by decide +kernel
theorem dX7_villageOf_18 : decode cX7_villageOf 18 = .ok (.ldc 44, 2) := by decide +kernel
theorem dX7_villageOf_20 : decode cX7_villageOf 20 = .ok (.invokevirtual 49, 3) := by decide +kernel
theorem dX7_villageOf_23 : decode cX7_villageOf 23 = .ok (.ireturn, 1) := by decide +kernel
theorem dX7_villageOf_24 : decode cX7_villageOf 24 = .ok (.iload_n 2, 1) := by decide +kernel
theorem dX7_villageOf_25 : decode cX7_villageOf 25 = .ok (.ifCond .ne 11, 3) := by decide +kernel
theorem dX7_villageOf_28 : decode cX7_villageOf 28 = .ok (.aload_n 0, 1) := by decide +kernel
theorem dX7_villageOf_29 : decode cX7_villageOf 29 = .ok (.iload_n 1, 1) := by decide +kernel
theorem dX7_villageOf_30 : decode cX7_villageOf 30 = .ok (.invokevirtual 69, 3) := by decide +kernel
theorem dX7_villageOf_33 : decode cX7_villageOf 33 = .ok (.goto 41, 3) := by decide +kernel
theorem dX7_villageOf_36 : decode cX7_villageOf 36 = .ok (.iload_n 2, 1) := by decide +kernel
theorem dX7_villageOf_37 : decode cX7_villageOf 37 = .ok (.iconst 1, 1) := by decide +kernel
theorem dX7_villageOf_38 : decode cX7_villageOf 38 = .ok (.if_icmp .ne 18, 3) := by decide +kernel
theorem dX7_villageOf_41 : decode cX7_villageOf 41 = .ok (.aload_n 0, 1) := by decide +kernel
theorem dX7_villageOf_42 : decode cX7_villageOf 42 = .ok (.getfield 7, 3) := by decide +kernel
theorem dX7_villageOf_45 : decode cX7_villageOf 45 = .ok (.iconst 5, 1) := by decide +kernel
theorem dX7_villageOf_46 : decode cX7_villageOf 46 = .ok (.iconst 2, 1) := by decide +kernel
theorem dX7_villageOf_47 : decode cX7_villageOf 47 = .ok (.iload_n 1, 1) := by decide +kernel
theorem dX7_villageOf_48 : decode cX7_villageOf 48 = .ok (.imul, 1) := by decide +kernel
theorem dX7_villageOf_49 : decode cX7_villageOf 49 = .ok (.iadd, 1) := by decide +kernel
theorem dX7_villageOf_50 : decode cX7_villageOf 50 = .ok (.iconst 1, 1) := by decide +kernel
theorem dX7_villageOf_51 : decode cX7_villageOf 51 = .ok (.iadd, 1) := by decide +kernel
theorem dX7_villageOf_52 : decode cX7_villageOf 52 = .ok (.iaload, 1) := by decide +kernel
theorem dX7_villageOf_53 : decode cX7_villageOf 53 = .ok (.goto 21, 3) := by decide +kernel
theorem dX7_villageOf_56 : decode cX7_villageOf 56 = .ok (.iload_n 2, 1) := by decide +kernel
theorem dX7_villageOf_57 : decode cX7_villageOf 57 = .ok (.iconst 2, 1) := by decide +kernel
theorem dX7_villageOf_58 : decode cX7_villageOf 58 = .ok (.if_icmp .ne 11, 3) := by decide +kernel
theorem dX7_villageOf_61 : decode cX7_villageOf 61 = .ok (.aload_n 0, 1) := by decide +kernel
theorem dX7_villageOf_62 : decode cX7_villageOf 62 = .ok (.iload_n 1, 1) := by decide +kernel
theorem dX7_villageOf_63 : decode cX7_villageOf 63 = .ok (.invokevirtual 72, 3) := by decide +kernel
theorem dX7_villageOf_66 : decode cX7_villageOf 66 = .ok (.goto 8, 3) := by decide +kernel
theorem dX7_villageOf_69 : decode cX7_villageOf 69 = .ok (.aload_n 0, 1) := by decide +kernel
theorem dX7_villageOf_70 : decode cX7_villageOf 70 = .ok (.iload_n 1, 1) := by decide +kernel
theorem dX7_villageOf_71 : decode cX7_villageOf 71 = .ok (.invokevirtual 75, 3) := by decide +kernel
theorem dX7_villageOf_74 : decode cX7_villageOf 74 = .ok (.ireturn, 1) := by decide +kernel
theorem dX7_slide_0 : decode cX7_slide 0 = .ok (.aload_n 0, 1) := by decide +kernel
theorem dX7_slide_1 : decode cX7_slide 1 = .ok (.iload_n 1, 1) := by decide +kernel
theorem dX7_slide_2 : decode cX7_slide 2 = .ok (.invokevirtual 65, 3) := by decide +kernel
theorem dX7_slide_5 : decode cX7_slide 5 = .ok (.ifCond .eq 14, 3) := by decide +kernel
theorem dX7_slide_8 : decode cX7_slide 8 = .ok (.iload_n 2, 1) := by decide +kernel
theorem dX7_slide_9 : decode cX7_slide 9 = .ok (.iconst 0, 1) := by decide +kernel
theorem dX7_slide_10 : decode cX7_slide 10 = .ok (.sipush 9999, 3) := by decide +kernel
theorem dX7_slide_13 : decode cX7_slide 13 = .ok (.invokestatic 45, 3) := by decide +kernel
theorem dX7_slide_16 : decode cX7_slide 16 = .ok (.ifCond .ne 10, 3) := by decide +kernel
theorem dX7_slide_19 : decode cX7_slide 19 = .ok (.aload_n 0, 1) := by decide +kernel
theorem dX7_slide_20 : decode cX7_slide 20 = .ok (.ldc 44, 2) := by decide +kernel
theorem dX7_slide_22 : decode cX7_slide 22 = .ok (.invokevirtual 49, 3) := by decide +kernel
theorem dX7_slide_25 : decode cX7_slide 25 = .ok (.ireturn, 1) := by decide +kernel
theorem dX7_slide_26 : decode cX7_slide 26 = .ok (.aload_n 0, 1) := by decide +kernel
theorem dX7_slide_27 : decode cX7_slide 27 = .ok (.iload_n 1, 1) := by decide +kernel
theorem dX7_slide_28 : decode cX7_slide 28 = .ok (.invokevirtual 69, 3) := by decide +kernel
theorem dX7_slide_31 : decode cX7_slide 31 = .ok (.istore_n 3, 1) := by decide +kernel
theorem dX7_slide_32 : decode cX7_slide 32 = .ok (.aload_n 0, 1) := by decide +kernel
theorem dX7_slide_33 : decode cX7_slide 33 = .ok (.getfield 7, 3) := by decide +kernel
theorem dX7_slide_36 : decode cX7_slide 36 = .ok (.iconst 5, 1) := by decide +kernel
theorem dX7_slide_37 : decode cX7_slide 37 = .ok (.iconst 2, 1) := by decide +kernel
theorem dX7_slide_38 : decode cX7_slide 38 = .ok (.iload_n 1, 1) := by decide +kernel
theorem dX7_slide_39 : decode cX7_slide 39 = .ok (.imul, 1) := by decide +kernel
theorem dX7_slide_40 : decode cX7_slide 40 = .ok (.iadd, 1) := by decide +kernel
theorem dX7_slide_41 : decode cX7_slide 41 = .ok (.iload_n 2, 1) := by decide +kernel
theorem dX7_slide_42 : decode cX7_slide 42 = .ok (.iastore, 1) := by decide +kernel
theorem dX7_slide_43 : decode cX7_slide 43 = .ok (.iload_n 3, 1) := by decide +kernel
theorem dX7_slide_44 : decode cX7_slide 44 = .ok (.ireturn, 1) := by decide +kernel
theorem dX7_hermit_0 : decode cX7_hermit 0 = .ok (.aload_n 0, 1) := by decide +kernel
theorem dX7_hermit_1 : decode cX7_hermit 1 = .ok (.iload_n 1, 1) := by decide +kernel
theorem dX7_hermit_2 : decode cX7_hermit 2 = .ok (.invokevirtual 65, 3) := by decide +kernel
theorem dX7_hermit_5 : decode cX7_hermit 5 = .ok (.ifCond .ne 10, 3) := by decide +kernel
theorem dX7_hermit_8 : decode cX7_hermit 8 = .ok (.aload_n 0, 1) := by decide +kernel
theorem dX7_hermit_9 : decode cX7_hermit 9 = .ok (.ldc 44, 2) := by decide +kernel
theorem dX7_hermit_11 : decode cX7_hermit 11 = .ok (.invokevirtual 49, 3) := by decide +kernel
theorem dX7_hermit_14 : decode cX7_hermit 14 = .ok (.ireturn, 1) := by decide +kernel
theorem dX7_hermit_15 : decode cX7_hermit 15 = .ok (.aload_n 0, 1) := by decide +kernel
theorem dX7_hermit_16 : decode cX7_hermit 16 = .ok (.iload_n 1, 1) := by decide +kernel
theorem dX7_hermit_17 : decode cX7_hermit 17 = .ok (.invokevirtual 78, 3) := by decide +kernel
theorem dX7_hermit_20 : decode cX7_hermit 20 = .ok (.istore_n 3, 1) := by decide +kernel
theorem dX7_hermit_21 : decode cX7_hermit 21 = .ok (.aload_n 0, 1) := by decide +kernel
theorem dX7_hermit_22 : decode cX7_hermit 22 = .ok (.getfield 7, 3) := by decide +kernel
theorem dX7_hermit_25 : decode cX7_hermit 25 = .ok (.iconst 5, 1) := by decide +kernel
theorem dX7_hermit_26 : decode cX7_hermit 26 = .ok (.iconst 2, 1) := by decide +kernel
theorem dX7_hermit_27 : decode cX7_hermit 27 = .ok (.iload_n 1, 1) := by decide +kernel
theorem dX7_hermit_28 : decode cX7_hermit 28 = .ok (.imul, 1) := by decide +kernel
theorem dX7_hermit_29 : decode cX7_hermit 29 = .ok (.iadd, 1) := by decide +kernel
theorem dX7_hermit_30 : decode cX7_hermit 30 = .ok (.iconst 1, 1) := by decide +kernel
theorem dX7_hermit_31 : decode cX7_hermit 31 = .ok (.iadd, 1) := by decide +kernel
theorem dX7_hermit_32 : decode cX7_hermit 32 = .ok (.iload_n 2, 1) := by decide +kernel
theorem dX7_hermit_33 : decode cX7_hermit 33 = .ok (.ifCond .eq 7, 3) := by decide +kernel
theorem dX7_hermit_36 : decode cX7_hermit 36 = .ok (.iconst 1, 1) := by decide +kernel
theorem dX7_hermit_37 : decode cX7_hermit 37 = .ok (.goto 4, 3) := by decide +kernel
theorem dX7_hermit_40 : decode cX7_hermit 40 = .ok (.iconst 0, 1) := by decide +kernel
theorem dX7_hermit_41 : decode cX7_hermit 41 = .ok (.iastore, 1) := by decide +kernel
theorem dX7_hermit_42 : decode cX7_hermit 42 = .ok (.iload_n 3, 1) := by decide +kernel
theorem dX7_hermit_43 : decode cX7_hermit 43 = .ok (.iload_n 2, 1) := by decide +kernel
theorem dX7_hermit_44 : decode cX7_hermit 44 = .ok (.if_icmp .ne 7, 3) := by decide +kernel
theorem dX7_hermit_47 : decode cX7_hermit 47 = .ok (.iconst 0, 1) := by decide +kernel
theorem dX7_hermit_48 : decode cX7_hermit 48 = .ok (.goto 4, 3) := by decide +kernel
theorem dX7_hermit_51 : decode cX7_hermit 51 = .ok (.iconst 1, 1) := by decide +kernel
theorem dX7_hermit_52 : decode cX7_hermit 52 = .ok (.ireturn, 1) := by decide +kernel
theorem dX7_between_0 : decode cX7_between 0 = .ok (.iconst (-1), 1) := by decide +kernel
theorem dX7_between_1 : decode cX7_between 1 = .ok (.istore_n 3, 1) := by decide +kernel
theorem dX7_between_2 : decode cX7_between 2 = .ok (.iconst 0, 1) := by decide +kernel
theorem dX7_between_3 : decode cX7_between 3 = .ok (.istore 4, 2) := by decide +kernel
theorem dX7_between_5 : decode cX7_between 5 = .ok (.iload 4, 2) := by decide +kernel
theorem dX7_between_7 : decode cX7_between 7 = .ok (.aload_n 0, 1) := by decide +kernel
theorem dX7_between_8 : decode cX7_between 8 = .ok (.getfield 7, 3) := by decide +kernel
theorem dX7_between_11 : decode cX7_between 11 = .ok (.iconst 1, 1) := by decide +kernel
theorem dX7_between_12 : decode cX7_between 12 = .ok (.iaload, 1) := by decide +kernel
theorem dX7_between_13 : decode cX7_between 13 = .ok (.if_icmp .ge 60, 3) := by decide +kernel
theorem dX7_between_16 : decode cX7_between 16 = .ok (.aload_n 0, 1) := by decide +kernel
theorem dX7_between_17 : decode cX7_between 17 = .ok (.iload 4, 2) := by decide +kernel
theorem dX7_between_19 : decode cX7_between 19 = .ok (.iconst 0, 1) := by decide +kernel
theorem dX7_between_20 : decode cX7_between 20 = .ok (.invokevirtual 58, 3) := by decide +kernel
theorem dX7_between_23 : decode cX7_between 23 = .ok (.iload_n 1, 1) := by decide +kernel
theorem dX7_between_24 : decode cX7_between 24 = .ok (.if_icmp .ne 14, 3) := by decide +kernel
theorem dX7_between_27 : decode cX7_between 27 = .ok (.aload_n 0, 1) := by decide +kernel
theorem dX7_between_28 : decode cX7_between 28 = .ok (.iload 4, 2) := by decide +kernel
theorem dX7_between_30 : decode cX7_between 30 = .ok (.iconst 1, 1) := by decide +kernel
theorem dX7_between_31 : decode cX7_between 31 = .ok (.invokevirtual 58, 3) := by decide +kernel
theorem dX7_between_34 : decode cX7_between 34 = .ok (.iload_n 2, 1) := by decide +kernel
theorem dX7_between_35 : decode cX7_between 35 = .ok (.if_icmp .eq 25, 3) := by decide +kernel
theorem dX7_between_38 : decode cX7_between 38 = .ok (.aload_n 0, 1) := by decide +kernel
theorem dX7_between_39 : decode cX7_between 39 = .ok (.iload 4, 2) := by decide +kernel
theorem dX7_between_41 : decode cX7_between 41 = .ok (.iconst 0, 1) := by decide +kernel
theorem dX7_between_42 : decode cX7_between 42 = .ok (.invokevirtual 58, 3) := by decide +kernel
theorem dX7_between_45 : decode cX7_between 45 = .ok (.iload_n 2, 1) := by decide +kernel
theorem dX7_between_46 : decode cX7_between 46 = .ok (.if_icmp .ne 19, 3) := by decide +kernel
theorem dX7_between_49 : decode cX7_between 49 = .ok (.aload_n 0, 1) := by decide +kernel
theorem dX7_between_50 : decode cX7_between 50 = .ok (.iload 4, 2) := by decide +kernel
theorem dX7_between_52 : decode cX7_between 52 = .ok (.iconst 1, 1) := by decide +kernel
theorem dX7_between_53 : decode cX7_between 53 = .ok (.invokevirtual 58, 3) := by decide +kernel
theorem dX7_between_56 : decode cX7_between 56 = .ok (.iload_n 1, 1) := by decide +kernel
theorem dX7_between_57 : decode cX7_between 57 = .ok (.if_icmp .ne 8, 3) := by decide +kernel
theorem dX7_between_60 : decode cX7_between 60 = .ok (.iload 4, 2) := by decide +kernel
theorem dX7_between_62 : decode cX7_between 62 = .ok (.goto 4, 3) := by decide +kernel
theorem dX7_between_65 : decode cX7_between 65 = .ok (.iload_n 3, 1) := by decide +kernel
theorem dX7_between_66 : decode cX7_between 66 = .ok (.istore_n 3, 1) := by decide +kernel
theorem dX7_between_67 : decode cX7_between 67 = .ok (.iinc 4 1, 3) := by decide +kernel
theorem dX7_between_70 : decode cX7_between 70 = .ok (.goto (-65), 3) := by decide +kernel
theorem dX7_between_73 : decode cX7_between 73 = .ok (.iload_n 3, 1) := by decide +kernel
theorem dX7_between_74 : decode cX7_between 74 = .ok (.ireturn, 1) := by decide +kernel
theorem dX7_addRoad_0 : decode cX7_addRoad 0 = .ok (.bipush 29, 2) := by decide +kernel
theorem dX7_addRoad_2 : decode cX7_addRoad 2 = .ok (.iconst 3, 1) := by decide +kernel
theorem dX7_addRoad_3 : decode cX7_addRoad 3 = .ok (.aload_n 0, 1) := by decide +kernel
theorem dX7_addRoad_4 : decode cX7_addRoad 4 = .ok (.getfield 7, 3) := by decide +kernel
theorem dX7_addRoad_7 : decode cX7_addRoad 7 = .ok (.iconst 1, 1) := by decide +kernel
theorem dX7_addRoad_8 : decode cX7_addRoad 8 = .ok (.iaload, 1) := by decide +kernel
theorem dX7_addRoad_9 : decode cX7_addRoad 9 = .ok (.imul, 1) := by decide +kernel
theorem dX7_addRoad_10 : decode cX7_addRoad 10 = .ok (.iadd, 1) := by decide +kernel
theorem dX7_addRoad_11 : decode cX7_addRoad 11 = .ok (.istore 4, 2) := by decide +kernel
theorem dX7_addRoad_13 : decode cX7_addRoad 13 = .ok (.aload_n 0, 1) := by decide +kernel
theorem dX7_addRoad_14 : decode cX7_addRoad 14 = .ok (.getfield 7, 3) := by decide +kernel
theorem dX7_addRoad_17 : decode cX7_addRoad 17 = .ok (.iload 4, 2) := by decide +kernel
theorem dX7_addRoad_19 : decode cX7_addRoad 19 = .ok (.iload_n 1, 1) := by decide +kernel
theorem dX7_addRoad_20 : decode cX7_addRoad 20 = .ok (.iastore, 1) := by decide +kernel
theorem dX7_addRoad_21 : decode cX7_addRoad 21 = .ok (.aload_n 0, 1) := by decide +kernel
theorem dX7_addRoad_22 : decode cX7_addRoad 22 = .ok (.getfield 7, 3) := by decide +kernel
theorem dX7_addRoad_25 : decode cX7_addRoad 25 = .ok (.iload 4, 2) := by decide +kernel
theorem dX7_addRoad_27 : decode cX7_addRoad 27 = .ok (.iconst 1, 1) := by decide +kernel
theorem dX7_addRoad_28 : decode cX7_addRoad 28 = .ok (.iadd, 1) := by decide +kernel
theorem dX7_addRoad_29 : decode cX7_addRoad 29 = .ok (.iload_n 2, 1) := by decide +kernel
theorem dX7_addRoad_30 : decode cX7_addRoad 30 = .ok (.iastore, 1) := by decide +kernel
theorem dX7_addRoad_31 : decode cX7_addRoad 31 = .ok (.aload_n 0, 1) := by decide +kernel
theorem dX7_addRoad_32 : decode cX7_addRoad 32 = .ok (.getfield 7, 3) := by decide +kernel
theorem dX7_addRoad_35 : decode cX7_addRoad 35 = .ok (.iload 4, 2) := by decide +kernel
theorem dX7_addRoad_37 : decode cX7_addRoad 37 = .ok (.iconst 2, 1) := by decide +kernel
theorem dX7_addRoad_38 : decode cX7_addRoad 38 = .ok (.iadd, 1) := by decide +kernel
theorem dX7_addRoad_39 : decode cX7_addRoad 39 = .ok (.iload_n 3, 1) := by decide +kernel
theorem dX7_addRoad_40 : decode cX7_addRoad 40 = .ok (.iastore, 1) := by decide +kernel
theorem dX7_addRoad_41 : decode cX7_addRoad 41 = .ok (.aload_n 0, 1) := by decide +kernel
theorem dX7_addRoad_42 : decode cX7_addRoad 42 = .ok (.getfield 7, 3) := by decide +kernel
theorem dX7_addRoad_45 : decode cX7_addRoad 45 = .ok (.iconst 1, 1) := by decide +kernel
theorem dX7_addRoad_46 : decode cX7_addRoad 46 = .ok (.dup2, 1) := by decide +kernel
theorem dX7_addRoad_47 : decode cX7_addRoad 47 = .ok (.iaload, 1) := by decide +kernel
theorem dX7_addRoad_48 : decode cX7_addRoad 48 = .ok (.iconst 1, 1) := by decide +kernel
theorem dX7_addRoad_49 : decode cX7_addRoad 49 = .ok (.iadd, 1) := by decide +kernel
theorem dX7_addRoad_50 : decode cX7_addRoad 50 = .ok (.iastore, 1) := by decide +kernel
theorem dX7_addRoad_51 : decode cX7_addRoad 51 = .ok (.return_, 1) := by decide +kernel
theorem dX7_road_0 : decode cX7_road 0 = .ok (.aload_n 0, 1) := by decide +kernel
theorem dX7_road_1 : decode cX7_road 1 = .ok (.iload_n 1, 1) := by decide +kernel
theorem dX7_road_2 : decode cX7_road 2 = .ok (.invokevirtual 65, 3) := by decide +kernel
theorem dX7_road_5 : decode cX7_road 5 = .ok (.ifCond .eq 26, 3) := by decide +kernel
theorem dX7_road_8 : decode cX7_road 8 = .ok (.aload_n 0, 1) := by decide +kernel
theorem dX7_road_9 : decode cX7_road 9 = .ok (.iload_n 2, 1) := by decide +kernel
theorem dX7_road_10 : decode cX7_road 10 = .ok (.invokevirtual 65, 3) := by decide +kernel
theorem dX7_road_13 : decode cX7_road 13 = .ok (.ifCond .eq 18, 3) := by decide +kernel
theorem dX7_road_16 : decode cX7_road 16 = .ok (.iload_n 1, 1) := by decide +kernel
theorem dX7_road_17 : decode cX7_road 17 = .ok (.iload_n 2, 1) := by decide +kernel
theorem dX7_road_18 : decode cX7_road 18 = .ok (.if_icmp .eq 13, 3) := by decide +kernel
theorem dX7_road_21 : decode cX7_road 21 = .ok (.iload_n 3, 1) := by decide +kernel
theorem dX7_road_22 : decode cX7_road 22 = .ok (.iconst 1, 1) := by decide +kernel
theorem dX7_road_23 : decode cX7_road 23 = .ok (.bipush 9, 2) := by decide +kernel
theorem dX7_road_25 : decode cX7_road 25 = .ok (.invokestatic 45, 3) := by decide +kernel
theorem dX7_road_28 : decode cX7_road 28 = .ok (.ifCond .ne 10, 3) := by decide +kernel
theorem dX7_road_31 : decode cX7_road 31 = .ok (.aload_n 0, 1) := by decide +kernel
theorem dX7_road_32 : decode cX7_road 32 = .ok (.ldc 44, 2) := by decide +kernel
theorem dX7_road_34 : decode cX7_road 34 = .ok (.invokevirtual 49, 3) := by decide +kernel
theorem dX7_road_37 : decode cX7_road 37 = .ok (.ireturn, 1) := by decide +kernel
theorem dX7_road_38 : decode cX7_road 38 = .ok (.aload_n 0, 1) := by decide +kernel
theorem dX7_road_39 : decode cX7_road 39 = .ok (.iload_n 1, 1) := by decide +kernel
theorem dX7_road_40 : decode cX7_road 40 = .ok (.iload_n 2, 1) := by decide +kernel
theorem dX7_road_41 : decode cX7_road 41 = .ok (.invokevirtual 81, 3) := by decide +kernel
theorem dX7_road_44 : decode cX7_road 44 = .ok (.ifCond .lt 10, 3) := by decide +kernel
theorem dX7_road_47 : decode cX7_road 47 = .ok (.aload_n 0, 1) := by decide +kernel
theorem dX7_road_48 : decode cX7_road 48 = .ok (.ldc 84, 2) := by decide +kernel
theorem dX7_road_50 : decode cX7_road 50 = .ok (.invokevirtual 49, 3) := by decide +kernel
theorem dX7_road_53 : decode cX7_road 53 = .ok (.ireturn, 1) := by decide +kernel
theorem dX7_road_54 : decode cX7_road 54 = .ok (.aload_n 0, 1) := by decide +kernel
theorem dX7_road_55 : decode cX7_road 55 = .ok (.getfield 7, 3) := by decide +kernel
theorem dX7_road_58 : decode cX7_road 58 = .ok (.iconst 1, 1) := by decide +kernel
theorem dX7_road_59 : decode cX7_road 59 = .ok (.iaload, 1) := by decide +kernel
theorem dX7_road_60 : decode cX7_road 60 = .ok (.bipush 24, 2) := by decide +kernel
theorem dX7_road_62 : decode cX7_road 62 = .ok (.if_icmp .ne 10, 3) := by decide +kernel
theorem dX7_road_65 : decode cX7_road 65 = .ok (.aload_n 0, 1) := by decide +kernel
theorem dX7_road_66 : decode cX7_road 66 = .ok (.ldc 53, 2) := by decide +kernel
theorem dX7_road_68 : decode cX7_road 68 = .ok (.invokevirtual 49, 3) := by decide +kernel
theorem dX7_road_71 : decode cX7_road 71 = .ok (.ireturn, 1) := by decide +kernel
theorem dX7_road_72 : decode cX7_road 72 = .ok (.aload_n 0, 1) := by decide +kernel
theorem dX7_road_73 : decode cX7_road 73 = .ok (.iload_n 1, 1) := by decide +kernel
theorem dX7_road_74 : decode cX7_road 74 = .ok (.iload_n 2, 1) := by decide +kernel
theorem dX7_road_75 : decode cX7_road 75 = .ok (.iload_n 3, 1) := by decide +kernel
theorem dX7_road_76 : decode cX7_road 76 = .ok (.invokevirtual 85, 3) := by decide +kernel
theorem dX7_road_79 : decode cX7_road 79 = .ok (.aload_n 0, 1) := by decide +kernel
theorem dX7_road_80 : decode cX7_road 80 = .ok (.getfield 7, 3) := by decide +kernel
theorem dX7_road_83 : decode cX7_road 83 = .ok (.iconst 1, 1) := by decide +kernel
theorem dX7_road_84 : decode cX7_road 84 = .ok (.iaload, 1) := by decide +kernel
theorem dX7_road_85 : decode cX7_road 85 = .ok (.iconst 1, 1) := by decide +kernel
theorem dX7_road_86 : decode cX7_road 86 = .ok (.isub, 1) := by decide +kernel
theorem dX7_road_87 : decode cX7_road 87 = .ok (.ireturn, 1) := by decide +kernel
theorem dX7_roadOf_0 : decode cX7_roadOf 0 = .ok (.aload_n 0, 1) := by decide +kernel
theorem dX7_roadOf_1 : decode cX7_roadOf 1 = .ok (.iload_n 1, 1) := by decide +kernel
theorem dX7_roadOf_2 : decode cX7_roadOf 2 = .ok (.invokevirtual 89, 3) := by decide +kernel
theorem dX7_roadOf_5 : decode cX7_roadOf 5 = .ok (.ifCond .eq 21, 3) := by decide +kernel
theorem dX7_roadOf_8 : decode cX7_roadOf 8 = .ok (.iload_n 2, 1) := by decide +kernel
theorem dX7_roadOf_9 : decode cX7_roadOf 9 = .ok (.iconst 0, 1) := by decide +kernel
theorem dX7_roadOf_10 : decode cX7_roadOf 10 = .ok (.iconst 2, 1) := by decide +kernel
theorem dX7_roadOf_11 : decode cX7_roadOf 11 = .ok (.invokestatic 45, 3) := by decide +kernel
theorem dX7_roadOf_14 : decode cX7_roadOf 14 = .ok (.ifCond .eq 12, 3) := by decide +kernel
theorem dX7_roadOf_17 : decode cX7_roadOf 17 = .ok (.aload_n 0, 1) := by decide +kernel
theorem dX7_roadOf_18 : decode cX7_roadOf 18 = .ok (.iload_n 1, 1) := by decide +kernel
theorem dX7_roadOf_19 : decode cX7_roadOf 19 = .ok (.iload_n 2, 1) := by decide +kernel
theorem dX7_roadOf_20 : decode cX7_roadOf 20 = .ok (.invokevirtual 58, 3) := by decide +kernel
theorem dX7_roadOf_23 : decode cX7_roadOf 23 = .ok (.goto 9, 3) := by decide +kernel
theorem dX7_roadOf_26 : decode cX7_roadOf 26 = .ok (.aload_n 0, 1) := by decide +kernel
theorem dX7_roadOf_27 : decode cX7_roadOf 27 = .ok (.ldc 44, 2) := by decide +kernel
theorem dX7_roadOf_29 : decode cX7_roadOf 29 = .ok (.invokevirtual 49, 3) := by decide +kernel
theorem dX7_roadOf_32 : decode cX7_roadOf 32 = .ok (.ireturn, 1) := by decide +kernel
theorem dX7_every_0 : decode cX7_every 0 = .ok (.iload_n 1, 1) := by decide +kernel
theorem dX7_every_1 : decode cX7_every 1 = .ok (.iconst 1, 1) := by decide +kernel
theorem dX7_every_2 : decode cX7_every 2 = .ok (.bipush 99, 2) := by decide +kernel
theorem dX7_every_4 : decode cX7_every 4 = .ok (.invokestatic 45, 3) := by decide +kernel
theorem dX7_every_7 : decode cX7_every 7 = .ok (.ifCond .ne 10, 3) := by decide +kernel
theorem dX7_every_10 : decode cX7_every 10 = .ok (.aload_n 0, 1) := by decide +kernel
theorem dX7_every_11 : decode cX7_every 11 = .ok (.ldc 44, 2) := by decide +kernel
theorem dX7_every_13 : decode cX7_every 13 = .ok (.invokevirtual 49, 3) := by decide +kernel
theorem dX7_every_16 : decode cX7_every 16 = .ok (.ireturn, 1) := by decide +kernel
theorem dX7_every_17 : decode cX7_every 17 = .ok (.aload_n 0, 1) := by decide +kernel
theorem dX7_every_18 : decode cX7_every 18 = .ok (.getfield 7, 3) := by decide +kernel
theorem dX7_every_21 : decode cX7_every 21 = .ok (.iconst 3, 1) := by decide +kernel
theorem dX7_every_22 : decode cX7_every 22 = .ok (.iaload, 1) := by decide +kernel
theorem dX7_every_23 : decode cX7_every 23 = .ok (.istore_n 2, 1) := by decide +kernel
theorem dX7_every_24 : decode cX7_every 24 = .ok (.aload_n 0, 1) := by decide +kernel
theorem dX7_every_25 : decode cX7_every 25 = .ok (.getfield 7, 3) := by decide +kernel
theorem dX7_every_28 : decode cX7_every 28 = .ok (.iconst 3, 1) := by decide +kernel
theorem dX7_every_29 : decode cX7_every 29 = .ok (.iload_n 1, 1) := by decide +kernel
theorem dX7_every_30 : decode cX7_every 30 = .ok (.iastore, 1) := by decide +kernel
theorem dX7_every_31 : decode cX7_every 31 = .ok (.iload_n 2, 1) := by decide +kernel
theorem dX7_every_32 : decode cX7_every 32 = .ok (.ireturn, 1) := by decide +kernel
theorem dX7_theSea_0 : decode cX7_theSea 0 = .ok (.iconst 0, 1) := by decide +kernel
theorem dX7_theSea_1 : decode cX7_theSea 1 = .ok (.istore_n 1, 1) := by decide +kernel
theorem dX7_theSea_2 : decode cX7_theSea 2 = .ok (.iconst 1, 1) := by decide +kernel
theorem dX7_theSea_3 : decode cX7_theSea 3 = .ok (.istore_n 2, 1) := by decide +kernel
theorem dX7_theSea_4 : decode cX7_theSea 4 = .ok (.iload_n 2, 1) := by decide +kernel
theorem dX7_theSea_5 : decode cX7_theSea 5 = .ok (.aload_n 0, 1) := by decide +kernel
theorem dX7_theSea_6 : decode cX7_theSea 6 = .ok (.getfield 7, 3) := by decide +kernel
theorem dX7_theSea_9 : decode cX7_theSea 9 = .ok (.iconst 0, 1) := by decide +kernel
theorem dX7_theSea_10 : decode cX7_theSea 10 = .ok (.iaload, 1) := by decide +kernel
theorem dX7_theSea_11 : decode cX7_theSea 11 = .ok (.if_icmp .ge 28, 3) := by decide +kernel
theorem dX7_theSea_14 : decode cX7_theSea 14 = .ok (.aload_n 0, 1) := by decide +kernel
theorem dX7_theSea_15 : decode cX7_theSea 15 = .ok (.iload_n 2, 1) := by decide +kernel
theorem dX7_theSea_16 : decode cX7_theSea 16 = .ok (.invokevirtual 69, 3) := by decide +kernel
theorem dX7_theSea_19 : decode cX7_theSea 19 = .ok (.aload_n 0, 1) := by decide +kernel
theorem dX7_theSea_20 : decode cX7_theSea 20 = .ok (.iload_n 1, 1) := by decide +kernel
theorem dX7_theSea_21 : decode cX7_theSea 21 = .ok (.invokevirtual 69, 3) := by decide +kernel
theorem dX7_theSea_24 : decode cX7_theSea 24 = .ok (.if_icmp .ge 7, 3) := by decide +kernel
theorem dX7_theSea_27 : decode cX7_theSea 27 = .ok (.iload_n 2, 1) := by decide +kernel
theorem dX7_theSea_28 : decode cX7_theSea 28 = .ok (.goto 4, 3) := by decide +kernel
theorem dX7_theSea_31 : decode cX7_theSea 31 = .ok (.iload_n 1, 1) := by decide +kernel
theorem dX7_theSea_32 : decode cX7_theSea 32 = .ok (.istore_n 1, 1) := by decide +kernel
theorem dX7_theSea_33 : decode cX7_theSea 33 = .ok (.iinc 2 1, 3) := by decide +kernel
theorem dX7_theSea_36 : decode cX7_theSea 36 = .ok (.goto (-32), 3) := by decide +kernel
theorem dX7_theSea_39 : decode cX7_theSea 39 = .ok (.iload_n 1, 1) := by decide +kernel
theorem dX7_theSea_40 : decode cX7_theSea 40 = .ok (.ireturn, 1) := by decide +kernel
theorem dX7_thePeak_0 : decode cX7_thePeak 0 = .ok (.iconst 0, 1) := by decide +kernel
theorem dX7_thePeak_1 : decode cX7_thePeak 1 = .ok (.istore_n 1, 1) := by decide +kernel
theorem dX7_thePeak_2 : decode cX7_thePeak 2 = .ok (.iconst 1, 1) := by decide +kernel
theorem dX7_thePeak_3 : decode cX7_thePeak 3 = .ok (.istore_n 2, 1) := by decide +kernel
theorem dX7_thePeak_4 : decode cX7_thePeak 4 = .ok (.iload_n 2, 1) := by decide +kernel
theorem dX7_thePeak_5 : decode cX7_thePeak 5 = .ok (.aload_n 0, 1) := by decide +kernel
theorem dX7_thePeak_6 : decode cX7_thePeak 6 = .ok (.getfield 7, 3) := by decide +kernel
theorem dX7_thePeak_9 : decode cX7_thePeak 9 = .ok (.iconst 0, 1) := by decide +kernel
theorem dX7_thePeak_10 : decode cX7_thePeak 10 = .ok (.iaload, 1) := by decide +kernel
theorem dX7_thePeak_11 : decode cX7_thePeak 11 = .ok (.if_icmp .ge 28, 3) := by decide +kernel
theorem dX7_thePeak_14 : decode cX7_thePeak 14 = .ok (.aload_n 0, 1) := by decide +kernel
theorem dX7_thePeak_15 : decode cX7_thePeak 15 = .ok (.iload_n 2, 1) := by decide +kernel
theorem dX7_thePeak_16 : decode cX7_thePeak 16 = .ok (.invokevirtual 69, 3) := by decide +kernel
theorem dX7_thePeak_19 : decode cX7_thePeak 19 = .ok (.aload_n 0, 1) := by decide +kernel
theorem dX7_thePeak_20 : decode cX7_thePeak 20 = .ok (.iload_n 1, 1) := by decide +kernel
theorem dX7_thePeak_21 : decode cX7_thePeak 21 = .ok (.invokevirtual 69, 3) := by decide +kernel
theorem dX7_thePeak_24 : decode cX7_thePeak 24 = .ok (.if_icmp .le 7, 3) := by decide +kernel
theorem dX7_thePeak_27 : decode cX7_thePeak 27 = .ok (.iload_n 2, 1) := by decide +kernel
theorem dX7_thePeak_28 : decode cX7_thePeak 28 = .ok (.goto 4, 3) := by decide +kernel
theorem dX7_thePeak_31 : decode cX7_thePeak 31 = .ok (.iload_n 1, 1) := by decide +kernel
theorem dX7_thePeak_32 : decode cX7_thePeak 32 = .ok (.istore_n 1, 1) := by decide +kernel
theorem dX7_thePeak_33 : decode cX7_thePeak 33 = .ok (.iinc 2 1, 3) := by decide +kernel
theorem dX7_thePeak_36 : decode cX7_thePeak 36 = .ok (.goto (-32), 3) := by decide +kernel
theorem dX7_thePeak_39 : decode cX7_thePeak 39 = .ok (.iload_n 1, 1) := by decide +kernel
theorem dX7_thePeak_40 : decode cX7_thePeak 40 = .ok (.ireturn, 1) := by decide +kernel
theorem dX7_sea_0 : decode cX7_sea 0 = .ok (.aload_n 0, 1) := by decide +kernel
theorem dX7_sea_1 : decode cX7_sea 1 = .ok (.getfield 7, 3) := by decide +kernel
theorem dX7_sea_4 : decode cX7_sea 4 = .ok (.iconst 0, 1) := by decide +kernel
theorem dX7_sea_5 : decode cX7_sea 5 = .ok (.iaload, 1) := by decide +kernel
theorem dX7_sea_6 : decode cX7_sea 6 = .ok (.ifCond .ne 12, 3) := by decide +kernel
theorem dX7_sea_9 : decode cX7_sea 9 = .ok (.aload_n 0, 1) := by decide +kernel
theorem dX7_sea_10 : decode cX7_sea 10 = .ok (.ldc 92, 2) := by decide +kernel
theorem dX7_sea_12 : decode cX7_sea 12 = .ok (.invokevirtual 49, 3) := by decide +kernel
theorem dX7_sea_15 : decode cX7_sea 15 = .ok (.goto 7, 3) := by decide +kernel
theorem dX7_sea_18 : decode cX7_sea 18 = .ok (.aload_n 0, 1) := by decide +kernel
theorem dX7_sea_19 : decode cX7_sea 19 = .ok (.invokevirtual 93, 3) := by decide +kernel
theorem dX7_sea_22 : decode cX7_sea 22 = .ok (.ireturn, 1) := by decide +kernel
theorem dX7_peak_0 : decode cX7_peak 0 = .ok (.aload_n 0, 1) := by decide +kernel
theorem dX7_peak_1 : decode cX7_peak 1 = .ok (.getfield 7, 3) := by decide +kernel
theorem dX7_peak_4 : decode cX7_peak 4 = .ok (.iconst 0, 1) := by decide +kernel
theorem dX7_peak_5 : decode cX7_peak 5 = .ok (.iaload, 1) := by decide +kernel
theorem dX7_peak_6 : decode cX7_peak 6 = .ok (.ifCond .ne 12, 3) := by decide +kernel
theorem dX7_peak_9 : decode cX7_peak 9 = .ok (.aload_n 0, 1) := by decide +kernel
theorem dX7_peak_10 : decode cX7_peak 10 = .ok (.ldc 92, 2) := by decide +kernel
theorem dX7_peak_12 : decode cX7_peak 12 = .ok (.invokevirtual 49, 3) := by decide +kernel
theorem dX7_peak_15 : decode cX7_peak 15 = .ok (.goto 7, 3) := by decide +kernel
theorem dX7_peak_18 : decode cX7_peak 18 = .ok (.aload_n 0, 1) := by decide +kernel
theorem dX7_peak_19 : decode cX7_peak 19 = .ok (.invokevirtual 97, 3) := by decide +kernel
theorem dX7_peak_22 : decode cX7_peak 22 = .ok (.ireturn, 1) := by decide +kernel
theorem dX7_needsOf_0 : decode cX7_needsOf 0 = .ok (.iload_n 1, 1) := by decide +kernel
theorem dX7_needsOf_1 : decode cX7_needsOf 1 = .ok (.tableswitch 49 1 5 #[35, 41, 45, 41, 45], 35) := by decide +kernel
theorem dX7_needsOf_36 : decode cX7_needsOf 36 = .ok (.iload_n 2, 1) := by decide +kernel
theorem dX7_needsOf_37 : decode cX7_needsOf 37 = .ok (.iconst 1, 1) := by decide +kernel
theorem dX7_needsOf_38 : decode cX7_needsOf 38 = .ok (.iadd, 1) := by decide +kernel
theorem dX7_needsOf_39 : decode cX7_needsOf 39 = .ok (.iconst 2, 1) := by decide +kernel
theorem dX7_needsOf_40 : decode cX7_needsOf 40 = .ok (.idiv, 1) := by decide +kernel
theorem dX7_needsOf_41 : decode cX7_needsOf 41 = .ok (.ireturn, 1) := by decide +kernel
theorem dX7_needsOf_42 : decode cX7_needsOf 42 = .ok (.iconst 2, 1) := by decide +kernel
theorem dX7_needsOf_43 : decode cX7_needsOf 43 = .ok (.iload_n 2, 1) := by decide +kernel
theorem dX7_needsOf_44 : decode cX7_needsOf 44 = .ok (.imul, 1) := by decide +kernel
theorem dX7_needsOf_45 : decode cX7_needsOf 45 = .ok (.ireturn, 1) := by decide +kernel
theorem dX7_needsOf_46 : decode cX7_needsOf 46 = .ok (.iload_n 2, 1) := by decide +kernel
theorem dX7_needsOf_47 : decode cX7_needsOf 47 = .ok (.iconst 1, 1) := by decide +kernel
theorem dX7_needsOf_48 : decode cX7_needsOf 48 = .ok (.iadd, 1) := by decide +kernel
theorem dX7_needsOf_49 : decode cX7_needsOf 49 = .ok (.ireturn, 1) := by decide +kernel
theorem dX7_needsOf_50 : decode cX7_needsOf 50 = .ok (.iload_n 2, 1) := by decide +kernel
theorem dX7_needsOf_51 : decode cX7_needsOf 51 = .ok (.ireturn, 1) := by decide +kernel
theorem dX7_needs_0 : decode cX7_needs 0 = .ok (.iload_n 1, 1) := by decide +kernel
theorem dX7_needs_1 : decode cX7_needs 1 = .ok (.invokestatic 100, 3) := by decide +kernel
theorem dX7_needs_4 : decode cX7_needs 4 = .ok (.ifCond .eq 25, 3) := by decide +kernel
theorem dX7_needs_7 : decode cX7_needs 7 = .ok (.aload_n 0, 1) := by decide +kernel
theorem dX7_needs_8 : decode cX7_needs 8 = .ok (.iload_n 2, 1) := by decide +kernel
theorem dX7_needs_9 : decode cX7_needs 9 = .ok (.invokevirtual 89, 3) := by decide +kernel
theorem dX7_needs_12 : decode cX7_needs 12 = .ok (.ifCond .eq 17, 3) := by decide +kernel
theorem dX7_needs_15 : decode cX7_needs 15 = .ok (.aload_n 0, 1) := by decide +kernel
theorem dX7_needs_16 : decode cX7_needs 16 = .ok (.iload_n 1, 1) := by decide +kernel
theorem dX7_needs_17 : decode cX7_needs 17 = .ok (.aload_n 0, 1) := by decide +kernel
theorem dX7_needs_18 : decode cX7_needs 18 = .ok (.iload_n 2, 1) := by decide +kernel
theorem dX7_needs_19 : decode cX7_needs 19 = .ok (.iconst 2, 1) := by decide +kernel
theorem dX7_needs_20 : decode cX7_needs 20 = .ok (.invokevirtual 58, 3) := by decide +kernel
theorem dX7_needs_23 : decode cX7_needs 23 = .ok (.invokevirtual 103, 3) := by decide +kernel
theorem dX7_needs_26 : decode cX7_needs 26 = .ok (.goto 9, 3) := by decide +kernel
theorem dX7_needs_29 : decode cX7_needs 29 = .ok (.aload_n 0, 1) := by decide +kernel
theorem dX7_needs_30 : decode cX7_needs 30 = .ok (.ldc 44, 2) := by decide +kernel
theorem dX7_needs_32 : decode cX7_needs 32 = .ok (.invokevirtual 49, 3) := by decide +kernel
theorem dX7_needs_35 : decode cX7_needs 35 = .ok (.ireturn, 1) := by decide +kernel
theorem dX7_goesDown_0 : decode cX7_goesDown 0 = .ok (.iload_n 1, 1) := by decide +kernel
theorem dX7_goesDown_1 : decode cX7_goesDown 1 = .ok (.iconst 3, 1) := by decide +kernel
theorem dX7_goesDown_2 : decode cX7_goesDown 2 = .ok (.if_icmp .eq 8, 3) := by decide +kernel
theorem dX7_goesDown_5 : decode cX7_goesDown 5 = .ok (.iload_n 1, 1) := by decide +kernel
theorem dX7_goesDown_6 : decode cX7_goesDown 6 = .ok (.iconst 5, 1) := by decide +kernel
theorem dX7_goesDown_7 : decode cX7_goesDown 7 = .ok (.if_icmp .ne 7, 3) := by decide +kernel
theorem dX7_goesDown_10 : decode cX7_goesDown 10 = .ok (.iconst 1, 1) := by decide +kernel
theorem dX7_goesDown_11 : decode cX7_goesDown 11 = .ok (.goto 4, 3) := by decide +kernel
theorem dX7_goesDown_14 : decode cX7_goesDown 14 = .ok (.iconst 0, 1) := by decide +kernel
theorem dX7_goesDown_15 : decode cX7_goesDown 15 = .ok (.istore 4, 2) := by decide +kernel
theorem dX7_goesDown_17 : decode cX7_goesDown 17 = .ok (.aload_n 0, 1) := by decide +kernel
theorem dX7_goesDown_18 : decode cX7_goesDown 18 = .ok (.iload_n 3, 1) := by decide +kernel
theorem dX7_goesDown_19 : decode cX7_goesDown 19 = .ok (.invokevirtual 69, 3) := by decide +kernel
theorem dX7_goesDown_22 : decode cX7_goesDown 22 = .ok (.aload_n 0, 1) := by decide +kernel
theorem dX7_goesDown_23 : decode cX7_goesDown 23 = .ok (.iload_n 2, 1) := by decide +kernel
theorem dX7_goesDown_24 : decode cX7_goesDown 24 = .ok (.invokevirtual 69, 3) := by decide +kernel
theorem dX7_goesDown_27 : decode cX7_goesDown 27 = .ok (.if_icmp .lt 21, 3) := by decide +kernel
theorem dX7_goesDown_30 : decode cX7_goesDown 30 = .ok (.iload 4, 2) := by decide +kernel
theorem dX7_goesDown_32 : decode cX7_goesDown 32 = .ok (.ifCond .eq 20, 3) := by decide +kernel
theorem dX7_goesDown_35 : decode cX7_goesDown 35 = .ok (.aload_n 0, 1) := by decide +kernel
theorem dX7_goesDown_36 : decode cX7_goesDown 36 = .ok (.iload_n 3, 1) := by decide +kernel
theorem dX7_goesDown_37 : decode cX7_goesDown 37 = .ok (.invokevirtual 69, 3) := by decide +kernel
theorem dX7_goesDown_40 : decode cX7_goesDown 40 = .ok (.aload_n 0, 1) := by decide +kernel
theorem dX7_goesDown_41 : decode cX7_goesDown 41 = .ok (.iload_n 2, 1) := by decide +kernel
theorem dX7_goesDown_42 : decode cX7_goesDown 42 = .ok (.invokevirtual 69, 3) := by decide +kernel
theorem dX7_goesDown_45 : decode cX7_goesDown 45 = .ok (.if_icmp .ne 7, 3) := by decide +kernel
theorem dX7_goesDown_48 : decode cX7_goesDown 48 = .ok (.iconst 1, 1) := by decide +kernel
theorem dX7_goesDown_49 : decode cX7_goesDown 49 = .ok (.goto 4, 3) := by decide +kernel
theorem dX7_goesDown_52 : decode cX7_goesDown 52 = .ok (.iconst 0, 1) := by decide +kernel
theorem dX7_goesDown_53 : decode cX7_goesDown 53 = .ok (.istore 5, 2) := by decide +kernel
theorem dX7_goesDown_55 : decode cX7_goesDown 55 = .ok (.iload 5, 2) := by decide +kernel
theorem dX7_goesDown_57 : decode cX7_goesDown 57 = .ok (.ifCond .eq 20, 3) := by decide +kernel
theorem dX7_goesDown_60 : decode cX7_goesDown 60 = .ok (.iload_n 1, 1) := by decide +kernel
theorem dX7_goesDown_61 : decode cX7_goesDown 61 = .ok (.iconst 4, 1) := by decide +kernel
theorem dX7_goesDown_62 : decode cX7_goesDown 62 = .ok (.if_icmp .ne 11, 3) := by decide +kernel
theorem dX7_goesDown_65 : decode cX7_goesDown 65 = .ok (.aload_n 0, 1) := by decide +kernel
theorem dX7_goesDown_66 : decode cX7_goesDown 66 = .ok (.iload_n 3, 1) := by decide +kernel
theorem dX7_goesDown_67 : decode cX7_goesDown 67 = .ok (.invokevirtual 78, 3) := by decide +kernel
theorem dX7_goesDown_70 : decode cX7_goesDown 70 = .ok (.ifCond .ne 7, 3) := by decide +kernel
theorem dX7_goesDown_73 : decode cX7_goesDown 73 = .ok (.iconst 1, 1) := by decide +kernel
theorem dX7_goesDown_74 : decode cX7_goesDown 74 = .ok (.goto 4, 3) := by decide +kernel
theorem dX7_goesDown_77 : decode cX7_goesDown 77 = .ok (.iconst 0, 1) := by decide +kernel
theorem dX7_goesDown_78 : decode cX7_goesDown 78 = .ok (.ireturn, 1) := by decide +kernel
theorem dX7_goes_0 : decode cX7_goes 0 = .ok (.iload_n 1, 1) := by decide +kernel
theorem dX7_goes_1 : decode cX7_goes 1 = .ok (.invokestatic 100, 3) := by decide +kernel
theorem dX7_goes_4 : decode cX7_goes 4 = .ok (.ifCond .eq 11, 3) := by decide +kernel
theorem dX7_goes_7 : decode cX7_goes 7 = .ok (.aload_n 0, 1) := by decide +kernel
theorem dX7_goes_8 : decode cX7_goes 8 = .ok (.iload_n 2, 1) := by decide +kernel
theorem dX7_goes_9 : decode cX7_goes 9 = .ok (.invokevirtual 89, 3) := by decide +kernel
theorem dX7_goes_12 : decode cX7_goes 12 = .ok (.ifCond .ne 10, 3) := by decide +kernel
theorem dX7_goes_15 : decode cX7_goes 15 = .ok (.aload_n 0, 1) := by decide +kernel
theorem dX7_goes_16 : decode cX7_goes 16 = .ok (.ldc 44, 2) := by decide +kernel
theorem dX7_goes_18 : decode cX7_goes 18 = .ok (.invokevirtual 49, 3) := by decide +kernel
theorem dX7_goes_21 : decode cX7_goes 21 = .ok (.ireturn, 1) := by decide +kernel
theorem dX7_goes_22 : decode cX7_goes 22 = .ok (.aload_n 0, 1) := by decide +kernel
theorem dX7_goes_23 : decode cX7_goes 23 = .ok (.iload_n 1, 1) := by decide +kernel
theorem dX7_goes_24 : decode cX7_goes 24 = .ok (.aload_n 0, 1) := by decide +kernel
theorem dX7_goes_25 : decode cX7_goes 25 = .ok (.iload_n 2, 1) := by decide +kernel
theorem dX7_goes_26 : decode cX7_goes 26 = .ok (.iload_n 3, 1) := by decide +kernel
theorem dX7_goes_27 : decode cX7_goes 27 = .ok (.ifCond .eq 7, 3) := by decide +kernel
theorem dX7_goes_30 : decode cX7_goes 30 = .ok (.iconst 1, 1) := by decide +kernel
theorem dX7_goes_31 : decode cX7_goes 31 = .ok (.goto 4, 3) := by decide +kernel
theorem dX7_goes_34 : decode cX7_goes 34 = .ok (.iconst 0, 1) := by decide +kernel
theorem dX7_goes_35 : decode cX7_goes 35 = .ok (.invokevirtual 58, 3) := by decide +kernel
theorem dX7_goes_38 : decode cX7_goes 38 = .ok (.aload_n 0, 1) := by decide +kernel
theorem dX7_goes_39 : decode cX7_goes 39 = .ok (.iload_n 2, 1) := by decide +kernel
theorem dX7_goes_40 : decode cX7_goes 40 = .ok (.iload_n 3, 1) := by decide +kernel
theorem dX7_goes_41 : decode cX7_goes 41 = .ok (.ifCond .eq 7, 3) := by decide +kernel
theorem dX7_goes_44 : decode cX7_goes 44 = .ok (.iconst 0, 1) := by decide +kernel
theorem dX7_goes_45 : decode cX7_goes 45 = .ok (.goto 4, 3) := by decide +kernel
theorem dX7_goes_48 : decode cX7_goes 48 = .ok (.iconst 1, 1) := by decide +kernel
theorem dX7_goes_49 : decode cX7_goes 49 = .ok (.invokevirtual 58, 3) := by decide +kernel
theorem dX7_goes_52 : decode cX7_goes 52 = .ok (.invokevirtual 106, 3) := by decide +kernel
theorem dX7_goes_55 : decode cX7_goes 55 = .ok (.ifCond .eq 7, 3) := by decide +kernel
theorem dX7_goes_58 : decode cX7_goes 58 = .ok (.iconst 1, 1) := by decide +kernel
theorem dX7_goes_59 : decode cX7_goes 59 = .ok (.goto 4, 3) := by decide +kernel
theorem dX7_goes_62 : decode cX7_goes 62 = .ok (.iconst 0, 1) := by decide +kernel
theorem dX7_goes_63 : decode cX7_goes 63 = .ok (.ireturn, 1) := by decide +kernel
theorem dX7_flies_0 : decode cX7_flies 0 = .ok (.iload_n 1, 1) := by decide +kernel
theorem dX7_flies_1 : decode cX7_flies 1 = .ok (.iconst 5, 1) := by decide +kernel
theorem dX7_flies_2 : decode cX7_flies 2 = .ok (.if_icmp .eq 23, 3) := by decide +kernel
theorem dX7_flies_5 : decode cX7_flies 5 = .ok (.iload_n 1, 1) := by decide +kernel
theorem dX7_flies_6 : decode cX7_flies 6 = .ok (.iconst 4, 1) := by decide +kernel
theorem dX7_flies_7 : decode cX7_flies 7 = .ok (.if_icmp .ne 14, 3) := by decide +kernel
theorem dX7_flies_10 : decode cX7_flies 10 = .ok (.aload_n 0, 1) := by decide +kernel
theorem dX7_flies_11 : decode cX7_flies 11 = .ok (.aload_n 0, 1) := by decide +kernel
theorem dX7_flies_12 : decode cX7_flies 12 = .ok (.invokevirtual 97, 3) := by decide +kernel
theorem dX7_flies_15 : decode cX7_flies 15 = .ok (.invokevirtual 78, 3) := by decide +kernel
theorem dX7_flies_18 : decode cX7_flies 18 = .ok (.ifCond .ne 7, 3) := by decide +kernel
theorem dX7_flies_21 : decode cX7_flies 21 = .ok (.iconst 1, 1) := by decide +kernel
theorem dX7_flies_22 : decode cX7_flies 22 = .ok (.goto 4, 3) := by decide +kernel
theorem dX7_flies_25 : decode cX7_flies 25 = .ok (.iconst 0, 1) := by decide +kernel
theorem dX7_flies_26 : decode cX7_flies 26 = .ok (.ireturn, 1) := by decide +kernel
theorem dX7_takesRoad_0 : decode cX7_takesRoad 0 = .ok (.aload_n 0, 1) := by decide +kernel
theorem dX7_takesRoad_1 : decode cX7_takesRoad 1 = .ok (.getfield 16, 3) := by decide +kernel
theorem dX7_takesRoad_4 : decode cX7_takesRoad 4 = .ok (.iload_n 2, 1) := by decide +kernel
theorem dX7_takesRoad_5 : decode cX7_takesRoad 5 = .ok (.iaload, 1) := by decide +kernel
theorem dX7_takesRoad_6 : decode cX7_takesRoad 6 = .ok (.ldc 109, 2) := by decide +kernel
theorem dX7_takesRoad_8 : decode cX7_takesRoad 8 = .ok (.if_icmp .eq 13, 3) := by decide +kernel
theorem dX7_takesRoad_11 : decode cX7_takesRoad 11 = .ok (.aload_n 0, 1) := by decide +kernel
theorem dX7_takesRoad_12 : decode cX7_takesRoad 12 = .ok (.iload_n 1, 1) := by decide +kernel
theorem dX7_takesRoad_13 : decode cX7_takesRoad 13 = .ok (.iload_n 2, 1) := by decide +kernel
theorem dX7_takesRoad_14 : decode cX7_takesRoad 14 = .ok (.iload_n 3, 1) := by decide +kernel
theorem dX7_takesRoad_15 : decode cX7_takesRoad 15 = .ok (.invokevirtual 106, 3) := by decide +kernel
theorem dX7_takesRoad_18 : decode cX7_takesRoad 18 = .ok (.ifCond .ne 5, 3) := by decide +kernel
theorem dX7_takesRoad_21 : decode cX7_takesRoad 21 = .ok (.iconst 0, 1) := by decide +kernel
theorem dX7_takesRoad_22 : decode cX7_takesRoad 22 = .ok (.ireturn, 1) := by decide +kernel
theorem dX7_takesRoad_23 : decode cX7_takesRoad 23 = .ok (.aload_n 0, 1) := by decide +kernel
theorem dX7_takesRoad_24 : decode cX7_takesRoad 24 = .ok (.getfield 16, 3) := by decide +kernel
theorem dX7_takesRoad_27 : decode cX7_takesRoad 27 = .ok (.iload_n 2, 1) := by decide +kernel
theorem dX7_takesRoad_28 : decode cX7_takesRoad 28 = .ok (.iaload, 1) := by decide +kernel
theorem dX7_takesRoad_29 : decode cX7_takesRoad 29 = .ok (.aload_n 0, 1) := by decide +kernel
theorem dX7_takesRoad_30 : decode cX7_takesRoad 30 = .ok (.iload_n 1, 1) := by decide +kernel
theorem dX7_takesRoad_31 : decode cX7_takesRoad 31 = .ok (.iload 4, 2) := by decide +kernel
theorem dX7_takesRoad_33 : decode cX7_takesRoad 33 = .ok (.invokevirtual 103, 3) := by decide +kernel
theorem dX7_takesRoad_36 : decode cX7_takesRoad 36 = .ok (.iadd, 1) := by decide +kernel
theorem dX7_takesRoad_37 : decode cX7_takesRoad 37 = .ok (.istore 5, 2) := by decide +kernel
theorem dX7_takesRoad_39 : decode cX7_takesRoad 39 = .ok (.iload 5, 2) := by decide +kernel
theorem dX7_takesRoad_41 : decode cX7_takesRoad 41 = .ok (.aload_n 0, 1) := by decide +kernel
theorem dX7_takesRoad_42 : decode cX7_takesRoad 42 = .ok (.getfield 16, 3) := by decide +kernel
theorem dX7_takesRoad_45 : decode cX7_takesRoad 45 = .ok (.iload_n 3, 1) := by decide +kernel
theorem dX7_takesRoad_46 : decode cX7_takesRoad 46 = .ok (.iaload, 1) := by decide +kernel
theorem dX7_takesRoad_47 : decode cX7_takesRoad 47 = .ok (.if_icmp .ge 7, 3) := by decide +kernel
theorem dX7_takesRoad_50 : decode cX7_takesRoad 50 = .ok (.iconst 1, 1) := by decide +kernel
theorem dX7_takesRoad_51 : decode cX7_takesRoad 51 = .ok (.goto 4, 3) := by decide +kernel
theorem dX7_takesRoad_54 : decode cX7_takesRoad 54 = .ok (.iconst 0, 1) := by decide +kernel
theorem dX7_takesRoad_55 : decode cX7_takesRoad 55 = .ok (.istore 6, 2) := by decide +kernel
theorem dX7_takesRoad_57 : decode cX7_takesRoad 57 = .ok (.aload_n 0, 1) := by decide +kernel
theorem dX7_takesRoad_58 : decode cX7_takesRoad 58 = .ok (.getfield 16, 3) := by decide +kernel
theorem dX7_takesRoad_61 : decode cX7_takesRoad 61 = .ok (.iload_n 3, 1) := by decide +kernel
theorem dX7_takesRoad_62 : decode cX7_takesRoad 62 = .ok (.iload 6, 2) := by decide +kernel
theorem dX7_takesRoad_64 : decode cX7_takesRoad 64 = .ok (.ifCond .eq 8, 3) := by decide +kernel
theorem dX7_takesRoad_67 : decode cX7_takesRoad 67 = .ok (.iload 5, 2) := by decide +kernel
theorem dX7_takesRoad_69 : decode cX7_takesRoad 69 = .ok (.goto 9, 3) := by decide +kernel
theorem dX7_takesRoad_72 : decode cX7_takesRoad 72 = .ok (.aload_n 0, 1) := by decide +kernel
theorem dX7_takesRoad_73 : decode cX7_takesRoad 73 = .ok (.getfield 16, 3) := by decide +kernel
theorem dX7_takesRoad_76 : decode cX7_takesRoad 76 = .ok (.iload_n 3, 1) := by decide +kernel
theorem dX7_takesRoad_77 : decode cX7_takesRoad 77 = .ok (.iaload, 1) := by decide +kernel
theorem dX7_takesRoad_78 : decode cX7_takesRoad 78 = .ok (.iastore, 1) := by decide +kernel
theorem dX7_takesRoad_79 : decode cX7_takesRoad 79 = .ok (.iload 6, 2) := by decide +kernel
theorem dX7_takesRoad_81 : decode cX7_takesRoad 81 = .ok (.ireturn, 1) := by decide +kernel
theorem dX7_takesBalloon_0 : decode cX7_takesBalloon 0 = .ok (.aload_n 0, 1) := by decide +kernel
theorem dX7_takesBalloon_1 : decode cX7_takesBalloon 1 = .ok (.invokevirtual 93, 3) := by decide +kernel
theorem dX7_takesBalloon_4 : decode cX7_takesBalloon 4 = .ok (.istore_n 1, 1) := by decide +kernel
theorem dX7_takesBalloon_5 : decode cX7_takesBalloon 5 = .ok (.aload_n 0, 1) := by decide +kernel
theorem dX7_takesBalloon_6 : decode cX7_takesBalloon 6 = .ok (.invokevirtual 97, 3) := by decide +kernel
theorem dX7_takesBalloon_9 : decode cX7_takesBalloon 9 = .ok (.istore_n 2, 1) := by decide +kernel
theorem dX7_takesBalloon_10 : decode cX7_takesBalloon 10 = .ok (.aload_n 0, 1) := by decide +kernel
theorem dX7_takesBalloon_11 : decode cX7_takesBalloon 11 = .ok (.getfield 16, 3) := by decide +kernel
theorem dX7_takesBalloon_14 : decode cX7_takesBalloon 14 = .ok (.iload_n 1, 1) := by decide +kernel
theorem dX7_takesBalloon_15 : decode cX7_takesBalloon 15 = .ok (.iaload, 1) := by decide +kernel
theorem dX7_takesBalloon_16 : decode cX7_takesBalloon 16 = .ok (.ldc 109, 2) := by decide +kernel
theorem dX7_takesBalloon_18 : decode cX7_takesBalloon 18 = .ok (.if_icmp .ne 5, 3) := by decide +kernel
theorem dX7_takesBalloon_21 : decode cX7_takesBalloon 21 = .ok (.iconst 0, 1) := by decide +kernel
theorem dX7_takesBalloon_22 : decode cX7_takesBalloon 22 = .ok (.ireturn, 1) := by decide +kernel
theorem dX7_takesBalloon_23 : decode cX7_takesBalloon 23 = .ok (.aload_n 0, 1) := by decide +kernel
theorem dX7_takesBalloon_24 : decode cX7_takesBalloon 24 = .ok (.getfield 16, 3) := by decide +kernel
theorem dX7_takesBalloon_27 : decode cX7_takesBalloon 27 = .ok (.iload_n 1, 1) := by decide +kernel
theorem dX7_takesBalloon_28 : decode cX7_takesBalloon 28 = .ok (.iaload, 1) := by decide +kernel
theorem dX7_takesBalloon_29 : decode cX7_takesBalloon 29 = .ok (.aload_n 0, 1) := by decide +kernel
theorem dX7_takesBalloon_30 : decode cX7_takesBalloon 30 = .ok (.getfield 7, 3) := by decide +kernel
theorem dX7_takesBalloon_33 : decode cX7_takesBalloon 33 = .ok (.iconst 3, 1) := by decide +kernel
theorem dX7_takesBalloon_34 : decode cX7_takesBalloon 34 = .ok (.iaload, 1) := by decide +kernel
theorem dX7_takesBalloon_35 : decode cX7_takesBalloon 35 = .ok (.irem, 1) := by decide +kernel
theorem dX7_takesBalloon_36 : decode cX7_takesBalloon 36 = .ok (.istore_n 3, 1) := by decide +kernel
theorem dX7_takesBalloon_37 : decode cX7_takesBalloon 37 = .ok (.aload_n 0, 1) := by decide +kernel
theorem dX7_takesBalloon_38 : decode cX7_takesBalloon 38 = .ok (.getfield 16, 3) := by decide +kernel
theorem dX7_takesBalloon_41 : decode cX7_takesBalloon 41 = .ok (.iload_n 1, 1) := by decide +kernel
theorem dX7_takesBalloon_42 : decode cX7_takesBalloon 42 = .ok (.iaload, 1) := by decide +kernel
theorem dX7_takesBalloon_43 : decode cX7_takesBalloon 43 = .ok (.iload_n 3, 1) := by decide +kernel
theorem dX7_takesBalloon_44 : decode cX7_takesBalloon 44 = .ok (.ifCond .ne 7, 3) := by decide +kernel
theorem dX7_takesBalloon_47 : decode cX7_takesBalloon 47 = .ok (.iconst 0, 1) := by decide +kernel
theorem dX7_takesBalloon_48 : decode cX7_takesBalloon 48 = .ok (.goto 11, 3) := by decide +kernel
theorem dX7_takesBalloon_51 : decode cX7_takesBalloon 51 = .ok (.aload_n 0, 1) := by decide +kernel
theorem dX7_takesBalloon_52 : decode cX7_takesBalloon 52 = .ok (.getfield 7, 3) := by decide +kernel
theorem dX7_takesBalloon_55 : decode cX7_takesBalloon 55 = .ok (.iconst 3, 1) := by decide +kernel
theorem dX7_takesBalloon_56 : decode cX7_takesBalloon 56 = .ok (.iaload, 1) := by decide +kernel
theorem dX7_takesBalloon_57 : decode cX7_takesBalloon 57 = .ok (.iload_n 3, 1) := by decide +kernel
theorem dX7_takesBalloon_58 : decode cX7_takesBalloon 58 = .ok (.isub, 1) := by decide +kernel
theorem dX7_takesBalloon_59 : decode cX7_takesBalloon 59 = .ok (.iadd, 1) := by decide +kernel
theorem dX7_takesBalloon_60 : decode cX7_takesBalloon 60 = .ok (.iconst 1, 1) := by decide +kernel
theorem dX7_takesBalloon_61 : decode cX7_takesBalloon 61 = .ok (.iadd, 1) := by decide +kernel
theorem dX7_takesBalloon_62 : decode cX7_takesBalloon 62 = .ok (.istore 4, 2) := by decide +kernel
theorem dX7_takesBalloon_64 : decode cX7_takesBalloon 64 = .ok (.iload 4, 2) := by decide +kernel
theorem dX7_takesBalloon_66 : decode cX7_takesBalloon 66 = .ok (.aload_n 0, 1) := by decide +kernel
theorem dX7_takesBalloon_67 : decode cX7_takesBalloon 67 = .ok (.getfield 16, 3) := by decide +kernel
theorem dX7_takesBalloon_70 : decode cX7_takesBalloon 70 = .ok (.iload_n 2, 1) := by decide +kernel
theorem dX7_takesBalloon_71 : decode cX7_takesBalloon 71 = .ok (.iaload, 1) := by decide +kernel
theorem dX7_takesBalloon_72 : decode cX7_takesBalloon 72 = .ok (.if_icmp .ge 7, 3) := by decide +kernel
theorem dX7_takesBalloon_75 : decode cX7_takesBalloon 75 = .ok (.iconst 1, 1) := by decide +kernel
theorem dX7_takesBalloon_76 : decode cX7_takesBalloon 76 = .ok (.goto 4, 3) := by decide +kernel
theorem dX7_takesBalloon_79 : decode cX7_takesBalloon 79 = .ok (.iconst 0, 1) := by decide +kernel
theorem dX7_takesBalloon_80 : decode cX7_takesBalloon 80 = .ok (.istore 5, 2) := by decide +kernel
theorem dX7_takesBalloon_82 : decode cX7_takesBalloon 82 = .ok (.aload_n 0, 1) := by decide +kernel
theorem dX7_takesBalloon_83 : decode cX7_takesBalloon 83 = .ok (.getfield 16, 3) := by decide +kernel
theorem dX7_takesBalloon_86 : decode cX7_takesBalloon 86 = .ok (.iload_n 2, 1) := by decide +kernel
theorem dX7_takesBalloon_87 : decode cX7_takesBalloon 87 = .ok (.iload 5, 2) := by decide +kernel
theorem dX7_takesBalloon_89 : decode cX7_takesBalloon 89 = .ok (.ifCond .eq 8, 3) := by decide +kernel
theorem dX7_takesBalloon_92 : decode cX7_takesBalloon 92 = .ok (.iload 4, 2) := by decide +kernel
theorem dX7_takesBalloon_94 : decode cX7_takesBalloon 94 = .ok (.goto 9, 3) := by decide +kernel
theorem dX7_takesBalloon_97 : decode cX7_takesBalloon 97 = .ok (.aload_n 0, 1) := by decide +kernel
theorem dX7_takesBalloon_98 : decode cX7_takesBalloon 98 = .ok (.getfield 16, 3) := by decide +kernel
theorem dX7_takesBalloon_101 : decode cX7_takesBalloon 101 = .ok (.iload_n 2, 1) := by decide +kernel
theorem dX7_takesBalloon_102 : decode cX7_takesBalloon 102 = .ok (.iaload, 1) := by decide +kernel
theorem dX7_takesBalloon_103 : decode cX7_takesBalloon 103 = .ok (.iastore, 1) := by decide +kernel
theorem dX7_takesBalloon_104 : decode cX7_takesBalloon 104 = .ok (.iload 5, 2) := by decide +kernel
theorem dX7_takesBalloon_106 : decode cX7_takesBalloon 106 = .ok (.ireturn, 1) := by decide +kernel
theorem dX7_goesOn_0 : decode cX7_goesOn 0 = .ok (.iconst 0, 1) := by decide +kernel
theorem dX7_goesOn_1 : decode cX7_goesOn 1 = .ok (.istore_n 3, 1) := by decide +kernel
theorem dX7_goesOn_2 : decode cX7_goesOn 2 = .ok (.iconst 0, 1) := by decide +kernel
theorem dX7_goesOn_3 : decode cX7_goesOn 3 = .ok (.istore 4, 2) := by decide +kernel
theorem dX7_goesOn_5 : decode cX7_goesOn 5 = .ok (.iload 4, 2) := by decide +kernel
theorem dX7_goesOn_7 : decode cX7_goesOn 7 = .ok (.aload_n 0, 1) := by decide +kernel
theorem dX7_goesOn_8 : decode cX7_goesOn 8 = .ok (.getfield 7, 3) := by decide +kernel
theorem dX7_goesOn_11 : decode cX7_goesOn 11 = .ok (.iconst 1, 1) := by decide +kernel
theorem dX7_goesOn_12 : decode cX7_goesOn 12 = .ok (.iaload, 1) := by decide +kernel
theorem dX7_goesOn_13 : decode cX7_goesOn 13 = .ok (.if_icmp .ge 85, 3) := by decide +kernel
theorem dX7_goesOn_16 : decode cX7_goesOn 16 = .ok (.aload_n 0, 1) := by decide +kernel
theorem dX7_goesOn_17 : decode cX7_goesOn 17 = .ok (.iload_n 1, 1) := by decide +kernel
theorem dX7_goesOn_18 : decode cX7_goesOn 18 = .ok (.aload_n 0, 1) := by decide +kernel
theorem dX7_goesOn_19 : decode cX7_goesOn 19 = .ok (.iload 4, 2) := by decide +kernel
theorem dX7_goesOn_21 : decode cX7_goesOn 21 = .ok (.iconst 0, 1) := by decide +kernel
theorem dX7_goesOn_22 : decode cX7_goesOn 22 = .ok (.invokevirtual 58, 3) := by decide +kernel
theorem dX7_goesOn_25 : decode cX7_goesOn 25 = .ok (.aload_n 0, 1) := by decide +kernel
theorem dX7_goesOn_26 : decode cX7_goesOn 26 = .ok (.iload 4, 2) := by decide +kernel
theorem dX7_goesOn_28 : decode cX7_goesOn 28 = .ok (.iconst 1, 1) := by decide +kernel
theorem dX7_goesOn_29 : decode cX7_goesOn 29 = .ok (.invokevirtual 58, 3) := by decide +kernel
theorem dX7_goesOn_32 : decode cX7_goesOn 32 = .ok (.aload_n 0, 1) := by decide +kernel
theorem dX7_goesOn_33 : decode cX7_goesOn 33 = .ok (.iload 4, 2) := by decide +kernel
theorem dX7_goesOn_35 : decode cX7_goesOn 35 = .ok (.iconst 2, 1) := by decide +kernel
theorem dX7_goesOn_36 : decode cX7_goesOn 36 = .ok (.invokevirtual 58, 3) := by decide +kernel
theorem dX7_goesOn_39 : decode cX7_goesOn 39 = .ok (.invokevirtual 110, 3) := by decide +kernel
theorem dX7_goesOn_42 : decode cX7_goesOn 42 = .ok (.istore 5, 2) := by decide +kernel
theorem dX7_goesOn_44 : decode cX7_goesOn 44 = .ok (.aload_n 0, 1) := by decide +kernel
theorem dX7_goesOn_45 : decode cX7_goesOn 45 = .ok (.iload_n 1, 1) := by decide +kernel
theorem dX7_goesOn_46 : decode cX7_goesOn 46 = .ok (.aload_n 0, 1) := by decide +kernel
theorem dX7_goesOn_47 : decode cX7_goesOn 47 = .ok (.iload 4, 2) := by decide +kernel
theorem dX7_goesOn_49 : decode cX7_goesOn 49 = .ok (.iconst 1, 1) := by decide +kernel
theorem dX7_goesOn_50 : decode cX7_goesOn 50 = .ok (.invokevirtual 58, 3) := by decide +kernel
theorem dX7_goesOn_53 : decode cX7_goesOn 53 = .ok (.aload_n 0, 1) := by decide +kernel
theorem dX7_goesOn_54 : decode cX7_goesOn 54 = .ok (.iload 4, 2) := by decide +kernel
theorem dX7_goesOn_56 : decode cX7_goesOn 56 = .ok (.iconst 0, 1) := by decide +kernel
theorem dX7_goesOn_57 : decode cX7_goesOn 57 = .ok (.invokevirtual 58, 3) := by decide +kernel
theorem dX7_goesOn_60 : decode cX7_goesOn 60 = .ok (.aload_n 0, 1) := by decide +kernel
theorem dX7_goesOn_61 : decode cX7_goesOn 61 = .ok (.iload 4, 2) := by decide +kernel
theorem dX7_goesOn_63 : decode cX7_goesOn 63 = .ok (.iconst 2, 1) := by decide +kernel
theorem dX7_goesOn_64 : decode cX7_goesOn 64 = .ok (.invokevirtual 58, 3) := by decide +kernel
theorem dX7_goesOn_67 : decode cX7_goesOn 67 = .ok (.invokevirtual 110, 3) := by decide +kernel
theorem dX7_goesOn_70 : decode cX7_goesOn 70 = .ok (.istore 6, 2) := by decide +kernel
theorem dX7_goesOn_72 : decode cX7_goesOn 72 = .ok (.iload_n 3, 1) := by decide +kernel
theorem dX7_goesOn_73 : decode cX7_goesOn 73 = .ok (.ifCond .ne 13, 3) := by decide +kernel
theorem dX7_goesOn_76 : decode cX7_goesOn 76 = .ok (.iload 5, 2) := by decide +kernel
theorem dX7_goesOn_78 : decode cX7_goesOn 78 = .ok (.ifCond .ne 8, 3) := by decide +kernel
theorem dX7_goesOn_81 : decode cX7_goesOn 81 = .ok (.iload 6, 2) := by decide +kernel
theorem dX7_goesOn_83 : decode cX7_goesOn 83 = .ok (.ifCond .eq 7, 3) := by decide +kernel
theorem dX7_goesOn_86 : decode cX7_goesOn 86 = .ok (.iconst 1, 1) := by decide +kernel
theorem dX7_goesOn_87 : decode cX7_goesOn 87 = .ok (.goto 4, 3) := by decide +kernel
theorem dX7_goesOn_90 : decode cX7_goesOn 90 = .ok (.iconst 0, 1) := by decide +kernel
theorem dX7_goesOn_91 : decode cX7_goesOn 91 = .ok (.istore_n 3, 1) := by decide +kernel
theorem dX7_goesOn_92 : decode cX7_goesOn 92 = .ok (.iinc 4 1, 3) := by decide +kernel
theorem dX7_goesOn_95 : decode cX7_goesOn 95 = .ok (.goto (-90), 3) := by decide +kernel
theorem dX7_goesOn_98 : decode cX7_goesOn 98 = .ok (.iload_n 2, 1) := by decide +kernel
theorem dX7_goesOn_99 : decode cX7_goesOn 99 = .ok (.ifCond .eq 14, 3) := by decide +kernel
theorem dX7_goesOn_102 : decode cX7_goesOn 102 = .ok (.aload_n 0, 1) := by decide +kernel
theorem dX7_goesOn_103 : decode cX7_goesOn 103 = .ok (.invokevirtual 114, 3) := by decide +kernel
theorem dX7_goesOn_106 : decode cX7_goesOn 106 = .ok (.ifCond .eq 7, 3) := by decide +kernel
theorem dX7_goesOn_109 : decode cX7_goesOn 109 = .ok (.iconst 1, 1) := by decide +kernel
theorem dX7_goesOn_110 : decode cX7_goesOn 110 = .ok (.goto 4, 3) := by decide +kernel
theorem dX7_goesOn_113 : decode cX7_goesOn 113 = .ok (.iconst 0, 1) := by decide +kernel
theorem dX7_goesOn_114 : decode cX7_goesOn 114 = .ok (.istore 4, 2) := by decide +kernel
theorem dX7_goesOn_116 : decode cX7_goesOn 116 = .ok (.iload_n 3, 1) := by decide +kernel
theorem dX7_goesOn_117 : decode cX7_goesOn 117 = .ok (.ifCond .ne 8, 3) := by decide +kernel
theorem dX7_goesOn_120 : decode cX7_goesOn 120 = .ok (.iload 4, 2) := by decide +kernel
theorem dX7_goesOn_122 : decode cX7_goesOn 122 = .ok (.ifCond .eq 7, 3) := by decide +kernel
theorem dX7_goesOn_125 : decode cX7_goesOn 125 = .ok (.iconst 1, 1) := by decide +kernel
theorem dX7_goesOn_126 : decode cX7_goesOn 126 = .ok (.goto 4, 3) := by decide +kernel
theorem dX7_goesOn_129 : decode cX7_goesOn 129 = .ok (.iconst 0, 1) := by decide +kernel
theorem dX7_goesOn_130 : decode cX7_goesOn 130 = .ok (.ireturn, 1) := by decide +kernel
theorem dX7_find_0 : decode cX7_find 0 = .ok (.iconst 0, 1) := by decide +kernel
theorem dX7_find_1 : decode cX7_find 1 = .ok (.istore 5, 2) := by decide +kernel
theorem dX7_find_3 : decode cX7_find 3 = .ok (.iload 5, 2) := by decide +kernel
theorem dX7_find_5 : decode cX7_find 5 = .ok (.bipush 12, 2) := by decide +kernel
theorem dX7_find_7 : decode cX7_find 7 = .ok (.if_icmp .ge 18, 3) := by decide +kernel
theorem dX7_find_10 : decode cX7_find 10 = .ok (.aload_n 0, 1) := by decide +kernel
theorem dX7_find_11 : decode cX7_find 11 = .ok (.getfield 16, 3) := by decide +kernel
theorem dX7_find_14 : decode cX7_find 14 = .ok (.iload 5, 2) := by decide +kernel
theorem dX7_find_16 : decode cX7_find 16 = .ok (.ldc 109, 2) := by decide +kernel
theorem dX7_find_18 : decode cX7_find 18 = .ok (.iastore, 1) := by decide +kernel
theorem dX7_find_19 : decode cX7_find 19 = .ok (.iinc 5 1, 3) := by decide +kernel
theorem dX7_find_22 : decode cX7_find 22 = .ok (.goto (-19), 3) := by decide +kernel
theorem dX7_find_25 : decode cX7_find 25 = .ok (.aload_n 0, 1) := by decide +kernel
theorem dX7_find_26 : decode cX7_find 26 = .ok (.getfield 16, 3) := by decide +kernel
theorem dX7_find_29 : decode cX7_find 29 = .ok (.iload_n 2, 1) := by decide +kernel
theorem dX7_find_30 : decode cX7_find 30 = .ok (.iload_n 3, 1) := by decide +kernel
theorem dX7_find_31 : decode cX7_find 31 = .ok (.iastore, 1) := by decide +kernel
theorem dX7_find_32 : decode cX7_find 32 = .ok (.iload 4, 2) := by decide +kernel
theorem dX7_find_34 : decode cX7_find 34 = .ok (.ifCond .eq 15, 3) := by decide +kernel
theorem dX7_find_37 : decode cX7_find 37 = .ok (.aload_n 0, 1) := by decide +kernel
theorem dX7_find_38 : decode cX7_find 38 = .ok (.iload_n 1, 1) := by decide +kernel
theorem dX7_find_39 : decode cX7_find 39 = .ok (.invokevirtual 118, 3) := by decide +kernel
theorem dX7_find_42 : decode cX7_find 42 = .ok (.ifCond .eq 7, 3) := by decide +kernel
theorem dX7_find_45 : decode cX7_find 45 = .ok (.iconst 1, 1) := by decide +kernel
theorem dX7_find_46 : decode cX7_find 46 = .ok (.goto 4, 3) := by decide +kernel
theorem dX7_find_49 : decode cX7_find 49 = .ok (.iconst 0, 1) := by decide +kernel
theorem dX7_find_50 : decode cX7_find 50 = .ok (.istore 5, 2) := by decide +kernel
theorem dX7_find_52 : decode cX7_find 52 = .ok (.iconst 1, 1) := by decide +kernel
theorem dX7_find_53 : decode cX7_find 53 = .ok (.istore 6, 2) := by decide +kernel
theorem dX7_find_55 : decode cX7_find 55 = .ok (.iload 6, 2) := by decide +kernel
theorem dX7_find_57 : decode cX7_find 57 = .ok (.ifCond .eq 15, 3) := by decide +kernel
theorem dX7_find_60 : decode cX7_find 60 = .ok (.aload_n 0, 1) := by decide +kernel
theorem dX7_find_61 : decode cX7_find 61 = .ok (.iload_n 1, 1) := by decide +kernel
theorem dX7_find_62 : decode cX7_find 62 = .ok (.iload 5, 2) := by decide +kernel
theorem dX7_find_64 : decode cX7_find 64 = .ok (.invokevirtual 121, 3) := by decide +kernel
theorem dX7_find_67 : decode cX7_find 67 = .ok (.istore 6, 2) := by decide +kernel
theorem dX7_find_69 : decode cX7_find 69 = .ok (.goto (-14), 3) := by decide +kernel
theorem dX7_find_72 : decode cX7_find 72 = .ok (.return_, 1) := by decide +kernel
theorem dX7_earliest_0 : decode cX7_earliest 0 = .ok (.aload_n 0, 1) := by decide +kernel
theorem dX7_earliest_1 : decode cX7_earliest 1 = .ok (.iload_n 1, 1) := by decide +kernel
theorem dX7_earliest_2 : decode cX7_earliest 2 = .ok (.iload_n 2, 1) := by decide +kernel
theorem dX7_earliest_3 : decode cX7_earliest 3 = .ok (.iload 4, 2) := by decide +kernel
theorem dX7_earliest_5 : decode cX7_earliest 5 = .ok (.iconst 1, 1) := by decide +kernel
theorem dX7_earliest_6 : decode cX7_earliest 6 = .ok (.invokevirtual 125, 3) := by decide +kernel
theorem dX7_earliest_9 : decode cX7_earliest 9 = .ok (.aload_n 0, 1) := by decide +kernel
theorem dX7_earliest_10 : decode cX7_earliest 10 = .ok (.getfield 16, 3) := by decide +kernel
theorem dX7_earliest_13 : decode cX7_earliest 13 = .ok (.iload_n 3, 1) := by decide +kernel
theorem dX7_earliest_14 : decode cX7_earliest 14 = .ok (.iaload, 1) := by decide +kernel
theorem dX7_earliest_15 : decode cX7_earliest 15 = .ok (.ireturn, 1) := by decide +kernel
theorem dX7_reached_0 : decode cX7_reached 0 = .ok (.iconst 0, 1) := by decide +kernel
theorem dX7_reached_1 : decode cX7_reached 1 = .ok (.istore_n 1, 1) := by decide +kernel
theorem dX7_reached_2 : decode cX7_reached 2 = .ok (.iconst 0, 1) := by decide +kernel
theorem dX7_reached_3 : decode cX7_reached 3 = .ok (.istore_n 2, 1) := by decide +kernel
theorem dX7_reached_4 : decode cX7_reached 4 = .ok (.iload_n 2, 1) := by decide +kernel
theorem dX7_reached_5 : decode cX7_reached 5 = .ok (.aload_n 0, 1) := by decide +kernel
theorem dX7_reached_6 : decode cX7_reached 6 = .ok (.getfield 7, 3) := by decide +kernel
theorem dX7_reached_9 : decode cX7_reached 9 = .ok (.iconst 0, 1) := by decide +kernel
theorem dX7_reached_10 : decode cX7_reached 10 = .ok (.iaload, 1) := by decide +kernel
theorem dX7_reached_11 : decode cX7_reached 11 = .ok (.if_icmp .ge 30, 3) := by decide +kernel
theorem dX7_reached_14 : decode cX7_reached 14 = .ok (.iload_n 1, 1) := by decide +kernel
theorem dX7_reached_15 : decode cX7_reached 15 = .ok (.aload_n 0, 1) := by decide +kernel
theorem dX7_reached_16 : decode cX7_reached 16 = .ok (.getfield 16, 3) := by decide +kernel
theorem dX7_reached_19 : decode cX7_reached 19 = .ok (.iload_n 2, 1) := by decide +kernel
theorem dX7_reached_20 : decode cX7_reached 20 = .ok (.iaload, 1) := by decide +kernel
theorem dX7_reached_21 : decode cX7_reached 21 = .ok (.ldc 109, 2) := by decide +kernel
theorem dX7_reached_23 : decode cX7_reached 23 = .ok (.if_icmp .ge 9, 3) := by decide +kernel
theorem dX7_reached_26 : decode cX7_reached 26 = .ok (.iconst 1, 1) := by decide +kernel
theorem dX7_reached_27 : decode cX7_reached 27 = .ok (.iload_n 2, 1) := by decide +kernel
theorem dX7_reached_28 : decode cX7_reached 28 = .ok (.ishl, 1) := by decide +kernel
theorem dX7_reached_29 : decode cX7_reached 29 = .ok (.goto 4, 3) := by decide +kernel
theorem dX7_reached_32 : decode cX7_reached 32 = .ok (.iconst 0, 1) := by decide +kernel
theorem dX7_reached_33 : decode cX7_reached 33 = .ok (.ior, 1) := by decide +kernel
theorem dX7_reached_34 : decode cX7_reached 34 = .ok (.istore_n 1, 1) := by decide +kernel
theorem dX7_reached_35 : decode cX7_reached 35 = .ok (.iinc 2 1, 3) := by decide +kernel
theorem dX7_reached_38 : decode cX7_reached 38 = .ok (.goto (-34), 3) := by decide +kernel
theorem dX7_reached_41 : decode cX7_reached 41 = .ok (.iload_n 1, 1) := by decide +kernel
theorem dX7_reached_42 : decode cX7_reached 42 = .ok (.ireturn, 1) := by decide +kernel
theorem dX7_isAsked_0 : decode cX7_isAsked 0 = .ok (.iload_n 1, 1) := by decide +kernel
theorem dX7_isAsked_1 : decode cX7_isAsked 1 = .ok (.invokestatic 100, 3) := by decide +kernel
theorem dX7_isAsked_4 : decode cX7_isAsked 4 = .ok (.ifCond .eq 23, 3) := by decide +kernel
theorem dX7_isAsked_7 : decode cX7_isAsked 7 = .ok (.aload_n 0, 1) := by decide +kernel
theorem dX7_isAsked_8 : decode cX7_isAsked 8 = .ok (.iload_n 2, 1) := by decide +kernel
theorem dX7_isAsked_9 : decode cX7_isAsked 9 = .ok (.invokevirtual 65, 3) := by decide +kernel
theorem dX7_isAsked_12 : decode cX7_isAsked 12 = .ok (.ifCond .eq 15, 3) := by decide +kernel
theorem dX7_isAsked_15 : decode cX7_isAsked 15 = .ok (.aload_n 0, 1) := by decide +kernel
theorem dX7_isAsked_16 : decode cX7_isAsked 16 = .ok (.iload_n 3, 1) := by decide +kernel
theorem dX7_isAsked_17 : decode cX7_isAsked 17 = .ok (.invokevirtual 65, 3) := by decide +kernel
theorem dX7_isAsked_20 : decode cX7_isAsked 20 = .ok (.ifCond .eq 7, 3) := by decide +kernel
theorem dX7_isAsked_23 : decode cX7_isAsked 23 = .ok (.iconst 1, 1) := by decide +kernel
theorem dX7_isAsked_24 : decode cX7_isAsked 24 = .ok (.goto 4, 3) := by decide +kernel
theorem dX7_isAsked_27 : decode cX7_isAsked 27 = .ok (.iconst 0, 1) := by decide +kernel
theorem dX7_isAsked_28 : decode cX7_isAsked 28 = .ok (.ireturn, 1) := by decide +kernel
theorem dX7_least_0 : decode cX7_least 0 = .ok (.aload_n 0, 1) := by decide +kernel
theorem dX7_least_1 : decode cX7_least 1 = .ok (.iload_n 1, 1) := by decide +kernel
theorem dX7_least_2 : decode cX7_least 2 = .ok (.iload_n 2, 1) := by decide +kernel
theorem dX7_least_3 : decode cX7_least 3 = .ok (.iload_n 3, 1) := by decide +kernel
theorem dX7_least_4 : decode cX7_least 4 = .ok (.invokevirtual 129, 3) := by decide +kernel
theorem dX7_least_7 : decode cX7_least 7 = .ok (.ifCond .ne 10, 3) := by decide +kernel
theorem dX7_least_10 : decode cX7_least 10 = .ok (.aload_n 0, 1) := by decide +kernel
theorem dX7_least_11 : decode cX7_least 11 = .ok (.ldc 44, 2) := by decide +kernel
theorem dX7_least_13 : decode cX7_least 13 = .ok (.invokevirtual 49, 3) := by decide +kernel
theorem dX7_least_16 : decode cX7_least 16 = .ok (.ireturn, 1) := by decide +kernel
theorem dX7_least_17 : decode cX7_least 17 = .ok (.aload_n 0, 1) := by decide +kernel
theorem dX7_least_18 : decode cX7_least 18 = .ok (.iload_n 1, 1) := by decide +kernel
theorem dX7_least_19 : decode cX7_least 19 = .ok (.iload_n 2, 1) := by decide +kernel
theorem dX7_least_20 : decode cX7_least 20 = .ok (.iload_n 3, 1) := by decide +kernel
theorem dX7_least_21 : decode cX7_least 21 = .ok (.aload_n 0, 1) := by decide +kernel
theorem dX7_least_22 : decode cX7_least 22 = .ok (.getfield 7, 3) := by decide +kernel
theorem dX7_least_25 : decode cX7_least 25 = .ok (.iconst 4, 1) := by decide +kernel
theorem dX7_least_26 : decode cX7_least 26 = .ok (.iaload, 1) := by decide +kernel
theorem dX7_least_27 : decode cX7_least 27 = .ok (.invokevirtual 132, 3) := by decide +kernel
theorem dX7_least_30 : decode cX7_least 30 = .ok (.istore 4, 2) := by decide +kernel
theorem dX7_least_32 : decode cX7_least 32 = .ok (.iload 4, 2) := by decide +kernel
theorem dX7_least_34 : decode cX7_least 34 = .ok (.ldc 109, 2) := by decide +kernel
theorem dX7_least_36 : decode cX7_least 36 = .ok (.if_icmp .ne 12, 3) := by decide +kernel
theorem dX7_least_39 : decode cX7_least 39 = .ok (.aload_n 0, 1) := by decide +kernel
theorem dX7_least_40 : decode cX7_least 40 = .ok (.ldc 92, 2) := by decide +kernel
theorem dX7_least_42 : decode cX7_least 42 = .ok (.invokevirtual 49, 3) := by decide +kernel
theorem dX7_least_45 : decode cX7_least 45 = .ok (.goto 12, 3) := by decide +kernel
theorem dX7_least_48 : decode cX7_least 48 = .ok (.iload 4, 2) := by decide +kernel
theorem dX7_least_50 : decode cX7_least 50 = .ok (.aload_n 0, 1) := by decide +kernel
theorem dX7_least_51 : decode cX7_least 51 = .ok (.getfield 7, 3) := by decide +kernel
theorem dX7_least_54 : decode cX7_least 54 = .ok (.iconst 4, 1) := by decide +kernel
theorem dX7_least_55 : decode cX7_least 55 = .ok (.iaload, 1) := by decide +kernel
theorem dX7_least_56 : decode cX7_least 56 = .ok (.isub, 1) := by decide +kernel
theorem dX7_least_57 : decode cX7_least 57 = .ok (.ireturn, 1) := by decide +kernel
theorem dX7_reachOf_0 : decode cX7_reachOf 0 = .ok (.aload_n 0, 1) := by decide +kernel
theorem dX7_reachOf_1 : decode cX7_reachOf 1 = .ok (.iload_n 1, 1) := by decide +kernel
theorem dX7_reachOf_2 : decode cX7_reachOf 2 = .ok (.iload_n 2, 1) := by decide +kernel
theorem dX7_reachOf_3 : decode cX7_reachOf 3 = .ok (.aload_n 0, 1) := by decide +kernel
theorem dX7_reachOf_4 : decode cX7_reachOf 4 = .ok (.getfield 7, 3) := by decide +kernel
theorem dX7_reachOf_7 : decode cX7_reachOf 7 = .ok (.iconst 4, 1) := by decide +kernel
theorem dX7_reachOf_8 : decode cX7_reachOf 8 = .ok (.iaload, 1) := by decide +kernel
theorem dX7_reachOf_9 : decode cX7_reachOf 9 = .ok (.iload_n 3, 1) := by decide +kernel
theorem dX7_reachOf_10 : decode cX7_reachOf 10 = .ok (.invokevirtual 125, 3) := by decide +kernel
theorem dX7_reachOf_13 : decode cX7_reachOf 13 = .ok (.aload_n 0, 1) := by decide +kernel
theorem dX7_reachOf_14 : decode cX7_reachOf 14 = .ok (.invokevirtual 136, 3) := by decide +kernel
theorem dX7_reachOf_17 : decode cX7_reachOf 17 = .ok (.ireturn, 1) := by decide +kernel
theorem dX7_reach_0 : decode cX7_reach 0 = .ok (.iload_n 1, 1) := by decide +kernel
theorem dX7_reach_1 : decode cX7_reach 1 = .ok (.invokestatic 100, 3) := by decide +kernel
theorem dX7_reach_4 : decode cX7_reach 4 = .ok (.ifCond .eq 21, 3) := by decide +kernel
theorem dX7_reach_7 : decode cX7_reach 7 = .ok (.aload_n 0, 1) := by decide +kernel
theorem dX7_reach_8 : decode cX7_reach 8 = .ok (.iload_n 2, 1) := by decide +kernel
theorem dX7_reach_9 : decode cX7_reach 9 = .ok (.invokevirtual 65, 3) := by decide +kernel
theorem dX7_reach_12 : decode cX7_reach 12 = .ok (.ifCond .eq 13, 3) := by decide +kernel
theorem dX7_reach_15 : decode cX7_reach 15 = .ok (.aload_n 0, 1) := by decide +kernel
theorem dX7_reach_16 : decode cX7_reach 16 = .ok (.iload_n 1, 1) := by decide +kernel
theorem dX7_reach_17 : decode cX7_reach 17 = .ok (.iload_n 2, 1) := by decide +kernel
theorem dX7_reach_18 : decode cX7_reach 18 = .ok (.iconst 1, 1) := by decide +kernel
theorem dX7_reach_19 : decode cX7_reach 19 = .ok (.invokevirtual 139, 3) := by decide +kernel
theorem dX7_reach_22 : decode cX7_reach 22 = .ok (.goto 9, 3) := by decide +kernel
theorem dX7_reach_25 : decode cX7_reach 25 = .ok (.aload_n 0, 1) := by decide +kernel
theorem dX7_reach_26 : decode cX7_reach 26 = .ok (.ldc 44, 2) := by decide +kernel
theorem dX7_reach_28 : decode cX7_reach 28 = .ok (.invokevirtual 49, 3) := by decide +kernel
theorem dX7_reach_31 : decode cX7_reach 31 = .ok (.ireturn, 1) := by decide +kernel
theorem dX7_whence_0 : decode cX7_whence 0 = .ok (.iload_n 1, 1) := by decide +kernel
theorem dX7_whence_1 : decode cX7_whence 1 = .ok (.invokestatic 100, 3) := by decide +kernel
theorem dX7_whence_4 : decode cX7_whence 4 = .ok (.ifCond .eq 11, 3) := by decide +kernel
theorem dX7_whence_7 : decode cX7_whence 7 = .ok (.aload_n 0, 1) := by decide +kernel
theorem dX7_whence_8 : decode cX7_whence 8 = .ok (.iload_n 2, 1) := by decide +kernel
theorem dX7_whence_9 : decode cX7_whence 9 = .ok (.invokevirtual 65, 3) := by decide +kernel
theorem dX7_whence_12 : decode cX7_whence 12 = .ok (.ifCond .ne 10, 3) := by decide +kernel
theorem dX7_whence_15 : decode cX7_whence 15 = .ok (.aload_n 0, 1) := by decide +kernel
theorem dX7_whence_16 : decode cX7_whence 16 = .ok (.ldc 44, 2) := by decide +kernel
theorem dX7_whence_18 : decode cX7_whence 18 = .ok (.invokevirtual 49, 3) := by decide +kernel
theorem dX7_whence_21 : decode cX7_whence 21 = .ok (.ireturn, 1) := by decide +kernel
theorem dX7_whence_22 : decode cX7_whence 22 = .ok (.iconst 0, 1) := by decide +kernel
theorem dX7_whence_23 : decode cX7_whence 23 = .ok (.istore_n 3, 1) := by decide +kernel
theorem dX7_whence_24 : decode cX7_whence 24 = .ok (.iconst 0, 1) := by decide +kernel
theorem dX7_whence_25 : decode cX7_whence 25 = .ok (.istore 4, 2) := by decide +kernel
theorem dX7_whence_27 : decode cX7_whence 27 = .ok (.iload 4, 2) := by decide +kernel
theorem dX7_whence_29 : decode cX7_whence 29 = .ok (.aload_n 0, 1) := by decide +kernel
theorem dX7_whence_30 : decode cX7_whence 30 = .ok (.getfield 7, 3) := by decide +kernel
theorem dX7_whence_33 : decode cX7_whence 33 = .ok (.iconst 0, 1) := by decide +kernel
theorem dX7_whence_34 : decode cX7_whence 34 = .ok (.iaload, 1) := by decide +kernel
theorem dX7_whence_35 : decode cX7_whence 35 = .ok (.if_icmp .ge 35, 3) := by decide +kernel
theorem dX7_whence_38 : decode cX7_whence 38 = .ok (.iload_n 3, 1) := by decide +kernel
theorem dX7_whence_39 : decode cX7_whence 39 = .ok (.aload_n 0, 1) := by decide +kernel
theorem dX7_whence_40 : decode cX7_whence 40 = .ok (.iload_n 1, 1) := by decide +kernel
theorem dX7_whence_41 : decode cX7_whence 41 = .ok (.iload 4, 2) := by decide +kernel
theorem dX7_whence_43 : decode cX7_whence 43 = .ok (.iconst 1, 1) := by decide +kernel
theorem dX7_whence_44 : decode cX7_whence 44 = .ok (.invokevirtual 139, 3) := by decide +kernel
theorem dX7_whence_47 : decode cX7_whence 47 = .ok (.iload_n 2, 1) := by decide +kernel
theorem dX7_whence_48 : decode cX7_whence 48 = .ok (.invokestatic 143, 3) := by decide +kernel
theorem dX7_whence_51 : decode cX7_whence 51 = .ok (.ifCond .eq 10, 3) := by decide +kernel
theorem dX7_whence_54 : decode cX7_whence 54 = .ok (.iconst 1, 1) := by decide +kernel
theorem dX7_whence_55 : decode cX7_whence 55 = .ok (.iload 4, 2) := by decide +kernel
theorem dX7_whence_57 : decode cX7_whence 57 = .ok (.ishl, 1) := by decide +kernel
theorem dX7_whence_58 : decode cX7_whence 58 = .ok (.goto 4, 3) := by decide +kernel
theorem dX7_whence_61 : decode cX7_whence 61 = .ok (.iconst 0, 1) := by decide +kernel
theorem dX7_whence_62 : decode cX7_whence 62 = .ok (.ior, 1) := by decide +kernel
theorem dX7_whence_63 : decode cX7_whence 63 = .ok (.istore_n 3, 1) := by decide +kernel
theorem dX7_whence_64 : decode cX7_whence 64 = .ok (.iinc 4 1, 3) := by decide +kernel
theorem dX7_whence_67 : decode cX7_whence 67 = .ok (.goto (-40), 3) := by decide +kernel
theorem dX7_whence_70 : decode cX7_whence 70 = .ok (.iload_n 3, 1) := by decide +kernel
theorem dX7_whence_71 : decode cX7_whence 71 = .ok (.ireturn, 1) := by decide +kernel
theorem dX7_below_0 : decode cX7_below 0 = .ok (.iload_n 1, 1) := by decide +kernel
theorem dX7_below_1 : decode cX7_below 1 = .ok (.invokestatic 100, 3) := by decide +kernel
theorem dX7_below_4 : decode cX7_below 4 = .ok (.ifCond .eq 21, 3) := by decide +kernel
theorem dX7_below_7 : decode cX7_below 7 = .ok (.aload_n 0, 1) := by decide +kernel
theorem dX7_below_8 : decode cX7_below 8 = .ok (.iload_n 2, 1) := by decide +kernel
theorem dX7_below_9 : decode cX7_below 9 = .ok (.invokevirtual 65, 3) := by decide +kernel
theorem dX7_below_12 : decode cX7_below 12 = .ok (.ifCond .eq 13, 3) := by decide +kernel
theorem dX7_below_15 : decode cX7_below 15 = .ok (.aload_n 0, 1) := by decide +kernel
theorem dX7_below_16 : decode cX7_below 16 = .ok (.iload_n 1, 1) := by decide +kernel
theorem dX7_below_17 : decode cX7_below 17 = .ok (.iload_n 2, 1) := by decide +kernel
theorem dX7_below_18 : decode cX7_below 18 = .ok (.iconst 0, 1) := by decide +kernel
theorem dX7_below_19 : decode cX7_below 19 = .ok (.invokevirtual 139, 3) := by decide +kernel
theorem dX7_below_22 : decode cX7_below 22 = .ok (.goto 9, 3) := by decide +kernel
theorem dX7_below_25 : decode cX7_below 25 = .ok (.aload_n 0, 1) := by decide +kernel
theorem dX7_below_26 : decode cX7_below 26 = .ok (.ldc 44, 2) := by decide +kernel
theorem dX7_below_28 : decode cX7_below 28 = .ok (.invokevirtual 49, 3) := by decide +kernel
theorem dX7_below_31 : decode cX7_below 31 = .ok (.ireturn, 1) := by decide +kernel
theorem dX7_back_0 : decode cX7_back 0 = .ok (.aload_n 0, 1) := by decide +kernel
theorem dX7_back_1 : decode cX7_back 1 = .ok (.iload_n 1, 1) := by decide +kernel
theorem dX7_back_2 : decode cX7_back 2 = .ok (.iload_n 2, 1) := by decide +kernel
theorem dX7_back_3 : decode cX7_back 3 = .ok (.iload_n 3, 1) := by decide +kernel
theorem dX7_back_4 : decode cX7_back 4 = .ok (.aload_n 0, 1) := by decide +kernel
theorem dX7_back_5 : decode cX7_back 5 = .ok (.getfield 7, 3) := by decide +kernel
theorem dX7_back_8 : decode cX7_back 8 = .ok (.iconst 4, 1) := by decide +kernel
theorem dX7_back_9 : decode cX7_back 9 = .ok (.iaload, 1) := by decide +kernel
theorem dX7_back_10 : decode cX7_back 10 = .ok (.invokevirtual 132, 3) := by decide +kernel
theorem dX7_back_13 : decode cX7_back 13 = .ok (.istore 4, 2) := by decide +kernel
theorem dX7_back_15 : decode cX7_back 15 = .ok (.iload 4, 2) := by decide +kernel
theorem dX7_back_17 : decode cX7_back 17 = .ok (.ldc 109, 2) := by decide +kernel
theorem dX7_back_19 : decode cX7_back 19 = .ok (.if_icmp .ne 8, 3) := by decide +kernel
theorem dX7_back_22 : decode cX7_back 22 = .ok (.ldc 109, 2) := by decide +kernel
theorem dX7_back_24 : decode cX7_back 24 = .ok (.goto 12, 3) := by decide +kernel
theorem dX7_back_27 : decode cX7_back 27 = .ok (.aload_n 0, 1) := by decide +kernel
theorem dX7_back_28 : decode cX7_back 28 = .ok (.iload_n 1, 1) := by decide +kernel
theorem dX7_back_29 : decode cX7_back 29 = .ok (.iload_n 3, 1) := by decide +kernel
theorem dX7_back_30 : decode cX7_back 30 = .ok (.iload_n 2, 1) := by decide +kernel
theorem dX7_back_31 : decode cX7_back 31 = .ok (.iload 4, 2) := by decide +kernel
theorem dX7_back_33 : decode cX7_back 33 = .ok (.invokevirtual 132, 3) := by decide +kernel
theorem dX7_back_36 : decode cX7_back 36 = .ok (.ireturn, 1) := by decide +kernel
theorem dX7_round_0 : decode cX7_round 0 = .ok (.aload_n 0, 1) := by decide +kernel
theorem dX7_round_1 : decode cX7_round 1 = .ok (.iload_n 1, 1) := by decide +kernel
theorem dX7_round_2 : decode cX7_round 2 = .ok (.iload_n 2, 1) := by decide +kernel
theorem dX7_round_3 : decode cX7_round 3 = .ok (.iload_n 3, 1) := by decide +kernel
theorem dX7_round_4 : decode cX7_round 4 = .ok (.invokevirtual 129, 3) := by decide +kernel
theorem dX7_round_7 : decode cX7_round 7 = .ok (.ifCond .ne 10, 3) := by decide +kernel
theorem dX7_round_10 : decode cX7_round 10 = .ok (.aload_n 0, 1) := by decide +kernel
theorem dX7_round_11 : decode cX7_round 11 = .ok (.ldc 44, 2) := by decide +kernel
theorem dX7_round_13 : decode cX7_round 13 = .ok (.invokevirtual 49, 3) := by decide +kernel
theorem dX7_round_16 : decode cX7_round 16 = .ok (.ireturn, 1) := by decide +kernel
theorem dX7_round_17 : decode cX7_round 17 = .ok (.aload_n 0, 1) := by decide +kernel
theorem dX7_round_18 : decode cX7_round 18 = .ok (.iload_n 1, 1) := by decide +kernel
theorem dX7_round_19 : decode cX7_round 19 = .ok (.iload_n 2, 1) := by decide +kernel
theorem dX7_round_20 : decode cX7_round 20 = .ok (.iload_n 3, 1) := by decide +kernel
theorem dX7_round_21 : decode cX7_round 21 = .ok (.invokevirtual 147, 3) := by decide +kernel
theorem dX7_round_24 : decode cX7_round 24 = .ok (.istore 4, 2) := by decide +kernel
theorem dX7_round_26 : decode cX7_round 26 = .ok (.iload 4, 2) := by decide +kernel
theorem dX7_round_28 : decode cX7_round 28 = .ok (.ldc 109, 2) := by decide +kernel
theorem dX7_round_30 : decode cX7_round 30 = .ok (.if_icmp .ne 12, 3) := by decide +kernel
theorem dX7_round_33 : decode cX7_round 33 = .ok (.aload_n 0, 1) := by decide +kernel
theorem dX7_round_34 : decode cX7_round 34 = .ok (.ldc 92, 2) := by decide +kernel
theorem dX7_round_36 : decode cX7_round 36 = .ok (.invokevirtual 49, 3) := by decide +kernel
theorem dX7_round_39 : decode cX7_round 39 = .ok (.goto 12, 3) := by decide +kernel
theorem dX7_round_42 : decode cX7_round 42 = .ok (.iload 4, 2) := by decide +kernel
theorem dX7_round_44 : decode cX7_round 44 = .ok (.aload_n 0, 1) := by decide +kernel
theorem dX7_round_45 : decode cX7_round 45 = .ok (.getfield 7, 3) := by decide +kernel
theorem dX7_round_48 : decode cX7_round 48 = .ok (.iconst 4, 1) := by decide +kernel
theorem dX7_round_49 : decode cX7_round 49 = .ok (.iaload, 1) := by decide +kernel
theorem dX7_round_50 : decode cX7_round 50 = .ok (.isub, 1) := by decide +kernel
theorem dX7_round_51 : decode cX7_round 51 = .ok (.ireturn, 1) := by decide +kernel
theorem dX7_live_0 : decode cX7_live 0 = .ok (.iload_n 1, 1) := by decide +kernel
theorem dX7_live_1 : decode cX7_live 1 = .ok (.invokestatic 100, 3) := by decide +kernel
theorem dX7_live_4 : decode cX7_live 4 = .ok (.ifCond .eq 21, 3) := by decide +kernel
theorem dX7_live_7 : decode cX7_live 7 = .ok (.iload_n 2, 1) := by decide +kernel
theorem dX7_live_8 : decode cX7_live 8 = .ok (.iconst 1, 1) := by decide +kernel
theorem dX7_live_9 : decode cX7_live 9 = .ok (.iconst 1, 1) := by decide +kernel
theorem dX7_live_10 : decode cX7_live 10 = .ok (.aload_n 0, 1) := by decide +kernel
theorem dX7_live_11 : decode cX7_live 11 = .ok (.getfield 7, 3) := by decide +kernel
theorem dX7_live_14 : decode cX7_live 14 = .ok (.iconst 0, 1) := by decide +kernel
theorem dX7_live_15 : decode cX7_live 15 = .ok (.iaload, 1) := by decide +kernel
theorem dX7_live_16 : decode cX7_live 16 = .ok (.ishl, 1) := by decide +kernel
theorem dX7_live_17 : decode cX7_live 17 = .ok (.iconst 1, 1) := by decide +kernel
theorem dX7_live_18 : decode cX7_live 18 = .ok (.isub, 1) := by decide +kernel
theorem dX7_live_19 : decode cX7_live 19 = .ok (.invokestatic 45, 3) := by decide +kernel
theorem dX7_live_22 : decode cX7_live 22 = .ok (.ifCond .ne 10, 3) := by decide +kernel
theorem dX7_live_25 : decode cX7_live 25 = .ok (.aload_n 0, 1) := by decide +kernel
theorem dX7_live_26 : decode cX7_live 26 = .ok (.ldc 44, 2) := by decide +kernel
theorem dX7_live_28 : decode cX7_live 28 = .ok (.invokevirtual 49, 3) := by decide +kernel
theorem dX7_live_31 : decode cX7_live 31 = .ok (.ireturn, 1) := by decide +kernel
theorem dX7_live_32 : decode cX7_live 32 = .ok (.iconst (-1), 1) := by decide +kernel
theorem dX7_live_33 : decode cX7_live 33 = .ok (.istore_n 3, 1) := by decide +kernel
theorem dX7_live_34 : decode cX7_live 34 = .ok (.ldc 109, 2) := by decide +kernel
theorem dX7_live_36 : decode cX7_live 36 = .ok (.istore 4, 2) := by decide +kernel
theorem dX7_live_38 : decode cX7_live 38 = .ok (.iconst 0, 1) := by decide +kernel
theorem dX7_live_39 : decode cX7_live 39 = .ok (.istore 5, 2) := by decide +kernel
theorem dX7_live_41 : decode cX7_live 41 = .ok (.iload 5, 2) := by decide +kernel
theorem dX7_live_43 : decode cX7_live 43 = .ok (.aload_n 0, 1) := by decide +kernel
theorem dX7_live_44 : decode cX7_live 44 = .ok (.getfield 7, 3) := by decide +kernel
theorem dX7_live_47 : decode cX7_live 47 = .ok (.iconst 0, 1) := by decide +kernel
theorem dX7_live_48 : decode cX7_live 48 = .ok (.iaload, 1) := by decide +kernel
theorem dX7_live_49 : decode cX7_live 49 = .ok (.if_icmp .ge 109, 3) := by decide +kernel
theorem dX7_live_52 : decode cX7_live 52 = .ok (.iconst 0, 1) := by decide +kernel
theorem dX7_live_53 : decode cX7_live 53 = .ok (.istore 6, 2) := by decide +kernel
theorem dX7_live_55 : decode cX7_live 55 = .ok (.iconst 0, 1) := by decide +kernel
theorem dX7_live_56 : decode cX7_live 56 = .ok (.istore 7, 2) := by decide +kernel
theorem dX7_live_58 : decode cX7_live 58 = .ok (.iload 7, 2) := by decide +kernel
theorem dX7_live_60 : decode cX7_live 60 = .ok (.aload_n 0, 1) := by decide +kernel
theorem dX7_live_61 : decode cX7_live 61 = .ok (.getfield 7, 3) := by decide +kernel
theorem dX7_live_64 : decode cX7_live 64 = .ok (.iconst 0, 1) := by decide +kernel
theorem dX7_live_65 : decode cX7_live 65 = .ok (.iaload, 1) := by decide +kernel
theorem dX7_live_66 : decode cX7_live 66 = .ok (.if_icmp .ge 56, 3) := by decide +kernel
theorem dX7_live_69 : decode cX7_live 69 = .ok (.iload_n 2, 1) := by decide +kernel
theorem dX7_live_70 : decode cX7_live 70 = .ok (.iload 7, 2) := by decide +kernel
theorem dX7_live_72 : decode cX7_live 72 = .ok (.invokestatic 143, 3) := by decide +kernel
theorem dX7_live_75 : decode cX7_live 75 = .ok (.ifCond .eq 22, 3) := by decide +kernel
theorem dX7_live_78 : decode cX7_live 78 = .ok (.iload 6, 2) := by decide +kernel
theorem dX7_live_80 : decode cX7_live 80 = .ok (.ldc 109, 2) := by decide +kernel
theorem dX7_live_82 : decode cX7_live 82 = .ok (.if_icmp .ge 15, 3) := by decide +kernel
theorem dX7_live_85 : decode cX7_live 85 = .ok (.aload_n 0, 1) := by decide +kernel
theorem dX7_live_86 : decode cX7_live 86 = .ok (.iload_n 1, 1) := by decide +kernel
theorem dX7_live_87 : decode cX7_live 87 = .ok (.iload 5, 2) := by decide +kernel
theorem dX7_live_89 : decode cX7_live 89 = .ok (.iload 7, 2) := by decide +kernel
theorem dX7_live_91 : decode cX7_live 91 = .ok (.invokevirtual 147, 3) := by decide +kernel
theorem dX7_live_94 : decode cX7_live 94 = .ok (.goto 4, 3) := by decide +kernel
theorem dX7_live_97 : decode cX7_live 97 = .ok (.iconst 0, 1) := by decide +kernel
theorem dX7_live_98 : decode cX7_live 98 = .ok (.istore 8, 2) := by decide +kernel
theorem dX7_live_100 : decode cX7_live 100 = .ok (.iload 8, 2) := by decide +kernel
theorem dX7_live_102 : decode cX7_live 102 = .ok (.iload 6, 2) := by decide +kernel
theorem dX7_live_104 : decode cX7_live 104 = .ok (.if_icmp .le 8, 3) := by decide +kernel
theorem dX7_live_107 : decode cX7_live 107 = .ok (.iload 8, 2) := by decide +kernel
theorem dX7_live_109 : decode cX7_live 109 = .ok (.goto 5, 3) := by decide +kernel
theorem dX7_live_112 : decode cX7_live 112 = .ok (.iload 6, 2) := by decide +kernel
theorem dX7_live_114 : decode cX7_live 114 = .ok (.istore 6, 2) := by decide +kernel
theorem dX7_live_116 : decode cX7_live 116 = .ok (.iinc 7 1, 3) := by decide +kernel
theorem dX7_live_119 : decode cX7_live 119 = .ok (.goto (-61), 3) := by decide +kernel
theorem dX7_live_122 : decode cX7_live 122 = .ok (.iload 6, 2) := by decide +kernel
theorem dX7_live_124 : decode cX7_live 124 = .ok (.iload 4, 2) := by decide +kernel
theorem dX7_live_126 : decode cX7_live 126 = .ok (.if_icmp .ge 8, 3) := by decide +kernel
theorem dX7_live_129 : decode cX7_live 129 = .ok (.iload 5, 2) := by decide +kernel
theorem dX7_live_131 : decode cX7_live 131 = .ok (.goto 4, 3) := by decide +kernel
theorem dX7_live_134 : decode cX7_live 134 = .ok (.iload_n 3, 1) := by decide +kernel
theorem dX7_live_135 : decode cX7_live 135 = .ok (.istore_n 3, 1) := by decide +kernel
theorem dX7_live_136 : decode cX7_live 136 = .ok (.iload 6, 2) := by decide +kernel
theorem dX7_live_138 : decode cX7_live 138 = .ok (.iload 4, 2) := by decide +kernel
theorem dX7_live_140 : decode cX7_live 140 = .ok (.if_icmp .ge 8, 3) := by decide +kernel
theorem dX7_live_143 : decode cX7_live 143 = .ok (.iload 6, 2) := by decide +kernel
theorem dX7_live_145 : decode cX7_live 145 = .ok (.goto 5, 3) := by decide +kernel
theorem dX7_live_148 : decode cX7_live 148 = .ok (.iload 4, 2) := by decide +kernel
theorem dX7_live_150 : decode cX7_live 150 = .ok (.istore 4, 2) := by decide +kernel
theorem dX7_live_152 : decode cX7_live 152 = .ok (.iinc 5 1, 3) := by decide +kernel
theorem dX7_live_155 : decode cX7_live 155 = .ok (.goto (-114), 3) := by decide +kernel
theorem dX7_live_158 : decode cX7_live 158 = .ok (.iload_n 3, 1) := by decide +kernel
theorem dX7_live_159 : decode cX7_live 159 = .ok (.ifCond .ge 12, 3) := by decide +kernel
theorem dX7_live_162 : decode cX7_live 162 = .ok (.aload_n 0, 1) := by decide +kernel
theorem dX7_live_163 : decode cX7_live 163 = .ok (.ldc 92, 2) := by decide +kernel
theorem dX7_live_165 : decode cX7_live 165 = .ok (.invokevirtual 49, 3) := by decide +kernel
theorem dX7_live_168 : decode cX7_live 168 = .ok (.goto 4, 3) := by decide +kernel
theorem dX7_live_171 : decode cX7_live 171 = .ok (.iload_n 3, 1) := by decide +kernel
theorem dX7_live_172 : decode cX7_live 172 = .ok (.ireturn, 1) := by decide +kernel
theorem dX7_quiet_0 : decode cX7_quiet 0 = .ok (.iload_n 1, 1) := by decide +kernel
theorem dX7_quiet_1 : decode cX7_quiet 1 = .ok (.invokestatic 100, 3) := by decide +kernel
theorem dX7_quiet_4 : decode cX7_quiet 4 = .ok (.ifCond .ne 10, 3) := by decide +kernel
theorem dX7_quiet_7 : decode cX7_quiet 7 = .ok (.aload_n 0, 1) := by decide +kernel
theorem dX7_quiet_8 : decode cX7_quiet 8 = .ok (.ldc 44, 2) := by decide +kernel
theorem dX7_quiet_10 : decode cX7_quiet 10 = .ok (.invokevirtual 49, 3) := by decide +kernel
theorem dX7_quiet_13 : decode cX7_quiet 13 = .ok (.ireturn, 1) := by decide +kernel
theorem dX7_quiet_14 : decode cX7_quiet 14 = .ok (.iconst 0, 1) := by decide +kernel
theorem dX7_quiet_15 : decode cX7_quiet 15 = .ok (.istore_n 2, 1) := by decide +kernel
theorem dX7_quiet_16 : decode cX7_quiet 16 = .ok (.iconst 0, 1) := by decide +kernel
theorem dX7_quiet_17 : decode cX7_quiet 17 = .ok (.istore_n 3, 1) := by decide +kernel
theorem dX7_quiet_18 : decode cX7_quiet 18 = .ok (.iload_n 3, 1) := by decide +kernel
theorem dX7_quiet_19 : decode cX7_quiet 19 = .ok (.aload_n 0, 1) := by decide +kernel
theorem dX7_quiet_20 : decode cX7_quiet 20 = .ok (.getfield 7, 3) := by decide +kernel
theorem dX7_quiet_23 : decode cX7_quiet 23 = .ok (.iconst 0, 1) := by decide +kernel
theorem dX7_quiet_24 : decode cX7_quiet 24 = .ok (.iaload, 1) := by decide +kernel
theorem dX7_quiet_25 : decode cX7_quiet 25 = .ok (.if_icmp .ge 95, 3) := by decide +kernel
theorem dX7_quiet_28 : decode cX7_quiet 28 = .ok (.aload_n 0, 1) := by decide +kernel
theorem dX7_quiet_29 : decode cX7_quiet 29 = .ok (.iload_n 1, 1) := by decide +kernel
theorem dX7_quiet_30 : decode cX7_quiet 30 = .ok (.iload_n 3, 1) := by decide +kernel
theorem dX7_quiet_31 : decode cX7_quiet 31 = .ok (.iconst 1, 1) := by decide +kernel
theorem dX7_quiet_32 : decode cX7_quiet 32 = .ok (.invokevirtual 139, 3) := by decide +kernel
theorem dX7_quiet_35 : decode cX7_quiet 35 = .ok (.istore 4, 2) := by decide +kernel
theorem dX7_quiet_37 : decode cX7_quiet 37 = .ok (.iconst 0, 1) := by decide +kernel
theorem dX7_quiet_38 : decode cX7_quiet 38 = .ok (.istore 5, 2) := by decide +kernel
theorem dX7_quiet_40 : decode cX7_quiet 40 = .ok (.iload 5, 2) := by decide +kernel
theorem dX7_quiet_42 : decode cX7_quiet 42 = .ok (.aload_n 0, 1) := by decide +kernel
theorem dX7_quiet_43 : decode cX7_quiet 43 = .ok (.getfield 7, 3) := by decide +kernel
theorem dX7_quiet_46 : decode cX7_quiet 46 = .ok (.iconst 0, 1) := by decide +kernel
theorem dX7_quiet_47 : decode cX7_quiet 47 = .ok (.iaload, 1) := by decide +kernel
theorem dX7_quiet_48 : decode cX7_quiet 48 = .ok (.if_icmp .ge 66, 3) := by decide +kernel
theorem dX7_quiet_51 : decode cX7_quiet 51 = .ok (.iload 5, 2) := by decide +kernel
theorem dX7_quiet_53 : decode cX7_quiet 53 = .ok (.iload_n 3, 1) := by decide +kernel
theorem dX7_quiet_54 : decode cX7_quiet 54 = .ok (.if_icmp .eq 38, 3) := by decide +kernel
theorem dX7_quiet_57 : decode cX7_quiet 57 = .ok (.iload 4, 2) := by decide +kernel
theorem dX7_quiet_59 : decode cX7_quiet 59 = .ok (.iload 5, 2) := by decide +kernel
theorem dX7_quiet_61 : decode cX7_quiet 61 = .ok (.invokestatic 143, 3) := by decide +kernel
theorem dX7_quiet_64 : decode cX7_quiet 64 = .ok (.ifCond .eq 28, 3) := by decide +kernel
theorem dX7_quiet_67 : decode cX7_quiet 67 = .ok (.iload_n 3, 1) := by decide +kernel
theorem dX7_quiet_68 : decode cX7_quiet 68 = .ok (.iload 5, 2) := by decide +kernel
theorem dX7_quiet_70 : decode cX7_quiet 70 = .ok (.if_icmp .lt 18, 3) := by decide +kernel
theorem dX7_quiet_73 : decode cX7_quiet 73 = .ok (.aload_n 0, 1) := by decide +kernel
theorem dX7_quiet_74 : decode cX7_quiet 74 = .ok (.iload_n 1, 1) := by decide +kernel
theorem dX7_quiet_75 : decode cX7_quiet 75 = .ok (.iload 5, 2) := by decide +kernel
theorem dX7_quiet_77 : decode cX7_quiet 77 = .ok (.iconst 1, 1) := by decide +kernel
theorem dX7_quiet_78 : decode cX7_quiet 78 = .ok (.invokevirtual 139, 3) := by decide +kernel
theorem dX7_quiet_81 : decode cX7_quiet 81 = .ok (.iload_n 3, 1) := by decide +kernel
theorem dX7_quiet_82 : decode cX7_quiet 82 = .ok (.invokestatic 143, 3) := by decide +kernel
theorem dX7_quiet_85 : decode cX7_quiet 85 = .ok (.ifCond .ne 7, 3) := by decide +kernel
theorem dX7_quiet_88 : decode cX7_quiet 88 = .ok (.iconst 1, 1) := by decide +kernel
theorem dX7_quiet_89 : decode cX7_quiet 89 = .ok (.goto 4, 3) := by decide +kernel
theorem dX7_quiet_92 : decode cX7_quiet 92 = .ok (.iconst 0, 1) := by decide +kernel
theorem dX7_quiet_93 : decode cX7_quiet 93 = .ok (.istore 6, 2) := by decide +kernel
theorem dX7_quiet_95 : decode cX7_quiet 95 = .ok (.iload_n 2, 1) := by decide +kernel
theorem dX7_quiet_96 : decode cX7_quiet 96 = .ok (.iload 6, 2) := by decide +kernel
theorem dX7_quiet_98 : decode cX7_quiet 98 = .ok (.ifCond .eq 7, 3) := by decide +kernel
theorem dX7_quiet_101 : decode cX7_quiet 101 = .ok (.iconst 1, 1) := by decide +kernel
theorem dX7_quiet_102 : decode cX7_quiet 102 = .ok (.goto 4, 3) := by decide +kernel
theorem dX7_quiet_105 : decode cX7_quiet 105 = .ok (.iconst 0, 1) := by decide +kernel
theorem dX7_quiet_106 : decode cX7_quiet 106 = .ok (.iadd, 1) := by decide +kernel
theorem dX7_quiet_107 : decode cX7_quiet 107 = .ok (.istore_n 2, 1) := by decide +kernel
theorem dX7_quiet_108 : decode cX7_quiet 108 = .ok (.iinc 5 1, 3) := by decide +kernel
theorem dX7_quiet_111 : decode cX7_quiet 111 = .ok (.goto (-71), 3) := by decide +kernel
theorem dX7_quiet_114 : decode cX7_quiet 114 = .ok (.iinc 3 1, 3) := by decide +kernel
theorem dX7_quiet_117 : decode cX7_quiet 117 = .ok (.goto (-99), 3) := by decide +kernel
theorem dX7_quiet_120 : decode cX7_quiet 120 = .ok (.aload_n 0, 1) := by decide +kernel
theorem dX7_quiet_121 : decode cX7_quiet 121 = .ok (.getfield 7, 3) := by decide +kernel
theorem dX7_quiet_124 : decode cX7_quiet 124 = .ok (.iconst 0, 1) := by decide +kernel
theorem dX7_quiet_125 : decode cX7_quiet 125 = .ok (.iaload, 1) := by decide +kernel
theorem dX7_quiet_126 : decode cX7_quiet 126 = .ok (.aload_n 0, 1) := by decide +kernel
theorem dX7_quiet_127 : decode cX7_quiet 127 = .ok (.getfield 7, 3) := by decide +kernel
theorem dX7_quiet_130 : decode cX7_quiet 130 = .ok (.iconst 0, 1) := by decide +kernel
theorem dX7_quiet_131 : decode cX7_quiet 131 = .ok (.iaload, 1) := by decide +kernel
theorem dX7_quiet_132 : decode cX7_quiet 132 = .ok (.iconst 1, 1) := by decide +kernel
theorem dX7_quiet_133 : decode cX7_quiet 133 = .ok (.isub, 1) := by decide +kernel
theorem dX7_quiet_134 : decode cX7_quiet 134 = .ok (.imul, 1) := by decide +kernel
theorem dX7_quiet_135 : decode cX7_quiet 135 = .ok (.iconst 2, 1) := by decide +kernel
theorem dX7_quiet_136 : decode cX7_quiet 136 = .ok (.idiv, 1) := by decide +kernel
theorem dX7_quiet_137 : decode cX7_quiet 137 = .ok (.iload_n 2, 1) := by decide +kernel
theorem dX7_quiet_138 : decode cX7_quiet 138 = .ok (.isub, 1) := by decide +kernel
theorem dX7_quiet_139 : decode cX7_quiet 139 = .ok (.ireturn, 1) := by decide +kernel
theorem dX7_kind_0 : decode cX7_kind 0 = .ok (.aload_n 0, 1) := by decide +kernel
theorem dX7_kind_1 : decode cX7_kind 1 = .ok (.iload_n 1, 1) := by decide +kernel
theorem dX7_kind_2 : decode cX7_kind 2 = .ok (.invokevirtual 65, 3) := by decide +kernel
theorem dX7_kind_5 : decode cX7_kind 5 = .ok (.ifCond .eq 11, 3) := by decide +kernel
theorem dX7_kind_8 : decode cX7_kind 8 = .ok (.aload_n 0, 1) := by decide +kernel
theorem dX7_kind_9 : decode cX7_kind 9 = .ok (.iload_n 2, 1) := by decide +kernel
theorem dX7_kind_10 : decode cX7_kind 10 = .ok (.invokevirtual 65, 3) := by decide +kernel
theorem dX7_kind_13 : decode cX7_kind 13 = .ok (.ifCond .ne 10, 3) := by decide +kernel
theorem dX7_kind_16 : decode cX7_kind 16 = .ok (.aload_n 0, 1) := by decide +kernel
theorem dX7_kind_17 : decode cX7_kind 17 = .ok (.ldc 44, 2) := by decide +kernel
theorem dX7_kind_19 : decode cX7_kind 19 = .ok (.invokevirtual 49, 3) := by decide +kernel
theorem dX7_kind_22 : decode cX7_kind 22 = .ok (.ireturn, 1) := by decide +kernel
theorem dX7_kind_23 : decode cX7_kind 23 = .ok (.iconst (-1), 1) := by decide +kernel
theorem dX7_kind_24 : decode cX7_kind 24 = .ok (.istore_n 3, 1) := by decide +kernel
theorem dX7_kind_25 : decode cX7_kind 25 = .ok (.ldc 109, 2) := by decide +kernel
theorem dX7_kind_27 : decode cX7_kind 27 = .ok (.istore 4, 2) := by decide +kernel
theorem dX7_kind_29 : decode cX7_kind 29 = .ok (.iconst 0, 1) := by decide +kernel
theorem dX7_kind_30 : decode cX7_kind 30 = .ok (.istore 5, 2) := by decide +kernel
theorem dX7_kind_32 : decode cX7_kind 32 = .ok (.iload 5, 2) := by decide +kernel
theorem dX7_kind_34 : decode cX7_kind 34 = .ok (.iconst 5, 1) := by decide +kernel
theorem dX7_kind_35 : decode cX7_kind 35 = .ok (.if_icmp .gt 55, 3) := by decide +kernel
theorem dX7_kind_38 : decode cX7_kind 38 = .ok (.aload_n 0, 1) := by decide +kernel
theorem dX7_kind_39 : decode cX7_kind 39 = .ok (.iload 5, 2) := by decide +kernel
theorem dX7_kind_41 : decode cX7_kind 41 = .ok (.iload_n 1, 1) := by decide +kernel
theorem dX7_kind_42 : decode cX7_kind 42 = .ok (.iload_n 2, 1) := by decide +kernel
theorem dX7_kind_43 : decode cX7_kind 43 = .ok (.aload_n 0, 1) := by decide +kernel
theorem dX7_kind_44 : decode cX7_kind 44 = .ok (.getfield 7, 3) := by decide +kernel
theorem dX7_kind_47 : decode cX7_kind 47 = .ok (.iconst 4, 1) := by decide +kernel
theorem dX7_kind_48 : decode cX7_kind 48 = .ok (.iaload, 1) := by decide +kernel
theorem dX7_kind_49 : decode cX7_kind 49 = .ok (.invokevirtual 132, 3) := by decide +kernel
theorem dX7_kind_52 : decode cX7_kind 52 = .ok (.istore 6, 2) := by decide +kernel
theorem dX7_kind_54 : decode cX7_kind 54 = .ok (.iload 6, 2) := by decide +kernel
theorem dX7_kind_56 : decode cX7_kind 56 = .ok (.iload 4, 2) := by decide +kernel
theorem dX7_kind_58 : decode cX7_kind 58 = .ok (.if_icmp .ge 8, 3) := by decide +kernel
theorem dX7_kind_61 : decode cX7_kind 61 = .ok (.iload 5, 2) := by decide +kernel
theorem dX7_kind_63 : decode cX7_kind 63 = .ok (.goto 4, 3) := by decide +kernel
theorem dX7_kind_66 : decode cX7_kind 66 = .ok (.iload_n 3, 1) := by decide +kernel
theorem dX7_kind_67 : decode cX7_kind 67 = .ok (.istore_n 3, 1) := by decide +kernel
theorem dX7_kind_68 : decode cX7_kind 68 = .ok (.iload 6, 2) := by decide +kernel
theorem dX7_kind_70 : decode cX7_kind 70 = .ok (.iload 4, 2) := by decide +kernel
theorem dX7_kind_72 : decode cX7_kind 72 = .ok (.if_icmp .ge 8, 3) := by decide +kernel
theorem dX7_kind_75 : decode cX7_kind 75 = .ok (.iload 6, 2) := by decide +kernel
theorem dX7_kind_77 : decode cX7_kind 77 = .ok (.goto 5, 3) := by decide +kernel
theorem dX7_kind_80 : decode cX7_kind 80 = .ok (.iload 4, 2) := by decide +kernel
theorem dX7_kind_82 : decode cX7_kind 82 = .ok (.istore 4, 2) := by decide +kernel
theorem dX7_kind_84 : decode cX7_kind 84 = .ok (.iinc 5 1, 3) := by decide +kernel
theorem dX7_kind_87 : decode cX7_kind 87 = .ok (.goto (-55), 3) := by decide +kernel
theorem dX7_kind_90 : decode cX7_kind 90 = .ok (.iload_n 3, 1) := by decide +kernel
theorem dX7_kind_91 : decode cX7_kind 91 = .ok (.ifCond .ge 12, 3) := by decide +kernel
theorem dX7_kind_94 : decode cX7_kind 94 = .ok (.aload_n 0, 1) := by decide +kernel
theorem dX7_kind_95 : decode cX7_kind 95 = .ok (.ldc 92, 2) := by decide +kernel
theorem dX7_kind_97 : decode cX7_kind 97 = .ok (.invokevirtual 49, 3) := by decide +kernel
theorem dX7_kind_100 : decode cX7_kind 100 = .ok (.goto 4, 3) := by decide +kernel
theorem dX7_kind_103 : decode cX7_kind 103 = .ok (.iload_n 3, 1) := by decide +kernel
theorem dX7_kind_104 : decode cX7_kind 104 = .ok (.ireturn, 1) := by decide +kernel
theorem dX7_rise_0 : decode cX7_rise 0 = .ok (.aload_n 0, 1) := by decide +kernel
theorem dX7_rise_1 : decode cX7_rise 1 = .ok (.iload_n 1, 1) := by decide +kernel
theorem dX7_rise_2 : decode cX7_rise 2 = .ok (.iload_n 2, 1) := by decide +kernel
theorem dX7_rise_3 : decode cX7_rise 3 = .ok (.iload_n 3, 1) := by decide +kernel
theorem dX7_rise_4 : decode cX7_rise 4 = .ok (.invokevirtual 129, 3) := by decide +kernel
theorem dX7_rise_7 : decode cX7_rise 7 = .ok (.ifCond .eq 8, 3) := by decide +kernel
theorem dX7_rise_10 : decode cX7_rise 10 = .ok (.iload_n 2, 1) := by decide +kernel
theorem dX7_rise_11 : decode cX7_rise 11 = .ok (.iload_n 3, 1) := by decide +kernel
theorem dX7_rise_12 : decode cX7_rise 12 = .ok (.if_icmp .ne 10, 3) := by decide +kernel
theorem dX7_rise_15 : decode cX7_rise 15 = .ok (.aload_n 0, 1) := by decide +kernel
theorem dX7_rise_16 : decode cX7_rise 16 = .ok (.ldc 44, 2) := by decide +kernel
theorem dX7_rise_18 : decode cX7_rise 18 = .ok (.invokevirtual 49, 3) := by decide +kernel
theorem dX7_rise_21 : decode cX7_rise 21 = .ok (.ireturn, 1) := by decide +kernel
theorem dX7_rise_22 : decode cX7_rise 22 = .ok (.aload_n 0, 1) := by decide +kernel
theorem dX7_rise_23 : decode cX7_rise 23 = .ok (.iload_n 2, 1) := by decide +kernel
theorem dX7_rise_24 : decode cX7_rise 24 = .ok (.invokevirtual 69, 3) := by decide +kernel
theorem dX7_rise_27 : decode cX7_rise 27 = .ok (.istore 4, 2) := by decide +kernel
theorem dX7_rise_29 : decode cX7_rise 29 = .ok (.sipush 10000, 3) := by decide +kernel
theorem dX7_rise_32 : decode cX7_rise 32 = .ok (.istore 5, 2) := by decide +kernel
theorem dX7_rise_34 : decode cX7_rise 34 = .ok (.iconst 0, 1) := by decide +kernel
theorem dX7_rise_35 : decode cX7_rise 35 = .ok (.istore 6, 2) := by decide +kernel
theorem dX7_rise_37 : decode cX7_rise 37 = .ok (.iload 6, 2) := by decide +kernel
theorem dX7_rise_39 : decode cX7_rise 39 = .ok (.iconst 2, 1) := by decide +kernel
theorem dX7_rise_40 : decode cX7_rise 40 = .ok (.aload_n 0, 1) := by decide +kernel
theorem dX7_rise_41 : decode cX7_rise 41 = .ok (.getfield 7, 3) := by decide +kernel
theorem dX7_rise_44 : decode cX7_rise 44 = .ok (.iconst 0, 1) := by decide +kernel
theorem dX7_rise_45 : decode cX7_rise 45 = .ok (.iaload, 1) := by decide +kernel
theorem dX7_rise_46 : decode cX7_rise 46 = .ok (.imul, 1) := by decide +kernel
theorem dX7_rise_47 : decode cX7_rise 47 = .ok (.iconst 1, 1) := by decide +kernel
theorem dX7_rise_48 : decode cX7_rise 48 = .ok (.iadd, 1) := by decide +kernel
theorem dX7_rise_49 : decode cX7_rise 49 = .ok (.if_icmp .ge 184, 3) := by decide +kernel
theorem dX7_rise_52 : decode cX7_rise 52 = .ok (.iload 6, 2) := by decide +kernel
theorem dX7_rise_54 : decode cX7_rise 54 = .ok (.ifCond .ne 8, 3) := by decide +kernel
theorem dX7_rise_57 : decode cX7_rise 57 = .ok (.iload 4, 2) := by decide +kernel
theorem dX7_rise_59 : decode cX7_rise 59 = .ok (.goto 37, 3) := by decide +kernel
theorem dX7_rise_62 : decode cX7_rise 62 = .ok (.iload 6, 2) := by decide +kernel
theorem dX7_rise_64 : decode cX7_rise 64 = .ok (.iconst 2, 1) := by decide +kernel
theorem dX7_rise_65 : decode cX7_rise 65 = .ok (.idiv, 1) := by decide +kernel
theorem dX7_rise_66 : decode cX7_rise 66 = .ok (.iconst 2, 1) := by decide +kernel
theorem dX7_rise_67 : decode cX7_rise 67 = .ok (.imul, 1) := by decide +kernel
theorem dX7_rise_68 : decode cX7_rise 68 = .ok (.iload 6, 2) := by decide +kernel
theorem dX7_rise_70 : decode cX7_rise 70 = .ok (.if_icmp .ne 18, 3) := by decide +kernel
theorem dX7_rise_73 : decode cX7_rise 73 = .ok (.aload_n 0, 1) := by decide +kernel
theorem dX7_rise_74 : decode cX7_rise 74 = .ok (.iload 6, 2) := by decide +kernel
theorem dX7_rise_76 : decode cX7_rise 76 = .ok (.iconst 2, 1) := by decide +kernel
theorem dX7_rise_77 : decode cX7_rise 77 = .ok (.idiv, 1) := by decide +kernel
theorem dX7_rise_78 : decode cX7_rise 78 = .ok (.iconst 1, 1) := by decide +kernel
theorem dX7_rise_79 : decode cX7_rise 79 = .ok (.isub, 1) := by decide +kernel
theorem dX7_rise_80 : decode cX7_rise 80 = .ok (.invokevirtual 69, 3) := by decide +kernel
theorem dX7_rise_83 : decode cX7_rise 83 = .ok (.iconst 1, 1) := by decide +kernel
theorem dX7_rise_84 : decode cX7_rise 84 = .ok (.iadd, 1) := by decide +kernel
theorem dX7_rise_85 : decode cX7_rise 85 = .ok (.goto 11, 3) := by decide +kernel
theorem dX7_rise_88 : decode cX7_rise 88 = .ok (.aload_n 0, 1) := by decide +kernel
theorem dX7_rise_89 : decode cX7_rise 89 = .ok (.iload 6, 2) := by decide +kernel
theorem dX7_rise_91 : decode cX7_rise 91 = .ok (.iconst 2, 1) := by decide +kernel
theorem dX7_rise_92 : decode cX7_rise 92 = .ok (.idiv, 1) := by decide +kernel
theorem dX7_rise_93 : decode cX7_rise 93 = .ok (.invokevirtual 69, 3) := by decide +kernel
theorem dX7_rise_96 : decode cX7_rise 96 = .ok (.istore 7, 2) := by decide +kernel
theorem dX7_rise_98 : decode cX7_rise 98 = .ok (.iload 6, 2) := by decide +kernel
theorem dX7_rise_100 : decode cX7_rise 100 = .ok (.ifCond .le 34, 3) := by decide +kernel
theorem dX7_rise_103 : decode cX7_rise 103 = .ok (.iload 6, 2) := by decide +kernel
theorem dX7_rise_105 : decode cX7_rise 105 = .ok (.iconst 2, 1) := by decide +kernel
theorem dX7_rise_106 : decode cX7_rise 106 = .ok (.idiv, 1) := by decide +kernel
theorem dX7_rise_107 : decode cX7_rise 107 = .ok (.iconst 2, 1) := by decide +kernel
theorem dX7_rise_108 : decode cX7_rise 108 = .ok (.imul, 1) := by decide +kernel
theorem dX7_rise_109 : decode cX7_rise 109 = .ok (.iload 6, 2) := by decide +kernel
theorem dX7_rise_111 : decode cX7_rise 111 = .ok (.if_icmp .eq 23, 3) := by decide +kernel
theorem dX7_rise_114 : decode cX7_rise 114 = .ok (.iload 6, 2) := by decide +kernel
theorem dX7_rise_116 : decode cX7_rise 116 = .ok (.iconst 2, 1) := by decide +kernel
theorem dX7_rise_117 : decode cX7_rise 117 = .ok (.idiv, 1) := by decide +kernel
theorem dX7_rise_118 : decode cX7_rise 118 = .ok (.iload_n 2, 1) := by decide +kernel
theorem dX7_rise_119 : decode cX7_rise 119 = .ok (.if_icmp .ne 8, 3) := by decide +kernel
theorem dX7_rise_122 : decode cX7_rise 122 = .ok (.iload 4, 2) := by decide +kernel
theorem dX7_rise_124 : decode cX7_rise 124 = .ok (.goto 5, 3) := by decide +kernel
theorem dX7_rise_127 : decode cX7_rise 127 = .ok (.iload 7, 2) := by decide +kernel
theorem dX7_rise_129 : decode cX7_rise 129 = .ok (.istore 7, 2) := by decide +kernel
theorem dX7_rise_131 : decode cX7_rise 131 = .ok (.goto 27, 3) := by decide +kernel
theorem dX7_rise_134 : decode cX7_rise 134 = .ok (.iload 6, 2) := by decide +kernel
theorem dX7_rise_136 : decode cX7_rise 136 = .ok (.ifCond .le 22, 3) := by decide +kernel
theorem dX7_rise_139 : decode cX7_rise 139 = .ok (.iload 6, 2) := by decide +kernel
theorem dX7_rise_141 : decode cX7_rise 141 = .ok (.iconst 2, 1) := by decide +kernel
theorem dX7_rise_142 : decode cX7_rise 142 = .ok (.idiv, 1) := by decide +kernel
theorem dX7_rise_143 : decode cX7_rise 143 = .ok (.iconst 1, 1) := by decide +kernel
theorem dX7_rise_144 : decode cX7_rise 144 = .ok (.isub, 1) := by decide +kernel
theorem dX7_rise_145 : decode cX7_rise 145 = .ok (.iload_n 2, 1) := by decide +kernel
theorem dX7_rise_146 : decode cX7_rise 146 = .ok (.if_icmp .ne 8, 3) := by decide +kernel
theorem dX7_rise_149 : decode cX7_rise 149 = .ok (.iload 4, 2) := by decide +kernel
theorem dX7_rise_151 : decode cX7_rise 151 = .ok (.goto 5, 3) := by decide +kernel
theorem dX7_rise_154 : decode cX7_rise 154 = .ok (.iload 7, 2) := by decide +kernel
theorem dX7_rise_156 : decode cX7_rise 156 = .ok (.istore 7, 2) := by decide +kernel
theorem dX7_rise_158 : decode cX7_rise 158 = .ok (.iload 7, 2) := by decide +kernel
theorem dX7_rise_160 : decode cX7_rise 160 = .ok (.iload 4, 2) := by decide +kernel
theorem dX7_rise_162 : decode cX7_rise 162 = .ok (.if_icmp .lt 65, 3) := by decide +kernel
theorem dX7_rise_165 : decode cX7_rise 165 = .ok (.iload 7, 2) := by decide +kernel
theorem dX7_rise_167 : decode cX7_rise 167 = .ok (.iload 5, 2) := by decide +kernel
theorem dX7_rise_169 : decode cX7_rise 169 = .ok (.if_icmp .ge 58, 3) := by decide +kernel
theorem dX7_rise_172 : decode cX7_rise 172 = .ok (.iload 7, 2) := by decide +kernel
theorem dX7_rise_174 : decode cX7_rise 174 = .ok (.sipush 9999, 3) := by decide +kernel
theorem dX7_rise_177 : decode cX7_rise 177 = .ok (.if_icmp .gt 50, 3) := by decide +kernel
theorem dX7_rise_180 : decode cX7_rise 180 = .ok (.aload_n 0, 1) := by decide +kernel
theorem dX7_rise_181 : decode cX7_rise 181 = .ok (.getfield 7, 3) := by decide +kernel
theorem dX7_rise_184 : decode cX7_rise 184 = .ok (.iconst 5, 1) := by decide +kernel
theorem dX7_rise_185 : decode cX7_rise 185 = .ok (.iconst 2, 1) := by decide +kernel
theorem dX7_rise_186 : decode cX7_rise 186 = .ok (.iload_n 2, 1) := by decide +kernel
theorem dX7_rise_187 : decode cX7_rise 187 = .ok (.imul, 1) := by decide +kernel
theorem dX7_rise_188 : decode cX7_rise 188 = .ok (.iadd, 1) := by decide +kernel
theorem dX7_rise_189 : decode cX7_rise 189 = .ok (.iload 7, 2) := by decide +kernel
theorem dX7_rise_191 : decode cX7_rise 191 = .ok (.iastore, 1) := by decide +kernel
theorem dX7_rise_192 : decode cX7_rise 192 = .ok (.aload_n 0, 1) := by decide +kernel
theorem dX7_rise_193 : decode cX7_rise 193 = .ok (.iload_n 1, 1) := by decide +kernel
theorem dX7_rise_194 : decode cX7_rise 194 = .ok (.iload_n 2, 1) := by decide +kernel
theorem dX7_rise_195 : decode cX7_rise 195 = .ok (.iconst 0, 1) := by decide +kernel
theorem dX7_rise_196 : decode cX7_rise 196 = .ok (.invokevirtual 139, 3) := by decide +kernel
theorem dX7_rise_199 : decode cX7_rise 199 = .ok (.iload_n 3, 1) := by decide +kernel
theorem dX7_rise_200 : decode cX7_rise 200 = .ok (.invokestatic 143, 3) := by decide +kernel
theorem dX7_rise_203 : decode cX7_rise 203 = .ok (.ifCond .eq 8, 3) := by decide +kernel
theorem dX7_rise_206 : decode cX7_rise 206 = .ok (.iload 7, 2) := by decide +kernel
theorem dX7_rise_208 : decode cX7_rise 208 = .ok (.goto 5, 3) := by decide +kernel
theorem dX7_rise_211 : decode cX7_rise 211 = .ok (.iload 5, 2) := by decide +kernel
theorem dX7_rise_213 : decode cX7_rise 213 = .ok (.istore 5, 2) := by decide +kernel
theorem dX7_rise_215 : decode cX7_rise 215 = .ok (.aload_n 0, 1) := by decide +kernel
theorem dX7_rise_216 : decode cX7_rise 216 = .ok (.getfield 7, 3) := by decide +kernel
theorem dX7_rise_219 : decode cX7_rise 219 = .ok (.iconst 5, 1) := by decide +kernel
theorem dX7_rise_220 : decode cX7_rise 220 = .ok (.iconst 2, 1) := by decide +kernel
theorem dX7_rise_221 : decode cX7_rise 221 = .ok (.iload_n 2, 1) := by decide +kernel
theorem dX7_rise_222 : decode cX7_rise 222 = .ok (.imul, 1) := by decide +kernel
theorem dX7_rise_223 : decode cX7_rise 223 = .ok (.iadd, 1) := by decide +kernel
theorem dX7_rise_224 : decode cX7_rise 224 = .ok (.iload 4, 2) := by decide +kernel
theorem dX7_rise_226 : decode cX7_rise 226 = .ok (.iastore, 1) := by decide +kernel
theorem dX7_rise_227 : decode cX7_rise 227 = .ok (.iinc 6 1, 3) := by decide +kernel
theorem dX7_rise_230 : decode cX7_rise 230 = .ok (.goto (-193), 3) := by decide +kernel
theorem dX7_rise_233 : decode cX7_rise 233 = .ok (.iload 5, 2) := by decide +kernel
theorem dX7_rise_235 : decode cX7_rise 235 = .ok (.sipush 9999, 3) := by decide +kernel
theorem dX7_rise_238 : decode cX7_rise 238 = .ok (.if_icmp .le 12, 3) := by decide +kernel
theorem dX7_rise_241 : decode cX7_rise 241 = .ok (.aload_n 0, 1) := by decide +kernel
theorem dX7_rise_242 : decode cX7_rise 242 = .ok (.ldc 92, 2) := by decide +kernel
theorem dX7_rise_244 : decode cX7_rise 244 = .ok (.invokevirtual 49, 3) := by decide +kernel
theorem dX7_rise_247 : decode cX7_rise 247 = .ok (.goto 5, 3) := by decide +kernel
theorem dX7_rise_250 : decode cX7_rise 250 = .ok (.iload 5, 2) := by decide +kernel
theorem dX7_rise_252 : decode cX7_rise 252 = .ok (.ireturn, 1) := by decide +kernel
theorem dX7_fall_0 : decode cX7_fall 0 = .ok (.aload_n 0, 1) := by decide +kernel
theorem dX7_fall_1 : decode cX7_fall 1 = .ok (.iload_n 1, 1) := by decide +kernel
theorem dX7_fall_2 : decode cX7_fall 2 = .ok (.iload_n 2, 1) := by decide +kernel
theorem dX7_fall_3 : decode cX7_fall 3 = .ok (.iload_n 3, 1) := by decide +kernel
theorem dX7_fall_4 : decode cX7_fall 4 = .ok (.invokevirtual 129, 3) := by decide +kernel
theorem dX7_fall_7 : decode cX7_fall 7 = .ok (.ifCond .ne 10, 3) := by decide +kernel
theorem dX7_fall_10 : decode cX7_fall 10 = .ok (.aload_n 0, 1) := by decide +kernel
theorem dX7_fall_11 : decode cX7_fall 11 = .ok (.ldc 44, 2) := by decide +kernel
theorem dX7_fall_13 : decode cX7_fall 13 = .ok (.invokevirtual 49, 3) := by decide +kernel
theorem dX7_fall_16 : decode cX7_fall 16 = .ok (.ireturn, 1) := by decide +kernel
theorem dX7_fall_17 : decode cX7_fall 17 = .ok (.aload_n 0, 1) := by decide +kernel
theorem dX7_fall_18 : decode cX7_fall 18 = .ok (.iload_n 1, 1) := by decide +kernel
theorem dX7_fall_19 : decode cX7_fall 19 = .ok (.iload_n 2, 1) := by decide +kernel
theorem dX7_fall_20 : decode cX7_fall 20 = .ok (.iconst 0, 1) := by decide +kernel
theorem dX7_fall_21 : decode cX7_fall 21 = .ok (.invokevirtual 139, 3) := by decide +kernel
theorem dX7_fall_24 : decode cX7_fall 24 = .ok (.iload_n 3, 1) := by decide +kernel
theorem dX7_fall_25 : decode cX7_fall 25 = .ok (.invokestatic 143, 3) := by decide +kernel
theorem dX7_fall_28 : decode cX7_fall 28 = .ok (.ifCond .eq 17, 3) := by decide +kernel
theorem dX7_fall_31 : decode cX7_fall 31 = .ok (.aload_n 0, 1) := by decide +kernel
theorem dX7_fall_32 : decode cX7_fall 32 = .ok (.iload_n 2, 1) := by decide +kernel
theorem dX7_fall_33 : decode cX7_fall 33 = .ok (.invokevirtual 69, 3) := by decide +kernel
theorem dX7_fall_36 : decode cX7_fall 36 = .ok (.aload_n 0, 1) := by decide +kernel
theorem dX7_fall_37 : decode cX7_fall 37 = .ok (.iload_n 3, 1) := by decide +kernel
theorem dX7_fall_38 : decode cX7_fall 38 = .ok (.invokevirtual 69, 3) := by decide +kernel
theorem dX7_fall_41 : decode cX7_fall 41 = .ok (.isub, 1) := by decide +kernel
theorem dX7_fall_42 : decode cX7_fall 42 = .ok (.goto 9, 3) := by decide +kernel
theorem dX7_fall_45 : decode cX7_fall 45 = .ok (.aload_n 0, 1) := by decide +kernel
theorem dX7_fall_46 : decode cX7_fall 46 = .ok (.ldc 92, 2) := by decide +kernel
theorem dX7_fall_48 : decode cX7_fall 48 = .ok (.invokevirtual 49, 3) := by decide +kernel
theorem dX7_fall_51 : decode cX7_fall 51 = .ok (.ireturn, 1) := by decide +kernel
theorem dX7_reachWith_0 : decode cX7_reachWith 0 = .ok (.aload_n 0, 1) := by decide +kernel
theorem dX7_reachWith_1 : decode cX7_reachWith 1 = .ok (.iload_n 1, 1) := by decide +kernel
theorem dX7_reachWith_2 : decode cX7_reachWith 2 = .ok (.iload_n 2, 1) := by decide +kernel
theorem dX7_reachWith_3 : decode cX7_reachWith 3 = .ok (.aload_n 0, 1) := by decide +kernel
theorem dX7_reachWith_4 : decode cX7_reachWith 4 = .ok (.getfield 7, 3) := by decide +kernel
theorem dX7_reachWith_7 : decode cX7_reachWith 7 = .ok (.iconst 4, 1) := by decide +kernel
theorem dX7_reachWith_8 : decode cX7_reachWith 8 = .ok (.iaload, 1) := by decide +kernel
theorem dX7_reachWith_9 : decode cX7_reachWith 9 = .ok (.iconst 1, 1) := by decide +kernel
theorem dX7_reachWith_10 : decode cX7_reachWith 10 = .ok (.invokevirtual 125, 3) := by decide +kernel
theorem dX7_reachWith_13 : decode cX7_reachWith 13 = .ok (.aload_n 0, 1) := by decide +kernel
theorem dX7_reachWith_14 : decode cX7_reachWith 14 = .ok (.iload_n 1, 1) := by decide +kernel
theorem dX7_reachWith_15 : decode cX7_reachWith 15 = .ok (.iload_n 2, 1) := by decide +kernel
theorem dX7_reachWith_16 : decode cX7_reachWith 16 = .ok (.iload_n 3, 1) := by decide +kernel
theorem dX7_reachWith_17 : decode cX7_reachWith 17 = .ok (.iconst 1, 1) := by decide +kernel
theorem dX7_reachWith_18 : decode cX7_reachWith 18 = .ok (.invokevirtual 110, 3) := by decide +kernel
theorem dX7_reachWith_21 : decode cX7_reachWith 21 = .ok (.istore 4, 2) := by decide +kernel
theorem dX7_reachWith_23 : decode cX7_reachWith 23 = .ok (.iload 4, 2) := by decide +kernel
theorem dX7_reachWith_25 : decode cX7_reachWith 25 = .ok (.ifCond .eq 60, 3) := by decide +kernel
theorem dX7_reachWith_28 : decode cX7_reachWith 28 = .ok (.aload_n 0, 1) := by decide +kernel
theorem dX7_reachWith_29 : decode cX7_reachWith 29 = .ok (.iload_n 1, 1) := by decide +kernel
theorem dX7_reachWith_30 : decode cX7_reachWith 30 = .ok (.aload_n 0, 1) := by decide +kernel
theorem dX7_reachWith_31 : decode cX7_reachWith 31 = .ok (.iload_n 1, 1) := by decide +kernel
theorem dX7_reachWith_32 : decode cX7_reachWith 32 = .ok (.invokevirtual 118, 3) := by decide +kernel
theorem dX7_reachWith_35 : decode cX7_reachWith 35 = .ok (.invokevirtual 121, 3) := by decide +kernel
theorem dX7_reachWith_38 : decode cX7_reachWith 38 = .ok (.istore 5, 2) := by decide +kernel
theorem dX7_reachWith_40 : decode cX7_reachWith 40 = .ok (.aload_n 0, 1) := by decide +kernel
theorem dX7_reachWith_41 : decode cX7_reachWith 41 = .ok (.iload_n 1, 1) := by decide +kernel
theorem dX7_reachWith_42 : decode cX7_reachWith 42 = .ok (.iload_n 2, 1) := by decide +kernel
theorem dX7_reachWith_43 : decode cX7_reachWith 43 = .ok (.iload_n 3, 1) := by decide +kernel
theorem dX7_reachWith_44 : decode cX7_reachWith 44 = .ok (.iconst 1, 1) := by decide +kernel
theorem dX7_reachWith_45 : decode cX7_reachWith 45 = .ok (.invokevirtual 110, 3) := by decide +kernel
theorem dX7_reachWith_48 : decode cX7_reachWith 48 = .ok (.istore 6, 2) := by decide +kernel
theorem dX7_reachWith_50 : decode cX7_reachWith 50 = .ok (.aload_n 0, 1) := by decide +kernel
theorem dX7_reachWith_51 : decode cX7_reachWith 51 = .ok (.iload_n 1, 1) := by decide +kernel
theorem dX7_reachWith_52 : decode cX7_reachWith 52 = .ok (.iload_n 3, 1) := by decide +kernel
theorem dX7_reachWith_53 : decode cX7_reachWith 53 = .ok (.iload_n 2, 1) := by decide +kernel
theorem dX7_reachWith_54 : decode cX7_reachWith 54 = .ok (.iconst 1, 1) := by decide +kernel
theorem dX7_reachWith_55 : decode cX7_reachWith 55 = .ok (.invokevirtual 110, 3) := by decide +kernel
theorem dX7_reachWith_58 : decode cX7_reachWith 58 = .ok (.istore 7, 2) := by decide +kernel
theorem dX7_reachWith_60 : decode cX7_reachWith 60 = .ok (.iload 5, 2) := by decide +kernel
theorem dX7_reachWith_62 : decode cX7_reachWith 62 = .ok (.ifCond .ne 13, 3) := by decide +kernel
theorem dX7_reachWith_65 : decode cX7_reachWith 65 = .ok (.iload 6, 2) := by decide +kernel
theorem dX7_reachWith_67 : decode cX7_reachWith 67 = .ok (.ifCond .ne 8, 3) := by decide +kernel
theorem dX7_reachWith_70 : decode cX7_reachWith 70 = .ok (.iload 7, 2) := by decide +kernel
theorem dX7_reachWith_72 : decode cX7_reachWith 72 = .ok (.ifCond .eq 7, 3) := by decide +kernel
theorem dX7_reachWith_75 : decode cX7_reachWith 75 = .ok (.iconst 1, 1) := by decide +kernel
theorem dX7_reachWith_76 : decode cX7_reachWith 76 = .ok (.goto 4, 3) := by decide +kernel
theorem dX7_reachWith_79 : decode cX7_reachWith 79 = .ok (.iconst 0, 1) := by decide +kernel
theorem dX7_reachWith_80 : decode cX7_reachWith 80 = .ok (.istore 4, 2) := by decide +kernel
theorem dX7_reachWith_82 : decode cX7_reachWith 82 = .ok (.goto (-59), 3) := by decide +kernel
theorem dX7_reachWith_85 : decode cX7_reachWith 85 = .ok (.aload_n 0, 1) := by decide +kernel
theorem dX7_reachWith_86 : decode cX7_reachWith 86 = .ok (.invokevirtual 136, 3) := by decide +kernel
theorem dX7_reachWith_89 : decode cX7_reachWith 89 = .ok (.ireturn, 1) := by decide +kernel
theorem dX7_dig_0 : decode cX7_dig 0 = .ok (.iload_n 1, 1) := by decide +kernel
theorem dX7_dig_1 : decode cX7_dig 1 = .ok (.invokestatic 100, 3) := by decide +kernel
theorem dX7_dig_4 : decode cX7_dig 4 = .ok (.ifCond .eq 11, 3) := by decide +kernel
theorem dX7_dig_7 : decode cX7_dig 7 = .ok (.aload_n 0, 1) := by decide +kernel
theorem dX7_dig_8 : decode cX7_dig 8 = .ok (.iload_n 2, 1) := by decide +kernel
theorem dX7_dig_9 : decode cX7_dig 9 = .ok (.invokevirtual 65, 3) := by decide +kernel
theorem dX7_dig_12 : decode cX7_dig 12 = .ok (.ifCond .ne 10, 3) := by decide +kernel
theorem dX7_dig_15 : decode cX7_dig 15 = .ok (.aload_n 0, 1) := by decide +kernel
theorem dX7_dig_16 : decode cX7_dig 16 = .ok (.ldc 44, 2) := by decide +kernel
theorem dX7_dig_18 : decode cX7_dig 18 = .ok (.invokevirtual 49, 3) := by decide +kernel
theorem dX7_dig_21 : decode cX7_dig 21 = .ok (.ireturn, 1) := by decide +kernel
theorem dX7_dig_22 : decode cX7_dig 22 = .ok (.aload_n 0, 1) := by decide +kernel
theorem dX7_dig_23 : decode cX7_dig 23 = .ok (.iload_n 1, 1) := by decide +kernel
theorem dX7_dig_24 : decode cX7_dig 24 = .ok (.iload_n 2, 1) := by decide +kernel
theorem dX7_dig_25 : decode cX7_dig 25 = .ok (.iconst 1, 1) := by decide +kernel
theorem dX7_dig_26 : decode cX7_dig 26 = .ok (.invokevirtual 139, 3) := by decide +kernel
theorem dX7_dig_29 : decode cX7_dig 29 = .ok (.invokestatic 151, 3) := by decide +kernel
theorem dX7_dig_32 : decode cX7_dig 32 = .ok (.istore_n 3, 1) := by decide +kernel
theorem dX7_dig_33 : decode cX7_dig 33 = .ok (.iconst (-1), 1) := by decide +kernel
theorem dX7_dig_34 : decode cX7_dig 34 = .ok (.istore 4, 2) := by decide +kernel
theorem dX7_dig_36 : decode cX7_dig 36 = .ok (.iconst 0, 1) := by decide +kernel
theorem dX7_dig_37 : decode cX7_dig 37 = .ok (.istore 5, 2) := by decide +kernel
theorem dX7_dig_39 : decode cX7_dig 39 = .ok (.iload 5, 2) := by decide +kernel
theorem dX7_dig_41 : decode cX7_dig 41 = .ok (.aload_n 0, 1) := by decide +kernel
theorem dX7_dig_42 : decode cX7_dig 42 = .ok (.getfield 7, 3) := by decide +kernel
theorem dX7_dig_45 : decode cX7_dig 45 = .ok (.iconst 0, 1) := by decide +kernel
theorem dX7_dig_46 : decode cX7_dig 46 = .ok (.iaload, 1) := by decide +kernel
theorem dX7_dig_47 : decode cX7_dig 47 = .ok (.if_icmp .ge 60, 3) := by decide +kernel
theorem dX7_dig_50 : decode cX7_dig 50 = .ok (.iload 5, 2) := by decide +kernel
theorem dX7_dig_52 : decode cX7_dig 52 = .ok (.iload_n 2, 1) := by decide +kernel
theorem dX7_dig_53 : decode cX7_dig 53 = .ok (.if_icmp .ne 7, 3) := by decide +kernel
theorem dX7_dig_56 : decode cX7_dig 56 = .ok (.iconst 0, 1) := by decide +kernel
theorem dX7_dig_57 : decode cX7_dig 57 = .ok (.goto 14, 3) := by decide +kernel
theorem dX7_dig_60 : decode cX7_dig 60 = .ok (.aload_n 0, 1) := by decide +kernel
theorem dX7_dig_61 : decode cX7_dig 61 = .ok (.iload_n 1, 1) := by decide +kernel
theorem dX7_dig_62 : decode cX7_dig 62 = .ok (.iload_n 2, 1) := by decide +kernel
theorem dX7_dig_63 : decode cX7_dig 63 = .ok (.iload 5, 2) := by decide +kernel
theorem dX7_dig_65 : decode cX7_dig 65 = .ok (.invokevirtual 154, 3) := by decide +kernel
theorem dX7_dig_68 : decode cX7_dig 68 = .ok (.invokestatic 151, 3) := by decide +kernel
theorem dX7_dig_71 : decode cX7_dig 71 = .ok (.istore 6, 2) := by decide +kernel
theorem dX7_dig_73 : decode cX7_dig 73 = .ok (.iload 6, 2) := by decide +kernel
theorem dX7_dig_75 : decode cX7_dig 75 = .ok (.iload_n 3, 1) := by decide +kernel
theorem dX7_dig_76 : decode cX7_dig 76 = .ok (.if_icmp .le 8, 3) := by decide +kernel
theorem dX7_dig_79 : decode cX7_dig 79 = .ok (.iload 5, 2) := by decide +kernel
theorem dX7_dig_81 : decode cX7_dig 81 = .ok (.goto 5, 3) := by decide +kernel
theorem dX7_dig_84 : decode cX7_dig 84 = .ok (.iload 4, 2) := by decide +kernel
theorem dX7_dig_86 : decode cX7_dig 86 = .ok (.istore 4, 2) := by decide +kernel
theorem dX7_dig_88 : decode cX7_dig 88 = .ok (.iload 6, 2) := by decide +kernel
theorem dX7_dig_90 : decode cX7_dig 90 = .ok (.iload_n 3, 1) := by decide +kernel
theorem dX7_dig_91 : decode cX7_dig 91 = .ok (.if_icmp .le 8, 3) := by decide +kernel
theorem dX7_dig_94 : decode cX7_dig 94 = .ok (.iload 6, 2) := by decide +kernel
theorem dX7_dig_96 : decode cX7_dig 96 = .ok (.goto 4, 3) := by decide +kernel
theorem dX7_dig_99 : decode cX7_dig 99 = .ok (.iload_n 3, 1) := by decide +kernel
theorem dX7_dig_100 : decode cX7_dig 100 = .ok (.istore_n 3, 1) := by decide +kernel
theorem dX7_dig_101 : decode cX7_dig 101 = .ok (.iinc 5 1, 3) := by decide +kernel
theorem dX7_dig_104 : decode cX7_dig 104 = .ok (.goto (-65), 3) := by decide +kernel
theorem dX7_dig_107 : decode cX7_dig 107 = .ok (.iload 4, 2) := by decide +kernel
theorem dX7_dig_109 : decode cX7_dig 109 = .ok (.ifCond .ge 12, 3) := by decide +kernel
theorem dX7_dig_112 : decode cX7_dig 112 = .ok (.aload_n 0, 1) := by decide +kernel
theorem dX7_dig_113 : decode cX7_dig 113 = .ok (.ldc 92, 2) := by decide +kernel
theorem dX7_dig_115 : decode cX7_dig 115 = .ok (.invokevirtual 49, 3) := by decide +kernel
theorem dX7_dig_118 : decode cX7_dig 118 = .ok (.goto 5, 3) := by decide +kernel
theorem dX7_dig_121 : decode cX7_dig 121 = .ok (.iload 4, 2) := by decide +kernel
theorem dX7_dig_123 : decode cX7_dig 123 = .ok (.ireturn, 1) := by decide +kernel
theorem dX7_addLetter_0 : decode cX7_addLetter 0 = .ok (.aload_n 0, 1) := by decide +kernel
theorem dX7_addLetter_1 : decode cX7_addLetter 1 = .ok (.getfield 7, 3) := by decide +kernel
theorem dX7_addLetter_4 : decode cX7_addLetter 4 = .ok (.iconst 2, 1) := by decide +kernel
theorem dX7_addLetter_5 : decode cX7_addLetter 5 = .ok (.iaload, 1) := by decide +kernel
theorem dX7_addLetter_6 : decode cX7_addLetter 6 = .ok (.istore 4, 2) := by decide +kernel
theorem dX7_addLetter_8 : decode cX7_addLetter 8 = .ok (.aload_n 0, 1) := by decide +kernel
theorem dX7_addLetter_9 : decode cX7_addLetter 9 = .ok (.iload 4, 2) := by decide +kernel
theorem dX7_addLetter_11 : decode cX7_addLetter 11 = .ok (.iconst 0, 1) := by decide +kernel
theorem dX7_addLetter_12 : decode cX7_addLetter 12 = .ok (.iload_n 1, 1) := by decide +kernel
theorem dX7_addLetter_13 : decode cX7_addLetter 13 = .ok (.invokevirtual 157, 3) := by decide +kernel
theorem dX7_addLetter_16 : decode cX7_addLetter 16 = .ok (.aload_n 0, 1) := by decide +kernel
theorem dX7_addLetter_17 : decode cX7_addLetter 17 = .ok (.iload 4, 2) := by decide +kernel
theorem dX7_addLetter_19 : decode cX7_addLetter 19 = .ok (.iconst 1, 1) := by decide +kernel
theorem dX7_addLetter_20 : decode cX7_addLetter 20 = .ok (.iload_n 2, 1) := by decide +kernel
theorem dX7_addLetter_21 : decode cX7_addLetter 21 = .ok (.invokevirtual 157, 3) := by decide +kernel
theorem dX7_addLetter_24 : decode cX7_addLetter 24 = .ok (.aload_n 0, 1) := by decide +kernel
theorem dX7_addLetter_25 : decode cX7_addLetter 25 = .ok (.iload 4, 2) := by decide +kernel
theorem dX7_addLetter_27 : decode cX7_addLetter 27 = .ok (.iconst 2, 1) := by decide +kernel
theorem dX7_addLetter_28 : decode cX7_addLetter 28 = .ok (.iload_n 3, 1) := by decide +kernel
theorem dX7_addLetter_29 : decode cX7_addLetter 29 = .ok (.invokevirtual 157, 3) := by decide +kernel
theorem dX7_addLetter_32 : decode cX7_addLetter 32 = .ok (.aload_n 0, 1) := by decide +kernel
theorem dX7_addLetter_33 : decode cX7_addLetter 33 = .ok (.iload 4, 2) := by decide +kernel
theorem dX7_addLetter_35 : decode cX7_addLetter 35 = .ok (.iconst 3, 1) := by decide +kernel
theorem dX7_addLetter_36 : decode cX7_addLetter 36 = .ok (.aload_n 0, 1) := by decide +kernel
theorem dX7_addLetter_37 : decode cX7_addLetter 37 = .ok (.getfield 7, 3) := by decide +kernel
theorem dX7_addLetter_40 : decode cX7_addLetter 40 = .ok (.iconst 4, 1) := by decide +kernel
theorem dX7_addLetter_41 : decode cX7_addLetter 41 = .ok (.iaload, 1) := by decide +kernel
theorem dX7_addLetter_42 : decode cX7_addLetter 42 = .ok (.invokevirtual 157, 3) := by decide +kernel
theorem dX7_addLetter_45 : decode cX7_addLetter 45 = .ok (.aload_n 0, 1) := by decide +kernel
theorem dX7_addLetter_46 : decode cX7_addLetter 46 = .ok (.iload 4, 2) := by decide +kernel
theorem dX7_addLetter_48 : decode cX7_addLetter 48 = .ok (.iconst 4, 1) := by decide +kernel
theorem dX7_addLetter_49 : decode cX7_addLetter 49 = .ok (.iconst 0, 1) := by decide +kernel
theorem dX7_addLetter_50 : decode cX7_addLetter 50 = .ok (.invokevirtual 157, 3) := by decide +kernel
theorem dX7_addLetter_53 : decode cX7_addLetter 53 = .ok (.aload_n 0, 1) := by decide +kernel
theorem dX7_addLetter_54 : decode cX7_addLetter 54 = .ok (.getfield 7, 3) := by decide +kernel
theorem dX7_addLetter_57 : decode cX7_addLetter 57 = .ok (.iconst 2, 1) := by decide +kernel
theorem dX7_addLetter_58 : decode cX7_addLetter 58 = .ok (.dup2, 1) := by decide +kernel
theorem dX7_addLetter_59 : decode cX7_addLetter 59 = .ok (.iaload, 1) := by decide +kernel
theorem dX7_addLetter_60 : decode cX7_addLetter 60 = .ok (.iconst 1, 1) := by decide +kernel
theorem dX7_addLetter_61 : decode cX7_addLetter 61 = .ok (.iadd, 1) := by decide +kernel
theorem dX7_addLetter_62 : decode cX7_addLetter 62 = .ok (.iastore, 1) := by decide +kernel
theorem dX7_addLetter_63 : decode cX7_addLetter 63 = .ok (.return_, 1) := by decide +kernel
theorem dX7_send_0 : decode cX7_send 0 = .ok (.aload_n 0, 1) := by decide +kernel
theorem dX7_send_1 : decode cX7_send 1 = .ok (.iload_n 1, 1) := by decide +kernel
theorem dX7_send_2 : decode cX7_send 2 = .ok (.iload_n 2, 1) := by decide +kernel
theorem dX7_send_3 : decode cX7_send 3 = .ok (.iload_n 3, 1) := by decide +kernel
theorem dX7_send_4 : decode cX7_send 4 = .ok (.invokevirtual 129, 3) := by decide +kernel
theorem dX7_send_7 : decode cX7_send 7 = .ok (.ifCond .ne 10, 3) := by decide +kernel
theorem dX7_send_10 : decode cX7_send 10 = .ok (.aload_n 0, 1) := by decide +kernel
theorem dX7_send_11 : decode cX7_send 11 = .ok (.ldc 44, 2) := by decide +kernel
theorem dX7_send_13 : decode cX7_send 13 = .ok (.invokevirtual 49, 3) := by decide +kernel
theorem dX7_send_16 : decode cX7_send 16 = .ok (.ireturn, 1) := by decide +kernel
theorem dX7_send_17 : decode cX7_send 17 = .ok (.aload_n 0, 1) := by decide +kernel
theorem dX7_send_18 : decode cX7_send 18 = .ok (.getfield 7, 3) := by decide +kernel
theorem dX7_send_21 : decode cX7_send 21 = .ok (.iconst 2, 1) := by decide +kernel
theorem dX7_send_22 : decode cX7_send 22 = .ok (.iaload, 1) := by decide +kernel
theorem dX7_send_23 : decode cX7_send 23 = .ok (.bipush 10, 2) := by decide +kernel
theorem dX7_send_25 : decode cX7_send 25 = .ok (.if_icmp .ne 10, 3) := by decide +kernel
theorem dX7_send_28 : decode cX7_send 28 = .ok (.aload_n 0, 1) := by decide +kernel
theorem dX7_send_29 : decode cX7_send 29 = .ok (.ldc 53, 2) := by decide +kernel
theorem dX7_send_31 : decode cX7_send 31 = .ok (.invokevirtual 49, 3) := by decide +kernel
theorem dX7_send_34 : decode cX7_send 34 = .ok (.ireturn, 1) := by decide +kernel
theorem dX7_send_35 : decode cX7_send 35 = .ok (.aload_n 0, 1) := by decide +kernel
theorem dX7_send_36 : decode cX7_send 36 = .ok (.iload_n 1, 1) := by decide +kernel
theorem dX7_send_37 : decode cX7_send 37 = .ok (.iload_n 2, 1) := by decide +kernel
theorem dX7_send_38 : decode cX7_send 38 = .ok (.iload_n 3, 1) := by decide +kernel
theorem dX7_send_39 : decode cX7_send 39 = .ok (.invokevirtual 160, 3) := by decide +kernel
theorem dX7_send_42 : decode cX7_send 42 = .ok (.aload_n 0, 1) := by decide +kernel
theorem dX7_send_43 : decode cX7_send 43 = .ok (.getfield 7, 3) := by decide +kernel
theorem dX7_send_46 : decode cX7_send 46 = .ok (.iconst 2, 1) := by decide +kernel
theorem dX7_send_47 : decode cX7_send 47 = .ok (.iaload, 1) := by decide +kernel
theorem dX7_send_48 : decode cX7_send 48 = .ok (.iconst 1, 1) := by decide +kernel
theorem dX7_send_49 : decode cX7_send 49 = .ok (.isub, 1) := by decide +kernel
theorem dX7_send_50 : decode cX7_send 50 = .ok (.ireturn, 1) := by decide +kernel
theorem dX7_isThere_0 : decode cX7_isThere 0 = .ok (.aload_n 0, 1) := by decide +kernel
theorem dX7_isThere_1 : decode cX7_isThere 1 = .ok (.iload_n 1, 1) := by decide +kernel
theorem dX7_isThere_2 : decode cX7_isThere 2 = .ok (.iconst 4, 1) := by decide +kernel
theorem dX7_isThere_3 : decode cX7_isThere 3 = .ok (.invokevirtual 62, 3) := by decide +kernel
theorem dX7_isThere_6 : decode cX7_isThere 6 = .ok (.ifCond .ne 22, 3) := by decide +kernel
theorem dX7_isThere_9 : decode cX7_isThere 9 = .ok (.aload_n 0, 1) := by decide +kernel
theorem dX7_isThere_10 : decode cX7_isThere 10 = .ok (.iload_n 1, 1) := by decide +kernel
theorem dX7_isThere_11 : decode cX7_isThere 11 = .ok (.iconst 1, 1) := by decide +kernel
theorem dX7_isThere_12 : decode cX7_isThere 12 = .ok (.invokevirtual 62, 3) := by decide +kernel
theorem dX7_isThere_15 : decode cX7_isThere 15 = .ok (.aload_n 0, 1) := by decide +kernel
theorem dX7_isThere_16 : decode cX7_isThere 16 = .ok (.iload_n 1, 1) := by decide +kernel
theorem dX7_isThere_17 : decode cX7_isThere 17 = .ok (.iconst 2, 1) := by decide +kernel
theorem dX7_isThere_18 : decode cX7_isThere 18 = .ok (.invokevirtual 62, 3) := by decide +kernel
theorem dX7_isThere_21 : decode cX7_isThere 21 = .ok (.if_icmp .ne 7, 3) := by decide +kernel
theorem dX7_isThere_24 : decode cX7_isThere 24 = .ok (.iconst 1, 1) := by decide +kernel
theorem dX7_isThere_25 : decode cX7_isThere 25 = .ok (.goto 4, 3) := by decide +kernel
theorem dX7_isThere_28 : decode cX7_isThere 28 = .ok (.iconst 0, 1) := by decide +kernel
theorem dX7_isThere_29 : decode cX7_isThere 29 = .ok (.ireturn, 1) := by decide +kernel
theorem dX7_of_0 : decode cX7_of 0 = .ok (.aload_n 0, 1) := by decide +kernel
theorem dX7_of_1 : decode cX7_of 1 = .ok (.iload_n 1, 1) := by decide +kernel
theorem dX7_of_2 : decode cX7_of 2 = .ok (.invokevirtual 163, 3) := by decide +kernel
theorem dX7_of_5 : decode cX7_of 5 = .ok (.ifCond .eq 12, 3) := by decide +kernel
theorem dX7_of_8 : decode cX7_of 8 = .ok (.iload_n 2, 1) := by decide +kernel
theorem dX7_of_9 : decode cX7_of 9 = .ok (.iconst 0, 1) := by decide +kernel
theorem dX7_of_10 : decode cX7_of 10 = .ok (.iconst 5, 1) := by decide +kernel
theorem dX7_of_11 : decode cX7_of 11 = .ok (.invokestatic 45, 3) := by decide +kernel
theorem dX7_of_14 : decode cX7_of 14 = .ok (.ifCond .ne 10, 3) := by decide +kernel
theorem dX7_of_17 : decode cX7_of 17 = .ok (.aload_n 0, 1) := by decide +kernel
theorem dX7_of_18 : decode cX7_of 18 = .ok (.ldc 44, 2) := by decide +kernel
theorem dX7_of_20 : decode cX7_of 20 = .ok (.invokevirtual 49, 3) := by decide +kernel
theorem dX7_of_23 : decode cX7_of 23 = .ok (.ireturn, 1) := by decide +kernel
theorem dX7_of_24 : decode cX7_of 24 = .ok (.iload_n 2, 1) := by decide +kernel
theorem dX7_of_25 : decode cX7_of 25 = .ok (.iconst 5, 1) := by decide +kernel
theorem dX7_of_26 : decode cX7_of 26 = .ok (.if_icmp .ge 12, 3) := by decide +kernel
theorem dX7_of_29 : decode cX7_of 29 = .ok (.aload_n 0, 1) := by decide +kernel
theorem dX7_of_30 : decode cX7_of 30 = .ok (.iload_n 1, 1) := by decide +kernel
theorem dX7_of_31 : decode cX7_of 31 = .ok (.iload_n 2, 1) := by decide +kernel
theorem dX7_of_32 : decode cX7_of 32 = .ok (.invokevirtual 62, 3) := by decide +kernel
theorem dX7_of_35 : decode cX7_of 35 = .ok (.goto 16, 3) := by decide +kernel
theorem dX7_of_38 : decode cX7_of 38 = .ok (.aload_n 0, 1) := by decide +kernel
theorem dX7_of_39 : decode cX7_of 39 = .ok (.iload_n 1, 1) := by decide +kernel
theorem dX7_of_40 : decode cX7_of 40 = .ok (.invokevirtual 166, 3) := by decide +kernel
theorem dX7_of_43 : decode cX7_of 43 = .ok (.ifCond .eq 7, 3) := by decide +kernel
theorem dX7_of_46 : decode cX7_of 46 = .ok (.iconst 1, 1) := by decide +kernel
theorem dX7_of_47 : decode cX7_of 47 = .ok (.goto 4, 3) := by decide +kernel
theorem dX7_of_50 : decode cX7_of 50 = .ok (.iconst 0, 1) := by decide +kernel
theorem dX7_of_51 : decode cX7_of 51 = .ok (.ireturn, 1) := by decide +kernel
theorem dX7_turn_0 : decode cX7_turn 0 = .ok (.aload_n 0, 1) := by decide +kernel
theorem dX7_turn_1 : decode cX7_turn 1 = .ok (.iload_n 1, 1) := by decide +kernel
theorem dX7_turn_2 : decode cX7_turn 2 = .ok (.invokevirtual 163, 3) := by decide +kernel
theorem dX7_turn_5 : decode cX7_turn 5 = .ok (.ifCond .eq 10, 3) := by decide +kernel
theorem dX7_turn_8 : decode cX7_turn 8 = .ok (.iload_n 2, 1) := by decide +kernel
theorem dX7_turn_9 : decode cX7_turn 9 = .ok (.invokestatic 100, 3) := by decide +kernel
theorem dX7_turn_12 : decode cX7_turn 12 = .ok (.ifCond .ne 10, 3) := by decide +kernel
theorem dX7_turn_15 : decode cX7_turn 15 = .ok (.aload_n 0, 1) := by decide +kernel
theorem dX7_turn_16 : decode cX7_turn 16 = .ok (.ldc 44, 2) := by decide +kernel
theorem dX7_turn_18 : decode cX7_turn 18 = .ok (.invokevirtual 49, 3) := by decide +kernel
theorem dX7_turn_21 : decode cX7_turn 21 = .ok (.ireturn, 1) := by decide +kernel
theorem dX7_turn_22 : decode cX7_turn 22 = .ok (.aload_n 0, 1) := by decide +kernel
theorem dX7_turn_23 : decode cX7_turn 23 = .ok (.iload_n 1, 1) := by decide +kernel
theorem dX7_turn_24 : decode cX7_turn 24 = .ok (.iconst 0, 1) := by decide +kernel
theorem dX7_turn_25 : decode cX7_turn 25 = .ok (.invokevirtual 62, 3) := by decide +kernel
theorem dX7_turn_28 : decode cX7_turn 28 = .ok (.istore_n 3, 1) := by decide +kernel
theorem dX7_turn_29 : decode cX7_turn 29 = .ok (.aload_n 0, 1) := by decide +kernel
theorem dX7_turn_30 : decode cX7_turn 30 = .ok (.iload_n 1, 1) := by decide +kernel
theorem dX7_turn_31 : decode cX7_turn 31 = .ok (.iconst 0, 1) := by decide +kernel
theorem dX7_turn_32 : decode cX7_turn 32 = .ok (.iload_n 2, 1) := by decide +kernel
theorem dX7_turn_33 : decode cX7_turn 33 = .ok (.invokevirtual 157, 3) := by decide +kernel
theorem dX7_turn_36 : decode cX7_turn 36 = .ok (.iload_n 3, 1) := by decide +kernel
theorem dX7_turn_37 : decode cX7_turn 37 = .ok (.ireturn, 1) := by decide +kernel
theorem dX7_isUnder_0 : decode cX7_isUnder 0 = .ok (.iload_n 1, 1) := by decide +kernel
theorem dX7_isUnder_1 : decode cX7_isUnder 1 = .ok (.ifCond .eq 28, 3) := by decide +kernel
theorem dX7_isUnder_4 : decode cX7_isUnder 4 = .ok (.iload_n 1, 1) := by decide +kernel
theorem dX7_isUnder_5 : decode cX7_isUnder 5 = .ok (.iload_n 0, 1) := by decide +kernel
theorem dX7_isUnder_6 : decode cX7_isUnder 6 = .ok (.if_icmp .eq 23, 3) := by decide +kernel
theorem dX7_isUnder_9 : decode cX7_isUnder 9 = .ok (.iload_n 1, 1) := by decide +kernel
theorem dX7_isUnder_10 : decode cX7_isUnder 10 = .ok (.iconst 2, 1) := by decide +kernel
theorem dX7_isUnder_11 : decode cX7_isUnder 11 = .ok (.if_icmp .ne 8, 3) := by decide +kernel
theorem dX7_isUnder_14 : decode cX7_isUnder 14 = .ok (.iload_n 0, 1) := by decide +kernel
theorem dX7_isUnder_15 : decode cX7_isUnder 15 = .ok (.iconst 4, 1) := by decide +kernel
theorem dX7_isUnder_16 : decode cX7_isUnder 16 = .ok (.if_icmp .eq 13, 3) := by decide +kernel
theorem dX7_isUnder_19 : decode cX7_isUnder 19 = .ok (.iload_n 1, 1) := by decide +kernel
theorem dX7_isUnder_20 : decode cX7_isUnder 20 = .ok (.iconst 3, 1) := by decide +kernel
theorem dX7_isUnder_21 : decode cX7_isUnder 21 = .ok (.if_icmp .ne 12, 3) := by decide +kernel
theorem dX7_isUnder_24 : decode cX7_isUnder 24 = .ok (.iload_n 0, 1) := by decide +kernel
theorem dX7_isUnder_25 : decode cX7_isUnder 25 = .ok (.iconst 5, 1) := by decide +kernel
theorem dX7_isUnder_26 : decode cX7_isUnder 26 = .ok (.if_icmp .ne 7, 3) := by decide +kernel
theorem dX7_isUnder_29 : decode cX7_isUnder 29 = .ok (.iconst 1, 1) := by decide +kernel
theorem dX7_isUnder_30 : decode cX7_isUnder 30 = .ok (.goto 4, 3) := by decide +kernel
theorem dX7_isUnder_33 : decode cX7_isUnder 33 = .ok (.iconst 0, 1) := by decide +kernel
theorem dX7_isUnder_34 : decode cX7_isUnder 34 = .ok (.ireturn, 1) := by decide +kernel
theorem dX7_as_0 : decode cX7_as 0 = .ok (.aload_n 0, 1) := by decide +kernel
theorem dX7_as_1 : decode cX7_as 1 = .ok (.iload_n 1, 1) := by decide +kernel
theorem dX7_as_2 : decode cX7_as 2 = .ok (.invokevirtual 163, 3) := by decide +kernel
theorem dX7_as_5 : decode cX7_as 5 = .ok (.ifCond .eq 10, 3) := by decide +kernel
theorem dX7_as_8 : decode cX7_as 8 = .ok (.iload_n 2, 1) := by decide +kernel
theorem dX7_as_9 : decode cX7_as 9 = .ok (.invokestatic 100, 3) := by decide +kernel
theorem dX7_as_12 : decode cX7_as 12 = .ok (.ifCond .ne 10, 3) := by decide +kernel
theorem dX7_as_15 : decode cX7_as 15 = .ok (.aload_n 0, 1) := by decide +kernel
theorem dX7_as_16 : decode cX7_as 16 = .ok (.ldc 44, 2) := by decide +kernel
theorem dX7_as_18 : decode cX7_as 18 = .ok (.invokevirtual 49, 3) := by decide +kernel
theorem dX7_as_21 : decode cX7_as 21 = .ok (.ireturn, 1) := by decide +kernel
theorem dX7_as_22 : decode cX7_as 22 = .ok (.aload_n 0, 1) := by decide +kernel
theorem dX7_as_23 : decode cX7_as 23 = .ok (.iload_n 1, 1) := by decide +kernel
theorem dX7_as_24 : decode cX7_as 24 = .ok (.iconst 0, 1) := by decide +kernel
theorem dX7_as_25 : decode cX7_as 25 = .ok (.invokevirtual 62, 3) := by decide +kernel
theorem dX7_as_28 : decode cX7_as 28 = .ok (.iload_n 2, 1) := by decide +kernel
theorem dX7_as_29 : decode cX7_as 29 = .ok (.invokestatic 169, 3) := by decide +kernel
theorem dX7_as_32 : decode cX7_as 32 = .ok (.ifCond .eq 12, 3) := by decide +kernel
theorem dX7_as_35 : decode cX7_as 35 = .ok (.aload_n 0, 1) := by decide +kernel
theorem dX7_as_36 : decode cX7_as 36 = .ok (.iload_n 1, 1) := by decide +kernel
theorem dX7_as_37 : decode cX7_as 37 = .ok (.iconst 2, 1) := by decide +kernel
theorem dX7_as_38 : decode cX7_as 38 = .ok (.invokevirtual 62, 3) := by decide +kernel
theorem dX7_as_41 : decode cX7_as 41 = .ok (.goto 9, 3) := by decide +kernel
theorem dX7_as_44 : decode cX7_as 44 = .ok (.aload_n 0, 1) := by decide +kernel
theorem dX7_as_45 : decode cX7_as 45 = .ok (.ldc 172, 2) := by decide +kernel
theorem dX7_as_47 : decode cX7_as 47 = .ok (.invokevirtual 49, 3) := by decide +kernel
theorem dX7_as_50 : decode cX7_as 50 = .ok (.ireturn, 1) := by decide +kernel
theorem dX7_keeps_0 : decode cX7_keeps 0 = .ok (.aload_n 0, 1) := by decide +kernel
theorem dX7_keeps_1 : decode cX7_keeps 1 = .ok (.iload_n 1, 1) := by decide +kernel
theorem dX7_keeps_2 : decode cX7_keeps 2 = .ok (.iload_n 2, 1) := by decide +kernel
theorem dX7_keeps_3 : decode cX7_keeps 3 = .ok (.iload_n 3, 1) := by decide +kernel
theorem dX7_keeps_4 : decode cX7_keeps 4 = .ok (.iload 4, 2) := by decide +kernel
theorem dX7_keeps_6 : decode cX7_keeps 6 = .ok (.invokevirtual 132, 3) := by decide +kernel
theorem dX7_keeps_9 : decode cX7_keeps 9 = .ok (.iload 5, 2) := by decide +kernel
theorem dX7_keeps_11 : decode cX7_keeps 11 = .ok (.if_icmp .ne 7, 3) := by decide +kernel
theorem dX7_keeps_14 : decode cX7_keeps 14 = .ok (.iconst 1, 1) := by decide +kernel
theorem dX7_keeps_15 : decode cX7_keeps 15 = .ok (.goto 4, 3) := by decide +kernel
theorem dX7_keeps_18 : decode cX7_keeps 18 = .ok (.iconst 0, 1) := by decide +kernel
theorem dX7_keeps_19 : decode cX7_keeps 19 = .ok (.ireturn, 1) := by decide +kernel
theorem dX7_findWay_0 : decode cX7_findWay 0 = .ok (.aload_n 0, 1) := by decide +kernel
theorem dX7_findWay_1 : decode cX7_findWay 1 = .ok (.iload_n 1, 1) := by decide +kernel
theorem dX7_findWay_2 : decode cX7_findWay 2 = .ok (.iconst 0, 1) := by decide +kernel
theorem dX7_findWay_3 : decode cX7_findWay 3 = .ok (.invokevirtual 62, 3) := by decide +kernel
theorem dX7_findWay_6 : decode cX7_findWay 6 = .ok (.istore_n 2, 1) := by decide +kernel
theorem dX7_findWay_7 : decode cX7_findWay 7 = .ok (.aload_n 0, 1) := by decide +kernel
theorem dX7_findWay_8 : decode cX7_findWay 8 = .ok (.iload_n 1, 1) := by decide +kernel
theorem dX7_findWay_9 : decode cX7_findWay 9 = .ok (.iconst 1, 1) := by decide +kernel
theorem dX7_findWay_10 : decode cX7_findWay 10 = .ok (.invokevirtual 62, 3) := by decide +kernel
theorem dX7_findWay_13 : decode cX7_findWay 13 = .ok (.istore_n 3, 1) := by decide +kernel
theorem dX7_findWay_14 : decode cX7_findWay 14 = .ok (.aload_n 0, 1) := by decide +kernel
theorem dX7_findWay_15 : decode cX7_findWay 15 = .ok (.iload_n 1, 1) := by decide +kernel
theorem dX7_findWay_16 : decode cX7_findWay 16 = .ok (.iconst 2, 1) := by decide +kernel
theorem dX7_findWay_17 : decode cX7_findWay 17 = .ok (.invokevirtual 62, 3) := by decide +kernel
theorem dX7_findWay_20 : decode cX7_findWay 20 = .ok (.istore 4, 2) := by decide +kernel
theorem dX7_findWay_22 : decode cX7_findWay 22 = .ok (.aload_n 0, 1) := by decide +kernel
theorem dX7_findWay_23 : decode cX7_findWay 23 = .ok (.iconst (-1), 1) := by decide +kernel
theorem dX7_findWay_24 : decode cX7_findWay 24 = .ok (.putfield 173, 3) := by decide +kernel
theorem dX7_findWay_27 : decode cX7_findWay 27 = .ok (.aload_n 0, 1) := by decide +kernel
theorem dX7_findWay_28 : decode cX7_findWay 28 = .ok (.iconst 0, 1) := by decide +kernel
theorem dX7_findWay_29 : decode cX7_findWay 29 = .ok (.putfield 177, 3) := by decide +kernel
theorem dX7_findWay_32 : decode cX7_findWay 32 = .ok (.iload_n 3, 1) := by decide +kernel
theorem dX7_findWay_33 : decode cX7_findWay 33 = .ok (.iload 4, 2) := by decide +kernel
theorem dX7_findWay_35 : decode cX7_findWay 35 = .ok (.if_icmp .ne 8, 3) := by decide +kernel
theorem dX7_findWay_38 : decode cX7_findWay 38 = .ok (.ldc 109, 2) := by decide +kernel
theorem dX7_findWay_40 : decode cX7_findWay 40 = .ok (.goto 17, 3) := by decide +kernel
theorem dX7_findWay_43 : decode cX7_findWay 43 = .ok (.aload_n 0, 1) := by decide +kernel
theorem dX7_findWay_44 : decode cX7_findWay 44 = .ok (.iload_n 2, 1) := by decide +kernel
theorem dX7_findWay_45 : decode cX7_findWay 45 = .ok (.iload_n 3, 1) := by decide +kernel
theorem dX7_findWay_46 : decode cX7_findWay 46 = .ok (.iload 4, 2) := by decide +kernel
theorem dX7_findWay_48 : decode cX7_findWay 48 = .ok (.aload_n 0, 1) := by decide +kernel
theorem dX7_findWay_49 : decode cX7_findWay 49 = .ok (.getfield 7, 3) := by decide +kernel
theorem dX7_findWay_52 : decode cX7_findWay 52 = .ok (.iconst 4, 1) := by decide +kernel
theorem dX7_findWay_53 : decode cX7_findWay 53 = .ok (.iaload, 1) := by decide +kernel
theorem dX7_findWay_54 : decode cX7_findWay 54 = .ok (.invokevirtual 132, 3) := by decide +kernel
theorem dX7_findWay_57 : decode cX7_findWay 57 = .ok (.istore 5, 2) := by decide +kernel
theorem dX7_findWay_59 : decode cX7_findWay 59 = .ok (.iload 5, 2) := by decide +kernel
theorem dX7_findWay_61 : decode cX7_findWay 61 = .ok (.ldc 109, 2) := by decide +kernel
theorem dX7_findWay_63 : decode cX7_findWay 63 = .ok (.if_icmp .ne 4, 3) := by decide +kernel
theorem dX7_findWay_66 : decode cX7_findWay 66 = .ok (.return_, 1) := by decide +kernel
theorem dX7_findWay_67 : decode cX7_findWay 67 = .ok (.iload_n 3, 1) := by decide +kernel
theorem dX7_findWay_68 : decode cX7_findWay 68 = .ok (.aload_n 0, 1) := by decide +kernel
theorem dX7_findWay_69 : decode cX7_findWay 69 = .ok (.invokevirtual 93, 3) := by decide +kernel
theorem dX7_findWay_72 : decode cX7_findWay 72 = .ok (.if_icmp .ne 31, 3) := by decide +kernel
theorem dX7_findWay_75 : decode cX7_findWay 75 = .ok (.aload_n 0, 1) := by decide +kernel
theorem dX7_findWay_76 : decode cX7_findWay 76 = .ok (.getfield 7, 3) := by decide +kernel
theorem dX7_findWay_79 : decode cX7_findWay 79 = .ok (.iconst 4, 1) := by decide +kernel
theorem dX7_findWay_80 : decode cX7_findWay 80 = .ok (.iaload, 1) := by decide +kernel
theorem dX7_findWay_81 : decode cX7_findWay 81 = .ok (.aload_n 0, 1) := by decide +kernel
theorem dX7_findWay_82 : decode cX7_findWay 82 = .ok (.getfield 7, 3) := by decide +kernel
theorem dX7_findWay_85 : decode cX7_findWay 85 = .ok (.iconst 3, 1) := by decide +kernel
theorem dX7_findWay_86 : decode cX7_findWay 86 = .ok (.iaload, 1) := by decide +kernel
theorem dX7_findWay_87 : decode cX7_findWay 87 = .ok (.irem, 1) := by decide +kernel
theorem dX7_findWay_88 : decode cX7_findWay 88 = .ok (.ifCond .ne 15, 3) := by decide +kernel
theorem dX7_findWay_91 : decode cX7_findWay 91 = .ok (.aload_n 0, 1) := by decide +kernel
theorem dX7_findWay_92 : decode cX7_findWay 92 = .ok (.iload_n 2, 1) := by decide +kernel
theorem dX7_findWay_93 : decode cX7_findWay 93 = .ok (.invokevirtual 118, 3) := by decide +kernel
theorem dX7_findWay_96 : decode cX7_findWay 96 = .ok (.ifCond .eq 7, 3) := by decide +kernel
theorem dX7_findWay_99 : decode cX7_findWay 99 = .ok (.iconst 1, 1) := by decide +kernel
theorem dX7_findWay_100 : decode cX7_findWay 100 = .ok (.goto 4, 3) := by decide +kernel
theorem dX7_findWay_103 : decode cX7_findWay 103 = .ok (.iconst 0, 1) := by decide +kernel
theorem dX7_findWay_104 : decode cX7_findWay 104 = .ok (.istore 6, 2) := by decide +kernel
theorem dX7_findWay_106 : decode cX7_findWay 106 = .ok (.iconst 0, 1) := by decide +kernel
theorem dX7_findWay_107 : decode cX7_findWay 107 = .ok (.istore 7, 2) := by decide +kernel
theorem dX7_findWay_109 : decode cX7_findWay 109 = .ok (.iload 7, 2) := by decide +kernel
theorem dX7_findWay_111 : decode cX7_findWay 111 = .ok (.aload_n 0, 1) := by decide +kernel
theorem dX7_findWay_112 : decode cX7_findWay 112 = .ok (.getfield 7, 3) := by decide +kernel
theorem dX7_findWay_115 : decode cX7_findWay 115 = .ok (.iconst 0, 1) := by decide +kernel
theorem dX7_findWay_116 : decode cX7_findWay 116 = .ok (.iaload, 1) := by decide +kernel
theorem dX7_findWay_117 : decode cX7_findWay 117 = .ok (.if_icmp .ge 187, 3) := by decide +kernel
theorem dX7_findWay_120 : decode cX7_findWay 120 = .ok (.aload_n 0, 1) := by decide +kernel
theorem dX7_findWay_121 : decode cX7_findWay 121 = .ok (.getfield 173, 3) := by decide +kernel
theorem dX7_findWay_124 : decode cX7_findWay 124 = .ok (.ifCond .ge 180, 3) := by decide +kernel
theorem dX7_findWay_127 : decode cX7_findWay 127 = .ok (.iload 7, 2) := by decide +kernel
theorem dX7_findWay_129 : decode cX7_findWay 129 = .ok (.iload_n 3, 1) := by decide +kernel
theorem dX7_findWay_130 : decode cX7_findWay 130 = .ok (.if_icmp .ne 7, 3) := by decide +kernel
theorem dX7_findWay_133 : decode cX7_findWay 133 = .ok (.iconst (-1), 1) := by decide +kernel
theorem dX7_findWay_134 : decode cX7_findWay 134 = .ok (.goto 10, 3) := by decide +kernel
theorem dX7_findWay_137 : decode cX7_findWay 137 = .ok (.aload_n 0, 1) := by decide +kernel
theorem dX7_findWay_138 : decode cX7_findWay 138 = .ok (.iload_n 3, 1) := by decide +kernel
theorem dX7_findWay_139 : decode cX7_findWay 139 = .ok (.iload 7, 2) := by decide +kernel
theorem dX7_findWay_141 : decode cX7_findWay 141 = .ok (.invokevirtual 81, 3) := by decide +kernel
theorem dX7_findWay_144 : decode cX7_findWay 144 = .ok (.istore 8, 2) := by decide +kernel
theorem dX7_findWay_146 : decode cX7_findWay 146 = .ok (.iload 8, 2) := by decide +kernel
theorem dX7_findWay_148 : decode cX7_findWay 148 = .ok (.ifCond .lt 14, 3) := by decide +kernel
theorem dX7_findWay_151 : decode cX7_findWay 151 = .ok (.aload_n 0, 1) := by decide +kernel
theorem dX7_findWay_152 : decode cX7_findWay 152 = .ok (.iload_n 2, 1) := by decide +kernel
theorem dX7_findWay_153 : decode cX7_findWay 153 = .ok (.iload_n 3, 1) := by decide +kernel
theorem dX7_findWay_154 : decode cX7_findWay 154 = .ok (.iload 7, 2) := by decide +kernel
theorem dX7_findWay_156 : decode cX7_findWay 156 = .ok (.invokevirtual 106, 3) := by decide +kernel
theorem dX7_findWay_159 : decode cX7_findWay 159 = .ok (.ifCond .ne 7, 3) := by decide +kernel
theorem dX7_findWay_162 : decode cX7_findWay 162 = .ok (.iconst 0, 1) := by decide +kernel
theorem dX7_findWay_163 : decode cX7_findWay 163 = .ok (.goto 15, 3) := by decide +kernel
theorem dX7_findWay_166 : decode cX7_findWay 166 = .ok (.aload_n 0, 1) := by decide +kernel
theorem dX7_findWay_167 : decode cX7_findWay 167 = .ok (.iload_n 2, 1) := by decide +kernel
theorem dX7_findWay_168 : decode cX7_findWay 168 = .ok (.aload_n 0, 1) := by decide +kernel
theorem dX7_findWay_169 : decode cX7_findWay 169 = .ok (.iload 8, 2) := by decide +kernel
theorem dX7_findWay_171 : decode cX7_findWay 171 = .ok (.iconst 2, 1) := by decide +kernel
theorem dX7_findWay_172 : decode cX7_findWay 172 = .ok (.invokevirtual 58, 3) := by decide +kernel
theorem dX7_findWay_175 : decode cX7_findWay 175 = .ok (.invokevirtual 103, 3) := by decide +kernel
theorem dX7_findWay_178 : decode cX7_findWay 178 = .ok (.istore 9, 2) := by decide +kernel
theorem dX7_findWay_180 : decode cX7_findWay 180 = .ok (.iload 9, 2) := by decide +kernel
theorem dX7_findWay_182 : decode cX7_findWay 182 = .ok (.ifCond .le 30, 3) := by decide +kernel
theorem dX7_findWay_185 : decode cX7_findWay 185 = .ok (.aload_n 0, 1) := by decide +kernel
theorem dX7_findWay_186 : decode cX7_findWay 186 = .ok (.iload_n 2, 1) := by decide +kernel
theorem dX7_findWay_187 : decode cX7_findWay 187 = .ok (.iload 7, 2) := by decide +kernel
theorem dX7_findWay_189 : decode cX7_findWay 189 = .ok (.iload 4, 2) := by decide +kernel
theorem dX7_findWay_191 : decode cX7_findWay 191 = .ok (.aload_n 0, 1) := by decide +kernel
theorem dX7_findWay_192 : decode cX7_findWay 192 = .ok (.getfield 7, 3) := by decide +kernel
theorem dX7_findWay_195 : decode cX7_findWay 195 = .ok (.iconst 4, 1) := by decide +kernel
theorem dX7_findWay_196 : decode cX7_findWay 196 = .ok (.iaload, 1) := by decide +kernel
theorem dX7_findWay_197 : decode cX7_findWay 197 = .ok (.iload 9, 2) := by decide +kernel
theorem dX7_findWay_199 : decode cX7_findWay 199 = .ok (.iadd, 1) := by decide +kernel
theorem dX7_findWay_200 : decode cX7_findWay 200 = .ok (.iload 5, 2) := by decide +kernel
theorem dX7_findWay_202 : decode cX7_findWay 202 = .ok (.invokevirtual 180, 3) := by decide +kernel
theorem dX7_findWay_205 : decode cX7_findWay 205 = .ok (.ifCond .eq 7, 3) := by decide +kernel
theorem dX7_findWay_208 : decode cX7_findWay 208 = .ok (.iconst 1, 1) := by decide +kernel
theorem dX7_findWay_209 : decode cX7_findWay 209 = .ok (.goto 4, 3) := by decide +kernel
theorem dX7_findWay_212 : decode cX7_findWay 212 = .ok (.iconst 0, 1) := by decide +kernel
theorem dX7_findWay_213 : decode cX7_findWay 213 = .ok (.istore 10, 2) := by decide +kernel
theorem dX7_findWay_215 : decode cX7_findWay 215 = .ok (.iload 10, 2) := by decide +kernel
theorem dX7_findWay_217 : decode cX7_findWay 217 = .ok (.ifCond .ne 43, 3) := by decide +kernel
theorem dX7_findWay_220 : decode cX7_findWay 220 = .ok (.iload 6, 2) := by decide +kernel
theorem dX7_findWay_222 : decode cX7_findWay 222 = .ok (.ifCond .eq 38, 3) := by decide +kernel
theorem dX7_findWay_225 : decode cX7_findWay 225 = .ok (.iload 7, 2) := by decide +kernel
theorem dX7_findWay_227 : decode cX7_findWay 227 = .ok (.aload_n 0, 1) := by decide +kernel
theorem dX7_findWay_228 : decode cX7_findWay 228 = .ok (.invokevirtual 97, 3) := by decide +kernel
theorem dX7_findWay_231 : decode cX7_findWay 231 = .ok (.if_icmp .ne 29, 3) := by decide +kernel
theorem dX7_findWay_234 : decode cX7_findWay 234 = .ok (.aload_n 0, 1) := by decide +kernel
theorem dX7_findWay_235 : decode cX7_findWay 235 = .ok (.iload_n 2, 1) := by decide +kernel
theorem dX7_findWay_236 : decode cX7_findWay 236 = .ok (.iload 7, 2) := by decide +kernel
theorem dX7_findWay_238 : decode cX7_findWay 238 = .ok (.iload 4, 2) := by decide +kernel
theorem dX7_findWay_240 : decode cX7_findWay 240 = .ok (.aload_n 0, 1) := by decide +kernel
theorem dX7_findWay_241 : decode cX7_findWay 241 = .ok (.getfield 7, 3) := by decide +kernel
theorem dX7_findWay_244 : decode cX7_findWay 244 = .ok (.iconst 4, 1) := by decide +kernel
theorem dX7_findWay_245 : decode cX7_findWay 245 = .ok (.iaload, 1) := by decide +kernel
theorem dX7_findWay_246 : decode cX7_findWay 246 = .ok (.iconst 1, 1) := by decide +kernel
theorem dX7_findWay_247 : decode cX7_findWay 247 = .ok (.iadd, 1) := by decide +kernel
theorem dX7_findWay_248 : decode cX7_findWay 248 = .ok (.iload 5, 2) := by decide +kernel
theorem dX7_findWay_250 : decode cX7_findWay 250 = .ok (.invokevirtual 180, 3) := by decide +kernel
theorem dX7_findWay_253 : decode cX7_findWay 253 = .ok (.ifCond .eq 7, 3) := by decide +kernel
theorem dX7_findWay_256 : decode cX7_findWay 256 = .ok (.iconst 1, 1) := by decide +kernel
theorem dX7_findWay_257 : decode cX7_findWay 257 = .ok (.goto 4, 3) := by decide +kernel
theorem dX7_findWay_260 : decode cX7_findWay 260 = .ok (.iconst 0, 1) := by decide +kernel
theorem dX7_findWay_261 : decode cX7_findWay 261 = .ok (.istore 11, 2) := by decide +kernel
theorem dX7_findWay_263 : decode cX7_findWay 263 = .ok (.aload_n 0, 1) := by decide +kernel
theorem dX7_findWay_264 : decode cX7_findWay 264 = .ok (.iload 10, 2) := by decide +kernel
theorem dX7_findWay_266 : decode cX7_findWay 266 = .ok (.ifCond .ne 8, 3) := by decide +kernel
theorem dX7_findWay_269 : decode cX7_findWay 269 = .ok (.iload 11, 2) := by decide +kernel
theorem dX7_findWay_271 : decode cX7_findWay 271 = .ok (.ifCond .eq 8, 3) := by decide +kernel
theorem dX7_findWay_274 : decode cX7_findWay 274 = .ok (.iload 7, 2) := by decide +kernel
theorem dX7_findWay_276 : decode cX7_findWay 276 = .ok (.goto 4, 3) := by decide +kernel
theorem dX7_findWay_279 : decode cX7_findWay 279 = .ok (.iconst (-1), 1) := by decide +kernel
theorem dX7_findWay_280 : decode cX7_findWay 280 = .ok (.putfield 173, 3) := by decide +kernel
theorem dX7_findWay_283 : decode cX7_findWay 283 = .ok (.aload_n 0, 1) := by decide +kernel
theorem dX7_findWay_284 : decode cX7_findWay 284 = .ok (.iload 10, 2) := by decide +kernel
theorem dX7_findWay_286 : decode cX7_findWay 286 = .ok (.ifCond .eq 8, 3) := by decide +kernel
theorem dX7_findWay_289 : decode cX7_findWay 289 = .ok (.iload 9, 2) := by decide +kernel
theorem dX7_findWay_291 : decode cX7_findWay 291 = .ok (.goto 4, 3) := by decide +kernel
theorem dX7_findWay_294 : decode cX7_findWay 294 = .ok (.iconst 1, 1) := by decide +kernel
theorem dX7_findWay_295 : decode cX7_findWay 295 = .ok (.putfield 177, 3) := by decide +kernel
theorem dX7_findWay_298 : decode cX7_findWay 298 = .ok (.iinc 7 1, 3) := by decide +kernel
theorem dX7_findWay_301 : decode cX7_findWay 301 = .ok (.goto (-192), 3) := by decide +kernel
theorem dX7_findWay_304 : decode cX7_findWay 304 = .ok (.return_, 1) := by decide +kernel
theorem dX7_next_0 : decode cX7_next 0 = .ok (.aload_n 0, 1) := by decide +kernel
theorem dX7_next_1 : decode cX7_next 1 = .ok (.iload_n 1, 1) := by decide +kernel
theorem dX7_next_2 : decode cX7_next 2 = .ok (.invokevirtual 163, 3) := by decide +kernel
theorem dX7_next_5 : decode cX7_next 5 = .ok (.ifCond .ne 10, 3) := by decide +kernel
theorem dX7_next_8 : decode cX7_next 8 = .ok (.aload_n 0, 1) := by decide +kernel
theorem dX7_next_9 : decode cX7_next 9 = .ok (.ldc 44, 2) := by decide +kernel
theorem dX7_next_11 : decode cX7_next 11 = .ok (.invokevirtual 49, 3) := by decide +kernel
theorem dX7_next_14 : decode cX7_next 14 = .ok (.ireturn, 1) := by decide +kernel
theorem dX7_next_15 : decode cX7_next 15 = .ok (.aload_n 0, 1) := by decide +kernel
theorem dX7_next_16 : decode cX7_next 16 = .ok (.iload_n 1, 1) := by decide +kernel
theorem dX7_next_17 : decode cX7_next 17 = .ok (.iconst 4, 1) := by decide +kernel
theorem dX7_next_18 : decode cX7_next 18 = .ok (.invokevirtual 62, 3) := by decide +kernel
theorem dX7_next_21 : decode cX7_next 21 = .ok (.ifCond .le 10, 3) := by decide +kernel
theorem dX7_next_24 : decode cX7_next 24 = .ok (.aload_n 0, 1) := by decide +kernel
theorem dX7_next_25 : decode cX7_next 25 = .ok (.ldc 84, 2) := by decide +kernel
theorem dX7_next_27 : decode cX7_next 27 = .ok (.invokevirtual 49, 3) := by decide +kernel
theorem dX7_next_30 : decode cX7_next 30 = .ok (.ireturn, 1) := by decide +kernel
theorem dX7_next_31 : decode cX7_next 31 = .ok (.aload_n 0, 1) := by decide +kernel
theorem dX7_next_32 : decode cX7_next 32 = .ok (.iload_n 1, 1) := by decide +kernel
theorem dX7_next_33 : decode cX7_next 33 = .ok (.invokevirtual 184, 3) := by decide +kernel
theorem dX7_next_36 : decode cX7_next 36 = .ok (.aload_n 0, 1) := by decide +kernel
theorem dX7_next_37 : decode cX7_next 37 = .ok (.getfield 173, 3) := by decide +kernel
theorem dX7_next_40 : decode cX7_next 40 = .ok (.ireturn, 1) := by decide +kernel
theorem dX7_aDay_0 : decode cX7_aDay 0 = .ok (.iconst 0, 1) := by decide +kernel
theorem dX7_aDay_1 : decode cX7_aDay 1 = .ok (.istore_n 1, 1) := by decide +kernel
theorem dX7_aDay_2 : decode cX7_aDay 2 = .ok (.iload_n 1, 1) := by decide +kernel
theorem dX7_aDay_3 : decode cX7_aDay 3 = .ok (.aload_n 0, 1) := by decide +kernel
theorem dX7_aDay_4 : decode cX7_aDay 4 = .ok (.getfield 7, 3) := by decide +kernel
theorem dX7_aDay_7 : decode cX7_aDay 7 = .ok (.iconst 2, 1) := by decide +kernel
theorem dX7_aDay_8 : decode cX7_aDay 8 = .ok (.iaload, 1) := by decide +kernel
theorem dX7_aDay_9 : decode cX7_aDay 9 = .ok (.if_icmp .ge 50, 3) := by decide +kernel
theorem dX7_aDay_12 : decode cX7_aDay 12 = .ok (.aload_n 0, 1) := by decide +kernel
theorem dX7_aDay_13 : decode cX7_aDay 13 = .ok (.iload_n 1, 1) := by decide +kernel
theorem dX7_aDay_14 : decode cX7_aDay 14 = .ok (.iconst 4, 1) := by decide +kernel
theorem dX7_aDay_15 : decode cX7_aDay 15 = .ok (.invokevirtual 62, 3) := by decide +kernel
theorem dX7_aDay_18 : decode cX7_aDay 18 = .ok (.ifCond .ne 35, 3) := by decide +kernel
theorem dX7_aDay_21 : decode cX7_aDay 21 = .ok (.aload_n 0, 1) := by decide +kernel
theorem dX7_aDay_22 : decode cX7_aDay 22 = .ok (.iload_n 1, 1) := by decide +kernel
theorem dX7_aDay_23 : decode cX7_aDay 23 = .ok (.invokevirtual 184, 3) := by decide +kernel
theorem dX7_aDay_26 : decode cX7_aDay 26 = .ok (.aload_n 0, 1) := by decide +kernel
theorem dX7_aDay_27 : decode cX7_aDay 27 = .ok (.getfield 173, 3) := by decide +kernel
theorem dX7_aDay_30 : decode cX7_aDay 30 = .ok (.ifCond .lt 23, 3) := by decide +kernel
theorem dX7_aDay_33 : decode cX7_aDay 33 = .ok (.aload_n 0, 1) := by decide +kernel
theorem dX7_aDay_34 : decode cX7_aDay 34 = .ok (.iload_n 1, 1) := by decide +kernel
theorem dX7_aDay_35 : decode cX7_aDay 35 = .ok (.iconst 1, 1) := by decide +kernel
theorem dX7_aDay_36 : decode cX7_aDay 36 = .ok (.aload_n 0, 1) := by decide +kernel
theorem dX7_aDay_37 : decode cX7_aDay 37 = .ok (.getfield 173, 3) := by decide +kernel
theorem dX7_aDay_40 : decode cX7_aDay 40 = .ok (.invokevirtual 157, 3) := by decide +kernel
theorem dX7_aDay_43 : decode cX7_aDay 43 = .ok (.aload_n 0, 1) := by decide +kernel
theorem dX7_aDay_44 : decode cX7_aDay 44 = .ok (.iload_n 1, 1) := by decide +kernel
theorem dX7_aDay_45 : decode cX7_aDay 45 = .ok (.iconst 4, 1) := by decide +kernel
theorem dX7_aDay_46 : decode cX7_aDay 46 = .ok (.aload_n 0, 1) := by decide +kernel
theorem dX7_aDay_47 : decode cX7_aDay 47 = .ok (.getfield 177, 3) := by decide +kernel
theorem dX7_aDay_50 : decode cX7_aDay 50 = .ok (.invokevirtual 157, 3) := by decide +kernel
theorem dX7_aDay_53 : decode cX7_aDay 53 = .ok (.iinc 1 1, 3) := by decide +kernel
theorem dX7_aDay_56 : decode cX7_aDay 56 = .ok (.goto (-54), 3) := by decide +kernel
theorem dX7_aDay_59 : decode cX7_aDay 59 = .ok (.iconst 0, 1) := by decide +kernel
theorem dX7_aDay_60 : decode cX7_aDay 60 = .ok (.istore_n 1, 1) := by decide +kernel
theorem dX7_aDay_61 : decode cX7_aDay 61 = .ok (.iload_n 1, 1) := by decide +kernel
theorem dX7_aDay_62 : decode cX7_aDay 62 = .ok (.aload_n 0, 1) := by decide +kernel
theorem dX7_aDay_63 : decode cX7_aDay 63 = .ok (.getfield 7, 3) := by decide +kernel
theorem dX7_aDay_66 : decode cX7_aDay 66 = .ok (.iconst 2, 1) := by decide +kernel
theorem dX7_aDay_67 : decode cX7_aDay 67 = .ok (.iaload, 1) := by decide +kernel
theorem dX7_aDay_68 : decode cX7_aDay 68 = .ok (.if_icmp .ge 33, 3) := by decide +kernel
theorem dX7_aDay_71 : decode cX7_aDay 71 = .ok (.aload_n 0, 1) := by decide +kernel
theorem dX7_aDay_72 : decode cX7_aDay 72 = .ok (.iload_n 1, 1) := by decide +kernel
theorem dX7_aDay_73 : decode cX7_aDay 73 = .ok (.iconst 4, 1) := by decide +kernel
theorem dX7_aDay_74 : decode cX7_aDay 74 = .ok (.invokevirtual 62, 3) := by decide +kernel
theorem dX7_aDay_77 : decode cX7_aDay 77 = .ok (.istore_n 2, 1) := by decide +kernel
theorem dX7_aDay_78 : decode cX7_aDay 78 = .ok (.aload_n 0, 1) := by decide +kernel
theorem dX7_aDay_79 : decode cX7_aDay 79 = .ok (.iload_n 1, 1) := by decide +kernel
theorem dX7_aDay_80 : decode cX7_aDay 80 = .ok (.iconst 4, 1) := by decide +kernel
theorem dX7_aDay_81 : decode cX7_aDay 81 = .ok (.iload_n 2, 1) := by decide +kernel
theorem dX7_aDay_82 : decode cX7_aDay 82 = .ok (.ifCond .le 9, 3) := by decide +kernel
theorem dX7_aDay_85 : decode cX7_aDay 85 = .ok (.iload_n 2, 1) := by decide +kernel
theorem dX7_aDay_86 : decode cX7_aDay 86 = .ok (.iconst 1, 1) := by decide +kernel
theorem dX7_aDay_87 : decode cX7_aDay 87 = .ok (.isub, 1) := by decide +kernel
theorem dX7_aDay_88 : decode cX7_aDay 88 = .ok (.goto 4, 3) := by decide +kernel
theorem dX7_aDay_91 : decode cX7_aDay 91 = .ok (.iconst 0, 1) := by decide +kernel
theorem dX7_aDay_92 : decode cX7_aDay 92 = .ok (.invokevirtual 157, 3) := by decide +kernel
theorem dX7_aDay_95 : decode cX7_aDay 95 = .ok (.iinc 1 1, 3) := by decide +kernel
theorem dX7_aDay_98 : decode cX7_aDay 98 = .ok (.goto (-37), 3) := by decide +kernel
theorem dX7_aDay_101 : decode cX7_aDay 101 = .ok (.aload_n 0, 1) := by decide +kernel
theorem dX7_aDay_102 : decode cX7_aDay 102 = .ok (.getfield 7, 3) := by decide +kernel
theorem dX7_aDay_105 : decode cX7_aDay 105 = .ok (.iconst 4, 1) := by decide +kernel
theorem dX7_aDay_106 : decode cX7_aDay 106 = .ok (.dup2, 1) := by decide +kernel
theorem dX7_aDay_107 : decode cX7_aDay 107 = .ok (.iaload, 1) := by decide +kernel
theorem dX7_aDay_108 : decode cX7_aDay 108 = .ok (.iconst 1, 1) := by decide +kernel
theorem dX7_aDay_109 : decode cX7_aDay 109 = .ok (.iadd, 1) := by decide +kernel
theorem dX7_aDay_110 : decode cX7_aDay 110 = .ok (.iastore, 1) := by decide +kernel
theorem dX7_aDay_111 : decode cX7_aDay 111 = .ok (.return_, 1) := by decide +kernel
theorem dX7_allThere_0 : decode cX7_allThere 0 = .ok (.iconst 0, 1) := by decide +kernel
theorem dX7_allThere_1 : decode cX7_allThere 1 = .ok (.istore_n 1, 1) := by decide +kernel
theorem dX7_allThere_2 : decode cX7_allThere 2 = .ok (.iconst 0, 1) := by decide +kernel
theorem dX7_allThere_3 : decode cX7_allThere 3 = .ok (.istore_n 2, 1) := by decide +kernel
theorem dX7_allThere_4 : decode cX7_allThere 4 = .ok (.iload_n 2, 1) := by decide +kernel
theorem dX7_allThere_5 : decode cX7_allThere 5 = .ok (.aload_n 0, 1) := by decide +kernel
theorem dX7_allThere_6 : decode cX7_allThere 6 = .ok (.getfield 7, 3) := by decide +kernel
theorem dX7_allThere_9 : decode cX7_allThere 9 = .ok (.iconst 2, 1) := by decide +kernel
theorem dX7_allThere_10 : decode cX7_allThere 10 = .ok (.iaload, 1) := by decide +kernel
theorem dX7_allThere_11 : decode cX7_allThere 11 = .ok (.if_icmp .ge 27, 3) := by decide +kernel
theorem dX7_allThere_14 : decode cX7_allThere 14 = .ok (.iload_n 1, 1) := by decide +kernel
theorem dX7_allThere_15 : decode cX7_allThere 15 = .ok (.aload_n 0, 1) := by decide +kernel
theorem dX7_allThere_16 : decode cX7_allThere 16 = .ok (.iload_n 2, 1) := by decide +kernel
theorem dX7_allThere_17 : decode cX7_allThere 17 = .ok (.invokevirtual 166, 3) := by decide +kernel
theorem dX7_allThere_20 : decode cX7_allThere 20 = .ok (.ifCond .eq 9, 3) := by decide +kernel
theorem dX7_allThere_23 : decode cX7_allThere 23 = .ok (.iconst 1, 1) := by decide +kernel
theorem dX7_allThere_24 : decode cX7_allThere 24 = .ok (.iload_n 2, 1) := by decide +kernel
theorem dX7_allThere_25 : decode cX7_allThere 25 = .ok (.ishl, 1) := by decide +kernel
theorem dX7_allThere_26 : decode cX7_allThere 26 = .ok (.goto 4, 3) := by decide +kernel
theorem dX7_allThere_29 : decode cX7_allThere 29 = .ok (.iconst 0, 1) := by decide +kernel
theorem dX7_allThere_30 : decode cX7_allThere 30 = .ok (.ior, 1) := by decide +kernel
theorem dX7_allThere_31 : decode cX7_allThere 31 = .ok (.istore_n 1, 1) := by decide +kernel
theorem dX7_allThere_32 : decode cX7_allThere 32 = .ok (.iinc 2 1, 3) := by decide +kernel
theorem dX7_allThere_35 : decode cX7_allThere 35 = .ok (.goto (-31), 3) := by decide +kernel
theorem dX7_allThere_38 : decode cX7_allThere 38 = .ok (.iload_n 1, 1) := by decide +kernel
theorem dX7_allThere_39 : decode cX7_allThere 39 = .ok (.ireturn, 1) := by decide +kernel
theorem dX7_days_0 : decode cX7_days 0 = .ok (.iload_n 1, 1) := by decide +kernel
theorem dX7_days_1 : decode cX7_days 1 = .ok (.iconst 1, 1) := by decide +kernel
theorem dX7_days_2 : decode cX7_days 2 = .ok (.sipush 200, 3) := by decide +kernel
theorem dX7_days_5 : decode cX7_days 5 = .ok (.invokestatic 45, 3) := by decide +kernel
theorem dX7_days_8 : decode cX7_days 8 = .ok (.ifCond .ne 10, 3) := by decide +kernel
theorem dX7_days_11 : decode cX7_days 11 = .ok (.aload_n 0, 1) := by decide +kernel
theorem dX7_days_12 : decode cX7_days 12 = .ok (.ldc 44, 2) := by decide +kernel
theorem dX7_days_14 : decode cX7_days 14 = .ok (.invokevirtual 49, 3) := by decide +kernel
theorem dX7_days_17 : decode cX7_days 17 = .ok (.ireturn, 1) := by decide +kernel
theorem dX7_days_18 : decode cX7_days 18 = .ok (.aload_n 0, 1) := by decide +kernel
theorem dX7_days_19 : decode cX7_days 19 = .ok (.getfield 7, 3) := by decide +kernel
theorem dX7_days_22 : decode cX7_days 22 = .ok (.iconst 4, 1) := by decide +kernel
theorem dX7_days_23 : decode cX7_days 23 = .ok (.iaload, 1) := by decide +kernel
theorem dX7_days_24 : decode cX7_days 24 = .ok (.iload_n 1, 1) := by decide +kernel
theorem dX7_days_25 : decode cX7_days 25 = .ok (.iadd, 1) := by decide +kernel
theorem dX7_days_26 : decode cX7_days 26 = .ok (.sipush 9999, 3) := by decide +kernel
theorem dX7_days_29 : decode cX7_days 29 = .ok (.if_icmp .le 10, 3) := by decide +kernel
theorem dX7_days_32 : decode cX7_days 32 = .ok (.aload_n 0, 1) := by decide +kernel
theorem dX7_days_33 : decode cX7_days 33 = .ok (.ldc 84, 2) := by decide +kernel
theorem dX7_days_35 : decode cX7_days 35 = .ok (.invokevirtual 49, 3) := by decide +kernel
theorem dX7_days_38 : decode cX7_days 38 = .ok (.ireturn, 1) := by decide +kernel
theorem dX7_days_39 : decode cX7_days 39 = .ok (.aload_n 0, 1) := by decide +kernel
theorem dX7_days_40 : decode cX7_days 40 = .ok (.invokevirtual 188, 3) := by decide +kernel
theorem dX7_days_43 : decode cX7_days 43 = .ok (.istore_n 2, 1) := by decide +kernel
theorem dX7_days_44 : decode cX7_days 44 = .ok (.iconst 0, 1) := by decide +kernel
theorem dX7_days_45 : decode cX7_days 45 = .ok (.istore_n 3, 1) := by decide +kernel
theorem dX7_days_46 : decode cX7_days 46 = .ok (.iload_n 3, 1) := by decide +kernel
theorem dX7_days_47 : decode cX7_days 47 = .ok (.iload_n 1, 1) := by decide +kernel
theorem dX7_days_48 : decode cX7_days 48 = .ok (.if_icmp .ge 13, 3) := by decide +kernel
theorem dX7_days_51 : decode cX7_days 51 = .ok (.aload_n 0, 1) := by decide +kernel
theorem dX7_days_52 : decode cX7_days 52 = .ok (.invokevirtual 191, 3) := by decide +kernel
theorem dX7_days_55 : decode cX7_days 55 = .ok (.iinc 3 1, 3) := by decide +kernel
theorem dX7_days_58 : decode cX7_days 58 = .ok (.goto (-12), 3) := by decide +kernel
theorem dX7_days_61 : decode cX7_days 61 = .ok (.aload_n 0, 1) := by decide +kernel
theorem dX7_days_62 : decode cX7_days 62 = .ok (.invokevirtual 188, 3) := by decide +kernel
theorem dX7_days_65 : decode cX7_days 65 = .ok (.iload_n 2, 1) := by decide +kernel
theorem dX7_days_66 : decode cX7_days 66 = .ok (.iconst (-1), 1) := by decide +kernel
theorem dX7_days_67 : decode cX7_days 67 = .ok (.ixor, 1) := by decide +kernel
theorem dX7_days_68 : decode cX7_days 68 = .ok (.iand, 1) := by decide +kernel
theorem dX7_days_69 : decode cX7_days 69 = .ok (.invokestatic 151, 3) := by decide +kernel
theorem dX7_days_72 : decode cX7_days 72 = .ok (.ireturn, 1) := by decide +kernel
theorem dX7_day_0 : decode cX7_day 0 = .ok (.iload_n 1, 1) := by decide +kernel
theorem dX7_day_1 : decode cX7_day 1 = .ok (.iconst 0, 1) := by decide +kernel
theorem dX7_day_2 : decode cX7_day 2 = .ok (.sipush 9999, 3) := by decide +kernel
theorem dX7_day_5 : decode cX7_day 5 = .ok (.invokestatic 45, 3) := by decide +kernel
theorem dX7_day_8 : decode cX7_day 8 = .ok (.ifCond .ne 10, 3) := by decide +kernel
theorem dX7_day_11 : decode cX7_day 11 = .ok (.aload_n 0, 1) := by decide +kernel
theorem dX7_day_12 : decode cX7_day 12 = .ok (.ldc 44, 2) := by decide +kernel
theorem dX7_day_14 : decode cX7_day 14 = .ok (.invokevirtual 49, 3) := by decide +kernel
theorem dX7_day_17 : decode cX7_day 17 = .ok (.ireturn, 1) := by decide +kernel
theorem dX7_day_18 : decode cX7_day 18 = .ok (.aload_n 0, 1) := by decide +kernel
theorem dX7_day_19 : decode cX7_day 19 = .ok (.getfield 7, 3) := by decide +kernel
theorem dX7_day_22 : decode cX7_day 22 = .ok (.iconst 4, 1) := by decide +kernel
theorem dX7_day_23 : decode cX7_day 23 = .ok (.iaload, 1) := by decide +kernel
theorem dX7_day_24 : decode cX7_day 24 = .ok (.istore_n 2, 1) := by decide +kernel
theorem dX7_day_25 : decode cX7_day 25 = .ok (.aload_n 0, 1) := by decide +kernel
theorem dX7_day_26 : decode cX7_day 26 = .ok (.getfield 7, 3) := by decide +kernel
theorem dX7_day_29 : decode cX7_day 29 = .ok (.iconst 4, 1) := by decide +kernel
theorem dX7_day_30 : decode cX7_day 30 = .ok (.iload_n 1, 1) := by decide +kernel
theorem dX7_day_31 : decode cX7_day 31 = .ok (.iastore, 1) := by decide +kernel
theorem dX7_day_32 : decode cX7_day 32 = .ok (.iload_n 2, 1) := by decide +kernel
theorem dX7_day_33 : decode cX7_day 33 = .ok (.ireturn, 1) := by decide +kernel
theorem dX7_onTheirWay_0 : decode cX7_onTheirWay 0 = .ok (.iconst 0, 1) := by decide +kernel
theorem dX7_onTheirWay_1 : decode cX7_onTheirWay 1 = .ok (.istore_n 1, 1) := by decide +kernel
theorem dX7_onTheirWay_2 : decode cX7_onTheirWay 2 = .ok (.iconst 0, 1) := by decide +kernel
theorem dX7_onTheirWay_3 : decode cX7_onTheirWay 3 = .ok (.istore_n 2, 1) := by decide +kernel
theorem dX7_onTheirWay_4 : decode cX7_onTheirWay 4 = .ok (.iload_n 2, 1) := by decide +kernel
theorem dX7_onTheirWay_5 : decode cX7_onTheirWay 5 = .ok (.aload_n 0, 1) := by decide +kernel
theorem dX7_onTheirWay_6 : decode cX7_onTheirWay 6 = .ok (.getfield 7, 3) := by decide +kernel
theorem dX7_onTheirWay_9 : decode cX7_onTheirWay 9 = .ok (.iconst 2, 1) := by decide +kernel
theorem dX7_onTheirWay_10 : decode cX7_onTheirWay 10 = .ok (.iaload, 1) := by decide +kernel
theorem dX7_onTheirWay_11 : decode cX7_onTheirWay 11 = .ok (.if_icmp .ge 26, 3) := by decide +kernel
theorem dX7_onTheirWay_14 : decode cX7_onTheirWay 14 = .ok (.iload_n 1, 1) := by decide +kernel
theorem dX7_onTheirWay_15 : decode cX7_onTheirWay 15 = .ok (.aload_n 0, 1) := by decide +kernel
theorem dX7_onTheirWay_16 : decode cX7_onTheirWay 16 = .ok (.iload_n 2, 1) := by decide +kernel
theorem dX7_onTheirWay_17 : decode cX7_onTheirWay 17 = .ok (.iconst 4, 1) := by decide +kernel
theorem dX7_onTheirWay_18 : decode cX7_onTheirWay 18 = .ok (.invokevirtual 62, 3) := by decide +kernel
theorem dX7_onTheirWay_21 : decode cX7_onTheirWay 21 = .ok (.ifCond .le 7, 3) := by decide +kernel
theorem dX7_onTheirWay_24 : decode cX7_onTheirWay 24 = .ok (.iconst 1, 1) := by decide +kernel
theorem dX7_onTheirWay_25 : decode cX7_onTheirWay 25 = .ok (.goto 4, 3) := by decide +kernel
theorem dX7_onTheirWay_28 : decode cX7_onTheirWay 28 = .ok (.iconst 0, 1) := by decide +kernel
theorem dX7_onTheirWay_29 : decode cX7_onTheirWay 29 = .ok (.iadd, 1) := by decide +kernel
theorem dX7_onTheirWay_30 : decode cX7_onTheirWay 30 = .ok (.istore_n 1, 1) := by decide +kernel
theorem dX7_onTheirWay_31 : decode cX7_onTheirWay 31 = .ok (.iinc 2 1, 3) := by decide +kernel
theorem dX7_onTheirWay_34 : decode cX7_onTheirWay 34 = .ok (.goto (-30), 3) := by decide +kernel
theorem dX7_onTheirWay_37 : decode cX7_onTheirWay 37 = .ok (.iload_n 1, 1) := by decide +kernel
theorem dX7_onTheirWay_38 : decode cX7_onTheirWay 38 = .ok (.ireturn, 1) := by decide +kernel
theorem dX7_now_0 : decode cX7_now 0 = .ok (.iload_n 1, 1) := by decide +kernel
theorem dX7_now_1 : decode cX7_now 1 = .ok (.tableswitch 82 0 4 #[35, 42, 49, 57, 62], 35) := by decide +kernel
theorem dX7_now_36 : decode cX7_now 36 = .ok (.aload_n 0, 1) := by decide +kernel
theorem dX7_now_37 : decode cX7_now 37 = .ok (.getfield 7, 3) := by decide +kernel
theorem dX7_now_40 : decode cX7_now 40 = .ok (.iconst 4, 1) := by decide +kernel
theorem dX7_now_41 : decode cX7_now 41 = .ok (.iaload, 1) := by decide +kernel
theorem dX7_now_42 : decode cX7_now 42 = .ok (.ireturn, 1) := by decide +kernel
theorem dX7_now_43 : decode cX7_now 43 = .ok (.aload_n 0, 1) := by decide +kernel
theorem dX7_now_44 : decode cX7_now 44 = .ok (.getfield 7, 3) := by decide +kernel
theorem dX7_now_47 : decode cX7_now 47 = .ok (.iconst 3, 1) := by decide +kernel
theorem dX7_now_48 : decode cX7_now 48 = .ok (.iaload, 1) := by decide +kernel
theorem dX7_now_49 : decode cX7_now 49 = .ok (.ireturn, 1) := by decide +kernel
theorem dX7_now_50 : decode cX7_now 50 = .ok (.aload_n 0, 1) := by decide +kernel
theorem dX7_now_51 : decode cX7_now 51 = .ok (.invokevirtual 188, 3) := by decide +kernel
theorem dX7_now_54 : decode cX7_now 54 = .ok (.invokestatic 151, 3) := by decide +kernel
theorem dX7_now_57 : decode cX7_now 57 = .ok (.ireturn, 1) := by decide +kernel
theorem dX7_now_58 : decode cX7_now 58 = .ok (.aload_n 0, 1) := by decide +kernel
theorem dX7_now_59 : decode cX7_now 59 = .ok (.invokevirtual 194, 3) := by decide +kernel
theorem dX7_now_62 : decode cX7_now 62 = .ok (.ireturn, 1) := by decide +kernel
theorem dX7_now_63 : decode cX7_now 63 = .ok (.aload_n 0, 1) := by decide +kernel
theorem dX7_now_64 : decode cX7_now 64 = .ok (.getfield 7, 3) := by decide +kernel
theorem dX7_now_67 : decode cX7_now 67 = .ok (.iconst 2, 1) := by decide +kernel
theorem dX7_now_68 : decode cX7_now 68 = .ok (.iaload, 1) := by decide +kernel
theorem dX7_now_69 : decode cX7_now 69 = .ok (.aload_n 0, 1) := by decide +kernel
theorem dX7_now_70 : decode cX7_now 70 = .ok (.invokevirtual 194, 3) := by decide +kernel
theorem dX7_now_73 : decode cX7_now 73 = .ok (.isub, 1) := by decide +kernel
theorem dX7_now_74 : decode cX7_now 74 = .ok (.aload_n 0, 1) := by decide +kernel
theorem dX7_now_75 : decode cX7_now 75 = .ok (.invokevirtual 188, 3) := by decide +kernel
theorem dX7_now_78 : decode cX7_now 78 = .ok (.invokestatic 151, 3) := by decide +kernel
theorem dX7_now_81 : decode cX7_now 81 = .ok (.isub, 1) := by decide +kernel
theorem dX7_now_82 : decode cX7_now 82 = .ok (.ireturn, 1) := by decide +kernel
theorem dX7_now_83 : decode cX7_now 83 = .ok (.aload_n 0, 1) := by decide +kernel
theorem dX7_now_84 : decode cX7_now 84 = .ok (.ldc 44, 2) := by decide +kernel
theorem dX7_now_86 : decode cX7_now 86 = .ok (.invokevirtual 49, 3) := by decide +kernel
theorem dX7_now_89 : decode cX7_now 89 = .ok (.ireturn, 1) := by decide +kernel
theorem dX7_on_0 : decode cX7_on 0 = .ok (.aload_n 0, 1) := by decide +kernel
theorem dX7_on_1 : decode cX7_on 1 = .ok (.iload_n 1, 1) := by decide +kernel
theorem dX7_on_2 : decode cX7_on 2 = .ok (.invokevirtual 163, 3) := by decide +kernel
theorem dX7_on_5 : decode cX7_on 5 = .ok (.ifCond .eq 14, 3) := by decide +kernel
theorem dX7_on_8 : decode cX7_on 8 = .ok (.iload_n 2, 1) := by decide +kernel
theorem dX7_on_9 : decode cX7_on 9 = .ok (.iconst 0, 1) := by decide +kernel
theorem dX7_on_10 : decode cX7_on 10 = .ok (.sipush 200, 3) := by decide +kernel
theorem dX7_on_13 : decode cX7_on 13 = .ok (.invokestatic 45, 3) := by decide +kernel
theorem dX7_on_16 : decode cX7_on 16 = .ok (.ifCond .ne 10, 3) := by decide +kernel
theorem dX7_on_19 : decode cX7_on 19 = .ok (.aload_n 0, 1) := by decide +kernel
theorem dX7_on_20 : decode cX7_on 20 = .ok (.ldc 44, 2) := by decide +kernel
theorem dX7_on_22 : decode cX7_on 22 = .ok (.invokevirtual 49, 3) := by decide +kernel
theorem dX7_on_25 : decode cX7_on 25 = .ok (.ireturn, 1) := by decide +kernel
theorem dX7_on_26 : decode cX7_on 26 = .ok (.aload_n 0, 1) := by decide +kernel
theorem dX7_on_27 : decode cX7_on 27 = .ok (.getfield 7, 3) := by decide +kernel
theorem dX7_on_30 : decode cX7_on 30 = .ok (.iconst 4, 1) := by decide +kernel
theorem dX7_on_31 : decode cX7_on 31 = .ok (.iaload, 1) := by decide +kernel
theorem dX7_on_32 : decode cX7_on 32 = .ok (.iload_n 2, 1) := by decide +kernel
theorem dX7_on_33 : decode cX7_on 33 = .ok (.iadd, 1) := by decide +kernel
theorem dX7_on_34 : decode cX7_on 34 = .ok (.sipush 9999, 3) := by decide +kernel
theorem dX7_on_37 : decode cX7_on 37 = .ok (.if_icmp .le 10, 3) := by decide +kernel
theorem dX7_on_40 : decode cX7_on 40 = .ok (.aload_n 0, 1) := by decide +kernel
theorem dX7_on_41 : decode cX7_on 41 = .ok (.ldc 84, 2) := by decide +kernel
theorem dX7_on_43 : decode cX7_on 43 = .ok (.invokevirtual 49, 3) := by decide +kernel
theorem dX7_on_46 : decode cX7_on 46 = .ok (.ireturn, 1) := by decide +kernel
theorem dX7_on_47 : decode cX7_on 47 = .ok (.aload_n 0, 1) := by decide +kernel
theorem dX7_on_48 : decode cX7_on 48 = .ok (.iconst 1, 1) := by decide +kernel
theorem dX7_on_49 : decode cX7_on 49 = .ok (.aload_n 0, 1) := by decide +kernel
theorem dX7_on_50 : decode cX7_on 50 = .ok (.getfield 19, 3) := by decide +kernel
theorem dX7_on_53 : decode cX7_on 53 = .ok (.invokevirtual 197, 3) := by decide +kernel
theorem dX7_on_56 : decode cX7_on 56 = .ok (.iconst 0, 1) := by decide +kernel
theorem dX7_on_57 : decode cX7_on 57 = .ok (.istore_n 3, 1) := by decide +kernel
theorem dX7_on_58 : decode cX7_on 58 = .ok (.iload_n 3, 1) := by decide +kernel
theorem dX7_on_59 : decode cX7_on 59 = .ok (.iload_n 2, 1) := by decide +kernel
theorem dX7_on_60 : decode cX7_on 60 = .ok (.if_icmp .ge 13, 3) := by decide +kernel
theorem dX7_on_63 : decode cX7_on 63 = .ok (.aload_n 0, 1) := by decide +kernel
theorem dX7_on_64 : decode cX7_on 64 = .ok (.invokevirtual 191, 3) := by decide +kernel
theorem dX7_on_67 : decode cX7_on 67 = .ok (.iinc 3 1, 3) := by decide +kernel
theorem dX7_on_70 : decode cX7_on 70 = .ok (.goto (-12), 3) := by decide +kernel
theorem dX7_on_73 : decode cX7_on 73 = .ok (.aload_n 0, 1) := by decide +kernel
theorem dX7_on_74 : decode cX7_on 74 = .ok (.iload_n 1, 1) := by decide +kernel
theorem dX7_on_75 : decode cX7_on 75 = .ok (.iconst 1, 1) := by decide +kernel
theorem dX7_on_76 : decode cX7_on 76 = .ok (.invokevirtual 62, 3) := by decide +kernel
theorem dX7_on_79 : decode cX7_on 79 = .ok (.istore_n 3, 1) := by decide +kernel
theorem dX7_on_80 : decode cX7_on 80 = .ok (.aload_n 0, 1) := by decide +kernel
theorem dX7_on_81 : decode cX7_on 81 = .ok (.iconst 0, 1) := by decide +kernel
theorem dX7_on_82 : decode cX7_on 82 = .ok (.aload_n 0, 1) := by decide +kernel
theorem dX7_on_83 : decode cX7_on 83 = .ok (.getfield 19, 3) := by decide +kernel
theorem dX7_on_86 : decode cX7_on 86 = .ok (.invokevirtual 197, 3) := by decide +kernel
theorem dX7_on_89 : decode cX7_on 89 = .ok (.iload_n 3, 1) := by decide +kernel
theorem dX7_on_90 : decode cX7_on 90 = .ok (.ireturn, 1) := by decide +kernel
theorem dX7_daysTill_0 : decode cX7_daysTill 0 = .ok (.aload_n 0, 1) := by decide +kernel
theorem dX7_daysTill_1 : decode cX7_daysTill 1 = .ok (.iconst 1, 1) := by decide +kernel
theorem dX7_daysTill_2 : decode cX7_daysTill 2 = .ok (.aload_n 0, 1) := by decide +kernel
theorem dX7_daysTill_3 : decode cX7_daysTill 3 = .ok (.getfield 19, 3) := by decide +kernel
theorem dX7_daysTill_6 : decode cX7_daysTill 6 = .ok (.invokevirtual 197, 3) := by decide +kernel
theorem dX7_daysTill_9 : decode cX7_daysTill 9 = .ok (.iconst 0, 1) := by decide +kernel
theorem dX7_daysTill_10 : decode cX7_daysTill 10 = .ok (.istore_n 2, 1) := by decide +kernel
theorem dX7_daysTill_11 : decode cX7_daysTill 11 = .ok (.iload_n 2, 1) := by decide +kernel
theorem dX7_daysTill_12 : decode cX7_daysTill 12 = .ok (.sipush 200, 3) := by decide +kernel
theorem dX7_daysTill_15 : decode cX7_daysTill 15 = .ok (.if_icmp .ge 21, 3) := by decide +kernel
theorem dX7_daysTill_18 : decode cX7_daysTill 18 = .ok (.aload_n 0, 1) := by decide +kernel
theorem dX7_daysTill_19 : decode cX7_daysTill 19 = .ok (.iload_n 1, 1) := by decide +kernel
theorem dX7_daysTill_20 : decode cX7_daysTill 20 = .ok (.invokevirtual 166, 3) := by decide +kernel
theorem dX7_daysTill_23 : decode cX7_daysTill 23 = .ok (.ifCond .ne 13, 3) := by decide +kernel
theorem dX7_daysTill_26 : decode cX7_daysTill 26 = .ok (.aload_n 0, 1) := by decide +kernel
theorem dX7_daysTill_27 : decode cX7_daysTill 27 = .ok (.invokevirtual 191, 3) := by decide +kernel
theorem dX7_daysTill_30 : decode cX7_daysTill 30 = .ok (.iinc 2 1, 3) := by decide +kernel
theorem dX7_daysTill_33 : decode cX7_daysTill 33 = .ok (.goto (-22), 3) := by decide +kernel
theorem dX7_daysTill_36 : decode cX7_daysTill 36 = .ok (.aload_n 0, 1) := by decide +kernel
theorem dX7_daysTill_37 : decode cX7_daysTill 37 = .ok (.iload_n 1, 1) := by decide +kernel
theorem dX7_daysTill_38 : decode cX7_daysTill 38 = .ok (.invokevirtual 166, 3) := by decide +kernel
theorem dX7_daysTill_41 : decode cX7_daysTill 41 = .ok (.ifCond .eq 7, 3) := by decide +kernel
theorem dX7_daysTill_44 : decode cX7_daysTill 44 = .ok (.iload_n 2, 1) := by decide +kernel
theorem dX7_daysTill_45 : decode cX7_daysTill 45 = .ok (.goto 4, 3) := by decide +kernel
theorem dX7_daysTill_48 : decode cX7_daysTill 48 = .ok (.iconst (-1), 1) := by decide +kernel
theorem dX7_daysTill_49 : decode cX7_daysTill 49 = .ok (.istore_n 3, 1) := by decide +kernel
theorem dX7_daysTill_50 : decode cX7_daysTill 50 = .ok (.aload_n 0, 1) := by decide +kernel
theorem dX7_daysTill_51 : decode cX7_daysTill 51 = .ok (.iconst 0, 1) := by decide +kernel
theorem dX7_daysTill_52 : decode cX7_daysTill 52 = .ok (.aload_n 0, 1) := by decide +kernel
theorem dX7_daysTill_53 : decode cX7_daysTill 53 = .ok (.getfield 19, 3) := by decide +kernel
theorem dX7_daysTill_56 : decode cX7_daysTill 56 = .ok (.invokevirtual 197, 3) := by decide +kernel
theorem dX7_daysTill_59 : decode cX7_daysTill 59 = .ok (.iload_n 3, 1) := by decide +kernel
theorem dX7_daysTill_60 : decode cX7_daysTill 60 = .ok (.ireturn, 1) := by decide +kernel
theorem dX7_when_0 : decode cX7_when 0 = .ok (.aload_n 0, 1) := by decide +kernel
theorem dX7_when_1 : decode cX7_when 1 = .ok (.iload_n 1, 1) := by decide +kernel
theorem dX7_when_2 : decode cX7_when 2 = .ok (.invokevirtual 163, 3) := by decide +kernel
theorem dX7_when_5 : decode cX7_when 5 = .ok (.ifCond .ne 10, 3) := by decide +kernel
theorem dX7_when_8 : decode cX7_when 8 = .ok (.aload_n 0, 1) := by decide +kernel
theorem dX7_when_9 : decode cX7_when 9 = .ok (.ldc 44, 2) := by decide +kernel
theorem dX7_when_11 : decode cX7_when 11 = .ok (.invokevirtual 49, 3) := by decide +kernel
theorem dX7_when_14 : decode cX7_when 14 = .ok (.ireturn, 1) := by decide +kernel
theorem dX7_when_15 : decode cX7_when 15 = .ok (.aload_n 0, 1) := by decide +kernel
theorem dX7_when_16 : decode cX7_when 16 = .ok (.getfield 7, 3) := by decide +kernel
theorem dX7_when_19 : decode cX7_when 19 = .ok (.iconst 4, 1) := by decide +kernel
theorem dX7_when_20 : decode cX7_when 20 = .ok (.iaload, 1) := by decide +kernel
theorem dX7_when_21 : decode cX7_when 21 = .ok (.sipush 9799, 3) := by decide +kernel
theorem dX7_when_24 : decode cX7_when 24 = .ok (.if_icmp .le 10, 3) := by decide +kernel
theorem dX7_when_27 : decode cX7_when 27 = .ok (.aload_n 0, 1) := by decide +kernel
theorem dX7_when_28 : decode cX7_when 28 = .ok (.ldc 84, 2) := by decide +kernel
theorem dX7_when_30 : decode cX7_when 30 = .ok (.invokevirtual 49, 3) := by decide +kernel
theorem dX7_when_33 : decode cX7_when 33 = .ok (.ireturn, 1) := by decide +kernel
theorem dX7_when_34 : decode cX7_when 34 = .ok (.aload_n 0, 1) := by decide +kernel
theorem dX7_when_35 : decode cX7_when 35 = .ok (.iload_n 1, 1) := by decide +kernel
theorem dX7_when_36 : decode cX7_when 36 = .ok (.invokevirtual 201, 3) := by decide +kernel
theorem dX7_when_39 : decode cX7_when 39 = .ok (.istore_n 2, 1) := by decide +kernel
theorem dX7_when_40 : decode cX7_when 40 = .ok (.iload_n 2, 1) := by decide +kernel
theorem dX7_when_41 : decode cX7_when 41 = .ok (.ifCond .ge 12, 3) := by decide +kernel
theorem dX7_when_44 : decode cX7_when 44 = .ok (.aload_n 0, 1) := by decide +kernel
theorem dX7_when_45 : decode cX7_when 45 = .ok (.ldc 92, 2) := by decide +kernel
theorem dX7_when_47 : decode cX7_when 47 = .ok (.invokevirtual 49, 3) := by decide +kernel
theorem dX7_when_50 : decode cX7_when 50 = .ok (.goto 4, 3) := by decide +kernel
theorem dX7_when_53 : decode cX7_when 53 = .ok (.iload_n 2, 1) := by decide +kernel
theorem dX7_when_54 : decode cX7_when 54 = .ok (.ireturn, 1) := by decide +kernel
theorem dX7_first_0 : decode cX7_first 0 = .ok (.aload_n 0, 1) := by decide +kernel
theorem dX7_first_1 : decode cX7_first 1 = .ok (.iload_n 1, 1) := by decide +kernel
theorem dX7_first_2 : decode cX7_first 2 = .ok (.invokevirtual 163, 3) := by decide +kernel
theorem dX7_first_5 : decode cX7_first 5 = .ok (.ifCond .eq 16, 3) := by decide +kernel
theorem dX7_first_8 : decode cX7_first 8 = .ok (.aload_n 0, 1) := by decide +kernel
theorem dX7_first_9 : decode cX7_first 9 = .ok (.iload_n 2, 1) := by decide +kernel
theorem dX7_first_10 : decode cX7_first 10 = .ok (.invokevirtual 163, 3) := by decide +kernel
theorem dX7_first_13 : decode cX7_first 13 = .ok (.ifCond .eq 8, 3) := by decide +kernel
theorem dX7_first_16 : decode cX7_first 16 = .ok (.iload_n 1, 1) := by decide +kernel
theorem dX7_first_17 : decode cX7_first 17 = .ok (.iload_n 2, 1) := by decide +kernel
theorem dX7_first_18 : decode cX7_first 18 = .ok (.if_icmp .ne 10, 3) := by decide +kernel
theorem dX7_first_21 : decode cX7_first 21 = .ok (.aload_n 0, 1) := by decide +kernel
theorem dX7_first_22 : decode cX7_first 22 = .ok (.ldc 44, 2) := by decide +kernel
theorem dX7_first_24 : decode cX7_first 24 = .ok (.invokevirtual 49, 3) := by decide +kernel
theorem dX7_first_27 : decode cX7_first 27 = .ok (.ireturn, 1) := by decide +kernel
theorem dX7_first_28 : decode cX7_first 28 = .ok (.aload_n 0, 1) := by decide +kernel
theorem dX7_first_29 : decode cX7_first 29 = .ok (.getfield 7, 3) := by decide +kernel
theorem dX7_first_32 : decode cX7_first 32 = .ok (.iconst 4, 1) := by decide +kernel
theorem dX7_first_33 : decode cX7_first 33 = .ok (.iaload, 1) := by decide +kernel
theorem dX7_first_34 : decode cX7_first 34 = .ok (.sipush 9799, 3) := by decide +kernel
theorem dX7_first_37 : decode cX7_first 37 = .ok (.if_icmp .le 10, 3) := by decide +kernel
theorem dX7_first_40 : decode cX7_first 40 = .ok (.aload_n 0, 1) := by decide +kernel
theorem dX7_first_41 : decode cX7_first 41 = .ok (.ldc 84, 2) := by decide +kernel
theorem dX7_first_43 : decode cX7_first 43 = .ok (.invokevirtual 49, 3) := by decide +kernel
theorem dX7_first_46 : decode cX7_first 46 = .ok (.ireturn, 1) := by decide +kernel
theorem dX7_first_47 : decode cX7_first 47 = .ok (.aload_n 0, 1) := by decide +kernel
theorem dX7_first_48 : decode cX7_first 48 = .ok (.iload_n 1, 1) := by decide +kernel
theorem dX7_first_49 : decode cX7_first 49 = .ok (.invokevirtual 201, 3) := by decide +kernel
theorem dX7_first_52 : decode cX7_first 52 = .ok (.istore_n 3, 1) := by decide +kernel
theorem dX7_first_53 : decode cX7_first 53 = .ok (.aload_n 0, 1) := by decide +kernel
theorem dX7_first_54 : decode cX7_first 54 = .ok (.iload_n 2, 1) := by decide +kernel
theorem dX7_first_55 : decode cX7_first 55 = .ok (.invokevirtual 201, 3) := by decide +kernel
theorem dX7_first_58 : decode cX7_first 58 = .ok (.istore 4, 2) := by decide +kernel
theorem dX7_first_60 : decode cX7_first 60 = .ok (.iload_n 3, 1) := by decide +kernel
theorem dX7_first_61 : decode cX7_first 61 = .ok (.ifCond .ge 15, 3) := by decide +kernel
theorem dX7_first_64 : decode cX7_first 64 = .ok (.iload 4, 2) := by decide +kernel
theorem dX7_first_66 : decode cX7_first 66 = .ok (.ifCond .ge 10, 3) := by decide +kernel
theorem dX7_first_69 : decode cX7_first 69 = .ok (.aload_n 0, 1) := by decide +kernel
theorem dX7_first_70 : decode cX7_first 70 = .ok (.ldc 92, 2) := by decide +kernel
theorem dX7_first_72 : decode cX7_first 72 = .ok (.invokevirtual 49, 3) := by decide +kernel
theorem dX7_first_75 : decode cX7_first 75 = .ok (.ireturn, 1) := by decide +kernel
theorem dX7_first_76 : decode cX7_first 76 = .ok (.iload_n 3, 1) := by decide +kernel
theorem dX7_first_77 : decode cX7_first 77 = .ok (.iload 4, 2) := by decide +kernel
theorem dX7_first_79 : decode cX7_first 79 = .ok (.if_icmp .ne 7, 3) := by decide +kernel
theorem dX7_first_82 : decode cX7_first 82 = .ok (.iconst 0, 1) := by decide +kernel
theorem dX7_first_83 : decode cX7_first 83 = .ok (.goto 23, 3) := by decide +kernel
theorem dX7_first_86 : decode cX7_first 86 = .ok (.iload 4, 2) := by decide +kernel
theorem dX7_first_88 : decode cX7_first 88 = .ok (.ifCond .lt 13, 3) := by decide +kernel
theorem dX7_first_91 : decode cX7_first 91 = .ok (.iload_n 3, 1) := by decide +kernel
theorem dX7_first_92 : decode cX7_first 92 = .ok (.ifCond .lt 13, 3) := by decide +kernel
theorem dX7_first_95 : decode cX7_first 95 = .ok (.iload_n 3, 1) := by decide +kernel
theorem dX7_first_96 : decode cX7_first 96 = .ok (.iload 4, 2) := by decide +kernel
theorem dX7_first_98 : decode cX7_first 98 = .ok (.if_icmp .ge 7, 3) := by decide +kernel
theorem dX7_first_101 : decode cX7_first 101 = .ok (.iconst 1, 1) := by decide +kernel
theorem dX7_first_102 : decode cX7_first 102 = .ok (.goto 4, 3) := by decide +kernel
theorem dX7_first_105 : decode cX7_first 105 = .ok (.iconst 2, 1) := by decide +kernel
theorem dX7_first_106 : decode cX7_first 106 = .ok (.ireturn, 1) := by decide +kernel
theorem dX7_feed_0 : decode cX7_feed 0 = .ok (.iload_n 2, 1) := by decide +kernel
theorem dX7_feed_1 : decode cX7_feed 1 = .ok (.iconst 1, 1) := by decide +kernel
theorem dX7_feed_2 : decode cX7_feed 2 = .ok (.iconst 4, 1) := by decide +kernel
theorem dX7_feed_3 : decode cX7_feed 3 = .ok (.invokestatic 45, 3) := by decide +kernel
theorem dX7_feed_6 : decode cX7_feed 6 = .ok (.ifCond .ne 10, 3) := by decide +kernel
theorem dX7_feed_9 : decode cX7_feed 9 = .ok (.aload_n 0, 1) := by decide +kernel
theorem dX7_feed_10 : decode cX7_feed 10 = .ok (.ldc 44, 2) := by decide +kernel
theorem dX7_feed_12 : decode cX7_feed 12 = .ok (.invokevirtual 49, 3) := by decide +kernel
theorem dX7_feed_15 : decode cX7_feed 15 = .ok (.ireturn, 1) := by decide +kernel
theorem dX7_feed_16 : decode cX7_feed 16 = .ok (.aload_n 0, 1) := by decide +kernel
theorem dX7_feed_17 : decode cX7_feed 17 = .ok (.getfield 204, 3) := by decide +kernel
theorem dX7_feed_20 : decode cX7_feed 20 = .ok (.iload_n 2, 1) := by decide +kernel
theorem dX7_feed_21 : decode cX7_feed 21 = .ok (.iadd, 1) := by decide +kernel
theorem dX7_feed_22 : decode cX7_feed 22 = .ok (.bipush 120, 2) := by decide +kernel
theorem dX7_feed_24 : decode cX7_feed 24 = .ok (.if_icmp .le 10, 3) := by decide +kernel
theorem dX7_feed_27 : decode cX7_feed 27 = .ok (.aload_n 0, 1) := by decide +kernel
theorem dX7_feed_28 : decode cX7_feed 28 = .ok (.ldc 53, 2) := by decide +kernel
theorem dX7_feed_30 : decode cX7_feed 30 = .ok (.invokevirtual 49, 3) := by decide +kernel
theorem dX7_feed_33 : decode cX7_feed 33 = .ok (.ireturn, 1) := by decide +kernel
theorem dX7_feed_34 : decode cX7_feed 34 = .ok (.iload_n 2, 1) := by decide +kernel
theorem dX7_feed_35 : decode cX7_feed 35 = .ok (.iconst 1, 1) := by decide +kernel
theorem dX7_feed_36 : decode cX7_feed 36 = .ok (.isub, 1) := by decide +kernel
theorem dX7_feed_37 : decode cX7_feed 37 = .ok (.istore_n 3, 1) := by decide +kernel
theorem dX7_feed_38 : decode cX7_feed 38 = .ok (.iload_n 3, 1) := by decide +kernel
theorem dX7_feed_39 : decode cX7_feed 39 = .ok (.ifCond .lt 38, 3) := by decide +kernel
theorem dX7_feed_42 : decode cX7_feed 42 = .ok (.aload_n 0, 1) := by decide +kernel
theorem dX7_feed_43 : decode cX7_feed 43 = .ok (.getfield 22, 3) := by decide +kernel
theorem dX7_feed_46 : decode cX7_feed 46 = .ok (.aload_n 0, 1) := by decide +kernel
theorem dX7_feed_47 : decode cX7_feed 47 = .ok (.getfield 204, 3) := by decide +kernel
theorem dX7_feed_50 : decode cX7_feed 50 = .ok (.iload_n 1, 1) := by decide +kernel
theorem dX7_feed_51 : decode cX7_feed 51 = .ok (.bipush 8, 2) := by decide +kernel
theorem dX7_feed_53 : decode cX7_feed 53 = .ok (.iload_n 3, 1) := by decide +kernel
theorem dX7_feed_54 : decode cX7_feed 54 = .ok (.imul, 1) := by decide +kernel
theorem dX7_feed_55 : decode cX7_feed 55 = .ok (.ishr, 1) := by decide +kernel
theorem dX7_feed_56 : decode cX7_feed 56 = .ok (.sipush 255, 3) := by decide +kernel
theorem dX7_feed_59 : decode cX7_feed 59 = .ok (.iand, 1) := by decide +kernel
theorem dX7_feed_60 : decode cX7_feed 60 = .ok (.iastore, 1) := by decide +kernel
theorem dX7_feed_61 : decode cX7_feed 61 = .ok (.aload_n 0, 1) := by decide +kernel
theorem dX7_feed_62 : decode cX7_feed 62 = .ok (.dup, 1) := by decide +kernel
theorem dX7_feed_63 : decode cX7_feed 63 = .ok (.getfield 204, 3) := by decide +kernel
theorem dX7_feed_66 : decode cX7_feed 66 = .ok (.iconst 1, 1) := by decide +kernel
theorem dX7_feed_67 : decode cX7_feed 67 = .ok (.iadd, 1) := by decide +kernel
theorem dX7_feed_68 : decode cX7_feed 68 = .ok (.putfield 204, 3) := by decide +kernel
theorem dX7_feed_71 : decode cX7_feed 71 = .ok (.iinc 3 (-1), 3) := by decide +kernel
theorem dX7_feed_74 : decode cX7_feed 74 = .ok (.goto (-36), 3) := by decide +kernel
theorem dX7_feed_77 : decode cX7_feed 77 = .ok (.aload_n 0, 1) := by decide +kernel
theorem dX7_feed_78 : decode cX7_feed 78 = .ok (.getfield 204, 3) := by decide +kernel
theorem dX7_feed_81 : decode cX7_feed 81 = .ok (.ireturn, 1) := by decide +kernel
theorem dX7_wipe_0 : decode cX7_wipe 0 = .ok (.aload_n 0, 1) := by decide +kernel
theorem dX7_wipe_1 : decode cX7_wipe 1 = .ok (.getfield 204, 3) := by decide +kernel
theorem dX7_wipe_4 : decode cX7_wipe 4 = .ok (.istore_n 1, 1) := by decide +kernel
theorem dX7_wipe_5 : decode cX7_wipe 5 = .ok (.aload_n 0, 1) := by decide +kernel
theorem dX7_wipe_6 : decode cX7_wipe 6 = .ok (.iconst 0, 1) := by decide +kernel
theorem dX7_wipe_7 : decode cX7_wipe 7 = .ok (.putfield 204, 3) := by decide +kernel
theorem dX7_wipe_10 : decode cX7_wipe 10 = .ok (.iload_n 1, 1) := by decide +kernel
theorem dX7_wipe_11 : decode cX7_wipe 11 = .ok (.ireturn, 1) := by decide +kernel
theorem dX7_byteAt_0 : decode cX7_byteAt 0 = .ok (.iload_n 1, 1) := by decide +kernel
theorem dX7_byteAt_1 : decode cX7_byteAt 1 = .ok (.aload_n 0, 1) := by decide +kernel
theorem dX7_byteAt_2 : decode cX7_byteAt 2 = .ok (.getfield 204, 3) := by decide +kernel
theorem dX7_byteAt_5 : decode cX7_byteAt 5 = .ok (.if_icmp .ge 12, 3) := by decide +kernel
theorem dX7_byteAt_8 : decode cX7_byteAt 8 = .ok (.aload_n 0, 1) := by decide +kernel
theorem dX7_byteAt_9 : decode cX7_byteAt 9 = .ok (.getfield 22, 3) := by decide +kernel
theorem dX7_byteAt_12 : decode cX7_byteAt 12 = .ok (.iload_n 1, 1) := by decide +kernel
theorem dX7_byteAt_13 : decode cX7_byteAt 13 = .ok (.iaload, 1) := by decide +kernel
theorem dX7_byteAt_14 : decode cX7_byteAt 14 = .ok (.goto 4, 3) := by decide +kernel
theorem dX7_byteAt_17 : decode cX7_byteAt 17 = .ok (.iconst (-1), 1) := by decide +kernel
theorem dX7_byteAt_18 : decode cX7_byteAt 18 = .ok (.ireturn, 1) := by decide +kernel
theorem dX7_isLetter_0 : decode cX7_isLetter 0 = .ok (.iload_n 0, 1) := by decide +kernel
theorem dX7_isLetter_1 : decode cX7_isLetter 1 = .ok (.bipush 97, 2) := by decide +kernel
theorem dX7_isLetter_3 : decode cX7_isLetter 3 = .ok (.bipush 122, 2) := by decide +kernel
theorem dX7_isLetter_5 : decode cX7_isLetter 5 = .ok (.invokestatic 45, 3) := by decide +kernel
theorem dX7_isLetter_8 : decode cX7_isLetter 8 = .ok (.ireturn, 1) := by decide +kernel
theorem dX7_isDigit_0 : decode cX7_isDigit 0 = .ok (.iload_n 0, 1) := by decide +kernel
theorem dX7_isDigit_1 : decode cX7_isDigit 1 = .ok (.bipush 48, 2) := by decide +kernel
theorem dX7_isDigit_3 : decode cX7_isDigit 3 = .ok (.bipush 57, 2) := by decide +kernel
theorem dX7_isDigit_5 : decode cX7_isDigit 5 = .ok (.invokestatic 45, 3) := by decide +kernel
theorem dX7_isDigit_8 : decode cX7_isDigit 8 = .ok (.ireturn, 1) := by decide +kernel
theorem dX7_advance_0 : decode cX7_advance 0 = .ok (.aload_n 0, 1) := by decide +kernel
theorem dX7_advance_1 : decode cX7_advance 1 = .ok (.aload_n 0, 1) := by decide +kernel
theorem dX7_advance_2 : decode cX7_advance 2 = .ok (.getfield 207, 3) := by decide +kernel
theorem dX7_advance_5 : decode cX7_advance 5 = .ok (.putfield 210, 3) := by decide +kernel
theorem dX7_advance_8 : decode cX7_advance 8 = .ok (.aload_n 0, 1) := by decide +kernel
theorem dX7_advance_9 : decode cX7_advance 9 = .ok (.aload_n 0, 1) := by decide +kernel
theorem dX7_advance_10 : decode cX7_advance 10 = .ok (.getfield 210, 3) := by decide +kernel
theorem dX7_advance_13 : decode cX7_advance 13 = .ok (.invokevirtual 213, 3) := by decide +kernel
theorem dX7_advance_16 : decode cX7_advance 16 = .ok (.bipush 32, 2) := by decide +kernel
theorem dX7_advance_18 : decode cX7_advance 18 = .ok (.if_icmp .ne 16, 3) := by decide +kernel
theorem dX7_advance_21 : decode cX7_advance 21 = .ok (.aload_n 0, 1) := by decide +kernel
theorem dX7_advance_22 : decode cX7_advance 22 = .ok (.dup, 1) := by decide +kernel
theorem dX7_advance_23 : decode cX7_advance 23 = .ok (.getfield 210, 3) := by decide +kernel
theorem dX7_advance_26 : decode cX7_advance 26 = .ok (.iconst 1, 1) := by decide +kernel
theorem dX7_advance_27 : decode cX7_advance 27 = .ok (.iadd, 1) := by decide +kernel
theorem dX7_advance_28 : decode cX7_advance 28 = .ok (.putfield 210, 3) := by decide +kernel
theorem dX7_advance_31 : decode cX7_advance 31 = .ok (.goto (-23), 3) := by decide +kernel
theorem dX7_advance_34 : decode cX7_advance 34 = .ok (.aload_n 0, 1) := by decide +kernel
theorem dX7_advance_35 : decode cX7_advance 35 = .ok (.aload_n 0, 1) := by decide +kernel
theorem dX7_advance_36 : decode cX7_advance 36 = .ok (.getfield 210, 3) := by decide +kernel
theorem dX7_advance_39 : decode cX7_advance 39 = .ok (.putfield 207, 3) := by decide +kernel
theorem dX7_advance_42 : decode cX7_advance 42 = .ok (.aload_n 0, 1) := by decide +kernel
theorem dX7_advance_43 : decode cX7_advance 43 = .ok (.aload_n 0, 1) := by decide +kernel
theorem dX7_advance_44 : decode cX7_advance 44 = .ok (.getfield 210, 3) := by decide +kernel
theorem dX7_advance_47 : decode cX7_advance 47 = .ok (.invokevirtual 213, 3) := by decide +kernel
theorem dX7_advance_50 : decode cX7_advance 50 = .ok (.istore_n 1, 1) := by decide +kernel
theorem dX7_advance_51 : decode cX7_advance 51 = .ok (.aload_n 0, 1) := by decide +kernel
theorem dX7_advance_52 : decode cX7_advance 52 = .ok (.iload_n 1, 1) := by decide +kernel
theorem dX7_advance_53 : decode cX7_advance 53 = .ok (.ifCond .ge 7, 3) := by decide +kernel
theorem dX7_advance_56 : decode cX7_advance 56 = .ok (.iconst 0, 1) := by decide +kernel
theorem dX7_advance_57 : decode cX7_advance 57 = .ok (.goto 26, 3) := by decide +kernel
theorem dX7_advance_60 : decode cX7_advance 60 = .ok (.iload_n 1, 1) := by decide +kernel
theorem dX7_advance_61 : decode cX7_advance 61 = .ok (.invokestatic 216, 3) := by decide +kernel
theorem dX7_advance_64 : decode cX7_advance 64 = .ok (.ifCond .eq 7, 3) := by decide +kernel
theorem dX7_advance_67 : decode cX7_advance 67 = .ok (.iconst 1, 1) := by decide +kernel
theorem dX7_advance_68 : decode cX7_advance 68 = .ok (.goto 15, 3) := by decide +kernel
theorem dX7_advance_71 : decode cX7_advance 71 = .ok (.iload_n 1, 1) := by decide +kernel
theorem dX7_advance_72 : decode cX7_advance 72 = .ok (.invokestatic 219, 3) := by decide +kernel
theorem dX7_advance_75 : decode cX7_advance 75 = .ok (.ifCond .eq 7, 3) := by decide +kernel
theorem dX7_advance_78 : decode cX7_advance 78 = .ok (.iconst 2, 1) := by decide +kernel
theorem dX7_advance_79 : decode cX7_advance 79 = .ok (.goto 4, 3) := by decide +kernel
theorem dX7_advance_82 : decode cX7_advance 82 = .ok (.iconst 3, 1) := by decide +kernel
theorem dX7_advance_83 : decode cX7_advance 83 = .ok (.putfield 222, 3) := by decide +kernel
theorem dX7_advance_86 : decode cX7_advance 86 = .ok (.aload_n 0, 1) := by decide +kernel
theorem dX7_advance_87 : decode cX7_advance 87 = .ok (.lconst 0, 1) := by decide +kernel
theorem dX7_advance_88 : decode cX7_advance 88 = .ok (.putfield 225, 3) := by decide +kernel
theorem dX7_advance_91 : decode cX7_advance 91 = .ok (.aload_n 0, 1) := by decide +kernel
theorem dX7_advance_92 : decode cX7_advance 92 = .ok (.aload_n 0, 1) := by decide +kernel
theorem dX7_advance_93 : decode cX7_advance 93 = .ok (.getfield 222, 3) := by decide +kernel
theorem dX7_advance_96 : decode cX7_advance 96 = .ok (.iconst 2, 1) := by decide +kernel
theorem dX7_advance_97 : decode cX7_advance 97 = .ok (.if_icmp .ne 7, 3) := by decide +kernel
theorem dX7_advance_100 : decode cX7_advance 100 = .ok (.iconst 0, 1) := by decide +kernel
theorem dX7_advance_101 : decode cX7_advance 101 = .ok (.goto 4, 3) := by decide +kernel
theorem dX7_advance_104 : decode cX7_advance 104 = .ok (.iload_n 1, 1) := by decide +kernel
theorem dX7_advance_105 : decode cX7_advance 105 = .ok (.putfield 229, 3) := by decide +kernel
theorem dX7_advance_108 : decode cX7_advance 108 = .ok (.aload_n 0, 1) := by decide +kernel
theorem dX7_advance_109 : decode cX7_advance 109 = .ok (.getfield 222, 3) := by decide +kernel
theorem dX7_advance_112 : decode cX7_advance 112 = .ok (.iconst 3, 1) := by decide +kernel
theorem dX7_advance_113 : decode cX7_advance 113 = .ok (.if_icmp .ne 13, 3) := by decide +kernel
theorem dX7_advance_116 : decode cX7_advance 116 = .ok (.aload_n 0, 1) := by decide +kernel
theorem dX7_advance_117 : decode cX7_advance 117 = .ok (.dup, 1) := by decide +kernel
theorem dX7_advance_118 : decode cX7_advance 118 = .ok (.getfield 207, 3) := by decide +kernel
theorem dX7_advance_121 : decode cX7_advance 121 = .ok (.iconst 1, 1) := by decide +kernel
theorem dX7_advance_122 : decode cX7_advance 122 = .ok (.iadd, 1) := by decide +kernel
theorem dX7_advance_123 : decode cX7_advance 123 = .ok (.putfield 207, 3) := by decide +kernel
theorem dX7_advance_126 : decode cX7_advance 126 = .ok (.aload_n 0, 1) := by decide +kernel
theorem dX7_advance_127 : decode cX7_advance 127 = .ok (.getfield 222, 3) := by decide +kernel
theorem dX7_advance_130 : decode cX7_advance 130 = .ok (.iconst 1, 1) := by decide +kernel
theorem dX7_advance_131 : decode cX7_advance 131 = .ok (.if_icmp .ne 76, 3) := by decide +kernel
theorem dX7_advance_134 : decode cX7_advance 134 = .ok (.aload_n 0, 1) := by decide +kernel
theorem dX7_advance_135 : decode cX7_advance 135 = .ok (.aload_n 0, 1) := by decide +kernel
theorem dX7_advance_136 : decode cX7_advance 136 = .ok (.getfield 207, 3) := by decide +kernel
theorem dX7_advance_139 : decode cX7_advance 139 = .ok (.invokevirtual 213, 3) := by decide +kernel
theorem dX7_advance_142 : decode cX7_advance 142 = .ok (.invokestatic 216, 3) := by decide +kernel
theorem dX7_advance_145 : decode cX7_advance 145 = .ok (.ifCond .eq 62, 3) := by decide +kernel
theorem dX7_advance_148 : decode cX7_advance 148 = .ok (.aload_n 0, 1) := by decide +kernel
theorem dX7_advance_149 : decode cX7_advance 149 = .ok (.aload_n 0, 1) := by decide +kernel
theorem dX7_advance_150 : decode cX7_advance 150 = .ok (.getfield 207, 3) := by decide +kernel
theorem dX7_advance_153 : decode cX7_advance 153 = .ok (.aload_n 0, 1) := by decide +kernel
theorem dX7_advance_154 : decode cX7_advance 154 = .ok (.getfield 210, 3) := by decide +kernel
theorem dX7_advance_157 : decode cX7_advance 157 = .ok (.isub, 1) := by decide +kernel
theorem dX7_advance_158 : decode cX7_advance 158 = .ok (.bipush 12, 2) := by decide +kernel
theorem dX7_advance_160 : decode cX7_advance 160 = .ok (.if_icmp .ge 28, 3) := by decide +kernel
theorem dX7_advance_163 : decode cX7_advance 163 = .ok (.ldc2_w 232, 3) := by decide +kernel
theorem dX7_advance_166 : decode cX7_advance 166 = .ok (.aload_n 0, 1) := by decide +kernel
theorem dX7_advance_167 : decode cX7_advance 167 = .ok (.getfield 225, 3) := by decide +kernel
theorem dX7_advance_170 : decode cX7_advance 170 = .ok (.lmul, 1) := by decide +kernel
theorem dX7_advance_171 : decode cX7_advance 171 = .ok (.aload_n 0, 1) := by decide +kernel
theorem dX7_advance_172 : decode cX7_advance 172 = .ok (.aload_n 0, 1) := by decide +kernel
theorem dX7_advance_173 : decode cX7_advance 173 = .ok (.getfield 207, 3) := by decide +kernel
theorem dX7_advance_176 : decode cX7_advance 176 = .ok (.invokevirtual 213, 3) := by decide +kernel
theorem dX7_advance_179 : decode cX7_advance 179 = .ok (.i2l, 1) := by decide +kernel
theorem dX7_advance_180 : decode cX7_advance 180 = .ok (.ladd, 1) := by decide +kernel
theorem dX7_advance_181 : decode cX7_advance 181 = .ok (.ldc2_w 234, 3) := by decide +kernel
theorem dX7_advance_184 : decode cX7_advance 184 = .ok (.lsub, 1) := by decide +kernel
theorem dX7_advance_185 : decode cX7_advance 185 = .ok (.goto 6, 3) := by decide +kernel
theorem dX7_advance_188 : decode cX7_advance 188 = .ok (.ldc2_w 236, 3) := by decide +kernel
theorem dX7_advance_191 : decode cX7_advance 191 = .ok (.putfield 225, 3) := by decide +kernel
theorem dX7_advance_194 : decode cX7_advance 194 = .ok (.aload_n 0, 1) := by decide +kernel
theorem dX7_advance_195 : decode cX7_advance 195 = .ok (.dup, 1) := by decide +kernel
theorem dX7_advance_196 : decode cX7_advance 196 = .ok (.getfield 207, 3) := by decide +kernel
theorem dX7_advance_199 : decode cX7_advance 199 = .ok (.iconst 1, 1) := by decide +kernel
theorem dX7_advance_200 : decode cX7_advance 200 = .ok (.iadd, 1) := by decide +kernel
theorem dX7_advance_201 : decode cX7_advance 201 = .ok (.putfield 207, 3) := by decide +kernel
theorem dX7_advance_204 : decode cX7_advance 204 = .ok (.goto (-78), 3) := by decide +kernel
theorem dX7_advance_207 : decode cX7_advance 207 = .ok (.aload_n 0, 1) := by decide +kernel
theorem dX7_advance_208 : decode cX7_advance 208 = .ok (.getfield 222, 3) := by decide +kernel
theorem dX7_advance_211 : decode cX7_advance 211 = .ok (.iconst 2, 1) := by decide +kernel
theorem dX7_advance_212 : decode cX7_advance 212 = .ok (.if_icmp .ne 69, 3) := by decide +kernel
theorem dX7_advance_215 : decode cX7_advance 215 = .ok (.aload_n 0, 1) := by decide +kernel
theorem dX7_advance_216 : decode cX7_advance 216 = .ok (.aload_n 0, 1) := by decide +kernel
theorem dX7_advance_217 : decode cX7_advance 217 = .ok (.getfield 207, 3) := by decide +kernel
theorem dX7_advance_220 : decode cX7_advance 220 = .ok (.invokevirtual 213, 3) := by decide +kernel
theorem dX7_advance_223 : decode cX7_advance 223 = .ok (.invokestatic 219, 3) := by decide +kernel
theorem dX7_advance_226 : decode cX7_advance 226 = .ok (.ifCond .eq 55, 3) := by decide +kernel
theorem dX7_advance_229 : decode cX7_advance 229 = .ok (.aload_n 0, 1) := by decide +kernel
theorem dX7_advance_230 : decode cX7_advance 230 = .ok (.aload_n 0, 1) := by decide +kernel
theorem dX7_advance_231 : decode cX7_advance 231 = .ok (.getfield 229, 3) := by decide +kernel
theorem dX7_advance_234 : decode cX7_advance 234 = .ok (.sipush 999, 3) := by decide +kernel
theorem dX7_advance_237 : decode cX7_advance 237 = .ok (.if_icmp .le 9, 3) := by decide +kernel
theorem dX7_advance_240 : decode cX7_advance 240 = .ok (.sipush 10000, 3) := by decide +kernel
theorem dX7_advance_243 : decode cX7_advance 243 = .ok (.goto 22, 3) := by decide +kernel
theorem dX7_advance_246 : decode cX7_advance 246 = .ok (.bipush 10, 2) := by decide +kernel
theorem dX7_advance_248 : decode cX7_advance 248 = .ok (.aload_n 0, 1) := by decide +kernel
theorem dX7_advance_249 : decode cX7_advance 249 = .ok (.getfield 229, 3) := by decide +kernel
theorem dX7_advance_252 : decode cX7_advance 252 = .ok (.imul, 1) := by decide +kernel
theorem dX7_advance_253 : decode cX7_advance 253 = .ok (.aload_n 0, 1) := by decide +kernel
theorem dX7_advance_254 : decode cX7_advance 254 = .ok (.aload_n 0, 1) := by decide +kernel
theorem dX7_advance_255 : decode cX7_advance 255 = .ok (.getfield 207, 3) := by decide +kernel
theorem dX7_advance_258 : decode cX7_advance 258 = .ok (.invokevirtual 213, 3) := by decide +kernel
theorem dX7_advance_261 : decode cX7_advance 261 = .ok (.iadd, 1) := by decide +kernel
theorem dX7_advance_262 : decode cX7_advance 262 = .ok (.bipush 48, 2) := by decide +kernel
theorem dX7_advance_264 : decode cX7_advance 264 = .ok (.isub, 1) := by decide +kernel
theorem dX7_advance_265 : decode cX7_advance 265 = .ok (.putfield 229, 3) := by decide +kernel
theorem dX7_advance_268 : decode cX7_advance 268 = .ok (.aload_n 0, 1) := by decide +kernel
theorem dX7_advance_269 : decode cX7_advance 269 = .ok (.dup, 1) := by decide +kernel
theorem dX7_advance_270 : decode cX7_advance 270 = .ok (.getfield 207, 3) := by decide +kernel
theorem dX7_advance_273 : decode cX7_advance 273 = .ok (.iconst 1, 1) := by decide +kernel
theorem dX7_advance_274 : decode cX7_advance 274 = .ok (.iadd, 1) := by decide +kernel
theorem dX7_advance_275 : decode cX7_advance 275 = .ok (.putfield 207, 3) := by decide +kernel
theorem dX7_advance_278 : decode cX7_advance 278 = .ok (.goto (-71), 3) := by decide +kernel
theorem dX7_advance_281 : decode cX7_advance 281 = .ok (.return_, 1) := by decide +kernel
theorem dX7_isWord_0 : decode cX7_isWord 0 = .ok (.aload_n 0, 1) := by decide +kernel
theorem dX7_isWord_1 : decode cX7_isWord 1 = .ok (.getfield 222, 3) := by decide +kernel
theorem dX7_isWord_4 : decode cX7_isWord 4 = .ok (.iconst 1, 1) := by decide +kernel
theorem dX7_isWord_5 : decode cX7_isWord 5 = .ok (.if_icmp .ne 16, 3) := by decide +kernel
theorem dX7_isWord_8 : decode cX7_isWord 8 = .ok (.aload_n 0, 1) := by decide +kernel
theorem dX7_isWord_9 : decode cX7_isWord 9 = .ok (.getfield 225, 3) := by decide +kernel
theorem dX7_isWord_12 : decode cX7_isWord 12 = .ok (.lload_n 1, 1) := by decide +kernel
theorem dX7_isWord_13 : decode cX7_isWord 13 = .ok (.lcmp, 1) := by decide +kernel
theorem dX7_isWord_14 : decode cX7_isWord 14 = .ok (.ifCond .ne 7, 3) := by decide +kernel
theorem dX7_isWord_17 : decode cX7_isWord 17 = .ok (.iconst 1, 1) := by decide +kernel
theorem dX7_isWord_18 : decode cX7_isWord 18 = .ok (.goto 4, 3) := by decide +kernel
theorem dX7_isWord_21 : decode cX7_isWord 21 = .ok (.iconst 0, 1) := by decide +kernel
theorem dX7_isWord_22 : decode cX7_isWord 22 = .ok (.ireturn, 1) := by decide +kernel
theorem dX7_kindHere_0 : decode cX7_kindHere 0 = .ok (.aload_n 0, 1) := by decide +kernel
theorem dX7_kindHere_1 : decode cX7_kindHere 1 = .ok (.ldc2_w 238, 3) := by decide +kernel
theorem dX7_kindHere_4 : decode cX7_kindHere 4 = .ok (.invokevirtual 240, 3) := by decide +kernel
theorem dX7_kindHere_7 : decode cX7_kindHere 7 = .ok (.ifCond .eq 7, 3) := by decide +kernel
theorem dX7_kindHere_10 : decode cX7_kindHere 10 = .ok (.iconst 0, 1) := by decide +kernel
theorem dX7_kindHere_11 : decode cX7_kindHere 11 = .ok (.goto 74, 3) := by decide +kernel
theorem dX7_kindHere_14 : decode cX7_kindHere 14 = .ok (.aload_n 0, 1) := by decide +kernel
theorem dX7_kindHere_15 : decode cX7_kindHere 15 = .ok (.ldc2_w 244, 3) := by decide +kernel
theorem dX7_kindHere_18 : decode cX7_kindHere 18 = .ok (.invokevirtual 240, 3) := by decide +kernel
theorem dX7_kindHere_21 : decode cX7_kindHere 21 = .ok (.ifCond .eq 7, 3) := by decide +kernel
theorem dX7_kindHere_24 : decode cX7_kindHere 24 = .ok (.iconst 1, 1) := by decide +kernel
theorem dX7_kindHere_25 : decode cX7_kindHere 25 = .ok (.goto 60, 3) := by decide +kernel
theorem dX7_kindHere_28 : decode cX7_kindHere 28 = .ok (.aload_n 0, 1) := by decide +kernel
theorem dX7_kindHere_29 : decode cX7_kindHere 29 = .ok (.ldc2_w 246, 3) := by decide +kernel
theorem dX7_kindHere_32 : decode cX7_kindHere 32 = .ok (.invokevirtual 240, 3) := by decide +kernel
theorem dX7_kindHere_35 : decode cX7_kindHere 35 = .ok (.ifCond .eq 7, 3) := by decide +kernel
theorem dX7_kindHere_38 : decode cX7_kindHere 38 = .ok (.iconst 2, 1) := by decide +kernel
theorem dX7_kindHere_39 : decode cX7_kindHere 39 = .ok (.goto 46, 3) := by decide +kernel
theorem dX7_kindHere_42 : decode cX7_kindHere 42 = .ok (.aload_n 0, 1) := by decide +kernel
theorem dX7_kindHere_43 : decode cX7_kindHere 43 = .ok (.ldc2_w 248, 3) := by decide +kernel
theorem dX7_kindHere_46 : decode cX7_kindHere 46 = .ok (.invokevirtual 240, 3) := by decide +kernel
theorem dX7_kindHere_49 : decode cX7_kindHere 49 = .ok (.ifCond .eq 7, 3) := by decide +kernel
theorem dX7_kindHere_52 : decode cX7_kindHere 52 = .ok (.iconst 3, 1) := by decide +kernel
theorem dX7_kindHere_53 : decode cX7_kindHere 53 = .ok (.goto 32, 3) := by decide +kernel
theorem dX7_kindHere_56 : decode cX7_kindHere 56 = .ok (.aload_n 0, 1) := by decide +kernel
theorem dX7_kindHere_57 : decode cX7_kindHere 57 = .ok (.ldc2_w 250, 3) := by decide +kernel
theorem dX7_kindHere_60 : decode cX7_kindHere 60 = .ok (.invokevirtual 240, 3) := by decide +kernel
theorem dX7_kindHere_63 : decode cX7_kindHere 63 = .ok (.ifCond .eq 7, 3) := by decide +kernel
theorem dX7_kindHere_66 : decode cX7_kindHere 66 = .ok (.iconst 4, 1) := by decide +kernel
theorem dX7_kindHere_67 : decode cX7_kindHere 67 = .ok (.goto 18, 3) := by decide +kernel
theorem dX7_kindHere_70 : decode cX7_kindHere 70 = .ok (.aload_n 0, 1) := by decide +kernel
theorem dX7_kindHere_71 : decode cX7_kindHere 71 = .ok (.ldc2_w 252, 3) := by decide +kernel
theorem dX7_kindHere_74 : decode cX7_kindHere 74 = .ok (.invokevirtual 240, 3) := by decide +kernel
theorem dX7_kindHere_77 : decode cX7_kindHere 77 = .ok (.ifCond .eq 7, 3) := by decide +kernel
theorem dX7_kindHere_80 : decode cX7_kindHere 80 = .ok (.iconst 5, 1) := by decide +kernel
theorem dX7_kindHere_81 : decode cX7_kindHere 81 = .ok (.goto 4, 3) := by decide +kernel
theorem dX7_kindHere_84 : decode cX7_kindHere 84 = .ok (.iconst (-1), 1) := by decide +kernel
theorem dX7_kindHere_85 : decode cX7_kindHere 85 = .ok (.ireturn, 1) := by decide +kernel
theorem dX7_wantNumber_0 : decode cX7_wantNumber 0 = .ok (.aload_n 0, 1) := by decide +kernel
theorem dX7_wantNumber_1 : decode cX7_wantNumber 1 = .ok (.getfield 229, 3) := by decide +kernel
theorem dX7_wantNumber_4 : decode cX7_wantNumber 4 = .ok (.istore_n 3, 1) := by decide +kernel
theorem dX7_wantNumber_5 : decode cX7_wantNumber 5 = .ok (.aload_n 0, 1) := by decide +kernel
theorem dX7_wantNumber_6 : decode cX7_wantNumber 6 = .ok (.aload_n 0, 1) := by decide +kernel
theorem dX7_wantNumber_7 : decode cX7_wantNumber 7 = .ok (.getfield 254, 3) := by decide +kernel
theorem dX7_wantNumber_10 : decode cX7_wantNumber 10 = .ok (.ifCond .eq 24, 3) := by decide +kernel
theorem dX7_wantNumber_13 : decode cX7_wantNumber 13 = .ok (.aload_n 0, 1) := by decide +kernel
theorem dX7_wantNumber_14 : decode cX7_wantNumber 14 = .ok (.getfield 222, 3) := by decide +kernel
theorem dX7_wantNumber_17 : decode cX7_wantNumber 17 = .ok (.iconst 2, 1) := by decide +kernel
theorem dX7_wantNumber_18 : decode cX7_wantNumber 18 = .ok (.if_icmp .ne 16, 3) := by decide +kernel
theorem dX7_wantNumber_21 : decode cX7_wantNumber 21 = .ok (.iload_n 3, 1) := by decide +kernel
theorem dX7_wantNumber_22 : decode cX7_wantNumber 22 = .ok (.iload_n 1, 1) := by decide +kernel
theorem dX7_wantNumber_23 : decode cX7_wantNumber 23 = .ok (.iload_n 2, 1) := by decide +kernel
theorem dX7_wantNumber_24 : decode cX7_wantNumber 24 = .ok (.invokestatic 45, 3) := by decide +kernel
theorem dX7_wantNumber_27 : decode cX7_wantNumber 27 = .ok (.ifCond .eq 7, 3) := by decide +kernel
theorem dX7_wantNumber_30 : decode cX7_wantNumber 30 = .ok (.iconst 1, 1) := by decide +kernel
theorem dX7_wantNumber_31 : decode cX7_wantNumber 31 = .ok (.goto 4, 3) := by decide +kernel
theorem dX7_wantNumber_34 : decode cX7_wantNumber 34 = .ok (.iconst 0, 1) := by decide +kernel
theorem dX7_wantNumber_35 : decode cX7_wantNumber 35 = .ok (.putfield 254, 3) := by decide +kernel
theorem dX7_wantNumber_38 : decode cX7_wantNumber 38 = .ok (.aload_n 0, 1) := by decide +kernel
theorem dX7_wantNumber_39 : decode cX7_wantNumber 39 = .ok (.getfield 254, 3) := by decide +kernel
theorem dX7_wantNumber_42 : decode cX7_wantNumber 42 = .ok (.ifCond .eq 7, 3) := by decide +kernel
theorem dX7_wantNumber_45 : decode cX7_wantNumber 45 = .ok (.aload_n 0, 1) := by decide +kernel
theorem dX7_wantNumber_46 : decode cX7_wantNumber 46 = .ok (.invokevirtual 258, 3) := by decide +kernel
theorem dX7_wantNumber_49 : decode cX7_wantNumber 49 = .ok (.iload_n 3, 1) := by decide +kernel
theorem dX7_wantNumber_50 : decode cX7_wantNumber 50 = .ok (.ireturn, 1) := by decide +kernel
theorem dX7_mayWant_0 : decode cX7_mayWant 0 = .ok (.aload_n 0, 1) := by decide +kernel
theorem dX7_mayWant_1 : decode cX7_mayWant 1 = .ok (.getfield 254, 3) := by decide +kernel
theorem dX7_mayWant_4 : decode cX7_mayWant 4 = .ok (.ifCond .eq 11, 3) := by decide +kernel
theorem dX7_mayWant_7 : decode cX7_mayWant 7 = .ok (.aload_n 0, 1) := by decide +kernel
theorem dX7_mayWant_8 : decode cX7_mayWant 8 = .ok (.lload_n 1, 1) := by decide +kernel
theorem dX7_mayWant_9 : decode cX7_mayWant 9 = .ok (.invokevirtual 240, 3) := by decide +kernel
theorem dX7_mayWant_12 : decode cX7_mayWant 12 = .ok (.ifCond .ne 6, 3) := by decide +kernel
theorem dX7_mayWant_15 : decode cX7_mayWant 15 = .ok (.iload 5, 2) := by decide +kernel
theorem dX7_mayWant_17 : decode cX7_mayWant 17 = .ok (.ireturn, 1) := by decide +kernel
theorem dX7_mayWant_18 : decode cX7_mayWant 18 = .ok (.aload_n 0, 1) := by decide +kernel
theorem dX7_mayWant_19 : decode cX7_mayWant 19 = .ok (.invokevirtual 258, 3) := by decide +kernel
theorem dX7_mayWant_22 : decode cX7_mayWant 22 = .ok (.aload_n 0, 1) := by decide +kernel
theorem dX7_mayWant_23 : decode cX7_mayWant 23 = .ok (.iload_n 3, 1) := by decide +kernel
theorem dX7_mayWant_24 : decode cX7_mayWant 24 = .ok (.iload 4, 2) := by decide +kernel
theorem dX7_mayWant_26 : decode cX7_mayWant 26 = .ok (.invokevirtual 261, 3) := by decide +kernel
theorem dX7_mayWant_29 : decode cX7_mayWant 29 = .ok (.ireturn, 1) := by decide +kernel
theorem dX7_wantWord_0 : decode cX7_wantWord 0 = .ok (.aload_n 0, 1) := by decide +kernel
theorem dX7_wantWord_1 : decode cX7_wantWord 1 = .ok (.aload_n 0, 1) := by decide +kernel
theorem dX7_wantWord_2 : decode cX7_wantWord 2 = .ok (.getfield 254, 3) := by decide +kernel
theorem dX7_wantWord_5 : decode cX7_wantWord 5 = .ok (.ifCond .eq 15, 3) := by decide +kernel
theorem dX7_wantWord_8 : decode cX7_wantWord 8 = .ok (.aload_n 0, 1) := by decide +kernel
theorem dX7_wantWord_9 : decode cX7_wantWord 9 = .ok (.lload_n 1, 1) := by decide +kernel
theorem dX7_wantWord_10 : decode cX7_wantWord 10 = .ok (.invokevirtual 240, 3) := by decide +kernel
theorem dX7_wantWord_13 : decode cX7_wantWord 13 = .ok (.ifCond .eq 7, 3) := by decide +kernel
theorem dX7_wantWord_16 : decode cX7_wantWord 16 = .ok (.iconst 1, 1) := by decide +kernel
theorem dX7_wantWord_17 : decode cX7_wantWord 17 = .ok (.goto 4, 3) := by decide +kernel
theorem dX7_wantWord_20 : decode cX7_wantWord 20 = .ok (.iconst 0, 1) := by decide +kernel
theorem dX7_wantWord_21 : decode cX7_wantWord 21 = .ok (.putfield 254, 3) := by decide +kernel
theorem dX7_wantWord_24 : decode cX7_wantWord 24 = .ok (.aload_n 0, 1) := by decide +kernel
theorem dX7_wantWord_25 : decode cX7_wantWord 25 = .ok (.getfield 254, 3) := by decide +kernel
theorem dX7_wantWord_28 : decode cX7_wantWord 28 = .ok (.ifCond .eq 7, 3) := by decide +kernel
theorem dX7_wantWord_31 : decode cX7_wantWord 31 = .ok (.aload_n 0, 1) := by decide +kernel
theorem dX7_wantWord_32 : decode cX7_wantWord 32 = .ok (.invokevirtual 258, 3) := by decide +kernel
theorem dX7_wantWord_35 : decode cX7_wantWord 35 = .ok (.return_, 1) := by decide +kernel
theorem dX7_wantVillage_0 : decode cX7_wantVillage 0 = .ok (.aload_n 0, 1) := by decide +kernel
theorem dX7_wantVillage_1 : decode cX7_wantVillage 1 = .ok (.aload_n 0, 1) := by decide +kernel
theorem dX7_wantVillage_2 : decode cX7_wantVillage 2 = .ok (.getfield 7, 3) := by decide +kernel
theorem dX7_wantVillage_5 : decode cX7_wantVillage 5 = .ok (.iconst 0, 1) := by decide +kernel
theorem dX7_wantVillage_6 : decode cX7_wantVillage 6 = .ok (.iaload, 1) := by decide +kernel
theorem dX7_wantVillage_7 : decode cX7_wantVillage 7 = .ok (.bipush 12, 2) := by decide +kernel
theorem dX7_wantVillage_9 : decode cX7_wantVillage 9 = .ok (.if_icmp .ge 7, 3) := by decide +kernel
theorem dX7_wantVillage_12 : decode cX7_wantVillage 12 = .ok (.iconst 1, 1) := by decide +kernel
theorem dX7_wantVillage_13 : decode cX7_wantVillage 13 = .ok (.goto 4, 3) := by decide +kernel
theorem dX7_wantVillage_16 : decode cX7_wantVillage 16 = .ok (.iconst 0, 1) := by decide +kernel
theorem dX7_wantVillage_17 : decode cX7_wantVillage 17 = .ok (.putfield 254, 3) := by decide +kernel
theorem dX7_wantVillage_20 : decode cX7_wantVillage 20 = .ok (.aload_n 0, 1) := by decide +kernel
theorem dX7_wantVillage_21 : decode cX7_wantVillage 21 = .ok (.getfield 254, 3) := by decide +kernel
theorem dX7_wantVillage_24 : decode cX7_wantVillage 24 = .ok (.ifCond .ne 4, 3) := by decide +kernel
theorem dX7_wantVillage_27 : decode cX7_wantVillage 27 = .ok (.return_, 1) := by decide +kernel
theorem dX7_wantVillage_28 : decode cX7_wantVillage 28 = .ok (.aload_n 0, 1) := by decide +kernel
theorem dX7_wantVillage_29 : decode cX7_wantVillage 29 = .ok (.invokevirtual 258, 3) := by decide +kernel
theorem dX7_wantVillage_32 : decode cX7_wantVillage 32 = .ok (.aload_n 0, 1) := by decide +kernel
theorem dX7_wantVillage_33 : decode cX7_wantVillage 33 = .ok (.iconst 0, 1) := by decide +kernel
theorem dX7_wantVillage_34 : decode cX7_wantVillage 34 = .ok (.sipush 9999, 3) := by decide +kernel
theorem dX7_wantVillage_37 : decode cX7_wantVillage 37 = .ok (.invokevirtual 261, 3) := by decide +kernel
theorem dX7_wantVillage_40 : decode cX7_wantVillage 40 = .ok (.istore_n 1, 1) := by decide +kernel
theorem dX7_wantVillage_41 : decode cX7_wantVillage 41 = .ok (.aload_n 0, 1) := by decide +kernel
theorem dX7_wantVillage_42 : decode cX7_wantVillage 42 = .ok (.getfield 254, 3) := by decide +kernel
theorem dX7_wantVillage_45 : decode cX7_wantVillage 45 = .ok (.ifCond .eq 17, 3) := by decide +kernel
theorem dX7_wantVillage_48 : decode cX7_wantVillage 48 = .ok (.aload_n 0, 1) := by decide +kernel
theorem dX7_wantVillage_49 : decode cX7_wantVillage 49 = .ok (.ldc2_w 264, 3) := by decide +kernel
theorem dX7_wantVillage_52 : decode cX7_wantVillage 52 = .ok (.invokevirtual 240, 3) := by decide +kernel
theorem dX7_wantVillage_55 : decode cX7_wantVillage 55 = .ok (.ifCond .eq 7, 3) := by decide +kernel
theorem dX7_wantVillage_58 : decode cX7_wantVillage 58 = .ok (.iconst 1, 1) := by decide +kernel
theorem dX7_wantVillage_59 : decode cX7_wantVillage 59 = .ok (.goto 4, 3) := by decide +kernel
theorem dX7_wantVillage_62 : decode cX7_wantVillage 62 = .ok (.iconst 0, 1) := by decide +kernel
theorem dX7_wantVillage_63 : decode cX7_wantVillage 63 = .ok (.istore_n 2, 1) := by decide +kernel
theorem dX7_wantVillage_64 : decode cX7_wantVillage 64 = .ok (.iload_n 2, 1) := by decide +kernel
theorem dX7_wantVillage_65 : decode cX7_wantVillage 65 = .ok (.ifCond .eq 7, 3) := by decide +kernel
theorem dX7_wantVillage_68 : decode cX7_wantVillage 68 = .ok (.aload_n 0, 1) := by decide +kernel
theorem dX7_wantVillage_69 : decode cX7_wantVillage 69 = .ok (.invokevirtual 258, 3) := by decide +kernel
theorem dX7_wantVillage_72 : decode cX7_wantVillage 72 = .ok (.aload_n 0, 1) := by decide +kernel
theorem dX7_wantVillage_73 : decode cX7_wantVillage 73 = .ok (.getfield 254, 3) := by decide +kernel
theorem dX7_wantVillage_76 : decode cX7_wantVillage 76 = .ok (.ifCond .eq 9, 3) := by decide +kernel
theorem dX7_wantVillage_79 : decode cX7_wantVillage 79 = .ok (.aload_n 0, 1) := by decide +kernel
theorem dX7_wantVillage_80 : decode cX7_wantVillage 80 = .ok (.iload_n 1, 1) := by decide +kernel
theorem dX7_wantVillage_81 : decode cX7_wantVillage 81 = .ok (.iload_n 2, 1) := by decide +kernel
theorem dX7_wantVillage_82 : decode cX7_wantVillage 82 = .ok (.invokevirtual 54, 3) := by decide +kernel
theorem dX7_wantVillage_85 : decode cX7_wantVillage 85 = .ok (.return_, 1) := by decide +kernel
theorem dX7_wantRoad_0 : decode cX7_wantRoad 0 = .ok (.aload_n 0, 1) := by decide +kernel
theorem dX7_wantRoad_1 : decode cX7_wantRoad 1 = .ok (.aload_n 0, 1) := by decide +kernel
theorem dX7_wantRoad_2 : decode cX7_wantRoad 2 = .ok (.getfield 7, 3) := by decide +kernel
theorem dX7_wantRoad_5 : decode cX7_wantRoad 5 = .ok (.iconst 1, 1) := by decide +kernel
theorem dX7_wantRoad_6 : decode cX7_wantRoad 6 = .ok (.iaload, 1) := by decide +kernel
theorem dX7_wantRoad_7 : decode cX7_wantRoad 7 = .ok (.bipush 24, 2) := by decide +kernel
theorem dX7_wantRoad_9 : decode cX7_wantRoad 9 = .ok (.if_icmp .ge 7, 3) := by decide +kernel
theorem dX7_wantRoad_12 : decode cX7_wantRoad 12 = .ok (.iconst 1, 1) := by decide +kernel
theorem dX7_wantRoad_13 : decode cX7_wantRoad 13 = .ok (.goto 4, 3) := by decide +kernel
theorem dX7_wantRoad_16 : decode cX7_wantRoad 16 = .ok (.iconst 0, 1) := by decide +kernel
theorem dX7_wantRoad_17 : decode cX7_wantRoad 17 = .ok (.putfield 254, 3) := by decide +kernel
theorem dX7_wantRoad_20 : decode cX7_wantRoad 20 = .ok (.aload_n 0, 1) := by decide +kernel
theorem dX7_wantRoad_21 : decode cX7_wantRoad 21 = .ok (.getfield 254, 3) := by decide +kernel
theorem dX7_wantRoad_24 : decode cX7_wantRoad 24 = .ok (.ifCond .ne 4, 3) := by decide +kernel
theorem dX7_wantRoad_27 : decode cX7_wantRoad 27 = .ok (.return_, 1) := by decide +kernel
theorem dX7_wantRoad_28 : decode cX7_wantRoad 28 = .ok (.aload_n 0, 1) := by decide +kernel
theorem dX7_wantRoad_29 : decode cX7_wantRoad 29 = .ok (.invokevirtual 258, 3) := by decide +kernel
theorem dX7_wantRoad_32 : decode cX7_wantRoad 32 = .ok (.aload_n 0, 1) := by decide +kernel
theorem dX7_wantRoad_33 : decode cX7_wantRoad 33 = .ok (.iconst 0, 1) := by decide +kernel
theorem dX7_wantRoad_34 : decode cX7_wantRoad 34 = .ok (.aload_n 0, 1) := by decide +kernel
theorem dX7_wantRoad_35 : decode cX7_wantRoad 35 = .ok (.getfield 7, 3) := by decide +kernel
theorem dX7_wantRoad_38 : decode cX7_wantRoad 38 = .ok (.iconst 0, 1) := by decide +kernel
theorem dX7_wantRoad_39 : decode cX7_wantRoad 39 = .ok (.iaload, 1) := by decide +kernel
theorem dX7_wantRoad_40 : decode cX7_wantRoad 40 = .ok (.iconst 1, 1) := by decide +kernel
theorem dX7_wantRoad_41 : decode cX7_wantRoad 41 = .ok (.isub, 1) := by decide +kernel
theorem dX7_wantRoad_42 : decode cX7_wantRoad 42 = .ok (.invokevirtual 261, 3) := by decide +kernel
theorem dX7_wantRoad_45 : decode cX7_wantRoad 45 = .ok (.istore_n 1, 1) := by decide +kernel
theorem dX7_wantRoad_46 : decode cX7_wantRoad 46 = .ok (.aload_n 0, 1) := by decide +kernel
theorem dX7_wantRoad_47 : decode cX7_wantRoad 47 = .ok (.ldc2_w 266, 3) := by decide +kernel
theorem dX7_wantRoad_50 : decode cX7_wantRoad 50 = .ok (.invokevirtual 268, 3) := by decide +kernel
theorem dX7_wantRoad_53 : decode cX7_wantRoad 53 = .ok (.aload_n 0, 1) := by decide +kernel
theorem dX7_wantRoad_54 : decode cX7_wantRoad 54 = .ok (.aload_n 0, 1) := by decide +kernel
theorem dX7_wantRoad_55 : decode cX7_wantRoad 55 = .ok (.getfield 254, 3) := by decide +kernel
theorem dX7_wantRoad_58 : decode cX7_wantRoad 58 = .ok (.ifCond .eq 46, 3) := by decide +kernel
theorem dX7_wantRoad_61 : decode cX7_wantRoad 61 = .ok (.aload_n 0, 1) := by decide +kernel
theorem dX7_wantRoad_62 : decode cX7_wantRoad 62 = .ok (.getfield 222, 3) := by decide +kernel
theorem dX7_wantRoad_65 : decode cX7_wantRoad 65 = .ok (.iconst 2, 1) := by decide +kernel
theorem dX7_wantRoad_66 : decode cX7_wantRoad 66 = .ok (.if_icmp .ne 38, 3) := by decide +kernel
theorem dX7_wantRoad_69 : decode cX7_wantRoad 69 = .ok (.aload_n 0, 1) := by decide +kernel
theorem dX7_wantRoad_70 : decode cX7_wantRoad 70 = .ok (.aload_n 0, 1) := by decide +kernel
theorem dX7_wantRoad_71 : decode cX7_wantRoad 71 = .ok (.getfield 229, 3) := by decide +kernel
theorem dX7_wantRoad_74 : decode cX7_wantRoad 74 = .ok (.invokevirtual 65, 3) := by decide +kernel
theorem dX7_wantRoad_77 : decode cX7_wantRoad 77 = .ok (.ifCond .eq 27, 3) := by decide +kernel
theorem dX7_wantRoad_80 : decode cX7_wantRoad 80 = .ok (.aload_n 0, 1) := by decide +kernel
theorem dX7_wantRoad_81 : decode cX7_wantRoad 81 = .ok (.getfield 229, 3) := by decide +kernel
theorem dX7_wantRoad_84 : decode cX7_wantRoad 84 = .ok (.iload_n 1, 1) := by decide +kernel
theorem dX7_wantRoad_85 : decode cX7_wantRoad 85 = .ok (.if_icmp .eq 19, 3) := by decide +kernel
theorem dX7_wantRoad_88 : decode cX7_wantRoad 88 = .ok (.aload_n 0, 1) := by decide +kernel
theorem dX7_wantRoad_89 : decode cX7_wantRoad 89 = .ok (.iload_n 1, 1) := by decide +kernel
theorem dX7_wantRoad_90 : decode cX7_wantRoad 90 = .ok (.aload_n 0, 1) := by decide +kernel
theorem dX7_wantRoad_91 : decode cX7_wantRoad 91 = .ok (.getfield 229, 3) := by decide +kernel
theorem dX7_wantRoad_94 : decode cX7_wantRoad 94 = .ok (.invokevirtual 81, 3) := by decide +kernel
theorem dX7_wantRoad_97 : decode cX7_wantRoad 97 = .ok (.ifCond .ge 7, 3) := by decide +kernel
theorem dX7_wantRoad_100 : decode cX7_wantRoad 100 = .ok (.iconst 1, 1) := by decide +kernel
theorem dX7_wantRoad_101 : decode cX7_wantRoad 101 = .ok (.goto 4, 3) := by decide +kernel
theorem dX7_wantRoad_104 : decode cX7_wantRoad 104 = .ok (.iconst 0, 1) := by decide +kernel
theorem dX7_wantRoad_105 : decode cX7_wantRoad 105 = .ok (.putfield 254, 3) := by decide +kernel
theorem dX7_wantRoad_108 : decode cX7_wantRoad 108 = .ok (.aload_n 0, 1) := by decide +kernel
theorem dX7_wantRoad_109 : decode cX7_wantRoad 109 = .ok (.iconst 0, 1) := by decide +kernel
theorem dX7_wantRoad_110 : decode cX7_wantRoad 110 = .ok (.aload_n 0, 1) := by decide +kernel
theorem dX7_wantRoad_111 : decode cX7_wantRoad 111 = .ok (.getfield 7, 3) := by decide +kernel
theorem dX7_wantRoad_114 : decode cX7_wantRoad 114 = .ok (.iconst 0, 1) := by decide +kernel
theorem dX7_wantRoad_115 : decode cX7_wantRoad 115 = .ok (.iaload, 1) := by decide +kernel
theorem dX7_wantRoad_116 : decode cX7_wantRoad 116 = .ok (.iconst 1, 1) := by decide +kernel
theorem dX7_wantRoad_117 : decode cX7_wantRoad 117 = .ok (.isub, 1) := by decide +kernel
theorem dX7_wantRoad_118 : decode cX7_wantRoad 118 = .ok (.invokevirtual 261, 3) := by decide +kernel
theorem dX7_wantRoad_121 : decode cX7_wantRoad 121 = .ok (.istore_n 2, 1) := by decide +kernel
theorem dX7_wantRoad_122 : decode cX7_wantRoad 122 = .ok (.aload_n 0, 1) := by decide +kernel
theorem dX7_wantRoad_123 : decode cX7_wantRoad 123 = .ok (.ldc2_w 272, 3) := by decide +kernel
theorem dX7_wantRoad_126 : decode cX7_wantRoad 126 = .ok (.iconst 1, 1) := by decide +kernel
theorem dX7_wantRoad_127 : decode cX7_wantRoad 127 = .ok (.bipush 9, 2) := by decide +kernel
theorem dX7_wantRoad_129 : decode cX7_wantRoad 129 = .ok (.iconst 1, 1) := by decide +kernel
theorem dX7_wantRoad_130 : decode cX7_wantRoad 130 = .ok (.invokevirtual 274, 3) := by decide +kernel
theorem dX7_wantRoad_133 : decode cX7_wantRoad 133 = .ok (.istore_n 3, 1) := by decide +kernel
theorem dX7_wantRoad_134 : decode cX7_wantRoad 134 = .ok (.aload_n 0, 1) := by decide +kernel
theorem dX7_wantRoad_135 : decode cX7_wantRoad 135 = .ok (.getfield 254, 3) := by decide +kernel
theorem dX7_wantRoad_138 : decode cX7_wantRoad 138 = .ok (.ifCond .eq 10, 3) := by decide +kernel
theorem dX7_wantRoad_141 : decode cX7_wantRoad 141 = .ok (.aload_n 0, 1) := by decide +kernel
theorem dX7_wantRoad_142 : decode cX7_wantRoad 142 = .ok (.iload_n 1, 1) := by decide +kernel
theorem dX7_wantRoad_143 : decode cX7_wantRoad 143 = .ok (.iload_n 2, 1) := by decide +kernel
theorem dX7_wantRoad_144 : decode cX7_wantRoad 144 = .ok (.iload_n 3, 1) := by decide +kernel
theorem dX7_wantRoad_145 : decode cX7_wantRoad 145 = .ok (.invokevirtual 85, 3) := by decide +kernel
theorem dX7_wantRoad_148 : decode cX7_wantRoad 148 = .ok (.return_, 1) := by decide +kernel
theorem dX7_wantSlide_0 : decode cX7_wantSlide 0 = .ok (.aload_n 0, 1) := by decide +kernel
theorem dX7_wantSlide_1 : decode cX7_wantSlide 1 = .ok (.invokevirtual 258, 3) := by decide +kernel
theorem dX7_wantSlide_4 : decode cX7_wantSlide 4 = .ok (.aload_n 0, 1) := by decide +kernel
theorem dX7_wantSlide_5 : decode cX7_wantSlide 5 = .ok (.iconst 0, 1) := by decide +kernel
theorem dX7_wantSlide_6 : decode cX7_wantSlide 6 = .ok (.aload_n 0, 1) := by decide +kernel
theorem dX7_wantSlide_7 : decode cX7_wantSlide 7 = .ok (.getfield 7, 3) := by decide +kernel
theorem dX7_wantSlide_10 : decode cX7_wantSlide 10 = .ok (.iconst 0, 1) := by decide +kernel
theorem dX7_wantSlide_11 : decode cX7_wantSlide 11 = .ok (.iaload, 1) := by decide +kernel
theorem dX7_wantSlide_12 : decode cX7_wantSlide 12 = .ok (.iconst 1, 1) := by decide +kernel
theorem dX7_wantSlide_13 : decode cX7_wantSlide 13 = .ok (.isub, 1) := by decide +kernel
theorem dX7_wantSlide_14 : decode cX7_wantSlide 14 = .ok (.invokevirtual 261, 3) := by decide +kernel
theorem dX7_wantSlide_17 : decode cX7_wantSlide 17 = .ok (.istore_n 1, 1) := by decide +kernel
theorem dX7_wantSlide_18 : decode cX7_wantSlide 18 = .ok (.aload_n 0, 1) := by decide +kernel
theorem dX7_wantSlide_19 : decode cX7_wantSlide 19 = .ok (.iconst 0, 1) := by decide +kernel
theorem dX7_wantSlide_20 : decode cX7_wantSlide 20 = .ok (.sipush 9999, 3) := by decide +kernel
theorem dX7_wantSlide_23 : decode cX7_wantSlide 23 = .ok (.invokevirtual 261, 3) := by decide +kernel
theorem dX7_wantSlide_26 : decode cX7_wantSlide 26 = .ok (.istore_n 2, 1) := by decide +kernel
theorem dX7_wantSlide_27 : decode cX7_wantSlide 27 = .ok (.aload_n 0, 1) := by decide +kernel
theorem dX7_wantSlide_28 : decode cX7_wantSlide 28 = .ok (.getfield 254, 3) := by decide +kernel
theorem dX7_wantSlide_31 : decode cX7_wantSlide 31 = .ok (.ifCond .eq 14, 3) := by decide +kernel
theorem dX7_wantSlide_34 : decode cX7_wantSlide 34 = .ok (.aload_n 0, 1) := by decide +kernel
theorem dX7_wantSlide_35 : decode cX7_wantSlide 35 = .ok (.getfield 7, 3) := by decide +kernel
theorem dX7_wantSlide_38 : decode cX7_wantSlide 38 = .ok (.iconst 5, 1) := by decide +kernel
theorem dX7_wantSlide_39 : decode cX7_wantSlide 39 = .ok (.iconst 2, 1) := by decide +kernel
theorem dX7_wantSlide_40 : decode cX7_wantSlide 40 = .ok (.iload_n 1, 1) := by decide +kernel
theorem dX7_wantSlide_41 : decode cX7_wantSlide 41 = .ok (.imul, 1) := by decide +kernel
theorem dX7_wantSlide_42 : decode cX7_wantSlide 42 = .ok (.iadd, 1) := by decide +kernel
theorem dX7_wantSlide_43 : decode cX7_wantSlide 43 = .ok (.iload_n 2, 1) := by decide +kernel
theorem dX7_wantSlide_44 : decode cX7_wantSlide 44 = .ok (.iastore, 1) := by decide +kernel
theorem dX7_wantSlide_45 : decode cX7_wantSlide 45 = .ok (.return_, 1) := by decide +kernel
theorem dX7_wantEvery_0 : decode cX7_wantEvery 0 = .ok (.aload_n 0, 1) := by decide +kernel
theorem dX7_wantEvery_1 : decode cX7_wantEvery 1 = .ok (.invokevirtual 258, 3) := by decide +kernel
theorem dX7_wantEvery_4 : decode cX7_wantEvery 4 = .ok (.aload_n 0, 1) := by decide +kernel
theorem dX7_wantEvery_5 : decode cX7_wantEvery 5 = .ok (.iconst 1, 1) := by decide +kernel
theorem dX7_wantEvery_6 : decode cX7_wantEvery 6 = .ok (.bipush 99, 2) := by decide +kernel
theorem dX7_wantEvery_8 : decode cX7_wantEvery 8 = .ok (.invokevirtual 261, 3) := by decide +kernel
theorem dX7_wantEvery_11 : decode cX7_wantEvery 11 = .ok (.istore_n 1, 1) := by decide +kernel
theorem dX7_wantEvery_12 : decode cX7_wantEvery 12 = .ok (.aload_n 0, 1) := by decide +kernel
theorem dX7_wantEvery_13 : decode cX7_wantEvery 13 = .ok (.getfield 254, 3) := by decide +kernel
theorem dX7_wantEvery_16 : decode cX7_wantEvery 16 = .ok (.ifCond .eq 10, 3) := by decide +kernel
theorem dX7_wantEvery_19 : decode cX7_wantEvery 19 = .ok (.aload_n 0, 1) := by decide +kernel
theorem dX7_wantEvery_20 : decode cX7_wantEvery 20 = .ok (.getfield 7, 3) := by decide +kernel
theorem dX7_wantEvery_23 : decode cX7_wantEvery 23 = .ok (.iconst 3, 1) := by decide +kernel
theorem dX7_wantEvery_24 : decode cX7_wantEvery 24 = .ok (.iload_n 1, 1) := by decide +kernel
theorem dX7_wantEvery_25 : decode cX7_wantEvery 25 = .ok (.iastore, 1) := by decide +kernel
theorem dX7_wantEvery_26 : decode cX7_wantEvery 26 = .ok (.return_, 1) := by decide +kernel
theorem dX7_wantLetter_0 : decode cX7_wantLetter 0 = .ok (.aload_n 0, 1) := by decide +kernel
theorem dX7_wantLetter_1 : decode cX7_wantLetter 1 = .ok (.aload_n 0, 1) := by decide +kernel
theorem dX7_wantLetter_2 : decode cX7_wantLetter 2 = .ok (.getfield 7, 3) := by decide +kernel
theorem dX7_wantLetter_5 : decode cX7_wantLetter 5 = .ok (.iconst 2, 1) := by decide +kernel
theorem dX7_wantLetter_6 : decode cX7_wantLetter 6 = .ok (.iaload, 1) := by decide +kernel
theorem dX7_wantLetter_7 : decode cX7_wantLetter 7 = .ok (.bipush 10, 2) := by decide +kernel
theorem dX7_wantLetter_9 : decode cX7_wantLetter 9 = .ok (.if_icmp .ge 7, 3) := by decide +kernel
theorem dX7_wantLetter_12 : decode cX7_wantLetter 12 = .ok (.iconst 1, 1) := by decide +kernel
theorem dX7_wantLetter_13 : decode cX7_wantLetter 13 = .ok (.goto 4, 3) := by decide +kernel
theorem dX7_wantLetter_16 : decode cX7_wantLetter 16 = .ok (.iconst 0, 1) := by decide +kernel
theorem dX7_wantLetter_17 : decode cX7_wantLetter 17 = .ok (.putfield 254, 3) := by decide +kernel
theorem dX7_wantLetter_20 : decode cX7_wantLetter 20 = .ok (.aload_n 0, 1) := by decide +kernel
theorem dX7_wantLetter_21 : decode cX7_wantLetter 21 = .ok (.getfield 254, 3) := by decide +kernel
theorem dX7_wantLetter_24 : decode cX7_wantLetter 24 = .ok (.ifCond .ne 4, 3) := by decide +kernel
theorem dX7_wantLetter_27 : decode cX7_wantLetter 27 = .ok (.return_, 1) := by decide +kernel
theorem dX7_wantLetter_28 : decode cX7_wantLetter 28 = .ok (.aload_n 0, 1) := by decide +kernel
theorem dX7_wantLetter_29 : decode cX7_wantLetter 29 = .ok (.invokevirtual 258, 3) := by decide +kernel
theorem dX7_wantLetter_32 : decode cX7_wantLetter 32 = .ok (.aload_n 0, 1) := by decide +kernel
theorem dX7_wantLetter_33 : decode cX7_wantLetter 33 = .ok (.iconst 0, 1) := by decide +kernel
theorem dX7_wantLetter_34 : decode cX7_wantLetter 34 = .ok (.aload_n 0, 1) := by decide +kernel
theorem dX7_wantLetter_35 : decode cX7_wantLetter 35 = .ok (.getfield 7, 3) := by decide +kernel
theorem dX7_wantLetter_38 : decode cX7_wantLetter 38 = .ok (.iconst 0, 1) := by decide +kernel
theorem dX7_wantLetter_39 : decode cX7_wantLetter 39 = .ok (.iaload, 1) := by decide +kernel
theorem dX7_wantLetter_40 : decode cX7_wantLetter 40 = .ok (.iconst 1, 1) := by decide +kernel
theorem dX7_wantLetter_41 : decode cX7_wantLetter 41 = .ok (.isub, 1) := by decide +kernel
theorem dX7_wantLetter_42 : decode cX7_wantLetter 42 = .ok (.invokevirtual 261, 3) := by decide +kernel
theorem dX7_wantLetter_45 : decode cX7_wantLetter 45 = .ok (.istore_n 2, 1) := by decide +kernel
theorem dX7_wantLetter_46 : decode cX7_wantLetter 46 = .ok (.aload_n 0, 1) := by decide +kernel
theorem dX7_wantLetter_47 : decode cX7_wantLetter 47 = .ok (.ldc2_w 266, 3) := by decide +kernel
theorem dX7_wantLetter_50 : decode cX7_wantLetter 50 = .ok (.invokevirtual 268, 3) := by decide +kernel
theorem dX7_wantLetter_53 : decode cX7_wantLetter 53 = .ok (.aload_n 0, 1) := by decide +kernel
theorem dX7_wantLetter_54 : decode cX7_wantLetter 54 = .ok (.iconst 0, 1) := by decide +kernel
theorem dX7_wantLetter_55 : decode cX7_wantLetter 55 = .ok (.aload_n 0, 1) := by decide +kernel
theorem dX7_wantLetter_56 : decode cX7_wantLetter 56 = .ok (.getfield 7, 3) := by decide +kernel
theorem dX7_wantLetter_59 : decode cX7_wantLetter 59 = .ok (.iconst 0, 1) := by decide +kernel
theorem dX7_wantLetter_60 : decode cX7_wantLetter 60 = .ok (.iaload, 1) := by decide +kernel
theorem dX7_wantLetter_61 : decode cX7_wantLetter 61 = .ok (.iconst 1, 1) := by decide +kernel
theorem dX7_wantLetter_62 : decode cX7_wantLetter 62 = .ok (.isub, 1) := by decide +kernel
theorem dX7_wantLetter_63 : decode cX7_wantLetter 63 = .ok (.invokevirtual 261, 3) := by decide +kernel
theorem dX7_wantLetter_66 : decode cX7_wantLetter 66 = .ok (.istore_n 3, 1) := by decide +kernel
theorem dX7_wantLetter_67 : decode cX7_wantLetter 67 = .ok (.aload_n 0, 1) := by decide +kernel
theorem dX7_wantLetter_68 : decode cX7_wantLetter 68 = .ok (.getfield 254, 3) := by decide +kernel
theorem dX7_wantLetter_71 : decode cX7_wantLetter 71 = .ok (.ifCond .eq 10, 3) := by decide +kernel
theorem dX7_wantLetter_74 : decode cX7_wantLetter 74 = .ok (.aload_n 0, 1) := by decide +kernel
theorem dX7_wantLetter_75 : decode cX7_wantLetter 75 = .ok (.iload_n 1, 1) := by decide +kernel
theorem dX7_wantLetter_76 : decode cX7_wantLetter 76 = .ok (.iload_n 2, 1) := by decide +kernel
theorem dX7_wantLetter_77 : decode cX7_wantLetter 77 = .ok (.iload_n 3, 1) := by decide +kernel
theorem dX7_wantLetter_78 : decode cX7_wantLetter 78 = .ok (.invokevirtual 160, 3) := by decide +kernel
theorem dX7_wantLetter_81 : decode cX7_wantLetter 81 = .ok (.return_, 1) := by decide +kernel
theorem dX7_wantItem_0 : decode cX7_wantItem 0 = .ok (.aload_n 0, 1) := by decide +kernel
theorem dX7_wantItem_1 : decode cX7_wantItem 1 = .ok (.ldc2_w 278, 3) := by decide +kernel
theorem dX7_wantItem_4 : decode cX7_wantItem 4 = .ok (.invokevirtual 240, 3) := by decide +kernel
theorem dX7_wantItem_7 : decode cX7_wantItem 7 = .ok (.ifCond .eq 10, 3) := by decide +kernel
theorem dX7_wantItem_10 : decode cX7_wantItem 10 = .ok (.aload_n 0, 1) := by decide +kernel
theorem dX7_wantItem_11 : decode cX7_wantItem 11 = .ok (.invokevirtual 280, 3) := by decide +kernel
theorem dX7_wantItem_14 : decode cX7_wantItem 14 = .ok (.goto 77, 3) := by decide +kernel
theorem dX7_wantItem_17 : decode cX7_wantItem 17 = .ok (.aload_n 0, 1) := by decide +kernel
theorem dX7_wantItem_18 : decode cX7_wantItem 18 = .ok (.ldc2_w 283, 3) := by decide +kernel
theorem dX7_wantItem_21 : decode cX7_wantItem 21 = .ok (.invokevirtual 240, 3) := by decide +kernel
theorem dX7_wantItem_24 : decode cX7_wantItem 24 = .ok (.ifCond .eq 10, 3) := by decide +kernel
theorem dX7_wantItem_27 : decode cX7_wantItem 27 = .ok (.aload_n 0, 1) := by decide +kernel
theorem dX7_wantItem_28 : decode cX7_wantItem 28 = .ok (.invokevirtual 285, 3) := by decide +kernel
theorem dX7_wantItem_31 : decode cX7_wantItem 31 = .ok (.goto 60, 3) := by decide +kernel
theorem dX7_wantItem_34 : decode cX7_wantItem 34 = .ok (.aload_n 0, 1) := by decide +kernel
theorem dX7_wantItem_35 : decode cX7_wantItem 35 = .ok (.ldc2_w 288, 3) := by decide +kernel
theorem dX7_wantItem_38 : decode cX7_wantItem 38 = .ok (.invokevirtual 240, 3) := by decide +kernel
theorem dX7_wantItem_41 : decode cX7_wantItem 41 = .ok (.ifCond .eq 10, 3) := by decide +kernel
theorem dX7_wantItem_44 : decode cX7_wantItem 44 = .ok (.aload_n 0, 1) := by decide +kernel
theorem dX7_wantItem_45 : decode cX7_wantItem 45 = .ok (.invokevirtual 290, 3) := by decide +kernel
theorem dX7_wantItem_48 : decode cX7_wantItem 48 = .ok (.goto 43, 3) := by decide +kernel
theorem dX7_wantItem_51 : decode cX7_wantItem 51 = .ok (.aload_n 0, 1) := by decide +kernel
theorem dX7_wantItem_52 : decode cX7_wantItem 52 = .ok (.ldc2_w 293, 3) := by decide +kernel
theorem dX7_wantItem_55 : decode cX7_wantItem 55 = .ok (.invokevirtual 240, 3) := by decide +kernel
theorem dX7_wantItem_58 : decode cX7_wantItem 58 = .ok (.ifCond .eq 10, 3) := by decide +kernel
theorem dX7_wantItem_61 : decode cX7_wantItem 61 = .ok (.aload_n 0, 1) := by decide +kernel
theorem dX7_wantItem_62 : decode cX7_wantItem 62 = .ok (.invokevirtual 295, 3) := by decide +kernel
theorem dX7_wantItem_65 : decode cX7_wantItem 65 = .ok (.goto 26, 3) := by decide +kernel
theorem dX7_wantItem_68 : decode cX7_wantItem 68 = .ok (.aload_n 0, 1) := by decide +kernel
theorem dX7_wantItem_69 : decode cX7_wantItem 69 = .ok (.invokevirtual 298, 3) := by decide +kernel
theorem dX7_wantItem_72 : decode cX7_wantItem 72 = .ok (.ifCond .lt 14, 3) := by decide +kernel
theorem dX7_wantItem_75 : decode cX7_wantItem 75 = .ok (.aload_n 0, 1) := by decide +kernel
theorem dX7_wantItem_76 : decode cX7_wantItem 76 = .ok (.aload_n 0, 1) := by decide +kernel
theorem dX7_wantItem_77 : decode cX7_wantItem 77 = .ok (.invokevirtual 298, 3) := by decide +kernel
theorem dX7_wantItem_80 : decode cX7_wantItem 80 = .ok (.invokevirtual 301, 3) := by decide +kernel
theorem dX7_wantItem_83 : decode cX7_wantItem 83 = .ok (.goto 8, 3) := by decide +kernel
theorem dX7_wantItem_86 : decode cX7_wantItem 86 = .ok (.aload_n 0, 1) := by decide +kernel
theorem dX7_wantItem_87 : decode cX7_wantItem 87 = .ok (.iconst 0, 1) := by decide +kernel
theorem dX7_wantItem_88 : decode cX7_wantItem 88 = .ok (.putfield 254, 3) := by decide +kernel
theorem dX7_wantItem_91 : decode cX7_wantItem 91 = .ok (.return_, 1) := by decide +kernel
theorem dX7_text_0 : decode cX7_text 0 = .ok (.aload_n 0, 1) := by decide +kernel
theorem dX7_text_1 : decode cX7_text 1 = .ok (.iconst 1, 1) := by decide +kernel
theorem dX7_text_2 : decode cX7_text 2 = .ok (.aload_n 0, 1) := by decide +kernel
theorem dX7_text_3 : decode cX7_text 3 = .ok (.getfield 41, 3) := by decide +kernel
theorem dX7_text_6 : decode cX7_text 6 = .ok (.invokevirtual 197, 3) := by decide +kernel
theorem dX7_text_9 : decode cX7_text 9 = .ok (.aload_n 0, 1) := by decide +kernel
theorem dX7_text_10 : decode cX7_text 10 = .ok (.iconst 0, 1) := by decide +kernel
theorem dX7_text_11 : decode cX7_text 11 = .ok (.putfield 207, 3) := by decide +kernel
theorem dX7_text_14 : decode cX7_text 14 = .ok (.aload_n 0, 1) := by decide +kernel
theorem dX7_text_15 : decode cX7_text 15 = .ok (.iconst 1, 1) := by decide +kernel
theorem dX7_text_16 : decode cX7_text 16 = .ok (.putfield 254, 3) := by decide +kernel
theorem dX7_text_19 : decode cX7_text 19 = .ok (.iconst 0, 1) := by decide +kernel
theorem dX7_text_20 : decode cX7_text 20 = .ok (.istore_n 1, 1) := by decide +kernel
theorem dX7_text_21 : decode cX7_text 21 = .ok (.iconst 1, 1) := by decide +kernel
theorem dX7_text_22 : decode cX7_text 22 = .ok (.istore_n 2, 1) := by decide +kernel
theorem dX7_text_23 : decode cX7_text 23 = .ok (.iload_n 2, 1) := by decide +kernel
theorem dX7_text_24 : decode cX7_text 24 = .ok (.ifCond .eq 47, 3) := by decide +kernel
theorem dX7_text_27 : decode cX7_text 27 = .ok (.aload_n 0, 1) := by decide +kernel
theorem dX7_text_28 : decode cX7_text 28 = .ok (.invokevirtual 258, 3) := by decide +kernel
theorem dX7_text_31 : decode cX7_text 31 = .ok (.aload_n 0, 1) := by decide +kernel
theorem dX7_text_32 : decode cX7_text 32 = .ok (.invokevirtual 304, 3) := by decide +kernel
theorem dX7_text_35 : decode cX7_text 35 = .ok (.iinc 1 1, 3) := by decide +kernel
theorem dX7_text_38 : decode cX7_text 38 = .ok (.aload_n 0, 1) := by decide +kernel
theorem dX7_text_39 : decode cX7_text 39 = .ok (.getfield 254, 3) := by decide +kernel
theorem dX7_text_42 : decode cX7_text 42 = .ok (.ifCond .eq 24, 3) := by decide +kernel
theorem dX7_text_45 : decode cX7_text 45 = .ok (.aload_n 0, 1) := by decide +kernel
theorem dX7_text_46 : decode cX7_text 46 = .ok (.getfield 222, 3) := by decide +kernel
theorem dX7_text_49 : decode cX7_text 49 = .ok (.iconst 3, 1) := by decide +kernel
theorem dX7_text_50 : decode cX7_text 50 = .ok (.if_icmp .ne 16, 3) := by decide +kernel
theorem dX7_text_53 : decode cX7_text 53 = .ok (.aload_n 0, 1) := by decide +kernel
theorem dX7_text_54 : decode cX7_text 54 = .ok (.getfield 229, 3) := by decide +kernel
theorem dX7_text_57 : decode cX7_text 57 = .ok (.bipush 59, 2) := by decide +kernel
theorem dX7_text_59 : decode cX7_text 59 = .ok (.if_icmp .ne 7, 3) := by decide +kernel
theorem dX7_text_62 : decode cX7_text 62 = .ok (.iconst 1, 1) := by decide +kernel
theorem dX7_text_63 : decode cX7_text 63 = .ok (.goto 4, 3) := by decide +kernel
theorem dX7_text_66 : decode cX7_text 66 = .ok (.iconst 0, 1) := by decide +kernel
theorem dX7_text_67 : decode cX7_text 67 = .ok (.istore_n 2, 1) := by decide +kernel
theorem dX7_text_68 : decode cX7_text 68 = .ok (.goto (-45), 3) := by decide +kernel
theorem dX7_text_71 : decode cX7_text 71 = .ok (.aload_n 0, 1) := by decide +kernel
theorem dX7_text_72 : decode cX7_text 72 = .ok (.aload_n 0, 1) := by decide +kernel
theorem dX7_text_73 : decode cX7_text 73 = .ok (.getfield 254, 3) := by decide +kernel
theorem dX7_text_76 : decode cX7_text 76 = .ok (.ifCond .eq 14, 3) := by decide +kernel
theorem dX7_text_79 : decode cX7_text 79 = .ok (.aload_n 0, 1) := by decide +kernel
theorem dX7_text_80 : decode cX7_text 80 = .ok (.getfield 222, 3) := by decide +kernel
theorem dX7_text_83 : decode cX7_text 83 = .ok (.ifCond .ne 7, 3) := by decide +kernel
theorem dX7_text_86 : decode cX7_text 86 = .ok (.iconst 1, 1) := by decide +kernel
theorem dX7_text_87 : decode cX7_text 87 = .ok (.goto 4, 3) := by decide +kernel
theorem dX7_text_90 : decode cX7_text 90 = .ok (.iconst 0, 1) := by decide +kernel
theorem dX7_text_91 : decode cX7_text 91 = .ok (.putfield 254, 3) := by decide +kernel
theorem dX7_text_94 : decode cX7_text 94 = .ok (.aload_n 0, 1) := by decide +kernel
theorem dX7_text_95 : decode cX7_text 95 = .ok (.iconst 0, 1) := by decide +kernel
theorem dX7_text_96 : decode cX7_text 96 = .ok (.putfield 204, 3) := by decide +kernel
theorem dX7_text_99 : decode cX7_text 99 = .ok (.aload_n 0, 1) := by decide +kernel
theorem dX7_text_100 : decode cX7_text 100 = .ok (.getfield 254, 3) := by decide +kernel
theorem dX7_text_103 : decode cX7_text 103 = .ok (.ifCond .ne 19, 3) := by decide +kernel
theorem dX7_text_106 : decode cX7_text 106 = .ok (.aload_n 0, 1) := by decide +kernel
theorem dX7_text_107 : decode cX7_text 107 = .ok (.iconst 0, 1) := by decide +kernel
theorem dX7_text_108 : decode cX7_text 108 = .ok (.aload_n 0, 1) := by decide +kernel
theorem dX7_text_109 : decode cX7_text 109 = .ok (.getfield 41, 3) := by decide +kernel
theorem dX7_text_112 : decode cX7_text 112 = .ok (.invokevirtual 197, 3) := by decide +kernel
theorem dX7_text_115 : decode cX7_text 115 = .ok (.iconst (-1), 1) := by decide +kernel
theorem dX7_text_116 : decode cX7_text 116 = .ok (.aload_n 0, 1) := by decide +kernel
theorem dX7_text_117 : decode cX7_text 117 = .ok (.getfield 210, 3) := by decide +kernel
theorem dX7_text_120 : decode cX7_text 120 = .ok (.isub, 1) := by decide +kernel
theorem dX7_text_121 : decode cX7_text 121 = .ok (.ireturn, 1) := by decide +kernel
theorem dX7_text_122 : decode cX7_text 122 = .ok (.iload_n 1, 1) := by decide +kernel
theorem dX7_text_123 : decode cX7_text 123 = .ok (.ireturn, 1) := by decide +kernel
theorem dX7_isSheet_0 : decode cX7_isSheet 0 = .ok (.iload_n 0, 1) := by decide +kernel
theorem dX7_isSheet_1 : decode cX7_isSheet 1 = .ok (.iconst 0, 1) := by decide +kernel
theorem dX7_isSheet_2 : decode cX7_isSheet 2 = .ok (.iconst 3, 1) := by decide +kernel
theorem dX7_isSheet_3 : decode cX7_isSheet 3 = .ok (.invokestatic 45, 3) := by decide +kernel
theorem dX7_isSheet_6 : decode cX7_isSheet 6 = .ok (.ireturn, 1) := by decide +kernel
theorem dX7_narrow_0 : decode cX7_narrow 0 = .ok (.iload_n 0, 1) := by decide +kernel
theorem dX7_narrow_1 : decode cX7_narrow 1 = .ok (.bipush 8, 2) := by decide +kernel
theorem dX7_narrow_3 : decode cX7_narrow 3 = .ok (.if_icmp .ne 13, 3) := by decide +kernel
theorem dX7_narrow_6 : decode cX7_narrow 6 = .ok (.lload_n 1, 1) := by decide +kernel
theorem dX7_narrow_7 : decode cX7_narrow 7 = .ok (.bipush 56, 2) := by decide +kernel
theorem dX7_narrow_9 : decode cX7_narrow 9 = .ok (.lshl, 1) := by decide +kernel
theorem dX7_narrow_10 : decode cX7_narrow 10 = .ok (.bipush 56, 2) := by decide +kernel
theorem dX7_narrow_12 : decode cX7_narrow 12 = .ok (.lshr, 1) := by decide +kernel
theorem dX7_narrow_13 : decode cX7_narrow 13 = .ok (.goto 20, 3) := by decide +kernel
theorem dX7_narrow_16 : decode cX7_narrow 16 = .ok (.iload_n 0, 1) := by decide +kernel
theorem dX7_narrow_17 : decode cX7_narrow 17 = .ok (.bipush 16, 2) := by decide +kernel
theorem dX7_narrow_19 : decode cX7_narrow 19 = .ok (.if_icmp .ne 13, 3) := by decide +kernel
theorem dX7_narrow_22 : decode cX7_narrow 22 = .ok (.lload_n 1, 1) := by decide +kernel
theorem dX7_narrow_23 : decode cX7_narrow 23 = .ok (.bipush 48, 2) := by decide +kernel
theorem dX7_narrow_25 : decode cX7_narrow 25 = .ok (.lshl, 1) := by decide +kernel
theorem dX7_narrow_26 : decode cX7_narrow 26 = .ok (.bipush 48, 2) := by decide +kernel
theorem dX7_narrow_28 : decode cX7_narrow 28 = .ok (.lshr, 1) := by decide +kernel
theorem dX7_narrow_29 : decode cX7_narrow 29 = .ok (.goto 4, 3) := by decide +kernel
theorem dX7_narrow_32 : decode cX7_narrow 32 = .ok (.lload_n 1, 1) := by decide +kernel
theorem dX7_narrow_33 : decode cX7_narrow 33 = .ok (.lreturn, 1) := by decide +kernel
theorem dX7_sheet_0 : decode cX7_sheet 0 = .ok (.iload_n 1, 1) := by decide +kernel
theorem dX7_sheet_1 : decode cX7_sheet 1 = .ok (.invokestatic 307, 3) := by decide +kernel
theorem dX7_sheet_4 : decode cX7_sheet 4 = .ok (.ifCond .eq 25, 3) := by decide +kernel
theorem dX7_sheet_7 : decode cX7_sheet 7 = .ok (.iload_n 2, 1) := by decide +kernel
theorem dX7_sheet_8 : decode cX7_sheet 8 = .ok (.ifCond .eq 28, 3) := by decide +kernel
theorem dX7_sheet_11 : decode cX7_sheet 11 = .ok (.iload_n 2, 1) := by decide +kernel
theorem dX7_sheet_12 : decode cX7_sheet 12 = .ok (.bipush 8, 2) := by decide +kernel
theorem dX7_sheet_14 : decode cX7_sheet 14 = .ok (.if_icmp .eq 22, 3) := by decide +kernel
theorem dX7_sheet_17 : decode cX7_sheet 17 = .ok (.iload_n 2, 1) := by decide +kernel
theorem dX7_sheet_18 : decode cX7_sheet 18 = .ok (.bipush 16, 2) := by decide +kernel
theorem dX7_sheet_20 : decode cX7_sheet 20 = .ok (.if_icmp .eq 16, 3) := by decide +kernel
theorem dX7_sheet_23 : decode cX7_sheet 23 = .ok (.iload_n 2, 1) := by decide +kernel
theorem dX7_sheet_24 : decode cX7_sheet 24 = .ok (.bipush 64, 2) := by decide +kernel
theorem dX7_sheet_26 : decode cX7_sheet 26 = .ok (.if_icmp .eq 10, 3) := by decide +kernel
theorem dX7_sheet_29 : decode cX7_sheet 29 = .ok (.aload_n 0, 1) := by decide +kernel
theorem dX7_sheet_30 : decode cX7_sheet 30 = .ok (.ldc 44, 2) := by decide +kernel
theorem dX7_sheet_32 : decode cX7_sheet 32 = .ok (.invokevirtual 49, 3) := by decide +kernel
theorem dX7_sheet_35 : decode cX7_sheet 35 = .ok (.ireturn, 1) := by decide +kernel
theorem dX7_sheet_36 : decode cX7_sheet 36 = .ok (.iload_n 3, 1) := by decide +kernel
theorem dX7_sheet_37 : decode cX7_sheet 37 = .ok (.ifCond .ge 11, 3) := by decide +kernel
theorem dX7_sheet_40 : decode cX7_sheet 40 = .ok (.aload_n 0, 1) := by decide +kernel
theorem dX7_sheet_41 : decode cX7_sheet 41 = .ok (.ldc_w 310, 3) := by decide +kernel
theorem dX7_sheet_44 : decode cX7_sheet 44 = .ok (.invokevirtual 49, 3) := by decide +kernel
theorem dX7_sheet_47 : decode cX7_sheet 47 = .ok (.ireturn, 1) := by decide +kernel
theorem dX7_sheet_48 : decode cX7_sheet 48 = .ok (.iload_n 3, 1) := by decide +kernel
theorem dX7_sheet_49 : decode cX7_sheet 49 = .ok (.bipush 40, 2) := by decide +kernel
theorem dX7_sheet_51 : decode cX7_sheet 51 = .ok (.if_icmp .le 10, 3) := by decide +kernel
theorem dX7_sheet_54 : decode cX7_sheet 54 = .ok (.aload_n 0, 1) := by decide +kernel
theorem dX7_sheet_55 : decode cX7_sheet 55 = .ok (.ldc 44, 2) := by decide +kernel
theorem dX7_sheet_57 : decode cX7_sheet 57 = .ok (.invokevirtual 49, 3) := by decide +kernel
theorem dX7_sheet_60 : decode cX7_sheet 60 = .ok (.ireturn, 1) := by decide +kernel
theorem dX7_sheet_61 : decode cX7_sheet 61 = .ok (.aload_n 0, 1) := by decide +kernel
theorem dX7_sheet_62 : decode cX7_sheet 62 = .ok (.getfield 25, 3) := by decide +kernel
theorem dX7_sheet_65 : decode cX7_sheet 65 = .ok (.iload_n 1, 1) := by decide +kernel
theorem dX7_sheet_66 : decode cX7_sheet 66 = .ok (.iload_n 2, 1) := by decide +kernel
theorem dX7_sheet_67 : decode cX7_sheet 67 = .ok (.iastore, 1) := by decide +kernel
theorem dX7_sheet_68 : decode cX7_sheet 68 = .ok (.aload_n 0, 1) := by decide +kernel
theorem dX7_sheet_69 : decode cX7_sheet 69 = .ok (.getfield 28, 3) := by decide +kernel
theorem dX7_sheet_72 : decode cX7_sheet 72 = .ok (.iload_n 1, 1) := by decide +kernel
theorem dX7_sheet_73 : decode cX7_sheet 73 = .ok (.iload_n 2, 1) := by decide +kernel
theorem dX7_sheet_74 : decode cX7_sheet 74 = .ok (.ifCond .ne 7, 3) := by decide +kernel
theorem dX7_sheet_77 : decode cX7_sheet 77 = .ok (.iconst 0, 1) := by decide +kernel
theorem dX7_sheet_78 : decode cX7_sheet 78 = .ok (.goto 4, 3) := by decide +kernel
theorem dX7_sheet_81 : decode cX7_sheet 81 = .ok (.iload_n 3, 1) := by decide +kernel
theorem dX7_sheet_82 : decode cX7_sheet 82 = .ok (.iastore, 1) := by decide +kernel
theorem dX7_sheet_83 : decode cX7_sheet 83 = .ok (.iconst 0, 1) := by decide +kernel
theorem dX7_sheet_84 : decode cX7_sheet 84 = .ok (.istore 4, 2) := by decide +kernel
theorem dX7_sheet_86 : decode cX7_sheet 86 = .ok (.iload 4, 2) := by decide +kernel
theorem dX7_sheet_88 : decode cX7_sheet 88 = .ok (.bipush 40, 2) := by decide +kernel
theorem dX7_sheet_90 : decode cX7_sheet 90 = .ok (.if_icmp .ge 22, 3) := by decide +kernel
theorem dX7_sheet_93 : decode cX7_sheet 93 = .ok (.aload_n 0, 1) := by decide +kernel
theorem dX7_sheet_94 : decode cX7_sheet 94 = .ok (.getfield 31, 3) := by decide +kernel
theorem dX7_sheet_97 : decode cX7_sheet 97 = .ok (.bipush 40, 2) := by decide +kernel
theorem dX7_sheet_99 : decode cX7_sheet 99 = .ok (.iload_n 1, 1) := by decide +kernel
theorem dX7_sheet_100 : decode cX7_sheet 100 = .ok (.imul, 1) := by decide +kernel
theorem dX7_sheet_101 : decode cX7_sheet 101 = .ok (.iload 4, 2) := by decide +kernel
theorem dX7_sheet_103 : decode cX7_sheet 103 = .ok (.iadd, 1) := by decide +kernel
theorem dX7_sheet_104 : decode cX7_sheet 104 = .ok (.lconst 0, 1) := by decide +kernel
theorem dX7_sheet_105 : decode cX7_sheet 105 = .ok (.lastore, 1) := by decide +kernel
theorem dX7_sheet_106 : decode cX7_sheet 106 = .ok (.iinc 4 1, 3) := by decide +kernel
theorem dX7_sheet_109 : decode cX7_sheet 109 = .ok (.goto (-23), 3) := by decide +kernel
theorem dX7_sheet_112 : decode cX7_sheet 112 = .ok (.aload_n 0, 1) := by decide +kernel
theorem dX7_sheet_113 : decode cX7_sheet 113 = .ok (.getfield 28, 3) := by decide +kernel
theorem dX7_sheet_116 : decode cX7_sheet 116 = .ok (.iload_n 1, 1) := by decide +kernel
theorem dX7_sheet_117 : decode cX7_sheet 117 = .ok (.iaload, 1) := by decide +kernel
theorem dX7_sheet_118 : decode cX7_sheet 118 = .ok (.ireturn, 1) := by decide +kernel
theorem dX7_write_0 : decode cX7_write 0 = .ok (.iload_n 1, 1) := by decide +kernel
theorem dX7_write_1 : decode cX7_write 1 = .ok (.invokestatic 307, 3) := by decide +kernel
theorem dX7_write_4 : decode cX7_write 4 = .ok (.ifCond .ne 11, 3) := by decide +kernel
theorem dX7_write_7 : decode cX7_write 7 = .ok (.aload_n 0, 1) := by decide +kernel
theorem dX7_write_8 : decode cX7_write 8 = .ok (.ldc 44, 2) := by decide +kernel
theorem dX7_write_10 : decode cX7_write 10 = .ok (.invokevirtual 49, 3) := by decide +kernel
theorem dX7_write_13 : decode cX7_write 13 = .ok (.i2l, 1) := by decide +kernel
theorem dX7_write_14 : decode cX7_write 14 = .ok (.lreturn, 1) := by decide +kernel
theorem dX7_write_15 : decode cX7_write 15 = .ok (.aload_n 0, 1) := by decide +kernel
theorem dX7_write_16 : decode cX7_write 16 = .ok (.getfield 25, 3) := by decide +kernel
theorem dX7_write_19 : decode cX7_write 19 = .ok (.iload_n 1, 1) := by decide +kernel
theorem dX7_write_20 : decode cX7_write 20 = .ok (.iaload, 1) := by decide +kernel
theorem dX7_write_21 : decode cX7_write 21 = .ok (.ifCond .ne 12, 3) := by decide +kernel
theorem dX7_write_24 : decode cX7_write 24 = .ok (.aload_n 0, 1) := by decide +kernel
theorem dX7_write_25 : decode cX7_write 25 = .ok (.ldc_w 311, 3) := by decide +kernel
theorem dX7_write_28 : decode cX7_write 28 = .ok (.invokevirtual 49, 3) := by decide +kernel
theorem dX7_write_31 : decode cX7_write 31 = .ok (.i2l, 1) := by decide +kernel
theorem dX7_write_32 : decode cX7_write 32 = .ok (.lreturn, 1) := by decide +kernel
theorem dX7_write_33 : decode cX7_write 33 = .ok (.iload_n 2, 1) := by decide +kernel
theorem dX7_write_34 : decode cX7_write 34 = .ok (.iconst 0, 1) := by decide +kernel
theorem dX7_write_35 : decode cX7_write 35 = .ok (.aload_n 0, 1) := by decide +kernel
theorem dX7_write_36 : decode cX7_write 36 = .ok (.getfield 28, 3) := by decide +kernel
theorem dX7_write_39 : decode cX7_write 39 = .ok (.iload_n 1, 1) := by decide +kernel
theorem dX7_write_40 : decode cX7_write 40 = .ok (.iaload, 1) := by decide +kernel
theorem dX7_write_41 : decode cX7_write 41 = .ok (.iconst 1, 1) := by decide +kernel
theorem dX7_write_42 : decode cX7_write 42 = .ok (.isub, 1) := by decide +kernel
theorem dX7_write_43 : decode cX7_write 43 = .ok (.invokestatic 45, 3) := by decide +kernel
theorem dX7_write_46 : decode cX7_write 46 = .ok (.ifCond .ne 11, 3) := by decide +kernel
theorem dX7_write_49 : decode cX7_write 49 = .ok (.aload_n 0, 1) := by decide +kernel
theorem dX7_write_50 : decode cX7_write 50 = .ok (.ldc 44, 2) := by decide +kernel
theorem dX7_write_52 : decode cX7_write 52 = .ok (.invokevirtual 49, 3) := by decide +kernel
theorem dX7_write_55 : decode cX7_write 55 = .ok (.i2l, 1) := by decide +kernel
theorem dX7_write_56 : decode cX7_write 56 = .ok (.lreturn, 1) := by decide +kernel
theorem dX7_write_57 : decode cX7_write 57 = .ok (.aload_n 0, 1) := by decide +kernel
theorem dX7_write_58 : decode cX7_write 58 = .ok (.getfield 31, 3) := by decide +kernel
theorem dX7_write_61 : decode cX7_write 61 = .ok (.bipush 40, 2) := by decide +kernel
theorem dX7_write_63 : decode cX7_write 63 = .ok (.iload_n 1, 1) := by decide +kernel
theorem dX7_write_64 : decode cX7_write 64 = .ok (.imul, 1) := by decide +kernel
theorem dX7_write_65 : decode cX7_write 65 = .ok (.iload_n 2, 1) := by decide +kernel
theorem dX7_write_66 : decode cX7_write 66 = .ok (.iadd, 1) := by decide +kernel
theorem dX7_write_67 : decode cX7_write 67 = .ok (.laload, 1) := by decide +kernel
theorem dX7_write_68 : decode cX7_write 68 = .ok (.lstore 5, 2) := by decide +kernel
theorem dX7_write_70 : decode cX7_write 70 = .ok (.aload_n 0, 1) := by decide +kernel
theorem dX7_write_71 : decode cX7_write 71 = .ok (.getfield 31, 3) := by decide +kernel
theorem dX7_write_74 : decode cX7_write 74 = .ok (.bipush 40, 2) := by decide +kernel
theorem dX7_write_76 : decode cX7_write 76 = .ok (.iload_n 1, 1) := by decide +kernel
theorem dX7_write_77 : decode cX7_write 77 = .ok (.imul, 1) := by decide +kernel
theorem dX7_write_78 : decode cX7_write 78 = .ok (.iload_n 2, 1) := by decide +kernel
theorem dX7_write_79 : decode cX7_write 79 = .ok (.iadd, 1) := by decide +kernel
theorem dX7_write_80 : decode cX7_write 80 = .ok (.aload_n 0, 1) := by decide +kernel
theorem dX7_write_81 : decode cX7_write 81 = .ok (.getfield 25, 3) := by decide +kernel
theorem dX7_write_84 : decode cX7_write 84 = .ok (.iload_n 1, 1) := by decide +kernel
theorem dX7_write_85 : decode cX7_write 85 = .ok (.iaload, 1) := by decide +kernel
theorem dX7_write_86 : decode cX7_write 86 = .ok (.lload_n 3, 1) := by decide +kernel
theorem dX7_write_87 : decode cX7_write 87 = .ok (.invokestatic 312, 3) := by decide +kernel
theorem dX7_write_90 : decode cX7_write 90 = .ok (.lastore, 1) := by decide +kernel
theorem dX7_write_91 : decode cX7_write 91 = .ok (.lload 5, 2) := by decide +kernel
theorem dX7_write_93 : decode cX7_write 93 = .ok (.lreturn, 1) := by decide +kernel
theorem dX7_isPart_0 : decode cX7_isPart 0 = .ok (.iload_n 2, 1) := by decide +kernel
theorem dX7_isPart_1 : decode cX7_isPart 1 = .ok (.ifCond .lt 33, 3) := by decide +kernel
theorem dX7_isPart_4 : decode cX7_isPart 4 = .ok (.iload_n 3, 1) := by decide +kernel
theorem dX7_isPart_5 : decode cX7_isPart 5 = .ok (.ifCond .lt 29, 3) := by decide +kernel
theorem dX7_isPart_8 : decode cX7_isPart 8 = .ok (.iload_n 3, 1) := by decide +kernel
theorem dX7_isPart_9 : decode cX7_isPart 9 = .ok (.aload_n 0, 1) := by decide +kernel
theorem dX7_isPart_10 : decode cX7_isPart 10 = .ok (.getfield 28, 3) := by decide +kernel
theorem dX7_isPart_13 : decode cX7_isPart 13 = .ok (.iload_n 1, 1) := by decide +kernel
theorem dX7_isPart_14 : decode cX7_isPart 14 = .ok (.iaload, 1) := by decide +kernel
theorem dX7_isPart_15 : decode cX7_isPart 15 = .ok (.if_icmp .gt 19, 3) := by decide +kernel
theorem dX7_isPart_18 : decode cX7_isPart 18 = .ok (.iload_n 2, 1) := by decide +kernel
theorem dX7_isPart_19 : decode cX7_isPart 19 = .ok (.aload_n 0, 1) := by decide +kernel
theorem dX7_isPart_20 : decode cX7_isPart 20 = .ok (.getfield 28, 3) := by decide +kernel
theorem dX7_isPart_23 : decode cX7_isPart 23 = .ok (.iload_n 1, 1) := by decide +kernel
theorem dX7_isPart_24 : decode cX7_isPart 24 = .ok (.iaload, 1) := by decide +kernel
theorem dX7_isPart_25 : decode cX7_isPart 25 = .ok (.iload_n 3, 1) := by decide +kernel
theorem dX7_isPart_26 : decode cX7_isPart 26 = .ok (.isub, 1) := by decide +kernel
theorem dX7_isPart_27 : decode cX7_isPart 27 = .ok (.if_icmp .gt 7, 3) := by decide +kernel
theorem dX7_isPart_30 : decode cX7_isPart 30 = .ok (.iconst 1, 1) := by decide +kernel
theorem dX7_isPart_31 : decode cX7_isPart 31 = .ok (.goto 4, 3) := by decide +kernel
theorem dX7_isPart_34 : decode cX7_isPart 34 = .ok (.iconst 0, 1) := by decide +kernel
theorem dX7_isPart_35 : decode cX7_isPart 35 = .ok (.ireturn, 1) := by decide +kernel
theorem dX7_copy_0 : decode cX7_copy 0 = .ok (.iload_n 1, 1) := by decide +kernel
theorem dX7_copy_1 : decode cX7_copy 1 = .ok (.invokestatic 307, 3) := by decide +kernel
theorem dX7_copy_4 : decode cX7_copy 4 = .ok (.ifCond .eq 10, 3) := by decide +kernel
theorem dX7_copy_7 : decode cX7_copy 7 = .ok (.iload_n 3, 1) := by decide +kernel
theorem dX7_copy_8 : decode cX7_copy 8 = .ok (.invokestatic 307, 3) := by decide +kernel
theorem dX7_copy_11 : decode cX7_copy 11 = .ok (.ifCond .ne 10, 3) := by decide +kernel
theorem dX7_copy_14 : decode cX7_copy 14 = .ok (.aload_n 0, 1) := by decide +kernel
theorem dX7_copy_15 : decode cX7_copy 15 = .ok (.ldc 44, 2) := by decide +kernel
theorem dX7_copy_17 : decode cX7_copy 17 = .ok (.invokevirtual 49, 3) := by decide +kernel
theorem dX7_copy_20 : decode cX7_copy 20 = .ok (.ireturn, 1) := by decide +kernel
theorem dX7_copy_21 : decode cX7_copy 21 = .ok (.aload_n 0, 1) := by decide +kernel
theorem dX7_copy_22 : decode cX7_copy 22 = .ok (.getfield 25, 3) := by decide +kernel
theorem dX7_copy_25 : decode cX7_copy 25 = .ok (.iload_n 1, 1) := by decide +kernel
theorem dX7_copy_26 : decode cX7_copy 26 = .ok (.iaload, 1) := by decide +kernel
theorem dX7_copy_27 : decode cX7_copy 27 = .ok (.ifCond .eq 12, 3) := by decide +kernel
theorem dX7_copy_30 : decode cX7_copy 30 = .ok (.aload_n 0, 1) := by decide +kernel
theorem dX7_copy_31 : decode cX7_copy 31 = .ok (.getfield 25, 3) := by decide +kernel
theorem dX7_copy_34 : decode cX7_copy 34 = .ok (.iload_n 3, 1) := by decide +kernel
theorem dX7_copy_35 : decode cX7_copy 35 = .ok (.iaload, 1) := by decide +kernel
theorem dX7_copy_36 : decode cX7_copy 36 = .ok (.ifCond .ne 11, 3) := by decide +kernel
theorem dX7_copy_39 : decode cX7_copy 39 = .ok (.aload_n 0, 1) := by decide +kernel
theorem dX7_copy_40 : decode cX7_copy 40 = .ok (.ldc_w 311, 3) := by decide +kernel
theorem dX7_copy_43 : decode cX7_copy 43 = .ok (.invokevirtual 49, 3) := by decide +kernel
theorem dX7_copy_46 : decode cX7_copy 46 = .ok (.ireturn, 1) := by decide +kernel
theorem dX7_copy_47 : decode cX7_copy 47 = .ok (.aload_n 0, 1) := by decide +kernel
theorem dX7_copy_48 : decode cX7_copy 48 = .ok (.getfield 25, 3) := by decide +kernel
theorem dX7_copy_51 : decode cX7_copy 51 = .ok (.iload_n 1, 1) := by decide +kernel
theorem dX7_copy_52 : decode cX7_copy 52 = .ok (.iaload, 1) := by decide +kernel
theorem dX7_copy_53 : decode cX7_copy 53 = .ok (.aload_n 0, 1) := by decide +kernel
theorem dX7_copy_54 : decode cX7_copy 54 = .ok (.getfield 25, 3) := by decide +kernel
theorem dX7_copy_57 : decode cX7_copy 57 = .ok (.iload_n 3, 1) := by decide +kernel
theorem dX7_copy_58 : decode cX7_copy 58 = .ok (.iaload, 1) := by decide +kernel
theorem dX7_copy_59 : decode cX7_copy 59 = .ok (.if_icmp .eq 10, 3) := by decide +kernel
theorem dX7_copy_62 : decode cX7_copy 62 = .ok (.aload_n 0, 1) := by decide +kernel
theorem dX7_copy_63 : decode cX7_copy 63 = .ok (.ldc 172, 2) := by decide +kernel
theorem dX7_copy_65 : decode cX7_copy 65 = .ok (.invokevirtual 49, 3) := by decide +kernel
theorem dX7_copy_68 : decode cX7_copy 68 = .ok (.ireturn, 1) := by decide +kernel
theorem dX7_copy_69 : decode cX7_copy 69 = .ok (.aload_n 0, 1) := by decide +kernel
theorem dX7_copy_70 : decode cX7_copy 70 = .ok (.iload_n 1, 1) := by decide +kernel
theorem dX7_copy_71 : decode cX7_copy 71 = .ok (.iload_n 2, 1) := by decide +kernel
theorem dX7_copy_72 : decode cX7_copy 72 = .ok (.iload 5, 2) := by decide +kernel
theorem dX7_copy_74 : decode cX7_copy 74 = .ok (.invokevirtual 316, 3) := by decide +kernel
theorem dX7_copy_77 : decode cX7_copy 77 = .ok (.ifCond .eq 15, 3) := by decide +kernel
theorem dX7_copy_80 : decode cX7_copy 80 = .ok (.aload_n 0, 1) := by decide +kernel
theorem dX7_copy_81 : decode cX7_copy 81 = .ok (.iload_n 3, 1) := by decide +kernel
theorem dX7_copy_82 : decode cX7_copy 82 = .ok (.iload 4, 2) := by decide +kernel
theorem dX7_copy_84 : decode cX7_copy 84 = .ok (.iload 5, 2) := by decide +kernel
theorem dX7_copy_86 : decode cX7_copy 86 = .ok (.invokevirtual 316, 3) := by decide +kernel
theorem dX7_copy_89 : decode cX7_copy 89 = .ok (.ifCond .ne 10, 3) := by decide +kernel
theorem dX7_copy_92 : decode cX7_copy 92 = .ok (.aload_n 0, 1) := by decide +kernel
theorem dX7_copy_93 : decode cX7_copy 93 = .ok (.ldc 44, 2) := by decide +kernel
theorem dX7_copy_95 : decode cX7_copy 95 = .ok (.invokevirtual 49, 3) := by decide +kernel
theorem dX7_copy_98 : decode cX7_copy 98 = .ok (.ireturn, 1) := by decide +kernel
theorem dX7_copy_99 : decode cX7_copy 99 = .ok (.iconst 0, 1) := by decide +kernel
theorem dX7_copy_100 : decode cX7_copy 100 = .ok (.istore 6, 2) := by decide +kernel
theorem dX7_copy_102 : decode cX7_copy 102 = .ok (.iload 6, 2) := by decide +kernel
theorem dX7_copy_104 : decode cX7_copy 104 = .ok (.iload 5, 2) := by decide +kernel
theorem dX7_copy_106 : decode cX7_copy 106 = .ok (.if_icmp .ge 30, 3) := by decide +kernel
theorem dX7_copy_109 : decode cX7_copy 109 = .ok (.aload_n 0, 1) := by decide +kernel
theorem dX7_copy_110 : decode cX7_copy 110 = .ok (.getfield 35, 3) := by decide +kernel
theorem dX7_copy_113 : decode cX7_copy 113 = .ok (.iload 6, 2) := by decide +kernel
theorem dX7_copy_115 : decode cX7_copy 115 = .ok (.aload_n 0, 1) := by decide +kernel
theorem dX7_copy_116 : decode cX7_copy 116 = .ok (.getfield 31, 3) := by decide +kernel
theorem dX7_copy_119 : decode cX7_copy 119 = .ok (.bipush 40, 2) := by decide +kernel
theorem dX7_copy_121 : decode cX7_copy 121 = .ok (.iload_n 1, 1) := by decide +kernel
theorem dX7_copy_122 : decode cX7_copy 122 = .ok (.imul, 1) := by decide +kernel
theorem dX7_copy_123 : decode cX7_copy 123 = .ok (.iload_n 2, 1) := by decide +kernel
theorem dX7_copy_124 : decode cX7_copy 124 = .ok (.iadd, 1) := by decide +kernel
theorem dX7_copy_125 : decode cX7_copy 125 = .ok (.iload 6, 2) := by decide +kernel
theorem dX7_copy_127 : decode cX7_copy 127 = .ok (.iadd, 1) := by decide +kernel
theorem dX7_copy_128 : decode cX7_copy 128 = .ok (.laload, 1) := by decide +kernel
theorem dX7_copy_129 : decode cX7_copy 129 = .ok (.lastore, 1) := by decide +kernel
theorem dX7_copy_130 : decode cX7_copy 130 = .ok (.iinc 6 1, 3) := by decide +kernel
theorem dX7_copy_133 : decode cX7_copy 133 = .ok (.goto (-31), 3) := by decide +kernel
theorem dX7_copy_136 : decode cX7_copy 136 = .ok (.iconst 0, 1) := by decide +kernel
theorem dX7_copy_137 : decode cX7_copy 137 = .ok (.istore 6, 2) := by decide +kernel
theorem dX7_copy_139 : decode cX7_copy 139 = .ok (.iload 6, 2) := by decide +kernel
theorem dX7_copy_141 : decode cX7_copy 141 = .ok (.iload 5, 2) := by decide +kernel
theorem dX7_copy_143 : decode cX7_copy 143 = .ok (.if_icmp .ge 31, 3) := by decide +kernel
theorem dX7_copy_146 : decode cX7_copy 146 = .ok (.aload_n 0, 1) := by decide +kernel
theorem dX7_copy_147 : decode cX7_copy 147 = .ok (.getfield 31, 3) := by decide +kernel
theorem dX7_copy_150 : decode cX7_copy 150 = .ok (.bipush 40, 2) := by decide +kernel
theorem dX7_copy_152 : decode cX7_copy 152 = .ok (.iload_n 3, 1) := by decide +kernel
theorem dX7_copy_153 : decode cX7_copy 153 = .ok (.imul, 1) := by decide +kernel
theorem dX7_copy_154 : decode cX7_copy 154 = .ok (.iload 4, 2) := by decide +kernel
theorem dX7_copy_156 : decode cX7_copy 156 = .ok (.iadd, 1) := by decide +kernel
theorem dX7_copy_157 : decode cX7_copy 157 = .ok (.iload 6, 2) := by decide +kernel
theorem dX7_copy_159 : decode cX7_copy 159 = .ok (.iadd, 1) := by decide +kernel
theorem dX7_copy_160 : decode cX7_copy 160 = .ok (.aload_n 0, 1) := by decide +kernel
theorem dX7_copy_161 : decode cX7_copy 161 = .ok (.getfield 35, 3) := by decide +kernel
theorem dX7_copy_164 : decode cX7_copy 164 = .ok (.iload 6, 2) := by decide +kernel
theorem dX7_copy_166 : decode cX7_copy 166 = .ok (.laload, 1) := by decide +kernel
theorem dX7_copy_167 : decode cX7_copy 167 = .ok (.lastore, 1) := by decide +kernel
theorem dX7_copy_168 : decode cX7_copy 168 = .ok (.iinc 6 1, 3) := by decide +kernel
theorem dX7_copy_171 : decode cX7_copy 171 = .ok (.goto (-32), 3) := by decide +kernel
theorem dX7_copy_174 : decode cX7_copy 174 = .ok (.iload 5, 2) := by decide +kernel
theorem dX7_copy_176 : decode cX7_copy 176 = .ok (.ireturn, 1) := by decide +kernel
theorem dX7_lays_0 : decode cX7_lays 0 = .ok (.iload_n 1, 1) := by decide +kernel
theorem dX7_lays_1 : decode cX7_lays 1 = .ok (.invokestatic 307, 3) := by decide +kernel
theorem dX7_lays_4 : decode cX7_lays 4 = .ok (.ifCond .ne 10, 3) := by decide +kernel
theorem dX7_lays_7 : decode cX7_lays 7 = .ok (.aload_n 0, 1) := by decide +kernel
theorem dX7_lays_8 : decode cX7_lays 8 = .ok (.ldc 44, 2) := by decide +kernel
theorem dX7_lays_10 : decode cX7_lays 10 = .ok (.invokevirtual 49, 3) := by decide +kernel
theorem dX7_lays_13 : decode cX7_lays 13 = .ok (.ireturn, 1) := by decide +kernel
theorem dX7_lays_14 : decode cX7_lays 14 = .ok (.aload_n 0, 1) := by decide +kernel
theorem dX7_lays_15 : decode cX7_lays 15 = .ok (.getfield 25, 3) := by decide +kernel
theorem dX7_lays_18 : decode cX7_lays 18 = .ok (.iload_n 1, 1) := by decide +kernel
theorem dX7_lays_19 : decode cX7_lays 19 = .ok (.iaload, 1) := by decide +kernel
theorem dX7_lays_20 : decode cX7_lays 20 = .ok (.ifCond .ne 11, 3) := by decide +kernel
theorem dX7_lays_23 : decode cX7_lays 23 = .ok (.aload_n 0, 1) := by decide +kernel
theorem dX7_lays_24 : decode cX7_lays 24 = .ok (.ldc_w 311, 3) := by decide +kernel
theorem dX7_lays_27 : decode cX7_lays 27 = .ok (.invokevirtual 49, 3) := by decide +kernel
theorem dX7_lays_30 : decode cX7_lays 30 = .ok (.ireturn, 1) := by decide +kernel
theorem dX7_lays_31 : decode cX7_lays 31 = .ok (.iconst 0, 1) := by decide +kernel
theorem dX7_lays_32 : decode cX7_lays 32 = .ok (.istore_n 2, 1) := by decide +kernel
theorem dX7_lays_33 : decode cX7_lays 33 = .ok (.iconst 0, 1) := by decide +kernel
theorem dX7_lays_34 : decode cX7_lays 34 = .ok (.istore_n 3, 1) := by decide +kernel
theorem dX7_lays_35 : decode cX7_lays 35 = .ok (.iload_n 3, 1) := by decide +kernel
theorem dX7_lays_36 : decode cX7_lays 36 = .ok (.aload_n 0, 1) := by decide +kernel
theorem dX7_lays_37 : decode cX7_lays 37 = .ok (.getfield 7, 3) := by decide +kernel
theorem dX7_lays_40 : decode cX7_lays 40 = .ok (.iconst 0, 1) := by decide +kernel
theorem dX7_lays_41 : decode cX7_lays 41 = .ok (.iaload, 1) := by decide +kernel
theorem dX7_lays_42 : decode cX7_lays 42 = .ok (.if_icmp .ge 64, 3) := by decide +kernel
theorem dX7_lays_45 : decode cX7_lays 45 = .ok (.iload_n 3, 1) := by decide +kernel
theorem dX7_lays_46 : decode cX7_lays 46 = .ok (.aload_n 0, 1) := by decide +kernel
theorem dX7_lays_47 : decode cX7_lays 47 = .ok (.getfield 28, 3) := by decide +kernel
theorem dX7_lays_50 : decode cX7_lays 50 = .ok (.iload_n 1, 1) := by decide +kernel
theorem dX7_lays_51 : decode cX7_lays 51 = .ok (.iaload, 1) := by decide +kernel
theorem dX7_lays_52 : decode cX7_lays 52 = .ok (.if_icmp .ge 54, 3) := by decide +kernel
theorem dX7_lays_55 : decode cX7_lays 55 = .ok (.aload_n 0, 1) := by decide +kernel
theorem dX7_lays_56 : decode cX7_lays 56 = .ok (.getfield 31, 3) := by decide +kernel
theorem dX7_lays_59 : decode cX7_lays 59 = .ok (.bipush 40, 2) := by decide +kernel
theorem dX7_lays_61 : decode cX7_lays 61 = .ok (.iload_n 1, 1) := by decide +kernel
theorem dX7_lays_62 : decode cX7_lays 62 = .ok (.imul, 1) := by decide +kernel
theorem dX7_lays_63 : decode cX7_lays 63 = .ok (.iload_n 3, 1) := by decide +kernel
theorem dX7_lays_64 : decode cX7_lays 64 = .ok (.iadd, 1) := by decide +kernel
theorem dX7_lays_65 : decode cX7_lays 65 = .ok (.laload, 1) := by decide +kernel
theorem dX7_lays_66 : decode cX7_lays 66 = .ok (.lstore 4, 2) := by decide +kernel
theorem dX7_lays_68 : decode cX7_lays 68 = .ok (.lload 4, 2) := by decide +kernel
theorem dX7_lays_70 : decode cX7_lays 70 = .ok (.lconst 0, 1) := by decide +kernel
theorem dX7_lays_71 : decode cX7_lays 71 = .ok (.lcmp, 1) := by decide +kernel
theorem dX7_lays_72 : decode cX7_lays 72 = .ok (.ifCond .lt 28, 3) := by decide +kernel
theorem dX7_lays_75 : decode cX7_lays 75 = .ok (.lload 4, 2) := by decide +kernel
theorem dX7_lays_77 : decode cX7_lays 77 = .ok (.ldc2_w 319, 3) := by decide +kernel
theorem dX7_lays_80 : decode cX7_lays 80 = .ok (.lcmp, 1) := by decide +kernel
theorem dX7_lays_81 : decode cX7_lays 81 = .ok (.ifCond .gt 19, 3) := by decide +kernel
theorem dX7_lays_84 : decode cX7_lays 84 = .ok (.aload_n 0, 1) := by decide +kernel
theorem dX7_lays_85 : decode cX7_lays 85 = .ok (.getfield 7, 3) := by decide +kernel
theorem dX7_lays_88 : decode cX7_lays 88 = .ok (.iconst 5, 1) := by decide +kernel
theorem dX7_lays_89 : decode cX7_lays 89 = .ok (.iconst 2, 1) := by decide +kernel
theorem dX7_lays_90 : decode cX7_lays 90 = .ok (.iload_n 3, 1) := by decide +kernel
theorem dX7_lays_91 : decode cX7_lays 91 = .ok (.imul, 1) := by decide +kernel
theorem dX7_lays_92 : decode cX7_lays 92 = .ok (.iadd, 1) := by decide +kernel
theorem dX7_lays_93 : decode cX7_lays 93 = .ok (.lload 4, 2) := by decide +kernel
theorem dX7_lays_95 : decode cX7_lays 95 = .ok (.l2i, 1) := by decide +kernel
theorem dX7_lays_96 : decode cX7_lays 96 = .ok (.iastore, 1) := by decide +kernel
theorem dX7_lays_97 : decode cX7_lays 97 = .ok (.iinc 2 1, 3) := by decide +kernel
theorem dX7_lays_100 : decode cX7_lays 100 = .ok (.iinc 3 1, 3) := by decide +kernel
theorem dX7_lays_103 : decode cX7_lays 103 = .ok (.goto (-68), 3) := by decide +kernel
theorem dX7_lays_106 : decode cX7_lays 106 = .ok (.iload_n 2, 1) := by decide +kernel
theorem dX7_lays_107 : decode cX7_lays 107 = .ok (.ireturn, 1) := by decide +kernel
theorem dX7_table_0 : decode cX7_table 0 = .ok (.iload_n 1, 1) := by decide +kernel
theorem dX7_table_1 : decode cX7_table 1 = .ok (.invokestatic 307, 3) := by decide +kernel
theorem dX7_table_4 : decode cX7_table 4 = .ok (.ifCond .ne 8, 3) := by decide +kernel
theorem dX7_table_7 : decode cX7_table 7 = .ok (.ldc 44, 2) := by decide +kernel
theorem dX7_table_9 : decode cX7_table 9 = .ok (.goto 39, 3) := by decide +kernel
theorem dX7_table_12 : decode cX7_table 12 = .ok (.aload_n 0, 1) := by decide +kernel
theorem dX7_table_13 : decode cX7_table 13 = .ok (.getfield 25, 3) := by decide +kernel
theorem dX7_table_16 : decode cX7_table 16 = .ok (.iload_n 1, 1) := by decide +kernel
theorem dX7_table_17 : decode cX7_table 17 = .ok (.iaload, 1) := by decide +kernel
theorem dX7_table_18 : decode cX7_table 18 = .ok (.ifCond .ne 9, 3) := by decide +kernel
theorem dX7_table_21 : decode cX7_table 21 = .ok (.ldc_w 311, 3) := by decide +kernel
theorem dX7_table_24 : decode cX7_table 24 = .ok (.goto 24, 3) := by decide +kernel
theorem dX7_table_27 : decode cX7_table 27 = .ok (.iload_n 2, 1) := by decide +kernel
theorem dX7_table_28 : decode cX7_table 28 = .ok (.invokestatic 100, 3) := by decide +kernel
theorem dX7_table_31 : decode cX7_table 31 = .ok (.ifCond .eq 11, 3) := by decide +kernel
theorem dX7_table_34 : decode cX7_table 34 = .ok (.aload_n 0, 1) := by decide +kernel
theorem dX7_table_35 : decode cX7_table 35 = .ok (.iload_n 3, 1) := by decide +kernel
theorem dX7_table_36 : decode cX7_table 36 = .ok (.invokevirtual 65, 3) := by decide +kernel
theorem dX7_table_39 : decode cX7_table 39 = .ok (.ifCond .ne 8, 3) := by decide +kernel
theorem dX7_table_42 : decode cX7_table 42 = .ok (.ldc 44, 2) := by decide +kernel
theorem dX7_table_44 : decode cX7_table 44 = .ok (.goto 4, 3) := by decide +kernel
theorem dX7_table_47 : decode cX7_table 47 = .ok (.iconst 0, 1) := by decide +kernel
theorem dX7_table_48 : decode cX7_table 48 = .ok (.istore 4, 2) := by decide +kernel
theorem dX7_table_50 : decode cX7_table 50 = .ok (.iload 4, 2) := by decide +kernel
theorem dX7_table_52 : decode cX7_table 52 = .ok (.ifCond .eq 10, 3) := by decide +kernel
theorem dX7_table_55 : decode cX7_table 55 = .ok (.aload_n 0, 1) := by decide +kernel
theorem dX7_table_56 : decode cX7_table 56 = .ok (.iload 4, 2) := by decide +kernel
theorem dX7_table_58 : decode cX7_table 58 = .ok (.invokevirtual 49, 3) := by decide +kernel
theorem dX7_table_61 : decode cX7_table 61 = .ok (.ireturn, 1) := by decide +kernel
theorem dX7_table_62 : decode cX7_table 62 = .ok (.aload_n 0, 1) := by decide +kernel
theorem dX7_table_63 : decode cX7_table 63 = .ok (.iload_n 2, 1) := by decide +kernel
theorem dX7_table_64 : decode cX7_table 64 = .ok (.iload_n 3, 1) := by decide +kernel
theorem dX7_table_65 : decode cX7_table 65 = .ok (.aload_n 0, 1) := by decide +kernel
theorem dX7_table_66 : decode cX7_table 66 = .ok (.getfield 7, 3) := by decide +kernel
theorem dX7_table_69 : decode cX7_table 69 = .ok (.iconst 4, 1) := by decide +kernel
theorem dX7_table_70 : decode cX7_table 70 = .ok (.iaload, 1) := by decide +kernel
theorem dX7_table_71 : decode cX7_table 71 = .ok (.iconst 1, 1) := by decide +kernel
theorem dX7_table_72 : decode cX7_table 72 = .ok (.invokevirtual 125, 3) := by decide +kernel
theorem dX7_table_75 : decode cX7_table 75 = .ok (.iconst 0, 1) := by decide +kernel
theorem dX7_table_76 : decode cX7_table 76 = .ok (.istore 5, 2) := by decide +kernel
theorem dX7_table_78 : decode cX7_table 78 = .ok (.iload 5, 2) := by decide +kernel
theorem dX7_table_80 : decode cX7_table 80 = .ok (.aload_n 0, 1) := by decide +kernel
theorem dX7_table_81 : decode cX7_table 81 = .ok (.getfield 7, 3) := by decide +kernel
theorem dX7_table_84 : decode cX7_table 84 = .ok (.iconst 0, 1) := by decide +kernel
theorem dX7_table_85 : decode cX7_table 85 = .ok (.iaload, 1) := by decide +kernel
theorem dX7_table_86 : decode cX7_table 86 = .ok (.if_icmp .ge 74, 3) := by decide +kernel
theorem dX7_table_89 : decode cX7_table 89 = .ok (.iload 5, 2) := by decide +kernel
theorem dX7_table_91 : decode cX7_table 91 = .ok (.aload_n 0, 1) := by decide +kernel
theorem dX7_table_92 : decode cX7_table 92 = .ok (.getfield 28, 3) := by decide +kernel
theorem dX7_table_95 : decode cX7_table 95 = .ok (.iload_n 1, 1) := by decide +kernel
theorem dX7_table_96 : decode cX7_table 96 = .ok (.iaload, 1) := by decide +kernel
theorem dX7_table_97 : decode cX7_table 97 = .ok (.if_icmp .ge 63, 3) := by decide +kernel
theorem dX7_table_100 : decode cX7_table 100 = .ok (.aload_n 0, 1) := by decide +kernel
theorem dX7_table_101 : decode cX7_table 101 = .ok (.getfield 31, 3) := by decide +kernel
theorem dX7_table_104 : decode cX7_table 104 = .ok (.bipush 40, 2) := by decide +kernel
theorem dX7_table_106 : decode cX7_table 106 = .ok (.iload_n 1, 1) := by decide +kernel
theorem dX7_table_107 : decode cX7_table 107 = .ok (.imul, 1) := by decide +kernel
theorem dX7_table_108 : decode cX7_table 108 = .ok (.iload 5, 2) := by decide +kernel
theorem dX7_table_110 : decode cX7_table 110 = .ok (.iadd, 1) := by decide +kernel
theorem dX7_table_111 : decode cX7_table 111 = .ok (.aload_n 0, 1) := by decide +kernel
theorem dX7_table_112 : decode cX7_table 112 = .ok (.getfield 25, 3) := by decide +kernel
theorem dX7_table_115 : decode cX7_table 115 = .ok (.iload_n 1, 1) := by decide +kernel
theorem dX7_table_116 : decode cX7_table 116 = .ok (.iaload, 1) := by decide +kernel
theorem dX7_table_117 : decode cX7_table 117 = .ok (.aload_n 0, 1) := by decide +kernel
theorem dX7_table_118 : decode cX7_table 118 = .ok (.getfield 16, 3) := by decide +kernel
theorem dX7_table_121 : decode cX7_table 121 = .ok (.iload 5, 2) := by decide +kernel
theorem dX7_table_123 : decode cX7_table 123 = .ok (.iaload, 1) := by decide +kernel
theorem dX7_table_124 : decode cX7_table 124 = .ok (.ldc 109, 2) := by decide +kernel
theorem dX7_table_126 : decode cX7_table 126 = .ok (.if_icmp .ne 9, 3) := by decide +kernel
theorem dX7_table_129 : decode cX7_table 129 = .ok (.ldc2_w 236, 3) := by decide +kernel
theorem dX7_table_132 : decode cX7_table 132 = .ok (.goto 18, 3) := by decide +kernel
theorem dX7_table_135 : decode cX7_table 135 = .ok (.aload_n 0, 1) := by decide +kernel
theorem dX7_table_136 : decode cX7_table 136 = .ok (.getfield 16, 3) := by decide +kernel
theorem dX7_table_139 : decode cX7_table 139 = .ok (.iload 5, 2) := by decide +kernel
theorem dX7_table_141 : decode cX7_table 141 = .ok (.iaload, 1) := by decide +kernel
theorem dX7_table_142 : decode cX7_table 142 = .ok (.aload_n 0, 1) := by decide +kernel
theorem dX7_table_143 : decode cX7_table 143 = .ok (.getfield 7, 3) := by decide +kernel
theorem dX7_table_146 : decode cX7_table 146 = .ok (.iconst 4, 1) := by decide +kernel
theorem dX7_table_147 : decode cX7_table 147 = .ok (.iaload, 1) := by decide +kernel
theorem dX7_table_148 : decode cX7_table 148 = .ok (.isub, 1) := by decide +kernel
theorem dX7_table_149 : decode cX7_table 149 = .ok (.i2l, 1) := by decide +kernel
theorem dX7_table_150 : decode cX7_table 150 = .ok (.invokestatic 312, 3) := by decide +kernel
theorem dX7_table_153 : decode cX7_table 153 = .ok (.lastore, 1) := by decide +kernel
theorem dX7_table_154 : decode cX7_table 154 = .ok (.iinc 5 1, 3) := by decide +kernel
theorem dX7_table_157 : decode cX7_table 157 = .ok (.goto (-79), 3) := by decide +kernel
theorem dX7_table_160 : decode cX7_table 160 = .ok (.iload 5, 2) := by decide +kernel
theorem dX7_table_162 : decode cX7_table 162 = .ok (.ireturn, 1) := by decide +kernel
theorem dX7_read_0 : decode cX7_read 0 = .ok (.iload_n 1, 1) := by decide +kernel
theorem dX7_read_1 : decode cX7_read 1 = .ok (.invokestatic 307, 3) := by decide +kernel
theorem dX7_read_4 : decode cX7_read 4 = .ok (.ifCond .ne 8, 3) := by decide +kernel
theorem dX7_read_7 : decode cX7_read 7 = .ok (.ldc 44, 2) := by decide +kernel
theorem dX7_read_9 : decode cX7_read 9 = .ok (.goto 31, 3) := by decide +kernel
theorem dX7_read_12 : decode cX7_read 12 = .ok (.aload_n 0, 1) := by decide +kernel
theorem dX7_read_13 : decode cX7_read 13 = .ok (.getfield 25, 3) := by decide +kernel
theorem dX7_read_16 : decode cX7_read 16 = .ok (.iload_n 1, 1) := by decide +kernel
theorem dX7_read_17 : decode cX7_read 17 = .ok (.iaload, 1) := by decide +kernel
theorem dX7_read_18 : decode cX7_read 18 = .ok (.ifCond .ne 9, 3) := by decide +kernel
theorem dX7_read_21 : decode cX7_read 21 = .ok (.ldc_w 311, 3) := by decide +kernel
theorem dX7_read_24 : decode cX7_read 24 = .ok (.goto 16, 3) := by decide +kernel
theorem dX7_read_27 : decode cX7_read 27 = .ok (.iload_n 2, 1) := by decide +kernel
theorem dX7_read_28 : decode cX7_read 28 = .ok (.invokestatic 100, 3) := by decide +kernel
theorem dX7_read_31 : decode cX7_read 31 = .ok (.ifCond .ne 8, 3) := by decide +kernel
theorem dX7_read_34 : decode cX7_read 34 = .ok (.ldc 44, 2) := by decide +kernel
theorem dX7_read_36 : decode cX7_read 36 = .ok (.goto 4, 3) := by decide +kernel
theorem dX7_read_39 : decode cX7_read 39 = .ok (.iconst 0, 1) := by decide +kernel
theorem dX7_read_40 : decode cX7_read 40 = .ok (.istore_n 3, 1) := by decide +kernel
theorem dX7_read_41 : decode cX7_read 41 = .ok (.iload_n 3, 1) := by decide +kernel
theorem dX7_read_42 : decode cX7_read 42 = .ok (.ifCond .eq 9, 3) := by decide +kernel
theorem dX7_read_45 : decode cX7_read 45 = .ok (.aload_n 0, 1) := by decide +kernel
theorem dX7_read_46 : decode cX7_read 46 = .ok (.iload_n 3, 1) := by decide +kernel
theorem dX7_read_47 : decode cX7_read 47 = .ok (.invokevirtual 49, 3) := by decide +kernel
theorem dX7_read_50 : decode cX7_read 50 = .ok (.ireturn, 1) := by decide +kernel
theorem dX7_read_51 : decode cX7_read 51 = .ok (.iconst 0, 1) := by decide +kernel
theorem dX7_read_52 : decode cX7_read 52 = .ok (.istore 4, 2) := by decide +kernel
theorem dX7_read_54 : decode cX7_read 54 = .ok (.iconst (-1), 1) := by decide +kernel
theorem dX7_read_55 : decode cX7_read 55 = .ok (.istore 5, 2) := by decide +kernel
theorem dX7_read_57 : decode cX7_read 57 = .ok (.iconst 0, 1) := by decide +kernel
theorem dX7_read_58 : decode cX7_read 58 = .ok (.istore 6, 2) := by decide +kernel
theorem dX7_read_60 : decode cX7_read 60 = .ok (.iload 6, 2) := by decide +kernel
theorem dX7_read_62 : decode cX7_read 62 = .ok (.aload_n 0, 1) := by decide +kernel
theorem dX7_read_63 : decode cX7_read 63 = .ok (.getfield 28, 3) := by decide +kernel
theorem dX7_read_66 : decode cX7_read 66 = .ok (.iload_n 1, 1) := by decide +kernel
theorem dX7_read_67 : decode cX7_read 67 = .ok (.iaload, 1) := by decide +kernel
theorem dX7_read_68 : decode cX7_read 68 = .ok (.if_icmp .ge 128, 3) := by decide +kernel
theorem dX7_read_71 : decode cX7_read 71 = .ok (.iload 4, 2) := by decide +kernel
theorem dX7_read_73 : decode cX7_read 73 = .ok (.ifCond .ne 123, 3) := by decide +kernel
theorem dX7_read_76 : decode cX7_read 76 = .ok (.aload_n 0, 1) := by decide +kernel
theorem dX7_read_77 : decode cX7_read 77 = .ok (.getfield 31, 3) := by decide +kernel
theorem dX7_read_80 : decode cX7_read 80 = .ok (.bipush 40, 2) := by decide +kernel
theorem dX7_read_82 : decode cX7_read 82 = .ok (.iload_n 1, 1) := by decide +kernel
theorem dX7_read_83 : decode cX7_read 83 = .ok (.imul, 1) := by decide +kernel
theorem dX7_read_84 : decode cX7_read 84 = .ok (.iload 6, 2) := by decide +kernel
theorem dX7_read_86 : decode cX7_read 86 = .ok (.iadd, 1) := by decide +kernel
theorem dX7_read_87 : decode cX7_read 87 = .ok (.laload, 1) := by decide +kernel
theorem dX7_read_88 : decode cX7_read 88 = .ok (.lstore 7, 2) := by decide +kernel
theorem dX7_read_90 : decode cX7_read 90 = .ok (.lload 7, 2) := by decide +kernel
theorem dX7_read_92 : decode cX7_read 92 = .ok (.lconst 0, 1) := by decide +kernel
theorem dX7_read_93 : decode cX7_read 93 = .ok (.lcmp, 1) := by decide +kernel
theorem dX7_read_94 : decode cX7_read 94 = .ok (.ifCond .lt 20, 3) := by decide +kernel
theorem dX7_read_97 : decode cX7_read 97 = .ok (.lload 7, 2) := by decide +kernel
theorem dX7_read_99 : decode cX7_read 99 = .ok (.aload_n 0, 1) := by decide +kernel
theorem dX7_read_100 : decode cX7_read 100 = .ok (.getfield 7, 3) := by decide +kernel
theorem dX7_read_103 : decode cX7_read 103 = .ok (.iconst 0, 1) := by decide +kernel
theorem dX7_read_104 : decode cX7_read 104 = .ok (.iaload, 1) := by decide +kernel
theorem dX7_read_105 : decode cX7_read 105 = .ok (.i2l, 1) := by decide +kernel
theorem dX7_read_106 : decode cX7_read 106 = .ok (.lcmp, 1) := by decide +kernel
theorem dX7_read_107 : decode cX7_read 107 = .ok (.ifCond .ge 7, 3) := by decide +kernel
theorem dX7_read_110 : decode cX7_read 110 = .ok (.iconst 1, 1) := by decide +kernel
theorem dX7_read_111 : decode cX7_read 111 = .ok (.goto 4, 3) := by decide +kernel
theorem dX7_read_114 : decode cX7_read 114 = .ok (.iconst 0, 1) := by decide +kernel
theorem dX7_read_115 : decode cX7_read 115 = .ok (.istore 9, 2) := by decide +kernel
theorem dX7_read_117 : decode cX7_read 117 = .ok (.iload 9, 2) := by decide +kernel
theorem dX7_read_119 : decode cX7_read 119 = .ok (.ifCond .eq 9, 3) := by decide +kernel
theorem dX7_read_122 : decode cX7_read 122 = .ok (.lload 7, 2) := by decide +kernel
theorem dX7_read_124 : decode cX7_read 124 = .ok (.l2i, 1) := by decide +kernel
theorem dX7_read_125 : decode cX7_read 125 = .ok (.goto 4, 3) := by decide +kernel
theorem dX7_read_128 : decode cX7_read 128 = .ok (.iconst 0, 1) := by decide +kernel
theorem dX7_read_129 : decode cX7_read 129 = .ok (.istore 10, 2) := by decide +kernel
theorem dX7_read_131 : decode cX7_read 131 = .ok (.iload 9, 2) := by decide +kernel
theorem dX7_read_133 : decode cX7_read 133 = .ok (.ifCond .eq 35, 3) := by decide +kernel
theorem dX7_read_136 : decode cX7_read 136 = .ok (.iload 6, 2) := by decide +kernel
theorem dX7_read_138 : decode cX7_read 138 = .ok (.ifCond .eq 26, 3) := by decide +kernel
theorem dX7_read_141 : decode cX7_read 141 = .ok (.aload_n 0, 1) := by decide +kernel
theorem dX7_read_142 : decode cX7_read 142 = .ok (.iload 5, 2) := by decide +kernel
theorem dX7_read_144 : decode cX7_read 144 = .ok (.iload 10, 2) := by decide +kernel
theorem dX7_read_146 : decode cX7_read 146 = .ok (.invokevirtual 81, 3) := by decide +kernel
theorem dX7_read_149 : decode cX7_read 149 = .ok (.ifCond .lt 19, 3) := by decide +kernel
theorem dX7_read_152 : decode cX7_read 152 = .ok (.aload_n 0, 1) := by decide +kernel
theorem dX7_read_153 : decode cX7_read 153 = .ok (.iload_n 2, 1) := by decide +kernel
theorem dX7_read_154 : decode cX7_read 154 = .ok (.iload 5, 2) := by decide +kernel
theorem dX7_read_156 : decode cX7_read 156 = .ok (.iload 10, 2) := by decide +kernel
theorem dX7_read_158 : decode cX7_read 158 = .ok (.invokevirtual 106, 3) := by decide +kernel
theorem dX7_read_161 : decode cX7_read 161 = .ok (.ifCond .eq 7, 3) := by decide +kernel
theorem dX7_read_164 : decode cX7_read 164 = .ok (.iconst 1, 1) := by decide +kernel
theorem dX7_read_165 : decode cX7_read 165 = .ok (.goto 4, 3) := by decide +kernel
theorem dX7_read_168 : decode cX7_read 168 = .ok (.iconst 0, 1) := by decide +kernel
theorem dX7_read_169 : decode cX7_read 169 = .ok (.istore 9, 2) := by decide +kernel
theorem dX7_read_171 : decode cX7_read 171 = .ok (.iload 9, 2) := by decide +kernel
theorem dX7_read_173 : decode cX7_read 173 = .ok (.ifCond .eq 7, 3) := by decide +kernel
theorem dX7_read_176 : decode cX7_read 176 = .ok (.iconst 0, 1) := by decide +kernel
theorem dX7_read_177 : decode cX7_read 177 = .ok (.goto 7, 3) := by decide +kernel
theorem dX7_read_180 : decode cX7_read 180 = .ok (.iload 6, 2) := by decide +kernel
theorem dX7_read_182 : decode cX7_read 182 = .ok (.iconst 1, 1) := by decide +kernel
theorem dX7_read_183 : decode cX7_read 183 = .ok (.iadd, 1) := by decide +kernel
theorem dX7_read_184 : decode cX7_read 184 = .ok (.istore 4, 2) := by decide +kernel
theorem dX7_read_186 : decode cX7_read 186 = .ok (.iload 10, 2) := by decide +kernel
theorem dX7_read_188 : decode cX7_read 188 = .ok (.istore 5, 2) := by decide +kernel
theorem dX7_read_190 : decode cX7_read 190 = .ok (.iinc 6 1, 3) := by decide +kernel
theorem dX7_read_193 : decode cX7_read 193 = .ok (.goto (-133), 3) := by decide +kernel
theorem dX7_read_196 : decode cX7_read 196 = .ok (.iload 4, 2) := by decide +kernel
theorem dX7_read_198 : decode cX7_read 198 = .ok (.ireturn, 1) := by decide +kernel
theorem dX7_moveAll_0 : decode cX7_moveAll 0 = .ok (.iconst 0, 1) := by decide +kernel
theorem dX7_moveAll_1 : decode cX7_moveAll 1 = .ok (.istore_n 3, 1) := by decide +kernel
theorem dX7_moveAll_2 : decode cX7_moveAll 2 = .ok (.iload_n 3, 1) := by decide +kernel
theorem dX7_moveAll_3 : decode cX7_moveAll 3 = .ok (.sipush 151, 3) := by decide +kernel
theorem dX7_moveAll_6 : decode cX7_moveAll 6 = .ok (.if_icmp .ge 34, 3) := by decide +kernel
theorem dX7_moveAll_9 : decode cX7_moveAll 9 = .ok (.iload_n 1, 1) := by decide +kernel
theorem dX7_moveAll_10 : decode cX7_moveAll 10 = .ok (.ifCond .eq 15, 3) := by decide +kernel
theorem dX7_moveAll_13 : decode cX7_moveAll 13 = .ok (.aload_n 2, 1) := by decide +kernel
theorem dX7_moveAll_14 : decode cX7_moveAll 14 = .ok (.iload_n 3, 1) := by decide +kernel
theorem dX7_moveAll_15 : decode cX7_moveAll 15 = .ok (.aload_n 0, 1) := by decide +kernel
theorem dX7_moveAll_16 : decode cX7_moveAll 16 = .ok (.getfield 7, 3) := by decide +kernel
theorem dX7_moveAll_19 : decode cX7_moveAll 19 = .ok (.iload_n 3, 1) := by decide +kernel
theorem dX7_moveAll_20 : decode cX7_moveAll 20 = .ok (.iaload, 1) := by decide +kernel
theorem dX7_moveAll_21 : decode cX7_moveAll 21 = .ok (.iastore, 1) := by decide +kernel
theorem dX7_moveAll_22 : decode cX7_moveAll 22 = .ok (.goto 12, 3) := by decide +kernel
theorem dX7_moveAll_25 : decode cX7_moveAll 25 = .ok (.aload_n 0, 1) := by decide +kernel
theorem dX7_moveAll_26 : decode cX7_moveAll 26 = .ok (.getfield 7, 3) := by decide +kernel
theorem dX7_moveAll_29 : decode cX7_moveAll 29 = .ok (.iload_n 3, 1) := by decide +kernel
theorem dX7_moveAll_30 : decode cX7_moveAll 30 = .ok (.aload_n 2, 1) := by decide +kernel
theorem dX7_moveAll_31 : decode cX7_moveAll 31 = .ok (.iload_n 3, 1) := by decide +kernel
theorem dX7_moveAll_32 : decode cX7_moveAll 32 = .ok (.iaload, 1) := by decide +kernel
theorem dX7_moveAll_33 : decode cX7_moveAll 33 = .ok (.iastore, 1) := by decide +kernel
theorem dX7_moveAll_34 : decode cX7_moveAll 34 = .ok (.iinc 3 1, 3) := by decide +kernel
theorem dX7_moveAll_37 : decode cX7_moveAll 37 = .ok (.goto (-35), 3) := by decide +kernel
theorem dX7_moveAll_40 : decode cX7_moveAll 40 = .ok (.return_, 1) := by decide +kernel
theorem dX7_image_0 : decode cX7_image 0 = .ok (.aload_n 0, 1) := by decide +kernel
theorem dX7_image_1 : decode cX7_image 1 = .ok (.iconst 1, 1) := by decide +kernel
theorem dX7_image_2 : decode cX7_image 2 = .ok (.aload_n 0, 1) := by decide +kernel
theorem dX7_image_3 : decode cX7_image 3 = .ok (.getfield 38, 3) := by decide +kernel
theorem dX7_image_6 : decode cX7_image 6 = .ok (.invokevirtual 197, 3) := by decide +kernel
theorem dX7_image_9 : decode cX7_image 9 = .ok (.aload_n 0, 1) := by decide +kernel
theorem dX7_image_10 : decode cX7_image 10 = .ok (.iconst 1, 1) := by decide +kernel
theorem dX7_image_11 : decode cX7_image 11 = .ok (.putfield 321, 3) := by decide +kernel
theorem dX7_image_14 : decode cX7_image 14 = .ok (.iconst 1, 1) := by decide +kernel
theorem dX7_image_15 : decode cX7_image 15 = .ok (.ireturn, 1) := by decide +kernel
theorem dX7_undo_0 : decode cX7_undo 0 = .ok (.aload_n 0, 1) := by decide +kernel
theorem dX7_undo_1 : decode cX7_undo 1 = .ok (.getfield 321, 3) := by decide +kernel
theorem dX7_undo_4 : decode cX7_undo 4 = .ok (.ifCond .ne 10, 3) := by decide +kernel
theorem dX7_undo_7 : decode cX7_undo 7 = .ok (.aload_n 0, 1) := by decide +kernel
theorem dX7_undo_8 : decode cX7_undo 8 = .ok (.ldc 92, 2) := by decide +kernel
theorem dX7_undo_10 : decode cX7_undo 10 = .ok (.invokevirtual 49, 3) := by decide +kernel
theorem dX7_undo_13 : decode cX7_undo 13 = .ok (.ireturn, 1) := by decide +kernel
theorem dX7_undo_14 : decode cX7_undo 14 = .ok (.aload_n 0, 1) := by decide +kernel
theorem dX7_undo_15 : decode cX7_undo 15 = .ok (.iconst 0, 1) := by decide +kernel
theorem dX7_undo_16 : decode cX7_undo 16 = .ok (.aload_n 0, 1) := by decide +kernel
theorem dX7_undo_17 : decode cX7_undo 17 = .ok (.getfield 38, 3) := by decide +kernel
theorem dX7_undo_20 : decode cX7_undo 20 = .ok (.invokevirtual 197, 3) := by decide +kernel
theorem dX7_undo_23 : decode cX7_undo 23 = .ok (.aload_n 0, 1) := by decide +kernel
theorem dX7_undo_24 : decode cX7_undo 24 = .ok (.getfield 7, 3) := by decide +kernel
theorem dX7_undo_27 : decode cX7_undo 27 = .ok (.iconst 0, 1) := by decide +kernel
theorem dX7_undo_28 : decode cX7_undo 28 = .ok (.iaload, 1) := by decide +kernel
theorem dX7_undo_29 : decode cX7_undo 29 = .ok (.ireturn, 1) := by decide +kernel
theorem dX7_tear_0 : decode cX7_tear 0 = .ok (.aload_n 0, 1) := by decide +kernel
theorem dX7_tear_1 : decode cX7_tear 1 = .ok (.getfield 321, 3) := by decide +kernel
theorem dX7_tear_4 : decode cX7_tear 4 = .ok (.ifCond .eq 7, 3) := by decide +kernel
theorem dX7_tear_7 : decode cX7_tear 7 = .ok (.iconst 1, 1) := by decide +kernel
theorem dX7_tear_8 : decode cX7_tear 8 = .ok (.goto 4, 3) := by decide +kernel
theorem dX7_tear_11 : decode cX7_tear 11 = .ok (.iconst 0, 1) := by decide +kernel
theorem dX7_tear_12 : decode cX7_tear 12 = .ok (.istore_n 1, 1) := by decide +kernel
theorem dX7_tear_13 : decode cX7_tear 13 = .ok (.aload_n 0, 1) := by decide +kernel
theorem dX7_tear_14 : decode cX7_tear 14 = .ok (.iconst 0, 1) := by decide +kernel
theorem dX7_tear_15 : decode cX7_tear 15 = .ok (.putfield 321, 3) := by decide +kernel
theorem dX7_tear_18 : decode cX7_tear 18 = .ok (.iload_n 1, 1) := by decide +kernel
theorem dX7_tear_19 : decode cX7_tear 19 = .ok (.ireturn, 1) := by decide +kernel
theorem dX7_count_0 : decode cX7_count 0 = .ok (.iconst 0, 1) := by decide +kernel
theorem dX7_count_1 : decode cX7_count 1 = .ok (.istore_n 2, 1) := by decide +kernel
theorem dX7_count_2 : decode cX7_count 2 = .ok (.iload_n 1, 1) := by decide +kernel
theorem dX7_count_3 : decode cX7_count 3 = .ok (.tableswitch 87 0 4 #[33, 40, 47, 54, 59], 33) := by decide +kernel
theorem dX7_count_36 : decode cX7_count 36 = .ok (.aload_n 0, 1) := by decide +kernel
theorem dX7_count_37 : decode cX7_count 37 = .ok (.getfield 7, 3) := by decide +kernel
theorem dX7_count_40 : decode cX7_count 40 = .ok (.iconst 0, 1) := by decide +kernel
theorem dX7_count_41 : decode cX7_count 41 = .ok (.iaload, 1) := by decide +kernel
theorem dX7_count_42 : decode cX7_count 42 = .ok (.ireturn, 1) := by decide +kernel
theorem dX7_count_43 : decode cX7_count 43 = .ok (.aload_n 0, 1) := by decide +kernel
theorem dX7_count_44 : decode cX7_count 44 = .ok (.getfield 7, 3) := by decide +kernel
theorem dX7_count_47 : decode cX7_count 47 = .ok (.iconst 1, 1) := by decide +kernel
theorem dX7_count_48 : decode cX7_count 48 = .ok (.iaload, 1) := by decide +kernel
theorem dX7_count_49 : decode cX7_count 49 = .ok (.ireturn, 1) := by decide +kernel
theorem dX7_count_50 : decode cX7_count 50 = .ok (.aload_n 0, 1) := by decide +kernel
theorem dX7_count_51 : decode cX7_count 51 = .ok (.getfield 7, 3) := by decide +kernel
theorem dX7_count_54 : decode cX7_count 54 = .ok (.iconst 2, 1) := by decide +kernel
theorem dX7_count_55 : decode cX7_count 55 = .ok (.iaload, 1) := by decide +kernel
theorem dX7_count_56 : decode cX7_count 56 = .ok (.ireturn, 1) := by decide +kernel
theorem dX7_count_57 : decode cX7_count 57 = .ok (.aload_n 0, 1) := by decide +kernel
theorem dX7_count_58 : decode cX7_count 58 = .ok (.getfield 204, 3) := by decide +kernel
theorem dX7_count_61 : decode cX7_count 61 = .ok (.ireturn, 1) := by decide +kernel
theorem dX7_count_62 : decode cX7_count 62 = .ok (.iconst 0, 1) := by decide +kernel
theorem dX7_count_63 : decode cX7_count 63 = .ok (.istore_n 3, 1) := by decide +kernel
theorem dX7_count_64 : decode cX7_count 64 = .ok (.iload_n 3, 1) := by decide +kernel
theorem dX7_count_65 : decode cX7_count 65 = .ok (.aload_n 0, 1) := by decide +kernel
theorem dX7_count_66 : decode cX7_count 66 = .ok (.getfield 7, 3) := by decide +kernel
theorem dX7_count_69 : decode cX7_count 69 = .ok (.iconst 0, 1) := by decide +kernel
theorem dX7_count_70 : decode cX7_count 70 = .ok (.iaload, 1) := by decide +kernel
theorem dX7_count_71 : decode cX7_count 71 = .ok (.if_icmp .ge 17, 3) := by decide +kernel
theorem dX7_count_74 : decode cX7_count 74 = .ok (.iload_n 2, 1) := by decide +kernel
theorem dX7_count_75 : decode cX7_count 75 = .ok (.aload_n 0, 1) := by decide +kernel
theorem dX7_count_76 : decode cX7_count 76 = .ok (.iload_n 3, 1) := by decide +kernel
theorem dX7_count_77 : decode cX7_count 77 = .ok (.invokevirtual 69, 3) := by decide +kernel
theorem dX7_count_80 : decode cX7_count 80 = .ok (.iadd, 1) := by decide +kernel
theorem dX7_count_81 : decode cX7_count 81 = .ok (.istore_n 2, 1) := by decide +kernel
theorem dX7_count_82 : decode cX7_count 82 = .ok (.iinc 3 1, 3) := by decide +kernel
theorem dX7_count_85 : decode cX7_count 85 = .ok (.goto (-21), 3) := by decide +kernel
theorem dX7_count_88 : decode cX7_count 88 = .ok (.iload_n 2, 1) := by decide +kernel
theorem dX7_count_89 : decode cX7_count 89 = .ok (.ireturn, 1) := by decide +kernel
theorem dX7_count_90 : decode cX7_count 90 = .ok (.aload_n 0, 1) := by decide +kernel
theorem dX7_count_91 : decode cX7_count 91 = .ok (.ldc 44, 2) := by decide +kernel
theorem dX7_count_93 : decode cX7_count 93 = .ok (.invokevirtual 49, 3) := by decide +kernel
theorem dX7_count_96 : decode cX7_count 96 = .ok (.ireturn, 1) := by decide +kernel
theorem dX7_status_0 : decode cX7_status 0 = .ok (.iload_n 1, 1) := by decide +kernel
theorem dX7_status_1 : decode cX7_status 1 = .ok (.iconst (-1), 1) := by decide +kernel
theorem dX7_status_2 : decode cX7_status 2 = .ok (.bipush 6, 2) := by decide +kernel
theorem dX7_status_4 : decode cX7_status 4 = .ok (.invokestatic 45, 3) := by decide +kernel
theorem dX7_status_7 : decode cX7_status 7 = .ok (.ifCond .ne 10, 3) := by decide +kernel
theorem dX7_status_10 : decode cX7_status 10 = .ok (.aload_n 0, 1) := by decide +kernel
theorem dX7_status_11 : decode cX7_status 11 = .ok (.ldc 44, 2) := by decide +kernel
theorem dX7_status_13 : decode cX7_status 13 = .ok (.invokevirtual 49, 3) := by decide +kernel
theorem dX7_status_16 : decode cX7_status 16 = .ok (.ireturn, 1) := by decide +kernel
theorem dX7_status_17 : decode cX7_status 17 = .ok (.iconst 0, 1) := by decide +kernel
theorem dX7_status_18 : decode cX7_status 18 = .ok (.istore_n 2, 1) := by decide +kernel
theorem dX7_status_19 : decode cX7_status 19 = .ok (.iconst 0, 1) := by decide +kernel
theorem dX7_status_20 : decode cX7_status 20 = .ok (.istore_n 3, 1) := by decide +kernel
theorem dX7_status_21 : decode cX7_status 21 = .ok (.iload_n 3, 1) := by decide +kernel
theorem dX7_status_22 : decode cX7_status 22 = .ok (.bipush 7, 2) := by decide +kernel
theorem dX7_status_24 : decode cX7_status 24 = .ok (.if_icmp .ge 18, 3) := by decide +kernel
theorem dX7_status_27 : decode cX7_status 27 = .ok (.iload_n 2, 1) := by decide +kernel
theorem dX7_status_28 : decode cX7_status 28 = .ok (.aload_n 0, 1) := by decide +kernel
theorem dX7_status_29 : decode cX7_status 29 = .ok (.getfield 13, 3) := by decide +kernel
theorem dX7_status_32 : decode cX7_status 32 = .ok (.iload_n 3, 1) := by decide +kernel
theorem dX7_status_33 : decode cX7_status 33 = .ok (.iaload, 1) := by decide +kernel
theorem dX7_status_34 : decode cX7_status 34 = .ok (.iadd, 1) := by decide +kernel
theorem dX7_status_35 : decode cX7_status 35 = .ok (.istore_n 2, 1) := by decide +kernel
theorem dX7_status_36 : decode cX7_status 36 = .ok (.iinc 3 1, 3) := by decide +kernel
theorem dX7_status_39 : decode cX7_status 39 = .ok (.goto (-18), 3) := by decide +kernel
theorem dX7_status_42 : decode cX7_status 42 = .ok (.iload_n 1, 1) := by decide +kernel
theorem dX7_status_43 : decode cX7_status 43 = .ok (.ifCond .ge 7, 3) := by decide +kernel
theorem dX7_status_46 : decode cX7_status 46 = .ok (.iload_n 2, 1) := by decide +kernel
theorem dX7_status_47 : decode cX7_status 47 = .ok (.goto 17, 3) := by decide +kernel
theorem dX7_status_50 : decode cX7_status 50 = .ok (.aload_n 0, 1) := by decide +kernel
theorem dX7_status_51 : decode cX7_status 51 = .ok (.getfield 13, 3) := by decide +kernel
theorem dX7_status_54 : decode cX7_status 54 = .ok (.iload_n 1, 1) := by decide +kernel
theorem dX7_status_55 : decode cX7_status 55 = .ok (.ifCond .ge 7, 3) := by decide +kernel
theorem dX7_status_58 : decode cX7_status 58 = .ok (.iconst 0, 1) := by decide +kernel
theorem dX7_status_59 : decode cX7_status 59 = .ok (.goto 4, 3) := by decide +kernel
theorem dX7_status_62 : decode cX7_status 62 = .ok (.iload_n 1, 1) := by decide +kernel
theorem dX7_status_63 : decode cX7_status 63 = .ok (.iaload, 1) := by decide +kernel
theorem dX7_status_64 : decode cX7_status 64 = .ok (.ireturn, 1) := by decide +kernel
