theorem dX0_init_0 : decode cX0_init 0 = .ok (.aload_n 0, 1) := by decide +kernel
theorem dX0_init_1 : decode cX0_init 1 = .ok (.invokespecial 3, 3) := by decide +kernel
theorem dX0_init_4 : decode cX0_init 4 = .ok (.aload_n 0, 1) := by decide +kernel
theorem dX0_init_5 : decode cX0_init 5 = .ok (.bipush 12, 2) := by decide +kernel
theorem dX0_init_7 : decode cX0_init 7 = .ok (.newarray .int, 2) := by decide +kernel
theorem dX0_init_9 : decode cX0_init 9 = .ok (.putfield 9, 3) := by decide +kernel
theorem dX0_init_12 : decode cX0_init 12 = .ok (.aload_n 0, 1) := by decide +kernel
theorem dX0_init_13 : decode cX0_init 13 = .ok (.bipush 24, 2) := by decide +kernel
theorem dX0_init_15 : decode cX0_init 15 = .ok (.newarray .int, 2) := by decide +kernel
theorem dX0_init_17 : decode cX0_init 17 = .ok (.putfield 15, 3) := by decide +kernel
theorem dX0_init_20 : decode cX0_init 20 = .ok (.aload_n 0, 1) := by decide +kernel
theorem dX0_init_21 : decode cX0_init 21 = .ok (.bipush 24, 2) := by decide +kernel
theorem dX0_init_23 : decode cX0_init 23 = .ok (.newarray .int, 2) := by decide +kernel
theorem dX0_init_25 : decode cX0_init 25 = .ok (.putfield 18, 3) := by decide +kernel
theorem dX0_init_28 : decode cX0_init 28 = .ok (.aload_n 0, 1) := by decide +kernel
theorem dX0_init_29 : decode cX0_init 29 = .ok (.bipush 24, 2) := by decide +kernel
theorem dX0_init_31 : decode cX0_init 31 = .ok (.newarray .int, 2) := by decide +kernel
theorem dX0_init_33 : decode cX0_init 33 = .ok (.putfield 21, 3) := by decide +kernel
theorem dX0_init_36 : decode cX0_init 36 = .ok (.aload_n 0, 1) := by decide +kernel
theorem dX0_init_37 : decode cX0_init 37 = .ok (.bipush 7, 2) := by decide +kernel
theorem dX0_init_39 : decode cX0_init 39 = .ok (.putfield 24, 3) := by decide +kernel
theorem dX0_init_42 : decode cX0_init 42 = .ok (.aload_n 0, 1) := by decide +kernel
theorem dX0_init_43 : decode cX0_init 43 = .ok (.bipush 10, 2) := by decide +kernel
theorem dX0_init_45 : decode cX0_init 45 = .ok (.newarray .int, 2) := by decide +kernel
theorem dX0_init_47 : decode cX0_init 47 = .ok (.putfield 28, 3) := by decide +kernel
theorem dX0_init_50 : decode cX0_init 50 = .ok (.aload_n 0, 1) := by decide +kernel
theorem dX0_init_51 : decode cX0_init 51 = .ok (.bipush 10, 2) := by decide +kernel
theorem dX0_init_53 : decode cX0_init 53 = .ok (.newarray .int, 2) := by decide +kernel
theorem dX0_init_55 : decode cX0_init 55 = .ok (.putfield 31, 3) := by decide +kernel
theorem dX0_init_58 : decode cX0_init 58 = .ok (.aload_n 0, 1) := by decide +kernel
theorem dX0_init_59 : decode cX0_init 59 = .ok (.bipush 10, 2) := by decide +kernel
theorem dX0_init_61 : decode cX0_init 61 = .ok (.newarray .int, 2) := by decide +kernel
theorem dX0_init_63 : decode cX0_init 63 = .ok (.putfield 34, 3) := by decide +kernel
theorem dX0_init_66 : decode cX0_init 66 = .ok (.aload_n 0, 1) := by decide +kernel
theorem dX0_init_67 : decode cX0_init 67 = .ok (.bipush 10, 2) := by decide +kernel
theorem dX0_init_69 : decode cX0_init 69 = .ok (.newarray .int, 2) := by decide +kernel
theorem dX0_init_71 : decode cX0_init 71 = .ok (.putfield 37, 3) := by decide +kernel
theorem dX0_init_74 : decode cX0_init 74 = .ok (.aload_n 0, 1) := by decide +kernel
theorem dX0_init_75 : decode cX0_init 75 = .ok (.bipush 10, 2) := by decide +kernel
theorem dX0_init_77 : decode cX0_init 77 = .ok (.newarray .int, 2) := by decide +kernel
theorem dX0_init_79 : decode cX0_init 79 = .ok (.putfield 40, 3) := by decide +kernel
theorem dX0_init_82 : decode cX0_init 82 = .ok (.return_, 1) := by decide +kernel
theorem dX0_become_0 : decode cX0_become 0 = .ok (.aload_n 0, 1) := by decide +kernel
theorem dX0_become_1 : decode cX0_become 1 = .ok (.aload_n 1, 1) := by decide +kernel
theorem dX0_become_2 : decode cX0_become 2 = .ok (.getfield 43, 3) := by decide +kernel
theorem dX0_become_5 : decode cX0_become 5 = .ok (.putfield 43, 3) := by decide +kernel
theorem dX0_become_8 : decode cX0_become 8 = .ok (.aload_n 1, 1) := by decide +kernel
theorem dX0_become_9 : decode cX0_become 9 = .ok (.getfield 9, 3) := by decide +kernel
theorem dX0_become_12 : decode cX0_become 12 = .ok (.iconst 0, 1) := by decide +kernel
theorem dX0_become_13 : decode cX0_become 13 = .ok (.aload_n 0, 1) := by decide +kernel
theorem dX0_become_14 : decode cX0_become 14 = .ok (.getfield 9, 3) := by decide +kernel
theorem dX0_become_17 : decode cX0_become 17 = .ok (.iconst 0, 1) := by decide +kernel
theorem dX0_become_18 : decode cX0_become 18 = .ok (.bipush 12, 2) := by decide +kernel
theorem dX0_become_20 : decode cX0_become 20 = .ok (.invokestatic 46, 3) := by decide +kernel
theorem dX0_become_23 : decode cX0_become 23 = .ok (.aload_n 0, 1) := by decide +kernel
theorem dX0_become_24 : decode cX0_become 24 = .ok (.aload_n 1, 1) := by decide +kernel
theorem dX0_become_25 : decode cX0_become 25 = .ok (.getfield 52, 3) := by decide +kernel
theorem dX0_become_28 : decode cX0_become 28 = .ok (.putfield 52, 3) := by decide +kernel
theorem dX0_become_31 : decode cX0_become 31 = .ok (.aload_n 0, 1) := by decide +kernel
theorem dX0_become_32 : decode cX0_become 32 = .ok (.aload_n 1, 1) := by decide +kernel
theorem dX0_become_33 : decode cX0_become 33 = .ok (.getfield 55, 3) := by decide +kernel
theorem dX0_become_36 : decode cX0_become 36 = .ok (.putfield 55, 3) := by decide +kernel
theorem dX0_become_39 : decode cX0_become 39 = .ok (.aload_n 1, 1) := by decide +kernel
theorem dX0_become_40 : decode cX0_become 40 = .ok (.getfield 15, 3) := by decide +kernel
theorem dX0_become_43 : decode cX0_become 43 = .ok (.iconst 0, 1) := by decide +kernel
theorem dX0_become_44 : decode cX0_become 44 = .ok (.aload_n 0, 1) := by decide +kernel
theorem dX0_become_45 : decode cX0_become 45 = .ok (.getfield 15, 3) := by decide +kernel
theorem dX0_become_48 : decode cX0_become 48 = .ok (.iconst 0, 1) := by decide +kernel
theorem dX0_become_49 : decode cX0_become 49 = .ok (.bipush 24, 2) := by decide +kernel
theorem dX0_become_51 : decode cX0_become 51 = .ok (.invokestatic 46, 3) := by decide +kernel
theorem dX0_become_54 : decode cX0_become 54 = .ok (.aload_n 1, 1) := by decide +kernel
theorem dX0_become_55 : decode cX0_become 55 = .ok (.getfield 18, 3) := by decide +kernel
theorem dX0_become_58 : decode cX0_become 58 = .ok (.iconst 0, 1) := by decide +kernel
theorem dX0_become_59 : decode cX0_become 59 = .ok (.aload_n 0, 1) := by decide +kernel
theorem dX0_become_60 : decode cX0_become 60 = .ok (.getfield 18, 3) := by decide +kernel
theorem dX0_become_63 : decode cX0_become 63 = .ok (.iconst 0, 1) := by decide +kernel
theorem dX0_become_64 : decode cX0_become 64 = .ok (.bipush 24, 2) := by decide +kernel
theorem dX0_become_66 : decode cX0_become 66 = .ok (.invokestatic 46, 3) := by decide +kernel
theorem dX0_become_69 : decode cX0_become 69 = .ok (.aload_n 1, 1) := by decide +kernel
theorem dX0_become_70 : decode cX0_become 70 = .ok (.getfield 21, 3) := by decide +kernel
theorem dX0_become_73 : decode cX0_become 73 = .ok (.iconst 0, 1) := by decide +kernel
theorem dX0_become_74 : decode cX0_become 74 = .ok (.aload_n 0, 1) := by decide +kernel
theorem dX0_become_75 : decode cX0_become 75 = .ok (.getfield 21, 3) := by decide +kernel
theorem dX0_become_78 : decode cX0_become 78 = .ok (.iconst 0, 1) := by decide +kernel
theorem dX0_become_79 : decode cX0_become 79 = .ok (.bipush 24, 2) := by decide +kernel
theorem dX0_become_81 : decode cX0_become 81 = .ok (.invokestatic 46, 3) := by decide +kernel
theorem dX0_become_84 : decode cX0_become 84 = .ok (.aload_n 0, 1) := by decide +kernel
theorem dX0_become_85 : decode cX0_become 85 = .ok (.aload_n 1, 1) := by decide +kernel
theorem dX0_become_86 : decode cX0_become 86 = .ok (.getfield 24, 3) := by decide +kernel
theorem dX0_become_89 : decode cX0_become 89 = .ok (.putfield 24, 3) := by decide +kernel
theorem dX0_become_92 : decode cX0_become 92 = .ok (.aload_n 0, 1) := by decide +kernel
theorem dX0_become_93 : decode cX0_become 93 = .ok (.aload_n 1, 1) := by decide +kernel
theorem dX0_become_94 : decode cX0_become 94 = .ok (.getfield 58, 3) := by decide +kernel
theorem dX0_become_97 : decode cX0_become 97 = .ok (.putfield 58, 3) := by decide +kernel
theorem dX0_become_100 : decode cX0_become 100 = .ok (.aload_n 0, 1) := by decide +kernel
theorem dX0_become_101 : decode cX0_become 101 = .ok (.aload_n 1, 1) := by decide +kernel
theorem dX0_become_102 : decode cX0_become 102 = .ok (.getfield 61, 3) := by decide +kernel
theorem dX0_become_105 : decode cX0_become 105 = .ok (.putfield 61, 3) := by decide +kernel
theorem dX0_become_108 : decode cX0_become 108 = .ok (.aload_n 1, 1) := by decide +kernel
theorem dX0_become_109 : decode cX0_become 109 = .ok (.getfield 28, 3) := by decide +kernel
theorem dX0_become_112 : decode cX0_become 112 = .ok (.iconst 0, 1) := by decide +kernel
theorem dX0_become_113 : decode cX0_become 113 = .ok (.aload_n 0, 1) := by decide +kernel
theorem dX0_become_114 : decode cX0_become 114 = .ok (.getfield 28, 3) := by decide +kernel
theorem dX0_become_117 : decode cX0_become 117 = .ok (.iconst 0, 1) := by decide +kernel
theorem dX0_become_118 : decode cX0_become 118 = .ok (.bipush 10, 2) := by decide +kernel
theorem dX0_become_120 : decode cX0_become 120 = .ok (.invokestatic 46, 3) := by decide +kernel
theorem dX0_become_123 : decode cX0_become 123 = .ok (.aload_n 1, 1) := by decide +kernel
theorem dX0_become_124 : decode cX0_become 124 = .ok (.getfield 31, 3) := by decide +kernel
theorem dX0_become_127 : decode cX0_become 127 = .ok (.iconst 0, 1) := by decide +kernel
theorem dX0_become_128 : decode cX0_become 128 = .ok (.aload_n 0, 1) := by decide +kernel
theorem dX0_become_129 : decode cX0_become 129 = .ok (.getfield 31, 3) := by decide +kernel
theorem dX0_become_132 : decode cX0_become 132 = .ok (.iconst 0, 1) := by decide +kernel
theorem dX0_become_133 : decode cX0_become 133 = .ok (.bipush 10, 2) := by decide +kernel
theorem dX0_become_135 : decode cX0_become 135 = .ok (.invokestatic 46, 3) := by decide +kernel
theorem dX0_become_138 : decode cX0_become 138 = .ok (.aload_n 1, 1) := by decide +kernel
theorem dX0_become_139 : decode cX0_become 139 = .ok (.getfield 34, 3) := by decide +kernel
theorem dX0_become_142 : decode cX0_become 142 = .ok (.iconst 0, 1) := by decide +kernel
theorem dX0_become_143 : decode cX0_become 143 = .ok (.aload_n 0, 1) := by decide +kernel
theorem dX0_become_144 : decode cX0_become 144 = .ok (.getfield 34, 3) := by decide +kernel
theorem dX0_become_147 : decode cX0_become 147 = .ok (.iconst 0, 1) := by decide +kernel
theorem dX0_become_148 : decode cX0_become 148 = .ok (.bipush 10, 2) := by decide +kernel
theorem dX0_become_150 : decode cX0_become 150 = .ok (.invokestatic 46, 3) := by decide +kernel
theorem dX0_become_153 : decode cX0_become 153 = .ok (.aload_n 1, 1) := by decide +kernel
theorem dX0_become_154 : decode cX0_become 154 = .ok (.getfield 37, 3) := by decide +kernel
theorem dX0_become_157 : decode cX0_become 157 = .ok (.iconst 0, 1) := by decide +kernel
theorem dX0_become_158 : decode cX0_become 158 = .ok (.aload_n 0, 1) := by decide +kernel
theorem dX0_become_159 : decode cX0_become 159 = .ok (.getfield 37, 3) := by decide +kernel
theorem dX0_become_162 : decode cX0_become 162 = .ok (.iconst 0, 1) := by decide +kernel
theorem dX0_become_163 : decode cX0_become 163 = .ok (.bipush 10, 2) := by decide +kernel
theorem dX0_become_165 : decode cX0_become 165 = .ok (.invokestatic 46, 3) := by decide +kernel
theorem dX0_become_168 : decode cX0_become 168 = .ok (.aload_n 1, 1) := by decide +kernel
theorem dX0_become_169 : decode cX0_become 169 = .ok (.getfield 40, 3) := by decide +kernel
theorem dX0_become_172 : decode cX0_become 172 = .ok (.iconst 0, 1) := by decide +kernel
theorem dX0_become_173 : decode cX0_become 173 = .ok (.aload_n 0, 1) := by decide +kernel
theorem dX0_become_174 : decode cX0_become 174 = .ok (.getfield 40, 3) := by decide +kernel
theorem dX0_become_177 : decode cX0_become 177 = .ok (.iconst 0, 1) := by decide +kernel
theorem dX0_become_178 : decode cX0_become 178 = .ok (.bipush 10, 2) := by decide +kernel
theorem dX0_become_180 : decode cX0_become 180 = .ok (.invokestatic 46, 3) := by decide +kernel
theorem dX0_become_183 : decode cX0_become 183 = .ok (.return_, 1) := by decide +kernel
theorem dX0_hasVillage_0 : decode cX0_hasVillage 0 = .ok (.iload_n 1, 1) := by decide +kernel
theorem dX0_hasVillage_1 : decode cX0_hasVillage 1 = .ok (.ifCond .lt 15, 3) := by decide +kernel
theorem dX0_hasVillage_4 : decode cX0_hasVillage 4 = .ok (.iload_n 1, 1) := by decide +kernel
theorem dX0_hasVillage_5 : decode cX0_hasVillage 5 = .ok (.aload_n 0, 1) := by decide +kernel
theorem dX0_hasVillage_6 : decode cX0_hasVillage 6 = .ok (.getfield 43, 3) := by decide +kernel
theorem dX0_hasVillage_9 : decode cX0_hasVillage 9 = .ok (.if_icmp .ge 7, 3) := by decide +kernel
theorem dX0_hasVillage_12 : decode cX0_hasVillage 12 = .ok (.iconst 1, 1) := by decide +kernel
theorem dX0_hasVillage_13 : decode cX0_hasVillage 13 = .ok (.goto 4, 3) := by decide +kernel
theorem dX0_hasVillage_16 : decode cX0_hasVillage 16 = .ok (.iconst 0, 1) := by decide +kernel
theorem dX0_hasVillage_17 : decode cX0_hasVillage 17 = .ok (.ireturn, 1) := by decide +kernel
theorem dX0_hasRoad_0 : decode cX0_hasRoad 0 = .ok (.iload_n 1, 1) := by decide +kernel
theorem dX0_hasRoad_1 : decode cX0_hasRoad 1 = .ok (.ifCond .lt 15, 3) := by decide +kernel
theorem dX0_hasRoad_4 : decode cX0_hasRoad 4 = .ok (.iload_n 1, 1) := by decide +kernel
theorem dX0_hasRoad_5 : decode cX0_hasRoad 5 = .ok (.aload_n 0, 1) := by decide +kernel
theorem dX0_hasRoad_6 : decode cX0_hasRoad 6 = .ok (.getfield 55, 3) := by decide +kernel
theorem dX0_hasRoad_9 : decode cX0_hasRoad 9 = .ok (.if_icmp .ge 7, 3) := by decide +kernel
theorem dX0_hasRoad_12 : decode cX0_hasRoad 12 = .ok (.iconst 1, 1) := by decide +kernel
theorem dX0_hasRoad_13 : decode cX0_hasRoad 13 = .ok (.goto 4, 3) := by decide +kernel
theorem dX0_hasRoad_16 : decode cX0_hasRoad 16 = .ok (.iconst 0, 1) := by decide +kernel
theorem dX0_hasRoad_17 : decode cX0_hasRoad 17 = .ok (.ireturn, 1) := by decide +kernel
theorem dX0_hasLetter_0 : decode cX0_hasLetter 0 = .ok (.iload_n 1, 1) := by decide +kernel
theorem dX0_hasLetter_1 : decode cX0_hasLetter 1 = .ok (.ifCond .lt 15, 3) := by decide +kernel
theorem dX0_hasLetter_4 : decode cX0_hasLetter 4 = .ok (.iload_n 1, 1) := by decide +kernel
theorem dX0_hasLetter_5 : decode cX0_hasLetter 5 = .ok (.aload_n 0, 1) := by decide +kernel
theorem dX0_hasLetter_6 : decode cX0_hasLetter 6 = .ok (.getfield 61, 3) := by decide +kernel
theorem dX0_hasLetter_9 : decode cX0_hasLetter 9 = .ok (.if_icmp .ge 7, 3) := by decide +kernel
theorem dX0_hasLetter_12 : decode cX0_hasLetter 12 = .ok (.iconst 1, 1) := by decide +kernel
theorem dX0_hasLetter_13 : decode cX0_hasLetter 13 = .ok (.goto 4, 3) := by decide +kernel
theorem dX0_hasLetter_16 : decode cX0_hasLetter 16 = .ok (.iconst 0, 1) := by decide +kernel
theorem dX0_hasLetter_17 : decode cX0_hasLetter 17 = .ok (.ireturn, 1) := by decide +kernel
theorem dX0_villagesFull_0 : decode cX0_villagesFull 0 = .ok (.aload_n 0, 1) := by decide +kernel
theorem dX0_villagesFull_1 : decode cX0_villagesFull 1 = .ok (.getfield 43, 3) := by decide +kernel
theorem dX0_villagesFull_4 : decode cX0_villagesFull 4 = .ok (.bipush 12, 2) := by decide +kernel
theorem dX0_villagesFull_6 : decode cX0_villagesFull 6 = .ok (.if_icmp .lt 7, 3) := by decide +kernel
theorem dX0_villagesFull_9 : decode cX0_villagesFull 9 = .ok (.iconst 1, 1) := by decide +kernel
theorem dX0_villagesFull_10 : decode cX0_villagesFull 10 = .ok (.goto 4, 3) := by decide +kernel
theorem dX0_villagesFull_13 : decode cX0_villagesFull 13 = .ok (.iconst 0, 1) := by decide +kernel
theorem dX0_villagesFull_14 : decode cX0_villagesFull 14 = .ok (.ireturn, 1) := by decide +kernel
theorem dX0_roadsFull_0 : decode cX0_roadsFull 0 = .ok (.aload_n 0, 1) := by decide +kernel
theorem dX0_roadsFull_1 : decode cX0_roadsFull 1 = .ok (.getfield 55, 3) := by decide +kernel
theorem dX0_roadsFull_4 : decode cX0_roadsFull 4 = .ok (.bipush 24, 2) := by decide +kernel
theorem dX0_roadsFull_6 : decode cX0_roadsFull 6 = .ok (.if_icmp .lt 7, 3) := by decide +kernel
theorem dX0_roadsFull_9 : decode cX0_roadsFull 9 = .ok (.iconst 1, 1) := by decide +kernel
theorem dX0_roadsFull_10 : decode cX0_roadsFull 10 = .ok (.goto 4, 3) := by decide +kernel
theorem dX0_roadsFull_13 : decode cX0_roadsFull 13 = .ok (.iconst 0, 1) := by decide +kernel
theorem dX0_roadsFull_14 : decode cX0_roadsFull 14 = .ok (.ireturn, 1) := by decide +kernel
theorem dX0_lettersFull_0 : decode cX0_lettersFull 0 = .ok (.aload_n 0, 1) := by decide +kernel
theorem dX0_lettersFull_1 : decode cX0_lettersFull 1 = .ok (.getfield 61, 3) := by decide +kernel
theorem dX0_lettersFull_4 : decode cX0_lettersFull 4 = .ok (.bipush 10, 2) := by decide +kernel
theorem dX0_lettersFull_6 : decode cX0_lettersFull 6 = .ok (.if_icmp .lt 7, 3) := by decide +kernel
theorem dX0_lettersFull_9 : decode cX0_lettersFull 9 = .ok (.iconst 1, 1) := by decide +kernel
theorem dX0_lettersFull_10 : decode cX0_lettersFull 10 = .ok (.goto 4, 3) := by decide +kernel
theorem dX0_lettersFull_13 : decode cX0_lettersFull 13 = .ok (.iconst 0, 1) := by decide +kernel
theorem dX0_lettersFull_14 : decode cX0_lettersFull 14 = .ok (.ireturn, 1) := by decide +kernel
theorem dX0_addVillage_0 : decode cX0_addVillage 0 = .ok (.aload_n 0, 1) := by decide +kernel
theorem dX0_addVillage_1 : decode cX0_addVillage 1 = .ok (.invokevirtual 64, 3) := by decide +kernel
theorem dX0_addVillage_4 : decode cX0_addVillage 4 = .ok (.ifCond .eq 5, 3) := by decide +kernel
theorem dX0_addVillage_7 : decode cX0_addVillage 7 = .ok (.iconst (-1), 1) := by decide +kernel
theorem dX0_addVillage_8 : decode cX0_addVillage 8 = .ok (.ireturn, 1) := by decide +kernel
theorem dX0_addVillage_9 : decode cX0_addVillage 9 = .ok (.aload_n 0, 1) := by decide +kernel
theorem dX0_addVillage_10 : decode cX0_addVillage 10 = .ok (.dup, 1) := by decide +kernel
theorem dX0_addVillage_11 : decode cX0_addVillage 11 = .ok (.getfield 43, 3) := by decide +kernel
theorem dX0_addVillage_14 : decode cX0_addVillage 14 = .ok (.dup_x1, 1) := by decide +kernel
theorem dX0_addVillage_15 : decode cX0_addVillage 15 = .ok (.iconst 1, 1) := by decide +kernel
theorem dX0_addVillage_16 : decode cX0_addVillage 16 = .ok (.iadd, 1) := by decide +kernel
theorem dX0_addVillage_17 : decode cX0_addVillage 17 = .ok (.putfield 43, 3) := by decide +kernel
theorem dX0_addVillage_20 : decode cX0_addVillage 20 = .ok (.istore_n 3, 1) := by decide +kernel
theorem dX0_addVillage_21 : decode cX0_addVillage 21 = .ok (.aload_n 0, 1) := by decide +kernel
theorem dX0_addVillage_22 : decode cX0_addVillage 22 = .ok (.getfield 9, 3) := by decide +kernel
theorem dX0_addVillage_25 : decode cX0_addVillage 25 = .ok (.iload_n 3, 1) := by decide +kernel
theorem dX0_addVillage_26 : decode cX0_addVillage 26 = .ok (.iload_n 1, 1) := by decide +kernel
theorem dX0_addVillage_27 : decode cX0_addVillage 27 = .ok (.iastore, 1) := by decide +kernel
theorem dX0_addVillage_28 : decode cX0_addVillage 28 = .ok (.aload_n 0, 1) := by decide +kernel
theorem dX0_addVillage_29 : decode cX0_addVillage 29 = .ok (.iload_n 3, 1) := by decide +kernel
theorem dX0_addVillage_30 : decode cX0_addVillage 30 = .ok (.iload_n 2, 1) := by decide +kernel
theorem dX0_addVillage_31 : decode cX0_addVillage 31 = .ok (.invokevirtual 68, 3) := by decide +kernel
theorem dX0_addVillage_34 : decode cX0_addVillage 34 = .ok (.iload_n 3, 1) := by decide +kernel
theorem dX0_addVillage_35 : decode cX0_addVillage 35 = .ok (.ireturn, 1) := by decide +kernel
theorem dX0_addRoad_0 : decode cX0_addRoad 0 = .ok (.aload_n 0, 1) := by decide +kernel
theorem dX0_addRoad_1 : decode cX0_addRoad 1 = .ok (.invokevirtual 72, 3) := by decide +kernel
theorem dX0_addRoad_4 : decode cX0_addRoad 4 = .ok (.ifCond .eq 5, 3) := by decide +kernel
theorem dX0_addRoad_7 : decode cX0_addRoad 7 = .ok (.iconst (-1), 1) := by decide +kernel
theorem dX0_addRoad_8 : decode cX0_addRoad 8 = .ok (.ireturn, 1) := by decide +kernel
theorem dX0_addRoad_9 : decode cX0_addRoad 9 = .ok (.aload_n 0, 1) := by decide +kernel
theorem dX0_addRoad_10 : decode cX0_addRoad 10 = .ok (.getfield 15, 3) := by decide +kernel
theorem dX0_addRoad_13 : decode cX0_addRoad 13 = .ok (.aload_n 0, 1) := by decide +kernel
theorem dX0_addRoad_14 : decode cX0_addRoad 14 = .ok (.getfield 55, 3) := by decide +kernel
theorem dX0_addRoad_17 : decode cX0_addRoad 17 = .ok (.iload_n 1, 1) := by decide +kernel
theorem dX0_addRoad_18 : decode cX0_addRoad 18 = .ok (.iastore, 1) := by decide +kernel
theorem dX0_addRoad_19 : decode cX0_addRoad 19 = .ok (.aload_n 0, 1) := by decide +kernel
theorem dX0_addRoad_20 : decode cX0_addRoad 20 = .ok (.getfield 18, 3) := by decide +kernel
theorem dX0_addRoad_23 : decode cX0_addRoad 23 = .ok (.aload_n 0, 1) := by decide +kernel
theorem dX0_addRoad_24 : decode cX0_addRoad 24 = .ok (.getfield 55, 3) := by decide +kernel
theorem dX0_addRoad_27 : decode cX0_addRoad 27 = .ok (.iload_n 2, 1) := by decide +kernel
theorem dX0_addRoad_28 : decode cX0_addRoad 28 = .ok (.iastore, 1) := by decide +kernel
theorem dX0_addRoad_29 : decode cX0_addRoad 29 = .ok (.aload_n 0, 1) := by decide +kernel
theorem dX0_addRoad_30 : decode cX0_addRoad 30 = .ok (.getfield 21, 3) := by decide +kernel
theorem dX0_addRoad_33 : decode cX0_addRoad 33 = .ok (.aload_n 0, 1) := by decide +kernel
theorem dX0_addRoad_34 : decode cX0_addRoad 34 = .ok (.getfield 55, 3) := by decide +kernel
theorem dX0_addRoad_37 : decode cX0_addRoad 37 = .ok (.iload_n 3, 1) := by decide +kernel
theorem dX0_addRoad_38 : decode cX0_addRoad 38 = .ok (.iastore, 1) := by decide +kernel
theorem dX0_addRoad_39 : decode cX0_addRoad 39 = .ok (.aload_n 0, 1) := by decide +kernel
theorem dX0_addRoad_40 : decode cX0_addRoad 40 = .ok (.dup, 1) := by decide +kernel
theorem dX0_addRoad_41 : decode cX0_addRoad 41 = .ok (.getfield 55, 3) := by decide +kernel
theorem dX0_addRoad_44 : decode cX0_addRoad 44 = .ok (.dup_x1, 1) := by decide +kernel
theorem dX0_addRoad_45 : decode cX0_addRoad 45 = .ok (.iconst 1, 1) := by decide +kernel
theorem dX0_addRoad_46 : decode cX0_addRoad 46 = .ok (.iadd, 1) := by decide +kernel
theorem dX0_addRoad_47 : decode cX0_addRoad 47 = .ok (.putfield 55, 3) := by decide +kernel
theorem dX0_addRoad_50 : decode cX0_addRoad 50 = .ok (.ireturn, 1) := by decide +kernel
theorem dX0_addLetter_0 : decode cX0_addLetter 0 = .ok (.aload_n 0, 1) := by decide +kernel
theorem dX0_addLetter_1 : decode cX0_addLetter 1 = .ok (.invokevirtual 75, 3) := by decide +kernel
theorem dX0_addLetter_4 : decode cX0_addLetter 4 = .ok (.ifCond .eq 5, 3) := by decide +kernel
theorem dX0_addLetter_7 : decode cX0_addLetter 7 = .ok (.iconst (-1), 1) := by decide +kernel
theorem dX0_addLetter_8 : decode cX0_addLetter 8 = .ok (.ireturn, 1) := by decide +kernel
theorem dX0_addLetter_9 : decode cX0_addLetter 9 = .ok (.aload_n 0, 1) := by decide +kernel
theorem dX0_addLetter_10 : decode cX0_addLetter 10 = .ok (.getfield 28, 3) := by decide +kernel
theorem dX0_addLetter_13 : decode cX0_addLetter 13 = .ok (.aload_n 0, 1) := by decide +kernel
theorem dX0_addLetter_14 : decode cX0_addLetter 14 = .ok (.getfield 61, 3) := by decide +kernel
theorem dX0_addLetter_17 : decode cX0_addLetter 17 = .ok (.iload_n 1, 1) := by decide +kernel
theorem dX0_addLetter_18 : decode cX0_addLetter 18 = .ok (.iastore, 1) := by decide +kernel
theorem dX0_addLetter_19 : decode cX0_addLetter 19 = .ok (.aload_n 0, 1) := by decide +kernel
theorem dX0_addLetter_20 : decode cX0_addLetter 20 = .ok (.getfield 31, 3) := by decide +kernel
theorem dX0_addLetter_23 : decode cX0_addLetter 23 = .ok (.aload_n 0, 1) := by decide +kernel
theorem dX0_addLetter_24 : decode cX0_addLetter 24 = .ok (.getfield 61, 3) := by decide +kernel
theorem dX0_addLetter_27 : decode cX0_addLetter 27 = .ok (.iload_n 2, 1) := by decide +kernel
theorem dX0_addLetter_28 : decode cX0_addLetter 28 = .ok (.iastore, 1) := by decide +kernel
theorem dX0_addLetter_29 : decode cX0_addLetter 29 = .ok (.aload_n 0, 1) := by decide +kernel
theorem dX0_addLetter_30 : decode cX0_addLetter 30 = .ok (.getfield 34, 3) := by decide +kernel
theorem dX0_addLetter_33 : decode cX0_addLetter 33 = .ok (.aload_n 0, 1) := by decide +kernel
theorem dX0_addLetter_34 : decode cX0_addLetter 34 = .ok (.getfield 61, 3) := by decide +kernel
theorem dX0_addLetter_37 : decode cX0_addLetter 37 = .ok (.iload_n 3, 1) := by decide +kernel
theorem dX0_addLetter_38 : decode cX0_addLetter 38 = .ok (.iastore, 1) := by decide +kernel
theorem dX0_addLetter_39 : decode cX0_addLetter 39 = .ok (.aload_n 0, 1) := by decide +kernel
theorem dX0_addLetter_40 : decode cX0_addLetter 40 = .ok (.getfield 37, 3) := by decide +kernel
theorem dX0_addLetter_43 : decode cX0_addLetter 43 = .ok (.aload_n 0, 1) := by decide +kernel
theorem dX0_addLetter_44 : decode cX0_addLetter 44 = .ok (.getfield 61, 3) := by decide +kernel
theorem dX0_addLetter_47 : decode cX0_addLetter 47 = .ok (.aload_n 0, 1) := by decide +kernel
theorem dX0_addLetter_48 : decode cX0_addLetter 48 = .ok (.getfield 58, 3) := by decide +kernel
theorem dX0_addLetter_51 : decode cX0_addLetter 51 = .ok (.iastore, 1) := by decide +kernel
theorem dX0_addLetter_52 : decode cX0_addLetter 52 = .ok (.aload_n 0, 1) := by decide +kernel
theorem dX0_addLetter_53 : decode cX0_addLetter 53 = .ok (.getfield 40, 3) := by decide +kernel
theorem dX0_addLetter_56 : decode cX0_addLetter 56 = .ok (.aload_n 0, 1) := by decide +kernel
theorem dX0_addLetter_57 : decode cX0_addLetter 57 = .ok (.getfield 61, 3) := by decide +kernel
theorem dX0_addLetter_60 : decode cX0_addLetter 60 = .ok (.iconst 0, 1) := by decide +kernel
theorem dX0_addLetter_61 : decode cX0_addLetter 61 = .ok (.iastore, 1) := by decide +kernel
theorem dX0_addLetter_62 : decode cX0_addLetter 62 = .ok (.aload_n 0, 1) := by decide +kernel
theorem dX0_addLetter_63 : decode cX0_addLetter 63 = .ok (.dup, 1) := by decide +kernel
theorem dX0_addLetter_64 : decode cX0_addLetter 64 = .ok (.getfield 61, 3) := by decide +kernel
theorem dX0_addLetter_67 : decode cX0_addLetter 67 = .ok (.dup_x1, 1) := by decide +kernel
theorem dX0_addLetter_68 : decode cX0_addLetter 68 = .ok (.iconst 1, 1) := by decide +kernel
theorem dX0_addLetter_69 : decode cX0_addLetter 69 = .ok (.iadd, 1) := by decide +kernel
theorem dX0_addLetter_70 : decode cX0_addLetter 70 = .ok (.putfield 61, 3) := by decide +kernel
theorem dX0_addLetter_73 : decode cX0_addLetter 73 = .ok (.ireturn, 1) := by decide +kernel
theorem dX0_heightOf_0 : decode cX0_heightOf 0 = .ok (.aload_n 0, 1) := by decide +kernel
theorem dX0_heightOf_1 : decode cX0_heightOf 1 = .ok (.iload_n 1, 1) := by decide +kernel
theorem dX0_heightOf_2 : decode cX0_heightOf 2 = .ok (.invokevirtual 78, 3) := by decide +kernel
theorem dX0_heightOf_5 : decode cX0_heightOf 5 = .ok (.ifCond .eq 12, 3) := by decide +kernel
theorem dX0_heightOf_8 : decode cX0_heightOf 8 = .ok (.aload_n 0, 1) := by decide +kernel
theorem dX0_heightOf_9 : decode cX0_heightOf 9 = .ok (.getfield 9, 3) := by decide +kernel
theorem dX0_heightOf_12 : decode cX0_heightOf 12 = .ok (.iload_n 1, 1) := by decide +kernel
theorem dX0_heightOf_13 : decode cX0_heightOf 13 = .ok (.iaload, 1) := by decide +kernel
theorem dX0_heightOf_14 : decode cX0_heightOf 14 = .ok (.goto 4, 3) := by decide +kernel
theorem dX0_heightOf_17 : decode cX0_heightOf 17 = .ok (.iconst 0, 1) := by decide +kernel
theorem dX0_heightOf_18 : decode cX0_heightOf 18 = .ok (.ireturn, 1) := by decide +kernel
theorem dX0_setHeight_0 : decode cX0_setHeight 0 = .ok (.aload_n 0, 1) := by decide +kernel
theorem dX0_setHeight_1 : decode cX0_setHeight 1 = .ok (.iload_n 1, 1) := by decide +kernel
theorem dX0_setHeight_2 : decode cX0_setHeight 2 = .ok (.invokevirtual 78, 3) := by decide +kernel
theorem dX0_setHeight_5 : decode cX0_setHeight 5 = .ok (.ifCond .eq 10, 3) := by decide +kernel
theorem dX0_setHeight_8 : decode cX0_setHeight 8 = .ok (.aload_n 0, 1) := by decide +kernel
theorem dX0_setHeight_9 : decode cX0_setHeight 9 = .ok (.getfield 9, 3) := by decide +kernel
theorem dX0_setHeight_12 : decode cX0_setHeight 12 = .ok (.iload_n 1, 1) := by decide +kernel
theorem dX0_setHeight_13 : decode cX0_setHeight 13 = .ok (.iload_n 2, 1) := by decide +kernel
theorem dX0_setHeight_14 : decode cX0_setHeight 14 = .ok (.iastore, 1) := by decide +kernel
theorem dX0_setHeight_15 : decode cX0_setHeight 15 = .ok (.return_, 1) := by decide +kernel
theorem dX0_isHermits_0 : decode cX0_isHermits 0 = .ok (.aload_n 0, 1) := by decide +kernel
theorem dX0_isHermits_1 : decode cX0_isHermits 1 = .ok (.getfield 52, 3) := by decide +kernel
theorem dX0_isHermits_4 : decode cX0_isHermits 4 = .ok (.iload_n 1, 1) := by decide +kernel
theorem dX0_isHermits_5 : decode cX0_isHermits 5 = .ok (.ishr, 1) := by decide +kernel
theorem dX0_isHermits_6 : decode cX0_isHermits 6 = .ok (.iconst 1, 1) := by decide +kernel
theorem dX0_isHermits_7 : decode cX0_isHermits 7 = .ok (.iand, 1) := by decide +kernel
theorem dX0_isHermits_8 : decode cX0_isHermits 8 = .ok (.iconst 1, 1) := by decide +kernel
theorem dX0_isHermits_9 : decode cX0_isHermits 9 = .ok (.if_icmp .ne 7, 3) := by decide +kernel
theorem dX0_isHermits_12 : decode cX0_isHermits 12 = .ok (.iconst 1, 1) := by decide +kernel
theorem dX0_isHermits_13 : decode cX0_isHermits 13 = .ok (.goto 4, 3) := by decide +kernel
theorem dX0_isHermits_16 : decode cX0_isHermits 16 = .ok (.iconst 0, 1) := by decide +kernel
theorem dX0_isHermits_17 : decode cX0_isHermits 17 = .ok (.ireturn, 1) := by decide +kernel
theorem dX0_setHermits_0 : decode cX0_setHermits 0 = .ok (.aload_n 0, 1) := by decide +kernel
theorem dX0_setHermits_1 : decode cX0_setHermits 1 = .ok (.iload_n 1, 1) := by decide +kernel
theorem dX0_setHermits_2 : decode cX0_setHermits 2 = .ok (.invokevirtual 78, 3) := by decide +kernel
theorem dX0_setHermits_5 : decode cX0_setHermits 5 = .ok (.ifCond .eq 32, 3) := by decide +kernel
theorem dX0_setHermits_8 : decode cX0_setHermits 8 = .ok (.aload_n 0, 1) := by decide +kernel
theorem dX0_setHermits_9 : decode cX0_setHermits 9 = .ok (.iload_n 2, 1) := by decide +kernel
theorem dX0_setHermits_10 : decode cX0_setHermits 10 = .ok (.ifCond .eq 14, 3) := by decide +kernel
theorem dX0_setHermits_13 : decode cX0_setHermits 13 = .ok (.aload_n 0, 1) := by decide +kernel
theorem dX0_setHermits_14 : decode cX0_setHermits 14 = .ok (.getfield 52, 3) := by decide +kernel
theorem dX0_setHermits_17 : decode cX0_setHermits 17 = .ok (.iconst 1, 1) := by decide +kernel
theorem dX0_setHermits_18 : decode cX0_setHermits 18 = .ok (.iload_n 1, 1) := by decide +kernel
theorem dX0_setHermits_19 : decode cX0_setHermits 19 = .ok (.ishl, 1) := by decide +kernel
theorem dX0_setHermits_20 : decode cX0_setHermits 20 = .ok (.ior, 1) := by decide +kernel
theorem dX0_setHermits_21 : decode cX0_setHermits 21 = .ok (.goto 13, 3) := by decide +kernel
theorem dX0_setHermits_24 : decode cX0_setHermits 24 = .ok (.aload_n 0, 1) := by decide +kernel
theorem dX0_setHermits_25 : decode cX0_setHermits 25 = .ok (.getfield 52, 3) := by decide +kernel
theorem dX0_setHermits_28 : decode cX0_setHermits 28 = .ok (.iconst 1, 1) := by decide +kernel
theorem dX0_setHermits_29 : decode cX0_setHermits 29 = .ok (.iload_n 1, 1) := by decide +kernel
theorem dX0_setHermits_30 : decode cX0_setHermits 30 = .ok (.ishl, 1) := by decide +kernel
theorem dX0_setHermits_31 : decode cX0_setHermits 31 = .ok (.iconst (-1), 1) := by decide +kernel
theorem dX0_setHermits_32 : decode cX0_setHermits 32 = .ok (.ixor, 1) := by decide +kernel
theorem dX0_setHermits_33 : decode cX0_setHermits 33 = .ok (.iand, 1) := by decide +kernel
theorem dX0_setHermits_34 : decode cX0_setHermits 34 = .ok (.putfield 52, 3) := by decide +kernel
theorem dX0_setHermits_37 : decode cX0_setHermits 37 = .ok (.return_, 1) := by decide +kernel
theorem dX0_allVillages_0 : decode cX0_allVillages 0 = .ok (.iconst 1, 1) := by decide +kernel
theorem dX0_allVillages_1 : decode cX0_allVillages 1 = .ok (.aload_n 0, 1) := by decide +kernel
theorem dX0_allVillages_2 : decode cX0_allVillages 2 = .ok (.getfield 43, 3) := by decide +kernel
theorem dX0_allVillages_5 : decode cX0_allVillages 5 = .ok (.ishl, 1) := by decide +kernel
theorem dX0_allVillages_6 : decode cX0_allVillages 6 = .ok (.iconst 1, 1) := by decide +kernel
theorem dX0_allVillages_7 : decode cX0_allVillages 7 = .ok (.isub, 1) := by decide +kernel
theorem dX0_allVillages_8 : decode cX0_allVillages 8 = .ok (.ireturn, 1) := by decide +kernel
theorem dX0_roadsOf_0 : decode cX0_roadsOf 0 = .ok (.iconst 0, 1) := by decide +kernel
theorem dX0_roadsOf_1 : decode cX0_roadsOf 1 = .ok (.istore_n 2, 1) := by decide +kernel
theorem dX0_roadsOf_2 : decode cX0_roadsOf 2 = .ok (.iconst 0, 1) := by decide +kernel
theorem dX0_roadsOf_3 : decode cX0_roadsOf 3 = .ok (.istore_n 3, 1) := by decide +kernel
theorem dX0_roadsOf_4 : decode cX0_roadsOf 4 = .ok (.iload_n 3, 1) := by decide +kernel
theorem dX0_roadsOf_5 : decode cX0_roadsOf 5 = .ok (.aload_n 0, 1) := by decide +kernel
theorem dX0_roadsOf_6 : decode cX0_roadsOf 6 = .ok (.getfield 55, 3) := by decide +kernel
theorem dX0_roadsOf_9 : decode cX0_roadsOf 9 = .ok (.if_icmp .ge 32, 3) := by decide +kernel
theorem dX0_roadsOf_12 : decode cX0_roadsOf 12 = .ok (.aload_n 0, 1) := by decide +kernel
theorem dX0_roadsOf_13 : decode cX0_roadsOf 13 = .ok (.getfield 15, 3) := by decide +kernel
theorem dX0_roadsOf_16 : decode cX0_roadsOf 16 = .ok (.iload_n 3, 1) := by decide +kernel
theorem dX0_roadsOf_17 : decode cX0_roadsOf 17 = .ok (.iaload, 1) := by decide +kernel
theorem dX0_roadsOf_18 : decode cX0_roadsOf 18 = .ok (.iload_n 1, 1) := by decide +kernel
theorem dX0_roadsOf_19 : decode cX0_roadsOf 19 = .ok (.if_icmp .eq 13, 3) := by decide +kernel
theorem dX0_roadsOf_22 : decode cX0_roadsOf 22 = .ok (.aload_n 0, 1) := by decide +kernel
theorem dX0_roadsOf_23 : decode cX0_roadsOf 23 = .ok (.getfield 18, 3) := by decide +kernel
theorem dX0_roadsOf_26 : decode cX0_roadsOf 26 = .ok (.iload_n 3, 1) := by decide +kernel
theorem dX0_roadsOf_27 : decode cX0_roadsOf 27 = .ok (.iaload, 1) := by decide +kernel
theorem dX0_roadsOf_28 : decode cX0_roadsOf 28 = .ok (.iload_n 1, 1) := by decide +kernel
theorem dX0_roadsOf_29 : decode cX0_roadsOf 29 = .ok (.if_icmp .ne 6, 3) := by decide +kernel
theorem dX0_roadsOf_32 : decode cX0_roadsOf 32 = .ok (.iinc 2 1, 3) := by decide +kernel
theorem dX0_roadsOf_35 : decode cX0_roadsOf 35 = .ok (.iinc 3 1, 3) := by decide +kernel
theorem dX0_roadsOf_38 : decode cX0_roadsOf 38 = .ok (.goto (-34), 3) := by decide +kernel
theorem dX0_roadsOf_41 : decode cX0_roadsOf 41 = .ok (.iload_n 2, 1) := by decide +kernel
theorem dX0_roadsOf_42 : decode cX0_roadsOf 42 = .ok (.ireturn, 1) := by decide +kernel
theorem dX0_areJoined_0 : decode cX0_areJoined 0 = .ok (.iconst 0, 1) := by decide +kernel
theorem dX0_areJoined_1 : decode cX0_areJoined 1 = .ok (.istore_n 3, 1) := by decide +kernel
theorem dX0_areJoined_2 : decode cX0_areJoined 2 = .ok (.iload_n 3, 1) := by decide +kernel
theorem dX0_areJoined_3 : decode cX0_areJoined 3 = .ok (.aload_n 0, 1) := by decide +kernel
theorem dX0_areJoined_4 : decode cX0_areJoined 4 = .ok (.getfield 55, 3) := by decide +kernel
theorem dX0_areJoined_7 : decode cX0_areJoined 7 = .ok (.if_icmp .ge 51, 3) := by decide +kernel
theorem dX0_areJoined_10 : decode cX0_areJoined 10 = .ok (.aload_n 0, 1) := by decide +kernel
theorem dX0_areJoined_11 : decode cX0_areJoined 11 = .ok (.getfield 15, 3) := by decide +kernel
theorem dX0_areJoined_14 : decode cX0_areJoined 14 = .ok (.iload_n 3, 1) := by decide +kernel
theorem dX0_areJoined_15 : decode cX0_areJoined 15 = .ok (.iaload, 1) := by decide +kernel
theorem dX0_areJoined_16 : decode cX0_areJoined 16 = .ok (.iload_n 1, 1) := by decide +kernel
theorem dX0_areJoined_17 : decode cX0_areJoined 17 = .ok (.if_icmp .ne 13, 3) := by decide +kernel
theorem dX0_areJoined_20 : decode cX0_areJoined 20 = .ok (.aload_n 0, 1) := by decide +kernel
theorem dX0_areJoined_21 : decode cX0_areJoined 21 = .ok (.getfield 18, 3) := by decide +kernel
theorem dX0_areJoined_24 : decode cX0_areJoined 24 = .ok (.iload_n 3, 1) := by decide +kernel
theorem dX0_areJoined_25 : decode cX0_areJoined 25 = .ok (.iaload, 1) := by decide +kernel
theorem dX0_areJoined_26 : decode cX0_areJoined 26 = .ok (.iload_n 2, 1) := by decide +kernel
theorem dX0_areJoined_27 : decode cX0_areJoined 27 = .ok (.if_icmp .eq 23, 3) := by decide +kernel
theorem dX0_areJoined_30 : decode cX0_areJoined 30 = .ok (.aload_n 0, 1) := by decide +kernel
theorem dX0_areJoined_31 : decode cX0_areJoined 31 = .ok (.getfield 15, 3) := by decide +kernel
theorem dX0_areJoined_34 : decode cX0_areJoined 34 = .ok (.iload_n 3, 1) := by decide +kernel
theorem dX0_areJoined_35 : decode cX0_areJoined 35 = .ok (.iaload, 1) := by decide +kernel
theorem dX0_areJoined_36 : decode cX0_areJoined 36 = .ok (.iload_n 2, 1) := by decide +kernel
theorem dX0_areJoined_37 : decode cX0_areJoined 37 = .ok (.if_icmp .ne 15, 3) := by decide +kernel
theorem dX0_areJoined_40 : decode cX0_areJoined 40 = .ok (.aload_n 0, 1) := by decide +kernel
theorem dX0_areJoined_41 : decode cX0_areJoined 41 = .ok (.getfield 18, 3) := by decide +kernel
theorem dX0_areJoined_44 : decode cX0_areJoined 44 = .ok (.iload_n 3, 1) := by decide +kernel
theorem dX0_areJoined_45 : decode cX0_areJoined 45 = .ok (.iaload, 1) := by decide +kernel
theorem dX0_areJoined_46 : decode cX0_areJoined 46 = .ok (.iload_n 1, 1) := by decide +kernel
theorem dX0_areJoined_47 : decode cX0_areJoined 47 = .ok (.if_icmp .ne 5, 3) := by decide +kernel
theorem dX0_areJoined_50 : decode cX0_areJoined 50 = .ok (.iconst 1, 1) := by decide +kernel
theorem dX0_areJoined_51 : decode cX0_areJoined 51 = .ok (.ireturn, 1) := by decide +kernel
theorem dX0_areJoined_52 : decode cX0_areJoined 52 = .ok (.iinc 3 1, 3) := by decide +kernel
theorem dX0_areJoined_55 : decode cX0_areJoined 55 = .ok (.goto (-53), 3) := by decide +kernel
theorem dX0_areJoined_58 : decode cX0_areJoined 58 = .ok (.iconst 0, 1) := by decide +kernel
theorem dX0_areJoined_59 : decode cX0_areJoined 59 = .ok (.ireturn, 1) := by decide +kernel
theorem dX0_lowest_0 : decode cX0_lowest 0 = .ok (.iconst 0, 1) := by decide +kernel
theorem dX0_lowest_1 : decode cX0_lowest 1 = .ok (.istore_n 1, 1) := by decide +kernel
theorem dX0_lowest_2 : decode cX0_lowest 2 = .ok (.iconst 1, 1) := by decide +kernel
theorem dX0_lowest_3 : decode cX0_lowest 3 = .ok (.istore_n 2, 1) := by decide +kernel
theorem dX0_lowest_4 : decode cX0_lowest 4 = .ok (.iload_n 2, 1) := by decide +kernel
theorem dX0_lowest_5 : decode cX0_lowest 5 = .ok (.aload_n 0, 1) := by decide +kernel
theorem dX0_lowest_6 : decode cX0_lowest 6 = .ok (.getfield 43, 3) := by decide +kernel
theorem dX0_lowest_9 : decode cX0_lowest 9 = .ok (.if_icmp .ge 26, 3) := by decide +kernel
theorem dX0_lowest_12 : decode cX0_lowest 12 = .ok (.aload_n 0, 1) := by decide +kernel
theorem dX0_lowest_13 : decode cX0_lowest 13 = .ok (.getfield 9, 3) := by decide +kernel
theorem dX0_lowest_16 : decode cX0_lowest 16 = .ok (.iload_n 2, 1) := by decide +kernel
theorem dX0_lowest_17 : decode cX0_lowest 17 = .ok (.iaload, 1) := by decide +kernel
theorem dX0_lowest_18 : decode cX0_lowest 18 = .ok (.aload_n 0, 1) := by decide +kernel
theorem dX0_lowest_19 : decode cX0_lowest 19 = .ok (.getfield 9, 3) := by decide +kernel
theorem dX0_lowest_22 : decode cX0_lowest 22 = .ok (.iload_n 1, 1) := by decide +kernel
theorem dX0_lowest_23 : decode cX0_lowest 23 = .ok (.iaload, 1) := by decide +kernel
theorem dX0_lowest_24 : decode cX0_lowest 24 = .ok (.if_icmp .ge 5, 3) := by decide +kernel
theorem dX0_lowest_27 : decode cX0_lowest 27 = .ok (.iload_n 2, 1) := by decide +kernel
theorem dX0_lowest_28 : decode cX0_lowest 28 = .ok (.istore_n 1, 1) := by decide +kernel
theorem dX0_lowest_29 : decode cX0_lowest 29 = .ok (.iinc 2 1, 3) := by decide +kernel
theorem dX0_lowest_32 : decode cX0_lowest 32 = .ok (.goto (-28), 3) := by decide +kernel
theorem dX0_lowest_35 : decode cX0_lowest 35 = .ok (.iload_n 1, 1) := by decide +kernel
theorem dX0_lowest_36 : decode cX0_lowest 36 = .ok (.ireturn, 1) := by decide +kernel
theorem dX0_highest_0 : decode cX0_highest 0 = .ok (.iconst 0, 1) := by decide +kernel
theorem dX0_highest_1 : decode cX0_highest 1 = .ok (.istore_n 1, 1) := by decide +kernel
theorem dX0_highest_2 : decode cX0_highest 2 = .ok (.iconst 1, 1) := by decide +kernel
theorem dX0_highest_3 : decode cX0_highest 3 = .ok (.istore_n 2, 1) := by decide +kernel
theorem dX0_highest_4 : decode cX0_highest 4 = .ok (.iload_n 2, 1) := by decide +kernel
theorem dX0_highest_5 : decode cX0_highest 5 = .ok (.aload_n 0, 1) := by decide +kernel
theorem dX0_highest_6 : decode cX0_highest 6 = .ok (.getfield 43, 3) := by decide +kernel
theorem dX0_highest_9 : decode cX0_highest 9 = .ok (.if_icmp .ge 26, 3) := by decide +kernel
theorem dX0_highest_12 : decode cX0_highest 12 = .ok (.aload_n 0, 1) := by decide +kernel
theorem dX0_highest_13 : decode cX0_highest 13 = .ok (.getfield 9, 3) := by decide +kernel
theorem dX0_highest_16 : decode cX0_highest 16 = .ok (.iload_n 2, 1) := by decide +kernel
theorem dX0_highest_17 : decode cX0_highest 17 = .ok (.iaload, 1) := by decide +kernel
theorem dX0_highest_18 : decode cX0_highest 18 = .ok (.aload_n 0, 1) := by decide +kernel
theorem dX0_highest_19 : decode cX0_highest 19 = .ok (.getfield 9, 3) := by decide +kernel
theorem dX0_highest_22 : decode cX0_highest 22 = .ok (.iload_n 1, 1) := by decide +kernel
theorem dX0_highest_23 : decode cX0_highest 23 = .ok (.iaload, 1) := by decide +kernel
theorem dX0_highest_24 : decode cX0_highest 24 = .ok (.if_icmp .le 5, 3) := by decide +kernel
theorem dX0_highest_27 : decode cX0_highest 27 = .ok (.iload_n 2, 1) := by decide +kernel
theorem dX0_highest_28 : decode cX0_highest 28 = .ok (.istore_n 1, 1) := by decide +kernel
theorem dX0_highest_29 : decode cX0_highest 29 = .ok (.iinc 2 1, 3) := by decide +kernel
theorem dX0_highest_32 : decode cX0_highest 32 = .ok (.goto (-28), 3) := by decide +kernel
theorem dX0_highest_35 : decode cX0_highest 35 = .ok (.iload_n 1, 1) := by decide +kernel
theorem dX0_highest_36 : decode cX0_highest 36 = .ok (.ireturn, 1) := by decide +kernel
theorem dX0_heightsTogether_0 : decode cX0_heightsTogether 0 = .ok (.iconst 0, 1) := by decide +kernel
theorem dX0_heightsTogether_1 : decode cX0_heightsTogether 1 = .ok (.istore_n 1, 1) := by decide +kernel
theorem dX0_heightsTogether_2 : decode cX0_heightsTogether 2 = .ok (.iconst 0, 1) := by decide +kernel
theorem dX0_heightsTogether_3 : decode cX0_heightsTogether 3 = .ok (.istore_n 2, 1) := by decide +kernel
theorem dX0_heightsTogether_4 : decode cX0_heightsTogether 4 = .ok (.iload_n 2, 1) := by decide +kernel
theorem dX0_heightsTogether_5 : decode cX0_heightsTogether 5 = .ok (.aload_n 0, 1) := by decide +kernel
theorem dX0_heightsTogether_6 : decode cX0_heightsTogether 6 = .ok (.getfield 43, 3) := by decide +kernel
theorem dX0_heightsTogether_9 : decode cX0_heightsTogether 9 = .ok (.if_icmp .ge 18, 3) := by decide +kernel
theorem dX0_heightsTogether_12 : decode cX0_heightsTogether 12 = .ok (.iload_n 1, 1) := by decide +kernel
theorem dX0_heightsTogether_13 : decode cX0_heightsTogether 13 = .ok (.aload_n 0, 1) := by decide +kernel
theorem dX0_heightsTogether_14 : decode cX0_heightsTogether 14 = .ok (.getfield 9, 3) := by decide +kernel
theorem dX0_heightsTogether_17 : decode cX0_heightsTogether 17 = .ok (.iload_n 2, 1) := by decide +kernel
theorem dX0_heightsTogether_18 : decode cX0_heightsTogether 18 = .ok (.iaload, 1) := by decide +kernel
theorem dX0_heightsTogether_19 : decode cX0_heightsTogether 19 = .ok (.iadd, 1) := by decide +kernel
theorem dX0_heightsTogether_20 : decode cX0_heightsTogether 20 = .ok (.istore_n 1, 1) := by decide +kernel
theorem dX0_heightsTogether_21 : decode cX0_heightsTogether 21 = .ok (.iinc 2 1, 3) := by decide +kernel
theorem dX0_heightsTogether_24 : decode cX0_heightsTogether 24 = .ok (.goto (-20), 3) := by decide +kernel
theorem dX0_heightsTogether_27 : decode cX0_heightsTogether 27 = .ok (.iload_n 1, 1) := by decide +kernel
theorem dX0_heightsTogether_28 : decode cX0_heightsTogether 28 = .ok (.ireturn, 1) := by decide +kernel
theorem dX0_takes_0 : decode cX0_takes 0 = .ok (.iload_n 1, 1) := by decide +kernel
theorem dX0_takes_1 : decode cX0_takes 1 = .ok (.iconst 4, 1) := by decide +kernel
theorem dX0_takes_2 : decode cX0_takes 2 = .ok (.if_icmp .ne 11, 3) := by decide +kernel
theorem dX0_takes_5 : decode cX0_takes 5 = .ok (.aload_n 0, 1) := by decide +kernel
theorem dX0_takes_6 : decode cX0_takes 6 = .ok (.iload_n 2, 1) := by decide +kernel
theorem dX0_takes_7 : decode cX0_takes 7 = .ok (.invokevirtual 82, 3) := by decide +kernel
theorem dX0_takes_10 : decode cX0_takes 10 = .ok (.ifCond .ne 7, 3) := by decide +kernel
theorem dX0_takes_13 : decode cX0_takes 13 = .ok (.iconst 1, 1) := by decide +kernel
theorem dX0_takes_14 : decode cX0_takes 14 = .ok (.goto 4, 3) := by decide +kernel
theorem dX0_takes_17 : decode cX0_takes 17 = .ok (.iconst 0, 1) := by decide +kernel
theorem dX0_takes_18 : decode cX0_takes 18 = .ok (.ireturn, 1) := by decide +kernel
theorem dX0_carries_0 : decode cX0_carries 0 = .ok (.aload_n 0, 1) := by decide +kernel
theorem dX0_carries_1 : decode cX0_carries 1 = .ok (.iload_n 1, 1) := by decide +kernel
theorem dX0_carries_2 : decode cX0_carries 2 = .ok (.iload_n 3, 1) := by decide +kernel
theorem dX0_carries_3 : decode cX0_carries 3 = .ok (.invokevirtual 85, 3) := by decide +kernel
theorem dX0_carries_6 : decode cX0_carries 6 = .ok (.ifCond .eq 25, 3) := by decide +kernel
theorem dX0_carries_9 : decode cX0_carries 9 = .ok (.aload_n 0, 1) := by decide +kernel
theorem dX0_carries_10 : decode cX0_carries 10 = .ok (.iload_n 2, 1) := by decide +kernel
theorem dX0_carries_11 : decode cX0_carries 11 = .ok (.invokevirtual 89, 3) := by decide +kernel
theorem dX0_carries_14 : decode cX0_carries 14 = .ok (.aload_n 0, 1) := by decide +kernel
theorem dX0_carries_15 : decode cX0_carries 15 = .ok (.iload_n 3, 1) := by decide +kernel
theorem dX0_carries_16 : decode cX0_carries 16 = .ok (.invokevirtual 89, 3) := by decide +kernel
theorem dX0_carries_19 : decode cX0_carries 19 = .ok (.isub, 1) := by decide +kernel
theorem dX0_carries_20 : decode cX0_carries 20 = .ok (.iload_n 1, 1) := by decide +kernel
theorem dX0_carries_21 : decode cX0_carries 21 = .ok (.invokestatic 93, 3) := by decide +kernel
theorem dX0_carries_24 : decode cX0_carries 24 = .ok (.if_icmp .lt 7, 3) := by decide +kernel
theorem dX0_carries_27 : decode cX0_carries 27 = .ok (.iconst 1, 1) := by decide +kernel
theorem dX0_carries_28 : decode cX0_carries 28 = .ok (.goto 4, 3) := by decide +kernel
theorem dX0_carries_31 : decode cX0_carries 31 = .ok (.iconst 0, 1) := by decide +kernel
theorem dX0_carries_32 : decode cX0_carries 32 = .ok (.ireturn, 1) := by decide +kernel
theorem dX0_leadsInto_0 : decode cX0_leadsInto 0 = .ok (.aload_n 0, 1) := by decide +kernel
theorem dX0_leadsInto_1 : decode cX0_leadsInto 1 = .ok (.iload_n 2, 1) := by decide +kernel
theorem dX0_leadsInto_2 : decode cX0_leadsInto 2 = .ok (.iload_n 3, 1) := by decide +kernel
theorem dX0_leadsInto_3 : decode cX0_leadsInto 3 = .ok (.invokevirtual 98, 3) := by decide +kernel
theorem dX0_leadsInto_6 : decode cX0_leadsInto 6 = .ok (.ifCond .eq 17, 3) := by decide +kernel
theorem dX0_leadsInto_9 : decode cX0_leadsInto 9 = .ok (.aload_n 0, 1) := by decide +kernel
theorem dX0_leadsInto_10 : decode cX0_leadsInto 10 = .ok (.iload_n 1, 1) := by decide +kernel
theorem dX0_leadsInto_11 : decode cX0_leadsInto 11 = .ok (.iload_n 2, 1) := by decide +kernel
theorem dX0_leadsInto_12 : decode cX0_leadsInto 12 = .ok (.iload_n 3, 1) := by decide +kernel
theorem dX0_leadsInto_13 : decode cX0_leadsInto 13 = .ok (.invokevirtual 101, 3) := by decide +kernel
theorem dX0_leadsInto_16 : decode cX0_leadsInto 16 = .ok (.ifCond .eq 7, 3) := by decide +kernel
theorem dX0_leadsInto_19 : decode cX0_leadsInto 19 = .ok (.iconst 1, 1) := by decide +kernel
theorem dX0_leadsInto_20 : decode cX0_leadsInto 20 = .ok (.goto 4, 3) := by decide +kernel
theorem dX0_leadsInto_23 : decode cX0_leadsInto 23 = .ok (.iconst 0, 1) := by decide +kernel
theorem dX0_leadsInto_24 : decode cX0_leadsInto 24 = .ok (.ireturn, 1) := by decide +kernel
theorem dX0_balloonTakes_0 : decode cX0_balloonTakes 0 = .ok (.iload_n 1, 1) := by decide +kernel
theorem dX0_balloonTakes_1 : decode cX0_balloonTakes 1 = .ok (.iconst 5, 1) := by decide +kernel
theorem dX0_balloonTakes_2 : decode cX0_balloonTakes 2 = .ok (.if_icmp .eq 19, 3) := by decide +kernel
theorem dX0_balloonTakes_5 : decode cX0_balloonTakes 5 = .ok (.aload_n 0, 1) := by decide +kernel
theorem dX0_balloonTakes_6 : decode cX0_balloonTakes 6 = .ok (.iload_n 1, 1) := by decide +kernel
theorem dX0_balloonTakes_7 : decode cX0_balloonTakes 7 = .ok (.aload_n 0, 1) := by decide +kernel
theorem dX0_balloonTakes_8 : decode cX0_balloonTakes 8 = .ok (.invokevirtual 105, 3) := by decide +kernel
theorem dX0_balloonTakes_11 : decode cX0_balloonTakes 11 = .ok (.invokevirtual 85, 3) := by decide +kernel
theorem dX0_balloonTakes_14 : decode cX0_balloonTakes 14 = .ok (.ifCond .eq 7, 3) := by decide +kernel
theorem dX0_balloonTakes_17 : decode cX0_balloonTakes 17 = .ok (.iconst 1, 1) := by decide +kernel
theorem dX0_balloonTakes_18 : decode cX0_balloonTakes 18 = .ok (.goto 4, 3) := by decide +kernel
theorem dX0_balloonTakes_21 : decode cX0_balloonTakes 21 = .ok (.iconst 0, 1) := by decide +kernel
theorem dX0_balloonTakes_22 : decode cX0_balloonTakes 22 = .ok (.ireturn, 1) := by decide +kernel
theorem dX0_liesIn_0 : decode cX0_liesIn 0 = .ok (.aload_n 0, 1) := by decide +kernel
theorem dX0_liesIn_1 : decode cX0_liesIn 1 = .ok (.iload_n 1, 1) := by decide +kernel
theorem dX0_liesIn_2 : decode cX0_liesIn 2 = .ok (.invokevirtual 109, 3) := by decide +kernel
theorem dX0_liesIn_5 : decode cX0_liesIn 5 = .ok (.ifCond .eq 26, 3) := by decide +kernel
theorem dX0_liesIn_8 : decode cX0_liesIn 8 = .ok (.aload_n 0, 1) := by decide +kernel
theorem dX0_liesIn_9 : decode cX0_liesIn 9 = .ok (.getfield 40, 3) := by decide +kernel
theorem dX0_liesIn_12 : decode cX0_liesIn 12 = .ok (.iload_n 1, 1) := by decide +kernel
theorem dX0_liesIn_13 : decode cX0_liesIn 13 = .ok (.iaload, 1) := by decide +kernel
theorem dX0_liesIn_14 : decode cX0_liesIn 14 = .ok (.ifCond .ne 17, 3) := by decide +kernel
theorem dX0_liesIn_17 : decode cX0_liesIn 17 = .ok (.aload_n 0, 1) := by decide +kernel
theorem dX0_liesIn_18 : decode cX0_liesIn 18 = .ok (.getfield 31, 3) := by decide +kernel
theorem dX0_liesIn_21 : decode cX0_liesIn 21 = .ok (.iload_n 1, 1) := by decide +kernel
theorem dX0_liesIn_22 : decode cX0_liesIn 22 = .ok (.iaload, 1) := by decide +kernel
theorem dX0_liesIn_23 : decode cX0_liesIn 23 = .ok (.iload_n 2, 1) := by decide +kernel
theorem dX0_liesIn_24 : decode cX0_liesIn 24 = .ok (.if_icmp .ne 7, 3) := by decide +kernel
theorem dX0_liesIn_27 : decode cX0_liesIn 27 = .ok (.iconst 1, 1) := by decide +kernel
theorem dX0_liesIn_28 : decode cX0_liesIn 28 = .ok (.goto 4, 3) := by decide +kernel
theorem dX0_liesIn_31 : decode cX0_liesIn 31 = .ok (.iconst 0, 1) := by decide +kernel
theorem dX0_liesIn_32 : decode cX0_liesIn 32 = .ok (.ireturn, 1) := by decide +kernel
theorem dX0_isThere_0 : decode cX0_isThere 0 = .ok (.aload_n 0, 1) := by decide +kernel
theorem dX0_isThere_1 : decode cX0_isThere 1 = .ok (.iload_n 1, 1) := by decide +kernel
theorem dX0_isThere_2 : decode cX0_isThere 2 = .ok (.invokevirtual 109, 3) := by decide +kernel
theorem dX0_isThere_5 : decode cX0_isThere 5 = .ok (.ifCond .eq 21, 3) := by decide +kernel
theorem dX0_isThere_8 : decode cX0_isThere 8 = .ok (.aload_n 0, 1) := by decide +kernel
theorem dX0_isThere_9 : decode cX0_isThere 9 = .ok (.iload_n 1, 1) := by decide +kernel
theorem dX0_isThere_10 : decode cX0_isThere 10 = .ok (.aload_n 0, 1) := by decide +kernel
theorem dX0_isThere_11 : decode cX0_isThere 11 = .ok (.getfield 34, 3) := by decide +kernel
theorem dX0_isThere_14 : decode cX0_isThere 14 = .ok (.iload_n 1, 1) := by decide +kernel
theorem dX0_isThere_15 : decode cX0_isThere 15 = .ok (.iaload, 1) := by decide +kernel
theorem dX0_isThere_16 : decode cX0_isThere 16 = .ok (.invokevirtual 112, 3) := by decide +kernel
theorem dX0_isThere_19 : decode cX0_isThere 19 = .ok (.ifCond .eq 7, 3) := by decide +kernel
theorem dX0_isThere_22 : decode cX0_isThere 22 = .ok (.iconst 1, 1) := by decide +kernel
theorem dX0_isThere_23 : decode cX0_isThere 23 = .ok (.goto 4, 3) := by decide +kernel
theorem dX0_isThere_26 : decode cX0_isThere 26 = .ok (.iconst 0, 1) := by decide +kernel
theorem dX0_isThere_27 : decode cX0_isThere 27 = .ok (.ireturn, 1) := by decide +kernel
theorem dX0_lettersIn_0 : decode cX0_lettersIn 0 = .ok (.iconst 0, 1) := by decide +kernel
theorem dX0_lettersIn_1 : decode cX0_lettersIn 1 = .ok (.istore_n 2, 1) := by decide +kernel
theorem dX0_lettersIn_2 : decode cX0_lettersIn 2 = .ok (.iconst 0, 1) := by decide +kernel
theorem dX0_lettersIn_3 : decode cX0_lettersIn 3 = .ok (.istore_n 3, 1) := by decide +kernel
theorem dX0_lettersIn_4 : decode cX0_lettersIn 4 = .ok (.iload_n 3, 1) := by decide +kernel
theorem dX0_lettersIn_5 : decode cX0_lettersIn 5 = .ok (.aload_n 0, 1) := by decide +kernel
theorem dX0_lettersIn_6 : decode cX0_lettersIn 6 = .ok (.getfield 61, 3) := by decide +kernel
theorem dX0_lettersIn_9 : decode cX0_lettersIn 9 = .ok (.if_icmp .ge 24, 3) := by decide +kernel
theorem dX0_lettersIn_12 : decode cX0_lettersIn 12 = .ok (.aload_n 0, 1) := by decide +kernel
theorem dX0_lettersIn_13 : decode cX0_lettersIn 13 = .ok (.iload_n 3, 1) := by decide +kernel
theorem dX0_lettersIn_14 : decode cX0_lettersIn 14 = .ok (.iload_n 1, 1) := by decide +kernel
theorem dX0_lettersIn_15 : decode cX0_lettersIn 15 = .ok (.invokevirtual 112, 3) := by decide +kernel
theorem dX0_lettersIn_18 : decode cX0_lettersIn 18 = .ok (.ifCond .eq 9, 3) := by decide +kernel
theorem dX0_lettersIn_21 : decode cX0_lettersIn 21 = .ok (.iload_n 2, 1) := by decide +kernel
theorem dX0_lettersIn_22 : decode cX0_lettersIn 22 = .ok (.iconst 1, 1) := by decide +kernel
theorem dX0_lettersIn_23 : decode cX0_lettersIn 23 = .ok (.iload_n 3, 1) := by decide +kernel
theorem dX0_lettersIn_24 : decode cX0_lettersIn 24 = .ok (.ishl, 1) := by decide +kernel
theorem dX0_lettersIn_25 : decode cX0_lettersIn 25 = .ok (.ior, 1) := by decide +kernel
theorem dX0_lettersIn_26 : decode cX0_lettersIn 26 = .ok (.istore_n 2, 1) := by decide +kernel
theorem dX0_lettersIn_27 : decode cX0_lettersIn 27 = .ok (.iinc 3 1, 3) := by decide +kernel
theorem dX0_lettersIn_30 : decode cX0_lettersIn 30 = .ok (.goto (-26), 3) := by decide +kernel
theorem dX0_lettersIn_33 : decode cX0_lettersIn 33 = .ok (.iload_n 2, 1) := by decide +kernel
theorem dX0_lettersIn_34 : decode cX0_lettersIn 34 = .ok (.ireturn, 1) := by decide +kernel
theorem dX0_lettersThere_0 : decode cX0_lettersThere 0 = .ok (.iconst 0, 1) := by decide +kernel
theorem dX0_lettersThere_1 : decode cX0_lettersThere 1 = .ok (.istore_n 1, 1) := by decide +kernel
theorem dX0_lettersThere_2 : decode cX0_lettersThere 2 = .ok (.iconst 0, 1) := by decide +kernel
theorem dX0_lettersThere_3 : decode cX0_lettersThere 3 = .ok (.istore_n 2, 1) := by decide +kernel
theorem dX0_lettersThere_4 : decode cX0_lettersThere 4 = .ok (.iload_n 2, 1) := by decide +kernel
theorem dX0_lettersThere_5 : decode cX0_lettersThere 5 = .ok (.aload_n 0, 1) := by decide +kernel
theorem dX0_lettersThere_6 : decode cX0_lettersThere 6 = .ok (.getfield 61, 3) := by decide +kernel
theorem dX0_lettersThere_9 : decode cX0_lettersThere 9 = .ok (.if_icmp .ge 20, 3) := by decide +kernel
theorem dX0_lettersThere_12 : decode cX0_lettersThere 12 = .ok (.aload_n 0, 1) := by decide +kernel
theorem dX0_lettersThere_13 : decode cX0_lettersThere 13 = .ok (.iload_n 2, 1) := by decide +kernel
theorem dX0_lettersThere_14 : decode cX0_lettersThere 14 = .ok (.invokevirtual 115, 3) := by decide +kernel
theorem dX0_lettersThere_17 : decode cX0_lettersThere 17 = .ok (.ifCond .eq 6, 3) := by decide +kernel
theorem dX0_lettersThere_20 : decode cX0_lettersThere 20 = .ok (.iinc 1 1, 3) := by decide +kernel
theorem dX0_lettersThere_23 : decode cX0_lettersThere 23 = .ok (.iinc 2 1, 3) := by decide +kernel
theorem dX0_lettersThere_26 : decode cX0_lettersThere 26 = .ok (.goto (-22), 3) := by decide +kernel
theorem dX0_lettersThere_29 : decode cX0_lettersThere 29 = .ok (.iload_n 1, 1) := by decide +kernel
theorem dX0_lettersThere_30 : decode cX0_lettersThere 30 = .ok (.ireturn, 1) := by decide +kernel
theorem dX0_lettersOnTheirWay_0 : decode cX0_lettersOnTheirWay 0 = .ok (.iconst 0, 1) := by decide +kernel
theorem dX0_lettersOnTheirWay_1 : decode cX0_lettersOnTheirWay 1 = .ok (.istore_n 1, 1) := by decide +kernel
theorem dX0_lettersOnTheirWay_2 : decode cX0_lettersOnTheirWay 2 = .ok (.iconst 0, 1) := by decide +kernel
theorem dX0_lettersOnTheirWay_3 : decode cX0_lettersOnTheirWay 3 = .ok (.istore_n 2, 1) := by decide +kernel
theorem dX0_lettersOnTheirWay_4 : decode cX0_lettersOnTheirWay 4 = .ok (.iload_n 2, 1) := by decide +kernel
theorem dX0_lettersOnTheirWay_5 : decode cX0_lettersOnTheirWay 5 = .ok (.aload_n 0, 1) := by decide +kernel
theorem dX0_lettersOnTheirWay_6 : decode cX0_lettersOnTheirWay 6 = .ok (.getfield 61, 3) := by decide +kernel
theorem dX0_lettersOnTheirWay_9 : decode cX0_lettersOnTheirWay 9 = .ok (.if_icmp .ge 21, 3) := by decide +kernel
theorem dX0_lettersOnTheirWay_12 : decode cX0_lettersOnTheirWay 12 = .ok (.aload_n 0, 1) := by decide +kernel
theorem dX0_lettersOnTheirWay_13 : decode cX0_lettersOnTheirWay 13 = .ok (.getfield 40, 3) := by decide +kernel
theorem dX0_lettersOnTheirWay_16 : decode cX0_lettersOnTheirWay 16 = .ok (.iload_n 2, 1) := by decide +kernel
theorem dX0_lettersOnTheirWay_17 : decode cX0_lettersOnTheirWay 17 = .ok (.iaload, 1) := by decide +kernel
theorem dX0_lettersOnTheirWay_18 : decode cX0_lettersOnTheirWay 18 = .ok (.ifCond .le 6, 3) := by decide +kernel
theorem dX0_lettersOnTheirWay_21 : decode cX0_lettersOnTheirWay 21 = .ok (.iinc 1 1, 3) := by decide +kernel
theorem dX0_lettersOnTheirWay_24 : decode cX0_lettersOnTheirWay 24 = .ok (.iinc 2 1, 3) := by decide +kernel
theorem dX0_lettersOnTheirWay_27 : decode cX0_lettersOnTheirWay 27 = .ok (.goto (-23), 3) := by decide +kernel
theorem dX0_lettersOnTheirWay_30 : decode cX0_lettersOnTheirWay 30 = .ok (.iload_n 1, 1) := by decide +kernel
theorem dX0_lettersOnTheirWay_31 : decode cX0_lettersOnTheirWay 31 = .ok (.ireturn, 1) := by decide +kernel
theorem dX0_passDay_0 : decode cX0_passDay 0 = .ok (.aload_n 0, 1) := by decide +kernel
theorem dX0_passDay_1 : decode cX0_passDay 1 = .ok (.iload_n 1, 1) := by decide +kernel
theorem dX0_passDay_2 : decode cX0_passDay 2 = .ok (.invokevirtual 109, 3) := by decide +kernel
theorem dX0_passDay_5 : decode cX0_passDay 5 = .ok (.ifCond .ne 4, 3) := by decide +kernel
theorem dX0_passDay_8 : decode cX0_passDay 8 = .ok (.return_, 1) := by decide +kernel
theorem dX0_passDay_9 : decode cX0_passDay 9 = .ok (.aload_n 0, 1) := by decide +kernel
theorem dX0_passDay_10 : decode cX0_passDay 10 = .ok (.getfield 40, 3) := by decide +kernel
theorem dX0_passDay_13 : decode cX0_passDay 13 = .ok (.iload_n 1, 1) := by decide +kernel
theorem dX0_passDay_14 : decode cX0_passDay 14 = .ok (.iaload, 1) := by decide +kernel
theorem dX0_passDay_15 : decode cX0_passDay 15 = .ok (.ifCond .ne 47, 3) := by decide +kernel
theorem dX0_passDay_18 : decode cX0_passDay 18 = .ok (.aload_n 2, 1) := by decide +kernel
theorem dX0_passDay_19 : decode cX0_passDay 19 = .ok (.aload_n 0, 1) := by decide +kernel
theorem dX0_passDay_20 : decode cX0_passDay 20 = .ok (.getfield 31, 3) := by decide +kernel
theorem dX0_passDay_23 : decode cX0_passDay 23 = .ok (.iload_n 1, 1) := by decide +kernel
theorem dX0_passDay_24 : decode cX0_passDay 24 = .ok (.iaload, 1) := by decide +kernel
theorem dX0_passDay_25 : decode cX0_passDay 25 = .ok (.aload_n 0, 1) := by decide +kernel
theorem dX0_passDay_26 : decode cX0_passDay 26 = .ok (.getfield 34, 3) := by decide +kernel
theorem dX0_passDay_29 : decode cX0_passDay 29 = .ok (.iload_n 1, 1) := by decide +kernel
theorem dX0_passDay_30 : decode cX0_passDay 30 = .ok (.iaload, 1) := by decide +kernel
theorem dX0_passDay_31 : decode cX0_passDay 31 = .ok (.iload_n 3, 1) := by decide +kernel
theorem dX0_passDay_32 : decode cX0_passDay 32 = .ok (.invokevirtual 118, 3) := by decide +kernel
theorem dX0_passDay_35 : decode cX0_passDay 35 = .ok (.aload_n 2, 1) := by decide +kernel
theorem dX0_passDay_36 : decode cX0_passDay 36 = .ok (.getfield 124, 3) := by decide +kernel
theorem dX0_passDay_39 : decode cX0_passDay 39 = .ok (.ifCond .lt 23, 3) := by decide +kernel
theorem dX0_passDay_42 : decode cX0_passDay 42 = .ok (.aload_n 0, 1) := by decide +kernel
theorem dX0_passDay_43 : decode cX0_passDay 43 = .ok (.getfield 31, 3) := by decide +kernel
theorem dX0_passDay_46 : decode cX0_passDay 46 = .ok (.iload_n 1, 1) := by decide +kernel
theorem dX0_passDay_47 : decode cX0_passDay 47 = .ok (.aload_n 2, 1) := by decide +kernel
theorem dX0_passDay_48 : decode cX0_passDay 48 = .ok (.getfield 124, 3) := by decide +kernel
theorem dX0_passDay_51 : decode cX0_passDay 51 = .ok (.iastore, 1) := by decide +kernel
theorem dX0_passDay_52 : decode cX0_passDay 52 = .ok (.aload_n 0, 1) := by decide +kernel
theorem dX0_passDay_53 : decode cX0_passDay 53 = .ok (.getfield 40, 3) := by decide +kernel
theorem dX0_passDay_56 : decode cX0_passDay 56 = .ok (.iload_n 1, 1) := by decide +kernel
theorem dX0_passDay_57 : decode cX0_passDay 57 = .ok (.aload_n 2, 1) := by decide +kernel
theorem dX0_passDay_58 : decode cX0_passDay 58 = .ok (.getfield 127, 3) := by decide +kernel
theorem dX0_passDay_61 : decode cX0_passDay 61 = .ok (.iastore, 1) := by decide +kernel
theorem dX0_passDay_62 : decode cX0_passDay 62 = .ok (.aload_n 0, 1) := by decide +kernel
theorem dX0_passDay_63 : decode cX0_passDay 63 = .ok (.getfield 40, 3) := by decide +kernel
theorem dX0_passDay_66 : decode cX0_passDay 66 = .ok (.iload_n 1, 1) := by decide +kernel
theorem dX0_passDay_67 : decode cX0_passDay 67 = .ok (.iaload, 1) := by decide +kernel
theorem dX0_passDay_68 : decode cX0_passDay 68 = .ok (.ifCond .le 13, 3) := by decide +kernel
theorem dX0_passDay_71 : decode cX0_passDay 71 = .ok (.aload_n 0, 1) := by decide +kernel
theorem dX0_passDay_72 : decode cX0_passDay 72 = .ok (.getfield 40, 3) := by decide +kernel
theorem dX0_passDay_75 : decode cX0_passDay 75 = .ok (.iload_n 1, 1) := by decide +kernel
theorem dX0_passDay_76 : decode cX0_passDay 76 = .ok (.dup2, 1) := by decide +kernel
theorem dX0_passDay_77 : decode cX0_passDay 77 = .ok (.iaload, 1) := by decide +kernel
theorem dX0_passDay_78 : decode cX0_passDay 78 = .ok (.iconst 1, 1) := by decide +kernel
theorem dX0_passDay_79 : decode cX0_passDay 79 = .ok (.isub, 1) := by decide +kernel
theorem dX0_passDay_80 : decode cX0_passDay 80 = .ok (.iastore, 1) := by decide +kernel
theorem dX0_passDay_81 : decode cX0_passDay 81 = .ok (.return_, 1) := by decide +kernel
