theorem dX0_init_0 : decode cX0_init 0 = .ok (.aload_n 0, 1) := by decide +kernel
theorem dX0_init_1 : decode cX0_init 1 = .ok (.invokespecial 3, 3) := by decide +kernel
theorem dX0_init_4 : decode cX0_init 4 = .ok (.aload_n 0, 1) := by decide +kernel
theorem dX0_init_5 : decode cX0_init 5 = .ok (.bipush 12, 2) := by decide +kernel
theorem dX0_init_7 : decode cX0_init 7 = .ok (.newarray .int, 2) := by decide +kernel
theorem dX0_init_9 : decode cX0_init 9 = .ok (.putfield 9, 3) := by decide +kernel
theorem dX0_init_12 : decode cX0_init 12 = .ok (.aload_n 0, 1) := by decide +kernel
theorem dX0_init_13 : decode cX0_init 13 = .ok (.bipush 24, 2) := by decide +kernel
theorem dX0_init_15 : decode cX0_init 15 = .ok (.newarray .int, 2) := by decide +kernel
theorem dX0_init_17 : decode cX0_init 17 = .ok (.putfield 15, 3) := by decide +kernel
theorem dX0_init_20 : decode cX0_init 20 = .ok (.aload_n 0, 1) := by decide +kernel
theorem dX0_init_21 : decode cX0_init 21 = .ok (.bipush 24, 2) := by decide +kernel
theorem dX0_init_23 : decode cX0_init 23 = .ok (.newarray .int, 2) := by decide +kernel
theorem dX0_init_25 : decode cX0_init 25 = .ok (.putfield 18, 3) := by decide +kernel
theorem dX0_init_28 : decode cX0_init 28 = .ok (.aload_n 0, 1) := by decide +kernel
theorem dX0_init_29 : decode cX0_init 29 = .ok (.bipush 24, 2) := by decide +kernel
theorem dX0_init_31 : decode cX0_init 31 = .ok (.newarray .int, 2) := by decide +kernel
theorem dX0_init_33 : decode cX0_init 33 = .ok (.putfield 21, 3) := by decide +kernel
theorem dX0_init_36 : decode cX0_init 36 = .ok (.aload_n 0, 1) := by decide +kernel
theorem dX0_init_37 : decode cX0_init 37 = .ok (.bipush 7, 2) := by decide +kernel
theorem dX0_init_39 : decode cX0_init 39 = .ok (.putfield 24, 3) := by decide +kernel
theorem dX0_init_42 : decode cX0_init 42 = .ok (.aload_n 0, 1) := by decide +kernel
theorem dX0_init_43 : decode cX0_init 43 = .ok (.bipush 10, 2) := by decide +kernel
theorem dX0_init_45 : decode cX0_init 45 = .ok (.newarray .int, 2) := by decide +kernel
theorem dX0_init_47 : decode cX0_init 47 = .ok (.putfield 28, 3) := by decide +kernel
theorem dX0_init_50 : decode cX0_init 50 = .ok (.aload_n 0, 1) := by decide +kernel
theorem dX0_init_51 : decode cX0_init 51 = .ok (.bipush 10, 2) := by decide +kernel
theorem dX0_init_53 : decode cX0_init 53 = .ok (.newarray .int, 2) := by decide +kernel
theorem dX0_init_55 : decode cX0_init 55 = .ok (.putfield 31, 3) := by decide +kernel
theorem dX0_init_58 : decode cX0_init 58 = .ok (.aload_n 0, 1) := by decide +kernel
theorem dX0_init_59 : decode cX0_init 59 = .ok (.bipush 10, 2) := by decide +kernel
theorem dX0_init_61 : decode cX0_init 61 = .ok (.newarray .int, 2) := by decide +kernel
theorem dX0_init_63 : decode cX0_init 63 = .ok (.putfield 34, 3) := by decide +kernel
theorem dX0_init_66 : decode cX0_init 66 = .ok (.aload_n 0, 1) := by decide +kernel
theorem dX0_init_67 : decode cX0_init 67 = .ok (.bipush 10, 2) := by decide +kernel
theorem dX0_init_69 : decode cX0_init 69 = .ok (.newarray .int, 2) := by decide +kernel
theorem dX0_init_71 : decode cX0_init 71 = .ok (.putfield 37, 3) := by decide +kernel
theorem dX0_init_74 : decode cX0_init 74 = .ok (.aload_n 0, 1) := by decide +kernel
theorem dX0_init_75 : decode cX0_init 75 = .ok (.bipush 10, 2) := by decide +kernel
theorem dX0_init_77 : decode cX0_init 77 = .ok (.newarray .int, 2) := by decide +kernel
theorem dX0_init_79 : decode cX0_init 79 = .ok (.putfield 40, 3) := by decide +kernel
theorem dX0_init_82 : decode cX0_init 82 = .ok (.return_, 1) := by decide +kernel
theorem dX0_become_0 : decode cX0_become 0 = .ok (.aload_n 0, 1) := by decide +kernel
theorem dX0_become_1 : decode cX0_become 1 = .ok (.aload_n 1, 1) := by decide +kernel
theorem dX0_become_2 : decode cX0_become 2 = .ok (.getfield 43, 3) := by decide +kernel
theorem dX0_become_5 : decode cX0_become 5 = .ok (.putfield 43, 3) := by decide +kernel
theorem dX0_become_8 : decode cX0_become 8 = .ok (.aload_n 1, 1) := by decide +kernel
theorem dX0_become_9 : decode cX0_become 9 = .ok (.getfield 9, 3) := by decide +kernel
theorem dX0_become_12 : decode cX0_become 12 = .ok (.iconst 0, 1) := by decide +kernel
theorem dX0_become_13 : decode cX0_become 13 = .ok (.aload_n 0, 1) := by decide +kernel
theorem dX0_become_14 : decode cX0_become 14 = .ok (.getfield 9, 3) := by decide +kernel
theorem dX0_become_17 : decode cX0_become 17 = .ok (.iconst 0, 1) := by decide +kernel
theorem dX0_become_18 : decode cX0_become 18 = .ok (.bipush 12, 2) := by decide +kernel
theorem dX0_become_20 : decode cX0_become 20 = .ok (.invokestatic 46, 3) := by decide +kernel
theorem dX0_become_23 : decode cX0_become 23 = .ok (.aload_n 0, 1) := by decide +kernel
theorem dX0_become_24 : decode cX0_become 24 = .ok (.aload_n 1, 1) := by decide +kernel
theorem dX0_become_25 : decode cX0_become 25 = .ok (.getfield 52, 3) := by decide +kernel
theorem dX0_become_28 : decode cX0_become 28 = .ok (.putfield 52, 3) := by decide +kernel
theorem dX0_become_31 : decode cX0_become 31 = .ok (.aload_n 0, 1) := by decide +kernel
theorem dX0_become_32 : decode cX0_become 32 = .ok (.aload_n 1, 1) := by decide +kernel
theorem dX0_become_33 : decode cX0_become 33 = .ok (.getfield 55, 3) := by decide +kernel
theorem dX0_become_36 : decode cX0_become 36 = .ok (.putfield 55, 3) := by decide +kernel
theorem dX0_become_39 : decode cX0_become 39 = .ok (.aload_n 1, 1) := by decide +kernel
theorem dX0_become_40 : decode cX0_become 40 = .ok (.getfield 15, 3) := by decide +kernel
theorem dX0_become_43 : decode cX0_become 43 = .ok (.iconst 0, 1) := by decide +kernel
theorem dX0_become_44 : decode cX0_become 44 = .ok (.aload_n 0, 1) := by decide +kernel
theorem dX0_become_45 : decode cX0_become 45 = .ok (.getfield 15, 3) := by decide +kernel
theorem dX0_become_48 : decode cX0_become 48 = .ok (.iconst 0, 1) := by decide +kernel
theorem dX0_become_49 : decode cX0_become 49 = .ok (.bipush 24, 2) := by decide +kernel
theorem dX0_become_51 : decode cX0_become 51 = .ok (.invokestatic 46, 3) := by decide +kernel
theorem dX0_become_54 : decode cX0_become 54 = .ok (.aload_n 1, 1) := by decide +kernel
theorem dX0_become_55 : decode cX0_become 55 = .ok (.getfield 18, 3) := by decide +kernel
theorem dX0_become_58 : decode cX0_become 58 = .ok (.iconst 0, 1) := by decide +kernel
theorem dX0_become_59 : decode cX0_become 59 = .ok (.aload_n 0, 1) := by decide +kernel
theorem dX0_become_60 : decode cX0_become 60 = .ok (.getfield 18, 3) := by decide +kernel
theorem dX0_become_63 : decode cX0_become 63 = .ok (.iconst 0, 1) := by decide +kernel
theorem dX0_become_64 : decode cX0_become 64 = .ok (.bipush 24, 2) := by decide +kernel
theorem dX0_become_66 : decode cX0_become 66 = .ok (.invokestatic 46, 3) := by decide +kernel
theorem dX0_become_69 : decode cX0_become 69 = .ok (.aload_n 1, 1) := by decide +kernel
theorem dX0_become_70 : decode cX0_become 70 = .ok (.getfield 21, 3) := by decide +kernel
theorem dX0_become_73 : decode cX0_become 73 = .ok (.iconst 0, 1) := by decide +kernel
theorem dX0_become_74 : decode cX0_become 74 = .ok (.aload_n 0, 1) := by decide +kernel
theorem dX0_become_75 : decode cX0_become 75 = .ok (.getfield 21, 3) := by decide +kernel
theorem dX0_become_78 : decode cX0_become 78 = .ok (.iconst 0, 1) := by decide +kernel
theorem dX0_become_79 : decode cX0_become 79 = .ok (.bipush 24, 2) := by decide +kernel
theorem dX0_become_81 : decode cX0_become 81 = .ok (.invokestatic 46, 3) := by decide +kernel
theorem dX0_become_84 : decode cX0_become 84 = .ok (.aload_n 0, 1) := by decide +kernel
theorem dX0_become_85 : decode cX0_become 85 = .ok (.aload_n 1, 1) := by decide +kernel
theorem dX0_become_86 : decode cX0_become 86 = .ok (.getfield 24, 3) := by decide +kernel
theorem dX0_become_89 : decode cX0_become 89 = .ok (.putfield 24, 3) := by decide +kernel
theorem dX0_become_92 : decode cX0_become 92 = .ok (.aload_n 0, 1) := by decide +kernel
theorem dX0_become_93 : decode cX0_become 93 = .ok (.aload_n 1, 1) := by decide +kernel
theorem dX0_become_94 : decode cX0_become 94 = .ok (.getfield 58, 3) := by decide +kernel
theorem dX0_become_97 : decode cX0_become 97 = .ok (.putfield 58, 3) := by decide +kernel
theorem dX0_become_100 : decode cX0_become 100 = .ok (.aload_n 0, 1) := by decide +kernel
theorem dX0_become_101 : decode cX0_become 101 = .ok (.aload_n 1, 1) := by decide +kernel
theorem dX0_become_102 : decode cX0_become 102 = .ok (.getfield 61, 3) := by decide +kernel
theorem dX0_become_105 : decode cX0_become 105 = .ok (.putfield 61, 3) := by decide +kernel
theorem dX0_become_108 : decode cX0_become 108 = .ok (.aload_n 1, 1) := by decide +kernel
theorem dX0_become_109 : decode cX0_become 109 = .ok (.getfield 28, 3) := by decide +kernel
theorem dX0_become_112 : decode cX0_become 112 = .ok (.iconst 0, 1) := by decide +kernel
theorem dX0_become_113 : decode cX0_become 113 = .ok (.aload_n 0, 1) := by decide +kernel
theorem dX0_become_114 : decode cX0_become 114 = .ok (.getfield 28, 3) := by decide +kernel
theorem dX0_become_117 : decode cX0_become 117 = .ok (.iconst 0, 1) := by decide +kernel
theorem dX0_become_118 : decode cX0_become 118 = .ok (.bipush 10, 2) := by decide +kernel
theorem dX0_become_120 : decode cX0_become 120 = .ok (.invokestatic 46, 3) := by decide +kernel
theorem dX0_become_123 : decode cX0_become 123 = .ok (.aload_n 1, 1) := by decide +kernel
theorem dX0_become_124 : decode cX0_become 124 = .ok (.getfield 31, 3) := by decide +kernel
theorem dX0_become_127 : decode cX0_become 127 = .ok (.iconst 0, 1) := by decide +kernel
theorem dX0_become_128 : decode cX0_become 128 = .ok (.aload_n 0, 1) := by decide +kernel
theorem dX0_become_129 : decode cX0_become 129 = .ok (.getfield 31, 3) := by decide +kernel
theorem dX0_become_132 : decode cX0_become 132 = .ok (.iconst 0, 1) := by decide +kernel
theorem dX0_become_133 : decode cX0_become 133 = .ok (.bipush 10, 2) := by decide +kernel
theorem dX0_become_135 : decode cX0_become 135 = .ok (.invokestatic 46, 3) := by decide +kernel
theorem dX0_become_138 : decode cX0_become 138 = .ok (.aload_n 1, 1) := by decide +kernel
theorem dX0_become_139 : decode cX0_become 139 = .ok (.getfield 34, 3) := by decide +kernel
theorem dX0_become_142 : decode cX0_become 142 = .ok (.iconst 0, 1) := by decide +kernel
theorem dX0_become_143 : decode cX0_become 143 = .ok (.aload_n 0, 1) := by decide +kernel
theorem dX0_become_144 : decode cX0_become 144 = .ok (.getfield 34, 3) := by decide +kernel
theorem dX0_become_147 : decode cX0_become 147 = .ok (.iconst 0, 1) := by decide +kernel
theorem dX0_become_148 : decode cX0_become 148 = .ok (.bipush 10, 2) := by decide +kernel
theorem dX0_become_150 : decode cX0_become 150 = .ok (.invokestatic 46, 3) := by decide +kernel
theorem dX0_become_153 : decode cX0_become 153 = .ok (.aload_n 1, 1) := by decide +kernel
theorem dX0_become_154 : decode cX0_become 154 = .ok (.getfield 37, 3) := by decide +kernel
theorem dX0_become_157 : decode cX0_become 157 = .ok (.iconst 0, 1) := by decide +kernel
theorem dX0_become_158 : decode cX0_become 158 = .ok (.aload_n 0, 1) := by decide +kernel
theorem dX0_become_159 : decode cX0_become 159 = .ok (.getfield 37, 3) := by decide +kernel
theorem dX0_become_162 : decode cX0_become 162 = .ok (.iconst 0, 1) := by decide +kernel
theorem dX0_become_163 : decode cX0_become 163 = .ok (.bipush 10, 2) := by decide +kernel
theorem dX0_become_165 : decode cX0_become 165 = .ok (.invokestatic 46, 3) := by decide +kernel
theorem dX0_become_168 : decode cX0_become 168 = .ok (.aload_n 1, 1) := by decide +kernel
theorem dX0_become_169 : decode cX0_become 169 = .ok (.getfield 40, 3) := by decide +kernel
theorem dX0_become_172 : decode cX0_become 172 = .ok (.iconst 0, 1) := by decide +kernel
theorem dX0_become_173 : decode cX0_become 173 = .ok (.aload_n 0, 1) := by decide +kernel
theorem dX0_become_174 : decode cX0_become 174 = .ok (.getfield 40, 3) := by decide +kernel
theorem dX0_become_177 : decode cX0_become 177 = .ok (.iconst 0, 1) := by decide +kernel
theorem dX0_become_178 : decode cX0_become 178 = .ok (.bipush 10, 2) := by decide +kernel
theorem dX0_become_180 : decode cX0_become 180 = .ok (.invokestatic 46, 3) := by decide +kernel
theorem dX0_become_183 : decode cX0_become 183 = .ok (.return_, 1) := by decide +kernel
theorem dX0_hasVillage_0 : decode cX0_hasVillage 0 = .ok (.iload_n 1, 1) := by decide +kernel
theorem dX0_hasVillage_1 : decode cX0_hasVillage 1 = .ok (.ifCond .lt 15, 3) := by decide +kernel
theorem dX0_hasVillage_4 : decode cX0_hasVillage 4 = .ok (.iload_n 1, 1) := by decide +kernel
theorem dX0_hasVillage_5 : decode cX0_hasVillage 5 = .ok (.aload_n 0, 1) := by decide +kernel
theorem dX0_hasVillage_6 : decode cX0_hasVillage 6 = .ok (.getfield 43, 3) := by decide +kernel
theorem dX0_hasVillage_9 : decode cX0_hasVillage 9 = .ok (.if_icmp .ge 7, 3) := by decide +kernel
theorem dX0_hasVillage_12 : decode cX0_hasVillage 12 = .ok (.iconst 1, 1) := by decide +kernel
theorem dX0_hasVillage_13 : decode cX0_hasVillage 13 = .ok (.goto 4, 3) := by decide +kernel
theorem dX0_hasVillage_16 : decode cX0_hasVillage 16 = .ok (.iconst 0, 1) := by decide +kernel
theorem dX0_hasVillage_17 : decode cX0_hasVillage 17 = .ok (.ireturn, 1) := by decide +kernel
theorem dX0_hasRoad_0 : decode cX0_hasRoad 0 = .ok (.iload_n 1, 1) := by decide +kernel
theorem dX0_hasRoad_1 : decode cX0_hasRoad 1 = .ok (.ifCond .lt 15, 3) := by decide +kernel
theorem dX0_hasRoad_4 : decode cX0_hasRoad 4 = .ok (.iload_n 1, 1) := by decide +kernel
theorem dX0_hasRoad_5 : decode cX0_hasRoad 5 = .ok (.aload_n 0, 1) := by decide +kernel
theorem dX0_hasRoad_6 : decode cX0_hasRoad 6 = .ok (.getfield 55, 3) := by decide +kernel
theorem dX0_hasRoad_9 : decode cX0_hasRoad 9 = .ok (.if_icmp .ge 7, 3) := by decide +kernel
theorem dX0_hasRoad_12 : decode cX0_hasRoad 12 = .ok (.iconst 1, 1) := by decide +kernel
theorem dX0_hasRoad_13 : decode cX0_hasRoad 13 = .ok (.goto 4, 3) := by decide +kernel
theorem dX0_hasRoad_16 : decode cX0_hasRoad 16 = .ok (.iconst 0, 1) := by decide +kernel
theorem dX0_hasRoad_17 : decode cX0_hasRoad 17 = .ok (.ireturn, 1) := by decide +kernel
theorem dX0_hasLetter_0 : decode cX0_hasLetter 0 = .ok (.iload_n 1, 1) := by decide +kernel
theorem dX0_hasLetter_1 : decode cX0_hasLetter 1 = .ok (.ifCond .lt 15, 3) := by decide +kernel
theorem dX0_hasLetter_4 : decode cX0_hasLetter 4 = .ok (.iload_n 1, 1) := by decide +kernel
theorem dX0_hasLetter_5 : decode cX0_hasLetter 5 = .ok (.aload_n 0, 1) := by decide +kernel
theorem dX0_hasLetter_6 : decode cX0_hasLetter 6 = .ok (.getfield 61, 3) := by decide +kernel
theorem dX0_hasLetter_9 : decode cX0_hasLetter 9 = .ok (.if_icmp .ge 7, 3) := by decide +kernel
theorem dX0_hasLetter_12 : decode cX0_hasLetter 12 = .ok (.iconst 1, 1) := by decide +kernel
theorem dX0_hasLetter_13 : decode cX0_hasLetter 13 = .ok (.goto 4, 3) := by decide +kernel
theorem dX0_hasLetter_16 : decode cX0_hasLetter 16 = .ok (.iconst 0, 1) := by decide +kernel
theorem dX0_hasLetter_17 : decode cX0_hasLetter 17 = .ok (.ireturn, 1) := by decide +kernel
theorem dX0_villagesFull_0 : decode cX0_villagesFull 0 = .ok (.aload_n 0, 1) := by decide +kernel
theorem dX0_villagesFull_1 : decode cX0_villagesFull 1 = .ok (.getfield 43, 3) := by decide +kernel
theorem dX0_villagesFull_4 : decode cX0_villagesFull 4 = .ok (.bipush 12, 2) := by decide +kernel
theorem dX0_villagesFull_6 : decode cX0_villagesFull 6 = .ok (.if_icmp .lt 7, 3) := by decide +kernel
theorem dX0_villagesFull_9 : decode cX0_villagesFull 9 = .ok (.iconst 1, 1) := by decide +kernel
theorem dX0_villagesFull_10 : decode cX0_villagesFull 10 = .ok (.goto 4, 3) := by decide +kernel
theorem dX0_villagesFull_13 : decode cX0_villagesFull 13 = .ok (.iconst 0, 1) := by decide +kernel
theorem dX0_villagesFull_14 : decode cX0_villagesFull 14 = .ok (.ireturn, 1) := by decide +kernel
theorem dX0_roadsFull_0 : decode cX0_roadsFull 0 = .ok (.aload_n 0, 1) := by decide +kernel
theorem dX0_roadsFull_1 : decode cX0_roadsFull 1 = .ok (.getfield 55, 3) := by decide +kernel
theorem dX0_roadsFull_4 : decode cX0_roadsFull 4 = .ok (.bipush 24, 2) := by decide +kernel
theorem dX0_roadsFull_6 : decode cX0_roadsFull 6 = .ok (.if_icmp .lt 7, 3) := by decide +kernel
theorem dX0_roadsFull_9 : decode cX0_roadsFull 9 = .ok (.iconst 1, 1) := by decide +kernel
theorem dX0_roadsFull_10 : decode cX0_roadsFull 10 = .ok (.goto 4, 3) := by decide +kernel
theorem dX0_roadsFull_13 : decode cX0_roadsFull 13 = .ok (.iconst 0, 1) := by decide +kernel
theorem dX0_roadsFull_14 : decode cX0_roadsFull 14 = .ok (.ireturn, 1) := by decide +kernel
theorem dX0_lettersFull_0 : decode cX0_lettersFull 0 = .ok (.aload_n 0, 1) := by decide +kernel
theorem dX0_lettersFull_1 : decode cX0_lettersFull 1 = .ok (.getfield 61, 3) := by decide +kernel
theorem dX0_lettersFull_4 : decode cX0_lettersFull 4 = .ok (.bipush 10, 2) := by decide +kernel
theorem dX0_lettersFull_6 : decode cX0_lettersFull 6 = .ok (.if_icmp .lt 7, 3) := by decide +kernel
theorem dX0_lettersFull_9 : decode cX0_lettersFull 9 = .ok (.iconst 1, 1) := by decide +kernel
theorem dX0_lettersFull_10 : decode cX0_lettersFull 10 = .ok (.goto 4, 3) := by decide +kernel
theorem dX0_lettersFull_13 : decode cX0_lettersFull 13 = .ok (.iconst 0, 1) := by decide +kernel
theorem dX0_lettersFull_14 : decode cX0_lettersFull 14 = .ok (.ireturn, 1) := by decide +kernel
theorem dX0_addVillage_0 : decode cX0_addVillage 0 = .ok (.aload_n 0, 1) := by decide +kernel
theorem dX0_addVillage_1 : decode cX0_addVillage 1 = .ok (.invokevirtual 64, 3) := by decide +kernel
theorem dX0_addVillage_4 : decode cX0_addVillage 4 = .ok (.ifCond .eq 5, 3) := by decide +kernel
theorem dX0_addVillage_7 : decode cX0_addVillage 7 = .ok (.iconst (-1), 1) := by decide +kernel
theorem dX0_addVillage_8 : decode cX0_addVillage 8 = .ok (.ireturn, 1) := by decide +kernel
theorem dX0_addVillage_9 : decode cX0_addVillage 9 = .ok (.aload_n 0, 1) := by decide +kernel
theorem dX0_addVillage_10 : decode cX0_addVillage 10 = .ok (.dup, 1) := by decide +kernel
theorem dX0_addVillage_11 : decode cX0_addVillage 11 = .ok (.getfield 43, 3) := by decide +kernel
theorem dX0_addVillage_14 : decode cX0_addVillage 14 = .ok (.dup_x1, 1) := by decide +kernel
theorem dX0_addVillage_15 : decode cX0_addVillage 15 = .ok (.iconst 1, 1) := by decide +kernel
theorem dX0_addVillage_16 : decode cX0_addVillage 16 = .ok (.iadd, 1) := by decide +kernel
theorem dX0_addVillage_17 : decode cX0_addVillage 17 = .ok (.putfield 43, 3) := by decide +kernel
theorem dX0_addVillage_20 : decode cX0_addVillage 20 = .ok (.istore_n 3, 1) := by decide +kernel
theorem dX0_addVillage_21 : decode cX0_addVillage 21 = .ok (.aload_n 0, 1) := by decide +kernel
theorem dX0_addVillage_22 : decode cX0_addVillage 22 = .ok (.getfield 9, 3) := by decide +kernel
theorem dX0_addVillage_25 : decode cX0_addVillage 25 = .ok (.iload_n 3, 1) := by decide +kernel
theorem dX0_addVillage_26 : decode cX0_addVillage 26 = .ok (.iload_n 1, 1) := by decide +kernel
theorem dX0_addVillage_27 : decode cX0_addVillage 27 = .ok (.iastore, 1) := by decide +kernel
theorem dX0_addVillage_28 : decode cX0_addVillage 28 = .ok (.aload_n 0, 1) := by decide +kernel
theorem dX0_addVillage_29 : decode cX0_addVillage 29 = .ok (.iload_n 3, 1) := by decide +kernel
theorem dX0_addVillage_30 : decode cX0_addVillage 30 = .ok (.iload_n 2, 1) := by decide +kernel
theorem dX0_addVillage_31 : decode cX0_addVillage 31 = .ok (.invokevirtual 68, 3) := by decide +kernel
theorem dX0_addVillage_34 : decode cX0_addVillage 34 = .ok (.iload_n 3, 1) := by decide +kernel
theorem dX0_addVillage_35 : decode cX0_addVillage 35 = .ok (.ireturn, 1) := by decide +kernel
theorem dX0_addRoad_0 : decode cX0_addRoad 0 = .ok (.aload_n 0, 1) := by decide +kernel
theorem dX0_addRoad_1 : decode cX0_addRoad 1 = .ok (.invokevirtual 72, 3) := by decide +kernel
theorem dX0_addRoad_4 : decode cX0_addRoad 4 = .ok (.ifCond .eq 5, 3) := by decide +kernel
theorem dX0_addRoad_7 : decode cX0_addRoad 7 = .ok (.iconst (-1), 1) := by decide +kernel
theorem dX0_addRoad_8 : decode cX0_addRoad 8 = .ok (.ireturn, 1) := by decide +kernel
theorem dX0_addRoad_9 : decode cX0_addRoad 9 = .ok (.aload_n 0, 1) := by decide +kernel
theorem dX0_addRoad_10 : decode cX0_addRoad 10 = .ok (.getfield 15, 3) := by decide +kernel
theorem dX0_addRoad_13 : decode cX0_addRoad 13 = .ok (.aload_n 0, 1) := by decide +kernel
theorem dX0_addRoad_14 : decode cX0_addRoad 14 = .ok (.getfield 55, 3) := by decide +kernel
theorem dX0_addRoad_17 : decode cX0_addRoad 17 = .ok (.iload_n 1, 1) := by decide +kernel
theorem dX0_addRoad_18 : decode cX0_addRoad 18 = .ok (.iastore, 1) := by decide +kernel
theorem dX0_addRoad_19 : decode cX0_addRoad 19 = .ok (.aload_n 0, 1) := by decide +kernel
theorem dX0_addRoad_20 : decode cX0_addRoad 20 = .ok (.getfield 18, 3) := by decide +kernel
theorem dX0_addRoad_23 : decode cX0_addRoad 23 = .ok (.aload_n 0, 1) := by decide +kernel
theorem dX0_addRoad_24 : decode cX0_addRoad 24 = .ok (.getfield 55, 3) := by decide +kernel
theorem dX0_addRoad_27 : decode cX0_addRoad 27 = .ok (.iload_n 2, 1) := by decide +kernel
theorem dX0_addRoad_28 : decode cX0_addRoad 28 = .ok (.iastore, 1) := by decide +kernel
theorem dX0_addRoad_29 : decode cX0_addRoad 29 = .ok (.aload_n 0, 1) := by decide +kernel
theorem dX0_addRoad_30 : decode cX0_addRoad 30 = .ok (.getfield 21, 3) := by decide +kernel
theorem dX0_addRoad_33 : decode cX0_addRoad 33 = .ok (.aload_n 0, 1) := by decide +kernel
theorem dX0_addRoad_34 : decode cX0_addRoad 34 = .ok (.getfield 55, 3) := by decide +kernel
theorem dX0_addRoad_37 : decode cX0_addRoad 37 = .ok (.iload_n 3, 1) := by decide +kernel
theorem dX0_addRoad_38 : decode cX0_addRoad 38 = .ok (.iastore, 1) := by decide +kernel
theorem dX0_addRoad_39 : decode cX0_addRoad 39 = .ok (.aload_n 0, 1) := by decide +kernel
theorem dX0_addRoad_40 : decode cX0_addRoad 40 = .ok (.dup, 1) := by decide +kernel
theorem dX0_addRoad_41 : decode cX0_addRoad 41 = .ok (.getfield 55, 3) := by decide +kernel
theorem dX0_addRoad_44 : decode cX0_addRoad 44 = .ok (.dup_x1, 1) := by decide +kernel
theorem dX0_addRoad_45 : decode cX0_addRoad 45 = .ok (.iconst 1, 1) := by decide +kernel
theorem dX0_addRoad_46 : decode cX0_addRoad 46 = .ok (.iadd, 1) := by decide +kernel
theorem dX0_addRoad_47 : decode cX0_addRoad 47 = .ok (.putfield 55, 3) := by decide +kernel
theorem dX0_addRoad_50 : decode cX0_addRoad 50 = .ok (.ireturn, 1) := by decide +kernel
theorem dX0_addLetter_0 : decode cX0_addLetter 0 = .ok (.aload_n 0, 1) := by decide +kernel
theorem dX0_addLetter_1 : decode cX0_addLetter 1 = .ok (.invokevirtual 75, 3) := by decide +kernel
theorem dX0_addLetter_4 : decode cX0_addLetter 4 = .ok (.ifCond .eq 5, 3) := by decide +kernel
theorem dX0_addLetter_7 : decode cX0_addLetter 7 = .ok (.iconst (-1), 1) := by decide +kernel
theorem dX0_addLetter_8 : decode cX0_addLetter 8 = .ok (.ireturn, 1) := by decide +kernel
theorem dX0_addLetter_9 : decode cX0_addLetter 9 = .ok (.aload_n 0, 1) := by decide +kernel
theorem dX0_addLetter_10 : decode cX0_addLetter 10 = .ok (.getfield 28, 3) := by decide +kernel
theorem dX0_addLetter_13 : decode cX0_addLetter 13 = .ok (.aload_n 0, 1) := by decide +kernel
theorem dX0_addLetter_14 : decode cX0_addLetter 14 = .ok (.getfield 61, 3) := by decide +kernel
theorem dX0_addLetter_17 : decode cX0_addLetter 17 = .ok (.iload_n 1, 1) := by decide +kernel
theorem dX0_addLetter_18 : decode cX0_addLetter 18 = .ok (.iastore, 1) := by decide +kernel
theorem dX0_addLetter_19 : decode cX0_addLetter 19 = .ok (.aload_n 0, 1) := by decide +kernel
theorem dX0_addLetter_20 : decode cX0_addLetter 20 = .ok (.getfield 31, 3) := by decide +kernel
theorem dX0_addLetter_23 : decode cX0_addLetter 23 = .ok (.aload_n 0, 1) := by decide +kernel
theorem dX0_addLetter_24 : decode cX0_addLetter 24 = .ok (.getfield 61, 3) := by decide +kernel
theorem dX0_addLetter_27 : decode cX0_addLetter 27 = .ok (.iload_n 2, 1) := by decide +kernel
theorem dX0_addLetter_28 : decode cX0_addLetter 28 = .ok (.iastore, 1) := by decide +kernel
theorem dX0_addLetter_29 : decode cX0_addLetter 29 = .ok (.aload_n 0, 1) := by decide +kernel
theorem dX0_addLetter_30 : decode cX0_addLetter 30 = .ok (.getfield 34, 3) := by decide +kernel
theorem dX0_addLetter_33 : decode cX0_addLetter 33 = .ok (.aload_n 0, 1) := by decide +kernel
theorem dX0_addLetter_34 : decode cX0_addLetter 34 = .ok (.getfield 61, 3) := by decide +kernel
theorem dX0_addLetter_37 : decode cX0_addLetter 37 = .ok (.iload_n 3, 1) := by decide +kernel
theorem dX0_addLetter_38 : decode cX0_addLetter 38 = .ok (.iastore, 1) := by decide +kernel
theorem dX0_addLetter_39 : decode cX0_addLetter 39 = .ok (.aload_n 0, 1) := by decide +kernel
theorem dX0_addLetter_40 : decode cX0_addLetter 40 = .ok (.getfield 37, 3) := by decide +kernel
theorem dX0_addLetter_43 : decode cX0_addLetter 43 = .ok (.aload_n 0, 1) := by decide +kernel
theorem dX0_addLetter_44 : decode cX0_addLetter 44 = .ok (.getfield 61, 3) := by decide +kernel
theorem dX0_addLetter_47 : decode cX0_addLetter 47 = .ok (.aload_n 0, 1) := by decide +kernel
theorem dX0_addLetter_48 : decode cX0_addLetter 48 = .ok (.getfield 58, 3) := by decide +kernel
theorem dX0_addLetter_51 : decode cX0_addLetter 51 = .ok (.iastore, 1) := by decide +kernel
theorem dX0_addLetter_52 : decode cX0_addLetter 52 = .ok (.aload_n 0, 1) := by decide +kernel
theorem dX0_addLetter_53 : decode cX0_addLetter 53 = .ok (.getfield 40, 3) := by decide +kernel
theorem dX0_addLetter_56 : decode cX0_addLetter 56 = .ok (.aload_n 0, 1) := by decide +kernel
theorem dX0_addLetter_57 : decode cX0_addLetter 57 = .ok (.getfield 61, 3) := by decide +kernel
theorem dX0_addLetter_60 : decode cX0_addLetter 60 = .ok (.iconst 0, 1) := by decide +kernel
theorem dX0_addLetter_61 : decode cX0_addLetter 61 = .ok (.iastore, 1) := by decide +kernel
theorem dX0_addLetter_62 : decode cX0_addLetter 62 = .ok (.aload_n 0, 1) := by decide +kernel
theorem dX0_addLetter_63 : decode cX0_addLetter 63 = .ok (.dup, 1) := by decide +kernel
theorem dX0_addLetter_64 : decode cX0_addLetter 64 = .ok (.getfield 61, 3) := by decide +kernel
theorem dX0_addLetter_67 : decode cX0_addLetter 67 = .ok (.dup_x1, 1) := by decide +kernel
theorem dX0_addLetter_68 : decode cX0_addLetter 68 = .ok (.iconst 1, 1) := by decide +kernel
theorem dX0_addLetter_69 : decode cX0_addLetter 69 = .ok (.iadd, 1) := by decide +kernel
theorem dX0_addLetter_70 : decode cX0_addLetter 70 = .ok (.putfield 61, 3) := by decide +kernel
theorem dX0_addLetter_73 : decode cX0_addLetter 73 = .ok (.ireturn, 1) := by decide +kernel
theorem dX0_heightOf_0 : decode cX0_heightOf 0 = .ok (.aload_n 0, 1) := by decide +kernel
theorem dX0_heightOf_1 : decode cX0_heightOf 1 = .ok (.iload_n 1, 1) := by decide +kernel
theorem dX0_heightOf_2 : decode cX0_heightOf 2 = .ok (.invokevirtual 78, 3) := by decide +kernel
theorem dX0_heightOf_5 : decode cX0_heightOf 5 = .ok (.ifCond .eq 12, 3) := by decide +kernel
theorem dX0_heightOf_8 : decode cX0_heightOf 8 = .ok (.aload_n 0, 1) := by decide +kernel
theorem dX0_heightOf_9 : decode cX0_heightOf 9 = .ok (.getfield 9, 3) := by decide +kernel
theorem dX0_heightOf_12 : decode cX0_heightOf 12 = .ok (.iload_n 1, 1) := by decide +kernel
theorem dX0_heightOf_13 : decode cX0_heightOf 13 = .ok (.iaload, 1) := by decide +kernel
theorem dX0_heightOf_14 : decode cX0_heightOf 14 = .ok (.goto 4, 3) := by decide +kernel
theorem dX0_heightOf_17 : decode cX0_heightOf 17 = .ok (.iconst 0, 1) := by decide +kernel
theorem dX0_heightOf_18 : decode cX0_heightOf 18 = .ok (.ireturn, 1) := by decide +kernel
theorem dX0_setHeight_0 : decode cX0_setHeight 0 = .ok (.aload_n 0, 1) := by decide +kernel
theorem dX0_setHeight_1 : decode cX0_setHeight 1 = .ok (.iload_n 1, 1) := by decide +kernel
theorem dX0_setHeight_2 : decode cX0_setHeight 2 = .ok (.invokevirtual 78, 3) := by decide +kernel
theorem dX0_setHeight_5 : decode cX0_setHeight 5 = .ok (.ifCond .eq 10, 3) := by decide +kernel
theorem dX0_setHeight_8 : decode cX0_setHeight 8 = .ok (.aload_n 0, 1) := by decide +kernel
theorem dX0_setHeight_9 : decode cX0_setHeight 9 = .ok (.getfield 9, 3) := by decide +kernel
theorem dX0_setHeight_12 : decode cX0_setHeight 12 = .ok (.iload_n 1, 1) := by decide +kernel
theorem dX0_setHeight_13 : decode cX0_setHeight 13 = .ok (.iload_n 2, 1) := by decide +kernel
theorem dX0_setHeight_14 : decode cX0_setHeight 14 = .ok (.iastore, 1) := by decide +kernel
theorem dX0_setHeight_15 : decode cX0_setHeight 15 = .ok (.return_, 1) := by decide +kernel
theorem dX0_isHermits_0 : decode cX0_isHermits 0 = .ok (.aload_n 0, 1) := by decide +kernel
theorem dX0_isHermits_1 : decode cX0_isHermits 1 = .ok (.getfield 52, 3) := by decide +kernel
theorem dX0_isHermits_4 : decode cX0_isHermits 4 = .ok (.iload_n 1, 1) := by decide +kernel
theorem dX0_isHermits_5 : decode cX0_isHermits 5 = .ok (.ishr, 1) := by decide +kernel
theorem dX0_isHermits_6 : decode cX0_isHermits 6 = .ok (.iconst 1, 1) := by decide +kernel
theorem dX0_isHermits_7 : decode cX0_isHermits 7 = .ok (.iand, 1) := by decide +kernel
theorem dX0_isHermits_8 : decode cX0_isHermits 8 = .ok (.iconst 1, 1) := by decide +kernel
theorem dX0_isHermits_9 : decode cX0_isHermits 9 = .ok (.if_icmp .ne 7, 3) := by decide +kernel
theorem dX0_isHermits_12 : decode cX0_isHermits 12 = .ok (.iconst 1, 1) := by decide +kernel
theorem dX0_isHermits_13 : decode cX0_isHermits 13 = .ok (.goto 4, 3) := by decide +kernel
theorem dX0_isHermits_16 : decode cX0_isHermits 16 = .ok (.iconst 0, 1) := by decide +kernel
theorem dX0_isHermits_17 : decode cX0_isHermits 17 = .ok (.ireturn, 1) := by decide +kernel
theorem dX0_setHermits_0 : decode cX0_setHermits 0 = .ok (.aload_n 0, 1) := by decide +kernel
theorem dX0_setHermits_1 : decode cX0_setHermits 1 = .ok (.iload_n 1, 1) := by decide +kernel
theorem dX0_setHermits_2 : decode cX0_setHermits 2 = .ok (.invokevirtual 78, 3) := by decide +kernel
theorem dX0_setHermits_5 : decode cX0_setHermits 5 = .ok (.ifCond .eq 32, 3) := by decide +kernel
theorem dX0_setHermits_8 : decode cX0_setHermits 8 = .ok (.aload_n 0, 1) := by decide +kernel
theorem dX0_setHermits_9 : decode cX0_setHermits 9 = .ok (.iload_n 2, 1) := by decide +kernel
theorem dX0_setHermits_10 : decode cX0_setHermits 10 = .ok (.ifCond .eq 14, 3) := by decide +kernel
theorem dX0_setHermits_13 : decode cX0_setHermits 13 = .ok (.aload_n 0, 1) := by decide +kernel
theorem dX0_setHermits_14 : decode cX0_setHermits 14 = .ok (.getfield 52, 3) := by decide +kernel
theorem dX0_setHermits_17 : decode cX0_setHermits 17 = .ok (.iconst 1, 1) := by decide +kernel
theorem dX0_setHermits_18 : decode cX0_setHermits 18 = .ok (.iload_n 1, 1) := by decide +kernel
theorem dX0_setHermits_19 : decode cX0_setHermits 19 = .ok (.ishl, 1) := by decide +kernel
theorem dX0_setHermits_20 : decode cX0_setHermits 20 = .ok (.ior, 1) := by decide +kernel
theorem dX0_setHermits_21 : decode cX0_setHermits 21 = .ok (.goto 13, 3) := by decide +kernel
theorem dX0_setHermits_24 : decode cX0_setHermits 24 = .ok (.aload_n 0, 1) := by decide +kernel
theorem dX0_setHermits_25 : decode cX0_setHermits 25 = .ok (.getfield 52, 3) := by decide +kernel
theorem dX0_setHermits_28 : decode cX0_setHermits 28 = .ok (.iconst 1, 1) := by decide +kernel
theorem dX0_setHermits_29 : decode cX0_setHermits 29 = .ok (.iload_n 1, 1) := by decide +kernel
theorem dX0_setHermits_30 : decode cX0_setHermits 30 = .ok (.ishl, 1) := by decide +kernel
theorem dX0_setHermits_31 : decode cX0_setHermits 31 = .ok (.iconst (-1), 1) := by decide +kernel
theorem dX0_setHermits_32 : decode cX0_setHermits 32 = .ok (.ixor, 1) := by decide +kernel
theorem dX0_setHermits_33 : decode cX0_setHermits 33 = .ok (.iand, 1) := by decide +kernel
theorem dX0_setHermits_34 : decode cX0_setHermits 34 = .ok (.putfield 52, 3) := by decide +kernel
theorem dX0_setHermits_37 : decode cX0_setHermits 37 = .ok (.return_, 1) := by decide +kernel
theorem dX0_allVillages_0 : decode cX0_allVillages 0 = .ok (.iconst 1, 1) := by decide +kernel
theorem dX0_allVillages_1 : decode cX0_allVillages 1 = .ok (.aload_n 0, 1) := by decide +kernel
theorem dX0_allVillages_2 : decode cX0_allVillages 2 = .ok (.getfield 43, 3) := by decide +kernel
theorem dX0_allVillages_5 : decode cX0_allVillages 5 = .ok (.ishl, 1) := by decide +kernel
theorem dX0_allVillages_6 : decode cX0_allVillages 6 = .ok (.iconst 1, 1) := by decide +kernel
theorem dX0_allVillages_7 : decode cX0_allVillages 7 = .ok (.isub, 1) := by decide +kernel
theorem dX0_allVillages_8 : decode cX0_allVillages 8 = .ok (.ireturn, 1) := by decide +kernel
theorem dX0_roadsOf_0 : decode cX0_roadsOf 0 = .ok (.iconst 0, 1) := by decide +kernel
theorem dX0_roadsOf_1 : decode cX0_roadsOf 1 = .ok (.istore_n 2, 1) := by decide +kernel
theorem dX0_roadsOf_2 : decode cX0_roadsOf 2 = .ok (.iconst 0, 1) := by decide +kernel
theorem dX0_roadsOf_3 : decode cX0_roadsOf 3 = .ok (.istore_n 3, 1) := by decide +kernel
theorem dX0_roadsOf_4 : decode cX0_roadsOf 4 = .ok (.iload_n 3, 1) := by decide +kernel
theorem dX0_roadsOf_5 : decode cX0_roadsOf 5 = .ok (.aload_n 0, 1) := by decide +kernel
theorem dX0_roadsOf_6 : decode cX0_roadsOf 6 = .ok (.getfield 55, 3) := by decide +kernel
theorem dX0_roadsOf_9 : decode cX0_roadsOf 9 = .ok (.if_icmp .ge 32, 3) := by decide +kernel
theorem dX0_roadsOf_12 : decode cX0_roadsOf 12 = .ok (.aload_n 0, 1) := by decide +kernel
theorem dX0_roadsOf_13 : decode cX0_roadsOf 13 = .ok (.getfield 15, 3) := by decide +kernel
theorem dX0_roadsOf_16 : decode cX0_roadsOf 16 = .ok (.iload_n 3, 1) := by decide +kernel
theorem dX0_roadsOf_17 : decode cX0_roadsOf 17 = .ok (.iaload, 1) := by decide +kernel
theorem dX0_roadsOf_18 : decode cX0_roadsOf 18 = .ok (.iload_n 1, 1) := by decide +kernel
theorem dX0_roadsOf_19 : decode cX0_roadsOf 19 = .ok (.if_icmp .eq 13, 3) := by decide +kernel
theorem dX0_roadsOf_22 : decode cX0_roadsOf 22 = .ok (.aload_n 0, 1) := by decide +kernel
theorem dX0_roadsOf_23 : decode cX0_roadsOf 23 = .ok (.getfield 18, 3) := by decide +kernel
theorem dX0_roadsOf_26 : decode cX0_roadsOf 26 = .ok (.iload_n 3, 1) := by decide +kernel
theorem dX0_roadsOf_27 : decode cX0_roadsOf 27 = .ok (.iaload, 1) := by decide +kernel
theorem dX0_roadsOf_28 : decode cX0_roadsOf 28 = .ok (.iload_n 1, 1) := by decide +kernel
theorem dX0_roadsOf_29 : decode cX0_roadsOf 29 = .ok (.if_icmp .ne 6, 3) := by decide +kernel
theorem dX0_roadsOf_32 : decode cX0_roadsOf 32 = .ok (.iinc 2 1, 3) := by decide +kernel
theorem dX0_roadsOf_35 : decode cX0_roadsOf 35 = .ok (.iinc 3 1, 3) := by decide +kernel
theorem dX0_roadsOf_38 : decode cX0_roadsOf 38 = .ok (.goto (-34), 3) := by decide +kernel
theorem dX0_roadsOf_41 : decode cX0_roadsOf 41 = .ok (.iload_n 2, 1) := by decide +kernel
theorem dX0_roadsOf_42 : decode cX0_roadsOf 42 = .ok (.ireturn, 1) := by decide +kernel
theorem dX0_areJoined_0 : decode cX0_areJoined 0 = .ok (.iconst 0, 1) := by decide +kernel
theorem dX0_areJoined_1 : decode cX0_areJoined 1 = .ok (.istore_n 3, 1) := by decide +kernel
theorem dX0_areJoined_2 : decode cX0_areJoined 2 = .ok (.iload_n 3, 1) := by decide +kernel
theorem dX0_areJoined_3 : decode cX0_areJoined 3 = .ok (.aload_n 0, 1) := by decide +kernel
theorem dX0_areJoined_4 : decode cX0_areJoined 4 = .ok (.getfield 55, 3) := by decide +kernel
theorem dX0_areJoined_7 : decode cX0_areJoined 7 = .ok (.if_icmp .ge 51, 3) := by decide +kernel
theorem dX0_areJoined_10 : decode cX0_areJoined 10 = .ok (.aload_n 0, 1) := by decide +kernel
theorem dX0_areJoined_11 : decode cX0_areJoined 11 = .ok (.getfield 15, 3) := by decide +kernel
theorem dX0_areJoined_14 : decode cX0_areJoined 14 = .ok (.iload_n 3, 1) := by decide +kernel
theorem dX0_areJoined_15 : decode cX0_areJoined 15 = .ok (.iaload, 1) := by decide +kernel
theorem dX0_areJoined_16 : decode cX0_areJoined 16 = .ok (.iload_n 1, 1) := by decide +kernel
theorem dX0_areJoined_17 : decode cX0_areJoined 17 = .ok (.if_icmp .ne 13, 3) := by decide +kernel
theorem dX0_areJoined_20 : decode cX0_areJoined 20 = .ok (.aload_n 0, 1) := by decide +kernel
theorem dX0_areJoined_21 : decode cX0_areJoined 21 = .ok (.getfield 18, 3) := by decide +kernel
theorem dX0_areJoined_24 : decode cX0_areJoined 24 = .ok (.iload_n 3, 1) := by decide +kernel
theorem dX0_areJoined_25 : decode cX0_areJoined 25 = .ok (.iaload, 1) := by decide +kernel
theorem dX0_areJoined_26 : decode cX0_areJoined 26 = .ok (.iload_n 2, 1) := by decide +kernel
theorem dX0_areJoined_27 : decode cX0_areJoined 27 = .ok (.if_icmp .eq 23, 3) := by decide +kernel
theorem dX0_areJoined_30 : decode cX0_areJoined 30 = .ok (.aload_n 0, 1) := by decide +kernel
theorem dX0_areJoined_31 : decode cX0_areJoined 31 = .ok (.getfield 15, 3) := by decide +kernel
theorem dX0_areJoined_34 : decode cX0_areJoined 34 = .ok (.iload_n 3, 1) := by decide +kernel
theorem dX0_areJoined_35 : decode cX0_areJoined 35 = .ok (.iaload, 1) := by decide +kernel
theorem dX0_areJoined_36 : decode cX0_areJoined 36 = .ok (.iload_n 2, 1) := by decide +kernel
theorem dX0_areJoined_37 : decode cX0_areJoined 37 = .ok (.if_icmp .ne 15, 3) := by decide +kernel
theorem dX0_areJoined_40 : decode cX0_areJoined 40 = .ok (.aload_n 0, 1) := by decide +kernel
theorem dX0_areJoined_41 : decode cX0_areJoined 41 = .ok (.getfield 18, 3) := by decide +kernel
theorem dX0_areJoined_44 : decode cX0_areJoined 44 = .ok (.iload_n 3, 1) := by decide +kernel
theorem dX0_areJoined_45 : decode cX0_areJoined 45 = .ok (.iaload, 1) := by decide +kernel
theorem dX0_areJoined_46 : decode cX0_areJoined 46 = .ok (.iload_n 1, 1) := by decide +kernel
theorem dX0_areJoined_47 : decode cX0_areJoined 47 = .ok (.if_icmp .ne 5, 3) := by decide +kernel
theorem dX0_areJoined_50 : decode cX0_areJoined 50 = .ok (.iconst 1, 1) := by decide +kernel
theorem dX0_areJoined_51 : decode cX0_areJoined 51 = .ok (.ireturn, 1) := by decide +kernel
theorem dX0_areJoined_52 : decode cX0_areJoined 52 = .ok (.iinc 3 1, 3) := by decide +kernel
theorem dX0_areJoined_55 : decode cX0_areJoined 55 = .ok (.goto (-53), 3) := by decide +kernel
theorem dX0_areJoined_58 : decode cX0_areJoined 58 = .ok (.iconst 0, 1) := by decide +kernel
theorem dX0_areJoined_59 : decode cX0_areJoined 59 = .ok (.ireturn, 1) := by decide +kernel
theorem dX0_lowest_0 : decode cX0_lowest 0 = .ok (.iconst 0, 1) := by decide +kernel
theorem dX0_lowest_1 : decode cX0_lowest 1 = .ok (.istore_n 1, 1) := by decide +kernel
theorem dX0_lowest_2 : decode cX0_lowest 2 = .ok (.iconst 1, 1) := by decide +kernel
theorem dX0_lowest_3 : decode cX0_lowest 3 = .ok (.istore_n 2, 1) := by decide +kernel
theorem dX0_lowest_4 : decode cX0_lowest 4 = .ok (.iload_n 2, 1) := by decide +kernel
theorem dX0_lowest_5 : decode cX0_lowest 5 = .ok (.aload_n 0, 1) := by decide +kernel
theorem dX0_lowest_6 : decode cX0_lowest 6 = .ok (.getfield 43, 3) := by decide +kernel
theorem dX0_lowest_9 : decode cX0_lowest 9 = .ok (.if_icmp .ge 26, 3) := by decide +kernel
theorem dX0_lowest_12 : decode cX0_lowest 12 = .ok (.aload_n 0, 1) := by decide +kernel
theorem dX0_lowest_13 : decode cX0_lowest 13 = .ok (.getfield 9, 3) := by decide +kernel
theorem dX0_lowest_16 : decode cX0_lowest 16 = .ok (.iload_n 2, 1) := by decide +kernel
theorem dX0_lowest_17 : decode cX0_lowest 17 = .ok (.iaload, 1) := by decide +kernel
theorem dX0_lowest_18 : decode cX0_lowest 18 = .ok (.aload_n 0, 1) := by decide +kernel
theorem dX0_lowest_19 : decode cX0_lowest 19 = .ok (.getfield 9, 3) := by decide +kernel
theorem dX0_lowest_22 : decode cX0_lowest 22 = .ok (.iload_n 1, 1) := by decide +kernel
theorem dX0_lowest_23 : decode cX0_lowest 23 = .ok (.iaload, 1) := by decide +kernel
theorem dX0_lowest_24 : decode cX0_lowest 24 = .ok (.if_icmp .ge 5, 3) := by decide +kernel
theorem dX0_lowest_27 : decode cX0_lowest 27 = .ok (.iload_n 2, 1) := by decide +kernel
theorem dX0_lowest_28 : decode cX0_lowest 28 = .ok (.istore_n 1, 1) := by decide +kernel
theorem dX0_lowest_29 : decode cX0_lowest 29 = .ok (.iinc 2 1, 3) := by decide +kernel
theorem dX0_lowest_32 : decode cX0_lowest 32 = .ok (.goto (-28), 3) := by decide +kernel
theorem dX0_lowest_35 : decode cX0_lowest 35 = .ok (.iload_n 1, 1) := by decide +kernel
theorem dX0_lowest_36 : decode cX0_lowest 36 = .ok (.ireturn, 1) := by decide +kernel
theorem dX0_highest_0 : decode cX0_highest 0 = .ok (.iconst 0, 1) := by decide +kernel
theorem dX0_highest_1 : decode cX0_highest 1 = .ok (.istore_n 1, 1) := by decide +kernel
theorem dX0_highest_2 : decode cX0_highest 2 = .ok (.iconst 1, 1) := by decide +kernel
theorem dX0_highest_3 : decode cX0_highest 3 = .ok (.istore_n 2, 1) := by decide +kernel
theorem dX0_highest_4 : decode cX0_highest 4 = .ok (.iload_n 2, 1) := by decide +kernel
theorem dX0_highest_5 : decode cX0_highest 5 = .ok (.aload_n 0, 1) := by decide +kernel
theorem dX0_highest_6 : decode cX0_highest 6 = .ok (.getfield 43, 3) := by decide +kernel
theorem dX0_highest_9 : decode cX0_highest 9 = .ok (.if_icmp .ge 26, 3) := by decide +kernel
theorem dX0_highest_12 : decode cX0_highest 12 = .ok (.aload_n 0, 1) := by decide +kernel
theorem dX0_highest_13 : decode cX0_highest 13 = .ok (.getfield 9, 3) := by decide +kernel
theorem dX0_highest_16 : decode cX0_highest 16 = .ok (.iload_n 2, 1) := by decide +kernel
theorem dX0_highest_17 : decode cX0_highest 17 = .ok (.iaload, 1) := by decide +kernel
theorem dX0_highest_18 : decode cX0_highest 18 = .ok (.aload_n 0, 1) := by decide +kernel
theorem dX0_highest_19 : decode cX0_highest 19 = .ok (.getfield 9, 3) := by decide +kernel
theorem dX0_highest_22 : decode cX0_highest 22 = .ok (.iload_n 1, 1) := by decide +kernel
theorem dX0_highest_23 : decode cX0_highest 23 = .ok (.iaload, 1) := by decide +kernel
theorem dX0_highest_24 : decode cX0_highest 24 = .ok (.if_icmp .le 5, 3) := by decide +kernel
theorem dX0_highest_27 : decode cX0_highest 27 = .ok (.iload_n 2, 1) := by decide +kernel
theorem dX0_highest_28 : decode cX0_highest 28 = .ok (.istore_n 1, 1) := by decide +kernel
theorem dX0_highest_29 : decode cX0_highest 29 = .ok (.iinc 2 1, 3) := by decide +kernel
theorem dX0_highest_32 : decode cX0_highest 32 = .ok (.goto (-28), 3) := by decide +kernel
theorem dX0_highest_35 : decode cX0_highest 35 = .ok (.iload_n 1, 1) := by decide +kernel
theorem dX0_highest_36 : decode cX0_highest 36 = .ok (.ireturn, 1) := by decide +kernel
theorem dX0_heightsTogether_0 : decode cX0_heightsTogether 0 = .ok (.iconst 0, 1) := by decide +kernel
theorem dX0_heightsTogether_1 : decode cX0_heightsTogether 1 = .ok (.istore_n 1, 1) := by decide +kernel
theorem dX0_heightsTogether_2 : decode cX0_heightsTogether 2 = .ok (.iconst 0, 1) := by decide +kernel
theorem dX0_heightsTogether_3 : decode cX0_heightsTogether 3 = .ok (.istore_n 2, 1) := by decide +kernel
theorem dX0_heightsTogether_4 : decode cX0_heightsTogether 4 = .ok (.iload_n 2, 1) := by decide +kernel
theorem dX0_heightsTogether_5 : decode cX0_heightsTogether 5 = .ok (.aload_n 0, 1) := by decide +kernel
theorem dX0_heightsTogether_6 : decode cX0_heightsTogether 6 = .ok (.getfield 43, 3) := by decide +kernel
theorem dX0_heightsTogether_9 : decode cX0_heightsTogether 9 = .ok (.if_icmp .ge 18, 3) := by decide +kernel
theorem dX0_heightsTogether_12 : decode cX0_heightsTogether 12 = .ok (.iload_n 1, 1) := by decide +kernel
theorem dX0_heightsTogether_13 : decode cX0_heightsTogether 13 = .ok (.aload_n 0, 1) := by decide +kernel
theorem dX0_heightsTogether_14 : decode cX0_heightsTogether 14 = .ok (.getfield 9, 3) := by decide +kernel
theorem dX0_heightsTogether_17 : decode cX0_heightsTogether 17 = .ok (.iload_n 2, 1) := by decide +kernel
theorem dX0_heightsTogether_18 : decode cX0_heightsTogether 18 = .ok (.iaload, 1) := by decide +kernel
theorem dX0_heightsTogether_19 : decode cX0_heightsTogether 19 = .ok (.iadd, 1) := by decide +kernel
theorem dX0_heightsTogether_20 : decode cX0_heightsTogether 20 = .ok (.istore_n 1, 1) := by decide +kernel
theorem dX0_heightsTogether_21 : decode cX0_heightsTogether 21 = .ok (.iinc 2 1, 3) := by decide +kernel
theorem dX0_heightsTogether_24 : decode cX0_heightsTogether 24 = .ok (.goto (-20), 3) := by decide +kernel
theorem dX0_heightsTogether_27 : decode cX0_heightsTogether 27 = .ok (.iload_n 1, 1) := by decide +kernel
theorem dX0_heightsTogether_28 : decode cX0_heightsTogether 28 = .ok (.ireturn, 1) := by decide +kernel
theorem dX0_takes_0 : decode cX0_takes 0 = .ok (.iload_n 1, 1) := by decide +kernel
theorem dX0_takes_1 : decode cX0_takes 1 = .ok (.iconst 4, 1) := by decide +kernel
theorem dX0_takes_2 : decode cX0_takes 2 = .ok (.if_icmp .ne 11, 3) := by decide +kernel
theorem dX0_takes_5 : decode cX0_takes 5 = .ok (.aload_n 0, 1) := by decide +kernel
theorem dX0_takes_6 : decode cX0_takes 6 = .ok (.iload_n 2, 1) := by decide +kernel
theorem dX0_takes_7 : decode cX0_takes 7 = .ok (.invokevirtual 82, 3) := by decide +kernel
theorem dX0_takes_10 : decode cX0_takes 10 = .ok (.ifCond .ne 7, 3) := by decide +kernel
theorem dX0_takes_13 : decode cX0_takes 13 = .ok (.iconst 1, 1) := by decide +kernel
theorem dX0_takes_14 : decode cX0_takes 14 = .ok (.goto 4, 3) := by decide +kernel
theorem dX0_takes_17 : decode cX0_takes 17 = .ok (.iconst 0, 1) := by decide +kernel
theorem dX0_takes_18 : decode cX0_takes 18 = .ok (.ireturn, 1) := by decide +kernel
theorem dX0_carries_0 : decode cX0_carries 0 = .ok (.aload_n 0, 1) := by decide +kernel
theorem dX0_carries_1 : decode cX0_carries 1 = .ok (.iload_n 1, 1) := by decide +kernel
theorem dX0_carries_2 : decode cX0_carries 2 = .ok (.iload_n 3, 1) := by decide +kernel
theorem dX0_carries_3 : decode cX0_carries 3 = .ok (.invokevirtual 85, 3) := by decide +kernel
theorem dX0_carries_6 : decode cX0_carries 6 = .ok (.ifCond .eq 25, 3) := by decide +kernel
theorem dX0_carries_9 : decode cX0_carries 9 = .ok (.aload_n 0, 1) := by decide +kernel
theorem dX0_carries_10 : decode cX0_carries 10 = .ok (.iload_n 2, 1) := by decide +kernel
theorem dX0_carries_11 : decode cX0_carries 11 = .ok (.invokevirtual 89, 3) := by decide +kernel
theorem dX0_carries_14 : decode cX0_carries 14 = .ok (.aload_n 0, 1) := by decide +kernel
theorem dX0_carries_15 : decode cX0_carries 15 = .ok (.iload_n 3, 1) := by decide +kernel
theorem dX0_carries_16 : decode cX0_carries 16 = .ok (.invokevirtual 89, 3) := by decide +kernel
theorem dX0_carries_19 : decode cX0_carries 19 = .ok (.isub, 1) := by decide +kernel
theorem dX0_carries_20 : decode cX0_carries 20 = .ok (.iload_n 1, 1) := by decide +kernel
theorem dX0_carries_21 : decode cX0_carries 21 = .ok (.invokestatic 93, 3) := by decide +kernel
theorem dX0_carries_24 : decode cX0_carries 24 = .ok (.if_icmp .lt 7, 3) := by decide +kernel
theorem dX0_carries_27 : decode cX0_carries 27 = .ok (.iconst 1, 1) := by decide +kernel
theorem dX0_carries_28 : decode cX0_carries 28 = .ok (.goto 4, 3) := by decide +kernel
theorem dX0_carries_31 : decode cX0_carries 31 = .ok (.iconst 0, 1) := by decide +kernel
theorem dX0_carries_32 : decode cX0_carries 32 = .ok (.ireturn, 1) := by decide +kernel
theorem dX0_leadsInto_0 : decode cX0_leadsInto 0 = .ok (.aload_n 0, 1) := by decide +kernel
theorem dX0_leadsInto_1 : decode cX0_leadsInto 1 = .ok (.iload_n 2, 1) := by decide +kernel
theorem dX0_leadsInto_2 : decode cX0_leadsInto 2 = .ok (.iload_n 3, 1) := by decide +kernel
theorem dX0_leadsInto_3 : decode cX0_leadsInto 3 = .ok (.invokevirtual 98, 3) := by decide +kernel
theorem dX0_leadsInto_6 : decode cX0_leadsInto 6 = .ok (.ifCond .eq 17, 3) := by decide +kernel
theorem dX0_leadsInto_9 : decode cX0_leadsInto 9 = .ok (.aload_n 0, 1) := by decide +kernel
theorem dX0_leadsInto_10 : decode cX0_leadsInto 10 = .ok (.iload_n 1, 1) := by decide +kernel
theorem dX0_leadsInto_11 : decode cX0_leadsInto 11 = .ok (.iload_n 2, 1) := by decide +kernel
theorem dX0_leadsInto_12 : decode cX0_leadsInto 12 = .ok (.iload_n 3, 1) := by decide +kernel
theorem dX0_leadsInto_13 : decode cX0_leadsInto 13 = .ok (.invokevirtual 101, 3) := by decide +kernel
theorem dX0_leadsInto_16 : decode cX0_leadsInto 16 = .ok (.ifCond .eq 7, 3) := by decide +kernel
theorem dX0_leadsInto_19 : decode cX0_leadsInto 19 = .ok (.iconst 1, 1) := by decide +kernel
theorem dX0_leadsInto_20 : decode cX0_leadsInto 20 = .ok (.goto 4, 3) := by decide +kernel
theorem dX0_leadsInto_23 : decode cX0_leadsInto 23 = .ok (.iconst 0, 1) := by decide +kernel
theorem dX0_leadsInto_24 : decode cX0_leadsInto 24 = .ok (.ireturn, 1) := by decide +kernel
theorem dX0_balloonTakes_0 : decode cX0_balloonTakes 0 = .ok (.iload_n 1, 1) := by decide +kernel
theorem dX0_balloonTakes_1 : decode cX0_balloonTakes 1 = .ok (.iconst 5, 1) := by decide +kernel
theorem dX0_balloonTakes_2 : decode cX0_balloonTakes 2 = .ok (.if_icmp .eq 19, 3) := by decide +kernel
theorem dX0_balloonTakes_5 : decode cX0_balloonTakes 5 = .ok (.aload_n 0, 1) := by decide +kernel
theorem dX0_balloonTakes_6 : decode cX0_balloonTakes 6 = .ok (.iload_n 1, 1) := by decide +kernel
theorem dX0_balloonTakes_7 : decode cX0_balloonTakes 7 = .ok (.aload_n 0, 1) := by decide +kernel
theorem dX0_balloonTakes_8 : decode cX0_balloonTakes 8 = .ok (.invokevirtual 105, 3) := by decide +kernel
theorem dX0_balloonTakes_11 : decode cX0_balloonTakes 11 = .ok (.invokevirtual 85, 3) := by decide +kernel
theorem dX0_balloonTakes_14 : decode cX0_balloonTakes 14 = .ok (.ifCond .eq 7, 3) := by decide +kernel
theorem dX0_balloonTakes_17 : decode cX0_balloonTakes 17 = .ok (.iconst 1, 1) := by decide +kernel
theorem dX0_balloonTakes_18 : decode cX0_balloonTakes 18 = .ok (.goto 4, 3) := by decide +kernel
theorem dX0_balloonTakes_21 : decode cX0_balloonTakes 21 = .ok (.iconst 0, 1) := by decide +kernel
theorem dX0_balloonTakes_22 : decode cX0_balloonTakes 22 = .ok (.ireturn, 1) := by decide +kernel
theorem dX0_liesIn_0 : decode cX0_liesIn 0 = .ok (.aload_n 0, 1) := by decide +kernel
theorem dX0_liesIn_1 : decode cX0_liesIn 1 = .ok (.iload_n 1, 1) := by decide +kernel
theorem dX0_liesIn_2 : decode cX0_liesIn 2 = .ok (.invokevirtual 109, 3) := by decide +kernel
theorem dX0_liesIn_5 : decode cX0_liesIn 5 = .ok (.ifCond .eq 26, 3) := by decide +kernel
theorem dX0_liesIn_8 : decode cX0_liesIn 8 = .ok (.aload_n 0, 1) := by decide +kernel
theorem dX0_liesIn_9 : decode cX0_liesIn 9 = .ok (.getfield 40, 3) := by decide +kernel
theorem dX0_liesIn_12 : decode cX0_liesIn 12 = .ok (.iload_n 1, 1) := by decide +kernel
theorem dX0_liesIn_13 : decode cX0_liesIn 13 = .ok (.iaload, 1) := by decide +kernel
theorem dX0_liesIn_14 : decode cX0_liesIn 14 = .ok (.ifCond .ne 17, 3) := by decide +kernel
theorem dX0_liesIn_17 : decode cX0_liesIn 17 = .ok (.aload_n 0, 1) := by decide +kernel
theorem dX0_liesIn_18 : decode cX0_liesIn 18 = .ok (.getfield 31, 3) := by decide +kernel
theorem dX0_liesIn_21 : decode cX0_liesIn 21 = .ok (.iload_n 1, 1) := by decide +kernel
theorem dX0_liesIn_22 : decode cX0_liesIn 22 = .ok (.iaload, 1) := by decide +kernel
theorem dX0_liesIn_23 : decode cX0_liesIn 23 = .ok (.iload_n 2, 1) := by decide +kernel
theorem dX0_liesIn_24 : decode cX0_liesIn 24 = .ok (.if_icmp .ne 7, 3) := by decide +kernel
theorem dX0_liesIn_27 : decode cX0_liesIn 27 = .ok (.iconst 1, 1) := by decide +kernel
theorem dX0_liesIn_28 : decode cX0_liesIn 28 = .ok (.goto 4, 3) := by decide +kernel
theorem dX0_liesIn_31 : decode cX0_liesIn 31 = .ok (.iconst 0, 1) := by decide +kernel
theorem dX0_liesIn_32 : decode cX0_liesIn 32 = .ok (.ireturn, 1) := by decide +kernel
theorem dX0_isThere_0 : decode cX0_isThere 0 = .ok (.aload_n 0, 1) := by decide +kernel
theorem dX0_isThere_1 : decode cX0_isThere 1 = .ok (.iload_n 1, 1) := by decide +kernel
theorem dX0_isThere_2 : decode cX0_isThere 2 = .ok (.invokevirtual 109, 3) := by decide +kernel
theorem dX0_isThere_5 : decode cX0_isThere 5 = .ok (.ifCond .eq 21, 3) := by decide +kernel
theorem dX0_isThere_8 : decode cX0_isThere 8 = .ok (.aload_n 0, 1) := by decide +kernel
theorem dX0_isThere_9 : decode cX0_isThere 9 = .ok (.iload_n 1, 1) := by decide +kernel
theorem dX0_isThere_10 : decode cX0_isThere 10 = .ok (.aload_n 0, 1) := by decide +kernel
theorem dX0_isThere_11 : decode cX0_isThere 11 = .ok (.getfield 34, 3) := by decide +kernel
theorem dX0_isThere_14 : decode cX0_isThere 14 = .ok (.iload_n 1, 1) := by decide +kernel
theorem dX0_isThere_15 : decode cX0_isThere 15 = .ok (.iaload, 1) := by decide +kernel
theorem dX0_isThere_16 : decode cX0_isThere 16 = .ok (.invokevirtual 112, 3) := by decide +kernel
theorem dX0_isThere_19 : decode cX0_isThere 19 = .ok (.ifCond .eq 7, 3) := by decide +kernel
theorem dX0_isThere_22 : decode cX0_isThere 22 = .ok (.iconst 1, 1) := by decide +kernel
theorem dX0_isThere_23 : decode cX0_isThere 23 = .ok (.goto 4, 3) := by decide +kernel
theorem dX0_isThere_26 : decode cX0_isThere 26 = .ok (.iconst 0, 1) := by decide +kernel
theorem dX0_isThere_27 : decode cX0_isThere 27 = .ok (.ireturn, 1) := by decide +kernel
theorem dX0_lettersIn_0 : decode cX0_lettersIn 0 = .ok (.iconst 0, 1) := by decide +kernel
theorem dX0_lettersIn_1 : decode cX0_lettersIn 1 = .ok (.istore_n 2, 1) := by decide +kernel
theorem dX0_lettersIn_2 : decode cX0_lettersIn 2 = .ok (.iconst 0, 1) := by decide +kernel
theorem dX0_lettersIn_3 : decode cX0_lettersIn 3 = .ok (.istore_n 3, 1) := by decide +kernel
theorem dX0_lettersIn_4 : decode cX0_lettersIn 4 = .ok (.iload_n 3, 1) := by decide +kernel
theorem dX0_lettersIn_5 : decode cX0_lettersIn 5 = .ok (.aload_n 0, 1) := by decide +kernel
theorem dX0_lettersIn_6 : decode cX0_lettersIn 6 = .ok (.getfield 61, 3) := by decide +kernel
theorem dX0_lettersIn_9 : decode cX0_lettersIn 9 = .ok (.if_icmp .ge 24, 3) := by decide +kernel
theorem dX0_lettersIn_12 : decode cX0_lettersIn 12 = .ok (.aload_n 0, 1) := by decide +kernel
theorem dX0_lettersIn_13 : decode cX0_lettersIn 13 = .ok (.iload_n 3, 1) := by decide +kernel
theorem dX0_lettersIn_14 : decode cX0_lettersIn 14 = .ok (.iload_n 1, 1) := by decide +kernel
theorem dX0_lettersIn_15 : decode cX0_lettersIn 15 = .ok (.invokevirtual 112, 3) := by decide +kernel
theorem dX0_lettersIn_18 : decode cX0_lettersIn 18 = .ok (.ifCond .eq 9, 3) := by decide +kernel
theorem dX0_lettersIn_21 : decode cX0_lettersIn 21 = .ok (.iload_n 2, 1) := by decide +kernel
theorem dX0_lettersIn_22 : decode cX0_lettersIn 22 = .ok (.iconst 1, 1) := by decide +kernel
theorem dX0_lettersIn_23 : decode cX0_lettersIn 23 = .ok (.iload_n 3, 1) := by decide +kernel
theorem dX0_lettersIn_24 : decode cX0_lettersIn 24 = .ok (.ishl, 1) := by decide +kernel
theorem dX0_lettersIn_25 : decode cX0_lettersIn 25 = .ok (.ior, 1) := by decide +kernel
theorem dX0_lettersIn_26 : decode cX0_lettersIn 26 = .ok (.istore_n 2, 1) := by decide +kernel
theorem dX0_lettersIn_27 : decode cX0_lettersIn 27 = .ok (.iinc 3 1, 3) := by decide +kernel
theorem dX0_lettersIn_30 : decode cX0_lettersIn 30 = .ok (.goto (-26), 3) := by decide +kernel
theorem dX0_lettersIn_33 : decode cX0_lettersIn 33 = .ok (.iload_n 2, 1) := by decide +kernel
theorem dX0_lettersIn_34 : decode cX0_lettersIn 34 = .ok (.ireturn, 1) := by decide +kernel
theorem dX0_lettersThere_0 : decode cX0_lettersThere 0 = .ok (.iconst 0, 1) := by decide +kernel
theorem dX0_lettersThere_1 : decode cX0_lettersThere 1 = .ok (.istore_n 1, 1) := by decide +kernel
theorem dX0_lettersThere_2 : decode cX0_lettersThere 2 = .ok (.iconst 0, 1) := by decide +kernel
theorem dX0_lettersThere_3 : decode cX0_lettersThere 3 = .ok (.istore_n 2, 1) := by decide +kernel
theorem dX0_lettersThere_4 : decode cX0_lettersThere 4 = .ok (.iload_n 2, 1) := by decide +kernel
theorem dX0_lettersThere_5 : decode cX0_lettersThere 5 = .ok (.aload_n 0, 1) := by decide +kernel
theorem dX0_lettersThere_6 : decode cX0_lettersThere 6 = .ok (.getfield 61, 3) := by decide +kernel
theorem dX0_lettersThere_9 : decode cX0_lettersThere 9 = .ok (.if_icmp .ge 20, 3) := by decide +kernel
theorem dX0_lettersThere_12 : decode cX0_lettersThere 12 = .ok (.aload_n 0, 1) := by decide +kernel
theorem dX0_lettersThere_13 : decode cX0_lettersThere 13 = .ok (.iload_n 2, 1) := by decide +kernel
theorem dX0_lettersThere_14 : decode cX0_lettersThere 14 = .ok (.invokevirtual 115, 3) := by decide +kernel
theorem dX0_lettersThere_17 : decode cX0_lettersThere 17 = .ok (.ifCond .eq 6, 3) := by decide +kernel
theorem dX0_lettersThere_20 : decode cX0_lettersThere 20 = .ok (.iinc 1 1, 3) := by decide +kernel
theorem dX0_lettersThere_23 : decode cX0_lettersThere 23 = .ok (.iinc 2 1, 3) := by decide +kernel
theorem dX0_lettersThere_26 : decode cX0_lettersThere 26 = .ok (.goto (-22), 3) := by decide +kernel
theorem dX0_lettersThere_29 : decode cX0_lettersThere 29 = .ok (.iload_n 1, 1) := by decide +kernel
theorem dX0_lettersThere_30 : decode cX0_lettersThere 30 = .ok (.ireturn, 1) := by decide +kernel
theorem dX0_lettersOnTheirWay_0 : decode cX0_lettersOnTheirWay 0 = .ok (.iconst 0, 1) := by decide +kernel
theorem dX0_lettersOnTheirWay_1 : decode cX0_lettersOnTheirWay 1 = .ok (.istore_n 1, 1) := by decide +kernel
theorem dX0_lettersOnTheirWay_2 : decode cX0_lettersOnTheirWay 2 = .ok (.iconst 0, 1) := by decide +kernel
theorem dX0_lettersOnTheirWay_3 : decode cX0_lettersOnTheirWay 3 = .ok (.istore_n 2, 1) := by decide +kernel
theorem dX0_lettersOnTheirWay_4 : decode cX0_lettersOnTheirWay 4 = .ok (.iload_n 2, 1) := by decide +kernel
theorem dX0_lettersOnTheirWay_5 : decode cX0_lettersOnTheirWay 5 = .ok (.aload_n 0, 1) := by decide +kernel
theorem dX0_lettersOnTheirWay_6 : decode cX0_lettersOnTheirWay 6 = .ok (.getfield 61, 3) := by decide +kernel
theorem dX0_lettersOnTheirWay_9 : decode cX0_lettersOnTheirWay 9 = .ok (.if_icmp .ge 21, 3) := by decide +kernel
theorem dX0_lettersOnTheirWay_12 : decode cX0_lettersOnTheirWay 12 = .ok (.aload_n 0, 1) := by decide +kernel
theorem dX0_lettersOnTheirWay_13 : decode cX0_lettersOnTheirWay 13 = .ok (.getfield 40, 3) := by decide +kernel
theorem dX0_lettersOnTheirWay_16 : decode cX0_lettersOnTheirWay 16 = .ok (.iload_n 2, 1) := by decide +kernel
theorem dX0_lettersOnTheirWay_17 : decode cX0_lettersOnTheirWay 17 = .ok (.iaload, 1) := by decide +kernel
theorem dX0_lettersOnTheirWay_18 : decode cX0_lettersOnTheirWay 18 = .ok (.ifCond .le 6, 3) := by decide +kernel
theorem dX0_lettersOnTheirWay_21 : decode cX0_lettersOnTheirWay 21 = .ok (.iinc 1 1, 3) := by decide +kernel
theorem dX0_lettersOnTheirWay_24 : decode cX0_lettersOnTheirWay 24 = .ok (.iinc 2 1, 3) := by decide +kernel
theorem dX0_lettersOnTheirWay_27 : decode cX0_lettersOnTheirWay 27 = .ok (.goto (-23), 3) := by decide +kernel
theorem dX0_lettersOnTheirWay_30 : decode cX0_lettersOnTheirWay 30 = .ok (.iload_n 1, 1) := by decide +kernel
theorem dX0_lettersOnTheirWay_31 : decode cX0_lettersOnTheirWay 31 = .ok (.ireturn, 1) := by decide +kernel
theorem dX0_passDay_0 : decode cX0_passDay 0 = .ok (.aload_n 0, 1) := by decide +kernel
theorem dX0_passDay_1 : decode cX0_passDay 1 = .ok (.iload_n 1, 1) := by decide +kernel
theorem dX0_passDay_2 : decode cX0_passDay 2 = .ok (.invokevirtual 109, 3) := by decide +kernel
theorem dX0_passDay_5 : decode cX0_passDay 5 = .ok (.ifCond .ne 4, 3) := by decide +kernel
theorem dX0_passDay_8 : decode cX0_passDay 8 = .ok (.return_, 1) := by decide +kernel
theorem dX0_passDay_9 : decode cX0_passDay 9 = .ok (.aload_n 0, 1) := by decide +kernel
theorem dX0_passDay_10 : decode cX0_passDay 10 = .ok (.getfield 40, 3) := by decide +kernel
theorem dX0_passDay_13 : decode cX0_passDay 13 = .ok (.iload_n 1, 1) := by decide +kernel
theorem dX0_passDay_14 : decode cX0_passDay 14 = .ok (.iaload, 1) := by decide +kernel
theorem dX0_passDay_15 : decode cX0_passDay 15 = .ok (.ifCond .ne 47, 3) := by decide +kernel
theorem dX0_passDay_18 : decode cX0_passDay 18 = .ok (.aload_n 2, 1) := by decide +kernel
theorem dX0_passDay_19 : decode cX0_passDay 19 = .ok (.aload_n 0, 1) := by decide +kernel
theorem dX0_passDay_20 : decode cX0_passDay 20 = .ok (.getfield 31, 3) := by decide +kernel
theorem dX0_passDay_23 : decode cX0_passDay 23 = .ok (.iload_n 1, 1) := by decide +kernel
theorem dX0_passDay_24 : decode cX0_passDay 24 = .ok (.iaload, 1) := by decide +kernel
theorem dX0_passDay_25 : decode cX0_passDay 25 = .ok (.aload_n 0, 1) := by decide +kernel
theorem dX0_passDay_26 : decode cX0_passDay 26 = .ok (.getfield 34, 3) := by decide +kernel
theorem dX0_passDay_29 : decode cX0_passDay 29 = .ok (.iload_n 1, 1) := by decide +kernel
theorem dX0_passDay_30 : decode cX0_passDay 30 = .ok (.iaload, 1) := by decide +kernel
theorem dX0_passDay_31 : decode cX0_passDay 31 = .ok (.iload_n 3, 1) := by decide +kernel
theorem dX0_passDay_32 : decode cX0_passDay 32 = .ok (.invokevirtual 118, 3) := by decide +kernel
theorem dX0_passDay_35 : decode cX0_passDay 35 = .ok (.aload_n 2, 1) := by decide +kernel
theorem dX0_passDay_36 : decode cX0_passDay 36 = .ok (.getfield 124, 3) := by decide +kernel
theorem dX0_passDay_39 : decode cX0_passDay 39 = .ok (.ifCond .lt 23, 3) := by decide +kernel
theorem dX0_passDay_42 : decode cX0_passDay 42 = .ok (.aload_n 0, 1) := by decide +kernel
theorem dX0_passDay_43 : decode cX0_passDay 43 = .ok (.getfield 31, 3) := by decide +kernel
theorem dX0_passDay_46 : decode cX0_passDay 46 = .ok (.iload_n 1, 1) := by decide +kernel
theorem dX0_passDay_47 : decode cX0_passDay 47 = .ok (.aload_n 2, 1) := by decide +kernel
theorem dX0_passDay_48 : decode cX0_passDay 48 = .ok (.getfield 124, 3) := by decide +kernel
theorem dX0_passDay_51 : decode cX0_passDay 51 = .ok (.iastore, 1) := by decide +kernel
theorem dX0_passDay_52 : decode cX0_passDay 52 = .ok (.aload_n 0, 1) := by decide +kernel
theorem dX0_passDay_53 : decode cX0_passDay 53 = .ok (.getfield 40, 3) := by decide +kernel
theorem dX0_passDay_56 : decode cX0_passDay 56 = .ok (.iload_n 1, 1) := by decide +kernel
theorem dX0_passDay_57 : decode cX0_passDay 57 = .ok (.aload_n 2, 1) := by decide +kernel
theorem dX0_passDay_58 : decode cX0_passDay 58 = .ok (.getfield 127, 3) := by decide +kernel
theorem dX0_passDay_61 : decode cX0_passDay 61 = .ok (.iastore, 1) := by decide +kernel
theorem dX0_passDay_62 : decode cX0_passDay 62 = .ok (.aload_n 0, 1) := by decide +kernel
theorem dX0_passDay_63 : decode cX0_passDay 63 = .ok (.getfield 40, 3) := by decide +kernel
theorem dX0_passDay_66 : decode cX0_passDay 66 = .ok (.iload_n 1, 1) := by decide +kernel
theorem dX0_passDay_67 : decode cX0_passDay 67 = .ok (.iaload, 1) := by decide +kernel
theorem dX0_passDay_68 : decode cX0_passDay 68 = .ok (.ifCond .le 13, 3) := by decide +kernel
theorem dX0_passDay_71 : decode cX0_passDay 71 = .ok (.aload_n 0, 1) := by decide +kernel
theorem dX0_passDay_72 : decode cX0_passDay 72 = .ok (.getfield 40, 3) := by decide +kernel
theorem dX0_passDay_75 : decode cX0_passDay 75 = .ok (.iload_n 1, 1) := by decide +kernel
theorem dX0_passDay_76 : decode cX0_passDay 76 = .ok (.dup2, 1) := by decide +kernel
theorem dX0_passDay_77 : decode cX0_passDay 77 = .ok (.iaload, 1) := by decide +kernel
theorem dX0_passDay_78 : decode cX0_passDay 78 = .ok (.iconst 1, 1) := by decide +kernel
theorem dX0_passDay_79 : decode cX0_passDay 79 = .ok (.isub, 1) := by decide +kernel
theorem dX0_passDay_80 : decode cX0_passDay 80 = .ok (.iastore, 1) := by decide +kernel
theorem dX0_passDay_81 : decode cX0_passDay 81 = .ok (.return_, 1) := by decide +kernel
theorem dX1_bring_0 : decode cX1_bring 0 = .ok (.aload_n 0, 1) := by decide +kernel
theorem dX1_bring_1 : decode cX1_bring 1 = .ok (.invokevirtual 9, 3) := by decide +kernel
theorem dX1_bring_4 : decode cX1_bring 4 = .ok (.iconst 1, 1) := by decide +kernel
theorem dX1_bring_5 : decode cX1_bring 5 = .ok (.istore_n 2, 1) := by decide +kernel
theorem dX1_bring_6 : decode cX1_bring 6 = .ok (.iload_n 2, 1) := by decide +kernel
theorem dX1_bring_7 : decode cX1_bring 7 = .ok (.bipush 120, 2) := by decide +kernel
theorem dX1_bring_9 : decode cX1_bring 9 = .ok (.if_icmp .gt 51, 3) := by decide +kernel
theorem dX1_bring_12 : decode cX1_bring 12 = .ok (.aload_n 0, 1) := by decide +kernel
theorem dX1_bring_13 : decode cX1_bring 13 = .ok (.aload_n 1, 1) := by decide +kernel
theorem dX1_bring_14 : decode cX1_bring 14 = .ok (.invokestatic 14, 3) := by decide +kernel
theorem dX1_bring_17 : decode cX1_bring 17 = .ok (.ifCond .ne 10, 3) := by decide +kernel
theorem dX1_bring_20 : decode cX1_bring 20 = .ok (.iconst (-1), 1) := by decide +kernel
theorem dX1_bring_21 : decode cX1_bring 21 = .ok (.aload_n 0, 1) := by decide +kernel
theorem dX1_bring_22 : decode cX1_bring 22 = .ok (.getfield 20, 3) := by decide +kernel
theorem dX1_bring_25 : decode cX1_bring 25 = .ok (.isub, 1) := by decide +kernel
theorem dX1_bring_26 : decode cX1_bring 26 = .ok (.ireturn, 1) := by decide +kernel
theorem dX1_bring_27 : decode cX1_bring 27 = .ok (.aload_n 0, 1) := by decide +kernel
theorem dX1_bring_28 : decode cX1_bring 28 = .ok (.invokevirtual 24, 3) := by decide +kernel
theorem dX1_bring_31 : decode cX1_bring 31 = .ok (.ifCond .eq 5, 3) := by decide +kernel
theorem dX1_bring_34 : decode cX1_bring 34 = .ok (.iload_n 2, 1) := by decide +kernel
theorem dX1_bring_35 : decode cX1_bring 35 = .ok (.ireturn, 1) := by decide +kernel
theorem dX1_bring_36 : decode cX1_bring 36 = .ok (.aload_n 0, 1) := by decide +kernel
theorem dX1_bring_37 : decode cX1_bring 37 = .ok (.invokevirtual 28, 3) := by decide +kernel
theorem dX1_bring_40 : decode cX1_bring 40 = .ok (.ifCond .ne 10, 3) := by decide +kernel
theorem dX1_bring_43 : decode cX1_bring 43 = .ok (.iconst (-1), 1) := by decide +kernel
theorem dX1_bring_44 : decode cX1_bring 44 = .ok (.aload_n 0, 1) := by decide +kernel
theorem dX1_bring_45 : decode cX1_bring 45 = .ok (.getfield 20, 3) := by decide +kernel
theorem dX1_bring_48 : decode cX1_bring 48 = .ok (.isub, 1) := by decide +kernel
theorem dX1_bring_49 : decode cX1_bring 49 = .ok (.ireturn, 1) := by decide +kernel
theorem dX1_bring_50 : decode cX1_bring 50 = .ok (.aload_n 0, 1) := by decide +kernel
theorem dX1_bring_51 : decode cX1_bring 51 = .ok (.invokevirtual 31, 3) := by decide +kernel
theorem dX1_bring_54 : decode cX1_bring 54 = .ok (.iinc 2 1, 3) := by decide +kernel
theorem dX1_bring_57 : decode cX1_bring 57 = .ok (.goto (-51), 3) := by decide +kernel
theorem dX1_bring_60 : decode cX1_bring 60 = .ok (.iconst (-1), 1) := by decide +kernel
theorem dX1_bring_61 : decode cX1_bring 61 = .ok (.aload_n 0, 1) := by decide +kernel
theorem dX1_bring_62 : decode cX1_bring 62 = .ok (.getfield 20, 3) := by decide +kernel
theorem dX1_bring_65 : decode cX1_bring 65 = .ok (.isub, 1) := by decide +kernel
theorem dX1_bring_66 : decode cX1_bring 66 = .ok (.ireturn, 1) := by decide +kernel
theorem dX1_bringItem_0 : decode cX1_bringItem 0 = .ok (.aload_n 0, 1) := by decide +kernel
theorem dX1_bringItem_1 : decode cX1_bringItem 1 = .ok (.ldc 34, 2) := by decide +kernel
theorem dX1_bringItem_3 : decode cX1_bringItem 3 = .ok (.invokevirtual 36, 3) := by decide +kernel
theorem dX1_bringItem_6 : decode cX1_bringItem 6 = .ok (.ifCond .eq 9, 3) := by decide +kernel
theorem dX1_bringItem_9 : decode cX1_bringItem 9 = .ok (.aload_n 0, 1) := by decide +kernel
theorem dX1_bringItem_10 : decode cX1_bringItem 10 = .ok (.aload_n 1, 1) := by decide +kernel
theorem dX1_bringItem_11 : decode cX1_bringItem 11 = .ok (.invokestatic 40, 3) := by decide +kernel
theorem dX1_bringItem_14 : decode cX1_bringItem 14 = .ok (.ireturn, 1) := by decide +kernel
theorem dX1_bringItem_15 : decode cX1_bringItem 15 = .ok (.aload_n 0, 1) := by decide +kernel
theorem dX1_bringItem_16 : decode cX1_bringItem 16 = .ok (.ldc 43, 2) := by decide +kernel
theorem dX1_bringItem_18 : decode cX1_bringItem 18 = .ok (.invokevirtual 36, 3) := by decide +kernel
theorem dX1_bringItem_21 : decode cX1_bringItem 21 = .ok (.ifCond .eq 9, 3) := by decide +kernel
theorem dX1_bringItem_24 : decode cX1_bringItem 24 = .ok (.aload_n 0, 1) := by decide +kernel
theorem dX1_bringItem_25 : decode cX1_bringItem 25 = .ok (.aload_n 1, 1) := by decide +kernel
theorem dX1_bringItem_26 : decode cX1_bringItem 26 = .ok (.invokestatic 45, 3) := by decide +kernel
theorem dX1_bringItem_29 : decode cX1_bringItem 29 = .ok (.ireturn, 1) := by decide +kernel
theorem dX1_bringItem_30 : decode cX1_bringItem 30 = .ok (.aload_n 0, 1) := by decide +kernel
theorem dX1_bringItem_31 : decode cX1_bringItem 31 = .ok (.ldc 48, 2) := by decide +kernel
theorem dX1_bringItem_33 : decode cX1_bringItem 33 = .ok (.invokevirtual 36, 3) := by decide +kernel
theorem dX1_bringItem_36 : decode cX1_bringItem 36 = .ok (.ifCond .eq 9, 3) := by decide +kernel
theorem dX1_bringItem_39 : decode cX1_bringItem 39 = .ok (.aload_n 0, 1) := by decide +kernel
theorem dX1_bringItem_40 : decode cX1_bringItem 40 = .ok (.aload_n 1, 1) := by decide +kernel
theorem dX1_bringItem_41 : decode cX1_bringItem 41 = .ok (.invokestatic 50, 3) := by decide +kernel
theorem dX1_bringItem_44 : decode cX1_bringItem 44 = .ok (.ireturn, 1) := by decide +kernel
theorem dX1_bringItem_45 : decode cX1_bringItem 45 = .ok (.aload_n 0, 1) := by decide +kernel
theorem dX1_bringItem_46 : decode cX1_bringItem 46 = .ok (.ldc 53, 2) := by decide +kernel
theorem dX1_bringItem_48 : decode cX1_bringItem 48 = .ok (.invokevirtual 36, 3) := by decide +kernel
theorem dX1_bringItem_51 : decode cX1_bringItem 51 = .ok (.ifCond .eq 9, 3) := by decide +kernel
theorem dX1_bringItem_54 : decode cX1_bringItem 54 = .ok (.aload_n 0, 1) := by decide +kernel
theorem dX1_bringItem_55 : decode cX1_bringItem 55 = .ok (.aload_n 1, 1) := by decide +kernel
theorem dX1_bringItem_56 : decode cX1_bringItem 56 = .ok (.invokestatic 55, 3) := by decide +kernel
theorem dX1_bringItem_59 : decode cX1_bringItem 59 = .ok (.ireturn, 1) := by decide +kernel
theorem dX1_bringItem_60 : decode cX1_bringItem 60 = .ok (.aload_n 0, 1) := by decide +kernel
theorem dX1_bringItem_61 : decode cX1_bringItem 61 = .ok (.invokestatic 58, 3) := by decide +kernel
theorem dX1_bringItem_64 : decode cX1_bringItem 64 = .ok (.istore_n 2, 1) := by decide +kernel
theorem dX1_bringItem_65 : decode cX1_bringItem 65 = .ok (.iload_n 2, 1) := by decide +kernel
theorem dX1_bringItem_66 : decode cX1_bringItem 66 = .ok (.ifCond .lt 16, 3) := by decide +kernel
theorem dX1_bringItem_69 : decode cX1_bringItem 69 = .ok (.aload_n 0, 1) := by decide +kernel
theorem dX1_bringItem_70 : decode cX1_bringItem 70 = .ok (.aload_n 1, 1) := by decide +kernel
theorem dX1_bringItem_71 : decode cX1_bringItem 71 = .ok (.iload_n 2, 1) := by decide +kernel
theorem dX1_bringItem_72 : decode cX1_bringItem 72 = .ok (.invokestatic 62, 3) := by decide +kernel
theorem dX1_bringItem_75 : decode cX1_bringItem 75 = .ok (.ifCond .eq 7, 3) := by decide +kernel
theorem dX1_bringItem_78 : decode cX1_bringItem 78 = .ok (.iconst 1, 1) := by decide +kernel
theorem dX1_bringItem_79 : decode cX1_bringItem 79 = .ok (.goto 4, 3) := by decide +kernel
theorem dX1_bringItem_82 : decode cX1_bringItem 82 = .ok (.iconst 0, 1) := by decide +kernel
theorem dX1_bringItem_83 : decode cX1_bringItem 83 = .ok (.ireturn, 1) := by decide +kernel
theorem dX1_bringVillage_0 : decode cX1_bringVillage 0 = .ok (.aload_n 1, 1) := by decide +kernel
theorem dX1_bringVillage_1 : decode cX1_bringVillage 1 = .ok (.invokevirtual 66, 3) := by decide +kernel
theorem dX1_bringVillage_4 : decode cX1_bringVillage 4 = .ok (.ifCond .eq 5, 3) := by decide +kernel
theorem dX1_bringVillage_7 : decode cX1_bringVillage 7 = .ok (.iconst 0, 1) := by decide +kernel
theorem dX1_bringVillage_8 : decode cX1_bringVillage 8 = .ok (.ireturn, 1) := by decide +kernel
theorem dX1_bringVillage_9 : decode cX1_bringVillage 9 = .ok (.aload_n 0, 1) := by decide +kernel
theorem dX1_bringVillage_10 : decode cX1_bringVillage 10 = .ok (.invokevirtual 31, 3) := by decide +kernel
theorem dX1_bringVillage_13 : decode cX1_bringVillage 13 = .ok (.aload_n 0, 1) := by decide +kernel
theorem dX1_bringVillage_14 : decode cX1_bringVillage 14 = .ok (.iconst 0, 1) := by decide +kernel
theorem dX1_bringVillage_15 : decode cX1_bringVillage 15 = .ok (.sipush 9999, 3) := by decide +kernel
theorem dX1_bringVillage_18 : decode cX1_bringVillage 18 = .ok (.invokevirtual 71, 3) := by decide +kernel
theorem dX1_bringVillage_21 : decode cX1_bringVillage 21 = .ok (.ifCond .ne 5, 3) := by decide +kernel
theorem dX1_bringVillage_24 : decode cX1_bringVillage 24 = .ok (.iconst 0, 1) := by decide +kernel
theorem dX1_bringVillage_25 : decode cX1_bringVillage 25 = .ok (.ireturn, 1) := by decide +kernel
theorem dX1_bringVillage_26 : decode cX1_bringVillage 26 = .ok (.aload_n 0, 1) := by decide +kernel
theorem dX1_bringVillage_27 : decode cX1_bringVillage 27 = .ok (.getfield 75, 3) := by decide +kernel
theorem dX1_bringVillage_30 : decode cX1_bringVillage 30 = .ok (.istore_n 2, 1) := by decide +kernel
theorem dX1_bringVillage_31 : decode cX1_bringVillage 31 = .ok (.aload_n 0, 1) := by decide +kernel
theorem dX1_bringVillage_32 : decode cX1_bringVillage 32 = .ok (.invokevirtual 31, 3) := by decide +kernel
theorem dX1_bringVillage_35 : decode cX1_bringVillage 35 = .ok (.aload_n 0, 1) := by decide +kernel
theorem dX1_bringVillage_36 : decode cX1_bringVillage 36 = .ok (.ldc 78, 2) := by decide +kernel
theorem dX1_bringVillage_38 : decode cX1_bringVillage 38 = .ok (.invokevirtual 36, 3) := by decide +kernel
theorem dX1_bringVillage_41 : decode cX1_bringVillage 41 = .ok (.istore_n 3, 1) := by decide +kernel
theorem dX1_bringVillage_42 : decode cX1_bringVillage 42 = .ok (.iload_n 3, 1) := by decide +kernel
theorem dX1_bringVillage_43 : decode cX1_bringVillage 43 = .ok (.ifCond .eq 7, 3) := by decide +kernel
theorem dX1_bringVillage_46 : decode cX1_bringVillage 46 = .ok (.aload_n 0, 1) := by decide +kernel
theorem dX1_bringVillage_47 : decode cX1_bringVillage 47 = .ok (.invokevirtual 31, 3) := by decide +kernel
theorem dX1_bringVillage_50 : decode cX1_bringVillage 50 = .ok (.aload_n 1, 1) := by decide +kernel
theorem dX1_bringVillage_51 : decode cX1_bringVillage 51 = .ok (.iload_n 2, 1) := by decide +kernel
theorem dX1_bringVillage_52 : decode cX1_bringVillage 52 = .ok (.iload_n 3, 1) := by decide +kernel
theorem dX1_bringVillage_53 : decode cX1_bringVillage 53 = .ok (.invokevirtual 80, 3) := by decide +kernel
theorem dX1_bringVillage_56 : decode cX1_bringVillage 56 = .ok (.pop, 1) := by decide +kernel
theorem dX1_bringVillage_57 : decode cX1_bringVillage 57 = .ok (.iconst 1, 1) := by decide +kernel
theorem dX1_bringVillage_58 : decode cX1_bringVillage 58 = .ok (.ireturn, 1) := by decide +kernel
theorem dX1_bringRoad_0 : decode cX1_bringRoad 0 = .ok (.aload_n 1, 1) := by decide +kernel
theorem dX1_bringRoad_1 : decode cX1_bringRoad 1 = .ok (.invokevirtual 84, 3) := by decide +kernel
theorem dX1_bringRoad_4 : decode cX1_bringRoad 4 = .ok (.ifCond .eq 5, 3) := by decide +kernel
theorem dX1_bringRoad_7 : decode cX1_bringRoad 7 = .ok (.iconst 0, 1) := by decide +kernel
theorem dX1_bringRoad_8 : decode cX1_bringRoad 8 = .ok (.ireturn, 1) := by decide +kernel
theorem dX1_bringRoad_9 : decode cX1_bringRoad 9 = .ok (.aload_n 0, 1) := by decide +kernel
theorem dX1_bringRoad_10 : decode cX1_bringRoad 10 = .ok (.invokevirtual 31, 3) := by decide +kernel
theorem dX1_bringRoad_13 : decode cX1_bringRoad 13 = .ok (.aload_n 0, 1) := by decide +kernel
theorem dX1_bringRoad_14 : decode cX1_bringRoad 14 = .ok (.getfield 75, 3) := by decide +kernel
theorem dX1_bringRoad_17 : decode cX1_bringRoad 17 = .ok (.istore_n 2, 1) := by decide +kernel
theorem dX1_bringRoad_18 : decode cX1_bringRoad 18 = .ok (.aload_n 0, 1) := by decide +kernel
theorem dX1_bringRoad_19 : decode cX1_bringRoad 19 = .ok (.aload_n 1, 1) := by decide +kernel
theorem dX1_bringRoad_20 : decode cX1_bringRoad 20 = .ok (.invokestatic 87, 3) := by decide +kernel
theorem dX1_bringRoad_23 : decode cX1_bringRoad 23 = .ok (.ifCond .ne 5, 3) := by decide +kernel
theorem dX1_bringRoad_26 : decode cX1_bringRoad 26 = .ok (.iconst 0, 1) := by decide +kernel
theorem dX1_bringRoad_27 : decode cX1_bringRoad 27 = .ok (.ireturn, 1) := by decide +kernel
theorem dX1_bringRoad_28 : decode cX1_bringRoad 28 = .ok (.aload_n 0, 1) := by decide +kernel
theorem dX1_bringRoad_29 : decode cX1_bringRoad 29 = .ok (.invokevirtual 31, 3) := by decide +kernel
theorem dX1_bringRoad_32 : decode cX1_bringRoad 32 = .ok (.aload_n 0, 1) := by decide +kernel
theorem dX1_bringRoad_33 : decode cX1_bringRoad 33 = .ok (.ldc 90, 2) := by decide +kernel
theorem dX1_bringRoad_35 : decode cX1_bringRoad 35 = .ok (.invokevirtual 36, 3) := by decide +kernel
theorem dX1_bringRoad_38 : decode cX1_bringRoad 38 = .ok (.ifCond .ne 5, 3) := by decide +kernel
theorem dX1_bringRoad_41 : decode cX1_bringRoad 41 = .ok (.iconst 0, 1) := by decide +kernel
theorem dX1_bringRoad_42 : decode cX1_bringRoad 42 = .ok (.ireturn, 1) := by decide +kernel
theorem dX1_bringRoad_43 : decode cX1_bringRoad 43 = .ok (.aload_n 0, 1) := by decide +kernel
theorem dX1_bringRoad_44 : decode cX1_bringRoad 44 = .ok (.invokevirtual 31, 3) := by decide +kernel
theorem dX1_bringRoad_47 : decode cX1_bringRoad 47 = .ok (.aload_n 0, 1) := by decide +kernel
theorem dX1_bringRoad_48 : decode cX1_bringRoad 48 = .ok (.getfield 75, 3) := by decide +kernel
theorem dX1_bringRoad_51 : decode cX1_bringRoad 51 = .ok (.istore_n 3, 1) := by decide +kernel
theorem dX1_bringRoad_52 : decode cX1_bringRoad 52 = .ok (.aload_n 0, 1) := by decide +kernel
theorem dX1_bringRoad_53 : decode cX1_bringRoad 53 = .ok (.aload_n 1, 1) := by decide +kernel
theorem dX1_bringRoad_54 : decode cX1_bringRoad 54 = .ok (.invokestatic 87, 3) := by decide +kernel
theorem dX1_bringRoad_57 : decode cX1_bringRoad 57 = .ok (.ifCond .eq 17, 3) := by decide +kernel
theorem dX1_bringRoad_60 : decode cX1_bringRoad 60 = .ok (.iload_n 2, 1) := by decide +kernel
theorem dX1_bringRoad_61 : decode cX1_bringRoad 61 = .ok (.iload_n 3, 1) := by decide +kernel
theorem dX1_bringRoad_62 : decode cX1_bringRoad 62 = .ok (.if_icmp .eq 12, 3) := by decide +kernel
theorem dX1_bringRoad_65 : decode cX1_bringRoad 65 = .ok (.aload_n 1, 1) := by decide +kernel
theorem dX1_bringRoad_66 : decode cX1_bringRoad 66 = .ok (.iload_n 2, 1) := by decide +kernel
theorem dX1_bringRoad_67 : decode cX1_bringRoad 67 = .ok (.iload_n 3, 1) := by decide +kernel
theorem dX1_bringRoad_68 : decode cX1_bringRoad 68 = .ok (.invokevirtual 92, 3) := by decide +kernel
theorem dX1_bringRoad_71 : decode cX1_bringRoad 71 = .ok (.ifCond .eq 5, 3) := by decide +kernel
theorem dX1_bringRoad_74 : decode cX1_bringRoad 74 = .ok (.iconst 0, 1) := by decide +kernel
theorem dX1_bringRoad_75 : decode cX1_bringRoad 75 = .ok (.ireturn, 1) := by decide +kernel
theorem dX1_bringRoad_76 : decode cX1_bringRoad 76 = .ok (.aload_n 0, 1) := by decide +kernel
theorem dX1_bringRoad_77 : decode cX1_bringRoad 77 = .ok (.invokevirtual 31, 3) := by decide +kernel
theorem dX1_bringRoad_80 : decode cX1_bringRoad 80 = .ok (.iconst 1, 1) := by decide +kernel
theorem dX1_bringRoad_81 : decode cX1_bringRoad 81 = .ok (.istore 4, 2) := by decide +kernel
theorem dX1_bringRoad_83 : decode cX1_bringRoad 83 = .ok (.aload_n 0, 1) := by decide +kernel
theorem dX1_bringRoad_84 : decode cX1_bringRoad 84 = .ok (.ldc 95, 2) := by decide +kernel
theorem dX1_bringRoad_86 : decode cX1_bringRoad 86 = .ok (.invokevirtual 36, 3) := by decide +kernel
theorem dX1_bringRoad_89 : decode cX1_bringRoad 89 = .ok (.ifCond .eq 29, 3) := by decide +kernel
theorem dX1_bringRoad_92 : decode cX1_bringRoad 92 = .ok (.aload_n 0, 1) := by decide +kernel
theorem dX1_bringRoad_93 : decode cX1_bringRoad 93 = .ok (.invokevirtual 31, 3) := by decide +kernel
theorem dX1_bringRoad_96 : decode cX1_bringRoad 96 = .ok (.aload_n 0, 1) := by decide +kernel
theorem dX1_bringRoad_97 : decode cX1_bringRoad 97 = .ok (.iconst 1, 1) := by decide +kernel
theorem dX1_bringRoad_98 : decode cX1_bringRoad 98 = .ok (.bipush 9, 2) := by decide +kernel
theorem dX1_bringRoad_100 : decode cX1_bringRoad 100 = .ok (.invokevirtual 71, 3) := by decide +kernel
theorem dX1_bringRoad_103 : decode cX1_bringRoad 103 = .ok (.ifCond .ne 5, 3) := by decide +kernel
theorem dX1_bringRoad_106 : decode cX1_bringRoad 106 = .ok (.iconst 0, 1) := by decide +kernel
theorem dX1_bringRoad_107 : decode cX1_bringRoad 107 = .ok (.ireturn, 1) := by decide +kernel
theorem dX1_bringRoad_108 : decode cX1_bringRoad 108 = .ok (.aload_n 0, 1) := by decide +kernel
theorem dX1_bringRoad_109 : decode cX1_bringRoad 109 = .ok (.getfield 75, 3) := by decide +kernel
theorem dX1_bringRoad_112 : decode cX1_bringRoad 112 = .ok (.istore 4, 2) := by decide +kernel
theorem dX1_bringRoad_114 : decode cX1_bringRoad 114 = .ok (.aload_n 0, 1) := by decide +kernel
theorem dX1_bringRoad_115 : decode cX1_bringRoad 115 = .ok (.invokevirtual 31, 3) := by decide +kernel
theorem dX1_bringRoad_118 : decode cX1_bringRoad 118 = .ok (.aload_n 1, 1) := by decide +kernel
theorem dX1_bringRoad_119 : decode cX1_bringRoad 119 = .ok (.iload_n 2, 1) := by decide +kernel
theorem dX1_bringRoad_120 : decode cX1_bringRoad 120 = .ok (.iload_n 3, 1) := by decide +kernel
theorem dX1_bringRoad_121 : decode cX1_bringRoad 121 = .ok (.iload 4, 2) := by decide +kernel
theorem dX1_bringRoad_123 : decode cX1_bringRoad 123 = .ok (.invokevirtual 97, 3) := by decide +kernel
theorem dX1_bringRoad_126 : decode cX1_bringRoad 126 = .ok (.pop, 1) := by decide +kernel
theorem dX1_bringRoad_127 : decode cX1_bringRoad 127 = .ok (.iconst 1, 1) := by decide +kernel
theorem dX1_bringRoad_128 : decode cX1_bringRoad 128 = .ok (.ireturn, 1) := by decide +kernel
theorem dX1_bringSlide_0 : decode cX1_bringSlide 0 = .ok (.aload_n 0, 1) := by decide +kernel
theorem dX1_bringSlide_1 : decode cX1_bringSlide 1 = .ok (.invokevirtual 31, 3) := by decide +kernel
theorem dX1_bringSlide_4 : decode cX1_bringSlide 4 = .ok (.aload_n 0, 1) := by decide +kernel
theorem dX1_bringSlide_5 : decode cX1_bringSlide 5 = .ok (.getfield 75, 3) := by decide +kernel
theorem dX1_bringSlide_8 : decode cX1_bringSlide 8 = .ok (.istore_n 2, 1) := by decide +kernel
theorem dX1_bringSlide_9 : decode cX1_bringSlide 9 = .ok (.aload_n 0, 1) := by decide +kernel
theorem dX1_bringSlide_10 : decode cX1_bringSlide 10 = .ok (.aload_n 1, 1) := by decide +kernel
theorem dX1_bringSlide_11 : decode cX1_bringSlide 11 = .ok (.invokestatic 87, 3) := by decide +kernel
theorem dX1_bringSlide_14 : decode cX1_bringSlide 14 = .ok (.ifCond .ne 5, 3) := by decide +kernel
theorem dX1_bringSlide_17 : decode cX1_bringSlide 17 = .ok (.iconst 0, 1) := by decide +kernel
theorem dX1_bringSlide_18 : decode cX1_bringSlide 18 = .ok (.ireturn, 1) := by decide +kernel
theorem dX1_bringSlide_19 : decode cX1_bringSlide 19 = .ok (.aload_n 0, 1) := by decide +kernel
theorem dX1_bringSlide_20 : decode cX1_bringSlide 20 = .ok (.invokevirtual 31, 3) := by decide +kernel
theorem dX1_bringSlide_23 : decode cX1_bringSlide 23 = .ok (.aload_n 0, 1) := by decide +kernel
theorem dX1_bringSlide_24 : decode cX1_bringSlide 24 = .ok (.iconst 0, 1) := by decide +kernel
theorem dX1_bringSlide_25 : decode cX1_bringSlide 25 = .ok (.sipush 9999, 3) := by decide +kernel
theorem dX1_bringSlide_28 : decode cX1_bringSlide 28 = .ok (.invokevirtual 71, 3) := by decide +kernel
theorem dX1_bringSlide_31 : decode cX1_bringSlide 31 = .ok (.ifCond .ne 5, 3) := by decide +kernel
theorem dX1_bringSlide_34 : decode cX1_bringSlide 34 = .ok (.iconst 0, 1) := by decide +kernel
theorem dX1_bringSlide_35 : decode cX1_bringSlide 35 = .ok (.ireturn, 1) := by decide +kernel
theorem dX1_bringSlide_36 : decode cX1_bringSlide 36 = .ok (.aload_n 1, 1) := by decide +kernel
theorem dX1_bringSlide_37 : decode cX1_bringSlide 37 = .ok (.iload_n 2, 1) := by decide +kernel
theorem dX1_bringSlide_38 : decode cX1_bringSlide 38 = .ok (.aload_n 0, 1) := by decide +kernel
theorem dX1_bringSlide_39 : decode cX1_bringSlide 39 = .ok (.getfield 75, 3) := by decide +kernel
theorem dX1_bringSlide_42 : decode cX1_bringSlide 42 = .ok (.invokevirtual 101, 3) := by decide +kernel
theorem dX1_bringSlide_45 : decode cX1_bringSlide 45 = .ok (.aload_n 0, 1) := by decide +kernel
theorem dX1_bringSlide_46 : decode cX1_bringSlide 46 = .ok (.invokevirtual 31, 3) := by decide +kernel
theorem dX1_bringSlide_49 : decode cX1_bringSlide 49 = .ok (.iconst 1, 1) := by decide +kernel
theorem dX1_bringSlide_50 : decode cX1_bringSlide 50 = .ok (.ireturn, 1) := by decide +kernel
theorem dX1_bringEvery_0 : decode cX1_bringEvery 0 = .ok (.aload_n 0, 1) := by decide +kernel
theorem dX1_bringEvery_1 : decode cX1_bringEvery 1 = .ok (.invokevirtual 31, 3) := by decide +kernel
theorem dX1_bringEvery_4 : decode cX1_bringEvery 4 = .ok (.aload_n 0, 1) := by decide +kernel
theorem dX1_bringEvery_5 : decode cX1_bringEvery 5 = .ok (.iconst 1, 1) := by decide +kernel
theorem dX1_bringEvery_6 : decode cX1_bringEvery 6 = .ok (.bipush 99, 2) := by decide +kernel
theorem dX1_bringEvery_8 : decode cX1_bringEvery 8 = .ok (.invokevirtual 71, 3) := by decide +kernel
theorem dX1_bringEvery_11 : decode cX1_bringEvery 11 = .ok (.ifCond .ne 5, 3) := by decide +kernel
theorem dX1_bringEvery_14 : decode cX1_bringEvery 14 = .ok (.iconst 0, 1) := by decide +kernel
theorem dX1_bringEvery_15 : decode cX1_bringEvery 15 = .ok (.ireturn, 1) := by decide +kernel
theorem dX1_bringEvery_16 : decode cX1_bringEvery 16 = .ok (.aload_n 1, 1) := by decide +kernel
theorem dX1_bringEvery_17 : decode cX1_bringEvery 17 = .ok (.aload_n 0, 1) := by decide +kernel
theorem dX1_bringEvery_18 : decode cX1_bringEvery 18 = .ok (.getfield 75, 3) := by decide +kernel
theorem dX1_bringEvery_21 : decode cX1_bringEvery 21 = .ok (.putfield 105, 3) := by decide +kernel
theorem dX1_bringEvery_24 : decode cX1_bringEvery 24 = .ok (.aload_n 0, 1) := by decide +kernel
theorem dX1_bringEvery_25 : decode cX1_bringEvery 25 = .ok (.invokevirtual 31, 3) := by decide +kernel
theorem dX1_bringEvery_28 : decode cX1_bringEvery 28 = .ok (.iconst 1, 1) := by decide +kernel
theorem dX1_bringEvery_29 : decode cX1_bringEvery 29 = .ok (.ireturn, 1) := by decide +kernel
theorem dX1_bringLetter_0 : decode cX1_bringLetter 0 = .ok (.aload_n 1, 1) := by decide +kernel
theorem dX1_bringLetter_1 : decode cX1_bringLetter 1 = .ok (.invokevirtual 107, 3) := by decide +kernel
theorem dX1_bringLetter_4 : decode cX1_bringLetter 4 = .ok (.ifCond .eq 5, 3) := by decide +kernel
theorem dX1_bringLetter_7 : decode cX1_bringLetter 7 = .ok (.iconst 0, 1) := by decide +kernel
theorem dX1_bringLetter_8 : decode cX1_bringLetter 8 = .ok (.ireturn, 1) := by decide +kernel
theorem dX1_bringLetter_9 : decode cX1_bringLetter 9 = .ok (.aload_n 0, 1) := by decide +kernel
theorem dX1_bringLetter_10 : decode cX1_bringLetter 10 = .ok (.invokevirtual 31, 3) := by decide +kernel
theorem dX1_bringLetter_13 : decode cX1_bringLetter 13 = .ok (.aload_n 0, 1) := by decide +kernel
theorem dX1_bringLetter_14 : decode cX1_bringLetter 14 = .ok (.getfield 75, 3) := by decide +kernel
theorem dX1_bringLetter_17 : decode cX1_bringLetter 17 = .ok (.istore_n 3, 1) := by decide +kernel
theorem dX1_bringLetter_18 : decode cX1_bringLetter 18 = .ok (.aload_n 0, 1) := by decide +kernel
theorem dX1_bringLetter_19 : decode cX1_bringLetter 19 = .ok (.aload_n 1, 1) := by decide +kernel
theorem dX1_bringLetter_20 : decode cX1_bringLetter 20 = .ok (.invokestatic 87, 3) := by decide +kernel
theorem dX1_bringLetter_23 : decode cX1_bringLetter 23 = .ok (.ifCond .ne 5, 3) := by decide +kernel
theorem dX1_bringLetter_26 : decode cX1_bringLetter 26 = .ok (.iconst 0, 1) := by decide +kernel
theorem dX1_bringLetter_27 : decode cX1_bringLetter 27 = .ok (.ireturn, 1) := by decide +kernel
theorem dX1_bringLetter_28 : decode cX1_bringLetter 28 = .ok (.aload_n 0, 1) := by decide +kernel
theorem dX1_bringLetter_29 : decode cX1_bringLetter 29 = .ok (.invokevirtual 31, 3) := by decide +kernel
theorem dX1_bringLetter_32 : decode cX1_bringLetter 32 = .ok (.aload_n 0, 1) := by decide +kernel
theorem dX1_bringLetter_33 : decode cX1_bringLetter 33 = .ok (.ldc 90, 2) := by decide +kernel
theorem dX1_bringLetter_35 : decode cX1_bringLetter 35 = .ok (.invokevirtual 36, 3) := by decide +kernel
theorem dX1_bringLetter_38 : decode cX1_bringLetter 38 = .ok (.ifCond .ne 5, 3) := by decide +kernel
theorem dX1_bringLetter_41 : decode cX1_bringLetter 41 = .ok (.iconst 0, 1) := by decide +kernel
theorem dX1_bringLetter_42 : decode cX1_bringLetter 42 = .ok (.ireturn, 1) := by decide +kernel
theorem dX1_bringLetter_43 : decode cX1_bringLetter 43 = .ok (.aload_n 0, 1) := by decide +kernel
theorem dX1_bringLetter_44 : decode cX1_bringLetter 44 = .ok (.invokevirtual 31, 3) := by decide +kernel
theorem dX1_bringLetter_47 : decode cX1_bringLetter 47 = .ok (.aload_n 0, 1) := by decide +kernel
theorem dX1_bringLetter_48 : decode cX1_bringLetter 48 = .ok (.aload_n 1, 1) := by decide +kernel
theorem dX1_bringLetter_49 : decode cX1_bringLetter 49 = .ok (.invokestatic 87, 3) := by decide +kernel
theorem dX1_bringLetter_52 : decode cX1_bringLetter 52 = .ok (.ifCond .ne 5, 3) := by decide +kernel
theorem dX1_bringLetter_55 : decode cX1_bringLetter 55 = .ok (.iconst 0, 1) := by decide +kernel
theorem dX1_bringLetter_56 : decode cX1_bringLetter 56 = .ok (.ireturn, 1) := by decide +kernel
theorem dX1_bringLetter_57 : decode cX1_bringLetter 57 = .ok (.aload_n 1, 1) := by decide +kernel
theorem dX1_bringLetter_58 : decode cX1_bringLetter 58 = .ok (.iload_n 2, 1) := by decide +kernel
theorem dX1_bringLetter_59 : decode cX1_bringLetter 59 = .ok (.iload_n 3, 1) := by decide +kernel
theorem dX1_bringLetter_60 : decode cX1_bringLetter 60 = .ok (.aload_n 0, 1) := by decide +kernel
theorem dX1_bringLetter_61 : decode cX1_bringLetter 61 = .ok (.getfield 75, 3) := by decide +kernel
theorem dX1_bringLetter_64 : decode cX1_bringLetter 64 = .ok (.invokevirtual 110, 3) := by decide +kernel
theorem dX1_bringLetter_67 : decode cX1_bringLetter 67 = .ok (.pop, 1) := by decide +kernel
theorem dX1_bringLetter_68 : decode cX1_bringLetter 68 = .ok (.aload_n 0, 1) := by decide +kernel
theorem dX1_bringLetter_69 : decode cX1_bringLetter 69 = .ok (.invokevirtual 31, 3) := by decide +kernel
theorem dX1_bringLetter_72 : decode cX1_bringLetter 72 = .ok (.iconst 1, 1) := by decide +kernel
theorem dX1_bringLetter_73 : decode cX1_bringLetter 73 = .ok (.ireturn, 1) := by decide +kernel
theorem dX1_standsVillage_0 : decode cX1_standsVillage 0 = .ok (.aload_n 0, 1) := by decide +kernel
theorem dX1_standsVillage_1 : decode cX1_standsVillage 1 = .ok (.iconst 0, 1) := by decide +kernel
theorem dX1_standsVillage_2 : decode cX1_standsVillage 2 = .ok (.aload_n 1, 1) := by decide +kernel
theorem dX1_standsVillage_3 : decode cX1_standsVillage 3 = .ok (.getfield 113, 3) := by decide +kernel
theorem dX1_standsVillage_6 : decode cX1_standsVillage 6 = .ok (.iconst 1, 1) := by decide +kernel
theorem dX1_standsVillage_7 : decode cX1_standsVillage 7 = .ok (.isub, 1) := by decide +kernel
theorem dX1_standsVillage_8 : decode cX1_standsVillage 8 = .ok (.invokevirtual 71, 3) := by decide +kernel
theorem dX1_standsVillage_11 : decode cX1_standsVillage 11 = .ok (.ireturn, 1) := by decide +kernel
theorem dX1_kindNamed_0 : decode cX1_kindNamed 0 = .ok (.iconst 0, 1) := by decide +kernel
theorem dX1_kindNamed_1 : decode cX1_kindNamed 1 = .ok (.istore_n 1, 1) := by decide +kernel
theorem dX1_kindNamed_2 : decode cX1_kindNamed 2 = .ok (.iload_n 1, 1) := by decide +kernel
theorem dX1_kindNamed_3 : decode cX1_kindNamed 3 = .ok (.bipush 6, 2) := by decide +kernel
theorem dX1_kindNamed_5 : decode cX1_kindNamed 5 = .ok (.if_icmp .ge 22, 3) := by decide +kernel
theorem dX1_kindNamed_8 : decode cX1_kindNamed 8 = .ok (.aload_n 0, 1) := by decide +kernel
theorem dX1_kindNamed_9 : decode cX1_kindNamed 9 = .ok (.iload_n 1, 1) := by decide +kernel
theorem dX1_kindNamed_10 : decode cX1_kindNamed 10 = .ok (.invokestatic 116, 3) := by decide +kernel
theorem dX1_kindNamed_13 : decode cX1_kindNamed 13 = .ok (.invokevirtual 36, 3) := by decide +kernel
theorem dX1_kindNamed_16 : decode cX1_kindNamed 16 = .ok (.ifCond .eq 5, 3) := by decide +kernel
theorem dX1_kindNamed_19 : decode cX1_kindNamed 19 = .ok (.iload_n 1, 1) := by decide +kernel
theorem dX1_kindNamed_20 : decode cX1_kindNamed 20 = .ok (.ireturn, 1) := by decide +kernel
theorem dX1_kindNamed_21 : decode cX1_kindNamed 21 = .ok (.iinc 1 1, 3) := by decide +kernel
theorem dX1_kindNamed_24 : decode cX1_kindNamed 24 = .ok (.goto (-22), 3) := by decide +kernel
theorem dX1_kindNamed_27 : decode cX1_kindNamed 27 = .ok (.iconst (-1), 1) := by decide +kernel
theorem dX1_kindNamed_28 : decode cX1_kindNamed 28 = .ok (.ireturn, 1) := by decide +kernel
theorem dX1_nameOf_0 : decode cX1_nameOf 0 = .ok (.iload_n 0, 1) := by decide +kernel
theorem dX1_nameOf_1 : decode cX1_nameOf 1 = .ok (.tableswitch 50 1 5 #[35, 38, 41, 44, 47], 35) := by decide +kernel
theorem dX1_nameOf_36 : decode cX1_nameOf 36 = .ok (.ldc 120, 2) := by decide +kernel
theorem dX1_nameOf_38 : decode cX1_nameOf 38 = .ok (.areturn, 1) := by decide +kernel
theorem dX1_nameOf_39 : decode cX1_nameOf 39 = .ok (.ldc 122, 2) := by decide +kernel
theorem dX1_nameOf_41 : decode cX1_nameOf 41 = .ok (.areturn, 1) := by decide +kernel
theorem dX1_nameOf_42 : decode cX1_nameOf 42 = .ok (.ldc 124, 2) := by decide +kernel
theorem dX1_nameOf_44 : decode cX1_nameOf 44 = .ok (.areturn, 1) := by decide +kernel
theorem dX1_nameOf_45 : decode cX1_nameOf 45 = .ok (.ldc 126, 2) := by decide +kernel
theorem dX1_nameOf_47 : decode cX1_nameOf 47 = .ok (.areturn, 1) := by decide +kernel
theorem dX1_nameOf_48 : decode cX1_nameOf 48 = .ok (.ldc 128, 2) := by decide +kernel
theorem dX1_nameOf_50 : decode cX1_nameOf 50 = .ok (.areturn, 1) := by decide +kernel
theorem dX1_nameOf_51 : decode cX1_nameOf 51 = .ok (.ldc 130, 2) := by decide +kernel
theorem dX1_nameOf_53 : decode cX1_nameOf 53 = .ok (.areturn, 1) := by decide +kernel
theorem dX2_isUnder_0 : decode cX2_isUnder 0 = .ok (.iload_n 0, 1) := by decide +kernel
theorem dX2_isUnder_1 : decode cX2_isUnder 1 = .ok (.istore_n 2, 1) := by decide +kernel
theorem dX2_isUnder_2 : decode cX2_isUnder 2 = .ok (.iconst 0, 1) := by decide +kernel
theorem dX2_isUnder_3 : decode cX2_isUnder 3 = .ok (.istore_n 3, 1) := by decide +kernel
theorem dX2_isUnder_4 : decode cX2_isUnder 4 = .ok (.iload_n 3, 1) := by decide +kernel
theorem dX2_isUnder_5 : decode cX2_isUnder 5 = .ok (.bipush 6, 2) := by decide +kernel
theorem dX2_isUnder_7 : decode cX2_isUnder 7 = .ok (.if_icmp .ge 34, 3) := by decide +kernel
theorem dX2_isUnder_10 : decode cX2_isUnder 10 = .ok (.iload_n 2, 1) := by decide +kernel
theorem dX2_isUnder_11 : decode cX2_isUnder 11 = .ok (.ifCond .lt 30, 3) := by decide +kernel
theorem dX2_isUnder_14 : decode cX2_isUnder 14 = .ok (.iload_n 2, 1) := by decide +kernel
theorem dX2_isUnder_15 : decode cX2_isUnder 15 = .ok (.getstatic 9, 3) := by decide +kernel
theorem dX2_isUnder_18 : decode cX2_isUnder 18 = .ok (.arraylength, 1) := by decide +kernel
theorem dX2_isUnder_19 : decode cX2_isUnder 19 = .ok (.if_icmp .ge 22, 3) := by decide +kernel
theorem dX2_isUnder_22 : decode cX2_isUnder 22 = .ok (.iload_n 2, 1) := by decide +kernel
theorem dX2_isUnder_23 : decode cX2_isUnder 23 = .ok (.iload_n 1, 1) := by decide +kernel
theorem dX2_isUnder_24 : decode cX2_isUnder 24 = .ok (.if_icmp .ne 5, 3) := by decide +kernel
theorem dX2_isUnder_27 : decode cX2_isUnder 27 = .ok (.iconst 1, 1) := by decide +kernel
theorem dX2_isUnder_28 : decode cX2_isUnder 28 = .ok (.ireturn, 1) := by decide +kernel
theorem dX2_isUnder_29 : decode cX2_isUnder 29 = .ok (.getstatic 9, 3) := by decide +kernel
theorem dX2_isUnder_32 : decode cX2_isUnder 32 = .ok (.iload_n 2, 1) := by decide +kernel
theorem dX2_isUnder_33 : decode cX2_isUnder 33 = .ok (.iaload, 1) := by decide +kernel
theorem dX2_isUnder_34 : decode cX2_isUnder 34 = .ok (.istore_n 2, 1) := by decide +kernel
theorem dX2_isUnder_35 : decode cX2_isUnder 35 = .ok (.iinc 3 1, 3) := by decide +kernel
theorem dX2_isUnder_38 : decode cX2_isUnder 38 = .ok (.goto (-34), 3) := by decide +kernel
theorem dX2_isUnder_41 : decode cX2_isUnder 41 = .ok (.iconst 0, 1) := by decide +kernel
theorem dX2_isUnder_42 : decode cX2_isUnder 42 = .ok (.ireturn, 1) := by decide +kernel
theorem dX2_daysFor_0 : decode cX2_daysFor 0 = .ok (.iload_n 0, 1) := by decide +kernel
theorem dX2_daysFor_1 : decode cX2_daysFor 1 = .ok (.tableswitch 49 1 5 #[35, 41, 45, 41, 45], 35) := by decide +kernel
theorem dX2_daysFor_36 : decode cX2_daysFor 36 = .ok (.iload_n 1, 1) := by decide +kernel
theorem dX2_daysFor_37 : decode cX2_daysFor 37 = .ok (.iconst 1, 1) := by decide +kernel
theorem dX2_daysFor_38 : decode cX2_daysFor 38 = .ok (.iadd, 1) := by decide +kernel
theorem dX2_daysFor_39 : decode cX2_daysFor 39 = .ok (.iconst 2, 1) := by decide +kernel
theorem dX2_daysFor_40 : decode cX2_daysFor 40 = .ok (.idiv, 1) := by decide +kernel
theorem dX2_daysFor_41 : decode cX2_daysFor 41 = .ok (.ireturn, 1) := by decide +kernel
theorem dX2_daysFor_42 : decode cX2_daysFor 42 = .ok (.iconst 2, 1) := by decide +kernel
theorem dX2_daysFor_43 : decode cX2_daysFor 43 = .ok (.iload_n 1, 1) := by decide +kernel
theorem dX2_daysFor_44 : decode cX2_daysFor 44 = .ok (.imul, 1) := by decide +kernel
theorem dX2_daysFor_45 : decode cX2_daysFor 45 = .ok (.ireturn, 1) := by decide +kernel
theorem dX2_daysFor_46 : decode cX2_daysFor 46 = .ok (.iload_n 1, 1) := by decide +kernel
theorem dX2_daysFor_47 : decode cX2_daysFor 47 = .ok (.iconst 1, 1) := by decide +kernel
theorem dX2_daysFor_48 : decode cX2_daysFor 48 = .ok (.iadd, 1) := by decide +kernel
theorem dX2_daysFor_49 : decode cX2_daysFor 49 = .ok (.ireturn, 1) := by decide +kernel
theorem dX2_daysFor_50 : decode cX2_daysFor 50 = .ok (.iload_n 1, 1) := by decide +kernel
theorem dX2_daysFor_51 : decode cX2_daysFor 51 = .ok (.ireturn, 1) := by decide +kernel
theorem dX2_leastDrop_0 : decode cX2_leastDrop 0 = .ok (.iload_n 0, 1) := by decide +kernel
theorem dX2_leastDrop_1 : decode cX2_leastDrop 1 = .ok (.iconst 3, 1) := by decide +kernel
theorem dX2_leastDrop_2 : decode cX2_leastDrop 2 = .ok (.invokestatic 15, 3) := by decide +kernel
theorem dX2_leastDrop_5 : decode cX2_leastDrop 5 = .ok (.ifCond .eq 7, 3) := by decide +kernel
theorem dX2_leastDrop_8 : decode cX2_leastDrop 8 = .ok (.iconst 0, 1) := by decide +kernel
theorem dX2_leastDrop_9 : decode cX2_leastDrop 9 = .ok (.goto 4, 3) := by decide +kernel
theorem dX2_leastDrop_12 : decode cX2_leastDrop 12 = .ok (.iconst 1, 1) := by decide +kernel
theorem dX2_leastDrop_13 : decode cX2_leastDrop 13 = .ok (.ireturn, 1) := by decide +kernel
theorem dX3_init_0 : decode cX3_init 0 = .ok (.aload_n 0, 1) := by decide +kernel
theorem dX3_init_1 : decode cX3_init 1 = .ok (.invokespecial 3, 3) := by decide +kernel
theorem dX3_init_4 : decode cX3_init 4 = .ok (.aload_n 0, 1) := by decide +kernel
theorem dX3_init_5 : decode cX3_init 5 = .ok (.bipush 40, 2) := by decide +kernel
theorem dX3_init_7 : decode cX3_init 7 = .ok (.newarray .long, 2) := by decide +kernel
theorem dX3_init_9 : decode cX3_init 9 = .ok (.putfield 9, 3) := by decide +kernel
theorem dX3_init_12 : decode cX3_init 12 = .ok (.return_, 1) := by decide +kernel
theorem dX3_isWidth_0 : decode cX3_isWidth 0 = .ok (.iload_n 0, 1) := by decide +kernel
theorem dX3_isWidth_1 : decode cX3_isWidth 1 = .ok (.ifCond .eq 21, 3) := by decide +kernel
theorem dX3_isWidth_4 : decode cX3_isWidth 4 = .ok (.iload_n 0, 1) := by decide +kernel
theorem dX3_isWidth_5 : decode cX3_isWidth 5 = .ok (.bipush 8, 2) := by decide +kernel
theorem dX3_isWidth_7 : decode cX3_isWidth 7 = .ok (.if_icmp .eq 15, 3) := by decide +kernel
theorem dX3_isWidth_10 : decode cX3_isWidth 10 = .ok (.iload_n 0, 1) := by decide +kernel
theorem dX3_isWidth_11 : decode cX3_isWidth 11 = .ok (.bipush 16, 2) := by decide +kernel
theorem dX3_isWidth_13 : decode cX3_isWidth 13 = .ok (.if_icmp .eq 9, 3) := by decide +kernel
theorem dX3_isWidth_16 : decode cX3_isWidth 16 = .ok (.iload_n 0, 1) := by decide +kernel
theorem dX3_isWidth_17 : decode cX3_isWidth 17 = .ok (.bipush 64, 2) := by decide +kernel
theorem dX3_isWidth_19 : decode cX3_isWidth 19 = .ok (.if_icmp .ne 7, 3) := by decide +kernel
theorem dX3_isWidth_22 : decode cX3_isWidth 22 = .ok (.iconst 1, 1) := by decide +kernel
theorem dX3_isWidth_23 : decode cX3_isWidth 23 = .ok (.goto 4, 3) := by decide +kernel
theorem dX3_isWidth_26 : decode cX3_isWidth 26 = .ok (.iconst 0, 1) := by decide +kernel
theorem dX3_isWidth_27 : decode cX3_isWidth 27 = .ok (.ireturn, 1) := by decide +kernel
theorem dX3_isMissing_0 : decode cX3_isMissing 0 = .ok (.aload_n 0, 1) := by decide +kernel
theorem dX3_isMissing_1 : decode cX3_isMissing 1 = .ok (.getfield 15, 3) := by decide +kernel
theorem dX3_isMissing_4 : decode cX3_isMissing 4 = .ok (.ifCond .ne 7, 3) := by decide +kernel
theorem dX3_isMissing_7 : decode cX3_isMissing 7 = .ok (.iconst 1, 1) := by decide +kernel
theorem dX3_isMissing_8 : decode cX3_isMissing 8 = .ok (.goto 4, 3) := by decide +kernel
theorem dX3_isMissing_11 : decode cX3_isMissing 11 = .ok (.iconst 0, 1) := by decide +kernel
theorem dX3_isMissing_12 : decode cX3_isMissing 12 = .ok (.ireturn, 1) := by decide +kernel
theorem dX3_renew_0 : decode cX3_renew 0 = .ok (.aload_n 0, 1) := by decide +kernel
theorem dX3_renew_1 : decode cX3_renew 1 = .ok (.iload_n 1, 1) := by decide +kernel
theorem dX3_renew_2 : decode cX3_renew 2 = .ok (.putfield 15, 3) := by decide +kernel
theorem dX3_renew_5 : decode cX3_renew 5 = .ok (.aload_n 0, 1) := by decide +kernel
theorem dX3_renew_6 : decode cX3_renew 6 = .ok (.iload_n 1, 1) := by decide +kernel
theorem dX3_renew_7 : decode cX3_renew 7 = .ok (.ifCond .ne 7, 3) := by decide +kernel
theorem dX3_renew_10 : decode cX3_renew 10 = .ok (.iconst 0, 1) := by decide +kernel
theorem dX3_renew_11 : decode cX3_renew 11 = .ok (.goto 13, 3) := by decide +kernel
theorem dX3_renew_14 : decode cX3_renew 14 = .ok (.iconst 0, 1) := by decide +kernel
theorem dX3_renew_15 : decode cX3_renew 15 = .ok (.iload_n 2, 1) := by decide +kernel
theorem dX3_renew_16 : decode cX3_renew 16 = .ok (.bipush 40, 2) := by decide +kernel
theorem dX3_renew_18 : decode cX3_renew 18 = .ok (.invokestatic 19, 3) := by decide +kernel
theorem dX3_renew_21 : decode cX3_renew 21 = .ok (.invokestatic 25, 3) := by decide +kernel
theorem dX3_renew_24 : decode cX3_renew 24 = .ok (.putfield 28, 3) := by decide +kernel
theorem dX3_renew_27 : decode cX3_renew 27 = .ok (.iconst 0, 1) := by decide +kernel
theorem dX3_renew_28 : decode cX3_renew 28 = .ok (.istore_n 3, 1) := by decide +kernel
theorem dX3_renew_29 : decode cX3_renew 29 = .ok (.iload_n 3, 1) := by decide +kernel
theorem dX3_renew_30 : decode cX3_renew 30 = .ok (.bipush 40, 2) := by decide +kernel
theorem dX3_renew_32 : decode cX3_renew 32 = .ok (.if_icmp .ge 16, 3) := by decide +kernel
theorem dX3_renew_35 : decode cX3_renew 35 = .ok (.aload_n 0, 1) := by decide +kernel
theorem dX3_renew_36 : decode cX3_renew 36 = .ok (.getfield 9, 3) := by decide +kernel
theorem dX3_renew_39 : decode cX3_renew 39 = .ok (.iload_n 3, 1) := by decide +kernel
theorem dX3_renew_40 : decode cX3_renew 40 = .ok (.lconst 0, 1) := by decide +kernel
theorem dX3_renew_41 : decode cX3_renew 41 = .ok (.lastore, 1) := by decide +kernel
theorem dX3_renew_42 : decode cX3_renew 42 = .ok (.iinc 3 1, 3) := by decide +kernel
theorem dX3_renew_45 : decode cX3_renew 45 = .ok (.goto (-16), 3) := by decide +kernel
theorem dX3_renew_48 : decode cX3_renew 48 = .ok (.return_, 1) := by decide +kernel
theorem dX3_has_0 : decode cX3_has 0 = .ok (.iload_n 1, 1) := by decide +kernel
theorem dX3_has_1 : decode cX3_has 1 = .ok (.ifCond .lt 15, 3) := by decide +kernel
theorem dX3_has_4 : decode cX3_has 4 = .ok (.iload_n 1, 1) := by decide +kernel
theorem dX3_has_5 : decode cX3_has 5 = .ok (.aload_n 0, 1) := by decide +kernel
theorem dX3_has_6 : decode cX3_has 6 = .ok (.getfield 28, 3) := by decide +kernel
theorem dX3_has_9 : decode cX3_has 9 = .ok (.if_icmp .ge 7, 3) := by decide +kernel
theorem dX3_has_12 : decode cX3_has 12 = .ok (.iconst 1, 1) := by decide +kernel
theorem dX3_has_13 : decode cX3_has 13 = .ok (.goto 4, 3) := by decide +kernel
theorem dX3_has_16 : decode cX3_has 16 = .ok (.iconst 0, 1) := by decide +kernel
theorem dX3_has_17 : decode cX3_has 17 = .ok (.ireturn, 1) := by decide +kernel
theorem dX3_hasRun_0 : decode cX3_hasRun 0 = .ok (.iload_n 1, 1) := by decide +kernel
theorem dX3_hasRun_1 : decode cX3_hasRun 1 = .ok (.ifCond .lt 29, 3) := by decide +kernel
theorem dX3_hasRun_4 : decode cX3_hasRun 4 = .ok (.iload_n 2, 1) := by decide +kernel
theorem dX3_hasRun_5 : decode cX3_hasRun 5 = .ok (.ifCond .lt 25, 3) := by decide +kernel
theorem dX3_hasRun_8 : decode cX3_hasRun 8 = .ok (.iload_n 2, 1) := by decide +kernel
theorem dX3_hasRun_9 : decode cX3_hasRun 9 = .ok (.aload_n 0, 1) := by decide +kernel
theorem dX3_hasRun_10 : decode cX3_hasRun 10 = .ok (.getfield 28, 3) := by decide +kernel
theorem dX3_hasRun_13 : decode cX3_hasRun 13 = .ok (.if_icmp .gt 17, 3) := by decide +kernel
theorem dX3_hasRun_16 : decode cX3_hasRun 16 = .ok (.iload_n 1, 1) := by decide +kernel
theorem dX3_hasRun_17 : decode cX3_hasRun 17 = .ok (.aload_n 0, 1) := by decide +kernel
theorem dX3_hasRun_18 : decode cX3_hasRun 18 = .ok (.getfield 28, 3) := by decide +kernel
theorem dX3_hasRun_21 : decode cX3_hasRun 21 = .ok (.iload_n 2, 1) := by decide +kernel
theorem dX3_hasRun_22 : decode cX3_hasRun 22 = .ok (.isub, 1) := by decide +kernel
theorem dX3_hasRun_23 : decode cX3_hasRun 23 = .ok (.if_icmp .gt 7, 3) := by decide +kernel
theorem dX3_hasRun_26 : decode cX3_hasRun 26 = .ok (.iconst 1, 1) := by decide +kernel
theorem dX3_hasRun_27 : decode cX3_hasRun 27 = .ok (.goto 4, 3) := by decide +kernel
theorem dX3_hasRun_30 : decode cX3_hasRun 30 = .ok (.iconst 0, 1) := by decide +kernel
theorem dX3_hasRun_31 : decode cX3_hasRun 31 = .ok (.ireturn, 1) := by decide +kernel
theorem dX3_number_0 : decode cX3_number 0 = .ok (.aload_n 0, 1) := by decide +kernel
theorem dX3_number_1 : decode cX3_number 1 = .ok (.iload_n 1, 1) := by decide +kernel
theorem dX3_number_2 : decode cX3_number 2 = .ok (.invokevirtual 31, 3) := by decide +kernel
theorem dX3_number_5 : decode cX3_number 5 = .ok (.ifCond .eq 12, 3) := by decide +kernel
theorem dX3_number_8 : decode cX3_number 8 = .ok (.aload_n 0, 1) := by decide +kernel
theorem dX3_number_9 : decode cX3_number 9 = .ok (.getfield 9, 3) := by decide +kernel
theorem dX3_number_12 : decode cX3_number 12 = .ok (.iload_n 1, 1) := by decide +kernel
theorem dX3_number_13 : decode cX3_number 13 = .ok (.laload, 1) := by decide +kernel
theorem dX3_number_14 : decode cX3_number 14 = .ok (.goto 4, 3) := by decide +kernel
theorem dX3_number_17 : decode cX3_number 17 = .ok (.lconst 0, 1) := by decide +kernel
theorem dX3_number_18 : decode cX3_number 18 = .ok (.lreturn, 1) := by decide +kernel
theorem dX3_put_0 : decode cX3_put 0 = .ok (.aload_n 0, 1) := by decide +kernel
theorem dX3_put_1 : decode cX3_put 1 = .ok (.iload_n 1, 1) := by decide +kernel
theorem dX3_put_2 : decode cX3_put 2 = .ok (.invokevirtual 31, 3) := by decide +kernel
theorem dX3_put_5 : decode cX3_put 5 = .ok (.ifCond .eq 14, 3) := by decide +kernel
theorem dX3_put_8 : decode cX3_put 8 = .ok (.aload_n 0, 1) := by decide +kernel
theorem dX3_put_9 : decode cX3_put 9 = .ok (.getfield 9, 3) := by decide +kernel
theorem dX3_put_12 : decode cX3_put 12 = .ok (.iload_n 1, 1) := by decide +kernel
theorem dX3_put_13 : decode cX3_put 13 = .ok (.aload_n 0, 1) := by decide +kernel
theorem dX3_put_14 : decode cX3_put 14 = .ok (.lload_n 2, 1) := by decide +kernel
theorem dX3_put_15 : decode cX3_put 15 = .ok (.invokevirtual 35, 3) := by decide +kernel
theorem dX3_put_18 : decode cX3_put 18 = .ok (.lastore, 1) := by decide +kernel
theorem dX3_put_19 : decode cX3_put 19 = .ok (.return_, 1) := by decide +kernel
theorem dX3_narrowed_0 : decode cX3_narrowed 0 = .ok (.aload_n 0, 1) := by decide +kernel
theorem dX3_narrowed_1 : decode cX3_narrowed 1 = .ok (.getfield 15, 3) := by decide +kernel
theorem dX3_narrowed_4 : decode cX3_narrowed 4 = .ok (.lookupswitch 38 #[(8, 28), (16, 33)], 28) := by decide +kernel
theorem dX3_narrowed_32 : decode cX3_narrowed 32 = .ok (.lload_n 1, 1) := by decide +kernel
theorem dX3_narrowed_33 : decode cX3_narrowed 33 = .ok (.l2i, 1) := by decide +kernel
theorem dX3_narrowed_34 : decode cX3_narrowed 34 = .ok (.i2b, 1) := by decide +kernel
theorem dX3_narrowed_35 : decode cX3_narrowed 35 = .ok (.i2l, 1) := by decide +kernel
theorem dX3_narrowed_36 : decode cX3_narrowed 36 = .ok (.lreturn, 1) := by decide +kernel
theorem dX3_narrowed_37 : decode cX3_narrowed 37 = .ok (.lload_n 1, 1) := by decide +kernel
theorem dX3_narrowed_38 : decode cX3_narrowed 38 = .ok (.l2i, 1) := by decide +kernel
theorem dX3_narrowed_39 : decode cX3_narrowed 39 = .ok (.i2s, 1) := by decide +kernel
theorem dX3_narrowed_40 : decode cX3_narrowed 40 = .ok (.i2l, 1) := by decide +kernel
theorem dX3_narrowed_41 : decode cX3_narrowed 41 = .ok (.lreturn, 1) := by decide +kernel
theorem dX3_narrowed_42 : decode cX3_narrowed 42 = .ok (.lload_n 1, 1) := by decide +kernel
theorem dX3_narrowed_43 : decode cX3_narrowed 43 = .ok (.lreturn, 1) := by decide +kernel
theorem dX4_init_0 : decode cX4_init 0 = .ok (.aload_n 0, 1) := by decide +kernel
theorem dX4_init_1 : decode cX4_init 1 = .ok (.invokespecial 3, 3) := by decide +kernel
theorem dX4_init_4 : decode cX4_init 4 = .ok (.aload_n 0, 1) := by decide +kernel
theorem dX4_init_5 : decode cX4_init 5 = .ok (.bipush 120, 2) := by decide +kernel
theorem dX4_init_7 : decode cX4_init 7 = .ok (.newarray .int, 2) := by decide +kernel
theorem dX4_init_9 : decode cX4_init 9 = .ok (.putfield 9, 3) := by decide +kernel
theorem dX4_init_12 : decode cX4_init 12 = .ok (.return_, 1) := by decide +kernel
theorem dX4_append_0 : decode cX4_append 0 = .ok (.aload_n 0, 1) := by decide +kernel
theorem dX4_append_1 : decode cX4_append 1 = .ok (.getfield 15, 3) := by decide +kernel
theorem dX4_append_4 : decode cX4_append 4 = .ok (.ifCond .lt 29, 3) := by decide +kernel
theorem dX4_append_7 : decode cX4_append 7 = .ok (.aload_n 0, 1) := by decide +kernel
theorem dX4_append_8 : decode cX4_append 8 = .ok (.getfield 15, 3) := by decide +kernel
theorem dX4_append_11 : decode cX4_append 11 = .ok (.bipush 120, 2) := by decide +kernel
theorem dX4_append_13 : decode cX4_append 13 = .ok (.if_icmp .ge 20, 3) := by decide +kernel
theorem dX4_append_16 : decode cX4_append 16 = .ok (.aload_n 0, 1) := by decide +kernel
theorem dX4_append_17 : decode cX4_append 17 = .ok (.getfield 9, 3) := by decide +kernel
theorem dX4_append_20 : decode cX4_append 20 = .ok (.aload_n 0, 1) := by decide +kernel
theorem dX4_append_21 : decode cX4_append 21 = .ok (.dup, 1) := by decide +kernel
theorem dX4_append_22 : decode cX4_append 22 = .ok (.getfield 15, 3) := by decide +kernel
theorem dX4_append_25 : decode cX4_append 25 = .ok (.dup_x1, 1) := by decide +kernel
theorem dX4_append_26 : decode cX4_append 26 = .ok (.iconst 1, 1) := by decide +kernel
theorem dX4_append_27 : decode cX4_append 27 = .ok (.iadd, 1) := by decide +kernel
theorem dX4_append_28 : decode cX4_append 28 = .ok (.putfield 15, 3) := by decide +kernel
theorem dX4_append_31 : decode cX4_append 31 = .ok (.iload_n 1, 1) := by decide +kernel
theorem dX4_append_32 : decode cX4_append 32 = .ok (.iastore, 1) := by decide +kernel
theorem dX4_append_33 : decode cX4_append 33 = .ok (.return_, 1) := by decide +kernel
theorem dX4_rewind_0 : decode cX4_rewind 0 = .ok (.aload_n 0, 1) := by decide +kernel
theorem dX4_rewind_1 : decode cX4_rewind 1 = .ok (.iconst 0, 1) := by decide +kernel
theorem dX4_rewind_2 : decode cX4_rewind 2 = .ok (.putfield 19, 3) := by decide +kernel
theorem dX4_rewind_5 : decode cX4_rewind 5 = .ok (.aload_n 0, 1) := by decide +kernel
theorem dX4_rewind_6 : decode cX4_rewind 6 = .ok (.invokevirtual 22, 3) := by decide +kernel
theorem dX4_rewind_9 : decode cX4_rewind 9 = .ok (.return_, 1) := by decide +kernel
theorem dX4_advance_0 : decode cX4_advance 0 = .ok (.aload_n 0, 1) := by decide +kernel
theorem dX4_advance_1 : decode cX4_advance 1 = .ok (.aload_n 0, 1) := by decide +kernel
theorem dX4_advance_2 : decode cX4_advance 2 = .ok (.getfield 19, 3) := by decide +kernel
theorem dX4_advance_5 : decode cX4_advance 5 = .ok (.putfield 25, 3) := by decide +kernel
theorem dX4_advance_8 : decode cX4_advance 8 = .ok (.aload_n 0, 1) := by decide +kernel
theorem dX4_advance_9 : decode cX4_advance 9 = .ok (.getfield 25, 3) := by decide +kernel
theorem dX4_advance_12 : decode cX4_advance 12 = .ok (.aload_n 0, 1) := by decide +kernel
theorem dX4_advance_13 : decode cX4_advance 13 = .ok (.getfield 15, 3) := by decide +kernel
theorem dX4_advance_16 : decode cX4_advance 16 = .ok (.if_icmp .ge 29, 3) := by decide +kernel
theorem dX4_advance_19 : decode cX4_advance 19 = .ok (.aload_n 0, 1) := by decide +kernel
theorem dX4_advance_20 : decode cX4_advance 20 = .ok (.aload_n 0, 1) := by decide +kernel
theorem dX4_advance_21 : decode cX4_advance 21 = .ok (.getfield 25, 3) := by decide +kernel
theorem dX4_advance_24 : decode cX4_advance 24 = .ok (.invokevirtual 28, 3) := by decide +kernel
theorem dX4_advance_27 : decode cX4_advance 27 = .ok (.bipush 32, 2) := by decide +kernel
theorem dX4_advance_29 : decode cX4_advance 29 = .ok (.if_icmp .ne 16, 3) := by decide +kernel
theorem dX4_advance_32 : decode cX4_advance 32 = .ok (.aload_n 0, 1) := by decide +kernel
theorem dX4_advance_33 : decode cX4_advance 33 = .ok (.dup, 1) := by decide +kernel
theorem dX4_advance_34 : decode cX4_advance 34 = .ok (.getfield 25, 3) := by decide +kernel
theorem dX4_advance_37 : decode cX4_advance 37 = .ok (.iconst 1, 1) := by decide +kernel
theorem dX4_advance_38 : decode cX4_advance 38 = .ok (.iadd, 1) := by decide +kernel
theorem dX4_advance_39 : decode cX4_advance 39 = .ok (.putfield 25, 3) := by decide +kernel
theorem dX4_advance_42 : decode cX4_advance 42 = .ok (.goto (-34), 3) := by decide +kernel
theorem dX4_advance_45 : decode cX4_advance 45 = .ok (.aload_n 0, 1) := by decide +kernel
theorem dX4_advance_46 : decode cX4_advance 46 = .ok (.aload_n 0, 1) := by decide +kernel
theorem dX4_advance_47 : decode cX4_advance 47 = .ok (.aload_n 0, 1) := by decide +kernel
theorem dX4_advance_48 : decode cX4_advance 48 = .ok (.getfield 25, 3) := by decide +kernel
theorem dX4_advance_51 : decode cX4_advance 51 = .ok (.invokevirtual 28, 3) := by decide +kernel
theorem dX4_advance_54 : decode cX4_advance 54 = .ok (.invokestatic 32, 3) := by decide +kernel
theorem dX4_advance_57 : decode cX4_advance 57 = .ok (.putfield 35, 3) := by decide +kernel
theorem dX4_advance_60 : decode cX4_advance 60 = .ok (.aload_n 0, 1) := by decide +kernel
theorem dX4_advance_61 : decode cX4_advance 61 = .ok (.aload_n 0, 1) := by decide +kernel
theorem dX4_advance_62 : decode cX4_advance 62 = .ok (.getfield 25, 3) := by decide +kernel
theorem dX4_advance_65 : decode cX4_advance 65 = .ok (.putfield 19, 3) := by decide +kernel
theorem dX4_advance_68 : decode cX4_advance 68 = .ok (.aload_n 0, 1) := by decide +kernel
theorem dX4_advance_69 : decode cX4_advance 69 = .ok (.getfield 35, 3) := by decide +kernel
theorem dX4_advance_72 : decode cX4_advance 72 = .ok (.iconst 3, 1) := by decide +kernel
theorem dX4_advance_73 : decode cX4_advance 73 = .ok (.if_icmp .eq 11, 3) := by decide +kernel
theorem dX4_advance_76 : decode cX4_advance 76 = .ok (.aload_n 0, 1) := by decide +kernel
theorem dX4_advance_77 : decode cX4_advance 77 = .ok (.getfield 35, 3) := by decide +kernel
theorem dX4_advance_80 : decode cX4_advance 80 = .ok (.iconst 4, 1) := by decide +kernel
theorem dX4_advance_81 : decode cX4_advance 81 = .ok (.if_icmp .ne 16, 3) := by decide +kernel
theorem dX4_advance_84 : decode cX4_advance 84 = .ok (.aload_n 0, 1) := by decide +kernel
theorem dX4_advance_85 : decode cX4_advance 85 = .ok (.dup, 1) := by decide +kernel
theorem dX4_advance_86 : decode cX4_advance 86 = .ok (.getfield 19, 3) := by decide +kernel
theorem dX4_advance_89 : decode cX4_advance 89 = .ok (.iconst 1, 1) := by decide +kernel
theorem dX4_advance_90 : decode cX4_advance 90 = .ok (.iadd, 1) := by decide +kernel
theorem dX4_advance_91 : decode cX4_advance 91 = .ok (.putfield 19, 3) := by decide +kernel
theorem dX4_advance_94 : decode cX4_advance 94 = .ok (.goto 30, 3) := by decide +kernel
theorem dX4_advance_97 : decode cX4_advance 97 = .ok (.aload_n 0, 1) := by decide +kernel
theorem dX4_advance_98 : decode cX4_advance 98 = .ok (.getfield 35, 3) := by decide +kernel
theorem dX4_advance_101 : decode cX4_advance 101 = .ok (.iconst 2, 1) := by decide +kernel
theorem dX4_advance_102 : decode cX4_advance 102 = .ok (.if_icmp .ne 10, 3) := by decide +kernel
theorem dX4_advance_105 : decode cX4_advance 105 = .ok (.aload_n 0, 1) := by decide +kernel
theorem dX4_advance_106 : decode cX4_advance 106 = .ok (.invokevirtual 38, 3) := by decide +kernel
theorem dX4_advance_109 : decode cX4_advance 109 = .ok (.goto 15, 3) := by decide +kernel
theorem dX4_advance_112 : decode cX4_advance 112 = .ok (.aload_n 0, 1) := by decide +kernel
theorem dX4_advance_113 : decode cX4_advance 113 = .ok (.getfield 35, 3) := by decide +kernel
theorem dX4_advance_116 : decode cX4_advance 116 = .ok (.iconst 1, 1) := by decide +kernel
theorem dX4_advance_117 : decode cX4_advance 117 = .ok (.if_icmp .ne 7, 3) := by decide +kernel
theorem dX4_advance_120 : decode cX4_advance 120 = .ok (.aload_n 0, 1) := by decide +kernel
theorem dX4_advance_121 : decode cX4_advance 121 = .ok (.invokevirtual 41, 3) := by decide +kernel
theorem dX4_advance_124 : decode cX4_advance 124 = .ok (.return_, 1) := by decide +kernel
theorem dX4_byteAt_0 : decode cX4_byteAt 0 = .ok (.iload_n 1, 1) := by decide +kernel
theorem dX4_byteAt_1 : decode cX4_byteAt 1 = .ok (.ifCond .lt 26, 3) := by decide +kernel
theorem dX4_byteAt_4 : decode cX4_byteAt 4 = .ok (.iload_n 1, 1) := by decide +kernel
theorem dX4_byteAt_5 : decode cX4_byteAt 5 = .ok (.aload_n 0, 1) := by decide +kernel
theorem dX4_byteAt_6 : decode cX4_byteAt 6 = .ok (.getfield 15, 3) := by decide +kernel
theorem dX4_byteAt_9 : decode cX4_byteAt 9 = .ok (.if_icmp .ge 18, 3) := by decide +kernel
theorem dX4_byteAt_12 : decode cX4_byteAt 12 = .ok (.iload_n 1, 1) := by decide +kernel
theorem dX4_byteAt_13 : decode cX4_byteAt 13 = .ok (.bipush 120, 2) := by decide +kernel
theorem dX4_byteAt_15 : decode cX4_byteAt 15 = .ok (.if_icmp .ge 12, 3) := by decide +kernel
theorem dX4_byteAt_18 : decode cX4_byteAt 18 = .ok (.aload_n 0, 1) := by decide +kernel
theorem dX4_byteAt_19 : decode cX4_byteAt 19 = .ok (.getfield 9, 3) := by decide +kernel
theorem dX4_byteAt_22 : decode cX4_byteAt 22 = .ok (.iload_n 1, 1) := by decide +kernel
theorem dX4_byteAt_23 : decode cX4_byteAt 23 = .ok (.iaload, 1) := by decide +kernel
theorem dX4_byteAt_24 : decode cX4_byteAt 24 = .ok (.goto 4, 3) := by decide +kernel
theorem dX4_byteAt_27 : decode cX4_byteAt 27 = .ok (.iconst (-1), 1) := by decide +kernel
theorem dX4_byteAt_28 : decode cX4_byteAt 28 = .ok (.ireturn, 1) := by decide +kernel
theorem dX4_sortOf_0 : decode cX4_sortOf 0 = .ok (.iload_n 0, 1) := by decide +kernel
theorem dX4_sortOf_1 : decode cX4_sortOf 1 = .ok (.ifCond .ge 5, 3) := by decide +kernel
theorem dX4_sortOf_4 : decode cX4_sortOf 4 = .ok (.iconst 0, 1) := by decide +kernel
theorem dX4_sortOf_5 : decode cX4_sortOf 5 = .ok (.ireturn, 1) := by decide +kernel
theorem dX4_sortOf_6 : decode cX4_sortOf 6 = .ok (.iload_n 0, 1) := by decide +kernel
theorem dX4_sortOf_7 : decode cX4_sortOf 7 = .ok (.bipush 97, 2) := by decide +kernel
theorem dX4_sortOf_9 : decode cX4_sortOf 9 = .ok (.if_icmp .lt 11, 3) := by decide +kernel
theorem dX4_sortOf_12 : decode cX4_sortOf 12 = .ok (.iload_n 0, 1) := by decide +kernel
theorem dX4_sortOf_13 : decode cX4_sortOf 13 = .ok (.bipush 122, 2) := by decide +kernel
theorem dX4_sortOf_15 : decode cX4_sortOf 15 = .ok (.if_icmp .gt 5, 3) := by decide +kernel
theorem dX4_sortOf_18 : decode cX4_sortOf 18 = .ok (.iconst 1, 1) := by decide +kernel
theorem dX4_sortOf_19 : decode cX4_sortOf 19 = .ok (.ireturn, 1) := by decide +kernel
theorem dX4_sortOf_20 : decode cX4_sortOf 20 = .ok (.iload_n 0, 1) := by decide +kernel
theorem dX4_sortOf_21 : decode cX4_sortOf 21 = .ok (.bipush 48, 2) := by decide +kernel
theorem dX4_sortOf_23 : decode cX4_sortOf 23 = .ok (.if_icmp .lt 11, 3) := by decide +kernel
theorem dX4_sortOf_26 : decode cX4_sortOf 26 = .ok (.iload_n 0, 1) := by decide +kernel
theorem dX4_sortOf_27 : decode cX4_sortOf 27 = .ok (.bipush 57, 2) := by decide +kernel
theorem dX4_sortOf_29 : decode cX4_sortOf 29 = .ok (.if_icmp .gt 5, 3) := by decide +kernel
theorem dX4_sortOf_32 : decode cX4_sortOf 32 = .ok (.iconst 2, 1) := by decide +kernel
theorem dX4_sortOf_33 : decode cX4_sortOf 33 = .ok (.ireturn, 1) := by decide +kernel
theorem dX4_sortOf_34 : decode cX4_sortOf 34 = .ok (.iload_n 0, 1) := by decide +kernel
theorem dX4_sortOf_35 : decode cX4_sortOf 35 = .ok (.bipush 59, 2) := by decide +kernel
theorem dX4_sortOf_37 : decode cX4_sortOf 37 = .ok (.if_icmp .ne 7, 3) := by decide +kernel
theorem dX4_sortOf_40 : decode cX4_sortOf 40 = .ok (.iconst 3, 1) := by decide +kernel
theorem dX4_sortOf_41 : decode cX4_sortOf 41 = .ok (.goto 4, 3) := by decide +kernel
theorem dX4_sortOf_44 : decode cX4_sortOf 44 = .ok (.iconst 4, 1) := by decide +kernel
theorem dX4_sortOf_45 : decode cX4_sortOf 45 = .ok (.ireturn, 1) := by decide +kernel
theorem dX4_passWord_0 : decode cX4_passWord 0 = .ok (.aload_n 0, 1) := by decide +kernel
theorem dX4_passWord_1 : decode cX4_passWord 1 = .ok (.getfield 19, 3) := by decide +kernel
theorem dX4_passWord_4 : decode cX4_passWord 4 = .ok (.aload_n 0, 1) := by decide +kernel
theorem dX4_passWord_5 : decode cX4_passWord 5 = .ok (.getfield 15, 3) := by decide +kernel
theorem dX4_passWord_8 : decode cX4_passWord 8 = .ok (.if_icmp .ge 31, 3) := by decide +kernel
theorem dX4_passWord_11 : decode cX4_passWord 11 = .ok (.aload_n 0, 1) := by decide +kernel
theorem dX4_passWord_12 : decode cX4_passWord 12 = .ok (.aload_n 0, 1) := by decide +kernel
theorem dX4_passWord_13 : decode cX4_passWord 13 = .ok (.getfield 19, 3) := by decide +kernel
theorem dX4_passWord_16 : decode cX4_passWord 16 = .ok (.invokevirtual 28, 3) := by decide +kernel
theorem dX4_passWord_19 : decode cX4_passWord 19 = .ok (.invokestatic 32, 3) := by decide +kernel
theorem dX4_passWord_22 : decode cX4_passWord 22 = .ok (.iconst 1, 1) := by decide +kernel
theorem dX4_passWord_23 : decode cX4_passWord 23 = .ok (.if_icmp .ne 16, 3) := by decide +kernel
theorem dX4_passWord_26 : decode cX4_passWord 26 = .ok (.aload_n 0, 1) := by decide +kernel
theorem dX4_passWord_27 : decode cX4_passWord 27 = .ok (.dup, 1) := by decide +kernel
theorem dX4_passWord_28 : decode cX4_passWord 28 = .ok (.getfield 19, 3) := by decide +kernel
theorem dX4_passWord_31 : decode cX4_passWord 31 = .ok (.iconst 1, 1) := by decide +kernel
theorem dX4_passWord_32 : decode cX4_passWord 32 = .ok (.iadd, 1) := by decide +kernel
theorem dX4_passWord_33 : decode cX4_passWord 33 = .ok (.putfield 19, 3) := by decide +kernel
theorem dX4_passWord_36 : decode cX4_passWord 36 = .ok (.goto (-36), 3) := by decide +kernel
theorem dX4_passWord_39 : decode cX4_passWord 39 = .ok (.return_, 1) := by decide +kernel
theorem dX4_passNumber_0 : decode cX4_passNumber 0 = .ok (.aload_n 0, 1) := by decide +kernel
theorem dX4_passNumber_1 : decode cX4_passNumber 1 = .ok (.iconst 0, 1) := by decide +kernel
theorem dX4_passNumber_2 : decode cX4_passNumber 2 = .ok (.putfield 44, 3) := by decide +kernel
theorem dX4_passNumber_5 : decode cX4_passNumber 5 = .ok (.aload_n 0, 1) := by decide +kernel
theorem dX4_passNumber_6 : decode cX4_passNumber 6 = .ok (.getfield 19, 3) := by decide +kernel
theorem dX4_passNumber_9 : decode cX4_passNumber 9 = .ok (.aload_n 0, 1) := by decide +kernel
theorem dX4_passNumber_10 : decode cX4_passNumber 10 = .ok (.getfield 15, 3) := by decide +kernel
theorem dX4_passNumber_13 : decode cX4_passNumber 13 = .ok (.if_icmp .ge 60, 3) := by decide +kernel
theorem dX4_passNumber_16 : decode cX4_passNumber 16 = .ok (.aload_n 0, 1) := by decide +kernel
theorem dX4_passNumber_17 : decode cX4_passNumber 17 = .ok (.aload_n 0, 1) := by decide +kernel
theorem dX4_passNumber_18 : decode cX4_passNumber 18 = .ok (.getfield 19, 3) := by decide +kernel
theorem dX4_passNumber_21 : decode cX4_passNumber 21 = .ok (.invokevirtual 28, 3) := by decide +kernel
theorem dX4_passNumber_24 : decode cX4_passNumber 24 = .ok (.invokestatic 32, 3) := by decide +kernel
theorem dX4_passNumber_27 : decode cX4_passNumber 27 = .ok (.iconst 2, 1) := by decide +kernel
theorem dX4_passNumber_28 : decode cX4_passNumber 28 = .ok (.if_icmp .ne 45, 3) := by decide +kernel
theorem dX4_passNumber_31 : decode cX4_passNumber 31 = .ok (.aload_n 0, 1) := by decide +kernel
theorem dX4_passNumber_32 : decode cX4_passNumber 32 = .ok (.aload_n 0, 1) := by decide +kernel
theorem dX4_passNumber_33 : decode cX4_passNumber 33 = .ok (.getfield 44, 3) := by decide +kernel
theorem dX4_passNumber_36 : decode cX4_passNumber 36 = .ok (.bipush 10, 2) := by decide +kernel
theorem dX4_passNumber_38 : decode cX4_passNumber 38 = .ok (.imul, 1) := by decide +kernel
theorem dX4_passNumber_39 : decode cX4_passNumber 39 = .ok (.aload_n 0, 1) := by decide +kernel
theorem dX4_passNumber_40 : decode cX4_passNumber 40 = .ok (.aload_n 0, 1) := by decide +kernel
theorem dX4_passNumber_41 : decode cX4_passNumber 41 = .ok (.getfield 19, 3) := by decide +kernel
theorem dX4_passNumber_44 : decode cX4_passNumber 44 = .ok (.invokevirtual 28, 3) := by decide +kernel
theorem dX4_passNumber_47 : decode cX4_passNumber 47 = .ok (.iadd, 1) := by decide +kernel
theorem dX4_passNumber_48 : decode cX4_passNumber 48 = .ok (.bipush 48, 2) := by decide +kernel
theorem dX4_passNumber_50 : decode cX4_passNumber 50 = .ok (.isub, 1) := by decide +kernel
theorem dX4_passNumber_51 : decode cX4_passNumber 51 = .ok (.sipush 10000, 3) := by decide +kernel
theorem dX4_passNumber_54 : decode cX4_passNumber 54 = .ok (.invokestatic 47, 3) := by decide +kernel
theorem dX4_passNumber_57 : decode cX4_passNumber 57 = .ok (.putfield 44, 3) := by decide +kernel
theorem dX4_passNumber_60 : decode cX4_passNumber 60 = .ok (.aload_n 0, 1) := by decide +kernel
theorem dX4_passNumber_61 : decode cX4_passNumber 61 = .ok (.dup, 1) := by decide +kernel
theorem dX4_passNumber_62 : decode cX4_passNumber 62 = .ok (.getfield 19, 3) := by decide +kernel
theorem dX4_passNumber_65 : decode cX4_passNumber 65 = .ok (.iconst 1, 1) := by decide +kernel
theorem dX4_passNumber_66 : decode cX4_passNumber 66 = .ok (.iadd, 1) := by decide +kernel
theorem dX4_passNumber_67 : decode cX4_passNumber 67 = .ok (.putfield 19, 3) := by decide +kernel
theorem dX4_passNumber_70 : decode cX4_passNumber 70 = .ok (.goto (-65), 3) := by decide +kernel
theorem dX4_passNumber_73 : decode cX4_passNumber 73 = .ok (.return_, 1) := by decide +kernel
theorem dX4_isEnd_0 : decode cX4_isEnd 0 = .ok (.aload_n 0, 1) := by decide +kernel
theorem dX4_isEnd_1 : decode cX4_isEnd 1 = .ok (.getfield 35, 3) := by decide +kernel
theorem dX4_isEnd_4 : decode cX4_isEnd 4 = .ok (.ifCond .ne 7, 3) := by decide +kernel
theorem dX4_isEnd_7 : decode cX4_isEnd 7 = .ok (.iconst 1, 1) := by decide +kernel
theorem dX4_isEnd_8 : decode cX4_isEnd 8 = .ok (.goto 4, 3) := by decide +kernel
theorem dX4_isEnd_11 : decode cX4_isEnd 11 = .ok (.iconst 0, 1) := by decide +kernel
theorem dX4_isEnd_12 : decode cX4_isEnd 12 = .ok (.ireturn, 1) := by decide +kernel
theorem dX4_isSemicolon_0 : decode cX4_isSemicolon 0 = .ok (.aload_n 0, 1) := by decide +kernel
theorem dX4_isSemicolon_1 : decode cX4_isSemicolon 1 = .ok (.getfield 35, 3) := by decide +kernel
theorem dX4_isSemicolon_4 : decode cX4_isSemicolon 4 = .ok (.iconst 3, 1) := by decide +kernel
theorem dX4_isSemicolon_5 : decode cX4_isSemicolon 5 = .ok (.if_icmp .ne 7, 3) := by decide +kernel
theorem dX4_isSemicolon_8 : decode cX4_isSemicolon 8 = .ok (.iconst 1, 1) := by decide +kernel
theorem dX4_isSemicolon_9 : decode cX4_isSemicolon 9 = .ok (.goto 4, 3) := by decide +kernel
theorem dX4_isSemicolon_12 : decode cX4_isSemicolon 12 = .ok (.iconst 0, 1) := by decide +kernel
theorem dX4_isSemicolon_13 : decode cX4_isSemicolon 13 = .ok (.ireturn, 1) := by decide +kernel
theorem dX4_isNumber_0 : decode cX4_isNumber 0 = .ok (.aload_n 0, 1) := by decide +kernel
theorem dX4_isNumber_1 : decode cX4_isNumber 1 = .ok (.getfield 35, 3) := by decide +kernel
theorem dX4_isNumber_4 : decode cX4_isNumber 4 = .ok (.iconst 2, 1) := by decide +kernel
theorem dX4_isNumber_5 : decode cX4_isNumber 5 = .ok (.if_icmp .ne 23, 3) := by decide +kernel
theorem dX4_isNumber_8 : decode cX4_isNumber 8 = .ok (.aload_n 0, 1) := by decide +kernel
theorem dX4_isNumber_9 : decode cX4_isNumber 9 = .ok (.getfield 44, 3) := by decide +kernel
theorem dX4_isNumber_12 : decode cX4_isNumber 12 = .ok (.iload_n 1, 1) := by decide +kernel
theorem dX4_isNumber_13 : decode cX4_isNumber 13 = .ok (.if_icmp .lt 15, 3) := by decide +kernel
theorem dX4_isNumber_16 : decode cX4_isNumber 16 = .ok (.aload_n 0, 1) := by decide +kernel
theorem dX4_isNumber_17 : decode cX4_isNumber 17 = .ok (.getfield 44, 3) := by decide +kernel
theorem dX4_isNumber_20 : decode cX4_isNumber 20 = .ok (.iload_n 2, 1) := by decide +kernel
theorem dX4_isNumber_21 : decode cX4_isNumber 21 = .ok (.if_icmp .gt 7, 3) := by decide +kernel
theorem dX4_isNumber_24 : decode cX4_isNumber 24 = .ok (.iconst 1, 1) := by decide +kernel
theorem dX4_isNumber_25 : decode cX4_isNumber 25 = .ok (.goto 4, 3) := by decide +kernel
theorem dX4_isNumber_28 : decode cX4_isNumber 28 = .ok (.iconst 0, 1) := by decide +kernel
theorem dX4_isNumber_29 : decode cX4_isNumber 29 = .ok (.ireturn, 1) := by decide +kernel
theorem dX4_isWord_0 : decode cX4_isWord 0 = .ok (.aload_n 0, 1) := by decide +kernel
theorem dX4_isWord_1 : decode cX4_isWord 1 = .ok (.getfield 35, 3) := by decide +kernel
theorem dX4_isWord_4 : decode cX4_isWord 4 = .ok (.iconst 1, 1) := by decide +kernel
theorem dX4_isWord_5 : decode cX4_isWord 5 = .ok (.if_icmp .ne 19, 3) := by decide +kernel
theorem dX4_isWord_8 : decode cX4_isWord 8 = .ok (.aload_n 0, 1) := by decide +kernel
theorem dX4_isWord_9 : decode cX4_isWord 9 = .ok (.getfield 19, 3) := by decide +kernel
theorem dX4_isWord_12 : decode cX4_isWord 12 = .ok (.aload_n 0, 1) := by decide +kernel
theorem dX4_isWord_13 : decode cX4_isWord 13 = .ok (.getfield 25, 3) := by decide +kernel
theorem dX4_isWord_16 : decode cX4_isWord 16 = .ok (.isub, 1) := by decide +kernel
theorem dX4_isWord_17 : decode cX4_isWord 17 = .ok (.aload_n 1, 1) := by decide +kernel
theorem dX4_isWord_18 : decode cX4_isWord 18 = .ok (.invokevirtual 53, 3) := by decide +kernel
theorem dX4_isWord_21 : decode cX4_isWord 21 = .ok (.if_icmp .eq 5, 3) := by decide +kernel
theorem dX4_isWord_24 : decode cX4_isWord 24 = .ok (.iconst 0, 1) := by decide +kernel
theorem dX4_isWord_25 : decode cX4_isWord 25 = .ok (.ireturn, 1) := by decide +kernel
theorem dX4_isWord_26 : decode cX4_isWord 26 = .ok (.iconst 0, 1) := by decide +kernel
theorem dX4_isWord_27 : decode cX4_isWord 27 = .ok (.istore_n 2, 1) := by decide +kernel
theorem dX4_isWord_28 : decode cX4_isWord 28 = .ok (.iload_n 2, 1) := by decide +kernel
theorem dX4_isWord_29 : decode cX4_isWord 29 = .ok (.aload_n 1, 1) := by decide +kernel
theorem dX4_isWord_30 : decode cX4_isWord 30 = .ok (.invokevirtual 53, 3) := by decide +kernel
theorem dX4_isWord_33 : decode cX4_isWord 33 = .ok (.if_icmp .ge 29, 3) := by decide +kernel
theorem dX4_isWord_36 : decode cX4_isWord 36 = .ok (.aload_n 0, 1) := by decide +kernel
theorem dX4_isWord_37 : decode cX4_isWord 37 = .ok (.aload_n 0, 1) := by decide +kernel
theorem dX4_isWord_38 : decode cX4_isWord 38 = .ok (.getfield 25, 3) := by decide +kernel
theorem dX4_isWord_41 : decode cX4_isWord 41 = .ok (.iload_n 2, 1) := by decide +kernel
theorem dX4_isWord_42 : decode cX4_isWord 42 = .ok (.iadd, 1) := by decide +kernel
theorem dX4_isWord_43 : decode cX4_isWord 43 = .ok (.invokevirtual 28, 3) := by decide +kernel
theorem dX4_isWord_46 : decode cX4_isWord 46 = .ok (.aload_n 1, 1) := by decide +kernel
theorem dX4_isWord_47 : decode cX4_isWord 47 = .ok (.iload_n 2, 1) := by decide +kernel
theorem dX4_isWord_48 : decode cX4_isWord 48 = .ok (.invokevirtual 58, 3) := by decide +kernel
theorem dX4_isWord_51 : decode cX4_isWord 51 = .ok (.if_icmp .eq 5, 3) := by decide +kernel
theorem dX4_isWord_54 : decode cX4_isWord 54 = .ok (.iconst 0, 1) := by decide +kernel
theorem dX4_isWord_55 : decode cX4_isWord 55 = .ok (.ireturn, 1) := by decide +kernel
theorem dX4_isWord_56 : decode cX4_isWord 56 = .ok (.iinc 2 1, 3) := by decide +kernel
theorem dX4_isWord_59 : decode cX4_isWord 59 = .ok (.goto (-31), 3) := by decide +kernel
theorem dX4_isWord_62 : decode cX4_isWord 62 = .ok (.iconst 1, 1) := by decide +kernel
theorem dX4_isWord_63 : decode cX4_isWord 63 = .ok (.ireturn, 1) := by decide +kernel
theorem dX5_init_0 : decode cX5_init 0 = .ok (.aload_n 0, 1) := by decide +kernel
theorem dX5_init_1 : decode cX5_init 1 = .ok (.invokespecial 3, 3) := by decide +kernel
theorem dX5_init_4 : decode cX5_init 4 = .ok (.aload_n 0, 1) := by decide +kernel
theorem dX5_init_5 : decode cX5_init 5 = .ok (.sipush 144, 3) := by decide +kernel
theorem dX5_init_8 : decode cX5_init 8 = .ok (.newarray .int, 2) := by decide +kernel
theorem dX5_init_10 : decode cX5_init 10 = .ok (.putfield 9, 3) := by decide +kernel
theorem dX5_init_13 : decode cX5_init 13 = .ok (.aload_n 0, 1) := by decide +kernel
theorem dX5_init_14 : decode cX5_init 14 = .ok (.sipush 144, 3) := by decide +kernel
theorem dX5_init_17 : decode cX5_init 17 = .ok (.newarray .int, 2) := by decide +kernel
theorem dX5_init_19 : decode cX5_init 19 = .ok (.putfield 15, 3) := by decide +kernel
theorem dX5_init_22 : decode cX5_init 22 = .ok (.return_, 1) := by decide +kernel
theorem dX5_layOut_0 : decode cX5_layOut 0 = .ok (.aload_n 0, 1) := by decide +kernel
theorem dX5_layOut_1 : decode cX5_layOut 1 = .ok (.aload_n 1, 1) := by decide +kernel
theorem dX5_layOut_2 : decode cX5_layOut 2 = .ok (.getfield 18, 3) := by decide +kernel
theorem dX5_layOut_5 : decode cX5_layOut 5 = .ok (.bipush 12, 2) := by decide +kernel
theorem dX5_layOut_7 : decode cX5_layOut 7 = .ok (.invokestatic 24, 3) := by decide +kernel
theorem dX5_layOut_10 : decode cX5_layOut 10 = .ok (.putfield 30, 3) := by decide +kernel
theorem dX5_layOut_13 : decode cX5_layOut 13 = .ok (.aload_n 0, 1) := by decide +kernel
theorem dX5_layOut_14 : decode cX5_layOut 14 = .ok (.aload_n 1, 1) := by decide +kernel
theorem dX5_layOut_15 : decode cX5_layOut 15 = .ok (.invokevirtual 31, 3) := by decide +kernel
theorem dX5_layOut_18 : decode cX5_layOut 18 = .ok (.putfield 35, 3) := by decide +kernel
theorem dX5_layOut_21 : decode cX5_layOut 21 = .ok (.aload_n 0, 1) := by decide +kernel
theorem dX5_layOut_22 : decode cX5_layOut 22 = .ok (.aload_n 1, 1) := by decide +kernel
theorem dX5_layOut_23 : decode cX5_layOut 23 = .ok (.invokevirtual 38, 3) := by decide +kernel
theorem dX5_layOut_26 : decode cX5_layOut 26 = .ok (.putfield 41, 3) := by decide +kernel
theorem dX5_layOut_29 : decode cX5_layOut 29 = .ok (.aload_n 0, 1) := by decide +kernel
theorem dX5_layOut_30 : decode cX5_layOut 30 = .ok (.aload_n 1, 1) := by decide +kernel
theorem dX5_layOut_31 : decode cX5_layOut 31 = .ok (.getfield 44, 3) := by decide +kernel
theorem dX5_layOut_34 : decode cX5_layOut 34 = .ok (.iconst 1, 1) := by decide +kernel
theorem dX5_layOut_35 : decode cX5_layOut 35 = .ok (.invokestatic 47, 3) := by decide +kernel
theorem dX5_layOut_38 : decode cX5_layOut 38 = .ok (.putfield 50, 3) := by decide +kernel
theorem dX5_layOut_41 : decode cX5_layOut 41 = .ok (.aload_n 0, 1) := by decide +kernel
theorem dX5_layOut_42 : decode cX5_layOut 42 = .ok (.aload_n 1, 1) := by decide +kernel
theorem dX5_layOut_43 : decode cX5_layOut 43 = .ok (.iload_n 2, 1) := by decide +kernel
theorem dX5_layOut_44 : decode cX5_layOut 44 = .ok (.invokevirtual 51, 3) := by decide +kernel
theorem dX5_layOut_47 : decode cX5_layOut 47 = .ok (.putfield 55, 3) := by decide +kernel
theorem dX5_layOut_50 : decode cX5_layOut 50 = .ok (.iconst 0, 1) := by decide +kernel
theorem dX5_layOut_51 : decode cX5_layOut 51 = .ok (.istore_n 3, 1) := by decide +kernel
theorem dX5_layOut_52 : decode cX5_layOut 52 = .ok (.iload_n 3, 1) := by decide +kernel
theorem dX5_layOut_53 : decode cX5_layOut 53 = .ok (.sipush 144, 3) := by decide +kernel
theorem dX5_layOut_56 : decode cX5_layOut 56 = .ok (.if_icmp .ge 17, 3) := by decide +kernel
theorem dX5_layOut_59 : decode cX5_layOut 59 = .ok (.aload_n 0, 1) := by decide +kernel
theorem dX5_layOut_60 : decode cX5_layOut 60 = .ok (.getfield 9, 3) := by decide +kernel
theorem dX5_layOut_63 : decode cX5_layOut 63 = .ok (.iload_n 3, 1) := by decide +kernel
theorem dX5_layOut_64 : decode cX5_layOut 64 = .ok (.ldc 59, 2) := by decide +kernel
theorem dX5_layOut_66 : decode cX5_layOut 66 = .ok (.iastore, 1) := by decide +kernel
theorem dX5_layOut_67 : decode cX5_layOut 67 = .ok (.iinc 3 1, 3) := by decide +kernel
theorem dX5_layOut_70 : decode cX5_layOut 70 = .ok (.goto (-18), 3) := by decide +kernel
theorem dX5_layOut_73 : decode cX5_layOut 73 = .ok (.iconst 0, 1) := by decide +kernel
theorem dX5_layOut_74 : decode cX5_layOut 74 = .ok (.istore_n 3, 1) := by decide +kernel
theorem dX5_layOut_75 : decode cX5_layOut 75 = .ok (.iload_n 3, 1) := by decide +kernel
theorem dX5_layOut_76 : decode cX5_layOut 76 = .ok (.aload_n 1, 1) := by decide +kernel
theorem dX5_layOut_77 : decode cX5_layOut 77 = .ok (.getfield 60, 3) := by decide +kernel
theorem dX5_layOut_80 : decode cX5_layOut 80 = .ok (.if_icmp .ge 61, 3) := by decide +kernel
theorem dX5_layOut_83 : decode cX5_layOut 83 = .ok (.iload_n 2, 1) := by decide +kernel
theorem dX5_layOut_84 : decode cX5_layOut 84 = .ok (.aload_n 1, 1) := by decide +kernel
theorem dX5_layOut_85 : decode cX5_layOut 85 = .ok (.getfield 63, 3) := by decide +kernel
theorem dX5_layOut_88 : decode cX5_layOut 88 = .ok (.iload_n 3, 1) := by decide +kernel
theorem dX5_layOut_89 : decode cX5_layOut 89 = .ok (.iaload, 1) := by decide +kernel
theorem dX5_layOut_90 : decode cX5_layOut 90 = .ok (.invokestatic 66, 3) := by decide +kernel
theorem dX5_layOut_93 : decode cX5_layOut 93 = .ok (.istore 4, 2) := by decide +kernel
theorem dX5_layOut_95 : decode cX5_layOut 95 = .ok (.aload_n 0, 1) := by decide +kernel
theorem dX5_layOut_96 : decode cX5_layOut 96 = .ok (.aload_n 1, 1) := by decide +kernel
theorem dX5_layOut_97 : decode cX5_layOut 97 = .ok (.iload_n 2, 1) := by decide +kernel
theorem dX5_layOut_98 : decode cX5_layOut 98 = .ok (.aload_n 1, 1) := by decide +kernel
theorem dX5_layOut_99 : decode cX5_layOut 99 = .ok (.getfield 71, 3) := by decide +kernel
theorem dX5_layOut_102 : decode cX5_layOut 102 = .ok (.iload_n 3, 1) := by decide +kernel
theorem dX5_layOut_103 : decode cX5_layOut 103 = .ok (.iaload, 1) := by decide +kernel
theorem dX5_layOut_104 : decode cX5_layOut 104 = .ok (.aload_n 1, 1) := by decide +kernel
theorem dX5_layOut_105 : decode cX5_layOut 105 = .ok (.getfield 74, 3) := by decide +kernel
theorem dX5_layOut_108 : decode cX5_layOut 108 = .ok (.iload_n 3, 1) := by decide +kernel
theorem dX5_layOut_109 : decode cX5_layOut 109 = .ok (.iaload, 1) := by decide +kernel
theorem dX5_layOut_110 : decode cX5_layOut 110 = .ok (.iload 4, 2) := by decide +kernel
theorem dX5_layOut_112 : decode cX5_layOut 112 = .ok (.invokevirtual 77, 3) := by decide +kernel
theorem dX5_layOut_115 : decode cX5_layOut 115 = .ok (.aload_n 0, 1) := by decide +kernel
theorem dX5_layOut_116 : decode cX5_layOut 116 = .ok (.aload_n 1, 1) := by decide +kernel
theorem dX5_layOut_117 : decode cX5_layOut 117 = .ok (.iload_n 2, 1) := by decide +kernel
theorem dX5_layOut_118 : decode cX5_layOut 118 = .ok (.aload_n 1, 1) := by decide +kernel
theorem dX5_layOut_119 : decode cX5_layOut 119 = .ok (.getfield 74, 3) := by decide +kernel
theorem dX5_layOut_122 : decode cX5_layOut 122 = .ok (.iload_n 3, 1) := by decide +kernel
theorem dX5_layOut_123 : decode cX5_layOut 123 = .ok (.iaload, 1) := by decide +kernel
theorem dX5_layOut_124 : decode cX5_layOut 124 = .ok (.aload_n 1, 1) := by decide +kernel
theorem dX5_layOut_125 : decode cX5_layOut 125 = .ok (.getfield 71, 3) := by decide +kernel
theorem dX5_layOut_128 : decode cX5_layOut 128 = .ok (.iload_n 3, 1) := by decide +kernel
theorem dX5_layOut_129 : decode cX5_layOut 129 = .ok (.iaload, 1) := by decide +kernel
theorem dX5_layOut_130 : decode cX5_layOut 130 = .ok (.iload 4, 2) := by decide +kernel
theorem dX5_layOut_132 : decode cX5_layOut 132 = .ok (.invokevirtual 77, 3) := by decide +kernel
theorem dX5_layOut_135 : decode cX5_layOut 135 = .ok (.iinc 3 1, 3) := by decide +kernel
theorem dX5_layOut_138 : decode cX5_layOut 138 = .ok (.goto (-63), 3) := by decide +kernel
theorem dX5_layOut_141 : decode cX5_layOut 141 = .ok (.aload_n 0, 1) := by decide +kernel
theorem dX5_layOut_142 : decode cX5_layOut 142 = .ok (.invokevirtual 81, 3) := by decide +kernel
theorem dX5_layOut_145 : decode cX5_layOut 145 = .ok (.return_, 1) := by decide +kernel
theorem dX5_layStep_0 : decode cX5_layStep 0 = .ok (.aload_n 0, 1) := by decide +kernel
theorem dX5_layStep_1 : decode cX5_layStep 1 = .ok (.iload_n 3, 1) := by decide +kernel
theorem dX5_layStep_2 : decode cX5_layStep 2 = .ok (.iload 4, 2) := by decide +kernel
theorem dX5_layStep_4 : decode cX5_layStep 4 = .ok (.invokevirtual 84, 3) := by decide +kernel
theorem dX5_layStep_7 : decode cX5_layStep 7 = .ok (.ifCond .eq 28, 3) := by decide +kernel
theorem dX5_layStep_10 : decode cX5_layStep 10 = .ok (.aload_n 1, 1) := by decide +kernel
theorem dX5_layStep_11 : decode cX5_layStep 11 = .ok (.iload_n 2, 1) := by decide +kernel
theorem dX5_layStep_12 : decode cX5_layStep 12 = .ok (.iload_n 3, 1) := by decide +kernel
theorem dX5_layStep_13 : decode cX5_layStep 13 = .ok (.iload 4, 2) := by decide +kernel
theorem dX5_layStep_15 : decode cX5_layStep 15 = .ok (.invokevirtual 88, 3) := by decide +kernel
theorem dX5_layStep_18 : decode cX5_layStep 18 = .ok (.ifCond .eq 17, 3) := by decide +kernel
theorem dX5_layStep_21 : decode cX5_layStep 21 = .ok (.aload_n 0, 1) := by decide +kernel
theorem dX5_layStep_22 : decode cX5_layStep 22 = .ok (.getfield 9, 3) := by decide +kernel
theorem dX5_layStep_25 : decode cX5_layStep 25 = .ok (.iload_n 3, 1) := by decide +kernel
theorem dX5_layStep_26 : decode cX5_layStep 26 = .ok (.bipush 12, 2) := by decide +kernel
theorem dX5_layStep_28 : decode cX5_layStep 28 = .ok (.imul, 1) := by decide +kernel
theorem dX5_layStep_29 : decode cX5_layStep 29 = .ok (.iload 4, 2) := by decide +kernel
theorem dX5_layStep_31 : decode cX5_layStep 31 = .ok (.iadd, 1) := by decide +kernel
theorem dX5_layStep_32 : decode cX5_layStep 32 = .ok (.iload 5, 2) := by decide +kernel
theorem dX5_layStep_34 : decode cX5_layStep 34 = .ok (.iastore, 1) := by decide +kernel
theorem dX5_layStep_35 : decode cX5_layStep 35 = .ok (.return_, 1) := by decide +kernel
theorem dX5_joinSteps_0 : decode cX5_joinSteps 0 = .ok (.aload_n 0, 1) := by decide +kernel
theorem dX5_joinSteps_1 : decode cX5_joinSteps 1 = .ok (.getfield 9, 3) := by decide +kernel
theorem dX5_joinSteps_4 : decode cX5_joinSteps 4 = .ok (.iconst 0, 1) := by decide +kernel
theorem dX5_joinSteps_5 : decode cX5_joinSteps 5 = .ok (.aload_n 0, 1) := by decide +kernel
theorem dX5_joinSteps_6 : decode cX5_joinSteps 6 = .ok (.getfield 15, 3) := by decide +kernel
theorem dX5_joinSteps_9 : decode cX5_joinSteps 9 = .ok (.iconst 0, 1) := by decide +kernel
theorem dX5_joinSteps_10 : decode cX5_joinSteps 10 = .ok (.sipush 144, 3) := by decide +kernel
theorem dX5_joinSteps_13 : decode cX5_joinSteps 13 = .ok (.invokestatic 92, 3) := by decide +kernel
theorem dX5_joinSteps_16 : decode cX5_joinSteps 16 = .ok (.iconst 0, 1) := by decide +kernel
theorem dX5_joinSteps_17 : decode cX5_joinSteps 17 = .ok (.istore_n 1, 1) := by decide +kernel
theorem dX5_joinSteps_18 : decode cX5_joinSteps 18 = .ok (.iload_n 1, 1) := by decide +kernel
theorem dX5_joinSteps_19 : decode cX5_joinSteps 19 = .ok (.aload_n 0, 1) := by decide +kernel
theorem dX5_joinSteps_20 : decode cX5_joinSteps 20 = .ok (.getfield 30, 3) := by decide +kernel
theorem dX5_joinSteps_23 : decode cX5_joinSteps 23 = .ok (.if_icmp .ge 21, 3) := by decide +kernel
theorem dX5_joinSteps_26 : decode cX5_joinSteps 26 = .ok (.aload_n 0, 1) := by decide +kernel
theorem dX5_joinSteps_27 : decode cX5_joinSteps 27 = .ok (.getfield 15, 3) := by decide +kernel
theorem dX5_joinSteps_30 : decode cX5_joinSteps 30 = .ok (.iload_n 1, 1) := by decide +kernel
theorem dX5_joinSteps_31 : decode cX5_joinSteps 31 = .ok (.bipush 12, 2) := by decide +kernel
theorem dX5_joinSteps_33 : decode cX5_joinSteps 33 = .ok (.imul, 1) := by decide +kernel
theorem dX5_joinSteps_34 : decode cX5_joinSteps 34 = .ok (.iload_n 1, 1) := by decide +kernel
theorem dX5_joinSteps_35 : decode cX5_joinSteps 35 = .ok (.iadd, 1) := by decide +kernel
theorem dX5_joinSteps_36 : decode cX5_joinSteps 36 = .ok (.iconst 0, 1) := by decide +kernel
theorem dX5_joinSteps_37 : decode cX5_joinSteps 37 = .ok (.iastore, 1) := by decide +kernel
theorem dX5_joinSteps_38 : decode cX5_joinSteps 38 = .ok (.iinc 1 1, 3) := by decide +kernel
theorem dX5_joinSteps_41 : decode cX5_joinSteps 41 = .ok (.goto (-23), 3) := by decide +kernel
theorem dX5_joinSteps_44 : decode cX5_joinSteps 44 = .ok (.iconst 0, 1) := by decide +kernel
theorem dX5_joinSteps_45 : decode cX5_joinSteps 45 = .ok (.istore_n 1, 1) := by decide +kernel
theorem dX5_joinSteps_46 : decode cX5_joinSteps 46 = .ok (.iload_n 1, 1) := by decide +kernel
theorem dX5_joinSteps_47 : decode cX5_joinSteps 47 = .ok (.aload_n 0, 1) := by decide +kernel
theorem dX5_joinSteps_48 : decode cX5_joinSteps 48 = .ok (.getfield 30, 3) := by decide +kernel
theorem dX5_joinSteps_51 : decode cX5_joinSteps 51 = .ok (.if_icmp .ge 47, 3) := by decide +kernel
theorem dX5_joinSteps_54 : decode cX5_joinSteps 54 = .ok (.iconst 0, 1) := by decide +kernel
theorem dX5_joinSteps_55 : decode cX5_joinSteps 55 = .ok (.istore_n 2, 1) := by decide +kernel
theorem dX5_joinSteps_56 : decode cX5_joinSteps 56 = .ok (.iload_n 2, 1) := by decide +kernel
theorem dX5_joinSteps_57 : decode cX5_joinSteps 57 = .ok (.aload_n 0, 1) := by decide +kernel
theorem dX5_joinSteps_58 : decode cX5_joinSteps 58 = .ok (.getfield 30, 3) := by decide +kernel
theorem dX5_joinSteps_61 : decode cX5_joinSteps 61 = .ok (.if_icmp .ge 31, 3) := by decide +kernel
theorem dX5_joinSteps_64 : decode cX5_joinSteps 64 = .ok (.aload_n 0, 1) := by decide +kernel
theorem dX5_joinSteps_65 : decode cX5_joinSteps 65 = .ok (.getfield 15, 3) := by decide +kernel
theorem dX5_joinSteps_68 : decode cX5_joinSteps 68 = .ok (.iload_n 2, 1) := by decide +kernel
theorem dX5_joinSteps_69 : decode cX5_joinSteps 69 = .ok (.bipush 12, 2) := by decide +kernel
theorem dX5_joinSteps_71 : decode cX5_joinSteps 71 = .ok (.imul, 1) := by decide +kernel
theorem dX5_joinSteps_72 : decode cX5_joinSteps 72 = .ok (.iload_n 1, 1) := by decide +kernel
theorem dX5_joinSteps_73 : decode cX5_joinSteps 73 = .ok (.iadd, 1) := by decide +kernel
theorem dX5_joinSteps_74 : decode cX5_joinSteps 74 = .ok (.iaload, 1) := by decide +kernel
theorem dX5_joinSteps_75 : decode cX5_joinSteps 75 = .ok (.ldc 59, 2) := by decide +kernel
theorem dX5_joinSteps_77 : decode cX5_joinSteps 77 = .ok (.if_icmp .ge 9, 3) := by decide +kernel
theorem dX5_joinSteps_80 : decode cX5_joinSteps 80 = .ok (.aload_n 0, 1) := by decide +kernel
theorem dX5_joinSteps_81 : decode cX5_joinSteps 81 = .ok (.iload_n 1, 1) := by decide +kernel
theorem dX5_joinSteps_82 : decode cX5_joinSteps 82 = .ok (.iload_n 2, 1) := by decide +kernel
theorem dX5_joinSteps_83 : decode cX5_joinSteps 83 = .ok (.invokevirtual 98, 3) := by decide +kernel
theorem dX5_joinSteps_86 : decode cX5_joinSteps 86 = .ok (.iinc 2 1, 3) := by decide +kernel
theorem dX5_joinSteps_89 : decode cX5_joinSteps 89 = .ok (.goto (-33), 3) := by decide +kernel
theorem dX5_joinSteps_92 : decode cX5_joinSteps 92 = .ok (.iinc 1 1, 3) := by decide +kernel
theorem dX5_joinSteps_95 : decode cX5_joinSteps 95 = .ok (.goto (-49), 3) := by decide +kernel
theorem dX5_joinSteps_98 : decode cX5_joinSteps 98 = .ok (.return_, 1) := by decide +kernel
theorem dX5_shortenBy_0 : decode cX5_shortenBy 0 = .ok (.aload_n 0, 1) := by decide +kernel
theorem dX5_shortenBy_1 : decode cX5_shortenBy 1 = .ok (.iload_n 2, 1) := by decide +kernel
theorem dX5_shortenBy_2 : decode cX5_shortenBy 2 = .ok (.iload_n 1, 1) := by decide +kernel
theorem dX5_shortenBy_3 : decode cX5_shortenBy 3 = .ok (.invokevirtual 84, 3) := by decide +kernel
theorem dX5_shortenBy_6 : decode cX5_shortenBy 6 = .ok (.ifCond .ne 4, 3) := by decide +kernel
theorem dX5_shortenBy_9 : decode cX5_shortenBy 9 = .ok (.return_, 1) := by decide +kernel
theorem dX5_shortenBy_10 : decode cX5_shortenBy 10 = .ok (.iload_n 2, 1) := by decide +kernel
theorem dX5_shortenBy_11 : decode cX5_shortenBy 11 = .ok (.bipush 12, 2) := by decide +kernel
theorem dX5_shortenBy_13 : decode cX5_shortenBy 13 = .ok (.imul, 1) := by decide +kernel
theorem dX5_shortenBy_14 : decode cX5_shortenBy 14 = .ok (.istore_n 3, 1) := by decide +kernel
theorem dX5_shortenBy_15 : decode cX5_shortenBy 15 = .ok (.iload_n 1, 1) := by decide +kernel
theorem dX5_shortenBy_16 : decode cX5_shortenBy 16 = .ok (.bipush 12, 2) := by decide +kernel
theorem dX5_shortenBy_18 : decode cX5_shortenBy 18 = .ok (.imul, 1) := by decide +kernel
theorem dX5_shortenBy_19 : decode cX5_shortenBy 19 = .ok (.istore 4, 2) := by decide +kernel
theorem dX5_shortenBy_21 : decode cX5_shortenBy 21 = .ok (.aload_n 0, 1) := by decide +kernel
theorem dX5_shortenBy_22 : decode cX5_shortenBy 22 = .ok (.getfield 15, 3) := by decide +kernel
theorem dX5_shortenBy_25 : decode cX5_shortenBy 25 = .ok (.iload_n 3, 1) := by decide +kernel
theorem dX5_shortenBy_26 : decode cX5_shortenBy 26 = .ok (.iload_n 1, 1) := by decide +kernel
theorem dX5_shortenBy_27 : decode cX5_shortenBy 27 = .ok (.iadd, 1) := by decide +kernel
theorem dX5_shortenBy_28 : decode cX5_shortenBy 28 = .ok (.iaload, 1) := by decide +kernel
theorem dX5_shortenBy_29 : decode cX5_shortenBy 29 = .ok (.istore 5, 2) := by decide +kernel
theorem dX5_shortenBy_31 : decode cX5_shortenBy 31 = .ok (.iconst 0, 1) := by decide +kernel
theorem dX5_shortenBy_32 : decode cX5_shortenBy 32 = .ok (.istore 6, 2) := by decide +kernel
theorem dX5_shortenBy_34 : decode cX5_shortenBy 34 = .ok (.iload 6, 2) := by decide +kernel
theorem dX5_shortenBy_36 : decode cX5_shortenBy 36 = .ok (.aload_n 0, 1) := by decide +kernel
theorem dX5_shortenBy_37 : decode cX5_shortenBy 37 = .ok (.getfield 30, 3) := by decide +kernel
theorem dX5_shortenBy_40 : decode cX5_shortenBy 40 = .ok (.if_icmp .ge 43, 3) := by decide +kernel
theorem dX5_shortenBy_43 : decode cX5_shortenBy 43 = .ok (.aload_n 0, 1) := by decide +kernel
theorem dX5_shortenBy_44 : decode cX5_shortenBy 44 = .ok (.getfield 15, 3) := by decide +kernel
theorem dX5_shortenBy_47 : decode cX5_shortenBy 47 = .ok (.iload_n 3, 1) := by decide +kernel
theorem dX5_shortenBy_48 : decode cX5_shortenBy 48 = .ok (.iload 6, 2) := by decide +kernel
theorem dX5_shortenBy_50 : decode cX5_shortenBy 50 = .ok (.iadd, 1) := by decide +kernel
theorem dX5_shortenBy_51 : decode cX5_shortenBy 51 = .ok (.aload_n 0, 1) := by decide +kernel
theorem dX5_shortenBy_52 : decode cX5_shortenBy 52 = .ok (.getfield 15, 3) := by decide +kernel
theorem dX5_shortenBy_55 : decode cX5_shortenBy 55 = .ok (.iload_n 3, 1) := by decide +kernel
theorem dX5_shortenBy_56 : decode cX5_shortenBy 56 = .ok (.iload 6, 2) := by decide +kernel
theorem dX5_shortenBy_58 : decode cX5_shortenBy 58 = .ok (.iadd, 1) := by decide +kernel
theorem dX5_shortenBy_59 : decode cX5_shortenBy 59 = .ok (.iaload, 1) := by decide +kernel
theorem dX5_shortenBy_60 : decode cX5_shortenBy 60 = .ok (.iload 5, 2) := by decide +kernel
theorem dX5_shortenBy_62 : decode cX5_shortenBy 62 = .ok (.aload_n 0, 1) := by decide +kernel
theorem dX5_shortenBy_63 : decode cX5_shortenBy 63 = .ok (.getfield 15, 3) := by decide +kernel
theorem dX5_shortenBy_66 : decode cX5_shortenBy 66 = .ok (.iload 4, 2) := by decide +kernel
theorem dX5_shortenBy_68 : decode cX5_shortenBy 68 = .ok (.iload 6, 2) := by decide +kernel
theorem dX5_shortenBy_70 : decode cX5_shortenBy 70 = .ok (.iadd, 1) := by decide +kernel
theorem dX5_shortenBy_71 : decode cX5_shortenBy 71 = .ok (.iaload, 1) := by decide +kernel
theorem dX5_shortenBy_72 : decode cX5_shortenBy 72 = .ok (.iadd, 1) := by decide +kernel
theorem dX5_shortenBy_73 : decode cX5_shortenBy 73 = .ok (.invokestatic 24, 3) := by decide +kernel
theorem dX5_shortenBy_76 : decode cX5_shortenBy 76 = .ok (.iastore, 1) := by decide +kernel
theorem dX5_shortenBy_77 : decode cX5_shortenBy 77 = .ok (.iinc 6 1, 3) := by decide +kernel
theorem dX5_shortenBy_80 : decode cX5_shortenBy 80 = .ok (.goto (-46), 3) := by decide +kernel
theorem dX5_shortenBy_83 : decode cX5_shortenBy 83 = .ok (.return_, 1) := by decide +kernel
theorem dX5_areHere_0 : decode cX5_areHere 0 = .ok (.iload_n 1, 1) := by decide +kernel
theorem dX5_areHere_1 : decode cX5_areHere 1 = .ok (.ifCond .lt 27, 3) := by decide +kernel
theorem dX5_areHere_4 : decode cX5_areHere 4 = .ok (.iload_n 1, 1) := by decide +kernel
theorem dX5_areHere_5 : decode cX5_areHere 5 = .ok (.aload_n 0, 1) := by decide +kernel
theorem dX5_areHere_6 : decode cX5_areHere 6 = .ok (.getfield 30, 3) := by decide +kernel
theorem dX5_areHere_9 : decode cX5_areHere 9 = .ok (.if_icmp .ge 19, 3) := by decide +kernel
theorem dX5_areHere_12 : decode cX5_areHere 12 = .ok (.iload_n 2, 1) := by decide +kernel
theorem dX5_areHere_13 : decode cX5_areHere 13 = .ok (.ifCond .lt 15, 3) := by decide +kernel
theorem dX5_areHere_16 : decode cX5_areHere 16 = .ok (.iload_n 2, 1) := by decide +kernel
theorem dX5_areHere_17 : decode cX5_areHere 17 = .ok (.aload_n 0, 1) := by decide +kernel
theorem dX5_areHere_18 : decode cX5_areHere 18 = .ok (.getfield 30, 3) := by decide +kernel
theorem dX5_areHere_21 : decode cX5_areHere 21 = .ok (.if_icmp .ge 7, 3) := by decide +kernel
theorem dX5_areHere_24 : decode cX5_areHere 24 = .ok (.iconst 1, 1) := by decide +kernel
theorem dX5_areHere_25 : decode cX5_areHere 25 = .ok (.goto 4, 3) := by decide +kernel
theorem dX5_areHere_28 : decode cX5_areHere 28 = .ok (.iconst 0, 1) := by decide +kernel
theorem dX5_areHere_29 : decode cX5_areHere 29 = .ok (.ireturn, 1) := by decide +kernel
theorem dX5_stepDays_0 : decode cX5_stepDays 0 = .ok (.aload_n 0, 1) := by decide +kernel
theorem dX5_stepDays_1 : decode cX5_stepDays 1 = .ok (.iload_n 1, 1) := by decide +kernel
theorem dX5_stepDays_2 : decode cX5_stepDays 2 = .ok (.iload_n 2, 1) := by decide +kernel
theorem dX5_stepDays_3 : decode cX5_stepDays 3 = .ok (.invokevirtual 84, 3) := by decide +kernel
theorem dX5_stepDays_6 : decode cX5_stepDays 6 = .ok (.ifCond .eq 17, 3) := by decide +kernel
theorem dX5_stepDays_9 : decode cX5_stepDays 9 = .ok (.aload_n 0, 1) := by decide +kernel
theorem dX5_stepDays_10 : decode cX5_stepDays 10 = .ok (.getfield 9, 3) := by decide +kernel
theorem dX5_stepDays_13 : decode cX5_stepDays 13 = .ok (.iload_n 1, 1) := by decide +kernel
theorem dX5_stepDays_14 : decode cX5_stepDays 14 = .ok (.bipush 12, 2) := by decide +kernel
theorem dX5_stepDays_16 : decode cX5_stepDays 16 = .ok (.imul, 1) := by decide +kernel
theorem dX5_stepDays_17 : decode cX5_stepDays 17 = .ok (.iload_n 2, 1) := by decide +kernel
theorem dX5_stepDays_18 : decode cX5_stepDays 18 = .ok (.iadd, 1) := by decide +kernel
theorem dX5_stepDays_19 : decode cX5_stepDays 19 = .ok (.iaload, 1) := by decide +kernel
theorem dX5_stepDays_20 : decode cX5_stepDays 20 = .ok (.goto 5, 3) := by decide +kernel
theorem dX5_stepDays_23 : decode cX5_stepDays 23 = .ok (.ldc 59, 2) := by decide +kernel
theorem dX5_stepDays_25 : decode cX5_stepDays 25 = .ok (.ireturn, 1) := by decide +kernel
theorem dX5_downDays_0 : decode cX5_downDays 0 = .ok (.aload_n 0, 1) := by decide +kernel
theorem dX5_downDays_1 : decode cX5_downDays 1 = .ok (.iload_n 1, 1) := by decide +kernel
theorem dX5_downDays_2 : decode cX5_downDays 2 = .ok (.iload_n 2, 1) := by decide +kernel
theorem dX5_downDays_3 : decode cX5_downDays 3 = .ok (.invokevirtual 84, 3) := by decide +kernel
theorem dX5_downDays_6 : decode cX5_downDays 6 = .ok (.ifCond .eq 17, 3) := by decide +kernel
theorem dX5_downDays_9 : decode cX5_downDays 9 = .ok (.aload_n 0, 1) := by decide +kernel
theorem dX5_downDays_10 : decode cX5_downDays 10 = .ok (.getfield 15, 3) := by decide +kernel
theorem dX5_downDays_13 : decode cX5_downDays 13 = .ok (.iload_n 1, 1) := by decide +kernel
theorem dX5_downDays_14 : decode cX5_downDays 14 = .ok (.bipush 12, 2) := by decide +kernel
theorem dX5_downDays_16 : decode cX5_downDays 16 = .ok (.imul, 1) := by decide +kernel
theorem dX5_downDays_17 : decode cX5_downDays 17 = .ok (.iload_n 2, 1) := by decide +kernel
theorem dX5_downDays_18 : decode cX5_downDays 18 = .ok (.iadd, 1) := by decide +kernel
theorem dX5_downDays_19 : decode cX5_downDays 19 = .ok (.iaload, 1) := by decide +kernel
theorem dX5_downDays_20 : decode cX5_downDays 20 = .ok (.goto 5, 3) := by decide +kernel
theorem dX5_downDays_23 : decode cX5_downDays 23 = .ok (.ldc 59, 2) := by decide +kernel
theorem dX5_downDays_25 : decode cX5_downDays 25 = .ok (.ireturn, 1) := by decide +kernel
theorem dX5_comesDown_0 : decode cX5_comesDown 0 = .ok (.aload_n 0, 1) := by decide +kernel
theorem dX5_comesDown_1 : decode cX5_comesDown 1 = .ok (.iload_n 1, 1) := by decide +kernel
theorem dX5_comesDown_2 : decode cX5_comesDown 2 = .ok (.iload_n 2, 1) := by decide +kernel
theorem dX5_comesDown_3 : decode cX5_comesDown 3 = .ok (.invokevirtual 102, 3) := by decide +kernel
theorem dX5_comesDown_6 : decode cX5_comesDown 6 = .ok (.ldc 59, 2) := by decide +kernel
theorem dX5_comesDown_8 : decode cX5_comesDown 8 = .ok (.if_icmp .ge 7, 3) := by decide +kernel
theorem dX5_comesDown_11 : decode cX5_comesDown 11 = .ok (.iconst 1, 1) := by decide +kernel
theorem dX5_comesDown_12 : decode cX5_comesDown 12 = .ok (.goto 4, 3) := by decide +kernel
theorem dX5_comesDown_15 : decode cX5_comesDown 15 = .ok (.iconst 0, 1) := by decide +kernel
theorem dX5_comesDown_16 : decode cX5_comesDown 16 = .ok (.ireturn, 1) := by decide +kernel
theorem dX5_comes_0 : decode cX5_comes 0 = .ok (.aload_n 0, 1) := by decide +kernel
theorem dX5_comes_1 : decode cX5_comes 1 = .ok (.iload_n 1, 1) := by decide +kernel
theorem dX5_comes_2 : decode cX5_comes 2 = .ok (.iload_n 2, 1) := by decide +kernel
theorem dX5_comes_3 : decode cX5_comes 3 = .ok (.invokevirtual 105, 3) := by decide +kernel
theorem dX5_comes_6 : decode cX5_comes 6 = .ok (.ifCond .ne 34, 3) := by decide +kernel
theorem dX5_comes_9 : decode cX5_comes 9 = .ok (.aload_n 0, 1) := by decide +kernel
theorem dX5_comes_10 : decode cX5_comes 10 = .ok (.getfield 55, 3) := by decide +kernel
theorem dX5_comes_13 : decode cX5_comes 13 = .ok (.ifCond .eq 31, 3) := by decide +kernel
theorem dX5_comes_16 : decode cX5_comes 16 = .ok (.aload_n 0, 1) := by decide +kernel
theorem dX5_comes_17 : decode cX5_comes 17 = .ok (.iload_n 1, 1) := by decide +kernel
theorem dX5_comes_18 : decode cX5_comes 18 = .ok (.aload_n 0, 1) := by decide +kernel
theorem dX5_comes_19 : decode cX5_comes 19 = .ok (.getfield 35, 3) := by decide +kernel
theorem dX5_comes_22 : decode cX5_comes 22 = .ok (.invokevirtual 105, 3) := by decide +kernel
theorem dX5_comes_25 : decode cX5_comes 25 = .ok (.ifCond .eq 19, 3) := by decide +kernel
theorem dX5_comes_28 : decode cX5_comes 28 = .ok (.aload_n 0, 1) := by decide +kernel
theorem dX5_comes_29 : decode cX5_comes 29 = .ok (.aload_n 0, 1) := by decide +kernel
theorem dX5_comes_30 : decode cX5_comes 30 = .ok (.getfield 41, 3) := by decide +kernel
theorem dX5_comes_33 : decode cX5_comes 33 = .ok (.iload_n 2, 1) := by decide +kernel
theorem dX5_comes_34 : decode cX5_comes 34 = .ok (.invokevirtual 105, 3) := by decide +kernel
theorem dX5_comes_37 : decode cX5_comes 37 = .ok (.ifCond .eq 7, 3) := by decide +kernel
theorem dX5_comes_40 : decode cX5_comes 40 = .ok (.iconst 1, 1) := by decide +kernel
theorem dX5_comes_41 : decode cX5_comes 41 = .ok (.goto 4, 3) := by decide +kernel
theorem dX5_comes_44 : decode cX5_comes 44 = .ok (.iconst 0, 1) := by decide +kernel
theorem dX5_comes_45 : decode cX5_comes 45 = .ok (.ireturn, 1) := by decide +kernel
theorem dX5_earliest_0 : decode cX5_earliest 0 = .ok (.aload_n 0, 1) := by decide +kernel
theorem dX5_earliest_1 : decode cX5_earliest 1 = .ok (.iload_n 1, 1) := by decide +kernel
theorem dX5_earliest_2 : decode cX5_earliest 2 = .ok (.iload_n 2, 1) := by decide +kernel
theorem dX5_earliest_3 : decode cX5_earliest 3 = .ok (.invokevirtual 102, 3) := by decide +kernel
theorem dX5_earliest_6 : decode cX5_earliest 6 = .ok (.istore 4, 2) := by decide +kernel
theorem dX5_earliest_8 : decode cX5_earliest 8 = .ok (.iload 4, 2) := by decide +kernel
theorem dX5_earliest_10 : decode cX5_earliest 10 = .ok (.ldc 59, 2) := by decide +kernel
theorem dX5_earliest_12 : decode cX5_earliest 12 = .ok (.if_icmp .ge 10, 3) := by decide +kernel
theorem dX5_earliest_15 : decode cX5_earliest 15 = .ok (.iload_n 3, 1) := by decide +kernel
theorem dX5_earliest_16 : decode cX5_earliest 16 = .ok (.iload 4, 2) := by decide +kernel
theorem dX5_earliest_18 : decode cX5_earliest 18 = .ok (.iadd, 1) := by decide +kernel
theorem dX5_earliest_19 : decode cX5_earliest 19 = .ok (.goto 5, 3) := by decide +kernel
theorem dX5_earliest_22 : decode cX5_earliest 22 = .ok (.ldc 59, 2) := by decide +kernel
theorem dX5_earliest_24 : decode cX5_earliest 24 = .ok (.istore 5, 2) := by decide +kernel
theorem dX5_earliest_26 : decode cX5_earliest 26 = .ok (.aload_n 0, 1) := by decide +kernel
theorem dX5_earliest_27 : decode cX5_earliest 27 = .ok (.iload_n 1, 1) := by decide +kernel
theorem dX5_earliest_28 : decode cX5_earliest 28 = .ok (.aload_n 0, 1) := by decide +kernel
theorem dX5_earliest_29 : decode cX5_earliest 29 = .ok (.getfield 35, 3) := by decide +kernel
theorem dX5_earliest_32 : decode cX5_earliest 32 = .ok (.invokevirtual 102, 3) := by decide +kernel
theorem dX5_earliest_35 : decode cX5_earliest 35 = .ok (.istore 6, 2) := by decide +kernel
theorem dX5_earliest_37 : decode cX5_earliest 37 = .ok (.aload_n 0, 1) := by decide +kernel
theorem dX5_earliest_38 : decode cX5_earliest 38 = .ok (.aload_n 0, 1) := by decide +kernel
theorem dX5_earliest_39 : decode cX5_earliest 39 = .ok (.getfield 41, 3) := by decide +kernel
theorem dX5_earliest_42 : decode cX5_earliest 42 = .ok (.iload_n 2, 1) := by decide +kernel
theorem dX5_earliest_43 : decode cX5_earliest 43 = .ok (.invokevirtual 102, 3) := by decide +kernel
theorem dX5_earliest_46 : decode cX5_earliest 46 = .ok (.istore 7, 2) := by decide +kernel
theorem dX5_earliest_48 : decode cX5_earliest 48 = .ok (.aload_n 0, 1) := by decide +kernel
theorem dX5_earliest_49 : decode cX5_earliest 49 = .ok (.getfield 55, 3) := by decide +kernel
theorem dX5_earliest_52 : decode cX5_earliest 52 = .ok (.ifCond .eq 37, 3) := by decide +kernel
theorem dX5_earliest_55 : decode cX5_earliest 55 = .ok (.iload 6, 2) := by decide +kernel
theorem dX5_earliest_57 : decode cX5_earliest 57 = .ok (.ldc 59, 2) := by decide +kernel
theorem dX5_earliest_59 : decode cX5_earliest 59 = .ok (.if_icmp .ge 30, 3) := by decide +kernel
theorem dX5_earliest_62 : decode cX5_earliest 62 = .ok (.iload 7, 2) := by decide +kernel
theorem dX5_earliest_64 : decode cX5_earliest 64 = .ok (.ldc 59, 2) := by decide +kernel
theorem dX5_earliest_66 : decode cX5_earliest 66 = .ok (.if_icmp .ge 23, 3) := by decide +kernel
theorem dX5_earliest_69 : decode cX5_earliest 69 = .ok (.iload 5, 2) := by decide +kernel
theorem dX5_earliest_71 : decode cX5_earliest 71 = .ok (.aload_n 0, 1) := by decide +kernel
theorem dX5_earliest_72 : decode cX5_earliest 72 = .ok (.iload_n 3, 1) := by decide +kernel
theorem dX5_earliest_73 : decode cX5_earliest 73 = .ok (.iload 6, 2) := by decide +kernel
theorem dX5_earliest_75 : decode cX5_earliest 75 = .ok (.iadd, 1) := by decide +kernel
theorem dX5_earliest_76 : decode cX5_earliest 76 = .ok (.invokevirtual 108, 3) := by decide +kernel
theorem dX5_earliest_79 : decode cX5_earliest 79 = .ok (.iconst 1, 1) := by decide +kernel
theorem dX5_earliest_80 : decode cX5_earliest 80 = .ok (.iadd, 1) := by decide +kernel
theorem dX5_earliest_81 : decode cX5_earliest 81 = .ok (.iload 7, 2) := by decide +kernel
theorem dX5_earliest_83 : decode cX5_earliest 83 = .ok (.iadd, 1) := by decide +kernel
theorem dX5_earliest_84 : decode cX5_earliest 84 = .ok (.invokestatic 24, 3) := by decide +kernel
theorem dX5_earliest_87 : decode cX5_earliest 87 = .ok (.istore 5, 2) := by decide +kernel
theorem dX5_earliest_89 : decode cX5_earliest 89 = .ok (.iload 5, 2) := by decide +kernel
theorem dX5_earliest_91 : decode cX5_earliest 91 = .ok (.ireturn, 1) := by decide +kernel
theorem dX5_flightFrom_0 : decode cX5_flightFrom 0 = .ok (.aload_n 0, 1) := by decide +kernel
theorem dX5_flightFrom_1 : decode cX5_flightFrom 1 = .ok (.getfield 50, 3) := by decide +kernel
theorem dX5_flightFrom_4 : decode cX5_flightFrom 4 = .ok (.ifCond .le 12, 3) := by decide +kernel
theorem dX5_flightFrom_7 : decode cX5_flightFrom 7 = .ok (.iload_n 1, 1) := by decide +kernel
theorem dX5_flightFrom_8 : decode cX5_flightFrom 8 = .ok (.aload_n 0, 1) := by decide +kernel
theorem dX5_flightFrom_9 : decode cX5_flightFrom 9 = .ok (.getfield 50, 3) := by decide +kernel
theorem dX5_flightFrom_12 : decode cX5_flightFrom 12 = .ok (.irem, 1) := by decide +kernel
theorem dX5_flightFrom_13 : decode cX5_flightFrom 13 = .ok (.goto 4, 3) := by decide +kernel
theorem dX5_flightFrom_16 : decode cX5_flightFrom 16 = .ok (.iconst 0, 1) := by decide +kernel
theorem dX5_flightFrom_17 : decode cX5_flightFrom 17 = .ok (.istore_n 2, 1) := by decide +kernel
theorem dX5_flightFrom_18 : decode cX5_flightFrom 18 = .ok (.iload_n 2, 1) := by decide +kernel
theorem dX5_flightFrom_19 : decode cX5_flightFrom 19 = .ok (.ifCond .ne 7, 3) := by decide +kernel
theorem dX5_flightFrom_22 : decode cX5_flightFrom 22 = .ok (.iload_n 1, 1) := by decide +kernel
theorem dX5_flightFrom_23 : decode cX5_flightFrom 23 = .ok (.goto 11, 3) := by decide +kernel
theorem dX5_flightFrom_26 : decode cX5_flightFrom 26 = .ok (.iload_n 1, 1) := by decide +kernel
theorem dX5_flightFrom_27 : decode cX5_flightFrom 27 = .ok (.aload_n 0, 1) := by decide +kernel
theorem dX5_flightFrom_28 : decode cX5_flightFrom 28 = .ok (.getfield 50, 3) := by decide +kernel
theorem dX5_flightFrom_31 : decode cX5_flightFrom 31 = .ok (.iadd, 1) := by decide +kernel
theorem dX5_flightFrom_32 : decode cX5_flightFrom 32 = .ok (.iload_n 2, 1) := by decide +kernel
theorem dX5_flightFrom_33 : decode cX5_flightFrom 33 = .ok (.isub, 1) := by decide +kernel
theorem dX5_flightFrom_34 : decode cX5_flightFrom 34 = .ok (.ireturn, 1) := by decide +kernel
theorem dX5_answered_0 : decode cX5_answered 0 = .ok (.aload_n 0, 1) := by decide +kernel
theorem dX5_answered_1 : decode cX5_answered 1 = .ok (.iload_n 1, 1) := by decide +kernel
theorem dX5_answered_2 : decode cX5_answered 2 = .ok (.iload_n 2, 1) := by decide +kernel
theorem dX5_answered_3 : decode cX5_answered 3 = .ok (.iload_n 3, 1) := by decide +kernel
theorem dX5_answered_4 : decode cX5_answered 4 = .ok (.invokevirtual 112, 3) := by decide +kernel
theorem dX5_answered_7 : decode cX5_answered 7 = .ok (.istore 4, 2) := by decide +kernel
theorem dX5_answered_9 : decode cX5_answered 9 = .ok (.iload 4, 2) := by decide +kernel
theorem dX5_answered_11 : decode cX5_answered 11 = .ok (.ldc 59, 2) := by decide +kernel
theorem dX5_answered_13 : decode cX5_answered 13 = .ok (.if_icmp .lt 8, 3) := by decide +kernel
theorem dX5_answered_16 : decode cX5_answered 16 = .ok (.ldc 59, 2) := by decide +kernel
theorem dX5_answered_18 : decode cX5_answered 18 = .ok (.goto 11, 3) := by decide +kernel
theorem dX5_answered_21 : decode cX5_answered 21 = .ok (.aload_n 0, 1) := by decide +kernel
theorem dX5_answered_22 : decode cX5_answered 22 = .ok (.iload_n 2, 1) := by decide +kernel
theorem dX5_answered_23 : decode cX5_answered 23 = .ok (.iload_n 1, 1) := by decide +kernel
theorem dX5_answered_24 : decode cX5_answered 24 = .ok (.iload 4, 2) := by decide +kernel
theorem dX5_answered_26 : decode cX5_answered 26 = .ok (.invokevirtual 112, 3) := by decide +kernel
theorem dX5_answered_29 : decode cX5_answered 29 = .ok (.ireturn, 1) := by decide +kernel
theorem dX5_allFrom_0 : decode cX5_allFrom 0 = .ok (.iconst 0, 1) := by decide +kernel
theorem dX5_allFrom_1 : decode cX5_allFrom 1 = .ok (.istore_n 2, 1) := by decide +kernel
theorem dX5_allFrom_2 : decode cX5_allFrom 2 = .ok (.iconst 0, 1) := by decide +kernel
theorem dX5_allFrom_3 : decode cX5_allFrom 3 = .ok (.istore_n 3, 1) := by decide +kernel
theorem dX5_allFrom_4 : decode cX5_allFrom 4 = .ok (.iload_n 3, 1) := by decide +kernel
theorem dX5_allFrom_5 : decode cX5_allFrom 5 = .ok (.aload_n 0, 1) := by decide +kernel
theorem dX5_allFrom_6 : decode cX5_allFrom 6 = .ok (.getfield 30, 3) := by decide +kernel
theorem dX5_allFrom_9 : decode cX5_allFrom 9 = .ok (.if_icmp .ge 24, 3) := by decide +kernel
theorem dX5_allFrom_12 : decode cX5_allFrom 12 = .ok (.aload_n 0, 1) := by decide +kernel
theorem dX5_allFrom_13 : decode cX5_allFrom 13 = .ok (.iload_n 1, 1) := by decide +kernel
theorem dX5_allFrom_14 : decode cX5_allFrom 14 = .ok (.iload_n 3, 1) := by decide +kernel
theorem dX5_allFrom_15 : decode cX5_allFrom 15 = .ok (.invokevirtual 116, 3) := by decide +kernel
theorem dX5_allFrom_18 : decode cX5_allFrom 18 = .ok (.ifCond .eq 9, 3) := by decide +kernel
theorem dX5_allFrom_21 : decode cX5_allFrom 21 = .ok (.iload_n 2, 1) := by decide +kernel
theorem dX5_allFrom_22 : decode cX5_allFrom 22 = .ok (.iconst 1, 1) := by decide +kernel
theorem dX5_allFrom_23 : decode cX5_allFrom 23 = .ok (.iload_n 3, 1) := by decide +kernel
theorem dX5_allFrom_24 : decode cX5_allFrom 24 = .ok (.ishl, 1) := by decide +kernel
theorem dX5_allFrom_25 : decode cX5_allFrom 25 = .ok (.ior, 1) := by decide +kernel
theorem dX5_allFrom_26 : decode cX5_allFrom 26 = .ok (.istore_n 2, 1) := by decide +kernel
theorem dX5_allFrom_27 : decode cX5_allFrom 27 = .ok (.iinc 3 1, 3) := by decide +kernel
theorem dX5_allFrom_30 : decode cX5_allFrom 30 = .ok (.goto (-26), 3) := by decide +kernel
theorem dX5_allFrom_33 : decode cX5_allFrom 33 = .ok (.iload_n 2, 1) := by decide +kernel
theorem dX5_allFrom_34 : decode cX5_allFrom 34 = .ok (.ireturn, 1) := by decide +kernel
theorem dX5_allInto_0 : decode cX5_allInto 0 = .ok (.iconst 0, 1) := by decide +kernel
theorem dX5_allInto_1 : decode cX5_allInto 1 = .ok (.istore_n 2, 1) := by decide +kernel
theorem dX5_allInto_2 : decode cX5_allInto 2 = .ok (.iconst 0, 1) := by decide +kernel
theorem dX5_allInto_3 : decode cX5_allInto 3 = .ok (.istore_n 3, 1) := by decide +kernel
theorem dX5_allInto_4 : decode cX5_allInto 4 = .ok (.iload_n 3, 1) := by decide +kernel
theorem dX5_allInto_5 : decode cX5_allInto 5 = .ok (.aload_n 0, 1) := by decide +kernel
theorem dX5_allInto_6 : decode cX5_allInto 6 = .ok (.getfield 30, 3) := by decide +kernel
theorem dX5_allInto_9 : decode cX5_allInto 9 = .ok (.if_icmp .ge 24, 3) := by decide +kernel
theorem dX5_allInto_12 : decode cX5_allInto 12 = .ok (.aload_n 0, 1) := by decide +kernel
theorem dX5_allInto_13 : decode cX5_allInto 13 = .ok (.iload_n 3, 1) := by decide +kernel
theorem dX5_allInto_14 : decode cX5_allInto 14 = .ok (.iload_n 1, 1) := by decide +kernel
theorem dX5_allInto_15 : decode cX5_allInto 15 = .ok (.invokevirtual 116, 3) := by decide +kernel
theorem dX5_allInto_18 : decode cX5_allInto 18 = .ok (.ifCond .eq 9, 3) := by decide +kernel
theorem dX5_allInto_21 : decode cX5_allInto 21 = .ok (.iload_n 2, 1) := by decide +kernel
theorem dX5_allInto_22 : decode cX5_allInto 22 = .ok (.iconst 1, 1) := by decide +kernel
theorem dX5_allInto_23 : decode cX5_allInto 23 = .ok (.iload_n 3, 1) := by decide +kernel
theorem dX5_allInto_24 : decode cX5_allInto 24 = .ok (.ishl, 1) := by decide +kernel
theorem dX5_allInto_25 : decode cX5_allInto 25 = .ok (.ior, 1) := by decide +kernel
theorem dX5_allInto_26 : decode cX5_allInto 26 = .ok (.istore_n 2, 1) := by decide +kernel
theorem dX5_allInto_27 : decode cX5_allInto 27 = .ok (.iinc 3 1, 3) := by decide +kernel
theorem dX5_allInto_30 : decode cX5_allInto 30 = .ok (.goto (-26), 3) := by decide +kernel
theorem dX5_allInto_33 : decode cX5_allInto 33 = .ok (.iload_n 2, 1) := by decide +kernel
theorem dX5_allInto_34 : decode cX5_allInto 34 = .ok (.ireturn, 1) := by decide +kernel
theorem dX5_allDownFrom_0 : decode cX5_allDownFrom 0 = .ok (.iconst 0, 1) := by decide +kernel
theorem dX5_allDownFrom_1 : decode cX5_allDownFrom 1 = .ok (.istore_n 2, 1) := by decide +kernel
theorem dX5_allDownFrom_2 : decode cX5_allDownFrom 2 = .ok (.iconst 0, 1) := by decide +kernel
theorem dX5_allDownFrom_3 : decode cX5_allDownFrom 3 = .ok (.istore_n 3, 1) := by decide +kernel
theorem dX5_allDownFrom_4 : decode cX5_allDownFrom 4 = .ok (.iload_n 3, 1) := by decide +kernel
theorem dX5_allDownFrom_5 : decode cX5_allDownFrom 5 = .ok (.aload_n 0, 1) := by decide +kernel
theorem dX5_allDownFrom_6 : decode cX5_allDownFrom 6 = .ok (.getfield 30, 3) := by decide +kernel
theorem dX5_allDownFrom_9 : decode cX5_allDownFrom 9 = .ok (.if_icmp .ge 24, 3) := by decide +kernel
theorem dX5_allDownFrom_12 : decode cX5_allDownFrom 12 = .ok (.aload_n 0, 1) := by decide +kernel
theorem dX5_allDownFrom_13 : decode cX5_allDownFrom 13 = .ok (.iload_n 1, 1) := by decide +kernel
theorem dX5_allDownFrom_14 : decode cX5_allDownFrom 14 = .ok (.iload_n 3, 1) := by decide +kernel
theorem dX5_allDownFrom_15 : decode cX5_allDownFrom 15 = .ok (.invokevirtual 105, 3) := by decide +kernel
theorem dX5_allDownFrom_18 : decode cX5_allDownFrom 18 = .ok (.ifCond .eq 9, 3) := by decide +kernel
theorem dX5_allDownFrom_21 : decode cX5_allDownFrom 21 = .ok (.iload_n 2, 1) := by decide +kernel
theorem dX5_allDownFrom_22 : decode cX5_allDownFrom 22 = .ok (.iconst 1, 1) := by decide +kernel
theorem dX5_allDownFrom_23 : decode cX5_allDownFrom 23 = .ok (.iload_n 3, 1) := by decide +kernel
theorem dX5_allDownFrom_24 : decode cX5_allDownFrom 24 = .ok (.ishl, 1) := by decide +kernel
theorem dX5_allDownFrom_25 : decode cX5_allDownFrom 25 = .ok (.ior, 1) := by decide +kernel
theorem dX5_allDownFrom_26 : decode cX5_allDownFrom 26 = .ok (.istore_n 2, 1) := by decide +kernel
theorem dX5_allDownFrom_27 : decode cX5_allDownFrom 27 = .ok (.iinc 3 1, 3) := by decide +kernel
theorem dX5_allDownFrom_30 : decode cX5_allDownFrom 30 = .ok (.goto (-26), 3) := by decide +kernel
theorem dX5_allDownFrom_33 : decode cX5_allDownFrom 33 = .ok (.iload_n 2, 1) := by decide +kernel
theorem dX5_allDownFrom_34 : decode cX5_allDownFrom 34 = .ok (.ireturn, 1) := by decide +kernel
theorem dX5_bestHome_0 : decode cX5_bestHome 0 = .ok (.iconst (-1), 1) := by decide +kernel
theorem dX5_bestHome_1 : decode cX5_bestHome 1 = .ok (.istore_n 3, 1) := by decide +kernel
theorem dX5_bestHome_2 : decode cX5_bestHome 2 = .ok (.ldc 59, 2) := by decide +kernel
theorem dX5_bestHome_4 : decode cX5_bestHome 4 = .ok (.istore 4, 2) := by decide +kernel
theorem dX5_bestHome_6 : decode cX5_bestHome 6 = .ok (.iconst 0, 1) := by decide +kernel
theorem dX5_bestHome_7 : decode cX5_bestHome 7 = .ok (.istore 5, 2) := by decide +kernel
theorem dX5_bestHome_9 : decode cX5_bestHome 9 = .ok (.iload 5, 2) := by decide +kernel
theorem dX5_bestHome_11 : decode cX5_bestHome 11 = .ok (.aload_n 0, 1) := by decide +kernel
theorem dX5_bestHome_12 : decode cX5_bestHome 12 = .ok (.getfield 30, 3) := by decide +kernel
theorem dX5_bestHome_15 : decode cX5_bestHome 15 = .ok (.if_icmp .ge 33, 3) := by decide +kernel
theorem dX5_bestHome_18 : decode cX5_bestHome 18 = .ok (.aload_n 0, 1) := by decide +kernel
theorem dX5_bestHome_19 : decode cX5_bestHome 19 = .ok (.iload 5, 2) := by decide +kernel
theorem dX5_bestHome_21 : decode cX5_bestHome 21 = .ok (.iload_n 1, 1) := by decide +kernel
theorem dX5_bestHome_22 : decode cX5_bestHome 22 = .ok (.iload_n 2, 1) := by decide +kernel
theorem dX5_bestHome_23 : decode cX5_bestHome 23 = .ok (.invokevirtual 119, 3) := by decide +kernel
theorem dX5_bestHome_26 : decode cX5_bestHome 26 = .ok (.istore 6, 2) := by decide +kernel
theorem dX5_bestHome_28 : decode cX5_bestHome 28 = .ok (.iload 6, 2) := by decide +kernel
theorem dX5_bestHome_30 : decode cX5_bestHome 30 = .ok (.iload 4, 2) := by decide +kernel
theorem dX5_bestHome_32 : decode cX5_bestHome 32 = .ok (.if_icmp .ge 10, 3) := by decide +kernel
theorem dX5_bestHome_35 : decode cX5_bestHome 35 = .ok (.iload 5, 2) := by decide +kernel
theorem dX5_bestHome_37 : decode cX5_bestHome 37 = .ok (.istore_n 3, 1) := by decide +kernel
theorem dX5_bestHome_38 : decode cX5_bestHome 38 = .ok (.iload 6, 2) := by decide +kernel
theorem dX5_bestHome_40 : decode cX5_bestHome 40 = .ok (.istore 4, 2) := by decide +kernel
theorem dX5_bestHome_42 : decode cX5_bestHome 42 = .ok (.iinc 5 1, 3) := by decide +kernel
theorem dX5_bestHome_45 : decode cX5_bestHome 45 = .ok (.goto (-36), 3) := by decide +kernel
theorem dX5_bestHome_48 : decode cX5_bestHome 48 = .ok (.iload_n 3, 1) := by decide +kernel
theorem dX5_bestHome_49 : decode cX5_bestHome 49 = .ok (.ireturn, 1) := by decide +kernel
theorem dX5_lastAnswer_0 : decode cX5_lastAnswer 0 = .ok (.iload_n 3, 1) := by decide +kernel
theorem dX5_lastAnswer_1 : decode cX5_lastAnswer 1 = .ok (.istore 4, 2) := by decide +kernel
theorem dX5_lastAnswer_3 : decode cX5_lastAnswer 3 = .ok (.iconst 0, 1) := by decide +kernel
theorem dX5_lastAnswer_4 : decode cX5_lastAnswer 4 = .ok (.istore 5, 2) := by decide +kernel
theorem dX5_lastAnswer_6 : decode cX5_lastAnswer 6 = .ok (.iload 5, 2) := by decide +kernel
theorem dX5_lastAnswer_8 : decode cX5_lastAnswer 8 = .ok (.aload_n 0, 1) := by decide +kernel
theorem dX5_lastAnswer_9 : decode cX5_lastAnswer 9 = .ok (.getfield 30, 3) := by decide +kernel
theorem dX5_lastAnswer_12 : decode cX5_lastAnswer 12 = .ok (.if_icmp .ge 34, 3) := by decide +kernel
theorem dX5_lastAnswer_15 : decode cX5_lastAnswer 15 = .ok (.iload_n 2, 1) := by decide +kernel
theorem dX5_lastAnswer_16 : decode cX5_lastAnswer 16 = .ok (.iload 5, 2) := by decide +kernel
theorem dX5_lastAnswer_18 : decode cX5_lastAnswer 18 = .ok (.ishr, 1) := by decide +kernel
theorem dX5_lastAnswer_19 : decode cX5_lastAnswer 19 = .ok (.iconst 1, 1) := by decide +kernel
theorem dX5_lastAnswer_20 : decode cX5_lastAnswer 20 = .ok (.iand, 1) := by decide +kernel
theorem dX5_lastAnswer_21 : decode cX5_lastAnswer 21 = .ok (.iconst 1, 1) := by decide +kernel
theorem dX5_lastAnswer_22 : decode cX5_lastAnswer 22 = .ok (.if_icmp .ne 18, 3) := by decide +kernel
theorem dX5_lastAnswer_25 : decode cX5_lastAnswer 25 = .ok (.iload 4, 2) := by decide +kernel
theorem dX5_lastAnswer_27 : decode cX5_lastAnswer 27 = .ok (.aload_n 0, 1) := by decide +kernel
theorem dX5_lastAnswer_28 : decode cX5_lastAnswer 28 = .ok (.iload_n 1, 1) := by decide +kernel
theorem dX5_lastAnswer_29 : decode cX5_lastAnswer 29 = .ok (.iload 5, 2) := by decide +kernel
theorem dX5_lastAnswer_31 : decode cX5_lastAnswer 31 = .ok (.iload_n 3, 1) := by decide +kernel
theorem dX5_lastAnswer_32 : decode cX5_lastAnswer 32 = .ok (.invokevirtual 122, 3) := by decide +kernel
theorem dX5_lastAnswer_35 : decode cX5_lastAnswer 35 = .ok (.invokestatic 47, 3) := by decide +kernel
theorem dX5_lastAnswer_38 : decode cX5_lastAnswer 38 = .ok (.istore 4, 2) := by decide +kernel
theorem dX5_lastAnswer_40 : decode cX5_lastAnswer 40 = .ok (.iinc 5 1, 3) := by decide +kernel
theorem dX5_lastAnswer_43 : decode cX5_lastAnswer 43 = .ok (.goto (-37), 3) := by decide +kernel
theorem dX5_lastAnswer_46 : decode cX5_lastAnswer 46 = .ok (.iload 4, 2) := by decide +kernel
theorem dX5_lastAnswer_48 : decode cX5_lastAnswer 48 = .ok (.ireturn, 1) := by decide +kernel
theorem dX5_silentPairs_0 : decode cX5_silentPairs 0 = .ok (.iconst 0, 1) := by decide +kernel
theorem dX5_silentPairs_1 : decode cX5_silentPairs 1 = .ok (.istore_n 1, 1) := by decide +kernel
theorem dX5_silentPairs_2 : decode cX5_silentPairs 2 = .ok (.iconst 0, 1) := by decide +kernel
theorem dX5_silentPairs_3 : decode cX5_silentPairs 3 = .ok (.istore_n 2, 1) := by decide +kernel
theorem dX5_silentPairs_4 : decode cX5_silentPairs 4 = .ok (.iload_n 2, 1) := by decide +kernel
theorem dX5_silentPairs_5 : decode cX5_silentPairs 5 = .ok (.aload_n 0, 1) := by decide +kernel
theorem dX5_silentPairs_6 : decode cX5_silentPairs 6 = .ok (.getfield 30, 3) := by decide +kernel
theorem dX5_silentPairs_9 : decode cX5_silentPairs 9 = .ok (.if_icmp .ge 48, 3) := by decide +kernel
theorem dX5_silentPairs_12 : decode cX5_silentPairs 12 = .ok (.iload_n 2, 1) := by decide +kernel
theorem dX5_silentPairs_13 : decode cX5_silentPairs 13 = .ok (.iconst 1, 1) := by decide +kernel
theorem dX5_silentPairs_14 : decode cX5_silentPairs 14 = .ok (.iadd, 1) := by decide +kernel
theorem dX5_silentPairs_15 : decode cX5_silentPairs 15 = .ok (.istore_n 3, 1) := by decide +kernel
theorem dX5_silentPairs_16 : decode cX5_silentPairs 16 = .ok (.iload_n 3, 1) := by decide +kernel
theorem dX5_silentPairs_17 : decode cX5_silentPairs 17 = .ok (.aload_n 0, 1) := by decide +kernel
theorem dX5_silentPairs_18 : decode cX5_silentPairs 18 = .ok (.getfield 30, 3) := by decide +kernel
theorem dX5_silentPairs_21 : decode cX5_silentPairs 21 = .ok (.if_icmp .ge 30, 3) := by decide +kernel
theorem dX5_silentPairs_24 : decode cX5_silentPairs 24 = .ok (.aload_n 0, 1) := by decide +kernel
theorem dX5_silentPairs_25 : decode cX5_silentPairs 25 = .ok (.iload_n 2, 1) := by decide +kernel
theorem dX5_silentPairs_26 : decode cX5_silentPairs 26 = .ok (.iload_n 3, 1) := by decide +kernel
theorem dX5_silentPairs_27 : decode cX5_silentPairs 27 = .ok (.invokevirtual 116, 3) := by decide +kernel
theorem dX5_silentPairs_30 : decode cX5_silentPairs 30 = .ok (.ifCond .ne 15, 3) := by decide +kernel
theorem dX5_silentPairs_33 : decode cX5_silentPairs 33 = .ok (.aload_n 0, 1) := by decide +kernel
theorem dX5_silentPairs_34 : decode cX5_silentPairs 34 = .ok (.iload_n 3, 1) := by decide +kernel
theorem dX5_silentPairs_35 : decode cX5_silentPairs 35 = .ok (.iload_n 2, 1) := by decide +kernel
theorem dX5_silentPairs_36 : decode cX5_silentPairs 36 = .ok (.invokevirtual 116, 3) := by decide +kernel
theorem dX5_silentPairs_39 : decode cX5_silentPairs 39 = .ok (.ifCond .ne 6, 3) := by decide +kernel
theorem dX5_silentPairs_42 : decode cX5_silentPairs 42 = .ok (.iinc 1 1, 3) := by decide +kernel
theorem dX5_silentPairs_45 : decode cX5_silentPairs 45 = .ok (.iinc 3 1, 3) := by decide +kernel
theorem dX5_silentPairs_48 : decode cX5_silentPairs 48 = .ok (.goto (-32), 3) := by decide +kernel
theorem dX5_silentPairs_51 : decode cX5_silentPairs 51 = .ok (.iinc 2 1, 3) := by decide +kernel
theorem dX5_silentPairs_54 : decode cX5_silentPairs 54 = .ok (.goto (-50), 3) := by decide +kernel
theorem dX5_silentPairs_57 : decode cX5_silentPairs 57 = .ok (.iload_n 1, 1) := by decide +kernel
theorem dX5_silentPairs_58 : decode cX5_silentPairs 58 = .ok (.ireturn, 1) := by decide +kernel
theorem dX5_lookAhead_0 : decode cX5_lookAhead 0 = .ok (.aload_n 0, 1) := by decide +kernel
theorem dX5_lookAhead_1 : decode cX5_lookAhead 1 = .ok (.iconst (-1), 1) := by decide +kernel
theorem dX5_lookAhead_2 : decode cX5_lookAhead 2 = .ok (.putfield 125, 3) := by decide +kernel
theorem dX5_lookAhead_5 : decode cX5_lookAhead 5 = .ok (.aload_n 0, 1) := by decide +kernel
theorem dX5_lookAhead_6 : decode cX5_lookAhead 6 = .ok (.iconst 0, 1) := by decide +kernel
theorem dX5_lookAhead_7 : decode cX5_lookAhead 7 = .ok (.putfield 128, 3) := by decide +kernel
theorem dX5_lookAhead_10 : decode cX5_lookAhead 10 = .ok (.iload_n 1, 1) := by decide +kernel
theorem dX5_lookAhead_11 : decode cX5_lookAhead 11 = .ok (.iload_n 2, 1) := by decide +kernel
theorem dX5_lookAhead_12 : decode cX5_lookAhead 12 = .ok (.if_icmp .ne 8, 3) := by decide +kernel
theorem dX5_lookAhead_15 : decode cX5_lookAhead 15 = .ok (.ldc 59, 2) := by decide +kernel
theorem dX5_lookAhead_17 : decode cX5_lookAhead 17 = .ok (.goto 10, 3) := by decide +kernel
theorem dX5_lookAhead_20 : decode cX5_lookAhead 20 = .ok (.aload_n 0, 1) := by decide +kernel
theorem dX5_lookAhead_21 : decode cX5_lookAhead 21 = .ok (.iload_n 1, 1) := by decide +kernel
theorem dX5_lookAhead_22 : decode cX5_lookAhead 22 = .ok (.iload_n 2, 1) := by decide +kernel
theorem dX5_lookAhead_23 : decode cX5_lookAhead 23 = .ok (.iload_n 3, 1) := by decide +kernel
theorem dX5_lookAhead_24 : decode cX5_lookAhead 24 = .ok (.invokevirtual 112, 3) := by decide +kernel
theorem dX5_lookAhead_27 : decode cX5_lookAhead 27 = .ok (.istore 4, 2) := by decide +kernel
theorem dX5_lookAhead_29 : decode cX5_lookAhead 29 = .ok (.iload 4, 2) := by decide +kernel
theorem dX5_lookAhead_31 : decode cX5_lookAhead 31 = .ok (.ldc 59, 2) := by decide +kernel
theorem dX5_lookAhead_33 : decode cX5_lookAhead 33 = .ok (.if_icmp .lt 4, 3) := by decide +kernel
theorem dX5_lookAhead_36 : decode cX5_lookAhead 36 = .ok (.return_, 1) := by decide +kernel
theorem dX5_lookAhead_37 : decode cX5_lookAhead 37 = .ok (.iconst 0, 1) := by decide +kernel
theorem dX5_lookAhead_38 : decode cX5_lookAhead 38 = .ok (.istore 5, 2) := by decide +kernel
theorem dX5_lookAhead_40 : decode cX5_lookAhead 40 = .ok (.iload 5, 2) := by decide +kernel
theorem dX5_lookAhead_42 : decode cX5_lookAhead 42 = .ok (.aload_n 0, 1) := by decide +kernel
theorem dX5_lookAhead_43 : decode cX5_lookAhead 43 = .ok (.getfield 30, 3) := by decide +kernel
theorem dX5_lookAhead_46 : decode cX5_lookAhead 46 = .ok (.if_icmp .ge 61, 3) := by decide +kernel
theorem dX5_lookAhead_49 : decode cX5_lookAhead 49 = .ok (.aload_n 0, 1) := by decide +kernel
theorem dX5_lookAhead_50 : decode cX5_lookAhead 50 = .ok (.getfield 125, 3) := by decide +kernel
theorem dX5_lookAhead_53 : decode cX5_lookAhead 53 = .ok (.ifCond .ge 54, 3) := by decide +kernel
theorem dX5_lookAhead_56 : decode cX5_lookAhead 56 = .ok (.aload_n 0, 1) := by decide +kernel
theorem dX5_lookAhead_57 : decode cX5_lookAhead 57 = .ok (.iload 5, 2) := by decide +kernel
theorem dX5_lookAhead_59 : decode cX5_lookAhead 59 = .ok (.iload_n 1, 1) := by decide +kernel
theorem dX5_lookAhead_60 : decode cX5_lookAhead 60 = .ok (.iload_n 3, 1) := by decide +kernel
theorem dX5_lookAhead_61 : decode cX5_lookAhead 61 = .ok (.invokevirtual 131, 3) := by decide +kernel
theorem dX5_lookAhead_64 : decode cX5_lookAhead 64 = .ok (.istore 6, 2) := by decide +kernel
theorem dX5_lookAhead_66 : decode cX5_lookAhead 66 = .ok (.iload 6, 2) := by decide +kernel
theorem dX5_lookAhead_68 : decode cX5_lookAhead 68 = .ok (.ldc 59, 2) := by decide +kernel
theorem dX5_lookAhead_70 : decode cX5_lookAhead 70 = .ok (.if_icmp .ge 31, 3) := by decide +kernel
theorem dX5_lookAhead_73 : decode cX5_lookAhead 73 = .ok (.aload_n 0, 1) := by decide +kernel
theorem dX5_lookAhead_74 : decode cX5_lookAhead 74 = .ok (.iload 5, 2) := by decide +kernel
theorem dX5_lookAhead_76 : decode cX5_lookAhead 76 = .ok (.iload_n 2, 1) := by decide +kernel
theorem dX5_lookAhead_77 : decode cX5_lookAhead 77 = .ok (.iload_n 3, 1) := by decide +kernel
theorem dX5_lookAhead_78 : decode cX5_lookAhead 78 = .ok (.iload 6, 2) := by decide +kernel
theorem dX5_lookAhead_80 : decode cX5_lookAhead 80 = .ok (.iadd, 1) := by decide +kernel
theorem dX5_lookAhead_81 : decode cX5_lookAhead 81 = .ok (.invokevirtual 112, 3) := by decide +kernel
theorem dX5_lookAhead_84 : decode cX5_lookAhead 84 = .ok (.iload 4, 2) := by decide +kernel
theorem dX5_lookAhead_86 : decode cX5_lookAhead 86 = .ok (.if_icmp .ne 15, 3) := by decide +kernel
theorem dX5_lookAhead_89 : decode cX5_lookAhead 89 = .ok (.aload_n 0, 1) := by decide +kernel
theorem dX5_lookAhead_90 : decode cX5_lookAhead 90 = .ok (.iload 5, 2) := by decide +kernel
theorem dX5_lookAhead_92 : decode cX5_lookAhead 92 = .ok (.putfield 125, 3) := by decide +kernel
theorem dX5_lookAhead_95 : decode cX5_lookAhead 95 = .ok (.aload_n 0, 1) := by decide +kernel
theorem dX5_lookAhead_96 : decode cX5_lookAhead 96 = .ok (.iload 6, 2) := by decide +kernel
theorem dX5_lookAhead_98 : decode cX5_lookAhead 98 = .ok (.putfield 128, 3) := by decide +kernel
theorem dX5_lookAhead_101 : decode cX5_lookAhead 101 = .ok (.iinc 5 1, 3) := by decide +kernel
theorem dX5_lookAhead_104 : decode cX5_lookAhead 104 = .ok (.goto (-64), 3) := by decide +kernel
theorem dX5_lookAhead_107 : decode cX5_lookAhead 107 = .ok (.return_, 1) := by decide +kernel
theorem dX5_daysInto_0 : decode cX5_daysInto 0 = .ok (.aload_n 0, 1) := by decide +kernel
theorem dX5_daysInto_1 : decode cX5_daysInto 1 = .ok (.getfield 55, 3) := by decide +kernel
theorem dX5_daysInto_4 : decode cX5_daysInto 4 = .ok (.ifCond .eq 43, 3) := by decide +kernel
theorem dX5_daysInto_7 : decode cX5_daysInto 7 = .ok (.iload_n 2, 1) := by decide +kernel
theorem dX5_daysInto_8 : decode cX5_daysInto 8 = .ok (.aload_n 0, 1) := by decide +kernel
theorem dX5_daysInto_9 : decode cX5_daysInto 9 = .ok (.getfield 35, 3) := by decide +kernel
theorem dX5_daysInto_12 : decode cX5_daysInto 12 = .ok (.if_icmp .ne 35, 3) := by decide +kernel
theorem dX5_daysInto_15 : decode cX5_daysInto 15 = .ok (.iload_n 1, 1) := by decide +kernel
theorem dX5_daysInto_16 : decode cX5_daysInto 16 = .ok (.aload_n 0, 1) := by decide +kernel
theorem dX5_daysInto_17 : decode cX5_daysInto 17 = .ok (.getfield 41, 3) := by decide +kernel
theorem dX5_daysInto_20 : decode cX5_daysInto 20 = .ok (.if_icmp .ne 27, 3) := by decide +kernel
theorem dX5_daysInto_23 : decode cX5_daysInto 23 = .ok (.aload_n 0, 1) := by decide +kernel
theorem dX5_daysInto_24 : decode cX5_daysInto 24 = .ok (.getfield 35, 3) := by decide +kernel
theorem dX5_daysInto_27 : decode cX5_daysInto 27 = .ok (.aload_n 0, 1) := by decide +kernel
theorem dX5_daysInto_28 : decode cX5_daysInto 28 = .ok (.getfield 41, 3) := by decide +kernel
theorem dX5_daysInto_31 : decode cX5_daysInto 31 = .ok (.if_icmp .eq 16, 3) := by decide +kernel
theorem dX5_daysInto_34 : decode cX5_daysInto 34 = .ok (.aload_n 0, 1) := by decide +kernel
theorem dX5_daysInto_35 : decode cX5_daysInto 35 = .ok (.iload_n 3, 1) := by decide +kernel
theorem dX5_daysInto_36 : decode cX5_daysInto 36 = .ok (.invokevirtual 108, 3) := by decide +kernel
theorem dX5_daysInto_39 : decode cX5_daysInto 39 = .ok (.iload_n 3, 1) := by decide +kernel
theorem dX5_daysInto_40 : decode cX5_daysInto 40 = .ok (.if_icmp .ne 7, 3) := by decide +kernel
theorem dX5_daysInto_43 : decode cX5_daysInto 43 = .ok (.iconst 1, 1) := by decide +kernel
theorem dX5_daysInto_44 : decode cX5_daysInto 44 = .ok (.goto 4, 3) := by decide +kernel
theorem dX5_daysInto_47 : decode cX5_daysInto 47 = .ok (.iconst 0, 1) := by decide +kernel
theorem dX5_daysInto_48 : decode cX5_daysInto 48 = .ok (.istore 4, 2) := by decide +kernel
theorem dX5_daysInto_50 : decode cX5_daysInto 50 = .ok (.iload 4, 2) := by decide +kernel
theorem dX5_daysInto_52 : decode cX5_daysInto 52 = .ok (.ifCond .eq 7, 3) := by decide +kernel
theorem dX5_daysInto_55 : decode cX5_daysInto 55 = .ok (.iconst 1, 1) := by decide +kernel
theorem dX5_daysInto_56 : decode cX5_daysInto 56 = .ok (.goto 9, 3) := by decide +kernel
theorem dX5_daysInto_59 : decode cX5_daysInto 59 = .ok (.aload_n 0, 1) := by decide +kernel
theorem dX5_daysInto_60 : decode cX5_daysInto 60 = .ok (.iload_n 2, 1) := by decide +kernel
theorem dX5_daysInto_61 : decode cX5_daysInto 61 = .ok (.iload_n 1, 1) := by decide +kernel
theorem dX5_daysInto_62 : decode cX5_daysInto 62 = .ok (.invokevirtual 134, 3) := by decide +kernel
theorem dX5_daysInto_65 : decode cX5_daysInto 65 = .ok (.ireturn, 1) := by decide +kernel
theorem dJ6_bitCount_0f7a4_0 : decode cJ6_bitCount_0f7a4 0 = .ok (.iload_n 0, 1) := by decide +kernel
theorem dJ6_bitCount_0f7a4_1 : decode cJ6_bitCount_0f7a4 1 = .ok (.iload_n 0, 1) := by decide +kernel
theorem dJ6_bitCount_0f7a4_2 : decode cJ6_bitCount_0f7a4 2 = .ok (.iconst 1, 1) := by decide +kernel
theorem dJ6_bitCount_0f7a4_3 : decode cJ6_bitCount_0f7a4 3 = .ok (.iushr, 1) := by decide +kernel
theorem dJ6_bitCount_0f7a4_4 : decode cJ6_bitCount_0f7a4 4 = .ok (.ldc_w 265, 3) := by decide +kernel
theorem dJ6_bitCount_0f7a4_7 : decode cJ6_bitCount_0f7a4 7 = .ok (.iand, 1) := by decide +kernel
theorem dJ6_bitCount_0f7a4_8 : decode cJ6_bitCount_0f7a4 8 = .ok (.isub, 1) := by decide +kernel
theorem dJ6_bitCount_0f7a4_9 : decode cJ6_bitCount_0f7a4 9 = .ok (.istore_n 0, 1) := by decide +kernel
theorem dJ6_bitCount_0f7a4_10 : decode cJ6_bitCount_0f7a4 10 = .ok (.iload_n 0, 1) := by decide +kernel
theorem dJ6_bitCount_0f7a4_11 : decode cJ6_bitCount_0f7a4 11 = .ok (.ldc_w 266, 3) := by decide +kernel
theorem dJ6_bitCount_0f7a4_14 : decode cJ6_bitCount_0f7a4 14 = .ok (.iand, 1) := by decide +kernel
theorem dJ6_bitCount_0f7a4_15 : decode cJ6_bitCount_0f7a4 15 = .ok (.iload_n 0, 1) := by decide +kernel
theorem dJ6_bitCount_0f7a4_16 : decode cJ6_bitCount_0f7a4 16 = .ok (.iconst 2, 1) := by decide +kernel
theorem dJ6_bitCount_0f7a4_17 : decode cJ6_bitCount_0f7a4 17 = .ok (.iushr, 1) := by decide +kernel
theorem dJ6_bitCount_0f7a4_18 : decode cJ6_bitCount_0f7a4 18 = .ok (.ldc_w 266, 3) := by decide +kernel
theorem dJ6_bitCount_0f7a4_21 : decode cJ6_bitCount_0f7a4 21 = .ok (.iand, 1) := by decide +kernel
theorem dJ6_bitCount_0f7a4_22 : decode cJ6_bitCount_0f7a4 22 = .ok (.iadd, 1) := by decide +kernel
theorem dJ6_bitCount_0f7a4_23 : decode cJ6_bitCount_0f7a4 23 = .ok (.istore_n 0, 1) := by decide +kernel
theorem dJ6_bitCount_0f7a4_24 : decode cJ6_bitCount_0f7a4 24 = .ok (.iload_n 0, 1) := by decide +kernel
theorem dJ6_bitCount_0f7a4_25 : decode cJ6_bitCount_0f7a4 25 = .ok (.iload_n 0, 1) := by decide +kernel
theorem dJ6_bitCount_0f7a4_26 : decode cJ6_bitCount_0f7a4 26 = .ok (.iconst 4, 1) := by decide +kernel
theorem dJ6_bitCount_0f7a4_27 : decode cJ6_bitCount_0f7a4 27 = .ok (.iushr, 1) := by decide +kernel
theorem dJ6_bitCount_0f7a4_28 : decode cJ6_bitCount_0f7a4 28 = .ok (.iadd, 1) := by decide +kernel
theorem dJ6_bitCount_0f7a4_29 : decode cJ6_bitCount_0f7a4 29 = .ok (.ldc_w 267, 3) := by decide +kernel
theorem dJ6_bitCount_0f7a4_32 : decode cJ6_bitCount_0f7a4 32 = .ok (.iand, 1) := by decide +kernel
theorem dJ6_bitCount_0f7a4_33 : decode cJ6_bitCount_0f7a4 33 = .ok (.istore_n 0, 1) := by decide +kernel
theorem dJ6_bitCount_0f7a4_34 : decode cJ6_bitCount_0f7a4 34 = .ok (.iload_n 0, 1) := by decide +kernel
theorem dJ6_bitCount_0f7a4_35 : decode cJ6_bitCount_0f7a4 35 = .ok (.iload_n 0, 1) := by decide +kernel
theorem dJ6_bitCount_0f7a4_36 : decode cJ6_bitCount_0f7a4 36 = .ok (.bipush 8, 2) := by decide +kernel
theorem dJ6_bitCount_0f7a4_38 : decode cJ6_bitCount_0f7a4 38 = .ok (.iushr, 1) := by decide +kernel
theorem dJ6_bitCount_0f7a4_39 : decode cJ6_bitCount_0f7a4 39 = .ok (.iadd, 1) := by decide +kernel
theorem dJ6_bitCount_0f7a4_40 : decode cJ6_bitCount_0f7a4 40 = .ok (.istore_n 0, 1) := by decide +kernel
theorem dJ6_bitCount_0f7a4_41 : decode cJ6_bitCount_0f7a4 41 = .ok (.iload_n 0, 1) := by decide +kernel
theorem dJ6_bitCount_0f7a4_42 : decode cJ6_bitCount_0f7a4 42 = .ok (.iload_n 0, 1) := by decide +kernel
theorem dJ6_bitCount_0f7a4_43 : decode cJ6_bitCount_0f7a4 43 = .ok (.bipush 16, 2) := by decide +kernel
theorem dJ6_bitCount_0f7a4_45 : decode cJ6_bitCount_0f7a4 45 = .ok (.iushr, 1) := by decide +kernel
theorem dJ6_bitCount_0f7a4_46 : decode cJ6_bitCount_0f7a4 46 = .ok (.iadd, 1) := by decide +kernel
theorem dJ6_bitCount_0f7a4_47 : decode cJ6_bitCount_0f7a4 47 = .ok (.istore_n 0, 1) := by decide +kernel
theorem dJ6_bitCount_0f7a4_48 : decode cJ6_bitCount_0f7a4 48 = .ok (.iload_n 0, 1) := by decide +kernel
theorem dJ6_bitCount_0f7a4_49 : decode cJ6_bitCount_0f7a4 49 = .ok (.bipush 63, 2) := by decide +kernel
theorem dJ6_bitCount_0f7a4_51 : decode cJ6_bitCount_0f7a4 51 = .ok (.iand, 1) := by decide +kernel
theorem dJ6_bitCount_0f7a4_52 : decode cJ6_bitCount_0f7a4 52 = .ok (.ireturn, 1) := by decide +kernel
theorem dJ9_max_7cf53_0 : decode cJ9_max_7cf53 0 = .ok (.iload_n 0, 1) := by decide +kernel
theorem dJ9_max_7cf53_1 : decode cJ9_max_7cf53 1 = .ok (.iload_n 1, 1) := by decide +kernel
theorem dJ9_max_7cf53_2 : decode cJ9_max_7cf53 2 = .ok (.if_icmp .lt 7, 3) := by decide +kernel
theorem dJ9_max_7cf53_5 : decode cJ9_max_7cf53 5 = .ok (.iload_n 0, 1) := by decide +kernel
theorem dJ9_max_7cf53_6 : decode cJ9_max_7cf53 6 = .ok (.goto 4, 3) := by decide +kernel
theorem dJ9_max_7cf53_9 : decode cJ9_max_7cf53 9 = .ok (.iload_n 1, 1) := by decide +kernel
theorem dJ9_max_7cf53_10 : decode cJ9_max_7cf53 10 = .ok (.ireturn, 1) := by decide +kernel
theorem dJ9_min_7cf53_0 : decode cJ9_min_7cf53 0 = .ok (.iload_n 0, 1) := by decide +kernel
theorem dJ9_min_7cf53_1 : decode cJ9_min_7cf53 1 = .ok (.iload_n 1, 1) := by decide +kernel
theorem dJ9_min_7cf53_2 : decode cJ9_min_7cf53 2 = .ok (.if_icmp .gt 7, 3) := by decide +kernel
theorem dJ9_min_7cf53_5 : decode cJ9_min_7cf53 5 = .ok (.iload_n 0, 1) := by decide +kernel
theorem dJ9_min_7cf53_6 : decode cJ9_min_7cf53 6 = .ok (.goto 4, 3) := by decide +kernel
theorem dJ9_min_7cf53_9 : decode cJ9_min_7cf53 9 = .ok (.iload_n 1, 1) := by decide +kernel
theorem dJ9_min_7cf53_10 : decode cJ9_min_7cf53 10 = .ok (.ireturn, 1) := by decide +kernel
theorem dJ0_length_8abf5_0 : decode cJ0_length_8abf5 0 = .ok (.aload_n 0, 1) := by decide +kernel
theorem dJ0_length_8abf5_1 : decode cJ0_length_8abf5 1 = .ok (.getfield 9, 3) := by decide +kernel
theorem dJ0_length_8abf5_4 : decode cJ0_length_8abf5 4 = .ok (.arraylength, 1) := by decide +kernel
theorem dJ0_length_8abf5_5 : decode cJ0_length_8abf5 5 = .ok (.aload_n 0, 1) := by decide +kernel
theorem dJ0_length_8abf5_6 : decode cJ0_length_8abf5 6 = .ok (.invokevirtual 335, 3) := by decide +kernel
theorem dJ0_length_8abf5_9 : decode cJ0_length_8abf5 9 = .ok (.ishr, 1) := by decide +kernel
theorem dJ0_length_8abf5_10 : decode cJ0_length_8abf5 10 = .ok (.ireturn, 1) := by decide +kernel
theorem dJ0_charAt_5068e_0 : decode cJ0_charAt_5068e 0 = .ok (.aload_n 0, 1) := by decide +kernel
theorem dJ0_charAt_5068e_1 : decode cJ0_charAt_5068e 1 = .ok (.invokevirtual 492, 3) := by decide +kernel
theorem dJ0_charAt_5068e_4 : decode cJ0_charAt_5068e 4 = .ok (.ifCond .eq 12, 3) := by decide +kernel
theorem dJ0_charAt_5068e_7 : decode cJ0_charAt_5068e 7 = .ok (.aload_n 0, 1) := by decide +kernel
theorem dJ0_charAt_5068e_8 : decode cJ0_charAt_5068e 8 = .ok (.getfield 9, 3) := by decide +kernel
theorem dJ0_charAt_5068e_11 : decode cJ0_charAt_5068e 11 = .ok (.iload_n 1, 1) := by decide +kernel
theorem dJ0_charAt_5068e_12 : decode cJ0_charAt_5068e 12 = .ok (.invokestatic 495, 3) := by decide +kernel
theorem dJ0_charAt_5068e_15 : decode cJ0_charAt_5068e 15 = .ok (.ireturn, 1) := by decide +kernel
theorem dJ0_charAt_5068e_16 : decode cJ0_charAt_5068e 16 = .ok (.aload_n 0, 1) := by decide +kernel
theorem dJ0_charAt_5068e_17 : decode cJ0_charAt_5068e 17 = .ok (.getfield 9, 3) := by decide +kernel
theorem dJ0_charAt_5068e_20 : decode cJ0_charAt_5068e 20 = .ok (.iload_n 1, 1) := by decide +kernel
theorem dJ0_charAt_5068e_21 : decode cJ0_charAt_5068e 21 = .ok (.invokestatic 498, 3) := by decide +kernel
theorem dJ0_charAt_5068e_24 : decode cJ0_charAt_5068e 24 = .ok (.ireturn, 1) := by decide +kernel
theorem dJ0_coder_7d493_0 : decode cJ0_coder_7d493 0 = .ok (.getstatic 38, 3) := by decide +kernel
theorem dJ0_coder_7d493_3 : decode cJ0_coder_7d493 3 = .ok (.ifCond .eq 10, 3) := by decide +kernel
theorem dJ0_coder_7d493_6 : decode cJ0_coder_7d493 6 = .ok (.aload_n 0, 1) := by decide +kernel
theorem dJ0_coder_7d493_7 : decode cJ0_coder_7d493 7 = .ok (.getfield 15, 3) := by decide +kernel
theorem dJ0_coder_7d493_10 : decode cJ0_coder_7d493 10 = .ok (.goto 4, 3) := by decide +kernel
theorem dJ0_coder_7d493_13 : decode cJ0_coder_7d493 13 = .ok (.iconst 1, 1) := by decide +kernel
theorem dJ0_coder_7d493_14 : decode cJ0_coder_7d493 14 = .ok (.ireturn, 1) := by decide +kernel
theorem dJ0_isLatin1_aae02_0 : decode cJ0_isLatin1_aae02 0 = .ok (.getstatic 38, 3) := by decide +kernel
theorem dJ0_isLatin1_aae02_3 : decode cJ0_isLatin1_aae02 3 = .ok (.ifCond .eq 14, 3) := by decide +kernel
theorem dJ0_isLatin1_aae02_6 : decode cJ0_isLatin1_aae02 6 = .ok (.aload_n 0, 1) := by decide +kernel
theorem dJ0_isLatin1_aae02_7 : decode cJ0_isLatin1_aae02 7 = .ok (.getfield 15, 3) := by decide +kernel
theorem dJ0_isLatin1_aae02_10 : decode cJ0_isLatin1_aae02 10 = .ok (.ifCond .ne 7, 3) := by decide +kernel
theorem dJ0_isLatin1_aae02_13 : decode cJ0_isLatin1_aae02 13 = .ok (.iconst 1, 1) := by decide +kernel
theorem dJ0_isLatin1_aae02_14 : decode cJ0_isLatin1_aae02 14 = .ok (.goto 4, 3) := by decide +kernel
theorem dJ0_isLatin1_aae02_17 : decode cJ0_isLatin1_aae02 17 = .ok (.iconst 0, 1) := by decide +kernel
theorem dJ0_isLatin1_aae02_18 : decode cJ0_isLatin1_aae02 18 = .ok (.ireturn, 1) := by decide +kernel
theorem dJ0_checkIndex_df160_0 : decode cJ0_checkIndex_df160 0 = .ok (.iload_n 0, 1) := by decide +kernel
theorem dJ0_checkIndex_df160_1 : decode cJ0_checkIndex_df160 1 = .ok (.iload_n 1, 1) := by decide +kernel
theorem dJ0_checkIndex_df160_2 : decode cJ0_checkIndex_df160 2 = .ok (.getstatic 1053, 3) := by decide +kernel
theorem dJ0_checkIndex_df160_5 : decode cJ0_checkIndex_df160 5 = .ok (.invokestatic 1059, 3) := by decide +kernel
theorem dJ0_checkIndex_df160_8 : decode cJ0_checkIndex_df160 8 = .ok (.pop, 1) := by decide +kernel
theorem dJ0_checkIndex_df160_9 : decode cJ0_checkIndex_df160 9 = .ok (.return_, 1) := by decide +kernel
theorem dJ1_charAt_3b067_0 : decode cJ1_charAt_3b067 0 = .ok (.iload_n 1, 1) := by decide +kernel
theorem dJ1_charAt_3b067_1 : decode cJ1_charAt_3b067 1 = .ok (.aload_n 0, 1) := by decide +kernel
theorem dJ1_charAt_3b067_2 : decode cJ1_charAt_3b067 2 = .ok (.arraylength, 1) := by decide +kernel
theorem dJ1_charAt_3b067_3 : decode cJ1_charAt_3b067 3 = .ok (.invokestatic 9, 3) := by decide +kernel
theorem dJ1_charAt_3b067_6 : decode cJ1_charAt_3b067 6 = .ok (.aload_n 0, 1) := by decide +kernel
theorem dJ1_charAt_3b067_7 : decode cJ1_charAt_3b067 7 = .ok (.iload_n 1, 1) := by decide +kernel
theorem dJ1_charAt_3b067_8 : decode cJ1_charAt_3b067 8 = .ok (.baload, 1) := by decide +kernel
theorem dJ1_charAt_3b067_9 : decode cJ1_charAt_3b067 9 = .ok (.sipush 255, 3) := by decide +kernel
theorem dJ1_charAt_3b067_12 : decode cJ1_charAt_3b067 12 = .ok (.iand, 1) := by decide +kernel
theorem dJ1_charAt_3b067_13 : decode cJ1_charAt_3b067 13 = .ok (.i2c, 1) := by decide +kernel
theorem dJ1_charAt_3b067_14 : decode cJ1_charAt_3b067 14 = .ok (.ireturn, 1) := by decide +kernel
theorem dJ2_getChar_3b067_0 : decode cJ2_getChar_3b067 0 = .ok (.getstatic 44, 3) := by decide +kernel
theorem dJ2_getChar_3b067_3 : decode cJ2_getChar_3b067 3 = .ok (.ifCond .ne 25, 3) := by decide +kernel
theorem dJ2_getChar_3b067_6 : decode cJ2_getChar_3b067 6 = .ok (.iload_n 1, 1) := by decide +kernel
theorem dJ2_getChar_3b067_7 : decode cJ2_getChar_3b067 7 = .ok (.ifCond .lt 11, 3) := by decide +kernel
theorem dJ2_getChar_3b067_10 : decode cJ2_getChar_3b067 10 = .ok (.iload_n 1, 1) := by decide +kernel
theorem dJ2_getChar_3b067_11 : decode cJ2_getChar_3b067 11 = .ok (.aload_n 0, 1) := by decide +kernel
theorem dJ2_getChar_3b067_12 : decode cJ2_getChar_3b067 12 = .ok (.invokestatic 48, 3) := by decide +kernel
theorem dJ2_getChar_3b067_15 : decode cJ2_getChar_3b067 15 = .ok (.if_icmp .lt 13, 3) := by decide +kernel
theorem dJ2_getChar_3b067_18 : decode cJ2_getChar_3b067 18 = .ok (.new 52, 3) := by decide +kernel
theorem dJ2_getChar_3b067_21 : decode cJ2_getChar_3b067 21 = .ok (.dup, 1) := by decide +kernel
theorem dJ2_getChar_3b067_22 : decode cJ2_getChar_3b067 22 = .ok (.ldc 54, 2) := by decide +kernel
theorem dJ2_getChar_3b067_24 : decode cJ2_getChar_3b067 24 = .ok (.invokespecial 56, 3) := by decide +kernel
theorem dJ2_getChar_3b067_27 : decode cJ2_getChar_3b067 27 = .ok (.athrow, 1) := by decide +kernel
theorem dJ2_getChar_3b067_28 : decode cJ2_getChar_3b067 28 = .ok (.iload_n 1, 1) := by decide +kernel
theorem dJ2_getChar_3b067_29 : decode cJ2_getChar_3b067 29 = .ok (.iconst 1, 1) := by decide +kernel
theorem dJ2_getChar_3b067_30 : decode cJ2_getChar_3b067 30 = .ok (.ishl, 1) := by decide +kernel
theorem dJ2_getChar_3b067_31 : decode cJ2_getChar_3b067 31 = .ok (.istore_n 1, 1) := by decide +kernel
theorem dJ2_getChar_3b067_32 : decode cJ2_getChar_3b067 32 = .ok (.aload_n 0, 1) := by decide +kernel
theorem dJ2_getChar_3b067_33 : decode cJ2_getChar_3b067 33 = .ok (.iload_n 1, 1) := by decide +kernel
theorem dJ2_getChar_3b067_34 : decode cJ2_getChar_3b067 34 = .ok (.iinc 1 1, 3) := by decide +kernel
theorem dJ2_getChar_3b067_37 : decode cJ2_getChar_3b067 37 = .ok (.baload, 1) := by decide +kernel
theorem dJ2_getChar_3b067_38 : decode cJ2_getChar_3b067 38 = .ok (.sipush 255, 3) := by decide +kernel
theorem dJ2_getChar_3b067_41 : decode cJ2_getChar_3b067 41 = .ok (.iand, 1) := by decide +kernel
theorem dJ2_getChar_3b067_42 : decode cJ2_getChar_3b067 42 = .ok (.getstatic 59, 3) := by decide +kernel
theorem dJ2_getChar_3b067_45 : decode cJ2_getChar_3b067 45 = .ok (.ishl, 1) := by decide +kernel
theorem dJ2_getChar_3b067_46 : decode cJ2_getChar_3b067 46 = .ok (.aload_n 0, 1) := by decide +kernel
theorem dJ2_getChar_3b067_47 : decode cJ2_getChar_3b067 47 = .ok (.iload_n 1, 1) := by decide +kernel
theorem dJ2_getChar_3b067_48 : decode cJ2_getChar_3b067 48 = .ok (.baload, 1) := by decide +kernel
theorem dJ2_getChar_3b067_49 : decode cJ2_getChar_3b067 49 = .ok (.sipush 255, 3) := by decide +kernel
theorem dJ2_getChar_3b067_52 : decode cJ2_getChar_3b067 52 = .ok (.iand, 1) := by decide +kernel
theorem dJ2_getChar_3b067_53 : decode cJ2_getChar_3b067 53 = .ok (.getstatic 63, 3) := by decide +kernel
theorem dJ2_getChar_3b067_56 : decode cJ2_getChar_3b067 56 = .ok (.ishl, 1) := by decide +kernel
theorem dJ2_getChar_3b067_57 : decode cJ2_getChar_3b067 57 = .ok (.ior, 1) := by decide +kernel
theorem dJ2_getChar_3b067_58 : decode cJ2_getChar_3b067 58 = .ok (.i2c, 1) := by decide +kernel
theorem dJ2_getChar_3b067_59 : decode cJ2_getChar_3b067 59 = .ok (.ireturn, 1) := by decide +kernel
theorem dJ2_length_9d52b_0 : decode cJ2_length_9d52b 0 = .ok (.aload_n 0, 1) := by decide +kernel
theorem dJ2_length_9d52b_1 : decode cJ2_length_9d52b 1 = .ok (.arraylength, 1) := by decide +kernel
theorem dJ2_length_9d52b_2 : decode cJ2_length_9d52b 2 = .ok (.iconst 1, 1) := by decide +kernel
theorem dJ2_length_9d52b_3 : decode cJ2_length_9d52b 3 = .ok (.ishr, 1) := by decide +kernel
theorem dJ2_length_9d52b_4 : decode cJ2_length_9d52b 4 = .ok (.ireturn, 1) := by decide +kernel
theorem dJ2_charAt_3b067_0 : decode cJ2_charAt_3b067 0 = .ok (.iload_n 1, 1) := by decide +kernel
theorem dJ2_charAt_3b067_1 : decode cJ2_charAt_3b067 1 = .ok (.aload_n 0, 1) := by decide +kernel
theorem dJ2_charAt_3b067_2 : decode cJ2_charAt_3b067 2 = .ok (.invokestatic 67, 3) := by decide +kernel
theorem dJ2_charAt_3b067_5 : decode cJ2_charAt_3b067 5 = .ok (.aload_n 0, 1) := by decide +kernel
theorem dJ2_charAt_3b067_6 : decode cJ2_charAt_3b067 6 = .ok (.iload_n 1, 1) := by decide +kernel
theorem dJ2_charAt_3b067_7 : decode cJ2_charAt_3b067 7 = .ok (.invokestatic 71, 3) := by decide +kernel
theorem dJ2_charAt_3b067_10 : decode cJ2_charAt_3b067 10 = .ok (.ireturn, 1) := by decide +kernel
theorem dJ2_checkIndex_2214a_0 : decode cJ2_checkIndex_2214a 0 = .ok (.iload_n 0, 1) := by decide +kernel
theorem dJ2_checkIndex_2214a_1 : decode cJ2_checkIndex_2214a 1 = .ok (.aload_n 1, 1) := by decide +kernel
theorem dJ2_checkIndex_2214a_2 : decode cJ2_checkIndex_2214a 2 = .ok (.invokestatic 48, 3) := by decide +kernel
theorem dJ2_checkIndex_2214a_5 : decode cJ2_checkIndex_2214a 5 = .ok (.invokestatic 414, 3) := by decide +kernel
theorem dJ2_checkIndex_2214a_8 : decode cJ2_checkIndex_2214a 8 = .ok (.return_, 1) := by decide +kernel
theorem dJ3_checkIndex_8e157_0 : decode cJ3_checkIndex_8e157 0 = .ok (.iload_n 0, 1) := by decide +kernel
theorem dJ3_checkIndex_8e157_1 : decode cJ3_checkIndex_8e157 1 = .ok (.ifCond .lt 8, 3) := by decide +kernel
theorem dJ3_checkIndex_8e157_4 : decode cJ3_checkIndex_8e157 4 = .ok (.iload_n 0, 1) := by decide +kernel
theorem dJ3_checkIndex_8e157_5 : decode cJ3_checkIndex_8e157 5 = .ok (.iload_n 1, 1) := by decide +kernel
theorem dJ3_checkIndex_8e157_6 : decode cJ3_checkIndex_8e157 6 = .ok (.if_icmp .lt 10, 3) := by decide +kernel
theorem dJ3_checkIndex_8e157_9 : decode cJ3_checkIndex_8e157 9 = .ok (.aload_n 2, 1) := by decide +kernel
theorem dJ3_checkIndex_8e157_10 : decode cJ3_checkIndex_8e157 10 = .ok (.iload_n 0, 1) := by decide +kernel
theorem dJ3_checkIndex_8e157_11 : decode cJ3_checkIndex_8e157 11 = .ok (.iload_n 1, 1) := by decide +kernel
theorem dJ3_checkIndex_8e157_12 : decode cJ3_checkIndex_8e157 12 = .ok (.invokestatic 95, 3) := by decide +kernel
theorem dJ3_checkIndex_8e157_15 : decode cJ3_checkIndex_8e157 15 = .ok (.athrow, 1) := by decide +kernel
theorem dJ3_checkIndex_8e157_16 : decode cJ3_checkIndex_8e157 16 = .ok (.iload_n 0, 1) := by decide +kernel
theorem dJ3_checkIndex_8e157_17 : decode cJ3_checkIndex_8e157 17 = .ok (.ireturn, 1) := by decide +kernel
