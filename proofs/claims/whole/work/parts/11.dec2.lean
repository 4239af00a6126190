theorem dX6_init_0 : decode cX6_init 0 = .ok (.aload_n 0, 1) := by decide +kernel
theorem dX6_init_1 : decode cX6_init 1 = .ok (.invokespecial 1, 3) := by decide +kernel
theorem dX6_init_4 : decode cX6_init 4 = .ok (.aload_n 0, 1) := by decide +kernel
theorem dX6_init_5 : decode cX6_init 5 = .ok (.new 7, 3) := by decide +kernel
theorem dX6_init_8 : decode cX6_init 8 = .ok (.dup, 1) := by decide +kernel
theorem dX6_init_9 : decode cX6_init 9 = .ok (.invokespecial 9, 3) := by decide +kernel
theorem dX6_init_12 : decode cX6_init 12 = .ok (.putfield 10, 3) := by decide +kernel
theorem dX6_init_15 : decode cX6_init 15 = .ok (.aload_n 0, 1) := by decide +kernel
theorem dX6_init_16 : decode cX6_init 16 = .ok (.new 7, 3) := by decide +kernel
theorem dX6_init_19 : decode cX6_init 19 = .ok (.dup, 1) := by decide +kernel
theorem dX6_init_20 : decode cX6_init 20 = .ok (.invokespecial 9, 3) := by decide +kernel
theorem dX6_init_23 : decode cX6_init 23 = .ok (.putfield 16, 3) := by decide +kernel
theorem dX6_init_26 : decode cX6_init 26 = .ok (.aload_n 0, 1) := by decide +kernel
theorem dX6_init_27 : decode cX6_init 27 = .ok (.new 7, 3) := by decide +kernel
theorem dX6_init_30 : decode cX6_init 30 = .ok (.dup, 1) := by decide +kernel
theorem dX6_init_31 : decode cX6_init 31 = .ok (.invokespecial 9, 3) := by decide +kernel
theorem dX6_init_34 : decode cX6_init 34 = .ok (.putfield 19, 3) := by decide +kernel
theorem dX6_init_37 : decode cX6_init 37 = .ok (.aload_n 0, 1) := by decide +kernel
theorem dX6_init_38 : decode cX6_init 38 = .ok (.new 22, 3) := by decide +kernel
theorem dX6_init_41 : decode cX6_init 41 = .ok (.dup, 1) := by decide +kernel
theorem dX6_init_42 : decode cX6_init 42 = .ok (.invokespecial 24, 3) := by decide +kernel
theorem dX6_init_45 : decode cX6_init 45 = .ok (.putfield 25, 3) := by decide +kernel
theorem dX6_init_48 : decode cX6_init 48 = .ok (.aload_n 0, 1) := by decide +kernel
theorem dX6_init_49 : decode cX6_init 49 = .ok (.new 29, 3) := by decide +kernel
theorem dX6_init_52 : decode cX6_init 52 = .ok (.dup, 1) := by decide +kernel
theorem dX6_init_53 : decode cX6_init 53 = .ok (.invokespecial 31, 3) := by decide +kernel
theorem dX6_init_56 : decode cX6_init 56 = .ok (.putfield 32, 3) := by decide +kernel
theorem dX6_init_59 : decode cX6_init 59 = .ok (.aload_n 0, 1) := by decide +kernel
theorem dX6_init_60 : decode cX6_init 60 = .ok (.iconst 4, 1) := by decide +kernel
theorem dX6_init_61 : decode cX6_init 61 = .ok (.anewarray 36, 3) := by decide +kernel
theorem dX6_init_64 : decode cX6_init 64 = .ok (.putfield 38, 3) := by decide +kernel
theorem dX6_init_67 : decode cX6_init 67 = .ok (.aload_n 0, 1) := by decide +kernel
theorem dX6_init_68 : decode cX6_init 68 = .ok (.bipush 7, 2) := by decide +kernel
theorem dX6_init_70 : decode cX6_init 70 = .ok (.newarray .int, 2) := by decide +kernel
theorem dX6_init_72 : decode cX6_init 72 = .ok (.putfield 42, 3) := by decide +kernel
theorem dX6_init_75 : decode cX6_init 75 = .ok (.iconst 0, 1) := by decide +kernel
theorem dX6_init_76 : decode cX6_init 76 = .ok (.istore_n 1, 1) := by decide +kernel
theorem dX6_init_77 : decode cX6_init 77 = .ok (.iload_n 1, 1) := by decide +kernel
theorem dX6_init_78 : decode cX6_init 78 = .ok (.iconst 4, 1) := by decide +kernel
theorem dX6_init_79 : decode cX6_init 79 = .ok (.if_icmp .ge 22, 3) := by decide +kernel
theorem dX6_init_82 : decode cX6_init 82 = .ok (.aload_n 0, 1) := by decide +kernel
theorem dX6_init_83 : decode cX6_init 83 = .ok (.getfield 38, 3) := by decide +kernel
theorem dX6_init_86 : decode cX6_init 86 = .ok (.iload_n 1, 1) := by decide +kernel
theorem dX6_init_87 : decode cX6_init 87 = .ok (.new 36, 3) := by decide +kernel
theorem dX6_init_90 : decode cX6_init 90 = .ok (.dup, 1) := by decide +kernel
theorem dX6_init_91 : decode cX6_init 91 = .ok (.invokespecial 46, 3) := by decide +kernel
theorem dX6_init_94 : decode cX6_init 94 = .ok (.aastore, 1) := by decide +kernel
theorem dX6_init_95 : decode cX6_init 95 = .ok (.iinc 1 1, 3) := by decide +kernel
theorem dX6_init_98 : decode cX6_init 98 = .ok (.goto (-21), 3) := by decide +kernel
theorem dX6_init_101 : decode cX6_init 101 = .ok (.return_, 1) := by decide +kernel
theorem dX6_village_0 : decode cX6_village 0 = .ok (.iload_n 1, 1) := by decide +kernel
theorem dX6_village_1 : decode cX6_village 1 = .ok (.invokestatic 47, 3) := by decide +kernel
theorem dX6_village_4 : decode cX6_village 4 = .ok (.ifCond .ne 10, 3) := by decide +kernel
theorem dX6_village_7 : decode cX6_village 7 = .ok (.aload_n 0, 1) := by decide +kernel
theorem dX6_village_8 : decode cX6_village 8 = .ok (.ldc 51, 2) := by decide +kernel
theorem dX6_village_10 : decode cX6_village 10 = .ok (.invokevirtual 52, 3) := by decide +kernel
theorem dX6_village_13 : decode cX6_village 13 = .ok (.ireturn, 1) := by decide +kernel
theorem dX6_village_14 : decode cX6_village 14 = .ok (.aload_n 0, 1) := by decide +kernel
theorem dX6_village_15 : decode cX6_village 15 = .ok (.getfield 10, 3) := by decide +kernel
theorem dX6_village_18 : decode cX6_village 18 = .ok (.invokevirtual 56, 3) := by decide +kernel
theorem dX6_village_21 : decode cX6_village 21 = .ok (.ifCond .eq 10, 3) := by decide +kernel
theorem dX6_village_24 : decode cX6_village 24 = .ok (.aload_n 0, 1) := by decide +kernel
theorem dX6_village_25 : decode cX6_village 25 = .ok (.ldc 60, 2) := by decide +kernel
theorem dX6_village_27 : decode cX6_village 27 = .ok (.invokevirtual 52, 3) := by decide +kernel
theorem dX6_village_30 : decode cX6_village 30 = .ok (.ireturn, 1) := by decide +kernel
theorem dX6_village_31 : decode cX6_village 31 = .ok (.aload_n 0, 1) := by decide +kernel
theorem dX6_village_32 : decode cX6_village 32 = .ok (.getfield 10, 3) := by decide +kernel
theorem dX6_village_35 : decode cX6_village 35 = .ok (.iload_n 1, 1) := by decide +kernel
theorem dX6_village_36 : decode cX6_village 36 = .ok (.iconst 0, 1) := by decide +kernel
theorem dX6_village_37 : decode cX6_village 37 = .ok (.invokevirtual 61, 3) := by decide +kernel
theorem dX6_village_40 : decode cX6_village 40 = .ok (.ireturn, 1) := by decide +kernel
theorem dX6_villageOf_0 : decode cX6_villageOf 0 = .ok (.aload_n 0, 1) := by decide +kernel
theorem dX6_villageOf_1 : decode cX6_villageOf 1 = .ok (.getfield 10, 3) := by decide +kernel
theorem dX6_villageOf_4 : decode cX6_villageOf 4 = .ok (.iload_n 1, 1) := by decide +kernel
theorem dX6_villageOf_5 : decode cX6_villageOf 5 = .ok (.invokevirtual 65, 3) := by decide +kernel
theorem dX6_villageOf_8 : decode cX6_villageOf 8 = .ok (.ifCond .ne 10, 3) := by decide +kernel
theorem dX6_villageOf_11 : decode cX6_villageOf 11 = .ok (.aload_n 0, 1) := by decide +kernel
theorem dX6_villageOf_12 : decode cX6_villageOf 12 = .ok (.ldc 51, 2) := by decide +kernel
theorem dX6_villageOf_14 : decode cX6_villageOf 14 = .ok (.invokevirtual 52, 3) := by decide +kernel
theorem dX6_villageOf_17 : decode cX6_villageOf 17 = .ok (.ireturn, 1) := by decide +kernel
theorem dX6_villageOf_18 : decode cX6_villageOf 18 = .ok (.iload_n 2, 1) := by decide +kernel
theorem dX6_villageOf_19 : decode cX6_villageOf 19 = .ok (.tableswitch 73 0 3 #[29, 38, 55, 64], 29) := by decide +kernel
theorem dX6_villageOf_48 : decode cX6_villageOf 48 = .ok (.aload_n 0, 1) := by decide +kernel
theorem dX6_villageOf_49 : decode cX6_villageOf 49 = .ok (.getfield 10, 3) := by decide +kernel
theorem dX6_villageOf_52 : decode cX6_villageOf 52 = .ok (.iload_n 1, 1) := by decide +kernel
theorem dX6_villageOf_53 : decode cX6_villageOf 53 = .ok (.invokevirtual 68, 3) := by decide +kernel
theorem dX6_villageOf_56 : decode cX6_villageOf 56 = .ok (.ireturn, 1) := by decide +kernel
theorem dX6_villageOf_57 : decode cX6_villageOf 57 = .ok (.aload_n 0, 1) := by decide +kernel
theorem dX6_villageOf_58 : decode cX6_villageOf 58 = .ok (.getfield 10, 3) := by decide +kernel
theorem dX6_villageOf_61 : decode cX6_villageOf 61 = .ok (.iload_n 1, 1) := by decide +kernel
theorem dX6_villageOf_62 : decode cX6_villageOf 62 = .ok (.invokevirtual 71, 3) := by decide +kernel
theorem dX6_villageOf_65 : decode cX6_villageOf 65 = .ok (.ifCond .eq 7, 3) := by decide +kernel
theorem dX6_villageOf_68 : decode cX6_villageOf 68 = .ok (.iconst 1, 1) := by decide +kernel
theorem dX6_villageOf_69 : decode cX6_villageOf 69 = .ok (.goto 4, 3) := by decide +kernel
theorem dX6_villageOf_72 : decode cX6_villageOf 72 = .ok (.iconst 0, 1) := by decide +kernel
theorem dX6_villageOf_73 : decode cX6_villageOf 73 = .ok (.ireturn, 1) := by decide +kernel
theorem dX6_villageOf_74 : decode cX6_villageOf 74 = .ok (.aload_n 0, 1) := by decide +kernel
theorem dX6_villageOf_75 : decode cX6_villageOf 75 = .ok (.getfield 10, 3) := by decide +kernel
theorem dX6_villageOf_78 : decode cX6_villageOf 78 = .ok (.iload_n 1, 1) := by decide +kernel
theorem dX6_villageOf_79 : decode cX6_villageOf 79 = .ok (.invokevirtual 74, 3) := by decide +kernel
theorem dX6_villageOf_82 : decode cX6_villageOf 82 = .ok (.ireturn, 1) := by decide +kernel
theorem dX6_villageOf_83 : decode cX6_villageOf 83 = .ok (.aload_n 0, 1) := by decide +kernel
theorem dX6_villageOf_84 : decode cX6_villageOf 84 = .ok (.getfield 10, 3) := by decide +kernel
theorem dX6_villageOf_87 : decode cX6_villageOf 87 = .ok (.iload_n 1, 1) := by decide +kernel
theorem dX6_villageOf_88 : decode cX6_villageOf 88 = .ok (.invokevirtual 77, 3) := by decide +kernel
theorem dX6_villageOf_91 : decode cX6_villageOf 91 = .ok (.ireturn, 1) := by decide +kernel
theorem dX6_villageOf_92 : decode cX6_villageOf 92 = .ok (.aload_n 0, 1) := by decide +kernel
theorem dX6_villageOf_93 : decode cX6_villageOf 93 = .ok (.ldc 51, 2) := by decide +kernel
theorem dX6_villageOf_95 : decode cX6_villageOf 95 = .ok (.invokevirtual 52, 3) := by decide +kernel
theorem dX6_villageOf_98 : decode cX6_villageOf 98 = .ok (.ireturn, 1) := by decide +kernel
theorem dX6_slide_0 : decode cX6_slide 0 = .ok (.aload_n 0, 1) := by decide +kernel
theorem dX6_slide_1 : decode cX6_slide 1 = .ok (.getfield 10, 3) := by decide +kernel
theorem dX6_slide_4 : decode cX6_slide 4 = .ok (.iload_n 1, 1) := by decide +kernel
theorem dX6_slide_5 : decode cX6_slide 5 = .ok (.invokevirtual 65, 3) := by decide +kernel
theorem dX6_slide_8 : decode cX6_slide 8 = .ok (.ifCond .eq 10, 3) := by decide +kernel
theorem dX6_slide_11 : decode cX6_slide 11 = .ok (.iload_n 2, 1) := by decide +kernel
theorem dX6_slide_12 : decode cX6_slide 12 = .ok (.invokestatic 47, 3) := by decide +kernel
theorem dX6_slide_15 : decode cX6_slide 15 = .ok (.ifCond .ne 10, 3) := by decide +kernel
theorem dX6_slide_18 : decode cX6_slide 18 = .ok (.aload_n 0, 1) := by decide +kernel
theorem dX6_slide_19 : decode cX6_slide 19 = .ok (.ldc 51, 2) := by decide +kernel
theorem dX6_slide_21 : decode cX6_slide 21 = .ok (.invokevirtual 52, 3) := by decide +kernel
theorem dX6_slide_24 : decode cX6_slide 24 = .ok (.ireturn, 1) := by decide +kernel
theorem dX6_slide_25 : decode cX6_slide 25 = .ok (.aload_n 0, 1) := by decide +kernel
theorem dX6_slide_26 : decode cX6_slide 26 = .ok (.getfield 10, 3) := by decide +kernel
theorem dX6_slide_29 : decode cX6_slide 29 = .ok (.iload_n 1, 1) := by decide +kernel
theorem dX6_slide_30 : decode cX6_slide 30 = .ok (.invokevirtual 68, 3) := by decide +kernel
theorem dX6_slide_33 : decode cX6_slide 33 = .ok (.istore_n 3, 1) := by decide +kernel
theorem dX6_slide_34 : decode cX6_slide 34 = .ok (.aload_n 0, 1) := by decide +kernel
theorem dX6_slide_35 : decode cX6_slide 35 = .ok (.getfield 10, 3) := by decide +kernel
theorem dX6_slide_38 : decode cX6_slide 38 = .ok (.iload_n 1, 1) := by decide +kernel
theorem dX6_slide_39 : decode cX6_slide 39 = .ok (.iload_n 2, 1) := by decide +kernel
theorem dX6_slide_40 : decode cX6_slide 40 = .ok (.invokevirtual 80, 3) := by decide +kernel
theorem dX6_slide_43 : decode cX6_slide 43 = .ok (.iload_n 3, 1) := by decide +kernel
theorem dX6_slide_44 : decode cX6_slide 44 = .ok (.ireturn, 1) := by decide +kernel
theorem dX6_hermit_0 : decode cX6_hermit 0 = .ok (.aload_n 0, 1) := by decide +kernel
theorem dX6_hermit_1 : decode cX6_hermit 1 = .ok (.getfield 10, 3) := by decide +kernel
theorem dX6_hermit_4 : decode cX6_hermit 4 = .ok (.iload_n 1, 1) := by decide +kernel
theorem dX6_hermit_5 : decode cX6_hermit 5 = .ok (.invokevirtual 65, 3) := by decide +kernel
theorem dX6_hermit_8 : decode cX6_hermit 8 = .ok (.ifCond .ne 10, 3) := by decide +kernel
theorem dX6_hermit_11 : decode cX6_hermit 11 = .ok (.aload_n 0, 1) := by decide +kernel
theorem dX6_hermit_12 : decode cX6_hermit 12 = .ok (.ldc 51, 2) := by decide +kernel
theorem dX6_hermit_14 : decode cX6_hermit 14 = .ok (.invokevirtual 52, 3) := by decide +kernel
theorem dX6_hermit_17 : decode cX6_hermit 17 = .ok (.ireturn, 1) := by decide +kernel
theorem dX6_hermit_18 : decode cX6_hermit 18 = .ok (.aload_n 0, 1) := by decide +kernel
theorem dX6_hermit_19 : decode cX6_hermit 19 = .ok (.getfield 10, 3) := by decide +kernel
theorem dX6_hermit_22 : decode cX6_hermit 22 = .ok (.iload_n 1, 1) := by decide +kernel
theorem dX6_hermit_23 : decode cX6_hermit 23 = .ok (.invokevirtual 71, 3) := by decide +kernel
theorem dX6_hermit_26 : decode cX6_hermit 26 = .ok (.istore_n 3, 1) := by decide +kernel
theorem dX6_hermit_27 : decode cX6_hermit 27 = .ok (.aload_n 0, 1) := by decide +kernel
theorem dX6_hermit_28 : decode cX6_hermit 28 = .ok (.getfield 10, 3) := by decide +kernel
theorem dX6_hermit_31 : decode cX6_hermit 31 = .ok (.iload_n 1, 1) := by decide +kernel
theorem dX6_hermit_32 : decode cX6_hermit 32 = .ok (.iload_n 2, 1) := by decide +kernel
theorem dX6_hermit_33 : decode cX6_hermit 33 = .ok (.invokevirtual 84, 3) := by decide +kernel
theorem dX6_hermit_36 : decode cX6_hermit 36 = .ok (.iload_n 3, 1) := by decide +kernel
theorem dX6_hermit_37 : decode cX6_hermit 37 = .ok (.iload_n 2, 1) := by decide +kernel
theorem dX6_hermit_38 : decode cX6_hermit 38 = .ok (.if_icmp .ne 7, 3) := by decide +kernel
theorem dX6_hermit_41 : decode cX6_hermit 41 = .ok (.iconst 0, 1) := by decide +kernel
theorem dX6_hermit_42 : decode cX6_hermit 42 = .ok (.goto 4, 3) := by decide +kernel
theorem dX6_hermit_45 : decode cX6_hermit 45 = .ok (.iconst 1, 1) := by decide +kernel
theorem dX6_hermit_46 : decode cX6_hermit 46 = .ok (.ireturn, 1) := by decide +kernel
theorem dX6_road_0 : decode cX6_road 0 = .ok (.aload_n 0, 1) := by decide +kernel
theorem dX6_road_1 : decode cX6_road 1 = .ok (.iload_n 1, 1) := by decide +kernel
theorem dX6_road_2 : decode cX6_road 2 = .ok (.iload_n 2, 1) := by decide +kernel
theorem dX6_road_3 : decode cX6_road 3 = .ok (.invokevirtual 88, 3) := by decide +kernel
theorem dX6_road_6 : decode cX6_road 6 = .ok (.ifCond .eq 14, 3) := by decide +kernel
theorem dX6_road_9 : decode cX6_road 9 = .ok (.iload_n 3, 1) := by decide +kernel
theorem dX6_road_10 : decode cX6_road 10 = .ok (.iconst 1, 1) := by decide +kernel
theorem dX6_road_11 : decode cX6_road 11 = .ok (.if_icmp .lt 9, 3) := by decide +kernel
theorem dX6_road_14 : decode cX6_road 14 = .ok (.iload_n 3, 1) := by decide +kernel
theorem dX6_road_15 : decode cX6_road 15 = .ok (.bipush 9, 2) := by decide +kernel
theorem dX6_road_17 : decode cX6_road 17 = .ok (.if_icmp .le 10, 3) := by decide +kernel
theorem dX6_road_20 : decode cX6_road 20 = .ok (.aload_n 0, 1) := by decide +kernel
theorem dX6_road_21 : decode cX6_road 21 = .ok (.ldc 51, 2) := by decide +kernel
theorem dX6_road_23 : decode cX6_road 23 = .ok (.invokevirtual 52, 3) := by decide +kernel
theorem dX6_road_26 : decode cX6_road 26 = .ok (.ireturn, 1) := by decide +kernel
theorem dX6_road_27 : decode cX6_road 27 = .ok (.aload_n 0, 1) := by decide +kernel
theorem dX6_road_28 : decode cX6_road 28 = .ok (.getfield 10, 3) := by decide +kernel
theorem dX6_road_31 : decode cX6_road 31 = .ok (.iload_n 1, 1) := by decide +kernel
theorem dX6_road_32 : decode cX6_road 32 = .ok (.iload_n 2, 1) := by decide +kernel
theorem dX6_road_33 : decode cX6_road 33 = .ok (.invokevirtual 92, 3) := by decide +kernel
theorem dX6_road_36 : decode cX6_road 36 = .ok (.ifCond .eq 10, 3) := by decide +kernel
theorem dX6_road_39 : decode cX6_road 39 = .ok (.aload_n 0, 1) := by decide +kernel
theorem dX6_road_40 : decode cX6_road 40 = .ok (.ldc 95, 2) := by decide +kernel
theorem dX6_road_42 : decode cX6_road 42 = .ok (.invokevirtual 52, 3) := by decide +kernel
theorem dX6_road_45 : decode cX6_road 45 = .ok (.ireturn, 1) := by decide +kernel
theorem dX6_road_46 : decode cX6_road 46 = .ok (.aload_n 0, 1) := by decide +kernel
theorem dX6_road_47 : decode cX6_road 47 = .ok (.getfield 10, 3) := by decide +kernel
theorem dX6_road_50 : decode cX6_road 50 = .ok (.invokevirtual 96, 3) := by decide +kernel
theorem dX6_road_53 : decode cX6_road 53 = .ok (.ifCond .eq 10, 3) := by decide +kernel
theorem dX6_road_56 : decode cX6_road 56 = .ok (.aload_n 0, 1) := by decide +kernel
theorem dX6_road_57 : decode cX6_road 57 = .ok (.ldc 60, 2) := by decide +kernel
theorem dX6_road_59 : decode cX6_road 59 = .ok (.invokevirtual 52, 3) := by decide +kernel
theorem dX6_road_62 : decode cX6_road 62 = .ok (.ireturn, 1) := by decide +kernel
theorem dX6_road_63 : decode cX6_road 63 = .ok (.aload_n 0, 1) := by decide +kernel
theorem dX6_road_64 : decode cX6_road 64 = .ok (.getfield 10, 3) := by decide +kernel
theorem dX6_road_67 : decode cX6_road 67 = .ok (.iload_n 1, 1) := by decide +kernel
theorem dX6_road_68 : decode cX6_road 68 = .ok (.iload_n 2, 1) := by decide +kernel
theorem dX6_road_69 : decode cX6_road 69 = .ok (.iload_n 3, 1) := by decide +kernel
theorem dX6_road_70 : decode cX6_road 70 = .ok (.invokevirtual 99, 3) := by decide +kernel
theorem dX6_road_73 : decode cX6_road 73 = .ok (.ireturn, 1) := by decide +kernel
theorem dX6_roadOf_0 : decode cX6_roadOf 0 = .ok (.aload_n 0, 1) := by decide +kernel
theorem dX6_roadOf_1 : decode cX6_roadOf 1 = .ok (.getfield 10, 3) := by decide +kernel
theorem dX6_roadOf_4 : decode cX6_roadOf 4 = .ok (.iload_n 1, 1) := by decide +kernel
theorem dX6_roadOf_5 : decode cX6_roadOf 5 = .ok (.invokevirtual 103, 3) := by decide +kernel
theorem dX6_roadOf_8 : decode cX6_roadOf 8 = .ok (.ifCond .ne 10, 3) := by decide +kernel
theorem dX6_roadOf_11 : decode cX6_roadOf 11 = .ok (.aload_n 0, 1) := by decide +kernel
theorem dX6_roadOf_12 : decode cX6_roadOf 12 = .ok (.ldc 51, 2) := by decide +kernel
theorem dX6_roadOf_14 : decode cX6_roadOf 14 = .ok (.invokevirtual 52, 3) := by decide +kernel
theorem dX6_roadOf_17 : decode cX6_roadOf 17 = .ok (.ireturn, 1) := by decide +kernel
theorem dX6_roadOf_18 : decode cX6_roadOf 18 = .ok (.iload_n 2, 1) := by decide +kernel
theorem dX6_roadOf_19 : decode cX6_roadOf 19 = .ok (.tableswitch 55 0 2 #[25, 35, 45], 25) := by decide +kernel
theorem dX6_roadOf_44 : decode cX6_roadOf 44 = .ok (.aload_n 0, 1) := by decide +kernel
theorem dX6_roadOf_45 : decode cX6_roadOf 45 = .ok (.getfield 10, 3) := by decide +kernel
theorem dX6_roadOf_48 : decode cX6_roadOf 48 = .ok (.getfield 106, 3) := by decide +kernel
theorem dX6_roadOf_51 : decode cX6_roadOf 51 = .ok (.iload_n 1, 1) := by decide +kernel
theorem dX6_roadOf_52 : decode cX6_roadOf 52 = .ok (.iaload, 1) := by decide +kernel
theorem dX6_roadOf_53 : decode cX6_roadOf 53 = .ok (.ireturn, 1) := by decide +kernel
theorem dX6_roadOf_54 : decode cX6_roadOf 54 = .ok (.aload_n 0, 1) := by decide +kernel
theorem dX6_roadOf_55 : decode cX6_roadOf 55 = .ok (.getfield 10, 3) := by decide +kernel
theorem dX6_roadOf_58 : decode cX6_roadOf 58 = .ok (.getfield 109, 3) := by decide +kernel
theorem dX6_roadOf_61 : decode cX6_roadOf 61 = .ok (.iload_n 1, 1) := by decide +kernel
theorem dX6_roadOf_62 : decode cX6_roadOf 62 = .ok (.iaload, 1) := by decide +kernel
theorem dX6_roadOf_63 : decode cX6_roadOf 63 = .ok (.ireturn, 1) := by decide +kernel
theorem dX6_roadOf_64 : decode cX6_roadOf 64 = .ok (.aload_n 0, 1) := by decide +kernel
theorem dX6_roadOf_65 : decode cX6_roadOf 65 = .ok (.getfield 10, 3) := by decide +kernel
theorem dX6_roadOf_68 : decode cX6_roadOf 68 = .ok (.getfield 112, 3) := by decide +kernel
theorem dX6_roadOf_71 : decode cX6_roadOf 71 = .ok (.iload_n 1, 1) := by decide +kernel
theorem dX6_roadOf_72 : decode cX6_roadOf 72 = .ok (.iaload, 1) := by decide +kernel
theorem dX6_roadOf_73 : decode cX6_roadOf 73 = .ok (.ireturn, 1) := by decide +kernel
theorem dX6_roadOf_74 : decode cX6_roadOf 74 = .ok (.aload_n 0, 1) := by decide +kernel
theorem dX6_roadOf_75 : decode cX6_roadOf 75 = .ok (.ldc 51, 2) := by decide +kernel
theorem dX6_roadOf_77 : decode cX6_roadOf 77 = .ok (.invokevirtual 52, 3) := by decide +kernel
theorem dX6_roadOf_80 : decode cX6_roadOf 80 = .ok (.ireturn, 1) := by decide +kernel
theorem dX6_every_0 : decode cX6_every 0 = .ok (.iload_n 1, 1) := by decide +kernel
theorem dX6_every_1 : decode cX6_every 1 = .ok (.iconst 1, 1) := by decide +kernel
theorem dX6_every_2 : decode cX6_every 2 = .ok (.if_icmp .lt 9, 3) := by decide +kernel
theorem dX6_every_5 : decode cX6_every 5 = .ok (.iload_n 1, 1) := by decide +kernel
theorem dX6_every_6 : decode cX6_every 6 = .ok (.bipush 99, 2) := by decide +kernel
theorem dX6_every_8 : decode cX6_every 8 = .ok (.if_icmp .le 10, 3) := by decide +kernel
theorem dX6_every_11 : decode cX6_every 11 = .ok (.aload_n 0, 1) := by decide +kernel
theorem dX6_every_12 : decode cX6_every 12 = .ok (.ldc 51, 2) := by decide +kernel
theorem dX6_every_14 : decode cX6_every 14 = .ok (.invokevirtual 52, 3) := by decide +kernel
theorem dX6_every_17 : decode cX6_every 17 = .ok (.ireturn, 1) := by decide +kernel
theorem dX6_every_18 : decode cX6_every 18 = .ok (.aload_n 0, 1) := by decide +kernel
theorem dX6_every_19 : decode cX6_every 19 = .ok (.getfield 10, 3) := by decide +kernel
theorem dX6_every_22 : decode cX6_every 22 = .ok (.getfield 115, 3) := by decide +kernel
theorem dX6_every_25 : decode cX6_every 25 = .ok (.istore_n 2, 1) := by decide +kernel
theorem dX6_every_26 : decode cX6_every 26 = .ok (.aload_n 0, 1) := by decide +kernel
theorem dX6_every_27 : decode cX6_every 27 = .ok (.getfield 10, 3) := by decide +kernel
theorem dX6_every_30 : decode cX6_every 30 = .ok (.iload_n 1, 1) := by decide +kernel
theorem dX6_every_31 : decode cX6_every 31 = .ok (.putfield 115, 3) := by decide +kernel
theorem dX6_every_34 : decode cX6_every 34 = .ok (.iload_n 2, 1) := by decide +kernel
theorem dX6_every_35 : decode cX6_every 35 = .ok (.ireturn, 1) := by decide +kernel
theorem dX6_sea_0 : decode cX6_sea 0 = .ok (.aload_n 0, 1) := by decide +kernel
theorem dX6_sea_1 : decode cX6_sea 1 = .ok (.getfield 10, 3) := by decide +kernel
theorem dX6_sea_4 : decode cX6_sea 4 = .ok (.getfield 119, 3) := by decide +kernel
theorem dX6_sea_7 : decode cX6_sea 7 = .ok (.ifCond .ne 12, 3) := by decide +kernel
theorem dX6_sea_10 : decode cX6_sea 10 = .ok (.aload_n 0, 1) := by decide +kernel
theorem dX6_sea_11 : decode cX6_sea 11 = .ok (.ldc 122, 2) := by decide +kernel
theorem dX6_sea_13 : decode cX6_sea 13 = .ok (.invokevirtual 52, 3) := by decide +kernel
theorem dX6_sea_16 : decode cX6_sea 16 = .ok (.goto 10, 3) := by decide +kernel
theorem dX6_sea_19 : decode cX6_sea 19 = .ok (.aload_n 0, 1) := by decide +kernel
theorem dX6_sea_20 : decode cX6_sea 20 = .ok (.getfield 10, 3) := by decide +kernel
theorem dX6_sea_23 : decode cX6_sea 23 = .ok (.invokevirtual 123, 3) := by decide +kernel
theorem dX6_sea_26 : decode cX6_sea 26 = .ok (.ireturn, 1) := by decide +kernel
theorem dX6_peak_0 : decode cX6_peak 0 = .ok (.aload_n 0, 1) := by decide +kernel
theorem dX6_peak_1 : decode cX6_peak 1 = .ok (.getfield 10, 3) := by decide +kernel
theorem dX6_peak_4 : decode cX6_peak 4 = .ok (.getfield 119, 3) := by decide +kernel
theorem dX6_peak_7 : decode cX6_peak 7 = .ok (.ifCond .ne 12, 3) := by decide +kernel
theorem dX6_peak_10 : decode cX6_peak 10 = .ok (.aload_n 0, 1) := by decide +kernel
theorem dX6_peak_11 : decode cX6_peak 11 = .ok (.ldc 122, 2) := by decide +kernel
theorem dX6_peak_13 : decode cX6_peak 13 = .ok (.invokevirtual 52, 3) := by decide +kernel
theorem dX6_peak_16 : decode cX6_peak 16 = .ok (.goto 10, 3) := by decide +kernel
theorem dX6_peak_19 : decode cX6_peak 19 = .ok (.aload_n 0, 1) := by decide +kernel
theorem dX6_peak_20 : decode cX6_peak 20 = .ok (.getfield 10, 3) := by decide +kernel
theorem dX6_peak_23 : decode cX6_peak 23 = .ok (.invokevirtual 127, 3) := by decide +kernel
theorem dX6_peak_26 : decode cX6_peak 26 = .ok (.ireturn, 1) := by decide +kernel
theorem dX6_needs_0 : decode cX6_needs 0 = .ok (.iload_n 1, 1) := by decide +kernel
theorem dX6_needs_1 : decode cX6_needs 1 = .ok (.invokestatic 130, 3) := by decide +kernel
theorem dX6_needs_4 : decode cX6_needs 4 = .ok (.ifCond .eq 14, 3) := by decide +kernel
theorem dX6_needs_7 : decode cX6_needs 7 = .ok (.aload_n 0, 1) := by decide +kernel
theorem dX6_needs_8 : decode cX6_needs 8 = .ok (.getfield 10, 3) := by decide +kernel
theorem dX6_needs_11 : decode cX6_needs 11 = .ok (.iload_n 2, 1) := by decide +kernel
theorem dX6_needs_12 : decode cX6_needs 12 = .ok (.invokevirtual 103, 3) := by decide +kernel
theorem dX6_needs_15 : decode cX6_needs 15 = .ok (.ifCond .ne 10, 3) := by decide +kernel
theorem dX6_needs_18 : decode cX6_needs 18 = .ok (.aload_n 0, 1) := by decide +kernel
theorem dX6_needs_19 : decode cX6_needs 19 = .ok (.ldc 51, 2) := by decide +kernel
theorem dX6_needs_21 : decode cX6_needs 21 = .ok (.invokevirtual 52, 3) := by decide +kernel
theorem dX6_needs_24 : decode cX6_needs 24 = .ok (.ireturn, 1) := by decide +kernel
theorem dX6_needs_25 : decode cX6_needs 25 = .ok (.iload_n 1, 1) := by decide +kernel
theorem dX6_needs_26 : decode cX6_needs 26 = .ok (.aload_n 0, 1) := by decide +kernel
theorem dX6_needs_27 : decode cX6_needs 27 = .ok (.getfield 10, 3) := by decide +kernel
theorem dX6_needs_30 : decode cX6_needs 30 = .ok (.getfield 112, 3) := by decide +kernel
theorem dX6_needs_33 : decode cX6_needs 33 = .ok (.iload_n 2, 1) := by decide +kernel
theorem dX6_needs_34 : decode cX6_needs 34 = .ok (.iaload, 1) := by decide +kernel
theorem dX6_needs_35 : decode cX6_needs 35 = .ok (.invokestatic 133, 3) := by decide +kernel
theorem dX6_needs_38 : decode cX6_needs 38 = .ok (.ireturn, 1) := by decide +kernel
theorem dX6_goes_0 : decode cX6_goes 0 = .ok (.iload_n 1, 1) := by decide +kernel
theorem dX6_goes_1 : decode cX6_goes 1 = .ok (.invokestatic 130, 3) := by decide +kernel
theorem dX6_goes_4 : decode cX6_goes 4 = .ok (.ifCond .eq 14, 3) := by decide +kernel
theorem dX6_goes_7 : decode cX6_goes 7 = .ok (.aload_n 0, 1) := by decide +kernel
theorem dX6_goes_8 : decode cX6_goes 8 = .ok (.getfield 10, 3) := by decide +kernel
theorem dX6_goes_11 : decode cX6_goes 11 = .ok (.iload_n 2, 1) := by decide +kernel
theorem dX6_goes_12 : decode cX6_goes 12 = .ok (.invokevirtual 103, 3) := by decide +kernel
theorem dX6_goes_15 : decode cX6_goes 15 = .ok (.ifCond .ne 10, 3) := by decide +kernel
theorem dX6_goes_18 : decode cX6_goes 18 = .ok (.aload_n 0, 1) := by decide +kernel
theorem dX6_goes_19 : decode cX6_goes 19 = .ok (.ldc 51, 2) := by decide +kernel
theorem dX6_goes_21 : decode cX6_goes 21 = .ok (.invokevirtual 52, 3) := by decide +kernel
theorem dX6_goes_24 : decode cX6_goes 24 = .ok (.ireturn, 1) := by decide +kernel
theorem dX6_goes_25 : decode cX6_goes 25 = .ok (.aload_n 0, 1) := by decide +kernel
theorem dX6_goes_26 : decode cX6_goes 26 = .ok (.getfield 10, 3) := by decide +kernel
theorem dX6_goes_29 : decode cX6_goes 29 = .ok (.getfield 106, 3) := by decide +kernel
theorem dX6_goes_32 : decode cX6_goes 32 = .ok (.iload_n 2, 1) := by decide +kernel
theorem dX6_goes_33 : decode cX6_goes 33 = .ok (.iaload, 1) := by decide +kernel
theorem dX6_goes_34 : decode cX6_goes 34 = .ok (.istore 4, 2) := by decide +kernel
theorem dX6_goes_36 : decode cX6_goes 36 = .ok (.aload_n 0, 1) := by decide +kernel
theorem dX6_goes_37 : decode cX6_goes 37 = .ok (.getfield 10, 3) := by decide +kernel
theorem dX6_goes_40 : decode cX6_goes 40 = .ok (.getfield 109, 3) := by decide +kernel
theorem dX6_goes_43 : decode cX6_goes 43 = .ok (.iload_n 2, 1) := by decide +kernel
theorem dX6_goes_44 : decode cX6_goes 44 = .ok (.iaload, 1) := by decide +kernel
theorem dX6_goes_45 : decode cX6_goes 45 = .ok (.istore 5, 2) := by decide +kernel
theorem dX6_goes_47 : decode cX6_goes 47 = .ok (.iload_n 3, 1) := by decide +kernel
theorem dX6_goes_48 : decode cX6_goes 48 = .ok (.ifCond .eq 18, 3) := by decide +kernel
theorem dX6_goes_51 : decode cX6_goes 51 = .ok (.aload_n 0, 1) := by decide +kernel
theorem dX6_goes_52 : decode cX6_goes 52 = .ok (.getfield 10, 3) := by decide +kernel
theorem dX6_goes_55 : decode cX6_goes 55 = .ok (.iload_n 1, 1) := by decide +kernel
theorem dX6_goes_56 : decode cX6_goes 56 = .ok (.iload 5, 2) := by decide +kernel
theorem dX6_goes_58 : decode cX6_goes 58 = .ok (.iload 4, 2) := by decide +kernel
theorem dX6_goes_60 : decode cX6_goes 60 = .ok (.invokevirtual 139, 3) := by decide +kernel
theorem dX6_goes_63 : decode cX6_goes 63 = .ok (.goto 15, 3) := by decide +kernel
theorem dX6_goes_66 : decode cX6_goes 66 = .ok (.aload_n 0, 1) := by decide +kernel
theorem dX6_goes_67 : decode cX6_goes 67 = .ok (.getfield 10, 3) := by decide +kernel
theorem dX6_goes_70 : decode cX6_goes 70 = .ok (.iload_n 1, 1) := by decide +kernel
theorem dX6_goes_71 : decode cX6_goes 71 = .ok (.iload 4, 2) := by decide +kernel
theorem dX6_goes_73 : decode cX6_goes 73 = .ok (.iload 5, 2) := by decide +kernel
theorem dX6_goes_75 : decode cX6_goes 75 = .ok (.invokevirtual 139, 3) := by decide +kernel
theorem dX6_goes_78 : decode cX6_goes 78 = .ok (.istore 6, 2) := by decide +kernel
theorem dX6_goes_80 : decode cX6_goes 80 = .ok (.iload 6, 2) := by decide +kernel
theorem dX6_goes_82 : decode cX6_goes 82 = .ok (.ifCond .eq 7, 3) := by decide +kernel
theorem dX6_goes_85 : decode cX6_goes 85 = .ok (.iconst 1, 1) := by decide +kernel
theorem dX6_goes_86 : decode cX6_goes 86 = .ok (.goto 4, 3) := by decide +kernel
theorem dX6_goes_89 : decode cX6_goes 89 = .ok (.iconst 0, 1) := by decide +kernel
theorem dX6_goes_90 : decode cX6_goes 90 = .ok (.ireturn, 1) := by decide +kernel
theorem dX6_least_0 : decode cX6_least 0 = .ok (.iload_n 1, 1) := by decide +kernel
theorem dX6_least_1 : decode cX6_least 1 = .ok (.invokestatic 130, 3) := by decide +kernel
theorem dX6_least_4 : decode cX6_least 4 = .ok (.ifCond .eq 12, 3) := by decide +kernel
theorem dX6_least_7 : decode cX6_least 7 = .ok (.aload_n 0, 1) := by decide +kernel
theorem dX6_least_8 : decode cX6_least 8 = .ok (.iload_n 2, 1) := by decide +kernel
theorem dX6_least_9 : decode cX6_least 9 = .ok (.iload_n 3, 1) := by decide +kernel
theorem dX6_least_10 : decode cX6_least 10 = .ok (.invokevirtual 143, 3) := by decide +kernel
theorem dX6_least_13 : decode cX6_least 13 = .ok (.ifCond .ne 10, 3) := by decide +kernel
theorem dX6_least_16 : decode cX6_least 16 = .ok (.aload_n 0, 1) := by decide +kernel
theorem dX6_least_17 : decode cX6_least 17 = .ok (.ldc 51, 2) := by decide +kernel
theorem dX6_least_19 : decode cX6_least 19 = .ok (.invokevirtual 52, 3) := by decide +kernel
theorem dX6_least_22 : decode cX6_least 22 = .ok (.ireturn, 1) := by decide +kernel
theorem dX6_least_23 : decode cX6_least 23 = .ok (.aload_n 0, 1) := by decide +kernel
theorem dX6_least_24 : decode cX6_least 24 = .ok (.getfield 25, 3) := by decide +kernel
theorem dX6_least_27 : decode cX6_least 27 = .ok (.aload_n 0, 1) := by decide +kernel
theorem dX6_least_28 : decode cX6_least 28 = .ok (.getfield 10, 3) := by decide +kernel
theorem dX6_least_31 : decode cX6_least 31 = .ok (.iload_n 1, 1) := by decide +kernel
theorem dX6_least_32 : decode cX6_least 32 = .ok (.invokevirtual 146, 3) := by decide +kernel
theorem dX6_least_35 : decode cX6_least 35 = .ok (.aload_n 0, 1) := by decide +kernel
theorem dX6_least_36 : decode cX6_least 36 = .ok (.aload_n 0, 1) := by decide +kernel
theorem dX6_least_37 : decode cX6_least 37 = .ok (.getfield 25, 3) := by decide +kernel
theorem dX6_least_40 : decode cX6_least 40 = .ok (.iload_n 2, 1) := by decide +kernel
theorem dX6_least_41 : decode cX6_least 41 = .ok (.iload_n 3, 1) := by decide +kernel
theorem dX6_least_42 : decode cX6_least 42 = .ok (.aload_n 0, 1) := by decide +kernel
theorem dX6_least_43 : decode cX6_least 43 = .ok (.getfield 10, 3) := by decide +kernel
theorem dX6_least_46 : decode cX6_least 46 = .ok (.getfield 150, 3) := by decide +kernel
theorem dX6_least_49 : decode cX6_least 49 = .ok (.invokevirtual 153, 3) := by decide +kernel
theorem dX6_least_52 : decode cX6_least 52 = .ok (.invokevirtual 156, 3) := by decide +kernel
theorem dX6_least_55 : decode cX6_least 55 = .ok (.ireturn, 1) := by decide +kernel
theorem dX6_reach_0 : decode cX6_reach 0 = .ok (.iload_n 1, 1) := by decide +kernel
theorem dX6_reach_1 : decode cX6_reach 1 = .ok (.invokestatic 130, 3) := by decide +kernel
theorem dX6_reach_4 : decode cX6_reach 4 = .ok (.ifCond .eq 14, 3) := by decide +kernel
theorem dX6_reach_7 : decode cX6_reach 7 = .ok (.aload_n 0, 1) := by decide +kernel
theorem dX6_reach_8 : decode cX6_reach 8 = .ok (.getfield 10, 3) := by decide +kernel
theorem dX6_reach_11 : decode cX6_reach 11 = .ok (.iload_n 2, 1) := by decide +kernel
theorem dX6_reach_12 : decode cX6_reach 12 = .ok (.invokevirtual 65, 3) := by decide +kernel
theorem dX6_reach_15 : decode cX6_reach 15 = .ok (.ifCond .ne 10, 3) := by decide +kernel
theorem dX6_reach_18 : decode cX6_reach 18 = .ok (.aload_n 0, 1) := by decide +kernel
theorem dX6_reach_19 : decode cX6_reach 19 = .ok (.ldc 51, 2) := by decide +kernel
theorem dX6_reach_21 : decode cX6_reach 21 = .ok (.invokevirtual 52, 3) := by decide +kernel
theorem dX6_reach_24 : decode cX6_reach 24 = .ok (.ireturn, 1) := by decide +kernel
theorem dX6_reach_25 : decode cX6_reach 25 = .ok (.aload_n 0, 1) := by decide +kernel
theorem dX6_reach_26 : decode cX6_reach 26 = .ok (.getfield 25, 3) := by decide +kernel
theorem dX6_reach_29 : decode cX6_reach 29 = .ok (.aload_n 0, 1) := by decide +kernel
theorem dX6_reach_30 : decode cX6_reach 30 = .ok (.getfield 10, 3) := by decide +kernel
theorem dX6_reach_33 : decode cX6_reach 33 = .ok (.iload_n 1, 1) := by decide +kernel
theorem dX6_reach_34 : decode cX6_reach 34 = .ok (.invokevirtual 146, 3) := by decide +kernel
theorem dX6_reach_37 : decode cX6_reach 37 = .ok (.aload_n 0, 1) := by decide +kernel
theorem dX6_reach_38 : decode cX6_reach 38 = .ok (.getfield 25, 3) := by decide +kernel
theorem dX6_reach_41 : decode cX6_reach 41 = .ok (.iload_n 2, 1) := by decide +kernel
theorem dX6_reach_42 : decode cX6_reach 42 = .ok (.invokevirtual 159, 3) := by decide +kernel
theorem dX6_reach_45 : decode cX6_reach 45 = .ok (.ireturn, 1) := by decide +kernel
theorem dX6_whence_0 : decode cX6_whence 0 = .ok (.iload_n 1, 1) := by decide +kernel
theorem dX6_whence_1 : decode cX6_whence 1 = .ok (.invokestatic 130, 3) := by decide +kernel
theorem dX6_whence_4 : decode cX6_whence 4 = .ok (.ifCond .eq 14, 3) := by decide +kernel
theorem dX6_whence_7 : decode cX6_whence 7 = .ok (.aload_n 0, 1) := by decide +kernel
theorem dX6_whence_8 : decode cX6_whence 8 = .ok (.getfield 10, 3) := by decide +kernel
theorem dX6_whence_11 : decode cX6_whence 11 = .ok (.iload_n 2, 1) := by decide +kernel
theorem dX6_whence_12 : decode cX6_whence 12 = .ok (.invokevirtual 65, 3) := by decide +kernel
theorem dX6_whence_15 : decode cX6_whence 15 = .ok (.ifCond .ne 10, 3) := by decide +kernel
theorem dX6_whence_18 : decode cX6_whence 18 = .ok (.aload_n 0, 1) := by decide +kernel
theorem dX6_whence_19 : decode cX6_whence 19 = .ok (.ldc 51, 2) := by decide +kernel
theorem dX6_whence_21 : decode cX6_whence 21 = .ok (.invokevirtual 52, 3) := by decide +kernel
theorem dX6_whence_24 : decode cX6_whence 24 = .ok (.ireturn, 1) := by decide +kernel
theorem dX6_whence_25 : decode cX6_whence 25 = .ok (.aload_n 0, 1) := by decide +kernel
theorem dX6_whence_26 : decode cX6_whence 26 = .ok (.getfield 25, 3) := by decide +kernel
theorem dX6_whence_29 : decode cX6_whence 29 = .ok (.aload_n 0, 1) := by decide +kernel
theorem dX6_whence_30 : decode cX6_whence 30 = .ok (.getfield 10, 3) := by decide +kernel
theorem dX6_whence_33 : decode cX6_whence 33 = .ok (.iload_n 1, 1) := by decide +kernel
theorem dX6_whence_34 : decode cX6_whence 34 = .ok (.invokevirtual 146, 3) := by decide +kernel
theorem dX6_whence_37 : decode cX6_whence 37 = .ok (.aload_n 0, 1) := by decide +kernel
theorem dX6_whence_38 : decode cX6_whence 38 = .ok (.getfield 25, 3) := by decide +kernel
theorem dX6_whence_41 : decode cX6_whence 41 = .ok (.iload_n 2, 1) := by decide +kernel
theorem dX6_whence_42 : decode cX6_whence 42 = .ok (.invokevirtual 162, 3) := by decide +kernel
theorem dX6_whence_45 : decode cX6_whence 45 = .ok (.ireturn, 1) := by decide +kernel
theorem dX6_below_0 : decode cX6_below 0 = .ok (.iload_n 1, 1) := by decide +kernel
theorem dX6_below_1 : decode cX6_below 1 = .ok (.invokestatic 130, 3) := by decide +kernel
theorem dX6_below_4 : decode cX6_below 4 = .ok (.ifCond .eq 14, 3) := by decide +kernel
theorem dX6_below_7 : decode cX6_below 7 = .ok (.aload_n 0, 1) := by decide +kernel
theorem dX6_below_8 : decode cX6_below 8 = .ok (.getfield 10, 3) := by decide +kernel
theorem dX6_below_11 : decode cX6_below 11 = .ok (.iload_n 2, 1) := by decide +kernel
theorem dX6_below_12 : decode cX6_below 12 = .ok (.invokevirtual 65, 3) := by decide +kernel
theorem dX6_below_15 : decode cX6_below 15 = .ok (.ifCond .ne 10, 3) := by decide +kernel
theorem dX6_below_18 : decode cX6_below 18 = .ok (.aload_n 0, 1) := by decide +kernel
theorem dX6_below_19 : decode cX6_below 19 = .ok (.ldc 51, 2) := by decide +kernel
theorem dX6_below_21 : decode cX6_below 21 = .ok (.invokevirtual 52, 3) := by decide +kernel
theorem dX6_below_24 : decode cX6_below 24 = .ok (.ireturn, 1) := by decide +kernel
theorem dX6_below_25 : decode cX6_below 25 = .ok (.aload_n 0, 1) := by decide +kernel
theorem dX6_below_26 : decode cX6_below 26 = .ok (.getfield 25, 3) := by decide +kernel
theorem dX6_below_29 : decode cX6_below 29 = .ok (.aload_n 0, 1) := by decide +kernel
theorem dX6_below_30 : decode cX6_below 30 = .ok (.getfield 10, 3) := by decide +kernel
theorem dX6_below_33 : decode cX6_below 33 = .ok (.iload_n 1, 1) := by decide +kernel
theorem dX6_below_34 : decode cX6_below 34 = .ok (.invokevirtual 146, 3) := by decide +kernel
theorem dX6_below_37 : decode cX6_below 37 = .ok (.aload_n 0, 1) := by decide +kernel
theorem dX6_below_38 : decode cX6_below 38 = .ok (.getfield 25, 3) := by decide +kernel
theorem dX6_below_41 : decode cX6_below 41 = .ok (.iload_n 2, 1) := by decide +kernel
theorem dX6_below_42 : decode cX6_below 42 = .ok (.invokevirtual 165, 3) := by decide +kernel
theorem dX6_below_45 : decode cX6_below 45 = .ok (.ireturn, 1) := by decide +kernel
theorem dX6_round_0 : decode cX6_round 0 = .ok (.iload_n 1, 1) := by decide +kernel
theorem dX6_round_1 : decode cX6_round 1 = .ok (.invokestatic 130, 3) := by decide +kernel
theorem dX6_round_4 : decode cX6_round 4 = .ok (.ifCond .eq 12, 3) := by decide +kernel
theorem dX6_round_7 : decode cX6_round 7 = .ok (.aload_n 0, 1) := by decide +kernel
theorem dX6_round_8 : decode cX6_round 8 = .ok (.iload_n 2, 1) := by decide +kernel
theorem dX6_round_9 : decode cX6_round 9 = .ok (.iload_n 3, 1) := by decide +kernel
theorem dX6_round_10 : decode cX6_round 10 = .ok (.invokevirtual 143, 3) := by decide +kernel
theorem dX6_round_13 : decode cX6_round 13 = .ok (.ifCond .ne 10, 3) := by decide +kernel
theorem dX6_round_16 : decode cX6_round 16 = .ok (.aload_n 0, 1) := by decide +kernel
theorem dX6_round_17 : decode cX6_round 17 = .ok (.ldc 51, 2) := by decide +kernel
theorem dX6_round_19 : decode cX6_round 19 = .ok (.invokevirtual 52, 3) := by decide +kernel
theorem dX6_round_22 : decode cX6_round 22 = .ok (.ireturn, 1) := by decide +kernel
theorem dX6_round_23 : decode cX6_round 23 = .ok (.aload_n 0, 1) := by decide +kernel
theorem dX6_round_24 : decode cX6_round 24 = .ok (.getfield 25, 3) := by decide +kernel
theorem dX6_round_27 : decode cX6_round 27 = .ok (.aload_n 0, 1) := by decide +kernel
theorem dX6_round_28 : decode cX6_round 28 = .ok (.getfield 10, 3) := by decide +kernel
theorem dX6_round_31 : decode cX6_round 31 = .ok (.iload_n 1, 1) := by decide +kernel
theorem dX6_round_32 : decode cX6_round 32 = .ok (.invokevirtual 146, 3) := by decide +kernel
theorem dX6_round_35 : decode cX6_round 35 = .ok (.aload_n 0, 1) := by decide +kernel
theorem dX6_round_36 : decode cX6_round 36 = .ok (.aload_n 0, 1) := by decide +kernel
theorem dX6_round_37 : decode cX6_round 37 = .ok (.getfield 25, 3) := by decide +kernel
theorem dX6_round_40 : decode cX6_round 40 = .ok (.iload_n 2, 1) := by decide +kernel
theorem dX6_round_41 : decode cX6_round 41 = .ok (.iload_n 3, 1) := by decide +kernel
theorem dX6_round_42 : decode cX6_round 42 = .ok (.aload_n 0, 1) := by decide +kernel
theorem dX6_round_43 : decode cX6_round 43 = .ok (.getfield 10, 3) := by decide +kernel
theorem dX6_round_46 : decode cX6_round 46 = .ok (.getfield 150, 3) := by decide +kernel
theorem dX6_round_49 : decode cX6_round 49 = .ok (.invokevirtual 168, 3) := by decide +kernel
theorem dX6_round_52 : decode cX6_round 52 = .ok (.invokevirtual 156, 3) := by decide +kernel
theorem dX6_round_55 : decode cX6_round 55 = .ok (.ireturn, 1) := by decide +kernel
theorem dX6_live_0 : decode cX6_live 0 = .ok (.iload_n 1, 1) := by decide +kernel
theorem dX6_live_1 : decode cX6_live 1 = .ok (.invokestatic 130, 3) := by decide +kernel
theorem dX6_live_4 : decode cX6_live 4 = .ok (.ifCond .eq 21, 3) := by decide +kernel
theorem dX6_live_7 : decode cX6_live 7 = .ok (.iload_n 2, 1) := by decide +kernel
theorem dX6_live_8 : decode cX6_live 8 = .ok (.ifCond .eq 17, 3) := by decide +kernel
theorem dX6_live_11 : decode cX6_live 11 = .ok (.iload_n 2, 1) := by decide +kernel
theorem dX6_live_12 : decode cX6_live 12 = .ok (.aload_n 0, 1) := by decide +kernel
theorem dX6_live_13 : decode cX6_live 13 = .ok (.getfield 10, 3) := by decide +kernel
theorem dX6_live_16 : decode cX6_live 16 = .ok (.invokevirtual 171, 3) := by decide +kernel
theorem dX6_live_19 : decode cX6_live 19 = .ok (.iconst (-1), 1) := by decide +kernel
theorem dX6_live_20 : decode cX6_live 20 = .ok (.ixor, 1) := by decide +kernel
theorem dX6_live_21 : decode cX6_live 21 = .ok (.iand, 1) := by decide +kernel
theorem dX6_live_22 : decode cX6_live 22 = .ok (.ifCond .eq 10, 3) := by decide +kernel
theorem dX6_live_25 : decode cX6_live 25 = .ok (.aload_n 0, 1) := by decide +kernel
theorem dX6_live_26 : decode cX6_live 26 = .ok (.ldc 51, 2) := by decide +kernel
theorem dX6_live_28 : decode cX6_live 28 = .ok (.invokevirtual 52, 3) := by decide +kernel
theorem dX6_live_31 : decode cX6_live 31 = .ok (.ireturn, 1) := by decide +kernel
theorem dX6_live_32 : decode cX6_live 32 = .ok (.aload_n 0, 1) := by decide +kernel
theorem dX6_live_33 : decode cX6_live 33 = .ok (.getfield 25, 3) := by decide +kernel
theorem dX6_live_36 : decode cX6_live 36 = .ok (.aload_n 0, 1) := by decide +kernel
theorem dX6_live_37 : decode cX6_live 37 = .ok (.getfield 10, 3) := by decide +kernel
theorem dX6_live_40 : decode cX6_live 40 = .ok (.iload_n 1, 1) := by decide +kernel
theorem dX6_live_41 : decode cX6_live 41 = .ok (.invokevirtual 146, 3) := by decide +kernel
theorem dX6_live_44 : decode cX6_live 44 = .ok (.aload_n 0, 1) := by decide +kernel
theorem dX6_live_45 : decode cX6_live 45 = .ok (.getfield 25, 3) := by decide +kernel
theorem dX6_live_48 : decode cX6_live 48 = .ok (.iload_n 2, 1) := by decide +kernel
theorem dX6_live_49 : decode cX6_live 49 = .ok (.aload_n 0, 1) := by decide +kernel
theorem dX6_live_50 : decode cX6_live 50 = .ok (.getfield 10, 3) := by decide +kernel
theorem dX6_live_53 : decode cX6_live 53 = .ok (.getfield 150, 3) := by decide +kernel
theorem dX6_live_56 : decode cX6_live 56 = .ok (.invokevirtual 174, 3) := by decide +kernel
theorem dX6_live_59 : decode cX6_live 59 = .ok (.istore_n 3, 1) := by decide +kernel
theorem dX6_live_60 : decode cX6_live 60 = .ok (.iload_n 3, 1) := by decide +kernel
theorem dX6_live_61 : decode cX6_live 61 = .ok (.ifCond .ge 12, 3) := by decide +kernel
theorem dX6_live_64 : decode cX6_live 64 = .ok (.aload_n 0, 1) := by decide +kernel
theorem dX6_live_65 : decode cX6_live 65 = .ok (.ldc 122, 2) := by decide +kernel
theorem dX6_live_67 : decode cX6_live 67 = .ok (.invokevirtual 52, 3) := by decide +kernel
theorem dX6_live_70 : decode cX6_live 70 = .ok (.goto 4, 3) := by decide +kernel
theorem dX6_live_73 : decode cX6_live 73 = .ok (.iload_n 3, 1) := by decide +kernel
theorem dX6_live_74 : decode cX6_live 74 = .ok (.ireturn, 1) := by decide +kernel
theorem dX6_quiet_0 : decode cX6_quiet 0 = .ok (.iload_n 1, 1) := by decide +kernel
theorem dX6_quiet_1 : decode cX6_quiet 1 = .ok (.invokestatic 130, 3) := by decide +kernel
theorem dX6_quiet_4 : decode cX6_quiet 4 = .ok (.ifCond .ne 10, 3) := by decide +kernel
theorem dX6_quiet_7 : decode cX6_quiet 7 = .ok (.aload_n 0, 1) := by decide +kernel
theorem dX6_quiet_8 : decode cX6_quiet 8 = .ok (.ldc 51, 2) := by decide +kernel
theorem dX6_quiet_10 : decode cX6_quiet 10 = .ok (.invokevirtual 52, 3) := by decide +kernel
theorem dX6_quiet_13 : decode cX6_quiet 13 = .ok (.ireturn, 1) := by decide +kernel
theorem dX6_quiet_14 : decode cX6_quiet 14 = .ok (.aload_n 0, 1) := by decide +kernel
theorem dX6_quiet_15 : decode cX6_quiet 15 = .ok (.getfield 25, 3) := by decide +kernel
theorem dX6_quiet_18 : decode cX6_quiet 18 = .ok (.aload_n 0, 1) := by decide +kernel
theorem dX6_quiet_19 : decode cX6_quiet 19 = .ok (.getfield 10, 3) := by decide +kernel
theorem dX6_quiet_22 : decode cX6_quiet 22 = .ok (.iload_n 1, 1) := by decide +kernel
theorem dX6_quiet_23 : decode cX6_quiet 23 = .ok (.invokevirtual 146, 3) := by decide +kernel
theorem dX6_quiet_26 : decode cX6_quiet 26 = .ok (.aload_n 0, 1) := by decide +kernel
theorem dX6_quiet_27 : decode cX6_quiet 27 = .ok (.getfield 25, 3) := by decide +kernel
theorem dX6_quiet_30 : decode cX6_quiet 30 = .ok (.invokevirtual 177, 3) := by decide +kernel
theorem dX6_quiet_33 : decode cX6_quiet 33 = .ok (.ireturn, 1) := by decide +kernel
theorem dX6_kind_0 : decode cX6_kind 0 = .ok (.aload_n 0, 1) := by decide +kernel
theorem dX6_kind_1 : decode cX6_kind 1 = .ok (.iload_n 1, 1) := by decide +kernel
theorem dX6_kind_2 : decode cX6_kind 2 = .ok (.iload_n 2, 1) := by decide +kernel
theorem dX6_kind_3 : decode cX6_kind 3 = .ok (.invokevirtual 143, 3) := by decide +kernel
theorem dX6_kind_6 : decode cX6_kind 6 = .ok (.ifCond .ne 10, 3) := by decide +kernel
theorem dX6_kind_9 : decode cX6_kind 9 = .ok (.aload_n 0, 1) := by decide +kernel
theorem dX6_kind_10 : decode cX6_kind 10 = .ok (.ldc 51, 2) := by decide +kernel
theorem dX6_kind_12 : decode cX6_kind 12 = .ok (.invokevirtual 52, 3) := by decide +kernel
theorem dX6_kind_15 : decode cX6_kind 15 = .ok (.ireturn, 1) := by decide +kernel
theorem dX6_kind_16 : decode cX6_kind 16 = .ok (.iconst (-1), 1) := by decide +kernel
theorem dX6_kind_17 : decode cX6_kind 17 = .ok (.istore_n 3, 1) := by decide +kernel
theorem dX6_kind_18 : decode cX6_kind 18 = .ok (.ldc 180, 2) := by decide +kernel
theorem dX6_kind_20 : decode cX6_kind 20 = .ok (.istore 4, 2) := by decide +kernel
theorem dX6_kind_22 : decode cX6_kind 22 = .ok (.iconst 0, 1) := by decide +kernel
theorem dX6_kind_23 : decode cX6_kind 23 = .ok (.istore 5, 2) := by decide +kernel
theorem dX6_kind_25 : decode cX6_kind 25 = .ok (.iload 5, 2) := by decide +kernel
theorem dX6_kind_27 : decode cX6_kind 27 = .ok (.bipush 6, 2) := by decide +kernel
theorem dX6_kind_29 : decode cX6_kind 29 = .ok (.if_icmp .ge 54, 3) := by decide +kernel
theorem dX6_kind_32 : decode cX6_kind 32 = .ok (.aload_n 0, 1) := by decide +kernel
theorem dX6_kind_33 : decode cX6_kind 33 = .ok (.getfield 25, 3) := by decide +kernel
theorem dX6_kind_36 : decode cX6_kind 36 = .ok (.aload_n 0, 1) := by decide +kernel
theorem dX6_kind_37 : decode cX6_kind 37 = .ok (.getfield 10, 3) := by decide +kernel
theorem dX6_kind_40 : decode cX6_kind 40 = .ok (.iload 5, 2) := by decide +kernel
theorem dX6_kind_42 : decode cX6_kind 42 = .ok (.invokevirtual 146, 3) := by decide +kernel
theorem dX6_kind_45 : decode cX6_kind 45 = .ok (.aload_n 0, 1) := by decide +kernel
theorem dX6_kind_46 : decode cX6_kind 46 = .ok (.getfield 25, 3) := by decide +kernel
theorem dX6_kind_49 : decode cX6_kind 49 = .ok (.iload_n 1, 1) := by decide +kernel
theorem dX6_kind_50 : decode cX6_kind 50 = .ok (.iload_n 2, 1) := by decide +kernel
theorem dX6_kind_51 : decode cX6_kind 51 = .ok (.aload_n 0, 1) := by decide +kernel
theorem dX6_kind_52 : decode cX6_kind 52 = .ok (.getfield 10, 3) := by decide +kernel
theorem dX6_kind_55 : decode cX6_kind 55 = .ok (.getfield 150, 3) := by decide +kernel
theorem dX6_kind_58 : decode cX6_kind 58 = .ok (.invokevirtual 153, 3) := by decide +kernel
theorem dX6_kind_61 : decode cX6_kind 61 = .ok (.istore 6, 2) := by decide +kernel
theorem dX6_kind_63 : decode cX6_kind 63 = .ok (.iload 6, 2) := by decide +kernel
theorem dX6_kind_65 : decode cX6_kind 65 = .ok (.iload 4, 2) := by decide +kernel
theorem dX6_kind_67 : decode cX6_kind 67 = .ok (.if_icmp .ge 10, 3) := by decide +kernel
theorem dX6_kind_70 : decode cX6_kind 70 = .ok (.iload 5, 2) := by decide +kernel
theorem dX6_kind_72 : decode cX6_kind 72 = .ok (.istore_n 3, 1) := by decide +kernel
theorem dX6_kind_73 : decode cX6_kind 73 = .ok (.iload 6, 2) := by decide +kernel
theorem dX6_kind_75 : decode cX6_kind 75 = .ok (.istore 4, 2) := by decide +kernel
theorem dX6_kind_77 : decode cX6_kind 77 = .ok (.iinc 5 1, 3) := by decide +kernel
theorem dX6_kind_80 : decode cX6_kind 80 = .ok (.goto (-55), 3) := by decide +kernel
theorem dX6_kind_83 : decode cX6_kind 83 = .ok (.iload_n 3, 1) := by decide +kernel
theorem dX6_kind_84 : decode cX6_kind 84 = .ok (.ifCond .ge 12, 3) := by decide +kernel
theorem dX6_kind_87 : decode cX6_kind 87 = .ok (.aload_n 0, 1) := by decide +kernel
theorem dX6_kind_88 : decode cX6_kind 88 = .ok (.ldc 122, 2) := by decide +kernel
theorem dX6_kind_90 : decode cX6_kind 90 = .ok (.invokevirtual 52, 3) := by decide +kernel
theorem dX6_kind_93 : decode cX6_kind 93 = .ok (.goto 4, 3) := by decide +kernel
theorem dX6_kind_96 : decode cX6_kind 96 = .ok (.iload_n 3, 1) := by decide +kernel
theorem dX6_kind_97 : decode cX6_kind 97 = .ok (.ireturn, 1) := by decide +kernel
theorem dX6_rise_0 : decode cX6_rise 0 = .ok (.iload_n 1, 1) := by decide +kernel
theorem dX6_rise_1 : decode cX6_rise 1 = .ok (.invokestatic 130, 3) := by decide +kernel
theorem dX6_rise_4 : decode cX6_rise 4 = .ok (.ifCond .eq 12, 3) := by decide +kernel
theorem dX6_rise_7 : decode cX6_rise 7 = .ok (.aload_n 0, 1) := by decide +kernel
theorem dX6_rise_8 : decode cX6_rise 8 = .ok (.iload_n 2, 1) := by decide +kernel
theorem dX6_rise_9 : decode cX6_rise 9 = .ok (.iload_n 3, 1) := by decide +kernel
theorem dX6_rise_10 : decode cX6_rise 10 = .ok (.invokevirtual 88, 3) := by decide +kernel
theorem dX6_rise_13 : decode cX6_rise 13 = .ok (.ifCond .ne 10, 3) := by decide +kernel
theorem dX6_rise_16 : decode cX6_rise 16 = .ok (.aload_n 0, 1) := by decide +kernel
theorem dX6_rise_17 : decode cX6_rise 17 = .ok (.ldc 51, 2) := by decide +kernel
theorem dX6_rise_19 : decode cX6_rise 19 = .ok (.invokevirtual 52, 3) := by decide +kernel
theorem dX6_rise_22 : decode cX6_rise 22 = .ok (.ireturn, 1) := by decide +kernel
theorem dX6_rise_23 : decode cX6_rise 23 = .ok (.aload_n 0, 1) := by decide +kernel
theorem dX6_rise_24 : decode cX6_rise 24 = .ok (.getfield 25, 3) := by decide +kernel
theorem dX6_rise_27 : decode cX6_rise 27 = .ok (.aload_n 0, 1) := by decide +kernel
theorem dX6_rise_28 : decode cX6_rise 28 = .ok (.getfield 10, 3) := by decide +kernel
theorem dX6_rise_31 : decode cX6_rise 31 = .ok (.iload_n 1, 1) := by decide +kernel
theorem dX6_rise_32 : decode cX6_rise 32 = .ok (.invokevirtual 146, 3) := by decide +kernel
theorem dX6_rise_35 : decode cX6_rise 35 = .ok (.aload_n 0, 1) := by decide +kernel
theorem dX6_rise_36 : decode cX6_rise 36 = .ok (.getfield 25, 3) := by decide +kernel
theorem dX6_rise_39 : decode cX6_rise 39 = .ok (.iload_n 2, 1) := by decide +kernel
theorem dX6_rise_40 : decode cX6_rise 40 = .ok (.iload_n 3, 1) := by decide +kernel
theorem dX6_rise_41 : decode cX6_rise 41 = .ok (.invokevirtual 181, 3) := by decide +kernel
theorem dX6_rise_44 : decode cX6_rise 44 = .ok (.ifCond .eq 12, 3) := by decide +kernel
theorem dX6_rise_47 : decode cX6_rise 47 = .ok (.aload_n 0, 1) := by decide +kernel
theorem dX6_rise_48 : decode cX6_rise 48 = .ok (.getfield 10, 3) := by decide +kernel
theorem dX6_rise_51 : decode cX6_rise 51 = .ok (.iload_n 2, 1) := by decide +kernel
theorem dX6_rise_52 : decode cX6_rise 52 = .ok (.invokevirtual 68, 3) := by decide +kernel
theorem dX6_rise_55 : decode cX6_rise 55 = .ok (.ireturn, 1) := by decide +kernel
theorem dX6_rise_56 : decode cX6_rise 56 = .ok (.aload_n 0, 1) := by decide +kernel
theorem dX6_rise_57 : decode cX6_rise 57 = .ok (.iload_n 1, 1) := by decide +kernel
theorem dX6_rise_58 : decode cX6_rise 58 = .ok (.iload_n 2, 1) := by decide +kernel
theorem dX6_rise_59 : decode cX6_rise 59 = .ok (.iload_n 3, 1) := by decide +kernel
theorem dX6_rise_60 : decode cX6_rise 60 = .ok (.invokevirtual 184, 3) := by decide +kernel
theorem dX6_rise_63 : decode cX6_rise 63 = .ok (.istore 4, 2) := by decide +kernel
theorem dX6_rise_65 : decode cX6_rise 65 = .ok (.iload 4, 2) := by decide +kernel
theorem dX6_rise_67 : decode cX6_rise 67 = .ok (.sipush 9999, 3) := by decide +kernel
theorem dX6_rise_70 : decode cX6_rise 70 = .ok (.if_icmp .le 12, 3) := by decide +kernel
theorem dX6_rise_73 : decode cX6_rise 73 = .ok (.aload_n 0, 1) := by decide +kernel
theorem dX6_rise_74 : decode cX6_rise 74 = .ok (.ldc 122, 2) := by decide +kernel
theorem dX6_rise_76 : decode cX6_rise 76 = .ok (.invokevirtual 52, 3) := by decide +kernel
theorem dX6_rise_79 : decode cX6_rise 79 = .ok (.goto 5, 3) := by decide +kernel
theorem dX6_rise_82 : decode cX6_rise 82 = .ok (.iload 4, 2) := by decide +kernel
theorem dX6_rise_84 : decode cX6_rise 84 = .ok (.ireturn, 1) := by decide +kernel
theorem dX6_fall_0 : decode cX6_fall 0 = .ok (.iload_n 1, 1) := by decide +kernel
theorem dX6_fall_1 : decode cX6_fall 1 = .ok (.invokestatic 130, 3) := by decide +kernel
theorem dX6_fall_4 : decode cX6_fall 4 = .ok (.ifCond .eq 12, 3) := by decide +kernel
theorem dX6_fall_7 : decode cX6_fall 7 = .ok (.aload_n 0, 1) := by decide +kernel
theorem dX6_fall_8 : decode cX6_fall 8 = .ok (.iload_n 2, 1) := by decide +kernel
theorem dX6_fall_9 : decode cX6_fall 9 = .ok (.iload_n 3, 1) := by decide +kernel
theorem dX6_fall_10 : decode cX6_fall 10 = .ok (.invokevirtual 143, 3) := by decide +kernel
theorem dX6_fall_13 : decode cX6_fall 13 = .ok (.ifCond .ne 10, 3) := by decide +kernel
theorem dX6_fall_16 : decode cX6_fall 16 = .ok (.aload_n 0, 1) := by decide +kernel
theorem dX6_fall_17 : decode cX6_fall 17 = .ok (.ldc 51, 2) := by decide +kernel
theorem dX6_fall_19 : decode cX6_fall 19 = .ok (.invokevirtual 52, 3) := by decide +kernel
theorem dX6_fall_22 : decode cX6_fall 22 = .ok (.ireturn, 1) := by decide +kernel
theorem dX6_fall_23 : decode cX6_fall 23 = .ok (.aload_n 0, 1) := by decide +kernel
theorem dX6_fall_24 : decode cX6_fall 24 = .ok (.getfield 25, 3) := by decide +kernel
theorem dX6_fall_27 : decode cX6_fall 27 = .ok (.aload_n 0, 1) := by decide +kernel
theorem dX6_fall_28 : decode cX6_fall 28 = .ok (.getfield 10, 3) := by decide +kernel
theorem dX6_fall_31 : decode cX6_fall 31 = .ok (.iload_n 1, 1) := by decide +kernel
theorem dX6_fall_32 : decode cX6_fall 32 = .ok (.invokevirtual 146, 3) := by decide +kernel
theorem dX6_fall_35 : decode cX6_fall 35 = .ok (.aload_n 0, 1) := by decide +kernel
theorem dX6_fall_36 : decode cX6_fall 36 = .ok (.getfield 25, 3) := by decide +kernel
theorem dX6_fall_39 : decode cX6_fall 39 = .ok (.iload_n 2, 1) := by decide +kernel
theorem dX6_fall_40 : decode cX6_fall 40 = .ok (.iload_n 3, 1) := by decide +kernel
theorem dX6_fall_41 : decode cX6_fall 41 = .ok (.invokevirtual 181, 3) := by decide +kernel
theorem dX6_fall_44 : decode cX6_fall 44 = .ok (.ifCond .ne 10, 3) := by decide +kernel
theorem dX6_fall_47 : decode cX6_fall 47 = .ok (.aload_n 0, 1) := by decide +kernel
theorem dX6_fall_48 : decode cX6_fall 48 = .ok (.ldc 122, 2) := by decide +kernel
theorem dX6_fall_50 : decode cX6_fall 50 = .ok (.invokevirtual 52, 3) := by decide +kernel
theorem dX6_fall_53 : decode cX6_fall 53 = .ok (.ireturn, 1) := by decide +kernel
theorem dX6_fall_54 : decode cX6_fall 54 = .ok (.aload_n 0, 1) := by decide +kernel
theorem dX6_fall_55 : decode cX6_fall 55 = .ok (.getfield 10, 3) := by decide +kernel
theorem dX6_fall_58 : decode cX6_fall 58 = .ok (.iload_n 2, 1) := by decide +kernel
theorem dX6_fall_59 : decode cX6_fall 59 = .ok (.invokevirtual 68, 3) := by decide +kernel
theorem dX6_fall_62 : decode cX6_fall 62 = .ok (.aload_n 0, 1) := by decide +kernel
theorem dX6_fall_63 : decode cX6_fall 63 = .ok (.getfield 10, 3) := by decide +kernel
theorem dX6_fall_66 : decode cX6_fall 66 = .ok (.iload_n 3, 1) := by decide +kernel
theorem dX6_fall_67 : decode cX6_fall 67 = .ok (.invokevirtual 68, 3) := by decide +kernel
theorem dX6_fall_70 : decode cX6_fall 70 = .ok (.isub, 1) := by decide +kernel
theorem dX6_fall_71 : decode cX6_fall 71 = .ok (.ireturn, 1) := by decide +kernel
theorem dX6_dig_0 : decode cX6_dig 0 = .ok (.iload_n 1, 1) := by decide +kernel
theorem dX6_dig_1 : decode cX6_dig 1 = .ok (.invokestatic 130, 3) := by decide +kernel
theorem dX6_dig_4 : decode cX6_dig 4 = .ok (.ifCond .eq 14, 3) := by decide +kernel
theorem dX6_dig_7 : decode cX6_dig 7 = .ok (.aload_n 0, 1) := by decide +kernel
theorem dX6_dig_8 : decode cX6_dig 8 = .ok (.getfield 10, 3) := by decide +kernel
theorem dX6_dig_11 : decode cX6_dig 11 = .ok (.iload_n 2, 1) := by decide +kernel
theorem dX6_dig_12 : decode cX6_dig 12 = .ok (.invokevirtual 65, 3) := by decide +kernel
theorem dX6_dig_15 : decode cX6_dig 15 = .ok (.ifCond .ne 10, 3) := by decide +kernel
theorem dX6_dig_18 : decode cX6_dig 18 = .ok (.aload_n 0, 1) := by decide +kernel
theorem dX6_dig_19 : decode cX6_dig 19 = .ok (.ldc 51, 2) := by decide +kernel
theorem dX6_dig_21 : decode cX6_dig 21 = .ok (.invokevirtual 52, 3) := by decide +kernel
theorem dX6_dig_24 : decode cX6_dig 24 = .ok (.ireturn, 1) := by decide +kernel
theorem dX6_dig_25 : decode cX6_dig 25 = .ok (.aload_n 0, 1) := by decide +kernel
theorem dX6_dig_26 : decode cX6_dig 26 = .ok (.getfield 25, 3) := by decide +kernel
theorem dX6_dig_29 : decode cX6_dig 29 = .ok (.aload_n 0, 1) := by decide +kernel
theorem dX6_dig_30 : decode cX6_dig 30 = .ok (.getfield 10, 3) := by decide +kernel
theorem dX6_dig_33 : decode cX6_dig 33 = .ok (.iload_n 1, 1) := by decide +kernel
theorem dX6_dig_34 : decode cX6_dig 34 = .ok (.invokevirtual 146, 3) := by decide +kernel
theorem dX6_dig_37 : decode cX6_dig 37 = .ok (.aload_n 0, 1) := by decide +kernel
theorem dX6_dig_38 : decode cX6_dig 38 = .ok (.iload_n 1, 1) := by decide +kernel
theorem dX6_dig_39 : decode cX6_dig 39 = .ok (.iload_n 2, 1) := by decide +kernel
theorem dX6_dig_40 : decode cX6_dig 40 = .ok (.invokevirtual 187, 3) := by decide +kernel
theorem dX6_dig_43 : decode cX6_dig 43 = .ok (.istore_n 3, 1) := by decide +kernel
theorem dX6_dig_44 : decode cX6_dig 44 = .ok (.iload_n 3, 1) := by decide +kernel
theorem dX6_dig_45 : decode cX6_dig 45 = .ok (.ifCond .ge 12, 3) := by decide +kernel
theorem dX6_dig_48 : decode cX6_dig 48 = .ok (.aload_n 0, 1) := by decide +kernel
theorem dX6_dig_49 : decode cX6_dig 49 = .ok (.ldc 122, 2) := by decide +kernel
theorem dX6_dig_51 : decode cX6_dig 51 = .ok (.invokevirtual 52, 3) := by decide +kernel
theorem dX6_dig_54 : decode cX6_dig 54 = .ok (.goto 4, 3) := by decide +kernel
theorem dX6_dig_57 : decode cX6_dig 57 = .ok (.iload_n 3, 1) := by decide +kernel
theorem dX6_dig_58 : decode cX6_dig 58 = .ok (.ireturn, 1) := by decide +kernel
theorem dX6_send_0 : decode cX6_send 0 = .ok (.iload_n 1, 1) := by decide +kernel
theorem dX6_send_1 : decode cX6_send 1 = .ok (.invokestatic 130, 3) := by decide +kernel
theorem dX6_send_4 : decode cX6_send 4 = .ok (.ifCond .eq 12, 3) := by decide +kernel
theorem dX6_send_7 : decode cX6_send 7 = .ok (.aload_n 0, 1) := by decide +kernel
theorem dX6_send_8 : decode cX6_send 8 = .ok (.iload_n 2, 1) := by decide +kernel
theorem dX6_send_9 : decode cX6_send 9 = .ok (.iload_n 3, 1) := by decide +kernel
theorem dX6_send_10 : decode cX6_send 10 = .ok (.invokevirtual 143, 3) := by decide +kernel
theorem dX6_send_13 : decode cX6_send 13 = .ok (.ifCond .ne 10, 3) := by decide +kernel
theorem dX6_send_16 : decode cX6_send 16 = .ok (.aload_n 0, 1) := by decide +kernel
theorem dX6_send_17 : decode cX6_send 17 = .ok (.ldc 51, 2) := by decide +kernel
theorem dX6_send_19 : decode cX6_send 19 = .ok (.invokevirtual 52, 3) := by decide +kernel
theorem dX6_send_22 : decode cX6_send 22 = .ok (.ireturn, 1) := by decide +kernel
theorem dX6_send_23 : decode cX6_send 23 = .ok (.aload_n 0, 1) := by decide +kernel
theorem dX6_send_24 : decode cX6_send 24 = .ok (.getfield 10, 3) := by decide +kernel
theorem dX6_send_27 : decode cX6_send 27 = .ok (.invokevirtual 190, 3) := by decide +kernel
theorem dX6_send_30 : decode cX6_send 30 = .ok (.ifCond .eq 10, 3) := by decide +kernel
theorem dX6_send_33 : decode cX6_send 33 = .ok (.aload_n 0, 1) := by decide +kernel
theorem dX6_send_34 : decode cX6_send 34 = .ok (.ldc 60, 2) := by decide +kernel
theorem dX6_send_36 : decode cX6_send 36 = .ok (.invokevirtual 52, 3) := by decide +kernel
theorem dX6_send_39 : decode cX6_send 39 = .ok (.ireturn, 1) := by decide +kernel
theorem dX6_send_40 : decode cX6_send 40 = .ok (.aload_n 0, 1) := by decide +kernel
theorem dX6_send_41 : decode cX6_send 41 = .ok (.getfield 10, 3) := by decide +kernel
theorem dX6_send_44 : decode cX6_send 44 = .ok (.iload_n 1, 1) := by decide +kernel
theorem dX6_send_45 : decode cX6_send 45 = .ok (.iload_n 2, 1) := by decide +kernel
theorem dX6_send_46 : decode cX6_send 46 = .ok (.iload_n 3, 1) := by decide +kernel
theorem dX6_send_47 : decode cX6_send 47 = .ok (.invokevirtual 193, 3) := by decide +kernel
theorem dX6_send_50 : decode cX6_send 50 = .ok (.ireturn, 1) := by decide +kernel
theorem dX6_of_0 : decode cX6_of 0 = .ok (.aload_n 0, 1) := by decide +kernel
theorem dX6_of_1 : decode cX6_of 1 = .ok (.getfield 10, 3) := by decide +kernel
theorem dX6_of_4 : decode cX6_of 4 = .ok (.iload_n 1, 1) := by decide +kernel
theorem dX6_of_5 : decode cX6_of 5 = .ok (.invokevirtual 196, 3) := by decide +kernel
theorem dX6_of_8 : decode cX6_of 8 = .ok (.ifCond .ne 10, 3) := by decide +kernel
theorem dX6_of_11 : decode cX6_of 11 = .ok (.aload_n 0, 1) := by decide +kernel
theorem dX6_of_12 : decode cX6_of 12 = .ok (.ldc 51, 2) := by decide +kernel
theorem dX6_of_14 : decode cX6_of 14 = .ok (.invokevirtual 52, 3) := by decide +kernel
theorem dX6_of_17 : decode cX6_of 17 = .ok (.ireturn, 1) := by decide +kernel
theorem dX6_of_18 : decode cX6_of 18 = .ok (.iload_n 2, 1) := by decide +kernel
theorem dX6_of_19 : decode cX6_of 19 = .ok (.tableswitch 104 0 5 #[37, 47, 57, 67, 77, 87], 37) := by decide +kernel
theorem dX6_of_56 : decode cX6_of 56 = .ok (.aload_n 0, 1) := by decide +kernel
theorem dX6_of_57 : decode cX6_of 57 = .ok (.getfield 10, 3) := by decide +kernel
theorem dX6_of_60 : decode cX6_of 60 = .ok (.getfield 199, 3) := by decide +kernel
theorem dX6_of_63 : decode cX6_of 63 = .ok (.iload_n 1, 1) := by decide +kernel
theorem dX6_of_64 : decode cX6_of 64 = .ok (.iaload, 1) := by decide +kernel
theorem dX6_of_65 : decode cX6_of 65 = .ok (.ireturn, 1) := by decide +kernel
theorem dX6_of_66 : decode cX6_of 66 = .ok (.aload_n 0, 1) := by decide +kernel
theorem dX6_of_67 : decode cX6_of 67 = .ok (.getfield 10, 3) := by decide +kernel
theorem dX6_of_70 : decode cX6_of 70 = .ok (.getfield 202, 3) := by decide +kernel
theorem dX6_of_73 : decode cX6_of 73 = .ok (.iload_n 1, 1) := by decide +kernel
theorem dX6_of_74 : decode cX6_of 74 = .ok (.iaload, 1) := by decide +kernel
theorem dX6_of_75 : decode cX6_of 75 = .ok (.ireturn, 1) := by decide +kernel
theorem dX6_of_76 : decode cX6_of 76 = .ok (.aload_n 0, 1) := by decide +kernel
theorem dX6_of_77 : decode cX6_of 77 = .ok (.getfield 10, 3) := by decide +kernel
theorem dX6_of_80 : decode cX6_of 80 = .ok (.getfield 205, 3) := by decide +kernel
theorem dX6_of_83 : decode cX6_of 83 = .ok (.iload_n 1, 1) := by decide +kernel
theorem dX6_of_84 : decode cX6_of 84 = .ok (.iaload, 1) := by decide +kernel
theorem dX6_of_85 : decode cX6_of 85 = .ok (.ireturn, 1) := by decide +kernel
theorem dX6_of_86 : decode cX6_of 86 = .ok (.aload_n 0, 1) := by decide +kernel
theorem dX6_of_87 : decode cX6_of 87 = .ok (.getfield 10, 3) := by decide +kernel
theorem dX6_of_90 : decode cX6_of 90 = .ok (.getfield 208, 3) := by decide +kernel
theorem dX6_of_93 : decode cX6_of 93 = .ok (.iload_n 1, 1) := by decide +kernel
theorem dX6_of_94 : decode cX6_of 94 = .ok (.iaload, 1) := by decide +kernel
theorem dX6_of_95 : decode cX6_of 95 = .ok (.ireturn, 1) := by decide +kernel
theorem dX6_of_96 : decode cX6_of 96 = .ok (.aload_n 0, 1) := by decide +kernel
theorem dX6_of_97 : decode cX6_of 97 = .ok (.getfield 10, 3) := by decide +kernel
theorem dX6_of_100 : decode cX6_of 100 = .ok (.getfield 211, 3) := by decide +kernel
theorem dX6_of_103 : decode cX6_of 103 = .ok (.iload_n 1, 1) := by decide +kernel
theorem dX6_of_104 : decode cX6_of 104 = .ok (.iaload, 1) := by decide +kernel
theorem dX6_of_105 : decode cX6_of 105 = .ok (.ireturn, 1) := by decide +kernel
theorem dX6_of_106 : decode cX6_of 106 = .ok (.aload_n 0, 1) := by decide +kernel
theorem dX6_of_107 : decode cX6_of 107 = .ok (.getfield 10, 3) := by decide +kernel
theorem dX6_of_110 : decode cX6_of 110 = .ok (.iload_n 1, 1) := by decide +kernel
theorem dX6_of_111 : decode cX6_of 111 = .ok (.invokevirtual 214, 3) := by decide +kernel
theorem dX6_of_114 : decode cX6_of 114 = .ok (.ifCond .eq 7, 3) := by decide +kernel
theorem dX6_of_117 : decode cX6_of 117 = .ok (.iconst 1, 1) := by decide +kernel
theorem dX6_of_118 : decode cX6_of 118 = .ok (.goto 4, 3) := by decide +kernel
theorem dX6_of_121 : decode cX6_of 121 = .ok (.iconst 0, 1) := by decide +kernel
theorem dX6_of_122 : decode cX6_of 122 = .ok (.ireturn, 1) := by decide +kernel
theorem dX6_of_123 : decode cX6_of 123 = .ok (.aload_n 0, 1) := by decide +kernel
theorem dX6_of_124 : decode cX6_of 124 = .ok (.ldc 51, 2) := by decide +kernel
theorem dX6_of_126 : decode cX6_of 126 = .ok (.invokevirtual 52, 3) := by decide +kernel
theorem dX6_of_129 : decode cX6_of 129 = .ok (.ireturn, 1) := by decide +kernel
theorem dX6_turn_0 : decode cX6_turn 0 = .ok (.aload_n 0, 1) := by decide +kernel
theorem dX6_turn_1 : decode cX6_turn 1 = .ok (.getfield 10, 3) := by decide +kernel
theorem dX6_turn_4 : decode cX6_turn 4 = .ok (.iload_n 1, 1) := by decide +kernel
theorem dX6_turn_5 : decode cX6_turn 5 = .ok (.invokevirtual 196, 3) := by decide +kernel
theorem dX6_turn_8 : decode cX6_turn 8 = .ok (.ifCond .eq 10, 3) := by decide +kernel
theorem dX6_turn_11 : decode cX6_turn 11 = .ok (.iload_n 2, 1) := by decide +kernel
theorem dX6_turn_12 : decode cX6_turn 12 = .ok (.invokestatic 130, 3) := by decide +kernel
theorem dX6_turn_15 : decode cX6_turn 15 = .ok (.ifCond .ne 10, 3) := by decide +kernel
theorem dX6_turn_18 : decode cX6_turn 18 = .ok (.aload_n 0, 1) := by decide +kernel
theorem dX6_turn_19 : decode cX6_turn 19 = .ok (.ldc 51, 2) := by decide +kernel
theorem dX6_turn_21 : decode cX6_turn 21 = .ok (.invokevirtual 52, 3) := by decide +kernel
theorem dX6_turn_24 : decode cX6_turn 24 = .ok (.ireturn, 1) := by decide +kernel
theorem dX6_turn_25 : decode cX6_turn 25 = .ok (.aload_n 0, 1) := by decide +kernel
theorem dX6_turn_26 : decode cX6_turn 26 = .ok (.getfield 10, 3) := by decide +kernel
theorem dX6_turn_29 : decode cX6_turn 29 = .ok (.getfield 199, 3) := by decide +kernel
theorem dX6_turn_32 : decode cX6_turn 32 = .ok (.iload_n 1, 1) := by decide +kernel
theorem dX6_turn_33 : decode cX6_turn 33 = .ok (.iaload, 1) := by decide +kernel
theorem dX6_turn_34 : decode cX6_turn 34 = .ok (.istore_n 3, 1) := by decide +kernel
theorem dX6_turn_35 : decode cX6_turn 35 = .ok (.aload_n 0, 1) := by decide +kernel
theorem dX6_turn_36 : decode cX6_turn 36 = .ok (.getfield 10, 3) := by decide +kernel
theorem dX6_turn_39 : decode cX6_turn 39 = .ok (.getfield 199, 3) := by decide +kernel
theorem dX6_turn_42 : decode cX6_turn 42 = .ok (.iload_n 1, 1) := by decide +kernel
theorem dX6_turn_43 : decode cX6_turn 43 = .ok (.iload_n 2, 1) := by decide +kernel
theorem dX6_turn_44 : decode cX6_turn 44 = .ok (.iastore, 1) := by decide +kernel
theorem dX6_turn_45 : decode cX6_turn 45 = .ok (.iload_n 3, 1) := by decide +kernel
theorem dX6_turn_46 : decode cX6_turn 46 = .ok (.ireturn, 1) := by decide +kernel
theorem dX6_as_0 : decode cX6_as 0 = .ok (.aload_n 0, 1) := by decide +kernel
theorem dX6_as_1 : decode cX6_as 1 = .ok (.getfield 10, 3) := by decide +kernel
theorem dX6_as_4 : decode cX6_as 4 = .ok (.iload_n 1, 1) := by decide +kernel
theorem dX6_as_5 : decode cX6_as 5 = .ok (.invokevirtual 196, 3) := by decide +kernel
theorem dX6_as_8 : decode cX6_as 8 = .ok (.ifCond .eq 10, 3) := by decide +kernel
theorem dX6_as_11 : decode cX6_as 11 = .ok (.iload_n 2, 1) := by decide +kernel
theorem dX6_as_12 : decode cX6_as 12 = .ok (.invokestatic 130, 3) := by decide +kernel
theorem dX6_as_15 : decode cX6_as 15 = .ok (.ifCond .ne 10, 3) := by decide +kernel
theorem dX6_as_18 : decode cX6_as 18 = .ok (.aload_n 0, 1) := by decide +kernel
theorem dX6_as_19 : decode cX6_as 19 = .ok (.ldc 51, 2) := by decide +kernel
theorem dX6_as_21 : decode cX6_as 21 = .ok (.invokevirtual 52, 3) := by decide +kernel
theorem dX6_as_24 : decode cX6_as 24 = .ok (.ireturn, 1) := by decide +kernel
theorem dX6_as_25 : decode cX6_as 25 = .ok (.aload_n 0, 1) := by decide +kernel
theorem dX6_as_26 : decode cX6_as 26 = .ok (.getfield 10, 3) := by decide +kernel
theorem dX6_as_29 : decode cX6_as 29 = .ok (.getfield 199, 3) := by decide +kernel
theorem dX6_as_32 : decode cX6_as 32 = .ok (.iload_n 1, 1) := by decide +kernel
theorem dX6_as_33 : decode cX6_as 33 = .ok (.iaload, 1) := by decide +kernel
theorem dX6_as_34 : decode cX6_as 34 = .ok (.iload_n 2, 1) := by decide +kernel
theorem dX6_as_35 : decode cX6_as 35 = .ok (.invokestatic 217, 3) := by decide +kernel
theorem dX6_as_38 : decode cX6_as 38 = .ok (.ifCond .ne 10, 3) := by decide +kernel
theorem dX6_as_41 : decode cX6_as 41 = .ok (.aload_n 0, 1) := by decide +kernel
theorem dX6_as_42 : decode cX6_as 42 = .ok (.ldc 220, 2) := by decide +kernel
theorem dX6_as_44 : decode cX6_as 44 = .ok (.invokevirtual 52, 3) := by decide +kernel
theorem dX6_as_47 : decode cX6_as 47 = .ok (.ireturn, 1) := by decide +kernel
theorem dX6_as_48 : decode cX6_as 48 = .ok (.aload_n 0, 1) := by decide +kernel
theorem dX6_as_49 : decode cX6_as 49 = .ok (.getfield 10, 3) := by decide +kernel
theorem dX6_as_52 : decode cX6_as 52 = .ok (.getfield 205, 3) := by decide +kernel
theorem dX6_as_55 : decode cX6_as 55 = .ok (.iload_n 1, 1) := by decide +kernel
theorem dX6_as_56 : decode cX6_as 56 = .ok (.iaload, 1) := by decide +kernel
theorem dX6_as_57 : decode cX6_as 57 = .ok (.ireturn, 1) := by decide +kernel
theorem dX6_next_0 : decode cX6_next 0 = .ok (.aload_n 0, 1) := by decide +kernel
theorem dX6_next_1 : decode cX6_next 1 = .ok (.getfield 10, 3) := by decide +kernel
theorem dX6_next_4 : decode cX6_next 4 = .ok (.iload_n 1, 1) := by decide +kernel
theorem dX6_next_5 : decode cX6_next 5 = .ok (.invokevirtual 196, 3) := by decide +kernel
theorem dX6_next_8 : decode cX6_next 8 = .ok (.ifCond .ne 10, 3) := by decide +kernel
theorem dX6_next_11 : decode cX6_next 11 = .ok (.aload_n 0, 1) := by decide +kernel
theorem dX6_next_12 : decode cX6_next 12 = .ok (.ldc 51, 2) := by decide +kernel
theorem dX6_next_14 : decode cX6_next 14 = .ok (.invokevirtual 52, 3) := by decide +kernel
theorem dX6_next_17 : decode cX6_next 17 = .ok (.ireturn, 1) := by decide +kernel
theorem dX6_next_18 : decode cX6_next 18 = .ok (.aload_n 0, 1) := by decide +kernel
theorem dX6_next_19 : decode cX6_next 19 = .ok (.getfield 10, 3) := by decide +kernel
theorem dX6_next_22 : decode cX6_next 22 = .ok (.getfield 211, 3) := by decide +kernel
theorem dX6_next_25 : decode cX6_next 25 = .ok (.iload_n 1, 1) := by decide +kernel
theorem dX6_next_26 : decode cX6_next 26 = .ok (.iaload, 1) := by decide +kernel
theorem dX6_next_27 : decode cX6_next 27 = .ok (.ifCond .le 10, 3) := by decide +kernel
theorem dX6_next_30 : decode cX6_next 30 = .ok (.aload_n 0, 1) := by decide +kernel
theorem dX6_next_31 : decode cX6_next 31 = .ok (.ldc 95, 2) := by decide +kernel
theorem dX6_next_33 : decode cX6_next 33 = .ok (.invokevirtual 52, 3) := by decide +kernel
theorem dX6_next_36 : decode cX6_next 36 = .ok (.ireturn, 1) := by decide +kernel
theorem dX6_next_37 : decode cX6_next 37 = .ok (.aload_n 0, 1) := by decide +kernel
theorem dX6_next_38 : decode cX6_next 38 = .ok (.getfield 25, 3) := by decide +kernel
theorem dX6_next_41 : decode cX6_next 41 = .ok (.aload_n 0, 1) := by decide +kernel
theorem dX6_next_42 : decode cX6_next 42 = .ok (.getfield 10, 3) := by decide +kernel
theorem dX6_next_45 : decode cX6_next 45 = .ok (.aload_n 0, 1) := by decide +kernel
theorem dX6_next_46 : decode cX6_next 46 = .ok (.getfield 10, 3) := by decide +kernel
theorem dX6_next_49 : decode cX6_next 49 = .ok (.getfield 199, 3) := by decide +kernel
theorem dX6_next_52 : decode cX6_next 52 = .ok (.iload_n 1, 1) := by decide +kernel
theorem dX6_next_53 : decode cX6_next 53 = .ok (.iaload, 1) := by decide +kernel
theorem dX6_next_54 : decode cX6_next 54 = .ok (.invokevirtual 146, 3) := by decide +kernel
theorem dX6_next_57 : decode cX6_next 57 = .ok (.aload_n 0, 1) := by decide +kernel
theorem dX6_next_58 : decode cX6_next 58 = .ok (.getfield 25, 3) := by decide +kernel
theorem dX6_next_61 : decode cX6_next 61 = .ok (.aload_n 0, 1) := by decide +kernel
theorem dX6_next_62 : decode cX6_next 62 = .ok (.getfield 10, 3) := by decide +kernel
theorem dX6_next_65 : decode cX6_next 65 = .ok (.getfield 202, 3) := by decide +kernel
theorem dX6_next_68 : decode cX6_next 68 = .ok (.iload_n 1, 1) := by decide +kernel
theorem dX6_next_69 : decode cX6_next 69 = .ok (.iaload, 1) := by decide +kernel
theorem dX6_next_70 : decode cX6_next 70 = .ok (.aload_n 0, 1) := by decide +kernel
theorem dX6_next_71 : decode cX6_next 71 = .ok (.getfield 10, 3) := by decide +kernel
theorem dX6_next_74 : decode cX6_next 74 = .ok (.getfield 205, 3) := by decide +kernel
theorem dX6_next_77 : decode cX6_next 77 = .ok (.iload_n 1, 1) := by decide +kernel
theorem dX6_next_78 : decode cX6_next 78 = .ok (.iaload, 1) := by decide +kernel
theorem dX6_next_79 : decode cX6_next 79 = .ok (.aload_n 0, 1) := by decide +kernel
theorem dX6_next_80 : decode cX6_next 80 = .ok (.getfield 10, 3) := by decide +kernel
theorem dX6_next_83 : decode cX6_next 83 = .ok (.getfield 150, 3) := by decide +kernel
theorem dX6_next_86 : decode cX6_next 86 = .ok (.invokevirtual 221, 3) := by decide +kernel
theorem dX6_next_89 : decode cX6_next 89 = .ok (.aload_n 0, 1) := by decide +kernel
theorem dX6_next_90 : decode cX6_next 90 = .ok (.getfield 25, 3) := by decide +kernel
theorem dX6_next_93 : decode cX6_next 93 = .ok (.getfield 225, 3) := by decide +kernel
theorem dX6_next_96 : decode cX6_next 96 = .ok (.ireturn, 1) := by decide +kernel
theorem dX6_days_0 : decode cX6_days 0 = .ok (.iload_n 1, 1) := by decide +kernel
theorem dX6_days_1 : decode cX6_days 1 = .ok (.iconst 1, 1) := by decide +kernel
theorem dX6_days_2 : decode cX6_days 2 = .ok (.if_icmp .lt 10, 3) := by decide +kernel
theorem dX6_days_5 : decode cX6_days 5 = .ok (.iload_n 1, 1) := by decide +kernel
theorem dX6_days_6 : decode cX6_days 6 = .ok (.sipush 200, 3) := by decide +kernel
theorem dX6_days_9 : decode cX6_days 9 = .ok (.if_icmp .le 10, 3) := by decide +kernel
theorem dX6_days_12 : decode cX6_days 12 = .ok (.aload_n 0, 1) := by decide +kernel
theorem dX6_days_13 : decode cX6_days 13 = .ok (.ldc 51, 2) := by decide +kernel
theorem dX6_days_15 : decode cX6_days 15 = .ok (.invokevirtual 52, 3) := by decide +kernel
theorem dX6_days_18 : decode cX6_days 18 = .ok (.ireturn, 1) := by decide +kernel
theorem dX6_days_19 : decode cX6_days 19 = .ok (.aload_n 0, 1) := by decide +kernel
theorem dX6_days_20 : decode cX6_days 20 = .ok (.getfield 10, 3) := by decide +kernel
theorem dX6_days_23 : decode cX6_days 23 = .ok (.getfield 150, 3) := by decide +kernel
theorem dX6_days_26 : decode cX6_days 26 = .ok (.iload_n 1, 1) := by decide +kernel
theorem dX6_days_27 : decode cX6_days 27 = .ok (.iadd, 1) := by decide +kernel
theorem dX6_days_28 : decode cX6_days 28 = .ok (.sipush 9999, 3) := by decide +kernel
theorem dX6_days_31 : decode cX6_days 31 = .ok (.if_icmp .le 10, 3) := by decide +kernel
theorem dX6_days_34 : decode cX6_days 34 = .ok (.aload_n 0, 1) := by decide +kernel
theorem dX6_days_35 : decode cX6_days 35 = .ok (.ldc 95, 2) := by decide +kernel
theorem dX6_days_37 : decode cX6_days 37 = .ok (.invokevirtual 52, 3) := by decide +kernel
theorem dX6_days_40 : decode cX6_days 40 = .ok (.ireturn, 1) := by decide +kernel
theorem dX6_days_41 : decode cX6_days 41 = .ok (.aload_n 0, 1) := by decide +kernel
theorem dX6_days_42 : decode cX6_days 42 = .ok (.getfield 10, 3) := by decide +kernel
theorem dX6_days_45 : decode cX6_days 45 = .ok (.invokevirtual 228, 3) := by decide +kernel
theorem dX6_days_48 : decode cX6_days 48 = .ok (.istore_n 2, 1) := by decide +kernel
theorem dX6_days_49 : decode cX6_days 49 = .ok (.iconst 0, 1) := by decide +kernel
theorem dX6_days_50 : decode cX6_days 50 = .ok (.istore_n 3, 1) := by decide +kernel
theorem dX6_days_51 : decode cX6_days 51 = .ok (.iload_n 3, 1) := by decide +kernel
theorem dX6_days_52 : decode cX6_days 52 = .ok (.aload_n 0, 1) := by decide +kernel
theorem dX6_days_53 : decode cX6_days 53 = .ok (.getfield 10, 3) := by decide +kernel
theorem dX6_days_56 : decode cX6_days 56 = .ok (.getfield 231, 3) := by decide +kernel
theorem dX6_days_59 : decode cX6_days 59 = .ok (.if_icmp .ge 19, 3) := by decide +kernel
theorem dX6_days_62 : decode cX6_days 62 = .ok (.aload_n 0, 1) := by decide +kernel
theorem dX6_days_63 : decode cX6_days 63 = .ok (.aload_n 0, 1) := by decide +kernel
theorem dX6_days_64 : decode cX6_days 64 = .ok (.getfield 10, 3) := by decide +kernel
theorem dX6_days_67 : decode cX6_days 67 = .ok (.iload_n 3, 1) := by decide +kernel
theorem dX6_days_68 : decode cX6_days 68 = .ok (.iload_n 1, 1) := by decide +kernel
theorem dX6_days_69 : decode cX6_days 69 = .ok (.invokevirtual 234, 3) := by decide +kernel
theorem dX6_days_72 : decode cX6_days 72 = .ok (.iinc 3 1, 3) := by decide +kernel
theorem dX6_days_75 : decode cX6_days 75 = .ok (.goto (-24), 3) := by decide +kernel
theorem dX6_days_78 : decode cX6_days 78 = .ok (.aload_n 0, 1) := by decide +kernel
theorem dX6_days_79 : decode cX6_days 79 = .ok (.getfield 10, 3) := by decide +kernel
theorem dX6_days_82 : decode cX6_days 82 = .ok (.dup, 1) := by decide +kernel
theorem dX6_days_83 : decode cX6_days 83 = .ok (.getfield 150, 3) := by decide +kernel
theorem dX6_days_86 : decode cX6_days 86 = .ok (.iload_n 1, 1) := by decide +kernel
theorem dX6_days_87 : decode cX6_days 87 = .ok (.iadd, 1) := by decide +kernel
theorem dX6_days_88 : decode cX6_days 88 = .ok (.putfield 150, 3) := by decide +kernel
theorem dX6_days_91 : decode cX6_days 91 = .ok (.aload_n 0, 1) := by decide +kernel
theorem dX6_days_92 : decode cX6_days 92 = .ok (.getfield 10, 3) := by decide +kernel
theorem dX6_days_95 : decode cX6_days 95 = .ok (.invokevirtual 228, 3) := by decide +kernel
theorem dX6_days_98 : decode cX6_days 98 = .ok (.iload_n 2, 1) := by decide +kernel
theorem dX6_days_99 : decode cX6_days 99 = .ok (.isub, 1) := by decide +kernel
theorem dX6_days_100 : decode cX6_days 100 = .ok (.ireturn, 1) := by decide +kernel
theorem dX6_day_0 : decode cX6_day 0 = .ok (.iload_n 1, 1) := by decide +kernel
theorem dX6_day_1 : decode cX6_day 1 = .ok (.ifCond .lt 10, 3) := by decide +kernel
theorem dX6_day_4 : decode cX6_day 4 = .ok (.iload_n 1, 1) := by decide +kernel
theorem dX6_day_5 : decode cX6_day 5 = .ok (.sipush 9999, 3) := by decide +kernel
theorem dX6_day_8 : decode cX6_day 8 = .ok (.if_icmp .le 10, 3) := by decide +kernel
theorem dX6_day_11 : decode cX6_day 11 = .ok (.aload_n 0, 1) := by decide +kernel
theorem dX6_day_12 : decode cX6_day 12 = .ok (.ldc 51, 2) := by decide +kernel
theorem dX6_day_14 : decode cX6_day 14 = .ok (.invokevirtual 52, 3) := by decide +kernel
theorem dX6_day_17 : decode cX6_day 17 = .ok (.ireturn, 1) := by decide +kernel
theorem dX6_day_18 : decode cX6_day 18 = .ok (.aload_n 0, 1) := by decide +kernel
theorem dX6_day_19 : decode cX6_day 19 = .ok (.getfield 10, 3) := by decide +kernel
theorem dX6_day_22 : decode cX6_day 22 = .ok (.getfield 150, 3) := by decide +kernel
theorem dX6_day_25 : decode cX6_day 25 = .ok (.istore_n 2, 1) := by decide +kernel
theorem dX6_day_26 : decode cX6_day 26 = .ok (.aload_n 0, 1) := by decide +kernel
theorem dX6_day_27 : decode cX6_day 27 = .ok (.getfield 10, 3) := by decide +kernel
theorem dX6_day_30 : decode cX6_day 30 = .ok (.iload_n 1, 1) := by decide +kernel
theorem dX6_day_31 : decode cX6_day 31 = .ok (.putfield 150, 3) := by decide +kernel
theorem dX6_day_34 : decode cX6_day 34 = .ok (.iload_n 2, 1) := by decide +kernel
theorem dX6_day_35 : decode cX6_day 35 = .ok (.ireturn, 1) := by decide +kernel
theorem dX6_now_0 : decode cX6_now 0 = .ok (.iload_n 1, 1) := by decide +kernel
theorem dX6_now_1 : decode cX6_now 1 = .ok (.tableswitch 91 0 4 #[35, 43, 51, 59, 67], 35) := by decide +kernel
theorem dX6_now_36 : decode cX6_now 36 = .ok (.aload_n 0, 1) := by decide +kernel
theorem dX6_now_37 : decode cX6_now 37 = .ok (.getfield 10, 3) := by decide +kernel
theorem dX6_now_40 : decode cX6_now 40 = .ok (.getfield 150, 3) := by decide +kernel
theorem dX6_now_43 : decode cX6_now 43 = .ok (.ireturn, 1) := by decide +kernel
theorem dX6_now_44 : decode cX6_now 44 = .ok (.aload_n 0, 1) := by decide +kernel
theorem dX6_now_45 : decode cX6_now 45 = .ok (.getfield 10, 3) := by decide +kernel
theorem dX6_now_48 : decode cX6_now 48 = .ok (.getfield 115, 3) := by decide +kernel
theorem dX6_now_51 : decode cX6_now 51 = .ok (.ireturn, 1) := by decide +kernel
theorem dX6_now_52 : decode cX6_now 52 = .ok (.aload_n 0, 1) := by decide +kernel
theorem dX6_now_53 : decode cX6_now 53 = .ok (.getfield 10, 3) := by decide +kernel
theorem dX6_now_56 : decode cX6_now 56 = .ok (.invokevirtual 228, 3) := by decide +kernel
theorem dX6_now_59 : decode cX6_now 59 = .ok (.ireturn, 1) := by decide +kernel
theorem dX6_now_60 : decode cX6_now 60 = .ok (.aload_n 0, 1) := by decide +kernel
theorem dX6_now_61 : decode cX6_now 61 = .ok (.getfield 10, 3) := by decide +kernel
theorem dX6_now_64 : decode cX6_now 64 = .ok (.invokevirtual 238, 3) := by decide +kernel
theorem dX6_now_67 : decode cX6_now 67 = .ok (.ireturn, 1) := by decide +kernel
theorem dX6_now_68 : decode cX6_now 68 = .ok (.aload_n 0, 1) := by decide +kernel
theorem dX6_now_69 : decode cX6_now 69 = .ok (.getfield 10, 3) := by decide +kernel
theorem dX6_now_72 : decode cX6_now 72 = .ok (.getfield 231, 3) := by decide +kernel
theorem dX6_now_75 : decode cX6_now 75 = .ok (.aload_n 0, 1) := by decide +kernel
theorem dX6_now_76 : decode cX6_now 76 = .ok (.getfield 10, 3) := by decide +kernel
theorem dX6_now_79 : decode cX6_now 79 = .ok (.invokevirtual 228, 3) := by decide +kernel
theorem dX6_now_82 : decode cX6_now 82 = .ok (.isub, 1) := by decide +kernel
theorem dX6_now_83 : decode cX6_now 83 = .ok (.aload_n 0, 1) := by decide +kernel
theorem dX6_now_84 : decode cX6_now 84 = .ok (.getfield 10, 3) := by decide +kernel
theorem dX6_now_87 : decode cX6_now 87 = .ok (.invokevirtual 238, 3) := by decide +kernel
theorem dX6_now_90 : decode cX6_now 90 = .ok (.isub, 1) := by decide +kernel
theorem dX6_now_91 : decode cX6_now 91 = .ok (.ireturn, 1) := by decide +kernel
theorem dX6_now_92 : decode cX6_now 92 = .ok (.aload_n 0, 1) := by decide +kernel
theorem dX6_now_93 : decode cX6_now 93 = .ok (.ldc 51, 2) := by decide +kernel
theorem dX6_now_95 : decode cX6_now 95 = .ok (.invokevirtual 52, 3) := by decide +kernel
theorem dX6_now_98 : decode cX6_now 98 = .ok (.ireturn, 1) := by decide +kernel
theorem dX6_on_0 : decode cX6_on 0 = .ok (.aload_n 0, 1) := by decide +kernel
theorem dX6_on_1 : decode cX6_on 1 = .ok (.getfield 10, 3) := by decide +kernel
theorem dX6_on_4 : decode cX6_on 4 = .ok (.iload_n 1, 1) := by decide +kernel
theorem dX6_on_5 : decode cX6_on 5 = .ok (.invokevirtual 196, 3) := by decide +kernel
theorem dX6_on_8 : decode cX6_on 8 = .ok (.ifCond .eq 14, 3) := by decide +kernel
theorem dX6_on_11 : decode cX6_on 11 = .ok (.iload_n 2, 1) := by decide +kernel
theorem dX6_on_12 : decode cX6_on 12 = .ok (.ifCond .lt 10, 3) := by decide +kernel
theorem dX6_on_15 : decode cX6_on 15 = .ok (.iload_n 2, 1) := by decide +kernel
theorem dX6_on_16 : decode cX6_on 16 = .ok (.sipush 200, 3) := by decide +kernel
theorem dX6_on_19 : decode cX6_on 19 = .ok (.if_icmp .le 10, 3) := by decide +kernel
theorem dX6_on_22 : decode cX6_on 22 = .ok (.aload_n 0, 1) := by decide +kernel
theorem dX6_on_23 : decode cX6_on 23 = .ok (.ldc 51, 2) := by decide +kernel
theorem dX6_on_25 : decode cX6_on 25 = .ok (.invokevirtual 52, 3) := by decide +kernel
theorem dX6_on_28 : decode cX6_on 28 = .ok (.ireturn, 1) := by decide +kernel
theorem dX6_on_29 : decode cX6_on 29 = .ok (.aload_n 0, 1) := by decide +kernel
theorem dX6_on_30 : decode cX6_on 30 = .ok (.getfield 10, 3) := by decide +kernel
theorem dX6_on_33 : decode cX6_on 33 = .ok (.getfield 150, 3) := by decide +kernel
theorem dX6_on_36 : decode cX6_on 36 = .ok (.iload_n 2, 1) := by decide +kernel
theorem dX6_on_37 : decode cX6_on 37 = .ok (.iadd, 1) := by decide +kernel
theorem dX6_on_38 : decode cX6_on 38 = .ok (.sipush 9999, 3) := by decide +kernel
theorem dX6_on_41 : decode cX6_on 41 = .ok (.if_icmp .le 10, 3) := by decide +kernel
theorem dX6_on_44 : decode cX6_on 44 = .ok (.aload_n 0, 1) := by decide +kernel
theorem dX6_on_45 : decode cX6_on 45 = .ok (.ldc 95, 2) := by decide +kernel
theorem dX6_on_47 : decode cX6_on 47 = .ok (.invokevirtual 52, 3) := by decide +kernel
theorem dX6_on_50 : decode cX6_on 50 = .ok (.ireturn, 1) := by decide +kernel
theorem dX6_on_51 : decode cX6_on 51 = .ok (.aload_n 0, 1) := by decide +kernel
theorem dX6_on_52 : decode cX6_on 52 = .ok (.getfield 19, 3) := by decide +kernel
theorem dX6_on_55 : decode cX6_on 55 = .ok (.aload_n 0, 1) := by decide +kernel
theorem dX6_on_56 : decode cX6_on 56 = .ok (.getfield 10, 3) := by decide +kernel
theorem dX6_on_59 : decode cX6_on 59 = .ok (.invokevirtual 241, 3) := by decide +kernel
theorem dX6_on_62 : decode cX6_on 62 = .ok (.aload_n 0, 1) := by decide +kernel
theorem dX6_on_63 : decode cX6_on 63 = .ok (.aload_n 0, 1) := by decide +kernel
theorem dX6_on_64 : decode cX6_on 64 = .ok (.getfield 19, 3) := by decide +kernel
theorem dX6_on_67 : decode cX6_on 67 = .ok (.iload_n 1, 1) := by decide +kernel
theorem dX6_on_68 : decode cX6_on 68 = .ok (.iload_n 2, 1) := by decide +kernel
theorem dX6_on_69 : decode cX6_on 69 = .ok (.invokevirtual 234, 3) := by decide +kernel
theorem dX6_on_72 : decode cX6_on 72 = .ok (.aload_n 0, 1) := by decide +kernel
theorem dX6_on_73 : decode cX6_on 73 = .ok (.getfield 19, 3) := by decide +kernel
theorem dX6_on_76 : decode cX6_on 76 = .ok (.getfield 202, 3) := by decide +kernel
theorem dX6_on_79 : decode cX6_on 79 = .ok (.iload_n 1, 1) := by decide +kernel
theorem dX6_on_80 : decode cX6_on 80 = .ok (.iaload, 1) := by decide +kernel
theorem dX6_on_81 : decode cX6_on 81 = .ok (.ireturn, 1) := by decide +kernel
theorem dX6_when_0 : decode cX6_when 0 = .ok (.aload_n 0, 1) := by decide +kernel
theorem dX6_when_1 : decode cX6_when 1 = .ok (.getfield 10, 3) := by decide +kernel
theorem dX6_when_4 : decode cX6_when 4 = .ok (.iload_n 1, 1) := by decide +kernel
theorem dX6_when_5 : decode cX6_when 5 = .ok (.invokevirtual 196, 3) := by decide +kernel
theorem dX6_when_8 : decode cX6_when 8 = .ok (.ifCond .ne 10, 3) := by decide +kernel
theorem dX6_when_11 : decode cX6_when 11 = .ok (.aload_n 0, 1) := by decide +kernel
theorem dX6_when_12 : decode cX6_when 12 = .ok (.ldc 51, 2) := by decide +kernel
theorem dX6_when_14 : decode cX6_when 14 = .ok (.invokevirtual 52, 3) := by decide +kernel
theorem dX6_when_17 : decode cX6_when 17 = .ok (.ireturn, 1) := by decide +kernel
theorem dX6_when_18 : decode cX6_when 18 = .ok (.aload_n 0, 1) := by decide +kernel
theorem dX6_when_19 : decode cX6_when 19 = .ok (.getfield 10, 3) := by decide +kernel
theorem dX6_when_22 : decode cX6_when 22 = .ok (.getfield 150, 3) := by decide +kernel
theorem dX6_when_25 : decode cX6_when 25 = .ok (.sipush 200, 3) := by decide +kernel
theorem dX6_when_28 : decode cX6_when 28 = .ok (.iadd, 1) := by decide +kernel
theorem dX6_when_29 : decode cX6_when 29 = .ok (.sipush 9999, 3) := by decide +kernel
theorem dX6_when_32 : decode cX6_when 32 = .ok (.if_icmp .le 10, 3) := by decide +kernel
theorem dX6_when_35 : decode cX6_when 35 = .ok (.aload_n 0, 1) := by decide +kernel
theorem dX6_when_36 : decode cX6_when 36 = .ok (.ldc 95, 2) := by decide +kernel
theorem dX6_when_38 : decode cX6_when 38 = .ok (.invokevirtual 52, 3) := by decide +kernel
theorem dX6_when_41 : decode cX6_when 41 = .ok (.ireturn, 1) := by decide +kernel
theorem dX6_when_42 : decode cX6_when 42 = .ok (.aload_n 0, 1) := by decide +kernel
theorem dX6_when_43 : decode cX6_when 43 = .ok (.iload_n 1, 1) := by decide +kernel
theorem dX6_when_44 : decode cX6_when 44 = .ok (.invokevirtual 245, 3) := by decide +kernel
theorem dX6_when_47 : decode cX6_when 47 = .ok (.istore_n 2, 1) := by decide +kernel
theorem dX6_when_48 : decode cX6_when 48 = .ok (.iload_n 2, 1) := by decide +kernel
theorem dX6_when_49 : decode cX6_when 49 = .ok (.ldc 180, 2) := by decide +kernel
theorem dX6_when_51 : decode cX6_when 51 = .ok (.if_icmp .lt 12, 3) := by decide +kernel
theorem dX6_when_54 : decode cX6_when 54 = .ok (.aload_n 0, 1) := by decide +kernel
theorem dX6_when_55 : decode cX6_when 55 = .ok (.ldc 122, 2) := by decide +kernel
theorem dX6_when_57 : decode cX6_when 57 = .ok (.invokevirtual 52, 3) := by decide +kernel
theorem dX6_when_60 : decode cX6_when 60 = .ok (.goto 4, 3) := by decide +kernel
theorem dX6_when_63 : decode cX6_when 63 = .ok (.iload_n 2, 1) := by decide +kernel
theorem dX6_when_64 : decode cX6_when 64 = .ok (.ireturn, 1) := by decide +kernel
theorem dX6_first_0 : decode cX6_first 0 = .ok (.aload_n 0, 1) := by decide +kernel
theorem dX6_first_1 : decode cX6_first 1 = .ok (.getfield 10, 3) := by decide +kernel
theorem dX6_first_4 : decode cX6_first 4 = .ok (.iload_n 1, 1) := by decide +kernel
theorem dX6_first_5 : decode cX6_first 5 = .ok (.invokevirtual 196, 3) := by decide +kernel
theorem dX6_first_8 : decode cX6_first 8 = .ok (.ifCond .eq 19, 3) := by decide +kernel
theorem dX6_first_11 : decode cX6_first 11 = .ok (.aload_n 0, 1) := by decide +kernel
theorem dX6_first_12 : decode cX6_first 12 = .ok (.getfield 10, 3) := by decide +kernel
theorem dX6_first_15 : decode cX6_first 15 = .ok (.iload_n 2, 1) := by decide +kernel
theorem dX6_first_16 : decode cX6_first 16 = .ok (.invokevirtual 196, 3) := by decide +kernel
theorem dX6_first_19 : decode cX6_first 19 = .ok (.ifCond .eq 8, 3) := by decide +kernel
theorem dX6_first_22 : decode cX6_first 22 = .ok (.iload_n 1, 1) := by decide +kernel
theorem dX6_first_23 : decode cX6_first 23 = .ok (.iload_n 2, 1) := by decide +kernel
theorem dX6_first_24 : decode cX6_first 24 = .ok (.if_icmp .ne 10, 3) := by decide +kernel
theorem dX6_first_27 : decode cX6_first 27 = .ok (.aload_n 0, 1) := by decide +kernel
theorem dX6_first_28 : decode cX6_first 28 = .ok (.ldc 51, 2) := by decide +kernel
theorem dX6_first_30 : decode cX6_first 30 = .ok (.invokevirtual 52, 3) := by decide +kernel
theorem dX6_first_33 : decode cX6_first 33 = .ok (.ireturn, 1) := by decide +kernel
theorem dX6_first_34 : decode cX6_first 34 = .ok (.aload_n 0, 1) := by decide +kernel
theorem dX6_first_35 : decode cX6_first 35 = .ok (.getfield 10, 3) := by decide +kernel
theorem dX6_first_38 : decode cX6_first 38 = .ok (.getfield 150, 3) := by decide +kernel
theorem dX6_first_41 : decode cX6_first 41 = .ok (.sipush 200, 3) := by decide +kernel
theorem dX6_first_44 : decode cX6_first 44 = .ok (.iadd, 1) := by decide +kernel
theorem dX6_first_45 : decode cX6_first 45 = .ok (.sipush 9999, 3) := by decide +kernel
theorem dX6_first_48 : decode cX6_first 48 = .ok (.if_icmp .le 10, 3) := by decide +kernel
theorem dX6_first_51 : decode cX6_first 51 = .ok (.aload_n 0, 1) := by decide +kernel
theorem dX6_first_52 : decode cX6_first 52 = .ok (.ldc 95, 2) := by decide +kernel
theorem dX6_first_54 : decode cX6_first 54 = .ok (.invokevirtual 52, 3) := by decide +kernel
theorem dX6_first_57 : decode cX6_first 57 = .ok (.ireturn, 1) := by decide +kernel
theorem dX6_first_58 : decode cX6_first 58 = .ok (.aload_n 0, 1) := by decide +kernel
theorem dX6_first_59 : decode cX6_first 59 = .ok (.iload_n 1, 1) := by decide +kernel
theorem dX6_first_60 : decode cX6_first 60 = .ok (.invokevirtual 245, 3) := by decide +kernel
theorem dX6_first_63 : decode cX6_first 63 = .ok (.istore_n 3, 1) := by decide +kernel
theorem dX6_first_64 : decode cX6_first 64 = .ok (.aload_n 0, 1) := by decide +kernel
theorem dX6_first_65 : decode cX6_first 65 = .ok (.iload_n 2, 1) := by decide +kernel
theorem dX6_first_66 : decode cX6_first 66 = .ok (.invokevirtual 245, 3) := by decide +kernel
theorem dX6_first_69 : decode cX6_first 69 = .ok (.istore 4, 2) := by decide +kernel
theorem dX6_first_71 : decode cX6_first 71 = .ok (.iload_n 3, 1) := by decide +kernel
theorem dX6_first_72 : decode cX6_first 72 = .ok (.iload 4, 2) := by decide +kernel
theorem dX6_first_74 : decode cX6_first 74 = .ok (.if_icmp .ne 20, 3) := by decide +kernel
theorem dX6_first_77 : decode cX6_first 77 = .ok (.iload_n 3, 1) := by decide +kernel
theorem dX6_first_78 : decode cX6_first 78 = .ok (.ldc 180, 2) := by decide +kernel
theorem dX6_first_80 : decode cX6_first 80 = .ok (.if_icmp .lt 12, 3) := by decide +kernel
theorem dX6_first_83 : decode cX6_first 83 = .ok (.aload_n 0, 1) := by decide +kernel
theorem dX6_first_84 : decode cX6_first 84 = .ok (.ldc 122, 2) := by decide +kernel
theorem dX6_first_86 : decode cX6_first 86 = .ok (.invokevirtual 52, 3) := by decide +kernel
theorem dX6_first_89 : decode cX6_first 89 = .ok (.goto 4, 3) := by decide +kernel
theorem dX6_first_92 : decode cX6_first 92 = .ok (.iconst 0, 1) := by decide +kernel
theorem dX6_first_93 : decode cX6_first 93 = .ok (.ireturn, 1) := by decide +kernel
theorem dX6_first_94 : decode cX6_first 94 = .ok (.iload_n 3, 1) := by decide +kernel
theorem dX6_first_95 : decode cX6_first 95 = .ok (.iload 4, 2) := by decide +kernel
theorem dX6_first_97 : decode cX6_first 97 = .ok (.if_icmp .ge 7, 3) := by decide +kernel
theorem dX6_first_100 : decode cX6_first 100 = .ok (.iconst 1, 1) := by decide +kernel
theorem dX6_first_101 : decode cX6_first 101 = .ok (.goto 4, 3) := by decide +kernel
theorem dX6_first_104 : decode cX6_first 104 = .ok (.iconst 2, 1) := by decide +kernel
theorem dX6_first_105 : decode cX6_first 105 = .ok (.ireturn, 1) := by decide +kernel
theorem dX6_feed_0 : decode cX6_feed 0 = .ok (.iload_n 2, 1) := by decide +kernel
theorem dX6_feed_1 : decode cX6_feed 1 = .ok (.iconst 1, 1) := by decide +kernel
theorem dX6_feed_2 : decode cX6_feed 2 = .ok (.if_icmp .lt 8, 3) := by decide +kernel
theorem dX6_feed_5 : decode cX6_feed 5 = .ok (.iload_n 2, 1) := by decide +kernel
theorem dX6_feed_6 : decode cX6_feed 6 = .ok (.iconst 4, 1) := by decide +kernel
theorem dX6_feed_7 : decode cX6_feed 7 = .ok (.if_icmp .le 10, 3) := by decide +kernel
theorem dX6_feed_10 : decode cX6_feed 10 = .ok (.aload_n 0, 1) := by decide +kernel
theorem dX6_feed_11 : decode cX6_feed 11 = .ok (.ldc 51, 2) := by decide +kernel
theorem dX6_feed_13 : decode cX6_feed 13 = .ok (.invokevirtual 52, 3) := by decide +kernel
theorem dX6_feed_16 : decode cX6_feed 16 = .ok (.ireturn, 1) := by decide +kernel
theorem dX6_feed_17 : decode cX6_feed 17 = .ok (.aload_n 0, 1) := by decide +kernel
theorem dX6_feed_18 : decode cX6_feed 18 = .ok (.getfield 32, 3) := by decide +kernel
theorem dX6_feed_21 : decode cX6_feed 21 = .ok (.getfield 248, 3) := by decide +kernel
theorem dX6_feed_24 : decode cX6_feed 24 = .ok (.iload_n 2, 1) := by decide +kernel
theorem dX6_feed_25 : decode cX6_feed 25 = .ok (.iadd, 1) := by decide +kernel
theorem dX6_feed_26 : decode cX6_feed 26 = .ok (.bipush 120, 2) := by decide +kernel
theorem dX6_feed_28 : decode cX6_feed 28 = .ok (.if_icmp .le 10, 3) := by decide +kernel
theorem dX6_feed_31 : decode cX6_feed 31 = .ok (.aload_n 0, 1) := by decide +kernel
theorem dX6_feed_32 : decode cX6_feed 32 = .ok (.ldc 60, 2) := by decide +kernel
theorem dX6_feed_34 : decode cX6_feed 34 = .ok (.invokevirtual 52, 3) := by decide +kernel
theorem dX6_feed_37 : decode cX6_feed 37 = .ok (.ireturn, 1) := by decide +kernel
theorem dX6_feed_38 : decode cX6_feed 38 = .ok (.iload_n 2, 1) := by decide +kernel
theorem dX6_feed_39 : decode cX6_feed 39 = .ok (.iconst 1, 1) := by decide +kernel
theorem dX6_feed_40 : decode cX6_feed 40 = .ok (.isub, 1) := by decide +kernel
theorem dX6_feed_41 : decode cX6_feed 41 = .ok (.istore_n 3, 1) := by decide +kernel
theorem dX6_feed_42 : decode cX6_feed 42 = .ok (.iload_n 3, 1) := by decide +kernel
theorem dX6_feed_43 : decode cX6_feed 43 = .ok (.ifCond .lt 26, 3) := by decide +kernel
theorem dX6_feed_46 : decode cX6_feed 46 = .ok (.aload_n 0, 1) := by decide +kernel
theorem dX6_feed_47 : decode cX6_feed 47 = .ok (.getfield 32, 3) := by decide +kernel
theorem dX6_feed_50 : decode cX6_feed 50 = .ok (.iload_n 1, 1) := by decide +kernel
theorem dX6_feed_51 : decode cX6_feed 51 = .ok (.bipush 8, 2) := by decide +kernel
theorem dX6_feed_53 : decode cX6_feed 53 = .ok (.iload_n 3, 1) := by decide +kernel
theorem dX6_feed_54 : decode cX6_feed 54 = .ok (.imul, 1) := by decide +kernel
theorem dX6_feed_55 : decode cX6_feed 55 = .ok (.ishr, 1) := by decide +kernel
theorem dX6_feed_56 : decode cX6_feed 56 = .ok (.sipush 255, 3) := by decide +kernel
theorem dX6_feed_59 : decode cX6_feed 59 = .ok (.iand, 1) := by decide +kernel
theorem dX6_feed_60 : decode cX6_feed 60 = .ok (.invokevirtual 251, 3) := by decide +kernel
theorem dX6_feed_63 : decode cX6_feed 63 = .ok (.iinc 3 (-1), 3) := by decide +kernel
theorem dX6_feed_66 : decode cX6_feed 66 = .ok (.goto (-24), 3) := by decide +kernel
theorem dX6_feed_69 : decode cX6_feed 69 = .ok (.aload_n 0, 1) := by decide +kernel
theorem dX6_feed_70 : decode cX6_feed 70 = .ok (.getfield 32, 3) := by decide +kernel
theorem dX6_feed_73 : decode cX6_feed 73 = .ok (.getfield 248, 3) := by decide +kernel
theorem dX6_feed_76 : decode cX6_feed 76 = .ok (.ireturn, 1) := by decide +kernel
theorem dX6_wipe_0 : decode cX6_wipe 0 = .ok (.aload_n 0, 1) := by decide +kernel
theorem dX6_wipe_1 : decode cX6_wipe 1 = .ok (.getfield 32, 3) := by decide +kernel
theorem dX6_wipe_4 : decode cX6_wipe 4 = .ok (.getfield 248, 3) := by decide +kernel
theorem dX6_wipe_7 : decode cX6_wipe 7 = .ok (.istore_n 1, 1) := by decide +kernel
theorem dX6_wipe_8 : decode cX6_wipe 8 = .ok (.aload_n 0, 1) := by decide +kernel
theorem dX6_wipe_9 : decode cX6_wipe 9 = .ok (.getfield 32, 3) := by decide +kernel
theorem dX6_wipe_12 : decode cX6_wipe 12 = .ok (.iconst 0, 1) := by decide +kernel
theorem dX6_wipe_13 : decode cX6_wipe 13 = .ok (.putfield 248, 3) := by decide +kernel
theorem dX6_wipe_16 : decode cX6_wipe 16 = .ok (.iload_n 1, 1) := by decide +kernel
theorem dX6_wipe_17 : decode cX6_wipe 17 = .ok (.ireturn, 1) := by decide +kernel
theorem dX6_text_0 : decode cX6_text 0 = .ok (.aload_n 0, 1) := by decide +kernel
theorem dX6_text_1 : decode cX6_text 1 = .ok (.getfield 19, 3) := by decide +kernel
theorem dX6_text_4 : decode cX6_text 4 = .ok (.aload_n 0, 1) := by decide +kernel
theorem dX6_text_5 : decode cX6_text 5 = .ok (.getfield 10, 3) := by decide +kernel
theorem dX6_text_8 : decode cX6_text 8 = .ok (.invokevirtual 241, 3) := by decide +kernel
theorem dX6_text_11 : decode cX6_text 11 = .ok (.aload_n 0, 1) := by decide +kernel
theorem dX6_text_12 : decode cX6_text 12 = .ok (.getfield 32, 3) := by decide +kernel
theorem dX6_text_15 : decode cX6_text 15 = .ok (.aload_n 0, 1) := by decide +kernel
theorem dX6_text_16 : decode cX6_text 16 = .ok (.getfield 19, 3) := by decide +kernel
theorem dX6_text_19 : decode cX6_text 19 = .ok (.invokestatic 255, 3) := by decide +kernel
theorem dX6_text_22 : decode cX6_text 22 = .ok (.istore_n 1, 1) := by decide +kernel
theorem dX6_text_23 : decode cX6_text 23 = .ok (.aload_n 0, 1) := by decide +kernel
theorem dX6_text_24 : decode cX6_text 24 = .ok (.getfield 32, 3) := by decide +kernel
theorem dX6_text_27 : decode cX6_text 27 = .ok (.iconst 0, 1) := by decide +kernel
theorem dX6_text_28 : decode cX6_text 28 = .ok (.putfield 248, 3) := by decide +kernel
theorem dX6_text_31 : decode cX6_text 31 = .ok (.iload_n 1, 1) := by decide +kernel
theorem dX6_text_32 : decode cX6_text 32 = .ok (.ifCond .lt 14, 3) := by decide +kernel
theorem dX6_text_35 : decode cX6_text 35 = .ok (.aload_n 0, 1) := by decide +kernel
theorem dX6_text_36 : decode cX6_text 36 = .ok (.getfield 10, 3) := by decide +kernel
theorem dX6_text_39 : decode cX6_text 39 = .ok (.aload_n 0, 1) := by decide +kernel
theorem dX6_text_40 : decode cX6_text 40 = .ok (.getfield 19, 3) := by decide +kernel
theorem dX6_text_43 : decode cX6_text 43 = .ok (.invokevirtual 241, 3) := by decide +kernel
theorem dX6_text_46 : decode cX6_text 46 = .ok (.iload_n 1, 1) := by decide +kernel
theorem dX6_text_47 : decode cX6_text 47 = .ok (.ireturn, 1) := by decide +kernel
theorem dX6_sheet_0 : decode cX6_sheet 0 = .ok (.aload_n 0, 1) := by decide +kernel
theorem dX6_sheet_1 : decode cX6_sheet 1 = .ok (.iload_n 1, 1) := by decide +kernel
theorem dX6_sheet_2 : decode cX6_sheet 2 = .ok (.invokevirtual 261, 3) := by decide +kernel
theorem dX6_sheet_5 : decode cX6_sheet 5 = .ok (.astore 4, 2) := by decide +kernel
theorem dX6_sheet_7 : decode cX6_sheet 7 = .ok (.aload 4, 2) := by decide +kernel
theorem dX6_sheet_9 : decode cX6_sheet 9 = .ok (.ifnull 10, 3) := by decide +kernel
theorem dX6_sheet_12 : decode cX6_sheet 12 = .ok (.iload_n 2, 1) := by decide +kernel
theorem dX6_sheet_13 : decode cX6_sheet 13 = .ok (.invokestatic 265, 3) := by decide +kernel
theorem dX6_sheet_16 : decode cX6_sheet 16 = .ok (.ifCond .ne 10, 3) := by decide +kernel
theorem dX6_sheet_19 : decode cX6_sheet 19 = .ok (.aload_n 0, 1) := by decide +kernel
theorem dX6_sheet_20 : decode cX6_sheet 20 = .ok (.ldc 51, 2) := by decide +kernel
theorem dX6_sheet_22 : decode cX6_sheet 22 = .ok (.invokevirtual 52, 3) := by decide +kernel
theorem dX6_sheet_25 : decode cX6_sheet 25 = .ok (.ireturn, 1) := by decide +kernel
theorem dX6_sheet_26 : decode cX6_sheet 26 = .ok (.iload_n 3, 1) := by decide +kernel
theorem dX6_sheet_27 : decode cX6_sheet 27 = .ok (.ifCond .ge 11, 3) := by decide +kernel
theorem dX6_sheet_30 : decode cX6_sheet 30 = .ok (.aload_n 0, 1) := by decide +kernel
theorem dX6_sheet_31 : decode cX6_sheet 31 = .ok (.ldc_w 268, 3) := by decide +kernel
theorem dX6_sheet_34 : decode cX6_sheet 34 = .ok (.invokevirtual 52, 3) := by decide +kernel
theorem dX6_sheet_37 : decode cX6_sheet 37 = .ok (.ireturn, 1) := by decide +kernel
theorem dX6_sheet_38 : decode cX6_sheet 38 = .ok (.iload_n 3, 1) := by decide +kernel
theorem dX6_sheet_39 : decode cX6_sheet 39 = .ok (.bipush 40, 2) := by decide +kernel
theorem dX6_sheet_41 : decode cX6_sheet 41 = .ok (.if_icmp .le 10, 3) := by decide +kernel
theorem dX6_sheet_44 : decode cX6_sheet 44 = .ok (.aload_n 0, 1) := by decide +kernel
theorem dX6_sheet_45 : decode cX6_sheet 45 = .ok (.ldc 51, 2) := by decide +kernel
theorem dX6_sheet_47 : decode cX6_sheet 47 = .ok (.invokevirtual 52, 3) := by decide +kernel
theorem dX6_sheet_50 : decode cX6_sheet 50 = .ok (.ireturn, 1) := by decide +kernel
theorem dX6_sheet_51 : decode cX6_sheet 51 = .ok (.aload 4, 2) := by decide +kernel
theorem dX6_sheet_53 : decode cX6_sheet 53 = .ok (.iload_n 2, 1) := by decide +kernel
theorem dX6_sheet_54 : decode cX6_sheet 54 = .ok (.iload_n 3, 1) := by decide +kernel
theorem dX6_sheet_55 : decode cX6_sheet 55 = .ok (.invokevirtual 269, 3) := by decide +kernel
theorem dX6_sheet_58 : decode cX6_sheet 58 = .ok (.aload 4, 2) := by decide +kernel
theorem dX6_sheet_60 : decode cX6_sheet 60 = .ok (.getfield 272, 3) := by decide +kernel
theorem dX6_sheet_63 : decode cX6_sheet 63 = .ok (.ireturn, 1) := by decide +kernel
theorem dX6_write_0 : decode cX6_write 0 = .ok (.aload_n 0, 1) := by decide +kernel
theorem dX6_write_1 : decode cX6_write 1 = .ok (.iload_n 1, 1) := by decide +kernel
theorem dX6_write_2 : decode cX6_write 2 = .ok (.invokevirtual 261, 3) := by decide +kernel
theorem dX6_write_5 : decode cX6_write 5 = .ok (.astore 5, 2) := by decide +kernel
theorem dX6_write_7 : decode cX6_write 7 = .ok (.aload 5, 2) := by decide +kernel
theorem dX6_write_9 : decode cX6_write 9 = .ok (.ifnonnull 11, 3) := by decide +kernel
theorem dX6_write_12 : decode cX6_write 12 = .ok (.aload_n 0, 1) := by decide +kernel
theorem dX6_write_13 : decode cX6_write 13 = .ok (.ldc 51, 2) := by decide +kernel
theorem dX6_write_15 : decode cX6_write 15 = .ok (.invokevirtual 52, 3) := by decide +kernel
theorem dX6_write_18 : decode cX6_write 18 = .ok (.i2l, 1) := by decide +kernel
theorem dX6_write_19 : decode cX6_write 19 = .ok (.lreturn, 1) := by decide +kernel
theorem dX6_write_20 : decode cX6_write 20 = .ok (.aload 5, 2) := by decide +kernel
theorem dX6_write_22 : decode cX6_write 22 = .ok (.invokevirtual 275, 3) := by decide +kernel
theorem dX6_write_25 : decode cX6_write 25 = .ok (.ifCond .eq 12, 3) := by decide +kernel
theorem dX6_write_28 : decode cX6_write 28 = .ok (.aload_n 0, 1) := by decide +kernel
theorem dX6_write_29 : decode cX6_write 29 = .ok (.ldc_w 278, 3) := by decide +kernel
theorem dX6_write_32 : decode cX6_write 32 = .ok (.invokevirtual 52, 3) := by decide +kernel
theorem dX6_write_35 : decode cX6_write 35 = .ok (.i2l, 1) := by decide +kernel
theorem dX6_write_36 : decode cX6_write 36 = .ok (.lreturn, 1) := by decide +kernel
theorem dX6_write_37 : decode cX6_write 37 = .ok (.aload 5, 2) := by decide +kernel
theorem dX6_write_39 : decode cX6_write 39 = .ok (.iload_n 2, 1) := by decide +kernel
theorem dX6_write_40 : decode cX6_write 40 = .ok (.invokevirtual 279, 3) := by decide +kernel
theorem dX6_write_43 : decode cX6_write 43 = .ok (.ifCond .ne 11, 3) := by decide +kernel
theorem dX6_write_46 : decode cX6_write 46 = .ok (.aload_n 0, 1) := by decide +kernel
theorem dX6_write_47 : decode cX6_write 47 = .ok (.ldc 51, 2) := by decide +kernel
theorem dX6_write_49 : decode cX6_write 49 = .ok (.invokevirtual 52, 3) := by decide +kernel
theorem dX6_write_52 : decode cX6_write 52 = .ok (.i2l, 1) := by decide +kernel
theorem dX6_write_53 : decode cX6_write 53 = .ok (.lreturn, 1) := by decide +kernel
theorem dX6_write_54 : decode cX6_write 54 = .ok (.aload 5, 2) := by decide +kernel
theorem dX6_write_56 : decode cX6_write 56 = .ok (.iload_n 2, 1) := by decide +kernel
theorem dX6_write_57 : decode cX6_write 57 = .ok (.invokevirtual 282, 3) := by decide +kernel
theorem dX6_write_60 : decode cX6_write 60 = .ok (.lstore 6, 2) := by decide +kernel
theorem dX6_write_62 : decode cX6_write 62 = .ok (.aload 5, 2) := by decide +kernel
theorem dX6_write_64 : decode cX6_write 64 = .ok (.iload_n 2, 1) := by decide +kernel
theorem dX6_write_65 : decode cX6_write 65 = .ok (.lload_n 3, 1) := by decide +kernel
theorem dX6_write_66 : decode cX6_write 66 = .ok (.invokevirtual 286, 3) := by decide +kernel
theorem dX6_write_69 : decode cX6_write 69 = .ok (.lload 6, 2) := by decide +kernel
theorem dX6_write_71 : decode cX6_write 71 = .ok (.lreturn, 1) := by decide +kernel
theorem dX6_copy_0 : decode cX6_copy 0 = .ok (.aload_n 0, 1) := by decide +kernel
theorem dX6_copy_1 : decode cX6_copy 1 = .ok (.iload_n 1, 1) := by decide +kernel
theorem dX6_copy_2 : decode cX6_copy 2 = .ok (.invokevirtual 261, 3) := by decide +kernel
theorem dX6_copy_5 : decode cX6_copy 5 = .ok (.astore 6, 2) := by decide +kernel
theorem dX6_copy_7 : decode cX6_copy 7 = .ok (.aload_n 0, 1) := by decide +kernel
theorem dX6_copy_8 : decode cX6_copy 8 = .ok (.iload_n 3, 1) := by decide +kernel
theorem dX6_copy_9 : decode cX6_copy 9 = .ok (.invokevirtual 261, 3) := by decide +kernel
theorem dX6_copy_12 : decode cX6_copy 12 = .ok (.astore 7, 2) := by decide +kernel
theorem dX6_copy_14 : decode cX6_copy 14 = .ok (.aload 6, 2) := by decide +kernel
theorem dX6_copy_16 : decode cX6_copy 16 = .ok (.ifnull 8, 3) := by decide +kernel
theorem dX6_copy_19 : decode cX6_copy 19 = .ok (.aload 7, 2) := by decide +kernel
theorem dX6_copy_21 : decode cX6_copy 21 = .ok (.ifnonnull 10, 3) := by decide +kernel
theorem dX6_copy_24 : decode cX6_copy 24 = .ok (.aload_n 0, 1) := by decide +kernel
theorem dX6_copy_25 : decode cX6_copy 25 = .ok (.ldc 51, 2) := by decide +kernel
theorem dX6_copy_27 : decode cX6_copy 27 = .ok (.invokevirtual 52, 3) := by decide +kernel
theorem dX6_copy_30 : decode cX6_copy 30 = .ok (.ireturn, 1) := by decide +kernel
theorem dX6_copy_31 : decode cX6_copy 31 = .ok (.aload 6, 2) := by decide +kernel
theorem dX6_copy_33 : decode cX6_copy 33 = .ok (.invokevirtual 275, 3) := by decide +kernel
theorem dX6_copy_36 : decode cX6_copy 36 = .ok (.ifCond .ne 11, 3) := by decide +kernel
theorem dX6_copy_39 : decode cX6_copy 39 = .ok (.aload 7, 2) := by decide +kernel
theorem dX6_copy_41 : decode cX6_copy 41 = .ok (.invokevirtual 275, 3) := by decide +kernel
theorem dX6_copy_44 : decode cX6_copy 44 = .ok (.ifCond .eq 11, 3) := by decide +kernel
theorem dX6_copy_47 : decode cX6_copy 47 = .ok (.aload_n 0, 1) := by decide +kernel
theorem dX6_copy_48 : decode cX6_copy 48 = .ok (.ldc_w 278, 3) := by decide +kernel
theorem dX6_copy_51 : decode cX6_copy 51 = .ok (.invokevirtual 52, 3) := by decide +kernel
theorem dX6_copy_54 : decode cX6_copy 54 = .ok (.ireturn, 1) := by decide +kernel
theorem dX6_copy_55 : decode cX6_copy 55 = .ok (.aload 6, 2) := by decide +kernel
theorem dX6_copy_57 : decode cX6_copy 57 = .ok (.getfield 290, 3) := by decide +kernel
theorem dX6_copy_60 : decode cX6_copy 60 = .ok (.aload 7, 2) := by decide +kernel
theorem dX6_copy_62 : decode cX6_copy 62 = .ok (.getfield 290, 3) := by decide +kernel
theorem dX6_copy_65 : decode cX6_copy 65 = .ok (.if_icmp .eq 10, 3) := by decide +kernel
theorem dX6_copy_68 : decode cX6_copy 68 = .ok (.aload_n 0, 1) := by decide +kernel
theorem dX6_copy_69 : decode cX6_copy 69 = .ok (.ldc 220, 2) := by decide +kernel
theorem dX6_copy_71 : decode cX6_copy 71 = .ok (.invokevirtual 52, 3) := by decide +kernel
theorem dX6_copy_74 : decode cX6_copy 74 = .ok (.ireturn, 1) := by decide +kernel
theorem dX6_copy_75 : decode cX6_copy 75 = .ok (.aload 6, 2) := by decide +kernel
theorem dX6_copy_77 : decode cX6_copy 77 = .ok (.iload_n 2, 1) := by decide +kernel
theorem dX6_copy_78 : decode cX6_copy 78 = .ok (.iload 5, 2) := by decide +kernel
theorem dX6_copy_80 : decode cX6_copy 80 = .ok (.invokevirtual 293, 3) := by decide +kernel
theorem dX6_copy_83 : decode cX6_copy 83 = .ok (.ifCond .eq 15, 3) := by decide +kernel
theorem dX6_copy_86 : decode cX6_copy 86 = .ok (.aload 7, 2) := by decide +kernel
theorem dX6_copy_88 : decode cX6_copy 88 = .ok (.iload 4, 2) := by decide +kernel
theorem dX6_copy_90 : decode cX6_copy 90 = .ok (.iload 5, 2) := by decide +kernel
theorem dX6_copy_92 : decode cX6_copy 92 = .ok (.invokevirtual 293, 3) := by decide +kernel
theorem dX6_copy_95 : decode cX6_copy 95 = .ok (.ifCond .ne 10, 3) := by decide +kernel
theorem dX6_copy_98 : decode cX6_copy 98 = .ok (.aload_n 0, 1) := by decide +kernel
theorem dX6_copy_99 : decode cX6_copy 99 = .ok (.ldc 51, 2) := by decide +kernel
theorem dX6_copy_101 : decode cX6_copy 101 = .ok (.invokevirtual 52, 3) := by decide +kernel
theorem dX6_copy_104 : decode cX6_copy 104 = .ok (.ireturn, 1) := by decide +kernel
theorem dX6_copy_105 : decode cX6_copy 105 = .ok (.aload 6, 2) := by decide +kernel
theorem dX6_copy_107 : decode cX6_copy 107 = .ok (.getfield 296, 3) := by decide +kernel
theorem dX6_copy_110 : decode cX6_copy 110 = .ok (.iload_n 2, 1) := by decide +kernel
theorem dX6_copy_111 : decode cX6_copy 111 = .ok (.aload 7, 2) := by decide +kernel
theorem dX6_copy_113 : decode cX6_copy 113 = .ok (.getfield 296, 3) := by decide +kernel
theorem dX6_copy_116 : decode cX6_copy 116 = .ok (.iload 4, 2) := by decide +kernel
theorem dX6_copy_118 : decode cX6_copy 118 = .ok (.iload 5, 2) := by decide +kernel
theorem dX6_copy_120 : decode cX6_copy 120 = .ok (.invokestatic 300, 3) := by decide +kernel
theorem dX6_copy_123 : decode cX6_copy 123 = .ok (.iload 5, 2) := by decide +kernel
theorem dX6_copy_125 : decode cX6_copy 125 = .ok (.ireturn, 1) := by decide +kernel
theorem dX6_lays_0 : decode cX6_lays 0 = .ok (.aload_n 0, 1) := by decide +kernel
theorem dX6_lays_1 : decode cX6_lays 1 = .ok (.iload_n 1, 1) := by decide +kernel
theorem dX6_lays_2 : decode cX6_lays 2 = .ok (.invokevirtual 261, 3) := by decide +kernel
theorem dX6_lays_5 : decode cX6_lays 5 = .ok (.astore_n 2, 1) := by decide +kernel
theorem dX6_lays_6 : decode cX6_lays 6 = .ok (.aload_n 2, 1) := by decide +kernel
theorem dX6_lays_7 : decode cX6_lays 7 = .ok (.ifnonnull 10, 3) := by decide +kernel
theorem dX6_lays_10 : decode cX6_lays 10 = .ok (.aload_n 0, 1) := by decide +kernel
theorem dX6_lays_11 : decode cX6_lays 11 = .ok (.ldc 51, 2) := by decide +kernel
theorem dX6_lays_13 : decode cX6_lays 13 = .ok (.invokevirtual 52, 3) := by decide +kernel
theorem dX6_lays_16 : decode cX6_lays 16 = .ok (.ireturn, 1) := by decide +kernel
theorem dX6_lays_17 : decode cX6_lays 17 = .ok (.aload_n 2, 1) := by decide +kernel
theorem dX6_lays_18 : decode cX6_lays 18 = .ok (.invokevirtual 275, 3) := by decide +kernel
theorem dX6_lays_21 : decode cX6_lays 21 = .ok (.ifCond .eq 11, 3) := by decide +kernel
theorem dX6_lays_24 : decode cX6_lays 24 = .ok (.aload_n 0, 1) := by decide +kernel
theorem dX6_lays_25 : decode cX6_lays 25 = .ok (.ldc_w 278, 3) := by decide +kernel
theorem dX6_lays_28 : decode cX6_lays 28 = .ok (.invokevirtual 52, 3) := by decide +kernel
theorem dX6_lays_31 : decode cX6_lays 31 = .ok (.ireturn, 1) := by decide +kernel
theorem dX6_lays_32 : decode cX6_lays 32 = .ok (.iconst 0, 1) := by decide +kernel
theorem dX6_lays_33 : decode cX6_lays 33 = .ok (.istore_n 3, 1) := by decide +kernel
theorem dX6_lays_34 : decode cX6_lays 34 = .ok (.iconst 0, 1) := by decide +kernel
theorem dX6_lays_35 : decode cX6_lays 35 = .ok (.istore 4, 2) := by decide +kernel
theorem dX6_lays_37 : decode cX6_lays 37 = .ok (.iload 4, 2) := by decide +kernel
theorem dX6_lays_39 : decode cX6_lays 39 = .ok (.aload_n 2, 1) := by decide +kernel
theorem dX6_lays_40 : decode cX6_lays 40 = .ok (.getfield 272, 3) := by decide +kernel
theorem dX6_lays_43 : decode cX6_lays 43 = .ok (.if_icmp .ge 60, 3) := by decide +kernel
theorem dX6_lays_46 : decode cX6_lays 46 = .ok (.iload 4, 2) := by decide +kernel
theorem dX6_lays_48 : decode cX6_lays 48 = .ok (.aload_n 0, 1) := by decide +kernel
theorem dX6_lays_49 : decode cX6_lays 49 = .ok (.getfield 10, 3) := by decide +kernel
theorem dX6_lays_52 : decode cX6_lays 52 = .ok (.getfield 119, 3) := by decide +kernel
theorem dX6_lays_55 : decode cX6_lays 55 = .ok (.if_icmp .ge 48, 3) := by decide +kernel
theorem dX6_lays_58 : decode cX6_lays 58 = .ok (.aload_n 2, 1) := by decide +kernel
theorem dX6_lays_59 : decode cX6_lays 59 = .ok (.iload 4, 2) := by decide +kernel
theorem dX6_lays_61 : decode cX6_lays 61 = .ok (.invokevirtual 282, 3) := by decide +kernel
theorem dX6_lays_64 : decode cX6_lays 64 = .ok (.lstore 5, 2) := by decide +kernel
theorem dX6_lays_66 : decode cX6_lays 66 = .ok (.lload 5, 2) := by decide +kernel
theorem dX6_lays_68 : decode cX6_lays 68 = .ok (.lconst 0, 1) := by decide +kernel
theorem dX6_lays_69 : decode cX6_lays 69 = .ok (.lcmp, 1) := by decide +kernel
theorem dX6_lays_70 : decode cX6_lays 70 = .ok (.ifCond .lt 27, 3) := by decide +kernel
theorem dX6_lays_73 : decode cX6_lays 73 = .ok (.lload 5, 2) := by decide +kernel
theorem dX6_lays_75 : decode cX6_lays 75 = .ok (.ldc2_w 306, 3) := by decide +kernel
theorem dX6_lays_78 : decode cX6_lays 78 = .ok (.lcmp, 1) := by decide +kernel
theorem dX6_lays_79 : decode cX6_lays 79 = .ok (.ifCond .gt 18, 3) := by decide +kernel
theorem dX6_lays_82 : decode cX6_lays 82 = .ok (.aload_n 0, 1) := by decide +kernel
theorem dX6_lays_83 : decode cX6_lays 83 = .ok (.getfield 10, 3) := by decide +kernel
theorem dX6_lays_86 : decode cX6_lays 86 = .ok (.iload 4, 2) := by decide +kernel
theorem dX6_lays_88 : decode cX6_lays 88 = .ok (.lload 5, 2) := by decide +kernel
theorem dX6_lays_90 : decode cX6_lays 90 = .ok (.l2i, 1) := by decide +kernel
theorem dX6_lays_91 : decode cX6_lays 91 = .ok (.invokevirtual 80, 3) := by decide +kernel
theorem dX6_lays_94 : decode cX6_lays 94 = .ok (.iinc 3 1, 3) := by decide +kernel
theorem dX6_lays_97 : decode cX6_lays 97 = .ok (.iinc 4 1, 3) := by decide +kernel
theorem dX6_lays_100 : decode cX6_lays 100 = .ok (.goto (-63), 3) := by decide +kernel
theorem dX6_lays_103 : decode cX6_lays 103 = .ok (.iload_n 3, 1) := by decide +kernel
theorem dX6_lays_104 : decode cX6_lays 104 = .ok (.ireturn, 1) := by decide +kernel
theorem dX6_table_0 : decode cX6_table 0 = .ok (.aload_n 0, 1) := by decide +kernel
theorem dX6_table_1 : decode cX6_table 1 = .ok (.iload_n 1, 1) := by decide +kernel
theorem dX6_table_2 : decode cX6_table 2 = .ok (.invokevirtual 261, 3) := by decide +kernel
theorem dX6_table_5 : decode cX6_table 5 = .ok (.astore 4, 2) := by decide +kernel
theorem dX6_table_7 : decode cX6_table 7 = .ok (.aload 4, 2) := by decide +kernel
theorem dX6_table_9 : decode cX6_table 9 = .ok (.ifnonnull 10, 3) := by decide +kernel
theorem dX6_table_12 : decode cX6_table 12 = .ok (.aload_n 0, 1) := by decide +kernel
theorem dX6_table_13 : decode cX6_table 13 = .ok (.ldc 51, 2) := by decide +kernel
theorem dX6_table_15 : decode cX6_table 15 = .ok (.invokevirtual 52, 3) := by decide +kernel
theorem dX6_table_18 : decode cX6_table 18 = .ok (.ireturn, 1) := by decide +kernel
theorem dX6_table_19 : decode cX6_table 19 = .ok (.aload 4, 2) := by decide +kernel
theorem dX6_table_21 : decode cX6_table 21 = .ok (.invokevirtual 275, 3) := by decide +kernel
theorem dX6_table_24 : decode cX6_table 24 = .ok (.ifCond .eq 11, 3) := by decide +kernel
theorem dX6_table_27 : decode cX6_table 27 = .ok (.aload_n 0, 1) := by decide +kernel
theorem dX6_table_28 : decode cX6_table 28 = .ok (.ldc_w 278, 3) := by decide +kernel
theorem dX6_table_31 : decode cX6_table 31 = .ok (.invokevirtual 52, 3) := by decide +kernel
theorem dX6_table_34 : decode cX6_table 34 = .ok (.ireturn, 1) := by decide +kernel
theorem dX6_table_35 : decode cX6_table 35 = .ok (.iload_n 2, 1) := by decide +kernel
theorem dX6_table_36 : decode cX6_table 36 = .ok (.invokestatic 130, 3) := by decide +kernel
theorem dX6_table_39 : decode cX6_table 39 = .ok (.ifCond .eq 14, 3) := by decide +kernel
theorem dX6_table_42 : decode cX6_table 42 = .ok (.aload_n 0, 1) := by decide +kernel
theorem dX6_table_43 : decode cX6_table 43 = .ok (.getfield 10, 3) := by decide +kernel
theorem dX6_table_46 : decode cX6_table 46 = .ok (.iload_n 3, 1) := by decide +kernel
theorem dX6_table_47 : decode cX6_table 47 = .ok (.invokevirtual 65, 3) := by decide +kernel
theorem dX6_table_50 : decode cX6_table 50 = .ok (.ifCond .ne 10, 3) := by decide +kernel
theorem dX6_table_53 : decode cX6_table 53 = .ok (.aload_n 0, 1) := by decide +kernel
theorem dX6_table_54 : decode cX6_table 54 = .ok (.ldc 51, 2) := by decide +kernel
theorem dX6_table_56 : decode cX6_table 56 = .ok (.invokevirtual 52, 3) := by decide +kernel
theorem dX6_table_59 : decode cX6_table 59 = .ok (.ireturn, 1) := by decide +kernel
theorem dX6_table_60 : decode cX6_table 60 = .ok (.aload_n 0, 1) := by decide +kernel
theorem dX6_table_61 : decode cX6_table 61 = .ok (.getfield 25, 3) := by decide +kernel
theorem dX6_table_64 : decode cX6_table 64 = .ok (.aload_n 0, 1) := by decide +kernel
theorem dX6_table_65 : decode cX6_table 65 = .ok (.getfield 10, 3) := by decide +kernel
theorem dX6_table_68 : decode cX6_table 68 = .ok (.iload_n 2, 1) := by decide +kernel
theorem dX6_table_69 : decode cX6_table 69 = .ok (.invokevirtual 146, 3) := by decide +kernel
theorem dX6_table_72 : decode cX6_table 72 = .ok (.aload 4, 2) := by decide +kernel
theorem dX6_table_74 : decode cX6_table 74 = .ok (.getfield 272, 3) := by decide +kernel
theorem dX6_table_77 : decode cX6_table 77 = .ok (.aload_n 0, 1) := by decide +kernel
theorem dX6_table_78 : decode cX6_table 78 = .ok (.getfield 10, 3) := by decide +kernel
theorem dX6_table_81 : decode cX6_table 81 = .ok (.getfield 119, 3) := by decide +kernel
theorem dX6_table_84 : decode cX6_table 84 = .ok (.invokestatic 308, 3) := by decide +kernel
theorem dX6_table_87 : decode cX6_table 87 = .ok (.istore 5, 2) := by decide +kernel
theorem dX6_table_89 : decode cX6_table 89 = .ok (.iconst 0, 1) := by decide +kernel
theorem dX6_table_90 : decode cX6_table 90 = .ok (.istore 6, 2) := by decide +kernel
theorem dX6_table_92 : decode cX6_table 92 = .ok (.iload 6, 2) := by decide +kernel
theorem dX6_table_94 : decode cX6_table 94 = .ok (.iload 5, 2) := by decide +kernel
theorem dX6_table_96 : decode cX6_table 96 = .ok (.if_icmp .ge 59, 3) := by decide +kernel
theorem dX6_table_99 : decode cX6_table 99 = .ok (.aload_n 0, 1) := by decide +kernel
theorem dX6_table_100 : decode cX6_table 100 = .ok (.getfield 25, 3) := by decide +kernel
theorem dX6_table_103 : decode cX6_table 103 = .ok (.iload_n 3, 1) := by decide +kernel
theorem dX6_table_104 : decode cX6_table 104 = .ok (.iload 6, 2) := by decide +kernel
theorem dX6_table_106 : decode cX6_table 106 = .ok (.aload_n 0, 1) := by decide +kernel
theorem dX6_table_107 : decode cX6_table 107 = .ok (.getfield 10, 3) := by decide +kernel
theorem dX6_table_110 : decode cX6_table 110 = .ok (.getfield 150, 3) := by decide +kernel
theorem dX6_table_113 : decode cX6_table 113 = .ok (.invokevirtual 153, 3) := by decide +kernel
theorem dX6_table_116 : decode cX6_table 116 = .ok (.istore 7, 2) := by decide +kernel
theorem dX6_table_118 : decode cX6_table 118 = .ok (.aload 4, 2) := by decide +kernel
theorem dX6_table_120 : decode cX6_table 120 = .ok (.iload 6, 2) := by decide +kernel
theorem dX6_table_122 : decode cX6_table 122 = .ok (.iload 7, 2) := by decide +kernel
theorem dX6_table_124 : decode cX6_table 124 = .ok (.ldc 180, 2) := by decide +kernel
theorem dX6_table_126 : decode cX6_table 126 = .ok (.if_icmp .lt 9, 3) := by decide +kernel
theorem dX6_table_129 : decode cX6_table 129 = .ok (.ldc2_w 313, 3) := by decide +kernel
theorem dX6_table_132 : decode cX6_table 132 = .ok (.goto 14, 3) := by decide +kernel
theorem dX6_table_135 : decode cX6_table 135 = .ok (.iload 7, 2) := by decide +kernel
theorem dX6_table_137 : decode cX6_table 137 = .ok (.aload_n 0, 1) := by decide +kernel
theorem dX6_table_138 : decode cX6_table 138 = .ok (.getfield 10, 3) := by decide +kernel
theorem dX6_table_141 : decode cX6_table 141 = .ok (.getfield 150, 3) := by decide +kernel
theorem dX6_table_144 : decode cX6_table 144 = .ok (.isub, 1) := by decide +kernel
theorem dX6_table_145 : decode cX6_table 145 = .ok (.i2l, 1) := by decide +kernel
theorem dX6_table_146 : decode cX6_table 146 = .ok (.invokevirtual 286, 3) := by decide +kernel
theorem dX6_table_149 : decode cX6_table 149 = .ok (.iinc 6 1, 3) := by decide +kernel
theorem dX6_table_152 : decode cX6_table 152 = .ok (.goto (-60), 3) := by decide +kernel
theorem dX6_table_155 : decode cX6_table 155 = .ok (.iload 5, 2) := by decide +kernel
theorem dX6_table_157 : decode cX6_table 157 = .ok (.ireturn, 1) := by decide +kernel
theorem dX6_read_0 : decode cX6_read 0 = .ok (.aload_n 0, 1) := by decide +kernel
theorem dX6_read_1 : decode cX6_read 1 = .ok (.iload_n 1, 1) := by decide +kernel
theorem dX6_read_2 : decode cX6_read 2 = .ok (.invokevirtual 261, 3) := by decide +kernel
theorem dX6_read_5 : decode cX6_read 5 = .ok (.astore_n 3, 1) := by decide +kernel
theorem dX6_read_6 : decode cX6_read 6 = .ok (.aload_n 3, 1) := by decide +kernel
theorem dX6_read_7 : decode cX6_read 7 = .ok (.ifnonnull 10, 3) := by decide +kernel
theorem dX6_read_10 : decode cX6_read 10 = .ok (.aload_n 0, 1) := by decide +kernel
theorem dX6_read_11 : decode cX6_read 11 = .ok (.ldc 51, 2) := by decide +kernel
theorem dX6_read_13 : decode cX6_read 13 = .ok (.invokevirtual 52, 3) := by decide +kernel
theorem dX6_read_16 : decode cX6_read 16 = .ok (.ireturn, 1) := by decide +kernel
theorem dX6_read_17 : decode cX6_read 17 = .ok (.aload_n 3, 1) := by decide +kernel
theorem dX6_read_18 : decode cX6_read 18 = .ok (.invokevirtual 275, 3) := by decide +kernel
theorem dX6_read_21 : decode cX6_read 21 = .ok (.ifCond .eq 11, 3) := by decide +kernel
theorem dX6_read_24 : decode cX6_read 24 = .ok (.aload_n 0, 1) := by decide +kernel
theorem dX6_read_25 : decode cX6_read 25 = .ok (.ldc_w 278, 3) := by decide +kernel
theorem dX6_read_28 : decode cX6_read 28 = .ok (.invokevirtual 52, 3) := by decide +kernel
theorem dX6_read_31 : decode cX6_read 31 = .ok (.ireturn, 1) := by decide +kernel
theorem dX6_read_32 : decode cX6_read 32 = .ok (.iload_n 2, 1) := by decide +kernel
theorem dX6_read_33 : decode cX6_read 33 = .ok (.invokestatic 130, 3) := by decide +kernel
theorem dX6_read_36 : decode cX6_read 36 = .ok (.ifCond .ne 10, 3) := by decide +kernel
theorem dX6_read_39 : decode cX6_read 39 = .ok (.aload_n 0, 1) := by decide +kernel
theorem dX6_read_40 : decode cX6_read 40 = .ok (.ldc 51, 2) := by decide +kernel
theorem dX6_read_42 : decode cX6_read 42 = .ok (.invokevirtual 52, 3) := by decide +kernel
theorem dX6_read_45 : decode cX6_read 45 = .ok (.ireturn, 1) := by decide +kernel
theorem dX6_read_46 : decode cX6_read 46 = .ok (.iconst (-1), 1) := by decide +kernel
theorem dX6_read_47 : decode cX6_read 47 = .ok (.istore 4, 2) := by decide +kernel
theorem dX6_read_49 : decode cX6_read 49 = .ok (.iconst 0, 1) := by decide +kernel
theorem dX6_read_50 : decode cX6_read 50 = .ok (.istore 5, 2) := by decide +kernel
theorem dX6_read_52 : decode cX6_read 52 = .ok (.iload 5, 2) := by decide +kernel
theorem dX6_read_54 : decode cX6_read 54 = .ok (.aload_n 3, 1) := by decide +kernel
theorem dX6_read_55 : decode cX6_read 55 = .ok (.getfield 272, 3) := by decide +kernel
theorem dX6_read_58 : decode cX6_read 58 = .ok (.if_icmp .ge 77, 3) := by decide +kernel
theorem dX6_read_61 : decode cX6_read 61 = .ok (.aload_n 3, 1) := by decide +kernel
theorem dX6_read_62 : decode cX6_read 62 = .ok (.iload 5, 2) := by decide +kernel
theorem dX6_read_64 : decode cX6_read 64 = .ok (.invokevirtual 282, 3) := by decide +kernel
theorem dX6_read_67 : decode cX6_read 67 = .ok (.lstore 6, 2) := by decide +kernel
theorem dX6_read_69 : decode cX6_read 69 = .ok (.lload 6, 2) := by decide +kernel
theorem dX6_read_71 : decode cX6_read 71 = .ok (.lconst 0, 1) := by decide +kernel
theorem dX6_read_72 : decode cX6_read 72 = .ok (.lcmp, 1) := by decide +kernel
theorem dX6_read_73 : decode cX6_read 73 = .ok (.ifCond .lt 17, 3) := by decide +kernel
theorem dX6_read_76 : decode cX6_read 76 = .ok (.lload 6, 2) := by decide +kernel
theorem dX6_read_78 : decode cX6_read 78 = .ok (.aload_n 0, 1) := by decide +kernel
theorem dX6_read_79 : decode cX6_read 79 = .ok (.getfield 10, 3) := by decide +kernel
theorem dX6_read_82 : decode cX6_read 82 = .ok (.getfield 119, 3) := by decide +kernel
theorem dX6_read_85 : decode cX6_read 85 = .ok (.i2l, 1) := by decide +kernel
theorem dX6_read_86 : decode cX6_read 86 = .ok (.lcmp, 1) := by decide +kernel
theorem dX6_read_87 : decode cX6_read 87 = .ok (.ifCond .lt 8, 3) := by decide +kernel
theorem dX6_read_90 : decode cX6_read 90 = .ok (.iconst 1, 1) := by decide +kernel
theorem dX6_read_91 : decode cX6_read 91 = .ok (.iload 5, 2) := by decide +kernel
theorem dX6_read_93 : decode cX6_read 93 = .ok (.iadd, 1) := by decide +kernel
theorem dX6_read_94 : decode cX6_read 94 = .ok (.ireturn, 1) := by decide +kernel
theorem dX6_read_95 : decode cX6_read 95 = .ok (.lload 6, 2) := by decide +kernel
theorem dX6_read_97 : decode cX6_read 97 = .ok (.l2i, 1) := by decide +kernel
theorem dX6_read_98 : decode cX6_read 98 = .ok (.istore 8, 2) := by decide +kernel
theorem dX6_read_100 : decode cX6_read 100 = .ok (.iload 5, 2) := by decide +kernel
theorem dX6_read_102 : decode cX6_read 102 = .ok (.ifCond .le 23, 3) := by decide +kernel
theorem dX6_read_105 : decode cX6_read 105 = .ok (.aload_n 0, 1) := by decide +kernel
theorem dX6_read_106 : decode cX6_read 106 = .ok (.getfield 10, 3) := by decide +kernel
theorem dX6_read_109 : decode cX6_read 109 = .ok (.iload_n 2, 1) := by decide +kernel
theorem dX6_read_110 : decode cX6_read 110 = .ok (.iload 4, 2) := by decide +kernel
theorem dX6_read_112 : decode cX6_read 112 = .ok (.iload 8, 2) := by decide +kernel
theorem dX6_read_114 : decode cX6_read 114 = .ok (.invokevirtual 315, 3) := by decide +kernel
theorem dX6_read_117 : decode cX6_read 117 = .ok (.ifCond .ne 8, 3) := by decide +kernel
theorem dX6_read_120 : decode cX6_read 120 = .ok (.iconst 1, 1) := by decide +kernel
theorem dX6_read_121 : decode cX6_read 121 = .ok (.iload 5, 2) := by decide +kernel
theorem dX6_read_123 : decode cX6_read 123 = .ok (.iadd, 1) := by decide +kernel
theorem dX6_read_124 : decode cX6_read 124 = .ok (.ireturn, 1) := by decide +kernel
theorem dX6_read_125 : decode cX6_read 125 = .ok (.iload 8, 2) := by decide +kernel
theorem dX6_read_127 : decode cX6_read 127 = .ok (.istore 4, 2) := by decide +kernel
theorem dX6_read_129 : decode cX6_read 129 = .ok (.iinc 5 1, 3) := by decide +kernel
theorem dX6_read_132 : decode cX6_read 132 = .ok (.goto (-80), 3) := by decide +kernel
theorem dX6_read_135 : decode cX6_read 135 = .ok (.iconst 0, 1) := by decide +kernel
theorem dX6_read_136 : decode cX6_read 136 = .ok (.ireturn, 1) := by decide +kernel
theorem dX6_image_0 : decode cX6_image 0 = .ok (.aload_n 0, 1) := by decide +kernel
theorem dX6_image_1 : decode cX6_image 1 = .ok (.getfield 16, 3) := by decide +kernel
theorem dX6_image_4 : decode cX6_image 4 = .ok (.aload_n 0, 1) := by decide +kernel
theorem dX6_image_5 : decode cX6_image 5 = .ok (.getfield 10, 3) := by decide +kernel
theorem dX6_image_8 : decode cX6_image 8 = .ok (.invokevirtual 241, 3) := by decide +kernel
theorem dX6_image_11 : decode cX6_image 11 = .ok (.aload_n 0, 1) := by decide +kernel
theorem dX6_image_12 : decode cX6_image 12 = .ok (.iconst 1, 1) := by decide +kernel
theorem dX6_image_13 : decode cX6_image 13 = .ok (.putfield 318, 3) := by decide +kernel
theorem dX6_image_16 : decode cX6_image 16 = .ok (.iconst 1, 1) := by decide +kernel
theorem dX6_image_17 : decode cX6_image 17 = .ok (.ireturn, 1) := by decide +kernel
theorem dX6_undo_0 : decode cX6_undo 0 = .ok (.aload_n 0, 1) := by decide +kernel
theorem dX6_undo_1 : decode cX6_undo 1 = .ok (.getfield 318, 3) := by decide +kernel
theorem dX6_undo_4 : decode cX6_undo 4 = .ok (.ifCond .ne 10, 3) := by decide +kernel
theorem dX6_undo_7 : decode cX6_undo 7 = .ok (.aload_n 0, 1) := by decide +kernel
theorem dX6_undo_8 : decode cX6_undo 8 = .ok (.ldc 122, 2) := by decide +kernel
theorem dX6_undo_10 : decode cX6_undo 10 = .ok (.invokevirtual 52, 3) := by decide +kernel
theorem dX6_undo_13 : decode cX6_undo 13 = .ok (.ireturn, 1) := by decide +kernel
theorem dX6_undo_14 : decode cX6_undo 14 = .ok (.aload_n 0, 1) := by decide +kernel
theorem dX6_undo_15 : decode cX6_undo 15 = .ok (.getfield 10, 3) := by decide +kernel
theorem dX6_undo_18 : decode cX6_undo 18 = .ok (.aload_n 0, 1) := by decide +kernel
theorem dX6_undo_19 : decode cX6_undo 19 = .ok (.getfield 16, 3) := by decide +kernel
theorem dX6_undo_22 : decode cX6_undo 22 = .ok (.invokevirtual 241, 3) := by decide +kernel
theorem dX6_undo_25 : decode cX6_undo 25 = .ok (.aload_n 0, 1) := by decide +kernel
theorem dX6_undo_26 : decode cX6_undo 26 = .ok (.getfield 10, 3) := by decide +kernel
theorem dX6_undo_29 : decode cX6_undo 29 = .ok (.getfield 119, 3) := by decide +kernel
theorem dX6_undo_32 : decode cX6_undo 32 = .ok (.ireturn, 1) := by decide +kernel
theorem dX6_tear_0 : decode cX6_tear 0 = .ok (.aload_n 0, 1) := by decide +kernel
theorem dX6_tear_1 : decode cX6_tear 1 = .ok (.getfield 318, 3) := by decide +kernel
theorem dX6_tear_4 : decode cX6_tear 4 = .ok (.ifCond .eq 7, 3) := by decide +kernel
theorem dX6_tear_7 : decode cX6_tear 7 = .ok (.iconst 1, 1) := by decide +kernel
theorem dX6_tear_8 : decode cX6_tear 8 = .ok (.goto 4, 3) := by decide +kernel
theorem dX6_tear_11 : decode cX6_tear 11 = .ok (.iconst 0, 1) := by decide +kernel
theorem dX6_tear_12 : decode cX6_tear 12 = .ok (.istore_n 1, 1) := by decide +kernel
theorem dX6_tear_13 : decode cX6_tear 13 = .ok (.aload_n 0, 1) := by decide +kernel
theorem dX6_tear_14 : decode cX6_tear 14 = .ok (.iconst 0, 1) := by decide +kernel
theorem dX6_tear_15 : decode cX6_tear 15 = .ok (.putfield 318, 3) := by decide +kernel
theorem dX6_tear_18 : decode cX6_tear 18 = .ok (.iload_n 1, 1) := by decide +kernel
theorem dX6_tear_19 : decode cX6_tear 19 = .ok (.ireturn, 1) := by decide +kernel
theorem dX6_count_0 : decode cX6_count 0 = .ok (.iload_n 1, 1) := by decide +kernel
theorem dX6_count_1 : decode cX6_count 1 = .ok (.tableswitch 75 0 4 #[35, 43, 51, 59, 67], 35) := by decide +kernel
theorem dX6_count_36 : decode cX6_count 36 = .ok (.aload_n 0, 1) := by decide +kernel
theorem dX6_count_37 : decode cX6_count 37 = .ok (.getfield 10, 3) := by decide +kernel
theorem dX6_count_40 : decode cX6_count 40 = .ok (.getfield 119, 3) := by decide +kernel
theorem dX6_count_43 : decode cX6_count 43 = .ok (.ireturn, 1) := by decide +kernel
theorem dX6_count_44 : decode cX6_count 44 = .ok (.aload_n 0, 1) := by decide +kernel
theorem dX6_count_45 : decode cX6_count 45 = .ok (.getfield 10, 3) := by decide +kernel
theorem dX6_count_48 : decode cX6_count 48 = .ok (.getfield 322, 3) := by decide +kernel
theorem dX6_count_51 : decode cX6_count 51 = .ok (.ireturn, 1) := by decide +kernel
theorem dX6_count_52 : decode cX6_count 52 = .ok (.aload_n 0, 1) := by decide +kernel
theorem dX6_count_53 : decode cX6_count 53 = .ok (.getfield 10, 3) := by decide +kernel
theorem dX6_count_56 : decode cX6_count 56 = .ok (.getfield 231, 3) := by decide +kernel
theorem dX6_count_59 : decode cX6_count 59 = .ok (.ireturn, 1) := by decide +kernel
theorem dX6_count_60 : decode cX6_count 60 = .ok (.aload_n 0, 1) := by decide +kernel
theorem dX6_count_61 : decode cX6_count 61 = .ok (.getfield 32, 3) := by decide +kernel
theorem dX6_count_64 : decode cX6_count 64 = .ok (.getfield 248, 3) := by decide +kernel
theorem dX6_count_67 : decode cX6_count 67 = .ok (.ireturn, 1) := by decide +kernel
theorem dX6_count_68 : decode cX6_count 68 = .ok (.aload_n 0, 1) := by decide +kernel
theorem dX6_count_69 : decode cX6_count 69 = .ok (.getfield 10, 3) := by decide +kernel
theorem dX6_count_72 : decode cX6_count 72 = .ok (.invokevirtual 325, 3) := by decide +kernel
theorem dX6_count_75 : decode cX6_count 75 = .ok (.ireturn, 1) := by decide +kernel
theorem dX6_count_76 : decode cX6_count 76 = .ok (.aload_n 0, 1) := by decide +kernel
theorem dX6_count_77 : decode cX6_count 77 = .ok (.ldc 51, 2) := by decide +kernel
theorem dX6_count_79 : decode cX6_count 79 = .ok (.invokevirtual 52, 3) := by decide +kernel
theorem dX6_count_82 : decode cX6_count 82 = .ok (.ireturn, 1) := by decide +kernel
theorem dX6_status_0 : decode cX6_status 0 = .ok (.iload_n 1, 1) := by decide +kernel
theorem dX6_status_1 : decode cX6_status 1 = .ok (.iconst (-1), 1) := by decide +kernel
theorem dX6_status_2 : decode cX6_status 2 = .ok (.if_icmp .lt 9, 3) := by decide +kernel
theorem dX6_status_5 : decode cX6_status 5 = .ok (.iload_n 1, 1) := by decide +kernel
theorem dX6_status_6 : decode cX6_status 6 = .ok (.bipush 7, 2) := by decide +kernel
theorem dX6_status_8 : decode cX6_status 8 = .ok (.if_icmp .lt 10, 3) := by decide +kernel
theorem dX6_status_11 : decode cX6_status 11 = .ok (.aload_n 0, 1) := by decide +kernel
theorem dX6_status_12 : decode cX6_status 12 = .ok (.ldc 51, 2) := by decide +kernel
theorem dX6_status_14 : decode cX6_status 14 = .ok (.invokevirtual 52, 3) := by decide +kernel
theorem dX6_status_17 : decode cX6_status 17 = .ok (.ireturn, 1) := by decide +kernel
theorem dX6_status_18 : decode cX6_status 18 = .ok (.iload_n 1, 1) := by decide +kernel
theorem dX6_status_19 : decode cX6_status 19 = .ok (.ifCond .lt 10, 3) := by decide +kernel
theorem dX6_status_22 : decode cX6_status 22 = .ok (.aload_n 0, 1) := by decide +kernel
theorem dX6_status_23 : decode cX6_status 23 = .ok (.getfield 42, 3) := by decide +kernel
theorem dX6_status_26 : decode cX6_status 26 = .ok (.iload_n 1, 1) := by decide +kernel
theorem dX6_status_27 : decode cX6_status 27 = .ok (.iaload, 1) := by decide +kernel
theorem dX6_status_28 : decode cX6_status 28 = .ok (.ireturn, 1) := by decide +kernel
theorem dX6_status_29 : decode cX6_status 29 = .ok (.iconst 0, 1) := by decide +kernel
theorem dX6_status_30 : decode cX6_status 30 = .ok (.istore_n 2, 1) := by decide +kernel
theorem dX6_status_31 : decode cX6_status 31 = .ok (.iconst 0, 1) := by decide +kernel
theorem dX6_status_32 : decode cX6_status 32 = .ok (.istore_n 3, 1) := by decide +kernel
theorem dX6_status_33 : decode cX6_status 33 = .ok (.iload_n 3, 1) := by decide +kernel
theorem dX6_status_34 : decode cX6_status 34 = .ok (.bipush 7, 2) := by decide +kernel
theorem dX6_status_36 : decode cX6_status 36 = .ok (.if_icmp .ge 18, 3) := by decide +kernel
theorem dX6_status_39 : decode cX6_status 39 = .ok (.iload_n 2, 1) := by decide +kernel
theorem dX6_status_40 : decode cX6_status 40 = .ok (.aload_n 0, 1) := by decide +kernel
theorem dX6_status_41 : decode cX6_status 41 = .ok (.getfield 42, 3) := by decide +kernel
theorem dX6_status_44 : decode cX6_status 44 = .ok (.iload_n 3, 1) := by decide +kernel
theorem dX6_status_45 : decode cX6_status 45 = .ok (.iaload, 1) := by decide +kernel
theorem dX6_status_46 : decode cX6_status 46 = .ok (.iadd, 1) := by decide +kernel
theorem dX6_status_47 : decode cX6_status 47 = .ok (.istore_n 2, 1) := by decide +kernel
theorem dX6_status_48 : decode cX6_status 48 = .ok (.iinc 3 1, 3) := by decide +kernel
theorem dX6_status_51 : decode cX6_status 51 = .ok (.goto (-18), 3) := by decide +kernel
theorem dX6_status_54 : decode cX6_status 54 = .ok (.iload_n 2, 1) := by decide +kernel
theorem dX6_status_55 : decode cX6_status 55 = .ok (.ireturn, 1) := by decide +kernel
theorem dX6_finding_0 : decode cX6_finding 0 = .ok (.ldc 51, 2) := by decide +kernel
theorem dX6_finding_2 : decode cX6_finding 2 = .ok (.iload_n 1, 1) := by decide +kernel
theorem dX6_finding_3 : decode cX6_finding 3 = .ok (.isub, 1) := by decide +kernel
theorem dX6_finding_4 : decode cX6_finding 4 = .ok (.istore_n 2, 1) := by decide +kernel
theorem dX6_finding_5 : decode cX6_finding 5 = .ok (.iload_n 2, 1) := by decide +kernel
theorem dX6_finding_6 : decode cX6_finding 6 = .ok (.ifCond .lt 19, 3) := by decide +kernel
theorem dX6_finding_9 : decode cX6_finding 9 = .ok (.iload_n 2, 1) := by decide +kernel
theorem dX6_finding_10 : decode cX6_finding 10 = .ok (.bipush 7, 2) := by decide +kernel
theorem dX6_finding_12 : decode cX6_finding 12 = .ok (.if_icmp .ge 13, 3) := by decide +kernel
theorem dX6_finding_15 : decode cX6_finding 15 = .ok (.aload_n 0, 1) := by decide +kernel
theorem dX6_finding_16 : decode cX6_finding 16 = .ok (.getfield 42, 3) := by decide +kernel
theorem dX6_finding_19 : decode cX6_finding 19 = .ok (.iload_n 2, 1) := by decide +kernel
theorem dX6_finding_20 : decode cX6_finding 20 = .ok (.dup2, 1) := by decide +kernel
theorem dX6_finding_21 : decode cX6_finding 21 = .ok (.iaload, 1) := by decide +kernel
theorem dX6_finding_22 : decode cX6_finding 22 = .ok (.iconst 1, 1) := by decide +kernel
theorem dX6_finding_23 : decode cX6_finding 23 = .ok (.iadd, 1) := by decide +kernel
theorem dX6_finding_24 : decode cX6_finding 24 = .ok (.iastore, 1) := by decide +kernel
theorem dX6_finding_25 : decode cX6_finding 25 = .ok (.iload_n 1, 1) := by decide +kernel
theorem dX6_finding_26 : decode cX6_finding 26 = .ok (.ireturn, 1) := by decide +kernel
theorem dX6_isKind_0 : decode cX6_isKind 0 = .ok (.iload_n 0, 1) := by decide +kernel
theorem dX6_isKind_1 : decode cX6_isKind 1 = .ok (.ifCond .lt 13, 3) := by decide +kernel
theorem dX6_isKind_4 : decode cX6_isKind 4 = .ok (.iload_n 0, 1) := by decide +kernel
theorem dX6_isKind_5 : decode cX6_isKind 5 = .ok (.bipush 6, 2) := by decide +kernel
theorem dX6_isKind_7 : decode cX6_isKind 7 = .ok (.if_icmp .ge 7, 3) := by decide +kernel
theorem dX6_isKind_10 : decode cX6_isKind 10 = .ok (.iconst 1, 1) := by decide +kernel
theorem dX6_isKind_11 : decode cX6_isKind 11 = .ok (.goto 4, 3) := by decide +kernel
theorem dX6_isKind_14 : decode cX6_isKind 14 = .ok (.iconst 0, 1) := by decide +kernel
theorem dX6_isKind_15 : decode cX6_isKind 15 = .ok (.ireturn, 1) := by decide +kernel
theorem dX6_isHeight_0 : decode cX6_isHeight 0 = .ok (.iload_n 0, 1) := by decide +kernel
theorem dX6_isHeight_1 : decode cX6_isHeight 1 = .ok (.ifCond .lt 14, 3) := by decide +kernel
theorem dX6_isHeight_4 : decode cX6_isHeight 4 = .ok (.iload_n 0, 1) := by decide +kernel
theorem dX6_isHeight_5 : decode cX6_isHeight 5 = .ok (.sipush 9999, 3) := by decide +kernel
theorem dX6_isHeight_8 : decode cX6_isHeight 8 = .ok (.if_icmp .gt 7, 3) := by decide +kernel
theorem dX6_isHeight_11 : decode cX6_isHeight 11 = .ok (.iconst 1, 1) := by decide +kernel
theorem dX6_isHeight_12 : decode cX6_isHeight 12 = .ok (.goto 4, 3) := by decide +kernel
theorem dX6_isHeight_15 : decode cX6_isHeight 15 = .ok (.iconst 0, 1) := by decide +kernel
theorem dX6_isHeight_16 : decode cX6_isHeight 16 = .ok (.ireturn, 1) := by decide +kernel
theorem dX6_areVillages_0 : decode cX6_areVillages 0 = .ok (.aload_n 0, 1) := by decide +kernel
theorem dX6_areVillages_1 : decode cX6_areVillages 1 = .ok (.getfield 10, 3) := by decide +kernel
theorem dX6_areVillages_4 : decode cX6_areVillages 4 = .ok (.iload_n 1, 1) := by decide +kernel
theorem dX6_areVillages_5 : decode cX6_areVillages 5 = .ok (.invokevirtual 65, 3) := by decide +kernel
theorem dX6_areVillages_8 : decode cX6_areVillages 8 = .ok (.ifCond .eq 18, 3) := by decide +kernel
theorem dX6_areVillages_11 : decode cX6_areVillages 11 = .ok (.aload_n 0, 1) := by decide +kernel
theorem dX6_areVillages_12 : decode cX6_areVillages 12 = .ok (.getfield 10, 3) := by decide +kernel
theorem dX6_areVillages_15 : decode cX6_areVillages 15 = .ok (.iload_n 2, 1) := by decide +kernel
theorem dX6_areVillages_16 : decode cX6_areVillages 16 = .ok (.invokevirtual 65, 3) := by decide +kernel
theorem dX6_areVillages_19 : decode cX6_areVillages 19 = .ok (.ifCond .eq 7, 3) := by decide +kernel
theorem dX6_areVillages_22 : decode cX6_areVillages 22 = .ok (.iconst 1, 1) := by decide +kernel
theorem dX6_areVillages_23 : decode cX6_areVillages 23 = .ok (.goto 4, 3) := by decide +kernel
theorem dX6_areVillages_26 : decode cX6_areVillages 26 = .ok (.iconst 0, 1) := by decide +kernel
theorem dX6_areVillages_27 : decode cX6_areVillages 27 = .ok (.ireturn, 1) := by decide +kernel
theorem dX6_areUnlikeVillages_0 : decode cX6_areUnlikeVillages 0 = .ok (.aload_n 0, 1) := by decide +kernel
theorem dX6_areUnlikeVillages_1 : decode cX6_areUnlikeVillages 1 = .ok (.iload_n 1, 1) := by decide +kernel
theorem dX6_areUnlikeVillages_2 : decode cX6_areUnlikeVillages 2 = .ok (.iload_n 2, 1) := by decide +kernel
theorem dX6_areUnlikeVillages_3 : decode cX6_areUnlikeVillages 3 = .ok (.invokevirtual 143, 3) := by decide +kernel
theorem dX6_areUnlikeVillages_6 : decode cX6_areUnlikeVillages 6 = .ok (.ifCond .eq 12, 3) := by decide +kernel
theorem dX6_areUnlikeVillages_9 : decode cX6_areUnlikeVillages 9 = .ok (.iload_n 1, 1) := by decide +kernel
theorem dX6_areUnlikeVillages_10 : decode cX6_areUnlikeVillages 10 = .ok (.iload_n 2, 1) := by decide +kernel
theorem dX6_areUnlikeVillages_11 : decode cX6_areUnlikeVillages 11 = .ok (.if_icmp .eq 7, 3) := by decide +kernel
theorem dX6_areUnlikeVillages_14 : decode cX6_areUnlikeVillages 14 = .ok (.iconst 1, 1) := by decide +kernel
theorem dX6_areUnlikeVillages_15 : decode cX6_areUnlikeVillages 15 = .ok (.goto 4, 3) := by decide +kernel
theorem dX6_areUnlikeVillages_18 : decode cX6_areUnlikeVillages 18 = .ok (.iconst 0, 1) := by decide +kernel
theorem dX6_areUnlikeVillages_19 : decode cX6_areUnlikeVillages 19 = .ok (.ireturn, 1) := by decide +kernel
theorem dX6_sheetAt_0 : decode cX6_sheetAt 0 = .ok (.iload_n 1, 1) := by decide +kernel
theorem dX6_sheetAt_1 : decode cX6_sheetAt 1 = .ok (.ifCond .lt 17, 3) := by decide +kernel
theorem dX6_sheetAt_4 : decode cX6_sheetAt 4 = .ok (.iload_n 1, 1) := by decide +kernel
theorem dX6_sheetAt_5 : decode cX6_sheetAt 5 = .ok (.iconst 4, 1) := by decide +kernel
theorem dX6_sheetAt_6 : decode cX6_sheetAt 6 = .ok (.if_icmp .ge 12, 3) := by decide +kernel
theorem dX6_sheetAt_9 : decode cX6_sheetAt 9 = .ok (.aload_n 0, 1) := by decide +kernel
theorem dX6_sheetAt_10 : decode cX6_sheetAt 10 = .ok (.getfield 38, 3) := by decide +kernel
theorem dX6_sheetAt_13 : decode cX6_sheetAt 13 = .ok (.iload_n 1, 1) := by decide +kernel
theorem dX6_sheetAt_14 : decode cX6_sheetAt 14 = .ok (.aaload, 1) := by decide +kernel
theorem dX6_sheetAt_15 : decode cX6_sheetAt 15 = .ok (.goto 4, 3) := by decide +kernel
theorem dX6_sheetAt_18 : decode cX6_sheetAt 18 = .ok (.aconst_null, 1) := by decide +kernel
theorem dX6_sheetAt_19 : decode cX6_sheetAt 19 = .ok (.areturn, 1) := by decide +kernel
theorem dX6_daysUntil_0 : decode cX6_daysUntil 0 = .ok (.iload_n 1, 1) := by decide +kernel
theorem dX6_daysUntil_1 : decode cX6_daysUntil 1 = .ok (.ldc 180, 2) := by decide +kernel
theorem dX6_daysUntil_3 : decode cX6_daysUntil 3 = .ok (.if_icmp .lt 12, 3) := by decide +kernel
theorem dX6_daysUntil_6 : decode cX6_daysUntil 6 = .ok (.aload_n 0, 1) := by decide +kernel
theorem dX6_daysUntil_7 : decode cX6_daysUntil 7 = .ok (.ldc 122, 2) := by decide +kernel
theorem dX6_daysUntil_9 : decode cX6_daysUntil 9 = .ok (.invokevirtual 52, 3) := by decide +kernel
theorem dX6_daysUntil_12 : decode cX6_daysUntil 12 = .ok (.goto 12, 3) := by decide +kernel
theorem dX6_daysUntil_15 : decode cX6_daysUntil 15 = .ok (.iload_n 1, 1) := by decide +kernel
theorem dX6_daysUntil_16 : decode cX6_daysUntil 16 = .ok (.aload_n 0, 1) := by decide +kernel
theorem dX6_daysUntil_17 : decode cX6_daysUntil 17 = .ok (.getfield 10, 3) := by decide +kernel
theorem dX6_daysUntil_20 : decode cX6_daysUntil 20 = .ok (.getfield 150, 3) := by decide +kernel
theorem dX6_daysUntil_23 : decode cX6_daysUntil 23 = .ok (.isub, 1) := by decide +kernel
theorem dX6_daysUntil_24 : decode cX6_daysUntil 24 = .ok (.ireturn, 1) := by decide +kernel
theorem dX6_heightToRise_0 : decode cX6_heightToRise 0 = .ok (.ldc 180, 2) := by decide +kernel
theorem dX6_heightToRise_2 : decode cX6_heightToRise 2 = .ok (.istore 4, 2) := by decide +kernel
theorem dX6_heightToRise_4 : decode cX6_heightToRise 4 = .ok (.iconst 0, 1) := by decide +kernel
theorem dX6_heightToRise_5 : decode cX6_heightToRise 5 = .ok (.istore 5, 2) := by decide +kernel
theorem dX6_heightToRise_7 : decode cX6_heightToRise 7 = .ok (.iload 5, 2) := by decide +kernel
theorem dX6_heightToRise_9 : decode cX6_heightToRise 9 = .ok (.aload_n 0, 1) := by decide +kernel
theorem dX6_heightToRise_10 : decode cX6_heightToRise 10 = .ok (.getfield 10, 3) := by decide +kernel
theorem dX6_heightToRise_13 : decode cX6_heightToRise 13 = .ok (.getfield 119, 3) := by decide +kernel
theorem dX6_heightToRise_16 : decode cX6_heightToRise 16 = .ok (.if_icmp .ge 69, 3) := by decide +kernel
theorem dX6_heightToRise_19 : decode cX6_heightToRise 19 = .ok (.aload_n 0, 1) := by decide +kernel
theorem dX6_heightToRise_20 : decode cX6_heightToRise 20 = .ok (.getfield 10, 3) := by decide +kernel
theorem dX6_heightToRise_23 : decode cX6_heightToRise 23 = .ok (.iload_n 2, 1) := by decide +kernel
theorem dX6_heightToRise_24 : decode cX6_heightToRise 24 = .ok (.iload 5, 2) := by decide +kernel
theorem dX6_heightToRise_26 : decode cX6_heightToRise 26 = .ok (.invokevirtual 92, 3) := by decide +kernel
theorem dX6_heightToRise_29 : decode cX6_heightToRise 29 = .ok (.ifCond .eq 50, 3) := by decide +kernel
theorem dX6_heightToRise_32 : decode cX6_heightToRise 32 = .ok (.aload_n 0, 1) := by decide +kernel
theorem dX6_heightToRise_33 : decode cX6_heightToRise 33 = .ok (.getfield 10, 3) := by decide +kernel
theorem dX6_heightToRise_36 : decode cX6_heightToRise 36 = .ok (.iload_n 1, 1) := by decide +kernel
theorem dX6_heightToRise_37 : decode cX6_heightToRise 37 = .ok (.iload 5, 2) := by decide +kernel
theorem dX6_heightToRise_39 : decode cX6_heightToRise 39 = .ok (.invokevirtual 328, 3) := by decide +kernel
theorem dX6_heightToRise_42 : decode cX6_heightToRise 42 = .ok (.ifCond .eq 37, 3) := by decide +kernel
theorem dX6_heightToRise_45 : decode cX6_heightToRise 45 = .ok (.aload_n 0, 1) := by decide +kernel
theorem dX6_heightToRise_46 : decode cX6_heightToRise 46 = .ok (.getfield 25, 3) := by decide +kernel
theorem dX6_heightToRise_49 : decode cX6_heightToRise 49 = .ok (.iload 5, 2) := by decide +kernel
theorem dX6_heightToRise_51 : decode cX6_heightToRise 51 = .ok (.iload_n 3, 1) := by decide +kernel
theorem dX6_heightToRise_52 : decode cX6_heightToRise 52 = .ok (.invokevirtual 181, 3) := by decide +kernel
theorem dX6_heightToRise_55 : decode cX6_heightToRise 55 = .ok (.ifCond .eq 24, 3) := by decide +kernel
theorem dX6_heightToRise_58 : decode cX6_heightToRise 58 = .ok (.iload 4, 2) := by decide +kernel
theorem dX6_heightToRise_60 : decode cX6_heightToRise 60 = .ok (.aload_n 0, 1) := by decide +kernel
theorem dX6_heightToRise_61 : decode cX6_heightToRise 61 = .ok (.getfield 10, 3) := by decide +kernel
theorem dX6_heightToRise_64 : decode cX6_heightToRise 64 = .ok (.iload 5, 2) := by decide +kernel
theorem dX6_heightToRise_66 : decode cX6_heightToRise 66 = .ok (.invokevirtual 68, 3) := by decide +kernel
theorem dX6_heightToRise_69 : decode cX6_heightToRise 69 = .ok (.iload_n 1, 1) := by decide +kernel
theorem dX6_heightToRise_70 : decode cX6_heightToRise 70 = .ok (.invokestatic 331, 3) := by decide +kernel
theorem dX6_heightToRise_73 : decode cX6_heightToRise 73 = .ok (.iadd, 1) := by decide +kernel
theorem dX6_heightToRise_74 : decode cX6_heightToRise 74 = .ok (.invokestatic 308, 3) := by decide +kernel
theorem dX6_heightToRise_77 : decode cX6_heightToRise 77 = .ok (.istore 4, 2) := by decide +kernel
theorem dX6_heightToRise_79 : decode cX6_heightToRise 79 = .ok (.iinc 5 1, 3) := by decide +kernel
theorem dX6_heightToRise_82 : decode cX6_heightToRise 82 = .ok (.goto (-75), 3) := by decide +kernel
theorem dX6_heightToRise_85 : decode cX6_heightToRise 85 = .ok (.iload 4, 2) := by decide +kernel
theorem dX6_heightToRise_87 : decode cX6_heightToRise 87 = .ok (.ireturn, 1) := by decide +kernel
theorem dX6_bestDigging_0 : decode cX6_bestDigging 0 = .ok (.aload_n 0, 1) := by decide +kernel
theorem dX6_bestDigging_1 : decode cX6_bestDigging 1 = .ok (.getfield 25, 3) := by decide +kernel
theorem dX6_bestDigging_4 : decode cX6_bestDigging 4 = .ok (.iload_n 2, 1) := by decide +kernel
theorem dX6_bestDigging_5 : decode cX6_bestDigging 5 = .ok (.invokevirtual 159, 3) := by decide +kernel
theorem dX6_bestDigging_8 : decode cX6_bestDigging 8 = .ok (.istore_n 3, 1) := by decide +kernel
theorem dX6_bestDigging_9 : decode cX6_bestDigging 9 = .ok (.iconst (-1), 1) := by decide +kernel
theorem dX6_bestDigging_10 : decode cX6_bestDigging 10 = .ok (.istore 4, 2) := by decide +kernel
theorem dX6_bestDigging_12 : decode cX6_bestDigging 12 = .ok (.iload_n 3, 1) := by decide +kernel
theorem dX6_bestDigging_13 : decode cX6_bestDigging 13 = .ok (.invokestatic 334, 3) := by decide +kernel
theorem dX6_bestDigging_16 : decode cX6_bestDigging 16 = .ok (.istore 5, 2) := by decide +kernel
theorem dX6_bestDigging_18 : decode cX6_bestDigging 18 = .ok (.iconst 0, 1) := by decide +kernel
theorem dX6_bestDigging_19 : decode cX6_bestDigging 19 = .ok (.istore 6, 2) := by decide +kernel
theorem dX6_bestDigging_21 : decode cX6_bestDigging 21 = .ok (.iload 6, 2) := by decide +kernel
theorem dX6_bestDigging_23 : decode cX6_bestDigging 23 = .ok (.aload_n 0, 1) := by decide +kernel
theorem dX6_bestDigging_24 : decode cX6_bestDigging 24 = .ok (.getfield 10, 3) := by decide +kernel
theorem dX6_bestDigging_27 : decode cX6_bestDigging 27 = .ok (.getfield 119, 3) := by decide +kernel
theorem dX6_bestDigging_30 : decode cX6_bestDigging 30 = .ok (.if_icmp .ge 60, 3) := by decide +kernel
theorem dX6_bestDigging_33 : decode cX6_bestDigging 33 = .ok (.iload 6, 2) := by decide +kernel
theorem dX6_bestDigging_35 : decode cX6_bestDigging 35 = .ok (.iload_n 2, 1) := by decide +kernel
theorem dX6_bestDigging_36 : decode cX6_bestDigging 36 = .ok (.if_icmp .eq 48, 3) := by decide +kernel
theorem dX6_bestDigging_39 : decode cX6_bestDigging 39 = .ok (.aload_n 0, 1) := by decide +kernel
theorem dX6_bestDigging_40 : decode cX6_bestDigging 40 = .ok (.getfield 10, 3) := by decide +kernel
theorem dX6_bestDigging_43 : decode cX6_bestDigging 43 = .ok (.iload_n 1, 1) := by decide +kernel
theorem dX6_bestDigging_44 : decode cX6_bestDigging 44 = .ok (.iload_n 2, 1) := by decide +kernel
theorem dX6_bestDigging_45 : decode cX6_bestDigging 45 = .ok (.iload 6, 2) := by decide +kernel
theorem dX6_bestDigging_47 : decode cX6_bestDigging 47 = .ok (.invokevirtual 139, 3) := by decide +kernel
theorem dX6_bestDigging_50 : decode cX6_bestDigging 50 = .ok (.ifCond .eq 34, 3) := by decide +kernel
theorem dX6_bestDigging_53 : decode cX6_bestDigging 53 = .ok (.iload_n 3, 1) := by decide +kernel
theorem dX6_bestDigging_54 : decode cX6_bestDigging 54 = .ok (.aload_n 0, 1) := by decide +kernel
theorem dX6_bestDigging_55 : decode cX6_bestDigging 55 = .ok (.getfield 25, 3) := by decide +kernel
theorem dX6_bestDigging_58 : decode cX6_bestDigging 58 = .ok (.iload 6, 2) := by decide +kernel
theorem dX6_bestDigging_60 : decode cX6_bestDigging 60 = .ok (.invokevirtual 159, 3) := by decide +kernel
theorem dX6_bestDigging_63 : decode cX6_bestDigging 63 = .ok (.ior, 1) := by decide +kernel
theorem dX6_bestDigging_64 : decode cX6_bestDigging 64 = .ok (.invokestatic 334, 3) := by decide +kernel
theorem dX6_bestDigging_67 : decode cX6_bestDigging 67 = .ok (.istore 7, 2) := by decide +kernel
theorem dX6_bestDigging_69 : decode cX6_bestDigging 69 = .ok (.iload 7, 2) := by decide +kernel
theorem dX6_bestDigging_71 : decode cX6_bestDigging 71 = .ok (.iload 5, 2) := by decide +kernel
theorem dX6_bestDigging_73 : decode cX6_bestDigging 73 = .ok (.if_icmp .le 11, 3) := by decide +kernel
theorem dX6_bestDigging_76 : decode cX6_bestDigging 76 = .ok (.iload 6, 2) := by decide +kernel
theorem dX6_bestDigging_78 : decode cX6_bestDigging 78 = .ok (.istore 4, 2) := by decide +kernel
theorem dX6_bestDigging_80 : decode cX6_bestDigging 80 = .ok (.iload 7, 2) := by decide +kernel
theorem dX6_bestDigging_82 : decode cX6_bestDigging 82 = .ok (.istore 5, 2) := by decide +kernel
theorem dX6_bestDigging_84 : decode cX6_bestDigging 84 = .ok (.iinc 6 1, 3) := by decide +kernel
theorem dX6_bestDigging_87 : decode cX6_bestDigging 87 = .ok (.goto (-66), 3) := by decide +kernel
theorem dX6_bestDigging_90 : decode cX6_bestDigging 90 = .ok (.iload 4, 2) := by decide +kernel
theorem dX6_bestDigging_92 : decode cX6_bestDigging 92 = .ok (.ireturn, 1) := by decide +kernel
theorem dX6_carryOn_0 : decode cX6_carryOn 0 = .ok (.aload_n 1, 1) := by decide +kernel
theorem dX6_carryOn_1 : decode cX6_carryOn 1 = .ok (.iload_n 2, 1) := by decide +kernel
theorem dX6_carryOn_2 : decode cX6_carryOn 2 = .ok (.invokevirtual 196, 3) := by decide +kernel
theorem dX6_carryOn_5 : decode cX6_carryOn 5 = .ok (.ifCond .eq 11, 3) := by decide +kernel
theorem dX6_carryOn_8 : decode cX6_carryOn 8 = .ok (.aload_n 1, 1) := by decide +kernel
theorem dX6_carryOn_9 : decode cX6_carryOn 9 = .ok (.iload_n 2, 1) := by decide +kernel
theorem dX6_carryOn_10 : decode cX6_carryOn 10 = .ok (.invokevirtual 214, 3) := by decide +kernel
theorem dX6_carryOn_13 : decode cX6_carryOn 13 = .ok (.ifCond .eq 4, 3) := by decide +kernel
theorem dX6_carryOn_16 : decode cX6_carryOn 16 = .ok (.return_, 1) := by decide +kernel
theorem dX6_carryOn_17 : decode cX6_carryOn 17 = .ok (.aload_n 0, 1) := by decide +kernel
theorem dX6_carryOn_18 : decode cX6_carryOn 18 = .ok (.getfield 25, 3) := by decide +kernel
theorem dX6_carryOn_21 : decode cX6_carryOn 21 = .ok (.aload_n 1, 1) := by decide +kernel
theorem dX6_carryOn_22 : decode cX6_carryOn 22 = .ok (.aload_n 1, 1) := by decide +kernel
theorem dX6_carryOn_23 : decode cX6_carryOn 23 = .ok (.getfield 199, 3) := by decide +kernel
theorem dX6_carryOn_26 : decode cX6_carryOn 26 = .ok (.iload_n 2, 1) := by decide +kernel
theorem dX6_carryOn_27 : decode cX6_carryOn 27 = .ok (.iaload, 1) := by decide +kernel
theorem dX6_carryOn_28 : decode cX6_carryOn 28 = .ok (.invokevirtual 146, 3) := by decide +kernel
theorem dX6_carryOn_31 : decode cX6_carryOn 31 = .ok (.iconst 0, 1) := by decide +kernel
theorem dX6_carryOn_32 : decode cX6_carryOn 32 = .ok (.istore 4, 2) := by decide +kernel
theorem dX6_carryOn_34 : decode cX6_carryOn 34 = .ok (.iload 4, 2) := by decide +kernel
theorem dX6_carryOn_36 : decode cX6_carryOn 36 = .ok (.iload_n 3, 1) := by decide +kernel
theorem dX6_carryOn_37 : decode cX6_carryOn 37 = .ok (.if_icmp .ge 25, 3) := by decide +kernel
theorem dX6_carryOn_40 : decode cX6_carryOn 40 = .ok (.aload_n 1, 1) := by decide +kernel
theorem dX6_carryOn_41 : decode cX6_carryOn 41 = .ok (.iload_n 2, 1) := by decide +kernel
theorem dX6_carryOn_42 : decode cX6_carryOn 42 = .ok (.aload_n 0, 1) := by decide +kernel
theorem dX6_carryOn_43 : decode cX6_carryOn 43 = .ok (.getfield 25, 3) := by decide +kernel
theorem dX6_carryOn_46 : decode cX6_carryOn 46 = .ok (.aload_n 1, 1) := by decide +kernel
theorem dX6_carryOn_47 : decode cX6_carryOn 47 = .ok (.getfield 150, 3) := by decide +kernel
theorem dX6_carryOn_50 : decode cX6_carryOn 50 = .ok (.iload 4, 2) := by decide +kernel
theorem dX6_carryOn_52 : decode cX6_carryOn 52 = .ok (.iadd, 1) := by decide +kernel
theorem dX6_carryOn_53 : decode cX6_carryOn 53 = .ok (.invokevirtual 339, 3) := by decide +kernel
theorem dX6_carryOn_56 : decode cX6_carryOn 56 = .ok (.iinc 4 1, 3) := by decide +kernel
theorem dX6_carryOn_59 : decode cX6_carryOn 59 = .ok (.goto (-25), 3) := by decide +kernel
theorem dX6_carryOn_62 : decode cX6_carryOn 62 = .ok (.return_, 1) := by decide +kernel
theorem dX6_daysAhead_0 : decode cX6_daysAhead 0 = .ok (.aload_n 0, 1) := by decide +kernel
theorem dX6_daysAhead_1 : decode cX6_daysAhead 1 = .ok (.getfield 19, 3) := by decide +kernel
theorem dX6_daysAhead_4 : decode cX6_daysAhead 4 = .ok (.aload_n 0, 1) := by decide +kernel
theorem dX6_daysAhead_5 : decode cX6_daysAhead 5 = .ok (.getfield 10, 3) := by decide +kernel
theorem dX6_daysAhead_8 : decode cX6_daysAhead 8 = .ok (.invokevirtual 241, 3) := by decide +kernel
theorem dX6_daysAhead_11 : decode cX6_daysAhead 11 = .ok (.aload_n 0, 1) := by decide +kernel
theorem dX6_daysAhead_12 : decode cX6_daysAhead 12 = .ok (.getfield 19, 3) := by decide +kernel
theorem dX6_daysAhead_15 : decode cX6_daysAhead 15 = .ok (.iload_n 1, 1) := by decide +kernel
theorem dX6_daysAhead_16 : decode cX6_daysAhead 16 = .ok (.invokevirtual 196, 3) := by decide +kernel
theorem dX6_daysAhead_19 : decode cX6_daysAhead 19 = .ok (.ifCond .ne 6, 3) := by decide +kernel
theorem dX6_daysAhead_22 : decode cX6_daysAhead 22 = .ok (.ldc 180, 2) := by decide +kernel
theorem dX6_daysAhead_24 : decode cX6_daysAhead 24 = .ok (.ireturn, 1) := by decide +kernel
theorem dX6_daysAhead_25 : decode cX6_daysAhead 25 = .ok (.aload_n 0, 1) := by decide +kernel
theorem dX6_daysAhead_26 : decode cX6_daysAhead 26 = .ok (.getfield 25, 3) := by decide +kernel
theorem dX6_daysAhead_29 : decode cX6_daysAhead 29 = .ok (.aload_n 0, 1) := by decide +kernel
theorem dX6_daysAhead_30 : decode cX6_daysAhead 30 = .ok (.getfield 19, 3) := by decide +kernel
theorem dX6_daysAhead_33 : decode cX6_daysAhead 33 = .ok (.aload_n 0, 1) := by decide +kernel
theorem dX6_daysAhead_34 : decode cX6_daysAhead 34 = .ok (.getfield 19, 3) := by decide +kernel
theorem dX6_daysAhead_37 : decode cX6_daysAhead 37 = .ok (.getfield 199, 3) := by decide +kernel
theorem dX6_daysAhead_40 : decode cX6_daysAhead 40 = .ok (.iload_n 1, 1) := by decide +kernel
theorem dX6_daysAhead_41 : decode cX6_daysAhead 41 = .ok (.iaload, 1) := by decide +kernel
theorem dX6_daysAhead_42 : decode cX6_daysAhead 42 = .ok (.invokevirtual 146, 3) := by decide +kernel
theorem dX6_daysAhead_45 : decode cX6_daysAhead 45 = .ok (.iconst 0, 1) := by decide +kernel
theorem dX6_daysAhead_46 : decode cX6_daysAhead 46 = .ok (.istore_n 2, 1) := by decide +kernel
theorem dX6_daysAhead_47 : decode cX6_daysAhead 47 = .ok (.iload_n 2, 1) := by decide +kernel
theorem dX6_daysAhead_48 : decode cX6_daysAhead 48 = .ok (.sipush 200, 3) := by decide +kernel
theorem dX6_daysAhead_51 : decode cX6_daysAhead 51 = .ok (.if_icmp .ge 43, 3) := by decide +kernel
theorem dX6_daysAhead_54 : decode cX6_daysAhead 54 = .ok (.aload_n 0, 1) := by decide +kernel
theorem dX6_daysAhead_55 : decode cX6_daysAhead 55 = .ok (.getfield 19, 3) := by decide +kernel
theorem dX6_daysAhead_58 : decode cX6_daysAhead 58 = .ok (.iload_n 1, 1) := by decide +kernel
theorem dX6_daysAhead_59 : decode cX6_daysAhead 59 = .ok (.invokevirtual 214, 3) := by decide +kernel
theorem dX6_daysAhead_62 : decode cX6_daysAhead 62 = .ok (.ifCond .eq 5, 3) := by decide +kernel
theorem dX6_daysAhead_65 : decode cX6_daysAhead 65 = .ok (.iload_n 2, 1) := by decide +kernel
theorem dX6_daysAhead_66 : decode cX6_daysAhead 66 = .ok (.ireturn, 1) := by decide +kernel
theorem dX6_daysAhead_67 : decode cX6_daysAhead 67 = .ok (.aload_n 0, 1) := by decide +kernel
theorem dX6_daysAhead_68 : decode cX6_daysAhead 68 = .ok (.getfield 19, 3) := by decide +kernel
theorem dX6_daysAhead_71 : decode cX6_daysAhead 71 = .ok (.iload_n 1, 1) := by decide +kernel
theorem dX6_daysAhead_72 : decode cX6_daysAhead 72 = .ok (.aload_n 0, 1) := by decide +kernel
theorem dX6_daysAhead_73 : decode cX6_daysAhead 73 = .ok (.getfield 25, 3) := by decide +kernel
theorem dX6_daysAhead_76 : decode cX6_daysAhead 76 = .ok (.aload_n 0, 1) := by decide +kernel
theorem dX6_daysAhead_77 : decode cX6_daysAhead 77 = .ok (.getfield 19, 3) := by decide +kernel
theorem dX6_daysAhead_80 : decode cX6_daysAhead 80 = .ok (.getfield 150, 3) := by decide +kernel
theorem dX6_daysAhead_83 : decode cX6_daysAhead 83 = .ok (.iload_n 2, 1) := by decide +kernel
theorem dX6_daysAhead_84 : decode cX6_daysAhead 84 = .ok (.iadd, 1) := by decide +kernel
theorem dX6_daysAhead_85 : decode cX6_daysAhead 85 = .ok (.invokevirtual 339, 3) := by decide +kernel
theorem dX6_daysAhead_88 : decode cX6_daysAhead 88 = .ok (.iinc 2 1, 3) := by decide +kernel
theorem dX6_daysAhead_91 : decode cX6_daysAhead 91 = .ok (.goto (-44), 3) := by decide +kernel
theorem dX6_daysAhead_94 : decode cX6_daysAhead 94 = .ok (.aload_n 0, 1) := by decide +kernel
theorem dX6_daysAhead_95 : decode cX6_daysAhead 95 = .ok (.getfield 19, 3) := by decide +kernel
theorem dX6_daysAhead_98 : decode cX6_daysAhead 98 = .ok (.iload_n 1, 1) := by decide +kernel
theorem dX6_daysAhead_99 : decode cX6_daysAhead 99 = .ok (.invokevirtual 214, 3) := by decide +kernel
theorem dX6_daysAhead_102 : decode cX6_daysAhead 102 = .ok (.ifCond .eq 9, 3) := by decide +kernel
theorem dX6_daysAhead_105 : decode cX6_daysAhead 105 = .ok (.sipush 200, 3) := by decide +kernel
theorem dX6_daysAhead_108 : decode cX6_daysAhead 108 = .ok (.goto 5, 3) := by decide +kernel
theorem dX6_daysAhead_111 : decode cX6_daysAhead 111 = .ok (.ldc 180, 2) := by decide +kernel
theorem dX6_daysAhead_113 : decode cX6_daysAhead 113 = .ok (.ireturn, 1) := by decide +kernel
