theorem dX0_init_0 : decode cX0_init 0 = .ok (.aload_n 0, 1) := by decide +kernel
theorem dX0_init_1 : decode cX0_init 1 = .ok (.invokespecial 3, 3) := by decide +kernel
theorem dX0_init_4 : decode cX0_init 4 = .ok (.aload_n 0, 1) := by decide +kernel
theorem dX0_init_5 : decode cX0_init 5 = .ok (.iconst 0, 1) := by decide +kernel
theorem dX0_init_6 : decode cX0_init 6 = .ok (.putfield 9, 3) := by decide +kernel
theorem dX0_init_9 : decode cX0_init 9 = .ok (.aload_n 0, 1) := by decide +kernel
theorem dX0_init_10 : decode cX0_init 10 = .ok (.iconst 0, 1) := by decide +kernel
theorem dX0_init_11 : decode cX0_init 11 = .ok (.putfield 15, 3) := by decide +kernel
theorem dX0_init_14 : decode cX0_init 14 = .ok (.aload_n 0, 1) := by decide +kernel
theorem dX0_init_15 : decode cX0_init 15 = .ok (.iconst 0, 1) := by decide +kernel
theorem dX0_init_16 : decode cX0_init 16 = .ok (.putfield 19, 3) := by decide +kernel
theorem dX0_init_19 : decode cX0_init 19 = .ok (.aload_n 0, 1) := by decide +kernel
theorem dX0_init_20 : decode cX0_init 20 = .ok (.iconst 0, 1) := by decide +kernel
theorem dX0_init_21 : decode cX0_init 21 = .ok (.putfield 22, 3) := by decide +kernel
theorem dX0_init_24 : decode cX0_init 24 = .ok (.aload_n 0, 1) := by decide +kernel
theorem dX0_init_25 : decode cX0_init 25 = .ok (.bipush 8, 2) := by decide +kernel
theorem dX0_init_27 : decode cX0_init 27 = .ok (.newarray .int, 2) := by decide +kernel
theorem dX0_init_29 : decode cX0_init 29 = .ok (.putfield 25, 3) := by decide +kernel
theorem dX0_init_32 : decode cX0_init 32 = .ok (.aload_n 0, 1) := by decide +kernel
theorem dX0_init_33 : decode cX0_init 33 = .ok (.sipush 256, 3) := by decide +kernel
theorem dX0_init_36 : decode cX0_init 36 = .ok (.newarray .int, 2) := by decide +kernel
theorem dX0_init_38 : decode cX0_init 38 = .ok (.putfield 29, 3) := by decide +kernel
theorem dX0_init_41 : decode cX0_init 41 = .ok (.aload_n 0, 1) := by decide +kernel
theorem dX0_init_42 : decode cX0_init 42 = .ok (.sipush 256, 3) := by decide +kernel
theorem dX0_init_45 : decode cX0_init 45 = .ok (.newarray .int, 2) := by decide +kernel
theorem dX0_init_47 : decode cX0_init 47 = .ok (.putfield 32, 3) := by decide +kernel
theorem dX0_init_50 : decode cX0_init 50 = .ok (.aload_n 0, 1) := by decide +kernel
theorem dX0_init_51 : decode cX0_init 51 = .ok (.sipush 128, 3) := by decide +kernel
theorem dX0_init_54 : decode cX0_init 54 = .ok (.newarray .int, 2) := by decide +kernel
theorem dX0_init_56 : decode cX0_init 56 = .ok (.putfield 35, 3) := by decide +kernel
theorem dX0_init_59 : decode cX0_init 59 = .ok (.aload_n 0, 1) := by decide +kernel
theorem dX0_init_60 : decode cX0_init 60 = .ok (.sipush 128, 3) := by decide +kernel
theorem dX0_init_63 : decode cX0_init 63 = .ok (.newarray .int, 2) := by decide +kernel
theorem dX0_init_65 : decode cX0_init 65 = .ok (.putfield 38, 3) := by decide +kernel
theorem dX0_init_68 : decode cX0_init 68 = .ok (.return_, 1) := by decide +kernel
theorem dX0_find_0 : decode cX0_find 0 = .ok (.aload_n 0, 1) := by decide +kernel
theorem dX0_find_1 : decode cX0_find 1 = .ok (.getfield 9, 3) := by decide +kernel
theorem dX0_find_4 : decode cX0_find 4 = .ok (.ifCond .eq 4, 3) := by decide +kernel
theorem dX0_find_7 : decode cX0_find 7 = .ok (.return_, 1) := by decide +kernel
theorem dX0_find_8 : decode cX0_find 8 = .ok (.aload_n 0, 1) := by decide +kernel
theorem dX0_find_9 : decode cX0_find 9 = .ok (.iconst 1, 1) := by decide +kernel
theorem dX0_find_10 : decode cX0_find 10 = .ok (.putfield 9, 3) := by decide +kernel
theorem dX0_find_13 : decode cX0_find 13 = .ok (.aload_n 0, 1) := by decide +kernel
theorem dX0_find_14 : decode cX0_find 14 = .ok (.iload_n 2, 1) := by decide +kernel
theorem dX0_find_15 : decode cX0_find 15 = .ok (.bipush 8, 2) := by decide +kernel
theorem dX0_find_17 : decode cX0_find 17 = .ok (.invokestatic 41, 3) := by decide +kernel
theorem dX0_find_20 : decode cX0_find 20 = .ok (.putfield 15, 3) := by decide +kernel
theorem dX0_find_23 : decode cX0_find 23 = .ok (.aload_n 0, 1) := by decide +kernel
theorem dX0_find_24 : decode cX0_find 24 = .ok (.aload_n 1, 1) := by decide +kernel
theorem dX0_find_25 : decode cX0_find 25 = .ok (.invokevirtual 47, 3) := by decide +kernel
theorem dX0_find_28 : decode cX0_find 28 = .ok (.aload_n 0, 1) := by decide +kernel
theorem dX0_find_29 : decode cX0_find 29 = .ok (.getfield 29, 3) := by decide +kernel
theorem dX0_find_32 : decode cX0_find 32 = .ok (.iconst 0, 1) := by decide +kernel
theorem dX0_find_33 : decode cX0_find 33 = .ok (.iconst 0, 1) := by decide +kernel
theorem dX0_find_34 : decode cX0_find 34 = .ok (.iastore, 1) := by decide +kernel
theorem dX0_find_35 : decode cX0_find 35 = .ok (.aload_n 0, 1) := by decide +kernel
theorem dX0_find_36 : decode cX0_find 36 = .ok (.getfield 32, 3) := by decide +kernel
theorem dX0_find_39 : decode cX0_find 39 = .ok (.iconst 0, 1) := by decide +kernel
theorem dX0_find_40 : decode cX0_find 40 = .ok (.iconst 1, 1) := by decide +kernel
theorem dX0_find_41 : decode cX0_find 41 = .ok (.iastore, 1) := by decide +kernel
theorem dX0_find_42 : decode cX0_find 42 = .ok (.iconst 1, 1) := by decide +kernel
theorem dX0_find_43 : decode cX0_find 43 = .ok (.aload_n 0, 1) := by decide +kernel
theorem dX0_find_44 : decode cX0_find 44 = .ok (.getfield 15, 3) := by decide +kernel
theorem dX0_find_47 : decode cX0_find 47 = .ok (.ishl, 1) := by decide +kernel
theorem dX0_find_48 : decode cX0_find 48 = .ok (.iconst 1, 1) := by decide +kernel
theorem dX0_find_49 : decode cX0_find 49 = .ok (.isub, 1) := by decide +kernel
theorem dX0_find_50 : decode cX0_find 50 = .ok (.istore_n 3, 1) := by decide +kernel
theorem dX0_find_51 : decode cX0_find 51 = .ok (.iconst 1, 1) := by decide +kernel
theorem dX0_find_52 : decode cX0_find 52 = .ok (.istore 4, 2) := by decide +kernel
theorem dX0_find_54 : decode cX0_find 54 = .ok (.iload 4, 2) := by decide +kernel
theorem dX0_find_56 : decode cX0_find 56 = .ok (.iload_n 3, 1) := by decide +kernel
theorem dX0_find_57 : decode cX0_find 57 = .ok (.if_icmp .gt 23, 3) := by decide +kernel
theorem dX0_find_60 : decode cX0_find 60 = .ok (.iload 4, 2) := by decide +kernel
theorem dX0_find_62 : decode cX0_find 62 = .ok (.sipush 256, 3) := by decide +kernel
theorem dX0_find_65 : decode cX0_find 65 = .ok (.if_icmp .ge 15, 3) := by decide +kernel
theorem dX0_find_68 : decode cX0_find 68 = .ok (.aload_n 0, 1) := by decide +kernel
theorem dX0_find_69 : decode cX0_find 69 = .ok (.iload 4, 2) := by decide +kernel
theorem dX0_find_71 : decode cX0_find 71 = .ok (.invokevirtual 51, 3) := by decide +kernel
theorem dX0_find_74 : decode cX0_find 74 = .ok (.iinc 4 1, 3) := by decide +kernel
theorem dX0_find_77 : decode cX0_find 77 = .ok (.goto (-23), 3) := by decide +kernel
theorem dX0_find_80 : decode cX0_find 80 = .ok (.aload_n 0, 1) := by decide +kernel
theorem dX0_find_81 : decode cX0_find 81 = .ok (.aload_n 0, 1) := by decide +kernel
theorem dX0_find_82 : decode cX0_find 82 = .ok (.getfield 29, 3) := by decide +kernel
theorem dX0_find_85 : decode cX0_find 85 = .ok (.iload_n 3, 1) := by decide +kernel
theorem dX0_find_86 : decode cX0_find 86 = .ok (.sipush 255, 3) := by decide +kernel
theorem dX0_find_89 : decode cX0_find 89 = .ok (.iand, 1) := by decide +kernel
theorem dX0_find_90 : decode cX0_find 90 = .ok (.iaload, 1) := by decide +kernel
theorem dX0_find_91 : decode cX0_find 91 = .ok (.putfield 19, 3) := by decide +kernel
theorem dX0_find_94 : decode cX0_find 94 = .ok (.aload_n 0, 1) := by decide +kernel
theorem dX0_find_95 : decode cX0_find 95 = .ok (.aload_n 0, 1) := by decide +kernel
theorem dX0_find_96 : decode cX0_find 96 = .ok (.getfield 32, 3) := by decide +kernel
theorem dX0_find_99 : decode cX0_find 99 = .ok (.iload_n 3, 1) := by decide +kernel
theorem dX0_find_100 : decode cX0_find 100 = .ok (.sipush 255, 3) := by decide +kernel
theorem dX0_find_103 : decode cX0_find 103 = .ok (.iand, 1) := by decide +kernel
theorem dX0_find_104 : decode cX0_find 104 = .ok (.iaload, 1) := by decide +kernel
theorem dX0_find_105 : decode cX0_find 105 = .ok (.putfield 22, 3) := by decide +kernel
theorem dX0_find_108 : decode cX0_find 108 = .ok (.aload_n 0, 1) := by decide +kernel
theorem dX0_find_109 : decode cX0_find 109 = .ok (.iload_n 3, 1) := by decide +kernel
theorem dX0_find_110 : decode cX0_find 110 = .ok (.invokevirtual 55, 3) := by decide +kernel
theorem dX0_find_113 : decode cX0_find 113 = .ok (.return_, 1) := by decide +kernel
theorem dX0_sampleAt_0 : decode cX0_sampleAt 0 = .ok (.iload_n 1, 1) := by decide +kernel
theorem dX0_sampleAt_1 : decode cX0_sampleAt 1 = .ok (.ifCond .lt 20, 3) := by decide +kernel
theorem dX0_sampleAt_4 : decode cX0_sampleAt 4 = .ok (.iload_n 1, 1) := by decide +kernel
theorem dX0_sampleAt_5 : decode cX0_sampleAt 5 = .ok (.aload_n 0, 1) := by decide +kernel
theorem dX0_sampleAt_6 : decode cX0_sampleAt 6 = .ok (.getfield 15, 3) := by decide +kernel
theorem dX0_sampleAt_9 : decode cX0_sampleAt 9 = .ok (.if_icmp .ge 12, 3) := by decide +kernel
theorem dX0_sampleAt_12 : decode cX0_sampleAt 12 = .ok (.aload_n 0, 1) := by decide +kernel
theorem dX0_sampleAt_13 : decode cX0_sampleAt 13 = .ok (.getfield 25, 3) := by decide +kernel
theorem dX0_sampleAt_16 : decode cX0_sampleAt 16 = .ok (.iload_n 1, 1) := by decide +kernel
theorem dX0_sampleAt_17 : decode cX0_sampleAt 17 = .ok (.iaload, 1) := by decide +kernel
theorem dX0_sampleAt_18 : decode cX0_sampleAt 18 = .ok (.goto 4, 3) := by decide +kernel
theorem dX0_sampleAt_21 : decode cX0_sampleAt 21 = .ok (.iconst (-1), 1) := by decide +kernel
theorem dX0_sampleAt_22 : decode cX0_sampleAt 22 = .ok (.ireturn, 1) := by decide +kernel
theorem dX0_placeOf_0 : decode cX0_placeOf 0 = .ok (.iconst 0, 1) := by decide +kernel
theorem dX0_placeOf_1 : decode cX0_placeOf 1 = .ok (.istore_n 2, 1) := by decide +kernel
theorem dX0_placeOf_2 : decode cX0_placeOf 2 = .ok (.iload_n 2, 1) := by decide +kernel
theorem dX0_placeOf_3 : decode cX0_placeOf 3 = .ok (.aload_n 0, 1) := by decide +kernel
theorem dX0_placeOf_4 : decode cX0_placeOf 4 = .ok (.getfield 15, 3) := by decide +kernel
theorem dX0_placeOf_7 : decode cX0_placeOf 7 = .ok (.if_icmp .ge 21, 3) := by decide +kernel
theorem dX0_placeOf_10 : decode cX0_placeOf 10 = .ok (.aload_n 0, 1) := by decide +kernel
theorem dX0_placeOf_11 : decode cX0_placeOf 11 = .ok (.getfield 25, 3) := by decide +kernel
theorem dX0_placeOf_14 : decode cX0_placeOf 14 = .ok (.iload_n 2, 1) := by decide +kernel
theorem dX0_placeOf_15 : decode cX0_placeOf 15 = .ok (.iaload, 1) := by decide +kernel
theorem dX0_placeOf_16 : decode cX0_placeOf 16 = .ok (.iload_n 1, 1) := by decide +kernel
theorem dX0_placeOf_17 : decode cX0_placeOf 17 = .ok (.if_icmp .ne 5, 3) := by decide +kernel
theorem dX0_placeOf_20 : decode cX0_placeOf 20 = .ok (.iload_n 2, 1) := by decide +kernel
theorem dX0_placeOf_21 : decode cX0_placeOf 21 = .ok (.ireturn, 1) := by decide +kernel
theorem dX0_placeOf_22 : decode cX0_placeOf 22 = .ok (.iinc 2 1, 3) := by decide +kernel
theorem dX0_placeOf_25 : decode cX0_placeOf 25 = .ok (.goto (-23), 3) := by decide +kernel
theorem dX0_placeOf_28 : decode cX0_placeOf 28 = .ok (.iconst (-1), 1) := by decide +kernel
theorem dX0_placeOf_29 : decode cX0_placeOf 29 = .ok (.ireturn, 1) := by decide +kernel
theorem dX0_takeCosts_0 : decode cX0_takeCosts 0 = .ok (.iconst 0, 1) := by decide +kernel
theorem dX0_takeCosts_1 : decode cX0_takeCosts 1 = .ok (.istore_n 2, 1) := by decide +kernel
theorem dX0_takeCosts_2 : decode cX0_takeCosts 2 = .ok (.iload_n 2, 1) := by decide +kernel
theorem dX0_takeCosts_3 : decode cX0_takeCosts 3 = .ok (.aload_n 0, 1) := by decide +kernel
theorem dX0_takeCosts_4 : decode cX0_takeCosts 4 = .ok (.getfield 15, 3) := by decide +kernel
theorem dX0_takeCosts_7 : decode cX0_takeCosts 7 = .ok (.if_icmp .ge 120, 3) := by decide +kernel
theorem dX0_takeCosts_10 : decode cX0_takeCosts 10 = .ok (.iload_n 2, 1) := by decide +kernel
theorem dX0_takeCosts_11 : decode cX0_takeCosts 11 = .ok (.bipush 16, 2) := by decide +kernel
theorem dX0_takeCosts_13 : decode cX0_takeCosts 13 = .ok (.imul, 1) := by decide +kernel
theorem dX0_takeCosts_14 : decode cX0_takeCosts 14 = .ok (.istore_n 3, 1) := by decide +kernel
theorem dX0_takeCosts_15 : decode cX0_takeCosts 15 = .ok (.aload_n 0, 1) := by decide +kernel
theorem dX0_takeCosts_16 : decode cX0_takeCosts 16 = .ok (.getfield 35, 3) := by decide +kernel
theorem dX0_takeCosts_19 : decode cX0_takeCosts 19 = .ok (.iload_n 3, 1) := by decide +kernel
theorem dX0_takeCosts_20 : decode cX0_takeCosts 20 = .ok (.iconst 0, 1) := by decide +kernel
theorem dX0_takeCosts_21 : decode cX0_takeCosts 21 = .ok (.iastore, 1) := by decide +kernel
theorem dX0_takeCosts_22 : decode cX0_takeCosts 22 = .ok (.aload_n 0, 1) := by decide +kernel
theorem dX0_takeCosts_23 : decode cX0_takeCosts 23 = .ok (.getfield 38, 3) := by decide +kernel
theorem dX0_takeCosts_26 : decode cX0_takeCosts 26 = .ok (.iload_n 3, 1) := by decide +kernel
theorem dX0_takeCosts_27 : decode cX0_takeCosts 27 = .ok (.iconst 0, 1) := by decide +kernel
theorem dX0_takeCosts_28 : decode cX0_takeCosts 28 = .ok (.iastore, 1) := by decide +kernel
theorem dX0_takeCosts_29 : decode cX0_takeCosts 29 = .ok (.iconst 1, 1) := by decide +kernel
theorem dX0_takeCosts_30 : decode cX0_takeCosts 30 = .ok (.istore 4, 2) := by decide +kernel
theorem dX0_takeCosts_32 : decode cX0_takeCosts 32 = .ok (.iload 4, 2) := by decide +kernel
theorem dX0_takeCosts_34 : decode cX0_takeCosts 34 = .ok (.bipush 16, 2) := by decide +kernel
theorem dX0_takeCosts_36 : decode cX0_takeCosts 36 = .ok (.if_icmp .ge 85, 3) := by decide +kernel
theorem dX0_takeCosts_39 : decode cX0_takeCosts 39 = .ok (.iload 4, 2) := by decide +kernel
theorem dX0_takeCosts_41 : decode cX0_takeCosts 41 = .ok (.invokestatic 58, 3) := by decide +kernel
theorem dX0_takeCosts_44 : decode cX0_takeCosts 44 = .ok (.istore 5, 2) := by decide +kernel
theorem dX0_takeCosts_46 : decode cX0_takeCosts 46 = .ok (.iload_n 3, 1) := by decide +kernel
theorem dX0_takeCosts_47 : decode cX0_takeCosts 47 = .ok (.iload 4, 2) := by decide +kernel
theorem dX0_takeCosts_49 : decode cX0_takeCosts 49 = .ok (.iload 4, 2) := by decide +kernel
theorem dX0_takeCosts_51 : decode cX0_takeCosts 51 = .ok (.iconst 1, 1) := by decide +kernel
theorem dX0_takeCosts_52 : decode cX0_takeCosts 52 = .ok (.isub, 1) := by decide +kernel
theorem dX0_takeCosts_53 : decode cX0_takeCosts 53 = .ok (.iand, 1) := by decide +kernel
theorem dX0_takeCosts_54 : decode cX0_takeCosts 54 = .ok (.iadd, 1) := by decide +kernel
theorem dX0_takeCosts_55 : decode cX0_takeCosts 55 = .ok (.istore 6, 2) := by decide +kernel
theorem dX0_takeCosts_57 : decode cX0_takeCosts 57 = .ok (.aload_n 0, 1) := by decide +kernel
theorem dX0_takeCosts_58 : decode cX0_takeCosts 58 = .ok (.getfield 35, 3) := by decide +kernel
theorem dX0_takeCosts_61 : decode cX0_takeCosts 61 = .ok (.iload_n 3, 1) := by decide +kernel
theorem dX0_takeCosts_62 : decode cX0_takeCosts 62 = .ok (.iload 4, 2) := by decide +kernel
theorem dX0_takeCosts_64 : decode cX0_takeCosts 64 = .ok (.iadd, 1) := by decide +kernel
theorem dX0_takeCosts_65 : decode cX0_takeCosts 65 = .ok (.aload_n 0, 1) := by decide +kernel
theorem dX0_takeCosts_66 : decode cX0_takeCosts 66 = .ok (.getfield 35, 3) := by decide +kernel
theorem dX0_takeCosts_69 : decode cX0_takeCosts 69 = .ok (.iload 6, 2) := by decide +kernel
theorem dX0_takeCosts_71 : decode cX0_takeCosts 71 = .ok (.iaload, 1) := by decide +kernel
theorem dX0_takeCosts_72 : decode cX0_takeCosts 72 = .ok (.iconst 0, 1) := by decide +kernel
theorem dX0_takeCosts_73 : decode cX0_takeCosts 73 = .ok (.aload_n 1, 1) := by decide +kernel
theorem dX0_takeCosts_74 : decode cX0_takeCosts 74 = .ok (.iload 5, 2) := by decide +kernel
theorem dX0_takeCosts_76 : decode cX0_takeCosts 76 = .ok (.iload_n 2, 1) := by decide +kernel
theorem dX0_takeCosts_77 : decode cX0_takeCosts 77 = .ok (.invokevirtual 64, 3) := by decide +kernel
theorem dX0_takeCosts_80 : decode cX0_takeCosts 80 = .ok (.invokestatic 69, 3) := by decide +kernel
theorem dX0_takeCosts_83 : decode cX0_takeCosts 83 = .ok (.iadd, 1) := by decide +kernel
theorem dX0_takeCosts_84 : decode cX0_takeCosts 84 = .ok (.iastore, 1) := by decide +kernel
theorem dX0_takeCosts_85 : decode cX0_takeCosts 85 = .ok (.aload_n 0, 1) := by decide +kernel
theorem dX0_takeCosts_86 : decode cX0_takeCosts 86 = .ok (.getfield 38, 3) := by decide +kernel
theorem dX0_takeCosts_89 : decode cX0_takeCosts 89 = .ok (.iload_n 3, 1) := by decide +kernel
theorem dX0_takeCosts_90 : decode cX0_takeCosts 90 = .ok (.iload 4, 2) := by decide +kernel
theorem dX0_takeCosts_92 : decode cX0_takeCosts 92 = .ok (.iadd, 1) := by decide +kernel
theorem dX0_takeCosts_93 : decode cX0_takeCosts 93 = .ok (.aload_n 0, 1) := by decide +kernel
theorem dX0_takeCosts_94 : decode cX0_takeCosts 94 = .ok (.getfield 38, 3) := by decide +kernel
theorem dX0_takeCosts_97 : decode cX0_takeCosts 97 = .ok (.iload 6, 2) := by decide +kernel
theorem dX0_takeCosts_99 : decode cX0_takeCosts 99 = .ok (.iaload, 1) := by decide +kernel
theorem dX0_takeCosts_100 : decode cX0_takeCosts 100 = .ok (.iconst 0, 1) := by decide +kernel
theorem dX0_takeCosts_101 : decode cX0_takeCosts 101 = .ok (.aload_n 1, 1) := by decide +kernel
theorem dX0_takeCosts_102 : decode cX0_takeCosts 102 = .ok (.iload 5, 2) := by decide +kernel
theorem dX0_takeCosts_104 : decode cX0_takeCosts 104 = .ok (.iconst 4, 1) := by decide +kernel
theorem dX0_takeCosts_105 : decode cX0_takeCosts 105 = .ok (.iadd, 1) := by decide +kernel
theorem dX0_takeCosts_106 : decode cX0_takeCosts 106 = .ok (.iload_n 2, 1) := by decide +kernel
theorem dX0_takeCosts_107 : decode cX0_takeCosts 107 = .ok (.invokevirtual 64, 3) := by decide +kernel
theorem dX0_takeCosts_110 : decode cX0_takeCosts 110 = .ok (.invokestatic 69, 3) := by decide +kernel
theorem dX0_takeCosts_113 : decode cX0_takeCosts 113 = .ok (.iadd, 1) := by decide +kernel
theorem dX0_takeCosts_114 : decode cX0_takeCosts 114 = .ok (.iastore, 1) := by decide +kernel
theorem dX0_takeCosts_115 : decode cX0_takeCosts 115 = .ok (.iinc 4 1, 3) := by decide +kernel
theorem dX0_takeCosts_118 : decode cX0_takeCosts 118 = .ok (.goto (-86), 3) := by decide +kernel
theorem dX0_takeCosts_121 : decode cX0_takeCosts 121 = .ok (.iinc 2 1, 3) := by decide +kernel
theorem dX0_takeCosts_124 : decode cX0_takeCosts 124 = .ok (.goto (-122), 3) := by decide +kernel
theorem dX0_takeCosts_127 : decode cX0_takeCosts 127 = .ok (.return_, 1) := by decide +kernel
theorem dX0_costBefore_0 : decode cX0_costBefore 0 = .ok (.iload_n 1, 1) := by decide +kernel
theorem dX0_costBefore_1 : decode cX0_costBefore 1 = .ok (.bipush 7, 2) := by decide +kernel
theorem dX0_costBefore_3 : decode cX0_costBefore 3 = .ok (.iand, 1) := by decide +kernel
theorem dX0_costBefore_4 : decode cX0_costBefore 4 = .ok (.bipush 16, 2) := by decide +kernel
theorem dX0_costBefore_6 : decode cX0_costBefore 6 = .ok (.imul, 1) := by decide +kernel
theorem dX0_costBefore_7 : decode cX0_costBefore 7 = .ok (.istore_n 3, 1) := by decide +kernel
theorem dX0_costBefore_8 : decode cX0_costBefore 8 = .ok (.aload_n 0, 1) := by decide +kernel
theorem dX0_costBefore_9 : decode cX0_costBefore 9 = .ok (.getfield 35, 3) := by decide +kernel
theorem dX0_costBefore_12 : decode cX0_costBefore 12 = .ok (.iload_n 3, 1) := by decide +kernel
theorem dX0_costBefore_13 : decode cX0_costBefore 13 = .ok (.iload_n 2, 1) := by decide +kernel
theorem dX0_costBefore_14 : decode cX0_costBefore 14 = .ok (.bipush 15, 2) := by decide +kernel
theorem dX0_costBefore_16 : decode cX0_costBefore 16 = .ok (.iand, 1) := by decide +kernel
theorem dX0_costBefore_17 : decode cX0_costBefore 17 = .ok (.iadd, 1) := by decide +kernel
theorem dX0_costBefore_18 : decode cX0_costBefore 18 = .ok (.iaload, 1) := by decide +kernel
theorem dX0_costBefore_19 : decode cX0_costBefore 19 = .ok (.aload_n 0, 1) := by decide +kernel
theorem dX0_costBefore_20 : decode cX0_costBefore 20 = .ok (.getfield 38, 3) := by decide +kernel
theorem dX0_costBefore_23 : decode cX0_costBefore 23 = .ok (.iload_n 3, 1) := by decide +kernel
theorem dX0_costBefore_24 : decode cX0_costBefore 24 = .ok (.iload_n 2, 1) := by decide +kernel
theorem dX0_costBefore_25 : decode cX0_costBefore 25 = .ok (.iconst 4, 1) := by decide +kernel
theorem dX0_costBefore_26 : decode cX0_costBefore 26 = .ok (.ishr, 1) := by decide +kernel
theorem dX0_costBefore_27 : decode cX0_costBefore 27 = .ok (.bipush 15, 2) := by decide +kernel
theorem dX0_costBefore_29 : decode cX0_costBefore 29 = .ok (.iand, 1) := by decide +kernel
theorem dX0_costBefore_30 : decode cX0_costBefore 30 = .ok (.iadd, 1) := by decide +kernel
theorem dX0_costBefore_31 : decode cX0_costBefore 31 = .ok (.iaload, 1) := by decide +kernel
theorem dX0_costBefore_32 : decode cX0_costBefore 32 = .ok (.iadd, 1) := by decide +kernel
theorem dX0_costBefore_33 : decode cX0_costBefore 33 = .ok (.ireturn, 1) := by decide +kernel
theorem dX0_solve_0 : decode cX0_solve 0 = .ok (.ldc 72, 2) := by decide +kernel
theorem dX0_solve_2 : decode cX0_solve 2 = .ok (.istore_n 2, 1) := by decide +kernel
theorem dX0_solve_3 : decode cX0_solve 3 = .ok (.iconst 0, 1) := by decide +kernel
theorem dX0_solve_4 : decode cX0_solve 4 = .ok (.istore_n 3, 1) := by decide +kernel
theorem dX0_solve_5 : decode cX0_solve 5 = .ok (.iconst 0, 1) := by decide +kernel
theorem dX0_solve_6 : decode cX0_solve 6 = .ok (.istore 4, 2) := by decide +kernel
theorem dX0_solve_8 : decode cX0_solve 8 = .ok (.iload 4, 2) := by decide +kernel
theorem dX0_solve_10 : decode cX0_solve 10 = .ok (.aload_n 0, 1) := by decide +kernel
theorem dX0_solve_11 : decode cX0_solve 11 = .ok (.getfield 15, 3) := by decide +kernel
theorem dX0_solve_14 : decode cX0_solve 14 = .ok (.if_icmp .ge 71, 3) := by decide +kernel
theorem dX0_solve_17 : decode cX0_solve 17 = .ok (.iload_n 1, 1) := by decide +kernel
theorem dX0_solve_18 : decode cX0_solve 18 = .ok (.iload 4, 2) := by decide +kernel
theorem dX0_solve_20 : decode cX0_solve 20 = .ok (.invokestatic 73, 3) := by decide +kernel
theorem dX0_solve_23 : decode cX0_solve 23 = .ok (.ifCond .eq 56, 3) := by decide +kernel
theorem dX0_solve_26 : decode cX0_solve 26 = .ok (.iload_n 1, 1) := by decide +kernel
theorem dX0_solve_27 : decode cX0_solve 27 = .ok (.iload 4, 2) := by decide +kernel
theorem dX0_solve_29 : decode cX0_solve 29 = .ok (.invokestatic 77, 3) := by decide +kernel
theorem dX0_solve_32 : decode cX0_solve 32 = .ok (.istore 5, 2) := by decide +kernel
theorem dX0_solve_34 : decode cX0_solve 34 = .ok (.aload_n 0, 1) := by decide +kernel
theorem dX0_solve_35 : decode cX0_solve 35 = .ok (.getfield 29, 3) := by decide +kernel
theorem dX0_solve_38 : decode cX0_solve 38 = .ok (.iload 5, 2) := by decide +kernel
theorem dX0_solve_40 : decode cX0_solve 40 = .ok (.iaload, 1) := by decide +kernel
theorem dX0_solve_41 : decode cX0_solve 41 = .ok (.aload_n 0, 1) := by decide +kernel
theorem dX0_solve_42 : decode cX0_solve 42 = .ok (.iload 4, 2) := by decide +kernel
theorem dX0_solve_44 : decode cX0_solve 44 = .ok (.iload 5, 2) := by decide +kernel
theorem dX0_solve_46 : decode cX0_solve 46 = .ok (.invokevirtual 80, 3) := by decide +kernel
theorem dX0_solve_49 : decode cX0_solve 49 = .ok (.iadd, 1) := by decide +kernel
theorem dX0_solve_50 : decode cX0_solve 50 = .ok (.istore 6, 2) := by decide +kernel
theorem dX0_solve_52 : decode cX0_solve 52 = .ok (.iload 6, 2) := by decide +kernel
theorem dX0_solve_54 : decode cX0_solve 54 = .ok (.iload_n 2, 1) := by decide +kernel
theorem dX0_solve_55 : decode cX0_solve 55 = .ok (.if_icmp .ge 8, 3) := by decide +kernel
theorem dX0_solve_58 : decode cX0_solve 58 = .ok (.iload 6, 2) := by decide +kernel
theorem dX0_solve_60 : decode cX0_solve 60 = .ok (.istore_n 2, 1) := by decide +kernel
theorem dX0_solve_61 : decode cX0_solve 61 = .ok (.iconst 0, 1) := by decide +kernel
theorem dX0_solve_62 : decode cX0_solve 62 = .ok (.istore_n 3, 1) := by decide +kernel
theorem dX0_solve_63 : decode cX0_solve 63 = .ok (.iload 6, 2) := by decide +kernel
theorem dX0_solve_65 : decode cX0_solve 65 = .ok (.iload_n 2, 1) := by decide +kernel
theorem dX0_solve_66 : decode cX0_solve 66 = .ok (.if_icmp .ne 13, 3) := by decide +kernel
theorem dX0_solve_69 : decode cX0_solve 69 = .ok (.iload_n 3, 1) := by decide +kernel
theorem dX0_solve_70 : decode cX0_solve 70 = .ok (.aload_n 0, 1) := by decide +kernel
theorem dX0_solve_71 : decode cX0_solve 71 = .ok (.getfield 32, 3) := by decide +kernel
theorem dX0_solve_74 : decode cX0_solve 74 = .ok (.iload 5, 2) := by decide +kernel
theorem dX0_solve_76 : decode cX0_solve 76 = .ok (.iaload, 1) := by decide +kernel
theorem dX0_solve_77 : decode cX0_solve 77 = .ok (.iadd, 1) := by decide +kernel
theorem dX0_solve_78 : decode cX0_solve 78 = .ok (.istore_n 3, 1) := by decide +kernel
theorem dX0_solve_79 : decode cX0_solve 79 = .ok (.iinc 4 1, 3) := by decide +kernel
theorem dX0_solve_82 : decode cX0_solve 82 = .ok (.goto (-74), 3) := by decide +kernel
theorem dX0_solve_85 : decode cX0_solve 85 = .ok (.aload_n 0, 1) := by decide +kernel
theorem dX0_solve_86 : decode cX0_solve 86 = .ok (.getfield 29, 3) := by decide +kernel
theorem dX0_solve_89 : decode cX0_solve 89 = .ok (.iload_n 1, 1) := by decide +kernel
theorem dX0_solve_90 : decode cX0_solve 90 = .ok (.sipush 255, 3) := by decide +kernel
theorem dX0_solve_93 : decode cX0_solve 93 = .ok (.iand, 1) := by decide +kernel
theorem dX0_solve_94 : decode cX0_solve 94 = .ok (.iload_n 2, 1) := by decide +kernel
theorem dX0_solve_95 : decode cX0_solve 95 = .ok (.iastore, 1) := by decide +kernel
theorem dX0_solve_96 : decode cX0_solve 96 = .ok (.aload_n 0, 1) := by decide +kernel
theorem dX0_solve_97 : decode cX0_solve 97 = .ok (.getfield 32, 3) := by decide +kernel
theorem dX0_solve_100 : decode cX0_solve 100 = .ok (.iload_n 1, 1) := by decide +kernel
theorem dX0_solve_101 : decode cX0_solve 101 = .ok (.sipush 255, 3) := by decide +kernel
theorem dX0_solve_104 : decode cX0_solve 104 = .ok (.iand, 1) := by decide +kernel
theorem dX0_solve_105 : decode cX0_solve 105 = .ok (.iload_n 3, 1) := by decide +kernel
theorem dX0_solve_106 : decode cX0_solve 106 = .ok (.iastore, 1) := by decide +kernel
theorem dX0_solve_107 : decode cX0_solve 107 = .ok (.return_, 1) := by decide +kernel
theorem dX0_readOff_0 : decode cX0_readOff 0 = .ok (.iload_n 1, 1) := by decide +kernel
theorem dX0_readOff_1 : decode cX0_readOff 1 = .ok (.sipush 255, 3) := by decide +kernel
theorem dX0_readOff_4 : decode cX0_readOff 4 = .ok (.iand, 1) := by decide +kernel
theorem dX0_readOff_5 : decode cX0_readOff 5 = .ok (.istore_n 2, 1) := by decide +kernel
theorem dX0_readOff_6 : decode cX0_readOff 6 = .ok (.iconst 0, 1) := by decide +kernel
theorem dX0_readOff_7 : decode cX0_readOff 7 = .ok (.istore_n 3, 1) := by decide +kernel
theorem dX0_readOff_8 : decode cX0_readOff 8 = .ok (.iload_n 3, 1) := by decide +kernel
theorem dX0_readOff_9 : decode cX0_readOff 9 = .ok (.aload_n 0, 1) := by decide +kernel
theorem dX0_readOff_10 : decode cX0_readOff 10 = .ok (.getfield 15, 3) := by decide +kernel
theorem dX0_readOff_13 : decode cX0_readOff 13 = .ok (.if_icmp .ge 31, 3) := by decide +kernel
theorem dX0_readOff_16 : decode cX0_readOff 16 = .ok (.aload_n 0, 1) := by decide +kernel
theorem dX0_readOff_17 : decode cX0_readOff 17 = .ok (.iload_n 2, 1) := by decide +kernel
theorem dX0_readOff_18 : decode cX0_readOff 18 = .ok (.invokevirtual 83, 3) := by decide +kernel
theorem dX0_readOff_21 : decode cX0_readOff 21 = .ok (.istore 4, 2) := by decide +kernel
theorem dX0_readOff_23 : decode cX0_readOff 23 = .ok (.aload_n 0, 1) := by decide +kernel
theorem dX0_readOff_24 : decode cX0_readOff 24 = .ok (.getfield 25, 3) := by decide +kernel
theorem dX0_readOff_27 : decode cX0_readOff 27 = .ok (.iload_n 3, 1) := by decide +kernel
theorem dX0_readOff_28 : decode cX0_readOff 28 = .ok (.iload 4, 2) := by decide +kernel
theorem dX0_readOff_30 : decode cX0_readOff 30 = .ok (.iastore, 1) := by decide +kernel
theorem dX0_readOff_31 : decode cX0_readOff 31 = .ok (.iload_n 2, 1) := by decide +kernel
theorem dX0_readOff_32 : decode cX0_readOff 32 = .ok (.iload 4, 2) := by decide +kernel
theorem dX0_readOff_34 : decode cX0_readOff 34 = .ok (.invokestatic 77, 3) := by decide +kernel
theorem dX0_readOff_37 : decode cX0_readOff 37 = .ok (.istore_n 2, 1) := by decide +kernel
theorem dX0_readOff_38 : decode cX0_readOff 38 = .ok (.iinc 3 1, 3) := by decide +kernel
theorem dX0_readOff_41 : decode cX0_readOff 41 = .ok (.goto (-33), 3) := by decide +kernel
theorem dX0_readOff_44 : decode cX0_readOff 44 = .ok (.return_, 1) := by decide +kernel
theorem dX0_foremostOf_0 : decode cX0_foremostOf 0 = .ok (.iconst 0, 1) := by decide +kernel
theorem dX0_foremostOf_1 : decode cX0_foremostOf 1 = .ok (.istore_n 2, 1) := by decide +kernel
theorem dX0_foremostOf_2 : decode cX0_foremostOf 2 = .ok (.iload_n 2, 1) := by decide +kernel
theorem dX0_foremostOf_3 : decode cX0_foremostOf 3 = .ok (.aload_n 0, 1) := by decide +kernel
theorem dX0_foremostOf_4 : decode cX0_foremostOf 4 = .ok (.getfield 15, 3) := by decide +kernel
theorem dX0_foremostOf_7 : decode cX0_foremostOf 7 = .ok (.if_icmp .ge 51, 3) := by decide +kernel
theorem dX0_foremostOf_10 : decode cX0_foremostOf 10 = .ok (.iload_n 1, 1) := by decide +kernel
theorem dX0_foremostOf_11 : decode cX0_foremostOf 11 = .ok (.iload_n 2, 1) := by decide +kernel
theorem dX0_foremostOf_12 : decode cX0_foremostOf 12 = .ok (.invokestatic 77, 3) := by decide +kernel
theorem dX0_foremostOf_15 : decode cX0_foremostOf 15 = .ok (.istore_n 3, 1) := by decide +kernel
theorem dX0_foremostOf_16 : decode cX0_foremostOf 16 = .ok (.iload_n 1, 1) := by decide +kernel
theorem dX0_foremostOf_17 : decode cX0_foremostOf 17 = .ok (.iload_n 2, 1) := by decide +kernel
theorem dX0_foremostOf_18 : decode cX0_foremostOf 18 = .ok (.invokestatic 73, 3) := by decide +kernel
theorem dX0_foremostOf_21 : decode cX0_foremostOf 21 = .ok (.ifCond .eq 31, 3) := by decide +kernel
theorem dX0_foremostOf_24 : decode cX0_foremostOf 24 = .ok (.aload_n 0, 1) := by decide +kernel
theorem dX0_foremostOf_25 : decode cX0_foremostOf 25 = .ok (.getfield 29, 3) := by decide +kernel
theorem dX0_foremostOf_28 : decode cX0_foremostOf 28 = .ok (.iload_n 3, 1) := by decide +kernel
theorem dX0_foremostOf_29 : decode cX0_foremostOf 29 = .ok (.iaload, 1) := by decide +kernel
theorem dX0_foremostOf_30 : decode cX0_foremostOf 30 = .ok (.aload_n 0, 1) := by decide +kernel
theorem dX0_foremostOf_31 : decode cX0_foremostOf 31 = .ok (.iload_n 2, 1) := by decide +kernel
theorem dX0_foremostOf_32 : decode cX0_foremostOf 32 = .ok (.iload_n 3, 1) := by decide +kernel
theorem dX0_foremostOf_33 : decode cX0_foremostOf 33 = .ok (.invokevirtual 80, 3) := by decide +kernel
theorem dX0_foremostOf_36 : decode cX0_foremostOf 36 = .ok (.iadd, 1) := by decide +kernel
theorem dX0_foremostOf_37 : decode cX0_foremostOf 37 = .ok (.aload_n 0, 1) := by decide +kernel
theorem dX0_foremostOf_38 : decode cX0_foremostOf 38 = .ok (.getfield 29, 3) := by decide +kernel
theorem dX0_foremostOf_41 : decode cX0_foremostOf 41 = .ok (.iload_n 1, 1) := by decide +kernel
theorem dX0_foremostOf_42 : decode cX0_foremostOf 42 = .ok (.sipush 255, 3) := by decide +kernel
theorem dX0_foremostOf_45 : decode cX0_foremostOf 45 = .ok (.iand, 1) := by decide +kernel
theorem dX0_foremostOf_46 : decode cX0_foremostOf 46 = .ok (.iaload, 1) := by decide +kernel
theorem dX0_foremostOf_47 : decode cX0_foremostOf 47 = .ok (.if_icmp .ne 5, 3) := by decide +kernel
theorem dX0_foremostOf_50 : decode cX0_foremostOf 50 = .ok (.iload_n 2, 1) := by decide +kernel
theorem dX0_foremostOf_51 : decode cX0_foremostOf 51 = .ok (.ireturn, 1) := by decide +kernel
theorem dX0_foremostOf_52 : decode cX0_foremostOf 52 = .ok (.iinc 2 1, 3) := by decide +kernel
theorem dX0_foremostOf_55 : decode cX0_foremostOf 55 = .ok (.goto (-53), 3) := by decide +kernel
theorem dX0_foremostOf_58 : decode cX0_foremostOf 58 = .ok (.iconst 0, 1) := by decide +kernel
theorem dX0_foremostOf_59 : decode cX0_foremostOf 59 = .ok (.ireturn, 1) := by decide +kernel
theorem dX0_setWithout_0 : decode cX0_setWithout 0 = .ok (.iload_n 0, 1) := by decide +kernel
theorem dX0_setWithout_1 : decode cX0_setWithout 1 = .ok (.iconst 1, 1) := by decide +kernel
theorem dX0_setWithout_2 : decode cX0_setWithout 2 = .ok (.iload_n 1, 1) := by decide +kernel
theorem dX0_setWithout_3 : decode cX0_setWithout 3 = .ok (.ishl, 1) := by decide +kernel
theorem dX0_setWithout_4 : decode cX0_setWithout 4 = .ok (.iconst (-1), 1) := by decide +kernel
theorem dX0_setWithout_5 : decode cX0_setWithout 5 = .ok (.ixor, 1) := by decide +kernel
theorem dX0_setWithout_6 : decode cX0_setWithout 6 = .ok (.iand, 1) := by decide +kernel
theorem dX0_setWithout_7 : decode cX0_setWithout 7 = .ok (.sipush 255, 3) := by decide +kernel
theorem dX0_setWithout_10 : decode cX0_setWithout 10 = .ok (.iand, 1) := by decide +kernel
theorem dX0_setWithout_11 : decode cX0_setWithout 11 = .ok (.ireturn, 1) := by decide +kernel
theorem dX1_init_0 : decode cX1_init 0 = .ok (.aload_n 0, 1) := by decide +kernel
theorem dX1_init_1 : decode cX1_init 1 = .ok (.invokespecial 3, 3) := by decide +kernel
theorem dX1_init_4 : decode cX1_init 4 = .ok (.aload_n 0, 1) := by decide +kernel
theorem dX1_init_5 : decode cX1_init 5 = .ok (.bipush 48, 2) := by decide +kernel
theorem dX1_init_7 : decode cX1_init 7 = .ok (.newarray .int, 2) := by decide +kernel
theorem dX1_init_9 : decode cX1_init 9 = .ok (.putfield 9, 3) := by decide +kernel
theorem dX1_init_12 : decode cX1_init 12 = .ok (.aload_n 0, 1) := by decide +kernel
theorem dX1_init_13 : decode cX1_init 13 = .ok (.iconst 0, 1) := by decide +kernel
theorem dX1_init_14 : decode cX1_init 14 = .ok (.putfield 15, 3) := by decide +kernel
theorem dX1_init_17 : decode cX1_init 17 = .ok (.return_, 1) := by decide +kernel
theorem dX1_packed_0 : decode cX1_packed 0 = .ok (.iload_n 0, 1) := by decide +kernel
theorem dX1_packed_1 : decode cX1_packed 1 = .ok (.bipush 7, 2) := by decide +kernel
theorem dX1_packed_3 : decode cX1_packed 3 = .ok (.iand, 1) := by decide +kernel
theorem dX1_packed_4 : decode cX1_packed 4 = .ok (.bipush 8, 2) := by decide +kernel
theorem dX1_packed_6 : decode cX1_packed 6 = .ok (.ishl, 1) := by decide +kernel
theorem dX1_packed_7 : decode cX1_packed 7 = .ok (.iload_n 1, 1) := by decide +kernel
theorem dX1_packed_8 : decode cX1_packed 8 = .ok (.bipush 7, 2) := by decide +kernel
theorem dX1_packed_10 : decode cX1_packed 10 = .ok (.iand, 1) := by decide +kernel
theorem dX1_packed_11 : decode cX1_packed 11 = .ok (.iconst 5, 1) := by decide +kernel
theorem dX1_packed_12 : decode cX1_packed 12 = .ok (.ishl, 1) := by decide +kernel
theorem dX1_packed_13 : decode cX1_packed 13 = .ok (.ior, 1) := by decide +kernel
theorem dX1_packed_14 : decode cX1_packed 14 = .ok (.iload_n 2, 1) := by decide +kernel
theorem dX1_packed_15 : decode cX1_packed 15 = .ok (.bipush 7, 2) := by decide +kernel
theorem dX1_packed_17 : decode cX1_packed 17 = .ok (.iand, 1) := by decide +kernel
theorem dX1_packed_18 : decode cX1_packed 18 = .ok (.iconst 2, 1) := by decide +kernel
theorem dX1_packed_19 : decode cX1_packed 19 = .ok (.ishl, 1) := by decide +kernel
theorem dX1_packed_20 : decode cX1_packed 20 = .ok (.ior, 1) := by decide +kernel
theorem dX1_packed_21 : decode cX1_packed 21 = .ok (.iload_n 3, 1) := by decide +kernel
theorem dX1_packed_22 : decode cX1_packed 22 = .ok (.iconst 3, 1) := by decide +kernel
theorem dX1_packed_23 : decode cX1_packed 23 = .ok (.iand, 1) := by decide +kernel
theorem dX1_packed_24 : decode cX1_packed 24 = .ok (.ior, 1) := by decide +kernel
theorem dX1_packed_25 : decode cX1_packed 25 = .ok (.ireturn, 1) := by decide +kernel
theorem dX1_listenerOf_0 : decode cX1_listenerOf 0 = .ok (.iload_n 0, 1) := by decide +kernel
theorem dX1_listenerOf_1 : decode cX1_listenerOf 1 = .ok (.bipush 8, 2) := by decide +kernel
theorem dX1_listenerOf_3 : decode cX1_listenerOf 3 = .ok (.ishr, 1) := by decide +kernel
theorem dX1_listenerOf_4 : decode cX1_listenerOf 4 = .ok (.bipush 7, 2) := by decide +kernel
theorem dX1_listenerOf_6 : decode cX1_listenerOf 6 = .ok (.iand, 1) := by decide +kernel
theorem dX1_listenerOf_7 : decode cX1_listenerOf 7 = .ok (.ireturn, 1) := by decide +kernel
theorem dX1_firstOf_0 : decode cX1_firstOf 0 = .ok (.iload_n 0, 1) := by decide +kernel
theorem dX1_firstOf_1 : decode cX1_firstOf 1 = .ok (.iconst 5, 1) := by decide +kernel
theorem dX1_firstOf_2 : decode cX1_firstOf 2 = .ok (.ishr, 1) := by decide +kernel
theorem dX1_firstOf_3 : decode cX1_firstOf 3 = .ok (.bipush 7, 2) := by decide +kernel
theorem dX1_firstOf_5 : decode cX1_firstOf 5 = .ok (.iand, 1) := by decide +kernel
theorem dX1_firstOf_6 : decode cX1_firstOf 6 = .ok (.ireturn, 1) := by decide +kernel
theorem dX1_secondOf_0 : decode cX1_secondOf 0 = .ok (.iload_n 0, 1) := by decide +kernel
theorem dX1_secondOf_1 : decode cX1_secondOf 1 = .ok (.iconst 2, 1) := by decide +kernel
theorem dX1_secondOf_2 : decode cX1_secondOf 2 = .ok (.ishr, 1) := by decide +kernel
theorem dX1_secondOf_3 : decode cX1_secondOf 3 = .ok (.bipush 7, 2) := by decide +kernel
theorem dX1_secondOf_5 : decode cX1_secondOf 5 = .ok (.iand, 1) := by decide +kernel
theorem dX1_secondOf_6 : decode cX1_secondOf 6 = .ok (.ireturn, 1) := by decide +kernel
theorem dX1_answerOf_0 : decode cX1_answerOf 0 = .ok (.iload_n 0, 1) := by decide +kernel
theorem dX1_answerOf_1 : decode cX1_answerOf 1 = .ok (.iconst 3, 1) := by decide +kernel
theorem dX1_answerOf_2 : decode cX1_answerOf 2 = .ok (.iand, 1) := by decide +kernel
theorem dX1_answerOf_3 : decode cX1_answerOf 3 = .ok (.ireturn, 1) := by decide +kernel
theorem dX1_propertyOf_0 : decode cX1_propertyOf 0 = .ok (.iload_n 1, 1) := by decide +kernel
theorem dX1_propertyOf_1 : decode cX1_propertyOf 1 = .ok (.tableswitch 42 0 2 #[27, 32, 37], 27) := by decide +kernel
theorem dX1_propertyOf_28 : decode cX1_propertyOf 28 = .ok (.iload_n 0, 1) := by decide +kernel
theorem dX1_propertyOf_29 : decode cX1_propertyOf 29 = .ok (.invokestatic 19, 3) := by decide +kernel
theorem dX1_propertyOf_32 : decode cX1_propertyOf 32 = .ok (.ireturn, 1) := by decide +kernel
theorem dX1_propertyOf_33 : decode cX1_propertyOf 33 = .ok (.iload_n 0, 1) := by decide +kernel
theorem dX1_propertyOf_34 : decode cX1_propertyOf 34 = .ok (.invokestatic 23, 3) := by decide +kernel
theorem dX1_propertyOf_37 : decode cX1_propertyOf 37 = .ok (.ireturn, 1) := by decide +kernel
theorem dX1_propertyOf_38 : decode cX1_propertyOf 38 = .ok (.iload_n 0, 1) := by decide +kernel
theorem dX1_propertyOf_39 : decode cX1_propertyOf 39 = .ok (.invokestatic 26, 3) := by decide +kernel
theorem dX1_propertyOf_42 : decode cX1_propertyOf 42 = .ok (.ireturn, 1) := by decide +kernel
theorem dX1_propertyOf_43 : decode cX1_propertyOf 43 = .ok (.iload_n 0, 1) := by decide +kernel
theorem dX1_propertyOf_44 : decode cX1_propertyOf 44 = .ok (.invokestatic 29, 3) := by decide +kernel
theorem dX1_propertyOf_47 : decode cX1_propertyOf 47 = .ok (.ireturn, 1) := by decide +kernel
theorem dX1_winnerOf_0 : decode cX1_winnerOf 0 = .ok (.iload_n 0, 1) := by decide +kernel
theorem dX1_winnerOf_1 : decode cX1_winnerOf 1 = .ok (.invokestatic 29, 3) := by decide +kernel
theorem dX1_winnerOf_4 : decode cX1_winnerOf 4 = .ok (.iconst 1, 1) := by decide +kernel
theorem dX1_winnerOf_5 : decode cX1_winnerOf 5 = .ok (.if_icmp .ne 10, 3) := by decide +kernel
theorem dX1_winnerOf_8 : decode cX1_winnerOf 8 = .ok (.iload_n 0, 1) := by decide +kernel
theorem dX1_winnerOf_9 : decode cX1_winnerOf 9 = .ok (.invokestatic 23, 3) := by decide +kernel
theorem dX1_winnerOf_12 : decode cX1_winnerOf 12 = .ok (.goto 7, 3) := by decide +kernel
theorem dX1_winnerOf_15 : decode cX1_winnerOf 15 = .ok (.iload_n 0, 1) := by decide +kernel
theorem dX1_winnerOf_16 : decode cX1_winnerOf 16 = .ok (.invokestatic 26, 3) := by decide +kernel
theorem dX1_winnerOf_19 : decode cX1_winnerOf 19 = .ok (.ireturn, 1) := by decide +kernel
theorem dX1_loserOf_0 : decode cX1_loserOf 0 = .ok (.iload_n 0, 1) := by decide +kernel
theorem dX1_loserOf_1 : decode cX1_loserOf 1 = .ok (.invokestatic 29, 3) := by decide +kernel
theorem dX1_loserOf_4 : decode cX1_loserOf 4 = .ok (.iconst 1, 1) := by decide +kernel
theorem dX1_loserOf_5 : decode cX1_loserOf 5 = .ok (.if_icmp .ne 10, 3) := by decide +kernel
theorem dX1_loserOf_8 : decode cX1_loserOf 8 = .ok (.iload_n 0, 1) := by decide +kernel
theorem dX1_loserOf_9 : decode cX1_loserOf 9 = .ok (.invokestatic 26, 3) := by decide +kernel
theorem dX1_loserOf_12 : decode cX1_loserOf 12 = .ok (.goto 7, 3) := by decide +kernel
theorem dX1_loserOf_15 : decode cX1_loserOf 15 = .ok (.iload_n 0, 1) := by decide +kernel
theorem dX1_loserOf_16 : decode cX1_loserOf 16 = .ok (.invokestatic 23, 3) := by decide +kernel
theorem dX1_loserOf_19 : decode cX1_loserOf 19 = .ok (.ireturn, 1) := by decide +kernel
theorem dX1_isFull_0 : decode cX1_isFull 0 = .ok (.aload_n 0, 1) := by decide +kernel
theorem dX1_isFull_1 : decode cX1_isFull 1 = .ok (.getfield 15, 3) := by decide +kernel
theorem dX1_isFull_4 : decode cX1_isFull 4 = .ok (.bipush 48, 2) := by decide +kernel
theorem dX1_isFull_6 : decode cX1_isFull 6 = .ok (.if_icmp .lt 7, 3) := by decide +kernel
theorem dX1_isFull_9 : decode cX1_isFull 9 = .ok (.iconst 1, 1) := by decide +kernel
theorem dX1_isFull_10 : decode cX1_isFull 10 = .ok (.goto 4, 3) := by decide +kernel
theorem dX1_isFull_13 : decode cX1_isFull 13 = .ok (.iconst 0, 1) := by decide +kernel
theorem dX1_isFull_14 : decode cX1_isFull 14 = .ok (.ireturn, 1) := by decide +kernel
theorem dX1_at_0 : decode cX1_at 0 = .ok (.iload_n 1, 1) := by decide +kernel
theorem dX1_at_1 : decode cX1_at 1 = .ok (.ifCond .lt 20, 3) := by decide +kernel
theorem dX1_at_4 : decode cX1_at 4 = .ok (.iload_n 1, 1) := by decide +kernel
theorem dX1_at_5 : decode cX1_at 5 = .ok (.aload_n 0, 1) := by decide +kernel
theorem dX1_at_6 : decode cX1_at 6 = .ok (.getfield 15, 3) := by decide +kernel
theorem dX1_at_9 : decode cX1_at 9 = .ok (.if_icmp .ge 12, 3) := by decide +kernel
theorem dX1_at_12 : decode cX1_at 12 = .ok (.aload_n 0, 1) := by decide +kernel
theorem dX1_at_13 : decode cX1_at 13 = .ok (.getfield 9, 3) := by decide +kernel
theorem dX1_at_16 : decode cX1_at 16 = .ok (.iload_n 1, 1) := by decide +kernel
theorem dX1_at_17 : decode cX1_at 17 = .ok (.iaload, 1) := by decide +kernel
theorem dX1_at_18 : decode cX1_at 18 = .ok (.goto 4, 3) := by decide +kernel
theorem dX1_at_21 : decode cX1_at 21 = .ok (.iconst 0, 1) := by decide +kernel
theorem dX1_at_22 : decode cX1_at 22 = .ok (.ireturn, 1) := by decide +kernel
theorem dX1_put_0 : decode cX1_put 0 = .ok (.aload_n 0, 1) := by decide +kernel
theorem dX1_put_1 : decode cX1_put 1 = .ok (.invokevirtual 32, 3) := by decide +kernel
theorem dX1_put_4 : decode cX1_put 4 = .ok (.ifCond .ne 23, 3) := by decide +kernel
theorem dX1_put_7 : decode cX1_put 7 = .ok (.aload_n 0, 1) := by decide +kernel
theorem dX1_put_8 : decode cX1_put 8 = .ok (.getfield 9, 3) := by decide +kernel
theorem dX1_put_11 : decode cX1_put 11 = .ok (.aload_n 0, 1) := by decide +kernel
theorem dX1_put_12 : decode cX1_put 12 = .ok (.getfield 15, 3) := by decide +kernel
theorem dX1_put_15 : decode cX1_put 15 = .ok (.iload_n 1, 1) := by decide +kernel
theorem dX1_put_16 : decode cX1_put 16 = .ok (.iastore, 1) := by decide +kernel
theorem dX1_put_17 : decode cX1_put 17 = .ok (.aload_n 0, 1) := by decide +kernel
theorem dX1_put_18 : decode cX1_put 18 = .ok (.dup, 1) := by decide +kernel
theorem dX1_put_19 : decode cX1_put 19 = .ok (.getfield 15, 3) := by decide +kernel
theorem dX1_put_22 : decode cX1_put 22 = .ok (.iconst 1, 1) := by decide +kernel
theorem dX1_put_23 : decode cX1_put 23 = .ok (.iadd, 1) := by decide +kernel
theorem dX1_put_24 : decode cX1_put 24 = .ok (.putfield 15, 3) := by decide +kernel
theorem dX1_put_27 : decode cX1_put 27 = .ok (.return_, 1) := by decide +kernel
theorem dX1_takeOut_0 : decode cX1_takeOut 0 = .ok (.iload_n 1, 1) := by decide +kernel
theorem dX1_takeOut_1 : decode cX1_takeOut 1 = .ok (.ifCond .lt 11, 3) := by decide +kernel
theorem dX1_takeOut_4 : decode cX1_takeOut 4 = .ok (.iload_n 1, 1) := by decide +kernel
theorem dX1_takeOut_5 : decode cX1_takeOut 5 = .ok (.aload_n 0, 1) := by decide +kernel
theorem dX1_takeOut_6 : decode cX1_takeOut 6 = .ok (.getfield 15, 3) := by decide +kernel
theorem dX1_takeOut_9 : decode cX1_takeOut 9 = .ok (.if_icmp .lt 4, 3) := by decide +kernel
theorem dX1_takeOut_12 : decode cX1_takeOut 12 = .ok (.return_, 1) := by decide +kernel
theorem dX1_takeOut_13 : decode cX1_takeOut 13 = .ok (.iload_n 1, 1) := by decide +kernel
theorem dX1_takeOut_14 : decode cX1_takeOut 14 = .ok (.iconst 1, 1) := by decide +kernel
theorem dX1_takeOut_15 : decode cX1_takeOut 15 = .ok (.iadd, 1) := by decide +kernel
theorem dX1_takeOut_16 : decode cX1_takeOut 16 = .ok (.istore_n 2, 1) := by decide +kernel
theorem dX1_takeOut_17 : decode cX1_takeOut 17 = .ok (.iload_n 2, 1) := by decide +kernel
theorem dX1_takeOut_18 : decode cX1_takeOut 18 = .ok (.aload_n 0, 1) := by decide +kernel
theorem dX1_takeOut_19 : decode cX1_takeOut 19 = .ok (.getfield 15, 3) := by decide +kernel
theorem dX1_takeOut_22 : decode cX1_takeOut 22 = .ok (.if_icmp .ge 23, 3) := by decide +kernel
theorem dX1_takeOut_25 : decode cX1_takeOut 25 = .ok (.aload_n 0, 1) := by decide +kernel
theorem dX1_takeOut_26 : decode cX1_takeOut 26 = .ok (.getfield 9, 3) := by decide +kernel
theorem dX1_takeOut_29 : decode cX1_takeOut 29 = .ok (.iload_n 2, 1) := by decide +kernel
theorem dX1_takeOut_30 : decode cX1_takeOut 30 = .ok (.iconst 1, 1) := by decide +kernel
theorem dX1_takeOut_31 : decode cX1_takeOut 31 = .ok (.isub, 1) := by decide +kernel
theorem dX1_takeOut_32 : decode cX1_takeOut 32 = .ok (.aload_n 0, 1) := by decide +kernel
theorem dX1_takeOut_33 : decode cX1_takeOut 33 = .ok (.getfield 9, 3) := by decide +kernel
theorem dX1_takeOut_36 : decode cX1_takeOut 36 = .ok (.iload_n 2, 1) := by decide +kernel
theorem dX1_takeOut_37 : decode cX1_takeOut 37 = .ok (.iaload, 1) := by decide +kernel
theorem dX1_takeOut_38 : decode cX1_takeOut 38 = .ok (.iastore, 1) := by decide +kernel
theorem dX1_takeOut_39 : decode cX1_takeOut 39 = .ok (.iinc 2 1, 3) := by decide +kernel
theorem dX1_takeOut_42 : decode cX1_takeOut 42 = .ok (.goto (-25), 3) := by decide +kernel
theorem dX1_takeOut_45 : decode cX1_takeOut 45 = .ok (.aload_n 0, 1) := by decide +kernel
theorem dX1_takeOut_46 : decode cX1_takeOut 46 = .ok (.dup, 1) := by decide +kernel
theorem dX1_takeOut_47 : decode cX1_takeOut 47 = .ok (.getfield 15, 3) := by decide +kernel
theorem dX1_takeOut_50 : decode cX1_takeOut 50 = .ok (.iconst 1, 1) := by decide +kernel
theorem dX1_takeOut_51 : decode cX1_takeOut 51 = .ok (.isub, 1) := by decide +kernel
theorem dX1_takeOut_52 : decode cX1_takeOut 52 = .ok (.putfield 15, 3) := by decide +kernel
theorem dX1_takeOut_55 : decode cX1_takeOut 55 = .ok (.return_, 1) := by decide +kernel
theorem dX1_copyFrom_0 : decode cX1_copyFrom 0 = .ok (.aload_n 1, 1) := by decide +kernel
theorem dX1_copyFrom_1 : decode cX1_copyFrom 1 = .ok (.getfield 9, 3) := by decide +kernel
theorem dX1_copyFrom_4 : decode cX1_copyFrom 4 = .ok (.iconst 0, 1) := by decide +kernel
theorem dX1_copyFrom_5 : decode cX1_copyFrom 5 = .ok (.aload_n 0, 1) := by decide +kernel
theorem dX1_copyFrom_6 : decode cX1_copyFrom 6 = .ok (.getfield 9, 3) := by decide +kernel
theorem dX1_copyFrom_9 : decode cX1_copyFrom 9 = .ok (.iconst 0, 1) := by decide +kernel
theorem dX1_copyFrom_10 : decode cX1_copyFrom 10 = .ok (.bipush 48, 2) := by decide +kernel
theorem dX1_copyFrom_12 : decode cX1_copyFrom 12 = .ok (.invokestatic 36, 3) := by decide +kernel
theorem dX1_copyFrom_15 : decode cX1_copyFrom 15 = .ok (.aload_n 0, 1) := by decide +kernel
theorem dX1_copyFrom_16 : decode cX1_copyFrom 16 = .ok (.aload_n 1, 1) := by decide +kernel
theorem dX1_copyFrom_17 : decode cX1_copyFrom 17 = .ok (.getfield 15, 3) := by decide +kernel
theorem dX1_copyFrom_20 : decode cX1_copyFrom 20 = .ok (.putfield 15, 3) := by decide +kernel
theorem dX1_copyFrom_23 : decode cX1_copyFrom 23 = .ok (.return_, 1) := by decide +kernel
theorem dX1_countAnswers_0 : decode cX1_countAnswers 0 = .ok (.iconst 0, 1) := by decide +kernel
theorem dX1_countAnswers_1 : decode cX1_countAnswers 1 = .ok (.istore_n 2, 1) := by decide +kernel
theorem dX1_countAnswers_2 : decode cX1_countAnswers 2 = .ok (.iconst 0, 1) := by decide +kernel
theorem dX1_countAnswers_3 : decode cX1_countAnswers 3 = .ok (.istore_n 3, 1) := by decide +kernel
theorem dX1_countAnswers_4 : decode cX1_countAnswers 4 = .ok (.iload_n 3, 1) := by decide +kernel
theorem dX1_countAnswers_5 : decode cX1_countAnswers 5 = .ok (.aload_n 0, 1) := by decide +kernel
theorem dX1_countAnswers_6 : decode cX1_countAnswers 6 = .ok (.getfield 15, 3) := by decide +kernel
theorem dX1_countAnswers_9 : decode cX1_countAnswers 9 = .ok (.if_icmp .ge 25, 3) := by decide +kernel
theorem dX1_countAnswers_12 : decode cX1_countAnswers 12 = .ok (.aload_n 0, 1) := by decide +kernel
theorem dX1_countAnswers_13 : decode cX1_countAnswers 13 = .ok (.getfield 9, 3) := by decide +kernel
theorem dX1_countAnswers_16 : decode cX1_countAnswers 16 = .ok (.iload_n 3, 1) := by decide +kernel
theorem dX1_countAnswers_17 : decode cX1_countAnswers 17 = .ok (.iaload, 1) := by decide +kernel
theorem dX1_countAnswers_18 : decode cX1_countAnswers 18 = .ok (.invokestatic 29, 3) := by decide +kernel
theorem dX1_countAnswers_21 : decode cX1_countAnswers 21 = .ok (.iload_n 1, 1) := by decide +kernel
theorem dX1_countAnswers_22 : decode cX1_countAnswers 22 = .ok (.if_icmp .ne 6, 3) := by decide +kernel
theorem dX1_countAnswers_25 : decode cX1_countAnswers 25 = .ok (.iinc 2 1, 3) := by decide +kernel
theorem dX1_countAnswers_28 : decode cX1_countAnswers 28 = .ok (.iinc 3 1, 3) := by decide +kernel
theorem dX1_countAnswers_31 : decode cX1_countAnswers 31 = .ok (.goto (-27), 3) := by decide +kernel
theorem dX1_countAnswers_34 : decode cX1_countAnswers 34 = .ok (.iload_n 2, 1) := by decide +kernel
theorem dX1_countAnswers_35 : decode cX1_countAnswers 35 = .ok (.ireturn, 1) := by decide +kernel
theorem dX2_init_0 : decode cX2_init 0 = .ok (.aload_n 0, 1) := by decide +kernel
theorem dX2_init_1 : decode cX2_init 1 = .ok (.invokespecial 3, 3) := by decide +kernel
theorem dX2_init_4 : decode cX2_init 4 = .ok (.aload_n 0, 1) := by decide +kernel
theorem dX2_init_5 : decode cX2_init 5 = .ok (.bipush 12, 2) := by decide +kernel
theorem dX2_init_7 : decode cX2_init 7 = .ok (.anewarray 9, 3) := by decide +kernel
theorem dX2_init_10 : decode cX2_init 10 = .ok (.putfield 11, 3) := by decide +kernel
theorem dX2_init_13 : decode cX2_init 13 = .ok (.iconst 0, 1) := by decide +kernel
theorem dX2_init_14 : decode cX2_init 14 = .ok (.istore_n 1, 1) := by decide +kernel
theorem dX2_init_15 : decode cX2_init 15 = .ok (.iload_n 1, 1) := by decide +kernel
theorem dX2_init_16 : decode cX2_init 16 = .ok (.bipush 12, 2) := by decide +kernel
theorem dX2_init_18 : decode cX2_init 18 = .ok (.if_icmp .ge 22, 3) := by decide +kernel
theorem dX2_init_21 : decode cX2_init 21 = .ok (.aload_n 0, 1) := by decide +kernel
theorem dX2_init_22 : decode cX2_init 22 = .ok (.getfield 11, 3) := by decide +kernel
theorem dX2_init_25 : decode cX2_init 25 = .ok (.iload_n 1, 1) := by decide +kernel
theorem dX2_init_26 : decode cX2_init 26 = .ok (.new 9, 3) := by decide +kernel
theorem dX2_init_29 : decode cX2_init 29 = .ok (.dup, 1) := by decide +kernel
theorem dX2_init_30 : decode cX2_init 30 = .ok (.invokespecial 17, 3) := by decide +kernel
theorem dX2_init_33 : decode cX2_init 33 = .ok (.aastore, 1) := by decide +kernel
theorem dX2_init_34 : decode cX2_init 34 = .ok (.iinc 1 1, 3) := by decide +kernel
theorem dX2_init_37 : decode cX2_init 37 = .ok (.goto (-22), 3) := by decide +kernel
theorem dX2_init_40 : decode cX2_init 40 = .ok (.aload_n 0, 1) := by decide +kernel
theorem dX2_init_41 : decode cX2_init 41 = .ok (.iconst 0, 1) := by decide +kernel
theorem dX2_init_42 : decode cX2_init 42 = .ok (.putfield 18, 3) := by decide +kernel
theorem dX2_init_45 : decode cX2_init 45 = .ok (.aload_n 0, 1) := by decide +kernel
theorem dX2_init_46 : decode cX2_init 46 = .ok (.iconst 0, 1) := by decide +kernel
theorem dX2_init_47 : decode cX2_init 47 = .ok (.putfield 22, 3) := by decide +kernel
theorem dX2_init_50 : decode cX2_init 50 = .ok (.return_, 1) := by decide +kernel
theorem dX2_forgetAll_0 : decode cX2_forgetAll 0 = .ok (.aload_n 0, 1) := by decide +kernel
theorem dX2_forgetAll_1 : decode cX2_forgetAll 1 = .ok (.iconst 0, 1) := by decide +kernel
theorem dX2_forgetAll_2 : decode cX2_forgetAll 2 = .ok (.putfield 22, 3) := by decide +kernel
theorem dX2_forgetAll_5 : decode cX2_forgetAll 5 = .ok (.return_, 1) := by decide +kernel
theorem dX2_next_0 : decode cX2_next 0 = .ok (.aload_n 0, 1) := by decide +kernel
theorem dX2_next_1 : decode cX2_next 1 = .ok (.aload_n 0, 1) := by decide +kernel
theorem dX2_next_2 : decode cX2_next 2 = .ok (.getfield 18, 3) := by decide +kernel
theorem dX2_next_5 : decode cX2_next 5 = .ok (.iconst 1, 1) := by decide +kernel
theorem dX2_next_6 : decode cX2_next 6 = .ok (.iadd, 1) := by decide +kernel
theorem dX2_next_7 : decode cX2_next 7 = .ok (.bipush 12, 2) := by decide +kernel
theorem dX2_next_9 : decode cX2_next 9 = .ok (.if_icmp .ge 12, 3) := by decide +kernel
theorem dX2_next_12 : decode cX2_next 12 = .ok (.aload_n 0, 1) := by decide +kernel
theorem dX2_next_13 : decode cX2_next 13 = .ok (.getfield 18, 3) := by decide +kernel
theorem dX2_next_16 : decode cX2_next 16 = .ok (.iconst 1, 1) := by decide +kernel
theorem dX2_next_17 : decode cX2_next 17 = .ok (.iadd, 1) := by decide +kernel
theorem dX2_next_18 : decode cX2_next 18 = .ok (.goto 4, 3) := by decide +kernel
theorem dX2_next_21 : decode cX2_next 21 = .ok (.iconst 0, 1) := by decide +kernel
theorem dX2_next_22 : decode cX2_next 22 = .ok (.putfield 18, 3) := by decide +kernel
theorem dX2_next_25 : decode cX2_next 25 = .ok (.aload_n 0, 1) := by decide +kernel
theorem dX2_next_26 : decode cX2_next 26 = .ok (.aload_n 0, 1) := by decide +kernel
theorem dX2_next_27 : decode cX2_next 27 = .ok (.getfield 22, 3) := by decide +kernel
theorem dX2_next_30 : decode cX2_next 30 = .ok (.iconst 1, 1) := by decide +kernel
theorem dX2_next_31 : decode cX2_next 31 = .ok (.iadd, 1) := by decide +kernel
theorem dX2_next_32 : decode cX2_next 32 = .ok (.bipush 12, 2) := by decide +kernel
theorem dX2_next_34 : decode cX2_next 34 = .ok (.invokestatic 25, 3) := by decide +kernel
theorem dX2_next_37 : decode cX2_next 37 = .ok (.putfield 22, 3) := by decide +kernel
theorem dX2_next_40 : decode cX2_next 40 = .ok (.aload_n 0, 1) := by decide +kernel
theorem dX2_next_41 : decode cX2_next 41 = .ok (.getfield 11, 3) := by decide +kernel
theorem dX2_next_44 : decode cX2_next 44 = .ok (.aload_n 0, 1) := by decide +kernel
theorem dX2_next_45 : decode cX2_next 45 = .ok (.getfield 18, 3) := by decide +kernel
theorem dX2_next_48 : decode cX2_next 48 = .ok (.aaload, 1) := by decide +kernel
theorem dX2_next_49 : decode cX2_next 49 = .ok (.areturn, 1) := by decide +kernel
theorem dX2_takeLatest_0 : decode cX2_takeLatest 0 = .ok (.aload_n 0, 1) := by decide +kernel
theorem dX2_takeLatest_1 : decode cX2_takeLatest 1 = .ok (.getfield 22, 3) := by decide +kernel
theorem dX2_takeLatest_4 : decode cX2_takeLatest 4 = .ok (.ifCond .ne 5, 3) := by decide +kernel
theorem dX2_takeLatest_7 : decode cX2_takeLatest 7 = .ok (.aconst_null, 1) := by decide +kernel
theorem dX2_takeLatest_8 : decode cX2_takeLatest 8 = .ok (.areturn, 1) := by decide +kernel
theorem dX2_takeLatest_9 : decode cX2_takeLatest 9 = .ok (.aload_n 0, 1) := by decide +kernel
theorem dX2_takeLatest_10 : decode cX2_takeLatest 10 = .ok (.getfield 11, 3) := by decide +kernel
theorem dX2_takeLatest_13 : decode cX2_takeLatest 13 = .ok (.aload_n 0, 1) := by decide +kernel
theorem dX2_takeLatest_14 : decode cX2_takeLatest 14 = .ok (.getfield 18, 3) := by decide +kernel
theorem dX2_takeLatest_17 : decode cX2_takeLatest 17 = .ok (.aaload, 1) := by decide +kernel
theorem dX2_takeLatest_18 : decode cX2_takeLatest 18 = .ok (.astore_n 1, 1) := by decide +kernel
theorem dX2_takeLatest_19 : decode cX2_takeLatest 19 = .ok (.aload_n 0, 1) := by decide +kernel
theorem dX2_takeLatest_20 : decode cX2_takeLatest 20 = .ok (.aload_n 0, 1) := by decide +kernel
theorem dX2_takeLatest_21 : decode cX2_takeLatest 21 = .ok (.getfield 18, 3) := by decide +kernel
theorem dX2_takeLatest_24 : decode cX2_takeLatest 24 = .ok (.ifCond .le 12, 3) := by decide +kernel
theorem dX2_takeLatest_27 : decode cX2_takeLatest 27 = .ok (.aload_n 0, 1) := by decide +kernel
theorem dX2_takeLatest_28 : decode cX2_takeLatest 28 = .ok (.getfield 18, 3) := by decide +kernel
theorem dX2_takeLatest_31 : decode cX2_takeLatest 31 = .ok (.iconst 1, 1) := by decide +kernel
theorem dX2_takeLatest_32 : decode cX2_takeLatest 32 = .ok (.isub, 1) := by decide +kernel
theorem dX2_takeLatest_33 : decode cX2_takeLatest 33 = .ok (.goto 5, 3) := by decide +kernel
theorem dX2_takeLatest_36 : decode cX2_takeLatest 36 = .ok (.bipush 11, 2) := by decide +kernel
theorem dX2_takeLatest_38 : decode cX2_takeLatest 38 = .ok (.putfield 18, 3) := by decide +kernel
theorem dX2_takeLatest_41 : decode cX2_takeLatest 41 = .ok (.aload_n 0, 1) := by decide +kernel
theorem dX2_takeLatest_42 : decode cX2_takeLatest 42 = .ok (.dup, 1) := by decide +kernel
theorem dX2_takeLatest_43 : decode cX2_takeLatest 43 = .ok (.getfield 22, 3) := by decide +kernel
theorem dX2_takeLatest_46 : decode cX2_takeLatest 46 = .ok (.iconst 1, 1) := by decide +kernel
theorem dX2_takeLatest_47 : decode cX2_takeLatest 47 = .ok (.isub, 1) := by decide +kernel
theorem dX2_takeLatest_48 : decode cX2_takeLatest 48 = .ok (.putfield 22, 3) := by decide +kernel
theorem dX2_takeLatest_51 : decode cX2_takeLatest 51 = .ok (.aload_n 1, 1) := by decide +kernel
theorem dX2_takeLatest_52 : decode cX2_takeLatest 52 = .ok (.areturn, 1) := by decide +kernel
theorem dX3_init_0 : decode cX3_init 0 = .ok (.aload_n 0, 1) := by decide +kernel
theorem dX3_init_1 : decode cX3_init 1 = .ok (.invokespecial 3, 3) := by decide +kernel
theorem dX3_init_4 : decode cX3_init 4 = .ok (.aload_n 0, 1) := by decide +kernel
theorem dX3_init_5 : decode cX3_init 5 = .ok (.bipush 64, 2) := by decide +kernel
theorem dX3_init_7 : decode cX3_init 7 = .ok (.newarray .int, 2) := by decide +kernel
theorem dX3_init_9 : decode cX3_init 9 = .ok (.putfield 9, 3) := by decide +kernel
theorem dX3_init_12 : decode cX3_init 12 = .ok (.return_, 1) := by decide +kernel
theorem dX3_clearAll_0 : decode cX3_clearAll 0 = .ok (.aload_n 0, 1) := by decide +kernel
theorem dX3_clearAll_1 : decode cX3_clearAll 1 = .ok (.getfield 9, 3) := by decide +kernel
theorem dX3_clearAll_4 : decode cX3_clearAll 4 = .ok (.iconst 0, 1) := by decide +kernel
theorem dX3_clearAll_5 : decode cX3_clearAll 5 = .ok (.invokestatic 15, 3) := by decide +kernel
theorem dX3_clearAll_8 : decode cX3_clearAll 8 = .ok (.return_, 1) := by decide +kernel
theorem dX3_takeListener_0 : decode cX3_takeListener 0 = .ok (.aload_n 0, 1) := by decide +kernel
theorem dX3_takeListener_1 : decode cX3_takeListener 1 = .ok (.invokevirtual 21, 3) := by decide +kernel
theorem dX3_takeListener_4 : decode cX3_takeListener 4 = .ok (.iconst 0, 1) := by decide +kernel
theorem dX3_takeListener_5 : decode cX3_takeListener 5 = .ok (.istore_n 3, 1) := by decide +kernel
theorem dX3_takeListener_6 : decode cX3_takeListener 6 = .ok (.iload_n 3, 1) := by decide +kernel
theorem dX3_takeListener_7 : decode cX3_takeListener 7 = .ok (.aload_n 1, 1) := by decide +kernel
theorem dX3_takeListener_8 : decode cX3_takeListener 8 = .ok (.getfield 24, 3) := by decide +kernel
theorem dX3_takeListener_11 : decode cX3_takeListener 11 = .ok (.if_icmp .ge 32, 3) := by decide +kernel
theorem dX3_takeListener_14 : decode cX3_takeListener 14 = .ok (.aload_n 1, 1) := by decide +kernel
theorem dX3_takeListener_15 : decode cX3_takeListener 15 = .ok (.iload_n 3, 1) := by decide +kernel
theorem dX3_takeListener_16 : decode cX3_takeListener 16 = .ok (.invokevirtual 30, 3) := by decide +kernel
theorem dX3_takeListener_19 : decode cX3_takeListener 19 = .ok (.istore 4, 2) := by decide +kernel
theorem dX3_takeListener_21 : decode cX3_takeListener 21 = .ok (.iload 4, 2) := by decide +kernel
theorem dX3_takeListener_23 : decode cX3_takeListener 23 = .ok (.invokestatic 34, 3) := by decide +kernel
theorem dX3_takeListener_26 : decode cX3_takeListener 26 = .ok (.iload_n 2, 1) := by decide +kernel
theorem dX3_takeListener_27 : decode cX3_takeListener 27 = .ok (.if_icmp .ne 10, 3) := by decide +kernel
theorem dX3_takeListener_30 : decode cX3_takeListener 30 = .ok (.aload_n 0, 1) := by decide +kernel
theorem dX3_takeListener_31 : decode cX3_takeListener 31 = .ok (.iload 4, 2) := by decide +kernel
theorem dX3_takeListener_33 : decode cX3_takeListener 33 = .ok (.iconst 1, 1) := by decide +kernel
theorem dX3_takeListener_34 : decode cX3_takeListener 34 = .ok (.invokevirtual 37, 3) := by decide +kernel
theorem dX3_takeListener_37 : decode cX3_takeListener 37 = .ok (.iinc 3 1, 3) := by decide +kernel
theorem dX3_takeListener_40 : decode cX3_takeListener 40 = .ok (.goto (-34), 3) := by decide +kernel
theorem dX3_takeListener_43 : decode cX3_takeListener 43 = .ok (.return_, 1) := by decide +kernel
theorem dX3_addWin_0 : decode cX3_addWin 0 = .ok (.iload_n 1, 1) := by decide +kernel
theorem dX3_addWin_1 : decode cX3_addWin 1 = .ok (.invokestatic 41, 3) := by decide +kernel
theorem dX3_addWin_4 : decode cX3_addWin 4 = .ok (.ifCond .eq 44, 3) := by decide +kernel
theorem dX3_addWin_7 : decode cX3_addWin 7 = .ok (.iload_n 1, 1) := by decide +kernel
theorem dX3_addWin_8 : decode cX3_addWin 8 = .ok (.invokestatic 44, 3) := by decide +kernel
theorem dX3_addWin_11 : decode cX3_addWin 11 = .ok (.istore_n 3, 1) := by decide +kernel
theorem dX3_addWin_12 : decode cX3_addWin 12 = .ok (.iload_n 1, 1) := by decide +kernel
theorem dX3_addWin_13 : decode cX3_addWin 13 = .ok (.invokestatic 47, 3) := by decide +kernel
theorem dX3_addWin_16 : decode cX3_addWin 16 = .ok (.istore 4, 2) := by decide +kernel
theorem dX3_addWin_18 : decode cX3_addWin 18 = .ok (.aload_n 0, 1) := by decide +kernel
theorem dX3_addWin_19 : decode cX3_addWin 19 = .ok (.getfield 9, 3) := by decide +kernel
theorem dX3_addWin_22 : decode cX3_addWin 22 = .ok (.iload_n 3, 1) := by decide +kernel
theorem dX3_addWin_23 : decode cX3_addWin 23 = .ok (.iload 4, 2) := by decide +kernel
theorem dX3_addWin_25 : decode cX3_addWin 25 = .ok (.invokestatic 50, 3) := by decide +kernel
theorem dX3_addWin_28 : decode cX3_addWin 28 = .ok (.dup2, 1) := by decide +kernel
theorem dX3_addWin_29 : decode cX3_addWin 29 = .ok (.iaload, 1) := by decide +kernel
theorem dX3_addWin_30 : decode cX3_addWin 30 = .ok (.iload_n 2, 1) := by decide +kernel
theorem dX3_addWin_31 : decode cX3_addWin 31 = .ok (.iadd, 1) := by decide +kernel
theorem dX3_addWin_32 : decode cX3_addWin 32 = .ok (.iastore, 1) := by decide +kernel
theorem dX3_addWin_33 : decode cX3_addWin 33 = .ok (.aload_n 0, 1) := by decide +kernel
theorem dX3_addWin_34 : decode cX3_addWin 34 = .ok (.getfield 9, 3) := by decide +kernel
theorem dX3_addWin_37 : decode cX3_addWin 37 = .ok (.iload 4, 2) := by decide +kernel
theorem dX3_addWin_39 : decode cX3_addWin 39 = .ok (.iload_n 3, 1) := by decide +kernel
theorem dX3_addWin_40 : decode cX3_addWin 40 = .ok (.invokestatic 50, 3) := by decide +kernel
theorem dX3_addWin_43 : decode cX3_addWin 43 = .ok (.dup2, 1) := by decide +kernel
theorem dX3_addWin_44 : decode cX3_addWin 44 = .ok (.iaload, 1) := by decide +kernel
theorem dX3_addWin_45 : decode cX3_addWin 45 = .ok (.iload_n 2, 1) := by decide +kernel
theorem dX3_addWin_46 : decode cX3_addWin 46 = .ok (.isub, 1) := by decide +kernel
theorem dX3_addWin_47 : decode cX3_addWin 47 = .ok (.iastore, 1) := by decide +kernel
theorem dX3_addWin_48 : decode cX3_addWin 48 = .ok (.return_, 1) := by decide +kernel
theorem dX3_lead_0 : decode cX3_lead 0 = .ok (.aload_n 0, 1) := by decide +kernel
theorem dX3_lead_1 : decode cX3_lead 1 = .ok (.getfield 9, 3) := by decide +kernel
theorem dX3_lead_4 : decode cX3_lead 4 = .ok (.iload_n 1, 1) := by decide +kernel
theorem dX3_lead_5 : decode cX3_lead 5 = .ok (.iload_n 2, 1) := by decide +kernel
theorem dX3_lead_6 : decode cX3_lead 6 = .ok (.invokestatic 50, 3) := by decide +kernel
theorem dX3_lead_9 : decode cX3_lead 9 = .ok (.iaload, 1) := by decide +kernel
theorem dX3_lead_10 : decode cX3_lead 10 = .ok (.ireturn, 1) := by decide +kernel
theorem dX3_isAhead_0 : decode cX3_isAhead 0 = .ok (.aload_n 0, 1) := by decide +kernel
theorem dX3_isAhead_1 : decode cX3_isAhead 1 = .ok (.getfield 9, 3) := by decide +kernel
theorem dX3_isAhead_4 : decode cX3_isAhead 4 = .ok (.iload_n 1, 1) := by decide +kernel
theorem dX3_isAhead_5 : decode cX3_isAhead 5 = .ok (.iload_n 2, 1) := by decide +kernel
theorem dX3_isAhead_6 : decode cX3_isAhead 6 = .ok (.invokestatic 50, 3) := by decide +kernel
theorem dX3_isAhead_9 : decode cX3_isAhead 9 = .ok (.iaload, 1) := by decide +kernel
theorem dX3_isAhead_10 : decode cX3_isAhead 10 = .ok (.ifCond .le 7, 3) := by decide +kernel
theorem dX3_isAhead_13 : decode cX3_isAhead 13 = .ok (.iconst 1, 1) := by decide +kernel
theorem dX3_isAhead_14 : decode cX3_isAhead 14 = .ok (.goto 4, 3) := by decide +kernel
theorem dX3_isAhead_17 : decode cX3_isAhead 17 = .ok (.iconst 0, 1) := by decide +kernel
theorem dX3_isAhead_18 : decode cX3_isAhead 18 = .ok (.ireturn, 1) := by decide +kernel
theorem dX3_isComplete_0 : decode cX3_isComplete 0 = .ok (.iconst 0, 1) := by decide +kernel
theorem dX3_isComplete_1 : decode cX3_isComplete 1 = .ok (.istore_n 2, 1) := by decide +kernel
theorem dX3_isComplete_2 : decode cX3_isComplete 2 = .ok (.iload_n 2, 1) := by decide +kernel
theorem dX3_isComplete_3 : decode cX3_isComplete 3 = .ok (.iload_n 1, 1) := by decide +kernel
theorem dX3_isComplete_4 : decode cX3_isComplete 4 = .ok (.if_icmp .ge 35, 3) := by decide +kernel
theorem dX3_isComplete_7 : decode cX3_isComplete 7 = .ok (.iload_n 2, 1) := by decide +kernel
theorem dX3_isComplete_8 : decode cX3_isComplete 8 = .ok (.iconst 1, 1) := by decide +kernel
theorem dX3_isComplete_9 : decode cX3_isComplete 9 = .ok (.iadd, 1) := by decide +kernel
theorem dX3_isComplete_10 : decode cX3_isComplete 10 = .ok (.istore_n 3, 1) := by decide +kernel
theorem dX3_isComplete_11 : decode cX3_isComplete 11 = .ok (.iload_n 3, 1) := by decide +kernel
theorem dX3_isComplete_12 : decode cX3_isComplete 12 = .ok (.iload_n 1, 1) := by decide +kernel
theorem dX3_isComplete_13 : decode cX3_isComplete 13 = .ok (.if_icmp .ge 20, 3) := by decide +kernel
theorem dX3_isComplete_16 : decode cX3_isComplete 16 = .ok (.aload_n 0, 1) := by decide +kernel
theorem dX3_isComplete_17 : decode cX3_isComplete 17 = .ok (.iload_n 2, 1) := by decide +kernel
theorem dX3_isComplete_18 : decode cX3_isComplete 18 = .ok (.iload_n 3, 1) := by decide +kernel
theorem dX3_isComplete_19 : decode cX3_isComplete 19 = .ok (.invokevirtual 54, 3) := by decide +kernel
theorem dX3_isComplete_22 : decode cX3_isComplete 22 = .ok (.ifCond .ne 5, 3) := by decide +kernel
theorem dX3_isComplete_25 : decode cX3_isComplete 25 = .ok (.iconst 0, 1) := by decide +kernel
theorem dX3_isComplete_26 : decode cX3_isComplete 26 = .ok (.ireturn, 1) := by decide +kernel
theorem dX3_isComplete_27 : decode cX3_isComplete 27 = .ok (.iinc 3 1, 3) := by decide +kernel
theorem dX3_isComplete_30 : decode cX3_isComplete 30 = .ok (.goto (-19), 3) := by decide +kernel
theorem dX3_isComplete_33 : decode cX3_isComplete 33 = .ok (.iinc 2 1, 3) := by decide +kernel
theorem dX3_isComplete_36 : decode cX3_isComplete 36 = .ok (.goto (-34), 3) := by decide +kernel
theorem dX3_isComplete_39 : decode cX3_isComplete 39 = .ok (.iconst 1, 1) := by decide +kernel
theorem dX3_isComplete_40 : decode cX3_isComplete 40 = .ok (.ireturn, 1) := by decide +kernel
theorem dX3_countRings_0 : decode cX3_countRings 0 = .ok (.iconst 0, 1) := by decide +kernel
theorem dX3_countRings_1 : decode cX3_countRings 1 = .ok (.istore_n 2, 1) := by decide +kernel
theorem dX3_countRings_2 : decode cX3_countRings 2 = .ok (.iconst 0, 1) := by decide +kernel
theorem dX3_countRings_3 : decode cX3_countRings 3 = .ok (.istore_n 3, 1) := by decide +kernel
theorem dX3_countRings_4 : decode cX3_countRings 4 = .ok (.iload_n 3, 1) := by decide +kernel
theorem dX3_countRings_5 : decode cX3_countRings 5 = .ok (.iload_n 1, 1) := by decide +kernel
theorem dX3_countRings_6 : decode cX3_countRings 6 = .ok (.if_icmp .ge 71, 3) := by decide +kernel
theorem dX3_countRings_9 : decode cX3_countRings 9 = .ok (.iload_n 3, 1) := by decide +kernel
theorem dX3_countRings_10 : decode cX3_countRings 10 = .ok (.iconst 1, 1) := by decide +kernel
theorem dX3_countRings_11 : decode cX3_countRings 11 = .ok (.iadd, 1) := by decide +kernel
theorem dX3_countRings_12 : decode cX3_countRings 12 = .ok (.istore 4, 2) := by decide +kernel
theorem dX3_countRings_14 : decode cX3_countRings 14 = .ok (.iload 4, 2) := by decide +kernel
theorem dX3_countRings_16 : decode cX3_countRings 16 = .ok (.iload_n 1, 1) := by decide +kernel
theorem dX3_countRings_17 : decode cX3_countRings 17 = .ok (.if_icmp .ge 54, 3) := by decide +kernel
theorem dX3_countRings_20 : decode cX3_countRings 20 = .ok (.iload 4, 2) := by decide +kernel
theorem dX3_countRings_22 : decode cX3_countRings 22 = .ok (.iconst 1, 1) := by decide +kernel
theorem dX3_countRings_23 : decode cX3_countRings 23 = .ok (.iadd, 1) := by decide +kernel
theorem dX3_countRings_24 : decode cX3_countRings 24 = .ok (.istore 5, 2) := by decide +kernel
theorem dX3_countRings_26 : decode cX3_countRings 26 = .ok (.iload 5, 2) := by decide +kernel
theorem dX3_countRings_28 : decode cX3_countRings 28 = .ok (.iload_n 1, 1) := by decide +kernel
theorem dX3_countRings_29 : decode cX3_countRings 29 = .ok (.if_icmp .ge 36, 3) := by decide +kernel
theorem dX3_countRings_32 : decode cX3_countRings 32 = .ok (.aload_n 0, 1) := by decide +kernel
theorem dX3_countRings_33 : decode cX3_countRings 33 = .ok (.iload_n 3, 1) := by decide +kernel
theorem dX3_countRings_34 : decode cX3_countRings 34 = .ok (.iload 4, 2) := by decide +kernel
theorem dX3_countRings_36 : decode cX3_countRings 36 = .ok (.iload 5, 2) := by decide +kernel
theorem dX3_countRings_38 : decode cX3_countRings 38 = .ok (.invokevirtual 57, 3) := by decide +kernel
theorem dX3_countRings_41 : decode cX3_countRings 41 = .ok (.ifCond .ne 15, 3) := by decide +kernel
theorem dX3_countRings_44 : decode cX3_countRings 44 = .ok (.aload_n 0, 1) := by decide +kernel
theorem dX3_countRings_45 : decode cX3_countRings 45 = .ok (.iload 5, 2) := by decide +kernel
theorem dX3_countRings_47 : decode cX3_countRings 47 = .ok (.iload 4, 2) := by decide +kernel
theorem dX3_countRings_49 : decode cX3_countRings 49 = .ok (.iload_n 3, 1) := by decide +kernel
theorem dX3_countRings_50 : decode cX3_countRings 50 = .ok (.invokevirtual 57, 3) := by decide +kernel
theorem dX3_countRings_53 : decode cX3_countRings 53 = .ok (.ifCond .eq 6, 3) := by decide +kernel
theorem dX3_countRings_56 : decode cX3_countRings 56 = .ok (.iinc 2 1, 3) := by decide +kernel
theorem dX3_countRings_59 : decode cX3_countRings 59 = .ok (.iinc 5 1, 3) := by decide +kernel
theorem dX3_countRings_62 : decode cX3_countRings 62 = .ok (.goto (-36), 3) := by decide +kernel
theorem dX3_countRings_65 : decode cX3_countRings 65 = .ok (.iinc 4 1, 3) := by decide +kernel
theorem dX3_countRings_68 : decode cX3_countRings 68 = .ok (.goto (-54), 3) := by decide +kernel
theorem dX3_countRings_71 : decode cX3_countRings 71 = .ok (.iinc 3 1, 3) := by decide +kernel
theorem dX3_countRings_74 : decode cX3_countRings 74 = .ok (.goto (-70), 3) := by decide +kernel
theorem dX3_countRings_77 : decode cX3_countRings 77 = .ok (.iload_n 2, 1) := by decide +kernel
theorem dX3_countRings_78 : decode cX3_countRings 78 = .ok (.ireturn, 1) := by decide +kernel
theorem dX3_isRing_0 : decode cX3_isRing 0 = .ok (.aload_n 0, 1) := by decide +kernel
theorem dX3_isRing_1 : decode cX3_isRing 1 = .ok (.iload_n 1, 1) := by decide +kernel
theorem dX3_isRing_2 : decode cX3_isRing 2 = .ok (.iload_n 2, 1) := by decide +kernel
theorem dX3_isRing_3 : decode cX3_isRing 3 = .ok (.invokevirtual 61, 3) := by decide +kernel
theorem dX3_isRing_6 : decode cX3_isRing 6 = .ok (.ifCond .eq 25, 3) := by decide +kernel
theorem dX3_isRing_9 : decode cX3_isRing 9 = .ok (.aload_n 0, 1) := by decide +kernel
theorem dX3_isRing_10 : decode cX3_isRing 10 = .ok (.iload_n 2, 1) := by decide +kernel
theorem dX3_isRing_11 : decode cX3_isRing 11 = .ok (.iload_n 3, 1) := by decide +kernel
theorem dX3_isRing_12 : decode cX3_isRing 12 = .ok (.invokevirtual 61, 3) := by decide +kernel
theorem dX3_isRing_15 : decode cX3_isRing 15 = .ok (.ifCond .eq 16, 3) := by decide +kernel
theorem dX3_isRing_18 : decode cX3_isRing 18 = .ok (.aload_n 0, 1) := by decide +kernel
theorem dX3_isRing_19 : decode cX3_isRing 19 = .ok (.iload_n 3, 1) := by decide +kernel
theorem dX3_isRing_20 : decode cX3_isRing 20 = .ok (.iload_n 1, 1) := by decide +kernel
theorem dX3_isRing_21 : decode cX3_isRing 21 = .ok (.invokevirtual 61, 3) := by decide +kernel
theorem dX3_isRing_24 : decode cX3_isRing 24 = .ok (.ifCond .eq 7, 3) := by decide +kernel
theorem dX3_isRing_27 : decode cX3_isRing 27 = .ok (.iconst 1, 1) := by decide +kernel
theorem dX3_isRing_28 : decode cX3_isRing 28 = .ok (.goto 4, 3) := by decide +kernel
theorem dX3_isRing_31 : decode cX3_isRing 31 = .ok (.iconst 0, 1) := by decide +kernel
theorem dX3_isRing_32 : decode cX3_isRing 32 = .ok (.ireturn, 1) := by decide +kernel
theorem dX4_init_0 : decode cX4_init 0 = .ok (.aload_n 0, 1) := by decide +kernel
theorem dX4_init_1 : decode cX4_init 1 = .ok (.invokespecial 1, 3) := by decide +kernel
theorem dX4_init_4 : decode cX4_init 4 = .ok (.aload_n 0, 1) := by decide +kernel
theorem dX4_init_5 : decode cX4_init 5 = .ok (.iload_n 1, 1) := by decide +kernel
theorem dX4_init_6 : decode cX4_init 6 = .ok (.putfield 7, 3) := by decide +kernel
theorem dX4_init_9 : decode cX4_init 9 = .ok (.aload_n 0, 1) := by decide +kernel
theorem dX4_init_10 : decode cX4_init 10 = .ok (.iload_n 3, 1) := by decide +kernel
theorem dX4_init_11 : decode cX4_init 11 = .ok (.iload_n 2, 1) := by decide +kernel
theorem dX4_init_12 : decode cX4_init 12 = .ok (.iload_n 2, 1) := by decide +kernel
theorem dX4_init_13 : decode cX4_init 13 = .ok (.iconst 1, 1) := by decide +kernel
theorem dX4_init_14 : decode cX4_init 14 = .ok (.isub, 1) := by decide +kernel
theorem dX4_init_15 : decode cX4_init 15 = .ok (.imul, 1) := by decide +kernel
theorem dX4_init_16 : decode cX4_init 16 = .ok (.iconst 2, 1) := by decide +kernel
theorem dX4_init_17 : decode cX4_init 17 = .ok (.idiv, 1) := by decide +kernel
theorem dX4_init_18 : decode cX4_init 18 = .ok (.imul, 1) := by decide +kernel
theorem dX4_init_19 : decode cX4_init 19 = .ok (.newarray .int, 2) := by decide +kernel
theorem dX4_init_21 : decode cX4_init 21 = .ok (.putfield 13, 3) := by decide +kernel
theorem dX4_init_24 : decode cX4_init 24 = .ok (.aload_n 0, 1) := by decide +kernel
theorem dX4_init_25 : decode cX4_init 25 = .ok (.iload_n 2, 1) := by decide +kernel
theorem dX4_init_26 : decode cX4_init 26 = .ok (.iload_n 3, 1) := by decide +kernel
theorem dX4_init_27 : decode cX4_init 27 = .ok (.invokevirtual 17, 3) := by decide +kernel
theorem dX4_init_30 : decode cX4_init 30 = .ok (.aload_n 0, 1) := by decide +kernel
theorem dX4_init_31 : decode cX4_init 31 = .ok (.aload_n 0, 1) := by decide +kernel
theorem dX4_init_32 : decode cX4_init 32 = .ok (.iload 4, 2) := by decide +kernel
theorem dX4_init_34 : decode cX4_init 34 = .ok (.invokevirtual 21, 3) := by decide +kernel
theorem dX4_init_37 : decode cX4_init 37 = .ok (.invokevirtual 25, 3) := by decide +kernel
theorem dX4_init_40 : decode cX4_init 40 = .ok (.return_, 1) := by decide +kernel
theorem dX4_size_0 : decode cX4_size 0 = .ok (.aload_n 0, 1) := by decide +kernel
theorem dX4_size_1 : decode cX4_size 1 = .ok (.getfield 13, 3) := by decide +kernel
theorem dX4_size_4 : decode cX4_size 4 = .ok (.arraylength, 1) := by decide +kernel
theorem dX4_size_5 : decode cX4_size 5 = .ok (.ireturn, 1) := by decide +kernel
theorem dX4_firstAt_0 : decode cX4_firstAt 0 = .ok (.iload_n 1, 1) := by decide +kernel
theorem dX4_firstAt_1 : decode cX4_firstAt 1 = .ok (.ifCond .lt 23, 3) := by decide +kernel
theorem dX4_firstAt_4 : decode cX4_firstAt 4 = .ok (.iload_n 1, 1) := by decide +kernel
theorem dX4_firstAt_5 : decode cX4_firstAt 5 = .ok (.aload_n 0, 1) := by decide +kernel
theorem dX4_firstAt_6 : decode cX4_firstAt 6 = .ok (.getfield 13, 3) := by decide +kernel
theorem dX4_firstAt_9 : decode cX4_firstAt 9 = .ok (.arraylength, 1) := by decide +kernel
theorem dX4_firstAt_10 : decode cX4_firstAt 10 = .ok (.if_icmp .ge 14, 3) := by decide +kernel
theorem dX4_firstAt_13 : decode cX4_firstAt 13 = .ok (.aload_n 0, 1) := by decide +kernel
theorem dX4_firstAt_14 : decode cX4_firstAt 14 = .ok (.getfield 13, 3) := by decide +kernel
theorem dX4_firstAt_17 : decode cX4_firstAt 17 = .ok (.iload_n 1, 1) := by decide +kernel
theorem dX4_firstAt_18 : decode cX4_firstAt 18 = .ok (.iaload, 1) := by decide +kernel
theorem dX4_firstAt_19 : decode cX4_firstAt 19 = .ok (.iconst 3, 1) := by decide +kernel
theorem dX4_firstAt_20 : decode cX4_firstAt 20 = .ok (.ishr, 1) := by decide +kernel
theorem dX4_firstAt_21 : decode cX4_firstAt 21 = .ok (.goto 4, 3) := by decide +kernel
theorem dX4_firstAt_24 : decode cX4_firstAt 24 = .ok (.iconst 0, 1) := by decide +kernel
theorem dX4_firstAt_25 : decode cX4_firstAt 25 = .ok (.ireturn, 1) := by decide +kernel
theorem dX4_secondAt_0 : decode cX4_secondAt 0 = .ok (.iload_n 1, 1) := by decide +kernel
theorem dX4_secondAt_1 : decode cX4_secondAt 1 = .ok (.ifCond .lt 24, 3) := by decide +kernel
theorem dX4_secondAt_4 : decode cX4_secondAt 4 = .ok (.iload_n 1, 1) := by decide +kernel
theorem dX4_secondAt_5 : decode cX4_secondAt 5 = .ok (.aload_n 0, 1) := by decide +kernel
theorem dX4_secondAt_6 : decode cX4_secondAt 6 = .ok (.getfield 13, 3) := by decide +kernel
theorem dX4_secondAt_9 : decode cX4_secondAt 9 = .ok (.arraylength, 1) := by decide +kernel
theorem dX4_secondAt_10 : decode cX4_secondAt 10 = .ok (.if_icmp .ge 15, 3) := by decide +kernel
theorem dX4_secondAt_13 : decode cX4_secondAt 13 = .ok (.aload_n 0, 1) := by decide +kernel
theorem dX4_secondAt_14 : decode cX4_secondAt 14 = .ok (.getfield 13, 3) := by decide +kernel
theorem dX4_secondAt_17 : decode cX4_secondAt 17 = .ok (.iload_n 1, 1) := by decide +kernel
theorem dX4_secondAt_18 : decode cX4_secondAt 18 = .ok (.iaload, 1) := by decide +kernel
theorem dX4_secondAt_19 : decode cX4_secondAt 19 = .ok (.bipush 7, 2) := by decide +kernel
theorem dX4_secondAt_21 : decode cX4_secondAt 21 = .ok (.iand, 1) := by decide +kernel
theorem dX4_secondAt_22 : decode cX4_secondAt 22 = .ok (.goto 4, 3) := by decide +kernel
theorem dX4_secondAt_25 : decode cX4_secondAt 25 = .ok (.iconst 0, 1) := by decide +kernel
theorem dX4_secondAt_26 : decode cX4_secondAt 26 = .ok (.ireturn, 1) := by decide +kernel
theorem dX4_listTrials_0 : decode cX4_listTrials 0 = .ok (.iconst 0, 1) := by decide +kernel
theorem dX4_listTrials_1 : decode cX4_listTrials 1 = .ok (.istore_n 3, 1) := by decide +kernel
theorem dX4_listTrials_2 : decode cX4_listTrials 2 = .ok (.iconst 0, 1) := by decide +kernel
theorem dX4_listTrials_3 : decode cX4_listTrials 3 = .ok (.istore 4, 2) := by decide +kernel
theorem dX4_listTrials_5 : decode cX4_listTrials 5 = .ok (.iload 4, 2) := by decide +kernel
theorem dX4_listTrials_7 : decode cX4_listTrials 7 = .ok (.iload_n 2, 1) := by decide +kernel
theorem dX4_listTrials_8 : decode cX4_listTrials 8 = .ok (.if_icmp .ge 67, 3) := by decide +kernel
theorem dX4_listTrials_11 : decode cX4_listTrials 11 = .ok (.iconst 0, 1) := by decide +kernel
theorem dX4_listTrials_12 : decode cX4_listTrials 12 = .ok (.istore 5, 2) := by decide +kernel
theorem dX4_listTrials_14 : decode cX4_listTrials 14 = .ok (.iload 5, 2) := by decide +kernel
theorem dX4_listTrials_16 : decode cX4_listTrials 16 = .ok (.iload_n 1, 1) := by decide +kernel
theorem dX4_listTrials_17 : decode cX4_listTrials 17 = .ok (.if_icmp .ge 52, 3) := by decide +kernel
theorem dX4_listTrials_20 : decode cX4_listTrials 20 = .ok (.iload 5, 2) := by decide +kernel
theorem dX4_listTrials_22 : decode cX4_listTrials 22 = .ok (.iconst 1, 1) := by decide +kernel
theorem dX4_listTrials_23 : decode cX4_listTrials 23 = .ok (.iadd, 1) := by decide +kernel
theorem dX4_listTrials_24 : decode cX4_listTrials 24 = .ok (.istore 6, 2) := by decide +kernel
theorem dX4_listTrials_26 : decode cX4_listTrials 26 = .ok (.iload 6, 2) := by decide +kernel
theorem dX4_listTrials_28 : decode cX4_listTrials 28 = .ok (.iload_n 1, 1) := by decide +kernel
theorem dX4_listTrials_29 : decode cX4_listTrials 29 = .ok (.if_icmp .ge 34, 3) := by decide +kernel
theorem dX4_listTrials_32 : decode cX4_listTrials 32 = .ok (.iload_n 3, 1) := by decide +kernel
theorem dX4_listTrials_33 : decode cX4_listTrials 33 = .ok (.aload_n 0, 1) := by decide +kernel
theorem dX4_listTrials_34 : decode cX4_listTrials 34 = .ok (.getfield 13, 3) := by decide +kernel
theorem dX4_listTrials_37 : decode cX4_listTrials 37 = .ok (.arraylength, 1) := by decide +kernel
theorem dX4_listTrials_38 : decode cX4_listTrials 38 = .ok (.if_icmp .ge 25, 3) := by decide +kernel
theorem dX4_listTrials_41 : decode cX4_listTrials 41 = .ok (.aload_n 0, 1) := by decide +kernel
theorem dX4_listTrials_42 : decode cX4_listTrials 42 = .ok (.getfield 13, 3) := by decide +kernel
theorem dX4_listTrials_45 : decode cX4_listTrials 45 = .ok (.iload_n 3, 1) := by decide +kernel
theorem dX4_listTrials_46 : decode cX4_listTrials 46 = .ok (.iload 5, 2) := by decide +kernel
theorem dX4_listTrials_48 : decode cX4_listTrials 48 = .ok (.iload 6, 2) := by decide +kernel
theorem dX4_listTrials_50 : decode cX4_listTrials 50 = .ok (.invokestatic 29, 3) := by decide +kernel
theorem dX4_listTrials_53 : decode cX4_listTrials 53 = .ok (.iastore, 1) := by decide +kernel
theorem dX4_listTrials_54 : decode cX4_listTrials 54 = .ok (.iinc 3 1, 3) := by decide +kernel
theorem dX4_listTrials_57 : decode cX4_listTrials 57 = .ok (.iinc 6 1, 3) := by decide +kernel
theorem dX4_listTrials_60 : decode cX4_listTrials 60 = .ok (.goto (-34), 3) := by decide +kernel
theorem dX4_listTrials_63 : decode cX4_listTrials 63 = .ok (.iinc 5 1, 3) := by decide +kernel
theorem dX4_listTrials_66 : decode cX4_listTrials 66 = .ok (.goto (-52), 3) := by decide +kernel
theorem dX4_listTrials_69 : decode cX4_listTrials 69 = .ok (.iinc 4 1, 3) := by decide +kernel
theorem dX4_listTrials_72 : decode cX4_listTrials 72 = .ok (.goto (-67), 3) := by decide +kernel
theorem dX4_listTrials_75 : decode cX4_listTrials 75 = .ok (.return_, 1) := by decide +kernel
theorem dX4_exchangeSamples_0 : decode cX4_exchangeSamples 0 = .ok (.iload_n 1, 1) := by decide +kernel
theorem dX4_exchangeSamples_1 : decode cX4_exchangeSamples 1 = .ok (.i2l, 1) := by decide +kernel
theorem dX4_exchangeSamples_2 : decode cX4_exchangeSamples 2 = .ok (.lstore_n 2, 1) := by decide +kernel
theorem dX4_exchangeSamples_3 : decode cX4_exchangeSamples 3 = .ok (.iconst 0, 1) := by decide +kernel
theorem dX4_exchangeSamples_4 : decode cX4_exchangeSamples 4 = .ok (.istore 4, 2) := by decide +kernel
theorem dX4_exchangeSamples_6 : decode cX4_exchangeSamples 6 = .ok (.iload 4, 2) := by decide +kernel
theorem dX4_exchangeSamples_8 : decode cX4_exchangeSamples 8 = .ok (.aload_n 0, 1) := by decide +kernel
theorem dX4_exchangeSamples_9 : decode cX4_exchangeSamples 9 = .ok (.getfield 13, 3) := by decide +kernel
theorem dX4_exchangeSamples_12 : decode cX4_exchangeSamples 12 = .ok (.arraylength, 1) := by decide +kernel
theorem dX4_exchangeSamples_13 : decode cX4_exchangeSamples 13 = .ok (.if_icmp .ge 45, 3) := by decide +kernel
theorem dX4_exchangeSamples_16 : decode cX4_exchangeSamples 16 = .ok (.lload_n 2, 1) := by decide +kernel
theorem dX4_exchangeSamples_17 : decode cX4_exchangeSamples 17 = .ok (.invokestatic 35, 3) := by decide +kernel
theorem dX4_exchangeSamples_20 : decode cX4_exchangeSamples 20 = .ok (.lstore_n 2, 1) := by decide +kernel
theorem dX4_exchangeSamples_21 : decode cX4_exchangeSamples 21 = .ok (.lload_n 2, 1) := by decide +kernel
theorem dX4_exchangeSamples_22 : decode cX4_exchangeSamples 22 = .ok (.iconst 2, 1) := by decide +kernel
theorem dX4_exchangeSamples_23 : decode cX4_exchangeSamples 23 = .ok (.invokestatic 39, 3) := by decide +kernel
theorem dX4_exchangeSamples_26 : decode cX4_exchangeSamples 26 = .ok (.iconst 1, 1) := by decide +kernel
theorem dX4_exchangeSamples_27 : decode cX4_exchangeSamples 27 = .ok (.if_icmp .ne 25, 3) := by decide +kernel
theorem dX4_exchangeSamples_30 : decode cX4_exchangeSamples 30 = .ok (.aload_n 0, 1) := by decide +kernel
theorem dX4_exchangeSamples_31 : decode cX4_exchangeSamples 31 = .ok (.getfield 13, 3) := by decide +kernel
theorem dX4_exchangeSamples_34 : decode cX4_exchangeSamples 34 = .ok (.iload 4, 2) := by decide +kernel
theorem dX4_exchangeSamples_36 : decode cX4_exchangeSamples 36 = .ok (.aload_n 0, 1) := by decide +kernel
theorem dX4_exchangeSamples_37 : decode cX4_exchangeSamples 37 = .ok (.iload 4, 2) := by decide +kernel
theorem dX4_exchangeSamples_39 : decode cX4_exchangeSamples 39 = .ok (.invokevirtual 43, 3) := by decide +kernel
theorem dX4_exchangeSamples_42 : decode cX4_exchangeSamples 42 = .ok (.aload_n 0, 1) := by decide +kernel
theorem dX4_exchangeSamples_43 : decode cX4_exchangeSamples 43 = .ok (.iload 4, 2) := by decide +kernel
theorem dX4_exchangeSamples_45 : decode cX4_exchangeSamples 45 = .ok (.invokevirtual 47, 3) := by decide +kernel
theorem dX4_exchangeSamples_48 : decode cX4_exchangeSamples 48 = .ok (.invokestatic 29, 3) := by decide +kernel
theorem dX4_exchangeSamples_51 : decode cX4_exchangeSamples 51 = .ok (.iastore, 1) := by decide +kernel
theorem dX4_exchangeSamples_52 : decode cX4_exchangeSamples 52 = .ok (.iinc 4 1, 3) := by decide +kernel
theorem dX4_exchangeSamples_55 : decode cX4_exchangeSamples 55 = .ok (.goto (-49), 3) := by decide +kernel
theorem dX4_exchangeSamples_58 : decode cX4_exchangeSamples 58 = .ok (.lload_n 2, 1) := by decide +kernel
theorem dX4_exchangeSamples_59 : decode cX4_exchangeSamples 59 = .ok (.lreturn, 1) := by decide +kernel
theorem dX4_shuffle_0 : decode cX4_shuffle 0 = .ok (.lload_n 1, 1) := by decide +kernel
theorem dX4_shuffle_1 : decode cX4_shuffle 1 = .ok (.lstore_n 3, 1) := by decide +kernel
theorem dX4_shuffle_2 : decode cX4_shuffle 2 = .ok (.aload_n 0, 1) := by decide +kernel
theorem dX4_shuffle_3 : decode cX4_shuffle 3 = .ok (.getfield 13, 3) := by decide +kernel
theorem dX4_shuffle_6 : decode cX4_shuffle 6 = .ok (.arraylength, 1) := by decide +kernel
theorem dX4_shuffle_7 : decode cX4_shuffle 7 = .ok (.iconst 1, 1) := by decide +kernel
theorem dX4_shuffle_8 : decode cX4_shuffle 8 = .ok (.isub, 1) := by decide +kernel
theorem dX4_shuffle_9 : decode cX4_shuffle 9 = .ok (.istore 5, 2) := by decide +kernel
theorem dX4_shuffle_11 : decode cX4_shuffle 11 = .ok (.iload 5, 2) := by decide +kernel
theorem dX4_shuffle_13 : decode cX4_shuffle 13 = .ok (.iconst 1, 1) := by decide +kernel
theorem dX4_shuffle_14 : decode cX4_shuffle 14 = .ok (.if_icmp .lt 56, 3) := by decide +kernel
theorem dX4_shuffle_17 : decode cX4_shuffle 17 = .ok (.lload_n 3, 1) := by decide +kernel
theorem dX4_shuffle_18 : decode cX4_shuffle 18 = .ok (.invokestatic 35, 3) := by decide +kernel
theorem dX4_shuffle_21 : decode cX4_shuffle 21 = .ok (.lstore_n 3, 1) := by decide +kernel
theorem dX4_shuffle_22 : decode cX4_shuffle 22 = .ok (.lload_n 3, 1) := by decide +kernel
theorem dX4_shuffle_23 : decode cX4_shuffle 23 = .ok (.iload 5, 2) := by decide +kernel
theorem dX4_shuffle_25 : decode cX4_shuffle 25 = .ok (.iconst 1, 1) := by decide +kernel
theorem dX4_shuffle_26 : decode cX4_shuffle 26 = .ok (.iadd, 1) := by decide +kernel
theorem dX4_shuffle_27 : decode cX4_shuffle 27 = .ok (.invokestatic 39, 3) := by decide +kernel
theorem dX4_shuffle_30 : decode cX4_shuffle 30 = .ok (.istore 6, 2) := by decide +kernel
theorem dX4_shuffle_32 : decode cX4_shuffle 32 = .ok (.aload_n 0, 1) := by decide +kernel
theorem dX4_shuffle_33 : decode cX4_shuffle 33 = .ok (.getfield 13, 3) := by decide +kernel
theorem dX4_shuffle_36 : decode cX4_shuffle 36 = .ok (.iload 5, 2) := by decide +kernel
theorem dX4_shuffle_38 : decode cX4_shuffle 38 = .ok (.iaload, 1) := by decide +kernel
theorem dX4_shuffle_39 : decode cX4_shuffle 39 = .ok (.istore 7, 2) := by decide +kernel
theorem dX4_shuffle_41 : decode cX4_shuffle 41 = .ok (.aload_n 0, 1) := by decide +kernel
theorem dX4_shuffle_42 : decode cX4_shuffle 42 = .ok (.getfield 13, 3) := by decide +kernel
theorem dX4_shuffle_45 : decode cX4_shuffle 45 = .ok (.iload 5, 2) := by decide +kernel
theorem dX4_shuffle_47 : decode cX4_shuffle 47 = .ok (.aload_n 0, 1) := by decide +kernel
theorem dX4_shuffle_48 : decode cX4_shuffle 48 = .ok (.getfield 13, 3) := by decide +kernel
theorem dX4_shuffle_51 : decode cX4_shuffle 51 = .ok (.iload 6, 2) := by decide +kernel
theorem dX4_shuffle_53 : decode cX4_shuffle 53 = .ok (.iaload, 1) := by decide +kernel
theorem dX4_shuffle_54 : decode cX4_shuffle 54 = .ok (.iastore, 1) := by decide +kernel
theorem dX4_shuffle_55 : decode cX4_shuffle 55 = .ok (.aload_n 0, 1) := by decide +kernel
theorem dX4_shuffle_56 : decode cX4_shuffle 56 = .ok (.getfield 13, 3) := by decide +kernel
theorem dX4_shuffle_59 : decode cX4_shuffle 59 = .ok (.iload 6, 2) := by decide +kernel
theorem dX4_shuffle_61 : decode cX4_shuffle 61 = .ok (.iload 7, 2) := by decide +kernel
theorem dX4_shuffle_63 : decode cX4_shuffle 63 = .ok (.iastore, 1) := by decide +kernel
theorem dX4_shuffle_64 : decode cX4_shuffle 64 = .ok (.iinc 5 (-1), 3) := by decide +kernel
theorem dX4_shuffle_67 : decode cX4_shuffle 67 = .ok (.goto (-56), 3) := by decide +kernel
theorem dX4_shuffle_70 : decode cX4_shuffle 70 = .ok (.return_, 1) := by decide +kernel
theorem dX4_nextRandom_0 : decode cX4_nextRandom 0 = .ok (.ldc2_w 50, 3) := by decide +kernel
theorem dX4_nextRandom_3 : decode cX4_nextRandom 3 = .ok (.lload_n 0, 1) := by decide +kernel
theorem dX4_nextRandom_4 : decode cX4_nextRandom 4 = .ok (.lmul, 1) := by decide +kernel
theorem dX4_nextRandom_5 : decode cX4_nextRandom 5 = .ok (.ldc2_w 52, 3) := by decide +kernel
theorem dX4_nextRandom_8 : decode cX4_nextRandom 8 = .ok (.ladd, 1) := by decide +kernel
theorem dX4_nextRandom_9 : decode cX4_nextRandom 9 = .ok (.ldc2_w 54, 3) := by decide +kernel
theorem dX4_nextRandom_12 : decode cX4_nextRandom 12 = .ok (.land, 1) := by decide +kernel
theorem dX4_nextRandom_13 : decode cX4_nextRandom 13 = .ok (.lreturn, 1) := by decide +kernel
theorem dX4_drawn_0 : decode cX4_drawn 0 = .ok (.iload_n 2, 1) := by decide +kernel
theorem dX4_drawn_1 : decode cX4_drawn 1 = .ok (.ifCond .le 15, 3) := by decide +kernel
theorem dX4_drawn_4 : decode cX4_drawn 4 = .ok (.lload_n 0, 1) := by decide +kernel
theorem dX4_drawn_5 : decode cX4_drawn 5 = .ok (.ldc2_w 56, 3) := by decide +kernel
theorem dX4_drawn_8 : decode cX4_drawn 8 = .ok (.ldiv, 1) := by decide +kernel
theorem dX4_drawn_9 : decode cX4_drawn 9 = .ok (.iload_n 2, 1) := by decide +kernel
theorem dX4_drawn_10 : decode cX4_drawn 10 = .ok (.i2l, 1) := by decide +kernel
theorem dX4_drawn_11 : decode cX4_drawn 11 = .ok (.lrem, 1) := by decide +kernel
theorem dX4_drawn_12 : decode cX4_drawn 12 = .ok (.l2i, 1) := by decide +kernel
theorem dX4_drawn_13 : decode cX4_drawn 13 = .ok (.goto 4, 3) := by decide +kernel
theorem dX4_drawn_16 : decode cX4_drawn 16 = .ok (.iconst 0, 1) := by decide +kernel
theorem dX4_drawn_17 : decode cX4_drawn 17 = .ok (.ireturn, 1) := by decide +kernel
theorem dX5_init_0 : decode cX5_init 0 = .ok (.aload_n 0, 1) := by decide +kernel
theorem dX5_init_1 : decode cX5_init 1 = .ok (.invokespecial 3, 3) := by decide +kernel
theorem dX5_init_4 : decode cX5_init 4 = .ok (.aload_n 0, 1) := by decide +kernel
theorem dX5_init_5 : decode cX5_init 5 = .ok (.bipush 28, 2) := by decide +kernel
theorem dX5_init_7 : decode cX5_init 7 = .ok (.newarray .int, 2) := by decide +kernel
theorem dX5_init_9 : decode cX5_init 9 = .ok (.putfield 9, 3) := by decide +kernel
theorem dX5_init_12 : decode cX5_init 12 = .ok (.aload_n 0, 1) := by decide +kernel
theorem dX5_init_13 : decode cX5_init 13 = .ok (.bipush 28, 2) := by decide +kernel
theorem dX5_init_15 : decode cX5_init 15 = .ok (.newarray .long, 2) := by decide +kernel
theorem dX5_init_17 : decode cX5_init 17 = .ok (.putfield 15, 3) := by decide +kernel
theorem dX5_init_20 : decode cX5_init 20 = .ok (.aload_n 0, 1) := by decide +kernel
theorem dX5_init_21 : decode cX5_init 21 = .ok (.iconst 0, 1) := by decide +kernel
theorem dX5_init_22 : decode cX5_init 22 = .ok (.putfield 19, 3) := by decide +kernel
theorem dX5_init_25 : decode cX5_init 25 = .ok (.return_, 1) := by decide +kernel
theorem dX5_take_0 : decode cX5_take 0 = .ok (.aload_n 0, 1) := by decide +kernel
theorem dX5_take_1 : decode cX5_take 1 = .ok (.iconst 0, 1) := by decide +kernel
theorem dX5_take_2 : decode cX5_take 2 = .ok (.putfield 19, 3) := by decide +kernel
theorem dX5_take_5 : decode cX5_take 5 = .ok (.iconst 0, 1) := by decide +kernel
theorem dX5_take_6 : decode cX5_take 6 = .ok (.istore_n 3, 1) := by decide +kernel
theorem dX5_take_7 : decode cX5_take 7 = .ok (.iload_n 3, 1) := by decide +kernel
theorem dX5_take_8 : decode cX5_take 8 = .ok (.iload_n 2, 1) := by decide +kernel
theorem dX5_take_9 : decode cX5_take 9 = .ok (.if_icmp .ge 53, 3) := by decide +kernel
theorem dX5_take_12 : decode cX5_take 12 = .ok (.iload_n 3, 1) := by decide +kernel
theorem dX5_take_13 : decode cX5_take 13 = .ok (.iconst 1, 1) := by decide +kernel
theorem dX5_take_14 : decode cX5_take 14 = .ok (.iadd, 1) := by decide +kernel
theorem dX5_take_15 : decode cX5_take 15 = .ok (.istore 4, 2) := by decide +kernel
theorem dX5_take_17 : decode cX5_take 17 = .ok (.iload 4, 2) := by decide +kernel
theorem dX5_take_19 : decode cX5_take 19 = .ok (.iload_n 2, 1) := by decide +kernel
theorem dX5_take_20 : decode cX5_take 20 = .ok (.if_icmp .ge 36, 3) := by decide +kernel
theorem dX5_take_23 : decode cX5_take 23 = .ok (.aload_n 1, 1) := by decide +kernel
theorem dX5_take_24 : decode cX5_take 24 = .ok (.iload_n 3, 1) := by decide +kernel
theorem dX5_take_25 : decode cX5_take 25 = .ok (.iload 4, 2) := by decide +kernel
theorem dX5_take_27 : decode cX5_take 27 = .ok (.invokevirtual 23, 3) := by decide +kernel
theorem dX5_take_30 : decode cX5_take 30 = .ok (.ifCond .le 20, 3) := by decide +kernel
theorem dX5_take_33 : decode cX5_take 33 = .ok (.aload_n 0, 1) := by decide +kernel
theorem dX5_take_34 : decode cX5_take 34 = .ok (.iload_n 3, 1) := by decide +kernel
theorem dX5_take_35 : decode cX5_take 35 = .ok (.iload 4, 2) := by decide +kernel
theorem dX5_take_37 : decode cX5_take 37 = .ok (.invokestatic 29, 3) := by decide +kernel
theorem dX5_take_40 : decode cX5_take 40 = .ok (.aload_n 1, 1) := by decide +kernel
theorem dX5_take_41 : decode cX5_take 41 = .ok (.iload_n 3, 1) := by decide +kernel
theorem dX5_take_42 : decode cX5_take 42 = .ok (.iload 4, 2) := by decide +kernel
theorem dX5_take_44 : decode cX5_take 44 = .ok (.invokevirtual 32, 3) := by decide +kernel
theorem dX5_take_47 : decode cX5_take 47 = .ok (.invokevirtual 36, 3) := by decide +kernel
theorem dX5_take_50 : decode cX5_take 50 = .ok (.iinc 4 1, 3) := by decide +kernel
theorem dX5_take_53 : decode cX5_take 53 = .ok (.goto (-36), 3) := by decide +kernel
theorem dX5_take_56 : decode cX5_take 56 = .ok (.iinc 3 1, 3) := by decide +kernel
theorem dX5_take_59 : decode cX5_take 59 = .ok (.goto (-52), 3) := by decide +kernel
theorem dX5_take_62 : decode cX5_take 62 = .ok (.return_, 1) := by decide +kernel
theorem dX5_insert_0 : decode cX5_insert 0 = .ok (.aload_n 0, 1) := by decide +kernel
theorem dX5_insert_1 : decode cX5_insert 1 = .ok (.getfield 19, 3) := by decide +kernel
theorem dX5_insert_4 : decode cX5_insert 4 = .ok (.bipush 28, 2) := by decide +kernel
theorem dX5_insert_6 : decode cX5_insert 6 = .ok (.if_icmp .lt 4, 3) := by decide +kernel
theorem dX5_insert_9 : decode cX5_insert 9 = .ok (.return_, 1) := by decide +kernel
theorem dX5_insert_10 : decode cX5_insert 10 = .ok (.aload_n 0, 1) := by decide +kernel
theorem dX5_insert_11 : decode cX5_insert 11 = .ok (.getfield 19, 3) := by decide +kernel
theorem dX5_insert_14 : decode cX5_insert 14 = .ok (.istore 4, 2) := by decide +kernel
theorem dX5_insert_16 : decode cX5_insert 16 = .ok (.iload 4, 2) := by decide +kernel
theorem dX5_insert_18 : decode cX5_insert 18 = .ok (.ifCond .le 55, 3) := by decide +kernel
theorem dX5_insert_21 : decode cX5_insert 21 = .ok (.aload_n 0, 1) := by decide +kernel
theorem dX5_insert_22 : decode cX5_insert 22 = .ok (.getfield 15, 3) := by decide +kernel
theorem dX5_insert_25 : decode cX5_insert 25 = .ok (.iload 4, 2) := by decide +kernel
theorem dX5_insert_27 : decode cX5_insert 27 = .ok (.iconst 1, 1) := by decide +kernel
theorem dX5_insert_28 : decode cX5_insert 28 = .ok (.isub, 1) := by decide +kernel
theorem dX5_insert_29 : decode cX5_insert 29 = .ok (.laload, 1) := by decide +kernel
theorem dX5_insert_30 : decode cX5_insert 30 = .ok (.lload_n 2, 1) := by decide +kernel
theorem dX5_insert_31 : decode cX5_insert 31 = .ok (.lcmp, 1) := by decide +kernel
theorem dX5_insert_32 : decode cX5_insert 32 = .ok (.ifCond .le 41, 3) := by decide +kernel
theorem dX5_insert_35 : decode cX5_insert 35 = .ok (.aload_n 0, 1) := by decide +kernel
theorem dX5_insert_36 : decode cX5_insert 36 = .ok (.getfield 9, 3) := by decide +kernel
theorem dX5_insert_39 : decode cX5_insert 39 = .ok (.iload 4, 2) := by decide +kernel
theorem dX5_insert_41 : decode cX5_insert 41 = .ok (.aload_n 0, 1) := by decide +kernel
theorem dX5_insert_42 : decode cX5_insert 42 = .ok (.getfield 9, 3) := by decide +kernel
theorem dX5_insert_45 : decode cX5_insert 45 = .ok (.iload 4, 2) := by decide +kernel
theorem dX5_insert_47 : decode cX5_insert 47 = .ok (.iconst 1, 1) := by decide +kernel
theorem dX5_insert_48 : decode cX5_insert 48 = .ok (.isub, 1) := by decide +kernel
theorem dX5_insert_49 : decode cX5_insert 49 = .ok (.iaload, 1) := by decide +kernel
theorem dX5_insert_50 : decode cX5_insert 50 = .ok (.iastore, 1) := by decide +kernel
theorem dX5_insert_51 : decode cX5_insert 51 = .ok (.aload_n 0, 1) := by decide +kernel
theorem dX5_insert_52 : decode cX5_insert 52 = .ok (.getfield 15, 3) := by decide +kernel
theorem dX5_insert_55 : decode cX5_insert 55 = .ok (.iload 4, 2) := by decide +kernel
theorem dX5_insert_57 : decode cX5_insert 57 = .ok (.aload_n 0, 1) := by decide +kernel
theorem dX5_insert_58 : decode cX5_insert 58 = .ok (.getfield 15, 3) := by decide +kernel
theorem dX5_insert_61 : decode cX5_insert 61 = .ok (.iload 4, 2) := by decide +kernel
theorem dX5_insert_63 : decode cX5_insert 63 = .ok (.iconst 1, 1) := by decide +kernel
theorem dX5_insert_64 : decode cX5_insert 64 = .ok (.isub, 1) := by decide +kernel
theorem dX5_insert_65 : decode cX5_insert 65 = .ok (.laload, 1) := by decide +kernel
theorem dX5_insert_66 : decode cX5_insert 66 = .ok (.lastore, 1) := by decide +kernel
theorem dX5_insert_67 : decode cX5_insert 67 = .ok (.iinc 4 (-1), 3) := by decide +kernel
theorem dX5_insert_70 : decode cX5_insert 70 = .ok (.goto (-54), 3) := by decide +kernel
theorem dX5_insert_73 : decode cX5_insert 73 = .ok (.aload_n 0, 1) := by decide +kernel
theorem dX5_insert_74 : decode cX5_insert 74 = .ok (.getfield 9, 3) := by decide +kernel
theorem dX5_insert_77 : decode cX5_insert 77 = .ok (.iload 4, 2) := by decide +kernel
theorem dX5_insert_79 : decode cX5_insert 79 = .ok (.iload_n 1, 1) := by decide +kernel
theorem dX5_insert_80 : decode cX5_insert 80 = .ok (.iastore, 1) := by decide +kernel
theorem dX5_insert_81 : decode cX5_insert 81 = .ok (.aload_n 0, 1) := by decide +kernel
theorem dX5_insert_82 : decode cX5_insert 82 = .ok (.getfield 15, 3) := by decide +kernel
theorem dX5_insert_85 : decode cX5_insert 85 = .ok (.iload 4, 2) := by decide +kernel
theorem dX5_insert_87 : decode cX5_insert 87 = .ok (.lload_n 2, 1) := by decide +kernel
theorem dX5_insert_88 : decode cX5_insert 88 = .ok (.lastore, 1) := by decide +kernel
theorem dX5_insert_89 : decode cX5_insert 89 = .ok (.aload_n 0, 1) := by decide +kernel
theorem dX5_insert_90 : decode cX5_insert 90 = .ok (.dup, 1) := by decide +kernel
theorem dX5_insert_91 : decode cX5_insert 91 = .ok (.getfield 19, 3) := by decide +kernel
theorem dX5_insert_94 : decode cX5_insert 94 = .ok (.iconst 1, 1) := by decide +kernel
theorem dX5_insert_95 : decode cX5_insert 95 = .ok (.iadd, 1) := by decide +kernel
theorem dX5_insert_96 : decode cX5_insert 96 = .ok (.putfield 19, 3) := by decide +kernel
theorem dX5_insert_99 : decode cX5_insert 99 = .ok (.return_, 1) := by decide +kernel
theorem dX5_countAt_0 : decode cX5_countAt 0 = .ok (.iconst 0, 1) := by decide +kernel
theorem dX5_countAt_1 : decode cX5_countAt 1 = .ok (.istore_n 2, 1) := by decide +kernel
theorem dX5_countAt_2 : decode cX5_countAt 2 = .ok (.iload_n 2, 1) := by decide +kernel
theorem dX5_countAt_3 : decode cX5_countAt 3 = .ok (.aload_n 0, 1) := by decide +kernel
theorem dX5_countAt_4 : decode cX5_countAt 4 = .ok (.getfield 19, 3) := by decide +kernel
theorem dX5_countAt_7 : decode cX5_countAt 7 = .ok (.if_icmp .ge 37, 3) := by decide +kernel
theorem dX5_countAt_10 : decode cX5_countAt 10 = .ok (.aload_n 0, 1) := by decide +kernel
theorem dX5_countAt_11 : decode cX5_countAt 11 = .ok (.getfield 15, 3) := by decide +kernel
theorem dX5_countAt_14 : decode cX5_countAt 14 = .ok (.iload_n 2, 1) := by decide +kernel
theorem dX5_countAt_15 : decode cX5_countAt 15 = .ok (.laload, 1) := by decide +kernel
theorem dX5_countAt_16 : decode cX5_countAt 16 = .ok (.ldc2_w 40, 3) := by decide +kernel
theorem dX5_countAt_19 : decode cX5_countAt 19 = .ok (.lmul, 1) := by decide +kernel
theorem dX5_countAt_20 : decode cX5_countAt 20 = .ok (.aload_n 0, 1) := by decide +kernel
theorem dX5_countAt_21 : decode cX5_countAt 21 = .ok (.getfield 19, 3) := by decide +kernel
theorem dX5_countAt_24 : decode cX5_countAt 24 = .ok (.iload_n 2, 1) := by decide +kernel
theorem dX5_countAt_25 : decode cX5_countAt 25 = .ok (.isub, 1) := by decide +kernel
theorem dX5_countAt_26 : decode cX5_countAt 26 = .ok (.i2l, 1) := by decide +kernel
theorem dX5_countAt_27 : decode cX5_countAt 27 = .ok (.lmul, 1) := by decide +kernel
theorem dX5_countAt_28 : decode cX5_countAt 28 = .ok (.iload_n 1, 1) := by decide +kernel
theorem dX5_countAt_29 : decode cX5_countAt 29 = .ok (.i2l, 1) := by decide +kernel
theorem dX5_countAt_30 : decode cX5_countAt 30 = .ok (.ldc2_w 42, 3) := by decide +kernel
theorem dX5_countAt_33 : decode cX5_countAt 33 = .ok (.lmul, 1) := by decide +kernel
theorem dX5_countAt_34 : decode cX5_countAt 34 = .ok (.lcmp, 1) := by decide +kernel
theorem dX5_countAt_35 : decode cX5_countAt 35 = .ok (.ifCond .gt 9, 3) := by decide +kernel
theorem dX5_countAt_38 : decode cX5_countAt 38 = .ok (.iinc 2 1, 3) := by decide +kernel
theorem dX5_countAt_41 : decode cX5_countAt 41 = .ok (.goto (-39), 3) := by decide +kernel
theorem dX5_countAt_44 : decode cX5_countAt 44 = .ok (.iload_n 2, 1) := by decide +kernel
theorem dX5_countAt_45 : decode cX5_countAt 45 = .ok (.ireturn, 1) := by decide +kernel
theorem dX5_namedPair_0 : decode cX5_namedPair 0 = .ok (.iload_n 2, 1) := by decide +kernel
theorem dX5_namedPair_1 : decode cX5_namedPair 1 = .ok (.ifCond .lt 11, 3) := by decide +kernel
theorem dX5_namedPair_4 : decode cX5_namedPair 4 = .ok (.iload_n 2, 1) := by decide +kernel
theorem dX5_namedPair_5 : decode cX5_namedPair 5 = .ok (.aload_n 0, 1) := by decide +kernel
theorem dX5_namedPair_6 : decode cX5_namedPair 6 = .ok (.getfield 19, 3) := by decide +kernel
theorem dX5_namedPair_9 : decode cX5_namedPair 9 = .ok (.if_icmp .lt 5, 3) := by decide +kernel
theorem dX5_namedPair_12 : decode cX5_namedPair 12 = .ok (.iconst (-1), 1) := by decide +kernel
theorem dX5_namedPair_13 : decode cX5_namedPair 13 = .ok (.ireturn, 1) := by decide +kernel
theorem dX5_namedPair_14 : decode cX5_namedPair 14 = .ok (.aload_n 0, 1) := by decide +kernel
theorem dX5_namedPair_15 : decode cX5_namedPair 15 = .ok (.getfield 9, 3) := by decide +kernel
theorem dX5_namedPair_18 : decode cX5_namedPair 18 = .ok (.iload_n 2, 1) := by decide +kernel
theorem dX5_namedPair_19 : decode cX5_namedPair 19 = .ok (.iaload, 1) := by decide +kernel
theorem dX5_namedPair_20 : decode cX5_namedPair 20 = .ok (.iconst 3, 1) := by decide +kernel
theorem dX5_namedPair_21 : decode cX5_namedPair 21 = .ok (.ishr, 1) := by decide +kernel
theorem dX5_namedPair_22 : decode cX5_namedPair 22 = .ok (.istore_n 3, 1) := by decide +kernel
theorem dX5_namedPair_23 : decode cX5_namedPair 23 = .ok (.aload_n 0, 1) := by decide +kernel
theorem dX5_namedPair_24 : decode cX5_namedPair 24 = .ok (.getfield 9, 3) := by decide +kernel
theorem dX5_namedPair_27 : decode cX5_namedPair 27 = .ok (.iload_n 2, 1) := by decide +kernel
theorem dX5_namedPair_28 : decode cX5_namedPair 28 = .ok (.iaload, 1) := by decide +kernel
theorem dX5_namedPair_29 : decode cX5_namedPair 29 = .ok (.bipush 7, 2) := by decide +kernel
theorem dX5_namedPair_31 : decode cX5_namedPair 31 = .ok (.iand, 1) := by decide +kernel
theorem dX5_namedPair_32 : decode cX5_namedPair 32 = .ok (.istore 4, 2) := by decide +kernel
theorem dX5_namedPair_34 : decode cX5_namedPair 34 = .ok (.aload_n 1, 1) := by decide +kernel
theorem dX5_namedPair_35 : decode cX5_namedPair 35 = .ok (.iload_n 3, 1) := by decide +kernel
theorem dX5_namedPair_36 : decode cX5_namedPair 36 = .ok (.iload 4, 2) := by decide +kernel
theorem dX5_namedPair_38 : decode cX5_namedPair 38 = .ok (.invokevirtual 44, 3) := by decide +kernel
theorem dX5_namedPair_41 : decode cX5_namedPair 41 = .ok (.aload_n 1, 1) := by decide +kernel
theorem dX5_namedPair_42 : decode cX5_namedPair 42 = .ok (.iload 4, 2) := by decide +kernel
theorem dX5_namedPair_44 : decode cX5_namedPair 44 = .ok (.iload_n 3, 1) := by decide +kernel
theorem dX5_namedPair_45 : decode cX5_namedPair 45 = .ok (.invokevirtual 44, 3) := by decide +kernel
theorem dX5_namedPair_48 : decode cX5_namedPair 48 = .ok (.if_icmp .lt 13, 3) := by decide +kernel
theorem dX5_namedPair_51 : decode cX5_namedPair 51 = .ok (.bipush 10, 2) := by decide +kernel
theorem dX5_namedPair_53 : decode cX5_namedPair 53 = .ok (.iload_n 3, 1) := by decide +kernel
theorem dX5_namedPair_54 : decode cX5_namedPair 54 = .ok (.imul, 1) := by decide +kernel
theorem dX5_namedPair_55 : decode cX5_namedPair 55 = .ok (.iload 4, 2) := by decide +kernel
theorem dX5_namedPair_57 : decode cX5_namedPair 57 = .ok (.iadd, 1) := by decide +kernel
theorem dX5_namedPair_58 : decode cX5_namedPair 58 = .ok (.goto 10, 3) := by decide +kernel
theorem dX5_namedPair_61 : decode cX5_namedPair 61 = .ok (.bipush 10, 2) := by decide +kernel
theorem dX5_namedPair_63 : decode cX5_namedPair 63 = .ok (.iload 4, 2) := by decide +kernel
theorem dX5_namedPair_65 : decode cX5_namedPair 65 = .ok (.imul, 1) := by decide +kernel
theorem dX5_namedPair_66 : decode cX5_namedPair 66 = .ok (.iload_n 3, 1) := by decide +kernel
theorem dX5_namedPair_67 : decode cX5_namedPair 67 = .ok (.iadd, 1) := by decide +kernel
theorem dX5_namedPair_68 : decode cX5_namedPair 68 = .ok (.ireturn, 1) := by decide +kernel
theorem dX6_init_0 : decode cX6_init 0 = .ok (.aload_n 0, 1) := by decide +kernel
theorem dX6_init_1 : decode cX6_init 1 = .ok (.invokespecial 3, 3) := by decide +kernel
theorem dX6_init_4 : decode cX6_init 4 = .ok (.aload_n 0, 1) := by decide +kernel
theorem dX6_init_5 : decode cX6_init 5 = .ok (.iconst 0, 1) := by decide +kernel
theorem dX6_init_6 : decode cX6_init 6 = .ok (.putfield 9, 3) := by decide +kernel
theorem dX6_init_9 : decode cX6_init 9 = .ok (.aload_n 0, 1) := by decide +kernel
theorem dX6_init_10 : decode cX6_init 10 = .ok (.bipush 8, 2) := by decide +kernel
theorem dX6_init_12 : decode cX6_init 12 = .ok (.newarray .int, 2) := by decide +kernel
theorem dX6_init_14 : decode cX6_init 14 = .ok (.putfield 15, 3) := by decide +kernel
theorem dX6_init_17 : decode cX6_init 17 = .ok (.aload_n 0, 1) := by decide +kernel
theorem dX6_init_18 : decode cX6_init 18 = .ok (.new 19, 3) := by decide +kernel
theorem dX6_init_21 : decode cX6_init 21 = .ok (.dup, 1) := by decide +kernel
theorem dX6_init_22 : decode cX6_init 22 = .ok (.invokespecial 21, 3) := by decide +kernel
theorem dX6_init_25 : decode cX6_init 25 = .ok (.putfield 22, 3) := by decide +kernel
theorem dX6_init_28 : decode cX6_init 28 = .ok (.aload_n 0, 1) := by decide +kernel
theorem dX6_init_29 : decode cX6_init 29 = .ok (.bipush 8, 2) := by decide +kernel
theorem dX6_init_31 : decode cX6_init 31 = .ok (.newarray .int, 2) := by decide +kernel
theorem dX6_init_33 : decode cX6_init 33 = .ok (.putfield 26, 3) := by decide +kernel
theorem dX6_init_36 : decode cX6_init 36 = .ok (.aload_n 0, 1) := by decide +kernel
theorem dX6_init_37 : decode cX6_init 37 = .ok (.bipush 8, 2) := by decide +kernel
theorem dX6_init_39 : decode cX6_init 39 = .ok (.newarray .int, 2) := by decide +kernel
theorem dX6_init_41 : decode cX6_init 41 = .ok (.putfield 29, 3) := by decide +kernel
theorem dX6_init_44 : decode cX6_init 44 = .ok (.aload_n 0, 1) := by decide +kernel
theorem dX6_init_45 : decode cX6_init 45 = .ok (.bipush 8, 2) := by decide +kernel
theorem dX6_init_47 : decode cX6_init 47 = .ok (.newarray .int, 2) := by decide +kernel
theorem dX6_init_49 : decode cX6_init 49 = .ok (.putfield 32, 3) := by decide +kernel
theorem dX6_init_52 : decode cX6_init 52 = .ok (.aload_n 0, 1) := by decide +kernel
theorem dX6_init_53 : decode cX6_init 53 = .ok (.bipush 8, 2) := by decide +kernel
theorem dX6_init_55 : decode cX6_init 55 = .ok (.newarray .int, 2) := by decide +kernel
theorem dX6_init_57 : decode cX6_init 57 = .ok (.putfield 35, 3) := by decide +kernel
theorem dX6_init_60 : decode cX6_init 60 = .ok (.aload_n 0, 1) := by decide +kernel
theorem dX6_init_61 : decode cX6_init 61 = .ok (.iconst 0, 1) := by decide +kernel
theorem dX6_init_62 : decode cX6_init 62 = .ok (.putfield 38, 3) := by decide +kernel
theorem dX6_init_65 : decode cX6_init 65 = .ok (.aload_n 0, 1) := by decide +kernel
theorem dX6_init_66 : decode cX6_init 66 = .ok (.iconst 0, 1) := by decide +kernel
theorem dX6_init_67 : decode cX6_init 67 = .ok (.putfield 41, 3) := by decide +kernel
theorem dX6_init_70 : decode cX6_init 70 = .ok (.aload_n 0, 1) := by decide +kernel
theorem dX6_init_71 : decode cX6_init 71 = .ok (.iconst 0, 1) := by decide +kernel
theorem dX6_init_72 : decode cX6_init 72 = .ok (.putfield 44, 3) := by decide +kernel
theorem dX6_init_75 : decode cX6_init 75 = .ok (.aload_n 0, 1) := by decide +kernel
theorem dX6_init_76 : decode cX6_init 76 = .ok (.new 48, 3) := by decide +kernel
theorem dX6_init_79 : decode cX6_init 79 = .ok (.dup, 1) := by decide +kernel
theorem dX6_init_80 : decode cX6_init 80 = .ok (.invokespecial 50, 3) := by decide +kernel
theorem dX6_init_83 : decode cX6_init 83 = .ok (.putfield 51, 3) := by decide +kernel
theorem dX6_init_86 : decode cX6_init 86 = .ok (.return_, 1) := by decide +kernel
theorem dX6_weigh_0 : decode cX6_weigh 0 = .ok (.aload_n 0, 1) := by decide +kernel
theorem dX6_weigh_1 : decode cX6_weigh 1 = .ok (.iload_n 2, 1) := by decide +kernel
theorem dX6_weigh_2 : decode cX6_weigh 2 = .ok (.bipush 8, 2) := by decide +kernel
theorem dX6_weigh_4 : decode cX6_weigh 4 = .ok (.invokestatic 55, 3) := by decide +kernel
theorem dX6_weigh_7 : decode cX6_weigh 7 = .ok (.putfield 9, 3) := by decide +kernel
theorem dX6_weigh_10 : decode cX6_weigh 10 = .ok (.aload_n 0, 1) := by decide +kernel
theorem dX6_weigh_11 : decode cX6_weigh 11 = .ok (.iconst 0, 1) := by decide +kernel
theorem dX6_weigh_12 : decode cX6_weigh 12 = .ok (.putfield 44, 3) := by decide +kernel
theorem dX6_weigh_15 : decode cX6_weigh 15 = .ok (.aload_n 0, 1) := by decide +kernel
theorem dX6_weigh_16 : decode cX6_weigh 16 = .ok (.getfield 51, 3) := by decide +kernel
theorem dX6_weigh_19 : decode cX6_weigh 19 = .ok (.iconst 0, 1) := by decide +kernel
theorem dX6_weigh_20 : decode cX6_weigh 20 = .ok (.putfield 61, 3) := by decide +kernel
theorem dX6_weigh_23 : decode cX6_weigh 23 = .ok (.iconst 0, 1) := by decide +kernel
theorem dX6_weigh_24 : decode cX6_weigh 24 = .ok (.istore 5, 2) := by decide +kernel
theorem dX6_weigh_26 : decode cX6_weigh 26 = .ok (.iload 5, 2) := by decide +kernel
theorem dX6_weigh_28 : decode cX6_weigh 28 = .ok (.bipush 8, 2) := by decide +kernel
theorem dX6_weigh_30 : decode cX6_weigh 30 = .ok (.if_icmp .ge 38, 3) := by decide +kernel
theorem dX6_weigh_33 : decode cX6_weigh 33 = .ok (.aload_n 0, 1) := by decide +kernel
theorem dX6_weigh_34 : decode cX6_weigh 34 = .ok (.getfield 15, 3) := by decide +kernel
theorem dX6_weigh_37 : decode cX6_weigh 37 = .ok (.iload 5, 2) := by decide +kernel
theorem dX6_weigh_39 : decode cX6_weigh 39 = .ok (.iload 5, 2) := by decide +kernel
theorem dX6_weigh_41 : decode cX6_weigh 41 = .ok (.iload 4, 2) := by decide +kernel
theorem dX6_weigh_43 : decode cX6_weigh 43 = .ok (.if_icmp .eq 10, 3) := by decide +kernel
theorem dX6_weigh_46 : decode cX6_weigh 46 = .ok (.iload 5, 2) := by decide +kernel
theorem dX6_weigh_48 : decode cX6_weigh 48 = .ok (.aload_n 3, 1) := by decide +kernel
theorem dX6_weigh_49 : decode cX6_weigh 49 = .ok (.arraylength, 1) := by decide +kernel
theorem dX6_weigh_50 : decode cX6_weigh 50 = .ok (.if_icmp .lt 7, 3) := by decide +kernel
theorem dX6_weigh_53 : decode cX6_weigh 53 = .ok (.iconst 0, 1) := by decide +kernel
theorem dX6_weigh_54 : decode cX6_weigh 54 = .ok (.goto 7, 3) := by decide +kernel
theorem dX6_weigh_57 : decode cX6_weigh 57 = .ok (.aload_n 3, 1) := by decide +kernel
theorem dX6_weigh_58 : decode cX6_weigh 58 = .ok (.iload 5, 2) := by decide +kernel
theorem dX6_weigh_60 : decode cX6_weigh 60 = .ok (.iaload, 1) := by decide +kernel
theorem dX6_weigh_61 : decode cX6_weigh 61 = .ok (.iastore, 1) := by decide +kernel
theorem dX6_weigh_62 : decode cX6_weigh 62 = .ok (.iinc 5 1, 3) := by decide +kernel
theorem dX6_weigh_65 : decode cX6_weigh 65 = .ok (.goto (-39), 3) := by decide +kernel
theorem dX6_weigh_68 : decode cX6_weigh 68 = .ok (.aload_n 0, 1) := by decide +kernel
theorem dX6_weigh_69 : decode cX6_weigh 69 = .ok (.getfield 22, 3) := by decide +kernel
theorem dX6_weigh_72 : decode cX6_weigh 72 = .ok (.invokevirtual 64, 3) := by decide +kernel
theorem dX6_weigh_75 : decode cX6_weigh 75 = .ok (.aload_n 0, 1) := by decide +kernel
theorem dX6_weigh_76 : decode cX6_weigh 76 = .ok (.getfield 26, 3) := by decide +kernel
theorem dX6_weigh_79 : decode cX6_weigh 79 = .ok (.iconst 0, 1) := by decide +kernel
theorem dX6_weigh_80 : decode cX6_weigh 80 = .ok (.invokestatic 67, 3) := by decide +kernel
theorem dX6_weigh_83 : decode cX6_weigh 83 = .ok (.iconst 0, 1) := by decide +kernel
theorem dX6_weigh_84 : decode cX6_weigh 84 = .ok (.istore 5, 2) := by decide +kernel
theorem dX6_weigh_86 : decode cX6_weigh 86 = .ok (.iload 5, 2) := by decide +kernel
theorem dX6_weigh_88 : decode cX6_weigh 88 = .ok (.aload_n 1, 1) := by decide +kernel
theorem dX6_weigh_89 : decode cX6_weigh 89 = .ok (.getfield 73, 3) := by decide +kernel
theorem dX6_weigh_92 : decode cX6_weigh 92 = .ok (.if_icmp .ge 51, 3) := by decide +kernel
theorem dX6_weigh_95 : decode cX6_weigh 95 = .ok (.aload_n 1, 1) := by decide +kernel
theorem dX6_weigh_96 : decode cX6_weigh 96 = .ok (.iload 5, 2) := by decide +kernel
theorem dX6_weigh_98 : decode cX6_weigh 98 = .ok (.invokevirtual 78, 3) := by decide +kernel
theorem dX6_weigh_101 : decode cX6_weigh 101 = .ok (.istore 6, 2) := by decide +kernel
theorem dX6_weigh_103 : decode cX6_weigh 103 = .ok (.aload_n 0, 1) := by decide +kernel
theorem dX6_weigh_104 : decode cX6_weigh 104 = .ok (.getfield 15, 3) := by decide +kernel
theorem dX6_weigh_107 : decode cX6_weigh 107 = .ok (.iload 6, 2) := by decide +kernel
theorem dX6_weigh_109 : decode cX6_weigh 109 = .ok (.invokestatic 82, 3) := by decide +kernel
theorem dX6_weigh_112 : decode cX6_weigh 112 = .ok (.iaload, 1) := by decide +kernel
theorem dX6_weigh_113 : decode cX6_weigh 113 = .ok (.istore 7, 2) := by decide +kernel
theorem dX6_weigh_115 : decode cX6_weigh 115 = .ok (.aload_n 0, 1) := by decide +kernel
theorem dX6_weigh_116 : decode cX6_weigh 116 = .ok (.getfield 22, 3) := by decide +kernel
theorem dX6_weigh_119 : decode cX6_weigh 119 = .ok (.iload 6, 2) := by decide +kernel
theorem dX6_weigh_121 : decode cX6_weigh 121 = .ok (.iload 7, 2) := by decide +kernel
theorem dX6_weigh_123 : decode cX6_weigh 123 = .ok (.invokevirtual 85, 3) := by decide +kernel
theorem dX6_weigh_126 : decode cX6_weigh 126 = .ok (.aload_n 0, 1) := by decide +kernel
theorem dX6_weigh_127 : decode cX6_weigh 127 = .ok (.getfield 26, 3) := by decide +kernel
theorem dX6_weigh_130 : decode cX6_weigh 130 = .ok (.iload 6, 2) := by decide +kernel
theorem dX6_weigh_132 : decode cX6_weigh 132 = .ok (.iload 7, 2) := by decide +kernel
theorem dX6_weigh_134 : decode cX6_weigh 134 = .ok (.invokestatic 89, 3) := by decide +kernel
theorem dX6_weigh_137 : decode cX6_weigh 137 = .ok (.iinc 5 1, 3) := by decide +kernel
theorem dX6_weigh_140 : decode cX6_weigh 140 = .ok (.goto (-54), 3) := by decide +kernel
theorem dX6_weigh_143 : decode cX6_weigh 143 = .ok (.return_, 1) := by decide +kernel
theorem dX6_propertyOf_0 : decode cX6_propertyOf 0 = .ok (.iload_n 3, 1) := by decide +kernel
theorem dX6_propertyOf_1 : decode cX6_propertyOf 1 = .ok (.tableswitch 90 0 4 #[35, 45, 55, 70, 76], 35) := by decide +kernel
theorem dX6_propertyOf_36 : decode cX6_propertyOf 36 = .ok (.aload_n 0, 1) := by decide +kernel
theorem dX6_propertyOf_37 : decode cX6_propertyOf 37 = .ok (.getfield 26, 3) := by decide +kernel
theorem dX6_propertyOf_40 : decode cX6_propertyOf 40 = .ok (.iload_n 2, 1) := by decide +kernel
theorem dX6_propertyOf_41 : decode cX6_propertyOf 41 = .ok (.bipush 7, 2) := by decide +kernel
theorem dX6_propertyOf_43 : decode cX6_propertyOf 43 = .ok (.iand, 1) := by decide +kernel
theorem dX6_propertyOf_44 : decode cX6_propertyOf 44 = .ok (.iaload, 1) := by decide +kernel
theorem dX6_propertyOf_45 : decode cX6_propertyOf 45 = .ok (.ireturn, 1) := by decide +kernel
theorem dX6_propertyOf_46 : decode cX6_propertyOf 46 = .ok (.aload_n 0, 1) := by decide +kernel
theorem dX6_propertyOf_47 : decode cX6_propertyOf 47 = .ok (.aload_n 0, 1) := by decide +kernel
theorem dX6_propertyOf_48 : decode cX6_propertyOf 48 = .ok (.getfield 26, 3) := by decide +kernel
theorem dX6_propertyOf_51 : decode cX6_propertyOf 51 = .ok (.iload_n 2, 1) := by decide +kernel
theorem dX6_propertyOf_52 : decode cX6_propertyOf 52 = .ok (.invokevirtual 93, 3) := by decide +kernel
theorem dX6_propertyOf_55 : decode cX6_propertyOf 55 = .ok (.ireturn, 1) := by decide +kernel
theorem dX6_propertyOf_56 : decode cX6_propertyOf 56 = .ok (.aload_n 0, 1) := by decide +kernel
theorem dX6_propertyOf_57 : decode cX6_propertyOf 57 = .ok (.aload_n 1, 1) := by decide +kernel
theorem dX6_propertyOf_58 : decode cX6_propertyOf 58 = .ok (.iload_n 2, 1) := by decide +kernel
theorem dX6_propertyOf_59 : decode cX6_propertyOf 59 = .ok (.invokevirtual 97, 3) := by decide +kernel
theorem dX6_propertyOf_62 : decode cX6_propertyOf 62 = .ok (.ifCond .eq 7, 3) := by decide +kernel
theorem dX6_propertyOf_65 : decode cX6_propertyOf 65 = .ok (.iconst 1, 1) := by decide +kernel
theorem dX6_propertyOf_66 : decode cX6_propertyOf 66 = .ok (.goto 4, 3) := by decide +kernel
theorem dX6_propertyOf_69 : decode cX6_propertyOf 69 = .ok (.iconst 0, 1) := by decide +kernel
theorem dX6_propertyOf_70 : decode cX6_propertyOf 70 = .ok (.ireturn, 1) := by decide +kernel
theorem dX6_propertyOf_71 : decode cX6_propertyOf 71 = .ok (.aload_n 0, 1) := by decide +kernel
theorem dX6_propertyOf_72 : decode cX6_propertyOf 72 = .ok (.iload_n 2, 1) := by decide +kernel
theorem dX6_propertyOf_73 : decode cX6_propertyOf 73 = .ok (.invokevirtual 101, 3) := by decide +kernel
theorem dX6_propertyOf_76 : decode cX6_propertyOf 76 = .ok (.ireturn, 1) := by decide +kernel
theorem dX6_propertyOf_77 : decode cX6_propertyOf 77 = .ok (.aload_n 0, 1) := by decide +kernel
theorem dX6_propertyOf_78 : decode cX6_propertyOf 78 = .ok (.invokevirtual 104, 3) := by decide +kernel
theorem dX6_propertyOf_81 : decode cX6_propertyOf 81 = .ok (.aload_n 0, 1) := by decide +kernel
theorem dX6_propertyOf_82 : decode cX6_propertyOf 82 = .ok (.getfield 35, 3) := by decide +kernel
theorem dX6_propertyOf_85 : decode cX6_propertyOf 85 = .ok (.iload_n 2, 1) := by decide +kernel
theorem dX6_propertyOf_86 : decode cX6_propertyOf 86 = .ok (.bipush 7, 2) := by decide +kernel
theorem dX6_propertyOf_88 : decode cX6_propertyOf 88 = .ok (.iand, 1) := by decide +kernel
theorem dX6_propertyOf_89 : decode cX6_propertyOf 89 = .ok (.iaload, 1) := by decide +kernel
theorem dX6_propertyOf_90 : decode cX6_propertyOf 90 = .ok (.ireturn, 1) := by decide +kernel
theorem dX6_propertyOf_91 : decode cX6_propertyOf 91 = .ok (.aload_n 0, 1) := by decide +kernel
theorem dX6_propertyOf_92 : decode cX6_propertyOf 92 = .ok (.getfield 51, 3) := by decide +kernel
theorem dX6_propertyOf_95 : decode cX6_propertyOf 95 = .ok (.aload_n 0, 1) := by decide +kernel
theorem dX6_propertyOf_96 : decode cX6_propertyOf 96 = .ok (.getfield 22, 3) := by decide +kernel
theorem dX6_propertyOf_99 : decode cX6_propertyOf 99 = .ok (.aload_n 0, 1) := by decide +kernel
theorem dX6_propertyOf_100 : decode cX6_propertyOf 100 = .ok (.getfield 9, 3) := by decide +kernel
theorem dX6_propertyOf_103 : decode cX6_propertyOf 103 = .ok (.invokevirtual 107, 3) := by decide +kernel
theorem dX6_propertyOf_106 : decode cX6_propertyOf 106 = .ok (.aload_n 0, 1) := by decide +kernel
theorem dX6_propertyOf_107 : decode cX6_propertyOf 107 = .ok (.getfield 51, 3) := by decide +kernel
theorem dX6_propertyOf_110 : decode cX6_propertyOf 110 = .ok (.iload_n 2, 1) := by decide +kernel
theorem dX6_propertyOf_111 : decode cX6_propertyOf 111 = .ok (.invokevirtual 111, 3) := by decide +kernel
theorem dX6_propertyOf_114 : decode cX6_propertyOf 114 = .ok (.ireturn, 1) := by decide +kernel
theorem dX6_numberOf_0 : decode cX6_numberOf 0 = .ok (.iload_n 2, 1) := by decide +kernel
theorem dX6_numberOf_1 : decode cX6_numberOf 1 = .ok (.tableswitch 111 0 4 #[35, 58, 81, 90, 99], 35) := by decide +kernel
theorem dX6_numberOf_36 : decode cX6_numberOf 36 = .ok (.aload_n 0, 1) := by decide +kernel
theorem dX6_numberOf_37 : decode cX6_numberOf 37 = .ok (.getfield 51, 3) := by decide +kernel
theorem dX6_numberOf_40 : decode cX6_numberOf 40 = .ok (.aload_n 0, 1) := by decide +kernel
theorem dX6_numberOf_41 : decode cX6_numberOf 41 = .ok (.getfield 22, 3) := by decide +kernel
theorem dX6_numberOf_44 : decode cX6_numberOf 44 = .ok (.aload_n 0, 1) := by decide +kernel
theorem dX6_numberOf_45 : decode cX6_numberOf 45 = .ok (.getfield 9, 3) := by decide +kernel
theorem dX6_numberOf_48 : decode cX6_numberOf 48 = .ok (.invokevirtual 107, 3) := by decide +kernel
theorem dX6_numberOf_51 : decode cX6_numberOf 51 = .ok (.aload_n 0, 1) := by decide +kernel
theorem dX6_numberOf_52 : decode cX6_numberOf 52 = .ok (.getfield 51, 3) := by decide +kernel
theorem dX6_numberOf_55 : decode cX6_numberOf 55 = .ok (.getfield 114, 3) := by decide +kernel
theorem dX6_numberOf_58 : decode cX6_numberOf 58 = .ok (.ireturn, 1) := by decide +kernel
theorem dX6_numberOf_59 : decode cX6_numberOf 59 = .ok (.aload_n 0, 1) := by decide +kernel
theorem dX6_numberOf_60 : decode cX6_numberOf 60 = .ok (.getfield 51, 3) := by decide +kernel
theorem dX6_numberOf_63 : decode cX6_numberOf 63 = .ok (.aload_n 0, 1) := by decide +kernel
theorem dX6_numberOf_64 : decode cX6_numberOf 64 = .ok (.getfield 22, 3) := by decide +kernel
theorem dX6_numberOf_67 : decode cX6_numberOf 67 = .ok (.aload_n 0, 1) := by decide +kernel
theorem dX6_numberOf_68 : decode cX6_numberOf 68 = .ok (.getfield 9, 3) := by decide +kernel
theorem dX6_numberOf_71 : decode cX6_numberOf 71 = .ok (.invokevirtual 107, 3) := by decide +kernel
theorem dX6_numberOf_74 : decode cX6_numberOf 74 = .ok (.aload_n 0, 1) := by decide +kernel
theorem dX6_numberOf_75 : decode cX6_numberOf 75 = .ok (.getfield 51, 3) := by decide +kernel
theorem dX6_numberOf_78 : decode cX6_numberOf 78 = .ok (.getfield 117, 3) := by decide +kernel
theorem dX6_numberOf_81 : decode cX6_numberOf 81 = .ok (.ireturn, 1) := by decide +kernel
theorem dX6_numberOf_82 : decode cX6_numberOf 82 = .ok (.aload_n 0, 1) := by decide +kernel
theorem dX6_numberOf_83 : decode cX6_numberOf 83 = .ok (.invokevirtual 104, 3) := by decide +kernel
theorem dX6_numberOf_86 : decode cX6_numberOf 86 = .ok (.aload_n 0, 1) := by decide +kernel
theorem dX6_numberOf_87 : decode cX6_numberOf 87 = .ok (.getfield 38, 3) := by decide +kernel
theorem dX6_numberOf_90 : decode cX6_numberOf 90 = .ok (.ireturn, 1) := by decide +kernel
theorem dX6_numberOf_91 : decode cX6_numberOf 91 = .ok (.aload_n 0, 1) := by decide +kernel
theorem dX6_numberOf_92 : decode cX6_numberOf 92 = .ok (.invokevirtual 104, 3) := by decide +kernel
theorem dX6_numberOf_95 : decode cX6_numberOf 95 = .ok (.aload_n 0, 1) := by decide +kernel
theorem dX6_numberOf_96 : decode cX6_numberOf 96 = .ok (.getfield 41, 3) := by decide +kernel
theorem dX6_numberOf_99 : decode cX6_numberOf 99 = .ok (.ireturn, 1) := by decide +kernel
theorem dX6_numberOf_100 : decode cX6_numberOf 100 = .ok (.aload_n 0, 1) := by decide +kernel
theorem dX6_numberOf_101 : decode cX6_numberOf 101 = .ok (.getfield 22, 3) := by decide +kernel
theorem dX6_numberOf_104 : decode cX6_numberOf 104 = .ok (.aload_n 0, 1) := by decide +kernel
theorem dX6_numberOf_105 : decode cX6_numberOf 105 = .ok (.getfield 9, 3) := by decide +kernel
theorem dX6_numberOf_108 : decode cX6_numberOf 108 = .ok (.invokevirtual 120, 3) := by decide +kernel
theorem dX6_numberOf_111 : decode cX6_numberOf 111 = .ok (.ireturn, 1) := by decide +kernel
theorem dX6_numberOf_112 : decode cX6_numberOf 112 = .ok (.aload_n 0, 1) := by decide +kernel
theorem dX6_numberOf_113 : decode cX6_numberOf 113 = .ok (.aload_n 1, 1) := by decide +kernel
theorem dX6_numberOf_114 : decode cX6_numberOf 114 = .ok (.invokevirtual 123, 3) := by decide +kernel
theorem dX6_numberOf_117 : decode cX6_numberOf 117 = .ok (.ireturn, 1) := by decide +kernel
theorem dX6_sampleAt_0 : decode cX6_sampleAt 0 = .ok (.aload_n 0, 1) := by decide +kernel
theorem dX6_sampleAt_1 : decode cX6_sampleAt 1 = .ok (.getfield 51, 3) := by decide +kernel
theorem dX6_sampleAt_4 : decode cX6_sampleAt 4 = .ok (.aload_n 0, 1) := by decide +kernel
theorem dX6_sampleAt_5 : decode cX6_sampleAt 5 = .ok (.getfield 22, 3) := by decide +kernel
theorem dX6_sampleAt_8 : decode cX6_sampleAt 8 = .ok (.aload_n 0, 1) := by decide +kernel
theorem dX6_sampleAt_9 : decode cX6_sampleAt 9 = .ok (.getfield 9, 3) := by decide +kernel
theorem dX6_sampleAt_12 : decode cX6_sampleAt 12 = .ok (.invokevirtual 107, 3) := by decide +kernel
theorem dX6_sampleAt_15 : decode cX6_sampleAt 15 = .ok (.aload_n 0, 1) := by decide +kernel
theorem dX6_sampleAt_16 : decode cX6_sampleAt 16 = .ok (.getfield 51, 3) := by decide +kernel
theorem dX6_sampleAt_19 : decode cX6_sampleAt 19 = .ok (.iload_n 1, 1) := by decide +kernel
theorem dX6_sampleAt_20 : decode cX6_sampleAt 20 = .ok (.invokevirtual 127, 3) := by decide +kernel
theorem dX6_sampleAt_23 : decode cX6_sampleAt 23 = .ok (.ireturn, 1) := by decide +kernel
theorem dX6_addPoints_0 : decode cX6_addPoints 0 = .ok (.iload_n 1, 1) := by decide +kernel
theorem dX6_addPoints_1 : decode cX6_addPoints 1 = .ok (.invokestatic 130, 3) := by decide +kernel
theorem dX6_addPoints_4 : decode cX6_addPoints 4 = .ok (.istore_n 3, 1) := by decide +kernel
theorem dX6_addPoints_5 : decode cX6_addPoints 5 = .ok (.iload_n 3, 1) := by decide +kernel
theorem dX6_addPoints_6 : decode cX6_addPoints 6 = .ok (.ifCond .ne 7, 3) := by decide +kernel
theorem dX6_addPoints_9 : decode cX6_addPoints 9 = .ok (.iconst 1, 1) := by decide +kernel
theorem dX6_addPoints_10 : decode cX6_addPoints 10 = .ok (.goto 13, 3) := by decide +kernel
theorem dX6_addPoints_13 : decode cX6_addPoints 13 = .ok (.iload_n 3, 1) := by decide +kernel
theorem dX6_addPoints_14 : decode cX6_addPoints 14 = .ok (.iconst 1, 1) := by decide +kernel
theorem dX6_addPoints_15 : decode cX6_addPoints 15 = .ok (.if_icmp .ne 7, 3) := by decide +kernel
theorem dX6_addPoints_18 : decode cX6_addPoints 18 = .ok (.iconst 2, 1) := by decide +kernel
theorem dX6_addPoints_19 : decode cX6_addPoints 19 = .ok (.goto 4, 3) := by decide +kernel
theorem dX6_addPoints_22 : decode cX6_addPoints 22 = .ok (.iconst 0, 1) := by decide +kernel
theorem dX6_addPoints_23 : decode cX6_addPoints 23 = .ok (.istore 4, 2) := by decide +kernel
theorem dX6_addPoints_25 : decode cX6_addPoints 25 = .ok (.aload_n 0, 1) := by decide +kernel
theorem dX6_addPoints_26 : decode cX6_addPoints 26 = .ok (.arraylength, 1) := by decide +kernel
theorem dX6_addPoints_27 : decode cX6_addPoints 27 = .ok (.bipush 8, 2) := by decide +kernel
theorem dX6_addPoints_29 : decode cX6_addPoints 29 = .ok (.if_icmp .lt 31, 3) := by decide +kernel
theorem dX6_addPoints_32 : decode cX6_addPoints 32 = .ok (.aload_n 0, 1) := by decide +kernel
theorem dX6_addPoints_33 : decode cX6_addPoints 33 = .ok (.iload_n 1, 1) := by decide +kernel
theorem dX6_addPoints_34 : decode cX6_addPoints 34 = .ok (.invokestatic 133, 3) := by decide +kernel
theorem dX6_addPoints_37 : decode cX6_addPoints 37 = .ok (.dup2, 1) := by decide +kernel
theorem dX6_addPoints_38 : decode cX6_addPoints 38 = .ok (.iaload, 1) := by decide +kernel
theorem dX6_addPoints_39 : decode cX6_addPoints 39 = .ok (.iload 4, 2) := by decide +kernel
theorem dX6_addPoints_41 : decode cX6_addPoints 41 = .ok (.iload_n 2, 1) := by decide +kernel
theorem dX6_addPoints_42 : decode cX6_addPoints 42 = .ok (.imul, 1) := by decide +kernel
theorem dX6_addPoints_43 : decode cX6_addPoints 43 = .ok (.iadd, 1) := by decide +kernel
theorem dX6_addPoints_44 : decode cX6_addPoints 44 = .ok (.iastore, 1) := by decide +kernel
theorem dX6_addPoints_45 : decode cX6_addPoints 45 = .ok (.aload_n 0, 1) := by decide +kernel
theorem dX6_addPoints_46 : decode cX6_addPoints 46 = .ok (.iload_n 1, 1) := by decide +kernel
theorem dX6_addPoints_47 : decode cX6_addPoints 47 = .ok (.invokestatic 136, 3) := by decide +kernel
theorem dX6_addPoints_50 : decode cX6_addPoints 50 = .ok (.dup2, 1) := by decide +kernel
theorem dX6_addPoints_51 : decode cX6_addPoints 51 = .ok (.iaload, 1) := by decide +kernel
theorem dX6_addPoints_52 : decode cX6_addPoints 52 = .ok (.iconst 2, 1) := by decide +kernel
theorem dX6_addPoints_53 : decode cX6_addPoints 53 = .ok (.iload 4, 2) := by decide +kernel
theorem dX6_addPoints_55 : decode cX6_addPoints 55 = .ok (.isub, 1) := by decide +kernel
theorem dX6_addPoints_56 : decode cX6_addPoints 56 = .ok (.iload_n 2, 1) := by decide +kernel
theorem dX6_addPoints_57 : decode cX6_addPoints 57 = .ok (.imul, 1) := by decide +kernel
theorem dX6_addPoints_58 : decode cX6_addPoints 58 = .ok (.iadd, 1) := by decide +kernel
theorem dX6_addPoints_59 : decode cX6_addPoints 59 = .ok (.iastore, 1) := by decide +kernel
theorem dX6_addPoints_60 : decode cX6_addPoints 60 = .ok (.return_, 1) := by decide +kernel
theorem dX6_rankIn_0 : decode cX6_rankIn 0 = .ok (.iconst 1, 1) := by decide +kernel
theorem dX6_rankIn_1 : decode cX6_rankIn 1 = .ok (.istore_n 3, 1) := by decide +kernel
theorem dX6_rankIn_2 : decode cX6_rankIn 2 = .ok (.iconst 0, 1) := by decide +kernel
theorem dX6_rankIn_3 : decode cX6_rankIn 3 = .ok (.istore 4, 2) := by decide +kernel
theorem dX6_rankIn_5 : decode cX6_rankIn 5 = .ok (.iload 4, 2) := by decide +kernel
theorem dX6_rankIn_7 : decode cX6_rankIn 7 = .ok (.aload_n 0, 1) := by decide +kernel
theorem dX6_rankIn_8 : decode cX6_rankIn 8 = .ok (.getfield 9, 3) := by decide +kernel
theorem dX6_rankIn_11 : decode cX6_rankIn 11 = .ok (.if_icmp .ge 32, 3) := by decide +kernel
theorem dX6_rankIn_14 : decode cX6_rankIn 14 = .ok (.iload 4, 2) := by decide +kernel
theorem dX6_rankIn_16 : decode cX6_rankIn 16 = .ok (.aload_n 1, 1) := by decide +kernel
theorem dX6_rankIn_17 : decode cX6_rankIn 17 = .ok (.arraylength, 1) := by decide +kernel
theorem dX6_rankIn_18 : decode cX6_rankIn 18 = .ok (.if_icmp .ge 25, 3) := by decide +kernel
theorem dX6_rankIn_21 : decode cX6_rankIn 21 = .ok (.aload_n 1, 1) := by decide +kernel
theorem dX6_rankIn_22 : decode cX6_rankIn 22 = .ok (.iload 4, 2) := by decide +kernel
theorem dX6_rankIn_24 : decode cX6_rankIn 24 = .ok (.iaload, 1) := by decide +kernel
theorem dX6_rankIn_25 : decode cX6_rankIn 25 = .ok (.aload_n 1, 1) := by decide +kernel
theorem dX6_rankIn_26 : decode cX6_rankIn 26 = .ok (.iload_n 2, 1) := by decide +kernel
theorem dX6_rankIn_27 : decode cX6_rankIn 27 = .ok (.bipush 7, 2) := by decide +kernel
theorem dX6_rankIn_29 : decode cX6_rankIn 29 = .ok (.iand, 1) := by decide +kernel
theorem dX6_rankIn_30 : decode cX6_rankIn 30 = .ok (.iaload, 1) := by decide +kernel
theorem dX6_rankIn_31 : decode cX6_rankIn 31 = .ok (.if_icmp .le 6, 3) := by decide +kernel
theorem dX6_rankIn_34 : decode cX6_rankIn 34 = .ok (.iinc 3 1, 3) := by decide +kernel
theorem dX6_rankIn_37 : decode cX6_rankIn 37 = .ok (.iinc 4 1, 3) := by decide +kernel
theorem dX6_rankIn_40 : decode cX6_rankIn 40 = .ok (.goto (-35), 3) := by decide +kernel
theorem dX6_rankIn_43 : decode cX6_rankIn 43 = .ok (.iload_n 3, 1) := by decide +kernel
theorem dX6_rankIn_44 : decode cX6_rankIn 44 = .ok (.ireturn, 1) := by decide +kernel
theorem dX6_isStable_0 : decode cX6_isStable 0 = .ok (.aload_n 0, 1) := by decide +kernel
theorem dX6_isStable_1 : decode cX6_isStable 1 = .ok (.aload_n 0, 1) := by decide +kernel
theorem dX6_isStable_2 : decode cX6_isStable 2 = .ok (.getfield 26, 3) := by decide +kernel
theorem dX6_isStable_5 : decode cX6_isStable 5 = .ok (.iload_n 2, 1) := by decide +kernel
theorem dX6_isStable_6 : decode cX6_isStable 6 = .ok (.invokevirtual 93, 3) := by decide +kernel
theorem dX6_isStable_9 : decode cX6_isStable 9 = .ok (.istore_n 3, 1) := by decide +kernel
theorem dX6_isStable_10 : decode cX6_isStable 10 = .ok (.iconst 0, 1) := by decide +kernel
theorem dX6_isStable_11 : decode cX6_isStable 11 = .ok (.istore 4, 2) := by decide +kernel
theorem dX6_isStable_13 : decode cX6_isStable 13 = .ok (.iload 4, 2) := by decide +kernel
theorem dX6_isStable_15 : decode cX6_isStable 15 = .ok (.aload_n 1, 1) := by decide +kernel
theorem dX6_isStable_16 : decode cX6_isStable 16 = .ok (.getfield 73, 3) := by decide +kernel
theorem dX6_isStable_19 : decode cX6_isStable 19 = .ok (.if_icmp .ge 67, 3) := by decide +kernel
theorem dX6_isStable_22 : decode cX6_isStable 22 = .ok (.aload_n 1, 1) := by decide +kernel
theorem dX6_isStable_23 : decode cX6_isStable 23 = .ok (.iload 4, 2) := by decide +kernel
theorem dX6_isStable_25 : decode cX6_isStable 25 = .ok (.invokevirtual 78, 3) := by decide +kernel
theorem dX6_isStable_28 : decode cX6_isStable 28 = .ok (.istore 5, 2) := by decide +kernel
theorem dX6_isStable_30 : decode cX6_isStable 30 = .ok (.aload_n 0, 1) := by decide +kernel
theorem dX6_isStable_31 : decode cX6_isStable 31 = .ok (.getfield 26, 3) := by decide +kernel
theorem dX6_isStable_34 : decode cX6_isStable 34 = .ok (.iconst 0, 1) := by decide +kernel
theorem dX6_isStable_35 : decode cX6_isStable 35 = .ok (.aload_n 0, 1) := by decide +kernel
theorem dX6_isStable_36 : decode cX6_isStable 36 = .ok (.getfield 29, 3) := by decide +kernel
