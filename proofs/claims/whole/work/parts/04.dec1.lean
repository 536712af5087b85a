theorem dX6_isStable_39 : decode cX6_isStable 39 = .ok (.iconst 0, 1) := by decide +kernel
theorem dX6_isStable_40 : decode cX6_isStable 40 = .ok (.bipush 8, 2) := by decide +kernel
theorem dX6_isStable_42 : decode cX6_isStable 42 = .ok (.invokestatic 139, 3) := by decide +kernel
theorem dX6_isStable_45 : decode cX6_isStable 45 = .ok (.aload_n 0, 1) := by decide +kernel
theorem dX6_isStable_46 : decode cX6_isStable 46 = .ok (.getfield 29, 3) := by decide +kernel
theorem dX6_isStable_49 : decode cX6_isStable 49 = .ok (.iload 5, 2) := by decide +kernel
theorem dX6_isStable_51 : decode cX6_isStable 51 = .ok (.aload_n 0, 1) := by decide +kernel
theorem dX6_isStable_52 : decode cX6_isStable 52 = .ok (.getfield 15, 3) := by decide +kernel
theorem dX6_isStable_55 : decode cX6_isStable 55 = .ok (.iload 5, 2) := by decide +kernel
theorem dX6_isStable_57 : decode cX6_isStable 57 = .ok (.invokestatic 82, 3) := by decide +kernel
theorem dX6_isStable_60 : decode cX6_isStable 60 = .ok (.iaload, 1) := by decide +kernel
theorem dX6_isStable_61 : decode cX6_isStable 61 = .ok (.ineg, 1) := by decide +kernel
theorem dX6_isStable_62 : decode cX6_isStable 62 = .ok (.invokestatic 89, 3) := by decide +kernel
theorem dX6_isStable_65 : decode cX6_isStable 65 = .ok (.aload_n 0, 1) := by decide +kernel
theorem dX6_isStable_66 : decode cX6_isStable 66 = .ok (.aload_n 0, 1) := by decide +kernel
theorem dX6_isStable_67 : decode cX6_isStable 67 = .ok (.getfield 29, 3) := by decide +kernel
theorem dX6_isStable_70 : decode cX6_isStable 70 = .ok (.iload_n 2, 1) := by decide +kernel
theorem dX6_isStable_71 : decode cX6_isStable 71 = .ok (.invokevirtual 93, 3) := by decide +kernel
theorem dX6_isStable_74 : decode cX6_isStable 74 = .ok (.iload_n 3, 1) := by decide +kernel
theorem dX6_isStable_75 : decode cX6_isStable 75 = .ok (.if_icmp .eq 5, 3) := by decide +kernel
theorem dX6_isStable_78 : decode cX6_isStable 78 = .ok (.iconst 0, 1) := by decide +kernel
theorem dX6_isStable_79 : decode cX6_isStable 79 = .ok (.ireturn, 1) := by decide +kernel
theorem dX6_isStable_80 : decode cX6_isStable 80 = .ok (.iinc 4 1, 3) := by decide +kernel
theorem dX6_isStable_83 : decode cX6_isStable 83 = .ok (.goto (-70), 3) := by decide +kernel
theorem dX6_isStable_86 : decode cX6_isStable 86 = .ok (.iconst 1, 1) := by decide +kernel
theorem dX6_isStable_87 : decode cX6_isStable 87 = .ok (.ireturn, 1) := by decide +kernel
theorem dX6_countStable_0 : decode cX6_countStable 0 = .ok (.iconst 0, 1) := by decide +kernel
theorem dX6_countStable_1 : decode cX6_countStable 1 = .ok (.istore_n 2, 1) := by decide +kernel
theorem dX6_countStable_2 : decode cX6_countStable 2 = .ok (.iconst 0, 1) := by decide +kernel
theorem dX6_countStable_3 : decode cX6_countStable 3 = .ok (.istore_n 3, 1) := by decide +kernel
theorem dX6_countStable_4 : decode cX6_countStable 4 = .ok (.iload_n 3, 1) := by decide +kernel
theorem dX6_countStable_5 : decode cX6_countStable 5 = .ok (.aload_n 0, 1) := by decide +kernel
theorem dX6_countStable_6 : decode cX6_countStable 6 = .ok (.getfield 9, 3) := by decide +kernel
theorem dX6_countStable_9 : decode cX6_countStable 9 = .ok (.if_icmp .ge 21, 3) := by decide +kernel
theorem dX6_countStable_12 : decode cX6_countStable 12 = .ok (.aload_n 0, 1) := by decide +kernel
theorem dX6_countStable_13 : decode cX6_countStable 13 = .ok (.aload_n 1, 1) := by decide +kernel
theorem dX6_countStable_14 : decode cX6_countStable 14 = .ok (.iload_n 3, 1) := by decide +kernel
theorem dX6_countStable_15 : decode cX6_countStable 15 = .ok (.invokevirtual 97, 3) := by decide +kernel
theorem dX6_countStable_18 : decode cX6_countStable 18 = .ok (.ifCond .eq 6, 3) := by decide +kernel
theorem dX6_countStable_21 : decode cX6_countStable 21 = .ok (.iinc 2 1, 3) := by decide +kernel
theorem dX6_countStable_24 : decode cX6_countStable 24 = .ok (.iinc 3 1, 3) := by decide +kernel
theorem dX6_countStable_27 : decode cX6_countStable 27 = .ok (.goto (-23), 3) := by decide +kernel
theorem dX6_countStable_30 : decode cX6_countStable 30 = .ok (.iload_n 2, 1) := by decide +kernel
theorem dX6_countStable_31 : decode cX6_countStable 31 = .ok (.ireturn, 1) := by decide +kernel
theorem dX6_dominanceOf_0 : decode cX6_dominanceOf 0 = .ok (.iconst 0, 1) := by decide +kernel
theorem dX6_dominanceOf_1 : decode cX6_dominanceOf 1 = .ok (.istore_n 2, 1) := by decide +kernel
theorem dX6_dominanceOf_2 : decode cX6_dominanceOf 2 = .ok (.iconst 0, 1) := by decide +kernel
theorem dX6_dominanceOf_3 : decode cX6_dominanceOf 3 = .ok (.istore_n 3, 1) := by decide +kernel
theorem dX6_dominanceOf_4 : decode cX6_dominanceOf 4 = .ok (.iload_n 3, 1) := by decide +kernel
theorem dX6_dominanceOf_5 : decode cX6_dominanceOf 5 = .ok (.aload_n 0, 1) := by decide +kernel
theorem dX6_dominanceOf_6 : decode cX6_dominanceOf 6 = .ok (.getfield 9, 3) := by decide +kernel
theorem dX6_dominanceOf_9 : decode cX6_dominanceOf 9 = .ok (.if_icmp .ge 39, 3) := by decide +kernel
theorem dX6_dominanceOf_12 : decode cX6_dominanceOf 12 = .ok (.aload_n 0, 1) := by decide +kernel
theorem dX6_dominanceOf_13 : decode cX6_dominanceOf 13 = .ok (.getfield 22, 3) := by decide +kernel
theorem dX6_dominanceOf_16 : decode cX6_dominanceOf 16 = .ok (.iload_n 1, 1) := by decide +kernel
theorem dX6_dominanceOf_17 : decode cX6_dominanceOf 17 = .ok (.iload_n 3, 1) := by decide +kernel
theorem dX6_dominanceOf_18 : decode cX6_dominanceOf 18 = .ok (.invokevirtual 145, 3) := by decide +kernel
theorem dX6_dominanceOf_21 : decode cX6_dominanceOf 21 = .ok (.ifCond .eq 6, 3) := by decide +kernel
theorem dX6_dominanceOf_24 : decode cX6_dominanceOf 24 = .ok (.iinc 2 1, 3) := by decide +kernel
theorem dX6_dominanceOf_27 : decode cX6_dominanceOf 27 = .ok (.aload_n 0, 1) := by decide +kernel
theorem dX6_dominanceOf_28 : decode cX6_dominanceOf 28 = .ok (.getfield 22, 3) := by decide +kernel
theorem dX6_dominanceOf_31 : decode cX6_dominanceOf 31 = .ok (.iload_n 3, 1) := by decide +kernel
theorem dX6_dominanceOf_32 : decode cX6_dominanceOf 32 = .ok (.iload_n 1, 1) := by decide +kernel
theorem dX6_dominanceOf_33 : decode cX6_dominanceOf 33 = .ok (.invokevirtual 145, 3) := by decide +kernel
theorem dX6_dominanceOf_36 : decode cX6_dominanceOf 36 = .ok (.ifCond .eq 6, 3) := by decide +kernel
theorem dX6_dominanceOf_39 : decode cX6_dominanceOf 39 = .ok (.iinc 2 (-1), 3) := by decide +kernel
theorem dX6_dominanceOf_42 : decode cX6_dominanceOf 42 = .ok (.iinc 3 1, 3) := by decide +kernel
theorem dX6_dominanceOf_45 : decode cX6_dominanceOf 45 = .ok (.goto (-41), 3) := by decide +kernel
theorem dX6_dominanceOf_48 : decode cX6_dominanceOf 48 = .ok (.iload_n 2, 1) := by decide +kernel
theorem dX6_dominanceOf_49 : decode cX6_dominanceOf 49 = .ok (.ireturn, 1) := by decide +kernel
theorem dX6_findLayers_0 : decode cX6_findLayers 0 = .ok (.aload_n 0, 1) := by decide +kernel
theorem dX6_findLayers_1 : decode cX6_findLayers 1 = .ok (.getfield 44, 3) := by decide +kernel
theorem dX6_findLayers_4 : decode cX6_findLayers 4 = .ok (.ifCond .eq 4, 3) := by decide +kernel
theorem dX6_findLayers_7 : decode cX6_findLayers 7 = .ok (.return_, 1) := by decide +kernel
theorem dX6_findLayers_8 : decode cX6_findLayers 8 = .ok (.aload_n 0, 1) := by decide +kernel
theorem dX6_findLayers_9 : decode cX6_findLayers 9 = .ok (.iconst 1, 1) := by decide +kernel
theorem dX6_findLayers_10 : decode cX6_findLayers 10 = .ok (.putfield 44, 3) := by decide +kernel
theorem dX6_findLayers_13 : decode cX6_findLayers 13 = .ok (.aload_n 0, 1) := by decide +kernel
theorem dX6_findLayers_14 : decode cX6_findLayers 14 = .ok (.invokevirtual 149, 3) := by decide +kernel
theorem dX6_findLayers_17 : decode cX6_findLayers 17 = .ok (.iconst 1, 1) := by decide +kernel
theorem dX6_findLayers_18 : decode cX6_findLayers 18 = .ok (.aload_n 0, 1) := by decide +kernel
theorem dX6_findLayers_19 : decode cX6_findLayers 19 = .ok (.getfield 9, 3) := by decide +kernel
theorem dX6_findLayers_22 : decode cX6_findLayers 22 = .ok (.ishl, 1) := by decide +kernel
theorem dX6_findLayers_23 : decode cX6_findLayers 23 = .ok (.iconst 1, 1) := by decide +kernel
theorem dX6_findLayers_24 : decode cX6_findLayers 24 = .ok (.isub, 1) := by decide +kernel
theorem dX6_findLayers_25 : decode cX6_findLayers 25 = .ok (.istore_n 1, 1) := by decide +kernel
theorem dX6_findLayers_26 : decode cX6_findLayers 26 = .ok (.aload_n 0, 1) := by decide +kernel
theorem dX6_findLayers_27 : decode cX6_findLayers 27 = .ok (.aload_n 0, 1) := by decide +kernel
theorem dX6_findLayers_28 : decode cX6_findLayers 28 = .ok (.iload_n 1, 1) := by decide +kernel
theorem dX6_findLayers_29 : decode cX6_findLayers 29 = .ok (.invokevirtual 152, 3) := by decide +kernel
theorem dX6_findLayers_32 : decode cX6_findLayers 32 = .ok (.putfield 41, 3) := by decide +kernel
theorem dX6_findLayers_35 : decode cX6_findLayers 35 = .ok (.aload_n 0, 1) := by decide +kernel
theorem dX6_findLayers_36 : decode cX6_findLayers 36 = .ok (.iconst 0, 1) := by decide +kernel
theorem dX6_findLayers_37 : decode cX6_findLayers 37 = .ok (.putfield 38, 3) := by decide +kernel
theorem dX6_findLayers_40 : decode cX6_findLayers 40 = .ok (.iconst 0, 1) := by decide +kernel
theorem dX6_findLayers_41 : decode cX6_findLayers 41 = .ok (.istore_n 2, 1) := by decide +kernel
theorem dX6_findLayers_42 : decode cX6_findLayers 42 = .ok (.iload_n 2, 1) := by decide +kernel
theorem dX6_findLayers_43 : decode cX6_findLayers 43 = .ok (.aload_n 0, 1) := by decide +kernel
theorem dX6_findLayers_44 : decode cX6_findLayers 44 = .ok (.getfield 9, 3) := by decide +kernel
theorem dX6_findLayers_47 : decode cX6_findLayers 47 = .ok (.if_icmp .ge 70, 3) := by decide +kernel
theorem dX6_findLayers_50 : decode cX6_findLayers 50 = .ok (.iload_n 1, 1) := by decide +kernel
theorem dX6_findLayers_51 : decode cX6_findLayers 51 = .ok (.ifCond .eq 66, 3) := by decide +kernel
theorem dX6_findLayers_54 : decode cX6_findLayers 54 = .ok (.aload_n 0, 1) := by decide +kernel
theorem dX6_findLayers_55 : decode cX6_findLayers 55 = .ok (.iload_n 1, 1) := by decide +kernel
theorem dX6_findLayers_56 : decode cX6_findLayers 56 = .ok (.invokevirtual 152, 3) := by decide +kernel
theorem dX6_findLayers_59 : decode cX6_findLayers 59 = .ok (.istore_n 3, 1) := by decide +kernel
theorem dX6_findLayers_60 : decode cX6_findLayers 60 = .ok (.iconst 0, 1) := by decide +kernel
theorem dX6_findLayers_61 : decode cX6_findLayers 61 = .ok (.istore 4, 2) := by decide +kernel
theorem dX6_findLayers_63 : decode cX6_findLayers 63 = .ok (.iload 4, 2) := by decide +kernel
theorem dX6_findLayers_65 : decode cX6_findLayers 65 = .ok (.aload_n 0, 1) := by decide +kernel
theorem dX6_findLayers_66 : decode cX6_findLayers 66 = .ok (.getfield 9, 3) := by decide +kernel
theorem dX6_findLayers_69 : decode cX6_findLayers 69 = .ok (.if_icmp .ge 26, 3) := by decide +kernel
theorem dX6_findLayers_72 : decode cX6_findLayers 72 = .ok (.iload_n 3, 1) := by decide +kernel
theorem dX6_findLayers_73 : decode cX6_findLayers 73 = .ok (.iload 4, 2) := by decide +kernel
theorem dX6_findLayers_75 : decode cX6_findLayers 75 = .ok (.invokestatic 155, 3) := by decide +kernel
theorem dX6_findLayers_78 : decode cX6_findLayers 78 = .ok (.ifCond .eq 11, 3) := by decide +kernel
theorem dX6_findLayers_81 : decode cX6_findLayers 81 = .ok (.aload_n 0, 1) := by decide +kernel
theorem dX6_findLayers_82 : decode cX6_findLayers 82 = .ok (.getfield 35, 3) := by decide +kernel
theorem dX6_findLayers_85 : decode cX6_findLayers 85 = .ok (.iload 4, 2) := by decide +kernel
theorem dX6_findLayers_87 : decode cX6_findLayers 87 = .ok (.iload_n 2, 1) := by decide +kernel
theorem dX6_findLayers_88 : decode cX6_findLayers 88 = .ok (.iastore, 1) := by decide +kernel
theorem dX6_findLayers_89 : decode cX6_findLayers 89 = .ok (.iinc 4 1, 3) := by decide +kernel
theorem dX6_findLayers_92 : decode cX6_findLayers 92 = .ok (.goto (-29), 3) := by decide +kernel
theorem dX6_findLayers_95 : decode cX6_findLayers 95 = .ok (.aload_n 0, 1) := by decide +kernel
theorem dX6_findLayers_96 : decode cX6_findLayers 96 = .ok (.dup, 1) := by decide +kernel
theorem dX6_findLayers_97 : decode cX6_findLayers 97 = .ok (.getfield 38, 3) := by decide +kernel
theorem dX6_findLayers_100 : decode cX6_findLayers 100 = .ok (.iconst 1, 1) := by decide +kernel
theorem dX6_findLayers_101 : decode cX6_findLayers 101 = .ok (.iadd, 1) := by decide +kernel
theorem dX6_findLayers_102 : decode cX6_findLayers 102 = .ok (.putfield 38, 3) := by decide +kernel
theorem dX6_findLayers_105 : decode cX6_findLayers 105 = .ok (.iload_n 1, 1) := by decide +kernel
theorem dX6_findLayers_106 : decode cX6_findLayers 106 = .ok (.iload_n 3, 1) := by decide +kernel
theorem dX6_findLayers_107 : decode cX6_findLayers 107 = .ok (.iconst (-1), 1) := by decide +kernel
theorem dX6_findLayers_108 : decode cX6_findLayers 108 = .ok (.ixor, 1) := by decide +kernel
theorem dX6_findLayers_109 : decode cX6_findLayers 109 = .ok (.iand, 1) := by decide +kernel
theorem dX6_findLayers_110 : decode cX6_findLayers 110 = .ok (.istore_n 1, 1) := by decide +kernel
theorem dX6_findLayers_111 : decode cX6_findLayers 111 = .ok (.iinc 2 1, 3) := by decide +kernel
theorem dX6_findLayers_114 : decode cX6_findLayers 114 = .ok (.goto (-72), 3) := by decide +kernel
theorem dX6_findLayers_117 : decode cX6_findLayers 117 = .ok (.return_, 1) := by decide +kernel
theorem dX6_findBeaters_0 : decode cX6_findBeaters 0 = .ok (.iconst 0, 1) := by decide +kernel
theorem dX6_findBeaters_1 : decode cX6_findBeaters 1 = .ok (.istore_n 1, 1) := by decide +kernel
theorem dX6_findBeaters_2 : decode cX6_findBeaters 2 = .ok (.iload_n 1, 1) := by decide +kernel
theorem dX6_findBeaters_3 : decode cX6_findBeaters 3 = .ok (.aload_n 0, 1) := by decide +kernel
theorem dX6_findBeaters_4 : decode cX6_findBeaters 4 = .ok (.getfield 9, 3) := by decide +kernel
theorem dX6_findBeaters_7 : decode cX6_findBeaters 7 = .ok (.if_icmp .ge 56, 3) := by decide +kernel
theorem dX6_findBeaters_10 : decode cX6_findBeaters 10 = .ok (.aload_n 0, 1) := by decide +kernel
theorem dX6_findBeaters_11 : decode cX6_findBeaters 11 = .ok (.getfield 32, 3) := by decide +kernel
theorem dX6_findBeaters_14 : decode cX6_findBeaters 14 = .ok (.iload_n 1, 1) := by decide +kernel
theorem dX6_findBeaters_15 : decode cX6_findBeaters 15 = .ok (.iconst 0, 1) := by decide +kernel
theorem dX6_findBeaters_16 : decode cX6_findBeaters 16 = .ok (.iastore, 1) := by decide +kernel
theorem dX6_findBeaters_17 : decode cX6_findBeaters 17 = .ok (.iconst 0, 1) := by decide +kernel
theorem dX6_findBeaters_18 : decode cX6_findBeaters 18 = .ok (.istore_n 2, 1) := by decide +kernel
theorem dX6_findBeaters_19 : decode cX6_findBeaters 19 = .ok (.iload_n 2, 1) := by decide +kernel
theorem dX6_findBeaters_20 : decode cX6_findBeaters 20 = .ok (.aload_n 0, 1) := by decide +kernel
theorem dX6_findBeaters_21 : decode cX6_findBeaters 21 = .ok (.getfield 9, 3) := by decide +kernel
theorem dX6_findBeaters_24 : decode cX6_findBeaters 24 = .ok (.if_icmp .ge 33, 3) := by decide +kernel
theorem dX6_findBeaters_27 : decode cX6_findBeaters 27 = .ok (.aload_n 0, 1) := by decide +kernel
theorem dX6_findBeaters_28 : decode cX6_findBeaters 28 = .ok (.getfield 22, 3) := by decide +kernel
theorem dX6_findBeaters_31 : decode cX6_findBeaters 31 = .ok (.iload_n 2, 1) := by decide +kernel
theorem dX6_findBeaters_32 : decode cX6_findBeaters 32 = .ok (.iload_n 1, 1) := by decide +kernel
theorem dX6_findBeaters_33 : decode cX6_findBeaters 33 = .ok (.invokevirtual 145, 3) := by decide +kernel
theorem dX6_findBeaters_36 : decode cX6_findBeaters 36 = .ok (.ifCond .eq 15, 3) := by decide +kernel
theorem dX6_findBeaters_39 : decode cX6_findBeaters 39 = .ok (.aload_n 0, 1) := by decide +kernel
theorem dX6_findBeaters_40 : decode cX6_findBeaters 40 = .ok (.getfield 32, 3) := by decide +kernel
theorem dX6_findBeaters_43 : decode cX6_findBeaters 43 = .ok (.iload_n 1, 1) := by decide +kernel
theorem dX6_findBeaters_44 : decode cX6_findBeaters 44 = .ok (.dup2, 1) := by decide +kernel
theorem dX6_findBeaters_45 : decode cX6_findBeaters 45 = .ok (.iaload, 1) := by decide +kernel
theorem dX6_findBeaters_46 : decode cX6_findBeaters 46 = .ok (.iconst 1, 1) := by decide +kernel
theorem dX6_findBeaters_47 : decode cX6_findBeaters 47 = .ok (.iload_n 2, 1) := by decide +kernel
theorem dX6_findBeaters_48 : decode cX6_findBeaters 48 = .ok (.ishl, 1) := by decide +kernel
theorem dX6_findBeaters_49 : decode cX6_findBeaters 49 = .ok (.ior, 1) := by decide +kernel
theorem dX6_findBeaters_50 : decode cX6_findBeaters 50 = .ok (.iastore, 1) := by decide +kernel
theorem dX6_findBeaters_51 : decode cX6_findBeaters 51 = .ok (.iinc 2 1, 3) := by decide +kernel
theorem dX6_findBeaters_54 : decode cX6_findBeaters 54 = .ok (.goto (-35), 3) := by decide +kernel
theorem dX6_findBeaters_57 : decode cX6_findBeaters 57 = .ok (.iinc 1 1, 3) := by decide +kernel
theorem dX6_findBeaters_60 : decode cX6_findBeaters 60 = .ok (.goto (-58), 3) := by decide +kernel
theorem dX6_findBeaters_63 : decode cX6_findBeaters 63 = .ok (.return_, 1) := by decide +kernel
theorem dX6_topSetOf_0 : decode cX6_topSetOf 0 = .ok (.iload_n 1, 1) := by decide +kernel
theorem dX6_topSetOf_1 : decode cX6_topSetOf 1 = .ok (.istore_n 2, 1) := by decide +kernel
theorem dX6_topSetOf_2 : decode cX6_topSetOf 2 = .ok (.iconst 0, 1) := by decide +kernel
theorem dX6_topSetOf_3 : decode cX6_topSetOf 3 = .ok (.istore_n 3, 1) := by decide +kernel
theorem dX6_topSetOf_4 : decode cX6_topSetOf 4 = .ok (.iload_n 3, 1) := by decide +kernel
theorem dX6_topSetOf_5 : decode cX6_topSetOf 5 = .ok (.aload_n 0, 1) := by decide +kernel
theorem dX6_topSetOf_6 : decode cX6_topSetOf 6 = .ok (.getfield 9, 3) := by decide +kernel
theorem dX6_topSetOf_9 : decode cX6_topSetOf 9 = .ok (.if_icmp .ge 42, 3) := by decide +kernel
theorem dX6_topSetOf_12 : decode cX6_topSetOf 12 = .ok (.iload_n 1, 1) := by decide +kernel
theorem dX6_topSetOf_13 : decode cX6_topSetOf 13 = .ok (.iload_n 3, 1) := by decide +kernel
theorem dX6_topSetOf_14 : decode cX6_topSetOf 14 = .ok (.invokestatic 155, 3) := by decide +kernel
theorem dX6_topSetOf_17 : decode cX6_topSetOf 17 = .ok (.ifCond .eq 28, 3) := by decide +kernel
theorem dX6_topSetOf_20 : decode cX6_topSetOf 20 = .ok (.aload_n 0, 1) := by decide +kernel
theorem dX6_topSetOf_21 : decode cX6_topSetOf 21 = .ok (.iconst 1, 1) := by decide +kernel
theorem dX6_topSetOf_22 : decode cX6_topSetOf 22 = .ok (.iload_n 3, 1) := by decide +kernel
theorem dX6_topSetOf_23 : decode cX6_topSetOf 23 = .ok (.ishl, 1) := by decide +kernel
theorem dX6_topSetOf_24 : decode cX6_topSetOf 24 = .ok (.iload_n 1, 1) := by decide +kernel
theorem dX6_topSetOf_25 : decode cX6_topSetOf 25 = .ok (.invokevirtual 158, 3) := by decide +kernel
theorem dX6_topSetOf_28 : decode cX6_topSetOf 28 = .ok (.istore 4, 2) := by decide +kernel
theorem dX6_topSetOf_30 : decode cX6_topSetOf 30 = .ok (.iload 4, 2) := by decide +kernel
theorem dX6_topSetOf_32 : decode cX6_topSetOf 32 = .ok (.invokestatic 161, 3) := by decide +kernel
theorem dX6_topSetOf_35 : decode cX6_topSetOf 35 = .ok (.iload_n 2, 1) := by decide +kernel
theorem dX6_topSetOf_36 : decode cX6_topSetOf 36 = .ok (.invokestatic 161, 3) := by decide +kernel
theorem dX6_topSetOf_39 : decode cX6_topSetOf 39 = .ok (.if_icmp .ge 6, 3) := by decide +kernel
theorem dX6_topSetOf_42 : decode cX6_topSetOf 42 = .ok (.iload 4, 2) := by decide +kernel
theorem dX6_topSetOf_44 : decode cX6_topSetOf 44 = .ok (.istore_n 2, 1) := by decide +kernel
theorem dX6_topSetOf_45 : decode cX6_topSetOf 45 = .ok (.iinc 3 1, 3) := by decide +kernel
theorem dX6_topSetOf_48 : decode cX6_topSetOf 48 = .ok (.goto (-44), 3) := by decide +kernel
theorem dX6_topSetOf_51 : decode cX6_topSetOf 51 = .ok (.iload_n 2, 1) := by decide +kernel
theorem dX6_topSetOf_52 : decode cX6_topSetOf 52 = .ok (.ireturn, 1) := by decide +kernel
theorem dX6_closedSet_0 : decode cX6_closedSet 0 = .ok (.iload_n 1, 1) := by decide +kernel
theorem dX6_closedSet_1 : decode cX6_closedSet 1 = .ok (.istore_n 3, 1) := by decide +kernel
theorem dX6_closedSet_2 : decode cX6_closedSet 2 = .ok (.iconst 0, 1) := by decide +kernel
theorem dX6_closedSet_3 : decode cX6_closedSet 3 = .ok (.istore 4, 2) := by decide +kernel
theorem dX6_closedSet_5 : decode cX6_closedSet 5 = .ok (.iload 4, 2) := by decide +kernel
theorem dX6_closedSet_7 : decode cX6_closedSet 7 = .ok (.aload_n 0, 1) := by decide +kernel
theorem dX6_closedSet_8 : decode cX6_closedSet 8 = .ok (.getfield 9, 3) := by decide +kernel
theorem dX6_closedSet_11 : decode cX6_closedSet 11 = .ok (.if_icmp .ge 77, 3) := by decide +kernel
theorem dX6_closedSet_14 : decode cX6_closedSet 14 = .ok (.iload_n 3, 1) := by decide +kernel
theorem dX6_closedSet_15 : decode cX6_closedSet 15 = .ok (.istore 5, 2) := by decide +kernel
theorem dX6_closedSet_17 : decode cX6_closedSet 17 = .ok (.iconst 0, 1) := by decide +kernel
theorem dX6_closedSet_18 : decode cX6_closedSet 18 = .ok (.istore 6, 2) := by decide +kernel
theorem dX6_closedSet_20 : decode cX6_closedSet 20 = .ok (.iload 6, 2) := by decide +kernel
theorem dX6_closedSet_22 : decode cX6_closedSet 22 = .ok (.aload_n 0, 1) := by decide +kernel
theorem dX6_closedSet_23 : decode cX6_closedSet 23 = .ok (.getfield 9, 3) := by decide +kernel
theorem dX6_closedSet_26 : decode cX6_closedSet 26 = .ok (.if_icmp .ge 47, 3) := by decide +kernel
theorem dX6_closedSet_29 : decode cX6_closedSet 29 = .ok (.iload_n 2, 1) := by decide +kernel
theorem dX6_closedSet_30 : decode cX6_closedSet 30 = .ok (.iload_n 3, 1) := by decide +kernel
theorem dX6_closedSet_31 : decode cX6_closedSet 31 = .ok (.iconst (-1), 1) := by decide +kernel
theorem dX6_closedSet_32 : decode cX6_closedSet 32 = .ok (.ixor, 1) := by decide +kernel
theorem dX6_closedSet_33 : decode cX6_closedSet 33 = .ok (.iand, 1) := by decide +kernel
theorem dX6_closedSet_34 : decode cX6_closedSet 34 = .ok (.iload 6, 2) := by decide +kernel
theorem dX6_closedSet_36 : decode cX6_closedSet 36 = .ok (.invokestatic 155, 3) := by decide +kernel
theorem dX6_closedSet_39 : decode cX6_closedSet 39 = .ok (.istore 7, 2) := by decide +kernel
theorem dX6_closedSet_41 : decode cX6_closedSet 41 = .ok (.iload 7, 2) := by decide +kernel
theorem dX6_closedSet_43 : decode cX6_closedSet 43 = .ok (.ifCond .eq 24, 3) := by decide +kernel
theorem dX6_closedSet_46 : decode cX6_closedSet 46 = .ok (.iload_n 3, 1) := by decide +kernel
theorem dX6_closedSet_47 : decode cX6_closedSet 47 = .ok (.aload_n 0, 1) := by decide +kernel
theorem dX6_closedSet_48 : decode cX6_closedSet 48 = .ok (.getfield 32, 3) := by decide +kernel
theorem dX6_closedSet_51 : decode cX6_closedSet 51 = .ok (.iload 6, 2) := by decide +kernel
theorem dX6_closedSet_53 : decode cX6_closedSet 53 = .ok (.iaload, 1) := by decide +kernel
theorem dX6_closedSet_54 : decode cX6_closedSet 54 = .ok (.iconst (-1), 1) := by decide +kernel
theorem dX6_closedSet_55 : decode cX6_closedSet 55 = .ok (.ixor, 1) := by decide +kernel
theorem dX6_closedSet_56 : decode cX6_closedSet 56 = .ok (.iand, 1) := by decide +kernel
theorem dX6_closedSet_57 : decode cX6_closedSet 57 = .ok (.ifCond .eq 10, 3) := by decide +kernel
theorem dX6_closedSet_60 : decode cX6_closedSet 60 = .ok (.iload_n 3, 1) := by decide +kernel
theorem dX6_closedSet_61 : decode cX6_closedSet 61 = .ok (.iconst 1, 1) := by decide +kernel
theorem dX6_closedSet_62 : decode cX6_closedSet 62 = .ok (.iload 6, 2) := by decide +kernel
theorem dX6_closedSet_64 : decode cX6_closedSet 64 = .ok (.ishl, 1) := by decide +kernel
theorem dX6_closedSet_65 : decode cX6_closedSet 65 = .ok (.ior, 1) := by decide +kernel
theorem dX6_closedSet_66 : decode cX6_closedSet 66 = .ok (.istore_n 3, 1) := by decide +kernel
theorem dX6_closedSet_67 : decode cX6_closedSet 67 = .ok (.iinc 6 1, 3) := by decide +kernel
theorem dX6_closedSet_70 : decode cX6_closedSet 70 = .ok (.goto (-50), 3) := by decide +kernel
theorem dX6_closedSet_73 : decode cX6_closedSet 73 = .ok (.iload_n 3, 1) := by decide +kernel
theorem dX6_closedSet_74 : decode cX6_closedSet 74 = .ok (.iload 5, 2) := by decide +kernel
theorem dX6_closedSet_76 : decode cX6_closedSet 76 = .ok (.if_icmp .ne 6, 3) := by decide +kernel
theorem dX6_closedSet_79 : decode cX6_closedSet 79 = .ok (.goto 9, 3) := by decide +kernel
theorem dX6_closedSet_82 : decode cX6_closedSet 82 = .ok (.iinc 4 1, 3) := by decide +kernel
theorem dX6_closedSet_85 : decode cX6_closedSet 85 = .ok (.goto (-80), 3) := by decide +kernel
theorem dX6_closedSet_88 : decode cX6_closedSet 88 = .ok (.iload_n 3, 1) := by decide +kernel
theorem dX6_closedSet_89 : decode cX6_closedSet 89 = .ok (.ireturn, 1) := by decide +kernel
theorem dX7_init_0 : decode cX7_init 0 = .ok (.aload_n 0, 1) := by decide +kernel
theorem dX7_init_1 : decode cX7_init 1 = .ok (.invokespecial 1, 3) := by decide +kernel
theorem dX7_init_4 : decode cX7_init 4 = .ok (.aload_n 0, 1) := by decide +kernel
theorem dX7_init_5 : decode cX7_init 5 = .ok (.new 7, 3) := by decide +kernel
theorem dX7_init_8 : decode cX7_init 8 = .ok (.dup, 1) := by decide +kernel
theorem dX7_init_9 : decode cX7_init 9 = .ok (.invokespecial 9, 3) := by decide +kernel
theorem dX7_init_12 : decode cX7_init 12 = .ok (.putfield 10, 3) := by decide +kernel
theorem dX7_init_15 : decode cX7_init 15 = .ok (.aload_n 0, 1) := by decide +kernel
theorem dX7_init_16 : decode cX7_init 16 = .ok (.aconst_null, 1) := by decide +kernel
theorem dX7_init_17 : decode cX7_init 17 = .ok (.putfield 16, 3) := by decide +kernel
theorem dX7_init_20 : decode cX7_init 20 = .ok (.aload_n 0, 1) := by decide +kernel
theorem dX7_init_21 : decode cX7_init 21 = .ok (.iconst 0, 1) := by decide +kernel
theorem dX7_init_22 : decode cX7_init 22 = .ok (.putfield 20, 3) := by decide +kernel
theorem dX7_init_25 : decode cX7_init 25 = .ok (.return_, 1) := by decide +kernel
theorem dX7_keep_0 : decode cX7_keep 0 = .ok (.aload_n 0, 1) := by decide +kernel
theorem dX7_keep_1 : decode cX7_keep 1 = .ok (.getfield 10, 3) := by decide +kernel
theorem dX7_keep_4 : decode cX7_keep 4 = .ok (.aload_n 1, 1) := by decide +kernel
theorem dX7_keep_5 : decode cX7_keep 5 = .ok (.invokevirtual 24, 3) := by decide +kernel
theorem dX7_keep_8 : decode cX7_keep 8 = .ok (.aload_n 0, 1) := by decide +kernel
theorem dX7_keep_9 : decode cX7_keep 9 = .ok (.aload_n 2, 1) := by decide +kernel
theorem dX7_keep_10 : decode cX7_keep 10 = .ok (.putfield 16, 3) := by decide +kernel
theorem dX7_keep_13 : decode cX7_keep 13 = .ok (.aload_n 0, 1) := by decide +kernel
theorem dX7_keep_14 : decode cX7_keep 14 = .ok (.iload_n 3, 1) := by decide +kernel
theorem dX7_keep_15 : decode cX7_keep 15 = .ok (.putfield 20, 3) := by decide +kernel
theorem dX7_keep_18 : decode cX7_keep 18 = .ok (.return_, 1) := by decide +kernel
theorem dX8_init_0 : decode cX8_init 0 = .ok (.aload_n 0, 1) := by decide +kernel
theorem dX8_init_1 : decode cX8_init 1 = .ok (.invokespecial 3, 3) := by decide +kernel
theorem dX8_init_4 : decode cX8_init 4 = .ok (.aload_n 0, 1) := by decide +kernel
theorem dX8_init_5 : decode cX8_init 5 = .ok (.iconst 0, 1) := by decide +kernel
theorem dX8_init_6 : decode cX8_init 6 = .ok (.putfield 9, 3) := by decide +kernel
theorem dX8_init_9 : decode cX8_init 9 = .ok (.aload_n 0, 1) := by decide +kernel
theorem dX8_init_10 : decode cX8_init 10 = .ok (.bipush 64, 2) := by decide +kernel
theorem dX8_init_12 : decode cX8_init 12 = .ok (.newarray .int, 2) := by decide +kernel
theorem dX8_init_14 : decode cX8_init 14 = .ok (.putfield 15, 3) := by decide +kernel
theorem dX8_init_17 : decode cX8_init 17 = .ok (.aload_n 0, 1) := by decide +kernel
theorem dX8_init_18 : decode cX8_init 18 = .ok (.bipush 8, 2) := by decide +kernel
theorem dX8_init_20 : decode cX8_init 20 = .ok (.newarray .double, 2) := by decide +kernel
theorem dX8_init_22 : decode cX8_init 22 = .ok (.putfield 19, 3) := by decide +kernel
theorem dX8_init_25 : decode cX8_init 25 = .ok (.aload_n 0, 1) := by decide +kernel
theorem dX8_init_26 : decode cX8_init 26 = .ok (.bipush 8, 2) := by decide +kernel
theorem dX8_init_28 : decode cX8_init 28 = .ok (.newarray .double, 2) := by decide +kernel
theorem dX8_init_30 : decode cX8_init 30 = .ok (.putfield 23, 3) := by decide +kernel
theorem dX8_init_33 : decode cX8_init 33 = .ok (.aload_n 0, 1) := by decide +kernel
theorem dX8_init_34 : decode cX8_init 34 = .ok (.bipush 8, 2) := by decide +kernel
theorem dX8_init_36 : decode cX8_init 36 = .ok (.newarray .double, 2) := by decide +kernel
theorem dX8_init_38 : decode cX8_init 38 = .ok (.putfield 26, 3) := by decide +kernel
theorem dX8_init_41 : decode cX8_init 41 = .ok (.return_, 1) := by decide +kernel
theorem dX8_fit_0 : decode cX8_fit 0 = .ok (.aload_n 0, 1) := by decide +kernel
theorem dX8_fit_1 : decode cX8_fit 1 = .ok (.iload_n 2, 1) := by decide +kernel
theorem dX8_fit_2 : decode cX8_fit 2 = .ok (.bipush 8, 2) := by decide +kernel
theorem dX8_fit_4 : decode cX8_fit 4 = .ok (.invokestatic 29, 3) := by decide +kernel
theorem dX8_fit_7 : decode cX8_fit 7 = .ok (.putfield 9, 3) := by decide +kernel
theorem dX8_fit_10 : decode cX8_fit 10 = .ok (.iconst 0, 1) := by decide +kernel
theorem dX8_fit_11 : decode cX8_fit 11 = .ok (.istore 4, 2) := by decide +kernel
theorem dX8_fit_13 : decode cX8_fit 13 = .ok (.iload 4, 2) := by decide +kernel
theorem dX8_fit_15 : decode cX8_fit 15 = .ok (.aload_n 0, 1) := by decide +kernel
theorem dX8_fit_16 : decode cX8_fit 16 = .ok (.getfield 9, 3) := by decide +kernel
theorem dX8_fit_19 : decode cX8_fit 19 = .ok (.if_icmp .ge 16, 3) := by decide +kernel
theorem dX8_fit_22 : decode cX8_fit 22 = .ok (.aload_n 0, 1) := by decide +kernel
theorem dX8_fit_23 : decode cX8_fit 23 = .ok (.aload_n 1, 1) := by decide +kernel
theorem dX8_fit_24 : decode cX8_fit 24 = .ok (.iload 4, 2) := by decide +kernel
theorem dX8_fit_26 : decode cX8_fit 26 = .ok (.invokevirtual 35, 3) := by decide +kernel
theorem dX8_fit_29 : decode cX8_fit 29 = .ok (.iinc 4 1, 3) := by decide +kernel
theorem dX8_fit_32 : decode cX8_fit 32 = .ok (.goto (-19), 3) := by decide +kernel
theorem dX8_fit_35 : decode cX8_fit 35 = .ok (.aload_n 0, 1) := by decide +kernel
theorem dX8_fit_36 : decode cX8_fit 36 = .ok (.getfield 23, 3) := by decide +kernel
theorem dX8_fit_39 : decode cX8_fit 39 = .ok (.dconst 1, 1) := by decide +kernel
theorem dX8_fit_40 : decode cX8_fit 40 = .ok (.invokestatic 39, 3) := by decide +kernel
theorem dX8_fit_43 : decode cX8_fit 43 = .ok (.iconst 0, 1) := by decide +kernel
theorem dX8_fit_44 : decode cX8_fit 44 = .ok (.istore 4, 2) := by decide +kernel
theorem dX8_fit_46 : decode cX8_fit 46 = .ok (.iload 4, 2) := by decide +kernel
theorem dX8_fit_48 : decode cX8_fit 48 = .ok (.iload_n 3, 1) := by decide +kernel
theorem dX8_fit_49 : decode cX8_fit 49 = .ok (.if_icmp .ge 17, 3) := by decide +kernel
theorem dX8_fit_52 : decode cX8_fit 52 = .ok (.aload_n 0, 1) := by decide +kernel
theorem dX8_fit_53 : decode cX8_fit 53 = .ok (.invokevirtual 45, 3) := by decide +kernel
theorem dX8_fit_56 : decode cX8_fit 56 = .ok (.aload_n 0, 1) := by decide +kernel
theorem dX8_fit_57 : decode cX8_fit 57 = .ok (.invokevirtual 48, 3) := by decide +kernel
theorem dX8_fit_60 : decode cX8_fit 60 = .ok (.iinc 4 1, 3) := by decide +kernel
theorem dX8_fit_63 : decode cX8_fit 63 = .ok (.goto (-17), 3) := by decide +kernel
theorem dX8_fit_66 : decode cX8_fit 66 = .ok (.return_, 1) := by decide +kernel
theorem dX8_sumOfSquares_0 : decode cX8_sumOfSquares 0 = .ok (.dconst 0, 1) := by decide +kernel
theorem dX8_sumOfSquares_1 : decode cX8_sumOfSquares 1 = .ok (.dstore_n 1, 1) := by decide +kernel
theorem dX8_sumOfSquares_2 : decode cX8_sumOfSquares 2 = .ok (.iconst 0, 1) := by decide +kernel
theorem dX8_sumOfSquares_3 : decode cX8_sumOfSquares 3 = .ok (.istore_n 3, 1) := by decide +kernel
theorem dX8_sumOfSquares_4 : decode cX8_sumOfSquares 4 = .ok (.iload_n 3, 1) := by decide +kernel
theorem dX8_sumOfSquares_5 : decode cX8_sumOfSquares 5 = .ok (.aload_n 0, 1) := by decide +kernel
theorem dX8_sumOfSquares_6 : decode cX8_sumOfSquares 6 = .ok (.getfield 9, 3) := by decide +kernel
theorem dX8_sumOfSquares_9 : decode cX8_sumOfSquares 9 = .ok (.if_icmp .ge 31, 3) := by decide +kernel
theorem dX8_sumOfSquares_12 : decode cX8_sumOfSquares 12 = .ok (.aload_n 0, 1) := by decide +kernel
theorem dX8_sumOfSquares_13 : decode cX8_sumOfSquares 13 = .ok (.getfield 19, 3) := by decide +kernel
theorem dX8_sumOfSquares_16 : decode cX8_sumOfSquares 16 = .ok (.iload_n 3, 1) := by decide +kernel
theorem dX8_sumOfSquares_17 : decode cX8_sumOfSquares 17 = .ok (.daload, 1) := by decide +kernel
theorem dX8_sumOfSquares_18 : decode cX8_sumOfSquares 18 = .ok (.aload_n 0, 1) := by decide +kernel
theorem dX8_sumOfSquares_19 : decode cX8_sumOfSquares 19 = .ok (.iload_n 3, 1) := by decide +kernel
theorem dX8_sumOfSquares_20 : decode cX8_sumOfSquares 20 = .ok (.invokevirtual 51, 3) := by decide +kernel
theorem dX8_sumOfSquares_23 : decode cX8_sumOfSquares 23 = .ok (.dsub, 1) := by decide +kernel
theorem dX8_sumOfSquares_24 : decode cX8_sumOfSquares 24 = .ok (.dstore 4, 2) := by decide +kernel
theorem dX8_sumOfSquares_26 : decode cX8_sumOfSquares 26 = .ok (.dload_n 1, 1) := by decide +kernel
theorem dX8_sumOfSquares_27 : decode cX8_sumOfSquares 27 = .ok (.dload 4, 2) := by decide +kernel
theorem dX8_sumOfSquares_29 : decode cX8_sumOfSquares 29 = .ok (.dload 4, 2) := by decide +kernel
theorem dX8_sumOfSquares_31 : decode cX8_sumOfSquares 31 = .ok (.dmul, 1) := by decide +kernel
theorem dX8_sumOfSquares_32 : decode cX8_sumOfSquares 32 = .ok (.dadd, 1) := by decide +kernel
theorem dX8_sumOfSquares_33 : decode cX8_sumOfSquares 33 = .ok (.dstore_n 1, 1) := by decide +kernel
theorem dX8_sumOfSquares_34 : decode cX8_sumOfSquares 34 = .ok (.iinc 3 1, 3) := by decide +kernel
theorem dX8_sumOfSquares_37 : decode cX8_sumOfSquares 37 = .ok (.goto (-33), 3) := by decide +kernel
theorem dX8_sumOfSquares_40 : decode cX8_sumOfSquares 40 = .ok (.dload_n 1, 1) := by decide +kernel
theorem dX8_sumOfSquares_41 : decode cX8_sumOfSquares 41 = .ok (.dreturn, 1) := by decide +kernel
theorem dX8_takeResults_0 : decode cX8_takeResults 0 = .ok (.iconst 0, 1) := by decide +kernel
theorem dX8_takeResults_1 : decode cX8_takeResults 1 = .ok (.istore_n 3, 1) := by decide +kernel
theorem dX8_takeResults_2 : decode cX8_takeResults 2 = .ok (.iconst 0, 1) := by decide +kernel
theorem dX8_takeResults_3 : decode cX8_takeResults 3 = .ok (.istore 4, 2) := by decide +kernel
theorem dX8_takeResults_5 : decode cX8_takeResults 5 = .ok (.iconst 0, 1) := by decide +kernel
theorem dX8_takeResults_6 : decode cX8_takeResults 6 = .ok (.istore 5, 2) := by decide +kernel
theorem dX8_takeResults_8 : decode cX8_takeResults 8 = .ok (.iload 5, 2) := by decide +kernel
theorem dX8_takeResults_10 : decode cX8_takeResults 10 = .ok (.aload_n 0, 1) := by decide +kernel
theorem dX8_takeResults_11 : decode cX8_takeResults 11 = .ok (.getfield 9, 3) := by decide +kernel
theorem dX8_takeResults_14 : decode cX8_takeResults 14 = .ok (.if_icmp .ge 57, 3) := by decide +kernel
theorem dX8_takeResults_17 : decode cX8_takeResults 17 = .ok (.iload_n 3, 1) := by decide +kernel
theorem dX8_takeResults_18 : decode cX8_takeResults 18 = .ok (.aload_n 1, 1) := by decide +kernel
theorem dX8_takeResults_19 : decode cX8_takeResults 19 = .ok (.iload_n 2, 1) := by decide +kernel
theorem dX8_takeResults_20 : decode cX8_takeResults 20 = .ok (.iload 5, 2) := by decide +kernel
theorem dX8_takeResults_22 : decode cX8_takeResults 22 = .ok (.invokevirtual 55, 3) := by decide +kernel
theorem dX8_takeResults_25 : decode cX8_takeResults 25 = .ok (.iadd, 1) := by decide +kernel
theorem dX8_takeResults_26 : decode cX8_takeResults 26 = .ok (.istore_n 3, 1) := by decide +kernel
theorem dX8_takeResults_27 : decode cX8_takeResults 27 = .ok (.iload 4, 2) := by decide +kernel
theorem dX8_takeResults_29 : decode cX8_takeResults 29 = .ok (.aload_n 1, 1) := by decide +kernel
theorem dX8_takeResults_30 : decode cX8_takeResults 30 = .ok (.iload_n 2, 1) := by decide +kernel
theorem dX8_takeResults_31 : decode cX8_takeResults 31 = .ok (.iload 5, 2) := by decide +kernel
theorem dX8_takeResults_33 : decode cX8_takeResults 33 = .ok (.invokevirtual 60, 3) := by decide +kernel
theorem dX8_takeResults_36 : decode cX8_takeResults 36 = .ok (.iadd, 1) := by decide +kernel
theorem dX8_takeResults_37 : decode cX8_takeResults 37 = .ok (.istore 4, 2) := by decide +kernel
theorem dX8_takeResults_39 : decode cX8_takeResults 39 = .ok (.aload_n 0, 1) := by decide +kernel
theorem dX8_takeResults_40 : decode cX8_takeResults 40 = .ok (.getfield 15, 3) := by decide +kernel
theorem dX8_takeResults_43 : decode cX8_takeResults 43 = .ok (.iload_n 2, 1) := by decide +kernel
theorem dX8_takeResults_44 : decode cX8_takeResults 44 = .ok (.iload 5, 2) := by decide +kernel
theorem dX8_takeResults_46 : decode cX8_takeResults 46 = .ok (.invokestatic 63, 3) := by decide +kernel
theorem dX8_takeResults_49 : decode cX8_takeResults 49 = .ok (.aload_n 1, 1) := by decide +kernel
theorem dX8_takeResults_50 : decode cX8_takeResults 50 = .ok (.iload_n 2, 1) := by decide +kernel
theorem dX8_takeResults_51 : decode cX8_takeResults 51 = .ok (.iload 5, 2) := by decide +kernel
theorem dX8_takeResults_53 : decode cX8_takeResults 53 = .ok (.invokevirtual 66, 3) := by decide +kernel
theorem dX8_takeResults_56 : decode cX8_takeResults 56 = .ok (.aload_n 1, 1) := by decide +kernel
theorem dX8_takeResults_57 : decode cX8_takeResults 57 = .ok (.iload_n 2, 1) := by decide +kernel
theorem dX8_takeResults_58 : decode cX8_takeResults 58 = .ok (.iload 5, 2) := by decide +kernel
theorem dX8_takeResults_60 : decode cX8_takeResults 60 = .ok (.invokevirtual 60, 3) := by decide +kernel
theorem dX8_takeResults_63 : decode cX8_takeResults 63 = .ok (.iadd, 1) := by decide +kernel
theorem dX8_takeResults_64 : decode cX8_takeResults 64 = .ok (.iastore, 1) := by decide +kernel
theorem dX8_takeResults_65 : decode cX8_takeResults 65 = .ok (.iinc 5 1, 3) := by decide +kernel
theorem dX8_takeResults_68 : decode cX8_takeResults 68 = .ok (.goto (-60), 3) := by decide +kernel
theorem dX8_takeResults_71 : decode cX8_takeResults 71 = .ok (.aload_n 0, 1) := by decide +kernel
theorem dX8_takeResults_72 : decode cX8_takeResults 72 = .ok (.getfield 19, 3) := by decide +kernel
theorem dX8_takeResults_75 : decode cX8_takeResults 75 = .ok (.iload_n 2, 1) := by decide +kernel
theorem dX8_takeResults_76 : decode cX8_takeResults 76 = .ok (.bipush 7, 2) := by decide +kernel
theorem dX8_takeResults_78 : decode cX8_takeResults 78 = .ok (.iand, 1) := by decide +kernel
theorem dX8_takeResults_79 : decode cX8_takeResults 79 = .ok (.iload_n 3, 1) := by decide +kernel
theorem dX8_takeResults_80 : decode cX8_takeResults 80 = .ok (.i2d, 1) := by decide +kernel
theorem dX8_takeResults_81 : decode cX8_takeResults 81 = .ok (.ldc2_w 69, 3) := by decide +kernel
theorem dX8_takeResults_84 : decode cX8_takeResults 84 = .ok (.iload 4, 2) := by decide +kernel
theorem dX8_takeResults_86 : decode cX8_takeResults 86 = .ok (.i2d, 1) := by decide +kernel
theorem dX8_takeResults_87 : decode cX8_takeResults 87 = .ok (.dmul, 1) := by decide +kernel
theorem dX8_takeResults_88 : decode cX8_takeResults 88 = .ok (.dadd, 1) := by decide +kernel
theorem dX8_takeResults_89 : decode cX8_takeResults 89 = .ok (.dastore, 1) := by decide +kernel
theorem dX8_takeResults_90 : decode cX8_takeResults 90 = .ok (.return_, 1) := by decide +kernel
theorem dX8_makeNewValues_0 : decode cX8_makeNewValues 0 = .ok (.iconst 0, 1) := by decide +kernel
theorem dX8_makeNewValues_1 : decode cX8_makeNewValues 1 = .ok (.istore_n 1, 1) := by decide +kernel
theorem dX8_makeNewValues_2 : decode cX8_makeNewValues 2 = .ok (.iload_n 1, 1) := by decide +kernel
theorem dX8_makeNewValues_3 : decode cX8_makeNewValues 3 = .ok (.aload_n 0, 1) := by decide +kernel
theorem dX8_makeNewValues_4 : decode cX8_makeNewValues 4 = .ok (.getfield 9, 3) := by decide +kernel
theorem dX8_makeNewValues_7 : decode cX8_makeNewValues 7 = .ok (.if_icmp .ge 113, 3) := by decide +kernel
theorem dX8_makeNewValues_10 : decode cX8_makeNewValues 10 = .ok (.dconst 0, 1) := by decide +kernel
theorem dX8_makeNewValues_11 : decode cX8_makeNewValues 11 = .ok (.dstore_n 2, 1) := by decide +kernel
theorem dX8_makeNewValues_12 : decode cX8_makeNewValues 12 = .ok (.iconst 0, 1) := by decide +kernel
theorem dX8_makeNewValues_13 : decode cX8_makeNewValues 13 = .ok (.istore 4, 2) := by decide +kernel
theorem dX8_makeNewValues_15 : decode cX8_makeNewValues 15 = .ok (.iload 4, 2) := by decide +kernel
theorem dX8_makeNewValues_17 : decode cX8_makeNewValues 17 = .ok (.aload_n 0, 1) := by decide +kernel
theorem dX8_makeNewValues_18 : decode cX8_makeNewValues 18 = .ok (.getfield 9, 3) := by decide +kernel
theorem dX8_makeNewValues_21 : decode cX8_makeNewValues 21 = .ok (.if_icmp .ge 64, 3) := by decide +kernel
theorem dX8_makeNewValues_24 : decode cX8_makeNewValues 24 = .ok (.aload_n 0, 1) := by decide +kernel
theorem dX8_makeNewValues_25 : decode cX8_makeNewValues 25 = .ok (.getfield 23, 3) := by decide +kernel
theorem dX8_makeNewValues_28 : decode cX8_makeNewValues 28 = .ok (.iload_n 1, 1) := by decide +kernel
theorem dX8_makeNewValues_29 : decode cX8_makeNewValues 29 = .ok (.daload, 1) := by decide +kernel
theorem dX8_makeNewValues_30 : decode cX8_makeNewValues 30 = .ok (.aload_n 0, 1) := by decide +kernel
theorem dX8_makeNewValues_31 : decode cX8_makeNewValues 31 = .ok (.getfield 23, 3) := by decide +kernel
theorem dX8_makeNewValues_34 : decode cX8_makeNewValues 34 = .ok (.iload 4, 2) := by decide +kernel
theorem dX8_makeNewValues_36 : decode cX8_makeNewValues 36 = .ok (.daload, 1) := by decide +kernel
theorem dX8_makeNewValues_37 : decode cX8_makeNewValues 37 = .ok (.dadd, 1) := by decide +kernel
theorem dX8_makeNewValues_38 : decode cX8_makeNewValues 38 = .ok (.dstore 5, 2) := by decide +kernel
theorem dX8_makeNewValues_40 : decode cX8_makeNewValues 40 = .ok (.aload_n 0, 1) := by decide +kernel
theorem dX8_makeNewValues_41 : decode cX8_makeNewValues 41 = .ok (.getfield 15, 3) := by decide +kernel
theorem dX8_makeNewValues_44 : decode cX8_makeNewValues 44 = .ok (.iload_n 1, 1) := by decide +kernel
theorem dX8_makeNewValues_45 : decode cX8_makeNewValues 45 = .ok (.iload 4, 2) := by decide +kernel
theorem dX8_makeNewValues_47 : decode cX8_makeNewValues 47 = .ok (.invokestatic 63, 3) := by decide +kernel
theorem dX8_makeNewValues_50 : decode cX8_makeNewValues 50 = .ok (.iaload, 1) := by decide +kernel
theorem dX8_makeNewValues_51 : decode cX8_makeNewValues 51 = .ok (.ifCond .le 28, 3) := by decide +kernel
theorem dX8_makeNewValues_54 : decode cX8_makeNewValues 54 = .ok (.dload 5, 2) := by decide +kernel
theorem dX8_makeNewValues_56 : decode cX8_makeNewValues 56 = .ok (.dconst 0, 1) := by decide +kernel
theorem dX8_makeNewValues_57 : decode cX8_makeNewValues 57 = .ok (.dcmp .l, 1) := by decide +kernel
theorem dX8_makeNewValues_58 : decode cX8_makeNewValues 58 = .ok (.ifCond .le 21, 3) := by decide +kernel
theorem dX8_makeNewValues_61 : decode cX8_makeNewValues 61 = .ok (.dload_n 2, 1) := by decide +kernel
theorem dX8_makeNewValues_62 : decode cX8_makeNewValues 62 = .ok (.aload_n 0, 1) := by decide +kernel
theorem dX8_makeNewValues_63 : decode cX8_makeNewValues 63 = .ok (.getfield 15, 3) := by decide +kernel
theorem dX8_makeNewValues_66 : decode cX8_makeNewValues 66 = .ok (.iload_n 1, 1) := by decide +kernel
theorem dX8_makeNewValues_67 : decode cX8_makeNewValues 67 = .ok (.iload 4, 2) := by decide +kernel
theorem dX8_makeNewValues_69 : decode cX8_makeNewValues 69 = .ok (.invokestatic 63, 3) := by decide +kernel
theorem dX8_makeNewValues_72 : decode cX8_makeNewValues 72 = .ok (.iaload, 1) := by decide +kernel
theorem dX8_makeNewValues_73 : decode cX8_makeNewValues 73 = .ok (.i2d, 1) := by decide +kernel
theorem dX8_makeNewValues_74 : decode cX8_makeNewValues 74 = .ok (.dload 5, 2) := by decide +kernel
theorem dX8_makeNewValues_76 : decode cX8_makeNewValues 76 = .ok (.ddiv, 1) := by decide +kernel
theorem dX8_makeNewValues_77 : decode cX8_makeNewValues 77 = .ok (.dadd, 1) := by decide +kernel
theorem dX8_makeNewValues_78 : decode cX8_makeNewValues 78 = .ok (.dstore_n 2, 1) := by decide +kernel
theorem dX8_makeNewValues_79 : decode cX8_makeNewValues 79 = .ok (.iinc 4 1, 3) := by decide +kernel
theorem dX8_makeNewValues_82 : decode cX8_makeNewValues 82 = .ok (.goto (-67), 3) := by decide +kernel
theorem dX8_makeNewValues_85 : decode cX8_makeNewValues 85 = .ok (.aload_n 0, 1) := by decide +kernel
theorem dX8_makeNewValues_86 : decode cX8_makeNewValues 86 = .ok (.getfield 26, 3) := by decide +kernel
theorem dX8_makeNewValues_89 : decode cX8_makeNewValues 89 = .ok (.iload_n 1, 1) := by decide +kernel
theorem dX8_makeNewValues_90 : decode cX8_makeNewValues 90 = .ok (.dload_n 2, 1) := by decide +kernel
theorem dX8_makeNewValues_91 : decode cX8_makeNewValues 91 = .ok (.dconst 0, 1) := by decide +kernel
theorem dX8_makeNewValues_92 : decode cX8_makeNewValues 92 = .ok (.dcmp .l, 1) := by decide +kernel
theorem dX8_makeNewValues_93 : decode cX8_makeNewValues 93 = .ok (.ifCond .le 14, 3) := by decide +kernel
theorem dX8_makeNewValues_96 : decode cX8_makeNewValues 96 = .ok (.aload_n 0, 1) := by decide +kernel
theorem dX8_makeNewValues_97 : decode cX8_makeNewValues 97 = .ok (.getfield 19, 3) := by decide +kernel
theorem dX8_makeNewValues_100 : decode cX8_makeNewValues 100 = .ok (.iload_n 1, 1) := by decide +kernel
theorem dX8_makeNewValues_101 : decode cX8_makeNewValues 101 = .ok (.daload, 1) := by decide +kernel
theorem dX8_makeNewValues_102 : decode cX8_makeNewValues 102 = .ok (.dload_n 2, 1) := by decide +kernel
theorem dX8_makeNewValues_103 : decode cX8_makeNewValues 103 = .ok (.ddiv, 1) := by decide +kernel
theorem dX8_makeNewValues_104 : decode cX8_makeNewValues 104 = .ok (.goto 9, 3) := by decide +kernel
theorem dX8_makeNewValues_107 : decode cX8_makeNewValues 107 = .ok (.aload_n 0, 1) := by decide +kernel
theorem dX8_makeNewValues_108 : decode cX8_makeNewValues 108 = .ok (.getfield 23, 3) := by decide +kernel
theorem dX8_makeNewValues_111 : decode cX8_makeNewValues 111 = .ok (.iload_n 1, 1) := by decide +kernel
theorem dX8_makeNewValues_112 : decode cX8_makeNewValues 112 = .ok (.daload, 1) := by decide +kernel
theorem dX8_makeNewValues_113 : decode cX8_makeNewValues 113 = .ok (.dastore, 1) := by decide +kernel
theorem dX8_makeNewValues_114 : decode cX8_makeNewValues 114 = .ok (.iinc 1 1, 3) := by decide +kernel
theorem dX8_makeNewValues_117 : decode cX8_makeNewValues 117 = .ok (.goto (-115), 3) := by decide +kernel
theorem dX8_makeNewValues_120 : decode cX8_makeNewValues 120 = .ok (.return_, 1) := by decide +kernel
theorem dX8_scaleNewValues_0 : decode cX8_scaleNewValues 0 = .ok (.dconst 0, 1) := by decide +kernel
theorem dX8_scaleNewValues_1 : decode cX8_scaleNewValues 1 = .ok (.dstore_n 1, 1) := by decide +kernel
theorem dX8_scaleNewValues_2 : decode cX8_scaleNewValues 2 = .ok (.iconst 0, 1) := by decide +kernel
theorem dX8_scaleNewValues_3 : decode cX8_scaleNewValues 3 = .ok (.istore_n 3, 1) := by decide +kernel
theorem dX8_scaleNewValues_4 : decode cX8_scaleNewValues 4 = .ok (.iload_n 3, 1) := by decide +kernel
theorem dX8_scaleNewValues_5 : decode cX8_scaleNewValues 5 = .ok (.aload_n 0, 1) := by decide +kernel
theorem dX8_scaleNewValues_6 : decode cX8_scaleNewValues 6 = .ok (.getfield 9, 3) := by decide +kernel
theorem dX8_scaleNewValues_9 : decode cX8_scaleNewValues 9 = .ok (.if_icmp .ge 18, 3) := by decide +kernel
theorem dX8_scaleNewValues_12 : decode cX8_scaleNewValues 12 = .ok (.dload_n 1, 1) := by decide +kernel
theorem dX8_scaleNewValues_13 : decode cX8_scaleNewValues 13 = .ok (.aload_n 0, 1) := by decide +kernel
theorem dX8_scaleNewValues_14 : decode cX8_scaleNewValues 14 = .ok (.getfield 26, 3) := by decide +kernel
theorem dX8_scaleNewValues_17 : decode cX8_scaleNewValues 17 = .ok (.iload_n 3, 1) := by decide +kernel
theorem dX8_scaleNewValues_18 : decode cX8_scaleNewValues 18 = .ok (.daload, 1) := by decide +kernel
theorem dX8_scaleNewValues_19 : decode cX8_scaleNewValues 19 = .ok (.dadd, 1) := by decide +kernel
theorem dX8_scaleNewValues_20 : decode cX8_scaleNewValues 20 = .ok (.dstore_n 1, 1) := by decide +kernel
theorem dX8_scaleNewValues_21 : decode cX8_scaleNewValues 21 = .ok (.iinc 3 1, 3) := by decide +kernel
theorem dX8_scaleNewValues_24 : decode cX8_scaleNewValues 24 = .ok (.goto (-20), 3) := by decide +kernel
theorem dX8_scaleNewValues_27 : decode cX8_scaleNewValues 27 = .ok (.iconst 0, 1) := by decide +kernel
theorem dX8_scaleNewValues_28 : decode cX8_scaleNewValues 28 = .ok (.istore_n 3, 1) := by decide +kernel
theorem dX8_scaleNewValues_29 : decode cX8_scaleNewValues 29 = .ok (.iload_n 3, 1) := by decide +kernel
theorem dX8_scaleNewValues_30 : decode cX8_scaleNewValues 30 = .ok (.aload_n 0, 1) := by decide +kernel
theorem dX8_scaleNewValues_31 : decode cX8_scaleNewValues 31 = .ok (.getfield 9, 3) := by decide +kernel
theorem dX8_scaleNewValues_34 : decode cX8_scaleNewValues 34 = .ok (.if_icmp .ge 44, 3) := by decide +kernel
theorem dX8_scaleNewValues_37 : decode cX8_scaleNewValues 37 = .ok (.aload_n 0, 1) := by decide +kernel
theorem dX8_scaleNewValues_38 : decode cX8_scaleNewValues 38 = .ok (.getfield 23, 3) := by decide +kernel
theorem dX8_scaleNewValues_41 : decode cX8_scaleNewValues 41 = .ok (.iload_n 3, 1) := by decide +kernel
theorem dX8_scaleNewValues_42 : decode cX8_scaleNewValues 42 = .ok (.dload_n 1, 1) := by decide +kernel
theorem dX8_scaleNewValues_43 : decode cX8_scaleNewValues 43 = .ok (.dconst 0, 1) := by decide +kernel
theorem dX8_scaleNewValues_44 : decode cX8_scaleNewValues 44 = .ok (.dcmp .l, 1) := by decide +kernel
theorem dX8_scaleNewValues_45 : decode cX8_scaleNewValues 45 = .ok (.ifCond .le 20, 3) := by decide +kernel
theorem dX8_scaleNewValues_48 : decode cX8_scaleNewValues 48 = .ok (.aload_n 0, 1) := by decide +kernel
theorem dX8_scaleNewValues_49 : decode cX8_scaleNewValues 49 = .ok (.getfield 26, 3) := by decide +kernel
theorem dX8_scaleNewValues_52 : decode cX8_scaleNewValues 52 = .ok (.iload_n 3, 1) := by decide +kernel
theorem dX8_scaleNewValues_53 : decode cX8_scaleNewValues 53 = .ok (.daload, 1) := by decide +kernel
theorem dX8_scaleNewValues_54 : decode cX8_scaleNewValues 54 = .ok (.aload_n 0, 1) := by decide +kernel
theorem dX8_scaleNewValues_55 : decode cX8_scaleNewValues 55 = .ok (.getfield 9, 3) := by decide +kernel
theorem dX8_scaleNewValues_58 : decode cX8_scaleNewValues 58 = .ok (.i2d, 1) := by decide +kernel
theorem dX8_scaleNewValues_59 : decode cX8_scaleNewValues 59 = .ok (.dload_n 1, 1) := by decide +kernel
theorem dX8_scaleNewValues_60 : decode cX8_scaleNewValues 60 = .ok (.ddiv, 1) := by decide +kernel
theorem dX8_scaleNewValues_61 : decode cX8_scaleNewValues 61 = .ok (.dmul, 1) := by decide +kernel
theorem dX8_scaleNewValues_62 : decode cX8_scaleNewValues 62 = .ok (.goto 9, 3) := by decide +kernel
theorem dX8_scaleNewValues_65 : decode cX8_scaleNewValues 65 = .ok (.aload_n 0, 1) := by decide +kernel
theorem dX8_scaleNewValues_66 : decode cX8_scaleNewValues 66 = .ok (.getfield 26, 3) := by decide +kernel
theorem dX8_scaleNewValues_69 : decode cX8_scaleNewValues 69 = .ok (.iload_n 3, 1) := by decide +kernel
theorem dX8_scaleNewValues_70 : decode cX8_scaleNewValues 70 = .ok (.daload, 1) := by decide +kernel
theorem dX8_scaleNewValues_71 : decode cX8_scaleNewValues 71 = .ok (.dastore, 1) := by decide +kernel
theorem dX8_scaleNewValues_72 : decode cX8_scaleNewValues 72 = .ok (.iinc 3 1, 3) := by decide +kernel
theorem dX8_scaleNewValues_75 : decode cX8_scaleNewValues 75 = .ok (.goto (-46), 3) := by decide +kernel
theorem dX8_scaleNewValues_78 : decode cX8_scaleNewValues 78 = .ok (.return_, 1) := by decide +kernel
theorem dX8_expectedWins_0 : decode cX8_expectedWins 0 = .ok (.dconst 0, 1) := by decide +kernel
theorem dX8_expectedWins_1 : decode cX8_expectedWins 1 = .ok (.dstore_n 2, 1) := by decide +kernel
theorem dX8_expectedWins_2 : decode cX8_expectedWins 2 = .ok (.iconst 0, 1) := by decide +kernel
theorem dX8_expectedWins_3 : decode cX8_expectedWins 3 = .ok (.istore 4, 2) := by decide +kernel
theorem dX8_expectedWins_5 : decode cX8_expectedWins 5 = .ok (.iload 4, 2) := by decide +kernel
theorem dX8_expectedWins_7 : decode cX8_expectedWins 7 = .ok (.aload_n 0, 1) := by decide +kernel
theorem dX8_expectedWins_8 : decode cX8_expectedWins 8 = .ok (.getfield 9, 3) := by decide +kernel
theorem dX8_expectedWins_11 : decode cX8_expectedWins 11 = .ok (.if_icmp .ge 77, 3) := by decide +kernel
theorem dX8_expectedWins_14 : decode cX8_expectedWins 14 = .ok (.aload_n 0, 1) := by decide +kernel
theorem dX8_expectedWins_15 : decode cX8_expectedWins 15 = .ok (.getfield 23, 3) := by decide +kernel
theorem dX8_expectedWins_18 : decode cX8_expectedWins 18 = .ok (.iload_n 1, 1) := by decide +kernel
theorem dX8_expectedWins_19 : decode cX8_expectedWins 19 = .ok (.bipush 7, 2) := by decide +kernel
theorem dX8_expectedWins_21 : decode cX8_expectedWins 21 = .ok (.iand, 1) := by decide +kernel
theorem dX8_expectedWins_22 : decode cX8_expectedWins 22 = .ok (.daload, 1) := by decide +kernel
theorem dX8_expectedWins_23 : decode cX8_expectedWins 23 = .ok (.aload_n 0, 1) := by decide +kernel
theorem dX8_expectedWins_24 : decode cX8_expectedWins 24 = .ok (.getfield 23, 3) := by decide +kernel
theorem dX8_expectedWins_27 : decode cX8_expectedWins 27 = .ok (.iload 4, 2) := by decide +kernel
theorem dX8_expectedWins_29 : decode cX8_expectedWins 29 = .ok (.daload, 1) := by decide +kernel
theorem dX8_expectedWins_30 : decode cX8_expectedWins 30 = .ok (.dadd, 1) := by decide +kernel
theorem dX8_expectedWins_31 : decode cX8_expectedWins 31 = .ok (.dstore 5, 2) := by decide +kernel
theorem dX8_expectedWins_33 : decode cX8_expectedWins 33 = .ok (.aload_n 0, 1) := by decide +kernel
theorem dX8_expectedWins_34 : decode cX8_expectedWins 34 = .ok (.getfield 15, 3) := by decide +kernel
theorem dX8_expectedWins_37 : decode cX8_expectedWins 37 = .ok (.iload_n 1, 1) := by decide +kernel
theorem dX8_expectedWins_38 : decode cX8_expectedWins 38 = .ok (.iload 4, 2) := by decide +kernel
theorem dX8_expectedWins_40 : decode cX8_expectedWins 40 = .ok (.invokestatic 63, 3) := by decide +kernel
theorem dX8_expectedWins_43 : decode cX8_expectedWins 43 = .ok (.iaload, 1) := by decide +kernel
theorem dX8_expectedWins_44 : decode cX8_expectedWins 44 = .ok (.ifCond .le 38, 3) := by decide +kernel
theorem dX8_expectedWins_47 : decode cX8_expectedWins 47 = .ok (.dload 5, 2) := by decide +kernel
theorem dX8_expectedWins_49 : decode cX8_expectedWins 49 = .ok (.dconst 0, 1) := by decide +kernel
theorem dX8_expectedWins_50 : decode cX8_expectedWins 50 = .ok (.dcmp .l, 1) := by decide +kernel
theorem dX8_expectedWins_51 : decode cX8_expectedWins 51 = .ok (.ifCond .le 31, 3) := by decide +kernel
theorem dX8_expectedWins_54 : decode cX8_expectedWins 54 = .ok (.dload_n 2, 1) := by decide +kernel
theorem dX8_expectedWins_55 : decode cX8_expectedWins 55 = .ok (.aload_n 0, 1) := by decide +kernel
theorem dX8_expectedWins_56 : decode cX8_expectedWins 56 = .ok (.getfield 15, 3) := by decide +kernel
theorem dX8_expectedWins_59 : decode cX8_expectedWins 59 = .ok (.iload_n 1, 1) := by decide +kernel
theorem dX8_expectedWins_60 : decode cX8_expectedWins 60 = .ok (.iload 4, 2) := by decide +kernel
theorem dX8_expectedWins_62 : decode cX8_expectedWins 62 = .ok (.invokestatic 63, 3) := by decide +kernel
theorem dX8_expectedWins_65 : decode cX8_expectedWins 65 = .ok (.iaload, 1) := by decide +kernel
theorem dX8_expectedWins_66 : decode cX8_expectedWins 66 = .ok (.i2d, 1) := by decide +kernel
theorem dX8_expectedWins_67 : decode cX8_expectedWins 67 = .ok (.aload_n 0, 1) := by decide +kernel
theorem dX8_expectedWins_68 : decode cX8_expectedWins 68 = .ok (.getfield 23, 3) := by decide +kernel
theorem dX8_expectedWins_71 : decode cX8_expectedWins 71 = .ok (.iload_n 1, 1) := by decide +kernel
theorem dX8_expectedWins_72 : decode cX8_expectedWins 72 = .ok (.bipush 7, 2) := by decide +kernel
theorem dX8_expectedWins_74 : decode cX8_expectedWins 74 = .ok (.iand, 1) := by decide +kernel
theorem dX8_expectedWins_75 : decode cX8_expectedWins 75 = .ok (.daload, 1) := by decide +kernel
theorem dX8_expectedWins_76 : decode cX8_expectedWins 76 = .ok (.dmul, 1) := by decide +kernel
theorem dX8_expectedWins_77 : decode cX8_expectedWins 77 = .ok (.dload 5, 2) := by decide +kernel
theorem dX8_expectedWins_79 : decode cX8_expectedWins 79 = .ok (.ddiv, 1) := by decide +kernel
theorem dX8_expectedWins_80 : decode cX8_expectedWins 80 = .ok (.dadd, 1) := by decide +kernel
theorem dX8_expectedWins_81 : decode cX8_expectedWins 81 = .ok (.dstore_n 2, 1) := by decide +kernel
theorem dX8_expectedWins_82 : decode cX8_expectedWins 82 = .ok (.iinc 4 1, 3) := by decide +kernel
theorem dX8_expectedWins_85 : decode cX8_expectedWins 85 = .ok (.goto (-80), 3) := by decide +kernel
theorem dX8_expectedWins_88 : decode cX8_expectedWins 88 = .ok (.dload_n 2, 1) := by decide +kernel
theorem dX8_expectedWins_89 : decode cX8_expectedWins 89 = .ok (.dreturn, 1) := by decide +kernel
theorem dX9_init_0 : decode cX9_init 0 = .ok (.aload_n 0, 1) := by decide +kernel
theorem dX9_init_1 : decode cX9_init 1 = .ok (.invokespecial 3, 3) := by decide +kernel
theorem dX9_init_4 : decode cX9_init 4 = .ok (.aload_n 0, 1) := by decide +kernel
theorem dX9_init_5 : decode cX9_init 5 = .ok (.bipush 64, 2) := by decide +kernel
theorem dX9_init_7 : decode cX9_init 7 = .ok (.newarray .int, 2) := by decide +kernel
theorem dX9_init_9 : decode cX9_init 9 = .ok (.putfield 9, 3) := by decide +kernel
theorem dX9_init_12 : decode cX9_init 12 = .ok (.aload_n 0, 1) := by decide +kernel
theorem dX9_init_13 : decode cX9_init 13 = .ok (.bipush 64, 2) := by decide +kernel
theorem dX9_init_15 : decode cX9_init 15 = .ok (.newarray .int, 2) := by decide +kernel
theorem dX9_init_17 : decode cX9_init 17 = .ok (.putfield 15, 3) := by decide +kernel
theorem dX9_init_20 : decode cX9_init 20 = .ok (.return_, 1) := by decide +kernel
theorem dX9_take_0 : decode cX9_take 0 = .ok (.aload_n 0, 1) := by decide +kernel
theorem dX9_take_1 : decode cX9_take 1 = .ok (.getfield 9, 3) := by decide +kernel
theorem dX9_take_4 : decode cX9_take 4 = .ok (.iconst 0, 1) := by decide +kernel
theorem dX9_take_5 : decode cX9_take 5 = .ok (.invokestatic 18, 3) := by decide +kernel
theorem dX9_take_8 : decode cX9_take 8 = .ok (.aload_n 0, 1) := by decide +kernel
theorem dX9_take_9 : decode cX9_take 9 = .ok (.getfield 15, 3) := by decide +kernel
theorem dX9_take_12 : decode cX9_take 12 = .ok (.iconst 0, 1) := by decide +kernel
theorem dX9_take_13 : decode cX9_take 13 = .ok (.invokestatic 18, 3) := by decide +kernel
theorem dX9_take_16 : decode cX9_take 16 = .ok (.iconst 0, 1) := by decide +kernel
theorem dX9_take_17 : decode cX9_take 17 = .ok (.istore_n 2, 1) := by decide +kernel
theorem dX9_take_18 : decode cX9_take 18 = .ok (.iload_n 2, 1) := by decide +kernel
theorem dX9_take_19 : decode cX9_take 19 = .ok (.aload_n 1, 1) := by decide +kernel
theorem dX9_take_20 : decode cX9_take 20 = .ok (.getfield 24, 3) := by decide +kernel
theorem dX9_take_23 : decode cX9_take 23 = .ok (.if_icmp .ge 85, 3) := by decide +kernel
theorem dX9_take_26 : decode cX9_take 26 = .ok (.aload_n 1, 1) := by decide +kernel
theorem dX9_take_27 : decode cX9_take 27 = .ok (.iload_n 2, 1) := by decide +kernel
theorem dX9_take_28 : decode cX9_take 28 = .ok (.invokevirtual 30, 3) := by decide +kernel
theorem dX9_take_31 : decode cX9_take 31 = .ok (.istore_n 3, 1) := by decide +kernel
theorem dX9_take_32 : decode cX9_take 32 = .ok (.iload_n 3, 1) := by decide +kernel
theorem dX9_take_33 : decode cX9_take 33 = .ok (.invokestatic 34, 3) := by decide +kernel
theorem dX9_take_36 : decode cX9_take 36 = .ok (.ifCond .ne 46, 3) := by decide +kernel
theorem dX9_take_39 : decode cX9_take 39 = .ok (.aload_n 0, 1) := by decide +kernel
theorem dX9_take_40 : decode cX9_take 40 = .ok (.getfield 15, 3) := by decide +kernel
theorem dX9_take_43 : decode cX9_take 43 = .ok (.iload_n 3, 1) := by decide +kernel
theorem dX9_take_44 : decode cX9_take 44 = .ok (.invokestatic 37, 3) := by decide +kernel
theorem dX9_take_47 : decode cX9_take 47 = .ok (.iload_n 3, 1) := by decide +kernel
theorem dX9_take_48 : decode cX9_take 48 = .ok (.invokestatic 40, 3) := by decide +kernel
theorem dX9_take_51 : decode cX9_take 51 = .ok (.invokestatic 43, 3) := by decide +kernel
theorem dX9_take_54 : decode cX9_take 54 = .ok (.dup2, 1) := by decide +kernel
theorem dX9_take_55 : decode cX9_take 55 = .ok (.iaload, 1) := by decide +kernel
theorem dX9_take_56 : decode cX9_take 56 = .ok (.iconst 1, 1) := by decide +kernel
theorem dX9_take_57 : decode cX9_take 57 = .ok (.iadd, 1) := by decide +kernel
theorem dX9_take_58 : decode cX9_take 58 = .ok (.iastore, 1) := by decide +kernel
theorem dX9_take_59 : decode cX9_take 59 = .ok (.aload_n 0, 1) := by decide +kernel
theorem dX9_take_60 : decode cX9_take 60 = .ok (.getfield 15, 3) := by decide +kernel
theorem dX9_take_63 : decode cX9_take 63 = .ok (.iload_n 3, 1) := by decide +kernel
theorem dX9_take_64 : decode cX9_take 64 = .ok (.invokestatic 40, 3) := by decide +kernel
theorem dX9_take_67 : decode cX9_take 67 = .ok (.iload_n 3, 1) := by decide +kernel
theorem dX9_take_68 : decode cX9_take 68 = .ok (.invokestatic 37, 3) := by decide +kernel
theorem dX9_take_71 : decode cX9_take 71 = .ok (.invokestatic 43, 3) := by decide +kernel
theorem dX9_take_74 : decode cX9_take 74 = .ok (.dup2, 1) := by decide +kernel
theorem dX9_take_75 : decode cX9_take 75 = .ok (.iaload, 1) := by decide +kernel
theorem dX9_take_76 : decode cX9_take 76 = .ok (.iconst 1, 1) := by decide +kernel
theorem dX9_take_77 : decode cX9_take 77 = .ok (.iadd, 1) := by decide +kernel
theorem dX9_take_78 : decode cX9_take 78 = .ok (.iastore, 1) := by decide +kernel
theorem dX9_take_79 : decode cX9_take 79 = .ok (.goto 23, 3) := by decide +kernel
theorem dX9_take_82 : decode cX9_take 82 = .ok (.aload_n 0, 1) := by decide +kernel
theorem dX9_take_83 : decode cX9_take 83 = .ok (.getfield 9, 3) := by decide +kernel
theorem dX9_take_86 : decode cX9_take 86 = .ok (.iload_n 3, 1) := by decide +kernel
theorem dX9_take_87 : decode cX9_take 87 = .ok (.invokestatic 47, 3) := by decide +kernel
theorem dX9_take_90 : decode cX9_take 90 = .ok (.iload_n 3, 1) := by decide +kernel
theorem dX9_take_91 : decode cX9_take 91 = .ok (.invokestatic 50, 3) := by decide +kernel
theorem dX9_take_94 : decode cX9_take 94 = .ok (.invokestatic 43, 3) := by decide +kernel
theorem dX9_take_97 : decode cX9_take 97 = .ok (.dup2, 1) := by decide +kernel
theorem dX9_take_98 : decode cX9_take 98 = .ok (.iaload, 1) := by decide +kernel
theorem dX9_take_99 : decode cX9_take 99 = .ok (.iconst 1, 1) := by decide +kernel
theorem dX9_take_100 : decode cX9_take 100 = .ok (.iadd, 1) := by decide +kernel
theorem dX9_take_101 : decode cX9_take 101 = .ok (.iastore, 1) := by decide +kernel
theorem dX9_take_102 : decode cX9_take 102 = .ok (.iinc 2 1, 3) := by decide +kernel
theorem dX9_take_105 : decode cX9_take 105 = .ok (.goto (-87), 3) := by decide +kernel
theorem dX9_take_108 : decode cX9_take 108 = .ok (.return_, 1) := by decide +kernel
theorem dX9_winsOf_0 : decode cX9_winsOf 0 = .ok (.aload_n 0, 1) := by decide +kernel
theorem dX9_winsOf_1 : decode cX9_winsOf 1 = .ok (.getfield 9, 3) := by decide +kernel
theorem dX9_winsOf_4 : decode cX9_winsOf 4 = .ok (.iload_n 1, 1) := by decide +kernel
theorem dX9_winsOf_5 : decode cX9_winsOf 5 = .ok (.iload_n 2, 1) := by decide +kernel
theorem dX9_winsOf_6 : decode cX9_winsOf 6 = .ok (.invokestatic 43, 3) := by decide +kernel
theorem dX9_winsOf_9 : decode cX9_winsOf 9 = .ok (.iaload, 1) := by decide +kernel
theorem dX9_winsOf_10 : decode cX9_winsOf 10 = .ok (.ireturn, 1) := by decide +kernel
theorem dX9_tiesOf_0 : decode cX9_tiesOf 0 = .ok (.aload_n 0, 1) := by decide +kernel
theorem dX9_tiesOf_1 : decode cX9_tiesOf 1 = .ok (.getfield 15, 3) := by decide +kernel
theorem dX9_tiesOf_4 : decode cX9_tiesOf 4 = .ok (.iload_n 1, 1) := by decide +kernel
theorem dX9_tiesOf_5 : decode cX9_tiesOf 5 = .ok (.iload_n 2, 1) := by decide +kernel
theorem dX9_tiesOf_6 : decode cX9_tiesOf 6 = .ok (.invokestatic 43, 3) := by decide +kernel
theorem dX9_tiesOf_9 : decode cX9_tiesOf 9 = .ok (.iaload, 1) := by decide +kernel
theorem dX9_tiesOf_10 : decode cX9_tiesOf 10 = .ok (.ireturn, 1) := by decide +kernel
theorem dX9_decidedOf_0 : decode cX9_decidedOf 0 = .ok (.aload_n 0, 1) := by decide +kernel
theorem dX9_decidedOf_1 : decode cX9_decidedOf 1 = .ok (.getfield 9, 3) := by decide +kernel
theorem dX9_decidedOf_4 : decode cX9_decidedOf 4 = .ok (.iload_n 1, 1) := by decide +kernel
theorem dX9_decidedOf_5 : decode cX9_decidedOf 5 = .ok (.iload_n 2, 1) := by decide +kernel
theorem dX9_decidedOf_6 : decode cX9_decidedOf 6 = .ok (.invokestatic 43, 3) := by decide +kernel
theorem dX9_decidedOf_9 : decode cX9_decidedOf 9 = .ok (.iaload, 1) := by decide +kernel
theorem dX9_decidedOf_10 : decode cX9_decidedOf 10 = .ok (.aload_n 0, 1) := by decide +kernel
theorem dX9_decidedOf_11 : decode cX9_decidedOf 11 = .ok (.getfield 9, 3) := by decide +kernel
theorem dX9_decidedOf_14 : decode cX9_decidedOf 14 = .ok (.iload_n 2, 1) := by decide +kernel
theorem dX9_decidedOf_15 : decode cX9_decidedOf 15 = .ok (.iload_n 1, 1) := by decide +kernel
theorem dX9_decidedOf_16 : decode cX9_decidedOf 16 = .ok (.invokestatic 43, 3) := by decide +kernel
theorem dX9_decidedOf_19 : decode cX9_decidedOf 19 = .ok (.iaload, 1) := by decide +kernel
theorem dX9_decidedOf_20 : decode cX9_decidedOf 20 = .ok (.iadd, 1) := by decide +kernel
theorem dX9_decidedOf_21 : decode cX9_decidedOf 21 = .ok (.ireturn, 1) := by decide +kernel
theorem dX9_chanceOf_0 : decode cX9_chanceOf 0 = .ok (.aload_n 0, 1) := by decide +kernel
theorem dX9_chanceOf_1 : decode cX9_chanceOf 1 = .ok (.iload_n 1, 1) := by decide +kernel
theorem dX9_chanceOf_2 : decode cX9_chanceOf 2 = .ok (.iload_n 2, 1) := by decide +kernel
theorem dX9_chanceOf_3 : decode cX9_chanceOf 3 = .ok (.invokevirtual 53, 3) := by decide +kernel
theorem dX9_chanceOf_6 : decode cX9_chanceOf 6 = .ok (.aload_n 0, 1) := by decide +kernel
theorem dX9_chanceOf_7 : decode cX9_chanceOf 7 = .ok (.iload_n 2, 1) := by decide +kernel
theorem dX9_chanceOf_8 : decode cX9_chanceOf 8 = .ok (.iload_n 1, 1) := by decide +kernel
theorem dX9_chanceOf_9 : decode cX9_chanceOf 9 = .ok (.invokevirtual 53, 3) := by decide +kernel
theorem dX9_chanceOf_12 : decode cX9_chanceOf 12 = .ok (.invokestatic 56, 3) := by decide +kernel
theorem dX9_chanceOf_15 : decode cX9_chanceOf 15 = .ok (.lreturn, 1) := by decide +kernel
theorem dX10_init_0 : decode cX10_init 0 = .ok (.aload_n 0, 1) := by decide +kernel
theorem dX10_init_1 : decode cX10_init 1 = .ok (.invokespecial 3, 3) := by decide +kernel
theorem dX10_init_4 : decode cX10_init 4 = .ok (.aload_n 0, 1) := by decide +kernel
theorem dX10_init_5 : decode cX10_init 5 = .ok (.bipush 60, 2) := by decide +kernel
theorem dX10_init_7 : decode cX10_init 7 = .ok (.newarray .int, 2) := by decide +kernel
theorem dX10_init_9 : decode cX10_init 9 = .ok (.putfield 9, 3) := by decide +kernel
theorem dX10_init_12 : decode cX10_init 12 = .ok (.aload_n 0, 1) := by decide +kernel
theorem dX10_init_13 : decode cX10_init 13 = .ok (.iconst 0, 1) := by decide +kernel
theorem dX10_init_14 : decode cX10_init 14 = .ok (.putfield 15, 3) := by decide +kernel
theorem dX10_init_17 : decode cX10_init 17 = .ok (.aload_n 0, 1) := by decide +kernel
theorem dX10_init_18 : decode cX10_init 18 = .ok (.bipush 15, 2) := by decide +kernel
theorem dX10_init_20 : decode cX10_init 20 = .ok (.newarray .int, 2) := by decide +kernel
theorem dX10_init_22 : decode cX10_init 22 = .ok (.putfield 19, 3) := by decide +kernel
theorem dX10_init_25 : decode cX10_init 25 = .ok (.aload_n 0, 1) := by decide +kernel
theorem dX10_init_26 : decode cX10_init 26 = .ok (.iconst 0, 1) := by decide +kernel
theorem dX10_init_27 : decode cX10_init 27 = .ok (.putfield 22, 3) := by decide +kernel
theorem dX10_init_30 : decode cX10_init 30 = .ok (.aload_n 0, 1) := by decide +kernel
theorem dX10_init_31 : decode cX10_init 31 = .ok (.iconst 0, 1) := by decide +kernel
theorem dX10_init_32 : decode cX10_init 32 = .ok (.putfield 25, 3) := by decide +kernel
theorem dX10_init_35 : decode cX10_init 35 = .ok (.aload_n 0, 1) := by decide +kernel
theorem dX10_init_36 : decode cX10_init 36 = .ok (.iconst 0, 1) := by decide +kernel
theorem dX10_init_37 : decode cX10_init 37 = .ok (.putfield 28, 3) := by decide +kernel
theorem dX10_init_40 : decode cX10_init 40 = .ok (.aload_n 0, 1) := by decide +kernel
theorem dX10_init_41 : decode cX10_init 41 = .ok (.iconst 0, 1) := by decide +kernel
theorem dX10_init_42 : decode cX10_init 42 = .ok (.putfield 31, 3) := by decide +kernel
theorem dX10_init_45 : decode cX10_init 45 = .ok (.aload_n 0, 1) := by decide +kernel
theorem dX10_init_46 : decode cX10_init 46 = .ok (.iconst 0, 1) := by decide +kernel
theorem dX10_init_47 : decode cX10_init 47 = .ok (.putfield 34, 3) := by decide +kernel
theorem dX10_init_50 : decode cX10_init 50 = .ok (.return_, 1) := by decide +kernel
theorem dX10_isFull_0 : decode cX10_isFull 0 = .ok (.aload_n 0, 1) := by decide +kernel
theorem dX10_isFull_1 : decode cX10_isFull 1 = .ok (.getfield 15, 3) := by decide +kernel
theorem dX10_isFull_4 : decode cX10_isFull 4 = .ok (.bipush 60, 2) := by decide +kernel
theorem dX10_isFull_6 : decode cX10_isFull 6 = .ok (.if_icmp .lt 7, 3) := by decide +kernel
theorem dX10_isFull_9 : decode cX10_isFull 9 = .ok (.iconst 1, 1) := by decide +kernel
theorem dX10_isFull_10 : decode cX10_isFull 10 = .ok (.goto 4, 3) := by decide +kernel
theorem dX10_isFull_13 : decode cX10_isFull 13 = .ok (.iconst 0, 1) := by decide +kernel
theorem dX10_isFull_14 : decode cX10_isFull 14 = .ok (.ireturn, 1) := by decide +kernel
theorem dX10_put_0 : decode cX10_put 0 = .ok (.aload_n 0, 1) := by decide +kernel
theorem dX10_put_1 : decode cX10_put 1 = .ok (.invokevirtual 37, 3) := by decide +kernel
theorem dX10_put_4 : decode cX10_put 4 = .ok (.ifCond .ne 23, 3) := by decide +kernel
theorem dX10_put_7 : decode cX10_put 7 = .ok (.aload_n 0, 1) := by decide +kernel
theorem dX10_put_8 : decode cX10_put 8 = .ok (.getfield 9, 3) := by decide +kernel
theorem dX10_put_11 : decode cX10_put 11 = .ok (.aload_n 0, 1) := by decide +kernel
theorem dX10_put_12 : decode cX10_put 12 = .ok (.getfield 15, 3) := by decide +kernel
theorem dX10_put_15 : decode cX10_put 15 = .ok (.iload_n 1, 1) := by decide +kernel
theorem dX10_put_16 : decode cX10_put 16 = .ok (.iastore, 1) := by decide +kernel
theorem dX10_put_17 : decode cX10_put 17 = .ok (.aload_n 0, 1) := by decide +kernel
theorem dX10_put_18 : decode cX10_put 18 = .ok (.dup, 1) := by decide +kernel
theorem dX10_put_19 : decode cX10_put 19 = .ok (.getfield 15, 3) := by decide +kernel
theorem dX10_put_22 : decode cX10_put 22 = .ok (.iconst 1, 1) := by decide +kernel
theorem dX10_put_23 : decode cX10_put 23 = .ok (.iadd, 1) := by decide +kernel
theorem dX10_put_24 : decode cX10_put 24 = .ok (.putfield 15, 3) := by decide +kernel
theorem dX10_put_27 : decode cX10_put 27 = .ok (.return_, 1) := by decide +kernel
theorem dX10_codeAt_0 : decode cX10_codeAt 0 = .ok (.iload_n 1, 1) := by decide +kernel
theorem dX10_codeAt_1 : decode cX10_codeAt 1 = .ok (.ifCond .lt 20, 3) := by decide +kernel
theorem dX10_codeAt_4 : decode cX10_codeAt 4 = .ok (.iload_n 1, 1) := by decide +kernel
theorem dX10_codeAt_5 : decode cX10_codeAt 5 = .ok (.aload_n 0, 1) := by decide +kernel
theorem dX10_codeAt_6 : decode cX10_codeAt 6 = .ok (.getfield 15, 3) := by decide +kernel
theorem dX10_codeAt_9 : decode cX10_codeAt 9 = .ok (.if_icmp .ge 12, 3) := by decide +kernel
theorem dX10_codeAt_12 : decode cX10_codeAt 12 = .ok (.aload_n 0, 1) := by decide +kernel
theorem dX10_codeAt_13 : decode cX10_codeAt 13 = .ok (.getfield 9, 3) := by decide +kernel
theorem dX10_codeAt_16 : decode cX10_codeAt 16 = .ok (.iload_n 1, 1) := by decide +kernel
theorem dX10_codeAt_17 : decode cX10_codeAt 17 = .ok (.iaload, 1) := by decide +kernel
theorem dX10_codeAt_18 : decode cX10_codeAt 18 = .ok (.goto 4, 3) := by decide +kernel
theorem dX10_codeAt_21 : decode cX10_codeAt 21 = .ok (.iconst 0, 1) := by decide +kernel
theorem dX10_codeAt_22 : decode cX10_codeAt 22 = .ok (.ireturn, 1) := by decide +kernel
theorem dX10_foundAt_0 : decode cX10_foundAt 0 = .ok (.iload_n 1, 1) := by decide +kernel
theorem dX10_foundAt_1 : decode cX10_foundAt 1 = .ok (.ifCond .lt 20, 3) := by decide +kernel
theorem dX10_foundAt_4 : decode cX10_foundAt 4 = .ok (.iload_n 1, 1) := by decide +kernel
theorem dX10_foundAt_5 : decode cX10_foundAt 5 = .ok (.aload_n 0, 1) := by decide +kernel
theorem dX10_foundAt_6 : decode cX10_foundAt 6 = .ok (.getfield 22, 3) := by decide +kernel
theorem dX10_foundAt_9 : decode cX10_foundAt 9 = .ok (.if_icmp .ge 12, 3) := by decide +kernel
theorem dX10_foundAt_12 : decode cX10_foundAt 12 = .ok (.aload_n 0, 1) := by decide +kernel
theorem dX10_foundAt_13 : decode cX10_foundAt 13 = .ok (.getfield 19, 3) := by decide +kernel
theorem dX10_foundAt_16 : decode cX10_foundAt 16 = .ok (.iload_n 1, 1) := by decide +kernel
theorem dX10_foundAt_17 : decode cX10_foundAt 17 = .ok (.iaload, 1) := by decide +kernel
theorem dX10_foundAt_18 : decode cX10_foundAt 18 = .ok (.goto 4, 3) := by decide +kernel
theorem dX10_foundAt_21 : decode cX10_foundAt 21 = .ok (.iconst 0, 1) := by decide +kernel
theorem dX10_foundAt_22 : decode cX10_foundAt 22 = .ok (.ireturn, 1) := by decide +kernel
theorem dX10_isWhole_0 : decode cX10_isWhole 0 = .ok (.aload_n 0, 1) := by decide +kernel
theorem dX10_isWhole_1 : decode cX10_isWhole 1 = .ok (.iload_n 1, 1) := by decide +kernel
theorem dX10_isWhole_2 : decode cX10_isWhole 2 = .ok (.iload_n 2, 1) := by decide +kernel
theorem dX10_isWhole_3 : decode cX10_isWhole 3 = .ok (.invokevirtual 41, 3) := by decide +kernel
theorem dX10_isWhole_6 : decode cX10_isWhole 6 = .ok (.aload_n 0, 1) := by decide +kernel
theorem dX10_isWhole_7 : decode cX10_isWhole 7 = .ok (.getfield 15, 3) := by decide +kernel
theorem dX10_isWhole_10 : decode cX10_isWhole 10 = .ok (.if_icmp .ne 15, 3) := by decide +kernel
theorem dX10_isWhole_13 : decode cX10_isWhole 13 = .ok (.aload_n 0, 1) := by decide +kernel
theorem dX10_isWhole_14 : decode cX10_isWhole 14 = .ok (.getfield 25, 3) := by decide +kernel
theorem dX10_isWhole_17 : decode cX10_isWhole 17 = .ok (.iconst 5, 1) := by decide +kernel
theorem dX10_isWhole_18 : decode cX10_isWhole 18 = .ok (.if_icmp .ne 7, 3) := by decide +kernel
theorem dX10_isWhole_21 : decode cX10_isWhole 21 = .ok (.iconst 1, 1) := by decide +kernel
theorem dX10_isWhole_22 : decode cX10_isWhole 22 = .ok (.goto 4, 3) := by decide +kernel
theorem dX10_isWhole_25 : decode cX10_isWhole 25 = .ok (.iconst 0, 1) := by decide +kernel
theorem dX10_isWhole_26 : decode cX10_isWhole 26 = .ok (.ireturn, 1) := by decide +kernel
theorem dX10_scan_0 : decode cX10_scan 0 = .ok (.aload_n 0, 1) := by decide +kernel
theorem dX10_scan_1 : decode cX10_scan 1 = .ok (.iconst 0, 1) := by decide +kernel
theorem dX10_scan_2 : decode cX10_scan 2 = .ok (.putfield 22, 3) := by decide +kernel
theorem dX10_scan_5 : decode cX10_scan 5 = .ok (.aload_n 0, 1) := by decide +kernel
theorem dX10_scan_6 : decode cX10_scan 6 = .ok (.iconst 0, 1) := by decide +kernel
theorem dX10_scan_7 : decode cX10_scan 7 = .ok (.putfield 25, 3) := by decide +kernel
theorem dX10_scan_10 : decode cX10_scan 10 = .ok (.iconst 0, 1) := by decide +kernel
theorem dX10_scan_11 : decode cX10_scan 11 = .ok (.istore_n 3, 1) := by decide +kernel
theorem dX10_scan_12 : decode cX10_scan 12 = .ok (.iload_n 3, 1) := by decide +kernel
theorem dX10_scan_13 : decode cX10_scan 13 = .ok (.aload_n 0, 1) := by decide +kernel
theorem dX10_scan_14 : decode cX10_scan 14 = .ok (.getfield 15, 3) := by decide +kernel
theorem dX10_scan_17 : decode cX10_scan 17 = .ok (.if_icmp .ge 26, 3) := by decide +kernel
theorem dX10_scan_20 : decode cX10_scan 20 = .ok (.aload_n 0, 1) := by decide +kernel
theorem dX10_scan_21 : decode cX10_scan 21 = .ok (.aload_n 0, 1) := by decide +kernel
theorem dX10_scan_22 : decode cX10_scan 22 = .ok (.getfield 9, 3) := by decide +kernel
theorem dX10_scan_25 : decode cX10_scan 25 = .ok (.iload_n 3, 1) := by decide +kernel
theorem dX10_scan_26 : decode cX10_scan 26 = .ok (.iaload, 1) := by decide +kernel
theorem dX10_scan_27 : decode cX10_scan 27 = .ok (.iload_n 1, 1) := by decide +kernel
theorem dX10_scan_28 : decode cX10_scan 28 = .ok (.iload_n 2, 1) := by decide +kernel
theorem dX10_scan_29 : decode cX10_scan 29 = .ok (.invokevirtual 45, 3) := by decide +kernel
theorem dX10_scan_32 : decode cX10_scan 32 = .ok (.ifCond .ne 5, 3) := by decide +kernel
theorem dX10_scan_35 : decode cX10_scan 35 = .ok (.iload_n 3, 1) := by decide +kernel
theorem dX10_scan_36 : decode cX10_scan 36 = .ok (.ireturn, 1) := by decide +kernel
theorem dX10_scan_37 : decode cX10_scan 37 = .ok (.iinc 3 1, 3) := by decide +kernel
theorem dX10_scan_40 : decode cX10_scan 40 = .ok (.goto (-28), 3) := by decide +kernel
theorem dX10_scan_43 : decode cX10_scan 43 = .ok (.aload_n 0, 1) := by decide +kernel
theorem dX10_scan_44 : decode cX10_scan 44 = .ok (.getfield 15, 3) := by decide +kernel
theorem dX10_scan_47 : decode cX10_scan 47 = .ok (.ireturn, 1) := by decide +kernel
theorem dX10_takes_0 : decode cX10_takes 0 = .ok (.aload_n 0, 1) := by decide +kernel
theorem dX10_takes_1 : decode cX10_takes 1 = .ok (.getfield 25, 3) := by decide +kernel
theorem dX10_takes_4 : decode cX10_takes 4 = .ok (.tableswitch 163 0 4 #[36, 70, 87, 121, 148], 36) := by decide +kernel
theorem dX10_takes_40 : decode cX10_takes 40 = .ok (.aload_n 0, 1) := by decide +kernel
theorem dX10_takes_41 : decode cX10_takes 41 = .ok (.iload_n 1, 1) := by decide +kernel
theorem dX10_takes_42 : decode cX10_takes 42 = .ok (.bipush 48, 2) := by decide +kernel
theorem dX10_takes_44 : decode cX10_takes 44 = .ok (.isub, 1) := by decide +kernel
theorem dX10_takes_45 : decode cX10_takes 45 = .ok (.putfield 28, 3) := by decide +kernel
theorem dX10_takes_48 : decode cX10_takes 48 = .ok (.aload_n 0, 1) := by decide +kernel
theorem dX10_takes_49 : decode cX10_takes 49 = .ok (.iconst 1, 1) := by decide +kernel
theorem dX10_takes_50 : decode cX10_takes 50 = .ok (.putfield 25, 3) := by decide +kernel
theorem dX10_takes_53 : decode cX10_takes 53 = .ok (.aload_n 0, 1) := by decide +kernel
theorem dX10_takes_54 : decode cX10_takes 54 = .ok (.getfield 28, 3) := by decide +kernel
theorem dX10_takes_57 : decode cX10_takes 57 = .ok (.ifCond .lt 15, 3) := by decide +kernel
theorem dX10_takes_60 : decode cX10_takes 60 = .ok (.aload_n 0, 1) := by decide +kernel
theorem dX10_takes_61 : decode cX10_takes 61 = .ok (.getfield 28, 3) := by decide +kernel
theorem dX10_takes_64 : decode cX10_takes 64 = .ok (.iload_n 3, 1) := by decide +kernel
theorem dX10_takes_65 : decode cX10_takes 65 = .ok (.if_icmp .ge 7, 3) := by decide +kernel
theorem dX10_takes_68 : decode cX10_takes 68 = .ok (.iconst 1, 1) := by decide +kernel
theorem dX10_takes_69 : decode cX10_takes 69 = .ok (.goto 4, 3) := by decide +kernel
theorem dX10_takes_72 : decode cX10_takes 72 = .ok (.iconst 0, 1) := by decide +kernel
theorem dX10_takes_73 : decode cX10_takes 73 = .ok (.ireturn, 1) := by decide +kernel
theorem dX10_takes_74 : decode cX10_takes 74 = .ok (.aload_n 0, 1) := by decide +kernel
theorem dX10_takes_75 : decode cX10_takes 75 = .ok (.iconst 2, 1) := by decide +kernel
theorem dX10_takes_76 : decode cX10_takes 76 = .ok (.putfield 25, 3) := by decide +kernel
theorem dX10_takes_79 : decode cX10_takes 79 = .ok (.iload_n 1, 1) := by decide +kernel
theorem dX10_takes_80 : decode cX10_takes 80 = .ok (.bipush 58, 2) := by decide +kernel
theorem dX10_takes_82 : decode cX10_takes 82 = .ok (.if_icmp .ne 7, 3) := by decide +kernel
theorem dX10_takes_85 : decode cX10_takes 85 = .ok (.iconst 1, 1) := by decide +kernel
theorem dX10_takes_86 : decode cX10_takes 86 = .ok (.goto 4, 3) := by decide +kernel
theorem dX10_takes_89 : decode cX10_takes 89 = .ok (.iconst 0, 1) := by decide +kernel
theorem dX10_takes_90 : decode cX10_takes 90 = .ok (.ireturn, 1) := by decide +kernel
theorem dX10_takes_91 : decode cX10_takes 91 = .ok (.aload_n 0, 1) := by decide +kernel
theorem dX10_takes_92 : decode cX10_takes 92 = .ok (.iload_n 1, 1) := by decide +kernel
theorem dX10_takes_93 : decode cX10_takes 93 = .ok (.bipush 97, 2) := by decide +kernel
theorem dX10_takes_95 : decode cX10_takes 95 = .ok (.isub, 1) := by decide +kernel
theorem dX10_takes_96 : decode cX10_takes 96 = .ok (.putfield 31, 3) := by decide +kernel
theorem dX10_takes_99 : decode cX10_takes 99 = .ok (.aload_n 0, 1) := by decide +kernel
theorem dX10_takes_100 : decode cX10_takes 100 = .ok (.iconst 3, 1) := by decide +kernel
theorem dX10_takes_101 : decode cX10_takes 101 = .ok (.putfield 25, 3) := by decide +kernel
theorem dX10_takes_104 : decode cX10_takes 104 = .ok (.aload_n 0, 1) := by decide +kernel
theorem dX10_takes_105 : decode cX10_takes 105 = .ok (.getfield 31, 3) := by decide +kernel
theorem dX10_takes_108 : decode cX10_takes 108 = .ok (.ifCond .lt 15, 3) := by decide +kernel
theorem dX10_takes_111 : decode cX10_takes 111 = .ok (.aload_n 0, 1) := by decide +kernel
theorem dX10_takes_112 : decode cX10_takes 112 = .ok (.getfield 31, 3) := by decide +kernel
theorem dX10_takes_115 : decode cX10_takes 115 = .ok (.iload_n 2, 1) := by decide +kernel
theorem dX10_takes_116 : decode cX10_takes 116 = .ok (.if_icmp .ge 7, 3) := by decide +kernel
theorem dX10_takes_119 : decode cX10_takes 119 = .ok (.iconst 1, 1) := by decide +kernel
theorem dX10_takes_120 : decode cX10_takes 120 = .ok (.goto 4, 3) := by decide +kernel
theorem dX10_takes_123 : decode cX10_takes 123 = .ok (.iconst 0, 1) := by decide +kernel
theorem dX10_takes_124 : decode cX10_takes 124 = .ok (.ireturn, 1) := by decide +kernel
theorem dX10_takes_125 : decode cX10_takes 125 = .ok (.aload_n 0, 1) := by decide +kernel
theorem dX10_takes_126 : decode cX10_takes 126 = .ok (.iload_n 1, 1) := by decide +kernel
theorem dX10_takes_127 : decode cX10_takes 127 = .ok (.invokestatic 49, 3) := by decide +kernel
theorem dX10_takes_130 : decode cX10_takes 130 = .ok (.putfield 34, 3) := by decide +kernel
theorem dX10_takes_133 : decode cX10_takes 133 = .ok (.aload_n 0, 1) := by decide +kernel
theorem dX10_takes_134 : decode cX10_takes 134 = .ok (.iconst 4, 1) := by decide +kernel
theorem dX10_takes_135 : decode cX10_takes 135 = .ok (.putfield 25, 3) := by decide +kernel
theorem dX10_takes_138 : decode cX10_takes 138 = .ok (.aload_n 0, 1) := by decide +kernel
theorem dX10_takes_139 : decode cX10_takes 139 = .ok (.getfield 34, 3) := by decide +kernel
theorem dX10_takes_142 : decode cX10_takes 142 = .ok (.iconst (-1), 1) := by decide +kernel
theorem dX10_takes_143 : decode cX10_takes 143 = .ok (.if_icmp .eq 7, 3) := by decide +kernel
theorem dX10_takes_146 : decode cX10_takes 146 = .ok (.iconst 1, 1) := by decide +kernel
theorem dX10_takes_147 : decode cX10_takes 147 = .ok (.goto 4, 3) := by decide +kernel
theorem dX10_takes_150 : decode cX10_takes 150 = .ok (.iconst 0, 1) := by decide +kernel
theorem dX10_takes_151 : decode cX10_takes 151 = .ok (.ireturn, 1) := by decide +kernel
theorem dX10_takes_152 : decode cX10_takes 152 = .ok (.aload_n 0, 1) := by decide +kernel
theorem dX10_takes_153 : decode cX10_takes 153 = .ok (.iconst 5, 1) := by decide +kernel
theorem dX10_takes_154 : decode cX10_takes 154 = .ok (.putfield 25, 3) := by decide +kernel
theorem dX10_takes_157 : decode cX10_takes 157 = .ok (.aload_n 0, 1) := by decide +kernel
theorem dX10_takes_158 : decode cX10_takes 158 = .ok (.iload_n 1, 1) := by decide +kernel
theorem dX10_takes_159 : decode cX10_takes 159 = .ok (.bipush 97, 2) := by decide +kernel
theorem dX10_takes_161 : decode cX10_takes 161 = .ok (.isub, 1) := by decide +kernel
theorem dX10_takes_162 : decode cX10_takes 162 = .ok (.iload_n 2, 1) := by decide +kernel
theorem dX10_takes_163 : decode cX10_takes 163 = .ok (.invokevirtual 53, 3) := by decide +kernel
theorem dX10_takes_166 : decode cX10_takes 166 = .ok (.ireturn, 1) := by decide +kernel
theorem dX10_takes_167 : decode cX10_takes 167 = .ok (.aload_n 0, 1) := by decide +kernel
theorem dX10_takes_168 : decode cX10_takes 168 = .ok (.iload_n 1, 1) := by decide +kernel
theorem dX10_takes_169 : decode cX10_takes 169 = .ok (.bipush 44, 2) := by decide +kernel
theorem dX10_takes_171 : decode cX10_takes 171 = .ok (.if_icmp .ne 7, 3) := by decide +kernel
theorem dX10_takes_174 : decode cX10_takes 174 = .ok (.iconst 2, 1) := by decide +kernel
theorem dX10_takes_175 : decode cX10_takes 175 = .ok (.goto 4, 3) := by decide +kernel
theorem dX10_takes_178 : decode cX10_takes 178 = .ok (.iconst 0, 1) := by decide +kernel
theorem dX10_takes_179 : decode cX10_takes 179 = .ok (.putfield 25, 3) := by decide +kernel
theorem dX10_takes_182 : decode cX10_takes 182 = .ok (.iload_n 1, 1) := by decide +kernel
theorem dX10_takes_183 : decode cX10_takes 183 = .ok (.bipush 44, 2) := by decide +kernel
theorem dX10_takes_185 : decode cX10_takes 185 = .ok (.if_icmp .eq 9, 3) := by decide +kernel
theorem dX10_takes_188 : decode cX10_takes 188 = .ok (.iload_n 1, 1) := by decide +kernel
theorem dX10_takes_189 : decode cX10_takes 189 = .ok (.bipush 59, 2) := by decide +kernel
theorem dX10_takes_191 : decode cX10_takes 191 = .ok (.if_icmp .ne 7, 3) := by decide +kernel
theorem dX10_takes_194 : decode cX10_takes 194 = .ok (.iconst 1, 1) := by decide +kernel
theorem dX10_takes_195 : decode cX10_takes 195 = .ok (.goto 4, 3) := by decide +kernel
theorem dX10_takes_198 : decode cX10_takes 198 = .ok (.iconst 0, 1) := by decide +kernel
theorem dX10_takes_199 : decode cX10_takes 199 = .ok (.ireturn, 1) := by decide +kernel
theorem dX10_takesSecond_0 : decode cX10_takesSecond 0 = .ok (.iload_n 1, 1) := by decide +kernel
theorem dX10_takesSecond_1 : decode cX10_takesSecond 1 = .ok (.ifCond .lt 28, 3) := by decide +kernel
theorem dX10_takesSecond_4 : decode cX10_takesSecond 4 = .ok (.iload_n 1, 1) := by decide +kernel
theorem dX10_takesSecond_5 : decode cX10_takesSecond 5 = .ok (.iload_n 2, 1) := by decide +kernel
theorem dX10_takesSecond_6 : decode cX10_takesSecond 6 = .ok (.if_icmp .ge 23, 3) := by decide +kernel
theorem dX10_takesSecond_9 : decode cX10_takesSecond 9 = .ok (.iload_n 1, 1) := by decide +kernel
theorem dX10_takesSecond_10 : decode cX10_takesSecond 10 = .ok (.aload_n 0, 1) := by decide +kernel
theorem dX10_takesSecond_11 : decode cX10_takesSecond 11 = .ok (.getfield 31, 3) := by decide +kernel
theorem dX10_takesSecond_14 : decode cX10_takesSecond 14 = .ok (.if_icmp .eq 15, 3) := by decide +kernel
theorem dX10_takesSecond_17 : decode cX10_takesSecond 17 = .ok (.aload_n 0, 1) := by decide +kernel
theorem dX10_takesSecond_18 : decode cX10_takesSecond 18 = .ok (.getfield 22, 3) := by decide +kernel
theorem dX10_takesSecond_21 : decode cX10_takesSecond 21 = .ok (.aload_n 0, 1) := by decide +kernel
theorem dX10_takesSecond_22 : decode cX10_takesSecond 22 = .ok (.getfield 19, 3) := by decide +kernel
theorem dX10_takesSecond_25 : decode cX10_takesSecond 25 = .ok (.arraylength, 1) := by decide +kernel
theorem dX10_takesSecond_26 : decode cX10_takesSecond 26 = .ok (.if_icmp .lt 5, 3) := by decide +kernel
theorem dX10_takesSecond_29 : decode cX10_takesSecond 29 = .ok (.iconst 0, 1) := by decide +kernel
theorem dX10_takesSecond_30 : decode cX10_takesSecond 30 = .ok (.ireturn, 1) := by decide +kernel
theorem dX10_takesSecond_31 : decode cX10_takesSecond 31 = .ok (.aload_n 0, 1) := by decide +kernel
theorem dX10_takesSecond_32 : decode cX10_takesSecond 32 = .ok (.getfield 19, 3) := by decide +kernel
theorem dX10_takesSecond_35 : decode cX10_takesSecond 35 = .ok (.aload_n 0, 1) := by decide +kernel
theorem dX10_takesSecond_36 : decode cX10_takesSecond 36 = .ok (.getfield 22, 3) := by decide +kernel
theorem dX10_takesSecond_39 : decode cX10_takesSecond 39 = .ok (.aload_n 0, 1) := by decide +kernel
theorem dX10_takesSecond_40 : decode cX10_takesSecond 40 = .ok (.getfield 28, 3) := by decide +kernel
theorem dX10_takesSecond_43 : decode cX10_takesSecond 43 = .ok (.aload_n 0, 1) := by decide +kernel
theorem dX10_takesSecond_44 : decode cX10_takesSecond 44 = .ok (.getfield 31, 3) := by decide +kernel
theorem dX10_takesSecond_47 : decode cX10_takesSecond 47 = .ok (.iload_n 1, 1) := by decide +kernel
theorem dX10_takesSecond_48 : decode cX10_takesSecond 48 = .ok (.aload_n 0, 1) := by decide +kernel
theorem dX10_takesSecond_49 : decode cX10_takesSecond 49 = .ok (.getfield 34, 3) := by decide +kernel
theorem dX10_takesSecond_52 : decode cX10_takesSecond 52 = .ok (.invokestatic 57, 3) := by decide +kernel
theorem dX10_takesSecond_55 : decode cX10_takesSecond 55 = .ok (.iastore, 1) := by decide +kernel
theorem dX10_takesSecond_56 : decode cX10_takesSecond 56 = .ok (.aload_n 0, 1) := by decide +kernel
theorem dX10_takesSecond_57 : decode cX10_takesSecond 57 = .ok (.dup, 1) := by decide +kernel
theorem dX10_takesSecond_58 : decode cX10_takesSecond 58 = .ok (.getfield 22, 3) := by decide +kernel
theorem dX10_takesSecond_61 : decode cX10_takesSecond 61 = .ok (.iconst 1, 1) := by decide +kernel
theorem dX10_takesSecond_62 : decode cX10_takesSecond 62 = .ok (.iadd, 1) := by decide +kernel
theorem dX10_takesSecond_63 : decode cX10_takesSecond 63 = .ok (.putfield 22, 3) := by decide +kernel
theorem dX10_takesSecond_66 : decode cX10_takesSecond 66 = .ok (.iconst 1, 1) := by decide +kernel
theorem dX10_takesSecond_67 : decode cX10_takesSecond 67 = .ok (.ireturn, 1) := by decide +kernel
theorem dX10_answerOfSign_0 : decode cX10_answerOfSign 0 = .ok (.iload_n 0, 1) := by decide +kernel
theorem dX10_answerOfSign_1 : decode cX10_answerOfSign 1 = .ok (.tableswitch 33 60 62 #[29, 31, 27], 27) := by decide +kernel
theorem dX10_answerOfSign_28 : decode cX10_answerOfSign 28 = .ok (.iconst 1, 1) := by decide +kernel
theorem dX10_answerOfSign_29 : decode cX10_answerOfSign 29 = .ok (.ireturn, 1) := by decide +kernel
theorem dX10_answerOfSign_30 : decode cX10_answerOfSign 30 = .ok (.iconst 2, 1) := by decide +kernel
theorem dX10_answerOfSign_31 : decode cX10_answerOfSign 31 = .ok (.ireturn, 1) := by decide +kernel
theorem dX10_answerOfSign_32 : decode cX10_answerOfSign 32 = .ok (.iconst 0, 1) := by decide +kernel
theorem dX10_answerOfSign_33 : decode cX10_answerOfSign 33 = .ok (.ireturn, 1) := by decide +kernel
theorem dX10_answerOfSign_34 : decode cX10_answerOfSign 34 = .ok (.iconst (-1), 1) := by decide +kernel
theorem dX10_answerOfSign_35 : decode cX10_answerOfSign 35 = .ok (.ireturn, 1) := by decide +kernel
theorem dX11_init_0 : decode cX11_init 0 = .ok (.aload_n 0, 1) := by decide +kernel
theorem dX11_init_1 : decode cX11_init 1 = .ok (.invokespecial 3, 3) := by decide +kernel
theorem dX11_init_4 : decode cX11_init 4 = .ok (.aload_n 0, 1) := by decide +kernel
theorem dX11_init_5 : decode cX11_init 5 = .ok (.bipush 8, 2) := by decide +kernel
theorem dX11_init_7 : decode cX11_init 7 = .ok (.newarray .int, 2) := by decide +kernel
theorem dX11_init_9 : decode cX11_init 9 = .ok (.putfield 9, 3) := by decide +kernel
theorem dX11_init_12 : decode cX11_init 12 = .ok (.aload_n 0, 1) := by decide +kernel
theorem dX11_init_13 : decode cX11_init 13 = .ok (.new 13, 3) := by decide +kernel
theorem dX11_init_16 : decode cX11_init 16 = .ok (.dup, 1) := by decide +kernel
theorem dX11_init_17 : decode cX11_init 17 = .ok (.invokespecial 15, 3) := by decide +kernel
theorem dX11_init_20 : decode cX11_init 20 = .ok (.putfield 16, 3) := by decide +kernel
theorem dX11_init_23 : decode cX11_init 23 = .ok (.aload_n 0, 1) := by decide +kernel
theorem dX11_init_24 : decode cX11_init 24 = .ok (.new 20, 3) := by decide +kernel
theorem dX11_init_27 : decode cX11_init 27 = .ok (.dup, 1) := by decide +kernel
theorem dX11_init_28 : decode cX11_init 28 = .ok (.invokespecial 22, 3) := by decide +kernel
theorem dX11_init_31 : decode cX11_init 31 = .ok (.putfield 23, 3) := by decide +kernel
theorem dX11_init_34 : decode cX11_init 34 = .ok (.aload_n 0, 1) := by decide +kernel
theorem dX11_init_35 : decode cX11_init 35 = .ok (.new 27, 3) := by decide +kernel
theorem dX11_init_38 : decode cX11_init 38 = .ok (.dup, 1) := by decide +kernel
theorem dX11_init_39 : decode cX11_init 39 = .ok (.invokespecial 29, 3) := by decide +kernel
theorem dX11_init_42 : decode cX11_init 42 = .ok (.putfield 30, 3) := by decide +kernel
theorem dX11_init_45 : decode cX11_init 45 = .ok (.aload_n 0, 1) := by decide +kernel
theorem dX11_init_46 : decode cX11_init 46 = .ok (.new 34, 3) := by decide +kernel
theorem dX11_init_49 : decode cX11_init 49 = .ok (.dup, 1) := by decide +kernel
theorem dX11_init_50 : decode cX11_init 50 = .ok (.invokespecial 36, 3) := by decide +kernel
theorem dX11_init_53 : decode cX11_init 53 = .ok (.putfield 37, 3) := by decide +kernel
theorem dX11_init_56 : decode cX11_init 56 = .ok (.aload_n 0, 1) := by decide +kernel
theorem dX11_init_57 : decode cX11_init 57 = .ok (.new 41, 3) := by decide +kernel
theorem dX11_init_60 : decode cX11_init 60 = .ok (.dup, 1) := by decide +kernel
theorem dX11_init_61 : decode cX11_init 61 = .ok (.invokespecial 43, 3) := by decide +kernel
theorem dX11_init_64 : decode cX11_init 64 = .ok (.putfield 44, 3) := by decide +kernel
theorem dX11_init_67 : decode cX11_init 67 = .ok (.aload_n 0, 1) := by decide +kernel
theorem dX11_init_68 : decode cX11_init 68 = .ok (.new 41, 3) := by decide +kernel
theorem dX11_init_71 : decode cX11_init 71 = .ok (.dup, 1) := by decide +kernel
theorem dX11_init_72 : decode cX11_init 72 = .ok (.invokespecial 43, 3) := by decide +kernel
theorem dX11_init_75 : decode cX11_init 75 = .ok (.putfield 48, 3) := by decide +kernel
theorem dX11_init_78 : decode cX11_init 78 = .ok (.aload_n 0, 1) := by decide +kernel
theorem dX11_init_79 : decode cX11_init 79 = .ok (.new 51, 3) := by decide +kernel
theorem dX11_init_82 : decode cX11_init 82 = .ok (.dup, 1) := by decide +kernel
theorem dX11_init_83 : decode cX11_init 83 = .ok (.invokespecial 53, 3) := by decide +kernel
theorem dX11_init_86 : decode cX11_init 86 = .ok (.putfield 54, 3) := by decide +kernel
theorem dX11_init_89 : decode cX11_init 89 = .ok (.aload_n 0, 1) := by decide +kernel
theorem dX11_init_90 : decode cX11_init 90 = .ok (.new 58, 3) := by decide +kernel
theorem dX11_init_93 : decode cX11_init 93 = .ok (.dup, 1) := by decide +kernel
theorem dX11_init_94 : decode cX11_init 94 = .ok (.invokespecial 60, 3) := by decide +kernel
theorem dX11_init_97 : decode cX11_init 97 = .ok (.putfield 61, 3) := by decide +kernel
theorem dX11_init_100 : decode cX11_init 100 = .ok (.aload_n 0, 1) := by decide +kernel
theorem dX11_init_101 : decode cX11_init 101 = .ok (.new 65, 3) := by decide +kernel
theorem dX11_init_104 : decode cX11_init 104 = .ok (.dup, 1) := by decide +kernel
theorem dX11_init_105 : decode cX11_init 105 = .ok (.invokespecial 67, 3) := by decide +kernel
theorem dX11_init_108 : decode cX11_init 108 = .ok (.putfield 68, 3) := by decide +kernel
theorem dX11_init_111 : decode cX11_init 111 = .ok (.aload_n 0, 1) := by decide +kernel
theorem dX11_init_112 : decode cX11_init 112 = .ok (.iconst 3, 1) := by decide +kernel
theorem dX11_init_113 : decode cX11_init 113 = .ok (.iconst 2, 1) := by decide +kernel
theorem dX11_init_114 : decode cX11_init 114 = .ok (.invokevirtual 72, 3) := by decide +kernel
theorem dX11_init_117 : decode cX11_init 117 = .ok (.return_, 1) := by decide +kernel
theorem dX11_begin_0 : decode cX11_begin 0 = .ok (.iload_n 1, 1) := by decide +kernel
theorem dX11_begin_1 : decode cX11_begin 1 = .ok (.iconst 2, 1) := by decide +kernel
theorem dX11_begin_2 : decode cX11_begin 2 = .ok (.if_icmp .lt 13, 3) := by decide +kernel
theorem dX11_begin_5 : decode cX11_begin 5 = .ok (.iload_n 1, 1) := by decide +kernel
theorem dX11_begin_6 : decode cX11_begin 6 = .ok (.bipush 8, 2) := by decide +kernel
theorem dX11_begin_8 : decode cX11_begin 8 = .ok (.if_icmp .gt 7, 3) := by decide +kernel
theorem dX11_begin_11 : decode cX11_begin 11 = .ok (.iconst 1, 1) := by decide +kernel
theorem dX11_begin_12 : decode cX11_begin 12 = .ok (.goto 4, 3) := by decide +kernel
theorem dX11_begin_15 : decode cX11_begin 15 = .ok (.iconst 0, 1) := by decide +kernel
theorem dX11_begin_16 : decode cX11_begin 16 = .ok (.invokestatic 76, 3) := by decide +kernel
theorem dX11_begin_19 : decode cX11_begin 19 = .ok (.iload_n 2, 1) := by decide +kernel
theorem dX11_begin_20 : decode cX11_begin 20 = .ok (.iconst 1, 1) := by decide +kernel
theorem dX11_begin_21 : decode cX11_begin 21 = .ok (.if_icmp .lt 13, 3) := by decide +kernel
theorem dX11_begin_24 : decode cX11_begin 24 = .ok (.iload_n 2, 1) := by decide +kernel
theorem dX11_begin_25 : decode cX11_begin 25 = .ok (.bipush 8, 2) := by decide +kernel
theorem dX11_begin_27 : decode cX11_begin 27 = .ok (.if_icmp .gt 7, 3) := by decide +kernel
theorem dX11_begin_30 : decode cX11_begin 30 = .ok (.iconst 1, 1) := by decide +kernel
theorem dX11_begin_31 : decode cX11_begin 31 = .ok (.goto 4, 3) := by decide +kernel
theorem dX11_begin_34 : decode cX11_begin 34 = .ok (.iconst 0, 1) := by decide +kernel
theorem dX11_begin_35 : decode cX11_begin 35 = .ok (.invokestatic 76, 3) := by decide +kernel
theorem dX11_begin_38 : decode cX11_begin 38 = .ok (.aload_n 0, 1) := by decide +kernel
theorem dX11_begin_39 : decode cX11_begin 39 = .ok (.iload_n 1, 1) := by decide +kernel
theorem dX11_begin_40 : decode cX11_begin 40 = .ok (.iload_n 2, 1) := by decide +kernel
theorem dX11_begin_41 : decode cX11_begin 41 = .ok (.invokevirtual 72, 3) := by decide +kernel
theorem dX11_begin_44 : decode cX11_begin 44 = .ok (.iload_n 1, 1) := by decide +kernel
theorem dX11_begin_45 : decode cX11_begin 45 = .ok (.iload_n 1, 1) := by decide +kernel
theorem dX11_begin_46 : decode cX11_begin 46 = .ok (.iconst 1, 1) := by decide +kernel
theorem dX11_begin_47 : decode cX11_begin 47 = .ok (.isub, 1) := by decide +kernel
theorem dX11_begin_48 : decode cX11_begin 48 = .ok (.imul, 1) := by decide +kernel
theorem dX11_begin_49 : decode cX11_begin 49 = .ok (.iconst 2, 1) := by decide +kernel
theorem dX11_begin_50 : decode cX11_begin 50 = .ok (.idiv, 1) := by decide +kernel
theorem dX11_begin_51 : decode cX11_begin 51 = .ok (.ireturn, 1) := by decide +kernel
theorem dX11_setWeight_0 : decode cX11_setWeight 0 = .ok (.iload_n 1, 1) := by decide +kernel
theorem dX11_setWeight_1 : decode cX11_setWeight 1 = .ok (.aload_n 0, 1) := by decide +kernel
theorem dX11_setWeight_2 : decode cX11_setWeight 2 = .ok (.getfield 80, 3) := by decide +kernel
theorem dX11_setWeight_5 : decode cX11_setWeight 5 = .ok (.invokestatic 84, 3) := by decide +kernel
theorem dX11_setWeight_8 : decode cX11_setWeight 8 = .ok (.iload_n 2, 1) := by decide +kernel
theorem dX11_setWeight_9 : decode cX11_setWeight 9 = .ok (.ifCond .lt 13, 3) := by decide +kernel
theorem dX11_setWeight_12 : decode cX11_setWeight 12 = .ok (.iload_n 2, 1) := by decide +kernel
theorem dX11_setWeight_13 : decode cX11_setWeight 13 = .ok (.bipush 9, 2) := by decide +kernel
theorem dX11_setWeight_15 : decode cX11_setWeight 15 = .ok (.if_icmp .gt 7, 3) := by decide +kernel
theorem dX11_setWeight_18 : decode cX11_setWeight 18 = .ok (.iconst 1, 1) := by decide +kernel
theorem dX11_setWeight_19 : decode cX11_setWeight 19 = .ok (.goto 4, 3) := by decide +kernel
theorem dX11_setWeight_22 : decode cX11_setWeight 22 = .ok (.iconst 0, 1) := by decide +kernel
theorem dX11_setWeight_23 : decode cX11_setWeight 23 = .ok (.invokestatic 76, 3) := by decide +kernel
theorem dX11_setWeight_26 : decode cX11_setWeight 26 = .ok (.aload_n 0, 1) := by decide +kernel
theorem dX11_setWeight_27 : decode cX11_setWeight 27 = .ok (.getfield 9, 3) := by decide +kernel
theorem dX11_setWeight_30 : decode cX11_setWeight 30 = .ok (.iload_n 1, 1) := by decide +kernel
theorem dX11_setWeight_31 : decode cX11_setWeight 31 = .ok (.iaload, 1) := by decide +kernel
theorem dX11_setWeight_32 : decode cX11_setWeight 32 = .ok (.istore_n 3, 1) := by decide +kernel
theorem dX11_setWeight_33 : decode cX11_setWeight 33 = .ok (.aload_n 0, 1) := by decide +kernel
theorem dX11_setWeight_34 : decode cX11_setWeight 34 = .ok (.getfield 9, 3) := by decide +kernel
theorem dX11_setWeight_37 : decode cX11_setWeight 37 = .ok (.iload_n 1, 1) := by decide +kernel
theorem dX11_setWeight_38 : decode cX11_setWeight 38 = .ok (.iload_n 2, 1) := by decide +kernel
theorem dX11_setWeight_39 : decode cX11_setWeight 39 = .ok (.iastore, 1) := by decide +kernel
theorem dX11_setWeight_40 : decode cX11_setWeight 40 = .ok (.iload_n 3, 1) := by decide +kernel
theorem dX11_setWeight_41 : decode cX11_setWeight 41 = .ok (.ireturn, 1) := by decide +kernel
theorem dX11_plan_0 : decode cX11_plan 0 = .ok (.iload_n 1, 1) := by decide +kernel
theorem dX11_plan_1 : decode cX11_plan 1 = .ok (.aload_n 0, 1) := by decide +kernel
theorem dX11_plan_2 : decode cX11_plan 2 = .ok (.getfield 80, 3) := by decide +kernel
theorem dX11_plan_5 : decode cX11_plan 5 = .ok (.invokestatic 84, 3) := by decide +kernel
theorem dX11_plan_8 : decode cX11_plan 8 = .ok (.iload_n 2, 1) := by decide +kernel
theorem dX11_plan_9 : decode cX11_plan 9 = .ok (.iconst 1, 1) := by decide +kernel
theorem dX11_plan_10 : decode cX11_plan 10 = .ok (.if_icmp .eq 8, 3) := by decide +kernel
theorem dX11_plan_13 : decode cX11_plan 13 = .ok (.iload_n 2, 1) := by decide +kernel
theorem dX11_plan_14 : decode cX11_plan 14 = .ok (.iconst 2, 1) := by decide +kernel
theorem dX11_plan_15 : decode cX11_plan 15 = .ok (.if_icmp .ne 11, 3) := by decide +kernel
theorem dX11_plan_18 : decode cX11_plan 18 = .ok (.iload_n 3, 1) := by decide +kernel
theorem dX11_plan_19 : decode cX11_plan 19 = .ok (.ifCond .lt 7, 3) := by decide +kernel
theorem dX11_plan_22 : decode cX11_plan 22 = .ok (.iconst 1, 1) := by decide +kernel
theorem dX11_plan_23 : decode cX11_plan 23 = .ok (.goto 4, 3) := by decide +kernel
theorem dX11_plan_26 : decode cX11_plan 26 = .ok (.iconst 0, 1) := by decide +kernel
theorem dX11_plan_27 : decode cX11_plan 27 = .ok (.invokestatic 76, 3) := by decide +kernel
theorem dX11_plan_30 : decode cX11_plan 30 = .ok (.new 87, 3) := by decide +kernel
theorem dX11_plan_33 : decode cX11_plan 33 = .ok (.dup, 1) := by decide +kernel
theorem dX11_plan_34 : decode cX11_plan 34 = .ok (.iload_n 1, 1) := by decide +kernel
theorem dX11_plan_35 : decode cX11_plan 35 = .ok (.aload_n 0, 1) := by decide +kernel
theorem dX11_plan_36 : decode cX11_plan 36 = .ok (.getfield 89, 3) := by decide +kernel
theorem dX11_plan_39 : decode cX11_plan 39 = .ok (.iload_n 2, 1) := by decide +kernel
theorem dX11_plan_40 : decode cX11_plan 40 = .ok (.iload_n 3, 1) := by decide +kernel
theorem dX11_plan_41 : decode cX11_plan 41 = .ok (.invokespecial 92, 3) := by decide +kernel
theorem dX11_plan_44 : decode cX11_plan 44 = .ok (.astore 4, 2) := by decide +kernel
theorem dX11_plan_46 : decode cX11_plan 46 = .ok (.aload_n 0, 1) := by decide +kernel
theorem dX11_plan_47 : decode cX11_plan 47 = .ok (.aload 4, 2) := by decide +kernel
theorem dX11_plan_49 : decode cX11_plan 49 = .ok (.putfield 95, 3) := by decide +kernel
theorem dX11_plan_52 : decode cX11_plan 52 = .ok (.aload_n 0, 1) := by decide +kernel
theorem dX11_plan_53 : decode cX11_plan 53 = .ok (.iconst 0, 1) := by decide +kernel
theorem dX11_plan_54 : decode cX11_plan 54 = .ok (.putfield 99, 3) := by decide +kernel
theorem dX11_plan_57 : decode cX11_plan 57 = .ok (.aload 4, 2) := by decide +kernel
theorem dX11_plan_59 : decode cX11_plan 59 = .ok (.invokevirtual 102, 3) := by decide +kernel
theorem dX11_plan_62 : decode cX11_plan 62 = .ok (.ireturn, 1) := by decide +kernel
theorem dX11_trial_0 : decode cX11_trial 0 = .ok (.aload_n 0, 1) := by decide +kernel
theorem dX11_trial_1 : decode cX11_trial 1 = .ok (.getfield 95, 3) := by decide +kernel
theorem dX11_trial_4 : decode cX11_trial 4 = .ok (.astore_n 3, 1) := by decide +kernel
theorem dX11_trial_5 : decode cX11_trial 5 = .ok (.aload_n 3, 1) := by decide +kernel
theorem dX11_trial_6 : decode cX11_trial 6 = .ok (.ifnonnull 13, 3) := by decide +kernel
theorem dX11_trial_9 : decode cX11_trial 9 = .ok (.new 106, 3) := by decide +kernel
theorem dX11_trial_12 : decode cX11_trial 12 = .ok (.dup, 1) := by decide +kernel
theorem dX11_trial_13 : decode cX11_trial 13 = .ok (.ldc 108, 2) := by decide +kernel
theorem dX11_trial_15 : decode cX11_trial 15 = .ok (.invokespecial 110, 3) := by decide +kernel
theorem dX11_trial_18 : decode cX11_trial 18 = .ok (.athrow, 1) := by decide +kernel
theorem dX11_trial_19 : decode cX11_trial 19 = .ok (.iload_n 1, 1) := by decide +kernel
theorem dX11_trial_20 : decode cX11_trial 20 = .ok (.aload_n 3, 1) := by decide +kernel
theorem dX11_trial_21 : decode cX11_trial 21 = .ok (.invokevirtual 102, 3) := by decide +kernel
theorem dX11_trial_24 : decode cX11_trial 24 = .ok (.invokestatic 84, 3) := by decide +kernel
theorem dX11_trial_27 : decode cX11_trial 27 = .ok (.iload_n 2, 1) := by decide +kernel
theorem dX11_trial_28 : decode cX11_trial 28 = .ok (.ifCond .eq 11, 3) := by decide +kernel
theorem dX11_trial_31 : decode cX11_trial 31 = .ok (.aload_n 3, 1) := by decide +kernel
theorem dX11_trial_32 : decode cX11_trial 32 = .ok (.iload_n 1, 1) := by decide +kernel
theorem dX11_trial_33 : decode cX11_trial 33 = .ok (.invokevirtual 113, 3) := by decide +kernel
theorem dX11_trial_36 : decode cX11_trial 36 = .ok (.goto 8, 3) := by decide +kernel
theorem dX11_trial_39 : decode cX11_trial 39 = .ok (.aload_n 3, 1) := by decide +kernel
theorem dX11_trial_40 : decode cX11_trial 40 = .ok (.iload_n 1, 1) := by decide +kernel
theorem dX11_trial_41 : decode cX11_trial 41 = .ok (.invokevirtual 117, 3) := by decide +kernel
theorem dX11_trial_44 : decode cX11_trial 44 = .ok (.ireturn, 1) := by decide +kernel
theorem dX11_answer_0 : decode cX11_answer 0 = .ok (.aload_n 0, 1) := by decide +kernel
theorem dX11_answer_1 : decode cX11_answer 1 = .ok (.getfield 95, 3) := by decide +kernel
theorem dX11_answer_4 : decode cX11_answer 4 = .ok (.astore_n 2, 1) := by decide +kernel
theorem dX11_answer_5 : decode cX11_answer 5 = .ok (.aload_n 2, 1) := by decide +kernel
theorem dX11_answer_6 : decode cX11_answer 6 = .ok (.ifnull 24, 3) := by decide +kernel
theorem dX11_answer_9 : decode cX11_answer 9 = .ok (.aload_n 0, 1) := by decide +kernel
theorem dX11_answer_10 : decode cX11_answer 10 = .ok (.getfield 99, 3) := by decide +kernel
theorem dX11_answer_13 : decode cX11_answer 13 = .ok (.aload_n 2, 1) := by decide +kernel
theorem dX11_answer_14 : decode cX11_answer 14 = .ok (.invokevirtual 102, 3) := by decide +kernel
theorem dX11_answer_17 : decode cX11_answer 17 = .ok (.if_icmp .ge 13, 3) := by decide +kernel
theorem dX11_answer_20 : decode cX11_answer 20 = .ok (.aload_n 0, 1) := by decide +kernel
theorem dX11_answer_21 : decode cX11_answer 21 = .ok (.getfield 16, 3) := by decide +kernel
theorem dX11_answer_24 : decode cX11_answer 24 = .ok (.invokevirtual 120, 3) := by decide +kernel
theorem dX11_answer_27 : decode cX11_answer 27 = .ok (.ifCond .eq 13, 3) := by decide +kernel
theorem dX11_answer_30 : decode cX11_answer 30 = .ok (.new 106, 3) := by decide +kernel
theorem dX11_answer_33 : decode cX11_answer 33 = .ok (.dup, 1) := by decide +kernel
theorem dX11_answer_34 : decode cX11_answer 34 = .ok (.ldc 124, 2) := by decide +kernel
theorem dX11_answer_36 : decode cX11_answer 36 = .ok (.invokespecial 110, 3) := by decide +kernel
theorem dX11_answer_39 : decode cX11_answer 39 = .ok (.athrow, 1) := by decide +kernel
theorem dX11_answer_40 : decode cX11_answer 40 = .ok (.iload_n 1, 1) := by decide +kernel
theorem dX11_answer_41 : decode cX11_answer 41 = .ok (.invokestatic 126, 3) := by decide +kernel
theorem dX11_answer_44 : decode cX11_answer 44 = .ok (.aload_n 0, 1) := by decide +kernel
theorem dX11_answer_45 : decode cX11_answer 45 = .ok (.invokevirtual 130, 3) := by decide +kernel
theorem dX11_answer_48 : decode cX11_answer 48 = .ok (.aload_n 0, 1) := by decide +kernel
theorem dX11_answer_49 : decode cX11_answer 49 = .ok (.getfield 16, 3) := by decide +kernel
theorem dX11_answer_52 : decode cX11_answer 52 = .ok (.aload_n 2, 1) := by decide +kernel
theorem dX11_answer_53 : decode cX11_answer 53 = .ok (.getfield 133, 3) := by decide +kernel
theorem dX11_answer_56 : decode cX11_answer 56 = .ok (.aload_n 2, 1) := by decide +kernel
theorem dX11_answer_57 : decode cX11_answer 57 = .ok (.aload_n 0, 1) := by decide +kernel
theorem dX11_answer_58 : decode cX11_answer 58 = .ok (.getfield 99, 3) := by decide +kernel
theorem dX11_answer_61 : decode cX11_answer 61 = .ok (.invokevirtual 117, 3) := by decide +kernel
theorem dX11_answer_64 : decode cX11_answer 64 = .ok (.aload_n 2, 1) := by decide +kernel
theorem dX11_answer_65 : decode cX11_answer 65 = .ok (.aload_n 0, 1) := by decide +kernel
theorem dX11_answer_66 : decode cX11_answer 66 = .ok (.getfield 99, 3) := by decide +kernel
theorem dX11_answer_69 : decode cX11_answer 69 = .ok (.invokevirtual 113, 3) := by decide +kernel
theorem dX11_answer_72 : decode cX11_answer 72 = .ok (.iload_n 1, 1) := by decide +kernel
theorem dX11_answer_73 : decode cX11_answer 73 = .ok (.invokestatic 136, 3) := by decide +kernel
theorem dX11_answer_76 : decode cX11_answer 76 = .ok (.invokevirtual 140, 3) := by decide +kernel
theorem dX11_answer_79 : decode cX11_answer 79 = .ok (.aload_n 0, 1) := by decide +kernel
theorem dX11_answer_80 : decode cX11_answer 80 = .ok (.dup, 1) := by decide +kernel
theorem dX11_answer_81 : decode cX11_answer 81 = .ok (.getfield 99, 3) := by decide +kernel
theorem dX11_answer_84 : decode cX11_answer 84 = .ok (.iconst 1, 1) := by decide +kernel
theorem dX11_answer_85 : decode cX11_answer 85 = .ok (.iadd, 1) := by decide +kernel
theorem dX11_answer_86 : decode cX11_answer 86 = .ok (.putfield 99, 3) := by decide +kernel
theorem dX11_answer_89 : decode cX11_answer 89 = .ok (.aload_n 0, 1) := by decide +kernel
theorem dX11_answer_90 : decode cX11_answer 90 = .ok (.invokevirtual 143, 3) := by decide +kernel
theorem dX11_answer_93 : decode cX11_answer 93 = .ok (.ireturn, 1) := by decide +kernel
theorem dX11_compare_0 : decode cX11_compare 0 = .ok (.iload_n 1, 1) := by decide +kernel
theorem dX11_compare_1 : decode cX11_compare 1 = .ok (.aload_n 0, 1) := by decide +kernel
theorem dX11_compare_2 : decode cX11_compare 2 = .ok (.getfield 80, 3) := by decide +kernel
theorem dX11_compare_5 : decode cX11_compare 5 = .ok (.invokestatic 84, 3) := by decide +kernel
theorem dX11_compare_8 : decode cX11_compare 8 = .ok (.iload_n 2, 1) := by decide +kernel
theorem dX11_compare_9 : decode cX11_compare 9 = .ok (.aload_n 0, 1) := by decide +kernel
theorem dX11_compare_10 : decode cX11_compare 10 = .ok (.getfield 89, 3) := by decide +kernel
theorem dX11_compare_13 : decode cX11_compare 13 = .ok (.invokestatic 84, 3) := by decide +kernel
theorem dX11_compare_16 : decode cX11_compare 16 = .ok (.iload_n 3, 1) := by decide +kernel
theorem dX11_compare_17 : decode cX11_compare 17 = .ok (.aload_n 0, 1) := by decide +kernel
theorem dX11_compare_18 : decode cX11_compare 18 = .ok (.getfield 89, 3) := by decide +kernel
theorem dX11_compare_21 : decode cX11_compare 21 = .ok (.invokestatic 84, 3) := by decide +kernel
theorem dX11_compare_24 : decode cX11_compare 24 = .ok (.iload_n 2, 1) := by decide +kernel
theorem dX11_compare_25 : decode cX11_compare 25 = .ok (.iload_n 3, 1) := by decide +kernel
theorem dX11_compare_26 : decode cX11_compare 26 = .ok (.if_icmp .eq 7, 3) := by decide +kernel
theorem dX11_compare_29 : decode cX11_compare 29 = .ok (.iconst 1, 1) := by decide +kernel
theorem dX11_compare_30 : decode cX11_compare 30 = .ok (.goto 4, 3) := by decide +kernel
theorem dX11_compare_33 : decode cX11_compare 33 = .ok (.iconst 0, 1) := by decide +kernel
theorem dX11_compare_34 : decode cX11_compare 34 = .ok (.invokestatic 76, 3) := by decide +kernel
theorem dX11_compare_37 : decode cX11_compare 37 = .ok (.iload 4, 2) := by decide +kernel
theorem dX11_compare_39 : decode cX11_compare 39 = .ok (.invokestatic 126, 3) := by decide +kernel
theorem dX11_compare_42 : decode cX11_compare 42 = .ok (.aload_n 0, 1) := by decide +kernel
theorem dX11_compare_43 : decode cX11_compare 43 = .ok (.iconst 1, 1) := by decide +kernel
theorem dX11_compare_44 : decode cX11_compare 44 = .ok (.invokevirtual 146, 3) := by decide +kernel
theorem dX11_compare_47 : decode cX11_compare 47 = .ok (.aload_n 0, 1) := by decide +kernel
theorem dX11_compare_48 : decode cX11_compare 48 = .ok (.invokevirtual 130, 3) := by decide +kernel
theorem dX11_compare_51 : decode cX11_compare 51 = .ok (.aload_n 0, 1) := by decide +kernel
theorem dX11_compare_52 : decode cX11_compare 52 = .ok (.getfield 16, 3) := by decide +kernel
theorem dX11_compare_55 : decode cX11_compare 55 = .ok (.iload_n 1, 1) := by decide +kernel
theorem dX11_compare_56 : decode cX11_compare 56 = .ok (.iload_n 2, 1) := by decide +kernel
theorem dX11_compare_57 : decode cX11_compare 57 = .ok (.iload_n 3, 1) := by decide +kernel
theorem dX11_compare_58 : decode cX11_compare 58 = .ok (.iload 4, 2) := by decide +kernel
theorem dX11_compare_60 : decode cX11_compare 60 = .ok (.invokestatic 136, 3) := by decide +kernel
theorem dX11_compare_63 : decode cX11_compare 63 = .ok (.invokevirtual 140, 3) := by decide +kernel
theorem dX11_compare_66 : decode cX11_compare 66 = .ok (.aload_n 0, 1) := by decide +kernel
theorem dX11_compare_67 : decode cX11_compare 67 = .ok (.getfield 16, 3) := by decide +kernel
theorem dX11_compare_70 : decode cX11_compare 70 = .ok (.getfield 149, 3) := by decide +kernel
theorem dX11_compare_73 : decode cX11_compare 73 = .ok (.iconst 1, 1) := by decide +kernel
theorem dX11_compare_74 : decode cX11_compare 74 = .ok (.isub, 1) := by decide +kernel
theorem dX11_compare_75 : decode cX11_compare 75 = .ok (.ireturn, 1) := by decide +kernel
theorem dX11_remove_0 : decode cX11_remove 0 = .ok (.iload_n 1, 1) := by decide +kernel
theorem dX11_remove_1 : decode cX11_remove 1 = .ok (.aload_n 0, 1) := by decide +kernel
theorem dX11_remove_2 : decode cX11_remove 2 = .ok (.getfield 16, 3) := by decide +kernel
theorem dX11_remove_5 : decode cX11_remove 5 = .ok (.getfield 149, 3) := by decide +kernel
theorem dX11_remove_8 : decode cX11_remove 8 = .ok (.invokestatic 84, 3) := by decide +kernel
theorem dX11_remove_11 : decode cX11_remove 11 = .ok (.aload_n 0, 1) := by decide +kernel
theorem dX11_remove_12 : decode cX11_remove 12 = .ok (.invokevirtual 130, 3) := by decide +kernel
theorem dX11_remove_15 : decode cX11_remove 15 = .ok (.aload_n 0, 1) := by decide +kernel
theorem dX11_remove_16 : decode cX11_remove 16 = .ok (.getfield 16, 3) := by decide +kernel
theorem dX11_remove_19 : decode cX11_remove 19 = .ok (.iload_n 1, 1) := by decide +kernel
theorem dX11_remove_20 : decode cX11_remove 20 = .ok (.invokevirtual 151, 3) := by decide +kernel
theorem dX11_remove_23 : decode cX11_remove 23 = .ok (.aload_n 0, 1) := by decide +kernel
theorem dX11_remove_24 : decode cX11_remove 24 = .ok (.getfield 16, 3) := by decide +kernel
theorem dX11_remove_27 : decode cX11_remove 27 = .ok (.getfield 149, 3) := by decide +kernel
theorem dX11_remove_30 : decode cX11_remove 30 = .ok (.ireturn, 1) := by decide +kernel
theorem dX11_undo_0 : decode cX11_undo 0 = .ok (.aload_n 0, 1) := by decide +kernel
theorem dX11_undo_1 : decode cX11_undo 1 = .ok (.getfield 23, 3) := by decide +kernel
theorem dX11_undo_4 : decode cX11_undo 4 = .ok (.invokevirtual 154, 3) := by decide +kernel
theorem dX11_undo_7 : decode cX11_undo 7 = .ok (.astore_n 1, 1) := by decide +kernel
theorem dX11_undo_8 : decode cX11_undo 8 = .ok (.aload_n 1, 1) := by decide +kernel
theorem dX11_undo_9 : decode cX11_undo 9 = .ok (.ifnonnull 13, 3) := by decide +kernel
theorem dX11_undo_12 : decode cX11_undo 12 = .ok (.new 106, 3) := by decide +kernel
theorem dX11_undo_15 : decode cX11_undo 15 = .ok (.dup, 1) := by decide +kernel
theorem dX11_undo_16 : decode cX11_undo 16 = .ok (.ldc 158, 2) := by decide +kernel
theorem dX11_undo_18 : decode cX11_undo 18 = .ok (.invokespecial 110, 3) := by decide +kernel
theorem dX11_undo_21 : decode cX11_undo 21 = .ok (.athrow, 1) := by decide +kernel
theorem dX11_undo_22 : decode cX11_undo 22 = .ok (.aload_n 0, 1) := by decide +kernel
theorem dX11_undo_23 : decode cX11_undo 23 = .ok (.getfield 16, 3) := by decide +kernel
theorem dX11_undo_26 : decode cX11_undo 26 = .ok (.aload_n 1, 1) := by decide +kernel
theorem dX11_undo_27 : decode cX11_undo 27 = .ok (.getfield 160, 3) := by decide +kernel
theorem dX11_undo_30 : decode cX11_undo 30 = .ok (.invokevirtual 163, 3) := by decide +kernel
theorem dX11_undo_33 : decode cX11_undo 33 = .ok (.aload_n 0, 1) := by decide +kernel
theorem dX11_undo_34 : decode cX11_undo 34 = .ok (.aload_n 1, 1) := by decide +kernel
theorem dX11_undo_35 : decode cX11_undo 35 = .ok (.getfield 167, 3) := by decide +kernel
theorem dX11_undo_38 : decode cX11_undo 38 = .ok (.putfield 95, 3) := by decide +kernel
theorem dX11_undo_41 : decode cX11_undo 41 = .ok (.aload_n 0, 1) := by decide +kernel
theorem dX11_undo_42 : decode cX11_undo 42 = .ok (.aload_n 1, 1) := by decide +kernel
theorem dX11_undo_43 : decode cX11_undo 43 = .ok (.getfield 168, 3) := by decide +kernel
theorem dX11_undo_46 : decode cX11_undo 46 = .ok (.putfield 99, 3) := by decide +kernel
theorem dX11_undo_49 : decode cX11_undo 49 = .ok (.aload_n 0, 1) := by decide +kernel
theorem dX11_undo_50 : decode cX11_undo 50 = .ok (.getfield 16, 3) := by decide +kernel
theorem dX11_undo_53 : decode cX11_undo 53 = .ok (.getfield 149, 3) := by decide +kernel
theorem dX11_undo_56 : decode cX11_undo 56 = .ok (.ireturn, 1) := by decide +kernel
theorem dX11_append_0 : decode cX11_append 0 = .ok (.iload_n 1, 1) := by decide +kernel
theorem dX11_append_1 : decode cX11_append 1 = .ok (.bipush 33, 2) := by decide +kernel
theorem dX11_append_3 : decode cX11_append 3 = .ok (.if_icmp .lt 13, 3) := by decide +kernel
theorem dX11_append_6 : decode cX11_append 6 = .ok (.iload_n 1, 1) := by decide +kernel
theorem dX11_append_7 : decode cX11_append 7 = .ok (.bipush 126, 2) := by decide +kernel
theorem dX11_append_9 : decode cX11_append 9 = .ok (.if_icmp .gt 7, 3) := by decide +kernel
theorem dX11_append_12 : decode cX11_append 12 = .ok (.iconst 1, 1) := by decide +kernel
theorem dX11_append_13 : decode cX11_append 13 = .ok (.goto 4, 3) := by decide +kernel
theorem dX11_append_16 : decode cX11_append 16 = .ok (.iconst 0, 1) := by decide +kernel
theorem dX11_append_17 : decode cX11_append 17 = .ok (.invokestatic 76, 3) := by decide +kernel
theorem dX11_append_20 : decode cX11_append 20 = .ok (.aload_n 0, 1) := by decide +kernel
theorem dX11_append_21 : decode cX11_append 21 = .ok (.getfield 30, 3) := by decide +kernel
theorem dX11_append_24 : decode cX11_append 24 = .ok (.invokevirtual 169, 3) := by decide +kernel
theorem dX11_append_27 : decode cX11_append 27 = .ok (.ifCond .eq 13, 3) := by decide +kernel
theorem dX11_append_30 : decode cX11_append 30 = .ok (.new 106, 3) := by decide +kernel
theorem dX11_append_33 : decode cX11_append 33 = .ok (.dup, 1) := by decide +kernel
theorem dX11_append_34 : decode cX11_append 34 = .ok (.ldc 170, 2) := by decide +kernel
theorem dX11_append_36 : decode cX11_append 36 = .ok (.invokespecial 110, 3) := by decide +kernel
theorem dX11_append_39 : decode cX11_append 39 = .ok (.athrow, 1) := by decide +kernel
theorem dX11_append_40 : decode cX11_append 40 = .ok (.aload_n 0, 1) := by decide +kernel
theorem dX11_append_41 : decode cX11_append 41 = .ok (.getfield 30, 3) := by decide +kernel
theorem dX11_append_44 : decode cX11_append 44 = .ok (.iload_n 1, 1) := by decide +kernel
theorem dX11_append_45 : decode cX11_append 45 = .ok (.invokevirtual 172, 3) := by decide +kernel
theorem dX11_append_48 : decode cX11_append 48 = .ok (.aload_n 0, 1) := by decide +kernel
theorem dX11_append_49 : decode cX11_append 49 = .ok (.getfield 30, 3) := by decide +kernel
theorem dX11_append_52 : decode cX11_append 52 = .ok (.getfield 173, 3) := by decide +kernel
theorem dX11_append_55 : decode cX11_append 55 = .ok (.ireturn, 1) := by decide +kernel
theorem dX11_clearBuffer_0 : decode cX11_clearBuffer 0 = .ok (.aload_n 0, 1) := by decide +kernel
theorem dX11_clearBuffer_1 : decode cX11_clearBuffer 1 = .ok (.getfield 30, 3) := by decide +kernel
theorem dX11_clearBuffer_4 : decode cX11_clearBuffer 4 = .ok (.getfield 173, 3) := by decide +kernel
theorem dX11_clearBuffer_7 : decode cX11_clearBuffer 7 = .ok (.istore_n 1, 1) := by decide +kernel
theorem dX11_clearBuffer_8 : decode cX11_clearBuffer 8 = .ok (.aload_n 0, 1) := by decide +kernel
theorem dX11_clearBuffer_9 : decode cX11_clearBuffer 9 = .ok (.getfield 30, 3) := by decide +kernel
theorem dX11_clearBuffer_12 : decode cX11_clearBuffer 12 = .ok (.iconst 0, 1) := by decide +kernel
theorem dX11_clearBuffer_13 : decode cX11_clearBuffer 13 = .ok (.putfield 173, 3) := by decide +kernel
theorem dX11_clearBuffer_16 : decode cX11_clearBuffer 16 = .ok (.iload_n 1, 1) := by decide +kernel
theorem dX11_clearBuffer_17 : decode cX11_clearBuffer 17 = .ok (.ireturn, 1) := by decide +kernel
theorem dX11_firstError_0 : decode cX11_firstError 0 = .ok (.aload_n 0, 1) := by decide +kernel
theorem dX11_firstError_1 : decode cX11_firstError 1 = .ok (.getfield 30, 3) := by decide +kernel
theorem dX11_firstError_4 : decode cX11_firstError 4 = .ok (.aload_n 0, 1) := by decide +kernel
theorem dX11_firstError_5 : decode cX11_firstError 5 = .ok (.getfield 89, 3) := by decide +kernel
theorem dX11_firstError_8 : decode cX11_firstError 8 = .ok (.aload_n 0, 1) := by decide +kernel
theorem dX11_firstError_9 : decode cX11_firstError 9 = .ok (.getfield 80, 3) := by decide +kernel
theorem dX11_firstError_12 : decode cX11_firstError 12 = .ok (.invokevirtual 176, 3) := by decide +kernel
theorem dX11_firstError_15 : decode cX11_firstError 15 = .ok (.ireturn, 1) := by decide +kernel
theorem dX11_load_0 : decode cX11_load 0 = .ok (.aload_n 0, 1) := by decide +kernel
theorem dX11_load_1 : decode cX11_load 1 = .ok (.getfield 30, 3) := by decide +kernel
theorem dX11_load_4 : decode cX11_load 4 = .ok (.aload_n 0, 1) := by decide +kernel
theorem dX11_load_5 : decode cX11_load 5 = .ok (.getfield 89, 3) := by decide +kernel
theorem dX11_load_8 : decode cX11_load 8 = .ok (.aload_n 0, 1) := by decide +kernel
theorem dX11_load_9 : decode cX11_load 9 = .ok (.getfield 80, 3) := by decide +kernel
theorem dX11_load_12 : decode cX11_load 12 = .ok (.invokevirtual 180, 3) := by decide +kernel
theorem dX11_load_15 : decode cX11_load 15 = .ok (.invokestatic 76, 3) := by decide +kernel
theorem dX11_load_18 : decode cX11_load 18 = .ok (.aload_n 0, 1) := by decide +kernel
theorem dX11_load_19 : decode cX11_load 19 = .ok (.getfield 30, 3) := by decide +kernel
theorem dX11_load_22 : decode cX11_load 22 = .ok (.getfield 184, 3) := by decide +kernel
theorem dX11_load_25 : decode cX11_load 25 = .ok (.istore_n 1, 1) := by decide +kernel
theorem dX11_load_26 : decode cX11_load 26 = .ok (.aload_n 0, 1) := by decide +kernel
theorem dX11_load_27 : decode cX11_load 27 = .ok (.iload_n 1, 1) := by decide +kernel
theorem dX11_load_28 : decode cX11_load 28 = .ok (.invokevirtual 146, 3) := by decide +kernel
theorem dX11_load_31 : decode cX11_load 31 = .ok (.aload_n 0, 1) := by decide +kernel
theorem dX11_load_32 : decode cX11_load 32 = .ok (.invokevirtual 130, 3) := by decide +kernel
theorem dX11_load_35 : decode cX11_load 35 = .ok (.iconst 0, 1) := by decide +kernel
theorem dX11_load_36 : decode cX11_load 36 = .ok (.istore_n 2, 1) := by decide +kernel
theorem dX11_load_37 : decode cX11_load 37 = .ok (.iload_n 2, 1) := by decide +kernel
theorem dX11_load_38 : decode cX11_load 38 = .ok (.iload_n 1, 1) := by decide +kernel
theorem dX11_load_39 : decode cX11_load 39 = .ok (.if_icmp .ge 24, 3) := by decide +kernel
theorem dX11_load_42 : decode cX11_load 42 = .ok (.aload_n 0, 1) := by decide +kernel
theorem dX11_load_43 : decode cX11_load 43 = .ok (.getfield 16, 3) := by decide +kernel
theorem dX11_load_46 : decode cX11_load 46 = .ok (.aload_n 0, 1) := by decide +kernel
theorem dX11_load_47 : decode cX11_load 47 = .ok (.getfield 30, 3) := by decide +kernel
theorem dX11_load_50 : decode cX11_load 50 = .ok (.iload_n 2, 1) := by decide +kernel
theorem dX11_load_51 : decode cX11_load 51 = .ok (.invokevirtual 187, 3) := by decide +kernel
theorem dX11_load_54 : decode cX11_load 54 = .ok (.invokevirtual 140, 3) := by decide +kernel
theorem dX11_load_57 : decode cX11_load 57 = .ok (.iinc 2 1, 3) := by decide +kernel
theorem dX11_load_60 : decode cX11_load 60 = .ok (.goto (-23), 3) := by decide +kernel
theorem dX11_load_63 : decode cX11_load 63 = .ok (.aload_n 0, 1) := by decide +kernel
theorem dX11_load_64 : decode cX11_load 64 = .ok (.getfield 30, 3) := by decide +kernel
theorem dX11_load_67 : decode cX11_load 67 = .ok (.iconst 0, 1) := by decide +kernel
theorem dX11_load_68 : decode cX11_load 68 = .ok (.putfield 173, 3) := by decide +kernel
theorem dX11_load_71 : decode cX11_load 71 = .ok (.iload_n 1, 1) := by decide +kernel
theorem dX11_load_72 : decode cX11_load 72 = .ok (.ireturn, 1) := by decide +kernel
theorem dX11_count_0 : decode cX11_count 0 = .ok (.iload_n 1, 1) := by decide +kernel
theorem dX11_count_1 : decode cX11_count 1 = .ok (.ifCond .lt 13, 3) := by decide +kernel
theorem dX11_count_4 : decode cX11_count 4 = .ok (.iload_n 1, 1) := by decide +kernel
theorem dX11_count_5 : decode cX11_count 5 = .ok (.bipush 7, 2) := by decide +kernel
theorem dX11_count_7 : decode cX11_count 7 = .ok (.if_icmp .gt 7, 3) := by decide +kernel
theorem dX11_count_10 : decode cX11_count 10 = .ok (.iconst 1, 1) := by decide +kernel
theorem dX11_count_11 : decode cX11_count 11 = .ok (.goto 4, 3) := by decide +kernel
theorem dX11_count_14 : decode cX11_count 14 = .ok (.iconst 0, 1) := by decide +kernel
theorem dX11_count_15 : decode cX11_count 15 = .ok (.invokestatic 76, 3) := by decide +kernel
theorem dX11_count_18 : decode cX11_count 18 = .ok (.aload_n 0, 1) := by decide +kernel
theorem dX11_count_19 : decode cX11_count 19 = .ok (.iload_n 1, 1) := by decide +kernel
theorem dX11_count_20 : decode cX11_count 20 = .ok (.invokevirtual 190, 3) := by decide +kernel
theorem dX11_count_23 : decode cX11_count 23 = .ok (.ireturn, 1) := by decide +kernel
theorem dX11_comparison_0 : decode cX11_comparison 0 = .ok (.iload_n 1, 1) := by decide +kernel
theorem dX11_comparison_1 : decode cX11_comparison 1 = .ok (.aload_n 0, 1) := by decide +kernel
theorem dX11_comparison_2 : decode cX11_comparison 2 = .ok (.getfield 16, 3) := by decide +kernel
theorem dX11_comparison_5 : decode cX11_comparison 5 = .ok (.getfield 149, 3) := by decide +kernel
theorem dX11_comparison_8 : decode cX11_comparison 8 = .ok (.invokestatic 84, 3) := by decide +kernel
theorem dX11_comparison_11 : decode cX11_comparison 11 = .ok (.iload_n 2, 1) := by decide +kernel
theorem dX11_comparison_12 : decode cX11_comparison 12 = .ok (.ifCond .lt 12, 3) := by decide +kernel
theorem dX11_comparison_15 : decode cX11_comparison 15 = .ok (.iload_n 2, 1) := by decide +kernel
theorem dX11_comparison_16 : decode cX11_comparison 16 = .ok (.iconst 3, 1) := by decide +kernel
theorem dX11_comparison_17 : decode cX11_comparison 17 = .ok (.if_icmp .gt 7, 3) := by decide +kernel
theorem dX11_comparison_20 : decode cX11_comparison 20 = .ok (.iconst 1, 1) := by decide +kernel
theorem dX11_comparison_21 : decode cX11_comparison 21 = .ok (.goto 4, 3) := by decide +kernel
theorem dX11_comparison_24 : decode cX11_comparison 24 = .ok (.iconst 0, 1) := by decide +kernel
theorem dX11_comparison_25 : decode cX11_comparison 25 = .ok (.invokestatic 76, 3) := by decide +kernel
theorem dX11_comparison_28 : decode cX11_comparison 28 = .ok (.aload_n 0, 1) := by decide +kernel
theorem dX11_comparison_29 : decode cX11_comparison 29 = .ok (.getfield 16, 3) := by decide +kernel
theorem dX11_comparison_32 : decode cX11_comparison 32 = .ok (.iload_n 1, 1) := by decide +kernel
theorem dX11_comparison_33 : decode cX11_comparison 33 = .ok (.invokevirtual 193, 3) := by decide +kernel
theorem dX11_comparison_36 : decode cX11_comparison 36 = .ok (.iload_n 2, 1) := by decide +kernel
theorem dX11_comparison_37 : decode cX11_comparison 37 = .ok (.invokestatic 196, 3) := by decide +kernel
theorem dX11_comparison_40 : decode cX11_comparison 40 = .ok (.ireturn, 1) := by decide +kernel
theorem dX11_result_0 : decode cX11_result 0 = .ok (.iload_n 1, 1) := by decide +kernel
theorem dX11_result_1 : decode cX11_result 1 = .ok (.aload_n 0, 1) := by decide +kernel
theorem dX11_result_2 : decode cX11_result 2 = .ok (.getfield 89, 3) := by decide +kernel
theorem dX11_result_5 : decode cX11_result 5 = .ok (.invokestatic 84, 3) := by decide +kernel
theorem dX11_result_8 : decode cX11_result 8 = .ok (.iload_n 2, 1) := by decide +kernel
theorem dX11_result_9 : decode cX11_result 9 = .ok (.aload_n 0, 1) := by decide +kernel
theorem dX11_result_10 : decode cX11_result 10 = .ok (.getfield 89, 3) := by decide +kernel
theorem dX11_result_13 : decode cX11_result 13 = .ok (.invokestatic 84, 3) := by decide +kernel
theorem dX11_result_16 : decode cX11_result 16 = .ok (.iload_n 3, 1) := by decide +kernel
theorem dX11_result_17 : decode cX11_result 17 = .ok (.ifCond .lt 12, 3) := by decide +kernel
theorem dX11_result_20 : decode cX11_result 20 = .ok (.iload_n 3, 1) := by decide +kernel
theorem dX11_result_21 : decode cX11_result 21 = .ok (.iconst 3, 1) := by decide +kernel
theorem dX11_result_22 : decode cX11_result 22 = .ok (.if_icmp .gt 7, 3) := by decide +kernel
theorem dX11_result_25 : decode cX11_result 25 = .ok (.iconst 1, 1) := by decide +kernel
theorem dX11_result_26 : decode cX11_result 26 = .ok (.goto 4, 3) := by decide +kernel
theorem dX11_result_29 : decode cX11_result 29 = .ok (.iconst 0, 1) := by decide +kernel
theorem dX11_result_30 : decode cX11_result 30 = .ok (.invokestatic 76, 3) := by decide +kernel
theorem dX11_result_33 : decode cX11_result 33 = .ok (.iload_n 3, 1) := by decide +kernel
theorem dX11_result_34 : decode cX11_result 34 = .ok (.iconst 3, 1) := by decide +kernel
theorem dX11_result_35 : decode cX11_result 35 = .ok (.if_icmp .ne 10, 3) := by decide +kernel
theorem dX11_result_38 : decode cX11_result 38 = .ok (.aload_n 0, 1) := by decide +kernel
theorem dX11_result_39 : decode cX11_result 39 = .ok (.iload_n 1, 1) := by decide +kernel
theorem dX11_result_40 : decode cX11_result 40 = .ok (.iload_n 2, 1) := by decide +kernel
theorem dX11_result_41 : decode cX11_result 41 = .ok (.invokevirtual 199, 3) := by decide +kernel
theorem dX11_result_44 : decode cX11_result 44 = .ok (.ireturn, 1) := by decide +kernel
theorem dX11_result_45 : decode cX11_result 45 = .ok (.iload_n 3, 1) := by decide +kernel
theorem dX11_result_46 : decode cX11_result 46 = .ok (.iconst 2, 1) := by decide +kernel
theorem dX11_result_47 : decode cX11_result 47 = .ok (.if_icmp .ne 21, 3) := by decide +kernel
theorem dX11_result_50 : decode cX11_result 50 = .ok (.aload_n 0, 1) := by decide +kernel
theorem dX11_result_51 : decode cX11_result 51 = .ok (.iconst (-1), 1) := by decide +kernel
theorem dX11_result_52 : decode cX11_result 52 = .ok (.invokevirtual 202, 3) := by decide +kernel
theorem dX11_result_55 : decode cX11_result 55 = .ok (.aload_n 0, 1) := by decide +kernel
theorem dX11_result_56 : decode cX11_result 56 = .ok (.getfield 54, 3) := by decide +kernel
theorem dX11_result_59 : decode cX11_result 59 = .ok (.getfield 205, 3) := by decide +kernel
theorem dX11_result_62 : decode cX11_result 62 = .ok (.iload_n 1, 1) := by decide +kernel
theorem dX11_result_63 : decode cX11_result 63 = .ok (.iload_n 2, 1) := by decide +kernel
theorem dX11_result_64 : decode cX11_result 64 = .ok (.invokevirtual 208, 3) := by decide +kernel
theorem dX11_result_67 : decode cX11_result 67 = .ok (.ireturn, 1) := by decide +kernel
theorem dX11_result_68 : decode cX11_result 68 = .ok (.aload_n 0, 1) := by decide +kernel
theorem dX11_result_69 : decode cX11_result 69 = .ok (.getfield 37, 3) := by decide +kernel
theorem dX11_result_72 : decode cX11_result 72 = .ok (.aload_n 0, 1) := by decide +kernel
theorem dX11_result_73 : decode cX11_result 73 = .ok (.getfield 16, 3) := by decide +kernel
theorem dX11_result_76 : decode cX11_result 76 = .ok (.invokevirtual 211, 3) := by decide +kernel
theorem dX11_result_79 : decode cX11_result 79 = .ok (.iload_n 3, 1) := by decide +kernel
theorem dX11_result_80 : decode cX11_result 80 = .ok (.ifCond .ne 15, 3) := by decide +kernel
theorem dX11_result_83 : decode cX11_result 83 = .ok (.aload_n 0, 1) := by decide +kernel
theorem dX11_result_84 : decode cX11_result 84 = .ok (.getfield 37, 3) := by decide +kernel
theorem dX11_result_87 : decode cX11_result 87 = .ok (.iload_n 1, 1) := by decide +kernel
theorem dX11_result_88 : decode cX11_result 88 = .ok (.iload_n 2, 1) := by decide +kernel
theorem dX11_result_89 : decode cX11_result 89 = .ok (.invokevirtual 214, 3) := by decide +kernel
theorem dX11_result_92 : decode cX11_result 92 = .ok (.goto 12, 3) := by decide +kernel
theorem dX11_result_95 : decode cX11_result 95 = .ok (.aload_n 0, 1) := by decide +kernel
theorem dX11_result_96 : decode cX11_result 96 = .ok (.getfield 37, 3) := by decide +kernel
theorem dX11_result_99 : decode cX11_result 99 = .ok (.iload_n 1, 1) := by decide +kernel
theorem dX11_result_100 : decode cX11_result 100 = .ok (.iload_n 2, 1) := by decide +kernel
theorem dX11_result_101 : decode cX11_result 101 = .ok (.invokevirtual 217, 3) := by decide +kernel
theorem dX11_result_104 : decode cX11_result 104 = .ok (.ireturn, 1) := by decide +kernel
theorem dX11_sample_0 : decode cX11_sample 0 = .ok (.iload_n 1, 1) := by decide +kernel
theorem dX11_sample_1 : decode cX11_sample 1 = .ok (.aload_n 0, 1) := by decide +kernel
theorem dX11_sample_2 : decode cX11_sample 2 = .ok (.getfield 89, 3) := by decide +kernel
theorem dX11_sample_5 : decode cX11_sample 5 = .ok (.invokestatic 84, 3) := by decide +kernel
theorem dX11_sample_8 : decode cX11_sample 8 = .ok (.iload_n 2, 1) := by decide +kernel
theorem dX11_sample_9 : decode cX11_sample 9 = .ok (.ifCond .lt 12, 3) := by decide +kernel
theorem dX11_sample_12 : decode cX11_sample 12 = .ok (.iload_n 2, 1) := by decide +kernel
theorem dX11_sample_13 : decode cX11_sample 13 = .ok (.iconst 5, 1) := by decide +kernel
theorem dX11_sample_14 : decode cX11_sample 14 = .ok (.if_icmp .gt 7, 3) := by decide +kernel
theorem dX11_sample_17 : decode cX11_sample 17 = .ok (.iconst 1, 1) := by decide +kernel
theorem dX11_sample_18 : decode cX11_sample 18 = .ok (.goto 4, 3) := by decide +kernel
theorem dX11_sample_21 : decode cX11_sample 21 = .ok (.iconst 0, 1) := by decide +kernel
theorem dX11_sample_22 : decode cX11_sample 22 = .ok (.invokestatic 76, 3) := by decide +kernel
theorem dX11_sample_25 : decode cX11_sample 25 = .ok (.aload_n 0, 1) := by decide +kernel
theorem dX11_sample_26 : decode cX11_sample 26 = .ok (.iconst (-1), 1) := by decide +kernel
theorem dX11_sample_27 : decode cX11_sample 27 = .ok (.invokevirtual 202, 3) := by decide +kernel
theorem dX11_sample_30 : decode cX11_sample 30 = .ok (.aload_n 0, 1) := by decide +kernel
theorem dX11_sample_31 : decode cX11_sample 31 = .ok (.getfield 54, 3) := by decide +kernel
theorem dX11_sample_34 : decode cX11_sample 34 = .ok (.aload_n 0, 1) := by decide +kernel
theorem dX11_sample_35 : decode cX11_sample 35 = .ok (.getfield 16, 3) := by decide +kernel
theorem dX11_sample_38 : decode cX11_sample 38 = .ok (.iload_n 1, 1) := by decide +kernel
theorem dX11_sample_39 : decode cX11_sample 39 = .ok (.iload_n 2, 1) := by decide +kernel
theorem dX11_sample_40 : decode cX11_sample 40 = .ok (.invokevirtual 220, 3) := by decide +kernel
theorem dX11_sample_43 : decode cX11_sample 43 = .ok (.ireturn, 1) := by decide +kernel
theorem dX11_order_0 : decode cX11_order 0 = .ok (.iload_n 1, 1) := by decide +kernel
theorem dX11_order_1 : decode cX11_order 1 = .ok (.aload_n 0, 1) := by decide +kernel
theorem dX11_order_2 : decode cX11_order 2 = .ok (.getfield 89, 3) := by decide +kernel
theorem dX11_order_5 : decode cX11_order 5 = .ok (.invokestatic 84, 3) := by decide +kernel
theorem dX11_order_8 : decode cX11_order 8 = .ok (.aload_n 0, 1) := by decide +kernel
theorem dX11_order_9 : decode cX11_order 9 = .ok (.iconst (-1), 1) := by decide +kernel
theorem dX11_order_10 : decode cX11_order 10 = .ok (.invokevirtual 202, 3) := by decide +kernel
theorem dX11_order_13 : decode cX11_order 13 = .ok (.aload_n 0, 1) := by decide +kernel
theorem dX11_order_14 : decode cX11_order 14 = .ok (.getfield 54, 3) := by decide +kernel
theorem dX11_order_17 : decode cX11_order 17 = .ok (.iload_n 1, 1) := by decide +kernel
theorem dX11_order_18 : decode cX11_order 18 = .ok (.invokevirtual 223, 3) := by decide +kernel
theorem dX11_order_21 : decode cX11_order 21 = .ok (.ireturn, 1) := by decide +kernel
theorem dX11_summary_0 : decode cX11_summary 0 = .ok (.iload_n 1, 1) := by decide +kernel
theorem dX11_summary_1 : decode cX11_summary 1 = .ok (.ifCond .lt 12, 3) := by decide +kernel
theorem dX11_summary_4 : decode cX11_summary 4 = .ok (.iload_n 1, 1) := by decide +kernel
theorem dX11_summary_5 : decode cX11_summary 5 = .ok (.iconst 5, 1) := by decide +kernel
theorem dX11_summary_6 : decode cX11_summary 6 = .ok (.if_icmp .gt 7, 3) := by decide +kernel
theorem dX11_summary_9 : decode cX11_summary 9 = .ok (.iconst 1, 1) := by decide +kernel
theorem dX11_summary_10 : decode cX11_summary 10 = .ok (.goto 4, 3) := by decide +kernel
theorem dX11_summary_13 : decode cX11_summary 13 = .ok (.iconst 0, 1) := by decide +kernel
theorem dX11_summary_14 : decode cX11_summary 14 = .ok (.invokestatic 76, 3) := by decide +kernel
theorem dX11_summary_17 : decode cX11_summary 17 = .ok (.aload_n 0, 1) := by decide +kernel
theorem dX11_summary_18 : decode cX11_summary 18 = .ok (.iconst (-1), 1) := by decide +kernel
theorem dX11_summary_19 : decode cX11_summary 19 = .ok (.invokevirtual 202, 3) := by decide +kernel
theorem dX11_summary_22 : decode cX11_summary 22 = .ok (.aload_n 0, 1) := by decide +kernel
theorem dX11_summary_23 : decode cX11_summary 23 = .ok (.getfield 54, 3) := by decide +kernel
theorem dX11_summary_26 : decode cX11_summary 26 = .ok (.aload_n 0, 1) := by decide +kernel
theorem dX11_summary_27 : decode cX11_summary 27 = .ok (.getfield 16, 3) := by decide +kernel
theorem dX11_summary_30 : decode cX11_summary 30 = .ok (.iload_n 1, 1) := by decide +kernel
theorem dX11_summary_31 : decode cX11_summary 31 = .ok (.invokevirtual 226, 3) := by decide +kernel
theorem dX11_summary_34 : decode cX11_summary 34 = .ok (.ireturn, 1) := by decide +kernel
theorem dX11_without_0 : decode cX11_without 0 = .ok (.iload_n 1, 1) := by decide +kernel
theorem dX11_without_1 : decode cX11_without 1 = .ok (.aload_n 0, 1) := by decide +kernel
theorem dX11_without_2 : decode cX11_without 2 = .ok (.getfield 80, 3) := by decide +kernel
theorem dX11_without_5 : decode cX11_without 5 = .ok (.invokestatic 84, 3) := by decide +kernel
