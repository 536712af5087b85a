theorem dX12_keep_103 : decode cX12_keep 103 = .ok (.aload_n 0, 1) := by decide +kernel
theorem dX12_keep_104 : decode cX12_keep 104 = .ok (.getfield 105, 3) := by decide +kernel
theorem dX12_keep_107 : decode cX12_keep 107 = .ok (.if_icmp .ge 29, 3) := by decide +kernel
theorem dX12_keep_110 : decode cX12_keep 110 = .ok (.aload_n 0, 1) := by decide +kernel
theorem dX12_keep_111 : decode cX12_keep 111 = .ok (.getfield 47, 3) := by decide +kernel
theorem dX12_keep_114 : decode cX12_keep 114 = .ok (.bipush 56, 2) := by decide +kernel
theorem dX12_keep_116 : decode cX12_keep 116 = .ok (.aload_n 0, 1) := by decide +kernel
theorem dX12_keep_117 : decode cX12_keep 117 = .ok (.getfield 111, 3) := by decide +kernel
theorem dX12_keep_120 : decode cX12_keep 120 = .ok (.imul, 1) := by decide +kernel
theorem dX12_keep_121 : decode cX12_keep 121 = .ok (.iload_n 1, 1) := by decide +kernel
theorem dX12_keep_122 : decode cX12_keep 122 = .ok (.iadd, 1) := by decide +kernel
theorem dX12_keep_123 : decode cX12_keep 123 = .ok (.aload_n 0, 1) := by decide +kernel
theorem dX12_keep_124 : decode cX12_keep 124 = .ok (.getfield 29, 3) := by decide +kernel
theorem dX12_keep_127 : decode cX12_keep 127 = .ok (.iload_n 1, 1) := by decide +kernel
theorem dX12_keep_128 : decode cX12_keep 128 = .ok (.iaload, 1) := by decide +kernel
theorem dX12_keep_129 : decode cX12_keep 129 = .ok (.iastore, 1) := by decide +kernel
theorem dX12_keep_130 : decode cX12_keep 130 = .ok (.iinc 1 1, 3) := by decide +kernel
theorem dX12_keep_133 : decode cX12_keep 133 = .ok (.goto (-31), 3) := by decide +kernel
theorem dX12_keep_136 : decode cX12_keep 136 = .ok (.aload_n 0, 1) := by decide +kernel
theorem dX12_keep_137 : decode cX12_keep 137 = .ok (.dup, 1) := by decide +kernel
theorem dX12_keep_138 : decode cX12_keep 138 = .ok (.getfield 111, 3) := by decide +kernel
theorem dX12_keep_141 : decode cX12_keep 141 = .ok (.iconst 1, 1) := by decide +kernel
theorem dX12_keep_142 : decode cX12_keep 142 = .ok (.iadd, 1) := by decide +kernel
theorem dX12_keep_143 : decode cX12_keep 143 = .ok (.putfield 111, 3) := by decide +kernel
theorem dX12_keep_146 : decode cX12_keep 146 = .ok (.return_, 1) := by decide +kernel
theorem dX12_add_0 : decode cX12_add 0 = .ok (.aload_n 0, 1) := by decide +kernel
theorem dX12_add_1 : decode cX12_add 1 = .ok (.getfield 13, 3) := by decide +kernel
theorem dX12_add_4 : decode cX12_add 4 = .ok (.aload_n 0, 1) := by decide +kernel
theorem dX12_add_5 : decode cX12_add 5 = .ok (.getfield 102, 3) := by decide +kernel
theorem dX12_add_8 : decode cX12_add 8 = .ok (.iload_n 1, 1) := by decide +kernel
theorem dX12_add_9 : decode cX12_add 9 = .ok (.iastore, 1) := by decide +kernel
theorem dX12_add_10 : decode cX12_add 10 = .ok (.aload_n 0, 1) := by decide +kernel
theorem dX12_add_11 : decode cX12_add 11 = .ok (.getfield 16, 3) := by decide +kernel
theorem dX12_add_14 : decode cX12_add 14 = .ok (.aload_n 0, 1) := by decide +kernel
theorem dX12_add_15 : decode cX12_add 15 = .ok (.getfield 102, 3) := by decide +kernel
theorem dX12_add_18 : decode cX12_add 18 = .ok (.iload_n 2, 1) := by decide +kernel
theorem dX12_add_19 : decode cX12_add 19 = .ok (.iastore, 1) := by decide +kernel
theorem dX12_add_20 : decode cX12_add 20 = .ok (.aload_n 0, 1) := by decide +kernel
theorem dX12_add_21 : decode cX12_add 21 = .ok (.getfield 19, 3) := by decide +kernel
theorem dX12_add_24 : decode cX12_add 24 = .ok (.aload_n 0, 1) := by decide +kernel
theorem dX12_add_25 : decode cX12_add 25 = .ok (.getfield 102, 3) := by decide +kernel
theorem dX12_add_28 : decode cX12_add 28 = .ok (.iload_n 3, 1) := by decide +kernel
theorem dX12_add_29 : decode cX12_add 29 = .ok (.iastore, 1) := by decide +kernel
theorem dX12_add_30 : decode cX12_add 30 = .ok (.aload_n 0, 1) := by decide +kernel
theorem dX12_add_31 : decode cX12_add 31 = .ok (.getfield 22, 3) := by decide +kernel
theorem dX12_add_34 : decode cX12_add 34 = .ok (.aload_n 0, 1) := by decide +kernel
theorem dX12_add_35 : decode cX12_add 35 = .ok (.getfield 102, 3) := by decide +kernel
theorem dX12_add_38 : decode cX12_add 38 = .ok (.iload 4, 2) := by decide +kernel
theorem dX12_add_40 : decode cX12_add 40 = .ok (.iastore, 1) := by decide +kernel
theorem dX12_add_41 : decode cX12_add 41 = .ok (.aload_n 0, 1) := by decide +kernel
theorem dX12_add_42 : decode cX12_add 42 = .ok (.dup, 1) := by decide +kernel
theorem dX12_add_43 : decode cX12_add 43 = .ok (.getfield 102, 3) := by decide +kernel
theorem dX12_add_46 : decode cX12_add 46 = .ok (.iconst 1, 1) := by decide +kernel
theorem dX12_add_47 : decode cX12_add 47 = .ok (.iadd, 1) := by decide +kernel
theorem dX12_add_48 : decode cX12_add 48 = .ok (.putfield 102, 3) := by decide +kernel
theorem dX12_add_51 : decode cX12_add 51 = .ok (.return_, 1) := by decide +kernel
theorem dX12_answer_0 : decode cX12_answer 0 = .ok (.aload_n 0, 1) := by decide +kernel
theorem dX12_answer_1 : decode cX12_answer 1 = .ok (.getfield 25, 3) := by decide +kernel
theorem dX12_answer_4 : decode cX12_answer 4 = .ok (.iconst (-1), 1) := by decide +kernel
theorem dX12_answer_5 : decode cX12_answer 5 = .ok (.if_icmp .eq 27, 3) := by decide +kernel
theorem dX12_answer_8 : decode cX12_answer 8 = .ok (.aload_n 0, 1) := by decide +kernel
theorem dX12_answer_9 : decode cX12_answer 9 = .ok (.getfield 108, 3) := by decide +kernel
theorem dX12_answer_12 : decode cX12_answer 12 = .ok (.aload_n 0, 1) := by decide +kernel
theorem dX12_answer_13 : decode cX12_answer 13 = .ok (.getfield 105, 3) := by decide +kernel
theorem dX12_answer_16 : decode cX12_answer 16 = .ok (.if_icmp .ge 16, 3) := by decide +kernel
theorem dX12_answer_19 : decode cX12_answer 19 = .ok (.aload_n 0, 1) := by decide +kernel
theorem dX12_answer_20 : decode cX12_answer 20 = .ok (.getfield 102, 3) := by decide +kernel
theorem dX12_answer_23 : decode cX12_answer 23 = .ok (.bipush 48, 2) := by decide +kernel
theorem dX12_answer_25 : decode cX12_answer 25 = .ok (.if_icmp .ge 7, 3) := by decide +kernel
theorem dX12_answer_28 : decode cX12_answer 28 = .ok (.iconst 1, 1) := by decide +kernel
theorem dX12_answer_29 : decode cX12_answer 29 = .ok (.goto 4, 3) := by decide +kernel
theorem dX12_answer_32 : decode cX12_answer 32 = .ok (.iconst 0, 1) := by decide +kernel
theorem dX12_answer_33 : decode cX12_answer 33 = .ok (.istore_n 2, 1) := by decide +kernel
theorem dX12_answer_34 : decode cX12_answer 34 = .ok (.aload_n 0, 1) := by decide +kernel
theorem dX12_answer_35 : decode cX12_answer 35 = .ok (.iload_n 2, 1) := by decide +kernel
theorem dX12_answer_36 : decode cX12_answer 36 = .ok (.ifCond .ne 7, 3) := by decide +kernel
theorem dX12_answer_39 : decode cX12_answer 39 = .ok (.iconst 1, 1) := by decide +kernel
theorem dX12_answer_40 : decode cX12_answer 40 = .ok (.goto 17, 3) := by decide +kernel
theorem dX12_answer_43 : decode cX12_answer 43 = .ok (.iload_n 1, 1) := by decide +kernel
theorem dX12_answer_44 : decode cX12_answer 44 = .ok (.iconst 0, 1) := by decide +kernel
theorem dX12_answer_45 : decode cX12_answer 45 = .ok (.iconst 2, 1) := by decide +kernel
theorem dX12_answer_46 : decode cX12_answer 46 = .ok (.invokestatic 95, 3) := by decide +kernel
theorem dX12_answer_49 : decode cX12_answer 49 = .ok (.ifCond .eq 7, 3) := by decide +kernel
theorem dX12_answer_52 : decode cX12_answer 52 = .ok (.iconst 0, 1) := by decide +kernel
theorem dX12_answer_53 : decode cX12_answer 53 = .ok (.goto 4, 3) := by decide +kernel
theorem dX12_answer_56 : decode cX12_answer 56 = .ok (.iconst 2, 1) := by decide +kernel
theorem dX12_answer_57 : decode cX12_answer 57 = .ok (.putfield 89, 3) := by decide +kernel
theorem dX12_answer_60 : decode cX12_answer 60 = .ok (.aload_n 0, 1) := by decide +kernel
theorem dX12_answer_61 : decode cX12_answer 61 = .ok (.getfield 89, 3) := by decide +kernel
theorem dX12_answer_64 : decode cX12_answer 64 = .ok (.ifCond .le 5, 3) := by decide +kernel
theorem dX12_answer_67 : decode cX12_answer 67 = .ok (.iconst 0, 1) := by decide +kernel
theorem dX12_answer_68 : decode cX12_answer 68 = .ok (.ireturn, 1) := by decide +kernel
theorem dX12_answer_69 : decode cX12_answer 69 = .ok (.aload_n 0, 1) := by decide +kernel
theorem dX12_answer_70 : decode cX12_answer 70 = .ok (.invokevirtual 144, 3) := by decide +kernel
theorem dX12_answer_73 : decode cX12_answer 73 = .ok (.aload_n 0, 1) := by decide +kernel
theorem dX12_answer_74 : decode cX12_answer 74 = .ok (.aload_n 0, 1) := by decide +kernel
theorem dX12_answer_75 : decode cX12_answer 75 = .ok (.getfield 25, 3) := by decide +kernel
theorem dX12_answer_78 : decode cX12_answer 78 = .ok (.aload_n 0, 1) := by decide +kernel
theorem dX12_answer_79 : decode cX12_answer 79 = .ok (.getfield 29, 3) := by decide +kernel
theorem dX12_answer_82 : decode cX12_answer 82 = .ok (.aload_n 0, 1) := by decide +kernel
theorem dX12_answer_83 : decode cX12_answer 83 = .ok (.getfield 108, 3) := by decide +kernel
theorem dX12_answer_86 : decode cX12_answer 86 = .ok (.iaload, 1) := by decide +kernel
theorem dX12_answer_87 : decode cX12_answer 87 = .ok (.bipush 10, 2) := by decide +kernel
theorem dX12_answer_89 : decode cX12_answer 89 = .ok (.idiv, 1) := by decide +kernel
theorem dX12_answer_90 : decode cX12_answer 90 = .ok (.aload_n 0, 1) := by decide +kernel
theorem dX12_answer_91 : decode cX12_answer 91 = .ok (.getfield 29, 3) := by decide +kernel
theorem dX12_answer_94 : decode cX12_answer 94 = .ok (.aload_n 0, 1) := by decide +kernel
theorem dX12_answer_95 : decode cX12_answer 95 = .ok (.getfield 108, 3) := by decide +kernel
theorem dX12_answer_98 : decode cX12_answer 98 = .ok (.iaload, 1) := by decide +kernel
theorem dX12_answer_99 : decode cX12_answer 99 = .ok (.bipush 10, 2) := by decide +kernel
theorem dX12_answer_101 : decode cX12_answer 101 = .ok (.irem, 1) := by decide +kernel
theorem dX12_answer_102 : decode cX12_answer 102 = .ok (.iload_n 1, 1) := by decide +kernel
theorem dX12_answer_103 : decode cX12_answer 103 = .ok (.invokevirtual 147, 3) := by decide +kernel
theorem dX12_answer_106 : decode cX12_answer 106 = .ok (.aload_n 0, 1) := by decide +kernel
theorem dX12_answer_107 : decode cX12_answer 107 = .ok (.dup, 1) := by decide +kernel
theorem dX12_answer_108 : decode cX12_answer 108 = .ok (.getfield 108, 3) := by decide +kernel
theorem dX12_answer_111 : decode cX12_answer 111 = .ok (.iconst 1, 1) := by decide +kernel
theorem dX12_answer_112 : decode cX12_answer 112 = .ok (.iadd, 1) := by decide +kernel
theorem dX12_answer_113 : decode cX12_answer 113 = .ok (.putfield 108, 3) := by decide +kernel
theorem dX12_answer_116 : decode cX12_answer 116 = .ok (.aload_n 0, 1) := by decide +kernel
theorem dX12_answer_117 : decode cX12_answer 117 = .ok (.getfield 105, 3) := by decide +kernel
theorem dX12_answer_120 : decode cX12_answer 120 = .ok (.aload_n 0, 1) := by decide +kernel
theorem dX12_answer_121 : decode cX12_answer 121 = .ok (.getfield 108, 3) := by decide +kernel
theorem dX12_answer_124 : decode cX12_answer 124 = .ok (.isub, 1) := by decide +kernel
theorem dX12_answer_125 : decode cX12_answer 125 = .ok (.ireturn, 1) := by decide +kernel
theorem dX12_compare_0 : decode cX12_compare 0 = .ok (.aload_n 0, 1) := by decide +kernel
theorem dX12_compare_1 : decode cX12_compare 1 = .ok (.aload_n 0, 1) := by decide +kernel
theorem dX12_compare_2 : decode cX12_compare 2 = .ok (.iload_n 1, 1) := by decide +kernel
theorem dX12_compare_3 : decode cX12_compare 3 = .ok (.invokevirtual 114, 3) := by decide +kernel
theorem dX12_compare_6 : decode cX12_compare 6 = .ok (.ifCond .eq 19, 3) := by decide +kernel
theorem dX12_compare_9 : decode cX12_compare 9 = .ok (.aload_n 0, 1) := by decide +kernel
theorem dX12_compare_10 : decode cX12_compare 10 = .ok (.iload_n 2, 1) := by decide +kernel
theorem dX12_compare_11 : decode cX12_compare 11 = .ok (.invokevirtual 151, 3) := by decide +kernel
theorem dX12_compare_14 : decode cX12_compare 14 = .ok (.ifCond .eq 11, 3) := by decide +kernel
theorem dX12_compare_17 : decode cX12_compare 17 = .ok (.aload_n 0, 1) := by decide +kernel
theorem dX12_compare_18 : decode cX12_compare 18 = .ok (.iload_n 3, 1) := by decide +kernel
theorem dX12_compare_19 : decode cX12_compare 19 = .ok (.invokevirtual 151, 3) := by decide +kernel
theorem dX12_compare_22 : decode cX12_compare 22 = .ok (.ifCond .ne 7, 3) := by decide +kernel
theorem dX12_compare_25 : decode cX12_compare 25 = .ok (.iconst 1, 1) := by decide +kernel
theorem dX12_compare_26 : decode cX12_compare 26 = .ok (.goto 36, 3) := by decide +kernel
theorem dX12_compare_29 : decode cX12_compare 29 = .ok (.iload_n 2, 1) := by decide +kernel
theorem dX12_compare_30 : decode cX12_compare 30 = .ok (.iload_n 3, 1) := by decide +kernel
theorem dX12_compare_31 : decode cX12_compare 31 = .ok (.if_icmp .eq 13, 3) := by decide +kernel
theorem dX12_compare_34 : decode cX12_compare 34 = .ok (.iload 4, 2) := by decide +kernel
theorem dX12_compare_36 : decode cX12_compare 36 = .ok (.iconst 0, 1) := by decide +kernel
theorem dX12_compare_37 : decode cX12_compare 37 = .ok (.iconst 2, 1) := by decide +kernel
theorem dX12_compare_38 : decode cX12_compare 38 = .ok (.invokestatic 95, 3) := by decide +kernel
theorem dX12_compare_41 : decode cX12_compare 41 = .ok (.ifCond .ne 7, 3) := by decide +kernel
theorem dX12_compare_44 : decode cX12_compare 44 = .ok (.iconst 2, 1) := by decide +kernel
theorem dX12_compare_45 : decode cX12_compare 45 = .ok (.goto 17, 3) := by decide +kernel
theorem dX12_compare_48 : decode cX12_compare 48 = .ok (.aload_n 0, 1) := by decide +kernel
theorem dX12_compare_49 : decode cX12_compare 49 = .ok (.getfield 102, 3) := by decide +kernel
theorem dX12_compare_52 : decode cX12_compare 52 = .ok (.bipush 48, 2) := by decide +kernel
theorem dX12_compare_54 : decode cX12_compare 54 = .ok (.if_icmp .ne 7, 3) := by decide +kernel
theorem dX12_compare_57 : decode cX12_compare 57 = .ok (.iconst 3, 1) := by decide +kernel
theorem dX12_compare_58 : decode cX12_compare 58 = .ok (.goto 4, 3) := by decide +kernel
theorem dX12_compare_61 : decode cX12_compare 61 = .ok (.iconst 0, 1) := by decide +kernel
theorem dX12_compare_62 : decode cX12_compare 62 = .ok (.putfield 89, 3) := by decide +kernel
theorem dX12_compare_65 : decode cX12_compare 65 = .ok (.aload_n 0, 1) := by decide +kernel
theorem dX12_compare_66 : decode cX12_compare 66 = .ok (.getfield 89, 3) := by decide +kernel
theorem dX12_compare_69 : decode cX12_compare 69 = .ok (.ifCond .le 5, 3) := by decide +kernel
theorem dX12_compare_72 : decode cX12_compare 72 = .ok (.iconst 0, 1) := by decide +kernel
theorem dX12_compare_73 : decode cX12_compare 73 = .ok (.ireturn, 1) := by decide +kernel
theorem dX12_compare_74 : decode cX12_compare 74 = .ok (.aload_n 0, 1) := by decide +kernel
theorem dX12_compare_75 : decode cX12_compare 75 = .ok (.invokevirtual 144, 3) := by decide +kernel
theorem dX12_compare_78 : decode cX12_compare 78 = .ok (.aload_n 0, 1) := by decide +kernel
theorem dX12_compare_79 : decode cX12_compare 79 = .ok (.iload_n 1, 1) := by decide +kernel
theorem dX12_compare_80 : decode cX12_compare 80 = .ok (.iload_n 2, 1) := by decide +kernel
theorem dX12_compare_81 : decode cX12_compare 81 = .ok (.iload_n 3, 1) := by decide +kernel
theorem dX12_compare_82 : decode cX12_compare 82 = .ok (.iload 4, 2) := by decide +kernel
theorem dX12_compare_84 : decode cX12_compare 84 = .ok (.invokevirtual 147, 3) := by decide +kernel
theorem dX12_compare_87 : decode cX12_compare 87 = .ok (.aload_n 0, 1) := by decide +kernel
theorem dX12_compare_88 : decode cX12_compare 88 = .ok (.getfield 102, 3) := by decide +kernel
theorem dX12_compare_91 : decode cX12_compare 91 = .ok (.iconst 1, 1) := by decide +kernel
theorem dX12_compare_92 : decode cX12_compare 92 = .ok (.isub, 1) := by decide +kernel
theorem dX12_compare_93 : decode cX12_compare 93 = .ok (.ireturn, 1) := by decide +kernel
theorem dX12_isComparison_0 : decode cX12_isComparison 0 = .ok (.iload_n 1, 1) := by decide +kernel
theorem dX12_isComparison_1 : decode cX12_isComparison 1 = .ok (.iconst 0, 1) := by decide +kernel
theorem dX12_isComparison_2 : decode cX12_isComparison 2 = .ok (.aload_n 0, 1) := by decide +kernel
theorem dX12_isComparison_3 : decode cX12_isComparison 3 = .ok (.getfield 102, 3) := by decide +kernel
theorem dX12_isComparison_6 : decode cX12_isComparison 6 = .ok (.iconst 1, 1) := by decide +kernel
theorem dX12_isComparison_7 : decode cX12_isComparison 7 = .ok (.isub, 1) := by decide +kernel
theorem dX12_isComparison_8 : decode cX12_isComparison 8 = .ok (.invokestatic 95, 3) := by decide +kernel
theorem dX12_isComparison_11 : decode cX12_isComparison 11 = .ok (.ireturn, 1) := by decide +kernel
theorem dX12_remove_0 : decode cX12_remove 0 = .ok (.aload_n 0, 1) := by decide +kernel
theorem dX12_remove_1 : decode cX12_remove 1 = .ok (.aload_n 0, 1) := by decide +kernel
theorem dX12_remove_2 : decode cX12_remove 2 = .ok (.iload_n 1, 1) := by decide +kernel
theorem dX12_remove_3 : decode cX12_remove 3 = .ok (.invokevirtual 154, 3) := by decide +kernel
theorem dX12_remove_6 : decode cX12_remove 6 = .ok (.ifCond .eq 7, 3) := by decide +kernel
theorem dX12_remove_9 : decode cX12_remove 9 = .ok (.iconst 0, 1) := by decide +kernel
theorem dX12_remove_10 : decode cX12_remove 10 = .ok (.goto 4, 3) := by decide +kernel
theorem dX12_remove_13 : decode cX12_remove 13 = .ok (.iconst 1, 1) := by decide +kernel
theorem dX12_remove_14 : decode cX12_remove 14 = .ok (.putfield 89, 3) := by decide +kernel
theorem dX12_remove_17 : decode cX12_remove 17 = .ok (.aload_n 0, 1) := by decide +kernel
theorem dX12_remove_18 : decode cX12_remove 18 = .ok (.getfield 89, 3) := by decide +kernel
theorem dX12_remove_21 : decode cX12_remove 21 = .ok (.ifCond .le 5, 3) := by decide +kernel
theorem dX12_remove_24 : decode cX12_remove 24 = .ok (.iconst 0, 1) := by decide +kernel
theorem dX12_remove_25 : decode cX12_remove 25 = .ok (.ireturn, 1) := by decide +kernel
theorem dX12_remove_26 : decode cX12_remove 26 = .ok (.aload_n 0, 1) := by decide +kernel
theorem dX12_remove_27 : decode cX12_remove 27 = .ok (.invokevirtual 144, 3) := by decide +kernel
theorem dX12_remove_30 : decode cX12_remove 30 = .ok (.iload_n 1, 1) := by decide +kernel
theorem dX12_remove_31 : decode cX12_remove 31 = .ok (.istore_n 2, 1) := by decide +kernel
theorem dX12_remove_32 : decode cX12_remove 32 = .ok (.iload_n 2, 1) := by decide +kernel
theorem dX12_remove_33 : decode cX12_remove 33 = .ok (.aload_n 0, 1) := by decide +kernel
theorem dX12_remove_34 : decode cX12_remove 34 = .ok (.getfield 102, 3) := by decide +kernel
theorem dX12_remove_37 : decode cX12_remove 37 = .ok (.iconst 1, 1) := by decide +kernel
theorem dX12_remove_38 : decode cX12_remove 38 = .ok (.isub, 1) := by decide +kernel
theorem dX12_remove_39 : decode cX12_remove 39 = .ok (.if_icmp .ge 21, 3) := by decide +kernel
theorem dX12_remove_42 : decode cX12_remove 42 = .ok (.aload_n 0, 1) := by decide +kernel
theorem dX12_remove_43 : decode cX12_remove 43 = .ok (.iload_n 2, 1) := by decide +kernel
theorem dX12_remove_44 : decode cX12_remove 44 = .ok (.aload_n 0, 1) := by decide +kernel
theorem dX12_remove_45 : decode cX12_remove 45 = .ok (.iload_n 2, 1) := by decide +kernel
theorem dX12_remove_46 : decode cX12_remove 46 = .ok (.iconst 1, 1) := by decide +kernel
theorem dX12_remove_47 : decode cX12_remove 47 = .ok (.iadd, 1) := by decide +kernel
theorem dX12_remove_48 : decode cX12_remove 48 = .ok (.invokevirtual 141, 3) := by decide +kernel
theorem dX12_remove_51 : decode cX12_remove 51 = .ok (.invokevirtual 157, 3) := by decide +kernel
theorem dX12_remove_54 : decode cX12_remove 54 = .ok (.iinc 2 1, 3) := by decide +kernel
theorem dX12_remove_57 : decode cX12_remove 57 = .ok (.goto (-25), 3) := by decide +kernel
theorem dX12_remove_60 : decode cX12_remove 60 = .ok (.aload_n 0, 1) := by decide +kernel
theorem dX12_remove_61 : decode cX12_remove 61 = .ok (.dup, 1) := by decide +kernel
theorem dX12_remove_62 : decode cX12_remove 62 = .ok (.getfield 102, 3) := by decide +kernel
theorem dX12_remove_65 : decode cX12_remove 65 = .ok (.iconst 1, 1) := by decide +kernel
theorem dX12_remove_66 : decode cX12_remove 66 = .ok (.isub, 1) := by decide +kernel
theorem dX12_remove_67 : decode cX12_remove 67 = .ok (.putfield 102, 3) := by decide +kernel
theorem dX12_remove_70 : decode cX12_remove 70 = .ok (.aload_n 0, 1) := by decide +kernel
theorem dX12_remove_71 : decode cX12_remove 71 = .ok (.getfield 102, 3) := by decide +kernel
theorem dX12_remove_74 : decode cX12_remove 74 = .ok (.ireturn, 1) := by decide +kernel
theorem dX12_undo_0 : decode cX12_undo 0 = .ok (.aload_n 0, 1) := by decide +kernel
theorem dX12_undo_1 : decode cX12_undo 1 = .ok (.aload_n 0, 1) := by decide +kernel
theorem dX12_undo_2 : decode cX12_undo 2 = .ok (.getfield 111, 3) := by decide +kernel
theorem dX12_undo_5 : decode cX12_undo 5 = .ok (.ifCond .le 7, 3) := by decide +kernel
theorem dX12_undo_8 : decode cX12_undo 8 = .ok (.iconst 0, 1) := by decide +kernel
theorem dX12_undo_9 : decode cX12_undo 9 = .ok (.goto 4, 3) := by decide +kernel
theorem dX12_undo_12 : decode cX12_undo 12 = .ok (.iconst 1, 1) := by decide +kernel
theorem dX12_undo_13 : decode cX12_undo 13 = .ok (.putfield 89, 3) := by decide +kernel
theorem dX12_undo_16 : decode cX12_undo 16 = .ok (.aload_n 0, 1) := by decide +kernel
theorem dX12_undo_17 : decode cX12_undo 17 = .ok (.getfield 89, 3) := by decide +kernel
theorem dX12_undo_20 : decode cX12_undo 20 = .ok (.ifCond .le 5, 3) := by decide +kernel
theorem dX12_undo_23 : decode cX12_undo 23 = .ok (.iconst 0, 1) := by decide +kernel
theorem dX12_undo_24 : decode cX12_undo 24 = .ok (.ireturn, 1) := by decide +kernel
theorem dX12_undo_25 : decode cX12_undo 25 = .ok (.aload_n 0, 1) := by decide +kernel
theorem dX12_undo_26 : decode cX12_undo 26 = .ok (.dup, 1) := by decide +kernel
theorem dX12_undo_27 : decode cX12_undo 27 = .ok (.getfield 111, 3) := by decide +kernel
theorem dX12_undo_30 : decode cX12_undo 30 = .ok (.iconst 1, 1) := by decide +kernel
theorem dX12_undo_31 : decode cX12_undo 31 = .ok (.isub, 1) := by decide +kernel
theorem dX12_undo_32 : decode cX12_undo 32 = .ok (.putfield 111, 3) := by decide +kernel
theorem dX12_undo_35 : decode cX12_undo 35 = .ok (.aload_n 0, 1) := by decide +kernel
theorem dX12_undo_36 : decode cX12_undo 36 = .ok (.aload_n 0, 1) := by decide +kernel
theorem dX12_undo_37 : decode cX12_undo 37 = .ok (.getfield 32, 3) := by decide +kernel
theorem dX12_undo_40 : decode cX12_undo 40 = .ok (.aload_n 0, 1) := by decide +kernel
theorem dX12_undo_41 : decode cX12_undo 41 = .ok (.getfield 111, 3) := by decide +kernel
theorem dX12_undo_44 : decode cX12_undo 44 = .ok (.iaload, 1) := by decide +kernel
theorem dX12_undo_45 : decode cX12_undo 45 = .ok (.putfield 102, 3) := by decide +kernel
theorem dX12_undo_48 : decode cX12_undo 48 = .ok (.aload_n 0, 1) := by decide +kernel
theorem dX12_undo_49 : decode cX12_undo 49 = .ok (.aload_n 0, 1) := by decide +kernel
theorem dX12_undo_50 : decode cX12_undo 50 = .ok (.getfield 38, 3) := by decide +kernel
theorem dX12_undo_53 : decode cX12_undo 53 = .ok (.aload_n 0, 1) := by decide +kernel
theorem dX12_undo_54 : decode cX12_undo 54 = .ok (.getfield 111, 3) := by decide +kernel
theorem dX12_undo_57 : decode cX12_undo 57 = .ok (.iaload, 1) := by decide +kernel
theorem dX12_undo_58 : decode cX12_undo 58 = .ok (.putfield 25, 3) := by decide +kernel
theorem dX12_undo_61 : decode cX12_undo 61 = .ok (.aload_n 0, 1) := by decide +kernel
theorem dX12_undo_62 : decode cX12_undo 62 = .ok (.aload_n 0, 1) := by decide +kernel
theorem dX12_undo_63 : decode cX12_undo 63 = .ok (.getfield 41, 3) := by decide +kernel
theorem dX12_undo_66 : decode cX12_undo 66 = .ok (.aload_n 0, 1) := by decide +kernel
theorem dX12_undo_67 : decode cX12_undo 67 = .ok (.getfield 111, 3) := by decide +kernel
theorem dX12_undo_70 : decode cX12_undo 70 = .ok (.iaload, 1) := by decide +kernel
theorem dX12_undo_71 : decode cX12_undo 71 = .ok (.putfield 105, 3) := by decide +kernel
theorem dX12_undo_74 : decode cX12_undo 74 = .ok (.aload_n 0, 1) := by decide +kernel
theorem dX12_undo_75 : decode cX12_undo 75 = .ok (.aload_n 0, 1) := by decide +kernel
theorem dX12_undo_76 : decode cX12_undo 76 = .ok (.getfield 44, 3) := by decide +kernel
theorem dX12_undo_79 : decode cX12_undo 79 = .ok (.aload_n 0, 1) := by decide +kernel
theorem dX12_undo_80 : decode cX12_undo 80 = .ok (.getfield 111, 3) := by decide +kernel
theorem dX12_undo_83 : decode cX12_undo 83 = .ok (.iaload, 1) := by decide +kernel
theorem dX12_undo_84 : decode cX12_undo 84 = .ok (.putfield 108, 3) := by decide +kernel
theorem dX12_undo_87 : decode cX12_undo 87 = .ok (.iconst 0, 1) := by decide +kernel
theorem dX12_undo_88 : decode cX12_undo 88 = .ok (.istore_n 1, 1) := by decide +kernel
theorem dX12_undo_89 : decode cX12_undo 89 = .ok (.iload_n 1, 1) := by decide +kernel
theorem dX12_undo_90 : decode cX12_undo 90 = .ok (.aload_n 0, 1) := by decide +kernel
theorem dX12_undo_91 : decode cX12_undo 91 = .ok (.getfield 102, 3) := by decide +kernel
theorem dX12_undo_94 : decode cX12_undo 94 = .ok (.if_icmp .ge 28, 3) := by decide +kernel
theorem dX12_undo_97 : decode cX12_undo 97 = .ok (.aload_n 0, 1) := by decide +kernel
theorem dX12_undo_98 : decode cX12_undo 98 = .ok (.iload_n 1, 1) := by decide +kernel
theorem dX12_undo_99 : decode cX12_undo 99 = .ok (.aload_n 0, 1) := by decide +kernel
theorem dX12_undo_100 : decode cX12_undo 100 = .ok (.getfield 35, 3) := by decide +kernel
theorem dX12_undo_103 : decode cX12_undo 103 = .ok (.bipush 48, 2) := by decide +kernel
theorem dX12_undo_105 : decode cX12_undo 105 = .ok (.aload_n 0, 1) := by decide +kernel
theorem dX12_undo_106 : decode cX12_undo 106 = .ok (.getfield 111, 3) := by decide +kernel
theorem dX12_undo_109 : decode cX12_undo 109 = .ok (.imul, 1) := by decide +kernel
theorem dX12_undo_110 : decode cX12_undo 110 = .ok (.iload_n 1, 1) := by decide +kernel
theorem dX12_undo_111 : decode cX12_undo 111 = .ok (.iadd, 1) := by decide +kernel
theorem dX12_undo_112 : decode cX12_undo 112 = .ok (.iaload, 1) := by decide +kernel
theorem dX12_undo_113 : decode cX12_undo 113 = .ok (.invokevirtual 157, 3) := by decide +kernel
theorem dX12_undo_116 : decode cX12_undo 116 = .ok (.iinc 1 1, 3) := by decide +kernel
theorem dX12_undo_119 : decode cX12_undo 119 = .ok (.goto (-30), 3) := by decide +kernel
theorem dX12_undo_122 : decode cX12_undo 122 = .ok (.iconst 0, 1) := by decide +kernel
theorem dX12_undo_123 : decode cX12_undo 123 = .ok (.istore_n 1, 1) := by decide +kernel
theorem dX12_undo_124 : decode cX12_undo 124 = .ok (.iload_n 1, 1) := by decide +kernel
theorem dX12_undo_125 : decode cX12_undo 125 = .ok (.aload_n 0, 1) := by decide +kernel
theorem dX12_undo_126 : decode cX12_undo 126 = .ok (.getfield 105, 3) := by decide +kernel
theorem dX12_undo_129 : decode cX12_undo 129 = .ok (.if_icmp .ge 29, 3) := by decide +kernel
theorem dX12_undo_132 : decode cX12_undo 132 = .ok (.aload_n 0, 1) := by decide +kernel
theorem dX12_undo_133 : decode cX12_undo 133 = .ok (.getfield 29, 3) := by decide +kernel
theorem dX12_undo_136 : decode cX12_undo 136 = .ok (.iload_n 1, 1) := by decide +kernel
theorem dX12_undo_137 : decode cX12_undo 137 = .ok (.aload_n 0, 1) := by decide +kernel
theorem dX12_undo_138 : decode cX12_undo 138 = .ok (.getfield 47, 3) := by decide +kernel
theorem dX12_undo_141 : decode cX12_undo 141 = .ok (.bipush 56, 2) := by decide +kernel
theorem dX12_undo_143 : decode cX12_undo 143 = .ok (.aload_n 0, 1) := by decide +kernel
theorem dX12_undo_144 : decode cX12_undo 144 = .ok (.getfield 111, 3) := by decide +kernel
theorem dX12_undo_147 : decode cX12_undo 147 = .ok (.imul, 1) := by decide +kernel
theorem dX12_undo_148 : decode cX12_undo 148 = .ok (.iload_n 1, 1) := by decide +kernel
theorem dX12_undo_149 : decode cX12_undo 149 = .ok (.iadd, 1) := by decide +kernel
theorem dX12_undo_150 : decode cX12_undo 150 = .ok (.iaload, 1) := by decide +kernel
theorem dX12_undo_151 : decode cX12_undo 151 = .ok (.iastore, 1) := by decide +kernel
theorem dX12_undo_152 : decode cX12_undo 152 = .ok (.iinc 1 1, 3) := by decide +kernel
theorem dX12_undo_155 : decode cX12_undo 155 = .ok (.goto (-31), 3) := by decide +kernel
theorem dX12_undo_158 : decode cX12_undo 158 = .ok (.aload_n 0, 1) := by decide +kernel
theorem dX12_undo_159 : decode cX12_undo 159 = .ok (.getfield 102, 3) := by decide +kernel
theorem dX12_undo_162 : decode cX12_undo 162 = .ok (.ireturn, 1) := by decide +kernel
theorem dX12_append_0 : decode cX12_append 0 = .ok (.aload_n 0, 1) := by decide +kernel
theorem dX12_append_1 : decode cX12_append 1 = .ok (.iload_n 1, 1) := by decide +kernel
theorem dX12_append_2 : decode cX12_append 2 = .ok (.bipush 33, 2) := by decide +kernel
theorem dX12_append_4 : decode cX12_append 4 = .ok (.bipush 126, 2) := by decide +kernel
theorem dX12_append_6 : decode cX12_append 6 = .ok (.invokestatic 95, 3) := by decide +kernel
theorem dX12_append_9 : decode cX12_append 9 = .ok (.ifCond .ne 7, 3) := by decide +kernel
theorem dX12_append_12 : decode cX12_append 12 = .ok (.iconst 1, 1) := by decide +kernel
theorem dX12_append_13 : decode cX12_append 13 = .ok (.goto 17, 3) := by decide +kernel
theorem dX12_append_16 : decode cX12_append 16 = .ok (.aload_n 0, 1) := by decide +kernel
theorem dX12_append_17 : decode cX12_append 17 = .ok (.getfield 160, 3) := by decide +kernel
theorem dX12_append_20 : decode cX12_append 20 = .ok (.bipush 60, 2) := by decide +kernel
theorem dX12_append_22 : decode cX12_append 22 = .ok (.if_icmp .ne 7, 3) := by decide +kernel
theorem dX12_append_25 : decode cX12_append 25 = .ok (.iconst 2, 1) := by decide +kernel
theorem dX12_append_26 : decode cX12_append 26 = .ok (.goto 4, 3) := by decide +kernel
theorem dX12_append_29 : decode cX12_append 29 = .ok (.iconst 0, 1) := by decide +kernel
theorem dX12_append_30 : decode cX12_append 30 = .ok (.putfield 89, 3) := by decide +kernel
theorem dX12_append_33 : decode cX12_append 33 = .ok (.aload_n 0, 1) := by decide +kernel
theorem dX12_append_34 : decode cX12_append 34 = .ok (.getfield 89, 3) := by decide +kernel
theorem dX12_append_37 : decode cX12_append 37 = .ok (.ifCond .le 5, 3) := by decide +kernel
theorem dX12_append_40 : decode cX12_append 40 = .ok (.iconst 0, 1) := by decide +kernel
theorem dX12_append_41 : decode cX12_append 41 = .ok (.ireturn, 1) := by decide +kernel
theorem dX12_append_42 : decode cX12_append 42 = .ok (.aload_n 0, 1) := by decide +kernel
theorem dX12_append_43 : decode cX12_append 43 = .ok (.getfield 50, 3) := by decide +kernel
theorem dX12_append_46 : decode cX12_append 46 = .ok (.aload_n 0, 1) := by decide +kernel
theorem dX12_append_47 : decode cX12_append 47 = .ok (.getfield 160, 3) := by decide +kernel
theorem dX12_append_50 : decode cX12_append 50 = .ok (.iload_n 1, 1) := by decide +kernel
theorem dX12_append_51 : decode cX12_append 51 = .ok (.iastore, 1) := by decide +kernel
theorem dX12_append_52 : decode cX12_append 52 = .ok (.aload_n 0, 1) := by decide +kernel
theorem dX12_append_53 : decode cX12_append 53 = .ok (.dup, 1) := by decide +kernel
theorem dX12_append_54 : decode cX12_append 54 = .ok (.getfield 160, 3) := by decide +kernel
theorem dX12_append_57 : decode cX12_append 57 = .ok (.iconst 1, 1) := by decide +kernel
theorem dX12_append_58 : decode cX12_append 58 = .ok (.iadd, 1) := by decide +kernel
theorem dX12_append_59 : decode cX12_append 59 = .ok (.putfield 160, 3) := by decide +kernel
theorem dX12_append_62 : decode cX12_append 62 = .ok (.aload_n 0, 1) := by decide +kernel
theorem dX12_append_63 : decode cX12_append 63 = .ok (.getfield 160, 3) := by decide +kernel
theorem dX12_append_66 : decode cX12_append 66 = .ok (.ireturn, 1) := by decide +kernel
theorem dX12_clearBuffer_0 : decode cX12_clearBuffer 0 = .ok (.aload_n 0, 1) := by decide +kernel
theorem dX12_clearBuffer_1 : decode cX12_clearBuffer 1 = .ok (.iconst 0, 1) := by decide +kernel
theorem dX12_clearBuffer_2 : decode cX12_clearBuffer 2 = .ok (.putfield 89, 3) := by decide +kernel
theorem dX12_clearBuffer_5 : decode cX12_clearBuffer 5 = .ok (.aload_n 0, 1) := by decide +kernel
theorem dX12_clearBuffer_6 : decode cX12_clearBuffer 6 = .ok (.getfield 160, 3) := by decide +kernel
theorem dX12_clearBuffer_9 : decode cX12_clearBuffer 9 = .ok (.istore_n 1, 1) := by decide +kernel
theorem dX12_clearBuffer_10 : decode cX12_clearBuffer 10 = .ok (.aload_n 0, 1) := by decide +kernel
theorem dX12_clearBuffer_11 : decode cX12_clearBuffer 11 = .ok (.iconst 0, 1) := by decide +kernel
theorem dX12_clearBuffer_12 : decode cX12_clearBuffer 12 = .ok (.putfield 160, 3) := by decide +kernel
theorem dX12_clearBuffer_15 : decode cX12_clearBuffer 15 = .ok (.iload_n 1, 1) := by decide +kernel
theorem dX12_clearBuffer_16 : decode cX12_clearBuffer 16 = .ok (.ireturn, 1) := by decide +kernel
theorem dX12_answerBy_0 : decode cX12_answerBy 0 = .ok (.iload_n 0, 1) := by decide +kernel
theorem dX12_answerBy_1 : decode cX12_answerBy 1 = .ok (.bipush 61, 2) := by decide +kernel
theorem dX12_answerBy_3 : decode cX12_answerBy 3 = .ok (.if_icmp .ne 7, 3) := by decide +kernel
theorem dX12_answerBy_6 : decode cX12_answerBy 6 = .ok (.iconst 0, 1) := by decide +kernel
theorem dX12_answerBy_7 : decode cX12_answerBy 7 = .ok (.goto 24, 3) := by decide +kernel
theorem dX12_answerBy_10 : decode cX12_answerBy 10 = .ok (.iload_n 0, 1) := by decide +kernel
theorem dX12_answerBy_11 : decode cX12_answerBy 11 = .ok (.bipush 62, 2) := by decide +kernel
theorem dX12_answerBy_13 : decode cX12_answerBy 13 = .ok (.if_icmp .ne 7, 3) := by decide +kernel
theorem dX12_answerBy_16 : decode cX12_answerBy 16 = .ok (.iconst 1, 1) := by decide +kernel
theorem dX12_answerBy_17 : decode cX12_answerBy 17 = .ok (.goto 14, 3) := by decide +kernel
theorem dX12_answerBy_20 : decode cX12_answerBy 20 = .ok (.iload_n 0, 1) := by decide +kernel
theorem dX12_answerBy_21 : decode cX12_answerBy 21 = .ok (.bipush 60, 2) := by decide +kernel
theorem dX12_answerBy_23 : decode cX12_answerBy 23 = .ok (.if_icmp .ne 7, 3) := by decide +kernel
theorem dX12_answerBy_26 : decode cX12_answerBy 26 = .ok (.iconst 2, 1) := by decide +kernel
theorem dX12_answerBy_27 : decode cX12_answerBy 27 = .ok (.goto 4, 3) := by decide +kernel
theorem dX12_answerBy_30 : decode cX12_answerBy 30 = .ok (.iconst (-1), 1) := by decide +kernel
theorem dX12_answerBy_31 : decode cX12_answerBy 31 = .ok (.ireturn, 1) := by decide +kernel
theorem dX12_goes_0 : decode cX12_goes 0 = .ok (.aload_n 0, 1) := by decide +kernel
theorem dX12_goes_1 : decode cX12_goes 1 = .ok (.iload_n 1, 1) := by decide +kernel
theorem dX12_goes_2 : decode cX12_goes 2 = .ok (.ifCond .eq 7, 3) := by decide +kernel
theorem dX12_goes_5 : decode cX12_goes 5 = .ok (.iload_n 2, 1) := by decide +kernel
theorem dX12_goes_6 : decode cX12_goes 6 = .ok (.goto 7, 3) := by decide +kernel
theorem dX12_goes_9 : decode cX12_goes 9 = .ok (.aload_n 0, 1) := by decide +kernel
theorem dX12_goes_10 : decode cX12_goes 10 = .ok (.getfield 163, 3) := by decide +kernel
theorem dX12_goes_13 : decode cX12_goes 13 = .ok (.putfield 163, 3) := by decide +kernel
theorem dX12_goes_16 : decode cX12_goes 16 = .ok (.iload_n 1, 1) := by decide +kernel
theorem dX12_goes_17 : decode cX12_goes 17 = .ok (.ireturn, 1) := by decide +kernel
theorem dX12_takesSample_0 : decode cX12_takesSample 0 = .ok (.aload_n 0, 1) := by decide +kernel
theorem dX12_takesSample_1 : decode cX12_takesSample 1 = .ok (.iload_n 1, 1) := by decide +kernel
theorem dX12_takesSample_2 : decode cX12_takesSample 2 = .ok (.bipush 97, 2) := by decide +kernel
theorem dX12_takesSample_4 : decode cX12_takesSample 4 = .ok (.isub, 1) := by decide +kernel
theorem dX12_takesSample_5 : decode cX12_takesSample 5 = .ok (.putfield 166, 3) := by decide +kernel
theorem dX12_takesSample_8 : decode cX12_takesSample 8 = .ok (.aload_n 0, 1) := by decide +kernel
theorem dX12_takesSample_9 : decode cX12_takesSample 9 = .ok (.aload_n 0, 1) := by decide +kernel
theorem dX12_takesSample_10 : decode cX12_takesSample 10 = .ok (.aload_n 0, 1) := by decide +kernel
theorem dX12_takesSample_11 : decode cX12_takesSample 11 = .ok (.getfield 166, 3) := by decide +kernel
theorem dX12_takesSample_14 : decode cX12_takesSample 14 = .ok (.invokevirtual 151, 3) := by decide +kernel
theorem dX12_takesSample_17 : decode cX12_takesSample 17 = .ok (.iconst 3, 1) := by decide +kernel
theorem dX12_takesSample_18 : decode cX12_takesSample 18 = .ok (.invokevirtual 169, 3) := by decide +kernel
theorem dX12_takesSample_21 : decode cX12_takesSample 21 = .ok (.ireturn, 1) := by decide +kernel
theorem dX12_takesSign_0 : decode cX12_takesSign 0 = .ok (.aload_n 0, 1) := by decide +kernel
theorem dX12_takesSign_1 : decode cX12_takesSign 1 = .ok (.iload_n 1, 1) := by decide +kernel
theorem dX12_takesSign_2 : decode cX12_takesSign 2 = .ok (.invokestatic 173, 3) := by decide +kernel
theorem dX12_takesSign_5 : decode cX12_takesSign 5 = .ok (.putfield 176, 3) := by decide +kernel
theorem dX12_takesSign_8 : decode cX12_takesSign 8 = .ok (.aload_n 0, 1) := by decide +kernel
theorem dX12_takesSign_9 : decode cX12_takesSign 9 = .ok (.aload_n 0, 1) := by decide +kernel
theorem dX12_takesSign_10 : decode cX12_takesSign 10 = .ok (.getfield 176, 3) := by decide +kernel
theorem dX12_takesSign_13 : decode cX12_takesSign 13 = .ok (.iconst (-1), 1) := by decide +kernel
theorem dX12_takesSign_14 : decode cX12_takesSign 14 = .ok (.if_icmp .eq 7, 3) := by decide +kernel
theorem dX12_takesSign_17 : decode cX12_takesSign 17 = .ok (.iconst 1, 1) := by decide +kernel
theorem dX12_takesSign_18 : decode cX12_takesSign 18 = .ok (.goto 4, 3) := by decide +kernel
theorem dX12_takesSign_21 : decode cX12_takesSign 21 = .ok (.iconst 0, 1) := by decide +kernel
theorem dX12_takesSign_22 : decode cX12_takesSign 22 = .ok (.iconst 4, 1) := by decide +kernel
theorem dX12_takesSign_23 : decode cX12_takesSign 23 = .ok (.invokevirtual 169, 3) := by decide +kernel
theorem dX12_takesSign_26 : decode cX12_takesSign 26 = .ok (.ireturn, 1) := by decide +kernel
theorem dX12_takesOther_0 : decode cX12_takesOther 0 = .ok (.iload_n 1, 1) := by decide +kernel
theorem dX12_takesOther_1 : decode cX12_takesOther 1 = .ok (.bipush 97, 2) := by decide +kernel
theorem dX12_takesOther_3 : decode cX12_takesOther 3 = .ok (.isub, 1) := by decide +kernel
theorem dX12_takesOther_4 : decode cX12_takesOther 4 = .ok (.istore_n 2, 1) := by decide +kernel
theorem dX12_takesOther_5 : decode cX12_takesOther 5 = .ok (.aload_n 0, 1) := by decide +kernel
theorem dX12_takesOther_6 : decode cX12_takesOther 6 = .ok (.iload_n 2, 1) := by decide +kernel
theorem dX12_takesOther_7 : decode cX12_takesOther 7 = .ok (.invokevirtual 151, 3) := by decide +kernel
theorem dX12_takesOther_10 : decode cX12_takesOther 10 = .ok (.ifCond .eq 15, 3) := by decide +kernel
theorem dX12_takesOther_13 : decode cX12_takesOther 13 = .ok (.iload_n 2, 1) := by decide +kernel
theorem dX12_takesOther_14 : decode cX12_takesOther 14 = .ok (.aload_n 0, 1) := by decide +kernel
theorem dX12_takesOther_15 : decode cX12_takesOther 15 = .ok (.getfield 166, 3) := by decide +kernel
theorem dX12_takesOther_18 : decode cX12_takesOther 18 = .ok (.if_icmp .eq 7, 3) := by decide +kernel
theorem dX12_takesOther_21 : decode cX12_takesOther 21 = .ok (.iconst 1, 1) := by decide +kernel
theorem dX12_takesOther_22 : decode cX12_takesOther 22 = .ok (.goto 4, 3) := by decide +kernel
theorem dX12_takesOther_25 : decode cX12_takesOther 25 = .ok (.iconst 0, 1) := by decide +kernel
theorem dX12_takesOther_26 : decode cX12_takesOther 26 = .ok (.istore_n 3, 1) := by decide +kernel
theorem dX12_takesOther_27 : decode cX12_takesOther 27 = .ok (.iload_n 3, 1) := by decide +kernel
theorem dX12_takesOther_28 : decode cX12_takesOther 28 = .ok (.ifCond .eq 48, 3) := by decide +kernel
theorem dX12_takesOther_31 : decode cX12_takesOther 31 = .ok (.aload_n 0, 1) := by decide +kernel
theorem dX12_takesOther_32 : decode cX12_takesOther 32 = .ok (.getfield 53, 3) := by decide +kernel
theorem dX12_takesOther_35 : decode cX12_takesOther 35 = .ok (.aload_n 0, 1) := by decide +kernel
theorem dX12_takesOther_36 : decode cX12_takesOther 36 = .ok (.getfield 179, 3) := by decide +kernel
theorem dX12_takesOther_39 : decode cX12_takesOther 39 = .ok (.sipush 1000, 3) := by decide +kernel
theorem dX12_takesOther_42 : decode cX12_takesOther 42 = .ok (.aload_n 0, 1) := by decide +kernel
theorem dX12_takesOther_43 : decode cX12_takesOther 43 = .ok (.getfield 182, 3) := by decide +kernel
theorem dX12_takesOther_46 : decode cX12_takesOther 46 = .ok (.imul, 1) := by decide +kernel
theorem dX12_takesOther_47 : decode cX12_takesOther 47 = .ok (.bipush 100, 2) := by decide +kernel
theorem dX12_takesOther_49 : decode cX12_takesOther 49 = .ok (.aload_n 0, 1) := by decide +kernel
theorem dX12_takesOther_50 : decode cX12_takesOther 50 = .ok (.getfield 166, 3) := by decide +kernel
theorem dX12_takesOther_53 : decode cX12_takesOther 53 = .ok (.imul, 1) := by decide +kernel
theorem dX12_takesOther_54 : decode cX12_takesOther 54 = .ok (.iadd, 1) := by decide +kernel
theorem dX12_takesOther_55 : decode cX12_takesOther 55 = .ok (.bipush 10, 2) := by decide +kernel
theorem dX12_takesOther_57 : decode cX12_takesOther 57 = .ok (.iload_n 2, 1) := by decide +kernel
theorem dX12_takesOther_58 : decode cX12_takesOther 58 = .ok (.imul, 1) := by decide +kernel
theorem dX12_takesOther_59 : decode cX12_takesOther 59 = .ok (.iadd, 1) := by decide +kernel
theorem dX12_takesOther_60 : decode cX12_takesOther 60 = .ok (.aload_n 0, 1) := by decide +kernel
theorem dX12_takesOther_61 : decode cX12_takesOther 61 = .ok (.getfield 176, 3) := by decide +kernel
theorem dX12_takesOther_64 : decode cX12_takesOther 64 = .ok (.iadd, 1) := by decide +kernel
theorem dX12_takesOther_65 : decode cX12_takesOther 65 = .ok (.iastore, 1) := by decide +kernel
theorem dX12_takesOther_66 : decode cX12_takesOther 66 = .ok (.aload_n 0, 1) := by decide +kernel
theorem dX12_takesOther_67 : decode cX12_takesOther 67 = .ok (.dup, 1) := by decide +kernel
theorem dX12_takesOther_68 : decode cX12_takesOther 68 = .ok (.getfield 179, 3) := by decide +kernel
theorem dX12_takesOther_71 : decode cX12_takesOther 71 = .ok (.iconst 1, 1) := by decide +kernel
theorem dX12_takesOther_72 : decode cX12_takesOther 72 = .ok (.iadd, 1) := by decide +kernel
theorem dX12_takesOther_73 : decode cX12_takesOther 73 = .ok (.putfield 179, 3) := by decide +kernel
theorem dX12_takesOther_76 : decode cX12_takesOther 76 = .ok (.aload_n 0, 1) := by decide +kernel
theorem dX12_takesOther_77 : decode cX12_takesOther 77 = .ok (.iload_n 3, 1) := by decide +kernel
theorem dX12_takesOther_78 : decode cX12_takesOther 78 = .ok (.iconst 5, 1) := by decide +kernel
theorem dX12_takesOther_79 : decode cX12_takesOther 79 = .ok (.invokevirtual 169, 3) := by decide +kernel
theorem dX12_takesOther_82 : decode cX12_takesOther 82 = .ok (.ireturn, 1) := by decide +kernel
theorem dX12_takes_0 : decode cX12_takes 0 = .ok (.aload_n 0, 1) := by decide +kernel
theorem dX12_takes_1 : decode cX12_takes 1 = .ok (.getfield 163, 3) := by decide +kernel
theorem dX12_takes_4 : decode cX12_takes 4 = .ok (.tableswitch 93 0 4 #[36, 58, 75, 81, 87], 36) := by decide +kernel
theorem dX12_takes_40 : decode cX12_takes 40 = .ok (.aload_n 0, 1) := by decide +kernel
theorem dX12_takes_41 : decode cX12_takes 41 = .ok (.iload_n 1, 1) := by decide +kernel
theorem dX12_takes_42 : decode cX12_takes 42 = .ok (.bipush 48, 2) := by decide +kernel
theorem dX12_takes_44 : decode cX12_takes 44 = .ok (.isub, 1) := by decide +kernel
theorem dX12_takes_45 : decode cX12_takes 45 = .ok (.putfield 182, 3) := by decide +kernel
theorem dX12_takes_48 : decode cX12_takes 48 = .ok (.aload_n 0, 1) := by decide +kernel
theorem dX12_takes_49 : decode cX12_takes 49 = .ok (.aload_n 0, 1) := by decide +kernel
theorem dX12_takes_50 : decode cX12_takes 50 = .ok (.aload_n 0, 1) := by decide +kernel
theorem dX12_takes_51 : decode cX12_takes 51 = .ok (.getfield 182, 3) := by decide +kernel
theorem dX12_takes_54 : decode cX12_takes 54 = .ok (.invokevirtual 114, 3) := by decide +kernel
theorem dX12_takes_57 : decode cX12_takes 57 = .ok (.iconst 1, 1) := by decide +kernel
theorem dX12_takes_58 : decode cX12_takes 58 = .ok (.invokevirtual 169, 3) := by decide +kernel
theorem dX12_takes_61 : decode cX12_takes 61 = .ok (.ireturn, 1) := by decide +kernel
theorem dX12_takes_62 : decode cX12_takes 62 = .ok (.aload_n 0, 1) := by decide +kernel
theorem dX12_takes_63 : decode cX12_takes 63 = .ok (.iload_n 1, 1) := by decide +kernel
theorem dX12_takes_64 : decode cX12_takes 64 = .ok (.bipush 58, 2) := by decide +kernel
theorem dX12_takes_66 : decode cX12_takes 66 = .ok (.if_icmp .ne 7, 3) := by decide +kernel
theorem dX12_takes_69 : decode cX12_takes 69 = .ok (.iconst 1, 1) := by decide +kernel
theorem dX12_takes_70 : decode cX12_takes 70 = .ok (.goto 4, 3) := by decide +kernel
theorem dX12_takes_73 : decode cX12_takes 73 = .ok (.iconst 0, 1) := by decide +kernel
theorem dX12_takes_74 : decode cX12_takes 74 = .ok (.iconst 2, 1) := by decide +kernel
theorem dX12_takes_75 : decode cX12_takes 75 = .ok (.invokevirtual 169, 3) := by decide +kernel
theorem dX12_takes_78 : decode cX12_takes 78 = .ok (.ireturn, 1) := by decide +kernel
theorem dX12_takes_79 : decode cX12_takes 79 = .ok (.aload_n 0, 1) := by decide +kernel
theorem dX12_takes_80 : decode cX12_takes 80 = .ok (.iload_n 1, 1) := by decide +kernel
theorem dX12_takes_81 : decode cX12_takes 81 = .ok (.invokevirtual 185, 3) := by decide +kernel
theorem dX12_takes_84 : decode cX12_takes 84 = .ok (.ireturn, 1) := by decide +kernel
theorem dX12_takes_85 : decode cX12_takes 85 = .ok (.aload_n 0, 1) := by decide +kernel
theorem dX12_takes_86 : decode cX12_takes 86 = .ok (.iload_n 1, 1) := by decide +kernel
theorem dX12_takes_87 : decode cX12_takes 87 = .ok (.invokevirtual 188, 3) := by decide +kernel
theorem dX12_takes_90 : decode cX12_takes 90 = .ok (.ireturn, 1) := by decide +kernel
theorem dX12_takes_91 : decode cX12_takes 91 = .ok (.aload_n 0, 1) := by decide +kernel
theorem dX12_takes_92 : decode cX12_takes 92 = .ok (.iload_n 1, 1) := by decide +kernel
theorem dX12_takes_93 : decode cX12_takes 93 = .ok (.invokevirtual 191, 3) := by decide +kernel
theorem dX12_takes_96 : decode cX12_takes 96 = .ok (.ireturn, 1) := by decide +kernel
theorem dX12_takes_97 : decode cX12_takes 97 = .ok (.iload_n 1, 1) := by decide +kernel
theorem dX12_takes_98 : decode cX12_takes 98 = .ok (.bipush 44, 2) := by decide +kernel
theorem dX12_takes_100 : decode cX12_takes 100 = .ok (.if_icmp .ne 12, 3) := by decide +kernel
theorem dX12_takes_103 : decode cX12_takes 103 = .ok (.aload_n 0, 1) := by decide +kernel
theorem dX12_takes_104 : decode cX12_takes 104 = .ok (.iconst 1, 1) := by decide +kernel
theorem dX12_takes_105 : decode cX12_takes 105 = .ok (.iconst 2, 1) := by decide +kernel
theorem dX12_takes_106 : decode cX12_takes 106 = .ok (.invokevirtual 169, 3) := by decide +kernel
theorem dX12_takes_109 : decode cX12_takes 109 = .ok (.goto 19, 3) := by decide +kernel
theorem dX12_takes_112 : decode cX12_takes 112 = .ok (.aload_n 0, 1) := by decide +kernel
theorem dX12_takes_113 : decode cX12_takes 113 = .ok (.iload_n 1, 1) := by decide +kernel
theorem dX12_takes_114 : decode cX12_takes 114 = .ok (.bipush 59, 2) := by decide +kernel
theorem dX12_takes_116 : decode cX12_takes 116 = .ok (.if_icmp .ne 7, 3) := by decide +kernel
theorem dX12_takes_119 : decode cX12_takes 119 = .ok (.iconst 1, 1) := by decide +kernel
theorem dX12_takes_120 : decode cX12_takes 120 = .ok (.goto 4, 3) := by decide +kernel
theorem dX12_takes_123 : decode cX12_takes 123 = .ok (.iconst 0, 1) := by decide +kernel
theorem dX12_takes_124 : decode cX12_takes 124 = .ok (.iconst 0, 1) := by decide +kernel
theorem dX12_takes_125 : decode cX12_takes 125 = .ok (.invokevirtual 169, 3) := by decide +kernel
theorem dX12_takes_128 : decode cX12_takes 128 = .ok (.ireturn, 1) := by decide +kernel
theorem dX12_read_0 : decode cX12_read 0 = .ok (.aload_n 0, 1) := by decide +kernel
theorem dX12_read_1 : decode cX12_read 1 = .ok (.iconst 0, 1) := by decide +kernel
theorem dX12_read_2 : decode cX12_read 2 = .ok (.putfield 163, 3) := by decide +kernel
theorem dX12_read_5 : decode cX12_read 5 = .ok (.aload_n 0, 1) := by decide +kernel
theorem dX12_read_6 : decode cX12_read 6 = .ok (.iconst 0, 1) := by decide +kernel
theorem dX12_read_7 : decode cX12_read 7 = .ok (.putfield 179, 3) := by decide +kernel
theorem dX12_read_10 : decode cX12_read 10 = .ok (.iconst 0, 1) := by decide +kernel
theorem dX12_read_11 : decode cX12_read 11 = .ok (.istore_n 1, 1) := by decide +kernel
theorem dX12_read_12 : decode cX12_read 12 = .ok (.iload_n 1, 1) := by decide +kernel
theorem dX12_read_13 : decode cX12_read 13 = .ok (.aload_n 0, 1) := by decide +kernel
theorem dX12_read_14 : decode cX12_read 14 = .ok (.getfield 160, 3) := by decide +kernel
theorem dX12_read_17 : decode cX12_read 17 = .ok (.if_icmp .ge 22, 3) := by decide +kernel
theorem dX12_read_20 : decode cX12_read 20 = .ok (.aload_n 0, 1) := by decide +kernel
theorem dX12_read_21 : decode cX12_read 21 = .ok (.aload_n 0, 1) := by decide +kernel
theorem dX12_read_22 : decode cX12_read 22 = .ok (.getfield 50, 3) := by decide +kernel
theorem dX12_read_25 : decode cX12_read 25 = .ok (.iload_n 1, 1) := by decide +kernel
theorem dX12_read_26 : decode cX12_read 26 = .ok (.iaload, 1) := by decide +kernel
theorem dX12_read_27 : decode cX12_read 27 = .ok (.invokevirtual 194, 3) := by decide +kernel
theorem dX12_read_30 : decode cX12_read 30 = .ok (.ifCond .eq 9, 3) := by decide +kernel
theorem dX12_read_33 : decode cX12_read 33 = .ok (.iinc 1 1, 3) := by decide +kernel
theorem dX12_read_36 : decode cX12_read 36 = .ok (.goto (-24), 3) := by decide +kernel
theorem dX12_read_39 : decode cX12_read 39 = .ok (.iload_n 1, 1) := by decide +kernel
theorem dX12_read_40 : decode cX12_read 40 = .ok (.ireturn, 1) := by decide +kernel
theorem dX12_firstError_0 : decode cX12_firstError 0 = .ok (.aload_n 0, 1) := by decide +kernel
theorem dX12_firstError_1 : decode cX12_firstError 1 = .ok (.iconst 0, 1) := by decide +kernel
theorem dX12_firstError_2 : decode cX12_firstError 2 = .ok (.putfield 89, 3) := by decide +kernel
theorem dX12_firstError_5 : decode cX12_firstError 5 = .ok (.aload_n 0, 1) := by decide +kernel
theorem dX12_firstError_6 : decode cX12_firstError 6 = .ok (.invokevirtual 197, 3) := by decide +kernel
theorem dX12_firstError_9 : decode cX12_firstError 9 = .ok (.ireturn, 1) := by decide +kernel
theorem dX12_load_0 : decode cX12_load 0 = .ok (.aload_n 0, 1) := by decide +kernel
theorem dX12_load_1 : decode cX12_load 1 = .ok (.invokevirtual 197, 3) := by decide +kernel
theorem dX12_load_4 : decode cX12_load 4 = .ok (.aload_n 0, 1) := by decide +kernel
theorem dX12_load_5 : decode cX12_load 5 = .ok (.getfield 160, 3) := by decide +kernel
theorem dX12_load_8 : decode cX12_load 8 = .ok (.if_icmp .ne 15, 3) := by decide +kernel
theorem dX12_load_11 : decode cX12_load 11 = .ok (.aload_n 0, 1) := by decide +kernel
theorem dX12_load_12 : decode cX12_load 12 = .ok (.getfield 163, 3) := by decide +kernel
theorem dX12_load_15 : decode cX12_load 15 = .ok (.iconst 5, 1) := by decide +kernel
theorem dX12_load_16 : decode cX12_load 16 = .ok (.if_icmp .ne 7, 3) := by decide +kernel
theorem dX12_load_19 : decode cX12_load 19 = .ok (.iconst 1, 1) := by decide +kernel
theorem dX12_load_20 : decode cX12_load 20 = .ok (.goto 4, 3) := by decide +kernel
theorem dX12_load_23 : decode cX12_load 23 = .ok (.iconst 0, 1) := by decide +kernel
theorem dX12_load_24 : decode cX12_load 24 = .ok (.istore_n 1, 1) := by decide +kernel
theorem dX12_load_25 : decode cX12_load 25 = .ok (.aload_n 0, 1) := by decide +kernel
theorem dX12_load_26 : decode cX12_load 26 = .ok (.iload_n 1, 1) := by decide +kernel
theorem dX12_load_27 : decode cX12_load 27 = .ok (.ifCond .ne 7, 3) := by decide +kernel
theorem dX12_load_30 : decode cX12_load 30 = .ok (.iconst 1, 1) := by decide +kernel
theorem dX12_load_31 : decode cX12_load 31 = .ok (.goto 22, 3) := by decide +kernel
theorem dX12_load_34 : decode cX12_load 34 = .ok (.aload_n 0, 1) := by decide +kernel
theorem dX12_load_35 : decode cX12_load 35 = .ok (.getfield 102, 3) := by decide +kernel
theorem dX12_load_38 : decode cX12_load 38 = .ok (.aload_n 0, 1) := by decide +kernel
theorem dX12_load_39 : decode cX12_load 39 = .ok (.getfield 179, 3) := by decide +kernel
theorem dX12_load_42 : decode cX12_load 42 = .ok (.iadd, 1) := by decide +kernel
theorem dX12_load_43 : decode cX12_load 43 = .ok (.bipush 48, 2) := by decide +kernel
theorem dX12_load_45 : decode cX12_load 45 = .ok (.if_icmp .le 7, 3) := by decide +kernel
theorem dX12_load_48 : decode cX12_load 48 = .ok (.iconst 2, 1) := by decide +kernel
theorem dX12_load_49 : decode cX12_load 49 = .ok (.goto 4, 3) := by decide +kernel
theorem dX12_load_52 : decode cX12_load 52 = .ok (.iconst 0, 1) := by decide +kernel
theorem dX12_load_53 : decode cX12_load 53 = .ok (.putfield 89, 3) := by decide +kernel
theorem dX12_load_56 : decode cX12_load 56 = .ok (.aload_n 0, 1) := by decide +kernel
theorem dX12_load_57 : decode cX12_load 57 = .ok (.getfield 89, 3) := by decide +kernel
theorem dX12_load_60 : decode cX12_load 60 = .ok (.ifCond .le 5, 3) := by decide +kernel
theorem dX12_load_63 : decode cX12_load 63 = .ok (.iconst 0, 1) := by decide +kernel
theorem dX12_load_64 : decode cX12_load 64 = .ok (.ireturn, 1) := by decide +kernel
theorem dX12_load_65 : decode cX12_load 65 = .ok (.aload_n 0, 1) := by decide +kernel
theorem dX12_load_66 : decode cX12_load 66 = .ok (.invokevirtual 144, 3) := by decide +kernel
theorem dX12_load_69 : decode cX12_load 69 = .ok (.iconst 0, 1) := by decide +kernel
theorem dX12_load_70 : decode cX12_load 70 = .ok (.istore_n 2, 1) := by decide +kernel
theorem dX12_load_71 : decode cX12_load 71 = .ok (.iload_n 2, 1) := by decide +kernel
theorem dX12_load_72 : decode cX12_load 72 = .ok (.aload_n 0, 1) := by decide +kernel
theorem dX12_load_73 : decode cX12_load 73 = .ok (.getfield 179, 3) := by decide +kernel
theorem dX12_load_76 : decode cX12_load 76 = .ok (.if_icmp .ge 33, 3) := by decide +kernel
theorem dX12_load_79 : decode cX12_load 79 = .ok (.aload_n 0, 1) := by decide +kernel
theorem dX12_load_80 : decode cX12_load 80 = .ok (.aload_n 0, 1) := by decide +kernel
theorem dX12_load_81 : decode cX12_load 81 = .ok (.getfield 102, 3) := by decide +kernel
theorem dX12_load_84 : decode cX12_load 84 = .ok (.aload_n 0, 1) := by decide +kernel
theorem dX12_load_85 : decode cX12_load 85 = .ok (.getfield 53, 3) := by decide +kernel
theorem dX12_load_88 : decode cX12_load 88 = .ok (.iload_n 2, 1) := by decide +kernel
theorem dX12_load_89 : decode cX12_load 89 = .ok (.iaload, 1) := by decide +kernel
theorem dX12_load_90 : decode cX12_load 90 = .ok (.invokevirtual 157, 3) := by decide +kernel
theorem dX12_load_93 : decode cX12_load 93 = .ok (.aload_n 0, 1) := by decide +kernel
theorem dX12_load_94 : decode cX12_load 94 = .ok (.dup, 1) := by decide +kernel
theorem dX12_load_95 : decode cX12_load 95 = .ok (.getfield 102, 3) := by decide +kernel
theorem dX12_load_98 : decode cX12_load 98 = .ok (.iconst 1, 1) := by decide +kernel
theorem dX12_load_99 : decode cX12_load 99 = .ok (.iadd, 1) := by decide +kernel
theorem dX12_load_100 : decode cX12_load 100 = .ok (.putfield 102, 3) := by decide +kernel
theorem dX12_load_103 : decode cX12_load 103 = .ok (.iinc 2 1, 3) := by decide +kernel
theorem dX12_load_106 : decode cX12_load 106 = .ok (.goto (-35), 3) := by decide +kernel
theorem dX12_load_109 : decode cX12_load 109 = .ok (.aload_n 0, 1) := by decide +kernel
theorem dX12_load_110 : decode cX12_load 110 = .ok (.iconst 0, 1) := by decide +kernel
theorem dX12_load_111 : decode cX12_load 111 = .ok (.putfield 160, 3) := by decide +kernel
theorem dX12_load_114 : decode cX12_load 114 = .ok (.aload_n 0, 1) := by decide +kernel
theorem dX12_load_115 : decode cX12_load 115 = .ok (.getfield 179, 3) := by decide +kernel
theorem dX12_load_118 : decode cX12_load 118 = .ok (.ireturn, 1) := by decide +kernel
theorem dX12_wonBy_0 : decode cX12_wonBy 0 = .ok (.aload_n 0, 1) := by decide +kernel
theorem dX12_wonBy_1 : decode cX12_wonBy 1 = .ok (.getfield 22, 3) := by decide +kernel
theorem dX12_wonBy_4 : decode cX12_wonBy 4 = .ok (.iload_n 1, 1) := by decide +kernel
theorem dX12_wonBy_5 : decode cX12_wonBy 5 = .ok (.iaload, 1) := by decide +kernel
theorem dX12_wonBy_6 : decode cX12_wonBy 6 = .ok (.iconst 1, 1) := by decide +kernel
theorem dX12_wonBy_7 : decode cX12_wonBy 7 = .ok (.if_icmp .ne 12, 3) := by decide +kernel
theorem dX12_wonBy_10 : decode cX12_wonBy 10 = .ok (.aload_n 0, 1) := by decide +kernel
theorem dX12_wonBy_11 : decode cX12_wonBy 11 = .ok (.getfield 16, 3) := by decide +kernel
theorem dX12_wonBy_14 : decode cX12_wonBy 14 = .ok (.iload_n 1, 1) := by decide +kernel
theorem dX12_wonBy_15 : decode cX12_wonBy 15 = .ok (.iaload, 1) := by decide +kernel
theorem dX12_wonBy_16 : decode cX12_wonBy 16 = .ok (.goto 23, 3) := by decide +kernel
theorem dX12_wonBy_19 : decode cX12_wonBy 19 = .ok (.aload_n 0, 1) := by decide +kernel
theorem dX12_wonBy_20 : decode cX12_wonBy 20 = .ok (.getfield 22, 3) := by decide +kernel
theorem dX12_wonBy_23 : decode cX12_wonBy 23 = .ok (.iload_n 1, 1) := by decide +kernel
theorem dX12_wonBy_24 : decode cX12_wonBy 24 = .ok (.iaload, 1) := by decide +kernel
theorem dX12_wonBy_25 : decode cX12_wonBy 25 = .ok (.iconst 2, 1) := by decide +kernel
theorem dX12_wonBy_26 : decode cX12_wonBy 26 = .ok (.if_icmp .ne 12, 3) := by decide +kernel
theorem dX12_wonBy_29 : decode cX12_wonBy 29 = .ok (.aload_n 0, 1) := by decide +kernel
theorem dX12_wonBy_30 : decode cX12_wonBy 30 = .ok (.getfield 19, 3) := by decide +kernel
theorem dX12_wonBy_33 : decode cX12_wonBy 33 = .ok (.iload_n 1, 1) := by decide +kernel
theorem dX12_wonBy_34 : decode cX12_wonBy 34 = .ok (.iaload, 1) := by decide +kernel
theorem dX12_wonBy_35 : decode cX12_wonBy 35 = .ok (.goto 4, 3) := by decide +kernel
theorem dX12_wonBy_38 : decode cX12_wonBy 38 = .ok (.iconst (-1), 1) := by decide +kernel
theorem dX12_wonBy_39 : decode cX12_wonBy 39 = .ok (.ireturn, 1) := by decide +kernel
theorem dX12_ties_0 : decode cX12_ties 0 = .ok (.iconst 0, 1) := by decide +kernel
theorem dX12_ties_1 : decode cX12_ties 1 = .ok (.istore_n 1, 1) := by decide +kernel
theorem dX12_ties_2 : decode cX12_ties 2 = .ok (.iconst 0, 1) := by decide +kernel
theorem dX12_ties_3 : decode cX12_ties 3 = .ok (.istore_n 2, 1) := by decide +kernel
theorem dX12_ties_4 : decode cX12_ties 4 = .ok (.iload_n 2, 1) := by decide +kernel
theorem dX12_ties_5 : decode cX12_ties 5 = .ok (.aload_n 0, 1) := by decide +kernel
theorem dX12_ties_6 : decode cX12_ties 6 = .ok (.getfield 102, 3) := by decide +kernel
theorem dX12_ties_9 : decode cX12_ties 9 = .ok (.if_icmp .ge 26, 3) := by decide +kernel
theorem dX12_ties_12 : decode cX12_ties 12 = .ok (.iload_n 1, 1) := by decide +kernel
theorem dX12_ties_13 : decode cX12_ties 13 = .ok (.aload_n 0, 1) := by decide +kernel
theorem dX12_ties_14 : decode cX12_ties 14 = .ok (.getfield 22, 3) := by decide +kernel
theorem dX12_ties_17 : decode cX12_ties 17 = .ok (.iload_n 2, 1) := by decide +kernel
theorem dX12_ties_18 : decode cX12_ties 18 = .ok (.iaload, 1) := by decide +kernel
theorem dX12_ties_19 : decode cX12_ties 19 = .ok (.ifCond .ne 7, 3) := by decide +kernel
theorem dX12_ties_22 : decode cX12_ties 22 = .ok (.iconst 1, 1) := by decide +kernel
theorem dX12_ties_23 : decode cX12_ties 23 = .ok (.goto 4, 3) := by decide +kernel
theorem dX12_ties_26 : decode cX12_ties 26 = .ok (.iconst 0, 1) := by decide +kernel
theorem dX12_ties_27 : decode cX12_ties 27 = .ok (.iadd, 1) := by decide +kernel
theorem dX12_ties_28 : decode cX12_ties 28 = .ok (.istore_n 1, 1) := by decide +kernel
theorem dX12_ties_29 : decode cX12_ties 29 = .ok (.iinc 2 1, 3) := by decide +kernel
theorem dX12_ties_32 : decode cX12_ties 32 = .ok (.goto (-28), 3) := by decide +kernel
theorem dX12_ties_35 : decode cX12_ties 35 = .ok (.iload_n 1, 1) := by decide +kernel
theorem dX12_ties_36 : decode cX12_ties 36 = .ok (.ireturn, 1) := by decide +kernel
theorem dX12_firsts_0 : decode cX12_firsts 0 = .ok (.iconst 0, 1) := by decide +kernel
theorem dX12_firsts_1 : decode cX12_firsts 1 = .ok (.istore_n 2, 1) := by decide +kernel
theorem dX12_firsts_2 : decode cX12_firsts 2 = .ok (.iconst 0, 1) := by decide +kernel
theorem dX12_firsts_3 : decode cX12_firsts 3 = .ok (.istore_n 3, 1) := by decide +kernel
theorem dX12_firsts_4 : decode cX12_firsts 4 = .ok (.iload_n 3, 1) := by decide +kernel
theorem dX12_firsts_5 : decode cX12_firsts 5 = .ok (.aload_n 0, 1) := by decide +kernel
theorem dX12_firsts_6 : decode cX12_firsts 6 = .ok (.getfield 102, 3) := by decide +kernel
theorem dX12_firsts_9 : decode cX12_firsts 9 = .ok (.if_icmp .ge 27, 3) := by decide +kernel
theorem dX12_firsts_12 : decode cX12_firsts 12 = .ok (.iload_n 2, 1) := by decide +kernel
theorem dX12_firsts_13 : decode cX12_firsts 13 = .ok (.aload_n 0, 1) := by decide +kernel
theorem dX12_firsts_14 : decode cX12_firsts 14 = .ok (.getfield 22, 3) := by decide +kernel
theorem dX12_firsts_17 : decode cX12_firsts 17 = .ok (.iload_n 3, 1) := by decide +kernel
theorem dX12_firsts_18 : decode cX12_firsts 18 = .ok (.iaload, 1) := by decide +kernel
theorem dX12_firsts_19 : decode cX12_firsts 19 = .ok (.iload_n 1, 1) := by decide +kernel
theorem dX12_firsts_20 : decode cX12_firsts 20 = .ok (.if_icmp .ne 7, 3) := by decide +kernel
theorem dX12_firsts_23 : decode cX12_firsts 23 = .ok (.iconst 1, 1) := by decide +kernel
theorem dX12_firsts_24 : decode cX12_firsts 24 = .ok (.goto 4, 3) := by decide +kernel
theorem dX12_firsts_27 : decode cX12_firsts 27 = .ok (.iconst 0, 1) := by decide +kernel
theorem dX12_firsts_28 : decode cX12_firsts 28 = .ok (.iadd, 1) := by decide +kernel
theorem dX12_firsts_29 : decode cX12_firsts 29 = .ok (.istore_n 2, 1) := by decide +kernel
theorem dX12_firsts_30 : decode cX12_firsts 30 = .ok (.iinc 3 1, 3) := by decide +kernel
theorem dX12_firsts_33 : decode cX12_firsts 33 = .ok (.goto (-29), 3) := by decide +kernel
theorem dX12_firsts_36 : decode cX12_firsts 36 = .ok (.iload_n 2, 1) := by decide +kernel
theorem dX12_firsts_37 : decode cX12_firsts 37 = .ok (.ireturn, 1) := by decide +kernel
theorem dX12_counted_0 : decode cX12_counted 0 = .ok (.iload_n 1, 1) := by decide +kernel
theorem dX12_counted_1 : decode cX12_counted 1 = .ok (.tableswitch 96 0 6 #[43, 48, 53, 58, 63, 69, 91], 43) := by decide +kernel
theorem dX12_counted_44 : decode cX12_counted 44 = .ok (.aload_n 0, 1) := by decide +kernel
theorem dX12_counted_45 : decode cX12_counted 45 = .ok (.getfield 92, 3) := by decide +kernel
theorem dX12_counted_48 : decode cX12_counted 48 = .ok (.ireturn, 1) := by decide +kernel
theorem dX12_counted_49 : decode cX12_counted 49 = .ok (.aload_n 0, 1) := by decide +kernel
theorem dX12_counted_50 : decode cX12_counted 50 = .ok (.getfield 99, 3) := by decide +kernel
theorem dX12_counted_53 : decode cX12_counted 53 = .ok (.ireturn, 1) := by decide +kernel
theorem dX12_counted_54 : decode cX12_counted 54 = .ok (.aload_n 0, 1) := by decide +kernel
theorem dX12_counted_55 : decode cX12_counted 55 = .ok (.getfield 102, 3) := by decide +kernel
theorem dX12_counted_58 : decode cX12_counted 58 = .ok (.ireturn, 1) := by decide +kernel
theorem dX12_counted_59 : decode cX12_counted 59 = .ok (.aload_n 0, 1) := by decide +kernel
theorem dX12_counted_60 : decode cX12_counted 60 = .ok (.invokevirtual 201, 3) := by decide +kernel
theorem dX12_counted_63 : decode cX12_counted 63 = .ok (.ireturn, 1) := by decide +kernel
theorem dX12_counted_64 : decode cX12_counted 64 = .ok (.aload_n 0, 1) := by decide +kernel
theorem dX12_counted_65 : decode cX12_counted 65 = .ok (.iconst 1, 1) := by decide +kernel
theorem dX12_counted_66 : decode cX12_counted 66 = .ok (.invokevirtual 204, 3) := by decide +kernel
theorem dX12_counted_69 : decode cX12_counted 69 = .ok (.ireturn, 1) := by decide +kernel
theorem dX12_counted_70 : decode cX12_counted 70 = .ok (.aload_n 0, 1) := by decide +kernel
theorem dX12_counted_71 : decode cX12_counted 71 = .ok (.getfield 25, 3) := by decide +kernel
theorem dX12_counted_74 : decode cX12_counted 74 = .ok (.iconst (-1), 1) := by decide +kernel
theorem dX12_counted_75 : decode cX12_counted 75 = .ok (.if_icmp .ne 7, 3) := by decide +kernel
theorem dX12_counted_78 : decode cX12_counted 78 = .ok (.iconst 0, 1) := by decide +kernel
theorem dX12_counted_79 : decode cX12_counted 79 = .ok (.goto 12, 3) := by decide +kernel
theorem dX12_counted_82 : decode cX12_counted 82 = .ok (.aload_n 0, 1) := by decide +kernel
theorem dX12_counted_83 : decode cX12_counted 83 = .ok (.getfield 105, 3) := by decide +kernel
theorem dX12_counted_86 : decode cX12_counted 86 = .ok (.aload_n 0, 1) := by decide +kernel
theorem dX12_counted_87 : decode cX12_counted 87 = .ok (.getfield 108, 3) := by decide +kernel
theorem dX12_counted_90 : decode cX12_counted 90 = .ok (.isub, 1) := by decide +kernel
theorem dX12_counted_91 : decode cX12_counted 91 = .ok (.ireturn, 1) := by decide +kernel
theorem dX12_counted_92 : decode cX12_counted 92 = .ok (.aload_n 0, 1) := by decide +kernel
theorem dX12_counted_93 : decode cX12_counted 93 = .ok (.getfield 111, 3) := by decide +kernel
theorem dX12_counted_96 : decode cX12_counted 96 = .ok (.ireturn, 1) := by decide +kernel
theorem dX12_counted_97 : decode cX12_counted 97 = .ok (.aload_n 0, 1) := by decide +kernel
theorem dX12_counted_98 : decode cX12_counted 98 = .ok (.getfield 25, 3) := by decide +kernel
theorem dX12_counted_101 : decode cX12_counted 101 = .ok (.ireturn, 1) := by decide +kernel
theorem dX12_count_0 : decode cX12_count 0 = .ok (.aload_n 0, 1) := by decide +kernel
theorem dX12_count_1 : decode cX12_count 1 = .ok (.iload_n 1, 1) := by decide +kernel
theorem dX12_count_2 : decode cX12_count 2 = .ok (.iconst 0, 1) := by decide +kernel
theorem dX12_count_3 : decode cX12_count 3 = .ok (.bipush 7, 2) := by decide +kernel
theorem dX12_count_5 : decode cX12_count 5 = .ok (.invokestatic 95, 3) := by decide +kernel
theorem dX12_count_8 : decode cX12_count 8 = .ok (.ifCond .eq 7, 3) := by decide +kernel
theorem dX12_count_11 : decode cX12_count 11 = .ok (.iconst 0, 1) := by decide +kernel
theorem dX12_count_12 : decode cX12_count 12 = .ok (.goto 4, 3) := by decide +kernel
theorem dX12_count_15 : decode cX12_count 15 = .ok (.iconst 1, 1) := by decide +kernel
theorem dX12_count_16 : decode cX12_count 16 = .ok (.putfield 89, 3) := by decide +kernel
theorem dX12_count_19 : decode cX12_count 19 = .ok (.aload_n 0, 1) := by decide +kernel
theorem dX12_count_20 : decode cX12_count 20 = .ok (.getfield 89, 3) := by decide +kernel
theorem dX12_count_23 : decode cX12_count 23 = .ok (.ifCond .le 7, 3) := by decide +kernel
theorem dX12_count_26 : decode cX12_count 26 = .ok (.iconst 0, 1) := by decide +kernel
theorem dX12_count_27 : decode cX12_count 27 = .ok (.goto 8, 3) := by decide +kernel
theorem dX12_count_30 : decode cX12_count 30 = .ok (.aload_n 0, 1) := by decide +kernel
theorem dX12_count_31 : decode cX12_count 31 = .ok (.iload_n 1, 1) := by decide +kernel
theorem dX12_count_32 : decode cX12_count 32 = .ok (.invokevirtual 207, 3) := by decide +kernel
theorem dX12_count_35 : decode cX12_count 35 = .ok (.ireturn, 1) := by decide +kernel
theorem dX12_property_0 : decode cX12_property 0 = .ok (.iload_n 2, 1) := by decide +kernel
theorem dX12_property_1 : decode cX12_property 1 = .ok (.ifCond .ne 12, 3) := by decide +kernel
theorem dX12_property_4 : decode cX12_property 4 = .ok (.aload_n 0, 1) := by decide +kernel
theorem dX12_property_5 : decode cX12_property 5 = .ok (.getfield 13, 3) := by decide +kernel
theorem dX12_property_8 : decode cX12_property 8 = .ok (.iload_n 1, 1) := by decide +kernel
theorem dX12_property_9 : decode cX12_property 9 = .ok (.iaload, 1) := by decide +kernel
theorem dX12_property_10 : decode cX12_property 10 = .ok (.goto 37, 3) := by decide +kernel
theorem dX12_property_13 : decode cX12_property 13 = .ok (.iload_n 2, 1) := by decide +kernel
theorem dX12_property_14 : decode cX12_property 14 = .ok (.iconst 1, 1) := by decide +kernel
theorem dX12_property_15 : decode cX12_property 15 = .ok (.if_icmp .ne 12, 3) := by decide +kernel
theorem dX12_property_18 : decode cX12_property 18 = .ok (.aload_n 0, 1) := by decide +kernel
theorem dX12_property_19 : decode cX12_property 19 = .ok (.getfield 16, 3) := by decide +kernel
theorem dX12_property_22 : decode cX12_property 22 = .ok (.iload_n 1, 1) := by decide +kernel
theorem dX12_property_23 : decode cX12_property 23 = .ok (.iaload, 1) := by decide +kernel
theorem dX12_property_24 : decode cX12_property 24 = .ok (.goto 23, 3) := by decide +kernel
theorem dX12_property_27 : decode cX12_property 27 = .ok (.iload_n 2, 1) := by decide +kernel
theorem dX12_property_28 : decode cX12_property 28 = .ok (.iconst 2, 1) := by decide +kernel
theorem dX12_property_29 : decode cX12_property 29 = .ok (.if_icmp .ne 12, 3) := by decide +kernel
theorem dX12_property_32 : decode cX12_property 32 = .ok (.aload_n 0, 1) := by decide +kernel
theorem dX12_property_33 : decode cX12_property 33 = .ok (.getfield 19, 3) := by decide +kernel
theorem dX12_property_36 : decode cX12_property 36 = .ok (.iload_n 1, 1) := by decide +kernel
theorem dX12_property_37 : decode cX12_property 37 = .ok (.iaload, 1) := by decide +kernel
theorem dX12_property_38 : decode cX12_property 38 = .ok (.goto 9, 3) := by decide +kernel
theorem dX12_property_41 : decode cX12_property 41 = .ok (.aload_n 0, 1) := by decide +kernel
theorem dX12_property_42 : decode cX12_property 42 = .ok (.getfield 22, 3) := by decide +kernel
theorem dX12_property_45 : decode cX12_property 45 = .ok (.iload_n 1, 1) := by decide +kernel
theorem dX12_property_46 : decode cX12_property 46 = .ok (.iaload, 1) := by decide +kernel
theorem dX12_property_47 : decode cX12_property 47 = .ok (.ireturn, 1) := by decide +kernel
theorem dX12_comparison_0 : decode cX12_comparison 0 = .ok (.aload_n 0, 1) := by decide +kernel
theorem dX12_comparison_1 : decode cX12_comparison 1 = .ok (.aload_n 0, 1) := by decide +kernel
theorem dX12_comparison_2 : decode cX12_comparison 2 = .ok (.iload_n 1, 1) := by decide +kernel
theorem dX12_comparison_3 : decode cX12_comparison 3 = .ok (.invokevirtual 154, 3) := by decide +kernel
theorem dX12_comparison_6 : decode cX12_comparison 6 = .ok (.ifCond .ne 7, 3) := by decide +kernel
theorem dX12_comparison_9 : decode cX12_comparison 9 = .ok (.iconst 1, 1) := by decide +kernel
theorem dX12_comparison_10 : decode cX12_comparison 10 = .ok (.goto 17, 3) := by decide +kernel
theorem dX12_comparison_13 : decode cX12_comparison 13 = .ok (.iload_n 2, 1) := by decide +kernel
theorem dX12_comparison_14 : decode cX12_comparison 14 = .ok (.iconst 0, 1) := by decide +kernel
theorem dX12_comparison_15 : decode cX12_comparison 15 = .ok (.iconst 3, 1) := by decide +kernel
theorem dX12_comparison_16 : decode cX12_comparison 16 = .ok (.invokestatic 95, 3) := by decide +kernel
theorem dX12_comparison_19 : decode cX12_comparison 19 = .ok (.ifCond .eq 7, 3) := by decide +kernel
theorem dX12_comparison_22 : decode cX12_comparison 22 = .ok (.iconst 0, 1) := by decide +kernel
theorem dX12_comparison_23 : decode cX12_comparison 23 = .ok (.goto 4, 3) := by decide +kernel
theorem dX12_comparison_26 : decode cX12_comparison 26 = .ok (.iconst 2, 1) := by decide +kernel
theorem dX12_comparison_27 : decode cX12_comparison 27 = .ok (.putfield 89, 3) := by decide +kernel
theorem dX12_comparison_30 : decode cX12_comparison 30 = .ok (.aload_n 0, 1) := by decide +kernel
theorem dX12_comparison_31 : decode cX12_comparison 31 = .ok (.getfield 89, 3) := by decide +kernel
theorem dX12_comparison_34 : decode cX12_comparison 34 = .ok (.ifCond .le 7, 3) := by decide +kernel
theorem dX12_comparison_37 : decode cX12_comparison 37 = .ok (.iconst 0, 1) := by decide +kernel
theorem dX12_comparison_38 : decode cX12_comparison 38 = .ok (.goto 9, 3) := by decide +kernel
theorem dX12_comparison_41 : decode cX12_comparison 41 = .ok (.aload_n 0, 1) := by decide +kernel
theorem dX12_comparison_42 : decode cX12_comparison 42 = .ok (.iload_n 1, 1) := by decide +kernel
theorem dX12_comparison_43 : decode cX12_comparison 43 = .ok (.iload_n 2, 1) := by decide +kernel
theorem dX12_comparison_44 : decode cX12_comparison 44 = .ok (.invokevirtual 210, 3) := by decide +kernel
theorem dX12_comparison_47 : decode cX12_comparison 47 = .ok (.ireturn, 1) := by decide +kernel
theorem dX12_isOf_0 : decode cX12_isOf 0 = .ok (.aload_n 0, 1) := by decide +kernel
theorem dX12_isOf_1 : decode cX12_isOf 1 = .ok (.getfield 16, 3) := by decide +kernel
theorem dX12_isOf_4 : decode cX12_isOf 4 = .ok (.iload_n 1, 1) := by decide +kernel
theorem dX12_isOf_5 : decode cX12_isOf 5 = .ok (.iaload, 1) := by decide +kernel
theorem dX12_isOf_6 : decode cX12_isOf 6 = .ok (.iload_n 2, 1) := by decide +kernel
theorem dX12_isOf_7 : decode cX12_isOf 7 = .ok (.if_icmp .ne 13, 3) := by decide +kernel
theorem dX12_isOf_10 : decode cX12_isOf 10 = .ok (.aload_n 0, 1) := by decide +kernel
theorem dX12_isOf_11 : decode cX12_isOf 11 = .ok (.getfield 19, 3) := by decide +kernel
theorem dX12_isOf_14 : decode cX12_isOf 14 = .ok (.iload_n 1, 1) := by decide +kernel
theorem dX12_isOf_15 : decode cX12_isOf 15 = .ok (.iaload, 1) := by decide +kernel
theorem dX12_isOf_16 : decode cX12_isOf 16 = .ok (.iload_n 3, 1) := by decide +kernel
theorem dX12_isOf_17 : decode cX12_isOf 17 = .ok (.if_icmp .eq 23, 3) := by decide +kernel
theorem dX12_isOf_20 : decode cX12_isOf 20 = .ok (.aload_n 0, 1) := by decide +kernel
theorem dX12_isOf_21 : decode cX12_isOf 21 = .ok (.getfield 16, 3) := by decide +kernel
theorem dX12_isOf_24 : decode cX12_isOf 24 = .ok (.iload_n 1, 1) := by decide +kernel
theorem dX12_isOf_25 : decode cX12_isOf 25 = .ok (.iaload, 1) := by decide +kernel
theorem dX12_isOf_26 : decode cX12_isOf 26 = .ok (.iload_n 3, 1) := by decide +kernel
theorem dX12_isOf_27 : decode cX12_isOf 27 = .ok (.if_icmp .ne 17, 3) := by decide +kernel
theorem dX12_isOf_30 : decode cX12_isOf 30 = .ok (.aload_n 0, 1) := by decide +kernel
theorem dX12_isOf_31 : decode cX12_isOf 31 = .ok (.getfield 19, 3) := by decide +kernel
theorem dX12_isOf_34 : decode cX12_isOf 34 = .ok (.iload_n 1, 1) := by decide +kernel
theorem dX12_isOf_35 : decode cX12_isOf 35 = .ok (.iaload, 1) := by decide +kernel
theorem dX12_isOf_36 : decode cX12_isOf 36 = .ok (.iload_n 2, 1) := by decide +kernel
theorem dX12_isOf_37 : decode cX12_isOf 37 = .ok (.if_icmp .ne 7, 3) := by decide +kernel
theorem dX12_isOf_40 : decode cX12_isOf 40 = .ok (.iconst 1, 1) := by decide +kernel
theorem dX12_isOf_41 : decode cX12_isOf 41 = .ok (.goto 4, 3) := by decide +kernel
theorem dX12_isOf_44 : decode cX12_isOf 44 = .ok (.iconst 0, 1) := by decide +kernel
theorem dX12_isOf_45 : decode cX12_isOf 45 = .ok (.ireturn, 1) := by decide +kernel
theorem dX12_winsBy_0 : decode cX12_winsBy 0 = .ok (.iconst 0, 1) := by decide +kernel
theorem dX12_winsBy_1 : decode cX12_winsBy 1 = .ok (.istore 5, 2) := by decide +kernel
theorem dX12_winsBy_3 : decode cX12_winsBy 3 = .ok (.iconst 0, 1) := by decide +kernel
theorem dX12_winsBy_4 : decode cX12_winsBy 4 = .ok (.istore 6, 2) := by decide +kernel
theorem dX12_winsBy_6 : decode cX12_winsBy 6 = .ok (.iload 6, 2) := by decide +kernel
theorem dX12_winsBy_8 : decode cX12_winsBy 8 = .ok (.aload_n 0, 1) := by decide +kernel
theorem dX12_winsBy_9 : decode cX12_winsBy 9 = .ok (.getfield 102, 3) := by decide +kernel
theorem dX12_winsBy_12 : decode cX12_winsBy 12 = .ok (.if_icmp .ge 88, 3) := by decide +kernel
theorem dX12_winsBy_15 : decode cX12_winsBy 15 = .ok (.aload_n 0, 1) := by decide +kernel
theorem dX12_winsBy_16 : decode cX12_winsBy 16 = .ok (.iload 6, 2) := by decide +kernel
theorem dX12_winsBy_18 : decode cX12_winsBy 18 = .ok (.iload_n 2, 1) := by decide +kernel
theorem dX12_winsBy_19 : decode cX12_winsBy 19 = .ok (.iload_n 3, 1) := by decide +kernel
theorem dX12_winsBy_20 : decode cX12_winsBy 20 = .ok (.invokevirtual 214, 3) := by decide +kernel
theorem dX12_winsBy_23 : decode cX12_winsBy 23 = .ok (.ifCond .eq 33, 3) := by decide +kernel
theorem dX12_winsBy_26 : decode cX12_winsBy 26 = .ok (.aload_n 0, 1) := by decide +kernel
theorem dX12_winsBy_27 : decode cX12_winsBy 27 = .ok (.iload 6, 2) := by decide +kernel
theorem dX12_winsBy_29 : decode cX12_winsBy 29 = .ok (.invokevirtual 217, 3) := by decide +kernel
theorem dX12_winsBy_32 : decode cX12_winsBy 32 = .ok (.iload_n 2, 1) := by decide +kernel
theorem dX12_winsBy_33 : decode cX12_winsBy 33 = .ok (.if_icmp .ne 23, 3) := by decide +kernel
theorem dX12_winsBy_36 : decode cX12_winsBy 36 = .ok (.iload_n 1, 1) := by decide +kernel
theorem dX12_winsBy_37 : decode cX12_winsBy 37 = .ok (.iconst (-1), 1) := by decide +kernel
theorem dX12_winsBy_38 : decode cX12_winsBy 38 = .ok (.if_icmp .eq 14, 3) := by decide +kernel
theorem dX12_winsBy_41 : decode cX12_winsBy 41 = .ok (.aload_n 0, 1) := by decide +kernel
theorem dX12_winsBy_42 : decode cX12_winsBy 42 = .ok (.getfield 13, 3) := by decide +kernel
theorem dX12_winsBy_45 : decode cX12_winsBy 45 = .ok (.iload 6, 2) := by decide +kernel
theorem dX12_winsBy_47 : decode cX12_winsBy 47 = .ok (.iaload, 1) := by decide +kernel
theorem dX12_winsBy_48 : decode cX12_winsBy 48 = .ok (.iload_n 1, 1) := by decide +kernel
theorem dX12_winsBy_49 : decode cX12_winsBy 49 = .ok (.if_icmp .ne 7, 3) := by decide +kernel
theorem dX12_winsBy_52 : decode cX12_winsBy 52 = .ok (.iconst 1, 1) := by decide +kernel
theorem dX12_winsBy_53 : decode cX12_winsBy 53 = .ok (.goto 4, 3) := by decide +kernel
theorem dX12_winsBy_56 : decode cX12_winsBy 56 = .ok (.iconst 0, 1) := by decide +kernel
theorem dX12_winsBy_57 : decode cX12_winsBy 57 = .ok (.istore 7, 2) := by decide +kernel
theorem dX12_winsBy_59 : decode cX12_winsBy 59 = .ok (.iload 5, 2) := by decide +kernel
theorem dX12_winsBy_61 : decode cX12_winsBy 61 = .ok (.iload 7, 2) := by decide +kernel
theorem dX12_winsBy_63 : decode cX12_winsBy 63 = .ok (.ifCond .eq 27, 3) := by decide +kernel
theorem dX12_winsBy_66 : decode cX12_winsBy 66 = .ok (.iload 4, 2) := by decide +kernel
theorem dX12_winsBy_68 : decode cX12_winsBy 68 = .ok (.ifCond .eq 18, 3) := by decide +kernel
theorem dX12_winsBy_71 : decode cX12_winsBy 71 = .ok (.aload_n 0, 1) := by decide +kernel
theorem dX12_winsBy_72 : decode cX12_winsBy 72 = .ok (.getfield 7, 3) := by decide +kernel
theorem dX12_winsBy_75 : decode cX12_winsBy 75 = .ok (.aload_n 0, 1) := by decide +kernel
theorem dX12_winsBy_76 : decode cX12_winsBy 76 = .ok (.getfield 13, 3) := by decide +kernel
theorem dX12_winsBy_79 : decode cX12_winsBy 79 = .ok (.iload 6, 2) := by decide +kernel
theorem dX12_winsBy_81 : decode cX12_winsBy 81 = .ok (.iaload, 1) := by decide +kernel
theorem dX12_winsBy_82 : decode cX12_winsBy 82 = .ok (.iaload, 1) := by decide +kernel
theorem dX12_winsBy_83 : decode cX12_winsBy 83 = .ok (.goto 8, 3) := by decide +kernel
theorem dX12_winsBy_86 : decode cX12_winsBy 86 = .ok (.iconst 1, 1) := by decide +kernel
theorem dX12_winsBy_87 : decode cX12_winsBy 87 = .ok (.goto 4, 3) := by decide +kernel
theorem dX12_winsBy_90 : decode cX12_winsBy 90 = .ok (.iconst 0, 1) := by decide +kernel
theorem dX12_winsBy_91 : decode cX12_winsBy 91 = .ok (.iadd, 1) := by decide +kernel
theorem dX12_winsBy_92 : decode cX12_winsBy 92 = .ok (.istore 5, 2) := by decide +kernel
theorem dX12_winsBy_94 : decode cX12_winsBy 94 = .ok (.iinc 6 1, 3) := by decide +kernel
theorem dX12_winsBy_97 : decode cX12_winsBy 97 = .ok (.goto (-91), 3) := by decide +kernel
theorem dX12_winsBy_100 : decode cX12_winsBy 100 = .ok (.iload 5, 2) := by decide +kernel
theorem dX12_winsBy_102 : decode cX12_winsBy 102 = .ok (.ireturn, 1) := by decide +kernel
theorem dX12_wins_0 : decode cX12_wins 0 = .ok (.aload_n 0, 1) := by decide +kernel
theorem dX12_wins_1 : decode cX12_wins 1 = .ok (.iconst (-1), 1) := by decide +kernel
theorem dX12_wins_2 : decode cX12_wins 2 = .ok (.iload_n 1, 1) := by decide +kernel
theorem dX12_wins_3 : decode cX12_wins 3 = .ok (.iload_n 2, 1) := by decide +kernel
theorem dX12_wins_4 : decode cX12_wins 4 = .ok (.iconst 0, 1) := by decide +kernel
theorem dX12_wins_5 : decode cX12_wins 5 = .ok (.invokevirtual 220, 3) := by decide +kernel
theorem dX12_wins_8 : decode cX12_wins 8 = .ok (.ireturn, 1) := by decide +kernel
theorem dX12_tiesOf_0 : decode cX12_tiesOf 0 = .ok (.iconst 0, 1) := by decide +kernel
theorem dX12_tiesOf_1 : decode cX12_tiesOf 1 = .ok (.istore_n 3, 1) := by decide +kernel
theorem dX12_tiesOf_2 : decode cX12_tiesOf 2 = .ok (.iconst 0, 1) := by decide +kernel
theorem dX12_tiesOf_3 : decode cX12_tiesOf 3 = .ok (.istore 4, 2) := by decide +kernel
theorem dX12_tiesOf_5 : decode cX12_tiesOf 5 = .ok (.iload 4, 2) := by decide +kernel
theorem dX12_tiesOf_7 : decode cX12_tiesOf 7 = .ok (.aload_n 0, 1) := by decide +kernel
theorem dX12_tiesOf_8 : decode cX12_tiesOf 8 = .ok (.getfield 102, 3) := by decide +kernel
theorem dX12_tiesOf_11 : decode cX12_tiesOf 11 = .ok (.if_icmp .ge 38, 3) := by decide +kernel
theorem dX12_tiesOf_14 : decode cX12_tiesOf 14 = .ok (.iload_n 3, 1) := by decide +kernel
theorem dX12_tiesOf_15 : decode cX12_tiesOf 15 = .ok (.aload_n 0, 1) := by decide +kernel
theorem dX12_tiesOf_16 : decode cX12_tiesOf 16 = .ok (.iload 4, 2) := by decide +kernel
theorem dX12_tiesOf_18 : decode cX12_tiesOf 18 = .ok (.iload_n 1, 1) := by decide +kernel
theorem dX12_tiesOf_19 : decode cX12_tiesOf 19 = .ok (.iload_n 2, 1) := by decide +kernel
theorem dX12_tiesOf_20 : decode cX12_tiesOf 20 = .ok (.invokevirtual 214, 3) := by decide +kernel
theorem dX12_tiesOf_23 : decode cX12_tiesOf 23 = .ok (.ifCond .eq 17, 3) := by decide +kernel
theorem dX12_tiesOf_26 : decode cX12_tiesOf 26 = .ok (.aload_n 0, 1) := by decide +kernel
theorem dX12_tiesOf_27 : decode cX12_tiesOf 27 = .ok (.getfield 22, 3) := by decide +kernel
theorem dX12_tiesOf_30 : decode cX12_tiesOf 30 = .ok (.iload 4, 2) := by decide +kernel
theorem dX12_tiesOf_32 : decode cX12_tiesOf 32 = .ok (.iaload, 1) := by decide +kernel
theorem dX12_tiesOf_33 : decode cX12_tiesOf 33 = .ok (.ifCond .ne 7, 3) := by decide +kernel
theorem dX12_tiesOf_36 : decode cX12_tiesOf 36 = .ok (.iconst 1, 1) := by decide +kernel
theorem dX12_tiesOf_37 : decode cX12_tiesOf 37 = .ok (.goto 4, 3) := by decide +kernel
theorem dX12_tiesOf_40 : decode cX12_tiesOf 40 = .ok (.iconst 0, 1) := by decide +kernel
theorem dX12_tiesOf_41 : decode cX12_tiesOf 41 = .ok (.iadd, 1) := by decide +kernel
theorem dX12_tiesOf_42 : decode cX12_tiesOf 42 = .ok (.istore_n 3, 1) := by decide +kernel
theorem dX12_tiesOf_43 : decode cX12_tiesOf 43 = .ok (.iinc 4 1, 3) := by decide +kernel
theorem dX12_tiesOf_46 : decode cX12_tiesOf 46 = .ok (.goto (-41), 3) := by decide +kernel
theorem dX12_tiesOf_49 : decode cX12_tiesOf 49 = .ok (.iload_n 3, 1) := by decide +kernel
theorem dX12_tiesOf_50 : decode cX12_tiesOf 50 = .ok (.ireturn, 1) := by decide +kernel
theorem dX12_margin_0 : decode cX12_margin 0 = .ok (.aload_n 0, 1) := by decide +kernel
theorem dX12_margin_1 : decode cX12_margin 1 = .ok (.iconst (-1), 1) := by decide +kernel
theorem dX12_margin_2 : decode cX12_margin 2 = .ok (.iload_n 1, 1) := by decide +kernel
theorem dX12_margin_3 : decode cX12_margin 3 = .ok (.iload_n 2, 1) := by decide +kernel
theorem dX12_margin_4 : decode cX12_margin 4 = .ok (.iconst 1, 1) := by decide +kernel
theorem dX12_margin_5 : decode cX12_margin 5 = .ok (.invokevirtual 220, 3) := by decide +kernel
theorem dX12_margin_8 : decode cX12_margin 8 = .ok (.aload_n 0, 1) := by decide +kernel
theorem dX12_margin_9 : decode cX12_margin 9 = .ok (.iconst (-1), 1) := by decide +kernel
theorem dX12_margin_10 : decode cX12_margin 10 = .ok (.iload_n 2, 1) := by decide +kernel
theorem dX12_margin_11 : decode cX12_margin 11 = .ok (.iload_n 1, 1) := by decide +kernel
theorem dX12_margin_12 : decode cX12_margin 12 = .ok (.iconst 1, 1) := by decide +kernel
theorem dX12_margin_13 : decode cX12_margin 13 = .ok (.invokevirtual 220, 3) := by decide +kernel
theorem dX12_margin_16 : decode cX12_margin 16 = .ok (.isub, 1) := by decide +kernel
theorem dX12_margin_17 : decode cX12_margin 17 = .ok (.ireturn, 1) := by decide +kernel
theorem dX12_prefers_0 : decode cX12_prefers 0 = .ok (.aload_n 0, 1) := by decide +kernel
theorem dX12_prefers_1 : decode cX12_prefers 1 = .ok (.iload_n 1, 1) := by decide +kernel
theorem dX12_prefers_2 : decode cX12_prefers 2 = .ok (.iload_n 2, 1) := by decide +kernel
theorem dX12_prefers_3 : decode cX12_prefers 3 = .ok (.iload_n 3, 1) := by decide +kernel
theorem dX12_prefers_4 : decode cX12_prefers 4 = .ok (.iconst 0, 1) := by decide +kernel
theorem dX12_prefers_5 : decode cX12_prefers 5 = .ok (.invokevirtual 220, 3) := by decide +kernel
theorem dX12_prefers_8 : decode cX12_prefers 8 = .ok (.aload_n 0, 1) := by decide +kernel
theorem dX12_prefers_9 : decode cX12_prefers 9 = .ok (.iload_n 1, 1) := by decide +kernel
theorem dX12_prefers_10 : decode cX12_prefers 10 = .ok (.iload_n 3, 1) := by decide +kernel
theorem dX12_prefers_11 : decode cX12_prefers 11 = .ok (.iload_n 2, 1) := by decide +kernel
theorem dX12_prefers_12 : decode cX12_prefers 12 = .ok (.iconst 0, 1) := by decide +kernel
theorem dX12_prefers_13 : decode cX12_prefers 13 = .ok (.invokevirtual 220, 3) := by decide +kernel
theorem dX12_prefers_16 : decode cX12_prefers 16 = .ok (.if_icmp .le 7, 3) := by decide +kernel
theorem dX12_prefers_19 : decode cX12_prefers 19 = .ok (.iconst 1, 1) := by decide +kernel
theorem dX12_prefers_20 : decode cX12_prefers 20 = .ok (.goto 4, 3) := by decide +kernel
theorem dX12_prefers_23 : decode cX12_prefers 23 = .ok (.iconst 0, 1) := by decide +kernel
theorem dX12_prefers_24 : decode cX12_prefers 24 = .ok (.ireturn, 1) := by decide +kernel
theorem dX12_preferring_0 : decode cX12_preferring 0 = .ok (.iconst 0, 1) := by decide +kernel
theorem dX12_preferring_1 : decode cX12_preferring 1 = .ok (.istore_n 3, 1) := by decide +kernel
theorem dX12_preferring_2 : decode cX12_preferring 2 = .ok (.iconst 0, 1) := by decide +kernel
theorem dX12_preferring_3 : decode cX12_preferring 3 = .ok (.istore 4, 2) := by decide +kernel
theorem dX12_preferring_5 : decode cX12_preferring 5 = .ok (.iload 4, 2) := by decide +kernel
theorem dX12_preferring_7 : decode cX12_preferring 7 = .ok (.aload_n 0, 1) := by decide +kernel
theorem dX12_preferring_8 : decode cX12_preferring 8 = .ok (.getfield 99, 3) := by decide +kernel
theorem dX12_preferring_11 : decode cX12_preferring 11 = .ok (.if_icmp .ge 28, 3) := by decide +kernel
theorem dX12_preferring_14 : decode cX12_preferring 14 = .ok (.iload_n 3, 1) := by decide +kernel
theorem dX12_preferring_15 : decode cX12_preferring 15 = .ok (.aload_n 0, 1) := by decide +kernel
theorem dX12_preferring_16 : decode cX12_preferring 16 = .ok (.iload 4, 2) := by decide +kernel
theorem dX12_preferring_18 : decode cX12_preferring 18 = .ok (.iload_n 1, 1) := by decide +kernel
theorem dX12_preferring_19 : decode cX12_preferring 19 = .ok (.iload_n 2, 1) := by decide +kernel
theorem dX12_preferring_20 : decode cX12_preferring 20 = .ok (.invokevirtual 224, 3) := by decide +kernel
theorem dX12_preferring_23 : decode cX12_preferring 23 = .ok (.ifCond .eq 7, 3) := by decide +kernel
theorem dX12_preferring_26 : decode cX12_preferring 26 = .ok (.iconst 1, 1) := by decide +kernel
theorem dX12_preferring_27 : decode cX12_preferring 27 = .ok (.goto 4, 3) := by decide +kernel
theorem dX12_preferring_30 : decode cX12_preferring 30 = .ok (.iconst 0, 1) := by decide +kernel
theorem dX12_preferring_31 : decode cX12_preferring 31 = .ok (.iadd, 1) := by decide +kernel
theorem dX12_preferring_32 : decode cX12_preferring 32 = .ok (.istore_n 3, 1) := by decide +kernel
theorem dX12_preferring_33 : decode cX12_preferring 33 = .ok (.iinc 4 1, 3) := by decide +kernel
theorem dX12_preferring_36 : decode cX12_preferring 36 = .ok (.goto (-31), 3) := by decide +kernel
theorem dX12_preferring_39 : decode cX12_preferring 39 = .ok (.iload_n 3, 1) := by decide +kernel
theorem dX12_preferring_40 : decode cX12_preferring 40 = .ok (.ireturn, 1) := by decide +kernel
theorem dX12_resultNow_0 : decode cX12_resultNow 0 = .ok (.iload_n 1, 1) := by decide +kernel
theorem dX12_resultNow_1 : decode cX12_resultNow 1 = .ok (.iload_n 2, 1) := by decide +kernel
theorem dX12_resultNow_2 : decode cX12_resultNow 2 = .ok (.if_icmp .ne 5, 3) := by decide +kernel
theorem dX12_resultNow_5 : decode cX12_resultNow 5 = .ok (.iconst 0, 1) := by decide +kernel
theorem dX12_resultNow_6 : decode cX12_resultNow 6 = .ok (.ireturn, 1) := by decide +kernel
theorem dX12_resultNow_7 : decode cX12_resultNow 7 = .ok (.iload_n 3, 1) := by decide +kernel
theorem dX12_resultNow_8 : decode cX12_resultNow 8 = .ok (.ifCond .ne 12, 3) := by decide +kernel
theorem dX12_resultNow_11 : decode cX12_resultNow 11 = .ok (.aload_n 0, 1) := by decide +kernel
theorem dX12_resultNow_12 : decode cX12_resultNow 12 = .ok (.iload_n 1, 1) := by decide +kernel
theorem dX12_resultNow_13 : decode cX12_resultNow 13 = .ok (.iload_n 2, 1) := by decide +kernel
theorem dX12_resultNow_14 : decode cX12_resultNow 14 = .ok (.invokevirtual 227, 3) := by decide +kernel
theorem dX12_resultNow_17 : decode cX12_resultNow 17 = .ok (.goto 37, 3) := by decide +kernel
theorem dX12_resultNow_20 : decode cX12_resultNow 20 = .ok (.iload_n 3, 1) := by decide +kernel
theorem dX12_resultNow_21 : decode cX12_resultNow 21 = .ok (.iconst 1, 1) := by decide +kernel
theorem dX12_resultNow_22 : decode cX12_resultNow 22 = .ok (.if_icmp .ne 12, 3) := by decide +kernel
theorem dX12_resultNow_25 : decode cX12_resultNow 25 = .ok (.aload_n 0, 1) := by decide +kernel
theorem dX12_resultNow_26 : decode cX12_resultNow 26 = .ok (.iload_n 1, 1) := by decide +kernel
theorem dX12_resultNow_27 : decode cX12_resultNow 27 = .ok (.iload_n 2, 1) := by decide +kernel
theorem dX12_resultNow_28 : decode cX12_resultNow 28 = .ok (.invokevirtual 230, 3) := by decide +kernel
theorem dX12_resultNow_31 : decode cX12_resultNow 31 = .ok (.goto 23, 3) := by decide +kernel
theorem dX12_resultNow_34 : decode cX12_resultNow 34 = .ok (.iload_n 3, 1) := by decide +kernel
theorem dX12_resultNow_35 : decode cX12_resultNow 35 = .ok (.iconst 2, 1) := by decide +kernel
theorem dX12_resultNow_36 : decode cX12_resultNow 36 = .ok (.if_icmp .ne 12, 3) := by decide +kernel
theorem dX12_resultNow_39 : decode cX12_resultNow 39 = .ok (.aload_n 0, 1) := by decide +kernel
theorem dX12_resultNow_40 : decode cX12_resultNow 40 = .ok (.iload_n 1, 1) := by decide +kernel
theorem dX12_resultNow_41 : decode cX12_resultNow 41 = .ok (.iload_n 2, 1) := by decide +kernel
theorem dX12_resultNow_42 : decode cX12_resultNow 42 = .ok (.invokevirtual 233, 3) := by decide +kernel
theorem dX12_resultNow_45 : decode cX12_resultNow 45 = .ok (.goto 9, 3) := by decide +kernel
theorem dX12_resultNow_48 : decode cX12_resultNow 48 = .ok (.aload_n 0, 1) := by decide +kernel
theorem dX12_resultNow_49 : decode cX12_resultNow 49 = .ok (.iload_n 1, 1) := by decide +kernel
theorem dX12_resultNow_50 : decode cX12_resultNow 50 = .ok (.iload_n 2, 1) := by decide +kernel
theorem dX12_resultNow_51 : decode cX12_resultNow 51 = .ok (.invokevirtual 236, 3) := by decide +kernel
theorem dX12_resultNow_54 : decode cX12_resultNow 54 = .ok (.ireturn, 1) := by decide +kernel
theorem dX12_result_0 : decode cX12_result 0 = .ok (.aload_n 0, 1) := by decide +kernel
theorem dX12_result_1 : decode cX12_result 1 = .ok (.aload_n 0, 1) := by decide +kernel
theorem dX12_result_2 : decode cX12_result 2 = .ok (.iload_n 1, 1) := by decide +kernel
theorem dX12_result_3 : decode cX12_result 3 = .ok (.invokevirtual 151, 3) := by decide +kernel
theorem dX12_result_6 : decode cX12_result 6 = .ok (.ifCond .eq 11, 3) := by decide +kernel
theorem dX12_result_9 : decode cX12_result 9 = .ok (.aload_n 0, 1) := by decide +kernel
theorem dX12_result_10 : decode cX12_result 10 = .ok (.iload_n 2, 1) := by decide +kernel
theorem dX12_result_11 : decode cX12_result 11 = .ok (.invokevirtual 151, 3) := by decide +kernel
theorem dX12_result_14 : decode cX12_result 14 = .ok (.ifCond .ne 7, 3) := by decide +kernel
theorem dX12_result_17 : decode cX12_result 17 = .ok (.iconst 1, 1) := by decide +kernel
theorem dX12_result_18 : decode cX12_result 18 = .ok (.goto 17, 3) := by decide +kernel
theorem dX12_result_21 : decode cX12_result 21 = .ok (.iload_n 3, 1) := by decide +kernel
theorem dX12_result_22 : decode cX12_result 22 = .ok (.iconst 0, 1) := by decide +kernel
theorem dX12_result_23 : decode cX12_result 23 = .ok (.iconst 3, 1) := by decide +kernel
theorem dX12_result_24 : decode cX12_result 24 = .ok (.invokestatic 95, 3) := by decide +kernel
theorem dX12_result_27 : decode cX12_result 27 = .ok (.ifCond .eq 7, 3) := by decide +kernel
theorem dX12_result_30 : decode cX12_result 30 = .ok (.iconst 0, 1) := by decide +kernel
theorem dX12_result_31 : decode cX12_result 31 = .ok (.goto 4, 3) := by decide +kernel
theorem dX12_result_34 : decode cX12_result 34 = .ok (.iconst 2, 1) := by decide +kernel
theorem dX12_result_35 : decode cX12_result 35 = .ok (.putfield 89, 3) := by decide +kernel
theorem dX12_result_38 : decode cX12_result 38 = .ok (.aload_n 0, 1) := by decide +kernel
theorem dX12_result_39 : decode cX12_result 39 = .ok (.getfield 89, 3) := by decide +kernel
theorem dX12_result_42 : decode cX12_result 42 = .ok (.ifCond .le 7, 3) := by decide +kernel
theorem dX12_result_45 : decode cX12_result 45 = .ok (.iconst 0, 1) := by decide +kernel
theorem dX12_result_46 : decode cX12_result 46 = .ok (.goto 10, 3) := by decide +kernel
theorem dX12_result_49 : decode cX12_result 49 = .ok (.aload_n 0, 1) := by decide +kernel
theorem dX12_result_50 : decode cX12_result 50 = .ok (.iload_n 1, 1) := by decide +kernel
theorem dX12_result_51 : decode cX12_result 51 = .ok (.iload_n 2, 1) := by decide +kernel
theorem dX12_result_52 : decode cX12_result 52 = .ok (.iload_n 3, 1) := by decide +kernel
theorem dX12_result_53 : decode cX12_result 53 = .ok (.invokevirtual 239, 3) := by decide +kernel
theorem dX12_result_56 : decode cX12_result 56 = .ok (.ireturn, 1) := by decide +kernel
theorem dX12_pointsWithout_0 : decode cX12_pointsWithout 0 = .ok (.iconst 0, 1) := by decide +kernel
theorem dX12_pointsWithout_1 : decode cX12_pointsWithout 1 = .ok (.istore_n 3, 1) := by decide +kernel
theorem dX12_pointsWithout_2 : decode cX12_pointsWithout 2 = .ok (.iconst 0, 1) := by decide +kernel
theorem dX12_pointsWithout_3 : decode cX12_pointsWithout 3 = .ok (.istore 4, 2) := by decide +kernel
theorem dX12_pointsWithout_5 : decode cX12_pointsWithout 5 = .ok (.iload 4, 2) := by decide +kernel
theorem dX12_pointsWithout_7 : decode cX12_pointsWithout 7 = .ok (.aload_n 0, 1) := by decide +kernel
theorem dX12_pointsWithout_8 : decode cX12_pointsWithout 8 = .ok (.getfield 102, 3) := by decide +kernel
theorem dX12_pointsWithout_11 : decode cX12_pointsWithout 11 = .ok (.if_icmp .ge 102, 3) := by decide +kernel
theorem dX12_pointsWithout_14 : decode cX12_pointsWithout 14 = .ok (.iload 4, 2) := by decide +kernel
theorem dX12_pointsWithout_16 : decode cX12_pointsWithout 16 = .ok (.iload_n 2, 1) := by decide +kernel
theorem dX12_pointsWithout_17 : decode cX12_pointsWithout 17 = .ok (.if_icmp .eq 29, 3) := by decide +kernel
theorem dX12_pointsWithout_20 : decode cX12_pointsWithout 20 = .ok (.aload_n 0, 1) := by decide +kernel
theorem dX12_pointsWithout_21 : decode cX12_pointsWithout 21 = .ok (.getfield 16, 3) := by decide +kernel
theorem dX12_pointsWithout_24 : decode cX12_pointsWithout 24 = .ok (.iload 4, 2) := by decide +kernel
theorem dX12_pointsWithout_26 : decode cX12_pointsWithout 26 = .ok (.iaload, 1) := by decide +kernel
theorem dX12_pointsWithout_27 : decode cX12_pointsWithout 27 = .ok (.iload_n 1, 1) := by decide +kernel
theorem dX12_pointsWithout_28 : decode cX12_pointsWithout 28 = .ok (.if_icmp .eq 14, 3) := by decide +kernel
theorem dX12_pointsWithout_31 : decode cX12_pointsWithout 31 = .ok (.aload_n 0, 1) := by decide +kernel
theorem dX12_pointsWithout_32 : decode cX12_pointsWithout 32 = .ok (.getfield 19, 3) := by decide +kernel
theorem dX12_pointsWithout_35 : decode cX12_pointsWithout 35 = .ok (.iload 4, 2) := by decide +kernel
theorem dX12_pointsWithout_37 : decode cX12_pointsWithout 37 = .ok (.iaload, 1) := by decide +kernel
theorem dX12_pointsWithout_38 : decode cX12_pointsWithout 38 = .ok (.iload_n 1, 1) := by decide +kernel
theorem dX12_pointsWithout_39 : decode cX12_pointsWithout 39 = .ok (.if_icmp .ne 7, 3) := by decide +kernel
theorem dX12_pointsWithout_42 : decode cX12_pointsWithout 42 = .ok (.iconst 1, 1) := by decide +kernel
theorem dX12_pointsWithout_43 : decode cX12_pointsWithout 43 = .ok (.goto 4, 3) := by decide +kernel
theorem dX12_pointsWithout_46 : decode cX12_pointsWithout 46 = .ok (.iconst 0, 1) := by decide +kernel
theorem dX12_pointsWithout_47 : decode cX12_pointsWithout 47 = .ok (.istore 5, 2) := by decide +kernel
theorem dX12_pointsWithout_49 : decode cX12_pointsWithout 49 = .ok (.aload_n 0, 1) := by decide +kernel
theorem dX12_pointsWithout_50 : decode cX12_pointsWithout 50 = .ok (.getfield 22, 3) := by decide +kernel
theorem dX12_pointsWithout_53 : decode cX12_pointsWithout 53 = .ok (.iload 4, 2) := by decide +kernel
theorem dX12_pointsWithout_55 : decode cX12_pointsWithout 55 = .ok (.iaload, 1) := by decide +kernel
theorem dX12_pointsWithout_56 : decode cX12_pointsWithout 56 = .ok (.ifCond .ne 7, 3) := by decide +kernel
theorem dX12_pointsWithout_59 : decode cX12_pointsWithout 59 = .ok (.iconst 1, 1) := by decide +kernel
theorem dX12_pointsWithout_60 : decode cX12_pointsWithout 60 = .ok (.goto 18, 3) := by decide +kernel
theorem dX12_pointsWithout_63 : decode cX12_pointsWithout 63 = .ok (.aload_n 0, 1) := by decide +kernel
theorem dX12_pointsWithout_64 : decode cX12_pointsWithout 64 = .ok (.iload 4, 2) := by decide +kernel
theorem dX12_pointsWithout_66 : decode cX12_pointsWithout 66 = .ok (.invokevirtual 217, 3) := by decide +kernel
theorem dX12_pointsWithout_69 : decode cX12_pointsWithout 69 = .ok (.iload_n 1, 1) := by decide +kernel
theorem dX12_pointsWithout_70 : decode cX12_pointsWithout 70 = .ok (.if_icmp .ne 7, 3) := by decide +kernel
theorem dX12_pointsWithout_73 : decode cX12_pointsWithout 73 = .ok (.iconst 2, 1) := by decide +kernel
theorem dX12_pointsWithout_74 : decode cX12_pointsWithout 74 = .ok (.goto 4, 3) := by decide +kernel
theorem dX12_pointsWithout_77 : decode cX12_pointsWithout 77 = .ok (.iconst 0, 1) := by decide +kernel
theorem dX12_pointsWithout_78 : decode cX12_pointsWithout 78 = .ok (.istore 6, 2) := by decide +kernel
theorem dX12_pointsWithout_80 : decode cX12_pointsWithout 80 = .ok (.iload_n 3, 1) := by decide +kernel
theorem dX12_pointsWithout_81 : decode cX12_pointsWithout 81 = .ok (.iload 5, 2) := by decide +kernel
theorem dX12_pointsWithout_83 : decode cX12_pointsWithout 83 = .ok (.ifCond .eq 21, 3) := by decide +kernel
theorem dX12_pointsWithout_86 : decode cX12_pointsWithout 86 = .ok (.iload 6, 2) := by decide +kernel
theorem dX12_pointsWithout_88 : decode cX12_pointsWithout 88 = .ok (.aload_n 0, 1) := by decide +kernel
theorem dX12_pointsWithout_89 : decode cX12_pointsWithout 89 = .ok (.getfield 7, 3) := by decide +kernel
theorem dX12_pointsWithout_92 : decode cX12_pointsWithout 92 = .ok (.aload_n 0, 1) := by decide +kernel
theorem dX12_pointsWithout_93 : decode cX12_pointsWithout 93 = .ok (.getfield 13, 3) := by decide +kernel
theorem dX12_pointsWithout_96 : decode cX12_pointsWithout 96 = .ok (.iload 4, 2) := by decide +kernel
theorem dX12_pointsWithout_98 : decode cX12_pointsWithout 98 = .ok (.iaload, 1) := by decide +kernel
theorem dX12_pointsWithout_99 : decode cX12_pointsWithout 99 = .ok (.iaload, 1) := by decide +kernel
theorem dX12_pointsWithout_100 : decode cX12_pointsWithout 100 = .ok (.imul, 1) := by decide +kernel
theorem dX12_pointsWithout_101 : decode cX12_pointsWithout 101 = .ok (.goto 4, 3) := by decide +kernel
theorem dX12_pointsWithout_104 : decode cX12_pointsWithout 104 = .ok (.iconst 0, 1) := by decide +kernel
theorem dX12_pointsWithout_105 : decode cX12_pointsWithout 105 = .ok (.iadd, 1) := by decide +kernel
theorem dX12_pointsWithout_106 : decode cX12_pointsWithout 106 = .ok (.istore_n 3, 1) := by decide +kernel
theorem dX12_pointsWithout_107 : decode cX12_pointsWithout 107 = .ok (.iinc 4 1, 3) := by decide +kernel
theorem dX12_pointsWithout_110 : decode cX12_pointsWithout 110 = .ok (.goto (-105), 3) := by decide +kernel
theorem dX12_pointsWithout_113 : decode cX12_pointsWithout 113 = .ok (.iload_n 3, 1) := by decide +kernel
theorem dX12_pointsWithout_114 : decode cX12_pointsWithout 114 = .ok (.ireturn, 1) := by decide +kernel
theorem dX12_rankWithout_0 : decode cX12_rankWithout 0 = .ok (.iconst 1, 1) := by decide +kernel
theorem dX12_rankWithout_1 : decode cX12_rankWithout 1 = .ok (.istore_n 3, 1) := by decide +kernel
theorem dX12_rankWithout_2 : decode cX12_rankWithout 2 = .ok (.aload_n 0, 1) := by decide +kernel
theorem dX12_rankWithout_3 : decode cX12_rankWithout 3 = .ok (.iload_n 1, 1) := by decide +kernel
theorem dX12_rankWithout_4 : decode cX12_rankWithout 4 = .ok (.iload_n 2, 1) := by decide +kernel
theorem dX12_rankWithout_5 : decode cX12_rankWithout 5 = .ok (.invokevirtual 243, 3) := by decide +kernel
theorem dX12_rankWithout_8 : decode cX12_rankWithout 8 = .ok (.istore 4, 2) := by decide +kernel
theorem dX12_rankWithout_10 : decode cX12_rankWithout 10 = .ok (.iconst 0, 1) := by decide +kernel
theorem dX12_rankWithout_11 : decode cX12_rankWithout 11 = .ok (.istore 5, 2) := by decide +kernel
theorem dX12_rankWithout_13 : decode cX12_rankWithout 13 = .ok (.iload 5, 2) := by decide +kernel
theorem dX12_rankWithout_15 : decode cX12_rankWithout 15 = .ok (.aload_n 0, 1) := by decide +kernel
theorem dX12_rankWithout_16 : decode cX12_rankWithout 16 = .ok (.getfield 92, 3) := by decide +kernel
theorem dX12_rankWithout_19 : decode cX12_rankWithout 19 = .ok (.if_icmp .ge 29, 3) := by decide +kernel
theorem dX12_rankWithout_22 : decode cX12_rankWithout 22 = .ok (.iload_n 3, 1) := by decide +kernel
theorem dX12_rankWithout_23 : decode cX12_rankWithout 23 = .ok (.aload_n 0, 1) := by decide +kernel
theorem dX12_rankWithout_24 : decode cX12_rankWithout 24 = .ok (.iload 5, 2) := by decide +kernel
theorem dX12_rankWithout_26 : decode cX12_rankWithout 26 = .ok (.iload_n 2, 1) := by decide +kernel
theorem dX12_rankWithout_27 : decode cX12_rankWithout 27 = .ok (.invokevirtual 243, 3) := by decide +kernel
theorem dX12_rankWithout_30 : decode cX12_rankWithout 30 = .ok (.iload 4, 2) := by decide +kernel
theorem dX12_rankWithout_32 : decode cX12_rankWithout 32 = .ok (.if_icmp .le 7, 3) := by decide +kernel
theorem dX12_rankWithout_35 : decode cX12_rankWithout 35 = .ok (.iconst 1, 1) := by decide +kernel
theorem dX12_rankWithout_36 : decode cX12_rankWithout 36 = .ok (.goto 4, 3) := by decide +kernel
theorem dX12_rankWithout_39 : decode cX12_rankWithout 39 = .ok (.iconst 0, 1) := by decide +kernel
theorem dX12_rankWithout_40 : decode cX12_rankWithout 40 = .ok (.iadd, 1) := by decide +kernel
theorem dX12_rankWithout_41 : decode cX12_rankWithout 41 = .ok (.istore_n 3, 1) := by decide +kernel
theorem dX12_rankWithout_42 : decode cX12_rankWithout 42 = .ok (.iinc 5 1, 3) := by decide +kernel
theorem dX12_rankWithout_45 : decode cX12_rankWithout 45 = .ok (.goto (-32), 3) := by decide +kernel
theorem dX12_rankWithout_48 : decode cX12_rankWithout 48 = .ok (.iload_n 3, 1) := by decide +kernel
theorem dX12_rankWithout_49 : decode cX12_rankWithout 49 = .ok (.ireturn, 1) := by decide +kernel
theorem dX12_isStable_0 : decode cX12_isStable 0 = .ok (.aload_n 0, 1) := by decide +kernel
theorem dX12_isStable_1 : decode cX12_isStable 1 = .ok (.iload_n 1, 1) := by decide +kernel
theorem dX12_isStable_2 : decode cX12_isStable 2 = .ok (.iconst (-1), 1) := by decide +kernel
theorem dX12_isStable_3 : decode cX12_isStable 3 = .ok (.invokevirtual 246, 3) := by decide +kernel
theorem dX12_isStable_6 : decode cX12_isStable 6 = .ok (.istore_n 2, 1) := by decide +kernel
theorem dX12_isStable_7 : decode cX12_isStable 7 = .ok (.iconst 1, 1) := by decide +kernel
theorem dX12_isStable_8 : decode cX12_isStable 8 = .ok (.istore_n 3, 1) := by decide +kernel
theorem dX12_isStable_9 : decode cX12_isStable 9 = .ok (.iconst 0, 1) := by decide +kernel
theorem dX12_isStable_10 : decode cX12_isStable 10 = .ok (.istore 4, 2) := by decide +kernel
theorem dX12_isStable_12 : decode cX12_isStable 12 = .ok (.iload 4, 2) := by decide +kernel
theorem dX12_isStable_14 : decode cX12_isStable 14 = .ok (.aload_n 0, 1) := by decide +kernel
theorem dX12_isStable_15 : decode cX12_isStable 15 = .ok (.getfield 102, 3) := by decide +kernel
theorem dX12_isStable_18 : decode cX12_isStable 18 = .ok (.if_icmp .ge 30, 3) := by decide +kernel
theorem dX12_isStable_21 : decode cX12_isStable 21 = .ok (.iload_n 3, 1) := by decide +kernel
theorem dX12_isStable_22 : decode cX12_isStable 22 = .ok (.ifCond .eq 18, 3) := by decide +kernel
theorem dX12_isStable_25 : decode cX12_isStable 25 = .ok (.aload_n 0, 1) := by decide +kernel
theorem dX12_isStable_26 : decode cX12_isStable 26 = .ok (.iload_n 1, 1) := by decide +kernel
theorem dX12_isStable_27 : decode cX12_isStable 27 = .ok (.iload 4, 2) := by decide +kernel
theorem dX12_isStable_29 : decode cX12_isStable 29 = .ok (.invokevirtual 246, 3) := by decide +kernel
theorem dX12_isStable_32 : decode cX12_isStable 32 = .ok (.iload_n 2, 1) := by decide +kernel
theorem dX12_isStable_33 : decode cX12_isStable 33 = .ok (.if_icmp .ne 7, 3) := by decide +kernel
theorem dX12_isStable_36 : decode cX12_isStable 36 = .ok (.iconst 1, 1) := by decide +kernel
theorem dX12_isStable_37 : decode cX12_isStable 37 = .ok (.goto 4, 3) := by decide +kernel
theorem dX12_isStable_40 : decode cX12_isStable 40 = .ok (.iconst 0, 1) := by decide +kernel
theorem dX12_isStable_41 : decode cX12_isStable 41 = .ok (.istore_n 3, 1) := by decide +kernel
theorem dX12_isStable_42 : decode cX12_isStable 42 = .ok (.iinc 4 1, 3) := by decide +kernel
theorem dX12_isStable_45 : decode cX12_isStable 45 = .ok (.goto (-33), 3) := by decide +kernel
theorem dX12_isStable_48 : decode cX12_isStable 48 = .ok (.iload_n 3, 1) := by decide +kernel
theorem dX12_isStable_49 : decode cX12_isStable 49 = .ok (.ireturn, 1) := by decide +kernel
theorem dX12_layMargins_0 : decode cX12_layMargins 0 = .ok (.iconst 0, 1) := by decide +kernel
theorem dX12_layMargins_1 : decode cX12_layMargins 1 = .ok (.istore_n 1, 1) := by decide +kernel
theorem dX12_layMargins_2 : decode cX12_layMargins 2 = .ok (.iload_n 1, 1) := by decide +kernel
theorem dX12_layMargins_3 : decode cX12_layMargins 3 = .ok (.aload_n 0, 1) := by decide +kernel
theorem dX12_layMargins_4 : decode cX12_layMargins 4 = .ok (.getfield 92, 3) := by decide +kernel
theorem dX12_layMargins_7 : decode cX12_layMargins 7 = .ok (.aload_n 0, 1) := by decide +kernel
theorem dX12_layMargins_8 : decode cX12_layMargins 8 = .ok (.getfield 92, 3) := by decide +kernel
theorem dX12_layMargins_11 : decode cX12_layMargins 11 = .ok (.imul, 1) := by decide +kernel
theorem dX12_layMargins_12 : decode cX12_layMargins 12 = .ok (.if_icmp .ge 49, 3) := by decide +kernel
theorem dX12_layMargins_15 : decode cX12_layMargins 15 = .ok (.iload_n 1, 1) := by decide +kernel
theorem dX12_layMargins_16 : decode cX12_layMargins 16 = .ok (.aload_n 0, 1) := by decide +kernel
theorem dX12_layMargins_17 : decode cX12_layMargins 17 = .ok (.getfield 92, 3) := by decide +kernel
theorem dX12_layMargins_20 : decode cX12_layMargins 20 = .ok (.idiv, 1) := by decide +kernel
theorem dX12_layMargins_21 : decode cX12_layMargins 21 = .ok (.istore_n 2, 1) := by decide +kernel
theorem dX12_layMargins_22 : decode cX12_layMargins 22 = .ok (.iload_n 1, 1) := by decide +kernel
theorem dX12_layMargins_23 : decode cX12_layMargins 23 = .ok (.aload_n 0, 1) := by decide +kernel
theorem dX12_layMargins_24 : decode cX12_layMargins 24 = .ok (.getfield 92, 3) := by decide +kernel
theorem dX12_layMargins_27 : decode cX12_layMargins 27 = .ok (.irem, 1) := by decide +kernel
theorem dX12_layMargins_28 : decode cX12_layMargins 28 = .ok (.istore_n 3, 1) := by decide +kernel
theorem dX12_layMargins_29 : decode cX12_layMargins 29 = .ok (.aload_n 0, 1) := by decide +kernel
theorem dX12_layMargins_30 : decode cX12_layMargins 30 = .ok (.getfield 56, 3) := by decide +kernel
theorem dX12_layMargins_33 : decode cX12_layMargins 33 = .ok (.bipush 8, 2) := by decide +kernel
theorem dX12_layMargins_35 : decode cX12_layMargins 35 = .ok (.iload_n 2, 1) := by decide +kernel
theorem dX12_layMargins_36 : decode cX12_layMargins 36 = .ok (.imul, 1) := by decide +kernel
theorem dX12_layMargins_37 : decode cX12_layMargins 37 = .ok (.iload_n 3, 1) := by decide +kernel
theorem dX12_layMargins_38 : decode cX12_layMargins 38 = .ok (.iadd, 1) := by decide +kernel
theorem dX12_layMargins_39 : decode cX12_layMargins 39 = .ok (.iload_n 2, 1) := by decide +kernel
theorem dX12_layMargins_40 : decode cX12_layMargins 40 = .ok (.iload_n 3, 1) := by decide +kernel
theorem dX12_layMargins_41 : decode cX12_layMargins 41 = .ok (.if_icmp .ne 7, 3) := by decide +kernel
theorem dX12_layMargins_44 : decode cX12_layMargins 44 = .ok (.iconst 0, 1) := by decide +kernel
theorem dX12_layMargins_45 : decode cX12_layMargins 45 = .ok (.goto 9, 3) := by decide +kernel
theorem dX12_layMargins_48 : decode cX12_layMargins 48 = .ok (.aload_n 0, 1) := by decide +kernel
theorem dX12_layMargins_49 : decode cX12_layMargins 49 = .ok (.iload_n 2, 1) := by decide +kernel
theorem dX12_layMargins_50 : decode cX12_layMargins 50 = .ok (.iload_n 3, 1) := by decide +kernel
theorem dX12_layMargins_51 : decode cX12_layMargins 51 = .ok (.invokevirtual 233, 3) := by decide +kernel
theorem dX12_layMargins_54 : decode cX12_layMargins 54 = .ok (.iastore, 1) := by decide +kernel
theorem dX12_layMargins_55 : decode cX12_layMargins 55 = .ok (.iinc 1 1, 3) := by decide +kernel
theorem dX12_layMargins_58 : decode cX12_layMargins 58 = .ok (.goto (-56), 3) := by decide +kernel
theorem dX12_layMargins_61 : decode cX12_layMargins 61 = .ok (.return_, 1) := by decide +kernel
theorem dX12_beats_0 : decode cX12_beats 0 = .ok (.aload_n 0, 1) := by decide +kernel
theorem dX12_beats_1 : decode cX12_beats 1 = .ok (.getfield 56, 3) := by decide +kernel
theorem dX12_beats_4 : decode cX12_beats 4 = .ok (.bipush 8, 2) := by decide +kernel
theorem dX12_beats_6 : decode cX12_beats 6 = .ok (.iload_n 1, 1) := by decide +kernel
theorem dX12_beats_7 : decode cX12_beats 7 = .ok (.imul, 1) := by decide +kernel
theorem dX12_beats_8 : decode cX12_beats 8 = .ok (.iload_n 2, 1) := by decide +kernel
theorem dX12_beats_9 : decode cX12_beats 9 = .ok (.iadd, 1) := by decide +kernel
theorem dX12_beats_10 : decode cX12_beats 10 = .ok (.iaload, 1) := by decide +kernel
theorem dX12_beats_11 : decode cX12_beats 11 = .ok (.ifCond .le 7, 3) := by decide +kernel
theorem dX12_beats_14 : decode cX12_beats 14 = .ok (.iconst 1, 1) := by decide +kernel
theorem dX12_beats_15 : decode cX12_beats 15 = .ok (.goto 4, 3) := by decide +kernel
theorem dX12_beats_18 : decode cX12_beats 18 = .ok (.iconst 0, 1) := by decide +kernel
theorem dX12_beats_19 : decode cX12_beats 19 = .ok (.ireturn, 1) := by decide +kernel
theorem dX12_dominance_0 : decode cX12_dominance 0 = .ok (.iconst 0, 1) := by decide +kernel
theorem dX12_dominance_1 : decode cX12_dominance 1 = .ok (.istore_n 2, 1) := by decide +kernel
theorem dX12_dominance_2 : decode cX12_dominance 2 = .ok (.iconst 0, 1) := by decide +kernel
theorem dX12_dominance_3 : decode cX12_dominance 3 = .ok (.istore_n 3, 1) := by decide +kernel
theorem dX12_dominance_4 : decode cX12_dominance 4 = .ok (.iload_n 3, 1) := by decide +kernel
theorem dX12_dominance_5 : decode cX12_dominance 5 = .ok (.aload_n 0, 1) := by decide +kernel
theorem dX12_dominance_6 : decode cX12_dominance 6 = .ok (.getfield 92, 3) := by decide +kernel
theorem dX12_dominance_9 : decode cX12_dominance 9 = .ok (.if_icmp .ge 39, 3) := by decide +kernel
theorem dX12_dominance_12 : decode cX12_dominance 12 = .ok (.iload_n 2, 1) := by decide +kernel
theorem dX12_dominance_13 : decode cX12_dominance 13 = .ok (.aload_n 0, 1) := by decide +kernel
theorem dX12_dominance_14 : decode cX12_dominance 14 = .ok (.iload_n 1, 1) := by decide +kernel
theorem dX12_dominance_15 : decode cX12_dominance 15 = .ok (.iload_n 3, 1) := by decide +kernel
theorem dX12_dominance_16 : decode cX12_dominance 16 = .ok (.invokevirtual 249, 3) := by decide +kernel
theorem dX12_dominance_19 : decode cX12_dominance 19 = .ok (.ifCond .eq 7, 3) := by decide +kernel
theorem dX12_dominance_22 : decode cX12_dominance 22 = .ok (.iconst 1, 1) := by decide +kernel
theorem dX12_dominance_23 : decode cX12_dominance 23 = .ok (.goto 17, 3) := by decide +kernel
theorem dX12_dominance_26 : decode cX12_dominance 26 = .ok (.aload_n 0, 1) := by decide +kernel
theorem dX12_dominance_27 : decode cX12_dominance 27 = .ok (.iload_n 3, 1) := by decide +kernel
theorem dX12_dominance_28 : decode cX12_dominance 28 = .ok (.iload_n 1, 1) := by decide +kernel
theorem dX12_dominance_29 : decode cX12_dominance 29 = .ok (.invokevirtual 249, 3) := by decide +kernel
theorem dX12_dominance_32 : decode cX12_dominance 32 = .ok (.ifCond .eq 7, 3) := by decide +kernel
theorem dX12_dominance_35 : decode cX12_dominance 35 = .ok (.iconst (-1), 1) := by decide +kernel
theorem dX12_dominance_36 : decode cX12_dominance 36 = .ok (.goto 4, 3) := by decide +kernel
theorem dX12_dominance_39 : decode cX12_dominance 39 = .ok (.iconst 0, 1) := by decide +kernel
theorem dX12_dominance_40 : decode cX12_dominance 40 = .ok (.iadd, 1) := by decide +kernel
theorem dX12_dominance_41 : decode cX12_dominance 41 = .ok (.istore_n 2, 1) := by decide +kernel
theorem dX12_dominance_42 : decode cX12_dominance 42 = .ok (.iinc 3 1, 3) := by decide +kernel
theorem dX12_dominance_45 : decode cX12_dominance 45 = .ok (.goto (-41), 3) := by decide +kernel
theorem dX12_dominance_48 : decode cX12_dominance 48 = .ok (.iload_n 2, 1) := by decide +kernel
theorem dX12_dominance_49 : decode cX12_dominance 49 = .ok (.ireturn, 1) := by decide +kernel
theorem dX12_size_0 : decode cX12_size 0 = .ok (.iconst 0, 1) := by decide +kernel
theorem dX12_size_1 : decode cX12_size 1 = .ok (.istore_n 1, 1) := by decide +kernel
theorem dX12_size_2 : decode cX12_size 2 = .ok (.iconst 0, 1) := by decide +kernel
theorem dX12_size_3 : decode cX12_size 3 = .ok (.istore_n 2, 1) := by decide +kernel
theorem dX12_size_4 : decode cX12_size 4 = .ok (.iload_n 2, 1) := by decide +kernel
theorem dX12_size_5 : decode cX12_size 5 = .ok (.bipush 8, 2) := by decide +kernel
theorem dX12_size_7 : decode cX12_size 7 = .ok (.if_icmp .ge 17, 3) := by decide +kernel
theorem dX12_size_10 : decode cX12_size 10 = .ok (.iload_n 1, 1) := by decide +kernel
theorem dX12_size_11 : decode cX12_size 11 = .ok (.iload_n 0, 1) := by decide +kernel
theorem dX12_size_12 : decode cX12_size 12 = .ok (.iload_n 2, 1) := by decide +kernel
theorem dX12_size_13 : decode cX12_size 13 = .ok (.ishr, 1) := by decide +kernel
theorem dX12_size_14 : decode cX12_size 14 = .ok (.iconst 1, 1) := by decide +kernel
theorem dX12_size_15 : decode cX12_size 15 = .ok (.iand, 1) := by decide +kernel
theorem dX12_size_16 : decode cX12_size 16 = .ok (.iadd, 1) := by decide +kernel
theorem dX12_size_17 : decode cX12_size 17 = .ok (.istore_n 1, 1) := by decide +kernel
theorem dX12_size_18 : decode cX12_size 18 = .ok (.iinc 2 1, 3) := by decide +kernel
theorem dX12_size_21 : decode cX12_size 21 = .ok (.goto (-17), 3) := by decide +kernel
theorem dX12_size_24 : decode cX12_size 24 = .ok (.iload_n 1, 1) := by decide +kernel
theorem dX12_size_25 : decode cX12_size 25 = .ok (.ireturn, 1) := by decide +kernel
theorem dX12_isTop_0 : decode cX12_isTop 0 = .ok (.iload_n 1, 1) := by decide +kernel
theorem dX12_isTop_1 : decode cX12_isTop 1 = .ok (.ifCond .eq 15, 3) := by decide +kernel
theorem dX12_isTop_4 : decode cX12_isTop 4 = .ok (.iload_n 1, 1) := by decide +kernel
theorem dX12_isTop_5 : decode cX12_isTop 5 = .ok (.iload_n 2, 1) := by decide +kernel
theorem dX12_isTop_6 : decode cX12_isTop 6 = .ok (.iconst (-1), 1) := by decide +kernel
theorem dX12_isTop_7 : decode cX12_isTop 7 = .ok (.ixor, 1) := by decide +kernel
theorem dX12_isTop_8 : decode cX12_isTop 8 = .ok (.iand, 1) := by decide +kernel
theorem dX12_isTop_9 : decode cX12_isTop 9 = .ok (.ifCond .ne 7, 3) := by decide +kernel
theorem dX12_isTop_12 : decode cX12_isTop 12 = .ok (.iconst 1, 1) := by decide +kernel
theorem dX12_isTop_13 : decode cX12_isTop 13 = .ok (.goto 4, 3) := by decide +kernel
theorem dX12_isTop_16 : decode cX12_isTop 16 = .ok (.iconst 0, 1) := by decide +kernel
theorem dX12_isTop_17 : decode cX12_isTop 17 = .ok (.istore_n 3, 1) := by decide +kernel
theorem dX12_isTop_18 : decode cX12_isTop 18 = .ok (.iconst 0, 1) := by decide +kernel
theorem dX12_isTop_19 : decode cX12_isTop 19 = .ok (.istore 4, 2) := by decide +kernel
theorem dX12_isTop_21 : decode cX12_isTop 21 = .ok (.iload 4, 2) := by decide +kernel
theorem dX12_isTop_23 : decode cX12_isTop 23 = .ok (.aload_n 0, 1) := by decide +kernel
theorem dX12_isTop_24 : decode cX12_isTop 24 = .ok (.getfield 92, 3) := by decide +kernel
theorem dX12_isTop_27 : decode cX12_isTop 27 = .ok (.if_icmp .ge 87, 3) := by decide +kernel
theorem dX12_isTop_30 : decode cX12_isTop 30 = .ok (.iload_n 3, 1) := by decide +kernel
theorem dX12_isTop_31 : decode cX12_isTop 31 = .ok (.ifCond .eq 83, 3) := by decide +kernel
theorem dX12_isTop_34 : decode cX12_isTop 34 = .ok (.iconst 0, 1) := by decide +kernel
theorem dX12_isTop_35 : decode cX12_isTop 35 = .ok (.istore 5, 2) := by decide +kernel
theorem dX12_isTop_37 : decode cX12_isTop 37 = .ok (.iload 5, 2) := by decide +kernel
theorem dX12_isTop_39 : decode cX12_isTop 39 = .ok (.aload_n 0, 1) := by decide +kernel
theorem dX12_isTop_40 : decode cX12_isTop 40 = .ok (.getfield 92, 3) := by decide +kernel
theorem dX12_isTop_43 : decode cX12_isTop 43 = .ok (.if_icmp .ge 65, 3) := by decide +kernel
theorem dX12_isTop_46 : decode cX12_isTop 46 = .ok (.iload_n 1, 1) := by decide +kernel
theorem dX12_isTop_47 : decode cX12_isTop 47 = .ok (.iload 4, 2) := by decide +kernel
theorem dX12_isTop_49 : decode cX12_isTop 49 = .ok (.ishr, 1) := by decide +kernel
theorem dX12_isTop_50 : decode cX12_isTop 50 = .ok (.iconst 1, 1) := by decide +kernel
theorem dX12_isTop_51 : decode cX12_isTop 51 = .ok (.iand, 1) := by decide +kernel
theorem dX12_isTop_52 : decode cX12_isTop 52 = .ok (.iconst 1, 1) := by decide +kernel
theorem dX12_isTop_53 : decode cX12_isTop 53 = .ok (.if_icmp .ne 20, 3) := by decide +kernel
theorem dX12_isTop_56 : decode cX12_isTop 56 = .ok (.iload_n 2, 1) := by decide +kernel
theorem dX12_isTop_57 : decode cX12_isTop 57 = .ok (.iload_n 1, 1) := by decide +kernel
theorem dX12_isTop_58 : decode cX12_isTop 58 = .ok (.iconst (-1), 1) := by decide +kernel
theorem dX12_isTop_59 : decode cX12_isTop 59 = .ok (.ixor, 1) := by decide +kernel
theorem dX12_isTop_60 : decode cX12_isTop 60 = .ok (.iand, 1) := by decide +kernel
theorem dX12_isTop_61 : decode cX12_isTop 61 = .ok (.iconst 1, 1) := by decide +kernel
theorem dX12_isTop_62 : decode cX12_isTop 62 = .ok (.iload 5, 2) := by decide +kernel
theorem dX12_isTop_64 : decode cX12_isTop 64 = .ok (.ishl, 1) := by decide +kernel
theorem dX12_isTop_65 : decode cX12_isTop 65 = .ok (.iand, 1) := by decide +kernel
theorem dX12_isTop_66 : decode cX12_isTop 66 = .ok (.ifCond .eq 7, 3) := by decide +kernel
theorem dX12_isTop_69 : decode cX12_isTop 69 = .ok (.iconst 1, 1) := by decide +kernel
theorem dX12_isTop_70 : decode cX12_isTop 70 = .ok (.goto 4, 3) := by decide +kernel
theorem dX12_isTop_73 : decode cX12_isTop 73 = .ok (.iconst 0, 1) := by decide +kernel
theorem dX12_isTop_74 : decode cX12_isTop 74 = .ok (.istore 6, 2) := by decide +kernel
theorem dX12_isTop_76 : decode cX12_isTop 76 = .ok (.iload_n 3, 1) := by decide +kernel
theorem dX12_isTop_77 : decode cX12_isTop 77 = .ok (.ifCond .eq 23, 3) := by decide +kernel
theorem dX12_isTop_80 : decode cX12_isTop 80 = .ok (.iload 6, 2) := by decide +kernel
theorem dX12_isTop_82 : decode cX12_isTop 82 = .ok (.ifCond .eq 14, 3) := by decide +kernel
theorem dX12_isTop_85 : decode cX12_isTop 85 = .ok (.aload_n 0, 1) := by decide +kernel
theorem dX12_isTop_86 : decode cX12_isTop 86 = .ok (.iload 4, 2) := by decide +kernel
theorem dX12_isTop_88 : decode cX12_isTop 88 = .ok (.iload 5, 2) := by decide +kernel
theorem dX12_isTop_90 : decode cX12_isTop 90 = .ok (.invokevirtual 249, 3) := by decide +kernel
theorem dX12_isTop_93 : decode cX12_isTop 93 = .ok (.ifCond .eq 7, 3) := by decide +kernel
theorem dX12_isTop_96 : decode cX12_isTop 96 = .ok (.iconst 1, 1) := by decide +kernel
theorem dX12_isTop_97 : decode cX12_isTop 97 = .ok (.goto 4, 3) := by decide +kernel
theorem dX12_isTop_100 : decode cX12_isTop 100 = .ok (.iconst 0, 1) := by decide +kernel
theorem dX12_isTop_101 : decode cX12_isTop 101 = .ok (.istore_n 3, 1) := by decide +kernel
theorem dX12_isTop_102 : decode cX12_isTop 102 = .ok (.iinc 5 1, 3) := by decide +kernel
theorem dX12_isTop_105 : decode cX12_isTop 105 = .ok (.goto (-68), 3) := by decide +kernel
theorem dX12_isTop_108 : decode cX12_isTop 108 = .ok (.iinc 4 1, 3) := by decide +kernel
theorem dX12_isTop_111 : decode cX12_isTop 111 = .ok (.goto (-90), 3) := by decide +kernel
theorem dX12_isTop_114 : decode cX12_isTop 114 = .ok (.iload_n 3, 1) := by decide +kernel
theorem dX12_isTop_115 : decode cX12_isTop 115 = .ok (.ireturn, 1) := by decide +kernel
theorem dX12_topOf_0 : decode cX12_topOf 0 = .ok (.iload_n 1, 1) := by decide +kernel
theorem dX12_topOf_1 : decode cX12_topOf 1 = .ok (.istore_n 2, 1) := by decide +kernel
theorem dX12_topOf_2 : decode cX12_topOf 2 = .ok (.iconst 1, 1) := by decide +kernel
theorem dX12_topOf_3 : decode cX12_topOf 3 = .ok (.istore_n 3, 1) := by decide +kernel
theorem dX12_topOf_4 : decode cX12_topOf 4 = .ok (.iload_n 3, 1) := by decide +kernel
theorem dX12_topOf_5 : decode cX12_topOf 5 = .ok (.iconst 1, 1) := by decide +kernel
theorem dX12_topOf_6 : decode cX12_topOf 6 = .ok (.aload_n 0, 1) := by decide +kernel
theorem dX12_topOf_7 : decode cX12_topOf 7 = .ok (.getfield 92, 3) := by decide +kernel
theorem dX12_topOf_10 : decode cX12_topOf 10 = .ok (.ishl, 1) := by decide +kernel
theorem dX12_topOf_11 : decode cX12_topOf 11 = .ok (.if_icmp .ge 35, 3) := by decide +kernel
theorem dX12_topOf_14 : decode cX12_topOf 14 = .ok (.iload_n 3, 1) := by decide +kernel
theorem dX12_topOf_15 : decode cX12_topOf 15 = .ok (.invokestatic 253, 3) := by decide +kernel
theorem dX12_topOf_18 : decode cX12_topOf 18 = .ok (.iload_n 2, 1) := by decide +kernel
theorem dX12_topOf_19 : decode cX12_topOf 19 = .ok (.invokestatic 253, 3) := by decide +kernel
theorem dX12_topOf_22 : decode cX12_topOf 22 = .ok (.if_icmp .ge 16, 3) := by decide +kernel
theorem dX12_topOf_25 : decode cX12_topOf 25 = .ok (.aload_n 0, 1) := by decide +kernel
theorem dX12_topOf_26 : decode cX12_topOf 26 = .ok (.iload_n 3, 1) := by decide +kernel
theorem dX12_topOf_27 : decode cX12_topOf 27 = .ok (.iload_n 1, 1) := by decide +kernel
theorem dX12_topOf_28 : decode cX12_topOf 28 = .ok (.invokevirtual 256, 3) := by decide +kernel
theorem dX12_topOf_31 : decode cX12_topOf 31 = .ok (.ifCond .eq 7, 3) := by decide +kernel
theorem dX12_topOf_34 : decode cX12_topOf 34 = .ok (.iload_n 3, 1) := by decide +kernel
theorem dX12_topOf_35 : decode cX12_topOf 35 = .ok (.goto 4, 3) := by decide +kernel
theorem dX12_topOf_38 : decode cX12_topOf 38 = .ok (.iload_n 2, 1) := by decide +kernel
theorem dX12_topOf_39 : decode cX12_topOf 39 = .ok (.istore_n 2, 1) := by decide +kernel
theorem dX12_topOf_40 : decode cX12_topOf 40 = .ok (.iinc 3 1, 3) := by decide +kernel
theorem dX12_topOf_43 : decode cX12_topOf 43 = .ok (.goto (-39), 3) := by decide +kernel
theorem dX12_topOf_46 : decode cX12_topOf 46 = .ok (.iload_n 2, 1) := by decide +kernel
theorem dX12_topOf_47 : decode cX12_topOf 47 = .ok (.ireturn, 1) := by decide +kernel
theorem dX12_layerOf_0 : decode cX12_layerOf 0 = .ok (.iconst 1, 1) := by decide +kernel
theorem dX12_layerOf_1 : decode cX12_layerOf 1 = .ok (.aload_n 0, 1) := by decide +kernel
theorem dX12_layerOf_2 : decode cX12_layerOf 2 = .ok (.getfield 92, 3) := by decide +kernel
theorem dX12_layerOf_5 : decode cX12_layerOf 5 = .ok (.ishl, 1) := by decide +kernel
theorem dX12_layerOf_6 : decode cX12_layerOf 6 = .ok (.iconst 1, 1) := by decide +kernel
theorem dX12_layerOf_7 : decode cX12_layerOf 7 = .ok (.isub, 1) := by decide +kernel
theorem dX12_layerOf_8 : decode cX12_layerOf 8 = .ok (.istore_n 2, 1) := by decide +kernel
theorem dX12_layerOf_9 : decode cX12_layerOf 9 = .ok (.iconst 0, 1) := by decide +kernel
theorem dX12_layerOf_10 : decode cX12_layerOf 10 = .ok (.istore_n 3, 1) := by decide +kernel
theorem dX12_layerOf_11 : decode cX12_layerOf 11 = .ok (.iload_n 2, 1) := by decide +kernel
theorem dX12_layerOf_12 : decode cX12_layerOf 12 = .ok (.ifCond .eq 40, 3) := by decide +kernel
theorem dX12_layerOf_15 : decode cX12_layerOf 15 = .ok (.aload_n 0, 1) := by decide +kernel
theorem dX12_layerOf_16 : decode cX12_layerOf 16 = .ok (.iload_n 2, 1) := by decide +kernel
theorem dX12_layerOf_17 : decode cX12_layerOf 17 = .ok (.invokevirtual 259, 3) := by decide +kernel
theorem dX12_layerOf_20 : decode cX12_layerOf 20 = .ok (.istore 4, 2) := by decide +kernel
theorem dX12_layerOf_22 : decode cX12_layerOf 22 = .ok (.iload_n 1, 1) := by decide +kernel
theorem dX12_layerOf_23 : decode cX12_layerOf 23 = .ok (.iconst (-1), 1) := by decide +kernel
theorem dX12_layerOf_24 : decode cX12_layerOf 24 = .ok (.if_icmp .eq 15, 3) := by decide +kernel
theorem dX12_layerOf_27 : decode cX12_layerOf 27 = .ok (.iload 4, 2) := by decide +kernel
theorem dX12_layerOf_29 : decode cX12_layerOf 29 = .ok (.iload_n 1, 1) := by decide +kernel
theorem dX12_layerOf_30 : decode cX12_layerOf 30 = .ok (.ishr, 1) := by decide +kernel
theorem dX12_layerOf_31 : decode cX12_layerOf 31 = .ok (.iconst 1, 1) := by decide +kernel
theorem dX12_layerOf_32 : decode cX12_layerOf 32 = .ok (.iand, 1) := by decide +kernel
theorem dX12_layerOf_33 : decode cX12_layerOf 33 = .ok (.iconst 1, 1) := by decide +kernel
theorem dX12_layerOf_34 : decode cX12_layerOf 34 = .ok (.if_icmp .ne 5, 3) := by decide +kernel
theorem dX12_layerOf_37 : decode cX12_layerOf 37 = .ok (.iload_n 3, 1) := by decide +kernel
theorem dX12_layerOf_38 : decode cX12_layerOf 38 = .ok (.ireturn, 1) := by decide +kernel
theorem dX12_layerOf_39 : decode cX12_layerOf 39 = .ok (.iload_n 2, 1) := by decide +kernel
theorem dX12_layerOf_40 : decode cX12_layerOf 40 = .ok (.iload 4, 2) := by decide +kernel
theorem dX12_layerOf_42 : decode cX12_layerOf 42 = .ok (.iconst (-1), 1) := by decide +kernel
theorem dX12_layerOf_43 : decode cX12_layerOf 43 = .ok (.ixor, 1) := by decide +kernel
theorem dX12_layerOf_44 : decode cX12_layerOf 44 = .ok (.iand, 1) := by decide +kernel
theorem dX12_layerOf_45 : decode cX12_layerOf 45 = .ok (.istore_n 2, 1) := by decide +kernel
theorem dX12_layerOf_46 : decode cX12_layerOf 46 = .ok (.iinc 3 1, 3) := by decide +kernel
theorem dX12_layerOf_49 : decode cX12_layerOf 49 = .ok (.goto (-38), 3) := by decide +kernel
theorem dX12_layerOf_52 : decode cX12_layerOf 52 = .ok (.iload_n 3, 1) := by decide +kernel
theorem dX12_layerOf_53 : decode cX12_layerOf 53 = .ok (.ireturn, 1) := by decide +kernel
theorem dX12_costOf_0 : decode cX12_costOf 0 = .ok (.iconst 0, 1) := by decide +kernel
theorem dX12_costOf_1 : decode cX12_costOf 1 = .ok (.istore_n 3, 1) := by decide +kernel
theorem dX12_costOf_2 : decode cX12_costOf 2 = .ok (.iconst 0, 1) := by decide +kernel
theorem dX12_costOf_3 : decode cX12_costOf 3 = .ok (.istore 4, 2) := by decide +kernel
theorem dX12_costOf_5 : decode cX12_costOf 5 = .ok (.iload 4, 2) := by decide +kernel
theorem dX12_costOf_7 : decode cX12_costOf 7 = .ok (.aload_n 0, 1) := by decide +kernel
theorem dX12_costOf_8 : decode cX12_costOf 8 = .ok (.getfield 92, 3) := by decide +kernel
theorem dX12_costOf_11 : decode cX12_costOf 11 = .ok (.if_icmp .ge 48, 3) := by decide +kernel
theorem dX12_costOf_14 : decode cX12_costOf 14 = .ok (.iload_n 3, 1) := by decide +kernel
theorem dX12_costOf_15 : decode cX12_costOf 15 = .ok (.iload_n 2, 1) := by decide +kernel
theorem dX12_costOf_16 : decode cX12_costOf 16 = .ok (.iload 4, 2) := by decide +kernel
theorem dX12_costOf_18 : decode cX12_costOf 18 = .ok (.ishr, 1) := by decide +kernel
theorem dX12_costOf_19 : decode cX12_costOf 19 = .ok (.iconst 1, 1) := by decide +kernel
theorem dX12_costOf_20 : decode cX12_costOf 20 = .ok (.iand, 1) := by decide +kernel
theorem dX12_costOf_21 : decode cX12_costOf 21 = .ok (.iconst 1, 1) := by decide +kernel
theorem dX12_costOf_22 : decode cX12_costOf 22 = .ok (.if_icmp .ne 28, 3) := by decide +kernel
theorem dX12_costOf_25 : decode cX12_costOf 25 = .ok (.aload_n 0, 1) := by decide +kernel
theorem dX12_costOf_26 : decode cX12_costOf 26 = .ok (.iload 4, 2) := by decide +kernel
theorem dX12_costOf_28 : decode cX12_costOf 28 = .ok (.iload_n 1, 1) := by decide +kernel
theorem dX12_costOf_29 : decode cX12_costOf 29 = .ok (.invokevirtual 249, 3) := by decide +kernel
theorem dX12_costOf_32 : decode cX12_costOf 32 = .ok (.ifCond .eq 18, 3) := by decide +kernel
theorem dX12_costOf_35 : decode cX12_costOf 35 = .ok (.aload_n 0, 1) := by decide +kernel
theorem dX12_costOf_36 : decode cX12_costOf 36 = .ok (.getfield 56, 3) := by decide +kernel
theorem dX12_costOf_39 : decode cX12_costOf 39 = .ok (.bipush 8, 2) := by decide +kernel
theorem dX12_costOf_41 : decode cX12_costOf 41 = .ok (.iload 4, 2) := by decide +kernel
theorem dX12_costOf_43 : decode cX12_costOf 43 = .ok (.imul, 1) := by decide +kernel
theorem dX12_costOf_44 : decode cX12_costOf 44 = .ok (.iload_n 1, 1) := by decide +kernel
theorem dX12_costOf_45 : decode cX12_costOf 45 = .ok (.iadd, 1) := by decide +kernel
theorem dX12_costOf_46 : decode cX12_costOf 46 = .ok (.iaload, 1) := by decide +kernel
theorem dX12_costOf_47 : decode cX12_costOf 47 = .ok (.goto 4, 3) := by decide +kernel
theorem dX12_costOf_50 : decode cX12_costOf 50 = .ok (.iconst 0, 1) := by decide +kernel
theorem dX12_costOf_51 : decode cX12_costOf 51 = .ok (.iadd, 1) := by decide +kernel
theorem dX12_costOf_52 : decode cX12_costOf 52 = .ok (.istore_n 3, 1) := by decide +kernel
theorem dX12_costOf_53 : decode cX12_costOf 53 = .ok (.iinc 4 1, 3) := by decide +kernel
theorem dX12_costOf_56 : decode cX12_costOf 56 = .ok (.goto (-51), 3) := by decide +kernel
theorem dX12_costOf_59 : decode cX12_costOf 59 = .ok (.iload_n 3, 1) := by decide +kernel
theorem dX12_costOf_60 : decode cX12_costOf 60 = .ok (.ireturn, 1) := by decide +kernel
theorem dX12_costBy_0 : decode cX12_costBy 0 = .ok (.aload_n 0, 1) := by decide +kernel
theorem dX12_costBy_1 : decode cX12_costBy 1 = .ok (.iload_n 1, 1) := by decide +kernel
theorem dX12_costBy_2 : decode cX12_costBy 2 = .ok (.iload_n 2, 1) := by decide +kernel
theorem dX12_costBy_3 : decode cX12_costBy 3 = .ok (.iconst 1, 1) := by decide +kernel
theorem dX12_costBy_4 : decode cX12_costBy 4 = .ok (.iload_n 1, 1) := by decide +kernel
theorem dX12_costBy_5 : decode cX12_costBy 5 = .ok (.ishl, 1) := by decide +kernel
theorem dX12_costBy_6 : decode cX12_costBy 6 = .ok (.iconst (-1), 1) := by decide +kernel
theorem dX12_costBy_7 : decode cX12_costBy 7 = .ok (.ixor, 1) := by decide +kernel
theorem dX12_costBy_8 : decode cX12_costBy 8 = .ok (.iand, 1) := by decide +kernel
theorem dX12_costBy_9 : decode cX12_costBy 9 = .ok (.invokevirtual 262, 3) := by decide +kernel
theorem dX12_costBy_12 : decode cX12_costBy 12 = .ok (.aload_n 0, 1) := by decide +kernel
theorem dX12_costBy_13 : decode cX12_costBy 13 = .ok (.getfield 59, 3) := by decide +kernel
theorem dX12_costBy_16 : decode cX12_costBy 16 = .ok (.iload_n 2, 1) := by decide +kernel
theorem dX12_costBy_17 : decode cX12_costBy 17 = .ok (.iconst 1, 1) := by decide +kernel
theorem dX12_costBy_18 : decode cX12_costBy 18 = .ok (.iload_n 1, 1) := by decide +kernel
theorem dX12_costBy_19 : decode cX12_costBy 19 = .ok (.ishl, 1) := by decide +kernel
theorem dX12_costBy_20 : decode cX12_costBy 20 = .ok (.iconst (-1), 1) := by decide +kernel
theorem dX12_costBy_21 : decode cX12_costBy 21 = .ok (.ixor, 1) := by decide +kernel
theorem dX12_costBy_22 : decode cX12_costBy 22 = .ok (.iand, 1) := by decide +kernel
theorem dX12_costBy_23 : decode cX12_costBy 23 = .ok (.iaload, 1) := by decide +kernel
theorem dX12_costBy_24 : decode cX12_costBy 24 = .ok (.iadd, 1) := by decide +kernel
theorem dX12_costBy_25 : decode cX12_costBy 25 = .ok (.ireturn, 1) := by decide +kernel
theorem dX12_layOrders_0 : decode cX12_layOrders 0 = .ok (.aload_n 0, 1) := by decide +kernel
theorem dX12_layOrders_1 : decode cX12_layOrders 1 = .ok (.getfield 59, 3) := by decide +kernel
theorem dX12_layOrders_4 : decode cX12_layOrders 4 = .ok (.iconst 0, 1) := by decide +kernel
theorem dX12_layOrders_5 : decode cX12_layOrders 5 = .ok (.iconst 0, 1) := by decide +kernel
theorem dX12_layOrders_6 : decode cX12_layOrders 6 = .ok (.iastore, 1) := by decide +kernel
theorem dX12_layOrders_7 : decode cX12_layOrders 7 = .ok (.aload_n 0, 1) := by decide +kernel
theorem dX12_layOrders_8 : decode cX12_layOrders 8 = .ok (.getfield 62, 3) := by decide +kernel
theorem dX12_layOrders_11 : decode cX12_layOrders 11 = .ok (.iconst 0, 1) := by decide +kernel
theorem dX12_layOrders_12 : decode cX12_layOrders 12 = .ok (.iconst 1, 1) := by decide +kernel
theorem dX12_layOrders_13 : decode cX12_layOrders 13 = .ok (.iastore, 1) := by decide +kernel
theorem dX12_layOrders_14 : decode cX12_layOrders 14 = .ok (.iconst 1, 1) := by decide +kernel
theorem dX12_layOrders_15 : decode cX12_layOrders 15 = .ok (.istore_n 1, 1) := by decide +kernel
theorem dX12_layOrders_16 : decode cX12_layOrders 16 = .ok (.iload_n 1, 1) := by decide +kernel
theorem dX12_layOrders_17 : decode cX12_layOrders 17 = .ok (.iconst 1, 1) := by decide +kernel
theorem dX12_layOrders_18 : decode cX12_layOrders 18 = .ok (.aload_n 0, 1) := by decide +kernel
theorem dX12_layOrders_19 : decode cX12_layOrders 19 = .ok (.getfield 92, 3) := by decide +kernel
theorem dX12_layOrders_22 : decode cX12_layOrders 22 = .ok (.ishl, 1) := by decide +kernel
theorem dX12_layOrders_23 : decode cX12_layOrders 23 = .ok (.if_icmp .ge 139, 3) := by decide +kernel
theorem dX12_layOrders_26 : decode cX12_layOrders 26 = .ok (.aload_n 0, 1) := by decide +kernel
theorem dX12_layOrders_27 : decode cX12_layOrders 27 = .ok (.getfield 59, 3) := by decide +kernel
theorem dX12_layOrders_30 : decode cX12_layOrders 30 = .ok (.iload_n 1, 1) := by decide +kernel
theorem dX12_layOrders_31 : decode cX12_layOrders 31 = .ok (.ldc_w 265, 3) := by decide +kernel
theorem dX12_layOrders_34 : decode cX12_layOrders 34 = .ok (.iastore, 1) := by decide +kernel
theorem dX12_layOrders_35 : decode cX12_layOrders 35 = .ok (.iconst 0, 1) := by decide +kernel
theorem dX12_layOrders_36 : decode cX12_layOrders 36 = .ok (.istore_n 2, 1) := by decide +kernel
theorem dX12_layOrders_37 : decode cX12_layOrders 37 = .ok (.iload_n 2, 1) := by decide +kernel
theorem dX12_layOrders_38 : decode cX12_layOrders 38 = .ok (.aload_n 0, 1) := by decide +kernel
theorem dX12_layOrders_39 : decode cX12_layOrders 39 = .ok (.getfield 92, 3) := by decide +kernel
theorem dX12_layOrders_42 : decode cX12_layOrders 42 = .ok (.if_icmp .ge 114, 3) := by decide +kernel
theorem dX12_layOrders_45 : decode cX12_layOrders 45 = .ok (.iload_n 1, 1) := by decide +kernel
theorem dX12_layOrders_46 : decode cX12_layOrders 46 = .ok (.iload_n 2, 1) := by decide +kernel
theorem dX12_layOrders_47 : decode cX12_layOrders 47 = .ok (.ishr, 1) := by decide +kernel
theorem dX12_layOrders_48 : decode cX12_layOrders 48 = .ok (.iconst 1, 1) := by decide +kernel
theorem dX12_layOrders_49 : decode cX12_layOrders 49 = .ok (.iand, 1) := by decide +kernel
theorem dX12_layOrders_50 : decode cX12_layOrders 50 = .ok (.iconst 1, 1) := by decide +kernel
theorem dX12_layOrders_51 : decode cX12_layOrders 51 = .ok (.if_icmp .ne 99, 3) := by decide +kernel
theorem dX12_layOrders_54 : decode cX12_layOrders 54 = .ok (.aload_n 0, 1) := by decide +kernel
theorem dX12_layOrders_55 : decode cX12_layOrders 55 = .ok (.iload_n 2, 1) := by decide +kernel
theorem dX12_layOrders_56 : decode cX12_layOrders 56 = .ok (.iload_n 1, 1) := by decide +kernel
theorem dX12_layOrders_57 : decode cX12_layOrders 57 = .ok (.invokevirtual 266, 3) := by decide +kernel
theorem dX12_layOrders_60 : decode cX12_layOrders 60 = .ok (.istore_n 3, 1) := by decide +kernel
theorem dX12_layOrders_61 : decode cX12_layOrders 61 = .ok (.aload_n 0, 1) := by decide +kernel
theorem dX12_layOrders_62 : decode cX12_layOrders 62 = .ok (.getfield 62, 3) := by decide +kernel
theorem dX12_layOrders_65 : decode cX12_layOrders 65 = .ok (.iload_n 1, 1) := by decide +kernel
theorem dX12_layOrders_66 : decode cX12_layOrders 66 = .ok (.iconst 1, 1) := by decide +kernel
theorem dX12_layOrders_67 : decode cX12_layOrders 67 = .ok (.iload_n 2, 1) := by decide +kernel
theorem dX12_layOrders_68 : decode cX12_layOrders 68 = .ok (.ishl, 1) := by decide +kernel
theorem dX12_layOrders_69 : decode cX12_layOrders 69 = .ok (.iconst (-1), 1) := by decide +kernel
theorem dX12_layOrders_70 : decode cX12_layOrders 70 = .ok (.ixor, 1) := by decide +kernel
theorem dX12_layOrders_71 : decode cX12_layOrders 71 = .ok (.iand, 1) := by decide +kernel
theorem dX12_layOrders_72 : decode cX12_layOrders 72 = .ok (.iaload, 1) := by decide +kernel
theorem dX12_layOrders_73 : decode cX12_layOrders 73 = .ok (.istore 4, 2) := by decide +kernel
