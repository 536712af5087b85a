theorem dX12_layOrders_75 : decode cX12_layOrders 75 = .ok (.aload_n 0, 1) := by decide +kernel
theorem dX12_layOrders_76 : decode cX12_layOrders 76 = .ok (.getfield 62, 3) := by decide +kernel
theorem dX12_layOrders_79 : decode cX12_layOrders 79 = .ok (.iload_n 1, 1) := by decide +kernel
theorem dX12_layOrders_80 : decode cX12_layOrders 80 = .ok (.iload_n 3, 1) := by decide +kernel
theorem dX12_layOrders_81 : decode cX12_layOrders 81 = .ok (.aload_n 0, 1) := by decide +kernel
theorem dX12_layOrders_82 : decode cX12_layOrders 82 = .ok (.getfield 59, 3) := by decide +kernel
theorem dX12_layOrders_85 : decode cX12_layOrders 85 = .ok (.iload_n 1, 1) := by decide +kernel
theorem dX12_layOrders_86 : decode cX12_layOrders 86 = .ok (.iaload, 1) := by decide +kernel
theorem dX12_layOrders_87 : decode cX12_layOrders 87 = .ok (.if_icmp .ge 8, 3) := by decide +kernel
theorem dX12_layOrders_90 : decode cX12_layOrders 90 = .ok (.iload 4, 2) := by decide +kernel
theorem dX12_layOrders_92 : decode cX12_layOrders 92 = .ok (.goto 31, 3) := by decide +kernel
theorem dX12_layOrders_95 : decode cX12_layOrders 95 = .ok (.iload_n 3, 1) := by decide +kernel
theorem dX12_layOrders_96 : decode cX12_layOrders 96 = .ok (.aload_n 0, 1) := by decide +kernel
theorem dX12_layOrders_97 : decode cX12_layOrders 97 = .ok (.getfield 59, 3) := by decide +kernel
theorem dX12_layOrders_100 : decode cX12_layOrders 100 = .ok (.iload_n 1, 1) := by decide +kernel
theorem dX12_layOrders_101 : decode cX12_layOrders 101 = .ok (.iaload, 1) := by decide +kernel
theorem dX12_layOrders_102 : decode cX12_layOrders 102 = .ok (.if_icmp .ne 15, 3) := by decide +kernel
theorem dX12_layOrders_105 : decode cX12_layOrders 105 = .ok (.aload_n 0, 1) := by decide +kernel
theorem dX12_layOrders_106 : decode cX12_layOrders 106 = .ok (.getfield 62, 3) := by decide +kernel
theorem dX12_layOrders_109 : decode cX12_layOrders 109 = .ok (.iload_n 1, 1) := by decide +kernel
theorem dX12_layOrders_110 : decode cX12_layOrders 110 = .ok (.iaload, 1) := by decide +kernel
theorem dX12_layOrders_111 : decode cX12_layOrders 111 = .ok (.iload 4, 2) := by decide +kernel
theorem dX12_layOrders_113 : decode cX12_layOrders 113 = .ok (.iadd, 1) := by decide +kernel
theorem dX12_layOrders_114 : decode cX12_layOrders 114 = .ok (.goto 9, 3) := by decide +kernel
theorem dX12_layOrders_117 : decode cX12_layOrders 117 = .ok (.aload_n 0, 1) := by decide +kernel
theorem dX12_layOrders_118 : decode cX12_layOrders 118 = .ok (.getfield 62, 3) := by decide +kernel
theorem dX12_layOrders_121 : decode cX12_layOrders 121 = .ok (.iload_n 1, 1) := by decide +kernel
theorem dX12_layOrders_122 : decode cX12_layOrders 122 = .ok (.iaload, 1) := by decide +kernel
theorem dX12_layOrders_123 : decode cX12_layOrders 123 = .ok (.iastore, 1) := by decide +kernel
theorem dX12_layOrders_124 : decode cX12_layOrders 124 = .ok (.aload_n 0, 1) := by decide +kernel
theorem dX12_layOrders_125 : decode cX12_layOrders 125 = .ok (.getfield 59, 3) := by decide +kernel
theorem dX12_layOrders_128 : decode cX12_layOrders 128 = .ok (.iload_n 1, 1) := by decide +kernel
theorem dX12_layOrders_129 : decode cX12_layOrders 129 = .ok (.iload_n 3, 1) := by decide +kernel
theorem dX12_layOrders_130 : decode cX12_layOrders 130 = .ok (.aload_n 0, 1) := by decide +kernel
theorem dX12_layOrders_131 : decode cX12_layOrders 131 = .ok (.getfield 59, 3) := by decide +kernel
theorem dX12_layOrders_134 : decode cX12_layOrders 134 = .ok (.iload_n 1, 1) := by decide +kernel
theorem dX12_layOrders_135 : decode cX12_layOrders 135 = .ok (.iaload, 1) := by decide +kernel
theorem dX12_layOrders_136 : decode cX12_layOrders 136 = .ok (.if_icmp .ge 7, 3) := by decide +kernel
theorem dX12_layOrders_139 : decode cX12_layOrders 139 = .ok (.iload_n 3, 1) := by decide +kernel
theorem dX12_layOrders_140 : decode cX12_layOrders 140 = .ok (.goto 9, 3) := by decide +kernel
theorem dX12_layOrders_143 : decode cX12_layOrders 143 = .ok (.aload_n 0, 1) := by decide +kernel
theorem dX12_layOrders_144 : decode cX12_layOrders 144 = .ok (.getfield 59, 3) := by decide +kernel
theorem dX12_layOrders_147 : decode cX12_layOrders 147 = .ok (.iload_n 1, 1) := by decide +kernel
theorem dX12_layOrders_148 : decode cX12_layOrders 148 = .ok (.iaload, 1) := by decide +kernel
theorem dX12_layOrders_149 : decode cX12_layOrders 149 = .ok (.iastore, 1) := by decide +kernel
theorem dX12_layOrders_150 : decode cX12_layOrders 150 = .ok (.iinc 2 1, 3) := by decide +kernel
theorem dX12_layOrders_153 : decode cX12_layOrders 153 = .ok (.goto (-116), 3) := by decide +kernel
theorem dX12_layOrders_156 : decode cX12_layOrders 156 = .ok (.iinc 1 1, 3) := by decide +kernel
theorem dX12_layOrders_159 : decode cX12_layOrders 159 = .ok (.goto (-143), 3) := by decide +kernel
theorem dX12_layOrders_162 : decode cX12_layOrders 162 = .ok (.return_, 1) := by decide +kernel
theorem dX12_at_0 : decode cX12_at 0 = .ok (.iconst 1, 1) := by decide +kernel
theorem dX12_at_1 : decode cX12_at 1 = .ok (.aload_n 0, 1) := by decide +kernel
theorem dX12_at_2 : decode cX12_at 2 = .ok (.getfield 92, 3) := by decide +kernel
theorem dX12_at_5 : decode cX12_at 5 = .ok (.ishl, 1) := by decide +kernel
theorem dX12_at_6 : decode cX12_at 6 = .ok (.iconst 1, 1) := by decide +kernel
theorem dX12_at_7 : decode cX12_at 7 = .ok (.isub, 1) := by decide +kernel
theorem dX12_at_8 : decode cX12_at 8 = .ok (.istore_n 2, 1) := by decide +kernel
theorem dX12_at_9 : decode cX12_at 9 = .ok (.iconst 0, 1) := by decide +kernel
theorem dX12_at_10 : decode cX12_at 10 = .ok (.istore_n 3, 1) := by decide +kernel
theorem dX12_at_11 : decode cX12_at 11 = .ok (.iconst 0, 1) := by decide +kernel
theorem dX12_at_12 : decode cX12_at 12 = .ok (.istore 4, 2) := by decide +kernel
theorem dX12_at_14 : decode cX12_at 14 = .ok (.iload 4, 2) := by decide +kernel
theorem dX12_at_16 : decode cX12_at 16 = .ok (.iload_n 1, 1) := by decide +kernel
theorem dX12_at_17 : decode cX12_at 17 = .ok (.if_icmp .gt 48, 3) := by decide +kernel
theorem dX12_at_20 : decode cX12_at 20 = .ok (.iconst 0, 1) := by decide +kernel
theorem dX12_at_21 : decode cX12_at 21 = .ok (.istore_n 3, 1) := by decide +kernel
theorem dX12_at_22 : decode cX12_at 22 = .ok (.iload_n 2, 1) := by decide +kernel
theorem dX12_at_23 : decode cX12_at 23 = .ok (.iload_n 3, 1) := by decide +kernel
theorem dX12_at_24 : decode cX12_at 24 = .ok (.ishr, 1) := by decide +kernel
theorem dX12_at_25 : decode cX12_at 25 = .ok (.iconst 1, 1) := by decide +kernel
theorem dX12_at_26 : decode cX12_at 26 = .ok (.iand, 1) := by decide +kernel
theorem dX12_at_27 : decode cX12_at 27 = .ok (.ifCond .eq 18, 3) := by decide +kernel
theorem dX12_at_30 : decode cX12_at 30 = .ok (.aload_n 0, 1) := by decide +kernel
theorem dX12_at_31 : decode cX12_at 31 = .ok (.iload_n 3, 1) := by decide +kernel
theorem dX12_at_32 : decode cX12_at 32 = .ok (.iload_n 2, 1) := by decide +kernel
theorem dX12_at_33 : decode cX12_at 33 = .ok (.invokevirtual 266, 3) := by decide +kernel
theorem dX12_at_36 : decode cX12_at 36 = .ok (.aload_n 0, 1) := by decide +kernel
theorem dX12_at_37 : decode cX12_at 37 = .ok (.getfield 59, 3) := by decide +kernel
theorem dX12_at_40 : decode cX12_at 40 = .ok (.iload_n 2, 1) := by decide +kernel
theorem dX12_at_41 : decode cX12_at 41 = .ok (.iaload, 1) := by decide +kernel
theorem dX12_at_42 : decode cX12_at 42 = .ok (.if_icmp .eq 9, 3) := by decide +kernel
theorem dX12_at_45 : decode cX12_at 45 = .ok (.iinc 3 1, 3) := by decide +kernel
theorem dX12_at_48 : decode cX12_at 48 = .ok (.goto (-26), 3) := by decide +kernel
theorem dX12_at_51 : decode cX12_at 51 = .ok (.iload_n 2, 1) := by decide +kernel
theorem dX12_at_52 : decode cX12_at 52 = .ok (.iconst 1, 1) := by decide +kernel
theorem dX12_at_53 : decode cX12_at 53 = .ok (.iload_n 3, 1) := by decide +kernel
theorem dX12_at_54 : decode cX12_at 54 = .ok (.ishl, 1) := by decide +kernel
theorem dX12_at_55 : decode cX12_at 55 = .ok (.iconst (-1), 1) := by decide +kernel
theorem dX12_at_56 : decode cX12_at 56 = .ok (.ixor, 1) := by decide +kernel
theorem dX12_at_57 : decode cX12_at 57 = .ok (.iand, 1) := by decide +kernel
theorem dX12_at_58 : decode cX12_at 58 = .ok (.istore_n 2, 1) := by decide +kernel
theorem dX12_at_59 : decode cX12_at 59 = .ok (.iinc 4 1, 3) := by decide +kernel
theorem dX12_at_62 : decode cX12_at 62 = .ok (.goto (-48), 3) := by decide +kernel
theorem dX12_at_65 : decode cX12_at 65 = .ok (.iload_n 3, 1) := by decide +kernel
theorem dX12_at_66 : decode cX12_at 66 = .ok (.ireturn, 1) := by decide +kernel
theorem dX12_placeOf_0 : decode cX12_placeOf 0 = .ok (.iconst 0, 1) := by decide +kernel
theorem dX12_placeOf_1 : decode cX12_placeOf 1 = .ok (.istore_n 2, 1) := by decide +kernel
theorem dX12_placeOf_2 : decode cX12_placeOf 2 = .ok (.aload_n 0, 1) := by decide +kernel
theorem dX12_placeOf_3 : decode cX12_placeOf 3 = .ok (.iload_n 2, 1) := by decide +kernel
theorem dX12_placeOf_4 : decode cX12_placeOf 4 = .ok (.invokevirtual 269, 3) := by decide +kernel
theorem dX12_placeOf_7 : decode cX12_placeOf 7 = .ok (.iload_n 1, 1) := by decide +kernel
theorem dX12_placeOf_8 : decode cX12_placeOf 8 = .ok (.if_icmp .eq 9, 3) := by decide +kernel
theorem dX12_placeOf_11 : decode cX12_placeOf 11 = .ok (.iinc 2 1, 3) := by decide +kernel
theorem dX12_placeOf_14 : decode cX12_placeOf 14 = .ok (.goto (-12), 3) := by decide +kernel
theorem dX12_placeOf_17 : decode cX12_placeOf 17 = .ok (.iload_n 2, 1) := by decide +kernel
theorem dX12_placeOf_18 : decode cX12_placeOf 18 = .ok (.ireturn, 1) := by decide +kernel
theorem dX12_sampleNow_0 : decode cX12_sampleNow 0 = .ok (.aload_n 0, 1) := by decide +kernel
theorem dX12_sampleNow_1 : decode cX12_sampleNow 1 = .ok (.invokevirtual 272, 3) := by decide +kernel
theorem dX12_sampleNow_4 : decode cX12_sampleNow 4 = .ok (.aload_n 0, 1) := by decide +kernel
theorem dX12_sampleNow_5 : decode cX12_sampleNow 5 = .ok (.invokevirtual 275, 3) := by decide +kernel
theorem dX12_sampleNow_8 : decode cX12_sampleNow 8 = .ok (.iload_n 2, 1) := by decide +kernel
theorem dX12_sampleNow_9 : decode cX12_sampleNow 9 = .ok (.tableswitch 75 0 4 #[35, 42, 49, 63, 69], 35) := by decide +kernel
theorem dX12_sampleNow_44 : decode cX12_sampleNow 44 = .ok (.aload_n 0, 1) := by decide +kernel
theorem dX12_sampleNow_45 : decode cX12_sampleNow 45 = .ok (.iload_n 1, 1) := by decide +kernel
theorem dX12_sampleNow_46 : decode cX12_sampleNow 46 = .ok (.iconst (-1), 1) := by decide +kernel
theorem dX12_sampleNow_47 : decode cX12_sampleNow 47 = .ok (.invokevirtual 243, 3) := by decide +kernel
theorem dX12_sampleNow_50 : decode cX12_sampleNow 50 = .ok (.ireturn, 1) := by decide +kernel
theorem dX12_sampleNow_51 : decode cX12_sampleNow 51 = .ok (.aload_n 0, 1) := by decide +kernel
theorem dX12_sampleNow_52 : decode cX12_sampleNow 52 = .ok (.iload_n 1, 1) := by decide +kernel
theorem dX12_sampleNow_53 : decode cX12_sampleNow 53 = .ok (.iconst (-1), 1) := by decide +kernel
theorem dX12_sampleNow_54 : decode cX12_sampleNow 54 = .ok (.invokevirtual 246, 3) := by decide +kernel
theorem dX12_sampleNow_57 : decode cX12_sampleNow 57 = .ok (.ireturn, 1) := by decide +kernel
theorem dX12_sampleNow_58 : decode cX12_sampleNow 58 = .ok (.aload_n 0, 1) := by decide +kernel
theorem dX12_sampleNow_59 : decode cX12_sampleNow 59 = .ok (.iload_n 1, 1) := by decide +kernel
theorem dX12_sampleNow_60 : decode cX12_sampleNow 60 = .ok (.invokevirtual 278, 3) := by decide +kernel
theorem dX12_sampleNow_63 : decode cX12_sampleNow 63 = .ok (.ifCond .eq 7, 3) := by decide +kernel
theorem dX12_sampleNow_66 : decode cX12_sampleNow 66 = .ok (.iconst 1, 1) := by decide +kernel
theorem dX12_sampleNow_67 : decode cX12_sampleNow 67 = .ok (.goto 4, 3) := by decide +kernel
theorem dX12_sampleNow_70 : decode cX12_sampleNow 70 = .ok (.iconst 0, 1) := by decide +kernel
theorem dX12_sampleNow_71 : decode cX12_sampleNow 71 = .ok (.ireturn, 1) := by decide +kernel
theorem dX12_sampleNow_72 : decode cX12_sampleNow 72 = .ok (.aload_n 0, 1) := by decide +kernel
theorem dX12_sampleNow_73 : decode cX12_sampleNow 73 = .ok (.iload_n 1, 1) := by decide +kernel
theorem dX12_sampleNow_74 : decode cX12_sampleNow 74 = .ok (.invokevirtual 281, 3) := by decide +kernel
theorem dX12_sampleNow_77 : decode cX12_sampleNow 77 = .ok (.ireturn, 1) := by decide +kernel
theorem dX12_sampleNow_78 : decode cX12_sampleNow 78 = .ok (.aload_n 0, 1) := by decide +kernel
theorem dX12_sampleNow_79 : decode cX12_sampleNow 79 = .ok (.iload_n 1, 1) := by decide +kernel
theorem dX12_sampleNow_80 : decode cX12_sampleNow 80 = .ok (.invokevirtual 284, 3) := by decide +kernel
theorem dX12_sampleNow_83 : decode cX12_sampleNow 83 = .ok (.ireturn, 1) := by decide +kernel
theorem dX12_sampleNow_84 : decode cX12_sampleNow 84 = .ok (.aload_n 0, 1) := by decide +kernel
theorem dX12_sampleNow_85 : decode cX12_sampleNow 85 = .ok (.iload_n 1, 1) := by decide +kernel
theorem dX12_sampleNow_86 : decode cX12_sampleNow 86 = .ok (.invokevirtual 287, 3) := by decide +kernel
theorem dX12_sampleNow_89 : decode cX12_sampleNow 89 = .ok (.ireturn, 1) := by decide +kernel
theorem dX12_sample_0 : decode cX12_sample 0 = .ok (.aload_n 0, 1) := by decide +kernel
theorem dX12_sample_1 : decode cX12_sample 1 = .ok (.aload_n 0, 1) := by decide +kernel
theorem dX12_sample_2 : decode cX12_sample 2 = .ok (.iload_n 1, 1) := by decide +kernel
theorem dX12_sample_3 : decode cX12_sample 3 = .ok (.invokevirtual 151, 3) := by decide +kernel
theorem dX12_sample_6 : decode cX12_sample 6 = .ok (.ifCond .ne 7, 3) := by decide +kernel
theorem dX12_sample_9 : decode cX12_sample 9 = .ok (.iconst 1, 1) := by decide +kernel
theorem dX12_sample_10 : decode cX12_sample 10 = .ok (.goto 17, 3) := by decide +kernel
theorem dX12_sample_13 : decode cX12_sample 13 = .ok (.iload_n 2, 1) := by decide +kernel
theorem dX12_sample_14 : decode cX12_sample 14 = .ok (.iconst 0, 1) := by decide +kernel
theorem dX12_sample_15 : decode cX12_sample 15 = .ok (.iconst 5, 1) := by decide +kernel
theorem dX12_sample_16 : decode cX12_sample 16 = .ok (.invokestatic 95, 3) := by decide +kernel
theorem dX12_sample_19 : decode cX12_sample 19 = .ok (.ifCond .eq 7, 3) := by decide +kernel
theorem dX12_sample_22 : decode cX12_sample 22 = .ok (.iconst 0, 1) := by decide +kernel
theorem dX12_sample_23 : decode cX12_sample 23 = .ok (.goto 4, 3) := by decide +kernel
theorem dX12_sample_26 : decode cX12_sample 26 = .ok (.iconst 2, 1) := by decide +kernel
theorem dX12_sample_27 : decode cX12_sample 27 = .ok (.putfield 89, 3) := by decide +kernel
theorem dX12_sample_30 : decode cX12_sample 30 = .ok (.aload_n 0, 1) := by decide +kernel
theorem dX12_sample_31 : decode cX12_sample 31 = .ok (.getfield 89, 3) := by decide +kernel
theorem dX12_sample_34 : decode cX12_sample 34 = .ok (.ifCond .le 7, 3) := by decide +kernel
theorem dX12_sample_37 : decode cX12_sample 37 = .ok (.iconst 0, 1) := by decide +kernel
theorem dX12_sample_38 : decode cX12_sample 38 = .ok (.goto 9, 3) := by decide +kernel
theorem dX12_sample_41 : decode cX12_sample 41 = .ok (.aload_n 0, 1) := by decide +kernel
theorem dX12_sample_42 : decode cX12_sample 42 = .ok (.iload_n 1, 1) := by decide +kernel
theorem dX12_sample_43 : decode cX12_sample 43 = .ok (.iload_n 2, 1) := by decide +kernel
theorem dX12_sample_44 : decode cX12_sample 44 = .ok (.invokevirtual 290, 3) := by decide +kernel
theorem dX12_sample_47 : decode cX12_sample 47 = .ok (.ireturn, 1) := by decide +kernel
theorem dX12_order_0 : decode cX12_order 0 = .ok (.aload_n 0, 1) := by decide +kernel
theorem dX12_order_1 : decode cX12_order 1 = .ok (.aload_n 0, 1) := by decide +kernel
theorem dX12_order_2 : decode cX12_order 2 = .ok (.iload_n 1, 1) := by decide +kernel
theorem dX12_order_3 : decode cX12_order 3 = .ok (.invokevirtual 151, 3) := by decide +kernel
theorem dX12_order_6 : decode cX12_order 6 = .ok (.ifCond .eq 7, 3) := by decide +kernel
theorem dX12_order_9 : decode cX12_order 9 = .ok (.iconst 0, 1) := by decide +kernel
theorem dX12_order_10 : decode cX12_order 10 = .ok (.goto 4, 3) := by decide +kernel
theorem dX12_order_13 : decode cX12_order 13 = .ok (.iconst 1, 1) := by decide +kernel
theorem dX12_order_14 : decode cX12_order 14 = .ok (.putfield 89, 3) := by decide +kernel
theorem dX12_order_17 : decode cX12_order 17 = .ok (.aload_n 0, 1) := by decide +kernel
theorem dX12_order_18 : decode cX12_order 18 = .ok (.getfield 89, 3) := by decide +kernel
theorem dX12_order_21 : decode cX12_order 21 = .ok (.ifCond .le 5, 3) := by decide +kernel
theorem dX12_order_24 : decode cX12_order 24 = .ok (.iconst 0, 1) := by decide +kernel
theorem dX12_order_25 : decode cX12_order 25 = .ok (.ireturn, 1) := by decide +kernel
theorem dX12_order_26 : decode cX12_order 26 = .ok (.aload_n 0, 1) := by decide +kernel
theorem dX12_order_27 : decode cX12_order 27 = .ok (.invokevirtual 272, 3) := by decide +kernel
theorem dX12_order_30 : decode cX12_order 30 = .ok (.aload_n 0, 1) := by decide +kernel
theorem dX12_order_31 : decode cX12_order 31 = .ok (.invokevirtual 275, 3) := by decide +kernel
theorem dX12_order_34 : decode cX12_order 34 = .ok (.aload_n 0, 1) := by decide +kernel
theorem dX12_order_35 : decode cX12_order 35 = .ok (.iload_n 1, 1) := by decide +kernel
theorem dX12_order_36 : decode cX12_order 36 = .ok (.invokevirtual 269, 3) := by decide +kernel
theorem dX12_order_39 : decode cX12_order 39 = .ok (.ireturn, 1) := by decide +kernel
theorem dX12_goesAhead_0 : decode cX12_goesAhead 0 = .ok (.iload_n 1, 1) := by decide +kernel
theorem dX12_goesAhead_1 : decode cX12_goesAhead 1 = .ok (.iconst (-1), 1) := by decide +kernel
theorem dX12_goesAhead_2 : decode cX12_goesAhead 2 = .ok (.if_icmp .ne 12, 3) := by decide +kernel
theorem dX12_goesAhead_5 : decode cX12_goesAhead 5 = .ok (.aload_n 0, 1) := by decide +kernel
theorem dX12_goesAhead_6 : decode cX12_goesAhead 6 = .ok (.iload_n 2, 1) := by decide +kernel
theorem dX12_goesAhead_7 : decode cX12_goesAhead 7 = .ok (.iload_n 3, 1) := by decide +kernel
theorem dX12_goesAhead_8 : decode cX12_goesAhead 8 = .ok (.invokevirtual 249, 3) := by decide +kernel
theorem dX12_goesAhead_11 : decode cX12_goesAhead 11 = .ok (.goto 10, 3) := by decide +kernel
theorem dX12_goesAhead_14 : decode cX12_goesAhead 14 = .ok (.aload_n 0, 1) := by decide +kernel
theorem dX12_goesAhead_15 : decode cX12_goesAhead 15 = .ok (.iload_n 1, 1) := by decide +kernel
theorem dX12_goesAhead_16 : decode cX12_goesAhead 16 = .ok (.iload_n 2, 1) := by decide +kernel
theorem dX12_goesAhead_17 : decode cX12_goesAhead 17 = .ok (.iload_n 3, 1) := by decide +kernel
theorem dX12_goesAhead_18 : decode cX12_goesAhead 18 = .ok (.invokevirtual 224, 3) := by decide +kernel
theorem dX12_goesAhead_21 : decode cX12_goesAhead 21 = .ok (.ireturn, 1) := by decide +kernel
theorem dX12_isRound_0 : decode cX12_isRound 0 = .ok (.aload_n 0, 1) := by decide +kernel
theorem dX12_isRound_1 : decode cX12_isRound 1 = .ok (.iload_n 1, 1) := by decide +kernel
theorem dX12_isRound_2 : decode cX12_isRound 2 = .ok (.iload_n 2, 1) := by decide +kernel
theorem dX12_isRound_3 : decode cX12_isRound 3 = .ok (.iload_n 3, 1) := by decide +kernel
theorem dX12_isRound_4 : decode cX12_isRound 4 = .ok (.invokevirtual 293, 3) := by decide +kernel
theorem dX12_isRound_7 : decode cX12_isRound 7 = .ok (.ifCond .eq 29, 3) := by decide +kernel
theorem dX12_isRound_10 : decode cX12_isRound 10 = .ok (.aload_n 0, 1) := by decide +kernel
theorem dX12_isRound_11 : decode cX12_isRound 11 = .ok (.iload_n 1, 1) := by decide +kernel
theorem dX12_isRound_12 : decode cX12_isRound 12 = .ok (.iload_n 3, 1) := by decide +kernel
theorem dX12_isRound_13 : decode cX12_isRound 13 = .ok (.iload 4, 2) := by decide +kernel
theorem dX12_isRound_15 : decode cX12_isRound 15 = .ok (.invokevirtual 293, 3) := by decide +kernel
theorem dX12_isRound_18 : decode cX12_isRound 18 = .ok (.ifCond .eq 18, 3) := by decide +kernel
theorem dX12_isRound_21 : decode cX12_isRound 21 = .ok (.aload_n 0, 1) := by decide +kernel
theorem dX12_isRound_22 : decode cX12_isRound 22 = .ok (.iload_n 1, 1) := by decide +kernel
theorem dX12_isRound_23 : decode cX12_isRound 23 = .ok (.iload 4, 2) := by decide +kernel
theorem dX12_isRound_25 : decode cX12_isRound 25 = .ok (.iload_n 2, 1) := by decide +kernel
theorem dX12_isRound_26 : decode cX12_isRound 26 = .ok (.invokevirtual 293, 3) := by decide +kernel
theorem dX12_isRound_29 : decode cX12_isRound 29 = .ok (.ifCond .eq 7, 3) := by decide +kernel
theorem dX12_isRound_32 : decode cX12_isRound 32 = .ok (.iconst 1, 1) := by decide +kernel
theorem dX12_isRound_33 : decode cX12_isRound 33 = .ok (.goto 4, 3) := by decide +kernel
theorem dX12_isRound_36 : decode cX12_isRound 36 = .ok (.iconst 0, 1) := by decide +kernel
theorem dX12_isRound_37 : decode cX12_isRound 37 = .ok (.ireturn, 1) := by decide +kernel
theorem dX12_ringsOf_0 : decode cX12_ringsOf 0 = .ok (.iconst 0, 1) := by decide +kernel
theorem dX12_ringsOf_1 : decode cX12_ringsOf 1 = .ok (.istore_n 2, 1) := by decide +kernel
theorem dX12_ringsOf_2 : decode cX12_ringsOf 2 = .ok (.iconst 0, 1) := by decide +kernel
theorem dX12_ringsOf_3 : decode cX12_ringsOf 3 = .ok (.istore_n 3, 1) := by decide +kernel
theorem dX12_ringsOf_4 : decode cX12_ringsOf 4 = .ok (.iload_n 3, 1) := by decide +kernel
theorem dX12_ringsOf_5 : decode cX12_ringsOf 5 = .ok (.aload_n 0, 1) := by decide +kernel
theorem dX12_ringsOf_6 : decode cX12_ringsOf 6 = .ok (.getfield 92, 3) := by decide +kernel
theorem dX12_ringsOf_9 : decode cX12_ringsOf 9 = .ok (.if_icmp .ge 84, 3) := by decide +kernel
theorem dX12_ringsOf_12 : decode cX12_ringsOf 12 = .ok (.iload_n 3, 1) := by decide +kernel
theorem dX12_ringsOf_13 : decode cX12_ringsOf 13 = .ok (.iconst 1, 1) := by decide +kernel
theorem dX12_ringsOf_14 : decode cX12_ringsOf 14 = .ok (.iadd, 1) := by decide +kernel
theorem dX12_ringsOf_15 : decode cX12_ringsOf 15 = .ok (.istore 4, 2) := by decide +kernel
theorem dX12_ringsOf_17 : decode cX12_ringsOf 17 = .ok (.iload 4, 2) := by decide +kernel
theorem dX12_ringsOf_19 : decode cX12_ringsOf 19 = .ok (.aload_n 0, 1) := by decide +kernel
theorem dX12_ringsOf_20 : decode cX12_ringsOf 20 = .ok (.getfield 92, 3) := by decide +kernel
theorem dX12_ringsOf_23 : decode cX12_ringsOf 23 = .ok (.if_icmp .ge 64, 3) := by decide +kernel
theorem dX12_ringsOf_26 : decode cX12_ringsOf 26 = .ok (.iload 4, 2) := by decide +kernel
theorem dX12_ringsOf_28 : decode cX12_ringsOf 28 = .ok (.iconst 1, 1) := by decide +kernel
theorem dX12_ringsOf_29 : decode cX12_ringsOf 29 = .ok (.iadd, 1) := by decide +kernel
theorem dX12_ringsOf_30 : decode cX12_ringsOf 30 = .ok (.istore 5, 2) := by decide +kernel
theorem dX12_ringsOf_32 : decode cX12_ringsOf 32 = .ok (.iload 5, 2) := by decide +kernel
theorem dX12_ringsOf_34 : decode cX12_ringsOf 34 = .ok (.aload_n 0, 1) := by decide +kernel
theorem dX12_ringsOf_35 : decode cX12_ringsOf 35 = .ok (.getfield 92, 3) := by decide +kernel
theorem dX12_ringsOf_38 : decode cX12_ringsOf 38 = .ok (.if_icmp .ge 43, 3) := by decide +kernel
theorem dX12_ringsOf_41 : decode cX12_ringsOf 41 = .ok (.iload_n 2, 1) := by decide +kernel
theorem dX12_ringsOf_42 : decode cX12_ringsOf 42 = .ok (.aload_n 0, 1) := by decide +kernel
theorem dX12_ringsOf_43 : decode cX12_ringsOf 43 = .ok (.iload_n 1, 1) := by decide +kernel
theorem dX12_ringsOf_44 : decode cX12_ringsOf 44 = .ok (.iload_n 3, 1) := by decide +kernel
theorem dX12_ringsOf_45 : decode cX12_ringsOf 45 = .ok (.iload 4, 2) := by decide +kernel
theorem dX12_ringsOf_47 : decode cX12_ringsOf 47 = .ok (.iload 5, 2) := by decide +kernel
theorem dX12_ringsOf_49 : decode cX12_ringsOf 49 = .ok (.invokevirtual 296, 3) := by decide +kernel
theorem dX12_ringsOf_52 : decode cX12_ringsOf 52 = .ok (.ifCond .ne 16, 3) := by decide +kernel
theorem dX12_ringsOf_55 : decode cX12_ringsOf 55 = .ok (.aload_n 0, 1) := by decide +kernel
theorem dX12_ringsOf_56 : decode cX12_ringsOf 56 = .ok (.iload_n 1, 1) := by decide +kernel
theorem dX12_ringsOf_57 : decode cX12_ringsOf 57 = .ok (.iload 5, 2) := by decide +kernel
theorem dX12_ringsOf_59 : decode cX12_ringsOf 59 = .ok (.iload 4, 2) := by decide +kernel
theorem dX12_ringsOf_61 : decode cX12_ringsOf 61 = .ok (.iload_n 3, 1) := by decide +kernel
theorem dX12_ringsOf_62 : decode cX12_ringsOf 62 = .ok (.invokevirtual 296, 3) := by decide +kernel
theorem dX12_ringsOf_65 : decode cX12_ringsOf 65 = .ok (.ifCond .eq 7, 3) := by decide +kernel
theorem dX12_ringsOf_68 : decode cX12_ringsOf 68 = .ok (.iconst 1, 1) := by decide +kernel
theorem dX12_ringsOf_69 : decode cX12_ringsOf 69 = .ok (.goto 4, 3) := by decide +kernel
theorem dX12_ringsOf_72 : decode cX12_ringsOf 72 = .ok (.iconst 0, 1) := by decide +kernel
theorem dX12_ringsOf_73 : decode cX12_ringsOf 73 = .ok (.iadd, 1) := by decide +kernel
theorem dX12_ringsOf_74 : decode cX12_ringsOf 74 = .ok (.istore_n 2, 1) := by decide +kernel
theorem dX12_ringsOf_75 : decode cX12_ringsOf 75 = .ok (.iinc 5 1, 3) := by decide +kernel
theorem dX12_ringsOf_78 : decode cX12_ringsOf 78 = .ok (.goto (-46), 3) := by decide +kernel
theorem dX12_ringsOf_81 : decode cX12_ringsOf 81 = .ok (.iinc 4 1, 3) := by decide +kernel
theorem dX12_ringsOf_84 : decode cX12_ringsOf 84 = .ok (.goto (-67), 3) := by decide +kernel
theorem dX12_ringsOf_87 : decode cX12_ringsOf 87 = .ok (.iinc 3 1, 3) := by decide +kernel
theorem dX12_ringsOf_90 : decode cX12_ringsOf 90 = .ok (.goto (-86), 3) := by decide +kernel
theorem dX12_ringsOf_93 : decode cX12_ringsOf 93 = .ok (.iload_n 2, 1) := by decide +kernel
theorem dX12_ringsOf_94 : decode cX12_ringsOf 94 = .ok (.ireturn, 1) := by decide +kernel
theorem dX12_stables_0 : decode cX12_stables 0 = .ok (.iconst 0, 1) := by decide +kernel
theorem dX12_stables_1 : decode cX12_stables 1 = .ok (.istore_n 1, 1) := by decide +kernel
theorem dX12_stables_2 : decode cX12_stables 2 = .ok (.iconst 0, 1) := by decide +kernel
theorem dX12_stables_3 : decode cX12_stables 3 = .ok (.istore_n 2, 1) := by decide +kernel
theorem dX12_stables_4 : decode cX12_stables 4 = .ok (.iload_n 2, 1) := by decide +kernel
theorem dX12_stables_5 : decode cX12_stables 5 = .ok (.aload_n 0, 1) := by decide +kernel
theorem dX12_stables_6 : decode cX12_stables 6 = .ok (.getfield 92, 3) := by decide +kernel
theorem dX12_stables_9 : decode cX12_stables 9 = .ok (.if_icmp .ge 25, 3) := by decide +kernel
theorem dX12_stables_12 : decode cX12_stables 12 = .ok (.iload_n 1, 1) := by decide +kernel
theorem dX12_stables_13 : decode cX12_stables 13 = .ok (.aload_n 0, 1) := by decide +kernel
theorem dX12_stables_14 : decode cX12_stables 14 = .ok (.iload_n 2, 1) := by decide +kernel
theorem dX12_stables_15 : decode cX12_stables 15 = .ok (.invokevirtual 278, 3) := by decide +kernel
theorem dX12_stables_18 : decode cX12_stables 18 = .ok (.ifCond .eq 7, 3) := by decide +kernel
theorem dX12_stables_21 : decode cX12_stables 21 = .ok (.iconst 1, 1) := by decide +kernel
theorem dX12_stables_22 : decode cX12_stables 22 = .ok (.goto 4, 3) := by decide +kernel
theorem dX12_stables_25 : decode cX12_stables 25 = .ok (.iconst 0, 1) := by decide +kernel
theorem dX12_stables_26 : decode cX12_stables 26 = .ok (.iadd, 1) := by decide +kernel
theorem dX12_stables_27 : decode cX12_stables 27 = .ok (.istore_n 1, 1) := by decide +kernel
theorem dX12_stables_28 : decode cX12_stables 28 = .ok (.iinc 2 1, 3) := by decide +kernel
theorem dX12_stables_31 : decode cX12_stables 31 = .ok (.goto (-27), 3) := by decide +kernel
theorem dX12_stables_34 : decode cX12_stables 34 = .ok (.iload_n 1, 1) := by decide +kernel
theorem dX12_stables_35 : decode cX12_stables 35 = .ok (.ireturn, 1) := by decide +kernel
theorem dX12_summaryNow_0 : decode cX12_summaryNow 0 = .ok (.aload_n 0, 1) := by decide +kernel
theorem dX12_summaryNow_1 : decode cX12_summaryNow 1 = .ok (.invokevirtual 272, 3) := by decide +kernel
theorem dX12_summaryNow_4 : decode cX12_summaryNow 4 = .ok (.aload_n 0, 1) := by decide +kernel
theorem dX12_summaryNow_5 : decode cX12_summaryNow 5 = .ok (.invokevirtual 275, 3) := by decide +kernel
theorem dX12_summaryNow_8 : decode cX12_summaryNow 8 = .ok (.iload_n 1, 1) := by decide +kernel
theorem dX12_summaryNow_9 : decode cX12_summaryNow 9 = .ok (.tableswitch 88 0 4 #[35, 49, 63, 69, 82], 35) := by decide +kernel
theorem dX12_summaryNow_44 : decode cX12_summaryNow 44 = .ok (.aload_n 0, 1) := by decide +kernel
theorem dX12_summaryNow_45 : decode cX12_summaryNow 45 = .ok (.getfield 59, 3) := by decide +kernel
theorem dX12_summaryNow_48 : decode cX12_summaryNow 48 = .ok (.iconst 1, 1) := by decide +kernel
theorem dX12_summaryNow_49 : decode cX12_summaryNow 49 = .ok (.aload_n 0, 1) := by decide +kernel
theorem dX12_summaryNow_50 : decode cX12_summaryNow 50 = .ok (.getfield 92, 3) := by decide +kernel
theorem dX12_summaryNow_53 : decode cX12_summaryNow 53 = .ok (.ishl, 1) := by decide +kernel
theorem dX12_summaryNow_54 : decode cX12_summaryNow 54 = .ok (.iconst 1, 1) := by decide +kernel
theorem dX12_summaryNow_55 : decode cX12_summaryNow 55 = .ok (.isub, 1) := by decide +kernel
theorem dX12_summaryNow_56 : decode cX12_summaryNow 56 = .ok (.iaload, 1) := by decide +kernel
theorem dX12_summaryNow_57 : decode cX12_summaryNow 57 = .ok (.ireturn, 1) := by decide +kernel
theorem dX12_summaryNow_58 : decode cX12_summaryNow 58 = .ok (.aload_n 0, 1) := by decide +kernel
theorem dX12_summaryNow_59 : decode cX12_summaryNow 59 = .ok (.getfield 62, 3) := by decide +kernel
theorem dX12_summaryNow_62 : decode cX12_summaryNow 62 = .ok (.iconst 1, 1) := by decide +kernel
theorem dX12_summaryNow_63 : decode cX12_summaryNow 63 = .ok (.aload_n 0, 1) := by decide +kernel
theorem dX12_summaryNow_64 : decode cX12_summaryNow 64 = .ok (.getfield 92, 3) := by decide +kernel
theorem dX12_summaryNow_67 : decode cX12_summaryNow 67 = .ok (.ishl, 1) := by decide +kernel
theorem dX12_summaryNow_68 : decode cX12_summaryNow 68 = .ok (.iconst 1, 1) := by decide +kernel
theorem dX12_summaryNow_69 : decode cX12_summaryNow 69 = .ok (.isub, 1) := by decide +kernel
theorem dX12_summaryNow_70 : decode cX12_summaryNow 70 = .ok (.iaload, 1) := by decide +kernel
theorem dX12_summaryNow_71 : decode cX12_summaryNow 71 = .ok (.ireturn, 1) := by decide +kernel
theorem dX12_summaryNow_72 : decode cX12_summaryNow 72 = .ok (.aload_n 0, 1) := by decide +kernel
theorem dX12_summaryNow_73 : decode cX12_summaryNow 73 = .ok (.iconst (-1), 1) := by decide +kernel
theorem dX12_summaryNow_74 : decode cX12_summaryNow 74 = .ok (.invokevirtual 284, 3) := by decide +kernel
theorem dX12_summaryNow_77 : decode cX12_summaryNow 77 = .ok (.ireturn, 1) := by decide +kernel
theorem dX12_summaryNow_78 : decode cX12_summaryNow 78 = .ok (.aload_n 0, 1) := by decide +kernel
theorem dX12_summaryNow_79 : decode cX12_summaryNow 79 = .ok (.iconst 1, 1) := by decide +kernel
theorem dX12_summaryNow_80 : decode cX12_summaryNow 80 = .ok (.aload_n 0, 1) := by decide +kernel
theorem dX12_summaryNow_81 : decode cX12_summaryNow 81 = .ok (.getfield 92, 3) := by decide +kernel
theorem dX12_summaryNow_84 : decode cX12_summaryNow 84 = .ok (.ishl, 1) := by decide +kernel
theorem dX12_summaryNow_85 : decode cX12_summaryNow 85 = .ok (.iconst 1, 1) := by decide +kernel
theorem dX12_summaryNow_86 : decode cX12_summaryNow 86 = .ok (.isub, 1) := by decide +kernel
theorem dX12_summaryNow_87 : decode cX12_summaryNow 87 = .ok (.invokevirtual 259, 3) := by decide +kernel
theorem dX12_summaryNow_90 : decode cX12_summaryNow 90 = .ok (.ireturn, 1) := by decide +kernel
theorem dX12_summaryNow_91 : decode cX12_summaryNow 91 = .ok (.aload_n 0, 1) := by decide +kernel
theorem dX12_summaryNow_92 : decode cX12_summaryNow 92 = .ok (.iconst (-1), 1) := by decide +kernel
theorem dX12_summaryNow_93 : decode cX12_summaryNow 93 = .ok (.invokevirtual 300, 3) := by decide +kernel
theorem dX12_summaryNow_96 : decode cX12_summaryNow 96 = .ok (.ireturn, 1) := by decide +kernel
theorem dX12_summaryNow_97 : decode cX12_summaryNow 97 = .ok (.aload_n 0, 1) := by decide +kernel
theorem dX12_summaryNow_98 : decode cX12_summaryNow 98 = .ok (.invokevirtual 303, 3) := by decide +kernel
theorem dX12_summaryNow_101 : decode cX12_summaryNow 101 = .ok (.ireturn, 1) := by decide +kernel
theorem dX12_summary_0 : decode cX12_summary 0 = .ok (.aload_n 0, 1) := by decide +kernel
theorem dX12_summary_1 : decode cX12_summary 1 = .ok (.iload_n 1, 1) := by decide +kernel
theorem dX12_summary_2 : decode cX12_summary 2 = .ok (.iconst 0, 1) := by decide +kernel
theorem dX12_summary_3 : decode cX12_summary 3 = .ok (.iconst 5, 1) := by decide +kernel
theorem dX12_summary_4 : decode cX12_summary 4 = .ok (.invokestatic 95, 3) := by decide +kernel
theorem dX12_summary_7 : decode cX12_summary 7 = .ok (.ifCond .eq 7, 3) := by decide +kernel
theorem dX12_summary_10 : decode cX12_summary 10 = .ok (.iconst 0, 1) := by decide +kernel
theorem dX12_summary_11 : decode cX12_summary 11 = .ok (.goto 4, 3) := by decide +kernel
theorem dX12_summary_14 : decode cX12_summary 14 = .ok (.iconst 1, 1) := by decide +kernel
theorem dX12_summary_15 : decode cX12_summary 15 = .ok (.putfield 89, 3) := by decide +kernel
theorem dX12_summary_18 : decode cX12_summary 18 = .ok (.aload_n 0, 1) := by decide +kernel
theorem dX12_summary_19 : decode cX12_summary 19 = .ok (.getfield 89, 3) := by decide +kernel
theorem dX12_summary_22 : decode cX12_summary 22 = .ok (.ifCond .le 7, 3) := by decide +kernel
theorem dX12_summary_25 : decode cX12_summary 25 = .ok (.iconst 0, 1) := by decide +kernel
theorem dX12_summary_26 : decode cX12_summary 26 = .ok (.goto 8, 3) := by decide +kernel
theorem dX12_summary_29 : decode cX12_summary 29 = .ok (.aload_n 0, 1) := by decide +kernel
theorem dX12_summary_30 : decode cX12_summary 30 = .ok (.iload_n 1, 1) := by decide +kernel
theorem dX12_summary_31 : decode cX12_summary 31 = .ok (.invokevirtual 306, 3) := by decide +kernel
theorem dX12_summary_34 : decode cX12_summary 34 = .ok (.ireturn, 1) := by decide +kernel
theorem dX12_without_0 : decode cX12_without 0 = .ok (.aload_n 0, 1) := by decide +kernel
theorem dX12_without_1 : decode cX12_without 1 = .ok (.aload_n 0, 1) := by decide +kernel
theorem dX12_without_2 : decode cX12_without 2 = .ok (.iload_n 1, 1) := by decide +kernel
theorem dX12_without_3 : decode cX12_without 3 = .ok (.invokevirtual 114, 3) := by decide +kernel
theorem dX12_without_6 : decode cX12_without 6 = .ok (.ifCond .eq 16, 3) := by decide +kernel
theorem dX12_without_9 : decode cX12_without 9 = .ok (.iload_n 2, 1) := by decide +kernel
theorem dX12_without_10 : decode cX12_without 10 = .ok (.iconst (-1), 1) := by decide +kernel
theorem dX12_without_11 : decode cX12_without 11 = .ok (.if_icmp .eq 15, 3) := by decide +kernel
theorem dX12_without_14 : decode cX12_without 14 = .ok (.aload_n 0, 1) := by decide +kernel
theorem dX12_without_15 : decode cX12_without 15 = .ok (.iload_n 2, 1) := by decide +kernel
theorem dX12_without_16 : decode cX12_without 16 = .ok (.invokevirtual 151, 3) := by decide +kernel
theorem dX12_without_19 : decode cX12_without 19 = .ok (.ifCond .ne 7, 3) := by decide +kernel
theorem dX12_without_22 : decode cX12_without 22 = .ok (.iconst 1, 1) := by decide +kernel
theorem dX12_without_23 : decode cX12_without 23 = .ok (.goto 17, 3) := by decide +kernel
theorem dX12_without_26 : decode cX12_without 26 = .ok (.iload_n 3, 1) := by decide +kernel
theorem dX12_without_27 : decode cX12_without 27 = .ok (.iconst 0, 1) := by decide +kernel
theorem dX12_without_28 : decode cX12_without 28 = .ok (.iconst 5, 1) := by decide +kernel
theorem dX12_without_29 : decode cX12_without 29 = .ok (.invokestatic 95, 3) := by decide +kernel
theorem dX12_without_32 : decode cX12_without 32 = .ok (.ifCond .eq 7, 3) := by decide +kernel
theorem dX12_without_35 : decode cX12_without 35 = .ok (.iconst 0, 1) := by decide +kernel
theorem dX12_without_36 : decode cX12_without 36 = .ok (.goto 4, 3) := by decide +kernel
theorem dX12_without_39 : decode cX12_without 39 = .ok (.iconst 2, 1) := by decide +kernel
theorem dX12_without_40 : decode cX12_without 40 = .ok (.putfield 89, 3) := by decide +kernel
theorem dX12_without_43 : decode cX12_without 43 = .ok (.aload_n 0, 1) := by decide +kernel
theorem dX12_without_44 : decode cX12_without 44 = .ok (.getfield 89, 3) := by decide +kernel
theorem dX12_without_47 : decode cX12_without 47 = .ok (.ifCond .le 5, 3) := by decide +kernel
theorem dX12_without_50 : decode cX12_without 50 = .ok (.iconst 0, 1) := by decide +kernel
theorem dX12_without_51 : decode cX12_without 51 = .ok (.ireturn, 1) := by decide +kernel
theorem dX12_without_52 : decode cX12_without 52 = .ok (.aload_n 0, 1) := by decide +kernel
theorem dX12_without_53 : decode cX12_without 53 = .ok (.getfield 7, 3) := by decide +kernel
theorem dX12_without_56 : decode cX12_without 56 = .ok (.iload_n 1, 1) := by decide +kernel
theorem dX12_without_57 : decode cX12_without 57 = .ok (.iaload, 1) := by decide +kernel
theorem dX12_without_58 : decode cX12_without 58 = .ok (.istore 4, 2) := by decide +kernel
theorem dX12_without_60 : decode cX12_without 60 = .ok (.aload_n 0, 1) := by decide +kernel
theorem dX12_without_61 : decode cX12_without 61 = .ok (.getfield 7, 3) := by decide +kernel
theorem dX12_without_64 : decode cX12_without 64 = .ok (.iload_n 1, 1) := by decide +kernel
theorem dX12_without_65 : decode cX12_without 65 = .ok (.iconst 0, 1) := by decide +kernel
theorem dX12_without_66 : decode cX12_without 66 = .ok (.iastore, 1) := by decide +kernel
theorem dX12_without_67 : decode cX12_without 67 = .ok (.iload_n 2, 1) := by decide +kernel
theorem dX12_without_68 : decode cX12_without 68 = .ok (.iconst (-1), 1) := by decide +kernel
theorem dX12_without_69 : decode cX12_without 69 = .ok (.if_icmp .ne 11, 3) := by decide +kernel
theorem dX12_without_72 : decode cX12_without 72 = .ok (.aload_n 0, 1) := by decide +kernel
theorem dX12_without_73 : decode cX12_without 73 = .ok (.iload_n 3, 1) := by decide +kernel
theorem dX12_without_74 : decode cX12_without 74 = .ok (.invokevirtual 306, 3) := by decide +kernel
theorem dX12_without_77 : decode cX12_without 77 = .ok (.goto 9, 3) := by decide +kernel
theorem dX12_without_80 : decode cX12_without 80 = .ok (.aload_n 0, 1) := by decide +kernel
theorem dX12_without_81 : decode cX12_without 81 = .ok (.iload_n 2, 1) := by decide +kernel
theorem dX12_without_82 : decode cX12_without 82 = .ok (.iload_n 3, 1) := by decide +kernel
theorem dX12_without_83 : decode cX12_without 83 = .ok (.invokevirtual 290, 3) := by decide +kernel
theorem dX12_without_86 : decode cX12_without 86 = .ok (.istore 5, 2) := by decide +kernel
theorem dX12_without_88 : decode cX12_without 88 = .ok (.aload_n 0, 1) := by decide +kernel
theorem dX12_without_89 : decode cX12_without 89 = .ok (.getfield 7, 3) := by decide +kernel
theorem dX12_without_92 : decode cX12_without 92 = .ok (.iload_n 1, 1) := by decide +kernel
theorem dX12_without_93 : decode cX12_without 93 = .ok (.iload 4, 2) := by decide +kernel
theorem dX12_without_95 : decode cX12_without 95 = .ok (.iastore, 1) := by decide +kernel
theorem dX12_without_96 : decode cX12_without 96 = .ok (.iload 5, 2) := by decide +kernel
theorem dX12_without_98 : decode cX12_without 98 = .ok (.ireturn, 1) := by decide +kernel
theorem dX12_rings_0 : decode cX12_rings 0 = .ok (.aload_n 0, 1) := by decide +kernel
theorem dX12_rings_1 : decode cX12_rings 1 = .ok (.aload_n 0, 1) := by decide +kernel
theorem dX12_rings_2 : decode cX12_rings 2 = .ok (.iload_n 1, 1) := by decide +kernel
theorem dX12_rings_3 : decode cX12_rings 3 = .ok (.invokevirtual 114, 3) := by decide +kernel
theorem dX12_rings_6 : decode cX12_rings 6 = .ok (.ifCond .eq 7, 3) := by decide +kernel
theorem dX12_rings_9 : decode cX12_rings 9 = .ok (.iconst 0, 1) := by decide +kernel
theorem dX12_rings_10 : decode cX12_rings 10 = .ok (.goto 4, 3) := by decide +kernel
theorem dX12_rings_13 : decode cX12_rings 13 = .ok (.iconst 1, 1) := by decide +kernel
theorem dX12_rings_14 : decode cX12_rings 14 = .ok (.putfield 89, 3) := by decide +kernel
theorem dX12_rings_17 : decode cX12_rings 17 = .ok (.aload_n 0, 1) := by decide +kernel
theorem dX12_rings_18 : decode cX12_rings 18 = .ok (.getfield 89, 3) := by decide +kernel
theorem dX12_rings_21 : decode cX12_rings 21 = .ok (.ifCond .le 7, 3) := by decide +kernel
theorem dX12_rings_24 : decode cX12_rings 24 = .ok (.iconst 0, 1) := by decide +kernel
theorem dX12_rings_25 : decode cX12_rings 25 = .ok (.goto 8, 3) := by decide +kernel
theorem dX12_rings_28 : decode cX12_rings 28 = .ok (.aload_n 0, 1) := by decide +kernel
theorem dX12_rings_29 : decode cX12_rings 29 = .ok (.iload_n 1, 1) := by decide +kernel
theorem dX12_rings_30 : decode cX12_rings 30 = .ok (.invokevirtual 300, 3) := by decide +kernel
theorem dX12_rings_33 : decode cX12_rings 33 = .ok (.ireturn, 1) := by decide +kernel
theorem dX12_isComplete_0 : decode cX12_isComplete 0 = .ok (.iconst 1, 1) := by decide +kernel
theorem dX12_isComplete_1 : decode cX12_isComplete 1 = .ok (.istore_n 2, 1) := by decide +kernel
theorem dX12_isComplete_2 : decode cX12_isComplete 2 = .ok (.iconst 0, 1) := by decide +kernel
theorem dX12_isComplete_3 : decode cX12_isComplete 3 = .ok (.istore_n 3, 1) := by decide +kernel
theorem dX12_isComplete_4 : decode cX12_isComplete 4 = .ok (.iload_n 3, 1) := by decide +kernel
theorem dX12_isComplete_5 : decode cX12_isComplete 5 = .ok (.aload_n 0, 1) := by decide +kernel
theorem dX12_isComplete_6 : decode cX12_isComplete 6 = .ok (.getfield 92, 3) := by decide +kernel
theorem dX12_isComplete_9 : decode cX12_isComplete 9 = .ok (.if_icmp .ge 61, 3) := by decide +kernel
theorem dX12_isComplete_12 : decode cX12_isComplete 12 = .ok (.iload_n 3, 1) := by decide +kernel
theorem dX12_isComplete_13 : decode cX12_isComplete 13 = .ok (.iconst 1, 1) := by decide +kernel
theorem dX12_isComplete_14 : decode cX12_isComplete 14 = .ok (.iadd, 1) := by decide +kernel
theorem dX12_isComplete_15 : decode cX12_isComplete 15 = .ok (.istore 4, 2) := by decide +kernel
theorem dX12_isComplete_17 : decode cX12_isComplete 17 = .ok (.iload 4, 2) := by decide +kernel
theorem dX12_isComplete_19 : decode cX12_isComplete 19 = .ok (.aload_n 0, 1) := by decide +kernel
theorem dX12_isComplete_20 : decode cX12_isComplete 20 = .ok (.getfield 92, 3) := by decide +kernel
theorem dX12_isComplete_23 : decode cX12_isComplete 23 = .ok (.if_icmp .ge 41, 3) := by decide +kernel
theorem dX12_isComplete_26 : decode cX12_isComplete 26 = .ok (.iload_n 2, 1) := by decide +kernel
theorem dX12_isComplete_27 : decode cX12_isComplete 27 = .ok (.ifCond .eq 29, 3) := by decide +kernel
theorem dX12_isComplete_30 : decode cX12_isComplete 30 = .ok (.aload_n 0, 1) := by decide +kernel
theorem dX12_isComplete_31 : decode cX12_isComplete 31 = .ok (.iload_n 1, 1) := by decide +kernel
theorem dX12_isComplete_32 : decode cX12_isComplete 32 = .ok (.iload_n 3, 1) := by decide +kernel
theorem dX12_isComplete_33 : decode cX12_isComplete 33 = .ok (.iload 4, 2) := by decide +kernel
theorem dX12_isComplete_35 : decode cX12_isComplete 35 = .ok (.invokevirtual 224, 3) := by decide +kernel
theorem dX12_isComplete_38 : decode cX12_isComplete 38 = .ok (.ifCond .ne 14, 3) := by decide +kernel
theorem dX12_isComplete_41 : decode cX12_isComplete 41 = .ok (.aload_n 0, 1) := by decide +kernel
theorem dX12_isComplete_42 : decode cX12_isComplete 42 = .ok (.iload_n 1, 1) := by decide +kernel
theorem dX12_isComplete_43 : decode cX12_isComplete 43 = .ok (.iload 4, 2) := by decide +kernel
theorem dX12_isComplete_45 : decode cX12_isComplete 45 = .ok (.iload_n 3, 1) := by decide +kernel
theorem dX12_isComplete_46 : decode cX12_isComplete 46 = .ok (.invokevirtual 224, 3) := by decide +kernel
theorem dX12_isComplete_49 : decode cX12_isComplete 49 = .ok (.ifCond .eq 7, 3) := by decide +kernel
theorem dX12_isComplete_52 : decode cX12_isComplete 52 = .ok (.iconst 1, 1) := by decide +kernel
theorem dX12_isComplete_53 : decode cX12_isComplete 53 = .ok (.goto 4, 3) := by decide +kernel
theorem dX12_isComplete_56 : decode cX12_isComplete 56 = .ok (.iconst 0, 1) := by decide +kernel
theorem dX12_isComplete_57 : decode cX12_isComplete 57 = .ok (.istore_n 2, 1) := by decide +kernel
theorem dX12_isComplete_58 : decode cX12_isComplete 58 = .ok (.iinc 4 1, 3) := by decide +kernel
theorem dX12_isComplete_61 : decode cX12_isComplete 61 = .ok (.goto (-44), 3) := by decide +kernel
theorem dX12_isComplete_64 : decode cX12_isComplete 64 = .ok (.iinc 3 1, 3) := by decide +kernel
theorem dX12_isComplete_67 : decode cX12_isComplete 67 = .ok (.goto (-63), 3) := by decide +kernel
theorem dX12_isComplete_70 : decode cX12_isComplete 70 = .ok (.iload_n 2, 1) := by decide +kernel
theorem dX12_isComplete_71 : decode cX12_isComplete 71 = .ok (.ireturn, 1) := by decide +kernel
theorem dX12_mostRings_0 : decode cX12_mostRings 0 = .ok (.aload_n 0, 1) := by decide +kernel
theorem dX12_mostRings_1 : decode cX12_mostRings 1 = .ok (.getfield 92, 3) := by decide +kernel
theorem dX12_mostRings_4 : decode cX12_mostRings 4 = .ok (.aload_n 0, 1) := by decide +kernel
theorem dX12_mostRings_5 : decode cX12_mostRings 5 = .ok (.getfield 92, 3) := by decide +kernel
theorem dX12_mostRings_8 : decode cX12_mostRings 8 = .ok (.imul, 1) := by decide +kernel
theorem dX12_mostRings_9 : decode cX12_mostRings 9 = .ok (.aload_n 0, 1) := by decide +kernel
theorem dX12_mostRings_10 : decode cX12_mostRings 10 = .ok (.getfield 92, 3) := by decide +kernel
theorem dX12_mostRings_13 : decode cX12_mostRings 13 = .ok (.imul, 1) := by decide +kernel
theorem dX12_mostRings_14 : decode cX12_mostRings 14 = .ok (.istore_n 1, 1) := by decide +kernel
theorem dX12_mostRings_15 : decode cX12_mostRings 15 = .ok (.iload_n 1, 1) := by decide +kernel
theorem dX12_mostRings_16 : decode cX12_mostRings 16 = .ok (.aload_n 0, 1) := by decide +kernel
theorem dX12_mostRings_17 : decode cX12_mostRings 17 = .ok (.getfield 92, 3) := by decide +kernel
theorem dX12_mostRings_20 : decode cX12_mostRings 20 = .ok (.iconst 2, 1) := by decide +kernel
theorem dX12_mostRings_21 : decode cX12_mostRings 21 = .ok (.irem, 1) := by decide +kernel
theorem dX12_mostRings_22 : decode cX12_mostRings 22 = .ok (.iconst 1, 1) := by decide +kernel
theorem dX12_mostRings_23 : decode cX12_mostRings 23 = .ok (.if_icmp .ne 10, 3) := by decide +kernel
theorem dX12_mostRings_26 : decode cX12_mostRings 26 = .ok (.aload_n 0, 1) := by decide +kernel
theorem dX12_mostRings_27 : decode cX12_mostRings 27 = .ok (.getfield 92, 3) := by decide +kernel
theorem dX12_mostRings_30 : decode cX12_mostRings 30 = .ok (.goto 9, 3) := by decide +kernel
theorem dX12_mostRings_33 : decode cX12_mostRings 33 = .ok (.iconst 4, 1) := by decide +kernel
theorem dX12_mostRings_34 : decode cX12_mostRings 34 = .ok (.aload_n 0, 1) := by decide +kernel
theorem dX12_mostRings_35 : decode cX12_mostRings 35 = .ok (.getfield 92, 3) := by decide +kernel
theorem dX12_mostRings_38 : decode cX12_mostRings 38 = .ok (.imul, 1) := by decide +kernel
theorem dX12_mostRings_39 : decode cX12_mostRings 39 = .ok (.isub, 1) := by decide +kernel
theorem dX12_mostRings_40 : decode cX12_mostRings 40 = .ok (.bipush 24, 2) := by decide +kernel
theorem dX12_mostRings_42 : decode cX12_mostRings 42 = .ok (.idiv, 1) := by decide +kernel
theorem dX12_mostRings_43 : decode cX12_mostRings 43 = .ok (.ireturn, 1) := by decide +kernel
theorem dX12_consistency_0 : decode cX12_consistency 0 = .ok (.aload_n 0, 1) := by decide +kernel
theorem dX12_consistency_1 : decode cX12_consistency 1 = .ok (.aload_n 0, 1) := by decide +kernel
theorem dX12_consistency_2 : decode cX12_consistency 2 = .ok (.iload_n 1, 1) := by decide +kernel
theorem dX12_consistency_3 : decode cX12_consistency 3 = .ok (.invokevirtual 114, 3) := by decide +kernel
theorem dX12_consistency_6 : decode cX12_consistency 6 = .ok (.ifCond .ne 7, 3) := by decide +kernel
theorem dX12_consistency_9 : decode cX12_consistency 9 = .ok (.iconst 1, 1) := by decide +kernel
theorem dX12_consistency_10 : decode cX12_consistency 10 = .ok (.goto 16, 3) := by decide +kernel
theorem dX12_consistency_13 : decode cX12_consistency 13 = .ok (.aload_n 0, 1) := by decide +kernel
theorem dX12_consistency_14 : decode cX12_consistency 14 = .ok (.iload_n 1, 1) := by decide +kernel
theorem dX12_consistency_15 : decode cX12_consistency 15 = .ok (.invokevirtual 309, 3) := by decide +kernel
theorem dX12_consistency_18 : decode cX12_consistency 18 = .ok (.ifCond .eq 7, 3) := by decide +kernel
theorem dX12_consistency_21 : decode cX12_consistency 21 = .ok (.iconst 0, 1) := by decide +kernel
theorem dX12_consistency_22 : decode cX12_consistency 22 = .ok (.goto 4, 3) := by decide +kernel
theorem dX12_consistency_25 : decode cX12_consistency 25 = .ok (.iconst 2, 1) := by decide +kernel
theorem dX12_consistency_26 : decode cX12_consistency 26 = .ok (.putfield 89, 3) := by decide +kernel
theorem dX12_consistency_29 : decode cX12_consistency 29 = .ok (.aload_n 0, 1) := by decide +kernel
theorem dX12_consistency_30 : decode cX12_consistency 30 = .ok (.getfield 89, 3) := by decide +kernel
theorem dX12_consistency_33 : decode cX12_consistency 33 = .ok (.ifCond .le 5, 3) := by decide +kernel
theorem dX12_consistency_36 : decode cX12_consistency 36 = .ok (.dconst 0, 1) := by decide +kernel
theorem dX12_consistency_37 : decode cX12_consistency 37 = .ok (.dreturn, 1) := by decide +kernel
theorem dX12_consistency_38 : decode cX12_consistency 38 = .ok (.aload_n 0, 1) := by decide +kernel
theorem dX12_consistency_39 : decode cX12_consistency 39 = .ok (.invokevirtual 312, 3) := by decide +kernel
theorem dX12_consistency_42 : decode cX12_consistency 42 = .ok (.ifCond .ne 7, 3) := by decide +kernel
theorem dX12_consistency_45 : decode cX12_consistency 45 = .ok (.dconst 1, 1) := by decide +kernel
theorem dX12_consistency_46 : decode cX12_consistency 46 = .ok (.goto 19, 3) := by decide +kernel
theorem dX12_consistency_49 : decode cX12_consistency 49 = .ok (.dconst 1, 1) := by decide +kernel
theorem dX12_consistency_50 : decode cX12_consistency 50 = .ok (.dconst 1, 1) := by decide +kernel
theorem dX12_consistency_51 : decode cX12_consistency 51 = .ok (.aload_n 0, 1) := by decide +kernel
theorem dX12_consistency_52 : decode cX12_consistency 52 = .ok (.iload_n 1, 1) := by decide +kernel
theorem dX12_consistency_53 : decode cX12_consistency 53 = .ok (.invokevirtual 300, 3) := by decide +kernel
theorem dX12_consistency_56 : decode cX12_consistency 56 = .ok (.i2d, 1) := by decide +kernel
theorem dX12_consistency_57 : decode cX12_consistency 57 = .ok (.dmul, 1) := by decide +kernel
theorem dX12_consistency_58 : decode cX12_consistency 58 = .ok (.aload_n 0, 1) := by decide +kernel
theorem dX12_consistency_59 : decode cX12_consistency 59 = .ok (.invokevirtual 312, 3) := by decide +kernel
theorem dX12_consistency_62 : decode cX12_consistency 62 = .ok (.i2d, 1) := by decide +kernel
theorem dX12_consistency_63 : decode cX12_consistency 63 = .ok (.ddiv, 1) := by decide +kernel
theorem dX12_consistency_64 : decode cX12_consistency 64 = .ok (.dsub, 1) := by decide +kernel
theorem dX12_consistency_65 : decode cX12_consistency 65 = .ok (.dreturn, 1) := by decide +kernel
theorem dX12_agrees_0 : decode cX12_agrees 0 = .ok (.aload_n 0, 1) := by decide +kernel
theorem dX12_agrees_1 : decode cX12_agrees 1 = .ok (.iload_n 1, 1) := by decide +kernel
theorem dX12_agrees_2 : decode cX12_agrees 2 = .ok (.iload_n 3, 1) := by decide +kernel
theorem dX12_agrees_3 : decode cX12_agrees 3 = .ok (.iload 4, 2) := by decide +kernel
theorem dX12_agrees_5 : decode cX12_agrees 5 = .ok (.invokevirtual 224, 3) := by decide +kernel
theorem dX12_agrees_8 : decode cX12_agrees 8 = .ok (.ifCond .eq 7, 3) := by decide +kernel
theorem dX12_agrees_11 : decode cX12_agrees 11 = .ok (.iconst 1, 1) := by decide +kernel
theorem dX12_agrees_12 : decode cX12_agrees 12 = .ok (.goto 19, 3) := by decide +kernel
theorem dX12_agrees_15 : decode cX12_agrees 15 = .ok (.aload_n 0, 1) := by decide +kernel
theorem dX12_agrees_16 : decode cX12_agrees 16 = .ok (.iload_n 1, 1) := by decide +kernel
theorem dX12_agrees_17 : decode cX12_agrees 17 = .ok (.iload 4, 2) := by decide +kernel
theorem dX12_agrees_19 : decode cX12_agrees 19 = .ok (.iload_n 3, 1) := by decide +kernel
theorem dX12_agrees_20 : decode cX12_agrees 20 = .ok (.invokevirtual 224, 3) := by decide +kernel
theorem dX12_agrees_23 : decode cX12_agrees 23 = .ok (.ifCond .eq 7, 3) := by decide +kernel
theorem dX12_agrees_26 : decode cX12_agrees 26 = .ok (.iconst (-1), 1) := by decide +kernel
theorem dX12_agrees_27 : decode cX12_agrees 27 = .ok (.goto 4, 3) := by decide +kernel
theorem dX12_agrees_30 : decode cX12_agrees 30 = .ok (.iconst 0, 1) := by decide +kernel
theorem dX12_agrees_31 : decode cX12_agrees 31 = .ok (.istore 5, 2) := by decide +kernel
theorem dX12_agrees_33 : decode cX12_agrees 33 = .ok (.aload_n 0, 1) := by decide +kernel
theorem dX12_agrees_34 : decode cX12_agrees 34 = .ok (.iload_n 2, 1) := by decide +kernel
theorem dX12_agrees_35 : decode cX12_agrees 35 = .ok (.iload_n 3, 1) := by decide +kernel
theorem dX12_agrees_36 : decode cX12_agrees 36 = .ok (.iload 4, 2) := by decide +kernel
theorem dX12_agrees_38 : decode cX12_agrees 38 = .ok (.invokevirtual 224, 3) := by decide +kernel
theorem dX12_agrees_41 : decode cX12_agrees 41 = .ok (.ifCond .eq 7, 3) := by decide +kernel
theorem dX12_agrees_44 : decode cX12_agrees 44 = .ok (.iconst 1, 1) := by decide +kernel
theorem dX12_agrees_45 : decode cX12_agrees 45 = .ok (.goto 19, 3) := by decide +kernel
theorem dX12_agrees_48 : decode cX12_agrees 48 = .ok (.aload_n 0, 1) := by decide +kernel
theorem dX12_agrees_49 : decode cX12_agrees 49 = .ok (.iload_n 2, 1) := by decide +kernel
theorem dX12_agrees_50 : decode cX12_agrees 50 = .ok (.iload 4, 2) := by decide +kernel
theorem dX12_agrees_52 : decode cX12_agrees 52 = .ok (.iload_n 3, 1) := by decide +kernel
theorem dX12_agrees_53 : decode cX12_agrees 53 = .ok (.invokevirtual 224, 3) := by decide +kernel
theorem dX12_agrees_56 : decode cX12_agrees 56 = .ok (.ifCond .eq 7, 3) := by decide +kernel
theorem dX12_agrees_59 : decode cX12_agrees 59 = .ok (.iconst (-1), 1) := by decide +kernel
theorem dX12_agrees_60 : decode cX12_agrees 60 = .ok (.goto 4, 3) := by decide +kernel
theorem dX12_agrees_63 : decode cX12_agrees 63 = .ok (.iconst 0, 1) := by decide +kernel
theorem dX12_agrees_64 : decode cX12_agrees 64 = .ok (.istore 6, 2) := by decide +kernel
theorem dX12_agrees_66 : decode cX12_agrees 66 = .ok (.iload 5, 2) := by decide +kernel
theorem dX12_agrees_68 : decode cX12_agrees 68 = .ok (.iload 6, 2) := by decide +kernel
theorem dX12_agrees_70 : decode cX12_agrees 70 = .ok (.imul, 1) := by decide +kernel
theorem dX12_agrees_71 : decode cX12_agrees 71 = .ok (.ireturn, 1) := by decide +kernel
theorem dX12_agreement_0 : decode cX12_agreement 0 = .ok (.aload_n 0, 1) := by decide +kernel
theorem dX12_agreement_1 : decode cX12_agreement 1 = .ok (.aload_n 0, 1) := by decide +kernel
theorem dX12_agreement_2 : decode cX12_agreement 2 = .ok (.iload_n 1, 1) := by decide +kernel
theorem dX12_agreement_3 : decode cX12_agreement 3 = .ok (.invokevirtual 114, 3) := by decide +kernel
theorem dX12_agreement_6 : decode cX12_agreement 6 = .ok (.ifCond .eq 15, 3) := by decide +kernel
theorem dX12_agreement_9 : decode cX12_agreement 9 = .ok (.aload_n 0, 1) := by decide +kernel
theorem dX12_agreement_10 : decode cX12_agreement 10 = .ok (.iload_n 2, 1) := by decide +kernel
theorem dX12_agreement_11 : decode cX12_agreement 11 = .ok (.invokevirtual 114, 3) := by decide +kernel
theorem dX12_agreement_14 : decode cX12_agreement 14 = .ok (.ifCond .eq 7, 3) := by decide +kernel
theorem dX12_agreement_17 : decode cX12_agreement 17 = .ok (.iconst 0, 1) := by decide +kernel
theorem dX12_agreement_18 : decode cX12_agreement 18 = .ok (.goto 4, 3) := by decide +kernel
theorem dX12_agreement_21 : decode cX12_agreement 21 = .ok (.iconst 1, 1) := by decide +kernel
theorem dX12_agreement_22 : decode cX12_agreement 22 = .ok (.putfield 89, 3) := by decide +kernel
theorem dX12_agreement_25 : decode cX12_agreement 25 = .ok (.aload_n 0, 1) := by decide +kernel
theorem dX12_agreement_26 : decode cX12_agreement 26 = .ok (.getfield 89, 3) := by decide +kernel
theorem dX12_agreement_29 : decode cX12_agreement 29 = .ok (.ifCond .le 5, 3) := by decide +kernel
theorem dX12_agreement_32 : decode cX12_agreement 32 = .ok (.dconst 0, 1) := by decide +kernel
theorem dX12_agreement_33 : decode cX12_agreement 33 = .ok (.dreturn, 1) := by decide +kernel
theorem dX12_agreement_34 : decode cX12_agreement 34 = .ok (.iconst 0, 1) := by decide +kernel
theorem dX12_agreement_35 : decode cX12_agreement 35 = .ok (.istore_n 3, 1) := by decide +kernel
theorem dX12_agreement_36 : decode cX12_agreement 36 = .ok (.iconst 0, 1) := by decide +kernel
theorem dX12_agreement_37 : decode cX12_agreement 37 = .ok (.istore 4, 2) := by decide +kernel
theorem dX12_agreement_39 : decode cX12_agreement 39 = .ok (.iconst 0, 1) := by decide +kernel
theorem dX12_agreement_40 : decode cX12_agreement 40 = .ok (.istore 5, 2) := by decide +kernel
theorem dX12_agreement_42 : decode cX12_agreement 42 = .ok (.iload 5, 2) := by decide +kernel
theorem dX12_agreement_44 : decode cX12_agreement 44 = .ok (.aload_n 0, 1) := by decide +kernel
theorem dX12_agreement_45 : decode cX12_agreement 45 = .ok (.getfield 92, 3) := by decide +kernel
theorem dX12_agreement_48 : decode cX12_agreement 48 = .ok (.if_icmp .ge 62, 3) := by decide +kernel
theorem dX12_agreement_51 : decode cX12_agreement 51 = .ok (.iload 5, 2) := by decide +kernel
theorem dX12_agreement_53 : decode cX12_agreement 53 = .ok (.iconst 1, 1) := by decide +kernel
theorem dX12_agreement_54 : decode cX12_agreement 54 = .ok (.iadd, 1) := by decide +kernel
theorem dX12_agreement_55 : decode cX12_agreement 55 = .ok (.istore 6, 2) := by decide +kernel
theorem dX12_agreement_57 : decode cX12_agreement 57 = .ok (.iload 6, 2) := by decide +kernel
theorem dX12_agreement_59 : decode cX12_agreement 59 = .ok (.aload_n 0, 1) := by decide +kernel
theorem dX12_agreement_60 : decode cX12_agreement 60 = .ok (.getfield 92, 3) := by decide +kernel
theorem dX12_agreement_63 : decode cX12_agreement 63 = .ok (.if_icmp .ge 41, 3) := by decide +kernel
theorem dX12_agreement_66 : decode cX12_agreement 66 = .ok (.aload_n 0, 1) := by decide +kernel
theorem dX12_agreement_67 : decode cX12_agreement 67 = .ok (.iload_n 1, 1) := by decide +kernel
theorem dX12_agreement_68 : decode cX12_agreement 68 = .ok (.iload_n 2, 1) := by decide +kernel
theorem dX12_agreement_69 : decode cX12_agreement 69 = .ok (.iload 5, 2) := by decide +kernel
theorem dX12_agreement_71 : decode cX12_agreement 71 = .ok (.iload 6, 2) := by decide +kernel
theorem dX12_agreement_73 : decode cX12_agreement 73 = .ok (.invokevirtual 315, 3) := by decide +kernel
theorem dX12_agreement_76 : decode cX12_agreement 76 = .ok (.istore 7, 2) := by decide +kernel
theorem dX12_agreement_78 : decode cX12_agreement 78 = .ok (.iload_n 3, 1) := by decide +kernel
theorem dX12_agreement_79 : decode cX12_agreement 79 = .ok (.iload 7, 2) := by decide +kernel
theorem dX12_agreement_81 : decode cX12_agreement 81 = .ok (.iadd, 1) := by decide +kernel
theorem dX12_agreement_82 : decode cX12_agreement 82 = .ok (.istore_n 3, 1) := by decide +kernel
theorem dX12_agreement_83 : decode cX12_agreement 83 = .ok (.iload 4, 2) := by decide +kernel
theorem dX12_agreement_85 : decode cX12_agreement 85 = .ok (.iload 7, 2) := by decide +kernel
theorem dX12_agreement_87 : decode cX12_agreement 87 = .ok (.ifCond .ne 7, 3) := by decide +kernel
theorem dX12_agreement_90 : decode cX12_agreement 90 = .ok (.iconst 0, 1) := by decide +kernel
theorem dX12_agreement_91 : decode cX12_agreement 91 = .ok (.goto 4, 3) := by decide +kernel
theorem dX12_agreement_94 : decode cX12_agreement 94 = .ok (.iconst 1, 1) := by decide +kernel
theorem dX12_agreement_95 : decode cX12_agreement 95 = .ok (.iadd, 1) := by decide +kernel
theorem dX12_agreement_96 : decode cX12_agreement 96 = .ok (.istore 4, 2) := by decide +kernel
theorem dX12_agreement_98 : decode cX12_agreement 98 = .ok (.iinc 6 1, 3) := by decide +kernel
theorem dX12_agreement_101 : decode cX12_agreement 101 = .ok (.goto (-44), 3) := by decide +kernel
theorem dX12_agreement_104 : decode cX12_agreement 104 = .ok (.iinc 5 1, 3) := by decide +kernel
theorem dX12_agreement_107 : decode cX12_agreement 107 = .ok (.goto (-65), 3) := by decide +kernel
theorem dX12_agreement_110 : decode cX12_agreement 110 = .ok (.iload 4, 2) := by decide +kernel
theorem dX12_agreement_112 : decode cX12_agreement 112 = .ok (.ifCond .ne 7, 3) := by decide +kernel
theorem dX12_agreement_115 : decode cX12_agreement 115 = .ok (.dconst 0, 1) := by decide +kernel
theorem dX12_agreement_116 : decode cX12_agreement 116 = .ok (.goto 11, 3) := by decide +kernel
theorem dX12_agreement_119 : decode cX12_agreement 119 = .ok (.dconst 1, 1) := by decide +kernel
theorem dX12_agreement_120 : decode cX12_agreement 120 = .ok (.iload_n 3, 1) := by decide +kernel
theorem dX12_agreement_121 : decode cX12_agreement 121 = .ok (.i2d, 1) := by decide +kernel
theorem dX12_agreement_122 : decode cX12_agreement 122 = .ok (.dmul, 1) := by decide +kernel
theorem dX12_agreement_123 : decode cX12_agreement 123 = .ok (.iload 4, 2) := by decide +kernel
theorem dX12_agreement_125 : decode cX12_agreement 125 = .ok (.i2d, 1) := by decide +kernel
theorem dX12_agreement_126 : decode cX12_agreement 126 = .ok (.ddiv, 1) := by decide +kernel
theorem dX12_agreement_127 : decode cX12_agreement 127 = .ok (.dreturn, 1) := by decide +kernel
theorem dX12_chanceOf_0 : decode cX12_chanceOf 0 = .ok (.iload_n 0, 1) := by decide +kernel
theorem dX12_chanceOf_1 : decode cX12_chanceOf 1 = .ok (.iload_n 1, 1) := by decide +kernel
theorem dX12_chanceOf_2 : decode cX12_chanceOf 2 = .ok (.if_icmp .le 7, 3) := by decide +kernel
theorem dX12_chanceOf_5 : decode cX12_chanceOf 5 = .ok (.iload_n 0, 1) := by decide +kernel
theorem dX12_chanceOf_6 : decode cX12_chanceOf 6 = .ok (.goto 4, 3) := by decide +kernel
theorem dX12_chanceOf_9 : decode cX12_chanceOf 9 = .ok (.iload_n 1, 1) := by decide +kernel
theorem dX12_chanceOf_10 : decode cX12_chanceOf 10 = .ok (.istore_n 2, 1) := by decide +kernel
theorem dX12_chanceOf_11 : decode cX12_chanceOf 11 = .ok (.iload_n 0, 1) := by decide +kernel
theorem dX12_chanceOf_12 : decode cX12_chanceOf 12 = .ok (.iload_n 1, 1) := by decide +kernel
theorem dX12_chanceOf_13 : decode cX12_chanceOf 13 = .ok (.iadd, 1) := by decide +kernel
theorem dX12_chanceOf_14 : decode cX12_chanceOf 14 = .ok (.istore_n 3, 1) := by decide +kernel
theorem dX12_chanceOf_15 : decode cX12_chanceOf 15 = .ok (.iload_n 3, 1) := by decide +kernel
theorem dX12_chanceOf_16 : decode cX12_chanceOf 16 = .ok (.ifCond .ne 7, 3) := by decide +kernel
theorem dX12_chanceOf_19 : decode cX12_chanceOf 19 = .ok (.ldc2_w 319, 3) := by decide +kernel
theorem dX12_chanceOf_22 : decode cX12_chanceOf 22 = .ok (.lreturn, 1) := by decide +kernel
theorem dX12_chanceOf_23 : decode cX12_chanceOf 23 = .ok (.lconst 0, 1) := by decide +kernel
theorem dX12_chanceOf_24 : decode cX12_chanceOf 24 = .ok (.lstore 4, 2) := by decide +kernel
theorem dX12_chanceOf_26 : decode cX12_chanceOf 26 = .ok (.lconst 1, 1) := by decide +kernel
theorem dX12_chanceOf_27 : decode cX12_chanceOf 27 = .ok (.lstore 6, 2) := by decide +kernel
theorem dX12_chanceOf_29 : decode cX12_chanceOf 29 = .ok (.iconst 0, 1) := by decide +kernel
theorem dX12_chanceOf_30 : decode cX12_chanceOf 30 = .ok (.istore 8, 2) := by decide +kernel
theorem dX12_chanceOf_32 : decode cX12_chanceOf 32 = .ok (.iload 8, 2) := by decide +kernel
theorem dX12_chanceOf_34 : decode cX12_chanceOf 34 = .ok (.iload_n 3, 1) := by decide +kernel
theorem dX12_chanceOf_35 : decode cX12_chanceOf 35 = .ok (.if_icmp .gt 42, 3) := by decide +kernel
theorem dX12_chanceOf_38 : decode cX12_chanceOf 38 = .ok (.lload 4, 2) := by decide +kernel
theorem dX12_chanceOf_40 : decode cX12_chanceOf 40 = .ok (.iload 8, 2) := by decide +kernel
theorem dX12_chanceOf_42 : decode cX12_chanceOf 42 = .ok (.iload_n 2, 1) := by decide +kernel
theorem dX12_chanceOf_43 : decode cX12_chanceOf 43 = .ok (.if_icmp .lt 8, 3) := by decide +kernel
theorem dX12_chanceOf_46 : decode cX12_chanceOf 46 = .ok (.lload 6, 2) := by decide +kernel
theorem dX12_chanceOf_48 : decode cX12_chanceOf 48 = .ok (.goto 4, 3) := by decide +kernel
theorem dX12_chanceOf_51 : decode cX12_chanceOf 51 = .ok (.lconst 0, 1) := by decide +kernel
theorem dX12_chanceOf_52 : decode cX12_chanceOf 52 = .ok (.ladd, 1) := by decide +kernel
theorem dX12_chanceOf_53 : decode cX12_chanceOf 53 = .ok (.lstore 4, 2) := by decide +kernel
theorem dX12_chanceOf_55 : decode cX12_chanceOf 55 = .ok (.lload 6, 2) := by decide +kernel
theorem dX12_chanceOf_57 : decode cX12_chanceOf 57 = .ok (.iload_n 3, 1) := by decide +kernel
theorem dX12_chanceOf_58 : decode cX12_chanceOf 58 = .ok (.iload 8, 2) := by decide +kernel
theorem dX12_chanceOf_60 : decode cX12_chanceOf 60 = .ok (.isub, 1) := by decide +kernel
theorem dX12_chanceOf_61 : decode cX12_chanceOf 61 = .ok (.i2l, 1) := by decide +kernel
theorem dX12_chanceOf_62 : decode cX12_chanceOf 62 = .ok (.lmul, 1) := by decide +kernel
theorem dX12_chanceOf_63 : decode cX12_chanceOf 63 = .ok (.iload 8, 2) := by decide +kernel
theorem dX12_chanceOf_65 : decode cX12_chanceOf 65 = .ok (.iconst 1, 1) := by decide +kernel
theorem dX12_chanceOf_66 : decode cX12_chanceOf 66 = .ok (.iadd, 1) := by decide +kernel
theorem dX12_chanceOf_67 : decode cX12_chanceOf 67 = .ok (.i2l, 1) := by decide +kernel
theorem dX12_chanceOf_68 : decode cX12_chanceOf 68 = .ok (.ldiv, 1) := by decide +kernel
theorem dX12_chanceOf_69 : decode cX12_chanceOf 69 = .ok (.lstore 6, 2) := by decide +kernel
theorem dX12_chanceOf_71 : decode cX12_chanceOf 71 = .ok (.iinc 8 1, 3) := by decide +kernel
theorem dX12_chanceOf_74 : decode cX12_chanceOf 74 = .ok (.goto (-42), 3) := by decide +kernel
theorem dX12_chanceOf_77 : decode cX12_chanceOf 77 = .ok (.ldc2_w 321, 3) := by decide +kernel
theorem dX12_chanceOf_80 : decode cX12_chanceOf 80 = .ok (.lload 4, 2) := by decide +kernel
theorem dX12_chanceOf_82 : decode cX12_chanceOf 82 = .ok (.lmul, 1) := by decide +kernel
theorem dX12_chanceOf_83 : decode cX12_chanceOf 83 = .ok (.bipush 48, 2) := by decide +kernel
theorem dX12_chanceOf_85 : decode cX12_chanceOf 85 = .ok (.iload_n 3, 1) := by decide +kernel
theorem dX12_chanceOf_86 : decode cX12_chanceOf 86 = .ok (.isub, 1) := by decide +kernel
theorem dX12_chanceOf_87 : decode cX12_chanceOf 87 = .ok (.lshl, 1) := by decide +kernel
theorem dX12_chanceOf_88 : decode cX12_chanceOf 88 = .ok (.lstore 8, 2) := by decide +kernel
theorem dX12_chanceOf_90 : decode cX12_chanceOf 90 = .ok (.lload 8, 2) := by decide +kernel
theorem dX12_chanceOf_92 : decode cX12_chanceOf 92 = .ok (.ldc2_w 319, 3) := by decide +kernel
theorem dX12_chanceOf_95 : decode cX12_chanceOf 95 = .ok (.lcmp, 1) := by decide +kernel
theorem dX12_chanceOf_96 : decode cX12_chanceOf 96 = .ok (.ifCond .le 9, 3) := by decide +kernel
theorem dX12_chanceOf_99 : decode cX12_chanceOf 99 = .ok (.ldc2_w 319, 3) := by decide +kernel
theorem dX12_chanceOf_102 : decode cX12_chanceOf 102 = .ok (.goto 5, 3) := by decide +kernel
theorem dX12_chanceOf_105 : decode cX12_chanceOf 105 = .ok (.lload 8, 2) := by decide +kernel
theorem dX12_chanceOf_107 : decode cX12_chanceOf 107 = .ok (.lreturn, 1) := by decide +kernel
theorem dX12_chanceNow_0 : decode cX12_chanceNow 0 = .ok (.aload_n 0, 1) := by decide +kernel
theorem dX12_chanceNow_1 : decode cX12_chanceNow 1 = .ok (.iload_n 1, 1) := by decide +kernel
theorem dX12_chanceNow_2 : decode cX12_chanceNow 2 = .ok (.iload_n 2, 1) := by decide +kernel
theorem dX12_chanceNow_3 : decode cX12_chanceNow 3 = .ok (.invokevirtual 227, 3) := by decide +kernel
theorem dX12_chanceNow_6 : decode cX12_chanceNow 6 = .ok (.aload_n 0, 1) := by decide +kernel
theorem dX12_chanceNow_7 : decode cX12_chanceNow 7 = .ok (.iload_n 2, 1) := by decide +kernel
theorem dX12_chanceNow_8 : decode cX12_chanceNow 8 = .ok (.iload_n 1, 1) := by decide +kernel
theorem dX12_chanceNow_9 : decode cX12_chanceNow 9 = .ok (.invokevirtual 227, 3) := by decide +kernel
theorem dX12_chanceNow_12 : decode cX12_chanceNow 12 = .ok (.invokestatic 323, 3) := by decide +kernel
theorem dX12_chanceNow_15 : decode cX12_chanceNow 15 = .ok (.lreturn, 1) := by decide +kernel
theorem dX12_chance_0 : decode cX12_chance 0 = .ok (.aload_n 0, 1) := by decide +kernel
theorem dX12_chance_1 : decode cX12_chance 1 = .ok (.aload_n 0, 1) := by decide +kernel
theorem dX12_chance_2 : decode cX12_chance 2 = .ok (.iload_n 1, 1) := by decide +kernel
theorem dX12_chance_3 : decode cX12_chance 3 = .ok (.invokevirtual 151, 3) := by decide +kernel
theorem dX12_chance_6 : decode cX12_chance 6 = .ok (.ifCond .eq 11, 3) := by decide +kernel
theorem dX12_chance_9 : decode cX12_chance 9 = .ok (.aload_n 0, 1) := by decide +kernel
theorem dX12_chance_10 : decode cX12_chance 10 = .ok (.iload_n 2, 1) := by decide +kernel
theorem dX12_chance_11 : decode cX12_chance 11 = .ok (.invokevirtual 151, 3) := by decide +kernel
theorem dX12_chance_14 : decode cX12_chance 14 = .ok (.ifCond .ne 7, 3) := by decide +kernel
theorem dX12_chance_17 : decode cX12_chance 17 = .ok (.iconst 1, 1) := by decide +kernel
theorem dX12_chance_18 : decode cX12_chance 18 = .ok (.goto 13, 3) := by decide +kernel
theorem dX12_chance_21 : decode cX12_chance 21 = .ok (.iload_n 1, 1) := by decide +kernel
theorem dX12_chance_22 : decode cX12_chance 22 = .ok (.iload_n 2, 1) := by decide +kernel
theorem dX12_chance_23 : decode cX12_chance 23 = .ok (.if_icmp .ne 7, 3) := by decide +kernel
theorem dX12_chance_26 : decode cX12_chance 26 = .ok (.iconst 2, 1) := by decide +kernel
theorem dX12_chance_27 : decode cX12_chance 27 = .ok (.goto 4, 3) := by decide +kernel
theorem dX12_chance_30 : decode cX12_chance 30 = .ok (.iconst 0, 1) := by decide +kernel
theorem dX12_chance_31 : decode cX12_chance 31 = .ok (.putfield 89, 3) := by decide +kernel
theorem dX12_chance_34 : decode cX12_chance 34 = .ok (.aload_n 0, 1) := by decide +kernel
theorem dX12_chance_35 : decode cX12_chance 35 = .ok (.getfield 89, 3) := by decide +kernel
theorem dX12_chance_38 : decode cX12_chance 38 = .ok (.ifCond .le 7, 3) := by decide +kernel
theorem dX12_chance_41 : decode cX12_chance 41 = .ok (.lconst 0, 1) := by decide +kernel
theorem dX12_chance_42 : decode cX12_chance 42 = .ok (.goto 9, 3) := by decide +kernel
theorem dX12_chance_45 : decode cX12_chance 45 = .ok (.aload_n 0, 1) := by decide +kernel
theorem dX12_chance_46 : decode cX12_chance 46 = .ok (.iload_n 1, 1) := by decide +kernel
theorem dX12_chance_47 : decode cX12_chance 47 = .ok (.iload_n 2, 1) := by decide +kernel
theorem dX12_chance_48 : decode cX12_chance 48 = .ok (.invokevirtual 327, 3) := by decide +kernel
theorem dX12_chance_51 : decode cX12_chance 51 = .ok (.lreturn, 1) := by decide +kernel
theorem dX12_placeNow_0 : decode cX12_placeNow 0 = .ok (.aload_n 0, 1) := by decide +kernel
theorem dX12_placeNow_1 : decode cX12_placeNow 1 = .ok (.iconst 1, 1) := by decide +kernel
theorem dX12_placeNow_2 : decode cX12_placeNow 2 = .ok (.invokevirtual 204, 3) := by decide +kernel
theorem dX12_placeNow_5 : decode cX12_placeNow 5 = .ok (.aload_n 0, 1) := by decide +kernel
theorem dX12_placeNow_6 : decode cX12_placeNow 6 = .ok (.iconst 2, 1) := by decide +kernel
theorem dX12_placeNow_7 : decode cX12_placeNow 7 = .ok (.invokevirtual 204, 3) := by decide +kernel
theorem dX12_placeNow_10 : decode cX12_placeNow 10 = .ok (.invokestatic 323, 3) := by decide +kernel
theorem dX12_placeNow_13 : decode cX12_placeNow 13 = .ok (.lreturn, 1) := by decide +kernel
theorem dX12_placeChance_0 : decode cX12_placeChance 0 = .ok (.aload_n 0, 1) := by decide +kernel
theorem dX12_placeChance_1 : decode cX12_placeChance 1 = .ok (.iconst 0, 1) := by decide +kernel
theorem dX12_placeChance_2 : decode cX12_placeChance 2 = .ok (.putfield 89, 3) := by decide +kernel
theorem dX12_placeChance_5 : decode cX12_placeChance 5 = .ok (.aload_n 0, 1) := by decide +kernel
theorem dX12_placeChance_6 : decode cX12_placeChance 6 = .ok (.invokevirtual 330, 3) := by decide +kernel
theorem dX12_placeChance_9 : decode cX12_placeChance 9 = .ok (.lreturn, 1) := by decide +kernel
theorem dX12_layPairs_0 : decode cX12_layPairs 0 = .ok (.aload_n 0, 1) := by decide +kernel
theorem dX12_layPairs_1 : decode cX12_layPairs 1 = .ok (.iconst 0, 1) := by decide +kernel
theorem dX12_layPairs_2 : decode cX12_layPairs 2 = .ok (.putfield 334, 3) := by decide +kernel
theorem dX12_layPairs_5 : decode cX12_layPairs 5 = .ok (.iconst 0, 1) := by decide +kernel
theorem dX12_layPairs_6 : decode cX12_layPairs 6 = .ok (.istore_n 1, 1) := by decide +kernel
theorem dX12_layPairs_7 : decode cX12_layPairs 7 = .ok (.iload_n 1, 1) := by decide +kernel
theorem dX12_layPairs_8 : decode cX12_layPairs 8 = .ok (.aload_n 0, 1) := by decide +kernel
theorem dX12_layPairs_9 : decode cX12_layPairs 9 = .ok (.getfield 92, 3) := by decide +kernel
theorem dX12_layPairs_12 : decode cX12_layPairs 12 = .ok (.if_icmp .ge 55, 3) := by decide +kernel
theorem dX12_layPairs_15 : decode cX12_layPairs 15 = .ok (.iload_n 1, 1) := by decide +kernel
theorem dX12_layPairs_16 : decode cX12_layPairs 16 = .ok (.iconst 1, 1) := by decide +kernel
theorem dX12_layPairs_17 : decode cX12_layPairs 17 = .ok (.iadd, 1) := by decide +kernel
theorem dX12_layPairs_18 : decode cX12_layPairs 18 = .ok (.istore_n 2, 1) := by decide +kernel
theorem dX12_layPairs_19 : decode cX12_layPairs 19 = .ok (.iload_n 2, 1) := by decide +kernel
theorem dX12_layPairs_20 : decode cX12_layPairs 20 = .ok (.aload_n 0, 1) := by decide +kernel
theorem dX12_layPairs_21 : decode cX12_layPairs 21 = .ok (.getfield 92, 3) := by decide +kernel
theorem dX12_layPairs_24 : decode cX12_layPairs 24 = .ok (.if_icmp .ge 37, 3) := by decide +kernel
theorem dX12_layPairs_27 : decode cX12_layPairs 27 = .ok (.aload_n 0, 1) := by decide +kernel
theorem dX12_layPairs_28 : decode cX12_layPairs 28 = .ok (.iload_n 1, 1) := by decide +kernel
theorem dX12_layPairs_29 : decode cX12_layPairs 29 = .ok (.iload_n 2, 1) := by decide +kernel
theorem dX12_layPairs_30 : decode cX12_layPairs 30 = .ok (.invokevirtual 227, 3) := by decide +kernel
theorem dX12_layPairs_33 : decode cX12_layPairs 33 = .ok (.aload_n 0, 1) := by decide +kernel
theorem dX12_layPairs_34 : decode cX12_layPairs 34 = .ok (.iload_n 2, 1) := by decide +kernel
theorem dX12_layPairs_35 : decode cX12_layPairs 35 = .ok (.iload_n 1, 1) := by decide +kernel
theorem dX12_layPairs_36 : decode cX12_layPairs 36 = .ok (.invokevirtual 227, 3) := by decide +kernel
theorem dX12_layPairs_39 : decode cX12_layPairs 39 = .ok (.iadd, 1) := by decide +kernel
theorem dX12_layPairs_40 : decode cX12_layPairs 40 = .ok (.ifCond .le 15, 3) := by decide +kernel
theorem dX12_layPairs_43 : decode cX12_layPairs 43 = .ok (.aload_n 0, 1) := by decide +kernel
theorem dX12_layPairs_44 : decode cX12_layPairs 44 = .ok (.iload_n 1, 1) := by decide +kernel
theorem dX12_layPairs_45 : decode cX12_layPairs 45 = .ok (.iload_n 2, 1) := by decide +kernel
theorem dX12_layPairs_46 : decode cX12_layPairs 46 = .ok (.aload_n 0, 1) := by decide +kernel
theorem dX12_layPairs_47 : decode cX12_layPairs 47 = .ok (.iload_n 1, 1) := by decide +kernel
theorem dX12_layPairs_48 : decode cX12_layPairs 48 = .ok (.iload_n 2, 1) := by decide +kernel
theorem dX12_layPairs_49 : decode cX12_layPairs 49 = .ok (.invokevirtual 327, 3) := by decide +kernel
theorem dX12_layPairs_52 : decode cX12_layPairs 52 = .ok (.invokevirtual 337, 3) := by decide +kernel
theorem dX12_layPairs_55 : decode cX12_layPairs 55 = .ok (.iinc 2 1, 3) := by decide +kernel
theorem dX12_layPairs_58 : decode cX12_layPairs 58 = .ok (.goto (-39), 3) := by decide +kernel
theorem dX12_layPairs_61 : decode cX12_layPairs 61 = .ok (.iinc 1 1, 3) := by decide +kernel
theorem dX12_layPairs_64 : decode cX12_layPairs 64 = .ok (.goto (-57), 3) := by decide +kernel
theorem dX12_layPairs_67 : decode cX12_layPairs 67 = .ok (.return_, 1) := by decide +kernel
theorem dX12_addPair_0 : decode cX12_addPair 0 = .ok (.aload_n 0, 1) := by decide +kernel
theorem dX12_addPair_1 : decode cX12_addPair 1 = .ok (.getfield 334, 3) := by decide +kernel
theorem dX12_addPair_4 : decode cX12_addPair 4 = .ok (.istore 5, 2) := by decide +kernel
theorem dX12_addPair_6 : decode cX12_addPair 6 = .ok (.iload 5, 2) := by decide +kernel
theorem dX12_addPair_8 : decode cX12_addPair 8 = .ok (.ifCond .le 55, 3) := by decide +kernel
theorem dX12_addPair_11 : decode cX12_addPair 11 = .ok (.aload_n 0, 1) := by decide +kernel
theorem dX12_addPair_12 : decode cX12_addPair 12 = .ok (.getfield 68, 3) := by decide +kernel
theorem dX12_addPair_15 : decode cX12_addPair 15 = .ok (.iload 5, 2) := by decide +kernel
theorem dX12_addPair_17 : decode cX12_addPair 17 = .ok (.iconst 1, 1) := by decide +kernel
theorem dX12_addPair_18 : decode cX12_addPair 18 = .ok (.isub, 1) := by decide +kernel
theorem dX12_addPair_19 : decode cX12_addPair 19 = .ok (.laload, 1) := by decide +kernel
theorem dX12_addPair_20 : decode cX12_addPair 20 = .ok (.lload_n 3, 1) := by decide +kernel
theorem dX12_addPair_21 : decode cX12_addPair 21 = .ok (.lcmp, 1) := by decide +kernel
theorem dX12_addPair_22 : decode cX12_addPair 22 = .ok (.ifCond .le 41, 3) := by decide +kernel
theorem dX12_addPair_25 : decode cX12_addPair 25 = .ok (.aload_n 0, 1) := by decide +kernel
theorem dX12_addPair_26 : decode cX12_addPair 26 = .ok (.getfield 65, 3) := by decide +kernel
theorem dX12_addPair_29 : decode cX12_addPair 29 = .ok (.iload 5, 2) := by decide +kernel
theorem dX12_addPair_31 : decode cX12_addPair 31 = .ok (.aload_n 0, 1) := by decide +kernel
theorem dX12_addPair_32 : decode cX12_addPair 32 = .ok (.getfield 65, 3) := by decide +kernel
theorem dX12_addPair_35 : decode cX12_addPair 35 = .ok (.iload 5, 2) := by decide +kernel
theorem dX12_addPair_37 : decode cX12_addPair 37 = .ok (.iconst 1, 1) := by decide +kernel
theorem dX12_addPair_38 : decode cX12_addPair 38 = .ok (.isub, 1) := by decide +kernel
theorem dX12_addPair_39 : decode cX12_addPair 39 = .ok (.iaload, 1) := by decide +kernel
theorem dX12_addPair_40 : decode cX12_addPair 40 = .ok (.iastore, 1) := by decide +kernel
theorem dX12_addPair_41 : decode cX12_addPair 41 = .ok (.aload_n 0, 1) := by decide +kernel
theorem dX12_addPair_42 : decode cX12_addPair 42 = .ok (.getfield 68, 3) := by decide +kernel
theorem dX12_addPair_45 : decode cX12_addPair 45 = .ok (.iload 5, 2) := by decide +kernel
theorem dX12_addPair_47 : decode cX12_addPair 47 = .ok (.aload_n 0, 1) := by decide +kernel
theorem dX12_addPair_48 : decode cX12_addPair 48 = .ok (.getfield 68, 3) := by decide +kernel
theorem dX12_addPair_51 : decode cX12_addPair 51 = .ok (.iload 5, 2) := by decide +kernel
theorem dX12_addPair_53 : decode cX12_addPair 53 = .ok (.iconst 1, 1) := by decide +kernel
theorem dX12_addPair_54 : decode cX12_addPair 54 = .ok (.isub, 1) := by decide +kernel
theorem dX12_addPair_55 : decode cX12_addPair 55 = .ok (.laload, 1) := by decide +kernel
theorem dX12_addPair_56 : decode cX12_addPair 56 = .ok (.lastore, 1) := by decide +kernel
theorem dX12_addPair_57 : decode cX12_addPair 57 = .ok (.iinc 5 (-1), 3) := by decide +kernel
theorem dX12_addPair_60 : decode cX12_addPair 60 = .ok (.goto (-54), 3) := by decide +kernel
theorem dX12_addPair_63 : decode cX12_addPair 63 = .ok (.aload_n 0, 1) := by decide +kernel
theorem dX12_addPair_64 : decode cX12_addPair 64 = .ok (.getfield 65, 3) := by decide +kernel
theorem dX12_addPair_67 : decode cX12_addPair 67 = .ok (.iload 5, 2) := by decide +kernel
theorem dX12_addPair_69 : decode cX12_addPair 69 = .ok (.bipush 10, 2) := by decide +kernel
theorem dX12_addPair_71 : decode cX12_addPair 71 = .ok (.iload_n 1, 1) := by decide +kernel
theorem dX12_addPair_72 : decode cX12_addPair 72 = .ok (.imul, 1) := by decide +kernel
theorem dX12_addPair_73 : decode cX12_addPair 73 = .ok (.iload_n 2, 1) := by decide +kernel
theorem dX12_addPair_74 : decode cX12_addPair 74 = .ok (.iadd, 1) := by decide +kernel
theorem dX12_addPair_75 : decode cX12_addPair 75 = .ok (.iastore, 1) := by decide +kernel
theorem dX12_addPair_76 : decode cX12_addPair 76 = .ok (.aload_n 0, 1) := by decide +kernel
theorem dX12_addPair_77 : decode cX12_addPair 77 = .ok (.getfield 68, 3) := by decide +kernel
theorem dX12_addPair_80 : decode cX12_addPair 80 = .ok (.iload 5, 2) := by decide +kernel
theorem dX12_addPair_82 : decode cX12_addPair 82 = .ok (.lload_n 3, 1) := by decide +kernel
theorem dX12_addPair_83 : decode cX12_addPair 83 = .ok (.lastore, 1) := by decide +kernel
theorem dX12_addPair_84 : decode cX12_addPair 84 = .ok (.aload_n 0, 1) := by decide +kernel
theorem dX12_addPair_85 : decode cX12_addPair 85 = .ok (.dup, 1) := by decide +kernel
theorem dX12_addPair_86 : decode cX12_addPair 86 = .ok (.getfield 334, 3) := by decide +kernel
theorem dX12_addPair_89 : decode cX12_addPair 89 = .ok (.iconst 1, 1) := by decide +kernel
theorem dX12_addPair_90 : decode cX12_addPair 90 = .ok (.iadd, 1) := by decide +kernel
theorem dX12_addPair_91 : decode cX12_addPair 91 = .ok (.putfield 334, 3) := by decide +kernel
theorem dX12_addPair_94 : decode cX12_addPair 94 = .ok (.return_, 1) := by decide +kernel
theorem dX12_provedMany_0 : decode cX12_provedMany 0 = .ok (.aload_n 0, 1) := by decide +kernel
theorem dX12_provedMany_1 : decode cX12_provedMany 1 = .ok (.invokevirtual 341, 3) := by decide +kernel
theorem dX12_provedMany_4 : decode cX12_provedMany 4 = .ok (.iconst 0, 1) := by decide +kernel
theorem dX12_provedMany_5 : decode cX12_provedMany 5 = .ok (.istore_n 2, 1) := by decide +kernel
theorem dX12_provedMany_6 : decode cX12_provedMany 6 = .ok (.iload_n 2, 1) := by decide +kernel
theorem dX12_provedMany_7 : decode cX12_provedMany 7 = .ok (.aload_n 0, 1) := by decide +kernel
theorem dX12_provedMany_8 : decode cX12_provedMany 8 = .ok (.getfield 334, 3) := by decide +kernel
theorem dX12_provedMany_11 : decode cX12_provedMany 11 = .ok (.if_icmp .ge 37, 3) := by decide +kernel
theorem dX12_provedMany_14 : decode cX12_provedMany 14 = .ok (.aload_n 0, 1) := by decide +kernel
theorem dX12_provedMany_15 : decode cX12_provedMany 15 = .ok (.getfield 68, 3) := by decide +kernel
theorem dX12_provedMany_18 : decode cX12_provedMany 18 = .ok (.iload_n 2, 1) := by decide +kernel
theorem dX12_provedMany_19 : decode cX12_provedMany 19 = .ok (.laload, 1) := by decide +kernel
theorem dX12_provedMany_20 : decode cX12_provedMany 20 = .ok (.ldc2_w 344, 3) := by decide +kernel
theorem dX12_provedMany_23 : decode cX12_provedMany 23 = .ok (.lmul, 1) := by decide +kernel
theorem dX12_provedMany_24 : decode cX12_provedMany 24 = .ok (.aload_n 0, 1) := by decide +kernel
theorem dX12_provedMany_25 : decode cX12_provedMany 25 = .ok (.getfield 334, 3) := by decide +kernel
theorem dX12_provedMany_28 : decode cX12_provedMany 28 = .ok (.iload_n 2, 1) := by decide +kernel
theorem dX12_provedMany_29 : decode cX12_provedMany 29 = .ok (.isub, 1) := by decide +kernel
theorem dX12_provedMany_30 : decode cX12_provedMany 30 = .ok (.i2l, 1) := by decide +kernel
theorem dX12_provedMany_31 : decode cX12_provedMany 31 = .ok (.lmul, 1) := by decide +kernel
theorem dX12_provedMany_32 : decode cX12_provedMany 32 = .ok (.iload_n 1, 1) := by decide +kernel
theorem dX12_provedMany_33 : decode cX12_provedMany 33 = .ok (.i2l, 1) := by decide +kernel
theorem dX12_provedMany_34 : decode cX12_provedMany 34 = .ok (.ldc2_w 319, 3) := by decide +kernel
theorem dX12_provedMany_37 : decode cX12_provedMany 37 = .ok (.lmul, 1) := by decide +kernel
theorem dX12_provedMany_38 : decode cX12_provedMany 38 = .ok (.lcmp, 1) := by decide +kernel
theorem dX12_provedMany_39 : decode cX12_provedMany 39 = .ok (.ifCond .gt 9, 3) := by decide +kernel
theorem dX12_provedMany_42 : decode cX12_provedMany 42 = .ok (.iinc 2 1, 3) := by decide +kernel
theorem dX12_provedMany_45 : decode cX12_provedMany 45 = .ok (.goto (-39), 3) := by decide +kernel
theorem dX12_provedMany_48 : decode cX12_provedMany 48 = .ok (.iload_n 2, 1) := by decide +kernel
theorem dX12_provedMany_49 : decode cX12_provedMany 49 = .ok (.ireturn, 1) := by decide +kernel
theorem dX12_provedAt_0 : decode cX12_provedAt 0 = .ok (.aload_n 0, 1) := by decide +kernel
theorem dX12_provedAt_1 : decode cX12_provedAt 1 = .ok (.getfield 65, 3) := by decide +kernel
theorem dX12_provedAt_4 : decode cX12_provedAt 4 = .ok (.iload_n 1, 1) := by decide +kernel
theorem dX12_provedAt_5 : decode cX12_provedAt 5 = .ok (.iaload, 1) := by decide +kernel
theorem dX12_provedAt_6 : decode cX12_provedAt 6 = .ok (.bipush 10, 2) := by decide +kernel
theorem dX12_provedAt_8 : decode cX12_provedAt 8 = .ok (.idiv, 1) := by decide +kernel
theorem dX12_provedAt_9 : decode cX12_provedAt 9 = .ok (.istore_n 2, 1) := by decide +kernel
theorem dX12_provedAt_10 : decode cX12_provedAt 10 = .ok (.aload_n 0, 1) := by decide +kernel
theorem dX12_provedAt_11 : decode cX12_provedAt 11 = .ok (.getfield 65, 3) := by decide +kernel
theorem dX12_provedAt_14 : decode cX12_provedAt 14 = .ok (.iload_n 1, 1) := by decide +kernel
theorem dX12_provedAt_15 : decode cX12_provedAt 15 = .ok (.iaload, 1) := by decide +kernel
theorem dX12_provedAt_16 : decode cX12_provedAt 16 = .ok (.bipush 10, 2) := by decide +kernel
theorem dX12_provedAt_18 : decode cX12_provedAt 18 = .ok (.irem, 1) := by decide +kernel
theorem dX12_provedAt_19 : decode cX12_provedAt 19 = .ok (.istore_n 3, 1) := by decide +kernel
theorem dX12_provedAt_20 : decode cX12_provedAt 20 = .ok (.aload_n 0, 1) := by decide +kernel
theorem dX12_provedAt_21 : decode cX12_provedAt 21 = .ok (.iload_n 3, 1) := by decide +kernel
theorem dX12_provedAt_22 : decode cX12_provedAt 22 = .ok (.iload_n 2, 1) := by decide +kernel
theorem dX12_provedAt_23 : decode cX12_provedAt 23 = .ok (.invokevirtual 227, 3) := by decide +kernel
theorem dX12_provedAt_26 : decode cX12_provedAt 26 = .ok (.aload_n 0, 1) := by decide +kernel
theorem dX12_provedAt_27 : decode cX12_provedAt 27 = .ok (.iload_n 2, 1) := by decide +kernel
theorem dX12_provedAt_28 : decode cX12_provedAt 28 = .ok (.iload_n 3, 1) := by decide +kernel
theorem dX12_provedAt_29 : decode cX12_provedAt 29 = .ok (.invokevirtual 227, 3) := by decide +kernel
theorem dX12_provedAt_32 : decode cX12_provedAt 32 = .ok (.if_icmp .le 12, 3) := by decide +kernel
theorem dX12_provedAt_35 : decode cX12_provedAt 35 = .ok (.bipush 10, 2) := by decide +kernel
theorem dX12_provedAt_37 : decode cX12_provedAt 37 = .ok (.iload_n 3, 1) := by decide +kernel
theorem dX12_provedAt_38 : decode cX12_provedAt 38 = .ok (.imul, 1) := by decide +kernel
theorem dX12_provedAt_39 : decode cX12_provedAt 39 = .ok (.iload_n 2, 1) := by decide +kernel
theorem dX12_provedAt_40 : decode cX12_provedAt 40 = .ok (.iadd, 1) := by decide +kernel
theorem dX12_provedAt_41 : decode cX12_provedAt 41 = .ok (.goto 9, 3) := by decide +kernel
theorem dX12_provedAt_44 : decode cX12_provedAt 44 = .ok (.bipush 10, 2) := by decide +kernel
theorem dX12_provedAt_46 : decode cX12_provedAt 46 = .ok (.iload_n 2, 1) := by decide +kernel
theorem dX12_provedAt_47 : decode cX12_provedAt 47 = .ok (.imul, 1) := by decide +kernel
theorem dX12_provedAt_48 : decode cX12_provedAt 48 = .ok (.iload_n 3, 1) := by decide +kernel
theorem dX12_provedAt_49 : decode cX12_provedAt 49 = .ok (.iadd, 1) := by decide +kernel
theorem dX12_provedAt_50 : decode cX12_provedAt 50 = .ok (.ireturn, 1) := by decide +kernel
theorem dX12_proved_0 : decode cX12_proved 0 = .ok (.aload_n 0, 1) := by decide +kernel
theorem dX12_proved_1 : decode cX12_proved 1 = .ok (.iload_n 1, 1) := by decide +kernel
theorem dX12_proved_2 : decode cX12_proved 2 = .ok (.iconst 1, 1) := by decide +kernel
theorem dX12_proved_3 : decode cX12_proved 3 = .ok (.sipush 1000, 3) := by decide +kernel
theorem dX12_proved_6 : decode cX12_proved 6 = .ok (.invokestatic 95, 3) := by decide +kernel
theorem dX12_proved_9 : decode cX12_proved 9 = .ok (.ifCond .eq 7, 3) := by decide +kernel
theorem dX12_proved_12 : decode cX12_proved 12 = .ok (.iconst 0, 1) := by decide +kernel
theorem dX12_proved_13 : decode cX12_proved 13 = .ok (.goto 4, 3) := by decide +kernel
theorem dX12_proved_16 : decode cX12_proved 16 = .ok (.iconst 1, 1) := by decide +kernel
theorem dX12_proved_17 : decode cX12_proved 17 = .ok (.putfield 89, 3) := by decide +kernel
theorem dX12_proved_20 : decode cX12_proved 20 = .ok (.aload_n 0, 1) := by decide +kernel
theorem dX12_proved_21 : decode cX12_proved 21 = .ok (.getfield 89, 3) := by decide +kernel
theorem dX12_proved_24 : decode cX12_proved 24 = .ok (.ifCond .le 5, 3) := by decide +kernel
theorem dX12_proved_27 : decode cX12_proved 27 = .ok (.iconst 0, 1) := by decide +kernel
theorem dX12_proved_28 : decode cX12_proved 28 = .ok (.ireturn, 1) := by decide +kernel
theorem dX12_proved_29 : decode cX12_proved 29 = .ok (.aload_n 0, 1) := by decide +kernel
theorem dX12_proved_30 : decode cX12_proved 30 = .ok (.iload_n 1, 1) := by decide +kernel
theorem dX12_proved_31 : decode cX12_proved 31 = .ok (.invokevirtual 346, 3) := by decide +kernel
theorem dX12_proved_34 : decode cX12_proved 34 = .ok (.istore_n 3, 1) := by decide +kernel
theorem dX12_proved_35 : decode cX12_proved 35 = .ok (.aload_n 0, 1) := by decide +kernel
theorem dX12_proved_36 : decode cX12_proved 36 = .ok (.iload_n 2, 1) := by decide +kernel
theorem dX12_proved_37 : decode cX12_proved 37 = .ok (.iconst (-1), 1) := by decide +kernel
theorem dX12_proved_38 : decode cX12_proved 38 = .ok (.if_icmp .eq 14, 3) := by decide +kernel
theorem dX12_proved_41 : decode cX12_proved 41 = .ok (.iload_n 2, 1) := by decide +kernel
theorem dX12_proved_42 : decode cX12_proved 42 = .ok (.iconst 0, 1) := by decide +kernel
theorem dX12_proved_43 : decode cX12_proved 43 = .ok (.iload_n 3, 1) := by decide +kernel
theorem dX12_proved_44 : decode cX12_proved 44 = .ok (.iconst 1, 1) := by decide +kernel
theorem dX12_proved_45 : decode cX12_proved 45 = .ok (.isub, 1) := by decide +kernel
theorem dX12_proved_46 : decode cX12_proved 46 = .ok (.invokestatic 95, 3) := by decide +kernel
theorem dX12_proved_49 : decode cX12_proved 49 = .ok (.ifCond .eq 7, 3) := by decide +kernel
theorem dX12_proved_52 : decode cX12_proved 52 = .ok (.iconst 0, 1) := by decide +kernel
theorem dX12_proved_53 : decode cX12_proved 53 = .ok (.goto 4, 3) := by decide +kernel
theorem dX12_proved_56 : decode cX12_proved 56 = .ok (.iconst 2, 1) := by decide +kernel
theorem dX12_proved_57 : decode cX12_proved 57 = .ok (.putfield 89, 3) := by decide +kernel
theorem dX12_proved_60 : decode cX12_proved 60 = .ok (.aload_n 0, 1) := by decide +kernel
theorem dX12_proved_61 : decode cX12_proved 61 = .ok (.getfield 89, 3) := by decide +kernel
theorem dX12_proved_64 : decode cX12_proved 64 = .ok (.ifCond .le 7, 3) := by decide +kernel
theorem dX12_proved_67 : decode cX12_proved 67 = .ok (.iconst 0, 1) := by decide +kernel
theorem dX12_proved_68 : decode cX12_proved 68 = .ok (.goto 17, 3) := by decide +kernel
theorem dX12_proved_71 : decode cX12_proved 71 = .ok (.iload_n 2, 1) := by decide +kernel
theorem dX12_proved_72 : decode cX12_proved 72 = .ok (.iconst (-1), 1) := by decide +kernel
theorem dX12_proved_73 : decode cX12_proved 73 = .ok (.if_icmp .ne 7, 3) := by decide +kernel
theorem dX12_proved_76 : decode cX12_proved 76 = .ok (.iload_n 3, 1) := by decide +kernel
theorem dX12_proved_77 : decode cX12_proved 77 = .ok (.goto 8, 3) := by decide +kernel
theorem dX12_proved_80 : decode cX12_proved 80 = .ok (.aload_n 0, 1) := by decide +kernel
theorem dX12_proved_81 : decode cX12_proved 81 = .ok (.iload_n 2, 1) := by decide +kernel
theorem dX12_proved_82 : decode cX12_proved 82 = .ok (.invokevirtual 349, 3) := by decide +kernel
theorem dX12_proved_85 : decode cX12_proved 85 = .ok (.ireturn, 1) := by decide +kernel
theorem dX12_layWins_0 : decode cX12_layWins 0 = .ok (.iconst 0, 1) := by decide +kernel
theorem dX12_layWins_1 : decode cX12_layWins 1 = .ok (.istore_n 1, 1) := by decide +kernel
theorem dX12_layWins_2 : decode cX12_layWins 2 = .ok (.iload_n 1, 1) := by decide +kernel
theorem dX12_layWins_3 : decode cX12_layWins 3 = .ok (.aload_n 0, 1) := by decide +kernel
theorem dX12_layWins_4 : decode cX12_layWins 4 = .ok (.getfield 92, 3) := by decide +kernel
theorem dX12_layWins_7 : decode cX12_layWins 7 = .ok (.if_icmp .ge 129, 3) := by decide +kernel
theorem dX12_layWins_10 : decode cX12_layWins 10 = .ok (.iconst 0, 1) := by decide +kernel
theorem dX12_layWins_11 : decode cX12_layWins 11 = .ok (.istore_n 2, 1) := by decide +kernel
theorem dX12_layWins_12 : decode cX12_layWins 12 = .ok (.iconst 0, 1) := by decide +kernel
theorem dX12_layWins_13 : decode cX12_layWins 13 = .ok (.istore_n 3, 1) := by decide +kernel
theorem dX12_layWins_14 : decode cX12_layWins 14 = .ok (.iconst 0, 1) := by decide +kernel
theorem dX12_layWins_15 : decode cX12_layWins 15 = .ok (.istore 4, 2) := by decide +kernel
theorem dX12_layWins_17 : decode cX12_layWins 17 = .ok (.iload 4, 2) := by decide +kernel
theorem dX12_layWins_19 : decode cX12_layWins 19 = .ok (.aload_n 0, 1) := by decide +kernel
theorem dX12_layWins_20 : decode cX12_layWins 20 = .ok (.getfield 92, 3) := by decide +kernel
theorem dX12_layWins_23 : decode cX12_layWins 23 = .ok (.if_icmp .ge 92, 3) := by decide +kernel
theorem dX12_layWins_26 : decode cX12_layWins 26 = .ok (.iload_n 1, 1) := by decide +kernel
theorem dX12_layWins_27 : decode cX12_layWins 27 = .ok (.iload 4, 2) := by decide +kernel
theorem dX12_layWins_29 : decode cX12_layWins 29 = .ok (.if_icmp .ne 7, 3) := by decide +kernel
theorem dX12_layWins_32 : decode cX12_layWins 32 = .ok (.iconst 0, 1) := by decide +kernel
theorem dX12_layWins_33 : decode cX12_layWins 33 = .ok (.goto 10, 3) := by decide +kernel
theorem dX12_layWins_36 : decode cX12_layWins 36 = .ok (.aload_n 0, 1) := by decide +kernel
theorem dX12_layWins_37 : decode cX12_layWins 37 = .ok (.iload_n 1, 1) := by decide +kernel
theorem dX12_layWins_38 : decode cX12_layWins 38 = .ok (.iload 4, 2) := by decide +kernel
theorem dX12_layWins_40 : decode cX12_layWins 40 = .ok (.invokevirtual 227, 3) := by decide +kernel
theorem dX12_layWins_43 : decode cX12_layWins 43 = .ok (.istore 5, 2) := by decide +kernel
theorem dX12_layWins_45 : decode cX12_layWins 45 = .ok (.iload_n 1, 1) := by decide +kernel
theorem dX12_layWins_46 : decode cX12_layWins 46 = .ok (.iload 4, 2) := by decide +kernel
theorem dX12_layWins_48 : decode cX12_layWins 48 = .ok (.if_icmp .ne 7, 3) := by decide +kernel
theorem dX12_layWins_51 : decode cX12_layWins 51 = .ok (.iconst 0, 1) := by decide +kernel
theorem dX12_layWins_52 : decode cX12_layWins 52 = .ok (.goto 10, 3) := by decide +kernel
theorem dX12_layWins_55 : decode cX12_layWins 55 = .ok (.aload_n 0, 1) := by decide +kernel
theorem dX12_layWins_56 : decode cX12_layWins 56 = .ok (.iload_n 1, 1) := by decide +kernel
theorem dX12_layWins_57 : decode cX12_layWins 57 = .ok (.iload 4, 2) := by decide +kernel
theorem dX12_layWins_59 : decode cX12_layWins 59 = .ok (.invokevirtual 230, 3) := by decide +kernel
theorem dX12_layWins_62 : decode cX12_layWins 62 = .ok (.istore 6, 2) := by decide +kernel
theorem dX12_layWins_64 : decode cX12_layWins 64 = .ok (.iload_n 2, 1) := by decide +kernel
theorem dX12_layWins_65 : decode cX12_layWins 65 = .ok (.iload 5, 2) := by decide +kernel
theorem dX12_layWins_67 : decode cX12_layWins 67 = .ok (.iadd, 1) := by decide +kernel
theorem dX12_layWins_68 : decode cX12_layWins 68 = .ok (.istore_n 2, 1) := by decide +kernel
theorem dX12_layWins_69 : decode cX12_layWins 69 = .ok (.iload_n 3, 1) := by decide +kernel
theorem dX12_layWins_70 : decode cX12_layWins 70 = .ok (.iload 6, 2) := by decide +kernel
theorem dX12_layWins_72 : decode cX12_layWins 72 = .ok (.iadd, 1) := by decide +kernel
theorem dX12_layWins_73 : decode cX12_layWins 73 = .ok (.istore_n 3, 1) := by decide +kernel
theorem dX12_layWins_74 : decode cX12_layWins 74 = .ok (.aload_n 0, 1) := by decide +kernel
theorem dX12_layWins_75 : decode cX12_layWins 75 = .ok (.getfield 82, 3) := by decide +kernel
theorem dX12_layWins_78 : decode cX12_layWins 78 = .ok (.bipush 8, 2) := by decide +kernel
theorem dX12_layWins_80 : decode cX12_layWins 80 = .ok (.iload_n 1, 1) := by decide +kernel
theorem dX12_layWins_81 : decode cX12_layWins 81 = .ok (.imul, 1) := by decide +kernel
theorem dX12_layWins_82 : decode cX12_layWins 82 = .ok (.iload 4, 2) := by decide +kernel
theorem dX12_layWins_84 : decode cX12_layWins 84 = .ok (.iadd, 1) := by decide +kernel
theorem dX12_layWins_85 : decode cX12_layWins 85 = .ok (.iload_n 1, 1) := by decide +kernel
theorem dX12_layWins_86 : decode cX12_layWins 86 = .ok (.iload 4, 2) := by decide +kernel
theorem dX12_layWins_88 : decode cX12_layWins 88 = .ok (.if_icmp .ne 7, 3) := by decide +kernel
theorem dX12_layWins_91 : decode cX12_layWins 91 = .ok (.iconst 0, 1) := by decide +kernel
theorem dX12_layWins_92 : decode cX12_layWins 92 = .ok (.goto 16, 3) := by decide +kernel
theorem dX12_layWins_95 : decode cX12_layWins 95 = .ok (.iload 5, 2) := by decide +kernel
theorem dX12_layWins_97 : decode cX12_layWins 97 = .ok (.iload 6, 2) := by decide +kernel
theorem dX12_layWins_99 : decode cX12_layWins 99 = .ok (.iadd, 1) := by decide +kernel
theorem dX12_layWins_100 : decode cX12_layWins 100 = .ok (.aload_n 0, 1) := by decide +kernel
theorem dX12_layWins_101 : decode cX12_layWins 101 = .ok (.iload 4, 2) := by decide +kernel
theorem dX12_layWins_103 : decode cX12_layWins 103 = .ok (.iload_n 1, 1) := by decide +kernel
theorem dX12_layWins_104 : decode cX12_layWins 104 = .ok (.invokevirtual 227, 3) := by decide +kernel
theorem dX12_layWins_107 : decode cX12_layWins 107 = .ok (.iadd, 1) := by decide +kernel
theorem dX12_layWins_108 : decode cX12_layWins 108 = .ok (.iastore, 1) := by decide +kernel
theorem dX12_layWins_109 : decode cX12_layWins 109 = .ok (.iinc 4 1, 3) := by decide +kernel
theorem dX12_layWins_112 : decode cX12_layWins 112 = .ok (.goto (-95), 3) := by decide +kernel
theorem dX12_layWins_115 : decode cX12_layWins 115 = .ok (.aload_n 0, 1) := by decide +kernel
theorem dX12_layWins_116 : decode cX12_layWins 116 = .ok (.getfield 79, 3) := by decide +kernel
theorem dX12_layWins_119 : decode cX12_layWins 119 = .ok (.iload_n 1, 1) := by decide +kernel
theorem dX12_layWins_120 : decode cX12_layWins 120 = .ok (.iload_n 2, 1) := by decide +kernel
theorem dX12_layWins_121 : decode cX12_layWins 121 = .ok (.i2d, 1) := by decide +kernel
theorem dX12_layWins_122 : decode cX12_layWins 122 = .ok (.ldc2_w 352, 3) := by decide +kernel
theorem dX12_layWins_125 : decode cX12_layWins 125 = .ok (.iload_n 3, 1) := by decide +kernel
theorem dX12_layWins_126 : decode cX12_layWins 126 = .ok (.i2d, 1) := by decide +kernel
theorem dX12_layWins_127 : decode cX12_layWins 127 = .ok (.dmul, 1) := by decide +kernel
theorem dX12_layWins_128 : decode cX12_layWins 128 = .ok (.dadd, 1) := by decide +kernel
theorem dX12_layWins_129 : decode cX12_layWins 129 = .ok (.dastore, 1) := by decide +kernel
theorem dX12_layWins_130 : decode cX12_layWins 130 = .ok (.iinc 1 1, 3) := by decide +kernel
theorem dX12_layWins_133 : decode cX12_layWins 133 = .ok (.goto (-131), 3) := by decide +kernel
theorem dX12_layWins_136 : decode cX12_layWins 136 = .ok (.return_, 1) := by decide +kernel
theorem dX12_freshOf_0 : decode cX12_freshOf 0 = .ok (.dconst 0, 1) := by decide +kernel
theorem dX12_freshOf_1 : decode cX12_freshOf 1 = .ok (.dstore_n 2, 1) := by decide +kernel
theorem dX12_freshOf_2 : decode cX12_freshOf 2 = .ok (.iconst 0, 1) := by decide +kernel
theorem dX12_freshOf_3 : decode cX12_freshOf 3 = .ok (.istore 4, 2) := by decide +kernel
theorem dX12_freshOf_5 : decode cX12_freshOf 5 = .ok (.iload 4, 2) := by decide +kernel
theorem dX12_freshOf_7 : decode cX12_freshOf 7 = .ok (.aload_n 0, 1) := by decide +kernel
theorem dX12_freshOf_8 : decode cX12_freshOf 8 = .ok (.getfield 92, 3) := by decide +kernel
theorem dX12_freshOf_11 : decode cX12_freshOf 11 = .ok (.if_icmp .ge 70, 3) := by decide +kernel
theorem dX12_freshOf_14 : decode cX12_freshOf 14 = .ok (.aload_n 0, 1) := by decide +kernel
theorem dX12_freshOf_15 : decode cX12_freshOf 15 = .ok (.getfield 72, 3) := by decide +kernel
theorem dX12_freshOf_18 : decode cX12_freshOf 18 = .ok (.iload_n 1, 1) := by decide +kernel
theorem dX12_freshOf_19 : decode cX12_freshOf 19 = .ok (.daload, 1) := by decide +kernel
theorem dX12_freshOf_20 : decode cX12_freshOf 20 = .ok (.aload_n 0, 1) := by decide +kernel
theorem dX12_freshOf_21 : decode cX12_freshOf 21 = .ok (.getfield 72, 3) := by decide +kernel
theorem dX12_freshOf_24 : decode cX12_freshOf 24 = .ok (.iload 4, 2) := by decide +kernel
theorem dX12_freshOf_26 : decode cX12_freshOf 26 = .ok (.daload, 1) := by decide +kernel
theorem dX12_freshOf_27 : decode cX12_freshOf 27 = .ok (.dadd, 1) := by decide +kernel
theorem dX12_freshOf_28 : decode cX12_freshOf 28 = .ok (.dstore 5, 2) := by decide +kernel
theorem dX12_freshOf_30 : decode cX12_freshOf 30 = .ok (.dload_n 2, 1) := by decide +kernel
theorem dX12_freshOf_31 : decode cX12_freshOf 31 = .ok (.aload_n 0, 1) := by decide +kernel
theorem dX12_freshOf_32 : decode cX12_freshOf 32 = .ok (.getfield 82, 3) := by decide +kernel
theorem dX12_freshOf_35 : decode cX12_freshOf 35 = .ok (.bipush 8, 2) := by decide +kernel
theorem dX12_freshOf_37 : decode cX12_freshOf 37 = .ok (.iload_n 1, 1) := by decide +kernel
theorem dX12_freshOf_38 : decode cX12_freshOf 38 = .ok (.imul, 1) := by decide +kernel
theorem dX12_freshOf_39 : decode cX12_freshOf 39 = .ok (.iload 4, 2) := by decide +kernel
theorem dX12_freshOf_41 : decode cX12_freshOf 41 = .ok (.iadd, 1) := by decide +kernel
theorem dX12_freshOf_42 : decode cX12_freshOf 42 = .ok (.iaload, 1) := by decide +kernel
theorem dX12_freshOf_43 : decode cX12_freshOf 43 = .ok (.ifCond .le 29, 3) := by decide +kernel
theorem dX12_freshOf_46 : decode cX12_freshOf 46 = .ok (.dload 5, 2) := by decide +kernel
theorem dX12_freshOf_48 : decode cX12_freshOf 48 = .ok (.dconst 0, 1) := by decide +kernel
theorem dX12_freshOf_49 : decode cX12_freshOf 49 = .ok (.dcmp .l, 1) := by decide +kernel
theorem dX12_freshOf_50 : decode cX12_freshOf 50 = .ok (.ifCond .le 22, 3) := by decide +kernel
theorem dX12_freshOf_53 : decode cX12_freshOf 53 = .ok (.aload_n 0, 1) := by decide +kernel
theorem dX12_freshOf_54 : decode cX12_freshOf 54 = .ok (.getfield 82, 3) := by decide +kernel
theorem dX12_freshOf_57 : decode cX12_freshOf 57 = .ok (.bipush 8, 2) := by decide +kernel
theorem dX12_freshOf_59 : decode cX12_freshOf 59 = .ok (.iload_n 1, 1) := by decide +kernel
theorem dX12_freshOf_60 : decode cX12_freshOf 60 = .ok (.imul, 1) := by decide +kernel
theorem dX12_freshOf_61 : decode cX12_freshOf 61 = .ok (.iload 4, 2) := by decide +kernel
theorem dX12_freshOf_63 : decode cX12_freshOf 63 = .ok (.iadd, 1) := by decide +kernel
theorem dX12_freshOf_64 : decode cX12_freshOf 64 = .ok (.iaload, 1) := by decide +kernel
theorem dX12_freshOf_65 : decode cX12_freshOf 65 = .ok (.i2d, 1) := by decide +kernel
theorem dX12_freshOf_66 : decode cX12_freshOf 66 = .ok (.dload 5, 2) := by decide +kernel
theorem dX12_freshOf_68 : decode cX12_freshOf 68 = .ok (.ddiv, 1) := by decide +kernel
theorem dX12_freshOf_69 : decode cX12_freshOf 69 = .ok (.goto 4, 3) := by decide +kernel
theorem dX12_freshOf_72 : decode cX12_freshOf 72 = .ok (.dconst 0, 1) := by decide +kernel
theorem dX12_freshOf_73 : decode cX12_freshOf 73 = .ok (.dadd, 1) := by decide +kernel
theorem dX12_freshOf_74 : decode cX12_freshOf 74 = .ok (.dstore_n 2, 1) := by decide +kernel
theorem dX12_freshOf_75 : decode cX12_freshOf 75 = .ok (.iinc 4 1, 3) := by decide +kernel
theorem dX12_freshOf_78 : decode cX12_freshOf 78 = .ok (.goto (-73), 3) := by decide +kernel
theorem dX12_freshOf_81 : decode cX12_freshOf 81 = .ok (.dload_n 2, 1) := by decide +kernel
theorem dX12_freshOf_82 : decode cX12_freshOf 82 = .ok (.dconst 0, 1) := by decide +kernel
theorem dX12_freshOf_83 : decode cX12_freshOf 83 = .ok (.dcmp .l, 1) := by decide +kernel
theorem dX12_freshOf_84 : decode cX12_freshOf 84 = .ok (.ifCond .le 14, 3) := by decide +kernel
theorem dX12_freshOf_87 : decode cX12_freshOf 87 = .ok (.aload_n 0, 1) := by decide +kernel
theorem dX12_freshOf_88 : decode cX12_freshOf 88 = .ok (.getfield 79, 3) := by decide +kernel
theorem dX12_freshOf_91 : decode cX12_freshOf 91 = .ok (.iload_n 1, 1) := by decide +kernel
theorem dX12_freshOf_92 : decode cX12_freshOf 92 = .ok (.daload, 1) := by decide +kernel
theorem dX12_freshOf_93 : decode cX12_freshOf 93 = .ok (.dload_n 2, 1) := by decide +kernel
theorem dX12_freshOf_94 : decode cX12_freshOf 94 = .ok (.ddiv, 1) := by decide +kernel
theorem dX12_freshOf_95 : decode cX12_freshOf 95 = .ok (.goto 9, 3) := by decide +kernel
theorem dX12_freshOf_98 : decode cX12_freshOf 98 = .ok (.aload_n 0, 1) := by decide +kernel
theorem dX12_freshOf_99 : decode cX12_freshOf 99 = .ok (.getfield 72, 3) := by decide +kernel
theorem dX12_freshOf_102 : decode cX12_freshOf 102 = .ok (.iload_n 1, 1) := by decide +kernel
theorem dX12_freshOf_103 : decode cX12_freshOf 103 = .ok (.daload, 1) := by decide +kernel
theorem dX12_freshOf_104 : decode cX12_freshOf 104 = .ok (.dreturn, 1) := by decide +kernel
theorem dX12_oneRound_0 : decode cX12_oneRound 0 = .ok (.dconst 0, 1) := by decide +kernel
theorem dX12_oneRound_1 : decode cX12_oneRound 1 = .ok (.dstore_n 1, 1) := by decide +kernel
theorem dX12_oneRound_2 : decode cX12_oneRound 2 = .ok (.iconst 0, 1) := by decide +kernel
theorem dX12_oneRound_3 : decode cX12_oneRound 3 = .ok (.istore_n 3, 1) := by decide +kernel
theorem dX12_oneRound_4 : decode cX12_oneRound 4 = .ok (.iload_n 3, 1) := by decide +kernel
theorem dX12_oneRound_5 : decode cX12_oneRound 5 = .ok (.aload_n 0, 1) := by decide +kernel
theorem dX12_oneRound_6 : decode cX12_oneRound 6 = .ok (.getfield 92, 3) := by decide +kernel
theorem dX12_oneRound_9 : decode cX12_oneRound 9 = .ok (.if_icmp .ge 20, 3) := by decide +kernel
theorem dX12_oneRound_12 : decode cX12_oneRound 12 = .ok (.aload_n 0, 1) := by decide +kernel
theorem dX12_oneRound_13 : decode cX12_oneRound 13 = .ok (.getfield 76, 3) := by decide +kernel
theorem dX12_oneRound_16 : decode cX12_oneRound 16 = .ok (.iload_n 3, 1) := by decide +kernel
theorem dX12_oneRound_17 : decode cX12_oneRound 17 = .ok (.aload_n 0, 1) := by decide +kernel
theorem dX12_oneRound_18 : decode cX12_oneRound 18 = .ok (.iload_n 3, 1) := by decide +kernel
theorem dX12_oneRound_19 : decode cX12_oneRound 19 = .ok (.invokevirtual 354, 3) := by decide +kernel
theorem dX12_oneRound_22 : decode cX12_oneRound 22 = .ok (.dastore, 1) := by decide +kernel
theorem dX12_oneRound_23 : decode cX12_oneRound 23 = .ok (.iinc 3 1, 3) := by decide +kernel
theorem dX12_oneRound_26 : decode cX12_oneRound 26 = .ok (.goto (-22), 3) := by decide +kernel
theorem dX12_oneRound_29 : decode cX12_oneRound 29 = .ok (.iconst 0, 1) := by decide +kernel
theorem dX12_oneRound_30 : decode cX12_oneRound 30 = .ok (.istore_n 3, 1) := by decide +kernel
theorem dX12_oneRound_31 : decode cX12_oneRound 31 = .ok (.iload_n 3, 1) := by decide +kernel
theorem dX12_oneRound_32 : decode cX12_oneRound 32 = .ok (.aload_n 0, 1) := by decide +kernel
theorem dX12_oneRound_33 : decode cX12_oneRound 33 = .ok (.getfield 92, 3) := by decide +kernel
theorem dX12_oneRound_36 : decode cX12_oneRound 36 = .ok (.if_icmp .ge 18, 3) := by decide +kernel
theorem dX12_oneRound_39 : decode cX12_oneRound 39 = .ok (.dload_n 1, 1) := by decide +kernel
theorem dX12_oneRound_40 : decode cX12_oneRound 40 = .ok (.aload_n 0, 1) := by decide +kernel
theorem dX12_oneRound_41 : decode cX12_oneRound 41 = .ok (.getfield 76, 3) := by decide +kernel
theorem dX12_oneRound_44 : decode cX12_oneRound 44 = .ok (.iload_n 3, 1) := by decide +kernel
theorem dX12_oneRound_45 : decode cX12_oneRound 45 = .ok (.daload, 1) := by decide +kernel
theorem dX12_oneRound_46 : decode cX12_oneRound 46 = .ok (.dadd, 1) := by decide +kernel
theorem dX12_oneRound_47 : decode cX12_oneRound 47 = .ok (.dstore_n 1, 1) := by decide +kernel
theorem dX12_oneRound_48 : decode cX12_oneRound 48 = .ok (.iinc 3 1, 3) := by decide +kernel
theorem dX12_oneRound_51 : decode cX12_oneRound 51 = .ok (.goto (-20), 3) := by decide +kernel
theorem dX12_oneRound_54 : decode cX12_oneRound 54 = .ok (.iconst 0, 1) := by decide +kernel
theorem dX12_oneRound_55 : decode cX12_oneRound 55 = .ok (.istore_n 3, 1) := by decide +kernel
theorem dX12_oneRound_56 : decode cX12_oneRound 56 = .ok (.iload_n 3, 1) := by decide +kernel
theorem dX12_oneRound_57 : decode cX12_oneRound 57 = .ok (.aload_n 0, 1) := by decide +kernel
theorem dX12_oneRound_58 : decode cX12_oneRound 58 = .ok (.getfield 92, 3) := by decide +kernel
theorem dX12_oneRound_61 : decode cX12_oneRound 61 = .ok (.if_icmp .ge 44, 3) := by decide +kernel
theorem dX12_oneRound_64 : decode cX12_oneRound 64 = .ok (.aload_n 0, 1) := by decide +kernel
theorem dX12_oneRound_65 : decode cX12_oneRound 65 = .ok (.getfield 72, 3) := by decide +kernel
theorem dX12_oneRound_68 : decode cX12_oneRound 68 = .ok (.iload_n 3, 1) := by decide +kernel
theorem dX12_oneRound_69 : decode cX12_oneRound 69 = .ok (.dload_n 1, 1) := by decide +kernel
theorem dX12_oneRound_70 : decode cX12_oneRound 70 = .ok (.dconst 0, 1) := by decide +kernel
theorem dX12_oneRound_71 : decode cX12_oneRound 71 = .ok (.dcmp .l, 1) := by decide +kernel
theorem dX12_oneRound_72 : decode cX12_oneRound 72 = .ok (.ifCond .le 20, 3) := by decide +kernel
theorem dX12_oneRound_75 : decode cX12_oneRound 75 = .ok (.aload_n 0, 1) := by decide +kernel
theorem dX12_oneRound_76 : decode cX12_oneRound 76 = .ok (.getfield 76, 3) := by decide +kernel
theorem dX12_oneRound_79 : decode cX12_oneRound 79 = .ok (.iload_n 3, 1) := by decide +kernel
theorem dX12_oneRound_80 : decode cX12_oneRound 80 = .ok (.daload, 1) := by decide +kernel
theorem dX12_oneRound_81 : decode cX12_oneRound 81 = .ok (.aload_n 0, 1) := by decide +kernel
theorem dX12_oneRound_82 : decode cX12_oneRound 82 = .ok (.getfield 92, 3) := by decide +kernel
theorem dX12_oneRound_85 : decode cX12_oneRound 85 = .ok (.i2d, 1) := by decide +kernel
theorem dX12_oneRound_86 : decode cX12_oneRound 86 = .ok (.dload_n 1, 1) := by decide +kernel
theorem dX12_oneRound_87 : decode cX12_oneRound 87 = .ok (.ddiv, 1) := by decide +kernel
theorem dX12_oneRound_88 : decode cX12_oneRound 88 = .ok (.dmul, 1) := by decide +kernel
theorem dX12_oneRound_89 : decode cX12_oneRound 89 = .ok (.goto 9, 3) := by decide +kernel
theorem dX12_oneRound_92 : decode cX12_oneRound 92 = .ok (.aload_n 0, 1) := by decide +kernel
theorem dX12_oneRound_93 : decode cX12_oneRound 93 = .ok (.getfield 76, 3) := by decide +kernel
theorem dX12_oneRound_96 : decode cX12_oneRound 96 = .ok (.iload_n 3, 1) := by decide +kernel
theorem dX12_oneRound_97 : decode cX12_oneRound 97 = .ok (.daload, 1) := by decide +kernel
theorem dX12_oneRound_98 : decode cX12_oneRound 98 = .ok (.dastore, 1) := by decide +kernel
theorem dX12_oneRound_99 : decode cX12_oneRound 99 = .ok (.iinc 3 1, 3) := by decide +kernel
theorem dX12_oneRound_102 : decode cX12_oneRound 102 = .ok (.goto (-46), 3) := by decide +kernel
theorem dX12_oneRound_105 : decode cX12_oneRound 105 = .ok (.return_, 1) := by decide +kernel
theorem dX12_layStrengths_0 : decode cX12_layStrengths 0 = .ok (.aload_n 0, 1) := by decide +kernel
theorem dX12_layStrengths_1 : decode cX12_layStrengths 1 = .ok (.invokevirtual 358, 3) := by decide +kernel
theorem dX12_layStrengths_4 : decode cX12_layStrengths 4 = .ok (.iconst 0, 1) := by decide +kernel
theorem dX12_layStrengths_5 : decode cX12_layStrengths 5 = .ok (.istore_n 2, 1) := by decide +kernel
theorem dX12_layStrengths_6 : decode cX12_layStrengths 6 = .ok (.iload_n 2, 1) := by decide +kernel
theorem dX12_layStrengths_7 : decode cX12_layStrengths 7 = .ok (.aload_n 0, 1) := by decide +kernel
theorem dX12_layStrengths_8 : decode cX12_layStrengths 8 = .ok (.getfield 92, 3) := by decide +kernel
theorem dX12_layStrengths_11 : decode cX12_layStrengths 11 = .ok (.if_icmp .ge 16, 3) := by decide +kernel
theorem dX12_layStrengths_14 : decode cX12_layStrengths 14 = .ok (.aload_n 0, 1) := by decide +kernel
theorem dX12_layStrengths_15 : decode cX12_layStrengths 15 = .ok (.getfield 72, 3) := by decide +kernel
theorem dX12_layStrengths_18 : decode cX12_layStrengths 18 = .ok (.iload_n 2, 1) := by decide +kernel
theorem dX12_layStrengths_19 : decode cX12_layStrengths 19 = .ok (.dconst 1, 1) := by decide +kernel
theorem dX12_layStrengths_20 : decode cX12_layStrengths 20 = .ok (.dastore, 1) := by decide +kernel
theorem dX12_layStrengths_21 : decode cX12_layStrengths 21 = .ok (.iinc 2 1, 3) := by decide +kernel
theorem dX12_layStrengths_24 : decode cX12_layStrengths 24 = .ok (.goto (-18), 3) := by decide +kernel
theorem dX12_layStrengths_27 : decode cX12_layStrengths 27 = .ok (.iconst 0, 1) := by decide +kernel
theorem dX12_layStrengths_28 : decode cX12_layStrengths 28 = .ok (.istore_n 2, 1) := by decide +kernel
theorem dX12_layStrengths_29 : decode cX12_layStrengths 29 = .ok (.iload_n 2, 1) := by decide +kernel
theorem dX12_layStrengths_30 : decode cX12_layStrengths 30 = .ok (.iload_n 1, 1) := by decide +kernel
theorem dX12_layStrengths_31 : decode cX12_layStrengths 31 = .ok (.if_icmp .ge 13, 3) := by decide +kernel
theorem dX12_layStrengths_34 : decode cX12_layStrengths 34 = .ok (.aload_n 0, 1) := by decide +kernel
theorem dX12_layStrengths_35 : decode cX12_layStrengths 35 = .ok (.invokevirtual 361, 3) := by decide +kernel
theorem dX12_layStrengths_38 : decode cX12_layStrengths 38 = .ok (.iinc 2 1, 3) := by decide +kernel
theorem dX12_layStrengths_41 : decode cX12_layStrengths 41 = .ok (.goto (-12), 3) := by decide +kernel
theorem dX12_layStrengths_44 : decode cX12_layStrengths 44 = .ok (.return_, 1) := by decide +kernel
theorem dX12_strength_0 : decode cX12_strength 0 = .ok (.aload_n 0, 1) := by decide +kernel
theorem dX12_strength_1 : decode cX12_strength 1 = .ok (.aload_n 0, 1) := by decide +kernel
theorem dX12_strength_2 : decode cX12_strength 2 = .ok (.iload_n 1, 1) := by decide +kernel
theorem dX12_strength_3 : decode cX12_strength 3 = .ok (.invokevirtual 151, 3) := by decide +kernel
theorem dX12_strength_6 : decode cX12_strength 6 = .ok (.ifCond .ne 7, 3) := by decide +kernel
theorem dX12_strength_9 : decode cX12_strength 9 = .ok (.iconst 1, 1) := by decide +kernel
theorem dX12_strength_10 : decode cX12_strength 10 = .ok (.goto 18, 3) := by decide +kernel
theorem dX12_strength_13 : decode cX12_strength 13 = .ok (.iload_n 2, 1) := by decide +kernel
theorem dX12_strength_14 : decode cX12_strength 14 = .ok (.iconst 0, 1) := by decide +kernel
theorem dX12_strength_15 : decode cX12_strength 15 = .ok (.bipush 60, 2) := by decide +kernel
theorem dX12_strength_17 : decode cX12_strength 17 = .ok (.invokestatic 95, 3) := by decide +kernel
theorem dX12_strength_20 : decode cX12_strength 20 = .ok (.ifCond .eq 7, 3) := by decide +kernel
theorem dX12_strength_23 : decode cX12_strength 23 = .ok (.iconst 0, 1) := by decide +kernel
theorem dX12_strength_24 : decode cX12_strength 24 = .ok (.goto 4, 3) := by decide +kernel
theorem dX12_strength_27 : decode cX12_strength 27 = .ok (.iconst 2, 1) := by decide +kernel
theorem dX12_strength_28 : decode cX12_strength 28 = .ok (.putfield 89, 3) := by decide +kernel
theorem dX12_strength_31 : decode cX12_strength 31 = .ok (.aload_n 0, 1) := by decide +kernel
theorem dX12_strength_32 : decode cX12_strength 32 = .ok (.getfield 89, 3) := by decide +kernel
theorem dX12_strength_35 : decode cX12_strength 35 = .ok (.ifCond .le 5, 3) := by decide +kernel
theorem dX12_strength_38 : decode cX12_strength 38 = .ok (.dconst 0, 1) := by decide +kernel
theorem dX12_strength_39 : decode cX12_strength 39 = .ok (.dreturn, 1) := by decide +kernel
theorem dX12_strength_40 : decode cX12_strength 40 = .ok (.aload_n 0, 1) := by decide +kernel
theorem dX12_strength_41 : decode cX12_strength 41 = .ok (.iload_n 2, 1) := by decide +kernel
theorem dX12_strength_42 : decode cX12_strength 42 = .ok (.invokevirtual 364, 3) := by decide +kernel
theorem dX12_strength_45 : decode cX12_strength 45 = .ok (.aload_n 0, 1) := by decide +kernel
theorem dX12_strength_46 : decode cX12_strength 46 = .ok (.getfield 72, 3) := by decide +kernel
theorem dX12_strength_49 : decode cX12_strength 49 = .ok (.iload_n 1, 1) := by decide +kernel
theorem dX12_strength_50 : decode cX12_strength 50 = .ok (.daload, 1) := by decide +kernel
theorem dX12_strength_51 : decode cX12_strength 51 = .ok (.dreturn, 1) := by decide +kernel
theorem dX12_expected_0 : decode cX12_expected 0 = .ok (.dconst 0, 1) := by decide +kernel
theorem dX12_expected_1 : decode cX12_expected 1 = .ok (.dstore_n 2, 1) := by decide +kernel
theorem dX12_expected_2 : decode cX12_expected 2 = .ok (.iconst 0, 1) := by decide +kernel
theorem dX12_expected_3 : decode cX12_expected 3 = .ok (.istore 4, 2) := by decide +kernel
theorem dX12_expected_5 : decode cX12_expected 5 = .ok (.iload 4, 2) := by decide +kernel
theorem dX12_expected_7 : decode cX12_expected 7 = .ok (.aload_n 0, 1) := by decide +kernel
theorem dX12_expected_8 : decode cX12_expected 8 = .ok (.getfield 92, 3) := by decide +kernel
theorem dX12_expected_11 : decode cX12_expected 11 = .ok (.if_icmp .ge 77, 3) := by decide +kernel
theorem dX12_expected_14 : decode cX12_expected 14 = .ok (.aload_n 0, 1) := by decide +kernel
theorem dX12_expected_15 : decode cX12_expected 15 = .ok (.getfield 72, 3) := by decide +kernel
theorem dX12_expected_18 : decode cX12_expected 18 = .ok (.iload_n 1, 1) := by decide +kernel
theorem dX12_expected_19 : decode cX12_expected 19 = .ok (.daload, 1) := by decide +kernel
theorem dX12_expected_20 : decode cX12_expected 20 = .ok (.aload_n 0, 1) := by decide +kernel
theorem dX12_expected_21 : decode cX12_expected 21 = .ok (.getfield 72, 3) := by decide +kernel
theorem dX12_expected_24 : decode cX12_expected 24 = .ok (.iload 4, 2) := by decide +kernel
theorem dX12_expected_26 : decode cX12_expected 26 = .ok (.daload, 1) := by decide +kernel
theorem dX12_expected_27 : decode cX12_expected 27 = .ok (.dadd, 1) := by decide +kernel
theorem dX12_expected_28 : decode cX12_expected 28 = .ok (.dstore 5, 2) := by decide +kernel
theorem dX12_expected_30 : decode cX12_expected 30 = .ok (.dload_n 2, 1) := by decide +kernel
theorem dX12_expected_31 : decode cX12_expected 31 = .ok (.aload_n 0, 1) := by decide +kernel
theorem dX12_expected_32 : decode cX12_expected 32 = .ok (.getfield 82, 3) := by decide +kernel
theorem dX12_expected_35 : decode cX12_expected 35 = .ok (.bipush 8, 2) := by decide +kernel
theorem dX12_expected_37 : decode cX12_expected 37 = .ok (.iload_n 1, 1) := by decide +kernel
theorem dX12_expected_38 : decode cX12_expected 38 = .ok (.imul, 1) := by decide +kernel
theorem dX12_expected_39 : decode cX12_expected 39 = .ok (.iload 4, 2) := by decide +kernel
theorem dX12_expected_41 : decode cX12_expected 41 = .ok (.iadd, 1) := by decide +kernel
theorem dX12_expected_42 : decode cX12_expected 42 = .ok (.iaload, 1) := by decide +kernel
theorem dX12_expected_43 : decode cX12_expected 43 = .ok (.ifCond .le 36, 3) := by decide +kernel
theorem dX12_expected_46 : decode cX12_expected 46 = .ok (.dload 5, 2) := by decide +kernel
theorem dX12_expected_48 : decode cX12_expected 48 = .ok (.dconst 0, 1) := by decide +kernel
theorem dX12_expected_49 : decode cX12_expected 49 = .ok (.dcmp .l, 1) := by decide +kernel
theorem dX12_expected_50 : decode cX12_expected 50 = .ok (.ifCond .le 29, 3) := by decide +kernel
theorem dX12_expected_53 : decode cX12_expected 53 = .ok (.aload_n 0, 1) := by decide +kernel
theorem dX12_expected_54 : decode cX12_expected 54 = .ok (.getfield 82, 3) := by decide +kernel
theorem dX12_expected_57 : decode cX12_expected 57 = .ok (.bipush 8, 2) := by decide +kernel
theorem dX12_expected_59 : decode cX12_expected 59 = .ok (.iload_n 1, 1) := by decide +kernel
theorem dX12_expected_60 : decode cX12_expected 60 = .ok (.imul, 1) := by decide +kernel
theorem dX12_expected_61 : decode cX12_expected 61 = .ok (.iload 4, 2) := by decide +kernel
theorem dX12_expected_63 : decode cX12_expected 63 = .ok (.iadd, 1) := by decide +kernel
theorem dX12_expected_64 : decode cX12_expected 64 = .ok (.iaload, 1) := by decide +kernel
theorem dX12_expected_65 : decode cX12_expected 65 = .ok (.i2d, 1) := by decide +kernel
theorem dX12_expected_66 : decode cX12_expected 66 = .ok (.aload_n 0, 1) := by decide +kernel
theorem dX12_expected_67 : decode cX12_expected 67 = .ok (.getfield 72, 3) := by decide +kernel
theorem dX12_expected_70 : decode cX12_expected 70 = .ok (.iload_n 1, 1) := by decide +kernel
theorem dX12_expected_71 : decode cX12_expected 71 = .ok (.daload, 1) := by decide +kernel
theorem dX12_expected_72 : decode cX12_expected 72 = .ok (.dmul, 1) := by decide +kernel
theorem dX12_expected_73 : decode cX12_expected 73 = .ok (.dload 5, 2) := by decide +kernel
theorem dX12_expected_75 : decode cX12_expected 75 = .ok (.ddiv, 1) := by decide +kernel
theorem dX12_expected_76 : decode cX12_expected 76 = .ok (.goto 4, 3) := by decide +kernel
theorem dX12_expected_79 : decode cX12_expected 79 = .ok (.dconst 0, 1) := by decide +kernel
theorem dX12_expected_80 : decode cX12_expected 80 = .ok (.dadd, 1) := by decide +kernel
theorem dX12_expected_81 : decode cX12_expected 81 = .ok (.dstore_n 2, 1) := by decide +kernel
theorem dX12_expected_82 : decode cX12_expected 82 = .ok (.iinc 4 1, 3) := by decide +kernel
theorem dX12_expected_85 : decode cX12_expected 85 = .ok (.goto (-80), 3) := by decide +kernel
theorem dX12_expected_88 : decode cX12_expected 88 = .ok (.dload_n 2, 1) := by decide +kernel
theorem dX12_expected_89 : decode cX12_expected 89 = .ok (.dreturn, 1) := by decide +kernel
theorem dX12_misfit_0 : decode cX12_misfit 0 = .ok (.aload_n 0, 1) := by decide +kernel
theorem dX12_misfit_1 : decode cX12_misfit 1 = .ok (.iload_n 1, 1) := by decide +kernel
theorem dX12_misfit_2 : decode cX12_misfit 2 = .ok (.iconst 0, 1) := by decide +kernel
theorem dX12_misfit_3 : decode cX12_misfit 3 = .ok (.bipush 60, 2) := by decide +kernel
theorem dX12_misfit_5 : decode cX12_misfit 5 = .ok (.invokestatic 95, 3) := by decide +kernel
theorem dX12_misfit_8 : decode cX12_misfit 8 = .ok (.ifCond .eq 7, 3) := by decide +kernel
theorem dX12_misfit_11 : decode cX12_misfit 11 = .ok (.iconst 0, 1) := by decide +kernel
theorem dX12_misfit_12 : decode cX12_misfit 12 = .ok (.goto 4, 3) := by decide +kernel
theorem dX12_misfit_15 : decode cX12_misfit 15 = .ok (.iconst 1, 1) := by decide +kernel
theorem dX12_misfit_16 : decode cX12_misfit 16 = .ok (.putfield 89, 3) := by decide +kernel
theorem dX12_misfit_19 : decode cX12_misfit 19 = .ok (.aload_n 0, 1) := by decide +kernel
theorem dX12_misfit_20 : decode cX12_misfit 20 = .ok (.getfield 89, 3) := by decide +kernel
theorem dX12_misfit_23 : decode cX12_misfit 23 = .ok (.ifCond .le 5, 3) := by decide +kernel
theorem dX12_misfit_26 : decode cX12_misfit 26 = .ok (.dconst 0, 1) := by decide +kernel
theorem dX12_misfit_27 : decode cX12_misfit 27 = .ok (.dreturn, 1) := by decide +kernel
theorem dX12_misfit_28 : decode cX12_misfit 28 = .ok (.aload_n 0, 1) := by decide +kernel
theorem dX12_misfit_29 : decode cX12_misfit 29 = .ok (.iload_n 1, 1) := by decide +kernel
theorem dX12_misfit_30 : decode cX12_misfit 30 = .ok (.invokevirtual 364, 3) := by decide +kernel
theorem dX12_misfit_33 : decode cX12_misfit 33 = .ok (.dconst 0, 1) := by decide +kernel
theorem dX12_misfit_34 : decode cX12_misfit 34 = .ok (.dstore_n 2, 1) := by decide +kernel
theorem dX12_misfit_35 : decode cX12_misfit 35 = .ok (.iconst 0, 1) := by decide +kernel
theorem dX12_misfit_36 : decode cX12_misfit 36 = .ok (.istore 4, 2) := by decide +kernel
theorem dX12_misfit_38 : decode cX12_misfit 38 = .ok (.iload 4, 2) := by decide +kernel
theorem dX12_misfit_40 : decode cX12_misfit 40 = .ok (.aload_n 0, 1) := by decide +kernel
theorem dX12_misfit_41 : decode cX12_misfit 41 = .ok (.getfield 92, 3) := by decide +kernel
theorem dX12_misfit_44 : decode cX12_misfit 44 = .ok (.if_icmp .ge 33, 3) := by decide +kernel
theorem dX12_misfit_47 : decode cX12_misfit 47 = .ok (.aload_n 0, 1) := by decide +kernel
theorem dX12_misfit_48 : decode cX12_misfit 48 = .ok (.getfield 79, 3) := by decide +kernel
theorem dX12_misfit_51 : decode cX12_misfit 51 = .ok (.iload 4, 2) := by decide +kernel
theorem dX12_misfit_53 : decode cX12_misfit 53 = .ok (.daload, 1) := by decide +kernel
theorem dX12_misfit_54 : decode cX12_misfit 54 = .ok (.aload_n 0, 1) := by decide +kernel
theorem dX12_misfit_55 : decode cX12_misfit 55 = .ok (.iload 4, 2) := by decide +kernel
theorem dX12_misfit_57 : decode cX12_misfit 57 = .ok (.invokevirtual 367, 3) := by decide +kernel
theorem dX12_misfit_60 : decode cX12_misfit 60 = .ok (.dsub, 1) := by decide +kernel
theorem dX12_misfit_61 : decode cX12_misfit 61 = .ok (.dstore 5, 2) := by decide +kernel
theorem dX12_misfit_63 : decode cX12_misfit 63 = .ok (.dload_n 2, 1) := by decide +kernel
theorem dX12_misfit_64 : decode cX12_misfit 64 = .ok (.dload 5, 2) := by decide +kernel
theorem dX12_misfit_66 : decode cX12_misfit 66 = .ok (.dload 5, 2) := by decide +kernel
theorem dX12_misfit_68 : decode cX12_misfit 68 = .ok (.dmul, 1) := by decide +kernel
theorem dX12_misfit_69 : decode cX12_misfit 69 = .ok (.dadd, 1) := by decide +kernel
theorem dX12_misfit_70 : decode cX12_misfit 70 = .ok (.dstore_n 2, 1) := by decide +kernel
theorem dX12_misfit_71 : decode cX12_misfit 71 = .ok (.iinc 4 1, 3) := by decide +kernel
theorem dX12_misfit_74 : decode cX12_misfit 74 = .ok (.goto (-36), 3) := by decide +kernel
theorem dX12_misfit_77 : decode cX12_misfit 77 = .ok (.dload_n 2, 1) := by decide +kernel
theorem dX12_misfit_78 : decode cX12_misfit 78 = .ok (.dreturn, 1) := by decide +kernel
theorem dX12_mix_0 : decode cX12_mix 0 = .ok (.aload_n 0, 1) := by decide +kernel
theorem dX12_mix_1 : decode cX12_mix 1 = .ok (.ldc2_w 370, 3) := by decide +kernel
theorem dX12_mix_4 : decode cX12_mix 4 = .ok (.aload_n 0, 1) := by decide +kernel
theorem dX12_mix_5 : decode cX12_mix 5 = .ok (.getfield 372, 3) := by decide +kernel
theorem dX12_mix_8 : decode cX12_mix 8 = .ok (.lmul, 1) := by decide +kernel
theorem dX12_mix_9 : decode cX12_mix 9 = .ok (.lload_n 1, 1) := by decide +kernel
theorem dX12_mix_10 : decode cX12_mix 10 = .ok (.ladd, 1) := by decide +kernel
theorem dX12_mix_11 : decode cX12_mix 11 = .ok (.putfield 372, 3) := by decide +kernel
theorem dX12_mix_14 : decode cX12_mix 14 = .ok (.return_, 1) := by decide +kernel
theorem dX12_mixSamples_0 : decode cX12_mixSamples 0 = .ok (.iconst 0, 1) := by decide +kernel
theorem dX12_mixSamples_1 : decode cX12_mixSamples 1 = .ok (.istore_n 1, 1) := by decide +kernel
theorem dX12_mixSamples_2 : decode cX12_mixSamples 2 = .ok (.iload_n 1, 1) := by decide +kernel
theorem dX12_mixSamples_3 : decode cX12_mixSamples 3 = .ok (.aload_n 0, 1) := by decide +kernel
theorem dX12_mixSamples_4 : decode cX12_mixSamples 4 = .ok (.getfield 92, 3) := by decide +kernel
theorem dX12_mixSamples_7 : decode cX12_mixSamples 7 = .ok (.if_icmp .ge 55, 3) := by decide +kernel
theorem dX12_mixSamples_10 : decode cX12_mixSamples 10 = .ok (.iconst 0, 1) := by decide +kernel
theorem dX12_mixSamples_11 : decode cX12_mixSamples 11 = .ok (.istore_n 2, 1) := by decide +kernel
theorem dX12_mixSamples_12 : decode cX12_mixSamples 12 = .ok (.iload_n 2, 1) := by decide +kernel
theorem dX12_mixSamples_13 : decode cX12_mixSamples 13 = .ok (.bipush 6, 2) := by decide +kernel
theorem dX12_mixSamples_15 : decode cX12_mixSamples 15 = .ok (.if_icmp .ge 20, 3) := by decide +kernel
theorem dX12_mixSamples_18 : decode cX12_mixSamples 18 = .ok (.aload_n 0, 1) := by decide +kernel
theorem dX12_mixSamples_19 : decode cX12_mixSamples 19 = .ok (.aload_n 0, 1) := by decide +kernel
theorem dX12_mixSamples_20 : decode cX12_mixSamples 20 = .ok (.iload_n 1, 1) := by decide +kernel
theorem dX12_mixSamples_21 : decode cX12_mixSamples 21 = .ok (.iload_n 2, 1) := by decide +kernel
theorem dX12_mixSamples_22 : decode cX12_mixSamples 22 = .ok (.invokevirtual 290, 3) := by decide +kernel
theorem dX12_mixSamples_25 : decode cX12_mixSamples 25 = .ok (.i2l, 1) := by decide +kernel
theorem dX12_mixSamples_26 : decode cX12_mixSamples 26 = .ok (.invokevirtual 375, 3) := by decide +kernel
theorem dX12_mixSamples_29 : decode cX12_mixSamples 29 = .ok (.iinc 2 1, 3) := by decide +kernel
theorem dX12_mixSamples_32 : decode cX12_mixSamples 32 = .ok (.goto (-20), 3) := by decide +kernel
theorem dX12_mixSamples_35 : decode cX12_mixSamples 35 = .ok (.aload_n 0, 1) := by decide +kernel
theorem dX12_mixSamples_36 : decode cX12_mixSamples 36 = .ok (.bipush 8, 2) := by decide +kernel
theorem dX12_mixSamples_38 : decode cX12_mixSamples 38 = .ok (.invokevirtual 364, 3) := by decide +kernel
theorem dX12_mixSamples_41 : decode cX12_mixSamples 41 = .ok (.aload_n 0, 1) := by decide +kernel
theorem dX12_mixSamples_42 : decode cX12_mixSamples 42 = .ok (.aload_n 0, 1) := by decide +kernel
theorem dX12_mixSamples_43 : decode cX12_mixSamples 43 = .ok (.getfield 72, 3) := by decide +kernel
theorem dX12_mixSamples_46 : decode cX12_mixSamples 46 = .ok (.iload_n 1, 1) := by decide +kernel
theorem dX12_mixSamples_47 : decode cX12_mixSamples 47 = .ok (.daload, 1) := by decide +kernel
theorem dX12_mixSamples_48 : decode cX12_mixSamples 48 = .ok (.ldc2_w 379, 3) := by decide +kernel
theorem dX12_mixSamples_51 : decode cX12_mixSamples 51 = .ok (.dmul, 1) := by decide +kernel
theorem dX12_mixSamples_52 : decode cX12_mixSamples 52 = .ok (.d2l, 1) := by decide +kernel
theorem dX12_mixSamples_53 : decode cX12_mixSamples 53 = .ok (.invokevirtual 375, 3) := by decide +kernel
theorem dX12_mixSamples_56 : decode cX12_mixSamples 56 = .ok (.iinc 1 1, 3) := by decide +kernel
theorem dX12_mixSamples_59 : decode cX12_mixSamples 59 = .ok (.goto (-57), 3) := by decide +kernel
theorem dX12_mixSamples_62 : decode cX12_mixSamples 62 = .ok (.iconst 0, 1) := by decide +kernel
theorem dX12_mixSamples_63 : decode cX12_mixSamples 63 = .ok (.istore_n 1, 1) := by decide +kernel
theorem dX12_mixSamples_64 : decode cX12_mixSamples 64 = .ok (.iload_n 1, 1) := by decide +kernel
theorem dX12_mixSamples_65 : decode cX12_mixSamples 65 = .ok (.bipush 6, 2) := by decide +kernel
theorem dX12_mixSamples_67 : decode cX12_mixSamples 67 = .ok (.if_icmp .ge 19, 3) := by decide +kernel
theorem dX12_mixSamples_70 : decode cX12_mixSamples 70 = .ok (.aload_n 0, 1) := by decide +kernel
theorem dX12_mixSamples_71 : decode cX12_mixSamples 71 = .ok (.aload_n 0, 1) := by decide +kernel
theorem dX12_mixSamples_72 : decode cX12_mixSamples 72 = .ok (.iload_n 1, 1) := by decide +kernel
theorem dX12_mixSamples_73 : decode cX12_mixSamples 73 = .ok (.invokevirtual 306, 3) := by decide +kernel
theorem dX12_mixSamples_76 : decode cX12_mixSamples 76 = .ok (.i2l, 1) := by decide +kernel
theorem dX12_mixSamples_77 : decode cX12_mixSamples 77 = .ok (.invokevirtual 375, 3) := by decide +kernel
theorem dX12_mixSamples_80 : decode cX12_mixSamples 80 = .ok (.iinc 1 1, 3) := by decide +kernel
theorem dX12_mixSamples_83 : decode cX12_mixSamples 83 = .ok (.goto (-19), 3) := by decide +kernel
theorem dX12_mixSamples_86 : decode cX12_mixSamples 86 = .ok (.iconst 0, 1) := by decide +kernel
theorem dX12_mixSamples_87 : decode cX12_mixSamples 87 = .ok (.istore_n 1, 1) := by decide +kernel
theorem dX12_mixSamples_88 : decode cX12_mixSamples 88 = .ok (.iload_n 1, 1) := by decide +kernel
theorem dX12_mixSamples_89 : decode cX12_mixSamples 89 = .ok (.aload_n 0, 1) := by decide +kernel
theorem dX12_mixSamples_90 : decode cX12_mixSamples 90 = .ok (.getfield 92, 3) := by decide +kernel
theorem dX12_mixSamples_93 : decode cX12_mixSamples 93 = .ok (.if_icmp .ge 48, 3) := by decide +kernel
theorem dX12_mixSamples_96 : decode cX12_mixSamples 96 = .ok (.iload_n 1, 1) := by decide +kernel
theorem dX12_mixSamples_97 : decode cX12_mixSamples 97 = .ok (.iconst 1, 1) := by decide +kernel
theorem dX12_mixSamples_98 : decode cX12_mixSamples 98 = .ok (.iadd, 1) := by decide +kernel
theorem dX12_mixSamples_99 : decode cX12_mixSamples 99 = .ok (.istore_n 2, 1) := by decide +kernel
theorem dX12_mixSamples_100 : decode cX12_mixSamples 100 = .ok (.iload_n 2, 1) := by decide +kernel
theorem dX12_mixSamples_101 : decode cX12_mixSamples 101 = .ok (.aload_n 0, 1) := by decide +kernel
theorem dX12_mixSamples_102 : decode cX12_mixSamples 102 = .ok (.getfield 92, 3) := by decide +kernel
theorem dX12_mixSamples_105 : decode cX12_mixSamples 105 = .ok (.if_icmp .ge 30, 3) := by decide +kernel
theorem dX12_mixSamples_108 : decode cX12_mixSamples 108 = .ok (.aload_n 0, 1) := by decide +kernel
theorem dX12_mixSamples_109 : decode cX12_mixSamples 109 = .ok (.aload_n 0, 1) := by decide +kernel
theorem dX12_mixSamples_110 : decode cX12_mixSamples 110 = .ok (.iload_n 1, 1) := by decide +kernel
theorem dX12_mixSamples_111 : decode cX12_mixSamples 111 = .ok (.iload_n 2, 1) := by decide +kernel
theorem dX12_mixSamples_112 : decode cX12_mixSamples 112 = .ok (.invokevirtual 233, 3) := by decide +kernel
theorem dX12_mixSamples_115 : decode cX12_mixSamples 115 = .ok (.i2l, 1) := by decide +kernel
theorem dX12_mixSamples_116 : decode cX12_mixSamples 116 = .ok (.invokevirtual 375, 3) := by decide +kernel
theorem dX12_mixSamples_119 : decode cX12_mixSamples 119 = .ok (.aload_n 0, 1) := by decide +kernel
theorem dX12_mixSamples_120 : decode cX12_mixSamples 120 = .ok (.aload_n 0, 1) := by decide +kernel
theorem dX12_mixSamples_121 : decode cX12_mixSamples 121 = .ok (.iload_n 1, 1) := by decide +kernel
theorem dX12_mixSamples_122 : decode cX12_mixSamples 122 = .ok (.iload_n 2, 1) := by decide +kernel
theorem dX12_mixSamples_123 : decode cX12_mixSamples 123 = .ok (.invokevirtual 327, 3) := by decide +kernel
theorem dX12_mixSamples_126 : decode cX12_mixSamples 126 = .ok (.invokevirtual 375, 3) := by decide +kernel
theorem dX12_mixSamples_129 : decode cX12_mixSamples 129 = .ok (.iinc 2 1, 3) := by decide +kernel
theorem dX12_mixSamples_132 : decode cX12_mixSamples 132 = .ok (.goto (-32), 3) := by decide +kernel
theorem dX12_mixSamples_135 : decode cX12_mixSamples 135 = .ok (.iinc 1 1, 3) := by decide +kernel
theorem dX12_mixSamples_138 : decode cX12_mixSamples 138 = .ok (.goto (-50), 3) := by decide +kernel
theorem dX12_mixSamples_141 : decode cX12_mixSamples 141 = .ok (.return_, 1) := by decide +kernel
theorem dX12_digest_0 : decode cX12_digest 0 = .ok (.aload_n 0, 1) := by decide +kernel
theorem dX12_digest_1 : decode cX12_digest 1 = .ok (.iconst 0, 1) := by decide +kernel
theorem dX12_digest_2 : decode cX12_digest 2 = .ok (.putfield 89, 3) := by decide +kernel
theorem dX12_digest_5 : decode cX12_digest 5 = .ok (.aload_n 0, 1) := by decide +kernel
theorem dX12_digest_6 : decode cX12_digest 6 = .ok (.ldc2_w 381, 3) := by decide +kernel
theorem dX12_digest_9 : decode cX12_digest 9 = .ok (.putfield 372, 3) := by decide +kernel
theorem dX12_digest_12 : decode cX12_digest 12 = .ok (.iconst 0, 1) := by decide +kernel
theorem dX12_digest_13 : decode cX12_digest 13 = .ok (.istore_n 1, 1) := by decide +kernel
theorem dX12_digest_14 : decode cX12_digest 14 = .ok (.iload_n 1, 1) := by decide +kernel
theorem dX12_digest_15 : decode cX12_digest 15 = .ok (.bipush 8, 2) := by decide +kernel
theorem dX12_digest_17 : decode cX12_digest 17 = .ok (.if_icmp .ge 19, 3) := by decide +kernel
theorem dX12_digest_20 : decode cX12_digest 20 = .ok (.aload_n 0, 1) := by decide +kernel
theorem dX12_digest_21 : decode cX12_digest 21 = .ok (.aload_n 0, 1) := by decide +kernel
theorem dX12_digest_22 : decode cX12_digest 22 = .ok (.iload_n 1, 1) := by decide +kernel
theorem dX12_digest_23 : decode cX12_digest 23 = .ok (.invokevirtual 207, 3) := by decide +kernel
theorem dX12_digest_26 : decode cX12_digest 26 = .ok (.i2l, 1) := by decide +kernel
theorem dX12_digest_27 : decode cX12_digest 27 = .ok (.invokevirtual 375, 3) := by decide +kernel
theorem dX12_digest_30 : decode cX12_digest 30 = .ok (.iinc 1 1, 3) := by decide +kernel
theorem dX12_digest_33 : decode cX12_digest 33 = .ok (.goto (-19), 3) := by decide +kernel
theorem dX12_digest_36 : decode cX12_digest 36 = .ok (.iconst 0, 1) := by decide +kernel
theorem dX12_digest_37 : decode cX12_digest 37 = .ok (.istore_n 1, 1) := by decide +kernel
theorem dX12_digest_38 : decode cX12_digest 38 = .ok (.iload_n 1, 1) := by decide +kernel
theorem dX12_digest_39 : decode cX12_digest 39 = .ok (.aload_n 0, 1) := by decide +kernel
theorem dX12_digest_40 : decode cX12_digest 40 = .ok (.getfield 99, 3) := by decide +kernel
theorem dX12_digest_43 : decode cX12_digest 43 = .ok (.if_icmp .ge 30, 3) := by decide +kernel
theorem dX12_digest_46 : decode cX12_digest 46 = .ok (.aload_n 0, 1) := by decide +kernel
theorem dX12_digest_47 : decode cX12_digest 47 = .ok (.aload_n 0, 1) := by decide +kernel
theorem dX12_digest_48 : decode cX12_digest 48 = .ok (.getfield 7, 3) := by decide +kernel
theorem dX12_digest_51 : decode cX12_digest 51 = .ok (.iload_n 1, 1) := by decide +kernel
theorem dX12_digest_52 : decode cX12_digest 52 = .ok (.iaload, 1) := by decide +kernel
theorem dX12_digest_53 : decode cX12_digest 53 = .ok (.i2l, 1) := by decide +kernel
theorem dX12_digest_54 : decode cX12_digest 54 = .ok (.invokevirtual 375, 3) := by decide +kernel
theorem dX12_digest_57 : decode cX12_digest 57 = .ok (.aload_n 0, 1) := by decide +kernel
theorem dX12_digest_58 : decode cX12_digest 58 = .ok (.aload_n 0, 1) := by decide +kernel
theorem dX12_digest_59 : decode cX12_digest 59 = .ok (.iload_n 1, 1) := by decide +kernel
theorem dX12_digest_60 : decode cX12_digest 60 = .ok (.invokevirtual 300, 3) := by decide +kernel
theorem dX12_digest_63 : decode cX12_digest 63 = .ok (.i2l, 1) := by decide +kernel
theorem dX12_digest_64 : decode cX12_digest 64 = .ok (.invokevirtual 375, 3) := by decide +kernel
theorem dX12_digest_67 : decode cX12_digest 67 = .ok (.iinc 1 1, 3) := by decide +kernel
theorem dX12_digest_70 : decode cX12_digest 70 = .ok (.goto (-32), 3) := by decide +kernel
theorem dX12_digest_73 : decode cX12_digest 73 = .ok (.iconst 0, 1) := by decide +kernel
theorem dX12_digest_74 : decode cX12_digest 74 = .ok (.istore_n 1, 1) := by decide +kernel
theorem dX12_digest_75 : decode cX12_digest 75 = .ok (.iload_n 1, 1) := by decide +kernel
theorem dX12_digest_76 : decode cX12_digest 76 = .ok (.iconst 4, 1) := by decide +kernel
theorem dX12_digest_77 : decode cX12_digest 77 = .ok (.aload_n 0, 1) := by decide +kernel
theorem dX12_digest_78 : decode cX12_digest 78 = .ok (.getfield 102, 3) := by decide +kernel
theorem dX12_digest_81 : decode cX12_digest 81 = .ok (.imul, 1) := by decide +kernel
theorem dX12_digest_82 : decode cX12_digest 82 = .ok (.if_icmp .ge 24, 3) := by decide +kernel
theorem dX12_digest_85 : decode cX12_digest 85 = .ok (.aload_n 0, 1) := by decide +kernel
theorem dX12_digest_86 : decode cX12_digest 86 = .ok (.aload_n 0, 1) := by decide +kernel
theorem dX12_digest_87 : decode cX12_digest 87 = .ok (.iload_n 1, 1) := by decide +kernel
theorem dX12_digest_88 : decode cX12_digest 88 = .ok (.iconst 4, 1) := by decide +kernel
theorem dX12_digest_89 : decode cX12_digest 89 = .ok (.idiv, 1) := by decide +kernel
theorem dX12_digest_90 : decode cX12_digest 90 = .ok (.iload_n 1, 1) := by decide +kernel
theorem dX12_digest_91 : decode cX12_digest 91 = .ok (.iconst 4, 1) := by decide +kernel
theorem dX12_digest_92 : decode cX12_digest 92 = .ok (.irem, 1) := by decide +kernel
theorem dX12_digest_93 : decode cX12_digest 93 = .ok (.invokevirtual 210, 3) := by decide +kernel
theorem dX12_digest_96 : decode cX12_digest 96 = .ok (.i2l, 1) := by decide +kernel
theorem dX12_digest_97 : decode cX12_digest 97 = .ok (.invokevirtual 375, 3) := by decide +kernel
theorem dX12_digest_100 : decode cX12_digest 100 = .ok (.iinc 1 1, 3) := by decide +kernel
theorem dX12_digest_103 : decode cX12_digest 103 = .ok (.goto (-28), 3) := by decide +kernel
theorem dX12_digest_106 : decode cX12_digest 106 = .ok (.iconst 0, 1) := by decide +kernel
theorem dX12_digest_107 : decode cX12_digest 107 = .ok (.istore_n 1, 1) := by decide +kernel
theorem dX12_digest_108 : decode cX12_digest 108 = .ok (.iload_n 1, 1) := by decide +kernel
theorem dX12_digest_109 : decode cX12_digest 109 = .ok (.aload_n 0, 1) := by decide +kernel
theorem dX12_digest_110 : decode cX12_digest 110 = .ok (.getfield 105, 3) := by decide +kernel
