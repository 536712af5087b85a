theorem dX11_without_8 : decode cX11_without 8 = .ok (.iload_n 2, 1) := by decide +kernel
theorem dX11_without_9 : decode cX11_without 9 = .ok (.iconst (-1), 1) := by decide +kernel
theorem dX11_without_10 : decode cX11_without 10 = .ok (.if_icmp .eq 11, 3) := by decide +kernel
theorem dX11_without_13 : decode cX11_without 13 = .ok (.iload_n 2, 1) := by decide +kernel
theorem dX11_without_14 : decode cX11_without 14 = .ok (.aload_n 0, 1) := by decide +kernel
theorem dX11_without_15 : decode cX11_without 15 = .ok (.getfield 89, 3) := by decide +kernel
theorem dX11_without_18 : decode cX11_without 18 = .ok (.invokestatic 84, 3) := by decide +kernel
theorem dX11_without_21 : decode cX11_without 21 = .ok (.iload_n 3, 1) := by decide +kernel
theorem dX11_without_22 : decode cX11_without 22 = .ok (.ifCond .lt 12, 3) := by decide +kernel
theorem dX11_without_25 : decode cX11_without 25 = .ok (.iload_n 3, 1) := by decide +kernel
theorem dX11_without_26 : decode cX11_without 26 = .ok (.iconst 5, 1) := by decide +kernel
theorem dX11_without_27 : decode cX11_without 27 = .ok (.if_icmp .gt 7, 3) := by decide +kernel
theorem dX11_without_30 : decode cX11_without 30 = .ok (.iconst 1, 1) := by decide +kernel
theorem dX11_without_31 : decode cX11_without 31 = .ok (.goto 4, 3) := by decide +kernel
theorem dX11_without_34 : decode cX11_without 34 = .ok (.iconst 0, 1) := by decide +kernel
theorem dX11_without_35 : decode cX11_without 35 = .ok (.invokestatic 76, 3) := by decide +kernel
theorem dX11_without_38 : decode cX11_without 38 = .ok (.aload_n 0, 1) := by decide +kernel
theorem dX11_without_39 : decode cX11_without 39 = .ok (.iload_n 1, 1) := by decide +kernel
theorem dX11_without_40 : decode cX11_without 40 = .ok (.invokevirtual 202, 3) := by decide +kernel
theorem dX11_without_43 : decode cX11_without 43 = .ok (.iload_n 2, 1) := by decide +kernel
theorem dX11_without_44 : decode cX11_without 44 = .ok (.iconst (-1), 1) := by decide +kernel
theorem dX11_without_45 : decode cX11_without 45 = .ok (.if_icmp .ne 18, 3) := by decide +kernel
theorem dX11_without_48 : decode cX11_without 48 = .ok (.aload_n 0, 1) := by decide +kernel
theorem dX11_without_49 : decode cX11_without 49 = .ok (.getfield 54, 3) := by decide +kernel
theorem dX11_without_52 : decode cX11_without 52 = .ok (.aload_n 0, 1) := by decide +kernel
theorem dX11_without_53 : decode cX11_without 53 = .ok (.getfield 16, 3) := by decide +kernel
theorem dX11_without_56 : decode cX11_without 56 = .ok (.iload_n 3, 1) := by decide +kernel
theorem dX11_without_57 : decode cX11_without 57 = .ok (.invokevirtual 226, 3) := by decide +kernel
theorem dX11_without_60 : decode cX11_without 60 = .ok (.goto 16, 3) := by decide +kernel
theorem dX11_without_63 : decode cX11_without 63 = .ok (.aload_n 0, 1) := by decide +kernel
theorem dX11_without_64 : decode cX11_without 64 = .ok (.getfield 54, 3) := by decide +kernel
theorem dX11_without_67 : decode cX11_without 67 = .ok (.aload_n 0, 1) := by decide +kernel
theorem dX11_without_68 : decode cX11_without 68 = .ok (.getfield 16, 3) := by decide +kernel
theorem dX11_without_71 : decode cX11_without 71 = .ok (.iload_n 2, 1) := by decide +kernel
theorem dX11_without_72 : decode cX11_without 72 = .ok (.iload_n 3, 1) := by decide +kernel
theorem dX11_without_73 : decode cX11_without 73 = .ok (.invokevirtual 220, 3) := by decide +kernel
theorem dX11_without_76 : decode cX11_without 76 = .ok (.ireturn, 1) := by decide +kernel
theorem dX11_rings_0 : decode cX11_rings 0 = .ok (.iload_n 1, 1) := by decide +kernel
theorem dX11_rings_1 : decode cX11_rings 1 = .ok (.aload_n 0, 1) := by decide +kernel
theorem dX11_rings_2 : decode cX11_rings 2 = .ok (.getfield 80, 3) := by decide +kernel
theorem dX11_rings_5 : decode cX11_rings 5 = .ok (.invokestatic 84, 3) := by decide +kernel
theorem dX11_rings_8 : decode cX11_rings 8 = .ok (.aload_n 0, 1) := by decide +kernel
theorem dX11_rings_9 : decode cX11_rings 9 = .ok (.iload_n 1, 1) := by decide +kernel
theorem dX11_rings_10 : decode cX11_rings 10 = .ok (.invokevirtual 230, 3) := by decide +kernel
theorem dX11_rings_13 : decode cX11_rings 13 = .ok (.ireturn, 1) := by decide +kernel
theorem dX11_consistency_0 : decode cX11_consistency 0 = .ok (.iload_n 1, 1) := by decide +kernel
theorem dX11_consistency_1 : decode cX11_consistency 1 = .ok (.aload_n 0, 1) := by decide +kernel
theorem dX11_consistency_2 : decode cX11_consistency 2 = .ok (.getfield 80, 3) := by decide +kernel
theorem dX11_consistency_5 : decode cX11_consistency 5 = .ok (.invokestatic 84, 3) := by decide +kernel
theorem dX11_consistency_8 : decode cX11_consistency 8 = .ok (.aload_n 0, 1) := by decide +kernel
theorem dX11_consistency_9 : decode cX11_consistency 9 = .ok (.getfield 44, 3) := by decide +kernel
theorem dX11_consistency_12 : decode cX11_consistency 12 = .ok (.aload_n 0, 1) := by decide +kernel
theorem dX11_consistency_13 : decode cX11_consistency 13 = .ok (.getfield 16, 3) := by decide +kernel
theorem dX11_consistency_16 : decode cX11_consistency 16 = .ok (.iload_n 1, 1) := by decide +kernel
theorem dX11_consistency_17 : decode cX11_consistency 17 = .ok (.invokevirtual 233, 3) := by decide +kernel
theorem dX11_consistency_20 : decode cX11_consistency 20 = .ok (.aload_n 0, 1) := by decide +kernel
theorem dX11_consistency_21 : decode cX11_consistency 21 = .ok (.getfield 44, 3) := by decide +kernel
theorem dX11_consistency_24 : decode cX11_consistency 24 = .ok (.aload_n 0, 1) := by decide +kernel
theorem dX11_consistency_25 : decode cX11_consistency 25 = .ok (.getfield 89, 3) := by decide +kernel
theorem dX11_consistency_28 : decode cX11_consistency 28 = .ok (.invokevirtual 237, 3) := by decide +kernel
theorem dX11_consistency_31 : decode cX11_consistency 31 = .ok (.ifCond .ne 13, 3) := by decide +kernel
theorem dX11_consistency_34 : decode cX11_consistency 34 = .ok (.new 106, 3) := by decide +kernel
theorem dX11_consistency_37 : decode cX11_consistency 37 = .ok (.dup, 1) := by decide +kernel
theorem dX11_consistency_38 : decode cX11_consistency 38 = .ok (.ldc 241, 2) := by decide +kernel
theorem dX11_consistency_40 : decode cX11_consistency 40 = .ok (.invokespecial 110, 3) := by decide +kernel
theorem dX11_consistency_43 : decode cX11_consistency 43 = .ok (.athrow, 1) := by decide +kernel
theorem dX11_consistency_44 : decode cX11_consistency 44 = .ok (.aload_n 0, 1) := by decide +kernel
theorem dX11_consistency_45 : decode cX11_consistency 45 = .ok (.getfield 89, 3) := by decide +kernel
theorem dX11_consistency_48 : decode cX11_consistency 48 = .ok (.invokestatic 243, 3) := by decide +kernel
theorem dX11_consistency_51 : decode cX11_consistency 51 = .ok (.istore_n 2, 1) := by decide +kernel
theorem dX11_consistency_52 : decode cX11_consistency 52 = .ok (.iload_n 2, 1) := by decide +kernel
theorem dX11_consistency_53 : decode cX11_consistency 53 = .ok (.ifCond .ne 5, 3) := by decide +kernel
theorem dX11_consistency_56 : decode cX11_consistency 56 = .ok (.dconst 1, 1) := by decide +kernel
theorem dX11_consistency_57 : decode cX11_consistency 57 = .ok (.dreturn, 1) := by decide +kernel
theorem dX11_consistency_58 : decode cX11_consistency 58 = .ok (.dconst 1, 1) := by decide +kernel
theorem dX11_consistency_59 : decode cX11_consistency 59 = .ok (.aload_n 0, 1) := by decide +kernel
theorem dX11_consistency_60 : decode cX11_consistency 60 = .ok (.getfield 44, 3) := by decide +kernel
theorem dX11_consistency_63 : decode cX11_consistency 63 = .ok (.aload_n 0, 1) := by decide +kernel
theorem dX11_consistency_64 : decode cX11_consistency 64 = .ok (.getfield 89, 3) := by decide +kernel
theorem dX11_consistency_67 : decode cX11_consistency 67 = .ok (.invokevirtual 246, 3) := by decide +kernel
theorem dX11_consistency_70 : decode cX11_consistency 70 = .ok (.i2d, 1) := by decide +kernel
theorem dX11_consistency_71 : decode cX11_consistency 71 = .ok (.iload_n 2, 1) := by decide +kernel
theorem dX11_consistency_72 : decode cX11_consistency 72 = .ok (.i2d, 1) := by decide +kernel
theorem dX11_consistency_73 : decode cX11_consistency 73 = .ok (.ddiv, 1) := by decide +kernel
theorem dX11_consistency_74 : decode cX11_consistency 74 = .ok (.dsub, 1) := by decide +kernel
theorem dX11_consistency_75 : decode cX11_consistency 75 = .ok (.dreturn, 1) := by decide +kernel
theorem dX11_agreement_0 : decode cX11_agreement 0 = .ok (.iload_n 1, 1) := by decide +kernel
theorem dX11_agreement_1 : decode cX11_agreement 1 = .ok (.aload_n 0, 1) := by decide +kernel
theorem dX11_agreement_2 : decode cX11_agreement 2 = .ok (.getfield 80, 3) := by decide +kernel
theorem dX11_agreement_5 : decode cX11_agreement 5 = .ok (.invokestatic 84, 3) := by decide +kernel
theorem dX11_agreement_8 : decode cX11_agreement 8 = .ok (.iload_n 2, 1) := by decide +kernel
theorem dX11_agreement_9 : decode cX11_agreement 9 = .ok (.aload_n 0, 1) := by decide +kernel
theorem dX11_agreement_10 : decode cX11_agreement 10 = .ok (.getfield 80, 3) := by decide +kernel
theorem dX11_agreement_13 : decode cX11_agreement 13 = .ok (.invokestatic 84, 3) := by decide +kernel
theorem dX11_agreement_16 : decode cX11_agreement 16 = .ok (.aload_n 0, 1) := by decide +kernel
theorem dX11_agreement_17 : decode cX11_agreement 17 = .ok (.getfield 44, 3) := by decide +kernel
theorem dX11_agreement_20 : decode cX11_agreement 20 = .ok (.aload_n 0, 1) := by decide +kernel
theorem dX11_agreement_21 : decode cX11_agreement 21 = .ok (.getfield 16, 3) := by decide +kernel
theorem dX11_agreement_24 : decode cX11_agreement 24 = .ok (.iload_n 1, 1) := by decide +kernel
theorem dX11_agreement_25 : decode cX11_agreement 25 = .ok (.invokevirtual 233, 3) := by decide +kernel
theorem dX11_agreement_28 : decode cX11_agreement 28 = .ok (.aload_n 0, 1) := by decide +kernel
theorem dX11_agreement_29 : decode cX11_agreement 29 = .ok (.getfield 48, 3) := by decide +kernel
theorem dX11_agreement_32 : decode cX11_agreement 32 = .ok (.aload_n 0, 1) := by decide +kernel
theorem dX11_agreement_33 : decode cX11_agreement 33 = .ok (.getfield 16, 3) := by decide +kernel
theorem dX11_agreement_36 : decode cX11_agreement 36 = .ok (.iload_n 2, 1) := by decide +kernel
theorem dX11_agreement_37 : decode cX11_agreement 37 = .ok (.invokevirtual 233, 3) := by decide +kernel
theorem dX11_agreement_40 : decode cX11_agreement 40 = .ok (.iconst 0, 1) := by decide +kernel
theorem dX11_agreement_41 : decode cX11_agreement 41 = .ok (.istore_n 3, 1) := by decide +kernel
theorem dX11_agreement_42 : decode cX11_agreement 42 = .ok (.iconst 0, 1) := by decide +kernel
theorem dX11_agreement_43 : decode cX11_agreement 43 = .ok (.istore 4, 2) := by decide +kernel
theorem dX11_agreement_45 : decode cX11_agreement 45 = .ok (.iconst 0, 1) := by decide +kernel
theorem dX11_agreement_46 : decode cX11_agreement 46 = .ok (.istore 5, 2) := by decide +kernel
theorem dX11_agreement_48 : decode cX11_agreement 48 = .ok (.iload 5, 2) := by decide +kernel
theorem dX11_agreement_50 : decode cX11_agreement 50 = .ok (.aload_n 0, 1) := by decide +kernel
theorem dX11_agreement_51 : decode cX11_agreement 51 = .ok (.getfield 89, 3) := by decide +kernel
theorem dX11_agreement_54 : decode cX11_agreement 54 = .ok (.if_icmp .ge 102, 3) := by decide +kernel
theorem dX11_agreement_57 : decode cX11_agreement 57 = .ok (.iload 5, 2) := by decide +kernel
theorem dX11_agreement_59 : decode cX11_agreement 59 = .ok (.iconst 1, 1) := by decide +kernel
theorem dX11_agreement_60 : decode cX11_agreement 60 = .ok (.iadd, 1) := by decide +kernel
theorem dX11_agreement_61 : decode cX11_agreement 61 = .ok (.istore 6, 2) := by decide +kernel
theorem dX11_agreement_63 : decode cX11_agreement 63 = .ok (.iload 6, 2) := by decide +kernel
theorem dX11_agreement_65 : decode cX11_agreement 65 = .ok (.aload_n 0, 1) := by decide +kernel
theorem dX11_agreement_66 : decode cX11_agreement 66 = .ok (.getfield 89, 3) := by decide +kernel
theorem dX11_agreement_69 : decode cX11_agreement 69 = .ok (.if_icmp .ge 81, 3) := by decide +kernel
theorem dX11_agreement_72 : decode cX11_agreement 72 = .ok (.aload_n 0, 1) := by decide +kernel
theorem dX11_agreement_73 : decode cX11_agreement 73 = .ok (.getfield 44, 3) := by decide +kernel
theorem dX11_agreement_76 : decode cX11_agreement 76 = .ok (.iload 5, 2) := by decide +kernel
theorem dX11_agreement_78 : decode cX11_agreement 78 = .ok (.iload 6, 2) := by decide +kernel
theorem dX11_agreement_80 : decode cX11_agreement 80 = .ok (.invokevirtual 208, 3) := by decide +kernel
theorem dX11_agreement_83 : decode cX11_agreement 83 = .ok (.istore 7, 2) := by decide +kernel
theorem dX11_agreement_85 : decode cX11_agreement 85 = .ok (.aload_n 0, 1) := by decide +kernel
theorem dX11_agreement_86 : decode cX11_agreement 86 = .ok (.getfield 48, 3) := by decide +kernel
theorem dX11_agreement_89 : decode cX11_agreement 89 = .ok (.iload 5, 2) := by decide +kernel
theorem dX11_agreement_91 : decode cX11_agreement 91 = .ok (.iload 6, 2) := by decide +kernel
theorem dX11_agreement_93 : decode cX11_agreement 93 = .ok (.invokevirtual 208, 3) := by decide +kernel
theorem dX11_agreement_96 : decode cX11_agreement 96 = .ok (.istore 8, 2) := by decide +kernel
theorem dX11_agreement_98 : decode cX11_agreement 98 = .ok (.iload 7, 2) := by decide +kernel
theorem dX11_agreement_100 : decode cX11_agreement 100 = .ok (.ifCond .eq 44, 3) := by decide +kernel
theorem dX11_agreement_103 : decode cX11_agreement 103 = .ok (.iload 8, 2) := by decide +kernel
theorem dX11_agreement_105 : decode cX11_agreement 105 = .ok (.ifCond .eq 39, 3) := by decide +kernel
theorem dX11_agreement_108 : decode cX11_agreement 108 = .ok (.iinc 3 1, 3) := by decide +kernel
theorem dX11_agreement_111 : decode cX11_agreement 111 = .ok (.iload 4, 2) := by decide +kernel
theorem dX11_agreement_113 : decode cX11_agreement 113 = .ok (.iload 7, 2) := by decide +kernel
theorem dX11_agreement_115 : decode cX11_agreement 115 = .ok (.ifCond .le 7, 3) := by decide +kernel
theorem dX11_agreement_118 : decode cX11_agreement 118 = .ok (.iconst 1, 1) := by decide +kernel
theorem dX11_agreement_119 : decode cX11_agreement 119 = .ok (.goto 4, 3) := by decide +kernel
theorem dX11_agreement_122 : decode cX11_agreement 122 = .ok (.iconst 0, 1) := by decide +kernel
theorem dX11_agreement_123 : decode cX11_agreement 123 = .ok (.iload 8, 2) := by decide +kernel
theorem dX11_agreement_125 : decode cX11_agreement 125 = .ok (.ifCond .le 7, 3) := by decide +kernel
theorem dX11_agreement_128 : decode cX11_agreement 128 = .ok (.iconst 1, 1) := by decide +kernel
theorem dX11_agreement_129 : decode cX11_agreement 129 = .ok (.goto 4, 3) := by decide +kernel
theorem dX11_agreement_132 : decode cX11_agreement 132 = .ok (.iconst 0, 1) := by decide +kernel
theorem dX11_agreement_133 : decode cX11_agreement 133 = .ok (.if_icmp .ne 7, 3) := by decide +kernel
theorem dX11_agreement_136 : decode cX11_agreement 136 = .ok (.iconst 1, 1) := by decide +kernel
theorem dX11_agreement_137 : decode cX11_agreement 137 = .ok (.goto 4, 3) := by decide +kernel
theorem dX11_agreement_140 : decode cX11_agreement 140 = .ok (.iconst (-1), 1) := by decide +kernel
theorem dX11_agreement_141 : decode cX11_agreement 141 = .ok (.iadd, 1) := by decide +kernel
theorem dX11_agreement_142 : decode cX11_agreement 142 = .ok (.istore 4, 2) := by decide +kernel
theorem dX11_agreement_144 : decode cX11_agreement 144 = .ok (.iinc 6 1, 3) := by decide +kernel
theorem dX11_agreement_147 : decode cX11_agreement 147 = .ok (.goto (-84), 3) := by decide +kernel
theorem dX11_agreement_150 : decode cX11_agreement 150 = .ok (.iinc 5 1, 3) := by decide +kernel
theorem dX11_agreement_153 : decode cX11_agreement 153 = .ok (.goto (-105), 3) := by decide +kernel
theorem dX11_agreement_156 : decode cX11_agreement 156 = .ok (.iload_n 3, 1) := by decide +kernel
theorem dX11_agreement_157 : decode cX11_agreement 157 = .ok (.ifCond .ne 7, 3) := by decide +kernel
theorem dX11_agreement_160 : decode cX11_agreement 160 = .ok (.dconst 0, 1) := by decide +kernel
theorem dX11_agreement_161 : decode cX11_agreement 161 = .ok (.goto 9, 3) := by decide +kernel
theorem dX11_agreement_164 : decode cX11_agreement 164 = .ok (.iload 4, 2) := by decide +kernel
theorem dX11_agreement_166 : decode cX11_agreement 166 = .ok (.i2d, 1) := by decide +kernel
theorem dX11_agreement_167 : decode cX11_agreement 167 = .ok (.iload_n 3, 1) := by decide +kernel
theorem dX11_agreement_168 : decode cX11_agreement 168 = .ok (.i2d, 1) := by decide +kernel
theorem dX11_agreement_169 : decode cX11_agreement 169 = .ok (.ddiv, 1) := by decide +kernel
theorem dX11_agreement_170 : decode cX11_agreement 170 = .ok (.dreturn, 1) := by decide +kernel
theorem dX11_chance_0 : decode cX11_chance 0 = .ok (.iload_n 1, 1) := by decide +kernel
theorem dX11_chance_1 : decode cX11_chance 1 = .ok (.aload_n 0, 1) := by decide +kernel
theorem dX11_chance_2 : decode cX11_chance 2 = .ok (.getfield 89, 3) := by decide +kernel
theorem dX11_chance_5 : decode cX11_chance 5 = .ok (.invokestatic 84, 3) := by decide +kernel
theorem dX11_chance_8 : decode cX11_chance 8 = .ok (.iload_n 2, 1) := by decide +kernel
theorem dX11_chance_9 : decode cX11_chance 9 = .ok (.aload_n 0, 1) := by decide +kernel
theorem dX11_chance_10 : decode cX11_chance 10 = .ok (.getfield 89, 3) := by decide +kernel
theorem dX11_chance_13 : decode cX11_chance 13 = .ok (.invokestatic 84, 3) := by decide +kernel
theorem dX11_chance_16 : decode cX11_chance 16 = .ok (.iload_n 1, 1) := by decide +kernel
theorem dX11_chance_17 : decode cX11_chance 17 = .ok (.iload_n 2, 1) := by decide +kernel
theorem dX11_chance_18 : decode cX11_chance 18 = .ok (.if_icmp .eq 7, 3) := by decide +kernel
theorem dX11_chance_21 : decode cX11_chance 21 = .ok (.iconst 1, 1) := by decide +kernel
theorem dX11_chance_22 : decode cX11_chance 22 = .ok (.goto 4, 3) := by decide +kernel
theorem dX11_chance_25 : decode cX11_chance 25 = .ok (.iconst 0, 1) := by decide +kernel
theorem dX11_chance_26 : decode cX11_chance 26 = .ok (.invokestatic 76, 3) := by decide +kernel
theorem dX11_chance_29 : decode cX11_chance 29 = .ok (.aload_n 0, 1) := by decide +kernel
theorem dX11_chance_30 : decode cX11_chance 30 = .ok (.getfield 37, 3) := by decide +kernel
theorem dX11_chance_33 : decode cX11_chance 33 = .ok (.aload_n 0, 1) := by decide +kernel
theorem dX11_chance_34 : decode cX11_chance 34 = .ok (.getfield 16, 3) := by decide +kernel
theorem dX11_chance_37 : decode cX11_chance 37 = .ok (.invokevirtual 211, 3) := by decide +kernel
theorem dX11_chance_40 : decode cX11_chance 40 = .ok (.aload_n 0, 1) := by decide +kernel
theorem dX11_chance_41 : decode cX11_chance 41 = .ok (.getfield 37, 3) := by decide +kernel
theorem dX11_chance_44 : decode cX11_chance 44 = .ok (.iload_n 1, 1) := by decide +kernel
theorem dX11_chance_45 : decode cX11_chance 45 = .ok (.iload_n 2, 1) := by decide +kernel
theorem dX11_chance_46 : decode cX11_chance 46 = .ok (.invokevirtual 249, 3) := by decide +kernel
theorem dX11_chance_49 : decode cX11_chance 49 = .ok (.lreturn, 1) := by decide +kernel
theorem dX11_placeChance_0 : decode cX11_placeChance 0 = .ok (.aload_n 0, 1) := by decide +kernel
theorem dX11_placeChance_1 : decode cX11_placeChance 1 = .ok (.getfield 16, 3) := by decide +kernel
theorem dX11_placeChance_4 : decode cX11_placeChance 4 = .ok (.iconst 1, 1) := by decide +kernel
theorem dX11_placeChance_5 : decode cX11_placeChance 5 = .ok (.invokevirtual 253, 3) := by decide +kernel
theorem dX11_placeChance_8 : decode cX11_placeChance 8 = .ok (.aload_n 0, 1) := by decide +kernel
theorem dX11_placeChance_9 : decode cX11_placeChance 9 = .ok (.getfield 16, 3) := by decide +kernel
theorem dX11_placeChance_12 : decode cX11_placeChance 12 = .ok (.iconst 2, 1) := by decide +kernel
theorem dX11_placeChance_13 : decode cX11_placeChance 13 = .ok (.invokevirtual 253, 3) := by decide +kernel
theorem dX11_placeChance_16 : decode cX11_placeChance 16 = .ok (.invokestatic 256, 3) := by decide +kernel
theorem dX11_placeChance_19 : decode cX11_placeChance 19 = .ok (.lreturn, 1) := by decide +kernel
theorem dX11_proved_0 : decode cX11_proved 0 = .ok (.iload_n 1, 1) := by decide +kernel
theorem dX11_proved_1 : decode cX11_proved 1 = .ok (.iconst 1, 1) := by decide +kernel
theorem dX11_proved_2 : decode cX11_proved 2 = .ok (.if_icmp .lt 14, 3) := by decide +kernel
theorem dX11_proved_5 : decode cX11_proved 5 = .ok (.iload_n 1, 1) := by decide +kernel
theorem dX11_proved_6 : decode cX11_proved 6 = .ok (.sipush 1000, 3) := by decide +kernel
theorem dX11_proved_9 : decode cX11_proved 9 = .ok (.if_icmp .gt 7, 3) := by decide +kernel
theorem dX11_proved_12 : decode cX11_proved 12 = .ok (.iconst 1, 1) := by decide +kernel
theorem dX11_proved_13 : decode cX11_proved 13 = .ok (.goto 4, 3) := by decide +kernel
theorem dX11_proved_16 : decode cX11_proved 16 = .ok (.iconst 0, 1) := by decide +kernel
theorem dX11_proved_17 : decode cX11_proved 17 = .ok (.invokestatic 76, 3) := by decide +kernel
theorem dX11_proved_20 : decode cX11_proved 20 = .ok (.aload_n 0, 1) := by decide +kernel
theorem dX11_proved_21 : decode cX11_proved 21 = .ok (.iload_n 1, 1) := by decide +kernel
theorem dX11_proved_22 : decode cX11_proved 22 = .ok (.invokevirtual 259, 3) := by decide +kernel
theorem dX11_proved_25 : decode cX11_proved 25 = .ok (.istore_n 3, 1) := by decide +kernel
theorem dX11_proved_26 : decode cX11_proved 26 = .ok (.iload_n 2, 1) := by decide +kernel
theorem dX11_proved_27 : decode cX11_proved 27 = .ok (.iconst (-1), 1) := by decide +kernel
theorem dX11_proved_28 : decode cX11_proved 28 = .ok (.if_icmp .ne 5, 3) := by decide +kernel
theorem dX11_proved_31 : decode cX11_proved 31 = .ok (.iload_n 3, 1) := by decide +kernel
theorem dX11_proved_32 : decode cX11_proved 32 = .ok (.ireturn, 1) := by decide +kernel
theorem dX11_proved_33 : decode cX11_proved 33 = .ok (.iload_n 2, 1) := by decide +kernel
theorem dX11_proved_34 : decode cX11_proved 34 = .ok (.iload_n 3, 1) := by decide +kernel
theorem dX11_proved_35 : decode cX11_proved 35 = .ok (.invokestatic 84, 3) := by decide +kernel
theorem dX11_proved_38 : decode cX11_proved 38 = .ok (.aload_n 0, 1) := by decide +kernel
theorem dX11_proved_39 : decode cX11_proved 39 = .ok (.getfield 61, 3) := by decide +kernel
theorem dX11_proved_42 : decode cX11_proved 42 = .ok (.aload_n 0, 1) := by decide +kernel
theorem dX11_proved_43 : decode cX11_proved 43 = .ok (.getfield 37, 3) := by decide +kernel
theorem dX11_proved_46 : decode cX11_proved 46 = .ok (.iload_n 2, 1) := by decide +kernel
theorem dX11_proved_47 : decode cX11_proved 47 = .ok (.invokevirtual 262, 3) := by decide +kernel
theorem dX11_proved_50 : decode cX11_proved 50 = .ok (.ireturn, 1) := by decide +kernel
theorem dX11_strength_0 : decode cX11_strength 0 = .ok (.iload_n 1, 1) := by decide +kernel
theorem dX11_strength_1 : decode cX11_strength 1 = .ok (.aload_n 0, 1) := by decide +kernel
theorem dX11_strength_2 : decode cX11_strength 2 = .ok (.getfield 89, 3) := by decide +kernel
theorem dX11_strength_5 : decode cX11_strength 5 = .ok (.invokestatic 84, 3) := by decide +kernel
theorem dX11_strength_8 : decode cX11_strength 8 = .ok (.iload_n 2, 1) := by decide +kernel
theorem dX11_strength_9 : decode cX11_strength 9 = .ok (.ifCond .lt 13, 3) := by decide +kernel
theorem dX11_strength_12 : decode cX11_strength 12 = .ok (.iload_n 2, 1) := by decide +kernel
theorem dX11_strength_13 : decode cX11_strength 13 = .ok (.bipush 60, 2) := by decide +kernel
theorem dX11_strength_15 : decode cX11_strength 15 = .ok (.if_icmp .gt 7, 3) := by decide +kernel
theorem dX11_strength_18 : decode cX11_strength 18 = .ok (.iconst 1, 1) := by decide +kernel
theorem dX11_strength_19 : decode cX11_strength 19 = .ok (.goto 4, 3) := by decide +kernel
theorem dX11_strength_22 : decode cX11_strength 22 = .ok (.iconst 0, 1) := by decide +kernel
theorem dX11_strength_23 : decode cX11_strength 23 = .ok (.invokestatic 76, 3) := by decide +kernel
theorem dX11_strength_26 : decode cX11_strength 26 = .ok (.aload_n 0, 1) := by decide +kernel
theorem dX11_strength_27 : decode cX11_strength 27 = .ok (.iload_n 2, 1) := by decide +kernel
theorem dX11_strength_28 : decode cX11_strength 28 = .ok (.invokevirtual 266, 3) := by decide +kernel
theorem dX11_strength_31 : decode cX11_strength 31 = .ok (.aload_n 0, 1) := by decide +kernel
theorem dX11_strength_32 : decode cX11_strength 32 = .ok (.getfield 68, 3) := by decide +kernel
theorem dX11_strength_35 : decode cX11_strength 35 = .ok (.getfield 269, 3) := by decide +kernel
theorem dX11_strength_38 : decode cX11_strength 38 = .ok (.iload_n 1, 1) := by decide +kernel
theorem dX11_strength_39 : decode cX11_strength 39 = .ok (.daload, 1) := by decide +kernel
theorem dX11_strength_40 : decode cX11_strength 40 = .ok (.dreturn, 1) := by decide +kernel
theorem dX11_misfit_0 : decode cX11_misfit 0 = .ok (.iload_n 1, 1) := by decide +kernel
theorem dX11_misfit_1 : decode cX11_misfit 1 = .ok (.ifCond .lt 13, 3) := by decide +kernel
theorem dX11_misfit_4 : decode cX11_misfit 4 = .ok (.iload_n 1, 1) := by decide +kernel
theorem dX11_misfit_5 : decode cX11_misfit 5 = .ok (.bipush 60, 2) := by decide +kernel
theorem dX11_misfit_7 : decode cX11_misfit 7 = .ok (.if_icmp .gt 7, 3) := by decide +kernel
theorem dX11_misfit_10 : decode cX11_misfit 10 = .ok (.iconst 1, 1) := by decide +kernel
theorem dX11_misfit_11 : decode cX11_misfit 11 = .ok (.goto 4, 3) := by decide +kernel
theorem dX11_misfit_14 : decode cX11_misfit 14 = .ok (.iconst 0, 1) := by decide +kernel
theorem dX11_misfit_15 : decode cX11_misfit 15 = .ok (.invokestatic 76, 3) := by decide +kernel
theorem dX11_misfit_18 : decode cX11_misfit 18 = .ok (.aload_n 0, 1) := by decide +kernel
theorem dX11_misfit_19 : decode cX11_misfit 19 = .ok (.iload_n 1, 1) := by decide +kernel
theorem dX11_misfit_20 : decode cX11_misfit 20 = .ok (.invokevirtual 266, 3) := by decide +kernel
theorem dX11_misfit_23 : decode cX11_misfit 23 = .ok (.aload_n 0, 1) := by decide +kernel
theorem dX11_misfit_24 : decode cX11_misfit 24 = .ok (.getfield 68, 3) := by decide +kernel
theorem dX11_misfit_27 : decode cX11_misfit 27 = .ok (.invokevirtual 273, 3) := by decide +kernel
theorem dX11_misfit_30 : decode cX11_misfit 30 = .ok (.dreturn, 1) := by decide +kernel
theorem dX11_digest_0 : decode cX11_digest 0 = .ok (.ldc2_w 277, 3) := by decide +kernel
theorem dX11_digest_3 : decode cX11_digest 3 = .ok (.lstore_n 1, 1) := by decide +kernel
theorem dX11_digest_4 : decode cX11_digest 4 = .ok (.aload_n 0, 1) := by decide +kernel
theorem dX11_digest_5 : decode cX11_digest 5 = .ok (.lload_n 1, 1) := by decide +kernel
theorem dX11_digest_6 : decode cX11_digest 6 = .ok (.invokevirtual 279, 3) := by decide +kernel
theorem dX11_digest_9 : decode cX11_digest 9 = .ok (.lstore_n 1, 1) := by decide +kernel
theorem dX11_digest_10 : decode cX11_digest 10 = .ok (.aload_n 0, 1) := by decide +kernel
theorem dX11_digest_11 : decode cX11_digest 11 = .ok (.lload_n 1, 1) := by decide +kernel
theorem dX11_digest_12 : decode cX11_digest 12 = .ok (.invokevirtual 283, 3) := by decide +kernel
theorem dX11_digest_15 : decode cX11_digest 15 = .ok (.lstore_n 1, 1) := by decide +kernel
theorem dX11_digest_16 : decode cX11_digest 16 = .ok (.aload_n 0, 1) := by decide +kernel
theorem dX11_digest_17 : decode cX11_digest 17 = .ok (.lload_n 1, 1) := by decide +kernel
theorem dX11_digest_18 : decode cX11_digest 18 = .ok (.invokevirtual 286, 3) := by decide +kernel
theorem dX11_digest_21 : decode cX11_digest 21 = .ok (.lstore_n 1, 1) := by decide +kernel
theorem dX11_digest_22 : decode cX11_digest 22 = .ok (.aload_n 0, 1) := by decide +kernel
theorem dX11_digest_23 : decode cX11_digest 23 = .ok (.lload_n 1, 1) := by decide +kernel
theorem dX11_digest_24 : decode cX11_digest 24 = .ok (.invokevirtual 289, 3) := by decide +kernel
theorem dX11_digest_27 : decode cX11_digest 27 = .ok (.lstore_n 1, 1) := by decide +kernel
theorem dX11_digest_28 : decode cX11_digest 28 = .ok (.lload_n 1, 1) := by decide +kernel
theorem dX11_digest_29 : decode cX11_digest 29 = .ok (.aload_n 0, 1) := by decide +kernel
theorem dX11_digest_30 : decode cX11_digest 30 = .ok (.invokevirtual 292, 3) := by decide +kernel
theorem dX11_digest_33 : decode cX11_digest 33 = .ok (.invokestatic 296, 3) := by decide +kernel
theorem dX11_digest_36 : decode cX11_digest 36 = .ok (.lstore_n 1, 1) := by decide +kernel
theorem dX11_digest_37 : decode cX11_digest 37 = .ok (.lload_n 1, 1) := by decide +kernel
theorem dX11_digest_38 : decode cX11_digest 38 = .ok (.aload_n 0, 1) := by decide +kernel
theorem dX11_digest_39 : decode cX11_digest 39 = .ok (.bipush 50, 2) := by decide +kernel
theorem dX11_digest_41 : decode cX11_digest 41 = .ok (.invokevirtual 259, 3) := by decide +kernel
theorem dX11_digest_44 : decode cX11_digest 44 = .ok (.i2l, 1) := by decide +kernel
theorem dX11_digest_45 : decode cX11_digest 45 = .ok (.invokestatic 296, 3) := by decide +kernel
theorem dX11_digest_48 : decode cX11_digest 48 = .ok (.lstore_n 1, 1) := by decide +kernel
theorem dX11_digest_49 : decode cX11_digest 49 = .ok (.lload_n 1, 1) := by decide +kernel
theorem dX11_digest_50 : decode cX11_digest 50 = .ok (.aload_n 0, 1) := by decide +kernel
theorem dX11_digest_51 : decode cX11_digest 51 = .ok (.getfield 30, 3) := by decide +kernel
theorem dX11_digest_54 : decode cX11_digest 54 = .ok (.getfield 173, 3) := by decide +kernel
theorem dX11_digest_57 : decode cX11_digest 57 = .ok (.i2l, 1) := by decide +kernel
theorem dX11_digest_58 : decode cX11_digest 58 = .ok (.invokestatic 296, 3) := by decide +kernel
theorem dX11_digest_61 : decode cX11_digest 61 = .ok (.lstore_n 1, 1) := by decide +kernel
theorem dX11_digest_62 : decode cX11_digest 62 = .ok (.iconst 0, 1) := by decide +kernel
theorem dX11_digest_63 : decode cX11_digest 63 = .ok (.istore_n 3, 1) := by decide +kernel
theorem dX11_digest_64 : decode cX11_digest 64 = .ok (.iload_n 3, 1) := by decide +kernel
theorem dX11_digest_65 : decode cX11_digest 65 = .ok (.aload_n 0, 1) := by decide +kernel
theorem dX11_digest_66 : decode cX11_digest 66 = .ok (.getfield 30, 3) := by decide +kernel
theorem dX11_digest_69 : decode cX11_digest 69 = .ok (.getfield 173, 3) := by decide +kernel
theorem dX11_digest_72 : decode cX11_digest 72 = .ok (.if_icmp .ge 23, 3) := by decide +kernel
theorem dX11_digest_75 : decode cX11_digest 75 = .ok (.lload_n 1, 1) := by decide +kernel
theorem dX11_digest_76 : decode cX11_digest 76 = .ok (.aload_n 0, 1) := by decide +kernel
theorem dX11_digest_77 : decode cX11_digest 77 = .ok (.getfield 30, 3) := by decide +kernel
theorem dX11_digest_80 : decode cX11_digest 80 = .ok (.iload_n 3, 1) := by decide +kernel
theorem dX11_digest_81 : decode cX11_digest 81 = .ok (.invokevirtual 300, 3) := by decide +kernel
theorem dX11_digest_84 : decode cX11_digest 84 = .ok (.i2l, 1) := by decide +kernel
theorem dX11_digest_85 : decode cX11_digest 85 = .ok (.invokestatic 296, 3) := by decide +kernel
theorem dX11_digest_88 : decode cX11_digest 88 = .ok (.lstore_n 1, 1) := by decide +kernel
theorem dX11_digest_89 : decode cX11_digest 89 = .ok (.iinc 3 1, 3) := by decide +kernel
theorem dX11_digest_92 : decode cX11_digest 92 = .ok (.goto (-28), 3) := by decide +kernel
theorem dX11_digest_95 : decode cX11_digest 95 = .ok (.lload_n 1, 1) := by decide +kernel
theorem dX11_digest_96 : decode cX11_digest 96 = .ok (.lreturn, 1) := by decide +kernel
theorem dX11_mixed_0 : decode cX11_mixed 0 = .ok (.ldc2_w 303, 3) := by decide +kernel
theorem dX11_mixed_3 : decode cX11_mixed 3 = .ok (.lload_n 0, 1) := by decide +kernel
theorem dX11_mixed_4 : decode cX11_mixed 4 = .ok (.lmul, 1) := by decide +kernel
theorem dX11_mixed_5 : decode cX11_mixed 5 = .ok (.lload_n 2, 1) := by decide +kernel
theorem dX11_mixed_6 : decode cX11_mixed 6 = .ok (.ladd, 1) := by decide +kernel
theorem dX11_mixed_7 : decode cX11_mixed 7 = .ok (.lreturn, 1) := by decide +kernel
theorem dX11_hashAnswers_0 : decode cX11_hashAnswers 0 = .ok (.lload_n 1, 1) := by decide +kernel
theorem dX11_hashAnswers_1 : decode cX11_hashAnswers 1 = .ok (.lstore_n 3, 1) := by decide +kernel
theorem dX11_hashAnswers_2 : decode cX11_hashAnswers 2 = .ok (.iconst 0, 1) := by decide +kernel
theorem dX11_hashAnswers_3 : decode cX11_hashAnswers 3 = .ok (.istore 5, 2) := by decide +kernel
theorem dX11_hashAnswers_5 : decode cX11_hashAnswers 5 = .ok (.iload 5, 2) := by decide +kernel
theorem dX11_hashAnswers_7 : decode cX11_hashAnswers 7 = .ok (.bipush 7, 2) := by decide +kernel
theorem dX11_hashAnswers_9 : decode cX11_hashAnswers 9 = .ok (.if_icmp .gt 21, 3) := by decide +kernel
theorem dX11_hashAnswers_12 : decode cX11_hashAnswers 12 = .ok (.lload_n 3, 1) := by decide +kernel
theorem dX11_hashAnswers_13 : decode cX11_hashAnswers 13 = .ok (.aload_n 0, 1) := by decide +kernel
theorem dX11_hashAnswers_14 : decode cX11_hashAnswers 14 = .ok (.iload 5, 2) := by decide +kernel
theorem dX11_hashAnswers_16 : decode cX11_hashAnswers 16 = .ok (.invokevirtual 190, 3) := by decide +kernel
theorem dX11_hashAnswers_19 : decode cX11_hashAnswers 19 = .ok (.i2l, 1) := by decide +kernel
theorem dX11_hashAnswers_20 : decode cX11_hashAnswers 20 = .ok (.invokestatic 296, 3) := by decide +kernel
theorem dX11_hashAnswers_23 : decode cX11_hashAnswers 23 = .ok (.lstore_n 3, 1) := by decide +kernel
theorem dX11_hashAnswers_24 : decode cX11_hashAnswers 24 = .ok (.iinc 5 1, 3) := by decide +kernel
theorem dX11_hashAnswers_27 : decode cX11_hashAnswers 27 = .ok (.goto (-22), 3) := by decide +kernel
theorem dX11_hashAnswers_30 : decode cX11_hashAnswers 30 = .ok (.iconst 0, 1) := by decide +kernel
theorem dX11_hashAnswers_31 : decode cX11_hashAnswers 31 = .ok (.istore 5, 2) := by decide +kernel
theorem dX11_hashAnswers_33 : decode cX11_hashAnswers 33 = .ok (.iload 5, 2) := by decide +kernel
theorem dX11_hashAnswers_35 : decode cX11_hashAnswers 35 = .ok (.aload_n 0, 1) := by decide +kernel
theorem dX11_hashAnswers_36 : decode cX11_hashAnswers 36 = .ok (.getfield 80, 3) := by decide +kernel
theorem dX11_hashAnswers_39 : decode cX11_hashAnswers 39 = .ok (.if_icmp .ge 34, 3) := by decide +kernel
theorem dX11_hashAnswers_42 : decode cX11_hashAnswers 42 = .ok (.lload_n 3, 1) := by decide +kernel
theorem dX11_hashAnswers_43 : decode cX11_hashAnswers 43 = .ok (.aload_n 0, 1) := by decide +kernel
theorem dX11_hashAnswers_44 : decode cX11_hashAnswers 44 = .ok (.getfield 9, 3) := by decide +kernel
theorem dX11_hashAnswers_47 : decode cX11_hashAnswers 47 = .ok (.iload 5, 2) := by decide +kernel
theorem dX11_hashAnswers_49 : decode cX11_hashAnswers 49 = .ok (.iaload, 1) := by decide +kernel
theorem dX11_hashAnswers_50 : decode cX11_hashAnswers 50 = .ok (.i2l, 1) := by decide +kernel
theorem dX11_hashAnswers_51 : decode cX11_hashAnswers 51 = .ok (.invokestatic 296, 3) := by decide +kernel
theorem dX11_hashAnswers_54 : decode cX11_hashAnswers 54 = .ok (.lstore_n 3, 1) := by decide +kernel
theorem dX11_hashAnswers_55 : decode cX11_hashAnswers 55 = .ok (.lload_n 3, 1) := by decide +kernel
theorem dX11_hashAnswers_56 : decode cX11_hashAnswers 56 = .ok (.aload_n 0, 1) := by decide +kernel
theorem dX11_hashAnswers_57 : decode cX11_hashAnswers 57 = .ok (.iload 5, 2) := by decide +kernel
theorem dX11_hashAnswers_59 : decode cX11_hashAnswers 59 = .ok (.invokevirtual 230, 3) := by decide +kernel
theorem dX11_hashAnswers_62 : decode cX11_hashAnswers 62 = .ok (.i2l, 1) := by decide +kernel
theorem dX11_hashAnswers_63 : decode cX11_hashAnswers 63 = .ok (.invokestatic 296, 3) := by decide +kernel
theorem dX11_hashAnswers_66 : decode cX11_hashAnswers 66 = .ok (.lstore_n 3, 1) := by decide +kernel
theorem dX11_hashAnswers_67 : decode cX11_hashAnswers 67 = .ok (.iinc 5 1, 3) := by decide +kernel
theorem dX11_hashAnswers_70 : decode cX11_hashAnswers 70 = .ok (.goto (-37), 3) := by decide +kernel
theorem dX11_hashAnswers_73 : decode cX11_hashAnswers 73 = .ok (.iconst 0, 1) := by decide +kernel
theorem dX11_hashAnswers_74 : decode cX11_hashAnswers 74 = .ok (.istore 5, 2) := by decide +kernel
theorem dX11_hashAnswers_76 : decode cX11_hashAnswers 76 = .ok (.iload 5, 2) := by decide +kernel
theorem dX11_hashAnswers_78 : decode cX11_hashAnswers 78 = .ok (.aload_n 0, 1) := by decide +kernel
theorem dX11_hashAnswers_79 : decode cX11_hashAnswers 79 = .ok (.getfield 16, 3) := by decide +kernel
theorem dX11_hashAnswers_82 : decode cX11_hashAnswers 82 = .ok (.getfield 149, 3) := by decide +kernel
theorem dX11_hashAnswers_85 : decode cX11_hashAnswers 85 = .ok (.if_icmp .ge 44, 3) := by decide +kernel
theorem dX11_hashAnswers_88 : decode cX11_hashAnswers 88 = .ok (.iconst 0, 1) := by decide +kernel
theorem dX11_hashAnswers_89 : decode cX11_hashAnswers 89 = .ok (.istore 6, 2) := by decide +kernel
theorem dX11_hashAnswers_91 : decode cX11_hashAnswers 91 = .ok (.iload 6, 2) := by decide +kernel
theorem dX11_hashAnswers_93 : decode cX11_hashAnswers 93 = .ok (.iconst 3, 1) := by decide +kernel
theorem dX11_hashAnswers_94 : decode cX11_hashAnswers 94 = .ok (.if_icmp .gt 29, 3) := by decide +kernel
theorem dX11_hashAnswers_97 : decode cX11_hashAnswers 97 = .ok (.lload_n 3, 1) := by decide +kernel
theorem dX11_hashAnswers_98 : decode cX11_hashAnswers 98 = .ok (.aload_n 0, 1) := by decide +kernel
theorem dX11_hashAnswers_99 : decode cX11_hashAnswers 99 = .ok (.getfield 16, 3) := by decide +kernel
theorem dX11_hashAnswers_102 : decode cX11_hashAnswers 102 = .ok (.iload 5, 2) := by decide +kernel
theorem dX11_hashAnswers_104 : decode cX11_hashAnswers 104 = .ok (.invokevirtual 193, 3) := by decide +kernel
theorem dX11_hashAnswers_107 : decode cX11_hashAnswers 107 = .ok (.iload 6, 2) := by decide +kernel
theorem dX11_hashAnswers_109 : decode cX11_hashAnswers 109 = .ok (.invokestatic 196, 3) := by decide +kernel
theorem dX11_hashAnswers_112 : decode cX11_hashAnswers 112 = .ok (.i2l, 1) := by decide +kernel
theorem dX11_hashAnswers_113 : decode cX11_hashAnswers 113 = .ok (.invokestatic 296, 3) := by decide +kernel
theorem dX11_hashAnswers_116 : decode cX11_hashAnswers 116 = .ok (.lstore_n 3, 1) := by decide +kernel
theorem dX11_hashAnswers_117 : decode cX11_hashAnswers 117 = .ok (.iinc 6 1, 3) := by decide +kernel
theorem dX11_hashAnswers_120 : decode cX11_hashAnswers 120 = .ok (.goto (-29), 3) := by decide +kernel
theorem dX11_hashAnswers_123 : decode cX11_hashAnswers 123 = .ok (.iinc 5 1, 3) := by decide +kernel
theorem dX11_hashAnswers_126 : decode cX11_hashAnswers 126 = .ok (.goto (-50), 3) := by decide +kernel
theorem dX11_hashAnswers_129 : decode cX11_hashAnswers 129 = .ok (.lload_n 3, 1) := by decide +kernel
theorem dX11_hashAnswers_130 : decode cX11_hashAnswers 130 = .ok (.lreturn, 1) := by decide +kernel
theorem dX11_hashPlan_0 : decode cX11_hashPlan 0 = .ok (.lload_n 1, 1) := by decide +kernel
theorem dX11_hashPlan_1 : decode cX11_hashPlan 1 = .ok (.lstore_n 3, 1) := by decide +kernel
theorem dX11_hashPlan_2 : decode cX11_hashPlan 2 = .ok (.aload_n 0, 1) := by decide +kernel
theorem dX11_hashPlan_3 : decode cX11_hashPlan 3 = .ok (.getfield 95, 3) := by decide +kernel
theorem dX11_hashPlan_6 : decode cX11_hashPlan 6 = .ok (.astore 5, 2) := by decide +kernel
theorem dX11_hashPlan_8 : decode cX11_hashPlan 8 = .ok (.aload 5, 2) := by decide +kernel
theorem dX11_hashPlan_10 : decode cX11_hashPlan 10 = .ok (.ifnonnull 5, 3) := by decide +kernel
theorem dX11_hashPlan_13 : decode cX11_hashPlan 13 = .ok (.lload_n 3, 1) := by decide +kernel
theorem dX11_hashPlan_14 : decode cX11_hashPlan 14 = .ok (.lreturn, 1) := by decide +kernel
theorem dX11_hashPlan_15 : decode cX11_hashPlan 15 = .ok (.iconst 0, 1) := by decide +kernel
theorem dX11_hashPlan_16 : decode cX11_hashPlan 16 = .ok (.istore 6, 2) := by decide +kernel
theorem dX11_hashPlan_18 : decode cX11_hashPlan 18 = .ok (.iload 6, 2) := by decide +kernel
theorem dX11_hashPlan_20 : decode cX11_hashPlan 20 = .ok (.aload 5, 2) := by decide +kernel
theorem dX11_hashPlan_22 : decode cX11_hashPlan 22 = .ok (.invokevirtual 102, 3) := by decide +kernel
theorem dX11_hashPlan_25 : decode cX11_hashPlan 25 = .ok (.if_icmp .ge 35, 3) := by decide +kernel
theorem dX11_hashPlan_28 : decode cX11_hashPlan 28 = .ok (.lload_n 3, 1) := by decide +kernel
theorem dX11_hashPlan_29 : decode cX11_hashPlan 29 = .ok (.aload 5, 2) := by decide +kernel
theorem dX11_hashPlan_31 : decode cX11_hashPlan 31 = .ok (.iload 6, 2) := by decide +kernel
theorem dX11_hashPlan_33 : decode cX11_hashPlan 33 = .ok (.invokevirtual 117, 3) := by decide +kernel
theorem dX11_hashPlan_36 : decode cX11_hashPlan 36 = .ok (.i2l, 1) := by decide +kernel
theorem dX11_hashPlan_37 : decode cX11_hashPlan 37 = .ok (.invokestatic 296, 3) := by decide +kernel
theorem dX11_hashPlan_40 : decode cX11_hashPlan 40 = .ok (.lstore_n 3, 1) := by decide +kernel
theorem dX11_hashPlan_41 : decode cX11_hashPlan 41 = .ok (.lload_n 3, 1) := by decide +kernel
theorem dX11_hashPlan_42 : decode cX11_hashPlan 42 = .ok (.aload 5, 2) := by decide +kernel
theorem dX11_hashPlan_44 : decode cX11_hashPlan 44 = .ok (.iload 6, 2) := by decide +kernel
theorem dX11_hashPlan_46 : decode cX11_hashPlan 46 = .ok (.invokevirtual 113, 3) := by decide +kernel
theorem dX11_hashPlan_49 : decode cX11_hashPlan 49 = .ok (.i2l, 1) := by decide +kernel
theorem dX11_hashPlan_50 : decode cX11_hashPlan 50 = .ok (.invokestatic 296, 3) := by decide +kernel
theorem dX11_hashPlan_53 : decode cX11_hashPlan 53 = .ok (.lstore_n 3, 1) := by decide +kernel
theorem dX11_hashPlan_54 : decode cX11_hashPlan 54 = .ok (.iinc 6 1, 3) := by decide +kernel
theorem dX11_hashPlan_57 : decode cX11_hashPlan 57 = .ok (.goto (-39), 3) := by decide +kernel
theorem dX11_hashPlan_60 : decode cX11_hashPlan 60 = .ok (.lload_n 3, 1) := by decide +kernel
theorem dX11_hashPlan_61 : decode cX11_hashPlan 61 = .ok (.lreturn, 1) := by decide +kernel
theorem dX11_hashRanks_0 : decode cX11_hashRanks 0 = .ok (.lload_n 1, 1) := by decide +kernel
theorem dX11_hashRanks_1 : decode cX11_hashRanks 1 = .ok (.lstore_n 3, 1) := by decide +kernel
theorem dX11_hashRanks_2 : decode cX11_hashRanks 2 = .ok (.aload_n 0, 1) := by decide +kernel
theorem dX11_hashRanks_3 : decode cX11_hashRanks 3 = .ok (.iconst (-1), 1) := by decide +kernel
theorem dX11_hashRanks_4 : decode cX11_hashRanks 4 = .ok (.invokevirtual 202, 3) := by decide +kernel
theorem dX11_hashRanks_7 : decode cX11_hashRanks 7 = .ok (.aload_n 0, 1) := by decide +kernel
theorem dX11_hashRanks_8 : decode cX11_hashRanks 8 = .ok (.bipush 8, 2) := by decide +kernel
theorem dX11_hashRanks_10 : decode cX11_hashRanks 10 = .ok (.invokevirtual 266, 3) := by decide +kernel
theorem dX11_hashRanks_13 : decode cX11_hashRanks 13 = .ok (.iconst 0, 1) := by decide +kernel
theorem dX11_hashRanks_14 : decode cX11_hashRanks 14 = .ok (.istore 5, 2) := by decide +kernel
theorem dX11_hashRanks_16 : decode cX11_hashRanks 16 = .ok (.iload 5, 2) := by decide +kernel
theorem dX11_hashRanks_18 : decode cX11_hashRanks 18 = .ok (.aload_n 0, 1) := by decide +kernel
theorem dX11_hashRanks_19 : decode cX11_hashRanks 19 = .ok (.getfield 89, 3) := by decide +kernel
theorem dX11_hashRanks_22 : decode cX11_hashRanks 22 = .ok (.if_icmp .ge 65, 3) := by decide +kernel
theorem dX11_hashRanks_25 : decode cX11_hashRanks 25 = .ok (.iconst 0, 1) := by decide +kernel
theorem dX11_hashRanks_26 : decode cX11_hashRanks 26 = .ok (.istore 6, 2) := by decide +kernel
theorem dX11_hashRanks_28 : decode cX11_hashRanks 28 = .ok (.iload 6, 2) := by decide +kernel
theorem dX11_hashRanks_30 : decode cX11_hashRanks 30 = .ok (.iconst 5, 1) := by decide +kernel
theorem dX11_hashRanks_31 : decode cX11_hashRanks 31 = .ok (.if_icmp .gt 30, 3) := by decide +kernel
theorem dX11_hashRanks_34 : decode cX11_hashRanks 34 = .ok (.lload_n 3, 1) := by decide +kernel
theorem dX11_hashRanks_35 : decode cX11_hashRanks 35 = .ok (.aload_n 0, 1) := by decide +kernel
theorem dX11_hashRanks_36 : decode cX11_hashRanks 36 = .ok (.getfield 54, 3) := by decide +kernel
theorem dX11_hashRanks_39 : decode cX11_hashRanks 39 = .ok (.aload_n 0, 1) := by decide +kernel
theorem dX11_hashRanks_40 : decode cX11_hashRanks 40 = .ok (.getfield 16, 3) := by decide +kernel
theorem dX11_hashRanks_43 : decode cX11_hashRanks 43 = .ok (.iload 5, 2) := by decide +kernel
theorem dX11_hashRanks_45 : decode cX11_hashRanks 45 = .ok (.iload 6, 2) := by decide +kernel
theorem dX11_hashRanks_47 : decode cX11_hashRanks 47 = .ok (.invokevirtual 220, 3) := by decide +kernel
theorem dX11_hashRanks_50 : decode cX11_hashRanks 50 = .ok (.i2l, 1) := by decide +kernel
theorem dX11_hashRanks_51 : decode cX11_hashRanks 51 = .ok (.invokestatic 296, 3) := by decide +kernel
theorem dX11_hashRanks_54 : decode cX11_hashRanks 54 = .ok (.lstore_n 3, 1) := by decide +kernel
theorem dX11_hashRanks_55 : decode cX11_hashRanks 55 = .ok (.iinc 6 1, 3) := by decide +kernel
theorem dX11_hashRanks_58 : decode cX11_hashRanks 58 = .ok (.goto (-30), 3) := by decide +kernel
theorem dX11_hashRanks_61 : decode cX11_hashRanks 61 = .ok (.lload_n 3, 1) := by decide +kernel
theorem dX11_hashRanks_62 : decode cX11_hashRanks 62 = .ok (.aload_n 0, 1) := by decide +kernel
theorem dX11_hashRanks_63 : decode cX11_hashRanks 63 = .ok (.getfield 68, 3) := by decide +kernel
theorem dX11_hashRanks_66 : decode cX11_hashRanks 66 = .ok (.getfield 269, 3) := by decide +kernel
theorem dX11_hashRanks_69 : decode cX11_hashRanks 69 = .ok (.iload 5, 2) := by decide +kernel
theorem dX11_hashRanks_71 : decode cX11_hashRanks 71 = .ok (.daload, 1) := by decide +kernel
theorem dX11_hashRanks_72 : decode cX11_hashRanks 72 = .ok (.ldc2_w 305, 3) := by decide +kernel
theorem dX11_hashRanks_75 : decode cX11_hashRanks 75 = .ok (.dmul, 1) := by decide +kernel
theorem dX11_hashRanks_76 : decode cX11_hashRanks 76 = .ok (.d2l, 1) := by decide +kernel
theorem dX11_hashRanks_77 : decode cX11_hashRanks 77 = .ok (.invokestatic 296, 3) := by decide +kernel
theorem dX11_hashRanks_80 : decode cX11_hashRanks 80 = .ok (.lstore_n 3, 1) := by decide +kernel
theorem dX11_hashRanks_81 : decode cX11_hashRanks 81 = .ok (.iinc 5 1, 3) := by decide +kernel
theorem dX11_hashRanks_84 : decode cX11_hashRanks 84 = .ok (.goto (-68), 3) := by decide +kernel
theorem dX11_hashRanks_87 : decode cX11_hashRanks 87 = .ok (.iconst 0, 1) := by decide +kernel
theorem dX11_hashRanks_88 : decode cX11_hashRanks 88 = .ok (.istore 5, 2) := by decide +kernel
theorem dX11_hashRanks_90 : decode cX11_hashRanks 90 = .ok (.iload 5, 2) := by decide +kernel
theorem dX11_hashRanks_92 : decode cX11_hashRanks 92 = .ok (.iconst 5, 1) := by decide +kernel
theorem dX11_hashRanks_93 : decode cX11_hashRanks 93 = .ok (.if_icmp .gt 28, 3) := by decide +kernel
theorem dX11_hashRanks_96 : decode cX11_hashRanks 96 = .ok (.lload_n 3, 1) := by decide +kernel
theorem dX11_hashRanks_97 : decode cX11_hashRanks 97 = .ok (.aload_n 0, 1) := by decide +kernel
theorem dX11_hashRanks_98 : decode cX11_hashRanks 98 = .ok (.getfield 54, 3) := by decide +kernel
theorem dX11_hashRanks_101 : decode cX11_hashRanks 101 = .ok (.aload_n 0, 1) := by decide +kernel
theorem dX11_hashRanks_102 : decode cX11_hashRanks 102 = .ok (.getfield 16, 3) := by decide +kernel
theorem dX11_hashRanks_105 : decode cX11_hashRanks 105 = .ok (.iload 5, 2) := by decide +kernel
theorem dX11_hashRanks_107 : decode cX11_hashRanks 107 = .ok (.invokevirtual 226, 3) := by decide +kernel
theorem dX11_hashRanks_110 : decode cX11_hashRanks 110 = .ok (.i2l, 1) := by decide +kernel
theorem dX11_hashRanks_111 : decode cX11_hashRanks 111 = .ok (.invokestatic 296, 3) := by decide +kernel
theorem dX11_hashRanks_114 : decode cX11_hashRanks 114 = .ok (.lstore_n 3, 1) := by decide +kernel
theorem dX11_hashRanks_115 : decode cX11_hashRanks 115 = .ok (.iinc 5 1, 3) := by decide +kernel
theorem dX11_hashRanks_118 : decode cX11_hashRanks 118 = .ok (.goto (-28), 3) := by decide +kernel
theorem dX11_hashRanks_121 : decode cX11_hashRanks 121 = .ok (.lload_n 3, 1) := by decide +kernel
theorem dX11_hashRanks_122 : decode cX11_hashRanks 122 = .ok (.lreturn, 1) := by decide +kernel
theorem dX11_hashPairs_0 : decode cX11_hashPairs 0 = .ok (.lload_n 1, 1) := by decide +kernel
theorem dX11_hashPairs_1 : decode cX11_hashPairs 1 = .ok (.lstore_n 3, 1) := by decide +kernel
theorem dX11_hashPairs_2 : decode cX11_hashPairs 2 = .ok (.aload_n 0, 1) := by decide +kernel
theorem dX11_hashPairs_3 : decode cX11_hashPairs 3 = .ok (.iconst (-1), 1) := by decide +kernel
theorem dX11_hashPairs_4 : decode cX11_hashPairs 4 = .ok (.invokevirtual 202, 3) := by decide +kernel
theorem dX11_hashPairs_7 : decode cX11_hashPairs 7 = .ok (.aload_n 0, 1) := by decide +kernel
theorem dX11_hashPairs_8 : decode cX11_hashPairs 8 = .ok (.getfield 37, 3) := by decide +kernel
theorem dX11_hashPairs_11 : decode cX11_hashPairs 11 = .ok (.aload_n 0, 1) := by decide +kernel
theorem dX11_hashPairs_12 : decode cX11_hashPairs 12 = .ok (.getfield 16, 3) := by decide +kernel
theorem dX11_hashPairs_15 : decode cX11_hashPairs 15 = .ok (.invokevirtual 211, 3) := by decide +kernel
theorem dX11_hashPairs_18 : decode cX11_hashPairs 18 = .ok (.iconst 0, 1) := by decide +kernel
theorem dX11_hashPairs_19 : decode cX11_hashPairs 19 = .ok (.istore 5, 2) := by decide +kernel
theorem dX11_hashPairs_21 : decode cX11_hashPairs 21 = .ok (.iload 5, 2) := by decide +kernel
theorem dX11_hashPairs_23 : decode cX11_hashPairs 23 = .ok (.aload_n 0, 1) := by decide +kernel
theorem dX11_hashPairs_24 : decode cX11_hashPairs 24 = .ok (.getfield 89, 3) := by decide +kernel
theorem dX11_hashPairs_27 : decode cX11_hashPairs 27 = .ok (.if_icmp .ge 66, 3) := by decide +kernel
theorem dX11_hashPairs_30 : decode cX11_hashPairs 30 = .ok (.iload 5, 2) := by decide +kernel
theorem dX11_hashPairs_32 : decode cX11_hashPairs 32 = .ok (.iconst 1, 1) := by decide +kernel
theorem dX11_hashPairs_33 : decode cX11_hashPairs 33 = .ok (.iadd, 1) := by decide +kernel
theorem dX11_hashPairs_34 : decode cX11_hashPairs 34 = .ok (.istore 6, 2) := by decide +kernel
theorem dX11_hashPairs_36 : decode cX11_hashPairs 36 = .ok (.iload 6, 2) := by decide +kernel
theorem dX11_hashPairs_38 : decode cX11_hashPairs 38 = .ok (.aload_n 0, 1) := by decide +kernel
theorem dX11_hashPairs_39 : decode cX11_hashPairs 39 = .ok (.getfield 89, 3) := by decide +kernel
theorem dX11_hashPairs_42 : decode cX11_hashPairs 42 = .ok (.if_icmp .ge 45, 3) := by decide +kernel
theorem dX11_hashPairs_45 : decode cX11_hashPairs 45 = .ok (.lload_n 3, 1) := by decide +kernel
theorem dX11_hashPairs_46 : decode cX11_hashPairs 46 = .ok (.aload_n 0, 1) := by decide +kernel
theorem dX11_hashPairs_47 : decode cX11_hashPairs 47 = .ok (.getfield 54, 3) := by decide +kernel
theorem dX11_hashPairs_50 : decode cX11_hashPairs 50 = .ok (.getfield 205, 3) := by decide +kernel
theorem dX11_hashPairs_53 : decode cX11_hashPairs 53 = .ok (.iload 5, 2) := by decide +kernel
theorem dX11_hashPairs_55 : decode cX11_hashPairs 55 = .ok (.iload 6, 2) := by decide +kernel
theorem dX11_hashPairs_57 : decode cX11_hashPairs 57 = .ok (.invokevirtual 208, 3) := by decide +kernel
theorem dX11_hashPairs_60 : decode cX11_hashPairs 60 = .ok (.i2l, 1) := by decide +kernel
theorem dX11_hashPairs_61 : decode cX11_hashPairs 61 = .ok (.invokestatic 296, 3) := by decide +kernel
theorem dX11_hashPairs_64 : decode cX11_hashPairs 64 = .ok (.lstore_n 3, 1) := by decide +kernel
theorem dX11_hashPairs_65 : decode cX11_hashPairs 65 = .ok (.lload_n 3, 1) := by decide +kernel
theorem dX11_hashPairs_66 : decode cX11_hashPairs 66 = .ok (.aload_n 0, 1) := by decide +kernel
theorem dX11_hashPairs_67 : decode cX11_hashPairs 67 = .ok (.getfield 37, 3) := by decide +kernel
theorem dX11_hashPairs_70 : decode cX11_hashPairs 70 = .ok (.iload 5, 2) := by decide +kernel
theorem dX11_hashPairs_72 : decode cX11_hashPairs 72 = .ok (.iload 6, 2) := by decide +kernel
theorem dX11_hashPairs_74 : decode cX11_hashPairs 74 = .ok (.invokevirtual 249, 3) := by decide +kernel
theorem dX11_hashPairs_77 : decode cX11_hashPairs 77 = .ok (.invokestatic 296, 3) := by decide +kernel
theorem dX11_hashPairs_80 : decode cX11_hashPairs 80 = .ok (.lstore_n 3, 1) := by decide +kernel
theorem dX11_hashPairs_81 : decode cX11_hashPairs 81 = .ok (.iinc 6 1, 3) := by decide +kernel
theorem dX11_hashPairs_84 : decode cX11_hashPairs 84 = .ok (.goto (-48), 3) := by decide +kernel
theorem dX11_hashPairs_87 : decode cX11_hashPairs 87 = .ok (.iinc 5 1, 3) := by decide +kernel
theorem dX11_hashPairs_90 : decode cX11_hashPairs 90 = .ok (.goto (-69), 3) := by decide +kernel
theorem dX11_hashPairs_93 : decode cX11_hashPairs 93 = .ok (.lload_n 3, 1) := by decide +kernel
theorem dX11_hashPairs_94 : decode cX11_hashPairs 94 = .ok (.lreturn, 1) := by decide +kernel
theorem dX11_startAnew_0 : decode cX11_startAnew 0 = .ok (.aload_n 0, 1) := by decide +kernel
theorem dX11_startAnew_1 : decode cX11_startAnew 1 = .ok (.iload_n 1, 1) := by decide +kernel
theorem dX11_startAnew_2 : decode cX11_startAnew 2 = .ok (.putfield 89, 3) := by decide +kernel
theorem dX11_startAnew_5 : decode cX11_startAnew 5 = .ok (.aload_n 0, 1) := by decide +kernel
theorem dX11_startAnew_6 : decode cX11_startAnew 6 = .ok (.iload_n 2, 1) := by decide +kernel
theorem dX11_startAnew_7 : decode cX11_startAnew 7 = .ok (.putfield 80, 3) := by decide +kernel
theorem dX11_startAnew_10 : decode cX11_startAnew 10 = .ok (.aload_n 0, 1) := by decide +kernel
theorem dX11_startAnew_11 : decode cX11_startAnew 11 = .ok (.getfield 9, 3) := by decide +kernel
theorem dX11_startAnew_14 : decode cX11_startAnew 14 = .ok (.iconst 1, 1) := by decide +kernel
theorem dX11_startAnew_15 : decode cX11_startAnew 15 = .ok (.invokestatic 307, 3) := by decide +kernel
theorem dX11_startAnew_18 : decode cX11_startAnew 18 = .ok (.aload_n 0, 1) := by decide +kernel
theorem dX11_startAnew_19 : decode cX11_startAnew 19 = .ok (.getfield 16, 3) := by decide +kernel
theorem dX11_startAnew_22 : decode cX11_startAnew 22 = .ok (.iconst 0, 1) := by decide +kernel
theorem dX11_startAnew_23 : decode cX11_startAnew 23 = .ok (.putfield 149, 3) := by decide +kernel
theorem dX11_startAnew_26 : decode cX11_startAnew 26 = .ok (.aload_n 0, 1) := by decide +kernel
theorem dX11_startAnew_27 : decode cX11_startAnew 27 = .ok (.aconst_null, 1) := by decide +kernel
theorem dX11_startAnew_28 : decode cX11_startAnew 28 = .ok (.putfield 95, 3) := by decide +kernel
theorem dX11_startAnew_31 : decode cX11_startAnew 31 = .ok (.aload_n 0, 1) := by decide +kernel
theorem dX11_startAnew_32 : decode cX11_startAnew 32 = .ok (.iconst 0, 1) := by decide +kernel
theorem dX11_startAnew_33 : decode cX11_startAnew 33 = .ok (.putfield 99, 3) := by decide +kernel
theorem dX11_startAnew_36 : decode cX11_startAnew 36 = .ok (.aload_n 0, 1) := by decide +kernel
theorem dX11_startAnew_37 : decode cX11_startAnew 37 = .ok (.getfield 23, 3) := by decide +kernel
theorem dX11_startAnew_40 : decode cX11_startAnew 40 = .ok (.invokevirtual 313, 3) := by decide +kernel
theorem dX11_startAnew_43 : decode cX11_startAnew 43 = .ok (.return_, 1) := by decide +kernel
theorem dX11_rememberStep_0 : decode cX11_rememberStep 0 = .ok (.aload_n 0, 1) := by decide +kernel
theorem dX11_rememberStep_1 : decode cX11_rememberStep 1 = .ok (.getfield 23, 3) := by decide +kernel
theorem dX11_rememberStep_4 : decode cX11_rememberStep 4 = .ok (.invokevirtual 316, 3) := by decide +kernel
theorem dX11_rememberStep_7 : decode cX11_rememberStep 7 = .ok (.aload_n 0, 1) := by decide +kernel
theorem dX11_rememberStep_8 : decode cX11_rememberStep 8 = .ok (.getfield 16, 3) := by decide +kernel
theorem dX11_rememberStep_11 : decode cX11_rememberStep 11 = .ok (.aload_n 0, 1) := by decide +kernel
theorem dX11_rememberStep_12 : decode cX11_rememberStep 12 = .ok (.getfield 95, 3) := by decide +kernel
theorem dX11_rememberStep_15 : decode cX11_rememberStep 15 = .ok (.aload_n 0, 1) := by decide +kernel
theorem dX11_rememberStep_16 : decode cX11_rememberStep 16 = .ok (.getfield 99, 3) := by decide +kernel
theorem dX11_rememberStep_19 : decode cX11_rememberStep 19 = .ok (.invokevirtual 319, 3) := by decide +kernel
theorem dX11_rememberStep_22 : decode cX11_rememberStep 22 = .ok (.return_, 1) := by decide +kernel
theorem dX11_trialsLeft_0 : decode cX11_trialsLeft 0 = .ok (.aload_n 0, 1) := by decide +kernel
theorem dX11_trialsLeft_1 : decode cX11_trialsLeft 1 = .ok (.getfield 95, 3) := by decide +kernel
theorem dX11_trialsLeft_4 : decode cX11_trialsLeft 4 = .ok (.astore_n 1, 1) := by decide +kernel
theorem dX11_trialsLeft_5 : decode cX11_trialsLeft 5 = .ok (.aload_n 1, 1) := by decide +kernel
theorem dX11_trialsLeft_6 : decode cX11_trialsLeft 6 = .ok (.ifnonnull 7, 3) := by decide +kernel
theorem dX11_trialsLeft_9 : decode cX11_trialsLeft 9 = .ok (.iconst 0, 1) := by decide +kernel
theorem dX11_trialsLeft_10 : decode cX11_trialsLeft 10 = .ok (.goto 12, 3) := by decide +kernel
theorem dX11_trialsLeft_13 : decode cX11_trialsLeft 13 = .ok (.aload_n 1, 1) := by decide +kernel
theorem dX11_trialsLeft_14 : decode cX11_trialsLeft 14 = .ok (.invokevirtual 102, 3) := by decide +kernel
theorem dX11_trialsLeft_17 : decode cX11_trialsLeft 17 = .ok (.aload_n 0, 1) := by decide +kernel
theorem dX11_trialsLeft_18 : decode cX11_trialsLeft 18 = .ok (.getfield 99, 3) := by decide +kernel
theorem dX11_trialsLeft_21 : decode cX11_trialsLeft 21 = .ok (.isub, 1) := by decide +kernel
theorem dX11_trialsLeft_22 : decode cX11_trialsLeft 22 = .ok (.ireturn, 1) := by decide +kernel
theorem dX11_countOf_0 : decode cX11_countOf 0 = .ok (.aload_n 0, 1) := by decide +kernel
theorem dX11_countOf_1 : decode cX11_countOf 1 = .ok (.getfield 95, 3) := by decide +kernel
theorem dX11_countOf_4 : decode cX11_countOf 4 = .ok (.astore_n 2, 1) := by decide +kernel
theorem dX11_countOf_5 : decode cX11_countOf 5 = .ok (.iload_n 1, 1) := by decide +kernel
theorem dX11_countOf_6 : decode cX11_countOf 6 = .ok (.tableswitch 91 0 6 #[42, 47, 52, 60, 69, 78, 83], 42) := by decide +kernel
theorem dX11_countOf_48 : decode cX11_countOf 48 = .ok (.aload_n 0, 1) := by decide +kernel
theorem dX11_countOf_49 : decode cX11_countOf 49 = .ok (.getfield 89, 3) := by decide +kernel
theorem dX11_countOf_52 : decode cX11_countOf 52 = .ok (.ireturn, 1) := by decide +kernel
theorem dX11_countOf_53 : decode cX11_countOf 53 = .ok (.aload_n 0, 1) := by decide +kernel
theorem dX11_countOf_54 : decode cX11_countOf 54 = .ok (.getfield 80, 3) := by decide +kernel
theorem dX11_countOf_57 : decode cX11_countOf 57 = .ok (.ireturn, 1) := by decide +kernel
theorem dX11_countOf_58 : decode cX11_countOf 58 = .ok (.aload_n 0, 1) := by decide +kernel
theorem dX11_countOf_59 : decode cX11_countOf 59 = .ok (.getfield 16, 3) := by decide +kernel
theorem dX11_countOf_62 : decode cX11_countOf 62 = .ok (.getfield 149, 3) := by decide +kernel
theorem dX11_countOf_65 : decode cX11_countOf 65 = .ok (.ireturn, 1) := by decide +kernel
theorem dX11_countOf_66 : decode cX11_countOf 66 = .ok (.aload_n 0, 1) := by decide +kernel
theorem dX11_countOf_67 : decode cX11_countOf 67 = .ok (.getfield 16, 3) := by decide +kernel
theorem dX11_countOf_70 : decode cX11_countOf 70 = .ok (.iconst 0, 1) := by decide +kernel
theorem dX11_countOf_71 : decode cX11_countOf 71 = .ok (.invokevirtual 253, 3) := by decide +kernel
theorem dX11_countOf_74 : decode cX11_countOf 74 = .ok (.ireturn, 1) := by decide +kernel
theorem dX11_countOf_75 : decode cX11_countOf 75 = .ok (.aload_n 0, 1) := by decide +kernel
theorem dX11_countOf_76 : decode cX11_countOf 76 = .ok (.getfield 16, 3) := by decide +kernel
theorem dX11_countOf_79 : decode cX11_countOf 79 = .ok (.iconst 1, 1) := by decide +kernel
theorem dX11_countOf_80 : decode cX11_countOf 80 = .ok (.invokevirtual 253, 3) := by decide +kernel
theorem dX11_countOf_83 : decode cX11_countOf 83 = .ok (.ireturn, 1) := by decide +kernel
theorem dX11_countOf_84 : decode cX11_countOf 84 = .ok (.aload_n 0, 1) := by decide +kernel
theorem dX11_countOf_85 : decode cX11_countOf 85 = .ok (.invokevirtual 143, 3) := by decide +kernel
theorem dX11_countOf_88 : decode cX11_countOf 88 = .ok (.ireturn, 1) := by decide +kernel
theorem dX11_countOf_89 : decode cX11_countOf 89 = .ok (.aload_n 0, 1) := by decide +kernel
theorem dX11_countOf_90 : decode cX11_countOf 90 = .ok (.getfield 23, 3) := by decide +kernel
theorem dX11_countOf_93 : decode cX11_countOf 93 = .ok (.getfield 323, 3) := by decide +kernel
theorem dX11_countOf_96 : decode cX11_countOf 96 = .ok (.ireturn, 1) := by decide +kernel
theorem dX11_countOf_97 : decode cX11_countOf 97 = .ok (.aload_n 2, 1) := by decide +kernel
theorem dX11_countOf_98 : decode cX11_countOf 98 = .ok (.ifnonnull 7, 3) := by decide +kernel
theorem dX11_countOf_101 : decode cX11_countOf 101 = .ok (.iconst (-1), 1) := by decide +kernel
theorem dX11_countOf_102 : decode cX11_countOf 102 = .ok (.goto 7, 3) := by decide +kernel
theorem dX11_countOf_105 : decode cX11_countOf 105 = .ok (.aload_n 2, 1) := by decide +kernel
theorem dX11_countOf_106 : decode cX11_countOf 106 = .ok (.getfield 133, 3) := by decide +kernel
theorem dX11_countOf_109 : decode cX11_countOf 109 = .ok (.ireturn, 1) := by decide +kernel
theorem dX11_preferring_0 : decode cX11_preferring 0 = .ok (.iconst 0, 1) := by decide +kernel
theorem dX11_preferring_1 : decode cX11_preferring 1 = .ok (.istore_n 3, 1) := by decide +kernel
theorem dX11_preferring_2 : decode cX11_preferring 2 = .ok (.iconst 0, 1) := by decide +kernel
theorem dX11_preferring_3 : decode cX11_preferring 3 = .ok (.istore 4, 2) := by decide +kernel
theorem dX11_preferring_5 : decode cX11_preferring 5 = .ok (.iload 4, 2) := by decide +kernel
theorem dX11_preferring_7 : decode cX11_preferring 7 = .ok (.aload_n 0, 1) := by decide +kernel
theorem dX11_preferring_8 : decode cX11_preferring 8 = .ok (.getfield 80, 3) := by decide +kernel
theorem dX11_preferring_11 : decode cX11_preferring 11 = .ok (.if_icmp .ge 37, 3) := by decide +kernel
theorem dX11_preferring_14 : decode cX11_preferring 14 = .ok (.aload_n 0, 1) := by decide +kernel
theorem dX11_preferring_15 : decode cX11_preferring 15 = .ok (.getfield 44, 3) := by decide +kernel
theorem dX11_preferring_18 : decode cX11_preferring 18 = .ok (.aload_n 0, 1) := by decide +kernel
theorem dX11_preferring_19 : decode cX11_preferring 19 = .ok (.getfield 16, 3) := by decide +kernel
theorem dX11_preferring_22 : decode cX11_preferring 22 = .ok (.iload 4, 2) := by decide +kernel
theorem dX11_preferring_24 : decode cX11_preferring 24 = .ok (.invokevirtual 233, 3) := by decide +kernel
theorem dX11_preferring_27 : decode cX11_preferring 27 = .ok (.aload_n 0, 1) := by decide +kernel
theorem dX11_preferring_28 : decode cX11_preferring 28 = .ok (.getfield 44, 3) := by decide +kernel
theorem dX11_preferring_31 : decode cX11_preferring 31 = .ok (.iload_n 1, 1) := by decide +kernel
theorem dX11_preferring_32 : decode cX11_preferring 32 = .ok (.iload_n 2, 1) := by decide +kernel
theorem dX11_preferring_33 : decode cX11_preferring 33 = .ok (.invokevirtual 326, 3) := by decide +kernel
theorem dX11_preferring_36 : decode cX11_preferring 36 = .ok (.ifCond .eq 6, 3) := by decide +kernel
theorem dX11_preferring_39 : decode cX11_preferring 39 = .ok (.iinc 3 1, 3) := by decide +kernel
theorem dX11_preferring_42 : decode cX11_preferring 42 = .ok (.iinc 4 1, 3) := by decide +kernel
theorem dX11_preferring_45 : decode cX11_preferring 45 = .ok (.goto (-40), 3) := by decide +kernel
theorem dX11_preferring_48 : decode cX11_preferring 48 = .ok (.iload_n 3, 1) := by decide +kernel
theorem dX11_preferring_49 : decode cX11_preferring 49 = .ok (.ireturn, 1) := by decide +kernel
theorem dX11_ringsOf_0 : decode cX11_ringsOf 0 = .ok (.aload_n 0, 1) := by decide +kernel
theorem dX11_ringsOf_1 : decode cX11_ringsOf 1 = .ok (.getfield 44, 3) := by decide +kernel
theorem dX11_ringsOf_4 : decode cX11_ringsOf 4 = .ok (.aload_n 0, 1) := by decide +kernel
theorem dX11_ringsOf_5 : decode cX11_ringsOf 5 = .ok (.getfield 16, 3) := by decide +kernel
theorem dX11_ringsOf_8 : decode cX11_ringsOf 8 = .ok (.iload_n 1, 1) := by decide +kernel
theorem dX11_ringsOf_9 : decode cX11_ringsOf 9 = .ok (.invokevirtual 233, 3) := by decide +kernel
theorem dX11_ringsOf_12 : decode cX11_ringsOf 12 = .ok (.aload_n 0, 1) := by decide +kernel
theorem dX11_ringsOf_13 : decode cX11_ringsOf 13 = .ok (.getfield 44, 3) := by decide +kernel
theorem dX11_ringsOf_16 : decode cX11_ringsOf 16 = .ok (.aload_n 0, 1) := by decide +kernel
theorem dX11_ringsOf_17 : decode cX11_ringsOf 17 = .ok (.getfield 89, 3) := by decide +kernel
theorem dX11_ringsOf_20 : decode cX11_ringsOf 20 = .ok (.invokevirtual 246, 3) := by decide +kernel
theorem dX11_ringsOf_23 : decode cX11_ringsOf 23 = .ok (.ireturn, 1) := by decide +kernel
theorem dX11_weigh_0 : decode cX11_weigh 0 = .ok (.aload_n 0, 1) := by decide +kernel
theorem dX11_weigh_1 : decode cX11_weigh 1 = .ok (.getfield 54, 3) := by decide +kernel
theorem dX11_weigh_4 : decode cX11_weigh 4 = .ok (.aload_n 0, 1) := by decide +kernel
theorem dX11_weigh_5 : decode cX11_weigh 5 = .ok (.getfield 16, 3) := by decide +kernel
theorem dX11_weigh_8 : decode cX11_weigh 8 = .ok (.aload_n 0, 1) := by decide +kernel
theorem dX11_weigh_9 : decode cX11_weigh 9 = .ok (.getfield 89, 3) := by decide +kernel
theorem dX11_weigh_12 : decode cX11_weigh 12 = .ok (.aload_n 0, 1) := by decide +kernel
theorem dX11_weigh_13 : decode cX11_weigh 13 = .ok (.getfield 9, 3) := by decide +kernel
theorem dX11_weigh_16 : decode cX11_weigh 16 = .ok (.iload_n 1, 1) := by decide +kernel
theorem dX11_weigh_17 : decode cX11_weigh 17 = .ok (.invokevirtual 329, 3) := by decide +kernel
theorem dX11_weigh_20 : decode cX11_weigh 20 = .ok (.return_, 1) := by decide +kernel
theorem dX11_provedAt_0 : decode cX11_provedAt 0 = .ok (.aload_n 0, 1) := by decide +kernel
theorem dX11_provedAt_1 : decode cX11_provedAt 1 = .ok (.getfield 37, 3) := by decide +kernel
theorem dX11_provedAt_4 : decode cX11_provedAt 4 = .ok (.aload_n 0, 1) := by decide +kernel
theorem dX11_provedAt_5 : decode cX11_provedAt 5 = .ok (.getfield 16, 3) := by decide +kernel
theorem dX11_provedAt_8 : decode cX11_provedAt 8 = .ok (.invokevirtual 211, 3) := by decide +kernel
theorem dX11_provedAt_11 : decode cX11_provedAt 11 = .ok (.aload_n 0, 1) := by decide +kernel
theorem dX11_provedAt_12 : decode cX11_provedAt 12 = .ok (.getfield 61, 3) := by decide +kernel
theorem dX11_provedAt_15 : decode cX11_provedAt 15 = .ok (.aload_n 0, 1) := by decide +kernel
theorem dX11_provedAt_16 : decode cX11_provedAt 16 = .ok (.getfield 37, 3) := by decide +kernel
theorem dX11_provedAt_19 : decode cX11_provedAt 19 = .ok (.aload_n 0, 1) := by decide +kernel
theorem dX11_provedAt_20 : decode cX11_provedAt 20 = .ok (.getfield 89, 3) := by decide +kernel
theorem dX11_provedAt_23 : decode cX11_provedAt 23 = .ok (.invokevirtual 332, 3) := by decide +kernel
theorem dX11_provedAt_26 : decode cX11_provedAt 26 = .ok (.aload_n 0, 1) := by decide +kernel
theorem dX11_provedAt_27 : decode cX11_provedAt 27 = .ok (.getfield 61, 3) := by decide +kernel
theorem dX11_provedAt_30 : decode cX11_provedAt 30 = .ok (.iload_n 1, 1) := by decide +kernel
theorem dX11_provedAt_31 : decode cX11_provedAt 31 = .ok (.invokevirtual 335, 3) := by decide +kernel
theorem dX11_provedAt_34 : decode cX11_provedAt 34 = .ok (.ireturn, 1) := by decide +kernel
theorem dX11_fitStrengths_0 : decode cX11_fitStrengths 0 = .ok (.aload_n 0, 1) := by decide +kernel
theorem dX11_fitStrengths_1 : decode cX11_fitStrengths 1 = .ok (.getfield 37, 3) := by decide +kernel
theorem dX11_fitStrengths_4 : decode cX11_fitStrengths 4 = .ok (.aload_n 0, 1) := by decide +kernel
theorem dX11_fitStrengths_5 : decode cX11_fitStrengths 5 = .ok (.getfield 16, 3) := by decide +kernel
theorem dX11_fitStrengths_8 : decode cX11_fitStrengths 8 = .ok (.invokevirtual 211, 3) := by decide +kernel
theorem dX11_fitStrengths_11 : decode cX11_fitStrengths 11 = .ok (.aload_n 0, 1) := by decide +kernel
theorem dX11_fitStrengths_12 : decode cX11_fitStrengths 12 = .ok (.getfield 68, 3) := by decide +kernel
theorem dX11_fitStrengths_15 : decode cX11_fitStrengths 15 = .ok (.aload_n 0, 1) := by decide +kernel
theorem dX11_fitStrengths_16 : decode cX11_fitStrengths 16 = .ok (.getfield 37, 3) := by decide +kernel
theorem dX11_fitStrengths_19 : decode cX11_fitStrengths 19 = .ok (.aload_n 0, 1) := by decide +kernel
theorem dX11_fitStrengths_20 : decode cX11_fitStrengths 20 = .ok (.getfield 89, 3) := by decide +kernel
theorem dX11_fitStrengths_23 : decode cX11_fitStrengths 23 = .ok (.iload_n 1, 1) := by decide +kernel
theorem dX11_fitStrengths_24 : decode cX11_fitStrengths 24 = .ok (.invokevirtual 338, 3) := by decide +kernel
theorem dX11_fitStrengths_27 : decode cX11_fitStrengths 27 = .ok (.return_, 1) := by decide +kernel
theorem dX11_requireRoom_0 : decode cX11_requireRoom 0 = .ok (.aload_n 0, 1) := by decide +kernel
theorem dX11_requireRoom_1 : decode cX11_requireRoom 1 = .ok (.getfield 16, 3) := by decide +kernel
theorem dX11_requireRoom_4 : decode cX11_requireRoom 4 = .ok (.getfield 149, 3) := by decide +kernel
theorem dX11_requireRoom_7 : decode cX11_requireRoom 7 = .ok (.iload_n 1, 1) := by decide +kernel
theorem dX11_requireRoom_8 : decode cX11_requireRoom 8 = .ok (.iadd, 1) := by decide +kernel
theorem dX11_requireRoom_9 : decode cX11_requireRoom 9 = .ok (.bipush 48, 2) := by decide +kernel
theorem dX11_requireRoom_11 : decode cX11_requireRoom 11 = .ok (.if_icmp .le 14, 3) := by decide +kernel
theorem dX11_requireRoom_14 : decode cX11_requireRoom 14 = .ok (.new 106, 3) := by decide +kernel
theorem dX11_requireRoom_17 : decode cX11_requireRoom 17 = .ok (.dup, 1) := by decide +kernel
theorem dX11_requireRoom_18 : decode cX11_requireRoom 18 = .ok (.ldc_w 342, 3) := by decide +kernel
theorem dX11_requireRoom_21 : decode cX11_requireRoom 21 = .ok (.invokespecial 110, 3) := by decide +kernel
theorem dX11_requireRoom_24 : decode cX11_requireRoom 24 = .ok (.athrow, 1) := by decide +kernel
theorem dX11_requireRoom_25 : decode cX11_requireRoom 25 = .ok (.return_, 1) := by decide +kernel
theorem dX11_requireIndex_0 : decode cX11_requireIndex 0 = .ok (.iload_n 0, 1) := by decide +kernel
theorem dX11_requireIndex_1 : decode cX11_requireIndex 1 = .ok (.ifCond .lt 8, 3) := by decide +kernel
theorem dX11_requireIndex_4 : decode cX11_requireIndex 4 = .ok (.iload_n 0, 1) := by decide +kernel
theorem dX11_requireIndex_5 : decode cX11_requireIndex 5 = .ok (.iload_n 1, 1) := by decide +kernel
theorem dX11_requireIndex_6 : decode cX11_requireIndex 6 = .ok (.if_icmp .lt 14, 3) := by decide +kernel
theorem dX11_requireIndex_9 : decode cX11_requireIndex 9 = .ok (.new 344, 3) := by decide +kernel
theorem dX11_requireIndex_12 : decode cX11_requireIndex 12 = .ok (.dup, 1) := by decide +kernel
theorem dX11_requireIndex_13 : decode cX11_requireIndex 13 = .ok (.ldc_w 346, 3) := by decide +kernel
theorem dX11_requireIndex_16 : decode cX11_requireIndex 16 = .ok (.invokespecial 348, 3) := by decide +kernel
theorem dX11_requireIndex_19 : decode cX11_requireIndex 19 = .ok (.athrow, 1) := by decide +kernel
theorem dX11_requireIndex_20 : decode cX11_requireIndex 20 = .ok (.return_, 1) := by decide +kernel
theorem dX11_requireArgument_0 : decode cX11_requireArgument 0 = .ok (.iload_n 0, 1) := by decide +kernel
theorem dX11_requireArgument_1 : decode cX11_requireArgument 1 = .ok (.ifCond .ne 14, 3) := by decide +kernel
theorem dX11_requireArgument_4 : decode cX11_requireArgument 4 = .ok (.new 349, 3) := by decide +kernel
theorem dX11_requireArgument_7 : decode cX11_requireArgument 7 = .ok (.dup, 1) := by decide +kernel
theorem dX11_requireArgument_8 : decode cX11_requireArgument 8 = .ok (.ldc_w 351, 3) := by decide +kernel
theorem dX11_requireArgument_11 : decode cX11_requireArgument 11 = .ok (.invokespecial 353, 3) := by decide +kernel
theorem dX11_requireArgument_14 : decode cX11_requireArgument 14 = .ok (.athrow, 1) := by decide +kernel
theorem dX11_requireArgument_15 : decode cX11_requireArgument 15 = .ok (.return_, 1) := by decide +kernel
theorem dX11_requireAnswer_0 : decode cX11_requireAnswer 0 = .ok (.iload_n 0, 1) := by decide +kernel
theorem dX11_requireAnswer_1 : decode cX11_requireAnswer 1 = .ok (.ifCond .lt 12, 3) := by decide +kernel
theorem dX11_requireAnswer_4 : decode cX11_requireAnswer 4 = .ok (.iload_n 0, 1) := by decide +kernel
theorem dX11_requireAnswer_5 : decode cX11_requireAnswer 5 = .ok (.iconst 2, 1) := by decide +kernel
theorem dX11_requireAnswer_6 : decode cX11_requireAnswer 6 = .ok (.if_icmp .gt 7, 3) := by decide +kernel
theorem dX11_requireAnswer_9 : decode cX11_requireAnswer 9 = .ok (.iconst 1, 1) := by decide +kernel
theorem dX11_requireAnswer_10 : decode cX11_requireAnswer 10 = .ok (.goto 4, 3) := by decide +kernel
theorem dX11_requireAnswer_13 : decode cX11_requireAnswer 13 = .ok (.iconst 0, 1) := by decide +kernel
theorem dX11_requireAnswer_14 : decode cX11_requireAnswer 14 = .ok (.invokestatic 76, 3) := by decide +kernel
theorem dX11_requireAnswer_17 : decode cX11_requireAnswer 17 = .ok (.return_, 1) := by decide +kernel
theorem dX11_cell_0 : decode cX11_cell 0 = .ok (.iload_n 0, 1) := by decide +kernel
theorem dX11_cell_1 : decode cX11_cell 1 = .ok (.bipush 7, 2) := by decide +kernel
theorem dX11_cell_3 : decode cX11_cell 3 = .ok (.iand, 1) := by decide +kernel
theorem dX11_cell_4 : decode cX11_cell 4 = .ok (.iconst 3, 1) := by decide +kernel
theorem dX11_cell_5 : decode cX11_cell 5 = .ok (.ishl, 1) := by decide +kernel
theorem dX11_cell_6 : decode cX11_cell 6 = .ok (.iload_n 1, 1) := by decide +kernel
theorem dX11_cell_7 : decode cX11_cell 7 = .ok (.bipush 7, 2) := by decide +kernel
theorem dX11_cell_9 : decode cX11_cell 9 = .ok (.iand, 1) := by decide +kernel
theorem dX11_cell_10 : decode cX11_cell 10 = .ok (.ior, 1) := by decide +kernel
theorem dX11_cell_11 : decode cX11_cell 11 = .ok (.ireturn, 1) := by decide +kernel
theorem dX11_contains_0 : decode cX11_contains 0 = .ok (.iload_n 0, 1) := by decide +kernel
theorem dX11_contains_1 : decode cX11_contains 1 = .ok (.iload_n 1, 1) := by decide +kernel
theorem dX11_contains_2 : decode cX11_contains 2 = .ok (.ishr, 1) := by decide +kernel
theorem dX11_contains_3 : decode cX11_contains 3 = .ok (.iconst 1, 1) := by decide +kernel
theorem dX11_contains_4 : decode cX11_contains 4 = .ok (.iand, 1) := by decide +kernel
theorem dX11_contains_5 : decode cX11_contains 5 = .ok (.ifCond .eq 7, 3) := by decide +kernel
theorem dX11_contains_8 : decode cX11_contains 8 = .ok (.iconst 1, 1) := by decide +kernel
theorem dX11_contains_9 : decode cX11_contains 9 = .ok (.goto 4, 3) := by decide +kernel
theorem dX11_contains_12 : decode cX11_contains 12 = .ok (.iconst 0, 1) := by decide +kernel
theorem dX11_contains_13 : decode cX11_contains 13 = .ok (.ireturn, 1) := by decide +kernel
theorem dX11_mostRings_0 : decode cX11_mostRings 0 = .ok (.iload_n 0, 1) := by decide +kernel
theorem dX11_mostRings_1 : decode cX11_mostRings 1 = .ok (.iconst 2, 1) := by decide +kernel
theorem dX11_mostRings_2 : decode cX11_mostRings 2 = .ok (.irem, 1) := by decide +kernel
theorem dX11_mostRings_3 : decode cX11_mostRings 3 = .ok (.iconst 1, 1) := by decide +kernel
theorem dX11_mostRings_4 : decode cX11_mostRings 4 = .ok (.if_icmp .ne 16, 3) := by decide +kernel
theorem dX11_mostRings_7 : decode cX11_mostRings 7 = .ok (.iload_n 0, 1) := by decide +kernel
theorem dX11_mostRings_8 : decode cX11_mostRings 8 = .ok (.iload_n 0, 1) := by decide +kernel
theorem dX11_mostRings_9 : decode cX11_mostRings 9 = .ok (.imul, 1) := by decide +kernel
theorem dX11_mostRings_10 : decode cX11_mostRings 10 = .ok (.iload_n 0, 1) := by decide +kernel
theorem dX11_mostRings_11 : decode cX11_mostRings 11 = .ok (.imul, 1) := by decide +kernel
theorem dX11_mostRings_12 : decode cX11_mostRings 12 = .ok (.iload_n 0, 1) := by decide +kernel
theorem dX11_mostRings_13 : decode cX11_mostRings 13 = .ok (.isub, 1) := by decide +kernel
theorem dX11_mostRings_14 : decode cX11_mostRings 14 = .ok (.bipush 24, 2) := by decide +kernel
theorem dX11_mostRings_16 : decode cX11_mostRings 16 = .ok (.idiv, 1) := by decide +kernel
theorem dX11_mostRings_17 : decode cX11_mostRings 17 = .ok (.goto 15, 3) := by decide +kernel
theorem dX11_mostRings_20 : decode cX11_mostRings 20 = .ok (.iload_n 0, 1) := by decide +kernel
theorem dX11_mostRings_21 : decode cX11_mostRings 21 = .ok (.iload_n 0, 1) := by decide +kernel
theorem dX11_mostRings_22 : decode cX11_mostRings 22 = .ok (.imul, 1) := by decide +kernel
theorem dX11_mostRings_23 : decode cX11_mostRings 23 = .ok (.iload_n 0, 1) := by decide +kernel
theorem dX11_mostRings_24 : decode cX11_mostRings 24 = .ok (.imul, 1) := by decide +kernel
theorem dX11_mostRings_25 : decode cX11_mostRings 25 = .ok (.iconst 4, 1) := by decide +kernel
theorem dX11_mostRings_26 : decode cX11_mostRings 26 = .ok (.iload_n 0, 1) := by decide +kernel
theorem dX11_mostRings_27 : decode cX11_mostRings 27 = .ok (.imul, 1) := by decide +kernel
theorem dX11_mostRings_28 : decode cX11_mostRings 28 = .ok (.isub, 1) := by decide +kernel
theorem dX11_mostRings_29 : decode cX11_mostRings 29 = .ok (.bipush 24, 2) := by decide +kernel
theorem dX11_mostRings_31 : decode cX11_mostRings 31 = .ok (.idiv, 1) := by decide +kernel
theorem dX11_mostRings_32 : decode cX11_mostRings 32 = .ok (.ireturn, 1) := by decide +kernel
theorem dX11_coinChance_0 : decode cX11_coinChance 0 = .ok (.iload_n 0, 1) := by decide +kernel
theorem dX11_coinChance_1 : decode cX11_coinChance 1 = .ok (.iload_n 1, 1) := by decide +kernel
theorem dX11_coinChance_2 : decode cX11_coinChance 2 = .ok (.iadd, 1) := by decide +kernel
theorem dX11_coinChance_3 : decode cX11_coinChance 3 = .ok (.istore_n 2, 1) := by decide +kernel
theorem dX11_coinChance_4 : decode cX11_coinChance 4 = .ok (.iload_n 2, 1) := by decide +kernel
theorem dX11_coinChance_5 : decode cX11_coinChance 5 = .ok (.ifCond .ne 7, 3) := by decide +kernel
theorem dX11_coinChance_8 : decode cX11_coinChance 8 = .ok (.ldc2_w 354, 3) := by decide +kernel
theorem dX11_coinChance_11 : decode cX11_coinChance 11 = .ok (.lreturn, 1) := by decide +kernel
theorem dX11_coinChance_12 : decode cX11_coinChance 12 = .ok (.iload_n 0, 1) := by decide +kernel
theorem dX11_coinChance_13 : decode cX11_coinChance 13 = .ok (.iload_n 1, 1) := by decide +kernel
theorem dX11_coinChance_14 : decode cX11_coinChance 14 = .ok (.invokestatic 356, 3) := by decide +kernel
theorem dX11_coinChance_17 : decode cX11_coinChance 17 = .ok (.istore_n 3, 1) := by decide +kernel
theorem dX11_coinChance_18 : decode cX11_coinChance 18 = .ok (.lconst 1, 1) := by decide +kernel
theorem dX11_coinChance_19 : decode cX11_coinChance 19 = .ok (.lstore 4, 2) := by decide +kernel
theorem dX11_coinChance_21 : decode cX11_coinChance 21 = .ok (.lconst 0, 1) := by decide +kernel
theorem dX11_coinChance_22 : decode cX11_coinChance 22 = .ok (.lstore 6, 2) := by decide +kernel
theorem dX11_coinChance_24 : decode cX11_coinChance 24 = .ok (.iconst 0, 1) := by decide +kernel
theorem dX11_coinChance_25 : decode cX11_coinChance 25 = .ok (.istore 8, 2) := by decide +kernel
theorem dX11_coinChance_27 : decode cX11_coinChance 27 = .ok (.iload 8, 2) := by decide +kernel
theorem dX11_coinChance_29 : decode cX11_coinChance 29 = .ok (.iload_n 3, 1) := by decide +kernel
theorem dX11_coinChance_30 : decode cX11_coinChance 30 = .ok (.if_icmp .gt 32, 3) := by decide +kernel
theorem dX11_coinChance_33 : decode cX11_coinChance 33 = .ok (.lload 6, 2) := by decide +kernel
theorem dX11_coinChance_35 : decode cX11_coinChance 35 = .ok (.lload 4, 2) := by decide +kernel
theorem dX11_coinChance_37 : decode cX11_coinChance 37 = .ok (.ladd, 1) := by decide +kernel
theorem dX11_coinChance_38 : decode cX11_coinChance 38 = .ok (.lstore 6, 2) := by decide +kernel
theorem dX11_coinChance_40 : decode cX11_coinChance 40 = .ok (.lload 4, 2) := by decide +kernel
theorem dX11_coinChance_42 : decode cX11_coinChance 42 = .ok (.iload_n 2, 1) := by decide +kernel
theorem dX11_coinChance_43 : decode cX11_coinChance 43 = .ok (.iload 8, 2) := by decide +kernel
theorem dX11_coinChance_45 : decode cX11_coinChance 45 = .ok (.isub, 1) := by decide +kernel
theorem dX11_coinChance_46 : decode cX11_coinChance 46 = .ok (.i2l, 1) := by decide +kernel
theorem dX11_coinChance_47 : decode cX11_coinChance 47 = .ok (.lmul, 1) := by decide +kernel
theorem dX11_coinChance_48 : decode cX11_coinChance 48 = .ok (.iload 8, 2) := by decide +kernel
theorem dX11_coinChance_50 : decode cX11_coinChance 50 = .ok (.iconst 1, 1) := by decide +kernel
theorem dX11_coinChance_51 : decode cX11_coinChance 51 = .ok (.iadd, 1) := by decide +kernel
theorem dX11_coinChance_52 : decode cX11_coinChance 52 = .ok (.i2l, 1) := by decide +kernel
theorem dX11_coinChance_53 : decode cX11_coinChance 53 = .ok (.ldiv, 1) := by decide +kernel
theorem dX11_coinChance_54 : decode cX11_coinChance 54 = .ok (.lstore 4, 2) := by decide +kernel
theorem dX11_coinChance_56 : decode cX11_coinChance 56 = .ok (.iinc 8 1, 3) := by decide +kernel
theorem dX11_coinChance_59 : decode cX11_coinChance 59 = .ok (.goto (-32), 3) := by decide +kernel
theorem dX11_coinChance_62 : decode cX11_coinChance 62 = .ok (.ldc2_w 354, 3) := by decide +kernel
theorem dX11_coinChance_65 : decode cX11_coinChance 65 = .ok (.ldc2_w 361, 3) := by decide +kernel
theorem dX11_coinChance_68 : decode cX11_coinChance 68 = .ok (.lload 6, 2) := by decide +kernel
theorem dX11_coinChance_70 : decode cX11_coinChance 70 = .ok (.lmul, 1) := by decide +kernel
theorem dX11_coinChance_71 : decode cX11_coinChance 71 = .ok (.bipush 48, 2) := by decide +kernel
theorem dX11_coinChance_73 : decode cX11_coinChance 73 = .ok (.iload_n 2, 1) := by decide +kernel
theorem dX11_coinChance_74 : decode cX11_coinChance 74 = .ok (.isub, 1) := by decide +kernel
theorem dX11_coinChance_75 : decode cX11_coinChance 75 = .ok (.lshl, 1) := by decide +kernel
theorem dX11_coinChance_76 : decode cX11_coinChance 76 = .ok (.invokestatic 363, 3) := by decide +kernel
theorem dX11_coinChance_79 : decode cX11_coinChance 79 = .ok (.lreturn, 1) := by decide +kernel
theorem dX12_init_0 : decode cX12_init 0 = .ok (.aload_n 0, 1) := by decide +kernel
theorem dX12_init_1 : decode cX12_init 1 = .ok (.invokespecial 1, 3) := by decide +kernel
theorem dX12_init_4 : decode cX12_init 4 = .ok (.aload_n 0, 1) := by decide +kernel
theorem dX12_init_5 : decode cX12_init 5 = .ok (.bipush 8, 2) := by decide +kernel
theorem dX12_init_7 : decode cX12_init 7 = .ok (.newarray .int, 2) := by decide +kernel
theorem dX12_init_9 : decode cX12_init 9 = .ok (.putfield 7, 3) := by decide +kernel
theorem dX12_init_12 : decode cX12_init 12 = .ok (.aload_n 0, 1) := by decide +kernel
theorem dX12_init_13 : decode cX12_init 13 = .ok (.bipush 48, 2) := by decide +kernel
theorem dX12_init_15 : decode cX12_init 15 = .ok (.newarray .int, 2) := by decide +kernel
theorem dX12_init_17 : decode cX12_init 17 = .ok (.putfield 13, 3) := by decide +kernel
theorem dX12_init_20 : decode cX12_init 20 = .ok (.aload_n 0, 1) := by decide +kernel
theorem dX12_init_21 : decode cX12_init 21 = .ok (.bipush 48, 2) := by decide +kernel
theorem dX12_init_23 : decode cX12_init 23 = .ok (.newarray .int, 2) := by decide +kernel
theorem dX12_init_25 : decode cX12_init 25 = .ok (.putfield 16, 3) := by decide +kernel
theorem dX12_init_28 : decode cX12_init 28 = .ok (.aload_n 0, 1) := by decide +kernel
theorem dX12_init_29 : decode cX12_init 29 = .ok (.bipush 48, 2) := by decide +kernel
theorem dX12_init_31 : decode cX12_init 31 = .ok (.newarray .int, 2) := by decide +kernel
theorem dX12_init_33 : decode cX12_init 33 = .ok (.putfield 19, 3) := by decide +kernel
theorem dX12_init_36 : decode cX12_init 36 = .ok (.aload_n 0, 1) := by decide +kernel
theorem dX12_init_37 : decode cX12_init 37 = .ok (.bipush 48, 2) := by decide +kernel
theorem dX12_init_39 : decode cX12_init 39 = .ok (.newarray .int, 2) := by decide +kernel
theorem dX12_init_41 : decode cX12_init 41 = .ok (.putfield 22, 3) := by decide +kernel
theorem dX12_init_44 : decode cX12_init 44 = .ok (.aload_n 0, 1) := by decide +kernel
theorem dX12_init_45 : decode cX12_init 45 = .ok (.iconst (-1), 1) := by decide +kernel
theorem dX12_init_46 : decode cX12_init 46 = .ok (.putfield 25, 3) := by decide +kernel
theorem dX12_init_49 : decode cX12_init 49 = .ok (.aload_n 0, 1) := by decide +kernel
theorem dX12_init_50 : decode cX12_init 50 = .ok (.bipush 56, 2) := by decide +kernel
theorem dX12_init_52 : decode cX12_init 52 = .ok (.newarray .int, 2) := by decide +kernel
theorem dX12_init_54 : decode cX12_init 54 = .ok (.putfield 29, 3) := by decide +kernel
theorem dX12_init_57 : decode cX12_init 57 = .ok (.aload_n 0, 1) := by decide +kernel
theorem dX12_init_58 : decode cX12_init 58 = .ok (.bipush 12, 2) := by decide +kernel
theorem dX12_init_60 : decode cX12_init 60 = .ok (.newarray .int, 2) := by decide +kernel
theorem dX12_init_62 : decode cX12_init 62 = .ok (.putfield 32, 3) := by decide +kernel
theorem dX12_init_65 : decode cX12_init 65 = .ok (.aload_n 0, 1) := by decide +kernel
theorem dX12_init_66 : decode cX12_init 66 = .ok (.sipush 576, 3) := by decide +kernel
theorem dX12_init_69 : decode cX12_init 69 = .ok (.newarray .int, 2) := by decide +kernel
theorem dX12_init_71 : decode cX12_init 71 = .ok (.putfield 35, 3) := by decide +kernel
theorem dX12_init_74 : decode cX12_init 74 = .ok (.aload_n 0, 1) := by decide +kernel
theorem dX12_init_75 : decode cX12_init 75 = .ok (.bipush 12, 2) := by decide +kernel
theorem dX12_init_77 : decode cX12_init 77 = .ok (.newarray .int, 2) := by decide +kernel
theorem dX12_init_79 : decode cX12_init 79 = .ok (.putfield 38, 3) := by decide +kernel
theorem dX12_init_82 : decode cX12_init 82 = .ok (.aload_n 0, 1) := by decide +kernel
theorem dX12_init_83 : decode cX12_init 83 = .ok (.bipush 12, 2) := by decide +kernel
theorem dX12_init_85 : decode cX12_init 85 = .ok (.newarray .int, 2) := by decide +kernel
theorem dX12_init_87 : decode cX12_init 87 = .ok (.putfield 41, 3) := by decide +kernel
theorem dX12_init_90 : decode cX12_init 90 = .ok (.aload_n 0, 1) := by decide +kernel
theorem dX12_init_91 : decode cX12_init 91 = .ok (.bipush 12, 2) := by decide +kernel
theorem dX12_init_93 : decode cX12_init 93 = .ok (.newarray .int, 2) := by decide +kernel
theorem dX12_init_95 : decode cX12_init 95 = .ok (.putfield 44, 3) := by decide +kernel
theorem dX12_init_98 : decode cX12_init 98 = .ok (.aload_n 0, 1) := by decide +kernel
theorem dX12_init_99 : decode cX12_init 99 = .ok (.sipush 672, 3) := by decide +kernel
theorem dX12_init_102 : decode cX12_init 102 = .ok (.newarray .int, 2) := by decide +kernel
theorem dX12_init_104 : decode cX12_init 104 = .ok (.putfield 47, 3) := by decide +kernel
theorem dX12_init_107 : decode cX12_init 107 = .ok (.aload_n 0, 1) := by decide +kernel
theorem dX12_init_108 : decode cX12_init 108 = .ok (.bipush 60, 2) := by decide +kernel
theorem dX12_init_110 : decode cX12_init 110 = .ok (.newarray .int, 2) := by decide +kernel
theorem dX12_init_112 : decode cX12_init 112 = .ok (.putfield 50, 3) := by decide +kernel
theorem dX12_init_115 : decode cX12_init 115 = .ok (.aload_n 0, 1) := by decide +kernel
theorem dX12_init_116 : decode cX12_init 116 = .ok (.bipush 20, 2) := by decide +kernel
theorem dX12_init_118 : decode cX12_init 118 = .ok (.newarray .int, 2) := by decide +kernel
theorem dX12_init_120 : decode cX12_init 120 = .ok (.putfield 53, 3) := by decide +kernel
theorem dX12_init_123 : decode cX12_init 123 = .ok (.aload_n 0, 1) := by decide +kernel
theorem dX12_init_124 : decode cX12_init 124 = .ok (.bipush 64, 2) := by decide +kernel
theorem dX12_init_126 : decode cX12_init 126 = .ok (.newarray .int, 2) := by decide +kernel
theorem dX12_init_128 : decode cX12_init 128 = .ok (.putfield 56, 3) := by decide +kernel
theorem dX12_init_131 : decode cX12_init 131 = .ok (.aload_n 0, 1) := by decide +kernel
theorem dX12_init_132 : decode cX12_init 132 = .ok (.sipush 256, 3) := by decide +kernel
theorem dX12_init_135 : decode cX12_init 135 = .ok (.newarray .int, 2) := by decide +kernel
theorem dX12_init_137 : decode cX12_init 137 = .ok (.putfield 59, 3) := by decide +kernel
theorem dX12_init_140 : decode cX12_init 140 = .ok (.aload_n 0, 1) := by decide +kernel
theorem dX12_init_141 : decode cX12_init 141 = .ok (.sipush 256, 3) := by decide +kernel
theorem dX12_init_144 : decode cX12_init 144 = .ok (.newarray .int, 2) := by decide +kernel
theorem dX12_init_146 : decode cX12_init 146 = .ok (.putfield 62, 3) := by decide +kernel
theorem dX12_init_149 : decode cX12_init 149 = .ok (.aload_n 0, 1) := by decide +kernel
theorem dX12_init_150 : decode cX12_init 150 = .ok (.bipush 28, 2) := by decide +kernel
theorem dX12_init_152 : decode cX12_init 152 = .ok (.newarray .int, 2) := by decide +kernel
theorem dX12_init_154 : decode cX12_init 154 = .ok (.putfield 65, 3) := by decide +kernel
theorem dX12_init_157 : decode cX12_init 157 = .ok (.aload_n 0, 1) := by decide +kernel
theorem dX12_init_158 : decode cX12_init 158 = .ok (.bipush 28, 2) := by decide +kernel
theorem dX12_init_160 : decode cX12_init 160 = .ok (.newarray .long, 2) := by decide +kernel
theorem dX12_init_162 : decode cX12_init 162 = .ok (.putfield 68, 3) := by decide +kernel
theorem dX12_init_165 : decode cX12_init 165 = .ok (.aload_n 0, 1) := by decide +kernel
theorem dX12_init_166 : decode cX12_init 166 = .ok (.bipush 8, 2) := by decide +kernel
theorem dX12_init_168 : decode cX12_init 168 = .ok (.newarray .double, 2) := by decide +kernel
theorem dX12_init_170 : decode cX12_init 170 = .ok (.putfield 72, 3) := by decide +kernel
theorem dX12_init_173 : decode cX12_init 173 = .ok (.aload_n 0, 1) := by decide +kernel
theorem dX12_init_174 : decode cX12_init 174 = .ok (.bipush 8, 2) := by decide +kernel
theorem dX12_init_176 : decode cX12_init 176 = .ok (.newarray .double, 2) := by decide +kernel
theorem dX12_init_178 : decode cX12_init 178 = .ok (.putfield 76, 3) := by decide +kernel
theorem dX12_init_181 : decode cX12_init 181 = .ok (.aload_n 0, 1) := by decide +kernel
theorem dX12_init_182 : decode cX12_init 182 = .ok (.bipush 8, 2) := by decide +kernel
theorem dX12_init_184 : decode cX12_init 184 = .ok (.newarray .double, 2) := by decide +kernel
theorem dX12_init_186 : decode cX12_init 186 = .ok (.putfield 79, 3) := by decide +kernel
theorem dX12_init_189 : decode cX12_init 189 = .ok (.aload_n 0, 1) := by decide +kernel
theorem dX12_init_190 : decode cX12_init 190 = .ok (.bipush 64, 2) := by decide +kernel
theorem dX12_init_192 : decode cX12_init 192 = .ok (.newarray .int, 2) := by decide +kernel
theorem dX12_init_194 : decode cX12_init 194 = .ok (.putfield 82, 3) := by decide +kernel
theorem dX12_init_197 : decode cX12_init 197 = .ok (.aload_n 0, 1) := by decide +kernel
theorem dX12_init_198 : decode cX12_init 198 = .ok (.iconst 3, 1) := by decide +kernel
theorem dX12_init_199 : decode cX12_init 199 = .ok (.iconst 2, 1) := by decide +kernel
theorem dX12_init_200 : decode cX12_init 200 = .ok (.invokevirtual 85, 3) := by decide +kernel
theorem dX12_init_203 : decode cX12_init 203 = .ok (.return_, 1) := by decide +kernel
theorem dX12_thrown_0 : decode cX12_thrown 0 = .ok (.aload_n 0, 1) := by decide +kernel
theorem dX12_thrown_1 : decode cX12_thrown 1 = .ok (.getfield 89, 3) := by decide +kernel
theorem dX12_thrown_4 : decode cX12_thrown 4 = .ok (.ireturn, 1) := by decide +kernel
theorem dX12_within_0 : decode cX12_within 0 = .ok (.iload_n 0, 1) := by decide +kernel
theorem dX12_within_1 : decode cX12_within 1 = .ok (.iload_n 1, 1) := by decide +kernel
theorem dX12_within_2 : decode cX12_within 2 = .ok (.if_icmp .lt 12, 3) := by decide +kernel
theorem dX12_within_5 : decode cX12_within 5 = .ok (.iload_n 0, 1) := by decide +kernel
theorem dX12_within_6 : decode cX12_within 6 = .ok (.iload_n 2, 1) := by decide +kernel
theorem dX12_within_7 : decode cX12_within 7 = .ok (.if_icmp .gt 7, 3) := by decide +kernel
theorem dX12_within_10 : decode cX12_within 10 = .ok (.iconst 1, 1) := by decide +kernel
theorem dX12_within_11 : decode cX12_within 11 = .ok (.goto 4, 3) := by decide +kernel
theorem dX12_within_14 : decode cX12_within 14 = .ok (.iconst 0, 1) := by decide +kernel
theorem dX12_within_15 : decode cX12_within 15 = .ok (.ireturn, 1) := by decide +kernel
theorem dX12_isSample_0 : decode cX12_isSample 0 = .ok (.iload_n 1, 1) := by decide +kernel
theorem dX12_isSample_1 : decode cX12_isSample 1 = .ok (.iconst 0, 1) := by decide +kernel
theorem dX12_isSample_2 : decode cX12_isSample 2 = .ok (.aload_n 0, 1) := by decide +kernel
theorem dX12_isSample_3 : decode cX12_isSample 3 = .ok (.getfield 92, 3) := by decide +kernel
theorem dX12_isSample_6 : decode cX12_isSample 6 = .ok (.iconst 1, 1) := by decide +kernel
theorem dX12_isSample_7 : decode cX12_isSample 7 = .ok (.isub, 1) := by decide +kernel
theorem dX12_isSample_8 : decode cX12_isSample 8 = .ok (.invokestatic 95, 3) := by decide +kernel
theorem dX12_isSample_11 : decode cX12_isSample 11 = .ok (.ireturn, 1) := by decide +kernel
theorem dX12_isListener_0 : decode cX12_isListener 0 = .ok (.iload_n 1, 1) := by decide +kernel
theorem dX12_isListener_1 : decode cX12_isListener 1 = .ok (.iconst 0, 1) := by decide +kernel
theorem dX12_isListener_2 : decode cX12_isListener 2 = .ok (.aload_n 0, 1) := by decide +kernel
theorem dX12_isListener_3 : decode cX12_isListener 3 = .ok (.getfield 99, 3) := by decide +kernel
theorem dX12_isListener_6 : decode cX12_isListener 6 = .ok (.iconst 1, 1) := by decide +kernel
theorem dX12_isListener_7 : decode cX12_isListener 7 = .ok (.isub, 1) := by decide +kernel
theorem dX12_isListener_8 : decode cX12_isListener 8 = .ok (.invokestatic 95, 3) := by decide +kernel
theorem dX12_isListener_11 : decode cX12_isListener 11 = .ok (.ireturn, 1) := by decide +kernel
theorem dX12_start_0 : decode cX12_start 0 = .ok (.aload_n 0, 1) := by decide +kernel
theorem dX12_start_1 : decode cX12_start 1 = .ok (.iload_n 1, 1) := by decide +kernel
theorem dX12_start_2 : decode cX12_start 2 = .ok (.putfield 92, 3) := by decide +kernel
theorem dX12_start_5 : decode cX12_start 5 = .ok (.aload_n 0, 1) := by decide +kernel
theorem dX12_start_6 : decode cX12_start 6 = .ok (.iload_n 2, 1) := by decide +kernel
theorem dX12_start_7 : decode cX12_start 7 = .ok (.putfield 99, 3) := by decide +kernel
theorem dX12_start_10 : decode cX12_start 10 = .ok (.aload_n 0, 1) := by decide +kernel
theorem dX12_start_11 : decode cX12_start 11 = .ok (.iconst 0, 1) := by decide +kernel
theorem dX12_start_12 : decode cX12_start 12 = .ok (.putfield 102, 3) := by decide +kernel
theorem dX12_start_15 : decode cX12_start 15 = .ok (.aload_n 0, 1) := by decide +kernel
theorem dX12_start_16 : decode cX12_start 16 = .ok (.iconst (-1), 1) := by decide +kernel
theorem dX12_start_17 : decode cX12_start 17 = .ok (.putfield 25, 3) := by decide +kernel
theorem dX12_start_20 : decode cX12_start 20 = .ok (.aload_n 0, 1) := by decide +kernel
theorem dX12_start_21 : decode cX12_start 21 = .ok (.iconst 0, 1) := by decide +kernel
theorem dX12_start_22 : decode cX12_start 22 = .ok (.putfield 105, 3) := by decide +kernel
theorem dX12_start_25 : decode cX12_start 25 = .ok (.aload_n 0, 1) := by decide +kernel
theorem dX12_start_26 : decode cX12_start 26 = .ok (.iconst 0, 1) := by decide +kernel
theorem dX12_start_27 : decode cX12_start 27 = .ok (.putfield 108, 3) := by decide +kernel
theorem dX12_start_30 : decode cX12_start 30 = .ok (.aload_n 0, 1) := by decide +kernel
theorem dX12_start_31 : decode cX12_start 31 = .ok (.iconst 0, 1) := by decide +kernel
theorem dX12_start_32 : decode cX12_start 32 = .ok (.putfield 111, 3) := by decide +kernel
theorem dX12_start_35 : decode cX12_start 35 = .ok (.iconst 0, 1) := by decide +kernel
theorem dX12_start_36 : decode cX12_start 36 = .ok (.istore_n 3, 1) := by decide +kernel
theorem dX12_start_37 : decode cX12_start 37 = .ok (.iload_n 3, 1) := by decide +kernel
theorem dX12_start_38 : decode cX12_start 38 = .ok (.bipush 8, 2) := by decide +kernel
theorem dX12_start_40 : decode cX12_start 40 = .ok (.if_icmp .ge 16, 3) := by decide +kernel
theorem dX12_start_43 : decode cX12_start 43 = .ok (.aload_n 0, 1) := by decide +kernel
theorem dX12_start_44 : decode cX12_start 44 = .ok (.getfield 7, 3) := by decide +kernel
theorem dX12_start_47 : decode cX12_start 47 = .ok (.iload_n 3, 1) := by decide +kernel
theorem dX12_start_48 : decode cX12_start 48 = .ok (.iconst 1, 1) := by decide +kernel
theorem dX12_start_49 : decode cX12_start 49 = .ok (.iastore, 1) := by decide +kernel
theorem dX12_start_50 : decode cX12_start 50 = .ok (.iinc 3 1, 3) := by decide +kernel
theorem dX12_start_53 : decode cX12_start 53 = .ok (.goto (-16), 3) := by decide +kernel
theorem dX12_start_56 : decode cX12_start 56 = .ok (.return_, 1) := by decide +kernel
theorem dX12_begin_0 : decode cX12_begin 0 = .ok (.aload_n 0, 1) := by decide +kernel
theorem dX12_begin_1 : decode cX12_begin 1 = .ok (.iload_n 1, 1) := by decide +kernel
theorem dX12_begin_2 : decode cX12_begin 2 = .ok (.iconst 2, 1) := by decide +kernel
theorem dX12_begin_3 : decode cX12_begin 3 = .ok (.bipush 8, 2) := by decide +kernel
theorem dX12_begin_5 : decode cX12_begin 5 = .ok (.invokestatic 95, 3) := by decide +kernel
theorem dX12_begin_8 : decode cX12_begin 8 = .ok (.ifCond .eq 17, 3) := by decide +kernel
theorem dX12_begin_11 : decode cX12_begin 11 = .ok (.iload_n 2, 1) := by decide +kernel
theorem dX12_begin_12 : decode cX12_begin 12 = .ok (.iconst 1, 1) := by decide +kernel
theorem dX12_begin_13 : decode cX12_begin 13 = .ok (.bipush 8, 2) := by decide +kernel
theorem dX12_begin_15 : decode cX12_begin 15 = .ok (.invokestatic 95, 3) := by decide +kernel
theorem dX12_begin_18 : decode cX12_begin 18 = .ok (.ifCond .eq 7, 3) := by decide +kernel
theorem dX12_begin_21 : decode cX12_begin 21 = .ok (.iconst 0, 1) := by decide +kernel
theorem dX12_begin_22 : decode cX12_begin 22 = .ok (.goto 4, 3) := by decide +kernel
theorem dX12_begin_25 : decode cX12_begin 25 = .ok (.iconst 1, 1) := by decide +kernel
theorem dX12_begin_26 : decode cX12_begin 26 = .ok (.putfield 89, 3) := by decide +kernel
theorem dX12_begin_29 : decode cX12_begin 29 = .ok (.aload_n 0, 1) := by decide +kernel
theorem dX12_begin_30 : decode cX12_begin 30 = .ok (.getfield 89, 3) := by decide +kernel
theorem dX12_begin_33 : decode cX12_begin 33 = .ok (.ifCond .le 5, 3) := by decide +kernel
theorem dX12_begin_36 : decode cX12_begin 36 = .ok (.iconst 0, 1) := by decide +kernel
theorem dX12_begin_37 : decode cX12_begin 37 = .ok (.ireturn, 1) := by decide +kernel
theorem dX12_begin_38 : decode cX12_begin 38 = .ok (.aload_n 0, 1) := by decide +kernel
theorem dX12_begin_39 : decode cX12_begin 39 = .ok (.iload_n 1, 1) := by decide +kernel
theorem dX12_begin_40 : decode cX12_begin 40 = .ok (.iload_n 2, 1) := by decide +kernel
theorem dX12_begin_41 : decode cX12_begin 41 = .ok (.invokevirtual 85, 3) := by decide +kernel
theorem dX12_begin_44 : decode cX12_begin 44 = .ok (.iload_n 1, 1) := by decide +kernel
theorem dX12_begin_45 : decode cX12_begin 45 = .ok (.iload_n 1, 1) := by decide +kernel
theorem dX12_begin_46 : decode cX12_begin 46 = .ok (.iconst 1, 1) := by decide +kernel
theorem dX12_begin_47 : decode cX12_begin 47 = .ok (.isub, 1) := by decide +kernel
theorem dX12_begin_48 : decode cX12_begin 48 = .ok (.imul, 1) := by decide +kernel
theorem dX12_begin_49 : decode cX12_begin 49 = .ok (.iconst 2, 1) := by decide +kernel
theorem dX12_begin_50 : decode cX12_begin 50 = .ok (.idiv, 1) := by decide +kernel
theorem dX12_begin_51 : decode cX12_begin 51 = .ok (.ireturn, 1) := by decide +kernel
theorem dX12_setWeight_0 : decode cX12_setWeight 0 = .ok (.aload_n 0, 1) := by decide +kernel
theorem dX12_setWeight_1 : decode cX12_setWeight 1 = .ok (.aload_n 0, 1) := by decide +kernel
theorem dX12_setWeight_2 : decode cX12_setWeight 2 = .ok (.iload_n 1, 1) := by decide +kernel
theorem dX12_setWeight_3 : decode cX12_setWeight 3 = .ok (.invokevirtual 114, 3) := by decide +kernel
theorem dX12_setWeight_6 : decode cX12_setWeight 6 = .ok (.ifCond .ne 7, 3) := by decide +kernel
theorem dX12_setWeight_9 : decode cX12_setWeight 9 = .ok (.iconst 1, 1) := by decide +kernel
theorem dX12_setWeight_10 : decode cX12_setWeight 10 = .ok (.goto 18, 3) := by decide +kernel
theorem dX12_setWeight_13 : decode cX12_setWeight 13 = .ok (.iload_n 2, 1) := by decide +kernel
theorem dX12_setWeight_14 : decode cX12_setWeight 14 = .ok (.iconst 0, 1) := by decide +kernel
theorem dX12_setWeight_15 : decode cX12_setWeight 15 = .ok (.bipush 9, 2) := by decide +kernel
theorem dX12_setWeight_17 : decode cX12_setWeight 17 = .ok (.invokestatic 95, 3) := by decide +kernel
theorem dX12_setWeight_20 : decode cX12_setWeight 20 = .ok (.ifCond .eq 7, 3) := by decide +kernel
theorem dX12_setWeight_23 : decode cX12_setWeight 23 = .ok (.iconst 0, 1) := by decide +kernel
theorem dX12_setWeight_24 : decode cX12_setWeight 24 = .ok (.goto 4, 3) := by decide +kernel
theorem dX12_setWeight_27 : decode cX12_setWeight 27 = .ok (.iconst 2, 1) := by decide +kernel
theorem dX12_setWeight_28 : decode cX12_setWeight 28 = .ok (.putfield 89, 3) := by decide +kernel
theorem dX12_setWeight_31 : decode cX12_setWeight 31 = .ok (.aload_n 0, 1) := by decide +kernel
theorem dX12_setWeight_32 : decode cX12_setWeight 32 = .ok (.getfield 89, 3) := by decide +kernel
theorem dX12_setWeight_35 : decode cX12_setWeight 35 = .ok (.ifCond .le 5, 3) := by decide +kernel
theorem dX12_setWeight_38 : decode cX12_setWeight 38 = .ok (.iconst 0, 1) := by decide +kernel
theorem dX12_setWeight_39 : decode cX12_setWeight 39 = .ok (.ireturn, 1) := by decide +kernel
theorem dX12_setWeight_40 : decode cX12_setWeight 40 = .ok (.aload_n 0, 1) := by decide +kernel
theorem dX12_setWeight_41 : decode cX12_setWeight 41 = .ok (.getfield 7, 3) := by decide +kernel
theorem dX12_setWeight_44 : decode cX12_setWeight 44 = .ok (.iload_n 1, 1) := by decide +kernel
theorem dX12_setWeight_45 : decode cX12_setWeight 45 = .ok (.iaload, 1) := by decide +kernel
theorem dX12_setWeight_46 : decode cX12_setWeight 46 = .ok (.istore_n 3, 1) := by decide +kernel
theorem dX12_setWeight_47 : decode cX12_setWeight 47 = .ok (.aload_n 0, 1) := by decide +kernel
theorem dX12_setWeight_48 : decode cX12_setWeight 48 = .ok (.getfield 7, 3) := by decide +kernel
theorem dX12_setWeight_51 : decode cX12_setWeight 51 = .ok (.iload_n 1, 1) := by decide +kernel
theorem dX12_setWeight_52 : decode cX12_setWeight 52 = .ok (.iload_n 2, 1) := by decide +kernel
theorem dX12_setWeight_53 : decode cX12_setWeight 53 = .ok (.iastore, 1) := by decide +kernel
theorem dX12_setWeight_54 : decode cX12_setWeight 54 = .ok (.iload_n 3, 1) := by decide +kernel
theorem dX12_setWeight_55 : decode cX12_setWeight 55 = .ok (.ireturn, 1) := by decide +kernel
theorem dX12_draw_0 : decode cX12_draw 0 = .ok (.aload_n 0, 1) := by decide +kernel
theorem dX12_draw_1 : decode cX12_draw 1 = .ok (.ldc2_w 118, 3) := by decide +kernel
theorem dX12_draw_4 : decode cX12_draw 4 = .ok (.aload_n 0, 1) := by decide +kernel
theorem dX12_draw_5 : decode cX12_draw 5 = .ok (.getfield 120, 3) := by decide +kernel
theorem dX12_draw_8 : decode cX12_draw 8 = .ok (.lmul, 1) := by decide +kernel
theorem dX12_draw_9 : decode cX12_draw 9 = .ok (.ldc2_w 124, 3) := by decide +kernel
theorem dX12_draw_12 : decode cX12_draw 12 = .ok (.ladd, 1) := by decide +kernel
theorem dX12_draw_13 : decode cX12_draw 13 = .ok (.ldc2_w 126, 3) := by decide +kernel
theorem dX12_draw_16 : decode cX12_draw 16 = .ok (.lrem, 1) := by decide +kernel
theorem dX12_draw_17 : decode cX12_draw 17 = .ok (.putfield 120, 3) := by decide +kernel
theorem dX12_draw_20 : decode cX12_draw 20 = .ok (.aload_n 0, 1) := by decide +kernel
theorem dX12_draw_21 : decode cX12_draw 21 = .ok (.getfield 120, 3) := by decide +kernel
theorem dX12_draw_24 : decode cX12_draw 24 = .ok (.ldc2_w 128, 3) := by decide +kernel
theorem dX12_draw_27 : decode cX12_draw 27 = .ok (.ldiv, 1) := by decide +kernel
theorem dX12_draw_28 : decode cX12_draw 28 = .ok (.iload_n 1, 1) := by decide +kernel
theorem dX12_draw_29 : decode cX12_draw 29 = .ok (.i2l, 1) := by decide +kernel
theorem dX12_draw_30 : decode cX12_draw 30 = .ok (.lrem, 1) := by decide +kernel
theorem dX12_draw_31 : decode cX12_draw 31 = .ok (.l2i, 1) := by decide +kernel
theorem dX12_draw_32 : decode cX12_draw 32 = .ok (.ireturn, 1) := by decide +kernel
theorem dX12_listTrials_0 : decode cX12_listTrials 0 = .ok (.aload_n 0, 1) := by decide +kernel
theorem dX12_listTrials_1 : decode cX12_listTrials 1 = .ok (.iconst 0, 1) := by decide +kernel
theorem dX12_listTrials_2 : decode cX12_listTrials 2 = .ok (.putfield 105, 3) := by decide +kernel
theorem dX12_listTrials_5 : decode cX12_listTrials 5 = .ok (.iconst 0, 1) := by decide +kernel
theorem dX12_listTrials_6 : decode cX12_listTrials 6 = .ok (.istore_n 2, 1) := by decide +kernel
theorem dX12_listTrials_7 : decode cX12_listTrials 7 = .ok (.iload_n 2, 1) := by decide +kernel
theorem dX12_listTrials_8 : decode cX12_listTrials 8 = .ok (.iload_n 1, 1) := by decide +kernel
theorem dX12_listTrials_9 : decode cX12_listTrials 9 = .ok (.if_icmp .ge 71, 3) := by decide +kernel
theorem dX12_listTrials_12 : decode cX12_listTrials 12 = .ok (.iconst 0, 1) := by decide +kernel
theorem dX12_listTrials_13 : decode cX12_listTrials 13 = .ok (.istore_n 3, 1) := by decide +kernel
theorem dX12_listTrials_14 : decode cX12_listTrials 14 = .ok (.iload_n 3, 1) := by decide +kernel
theorem dX12_listTrials_15 : decode cX12_listTrials 15 = .ok (.aload_n 0, 1) := by decide +kernel
theorem dX12_listTrials_16 : decode cX12_listTrials 16 = .ok (.getfield 92, 3) := by decide +kernel
theorem dX12_listTrials_19 : decode cX12_listTrials 19 = .ok (.if_icmp .ge 55, 3) := by decide +kernel
theorem dX12_listTrials_22 : decode cX12_listTrials 22 = .ok (.iload_n 3, 1) := by decide +kernel
theorem dX12_listTrials_23 : decode cX12_listTrials 23 = .ok (.iconst 1, 1) := by decide +kernel
theorem dX12_listTrials_24 : decode cX12_listTrials 24 = .ok (.iadd, 1) := by decide +kernel
theorem dX12_listTrials_25 : decode cX12_listTrials 25 = .ok (.istore 4, 2) := by decide +kernel
theorem dX12_listTrials_27 : decode cX12_listTrials 27 = .ok (.iload 4, 2) := by decide +kernel
theorem dX12_listTrials_29 : decode cX12_listTrials 29 = .ok (.aload_n 0, 1) := by decide +kernel
theorem dX12_listTrials_30 : decode cX12_listTrials 30 = .ok (.getfield 92, 3) := by decide +kernel
theorem dX12_listTrials_33 : decode cX12_listTrials 33 = .ok (.if_icmp .ge 35, 3) := by decide +kernel
theorem dX12_listTrials_36 : decode cX12_listTrials 36 = .ok (.aload_n 0, 1) := by decide +kernel
theorem dX12_listTrials_37 : decode cX12_listTrials 37 = .ok (.getfield 29, 3) := by decide +kernel
theorem dX12_listTrials_40 : decode cX12_listTrials 40 = .ok (.aload_n 0, 1) := by decide +kernel
theorem dX12_listTrials_41 : decode cX12_listTrials 41 = .ok (.getfield 105, 3) := by decide +kernel
theorem dX12_listTrials_44 : decode cX12_listTrials 44 = .ok (.bipush 10, 2) := by decide +kernel
theorem dX12_listTrials_46 : decode cX12_listTrials 46 = .ok (.iload_n 3, 1) := by decide +kernel
theorem dX12_listTrials_47 : decode cX12_listTrials 47 = .ok (.imul, 1) := by decide +kernel
theorem dX12_listTrials_48 : decode cX12_listTrials 48 = .ok (.iload 4, 2) := by decide +kernel
theorem dX12_listTrials_50 : decode cX12_listTrials 50 = .ok (.iadd, 1) := by decide +kernel
theorem dX12_listTrials_51 : decode cX12_listTrials 51 = .ok (.iastore, 1) := by decide +kernel
theorem dX12_listTrials_52 : decode cX12_listTrials 52 = .ok (.aload_n 0, 1) := by decide +kernel
theorem dX12_listTrials_53 : decode cX12_listTrials 53 = .ok (.dup, 1) := by decide +kernel
theorem dX12_listTrials_54 : decode cX12_listTrials 54 = .ok (.getfield 105, 3) := by decide +kernel
theorem dX12_listTrials_57 : decode cX12_listTrials 57 = .ok (.iconst 1, 1) := by decide +kernel
theorem dX12_listTrials_58 : decode cX12_listTrials 58 = .ok (.iadd, 1) := by decide +kernel
theorem dX12_listTrials_59 : decode cX12_listTrials 59 = .ok (.putfield 105, 3) := by decide +kernel
theorem dX12_listTrials_62 : decode cX12_listTrials 62 = .ok (.iinc 4 1, 3) := by decide +kernel
theorem dX12_listTrials_65 : decode cX12_listTrials 65 = .ok (.goto (-38), 3) := by decide +kernel
theorem dX12_listTrials_68 : decode cX12_listTrials 68 = .ok (.iinc 3 1, 3) := by decide +kernel
theorem dX12_listTrials_71 : decode cX12_listTrials 71 = .ok (.goto (-57), 3) := by decide +kernel
theorem dX12_listTrials_74 : decode cX12_listTrials 74 = .ok (.iinc 2 1, 3) := by decide +kernel
theorem dX12_listTrials_77 : decode cX12_listTrials 77 = .ok (.goto (-70), 3) := by decide +kernel
theorem dX12_listTrials_80 : decode cX12_listTrials 80 = .ok (.return_, 1) := by decide +kernel
theorem dX12_plan_0 : decode cX12_plan 0 = .ok (.aload_n 0, 1) := by decide +kernel
theorem dX12_plan_1 : decode cX12_plan 1 = .ok (.aload_n 0, 1) := by decide +kernel
theorem dX12_plan_2 : decode cX12_plan 2 = .ok (.iload_n 1, 1) := by decide +kernel
theorem dX12_plan_3 : decode cX12_plan 3 = .ok (.invokevirtual 114, 3) := by decide +kernel
theorem dX12_plan_6 : decode cX12_plan 6 = .ok (.ifCond .ne 7, 3) := by decide +kernel
theorem dX12_plan_9 : decode cX12_plan 9 = .ok (.iconst 1, 1) := by decide +kernel
theorem dX12_plan_10 : decode cX12_plan 10 = .ok (.goto 21, 3) := by decide +kernel
theorem dX12_plan_13 : decode cX12_plan 13 = .ok (.iload_n 2, 1) := by decide +kernel
theorem dX12_plan_14 : decode cX12_plan 14 = .ok (.iconst 1, 1) := by decide +kernel
theorem dX12_plan_15 : decode cX12_plan 15 = .ok (.iconst 2, 1) := by decide +kernel
theorem dX12_plan_16 : decode cX12_plan 16 = .ok (.invokestatic 95, 3) := by decide +kernel
theorem dX12_plan_19 : decode cX12_plan 19 = .ok (.ifCond .eq 11, 3) := by decide +kernel
theorem dX12_plan_22 : decode cX12_plan 22 = .ok (.iload_n 3, 1) := by decide +kernel
theorem dX12_plan_23 : decode cX12_plan 23 = .ok (.ifCond .lt 7, 3) := by decide +kernel
theorem dX12_plan_26 : decode cX12_plan 26 = .ok (.iconst 0, 1) := by decide +kernel
theorem dX12_plan_27 : decode cX12_plan 27 = .ok (.goto 4, 3) := by decide +kernel
theorem dX12_plan_30 : decode cX12_plan 30 = .ok (.iconst 2, 1) := by decide +kernel
theorem dX12_plan_31 : decode cX12_plan 31 = .ok (.putfield 89, 3) := by decide +kernel
theorem dX12_plan_34 : decode cX12_plan 34 = .ok (.aload_n 0, 1) := by decide +kernel
theorem dX12_plan_35 : decode cX12_plan 35 = .ok (.getfield 89, 3) := by decide +kernel
theorem dX12_plan_38 : decode cX12_plan 38 = .ok (.ifCond .le 5, 3) := by decide +kernel
theorem dX12_plan_41 : decode cX12_plan 41 = .ok (.iconst 0, 1) := by decide +kernel
theorem dX12_plan_42 : decode cX12_plan 42 = .ok (.ireturn, 1) := by decide +kernel
theorem dX12_plan_43 : decode cX12_plan 43 = .ok (.aload_n 0, 1) := by decide +kernel
theorem dX12_plan_44 : decode cX12_plan 44 = .ok (.iload_n 1, 1) := by decide +kernel
theorem dX12_plan_45 : decode cX12_plan 45 = .ok (.putfield 25, 3) := by decide +kernel
theorem dX12_plan_48 : decode cX12_plan 48 = .ok (.aload_n 0, 1) := by decide +kernel
theorem dX12_plan_49 : decode cX12_plan 49 = .ok (.iconst 0, 1) := by decide +kernel
theorem dX12_plan_50 : decode cX12_plan 50 = .ok (.putfield 108, 3) := by decide +kernel
theorem dX12_plan_53 : decode cX12_plan 53 = .ok (.aload_n 0, 1) := by decide +kernel
theorem dX12_plan_54 : decode cX12_plan 54 = .ok (.iload_n 3, 1) := by decide +kernel
theorem dX12_plan_55 : decode cX12_plan 55 = .ok (.i2l, 1) := by decide +kernel
theorem dX12_plan_56 : decode cX12_plan 56 = .ok (.putfield 120, 3) := by decide +kernel
theorem dX12_plan_59 : decode cX12_plan 59 = .ok (.aload_n 0, 1) := by decide +kernel
theorem dX12_plan_60 : decode cX12_plan 60 = .ok (.iload_n 2, 1) := by decide +kernel
theorem dX12_plan_61 : decode cX12_plan 61 = .ok (.invokevirtual 130, 3) := by decide +kernel
theorem dX12_plan_64 : decode cX12_plan 64 = .ok (.iconst 0, 1) := by decide +kernel
theorem dX12_plan_65 : decode cX12_plan 65 = .ok (.istore 4, 2) := by decide +kernel
theorem dX12_plan_67 : decode cX12_plan 67 = .ok (.iload 4, 2) := by decide +kernel
theorem dX12_plan_69 : decode cX12_plan 69 = .ok (.aload_n 0, 1) := by decide +kernel
theorem dX12_plan_70 : decode cX12_plan 70 = .ok (.getfield 105, 3) := by decide +kernel
theorem dX12_plan_73 : decode cX12_plan 73 = .ok (.if_icmp .ge 59, 3) := by decide +kernel
theorem dX12_plan_76 : decode cX12_plan 76 = .ok (.aload_n 0, 1) := by decide +kernel
theorem dX12_plan_77 : decode cX12_plan 77 = .ok (.getfield 29, 3) := by decide +kernel
theorem dX12_plan_80 : decode cX12_plan 80 = .ok (.iload 4, 2) := by decide +kernel
theorem dX12_plan_82 : decode cX12_plan 82 = .ok (.aload_n 0, 1) := by decide +kernel
theorem dX12_plan_83 : decode cX12_plan 83 = .ok (.iconst 2, 1) := by decide +kernel
theorem dX12_plan_84 : decode cX12_plan 84 = .ok (.invokevirtual 134, 3) := by decide +kernel
theorem dX12_plan_87 : decode cX12_plan 87 = .ok (.iconst 1, 1) := by decide +kernel
theorem dX12_plan_88 : decode cX12_plan 88 = .ok (.if_icmp .ne 30, 3) := by decide +kernel
theorem dX12_plan_91 : decode cX12_plan 91 = .ok (.bipush 10, 2) := by decide +kernel
theorem dX12_plan_93 : decode cX12_plan 93 = .ok (.aload_n 0, 1) := by decide +kernel
theorem dX12_plan_94 : decode cX12_plan 94 = .ok (.getfield 29, 3) := by decide +kernel
theorem dX12_plan_97 : decode cX12_plan 97 = .ok (.iload 4, 2) := by decide +kernel
theorem dX12_plan_99 : decode cX12_plan 99 = .ok (.iaload, 1) := by decide +kernel
theorem dX12_plan_100 : decode cX12_plan 100 = .ok (.bipush 10, 2) := by decide +kernel
theorem dX12_plan_102 : decode cX12_plan 102 = .ok (.irem, 1) := by decide +kernel
theorem dX12_plan_103 : decode cX12_plan 103 = .ok (.imul, 1) := by decide +kernel
theorem dX12_plan_104 : decode cX12_plan 104 = .ok (.aload_n 0, 1) := by decide +kernel
theorem dX12_plan_105 : decode cX12_plan 105 = .ok (.getfield 29, 3) := by decide +kernel
theorem dX12_plan_108 : decode cX12_plan 108 = .ok (.iload 4, 2) := by decide +kernel
theorem dX12_plan_110 : decode cX12_plan 110 = .ok (.iaload, 1) := by decide +kernel
theorem dX12_plan_111 : decode cX12_plan 111 = .ok (.bipush 10, 2) := by decide +kernel
theorem dX12_plan_113 : decode cX12_plan 113 = .ok (.idiv, 1) := by decide +kernel
theorem dX12_plan_114 : decode cX12_plan 114 = .ok (.iadd, 1) := by decide +kernel
theorem dX12_plan_115 : decode cX12_plan 115 = .ok (.goto 10, 3) := by decide +kernel
theorem dX12_plan_118 : decode cX12_plan 118 = .ok (.aload_n 0, 1) := by decide +kernel
theorem dX12_plan_119 : decode cX12_plan 119 = .ok (.getfield 29, 3) := by decide +kernel
theorem dX12_plan_122 : decode cX12_plan 122 = .ok (.iload 4, 2) := by decide +kernel
theorem dX12_plan_124 : decode cX12_plan 124 = .ok (.iaload, 1) := by decide +kernel
theorem dX12_plan_125 : decode cX12_plan 125 = .ok (.iastore, 1) := by decide +kernel
theorem dX12_plan_126 : decode cX12_plan 126 = .ok (.iinc 4 1, 3) := by decide +kernel
theorem dX12_plan_129 : decode cX12_plan 129 = .ok (.goto (-62), 3) := by decide +kernel
theorem dX12_plan_132 : decode cX12_plan 132 = .ok (.aload_n 0, 1) := by decide +kernel
theorem dX12_plan_133 : decode cX12_plan 133 = .ok (.getfield 105, 3) := by decide +kernel
theorem dX12_plan_136 : decode cX12_plan 136 = .ok (.iconst 1, 1) := by decide +kernel
theorem dX12_plan_137 : decode cX12_plan 137 = .ok (.isub, 1) := by decide +kernel
theorem dX12_plan_138 : decode cX12_plan 138 = .ok (.istore 4, 2) := by decide +kernel
theorem dX12_plan_140 : decode cX12_plan 140 = .ok (.iload 4, 2) := by decide +kernel
theorem dX12_plan_142 : decode cX12_plan 142 = .ok (.ifCond .le 51, 3) := by decide +kernel
theorem dX12_plan_145 : decode cX12_plan 145 = .ok (.aload_n 0, 1) := by decide +kernel
theorem dX12_plan_146 : decode cX12_plan 146 = .ok (.iload 4, 2) := by decide +kernel
theorem dX12_plan_148 : decode cX12_plan 148 = .ok (.iconst 1, 1) := by decide +kernel
theorem dX12_plan_149 : decode cX12_plan 149 = .ok (.iadd, 1) := by decide +kernel
theorem dX12_plan_150 : decode cX12_plan 150 = .ok (.invokevirtual 134, 3) := by decide +kernel
theorem dX12_plan_153 : decode cX12_plan 153 = .ok (.istore 5, 2) := by decide +kernel
theorem dX12_plan_155 : decode cX12_plan 155 = .ok (.aload_n 0, 1) := by decide +kernel
theorem dX12_plan_156 : decode cX12_plan 156 = .ok (.getfield 29, 3) := by decide +kernel
theorem dX12_plan_159 : decode cX12_plan 159 = .ok (.iload 4, 2) := by decide +kernel
theorem dX12_plan_161 : decode cX12_plan 161 = .ok (.iaload, 1) := by decide +kernel
theorem dX12_plan_162 : decode cX12_plan 162 = .ok (.istore 6, 2) := by decide +kernel
theorem dX12_plan_164 : decode cX12_plan 164 = .ok (.aload_n 0, 1) := by decide +kernel
theorem dX12_plan_165 : decode cX12_plan 165 = .ok (.getfield 29, 3) := by decide +kernel
theorem dX12_plan_168 : decode cX12_plan 168 = .ok (.iload 4, 2) := by decide +kernel
theorem dX12_plan_170 : decode cX12_plan 170 = .ok (.aload_n 0, 1) := by decide +kernel
theorem dX12_plan_171 : decode cX12_plan 171 = .ok (.getfield 29, 3) := by decide +kernel
theorem dX12_plan_174 : decode cX12_plan 174 = .ok (.iload 5, 2) := by decide +kernel
theorem dX12_plan_176 : decode cX12_plan 176 = .ok (.iaload, 1) := by decide +kernel
theorem dX12_plan_177 : decode cX12_plan 177 = .ok (.iastore, 1) := by decide +kernel
theorem dX12_plan_178 : decode cX12_plan 178 = .ok (.aload_n 0, 1) := by decide +kernel
theorem dX12_plan_179 : decode cX12_plan 179 = .ok (.getfield 29, 3) := by decide +kernel
theorem dX12_plan_182 : decode cX12_plan 182 = .ok (.iload 5, 2) := by decide +kernel
theorem dX12_plan_184 : decode cX12_plan 184 = .ok (.iload 6, 2) := by decide +kernel
theorem dX12_plan_186 : decode cX12_plan 186 = .ok (.iastore, 1) := by decide +kernel
theorem dX12_plan_187 : decode cX12_plan 187 = .ok (.iinc 4 (-1), 3) := by decide +kernel
theorem dX12_plan_190 : decode cX12_plan 190 = .ok (.goto (-50), 3) := by decide +kernel
theorem dX12_plan_193 : decode cX12_plan 193 = .ok (.aload_n 0, 1) := by decide +kernel
theorem dX12_plan_194 : decode cX12_plan 194 = .ok (.getfield 105, 3) := by decide +kernel
theorem dX12_plan_197 : decode cX12_plan 197 = .ok (.ireturn, 1) := by decide +kernel
theorem dX12_trial_0 : decode cX12_trial 0 = .ok (.aload_n 0, 1) := by decide +kernel
theorem dX12_trial_1 : decode cX12_trial 1 = .ok (.aload_n 0, 1) := by decide +kernel
theorem dX12_trial_2 : decode cX12_trial 2 = .ok (.getfield 25, 3) := by decide +kernel
theorem dX12_trial_5 : decode cX12_trial 5 = .ok (.iconst (-1), 1) := by decide +kernel
theorem dX12_trial_6 : decode cX12_trial 6 = .ok (.if_icmp .ne 7, 3) := by decide +kernel
theorem dX12_trial_9 : decode cX12_trial 9 = .ok (.iconst 1, 1) := by decide +kernel
theorem dX12_trial_10 : decode cX12_trial 10 = .ok (.goto 22, 3) := by decide +kernel
theorem dX12_trial_13 : decode cX12_trial 13 = .ok (.iload_n 1, 1) := by decide +kernel
theorem dX12_trial_14 : decode cX12_trial 14 = .ok (.iconst 0, 1) := by decide +kernel
theorem dX12_trial_15 : decode cX12_trial 15 = .ok (.aload_n 0, 1) := by decide +kernel
theorem dX12_trial_16 : decode cX12_trial 16 = .ok (.getfield 105, 3) := by decide +kernel
theorem dX12_trial_19 : decode cX12_trial 19 = .ok (.iconst 1, 1) := by decide +kernel
theorem dX12_trial_20 : decode cX12_trial 20 = .ok (.isub, 1) := by decide +kernel
theorem dX12_trial_21 : decode cX12_trial 21 = .ok (.invokestatic 95, 3) := by decide +kernel
theorem dX12_trial_24 : decode cX12_trial 24 = .ok (.ifCond .eq 7, 3) := by decide +kernel
theorem dX12_trial_27 : decode cX12_trial 27 = .ok (.iconst 0, 1) := by decide +kernel
theorem dX12_trial_28 : decode cX12_trial 28 = .ok (.goto 4, 3) := by decide +kernel
theorem dX12_trial_31 : decode cX12_trial 31 = .ok (.iconst 2, 1) := by decide +kernel
theorem dX12_trial_32 : decode cX12_trial 32 = .ok (.putfield 89, 3) := by decide +kernel
theorem dX12_trial_35 : decode cX12_trial 35 = .ok (.aload_n 0, 1) := by decide +kernel
theorem dX12_trial_36 : decode cX12_trial 36 = .ok (.getfield 89, 3) := by decide +kernel
theorem dX12_trial_39 : decode cX12_trial 39 = .ok (.ifCond .le 7, 3) := by decide +kernel
theorem dX12_trial_42 : decode cX12_trial 42 = .ok (.iconst 0, 1) := by decide +kernel
theorem dX12_trial_43 : decode cX12_trial 43 = .ok (.goto 28, 3) := by decide +kernel
theorem dX12_trial_46 : decode cX12_trial 46 = .ok (.iload_n 2, 1) := by decide +kernel
theorem dX12_trial_47 : decode cX12_trial 47 = .ok (.ifCond .eq 15, 3) := by decide +kernel
theorem dX12_trial_50 : decode cX12_trial 50 = .ok (.aload_n 0, 1) := by decide +kernel
theorem dX12_trial_51 : decode cX12_trial 51 = .ok (.getfield 29, 3) := by decide +kernel
theorem dX12_trial_54 : decode cX12_trial 54 = .ok (.iload_n 1, 1) := by decide +kernel
theorem dX12_trial_55 : decode cX12_trial 55 = .ok (.iaload, 1) := by decide +kernel
theorem dX12_trial_56 : decode cX12_trial 56 = .ok (.bipush 10, 2) := by decide +kernel
theorem dX12_trial_58 : decode cX12_trial 58 = .ok (.irem, 1) := by decide +kernel
theorem dX12_trial_59 : decode cX12_trial 59 = .ok (.goto 12, 3) := by decide +kernel
theorem dX12_trial_62 : decode cX12_trial 62 = .ok (.aload_n 0, 1) := by decide +kernel
theorem dX12_trial_63 : decode cX12_trial 63 = .ok (.getfield 29, 3) := by decide +kernel
theorem dX12_trial_66 : decode cX12_trial 66 = .ok (.iload_n 1, 1) := by decide +kernel
theorem dX12_trial_67 : decode cX12_trial 67 = .ok (.iaload, 1) := by decide +kernel
theorem dX12_trial_68 : decode cX12_trial 68 = .ok (.bipush 10, 2) := by decide +kernel
theorem dX12_trial_70 : decode cX12_trial 70 = .ok (.idiv, 1) := by decide +kernel
theorem dX12_trial_71 : decode cX12_trial 71 = .ok (.ireturn, 1) := by decide +kernel
theorem dX12_packed_0 : decode cX12_packed 0 = .ok (.sipush 1000, 3) := by decide +kernel
theorem dX12_packed_3 : decode cX12_packed 3 = .ok (.aload_n 0, 1) := by decide +kernel
theorem dX12_packed_4 : decode cX12_packed 4 = .ok (.getfield 13, 3) := by decide +kernel
theorem dX12_packed_7 : decode cX12_packed 7 = .ok (.iload_n 1, 1) := by decide +kernel
theorem dX12_packed_8 : decode cX12_packed 8 = .ok (.iaload, 1) := by decide +kernel
theorem dX12_packed_9 : decode cX12_packed 9 = .ok (.imul, 1) := by decide +kernel
theorem dX12_packed_10 : decode cX12_packed 10 = .ok (.bipush 100, 2) := by decide +kernel
theorem dX12_packed_12 : decode cX12_packed 12 = .ok (.aload_n 0, 1) := by decide +kernel
theorem dX12_packed_13 : decode cX12_packed 13 = .ok (.getfield 16, 3) := by decide +kernel
theorem dX12_packed_16 : decode cX12_packed 16 = .ok (.iload_n 1, 1) := by decide +kernel
theorem dX12_packed_17 : decode cX12_packed 17 = .ok (.iaload, 1) := by decide +kernel
theorem dX12_packed_18 : decode cX12_packed 18 = .ok (.imul, 1) := by decide +kernel
theorem dX12_packed_19 : decode cX12_packed 19 = .ok (.iadd, 1) := by decide +kernel
theorem dX12_packed_20 : decode cX12_packed 20 = .ok (.bipush 10, 2) := by decide +kernel
theorem dX12_packed_22 : decode cX12_packed 22 = .ok (.aload_n 0, 1) := by decide +kernel
theorem dX12_packed_23 : decode cX12_packed 23 = .ok (.getfield 19, 3) := by decide +kernel
theorem dX12_packed_26 : decode cX12_packed 26 = .ok (.iload_n 1, 1) := by decide +kernel
theorem dX12_packed_27 : decode cX12_packed 27 = .ok (.iaload, 1) := by decide +kernel
theorem dX12_packed_28 : decode cX12_packed 28 = .ok (.imul, 1) := by decide +kernel
theorem dX12_packed_29 : decode cX12_packed 29 = .ok (.iadd, 1) := by decide +kernel
theorem dX12_packed_30 : decode cX12_packed 30 = .ok (.aload_n 0, 1) := by decide +kernel
theorem dX12_packed_31 : decode cX12_packed 31 = .ok (.getfield 22, 3) := by decide +kernel
theorem dX12_packed_34 : decode cX12_packed 34 = .ok (.iload_n 1, 1) := by decide +kernel
theorem dX12_packed_35 : decode cX12_packed 35 = .ok (.iaload, 1) := by decide +kernel
theorem dX12_packed_36 : decode cX12_packed 36 = .ok (.iadd, 1) := by decide +kernel
theorem dX12_packed_37 : decode cX12_packed 37 = .ok (.ireturn, 1) := by decide +kernel
theorem dX12_unpack_0 : decode cX12_unpack 0 = .ok (.aload_n 0, 1) := by decide +kernel
theorem dX12_unpack_1 : decode cX12_unpack 1 = .ok (.getfield 13, 3) := by decide +kernel
theorem dX12_unpack_4 : decode cX12_unpack 4 = .ok (.iload_n 1, 1) := by decide +kernel
theorem dX12_unpack_5 : decode cX12_unpack 5 = .ok (.iload_n 2, 1) := by decide +kernel
theorem dX12_unpack_6 : decode cX12_unpack 6 = .ok (.sipush 1000, 3) := by decide +kernel
theorem dX12_unpack_9 : decode cX12_unpack 9 = .ok (.idiv, 1) := by decide +kernel
theorem dX12_unpack_10 : decode cX12_unpack 10 = .ok (.iastore, 1) := by decide +kernel
theorem dX12_unpack_11 : decode cX12_unpack 11 = .ok (.aload_n 0, 1) := by decide +kernel
theorem dX12_unpack_12 : decode cX12_unpack 12 = .ok (.getfield 16, 3) := by decide +kernel
theorem dX12_unpack_15 : decode cX12_unpack 15 = .ok (.iload_n 1, 1) := by decide +kernel
theorem dX12_unpack_16 : decode cX12_unpack 16 = .ok (.iload_n 2, 1) := by decide +kernel
theorem dX12_unpack_17 : decode cX12_unpack 17 = .ok (.bipush 100, 2) := by decide +kernel
theorem dX12_unpack_19 : decode cX12_unpack 19 = .ok (.idiv, 1) := by decide +kernel
theorem dX12_unpack_20 : decode cX12_unpack 20 = .ok (.bipush 10, 2) := by decide +kernel
theorem dX12_unpack_22 : decode cX12_unpack 22 = .ok (.irem, 1) := by decide +kernel
theorem dX12_unpack_23 : decode cX12_unpack 23 = .ok (.iastore, 1) := by decide +kernel
theorem dX12_unpack_24 : decode cX12_unpack 24 = .ok (.aload_n 0, 1) := by decide +kernel
theorem dX12_unpack_25 : decode cX12_unpack 25 = .ok (.getfield 19, 3) := by decide +kernel
theorem dX12_unpack_28 : decode cX12_unpack 28 = .ok (.iload_n 1, 1) := by decide +kernel
theorem dX12_unpack_29 : decode cX12_unpack 29 = .ok (.iload_n 2, 1) := by decide +kernel
theorem dX12_unpack_30 : decode cX12_unpack 30 = .ok (.bipush 10, 2) := by decide +kernel
theorem dX12_unpack_32 : decode cX12_unpack 32 = .ok (.idiv, 1) := by decide +kernel
theorem dX12_unpack_33 : decode cX12_unpack 33 = .ok (.bipush 10, 2) := by decide +kernel
theorem dX12_unpack_35 : decode cX12_unpack 35 = .ok (.irem, 1) := by decide +kernel
theorem dX12_unpack_36 : decode cX12_unpack 36 = .ok (.iastore, 1) := by decide +kernel
theorem dX12_unpack_37 : decode cX12_unpack 37 = .ok (.aload_n 0, 1) := by decide +kernel
theorem dX12_unpack_38 : decode cX12_unpack 38 = .ok (.getfield 22, 3) := by decide +kernel
theorem dX12_unpack_41 : decode cX12_unpack 41 = .ok (.iload_n 1, 1) := by decide +kernel
theorem dX12_unpack_42 : decode cX12_unpack 42 = .ok (.iload_n 2, 1) := by decide +kernel
theorem dX12_unpack_43 : decode cX12_unpack 43 = .ok (.bipush 10, 2) := by decide +kernel
theorem dX12_unpack_45 : decode cX12_unpack 45 = .ok (.irem, 1) := by decide +kernel
theorem dX12_unpack_46 : decode cX12_unpack 46 = .ok (.iastore, 1) := by decide +kernel
theorem dX12_unpack_47 : decode cX12_unpack 47 = .ok (.return_, 1) := by decide +kernel
theorem dX12_dropOldest_0 : decode cX12_dropOldest 0 = .ok (.iconst 1, 1) := by decide +kernel
theorem dX12_dropOldest_1 : decode cX12_dropOldest 1 = .ok (.istore_n 1, 1) := by decide +kernel
theorem dX12_dropOldest_2 : decode cX12_dropOldest 2 = .ok (.iload_n 1, 1) := by decide +kernel
theorem dX12_dropOldest_3 : decode cX12_dropOldest 3 = .ok (.bipush 12, 2) := by decide +kernel
theorem dX12_dropOldest_5 : decode cX12_dropOldest 5 = .ok (.if_icmp .ge 65, 3) := by decide +kernel
theorem dX12_dropOldest_8 : decode cX12_dropOldest 8 = .ok (.aload_n 0, 1) := by decide +kernel
theorem dX12_dropOldest_9 : decode cX12_dropOldest 9 = .ok (.getfield 32, 3) := by decide +kernel
theorem dX12_dropOldest_12 : decode cX12_dropOldest 12 = .ok (.iload_n 1, 1) := by decide +kernel
theorem dX12_dropOldest_13 : decode cX12_dropOldest 13 = .ok (.iconst 1, 1) := by decide +kernel
theorem dX12_dropOldest_14 : decode cX12_dropOldest 14 = .ok (.isub, 1) := by decide +kernel
theorem dX12_dropOldest_15 : decode cX12_dropOldest 15 = .ok (.aload_n 0, 1) := by decide +kernel
theorem dX12_dropOldest_16 : decode cX12_dropOldest 16 = .ok (.getfield 32, 3) := by decide +kernel
theorem dX12_dropOldest_19 : decode cX12_dropOldest 19 = .ok (.iload_n 1, 1) := by decide +kernel
theorem dX12_dropOldest_20 : decode cX12_dropOldest 20 = .ok (.iaload, 1) := by decide +kernel
theorem dX12_dropOldest_21 : decode cX12_dropOldest 21 = .ok (.iastore, 1) := by decide +kernel
theorem dX12_dropOldest_22 : decode cX12_dropOldest 22 = .ok (.aload_n 0, 1) := by decide +kernel
theorem dX12_dropOldest_23 : decode cX12_dropOldest 23 = .ok (.getfield 38, 3) := by decide +kernel
theorem dX12_dropOldest_26 : decode cX12_dropOldest 26 = .ok (.iload_n 1, 1) := by decide +kernel
theorem dX12_dropOldest_27 : decode cX12_dropOldest 27 = .ok (.iconst 1, 1) := by decide +kernel
theorem dX12_dropOldest_28 : decode cX12_dropOldest 28 = .ok (.isub, 1) := by decide +kernel
theorem dX12_dropOldest_29 : decode cX12_dropOldest 29 = .ok (.aload_n 0, 1) := by decide +kernel
theorem dX12_dropOldest_30 : decode cX12_dropOldest 30 = .ok (.getfield 38, 3) := by decide +kernel
theorem dX12_dropOldest_33 : decode cX12_dropOldest 33 = .ok (.iload_n 1, 1) := by decide +kernel
theorem dX12_dropOldest_34 : decode cX12_dropOldest 34 = .ok (.iaload, 1) := by decide +kernel
theorem dX12_dropOldest_35 : decode cX12_dropOldest 35 = .ok (.iastore, 1) := by decide +kernel
theorem dX12_dropOldest_36 : decode cX12_dropOldest 36 = .ok (.aload_n 0, 1) := by decide +kernel
theorem dX12_dropOldest_37 : decode cX12_dropOldest 37 = .ok (.getfield 41, 3) := by decide +kernel
theorem dX12_dropOldest_40 : decode cX12_dropOldest 40 = .ok (.iload_n 1, 1) := by decide +kernel
theorem dX12_dropOldest_41 : decode cX12_dropOldest 41 = .ok (.iconst 1, 1) := by decide +kernel
theorem dX12_dropOldest_42 : decode cX12_dropOldest 42 = .ok (.isub, 1) := by decide +kernel
theorem dX12_dropOldest_43 : decode cX12_dropOldest 43 = .ok (.aload_n 0, 1) := by decide +kernel
theorem dX12_dropOldest_44 : decode cX12_dropOldest 44 = .ok (.getfield 41, 3) := by decide +kernel
theorem dX12_dropOldest_47 : decode cX12_dropOldest 47 = .ok (.iload_n 1, 1) := by decide +kernel
theorem dX12_dropOldest_48 : decode cX12_dropOldest 48 = .ok (.iaload, 1) := by decide +kernel
theorem dX12_dropOldest_49 : decode cX12_dropOldest 49 = .ok (.iastore, 1) := by decide +kernel
theorem dX12_dropOldest_50 : decode cX12_dropOldest 50 = .ok (.aload_n 0, 1) := by decide +kernel
theorem dX12_dropOldest_51 : decode cX12_dropOldest 51 = .ok (.getfield 44, 3) := by decide +kernel
theorem dX12_dropOldest_54 : decode cX12_dropOldest 54 = .ok (.iload_n 1, 1) := by decide +kernel
theorem dX12_dropOldest_55 : decode cX12_dropOldest 55 = .ok (.iconst 1, 1) := by decide +kernel
theorem dX12_dropOldest_56 : decode cX12_dropOldest 56 = .ok (.isub, 1) := by decide +kernel
theorem dX12_dropOldest_57 : decode cX12_dropOldest 57 = .ok (.aload_n 0, 1) := by decide +kernel
theorem dX12_dropOldest_58 : decode cX12_dropOldest 58 = .ok (.getfield 44, 3) := by decide +kernel
theorem dX12_dropOldest_61 : decode cX12_dropOldest 61 = .ok (.iload_n 1, 1) := by decide +kernel
theorem dX12_dropOldest_62 : decode cX12_dropOldest 62 = .ok (.iaload, 1) := by decide +kernel
theorem dX12_dropOldest_63 : decode cX12_dropOldest 63 = .ok (.iastore, 1) := by decide +kernel
theorem dX12_dropOldest_64 : decode cX12_dropOldest 64 = .ok (.iinc 1 1, 3) := by decide +kernel
theorem dX12_dropOldest_67 : decode cX12_dropOldest 67 = .ok (.goto (-65), 3) := by decide +kernel
theorem dX12_dropOldest_70 : decode cX12_dropOldest 70 = .ok (.bipush 48, 2) := by decide +kernel
theorem dX12_dropOldest_72 : decode cX12_dropOldest 72 = .ok (.istore_n 1, 1) := by decide +kernel
theorem dX12_dropOldest_73 : decode cX12_dropOldest 73 = .ok (.iload_n 1, 1) := by decide +kernel
theorem dX12_dropOldest_74 : decode cX12_dropOldest 74 = .ok (.sipush 576, 3) := by decide +kernel
theorem dX12_dropOldest_77 : decode cX12_dropOldest 77 = .ok (.if_icmp .ge 24, 3) := by decide +kernel
theorem dX12_dropOldest_80 : decode cX12_dropOldest 80 = .ok (.aload_n 0, 1) := by decide +kernel
theorem dX12_dropOldest_81 : decode cX12_dropOldest 81 = .ok (.getfield 35, 3) := by decide +kernel
theorem dX12_dropOldest_84 : decode cX12_dropOldest 84 = .ok (.iload_n 1, 1) := by decide +kernel
theorem dX12_dropOldest_85 : decode cX12_dropOldest 85 = .ok (.bipush 48, 2) := by decide +kernel
theorem dX12_dropOldest_87 : decode cX12_dropOldest 87 = .ok (.isub, 1) := by decide +kernel
theorem dX12_dropOldest_88 : decode cX12_dropOldest 88 = .ok (.aload_n 0, 1) := by decide +kernel
theorem dX12_dropOldest_89 : decode cX12_dropOldest 89 = .ok (.getfield 35, 3) := by decide +kernel
theorem dX12_dropOldest_92 : decode cX12_dropOldest 92 = .ok (.iload_n 1, 1) := by decide +kernel
theorem dX12_dropOldest_93 : decode cX12_dropOldest 93 = .ok (.iaload, 1) := by decide +kernel
theorem dX12_dropOldest_94 : decode cX12_dropOldest 94 = .ok (.iastore, 1) := by decide +kernel
theorem dX12_dropOldest_95 : decode cX12_dropOldest 95 = .ok (.iinc 1 1, 3) := by decide +kernel
theorem dX12_dropOldest_98 : decode cX12_dropOldest 98 = .ok (.goto (-25), 3) := by decide +kernel
theorem dX12_dropOldest_101 : decode cX12_dropOldest 101 = .ok (.bipush 56, 2) := by decide +kernel
theorem dX12_dropOldest_103 : decode cX12_dropOldest 103 = .ok (.istore_n 1, 1) := by decide +kernel
theorem dX12_dropOldest_104 : decode cX12_dropOldest 104 = .ok (.iload_n 1, 1) := by decide +kernel
theorem dX12_dropOldest_105 : decode cX12_dropOldest 105 = .ok (.sipush 672, 3) := by decide +kernel
theorem dX12_dropOldest_108 : decode cX12_dropOldest 108 = .ok (.if_icmp .ge 24, 3) := by decide +kernel
theorem dX12_dropOldest_111 : decode cX12_dropOldest 111 = .ok (.aload_n 0, 1) := by decide +kernel
theorem dX12_dropOldest_112 : decode cX12_dropOldest 112 = .ok (.getfield 47, 3) := by decide +kernel
theorem dX12_dropOldest_115 : decode cX12_dropOldest 115 = .ok (.iload_n 1, 1) := by decide +kernel
theorem dX12_dropOldest_116 : decode cX12_dropOldest 116 = .ok (.bipush 56, 2) := by decide +kernel
theorem dX12_dropOldest_118 : decode cX12_dropOldest 118 = .ok (.isub, 1) := by decide +kernel
theorem dX12_dropOldest_119 : decode cX12_dropOldest 119 = .ok (.aload_n 0, 1) := by decide +kernel
theorem dX12_dropOldest_120 : decode cX12_dropOldest 120 = .ok (.getfield 47, 3) := by decide +kernel
theorem dX12_dropOldest_123 : decode cX12_dropOldest 123 = .ok (.iload_n 1, 1) := by decide +kernel
theorem dX12_dropOldest_124 : decode cX12_dropOldest 124 = .ok (.iaload, 1) := by decide +kernel
theorem dX12_dropOldest_125 : decode cX12_dropOldest 125 = .ok (.iastore, 1) := by decide +kernel
theorem dX12_dropOldest_126 : decode cX12_dropOldest 126 = .ok (.iinc 1 1, 3) := by decide +kernel
theorem dX12_dropOldest_129 : decode cX12_dropOldest 129 = .ok (.goto (-25), 3) := by decide +kernel
theorem dX12_dropOldest_132 : decode cX12_dropOldest 132 = .ok (.aload_n 0, 1) := by decide +kernel
theorem dX12_dropOldest_133 : decode cX12_dropOldest 133 = .ok (.dup, 1) := by decide +kernel
theorem dX12_dropOldest_134 : decode cX12_dropOldest 134 = .ok (.getfield 111, 3) := by decide +kernel
theorem dX12_dropOldest_137 : decode cX12_dropOldest 137 = .ok (.iconst 1, 1) := by decide +kernel
theorem dX12_dropOldest_138 : decode cX12_dropOldest 138 = .ok (.isub, 1) := by decide +kernel
theorem dX12_dropOldest_139 : decode cX12_dropOldest 139 = .ok (.putfield 111, 3) := by decide +kernel
theorem dX12_dropOldest_142 : decode cX12_dropOldest 142 = .ok (.return_, 1) := by decide +kernel
theorem dX12_keep_0 : decode cX12_keep 0 = .ok (.aload_n 0, 1) := by decide +kernel
theorem dX12_keep_1 : decode cX12_keep 1 = .ok (.getfield 111, 3) := by decide +kernel
theorem dX12_keep_4 : decode cX12_keep 4 = .ok (.bipush 12, 2) := by decide +kernel
theorem dX12_keep_6 : decode cX12_keep 6 = .ok (.if_icmp .ne 7, 3) := by decide +kernel
theorem dX12_keep_9 : decode cX12_keep 9 = .ok (.aload_n 0, 1) := by decide +kernel
theorem dX12_keep_10 : decode cX12_keep 10 = .ok (.invokevirtual 138, 3) := by decide +kernel
theorem dX12_keep_13 : decode cX12_keep 13 = .ok (.aload_n 0, 1) := by decide +kernel
theorem dX12_keep_14 : decode cX12_keep 14 = .ok (.getfield 32, 3) := by decide +kernel
theorem dX12_keep_17 : decode cX12_keep 17 = .ok (.aload_n 0, 1) := by decide +kernel
theorem dX12_keep_18 : decode cX12_keep 18 = .ok (.getfield 111, 3) := by decide +kernel
theorem dX12_keep_21 : decode cX12_keep 21 = .ok (.aload_n 0, 1) := by decide +kernel
theorem dX12_keep_22 : decode cX12_keep 22 = .ok (.getfield 102, 3) := by decide +kernel
theorem dX12_keep_25 : decode cX12_keep 25 = .ok (.iastore, 1) := by decide +kernel
theorem dX12_keep_26 : decode cX12_keep 26 = .ok (.aload_n 0, 1) := by decide +kernel
theorem dX12_keep_27 : decode cX12_keep 27 = .ok (.getfield 38, 3) := by decide +kernel
theorem dX12_keep_30 : decode cX12_keep 30 = .ok (.aload_n 0, 1) := by decide +kernel
theorem dX12_keep_31 : decode cX12_keep 31 = .ok (.getfield 111, 3) := by decide +kernel
theorem dX12_keep_34 : decode cX12_keep 34 = .ok (.aload_n 0, 1) := by decide +kernel
theorem dX12_keep_35 : decode cX12_keep 35 = .ok (.getfield 25, 3) := by decide +kernel
theorem dX12_keep_38 : decode cX12_keep 38 = .ok (.iastore, 1) := by decide +kernel
theorem dX12_keep_39 : decode cX12_keep 39 = .ok (.aload_n 0, 1) := by decide +kernel
theorem dX12_keep_40 : decode cX12_keep 40 = .ok (.getfield 41, 3) := by decide +kernel
theorem dX12_keep_43 : decode cX12_keep 43 = .ok (.aload_n 0, 1) := by decide +kernel
theorem dX12_keep_44 : decode cX12_keep 44 = .ok (.getfield 111, 3) := by decide +kernel
theorem dX12_keep_47 : decode cX12_keep 47 = .ok (.aload_n 0, 1) := by decide +kernel
theorem dX12_keep_48 : decode cX12_keep 48 = .ok (.getfield 105, 3) := by decide +kernel
theorem dX12_keep_51 : decode cX12_keep 51 = .ok (.iastore, 1) := by decide +kernel
theorem dX12_keep_52 : decode cX12_keep 52 = .ok (.aload_n 0, 1) := by decide +kernel
theorem dX12_keep_53 : decode cX12_keep 53 = .ok (.getfield 44, 3) := by decide +kernel
theorem dX12_keep_56 : decode cX12_keep 56 = .ok (.aload_n 0, 1) := by decide +kernel
theorem dX12_keep_57 : decode cX12_keep 57 = .ok (.getfield 111, 3) := by decide +kernel
theorem dX12_keep_60 : decode cX12_keep 60 = .ok (.aload_n 0, 1) := by decide +kernel
theorem dX12_keep_61 : decode cX12_keep 61 = .ok (.getfield 108, 3) := by decide +kernel
theorem dX12_keep_64 : decode cX12_keep 64 = .ok (.iastore, 1) := by decide +kernel
theorem dX12_keep_65 : decode cX12_keep 65 = .ok (.iconst 0, 1) := by decide +kernel
theorem dX12_keep_66 : decode cX12_keep 66 = .ok (.istore_n 1, 1) := by decide +kernel
theorem dX12_keep_67 : decode cX12_keep 67 = .ok (.iload_n 1, 1) := by decide +kernel
theorem dX12_keep_68 : decode cX12_keep 68 = .ok (.aload_n 0, 1) := by decide +kernel
theorem dX12_keep_69 : decode cX12_keep 69 = .ok (.getfield 102, 3) := by decide +kernel
theorem dX12_keep_72 : decode cX12_keep 72 = .ok (.if_icmp .ge 28, 3) := by decide +kernel
theorem dX12_keep_75 : decode cX12_keep 75 = .ok (.aload_n 0, 1) := by decide +kernel
theorem dX12_keep_76 : decode cX12_keep 76 = .ok (.getfield 35, 3) := by decide +kernel
theorem dX12_keep_79 : decode cX12_keep 79 = .ok (.bipush 48, 2) := by decide +kernel
theorem dX12_keep_81 : decode cX12_keep 81 = .ok (.aload_n 0, 1) := by decide +kernel
theorem dX12_keep_82 : decode cX12_keep 82 = .ok (.getfield 111, 3) := by decide +kernel
theorem dX12_keep_85 : decode cX12_keep 85 = .ok (.imul, 1) := by decide +kernel
theorem dX12_keep_86 : decode cX12_keep 86 = .ok (.iload_n 1, 1) := by decide +kernel
theorem dX12_keep_87 : decode cX12_keep 87 = .ok (.iadd, 1) := by decide +kernel
theorem dX12_keep_88 : decode cX12_keep 88 = .ok (.aload_n 0, 1) := by decide +kernel
theorem dX12_keep_89 : decode cX12_keep 89 = .ok (.iload_n 1, 1) := by decide +kernel
theorem dX12_keep_90 : decode cX12_keep 90 = .ok (.invokevirtual 141, 3) := by decide +kernel
theorem dX12_keep_93 : decode cX12_keep 93 = .ok (.iastore, 1) := by decide +kernel
theorem dX12_keep_94 : decode cX12_keep 94 = .ok (.iinc 1 1, 3) := by decide +kernel
theorem dX12_keep_97 : decode cX12_keep 97 = .ok (.goto (-30), 3) := by decide +kernel
theorem dX12_keep_100 : decode cX12_keep 100 = .ok (.iconst 0, 1) := by decide +kernel
theorem dX12_keep_101 : decode cX12_keep 101 = .ok (.istore_n 1, 1) := by decide +kernel
theorem dX12_keep_102 : decode cX12_keep 102 = .ok (.iload_n 1, 1) := by decide +kernel
