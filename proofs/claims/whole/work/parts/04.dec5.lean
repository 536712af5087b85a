theorem dX12_digest_113 : decode cX12_digest 113 = .ok (.if_icmp .ge 37, 3) := by decide +kernel
theorem dX12_digest_116 : decode cX12_digest 116 = .ok (.aload_n 0, 1) := by decide +kernel
theorem dX12_digest_117 : decode cX12_digest 117 = .ok (.aload_n 0, 1) := by decide +kernel
theorem dX12_digest_118 : decode cX12_digest 118 = .ok (.getfield 29, 3) := by decide +kernel
theorem dX12_digest_121 : decode cX12_digest 121 = .ok (.iload_n 1, 1) := by decide +kernel
theorem dX12_digest_122 : decode cX12_digest 122 = .ok (.iaload, 1) := by decide +kernel
theorem dX12_digest_123 : decode cX12_digest 123 = .ok (.bipush 10, 2) := by decide +kernel
theorem dX12_digest_125 : decode cX12_digest 125 = .ok (.idiv, 1) := by decide +kernel
theorem dX12_digest_126 : decode cX12_digest 126 = .ok (.i2l, 1) := by decide +kernel
theorem dX12_digest_127 : decode cX12_digest 127 = .ok (.invokevirtual 375, 3) := by decide +kernel
theorem dX12_digest_130 : decode cX12_digest 130 = .ok (.aload_n 0, 1) := by decide +kernel
theorem dX12_digest_131 : decode cX12_digest 131 = .ok (.aload_n 0, 1) := by decide +kernel
theorem dX12_digest_132 : decode cX12_digest 132 = .ok (.getfield 29, 3) := by decide +kernel
theorem dX12_digest_135 : decode cX12_digest 135 = .ok (.iload_n 1, 1) := by decide +kernel
theorem dX12_digest_136 : decode cX12_digest 136 = .ok (.iaload, 1) := by decide +kernel
theorem dX12_digest_137 : decode cX12_digest 137 = .ok (.bipush 10, 2) := by decide +kernel
theorem dX12_digest_139 : decode cX12_digest 139 = .ok (.irem, 1) := by decide +kernel
theorem dX12_digest_140 : decode cX12_digest 140 = .ok (.i2l, 1) := by decide +kernel
theorem dX12_digest_141 : decode cX12_digest 141 = .ok (.invokevirtual 375, 3) := by decide +kernel
theorem dX12_digest_144 : decode cX12_digest 144 = .ok (.iinc 1 1, 3) := by decide +kernel
theorem dX12_digest_147 : decode cX12_digest 147 = .ok (.goto (-39), 3) := by decide +kernel
theorem dX12_digest_150 : decode cX12_digest 150 = .ok (.aload_n 0, 1) := by decide +kernel
theorem dX12_digest_151 : decode cX12_digest 151 = .ok (.invokevirtual 383, 3) := by decide +kernel
theorem dX12_digest_154 : decode cX12_digest 154 = .ok (.aload_n 0, 1) := by decide +kernel
theorem dX12_digest_155 : decode cX12_digest 155 = .ok (.aload_n 0, 1) := by decide +kernel
theorem dX12_digest_156 : decode cX12_digest 156 = .ok (.invokevirtual 330, 3) := by decide +kernel
theorem dX12_digest_159 : decode cX12_digest 159 = .ok (.invokevirtual 375, 3) := by decide +kernel
theorem dX12_digest_162 : decode cX12_digest 162 = .ok (.aload_n 0, 1) := by decide +kernel
theorem dX12_digest_163 : decode cX12_digest 163 = .ok (.aload_n 0, 1) := by decide +kernel
theorem dX12_digest_164 : decode cX12_digest 164 = .ok (.bipush 50, 2) := by decide +kernel
theorem dX12_digest_166 : decode cX12_digest 166 = .ok (.invokevirtual 346, 3) := by decide +kernel
theorem dX12_digest_169 : decode cX12_digest 169 = .ok (.i2l, 1) := by decide +kernel
theorem dX12_digest_170 : decode cX12_digest 170 = .ok (.invokevirtual 375, 3) := by decide +kernel
theorem dX12_digest_173 : decode cX12_digest 173 = .ok (.aload_n 0, 1) := by decide +kernel
theorem dX12_digest_174 : decode cX12_digest 174 = .ok (.aload_n 0, 1) := by decide +kernel
theorem dX12_digest_175 : decode cX12_digest 175 = .ok (.getfield 160, 3) := by decide +kernel
theorem dX12_digest_178 : decode cX12_digest 178 = .ok (.i2l, 1) := by decide +kernel
theorem dX12_digest_179 : decode cX12_digest 179 = .ok (.invokevirtual 375, 3) := by decide +kernel
theorem dX12_digest_182 : decode cX12_digest 182 = .ok (.iconst 0, 1) := by decide +kernel
theorem dX12_digest_183 : decode cX12_digest 183 = .ok (.istore_n 1, 1) := by decide +kernel
theorem dX12_digest_184 : decode cX12_digest 184 = .ok (.iload_n 1, 1) := by decide +kernel
theorem dX12_digest_185 : decode cX12_digest 185 = .ok (.aload_n 0, 1) := by decide +kernel
theorem dX12_digest_186 : decode cX12_digest 186 = .ok (.getfield 160, 3) := by decide +kernel
theorem dX12_digest_189 : decode cX12_digest 189 = .ok (.if_icmp .ge 20, 3) := by decide +kernel
theorem dX12_digest_192 : decode cX12_digest 192 = .ok (.aload_n 0, 1) := by decide +kernel
theorem dX12_digest_193 : decode cX12_digest 193 = .ok (.aload_n 0, 1) := by decide +kernel
theorem dX12_digest_194 : decode cX12_digest 194 = .ok (.getfield 50, 3) := by decide +kernel
theorem dX12_digest_197 : decode cX12_digest 197 = .ok (.iload_n 1, 1) := by decide +kernel
theorem dX12_digest_198 : decode cX12_digest 198 = .ok (.iaload, 1) := by decide +kernel
theorem dX12_digest_199 : decode cX12_digest 199 = .ok (.i2l, 1) := by decide +kernel
theorem dX12_digest_200 : decode cX12_digest 200 = .ok (.invokevirtual 375, 3) := by decide +kernel
theorem dX12_digest_203 : decode cX12_digest 203 = .ok (.iinc 1 1, 3) := by decide +kernel
theorem dX12_digest_206 : decode cX12_digest 206 = .ok (.goto (-22), 3) := by decide +kernel
theorem dX12_digest_209 : decode cX12_digest 209 = .ok (.aload_n 0, 1) := by decide +kernel
theorem dX12_digest_210 : decode cX12_digest 210 = .ok (.getfield 372, 3) := by decide +kernel
theorem dX12_digest_213 : decode cX12_digest 213 = .ok (.lreturn, 1) := by decide +kernel
theorem dJ6_numberOfTrailingZeros_0f7a4_0 : decode cJ6_numberOfTrailingZeros_0f7a4 0 = .ok (.iload_n 0, 1) := by decide +kernel
theorem dJ6_numberOfTrailingZeros_0f7a4_1 : decode cJ6_numberOfTrailingZeros_0f7a4 1 = .ok (.iconst (-1), 1) := by decide +kernel
theorem dJ6_numberOfTrailingZeros_0f7a4_2 : decode cJ6_numberOfTrailingZeros_0f7a4 2 = .ok (.ixor, 1) := by decide +kernel
theorem dJ6_numberOfTrailingZeros_0f7a4_3 : decode cJ6_numberOfTrailingZeros_0f7a4 3 = .ok (.iload_n 0, 1) := by decide +kernel
theorem dJ6_numberOfTrailingZeros_0f7a4_4 : decode cJ6_numberOfTrailingZeros_0f7a4 4 = .ok (.iconst 1, 1) := by decide +kernel
theorem dJ6_numberOfTrailingZeros_0f7a4_5 : decode cJ6_numberOfTrailingZeros_0f7a4 5 = .ok (.isub, 1) := by decide +kernel
theorem dJ6_numberOfTrailingZeros_0f7a4_6 : decode cJ6_numberOfTrailingZeros_0f7a4 6 = .ok (.iand, 1) := by decide +kernel
theorem dJ6_numberOfTrailingZeros_0f7a4_7 : decode cJ6_numberOfTrailingZeros_0f7a4 7 = .ok (.istore_n 0, 1) := by decide +kernel
theorem dJ6_numberOfTrailingZeros_0f7a4_8 : decode cJ6_numberOfTrailingZeros_0f7a4 8 = .ok (.iload_n 0, 1) := by decide +kernel
theorem dJ6_numberOfTrailingZeros_0f7a4_9 : decode cJ6_numberOfTrailingZeros_0f7a4 9 = .ok (.ifCond .gt 8, 3) := by decide +kernel
theorem dJ6_numberOfTrailingZeros_0f7a4_12 : decode cJ6_numberOfTrailingZeros_0f7a4 12 = .ok (.iload_n 0, 1) := by decide +kernel
theorem dJ6_numberOfTrailingZeros_0f7a4_13 : decode cJ6_numberOfTrailingZeros_0f7a4 13 = .ok (.bipush 32, 2) := by decide +kernel
theorem dJ6_numberOfTrailingZeros_0f7a4_15 : decode cJ6_numberOfTrailingZeros_0f7a4 15 = .ok (.iand, 1) := by decide +kernel
theorem dJ6_numberOfTrailingZeros_0f7a4_16 : decode cJ6_numberOfTrailingZeros_0f7a4 16 = .ok (.ireturn, 1) := by decide +kernel
theorem dJ6_numberOfTrailingZeros_0f7a4_17 : decode cJ6_numberOfTrailingZeros_0f7a4 17 = .ok (.iconst 1, 1) := by decide +kernel
theorem dJ6_numberOfTrailingZeros_0f7a4_18 : decode cJ6_numberOfTrailingZeros_0f7a4 18 = .ok (.istore_n 1, 1) := by decide +kernel
theorem dJ6_numberOfTrailingZeros_0f7a4_19 : decode cJ6_numberOfTrailingZeros_0f7a4 19 = .ok (.iload_n 0, 1) := by decide +kernel
theorem dJ6_numberOfTrailingZeros_0f7a4_20 : decode cJ6_numberOfTrailingZeros_0f7a4 20 = .ok (.ldc_w 264, 3) := by decide +kernel
theorem dJ6_numberOfTrailingZeros_0f7a4_23 : decode cJ6_numberOfTrailingZeros_0f7a4 23 = .ok (.if_icmp .le 11, 3) := by decide +kernel
theorem dJ6_numberOfTrailingZeros_0f7a4_26 : decode cJ6_numberOfTrailingZeros_0f7a4 26 = .ok (.iinc 1 16, 3) := by decide +kernel
theorem dJ6_numberOfTrailingZeros_0f7a4_29 : decode cJ6_numberOfTrailingZeros_0f7a4 29 = .ok (.iload_n 0, 1) := by decide +kernel
theorem dJ6_numberOfTrailingZeros_0f7a4_30 : decode cJ6_numberOfTrailingZeros_0f7a4 30 = .ok (.bipush 16, 2) := by decide +kernel
theorem dJ6_numberOfTrailingZeros_0f7a4_32 : decode cJ6_numberOfTrailingZeros_0f7a4 32 = .ok (.iushr, 1) := by decide +kernel
theorem dJ6_numberOfTrailingZeros_0f7a4_33 : decode cJ6_numberOfTrailingZeros_0f7a4 33 = .ok (.istore_n 0, 1) := by decide +kernel
theorem dJ6_numberOfTrailingZeros_0f7a4_34 : decode cJ6_numberOfTrailingZeros_0f7a4 34 = .ok (.iload_n 0, 1) := by decide +kernel
theorem dJ6_numberOfTrailingZeros_0f7a4_35 : decode cJ6_numberOfTrailingZeros_0f7a4 35 = .ok (.sipush 256, 3) := by decide +kernel
theorem dJ6_numberOfTrailingZeros_0f7a4_38 : decode cJ6_numberOfTrailingZeros_0f7a4 38 = .ok (.if_icmp .le 11, 3) := by decide +kernel
theorem dJ6_numberOfTrailingZeros_0f7a4_41 : decode cJ6_numberOfTrailingZeros_0f7a4 41 = .ok (.iinc 1 8, 3) := by decide +kernel
theorem dJ6_numberOfTrailingZeros_0f7a4_44 : decode cJ6_numberOfTrailingZeros_0f7a4 44 = .ok (.iload_n 0, 1) := by decide +kernel
theorem dJ6_numberOfTrailingZeros_0f7a4_45 : decode cJ6_numberOfTrailingZeros_0f7a4 45 = .ok (.bipush 8, 2) := by decide +kernel
theorem dJ6_numberOfTrailingZeros_0f7a4_47 : decode cJ6_numberOfTrailingZeros_0f7a4 47 = .ok (.iushr, 1) := by decide +kernel
theorem dJ6_numberOfTrailingZeros_0f7a4_48 : decode cJ6_numberOfTrailingZeros_0f7a4 48 = .ok (.istore_n 0, 1) := by decide +kernel
theorem dJ6_numberOfTrailingZeros_0f7a4_49 : decode cJ6_numberOfTrailingZeros_0f7a4 49 = .ok (.iload_n 0, 1) := by decide +kernel
theorem dJ6_numberOfTrailingZeros_0f7a4_50 : decode cJ6_numberOfTrailingZeros_0f7a4 50 = .ok (.bipush 16, 2) := by decide +kernel
theorem dJ6_numberOfTrailingZeros_0f7a4_52 : decode cJ6_numberOfTrailingZeros_0f7a4 52 = .ok (.if_icmp .le 10, 3) := by decide +kernel
theorem dJ6_numberOfTrailingZeros_0f7a4_55 : decode cJ6_numberOfTrailingZeros_0f7a4 55 = .ok (.iinc 1 4, 3) := by decide +kernel
theorem dJ6_numberOfTrailingZeros_0f7a4_58 : decode cJ6_numberOfTrailingZeros_0f7a4 58 = .ok (.iload_n 0, 1) := by decide +kernel
theorem dJ6_numberOfTrailingZeros_0f7a4_59 : decode cJ6_numberOfTrailingZeros_0f7a4 59 = .ok (.iconst 4, 1) := by decide +kernel
theorem dJ6_numberOfTrailingZeros_0f7a4_60 : decode cJ6_numberOfTrailingZeros_0f7a4 60 = .ok (.iushr, 1) := by decide +kernel
theorem dJ6_numberOfTrailingZeros_0f7a4_61 : decode cJ6_numberOfTrailingZeros_0f7a4 61 = .ok (.istore_n 0, 1) := by decide +kernel
theorem dJ6_numberOfTrailingZeros_0f7a4_62 : decode cJ6_numberOfTrailingZeros_0f7a4 62 = .ok (.iload_n 0, 1) := by decide +kernel
theorem dJ6_numberOfTrailingZeros_0f7a4_63 : decode cJ6_numberOfTrailingZeros_0f7a4 63 = .ok (.iconst 4, 1) := by decide +kernel
theorem dJ6_numberOfTrailingZeros_0f7a4_64 : decode cJ6_numberOfTrailingZeros_0f7a4 64 = .ok (.if_icmp .le 10, 3) := by decide +kernel
theorem dJ6_numberOfTrailingZeros_0f7a4_67 : decode cJ6_numberOfTrailingZeros_0f7a4 67 = .ok (.iinc 1 2, 3) := by decide +kernel
theorem dJ6_numberOfTrailingZeros_0f7a4_70 : decode cJ6_numberOfTrailingZeros_0f7a4 70 = .ok (.iload_n 0, 1) := by decide +kernel
theorem dJ6_numberOfTrailingZeros_0f7a4_71 : decode cJ6_numberOfTrailingZeros_0f7a4 71 = .ok (.iconst 2, 1) := by decide +kernel
theorem dJ6_numberOfTrailingZeros_0f7a4_72 : decode cJ6_numberOfTrailingZeros_0f7a4 72 = .ok (.iushr, 1) := by decide +kernel
theorem dJ6_numberOfTrailingZeros_0f7a4_73 : decode cJ6_numberOfTrailingZeros_0f7a4 73 = .ok (.istore_n 0, 1) := by decide +kernel
theorem dJ6_numberOfTrailingZeros_0f7a4_74 : decode cJ6_numberOfTrailingZeros_0f7a4 74 = .ok (.iload_n 1, 1) := by decide +kernel
theorem dJ6_numberOfTrailingZeros_0f7a4_75 : decode cJ6_numberOfTrailingZeros_0f7a4 75 = .ok (.iload_n 0, 1) := by decide +kernel
theorem dJ6_numberOfTrailingZeros_0f7a4_76 : decode cJ6_numberOfTrailingZeros_0f7a4 76 = .ok (.iconst 1, 1) := by decide +kernel
theorem dJ6_numberOfTrailingZeros_0f7a4_77 : decode cJ6_numberOfTrailingZeros_0f7a4 77 = .ok (.iushr, 1) := by decide +kernel
theorem dJ6_numberOfTrailingZeros_0f7a4_78 : decode cJ6_numberOfTrailingZeros_0f7a4 78 = .ok (.iadd, 1) := by decide +kernel
theorem dJ6_numberOfTrailingZeros_0f7a4_79 : decode cJ6_numberOfTrailingZeros_0f7a4 79 = .ok (.ireturn, 1) := by decide +kernel
theorem dJ6_bitCount_0f7a4_0 : decode cJ6_bitCount_0f7a4 0 = .ok (.iload_n 0, 1) := by decide +kernel
theorem dJ6_bitCount_0f7a4_1 : decode cJ6_bitCount_0f7a4 1 = .ok (.iload_n 0, 1) := by decide +kernel
theorem dJ6_bitCount_0f7a4_2 : decode cJ6_bitCount_0f7a4 2 = .ok (.iconst 1, 1) := by decide +kernel
theorem dJ6_bitCount_0f7a4_3 : decode cJ6_bitCount_0f7a4 3 = .ok (.iushr, 1) := by decide +kernel
theorem dJ6_bitCount_0f7a4_4 : decode cJ6_bitCount_0f7a4 4 = .ok (.ldc_w 265, 3) := by decide +kernel
theorem dJ6_bitCount_0f7a4_7 : decode cJ6_bitCount_0f7a4 7 = .ok (.iand, 1) := by decide +kernel
theorem dJ6_bitCount_0f7a4_8 : decode cJ6_bitCount_0f7a4 8 = .ok (.isub, 1) := by decide +kernel
theorem dJ6_bitCount_0f7a4_9 : decode cJ6_bitCount_0f7a4 9 = .ok (.istore_n 0, 1) := by decide +kernel
theorem dJ6_bitCount_0f7a4_10 : decode cJ6_bitCount_0f7a4 10 = .ok (.iload_n 0, 1) := by decide +kernel
theorem dJ6_bitCount_0f7a4_11 : decode cJ6_bitCount_0f7a4 11 = .ok (.ldc_w 266, 3) := by decide +kernel
theorem dJ6_bitCount_0f7a4_14 : decode cJ6_bitCount_0f7a4 14 = .ok (.iand, 1) := by decide +kernel
theorem dJ6_bitCount_0f7a4_15 : decode cJ6_bitCount_0f7a4 15 = .ok (.iload_n 0, 1) := by decide +kernel
theorem dJ6_bitCount_0f7a4_16 : decode cJ6_bitCount_0f7a4 16 = .ok (.iconst 2, 1) := by decide +kernel
theorem dJ6_bitCount_0f7a4_17 : decode cJ6_bitCount_0f7a4 17 = .ok (.iushr, 1) := by decide +kernel
theorem dJ6_bitCount_0f7a4_18 : decode cJ6_bitCount_0f7a4 18 = .ok (.ldc_w 266, 3) := by decide +kernel
theorem dJ6_bitCount_0f7a4_21 : decode cJ6_bitCount_0f7a4 21 = .ok (.iand, 1) := by decide +kernel
theorem dJ6_bitCount_0f7a4_22 : decode cJ6_bitCount_0f7a4 22 = .ok (.iadd, 1) := by decide +kernel
theorem dJ6_bitCount_0f7a4_23 : decode cJ6_bitCount_0f7a4 23 = .ok (.istore_n 0, 1) := by decide +kernel
theorem dJ6_bitCount_0f7a4_24 : decode cJ6_bitCount_0f7a4 24 = .ok (.iload_n 0, 1) := by decide +kernel
theorem dJ6_bitCount_0f7a4_25 : decode cJ6_bitCount_0f7a4 25 = .ok (.iload_n 0, 1) := by decide +kernel
theorem dJ6_bitCount_0f7a4_26 : decode cJ6_bitCount_0f7a4 26 = .ok (.iconst 4, 1) := by decide +kernel
theorem dJ6_bitCount_0f7a4_27 : decode cJ6_bitCount_0f7a4 27 = .ok (.iushr, 1) := by decide +kernel
theorem dJ6_bitCount_0f7a4_28 : decode cJ6_bitCount_0f7a4 28 = .ok (.iadd, 1) := by decide +kernel
theorem dJ6_bitCount_0f7a4_29 : decode cJ6_bitCount_0f7a4 29 = .ok (.ldc_w 267, 3) := by decide +kernel
theorem dJ6_bitCount_0f7a4_32 : decode cJ6_bitCount_0f7a4 32 = .ok (.iand, 1) := by decide +kernel
theorem dJ6_bitCount_0f7a4_33 : decode cJ6_bitCount_0f7a4 33 = .ok (.istore_n 0, 1) := by decide +kernel
theorem dJ6_bitCount_0f7a4_34 : decode cJ6_bitCount_0f7a4 34 = .ok (.iload_n 0, 1) := by decide +kernel
theorem dJ6_bitCount_0f7a4_35 : decode cJ6_bitCount_0f7a4 35 = .ok (.iload_n 0, 1) := by decide +kernel
theorem dJ6_bitCount_0f7a4_36 : decode cJ6_bitCount_0f7a4 36 = .ok (.bipush 8, 2) := by decide +kernel
theorem dJ6_bitCount_0f7a4_38 : decode cJ6_bitCount_0f7a4 38 = .ok (.iushr, 1) := by decide +kernel
theorem dJ6_bitCount_0f7a4_39 : decode cJ6_bitCount_0f7a4 39 = .ok (.iadd, 1) := by decide +kernel
theorem dJ6_bitCount_0f7a4_40 : decode cJ6_bitCount_0f7a4 40 = .ok (.istore_n 0, 1) := by decide +kernel
theorem dJ6_bitCount_0f7a4_41 : decode cJ6_bitCount_0f7a4 41 = .ok (.iload_n 0, 1) := by decide +kernel
theorem dJ6_bitCount_0f7a4_42 : decode cJ6_bitCount_0f7a4 42 = .ok (.iload_n 0, 1) := by decide +kernel
theorem dJ6_bitCount_0f7a4_43 : decode cJ6_bitCount_0f7a4 43 = .ok (.bipush 16, 2) := by decide +kernel
theorem dJ6_bitCount_0f7a4_45 : decode cJ6_bitCount_0f7a4 45 = .ok (.iushr, 1) := by decide +kernel
theorem dJ6_bitCount_0f7a4_46 : decode cJ6_bitCount_0f7a4 46 = .ok (.iadd, 1) := by decide +kernel
theorem dJ6_bitCount_0f7a4_47 : decode cJ6_bitCount_0f7a4 47 = .ok (.istore_n 0, 1) := by decide +kernel
theorem dJ6_bitCount_0f7a4_48 : decode cJ6_bitCount_0f7a4 48 = .ok (.iload_n 0, 1) := by decide +kernel
theorem dJ6_bitCount_0f7a4_49 : decode cJ6_bitCount_0f7a4 49 = .ok (.bipush 63, 2) := by decide +kernel
theorem dJ6_bitCount_0f7a4_51 : decode cJ6_bitCount_0f7a4 51 = .ok (.iand, 1) := by decide +kernel
theorem dJ6_bitCount_0f7a4_52 : decode cJ6_bitCount_0f7a4 52 = .ok (.ireturn, 1) := by decide +kernel
theorem dJ9_max_7cf53_0 : decode cJ9_max_7cf53 0 = .ok (.iload_n 0, 1) := by decide +kernel
theorem dJ9_max_7cf53_1 : decode cJ9_max_7cf53 1 = .ok (.iload_n 1, 1) := by decide +kernel
theorem dJ9_max_7cf53_2 : decode cJ9_max_7cf53 2 = .ok (.if_icmp .lt 7, 3) := by decide +kernel
theorem dJ9_max_7cf53_5 : decode cJ9_max_7cf53 5 = .ok (.iload_n 0, 1) := by decide +kernel
theorem dJ9_max_7cf53_6 : decode cJ9_max_7cf53 6 = .ok (.goto 4, 3) := by decide +kernel
theorem dJ9_max_7cf53_9 : decode cJ9_max_7cf53 9 = .ok (.iload_n 1, 1) := by decide +kernel
theorem dJ9_max_7cf53_10 : decode cJ9_max_7cf53 10 = .ok (.ireturn, 1) := by decide +kernel
theorem dJ9_min_7cf53_0 : decode cJ9_min_7cf53 0 = .ok (.iload_n 0, 1) := by decide +kernel
theorem dJ9_min_7cf53_1 : decode cJ9_min_7cf53 1 = .ok (.iload_n 1, 1) := by decide +kernel
theorem dJ9_min_7cf53_2 : decode cJ9_min_7cf53 2 = .ok (.if_icmp .gt 7, 3) := by decide +kernel
theorem dJ9_min_7cf53_5 : decode cJ9_min_7cf53 5 = .ok (.iload_n 0, 1) := by decide +kernel
theorem dJ9_min_7cf53_6 : decode cJ9_min_7cf53 6 = .ok (.goto 4, 3) := by decide +kernel
theorem dJ9_min_7cf53_9 : decode cJ9_min_7cf53 9 = .ok (.iload_n 1, 1) := by decide +kernel
theorem dJ9_min_7cf53_10 : decode cJ9_min_7cf53 10 = .ok (.ireturn, 1) := by decide +kernel
theorem dJ9_min_f86c9_0 : decode cJ9_min_f86c9 0 = .ok (.lload_n 0, 1) := by decide +kernel
theorem dJ9_min_f86c9_1 : decode cJ9_min_f86c9 1 = .ok (.lload_n 2, 1) := by decide +kernel
theorem dJ9_min_f86c9_2 : decode cJ9_min_f86c9 2 = .ok (.lcmp, 1) := by decide +kernel
theorem dJ9_min_f86c9_3 : decode cJ9_min_f86c9 3 = .ok (.ifCond .gt 7, 3) := by decide +kernel
theorem dJ9_min_f86c9_6 : decode cJ9_min_f86c9 6 = .ok (.lload_n 0, 1) := by decide +kernel
theorem dJ9_min_f86c9_7 : decode cJ9_min_f86c9 7 = .ok (.goto 4, 3) := by decide +kernel
theorem dJ9_min_f86c9_10 : decode cJ9_min_f86c9 10 = .ok (.lload_n 2, 1) := by decide +kernel
theorem dJ9_min_f86c9_11 : decode cJ9_min_f86c9 11 = .ok (.lreturn, 1) := by decide +kernel
theorem dJ7_fill_53178_0 : decode cJ7_fill_53178 0 = .ok (.iconst 0, 1) := by decide +kernel
theorem dJ7_fill_53178_1 : decode cJ7_fill_53178 1 = .ok (.istore_n 2, 1) := by decide +kernel
theorem dJ7_fill_53178_2 : decode cJ7_fill_53178 2 = .ok (.aload_n 0, 1) := by decide +kernel
theorem dJ7_fill_53178_3 : decode cJ7_fill_53178 3 = .ok (.arraylength, 1) := by decide +kernel
theorem dJ7_fill_53178_4 : decode cJ7_fill_53178 4 = .ok (.istore_n 3, 1) := by decide +kernel
theorem dJ7_fill_53178_5 : decode cJ7_fill_53178 5 = .ok (.iload_n 2, 1) := by decide +kernel
theorem dJ7_fill_53178_6 : decode cJ7_fill_53178 6 = .ok (.iload_n 3, 1) := by decide +kernel
theorem dJ7_fill_53178_7 : decode cJ7_fill_53178 7 = .ok (.if_icmp .ge 13, 3) := by decide +kernel
theorem dJ7_fill_53178_10 : decode cJ7_fill_53178 10 = .ok (.aload_n 0, 1) := by decide +kernel
theorem dJ7_fill_53178_11 : decode cJ7_fill_53178 11 = .ok (.iload_n 2, 1) := by decide +kernel
theorem dJ7_fill_53178_12 : decode cJ7_fill_53178 12 = .ok (.iload_n 1, 1) := by decide +kernel
theorem dJ7_fill_53178_13 : decode cJ7_fill_53178 13 = .ok (.iastore, 1) := by decide +kernel
theorem dJ7_fill_53178_14 : decode cJ7_fill_53178 14 = .ok (.iinc 2 1, 3) := by decide +kernel
theorem dJ7_fill_53178_17 : decode cJ7_fill_53178 17 = .ok (.goto (-12), 3) := by decide +kernel
theorem dJ7_fill_53178_20 : decode cJ7_fill_53178 20 = .ok (.return_, 1) := by decide +kernel
theorem dJ7_fill_7f8df_0 : decode cJ7_fill_7f8df 0 = .ok (.iconst 0, 1) := by decide +kernel
theorem dJ7_fill_7f8df_1 : decode cJ7_fill_7f8df 1 = .ok (.istore_n 3, 1) := by decide +kernel
theorem dJ7_fill_7f8df_2 : decode cJ7_fill_7f8df 2 = .ok (.aload_n 0, 1) := by decide +kernel
theorem dJ7_fill_7f8df_3 : decode cJ7_fill_7f8df 3 = .ok (.arraylength, 1) := by decide +kernel
theorem dJ7_fill_7f8df_4 : decode cJ7_fill_7f8df 4 = .ok (.istore 4, 2) := by decide +kernel
theorem dJ7_fill_7f8df_6 : decode cJ7_fill_7f8df 6 = .ok (.iload_n 3, 1) := by decide +kernel
theorem dJ7_fill_7f8df_7 : decode cJ7_fill_7f8df 7 = .ok (.iload 4, 2) := by decide +kernel
theorem dJ7_fill_7f8df_9 : decode cJ7_fill_7f8df 9 = .ok (.if_icmp .ge 13, 3) := by decide +kernel
theorem dJ7_fill_7f8df_12 : decode cJ7_fill_7f8df 12 = .ok (.aload_n 0, 1) := by decide +kernel
theorem dJ7_fill_7f8df_13 : decode cJ7_fill_7f8df 13 = .ok (.iload_n 3, 1) := by decide +kernel
theorem dJ7_fill_7f8df_14 : decode cJ7_fill_7f8df 14 = .ok (.dload_n 1, 1) := by decide +kernel
theorem dJ7_fill_7f8df_15 : decode cJ7_fill_7f8df 15 = .ok (.dastore, 1) := by decide +kernel
theorem dJ7_fill_7f8df_16 : decode cJ7_fill_7f8df 16 = .ok (.iinc 3 1, 3) := by decide +kernel
theorem dJ7_fill_7f8df_19 : decode cJ7_fill_7f8df 19 = .ok (.goto (-13), 3) := by decide +kernel
theorem dJ7_fill_7f8df_22 : decode cJ7_fill_7f8df 22 = .ok (.return_, 1) := by decide +kernel
theorem dL_begin_0 : decode cL_begin 0 = .ok (.aload_n 3, 1) := by decide +kernel
theorem dL_begin_1 : decode cL_begin 1 = .ok (.iconst 0, 1) := by decide +kernel
theorem dL_begin_2 : decode cL_begin 2 = .ok (.aload_n 0, 1) := by decide +kernel
theorem dL_begin_3 : decode cL_begin 3 = .ok (.iload_n 1, 1) := by decide +kernel
theorem dL_begin_4 : decode cL_begin 4 = .ok (.iload_n 2, 1) := by decide +kernel
theorem dL_begin_5 : decode cL_begin 5 = .ok (.invokevirtual 7, 3) := by decide +kernel
theorem dL_begin_8 : decode cL_begin 8 = .ok (.i2l, 1) := by decide +kernel
theorem dL_begin_9 : decode cL_begin 9 = .ok (.lastore, 1) := by decide +kernel
theorem dL_begin_10 : decode cL_begin 10 = .ok (.goto 7, 3) := by decide +kernel
theorem dL_begin_13 : decode cL_begin 13 = .ok (.astore 4, 2) := by decide +kernel
theorem dL_begin_15 : decode cL_begin 15 = .ok (.iconst 1, 1) := by decide +kernel
theorem dL_begin_16 : decode cL_begin 16 = .ok (.ireturn, 1) := by decide +kernel
theorem dL_begin_17 : decode cL_begin 17 = .ok (.iconst 0, 1) := by decide +kernel
theorem dL_begin_18 : decode cL_begin 18 = .ok (.ireturn, 1) := by decide +kernel
theorem dL_setWeight_0 : decode cL_setWeight 0 = .ok (.aload_n 3, 1) := by decide +kernel
theorem dL_setWeight_1 : decode cL_setWeight 1 = .ok (.iconst 0, 1) := by decide +kernel
theorem dL_setWeight_2 : decode cL_setWeight 2 = .ok (.aload_n 0, 1) := by decide +kernel
theorem dL_setWeight_3 : decode cL_setWeight 3 = .ok (.iload_n 1, 1) := by decide +kernel
theorem dL_setWeight_4 : decode cL_setWeight 4 = .ok (.iload_n 2, 1) := by decide +kernel
theorem dL_setWeight_5 : decode cL_setWeight 5 = .ok (.invokevirtual 15, 3) := by decide +kernel
theorem dL_setWeight_8 : decode cL_setWeight 8 = .ok (.i2l, 1) := by decide +kernel
theorem dL_setWeight_9 : decode cL_setWeight 9 = .ok (.lastore, 1) := by decide +kernel
theorem dL_setWeight_10 : decode cL_setWeight 10 = .ok (.goto 11, 3) := by decide +kernel
theorem dL_setWeight_13 : decode cL_setWeight 13 = .ok (.astore 4, 2) := by decide +kernel
theorem dL_setWeight_15 : decode cL_setWeight 15 = .ok (.iconst 1, 1) := by decide +kernel
theorem dL_setWeight_16 : decode cL_setWeight 16 = .ok (.ireturn, 1) := by decide +kernel
theorem dL_setWeight_17 : decode cL_setWeight 17 = .ok (.astore 4, 2) := by decide +kernel
theorem dL_setWeight_19 : decode cL_setWeight 19 = .ok (.iconst 2, 1) := by decide +kernel
theorem dL_setWeight_20 : decode cL_setWeight 20 = .ok (.ireturn, 1) := by decide +kernel
theorem dL_setWeight_21 : decode cL_setWeight 21 = .ok (.iconst 0, 1) := by decide +kernel
theorem dL_setWeight_22 : decode cL_setWeight 22 = .ok (.ireturn, 1) := by decide +kernel
theorem dL_plan_0 : decode cL_plan 0 = .ok (.aload 4, 2) := by decide +kernel
theorem dL_plan_2 : decode cL_plan 2 = .ok (.iconst 0, 1) := by decide +kernel
theorem dL_plan_3 : decode cL_plan 3 = .ok (.aload_n 0, 1) := by decide +kernel
theorem dL_plan_4 : decode cL_plan 4 = .ok (.iload_n 1, 1) := by decide +kernel
theorem dL_plan_5 : decode cL_plan 5 = .ok (.iload_n 2, 1) := by decide +kernel
theorem dL_plan_6 : decode cL_plan 6 = .ok (.iload_n 3, 1) := by decide +kernel
theorem dL_plan_7 : decode cL_plan 7 = .ok (.invokevirtual 20, 3) := by decide +kernel
theorem dL_plan_10 : decode cL_plan 10 = .ok (.i2l, 1) := by decide +kernel
theorem dL_plan_11 : decode cL_plan 11 = .ok (.lastore, 1) := by decide +kernel
theorem dL_plan_12 : decode cL_plan 12 = .ok (.goto 11, 3) := by decide +kernel
theorem dL_plan_15 : decode cL_plan 15 = .ok (.astore 5, 2) := by decide +kernel
theorem dL_plan_17 : decode cL_plan 17 = .ok (.iconst 1, 1) := by decide +kernel
theorem dL_plan_18 : decode cL_plan 18 = .ok (.ireturn, 1) := by decide +kernel
theorem dL_plan_19 : decode cL_plan 19 = .ok (.astore 5, 2) := by decide +kernel
theorem dL_plan_21 : decode cL_plan 21 = .ok (.iconst 2, 1) := by decide +kernel
theorem dL_plan_22 : decode cL_plan 22 = .ok (.ireturn, 1) := by decide +kernel
theorem dL_plan_23 : decode cL_plan 23 = .ok (.iconst 0, 1) := by decide +kernel
theorem dL_plan_24 : decode cL_plan 24 = .ok (.ireturn, 1) := by decide +kernel
theorem dL_trial_0 : decode cL_trial 0 = .ok (.aload_n 3, 1) := by decide +kernel
theorem dL_trial_1 : decode cL_trial 1 = .ok (.iconst 0, 1) := by decide +kernel
theorem dL_trial_2 : decode cL_trial 2 = .ok (.aload_n 0, 1) := by decide +kernel
theorem dL_trial_3 : decode cL_trial 3 = .ok (.iload_n 1, 1) := by decide +kernel
theorem dL_trial_4 : decode cL_trial 4 = .ok (.iload_n 2, 1) := by decide +kernel
theorem dL_trial_5 : decode cL_trial 5 = .ok (.invokevirtual 24, 3) := by decide +kernel
theorem dL_trial_8 : decode cL_trial 8 = .ok (.i2l, 1) := by decide +kernel
theorem dL_trial_9 : decode cL_trial 9 = .ok (.lastore, 1) := by decide +kernel
theorem dL_trial_10 : decode cL_trial 10 = .ok (.goto 11, 3) := by decide +kernel
theorem dL_trial_13 : decode cL_trial 13 = .ok (.astore 4, 2) := by decide +kernel
theorem dL_trial_15 : decode cL_trial 15 = .ok (.iconst 1, 1) := by decide +kernel
theorem dL_trial_16 : decode cL_trial 16 = .ok (.ireturn, 1) := by decide +kernel
theorem dL_trial_17 : decode cL_trial 17 = .ok (.astore 4, 2) := by decide +kernel
theorem dL_trial_19 : decode cL_trial 19 = .ok (.iconst 2, 1) := by decide +kernel
theorem dL_trial_20 : decode cL_trial 20 = .ok (.ireturn, 1) := by decide +kernel
theorem dL_trial_21 : decode cL_trial 21 = .ok (.iconst 0, 1) := by decide +kernel
theorem dL_trial_22 : decode cL_trial 22 = .ok (.ireturn, 1) := by decide +kernel
theorem dL_answer_0 : decode cL_answer 0 = .ok (.aload_n 2, 1) := by decide +kernel
theorem dL_answer_1 : decode cL_answer 1 = .ok (.iconst 0, 1) := by decide +kernel
theorem dL_answer_2 : decode cL_answer 2 = .ok (.aload_n 0, 1) := by decide +kernel
theorem dL_answer_3 : decode cL_answer 3 = .ok (.iload_n 1, 1) := by decide +kernel
theorem dL_answer_4 : decode cL_answer 4 = .ok (.invokevirtual 30, 3) := by decide +kernel
theorem dL_answer_7 : decode cL_answer 7 = .ok (.i2l, 1) := by decide +kernel
theorem dL_answer_8 : decode cL_answer 8 = .ok (.lastore, 1) := by decide +kernel
theorem dL_answer_9 : decode cL_answer 9 = .ok (.goto 9, 3) := by decide +kernel
theorem dL_answer_12 : decode cL_answer 12 = .ok (.astore_n 3, 1) := by decide +kernel
theorem dL_answer_13 : decode cL_answer 13 = .ok (.iconst 1, 1) := by decide +kernel
theorem dL_answer_14 : decode cL_answer 14 = .ok (.ireturn, 1) := by decide +kernel
theorem dL_answer_15 : decode cL_answer 15 = .ok (.astore_n 3, 1) := by decide +kernel
theorem dL_answer_16 : decode cL_answer 16 = .ok (.iconst 2, 1) := by decide +kernel
theorem dL_answer_17 : decode cL_answer 17 = .ok (.ireturn, 1) := by decide +kernel
theorem dL_answer_18 : decode cL_answer 18 = .ok (.iconst 0, 1) := by decide +kernel
theorem dL_answer_19 : decode cL_answer 19 = .ok (.ireturn, 1) := by decide +kernel
theorem dL_compare_0 : decode cL_compare 0 = .ok (.aload 5, 2) := by decide +kernel
theorem dL_compare_2 : decode cL_compare 2 = .ok (.iconst 0, 1) := by decide +kernel
theorem dL_compare_3 : decode cL_compare 3 = .ok (.aload_n 0, 1) := by decide +kernel
theorem dL_compare_4 : decode cL_compare 4 = .ok (.iload_n 1, 1) := by decide +kernel
theorem dL_compare_5 : decode cL_compare 5 = .ok (.iload_n 2, 1) := by decide +kernel
theorem dL_compare_6 : decode cL_compare 6 = .ok (.iload_n 3, 1) := by decide +kernel
theorem dL_compare_7 : decode cL_compare 7 = .ok (.iload 4, 2) := by decide +kernel
theorem dL_compare_9 : decode cL_compare 9 = .ok (.invokevirtual 34, 3) := by decide +kernel
theorem dL_compare_12 : decode cL_compare 12 = .ok (.i2l, 1) := by decide +kernel
theorem dL_compare_13 : decode cL_compare 13 = .ok (.lastore, 1) := by decide +kernel
theorem dL_compare_14 : decode cL_compare 14 = .ok (.goto 15, 3) := by decide +kernel
theorem dL_compare_17 : decode cL_compare 17 = .ok (.astore 6, 2) := by decide +kernel
theorem dL_compare_19 : decode cL_compare 19 = .ok (.iconst 1, 1) := by decide +kernel
theorem dL_compare_20 : decode cL_compare 20 = .ok (.ireturn, 1) := by decide +kernel
theorem dL_compare_21 : decode cL_compare 21 = .ok (.astore 6, 2) := by decide +kernel
theorem dL_compare_23 : decode cL_compare 23 = .ok (.iconst 2, 1) := by decide +kernel
theorem dL_compare_24 : decode cL_compare 24 = .ok (.ireturn, 1) := by decide +kernel
theorem dL_compare_25 : decode cL_compare 25 = .ok (.astore 6, 2) := by decide +kernel
theorem dL_compare_27 : decode cL_compare 27 = .ok (.iconst 3, 1) := by decide +kernel
theorem dL_compare_28 : decode cL_compare 28 = .ok (.ireturn, 1) := by decide +kernel
theorem dL_compare_29 : decode cL_compare 29 = .ok (.iconst 0, 1) := by decide +kernel
theorem dL_compare_30 : decode cL_compare 30 = .ok (.ireturn, 1) := by decide +kernel
theorem dL_remove_0 : decode cL_remove 0 = .ok (.aload_n 2, 1) := by decide +kernel
theorem dL_remove_1 : decode cL_remove 1 = .ok (.iconst 0, 1) := by decide +kernel
theorem dL_remove_2 : decode cL_remove 2 = .ok (.aload_n 0, 1) := by decide +kernel
theorem dL_remove_3 : decode cL_remove 3 = .ok (.iload_n 1, 1) := by decide +kernel
theorem dL_remove_4 : decode cL_remove 4 = .ok (.invokevirtual 38, 3) := by decide +kernel
theorem dL_remove_7 : decode cL_remove 7 = .ok (.i2l, 1) := by decide +kernel
theorem dL_remove_8 : decode cL_remove 8 = .ok (.lastore, 1) := by decide +kernel
theorem dL_remove_9 : decode cL_remove 9 = .ok (.goto 6, 3) := by decide +kernel
theorem dL_remove_12 : decode cL_remove 12 = .ok (.astore_n 3, 1) := by decide +kernel
theorem dL_remove_13 : decode cL_remove 13 = .ok (.iconst 1, 1) := by decide +kernel
theorem dL_remove_14 : decode cL_remove 14 = .ok (.ireturn, 1) := by decide +kernel
theorem dL_remove_15 : decode cL_remove 15 = .ok (.iconst 0, 1) := by decide +kernel
theorem dL_remove_16 : decode cL_remove 16 = .ok (.ireturn, 1) := by decide +kernel
theorem dL_undo_0 : decode cL_undo 0 = .ok (.aload_n 1, 1) := by decide +kernel
theorem dL_undo_1 : decode cL_undo 1 = .ok (.iconst 0, 1) := by decide +kernel
theorem dL_undo_2 : decode cL_undo 2 = .ok (.aload_n 0, 1) := by decide +kernel
theorem dL_undo_3 : decode cL_undo 3 = .ok (.invokevirtual 41, 3) := by decide +kernel
theorem dL_undo_6 : decode cL_undo 6 = .ok (.i2l, 1) := by decide +kernel
theorem dL_undo_7 : decode cL_undo 7 = .ok (.lastore, 1) := by decide +kernel
theorem dL_undo_8 : decode cL_undo 8 = .ok (.goto 6, 3) := by decide +kernel
theorem dL_undo_11 : decode cL_undo 11 = .ok (.astore_n 2, 1) := by decide +kernel
theorem dL_undo_12 : decode cL_undo 12 = .ok (.iconst 1, 1) := by decide +kernel
theorem dL_undo_13 : decode cL_undo 13 = .ok (.ireturn, 1) := by decide +kernel
theorem dL_undo_14 : decode cL_undo 14 = .ok (.iconst 0, 1) := by decide +kernel
theorem dL_undo_15 : decode cL_undo 15 = .ok (.ireturn, 1) := by decide +kernel
theorem dL_append_0 : decode cL_append 0 = .ok (.aload_n 2, 1) := by decide +kernel
theorem dL_append_1 : decode cL_append 1 = .ok (.iconst 0, 1) := by decide +kernel
theorem dL_append_2 : decode cL_append 2 = .ok (.aload_n 0, 1) := by decide +kernel
theorem dL_append_3 : decode cL_append 3 = .ok (.iload_n 1, 1) := by decide +kernel
theorem dL_append_4 : decode cL_append 4 = .ok (.invokevirtual 45, 3) := by decide +kernel
theorem dL_append_7 : decode cL_append 7 = .ok (.i2l, 1) := by decide +kernel
theorem dL_append_8 : decode cL_append 8 = .ok (.lastore, 1) := by decide +kernel
theorem dL_append_9 : decode cL_append 9 = .ok (.goto 9, 3) := by decide +kernel
theorem dL_append_12 : decode cL_append 12 = .ok (.astore_n 3, 1) := by decide +kernel
theorem dL_append_13 : decode cL_append 13 = .ok (.iconst 1, 1) := by decide +kernel
theorem dL_append_14 : decode cL_append 14 = .ok (.ireturn, 1) := by decide +kernel
theorem dL_append_15 : decode cL_append 15 = .ok (.astore_n 3, 1) := by decide +kernel
theorem dL_append_16 : decode cL_append 16 = .ok (.iconst 2, 1) := by decide +kernel
theorem dL_append_17 : decode cL_append 17 = .ok (.ireturn, 1) := by decide +kernel
theorem dL_append_18 : decode cL_append 18 = .ok (.iconst 0, 1) := by decide +kernel
theorem dL_append_19 : decode cL_append 19 = .ok (.ireturn, 1) := by decide +kernel
theorem dL_load_0 : decode cL_load 0 = .ok (.aload_n 1, 1) := by decide +kernel
theorem dL_load_1 : decode cL_load 1 = .ok (.iconst 0, 1) := by decide +kernel
theorem dL_load_2 : decode cL_load 2 = .ok (.aload_n 0, 1) := by decide +kernel
theorem dL_load_3 : decode cL_load 3 = .ok (.invokevirtual 48, 3) := by decide +kernel
theorem dL_load_6 : decode cL_load 6 = .ok (.i2l, 1) := by decide +kernel
theorem dL_load_7 : decode cL_load 7 = .ok (.lastore, 1) := by decide +kernel
theorem dL_load_8 : decode cL_load 8 = .ok (.goto 9, 3) := by decide +kernel
theorem dL_load_11 : decode cL_load 11 = .ok (.astore_n 2, 1) := by decide +kernel
theorem dL_load_12 : decode cL_load 12 = .ok (.iconst 1, 1) := by decide +kernel
theorem dL_load_13 : decode cL_load 13 = .ok (.ireturn, 1) := by decide +kernel
theorem dL_load_14 : decode cL_load 14 = .ok (.astore_n 2, 1) := by decide +kernel
theorem dL_load_15 : decode cL_load 15 = .ok (.iconst 2, 1) := by decide +kernel
theorem dL_load_16 : decode cL_load 16 = .ok (.ireturn, 1) := by decide +kernel
theorem dL_load_17 : decode cL_load 17 = .ok (.iconst 0, 1) := by decide +kernel
theorem dL_load_18 : decode cL_load 18 = .ok (.ireturn, 1) := by decide +kernel
theorem dL_count_0 : decode cL_count 0 = .ok (.aload_n 2, 1) := by decide +kernel
theorem dL_count_1 : decode cL_count 1 = .ok (.iconst 0, 1) := by decide +kernel
theorem dL_count_2 : decode cL_count 2 = .ok (.aload_n 0, 1) := by decide +kernel
theorem dL_count_3 : decode cL_count 3 = .ok (.iload_n 1, 1) := by decide +kernel
theorem dL_count_4 : decode cL_count 4 = .ok (.invokevirtual 51, 3) := by decide +kernel
theorem dL_count_7 : decode cL_count 7 = .ok (.i2l, 1) := by decide +kernel
theorem dL_count_8 : decode cL_count 8 = .ok (.lastore, 1) := by decide +kernel
theorem dL_count_9 : decode cL_count 9 = .ok (.goto 6, 3) := by decide +kernel
theorem dL_count_12 : decode cL_count 12 = .ok (.astore_n 3, 1) := by decide +kernel
theorem dL_count_13 : decode cL_count 13 = .ok (.iconst 1, 1) := by decide +kernel
theorem dL_count_14 : decode cL_count 14 = .ok (.ireturn, 1) := by decide +kernel
theorem dL_count_15 : decode cL_count 15 = .ok (.iconst 0, 1) := by decide +kernel
theorem dL_count_16 : decode cL_count 16 = .ok (.ireturn, 1) := by decide +kernel
theorem dL_comparison_0 : decode cL_comparison 0 = .ok (.aload_n 3, 1) := by decide +kernel
theorem dL_comparison_1 : decode cL_comparison 1 = .ok (.iconst 0, 1) := by decide +kernel
theorem dL_comparison_2 : decode cL_comparison 2 = .ok (.aload_n 0, 1) := by decide +kernel
theorem dL_comparison_3 : decode cL_comparison 3 = .ok (.iload_n 1, 1) := by decide +kernel
theorem dL_comparison_4 : decode cL_comparison 4 = .ok (.iload_n 2, 1) := by decide +kernel
theorem dL_comparison_5 : decode cL_comparison 5 = .ok (.invokevirtual 54, 3) := by decide +kernel
theorem dL_comparison_8 : decode cL_comparison 8 = .ok (.i2l, 1) := by decide +kernel
theorem dL_comparison_9 : decode cL_comparison 9 = .ok (.lastore, 1) := by decide +kernel
theorem dL_comparison_10 : decode cL_comparison 10 = .ok (.goto 11, 3) := by decide +kernel
theorem dL_comparison_13 : decode cL_comparison 13 = .ok (.astore 4, 2) := by decide +kernel
theorem dL_comparison_15 : decode cL_comparison 15 = .ok (.iconst 1, 1) := by decide +kernel
theorem dL_comparison_16 : decode cL_comparison 16 = .ok (.ireturn, 1) := by decide +kernel
theorem dL_comparison_17 : decode cL_comparison 17 = .ok (.astore 4, 2) := by decide +kernel
theorem dL_comparison_19 : decode cL_comparison 19 = .ok (.iconst 2, 1) := by decide +kernel
theorem dL_comparison_20 : decode cL_comparison 20 = .ok (.ireturn, 1) := by decide +kernel
theorem dL_comparison_21 : decode cL_comparison 21 = .ok (.iconst 0, 1) := by decide +kernel
theorem dL_comparison_22 : decode cL_comparison 22 = .ok (.ireturn, 1) := by decide +kernel
theorem dL_result_0 : decode cL_result 0 = .ok (.aload 4, 2) := by decide +kernel
theorem dL_result_2 : decode cL_result 2 = .ok (.iconst 0, 1) := by decide +kernel
theorem dL_result_3 : decode cL_result 3 = .ok (.aload_n 0, 1) := by decide +kernel
theorem dL_result_4 : decode cL_result 4 = .ok (.iload_n 1, 1) := by decide +kernel
theorem dL_result_5 : decode cL_result 5 = .ok (.iload_n 2, 1) := by decide +kernel
theorem dL_result_6 : decode cL_result 6 = .ok (.iload_n 3, 1) := by decide +kernel
theorem dL_result_7 : decode cL_result 7 = .ok (.invokevirtual 57, 3) := by decide +kernel
theorem dL_result_10 : decode cL_result 10 = .ok (.i2l, 1) := by decide +kernel
theorem dL_result_11 : decode cL_result 11 = .ok (.lastore, 1) := by decide +kernel
theorem dL_result_12 : decode cL_result 12 = .ok (.goto 11, 3) := by decide +kernel
theorem dL_result_15 : decode cL_result 15 = .ok (.astore 5, 2) := by decide +kernel
theorem dL_result_17 : decode cL_result 17 = .ok (.iconst 1, 1) := by decide +kernel
theorem dL_result_18 : decode cL_result 18 = .ok (.ireturn, 1) := by decide +kernel
theorem dL_result_19 : decode cL_result 19 = .ok (.astore 5, 2) := by decide +kernel
theorem dL_result_21 : decode cL_result 21 = .ok (.iconst 2, 1) := by decide +kernel
theorem dL_result_22 : decode cL_result 22 = .ok (.ireturn, 1) := by decide +kernel
theorem dL_result_23 : decode cL_result 23 = .ok (.iconst 0, 1) := by decide +kernel
theorem dL_result_24 : decode cL_result 24 = .ok (.ireturn, 1) := by decide +kernel
theorem dL_sample_0 : decode cL_sample 0 = .ok (.aload_n 3, 1) := by decide +kernel
theorem dL_sample_1 : decode cL_sample 1 = .ok (.iconst 0, 1) := by decide +kernel
theorem dL_sample_2 : decode cL_sample 2 = .ok (.aload_n 0, 1) := by decide +kernel
theorem dL_sample_3 : decode cL_sample 3 = .ok (.iload_n 1, 1) := by decide +kernel
theorem dL_sample_4 : decode cL_sample 4 = .ok (.iload_n 2, 1) := by decide +kernel
theorem dL_sample_5 : decode cL_sample 5 = .ok (.invokevirtual 60, 3) := by decide +kernel
theorem dL_sample_8 : decode cL_sample 8 = .ok (.i2l, 1) := by decide +kernel
theorem dL_sample_9 : decode cL_sample 9 = .ok (.lastore, 1) := by decide +kernel
theorem dL_sample_10 : decode cL_sample 10 = .ok (.goto 11, 3) := by decide +kernel
theorem dL_sample_13 : decode cL_sample 13 = .ok (.astore 4, 2) := by decide +kernel
theorem dL_sample_15 : decode cL_sample 15 = .ok (.iconst 1, 1) := by decide +kernel
theorem dL_sample_16 : decode cL_sample 16 = .ok (.ireturn, 1) := by decide +kernel
theorem dL_sample_17 : decode cL_sample 17 = .ok (.astore 4, 2) := by decide +kernel
theorem dL_sample_19 : decode cL_sample 19 = .ok (.iconst 2, 1) := by decide +kernel
theorem dL_sample_20 : decode cL_sample 20 = .ok (.ireturn, 1) := by decide +kernel
theorem dL_sample_21 : decode cL_sample 21 = .ok (.iconst 0, 1) := by decide +kernel
theorem dL_sample_22 : decode cL_sample 22 = .ok (.ireturn, 1) := by decide +kernel
theorem dL_order_0 : decode cL_order 0 = .ok (.aload_n 2, 1) := by decide +kernel
theorem dL_order_1 : decode cL_order 1 = .ok (.iconst 0, 1) := by decide +kernel
theorem dL_order_2 : decode cL_order 2 = .ok (.aload_n 0, 1) := by decide +kernel
theorem dL_order_3 : decode cL_order 3 = .ok (.iload_n 1, 1) := by decide +kernel
theorem dL_order_4 : decode cL_order 4 = .ok (.invokevirtual 63, 3) := by decide +kernel
theorem dL_order_7 : decode cL_order 7 = .ok (.i2l, 1) := by decide +kernel
theorem dL_order_8 : decode cL_order 8 = .ok (.lastore, 1) := by decide +kernel
theorem dL_order_9 : decode cL_order 9 = .ok (.goto 6, 3) := by decide +kernel
theorem dL_order_12 : decode cL_order 12 = .ok (.astore_n 3, 1) := by decide +kernel
theorem dL_order_13 : decode cL_order 13 = .ok (.iconst 1, 1) := by decide +kernel
theorem dL_order_14 : decode cL_order 14 = .ok (.ireturn, 1) := by decide +kernel
theorem dL_order_15 : decode cL_order 15 = .ok (.iconst 0, 1) := by decide +kernel
theorem dL_order_16 : decode cL_order 16 = .ok (.ireturn, 1) := by decide +kernel
theorem dL_summary_0 : decode cL_summary 0 = .ok (.aload_n 2, 1) := by decide +kernel
theorem dL_summary_1 : decode cL_summary 1 = .ok (.iconst 0, 1) := by decide +kernel
theorem dL_summary_2 : decode cL_summary 2 = .ok (.aload_n 0, 1) := by decide +kernel
theorem dL_summary_3 : decode cL_summary 3 = .ok (.iload_n 1, 1) := by decide +kernel
theorem dL_summary_4 : decode cL_summary 4 = .ok (.invokevirtual 66, 3) := by decide +kernel
theorem dL_summary_7 : decode cL_summary 7 = .ok (.i2l, 1) := by decide +kernel
theorem dL_summary_8 : decode cL_summary 8 = .ok (.lastore, 1) := by decide +kernel
theorem dL_summary_9 : decode cL_summary 9 = .ok (.goto 6, 3) := by decide +kernel
theorem dL_summary_12 : decode cL_summary 12 = .ok (.astore_n 3, 1) := by decide +kernel
theorem dL_summary_13 : decode cL_summary 13 = .ok (.iconst 1, 1) := by decide +kernel
theorem dL_summary_14 : decode cL_summary 14 = .ok (.ireturn, 1) := by decide +kernel
theorem dL_summary_15 : decode cL_summary 15 = .ok (.iconst 0, 1) := by decide +kernel
theorem dL_summary_16 : decode cL_summary 16 = .ok (.ireturn, 1) := by decide +kernel
theorem dL_without_0 : decode cL_without 0 = .ok (.aload 4, 2) := by decide +kernel
theorem dL_without_2 : decode cL_without 2 = .ok (.iconst 0, 1) := by decide +kernel
theorem dL_without_3 : decode cL_without 3 = .ok (.aload_n 0, 1) := by decide +kernel
theorem dL_without_4 : decode cL_without 4 = .ok (.iload_n 1, 1) := by decide +kernel
theorem dL_without_5 : decode cL_without 5 = .ok (.iload_n 2, 1) := by decide +kernel
theorem dL_without_6 : decode cL_without 6 = .ok (.iload_n 3, 1) := by decide +kernel
theorem dL_without_7 : decode cL_without 7 = .ok (.invokevirtual 69, 3) := by decide +kernel
theorem dL_without_10 : decode cL_without 10 = .ok (.i2l, 1) := by decide +kernel
theorem dL_without_11 : decode cL_without 11 = .ok (.lastore, 1) := by decide +kernel
theorem dL_without_12 : decode cL_without 12 = .ok (.goto 11, 3) := by decide +kernel
theorem dL_without_15 : decode cL_without 15 = .ok (.astore 5, 2) := by decide +kernel
theorem dL_without_17 : decode cL_without 17 = .ok (.iconst 1, 1) := by decide +kernel
theorem dL_without_18 : decode cL_without 18 = .ok (.ireturn, 1) := by decide +kernel
theorem dL_without_19 : decode cL_without 19 = .ok (.astore 5, 2) := by decide +kernel
theorem dL_without_21 : decode cL_without 21 = .ok (.iconst 2, 1) := by decide +kernel
theorem dL_without_22 : decode cL_without 22 = .ok (.ireturn, 1) := by decide +kernel
theorem dL_without_23 : decode cL_without 23 = .ok (.iconst 0, 1) := by decide +kernel
theorem dL_without_24 : decode cL_without 24 = .ok (.ireturn, 1) := by decide +kernel
theorem dL_rings_0 : decode cL_rings 0 = .ok (.aload_n 2, 1) := by decide +kernel
theorem dL_rings_1 : decode cL_rings 1 = .ok (.iconst 0, 1) := by decide +kernel
theorem dL_rings_2 : decode cL_rings 2 = .ok (.aload_n 0, 1) := by decide +kernel
theorem dL_rings_3 : decode cL_rings 3 = .ok (.iload_n 1, 1) := by decide +kernel
theorem dL_rings_4 : decode cL_rings 4 = .ok (.invokevirtual 72, 3) := by decide +kernel
theorem dL_rings_7 : decode cL_rings 7 = .ok (.i2l, 1) := by decide +kernel
theorem dL_rings_8 : decode cL_rings 8 = .ok (.lastore, 1) := by decide +kernel
theorem dL_rings_9 : decode cL_rings 9 = .ok (.goto 6, 3) := by decide +kernel
theorem dL_rings_12 : decode cL_rings 12 = .ok (.astore_n 3, 1) := by decide +kernel
theorem dL_rings_13 : decode cL_rings 13 = .ok (.iconst 1, 1) := by decide +kernel
theorem dL_rings_14 : decode cL_rings 14 = .ok (.ireturn, 1) := by decide +kernel
theorem dL_rings_15 : decode cL_rings 15 = .ok (.iconst 0, 1) := by decide +kernel
theorem dL_rings_16 : decode cL_rings 16 = .ok (.ireturn, 1) := by decide +kernel
theorem dL_consistency_0 : decode cL_consistency 0 = .ok (.aload_n 2, 1) := by decide +kernel
theorem dL_consistency_1 : decode cL_consistency 1 = .ok (.iconst 0, 1) := by decide +kernel
theorem dL_consistency_2 : decode cL_consistency 2 = .ok (.aload_n 0, 1) := by decide +kernel
theorem dL_consistency_3 : decode cL_consistency 3 = .ok (.iload_n 1, 1) := by decide +kernel
theorem dL_consistency_4 : decode cL_consistency 4 = .ok (.invokevirtual 75, 3) := by decide +kernel
theorem dL_consistency_7 : decode cL_consistency 7 = .ok (.dastore, 1) := by decide +kernel
theorem dL_consistency_8 : decode cL_consistency 8 = .ok (.goto 9, 3) := by decide +kernel
theorem dL_consistency_11 : decode cL_consistency 11 = .ok (.astore_n 3, 1) := by decide +kernel
theorem dL_consistency_12 : decode cL_consistency 12 = .ok (.iconst 1, 1) := by decide +kernel
theorem dL_consistency_13 : decode cL_consistency 13 = .ok (.ireturn, 1) := by decide +kernel
theorem dL_consistency_14 : decode cL_consistency 14 = .ok (.astore_n 3, 1) := by decide +kernel
theorem dL_consistency_15 : decode cL_consistency 15 = .ok (.iconst 2, 1) := by decide +kernel
theorem dL_consistency_16 : decode cL_consistency 16 = .ok (.ireturn, 1) := by decide +kernel
theorem dL_consistency_17 : decode cL_consistency 17 = .ok (.iconst 0, 1) := by decide +kernel
theorem dL_consistency_18 : decode cL_consistency 18 = .ok (.ireturn, 1) := by decide +kernel
theorem dL_agreement_0 : decode cL_agreement 0 = .ok (.aload_n 3, 1) := by decide +kernel
theorem dL_agreement_1 : decode cL_agreement 1 = .ok (.iconst 0, 1) := by decide +kernel
theorem dL_agreement_2 : decode cL_agreement 2 = .ok (.aload_n 0, 1) := by decide +kernel
theorem dL_agreement_3 : decode cL_agreement 3 = .ok (.iload_n 1, 1) := by decide +kernel
theorem dL_agreement_4 : decode cL_agreement 4 = .ok (.iload_n 2, 1) := by decide +kernel
theorem dL_agreement_5 : decode cL_agreement 5 = .ok (.invokevirtual 79, 3) := by decide +kernel
theorem dL_agreement_8 : decode cL_agreement 8 = .ok (.dastore, 1) := by decide +kernel
theorem dL_agreement_9 : decode cL_agreement 9 = .ok (.goto 7, 3) := by decide +kernel
theorem dL_agreement_12 : decode cL_agreement 12 = .ok (.astore 4, 2) := by decide +kernel
theorem dL_agreement_14 : decode cL_agreement 14 = .ok (.iconst 1, 1) := by decide +kernel
theorem dL_agreement_15 : decode cL_agreement 15 = .ok (.ireturn, 1) := by decide +kernel
theorem dL_agreement_16 : decode cL_agreement 16 = .ok (.iconst 0, 1) := by decide +kernel
theorem dL_agreement_17 : decode cL_agreement 17 = .ok (.ireturn, 1) := by decide +kernel
theorem dL_chance_0 : decode cL_chance 0 = .ok (.aload_n 3, 1) := by decide +kernel
theorem dL_chance_1 : decode cL_chance 1 = .ok (.iconst 0, 1) := by decide +kernel
theorem dL_chance_2 : decode cL_chance 2 = .ok (.aload_n 0, 1) := by decide +kernel
theorem dL_chance_3 : decode cL_chance 3 = .ok (.iload_n 1, 1) := by decide +kernel
theorem dL_chance_4 : decode cL_chance 4 = .ok (.iload_n 2, 1) := by decide +kernel
theorem dL_chance_5 : decode cL_chance 5 = .ok (.invokevirtual 83, 3) := by decide +kernel
theorem dL_chance_8 : decode cL_chance 8 = .ok (.lastore, 1) := by decide +kernel
theorem dL_chance_9 : decode cL_chance 9 = .ok (.goto 11, 3) := by decide +kernel
theorem dL_chance_12 : decode cL_chance 12 = .ok (.astore 4, 2) := by decide +kernel
theorem dL_chance_14 : decode cL_chance 14 = .ok (.iconst 1, 1) := by decide +kernel
theorem dL_chance_15 : decode cL_chance 15 = .ok (.ireturn, 1) := by decide +kernel
theorem dL_chance_16 : decode cL_chance 16 = .ok (.astore 4, 2) := by decide +kernel
theorem dL_chance_18 : decode cL_chance 18 = .ok (.iconst 2, 1) := by decide +kernel
theorem dL_chance_19 : decode cL_chance 19 = .ok (.ireturn, 1) := by decide +kernel
theorem dL_chance_20 : decode cL_chance 20 = .ok (.iconst 0, 1) := by decide +kernel
theorem dL_chance_21 : decode cL_chance 21 = .ok (.ireturn, 1) := by decide +kernel
theorem dL_proved_0 : decode cL_proved 0 = .ok (.aload_n 3, 1) := by decide +kernel
theorem dL_proved_1 : decode cL_proved 1 = .ok (.iconst 0, 1) := by decide +kernel
theorem dL_proved_2 : decode cL_proved 2 = .ok (.aload_n 0, 1) := by decide +kernel
theorem dL_proved_3 : decode cL_proved 3 = .ok (.iload_n 1, 1) := by decide +kernel
theorem dL_proved_4 : decode cL_proved 4 = .ok (.iload_n 2, 1) := by decide +kernel
theorem dL_proved_5 : decode cL_proved 5 = .ok (.invokevirtual 87, 3) := by decide +kernel
theorem dL_proved_8 : decode cL_proved 8 = .ok (.i2l, 1) := by decide +kernel
theorem dL_proved_9 : decode cL_proved 9 = .ok (.lastore, 1) := by decide +kernel
theorem dL_proved_10 : decode cL_proved 10 = .ok (.goto 11, 3) := by decide +kernel
theorem dL_proved_13 : decode cL_proved 13 = .ok (.astore 4, 2) := by decide +kernel
theorem dL_proved_15 : decode cL_proved 15 = .ok (.iconst 1, 1) := by decide +kernel
theorem dL_proved_16 : decode cL_proved 16 = .ok (.ireturn, 1) := by decide +kernel
theorem dL_proved_17 : decode cL_proved 17 = .ok (.astore 4, 2) := by decide +kernel
theorem dL_proved_19 : decode cL_proved 19 = .ok (.iconst 2, 1) := by decide +kernel
theorem dL_proved_20 : decode cL_proved 20 = .ok (.ireturn, 1) := by decide +kernel
theorem dL_proved_21 : decode cL_proved 21 = .ok (.iconst 0, 1) := by decide +kernel
theorem dL_proved_22 : decode cL_proved 22 = .ok (.ireturn, 1) := by decide +kernel
theorem dL_strength_0 : decode cL_strength 0 = .ok (.aload_n 3, 1) := by decide +kernel
theorem dL_strength_1 : decode cL_strength 1 = .ok (.iconst 0, 1) := by decide +kernel
theorem dL_strength_2 : decode cL_strength 2 = .ok (.aload_n 0, 1) := by decide +kernel
theorem dL_strength_3 : decode cL_strength 3 = .ok (.iload_n 1, 1) := by decide +kernel
theorem dL_strength_4 : decode cL_strength 4 = .ok (.iload_n 2, 1) := by decide +kernel
theorem dL_strength_5 : decode cL_strength 5 = .ok (.invokevirtual 90, 3) := by decide +kernel
theorem dL_strength_8 : decode cL_strength 8 = .ok (.dastore, 1) := by decide +kernel
theorem dL_strength_9 : decode cL_strength 9 = .ok (.goto 11, 3) := by decide +kernel
theorem dL_strength_12 : decode cL_strength 12 = .ok (.astore 4, 2) := by decide +kernel
theorem dL_strength_14 : decode cL_strength 14 = .ok (.iconst 1, 1) := by decide +kernel
theorem dL_strength_15 : decode cL_strength 15 = .ok (.ireturn, 1) := by decide +kernel
theorem dL_strength_16 : decode cL_strength 16 = .ok (.astore 4, 2) := by decide +kernel
theorem dL_strength_18 : decode cL_strength 18 = .ok (.iconst 2, 1) := by decide +kernel
theorem dL_strength_19 : decode cL_strength 19 = .ok (.ireturn, 1) := by decide +kernel
theorem dL_strength_20 : decode cL_strength 20 = .ok (.iconst 0, 1) := by decide +kernel
theorem dL_strength_21 : decode cL_strength 21 = .ok (.ireturn, 1) := by decide +kernel
theorem dL_misfit_0 : decode cL_misfit 0 = .ok (.aload_n 2, 1) := by decide +kernel
theorem dL_misfit_1 : decode cL_misfit 1 = .ok (.iconst 0, 1) := by decide +kernel
theorem dL_misfit_2 : decode cL_misfit 2 = .ok (.aload_n 0, 1) := by decide +kernel
theorem dL_misfit_3 : decode cL_misfit 3 = .ok (.iload_n 1, 1) := by decide +kernel
theorem dL_misfit_4 : decode cL_misfit 4 = .ok (.invokevirtual 93, 3) := by decide +kernel
theorem dL_misfit_7 : decode cL_misfit 7 = .ok (.dastore, 1) := by decide +kernel
theorem dL_misfit_8 : decode cL_misfit 8 = .ok (.goto 6, 3) := by decide +kernel
theorem dL_misfit_11 : decode cL_misfit 11 = .ok (.astore_n 3, 1) := by decide +kernel
theorem dL_misfit_12 : decode cL_misfit 12 = .ok (.iconst 1, 1) := by decide +kernel
theorem dL_misfit_13 : decode cL_misfit 13 = .ok (.ireturn, 1) := by decide +kernel
theorem dL_misfit_14 : decode cL_misfit 14 = .ok (.iconst 0, 1) := by decide +kernel
theorem dL_misfit_15 : decode cL_misfit 15 = .ok (.ireturn, 1) := by decide +kernel
theorem dL_law_0 : decode cL_law 0 = .ok (.new 8, 3) := by decide +kernel
theorem dL_law_3 : decode cL_law 3 = .ok (.dup, 1) := by decide +kernel
theorem dL_law_4 : decode cL_law 4 = .ok (.invokespecial 96, 3) := by decide +kernel
theorem dL_law_7 : decode cL_law 7 = .ok (.astore_n 1, 1) := by decide +kernel
theorem dL_law_8 : decode cL_law 8 = .ok (.new 97, 3) := by decide +kernel
theorem dL_law_11 : decode cL_law 11 = .ok (.dup, 1) := by decide +kernel
theorem dL_law_12 : decode cL_law 12 = .ok (.invokespecial 99, 3) := by decide +kernel
theorem dL_law_15 : decode cL_law 15 = .ok (.astore_n 2, 1) := by decide +kernel
theorem dL_law_16 : decode cL_law 16 = .ok (.iconst 1, 1) := by decide +kernel
theorem dL_law_17 : decode cL_law 17 = .ok (.newarray .long, 2) := by decide +kernel
theorem dL_law_19 : decode cL_law 19 = .ok (.astore_n 3, 1) := by decide +kernel
theorem dL_law_20 : decode cL_law 20 = .ok (.iconst 1, 1) := by decide +kernel
theorem dL_law_21 : decode cL_law 21 = .ok (.newarray .double, 2) := by decide +kernel
theorem dL_law_23 : decode cL_law 23 = .ok (.astore 4, 2) := by decide +kernel
theorem dL_law_25 : decode cL_law 25 = .ok (.iconst 0, 1) := by decide +kernel
theorem dL_law_26 : decode cL_law 26 = .ok (.istore 5, 2) := by decide +kernel
theorem dL_law_28 : decode cL_law 28 = .ok (.iload 5, 2) := by decide +kernel
theorem dL_law_30 : decode cL_law 30 = .ok (.aload_n 0, 1) := by decide +kernel
theorem dL_law_31 : decode cL_law 31 = .ok (.arraylength, 1) := by decide +kernel
theorem dL_law_32 : decode cL_law 32 = .ok (.iconst 5, 1) := by decide +kernel
theorem dL_law_33 : decode cL_law 33 = .ok (.isub, 1) := by decide +kernel
theorem dL_law_34 : decode cL_law 34 = .ok (.if_icmp .gt 1833, 3) := by decide +kernel
theorem dL_law_37 : decode cL_law 37 = .ok (.aload_n 0, 1) := by decide +kernel
theorem dL_law_38 : decode cL_law 38 = .ok (.iload 5, 2) := by decide +kernel
theorem dL_law_40 : decode cL_law 40 = .ok (.iaload, 1) := by decide +kernel
theorem dL_law_41 : decode cL_law 41 = .ok (.bipush 31, 2) := by decide +kernel
theorem dL_law_43 : decode cL_law 43 = .ok (.iand, 1) := by decide +kernel
theorem dL_law_44 : decode cL_law 44 = .ok (.tableswitch 1817 0 27 #[128, 196, 264, 344, 428, 484, 576, 632, 676, 732, 745, 758, 802, 858, 926, 1006, 1074, 1130, 1186, 1266, 1322, 1399, 1488, 1555, 1569, 1637, 1726, 1803], 128) := by decide +kernel
theorem dL_law_172 : decode cL_law 172 = .ok (.aload_n 1, 1) := by decide +kernel
theorem dL_law_173 : decode cL_law 173 = .ok (.aload_n 0, 1) := by decide +kernel
theorem dL_law_174 : decode cL_law 174 = .ok (.iload 5, 2) := by decide +kernel
theorem dL_law_176 : decode cL_law 176 = .ok (.iconst 1, 1) := by decide +kernel
theorem dL_law_177 : decode cL_law 177 = .ok (.iadd, 1) := by decide +kernel
theorem dL_law_178 : decode cL_law 178 = .ok (.iaload, 1) := by decide +kernel
theorem dL_law_179 : decode cL_law 179 = .ok (.aload_n 0, 1) := by decide +kernel
theorem dL_law_180 : decode cL_law 180 = .ok (.iload 5, 2) := by decide +kernel
theorem dL_law_182 : decode cL_law 182 = .ok (.iconst 2, 1) := by decide +kernel
theorem dL_law_183 : decode cL_law 183 = .ok (.iadd, 1) := by decide +kernel
theorem dL_law_184 : decode cL_law 184 = .ok (.iaload, 1) := by decide +kernel
theorem dL_law_185 : decode cL_law 185 = .ok (.aload_n 3, 1) := by decide +kernel
theorem dL_law_186 : decode cL_law 186 = .ok (.invokestatic 100, 3) := by decide +kernel
theorem dL_law_189 : decode cL_law 189 = .ok (.istore 6, 2) := by decide +kernel
theorem dL_law_191 : decode cL_law 191 = .ok (.aload_n 2, 1) := by decide +kernel
theorem dL_law_192 : decode cL_law 192 = .ok (.aload_n 0, 1) := by decide +kernel
theorem dL_law_193 : decode cL_law 193 = .ok (.iload 5, 2) := by decide +kernel
theorem dL_law_195 : decode cL_law 195 = .ok (.iconst 1, 1) := by decide +kernel
theorem dL_law_196 : decode cL_law 196 = .ok (.iadd, 1) := by decide +kernel
theorem dL_law_197 : decode cL_law 197 = .ok (.iaload, 1) := by decide +kernel
theorem dL_law_198 : decode cL_law 198 = .ok (.aload_n 0, 1) := by decide +kernel
theorem dL_law_199 : decode cL_law 199 = .ok (.iload 5, 2) := by decide +kernel
theorem dL_law_201 : decode cL_law 201 = .ok (.iconst 2, 1) := by decide +kernel
theorem dL_law_202 : decode cL_law 202 = .ok (.iadd, 1) := by decide +kernel
theorem dL_law_203 : decode cL_law 203 = .ok (.iaload, 1) := by decide +kernel
theorem dL_law_204 : decode cL_law 204 = .ok (.invokevirtual 105, 3) := by decide +kernel
theorem dL_law_207 : decode cL_law 207 = .ok (.istore 7, 2) := by decide +kernel
theorem dL_law_209 : decode cL_law 209 = .ok (.aload_n 2, 1) := by decide +kernel
theorem dL_law_210 : decode cL_law 210 = .ok (.invokevirtual 106, 3) := by decide +kernel
theorem dL_law_213 : decode cL_law 213 = .ok (.iload 6, 2) := by decide +kernel
theorem dL_law_215 : decode cL_law 215 = .ok (.if_icmp .eq 5, 3) := by decide +kernel
theorem dL_law_218 : decode cL_law 218 = .ok (.iconst 0, 1) := by decide +kernel
theorem dL_law_219 : decode cL_law 219 = .ok (.ireturn, 1) := by decide +kernel
theorem dL_law_220 : decode cL_law 220 = .ok (.iload 6, 2) := by decide +kernel
theorem dL_law_222 : decode cL_law 222 = .ok (.ifCond .ne 15, 3) := by decide +kernel
theorem dL_law_225 : decode cL_law 225 = .ok (.aload_n 3, 1) := by decide +kernel
theorem dL_law_226 : decode cL_law 226 = .ok (.iconst 0, 1) := by decide +kernel
theorem dL_law_227 : decode cL_law 227 = .ok (.laload, 1) := by decide +kernel
theorem dL_law_228 : decode cL_law 228 = .ok (.iload 7, 2) := by decide +kernel
theorem dL_law_230 : decode cL_law 230 = .ok (.i2l, 1) := by decide +kernel
theorem dL_law_231 : decode cL_law 231 = .ok (.lcmp, 1) := by decide +kernel
theorem dL_law_232 : decode cL_law 232 = .ok (.ifCond .eq 5, 3) := by decide +kernel
theorem dL_law_235 : decode cL_law 235 = .ok (.iconst 0, 1) := by decide +kernel
theorem dL_law_236 : decode cL_law 236 = .ok (.ireturn, 1) := by decide +kernel
theorem dL_law_237 : decode cL_law 237 = .ok (.goto 1624, 3) := by decide +kernel
theorem dL_law_240 : decode cL_law 240 = .ok (.aload_n 1, 1) := by decide +kernel
theorem dL_law_241 : decode cL_law 241 = .ok (.aload_n 0, 1) := by decide +kernel
theorem dL_law_242 : decode cL_law 242 = .ok (.iload 5, 2) := by decide +kernel
theorem dL_law_244 : decode cL_law 244 = .ok (.iconst 1, 1) := by decide +kernel
theorem dL_law_245 : decode cL_law 245 = .ok (.iadd, 1) := by decide +kernel
theorem dL_law_246 : decode cL_law 246 = .ok (.iaload, 1) := by decide +kernel
theorem dL_law_247 : decode cL_law 247 = .ok (.aload_n 0, 1) := by decide +kernel
theorem dL_law_248 : decode cL_law 248 = .ok (.iload 5, 2) := by decide +kernel
theorem dL_law_250 : decode cL_law 250 = .ok (.iconst 2, 1) := by decide +kernel
theorem dL_law_251 : decode cL_law 251 = .ok (.iadd, 1) := by decide +kernel
theorem dL_law_252 : decode cL_law 252 = .ok (.iaload, 1) := by decide +kernel
theorem dL_law_253 : decode cL_law 253 = .ok (.aload_n 3, 1) := by decide +kernel
theorem dL_law_254 : decode cL_law 254 = .ok (.invokestatic 109, 3) := by decide +kernel
theorem dL_law_257 : decode cL_law 257 = .ok (.istore 6, 2) := by decide +kernel
theorem dL_law_259 : decode cL_law 259 = .ok (.aload_n 2, 1) := by decide +kernel
theorem dL_law_260 : decode cL_law 260 = .ok (.aload_n 0, 1) := by decide +kernel
theorem dL_law_261 : decode cL_law 261 = .ok (.iload 5, 2) := by decide +kernel
theorem dL_law_263 : decode cL_law 263 = .ok (.iconst 1, 1) := by decide +kernel
theorem dL_law_264 : decode cL_law 264 = .ok (.iadd, 1) := by decide +kernel
theorem dL_law_265 : decode cL_law 265 = .ok (.iaload, 1) := by decide +kernel
theorem dL_law_266 : decode cL_law 266 = .ok (.aload_n 0, 1) := by decide +kernel
theorem dL_law_267 : decode cL_law 267 = .ok (.iload 5, 2) := by decide +kernel
theorem dL_law_269 : decode cL_law 269 = .ok (.iconst 2, 1) := by decide +kernel
theorem dL_law_270 : decode cL_law 270 = .ok (.iadd, 1) := by decide +kernel
theorem dL_law_271 : decode cL_law 271 = .ok (.iaload, 1) := by decide +kernel
theorem dL_law_272 : decode cL_law 272 = .ok (.invokevirtual 111, 3) := by decide +kernel
theorem dL_law_275 : decode cL_law 275 = .ok (.istore 7, 2) := by decide +kernel
theorem dL_law_277 : decode cL_law 277 = .ok (.aload_n 2, 1) := by decide +kernel
theorem dL_law_278 : decode cL_law 278 = .ok (.invokevirtual 106, 3) := by decide +kernel
theorem dL_law_281 : decode cL_law 281 = .ok (.iload 6, 2) := by decide +kernel
theorem dL_law_283 : decode cL_law 283 = .ok (.if_icmp .eq 5, 3) := by decide +kernel
theorem dL_law_286 : decode cL_law 286 = .ok (.iconst 0, 1) := by decide +kernel
theorem dL_law_287 : decode cL_law 287 = .ok (.ireturn, 1) := by decide +kernel
theorem dL_law_288 : decode cL_law 288 = .ok (.iload 6, 2) := by decide +kernel
theorem dL_law_290 : decode cL_law 290 = .ok (.ifCond .ne 15, 3) := by decide +kernel
theorem dL_law_293 : decode cL_law 293 = .ok (.aload_n 3, 1) := by decide +kernel
theorem dL_law_294 : decode cL_law 294 = .ok (.iconst 0, 1) := by decide +kernel
theorem dL_law_295 : decode cL_law 295 = .ok (.laload, 1) := by decide +kernel
theorem dL_law_296 : decode cL_law 296 = .ok (.iload 7, 2) := by decide +kernel
theorem dL_law_298 : decode cL_law 298 = .ok (.i2l, 1) := by decide +kernel
theorem dL_law_299 : decode cL_law 299 = .ok (.lcmp, 1) := by decide +kernel
theorem dL_law_300 : decode cL_law 300 = .ok (.ifCond .eq 5, 3) := by decide +kernel
theorem dL_law_303 : decode cL_law 303 = .ok (.iconst 0, 1) := by decide +kernel
theorem dL_law_304 : decode cL_law 304 = .ok (.ireturn, 1) := by decide +kernel
theorem dL_law_305 : decode cL_law 305 = .ok (.goto 1556, 3) := by decide +kernel
theorem dL_law_308 : decode cL_law 308 = .ok (.aload_n 1, 1) := by decide +kernel
theorem dL_law_309 : decode cL_law 309 = .ok (.aload_n 0, 1) := by decide +kernel
theorem dL_law_310 : decode cL_law 310 = .ok (.iload 5, 2) := by decide +kernel
theorem dL_law_312 : decode cL_law 312 = .ok (.iconst 1, 1) := by decide +kernel
theorem dL_law_313 : decode cL_law 313 = .ok (.iadd, 1) := by decide +kernel
theorem dL_law_314 : decode cL_law 314 = .ok (.iaload, 1) := by decide +kernel
theorem dL_law_315 : decode cL_law 315 = .ok (.aload_n 0, 1) := by decide +kernel
theorem dL_law_316 : decode cL_law 316 = .ok (.iload 5, 2) := by decide +kernel
theorem dL_law_318 : decode cL_law 318 = .ok (.iconst 2, 1) := by decide +kernel
theorem dL_law_319 : decode cL_law 319 = .ok (.iadd, 1) := by decide +kernel
theorem dL_law_320 : decode cL_law 320 = .ok (.iaload, 1) := by decide +kernel
theorem dL_law_321 : decode cL_law 321 = .ok (.aload_n 0, 1) := by decide +kernel
theorem dL_law_322 : decode cL_law 322 = .ok (.iload 5, 2) := by decide +kernel
theorem dL_law_324 : decode cL_law 324 = .ok (.iconst 3, 1) := by decide +kernel
theorem dL_law_325 : decode cL_law 325 = .ok (.iadd, 1) := by decide +kernel
theorem dL_law_326 : decode cL_law 326 = .ok (.iaload, 1) := by decide +kernel
theorem dL_law_327 : decode cL_law 327 = .ok (.aload_n 3, 1) := by decide +kernel
theorem dL_law_328 : decode cL_law 328 = .ok (.invokestatic 112, 3) := by decide +kernel
theorem dL_law_331 : decode cL_law 331 = .ok (.istore 6, 2) := by decide +kernel
theorem dL_law_333 : decode cL_law 333 = .ok (.aload_n 2, 1) := by decide +kernel
theorem dL_law_334 : decode cL_law 334 = .ok (.aload_n 0, 1) := by decide +kernel
theorem dL_law_335 : decode cL_law 335 = .ok (.iload 5, 2) := by decide +kernel
theorem dL_law_337 : decode cL_law 337 = .ok (.iconst 1, 1) := by decide +kernel
theorem dL_law_338 : decode cL_law 338 = .ok (.iadd, 1) := by decide +kernel
theorem dL_law_339 : decode cL_law 339 = .ok (.iaload, 1) := by decide +kernel
theorem dL_law_340 : decode cL_law 340 = .ok (.aload_n 0, 1) := by decide +kernel
theorem dL_law_341 : decode cL_law 341 = .ok (.iload 5, 2) := by decide +kernel
theorem dL_law_343 : decode cL_law 343 = .ok (.iconst 2, 1) := by decide +kernel
theorem dL_law_344 : decode cL_law 344 = .ok (.iadd, 1) := by decide +kernel
theorem dL_law_345 : decode cL_law 345 = .ok (.iaload, 1) := by decide +kernel
theorem dL_law_346 : decode cL_law 346 = .ok (.aload_n 0, 1) := by decide +kernel
theorem dL_law_347 : decode cL_law 347 = .ok (.iload 5, 2) := by decide +kernel
theorem dL_law_349 : decode cL_law 349 = .ok (.iconst 3, 1) := by decide +kernel
theorem dL_law_350 : decode cL_law 350 = .ok (.iadd, 1) := by decide +kernel
theorem dL_law_351 : decode cL_law 351 = .ok (.iaload, 1) := by decide +kernel
theorem dL_law_352 : decode cL_law 352 = .ok (.invokevirtual 115, 3) := by decide +kernel
theorem dL_law_355 : decode cL_law 355 = .ok (.istore 7, 2) := by decide +kernel
theorem dL_law_357 : decode cL_law 357 = .ok (.aload_n 2, 1) := by decide +kernel
theorem dL_law_358 : decode cL_law 358 = .ok (.invokevirtual 106, 3) := by decide +kernel
theorem dL_law_361 : decode cL_law 361 = .ok (.iload 6, 2) := by decide +kernel
theorem dL_law_363 : decode cL_law 363 = .ok (.if_icmp .eq 5, 3) := by decide +kernel
theorem dL_law_366 : decode cL_law 366 = .ok (.iconst 0, 1) := by decide +kernel
theorem dL_law_367 : decode cL_law 367 = .ok (.ireturn, 1) := by decide +kernel
theorem dL_law_368 : decode cL_law 368 = .ok (.iload 6, 2) := by decide +kernel
theorem dL_law_370 : decode cL_law 370 = .ok (.ifCond .ne 15, 3) := by decide +kernel
theorem dL_law_373 : decode cL_law 373 = .ok (.aload_n 3, 1) := by decide +kernel
theorem dL_law_374 : decode cL_law 374 = .ok (.iconst 0, 1) := by decide +kernel
theorem dL_law_375 : decode cL_law 375 = .ok (.laload, 1) := by decide +kernel
theorem dL_law_376 : decode cL_law 376 = .ok (.iload 7, 2) := by decide +kernel
theorem dL_law_378 : decode cL_law 378 = .ok (.i2l, 1) := by decide +kernel
theorem dL_law_379 : decode cL_law 379 = .ok (.lcmp, 1) := by decide +kernel
theorem dL_law_380 : decode cL_law 380 = .ok (.ifCond .eq 5, 3) := by decide +kernel
theorem dL_law_383 : decode cL_law 383 = .ok (.iconst 0, 1) := by decide +kernel
theorem dL_law_384 : decode cL_law 384 = .ok (.ireturn, 1) := by decide +kernel
theorem dL_law_385 : decode cL_law 385 = .ok (.goto 1476, 3) := by decide +kernel
theorem dL_law_388 : decode cL_law 388 = .ok (.aload_n 1, 1) := by decide +kernel
theorem dL_law_389 : decode cL_law 389 = .ok (.aload_n 0, 1) := by decide +kernel
theorem dL_law_390 : decode cL_law 390 = .ok (.iload 5, 2) := by decide +kernel
theorem dL_law_392 : decode cL_law 392 = .ok (.iconst 1, 1) := by decide +kernel
theorem dL_law_393 : decode cL_law 393 = .ok (.iadd, 1) := by decide +kernel
theorem dL_law_394 : decode cL_law 394 = .ok (.iaload, 1) := by decide +kernel
theorem dL_law_395 : decode cL_law 395 = .ok (.aload_n 0, 1) := by decide +kernel
theorem dL_law_396 : decode cL_law 396 = .ok (.iload 5, 2) := by decide +kernel
theorem dL_law_398 : decode cL_law 398 = .ok (.iconst 2, 1) := by decide +kernel
theorem dL_law_399 : decode cL_law 399 = .ok (.iadd, 1) := by decide +kernel
theorem dL_law_400 : decode cL_law 400 = .ok (.iaload, 1) := by decide +kernel
theorem dL_law_401 : decode cL_law 401 = .ok (.ifCond .eq 7, 3) := by decide +kernel
theorem dL_law_404 : decode cL_law 404 = .ok (.iconst 1, 1) := by decide +kernel
theorem dL_law_405 : decode cL_law 405 = .ok (.goto 4, 3) := by decide +kernel
theorem dL_law_408 : decode cL_law 408 = .ok (.iconst 0, 1) := by decide +kernel
theorem dL_law_409 : decode cL_law 409 = .ok (.aload_n 3, 1) := by decide +kernel
theorem dL_law_410 : decode cL_law 410 = .ok (.invokestatic 116, 3) := by decide +kernel
theorem dL_law_413 : decode cL_law 413 = .ok (.istore 6, 2) := by decide +kernel
theorem dL_law_415 : decode cL_law 415 = .ok (.aload_n 2, 1) := by decide +kernel
theorem dL_law_416 : decode cL_law 416 = .ok (.aload_n 0, 1) := by decide +kernel
theorem dL_law_417 : decode cL_law 417 = .ok (.iload 5, 2) := by decide +kernel
theorem dL_law_419 : decode cL_law 419 = .ok (.iconst 1, 1) := by decide +kernel
theorem dL_law_420 : decode cL_law 420 = .ok (.iadd, 1) := by decide +kernel
theorem dL_law_421 : decode cL_law 421 = .ok (.iaload, 1) := by decide +kernel
theorem dL_law_422 : decode cL_law 422 = .ok (.aload_n 0, 1) := by decide +kernel
theorem dL_law_423 : decode cL_law 423 = .ok (.iload 5, 2) := by decide +kernel
theorem dL_law_425 : decode cL_law 425 = .ok (.iconst 2, 1) := by decide +kernel
theorem dL_law_426 : decode cL_law 426 = .ok (.iadd, 1) := by decide +kernel
theorem dL_law_427 : decode cL_law 427 = .ok (.iaload, 1) := by decide +kernel
theorem dL_law_428 : decode cL_law 428 = .ok (.ifCond .eq 7, 3) := by decide +kernel
theorem dL_law_431 : decode cL_law 431 = .ok (.iconst 1, 1) := by decide +kernel
theorem dL_law_432 : decode cL_law 432 = .ok (.goto 4, 3) := by decide +kernel
theorem dL_law_435 : decode cL_law 435 = .ok (.iconst 0, 1) := by decide +kernel
theorem dL_law_436 : decode cL_law 436 = .ok (.invokevirtual 119, 3) := by decide +kernel
theorem dL_law_439 : decode cL_law 439 = .ok (.istore 7, 2) := by decide +kernel
theorem dL_law_441 : decode cL_law 441 = .ok (.aload_n 2, 1) := by decide +kernel
theorem dL_law_442 : decode cL_law 442 = .ok (.invokevirtual 106, 3) := by decide +kernel
theorem dL_law_445 : decode cL_law 445 = .ok (.iload 6, 2) := by decide +kernel
theorem dL_law_447 : decode cL_law 447 = .ok (.if_icmp .eq 5, 3) := by decide +kernel
theorem dL_law_450 : decode cL_law 450 = .ok (.iconst 0, 1) := by decide +kernel
theorem dL_law_451 : decode cL_law 451 = .ok (.ireturn, 1) := by decide +kernel
theorem dL_law_452 : decode cL_law 452 = .ok (.iload 6, 2) := by decide +kernel
theorem dL_law_454 : decode cL_law 454 = .ok (.ifCond .ne 15, 3) := by decide +kernel
theorem dL_law_457 : decode cL_law 457 = .ok (.aload_n 3, 1) := by decide +kernel
theorem dL_law_458 : decode cL_law 458 = .ok (.iconst 0, 1) := by decide +kernel
theorem dL_law_459 : decode cL_law 459 = .ok (.laload, 1) := by decide +kernel
theorem dL_law_460 : decode cL_law 460 = .ok (.iload 7, 2) := by decide +kernel
theorem dL_law_462 : decode cL_law 462 = .ok (.i2l, 1) := by decide +kernel
theorem dL_law_463 : decode cL_law 463 = .ok (.lcmp, 1) := by decide +kernel
theorem dL_law_464 : decode cL_law 464 = .ok (.ifCond .eq 5, 3) := by decide +kernel
theorem dL_law_467 : decode cL_law 467 = .ok (.iconst 0, 1) := by decide +kernel
theorem dL_law_468 : decode cL_law 468 = .ok (.ireturn, 1) := by decide +kernel
theorem dL_law_469 : decode cL_law 469 = .ok (.goto 1392, 3) := by decide +kernel
theorem dL_law_472 : decode cL_law 472 = .ok (.aload_n 1, 1) := by decide +kernel
theorem dL_law_473 : decode cL_law 473 = .ok (.aload_n 0, 1) := by decide +kernel
theorem dL_law_474 : decode cL_law 474 = .ok (.iload 5, 2) := by decide +kernel
theorem dL_law_476 : decode cL_law 476 = .ok (.iconst 1, 1) := by decide +kernel
theorem dL_law_477 : decode cL_law 477 = .ok (.iadd, 1) := by decide +kernel
theorem dL_law_478 : decode cL_law 478 = .ok (.iaload, 1) := by decide +kernel
theorem dL_law_479 : decode cL_law 479 = .ok (.aload_n 3, 1) := by decide +kernel
theorem dL_law_480 : decode cL_law 480 = .ok (.invokestatic 120, 3) := by decide +kernel
theorem dL_law_483 : decode cL_law 483 = .ok (.istore 6, 2) := by decide +kernel
theorem dL_law_485 : decode cL_law 485 = .ok (.aload_n 2, 1) := by decide +kernel
theorem dL_law_486 : decode cL_law 486 = .ok (.aload_n 0, 1) := by decide +kernel
theorem dL_law_487 : decode cL_law 487 = .ok (.iload 5, 2) := by decide +kernel
theorem dL_law_489 : decode cL_law 489 = .ok (.iconst 1, 1) := by decide +kernel
theorem dL_law_490 : decode cL_law 490 = .ok (.iadd, 1) := by decide +kernel
theorem dL_law_491 : decode cL_law 491 = .ok (.iaload, 1) := by decide +kernel
theorem dL_law_492 : decode cL_law 492 = .ok (.invokevirtual 123, 3) := by decide +kernel
theorem dL_law_495 : decode cL_law 495 = .ok (.istore 7, 2) := by decide +kernel
theorem dL_law_497 : decode cL_law 497 = .ok (.aload_n 2, 1) := by decide +kernel
theorem dL_law_498 : decode cL_law 498 = .ok (.invokevirtual 106, 3) := by decide +kernel
theorem dL_law_501 : decode cL_law 501 = .ok (.iload 6, 2) := by decide +kernel
theorem dL_law_503 : decode cL_law 503 = .ok (.if_icmp .eq 5, 3) := by decide +kernel
theorem dL_law_506 : decode cL_law 506 = .ok (.iconst 0, 1) := by decide +kernel
theorem dL_law_507 : decode cL_law 507 = .ok (.ireturn, 1) := by decide +kernel
theorem dL_law_508 : decode cL_law 508 = .ok (.iload 6, 2) := by decide +kernel
theorem dL_law_510 : decode cL_law 510 = .ok (.ifCond .ne 15, 3) := by decide +kernel
theorem dL_law_513 : decode cL_law 513 = .ok (.aload_n 3, 1) := by decide +kernel
theorem dL_law_514 : decode cL_law 514 = .ok (.iconst 0, 1) := by decide +kernel
theorem dL_law_515 : decode cL_law 515 = .ok (.laload, 1) := by decide +kernel
theorem dL_law_516 : decode cL_law 516 = .ok (.iload 7, 2) := by decide +kernel
theorem dL_law_518 : decode cL_law 518 = .ok (.i2l, 1) := by decide +kernel
theorem dL_law_519 : decode cL_law 519 = .ok (.lcmp, 1) := by decide +kernel
theorem dL_law_520 : decode cL_law 520 = .ok (.ifCond .eq 5, 3) := by decide +kernel
theorem dL_law_523 : decode cL_law 523 = .ok (.iconst 0, 1) := by decide +kernel
theorem dL_law_524 : decode cL_law 524 = .ok (.ireturn, 1) := by decide +kernel
theorem dL_law_525 : decode cL_law 525 = .ok (.goto 1336, 3) := by decide +kernel
theorem dL_law_528 : decode cL_law 528 = .ok (.aload_n 1, 1) := by decide +kernel
theorem dL_law_529 : decode cL_law 529 = .ok (.aload_n 0, 1) := by decide +kernel
theorem dL_law_530 : decode cL_law 530 = .ok (.iload 5, 2) := by decide +kernel
theorem dL_law_532 : decode cL_law 532 = .ok (.iconst 1, 1) := by decide +kernel
theorem dL_law_533 : decode cL_law 533 = .ok (.iadd, 1) := by decide +kernel
theorem dL_law_534 : decode cL_law 534 = .ok (.iaload, 1) := by decide +kernel
theorem dL_law_535 : decode cL_law 535 = .ok (.aload_n 0, 1) := by decide +kernel
theorem dL_law_536 : decode cL_law 536 = .ok (.iload 5, 2) := by decide +kernel
theorem dL_law_538 : decode cL_law 538 = .ok (.iconst 2, 1) := by decide +kernel
theorem dL_law_539 : decode cL_law 539 = .ok (.iadd, 1) := by decide +kernel
theorem dL_law_540 : decode cL_law 540 = .ok (.iaload, 1) := by decide +kernel
theorem dL_law_541 : decode cL_law 541 = .ok (.aload_n 0, 1) := by decide +kernel
theorem dL_law_542 : decode cL_law 542 = .ok (.iload 5, 2) := by decide +kernel
theorem dL_law_544 : decode cL_law 544 = .ok (.iconst 3, 1) := by decide +kernel
theorem dL_law_545 : decode cL_law 545 = .ok (.iadd, 1) := by decide +kernel
theorem dL_law_546 : decode cL_law 546 = .ok (.iaload, 1) := by decide +kernel
theorem dL_law_547 : decode cL_law 547 = .ok (.aload_n 0, 1) := by decide +kernel
theorem dL_law_548 : decode cL_law 548 = .ok (.iload 5, 2) := by decide +kernel
theorem dL_law_550 : decode cL_law 550 = .ok (.iconst 4, 1) := by decide +kernel
theorem dL_law_551 : decode cL_law 551 = .ok (.iadd, 1) := by decide +kernel
theorem dL_law_552 : decode cL_law 552 = .ok (.iaload, 1) := by decide +kernel
theorem dL_law_553 : decode cL_law 553 = .ok (.aload_n 3, 1) := by decide +kernel
theorem dL_law_554 : decode cL_law 554 = .ok (.invokestatic 124, 3) := by decide +kernel
theorem dL_law_557 : decode cL_law 557 = .ok (.istore 6, 2) := by decide +kernel
theorem dL_law_559 : decode cL_law 559 = .ok (.aload_n 2, 1) := by decide +kernel
theorem dL_law_560 : decode cL_law 560 = .ok (.aload_n 0, 1) := by decide +kernel
theorem dL_law_561 : decode cL_law 561 = .ok (.iload 5, 2) := by decide +kernel
theorem dL_law_563 : decode cL_law 563 = .ok (.iconst 1, 1) := by decide +kernel
theorem dL_law_564 : decode cL_law 564 = .ok (.iadd, 1) := by decide +kernel
theorem dL_law_565 : decode cL_law 565 = .ok (.iaload, 1) := by decide +kernel
theorem dL_law_566 : decode cL_law 566 = .ok (.aload_n 0, 1) := by decide +kernel
theorem dL_law_567 : decode cL_law 567 = .ok (.iload 5, 2) := by decide +kernel
theorem dL_law_569 : decode cL_law 569 = .ok (.iconst 2, 1) := by decide +kernel
theorem dL_law_570 : decode cL_law 570 = .ok (.iadd, 1) := by decide +kernel
theorem dL_law_571 : decode cL_law 571 = .ok (.iaload, 1) := by decide +kernel
theorem dL_law_572 : decode cL_law 572 = .ok (.aload_n 0, 1) := by decide +kernel
theorem dL_law_573 : decode cL_law 573 = .ok (.iload 5, 2) := by decide +kernel
theorem dL_law_575 : decode cL_law 575 = .ok (.iconst 3, 1) := by decide +kernel
theorem dL_law_576 : decode cL_law 576 = .ok (.iadd, 1) := by decide +kernel
theorem dL_law_577 : decode cL_law 577 = .ok (.iaload, 1) := by decide +kernel
theorem dL_law_578 : decode cL_law 578 = .ok (.aload_n 0, 1) := by decide +kernel
theorem dL_law_579 : decode cL_law 579 = .ok (.iload 5, 2) := by decide +kernel
theorem dL_law_581 : decode cL_law 581 = .ok (.iconst 4, 1) := by decide +kernel
theorem dL_law_582 : decode cL_law 582 = .ok (.iadd, 1) := by decide +kernel
theorem dL_law_583 : decode cL_law 583 = .ok (.iaload, 1) := by decide +kernel
theorem dL_law_584 : decode cL_law 584 = .ok (.invokevirtual 127, 3) := by decide +kernel
theorem dL_law_587 : decode cL_law 587 = .ok (.istore 7, 2) := by decide +kernel
theorem dL_law_589 : decode cL_law 589 = .ok (.aload_n 2, 1) := by decide +kernel
theorem dL_law_590 : decode cL_law 590 = .ok (.invokevirtual 106, 3) := by decide +kernel
theorem dL_law_593 : decode cL_law 593 = .ok (.iload 6, 2) := by decide +kernel
theorem dL_law_595 : decode cL_law 595 = .ok (.if_icmp .eq 5, 3) := by decide +kernel
theorem dL_law_598 : decode cL_law 598 = .ok (.iconst 0, 1) := by decide +kernel
theorem dL_law_599 : decode cL_law 599 = .ok (.ireturn, 1) := by decide +kernel
theorem dL_law_600 : decode cL_law 600 = .ok (.iload 6, 2) := by decide +kernel
theorem dL_law_602 : decode cL_law 602 = .ok (.ifCond .ne 15, 3) := by decide +kernel
theorem dL_law_605 : decode cL_law 605 = .ok (.aload_n 3, 1) := by decide +kernel
theorem dL_law_606 : decode cL_law 606 = .ok (.iconst 0, 1) := by decide +kernel
theorem dL_law_607 : decode cL_law 607 = .ok (.laload, 1) := by decide +kernel
theorem dL_law_608 : decode cL_law 608 = .ok (.iload 7, 2) := by decide +kernel
theorem dL_law_610 : decode cL_law 610 = .ok (.i2l, 1) := by decide +kernel
theorem dL_law_611 : decode cL_law 611 = .ok (.lcmp, 1) := by decide +kernel
theorem dL_law_612 : decode cL_law 612 = .ok (.ifCond .eq 5, 3) := by decide +kernel
theorem dL_law_615 : decode cL_law 615 = .ok (.iconst 0, 1) := by decide +kernel
theorem dL_law_616 : decode cL_law 616 = .ok (.ireturn, 1) := by decide +kernel
theorem dL_law_617 : decode cL_law 617 = .ok (.goto 1244, 3) := by decide +kernel
theorem dL_law_620 : decode cL_law 620 = .ok (.aload_n 1, 1) := by decide +kernel
theorem dL_law_621 : decode cL_law 621 = .ok (.aload_n 0, 1) := by decide +kernel
theorem dL_law_622 : decode cL_law 622 = .ok (.iload 5, 2) := by decide +kernel
theorem dL_law_624 : decode cL_law 624 = .ok (.iconst 1, 1) := by decide +kernel
theorem dL_law_625 : decode cL_law 625 = .ok (.iadd, 1) := by decide +kernel
theorem dL_law_626 : decode cL_law 626 = .ok (.iaload, 1) := by decide +kernel
theorem dL_law_627 : decode cL_law 627 = .ok (.aload_n 3, 1) := by decide +kernel
theorem dL_law_628 : decode cL_law 628 = .ok (.invokestatic 128, 3) := by decide +kernel
theorem dL_law_631 : decode cL_law 631 = .ok (.istore 6, 2) := by decide +kernel
theorem dL_law_633 : decode cL_law 633 = .ok (.aload_n 2, 1) := by decide +kernel
theorem dL_law_634 : decode cL_law 634 = .ok (.aload_n 0, 1) := by decide +kernel
theorem dL_law_635 : decode cL_law 635 = .ok (.iload 5, 2) := by decide +kernel
theorem dL_law_637 : decode cL_law 637 = .ok (.iconst 1, 1) := by decide +kernel
theorem dL_law_638 : decode cL_law 638 = .ok (.iadd, 1) := by decide +kernel
theorem dL_law_639 : decode cL_law 639 = .ok (.iaload, 1) := by decide +kernel
theorem dL_law_640 : decode cL_law 640 = .ok (.invokevirtual 130, 3) := by decide +kernel
theorem dL_law_643 : decode cL_law 643 = .ok (.istore 7, 2) := by decide +kernel
theorem dL_law_645 : decode cL_law 645 = .ok (.aload_n 2, 1) := by decide +kernel
theorem dL_law_646 : decode cL_law 646 = .ok (.invokevirtual 106, 3) := by decide +kernel
theorem dL_law_649 : decode cL_law 649 = .ok (.iload 6, 2) := by decide +kernel
theorem dL_law_651 : decode cL_law 651 = .ok (.if_icmp .eq 5, 3) := by decide +kernel
theorem dL_law_654 : decode cL_law 654 = .ok (.iconst 0, 1) := by decide +kernel
theorem dL_law_655 : decode cL_law 655 = .ok (.ireturn, 1) := by decide +kernel
theorem dL_law_656 : decode cL_law 656 = .ok (.iload 6, 2) := by decide +kernel
theorem dL_law_658 : decode cL_law 658 = .ok (.ifCond .ne 15, 3) := by decide +kernel
theorem dL_law_661 : decode cL_law 661 = .ok (.aload_n 3, 1) := by decide +kernel
theorem dL_law_662 : decode cL_law 662 = .ok (.iconst 0, 1) := by decide +kernel
theorem dL_law_663 : decode cL_law 663 = .ok (.laload, 1) := by decide +kernel
theorem dL_law_664 : decode cL_law 664 = .ok (.iload 7, 2) := by decide +kernel
theorem dL_law_666 : decode cL_law 666 = .ok (.i2l, 1) := by decide +kernel
theorem dL_law_667 : decode cL_law 667 = .ok (.lcmp, 1) := by decide +kernel
theorem dL_law_668 : decode cL_law 668 = .ok (.ifCond .eq 5, 3) := by decide +kernel
theorem dL_law_671 : decode cL_law 671 = .ok (.iconst 0, 1) := by decide +kernel
theorem dL_law_672 : decode cL_law 672 = .ok (.ireturn, 1) := by decide +kernel
theorem dL_law_673 : decode cL_law 673 = .ok (.goto 1188, 3) := by decide +kernel
theorem dL_law_676 : decode cL_law 676 = .ok (.aload_n 1, 1) := by decide +kernel
theorem dL_law_677 : decode cL_law 677 = .ok (.aload_n 3, 1) := by decide +kernel
theorem dL_law_678 : decode cL_law 678 = .ok (.invokestatic 131, 3) := by decide +kernel
theorem dL_law_681 : decode cL_law 681 = .ok (.istore 6, 2) := by decide +kernel
theorem dL_law_683 : decode cL_law 683 = .ok (.aload_n 2, 1) := by decide +kernel
theorem dL_law_684 : decode cL_law 684 = .ok (.invokevirtual 134, 3) := by decide +kernel
theorem dL_law_687 : decode cL_law 687 = .ok (.istore 7, 2) := by decide +kernel
theorem dL_law_689 : decode cL_law 689 = .ok (.aload_n 2, 1) := by decide +kernel
theorem dL_law_690 : decode cL_law 690 = .ok (.invokevirtual 106, 3) := by decide +kernel
theorem dL_law_693 : decode cL_law 693 = .ok (.iload 6, 2) := by decide +kernel
theorem dL_law_695 : decode cL_law 695 = .ok (.if_icmp .eq 5, 3) := by decide +kernel
theorem dL_law_698 : decode cL_law 698 = .ok (.iconst 0, 1) := by decide +kernel
theorem dL_law_699 : decode cL_law 699 = .ok (.ireturn, 1) := by decide +kernel
theorem dL_law_700 : decode cL_law 700 = .ok (.iload 6, 2) := by decide +kernel
theorem dL_law_702 : decode cL_law 702 = .ok (.ifCond .ne 15, 3) := by decide +kernel
theorem dL_law_705 : decode cL_law 705 = .ok (.aload_n 3, 1) := by decide +kernel
theorem dL_law_706 : decode cL_law 706 = .ok (.iconst 0, 1) := by decide +kernel
theorem dL_law_707 : decode cL_law 707 = .ok (.laload, 1) := by decide +kernel
theorem dL_law_708 : decode cL_law 708 = .ok (.iload 7, 2) := by decide +kernel
theorem dL_law_710 : decode cL_law 710 = .ok (.i2l, 1) := by decide +kernel
theorem dL_law_711 : decode cL_law 711 = .ok (.lcmp, 1) := by decide +kernel
theorem dL_law_712 : decode cL_law 712 = .ok (.ifCond .eq 5, 3) := by decide +kernel
theorem dL_law_715 : decode cL_law 715 = .ok (.iconst 0, 1) := by decide +kernel
theorem dL_law_716 : decode cL_law 716 = .ok (.ireturn, 1) := by decide +kernel
theorem dL_law_717 : decode cL_law 717 = .ok (.goto 1144, 3) := by decide +kernel
theorem dL_law_720 : decode cL_law 720 = .ok (.aload_n 1, 1) := by decide +kernel
theorem dL_law_721 : decode cL_law 721 = .ok (.aload_n 0, 1) := by decide +kernel
theorem dL_law_722 : decode cL_law 722 = .ok (.iload 5, 2) := by decide +kernel
theorem dL_law_724 : decode cL_law 724 = .ok (.iconst 1, 1) := by decide +kernel
theorem dL_law_725 : decode cL_law 725 = .ok (.iadd, 1) := by decide +kernel
theorem dL_law_726 : decode cL_law 726 = .ok (.iaload, 1) := by decide +kernel
theorem dL_law_727 : decode cL_law 727 = .ok (.aload_n 3, 1) := by decide +kernel
theorem dL_law_728 : decode cL_law 728 = .ok (.invokestatic 135, 3) := by decide +kernel
theorem dL_law_731 : decode cL_law 731 = .ok (.istore 6, 2) := by decide +kernel
theorem dL_law_733 : decode cL_law 733 = .ok (.aload_n 2, 1) := by decide +kernel
theorem dL_law_734 : decode cL_law 734 = .ok (.aload_n 0, 1) := by decide +kernel
theorem dL_law_735 : decode cL_law 735 = .ok (.iload 5, 2) := by decide +kernel
theorem dL_law_737 : decode cL_law 737 = .ok (.iconst 1, 1) := by decide +kernel
theorem dL_law_738 : decode cL_law 738 = .ok (.iadd, 1) := by decide +kernel
theorem dL_law_739 : decode cL_law 739 = .ok (.iaload, 1) := by decide +kernel
theorem dL_law_740 : decode cL_law 740 = .ok (.invokevirtual 137, 3) := by decide +kernel
theorem dL_law_743 : decode cL_law 743 = .ok (.istore 7, 2) := by decide +kernel
theorem dL_law_745 : decode cL_law 745 = .ok (.aload_n 2, 1) := by decide +kernel
theorem dL_law_746 : decode cL_law 746 = .ok (.invokevirtual 106, 3) := by decide +kernel
theorem dL_law_749 : decode cL_law 749 = .ok (.iload 6, 2) := by decide +kernel
theorem dL_law_751 : decode cL_law 751 = .ok (.if_icmp .eq 5, 3) := by decide +kernel
theorem dL_law_754 : decode cL_law 754 = .ok (.iconst 0, 1) := by decide +kernel
theorem dL_law_755 : decode cL_law 755 = .ok (.ireturn, 1) := by decide +kernel
theorem dL_law_756 : decode cL_law 756 = .ok (.iload 6, 2) := by decide +kernel
theorem dL_law_758 : decode cL_law 758 = .ok (.ifCond .ne 15, 3) := by decide +kernel
theorem dL_law_761 : decode cL_law 761 = .ok (.aload_n 3, 1) := by decide +kernel
theorem dL_law_762 : decode cL_law 762 = .ok (.iconst 0, 1) := by decide +kernel
theorem dL_law_763 : decode cL_law 763 = .ok (.laload, 1) := by decide +kernel
theorem dL_law_764 : decode cL_law 764 = .ok (.iload 7, 2) := by decide +kernel
theorem dL_law_766 : decode cL_law 766 = .ok (.i2l, 1) := by decide +kernel
theorem dL_law_767 : decode cL_law 767 = .ok (.lcmp, 1) := by decide +kernel
theorem dL_law_768 : decode cL_law 768 = .ok (.ifCond .eq 5, 3) := by decide +kernel
theorem dL_law_771 : decode cL_law 771 = .ok (.iconst 0, 1) := by decide +kernel
theorem dL_law_772 : decode cL_law 772 = .ok (.ireturn, 1) := by decide +kernel
theorem dL_law_773 : decode cL_law 773 = .ok (.goto 1088, 3) := by decide +kernel
theorem dL_law_776 : decode cL_law 776 = .ok (.aload_n 1, 1) := by decide +kernel
theorem dL_law_777 : decode cL_law 777 = .ok (.invokevirtual 138, 3) := by decide +kernel
theorem dL_law_780 : decode cL_law 780 = .ok (.aload_n 2, 1) := by decide +kernel
theorem dL_law_781 : decode cL_law 781 = .ok (.invokevirtual 141, 3) := by decide +kernel
theorem dL_law_784 : decode cL_law 784 = .ok (.if_icmp .eq 1077, 3) := by decide +kernel
theorem dL_law_787 : decode cL_law 787 = .ok (.iconst 0, 1) := by decide +kernel
theorem dL_law_788 : decode cL_law 788 = .ok (.ireturn, 1) := by decide +kernel
theorem dL_law_789 : decode cL_law 789 = .ok (.aload_n 1, 1) := by decide +kernel
theorem dL_law_790 : decode cL_law 790 = .ok (.invokevirtual 142, 3) := by decide +kernel
theorem dL_law_793 : decode cL_law 793 = .ok (.aload_n 2, 1) := by decide +kernel
theorem dL_law_794 : decode cL_law 794 = .ok (.invokevirtual 145, 3) := by decide +kernel
theorem dL_law_797 : decode cL_law 797 = .ok (.if_icmp .eq 1064, 3) := by decide +kernel
theorem dL_law_800 : decode cL_law 800 = .ok (.iconst 0, 1) := by decide +kernel
theorem dL_law_801 : decode cL_law 801 = .ok (.ireturn, 1) := by decide +kernel
theorem dL_law_802 : decode cL_law 802 = .ok (.aload_n 1, 1) := by decide +kernel
theorem dL_law_803 : decode cL_law 803 = .ok (.aload_n 3, 1) := by decide +kernel
theorem dL_law_804 : decode cL_law 804 = .ok (.invokestatic 146, 3) := by decide +kernel
theorem dL_law_807 : decode cL_law 807 = .ok (.istore 6, 2) := by decide +kernel
theorem dL_law_809 : decode cL_law 809 = .ok (.aload_n 2, 1) := by decide +kernel
theorem dL_law_810 : decode cL_law 810 = .ok (.invokevirtual 148, 3) := by decide +kernel
theorem dL_law_813 : decode cL_law 813 = .ok (.istore 7, 2) := by decide +kernel
theorem dL_law_815 : decode cL_law 815 = .ok (.aload_n 2, 1) := by decide +kernel
theorem dL_law_816 : decode cL_law 816 = .ok (.invokevirtual 106, 3) := by decide +kernel
theorem dL_law_819 : decode cL_law 819 = .ok (.iload 6, 2) := by decide +kernel
theorem dL_law_821 : decode cL_law 821 = .ok (.if_icmp .eq 5, 3) := by decide +kernel
theorem dL_law_824 : decode cL_law 824 = .ok (.iconst 0, 1) := by decide +kernel
theorem dL_law_825 : decode cL_law 825 = .ok (.ireturn, 1) := by decide +kernel
theorem dL_law_826 : decode cL_law 826 = .ok (.iload 6, 2) := by decide +kernel
theorem dL_law_828 : decode cL_law 828 = .ok (.ifCond .ne 15, 3) := by decide +kernel
theorem dL_law_831 : decode cL_law 831 = .ok (.aload_n 3, 1) := by decide +kernel
theorem dL_law_832 : decode cL_law 832 = .ok (.iconst 0, 1) := by decide +kernel
theorem dL_law_833 : decode cL_law 833 = .ok (.laload, 1) := by decide +kernel
theorem dL_law_834 : decode cL_law 834 = .ok (.iload 7, 2) := by decide +kernel
theorem dL_law_836 : decode cL_law 836 = .ok (.i2l, 1) := by decide +kernel
theorem dL_law_837 : decode cL_law 837 = .ok (.lcmp, 1) := by decide +kernel
theorem dL_law_838 : decode cL_law 838 = .ok (.ifCond .eq 5, 3) := by decide +kernel
theorem dL_law_841 : decode cL_law 841 = .ok (.iconst 0, 1) := by decide +kernel
theorem dL_law_842 : decode cL_law 842 = .ok (.ireturn, 1) := by decide +kernel
theorem dL_law_843 : decode cL_law 843 = .ok (.goto 1018, 3) := by decide +kernel
theorem dL_law_846 : decode cL_law 846 = .ok (.aload_n 1, 1) := by decide +kernel
theorem dL_law_847 : decode cL_law 847 = .ok (.aload_n 0, 1) := by decide +kernel
theorem dL_law_848 : decode cL_law 848 = .ok (.iload 5, 2) := by decide +kernel
theorem dL_law_850 : decode cL_law 850 = .ok (.iconst 1, 1) := by decide +kernel
theorem dL_law_851 : decode cL_law 851 = .ok (.iadd, 1) := by decide +kernel
theorem dL_law_852 : decode cL_law 852 = .ok (.iaload, 1) := by decide +kernel
theorem dL_law_853 : decode cL_law 853 = .ok (.aload_n 3, 1) := by decide +kernel
theorem dL_law_854 : decode cL_law 854 = .ok (.invokestatic 149, 3) := by decide +kernel
theorem dL_law_857 : decode cL_law 857 = .ok (.istore 6, 2) := by decide +kernel
theorem dL_law_859 : decode cL_law 859 = .ok (.aload_n 2, 1) := by decide +kernel
theorem dL_law_860 : decode cL_law 860 = .ok (.aload_n 0, 1) := by decide +kernel
theorem dL_law_861 : decode cL_law 861 = .ok (.iload 5, 2) := by decide +kernel
theorem dL_law_863 : decode cL_law 863 = .ok (.iconst 1, 1) := by decide +kernel
theorem dL_law_864 : decode cL_law 864 = .ok (.iadd, 1) := by decide +kernel
theorem dL_law_865 : decode cL_law 865 = .ok (.iaload, 1) := by decide +kernel
theorem dL_law_866 : decode cL_law 866 = .ok (.invokevirtual 151, 3) := by decide +kernel
theorem dL_law_869 : decode cL_law 869 = .ok (.istore 7, 2) := by decide +kernel
theorem dL_law_871 : decode cL_law 871 = .ok (.aload_n 2, 1) := by decide +kernel
theorem dL_law_872 : decode cL_law 872 = .ok (.invokevirtual 106, 3) := by decide +kernel
theorem dL_law_875 : decode cL_law 875 = .ok (.iload 6, 2) := by decide +kernel
theorem dL_law_877 : decode cL_law 877 = .ok (.if_icmp .eq 5, 3) := by decide +kernel
theorem dL_law_880 : decode cL_law 880 = .ok (.iconst 0, 1) := by decide +kernel
theorem dL_law_881 : decode cL_law 881 = .ok (.ireturn, 1) := by decide +kernel
theorem dL_law_882 : decode cL_law 882 = .ok (.iload 6, 2) := by decide +kernel
theorem dL_law_884 : decode cL_law 884 = .ok (.ifCond .ne 15, 3) := by decide +kernel
theorem dL_law_887 : decode cL_law 887 = .ok (.aload_n 3, 1) := by decide +kernel
theorem dL_law_888 : decode cL_law 888 = .ok (.iconst 0, 1) := by decide +kernel
theorem dL_law_889 : decode cL_law 889 = .ok (.laload, 1) := by decide +kernel
theorem dL_law_890 : decode cL_law 890 = .ok (.iload 7, 2) := by decide +kernel
theorem dL_law_892 : decode cL_law 892 = .ok (.i2l, 1) := by decide +kernel
theorem dL_law_893 : decode cL_law 893 = .ok (.lcmp, 1) := by decide +kernel
theorem dL_law_894 : decode cL_law 894 = .ok (.ifCond .eq 5, 3) := by decide +kernel
theorem dL_law_897 : decode cL_law 897 = .ok (.iconst 0, 1) := by decide +kernel
theorem dL_law_898 : decode cL_law 898 = .ok (.ireturn, 1) := by decide +kernel
theorem dL_law_899 : decode cL_law 899 = .ok (.goto 962, 3) := by decide +kernel
theorem dL_law_902 : decode cL_law 902 = .ok (.aload_n 1, 1) := by decide +kernel
theorem dL_law_903 : decode cL_law 903 = .ok (.aload_n 0, 1) := by decide +kernel
theorem dL_law_904 : decode cL_law 904 = .ok (.iload 5, 2) := by decide +kernel
theorem dL_law_906 : decode cL_law 906 = .ok (.iconst 1, 1) := by decide +kernel
theorem dL_law_907 : decode cL_law 907 = .ok (.iadd, 1) := by decide +kernel
theorem dL_law_908 : decode cL_law 908 = .ok (.iaload, 1) := by decide +kernel
theorem dL_law_909 : decode cL_law 909 = .ok (.aload_n 0, 1) := by decide +kernel
theorem dL_law_910 : decode cL_law 910 = .ok (.iload 5, 2) := by decide +kernel
theorem dL_law_912 : decode cL_law 912 = .ok (.iconst 2, 1) := by decide +kernel
theorem dL_law_913 : decode cL_law 913 = .ok (.iadd, 1) := by decide +kernel
theorem dL_law_914 : decode cL_law 914 = .ok (.iaload, 1) := by decide +kernel
theorem dL_law_915 : decode cL_law 915 = .ok (.aload_n 3, 1) := by decide +kernel
theorem dL_law_916 : decode cL_law 916 = .ok (.invokestatic 152, 3) := by decide +kernel
theorem dL_law_919 : decode cL_law 919 = .ok (.istore 6, 2) := by decide +kernel
theorem dL_law_921 : decode cL_law 921 = .ok (.aload_n 2, 1) := by decide +kernel
theorem dL_law_922 : decode cL_law 922 = .ok (.aload_n 0, 1) := by decide +kernel
theorem dL_law_923 : decode cL_law 923 = .ok (.iload 5, 2) := by decide +kernel
theorem dL_law_925 : decode cL_law 925 = .ok (.iconst 1, 1) := by decide +kernel
theorem dL_law_926 : decode cL_law 926 = .ok (.iadd, 1) := by decide +kernel
theorem dL_law_927 : decode cL_law 927 = .ok (.iaload, 1) := by decide +kernel
theorem dL_law_928 : decode cL_law 928 = .ok (.aload_n 0, 1) := by decide +kernel
theorem dL_law_929 : decode cL_law 929 = .ok (.iload 5, 2) := by decide +kernel
theorem dL_law_931 : decode cL_law 931 = .ok (.iconst 2, 1) := by decide +kernel
theorem dL_law_932 : decode cL_law 932 = .ok (.iadd, 1) := by decide +kernel
theorem dL_law_933 : decode cL_law 933 = .ok (.iaload, 1) := by decide +kernel
theorem dL_law_934 : decode cL_law 934 = .ok (.invokevirtual 154, 3) := by decide +kernel
theorem dL_law_937 : decode cL_law 937 = .ok (.istore 7, 2) := by decide +kernel
theorem dL_law_939 : decode cL_law 939 = .ok (.aload_n 2, 1) := by decide +kernel
theorem dL_law_940 : decode cL_law 940 = .ok (.invokevirtual 106, 3) := by decide +kernel
theorem dL_law_943 : decode cL_law 943 = .ok (.iload 6, 2) := by decide +kernel
theorem dL_law_945 : decode cL_law 945 = .ok (.if_icmp .eq 5, 3) := by decide +kernel
theorem dL_law_948 : decode cL_law 948 = .ok (.iconst 0, 1) := by decide +kernel
theorem dL_law_949 : decode cL_law 949 = .ok (.ireturn, 1) := by decide +kernel
theorem dL_law_950 : decode cL_law 950 = .ok (.iload 6, 2) := by decide +kernel
theorem dL_law_952 : decode cL_law 952 = .ok (.ifCond .ne 15, 3) := by decide +kernel
theorem dL_law_955 : decode cL_law 955 = .ok (.aload_n 3, 1) := by decide +kernel
theorem dL_law_956 : decode cL_law 956 = .ok (.iconst 0, 1) := by decide +kernel
theorem dL_law_957 : decode cL_law 957 = .ok (.laload, 1) := by decide +kernel
theorem dL_law_958 : decode cL_law 958 = .ok (.iload 7, 2) := by decide +kernel
theorem dL_law_960 : decode cL_law 960 = .ok (.i2l, 1) := by decide +kernel
theorem dL_law_961 : decode cL_law 961 = .ok (.lcmp, 1) := by decide +kernel
theorem dL_law_962 : decode cL_law 962 = .ok (.ifCond .eq 5, 3) := by decide +kernel
theorem dL_law_965 : decode cL_law 965 = .ok (.iconst 0, 1) := by decide +kernel
theorem dL_law_966 : decode cL_law 966 = .ok (.ireturn, 1) := by decide +kernel
theorem dL_law_967 : decode cL_law 967 = .ok (.goto 894, 3) := by decide +kernel
theorem dL_law_970 : decode cL_law 970 = .ok (.aload_n 1, 1) := by decide +kernel
theorem dL_law_971 : decode cL_law 971 = .ok (.aload_n 0, 1) := by decide +kernel
theorem dL_law_972 : decode cL_law 972 = .ok (.iload 5, 2) := by decide +kernel
theorem dL_law_974 : decode cL_law 974 = .ok (.iconst 1, 1) := by decide +kernel
theorem dL_law_975 : decode cL_law 975 = .ok (.iadd, 1) := by decide +kernel
theorem dL_law_976 : decode cL_law 976 = .ok (.iaload, 1) := by decide +kernel
theorem dL_law_977 : decode cL_law 977 = .ok (.aload_n 0, 1) := by decide +kernel
theorem dL_law_978 : decode cL_law 978 = .ok (.iload 5, 2) := by decide +kernel
theorem dL_law_980 : decode cL_law 980 = .ok (.iconst 2, 1) := by decide +kernel
theorem dL_law_981 : decode cL_law 981 = .ok (.iadd, 1) := by decide +kernel
theorem dL_law_982 : decode cL_law 982 = .ok (.iaload, 1) := by decide +kernel
theorem dL_law_983 : decode cL_law 983 = .ok (.aload_n 0, 1) := by decide +kernel
theorem dL_law_984 : decode cL_law 984 = .ok (.iload 5, 2) := by decide +kernel
theorem dL_law_986 : decode cL_law 986 = .ok (.iconst 3, 1) := by decide +kernel
theorem dL_law_987 : decode cL_law 987 = .ok (.iadd, 1) := by decide +kernel
theorem dL_law_988 : decode cL_law 988 = .ok (.iaload, 1) := by decide +kernel
theorem dL_law_989 : decode cL_law 989 = .ok (.aload_n 3, 1) := by decide +kernel
theorem dL_law_990 : decode cL_law 990 = .ok (.invokestatic 155, 3) := by decide +kernel
theorem dL_law_993 : decode cL_law 993 = .ok (.istore 6, 2) := by decide +kernel
theorem dL_law_995 : decode cL_law 995 = .ok (.aload_n 2, 1) := by decide +kernel
theorem dL_law_996 : decode cL_law 996 = .ok (.aload_n 0, 1) := by decide +kernel
theorem dL_law_997 : decode cL_law 997 = .ok (.iload 5, 2) := by decide +kernel
theorem dL_law_999 : decode cL_law 999 = .ok (.iconst 1, 1) := by decide +kernel
theorem dL_law_1000 : decode cL_law 1000 = .ok (.iadd, 1) := by decide +kernel
theorem dL_law_1001 : decode cL_law 1001 = .ok (.iaload, 1) := by decide +kernel
theorem dL_law_1002 : decode cL_law 1002 = .ok (.aload_n 0, 1) := by decide +kernel
theorem dL_law_1003 : decode cL_law 1003 = .ok (.iload 5, 2) := by decide +kernel
theorem dL_law_1005 : decode cL_law 1005 = .ok (.iconst 2, 1) := by decide +kernel
theorem dL_law_1006 : decode cL_law 1006 = .ok (.iadd, 1) := by decide +kernel
theorem dL_law_1007 : decode cL_law 1007 = .ok (.iaload, 1) := by decide +kernel
theorem dL_law_1008 : decode cL_law 1008 = .ok (.aload_n 0, 1) := by decide +kernel
theorem dL_law_1009 : decode cL_law 1009 = .ok (.iload 5, 2) := by decide +kernel
theorem dL_law_1011 : decode cL_law 1011 = .ok (.iconst 3, 1) := by decide +kernel
theorem dL_law_1012 : decode cL_law 1012 = .ok (.iadd, 1) := by decide +kernel
theorem dL_law_1013 : decode cL_law 1013 = .ok (.iaload, 1) := by decide +kernel
theorem dL_law_1014 : decode cL_law 1014 = .ok (.invokevirtual 157, 3) := by decide +kernel
theorem dL_law_1017 : decode cL_law 1017 = .ok (.istore 7, 2) := by decide +kernel
theorem dL_law_1019 : decode cL_law 1019 = .ok (.aload_n 2, 1) := by decide +kernel
theorem dL_law_1020 : decode cL_law 1020 = .ok (.invokevirtual 106, 3) := by decide +kernel
theorem dL_law_1023 : decode cL_law 1023 = .ok (.iload 6, 2) := by decide +kernel
theorem dL_law_1025 : decode cL_law 1025 = .ok (.if_icmp .eq 5, 3) := by decide +kernel
theorem dL_law_1028 : decode cL_law 1028 = .ok (.iconst 0, 1) := by decide +kernel
theorem dL_law_1029 : decode cL_law 1029 = .ok (.ireturn, 1) := by decide +kernel
theorem dL_law_1030 : decode cL_law 1030 = .ok (.iload 6, 2) := by decide +kernel
theorem dL_law_1032 : decode cL_law 1032 = .ok (.ifCond .ne 15, 3) := by decide +kernel
theorem dL_law_1035 : decode cL_law 1035 = .ok (.aload_n 3, 1) := by decide +kernel
theorem dL_law_1036 : decode cL_law 1036 = .ok (.iconst 0, 1) := by decide +kernel
theorem dL_law_1037 : decode cL_law 1037 = .ok (.laload, 1) := by decide +kernel
theorem dL_law_1038 : decode cL_law 1038 = .ok (.iload 7, 2) := by decide +kernel
theorem dL_law_1040 : decode cL_law 1040 = .ok (.i2l, 1) := by decide +kernel
theorem dL_law_1041 : decode cL_law 1041 = .ok (.lcmp, 1) := by decide +kernel
theorem dL_law_1042 : decode cL_law 1042 = .ok (.ifCond .eq 5, 3) := by decide +kernel
theorem dL_law_1045 : decode cL_law 1045 = .ok (.iconst 0, 1) := by decide +kernel
theorem dL_law_1046 : decode cL_law 1046 = .ok (.ireturn, 1) := by decide +kernel
theorem dL_law_1047 : decode cL_law 1047 = .ok (.goto 814, 3) := by decide +kernel
theorem dL_law_1050 : decode cL_law 1050 = .ok (.aload_n 1, 1) := by decide +kernel
theorem dL_law_1051 : decode cL_law 1051 = .ok (.aload_n 0, 1) := by decide +kernel
theorem dL_law_1052 : decode cL_law 1052 = .ok (.iload 5, 2) := by decide +kernel
theorem dL_law_1054 : decode cL_law 1054 = .ok (.iconst 1, 1) := by decide +kernel
theorem dL_law_1055 : decode cL_law 1055 = .ok (.iadd, 1) := by decide +kernel
theorem dL_law_1056 : decode cL_law 1056 = .ok (.iaload, 1) := by decide +kernel
theorem dL_law_1057 : decode cL_law 1057 = .ok (.aload_n 0, 1) := by decide +kernel
theorem dL_law_1058 : decode cL_law 1058 = .ok (.iload 5, 2) := by decide +kernel
theorem dL_law_1060 : decode cL_law 1060 = .ok (.iconst 2, 1) := by decide +kernel
theorem dL_law_1061 : decode cL_law 1061 = .ok (.iadd, 1) := by decide +kernel
theorem dL_law_1062 : decode cL_law 1062 = .ok (.iaload, 1) := by decide +kernel
theorem dL_law_1063 : decode cL_law 1063 = .ok (.aload_n 3, 1) := by decide +kernel
theorem dL_law_1064 : decode cL_law 1064 = .ok (.invokestatic 158, 3) := by decide +kernel
theorem dL_law_1067 : decode cL_law 1067 = .ok (.istore 6, 2) := by decide +kernel
theorem dL_law_1069 : decode cL_law 1069 = .ok (.aload_n 2, 1) := by decide +kernel
theorem dL_law_1070 : decode cL_law 1070 = .ok (.aload_n 0, 1) := by decide +kernel
theorem dL_law_1071 : decode cL_law 1071 = .ok (.iload 5, 2) := by decide +kernel
theorem dL_law_1073 : decode cL_law 1073 = .ok (.iconst 1, 1) := by decide +kernel
theorem dL_law_1074 : decode cL_law 1074 = .ok (.iadd, 1) := by decide +kernel
theorem dL_law_1075 : decode cL_law 1075 = .ok (.iaload, 1) := by decide +kernel
theorem dL_law_1076 : decode cL_law 1076 = .ok (.aload_n 0, 1) := by decide +kernel
theorem dL_law_1077 : decode cL_law 1077 = .ok (.iload 5, 2) := by decide +kernel
theorem dL_law_1079 : decode cL_law 1079 = .ok (.iconst 2, 1) := by decide +kernel
theorem dL_law_1080 : decode cL_law 1080 = .ok (.iadd, 1) := by decide +kernel
theorem dL_law_1081 : decode cL_law 1081 = .ok (.iaload, 1) := by decide +kernel
theorem dL_law_1082 : decode cL_law 1082 = .ok (.invokevirtual 160, 3) := by decide +kernel
theorem dL_law_1085 : decode cL_law 1085 = .ok (.istore 7, 2) := by decide +kernel
theorem dL_law_1087 : decode cL_law 1087 = .ok (.aload_n 2, 1) := by decide +kernel
theorem dL_law_1088 : decode cL_law 1088 = .ok (.invokevirtual 106, 3) := by decide +kernel
theorem dL_law_1091 : decode cL_law 1091 = .ok (.iload 6, 2) := by decide +kernel
theorem dL_law_1093 : decode cL_law 1093 = .ok (.if_icmp .eq 5, 3) := by decide +kernel
theorem dL_law_1096 : decode cL_law 1096 = .ok (.iconst 0, 1) := by decide +kernel
theorem dL_law_1097 : decode cL_law 1097 = .ok (.ireturn, 1) := by decide +kernel
theorem dL_law_1098 : decode cL_law 1098 = .ok (.iload 6, 2) := by decide +kernel
theorem dL_law_1100 : decode cL_law 1100 = .ok (.ifCond .ne 15, 3) := by decide +kernel
theorem dL_law_1103 : decode cL_law 1103 = .ok (.aload_n 3, 1) := by decide +kernel
theorem dL_law_1104 : decode cL_law 1104 = .ok (.iconst 0, 1) := by decide +kernel
theorem dL_law_1105 : decode cL_law 1105 = .ok (.laload, 1) := by decide +kernel
theorem dL_law_1106 : decode cL_law 1106 = .ok (.iload 7, 2) := by decide +kernel
theorem dL_law_1108 : decode cL_law 1108 = .ok (.i2l, 1) := by decide +kernel
theorem dL_law_1109 : decode cL_law 1109 = .ok (.lcmp, 1) := by decide +kernel
theorem dL_law_1110 : decode cL_law 1110 = .ok (.ifCond .eq 5, 3) := by decide +kernel
theorem dL_law_1113 : decode cL_law 1113 = .ok (.iconst 0, 1) := by decide +kernel
theorem dL_law_1114 : decode cL_law 1114 = .ok (.ireturn, 1) := by decide +kernel
theorem dL_law_1115 : decode cL_law 1115 = .ok (.goto 746, 3) := by decide +kernel
theorem dL_law_1118 : decode cL_law 1118 = .ok (.aload_n 1, 1) := by decide +kernel
theorem dL_law_1119 : decode cL_law 1119 = .ok (.aload_n 0, 1) := by decide +kernel
theorem dL_law_1120 : decode cL_law 1120 = .ok (.iload 5, 2) := by decide +kernel
theorem dL_law_1122 : decode cL_law 1122 = .ok (.iconst 1, 1) := by decide +kernel
theorem dL_law_1123 : decode cL_law 1123 = .ok (.iadd, 1) := by decide +kernel
theorem dL_law_1124 : decode cL_law 1124 = .ok (.iaload, 1) := by decide +kernel
theorem dL_law_1125 : decode cL_law 1125 = .ok (.aload_n 3, 1) := by decide +kernel
theorem dL_law_1126 : decode cL_law 1126 = .ok (.invokestatic 161, 3) := by decide +kernel
theorem dL_law_1129 : decode cL_law 1129 = .ok (.istore 6, 2) := by decide +kernel
theorem dL_law_1131 : decode cL_law 1131 = .ok (.aload_n 2, 1) := by decide +kernel
theorem dL_law_1132 : decode cL_law 1132 = .ok (.aload_n 0, 1) := by decide +kernel
theorem dL_law_1133 : decode cL_law 1133 = .ok (.iload 5, 2) := by decide +kernel
theorem dL_law_1135 : decode cL_law 1135 = .ok (.iconst 1, 1) := by decide +kernel
theorem dL_law_1136 : decode cL_law 1136 = .ok (.iadd, 1) := by decide +kernel
theorem dL_law_1137 : decode cL_law 1137 = .ok (.iaload, 1) := by decide +kernel
theorem dL_law_1138 : decode cL_law 1138 = .ok (.invokevirtual 163, 3) := by decide +kernel
theorem dL_law_1141 : decode cL_law 1141 = .ok (.istore 7, 2) := by decide +kernel
theorem dL_law_1143 : decode cL_law 1143 = .ok (.aload_n 2, 1) := by decide +kernel
theorem dL_law_1144 : decode cL_law 1144 = .ok (.invokevirtual 106, 3) := by decide +kernel
theorem dL_law_1147 : decode cL_law 1147 = .ok (.iload 6, 2) := by decide +kernel
theorem dL_law_1149 : decode cL_law 1149 = .ok (.if_icmp .eq 5, 3) := by decide +kernel
theorem dL_law_1152 : decode cL_law 1152 = .ok (.iconst 0, 1) := by decide +kernel
theorem dL_law_1153 : decode cL_law 1153 = .ok (.ireturn, 1) := by decide +kernel
theorem dL_law_1154 : decode cL_law 1154 = .ok (.iload 6, 2) := by decide +kernel
theorem dL_law_1156 : decode cL_law 1156 = .ok (.ifCond .ne 15, 3) := by decide +kernel
theorem dL_law_1159 : decode cL_law 1159 = .ok (.aload_n 3, 1) := by decide +kernel
theorem dL_law_1160 : decode cL_law 1160 = .ok (.iconst 0, 1) := by decide +kernel
theorem dL_law_1161 : decode cL_law 1161 = .ok (.laload, 1) := by decide +kernel
theorem dL_law_1162 : decode cL_law 1162 = .ok (.iload 7, 2) := by decide +kernel
theorem dL_law_1164 : decode cL_law 1164 = .ok (.i2l, 1) := by decide +kernel
theorem dL_law_1165 : decode cL_law 1165 = .ok (.lcmp, 1) := by decide +kernel
theorem dL_law_1166 : decode cL_law 1166 = .ok (.ifCond .eq 5, 3) := by decide +kernel
theorem dL_law_1169 : decode cL_law 1169 = .ok (.iconst 0, 1) := by decide +kernel
theorem dL_law_1170 : decode cL_law 1170 = .ok (.ireturn, 1) := by decide +kernel
theorem dL_law_1171 : decode cL_law 1171 = .ok (.goto 690, 3) := by decide +kernel
theorem dL_law_1174 : decode cL_law 1174 = .ok (.aload_n 1, 1) := by decide +kernel
theorem dL_law_1175 : decode cL_law 1175 = .ok (.aload_n 0, 1) := by decide +kernel
theorem dL_law_1176 : decode cL_law 1176 = .ok (.iload 5, 2) := by decide +kernel
theorem dL_law_1178 : decode cL_law 1178 = .ok (.iconst 1, 1) := by decide +kernel
theorem dL_law_1179 : decode cL_law 1179 = .ok (.iadd, 1) := by decide +kernel
theorem dL_law_1180 : decode cL_law 1180 = .ok (.iaload, 1) := by decide +kernel
theorem dL_law_1181 : decode cL_law 1181 = .ok (.aload_n 3, 1) := by decide +kernel
theorem dL_law_1182 : decode cL_law 1182 = .ok (.invokestatic 164, 3) := by decide +kernel
theorem dL_law_1185 : decode cL_law 1185 = .ok (.istore 6, 2) := by decide +kernel
theorem dL_law_1187 : decode cL_law 1187 = .ok (.aload_n 2, 1) := by decide +kernel
theorem dL_law_1188 : decode cL_law 1188 = .ok (.aload_n 0, 1) := by decide +kernel
theorem dL_law_1189 : decode cL_law 1189 = .ok (.iload 5, 2) := by decide +kernel
theorem dL_law_1191 : decode cL_law 1191 = .ok (.iconst 1, 1) := by decide +kernel
theorem dL_law_1192 : decode cL_law 1192 = .ok (.iadd, 1) := by decide +kernel
theorem dL_law_1193 : decode cL_law 1193 = .ok (.iaload, 1) := by decide +kernel
theorem dL_law_1194 : decode cL_law 1194 = .ok (.invokevirtual 166, 3) := by decide +kernel
theorem dL_law_1197 : decode cL_law 1197 = .ok (.istore 7, 2) := by decide +kernel
theorem dL_law_1199 : decode cL_law 1199 = .ok (.aload_n 2, 1) := by decide +kernel
theorem dL_law_1200 : decode cL_law 1200 = .ok (.invokevirtual 106, 3) := by decide +kernel
theorem dL_law_1203 : decode cL_law 1203 = .ok (.iload 6, 2) := by decide +kernel
theorem dL_law_1205 : decode cL_law 1205 = .ok (.if_icmp .eq 5, 3) := by decide +kernel
theorem dL_law_1208 : decode cL_law 1208 = .ok (.iconst 0, 1) := by decide +kernel
theorem dL_law_1209 : decode cL_law 1209 = .ok (.ireturn, 1) := by decide +kernel
theorem dL_law_1210 : decode cL_law 1210 = .ok (.iload 6, 2) := by decide +kernel
theorem dL_law_1212 : decode cL_law 1212 = .ok (.ifCond .ne 15, 3) := by decide +kernel
theorem dL_law_1215 : decode cL_law 1215 = .ok (.aload_n 3, 1) := by decide +kernel
theorem dL_law_1216 : decode cL_law 1216 = .ok (.iconst 0, 1) := by decide +kernel
theorem dL_law_1217 : decode cL_law 1217 = .ok (.laload, 1) := by decide +kernel
theorem dL_law_1218 : decode cL_law 1218 = .ok (.iload 7, 2) := by decide +kernel
theorem dL_law_1220 : decode cL_law 1220 = .ok (.i2l, 1) := by decide +kernel
theorem dL_law_1221 : decode cL_law 1221 = .ok (.lcmp, 1) := by decide +kernel
theorem dL_law_1222 : decode cL_law 1222 = .ok (.ifCond .eq 5, 3) := by decide +kernel
theorem dL_law_1225 : decode cL_law 1225 = .ok (.iconst 0, 1) := by decide +kernel
theorem dL_law_1226 : decode cL_law 1226 = .ok (.ireturn, 1) := by decide +kernel
theorem dL_law_1227 : decode cL_law 1227 = .ok (.goto 634, 3) := by decide +kernel
theorem dL_law_1230 : decode cL_law 1230 = .ok (.aload_n 1, 1) := by decide +kernel
theorem dL_law_1231 : decode cL_law 1231 = .ok (.aload_n 0, 1) := by decide +kernel
theorem dL_law_1232 : decode cL_law 1232 = .ok (.iload 5, 2) := by decide +kernel
theorem dL_law_1234 : decode cL_law 1234 = .ok (.iconst 1, 1) := by decide +kernel
theorem dL_law_1235 : decode cL_law 1235 = .ok (.iadd, 1) := by decide +kernel
theorem dL_law_1236 : decode cL_law 1236 = .ok (.iaload, 1) := by decide +kernel
theorem dL_law_1237 : decode cL_law 1237 = .ok (.aload_n 0, 1) := by decide +kernel
theorem dL_law_1238 : decode cL_law 1238 = .ok (.iload 5, 2) := by decide +kernel
theorem dL_law_1240 : decode cL_law 1240 = .ok (.iconst 2, 1) := by decide +kernel
theorem dL_law_1241 : decode cL_law 1241 = .ok (.iadd, 1) := by decide +kernel
theorem dL_law_1242 : decode cL_law 1242 = .ok (.iaload, 1) := by decide +kernel
theorem dL_law_1243 : decode cL_law 1243 = .ok (.aload_n 0, 1) := by decide +kernel
theorem dL_law_1244 : decode cL_law 1244 = .ok (.iload 5, 2) := by decide +kernel
theorem dL_law_1246 : decode cL_law 1246 = .ok (.iconst 3, 1) := by decide +kernel
theorem dL_law_1247 : decode cL_law 1247 = .ok (.iadd, 1) := by decide +kernel
theorem dL_law_1248 : decode cL_law 1248 = .ok (.iaload, 1) := by decide +kernel
theorem dL_law_1249 : decode cL_law 1249 = .ok (.aload_n 3, 1) := by decide +kernel
theorem dL_law_1250 : decode cL_law 1250 = .ok (.invokestatic 167, 3) := by decide +kernel
theorem dL_law_1253 : decode cL_law 1253 = .ok (.istore 6, 2) := by decide +kernel
theorem dL_law_1255 : decode cL_law 1255 = .ok (.aload_n 2, 1) := by decide +kernel
theorem dL_law_1256 : decode cL_law 1256 = .ok (.aload_n 0, 1) := by decide +kernel
theorem dL_law_1257 : decode cL_law 1257 = .ok (.iload 5, 2) := by decide +kernel
theorem dL_law_1259 : decode cL_law 1259 = .ok (.iconst 1, 1) := by decide +kernel
theorem dL_law_1260 : decode cL_law 1260 = .ok (.iadd, 1) := by decide +kernel
theorem dL_law_1261 : decode cL_law 1261 = .ok (.iaload, 1) := by decide +kernel
theorem dL_law_1262 : decode cL_law 1262 = .ok (.aload_n 0, 1) := by decide +kernel
theorem dL_law_1263 : decode cL_law 1263 = .ok (.iload 5, 2) := by decide +kernel
theorem dL_law_1265 : decode cL_law 1265 = .ok (.iconst 2, 1) := by decide +kernel
theorem dL_law_1266 : decode cL_law 1266 = .ok (.iadd, 1) := by decide +kernel
theorem dL_law_1267 : decode cL_law 1267 = .ok (.iaload, 1) := by decide +kernel
theorem dL_law_1268 : decode cL_law 1268 = .ok (.aload_n 0, 1) := by decide +kernel
theorem dL_law_1269 : decode cL_law 1269 = .ok (.iload 5, 2) := by decide +kernel
theorem dL_law_1271 : decode cL_law 1271 = .ok (.iconst 3, 1) := by decide +kernel
theorem dL_law_1272 : decode cL_law 1272 = .ok (.iadd, 1) := by decide +kernel
theorem dL_law_1273 : decode cL_law 1273 = .ok (.iaload, 1) := by decide +kernel
theorem dL_law_1274 : decode cL_law 1274 = .ok (.invokevirtual 169, 3) := by decide +kernel
theorem dL_law_1277 : decode cL_law 1277 = .ok (.istore 7, 2) := by decide +kernel
theorem dL_law_1279 : decode cL_law 1279 = .ok (.aload_n 2, 1) := by decide +kernel
theorem dL_law_1280 : decode cL_law 1280 = .ok (.invokevirtual 106, 3) := by decide +kernel
theorem dL_law_1283 : decode cL_law 1283 = .ok (.iload 6, 2) := by decide +kernel
theorem dL_law_1285 : decode cL_law 1285 = .ok (.if_icmp .eq 5, 3) := by decide +kernel
theorem dL_law_1288 : decode cL_law 1288 = .ok (.iconst 0, 1) := by decide +kernel
theorem dL_law_1289 : decode cL_law 1289 = .ok (.ireturn, 1) := by decide +kernel
theorem dL_law_1290 : decode cL_law 1290 = .ok (.iload 6, 2) := by decide +kernel
theorem dL_law_1292 : decode cL_law 1292 = .ok (.ifCond .ne 15, 3) := by decide +kernel
theorem dL_law_1295 : decode cL_law 1295 = .ok (.aload_n 3, 1) := by decide +kernel
theorem dL_law_1296 : decode cL_law 1296 = .ok (.iconst 0, 1) := by decide +kernel
theorem dL_law_1297 : decode cL_law 1297 = .ok (.laload, 1) := by decide +kernel
theorem dL_law_1298 : decode cL_law 1298 = .ok (.iload 7, 2) := by decide +kernel
theorem dL_law_1300 : decode cL_law 1300 = .ok (.i2l, 1) := by decide +kernel
theorem dL_law_1301 : decode cL_law 1301 = .ok (.lcmp, 1) := by decide +kernel
theorem dL_law_1302 : decode cL_law 1302 = .ok (.ifCond .eq 5, 3) := by decide +kernel
theorem dL_law_1305 : decode cL_law 1305 = .ok (.iconst 0, 1) := by decide +kernel
theorem dL_law_1306 : decode cL_law 1306 = .ok (.ireturn, 1) := by decide +kernel
theorem dL_law_1307 : decode cL_law 1307 = .ok (.goto 554, 3) := by decide +kernel
theorem dL_law_1310 : decode cL_law 1310 = .ok (.aload_n 1, 1) := by decide +kernel
theorem dL_law_1311 : decode cL_law 1311 = .ok (.aload_n 0, 1) := by decide +kernel
theorem dL_law_1312 : decode cL_law 1312 = .ok (.iload 5, 2) := by decide +kernel
theorem dL_law_1314 : decode cL_law 1314 = .ok (.iconst 1, 1) := by decide +kernel
theorem dL_law_1315 : decode cL_law 1315 = .ok (.iadd, 1) := by decide +kernel
theorem dL_law_1316 : decode cL_law 1316 = .ok (.iaload, 1) := by decide +kernel
theorem dL_law_1317 : decode cL_law 1317 = .ok (.aload_n 3, 1) := by decide +kernel
theorem dL_law_1318 : decode cL_law 1318 = .ok (.invokestatic 170, 3) := by decide +kernel
theorem dL_law_1321 : decode cL_law 1321 = .ok (.istore 6, 2) := by decide +kernel
theorem dL_law_1323 : decode cL_law 1323 = .ok (.aload_n 2, 1) := by decide +kernel
theorem dL_law_1324 : decode cL_law 1324 = .ok (.aload_n 0, 1) := by decide +kernel
theorem dL_law_1325 : decode cL_law 1325 = .ok (.iload 5, 2) := by decide +kernel
theorem dL_law_1327 : decode cL_law 1327 = .ok (.iconst 1, 1) := by decide +kernel
theorem dL_law_1328 : decode cL_law 1328 = .ok (.iadd, 1) := by decide +kernel
theorem dL_law_1329 : decode cL_law 1329 = .ok (.iaload, 1) := by decide +kernel
theorem dL_law_1330 : decode cL_law 1330 = .ok (.invokevirtual 172, 3) := by decide +kernel
theorem dL_law_1333 : decode cL_law 1333 = .ok (.istore 7, 2) := by decide +kernel
theorem dL_law_1335 : decode cL_law 1335 = .ok (.aload_n 2, 1) := by decide +kernel
theorem dL_law_1336 : decode cL_law 1336 = .ok (.invokevirtual 106, 3) := by decide +kernel
theorem dL_law_1339 : decode cL_law 1339 = .ok (.iload 6, 2) := by decide +kernel
theorem dL_law_1341 : decode cL_law 1341 = .ok (.if_icmp .eq 5, 3) := by decide +kernel
theorem dL_law_1344 : decode cL_law 1344 = .ok (.iconst 0, 1) := by decide +kernel
theorem dL_law_1345 : decode cL_law 1345 = .ok (.ireturn, 1) := by decide +kernel
theorem dL_law_1346 : decode cL_law 1346 = .ok (.iload 6, 2) := by decide +kernel
theorem dL_law_1348 : decode cL_law 1348 = .ok (.ifCond .ne 15, 3) := by decide +kernel
theorem dL_law_1351 : decode cL_law 1351 = .ok (.aload_n 3, 1) := by decide +kernel
theorem dL_law_1352 : decode cL_law 1352 = .ok (.iconst 0, 1) := by decide +kernel
theorem dL_law_1353 : decode cL_law 1353 = .ok (.laload, 1) := by decide +kernel
theorem dL_law_1354 : decode cL_law 1354 = .ok (.iload 7, 2) := by decide +kernel
theorem dL_law_1356 : decode cL_law 1356 = .ok (.i2l, 1) := by decide +kernel
theorem dL_law_1357 : decode cL_law 1357 = .ok (.lcmp, 1) := by decide +kernel
theorem dL_law_1358 : decode cL_law 1358 = .ok (.ifCond .eq 5, 3) := by decide +kernel
theorem dL_law_1361 : decode cL_law 1361 = .ok (.iconst 0, 1) := by decide +kernel
theorem dL_law_1362 : decode cL_law 1362 = .ok (.ireturn, 1) := by decide +kernel
theorem dL_law_1363 : decode cL_law 1363 = .ok (.goto 498, 3) := by decide +kernel
theorem dL_law_1366 : decode cL_law 1366 = .ok (.aload_n 1, 1) := by decide +kernel
theorem dL_law_1367 : decode cL_law 1367 = .ok (.aload_n 0, 1) := by decide +kernel
theorem dL_law_1368 : decode cL_law 1368 = .ok (.iload 5, 2) := by decide +kernel
theorem dL_law_1370 : decode cL_law 1370 = .ok (.iconst 1, 1) := by decide +kernel
theorem dL_law_1371 : decode cL_law 1371 = .ok (.iadd, 1) := by decide +kernel
theorem dL_law_1372 : decode cL_law 1372 = .ok (.iaload, 1) := by decide +kernel
theorem dL_law_1373 : decode cL_law 1373 = .ok (.aload 4, 2) := by decide +kernel
theorem dL_law_1375 : decode cL_law 1375 = .ok (.invokestatic 173, 3) := by decide +kernel
theorem dL_law_1378 : decode cL_law 1378 = .ok (.istore 6, 2) := by decide +kernel
theorem dL_law_1380 : decode cL_law 1380 = .ok (.aload_n 2, 1) := by decide +kernel
theorem dL_law_1381 : decode cL_law 1381 = .ok (.aload_n 0, 1) := by decide +kernel
theorem dL_law_1382 : decode cL_law 1382 = .ok (.iload 5, 2) := by decide +kernel
theorem dL_law_1384 : decode cL_law 1384 = .ok (.iconst 1, 1) := by decide +kernel
theorem dL_law_1385 : decode cL_law 1385 = .ok (.iadd, 1) := by decide +kernel
theorem dL_law_1386 : decode cL_law 1386 = .ok (.iaload, 1) := by decide +kernel
theorem dL_law_1387 : decode cL_law 1387 = .ok (.invokevirtual 176, 3) := by decide +kernel
theorem dL_law_1390 : decode cL_law 1390 = .ok (.dstore 7, 2) := by decide +kernel
theorem dL_law_1392 : decode cL_law 1392 = .ok (.aload_n 2, 1) := by decide +kernel
theorem dL_law_1393 : decode cL_law 1393 = .ok (.invokevirtual 106, 3) := by decide +kernel
theorem dL_law_1396 : decode cL_law 1396 = .ok (.iload 6, 2) := by decide +kernel
theorem dL_law_1398 : decode cL_law 1398 = .ok (.if_icmp .eq 5, 3) := by decide +kernel
theorem dL_law_1401 : decode cL_law 1401 = .ok (.iconst 0, 1) := by decide +kernel
theorem dL_law_1402 : decode cL_law 1402 = .ok (.ireturn, 1) := by decide +kernel
theorem dL_law_1403 : decode cL_law 1403 = .ok (.iload 6, 2) := by decide +kernel
theorem dL_law_1405 : decode cL_law 1405 = .ok (.ifCond .ne 35, 3) := by decide +kernel
theorem dL_law_1408 : decode cL_law 1408 = .ok (.aload 4, 2) := by decide +kernel
theorem dL_law_1410 : decode cL_law 1410 = .ok (.iconst 0, 1) := by decide +kernel
theorem dL_law_1411 : decode cL_law 1411 = .ok (.daload, 1) := by decide +kernel
theorem dL_law_1412 : decode cL_law 1412 = .ok (.dload 7, 2) := by decide +kernel
theorem dL_law_1414 : decode cL_law 1414 = .ok (.dcmp .l, 1) := by decide +kernel
theorem dL_law_1415 : decode cL_law 1415 = .ok (.ifCond .eq 25, 3) := by decide +kernel
theorem dL_law_1418 : decode cL_law 1418 = .ok (.aload 4, 2) := by decide +kernel
theorem dL_law_1420 : decode cL_law 1420 = .ok (.iconst 0, 1) := by decide +kernel
theorem dL_law_1421 : decode cL_law 1421 = .ok (.daload, 1) := by decide +kernel
theorem dL_law_1422 : decode cL_law 1422 = .ok (.aload 4, 2) := by decide +kernel
theorem dL_law_1424 : decode cL_law 1424 = .ok (.iconst 0, 1) := by decide +kernel
theorem dL_law_1425 : decode cL_law 1425 = .ok (.daload, 1) := by decide +kernel
theorem dL_law_1426 : decode cL_law 1426 = .ok (.dcmp .l, 1) := by decide +kernel
theorem dL_law_1427 : decode cL_law 1427 = .ok (.ifCond .eq 11, 3) := by decide +kernel
theorem dL_law_1430 : decode cL_law 1430 = .ok (.dload 7, 2) := by decide +kernel
theorem dL_law_1432 : decode cL_law 1432 = .ok (.dload 7, 2) := by decide +kernel
theorem dL_law_1434 : decode cL_law 1434 = .ok (.dcmp .l, 1) := by decide +kernel
theorem dL_law_1435 : decode cL_law 1435 = .ok (.ifCond .ne 5, 3) := by decide +kernel
theorem dL_law_1438 : decode cL_law 1438 = .ok (.iconst 0, 1) := by decide +kernel
theorem dL_law_1439 : decode cL_law 1439 = .ok (.ireturn, 1) := by decide +kernel
theorem dL_law_1440 : decode cL_law 1440 = .ok (.goto 421, 3) := by decide +kernel
theorem dL_law_1443 : decode cL_law 1443 = .ok (.aload_n 1, 1) := by decide +kernel
theorem dL_law_1444 : decode cL_law 1444 = .ok (.aload_n 0, 1) := by decide +kernel
theorem dL_law_1445 : decode cL_law 1445 = .ok (.iload 5, 2) := by decide +kernel
theorem dL_law_1447 : decode cL_law 1447 = .ok (.iconst 1, 1) := by decide +kernel
theorem dL_law_1448 : decode cL_law 1448 = .ok (.iadd, 1) := by decide +kernel
theorem dL_law_1449 : decode cL_law 1449 = .ok (.iaload, 1) := by decide +kernel
theorem dL_law_1450 : decode cL_law 1450 = .ok (.aload_n 0, 1) := by decide +kernel
theorem dL_law_1451 : decode cL_law 1451 = .ok (.iload 5, 2) := by decide +kernel
theorem dL_law_1453 : decode cL_law 1453 = .ok (.iconst 2, 1) := by decide +kernel
theorem dL_law_1454 : decode cL_law 1454 = .ok (.iadd, 1) := by decide +kernel
theorem dL_law_1455 : decode cL_law 1455 = .ok (.iaload, 1) := by decide +kernel
theorem dL_law_1456 : decode cL_law 1456 = .ok (.aload 4, 2) := by decide +kernel
theorem dL_law_1458 : decode cL_law 1458 = .ok (.invokestatic 177, 3) := by decide +kernel
theorem dL_law_1461 : decode cL_law 1461 = .ok (.istore 6, 2) := by decide +kernel
theorem dL_law_1463 : decode cL_law 1463 = .ok (.aload_n 2, 1) := by decide +kernel
theorem dL_law_1464 : decode cL_law 1464 = .ok (.aload_n 0, 1) := by decide +kernel
theorem dL_law_1465 : decode cL_law 1465 = .ok (.iload 5, 2) := by decide +kernel
theorem dL_law_1467 : decode cL_law 1467 = .ok (.iconst 1, 1) := by decide +kernel
theorem dL_law_1468 : decode cL_law 1468 = .ok (.iadd, 1) := by decide +kernel
theorem dL_law_1469 : decode cL_law 1469 = .ok (.iaload, 1) := by decide +kernel
theorem dL_law_1470 : decode cL_law 1470 = .ok (.aload_n 0, 1) := by decide +kernel
theorem dL_law_1471 : decode cL_law 1471 = .ok (.iload 5, 2) := by decide +kernel
theorem dL_law_1473 : decode cL_law 1473 = .ok (.iconst 2, 1) := by decide +kernel
theorem dL_law_1474 : decode cL_law 1474 = .ok (.iadd, 1) := by decide +kernel
theorem dL_law_1475 : decode cL_law 1475 = .ok (.iaload, 1) := by decide +kernel
theorem dL_law_1476 : decode cL_law 1476 = .ok (.invokevirtual 180, 3) := by decide +kernel
theorem dL_law_1479 : decode cL_law 1479 = .ok (.dstore 7, 2) := by decide +kernel
theorem dL_law_1481 : decode cL_law 1481 = .ok (.aload_n 2, 1) := by decide +kernel
theorem dL_law_1482 : decode cL_law 1482 = .ok (.invokevirtual 106, 3) := by decide +kernel
theorem dL_law_1485 : decode cL_law 1485 = .ok (.iload 6, 2) := by decide +kernel
theorem dL_law_1487 : decode cL_law 1487 = .ok (.if_icmp .eq 5, 3) := by decide +kernel
theorem dL_law_1490 : decode cL_law 1490 = .ok (.iconst 0, 1) := by decide +kernel
theorem dL_law_1491 : decode cL_law 1491 = .ok (.ireturn, 1) := by decide +kernel
theorem dL_law_1492 : decode cL_law 1492 = .ok (.iload 6, 2) := by decide +kernel
theorem dL_law_1494 : decode cL_law 1494 = .ok (.ifCond .ne 35, 3) := by decide +kernel
theorem dL_law_1497 : decode cL_law 1497 = .ok (.aload 4, 2) := by decide +kernel
theorem dL_law_1499 : decode cL_law 1499 = .ok (.iconst 0, 1) := by decide +kernel
theorem dL_law_1500 : decode cL_law 1500 = .ok (.daload, 1) := by decide +kernel
theorem dL_law_1501 : decode cL_law 1501 = .ok (.dload 7, 2) := by decide +kernel
theorem dL_law_1503 : decode cL_law 1503 = .ok (.dcmp .l, 1) := by decide +kernel
theorem dL_law_1504 : decode cL_law 1504 = .ok (.ifCond .eq 25, 3) := by decide +kernel
theorem dL_law_1507 : decode cL_law 1507 = .ok (.aload 4, 2) := by decide +kernel
theorem dL_law_1509 : decode cL_law 1509 = .ok (.iconst 0, 1) := by decide +kernel
theorem dL_law_1510 : decode cL_law 1510 = .ok (.daload, 1) := by decide +kernel
theorem dL_law_1511 : decode cL_law 1511 = .ok (.aload 4, 2) := by decide +kernel
theorem dL_law_1513 : decode cL_law 1513 = .ok (.iconst 0, 1) := by decide +kernel
theorem dL_law_1514 : decode cL_law 1514 = .ok (.daload, 1) := by decide +kernel
theorem dL_law_1515 : decode cL_law 1515 = .ok (.dcmp .l, 1) := by decide +kernel
theorem dL_law_1516 : decode cL_law 1516 = .ok (.ifCond .eq 11, 3) := by decide +kernel
theorem dL_law_1519 : decode cL_law 1519 = .ok (.dload 7, 2) := by decide +kernel
theorem dL_law_1521 : decode cL_law 1521 = .ok (.dload 7, 2) := by decide +kernel
theorem dL_law_1523 : decode cL_law 1523 = .ok (.dcmp .l, 1) := by decide +kernel
theorem dL_law_1524 : decode cL_law 1524 = .ok (.ifCond .ne 5, 3) := by decide +kernel
theorem dL_law_1527 : decode cL_law 1527 = .ok (.iconst 0, 1) := by decide +kernel
theorem dL_law_1528 : decode cL_law 1528 = .ok (.ireturn, 1) := by decide +kernel
theorem dL_law_1529 : decode cL_law 1529 = .ok (.goto 332, 3) := by decide +kernel
theorem dL_law_1532 : decode cL_law 1532 = .ok (.aload_n 1, 1) := by decide +kernel
theorem dL_law_1533 : decode cL_law 1533 = .ok (.aload_n 0, 1) := by decide +kernel
theorem dL_law_1534 : decode cL_law 1534 = .ok (.iload 5, 2) := by decide +kernel
theorem dL_law_1536 : decode cL_law 1536 = .ok (.iconst 1, 1) := by decide +kernel
theorem dL_law_1537 : decode cL_law 1537 = .ok (.iadd, 1) := by decide +kernel
theorem dL_law_1538 : decode cL_law 1538 = .ok (.iaload, 1) := by decide +kernel
theorem dL_law_1539 : decode cL_law 1539 = .ok (.aload_n 0, 1) := by decide +kernel
theorem dL_law_1540 : decode cL_law 1540 = .ok (.iload 5, 2) := by decide +kernel
theorem dL_law_1542 : decode cL_law 1542 = .ok (.iconst 2, 1) := by decide +kernel
theorem dL_law_1543 : decode cL_law 1543 = .ok (.iadd, 1) := by decide +kernel
theorem dL_law_1544 : decode cL_law 1544 = .ok (.iaload, 1) := by decide +kernel
theorem dL_law_1545 : decode cL_law 1545 = .ok (.aload_n 3, 1) := by decide +kernel
theorem dL_law_1546 : decode cL_law 1546 = .ok (.invokestatic 181, 3) := by decide +kernel
theorem dL_law_1549 : decode cL_law 1549 = .ok (.istore 6, 2) := by decide +kernel
theorem dL_law_1551 : decode cL_law 1551 = .ok (.aload_n 2, 1) := by decide +kernel
theorem dL_law_1552 : decode cL_law 1552 = .ok (.aload_n 0, 1) := by decide +kernel
theorem dL_law_1553 : decode cL_law 1553 = .ok (.iload 5, 2) := by decide +kernel
theorem dL_law_1555 : decode cL_law 1555 = .ok (.iconst 1, 1) := by decide +kernel
theorem dL_law_1556 : decode cL_law 1556 = .ok (.iadd, 1) := by decide +kernel
theorem dL_law_1557 : decode cL_law 1557 = .ok (.iaload, 1) := by decide +kernel
theorem dL_law_1558 : decode cL_law 1558 = .ok (.aload_n 0, 1) := by decide +kernel
theorem dL_law_1559 : decode cL_law 1559 = .ok (.iload 5, 2) := by decide +kernel
theorem dL_law_1561 : decode cL_law 1561 = .ok (.iconst 2, 1) := by decide +kernel
