theorem dJ6_bitCount_0f7a4_46 : decode cJ6_bitCount_0f7a4 46 = .ok (.iadd, 1) := by decide +kernel
theorem dJ6_bitCount_0f7a4_47 : decode cJ6_bitCount_0f7a4 47 = .ok (.istore_n 0, 1) := by decide +kernel
theorem dJ6_bitCount_0f7a4_48 : decode cJ6_bitCount_0f7a4 48 = .ok (.iload_n 0, 1) := by decide +kernel
theorem dJ6_bitCount_0f7a4_49 : decode cJ6_bitCount_0f7a4 49 = .ok (.bipush 63, 2) := by decide +kernel
theorem dJ6_bitCount_0f7a4_51 : decode cJ6_bitCount_0f7a4 51 = .ok (.iand, 1) := by decide +kernel
theorem dJ6_bitCount_0f7a4_52 : decode cJ6_bitCount_0f7a4 52 = .ok (.ireturn, 1) := by decide +kernel
theorem dJ0_length_8abf5_0 : decode cJ0_length_8abf5 0 = .ok (.aload_n 0, 1) := by decide +kernel
theorem dJ0_length_8abf5_1 : decode cJ0_length_8abf5 1 = .ok (.getfield 9, 3) := by decide +kernel
theorem dJ0_length_8abf5_4 : decode cJ0_length_8abf5 4 = .ok (.arraylength, 1) := by decide +kernel
theorem dJ0_length_8abf5_5 : decode cJ0_length_8abf5 5 = .ok (.aload_n 0, 1) := by decide +kernel
theorem dJ0_length_8abf5_6 : decode cJ0_length_8abf5 6 = .ok (.invokevirtual 335, 3) := by decide +kernel
theorem dJ0_length_8abf5_9 : decode cJ0_length_8abf5 9 = .ok (.ishr, 1) := by decide +kernel
theorem dJ0_length_8abf5_10 : decode cJ0_length_8abf5 10 = .ok (.ireturn, 1) := by decide +kernel
theorem dJ0_charAt_5068e_0 : decode cJ0_charAt_5068e 0 = .ok (.aload_n 0, 1) := by decide +kernel
theorem dJ0_charAt_5068e_1 : decode cJ0_charAt_5068e 1 = .ok (.invokevirtual 492, 3) := by decide +kernel
theorem dJ0_charAt_5068e_4 : decode cJ0_charAt_5068e 4 = .ok (.ifCond .eq 12, 3) := by decide +kernel
theorem dJ0_charAt_5068e_7 : decode cJ0_charAt_5068e 7 = .ok (.aload_n 0, 1) := by decide +kernel
theorem dJ0_charAt_5068e_8 : decode cJ0_charAt_5068e 8 = .ok (.getfield 9, 3) := by decide +kernel
theorem dJ0_charAt_5068e_11 : decode cJ0_charAt_5068e 11 = .ok (.iload_n 1, 1) := by decide +kernel
theorem dJ0_charAt_5068e_12 : decode cJ0_charAt_5068e 12 = .ok (.invokestatic 495, 3) := by decide +kernel
theorem dJ0_charAt_5068e_15 : decode cJ0_charAt_5068e 15 = .ok (.ireturn, 1) := by decide +kernel
theorem dJ0_charAt_5068e_16 : decode cJ0_charAt_5068e 16 = .ok (.aload_n 0, 1) := by decide +kernel
theorem dJ0_charAt_5068e_17 : decode cJ0_charAt_5068e 17 = .ok (.getfield 9, 3) := by decide +kernel
theorem dJ0_charAt_5068e_20 : decode cJ0_charAt_5068e 20 = .ok (.iload_n 1, 1) := by decide +kernel
theorem dJ0_charAt_5068e_21 : decode cJ0_charAt_5068e 21 = .ok (.invokestatic 498, 3) := by decide +kernel
theorem dJ0_charAt_5068e_24 : decode cJ0_charAt_5068e 24 = .ok (.ireturn, 1) := by decide +kernel
theorem dJ0_coder_7d493_0 : decode cJ0_coder_7d493 0 = .ok (.getstatic 38, 3) := by decide +kernel
theorem dJ0_coder_7d493_3 : decode cJ0_coder_7d493 3 = .ok (.ifCond .eq 10, 3) := by decide +kernel
theorem dJ0_coder_7d493_6 : decode cJ0_coder_7d493 6 = .ok (.aload_n 0, 1) := by decide +kernel
theorem dJ0_coder_7d493_7 : decode cJ0_coder_7d493 7 = .ok (.getfield 15, 3) := by decide +kernel
theorem dJ0_coder_7d493_10 : decode cJ0_coder_7d493 10 = .ok (.goto 4, 3) := by decide +kernel
theorem dJ0_coder_7d493_13 : decode cJ0_coder_7d493 13 = .ok (.iconst 1, 1) := by decide +kernel
theorem dJ0_coder_7d493_14 : decode cJ0_coder_7d493 14 = .ok (.ireturn, 1) := by decide +kernel
theorem dJ0_isLatin1_aae02_0 : decode cJ0_isLatin1_aae02 0 = .ok (.getstatic 38, 3) := by decide +kernel
theorem dJ0_isLatin1_aae02_3 : decode cJ0_isLatin1_aae02 3 = .ok (.ifCond .eq 14, 3) := by decide +kernel
theorem dJ0_isLatin1_aae02_6 : decode cJ0_isLatin1_aae02 6 = .ok (.aload_n 0, 1) := by decide +kernel
theorem dJ0_isLatin1_aae02_7 : decode cJ0_isLatin1_aae02 7 = .ok (.getfield 15, 3) := by decide +kernel
theorem dJ0_isLatin1_aae02_10 : decode cJ0_isLatin1_aae02 10 = .ok (.ifCond .ne 7, 3) := by decide +kernel
theorem dJ0_isLatin1_aae02_13 : decode cJ0_isLatin1_aae02 13 = .ok (.iconst 1, 1) := by decide +kernel
theorem dJ0_isLatin1_aae02_14 : decode cJ0_isLatin1_aae02 14 = .ok (.goto 4, 3) := by decide +kernel
theorem dJ0_isLatin1_aae02_17 : decode cJ0_isLatin1_aae02 17 = .ok (.iconst 0, 1) := by decide +kernel
theorem dJ0_isLatin1_aae02_18 : decode cJ0_isLatin1_aae02 18 = .ok (.ireturn, 1) := by decide +kernel
theorem dJ0_checkIndex_df160_0 : decode cJ0_checkIndex_df160 0 = .ok (.iload_n 0, 1) := by decide +kernel
theorem dJ0_checkIndex_df160_1 : decode cJ0_checkIndex_df160 1 = .ok (.iload_n 1, 1) := by decide +kernel
theorem dJ0_checkIndex_df160_2 : decode cJ0_checkIndex_df160 2 = .ok (.getstatic 1053, 3) := by decide +kernel
theorem dJ0_checkIndex_df160_5 : decode cJ0_checkIndex_df160 5 = .ok (.invokestatic 1059, 3) := by decide +kernel
theorem dJ0_checkIndex_df160_8 : decode cJ0_checkIndex_df160 8 = .ok (.pop, 1) := by decide +kernel
theorem dJ0_checkIndex_df160_9 : decode cJ0_checkIndex_df160 9 = .ok (.return_, 1) := by decide +kernel
theorem dJ1_charAt_3b067_0 : decode cJ1_charAt_3b067 0 = .ok (.iload_n 1, 1) := by decide +kernel
theorem dJ1_charAt_3b067_1 : decode cJ1_charAt_3b067 1 = .ok (.aload_n 0, 1) := by decide +kernel
theorem dJ1_charAt_3b067_2 : decode cJ1_charAt_3b067 2 = .ok (.arraylength, 1) := by decide +kernel
theorem dJ1_charAt_3b067_3 : decode cJ1_charAt_3b067 3 = .ok (.invokestatic 9, 3) := by decide +kernel
theorem dJ1_charAt_3b067_6 : decode cJ1_charAt_3b067 6 = .ok (.aload_n 0, 1) := by decide +kernel
theorem dJ1_charAt_3b067_7 : decode cJ1_charAt_3b067 7 = .ok (.iload_n 1, 1) := by decide +kernel
theorem dJ1_charAt_3b067_8 : decode cJ1_charAt_3b067 8 = .ok (.baload, 1) := by decide +kernel
theorem dJ1_charAt_3b067_9 : decode cJ1_charAt_3b067 9 = .ok (.sipush 255, 3) := by decide +kernel
theorem dJ1_charAt_3b067_12 : decode cJ1_charAt_3b067 12 = .ok (.iand, 1) := by decide +kernel
theorem dJ1_charAt_3b067_13 : decode cJ1_charAt_3b067 13 = .ok (.i2c, 1) := by decide +kernel
theorem dJ1_charAt_3b067_14 : decode cJ1_charAt_3b067 14 = .ok (.ireturn, 1) := by decide +kernel
theorem dJ3_checkIndex_8e157_0 : decode cJ3_checkIndex_8e157 0 = .ok (.iload_n 0, 1) := by decide +kernel
theorem dJ3_checkIndex_8e157_1 : decode cJ3_checkIndex_8e157 1 = .ok (.ifCond .lt 8, 3) := by decide +kernel
theorem dJ3_checkIndex_8e157_4 : decode cJ3_checkIndex_8e157 4 = .ok (.iload_n 0, 1) := by decide +kernel
theorem dJ3_checkIndex_8e157_5 : decode cJ3_checkIndex_8e157 5 = .ok (.iload_n 1, 1) := by decide +kernel
theorem dJ3_checkIndex_8e157_6 : decode cJ3_checkIndex_8e157 6 = .ok (.if_icmp .lt 10, 3) := by decide +kernel
theorem dJ3_checkIndex_8e157_9 : decode cJ3_checkIndex_8e157 9 = .ok (.aload_n 2, 1) := by decide +kernel
theorem dJ3_checkIndex_8e157_10 : decode cJ3_checkIndex_8e157 10 = .ok (.iload_n 0, 1) := by decide +kernel
theorem dJ3_checkIndex_8e157_11 : decode cJ3_checkIndex_8e157 11 = .ok (.iload_n 1, 1) := by decide +kernel
theorem dJ3_checkIndex_8e157_12 : decode cJ3_checkIndex_8e157 12 = .ok (.invokestatic 95, 3) := by decide +kernel
theorem dJ3_checkIndex_8e157_15 : decode cJ3_checkIndex_8e157 15 = .ok (.athrow, 1) := by decide +kernel
theorem dJ3_checkIndex_8e157_16 : decode cJ3_checkIndex_8e157 16 = .ok (.iload_n 0, 1) := by decide +kernel
theorem dJ3_checkIndex_8e157_17 : decode cJ3_checkIndex_8e157 17 = .ok (.ireturn, 1) := by decide +kernel
theorem dL_below_0 : decode cL_below 0 = .ok (.iload_n 0, 1) := by decide +kernel
theorem dL_below_1 : decode cL_below 1 = .ok (.ldc 7, 2) := by decide +kernel
theorem dL_below_3 : decode cL_below 3 = .ok (.iand, 1) := by decide +kernel
theorem dL_below_4 : decode cL_below 4 = .ok (.iload_n 1, 1) := by decide +kernel
theorem dL_below_5 : decode cL_below 5 = .ok (.irem, 1) := by decide +kernel
theorem dL_below_6 : decode cL_below 6 = .ok (.ireturn, 1) := by decide +kernel
theorem dL_cell_0 : decode cL_cell 0 = .ok (.iload_n 1, 1) := by decide +kernel
theorem dL_cell_1 : decode cL_cell 1 = .ok (.aload_n 0, 1) := by decide +kernel
theorem dL_cell_2 : decode cL_cell 2 = .ok (.arraylength, 1) := by decide +kernel
theorem dL_cell_3 : decode cL_cell 3 = .ok (.if_icmp .ge 9, 3) := by decide +kernel
theorem dL_cell_6 : decode cL_cell 6 = .ok (.aload_n 0, 1) := by decide +kernel
theorem dL_cell_7 : decode cL_cell 7 = .ok (.iload_n 1, 1) := by decide +kernel
theorem dL_cell_8 : decode cL_cell 8 = .ok (.iaload, 1) := by decide +kernel
theorem dL_cell_9 : decode cL_cell 9 = .ok (.goto 9, 3) := by decide +kernel
theorem dL_cell_12 : decode cL_cell 12 = .ok (.ldc 8, 2) := by decide +kernel
theorem dL_cell_14 : decode cL_cell 14 = .ok (.iload_n 1, 1) := by decide +kernel
theorem dL_cell_15 : decode cL_cell 15 = .ok (.iconst 3, 1) := by decide +kernel
theorem dL_cell_16 : decode cL_cell 16 = .ok (.iadd, 1) := by decide +kernel
theorem dL_cell_17 : decode cL_cell 17 = .ok (.imul, 1) := by decide +kernel
theorem dL_cell_18 : decode cL_cell 18 = .ok (.ireturn, 1) := by decide +kernel
theorem dL_build_0 : decode cL_build 0 = .ok (.bipush 14, 2) := by decide +kernel
theorem dL_build_2 : decode cL_build 2 = .ok (.anewarray 9, 3) := by decide +kernel
theorem dL_build_5 : decode cL_build 5 = .ok (.dup, 1) := by decide +kernel
theorem dL_build_6 : decode cL_build 6 = .ok (.iconst 0, 1) := by decide +kernel
theorem dL_build_7 : decode cL_build 7 = .ok (.ldc 11, 2) := by decide +kernel
theorem dL_build_9 : decode cL_build 9 = .ok (.aastore, 1) := by decide +kernel
theorem dL_build_10 : decode cL_build 10 = .ok (.dup, 1) := by decide +kernel
theorem dL_build_11 : decode cL_build 11 = .ok (.iconst 1, 1) := by decide +kernel
theorem dL_build_12 : decode cL_build 12 = .ok (.ldc 13, 2) := by decide +kernel
theorem dL_build_14 : decode cL_build 14 = .ok (.aastore, 1) := by decide +kernel
theorem dL_build_15 : decode cL_build 15 = .ok (.dup, 1) := by decide +kernel
theorem dL_build_16 : decode cL_build 16 = .ok (.iconst 2, 1) := by decide +kernel
theorem dL_build_17 : decode cL_build 17 = .ok (.ldc 15, 2) := by decide +kernel
theorem dL_build_19 : decode cL_build 19 = .ok (.aastore, 1) := by decide +kernel
theorem dL_build_20 : decode cL_build 20 = .ok (.dup, 1) := by decide +kernel
theorem dL_build_21 : decode cL_build 21 = .ok (.iconst 3, 1) := by decide +kernel
theorem dL_build_22 : decode cL_build 22 = .ok (.ldc 17, 2) := by decide +kernel
theorem dL_build_24 : decode cL_build 24 = .ok (.aastore, 1) := by decide +kernel
theorem dL_build_25 : decode cL_build 25 = .ok (.dup, 1) := by decide +kernel
theorem dL_build_26 : decode cL_build 26 = .ok (.iconst 4, 1) := by decide +kernel
theorem dL_build_27 : decode cL_build 27 = .ok (.ldc 19, 2) := by decide +kernel
theorem dL_build_29 : decode cL_build 29 = .ok (.aastore, 1) := by decide +kernel
theorem dL_build_30 : decode cL_build 30 = .ok (.dup, 1) := by decide +kernel
theorem dL_build_31 : decode cL_build 31 = .ok (.iconst 5, 1) := by decide +kernel
theorem dL_build_32 : decode cL_build 32 = .ok (.ldc 21, 2) := by decide +kernel
theorem dL_build_34 : decode cL_build 34 = .ok (.aastore, 1) := by decide +kernel
theorem dL_build_35 : decode cL_build 35 = .ok (.dup, 1) := by decide +kernel
theorem dL_build_36 : decode cL_build 36 = .ok (.bipush 6, 2) := by decide +kernel
theorem dL_build_38 : decode cL_build 38 = .ok (.ldc 23, 2) := by decide +kernel
theorem dL_build_40 : decode cL_build 40 = .ok (.aastore, 1) := by decide +kernel
theorem dL_build_41 : decode cL_build 41 = .ok (.dup, 1) := by decide +kernel
theorem dL_build_42 : decode cL_build 42 = .ok (.bipush 7, 2) := by decide +kernel
theorem dL_build_44 : decode cL_build 44 = .ok (.ldc 25, 2) := by decide +kernel
theorem dL_build_46 : decode cL_build 46 = .ok (.aastore, 1) := by decide +kernel
theorem dL_build_47 : decode cL_build 47 = .ok (.dup, 1) := by decide +kernel
theorem dL_build_48 : decode cL_build 48 = .ok (.bipush 8, 2) := by decide +kernel
theorem dL_build_50 : decode cL_build 50 = .ok (.ldc 27, 2) := by decide +kernel
theorem dL_build_52 : decode cL_build 52 = .ok (.aastore, 1) := by decide +kernel
theorem dL_build_53 : decode cL_build 53 = .ok (.dup, 1) := by decide +kernel
theorem dL_build_54 : decode cL_build 54 = .ok (.bipush 9, 2) := by decide +kernel
theorem dL_build_56 : decode cL_build 56 = .ok (.ldc 29, 2) := by decide +kernel
theorem dL_build_58 : decode cL_build 58 = .ok (.aastore, 1) := by decide +kernel
theorem dL_build_59 : decode cL_build 59 = .ok (.dup, 1) := by decide +kernel
theorem dL_build_60 : decode cL_build 60 = .ok (.bipush 10, 2) := by decide +kernel
theorem dL_build_62 : decode cL_build 62 = .ok (.ldc 31, 2) := by decide +kernel
theorem dL_build_64 : decode cL_build 64 = .ok (.aastore, 1) := by decide +kernel
theorem dL_build_65 : decode cL_build 65 = .ok (.dup, 1) := by decide +kernel
theorem dL_build_66 : decode cL_build 66 = .ok (.bipush 11, 2) := by decide +kernel
theorem dL_build_68 : decode cL_build 68 = .ok (.ldc 33, 2) := by decide +kernel
theorem dL_build_70 : decode cL_build 70 = .ok (.aastore, 1) := by decide +kernel
theorem dL_build_71 : decode cL_build 71 = .ok (.dup, 1) := by decide +kernel
theorem dL_build_72 : decode cL_build 72 = .ok (.bipush 12, 2) := by decide +kernel
theorem dL_build_74 : decode cL_build 74 = .ok (.ldc 35, 2) := by decide +kernel
theorem dL_build_76 : decode cL_build 76 = .ok (.aastore, 1) := by decide +kernel
theorem dL_build_77 : decode cL_build 77 = .ok (.dup, 1) := by decide +kernel
theorem dL_build_78 : decode cL_build 78 = .ok (.bipush 13, 2) := by decide +kernel
theorem dL_build_80 : decode cL_build 80 = .ok (.ldc 37, 2) := by decide +kernel
theorem dL_build_82 : decode cL_build 82 = .ok (.aastore, 1) := by decide +kernel
theorem dL_build_83 : decode cL_build 83 = .ok (.astore 5, 2) := by decide +kernel
theorem dL_build_85 : decode cL_build 85 = .ok (.iconst 0, 1) := by decide +kernel
theorem dL_build_86 : decode cL_build 86 = .ok (.istore 6, 2) := by decide +kernel
theorem dL_build_88 : decode cL_build 88 = .ok (.iconst 0, 1) := by decide +kernel
theorem dL_build_89 : decode cL_build 89 = .ok (.istore 7, 2) := by decide +kernel
theorem dL_build_91 : decode cL_build 91 = .ok (.bipush 6, 2) := by decide +kernel
theorem dL_build_93 : decode cL_build 93 = .ok (.newarray .int, 2) := by decide +kernel
theorem dL_build_95 : decode cL_build 95 = .ok (.astore 8, 2) := by decide +kernel
theorem dL_build_97 : decode cL_build 97 = .ok (.aload_n 1, 1) := by decide +kernel
theorem dL_build_98 : decode cL_build 98 = .ok (.iload_n 2, 1) := by decide +kernel
theorem dL_build_99 : decode cL_build 99 = .ok (.invokestatic 39, 3) := by decide +kernel
theorem dL_build_102 : decode cL_build 102 = .ok (.bipush 24, 2) := by decide +kernel
theorem dL_build_104 : decode cL_build 104 = .ok (.invokestatic 45, 3) := by decide +kernel
theorem dL_build_107 : decode cL_build 107 = .ok (.istore 9, 2) := by decide +kernel
theorem dL_build_109 : decode cL_build 109 = .ok (.iconst 0, 1) := by decide +kernel
theorem dL_build_110 : decode cL_build 110 = .ok (.istore 10, 2) := by decide +kernel
theorem dL_build_112 : decode cL_build 112 = .ok (.iload 10, 2) := by decide +kernel
theorem dL_build_114 : decode cL_build 114 = .ok (.iload 9, 2) := by decide +kernel
theorem dL_build_116 : decode cL_build 116 = .ok (.if_icmp .ge 483, 3) := by decide +kernel
theorem dL_build_119 : decode cL_build 119 = .ok (.aload_n 1, 1) := by decide +kernel
theorem dL_build_120 : decode cL_build 120 = .ok (.iload_n 2, 1) := by decide +kernel
theorem dL_build_121 : decode cL_build 121 = .ok (.iconst 1, 1) := by decide +kernel
theorem dL_build_122 : decode cL_build 122 = .ok (.iadd, 1) := by decide +kernel
theorem dL_build_123 : decode cL_build 123 = .ok (.iload 10, 2) := by decide +kernel
theorem dL_build_125 : decode cL_build 125 = .ok (.bipush 10, 2) := by decide +kernel
theorem dL_build_127 : decode cL_build 127 = .ok (.irem, 1) := by decide +kernel
theorem dL_build_128 : decode cL_build 128 = .ok (.iadd, 1) := by decide +kernel
theorem dL_build_129 : decode cL_build 129 = .ok (.invokestatic 39, 3) := by decide +kernel
theorem dL_build_132 : decode cL_build 132 = .ok (.iload 10, 2) := by decide +kernel
theorem dL_build_134 : decode cL_build 134 = .ok (.bipush 10, 2) := by decide +kernel
theorem dL_build_136 : decode cL_build 136 = .ok (.idiv, 1) := by decide +kernel
theorem dL_build_137 : decode cL_build 137 = .ok (.iconst 5, 1) := by decide +kernel
theorem dL_build_138 : decode cL_build 138 = .ok (.imul, 1) := by decide +kernel
theorem dL_build_139 : decode cL_build 139 = .ok (.ishr, 1) := by decide +kernel
theorem dL_build_140 : decode cL_build 140 = .ok (.istore 11, 2) := by decide +kernel
theorem dL_build_142 : decode cL_build 142 = .ok (.iload 11, 2) := by decide +kernel
theorem dL_build_144 : decode cL_build 144 = .ok (.bipush 12, 2) := by decide +kernel
theorem dL_build_146 : decode cL_build 146 = .ok (.invokestatic 45, 3) := by decide +kernel
theorem dL_build_149 : decode cL_build 149 = .ok (.istore 12, 2) := by decide +kernel
theorem dL_build_151 : decode cL_build 151 = .ok (.iload 11, 2) := by decide +kernel
theorem dL_build_153 : decode cL_build 153 = .ok (.iconst 4, 1) := by decide +kernel
theorem dL_build_154 : decode cL_build 154 = .ok (.ishr, 1) := by decide +kernel
theorem dL_build_155 : decode cL_build 155 = .ok (.iconst 4, 1) := by decide +kernel
theorem dL_build_156 : decode cL_build 156 = .ok (.invokestatic 45, 3) := by decide +kernel
theorem dL_build_159 : decode cL_build 159 = .ok (.istore 13, 2) := by decide +kernel
theorem dL_build_161 : decode cL_build 161 = .ok (.iload 11, 2) := by decide +kernel
theorem dL_build_163 : decode cL_build 163 = .ok (.bipush 6, 2) := by decide +kernel
theorem dL_build_165 : decode cL_build 165 = .ok (.ishr, 1) := by decide +kernel
theorem dL_build_166 : decode cL_build 166 = .ok (.iconst 2, 1) := by decide +kernel
theorem dL_build_167 : decode cL_build 167 = .ok (.invokestatic 45, 3) := by decide +kernel
theorem dL_build_170 : decode cL_build 170 = .ok (.ifCond .ne 7, 3) := by decide +kernel
theorem dL_build_173 : decode cL_build 173 = .ok (.iconst 1, 1) := by decide +kernel
theorem dL_build_174 : decode cL_build 174 = .ok (.goto 4, 3) := by decide +kernel
theorem dL_build_177 : decode cL_build 177 = .ok (.iconst 0, 1) := by decide +kernel
theorem dL_build_178 : decode cL_build 178 = .ok (.istore 14, 2) := by decide +kernel
theorem dL_build_180 : decode cL_build 180 = .ok (.iload 12, 2) := by decide +kernel
theorem dL_build_182 : decode cL_build 182 = .ok (.bipush 7, 2) := by decide +kernel
theorem dL_build_184 : decode cL_build 184 = .ok (.if_icmp .ge 179, 3) := by decide +kernel
theorem dL_build_187 : decode cL_build 187 = .ok (.aload 5, 2) := by decide +kernel
theorem dL_build_189 : decode cL_build 189 = .ok (.iload 11, 2) := by decide +kernel
theorem dL_build_191 : decode cL_build 191 = .ok (.bipush 7, 2) := by decide +kernel
theorem dL_build_193 : decode cL_build 193 = .ok (.ishr, 1) := by decide +kernel
theorem dL_build_194 : decode cL_build 194 = .ok (.iconst 3, 1) := by decide +kernel
theorem dL_build_195 : decode cL_build 195 = .ok (.invokestatic 45, 3) := by decide +kernel
theorem dL_build_198 : decode cL_build 198 = .ok (.ifCond .le 15, 3) := by decide +kernel
theorem dL_build_201 : decode cL_build 201 = .ok (.iload 11, 2) := by decide +kernel
theorem dL_build_203 : decode cL_build 203 = .ok (.bipush 9, 2) := by decide +kernel
theorem dL_build_205 : decode cL_build 205 = .ok (.ishr, 1) := by decide +kernel
theorem dL_build_206 : decode cL_build 206 = .ok (.iconst 4, 1) := by decide +kernel
theorem dL_build_207 : decode cL_build 207 = .ok (.invokestatic 45, 3) := by decide +kernel
theorem dL_build_210 : decode cL_build 210 = .ok (.goto 13, 3) := by decide +kernel
theorem dL_build_213 : decode cL_build 213 = .ok (.iload 11, 2) := by decide +kernel
theorem dL_build_215 : decode cL_build 215 = .ok (.bipush 9, 2) := by decide +kernel
theorem dL_build_217 : decode cL_build 217 = .ok (.ishr, 1) := by decide +kernel
theorem dL_build_218 : decode cL_build 218 = .ok (.bipush 14, 2) := by decide +kernel
theorem dL_build_220 : decode cL_build 220 = .ok (.invokestatic 45, 3) := by decide +kernel
theorem dL_build_223 : decode cL_build 223 = .ok (.aaload, 1) := by decide +kernel
theorem dL_build_224 : decode cL_build 224 = .ok (.astore 15, 2) := by decide +kernel
theorem dL_build_226 : decode cL_build 226 = .ok (.iload 6, 2) := by decide +kernel
theorem dL_build_228 : decode cL_build 228 = .ok (.aload 15, 2) := by decide +kernel
theorem dL_build_230 : decode cL_build 230 = .ok (.invokevirtual 49, 3) := by decide +kernel
theorem dL_build_233 : decode cL_build 233 = .ok (.iadd, 1) := by decide +kernel
theorem dL_build_234 : decode cL_build 234 = .ok (.iload_n 3, 1) := by decide +kernel
theorem dL_build_235 : decode cL_build 235 = .ok (.if_icmp .le 6, 3) := by decide +kernel
theorem dL_build_238 : decode cL_build 238 = .ok (.goto 355, 3) := by decide +kernel
theorem dL_build_241 : decode cL_build 241 = .ok (.lconst 0, 1) := by decide +kernel
theorem dL_build_242 : decode cL_build 242 = .ok (.lstore 16, 2) := by decide +kernel
theorem dL_build_244 : decode cL_build 244 = .ok (.lconst 0, 1) := by decide +kernel
theorem dL_build_245 : decode cL_build 245 = .ok (.lstore 18, 2) := by decide +kernel
theorem dL_build_247 : decode cL_build 247 = .ok (.iconst 0, 1) := by decide +kernel
theorem dL_build_248 : decode cL_build 248 = .ok (.istore 20, 2) := by decide +kernel
theorem dL_build_250 : decode cL_build 250 = .ok (.iload 20, 2) := by decide +kernel
theorem dL_build_252 : decode cL_build 252 = .ok (.aload 15, 2) := by decide +kernel
theorem dL_build_254 : decode cL_build 254 = .ok (.invokevirtual 49, 3) := by decide +kernel
theorem dL_build_257 : decode cL_build 257 = .ok (.if_icmp .ge 66, 3) := by decide +kernel
theorem dL_build_260 : decode cL_build 260 = .ok (.iload 20, 2) := by decide +kernel
theorem dL_build_262 : decode cL_build 262 = .ok (.bipush 8, 2) := by decide +kernel
theorem dL_build_264 : decode cL_build 264 = .ok (.if_icmp .ge 22, 3) := by decide +kernel
theorem dL_build_267 : decode cL_build 267 = .ok (.lload 16, 2) := by decide +kernel
theorem dL_build_269 : decode cL_build 269 = .ok (.bipush 8, 2) := by decide +kernel
theorem dL_build_271 : decode cL_build 271 = .ok (.lshl, 1) := by decide +kernel
theorem dL_build_272 : decode cL_build 272 = .ok (.aload 15, 2) := by decide +kernel
theorem dL_build_274 : decode cL_build 274 = .ok (.iload 20, 2) := by decide +kernel
theorem dL_build_276 : decode cL_build 276 = .ok (.invokevirtual 53, 3) := by decide +kernel
theorem dL_build_279 : decode cL_build 279 = .ok (.i2l, 1) := by decide +kernel
theorem dL_build_280 : decode cL_build 280 = .ok (.lor, 1) := by decide +kernel
theorem dL_build_281 : decode cL_build 281 = .ok (.lstore 16, 2) := by decide +kernel
theorem dL_build_283 : decode cL_build 283 = .ok (.goto 19, 3) := by decide +kernel
theorem dL_build_286 : decode cL_build 286 = .ok (.lload 18, 2) := by decide +kernel
theorem dL_build_288 : decode cL_build 288 = .ok (.bipush 8, 2) := by decide +kernel
theorem dL_build_290 : decode cL_build 290 = .ok (.lshl, 1) := by decide +kernel
theorem dL_build_291 : decode cL_build 291 = .ok (.aload 15, 2) := by decide +kernel
theorem dL_build_293 : decode cL_build 293 = .ok (.iload 20, 2) := by decide +kernel
theorem dL_build_295 : decode cL_build 295 = .ok (.invokevirtual 53, 3) := by decide +kernel
theorem dL_build_298 : decode cL_build 298 = .ok (.i2l, 1) := by decide +kernel
theorem dL_build_299 : decode cL_build 299 = .ok (.lor, 1) := by decide +kernel
theorem dL_build_300 : decode cL_build 300 = .ok (.lstore 18, 2) := by decide +kernel
theorem dL_build_302 : decode cL_build 302 = .ok (.aload 4, 2) := by decide +kernel
theorem dL_build_304 : decode cL_build 304 = .ok (.iload 6, 2) := by decide +kernel
theorem dL_build_306 : decode cL_build 306 = .ok (.aload 15, 2) := by decide +kernel
theorem dL_build_308 : decode cL_build 308 = .ok (.iload 20, 2) := by decide +kernel
theorem dL_build_310 : decode cL_build 310 = .ok (.invokevirtual 53, 3) := by decide +kernel
theorem dL_build_313 : decode cL_build 313 = .ok (.iastore, 1) := by decide +kernel
theorem dL_build_314 : decode cL_build 314 = .ok (.iinc 6 1, 3) := by decide +kernel
theorem dL_build_317 : decode cL_build 317 = .ok (.iinc 20 1, 3) := by decide +kernel
theorem dL_build_320 : decode cL_build 320 = .ok (.goto (-70), 3) := by decide +kernel
theorem dL_build_323 : decode cL_build 323 = .ok (.aload_n 0, 1) := by decide +kernel
theorem dL_build_324 : decode cL_build 324 = .ok (.lload 16, 2) := by decide +kernel
theorem dL_build_326 : decode cL_build 326 = .ok (.invokevirtual 57, 3) := by decide +kernel
theorem dL_build_329 : decode cL_build 329 = .ok (.iload 6, 2) := by decide +kernel
theorem dL_build_331 : decode cL_build 331 = .ok (.iconst 0, 1) := by decide +kernel
theorem dL_build_332 : decode cL_build 332 = .ok (.aload 15, 2) := by decide +kernel
theorem dL_build_334 : decode cL_build 334 = .ok (.invokevirtual 49, 3) := by decide +kernel
theorem dL_build_337 : decode cL_build 337 = .ok (.bipush 8, 2) := by decide +kernel
theorem dL_build_339 : decode cL_build 339 = .ok (.isub, 1) := by decide +kernel
theorem dL_build_340 : decode cL_build 340 = .ok (.invokestatic 63, 3) := by decide +kernel
theorem dL_build_343 : decode cL_build 343 = .ok (.isub, 1) := by decide +kernel
theorem dL_build_344 : decode cL_build 344 = .ok (.if_icmp .ne 14, 3) := by decide +kernel
theorem dL_build_347 : decode cL_build 347 = .ok (.aload_n 0, 1) := by decide +kernel
theorem dL_build_348 : decode cL_build 348 = .ok (.lload 18, 2) := by decide +kernel
theorem dL_build_350 : decode cL_build 350 = .ok (.invokevirtual 57, 3) := by decide +kernel
theorem dL_build_353 : decode cL_build 353 = .ok (.iload 6, 2) := by decide +kernel
theorem dL_build_355 : decode cL_build 355 = .ok (.if_icmp .eq 5, 3) := by decide +kernel
theorem dL_build_358 : decode cL_build 358 = .ok (.iconst (-1), 1) := by decide +kernel
theorem dL_build_359 : decode cL_build 359 = .ok (.ireturn, 1) := by decide +kernel
theorem dL_build_360 : decode cL_build 360 = .ok (.goto 222, 3) := by decide +kernel
theorem dL_build_363 : decode cL_build 363 = .ok (.iload 12, 2) := by decide +kernel
theorem dL_build_365 : decode cL_build 365 = .ok (.bipush 9, 2) := by decide +kernel
theorem dL_build_367 : decode cL_build 367 = .ok (.if_icmp .ge 62, 3) := by decide +kernel
theorem dL_build_370 : decode cL_build 370 = .ok (.iload 7, 2) := by decide +kernel
theorem dL_build_372 : decode cL_build 372 = .ok (.iconst 5, 1) := by decide +kernel
theorem dL_build_373 : decode cL_build 373 = .ok (.if_icmp .ge 56, 3) := by decide +kernel
theorem dL_build_376 : decode cL_build 376 = .ok (.iload 6, 2) := by decide +kernel
theorem dL_build_378 : decode cL_build 378 = .ok (.iload_n 3, 1) := by decide +kernel
theorem dL_build_379 : decode cL_build 379 = .ok (.if_icmp .ge 50, 3) := by decide +kernel
theorem dL_build_382 : decode cL_build 382 = .ok (.aload 4, 2) := by decide +kernel
theorem dL_build_384 : decode cL_build 384 = .ok (.iload 6, 2) := by decide +kernel
theorem dL_build_386 : decode cL_build 386 = .ok (.iconst 2, 1) := by decide +kernel
theorem dL_build_387 : decode cL_build 387 = .ok (.iload 13, 2) := by decide +kernel
theorem dL_build_389 : decode cL_build 389 = .ok (.imul, 1) := by decide +kernel
theorem dL_build_390 : decode cL_build 390 = .ok (.iload 14, 2) := by decide +kernel
theorem dL_build_392 : decode cL_build 392 = .ok (.ifCond .eq 7, 3) := by decide +kernel
theorem dL_build_395 : decode cL_build 395 = .ok (.iconst 1, 1) := by decide +kernel
theorem dL_build_396 : decode cL_build 396 = .ok (.goto 4, 3) := by decide +kernel
theorem dL_build_399 : decode cL_build 399 = .ok (.iconst 0, 1) := by decide +kernel
theorem dL_build_400 : decode cL_build 400 = .ok (.iadd, 1) := by decide +kernel
theorem dL_build_401 : decode cL_build 401 = .ok (.iastore, 1) := by decide +kernel
theorem dL_build_402 : decode cL_build 402 = .ok (.iinc 6 1, 3) := by decide +kernel
theorem dL_build_405 : decode cL_build 405 = .ok (.aload 8, 2) := by decide +kernel
theorem dL_build_407 : decode cL_build 407 = .ok (.iload 7, 2) := by decide +kernel
theorem dL_build_409 : decode cL_build 409 = .ok (.iconst 0, 1) := by decide +kernel
theorem dL_build_410 : decode cL_build 410 = .ok (.iastore, 1) := by decide +kernel
theorem dL_build_411 : decode cL_build 411 = .ok (.iinc 7 1, 3) := by decide +kernel
theorem dL_build_414 : decode cL_build 414 = .ok (.aload_n 0, 1) := by decide +kernel
theorem dL_build_415 : decode cL_build 415 = .ok (.iload 13, 2) := by decide +kernel
theorem dL_build_417 : decode cL_build 417 = .ok (.iload 14, 2) := by decide +kernel
theorem dL_build_419 : decode cL_build 419 = .ok (.invokevirtual 68, 3) := by decide +kernel
theorem dL_build_422 : decode cL_build 422 = .ok (.iload 6, 2) := by decide +kernel
theorem dL_build_424 : decode cL_build 424 = .ok (.if_icmp .eq 158, 3) := by decide +kernel
theorem dL_build_427 : decode cL_build 427 = .ok (.iconst (-1), 1) := by decide +kernel
theorem dL_build_428 : decode cL_build 428 = .ok (.ireturn, 1) := by decide +kernel
theorem dL_build_429 : decode cL_build 429 = .ok (.iload 12, 2) := by decide +kernel
theorem dL_build_431 : decode cL_build 431 = .ok (.bipush 9, 2) := by decide +kernel
theorem dL_build_433 : decode cL_build 433 = .ok (.if_icmp .ne 53, 3) := by decide +kernel
theorem dL_build_436 : decode cL_build 436 = .ok (.iload 7, 2) := by decide +kernel
theorem dL_build_438 : decode cL_build 438 = .ok (.ifCond .le 48, 3) := by decide +kernel
theorem dL_build_441 : decode cL_build 441 = .ok (.aload 8, 2) := by decide +kernel
theorem dL_build_443 : decode cL_build 443 = .ok (.iload 7, 2) := by decide +kernel
theorem dL_build_445 : decode cL_build 445 = .ok (.iconst 1, 1) := by decide +kernel
theorem dL_build_446 : decode cL_build 446 = .ok (.isub, 1) := by decide +kernel
theorem dL_build_447 : decode cL_build 447 = .ok (.iaload, 1) := by decide +kernel
theorem dL_build_448 : decode cL_build 448 = .ok (.ifCond .ne 38, 3) := by decide +kernel
theorem dL_build_451 : decode cL_build 451 = .ok (.iload 6, 2) := by decide +kernel
theorem dL_build_453 : decode cL_build 453 = .ok (.iload_n 3, 1) := by decide +kernel
theorem dL_build_454 : decode cL_build 454 = .ok (.if_icmp .ge 32, 3) := by decide +kernel
theorem dL_build_457 : decode cL_build 457 = .ok (.aload 8, 2) := by decide +kernel
theorem dL_build_459 : decode cL_build 459 = .ok (.iload 7, 2) := by decide +kernel
theorem dL_build_461 : decode cL_build 461 = .ok (.iconst 1, 1) := by decide +kernel
theorem dL_build_462 : decode cL_build 462 = .ok (.isub, 1) := by decide +kernel
theorem dL_build_463 : decode cL_build 463 = .ok (.iconst 1, 1) := by decide +kernel
theorem dL_build_464 : decode cL_build 464 = .ok (.iastore, 1) := by decide +kernel
theorem dL_build_465 : decode cL_build 465 = .ok (.aload 4, 2) := by decide +kernel
theorem dL_build_467 : decode cL_build 467 = .ok (.iload 6, 2) := by decide +kernel
theorem dL_build_469 : decode cL_build 469 = .ok (.bipush 16, 2) := by decide +kernel
theorem dL_build_471 : decode cL_build 471 = .ok (.iastore, 1) := by decide +kernel
theorem dL_build_472 : decode cL_build 472 = .ok (.iinc 6 1, 3) := by decide +kernel
theorem dL_build_475 : decode cL_build 475 = .ok (.aload_n 0, 1) := by decide +kernel
theorem dL_build_476 : decode cL_build 476 = .ok (.invokevirtual 72, 3) := by decide +kernel
theorem dL_build_479 : decode cL_build 479 = .ok (.iload 6, 2) := by decide +kernel
theorem dL_build_481 : decode cL_build 481 = .ok (.if_icmp .eq 101, 3) := by decide +kernel
theorem dL_build_484 : decode cL_build 484 = .ok (.iconst (-1), 1) := by decide +kernel
theorem dL_build_485 : decode cL_build 485 = .ok (.ireturn, 1) := by decide +kernel
theorem dL_build_486 : decode cL_build 486 = .ok (.iload 12, 2) := by decide +kernel
theorem dL_build_488 : decode cL_build 488 = .ok (.bipush 10, 2) := by decide +kernel
theorem dL_build_490 : decode cL_build 490 = .ok (.if_icmp .ne 38, 3) := by decide +kernel
theorem dL_build_493 : decode cL_build 493 = .ok (.iload 7, 2) := by decide +kernel
theorem dL_build_495 : decode cL_build 495 = .ok (.ifCond .le 33, 3) := by decide +kernel
theorem dL_build_498 : decode cL_build 498 = .ok (.iload 6, 2) := by decide +kernel
theorem dL_build_500 : decode cL_build 500 = .ok (.iload_n 3, 1) := by decide +kernel
theorem dL_build_501 : decode cL_build 501 = .ok (.if_icmp .ge 27, 3) := by decide +kernel
theorem dL_build_504 : decode cL_build 504 = .ok (.iinc 7 (-1), 3) := by decide +kernel
theorem dL_build_507 : decode cL_build 507 = .ok (.aload 4, 2) := by decide +kernel
theorem dL_build_509 : decode cL_build 509 = .ok (.iload 6, 2) := by decide +kernel
theorem dL_build_511 : decode cL_build 511 = .ok (.bipush 17, 2) := by decide +kernel
theorem dL_build_513 : decode cL_build 513 = .ok (.iastore, 1) := by decide +kernel
theorem dL_build_514 : decode cL_build 514 = .ok (.iinc 6 1, 3) := by decide +kernel
theorem dL_build_517 : decode cL_build 517 = .ok (.aload_n 0, 1) := by decide +kernel
theorem dL_build_518 : decode cL_build 518 = .ok (.invokevirtual 75, 3) := by decide +kernel
theorem dL_build_521 : decode cL_build 521 = .ok (.iload 6, 2) := by decide +kernel
theorem dL_build_523 : decode cL_build 523 = .ok (.if_icmp .eq 59, 3) := by decide +kernel
theorem dL_build_526 : decode cL_build 526 = .ok (.iconst (-1), 1) := by decide +kernel
theorem dL_build_527 : decode cL_build 527 = .ok (.ireturn, 1) := by decide +kernel
theorem dL_build_528 : decode cL_build 528 = .ok (.iload 12, 2) := by decide +kernel
theorem dL_build_530 : decode cL_build 530 = .ok (.bipush 11, 2) := by decide +kernel
theorem dL_build_532 : decode cL_build 532 = .ok (.if_icmp .ne 50, 3) := by decide +kernel
theorem dL_build_535 : decode cL_build 535 = .ok (.iload 6, 2) := by decide +kernel
theorem dL_build_537 : decode cL_build 537 = .ok (.iload_n 3, 1) := by decide +kernel
theorem dL_build_538 : decode cL_build 538 = .ok (.if_icmp .ge 44, 3) := by decide +kernel
theorem dL_build_541 : decode cL_build 541 = .ok (.aload 4, 2) := by decide +kernel
theorem dL_build_543 : decode cL_build 543 = .ok (.iload 6, 2) := by decide +kernel
theorem dL_build_545 : decode cL_build 545 = .ok (.bipush 8, 2) := by decide +kernel
theorem dL_build_547 : decode cL_build 547 = .ok (.iconst 2, 1) := by decide +kernel
theorem dL_build_548 : decode cL_build 548 = .ok (.iload 13, 2) := by decide +kernel
theorem dL_build_550 : decode cL_build 550 = .ok (.imul, 1) := by decide +kernel
theorem dL_build_551 : decode cL_build 551 = .ok (.iadd, 1) := by decide +kernel
theorem dL_build_552 : decode cL_build 552 = .ok (.iload 14, 2) := by decide +kernel
theorem dL_build_554 : decode cL_build 554 = .ok (.ifCond .eq 7, 3) := by decide +kernel
theorem dL_build_557 : decode cL_build 557 = .ok (.iconst 1, 1) := by decide +kernel
theorem dL_build_558 : decode cL_build 558 = .ok (.goto 4, 3) := by decide +kernel
theorem dL_build_561 : decode cL_build 561 = .ok (.iconst 0, 1) := by decide +kernel
theorem dL_build_562 : decode cL_build 562 = .ok (.iadd, 1) := by decide +kernel
theorem dL_build_563 : decode cL_build 563 = .ok (.iastore, 1) := by decide +kernel
theorem dL_build_564 : decode cL_build 564 = .ok (.iinc 6 1, 3) := by decide +kernel
theorem dL_build_567 : decode cL_build 567 = .ok (.aload_n 0, 1) := by decide +kernel
theorem dL_build_568 : decode cL_build 568 = .ok (.iload 13, 2) := by decide +kernel
theorem dL_build_570 : decode cL_build 570 = .ok (.iload 14, 2) := by decide +kernel
theorem dL_build_572 : decode cL_build 572 = .ok (.invokevirtual 78, 3) := by decide +kernel
theorem dL_build_575 : decode cL_build 575 = .ok (.iload 6, 2) := by decide +kernel
theorem dL_build_577 : decode cL_build 577 = .ok (.if_icmp .eq 5, 3) := by decide +kernel
theorem dL_build_580 : decode cL_build 580 = .ok (.iconst (-1), 1) := by decide +kernel
theorem dL_build_581 : decode cL_build 581 = .ok (.ireturn, 1) := by decide +kernel
theorem dL_build_582 : decode cL_build 582 = .ok (.aload_n 0, 1) := by decide +kernel
theorem dL_build_583 : decode cL_build 583 = .ok (.invokevirtual 81, 3) := by decide +kernel
theorem dL_build_586 : decode cL_build 586 = .ok (.iload 7, 2) := by decide +kernel
theorem dL_build_588 : decode cL_build 588 = .ok (.if_icmp .eq 5, 3) := by decide +kernel
theorem dL_build_591 : decode cL_build 591 = .ok (.iconst (-1), 1) := by decide +kernel
theorem dL_build_592 : decode cL_build 592 = .ok (.ireturn, 1) := by decide +kernel
theorem dL_build_593 : decode cL_build 593 = .ok (.iinc 10 1, 3) := by decide +kernel
theorem dL_build_596 : decode cL_build 596 = .ok (.goto (-484), 3) := by decide +kernel
theorem dL_build_599 : decode cL_build 599 = .ok (.iload 7, 2) := by decide +kernel
theorem dL_build_601 : decode cL_build 601 = .ok (.ifCond .le 27, 3) := by decide +kernel
theorem dL_build_604 : decode cL_build 604 = .ok (.iinc 7 (-1), 3) := by decide +kernel
theorem dL_build_607 : decode cL_build 607 = .ok (.aload 4, 2) := by decide +kernel
theorem dL_build_609 : decode cL_build 609 = .ok (.iload 6, 2) := by decide +kernel
theorem dL_build_611 : decode cL_build 611 = .ok (.bipush 17, 2) := by decide +kernel
theorem dL_build_613 : decode cL_build 613 = .ok (.iastore, 1) := by decide +kernel
theorem dL_build_614 : decode cL_build 614 = .ok (.iinc 6 1, 3) := by decide +kernel
theorem dL_build_617 : decode cL_build 617 = .ok (.aload_n 0, 1) := by decide +kernel
theorem dL_build_618 : decode cL_build 618 = .ok (.invokevirtual 75, 3) := by decide +kernel
theorem dL_build_621 : decode cL_build 621 = .ok (.iload 6, 2) := by decide +kernel
theorem dL_build_623 : decode cL_build 623 = .ok (.if_icmp .eq (-24), 3) := by decide +kernel
theorem dL_build_626 : decode cL_build 626 = .ok (.iconst (-1), 1) := by decide +kernel
theorem dL_build_627 : decode cL_build 627 = .ok (.ireturn, 1) := by decide +kernel
theorem dL_build_628 : decode cL_build 628 = .ok (.aload_n 0, 1) := by decide +kernel
theorem dL_build_629 : decode cL_build 629 = .ok (.invokevirtual 84, 3) := by decide +kernel
theorem dL_build_632 : decode cL_build 632 = .ok (.iload 6, 2) := by decide +kernel
theorem dL_build_634 : decode cL_build 634 = .ok (.if_icmp .ne 15, 3) := by decide +kernel
theorem dL_build_637 : decode cL_build 637 = .ok (.aload_n 0, 1) := by decide +kernel
theorem dL_build_638 : decode cL_build 638 = .ok (.invokevirtual 81, 3) := by decide +kernel
theorem dL_build_641 : decode cL_build 641 = .ok (.ifCond .ne 8, 3) := by decide +kernel
theorem dL_build_644 : decode cL_build 644 = .ok (.iload 6, 2) := by decide +kernel
theorem dL_build_646 : decode cL_build 646 = .ok (.goto 4, 3) := by decide +kernel
theorem dL_build_649 : decode cL_build 649 = .ok (.iconst (-1), 1) := by decide +kernel
theorem dL_build_650 : decode cL_build 650 = .ok (.ireturn, 1) := by decide +kernel
theorem dL_law_0 : decode cL_law 0 = .ok (.new 58, 3) := by decide +kernel
theorem dL_law_3 : decode cL_law 3 = .ok (.dup, 1) := by decide +kernel
theorem dL_law_4 : decode cL_law 4 = .ok (.invokespecial 87, 3) := by decide +kernel
theorem dL_law_7 : decode cL_law 7 = .ok (.astore_n 1, 1) := by decide +kernel
theorem dL_law_8 : decode cL_law 8 = .ok (.bipush 80, 2) := by decide +kernel
theorem dL_law_10 : decode cL_law 10 = .ok (.newarray .int, 2) := by decide +kernel
theorem dL_law_12 : decode cL_law 12 = .ok (.astore_n 2, 1) := by decide +kernel
theorem dL_law_13 : decode cL_law 13 = .ok (.aload_n 1, 1) := by decide +kernel
theorem dL_law_14 : decode cL_law 14 = .ok (.aload_n 0, 1) := by decide +kernel
theorem dL_law_15 : decode cL_law 15 = .ok (.iconst 0, 1) := by decide +kernel
theorem dL_law_16 : decode cL_law 16 = .ok (.bipush 60, 2) := by decide +kernel
theorem dL_law_18 : decode cL_law 18 = .ok (.aload_n 2, 1) := by decide +kernel
theorem dL_law_19 : decode cL_law 19 = .ok (.invokestatic 88, 3) := by decide +kernel
theorem dL_law_22 : decode cL_law 22 = .ok (.istore_n 3, 1) := by decide +kernel
theorem dL_law_23 : decode cL_law 23 = .ok (.iload_n 3, 1) := by decide +kernel
theorem dL_law_24 : decode cL_law 24 = .ok (.ifCond .ge 5, 3) := by decide +kernel
theorem dL_law_27 : decode cL_law 27 = .ok (.iconst 0, 1) := by decide +kernel
theorem dL_law_28 : decode cL_law 28 = .ok (.ireturn, 1) := by decide +kernel
theorem dL_law_29 : decode cL_law 29 = .ok (.aload_n 1, 1) := by decide +kernel
theorem dL_law_30 : decode cL_law 30 = .ok (.invokevirtual 92, 3) := by decide +kernel
theorem dL_law_33 : decode cL_law 33 = .ok (.istore 4, 2) := by decide +kernel
theorem dL_law_35 : decode cL_law 35 = .ok (.aload_n 0, 1) := by decide +kernel
theorem dL_law_36 : decode cL_law 36 = .ok (.bipush 12, 2) := by decide +kernel
theorem dL_law_38 : decode cL_law 38 = .ok (.invokestatic 39, 3) := by decide +kernel
theorem dL_law_41 : decode cL_law 41 = .ok (.bipush 16, 2) := by decide +kernel
theorem dL_law_43 : decode cL_law 43 = .ok (.invokestatic 45, 3) := by decide +kernel
theorem dL_law_46 : decode cL_law 46 = .ok (.istore 5, 2) := by decide +kernel
theorem dL_law_48 : decode cL_law 48 = .ok (.iconst 0, 1) := by decide +kernel
theorem dL_law_49 : decode cL_law 49 = .ok (.istore 6, 2) := by decide +kernel
theorem dL_law_51 : decode cL_law 51 = .ok (.iload 6, 2) := by decide +kernel
theorem dL_law_53 : decode cL_law 53 = .ok (.iconst 4, 1) := by decide +kernel
theorem dL_law_54 : decode cL_law 54 = .ok (.if_icmp .ge 340, 3) := by decide +kernel
theorem dL_law_57 : decode cL_law 57 = .ok (.iload 5, 2) := by decide +kernel
theorem dL_law_59 : decode cL_law 59 = .ok (.iload 6, 2) := by decide +kernel
theorem dL_law_61 : decode cL_law 61 = .ok (.iconst 5, 1) := by decide +kernel
theorem dL_law_62 : decode cL_law 62 = .ok (.imul, 1) := by decide +kernel
theorem dL_law_63 : decode cL_law 63 = .ok (.ixor, 1) := by decide +kernel
theorem dL_law_64 : decode cL_law 64 = .ok (.istore 7, 2) := by decide +kernel
theorem dL_law_66 : decode cL_law 66 = .ok (.new 58, 3) := by decide +kernel
theorem dL_law_69 : decode cL_law 69 = .ok (.dup, 1) := by decide +kernel
theorem dL_law_70 : decode cL_law 70 = .ok (.invokespecial 87, 3) := by decide +kernel
theorem dL_law_73 : decode cL_law 73 = .ok (.astore 8, 2) := by decide +kernel
theorem dL_law_75 : decode cL_law 75 = .ok (.aload_n 1, 1) := by decide +kernel
theorem dL_law_76 : decode cL_law 76 = .ok (.iload 7, 2) := by decide +kernel
theorem dL_law_78 : decode cL_law 78 = .ok (.invokevirtual 95, 3) := by decide +kernel
theorem dL_law_81 : decode cL_law 81 = .ok (.istore 9, 2) := by decide +kernel
theorem dL_law_83 : decode cL_law 83 = .ok (.iconst 0, 1) := by decide +kernel
theorem dL_law_84 : decode cL_law 84 = .ok (.istore 10, 2) := by decide +kernel
theorem dL_law_86 : decode cL_law 86 = .ok (.iload 10, 2) := by decide +kernel
theorem dL_law_88 : decode cL_law 88 = .ok (.iload 9, 2) := by decide +kernel
theorem dL_law_90 : decode cL_law 90 = .ok (.if_icmp .ge 87, 3) := by decide +kernel
theorem dL_law_93 : decode cL_law 93 = .ok (.aload_n 1, 1) := by decide +kernel
theorem dL_law_94 : decode cL_law 94 = .ok (.iload 7, 2) := by decide +kernel
theorem dL_law_96 : decode cL_law 96 = .ok (.iload 10, 2) := by decide +kernel
theorem dL_law_98 : decode cL_law 98 = .ok (.invokevirtual 98, 3) := by decide +kernel
theorem dL_law_101 : decode cL_law 101 = .ok (.istore 11, 2) := by decide +kernel
theorem dL_law_103 : decode cL_law 103 = .ok (.aload_n 1, 1) := by decide +kernel
theorem dL_law_104 : decode cL_law 104 = .ok (.iload 11, 2) := by decide +kernel
theorem dL_law_106 : decode cL_law 106 = .ok (.invokevirtual 101, 3) := by decide +kernel
theorem dL_law_109 : decode cL_law 109 = .ok (.aload_n 2, 1) := by decide +kernel
theorem dL_law_110 : decode cL_law 110 = .ok (.iload 11, 2) := by decide +kernel
theorem dL_law_112 : decode cL_law 112 = .ok (.iaload, 1) := by decide +kernel
theorem dL_law_113 : decode cL_law 113 = .ok (.if_icmp .ne 37, 3) := by decide +kernel
theorem dL_law_116 : decode cL_law 116 = .ok (.aload_n 1, 1) := by decide +kernel
theorem dL_law_117 : decode cL_law 117 = .ok (.iload 11, 2) := by decide +kernel
theorem dL_law_119 : decode cL_law 119 = .ok (.invokevirtual 104, 3) := by decide +kernel
theorem dL_law_122 : decode cL_law 122 = .ok (.iload 7, 2) := by decide +kernel
theorem dL_law_124 : decode cL_law 124 = .ok (.ishr, 1) := by decide +kernel
theorem dL_law_125 : decode cL_law 125 = .ok (.iconst 1, 1) := by decide +kernel
theorem dL_law_126 : decode cL_law 126 = .ok (.iand, 1) := by decide +kernel
theorem dL_law_127 : decode cL_law 127 = .ok (.ifCond .eq 23, 3) := by decide +kernel
theorem dL_law_130 : decode cL_law 130 = .ok (.iload 10, 2) := by decide +kernel
theorem dL_law_132 : decode cL_law 132 = .ok (.ifCond .le 20, 3) := by decide +kernel
theorem dL_law_135 : decode cL_law 135 = .ok (.iload 11, 2) := by decide +kernel
theorem dL_law_137 : decode cL_law 137 = .ok (.aload_n 1, 1) := by decide +kernel
theorem dL_law_138 : decode cL_law 138 = .ok (.iload 7, 2) := by decide +kernel
theorem dL_law_140 : decode cL_law 140 = .ok (.iload 10, 2) := by decide +kernel
theorem dL_law_142 : decode cL_law 142 = .ok (.iconst 1, 1) := by decide +kernel
theorem dL_law_143 : decode cL_law 143 = .ok (.isub, 1) := by decide +kernel
theorem dL_law_144 : decode cL_law 144 = .ok (.invokevirtual 98, 3) := by decide +kernel
theorem dL_law_147 : decode cL_law 147 = .ok (.if_icmp .gt 5, 3) := by decide +kernel
theorem dL_law_150 : decode cL_law 150 = .ok (.iconst 0, 1) := by decide +kernel
theorem dL_law_151 : decode cL_law 151 = .ok (.ireturn, 1) := by decide +kernel
theorem dL_law_152 : decode cL_law 152 = .ok (.aload 8, 2) := by decide +kernel
theorem dL_law_154 : decode cL_law 154 = .ok (.aload_n 2, 1) := by decide +kernel
theorem dL_law_155 : decode cL_law 155 = .ok (.iload 11, 2) := by decide +kernel
theorem dL_law_157 : decode cL_law 157 = .ok (.iaload, 1) := by decide +kernel
theorem dL_law_158 : decode cL_law 158 = .ok (.i2l, 1) := by decide +kernel
theorem dL_law_159 : decode cL_law 159 = .ok (.invokevirtual 57, 3) := by decide +kernel
theorem dL_law_162 : decode cL_law 162 = .ok (.iload 10, 2) := by decide +kernel
theorem dL_law_164 : decode cL_law 164 = .ok (.iconst 1, 1) := by decide +kernel
theorem dL_law_165 : decode cL_law 165 = .ok (.iadd, 1) := by decide +kernel
theorem dL_law_166 : decode cL_law 166 = .ok (.if_icmp .eq 5, 3) := by decide +kernel
theorem dL_law_169 : decode cL_law 169 = .ok (.iconst 0, 1) := by decide +kernel
theorem dL_law_170 : decode cL_law 170 = .ok (.ireturn, 1) := by decide +kernel
theorem dL_law_171 : decode cL_law 171 = .ok (.iinc 10 1, 3) := by decide +kernel
theorem dL_law_174 : decode cL_law 174 = .ok (.goto (-88), 3) := by decide +kernel
theorem dL_law_177 : decode cL_law 177 = .ok (.aload_n 0, 1) := by decide +kernel
theorem dL_law_178 : decode cL_law 178 = .ok (.bipush 13, 2) := by decide +kernel
theorem dL_law_180 : decode cL_law 180 = .ok (.iload 6, 2) := by decide +kernel
theorem dL_law_182 : decode cL_law 182 = .ok (.iadd, 1) := by decide +kernel
theorem dL_law_183 : decode cL_law 183 = .ok (.invokestatic 39, 3) := by decide +kernel
theorem dL_law_186 : decode cL_law 186 = .ok (.bipush 16, 2) := by decide +kernel
theorem dL_law_188 : decode cL_law 188 = .ok (.invokestatic 45, 3) := by decide +kernel
theorem dL_law_191 : decode cL_law 191 = .ok (.istore 10, 2) := by decide +kernel
theorem dL_law_193 : decode cL_law 193 = .ok (.aload 8, 2) := by decide +kernel
theorem dL_law_195 : decode cL_law 195 = .ok (.iload 10, 2) := by decide +kernel
theorem dL_law_197 : decode cL_law 197 = .ok (.invokevirtual 107, 3) := by decide +kernel
theorem dL_law_200 : decode cL_law 200 = .ok (.istore 11, 2) := by decide +kernel
theorem dL_law_202 : decode cL_law 202 = .ok (.iload 11, 2) := by decide +kernel
theorem dL_law_204 : decode cL_law 204 = .ok (.ifCond .ge 7, 3) := by decide +kernel
theorem dL_law_207 : decode cL_law 207 = .ok (.iconst (-1), 1) := by decide +kernel
theorem dL_law_208 : decode cL_law 208 = .ok (.goto 22, 3) := by decide +kernel
theorem dL_law_211 : decode cL_law 211 = .ok (.iload 11, 2) := by decide +kernel
theorem dL_law_213 : decode cL_law 213 = .ok (.iload 9, 2) := by decide +kernel
theorem dL_law_215 : decode cL_law 215 = .ok (.if_icmp .ne 7, 3) := by decide +kernel
theorem dL_law_218 : decode cL_law 218 = .ok (.iload_n 3, 1) := by decide +kernel
theorem dL_law_219 : decode cL_law 219 = .ok (.goto 11, 3) := by decide +kernel
theorem dL_law_222 : decode cL_law 222 = .ok (.aload_n 1, 1) := by decide +kernel
theorem dL_law_223 : decode cL_law 223 = .ok (.iload 7, 2) := by decide +kernel
theorem dL_law_225 : decode cL_law 225 = .ok (.iload 11, 2) := by decide +kernel
theorem dL_law_227 : decode cL_law 227 = .ok (.invokevirtual 98, 3) := by decide +kernel
theorem dL_law_230 : decode cL_law 230 = .ok (.istore 12, 2) := by decide +kernel
theorem dL_law_232 : decode cL_law 232 = .ok (.aload_n 1, 1) := by decide +kernel
theorem dL_law_233 : decode cL_law 233 = .ok (.iload 7, 2) := by decide +kernel
theorem dL_law_235 : decode cL_law 235 = .ok (.invokevirtual 107, 3) := by decide +kernel
theorem dL_law_238 : decode cL_law 238 = .ok (.iload 12, 2) := by decide +kernel
theorem dL_law_240 : decode cL_law 240 = .ok (.if_icmp .eq 5, 3) := by decide +kernel
theorem dL_law_243 : decode cL_law 243 = .ok (.iconst 0, 1) := by decide +kernel
theorem dL_law_244 : decode cL_law 244 = .ok (.ireturn, 1) := by decide +kernel
theorem dL_law_245 : decode cL_law 245 = .ok (.iconst 0, 1) := by decide +kernel
theorem dL_law_246 : decode cL_law 246 = .ok (.istore 13, 2) := by decide +kernel
theorem dL_law_248 : decode cL_law 248 = .ok (.iload 13, 2) := by decide +kernel
theorem dL_law_250 : decode cL_law 250 = .ok (.iload 9, 2) := by decide +kernel
theorem dL_law_252 : decode cL_law 252 = .ok (.if_icmp .ge 31, 3) := by decide +kernel
theorem dL_law_255 : decode cL_law 255 = .ok (.aload_n 1, 1) := by decide +kernel
theorem dL_law_256 : decode cL_law 256 = .ok (.iload 7, 2) := by decide +kernel
theorem dL_law_258 : decode cL_law 258 = .ok (.iload 13, 2) := by decide +kernel
theorem dL_law_260 : decode cL_law 260 = .ok (.invokevirtual 110, 3) := by decide +kernel
theorem dL_law_263 : decode cL_law 263 = .ok (.aload 8, 2) := by decide +kernel
theorem dL_law_265 : decode cL_law 265 = .ok (.iload 10, 2) := by decide +kernel
theorem dL_law_267 : decode cL_law 267 = .ok (.iload 13, 2) := by decide +kernel
theorem dL_law_269 : decode cL_law 269 = .ok (.invokevirtual 110, 3) := by decide +kernel
theorem dL_law_272 : decode cL_law 272 = .ok (.if_icmp .eq 5, 3) := by decide +kernel
theorem dL_law_275 : decode cL_law 275 = .ok (.iconst 0, 1) := by decide +kernel
theorem dL_law_276 : decode cL_law 276 = .ok (.ireturn, 1) := by decide +kernel
theorem dL_law_277 : decode cL_law 277 = .ok (.iinc 13 1, 3) := by decide +kernel
theorem dL_law_280 : decode cL_law 280 = .ok (.goto (-32), 3) := by decide +kernel
theorem dL_law_283 : decode cL_law 283 = .ok (.iload 11, 2) := by decide +kernel
theorem dL_law_285 : decode cL_law 285 = .ok (.ifCond .lt 6, 3) := by decide +kernel
theorem dL_law_288 : decode cL_law 288 = .ok (.goto 100, 3) := by decide +kernel
theorem dL_law_291 : decode cL_law 291 = .ok (.aload_n 1, 1) := by decide +kernel
theorem dL_law_292 : decode cL_law 292 = .ok (.iload 7, 2) := by decide +kernel
theorem dL_law_294 : decode cL_law 294 = .ok (.invokevirtual 113, 3) := by decide +kernel
theorem dL_law_297 : decode cL_law 297 = .ok (.aload 8, 2) := by decide +kernel
theorem dL_law_299 : decode cL_law 299 = .ok (.iload 10, 2) := by decide +kernel
theorem dL_law_301 : decode cL_law 301 = .ok (.invokevirtual 113, 3) := by decide +kernel
theorem dL_law_304 : decode cL_law 304 = .ok (.if_icmp .eq 5, 3) := by decide +kernel
theorem dL_law_307 : decode cL_law 307 = .ok (.iconst 0, 1) := by decide +kernel
theorem dL_law_308 : decode cL_law 308 = .ok (.ireturn, 1) := by decide +kernel
theorem dL_law_309 : decode cL_law 309 = .ok (.iconst 0, 1) := by decide +kernel
theorem dL_law_310 : decode cL_law 310 = .ok (.istore 13, 2) := by decide +kernel
theorem dL_law_312 : decode cL_law 312 = .ok (.iload 13, 2) := by decide +kernel
theorem dL_law_314 : decode cL_law 314 = .ok (.aload_n 1, 1) := by decide +kernel
theorem dL_law_315 : decode cL_law 315 = .ok (.iload 7, 2) := by decide +kernel
theorem dL_law_317 : decode cL_law 317 = .ok (.invokevirtual 113, 3) := by decide +kernel
theorem dL_law_320 : decode cL_law 320 = .ok (.if_icmp .ge 31, 3) := by decide +kernel
theorem dL_law_323 : decode cL_law 323 = .ok (.aload_n 1, 1) := by decide +kernel
theorem dL_law_324 : decode cL_law 324 = .ok (.iload 7, 2) := by decide +kernel
theorem dL_law_326 : decode cL_law 326 = .ok (.iload 13, 2) := by decide +kernel
theorem dL_law_328 : decode cL_law 328 = .ok (.invokevirtual 116, 3) := by decide +kernel
theorem dL_law_331 : decode cL_law 331 = .ok (.aload 8, 2) := by decide +kernel
theorem dL_law_333 : decode cL_law 333 = .ok (.iload 10, 2) := by decide +kernel
theorem dL_law_335 : decode cL_law 335 = .ok (.iload 13, 2) := by decide +kernel
theorem dL_law_337 : decode cL_law 337 = .ok (.invokevirtual 116, 3) := by decide +kernel
theorem dL_law_340 : decode cL_law 340 = .ok (.if_icmp .eq 5, 3) := by decide +kernel
theorem dL_law_343 : decode cL_law 343 = .ok (.iconst 0, 1) := by decide +kernel
theorem dL_law_344 : decode cL_law 344 = .ok (.ireturn, 1) := by decide +kernel
theorem dL_law_345 : decode cL_law 345 = .ok (.iinc 13 1, 3) := by decide +kernel
theorem dL_law_348 : decode cL_law 348 = .ok (.goto (-36), 3) := by decide +kernel
theorem dL_law_351 : decode cL_law 351 = .ok (.iconst 0, 1) := by decide +kernel
theorem dL_law_352 : decode cL_law 352 = .ok (.istore 13, 2) := by decide +kernel
theorem dL_law_354 : decode cL_law 354 = .ok (.iload 13, 2) := by decide +kernel
theorem dL_law_356 : decode cL_law 356 = .ok (.iconst 4, 1) := by decide +kernel
theorem dL_law_357 : decode cL_law 357 = .ok (.if_icmp .ge 31, 3) := by decide +kernel
theorem dL_law_360 : decode cL_law 360 = .ok (.aload_n 1, 1) := by decide +kernel
theorem dL_law_361 : decode cL_law 361 = .ok (.iload 7, 2) := by decide +kernel
theorem dL_law_363 : decode cL_law 363 = .ok (.iload 13, 2) := by decide +kernel
theorem dL_law_365 : decode cL_law 365 = .ok (.invokevirtual 119, 3) := by decide +kernel
theorem dL_law_368 : decode cL_law 368 = .ok (.aload 8, 2) := by decide +kernel
theorem dL_law_370 : decode cL_law 370 = .ok (.iload 10, 2) := by decide +kernel
theorem dL_law_372 : decode cL_law 372 = .ok (.iload 13, 2) := by decide +kernel
theorem dL_law_374 : decode cL_law 374 = .ok (.invokevirtual 119, 3) := by decide +kernel
theorem dL_law_377 : decode cL_law 377 = .ok (.if_icmp .eq 5, 3) := by decide +kernel
theorem dL_law_380 : decode cL_law 380 = .ok (.iconst 0, 1) := by decide +kernel
theorem dL_law_381 : decode cL_law 381 = .ok (.ireturn, 1) := by decide +kernel
theorem dL_law_382 : decode cL_law 382 = .ok (.iinc 13 1, 3) := by decide +kernel
theorem dL_law_385 : decode cL_law 385 = .ok (.goto (-31), 3) := by decide +kernel
theorem dL_law_388 : decode cL_law 388 = .ok (.iinc 6 1, 3) := by decide +kernel
theorem dL_law_391 : decode cL_law 391 = .ok (.goto (-340), 3) := by decide +kernel
theorem dL_law_394 : decode cL_law 394 = .ok (.aload_n 1, 1) := by decide +kernel
theorem dL_law_395 : decode cL_law 395 = .ok (.invokevirtual 122, 3) := by decide +kernel
theorem dL_law_398 : decode cL_law 398 = .ok (.istore 6, 2) := by decide +kernel
theorem dL_law_400 : decode cL_law 400 = .ok (.iload 6, 2) := by decide +kernel
theorem dL_law_402 : decode cL_law 402 = .ok (.iload 4, 2) := by decide +kernel
theorem dL_law_404 : decode cL_law 404 = .ok (.if_icmp .gt 18, 3) := by decide +kernel
theorem dL_law_407 : decode cL_law 407 = .ok (.iload 6, 2) := by decide +kernel
theorem dL_law_409 : decode cL_law 409 = .ok (.bipush 16, 2) := by decide +kernel
theorem dL_law_411 : decode cL_law 411 = .ok (.aload_n 1, 1) := by decide +kernel
theorem dL_law_412 : decode cL_law 412 = .ok (.invokevirtual 125, 3) := by decide +kernel
theorem dL_law_415 : decode cL_law 415 = .ok (.invokestatic 128, 3) := by decide +kernel
theorem dL_law_418 : decode cL_law 418 = .ok (.isub, 1) := by decide +kernel
theorem dL_law_419 : decode cL_law 419 = .ok (.if_icmp .le 5, 3) := by decide +kernel
theorem dL_law_422 : decode cL_law 422 = .ok (.iconst 0, 1) := by decide +kernel
theorem dL_law_423 : decode cL_law 423 = .ok (.ireturn, 1) := by decide +kernel
theorem dL_law_424 : decode cL_law 424 = .ok (.iconst 0, 1) := by decide +kernel
theorem dL_law_425 : decode cL_law 425 = .ok (.istore 7, 2) := by decide +kernel
theorem dL_law_427 : decode cL_law 427 = .ok (.iload 7, 2) := by decide +kernel
theorem dL_law_429 : decode cL_law 429 = .ok (.iload_n 3, 1) := by decide +kernel
theorem dL_law_430 : decode cL_law 430 = .ok (.if_icmp .ge 29, 3) := by decide +kernel
theorem dL_law_433 : decode cL_law 433 = .ok (.aload_n 1, 1) := by decide +kernel
theorem dL_law_434 : decode cL_law 434 = .ok (.iload 7, 2) := by decide +kernel
theorem dL_law_436 : decode cL_law 436 = .ok (.invokevirtual 133, 3) := by decide +kernel
theorem dL_law_439 : decode cL_law 439 = .ok (.aload_n 1, 1) := by decide +kernel
theorem dL_law_440 : decode cL_law 440 = .ok (.iload 7, 2) := by decide +kernel
theorem dL_law_442 : decode cL_law 442 = .ok (.invokevirtual 104, 3) := by decide +kernel
theorem dL_law_445 : decode cL_law 445 = .ok (.invokestatic 128, 3) := by decide +kernel
theorem dL_law_448 : decode cL_law 448 = .ok (.if_icmp .le 5, 3) := by decide +kernel
theorem dL_law_451 : decode cL_law 451 = .ok (.iconst 0, 1) := by decide +kernel
theorem dL_law_452 : decode cL_law 452 = .ok (.ireturn, 1) := by decide +kernel
theorem dL_law_453 : decode cL_law 453 = .ok (.iinc 7 1, 3) := by decide +kernel
theorem dL_law_456 : decode cL_law 456 = .ok (.goto (-29), 3) := by decide +kernel
theorem dL_law_459 : decode cL_law 459 = .ok (.aload_n 1, 1) := by decide +kernel
theorem dL_law_460 : decode cL_law 460 = .ok (.invokevirtual 136, 3) := by decide +kernel
theorem dL_law_463 : decode cL_law 463 = .ok (.dconst 0, 1) := by decide +kernel
theorem dL_law_464 : decode cL_law 464 = .ok (.dcmp .l, 1) := by decide +kernel
theorem dL_law_465 : decode cL_law 465 = .ok (.ifCond .eq 23, 3) := by decide +kernel
theorem dL_law_468 : decode cL_law 468 = .ok (.aload_n 1, 1) := by decide +kernel
theorem dL_law_469 : decode cL_law 469 = .ok (.invokevirtual 136, 3) := by decide +kernel
theorem dL_law_472 : decode cL_law 472 = .ok (.dconst 1, 1) := by decide +kernel
theorem dL_law_473 : decode cL_law 473 = .ok (.dcmp .l, 1) := by decide +kernel
theorem dL_law_474 : decode cL_law 474 = .ok (.ifCond .lt 18, 3) := by decide +kernel
theorem dL_law_477 : decode cL_law 477 = .ok (.aload_n 1, 1) := by decide +kernel
theorem dL_law_478 : decode cL_law 478 = .ok (.invokevirtual 136, 3) := by decide +kernel
theorem dL_law_481 : decode cL_law 481 = .ok (.ldc2_w 140, 3) := by decide +kernel
theorem dL_law_484 : decode cL_law 484 = .ok (.dcmp .g, 1) := by decide +kernel
theorem dL_law_485 : decode cL_law 485 = .ok (.ifCond .gt 7, 3) := by decide +kernel
theorem dL_law_488 : decode cL_law 488 = .ok (.iconst 1, 1) := by decide +kernel
theorem dL_law_489 : decode cL_law 489 = .ok (.goto 4, 3) := by decide +kernel
theorem dL_law_492 : decode cL_law 492 = .ok (.iconst 0, 1) := by decide +kernel
theorem dL_law_493 : decode cL_law 493 = .ok (.ireturn, 1) := by decide +kernel
