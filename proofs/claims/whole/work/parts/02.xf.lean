theorem dX8_expand_148 : decode cX8_expand 148 = .ok (.ireturn, 1) := by decide +kernel
theorem dX8_expand_149 : decode cX8_expand 149 = .ok (.aload_n 0, 1) := by decide +kernel
theorem dX8_expand_150 : decode cX8_expand 150 = .ok (.iload_n 1, 1) := by decide +kernel
theorem dX8_expand_151 : decode cX8_expand 151 = .ok (.bipush 7, 2) := by decide +kernel
theorem dX8_expand_153 : decode cX8_expand 153 = .ok (.invokevirtual 120, 3) := by decide +kernel
theorem dX8_expand_156 : decode cX8_expand 156 = .ok (.aload_n 0, 1) := by decide +kernel
theorem dX8_expand_157 : decode cX8_expand 157 = .ok (.iload_n 1, 1) := by decide +kernel
theorem dX8_expand_158 : decode cX8_expand 158 = .ok (.bipush 8, 2) := by decide +kernel
theorem dX8_expand_160 : decode cX8_expand 160 = .ok (.invokevirtual 120, 3) := by decide +kernel
theorem dX8_expand_163 : decode cX8_expand 163 = .ok (.iconst 1, 1) := by decide +kernel
theorem dX8_expand_164 : decode cX8_expand 164 = .ok (.ireturn, 1) := by decide +kernel
theorem dX8_expand_165 : decode cX8_expand 165 = .ok (.iload_n 2, 1) := by decide +kernel
theorem dX8_expand_166 : decode cX8_expand 166 = .ok (.bipush 43, 2) := by decide +kernel
theorem dX8_expand_168 : decode cX8_expand 168 = .ok (.if_icmp .eq 11, 3) := by decide +kernel
theorem dX8_expand_171 : decode cX8_expand 171 = .ok (.iload_n 2, 1) := by decide +kernel
theorem dX8_expand_172 : decode cX8_expand 172 = .ok (.bipush 45, 2) := by decide +kernel
theorem dX8_expand_174 : decode cX8_expand 174 = .ok (.if_icmp .eq 5, 3) := by decide +kernel
theorem dX8_expand_177 : decode cX8_expand 177 = .ok (.iconst 1, 1) := by decide +kernel
theorem dX8_expand_178 : decode cX8_expand 178 = .ok (.ireturn, 1) := by decide +kernel
theorem dX8_expand_179 : decode cX8_expand 179 = .ok (.aload_n 0, 1) := by decide +kernel
theorem dX8_expand_180 : decode cX8_expand 180 = .ok (.iload_n 1, 1) := by decide +kernel
theorem dX8_expand_181 : decode cX8_expand 181 = .ok (.iconst 5, 1) := by decide +kernel
theorem dX8_expand_182 : decode cX8_expand 182 = .ok (.invokevirtual 120, 3) := by decide +kernel
theorem dX8_expand_185 : decode cX8_expand 185 = .ok (.aload_n 0, 1) := by decide +kernel
theorem dX8_expand_186 : decode cX8_expand 186 = .ok (.iload_n 1, 1) := by decide +kernel
theorem dX8_expand_187 : decode cX8_expand 187 = .ok (.bipush 6, 2) := by decide +kernel
theorem dX8_expand_189 : decode cX8_expand 189 = .ok (.invokevirtual 120, 3) := by decide +kernel
theorem dX8_expand_192 : decode cX8_expand 192 = .ok (.aload_n 0, 1) := by decide +kernel
theorem dX8_expand_193 : decode cX8_expand 193 = .ok (.iload_n 1, 1) := by decide +kernel
theorem dX8_expand_194 : decode cX8_expand 194 = .ok (.iload_n 2, 1) := by decide +kernel
theorem dX8_expand_195 : decode cX8_expand 195 = .ok (.invokevirtual 120, 3) := by decide +kernel
theorem dX8_expand_198 : decode cX8_expand 198 = .ok (.iconst 1, 1) := by decide +kernel
theorem dX8_expand_199 : decode cX8_expand 199 = .ok (.ireturn, 1) := by decide +kernel
theorem dX8_expand_200 : decode cX8_expand 200 = .ok (.iload_n 2, 1) := by decide +kernel
theorem dX8_expand_201 : decode cX8_expand 201 = .ok (.bipush 42, 2) := by decide +kernel
theorem dX8_expand_203 : decode cX8_expand 203 = .ok (.if_icmp .eq 5, 3) := by decide +kernel
theorem dX8_expand_206 : decode cX8_expand 206 = .ok (.iconst 1, 1) := by decide +kernel
theorem dX8_expand_207 : decode cX8_expand 207 = .ok (.ireturn, 1) := by decide +kernel
theorem dX8_expand_208 : decode cX8_expand 208 = .ok (.aload_n 0, 1) := by decide +kernel
theorem dX8_expand_209 : decode cX8_expand 209 = .ok (.iload_n 1, 1) := by decide +kernel
theorem dX8_expand_210 : decode cX8_expand 210 = .ok (.bipush 7, 2) := by decide +kernel
theorem dX8_expand_212 : decode cX8_expand 212 = .ok (.invokevirtual 120, 3) := by decide +kernel
theorem dX8_expand_215 : decode cX8_expand 215 = .ok (.aload_n 0, 1) := by decide +kernel
theorem dX8_expand_216 : decode cX8_expand 216 = .ok (.iload_n 1, 1) := by decide +kernel
theorem dX8_expand_217 : decode cX8_expand 217 = .ok (.bipush 8, 2) := by decide +kernel
theorem dX8_expand_219 : decode cX8_expand 219 = .ok (.invokevirtual 120, 3) := by decide +kernel
theorem dX8_expand_222 : decode cX8_expand 222 = .ok (.aload_n 0, 1) := by decide +kernel
theorem dX8_expand_223 : decode cX8_expand 223 = .ok (.iload_n 1, 1) := by decide +kernel
theorem dX8_expand_224 : decode cX8_expand 224 = .ok (.iload_n 2, 1) := by decide +kernel
theorem dX8_expand_225 : decode cX8_expand 225 = .ok (.invokevirtual 120, 3) := by decide +kernel
theorem dX8_expand_228 : decode cX8_expand 228 = .ok (.iconst 1, 1) := by decide +kernel
theorem dX8_expand_229 : decode cX8_expand 229 = .ok (.ireturn, 1) := by decide +kernel
theorem dX8_expand_230 : decode cX8_expand 230 = .ok (.aload_n 0, 1) := by decide +kernel
theorem dX8_expand_231 : decode cX8_expand 231 = .ok (.iload_n 1, 1) := by decide +kernel
theorem dX8_expand_232 : decode cX8_expand 232 = .ok (.iload_n 2, 1) := by decide +kernel
theorem dX8_expand_233 : decode cX8_expand 233 = .ok (.invokevirtual 127, 3) := by decide +kernel
theorem dX8_expand_236 : decode cX8_expand 236 = .ok (.ireturn, 1) := by decide +kernel
theorem dX8_expandStatement_0 : decode cX8_expandStatement 0 = .ok (.iload_n 2, 1) := by decide +kernel
theorem dX8_expandStatement_1 : decode cX8_expandStatement 1 = .ok (.invokestatic 117, 3) := by decide +kernel
theorem dX8_expandStatement_4 : decode cX8_expandStatement 4 = .ok (.ifCond .ne 5, 3) := by decide +kernel
theorem dX8_expandStatement_7 : decode cX8_expandStatement 7 = .ok (.iconst 0, 1) := by decide +kernel
theorem dX8_expandStatement_8 : decode cX8_expandStatement 8 = .ok (.ireturn, 1) := by decide +kernel
theorem dX8_expandStatement_9 : decode cX8_expandStatement 9 = .ok (.iload_n 2, 1) := by decide +kernel
theorem dX8_expandStatement_10 : decode cX8_expandStatement 10 = .ok (.bipush 123, 2) := by decide +kernel
theorem dX8_expandStatement_12 : decode cX8_expandStatement 12 = .ok (.if_icmp .ne 19, 3) := by decide +kernel
theorem dX8_expandStatement_15 : decode cX8_expandStatement 15 = .ok (.aload_n 0, 1) := by decide +kernel
theorem dX8_expandStatement_16 : decode cX8_expandStatement 16 = .ok (.iload_n 1, 1) := by decide +kernel
theorem dX8_expandStatement_17 : decode cX8_expandStatement 17 = .ok (.bipush 125, 2) := by decide +kernel
theorem dX8_expandStatement_19 : decode cX8_expandStatement 19 = .ok (.invokevirtual 120, 3) := by decide +kernel
theorem dX8_expandStatement_22 : decode cX8_expandStatement 22 = .ok (.aload_n 0, 1) := by decide +kernel
theorem dX8_expandStatement_23 : decode cX8_expandStatement 23 = .ok (.iload_n 1, 1) := by decide +kernel
theorem dX8_expandStatement_24 : decode cX8_expandStatement 24 = .ok (.iconst 1, 1) := by decide +kernel
theorem dX8_expandStatement_25 : decode cX8_expandStatement 25 = .ok (.invokevirtual 120, 3) := by decide +kernel
theorem dX8_expandStatement_28 : decode cX8_expandStatement 28 = .ok (.goto 57, 3) := by decide +kernel
theorem dX8_expandStatement_31 : decode cX8_expandStatement 31 = .ok (.iload_n 2, 1) := by decide +kernel
theorem dX8_expandStatement_32 : decode cX8_expandStatement 32 = .ok (.bipush 63, 2) := by decide +kernel
theorem dX8_expandStatement_34 : decode cX8_expandStatement 34 = .ok (.if_icmp .ne 24, 3) := by decide +kernel
theorem dX8_expandStatement_37 : decode cX8_expandStatement 37 = .ok (.aload_n 0, 1) := by decide +kernel
theorem dX8_expandStatement_38 : decode cX8_expandStatement 38 = .ok (.iload_n 1, 1) := by decide +kernel
theorem dX8_expandStatement_39 : decode cX8_expandStatement 39 = .ok (.iconst 3, 1) := by decide +kernel
theorem dX8_expandStatement_40 : decode cX8_expandStatement 40 = .ok (.invokevirtual 120, 3) := by decide +kernel
theorem dX8_expandStatement_43 : decode cX8_expandStatement 43 = .ok (.aload_n 0, 1) := by decide +kernel
theorem dX8_expandStatement_44 : decode cX8_expandStatement 44 = .ok (.iload_n 1, 1) := by decide +kernel
theorem dX8_expandStatement_45 : decode cX8_expandStatement 45 = .ok (.iconst 2, 1) := by decide +kernel
theorem dX8_expandStatement_46 : decode cX8_expandStatement 46 = .ok (.invokevirtual 120, 3) := by decide +kernel
theorem dX8_expandStatement_49 : decode cX8_expandStatement 49 = .ok (.aload_n 0, 1) := by decide +kernel
theorem dX8_expandStatement_50 : decode cX8_expandStatement 50 = .ok (.iload_n 1, 1) := by decide +kernel
theorem dX8_expandStatement_51 : decode cX8_expandStatement 51 = .ok (.iconst 4, 1) := by decide +kernel
theorem dX8_expandStatement_52 : decode cX8_expandStatement 52 = .ok (.invokevirtual 120, 3) := by decide +kernel
theorem dX8_expandStatement_55 : decode cX8_expandStatement 55 = .ok (.goto 30, 3) := by decide +kernel
theorem dX8_expandStatement_58 : decode cX8_expandStatement 58 = .ok (.aload_n 0, 1) := by decide +kernel
theorem dX8_expandStatement_59 : decode cX8_expandStatement 59 = .ok (.iload_n 1, 1) := by decide +kernel
theorem dX8_expandStatement_60 : decode cX8_expandStatement 60 = .ok (.bipush 59, 2) := by decide +kernel
theorem dX8_expandStatement_62 : decode cX8_expandStatement 62 = .ok (.invokevirtual 120, 3) := by decide +kernel
theorem dX8_expandStatement_65 : decode cX8_expandStatement 65 = .ok (.aload_n 0, 1) := by decide +kernel
theorem dX8_expandStatement_66 : decode cX8_expandStatement 66 = .ok (.iload_n 1, 1) := by decide +kernel
theorem dX8_expandStatement_67 : decode cX8_expandStatement 67 = .ok (.iconst 4, 1) := by decide +kernel
theorem dX8_expandStatement_68 : decode cX8_expandStatement 68 = .ok (.invokevirtual 120, 3) := by decide +kernel
theorem dX8_expandStatement_71 : decode cX8_expandStatement 71 = .ok (.iload_n 2, 1) := by decide +kernel
theorem dX8_expandStatement_72 : decode cX8_expandStatement 72 = .ok (.invokestatic 114, 3) := by decide +kernel
theorem dX8_expandStatement_75 : decode cX8_expandStatement 75 = .ok (.ifCond .eq 10, 3) := by decide +kernel
theorem dX8_expandStatement_78 : decode cX8_expandStatement 78 = .ok (.aload_n 0, 1) := by decide +kernel
theorem dX8_expandStatement_79 : decode cX8_expandStatement 79 = .ok (.iload_n 1, 1) := by decide +kernel
theorem dX8_expandStatement_80 : decode cX8_expandStatement 80 = .ok (.bipush 61, 2) := by decide +kernel
theorem dX8_expandStatement_82 : decode cX8_expandStatement 82 = .ok (.invokevirtual 120, 3) := by decide +kernel
theorem dX8_expandStatement_85 : decode cX8_expandStatement 85 = .ok (.aload_n 0, 1) := by decide +kernel
theorem dX8_expandStatement_86 : decode cX8_expandStatement 86 = .ok (.iload_n 1, 1) := by decide +kernel
theorem dX8_expandStatement_87 : decode cX8_expandStatement 87 = .ok (.iload_n 2, 1) := by decide +kernel
theorem dX8_expandStatement_88 : decode cX8_expandStatement 88 = .ok (.invokevirtual 120, 3) := by decide +kernel
theorem dX8_expandStatement_91 : decode cX8_expandStatement 91 = .ok (.iconst 1, 1) := by decide +kernel
theorem dX8_expandStatement_92 : decode cX8_expandStatement 92 = .ok (.ireturn, 1) := by decide +kernel
theorem dX8_expandFactor_0 : decode cX8_expandFactor 0 = .ok (.iload_n 2, 1) := by decide +kernel
theorem dX8_expandFactor_1 : decode cX8_expandFactor 1 = .ok (.bipush 48, 2) := by decide +kernel
theorem dX8_expandFactor_3 : decode cX8_expandFactor 3 = .ok (.if_icmp .lt 9, 3) := by decide +kernel
theorem dX8_expandFactor_6 : decode cX8_expandFactor 6 = .ok (.iload_n 2, 1) := by decide +kernel
theorem dX8_expandFactor_7 : decode cX8_expandFactor 7 = .ok (.bipush 57, 2) := by decide +kernel
theorem dX8_expandFactor_9 : decode cX8_expandFactor 9 = .ok (.if_icmp .le 22, 3) := by decide +kernel
theorem dX8_expandFactor_12 : decode cX8_expandFactor 12 = .ok (.iload_n 2, 1) := by decide +kernel
theorem dX8_expandFactor_13 : decode cX8_expandFactor 13 = .ok (.invokestatic 114, 3) := by decide +kernel
theorem dX8_expandFactor_16 : decode cX8_expandFactor 16 = .ok (.ifCond .ne 15, 3) := by decide +kernel
theorem dX8_expandFactor_19 : decode cX8_expandFactor 19 = .ok (.iload_n 2, 1) := by decide +kernel
theorem dX8_expandFactor_20 : decode cX8_expandFactor 20 = .ok (.bipush 40, 2) := by decide +kernel
theorem dX8_expandFactor_22 : decode cX8_expandFactor 22 = .ok (.if_icmp .eq 9, 3) := by decide +kernel
theorem dX8_expandFactor_25 : decode cX8_expandFactor 25 = .ok (.iload_n 2, 1) := by decide +kernel
theorem dX8_expandFactor_26 : decode cX8_expandFactor 26 = .ok (.bipush 45, 2) := by decide +kernel
theorem dX8_expandFactor_28 : decode cX8_expandFactor 28 = .ok (.if_icmp .ne 7, 3) := by decide +kernel
theorem dX8_expandFactor_31 : decode cX8_expandFactor 31 = .ok (.iconst 1, 1) := by decide +kernel
theorem dX8_expandFactor_32 : decode cX8_expandFactor 32 = .ok (.goto 4, 3) := by decide +kernel
theorem dX8_expandFactor_35 : decode cX8_expandFactor 35 = .ok (.iconst 0, 1) := by decide +kernel
theorem dX8_expandFactor_36 : decode cX8_expandFactor 36 = .ok (.istore_n 3, 1) := by decide +kernel
theorem dX8_expandFactor_37 : decode cX8_expandFactor 37 = .ok (.iload_n 2, 1) := by decide +kernel
theorem dX8_expandFactor_38 : decode cX8_expandFactor 38 = .ok (.bipush 40, 2) := by decide +kernel
theorem dX8_expandFactor_40 : decode cX8_expandFactor 40 = .ok (.if_icmp .ne 16, 3) := by decide +kernel
theorem dX8_expandFactor_43 : decode cX8_expandFactor 43 = .ok (.aload_n 0, 1) := by decide +kernel
theorem dX8_expandFactor_44 : decode cX8_expandFactor 44 = .ok (.iload_n 1, 1) := by decide +kernel
theorem dX8_expandFactor_45 : decode cX8_expandFactor 45 = .ok (.bipush 41, 2) := by decide +kernel
theorem dX8_expandFactor_47 : decode cX8_expandFactor 47 = .ok (.invokevirtual 120, 3) := by decide +kernel
theorem dX8_expandFactor_50 : decode cX8_expandFactor 50 = .ok (.aload_n 0, 1) := by decide +kernel
theorem dX8_expandFactor_51 : decode cX8_expandFactor 51 = .ok (.iload_n 1, 1) := by decide +kernel
theorem dX8_expandFactor_52 : decode cX8_expandFactor 52 = .ok (.iconst 4, 1) := by decide +kernel
theorem dX8_expandFactor_53 : decode cX8_expandFactor 53 = .ok (.invokevirtual 120, 3) := by decide +kernel
theorem dX8_expandFactor_56 : decode cX8_expandFactor 56 = .ok (.iload_n 2, 1) := by decide +kernel
theorem dX8_expandFactor_57 : decode cX8_expandFactor 57 = .ok (.bipush 45, 2) := by decide +kernel
theorem dX8_expandFactor_59 : decode cX8_expandFactor 59 = .ok (.if_icmp .ne 10, 3) := by decide +kernel
theorem dX8_expandFactor_62 : decode cX8_expandFactor 62 = .ok (.aload_n 0, 1) := by decide +kernel
theorem dX8_expandFactor_63 : decode cX8_expandFactor 63 = .ok (.iload_n 1, 1) := by decide +kernel
theorem dX8_expandFactor_64 : decode cX8_expandFactor 64 = .ok (.bipush 8, 2) := by decide +kernel
theorem dX8_expandFactor_66 : decode cX8_expandFactor 66 = .ok (.invokevirtual 120, 3) := by decide +kernel
theorem dX8_expandFactor_69 : decode cX8_expandFactor 69 = .ok (.aload_n 0, 1) := by decide +kernel
theorem dX8_expandFactor_70 : decode cX8_expandFactor 70 = .ok (.iload_n 1, 1) := by decide +kernel
theorem dX8_expandFactor_71 : decode cX8_expandFactor 71 = .ok (.iload_n 2, 1) := by decide +kernel
theorem dX8_expandFactor_72 : decode cX8_expandFactor 72 = .ok (.invokevirtual 120, 3) := by decide +kernel
theorem dX8_expandFactor_75 : decode cX8_expandFactor 75 = .ok (.iload_n 3, 1) := by decide +kernel
theorem dX8_expandFactor_76 : decode cX8_expandFactor 76 = .ok (.ireturn, 1) := by decide +kernel
theorem dX8_readOne_0 : decode cX8_readOne 0 = .ok (.aload_n 0, 1) := by decide +kernel
theorem dX8_readOne_1 : decode cX8_readOne 1 = .ok (.getfield 22, 3) := by decide +kernel
theorem dX8_readOne_4 : decode cX8_readOne 4 = .ok (.iload_n 1, 1) := by decide +kernel
theorem dX8_readOne_5 : decode cX8_readOne 5 = .ok (.iaload, 1) := by decide +kernel
theorem dX8_readOne_6 : decode cX8_readOne 6 = .ok (.ifCond .le 38, 3) := by decide +kernel
theorem dX8_readOne_9 : decode cX8_readOne 9 = .ok (.aload_n 0, 1) := by decide +kernel
theorem dX8_readOne_10 : decode cX8_readOne 10 = .ok (.getfield 19, 3) := by decide +kernel
theorem dX8_readOne_13 : decode cX8_readOne 13 = .ok (.sipush 400, 3) := by decide +kernel
theorem dX8_readOne_16 : decode cX8_readOne 16 = .ok (.iload_n 1, 1) := by decide +kernel
theorem dX8_readOne_17 : decode cX8_readOne 17 = .ok (.imul, 1) := by decide +kernel
theorem dX8_readOne_18 : decode cX8_readOne 18 = .ok (.aload_n 0, 1) := by decide +kernel
theorem dX8_readOne_19 : decode cX8_readOne 19 = .ok (.getfield 22, 3) := by decide +kernel
theorem dX8_readOne_22 : decode cX8_readOne 22 = .ok (.iload_n 1, 1) := by decide +kernel
theorem dX8_readOne_23 : decode cX8_readOne 23 = .ok (.iaload, 1) := by decide +kernel
theorem dX8_readOne_24 : decode cX8_readOne 24 = .ok (.iadd, 1) := by decide +kernel
theorem dX8_readOne_25 : decode cX8_readOne 25 = .ok (.iconst 1, 1) := by decide +kernel
theorem dX8_readOne_26 : decode cX8_readOne 26 = .ok (.isub, 1) := by decide +kernel
theorem dX8_readOne_27 : decode cX8_readOne 27 = .ok (.iaload, 1) := by decide +kernel
theorem dX8_readOne_28 : decode cX8_readOne 28 = .ok (.bipush 8, 2) := by decide +kernel
theorem dX8_readOne_30 : decode cX8_readOne 30 = .ok (.if_icmp .gt 14, 3) := by decide +kernel
theorem dX8_readOne_33 : decode cX8_readOne 33 = .ok (.aload_n 0, 1) := by decide +kernel
theorem dX8_readOne_34 : decode cX8_readOne 34 = .ok (.iload_n 1, 1) := by decide +kernel
theorem dX8_readOne_35 : decode cX8_readOne 35 = .ok (.iload_n 2, 1) := by decide +kernel
theorem dX8_readOne_36 : decode cX8_readOne 36 = .ok (.invokevirtual 130, 3) := by decide +kernel
theorem dX8_readOne_39 : decode cX8_readOne 39 = .ok (.ifCond .ne (-39), 3) := by decide +kernel
theorem dX8_readOne_42 : decode cX8_readOne 42 = .ok (.iconst 0, 1) := by decide +kernel
theorem dX8_readOne_43 : decode cX8_readOne 43 = .ok (.ireturn, 1) := by decide +kernel
theorem dX8_readOne_44 : decode cX8_readOne 44 = .ok (.iload_n 2, 1) := by decide +kernel
theorem dX8_readOne_45 : decode cX8_readOne 45 = .ok (.ifCond .ne 18, 3) := by decide +kernel
theorem dX8_readOne_48 : decode cX8_readOne 48 = .ok (.aload_n 0, 1) := by decide +kernel
theorem dX8_readOne_49 : decode cX8_readOne 49 = .ok (.getfield 22, 3) := by decide +kernel
theorem dX8_readOne_52 : decode cX8_readOne 52 = .ok (.iload_n 1, 1) := by decide +kernel
theorem dX8_readOne_53 : decode cX8_readOne 53 = .ok (.iaload, 1) := by decide +kernel
theorem dX8_readOne_54 : decode cX8_readOne 54 = .ok (.ifCond .ne 7, 3) := by decide +kernel
theorem dX8_readOne_57 : decode cX8_readOne 57 = .ok (.iconst 1, 1) := by decide +kernel
theorem dX8_readOne_58 : decode cX8_readOne 58 = .ok (.goto 4, 3) := by decide +kernel
theorem dX8_readOne_61 : decode cX8_readOne 61 = .ok (.iconst 0, 1) := by decide +kernel
theorem dX8_readOne_62 : decode cX8_readOne 62 = .ok (.ireturn, 1) := by decide +kernel
theorem dX8_readOne_63 : decode cX8_readOne 63 = .ok (.aload_n 0, 1) := by decide +kernel
theorem dX8_readOne_64 : decode cX8_readOne 64 = .ok (.getfield 22, 3) := by decide +kernel
theorem dX8_readOne_67 : decode cX8_readOne 67 = .ok (.iload_n 1, 1) := by decide +kernel
theorem dX8_readOne_68 : decode cX8_readOne 68 = .ok (.iaload, 1) := by decide +kernel
theorem dX8_readOne_69 : decode cX8_readOne 69 = .ok (.ifCond .eq 26, 3) := by decide +kernel
theorem dX8_readOne_72 : decode cX8_readOne 72 = .ok (.aload_n 0, 1) := by decide +kernel
theorem dX8_readOne_73 : decode cX8_readOne 73 = .ok (.getfield 19, 3) := by decide +kernel
theorem dX8_readOne_76 : decode cX8_readOne 76 = .ok (.sipush 400, 3) := by decide +kernel
theorem dX8_readOne_79 : decode cX8_readOne 79 = .ok (.iload_n 1, 1) := by decide +kernel
theorem dX8_readOne_80 : decode cX8_readOne 80 = .ok (.imul, 1) := by decide +kernel
theorem dX8_readOne_81 : decode cX8_readOne 81 = .ok (.aload_n 0, 1) := by decide +kernel
theorem dX8_readOne_82 : decode cX8_readOne 82 = .ok (.getfield 22, 3) := by decide +kernel
theorem dX8_readOne_85 : decode cX8_readOne 85 = .ok (.iload_n 1, 1) := by decide +kernel
theorem dX8_readOne_86 : decode cX8_readOne 86 = .ok (.iaload, 1) := by decide +kernel
theorem dX8_readOne_87 : decode cX8_readOne 87 = .ok (.iadd, 1) := by decide +kernel
theorem dX8_readOne_88 : decode cX8_readOne 88 = .ok (.iconst 1, 1) := by decide +kernel
theorem dX8_readOne_89 : decode cX8_readOne 89 = .ok (.isub, 1) := by decide +kernel
theorem dX8_readOne_90 : decode cX8_readOne 90 = .ok (.iaload, 1) := by decide +kernel
theorem dX8_readOne_91 : decode cX8_readOne 91 = .ok (.iload_n 2, 1) := by decide +kernel
theorem dX8_readOne_92 : decode cX8_readOne 92 = .ok (.if_icmp .eq 5, 3) := by decide +kernel
theorem dX8_readOne_95 : decode cX8_readOne 95 = .ok (.iconst 0, 1) := by decide +kernel
theorem dX8_readOne_96 : decode cX8_readOne 96 = .ok (.ireturn, 1) := by decide +kernel
theorem dX8_readOne_97 : decode cX8_readOne 97 = .ok (.aload_n 0, 1) := by decide +kernel
theorem dX8_readOne_98 : decode cX8_readOne 98 = .ok (.getfield 22, 3) := by decide +kernel
theorem dX8_readOne_101 : decode cX8_readOne 101 = .ok (.iload_n 1, 1) := by decide +kernel
theorem dX8_readOne_102 : decode cX8_readOne 102 = .ok (.dup2, 1) := by decide +kernel
theorem dX8_readOne_103 : decode cX8_readOne 103 = .ok (.iaload, 1) := by decide +kernel
theorem dX8_readOne_104 : decode cX8_readOne 104 = .ok (.iconst 1, 1) := by decide +kernel
theorem dX8_readOne_105 : decode cX8_readOne 105 = .ok (.isub, 1) := by decide +kernel
theorem dX8_readOne_106 : decode cX8_readOne 106 = .ok (.iastore, 1) := by decide +kernel
theorem dX8_readOne_107 : decode cX8_readOne 107 = .ok (.iconst 1, 1) := by decide +kernel
theorem dX8_readOne_108 : decode cX8_readOne 108 = .ok (.ireturn, 1) := by decide +kernel
theorem dX8_areLike_0 : decode cX8_areLike 0 = .ok (.aload_n 0, 1) := by decide +kernel
theorem dX8_areLike_1 : decode cX8_areLike 1 = .ok (.getfield 22, 3) := by decide +kernel
theorem dX8_areLike_4 : decode cX8_areLike 4 = .ok (.iload_n 1, 1) := by decide +kernel
theorem dX8_areLike_5 : decode cX8_areLike 5 = .ok (.iaload, 1) := by decide +kernel
theorem dX8_areLike_6 : decode cX8_areLike 6 = .ok (.aload_n 0, 1) := by decide +kernel
theorem dX8_areLike_7 : decode cX8_areLike 7 = .ok (.getfield 22, 3) := by decide +kernel
theorem dX8_areLike_10 : decode cX8_areLike 10 = .ok (.iload_n 2, 1) := by decide +kernel
theorem dX8_areLike_11 : decode cX8_areLike 11 = .ok (.iaload, 1) := by decide +kernel
theorem dX8_areLike_12 : decode cX8_areLike 12 = .ok (.if_icmp .ne 7, 3) := by decide +kernel
theorem dX8_areLike_15 : decode cX8_areLike 15 = .ok (.iconst 1, 1) := by decide +kernel
theorem dX8_areLike_16 : decode cX8_areLike 16 = .ok (.goto 4, 3) := by decide +kernel
theorem dX8_areLike_19 : decode cX8_areLike 19 = .ok (.iconst 0, 1) := by decide +kernel
theorem dX8_areLike_20 : decode cX8_areLike 20 = .ok (.istore_n 3, 1) := by decide +kernel
theorem dX8_areLike_21 : decode cX8_areLike 21 = .ok (.iconst 0, 1) := by decide +kernel
theorem dX8_areLike_22 : decode cX8_areLike 22 = .ok (.istore 4, 2) := by decide +kernel
theorem dX8_areLike_24 : decode cX8_areLike 24 = .ok (.iload 4, 2) := by decide +kernel
theorem dX8_areLike_26 : decode cX8_areLike 26 = .ok (.aload_n 0, 1) := by decide +kernel
theorem dX8_areLike_27 : decode cX8_areLike 27 = .ok (.getfield 22, 3) := by decide +kernel
theorem dX8_areLike_30 : decode cX8_areLike 30 = .ok (.iload_n 1, 1) := by decide +kernel
theorem dX8_areLike_31 : decode cX8_areLike 31 = .ok (.iaload, 1) := by decide +kernel
theorem dX8_areLike_32 : decode cX8_areLike 32 = .ok (.if_icmp .ge 48, 3) := by decide +kernel
theorem dX8_areLike_35 : decode cX8_areLike 35 = .ok (.iload_n 3, 1) := by decide +kernel
theorem dX8_areLike_36 : decode cX8_areLike 36 = .ok (.ifCond .eq 44, 3) := by decide +kernel
theorem dX8_areLike_39 : decode cX8_areLike 39 = .ok (.aload_n 0, 1) := by decide +kernel
theorem dX8_areLike_40 : decode cX8_areLike 40 = .ok (.getfield 19, 3) := by decide +kernel
theorem dX8_areLike_43 : decode cX8_areLike 43 = .ok (.sipush 400, 3) := by decide +kernel
theorem dX8_areLike_46 : decode cX8_areLike 46 = .ok (.iload_n 1, 1) := by decide +kernel
theorem dX8_areLike_47 : decode cX8_areLike 47 = .ok (.imul, 1) := by decide +kernel
theorem dX8_areLike_48 : decode cX8_areLike 48 = .ok (.iload 4, 2) := by decide +kernel
theorem dX8_areLike_50 : decode cX8_areLike 50 = .ok (.iadd, 1) := by decide +kernel
theorem dX8_areLike_51 : decode cX8_areLike 51 = .ok (.iaload, 1) := by decide +kernel
theorem dX8_areLike_52 : decode cX8_areLike 52 = .ok (.aload_n 0, 1) := by decide +kernel
theorem dX8_areLike_53 : decode cX8_areLike 53 = .ok (.getfield 19, 3) := by decide +kernel
theorem dX8_areLike_56 : decode cX8_areLike 56 = .ok (.sipush 400, 3) := by decide +kernel
theorem dX8_areLike_59 : decode cX8_areLike 59 = .ok (.iload_n 2, 1) := by decide +kernel
theorem dX8_areLike_60 : decode cX8_areLike 60 = .ok (.imul, 1) := by decide +kernel
theorem dX8_areLike_61 : decode cX8_areLike 61 = .ok (.iload 4, 2) := by decide +kernel
theorem dX8_areLike_63 : decode cX8_areLike 63 = .ok (.iadd, 1) := by decide +kernel
theorem dX8_areLike_64 : decode cX8_areLike 64 = .ok (.iaload, 1) := by decide +kernel
theorem dX8_areLike_65 : decode cX8_areLike 65 = .ok (.if_icmp .ne 7, 3) := by decide +kernel
theorem dX8_areLike_68 : decode cX8_areLike 68 = .ok (.iconst 1, 1) := by decide +kernel
theorem dX8_areLike_69 : decode cX8_areLike 69 = .ok (.goto 4, 3) := by decide +kernel
theorem dX8_areLike_72 : decode cX8_areLike 72 = .ok (.iconst 0, 1) := by decide +kernel
theorem dX8_areLike_73 : decode cX8_areLike 73 = .ok (.istore_n 3, 1) := by decide +kernel
theorem dX8_areLike_74 : decode cX8_areLike 74 = .ok (.iinc 4 1, 3) := by decide +kernel
theorem dX8_areLike_77 : decode cX8_areLike 77 = .ok (.goto (-53), 3) := by decide +kernel
theorem dX8_areLike_80 : decode cX8_areLike 80 = .ok (.iload_n 3, 1) := by decide +kernel
theorem dX8_areLike_81 : decode cX8_areLike 81 = .ok (.ireturn, 1) := by decide +kernel
theorem dX8_countGroups_0 : decode cX8_countGroups 0 = .ok (.iconst 0, 1) := by decide +kernel
theorem dX8_countGroups_1 : decode cX8_countGroups 1 = .ok (.istore_n 2, 1) := by decide +kernel
theorem dX8_countGroups_2 : decode cX8_countGroups 2 = .ok (.iconst 0, 1) := by decide +kernel
theorem dX8_countGroups_3 : decode cX8_countGroups 3 = .ok (.istore_n 3, 1) := by decide +kernel
theorem dX8_countGroups_4 : decode cX8_countGroups 4 = .ok (.iload_n 3, 1) := by decide +kernel
theorem dX8_countGroups_5 : decode cX8_countGroups 5 = .ok (.bipush 16, 2) := by decide +kernel
theorem dX8_countGroups_7 : decode cX8_countGroups 7 = .ok (.if_icmp .ge 75, 3) := by decide +kernel
theorem dX8_countGroups_10 : decode cX8_countGroups 10 = .ok (.iload_n 1, 1) := by decide +kernel
theorem dX8_countGroups_11 : decode cX8_countGroups 11 = .ok (.iload_n 3, 1) := by decide +kernel
theorem dX8_countGroups_12 : decode cX8_countGroups 12 = .ok (.invokestatic 93, 3) := by decide +kernel
theorem dX8_countGroups_15 : decode cX8_countGroups 15 = .ok (.istore 4, 2) := by decide +kernel
theorem dX8_countGroups_17 : decode cX8_countGroups 17 = .ok (.iconst 0, 1) := by decide +kernel
theorem dX8_countGroups_18 : decode cX8_countGroups 18 = .ok (.istore 5, 2) := by decide +kernel
theorem dX8_countGroups_20 : decode cX8_countGroups 20 = .ok (.iload 5, 2) := by decide +kernel
theorem dX8_countGroups_22 : decode cX8_countGroups 22 = .ok (.iload_n 3, 1) := by decide +kernel
theorem dX8_countGroups_23 : decode cX8_countGroups 23 = .ok (.if_icmp .ge 40, 3) := by decide +kernel
theorem dX8_countGroups_26 : decode cX8_countGroups 26 = .ok (.iload 4, 2) := by decide +kernel
theorem dX8_countGroups_28 : decode cX8_countGroups 28 = .ok (.ifCond .eq 35, 3) := by decide +kernel
theorem dX8_countGroups_31 : decode cX8_countGroups 31 = .ok (.iload_n 1, 1) := by decide +kernel
theorem dX8_countGroups_32 : decode cX8_countGroups 32 = .ok (.iload 5, 2) := by decide +kernel
theorem dX8_countGroups_34 : decode cX8_countGroups 34 = .ok (.invokestatic 93, 3) := by decide +kernel
theorem dX8_countGroups_37 : decode cX8_countGroups 37 = .ok (.ifCond .eq 13, 3) := by decide +kernel
theorem dX8_countGroups_40 : decode cX8_countGroups 40 = .ok (.aload_n 0, 1) := by decide +kernel
theorem dX8_countGroups_41 : decode cX8_countGroups 41 = .ok (.iload 5, 2) := by decide +kernel
theorem dX8_countGroups_43 : decode cX8_countGroups 43 = .ok (.iload_n 3, 1) := by decide +kernel
theorem dX8_countGroups_44 : decode cX8_countGroups 44 = .ok (.invokevirtual 133, 3) := by decide +kernel
theorem dX8_countGroups_47 : decode cX8_countGroups 47 = .ok (.ifCond .ne 7, 3) := by decide +kernel
theorem dX8_countGroups_50 : decode cX8_countGroups 50 = .ok (.iconst 1, 1) := by decide +kernel
theorem dX8_countGroups_51 : decode cX8_countGroups 51 = .ok (.goto 4, 3) := by decide +kernel
theorem dX8_countGroups_54 : decode cX8_countGroups 54 = .ok (.iconst 0, 1) := by decide +kernel
theorem dX8_countGroups_55 : decode cX8_countGroups 55 = .ok (.istore 4, 2) := by decide +kernel
theorem dX8_countGroups_57 : decode cX8_countGroups 57 = .ok (.iinc 5 1, 3) := by decide +kernel
theorem dX8_countGroups_60 : decode cX8_countGroups 60 = .ok (.goto (-40), 3) := by decide +kernel
theorem dX8_countGroups_63 : decode cX8_countGroups 63 = .ok (.iload_n 2, 1) := by decide +kernel
theorem dX8_countGroups_64 : decode cX8_countGroups 64 = .ok (.iload 4, 2) := by decide +kernel
theorem dX8_countGroups_66 : decode cX8_countGroups 66 = .ok (.ifCond .eq 7, 3) := by decide +kernel
theorem dX8_countGroups_69 : decode cX8_countGroups 69 = .ok (.iconst 1, 1) := by decide +kernel
theorem dX8_countGroups_70 : decode cX8_countGroups 70 = .ok (.goto 4, 3) := by decide +kernel
theorem dX8_countGroups_73 : decode cX8_countGroups 73 = .ok (.iconst 0, 1) := by decide +kernel
theorem dX8_countGroups_74 : decode cX8_countGroups 74 = .ok (.iadd, 1) := by decide +kernel
theorem dX8_countGroups_75 : decode cX8_countGroups 75 = .ok (.istore_n 2, 1) := by decide +kernel
theorem dX8_countGroups_76 : decode cX8_countGroups 76 = .ok (.iinc 3 1, 3) := by decide +kernel
theorem dX8_countGroups_79 : decode cX8_countGroups 79 = .ok (.goto (-75), 3) := by decide +kernel
theorem dX8_countGroups_82 : decode cX8_countGroups 82 = .ok (.iload_n 2, 1) := by decide +kernel
theorem dX8_countGroups_83 : decode cX8_countGroups 83 = .ok (.ireturn, 1) := by decide +kernel
theorem dX8_read_0 : decode cX8_read 0 = .ok (.aload_n 0, 1) := by decide +kernel
theorem dX8_read_1 : decode cX8_read 1 = .ok (.invokevirtual 98, 3) := by decide +kernel
theorem dX8_read_4 : decode cX8_read 4 = .ok (.iconst 0, 1) := by decide +kernel
theorem dX8_read_5 : decode cX8_read 5 = .ok (.istore_n 1, 1) := by decide +kernel
theorem dX8_read_6 : decode cX8_read 6 = .ok (.iload_n 1, 1) := by decide +kernel
theorem dX8_read_7 : decode cX8_read 7 = .ok (.bipush 16, 2) := by decide +kernel
theorem dX8_read_9 : decode cX8_read 9 = .ok (.if_icmp .ge 29, 3) := by decide +kernel
theorem dX8_read_12 : decode cX8_read 12 = .ok (.aload_n 0, 1) := by decide +kernel
theorem dX8_read_13 : decode cX8_read 13 = .ok (.getfield 25, 3) := by decide +kernel
theorem dX8_read_16 : decode cX8_read 16 = .ok (.iload_n 1, 1) := by decide +kernel
theorem dX8_read_17 : decode cX8_read 17 = .ok (.iconst (-1), 1) := by decide +kernel
theorem dX8_read_18 : decode cX8_read 18 = .ok (.iastore, 1) := by decide +kernel
theorem dX8_read_19 : decode cX8_read 19 = .ok (.aload_n 0, 1) := by decide +kernel
theorem dX8_read_20 : decode cX8_read 20 = .ok (.getfield 22, 3) := by decide +kernel
theorem dX8_read_23 : decode cX8_read 23 = .ok (.iload_n 1, 1) := by decide +kernel
theorem dX8_read_24 : decode cX8_read 24 = .ok (.iconst 0, 1) := by decide +kernel
theorem dX8_read_25 : decode cX8_read 25 = .ok (.iastore, 1) := by decide +kernel
theorem dX8_read_26 : decode cX8_read 26 = .ok (.aload_n 0, 1) := by decide +kernel
theorem dX8_read_27 : decode cX8_read 27 = .ok (.iload_n 1, 1) := by decide +kernel
theorem dX8_read_28 : decode cX8_read 28 = .ok (.iconst 1, 1) := by decide +kernel
theorem dX8_read_29 : decode cX8_read 29 = .ok (.invokevirtual 120, 3) := by decide +kernel
theorem dX8_read_32 : decode cX8_read 32 = .ok (.iinc 1 1, 3) := by decide +kernel
theorem dX8_read_35 : decode cX8_read 35 = .ok (.goto (-29), 3) := by decide +kernel
theorem dX8_read_38 : decode cX8_read 38 = .ok (.ldc 97, 2) := by decide +kernel
theorem dX8_read_40 : decode cX8_read 40 = .ok (.istore_n 1, 1) := by decide +kernel
theorem dX8_read_41 : decode cX8_read 41 = .ok (.iconst 0, 1) := by decide +kernel
theorem dX8_read_42 : decode cX8_read 42 = .ok (.istore_n 2, 1) := by decide +kernel
theorem dX8_read_43 : decode cX8_read 43 = .ok (.iload_n 2, 1) := by decide +kernel
theorem dX8_read_44 : decode cX8_read 44 = .ok (.aload_n 0, 1) := by decide +kernel
theorem dX8_read_45 : decode cX8_read 45 = .ok (.getfield 47, 3) := by decide +kernel
theorem dX8_read_48 : decode cX8_read 48 = .ok (.if_icmp .ge 133, 3) := by decide +kernel
theorem dX8_read_51 : decode cX8_read 51 = .ok (.aload_n 0, 1) := by decide +kernel
theorem dX8_read_52 : decode cX8_read 52 = .ok (.iload_n 2, 1) := by decide +kernel
theorem dX8_read_53 : decode cX8_read 53 = .ok (.invokevirtual 90, 3) := by decide +kernel
theorem dX8_read_56 : decode cX8_read 56 = .ok (.ifCond .eq 14, 3) := by decide +kernel
theorem dX8_read_59 : decode cX8_read 59 = .ok (.aload_n 0, 1) := by decide +kernel
theorem dX8_read_60 : decode cX8_read 60 = .ok (.getfield 13, 3) := by decide +kernel
theorem dX8_read_63 : decode cX8_read 63 = .ok (.iload_n 2, 1) := by decide +kernel
theorem dX8_read_64 : decode cX8_read 64 = .ok (.iaload, 1) := by decide +kernel
theorem dX8_read_65 : decode cX8_read 65 = .ok (.iload_n 1, 1) := by decide +kernel
theorem dX8_read_66 : decode cX8_read 66 = .ok (.iand, 1) := by decide +kernel
theorem dX8_read_67 : decode cX8_read 67 = .ok (.goto 4, 3) := by decide +kernel
theorem dX8_read_70 : decode cX8_read 70 = .ok (.iconst 0, 1) := by decide +kernel
theorem dX8_read_71 : decode cX8_read 71 = .ok (.istore_n 3, 1) := by decide +kernel
theorem dX8_read_72 : decode cX8_read 72 = .ok (.aload_n 0, 1) := by decide +kernel
theorem dX8_read_73 : decode cX8_read 73 = .ok (.getfield 28, 3) := by decide +kernel
theorem dX8_read_76 : decode cX8_read 76 = .ok (.iload_n 2, 1) := by decide +kernel
theorem dX8_read_77 : decode cX8_read 77 = .ok (.aload_n 0, 1) := by decide +kernel
theorem dX8_read_78 : decode cX8_read 78 = .ok (.iload_n 3, 1) := by decide +kernel
theorem dX8_read_79 : decode cX8_read 79 = .ok (.invokevirtual 136, 3) := by decide +kernel
theorem dX8_read_82 : decode cX8_read 82 = .ok (.iastore, 1) := by decide +kernel
theorem dX8_read_83 : decode cX8_read 83 = .ok (.iconst 0, 1) := by decide +kernel
theorem dX8_read_84 : decode cX8_read 84 = .ok (.istore 4, 2) := by decide +kernel
theorem dX8_read_86 : decode cX8_read 86 = .ok (.iload 4, 2) := by decide +kernel
theorem dX8_read_88 : decode cX8_read 88 = .ok (.bipush 16, 2) := by decide +kernel
theorem dX8_read_90 : decode cX8_read 90 = .ok (.if_icmp .ge 85, 3) := by decide +kernel
theorem dX8_read_93 : decode cX8_read 93 = .ok (.aload_n 0, 1) := by decide +kernel
theorem dX8_read_94 : decode cX8_read 94 = .ok (.getfield 31, 3) := by decide +kernel
theorem dX8_read_97 : decode cX8_read 97 = .ok (.bipush 80, 2) := by decide +kernel
theorem dX8_read_99 : decode cX8_read 99 = .ok (.iload 4, 2) := by decide +kernel
theorem dX8_read_101 : decode cX8_read 101 = .ok (.imul, 1) := by decide +kernel
theorem dX8_read_102 : decode cX8_read 102 = .ok (.iload_n 2, 1) := by decide +kernel
theorem dX8_read_103 : decode cX8_read 103 = .ok (.iadd, 1) := by decide +kernel
theorem dX8_read_104 : decode cX8_read 104 = .ok (.iload_n 1, 1) := by decide +kernel
theorem dX8_read_105 : decode cX8_read 105 = .ok (.iload 4, 2) := by decide +kernel
theorem dX8_read_107 : decode cX8_read 107 = .ok (.invokestatic 93, 3) := by decide +kernel
theorem dX8_read_110 : decode cX8_read 110 = .ok (.ifCond .eq 13, 3) := by decide +kernel
theorem dX8_read_113 : decode cX8_read 113 = .ok (.aload_n 0, 1) := by decide +kernel
theorem dX8_read_114 : decode cX8_read 114 = .ok (.getfield 22, 3) := by decide +kernel
theorem dX8_read_117 : decode cX8_read 117 = .ok (.iload 4, 2) := by decide +kernel
theorem dX8_read_119 : decode cX8_read 119 = .ok (.iaload, 1) := by decide +kernel
theorem dX8_read_120 : decode cX8_read 120 = .ok (.goto 4, 3) := by decide +kernel
theorem dX8_read_123 : decode cX8_read 123 = .ok (.iconst (-1), 1) := by decide +kernel
theorem dX8_read_124 : decode cX8_read 124 = .ok (.iastore, 1) := by decide +kernel
theorem dX8_read_125 : decode cX8_read 125 = .ok (.iload_n 3, 1) := by decide +kernel
theorem dX8_read_126 : decode cX8_read 126 = .ok (.iload 4, 2) := by decide +kernel
theorem dX8_read_128 : decode cX8_read 128 = .ok (.invokestatic 93, 3) := by decide +kernel
theorem dX8_read_131 : decode cX8_read 131 = .ok (.ifCond .eq 38, 3) := by decide +kernel
theorem dX8_read_134 : decode cX8_read 134 = .ok (.aload_n 0, 1) := by decide +kernel
theorem dX8_read_135 : decode cX8_read 135 = .ok (.iload 4, 2) := by decide +kernel
theorem dX8_read_137 : decode cX8_read 137 = .ok (.aload_n 0, 1) := by decide +kernel
theorem dX8_read_138 : decode cX8_read 138 = .ok (.getfield 9, 3) := by decide +kernel
theorem dX8_read_141 : decode cX8_read 141 = .ok (.iload_n 2, 1) := by decide +kernel
theorem dX8_read_142 : decode cX8_read 142 = .ok (.iaload, 1) := by decide +kernel
theorem dX8_read_143 : decode cX8_read 143 = .ok (.invokevirtual 139, 3) := by decide +kernel
theorem dX8_read_146 : decode cX8_read 146 = .ok (.ifCond .eq 6, 3) := by decide +kernel
theorem dX8_read_149 : decode cX8_read 149 = .ok (.goto 20, 3) := by decide +kernel
theorem dX8_read_152 : decode cX8_read 152 = .ok (.aload_n 0, 1) := by decide +kernel
theorem dX8_read_153 : decode cX8_read 153 = .ok (.getfield 25, 3) := by decide +kernel
theorem dX8_read_156 : decode cX8_read 156 = .ok (.iload 4, 2) := by decide +kernel
theorem dX8_read_158 : decode cX8_read 158 = .ok (.iload_n 2, 1) := by decide +kernel
theorem dX8_read_159 : decode cX8_read 159 = .ok (.iastore, 1) := by decide +kernel
theorem dX8_read_160 : decode cX8_read 160 = .ok (.iload_n 1, 1) := by decide +kernel
theorem dX8_read_161 : decode cX8_read 161 = .ok (.iconst 1, 1) := by decide +kernel
theorem dX8_read_162 : decode cX8_read 162 = .ok (.iload 4, 2) := by decide +kernel
theorem dX8_read_164 : decode cX8_read 164 = .ok (.ishl, 1) := by decide +kernel
theorem dX8_read_165 : decode cX8_read 165 = .ok (.iconst (-1), 1) := by decide +kernel
theorem dX8_read_166 : decode cX8_read 166 = .ok (.ixor, 1) := by decide +kernel
theorem dX8_read_167 : decode cX8_read 167 = .ok (.iand, 1) := by decide +kernel
theorem dX8_read_168 : decode cX8_read 168 = .ok (.istore_n 1, 1) := by decide +kernel
theorem dX8_read_169 : decode cX8_read 169 = .ok (.iinc 4 1, 3) := by decide +kernel
theorem dX8_read_172 : decode cX8_read 172 = .ok (.goto (-86), 3) := by decide +kernel
theorem dX8_read_175 : decode cX8_read 175 = .ok (.iinc 2 1, 3) := by decide +kernel
theorem dX8_read_178 : decode cX8_read 178 = .ok (.goto (-135), 3) := by decide +kernel
theorem dX8_read_181 : decode cX8_read 181 = .ok (.iconst 0, 1) := by decide +kernel
theorem dX8_read_182 : decode cX8_read 182 = .ok (.istore_n 2, 1) := by decide +kernel
theorem dX8_read_183 : decode cX8_read 183 = .ok (.iload_n 2, 1) := by decide +kernel
theorem dX8_read_184 : decode cX8_read 184 = .ok (.bipush 16, 2) := by decide +kernel
theorem dX8_read_186 : decode cX8_read 186 = .ok (.if_icmp .ge 36, 3) := by decide +kernel
theorem dX8_read_189 : decode cX8_read 189 = .ok (.iload_n 1, 1) := by decide +kernel
theorem dX8_read_190 : decode cX8_read 190 = .ok (.iload_n 2, 1) := by decide +kernel
theorem dX8_read_191 : decode cX8_read 191 = .ok (.invokestatic 93, 3) := by decide +kernel
theorem dX8_read_194 : decode cX8_read 194 = .ok (.ifCond .eq 22, 3) := by decide +kernel
theorem dX8_read_197 : decode cX8_read 197 = .ok (.aload_n 0, 1) := by decide +kernel
theorem dX8_read_198 : decode cX8_read 198 = .ok (.iload_n 2, 1) := by decide +kernel
theorem dX8_read_199 : decode cX8_read 199 = .ok (.iconst 0, 1) := by decide +kernel
theorem dX8_read_200 : decode cX8_read 200 = .ok (.invokevirtual 139, 3) := by decide +kernel
theorem dX8_read_203 : decode cX8_read 203 = .ok (.ifCond .ne 13, 3) := by decide +kernel
theorem dX8_read_206 : decode cX8_read 206 = .ok (.aload_n 0, 1) := by decide +kernel
theorem dX8_read_207 : decode cX8_read 207 = .ok (.getfield 25, 3) := by decide +kernel
theorem dX8_read_210 : decode cX8_read 210 = .ok (.iload_n 2, 1) := by decide +kernel
theorem dX8_read_211 : decode cX8_read 211 = .ok (.aload_n 0, 1) := by decide +kernel
theorem dX8_read_212 : decode cX8_read 212 = .ok (.getfield 47, 3) := by decide +kernel
theorem dX8_read_215 : decode cX8_read 215 = .ok (.iastore, 1) := by decide +kernel
theorem dX8_read_216 : decode cX8_read 216 = .ok (.iinc 2 1, 3) := by decide +kernel
theorem dX8_read_219 : decode cX8_read 219 = .ok (.goto (-36), 3) := by decide +kernel
theorem dX8_read_222 : decode cX8_read 222 = .ok (.return_, 1) := by decide +kernel
theorem dX8_isWhole_0 : decode cX8_isWhole 0 = .ok (.aload_n 0, 1) := by decide +kernel
theorem dX8_isWhole_1 : decode cX8_isWhole 1 = .ok (.invokevirtual 77, 3) := by decide +kernel
theorem dX8_isWhole_4 : decode cX8_isWhole 4 = .ok (.ifCond .ne 7, 3) := by decide +kernel
theorem dX8_isWhole_7 : decode cX8_isWhole 7 = .ok (.iconst 1, 1) := by decide +kernel
theorem dX8_isWhole_8 : decode cX8_isWhole 8 = .ok (.goto 4, 3) := by decide +kernel
theorem dX8_isWhole_11 : decode cX8_isWhole 11 = .ok (.iconst 0, 1) := by decide +kernel
theorem dX8_isWhole_12 : decode cX8_isWhole 12 = .ok (.ireturn, 1) := by decide +kernel
theorem dX8_error_0 : decode cX8_error 0 = .ok (.aload_n 0, 1) := by decide +kernel
theorem dX8_error_1 : decode cX8_error 1 = .ok (.iconst 0, 1) := by decide +kernel
theorem dX8_error_2 : decode cX8_error 2 = .ok (.putfield 43, 3) := by decide +kernel
theorem dX8_error_5 : decode cX8_error 5 = .ok (.iload_n 1, 1) := by decide +kernel
theorem dX8_error_6 : decode cX8_error 6 = .ok (.invokestatic 101, 3) := by decide +kernel
theorem dX8_error_9 : decode cX8_error 9 = .ok (.ifCond .ne 9, 3) := by decide +kernel
theorem dX8_error_12 : decode cX8_error 12 = .ok (.aload_n 0, 1) := by decide +kernel
theorem dX8_error_13 : decode cX8_error 13 = .ok (.iconst 1, 1) := by decide +kernel
theorem dX8_error_14 : decode cX8_error 14 = .ok (.invokevirtual 68, 3) := by decide +kernel
theorem dX8_error_17 : decode cX8_error 17 = .ok (.ireturn, 1) := by decide +kernel
theorem dX8_error_18 : decode cX8_error 18 = .ok (.aload_n 0, 1) := by decide +kernel
theorem dX8_error_19 : decode cX8_error 19 = .ok (.invokevirtual 142, 3) := by decide +kernel
theorem dX8_error_22 : decode cX8_error 22 = .ok (.ifCond .ne 9, 3) := by decide +kernel
theorem dX8_error_25 : decode cX8_error 25 = .ok (.aload_n 0, 1) := by decide +kernel
theorem dX8_error_26 : decode cX8_error 26 = .ok (.iconst 2, 1) := by decide +kernel
theorem dX8_error_27 : decode cX8_error 27 = .ok (.invokevirtual 68, 3) := by decide +kernel
theorem dX8_error_30 : decode cX8_error 30 = .ok (.ireturn, 1) := by decide +kernel
theorem dX8_error_31 : decode cX8_error 31 = .ok (.aload_n 0, 1) := by decide +kernel
theorem dX8_error_32 : decode cX8_error 32 = .ok (.invokevirtual 146, 3) := by decide +kernel
theorem dX8_error_35 : decode cX8_error 35 = .ok (.aload_n 0, 1) := by decide +kernel
theorem dX8_error_36 : decode cX8_error 36 = .ok (.getfield 25, 3) := by decide +kernel
theorem dX8_error_39 : decode cX8_error 39 = .ok (.iload_n 1, 1) := by decide +kernel
theorem dX8_error_40 : decode cX8_error 40 = .ok (.iaload, 1) := by decide +kernel
theorem dX8_error_41 : decode cX8_error 41 = .ok (.ireturn, 1) := by decide +kernel
theorem dX8_wrong_0 : decode cX8_wrong 0 = .ok (.aload_n 0, 1) := by decide +kernel
theorem dX8_wrong_1 : decode cX8_wrong 1 = .ok (.iconst 0, 1) := by decide +kernel
theorem dX8_wrong_2 : decode cX8_wrong 2 = .ok (.putfield 43, 3) := by decide +kernel
theorem dX8_wrong_5 : decode cX8_wrong 5 = .ok (.aload_n 0, 1) := by decide +kernel
theorem dX8_wrong_6 : decode cX8_wrong 6 = .ok (.invokevirtual 142, 3) := by decide +kernel
theorem dX8_wrong_9 : decode cX8_wrong 9 = .ok (.ifCond .ne 9, 3) := by decide +kernel
theorem dX8_wrong_12 : decode cX8_wrong 12 = .ok (.aload_n 0, 1) := by decide +kernel
theorem dX8_wrong_13 : decode cX8_wrong 13 = .ok (.iconst 1, 1) := by decide +kernel
theorem dX8_wrong_14 : decode cX8_wrong 14 = .ok (.invokevirtual 68, 3) := by decide +kernel
theorem dX8_wrong_17 : decode cX8_wrong 17 = .ok (.ireturn, 1) := by decide +kernel
theorem dX8_wrong_18 : decode cX8_wrong 18 = .ok (.aload_n 0, 1) := by decide +kernel
theorem dX8_wrong_19 : decode cX8_wrong 19 = .ok (.invokevirtual 146, 3) := by decide +kernel
theorem dX8_wrong_22 : decode cX8_wrong 22 = .ok (.iconst 0, 1) := by decide +kernel
theorem dX8_wrong_23 : decode cX8_wrong 23 = .ok (.istore_n 1, 1) := by decide +kernel
theorem dX8_wrong_24 : decode cX8_wrong 24 = .ok (.iconst 0, 1) := by decide +kernel
theorem dX8_wrong_25 : decode cX8_wrong 25 = .ok (.istore_n 2, 1) := by decide +kernel
theorem dX8_wrong_26 : decode cX8_wrong 26 = .ok (.iload_n 2, 1) := by decide +kernel
theorem dX8_wrong_27 : decode cX8_wrong 27 = .ok (.bipush 16, 2) := by decide +kernel
theorem dX8_wrong_29 : decode cX8_wrong 29 = .ok (.if_icmp .ge 25, 3) := by decide +kernel
theorem dX8_wrong_32 : decode cX8_wrong 32 = .ok (.aload_n 0, 1) := by decide +kernel
theorem dX8_wrong_33 : decode cX8_wrong 33 = .ok (.getfield 25, 3) := by decide +kernel
theorem dX8_wrong_36 : decode cX8_wrong 36 = .ok (.iload_n 2, 1) := by decide +kernel
theorem dX8_wrong_37 : decode cX8_wrong 37 = .ok (.iaload, 1) := by decide +kernel
theorem dX8_wrong_38 : decode cX8_wrong 38 = .ok (.iconst (-1), 1) := by decide +kernel
theorem dX8_wrong_39 : decode cX8_wrong 39 = .ok (.if_icmp .eq 9, 3) := by decide +kernel
theorem dX8_wrong_42 : decode cX8_wrong 42 = .ok (.iload_n 1, 1) := by decide +kernel
theorem dX8_wrong_43 : decode cX8_wrong 43 = .ok (.iconst 1, 1) := by decide +kernel
theorem dX8_wrong_44 : decode cX8_wrong 44 = .ok (.iload_n 2, 1) := by decide +kernel
theorem dX8_wrong_45 : decode cX8_wrong 45 = .ok (.ishl, 1) := by decide +kernel
theorem dX8_wrong_46 : decode cX8_wrong 46 = .ok (.ior, 1) := by decide +kernel
theorem dX8_wrong_47 : decode cX8_wrong 47 = .ok (.istore_n 1, 1) := by decide +kernel
theorem dX8_wrong_48 : decode cX8_wrong 48 = .ok (.iinc 2 1, 3) := by decide +kernel
theorem dX8_wrong_51 : decode cX8_wrong 51 = .ok (.goto (-25), 3) := by decide +kernel
theorem dX8_wrong_54 : decode cX8_wrong 54 = .ok (.iload_n 1, 1) := by decide +kernel
theorem dX8_wrong_55 : decode cX8_wrong 55 = .ok (.ireturn, 1) := by decide +kernel
theorem dX8_firstError_0 : decode cX8_firstError 0 = .ok (.aload_n 0, 1) := by decide +kernel
theorem dX8_firstError_1 : decode cX8_firstError 1 = .ok (.iconst 0, 1) := by decide +kernel
theorem dX8_firstError_2 : decode cX8_firstError 2 = .ok (.putfield 43, 3) := by decide +kernel
theorem dX8_firstError_5 : decode cX8_firstError 5 = .ok (.aload_n 0, 1) := by decide +kernel
theorem dX8_firstError_6 : decode cX8_firstError 6 = .ok (.invokevirtual 142, 3) := by decide +kernel
theorem dX8_firstError_9 : decode cX8_firstError 9 = .ok (.ifCond .ne 9, 3) := by decide +kernel
theorem dX8_firstError_12 : decode cX8_firstError 12 = .ok (.aload_n 0, 1) := by decide +kernel
theorem dX8_firstError_13 : decode cX8_firstError 13 = .ok (.iconst 1, 1) := by decide +kernel
theorem dX8_firstError_14 : decode cX8_firstError 14 = .ok (.invokevirtual 68, 3) := by decide +kernel
theorem dX8_firstError_17 : decode cX8_firstError 17 = .ok (.ireturn, 1) := by decide +kernel
theorem dX8_firstError_18 : decode cX8_firstError 18 = .ok (.aload_n 0, 1) := by decide +kernel
theorem dX8_firstError_19 : decode cX8_firstError 19 = .ok (.invokevirtual 146, 3) := by decide +kernel
theorem dX8_firstError_22 : decode cX8_firstError 22 = .ok (.iconst (-1), 1) := by decide +kernel
theorem dX8_firstError_23 : decode cX8_firstError 23 = .ok (.istore_n 1, 1) := by decide +kernel
theorem dX8_firstError_24 : decode cX8_firstError 24 = .ok (.iconst 0, 1) := by decide +kernel
theorem dX8_firstError_25 : decode cX8_firstError 25 = .ok (.istore_n 2, 1) := by decide +kernel
theorem dX8_firstError_26 : decode cX8_firstError 26 = .ok (.iload_n 2, 1) := by decide +kernel
theorem dX8_firstError_27 : decode cX8_firstError 27 = .ok (.bipush 16, 2) := by decide +kernel
theorem dX8_firstError_29 : decode cX8_firstError 29 = .ok (.if_icmp .ge 41, 3) := by decide +kernel
theorem dX8_firstError_32 : decode cX8_firstError 32 = .ok (.aload_n 0, 1) := by decide +kernel
theorem dX8_firstError_33 : decode cX8_firstError 33 = .ok (.getfield 25, 3) := by decide +kernel
theorem dX8_firstError_36 : decode cX8_firstError 36 = .ok (.iload_n 2, 1) := by decide +kernel
theorem dX8_firstError_37 : decode cX8_firstError 37 = .ok (.iaload, 1) := by decide +kernel
theorem dX8_firstError_38 : decode cX8_firstError 38 = .ok (.iconst (-1), 1) := by decide +kernel
theorem dX8_firstError_39 : decode cX8_firstError 39 = .ok (.if_icmp .eq 25, 3) := by decide +kernel
theorem dX8_firstError_42 : decode cX8_firstError 42 = .ok (.iload_n 1, 1) := by decide +kernel
theorem dX8_firstError_43 : decode cX8_firstError 43 = .ok (.iconst (-1), 1) := by decide +kernel
theorem dX8_firstError_44 : decode cX8_firstError 44 = .ok (.if_icmp .eq 13, 3) := by decide +kernel
theorem dX8_firstError_47 : decode cX8_firstError 47 = .ok (.aload_n 0, 1) := by decide +kernel
theorem dX8_firstError_48 : decode cX8_firstError 48 = .ok (.getfield 25, 3) := by decide +kernel
theorem dX8_firstError_51 : decode cX8_firstError 51 = .ok (.iload_n 2, 1) := by decide +kernel
theorem dX8_firstError_52 : decode cX8_firstError 52 = .ok (.iaload, 1) := by decide +kernel
theorem dX8_firstError_53 : decode cX8_firstError 53 = .ok (.iload_n 1, 1) := by decide +kernel
theorem dX8_firstError_54 : decode cX8_firstError 54 = .ok (.if_icmp .ge 10, 3) := by decide +kernel
theorem dX8_firstError_57 : decode cX8_firstError 57 = .ok (.aload_n 0, 1) := by decide +kernel
theorem dX8_firstError_58 : decode cX8_firstError 58 = .ok (.getfield 25, 3) := by decide +kernel
theorem dX8_firstError_61 : decode cX8_firstError 61 = .ok (.iload_n 2, 1) := by decide +kernel
theorem dX8_firstError_62 : decode cX8_firstError 62 = .ok (.iaload, 1) := by decide +kernel
theorem dX8_firstError_63 : decode cX8_firstError 63 = .ok (.istore_n 1, 1) := by decide +kernel
theorem dX8_firstError_64 : decode cX8_firstError 64 = .ok (.iinc 2 1, 3) := by decide +kernel
theorem dX8_firstError_67 : decode cX8_firstError 67 = .ok (.goto (-41), 3) := by decide +kernel
theorem dX8_firstError_70 : decode cX8_firstError 70 = .ok (.iload_n 1, 1) := by decide +kernel
theorem dX8_firstError_71 : decode cX8_firstError 71 = .ok (.ireturn, 1) := by decide +kernel
theorem dX8_groups_0 : decode cX8_groups 0 = .ok (.aload_n 0, 1) := by decide +kernel
theorem dX8_groups_1 : decode cX8_groups 1 = .ok (.iconst 0, 1) := by decide +kernel
theorem dX8_groups_2 : decode cX8_groups 2 = .ok (.putfield 43, 3) := by decide +kernel
theorem dX8_groups_5 : decode cX8_groups 5 = .ok (.aload_n 0, 1) := by decide +kernel
theorem dX8_groups_6 : decode cX8_groups 6 = .ok (.iload_n 1, 1) := by decide +kernel
theorem dX8_groups_7 : decode cX8_groups 7 = .ok (.invokevirtual 87, 3) := by decide +kernel
theorem dX8_groups_10 : decode cX8_groups 10 = .ok (.ifCond .ne 9, 3) := by decide +kernel
theorem dX8_groups_13 : decode cX8_groups 13 = .ok (.aload_n 0, 1) := by decide +kernel
theorem dX8_groups_14 : decode cX8_groups 14 = .ok (.iconst 1, 1) := by decide +kernel
theorem dX8_groups_15 : decode cX8_groups 15 = .ok (.invokevirtual 68, 3) := by decide +kernel
theorem dX8_groups_18 : decode cX8_groups 18 = .ok (.ireturn, 1) := by decide +kernel
theorem dX8_groups_19 : decode cX8_groups 19 = .ok (.aload_n 0, 1) := by decide +kernel
theorem dX8_groups_20 : decode cX8_groups 20 = .ok (.invokevirtual 142, 3) := by decide +kernel
theorem dX8_groups_23 : decode cX8_groups 23 = .ok (.ifCond .ne 9, 3) := by decide +kernel
theorem dX8_groups_26 : decode cX8_groups 26 = .ok (.aload_n 0, 1) := by decide +kernel
theorem dX8_groups_27 : decode cX8_groups 27 = .ok (.iconst 2, 1) := by decide +kernel
theorem dX8_groups_28 : decode cX8_groups 28 = .ok (.invokevirtual 68, 3) := by decide +kernel
theorem dX8_groups_31 : decode cX8_groups 31 = .ok (.ireturn, 1) := by decide +kernel
theorem dX8_groups_32 : decode cX8_groups 32 = .ok (.aload_n 0, 1) := by decide +kernel
theorem dX8_groups_33 : decode cX8_groups 33 = .ok (.invokevirtual 146, 3) := by decide +kernel
theorem dX8_groups_36 : decode cX8_groups 36 = .ok (.aload_n 0, 1) := by decide +kernel
theorem dX8_groups_37 : decode cX8_groups 37 = .ok (.getfield 28, 3) := by decide +kernel
theorem dX8_groups_40 : decode cX8_groups 40 = .ok (.iload_n 1, 1) := by decide +kernel
theorem dX8_groups_41 : decode cX8_groups 41 = .ok (.iaload, 1) := by decide +kernel
theorem dX8_groups_42 : decode cX8_groups 42 = .ok (.ireturn, 1) := by decide +kernel
theorem dX8_sumOfGroups_0 : decode cX8_sumOfGroups 0 = .ok (.iconst 0, 1) := by decide +kernel
theorem dX8_sumOfGroups_1 : decode cX8_sumOfGroups 1 = .ok (.istore_n 1, 1) := by decide +kernel
theorem dX8_sumOfGroups_2 : decode cX8_sumOfGroups 2 = .ok (.iconst 0, 1) := by decide +kernel
theorem dX8_sumOfGroups_3 : decode cX8_sumOfGroups 3 = .ok (.istore_n 2, 1) := by decide +kernel
theorem dX8_sumOfGroups_4 : decode cX8_sumOfGroups 4 = .ok (.iload_n 2, 1) := by decide +kernel
theorem dX8_sumOfGroups_5 : decode cX8_sumOfGroups 5 = .ok (.aload_n 0, 1) := by decide +kernel
theorem dX8_sumOfGroups_6 : decode cX8_sumOfGroups 6 = .ok (.getfield 47, 3) := by decide +kernel
theorem dX8_sumOfGroups_9 : decode cX8_sumOfGroups 9 = .ok (.if_icmp .ge 18, 3) := by decide +kernel
theorem dX8_sumOfGroups_12 : decode cX8_sumOfGroups 12 = .ok (.iload_n 1, 1) := by decide +kernel
theorem dX8_sumOfGroups_13 : decode cX8_sumOfGroups 13 = .ok (.aload_n 0, 1) := by decide +kernel
theorem dX8_sumOfGroups_14 : decode cX8_sumOfGroups 14 = .ok (.getfield 28, 3) := by decide +kernel
theorem dX8_sumOfGroups_17 : decode cX8_sumOfGroups 17 = .ok (.iload_n 2, 1) := by decide +kernel
theorem dX8_sumOfGroups_18 : decode cX8_sumOfGroups 18 = .ok (.iaload, 1) := by decide +kernel
theorem dX8_sumOfGroups_19 : decode cX8_sumOfGroups 19 = .ok (.iadd, 1) := by decide +kernel
theorem dX8_sumOfGroups_20 : decode cX8_sumOfGroups 20 = .ok (.istore_n 1, 1) := by decide +kernel
theorem dX8_sumOfGroups_21 : decode cX8_sumOfGroups 21 = .ok (.iinc 2 1, 3) := by decide +kernel
theorem dX8_sumOfGroups_24 : decode cX8_sumOfGroups 24 = .ok (.goto (-20), 3) := by decide +kernel
theorem dX8_sumOfGroups_27 : decode cX8_sumOfGroups 27 = .ok (.iload_n 1, 1) := by decide +kernel
theorem dX8_sumOfGroups_28 : decode cX8_sumOfGroups 28 = .ok (.ireturn, 1) := by decide +kernel
theorem dX8_work_0 : decode cX8_work 0 = .ok (.aload_n 0, 1) := by decide +kernel
theorem dX8_work_1 : decode cX8_work 1 = .ok (.iconst 0, 1) := by decide +kernel
theorem dX8_work_2 : decode cX8_work 2 = .ok (.putfield 43, 3) := by decide +kernel
theorem dX8_work_5 : decode cX8_work 5 = .ok (.aload_n 0, 1) := by decide +kernel
theorem dX8_work_6 : decode cX8_work 6 = .ok (.invokevirtual 142, 3) := by decide +kernel
theorem dX8_work_9 : decode cX8_work 9 = .ok (.ifCond .ne 9, 3) := by decide +kernel
theorem dX8_work_12 : decode cX8_work 12 = .ok (.aload_n 0, 1) := by decide +kernel
theorem dX8_work_13 : decode cX8_work 13 = .ok (.iconst 1, 1) := by decide +kernel
theorem dX8_work_14 : decode cX8_work 14 = .ok (.invokevirtual 68, 3) := by decide +kernel
theorem dX8_work_17 : decode cX8_work 17 = .ok (.ireturn, 1) := by decide +kernel
theorem dX8_work_18 : decode cX8_work 18 = .ok (.aload_n 0, 1) := by decide +kernel
theorem dX8_work_19 : decode cX8_work 19 = .ok (.invokevirtual 146, 3) := by decide +kernel
theorem dX8_work_22 : decode cX8_work 22 = .ok (.aload_n 0, 1) := by decide +kernel
theorem dX8_work_23 : decode cX8_work 23 = .ok (.invokevirtual 149, 3) := by decide +kernel
theorem dX8_work_26 : decode cX8_work 26 = .ok (.ireturn, 1) := by decide +kernel
theorem dX8_gain_0 : decode cX8_gain 0 = .ok (.aload_n 0, 1) := by decide +kernel
theorem dX8_gain_1 : decode cX8_gain 1 = .ok (.aload_n 0, 1) := by decide +kernel
theorem dX8_gain_2 : decode cX8_gain 2 = .ok (.invokevirtual 142, 3) := by decide +kernel
theorem dX8_gain_5 : decode cX8_gain 5 = .ok (.ifCond .eq 7, 3) := by decide +kernel
theorem dX8_gain_8 : decode cX8_gain 8 = .ok (.iconst 0, 1) := by decide +kernel
theorem dX8_gain_9 : decode cX8_gain 9 = .ok (.goto 4, 3) := by decide +kernel
theorem dX8_gain_12 : decode cX8_gain 12 = .ok (.iconst 1, 1) := by decide +kernel
theorem dX8_gain_13 : decode cX8_gain 13 = .ok (.putfield 43, 3) := by decide +kernel
theorem dX8_gain_16 : decode cX8_gain 16 = .ok (.aload_n 0, 1) := by decide +kernel
theorem dX8_gain_17 : decode cX8_gain 17 = .ok (.getfield 43, 3) := by decide +kernel
theorem dX8_gain_20 : decode cX8_gain 20 = .ok (.ifCond .eq 5, 3) := by decide +kernel
theorem dX8_gain_23 : decode cX8_gain 23 = .ok (.dconst 0, 1) := by decide +kernel
theorem dX8_gain_24 : decode cX8_gain 24 = .ok (.dreturn, 1) := by decide +kernel
theorem dX8_gain_25 : decode cX8_gain 25 = .ok (.aload_n 0, 1) := by decide +kernel
theorem dX8_gain_26 : decode cX8_gain 26 = .ok (.invokevirtual 146, 3) := by decide +kernel
theorem dX8_gain_29 : decode cX8_gain 29 = .ok (.iconst 0, 1) := by decide +kernel
theorem dX8_gain_30 : decode cX8_gain 30 = .ok (.istore_n 1, 1) := by decide +kernel
theorem dX8_gain_31 : decode cX8_gain 31 = .ok (.iconst 0, 1) := by decide +kernel
theorem dX8_gain_32 : decode cX8_gain 32 = .ok (.istore_n 2, 1) := by decide +kernel
theorem dX8_gain_33 : decode cX8_gain 33 = .ok (.iload_n 2, 1) := by decide +kernel
theorem dX8_gain_34 : decode cX8_gain 34 = .ok (.bipush 16, 2) := by decide +kernel
theorem dX8_gain_36 : decode cX8_gain 36 = .ok (.if_icmp .ge 74, 3) := by decide +kernel
theorem dX8_gain_39 : decode cX8_gain 39 = .ok (.iconst 0, 1) := by decide +kernel
theorem dX8_gain_40 : decode cX8_gain 40 = .ok (.istore_n 3, 1) := by decide +kernel
theorem dX8_gain_41 : decode cX8_gain 41 = .ok (.iload_n 3, 1) := by decide +kernel
theorem dX8_gain_42 : decode cX8_gain 42 = .ok (.aload_n 0, 1) := by decide +kernel
theorem dX8_gain_43 : decode cX8_gain 43 = .ok (.getfield 47, 3) := by decide +kernel
theorem dX8_gain_46 : decode cX8_gain 46 = .ok (.if_icmp .ge 58, 3) := by decide +kernel
theorem dX8_gain_49 : decode cX8_gain 49 = .ok (.iload_n 1, 1) := by decide +kernel
theorem dX8_gain_50 : decode cX8_gain 50 = .ok (.aload_n 0, 1) := by decide +kernel
theorem dX8_gain_51 : decode cX8_gain 51 = .ok (.iload_n 3, 1) := by decide +kernel
theorem dX8_gain_52 : decode cX8_gain 52 = .ok (.invokevirtual 90, 3) := by decide +kernel
theorem dX8_gain_55 : decode cX8_gain 55 = .ok (.ifCond .eq 40, 3) := by decide +kernel
theorem dX8_gain_58 : decode cX8_gain 58 = .ok (.aload_n 0, 1) := by decide +kernel
theorem dX8_gain_59 : decode cX8_gain 59 = .ok (.getfield 13, 3) := by decide +kernel
theorem dX8_gain_62 : decode cX8_gain 62 = .ok (.iload_n 3, 1) := by decide +kernel
theorem dX8_gain_63 : decode cX8_gain 63 = .ok (.iaload, 1) := by decide +kernel
theorem dX8_gain_64 : decode cX8_gain 64 = .ok (.iload_n 2, 1) := by decide +kernel
theorem dX8_gain_65 : decode cX8_gain 65 = .ok (.invokestatic 93, 3) := by decide +kernel
theorem dX8_gain_68 : decode cX8_gain 68 = .ok (.ifCond .eq 27, 3) := by decide +kernel
theorem dX8_gain_71 : decode cX8_gain 71 = .ok (.aload_n 0, 1) := by decide +kernel
theorem dX8_gain_72 : decode cX8_gain 72 = .ok (.getfield 25, 3) := by decide +kernel
theorem dX8_gain_75 : decode cX8_gain 75 = .ok (.iload_n 2, 1) := by decide +kernel
theorem dX8_gain_76 : decode cX8_gain 76 = .ok (.iaload, 1) := by decide +kernel
theorem dX8_gain_77 : decode cX8_gain 77 = .ok (.iconst (-1), 1) := by decide +kernel
theorem dX8_gain_78 : decode cX8_gain 78 = .ok (.if_icmp .eq 13, 3) := by decide +kernel
theorem dX8_gain_81 : decode cX8_gain 81 = .ok (.iload_n 3, 1) := by decide +kernel
theorem dX8_gain_82 : decode cX8_gain 82 = .ok (.aload_n 0, 1) := by decide +kernel
theorem dX8_gain_83 : decode cX8_gain 83 = .ok (.getfield 25, 3) := by decide +kernel
theorem dX8_gain_86 : decode cX8_gain 86 = .ok (.iload_n 2, 1) := by decide +kernel
theorem dX8_gain_87 : decode cX8_gain 87 = .ok (.iaload, 1) := by decide +kernel
theorem dX8_gain_88 : decode cX8_gain 88 = .ok (.if_icmp .gt 7, 3) := by decide +kernel
theorem dX8_gain_91 : decode cX8_gain 91 = .ok (.iconst 1, 1) := by decide +kernel
theorem dX8_gain_92 : decode cX8_gain 92 = .ok (.goto 4, 3) := by decide +kernel
theorem dX8_gain_95 : decode cX8_gain 95 = .ok (.iconst 0, 1) := by decide +kernel
theorem dX8_gain_96 : decode cX8_gain 96 = .ok (.iadd, 1) := by decide +kernel
theorem dX8_gain_97 : decode cX8_gain 97 = .ok (.istore_n 1, 1) := by decide +kernel
theorem dX8_gain_98 : decode cX8_gain 98 = .ok (.iinc 3 1, 3) := by decide +kernel
theorem dX8_gain_101 : decode cX8_gain 101 = .ok (.goto (-60), 3) := by decide +kernel
theorem dX8_gain_104 : decode cX8_gain 104 = .ok (.iinc 2 1, 3) := by decide +kernel
theorem dX8_gain_107 : decode cX8_gain 107 = .ok (.goto (-74), 3) := by decide +kernel
theorem dX8_gain_110 : decode cX8_gain 110 = .ok (.aload_n 0, 1) := by decide +kernel
theorem dX8_gain_111 : decode cX8_gain 111 = .ok (.invokevirtual 149, 3) := by decide +kernel
theorem dX8_gain_114 : decode cX8_gain 114 = .ok (.ifCond .ne 7, 3) := by decide +kernel
theorem dX8_gain_117 : decode cX8_gain 117 = .ok (.dconst 0, 1) := by decide +kernel
theorem dX8_gain_118 : decode cX8_gain 118 = .ok (.goto 11, 3) := by decide +kernel
theorem dX8_gain_121 : decode cX8_gain 121 = .ok (.iload_n 1, 1) := by decide +kernel
theorem dX8_gain_122 : decode cX8_gain 122 = .ok (.i2d, 1) := by decide +kernel
theorem dX8_gain_123 : decode cX8_gain 123 = .ok (.aload_n 0, 1) := by decide +kernel
theorem dX8_gain_124 : decode cX8_gain 124 = .ok (.invokevirtual 149, 3) := by decide +kernel
theorem dX8_gain_127 : decode cX8_gain 127 = .ok (.i2d, 1) := by decide +kernel
theorem dX8_gain_128 : decode cX8_gain 128 = .ok (.ddiv, 1) := by decide +kernel
theorem dX8_gain_129 : decode cX8_gain 129 = .ok (.dreturn, 1) := by decide +kernel
theorem dX8_stack_0 : decode cX8_stack 0 = .ok (.aload_n 0, 1) := by decide +kernel
theorem dX8_stack_1 : decode cX8_stack 1 = .ok (.iconst 0, 1) := by decide +kernel
theorem dX8_stack_2 : decode cX8_stack 2 = .ok (.putfield 43, 3) := by decide +kernel
theorem dX8_stack_5 : decode cX8_stack 5 = .ok (.iload_n 1, 1) := by decide +kernel
theorem dX8_stack_6 : decode cX8_stack 6 = .ok (.invokestatic 101, 3) := by decide +kernel
theorem dX8_stack_9 : decode cX8_stack 9 = .ok (.ifCond .ne 9, 3) := by decide +kernel
theorem dX8_stack_12 : decode cX8_stack 12 = .ok (.aload_n 0, 1) := by decide +kernel
theorem dX8_stack_13 : decode cX8_stack 13 = .ok (.iconst 1, 1) := by decide +kernel
theorem dX8_stack_14 : decode cX8_stack 14 = .ok (.invokevirtual 68, 3) := by decide +kernel
theorem dX8_stack_17 : decode cX8_stack 17 = .ok (.ireturn, 1) := by decide +kernel
theorem dX8_stack_18 : decode cX8_stack 18 = .ok (.aload_n 0, 1) := by decide +kernel
theorem dX8_stack_19 : decode cX8_stack 19 = .ok (.invokevirtual 98, 3) := by decide +kernel
theorem dX8_stack_22 : decode cX8_stack 22 = .ok (.aload_n 0, 1) := by decide +kernel
theorem dX8_stack_23 : decode cX8_stack 23 = .ok (.iload_n 1, 1) := by decide +kernel
theorem dX8_stack_24 : decode cX8_stack 24 = .ok (.iload_n 2, 1) := by decide +kernel
