theorem dX0_isDigit_0 : decode cX0_isDigit 0 = .ok (.iload_n 0, 1) := by decide +kernel
theorem dX0_isDigit_1 : decode cX0_isDigit 1 = .ok (.bipush 48, 2) := by decide +kernel
theorem dX0_isDigit_3 : decode cX0_isDigit 3 = .ok (.if_icmp .lt 13, 3) := by decide +kernel
theorem dX0_isDigit_6 : decode cX0_isDigit 6 = .ok (.iload_n 0, 1) := by decide +kernel
theorem dX0_isDigit_7 : decode cX0_isDigit 7 = .ok (.bipush 57, 2) := by decide +kernel
theorem dX0_isDigit_9 : decode cX0_isDigit 9 = .ok (.if_icmp .gt 7, 3) := by decide +kernel
theorem dX0_isDigit_12 : decode cX0_isDigit 12 = .ok (.iconst 1, 1) := by decide +kernel
theorem dX0_isDigit_13 : decode cX0_isDigit 13 = .ok (.goto 4, 3) := by decide +kernel
theorem dX0_isDigit_16 : decode cX0_isDigit 16 = .ok (.iconst 0, 1) := by decide +kernel
theorem dX0_isDigit_17 : decode cX0_isDigit 17 = .ok (.ireturn, 1) := by decide +kernel
theorem dX0_isName_0 : decode cX0_isName 0 = .ok (.iload_n 0, 1) := by decide +kernel
theorem dX0_isName_1 : decode cX0_isName 1 = .ok (.bipush 97, 2) := by decide +kernel
theorem dX0_isName_3 : decode cX0_isName 3 = .ok (.if_icmp .lt 13, 3) := by decide +kernel
theorem dX0_isName_6 : decode cX0_isName 6 = .ok (.iload_n 0, 1) := by decide +kernel
theorem dX0_isName_7 : decode cX0_isName 7 = .ok (.bipush 100, 2) := by decide +kernel
theorem dX0_isName_9 : decode cX0_isName 9 = .ok (.if_icmp .gt 7, 3) := by decide +kernel
theorem dX0_isName_12 : decode cX0_isName 12 = .ok (.iconst 1, 1) := by decide +kernel
theorem dX0_isName_13 : decode cX0_isName 13 = .ok (.goto 4, 3) := by decide +kernel
theorem dX0_isName_16 : decode cX0_isName 16 = .ok (.iconst 0, 1) := by decide +kernel
theorem dX0_isName_17 : decode cX0_isName 17 = .ok (.ireturn, 1) := by decide +kernel
theorem dX0_isToken_0 : decode cX0_isToken 0 = .ok (.iload_n 0, 1) := by decide +kernel
theorem dX0_isToken_1 : decode cX0_isToken 1 = .ok (.lookupswitch 109 #[(33, 107), (40, 107), (41, 107), (42, 107), (43, 107), (45, 107), (58, 107), (59, 107), (61, 107), (63, 107), (123, 107), (125, 107)], 107) := by decide +kernel
theorem dX0_isToken_108 : decode cX0_isToken 108 = .ok (.iconst 1, 1) := by decide +kernel
theorem dX0_isToken_109 : decode cX0_isToken 109 = .ok (.ireturn, 1) := by decide +kernel
theorem dX0_isToken_110 : decode cX0_isToken 110 = .ok (.iload_n 0, 1) := by decide +kernel
theorem dX0_isToken_111 : decode cX0_isToken 111 = .ok (.invokestatic 7, 3) := by decide +kernel
theorem dX0_isToken_114 : decode cX0_isToken 114 = .ok (.ifCond .ne 10, 3) := by decide +kernel
theorem dX0_isToken_117 : decode cX0_isToken 117 = .ok (.iload_n 0, 1) := by decide +kernel
theorem dX0_isToken_118 : decode cX0_isToken 118 = .ok (.invokestatic 13, 3) := by decide +kernel
theorem dX0_isToken_121 : decode cX0_isToken 121 = .ok (.ifCond .eq 7, 3) := by decide +kernel
theorem dX0_isToken_124 : decode cX0_isToken 124 = .ok (.iconst 1, 1) := by decide +kernel
theorem dX0_isToken_125 : decode cX0_isToken 125 = .ok (.goto 4, 3) := by decide +kernel
theorem dX0_isToken_128 : decode cX0_isToken 128 = .ok (.iconst 0, 1) := by decide +kernel
theorem dX0_isToken_129 : decode cX0_isToken 129 = .ok (.ireturn, 1) := by decide +kernel
theorem dX0_isReplaced_0 : decode cX0_isReplaced 0 = .ok (.iload_n 0, 1) := by decide +kernel
theorem dX0_isReplaced_1 : decode cX0_isReplaced 1 = .ok (.bipush 65, 2) := by decide +kernel
theorem dX0_isReplaced_3 : decode cX0_isReplaced 3 = .ok (.if_icmp .lt 13, 3) := by decide +kernel
theorem dX0_isReplaced_6 : decode cX0_isReplaced 6 = .ok (.iload_n 0, 1) := by decide +kernel
theorem dX0_isReplaced_7 : decode cX0_isReplaced 7 = .ok (.bipush 90, 2) := by decide +kernel
theorem dX0_isReplaced_9 : decode cX0_isReplaced 9 = .ok (.if_icmp .gt 7, 3) := by decide +kernel
theorem dX0_isReplaced_12 : decode cX0_isReplaced 12 = .ok (.iconst 1, 1) := by decide +kernel
theorem dX0_isReplaced_13 : decode cX0_isReplaced 13 = .ok (.goto 4, 3) := by decide +kernel
theorem dX0_isReplaced_16 : decode cX0_isReplaced 16 = .ok (.iconst 0, 1) := by decide +kernel
theorem dX0_isReplaced_17 : decode cX0_isReplaced 17 = .ok (.ireturn, 1) := by decide +kernel
theorem dX0_canBeginStatement_0 : decode cX0_canBeginStatement 0 = .ok (.iload_n 0, 1) := by decide +kernel
theorem dX0_canBeginStatement_1 : decode cX0_canBeginStatement 1 = .ok (.lookupswitch 69 #[(33, 67), (63, 67), (97, 67), (98, 67), (99, 67), (100, 67), (123, 67)], 67) := by decide +kernel
theorem dX0_canBeginStatement_68 : decode cX0_canBeginStatement 68 = .ok (.iconst 1, 1) := by decide +kernel
theorem dX0_canBeginStatement_69 : decode cX0_canBeginStatement 69 = .ok (.ireturn, 1) := by decide +kernel
theorem dX0_canBeginStatement_70 : decode cX0_canBeginStatement 70 = .ok (.iconst 0, 1) := by decide +kernel
theorem dX0_canBeginStatement_71 : decode cX0_canBeginStatement 71 = .ok (.ireturn, 1) := by decide +kernel
theorem dX0_replacement_0 : decode cX0_replacement 0 = .ok (.iload_n 0, 1) := by decide +kernel
theorem dX0_replacement_1 : decode cX0_replacement 1 = .ok (.tableswitch 235 69 85 #[153, 196, 235, 235, 235, 235, 235, 235, 235, 235, 235, 83, 156, 139, 98, 179, 182], 83) := by decide +kernel
theorem dX0_replacement_84 : decode cX0_replacement 84 = .ok (.iload_n 1, 1) := by decide +kernel
theorem dX0_replacement_85 : decode cX0_replacement 85 = .ok (.invokestatic 16, 3) := by decide +kernel
theorem dX0_replacement_88 : decode cX0_replacement 88 = .ok (.ifCond .eq 8, 3) := by decide +kernel
theorem dX0_replacement_91 : decode cX0_replacement 91 = .ok (.ldc 19, 2) := by decide +kernel
theorem dX0_replacement_93 : decode cX0_replacement 93 = .ok (.goto 5, 3) := by decide +kernel
theorem dX0_replacement_96 : decode cX0_replacement 96 = .ok (.ldc 21, 2) := by decide +kernel
theorem dX0_replacement_98 : decode cX0_replacement 98 = .ok (.areturn, 1) := by decide +kernel
theorem dX0_replacement_99 : decode cX0_replacement 99 = .ok (.iload_n 1, 1) := by decide +kernel
theorem dX0_replacement_100 : decode cX0_replacement 100 = .ok (.bipush 123, 2) := by decide +kernel
theorem dX0_replacement_102 : decode cX0_replacement 102 = .ok (.if_icmp .ne 6, 3) := by decide +kernel
theorem dX0_replacement_105 : decode cX0_replacement 105 = .ok (.ldc 23, 2) := by decide +kernel
theorem dX0_replacement_107 : decode cX0_replacement 107 = .ok (.areturn, 1) := by decide +kernel
theorem dX0_replacement_108 : decode cX0_replacement 108 = .ok (.iload_n 1, 1) := by decide +kernel
theorem dX0_replacement_109 : decode cX0_replacement 109 = .ok (.bipush 63, 2) := by decide +kernel
theorem dX0_replacement_111 : decode cX0_replacement 111 = .ok (.if_icmp .ne 6, 3) := by decide +kernel
theorem dX0_replacement_114 : decode cX0_replacement 114 = .ok (.ldc 25, 2) := by decide +kernel
theorem dX0_replacement_116 : decode cX0_replacement 116 = .ok (.areturn, 1) := by decide +kernel
theorem dX0_replacement_117 : decode cX0_replacement 117 = .ok (.iload_n 1, 1) := by decide +kernel
theorem dX0_replacement_118 : decode cX0_replacement 118 = .ok (.bipush 33, 2) := by decide +kernel
theorem dX0_replacement_120 : decode cX0_replacement 120 = .ok (.if_icmp .ne 6, 3) := by decide +kernel
theorem dX0_replacement_123 : decode cX0_replacement 123 = .ok (.ldc 27, 2) := by decide +kernel
theorem dX0_replacement_125 : decode cX0_replacement 125 = .ok (.areturn, 1) := by decide +kernel
theorem dX0_replacement_126 : decode cX0_replacement 126 = .ok (.iload_n 1, 1) := by decide +kernel
theorem dX0_replacement_127 : decode cX0_replacement 127 = .ok (.invokestatic 13, 3) := by decide +kernel
theorem dX0_replacement_130 : decode cX0_replacement 130 = .ok (.ifCond .eq 8, 3) := by decide +kernel
theorem dX0_replacement_133 : decode cX0_replacement 133 = .ok (.ldc 29, 2) := by decide +kernel
theorem dX0_replacement_135 : decode cX0_replacement 135 = .ok (.goto 4, 3) := by decide +kernel
theorem dX0_replacement_138 : decode cX0_replacement 138 = .ok (.aconst_null, 1) := by decide +kernel
theorem dX0_replacement_139 : decode cX0_replacement 139 = .ok (.areturn, 1) := by decide +kernel
theorem dX0_replacement_140 : decode cX0_replacement 140 = .ok (.iload_n 1, 1) := by decide +kernel
theorem dX0_replacement_141 : decode cX0_replacement 141 = .ok (.bipush 58, 2) := by decide +kernel
theorem dX0_replacement_143 : decode cX0_replacement 143 = .ok (.if_icmp .ne 8, 3) := by decide +kernel
theorem dX0_replacement_146 : decode cX0_replacement 146 = .ok (.ldc 31, 2) := by decide +kernel
theorem dX0_replacement_148 : decode cX0_replacement 148 = .ok (.goto 5, 3) := by decide +kernel
theorem dX0_replacement_151 : decode cX0_replacement 151 = .ok (.ldc 21, 2) := by decide +kernel
theorem dX0_replacement_153 : decode cX0_replacement 153 = .ok (.areturn, 1) := by decide +kernel
theorem dX0_replacement_154 : decode cX0_replacement 154 = .ok (.ldc 33, 2) := by decide +kernel
theorem dX0_replacement_156 : decode cX0_replacement 156 = .ok (.areturn, 1) := by decide +kernel
theorem dX0_replacement_157 : decode cX0_replacement 157 = .ok (.iload_n 1, 1) := by decide +kernel
theorem dX0_replacement_158 : decode cX0_replacement 158 = .ok (.bipush 43, 2) := by decide +kernel
theorem dX0_replacement_160 : decode cX0_replacement 160 = .ok (.if_icmp .ne 6, 3) := by decide +kernel
theorem dX0_replacement_163 : decode cX0_replacement 163 = .ok (.ldc 35, 2) := by decide +kernel
theorem dX0_replacement_165 : decode cX0_replacement 165 = .ok (.areturn, 1) := by decide +kernel
theorem dX0_replacement_166 : decode cX0_replacement 166 = .ok (.iload_n 1, 1) := by decide +kernel
theorem dX0_replacement_167 : decode cX0_replacement 167 = .ok (.bipush 45, 2) := by decide +kernel
theorem dX0_replacement_169 : decode cX0_replacement 169 = .ok (.if_icmp .ne 8, 3) := by decide +kernel
theorem dX0_replacement_172 : decode cX0_replacement 172 = .ok (.ldc 37, 2) := by decide +kernel
theorem dX0_replacement_174 : decode cX0_replacement 174 = .ok (.goto 5, 3) := by decide +kernel
theorem dX0_replacement_177 : decode cX0_replacement 177 = .ok (.ldc 21, 2) := by decide +kernel
theorem dX0_replacement_179 : decode cX0_replacement 179 = .ok (.areturn, 1) := by decide +kernel
theorem dX0_replacement_180 : decode cX0_replacement 180 = .ok (.ldc 39, 2) := by decide +kernel
theorem dX0_replacement_182 : decode cX0_replacement 182 = .ok (.areturn, 1) := by decide +kernel
theorem dX0_replacement_183 : decode cX0_replacement 183 = .ok (.iload_n 1, 1) := by decide +kernel
theorem dX0_replacement_184 : decode cX0_replacement 184 = .ok (.bipush 42, 2) := by decide +kernel
theorem dX0_replacement_186 : decode cX0_replacement 186 = .ok (.if_icmp .ne 8, 3) := by decide +kernel
theorem dX0_replacement_189 : decode cX0_replacement 189 = .ok (.ldc 41, 2) := by decide +kernel
theorem dX0_replacement_191 : decode cX0_replacement 191 = .ok (.goto 5, 3) := by decide +kernel
theorem dX0_replacement_194 : decode cX0_replacement 194 = .ok (.ldc 21, 2) := by decide +kernel
theorem dX0_replacement_196 : decode cX0_replacement 196 = .ok (.areturn, 1) := by decide +kernel
theorem dX0_replacement_197 : decode cX0_replacement 197 = .ok (.iload_n 1, 1) := by decide +kernel
theorem dX0_replacement_198 : decode cX0_replacement 198 = .ok (.bipush 40, 2) := by decide +kernel
theorem dX0_replacement_200 : decode cX0_replacement 200 = .ok (.if_icmp .ne 6, 3) := by decide +kernel
theorem dX0_replacement_203 : decode cX0_replacement 203 = .ok (.ldc 43, 2) := by decide +kernel
theorem dX0_replacement_205 : decode cX0_replacement 205 = .ok (.areturn, 1) := by decide +kernel
theorem dX0_replacement_206 : decode cX0_replacement 206 = .ok (.iload_n 1, 1) := by decide +kernel
theorem dX0_replacement_207 : decode cX0_replacement 207 = .ok (.bipush 45, 2) := by decide +kernel
theorem dX0_replacement_209 : decode cX0_replacement 209 = .ok (.if_icmp .ne 6, 3) := by decide +kernel
theorem dX0_replacement_212 : decode cX0_replacement 212 = .ok (.ldc 45, 2) := by decide +kernel
theorem dX0_replacement_214 : decode cX0_replacement 214 = .ok (.areturn, 1) := by decide +kernel
theorem dX0_replacement_215 : decode cX0_replacement 215 = .ok (.iload_n 1, 1) := by decide +kernel
theorem dX0_replacement_216 : decode cX0_replacement 216 = .ok (.invokestatic 7, 3) := by decide +kernel
theorem dX0_replacement_219 : decode cX0_replacement 219 = .ok (.ifCond .ne 10, 3) := by decide +kernel
theorem dX0_replacement_222 : decode cX0_replacement 222 = .ok (.iload_n 1, 1) := by decide +kernel
theorem dX0_replacement_223 : decode cX0_replacement 223 = .ok (.invokestatic 13, 3) := by decide +kernel
theorem dX0_replacement_226 : decode cX0_replacement 226 = .ok (.ifCond .eq 8, 3) := by decide +kernel
theorem dX0_replacement_229 : decode cX0_replacement 229 = .ok (.ldc 47, 2) := by decide +kernel
theorem dX0_replacement_231 : decode cX0_replacement 231 = .ok (.goto 4, 3) := by decide +kernel
theorem dX0_replacement_234 : decode cX0_replacement 234 = .ok (.aconst_null, 1) := by decide +kernel
theorem dX0_replacement_235 : decode cX0_replacement 235 = .ok (.areturn, 1) := by decide +kernel
theorem dX0_replacement_236 : decode cX0_replacement 236 = .ok (.aconst_null, 1) := by decide +kernel
theorem dX0_replacement_237 : decode cX0_replacement 237 = .ok (.areturn, 1) := by decide +kernel
theorem dX1_init_0 : decode cX1_init 0 = .ok (.aload_n 0, 1) := by decide +kernel
theorem dX1_init_1 : decode cX1_init 1 = .ok (.invokespecial 5, 3) := by decide +kernel
theorem dX1_init_4 : decode cX1_init 4 = .ok (.aload_n 0, 1) := by decide +kernel
theorem dX1_init_5 : decode cX1_init 5 = .ok (.sipush 320, 3) := by decide +kernel
theorem dX1_init_8 : decode cX1_init 8 = .ok (.newarray .int, 2) := by decide +kernel
theorem dX1_init_10 : decode cX1_init 10 = .ok (.putfield 11, 3) := by decide +kernel
theorem dX1_init_13 : decode cX1_init 13 = .ok (.aload_n 0, 1) := by decide +kernel
theorem dX1_init_14 : decode cX1_init 14 = .ok (.bipush 80, 2) := by decide +kernel
theorem dX1_init_16 : decode cX1_init 16 = .ok (.newarray .int, 2) := by decide +kernel
theorem dX1_init_18 : decode cX1_init 18 = .ok (.putfield 15, 3) := by decide +kernel
theorem dX1_init_21 : decode cX1_init 21 = .ok (.return_, 1) := by decide +kernel
theorem dX1_begin_0 : decode cX1_begin 0 = .ok (.aload_n 0, 1) := by decide +kernel
theorem dX1_begin_1 : decode cX1_begin 1 = .ok (.iconst 0, 1) := by decide +kernel
theorem dX1_begin_2 : decode cX1_begin 2 = .ok (.putfield 18, 3) := by decide +kernel
theorem dX1_begin_5 : decode cX1_begin 5 = .ok (.aload_n 0, 1) := by decide +kernel
theorem dX1_begin_6 : decode cX1_begin 6 = .ok (.bipush 80, 2) := by decide +kernel
theorem dX1_begin_8 : decode cX1_begin 8 = .ok (.invokevirtual 24, 3) := by decide +kernel
theorem dX1_begin_11 : decode cX1_begin 11 = .ok (.aload_n 0, 1) := by decide +kernel
theorem dX1_begin_12 : decode cX1_begin 12 = .ok (.iconst 0, 1) := by decide +kernel
theorem dX1_begin_13 : decode cX1_begin 13 = .ok (.putfield 28, 3) := by decide +kernel
theorem dX1_begin_16 : decode cX1_begin 16 = .ok (.aload_n 0, 1) := by decide +kernel
theorem dX1_begin_17 : decode cX1_begin 17 = .ok (.iconst (-1), 1) := by decide +kernel
theorem dX1_begin_18 : decode cX1_begin 18 = .ok (.putfield 31, 3) := by decide +kernel
theorem dX1_begin_21 : decode cX1_begin 21 = .ok (.return_, 1) := by decide +kernel
theorem dX1_take_0 : decode cX1_take 0 = .ok (.aload_n 0, 1) := by decide +kernel
theorem dX1_take_1 : decode cX1_take 1 = .ok (.getfield 28, 3) := by decide +kernel
theorem dX1_take_4 : decode cX1_take 4 = .ok (.bipush 80, 2) := by decide +kernel
theorem dX1_take_6 : decode cX1_take 6 = .ok (.if_icmp .ge 26, 3) := by decide +kernel
theorem dX1_take_9 : decode cX1_take 9 = .ok (.aload_n 0, 1) := by decide +kernel
theorem dX1_take_10 : decode cX1_take 10 = .ok (.getfield 15, 3) := by decide +kernel
theorem dX1_take_13 : decode cX1_take 13 = .ok (.aload_n 0, 1) := by decide +kernel
theorem dX1_take_14 : decode cX1_take 14 = .ok (.getfield 28, 3) := by decide +kernel
theorem dX1_take_17 : decode cX1_take 17 = .ok (.aload_n 0, 1) := by decide +kernel
theorem dX1_take_18 : decode cX1_take 18 = .ok (.getfield 18, 3) := by decide +kernel
theorem dX1_take_21 : decode cX1_take 21 = .ok (.iastore, 1) := by decide +kernel
theorem dX1_take_22 : decode cX1_take 22 = .ok (.aload_n 0, 1) := by decide +kernel
theorem dX1_take_23 : decode cX1_take 23 = .ok (.dup, 1) := by decide +kernel
theorem dX1_take_24 : decode cX1_take 24 = .ok (.getfield 28, 3) := by decide +kernel
theorem dX1_take_27 : decode cX1_take 27 = .ok (.iconst 1, 1) := by decide +kernel
theorem dX1_take_28 : decode cX1_take 28 = .ok (.iadd, 1) := by decide +kernel
theorem dX1_take_29 : decode cX1_take 29 = .ok (.putfield 28, 3) := by decide +kernel
theorem dX1_take_32 : decode cX1_take 32 = .ok (.aload_n 0, 1) := by decide +kernel
theorem dX1_take_33 : decode cX1_take 33 = .ok (.iload_n 1, 1) := by decide +kernel
theorem dX1_take_34 : decode cX1_take 34 = .ok (.invokevirtual 34, 3) := by decide +kernel
theorem dX1_take_37 : decode cX1_take 37 = .ok (.aload_n 0, 1) := by decide +kernel
theorem dX1_take_38 : decode cX1_take 38 = .ok (.getfield 18, 3) := by decide +kernel
theorem dX1_take_41 : decode cX1_take 41 = .ok (.ifCond .le 31, 3) := by decide +kernel
theorem dX1_take_44 : decode cX1_take 44 = .ok (.aload_n 0, 1) := by decide +kernel
theorem dX1_take_45 : decode cX1_take 45 = .ok (.getfield 11, 3) := by decide +kernel
theorem dX1_take_48 : decode cX1_take 48 = .ok (.aload_n 0, 1) := by decide +kernel
theorem dX1_take_49 : decode cX1_take 49 = .ok (.getfield 18, 3) := by decide +kernel
theorem dX1_take_52 : decode cX1_take 52 = .ok (.iconst 1, 1) := by decide +kernel
theorem dX1_take_53 : decode cX1_take 53 = .ok (.isub, 1) := by decide +kernel
theorem dX1_take_54 : decode cX1_take 54 = .ok (.iaload, 1) := by decide +kernel
theorem dX1_take_55 : decode cX1_take 55 = .ok (.iload_n 1, 1) := by decide +kernel
theorem dX1_take_56 : decode cX1_take 56 = .ok (.if_icmp .ne 16, 3) := by decide +kernel
theorem dX1_take_59 : decode cX1_take 59 = .ok (.aload_n 0, 1) := by decide +kernel
theorem dX1_take_60 : decode cX1_take 60 = .ok (.dup, 1) := by decide +kernel
theorem dX1_take_61 : decode cX1_take 61 = .ok (.getfield 18, 3) := by decide +kernel
theorem dX1_take_64 : decode cX1_take 64 = .ok (.iconst 1, 1) := by decide +kernel
theorem dX1_take_65 : decode cX1_take 65 = .ok (.isub, 1) := by decide +kernel
theorem dX1_take_66 : decode cX1_take 66 = .ok (.putfield 18, 3) := by decide +kernel
theorem dX1_take_69 : decode cX1_take 69 = .ok (.goto 8, 3) := by decide +kernel
theorem dX1_take_72 : decode cX1_take 72 = .ok (.aload_n 0, 1) := by decide +kernel
theorem dX1_take_73 : decode cX1_take 73 = .ok (.iload_n 2, 1) := by decide +kernel
theorem dX1_take_74 : decode cX1_take 74 = .ok (.putfield 31, 3) := by decide +kernel
theorem dX1_take_77 : decode cX1_take 77 = .ok (.return_, 1) := by decide +kernel
theorem dX1_end_0 : decode cX1_end 0 = .ok (.aload_n 0, 1) := by decide +kernel
theorem dX1_end_1 : decode cX1_end 1 = .ok (.getfield 31, 3) := by decide +kernel
theorem dX1_end_4 : decode cX1_end 4 = .ok (.iconst (-1), 1) := by decide +kernel
theorem dX1_end_5 : decode cX1_end 5 = .ok (.if_icmp .ne 20, 3) := by decide +kernel
theorem dX1_end_8 : decode cX1_end 8 = .ok (.aload_n 0, 1) := by decide +kernel
theorem dX1_end_9 : decode cX1_end 9 = .ok (.iconst 0, 1) := by decide +kernel
theorem dX1_end_10 : decode cX1_end 10 = .ok (.invokevirtual 34, 3) := by decide +kernel
theorem dX1_end_13 : decode cX1_end 13 = .ok (.aload_n 0, 1) := by decide +kernel
theorem dX1_end_14 : decode cX1_end 14 = .ok (.getfield 18, 3) := by decide +kernel
theorem dX1_end_17 : decode cX1_end 17 = .ok (.ifCond .eq 8, 3) := by decide +kernel
theorem dX1_end_20 : decode cX1_end 20 = .ok (.aload_n 0, 1) := by decide +kernel
theorem dX1_end_21 : decode cX1_end 21 = .ok (.iload_n 1, 1) := by decide +kernel
theorem dX1_end_22 : decode cX1_end 22 = .ok (.putfield 31, 3) := by decide +kernel
theorem dX1_end_25 : decode cX1_end 25 = .ok (.return_, 1) := by decide +kernel
theorem dX1_heightAhead_0 : decode cX1_heightAhead 0 = .ok (.iload_n 1, 1) := by decide +kernel
theorem dX1_heightAhead_1 : decode cX1_heightAhead 1 = .ok (.ifCond .lt 20, 3) := by decide +kernel
theorem dX1_heightAhead_4 : decode cX1_heightAhead 4 = .ok (.iload_n 1, 1) := by decide +kernel
theorem dX1_heightAhead_5 : decode cX1_heightAhead 5 = .ok (.aload_n 0, 1) := by decide +kernel
theorem dX1_heightAhead_6 : decode cX1_heightAhead 6 = .ok (.getfield 28, 3) := by decide +kernel
theorem dX1_heightAhead_9 : decode cX1_heightAhead 9 = .ok (.if_icmp .ge 12, 3) := by decide +kernel
theorem dX1_heightAhead_12 : decode cX1_heightAhead 12 = .ok (.aload_n 0, 1) := by decide +kernel
theorem dX1_heightAhead_13 : decode cX1_heightAhead 13 = .ok (.getfield 15, 3) := by decide +kernel
theorem dX1_heightAhead_16 : decode cX1_heightAhead 16 = .ok (.iload_n 1, 1) := by decide +kernel
theorem dX1_heightAhead_17 : decode cX1_heightAhead 17 = .ok (.iaload, 1) := by decide +kernel
theorem dX1_heightAhead_18 : decode cX1_heightAhead 18 = .ok (.goto 4, 3) := by decide +kernel
theorem dX1_heightAhead_21 : decode cX1_heightAhead 21 = .ok (.iconst (-1), 1) := by decide +kernel
theorem dX1_heightAhead_22 : decode cX1_heightAhead 22 = .ok (.ireturn, 1) := by decide +kernel
theorem dX1_hasSameStack_0 : decode cX1_hasSameStack 0 = .ok (.aload_n 0, 1) := by decide +kernel
theorem dX1_hasSameStack_1 : decode cX1_hasSameStack 1 = .ok (.getfield 18, 3) := by decide +kernel
theorem dX1_hasSameStack_4 : decode cX1_hasSameStack 4 = .ok (.aload_n 1, 1) := by decide +kernel
theorem dX1_hasSameStack_5 : decode cX1_hasSameStack 5 = .ok (.getfield 18, 3) := by decide +kernel
theorem dX1_hasSameStack_8 : decode cX1_hasSameStack 8 = .ok (.if_icmp .ne 25, 3) := by decide +kernel
theorem dX1_hasSameStack_11 : decode cX1_hasSameStack 11 = .ok (.aload_n 0, 1) := by decide +kernel
theorem dX1_hasSameStack_12 : decode cX1_hasSameStack 12 = .ok (.getfield 11, 3) := by decide +kernel
theorem dX1_hasSameStack_15 : decode cX1_hasSameStack 15 = .ok (.aload_n 1, 1) := by decide +kernel
theorem dX1_hasSameStack_16 : decode cX1_hasSameStack 16 = .ok (.getfield 11, 3) := by decide +kernel
theorem dX1_hasSameStack_19 : decode cX1_hasSameStack 19 = .ok (.aload_n 0, 1) := by decide +kernel
theorem dX1_hasSameStack_20 : decode cX1_hasSameStack 20 = .ok (.getfield 18, 3) := by decide +kernel
theorem dX1_hasSameStack_23 : decode cX1_hasSameStack 23 = .ok (.invokestatic 37, 3) := by decide +kernel
theorem dX1_hasSameStack_26 : decode cX1_hasSameStack 26 = .ok (.ifCond .eq 7, 3) := by decide +kernel
theorem dX1_hasSameStack_29 : decode cX1_hasSameStack 29 = .ok (.iconst 1, 1) := by decide +kernel
theorem dX1_hasSameStack_30 : decode cX1_hasSameStack 30 = .ok (.goto 4, 3) := by decide +kernel
theorem dX1_hasSameStack_33 : decode cX1_hasSameStack 33 = .ok (.iconst 0, 1) := by decide +kernel
theorem dX1_hasSameStack_34 : decode cX1_hasSameStack 34 = .ok (.ireturn, 1) := by decide +kernel
theorem dX1_replaceTop_0 : decode cX1_replaceTop 0 = .ok (.iconst 0, 1) := by decide +kernel
theorem dX1_replaceTop_1 : decode cX1_replaceTop 1 = .ok (.istore_n 2, 1) := by decide +kernel
theorem dX1_replaceTop_2 : decode cX1_replaceTop 2 = .ok (.iload_n 2, 1) := by decide +kernel
theorem dX1_replaceTop_3 : decode cX1_replaceTop 3 = .ok (.sipush 640, 3) := by decide +kernel
theorem dX1_replaceTop_6 : decode cX1_replaceTop 6 = .ok (.if_icmp .ge 105, 3) := by decide +kernel
theorem dX1_replaceTop_9 : decode cX1_replaceTop 9 = .ok (.aload_n 0, 1) := by decide +kernel
theorem dX1_replaceTop_10 : decode cX1_replaceTop 10 = .ok (.getfield 18, 3) := by decide +kernel
theorem dX1_replaceTop_13 : decode cX1_replaceTop 13 = .ok (.ifCond .le 98, 3) := by decide +kernel
theorem dX1_replaceTop_16 : decode cX1_replaceTop 16 = .ok (.aload_n 0, 1) := by decide +kernel
theorem dX1_replaceTop_17 : decode cX1_replaceTop 17 = .ok (.getfield 11, 3) := by decide +kernel
theorem dX1_replaceTop_20 : decode cX1_replaceTop 20 = .ok (.aload_n 0, 1) := by decide +kernel
theorem dX1_replaceTop_21 : decode cX1_replaceTop 21 = .ok (.getfield 18, 3) := by decide +kernel
theorem dX1_replaceTop_24 : decode cX1_replaceTop 24 = .ok (.iconst 1, 1) := by decide +kernel
theorem dX1_replaceTop_25 : decode cX1_replaceTop 25 = .ok (.isub, 1) := by decide +kernel
theorem dX1_replaceTop_26 : decode cX1_replaceTop 26 = .ok (.iaload, 1) := by decide +kernel
theorem dX1_replaceTop_27 : decode cX1_replaceTop 27 = .ok (.istore_n 3, 1) := by decide +kernel
theorem dX1_replaceTop_28 : decode cX1_replaceTop 28 = .ok (.iload_n 3, 1) := by decide +kernel
theorem dX1_replaceTop_29 : decode cX1_replaceTop 29 = .ok (.invokestatic 43, 3) := by decide +kernel
theorem dX1_replaceTop_32 : decode cX1_replaceTop 32 = .ok (.ifCond .ne 4, 3) := by decide +kernel
theorem dX1_replaceTop_35 : decode cX1_replaceTop 35 = .ok (.return_, 1) := by decide +kernel
theorem dX1_replaceTop_36 : decode cX1_replaceTop 36 = .ok (.iload_n 3, 1) := by decide +kernel
theorem dX1_replaceTop_37 : decode cX1_replaceTop 37 = .ok (.iload_n 1, 1) := by decide +kernel
theorem dX1_replaceTop_38 : decode cX1_replaceTop 38 = .ok (.invokestatic 47, 3) := by decide +kernel
theorem dX1_replaceTop_41 : decode cX1_replaceTop 41 = .ok (.astore 4, 2) := by decide +kernel
theorem dX1_replaceTop_43 : decode cX1_replaceTop 43 = .ok (.aload 4, 2) := by decide +kernel
theorem dX1_replaceTop_45 : decode cX1_replaceTop 45 = .ok (.ifnonnull 4, 3) := by decide +kernel
theorem dX1_replaceTop_48 : decode cX1_replaceTop 48 = .ok (.return_, 1) := by decide +kernel
theorem dX1_replaceTop_49 : decode cX1_replaceTop 49 = .ok (.aload_n 0, 1) := by decide +kernel
theorem dX1_replaceTop_50 : decode cX1_replaceTop 50 = .ok (.dup, 1) := by decide +kernel
theorem dX1_replaceTop_51 : decode cX1_replaceTop 51 = .ok (.getfield 18, 3) := by decide +kernel
theorem dX1_replaceTop_54 : decode cX1_replaceTop 54 = .ok (.iconst 1, 1) := by decide +kernel
theorem dX1_replaceTop_55 : decode cX1_replaceTop 55 = .ok (.isub, 1) := by decide +kernel
theorem dX1_replaceTop_56 : decode cX1_replaceTop 56 = .ok (.putfield 18, 3) := by decide +kernel
theorem dX1_replaceTop_59 : decode cX1_replaceTop 59 = .ok (.aload 4, 2) := by decide +kernel
theorem dX1_replaceTop_61 : decode cX1_replaceTop 61 = .ok (.invokevirtual 51, 3) := by decide +kernel
theorem dX1_replaceTop_64 : decode cX1_replaceTop 64 = .ok (.iconst 1, 1) := by decide +kernel
theorem dX1_replaceTop_65 : decode cX1_replaceTop 65 = .ok (.isub, 1) := by decide +kernel
theorem dX1_replaceTop_66 : decode cX1_replaceTop 66 = .ok (.istore 5, 2) := by decide +kernel
theorem dX1_replaceTop_68 : decode cX1_replaceTop 68 = .ok (.iload 5, 2) := by decide +kernel
theorem dX1_replaceTop_70 : decode cX1_replaceTop 70 = .ok (.ifCond .lt 35, 3) := by decide +kernel
theorem dX1_replaceTop_73 : decode cX1_replaceTop 73 = .ok (.aload 4, 2) := by decide +kernel
theorem dX1_replaceTop_75 : decode cX1_replaceTop 75 = .ok (.iload 5, 2) := by decide +kernel
theorem dX1_replaceTop_77 : decode cX1_replaceTop 77 = .ok (.invokevirtual 57, 3) := by decide +kernel
theorem dX1_replaceTop_80 : decode cX1_replaceTop 80 = .ok (.istore 6, 2) := by decide +kernel
theorem dX1_replaceTop_82 : decode cX1_replaceTop 82 = .ok (.aload_n 0, 1) := by decide +kernel
theorem dX1_replaceTop_83 : decode cX1_replaceTop 83 = .ok (.iload 6, 2) := by decide +kernel
theorem dX1_replaceTop_85 : decode cX1_replaceTop 85 = .ok (.bipush 35, 2) := by decide +kernel
theorem dX1_replaceTop_87 : decode cX1_replaceTop 87 = .ok (.if_icmp .ne 7, 3) := by decide +kernel
theorem dX1_replaceTop_90 : decode cX1_replaceTop 90 = .ok (.iload_n 1, 1) := by decide +kernel
theorem dX1_replaceTop_91 : decode cX1_replaceTop 91 = .ok (.goto 5, 3) := by decide +kernel
theorem dX1_replaceTop_94 : decode cX1_replaceTop 94 = .ok (.iload 6, 2) := by decide +kernel
theorem dX1_replaceTop_96 : decode cX1_replaceTop 96 = .ok (.invokevirtual 24, 3) := by decide +kernel
theorem dX1_replaceTop_99 : decode cX1_replaceTop 99 = .ok (.iinc 5 (-1), 3) := by decide +kernel
theorem dX1_replaceTop_102 : decode cX1_replaceTop 102 = .ok (.goto (-34), 3) := by decide +kernel
theorem dX1_replaceTop_105 : decode cX1_replaceTop 105 = .ok (.iinc 2 1, 3) := by decide +kernel
theorem dX1_replaceTop_108 : decode cX1_replaceTop 108 = .ok (.goto (-106), 3) := by decide +kernel
theorem dX1_replaceTop_111 : decode cX1_replaceTop 111 = .ok (.return_, 1) := by decide +kernel
theorem dX1_push_0 : decode cX1_push 0 = .ok (.aload_n 0, 1) := by decide +kernel
theorem dX1_push_1 : decode cX1_push 1 = .ok (.getfield 18, 3) := by decide +kernel
theorem dX1_push_4 : decode cX1_push 4 = .ok (.sipush 320, 3) := by decide +kernel
theorem dX1_push_7 : decode cX1_push 7 = .ok (.if_icmp .ge 23, 3) := by decide +kernel
theorem dX1_push_10 : decode cX1_push 10 = .ok (.aload_n 0, 1) := by decide +kernel
theorem dX1_push_11 : decode cX1_push 11 = .ok (.getfield 11, 3) := by decide +kernel
theorem dX1_push_14 : decode cX1_push 14 = .ok (.aload_n 0, 1) := by decide +kernel
theorem dX1_push_15 : decode cX1_push 15 = .ok (.getfield 18, 3) := by decide +kernel
theorem dX1_push_18 : decode cX1_push 18 = .ok (.iload_n 1, 1) := by decide +kernel
theorem dX1_push_19 : decode cX1_push 19 = .ok (.iastore, 1) := by decide +kernel
theorem dX1_push_20 : decode cX1_push 20 = .ok (.aload_n 0, 1) := by decide +kernel
theorem dX1_push_21 : decode cX1_push 21 = .ok (.dup, 1) := by decide +kernel
theorem dX1_push_22 : decode cX1_push 22 = .ok (.getfield 18, 3) := by decide +kernel
theorem dX1_push_25 : decode cX1_push 25 = .ok (.iconst 1, 1) := by decide +kernel
theorem dX1_push_26 : decode cX1_push 26 = .ok (.iadd, 1) := by decide +kernel
theorem dX1_push_27 : decode cX1_push 27 = .ok (.putfield 18, 3) := by decide +kernel
theorem dX1_push_30 : decode cX1_push 30 = .ok (.return_, 1) := by decide +kernel
theorem dX2_areSame_0 : decode cX2_areSame 0 = .ok (.iload_n 2, 1) := by decide +kernel
theorem dX2_areSame_1 : decode cX2_areSame 1 = .ok (.aload_n 0, 1) := by decide +kernel
theorem dX2_areSame_2 : decode cX2_areSame 2 = .ok (.arraylength, 1) := by decide +kernel
theorem dX2_areSame_3 : decode cX2_areSame 3 = .ok (.aload_n 1, 1) := by decide +kernel
theorem dX2_areSame_4 : decode cX2_areSame 4 = .ok (.arraylength, 1) := by decide +kernel
theorem dX2_areSame_5 : decode cX2_areSame 5 = .ok (.invokestatic 7, 3) := by decide +kernel
theorem dX2_areSame_8 : decode cX2_areSame 8 = .ok (.invokestatic 7, 3) := by decide +kernel
theorem dX2_areSame_11 : decode cX2_areSame 11 = .ok (.iconst 1, 1) := by decide +kernel
theorem dX2_areSame_12 : decode cX2_areSame 12 = .ok (.isub, 1) := by decide +kernel
theorem dX2_areSame_13 : decode cX2_areSame 13 = .ok (.istore_n 3, 1) := by decide +kernel
theorem dX2_areSame_14 : decode cX2_areSame 14 = .ok (.iload_n 3, 1) := by decide +kernel
theorem dX2_areSame_15 : decode cX2_areSame 15 = .ok (.ifCond .lt 20, 3) := by decide +kernel
theorem dX2_areSame_18 : decode cX2_areSame 18 = .ok (.aload_n 0, 1) := by decide +kernel
theorem dX2_areSame_19 : decode cX2_areSame 19 = .ok (.iload_n 3, 1) := by decide +kernel
theorem dX2_areSame_20 : decode cX2_areSame 20 = .ok (.iaload, 1) := by decide +kernel
theorem dX2_areSame_21 : decode cX2_areSame 21 = .ok (.aload_n 1, 1) := by decide +kernel
theorem dX2_areSame_22 : decode cX2_areSame 22 = .ok (.iload_n 3, 1) := by decide +kernel
theorem dX2_areSame_23 : decode cX2_areSame 23 = .ok (.iaload, 1) := by decide +kernel
theorem dX2_areSame_24 : decode cX2_areSame 24 = .ok (.if_icmp .eq 5, 3) := by decide +kernel
theorem dX2_areSame_27 : decode cX2_areSame 27 = .ok (.iconst 0, 1) := by decide +kernel
theorem dX2_areSame_28 : decode cX2_areSame 28 = .ok (.ireturn, 1) := by decide +kernel
theorem dX2_areSame_29 : decode cX2_areSame 29 = .ok (.iinc 3 (-1), 3) := by decide +kernel
theorem dX2_areSame_32 : decode cX2_areSame 32 = .ok (.goto (-18), 3) := by decide +kernel
theorem dX2_areSame_35 : decode cX2_areSame 35 = .ok (.iconst 1, 1) := by decide +kernel
theorem dX2_areSame_36 : decode cX2_areSame 36 = .ok (.ireturn, 1) := by decide +kernel
theorem dX3_init_0 : decode cX3_init 0 = .ok (.aload_n 0, 1) := by decide +kernel
theorem dX3_init_1 : decode cX3_init 1 = .ok (.invokespecial 3, 3) := by decide +kernel
theorem dX3_init_4 : decode cX3_init 4 = .ok (.aload_n 0, 1) := by decide +kernel
theorem dX3_init_5 : decode cX3_init 5 = .ok (.bipush 80, 2) := by decide +kernel
theorem dX3_init_7 : decode cX3_init 7 = .ok (.newarray .int, 2) := by decide +kernel
theorem dX3_init_9 : decode cX3_init 9 = .ok (.putfield 9, 3) := by decide +kernel
theorem dX3_init_12 : decode cX3_init 12 = .ok (.aload_n 0, 1) := by decide +kernel
theorem dX3_init_13 : decode cX3_init 13 = .ok (.iconst 4, 1) := by decide +kernel
theorem dX3_init_14 : decode cX3_init 14 = .ok (.newarray .int, 2) := by decide +kernel
theorem dX3_init_16 : decode cX3_init 16 = .ok (.putfield 15, 3) := by decide +kernel
theorem dX3_init_19 : decode cX3_init 19 = .ok (.aload_n 0, 1) := by decide +kernel
theorem dX3_init_20 : decode cX3_init 20 = .ok (.bipush 80, 2) := by decide +kernel
theorem dX3_init_22 : decode cX3_init 22 = .ok (.newarray .int, 2) := by decide +kernel
theorem dX3_init_24 : decode cX3_init 24 = .ok (.putfield 18, 3) := by decide +kernel
theorem dX3_init_27 : decode cX3_init 27 = .ok (.return_, 1) := by decide +kernel
theorem dX3_execute_0 : decode cX3_execute 0 = .ok (.aload_n 0, 1) := by decide +kernel
theorem dX3_execute_1 : decode cX3_execute 1 = .ok (.iload_n 2, 1) := by decide +kernel
theorem dX3_execute_2 : decode cX3_execute 2 = .ok (.aload_n 1, 1) := by decide +kernel
theorem dX3_execute_3 : decode cX3_execute 3 = .ok (.arraylength, 1) := by decide +kernel
theorem dX3_execute_4 : decode cX3_execute 4 = .ok (.bipush 80, 2) := by decide +kernel
theorem dX3_execute_6 : decode cX3_execute 6 = .ok (.invokestatic 21, 3) := by decide +kernel
theorem dX3_execute_9 : decode cX3_execute 9 = .ok (.invokestatic 21, 3) := by decide +kernel
theorem dX3_execute_12 : decode cX3_execute 12 = .ok (.putfield 27, 3) := by decide +kernel
theorem dX3_execute_15 : decode cX3_execute 15 = .ok (.iconst 0, 1) := by decide +kernel
theorem dX3_execute_16 : decode cX3_execute 16 = .ok (.istore_n 3, 1) := by decide +kernel
theorem dX3_execute_17 : decode cX3_execute 17 = .ok (.iload_n 3, 1) := by decide +kernel
theorem dX3_execute_18 : decode cX3_execute 18 = .ok (.aload_n 0, 1) := by decide +kernel
theorem dX3_execute_19 : decode cX3_execute 19 = .ok (.getfield 27, 3) := by decide +kernel
theorem dX3_execute_22 : decode cX3_execute 22 = .ok (.if_icmp .ge 18, 3) := by decide +kernel
theorem dX3_execute_25 : decode cX3_execute 25 = .ok (.aload_n 0, 1) := by decide +kernel
theorem dX3_execute_26 : decode cX3_execute 26 = .ok (.getfield 9, 3) := by decide +kernel
theorem dX3_execute_29 : decode cX3_execute 29 = .ok (.iload_n 3, 1) := by decide +kernel
theorem dX3_execute_30 : decode cX3_execute 30 = .ok (.aload_n 1, 1) := by decide +kernel
theorem dX3_execute_31 : decode cX3_execute 31 = .ok (.iload_n 3, 1) := by decide +kernel
theorem dX3_execute_32 : decode cX3_execute 32 = .ok (.iaload, 1) := by decide +kernel
theorem dX3_execute_33 : decode cX3_execute 33 = .ok (.iastore, 1) := by decide +kernel
theorem dX3_execute_34 : decode cX3_execute 34 = .ok (.iinc 3 1, 3) := by decide +kernel
theorem dX3_execute_37 : decode cX3_execute 37 = .ok (.goto (-20), 3) := by decide +kernel
theorem dX3_execute_40 : decode cX3_execute 40 = .ok (.aload_n 0, 1) := by decide +kernel
theorem dX3_execute_41 : decode cX3_execute 41 = .ok (.iconst 0, 1) := by decide +kernel
theorem dX3_execute_42 : decode cX3_execute 42 = .ok (.putfield 31, 3) := by decide +kernel
theorem dX3_execute_45 : decode cX3_execute 45 = .ok (.aload_n 0, 1) := by decide +kernel
theorem dX3_execute_46 : decode cX3_execute 46 = .ok (.iconst 0, 1) := by decide +kernel
theorem dX3_execute_47 : decode cX3_execute 47 = .ok (.putfield 34, 3) := by decide +kernel
theorem dX3_execute_50 : decode cX3_execute 50 = .ok (.iconst 0, 1) := by decide +kernel
theorem dX3_execute_51 : decode cX3_execute 51 = .ok (.istore_n 3, 1) := by decide +kernel
theorem dX3_execute_52 : decode cX3_execute 52 = .ok (.iload_n 3, 1) := by decide +kernel
theorem dX3_execute_53 : decode cX3_execute 53 = .ok (.iconst 4, 1) := by decide +kernel
theorem dX3_execute_54 : decode cX3_execute 54 = .ok (.if_icmp .ge 16, 3) := by decide +kernel
theorem dX3_execute_57 : decode cX3_execute 57 = .ok (.aload_n 0, 1) := by decide +kernel
theorem dX3_execute_58 : decode cX3_execute 58 = .ok (.getfield 15, 3) := by decide +kernel
theorem dX3_execute_61 : decode cX3_execute 61 = .ok (.iload_n 3, 1) := by decide +kernel
theorem dX3_execute_62 : decode cX3_execute 62 = .ok (.iconst 0, 1) := by decide +kernel
theorem dX3_execute_63 : decode cX3_execute 63 = .ok (.iastore, 1) := by decide +kernel
theorem dX3_execute_64 : decode cX3_execute 64 = .ok (.iinc 3 1, 3) := by decide +kernel
theorem dX3_execute_67 : decode cX3_execute 67 = .ok (.goto (-15), 3) := by decide +kernel
theorem dX3_execute_70 : decode cX3_execute 70 = .ok (.aload_n 0, 1) := by decide +kernel
theorem dX3_execute_71 : decode cX3_execute 71 = .ok (.iconst 1, 1) := by decide +kernel
theorem dX3_execute_72 : decode cX3_execute 72 = .ok (.iconst 0, 1) := by decide +kernel
theorem dX3_execute_73 : decode cX3_execute 73 = .ok (.invokevirtual 37, 3) := by decide +kernel
theorem dX3_execute_76 : decode cX3_execute 76 = .ok (.return_, 1) := by decide +kernel
theorem dX3_hasSameOutputs_0 : decode cX3_hasSameOutputs 0 = .ok (.aload_n 0, 1) := by decide +kernel
theorem dX3_hasSameOutputs_1 : decode cX3_hasSameOutputs 1 = .ok (.getfield 34, 3) := by decide +kernel
theorem dX3_hasSameOutputs_4 : decode cX3_hasSameOutputs 4 = .ok (.aload_n 1, 1) := by decide +kernel
theorem dX3_hasSameOutputs_5 : decode cX3_hasSameOutputs 5 = .ok (.getfield 34, 3) := by decide +kernel
theorem dX3_hasSameOutputs_8 : decode cX3_hasSameOutputs 8 = .ok (.if_icmp .ne 25, 3) := by decide +kernel
theorem dX3_hasSameOutputs_11 : decode cX3_hasSameOutputs 11 = .ok (.aload_n 0, 1) := by decide +kernel
theorem dX3_hasSameOutputs_12 : decode cX3_hasSameOutputs 12 = .ok (.getfield 18, 3) := by decide +kernel
theorem dX3_hasSameOutputs_15 : decode cX3_hasSameOutputs 15 = .ok (.aload_n 1, 1) := by decide +kernel
theorem dX3_hasSameOutputs_16 : decode cX3_hasSameOutputs 16 = .ok (.getfield 18, 3) := by decide +kernel
theorem dX3_hasSameOutputs_19 : decode cX3_hasSameOutputs 19 = .ok (.aload_n 0, 1) := by decide +kernel
theorem dX3_hasSameOutputs_20 : decode cX3_hasSameOutputs 20 = .ok (.getfield 34, 3) := by decide +kernel
theorem dX3_hasSameOutputs_23 : decode cX3_hasSameOutputs 23 = .ok (.invokestatic 41, 3) := by decide +kernel
theorem dX3_hasSameOutputs_26 : decode cX3_hasSameOutputs 26 = .ok (.ifCond .eq 7, 3) := by decide +kernel
theorem dX3_hasSameOutputs_29 : decode cX3_hasSameOutputs 29 = .ok (.iconst 1, 1) := by decide +kernel
theorem dX3_hasSameOutputs_30 : decode cX3_hasSameOutputs 30 = .ok (.goto 4, 3) := by decide +kernel
theorem dX3_hasSameOutputs_33 : decode cX3_hasSameOutputs 33 = .ok (.iconst 0, 1) := by decide +kernel
theorem dX3_hasSameOutputs_34 : decode cX3_hasSameOutputs 34 = .ok (.ireturn, 1) := by decide +kernel
theorem dX3_peek_0 : decode cX3_peek 0 = .ok (.aload_n 0, 1) := by decide +kernel
theorem dX3_peek_1 : decode cX3_peek 1 = .ok (.getfield 31, 3) := by decide +kernel
theorem dX3_peek_4 : decode cX3_peek 4 = .ok (.ifCond .lt 26, 3) := by decide +kernel
theorem dX3_peek_7 : decode cX3_peek 7 = .ok (.aload_n 0, 1) := by decide +kernel
theorem dX3_peek_8 : decode cX3_peek 8 = .ok (.getfield 31, 3) := by decide +kernel
theorem dX3_peek_11 : decode cX3_peek 11 = .ok (.aload_n 0, 1) := by decide +kernel
theorem dX3_peek_12 : decode cX3_peek 12 = .ok (.getfield 27, 3) := by decide +kernel
theorem dX3_peek_15 : decode cX3_peek 15 = .ok (.if_icmp .ge 15, 3) := by decide +kernel
theorem dX3_peek_18 : decode cX3_peek 18 = .ok (.aload_n 0, 1) := by decide +kernel
theorem dX3_peek_19 : decode cX3_peek 19 = .ok (.getfield 9, 3) := by decide +kernel
theorem dX3_peek_22 : decode cX3_peek 22 = .ok (.aload_n 0, 1) := by decide +kernel
theorem dX3_peek_23 : decode cX3_peek 23 = .ok (.getfield 31, 3) := by decide +kernel
theorem dX3_peek_26 : decode cX3_peek 26 = .ok (.iaload, 1) := by decide +kernel
theorem dX3_peek_27 : decode cX3_peek 27 = .ok (.goto 4, 3) := by decide +kernel
theorem dX3_peek_30 : decode cX3_peek 30 = .ok (.iconst 0, 1) := by decide +kernel
theorem dX3_peek_31 : decode cX3_peek 31 = .ok (.ireturn, 1) := by decide +kernel
theorem dX3_advance_0 : decode cX3_advance 0 = .ok (.aload_n 0, 1) := by decide +kernel
theorem dX3_advance_1 : decode cX3_advance 1 = .ok (.invokevirtual 49, 3) := by decide +kernel
theorem dX3_advance_4 : decode cX3_advance 4 = .ok (.istore_n 1, 1) := by decide +kernel
theorem dX3_advance_5 : decode cX3_advance 5 = .ok (.aload_n 0, 1) := by decide +kernel
theorem dX3_advance_6 : decode cX3_advance 6 = .ok (.getfield 31, 3) := by decide +kernel
theorem dX3_advance_9 : decode cX3_advance 9 = .ok (.aload_n 0, 1) := by decide +kernel
theorem dX3_advance_10 : decode cX3_advance 10 = .ok (.getfield 27, 3) := by decide +kernel
theorem dX3_advance_13 : decode cX3_advance 13 = .ok (.if_icmp .ge 13, 3) := by decide +kernel
theorem dX3_advance_16 : decode cX3_advance 16 = .ok (.aload_n 0, 1) := by decide +kernel
theorem dX3_advance_17 : decode cX3_advance 17 = .ok (.dup, 1) := by decide +kernel
theorem dX3_advance_18 : decode cX3_advance 18 = .ok (.getfield 31, 3) := by decide +kernel
theorem dX3_advance_21 : decode cX3_advance 21 = .ok (.iconst 1, 1) := by decide +kernel
theorem dX3_advance_22 : decode cX3_advance 22 = .ok (.iadd, 1) := by decide +kernel
theorem dX3_advance_23 : decode cX3_advance 23 = .ok (.putfield 31, 3) := by decide +kernel
theorem dX3_advance_26 : decode cX3_advance 26 = .ok (.iload_n 1, 1) := by decide +kernel
theorem dX3_advance_27 : decode cX3_advance 27 = .ok (.ireturn, 1) := by decide +kernel
theorem dX3_runStatements_0 : decode cX3_runStatements 0 = .ok (.iconst 0, 1) := by decide +kernel
theorem dX3_runStatements_1 : decode cX3_runStatements 1 = .ok (.istore_n 3, 1) := by decide +kernel
theorem dX3_runStatements_2 : decode cX3_runStatements 2 = .ok (.iload_n 3, 1) := by decide +kernel
theorem dX3_runStatements_3 : decode cX3_runStatements 3 = .ok (.bipush 80, 2) := by decide +kernel
theorem dX3_runStatements_5 : decode cX3_runStatements 5 = .ok (.if_icmp .ge 25, 3) := by decide +kernel
theorem dX3_runStatements_8 : decode cX3_runStatements 8 = .ok (.aload_n 0, 1) := by decide +kernel
theorem dX3_runStatements_9 : decode cX3_runStatements 9 = .ok (.invokevirtual 49, 3) := by decide +kernel
theorem dX3_runStatements_12 : decode cX3_runStatements 12 = .ok (.invokestatic 53, 3) := by decide +kernel
theorem dX3_runStatements_15 : decode cX3_runStatements 15 = .ok (.ifCond .eq 15, 3) := by decide +kernel
theorem dX3_runStatements_18 : decode cX3_runStatements 18 = .ok (.aload_n 0, 1) := by decide +kernel
theorem dX3_runStatements_19 : decode cX3_runStatements 19 = .ok (.iload_n 1, 1) := by decide +kernel
theorem dX3_runStatements_20 : decode cX3_runStatements 20 = .ok (.iload_n 2, 1) := by decide +kernel
theorem dX3_runStatements_21 : decode cX3_runStatements 21 = .ok (.invokevirtual 57, 3) := by decide +kernel
theorem dX3_runStatements_24 : decode cX3_runStatements 24 = .ok (.iinc 3 1, 3) := by decide +kernel
theorem dX3_runStatements_27 : decode cX3_runStatements 27 = .ok (.goto (-25), 3) := by decide +kernel
theorem dX3_runStatements_30 : decode cX3_runStatements 30 = .ok (.return_, 1) := by decide +kernel
theorem dX3_runStatement_0 : decode cX3_runStatement 0 = .ok (.iload_n 2, 1) := by decide +kernel
theorem dX3_runStatement_1 : decode cX3_runStatement 1 = .ok (.bipush 40, 2) := by decide +kernel
theorem dX3_runStatement_3 : decode cX3_runStatement 3 = .ok (.if_icmp .le 4, 3) := by decide +kernel
theorem dX3_runStatement_6 : decode cX3_runStatement 6 = .ok (.return_, 1) := by decide +kernel
theorem dX3_runStatement_7 : decode cX3_runStatement 7 = .ok (.aload_n 0, 1) := by decide +kernel
theorem dX3_runStatement_8 : decode cX3_runStatement 8 = .ok (.invokevirtual 60, 3) := by decide +kernel
theorem dX3_runStatement_11 : decode cX3_runStatement 11 = .ok (.istore_n 3, 1) := by decide +kernel
theorem dX3_runStatement_12 : decode cX3_runStatement 12 = .ok (.iload_n 3, 1) := by decide +kernel
theorem dX3_runStatement_13 : decode cX3_runStatement 13 = .ok (.bipush 123, 2) := by decide +kernel
theorem dX3_runStatement_15 : decode cX3_runStatement 15 = .ok (.if_icmp .ne 19, 3) := by decide +kernel
theorem dX3_runStatement_18 : decode cX3_runStatement 18 = .ok (.aload_n 0, 1) := by decide +kernel
theorem dX3_runStatement_19 : decode cX3_runStatement 19 = .ok (.iload_n 1, 1) := by decide +kernel
theorem dX3_runStatement_20 : decode cX3_runStatement 20 = .ok (.iload_n 2, 1) := by decide +kernel
theorem dX3_runStatement_21 : decode cX3_runStatement 21 = .ok (.iconst 1, 1) := by decide +kernel
theorem dX3_runStatement_22 : decode cX3_runStatement 22 = .ok (.iadd, 1) := by decide +kernel
theorem dX3_runStatement_23 : decode cX3_runStatement 23 = .ok (.invokevirtual 37, 3) := by decide +kernel
theorem dX3_runStatement_26 : decode cX3_runStatement 26 = .ok (.aload_n 0, 1) := by decide +kernel
theorem dX3_runStatement_27 : decode cX3_runStatement 27 = .ok (.invokevirtual 60, 3) := by decide +kernel
theorem dX3_runStatement_30 : decode cX3_runStatement 30 = .ok (.pop, 1) := by decide +kernel
theorem dX3_runStatement_31 : decode cX3_runStatement 31 = .ok (.goto 79, 3) := by decide +kernel
theorem dX3_runStatement_34 : decode cX3_runStatement 34 = .ok (.iload_n 3, 1) := by decide +kernel
theorem dX3_runStatement_35 : decode cX3_runStatement 35 = .ok (.bipush 63, 2) := by decide +kernel
theorem dX3_runStatement_37 : decode cX3_runStatement 37 = .ok (.if_icmp .ne 14, 3) := by decide +kernel
theorem dX3_runStatement_40 : decode cX3_runStatement 40 = .ok (.aload_n 0, 1) := by decide +kernel
theorem dX3_runStatement_41 : decode cX3_runStatement 41 = .ok (.iload_n 1, 1) := by decide +kernel
theorem dX3_runStatement_42 : decode cX3_runStatement 42 = .ok (.iload_n 2, 1) := by decide +kernel
theorem dX3_runStatement_43 : decode cX3_runStatement 43 = .ok (.iconst 1, 1) := by decide +kernel
theorem dX3_runStatement_44 : decode cX3_runStatement 44 = .ok (.iadd, 1) := by decide +kernel
theorem dX3_runStatement_45 : decode cX3_runStatement 45 = .ok (.invokevirtual 63, 3) := by decide +kernel
theorem dX3_runStatement_48 : decode cX3_runStatement 48 = .ok (.goto 62, 3) := by decide +kernel
theorem dX3_runStatement_51 : decode cX3_runStatement 51 = .ok (.iload_n 3, 1) := by decide +kernel
theorem dX3_runStatement_52 : decode cX3_runStatement 52 = .ok (.bipush 33, 2) := by decide +kernel
theorem dX3_runStatement_54 : decode cX3_runStatement 54 = .ok (.if_icmp .ne 28, 3) := by decide +kernel
theorem dX3_runStatement_57 : decode cX3_runStatement 57 = .ok (.aload_n 0, 1) := by decide +kernel
theorem dX3_runStatement_58 : decode cX3_runStatement 58 = .ok (.iload_n 2, 1) := by decide +kernel
theorem dX3_runStatement_59 : decode cX3_runStatement 59 = .ok (.invokevirtual 66, 3) := by decide +kernel
theorem dX3_runStatement_62 : decode cX3_runStatement 62 = .ok (.istore 4, 2) := by decide +kernel
theorem dX3_runStatement_64 : decode cX3_runStatement 64 = .ok (.aload_n 0, 1) := by decide +kernel
theorem dX3_runStatement_65 : decode cX3_runStatement 65 = .ok (.invokevirtual 60, 3) := by decide +kernel
theorem dX3_runStatement_68 : decode cX3_runStatement 68 = .ok (.pop, 1) := by decide +kernel
theorem dX3_runStatement_69 : decode cX3_runStatement 69 = .ok (.iload_n 1, 1) := by decide +kernel
theorem dX3_runStatement_70 : decode cX3_runStatement 70 = .ok (.ifCond .eq 9, 3) := by decide +kernel
theorem dX3_runStatement_73 : decode cX3_runStatement 73 = .ok (.aload_n 0, 1) := by decide +kernel
theorem dX3_runStatement_74 : decode cX3_runStatement 74 = .ok (.iload 4, 2) := by decide +kernel
theorem dX3_runStatement_76 : decode cX3_runStatement 76 = .ok (.invokevirtual 70, 3) := by decide +kernel
theorem dX3_runStatement_79 : decode cX3_runStatement 79 = .ok (.goto 31, 3) := by decide +kernel
theorem dX3_runStatement_82 : decode cX3_runStatement 82 = .ok (.aload_n 0, 1) := by decide +kernel
theorem dX3_runStatement_83 : decode cX3_runStatement 83 = .ok (.invokevirtual 60, 3) := by decide +kernel
theorem dX3_runStatement_86 : decode cX3_runStatement 86 = .ok (.pop, 1) := by decide +kernel
theorem dX3_runStatement_87 : decode cX3_runStatement 87 = .ok (.aload_n 0, 1) := by decide +kernel
theorem dX3_runStatement_88 : decode cX3_runStatement 88 = .ok (.iload_n 2, 1) := by decide +kernel
theorem dX3_runStatement_89 : decode cX3_runStatement 89 = .ok (.invokevirtual 66, 3) := by decide +kernel
theorem dX3_runStatement_92 : decode cX3_runStatement 92 = .ok (.istore 4, 2) := by decide +kernel
theorem dX3_runStatement_94 : decode cX3_runStatement 94 = .ok (.aload_n 0, 1) := by decide +kernel
theorem dX3_runStatement_95 : decode cX3_runStatement 95 = .ok (.invokevirtual 60, 3) := by decide +kernel
theorem dX3_runStatement_98 : decode cX3_runStatement 98 = .ok (.pop, 1) := by decide +kernel
theorem dX3_runStatement_99 : decode cX3_runStatement 99 = .ok (.iload_n 1, 1) := by decide +kernel
theorem dX3_runStatement_100 : decode cX3_runStatement 100 = .ok (.ifCond .eq 10, 3) := by decide +kernel
theorem dX3_runStatement_103 : decode cX3_runStatement 103 = .ok (.aload_n 0, 1) := by decide +kernel
theorem dX3_runStatement_104 : decode cX3_runStatement 104 = .ok (.iload_n 3, 1) := by decide +kernel
theorem dX3_runStatement_105 : decode cX3_runStatement 105 = .ok (.iload 4, 2) := by decide +kernel
theorem dX3_runStatement_107 : decode cX3_runStatement 107 = .ok (.invokevirtual 74, 3) := by decide +kernel
theorem dX3_runStatement_110 : decode cX3_runStatement 110 = .ok (.return_, 1) := by decide +kernel
theorem dX3_runChoice_0 : decode cX3_runChoice 0 = .ok (.aload_n 0, 1) := by decide +kernel
theorem dX3_runChoice_1 : decode cX3_runChoice 1 = .ok (.iload_n 2, 1) := by decide +kernel
theorem dX3_runChoice_2 : decode cX3_runChoice 2 = .ok (.invokevirtual 66, 3) := by decide +kernel
theorem dX3_runChoice_5 : decode cX3_runChoice 5 = .ok (.ifCond .eq 7, 3) := by decide +kernel
theorem dX3_runChoice_8 : decode cX3_runChoice 8 = .ok (.iconst 1, 1) := by decide +kernel
theorem dX3_runChoice_9 : decode cX3_runChoice 9 = .ok (.goto 4, 3) := by decide +kernel
theorem dX3_runChoice_12 : decode cX3_runChoice 12 = .ok (.iconst 0, 1) := by decide +kernel
theorem dX3_runChoice_13 : decode cX3_runChoice 13 = .ok (.istore_n 3, 1) := by decide +kernel
theorem dX3_runChoice_14 : decode cX3_runChoice 14 = .ok (.aload_n 0, 1) := by decide +kernel
theorem dX3_runChoice_15 : decode cX3_runChoice 15 = .ok (.iload_n 1, 1) := by decide +kernel
theorem dX3_runChoice_16 : decode cX3_runChoice 16 = .ok (.ifCond .eq 11, 3) := by decide +kernel
theorem dX3_runChoice_19 : decode cX3_runChoice 19 = .ok (.iload_n 3, 1) := by decide +kernel
theorem dX3_runChoice_20 : decode cX3_runChoice 20 = .ok (.ifCond .eq 7, 3) := by decide +kernel
theorem dX3_runChoice_23 : decode cX3_runChoice 23 = .ok (.iconst 1, 1) := by decide +kernel
theorem dX3_runChoice_24 : decode cX3_runChoice 24 = .ok (.goto 4, 3) := by decide +kernel
theorem dX3_runChoice_27 : decode cX3_runChoice 27 = .ok (.iconst 0, 1) := by decide +kernel
theorem dX3_runChoice_28 : decode cX3_runChoice 28 = .ok (.iload_n 2, 1) := by decide +kernel
theorem dX3_runChoice_29 : decode cX3_runChoice 29 = .ok (.invokevirtual 57, 3) := by decide +kernel
theorem dX3_runChoice_32 : decode cX3_runChoice 32 = .ok (.aload_n 0, 1) := by decide +kernel
theorem dX3_runChoice_33 : decode cX3_runChoice 33 = .ok (.invokevirtual 49, 3) := by decide +kernel
theorem dX3_runChoice_36 : decode cX3_runChoice 36 = .ok (.bipush 58, 2) := by decide +kernel
theorem dX3_runChoice_38 : decode cX3_runChoice 38 = .ok (.if_icmp .ne 26, 3) := by decide +kernel
theorem dX3_runChoice_41 : decode cX3_runChoice 41 = .ok (.aload_n 0, 1) := by decide +kernel
theorem dX3_runChoice_42 : decode cX3_runChoice 42 = .ok (.invokevirtual 60, 3) := by decide +kernel
theorem dX3_runChoice_45 : decode cX3_runChoice 45 = .ok (.pop, 1) := by decide +kernel
theorem dX3_runChoice_46 : decode cX3_runChoice 46 = .ok (.aload_n 0, 1) := by decide +kernel
theorem dX3_runChoice_47 : decode cX3_runChoice 47 = .ok (.iload_n 1, 1) := by decide +kernel
theorem dX3_runChoice_48 : decode cX3_runChoice 48 = .ok (.ifCond .eq 11, 3) := by decide +kernel
theorem dX3_runChoice_51 : decode cX3_runChoice 51 = .ok (.iload_n 3, 1) := by decide +kernel
theorem dX3_runChoice_52 : decode cX3_runChoice 52 = .ok (.ifCond .ne 7, 3) := by decide +kernel
theorem dX3_runChoice_55 : decode cX3_runChoice 55 = .ok (.iconst 1, 1) := by decide +kernel
theorem dX3_runChoice_56 : decode cX3_runChoice 56 = .ok (.goto 4, 3) := by decide +kernel
theorem dX3_runChoice_59 : decode cX3_runChoice 59 = .ok (.iconst 0, 1) := by decide +kernel
theorem dX3_runChoice_60 : decode cX3_runChoice 60 = .ok (.iload_n 2, 1) := by decide +kernel
theorem dX3_runChoice_61 : decode cX3_runChoice 61 = .ok (.invokevirtual 57, 3) := by decide +kernel
theorem dX3_runChoice_64 : decode cX3_runChoice 64 = .ok (.return_, 1) := by decide +kernel
theorem dX3_sum_0 : decode cX3_sum 0 = .ok (.aload_n 0, 1) := by decide +kernel
theorem dX3_sum_1 : decode cX3_sum 1 = .ok (.iload_n 1, 1) := by decide +kernel
theorem dX3_sum_2 : decode cX3_sum 2 = .ok (.invokevirtual 78, 3) := by decide +kernel
theorem dX3_sum_5 : decode cX3_sum 5 = .ok (.istore_n 2, 1) := by decide +kernel
theorem dX3_sum_6 : decode cX3_sum 6 = .ok (.iconst 0, 1) := by decide +kernel
theorem dX3_sum_7 : decode cX3_sum 7 = .ok (.istore_n 3, 1) := by decide +kernel
theorem dX3_sum_8 : decode cX3_sum 8 = .ok (.iload_n 3, 1) := by decide +kernel
theorem dX3_sum_9 : decode cX3_sum 9 = .ok (.bipush 80, 2) := by decide +kernel
theorem dX3_sum_11 : decode cX3_sum 11 = .ok (.if_icmp .ge 55, 3) := by decide +kernel
theorem dX3_sum_14 : decode cX3_sum 14 = .ok (.aload_n 0, 1) := by decide +kernel
theorem dX3_sum_15 : decode cX3_sum 15 = .ok (.invokevirtual 49, 3) := by decide +kernel
theorem dX3_sum_18 : decode cX3_sum 18 = .ok (.bipush 43, 2) := by decide +kernel
theorem dX3_sum_20 : decode cX3_sum 20 = .ok (.if_icmp .eq 12, 3) := by decide +kernel
theorem dX3_sum_23 : decode cX3_sum 23 = .ok (.aload_n 0, 1) := by decide +kernel
theorem dX3_sum_24 : decode cX3_sum 24 = .ok (.invokevirtual 49, 3) := by decide +kernel
theorem dX3_sum_27 : decode cX3_sum 27 = .ok (.bipush 45, 2) := by decide +kernel
theorem dX3_sum_29 : decode cX3_sum 29 = .ok (.if_icmp .ne 37, 3) := by decide +kernel
theorem dX3_sum_32 : decode cX3_sum 32 = .ok (.aload_n 0, 1) := by decide +kernel
theorem dX3_sum_33 : decode cX3_sum 33 = .ok (.invokevirtual 60, 3) := by decide +kernel
theorem dX3_sum_36 : decode cX3_sum 36 = .ok (.bipush 43, 2) := by decide +kernel
theorem dX3_sum_38 : decode cX3_sum 38 = .ok (.if_icmp .ne 14, 3) := by decide +kernel
theorem dX3_sum_41 : decode cX3_sum 41 = .ok (.iload_n 2, 1) := by decide +kernel
theorem dX3_sum_42 : decode cX3_sum 42 = .ok (.aload_n 0, 1) := by decide +kernel
theorem dX3_sum_43 : decode cX3_sum 43 = .ok (.iload_n 1, 1) := by decide +kernel
theorem dX3_sum_44 : decode cX3_sum 44 = .ok (.invokevirtual 78, 3) := by decide +kernel
theorem dX3_sum_47 : decode cX3_sum 47 = .ok (.iadd, 1) := by decide +kernel
theorem dX3_sum_48 : decode cX3_sum 48 = .ok (.istore_n 2, 1) := by decide +kernel
theorem dX3_sum_49 : decode cX3_sum 49 = .ok (.goto 11, 3) := by decide +kernel
theorem dX3_sum_52 : decode cX3_sum 52 = .ok (.iload_n 2, 1) := by decide +kernel
theorem dX3_sum_53 : decode cX3_sum 53 = .ok (.aload_n 0, 1) := by decide +kernel
theorem dX3_sum_54 : decode cX3_sum 54 = .ok (.iload_n 1, 1) := by decide +kernel
theorem dX3_sum_55 : decode cX3_sum 55 = .ok (.invokevirtual 78, 3) := by decide +kernel
theorem dX3_sum_58 : decode cX3_sum 58 = .ok (.isub, 1) := by decide +kernel
theorem dX3_sum_59 : decode cX3_sum 59 = .ok (.istore_n 2, 1) := by decide +kernel
theorem dX3_sum_60 : decode cX3_sum 60 = .ok (.iinc 3 1, 3) := by decide +kernel
theorem dX3_sum_63 : decode cX3_sum 63 = .ok (.goto (-55), 3) := by decide +kernel
theorem dX3_sum_66 : decode cX3_sum 66 = .ok (.iload_n 2, 1) := by decide +kernel
theorem dX3_sum_67 : decode cX3_sum 67 = .ok (.ireturn, 1) := by decide +kernel
theorem dX3_product_0 : decode cX3_product 0 = .ok (.aload_n 0, 1) := by decide +kernel
theorem dX3_product_1 : decode cX3_product 1 = .ok (.iload_n 1, 1) := by decide +kernel
theorem dX3_product_2 : decode cX3_product 2 = .ok (.invokevirtual 81, 3) := by decide +kernel
theorem dX3_product_5 : decode cX3_product 5 = .ok (.istore_n 2, 1) := by decide +kernel
theorem dX3_product_6 : decode cX3_product 6 = .ok (.iconst 0, 1) := by decide +kernel
theorem dX3_product_7 : decode cX3_product 7 = .ok (.istore_n 3, 1) := by decide +kernel
theorem dX3_product_8 : decode cX3_product 8 = .ok (.iload_n 3, 1) := by decide +kernel
theorem dX3_product_9 : decode cX3_product 9 = .ok (.bipush 80, 2) := by decide +kernel
theorem dX3_product_11 : decode cX3_product 11 = .ok (.if_icmp .ge 31, 3) := by decide +kernel
theorem dX3_product_14 : decode cX3_product 14 = .ok (.aload_n 0, 1) := by decide +kernel
theorem dX3_product_15 : decode cX3_product 15 = .ok (.invokevirtual 49, 3) := by decide +kernel
theorem dX3_product_18 : decode cX3_product 18 = .ok (.bipush 42, 2) := by decide +kernel
theorem dX3_product_20 : decode cX3_product 20 = .ok (.if_icmp .ne 22, 3) := by decide +kernel
theorem dX3_product_23 : decode cX3_product 23 = .ok (.aload_n 0, 1) := by decide +kernel
theorem dX3_product_24 : decode cX3_product 24 = .ok (.invokevirtual 60, 3) := by decide +kernel
theorem dX3_product_27 : decode cX3_product 27 = .ok (.pop, 1) := by decide +kernel
theorem dX3_product_28 : decode cX3_product 28 = .ok (.iload_n 2, 1) := by decide +kernel
theorem dX3_product_29 : decode cX3_product 29 = .ok (.aload_n 0, 1) := by decide +kernel
theorem dX3_product_30 : decode cX3_product 30 = .ok (.iload_n 1, 1) := by decide +kernel
theorem dX3_product_31 : decode cX3_product 31 = .ok (.invokevirtual 81, 3) := by decide +kernel
theorem dX3_product_34 : decode cX3_product 34 = .ok (.imul, 1) := by decide +kernel
theorem dX3_product_35 : decode cX3_product 35 = .ok (.istore_n 2, 1) := by decide +kernel
theorem dX3_product_36 : decode cX3_product 36 = .ok (.iinc 3 1, 3) := by decide +kernel
theorem dX3_product_39 : decode cX3_product 39 = .ok (.goto (-31), 3) := by decide +kernel
theorem dX3_product_42 : decode cX3_product 42 = .ok (.iload_n 2, 1) := by decide +kernel
theorem dX3_product_43 : decode cX3_product 43 = .ok (.ireturn, 1) := by decide +kernel
theorem dX3_factor_0 : decode cX3_factor 0 = .ok (.iconst 0, 1) := by decide +kernel
theorem dX3_factor_1 : decode cX3_factor 1 = .ok (.istore_n 2, 1) := by decide +kernel
theorem dX3_factor_2 : decode cX3_factor 2 = .ok (.iconst 0, 1) := by decide +kernel
theorem dX3_factor_3 : decode cX3_factor 3 = .ok (.istore_n 3, 1) := by decide +kernel
theorem dX3_factor_4 : decode cX3_factor 4 = .ok (.iload_n 3, 1) := by decide +kernel
theorem dX3_factor_5 : decode cX3_factor 5 = .ok (.bipush 80, 2) := by decide +kernel
theorem dX3_factor_7 : decode cX3_factor 7 = .ok (.if_icmp .ge 33, 3) := by decide +kernel
theorem dX3_factor_10 : decode cX3_factor 10 = .ok (.aload_n 0, 1) := by decide +kernel
theorem dX3_factor_11 : decode cX3_factor 11 = .ok (.invokevirtual 49, 3) := by decide +kernel
theorem dX3_factor_14 : decode cX3_factor 14 = .ok (.bipush 45, 2) := by decide +kernel
theorem dX3_factor_16 : decode cX3_factor 16 = .ok (.if_icmp .ne 24, 3) := by decide +kernel
theorem dX3_factor_19 : decode cX3_factor 19 = .ok (.aload_n 0, 1) := by decide +kernel
theorem dX3_factor_20 : decode cX3_factor 20 = .ok (.invokevirtual 60, 3) := by decide +kernel
theorem dX3_factor_23 : decode cX3_factor 23 = .ok (.pop, 1) := by decide +kernel
theorem dX3_factor_24 : decode cX3_factor 24 = .ok (.iload_n 2, 1) := by decide +kernel
theorem dX3_factor_25 : decode cX3_factor 25 = .ok (.ifCond .ne 7, 3) := by decide +kernel
theorem dX3_factor_28 : decode cX3_factor 28 = .ok (.iconst 1, 1) := by decide +kernel
theorem dX3_factor_29 : decode cX3_factor 29 = .ok (.goto 4, 3) := by decide +kernel
theorem dX3_factor_32 : decode cX3_factor 32 = .ok (.iconst 0, 1) := by decide +kernel
theorem dX3_factor_33 : decode cX3_factor 33 = .ok (.istore_n 2, 1) := by decide +kernel
theorem dX3_factor_34 : decode cX3_factor 34 = .ok (.iinc 3 1, 3) := by decide +kernel
theorem dX3_factor_37 : decode cX3_factor 37 = .ok (.goto (-33), 3) := by decide +kernel
theorem dX3_factor_40 : decode cX3_factor 40 = .ok (.aload_n 0, 1) := by decide +kernel
theorem dX3_factor_41 : decode cX3_factor 41 = .ok (.iload_n 1, 1) := by decide +kernel
theorem dX3_factor_42 : decode cX3_factor 42 = .ok (.invokevirtual 84, 3) := by decide +kernel
theorem dX3_factor_45 : decode cX3_factor 45 = .ok (.istore_n 3, 1) := by decide +kernel
theorem dX3_factor_46 : decode cX3_factor 46 = .ok (.iload_n 2, 1) := by decide +kernel
theorem dX3_factor_47 : decode cX3_factor 47 = .ok (.ifCond .eq 8, 3) := by decide +kernel
theorem dX3_factor_50 : decode cX3_factor 50 = .ok (.iload_n 3, 1) := by decide +kernel
theorem dX3_factor_51 : decode cX3_factor 51 = .ok (.ineg, 1) := by decide +kernel
theorem dX3_factor_52 : decode cX3_factor 52 = .ok (.goto 4, 3) := by decide +kernel
theorem dX3_factor_55 : decode cX3_factor 55 = .ok (.iload_n 3, 1) := by decide +kernel
theorem dX3_factor_56 : decode cX3_factor 56 = .ok (.ireturn, 1) := by decide +kernel
theorem dX3_operand_0 : decode cX3_operand 0 = .ok (.aload_n 0, 1) := by decide +kernel
theorem dX3_operand_1 : decode cX3_operand 1 = .ok (.invokevirtual 60, 3) := by decide +kernel
theorem dX3_operand_4 : decode cX3_operand 4 = .ok (.istore_n 2, 1) := by decide +kernel
theorem dX3_operand_5 : decode cX3_operand 5 = .ok (.iload_n 2, 1) := by decide +kernel
theorem dX3_operand_6 : decode cX3_operand 6 = .ok (.invokestatic 87, 3) := by decide +kernel
theorem dX3_operand_9 : decode cX3_operand 9 = .ok (.ifCond .eq 8, 3) := by decide +kernel
theorem dX3_operand_12 : decode cX3_operand 12 = .ok (.iload_n 2, 1) := by decide +kernel
theorem dX3_operand_13 : decode cX3_operand 13 = .ok (.bipush 48, 2) := by decide +kernel
theorem dX3_operand_15 : decode cX3_operand 15 = .ok (.isub, 1) := by decide +kernel
theorem dX3_operand_16 : decode cX3_operand 16 = .ok (.ireturn, 1) := by decide +kernel
theorem dX3_operand_17 : decode cX3_operand 17 = .ok (.iload_n 2, 1) := by decide +kernel
theorem dX3_operand_18 : decode cX3_operand 18 = .ok (.invokestatic 90, 3) := by decide +kernel
theorem dX3_operand_21 : decode cX3_operand 21 = .ok (.ifCond .eq 13, 3) := by decide +kernel
theorem dX3_operand_24 : decode cX3_operand 24 = .ok (.aload_n 0, 1) := by decide +kernel
theorem dX3_operand_25 : decode cX3_operand 25 = .ok (.getfield 15, 3) := by decide +kernel
theorem dX3_operand_28 : decode cX3_operand 28 = .ok (.iload_n 2, 1) := by decide +kernel
theorem dX3_operand_29 : decode cX3_operand 29 = .ok (.bipush 97, 2) := by decide +kernel
theorem dX3_operand_31 : decode cX3_operand 31 = .ok (.isub, 1) := by decide +kernel
theorem dX3_operand_32 : decode cX3_operand 32 = .ok (.iaload, 1) := by decide +kernel
theorem dX3_operand_33 : decode cX3_operand 33 = .ok (.ireturn, 1) := by decide +kernel
theorem dX3_operand_34 : decode cX3_operand 34 = .ok (.iload_n 1, 1) := by decide +kernel
theorem dX3_operand_35 : decode cX3_operand 35 = .ok (.bipush 40, 2) := by decide +kernel
theorem dX3_operand_37 : decode cX3_operand 37 = .ok (.if_icmp .le 5, 3) := by decide +kernel
theorem dX3_operand_40 : decode cX3_operand 40 = .ok (.iconst 0, 1) := by decide +kernel
theorem dX3_operand_41 : decode cX3_operand 41 = .ok (.ireturn, 1) := by decide +kernel
theorem dX3_operand_42 : decode cX3_operand 42 = .ok (.aload_n 0, 1) := by decide +kernel
theorem dX3_operand_43 : decode cX3_operand 43 = .ok (.iload_n 1, 1) := by decide +kernel
theorem dX3_operand_44 : decode cX3_operand 44 = .ok (.iconst 1, 1) := by decide +kernel
theorem dX3_operand_45 : decode cX3_operand 45 = .ok (.iadd, 1) := by decide +kernel
theorem dX3_operand_46 : decode cX3_operand 46 = .ok (.invokevirtual 66, 3) := by decide +kernel
theorem dX3_operand_49 : decode cX3_operand 49 = .ok (.istore_n 3, 1) := by decide +kernel
theorem dX3_operand_50 : decode cX3_operand 50 = .ok (.aload_n 0, 1) := by decide +kernel
theorem dX3_operand_51 : decode cX3_operand 51 = .ok (.invokevirtual 60, 3) := by decide +kernel
theorem dX3_operand_54 : decode cX3_operand 54 = .ok (.pop, 1) := by decide +kernel
theorem dX3_operand_55 : decode cX3_operand 55 = .ok (.iload_n 3, 1) := by decide +kernel
