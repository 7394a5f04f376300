theorem dX8_drop_29 : decode cX8_drop 29 = .ok (.getfield 47, 3) := by decide +kernel
theorem dX8_drop_32 : decode cX8_drop 32 = .ok (.ireturn, 1) := by decide +kernel
theorem dX8_replace_0 : decode cX8_replace 0 = .ok (.aload_n 0, 1) := by decide +kernel
theorem dX8_replace_1 : decode cX8_replace 1 = .ok (.iconst 0, 1) := by decide +kernel
theorem dX8_replace_2 : decode cX8_replace 2 = .ok (.putfield 43, 3) := by decide +kernel
theorem dX8_replace_5 : decode cX8_replace 5 = .ok (.aload_n 0, 1) := by decide +kernel
theorem dX8_replace_6 : decode cX8_replace 6 = .ok (.iload_n 1, 1) := by decide +kernel
theorem dX8_replace_7 : decode cX8_replace 7 = .ok (.invokevirtual 87, 3) := by decide +kernel
theorem dX8_replace_10 : decode cX8_replace 10 = .ok (.ifCond .ne 9, 3) := by decide +kernel
theorem dX8_replace_13 : decode cX8_replace 13 = .ok (.aload_n 0, 1) := by decide +kernel
theorem dX8_replace_14 : decode cX8_replace 14 = .ok (.iconst 1, 1) := by decide +kernel
theorem dX8_replace_15 : decode cX8_replace 15 = .ok (.invokevirtual 68, 3) := by decide +kernel
theorem dX8_replace_18 : decode cX8_replace 18 = .ok (.ireturn, 1) := by decide +kernel
theorem dX8_replace_19 : decode cX8_replace 19 = .ok (.aload_n 0, 1) := by decide +kernel
theorem dX8_replace_20 : decode cX8_replace 20 = .ok (.iload_n 1, 1) := by decide +kernel
theorem dX8_replace_21 : decode cX8_replace 21 = .ok (.invokevirtual 90, 3) := by decide +kernel
theorem dX8_replace_24 : decode cX8_replace 24 = .ok (.ifCond .ne 9, 3) := by decide +kernel
theorem dX8_replace_27 : decode cX8_replace 27 = .ok (.aload_n 0, 1) := by decide +kernel
theorem dX8_replace_28 : decode cX8_replace 28 = .ok (.iconst 2, 1) := by decide +kernel
theorem dX8_replace_29 : decode cX8_replace 29 = .ok (.invokevirtual 68, 3) := by decide +kernel
theorem dX8_replace_32 : decode cX8_replace 32 = .ok (.ireturn, 1) := by decide +kernel
theorem dX8_replace_33 : decode cX8_replace 33 = .ok (.iload_n 2, 1) := by decide +kernel
theorem dX8_replace_34 : decode cX8_replace 34 = .ok (.invokestatic 64, 3) := by decide +kernel
theorem dX8_replace_37 : decode cX8_replace 37 = .ok (.ifCond .ne 9, 3) := by decide +kernel
theorem dX8_replace_40 : decode cX8_replace 40 = .ok (.aload_n 0, 1) := by decide +kernel
theorem dX8_replace_41 : decode cX8_replace 41 = .ok (.iconst 3, 1) := by decide +kernel
theorem dX8_replace_42 : decode cX8_replace 42 = .ok (.invokevirtual 68, 3) := by decide +kernel
theorem dX8_replace_45 : decode cX8_replace 45 = .ok (.ireturn, 1) := by decide +kernel
theorem dX8_replace_46 : decode cX8_replace 46 = .ok (.aload_n 0, 1) := by decide +kernel
theorem dX8_replace_47 : decode cX8_replace 47 = .ok (.getfield 9, 3) := by decide +kernel
theorem dX8_replace_50 : decode cX8_replace 50 = .ok (.iload_n 1, 1) := by decide +kernel
theorem dX8_replace_51 : decode cX8_replace 51 = .ok (.iaload, 1) := by decide +kernel
theorem dX8_replace_52 : decode cX8_replace 52 = .ok (.istore_n 3, 1) := by decide +kernel
theorem dX8_replace_53 : decode cX8_replace 53 = .ok (.aload_n 0, 1) := by decide +kernel
theorem dX8_replace_54 : decode cX8_replace 54 = .ok (.getfield 9, 3) := by decide +kernel
theorem dX8_replace_57 : decode cX8_replace 57 = .ok (.iload_n 1, 1) := by decide +kernel
theorem dX8_replace_58 : decode cX8_replace 58 = .ok (.iload_n 2, 1) := by decide +kernel
theorem dX8_replace_59 : decode cX8_replace 59 = .ok (.iastore, 1) := by decide +kernel
theorem dX8_replace_60 : decode cX8_replace 60 = .ok (.iload_n 3, 1) := by decide +kernel
theorem dX8_replace_61 : decode cX8_replace 61 = .ok (.ireturn, 1) := by decide +kernel
theorem dX8_size_0 : decode cX8_size 0 = .ok (.aload_n 0, 1) := by decide +kernel
theorem dX8_size_1 : decode cX8_size 1 = .ok (.iconst 0, 1) := by decide +kernel
theorem dX8_size_2 : decode cX8_size 2 = .ok (.putfield 43, 3) := by decide +kernel
theorem dX8_size_5 : decode cX8_size 5 = .ok (.aload_n 0, 1) := by decide +kernel
theorem dX8_size_6 : decode cX8_size 6 = .ok (.getfield 47, 3) := by decide +kernel
theorem dX8_size_9 : decode cX8_size 9 = .ok (.ireturn, 1) := by decide +kernel
theorem dX8_item_0 : decode cX8_item 0 = .ok (.aload_n 0, 1) := by decide +kernel
theorem dX8_item_1 : decode cX8_item 1 = .ok (.iconst 0, 1) := by decide +kernel
theorem dX8_item_2 : decode cX8_item 2 = .ok (.putfield 43, 3) := by decide +kernel
theorem dX8_item_5 : decode cX8_item 5 = .ok (.aload_n 0, 1) := by decide +kernel
theorem dX8_item_6 : decode cX8_item 6 = .ok (.iload_n 1, 1) := by decide +kernel
theorem dX8_item_7 : decode cX8_item 7 = .ok (.invokevirtual 87, 3) := by decide +kernel
theorem dX8_item_10 : decode cX8_item 10 = .ok (.ifCond .eq 12, 3) := by decide +kernel
theorem dX8_item_13 : decode cX8_item 13 = .ok (.aload_n 0, 1) := by decide +kernel
theorem dX8_item_14 : decode cX8_item 14 = .ok (.getfield 9, 3) := by decide +kernel
theorem dX8_item_17 : decode cX8_item 17 = .ok (.iload_n 1, 1) := by decide +kernel
theorem dX8_item_18 : decode cX8_item 18 = .ok (.iaload, 1) := by decide +kernel
theorem dX8_item_19 : decode cX8_item 19 = .ok (.goto 8, 3) := by decide +kernel
theorem dX8_item_22 : decode cX8_item 22 = .ok (.aload_n 0, 1) := by decide +kernel
theorem dX8_item_23 : decode cX8_item 23 = .ok (.iconst 1, 1) := by decide +kernel
theorem dX8_item_24 : decode cX8_item 24 = .ok (.invokevirtual 68, 3) := by decide +kernel
theorem dX8_item_27 : decode cX8_item 27 = .ok (.ireturn, 1) := by decide +kernel
theorem dX8_unfinished_0 : decode cX8_unfinished 0 = .ok (.aload_n 0, 1) := by decide +kernel
theorem dX8_unfinished_1 : decode cX8_unfinished 1 = .ok (.iconst 0, 1) := by decide +kernel
theorem dX8_unfinished_2 : decode cX8_unfinished 2 = .ok (.putfield 43, 3) := by decide +kernel
theorem dX8_unfinished_5 : decode cX8_unfinished 5 = .ok (.aload_n 0, 1) := by decide +kernel
theorem dX8_unfinished_6 : decode cX8_unfinished 6 = .ok (.invokevirtual 77, 3) := by decide +kernel
theorem dX8_unfinished_9 : decode cX8_unfinished 9 = .ok (.ireturn, 1) := by decide +kernel
theorem dX8_look_0 : decode cX8_look 0 = .ok (.iconst 4, 1) := by decide +kernel
theorem dX8_look_1 : decode cX8_look 1 = .ok (.newarray .int, 2) := by decide +kernel
theorem dX8_look_3 : decode cX8_look 3 = .ok (.astore_n 1, 1) := by decide +kernel
theorem dX8_look_4 : decode cX8_look 4 = .ok (.iconst 0, 1) := by decide +kernel
theorem dX8_look_5 : decode cX8_look 5 = .ok (.istore_n 2, 1) := by decide +kernel
theorem dX8_look_6 : decode cX8_look 6 = .ok (.iload_n 2, 1) := by decide +kernel
theorem dX8_look_7 : decode cX8_look 7 = .ok (.bipush 16, 2) := by decide +kernel
theorem dX8_look_9 : decode cX8_look 9 = .ok (.if_icmp .ge 39, 3) := by decide +kernel
theorem dX8_look_12 : decode cX8_look 12 = .ok (.iconst 0, 1) := by decide +kernel
theorem dX8_look_13 : decode cX8_look 13 = .ok (.istore_n 3, 1) := by decide +kernel
theorem dX8_look_14 : decode cX8_look 14 = .ok (.iload_n 3, 1) := by decide +kernel
theorem dX8_look_15 : decode cX8_look 15 = .ok (.iconst 4, 1) := by decide +kernel
theorem dX8_look_16 : decode cX8_look 16 = .ok (.if_icmp .ge 26, 3) := by decide +kernel
theorem dX8_look_19 : decode cX8_look 19 = .ok (.iload_n 2, 1) := by decide +kernel
theorem dX8_look_20 : decode cX8_look 20 = .ok (.iload_n 3, 1) := by decide +kernel
theorem dX8_look_21 : decode cX8_look 21 = .ok (.invokestatic 93, 3) := by decide +kernel
theorem dX8_look_24 : decode cX8_look 24 = .ok (.ifCond .eq 12, 3) := by decide +kernel
theorem dX8_look_27 : decode cX8_look 27 = .ok (.aload_n 1, 1) := by decide +kernel
theorem dX8_look_28 : decode cX8_look 28 = .ok (.iload_n 3, 1) := by decide +kernel
theorem dX8_look_29 : decode cX8_look 29 = .ok (.dup2, 1) := by decide +kernel
theorem dX8_look_30 : decode cX8_look 30 = .ok (.iaload, 1) := by decide +kernel
theorem dX8_look_31 : decode cX8_look 31 = .ok (.iconst 1, 1) := by decide +kernel
theorem dX8_look_32 : decode cX8_look 32 = .ok (.iload_n 2, 1) := by decide +kernel
theorem dX8_look_33 : decode cX8_look 33 = .ok (.ishl, 1) := by decide +kernel
theorem dX8_look_34 : decode cX8_look 34 = .ok (.ior, 1) := by decide +kernel
theorem dX8_look_35 : decode cX8_look 35 = .ok (.iastore, 1) := by decide +kernel
theorem dX8_look_36 : decode cX8_look 36 = .ok (.iinc 3 1, 3) := by decide +kernel
theorem dX8_look_39 : decode cX8_look 39 = .ok (.goto (-25), 3) := by decide +kernel
theorem dX8_look_42 : decode cX8_look 42 = .ok (.iinc 2 1, 3) := by decide +kernel
theorem dX8_look_45 : decode cX8_look 45 = .ok (.goto (-39), 3) := by decide +kernel
theorem dX8_look_48 : decode cX8_look 48 = .ok (.ldc 97, 2) := by decide +kernel
theorem dX8_look_50 : decode cX8_look 50 = .ok (.istore_n 2, 1) := by decide +kernel
theorem dX8_look_51 : decode cX8_look 51 = .ok (.iconst 5, 1) := by decide +kernel
theorem dX8_look_52 : decode cX8_look 52 = .ok (.newarray .int, 2) := by decide +kernel
theorem dX8_look_54 : decode cX8_look 54 = .ok (.astore_n 3, 1) := by decide +kernel
theorem dX8_look_55 : decode cX8_look 55 = .ok (.iconst 5, 1) := by decide +kernel
theorem dX8_look_56 : decode cX8_look 56 = .ok (.newarray .int, 2) := by decide +kernel
theorem dX8_look_58 : decode cX8_look 58 = .ok (.astore 4, 2) := by decide +kernel
theorem dX8_look_60 : decode cX8_look 60 = .ok (.iconst 0, 1) := by decide +kernel
theorem dX8_look_61 : decode cX8_look 61 = .ok (.istore 5, 2) := by decide +kernel
theorem dX8_look_63 : decode cX8_look 63 = .ok (.iconst 0, 1) := by decide +kernel
theorem dX8_look_64 : decode cX8_look 64 = .ok (.istore 6, 2) := by decide +kernel
theorem dX8_look_66 : decode cX8_look 66 = .ok (.iload 6, 2) := by decide +kernel
theorem dX8_look_68 : decode cX8_look 68 = .ok (.aload_n 0, 1) := by decide +kernel
theorem dX8_look_69 : decode cX8_look 69 = .ok (.getfield 47, 3) := by decide +kernel
theorem dX8_look_72 : decode cX8_look 72 = .ok (.if_icmp .ge 265, 3) := by decide +kernel
theorem dX8_look_75 : decode cX8_look 75 = .ok (.iconst 0, 1) := by decide +kernel
theorem dX8_look_76 : decode cX8_look 76 = .ok (.istore 7, 2) := by decide +kernel
theorem dX8_look_78 : decode cX8_look 78 = .ok (.iload 7, 2) := by decide +kernel
theorem dX8_look_80 : decode cX8_look 80 = .ok (.iconst 4, 1) := by decide +kernel
theorem dX8_look_81 : decode cX8_look 81 = .ok (.if_icmp .ge 25, 3) := by decide +kernel
theorem dX8_look_84 : decode cX8_look 84 = .ok (.aload_n 0, 1) := by decide +kernel
theorem dX8_look_85 : decode cX8_look 85 = .ok (.getfield 16, 3) := by decide +kernel
theorem dX8_look_88 : decode cX8_look 88 = .ok (.iconst 4, 1) := by decide +kernel
theorem dX8_look_89 : decode cX8_look 89 = .ok (.iload 6, 2) := by decide +kernel
theorem dX8_look_91 : decode cX8_look 91 = .ok (.imul, 1) := by decide +kernel
theorem dX8_look_92 : decode cX8_look 92 = .ok (.iload 7, 2) := by decide +kernel
theorem dX8_look_94 : decode cX8_look 94 = .ok (.iadd, 1) := by decide +kernel
theorem dX8_look_95 : decode cX8_look 95 = .ok (.aload_n 1, 1) := by decide +kernel
theorem dX8_look_96 : decode cX8_look 96 = .ok (.iload 7, 2) := by decide +kernel
theorem dX8_look_98 : decode cX8_look 98 = .ok (.iaload, 1) := by decide +kernel
theorem dX8_look_99 : decode cX8_look 99 = .ok (.iastore, 1) := by decide +kernel
theorem dX8_look_100 : decode cX8_look 100 = .ok (.iinc 7 1, 3) := by decide +kernel
theorem dX8_look_103 : decode cX8_look 103 = .ok (.goto (-25), 3) := by decide +kernel
theorem dX8_look_106 : decode cX8_look 106 = .ok (.aload_n 0, 1) := by decide +kernel
theorem dX8_look_107 : decode cX8_look 107 = .ok (.getfield 13, 3) := by decide +kernel
theorem dX8_look_110 : decode cX8_look 110 = .ok (.iload 6, 2) := by decide +kernel
theorem dX8_look_112 : decode cX8_look 112 = .ok (.aload_n 0, 1) := by decide +kernel
theorem dX8_look_113 : decode cX8_look 113 = .ok (.getfield 9, 3) := by decide +kernel
theorem dX8_look_116 : decode cX8_look 116 = .ok (.iload 6, 2) := by decide +kernel
theorem dX8_look_118 : decode cX8_look 118 = .ok (.iaload, 1) := by decide +kernel
theorem dX8_look_119 : decode cX8_look 119 = .ok (.bipush 16, 2) := by decide +kernel
theorem dX8_look_121 : decode cX8_look 121 = .ok (.if_icmp .eq 15, 3) := by decide +kernel
theorem dX8_look_124 : decode cX8_look 124 = .ok (.aload_n 0, 1) := by decide +kernel
theorem dX8_look_125 : decode cX8_look 125 = .ok (.getfield 9, 3) := by decide +kernel
theorem dX8_look_128 : decode cX8_look 128 = .ok (.iload 6, 2) := by decide +kernel
theorem dX8_look_130 : decode cX8_look 130 = .ok (.iaload, 1) := by decide +kernel
theorem dX8_look_131 : decode cX8_look 131 = .ok (.bipush 17, 2) := by decide +kernel
theorem dX8_look_133 : decode cX8_look 133 = .ok (.if_icmp .ne 12, 3) := by decide +kernel
theorem dX8_look_136 : decode cX8_look 136 = .ok (.aload_n 3, 1) := by decide +kernel
theorem dX8_look_137 : decode cX8_look 137 = .ok (.iload 5, 2) := by decide +kernel
theorem dX8_look_139 : decode cX8_look 139 = .ok (.iconst 1, 1) := by decide +kernel
theorem dX8_look_140 : decode cX8_look 140 = .ok (.isub, 1) := by decide +kernel
theorem dX8_look_141 : decode cX8_look 141 = .ok (.iaload, 1) := by decide +kernel
theorem dX8_look_142 : decode cX8_look 142 = .ok (.goto 4, 3) := by decide +kernel
theorem dX8_look_145 : decode cX8_look 145 = .ok (.iload_n 2, 1) := by decide +kernel
theorem dX8_look_146 : decode cX8_look 146 = .ok (.iastore, 1) := by decide +kernel
theorem dX8_look_147 : decode cX8_look 147 = .ok (.aload_n 0, 1) := by decide +kernel
theorem dX8_look_148 : decode cX8_look 148 = .ok (.getfield 9, 3) := by decide +kernel
theorem dX8_look_151 : decode cX8_look 151 = .ok (.iload 6, 2) := by decide +kernel
theorem dX8_look_153 : decode cX8_look 153 = .ok (.iaload, 1) := by decide +kernel
theorem dX8_look_154 : decode cX8_look 154 = .ok (.bipush 17, 2) := by decide +kernel
theorem dX8_look_156 : decode cX8_look 156 = .ok (.if_icmp .ne 14, 3) := by decide +kernel
theorem dX8_look_159 : decode cX8_look 159 = .ok (.iinc 5 (-1), 3) := by decide +kernel
theorem dX8_look_162 : decode cX8_look 162 = .ok (.aload_n 3, 1) := by decide +kernel
theorem dX8_look_163 : decode cX8_look 163 = .ok (.iload 5, 2) := by decide +kernel
theorem dX8_look_165 : decode cX8_look 165 = .ok (.iaload, 1) := by decide +kernel
theorem dX8_look_166 : decode cX8_look 166 = .ok (.istore_n 2, 1) := by decide +kernel
theorem dX8_look_167 : decode cX8_look 167 = .ok (.goto 164, 3) := by decide +kernel
theorem dX8_look_170 : decode cX8_look 170 = .ok (.aload_n 0, 1) := by decide +kernel
theorem dX8_look_171 : decode cX8_look 171 = .ok (.getfield 9, 3) := by decide +kernel
theorem dX8_look_174 : decode cX8_look 174 = .ok (.iload 6, 2) := by decide +kernel
theorem dX8_look_176 : decode cX8_look 176 = .ok (.iaload, 1) := by decide +kernel
theorem dX8_look_177 : decode cX8_look 177 = .ok (.bipush 16, 2) := by decide +kernel
theorem dX8_look_179 : decode cX8_look 179 = .ok (.if_icmp .ne 23, 3) := by decide +kernel
theorem dX8_look_182 : decode cX8_look 182 = .ok (.aload_n 3, 1) := by decide +kernel
theorem dX8_look_183 : decode cX8_look 183 = .ok (.iload 5, 2) := by decide +kernel
theorem dX8_look_185 : decode cX8_look 185 = .ok (.iconst 1, 1) := by decide +kernel
theorem dX8_look_186 : decode cX8_look 186 = .ok (.isub, 1) := by decide +kernel
theorem dX8_look_187 : decode cX8_look 187 = .ok (.iaload, 1) := by decide +kernel
theorem dX8_look_188 : decode cX8_look 188 = .ok (.aload 4, 2) := by decide +kernel
theorem dX8_look_190 : decode cX8_look 190 = .ok (.iload 5, 2) := by decide +kernel
theorem dX8_look_192 : decode cX8_look 192 = .ok (.iconst 1, 1) := by decide +kernel
theorem dX8_look_193 : decode cX8_look 193 = .ok (.isub, 1) := by decide +kernel
theorem dX8_look_194 : decode cX8_look 194 = .ok (.iaload, 1) := by decide +kernel
theorem dX8_look_195 : decode cX8_look 195 = .ok (.iconst (-1), 1) := by decide +kernel
theorem dX8_look_196 : decode cX8_look 196 = .ok (.ixor, 1) := by decide +kernel
theorem dX8_look_197 : decode cX8_look 197 = .ok (.iand, 1) := by decide +kernel
theorem dX8_look_198 : decode cX8_look 198 = .ok (.istore_n 2, 1) := by decide +kernel
theorem dX8_look_199 : decode cX8_look 199 = .ok (.goto 132, 3) := by decide +kernel
theorem dX8_look_202 : decode cX8_look 202 = .ok (.aload_n 0, 1) := by decide +kernel
theorem dX8_look_203 : decode cX8_look 203 = .ok (.getfield 9, 3) := by decide +kernel
theorem dX8_look_206 : decode cX8_look 206 = .ok (.iload 6, 2) := by decide +kernel
theorem dX8_look_208 : decode cX8_look 208 = .ok (.iaload, 1) := by decide +kernel
theorem dX8_look_209 : decode cX8_look 209 = .ok (.bipush 8, 2) := by decide +kernel
theorem dX8_look_211 : decode cX8_look 211 = .ok (.if_icmp .ge 60, 3) := by decide +kernel
theorem dX8_look_214 : decode cX8_look 214 = .ok (.aload_n 0, 1) := by decide +kernel
theorem dX8_look_215 : decode cX8_look 215 = .ok (.getfield 9, 3) := by decide +kernel
theorem dX8_look_218 : decode cX8_look 218 = .ok (.iload 6, 2) := by decide +kernel
theorem dX8_look_220 : decode cX8_look 220 = .ok (.iaload, 1) := by decide +kernel
theorem dX8_look_221 : decode cX8_look 221 = .ok (.iconst 2, 1) := by decide +kernel
theorem dX8_look_222 : decode cX8_look 222 = .ok (.idiv, 1) := by decide +kernel
theorem dX8_look_223 : decode cX8_look 223 = .ok (.istore 7, 2) := by decide +kernel
theorem dX8_look_225 : decode cX8_look 225 = .ok (.aload_n 3, 1) := by decide +kernel
theorem dX8_look_226 : decode cX8_look 226 = .ok (.iload 5, 2) := by decide +kernel
theorem dX8_look_228 : decode cX8_look 228 = .ok (.iload_n 2, 1) := by decide +kernel
theorem dX8_look_229 : decode cX8_look 229 = .ok (.iastore, 1) := by decide +kernel
theorem dX8_look_230 : decode cX8_look 230 = .ok (.iload_n 2, 1) := by decide +kernel
theorem dX8_look_231 : decode cX8_look 231 = .ok (.aload_n 0, 1) := by decide +kernel
theorem dX8_look_232 : decode cX8_look 232 = .ok (.getfield 9, 3) := by decide +kernel
theorem dX8_look_235 : decode cX8_look 235 = .ok (.iload 6, 2) := by decide +kernel
theorem dX8_look_237 : decode cX8_look 237 = .ok (.iaload, 1) := by decide +kernel
theorem dX8_look_238 : decode cX8_look 238 = .ok (.iconst 2, 1) := by decide +kernel
theorem dX8_look_239 : decode cX8_look 239 = .ok (.irem, 1) := by decide +kernel
theorem dX8_look_240 : decode cX8_look 240 = .ok (.iconst 1, 1) := by decide +kernel
theorem dX8_look_241 : decode cX8_look 241 = .ok (.if_icmp .ne 10, 3) := by decide +kernel
theorem dX8_look_244 : decode cX8_look 244 = .ok (.aload_n 1, 1) := by decide +kernel
theorem dX8_look_245 : decode cX8_look 245 = .ok (.iload 7, 2) := by decide +kernel
theorem dX8_look_247 : decode cX8_look 247 = .ok (.iaload, 1) := by decide +kernel
theorem dX8_look_248 : decode cX8_look 248 = .ok (.goto 9, 3) := by decide +kernel
theorem dX8_look_251 : decode cX8_look 251 = .ok (.aload_n 1, 1) := by decide +kernel
theorem dX8_look_252 : decode cX8_look 252 = .ok (.iload 7, 2) := by decide +kernel
theorem dX8_look_254 : decode cX8_look 254 = .ok (.iaload, 1) := by decide +kernel
theorem dX8_look_255 : decode cX8_look 255 = .ok (.iconst (-1), 1) := by decide +kernel
theorem dX8_look_256 : decode cX8_look 256 = .ok (.ixor, 1) := by decide +kernel
theorem dX8_look_257 : decode cX8_look 257 = .ok (.iand, 1) := by decide +kernel
theorem dX8_look_258 : decode cX8_look 258 = .ok (.istore_n 2, 1) := by decide +kernel
theorem dX8_look_259 : decode cX8_look 259 = .ok (.aload 4, 2) := by decide +kernel
theorem dX8_look_261 : decode cX8_look 261 = .ok (.iload 5, 2) := by decide +kernel
theorem dX8_look_263 : decode cX8_look 263 = .ok (.iload_n 2, 1) := by decide +kernel
theorem dX8_look_264 : decode cX8_look 264 = .ok (.iastore, 1) := by decide +kernel
theorem dX8_look_265 : decode cX8_look 265 = .ok (.iinc 5 1, 3) := by decide +kernel
theorem dX8_look_268 : decode cX8_look 268 = .ok (.goto 63, 3) := by decide +kernel
theorem dX8_look_271 : decode cX8_look 271 = .ok (.aload_n 0, 1) := by decide +kernel
theorem dX8_look_272 : decode cX8_look 272 = .ok (.getfield 9, 3) := by decide +kernel
theorem dX8_look_275 : decode cX8_look 275 = .ok (.iload 6, 2) := by decide +kernel
theorem dX8_look_277 : decode cX8_look 277 = .ok (.iaload, 1) := by decide +kernel
theorem dX8_look_278 : decode cX8_look 278 = .ok (.bipush 16, 2) := by decide +kernel
theorem dX8_look_280 : decode cX8_look 280 = .ok (.if_icmp .ge 51, 3) := by decide +kernel
theorem dX8_look_283 : decode cX8_look 283 = .ok (.aload_n 0, 1) := by decide +kernel
theorem dX8_look_284 : decode cX8_look 284 = .ok (.getfield 9, 3) := by decide +kernel
theorem dX8_look_287 : decode cX8_look 287 = .ok (.iload 6, 2) := by decide +kernel
theorem dX8_look_289 : decode cX8_look 289 = .ok (.iaload, 1) := by decide +kernel
theorem dX8_look_290 : decode cX8_look 290 = .ok (.bipush 8, 2) := by decide +kernel
theorem dX8_look_292 : decode cX8_look 292 = .ok (.isub, 1) := by decide +kernel
theorem dX8_look_293 : decode cX8_look 293 = .ok (.iconst 2, 1) := by decide +kernel
theorem dX8_look_294 : decode cX8_look 294 = .ok (.idiv, 1) := by decide +kernel
theorem dX8_look_295 : decode cX8_look 295 = .ok (.istore 7, 2) := by decide +kernel
theorem dX8_look_297 : decode cX8_look 297 = .ok (.aload_n 1, 1) := by decide +kernel
theorem dX8_look_298 : decode cX8_look 298 = .ok (.iload 7, 2) := by decide +kernel
theorem dX8_look_300 : decode cX8_look 300 = .ok (.aload_n 0, 1) := by decide +kernel
theorem dX8_look_301 : decode cX8_look 301 = .ok (.getfield 9, 3) := by decide +kernel
theorem dX8_look_304 : decode cX8_look 304 = .ok (.iload 6, 2) := by decide +kernel
theorem dX8_look_306 : decode cX8_look 306 = .ok (.iaload, 1) := by decide +kernel
theorem dX8_look_307 : decode cX8_look 307 = .ok (.iconst 2, 1) := by decide +kernel
theorem dX8_look_308 : decode cX8_look 308 = .ok (.irem, 1) := by decide +kernel
theorem dX8_look_309 : decode cX8_look 309 = .ok (.iconst 1, 1) := by decide +kernel
theorem dX8_look_310 : decode cX8_look 310 = .ok (.if_icmp .ne 12, 3) := by decide +kernel
theorem dX8_look_313 : decode cX8_look 313 = .ok (.aload_n 1, 1) := by decide +kernel
theorem dX8_look_314 : decode cX8_look 314 = .ok (.iload 7, 2) := by decide +kernel
theorem dX8_look_316 : decode cX8_look 316 = .ok (.iaload, 1) := by decide +kernel
theorem dX8_look_317 : decode cX8_look 317 = .ok (.iload_n 2, 1) := by decide +kernel
theorem dX8_look_318 : decode cX8_look 318 = .ok (.ior, 1) := by decide +kernel
theorem dX8_look_319 : decode cX8_look 319 = .ok (.goto 11, 3) := by decide +kernel
theorem dX8_look_322 : decode cX8_look 322 = .ok (.aload_n 1, 1) := by decide +kernel
theorem dX8_look_323 : decode cX8_look 323 = .ok (.iload 7, 2) := by decide +kernel
theorem dX8_look_325 : decode cX8_look 325 = .ok (.iaload, 1) := by decide +kernel
theorem dX8_look_326 : decode cX8_look 326 = .ok (.iload_n 2, 1) := by decide +kernel
theorem dX8_look_327 : decode cX8_look 327 = .ok (.iconst (-1), 1) := by decide +kernel
theorem dX8_look_328 : decode cX8_look 328 = .ok (.ixor, 1) := by decide +kernel
theorem dX8_look_329 : decode cX8_look 329 = .ok (.iand, 1) := by decide +kernel
theorem dX8_look_330 : decode cX8_look 330 = .ok (.iastore, 1) := by decide +kernel
theorem dX8_look_331 : decode cX8_look 331 = .ok (.iinc 6 1, 3) := by decide +kernel
theorem dX8_look_334 : decode cX8_look 334 = .ok (.goto (-268), 3) := by decide +kernel
theorem dX8_look_337 : decode cX8_look 337 = .ok (.return_, 1) := by decide +kernel
theorem dX8_presence_0 : decode cX8_presence 0 = .ok (.aload_n 0, 1) := by decide +kernel
theorem dX8_presence_1 : decode cX8_presence 1 = .ok (.iconst 0, 1) := by decide +kernel
theorem dX8_presence_2 : decode cX8_presence 2 = .ok (.putfield 43, 3) := by decide +kernel
theorem dX8_presence_5 : decode cX8_presence 5 = .ok (.aload_n 0, 1) := by decide +kernel
theorem dX8_presence_6 : decode cX8_presence 6 = .ok (.iload_n 1, 1) := by decide +kernel
theorem dX8_presence_7 : decode cX8_presence 7 = .ok (.invokevirtual 87, 3) := by decide +kernel
theorem dX8_presence_10 : decode cX8_presence 10 = .ok (.ifCond .ne 9, 3) := by decide +kernel
theorem dX8_presence_13 : decode cX8_presence 13 = .ok (.aload_n 0, 1) := by decide +kernel
theorem dX8_presence_14 : decode cX8_presence 14 = .ok (.iconst 1, 1) := by decide +kernel
theorem dX8_presence_15 : decode cX8_presence 15 = .ok (.invokevirtual 68, 3) := by decide +kernel
theorem dX8_presence_18 : decode cX8_presence 18 = .ok (.ireturn, 1) := by decide +kernel
theorem dX8_presence_19 : decode cX8_presence 19 = .ok (.aload_n 0, 1) := by decide +kernel
theorem dX8_presence_20 : decode cX8_presence 20 = .ok (.invokevirtual 98, 3) := by decide +kernel
theorem dX8_presence_23 : decode cX8_presence 23 = .ok (.aload_n 0, 1) := by decide +kernel
theorem dX8_presence_24 : decode cX8_presence 24 = .ok (.getfield 13, 3) := by decide +kernel
theorem dX8_presence_27 : decode cX8_presence 27 = .ok (.iload_n 1, 1) := by decide +kernel
theorem dX8_presence_28 : decode cX8_presence 28 = .ok (.iaload, 1) := by decide +kernel
theorem dX8_presence_29 : decode cX8_presence 29 = .ok (.ireturn, 1) := by decide +kernel
theorem dX8_on_0 : decode cX8_on 0 = .ok (.aload_n 0, 1) := by decide +kernel
theorem dX8_on_1 : decode cX8_on 1 = .ok (.iconst 0, 1) := by decide +kernel
theorem dX8_on_2 : decode cX8_on 2 = .ok (.putfield 43, 3) := by decide +kernel
theorem dX8_on_5 : decode cX8_on 5 = .ok (.iload_n 1, 1) := by decide +kernel
theorem dX8_on_6 : decode cX8_on 6 = .ok (.invokestatic 74, 3) := by decide +kernel
theorem dX8_on_9 : decode cX8_on 9 = .ok (.ifCond .eq 11, 3) := by decide +kernel
theorem dX8_on_12 : decode cX8_on 12 = .ok (.aload_n 0, 1) := by decide +kernel
theorem dX8_on_13 : decode cX8_on 13 = .ok (.iload_n 2, 1) := by decide +kernel
theorem dX8_on_14 : decode cX8_on 14 = .ok (.invokevirtual 87, 3) := by decide +kernel
theorem dX8_on_17 : decode cX8_on 17 = .ok (.ifCond .ne 9, 3) := by decide +kernel
theorem dX8_on_20 : decode cX8_on 20 = .ok (.aload_n 0, 1) := by decide +kernel
theorem dX8_on_21 : decode cX8_on 21 = .ok (.iconst 1, 1) := by decide +kernel
theorem dX8_on_22 : decode cX8_on 22 = .ok (.invokevirtual 68, 3) := by decide +kernel
theorem dX8_on_25 : decode cX8_on 25 = .ok (.ireturn, 1) := by decide +kernel
theorem dX8_on_26 : decode cX8_on 26 = .ok (.aload_n 0, 1) := by decide +kernel
theorem dX8_on_27 : decode cX8_on 27 = .ok (.invokevirtual 98, 3) := by decide +kernel
theorem dX8_on_30 : decode cX8_on 30 = .ok (.aload_n 0, 1) := by decide +kernel
theorem dX8_on_31 : decode cX8_on 31 = .ok (.getfield 16, 3) := by decide +kernel
theorem dX8_on_34 : decode cX8_on 34 = .ok (.iconst 4, 1) := by decide +kernel
theorem dX8_on_35 : decode cX8_on 35 = .ok (.iload_n 2, 1) := by decide +kernel
theorem dX8_on_36 : decode cX8_on 36 = .ok (.imul, 1) := by decide +kernel
theorem dX8_on_37 : decode cX8_on 37 = .ok (.iload_n 1, 1) := by decide +kernel
theorem dX8_on_38 : decode cX8_on 38 = .ok (.iadd, 1) := by decide +kernel
theorem dX8_on_39 : decode cX8_on 39 = .ok (.iaload, 1) := by decide +kernel
theorem dX8_on_40 : decode cX8_on 40 = .ok (.ireturn, 1) := by decide +kernel
theorem dX8_features_0 : decode cX8_features 0 = .ok (.aload_n 0, 1) := by decide +kernel
theorem dX8_features_1 : decode cX8_features 1 = .ok (.iconst 0, 1) := by decide +kernel
theorem dX8_features_2 : decode cX8_features 2 = .ok (.putfield 43, 3) := by decide +kernel
theorem dX8_features_5 : decode cX8_features 5 = .ok (.iload_n 1, 1) := by decide +kernel
theorem dX8_features_6 : decode cX8_features 6 = .ok (.iconst 0, 1) := by decide +kernel
theorem dX8_features_7 : decode cX8_features 7 = .ok (.ldc 97, 2) := by decide +kernel
theorem dX8_features_9 : decode cX8_features 9 = .ok (.invokestatic 50, 3) := by decide +kernel
theorem dX8_features_12 : decode cX8_features 12 = .ok (.ifCond .ne 9, 3) := by decide +kernel
theorem dX8_features_15 : decode cX8_features 15 = .ok (.aload_n 0, 1) := by decide +kernel
theorem dX8_features_16 : decode cX8_features 16 = .ok (.iconst 1, 1) := by decide +kernel
theorem dX8_features_17 : decode cX8_features 17 = .ok (.invokevirtual 68, 3) := by decide +kernel
theorem dX8_features_20 : decode cX8_features 20 = .ok (.ireturn, 1) := by decide +kernel
theorem dX8_features_21 : decode cX8_features 21 = .ok (.iconst 0, 1) := by decide +kernel
theorem dX8_features_22 : decode cX8_features 22 = .ok (.istore_n 2, 1) := by decide +kernel
theorem dX8_features_23 : decode cX8_features 23 = .ok (.iconst 0, 1) := by decide +kernel
theorem dX8_features_24 : decode cX8_features 24 = .ok (.istore_n 3, 1) := by decide +kernel
theorem dX8_features_25 : decode cX8_features 25 = .ok (.iload_n 3, 1) := by decide +kernel
theorem dX8_features_26 : decode cX8_features 26 = .ok (.bipush 16, 2) := by decide +kernel
theorem dX8_features_28 : decode cX8_features 28 = .ok (.if_icmp .ge 52, 3) := by decide +kernel
theorem dX8_features_31 : decode cX8_features 31 = .ok (.iconst 0, 1) := by decide +kernel
theorem dX8_features_32 : decode cX8_features 32 = .ok (.istore 4, 2) := by decide +kernel
theorem dX8_features_34 : decode cX8_features 34 = .ok (.iload 4, 2) := by decide +kernel
theorem dX8_features_36 : decode cX8_features 36 = .ok (.iconst 4, 1) := by decide +kernel
theorem dX8_features_37 : decode cX8_features 37 = .ok (.if_icmp .ge 37, 3) := by decide +kernel
theorem dX8_features_40 : decode cX8_features 40 = .ok (.iload_n 1, 1) := by decide +kernel
theorem dX8_features_41 : decode cX8_features 41 = .ok (.iload_n 3, 1) := by decide +kernel
theorem dX8_features_42 : decode cX8_features 42 = .ok (.invokestatic 93, 3) := by decide +kernel
theorem dX8_features_45 : decode cX8_features 45 = .ok (.ifCond .eq 23, 3) := by decide +kernel
theorem dX8_features_48 : decode cX8_features 48 = .ok (.iload_n 1, 1) := by decide +kernel
theorem dX8_features_49 : decode cX8_features 49 = .ok (.iload_n 3, 1) := by decide +kernel
theorem dX8_features_50 : decode cX8_features 50 = .ok (.iconst 1, 1) := by decide +kernel
theorem dX8_features_51 : decode cX8_features 51 = .ok (.iload 4, 2) := by decide +kernel
theorem dX8_features_53 : decode cX8_features 53 = .ok (.ishl, 1) := by decide +kernel
theorem dX8_features_54 : decode cX8_features 54 = .ok (.ixor, 1) := by decide +kernel
theorem dX8_features_55 : decode cX8_features 55 = .ok (.invokestatic 93, 3) := by decide +kernel
theorem dX8_features_58 : decode cX8_features 58 = .ok (.ifCond .ne 10, 3) := by decide +kernel
theorem dX8_features_61 : decode cX8_features 61 = .ok (.iload_n 2, 1) := by decide +kernel
theorem dX8_features_62 : decode cX8_features 62 = .ok (.iconst 1, 1) := by decide +kernel
theorem dX8_features_63 : decode cX8_features 63 = .ok (.iload 4, 2) := by decide +kernel
theorem dX8_features_65 : decode cX8_features 65 = .ok (.ishl, 1) := by decide +kernel
theorem dX8_features_66 : decode cX8_features 66 = .ok (.ior, 1) := by decide +kernel
theorem dX8_features_67 : decode cX8_features 67 = .ok (.istore_n 2, 1) := by decide +kernel
theorem dX8_features_68 : decode cX8_features 68 = .ok (.iinc 4 1, 3) := by decide +kernel
theorem dX8_features_71 : decode cX8_features 71 = .ok (.goto (-37), 3) := by decide +kernel
theorem dX8_features_74 : decode cX8_features 74 = .ok (.iinc 3 1, 3) := by decide +kernel
theorem dX8_features_77 : decode cX8_features 77 = .ok (.goto (-52), 3) := by decide +kernel
theorem dX8_features_80 : decode cX8_features 80 = .ok (.iload_n 2, 1) := by decide +kernel
theorem dX8_features_81 : decode cX8_features 81 = .ok (.ireturn, 1) := by decide +kernel
theorem dX8_dead_0 : decode cX8_dead 0 = .ok (.aload_n 0, 1) := by decide +kernel
theorem dX8_dead_1 : decode cX8_dead 1 = .ok (.iconst 0, 1) := by decide +kernel
theorem dX8_dead_2 : decode cX8_dead 2 = .ok (.putfield 43, 3) := by decide +kernel
theorem dX8_dead_5 : decode cX8_dead 5 = .ok (.aload_n 0, 1) := by decide +kernel
theorem dX8_dead_6 : decode cX8_dead 6 = .ok (.invokevirtual 98, 3) := by decide +kernel
theorem dX8_dead_9 : decode cX8_dead 9 = .ok (.iconst 0, 1) := by decide +kernel
theorem dX8_dead_10 : decode cX8_dead 10 = .ok (.istore_n 1, 1) := by decide +kernel
theorem dX8_dead_11 : decode cX8_dead 11 = .ok (.iconst 0, 1) := by decide +kernel
theorem dX8_dead_12 : decode cX8_dead 12 = .ok (.istore_n 2, 1) := by decide +kernel
theorem dX8_dead_13 : decode cX8_dead 13 = .ok (.iload_n 2, 1) := by decide +kernel
theorem dX8_dead_14 : decode cX8_dead 14 = .ok (.aload_n 0, 1) := by decide +kernel
theorem dX8_dead_15 : decode cX8_dead 15 = .ok (.getfield 47, 3) := by decide +kernel
theorem dX8_dead_18 : decode cX8_dead 18 = .ok (.if_icmp .ge 34, 3) := by decide +kernel
theorem dX8_dead_21 : decode cX8_dead 21 = .ok (.iload_n 1, 1) := by decide +kernel
theorem dX8_dead_22 : decode cX8_dead 22 = .ok (.aload_n 0, 1) := by decide +kernel
theorem dX8_dead_23 : decode cX8_dead 23 = .ok (.iload_n 2, 1) := by decide +kernel
theorem dX8_dead_24 : decode cX8_dead 24 = .ok (.invokevirtual 90, 3) := by decide +kernel
theorem dX8_dead_27 : decode cX8_dead 27 = .ok (.ifCond .eq 16, 3) := by decide +kernel
theorem dX8_dead_30 : decode cX8_dead 30 = .ok (.aload_n 0, 1) := by decide +kernel
theorem dX8_dead_31 : decode cX8_dead 31 = .ok (.getfield 13, 3) := by decide +kernel
theorem dX8_dead_34 : decode cX8_dead 34 = .ok (.iload_n 2, 1) := by decide +kernel
theorem dX8_dead_35 : decode cX8_dead 35 = .ok (.iaload, 1) := by decide +kernel
theorem dX8_dead_36 : decode cX8_dead 36 = .ok (.ifCond .ne 7, 3) := by decide +kernel
theorem dX8_dead_39 : decode cX8_dead 39 = .ok (.iconst 1, 1) := by decide +kernel
theorem dX8_dead_40 : decode cX8_dead 40 = .ok (.goto 4, 3) := by decide +kernel
theorem dX8_dead_43 : decode cX8_dead 43 = .ok (.iconst 0, 1) := by decide +kernel
theorem dX8_dead_44 : decode cX8_dead 44 = .ok (.iadd, 1) := by decide +kernel
theorem dX8_dead_45 : decode cX8_dead 45 = .ok (.istore_n 1, 1) := by decide +kernel
theorem dX8_dead_46 : decode cX8_dead 46 = .ok (.iinc 2 1, 3) := by decide +kernel
theorem dX8_dead_49 : decode cX8_dead 49 = .ok (.goto (-36), 3) := by decide +kernel
theorem dX8_dead_52 : decode cX8_dead 52 = .ok (.iload_n 1, 1) := by decide +kernel
theorem dX8_dead_53 : decode cX8_dead 53 = .ok (.ireturn, 1) := by decide +kernel
theorem dX8_lengthOf_0 : decode cX8_lengthOf 0 = .ok (.iconst 0, 1) := by decide +kernel
theorem dX8_lengthOf_1 : decode cX8_lengthOf 1 = .ok (.istore_n 2, 1) := by decide +kernel
theorem dX8_lengthOf_2 : decode cX8_lengthOf 2 = .ok (.iconst 0, 1) := by decide +kernel
theorem dX8_lengthOf_3 : decode cX8_lengthOf 3 = .ok (.istore_n 3, 1) := by decide +kernel
theorem dX8_lengthOf_4 : decode cX8_lengthOf 4 = .ok (.iload_n 3, 1) := by decide +kernel
theorem dX8_lengthOf_5 : decode cX8_lengthOf 5 = .ok (.aload_n 0, 1) := by decide +kernel
theorem dX8_lengthOf_6 : decode cX8_lengthOf 6 = .ok (.getfield 47, 3) := by decide +kernel
theorem dX8_lengthOf_9 : decode cX8_lengthOf 9 = .ok (.if_icmp .ge 38, 3) := by decide +kernel
theorem dX8_lengthOf_12 : decode cX8_lengthOf 12 = .ok (.iload_n 2, 1) := by decide +kernel
theorem dX8_lengthOf_13 : decode cX8_lengthOf 13 = .ok (.aload_n 0, 1) := by decide +kernel
theorem dX8_lengthOf_14 : decode cX8_lengthOf 14 = .ok (.iload_n 3, 1) := by decide +kernel
theorem dX8_lengthOf_15 : decode cX8_lengthOf 15 = .ok (.invokevirtual 90, 3) := by decide +kernel
theorem dX8_lengthOf_18 : decode cX8_lengthOf 18 = .ok (.ifCond .eq 20, 3) := by decide +kernel
theorem dX8_lengthOf_21 : decode cX8_lengthOf 21 = .ok (.aload_n 0, 1) := by decide +kernel
theorem dX8_lengthOf_22 : decode cX8_lengthOf 22 = .ok (.getfield 13, 3) := by decide +kernel
theorem dX8_lengthOf_25 : decode cX8_lengthOf 25 = .ok (.iload_n 3, 1) := by decide +kernel
theorem dX8_lengthOf_26 : decode cX8_lengthOf 26 = .ok (.iaload, 1) := by decide +kernel
theorem dX8_lengthOf_27 : decode cX8_lengthOf 27 = .ok (.iload_n 1, 1) := by decide +kernel
theorem dX8_lengthOf_28 : decode cX8_lengthOf 28 = .ok (.invokestatic 93, 3) := by decide +kernel
theorem dX8_lengthOf_31 : decode cX8_lengthOf 31 = .ok (.ifCond .eq 7, 3) := by decide +kernel
theorem dX8_lengthOf_34 : decode cX8_lengthOf 34 = .ok (.iconst 1, 1) := by decide +kernel
theorem dX8_lengthOf_35 : decode cX8_lengthOf 35 = .ok (.goto 4, 3) := by decide +kernel
theorem dX8_lengthOf_38 : decode cX8_lengthOf 38 = .ok (.iconst 0, 1) := by decide +kernel
theorem dX8_lengthOf_39 : decode cX8_lengthOf 39 = .ok (.iadd, 1) := by decide +kernel
theorem dX8_lengthOf_40 : decode cX8_lengthOf 40 = .ok (.istore_n 2, 1) := by decide +kernel
theorem dX8_lengthOf_41 : decode cX8_lengthOf 41 = .ok (.iinc 3 1, 3) := by decide +kernel
theorem dX8_lengthOf_44 : decode cX8_lengthOf 44 = .ok (.goto (-40), 3) := by decide +kernel
theorem dX8_lengthOf_47 : decode cX8_lengthOf 47 = .ok (.iload_n 2, 1) := by decide +kernel
theorem dX8_lengthOf_48 : decode cX8_lengthOf 48 = .ok (.ireturn, 1) := by decide +kernel
theorem dX8_find_0 : decode cX8_find 0 = .ok (.iload_n 2, 1) := by decide +kernel
theorem dX8_find_1 : decode cX8_find 1 = .ok (.istore_n 3, 1) := by decide +kernel
theorem dX8_find_2 : decode cX8_find 2 = .ok (.iconst 0, 1) := by decide +kernel
theorem dX8_find_3 : decode cX8_find 3 = .ok (.istore 4, 2) := by decide +kernel
theorem dX8_find_5 : decode cX8_find 5 = .ok (.iload 4, 2) := by decide +kernel
theorem dX8_find_7 : decode cX8_find 7 = .ok (.aload_n 0, 1) := by decide +kernel
theorem dX8_find_8 : decode cX8_find 8 = .ok (.getfield 47, 3) := by decide +kernel
theorem dX8_find_11 : decode cX8_find 11 = .ok (.if_icmp .ge 49, 3) := by decide +kernel
theorem dX8_find_14 : decode cX8_find 14 = .ok (.iload_n 2, 1) := by decide +kernel
theorem dX8_find_15 : decode cX8_find 15 = .ok (.ifCond .lt 45, 3) := by decide +kernel
theorem dX8_find_18 : decode cX8_find 18 = .ok (.aload_n 0, 1) := by decide +kernel
theorem dX8_find_19 : decode cX8_find 19 = .ok (.iload 4, 2) := by decide +kernel
theorem dX8_find_21 : decode cX8_find 21 = .ok (.invokevirtual 90, 3) := by decide +kernel
theorem dX8_find_24 : decode cX8_find 24 = .ok (.ifCond .eq 30, 3) := by decide +kernel
theorem dX8_find_27 : decode cX8_find 27 = .ok (.aload_n 0, 1) := by decide +kernel
theorem dX8_find_28 : decode cX8_find 28 = .ok (.getfield 13, 3) := by decide +kernel
theorem dX8_find_31 : decode cX8_find 31 = .ok (.iload 4, 2) := by decide +kernel
theorem dX8_find_33 : decode cX8_find 33 = .ok (.iaload, 1) := by decide +kernel
theorem dX8_find_34 : decode cX8_find 34 = .ok (.iload_n 1, 1) := by decide +kernel
theorem dX8_find_35 : decode cX8_find 35 = .ok (.invokestatic 93, 3) := by decide +kernel
theorem dX8_find_38 : decode cX8_find 38 = .ok (.ifCond .ne 6, 3) := by decide +kernel
theorem dX8_find_41 : decode cX8_find 41 = .ok (.goto 13, 3) := by decide +kernel
theorem dX8_find_44 : decode cX8_find 44 = .ok (.iload_n 3, 1) := by decide +kernel
theorem dX8_find_45 : decode cX8_find 45 = .ok (.ifCond .ne 6, 3) := by decide +kernel
theorem dX8_find_48 : decode cX8_find 48 = .ok (.iload 4, 2) := by decide +kernel
theorem dX8_find_50 : decode cX8_find 50 = .ok (.ireturn, 1) := by decide +kernel
theorem dX8_find_51 : decode cX8_find 51 = .ok (.iinc 3 (-1), 3) := by decide +kernel
theorem dX8_find_54 : decode cX8_find 54 = .ok (.iinc 4 1, 3) := by decide +kernel
theorem dX8_find_57 : decode cX8_find 57 = .ok (.goto (-52), 3) := by decide +kernel
theorem dX8_find_60 : decode cX8_find 60 = .ok (.iconst (-1), 1) := by decide +kernel
theorem dX8_find_61 : decode cX8_find 61 = .ok (.ireturn, 1) := by decide +kernel
theorem dX8_length_0 : decode cX8_length 0 = .ok (.aload_n 0, 1) := by decide +kernel
theorem dX8_length_1 : decode cX8_length 1 = .ok (.iconst 0, 1) := by decide +kernel
theorem dX8_length_2 : decode cX8_length 2 = .ok (.putfield 43, 3) := by decide +kernel
theorem dX8_length_5 : decode cX8_length 5 = .ok (.iload_n 1, 1) := by decide +kernel
theorem dX8_length_6 : decode cX8_length 6 = .ok (.invokestatic 101, 3) := by decide +kernel
theorem dX8_length_9 : decode cX8_length 9 = .ok (.ifCond .ne 9, 3) := by decide +kernel
theorem dX8_length_12 : decode cX8_length 12 = .ok (.aload_n 0, 1) := by decide +kernel
theorem dX8_length_13 : decode cX8_length 13 = .ok (.iconst 1, 1) := by decide +kernel
theorem dX8_length_14 : decode cX8_length 14 = .ok (.invokevirtual 68, 3) := by decide +kernel
theorem dX8_length_17 : decode cX8_length 17 = .ok (.ireturn, 1) := by decide +kernel
theorem dX8_length_18 : decode cX8_length 18 = .ok (.aload_n 0, 1) := by decide +kernel
theorem dX8_length_19 : decode cX8_length 19 = .ok (.invokevirtual 98, 3) := by decide +kernel
theorem dX8_length_22 : decode cX8_length 22 = .ok (.aload_n 0, 1) := by decide +kernel
theorem dX8_length_23 : decode cX8_length 23 = .ok (.iload_n 1, 1) := by decide +kernel
theorem dX8_length_24 : decode cX8_length 24 = .ok (.invokevirtual 104, 3) := by decide +kernel
theorem dX8_length_27 : decode cX8_length 27 = .ok (.ireturn, 1) := by decide +kernel
theorem dX8_place_0 : decode cX8_place 0 = .ok (.aload_n 0, 1) := by decide +kernel
theorem dX8_place_1 : decode cX8_place 1 = .ok (.iconst 0, 1) := by decide +kernel
theorem dX8_place_2 : decode cX8_place 2 = .ok (.putfield 43, 3) := by decide +kernel
theorem dX8_place_5 : decode cX8_place 5 = .ok (.iload_n 1, 1) := by decide +kernel
theorem dX8_place_6 : decode cX8_place 6 = .ok (.invokestatic 101, 3) := by decide +kernel
theorem dX8_place_9 : decode cX8_place 9 = .ok (.ifCond .ne 9, 3) := by decide +kernel
theorem dX8_place_12 : decode cX8_place 12 = .ok (.aload_n 0, 1) := by decide +kernel
theorem dX8_place_13 : decode cX8_place 13 = .ok (.iconst 1, 1) := by decide +kernel
theorem dX8_place_14 : decode cX8_place 14 = .ok (.invokevirtual 68, 3) := by decide +kernel
theorem dX8_place_17 : decode cX8_place 17 = .ok (.ireturn, 1) := by decide +kernel
theorem dX8_place_18 : decode cX8_place 18 = .ok (.aload_n 0, 1) := by decide +kernel
theorem dX8_place_19 : decode cX8_place 19 = .ok (.invokevirtual 98, 3) := by decide +kernel
theorem dX8_place_22 : decode cX8_place 22 = .ok (.aload_n 0, 1) := by decide +kernel
theorem dX8_place_23 : decode cX8_place 23 = .ok (.iload_n 1, 1) := by decide +kernel
theorem dX8_place_24 : decode cX8_place 24 = .ok (.iload_n 2, 1) := by decide +kernel
theorem dX8_place_25 : decode cX8_place 25 = .ok (.invokevirtual 107, 3) := by decide +kernel
theorem dX8_place_28 : decode cX8_place 28 = .ok (.istore_n 3, 1) := by decide +kernel
theorem dX8_place_29 : decode cX8_place 29 = .ok (.iload_n 3, 1) := by decide +kernel
theorem dX8_place_30 : decode cX8_place 30 = .ok (.iconst (-1), 1) := by decide +kernel
theorem dX8_place_31 : decode cX8_place 31 = .ok (.if_icmp .ne 11, 3) := by decide +kernel
theorem dX8_place_34 : decode cX8_place 34 = .ok (.aload_n 0, 1) := by decide +kernel
theorem dX8_place_35 : decode cX8_place 35 = .ok (.iconst 1, 1) := by decide +kernel
theorem dX8_place_36 : decode cX8_place 36 = .ok (.invokevirtual 68, 3) := by decide +kernel
theorem dX8_place_39 : decode cX8_place 39 = .ok (.goto 4, 3) := by decide +kernel
theorem dX8_place_42 : decode cX8_place 42 = .ok (.iload_n 3, 1) := by decide +kernel
theorem dX8_place_43 : decode cX8_place 43 = .ok (.ireturn, 1) := by decide +kernel
theorem dX8_areSame_0 : decode cX8_areSame 0 = .ok (.aload_n 0, 1) := by decide +kernel
theorem dX8_areSame_1 : decode cX8_areSame 1 = .ok (.iload_n 1, 1) := by decide +kernel
theorem dX8_areSame_2 : decode cX8_areSame 2 = .ok (.invokevirtual 104, 3) := by decide +kernel
theorem dX8_areSame_5 : decode cX8_areSame 5 = .ok (.istore_n 3, 1) := by decide +kernel
theorem dX8_areSame_6 : decode cX8_areSame 6 = .ok (.iload_n 3, 1) := by decide +kernel
theorem dX8_areSame_7 : decode cX8_areSame 7 = .ok (.aload_n 0, 1) := by decide +kernel
theorem dX8_areSame_8 : decode cX8_areSame 8 = .ok (.iload_n 2, 1) := by decide +kernel
theorem dX8_areSame_9 : decode cX8_areSame 9 = .ok (.invokevirtual 104, 3) := by decide +kernel
theorem dX8_areSame_12 : decode cX8_areSame 12 = .ok (.if_icmp .ne 7, 3) := by decide +kernel
theorem dX8_areSame_15 : decode cX8_areSame 15 = .ok (.iconst 1, 1) := by decide +kernel
theorem dX8_areSame_16 : decode cX8_areSame 16 = .ok (.goto 4, 3) := by decide +kernel
theorem dX8_areSame_19 : decode cX8_areSame 19 = .ok (.iconst 0, 1) := by decide +kernel
theorem dX8_areSame_20 : decode cX8_areSame 20 = .ok (.istore 4, 2) := by decide +kernel
theorem dX8_areSame_22 : decode cX8_areSame 22 = .ok (.iconst 0, 1) := by decide +kernel
theorem dX8_areSame_23 : decode cX8_areSame 23 = .ok (.istore 5, 2) := by decide +kernel
theorem dX8_areSame_25 : decode cX8_areSame 25 = .ok (.iload 5, 2) := by decide +kernel
theorem dX8_areSame_27 : decode cX8_areSame 27 = .ok (.iload_n 3, 1) := by decide +kernel
theorem dX8_areSame_28 : decode cX8_areSame 28 = .ok (.if_icmp .ge 48, 3) := by decide +kernel
theorem dX8_areSame_31 : decode cX8_areSame 31 = .ok (.iload 4, 2) := by decide +kernel
theorem dX8_areSame_33 : decode cX8_areSame 33 = .ok (.ifCond .eq 43, 3) := by decide +kernel
theorem dX8_areSame_36 : decode cX8_areSame 36 = .ok (.aload_n 0, 1) := by decide +kernel
theorem dX8_areSame_37 : decode cX8_areSame 37 = .ok (.getfield 9, 3) := by decide +kernel
theorem dX8_areSame_40 : decode cX8_areSame 40 = .ok (.aload_n 0, 1) := by decide +kernel
theorem dX8_areSame_41 : decode cX8_areSame 41 = .ok (.iload_n 1, 1) := by decide +kernel
theorem dX8_areSame_42 : decode cX8_areSame 42 = .ok (.iload 5, 2) := by decide +kernel
theorem dX8_areSame_44 : decode cX8_areSame 44 = .ok (.invokevirtual 107, 3) := by decide +kernel
theorem dX8_areSame_47 : decode cX8_areSame 47 = .ok (.iaload, 1) := by decide +kernel
theorem dX8_areSame_48 : decode cX8_areSame 48 = .ok (.aload_n 0, 1) := by decide +kernel
theorem dX8_areSame_49 : decode cX8_areSame 49 = .ok (.getfield 9, 3) := by decide +kernel
theorem dX8_areSame_52 : decode cX8_areSame 52 = .ok (.aload_n 0, 1) := by decide +kernel
theorem dX8_areSame_53 : decode cX8_areSame 53 = .ok (.iload_n 2, 1) := by decide +kernel
theorem dX8_areSame_54 : decode cX8_areSame 54 = .ok (.iload 5, 2) := by decide +kernel
theorem dX8_areSame_56 : decode cX8_areSame 56 = .ok (.invokevirtual 107, 3) := by decide +kernel
theorem dX8_areSame_59 : decode cX8_areSame 59 = .ok (.iaload, 1) := by decide +kernel
theorem dX8_areSame_60 : decode cX8_areSame 60 = .ok (.if_icmp .ne 7, 3) := by decide +kernel
theorem dX8_areSame_63 : decode cX8_areSame 63 = .ok (.iconst 1, 1) := by decide +kernel
theorem dX8_areSame_64 : decode cX8_areSame 64 = .ok (.goto 4, 3) := by decide +kernel
theorem dX8_areSame_67 : decode cX8_areSame 67 = .ok (.iconst 0, 1) := by decide +kernel
theorem dX8_areSame_68 : decode cX8_areSame 68 = .ok (.istore 4, 2) := by decide +kernel
theorem dX8_areSame_70 : decode cX8_areSame 70 = .ok (.iinc 5 1, 3) := by decide +kernel
theorem dX8_areSame_73 : decode cX8_areSame 73 = .ok (.goto (-48), 3) := by decide +kernel
theorem dX8_areSame_76 : decode cX8_areSame 76 = .ok (.iload 4, 2) := by decide +kernel
theorem dX8_areSame_78 : decode cX8_areSame 78 = .ok (.ireturn, 1) := by decide +kernel
theorem dX8_variants_0 : decode cX8_variants 0 = .ok (.aload_n 0, 1) := by decide +kernel
theorem dX8_variants_1 : decode cX8_variants 1 = .ok (.iconst 0, 1) := by decide +kernel
theorem dX8_variants_2 : decode cX8_variants 2 = .ok (.putfield 43, 3) := by decide +kernel
theorem dX8_variants_5 : decode cX8_variants 5 = .ok (.aload_n 0, 1) := by decide +kernel
theorem dX8_variants_6 : decode cX8_variants 6 = .ok (.invokevirtual 98, 3) := by decide +kernel
theorem dX8_variants_9 : decode cX8_variants 9 = .ok (.iconst 0, 1) := by decide +kernel
theorem dX8_variants_10 : decode cX8_variants 10 = .ok (.istore_n 1, 1) := by decide +kernel
theorem dX8_variants_11 : decode cX8_variants 11 = .ok (.iconst 0, 1) := by decide +kernel
theorem dX8_variants_12 : decode cX8_variants 12 = .ok (.istore_n 2, 1) := by decide +kernel
theorem dX8_variants_13 : decode cX8_variants 13 = .ok (.iload_n 2, 1) := by decide +kernel
theorem dX8_variants_14 : decode cX8_variants 14 = .ok (.bipush 16, 2) := by decide +kernel
theorem dX8_variants_16 : decode cX8_variants 16 = .ok (.if_icmp .ge 58, 3) := by decide +kernel
theorem dX8_variants_19 : decode cX8_variants 19 = .ok (.iconst 1, 1) := by decide +kernel
theorem dX8_variants_20 : decode cX8_variants 20 = .ok (.istore_n 3, 1) := by decide +kernel
theorem dX8_variants_21 : decode cX8_variants 21 = .ok (.iconst 0, 1) := by decide +kernel
theorem dX8_variants_22 : decode cX8_variants 22 = .ok (.istore 4, 2) := by decide +kernel
theorem dX8_variants_24 : decode cX8_variants 24 = .ok (.iload 4, 2) := by decide +kernel
theorem dX8_variants_26 : decode cX8_variants 26 = .ok (.iload_n 2, 1) := by decide +kernel
theorem dX8_variants_27 : decode cX8_variants 27 = .ok (.if_icmp .ge 29, 3) := by decide +kernel
theorem dX8_variants_30 : decode cX8_variants 30 = .ok (.iload_n 3, 1) := by decide +kernel
theorem dX8_variants_31 : decode cX8_variants 31 = .ok (.ifCond .eq 25, 3) := by decide +kernel
theorem dX8_variants_34 : decode cX8_variants 34 = .ok (.aload_n 0, 1) := by decide +kernel
theorem dX8_variants_35 : decode cX8_variants 35 = .ok (.iload 4, 2) := by decide +kernel
theorem dX8_variants_37 : decode cX8_variants 37 = .ok (.iload_n 2, 1) := by decide +kernel
theorem dX8_variants_38 : decode cX8_variants 38 = .ok (.invokevirtual 111, 3) := by decide +kernel
theorem dX8_variants_41 : decode cX8_variants 41 = .ok (.ifCond .ne 7, 3) := by decide +kernel
theorem dX8_variants_44 : decode cX8_variants 44 = .ok (.iconst 1, 1) := by decide +kernel
theorem dX8_variants_45 : decode cX8_variants 45 = .ok (.goto 4, 3) := by decide +kernel
theorem dX8_variants_48 : decode cX8_variants 48 = .ok (.iconst 0, 1) := by decide +kernel
theorem dX8_variants_49 : decode cX8_variants 49 = .ok (.istore_n 3, 1) := by decide +kernel
theorem dX8_variants_50 : decode cX8_variants 50 = .ok (.iinc 4 1, 3) := by decide +kernel
theorem dX8_variants_53 : decode cX8_variants 53 = .ok (.goto (-29), 3) := by decide +kernel
theorem dX8_variants_56 : decode cX8_variants 56 = .ok (.iload_n 1, 1) := by decide +kernel
theorem dX8_variants_57 : decode cX8_variants 57 = .ok (.iload_n 3, 1) := by decide +kernel
theorem dX8_variants_58 : decode cX8_variants 58 = .ok (.ifCond .eq 7, 3) := by decide +kernel
theorem dX8_variants_61 : decode cX8_variants 61 = .ok (.iconst 1, 1) := by decide +kernel
theorem dX8_variants_62 : decode cX8_variants 62 = .ok (.goto 4, 3) := by decide +kernel
theorem dX8_variants_65 : decode cX8_variants 65 = .ok (.iconst 0, 1) := by decide +kernel
theorem dX8_variants_66 : decode cX8_variants 66 = .ok (.iadd, 1) := by decide +kernel
theorem dX8_variants_67 : decode cX8_variants 67 = .ok (.istore_n 1, 1) := by decide +kernel
theorem dX8_variants_68 : decode cX8_variants 68 = .ok (.iinc 2 1, 3) := by decide +kernel
theorem dX8_variants_71 : decode cX8_variants 71 = .ok (.goto (-58), 3) := by decide +kernel
theorem dX8_variants_74 : decode cX8_variants 74 = .ok (.iload_n 1, 1) := by decide +kernel
theorem dX8_variants_75 : decode cX8_variants 75 = .ok (.ireturn, 1) := by decide +kernel
theorem dX8_push_0 : decode cX8_push 0 = .ok (.aload_n 0, 1) := by decide +kernel
theorem dX8_push_1 : decode cX8_push 1 = .ok (.getfield 19, 3) := by decide +kernel
theorem dX8_push_4 : decode cX8_push 4 = .ok (.sipush 400, 3) := by decide +kernel
theorem dX8_push_7 : decode cX8_push 7 = .ok (.iload_n 1, 1) := by decide +kernel
theorem dX8_push_8 : decode cX8_push 8 = .ok (.imul, 1) := by decide +kernel
theorem dX8_push_9 : decode cX8_push 9 = .ok (.aload_n 0, 1) := by decide +kernel
theorem dX8_push_10 : decode cX8_push 10 = .ok (.getfield 22, 3) := by decide +kernel
theorem dX8_push_13 : decode cX8_push 13 = .ok (.iload_n 1, 1) := by decide +kernel
theorem dX8_push_14 : decode cX8_push 14 = .ok (.iaload, 1) := by decide +kernel
theorem dX8_push_15 : decode cX8_push 15 = .ok (.iadd, 1) := by decide +kernel
theorem dX8_push_16 : decode cX8_push 16 = .ok (.iload_n 2, 1) := by decide +kernel
theorem dX8_push_17 : decode cX8_push 17 = .ok (.iastore, 1) := by decide +kernel
theorem dX8_push_18 : decode cX8_push 18 = .ok (.aload_n 0, 1) := by decide +kernel
theorem dX8_push_19 : decode cX8_push 19 = .ok (.getfield 22, 3) := by decide +kernel
theorem dX8_push_22 : decode cX8_push 22 = .ok (.iload_n 1, 1) := by decide +kernel
theorem dX8_push_23 : decode cX8_push 23 = .ok (.dup2, 1) := by decide +kernel
theorem dX8_push_24 : decode cX8_push 24 = .ok (.iaload, 1) := by decide +kernel
theorem dX8_push_25 : decode cX8_push 25 = .ok (.iconst 1, 1) := by decide +kernel
theorem dX8_push_26 : decode cX8_push 26 = .ok (.iadd, 1) := by decide +kernel
theorem dX8_push_27 : decode cX8_push 27 = .ok (.iastore, 1) := by decide +kernel
theorem dX8_push_28 : decode cX8_push 28 = .ok (.return_, 1) := by decide +kernel
theorem dX8_isName_0 : decode cX8_isName 0 = .ok (.iload_n 0, 1) := by decide +kernel
theorem dX8_isName_1 : decode cX8_isName 1 = .ok (.bipush 97, 2) := by decide +kernel
theorem dX8_isName_3 : decode cX8_isName 3 = .ok (.if_icmp .lt 13, 3) := by decide +kernel
theorem dX8_isName_6 : decode cX8_isName 6 = .ok (.iload_n 0, 1) := by decide +kernel
theorem dX8_isName_7 : decode cX8_isName 7 = .ok (.bipush 100, 2) := by decide +kernel
theorem dX8_isName_9 : decode cX8_isName 9 = .ok (.if_icmp .gt 7, 3) := by decide +kernel
theorem dX8_isName_12 : decode cX8_isName 12 = .ok (.iconst 1, 1) := by decide +kernel
theorem dX8_isName_13 : decode cX8_isName 13 = .ok (.goto 4, 3) := by decide +kernel
theorem dX8_isName_16 : decode cX8_isName 16 = .ok (.iconst 0, 1) := by decide +kernel
theorem dX8_isName_17 : decode cX8_isName 17 = .ok (.ireturn, 1) := by decide +kernel
theorem dX8_canBegin_0 : decode cX8_canBegin 0 = .ok (.iload_n 0, 1) := by decide +kernel
theorem dX8_canBegin_1 : decode cX8_canBegin 1 = .ok (.invokestatic 114, 3) := by decide +kernel
theorem dX8_canBegin_4 : decode cX8_canBegin 4 = .ok (.ifCond .ne 21, 3) := by decide +kernel
theorem dX8_canBegin_7 : decode cX8_canBegin 7 = .ok (.iload_n 0, 1) := by decide +kernel
theorem dX8_canBegin_8 : decode cX8_canBegin 8 = .ok (.bipush 123, 2) := by decide +kernel
theorem dX8_canBegin_10 : decode cX8_canBegin 10 = .ok (.if_icmp .eq 15, 3) := by decide +kernel
theorem dX8_canBegin_13 : decode cX8_canBegin 13 = .ok (.iload_n 0, 1) := by decide +kernel
theorem dX8_canBegin_14 : decode cX8_canBegin 14 = .ok (.bipush 63, 2) := by decide +kernel
theorem dX8_canBegin_16 : decode cX8_canBegin 16 = .ok (.if_icmp .eq 9, 3) := by decide +kernel
theorem dX8_canBegin_19 : decode cX8_canBegin 19 = .ok (.iload_n 0, 1) := by decide +kernel
theorem dX8_canBegin_20 : decode cX8_canBegin 20 = .ok (.bipush 33, 2) := by decide +kernel
theorem dX8_canBegin_22 : decode cX8_canBegin 22 = .ok (.if_icmp .ne 7, 3) := by decide +kernel
theorem dX8_canBegin_25 : decode cX8_canBegin 25 = .ok (.iconst 1, 1) := by decide +kernel
theorem dX8_canBegin_26 : decode cX8_canBegin 26 = .ok (.goto 4, 3) := by decide +kernel
theorem dX8_canBegin_29 : decode cX8_canBegin 29 = .ok (.iconst 0, 1) := by decide +kernel
theorem dX8_canBegin_30 : decode cX8_canBegin 30 = .ok (.ireturn, 1) := by decide +kernel
theorem dX8_expand_0 : decode cX8_expand 0 = .ok (.aload_n 0, 1) := by decide +kernel
theorem dX8_expand_1 : decode cX8_expand 1 = .ok (.getfield 22, 3) := by decide +kernel
theorem dX8_expand_4 : decode cX8_expand 4 = .ok (.iload_n 1, 1) := by decide +kernel
theorem dX8_expand_5 : decode cX8_expand 5 = .ok (.dup2, 1) := by decide +kernel
theorem dX8_expand_6 : decode cX8_expand 6 = .ok (.iaload, 1) := by decide +kernel
theorem dX8_expand_7 : decode cX8_expand 7 = .ok (.iconst 1, 1) := by decide +kernel
theorem dX8_expand_8 : decode cX8_expand 8 = .ok (.isub, 1) := by decide +kernel
theorem dX8_expand_9 : decode cX8_expand 9 = .ok (.iastore, 1) := by decide +kernel
theorem dX8_expand_10 : decode cX8_expand 10 = .ok (.aload_n 0, 1) := by decide +kernel
theorem dX8_expand_11 : decode cX8_expand 11 = .ok (.getfield 19, 3) := by decide +kernel
theorem dX8_expand_14 : decode cX8_expand 14 = .ok (.sipush 400, 3) := by decide +kernel
theorem dX8_expand_17 : decode cX8_expand 17 = .ok (.iload_n 1, 1) := by decide +kernel
theorem dX8_expand_18 : decode cX8_expand 18 = .ok (.imul, 1) := by decide +kernel
theorem dX8_expand_19 : decode cX8_expand 19 = .ok (.aload_n 0, 1) := by decide +kernel
theorem dX8_expand_20 : decode cX8_expand 20 = .ok (.getfield 22, 3) := by decide +kernel
theorem dX8_expand_23 : decode cX8_expand 23 = .ok (.iload_n 1, 1) := by decide +kernel
theorem dX8_expand_24 : decode cX8_expand 24 = .ok (.iaload, 1) := by decide +kernel
theorem dX8_expand_25 : decode cX8_expand 25 = .ok (.iadd, 1) := by decide +kernel
theorem dX8_expand_26 : decode cX8_expand 26 = .ok (.iaload, 1) := by decide +kernel
theorem dX8_expand_27 : decode cX8_expand 27 = .ok (.istore_n 3, 1) := by decide +kernel
theorem dX8_expand_28 : decode cX8_expand 28 = .ok (.iload_n 3, 1) := by decide +kernel
theorem dX8_expand_29 : decode cX8_expand 29 = .ok (.tableswitch 201 1 7 #[43, 71, 78, 105, 136, 120, 171], 43) := by decide +kernel
theorem dX8_expand_72 : decode cX8_expand 72 = .ok (.iload_n 2, 1) := by decide +kernel
theorem dX8_expand_73 : decode cX8_expand 73 = .ok (.invokestatic 117, 3) := by decide +kernel
theorem dX8_expand_76 : decode cX8_expand 76 = .ok (.ifCond .eq 9, 3) := by decide +kernel
theorem dX8_expand_79 : decode cX8_expand 79 = .ok (.aload_n 0, 1) := by decide +kernel
theorem dX8_expand_80 : decode cX8_expand 80 = .ok (.iload_n 1, 1) := by decide +kernel
theorem dX8_expand_81 : decode cX8_expand 81 = .ok (.iconst 1, 1) := by decide +kernel
theorem dX8_expand_82 : decode cX8_expand 82 = .ok (.invokevirtual 120, 3) := by decide +kernel
theorem dX8_expand_85 : decode cX8_expand 85 = .ok (.iload_n 2, 1) := by decide +kernel
theorem dX8_expand_86 : decode cX8_expand 86 = .ok (.invokestatic 117, 3) := by decide +kernel
theorem dX8_expand_89 : decode cX8_expand 89 = .ok (.ifCond .eq 9, 3) := by decide +kernel
theorem dX8_expand_92 : decode cX8_expand 92 = .ok (.aload_n 0, 1) := by decide +kernel
theorem dX8_expand_93 : decode cX8_expand 93 = .ok (.iload_n 1, 1) := by decide +kernel
theorem dX8_expand_94 : decode cX8_expand 94 = .ok (.iconst 2, 1) := by decide +kernel
theorem dX8_expand_95 : decode cX8_expand 95 = .ok (.invokevirtual 120, 3) := by decide +kernel
theorem dX8_expand_98 : decode cX8_expand 98 = .ok (.iconst 1, 1) := by decide +kernel
theorem dX8_expand_99 : decode cX8_expand 99 = .ok (.ireturn, 1) := by decide +kernel
theorem dX8_expand_100 : decode cX8_expand 100 = .ok (.aload_n 0, 1) := by decide +kernel
theorem dX8_expand_101 : decode cX8_expand 101 = .ok (.iload_n 1, 1) := by decide +kernel
theorem dX8_expand_102 : decode cX8_expand 102 = .ok (.iload_n 2, 1) := by decide +kernel
theorem dX8_expand_103 : decode cX8_expand 103 = .ok (.invokevirtual 124, 3) := by decide +kernel
theorem dX8_expand_106 : decode cX8_expand 106 = .ok (.ireturn, 1) := by decide +kernel
theorem dX8_expand_107 : decode cX8_expand 107 = .ok (.iload_n 2, 1) := by decide +kernel
theorem dX8_expand_108 : decode cX8_expand 108 = .ok (.bipush 58, 2) := by decide +kernel
theorem dX8_expand_110 : decode cX8_expand 110 = .ok (.if_icmp .ne 9, 3) := by decide +kernel
theorem dX8_expand_113 : decode cX8_expand 113 = .ok (.aload_n 0, 1) := by decide +kernel
theorem dX8_expand_114 : decode cX8_expand 114 = .ok (.iload_n 1, 1) := by decide +kernel
theorem dX8_expand_115 : decode cX8_expand 115 = .ok (.iconst 2, 1) := by decide +kernel
theorem dX8_expand_116 : decode cX8_expand 116 = .ok (.invokevirtual 120, 3) := by decide +kernel
theorem dX8_expand_119 : decode cX8_expand 119 = .ok (.iload_n 2, 1) := by decide +kernel
theorem dX8_expand_120 : decode cX8_expand 120 = .ok (.bipush 58, 2) := by decide +kernel
theorem dX8_expand_122 : decode cX8_expand 122 = .ok (.if_icmp .ne 10, 3) := by decide +kernel
theorem dX8_expand_125 : decode cX8_expand 125 = .ok (.aload_n 0, 1) := by decide +kernel
theorem dX8_expand_126 : decode cX8_expand 126 = .ok (.iload_n 1, 1) := by decide +kernel
theorem dX8_expand_127 : decode cX8_expand 127 = .ok (.bipush 58, 2) := by decide +kernel
theorem dX8_expand_129 : decode cX8_expand 129 = .ok (.invokevirtual 120, 3) := by decide +kernel
theorem dX8_expand_132 : decode cX8_expand 132 = .ok (.iconst 1, 1) := by decide +kernel
theorem dX8_expand_133 : decode cX8_expand 133 = .ok (.ireturn, 1) := by decide +kernel
theorem dX8_expand_134 : decode cX8_expand 134 = .ok (.aload_n 0, 1) := by decide +kernel
theorem dX8_expand_135 : decode cX8_expand 135 = .ok (.iload_n 1, 1) := by decide +kernel
theorem dX8_expand_136 : decode cX8_expand 136 = .ok (.iconst 5, 1) := by decide +kernel
theorem dX8_expand_137 : decode cX8_expand 137 = .ok (.invokevirtual 120, 3) := by decide +kernel
theorem dX8_expand_140 : decode cX8_expand 140 = .ok (.aload_n 0, 1) := by decide +kernel
theorem dX8_expand_141 : decode cX8_expand 141 = .ok (.iload_n 1, 1) := by decide +kernel
theorem dX8_expand_142 : decode cX8_expand 142 = .ok (.bipush 6, 2) := by decide +kernel
theorem dX8_expand_144 : decode cX8_expand 144 = .ok (.invokevirtual 120, 3) := by decide +kernel
theorem dX8_expand_147 : decode cX8_expand 147 = .ok (.iconst 1, 1) := by decide +kernel
