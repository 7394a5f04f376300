theorem dX8_stack_25 : decode cX8_stack 25 = .ok (.invokevirtual 107, 3) := by decide +kernel
theorem dX8_stack_28 : decode cX8_stack 28 = .ok (.istore_n 3, 1) := by decide +kernel
theorem dX8_stack_29 : decode cX8_stack 29 = .ok (.iload_n 3, 1) := by decide +kernel
theorem dX8_stack_30 : decode cX8_stack 30 = .ok (.iconst (-1), 1) := by decide +kernel
theorem dX8_stack_31 : decode cX8_stack 31 = .ok (.if_icmp .ne 9, 3) := by decide +kernel
theorem dX8_stack_34 : decode cX8_stack 34 = .ok (.aload_n 0, 1) := by decide +kernel
theorem dX8_stack_35 : decode cX8_stack 35 = .ok (.iconst 1, 1) := by decide +kernel
theorem dX8_stack_36 : decode cX8_stack 36 = .ok (.invokevirtual 68, 3) := by decide +kernel
theorem dX8_stack_39 : decode cX8_stack 39 = .ok (.ireturn, 1) := by decide +kernel
theorem dX8_stack_40 : decode cX8_stack 40 = .ok (.aload_n 0, 1) := by decide +kernel
theorem dX8_stack_41 : decode cX8_stack 41 = .ok (.invokevirtual 142, 3) := by decide +kernel
theorem dX8_stack_44 : decode cX8_stack 44 = .ok (.ifCond .ne 9, 3) := by decide +kernel
theorem dX8_stack_47 : decode cX8_stack 47 = .ok (.aload_n 0, 1) := by decide +kernel
theorem dX8_stack_48 : decode cX8_stack 48 = .ok (.iconst 2, 1) := by decide +kernel
theorem dX8_stack_49 : decode cX8_stack 49 = .ok (.invokevirtual 68, 3) := by decide +kernel
theorem dX8_stack_52 : decode cX8_stack 52 = .ok (.ireturn, 1) := by decide +kernel
theorem dX8_stack_53 : decode cX8_stack 53 = .ok (.aload_n 0, 1) := by decide +kernel
theorem dX8_stack_54 : decode cX8_stack 54 = .ok (.invokevirtual 146, 3) := by decide +kernel
theorem dX8_stack_57 : decode cX8_stack 57 = .ok (.aload_n 0, 1) := by decide +kernel
theorem dX8_stack_58 : decode cX8_stack 58 = .ok (.getfield 31, 3) := by decide +kernel
theorem dX8_stack_61 : decode cX8_stack 61 = .ok (.bipush 80, 2) := by decide +kernel
theorem dX8_stack_63 : decode cX8_stack 63 = .ok (.iload_n 1, 1) := by decide +kernel
theorem dX8_stack_64 : decode cX8_stack 64 = .ok (.imul, 1) := by decide +kernel
theorem dX8_stack_65 : decode cX8_stack 65 = .ok (.iload_n 3, 1) := by decide +kernel
theorem dX8_stack_66 : decode cX8_stack 66 = .ok (.iadd, 1) := by decide +kernel
theorem dX8_stack_67 : decode cX8_stack 67 = .ok (.iaload, 1) := by decide +kernel
theorem dX8_stack_68 : decode cX8_stack 68 = .ok (.ireturn, 1) := by decide +kernel
theorem dX8_passes_0 : decode cX8_passes 0 = .ok (.aload_n 0, 1) := by decide +kernel
theorem dX8_passes_1 : decode cX8_passes 1 = .ok (.getfield 34, 3) := by decide +kernel
theorem dX8_passes_4 : decode cX8_passes 4 = .ok (.aload_n 0, 1) := by decide +kernel
theorem dX8_passes_5 : decode cX8_passes 5 = .ok (.getfield 152, 3) := by decide +kernel
theorem dX8_passes_8 : decode cX8_passes 8 = .ok (.iaload, 1) := by decide +kernel
theorem dX8_passes_9 : decode cX8_passes 9 = .ok (.iload_n 1, 1) := by decide +kernel
theorem dX8_passes_10 : decode cX8_passes 10 = .ok (.if_icmp .eq 5, 3) := by decide +kernel
theorem dX8_passes_13 : decode cX8_passes 13 = .ok (.iconst 0, 1) := by decide +kernel
theorem dX8_passes_14 : decode cX8_passes 14 = .ok (.ireturn, 1) := by decide +kernel
theorem dX8_passes_15 : decode cX8_passes 15 = .ok (.aload_n 0, 1) := by decide +kernel
theorem dX8_passes_16 : decode cX8_passes 16 = .ok (.dup, 1) := by decide +kernel
theorem dX8_passes_17 : decode cX8_passes 17 = .ok (.getfield 152, 3) := by decide +kernel
theorem dX8_passes_20 : decode cX8_passes 20 = .ok (.iconst 1, 1) := by decide +kernel
theorem dX8_passes_21 : decode cX8_passes 21 = .ok (.iadd, 1) := by decide +kernel
theorem dX8_passes_22 : decode cX8_passes 22 = .ok (.putfield 152, 3) := by decide +kernel
theorem dX8_passes_25 : decode cX8_passes 25 = .ok (.iconst 1, 1) := by decide +kernel
theorem dX8_passes_26 : decode cX8_passes 26 = .ok (.ireturn, 1) := by decide +kernel
theorem dX8_expression_0 : decode cX8_expression 0 = .ok (.aload_n 0, 1) := by decide +kernel
theorem dX8_expression_1 : decode cX8_expression 1 = .ok (.invokevirtual 155, 3) := by decide +kernel
theorem dX8_expression_4 : decode cX8_expression 4 = .ok (.istore_n 1, 1) := by decide +kernel
theorem dX8_expression_5 : decode cX8_expression 5 = .ok (.aload_n 0, 1) := by decide +kernel
theorem dX8_expression_6 : decode cX8_expression 6 = .ok (.getfield 34, 3) := by decide +kernel
theorem dX8_expression_9 : decode cX8_expression 9 = .ok (.aload_n 0, 1) := by decide +kernel
theorem dX8_expression_10 : decode cX8_expression 10 = .ok (.getfield 152, 3) := by decide +kernel
theorem dX8_expression_13 : decode cX8_expression 13 = .ok (.iaload, 1) := by decide +kernel
theorem dX8_expression_14 : decode cX8_expression 14 = .ok (.bipush 43, 2) := by decide +kernel
theorem dX8_expression_16 : decode cX8_expression 16 = .ok (.if_icmp .eq 17, 3) := by decide +kernel
theorem dX8_expression_19 : decode cX8_expression 19 = .ok (.aload_n 0, 1) := by decide +kernel
theorem dX8_expression_20 : decode cX8_expression 20 = .ok (.getfield 34, 3) := by decide +kernel
theorem dX8_expression_23 : decode cX8_expression 23 = .ok (.aload_n 0, 1) := by decide +kernel
theorem dX8_expression_24 : decode cX8_expression 24 = .ok (.getfield 152, 3) := by decide +kernel
theorem dX8_expression_27 : decode cX8_expression 27 = .ok (.iaload, 1) := by decide +kernel
theorem dX8_expression_28 : decode cX8_expression 28 = .ok (.bipush 45, 2) := by decide +kernel
theorem dX8_expression_30 : decode cX8_expression 30 = .ok (.if_icmp .ne 55, 3) := by decide +kernel
theorem dX8_expression_33 : decode cX8_expression 33 = .ok (.aload_n 0, 1) := by decide +kernel
theorem dX8_expression_34 : decode cX8_expression 34 = .ok (.getfield 34, 3) := by decide +kernel
theorem dX8_expression_37 : decode cX8_expression 37 = .ok (.aload_n 0, 1) := by decide +kernel
theorem dX8_expression_38 : decode cX8_expression 38 = .ok (.getfield 152, 3) := by decide +kernel
theorem dX8_expression_41 : decode cX8_expression 41 = .ok (.iaload, 1) := by decide +kernel
theorem dX8_expression_42 : decode cX8_expression 42 = .ok (.bipush 43, 2) := by decide +kernel
theorem dX8_expression_44 : decode cX8_expression 44 = .ok (.if_icmp .ne 7, 3) := by decide +kernel
theorem dX8_expression_47 : decode cX8_expression 47 = .ok (.iconst 1, 1) := by decide +kernel
theorem dX8_expression_48 : decode cX8_expression 48 = .ok (.goto 4, 3) := by decide +kernel
theorem dX8_expression_51 : decode cX8_expression 51 = .ok (.iconst 0, 1) := by decide +kernel
theorem dX8_expression_52 : decode cX8_expression 52 = .ok (.istore_n 2, 1) := by decide +kernel
theorem dX8_expression_53 : decode cX8_expression 53 = .ok (.aload_n 0, 1) := by decide +kernel
theorem dX8_expression_54 : decode cX8_expression 54 = .ok (.dup, 1) := by decide +kernel
theorem dX8_expression_55 : decode cX8_expression 55 = .ok (.getfield 152, 3) := by decide +kernel
theorem dX8_expression_58 : decode cX8_expression 58 = .ok (.iconst 1, 1) := by decide +kernel
theorem dX8_expression_59 : decode cX8_expression 59 = .ok (.iadd, 1) := by decide +kernel
theorem dX8_expression_60 : decode cX8_expression 60 = .ok (.putfield 152, 3) := by decide +kernel
theorem dX8_expression_63 : decode cX8_expression 63 = .ok (.aload_n 0, 1) := by decide +kernel
theorem dX8_expression_64 : decode cX8_expression 64 = .ok (.invokevirtual 155, 3) := by decide +kernel
theorem dX8_expression_67 : decode cX8_expression 67 = .ok (.istore_n 3, 1) := by decide +kernel
theorem dX8_expression_68 : decode cX8_expression 68 = .ok (.iload_n 2, 1) := by decide +kernel
theorem dX8_expression_69 : decode cX8_expression 69 = .ok (.ifCond .eq 9, 3) := by decide +kernel
theorem dX8_expression_72 : decode cX8_expression 72 = .ok (.iload_n 1, 1) := by decide +kernel
theorem dX8_expression_73 : decode cX8_expression 73 = .ok (.iload_n 3, 1) := by decide +kernel
theorem dX8_expression_74 : decode cX8_expression 74 = .ok (.iadd, 1) := by decide +kernel
theorem dX8_expression_75 : decode cX8_expression 75 = .ok (.goto 6, 3) := by decide +kernel
theorem dX8_expression_78 : decode cX8_expression 78 = .ok (.iload_n 1, 1) := by decide +kernel
theorem dX8_expression_79 : decode cX8_expression 79 = .ok (.iload_n 3, 1) := by decide +kernel
theorem dX8_expression_80 : decode cX8_expression 80 = .ok (.isub, 1) := by decide +kernel
theorem dX8_expression_81 : decode cX8_expression 81 = .ok (.istore_n 1, 1) := by decide +kernel
theorem dX8_expression_82 : decode cX8_expression 82 = .ok (.goto (-77), 3) := by decide +kernel
theorem dX8_expression_85 : decode cX8_expression 85 = .ok (.iload_n 1, 1) := by decide +kernel
theorem dX8_expression_86 : decode cX8_expression 86 = .ok (.ireturn, 1) := by decide +kernel
theorem dX8_term_0 : decode cX8_term 0 = .ok (.aload_n 0, 1) := by decide +kernel
theorem dX8_term_1 : decode cX8_term 1 = .ok (.invokevirtual 158, 3) := by decide +kernel
theorem dX8_term_4 : decode cX8_term 4 = .ok (.istore_n 1, 1) := by decide +kernel
theorem dX8_term_5 : decode cX8_term 5 = .ok (.aload_n 0, 1) := by decide +kernel
theorem dX8_term_6 : decode cX8_term 6 = .ok (.bipush 42, 2) := by decide +kernel
theorem dX8_term_8 : decode cX8_term 8 = .ok (.invokevirtual 161, 3) := by decide +kernel
theorem dX8_term_11 : decode cX8_term 11 = .ok (.ifCond .eq 13, 3) := by decide +kernel
theorem dX8_term_14 : decode cX8_term 14 = .ok (.iload_n 1, 1) := by decide +kernel
theorem dX8_term_15 : decode cX8_term 15 = .ok (.aload_n 0, 1) := by decide +kernel
theorem dX8_term_16 : decode cX8_term 16 = .ok (.invokevirtual 158, 3) := by decide +kernel
theorem dX8_term_19 : decode cX8_term 19 = .ok (.imul, 1) := by decide +kernel
theorem dX8_term_20 : decode cX8_term 20 = .ok (.istore_n 1, 1) := by decide +kernel
theorem dX8_term_21 : decode cX8_term 21 = .ok (.goto (-16), 3) := by decide +kernel
theorem dX8_term_24 : decode cX8_term 24 = .ok (.iload_n 1, 1) := by decide +kernel
theorem dX8_term_25 : decode cX8_term 25 = .ok (.ireturn, 1) := by decide +kernel
theorem dX8_factor_0 : decode cX8_factor 0 = .ok (.aload_n 0, 1) := by decide +kernel
theorem dX8_factor_1 : decode cX8_factor 1 = .ok (.getfield 34, 3) := by decide +kernel
theorem dX8_factor_4 : decode cX8_factor 4 = .ok (.aload_n 0, 1) := by decide +kernel
theorem dX8_factor_5 : decode cX8_factor 5 = .ok (.getfield 152, 3) := by decide +kernel
theorem dX8_factor_8 : decode cX8_factor 8 = .ok (.iaload, 1) := by decide +kernel
theorem dX8_factor_9 : decode cX8_factor 9 = .ok (.istore_n 1, 1) := by decide +kernel
theorem dX8_factor_10 : decode cX8_factor 10 = .ok (.aload_n 0, 1) := by decide +kernel
theorem dX8_factor_11 : decode cX8_factor 11 = .ok (.dup, 1) := by decide +kernel
theorem dX8_factor_12 : decode cX8_factor 12 = .ok (.getfield 152, 3) := by decide +kernel
theorem dX8_factor_15 : decode cX8_factor 15 = .ok (.iconst 1, 1) := by decide +kernel
theorem dX8_factor_16 : decode cX8_factor 16 = .ok (.iadd, 1) := by decide +kernel
theorem dX8_factor_17 : decode cX8_factor 17 = .ok (.putfield 152, 3) := by decide +kernel
theorem dX8_factor_20 : decode cX8_factor 20 = .ok (.iload_n 1, 1) := by decide +kernel
theorem dX8_factor_21 : decode cX8_factor 21 = .ok (.bipush 45, 2) := by decide +kernel
theorem dX8_factor_23 : decode cX8_factor 23 = .ok (.if_icmp .ne 9, 3) := by decide +kernel
theorem dX8_factor_26 : decode cX8_factor 26 = .ok (.aload_n 0, 1) := by decide +kernel
theorem dX8_factor_27 : decode cX8_factor 27 = .ok (.invokevirtual 158, 3) := by decide +kernel
theorem dX8_factor_30 : decode cX8_factor 30 = .ok (.ineg, 1) := by decide +kernel
theorem dX8_factor_31 : decode cX8_factor 31 = .ok (.ireturn, 1) := by decide +kernel
theorem dX8_factor_32 : decode cX8_factor 32 = .ok (.iload_n 1, 1) := by decide +kernel
theorem dX8_factor_33 : decode cX8_factor 33 = .ok (.bipush 40, 2) := by decide +kernel
theorem dX8_factor_35 : decode cX8_factor 35 = .ok (.if_icmp .ne 20, 3) := by decide +kernel
theorem dX8_factor_38 : decode cX8_factor 38 = .ok (.aload_n 0, 1) := by decide +kernel
theorem dX8_factor_39 : decode cX8_factor 39 = .ok (.invokevirtual 164, 3) := by decide +kernel
theorem dX8_factor_42 : decode cX8_factor 42 = .ok (.istore_n 2, 1) := by decide +kernel
theorem dX8_factor_43 : decode cX8_factor 43 = .ok (.aload_n 0, 1) := by decide +kernel
theorem dX8_factor_44 : decode cX8_factor 44 = .ok (.dup, 1) := by decide +kernel
theorem dX8_factor_45 : decode cX8_factor 45 = .ok (.getfield 152, 3) := by decide +kernel
theorem dX8_factor_48 : decode cX8_factor 48 = .ok (.iconst 1, 1) := by decide +kernel
theorem dX8_factor_49 : decode cX8_factor 49 = .ok (.iadd, 1) := by decide +kernel
theorem dX8_factor_50 : decode cX8_factor 50 = .ok (.putfield 152, 3) := by decide +kernel
theorem dX8_factor_53 : decode cX8_factor 53 = .ok (.iload_n 2, 1) := by decide +kernel
theorem dX8_factor_54 : decode cX8_factor 54 = .ok (.ireturn, 1) := by decide +kernel
theorem dX8_factor_55 : decode cX8_factor 55 = .ok (.iload_n 1, 1) := by decide +kernel
theorem dX8_factor_56 : decode cX8_factor 56 = .ok (.invokestatic 114, 3) := by decide +kernel
theorem dX8_factor_59 : decode cX8_factor 59 = .ok (.ifCond .eq 15, 3) := by decide +kernel
theorem dX8_factor_62 : decode cX8_factor 62 = .ok (.aload_n 0, 1) := by decide +kernel
theorem dX8_factor_63 : decode cX8_factor 63 = .ok (.getfield 37, 3) := by decide +kernel
theorem dX8_factor_66 : decode cX8_factor 66 = .ok (.iload_n 1, 1) := by decide +kernel
theorem dX8_factor_67 : decode cX8_factor 67 = .ok (.bipush 97, 2) := by decide +kernel
theorem dX8_factor_69 : decode cX8_factor 69 = .ok (.isub, 1) := by decide +kernel
theorem dX8_factor_70 : decode cX8_factor 70 = .ok (.iaload, 1) := by decide +kernel
theorem dX8_factor_71 : decode cX8_factor 71 = .ok (.goto 7, 3) := by decide +kernel
theorem dX8_factor_74 : decode cX8_factor 74 = .ok (.iload_n 1, 1) := by decide +kernel
theorem dX8_factor_75 : decode cX8_factor 75 = .ok (.bipush 48, 2) := by decide +kernel
theorem dX8_factor_77 : decode cX8_factor 77 = .ok (.isub, 1) := by decide +kernel
theorem dX8_factor_78 : decode cX8_factor 78 = .ok (.ireturn, 1) := by decide +kernel
theorem dX8_statement_0 : decode cX8_statement 0 = .ok (.aload_n 0, 1) := by decide +kernel
theorem dX8_statement_1 : decode cX8_statement 1 = .ok (.getfield 34, 3) := by decide +kernel
theorem dX8_statement_4 : decode cX8_statement 4 = .ok (.aload_n 0, 1) := by decide +kernel
theorem dX8_statement_5 : decode cX8_statement 5 = .ok (.getfield 152, 3) := by decide +kernel
theorem dX8_statement_8 : decode cX8_statement 8 = .ok (.iaload, 1) := by decide +kernel
theorem dX8_statement_9 : decode cX8_statement 9 = .ok (.istore_n 2, 1) := by decide +kernel
theorem dX8_statement_10 : decode cX8_statement 10 = .ok (.aload_n 0, 1) := by decide +kernel
theorem dX8_statement_11 : decode cX8_statement 11 = .ok (.dup, 1) := by decide +kernel
theorem dX8_statement_12 : decode cX8_statement 12 = .ok (.getfield 152, 3) := by decide +kernel
theorem dX8_statement_15 : decode cX8_statement 15 = .ok (.iconst 1, 1) := by decide +kernel
theorem dX8_statement_16 : decode cX8_statement 16 = .ok (.iadd, 1) := by decide +kernel
theorem dX8_statement_17 : decode cX8_statement 17 = .ok (.putfield 152, 3) := by decide +kernel
theorem dX8_statement_20 : decode cX8_statement 20 = .ok (.iload_n 2, 1) := by decide +kernel
theorem dX8_statement_21 : decode cX8_statement 21 = .ok (.bipush 123, 2) := by decide +kernel
theorem dX8_statement_23 : decode cX8_statement 23 = .ok (.if_icmp .ne 38, 3) := by decide +kernel
theorem dX8_statement_26 : decode cX8_statement 26 = .ok (.aload_n 0, 1) := by decide +kernel
theorem dX8_statement_27 : decode cX8_statement 27 = .ok (.getfield 34, 3) := by decide +kernel
theorem dX8_statement_30 : decode cX8_statement 30 = .ok (.aload_n 0, 1) := by decide +kernel
theorem dX8_statement_31 : decode cX8_statement 31 = .ok (.getfield 152, 3) := by decide +kernel
theorem dX8_statement_34 : decode cX8_statement 34 = .ok (.iaload, 1) := by decide +kernel
theorem dX8_statement_35 : decode cX8_statement 35 = .ok (.bipush 125, 2) := by decide +kernel
theorem dX8_statement_37 : decode cX8_statement 37 = .ok (.if_icmp .eq 11, 3) := by decide +kernel
theorem dX8_statement_40 : decode cX8_statement 40 = .ok (.aload_n 0, 1) := by decide +kernel
theorem dX8_statement_41 : decode cX8_statement 41 = .ok (.iload_n 1, 1) := by decide +kernel
theorem dX8_statement_42 : decode cX8_statement 42 = .ok (.invokevirtual 167, 3) := by decide +kernel
theorem dX8_statement_45 : decode cX8_statement 45 = .ok (.goto (-19), 3) := by decide +kernel
theorem dX8_statement_48 : decode cX8_statement 48 = .ok (.aload_n 0, 1) := by decide +kernel
theorem dX8_statement_49 : decode cX8_statement 49 = .ok (.dup, 1) := by decide +kernel
theorem dX8_statement_50 : decode cX8_statement 50 = .ok (.getfield 152, 3) := by decide +kernel
theorem dX8_statement_53 : decode cX8_statement 53 = .ok (.iconst 1, 1) := by decide +kernel
theorem dX8_statement_54 : decode cX8_statement 54 = .ok (.iadd, 1) := by decide +kernel
theorem dX8_statement_55 : decode cX8_statement 55 = .ok (.putfield 152, 3) := by decide +kernel
theorem dX8_statement_58 : decode cX8_statement 58 = .ok (.goto 151, 3) := by decide +kernel
theorem dX8_statement_61 : decode cX8_statement 61 = .ok (.iload_n 2, 1) := by decide +kernel
theorem dX8_statement_62 : decode cX8_statement 62 = .ok (.bipush 63, 2) := by decide +kernel
theorem dX8_statement_64 : decode cX8_statement 64 = .ok (.if_icmp .ne 62, 3) := by decide +kernel
theorem dX8_statement_67 : decode cX8_statement 67 = .ok (.aload_n 0, 1) := by decide +kernel
theorem dX8_statement_68 : decode cX8_statement 68 = .ok (.invokevirtual 164, 3) := by decide +kernel
theorem dX8_statement_71 : decode cX8_statement 71 = .ok (.ifCond .eq 7, 3) := by decide +kernel
theorem dX8_statement_74 : decode cX8_statement 74 = .ok (.iconst 1, 1) := by decide +kernel
theorem dX8_statement_75 : decode cX8_statement 75 = .ok (.goto 4, 3) := by decide +kernel
theorem dX8_statement_78 : decode cX8_statement 78 = .ok (.iconst 0, 1) := by decide +kernel
theorem dX8_statement_79 : decode cX8_statement 79 = .ok (.istore_n 3, 1) := by decide +kernel
theorem dX8_statement_80 : decode cX8_statement 80 = .ok (.aload_n 0, 1) := by decide +kernel
theorem dX8_statement_81 : decode cX8_statement 81 = .ok (.iload_n 1, 1) := by decide +kernel
theorem dX8_statement_82 : decode cX8_statement 82 = .ok (.ifCond .eq 11, 3) := by decide +kernel
theorem dX8_statement_85 : decode cX8_statement 85 = .ok (.iload_n 3, 1) := by decide +kernel
theorem dX8_statement_86 : decode cX8_statement 86 = .ok (.ifCond .eq 7, 3) := by decide +kernel
theorem dX8_statement_89 : decode cX8_statement 89 = .ok (.iconst 1, 1) := by decide +kernel
theorem dX8_statement_90 : decode cX8_statement 90 = .ok (.goto 4, 3) := by decide +kernel
theorem dX8_statement_93 : decode cX8_statement 93 = .ok (.iconst 0, 1) := by decide +kernel
theorem dX8_statement_94 : decode cX8_statement 94 = .ok (.invokevirtual 167, 3) := by decide +kernel
theorem dX8_statement_97 : decode cX8_statement 97 = .ok (.aload_n 0, 1) := by decide +kernel
theorem dX8_statement_98 : decode cX8_statement 98 = .ok (.bipush 58, 2) := by decide +kernel
theorem dX8_statement_100 : decode cX8_statement 100 = .ok (.invokevirtual 161, 3) := by decide +kernel
theorem dX8_statement_103 : decode cX8_statement 103 = .ok (.ifCond .eq 20, 3) := by decide +kernel
theorem dX8_statement_106 : decode cX8_statement 106 = .ok (.aload_n 0, 1) := by decide +kernel
theorem dX8_statement_107 : decode cX8_statement 107 = .ok (.iload_n 1, 1) := by decide +kernel
theorem dX8_statement_108 : decode cX8_statement 108 = .ok (.ifCond .eq 11, 3) := by decide +kernel
theorem dX8_statement_111 : decode cX8_statement 111 = .ok (.iload_n 3, 1) := by decide +kernel
theorem dX8_statement_112 : decode cX8_statement 112 = .ok (.ifCond .ne 7, 3) := by decide +kernel
theorem dX8_statement_115 : decode cX8_statement 115 = .ok (.iconst 1, 1) := by decide +kernel
theorem dX8_statement_116 : decode cX8_statement 116 = .ok (.goto 4, 3) := by decide +kernel
theorem dX8_statement_119 : decode cX8_statement 119 = .ok (.iconst 0, 1) := by decide +kernel
theorem dX8_statement_120 : decode cX8_statement 120 = .ok (.invokevirtual 167, 3) := by decide +kernel
theorem dX8_statement_123 : decode cX8_statement 123 = .ok (.goto 86, 3) := by decide +kernel
theorem dX8_statement_126 : decode cX8_statement 126 = .ok (.iload_n 2, 1) := by decide +kernel
theorem dX8_statement_127 : decode cX8_statement 127 = .ok (.invokestatic 114, 3) := by decide +kernel
theorem dX8_statement_130 : decode cX8_statement 130 = .ok (.ifCond .eq 13, 3) := by decide +kernel
theorem dX8_statement_133 : decode cX8_statement 133 = .ok (.aload_n 0, 1) := by decide +kernel
theorem dX8_statement_134 : decode cX8_statement 134 = .ok (.dup, 1) := by decide +kernel
theorem dX8_statement_135 : decode cX8_statement 135 = .ok (.getfield 152, 3) := by decide +kernel
theorem dX8_statement_138 : decode cX8_statement 138 = .ok (.iconst 1, 1) := by decide +kernel
theorem dX8_statement_139 : decode cX8_statement 139 = .ok (.iadd, 1) := by decide +kernel
theorem dX8_statement_140 : decode cX8_statement 140 = .ok (.putfield 152, 3) := by decide +kernel
theorem dX8_statement_143 : decode cX8_statement 143 = .ok (.aload_n 0, 1) := by decide +kernel
theorem dX8_statement_144 : decode cX8_statement 144 = .ok (.invokevirtual 164, 3) := by decide +kernel
theorem dX8_statement_147 : decode cX8_statement 147 = .ok (.istore_n 3, 1) := by decide +kernel
theorem dX8_statement_148 : decode cX8_statement 148 = .ok (.aload_n 0, 1) := by decide +kernel
theorem dX8_statement_149 : decode cX8_statement 149 = .ok (.dup, 1) := by decide +kernel
theorem dX8_statement_150 : decode cX8_statement 150 = .ok (.getfield 152, 3) := by decide +kernel
theorem dX8_statement_153 : decode cX8_statement 153 = .ok (.iconst 1, 1) := by decide +kernel
theorem dX8_statement_154 : decode cX8_statement 154 = .ok (.iadd, 1) := by decide +kernel
theorem dX8_statement_155 : decode cX8_statement 155 = .ok (.putfield 152, 3) := by decide +kernel
theorem dX8_statement_158 : decode cX8_statement 158 = .ok (.iload_n 1, 1) := by decide +kernel
theorem dX8_statement_159 : decode cX8_statement 159 = .ok (.ifCond .eq 20, 3) := by decide +kernel
theorem dX8_statement_162 : decode cX8_statement 162 = .ok (.iload_n 2, 1) := by decide +kernel
theorem dX8_statement_163 : decode cX8_statement 163 = .ok (.invokestatic 114, 3) := by decide +kernel
theorem dX8_statement_166 : decode cX8_statement 166 = .ok (.ifCond .eq 13, 3) := by decide +kernel
theorem dX8_statement_169 : decode cX8_statement 169 = .ok (.aload_n 0, 1) := by decide +kernel
theorem dX8_statement_170 : decode cX8_statement 170 = .ok (.getfield 37, 3) := by decide +kernel
theorem dX8_statement_173 : decode cX8_statement 173 = .ok (.iload_n 2, 1) := by decide +kernel
theorem dX8_statement_174 : decode cX8_statement 174 = .ok (.bipush 97, 2) := by decide +kernel
theorem dX8_statement_176 : decode cX8_statement 176 = .ok (.isub, 1) := by decide +kernel
theorem dX8_statement_177 : decode cX8_statement 177 = .ok (.iload_n 3, 1) := by decide +kernel
theorem dX8_statement_178 : decode cX8_statement 178 = .ok (.iastore, 1) := by decide +kernel
theorem dX8_statement_179 : decode cX8_statement 179 = .ok (.iload_n 1, 1) := by decide +kernel
theorem dX8_statement_180 : decode cX8_statement 180 = .ok (.ifCond .eq 29, 3) := by decide +kernel
theorem dX8_statement_183 : decode cX8_statement 183 = .ok (.iload_n 2, 1) := by decide +kernel
theorem dX8_statement_184 : decode cX8_statement 184 = .ok (.bipush 33, 2) := by decide +kernel
theorem dX8_statement_186 : decode cX8_statement 186 = .ok (.if_icmp .ne 23, 3) := by decide +kernel
theorem dX8_statement_189 : decode cX8_statement 189 = .ok (.aload_n 0, 1) := by decide +kernel
theorem dX8_statement_190 : decode cX8_statement 190 = .ok (.getfield 40, 3) := by decide +kernel
theorem dX8_statement_193 : decode cX8_statement 193 = .ok (.aload_n 0, 1) := by decide +kernel
theorem dX8_statement_194 : decode cX8_statement 194 = .ok (.getfield 171, 3) := by decide +kernel
theorem dX8_statement_197 : decode cX8_statement 197 = .ok (.iload_n 3, 1) := by decide +kernel
theorem dX8_statement_198 : decode cX8_statement 198 = .ok (.iastore, 1) := by decide +kernel
theorem dX8_statement_199 : decode cX8_statement 199 = .ok (.aload_n 0, 1) := by decide +kernel
theorem dX8_statement_200 : decode cX8_statement 200 = .ok (.dup, 1) := by decide +kernel
theorem dX8_statement_201 : decode cX8_statement 201 = .ok (.getfield 171, 3) := by decide +kernel
theorem dX8_statement_204 : decode cX8_statement 204 = .ok (.iconst 1, 1) := by decide +kernel
theorem dX8_statement_205 : decode cX8_statement 205 = .ok (.iadd, 1) := by decide +kernel
theorem dX8_statement_206 : decode cX8_statement 206 = .ok (.putfield 171, 3) := by decide +kernel
theorem dX8_statement_209 : decode cX8_statement 209 = .ok (.return_, 1) := by decide +kernel
theorem dX8_run_0 : decode cX8_run 0 = .ok (.iconst 0, 1) := by decide +kernel
theorem dX8_run_1 : decode cX8_run 1 = .ok (.istore_n 2, 1) := by decide +kernel
theorem dX8_run_2 : decode cX8_run 2 = .ok (.iconst 0, 1) := by decide +kernel
theorem dX8_run_3 : decode cX8_run 3 = .ok (.istore_n 3, 1) := by decide +kernel
theorem dX8_run_4 : decode cX8_run 4 = .ok (.iload_n 3, 1) := by decide +kernel
theorem dX8_run_5 : decode cX8_run 5 = .ok (.aload_n 0, 1) := by decide +kernel
theorem dX8_run_6 : decode cX8_run 6 = .ok (.getfield 47, 3) := by decide +kernel
theorem dX8_run_9 : decode cX8_run 9 = .ok (.if_icmp .ge 48, 3) := by decide +kernel
theorem dX8_run_12 : decode cX8_run 12 = .ok (.aload_n 0, 1) := by decide +kernel
theorem dX8_run_13 : decode cX8_run 13 = .ok (.iload_n 3, 1) := by decide +kernel
theorem dX8_run_14 : decode cX8_run 14 = .ok (.invokevirtual 90, 3) := by decide +kernel
theorem dX8_run_17 : decode cX8_run 17 = .ok (.ifCond .eq 34, 3) := by decide +kernel
theorem dX8_run_20 : decode cX8_run 20 = .ok (.aload_n 0, 1) := by decide +kernel
theorem dX8_run_21 : decode cX8_run 21 = .ok (.getfield 13, 3) := by decide +kernel
theorem dX8_run_24 : decode cX8_run 24 = .ok (.iload_n 3, 1) := by decide +kernel
theorem dX8_run_25 : decode cX8_run 25 = .ok (.iaload, 1) := by decide +kernel
theorem dX8_run_26 : decode cX8_run 26 = .ok (.iload_n 1, 1) := by decide +kernel
theorem dX8_run_27 : decode cX8_run 27 = .ok (.invokestatic 93, 3) := by decide +kernel
theorem dX8_run_30 : decode cX8_run 30 = .ok (.ifCond .ne 6, 3) := by decide +kernel
theorem dX8_run_33 : decode cX8_run 33 = .ok (.goto 18, 3) := by decide +kernel
theorem dX8_run_36 : decode cX8_run 36 = .ok (.aload_n 0, 1) := by decide +kernel
theorem dX8_run_37 : decode cX8_run 37 = .ok (.getfield 34, 3) := by decide +kernel
theorem dX8_run_40 : decode cX8_run 40 = .ok (.iload_n 2, 1) := by decide +kernel
theorem dX8_run_41 : decode cX8_run 41 = .ok (.aload_n 0, 1) := by decide +kernel
theorem dX8_run_42 : decode cX8_run 42 = .ok (.getfield 9, 3) := by decide +kernel
theorem dX8_run_45 : decode cX8_run 45 = .ok (.iload_n 3, 1) := by decide +kernel
theorem dX8_run_46 : decode cX8_run 46 = .ok (.iaload, 1) := by decide +kernel
theorem dX8_run_47 : decode cX8_run 47 = .ok (.iastore, 1) := by decide +kernel
theorem dX8_run_48 : decode cX8_run 48 = .ok (.iinc 2 1, 3) := by decide +kernel
theorem dX8_run_51 : decode cX8_run 51 = .ok (.iinc 3 1, 3) := by decide +kernel
theorem dX8_run_54 : decode cX8_run 54 = .ok (.goto (-50), 3) := by decide +kernel
theorem dX8_run_57 : decode cX8_run 57 = .ok (.aload_n 0, 1) := by decide +kernel
theorem dX8_run_58 : decode cX8_run 58 = .ok (.getfield 34, 3) := by decide +kernel
theorem dX8_run_61 : decode cX8_run 61 = .ok (.iload_n 2, 1) := by decide +kernel
theorem dX8_run_62 : decode cX8_run 62 = .ok (.iconst 0, 1) := by decide +kernel
theorem dX8_run_63 : decode cX8_run 63 = .ok (.iastore, 1) := by decide +kernel
theorem dX8_run_64 : decode cX8_run 64 = .ok (.aload_n 0, 1) := by decide +kernel
theorem dX8_run_65 : decode cX8_run 65 = .ok (.iconst 0, 1) := by decide +kernel
theorem dX8_run_66 : decode cX8_run 66 = .ok (.putfield 152, 3) := by decide +kernel
theorem dX8_run_69 : decode cX8_run 69 = .ok (.aload_n 0, 1) := by decide +kernel
theorem dX8_run_70 : decode cX8_run 70 = .ok (.iconst 0, 1) := by decide +kernel
theorem dX8_run_71 : decode cX8_run 71 = .ok (.putfield 171, 3) := by decide +kernel
theorem dX8_run_74 : decode cX8_run 74 = .ok (.iconst 0, 1) := by decide +kernel
theorem dX8_run_75 : decode cX8_run 75 = .ok (.istore_n 3, 1) := by decide +kernel
theorem dX8_run_76 : decode cX8_run 76 = .ok (.iload_n 3, 1) := by decide +kernel
theorem dX8_run_77 : decode cX8_run 77 = .ok (.iconst 4, 1) := by decide +kernel
theorem dX8_run_78 : decode cX8_run 78 = .ok (.if_icmp .ge 16, 3) := by decide +kernel
theorem dX8_run_81 : decode cX8_run 81 = .ok (.aload_n 0, 1) := by decide +kernel
theorem dX8_run_82 : decode cX8_run 82 = .ok (.getfield 37, 3) := by decide +kernel
theorem dX8_run_85 : decode cX8_run 85 = .ok (.iload_n 3, 1) := by decide +kernel
theorem dX8_run_86 : decode cX8_run 86 = .ok (.iconst 0, 1) := by decide +kernel
theorem dX8_run_87 : decode cX8_run 87 = .ok (.iastore, 1) := by decide +kernel
theorem dX8_run_88 : decode cX8_run 88 = .ok (.iinc 3 1, 3) := by decide +kernel
theorem dX8_run_91 : decode cX8_run 91 = .ok (.goto (-15), 3) := by decide +kernel
theorem dX8_run_94 : decode cX8_run 94 = .ok (.aload_n 0, 1) := by decide +kernel
theorem dX8_run_95 : decode cX8_run 95 = .ok (.getfield 152, 3) := by decide +kernel
theorem dX8_run_98 : decode cX8_run 98 = .ok (.iload_n 2, 1) := by decide +kernel
theorem dX8_run_99 : decode cX8_run 99 = .ok (.if_icmp .ge 11, 3) := by decide +kernel
theorem dX8_run_102 : decode cX8_run 102 = .ok (.aload_n 0, 1) := by decide +kernel
theorem dX8_run_103 : decode cX8_run 103 = .ok (.iconst 1, 1) := by decide +kernel
theorem dX8_run_104 : decode cX8_run 104 = .ok (.invokevirtual 167, 3) := by decide +kernel
theorem dX8_run_107 : decode cX8_run 107 = .ok (.goto (-13), 3) := by decide +kernel
theorem dX8_run_110 : decode cX8_run 110 = .ok (.return_, 1) := by decide +kernel
theorem dX8_asks_0 : decode cX8_asks 0 = .ok (.aload_n 0, 1) := by decide +kernel
theorem dX8_asks_1 : decode cX8_asks 1 = .ok (.iload_n 1, 1) := by decide +kernel
theorem dX8_asks_2 : decode cX8_asks 2 = .ok (.invokestatic 101, 3) := by decide +kernel
theorem dX8_asks_5 : decode cX8_asks 5 = .ok (.ifCond .ne 7, 3) := by decide +kernel
theorem dX8_asks_8 : decode cX8_asks 8 = .ok (.iconst 1, 1) := by decide +kernel
theorem dX8_asks_9 : decode cX8_asks 9 = .ok (.goto 15, 3) := by decide +kernel
theorem dX8_asks_12 : decode cX8_asks 12 = .ok (.aload_n 0, 1) := by decide +kernel
theorem dX8_asks_13 : decode cX8_asks 13 = .ok (.invokevirtual 142, 3) := by decide +kernel
theorem dX8_asks_16 : decode cX8_asks 16 = .ok (.ifCond .ne 7, 3) := by decide +kernel
theorem dX8_asks_19 : decode cX8_asks 19 = .ok (.iconst 2, 1) := by decide +kernel
theorem dX8_asks_20 : decode cX8_asks 20 = .ok (.goto 4, 3) := by decide +kernel
theorem dX8_asks_23 : decode cX8_asks 23 = .ok (.iconst 0, 1) := by decide +kernel
theorem dX8_asks_24 : decode cX8_asks 24 = .ok (.putfield 43, 3) := by decide +kernel
theorem dX8_asks_27 : decode cX8_asks 27 = .ok (.aload_n 0, 1) := by decide +kernel
theorem dX8_asks_28 : decode cX8_asks 28 = .ok (.getfield 43, 3) := by decide +kernel
theorem dX8_asks_31 : decode cX8_asks 31 = .ok (.ifCond .eq 5, 3) := by decide +kernel
theorem dX8_asks_34 : decode cX8_asks 34 = .ok (.iconst 0, 1) := by decide +kernel
theorem dX8_asks_35 : decode cX8_asks 35 = .ok (.ireturn, 1) := by decide +kernel
theorem dX8_asks_36 : decode cX8_asks 36 = .ok (.aload_n 0, 1) := by decide +kernel
theorem dX8_asks_37 : decode cX8_asks 37 = .ok (.invokevirtual 146, 3) := by decide +kernel
theorem dX8_asks_40 : decode cX8_asks 40 = .ok (.aload_n 0, 1) := by decide +kernel
theorem dX8_asks_41 : decode cX8_asks 41 = .ok (.getfield 25, 3) := by decide +kernel
theorem dX8_asks_44 : decode cX8_asks 44 = .ok (.iload_n 1, 1) := by decide +kernel
theorem dX8_asks_45 : decode cX8_asks 45 = .ok (.iaload, 1) := by decide +kernel
theorem dX8_asks_46 : decode cX8_asks 46 = .ok (.iconst (-1), 1) := by decide +kernel
theorem dX8_asks_47 : decode cX8_asks 47 = .ok (.if_icmp .eq 11, 3) := by decide +kernel
theorem dX8_asks_50 : decode cX8_asks 50 = .ok (.aload_n 0, 1) := by decide +kernel
theorem dX8_asks_51 : decode cX8_asks 51 = .ok (.iconst 3, 1) := by decide +kernel
theorem dX8_asks_52 : decode cX8_asks 52 = .ok (.putfield 43, 3) := by decide +kernel
theorem dX8_asks_55 : decode cX8_asks 55 = .ok (.goto 8, 3) := by decide +kernel
theorem dX8_asks_58 : decode cX8_asks 58 = .ok (.aload_n 0, 1) := by decide +kernel
theorem dX8_asks_59 : decode cX8_asks 59 = .ok (.iload_n 1, 1) := by decide +kernel
theorem dX8_asks_60 : decode cX8_asks 60 = .ok (.invokevirtual 174, 3) := by decide +kernel
theorem dX8_asks_63 : decode cX8_asks 63 = .ok (.aload_n 0, 1) := by decide +kernel
theorem dX8_asks_64 : decode cX8_asks 64 = .ok (.getfield 43, 3) := by decide +kernel
theorem dX8_asks_67 : decode cX8_asks 67 = .ok (.ifCond .ne 7, 3) := by decide +kernel
theorem dX8_asks_70 : decode cX8_asks 70 = .ok (.iconst 1, 1) := by decide +kernel
theorem dX8_asks_71 : decode cX8_asks 71 = .ok (.goto 4, 3) := by decide +kernel
theorem dX8_asks_74 : decode cX8_asks 74 = .ok (.iconst 0, 1) := by decide +kernel
theorem dX8_asks_75 : decode cX8_asks 75 = .ok (.ireturn, 1) := by decide +kernel
theorem dX8_outputs_0 : decode cX8_outputs 0 = .ok (.aload_n 0, 1) := by decide +kernel
theorem dX8_outputs_1 : decode cX8_outputs 1 = .ok (.iload_n 1, 1) := by decide +kernel
theorem dX8_outputs_2 : decode cX8_outputs 2 = .ok (.invokevirtual 178, 3) := by decide +kernel
theorem dX8_outputs_5 : decode cX8_outputs 5 = .ok (.ifCond .eq 10, 3) := by decide +kernel
theorem dX8_outputs_8 : decode cX8_outputs 8 = .ok (.aload_n 0, 1) := by decide +kernel
theorem dX8_outputs_9 : decode cX8_outputs 9 = .ok (.getfield 171, 3) := by decide +kernel
theorem dX8_outputs_12 : decode cX8_outputs 12 = .ok (.goto 4, 3) := by decide +kernel
theorem dX8_outputs_15 : decode cX8_outputs 15 = .ok (.iconst 0, 1) := by decide +kernel
theorem dX8_outputs_16 : decode cX8_outputs 16 = .ok (.ireturn, 1) := by decide +kernel
theorem dX8_output_0 : decode cX8_output 0 = .ok (.aload_n 0, 1) := by decide +kernel
theorem dX8_output_1 : decode cX8_output 1 = .ok (.iload_n 1, 1) := by decide +kernel
theorem dX8_output_2 : decode cX8_output 2 = .ok (.invokevirtual 178, 3) := by decide +kernel
theorem dX8_output_5 : decode cX8_output 5 = .ok (.ifCond .ne 5, 3) := by decide +kernel
theorem dX8_output_8 : decode cX8_output 8 = .ok (.iconst 0, 1) := by decide +kernel
theorem dX8_output_9 : decode cX8_output 9 = .ok (.ireturn, 1) := by decide +kernel
theorem dX8_output_10 : decode cX8_output 10 = .ok (.iload_n 2, 1) := by decide +kernel
theorem dX8_output_11 : decode cX8_output 11 = .ok (.iconst 0, 1) := by decide +kernel
theorem dX8_output_12 : decode cX8_output 12 = .ok (.aload_n 0, 1) := by decide +kernel
theorem dX8_output_13 : decode cX8_output 13 = .ok (.getfield 171, 3) := by decide +kernel
theorem dX8_output_16 : decode cX8_output 16 = .ok (.iconst 1, 1) := by decide +kernel
theorem dX8_output_17 : decode cX8_output 17 = .ok (.isub, 1) := by decide +kernel
theorem dX8_output_18 : decode cX8_output 18 = .ok (.invokestatic 50, 3) := by decide +kernel
theorem dX8_output_21 : decode cX8_output 21 = .ok (.ifCond .eq 12, 3) := by decide +kernel
theorem dX8_output_24 : decode cX8_output 24 = .ok (.aload_n 0, 1) := by decide +kernel
theorem dX8_output_25 : decode cX8_output 25 = .ok (.getfield 40, 3) := by decide +kernel
theorem dX8_output_28 : decode cX8_output 28 = .ok (.iload_n 2, 1) := by decide +kernel
theorem dX8_output_29 : decode cX8_output 29 = .ok (.iaload, 1) := by decide +kernel
theorem dX8_output_30 : decode cX8_output 30 = .ok (.goto 8, 3) := by decide +kernel
theorem dX8_output_33 : decode cX8_output 33 = .ok (.aload_n 0, 1) := by decide +kernel
theorem dX8_output_34 : decode cX8_output 34 = .ok (.iconst 4, 1) := by decide +kernel
theorem dX8_output_35 : decode cX8_output 35 = .ok (.invokevirtual 68, 3) := by decide +kernel
theorem dX8_output_38 : decode cX8_output 38 = .ok (.ireturn, 1) := by decide +kernel
theorem dX8_variable_0 : decode cX8_variable 0 = .ok (.aload_n 0, 1) := by decide +kernel
theorem dX8_variable_1 : decode cX8_variable 1 = .ok (.iload_n 1, 1) := by decide +kernel
theorem dX8_variable_2 : decode cX8_variable 2 = .ok (.invokevirtual 178, 3) := by decide +kernel
theorem dX8_variable_5 : decode cX8_variable 5 = .ok (.ifCond .ne 5, 3) := by decide +kernel
theorem dX8_variable_8 : decode cX8_variable 8 = .ok (.iconst 0, 1) := by decide +kernel
theorem dX8_variable_9 : decode cX8_variable 9 = .ok (.ireturn, 1) := by decide +kernel
theorem dX8_variable_10 : decode cX8_variable 10 = .ok (.iload_n 2, 1) := by decide +kernel
theorem dX8_variable_11 : decode cX8_variable 11 = .ok (.iconst 0, 1) := by decide +kernel
theorem dX8_variable_12 : decode cX8_variable 12 = .ok (.iconst 3, 1) := by decide +kernel
theorem dX8_variable_13 : decode cX8_variable 13 = .ok (.invokestatic 50, 3) := by decide +kernel
theorem dX8_variable_16 : decode cX8_variable 16 = .ok (.ifCond .eq 12, 3) := by decide +kernel
theorem dX8_variable_19 : decode cX8_variable 19 = .ok (.aload_n 0, 1) := by decide +kernel
theorem dX8_variable_20 : decode cX8_variable 20 = .ok (.getfield 37, 3) := by decide +kernel
theorem dX8_variable_23 : decode cX8_variable 23 = .ok (.iload_n 2, 1) := by decide +kernel
theorem dX8_variable_24 : decode cX8_variable 24 = .ok (.iaload, 1) := by decide +kernel
theorem dX8_variable_25 : decode cX8_variable 25 = .ok (.goto 8, 3) := by decide +kernel
theorem dX8_variable_28 : decode cX8_variable 28 = .ok (.aload_n 0, 1) := by decide +kernel
theorem dX8_variable_29 : decode cX8_variable 29 = .ok (.iconst 4, 1) := by decide +kernel
theorem dX8_variable_30 : decode cX8_variable 30 = .ok (.invokevirtual 68, 3) := by decide +kernel
theorem dX8_variable_33 : decode cX8_variable 33 = .ok (.ireturn, 1) := by decide +kernel
theorem dX8_behaviours_0 : decode cX8_behaviours 0 = .ok (.aload_n 0, 1) := by decide +kernel
theorem dX8_behaviours_1 : decode cX8_behaviours 1 = .ok (.iconst 0, 1) := by decide +kernel
theorem dX8_behaviours_2 : decode cX8_behaviours 2 = .ok (.putfield 43, 3) := by decide +kernel
theorem dX8_behaviours_5 : decode cX8_behaviours 5 = .ok (.aload_n 0, 1) := by decide +kernel
theorem dX8_behaviours_6 : decode cX8_behaviours 6 = .ok (.invokevirtual 142, 3) := by decide +kernel
theorem dX8_behaviours_9 : decode cX8_behaviours 9 = .ok (.ifCond .ne 9, 3) := by decide +kernel
theorem dX8_behaviours_12 : decode cX8_behaviours 12 = .ok (.aload_n 0, 1) := by decide +kernel
theorem dX8_behaviours_13 : decode cX8_behaviours 13 = .ok (.iconst 1, 1) := by decide +kernel
theorem dX8_behaviours_14 : decode cX8_behaviours 14 = .ok (.invokevirtual 68, 3) := by decide +kernel
theorem dX8_behaviours_17 : decode cX8_behaviours 17 = .ok (.ireturn, 1) := by decide +kernel
theorem dX8_behaviours_18 : decode cX8_behaviours 18 = .ok (.aload_n 0, 1) := by decide +kernel
theorem dX8_behaviours_19 : decode cX8_behaviours 19 = .ok (.invokevirtual 146, 3) := by decide +kernel
theorem dX8_behaviours_22 : decode cX8_behaviours 22 = .ok (.bipush 16, 2) := by decide +kernel
theorem dX8_behaviours_24 : decode cX8_behaviours 24 = .ok (.newarray .int, 2) := by decide +kernel
theorem dX8_behaviours_26 : decode cX8_behaviours 26 = .ok (.astore_n 1, 1) := by decide +kernel
theorem dX8_behaviours_27 : decode cX8_behaviours 27 = .ok (.sipush 1280, 3) := by decide +kernel
theorem dX8_behaviours_30 : decode cX8_behaviours 30 = .ok (.newarray .int, 2) := by decide +kernel
theorem dX8_behaviours_32 : decode cX8_behaviours 32 = .ok (.astore_n 2, 1) := by decide +kernel
theorem dX8_behaviours_33 : decode cX8_behaviours 33 = .ok (.iconst 0, 1) := by decide +kernel
theorem dX8_behaviours_34 : decode cX8_behaviours 34 = .ok (.istore_n 3, 1) := by decide +kernel
theorem dX8_behaviours_35 : decode cX8_behaviours 35 = .ok (.iconst 0, 1) := by decide +kernel
theorem dX8_behaviours_36 : decode cX8_behaviours 36 = .ok (.istore 4, 2) := by decide +kernel
theorem dX8_behaviours_38 : decode cX8_behaviours 38 = .ok (.iload 4, 2) := by decide +kernel
theorem dX8_behaviours_40 : decode cX8_behaviours 40 = .ok (.bipush 16, 2) := by decide +kernel
theorem dX8_behaviours_42 : decode cX8_behaviours 42 = .ok (.if_icmp .ge 194, 3) := by decide +kernel
theorem dX8_behaviours_45 : decode cX8_behaviours 45 = .ok (.aload_n 1, 1) := by decide +kernel
theorem dX8_behaviours_46 : decode cX8_behaviours 46 = .ok (.iload 4, 2) := by decide +kernel
theorem dX8_behaviours_48 : decode cX8_behaviours 48 = .ok (.iconst (-1), 1) := by decide +kernel
theorem dX8_behaviours_49 : decode cX8_behaviours 49 = .ok (.iastore, 1) := by decide +kernel
theorem dX8_behaviours_50 : decode cX8_behaviours 50 = .ok (.aload_n 0, 1) := by decide +kernel
theorem dX8_behaviours_51 : decode cX8_behaviours 51 = .ok (.getfield 25, 3) := by decide +kernel
theorem dX8_behaviours_54 : decode cX8_behaviours 54 = .ok (.iload 4, 2) := by decide +kernel
theorem dX8_behaviours_56 : decode cX8_behaviours 56 = .ok (.iaload, 1) := by decide +kernel
theorem dX8_behaviours_57 : decode cX8_behaviours 57 = .ok (.iconst (-1), 1) := by decide +kernel
theorem dX8_behaviours_58 : decode cX8_behaviours 58 = .ok (.if_icmp .eq 6, 3) := by decide +kernel
theorem dX8_behaviours_61 : decode cX8_behaviours 61 = .ok (.goto 169, 3) := by decide +kernel
theorem dX8_behaviours_64 : decode cX8_behaviours 64 = .ok (.aload_n 0, 1) := by decide +kernel
theorem dX8_behaviours_65 : decode cX8_behaviours 65 = .ok (.iload 4, 2) := by decide +kernel
theorem dX8_behaviours_67 : decode cX8_behaviours 67 = .ok (.invokevirtual 174, 3) := by decide +kernel
theorem dX8_behaviours_70 : decode cX8_behaviours 70 = .ok (.aload_n 1, 1) := by decide +kernel
theorem dX8_behaviours_71 : decode cX8_behaviours 71 = .ok (.iload 4, 2) := by decide +kernel
theorem dX8_behaviours_73 : decode cX8_behaviours 73 = .ok (.aload_n 0, 1) := by decide +kernel
theorem dX8_behaviours_74 : decode cX8_behaviours 74 = .ok (.getfield 171, 3) := by decide +kernel
theorem dX8_behaviours_77 : decode cX8_behaviours 77 = .ok (.iastore, 1) := by decide +kernel
theorem dX8_behaviours_78 : decode cX8_behaviours 78 = .ok (.iconst 0, 1) := by decide +kernel
theorem dX8_behaviours_79 : decode cX8_behaviours 79 = .ok (.istore 5, 2) := by decide +kernel
theorem dX8_behaviours_81 : decode cX8_behaviours 81 = .ok (.iload 5, 2) := by decide +kernel
theorem dX8_behaviours_83 : decode cX8_behaviours 83 = .ok (.aload_n 0, 1) := by decide +kernel
theorem dX8_behaviours_84 : decode cX8_behaviours 84 = .ok (.getfield 171, 3) := by decide +kernel
theorem dX8_behaviours_87 : decode cX8_behaviours 87 = .ok (.if_icmp .ge 26, 3) := by decide +kernel
theorem dX8_behaviours_90 : decode cX8_behaviours 90 = .ok (.aload_n 2, 1) := by decide +kernel
theorem dX8_behaviours_91 : decode cX8_behaviours 91 = .ok (.bipush 80, 2) := by decide +kernel
theorem dX8_behaviours_93 : decode cX8_behaviours 93 = .ok (.iload 4, 2) := by decide +kernel
theorem dX8_behaviours_95 : decode cX8_behaviours 95 = .ok (.imul, 1) := by decide +kernel
theorem dX8_behaviours_96 : decode cX8_behaviours 96 = .ok (.iload 5, 2) := by decide +kernel
theorem dX8_behaviours_98 : decode cX8_behaviours 98 = .ok (.iadd, 1) := by decide +kernel
theorem dX8_behaviours_99 : decode cX8_behaviours 99 = .ok (.aload_n 0, 1) := by decide +kernel
theorem dX8_behaviours_100 : decode cX8_behaviours 100 = .ok (.getfield 40, 3) := by decide +kernel
theorem dX8_behaviours_103 : decode cX8_behaviours 103 = .ok (.iload 5, 2) := by decide +kernel
theorem dX8_behaviours_105 : decode cX8_behaviours 105 = .ok (.iaload, 1) := by decide +kernel
theorem dX8_behaviours_106 : decode cX8_behaviours 106 = .ok (.iastore, 1) := by decide +kernel
theorem dX8_behaviours_107 : decode cX8_behaviours 107 = .ok (.iinc 5 1, 3) := by decide +kernel
theorem dX8_behaviours_110 : decode cX8_behaviours 110 = .ok (.goto (-29), 3) := by decide +kernel
theorem dX8_behaviours_113 : decode cX8_behaviours 113 = .ok (.iconst 1, 1) := by decide +kernel
theorem dX8_behaviours_114 : decode cX8_behaviours 114 = .ok (.istore 5, 2) := by decide +kernel
theorem dX8_behaviours_116 : decode cX8_behaviours 116 = .ok (.iconst 0, 1) := by decide +kernel
theorem dX8_behaviours_117 : decode cX8_behaviours 117 = .ok (.istore 6, 2) := by decide +kernel
theorem dX8_behaviours_119 : decode cX8_behaviours 119 = .ok (.iload 6, 2) := by decide +kernel
theorem dX8_behaviours_121 : decode cX8_behaviours 121 = .ok (.iload 4, 2) := by decide +kernel
theorem dX8_behaviours_123 : decode cX8_behaviours 123 = .ok (.if_icmp .ge 94, 3) := by decide +kernel
theorem dX8_behaviours_126 : decode cX8_behaviours 126 = .ok (.iload 5, 2) := by decide +kernel
theorem dX8_behaviours_128 : decode cX8_behaviours 128 = .ok (.ifCond .eq 89, 3) := by decide +kernel
theorem dX8_behaviours_131 : decode cX8_behaviours 131 = .ok (.aload_n 1, 1) := by decide +kernel
theorem dX8_behaviours_132 : decode cX8_behaviours 132 = .ok (.iload 6, 2) := by decide +kernel
theorem dX8_behaviours_134 : decode cX8_behaviours 134 = .ok (.iaload, 1) := by decide +kernel
theorem dX8_behaviours_135 : decode cX8_behaviours 135 = .ok (.aload_n 0, 1) := by decide +kernel
theorem dX8_behaviours_136 : decode cX8_behaviours 136 = .ok (.getfield 171, 3) := by decide +kernel
theorem dX8_behaviours_139 : decode cX8_behaviours 139 = .ok (.if_icmp .ne 7, 3) := by decide +kernel
theorem dX8_behaviours_142 : decode cX8_behaviours 142 = .ok (.iconst 1, 1) := by decide +kernel
theorem dX8_behaviours_143 : decode cX8_behaviours 143 = .ok (.goto 4, 3) := by decide +kernel
theorem dX8_behaviours_146 : decode cX8_behaviours 146 = .ok (.iconst 0, 1) := by decide +kernel
theorem dX8_behaviours_147 : decode cX8_behaviours 147 = .ok (.istore 7, 2) := by decide +kernel
theorem dX8_behaviours_149 : decode cX8_behaviours 149 = .ok (.iconst 0, 1) := by decide +kernel
theorem dX8_behaviours_150 : decode cX8_behaviours 150 = .ok (.istore 8, 2) := by decide +kernel
theorem dX8_behaviours_152 : decode cX8_behaviours 152 = .ok (.iload 8, 2) := by decide +kernel
theorem dX8_behaviours_154 : decode cX8_behaviours 154 = .ok (.aload_n 0, 1) := by decide +kernel
theorem dX8_behaviours_155 : decode cX8_behaviours 155 = .ok (.getfield 171, 3) := by decide +kernel
theorem dX8_behaviours_158 : decode cX8_behaviours 158 = .ok (.if_icmp .ge 41, 3) := by decide +kernel
theorem dX8_behaviours_161 : decode cX8_behaviours 161 = .ok (.iload 7, 2) := by decide +kernel
theorem dX8_behaviours_163 : decode cX8_behaviours 163 = .ok (.ifCond .eq 36, 3) := by decide +kernel
theorem dX8_behaviours_166 : decode cX8_behaviours 166 = .ok (.aload_n 2, 1) := by decide +kernel
theorem dX8_behaviours_167 : decode cX8_behaviours 167 = .ok (.bipush 80, 2) := by decide +kernel
theorem dX8_behaviours_169 : decode cX8_behaviours 169 = .ok (.iload 6, 2) := by decide +kernel
theorem dX8_behaviours_171 : decode cX8_behaviours 171 = .ok (.imul, 1) := by decide +kernel
theorem dX8_behaviours_172 : decode cX8_behaviours 172 = .ok (.iload 8, 2) := by decide +kernel
theorem dX8_behaviours_174 : decode cX8_behaviours 174 = .ok (.iadd, 1) := by decide +kernel
theorem dX8_behaviours_175 : decode cX8_behaviours 175 = .ok (.iaload, 1) := by decide +kernel
theorem dX8_behaviours_176 : decode cX8_behaviours 176 = .ok (.aload_n 0, 1) := by decide +kernel
theorem dX8_behaviours_177 : decode cX8_behaviours 177 = .ok (.getfield 40, 3) := by decide +kernel
theorem dX8_behaviours_180 : decode cX8_behaviours 180 = .ok (.iload 8, 2) := by decide +kernel
theorem dX8_behaviours_182 : decode cX8_behaviours 182 = .ok (.iaload, 1) := by decide +kernel
theorem dX8_behaviours_183 : decode cX8_behaviours 183 = .ok (.if_icmp .ne 7, 3) := by decide +kernel
theorem dX8_behaviours_186 : decode cX8_behaviours 186 = .ok (.iconst 1, 1) := by decide +kernel
theorem dX8_behaviours_187 : decode cX8_behaviours 187 = .ok (.goto 4, 3) := by decide +kernel
theorem dX8_behaviours_190 : decode cX8_behaviours 190 = .ok (.iconst 0, 1) := by decide +kernel
theorem dX8_behaviours_191 : decode cX8_behaviours 191 = .ok (.istore 7, 2) := by decide +kernel
theorem dX8_behaviours_193 : decode cX8_behaviours 193 = .ok (.iinc 8 1, 3) := by decide +kernel
theorem dX8_behaviours_196 : decode cX8_behaviours 196 = .ok (.goto (-44), 3) := by decide +kernel
theorem dX8_behaviours_199 : decode cX8_behaviours 199 = .ok (.iload 7, 2) := by decide +kernel
theorem dX8_behaviours_201 : decode cX8_behaviours 201 = .ok (.ifCond .ne 7, 3) := by decide +kernel
theorem dX8_behaviours_204 : decode cX8_behaviours 204 = .ok (.iconst 1, 1) := by decide +kernel
theorem dX8_behaviours_205 : decode cX8_behaviours 205 = .ok (.goto 4, 3) := by decide +kernel
theorem dX8_behaviours_208 : decode cX8_behaviours 208 = .ok (.iconst 0, 1) := by decide +kernel
theorem dX8_behaviours_209 : decode cX8_behaviours 209 = .ok (.istore 5, 2) := by decide +kernel
theorem dX8_behaviours_211 : decode cX8_behaviours 211 = .ok (.iinc 6 1, 3) := by decide +kernel
theorem dX8_behaviours_214 : decode cX8_behaviours 214 = .ok (.goto (-95), 3) := by decide +kernel
theorem dX8_behaviours_217 : decode cX8_behaviours 217 = .ok (.iload_n 3, 1) := by decide +kernel
theorem dX8_behaviours_218 : decode cX8_behaviours 218 = .ok (.iload 5, 2) := by decide +kernel
theorem dX8_behaviours_220 : decode cX8_behaviours 220 = .ok (.ifCond .eq 7, 3) := by decide +kernel
theorem dX8_behaviours_223 : decode cX8_behaviours 223 = .ok (.iconst 1, 1) := by decide +kernel
theorem dX8_behaviours_224 : decode cX8_behaviours 224 = .ok (.goto 4, 3) := by decide +kernel
theorem dX8_behaviours_227 : decode cX8_behaviours 227 = .ok (.iconst 0, 1) := by decide +kernel
theorem dX8_behaviours_228 : decode cX8_behaviours 228 = .ok (.iadd, 1) := by decide +kernel
theorem dX8_behaviours_229 : decode cX8_behaviours 229 = .ok (.istore_n 3, 1) := by decide +kernel
theorem dX8_behaviours_230 : decode cX8_behaviours 230 = .ok (.iinc 4 1, 3) := by decide +kernel
theorem dX8_behaviours_233 : decode cX8_behaviours 233 = .ok (.goto (-195), 3) := by decide +kernel
theorem dX8_behaviours_236 : decode cX8_behaviours 236 = .ok (.iload_n 3, 1) := by decide +kernel
theorem dX8_behaviours_237 : decode cX8_behaviours 237 = .ok (.ireturn, 1) := by decide +kernel
theorem dX8_digest_0 : decode cX8_digest 0 = .ok (.aload_n 0, 1) := by decide +kernel
theorem dX8_digest_1 : decode cX8_digest 1 = .ok (.iconst 0, 1) := by decide +kernel
theorem dX8_digest_2 : decode cX8_digest 2 = .ok (.putfield 43, 3) := by decide +kernel
theorem dX8_digest_5 : decode cX8_digest 5 = .ok (.aload_n 0, 1) := by decide +kernel
theorem dX8_digest_6 : decode cX8_digest 6 = .ok (.invokevirtual 98, 3) := by decide +kernel
theorem dX8_digest_9 : decode cX8_digest 9 = .ok (.ldc2_w 181, 3) := by decide +kernel
theorem dX8_digest_12 : decode cX8_digest 12 = .ok (.aload_n 0, 1) := by decide +kernel
theorem dX8_digest_13 : decode cX8_digest 13 = .ok (.getfield 47, 3) := by decide +kernel
theorem dX8_digest_16 : decode cX8_digest 16 = .ok (.i2l, 1) := by decide +kernel
theorem dX8_digest_17 : decode cX8_digest 17 = .ok (.ladd, 1) := by decide +kernel
theorem dX8_digest_18 : decode cX8_digest 18 = .ok (.lstore_n 1, 1) := by decide +kernel
theorem dX8_digest_19 : decode cX8_digest 19 = .ok (.iconst 0, 1) := by decide +kernel
theorem dX8_digest_20 : decode cX8_digest 20 = .ok (.istore_n 3, 1) := by decide +kernel
theorem dX8_digest_21 : decode cX8_digest 21 = .ok (.iload_n 3, 1) := by decide +kernel
theorem dX8_digest_22 : decode cX8_digest 22 = .ok (.aload_n 0, 1) := by decide +kernel
theorem dX8_digest_23 : decode cX8_digest 23 = .ok (.getfield 47, 3) := by decide +kernel
theorem dX8_digest_26 : decode cX8_digest 26 = .ok (.if_icmp .ge 35, 3) := by decide +kernel
theorem dX8_digest_29 : decode cX8_digest 29 = .ok (.lload_n 1, 1) := by decide +kernel
theorem dX8_digest_30 : decode cX8_digest 30 = .ok (.ldc2_w 183, 3) := by decide +kernel
theorem dX8_digest_33 : decode cX8_digest 33 = .ok (.lmul, 1) := by decide +kernel
theorem dX8_digest_34 : decode cX8_digest 34 = .ok (.aload_n 0, 1) := by decide +kernel
theorem dX8_digest_35 : decode cX8_digest 35 = .ok (.getfield 9, 3) := by decide +kernel
theorem dX8_digest_38 : decode cX8_digest 38 = .ok (.iload_n 3, 1) := by decide +kernel
theorem dX8_digest_39 : decode cX8_digest 39 = .ok (.iaload, 1) := by decide +kernel
theorem dX8_digest_40 : decode cX8_digest 40 = .ok (.i2l, 1) := by decide +kernel
theorem dX8_digest_41 : decode cX8_digest 41 = .ok (.ladd, 1) := by decide +kernel
theorem dX8_digest_42 : decode cX8_digest 42 = .ok (.ldc2_w 183, 3) := by decide +kernel
theorem dX8_digest_45 : decode cX8_digest 45 = .ok (.lmul, 1) := by decide +kernel
theorem dX8_digest_46 : decode cX8_digest 46 = .ok (.aload_n 0, 1) := by decide +kernel
theorem dX8_digest_47 : decode cX8_digest 47 = .ok (.getfield 13, 3) := by decide +kernel
theorem dX8_digest_50 : decode cX8_digest 50 = .ok (.iload_n 3, 1) := by decide +kernel
theorem dX8_digest_51 : decode cX8_digest 51 = .ok (.iaload, 1) := by decide +kernel
theorem dX8_digest_52 : decode cX8_digest 52 = .ok (.i2l, 1) := by decide +kernel
theorem dX8_digest_53 : decode cX8_digest 53 = .ok (.ladd, 1) := by decide +kernel
theorem dX8_digest_54 : decode cX8_digest 54 = .ok (.lstore_n 1, 1) := by decide +kernel
theorem dX8_digest_55 : decode cX8_digest 55 = .ok (.iinc 3 1, 3) := by decide +kernel
theorem dX8_digest_58 : decode cX8_digest 58 = .ok (.goto (-37), 3) := by decide +kernel
theorem dX8_digest_61 : decode cX8_digest 61 = .ok (.aload_n 0, 1) := by decide +kernel
theorem dX8_digest_62 : decode cX8_digest 62 = .ok (.invokevirtual 142, 3) := by decide +kernel
theorem dX8_digest_65 : decode cX8_digest 65 = .ok (.ifCond .ne 5, 3) := by decide +kernel
theorem dX8_digest_68 : decode cX8_digest 68 = .ok (.lload_n 1, 1) := by decide +kernel
theorem dX8_digest_69 : decode cX8_digest 69 = .ok (.lreturn, 1) := by decide +kernel
theorem dX8_digest_70 : decode cX8_digest 70 = .ok (.aload_n 0, 1) := by decide +kernel
theorem dX8_digest_71 : decode cX8_digest 71 = .ok (.invokevirtual 146, 3) := by decide +kernel
theorem dX8_digest_74 : decode cX8_digest 74 = .ok (.iconst 0, 1) := by decide +kernel
theorem dX8_digest_75 : decode cX8_digest 75 = .ok (.istore_n 3, 1) := by decide +kernel
theorem dX8_digest_76 : decode cX8_digest 76 = .ok (.iload_n 3, 1) := by decide +kernel
theorem dX8_digest_77 : decode cX8_digest 77 = .ok (.bipush 16, 2) := by decide +kernel
theorem dX8_digest_79 : decode cX8_digest 79 = .ok (.if_icmp .ge 86, 3) := by decide +kernel
theorem dX8_digest_82 : decode cX8_digest 82 = .ok (.lload_n 1, 1) := by decide +kernel
theorem dX8_digest_83 : decode cX8_digest 83 = .ok (.ldc2_w 183, 3) := by decide +kernel
theorem dX8_digest_86 : decode cX8_digest 86 = .ok (.lmul, 1) := by decide +kernel
theorem dX8_digest_87 : decode cX8_digest 87 = .ok (.aload_n 0, 1) := by decide +kernel
theorem dX8_digest_88 : decode cX8_digest 88 = .ok (.getfield 25, 3) := by decide +kernel
theorem dX8_digest_91 : decode cX8_digest 91 = .ok (.iload_n 3, 1) := by decide +kernel
theorem dX8_digest_92 : decode cX8_digest 92 = .ok (.iaload, 1) := by decide +kernel
theorem dX8_digest_93 : decode cX8_digest 93 = .ok (.i2l, 1) := by decide +kernel
theorem dX8_digest_94 : decode cX8_digest 94 = .ok (.ladd, 1) := by decide +kernel
theorem dX8_digest_95 : decode cX8_digest 95 = .ok (.lstore_n 1, 1) := by decide +kernel
theorem dX8_digest_96 : decode cX8_digest 96 = .ok (.aload_n 0, 1) := by decide +kernel
theorem dX8_digest_97 : decode cX8_digest 97 = .ok (.getfield 25, 3) := by decide +kernel
theorem dX8_digest_100 : decode cX8_digest 100 = .ok (.iload_n 3, 1) := by decide +kernel
theorem dX8_digest_101 : decode cX8_digest 101 = .ok (.iaload, 1) := by decide +kernel
theorem dX8_digest_102 : decode cX8_digest 102 = .ok (.iconst (-1), 1) := by decide +kernel
theorem dX8_digest_103 : decode cX8_digest 103 = .ok (.if_icmp .eq 6, 3) := by decide +kernel
theorem dX8_digest_106 : decode cX8_digest 106 = .ok (.goto 53, 3) := by decide +kernel
theorem dX8_digest_109 : decode cX8_digest 109 = .ok (.aload_n 0, 1) := by decide +kernel
theorem dX8_digest_110 : decode cX8_digest 110 = .ok (.iload_n 3, 1) := by decide +kernel
theorem dX8_digest_111 : decode cX8_digest 111 = .ok (.invokevirtual 174, 3) := by decide +kernel
theorem dX8_digest_114 : decode cX8_digest 114 = .ok (.lload_n 1, 1) := by decide +kernel
theorem dX8_digest_115 : decode cX8_digest 115 = .ok (.ldc2_w 183, 3) := by decide +kernel
theorem dX8_digest_118 : decode cX8_digest 118 = .ok (.lmul, 1) := by decide +kernel
theorem dX8_digest_119 : decode cX8_digest 119 = .ok (.aload_n 0, 1) := by decide +kernel
theorem dX8_digest_120 : decode cX8_digest 120 = .ok (.getfield 171, 3) := by decide +kernel
theorem dX8_digest_123 : decode cX8_digest 123 = .ok (.i2l, 1) := by decide +kernel
theorem dX8_digest_124 : decode cX8_digest 124 = .ok (.ladd, 1) := by decide +kernel
theorem dX8_digest_125 : decode cX8_digest 125 = .ok (.lstore_n 1, 1) := by decide +kernel
theorem dX8_digest_126 : decode cX8_digest 126 = .ok (.iconst 0, 1) := by decide +kernel
theorem dX8_digest_127 : decode cX8_digest 127 = .ok (.istore 4, 2) := by decide +kernel
theorem dX8_digest_129 : decode cX8_digest 129 = .ok (.iload 4, 2) := by decide +kernel
theorem dX8_digest_131 : decode cX8_digest 131 = .ok (.aload_n 0, 1) := by decide +kernel
theorem dX8_digest_132 : decode cX8_digest 132 = .ok (.getfield 171, 3) := by decide +kernel
theorem dX8_digest_135 : decode cX8_digest 135 = .ok (.if_icmp .ge 24, 3) := by decide +kernel
theorem dX8_digest_138 : decode cX8_digest 138 = .ok (.lload_n 1, 1) := by decide +kernel
theorem dX8_digest_139 : decode cX8_digest 139 = .ok (.ldc2_w 183, 3) := by decide +kernel
theorem dX8_digest_142 : decode cX8_digest 142 = .ok (.lmul, 1) := by decide +kernel
theorem dX8_digest_143 : decode cX8_digest 143 = .ok (.aload_n 0, 1) := by decide +kernel
theorem dX8_digest_144 : decode cX8_digest 144 = .ok (.getfield 40, 3) := by decide +kernel
theorem dX8_digest_147 : decode cX8_digest 147 = .ok (.iload 4, 2) := by decide +kernel
theorem dX8_digest_149 : decode cX8_digest 149 = .ok (.iaload, 1) := by decide +kernel
theorem dX8_digest_150 : decode cX8_digest 150 = .ok (.i2l, 1) := by decide +kernel
theorem dX8_digest_151 : decode cX8_digest 151 = .ok (.ladd, 1) := by decide +kernel
theorem dX8_digest_152 : decode cX8_digest 152 = .ok (.lstore_n 1, 1) := by decide +kernel
theorem dX8_digest_153 : decode cX8_digest 153 = .ok (.iinc 4 1, 3) := by decide +kernel
theorem dX8_digest_156 : decode cX8_digest 156 = .ok (.goto (-27), 3) := by decide +kernel
theorem dX8_digest_159 : decode cX8_digest 159 = .ok (.iinc 3 1, 3) := by decide +kernel
theorem dX8_digest_162 : decode cX8_digest 162 = .ok (.goto (-86), 3) := by decide +kernel
theorem dX8_digest_165 : decode cX8_digest 165 = .ok (.lload_n 1, 1) := by decide +kernel
theorem dX8_digest_166 : decode cX8_digest 166 = .ok (.lreturn, 1) := by decide +kernel
theorem dJ0_length_8abf5_0 : decode cJ0_length_8abf5 0 = .ok (.aload_n 0, 1) := by decide +kernel
theorem dJ0_length_8abf5_1 : decode cJ0_length_8abf5 1 = .ok (.getfield 9, 3) := by decide +kernel
theorem dJ0_length_8abf5_4 : decode cJ0_length_8abf5 4 = .ok (.arraylength, 1) := by decide +kernel
theorem dJ0_length_8abf5_5 : decode cJ0_length_8abf5 5 = .ok (.aload_n 0, 1) := by decide +kernel
theorem dJ0_length_8abf5_6 : decode cJ0_length_8abf5 6 = .ok (.invokevirtual 335, 3) := by decide +kernel
theorem dJ0_length_8abf5_9 : decode cJ0_length_8abf5 9 = .ok (.ishr, 1) := by decide +kernel
theorem dJ0_length_8abf5_10 : decode cJ0_length_8abf5 10 = .ok (.ireturn, 1) := by decide +kernel
theorem dJ0_charAt_5068e_0 : decode cJ0_charAt_5068e 0 = .ok (.aload_n 0, 1) := by decide +kernel
theorem dJ0_charAt_5068e_1 : decode cJ0_charAt_5068e 1 = .ok (.invokevirtual 492, 3) := by decide +kernel
theorem dJ0_charAt_5068e_4 : decode cJ0_charAt_5068e 4 = .ok (.ifCond .eq 12, 3) := by decide +kernel
theorem dJ0_charAt_5068e_7 : decode cJ0_charAt_5068e 7 = .ok (.aload_n 0, 1) := by decide +kernel
theorem dJ0_charAt_5068e_8 : decode cJ0_charAt_5068e 8 = .ok (.getfield 9, 3) := by decide +kernel
theorem dJ0_charAt_5068e_11 : decode cJ0_charAt_5068e 11 = .ok (.iload_n 1, 1) := by decide +kernel
theorem dJ0_charAt_5068e_12 : decode cJ0_charAt_5068e 12 = .ok (.invokestatic 495, 3) := by decide +kernel
theorem dJ0_charAt_5068e_15 : decode cJ0_charAt_5068e 15 = .ok (.ireturn, 1) := by decide +kernel
theorem dJ0_charAt_5068e_16 : decode cJ0_charAt_5068e 16 = .ok (.aload_n 0, 1) := by decide +kernel
theorem dJ0_charAt_5068e_17 : decode cJ0_charAt_5068e 17 = .ok (.getfield 9, 3) := by decide +kernel
theorem dJ0_charAt_5068e_20 : decode cJ0_charAt_5068e 20 = .ok (.iload_n 1, 1) := by decide +kernel
theorem dJ0_charAt_5068e_21 : decode cJ0_charAt_5068e 21 = .ok (.invokestatic 498, 3) := by decide +kernel
theorem dJ0_charAt_5068e_24 : decode cJ0_charAt_5068e 24 = .ok (.ireturn, 1) := by decide +kernel
theorem dJ0_indexOf_0f7a4_0 : decode cJ0_indexOf_0f7a4 0 = .ok (.aload_n 0, 1) := by decide +kernel
theorem dJ0_indexOf_0f7a4_1 : decode cJ0_indexOf_0f7a4 1 = .ok (.iload_n 1, 1) := by decide +kernel
theorem dJ0_indexOf_0f7a4_2 : decode cJ0_indexOf_0f7a4 2 = .ok (.iconst 0, 1) := by decide +kernel
theorem dJ0_indexOf_0f7a4_3 : decode cJ0_indexOf_0f7a4 3 = .ok (.invokevirtual 633, 3) := by decide +kernel
theorem dJ0_indexOf_0f7a4_6 : decode cJ0_indexOf_0f7a4 6 = .ok (.ireturn, 1) := by decide +kernel
theorem dJ0_indexOf_7cf53_0 : decode cJ0_indexOf_7cf53 0 = .ok (.aload_n 0, 1) := by decide +kernel
theorem dJ0_indexOf_7cf53_1 : decode cJ0_indexOf_7cf53 1 = .ok (.invokevirtual 492, 3) := by decide +kernel
theorem dJ0_indexOf_7cf53_4 : decode cJ0_indexOf_7cf53 4 = .ok (.ifCond .eq 19, 3) := by decide +kernel
theorem dJ0_indexOf_7cf53_7 : decode cJ0_indexOf_7cf53 7 = .ok (.aload_n 0, 1) := by decide +kernel
theorem dJ0_indexOf_7cf53_8 : decode cJ0_indexOf_7cf53 8 = .ok (.getfield 9, 3) := by decide +kernel
theorem dJ0_indexOf_7cf53_11 : decode cJ0_indexOf_7cf53 11 = .ok (.iload_n 1, 1) := by decide +kernel
theorem dJ0_indexOf_7cf53_12 : decode cJ0_indexOf_7cf53 12 = .ok (.iload_n 2, 1) := by decide +kernel
theorem dJ0_indexOf_7cf53_13 : decode cJ0_indexOf_7cf53 13 = .ok (.aload_n 0, 1) := by decide +kernel
theorem dJ0_indexOf_7cf53_14 : decode cJ0_indexOf_7cf53 14 = .ok (.invokevirtual 505, 3) := by decide +kernel
theorem dJ0_indexOf_7cf53_17 : decode cJ0_indexOf_7cf53 17 = .ok (.invokestatic 637, 3) := by decide +kernel
theorem dJ0_indexOf_7cf53_20 : decode cJ0_indexOf_7cf53 20 = .ok (.goto 16, 3) := by decide +kernel
theorem dJ0_indexOf_7cf53_23 : decode cJ0_indexOf_7cf53 23 = .ok (.aload_n 0, 1) := by decide +kernel
theorem dJ0_indexOf_7cf53_24 : decode cJ0_indexOf_7cf53 24 = .ok (.getfield 9, 3) := by decide +kernel
theorem dJ0_indexOf_7cf53_27 : decode cJ0_indexOf_7cf53 27 = .ok (.iload_n 1, 1) := by decide +kernel
theorem dJ0_indexOf_7cf53_28 : decode cJ0_indexOf_7cf53 28 = .ok (.iload_n 2, 1) := by decide +kernel
theorem dJ0_indexOf_7cf53_29 : decode cJ0_indexOf_7cf53 29 = .ok (.aload_n 0, 1) := by decide +kernel
theorem dJ0_indexOf_7cf53_30 : decode cJ0_indexOf_7cf53 30 = .ok (.invokevirtual 505, 3) := by decide +kernel
theorem dJ0_indexOf_7cf53_33 : decode cJ0_indexOf_7cf53 33 = .ok (.invokestatic 640, 3) := by decide +kernel
theorem dJ0_indexOf_7cf53_36 : decode cJ0_indexOf_7cf53 36 = .ok (.ireturn, 1) := by decide +kernel
theorem dJ0_coder_7d493_0 : decode cJ0_coder_7d493 0 = .ok (.getstatic 38, 3) := by decide +kernel
theorem dJ0_coder_7d493_3 : decode cJ0_coder_7d493 3 = .ok (.ifCond .eq 10, 3) := by decide +kernel
theorem dJ0_coder_7d493_6 : decode cJ0_coder_7d493 6 = .ok (.aload_n 0, 1) := by decide +kernel
theorem dJ0_coder_7d493_7 : decode cJ0_coder_7d493 7 = .ok (.getfield 15, 3) := by decide +kernel
