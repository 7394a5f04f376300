theorem dX7_variants_14 : decode cX7_variants 14 = .ok (.aload_n 0, 1) := by decide +kernel
theorem dX7_variants_15 : decode cX7_variants 15 = .ok (.iload_n 2, 1) := by decide +kernel
theorem dX7_variants_16 : decode cX7_variants 16 = .ok (.invokevirtual 142, 3) := by decide +kernel
theorem dX7_variants_19 : decode cX7_variants 19 = .ok (.ifCond .eq 6, 3) := by decide +kernel
theorem dX7_variants_22 : decode cX7_variants 22 = .ok (.iinc 1 1, 3) := by decide +kernel
theorem dX7_variants_25 : decode cX7_variants 25 = .ok (.iinc 2 1, 3) := by decide +kernel
theorem dX7_variants_28 : decode cX7_variants 28 = .ok (.goto (-20), 3) := by decide +kernel
theorem dX7_variants_31 : decode cX7_variants 31 = .ok (.iload_n 1, 1) := by decide +kernel
theorem dX7_variants_32 : decode cX7_variants 32 = .ok (.ireturn, 1) := by decide +kernel
theorem dX7_error_0 : decode cX7_error 0 = .ok (.aload_n 0, 1) := by decide +kernel
theorem dX7_error_1 : decode cX7_error 1 = .ok (.iload_n 1, 1) := by decide +kernel
theorem dX7_error_2 : decode cX7_error 2 = .ok (.invokevirtual 129, 3) := by decide +kernel
theorem dX7_error_5 : decode cX7_error 5 = .ok (.aload_n 0, 1) := by decide +kernel
theorem dX7_error_6 : decode cX7_error 6 = .ok (.invokevirtual 145, 3) := by decide +kernel
theorem dX7_error_9 : decode cX7_error 9 = .ok (.aload_n 0, 1) := by decide +kernel
theorem dX7_error_10 : decode cX7_error 10 = .ok (.invokevirtual 112, 3) := by decide +kernel
theorem dX7_error_13 : decode cX7_error 13 = .ok (.aload_n 0, 1) := by decide +kernel
theorem dX7_error_14 : decode cX7_error 14 = .ok (.getfield 25, 3) := by decide +kernel
theorem dX7_error_17 : decode cX7_error 17 = .ok (.iload_n 1, 1) := by decide +kernel
theorem dX7_error_18 : decode cX7_error 18 = .ok (.aaload, 1) := by decide +kernel
theorem dX7_error_19 : decode cX7_error 19 = .ok (.getfield 148, 3) := by decide +kernel
theorem dX7_error_22 : decode cX7_error 22 = .ok (.getfield 152, 3) := by decide +kernel
theorem dX7_error_25 : decode cX7_error 25 = .ok (.ireturn, 1) := by decide +kernel
theorem dX7_wrong_0 : decode cX7_wrong 0 = .ok (.aload_n 0, 1) := by decide +kernel
theorem dX7_wrong_1 : decode cX7_wrong 1 = .ok (.invokevirtual 145, 3) := by decide +kernel
theorem dX7_wrong_4 : decode cX7_wrong 4 = .ok (.aload_n 0, 1) := by decide +kernel
theorem dX7_wrong_5 : decode cX7_wrong 5 = .ok (.invokevirtual 112, 3) := by decide +kernel
theorem dX7_wrong_8 : decode cX7_wrong 8 = .ok (.iconst 0, 1) := by decide +kernel
theorem dX7_wrong_9 : decode cX7_wrong 9 = .ok (.istore_n 1, 1) := by decide +kernel
theorem dX7_wrong_10 : decode cX7_wrong 10 = .ok (.iconst 0, 1) := by decide +kernel
theorem dX7_wrong_11 : decode cX7_wrong 11 = .ok (.istore_n 2, 1) := by decide +kernel
theorem dX7_wrong_12 : decode cX7_wrong 12 = .ok (.iload_n 2, 1) := by decide +kernel
theorem dX7_wrong_13 : decode cX7_wrong 13 = .ok (.bipush 16, 2) := by decide +kernel
theorem dX7_wrong_15 : decode cX7_wrong 15 = .ok (.if_icmp .ge 31, 3) := by decide +kernel
theorem dX7_wrong_18 : decode cX7_wrong 18 = .ok (.aload_n 0, 1) := by decide +kernel
theorem dX7_wrong_19 : decode cX7_wrong 19 = .ok (.getfield 25, 3) := by decide +kernel
theorem dX7_wrong_22 : decode cX7_wrong 22 = .ok (.iload_n 2, 1) := by decide +kernel
theorem dX7_wrong_23 : decode cX7_wrong 23 = .ok (.aaload, 1) := by decide +kernel
theorem dX7_wrong_24 : decode cX7_wrong 24 = .ok (.getfield 148, 3) := by decide +kernel
theorem dX7_wrong_27 : decode cX7_wrong 27 = .ok (.getfield 152, 3) := by decide +kernel
theorem dX7_wrong_30 : decode cX7_wrong 30 = .ok (.iconst (-1), 1) := by decide +kernel
theorem dX7_wrong_31 : decode cX7_wrong 31 = .ok (.if_icmp .eq 9, 3) := by decide +kernel
theorem dX7_wrong_34 : decode cX7_wrong 34 = .ok (.iload_n 1, 1) := by decide +kernel
theorem dX7_wrong_35 : decode cX7_wrong 35 = .ok (.iconst 1, 1) := by decide +kernel
theorem dX7_wrong_36 : decode cX7_wrong 36 = .ok (.iload_n 2, 1) := by decide +kernel
theorem dX7_wrong_37 : decode cX7_wrong 37 = .ok (.ishl, 1) := by decide +kernel
theorem dX7_wrong_38 : decode cX7_wrong 38 = .ok (.ior, 1) := by decide +kernel
theorem dX7_wrong_39 : decode cX7_wrong 39 = .ok (.istore_n 1, 1) := by decide +kernel
theorem dX7_wrong_40 : decode cX7_wrong 40 = .ok (.iinc 2 1, 3) := by decide +kernel
theorem dX7_wrong_43 : decode cX7_wrong 43 = .ok (.goto (-31), 3) := by decide +kernel
theorem dX7_wrong_46 : decode cX7_wrong 46 = .ok (.iload_n 1, 1) := by decide +kernel
theorem dX7_wrong_47 : decode cX7_wrong 47 = .ok (.ireturn, 1) := by decide +kernel
theorem dX7_groups_0 : decode cX7_groups 0 = .ok (.aload_n 0, 1) := by decide +kernel
theorem dX7_groups_1 : decode cX7_groups 1 = .ok (.iload_n 1, 1) := by decide +kernel
theorem dX7_groups_2 : decode cX7_groups 2 = .ok (.invokevirtual 102, 3) := by decide +kernel
theorem dX7_groups_5 : decode cX7_groups 5 = .ok (.aload_n 0, 1) := by decide +kernel
theorem dX7_groups_6 : decode cX7_groups 6 = .ok (.invokevirtual 145, 3) := by decide +kernel
theorem dX7_groups_9 : decode cX7_groups 9 = .ok (.aload_n 0, 1) := by decide +kernel
theorem dX7_groups_10 : decode cX7_groups 10 = .ok (.invokevirtual 112, 3) := by decide +kernel
theorem dX7_groups_13 : decode cX7_groups 13 = .ok (.aload_n 0, 1) := by decide +kernel
theorem dX7_groups_14 : decode cX7_groups 14 = .ok (.getfield 30, 3) := by decide +kernel
theorem dX7_groups_17 : decode cX7_groups 17 = .ok (.iload_n 1, 1) := by decide +kernel
theorem dX7_groups_18 : decode cX7_groups 18 = .ok (.iaload, 1) := by decide +kernel
theorem dX7_groups_19 : decode cX7_groups 19 = .ok (.ireturn, 1) := by decide +kernel
theorem dX7_gain_0 : decode cX7_gain 0 = .ok (.aload_n 0, 1) := by decide +kernel
theorem dX7_gain_1 : decode cX7_gain 1 = .ok (.invokevirtual 145, 3) := by decide +kernel
theorem dX7_gain_4 : decode cX7_gain 4 = .ok (.aload_n 0, 1) := by decide +kernel
theorem dX7_gain_5 : decode cX7_gain 5 = .ok (.invokevirtual 112, 3) := by decide +kernel
theorem dX7_gain_8 : decode cX7_gain 8 = .ok (.aload_n 0, 1) := by decide +kernel
theorem dX7_gain_9 : decode cX7_gain 9 = .ok (.invokevirtual 157, 3) := by decide +kernel
theorem dX7_gain_12 : decode cX7_gain 12 = .ok (.istore_n 1, 1) := by decide +kernel
theorem dX7_gain_13 : decode cX7_gain 13 = .ok (.iload_n 1, 1) := by decide +kernel
theorem dX7_gain_14 : decode cX7_gain 14 = .ok (.ifCond .ne 5, 3) := by decide +kernel
theorem dX7_gain_17 : decode cX7_gain 17 = .ok (.dconst 0, 1) := by decide +kernel
theorem dX7_gain_18 : decode cX7_gain 18 = .ok (.dreturn, 1) := by decide +kernel
theorem dX7_gain_19 : decode cX7_gain 19 = .ok (.iconst 0, 1) := by decide +kernel
theorem dX7_gain_20 : decode cX7_gain 20 = .ok (.istore_n 2, 1) := by decide +kernel
theorem dX7_gain_21 : decode cX7_gain 21 = .ok (.iconst 0, 1) := by decide +kernel
theorem dX7_gain_22 : decode cX7_gain 22 = .ok (.istore_n 3, 1) := by decide +kernel
theorem dX7_gain_23 : decode cX7_gain 23 = .ok (.iload_n 3, 1) := by decide +kernel
theorem dX7_gain_24 : decode cX7_gain 24 = .ok (.bipush 16, 2) := by decide +kernel
theorem dX7_gain_26 : decode cX7_gain 26 = .ok (.if_icmp .ge 24, 3) := by decide +kernel
theorem dX7_gain_29 : decode cX7_gain 29 = .ok (.iload_n 2, 1) := by decide +kernel
theorem dX7_gain_30 : decode cX7_gain 30 = .ok (.aload_n 0, 1) := by decide +kernel
theorem dX7_gain_31 : decode cX7_gain 31 = .ok (.getfield 25, 3) := by decide +kernel
theorem dX7_gain_34 : decode cX7_gain 34 = .ok (.iload_n 3, 1) := by decide +kernel
theorem dX7_gain_35 : decode cX7_gain 35 = .ok (.aaload, 1) := by decide +kernel
theorem dX7_gain_36 : decode cX7_gain 36 = .ok (.getfield 148, 3) := by decide +kernel
theorem dX7_gain_39 : decode cX7_gain 39 = .ok (.getfield 160, 3) := by decide +kernel
theorem dX7_gain_42 : decode cX7_gain 42 = .ok (.iadd, 1) := by decide +kernel
theorem dX7_gain_43 : decode cX7_gain 43 = .ok (.istore_n 2, 1) := by decide +kernel
theorem dX7_gain_44 : decode cX7_gain 44 = .ok (.iinc 3 1, 3) := by decide +kernel
theorem dX7_gain_47 : decode cX7_gain 47 = .ok (.goto (-24), 3) := by decide +kernel
theorem dX7_gain_50 : decode cX7_gain 50 = .ok (.iload_n 2, 1) := by decide +kernel
theorem dX7_gain_51 : decode cX7_gain 51 = .ok (.i2d, 1) := by decide +kernel
theorem dX7_gain_52 : decode cX7_gain 52 = .ok (.iload_n 1, 1) := by decide +kernel
theorem dX7_gain_53 : decode cX7_gain 53 = .ok (.i2d, 1) := by decide +kernel
theorem dX7_gain_54 : decode cX7_gain 54 = .ok (.ddiv, 1) := by decide +kernel
theorem dX7_gain_55 : decode cX7_gain 55 = .ok (.dreturn, 1) := by decide +kernel
theorem dX7_stack_0 : decode cX7_stack 0 = .ok (.aload_n 0, 1) := by decide +kernel
theorem dX7_stack_1 : decode cX7_stack 1 = .ok (.iload_n 1, 1) := by decide +kernel
theorem dX7_stack_2 : decode cX7_stack 2 = .ok (.invokevirtual 129, 3) := by decide +kernel
theorem dX7_stack_5 : decode cX7_stack 5 = .ok (.aload_n 0, 1) := by decide +kernel
theorem dX7_stack_6 : decode cX7_stack 6 = .ok (.invokevirtual 112, 3) := by decide +kernel
theorem dX7_stack_9 : decode cX7_stack 9 = .ok (.aload_n 0, 1) := by decide +kernel
theorem dX7_stack_10 : decode cX7_stack 10 = .ok (.iload_n 1, 1) := by decide +kernel
theorem dX7_stack_11 : decode cX7_stack 11 = .ok (.iload_n 2, 1) := by decide +kernel
theorem dX7_stack_12 : decode cX7_stack 12 = .ok (.invokevirtual 135, 3) := by decide +kernel
theorem dX7_stack_15 : decode cX7_stack 15 = .ok (.aload_n 0, 1) := by decide +kernel
theorem dX7_stack_16 : decode cX7_stack 16 = .ok (.invokevirtual 145, 3) := by decide +kernel
theorem dX7_stack_19 : decode cX7_stack 19 = .ok (.aload_n 0, 1) := by decide +kernel
theorem dX7_stack_20 : decode cX7_stack 20 = .ok (.getfield 25, 3) := by decide +kernel
theorem dX7_stack_23 : decode cX7_stack 23 = .ok (.iload_n 1, 1) := by decide +kernel
theorem dX7_stack_24 : decode cX7_stack 24 = .ok (.aaload, 1) := by decide +kernel
theorem dX7_stack_25 : decode cX7_stack 25 = .ok (.getfield 148, 3) := by decide +kernel
theorem dX7_stack_28 : decode cX7_stack 28 = .ok (.iload_n 2, 1) := by decide +kernel
theorem dX7_stack_29 : decode cX7_stack 29 = .ok (.invokevirtual 163, 3) := by decide +kernel
theorem dX7_stack_32 : decode cX7_stack 32 = .ok (.ireturn, 1) := by decide +kernel
theorem dX7_outputs_0 : decode cX7_outputs 0 = .ok (.aload_n 0, 1) := by decide +kernel
theorem dX7_outputs_1 : decode cX7_outputs 1 = .ok (.iload_n 1, 1) := by decide +kernel
theorem dX7_outputs_2 : decode cX7_outputs 2 = .ok (.invokevirtual 129, 3) := by decide +kernel
theorem dX7_outputs_5 : decode cX7_outputs 5 = .ok (.aload_n 0, 1) := by decide +kernel
theorem dX7_outputs_6 : decode cX7_outputs 6 = .ok (.invokevirtual 145, 3) := by decide +kernel
theorem dX7_outputs_9 : decode cX7_outputs 9 = .ok (.aload_n 0, 1) := by decide +kernel
theorem dX7_outputs_10 : decode cX7_outputs 10 = .ok (.invokevirtual 112, 3) := by decide +kernel
theorem dX7_outputs_13 : decode cX7_outputs 13 = .ok (.aload_n 0, 1) := by decide +kernel
theorem dX7_outputs_14 : decode cX7_outputs 14 = .ok (.iload_n 1, 1) := by decide +kernel
theorem dX7_outputs_15 : decode cX7_outputs 15 = .ok (.invokevirtual 166, 3) := by decide +kernel
theorem dX7_outputs_18 : decode cX7_outputs 18 = .ok (.aload_n 0, 1) := by decide +kernel
theorem dX7_outputs_19 : decode cX7_outputs 19 = .ok (.getfield 25, 3) := by decide +kernel
theorem dX7_outputs_22 : decode cX7_outputs 22 = .ok (.iload_n 1, 1) := by decide +kernel
theorem dX7_outputs_23 : decode cX7_outputs 23 = .ok (.aaload, 1) := by decide +kernel
theorem dX7_outputs_24 : decode cX7_outputs 24 = .ok (.getfield 169, 3) := by decide +kernel
theorem dX7_outputs_27 : decode cX7_outputs 27 = .ok (.getfield 173, 3) := by decide +kernel
theorem dX7_outputs_30 : decode cX7_outputs 30 = .ok (.ireturn, 1) := by decide +kernel
theorem dX7_output_0 : decode cX7_output 0 = .ok (.aload_n 0, 1) := by decide +kernel
theorem dX7_output_1 : decode cX7_output 1 = .ok (.iload_n 1, 1) := by decide +kernel
theorem dX7_output_2 : decode cX7_output 2 = .ok (.invokevirtual 129, 3) := by decide +kernel
theorem dX7_output_5 : decode cX7_output 5 = .ok (.aload_n 0, 1) := by decide +kernel
theorem dX7_output_6 : decode cX7_output 6 = .ok (.invokevirtual 145, 3) := by decide +kernel
theorem dX7_output_9 : decode cX7_output 9 = .ok (.aload_n 0, 1) := by decide +kernel
theorem dX7_output_10 : decode cX7_output 10 = .ok (.invokevirtual 112, 3) := by decide +kernel
theorem dX7_output_13 : decode cX7_output 13 = .ok (.aload_n 0, 1) := by decide +kernel
theorem dX7_output_14 : decode cX7_output 14 = .ok (.iload_n 1, 1) := by decide +kernel
theorem dX7_output_15 : decode cX7_output 15 = .ok (.invokevirtual 166, 3) := by decide +kernel
theorem dX7_output_18 : decode cX7_output 18 = .ok (.aload_n 0, 1) := by decide +kernel
theorem dX7_output_19 : decode cX7_output 19 = .ok (.getfield 25, 3) := by decide +kernel
theorem dX7_output_22 : decode cX7_output 22 = .ok (.iload_n 1, 1) := by decide +kernel
theorem dX7_output_23 : decode cX7_output 23 = .ok (.aaload, 1) := by decide +kernel
theorem dX7_output_24 : decode cX7_output 24 = .ok (.getfield 169, 3) := by decide +kernel
theorem dX7_output_27 : decode cX7_output 27 = .ok (.astore_n 3, 1) := by decide +kernel
theorem dX7_output_28 : decode cX7_output 28 = .ok (.iload_n 2, 1) := by decide +kernel
theorem dX7_output_29 : decode cX7_output 29 = .ok (.ifCond .lt 11, 3) := by decide +kernel
theorem dX7_output_32 : decode cX7_output 32 = .ok (.iload_n 2, 1) := by decide +kernel
theorem dX7_output_33 : decode cX7_output 33 = .ok (.aload_n 3, 1) := by decide +kernel
theorem dX7_output_34 : decode cX7_output 34 = .ok (.getfield 173, 3) := by decide +kernel
theorem dX7_output_37 : decode cX7_output 37 = .ok (.if_icmp .lt 13, 3) := by decide +kernel
theorem dX7_output_40 : decode cX7_output 40 = .ok (.new 48, 3) := by decide +kernel
theorem dX7_output_43 : decode cX7_output 43 = .ok (.dup, 1) := by decide +kernel
theorem dX7_output_44 : decode cX7_output 44 = .ok (.ldc 178, 2) := by decide +kernel
theorem dX7_output_46 : decode cX7_output 46 = .ok (.invokespecial 52, 3) := by decide +kernel
theorem dX7_output_49 : decode cX7_output 49 = .ok (.athrow, 1) := by decide +kernel
theorem dX7_output_50 : decode cX7_output 50 = .ok (.aload_n 3, 1) := by decide +kernel
theorem dX7_output_51 : decode cX7_output 51 = .ok (.getfield 180, 3) := by decide +kernel
theorem dX7_output_54 : decode cX7_output 54 = .ok (.iload_n 2, 1) := by decide +kernel
theorem dX7_output_55 : decode cX7_output 55 = .ok (.iaload, 1) := by decide +kernel
theorem dX7_output_56 : decode cX7_output 56 = .ok (.ireturn, 1) := by decide +kernel
theorem dX7_variable_0 : decode cX7_variable 0 = .ok (.aload_n 0, 1) := by decide +kernel
theorem dX7_variable_1 : decode cX7_variable 1 = .ok (.iload_n 1, 1) := by decide +kernel
theorem dX7_variable_2 : decode cX7_variable 2 = .ok (.invokevirtual 129, 3) := by decide +kernel
theorem dX7_variable_5 : decode cX7_variable 5 = .ok (.aload_n 0, 1) := by decide +kernel
theorem dX7_variable_6 : decode cX7_variable 6 = .ok (.invokevirtual 145, 3) := by decide +kernel
theorem dX7_variable_9 : decode cX7_variable 9 = .ok (.aload_n 0, 1) := by decide +kernel
theorem dX7_variable_10 : decode cX7_variable 10 = .ok (.invokevirtual 112, 3) := by decide +kernel
theorem dX7_variable_13 : decode cX7_variable 13 = .ok (.aload_n 0, 1) := by decide +kernel
theorem dX7_variable_14 : decode cX7_variable 14 = .ok (.iload_n 1, 1) := by decide +kernel
theorem dX7_variable_15 : decode cX7_variable 15 = .ok (.invokevirtual 166, 3) := by decide +kernel
theorem dX7_variable_18 : decode cX7_variable 18 = .ok (.iload_n 2, 1) := by decide +kernel
theorem dX7_variable_19 : decode cX7_variable 19 = .ok (.ifCond .lt 8, 3) := by decide +kernel
theorem dX7_variable_22 : decode cX7_variable 22 = .ok (.iload_n 2, 1) := by decide +kernel
theorem dX7_variable_23 : decode cX7_variable 23 = .ok (.iconst 4, 1) := by decide +kernel
theorem dX7_variable_24 : decode cX7_variable 24 = .ok (.if_icmp .lt 13, 3) := by decide +kernel
theorem dX7_variable_27 : decode cX7_variable 27 = .ok (.new 48, 3) := by decide +kernel
theorem dX7_variable_30 : decode cX7_variable 30 = .ok (.dup, 1) := by decide +kernel
theorem dX7_variable_31 : decode cX7_variable 31 = .ok (.ldc 183, 2) := by decide +kernel
theorem dX7_variable_33 : decode cX7_variable 33 = .ok (.invokespecial 52, 3) := by decide +kernel
theorem dX7_variable_36 : decode cX7_variable 36 = .ok (.athrow, 1) := by decide +kernel
theorem dX7_variable_37 : decode cX7_variable 37 = .ok (.aload_n 0, 1) := by decide +kernel
theorem dX7_variable_38 : decode cX7_variable 38 = .ok (.getfield 25, 3) := by decide +kernel
theorem dX7_variable_41 : decode cX7_variable 41 = .ok (.iload_n 1, 1) := by decide +kernel
theorem dX7_variable_42 : decode cX7_variable 42 = .ok (.aaload, 1) := by decide +kernel
theorem dX7_variable_43 : decode cX7_variable 43 = .ok (.getfield 169, 3) := by decide +kernel
theorem dX7_variable_46 : decode cX7_variable 46 = .ok (.getfield 185, 3) := by decide +kernel
theorem dX7_variable_49 : decode cX7_variable 49 = .ok (.iload_n 2, 1) := by decide +kernel
theorem dX7_variable_50 : decode cX7_variable 50 = .ok (.iaload, 1) := by decide +kernel
theorem dX7_variable_51 : decode cX7_variable 51 = .ok (.ireturn, 1) := by decide +kernel
theorem dX7_behaviours_0 : decode cX7_behaviours 0 = .ok (.aload_n 0, 1) := by decide +kernel
theorem dX7_behaviours_1 : decode cX7_behaviours 1 = .ok (.invokevirtual 145, 3) := by decide +kernel
theorem dX7_behaviours_4 : decode cX7_behaviours 4 = .ok (.aload_n 0, 1) := by decide +kernel
theorem dX7_behaviours_5 : decode cX7_behaviours 5 = .ok (.invokevirtual 112, 3) := by decide +kernel
theorem dX7_behaviours_8 : decode cX7_behaviours 8 = .ok (.iconst 0, 1) := by decide +kernel
theorem dX7_behaviours_9 : decode cX7_behaviours 9 = .ok (.istore_n 1, 1) := by decide +kernel
theorem dX7_behaviours_10 : decode cX7_behaviours 10 = .ok (.iconst 0, 1) := by decide +kernel
theorem dX7_behaviours_11 : decode cX7_behaviours 11 = .ok (.istore_n 2, 1) := by decide +kernel
theorem dX7_behaviours_12 : decode cX7_behaviours 12 = .ok (.iload_n 2, 1) := by decide +kernel
theorem dX7_behaviours_13 : decode cX7_behaviours 13 = .ok (.bipush 16, 2) := by decide +kernel
theorem dX7_behaviours_15 : decode cX7_behaviours 15 = .ok (.if_icmp .ge 36, 3) := by decide +kernel
theorem dX7_behaviours_18 : decode cX7_behaviours 18 = .ok (.aload_n 0, 1) := by decide +kernel
theorem dX7_behaviours_19 : decode cX7_behaviours 19 = .ok (.getfield 25, 3) := by decide +kernel
theorem dX7_behaviours_22 : decode cX7_behaviours 22 = .ok (.iload_n 2, 1) := by decide +kernel
theorem dX7_behaviours_23 : decode cX7_behaviours 23 = .ok (.aaload, 1) := by decide +kernel
theorem dX7_behaviours_24 : decode cX7_behaviours 24 = .ok (.getfield 148, 3) := by decide +kernel
theorem dX7_behaviours_27 : decode cX7_behaviours 27 = .ok (.getfield 152, 3) := by decide +kernel
theorem dX7_behaviours_30 : decode cX7_behaviours 30 = .ok (.iconst (-1), 1) := by decide +kernel
theorem dX7_behaviours_31 : decode cX7_behaviours 31 = .ok (.if_icmp .ne 14, 3) := by decide +kernel
theorem dX7_behaviours_34 : decode cX7_behaviours 34 = .ok (.aload_n 0, 1) := by decide +kernel
theorem dX7_behaviours_35 : decode cX7_behaviours 35 = .ok (.iload_n 2, 1) := by decide +kernel
theorem dX7_behaviours_36 : decode cX7_behaviours 36 = .ok (.invokevirtual 188, 3) := by decide +kernel
theorem dX7_behaviours_39 : decode cX7_behaviours 39 = .ok (.ifCond .eq 6, 3) := by decide +kernel
theorem dX7_behaviours_42 : decode cX7_behaviours 42 = .ok (.iinc 1 1, 3) := by decide +kernel
theorem dX7_behaviours_45 : decode cX7_behaviours 45 = .ok (.iinc 2 1, 3) := by decide +kernel
theorem dX7_behaviours_48 : decode cX7_behaviours 48 = .ok (.goto (-36), 3) := by decide +kernel
theorem dX7_behaviours_51 : decode cX7_behaviours 51 = .ok (.iload_n 1, 1) := by decide +kernel
theorem dX7_behaviours_52 : decode cX7_behaviours 52 = .ok (.ireturn, 1) := by decide +kernel
theorem dX7_checkFeature_0 : decode cX7_checkFeature 0 = .ok (.iload_n 1, 1) := by decide +kernel
theorem dX7_checkFeature_1 : decode cX7_checkFeature 1 = .ok (.ifCond .lt 8, 3) := by decide +kernel
theorem dX7_checkFeature_4 : decode cX7_checkFeature 4 = .ok (.iload_n 1, 1) := by decide +kernel
theorem dX7_checkFeature_5 : decode cX7_checkFeature 5 = .ok (.iconst 4, 1) := by decide +kernel
theorem dX7_checkFeature_6 : decode cX7_checkFeature 6 = .ok (.if_icmp .lt 13, 3) := by decide +kernel
theorem dX7_checkFeature_9 : decode cX7_checkFeature 9 = .ok (.new 201, 3) := by decide +kernel
theorem dX7_checkFeature_12 : decode cX7_checkFeature 12 = .ok (.dup, 1) := by decide +kernel
theorem dX7_checkFeature_13 : decode cX7_checkFeature 13 = .ok (.ldc 203, 2) := by decide +kernel
theorem dX7_checkFeature_15 : decode cX7_checkFeature 15 = .ok (.invokespecial 205, 3) := by decide +kernel
theorem dX7_checkFeature_18 : decode cX7_checkFeature 18 = .ok (.athrow, 1) := by decide +kernel
theorem dX7_checkFeature_19 : decode cX7_checkFeature 19 = .ok (.return_, 1) := by decide +kernel
theorem dX7_checkItem_0 : decode cX7_checkItem 0 = .ok (.iload_n 1, 1) := by decide +kernel
theorem dX7_checkItem_1 : decode cX7_checkItem 1 = .ok (.ifCond .lt 14, 3) := by decide +kernel
theorem dX7_checkItem_4 : decode cX7_checkItem 4 = .ok (.iload_n 1, 1) := by decide +kernel
theorem dX7_checkItem_5 : decode cX7_checkItem 5 = .ok (.aload_n 0, 1) := by decide +kernel
theorem dX7_checkItem_6 : decode cX7_checkItem 6 = .ok (.getfield 10, 3) := by decide +kernel
theorem dX7_checkItem_9 : decode cX7_checkItem 9 = .ok (.getfield 55, 3) := by decide +kernel
theorem dX7_checkItem_12 : decode cX7_checkItem 12 = .ok (.if_icmp .lt 13, 3) := by decide +kernel
theorem dX7_checkItem_15 : decode cX7_checkItem 15 = .ok (.new 201, 3) := by decide +kernel
theorem dX7_checkItem_18 : decode cX7_checkItem 18 = .ok (.dup, 1) := by decide +kernel
theorem dX7_checkItem_19 : decode cX7_checkItem 19 = .ok (.ldc 206, 2) := by decide +kernel
theorem dX7_checkItem_21 : decode cX7_checkItem 21 = .ok (.invokespecial 205, 3) := by decide +kernel
theorem dX7_checkItem_24 : decode cX7_checkItem 24 = .ok (.athrow, 1) := by decide +kernel
theorem dX7_checkItem_25 : decode cX7_checkItem 25 = .ok (.return_, 1) := by decide +kernel
theorem dX7_checkConfiguration_0 : decode cX7_checkConfiguration 0 = .ok (.iload_n 1, 1) := by decide +kernel
theorem dX7_checkConfiguration_1 : decode cX7_checkConfiguration 1 = .ok (.ifCond .lt 9, 3) := by decide +kernel
theorem dX7_checkConfiguration_4 : decode cX7_checkConfiguration 4 = .ok (.iload_n 1, 1) := by decide +kernel
theorem dX7_checkConfiguration_5 : decode cX7_checkConfiguration 5 = .ok (.bipush 16, 2) := by decide +kernel
theorem dX7_checkConfiguration_7 : decode cX7_checkConfiguration 7 = .ok (.if_icmp .lt 13, 3) := by decide +kernel
theorem dX7_checkConfiguration_10 : decode cX7_checkConfiguration 10 = .ok (.new 201, 3) := by decide +kernel
theorem dX7_checkConfiguration_13 : decode cX7_checkConfiguration 13 = .ok (.dup, 1) := by decide +kernel
theorem dX7_checkConfiguration_14 : decode cX7_checkConfiguration 14 = .ok (.ldc 208, 2) := by decide +kernel
theorem dX7_checkConfiguration_16 : decode cX7_checkConfiguration 16 = .ok (.invokespecial 205, 3) := by decide +kernel
theorem dX7_checkConfiguration_19 : decode cX7_checkConfiguration 19 = .ok (.athrow, 1) := by decide +kernel
theorem dX7_checkConfiguration_20 : decode cX7_checkConfiguration 20 = .ok (.return_, 1) := by decide +kernel
theorem dX7_checkIndex_0 : decode cX7_checkIndex 0 = .ok (.iload_n 2, 1) := by decide +kernel
theorem dX7_checkIndex_1 : decode cX7_checkIndex 1 = .ok (.ifCond .lt 16, 3) := by decide +kernel
theorem dX7_checkIndex_4 : decode cX7_checkIndex 4 = .ok (.iload_n 2, 1) := by decide +kernel
theorem dX7_checkIndex_5 : decode cX7_checkIndex 5 = .ok (.aload_n 0, 1) := by decide +kernel
theorem dX7_checkIndex_6 : decode cX7_checkIndex 6 = .ok (.getfield 25, 3) := by decide +kernel
theorem dX7_checkIndex_9 : decode cX7_checkIndex 9 = .ok (.iload_n 1, 1) := by decide +kernel
theorem dX7_checkIndex_10 : decode cX7_checkIndex 10 = .ok (.aaload, 1) := by decide +kernel
theorem dX7_checkIndex_11 : decode cX7_checkIndex 11 = .ok (.getfield 132, 3) := by decide +kernel
theorem dX7_checkIndex_14 : decode cX7_checkIndex 14 = .ok (.if_icmp .lt 13, 3) := by decide +kernel
theorem dX7_checkIndex_17 : decode cX7_checkIndex 17 = .ok (.new 201, 3) := by decide +kernel
theorem dX7_checkIndex_20 : decode cX7_checkIndex 20 = .ok (.dup, 1) := by decide +kernel
theorem dX7_checkIndex_21 : decode cX7_checkIndex 21 = .ok (.ldc 210, 2) := by decide +kernel
theorem dX7_checkIndex_23 : decode cX7_checkIndex 23 = .ok (.invokespecial 205, 3) := by decide +kernel
theorem dX7_checkIndex_26 : decode cX7_checkIndex 26 = .ok (.athrow, 1) := by decide +kernel
theorem dX7_checkIndex_27 : decode cX7_checkIndex 27 = .ok (.return_, 1) := by decide +kernel
theorem dX7_checkRoom_0 : decode cX7_checkRoom 0 = .ok (.aload_n 0, 1) := by decide +kernel
theorem dX7_checkRoom_1 : decode cX7_checkRoom 1 = .ok (.getfield 10, 3) := by decide +kernel
theorem dX7_checkRoom_4 : decode cX7_checkRoom 4 = .ok (.getfield 55, 3) := by decide +kernel
theorem dX7_checkRoom_7 : decode cX7_checkRoom 7 = .ok (.bipush 80, 2) := by decide +kernel
theorem dX7_checkRoom_9 : decode cX7_checkRoom 9 = .ok (.if_icmp .lt 13, 3) := by decide +kernel
theorem dX7_checkRoom_12 : decode cX7_checkRoom 12 = .ok (.new 59, 3) := by decide +kernel
theorem dX7_checkRoom_15 : decode cX7_checkRoom 15 = .ok (.dup, 1) := by decide +kernel
theorem dX7_checkRoom_16 : decode cX7_checkRoom 16 = .ok (.ldc 61, 2) := by decide +kernel
theorem dX7_checkRoom_18 : decode cX7_checkRoom 18 = .ok (.invokespecial 63, 3) := by decide +kernel
theorem dX7_checkRoom_21 : decode cX7_checkRoom 21 = .ok (.athrow, 1) := by decide +kernel
theorem dX7_checkRoom_22 : decode cX7_checkRoom 22 = .ok (.return_, 1) := by decide +kernel
theorem dX7_checkUnfinished_0 : decode cX7_checkUnfinished 0 = .ok (.aload_n 0, 1) := by decide +kernel
theorem dX7_checkUnfinished_1 : decode cX7_checkUnfinished 1 = .ok (.getfield 10, 3) := by decide +kernel
theorem dX7_checkUnfinished_4 : decode cX7_checkUnfinished 4 = .ok (.invokevirtual 75, 3) := by decide +kernel
theorem dX7_checkUnfinished_7 : decode cX7_checkUnfinished 7 = .ok (.ifCond .ne 13, 3) := by decide +kernel
theorem dX7_checkUnfinished_10 : decode cX7_checkUnfinished 10 = .ok (.new 59, 3) := by decide +kernel
theorem dX7_checkUnfinished_13 : decode cX7_checkUnfinished 13 = .ok (.dup, 1) := by decide +kernel
theorem dX7_checkUnfinished_14 : decode cX7_checkUnfinished 14 = .ok (.ldc 212, 2) := by decide +kernel
theorem dX7_checkUnfinished_16 : decode cX7_checkUnfinished 16 = .ok (.invokespecial 63, 3) := by decide +kernel
theorem dX7_checkUnfinished_19 : decode cX7_checkUnfinished 19 = .ok (.athrow, 1) := by decide +kernel
theorem dX7_checkUnfinished_20 : decode cX7_checkUnfinished 20 = .ok (.return_, 1) := by decide +kernel
theorem dX7_checkFinished_0 : decode cX7_checkFinished 0 = .ok (.aload_n 0, 1) := by decide +kernel
theorem dX7_checkFinished_1 : decode cX7_checkFinished 1 = .ok (.getfield 10, 3) := by decide +kernel
theorem dX7_checkFinished_4 : decode cX7_checkFinished 4 = .ok (.invokevirtual 75, 3) := by decide +kernel
theorem dX7_checkFinished_7 : decode cX7_checkFinished 7 = .ok (.ifCond .eq 13, 3) := by decide +kernel
theorem dX7_checkFinished_10 : decode cX7_checkFinished 10 = .ok (.new 59, 3) := by decide +kernel
theorem dX7_checkFinished_13 : decode cX7_checkFinished 13 = .ok (.dup, 1) := by decide +kernel
theorem dX7_checkFinished_14 : decode cX7_checkFinished 14 = .ok (.ldc 214, 2) := by decide +kernel
theorem dX7_checkFinished_16 : decode cX7_checkFinished 16 = .ok (.invokespecial 63, 3) := by decide +kernel
theorem dX7_checkFinished_19 : decode cX7_checkFinished 19 = .ok (.athrow, 1) := by decide +kernel
theorem dX7_checkFinished_20 : decode cX7_checkFinished 20 = .ok (.return_, 1) := by decide +kernel
theorem dX7_checkNoError_0 : decode cX7_checkNoError 0 = .ok (.aload_n 0, 1) := by decide +kernel
theorem dX7_checkNoError_1 : decode cX7_checkNoError 1 = .ok (.getfield 25, 3) := by decide +kernel
theorem dX7_checkNoError_4 : decode cX7_checkNoError 4 = .ok (.iload_n 1, 1) := by decide +kernel
theorem dX7_checkNoError_5 : decode cX7_checkNoError 5 = .ok (.aaload, 1) := by decide +kernel
theorem dX7_checkNoError_6 : decode cX7_checkNoError 6 = .ok (.getfield 148, 3) := by decide +kernel
theorem dX7_checkNoError_9 : decode cX7_checkNoError 9 = .ok (.getfield 152, 3) := by decide +kernel
theorem dX7_checkNoError_12 : decode cX7_checkNoError 12 = .ok (.iconst (-1), 1) := by decide +kernel
theorem dX7_checkNoError_13 : decode cX7_checkNoError 13 = .ok (.if_icmp .eq 13, 3) := by decide +kernel
theorem dX7_checkNoError_16 : decode cX7_checkNoError 16 = .ok (.new 216, 3) := by decide +kernel
theorem dX7_checkNoError_19 : decode cX7_checkNoError 19 = .ok (.dup, 1) := by decide +kernel
theorem dX7_checkNoError_20 : decode cX7_checkNoError 20 = .ok (.ldc 218, 2) := by decide +kernel
theorem dX7_checkNoError_22 : decode cX7_checkNoError 22 = .ok (.invokespecial 220, 3) := by decide +kernel
theorem dX7_checkNoError_25 : decode cX7_checkNoError 25 = .ok (.athrow, 1) := by decide +kernel
theorem dX7_checkNoError_26 : decode cX7_checkNoError 26 = .ok (.return_, 1) := by decide +kernel
theorem dX7_byteOf_0 : decode cX7_byteOf 0 = .ok (.lload_n 0, 1) := by decide +kernel
theorem dX7_byteOf_1 : decode cX7_byteOf 1 = .ok (.iload_n 2, 1) := by decide +kernel
theorem dX7_byteOf_2 : decode cX7_byteOf 2 = .ok (.lushr, 1) := by decide +kernel
theorem dX7_byteOf_3 : decode cX7_byteOf 3 = .ok (.l2i, 1) := by decide +kernel
theorem dX7_byteOf_4 : decode cX7_byteOf 4 = .ok (.sipush 255, 3) := by decide +kernel
theorem dX7_byteOf_7 : decode cX7_byteOf 7 = .ok (.iand, 1) := by decide +kernel
theorem dX7_byteOf_8 : decode cX7_byteOf 8 = .ok (.ireturn, 1) := by decide +kernel
theorem dX7_append_0 : decode cX7_append 0 = .ok (.aload_n 0, 1) := by decide +kernel
theorem dX7_append_1 : decode cX7_append 1 = .ok (.getfield 10, 3) := by decide +kernel
theorem dX7_append_4 : decode cX7_append 4 = .ok (.iload_n 1, 1) := by decide +kernel
theorem dX7_append_5 : decode cX7_append 5 = .ok (.invokevirtual 221, 3) := by decide +kernel
theorem dX7_append_8 : decode cX7_append 8 = .ok (.aload_n 0, 1) := by decide +kernel
theorem dX7_append_9 : decode cX7_append 9 = .ok (.iconst 0, 1) := by decide +kernel
theorem dX7_append_10 : decode cX7_append 10 = .ok (.putfield 34, 3) := by decide +kernel
theorem dX7_append_13 : decode cX7_append 13 = .ok (.aload_n 0, 1) := by decide +kernel
theorem dX7_append_14 : decode cX7_append 14 = .ok (.getfield 10, 3) := by decide +kernel
theorem dX7_append_17 : decode cX7_append 17 = .ok (.getfield 55, 3) := by decide +kernel
theorem dX7_append_20 : decode cX7_append 20 = .ok (.ireturn, 1) := by decide +kernel
theorem dX7_refresh_0 : decode cX7_refresh 0 = .ok (.aload_n 0, 1) := by decide +kernel
theorem dX7_refresh_1 : decode cX7_refresh 1 = .ok (.getfield 34, 3) := by decide +kernel
theorem dX7_refresh_4 : decode cX7_refresh 4 = .ok (.ifCond .eq 4, 3) := by decide +kernel
theorem dX7_refresh_7 : decode cX7_refresh 7 = .ok (.return_, 1) := by decide +kernel
theorem dX7_refresh_8 : decode cX7_refresh 8 = .ok (.aload_n 0, 1) := by decide +kernel
theorem dX7_refresh_9 : decode cX7_refresh 9 = .ok (.getfield 19, 3) := by decide +kernel
theorem dX7_refresh_12 : decode cX7_refresh 12 = .ok (.aload_n 0, 1) := by decide +kernel
theorem dX7_refresh_13 : decode cX7_refresh 13 = .ok (.getfield 10, 3) := by decide +kernel
theorem dX7_refresh_16 : decode cX7_refresh 16 = .ok (.invokevirtual 224, 3) := by decide +kernel
theorem dX7_refresh_19 : decode cX7_refresh 19 = .ok (.aload_n 0, 1) := by decide +kernel
theorem dX7_refresh_20 : decode cX7_refresh 20 = .ok (.invokevirtual 228, 3) := by decide +kernel
theorem dX7_refresh_23 : decode cX7_refresh 23 = .ok (.aload_n 0, 1) := by decide +kernel
theorem dX7_refresh_24 : decode cX7_refresh 24 = .ok (.getfield 10, 3) := by decide +kernel
theorem dX7_refresh_27 : decode cX7_refresh 27 = .ok (.invokevirtual 75, 3) := by decide +kernel
theorem dX7_refresh_30 : decode cX7_refresh 30 = .ok (.ifCond .ne 11, 3) := by decide +kernel
theorem dX7_refresh_33 : decode cX7_refresh 33 = .ok (.aload_n 0, 1) := by decide +kernel
theorem dX7_refresh_34 : decode cX7_refresh 34 = .ok (.invokevirtual 231, 3) := by decide +kernel
theorem dX7_refresh_37 : decode cX7_refresh 37 = .ok (.aload_n 0, 1) := by decide +kernel
theorem dX7_refresh_38 : decode cX7_refresh 38 = .ok (.invokevirtual 234, 3) := by decide +kernel
theorem dX7_refresh_41 : decode cX7_refresh 41 = .ok (.aload_n 0, 1) := by decide +kernel
theorem dX7_refresh_42 : decode cX7_refresh 42 = .ok (.iconst 1, 1) := by decide +kernel
theorem dX7_refresh_43 : decode cX7_refresh 43 = .ok (.putfield 34, 3) := by decide +kernel
theorem dX7_refresh_46 : decode cX7_refresh 46 = .ok (.return_, 1) := by decide +kernel
theorem dX7_collectVariants_0 : decode cX7_collectVariants 0 = .ok (.iconst 0, 1) := by decide +kernel
theorem dX7_collectVariants_1 : decode cX7_collectVariants 1 = .ok (.istore_n 1, 1) := by decide +kernel
theorem dX7_collectVariants_2 : decode cX7_collectVariants 2 = .ok (.iload_n 1, 1) := by decide +kernel
theorem dX7_collectVariants_3 : decode cX7_collectVariants 3 = .ok (.bipush 16, 2) := by decide +kernel
theorem dX7_collectVariants_5 : decode cX7_collectVariants 5 = .ok (.if_icmp .ge 81, 3) := by decide +kernel
theorem dX7_collectVariants_8 : decode cX7_collectVariants 8 = .ok (.aload_n 0, 1) := by decide +kernel
theorem dX7_collectVariants_9 : decode cX7_collectVariants 9 = .ok (.getfield 25, 3) := by decide +kernel
theorem dX7_collectVariants_12 : decode cX7_collectVariants 12 = .ok (.iload_n 1, 1) := by decide +kernel
theorem dX7_collectVariants_13 : decode cX7_collectVariants 13 = .ok (.aaload, 1) := by decide +kernel
theorem dX7_collectVariants_14 : decode cX7_collectVariants 14 = .ok (.astore_n 2, 1) := by decide +kernel
theorem dX7_collectVariants_15 : decode cX7_collectVariants 15 = .ok (.aload_n 2, 1) := by decide +kernel
theorem dX7_collectVariants_16 : decode cX7_collectVariants 16 = .ok (.iconst 0, 1) := by decide +kernel
theorem dX7_collectVariants_17 : decode cX7_collectVariants 17 = .ok (.putfield 132, 3) := by decide +kernel
theorem dX7_collectVariants_20 : decode cX7_collectVariants 20 = .ok (.iconst 0, 1) := by decide +kernel
theorem dX7_collectVariants_21 : decode cX7_collectVariants 21 = .ok (.istore_n 3, 1) := by decide +kernel
theorem dX7_collectVariants_22 : decode cX7_collectVariants 22 = .ok (.iload_n 3, 1) := by decide +kernel
theorem dX7_collectVariants_23 : decode cX7_collectVariants 23 = .ok (.aload_n 0, 1) := by decide +kernel
theorem dX7_collectVariants_24 : decode cX7_collectVariants 24 = .ok (.getfield 10, 3) := by decide +kernel
theorem dX7_collectVariants_27 : decode cX7_collectVariants 27 = .ok (.getfield 55, 3) := by decide +kernel
theorem dX7_collectVariants_30 : decode cX7_collectVariants 30 = .ok (.if_icmp .ge 50, 3) := by decide +kernel
theorem dX7_collectVariants_33 : decode cX7_collectVariants 33 = .ok (.aload_n 0, 1) := by decide +kernel
theorem dX7_collectVariants_34 : decode cX7_collectVariants 34 = .ok (.getfield 10, 3) := by decide +kernel
theorem dX7_collectVariants_37 : decode cX7_collectVariants 37 = .ok (.getfield 105, 3) := by decide +kernel
theorem dX7_collectVariants_40 : decode cX7_collectVariants 40 = .ok (.iload_n 3, 1) := by decide +kernel
theorem dX7_collectVariants_41 : decode cX7_collectVariants 41 = .ok (.iaload, 1) := by decide +kernel
theorem dX7_collectVariants_42 : decode cX7_collectVariants 42 = .ok (.invokestatic 42, 3) := by decide +kernel
theorem dX7_collectVariants_45 : decode cX7_collectVariants 45 = .ok (.ifCond .eq 29, 3) := by decide +kernel
theorem dX7_collectVariants_48 : decode cX7_collectVariants 48 = .ok (.aload_n 0, 1) := by decide +kernel
theorem dX7_collectVariants_49 : decode cX7_collectVariants 49 = .ok (.getfield 19, 3) := by decide +kernel
theorem dX7_collectVariants_52 : decode cX7_collectVariants 52 = .ok (.iload_n 3, 1) := by decide +kernel
theorem dX7_collectVariants_53 : decode cX7_collectVariants 53 = .ok (.iload_n 1, 1) := by decide +kernel
theorem dX7_collectVariants_54 : decode cX7_collectVariants 54 = .ok (.invokevirtual 237, 3) := by decide +kernel
theorem dX7_collectVariants_57 : decode cX7_collectVariants 57 = .ok (.ifCond .eq 17, 3) := by decide +kernel
theorem dX7_collectVariants_60 : decode cX7_collectVariants 60 = .ok (.aload_n 2, 1) := by decide +kernel
theorem dX7_collectVariants_61 : decode cX7_collectVariants 61 = .ok (.aload_n 0, 1) := by decide +kernel
theorem dX7_collectVariants_62 : decode cX7_collectVariants 62 = .ok (.getfield 10, 3) := by decide +kernel
theorem dX7_collectVariants_65 : decode cX7_collectVariants 65 = .ok (.getfield 105, 3) := by decide +kernel
theorem dX7_collectVariants_68 : decode cX7_collectVariants 68 = .ok (.iload_n 3, 1) := by decide +kernel
theorem dX7_collectVariants_69 : decode cX7_collectVariants 69 = .ok (.iaload, 1) := by decide +kernel
theorem dX7_collectVariants_70 : decode cX7_collectVariants 70 = .ok (.iload_n 3, 1) := by decide +kernel
theorem dX7_collectVariants_71 : decode cX7_collectVariants 71 = .ok (.invokevirtual 240, 3) := by decide +kernel
theorem dX7_collectVariants_74 : decode cX7_collectVariants 74 = .ok (.iinc 3 1, 3) := by decide +kernel
theorem dX7_collectVariants_77 : decode cX7_collectVariants 77 = .ok (.goto (-55), 3) := by decide +kernel
theorem dX7_collectVariants_80 : decode cX7_collectVariants 80 = .ok (.iinc 1 1, 3) := by decide +kernel
theorem dX7_collectVariants_83 : decode cX7_collectVariants 83 = .ok (.goto (-81), 3) := by decide +kernel
theorem dX7_collectVariants_86 : decode cX7_collectVariants 86 = .ok (.return_, 1) := by decide +kernel
theorem dX7_readAll_0 : decode cX7_readAll 0 = .ok (.iconst 0, 1) := by decide +kernel
theorem dX7_readAll_1 : decode cX7_readAll 1 = .ok (.istore_n 1, 1) := by decide +kernel
theorem dX7_readAll_2 : decode cX7_readAll 2 = .ok (.iload_n 1, 1) := by decide +kernel
theorem dX7_readAll_3 : decode cX7_readAll 3 = .ok (.bipush 16, 2) := by decide +kernel
theorem dX7_readAll_5 : decode cX7_readAll 5 = .ok (.if_icmp .ge 21, 3) := by decide +kernel
theorem dX7_readAll_8 : decode cX7_readAll 8 = .ok (.aload_n 0, 1) := by decide +kernel
theorem dX7_readAll_9 : decode cX7_readAll 9 = .ok (.getfield 25, 3) := by decide +kernel
theorem dX7_readAll_12 : decode cX7_readAll 12 = .ok (.iload_n 1, 1) := by decide +kernel
theorem dX7_readAll_13 : decode cX7_readAll 13 = .ok (.aaload, 1) := by decide +kernel
theorem dX7_readAll_14 : decode cX7_readAll 14 = .ok (.getfield 148, 3) := by decide +kernel
theorem dX7_readAll_17 : decode cX7_readAll 17 = .ok (.invokevirtual 242, 3) := by decide +kernel
theorem dX7_readAll_20 : decode cX7_readAll 20 = .ok (.iinc 1 1, 3) := by decide +kernel
theorem dX7_readAll_23 : decode cX7_readAll 23 = .ok (.goto (-21), 3) := by decide +kernel
theorem dX7_readAll_26 : decode cX7_readAll 26 = .ok (.iconst 0, 1) := by decide +kernel
theorem dX7_readAll_27 : decode cX7_readAll 27 = .ok (.istore_n 1, 1) := by decide +kernel
theorem dX7_readAll_28 : decode cX7_readAll 28 = .ok (.iload_n 1, 1) := by decide +kernel
theorem dX7_readAll_29 : decode cX7_readAll 29 = .ok (.aload_n 0, 1) := by decide +kernel
theorem dX7_readAll_30 : decode cX7_readAll 30 = .ok (.getfield 10, 3) := by decide +kernel
theorem dX7_readAll_33 : decode cX7_readAll 33 = .ok (.getfield 55, 3) := by decide +kernel
theorem dX7_readAll_36 : decode cX7_readAll 36 = .ok (.if_icmp .ge 87, 3) := by decide +kernel
theorem dX7_readAll_39 : decode cX7_readAll 39 = .ok (.aload_n 0, 1) := by decide +kernel
theorem dX7_readAll_40 : decode cX7_readAll 40 = .ok (.getfield 30, 3) := by decide +kernel
theorem dX7_readAll_43 : decode cX7_readAll 43 = .ok (.iload_n 1, 1) := by decide +kernel
theorem dX7_readAll_44 : decode cX7_readAll 44 = .ok (.iconst 0, 1) := by decide +kernel
theorem dX7_readAll_45 : decode cX7_readAll 45 = .ok (.iastore, 1) := by decide +kernel
theorem dX7_readAll_46 : decode cX7_readAll 46 = .ok (.aload_n 0, 1) := by decide +kernel
theorem dX7_readAll_47 : decode cX7_readAll 47 = .ok (.getfield 10, 3) := by decide +kernel
theorem dX7_readAll_50 : decode cX7_readAll 50 = .ok (.getfield 105, 3) := by decide +kernel
theorem dX7_readAll_53 : decode cX7_readAll 53 = .ok (.iload_n 1, 1) := by decide +kernel
theorem dX7_readAll_54 : decode cX7_readAll 54 = .ok (.iaload, 1) := by decide +kernel
theorem dX7_readAll_55 : decode cX7_readAll 55 = .ok (.invokestatic 42, 3) := by decide +kernel
theorem dX7_readAll_58 : decode cX7_readAll 58 = .ok (.ifCond .eq 59, 3) := by decide +kernel
theorem dX7_readAll_61 : decode cX7_readAll 61 = .ok (.aload_n 0, 1) := by decide +kernel
theorem dX7_readAll_62 : decode cX7_readAll 62 = .ok (.getfield 30, 3) := by decide +kernel
theorem dX7_readAll_65 : decode cX7_readAll 65 = .ok (.iload_n 1, 1) := by decide +kernel
theorem dX7_readAll_66 : decode cX7_readAll 66 = .ok (.aload_n 0, 1) := by decide +kernel
theorem dX7_readAll_67 : decode cX7_readAll 67 = .ok (.iload_n 1, 1) := by decide +kernel
theorem dX7_readAll_68 : decode cX7_readAll 68 = .ok (.invokevirtual 245, 3) := by decide +kernel
theorem dX7_readAll_71 : decode cX7_readAll 71 = .ok (.iastore, 1) := by decide +kernel
theorem dX7_readAll_72 : decode cX7_readAll 72 = .ok (.iconst 0, 1) := by decide +kernel
theorem dX7_readAll_73 : decode cX7_readAll 73 = .ok (.istore_n 2, 1) := by decide +kernel
theorem dX7_readAll_74 : decode cX7_readAll 74 = .ok (.iload_n 2, 1) := by decide +kernel
theorem dX7_readAll_75 : decode cX7_readAll 75 = .ok (.bipush 16, 2) := by decide +kernel
theorem dX7_readAll_77 : decode cX7_readAll 77 = .ok (.if_icmp .ge 40, 3) := by decide +kernel
theorem dX7_readAll_80 : decode cX7_readAll 80 = .ok (.aload_n 0, 1) := by decide +kernel
theorem dX7_readAll_81 : decode cX7_readAll 81 = .ok (.iload_n 2, 1) := by decide +kernel
theorem dX7_readAll_82 : decode cX7_readAll 82 = .ok (.iload_n 1, 1) := by decide +kernel
theorem dX7_readAll_83 : decode cX7_readAll 83 = .ok (.invokevirtual 248, 3) := by decide +kernel
theorem dX7_readAll_86 : decode cX7_readAll 86 = .ok (.ifCond .eq 25, 3) := by decide +kernel
theorem dX7_readAll_89 : decode cX7_readAll 89 = .ok (.aload_n 0, 1) := by decide +kernel
theorem dX7_readAll_90 : decode cX7_readAll 90 = .ok (.getfield 25, 3) := by decide +kernel
theorem dX7_readAll_93 : decode cX7_readAll 93 = .ok (.iload_n 2, 1) := by decide +kernel
theorem dX7_readAll_94 : decode cX7_readAll 94 = .ok (.aaload, 1) := by decide +kernel
theorem dX7_readAll_95 : decode cX7_readAll 95 = .ok (.getfield 148, 3) := by decide +kernel
theorem dX7_readAll_98 : decode cX7_readAll 98 = .ok (.aload_n 0, 1) := by decide +kernel
theorem dX7_readAll_99 : decode cX7_readAll 99 = .ok (.getfield 10, 3) := by decide +kernel
theorem dX7_readAll_102 : decode cX7_readAll 102 = .ok (.getfield 105, 3) := by decide +kernel
theorem dX7_readAll_105 : decode cX7_readAll 105 = .ok (.iload_n 1, 1) := by decide +kernel
theorem dX7_readAll_106 : decode cX7_readAll 106 = .ok (.iaload, 1) := by decide +kernel
theorem dX7_readAll_107 : decode cX7_readAll 107 = .ok (.iload_n 1, 1) := by decide +kernel
theorem dX7_readAll_108 : decode cX7_readAll 108 = .ok (.invokevirtual 251, 3) := by decide +kernel
theorem dX7_readAll_111 : decode cX7_readAll 111 = .ok (.iinc 2 1, 3) := by decide +kernel
theorem dX7_readAll_114 : decode cX7_readAll 114 = .ok (.goto (-40), 3) := by decide +kernel
theorem dX7_readAll_117 : decode cX7_readAll 117 = .ok (.iinc 1 1, 3) := by decide +kernel
theorem dX7_readAll_120 : decode cX7_readAll 120 = .ok (.goto (-92), 3) := by decide +kernel
theorem dX7_readAll_123 : decode cX7_readAll 123 = .ok (.iconst 0, 1) := by decide +kernel
theorem dX7_readAll_124 : decode cX7_readAll 124 = .ok (.istore_n 1, 1) := by decide +kernel
theorem dX7_readAll_125 : decode cX7_readAll 125 = .ok (.iload_n 1, 1) := by decide +kernel
theorem dX7_readAll_126 : decode cX7_readAll 126 = .ok (.bipush 16, 2) := by decide +kernel
theorem dX7_readAll_128 : decode cX7_readAll 128 = .ok (.if_icmp .ge 28, 3) := by decide +kernel
theorem dX7_readAll_131 : decode cX7_readAll 131 = .ok (.aload_n 0, 1) := by decide +kernel
theorem dX7_readAll_132 : decode cX7_readAll 132 = .ok (.getfield 25, 3) := by decide +kernel
theorem dX7_readAll_135 : decode cX7_readAll 135 = .ok (.iload_n 1, 1) := by decide +kernel
theorem dX7_readAll_136 : decode cX7_readAll 136 = .ok (.aaload, 1) := by decide +kernel
theorem dX7_readAll_137 : decode cX7_readAll 137 = .ok (.getfield 148, 3) := by decide +kernel
theorem dX7_readAll_140 : decode cX7_readAll 140 = .ok (.aload_n 0, 1) := by decide +kernel
theorem dX7_readAll_141 : decode cX7_readAll 141 = .ok (.getfield 10, 3) := by decide +kernel
theorem dX7_readAll_144 : decode cX7_readAll 144 = .ok (.getfield 55, 3) := by decide +kernel
theorem dX7_readAll_147 : decode cX7_readAll 147 = .ok (.invokevirtual 254, 3) := by decide +kernel
theorem dX7_readAll_150 : decode cX7_readAll 150 = .ok (.iinc 1 1, 3) := by decide +kernel
theorem dX7_readAll_153 : decode cX7_readAll 153 = .ok (.goto (-28), 3) := by decide +kernel
theorem dX7_readAll_156 : decode cX7_readAll 156 = .ok (.return_, 1) := by decide +kernel
theorem dX7_runAll_0 : decode cX7_runAll 0 = .ok (.iconst 0, 1) := by decide +kernel
theorem dX7_runAll_1 : decode cX7_runAll 1 = .ok (.istore_n 1, 1) := by decide +kernel
theorem dX7_runAll_2 : decode cX7_runAll 2 = .ok (.iload_n 1, 1) := by decide +kernel
theorem dX7_runAll_3 : decode cX7_runAll 3 = .ok (.bipush 16, 2) := by decide +kernel
theorem dX7_runAll_5 : decode cX7_runAll 5 = .ok (.if_icmp .ge 55, 3) := by decide +kernel
theorem dX7_runAll_8 : decode cX7_runAll 8 = .ok (.aload_n 0, 1) := by decide +kernel
theorem dX7_runAll_9 : decode cX7_runAll 9 = .ok (.getfield 25, 3) := by decide +kernel
theorem dX7_runAll_12 : decode cX7_runAll 12 = .ok (.iload_n 1, 1) := by decide +kernel
theorem dX7_runAll_13 : decode cX7_runAll 13 = .ok (.aaload, 1) := by decide +kernel
theorem dX7_runAll_14 : decode cX7_runAll 14 = .ok (.getfield 148, 3) := by decide +kernel
theorem dX7_runAll_17 : decode cX7_runAll 17 = .ok (.getfield 152, 3) := by decide +kernel
theorem dX7_runAll_20 : decode cX7_runAll 20 = .ok (.iconst (-1), 1) := by decide +kernel
theorem dX7_runAll_21 : decode cX7_runAll 21 = .ok (.if_icmp .ne 33, 3) := by decide +kernel
theorem dX7_runAll_24 : decode cX7_runAll 24 = .ok (.aload_n 0, 1) := by decide +kernel
theorem dX7_runAll_25 : decode cX7_runAll 25 = .ok (.getfield 25, 3) := by decide +kernel
theorem dX7_runAll_28 : decode cX7_runAll 28 = .ok (.iload_n 1, 1) := by decide +kernel
theorem dX7_runAll_29 : decode cX7_runAll 29 = .ok (.aaload, 1) := by decide +kernel
theorem dX7_runAll_30 : decode cX7_runAll 30 = .ok (.getfield 169, 3) := by decide +kernel
theorem dX7_runAll_33 : decode cX7_runAll 33 = .ok (.aload_n 0, 1) := by decide +kernel
theorem dX7_runAll_34 : decode cX7_runAll 34 = .ok (.getfield 25, 3) := by decide +kernel
theorem dX7_runAll_37 : decode cX7_runAll 37 = .ok (.iload_n 1, 1) := by decide +kernel
theorem dX7_runAll_38 : decode cX7_runAll 38 = .ok (.aaload, 1) := by decide +kernel
theorem dX7_runAll_39 : decode cX7_runAll 39 = .ok (.getfield 257, 3) := by decide +kernel
theorem dX7_runAll_42 : decode cX7_runAll 42 = .ok (.aload_n 0, 1) := by decide +kernel
theorem dX7_runAll_43 : decode cX7_runAll 43 = .ok (.getfield 25, 3) := by decide +kernel
theorem dX7_runAll_46 : decode cX7_runAll 46 = .ok (.iload_n 1, 1) := by decide +kernel
theorem dX7_runAll_47 : decode cX7_runAll 47 = .ok (.aaload, 1) := by decide +kernel
theorem dX7_runAll_48 : decode cX7_runAll 48 = .ok (.getfield 132, 3) := by decide +kernel
theorem dX7_runAll_51 : decode cX7_runAll 51 = .ok (.invokevirtual 260, 3) := by decide +kernel
theorem dX7_runAll_54 : decode cX7_runAll 54 = .ok (.iinc 1 1, 3) := by decide +kernel
theorem dX7_runAll_57 : decode cX7_runAll 57 = .ok (.goto (-55), 3) := by decide +kernel
theorem dX7_runAll_60 : decode cX7_runAll 60 = .ok (.return_, 1) := by decide +kernel
theorem dX7_isReadBy_0 : decode cX7_isReadBy 0 = .ok (.aload_n 0, 1) := by decide +kernel
theorem dX7_isReadBy_1 : decode cX7_isReadBy 1 = .ok (.getfield 19, 3) := by decide +kernel
theorem dX7_isReadBy_4 : decode cX7_isReadBy 4 = .ok (.iload_n 2, 1) := by decide +kernel
theorem dX7_isReadBy_5 : decode cX7_isReadBy 5 = .ok (.iload_n 1, 1) := by decide +kernel
theorem dX7_isReadBy_6 : decode cX7_isReadBy 6 = .ok (.invokevirtual 237, 3) := by decide +kernel
theorem dX7_isReadBy_9 : decode cX7_isReadBy 9 = .ok (.ifCond .eq 23, 3) := by decide +kernel
theorem dX7_isReadBy_12 : decode cX7_isReadBy 12 = .ok (.aload_n 0, 1) := by decide +kernel
theorem dX7_isReadBy_13 : decode cX7_isReadBy 13 = .ok (.getfield 25, 3) := by decide +kernel
theorem dX7_isReadBy_16 : decode cX7_isReadBy 16 = .ok (.iload_n 1, 1) := by decide +kernel
theorem dX7_isReadBy_17 : decode cX7_isReadBy 17 = .ok (.aaload, 1) := by decide +kernel
theorem dX7_isReadBy_18 : decode cX7_isReadBy 18 = .ok (.getfield 148, 3) := by decide +kernel
theorem dX7_isReadBy_21 : decode cX7_isReadBy 21 = .ok (.getfield 152, 3) := by decide +kernel
theorem dX7_isReadBy_24 : decode cX7_isReadBy 24 = .ok (.iconst (-1), 1) := by decide +kernel
theorem dX7_isReadBy_25 : decode cX7_isReadBy 25 = .ok (.if_icmp .ne 7, 3) := by decide +kernel
theorem dX7_isReadBy_28 : decode cX7_isReadBy 28 = .ok (.iconst 1, 1) := by decide +kernel
theorem dX7_isReadBy_29 : decode cX7_isReadBy 29 = .ok (.goto 4, 3) := by decide +kernel
theorem dX7_isReadBy_32 : decode cX7_isReadBy 32 = .ok (.iconst 0, 1) := by decide +kernel
theorem dX7_isReadBy_33 : decode cX7_isReadBy 33 = .ok (.ireturn, 1) := by decide +kernel
theorem dX7_countGroups_0 : decode cX7_countGroups 0 = .ok (.iconst 0, 1) := by decide +kernel
theorem dX7_countGroups_1 : decode cX7_countGroups 1 = .ok (.istore_n 2, 1) := by decide +kernel
theorem dX7_countGroups_2 : decode cX7_countGroups 2 = .ok (.iconst 0, 1) := by decide +kernel
theorem dX7_countGroups_3 : decode cX7_countGroups 3 = .ok (.istore_n 3, 1) := by decide +kernel
theorem dX7_countGroups_4 : decode cX7_countGroups 4 = .ok (.iload_n 3, 1) := by decide +kernel
theorem dX7_countGroups_5 : decode cX7_countGroups 5 = .ok (.bipush 16, 2) := by decide +kernel
theorem dX7_countGroups_7 : decode cX7_countGroups 7 = .ok (.if_icmp .ge 30, 3) := by decide +kernel
theorem dX7_countGroups_10 : decode cX7_countGroups 10 = .ok (.aload_n 0, 1) := by decide +kernel
theorem dX7_countGroups_11 : decode cX7_countGroups 11 = .ok (.iload_n 3, 1) := by decide +kernel
theorem dX7_countGroups_12 : decode cX7_countGroups 12 = .ok (.iload_n 1, 1) := by decide +kernel
theorem dX7_countGroups_13 : decode cX7_countGroups 13 = .ok (.invokevirtual 248, 3) := by decide +kernel
theorem dX7_countGroups_16 : decode cX7_countGroups 16 = .ok (.ifCond .eq 15, 3) := by decide +kernel
theorem dX7_countGroups_19 : decode cX7_countGroups 19 = .ok (.aload_n 0, 1) := by decide +kernel
theorem dX7_countGroups_20 : decode cX7_countGroups 20 = .ok (.iload_n 3, 1) := by decide +kernel
theorem dX7_countGroups_21 : decode cX7_countGroups 21 = .ok (.iload_n 1, 1) := by decide +kernel
theorem dX7_countGroups_22 : decode cX7_countGroups 22 = .ok (.invokevirtual 264, 3) := by decide +kernel
theorem dX7_countGroups_25 : decode cX7_countGroups 25 = .ok (.ifCond .eq 6, 3) := by decide +kernel
theorem dX7_countGroups_28 : decode cX7_countGroups 28 = .ok (.iinc 2 1, 3) := by decide +kernel
theorem dX7_countGroups_31 : decode cX7_countGroups 31 = .ok (.iinc 3 1, 3) := by decide +kernel
theorem dX7_countGroups_34 : decode cX7_countGroups 34 = .ok (.goto (-30), 3) := by decide +kernel
theorem dX7_countGroups_37 : decode cX7_countGroups 37 = .ok (.iload_n 2, 1) := by decide +kernel
theorem dX7_countGroups_38 : decode cX7_countGroups 38 = .ok (.ireturn, 1) := by decide +kernel
theorem dX7_isFirstOfItsGroup_0 : decode cX7_isFirstOfItsGroup 0 = .ok (.aload_n 0, 1) := by decide +kernel
theorem dX7_isFirstOfItsGroup_1 : decode cX7_isFirstOfItsGroup 1 = .ok (.getfield 25, 3) := by decide +kernel
theorem dX7_isFirstOfItsGroup_4 : decode cX7_isFirstOfItsGroup 4 = .ok (.iload_n 1, 1) := by decide +kernel
theorem dX7_isFirstOfItsGroup_5 : decode cX7_isFirstOfItsGroup 5 = .ok (.aaload, 1) := by decide +kernel
theorem dX7_isFirstOfItsGroup_6 : decode cX7_isFirstOfItsGroup 6 = .ok (.getfield 148, 3) := by decide +kernel
theorem dX7_isFirstOfItsGroup_9 : decode cX7_isFirstOfItsGroup 9 = .ok (.astore_n 3, 1) := by decide +kernel
theorem dX7_isFirstOfItsGroup_10 : decode cX7_isFirstOfItsGroup 10 = .ok (.iconst 0, 1) := by decide +kernel
theorem dX7_isFirstOfItsGroup_11 : decode cX7_isFirstOfItsGroup 11 = .ok (.istore 4, 2) := by decide +kernel
theorem dX7_isFirstOfItsGroup_13 : decode cX7_isFirstOfItsGroup 13 = .ok (.iload 4, 2) := by decide +kernel
theorem dX7_isFirstOfItsGroup_15 : decode cX7_isFirstOfItsGroup 15 = .ok (.iload_n 1, 1) := by decide +kernel
theorem dX7_isFirstOfItsGroup_16 : decode cX7_isFirstOfItsGroup 16 = .ok (.if_icmp .ge 38, 3) := by decide +kernel
theorem dX7_isFirstOfItsGroup_19 : decode cX7_isFirstOfItsGroup 19 = .ok (.aload_n 0, 1) := by decide +kernel
theorem dX7_isFirstOfItsGroup_20 : decode cX7_isFirstOfItsGroup 20 = .ok (.iload 4, 2) := by decide +kernel
theorem dX7_isFirstOfItsGroup_22 : decode cX7_isFirstOfItsGroup 22 = .ok (.iload_n 2, 1) := by decide +kernel
theorem dX7_isFirstOfItsGroup_23 : decode cX7_isFirstOfItsGroup 23 = .ok (.invokevirtual 248, 3) := by decide +kernel
theorem dX7_isFirstOfItsGroup_26 : decode cX7_isFirstOfItsGroup 26 = .ok (.ifCond .eq 22, 3) := by decide +kernel
theorem dX7_isFirstOfItsGroup_29 : decode cX7_isFirstOfItsGroup 29 = .ok (.aload_n 3, 1) := by decide +kernel
theorem dX7_isFirstOfItsGroup_30 : decode cX7_isFirstOfItsGroup 30 = .ok (.aload_n 0, 1) := by decide +kernel
theorem dX7_isFirstOfItsGroup_31 : decode cX7_isFirstOfItsGroup 31 = .ok (.getfield 25, 3) := by decide +kernel
theorem dX7_isFirstOfItsGroup_34 : decode cX7_isFirstOfItsGroup 34 = .ok (.iload 4, 2) := by decide +kernel
theorem dX7_isFirstOfItsGroup_36 : decode cX7_isFirstOfItsGroup 36 = .ok (.aaload, 1) := by decide +kernel
theorem dX7_isFirstOfItsGroup_37 : decode cX7_isFirstOfItsGroup 37 = .ok (.getfield 148, 3) := by decide +kernel
theorem dX7_isFirstOfItsGroup_40 : decode cX7_isFirstOfItsGroup 40 = .ok (.invokevirtual 267, 3) := by decide +kernel
theorem dX7_isFirstOfItsGroup_43 : decode cX7_isFirstOfItsGroup 43 = .ok (.ifCond .eq 5, 3) := by decide +kernel
theorem dX7_isFirstOfItsGroup_46 : decode cX7_isFirstOfItsGroup 46 = .ok (.iconst 0, 1) := by decide +kernel
theorem dX7_isFirstOfItsGroup_47 : decode cX7_isFirstOfItsGroup 47 = .ok (.ireturn, 1) := by decide +kernel
theorem dX7_isFirstOfItsGroup_48 : decode cX7_isFirstOfItsGroup 48 = .ok (.iinc 4 1, 3) := by decide +kernel
theorem dX7_isFirstOfItsGroup_51 : decode cX7_isFirstOfItsGroup 51 = .ok (.goto (-38), 3) := by decide +kernel
theorem dX7_isFirstOfItsGroup_54 : decode cX7_isFirstOfItsGroup 54 = .ok (.iconst 1, 1) := by decide +kernel
theorem dX7_isFirstOfItsGroup_55 : decode cX7_isFirstOfItsGroup 55 = .ok (.ireturn, 1) := by decide +kernel
theorem dX7_isFirstOfItsText_0 : decode cX7_isFirstOfItsText 0 = .ok (.iconst 0, 1) := by decide +kernel
theorem dX7_isFirstOfItsText_1 : decode cX7_isFirstOfItsText 1 = .ok (.istore_n 2, 1) := by decide +kernel
theorem dX7_isFirstOfItsText_2 : decode cX7_isFirstOfItsText 2 = .ok (.iload_n 2, 1) := by decide +kernel
theorem dX7_isFirstOfItsText_3 : decode cX7_isFirstOfItsText 3 = .ok (.iload_n 1, 1) := by decide +kernel
theorem dX7_isFirstOfItsText_4 : decode cX7_isFirstOfItsText 4 = .ok (.if_icmp .ge 29, 3) := by decide +kernel
theorem dX7_isFirstOfItsText_7 : decode cX7_isFirstOfItsText 7 = .ok (.aload_n 0, 1) := by decide +kernel
theorem dX7_isFirstOfItsText_8 : decode cX7_isFirstOfItsText 8 = .ok (.getfield 25, 3) := by decide +kernel
theorem dX7_isFirstOfItsText_11 : decode cX7_isFirstOfItsText 11 = .ok (.iload_n 1, 1) := by decide +kernel
theorem dX7_isFirstOfItsText_12 : decode cX7_isFirstOfItsText 12 = .ok (.aaload, 1) := by decide +kernel
theorem dX7_isFirstOfItsText_13 : decode cX7_isFirstOfItsText 13 = .ok (.aload_n 0, 1) := by decide +kernel
theorem dX7_isFirstOfItsText_14 : decode cX7_isFirstOfItsText 14 = .ok (.getfield 25, 3) := by decide +kernel
theorem dX7_isFirstOfItsText_17 : decode cX7_isFirstOfItsText 17 = .ok (.iload_n 2, 1) := by decide +kernel
theorem dX7_isFirstOfItsText_18 : decode cX7_isFirstOfItsText 18 = .ok (.aaload, 1) := by decide +kernel
theorem dX7_isFirstOfItsText_19 : decode cX7_isFirstOfItsText 19 = .ok (.invokevirtual 271, 3) := by decide +kernel
theorem dX7_isFirstOfItsText_22 : decode cX7_isFirstOfItsText 22 = .ok (.ifCond .eq 5, 3) := by decide +kernel
theorem dX7_isFirstOfItsText_25 : decode cX7_isFirstOfItsText 25 = .ok (.iconst 0, 1) := by decide +kernel
theorem dX7_isFirstOfItsText_26 : decode cX7_isFirstOfItsText 26 = .ok (.ireturn, 1) := by decide +kernel
theorem dX7_isFirstOfItsText_27 : decode cX7_isFirstOfItsText 27 = .ok (.iinc 2 1, 3) := by decide +kernel
theorem dX7_isFirstOfItsText_30 : decode cX7_isFirstOfItsText 30 = .ok (.goto (-28), 3) := by decide +kernel
theorem dX7_isFirstOfItsText_33 : decode cX7_isFirstOfItsText 33 = .ok (.iconst 1, 1) := by decide +kernel
theorem dX7_isFirstOfItsText_34 : decode cX7_isFirstOfItsText 34 = .ok (.ireturn, 1) := by decide +kernel
theorem dX7_isFirstOfItsBehaviour_0 : decode cX7_isFirstOfItsBehaviour 0 = .ok (.aload_n 0, 1) := by decide +kernel
theorem dX7_isFirstOfItsBehaviour_1 : decode cX7_isFirstOfItsBehaviour 1 = .ok (.getfield 25, 3) := by decide +kernel
theorem dX7_isFirstOfItsBehaviour_4 : decode cX7_isFirstOfItsBehaviour 4 = .ok (.iload_n 1, 1) := by decide +kernel
theorem dX7_isFirstOfItsBehaviour_5 : decode cX7_isFirstOfItsBehaviour 5 = .ok (.aaload, 1) := by decide +kernel
theorem dX7_isFirstOfItsBehaviour_6 : decode cX7_isFirstOfItsBehaviour 6 = .ok (.getfield 169, 3) := by decide +kernel
theorem dX7_isFirstOfItsBehaviour_9 : decode cX7_isFirstOfItsBehaviour 9 = .ok (.astore_n 2, 1) := by decide +kernel
theorem dX7_isFirstOfItsBehaviour_10 : decode cX7_isFirstOfItsBehaviour 10 = .ok (.iconst 0, 1) := by decide +kernel
theorem dX7_isFirstOfItsBehaviour_11 : decode cX7_isFirstOfItsBehaviour 11 = .ok (.istore_n 3, 1) := by decide +kernel
theorem dX7_isFirstOfItsBehaviour_12 : decode cX7_isFirstOfItsBehaviour 12 = .ok (.iload_n 3, 1) := by decide +kernel
theorem dX7_isFirstOfItsBehaviour_13 : decode cX7_isFirstOfItsBehaviour 13 = .ok (.iload_n 1, 1) := by decide +kernel
theorem dX7_isFirstOfItsBehaviour_14 : decode cX7_isFirstOfItsBehaviour 14 = .ok (.if_icmp .ge 43, 3) := by decide +kernel
theorem dX7_isFirstOfItsBehaviour_17 : decode cX7_isFirstOfItsBehaviour 17 = .ok (.aload_n 0, 1) := by decide +kernel
theorem dX7_isFirstOfItsBehaviour_18 : decode cX7_isFirstOfItsBehaviour 18 = .ok (.getfield 25, 3) := by decide +kernel
theorem dX7_isFirstOfItsBehaviour_21 : decode cX7_isFirstOfItsBehaviour 21 = .ok (.iload_n 3, 1) := by decide +kernel
theorem dX7_isFirstOfItsBehaviour_22 : decode cX7_isFirstOfItsBehaviour 22 = .ok (.aaload, 1) := by decide +kernel
theorem dX7_isFirstOfItsBehaviour_23 : decode cX7_isFirstOfItsBehaviour 23 = .ok (.getfield 148, 3) := by decide +kernel
theorem dX7_isFirstOfItsBehaviour_26 : decode cX7_isFirstOfItsBehaviour 26 = .ok (.getfield 152, 3) := by decide +kernel
theorem dX7_isFirstOfItsBehaviour_29 : decode cX7_isFirstOfItsBehaviour 29 = .ok (.iconst (-1), 1) := by decide +kernel
theorem dX7_isFirstOfItsBehaviour_30 : decode cX7_isFirstOfItsBehaviour 30 = .ok (.if_icmp .ne 21, 3) := by decide +kernel
theorem dX7_isFirstOfItsBehaviour_33 : decode cX7_isFirstOfItsBehaviour 33 = .ok (.aload_n 2, 1) := by decide +kernel
theorem dX7_isFirstOfItsBehaviour_34 : decode cX7_isFirstOfItsBehaviour 34 = .ok (.aload_n 0, 1) := by decide +kernel
theorem dX7_isFirstOfItsBehaviour_35 : decode cX7_isFirstOfItsBehaviour 35 = .ok (.getfield 25, 3) := by decide +kernel
theorem dX7_isFirstOfItsBehaviour_38 : decode cX7_isFirstOfItsBehaviour 38 = .ok (.iload_n 3, 1) := by decide +kernel
theorem dX7_isFirstOfItsBehaviour_39 : decode cX7_isFirstOfItsBehaviour 39 = .ok (.aaload, 1) := by decide +kernel
theorem dX7_isFirstOfItsBehaviour_40 : decode cX7_isFirstOfItsBehaviour 40 = .ok (.getfield 169, 3) := by decide +kernel
theorem dX7_isFirstOfItsBehaviour_43 : decode cX7_isFirstOfItsBehaviour 43 = .ok (.invokevirtual 275, 3) := by decide +kernel
theorem dX7_isFirstOfItsBehaviour_46 : decode cX7_isFirstOfItsBehaviour 46 = .ok (.ifCond .eq 5, 3) := by decide +kernel
theorem dX7_isFirstOfItsBehaviour_49 : decode cX7_isFirstOfItsBehaviour 49 = .ok (.iconst 0, 1) := by decide +kernel
theorem dX7_isFirstOfItsBehaviour_50 : decode cX7_isFirstOfItsBehaviour 50 = .ok (.ireturn, 1) := by decide +kernel
theorem dX7_isFirstOfItsBehaviour_51 : decode cX7_isFirstOfItsBehaviour 51 = .ok (.iinc 3 1, 3) := by decide +kernel
theorem dX7_isFirstOfItsBehaviour_54 : decode cX7_isFirstOfItsBehaviour 54 = .ok (.goto (-42), 3) := by decide +kernel
theorem dX7_isFirstOfItsBehaviour_57 : decode cX7_isFirstOfItsBehaviour 57 = .ok (.iconst 1, 1) := by decide +kernel
theorem dX7_isFirstOfItsBehaviour_58 : decode cX7_isFirstOfItsBehaviour 58 = .ok (.ireturn, 1) := by decide +kernel
theorem dX7_sumOfGroups_0 : decode cX7_sumOfGroups 0 = .ok (.iconst 0, 1) := by decide +kernel
theorem dX7_sumOfGroups_1 : decode cX7_sumOfGroups 1 = .ok (.istore_n 1, 1) := by decide +kernel
theorem dX7_sumOfGroups_2 : decode cX7_sumOfGroups 2 = .ok (.iconst 0, 1) := by decide +kernel
theorem dX7_sumOfGroups_3 : decode cX7_sumOfGroups 3 = .ok (.istore_n 2, 1) := by decide +kernel
theorem dX7_sumOfGroups_4 : decode cX7_sumOfGroups 4 = .ok (.iload_n 2, 1) := by decide +kernel
theorem dX7_sumOfGroups_5 : decode cX7_sumOfGroups 5 = .ok (.aload_n 0, 1) := by decide +kernel
theorem dX7_sumOfGroups_6 : decode cX7_sumOfGroups 6 = .ok (.getfield 10, 3) := by decide +kernel
theorem dX7_sumOfGroups_9 : decode cX7_sumOfGroups 9 = .ok (.getfield 55, 3) := by decide +kernel
theorem dX7_sumOfGroups_12 : decode cX7_sumOfGroups 12 = .ok (.if_icmp .ge 18, 3) := by decide +kernel
theorem dX7_sumOfGroups_15 : decode cX7_sumOfGroups 15 = .ok (.iload_n 1, 1) := by decide +kernel
theorem dX7_sumOfGroups_16 : decode cX7_sumOfGroups 16 = .ok (.aload_n 0, 1) := by decide +kernel
theorem dX7_sumOfGroups_17 : decode cX7_sumOfGroups 17 = .ok (.getfield 30, 3) := by decide +kernel
theorem dX7_sumOfGroups_20 : decode cX7_sumOfGroups 20 = .ok (.iload_n 2, 1) := by decide +kernel
theorem dX7_sumOfGroups_21 : decode cX7_sumOfGroups 21 = .ok (.iaload, 1) := by decide +kernel
theorem dX7_sumOfGroups_22 : decode cX7_sumOfGroups 22 = .ok (.iadd, 1) := by decide +kernel
theorem dX7_sumOfGroups_23 : decode cX7_sumOfGroups 23 = .ok (.istore_n 1, 1) := by decide +kernel
theorem dX7_sumOfGroups_24 : decode cX7_sumOfGroups 24 = .ok (.iinc 2 1, 3) := by decide +kernel
theorem dX7_sumOfGroups_27 : decode cX7_sumOfGroups 27 = .ok (.goto (-23), 3) := by decide +kernel
theorem dX7_sumOfGroups_30 : decode cX7_sumOfGroups 30 = .ok (.iload_n 1, 1) := by decide +kernel
theorem dX7_sumOfGroups_31 : decode cX7_sumOfGroups 31 = .ok (.ireturn, 1) := by decide +kernel
theorem dJ6_bitCount_0f7a4_0 : decode cJ6_bitCount_0f7a4 0 = .ok (.iload_n 0, 1) := by decide +kernel
theorem dJ6_bitCount_0f7a4_1 : decode cJ6_bitCount_0f7a4 1 = .ok (.iload_n 0, 1) := by decide +kernel
theorem dJ6_bitCount_0f7a4_2 : decode cJ6_bitCount_0f7a4 2 = .ok (.iconst 1, 1) := by decide +kernel
theorem dJ6_bitCount_0f7a4_3 : decode cJ6_bitCount_0f7a4 3 = .ok (.iushr, 1) := by decide +kernel
theorem dJ6_bitCount_0f7a4_4 : decode cJ6_bitCount_0f7a4 4 = .ok (.ldc_w 265, 3) := by decide +kernel
theorem dJ6_bitCount_0f7a4_7 : decode cJ6_bitCount_0f7a4 7 = .ok (.iand, 1) := by decide +kernel
theorem dJ6_bitCount_0f7a4_8 : decode cJ6_bitCount_0f7a4 8 = .ok (.isub, 1) := by decide +kernel
theorem dJ6_bitCount_0f7a4_9 : decode cJ6_bitCount_0f7a4 9 = .ok (.istore_n 0, 1) := by decide +kernel
theorem dJ6_bitCount_0f7a4_10 : decode cJ6_bitCount_0f7a4 10 = .ok (.iload_n 0, 1) := by decide +kernel
theorem dJ6_bitCount_0f7a4_11 : decode cJ6_bitCount_0f7a4 11 = .ok (.ldc_w 266, 3) := by decide +kernel
theorem dJ6_bitCount_0f7a4_14 : decode cJ6_bitCount_0f7a4 14 = .ok (.iand, 1) := by decide +kernel
theorem dJ6_bitCount_0f7a4_15 : decode cJ6_bitCount_0f7a4 15 = .ok (.iload_n 0, 1) := by decide +kernel
theorem dJ6_bitCount_0f7a4_16 : decode cJ6_bitCount_0f7a4 16 = .ok (.iconst 2, 1) := by decide +kernel
theorem dJ6_bitCount_0f7a4_17 : decode cJ6_bitCount_0f7a4 17 = .ok (.iushr, 1) := by decide +kernel
theorem dJ6_bitCount_0f7a4_18 : decode cJ6_bitCount_0f7a4 18 = .ok (.ldc_w 266, 3) := by decide +kernel
theorem dJ6_bitCount_0f7a4_21 : decode cJ6_bitCount_0f7a4 21 = .ok (.iand, 1) := by decide +kernel
theorem dJ6_bitCount_0f7a4_22 : decode cJ6_bitCount_0f7a4 22 = .ok (.iadd, 1) := by decide +kernel
theorem dJ6_bitCount_0f7a4_23 : decode cJ6_bitCount_0f7a4 23 = .ok (.istore_n 0, 1) := by decide +kernel
theorem dJ6_bitCount_0f7a4_24 : decode cJ6_bitCount_0f7a4 24 = .ok (.iload_n 0, 1) := by decide +kernel
theorem dJ6_bitCount_0f7a4_25 : decode cJ6_bitCount_0f7a4 25 = .ok (.iload_n 0, 1) := by decide +kernel
theorem dJ6_bitCount_0f7a4_26 : decode cJ6_bitCount_0f7a4 26 = .ok (.iconst 4, 1) := by decide +kernel
theorem dJ6_bitCount_0f7a4_27 : decode cJ6_bitCount_0f7a4 27 = .ok (.iushr, 1) := by decide +kernel
theorem dJ6_bitCount_0f7a4_28 : decode cJ6_bitCount_0f7a4 28 = .ok (.iadd, 1) := by decide +kernel
theorem dJ6_bitCount_0f7a4_29 : decode cJ6_bitCount_0f7a4 29 = .ok (.ldc_w 267, 3) := by decide +kernel
theorem dJ6_bitCount_0f7a4_32 : decode cJ6_bitCount_0f7a4 32 = .ok (.iand, 1) := by decide +kernel
theorem dJ6_bitCount_0f7a4_33 : decode cJ6_bitCount_0f7a4 33 = .ok (.istore_n 0, 1) := by decide +kernel
theorem dJ6_bitCount_0f7a4_34 : decode cJ6_bitCount_0f7a4 34 = .ok (.iload_n 0, 1) := by decide +kernel
theorem dJ6_bitCount_0f7a4_35 : decode cJ6_bitCount_0f7a4 35 = .ok (.iload_n 0, 1) := by decide +kernel
theorem dJ6_bitCount_0f7a4_36 : decode cJ6_bitCount_0f7a4 36 = .ok (.bipush 8, 2) := by decide +kernel
theorem dJ6_bitCount_0f7a4_38 : decode cJ6_bitCount_0f7a4 38 = .ok (.iushr, 1) := by decide +kernel
theorem dJ6_bitCount_0f7a4_39 : decode cJ6_bitCount_0f7a4 39 = .ok (.iadd, 1) := by decide +kernel
theorem dJ6_bitCount_0f7a4_40 : decode cJ6_bitCount_0f7a4 40 = .ok (.istore_n 0, 1) := by decide +kernel
theorem dJ6_bitCount_0f7a4_41 : decode cJ6_bitCount_0f7a4 41 = .ok (.iload_n 0, 1) := by decide +kernel
theorem dJ6_bitCount_0f7a4_42 : decode cJ6_bitCount_0f7a4 42 = .ok (.iload_n 0, 1) := by decide +kernel
theorem dJ6_bitCount_0f7a4_43 : decode cJ6_bitCount_0f7a4 43 = .ok (.bipush 16, 2) := by decide +kernel
theorem dJ6_bitCount_0f7a4_45 : decode cJ6_bitCount_0f7a4 45 = .ok (.iushr, 1) := by decide +kernel
