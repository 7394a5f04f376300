theorem dX3_operand_56 : decode cX3_operand 56 = .ok (.ireturn, 1) := by decide +kernel
theorem dX3_assign_0 : decode cX3_assign 0 = .ok (.iload_n 1, 1) := by decide +kernel
theorem dX3_assign_1 : decode cX3_assign 1 = .ok (.invokestatic 90, 3) := by decide +kernel
theorem dX3_assign_4 : decode cX3_assign 4 = .ok (.ifCond .eq 13, 3) := by decide +kernel
theorem dX3_assign_7 : decode cX3_assign 7 = .ok (.aload_n 0, 1) := by decide +kernel
theorem dX3_assign_8 : decode cX3_assign 8 = .ok (.getfield 15, 3) := by decide +kernel
theorem dX3_assign_11 : decode cX3_assign 11 = .ok (.iload_n 1, 1) := by decide +kernel
theorem dX3_assign_12 : decode cX3_assign 12 = .ok (.bipush 97, 2) := by decide +kernel
theorem dX3_assign_14 : decode cX3_assign 14 = .ok (.isub, 1) := by decide +kernel
theorem dX3_assign_15 : decode cX3_assign 15 = .ok (.iload_n 2, 1) := by decide +kernel
theorem dX3_assign_16 : decode cX3_assign 16 = .ok (.iastore, 1) := by decide +kernel
theorem dX3_assign_17 : decode cX3_assign 17 = .ok (.return_, 1) := by decide +kernel
theorem dX3_put_0 : decode cX3_put 0 = .ok (.aload_n 0, 1) := by decide +kernel
theorem dX3_put_1 : decode cX3_put 1 = .ok (.getfield 34, 3) := by decide +kernel
theorem dX3_put_4 : decode cX3_put 4 = .ok (.bipush 80, 2) := by decide +kernel
theorem dX3_put_6 : decode cX3_put 6 = .ok (.if_icmp .ge 23, 3) := by decide +kernel
theorem dX3_put_9 : decode cX3_put 9 = .ok (.aload_n 0, 1) := by decide +kernel
theorem dX3_put_10 : decode cX3_put 10 = .ok (.getfield 18, 3) := by decide +kernel
theorem dX3_put_13 : decode cX3_put 13 = .ok (.aload_n 0, 1) := by decide +kernel
theorem dX3_put_14 : decode cX3_put 14 = .ok (.getfield 34, 3) := by decide +kernel
theorem dX3_put_17 : decode cX3_put 17 = .ok (.iload_n 1, 1) := by decide +kernel
theorem dX3_put_18 : decode cX3_put 18 = .ok (.iastore, 1) := by decide +kernel
theorem dX3_put_19 : decode cX3_put 19 = .ok (.aload_n 0, 1) := by decide +kernel
theorem dX3_put_20 : decode cX3_put 20 = .ok (.dup, 1) := by decide +kernel
theorem dX3_put_21 : decode cX3_put 21 = .ok (.getfield 34, 3) := by decide +kernel
theorem dX3_put_24 : decode cX3_put 24 = .ok (.iconst 1, 1) := by decide +kernel
theorem dX3_put_25 : decode cX3_put 25 = .ok (.iadd, 1) := by decide +kernel
theorem dX3_put_26 : decode cX3_put 26 = .ok (.putfield 34, 3) := by decide +kernel
theorem dX3_put_29 : decode cX3_put 29 = .ok (.return_, 1) := by decide +kernel
theorem dX4_init_0 : decode cX4_init 0 = .ok (.aload_n 0, 1) := by decide +kernel
theorem dX4_init_1 : decode cX4_init 1 = .ok (.invokespecial 3, 3) := by decide +kernel
theorem dX4_init_4 : decode cX4_init 4 = .ok (.aload_n 0, 1) := by decide +kernel
theorem dX4_init_5 : decode cX4_init 5 = .ok (.bipush 80, 2) := by decide +kernel
theorem dX4_init_7 : decode cX4_init 7 = .ok (.newarray .int, 2) := by decide +kernel
theorem dX4_init_9 : decode cX4_init 9 = .ok (.putfield 9, 3) := by decide +kernel
theorem dX4_init_12 : decode cX4_init 12 = .ok (.return_, 1) := by decide +kernel
theorem dX4_codeOfWhen_0 : decode cX4_codeOfWhen 0 = .ok (.iconst 2, 1) := by decide +kernel
theorem dX4_codeOfWhen_1 : decode cX4_codeOfWhen 1 = .ok (.iload_n 0, 1) := by decide +kernel
theorem dX4_codeOfWhen_2 : decode cX4_codeOfWhen 2 = .ok (.imul, 1) := by decide +kernel
theorem dX4_codeOfWhen_3 : decode cX4_codeOfWhen 3 = .ok (.iload_n 1, 1) := by decide +kernel
theorem dX4_codeOfWhen_4 : decode cX4_codeOfWhen 4 = .ok (.ifCond .eq 7, 3) := by decide +kernel
theorem dX4_codeOfWhen_7 : decode cX4_codeOfWhen 7 = .ok (.iconst 1, 1) := by decide +kernel
theorem dX4_codeOfWhen_8 : decode cX4_codeOfWhen 8 = .ok (.goto 4, 3) := by decide +kernel
theorem dX4_codeOfWhen_11 : decode cX4_codeOfWhen 11 = .ok (.iconst 0, 1) := by decide +kernel
theorem dX4_codeOfWhen_12 : decode cX4_codeOfWhen 12 = .ok (.iadd, 1) := by decide +kernel
theorem dX4_codeOfWhen_13 : decode cX4_codeOfWhen 13 = .ok (.ireturn, 1) := by decide +kernel
theorem dX4_codeOfSet_0 : decode cX4_codeOfSet 0 = .ok (.bipush 8, 2) := by decide +kernel
theorem dX4_codeOfSet_2 : decode cX4_codeOfSet 2 = .ok (.iload_n 0, 1) := by decide +kernel
theorem dX4_codeOfSet_3 : decode cX4_codeOfSet 3 = .ok (.iload_n 1, 1) := by decide +kernel
theorem dX4_codeOfSet_4 : decode cX4_codeOfSet 4 = .ok (.invokestatic 15, 3) := by decide +kernel
theorem dX4_codeOfSet_7 : decode cX4_codeOfSet 7 = .ok (.iadd, 1) := by decide +kernel
theorem dX4_codeOfSet_8 : decode cX4_codeOfSet 8 = .ok (.ireturn, 1) := by decide +kernel
theorem dX4_isWhen_0 : decode cX4_isWhen 0 = .ok (.iload_n 0, 1) := by decide +kernel
theorem dX4_isWhen_1 : decode cX4_isWhen 1 = .ok (.ifCond .lt 13, 3) := by decide +kernel
theorem dX4_isWhen_4 : decode cX4_isWhen 4 = .ok (.iload_n 0, 1) := by decide +kernel
theorem dX4_isWhen_5 : decode cX4_isWhen 5 = .ok (.bipush 8, 2) := by decide +kernel
theorem dX4_isWhen_7 : decode cX4_isWhen 7 = .ok (.if_icmp .ge 7, 3) := by decide +kernel
theorem dX4_isWhen_10 : decode cX4_isWhen 10 = .ok (.iconst 1, 1) := by decide +kernel
theorem dX4_isWhen_11 : decode cX4_isWhen 11 = .ok (.goto 4, 3) := by decide +kernel
theorem dX4_isWhen_14 : decode cX4_isWhen 14 = .ok (.iconst 0, 1) := by decide +kernel
theorem dX4_isWhen_15 : decode cX4_isWhen 15 = .ok (.ireturn, 1) := by decide +kernel
theorem dX4_isSet_0 : decode cX4_isSet 0 = .ok (.iload_n 0, 1) := by decide +kernel
theorem dX4_isSet_1 : decode cX4_isSet 1 = .ok (.bipush 8, 2) := by decide +kernel
theorem dX4_isSet_3 : decode cX4_isSet 3 = .ok (.if_icmp .lt 13, 3) := by decide +kernel
theorem dX4_isSet_6 : decode cX4_isSet 6 = .ok (.iload_n 0, 1) := by decide +kernel
theorem dX4_isSet_7 : decode cX4_isSet 7 = .ok (.bipush 16, 2) := by decide +kernel
theorem dX4_isSet_9 : decode cX4_isSet 9 = .ok (.if_icmp .ge 7, 3) := by decide +kernel
theorem dX4_isSet_12 : decode cX4_isSet 12 = .ok (.iconst 1, 1) := by decide +kernel
theorem dX4_isSet_13 : decode cX4_isSet 13 = .ok (.goto 4, 3) := by decide +kernel
theorem dX4_isSet_16 : decode cX4_isSet 16 = .ok (.iconst 0, 1) := by decide +kernel
theorem dX4_isSet_17 : decode cX4_isSet 17 = .ok (.ireturn, 1) := by decide +kernel
theorem dX4_featureOf_0 : decode cX4_featureOf 0 = .ok (.iload_n 0, 1) := by decide +kernel
theorem dX4_featureOf_1 : decode cX4_featureOf 1 = .ok (.bipush 8, 2) := by decide +kernel
theorem dX4_featureOf_3 : decode cX4_featureOf 3 = .ok (.irem, 1) := by decide +kernel
theorem dX4_featureOf_4 : decode cX4_featureOf 4 = .ok (.iconst 2, 1) := by decide +kernel
theorem dX4_featureOf_5 : decode cX4_featureOf 5 = .ok (.idiv, 1) := by decide +kernel
theorem dX4_featureOf_6 : decode cX4_featureOf 6 = .ok (.ireturn, 1) := by decide +kernel
theorem dX4_isForOn_0 : decode cX4_isForOn 0 = .ok (.iload_n 0, 1) := by decide +kernel
theorem dX4_isForOn_1 : decode cX4_isForOn 1 = .ok (.iconst 2, 1) := by decide +kernel
theorem dX4_isForOn_2 : decode cX4_isForOn 2 = .ok (.irem, 1) := by decide +kernel
theorem dX4_isForOn_3 : decode cX4_isForOn 3 = .ok (.iconst 1, 1) := by decide +kernel
theorem dX4_isForOn_4 : decode cX4_isForOn 4 = .ok (.if_icmp .ne 7, 3) := by decide +kernel
theorem dX4_isForOn_7 : decode cX4_isForOn 7 = .ok (.iconst 1, 1) := by decide +kernel
theorem dX4_isForOn_8 : decode cX4_isForOn 8 = .ok (.goto 4, 3) := by decide +kernel
theorem dX4_isForOn_11 : decode cX4_isForOn 11 = .ok (.iconst 0, 1) := by decide +kernel
theorem dX4_isForOn_12 : decode cX4_isForOn 12 = .ok (.ireturn, 1) := by decide +kernel
theorem dX4_add_0 : decode cX4_add 0 = .ok (.aload_n 0, 1) := by decide +kernel
theorem dX4_add_1 : decode cX4_add 1 = .ok (.getfield 19, 3) := by decide +kernel
theorem dX4_add_4 : decode cX4_add 4 = .ok (.bipush 80, 2) := by decide +kernel
theorem dX4_add_6 : decode cX4_add 6 = .ok (.if_icmp .ge 23, 3) := by decide +kernel
theorem dX4_add_9 : decode cX4_add 9 = .ok (.aload_n 0, 1) := by decide +kernel
theorem dX4_add_10 : decode cX4_add 10 = .ok (.getfield 9, 3) := by decide +kernel
theorem dX4_add_13 : decode cX4_add 13 = .ok (.aload_n 0, 1) := by decide +kernel
theorem dX4_add_14 : decode cX4_add 14 = .ok (.getfield 19, 3) := by decide +kernel
theorem dX4_add_17 : decode cX4_add 17 = .ok (.iload_n 1, 1) := by decide +kernel
theorem dX4_add_18 : decode cX4_add 18 = .ok (.iastore, 1) := by decide +kernel
theorem dX4_add_19 : decode cX4_add 19 = .ok (.aload_n 0, 1) := by decide +kernel
theorem dX4_add_20 : decode cX4_add 20 = .ok (.dup, 1) := by decide +kernel
theorem dX4_add_21 : decode cX4_add 21 = .ok (.getfield 19, 3) := by decide +kernel
theorem dX4_add_24 : decode cX4_add 24 = .ok (.iconst 1, 1) := by decide +kernel
theorem dX4_add_25 : decode cX4_add 25 = .ok (.iadd, 1) := by decide +kernel
theorem dX4_add_26 : decode cX4_add 26 = .ok (.putfield 19, 3) := by decide +kernel
theorem dX4_add_29 : decode cX4_add 29 = .ok (.return_, 1) := by decide +kernel
theorem dX4_countUnfinished_0 : decode cX4_countUnfinished 0 = .ok (.iconst 0, 1) := by decide +kernel
theorem dX4_countUnfinished_1 : decode cX4_countUnfinished 1 = .ok (.istore_n 1, 1) := by decide +kernel
theorem dX4_countUnfinished_2 : decode cX4_countUnfinished 2 = .ok (.iconst 0, 1) := by decide +kernel
theorem dX4_countUnfinished_3 : decode cX4_countUnfinished 3 = .ok (.istore_n 2, 1) := by decide +kernel
theorem dX4_countUnfinished_4 : decode cX4_countUnfinished 4 = .ok (.iload_n 2, 1) := by decide +kernel
theorem dX4_countUnfinished_5 : decode cX4_countUnfinished 5 = .ok (.aload_n 0, 1) := by decide +kernel
theorem dX4_countUnfinished_6 : decode cX4_countUnfinished 6 = .ok (.getfield 19, 3) := by decide +kernel
theorem dX4_countUnfinished_9 : decode cX4_countUnfinished 9 = .ok (.if_icmp .ge 41, 3) := by decide +kernel
theorem dX4_countUnfinished_12 : decode cX4_countUnfinished 12 = .ok (.aload_n 0, 1) := by decide +kernel
theorem dX4_countUnfinished_13 : decode cX4_countUnfinished 13 = .ok (.getfield 9, 3) := by decide +kernel
theorem dX4_countUnfinished_16 : decode cX4_countUnfinished 16 = .ok (.iload_n 2, 1) := by decide +kernel
theorem dX4_countUnfinished_17 : decode cX4_countUnfinished 17 = .ok (.iaload, 1) := by decide +kernel
theorem dX4_countUnfinished_18 : decode cX4_countUnfinished 18 = .ok (.invokestatic 23, 3) := by decide +kernel
theorem dX4_countUnfinished_21 : decode cX4_countUnfinished 21 = .ok (.ifCond .eq 9, 3) := by decide +kernel
theorem dX4_countUnfinished_24 : decode cX4_countUnfinished 24 = .ok (.iinc 1 1, 3) := by decide +kernel
theorem dX4_countUnfinished_27 : decode cX4_countUnfinished 27 = .ok (.goto 17, 3) := by decide +kernel
theorem dX4_countUnfinished_30 : decode cX4_countUnfinished 30 = .ok (.aload_n 0, 1) := by decide +kernel
theorem dX4_countUnfinished_31 : decode cX4_countUnfinished 31 = .ok (.getfield 9, 3) := by decide +kernel
theorem dX4_countUnfinished_34 : decode cX4_countUnfinished 34 = .ok (.iload_n 2, 1) := by decide +kernel
theorem dX4_countUnfinished_35 : decode cX4_countUnfinished 35 = .ok (.iaload, 1) := by decide +kernel
theorem dX4_countUnfinished_36 : decode cX4_countUnfinished 36 = .ok (.bipush 17, 2) := by decide +kernel
theorem dX4_countUnfinished_38 : decode cX4_countUnfinished 38 = .ok (.if_icmp .ne 6, 3) := by decide +kernel
theorem dX4_countUnfinished_41 : decode cX4_countUnfinished 41 = .ok (.iinc 1 (-1), 3) := by decide +kernel
theorem dX4_countUnfinished_44 : decode cX4_countUnfinished 44 = .ok (.iinc 2 1, 3) := by decide +kernel
theorem dX4_countUnfinished_47 : decode cX4_countUnfinished 47 = .ok (.goto (-43), 3) := by decide +kernel
theorem dX4_countUnfinished_50 : decode cX4_countUnfinished 50 = .ok (.iload_n 1, 1) := by decide +kernel
theorem dX4_countUnfinished_51 : decode cX4_countUnfinished 51 = .ok (.ireturn, 1) := by decide +kernel
theorem dX4_lastUnfinishedHasOtherwise_0 : decode cX4_lastUnfinishedHasOtherwise 0 = .ok (.iconst 0, 1) := by decide +kernel
theorem dX4_lastUnfinishedHasOtherwise_1 : decode cX4_lastUnfinishedHasOtherwise 1 = .ok (.istore_n 1, 1) := by decide +kernel
theorem dX4_lastUnfinishedHasOtherwise_2 : decode cX4_lastUnfinishedHasOtherwise 2 = .ok (.aload_n 0, 1) := by decide +kernel
theorem dX4_lastUnfinishedHasOtherwise_3 : decode cX4_lastUnfinishedHasOtherwise 3 = .ok (.getfield 19, 3) := by decide +kernel
theorem dX4_lastUnfinishedHasOtherwise_6 : decode cX4_lastUnfinishedHasOtherwise 6 = .ok (.iconst 1, 1) := by decide +kernel
theorem dX4_lastUnfinishedHasOtherwise_7 : decode cX4_lastUnfinishedHasOtherwise 7 = .ok (.isub, 1) := by decide +kernel
theorem dX4_lastUnfinishedHasOtherwise_8 : decode cX4_lastUnfinishedHasOtherwise 8 = .ok (.istore_n 2, 1) := by decide +kernel
theorem dX4_lastUnfinishedHasOtherwise_9 : decode cX4_lastUnfinishedHasOtherwise 9 = .ok (.iload_n 2, 1) := by decide +kernel
theorem dX4_lastUnfinishedHasOtherwise_10 : decode cX4_lastUnfinishedHasOtherwise 10 = .ok (.ifCond .lt 67, 3) := by decide +kernel
theorem dX4_lastUnfinishedHasOtherwise_13 : decode cX4_lastUnfinishedHasOtherwise 13 = .ok (.aload_n 0, 1) := by decide +kernel
theorem dX4_lastUnfinishedHasOtherwise_14 : decode cX4_lastUnfinishedHasOtherwise 14 = .ok (.getfield 9, 3) := by decide +kernel
theorem dX4_lastUnfinishedHasOtherwise_17 : decode cX4_lastUnfinishedHasOtherwise 17 = .ok (.iload_n 2, 1) := by decide +kernel
theorem dX4_lastUnfinishedHasOtherwise_18 : decode cX4_lastUnfinishedHasOtherwise 18 = .ok (.iaload, 1) := by decide +kernel
theorem dX4_lastUnfinishedHasOtherwise_19 : decode cX4_lastUnfinishedHasOtherwise 19 = .ok (.istore_n 3, 1) := by decide +kernel
theorem dX4_lastUnfinishedHasOtherwise_20 : decode cX4_lastUnfinishedHasOtherwise 20 = .ok (.iload_n 3, 1) := by decide +kernel
theorem dX4_lastUnfinishedHasOtherwise_21 : decode cX4_lastUnfinishedHasOtherwise 21 = .ok (.bipush 17, 2) := by decide +kernel
theorem dX4_lastUnfinishedHasOtherwise_23 : decode cX4_lastUnfinishedHasOtherwise 23 = .ok (.if_icmp .ne 9, 3) := by decide +kernel
theorem dX4_lastUnfinishedHasOtherwise_26 : decode cX4_lastUnfinishedHasOtherwise 26 = .ok (.iinc 1 1, 3) := by decide +kernel
theorem dX4_lastUnfinishedHasOtherwise_29 : decode cX4_lastUnfinishedHasOtherwise 29 = .ok (.goto 42, 3) := by decide +kernel
theorem dX4_lastUnfinishedHasOtherwise_32 : decode cX4_lastUnfinishedHasOtherwise 32 = .ok (.iload_n 1, 1) := by decide +kernel
theorem dX4_lastUnfinishedHasOtherwise_33 : decode cX4_lastUnfinishedHasOtherwise 33 = .ok (.ifCond .ne 28, 3) := by decide +kernel
theorem dX4_lastUnfinishedHasOtherwise_36 : decode cX4_lastUnfinishedHasOtherwise 36 = .ok (.iload_n 3, 1) := by decide +kernel
theorem dX4_lastUnfinishedHasOtherwise_37 : decode cX4_lastUnfinishedHasOtherwise 37 = .ok (.bipush 16, 2) := by decide +kernel
theorem dX4_lastUnfinishedHasOtherwise_39 : decode cX4_lastUnfinishedHasOtherwise 39 = .ok (.if_icmp .eq 10, 3) := by decide +kernel
theorem dX4_lastUnfinishedHasOtherwise_42 : decode cX4_lastUnfinishedHasOtherwise 42 = .ok (.iload_n 3, 1) := by decide +kernel
theorem dX4_lastUnfinishedHasOtherwise_43 : decode cX4_lastUnfinishedHasOtherwise 43 = .ok (.invokestatic 23, 3) := by decide +kernel
theorem dX4_lastUnfinishedHasOtherwise_46 : decode cX4_lastUnfinishedHasOtherwise 46 = .ok (.ifCond .eq 15, 3) := by decide +kernel
theorem dX4_lastUnfinishedHasOtherwise_49 : decode cX4_lastUnfinishedHasOtherwise 49 = .ok (.iload_n 3, 1) := by decide +kernel
theorem dX4_lastUnfinishedHasOtherwise_50 : decode cX4_lastUnfinishedHasOtherwise 50 = .ok (.bipush 16, 2) := by decide +kernel
theorem dX4_lastUnfinishedHasOtherwise_52 : decode cX4_lastUnfinishedHasOtherwise 52 = .ok (.if_icmp .ne 7, 3) := by decide +kernel
theorem dX4_lastUnfinishedHasOtherwise_55 : decode cX4_lastUnfinishedHasOtherwise 55 = .ok (.iconst 1, 1) := by decide +kernel
theorem dX4_lastUnfinishedHasOtherwise_56 : decode cX4_lastUnfinishedHasOtherwise 56 = .ok (.goto 4, 3) := by decide +kernel
theorem dX4_lastUnfinishedHasOtherwise_59 : decode cX4_lastUnfinishedHasOtherwise 59 = .ok (.iconst 0, 1) := by decide +kernel
theorem dX4_lastUnfinishedHasOtherwise_60 : decode cX4_lastUnfinishedHasOtherwise 60 = .ok (.ireturn, 1) := by decide +kernel
theorem dX4_lastUnfinishedHasOtherwise_61 : decode cX4_lastUnfinishedHasOtherwise 61 = .ok (.iload_n 3, 1) := by decide +kernel
theorem dX4_lastUnfinishedHasOtherwise_62 : decode cX4_lastUnfinishedHasOtherwise 62 = .ok (.invokestatic 23, 3) := by decide +kernel
theorem dX4_lastUnfinishedHasOtherwise_65 : decode cX4_lastUnfinishedHasOtherwise 65 = .ok (.ifCond .eq 6, 3) := by decide +kernel
theorem dX4_lastUnfinishedHasOtherwise_68 : decode cX4_lastUnfinishedHasOtherwise 68 = .ok (.iinc 1 (-1), 3) := by decide +kernel
theorem dX4_lastUnfinishedHasOtherwise_71 : decode cX4_lastUnfinishedHasOtherwise 71 = .ok (.iinc 2 (-1), 3) := by decide +kernel
theorem dX4_lastUnfinishedHasOtherwise_74 : decode cX4_lastUnfinishedHasOtherwise 74 = .ok (.goto (-65), 3) := by decide +kernel
theorem dX4_lastUnfinishedHasOtherwise_77 : decode cX4_lastUnfinishedHasOtherwise 77 = .ok (.iconst 0, 1) := by decide +kernel
theorem dX4_lastUnfinishedHasOtherwise_78 : decode cX4_lastUnfinishedHasOtherwise 78 = .ok (.ireturn, 1) := by decide +kernel
theorem dX5_init_0 : decode cX5_init 0 = .ok (.aload_n 0, 1) := by decide +kernel
theorem dX5_init_1 : decode cX5_init 1 = .ok (.invokespecial 3, 3) := by decide +kernel
theorem dX5_init_4 : decode cX5_init 4 = .ok (.aload_n 0, 1) := by decide +kernel
theorem dX5_init_5 : decode cX5_init 5 = .ok (.bipush 80, 2) := by decide +kernel
theorem dX5_init_7 : decode cX5_init 7 = .ok (.newarray .int, 2) := by decide +kernel
theorem dX5_init_9 : decode cX5_init 9 = .ok (.putfield 9, 3) := by decide +kernel
theorem dX5_init_12 : decode cX5_init 12 = .ok (.aload_n 0, 1) := by decide +kernel
theorem dX5_init_13 : decode cX5_init 13 = .ok (.bipush 80, 2) := by decide +kernel
theorem dX5_init_15 : decode cX5_init 15 = .ok (.newarray .int, 2) := by decide +kernel
theorem dX5_init_17 : decode cX5_init 17 = .ok (.putfield 15, 3) := by decide +kernel
theorem dX5_init_20 : decode cX5_init 20 = .ok (.aload_n 0, 1) := by decide +kernel
theorem dX5_init_21 : decode cX5_init 21 = .ok (.new 18, 3) := by decide +kernel
theorem dX5_init_24 : decode cX5_init 24 = .ok (.dup, 1) := by decide +kernel
theorem dX5_init_25 : decode cX5_init 25 = .ok (.invokespecial 20, 3) := by decide +kernel
theorem dX5_init_28 : decode cX5_init 28 = .ok (.putfield 21, 3) := by decide +kernel
theorem dX5_init_31 : decode cX5_init 31 = .ok (.aload_n 0, 1) := by decide +kernel
theorem dX5_init_32 : decode cX5_init 32 = .ok (.new 25, 3) := by decide +kernel
theorem dX5_init_35 : decode cX5_init 35 = .ok (.dup, 1) := by decide +kernel
theorem dX5_init_36 : decode cX5_init 36 = .ok (.invokespecial 27, 3) := by decide +kernel
theorem dX5_init_39 : decode cX5_init 39 = .ok (.putfield 28, 3) := by decide +kernel
theorem dX5_init_42 : decode cX5_init 42 = .ok (.return_, 1) := by decide +kernel
theorem dX5_add_0 : decode cX5_add 0 = .ok (.aload_n 0, 1) := by decide +kernel
theorem dX5_add_1 : decode cX5_add 1 = .ok (.getfield 32, 3) := by decide +kernel
theorem dX5_add_4 : decode cX5_add 4 = .ok (.bipush 80, 2) := by decide +kernel
theorem dX5_add_6 : decode cX5_add 6 = .ok (.if_icmp .ge 33, 3) := by decide +kernel
theorem dX5_add_9 : decode cX5_add 9 = .ok (.aload_n 0, 1) := by decide +kernel
theorem dX5_add_10 : decode cX5_add 10 = .ok (.getfield 9, 3) := by decide +kernel
theorem dX5_add_13 : decode cX5_add 13 = .ok (.aload_n 0, 1) := by decide +kernel
theorem dX5_add_14 : decode cX5_add 14 = .ok (.getfield 32, 3) := by decide +kernel
theorem dX5_add_17 : decode cX5_add 17 = .ok (.iload_n 1, 1) := by decide +kernel
theorem dX5_add_18 : decode cX5_add 18 = .ok (.iastore, 1) := by decide +kernel
theorem dX5_add_19 : decode cX5_add 19 = .ok (.aload_n 0, 1) := by decide +kernel
theorem dX5_add_20 : decode cX5_add 20 = .ok (.getfield 15, 3) := by decide +kernel
theorem dX5_add_23 : decode cX5_add 23 = .ok (.aload_n 0, 1) := by decide +kernel
theorem dX5_add_24 : decode cX5_add 24 = .ok (.getfield 32, 3) := by decide +kernel
theorem dX5_add_27 : decode cX5_add 27 = .ok (.iload_n 2, 1) := by decide +kernel
theorem dX5_add_28 : decode cX5_add 28 = .ok (.iastore, 1) := by decide +kernel
theorem dX5_add_29 : decode cX5_add 29 = .ok (.aload_n 0, 1) := by decide +kernel
theorem dX5_add_30 : decode cX5_add 30 = .ok (.dup, 1) := by decide +kernel
theorem dX5_add_31 : decode cX5_add 31 = .ok (.getfield 32, 3) := by decide +kernel
theorem dX5_add_34 : decode cX5_add 34 = .ok (.iconst 1, 1) := by decide +kernel
theorem dX5_add_35 : decode cX5_add 35 = .ok (.iadd, 1) := by decide +kernel
theorem dX5_add_36 : decode cX5_add 36 = .ok (.putfield 32, 3) := by decide +kernel
theorem dX5_add_39 : decode cX5_add 39 = .ok (.return_, 1) := by decide +kernel
theorem dX5_hasSameTokens_0 : decode cX5_hasSameTokens 0 = .ok (.aload_n 0, 1) := by decide +kernel
theorem dX5_hasSameTokens_1 : decode cX5_hasSameTokens 1 = .ok (.getfield 32, 3) := by decide +kernel
theorem dX5_hasSameTokens_4 : decode cX5_hasSameTokens 4 = .ok (.aload_n 1, 1) := by decide +kernel
theorem dX5_hasSameTokens_5 : decode cX5_hasSameTokens 5 = .ok (.getfield 32, 3) := by decide +kernel
theorem dX5_hasSameTokens_8 : decode cX5_hasSameTokens 8 = .ok (.if_icmp .ne 25, 3) := by decide +kernel
theorem dX5_hasSameTokens_11 : decode cX5_hasSameTokens 11 = .ok (.aload_n 0, 1) := by decide +kernel
theorem dX5_hasSameTokens_12 : decode cX5_hasSameTokens 12 = .ok (.getfield 9, 3) := by decide +kernel
theorem dX5_hasSameTokens_15 : decode cX5_hasSameTokens 15 = .ok (.aload_n 1, 1) := by decide +kernel
theorem dX5_hasSameTokens_16 : decode cX5_hasSameTokens 16 = .ok (.getfield 9, 3) := by decide +kernel
theorem dX5_hasSameTokens_19 : decode cX5_hasSameTokens 19 = .ok (.aload_n 0, 1) := by decide +kernel
theorem dX5_hasSameTokens_20 : decode cX5_hasSameTokens 20 = .ok (.getfield 32, 3) := by decide +kernel
theorem dX5_hasSameTokens_23 : decode cX5_hasSameTokens 23 = .ok (.invokestatic 36, 3) := by decide +kernel
theorem dX5_hasSameTokens_26 : decode cX5_hasSameTokens 26 = .ok (.ifCond .eq 7, 3) := by decide +kernel
theorem dX5_hasSameTokens_29 : decode cX5_hasSameTokens 29 = .ok (.iconst 1, 1) := by decide +kernel
theorem dX5_hasSameTokens_30 : decode cX5_hasSameTokens 30 = .ok (.goto 4, 3) := by decide +kernel
theorem dX5_hasSameTokens_33 : decode cX5_hasSameTokens 33 = .ok (.iconst 0, 1) := by decide +kernel
theorem dX5_hasSameTokens_34 : decode cX5_hasSameTokens 34 = .ok (.ireturn, 1) := by decide +kernel
theorem dX6_init_0 : decode cX6_init 0 = .ok (.aload_n 0, 1) := by decide +kernel
theorem dX6_init_1 : decode cX6_init 1 = .ok (.invokespecial 3, 3) := by decide +kernel
theorem dX6_init_4 : decode cX6_init 4 = .ok (.aload_n 0, 1) := by decide +kernel
theorem dX6_init_5 : decode cX6_init 5 = .ok (.bipush 80, 2) := by decide +kernel
theorem dX6_init_7 : decode cX6_init 7 = .ok (.newarray .int, 2) := by decide +kernel
theorem dX6_init_9 : decode cX6_init 9 = .ok (.putfield 9, 3) := by decide +kernel
theorem dX6_init_12 : decode cX6_init 12 = .ok (.aload_n 0, 1) := by decide +kernel
theorem dX6_init_13 : decode cX6_init 13 = .ok (.iconst 4, 1) := by decide +kernel
theorem dX6_init_14 : decode cX6_init 14 = .ok (.bipush 80, 2) := by decide +kernel
theorem dX6_init_16 : decode cX6_init 16 = .ok (.multianewarray 15 2, 4) := by decide +kernel
theorem dX6_init_20 : decode cX6_init 20 = .ok (.putfield 17, 3) := by decide +kernel
theorem dX6_init_23 : decode cX6_init 23 = .ok (.aload_n 0, 1) := by decide +kernel
theorem dX6_init_24 : decode cX6_init 24 = .ok (.iconst 4, 1) := by decide +kernel
theorem dX6_init_25 : decode cX6_init 25 = .ok (.newarray .int, 2) := by decide +kernel
theorem dX6_init_27 : decode cX6_init 27 = .ok (.putfield 20, 3) := by decide +kernel
theorem dX6_init_30 : decode cX6_init 30 = .ok (.aload_n 0, 1) := by decide +kernel
theorem dX6_init_31 : decode cX6_init 31 = .ok (.iconst 5, 1) := by decide +kernel
theorem dX6_init_32 : decode cX6_init 32 = .ok (.newarray .int, 2) := by decide +kernel
theorem dX6_init_34 : decode cX6_init 34 = .ok (.putfield 23, 3) := by decide +kernel
theorem dX6_init_37 : decode cX6_init 37 = .ok (.aload_n 0, 1) := by decide +kernel
theorem dX6_init_38 : decode cX6_init 38 = .ok (.iconst 5, 1) := by decide +kernel
theorem dX6_init_39 : decode cX6_init 39 = .ok (.newarray .int, 2) := by decide +kernel
theorem dX6_init_41 : decode cX6_init 41 = .ok (.putfield 26, 3) := by decide +kernel
theorem dX6_init_44 : decode cX6_init 44 = .ok (.return_, 1) := by decide +kernel
theorem dX6_isPresent_0 : decode cX6_isPresent 0 = .ok (.aload_n 0, 1) := by decide +kernel
theorem dX6_isPresent_1 : decode cX6_isPresent 1 = .ok (.getfield 9, 3) := by decide +kernel
theorem dX6_isPresent_4 : decode cX6_isPresent 4 = .ok (.iload_n 1, 1) := by decide +kernel
theorem dX6_isPresent_5 : decode cX6_isPresent 5 = .ok (.iaload, 1) := by decide +kernel
theorem dX6_isPresent_6 : decode cX6_isPresent 6 = .ok (.iload_n 2, 1) := by decide +kernel
theorem dX6_isPresent_7 : decode cX6_isPresent 7 = .ok (.ishr, 1) := by decide +kernel
theorem dX6_isPresent_8 : decode cX6_isPresent 8 = .ok (.iconst 1, 1) := by decide +kernel
theorem dX6_isPresent_9 : decode cX6_isPresent 9 = .ok (.iand, 1) := by decide +kernel
theorem dX6_isPresent_10 : decode cX6_isPresent 10 = .ok (.iconst 1, 1) := by decide +kernel
theorem dX6_isPresent_11 : decode cX6_isPresent 11 = .ok (.if_icmp .ne 7, 3) := by decide +kernel
theorem dX6_isPresent_14 : decode cX6_isPresent 14 = .ok (.iconst 1, 1) := by decide +kernel
theorem dX6_isPresent_15 : decode cX6_isPresent 15 = .ok (.goto 4, 3) := by decide +kernel
theorem dX6_isPresent_18 : decode cX6_isPresent 18 = .ok (.iconst 0, 1) := by decide +kernel
theorem dX6_isPresent_19 : decode cX6_isPresent 19 = .ok (.ireturn, 1) := by decide +kernel
theorem dX6_goThrough_0 : decode cX6_goThrough 0 = .ok (.aload_n 0, 1) := by decide +kernel
theorem dX6_goThrough_1 : decode cX6_goThrough 1 = .ok (.ldc 29, 2) := by decide +kernel
theorem dX6_goThrough_3 : decode cX6_goThrough 3 = .ok (.putfield 30, 3) := by decide +kernel
theorem dX6_goThrough_6 : decode cX6_goThrough 6 = .ok (.aload_n 0, 1) := by decide +kernel
theorem dX6_goThrough_7 : decode cX6_goThrough 7 = .ok (.iconst 0, 1) := by decide +kernel
theorem dX6_goThrough_8 : decode cX6_goThrough 8 = .ok (.putfield 34, 3) := by decide +kernel
theorem dX6_goThrough_11 : decode cX6_goThrough 11 = .ok (.iconst 0, 1) := by decide +kernel
theorem dX6_goThrough_12 : decode cX6_goThrough 12 = .ok (.istore_n 2, 1) := by decide +kernel
theorem dX6_goThrough_13 : decode cX6_goThrough 13 = .ok (.iload_n 2, 1) := by decide +kernel
theorem dX6_goThrough_14 : decode cX6_goThrough 14 = .ok (.iconst 4, 1) := by decide +kernel
theorem dX6_goThrough_15 : decode cX6_goThrough 15 = .ok (.if_icmp .ge 20, 3) := by decide +kernel
theorem dX6_goThrough_18 : decode cX6_goThrough 18 = .ok (.aload_n 0, 1) := by decide +kernel
theorem dX6_goThrough_19 : decode cX6_goThrough 19 = .ok (.getfield 20, 3) := by decide +kernel
theorem dX6_goThrough_22 : decode cX6_goThrough 22 = .ok (.iload_n 2, 1) := by decide +kernel
theorem dX6_goThrough_23 : decode cX6_goThrough 23 = .ok (.getstatic 37, 3) := by decide +kernel
theorem dX6_goThrough_26 : decode cX6_goThrough 26 = .ok (.iload_n 2, 1) := by decide +kernel
theorem dX6_goThrough_27 : decode cX6_goThrough 27 = .ok (.iaload, 1) := by decide +kernel
theorem dX6_goThrough_28 : decode cX6_goThrough 28 = .ok (.iastore, 1) := by decide +kernel
theorem dX6_goThrough_29 : decode cX6_goThrough 29 = .ok (.iinc 2 1, 3) := by decide +kernel
theorem dX6_goThrough_32 : decode cX6_goThrough 32 = .ok (.goto (-19), 3) := by decide +kernel
theorem dX6_goThrough_35 : decode cX6_goThrough 35 = .ok (.iconst 0, 1) := by decide +kernel
theorem dX6_goThrough_36 : decode cX6_goThrough 36 = .ok (.istore_n 2, 1) := by decide +kernel
theorem dX6_goThrough_37 : decode cX6_goThrough 37 = .ok (.iload_n 2, 1) := by decide +kernel
theorem dX6_goThrough_38 : decode cX6_goThrough 38 = .ok (.aload_n 1, 1) := by decide +kernel
theorem dX6_goThrough_39 : decode cX6_goThrough 39 = .ok (.getfield 40, 3) := by decide +kernel
theorem dX6_goThrough_42 : decode cX6_goThrough 42 = .ok (.if_icmp .ge 57, 3) := by decide +kernel
theorem dX6_goThrough_45 : decode cX6_goThrough 45 = .ok (.iconst 0, 1) := by decide +kernel
theorem dX6_goThrough_46 : decode cX6_goThrough 46 = .ok (.istore_n 3, 1) := by decide +kernel
theorem dX6_goThrough_47 : decode cX6_goThrough 47 = .ok (.iload_n 3, 1) := by decide +kernel
theorem dX6_goThrough_48 : decode cX6_goThrough 48 = .ok (.iconst 4, 1) := by decide +kernel
theorem dX6_goThrough_49 : decode cX6_goThrough 49 = .ok (.if_icmp .ge 23, 3) := by decide +kernel
theorem dX6_goThrough_52 : decode cX6_goThrough 52 = .ok (.aload_n 0, 1) := by decide +kernel
theorem dX6_goThrough_53 : decode cX6_goThrough 53 = .ok (.getfield 17, 3) := by decide +kernel
theorem dX6_goThrough_56 : decode cX6_goThrough 56 = .ok (.iload_n 3, 1) := by decide +kernel
theorem dX6_goThrough_57 : decode cX6_goThrough 57 = .ok (.aaload, 1) := by decide +kernel
theorem dX6_goThrough_58 : decode cX6_goThrough 58 = .ok (.iload_n 2, 1) := by decide +kernel
theorem dX6_goThrough_59 : decode cX6_goThrough 59 = .ok (.aload_n 0, 1) := by decide +kernel
theorem dX6_goThrough_60 : decode cX6_goThrough 60 = .ok (.getfield 20, 3) := by decide +kernel
theorem dX6_goThrough_63 : decode cX6_goThrough 63 = .ok (.iload_n 3, 1) := by decide +kernel
theorem dX6_goThrough_64 : decode cX6_goThrough 64 = .ok (.iaload, 1) := by decide +kernel
theorem dX6_goThrough_65 : decode cX6_goThrough 65 = .ok (.iastore, 1) := by decide +kernel
theorem dX6_goThrough_66 : decode cX6_goThrough 66 = .ok (.iinc 3 1, 3) := by decide +kernel
theorem dX6_goThrough_69 : decode cX6_goThrough 69 = .ok (.goto (-22), 3) := by decide +kernel
theorem dX6_goThrough_72 : decode cX6_goThrough 72 = .ok (.aload_n 0, 1) := by decide +kernel
theorem dX6_goThrough_73 : decode cX6_goThrough 73 = .ok (.getfield 9, 3) := by decide +kernel
theorem dX6_goThrough_76 : decode cX6_goThrough 76 = .ok (.iload_n 2, 1) := by decide +kernel
theorem dX6_goThrough_77 : decode cX6_goThrough 77 = .ok (.aload_n 0, 1) := by decide +kernel
theorem dX6_goThrough_78 : decode cX6_goThrough 78 = .ok (.getfield 30, 3) := by decide +kernel
theorem dX6_goThrough_81 : decode cX6_goThrough 81 = .ok (.iastore, 1) := by decide +kernel
theorem dX6_goThrough_82 : decode cX6_goThrough 82 = .ok (.aload_n 0, 1) := by decide +kernel
theorem dX6_goThrough_83 : decode cX6_goThrough 83 = .ok (.aload_n 1, 1) := by decide +kernel
theorem dX6_goThrough_84 : decode cX6_goThrough 84 = .ok (.getfield 45, 3) := by decide +kernel
theorem dX6_goThrough_87 : decode cX6_goThrough 87 = .ok (.iload_n 2, 1) := by decide +kernel
theorem dX6_goThrough_88 : decode cX6_goThrough 88 = .ok (.iaload, 1) := by decide +kernel
theorem dX6_goThrough_89 : decode cX6_goThrough 89 = .ok (.iload_n 2, 1) := by decide +kernel
theorem dX6_goThrough_90 : decode cX6_goThrough 90 = .ok (.invokevirtual 48, 3) := by decide +kernel
theorem dX6_goThrough_93 : decode cX6_goThrough 93 = .ok (.iinc 2 1, 3) := by decide +kernel
theorem dX6_goThrough_96 : decode cX6_goThrough 96 = .ok (.goto (-59), 3) := by decide +kernel
theorem dX6_goThrough_99 : decode cX6_goThrough 99 = .ok (.return_, 1) := by decide +kernel
theorem dX6_step_0 : decode cX6_step 0 = .ok (.iload_n 1, 1) := by decide +kernel
theorem dX6_step_1 : decode cX6_step 1 = .ok (.invokestatic 52, 3) := by decide +kernel
theorem dX6_step_4 : decode cX6_step 4 = .ok (.ifCond .eq 11, 3) := by decide +kernel
theorem dX6_step_7 : decode cX6_step 7 = .ok (.aload_n 0, 1) := by decide +kernel
theorem dX6_step_8 : decode cX6_step 8 = .ok (.iload_n 1, 1) := by decide +kernel
theorem dX6_step_9 : decode cX6_step 9 = .ok (.invokevirtual 56, 3) := by decide +kernel
theorem dX6_step_12 : decode cX6_step 12 = .ok (.goto 122, 3) := by decide +kernel
theorem dX6_step_15 : decode cX6_step 15 = .ok (.iload_n 1, 1) := by decide +kernel
theorem dX6_step_16 : decode cX6_step 16 = .ok (.invokestatic 60, 3) := by decide +kernel
theorem dX6_step_19 : decode cX6_step 19 = .ok (.ifCond .eq 11, 3) := by decide +kernel
theorem dX6_step_22 : decode cX6_step 22 = .ok (.aload_n 0, 1) := by decide +kernel
theorem dX6_step_23 : decode cX6_step 23 = .ok (.iload_n 1, 1) := by decide +kernel
theorem dX6_step_24 : decode cX6_step 24 = .ok (.invokevirtual 63, 3) := by decide +kernel
theorem dX6_step_27 : decode cX6_step 27 = .ok (.goto 107, 3) := by decide +kernel
theorem dX6_step_30 : decode cX6_step 30 = .ok (.aload_n 0, 1) := by decide +kernel
theorem dX6_step_31 : decode cX6_step 31 = .ok (.getfield 34, 3) := by decide +kernel
theorem dX6_step_34 : decode cX6_step 34 = .ok (.ifCond .le 100, 3) := by decide +kernel
theorem dX6_step_37 : decode cX6_step 37 = .ok (.aload_n 0, 1) := by decide +kernel
theorem dX6_step_38 : decode cX6_step 38 = .ok (.getfield 34, 3) := by decide +kernel
theorem dX6_step_41 : decode cX6_step 41 = .ok (.iconst 5, 1) := by decide +kernel
theorem dX6_step_42 : decode cX6_step 42 = .ok (.if_icmp .gt 92, 3) := by decide +kernel
theorem dX6_step_45 : decode cX6_step 45 = .ok (.iload_n 1, 1) := by decide +kernel
theorem dX6_step_46 : decode cX6_step 46 = .ok (.bipush 16, 2) := by decide +kernel
theorem dX6_step_48 : decode cX6_step 48 = .ok (.if_icmp .ne 38, 3) := by decide +kernel
theorem dX6_step_51 : decode cX6_step 51 = .ok (.aload_n 0, 1) := by decide +kernel
theorem dX6_step_52 : decode cX6_step 52 = .ok (.getfield 9, 3) := by decide +kernel
theorem dX6_step_55 : decode cX6_step 55 = .ok (.iload_n 2, 1) := by decide +kernel
theorem dX6_step_56 : decode cX6_step 56 = .ok (.aload_n 0, 1) := by decide +kernel
theorem dX6_step_57 : decode cX6_step 57 = .ok (.getfield 23, 3) := by decide +kernel
theorem dX6_step_60 : decode cX6_step 60 = .ok (.aload_n 0, 1) := by decide +kernel
theorem dX6_step_61 : decode cX6_step 61 = .ok (.getfield 34, 3) := by decide +kernel
theorem dX6_step_64 : decode cX6_step 64 = .ok (.iconst 1, 1) := by decide +kernel
theorem dX6_step_65 : decode cX6_step 65 = .ok (.isub, 1) := by decide +kernel
theorem dX6_step_66 : decode cX6_step 66 = .ok (.iaload, 1) := by decide +kernel
theorem dX6_step_67 : decode cX6_step 67 = .ok (.iastore, 1) := by decide +kernel
theorem dX6_step_68 : decode cX6_step 68 = .ok (.aload_n 0, 1) := by decide +kernel
theorem dX6_step_69 : decode cX6_step 69 = .ok (.aload_n 0, 1) := by decide +kernel
theorem dX6_step_70 : decode cX6_step 70 = .ok (.getfield 26, 3) := by decide +kernel
theorem dX6_step_73 : decode cX6_step 73 = .ok (.aload_n 0, 1) := by decide +kernel
theorem dX6_step_74 : decode cX6_step 74 = .ok (.getfield 34, 3) := by decide +kernel
theorem dX6_step_77 : decode cX6_step 77 = .ok (.iconst 1, 1) := by decide +kernel
theorem dX6_step_78 : decode cX6_step 78 = .ok (.isub, 1) := by decide +kernel
theorem dX6_step_79 : decode cX6_step 79 = .ok (.iaload, 1) := by decide +kernel
theorem dX6_step_80 : decode cX6_step 80 = .ok (.putfield 30, 3) := by decide +kernel
theorem dX6_step_83 : decode cX6_step 83 = .ok (.goto 51, 3) := by decide +kernel
theorem dX6_step_86 : decode cX6_step 86 = .ok (.iload_n 1, 1) := by decide +kernel
theorem dX6_step_87 : decode cX6_step 87 = .ok (.bipush 17, 2) := by decide +kernel
theorem dX6_step_89 : decode cX6_step 89 = .ok (.if_icmp .ne 45, 3) := by decide +kernel
theorem dX6_step_92 : decode cX6_step 92 = .ok (.aload_n 0, 1) := by decide +kernel
theorem dX6_step_93 : decode cX6_step 93 = .ok (.getfield 9, 3) := by decide +kernel
theorem dX6_step_96 : decode cX6_step 96 = .ok (.iload_n 2, 1) := by decide +kernel
theorem dX6_step_97 : decode cX6_step 97 = .ok (.aload_n 0, 1) := by decide +kernel
theorem dX6_step_98 : decode cX6_step 98 = .ok (.getfield 23, 3) := by decide +kernel
theorem dX6_step_101 : decode cX6_step 101 = .ok (.aload_n 0, 1) := by decide +kernel
theorem dX6_step_102 : decode cX6_step 102 = .ok (.getfield 34, 3) := by decide +kernel
theorem dX6_step_105 : decode cX6_step 105 = .ok (.iconst 1, 1) := by decide +kernel
theorem dX6_step_106 : decode cX6_step 106 = .ok (.isub, 1) := by decide +kernel
theorem dX6_step_107 : decode cX6_step 107 = .ok (.iaload, 1) := by decide +kernel
theorem dX6_step_108 : decode cX6_step 108 = .ok (.iastore, 1) := by decide +kernel
theorem dX6_step_109 : decode cX6_step 109 = .ok (.aload_n 0, 1) := by decide +kernel
theorem dX6_step_110 : decode cX6_step 110 = .ok (.aload_n 0, 1) := by decide +kernel
theorem dX6_step_111 : decode cX6_step 111 = .ok (.getfield 23, 3) := by decide +kernel
theorem dX6_step_114 : decode cX6_step 114 = .ok (.aload_n 0, 1) := by decide +kernel
theorem dX6_step_115 : decode cX6_step 115 = .ok (.getfield 34, 3) := by decide +kernel
theorem dX6_step_118 : decode cX6_step 118 = .ok (.iconst 1, 1) := by decide +kernel
theorem dX6_step_119 : decode cX6_step 119 = .ok (.isub, 1) := by decide +kernel
theorem dX6_step_120 : decode cX6_step 120 = .ok (.iaload, 1) := by decide +kernel
theorem dX6_step_121 : decode cX6_step 121 = .ok (.putfield 30, 3) := by decide +kernel
theorem dX6_step_124 : decode cX6_step 124 = .ok (.aload_n 0, 1) := by decide +kernel
theorem dX6_step_125 : decode cX6_step 125 = .ok (.dup, 1) := by decide +kernel
theorem dX6_step_126 : decode cX6_step 126 = .ok (.getfield 34, 3) := by decide +kernel
theorem dX6_step_129 : decode cX6_step 129 = .ok (.iconst 1, 1) := by decide +kernel
theorem dX6_step_130 : decode cX6_step 130 = .ok (.isub, 1) := by decide +kernel
theorem dX6_step_131 : decode cX6_step 131 = .ok (.putfield 34, 3) := by decide +kernel
theorem dX6_step_134 : decode cX6_step 134 = .ok (.return_, 1) := by decide +kernel
theorem dX6_enter_0 : decode cX6_enter 0 = .ok (.aload_n 0, 1) := by decide +kernel
theorem dX6_enter_1 : decode cX6_enter 1 = .ok (.getfield 34, 3) := by decide +kernel
theorem dX6_enter_4 : decode cX6_enter 4 = .ok (.ifCond .lt 11, 3) := by decide +kernel
theorem dX6_enter_7 : decode cX6_enter 7 = .ok (.aload_n 0, 1) := by decide +kernel
theorem dX6_enter_8 : decode cX6_enter 8 = .ok (.getfield 34, 3) := by decide +kernel
theorem dX6_enter_11 : decode cX6_enter 11 = .ok (.iconst 5, 1) := by decide +kernel
theorem dX6_enter_12 : decode cX6_enter 12 = .ok (.if_icmp .lt 4, 3) := by decide +kernel
theorem dX6_enter_15 : decode cX6_enter 15 = .ok (.return_, 1) := by decide +kernel
theorem dX6_enter_16 : decode cX6_enter 16 = .ok (.aload_n 0, 1) := by decide +kernel
theorem dX6_enter_17 : decode cX6_enter 17 = .ok (.getfield 20, 3) := by decide +kernel
theorem dX6_enter_20 : decode cX6_enter 20 = .ok (.iload_n 1, 1) := by decide +kernel
theorem dX6_enter_21 : decode cX6_enter 21 = .ok (.invokestatic 66, 3) := by decide +kernel
theorem dX6_enter_24 : decode cX6_enter 24 = .ok (.iaload, 1) := by decide +kernel
theorem dX6_enter_25 : decode cX6_enter 25 = .ok (.istore_n 2, 1) := by decide +kernel
theorem dX6_enter_26 : decode cX6_enter 26 = .ok (.iload_n 1, 1) := by decide +kernel
theorem dX6_enter_27 : decode cX6_enter 27 = .ok (.invokestatic 70, 3) := by decide +kernel
theorem dX6_enter_30 : decode cX6_enter 30 = .ok (.ifCond .ne 7, 3) := by decide +kernel
theorem dX6_enter_33 : decode cX6_enter 33 = .ok (.iload_n 2, 1) := by decide +kernel
theorem dX6_enter_34 : decode cX6_enter 34 = .ok (.iconst (-1), 1) := by decide +kernel
theorem dX6_enter_35 : decode cX6_enter 35 = .ok (.ixor, 1) := by decide +kernel
theorem dX6_enter_36 : decode cX6_enter 36 = .ok (.istore_n 2, 1) := by decide +kernel
theorem dX6_enter_37 : decode cX6_enter 37 = .ok (.aload_n 0, 1) := by decide +kernel
theorem dX6_enter_38 : decode cX6_enter 38 = .ok (.getfield 23, 3) := by decide +kernel
theorem dX6_enter_41 : decode cX6_enter 41 = .ok (.aload_n 0, 1) := by decide +kernel
theorem dX6_enter_42 : decode cX6_enter 42 = .ok (.getfield 34, 3) := by decide +kernel
theorem dX6_enter_45 : decode cX6_enter 45 = .ok (.aload_n 0, 1) := by decide +kernel
theorem dX6_enter_46 : decode cX6_enter 46 = .ok (.getfield 30, 3) := by decide +kernel
theorem dX6_enter_49 : decode cX6_enter 49 = .ok (.iastore, 1) := by decide +kernel
theorem dX6_enter_50 : decode cX6_enter 50 = .ok (.aload_n 0, 1) := by decide +kernel
theorem dX6_enter_51 : decode cX6_enter 51 = .ok (.getfield 26, 3) := by decide +kernel
theorem dX6_enter_54 : decode cX6_enter 54 = .ok (.aload_n 0, 1) := by decide +kernel
theorem dX6_enter_55 : decode cX6_enter 55 = .ok (.getfield 34, 3) := by decide +kernel
theorem dX6_enter_58 : decode cX6_enter 58 = .ok (.aload_n 0, 1) := by decide +kernel
theorem dX6_enter_59 : decode cX6_enter 59 = .ok (.getfield 30, 3) := by decide +kernel
theorem dX6_enter_62 : decode cX6_enter 62 = .ok (.iload_n 2, 1) := by decide +kernel
theorem dX6_enter_63 : decode cX6_enter 63 = .ok (.iconst (-1), 1) := by decide +kernel
theorem dX6_enter_64 : decode cX6_enter 64 = .ok (.ixor, 1) := by decide +kernel
theorem dX6_enter_65 : decode cX6_enter 65 = .ok (.iand, 1) := by decide +kernel
theorem dX6_enter_66 : decode cX6_enter 66 = .ok (.iastore, 1) := by decide +kernel
theorem dX6_enter_67 : decode cX6_enter 67 = .ok (.aload_n 0, 1) := by decide +kernel
theorem dX6_enter_68 : decode cX6_enter 68 = .ok (.dup, 1) := by decide +kernel
theorem dX6_enter_69 : decode cX6_enter 69 = .ok (.getfield 30, 3) := by decide +kernel
theorem dX6_enter_72 : decode cX6_enter 72 = .ok (.iload_n 2, 1) := by decide +kernel
theorem dX6_enter_73 : decode cX6_enter 73 = .ok (.iand, 1) := by decide +kernel
theorem dX6_enter_74 : decode cX6_enter 74 = .ok (.putfield 30, 3) := by decide +kernel
theorem dX6_enter_77 : decode cX6_enter 77 = .ok (.aload_n 0, 1) := by decide +kernel
theorem dX6_enter_78 : decode cX6_enter 78 = .ok (.dup, 1) := by decide +kernel
theorem dX6_enter_79 : decode cX6_enter 79 = .ok (.getfield 34, 3) := by decide +kernel
theorem dX6_enter_82 : decode cX6_enter 82 = .ok (.iconst 1, 1) := by decide +kernel
theorem dX6_enter_83 : decode cX6_enter 83 = .ok (.iadd, 1) := by decide +kernel
theorem dX6_enter_84 : decode cX6_enter 84 = .ok (.putfield 34, 3) := by decide +kernel
theorem dX6_enter_87 : decode cX6_enter 87 = .ok (.return_, 1) := by decide +kernel
theorem dX6_turn_0 : decode cX6_turn 0 = .ok (.iload_n 1, 1) := by decide +kernel
theorem dX6_turn_1 : decode cX6_turn 1 = .ok (.invokestatic 66, 3) := by decide +kernel
theorem dX6_turn_4 : decode cX6_turn 4 = .ok (.istore_n 2, 1) := by decide +kernel
theorem dX6_turn_5 : decode cX6_turn 5 = .ok (.iload_n 1, 1) := by decide +kernel
theorem dX6_turn_6 : decode cX6_turn 6 = .ok (.invokestatic 70, 3) := by decide +kernel
theorem dX6_turn_9 : decode cX6_turn 9 = .ok (.ifCond .eq 19, 3) := by decide +kernel
theorem dX6_turn_12 : decode cX6_turn 12 = .ok (.aload_n 0, 1) := by decide +kernel
theorem dX6_turn_13 : decode cX6_turn 13 = .ok (.getfield 20, 3) := by decide +kernel
theorem dX6_turn_16 : decode cX6_turn 16 = .ok (.iload_n 2, 1) := by decide +kernel
theorem dX6_turn_17 : decode cX6_turn 17 = .ok (.dup2, 1) := by decide +kernel
theorem dX6_turn_18 : decode cX6_turn 18 = .ok (.iaload, 1) := by decide +kernel
theorem dX6_turn_19 : decode cX6_turn 19 = .ok (.aload_n 0, 1) := by decide +kernel
theorem dX6_turn_20 : decode cX6_turn 20 = .ok (.getfield 30, 3) := by decide +kernel
theorem dX6_turn_23 : decode cX6_turn 23 = .ok (.ior, 1) := by decide +kernel
theorem dX6_turn_24 : decode cX6_turn 24 = .ok (.iastore, 1) := by decide +kernel
theorem dX6_turn_25 : decode cX6_turn 25 = .ok (.goto 18, 3) := by decide +kernel
theorem dX6_turn_28 : decode cX6_turn 28 = .ok (.aload_n 0, 1) := by decide +kernel
theorem dX6_turn_29 : decode cX6_turn 29 = .ok (.getfield 20, 3) := by decide +kernel
theorem dX6_turn_32 : decode cX6_turn 32 = .ok (.iload_n 2, 1) := by decide +kernel
theorem dX6_turn_33 : decode cX6_turn 33 = .ok (.dup2, 1) := by decide +kernel
theorem dX6_turn_34 : decode cX6_turn 34 = .ok (.iaload, 1) := by decide +kernel
theorem dX6_turn_35 : decode cX6_turn 35 = .ok (.aload_n 0, 1) := by decide +kernel
theorem dX6_turn_36 : decode cX6_turn 36 = .ok (.getfield 30, 3) := by decide +kernel
theorem dX6_turn_39 : decode cX6_turn 39 = .ok (.iconst (-1), 1) := by decide +kernel
theorem dX6_turn_40 : decode cX6_turn 40 = .ok (.ixor, 1) := by decide +kernel
theorem dX6_turn_41 : decode cX6_turn 41 = .ok (.iand, 1) := by decide +kernel
theorem dX6_turn_42 : decode cX6_turn 42 = .ok (.iastore, 1) := by decide +kernel
theorem dX6_turn_43 : decode cX6_turn 43 = .ok (.return_, 1) := by decide +kernel
theorem dX7_init_0 : decode cX7_init 0 = .ok (.aload_n 0, 1) := by decide +kernel
theorem dX7_init_1 : decode cX7_init 1 = .ok (.invokespecial 1, 3) := by decide +kernel
theorem dX7_init_4 : decode cX7_init 4 = .ok (.aload_n 0, 1) := by decide +kernel
theorem dX7_init_5 : decode cX7_init 5 = .ok (.new 7, 3) := by decide +kernel
theorem dX7_init_8 : decode cX7_init 8 = .ok (.dup, 1) := by decide +kernel
theorem dX7_init_9 : decode cX7_init 9 = .ok (.invokespecial 9, 3) := by decide +kernel
theorem dX7_init_12 : decode cX7_init 12 = .ok (.putfield 10, 3) := by decide +kernel
theorem dX7_init_15 : decode cX7_init 15 = .ok (.aload_n 0, 1) := by decide +kernel
theorem dX7_init_16 : decode cX7_init 16 = .ok (.new 16, 3) := by decide +kernel
theorem dX7_init_19 : decode cX7_init 19 = .ok (.dup, 1) := by decide +kernel
theorem dX7_init_20 : decode cX7_init 20 = .ok (.invokespecial 18, 3) := by decide +kernel
theorem dX7_init_23 : decode cX7_init 23 = .ok (.putfield 19, 3) := by decide +kernel
theorem dX7_init_26 : decode cX7_init 26 = .ok (.aload_n 0, 1) := by decide +kernel
theorem dX7_init_27 : decode cX7_init 27 = .ok (.bipush 16, 2) := by decide +kernel
theorem dX7_init_29 : decode cX7_init 29 = .ok (.anewarray 23, 3) := by decide +kernel
theorem dX7_init_32 : decode cX7_init 32 = .ok (.putfield 25, 3) := by decide +kernel
theorem dX7_init_35 : decode cX7_init 35 = .ok (.iconst 0, 1) := by decide +kernel
theorem dX7_init_36 : decode cX7_init 36 = .ok (.istore_n 1, 1) := by decide +kernel
theorem dX7_init_37 : decode cX7_init 37 = .ok (.iload_n 1, 1) := by decide +kernel
theorem dX7_init_38 : decode cX7_init 38 = .ok (.bipush 16, 2) := by decide +kernel
theorem dX7_init_40 : decode cX7_init 40 = .ok (.if_icmp .ge 22, 3) := by decide +kernel
theorem dX7_init_43 : decode cX7_init 43 = .ok (.aload_n 0, 1) := by decide +kernel
theorem dX7_init_44 : decode cX7_init 44 = .ok (.getfield 25, 3) := by decide +kernel
theorem dX7_init_47 : decode cX7_init 47 = .ok (.iload_n 1, 1) := by decide +kernel
theorem dX7_init_48 : decode cX7_init 48 = .ok (.new 23, 3) := by decide +kernel
theorem dX7_init_51 : decode cX7_init 51 = .ok (.dup, 1) := by decide +kernel
theorem dX7_init_52 : decode cX7_init 52 = .ok (.invokespecial 29, 3) := by decide +kernel
theorem dX7_init_55 : decode cX7_init 55 = .ok (.aastore, 1) := by decide +kernel
theorem dX7_init_56 : decode cX7_init 56 = .ok (.iinc 1 1, 3) := by decide +kernel
theorem dX7_init_59 : decode cX7_init 59 = .ok (.goto (-22), 3) := by decide +kernel
theorem dX7_init_62 : decode cX7_init 62 = .ok (.aload_n 0, 1) := by decide +kernel
theorem dX7_init_63 : decode cX7_init 63 = .ok (.bipush 80, 2) := by decide +kernel
theorem dX7_init_65 : decode cX7_init 65 = .ok (.newarray .int, 2) := by decide +kernel
theorem dX7_init_67 : decode cX7_init 67 = .ok (.putfield 30, 3) := by decide +kernel
theorem dX7_init_70 : decode cX7_init 70 = .ok (.aload_n 0, 1) := by decide +kernel
theorem dX7_init_71 : decode cX7_init 71 = .ok (.iconst 0, 1) := by decide +kernel
theorem dX7_init_72 : decode cX7_init 72 = .ok (.putfield 34, 3) := by decide +kernel
theorem dX7_init_75 : decode cX7_init 75 = .ok (.return_, 1) := by decide +kernel
theorem dX7_write_0 : decode cX7_write 0 = .ok (.iconst 0, 1) := by decide +kernel
theorem dX7_write_1 : decode cX7_write 1 = .ok (.istore_n 3, 1) := by decide +kernel
theorem dX7_write_2 : decode cX7_write 2 = .ok (.bipush 56, 2) := by decide +kernel
theorem dX7_write_4 : decode cX7_write 4 = .ok (.istore 4, 2) := by decide +kernel
theorem dX7_write_6 : decode cX7_write 6 = .ok (.iload 4, 2) := by decide +kernel
theorem dX7_write_8 : decode cX7_write 8 = .ok (.ifCond .lt 43, 3) := by decide +kernel
theorem dX7_write_11 : decode cX7_write 11 = .ok (.lload_n 1, 1) := by decide +kernel
theorem dX7_write_12 : decode cX7_write 12 = .ok (.iload 4, 2) := by decide +kernel
theorem dX7_write_14 : decode cX7_write 14 = .ok (.invokestatic 38, 3) := by decide +kernel
theorem dX7_write_17 : decode cX7_write 17 = .ok (.istore 5, 2) := by decide +kernel
theorem dX7_write_19 : decode cX7_write 19 = .ok (.iload 5, 2) := by decide +kernel
theorem dX7_write_21 : decode cX7_write 21 = .ok (.ifCond .eq 24, 3) := by decide +kernel
theorem dX7_write_24 : decode cX7_write 24 = .ok (.iload 5, 2) := by decide +kernel
theorem dX7_write_26 : decode cX7_write 26 = .ok (.invokestatic 42, 3) := by decide +kernel
theorem dX7_write_29 : decode cX7_write 29 = .ok (.ifCond .ne 13, 3) := by decide +kernel
theorem dX7_write_32 : decode cX7_write 32 = .ok (.new 48, 3) := by decide +kernel
theorem dX7_write_35 : decode cX7_write 35 = .ok (.dup, 1) := by decide +kernel
theorem dX7_write_36 : decode cX7_write 36 = .ok (.ldc 50, 2) := by decide +kernel
theorem dX7_write_38 : decode cX7_write 38 = .ok (.invokespecial 52, 3) := by decide +kernel
theorem dX7_write_41 : decode cX7_write 41 = .ok (.athrow, 1) := by decide +kernel
theorem dX7_write_42 : decode cX7_write 42 = .ok (.iinc 3 1, 3) := by decide +kernel
theorem dX7_write_45 : decode cX7_write 45 = .ok (.iinc 4 (-8), 3) := by decide +kernel
theorem dX7_write_48 : decode cX7_write 48 = .ok (.goto (-42), 3) := by decide +kernel
theorem dX7_write_51 : decode cX7_write 51 = .ok (.aload_n 0, 1) := by decide +kernel
theorem dX7_write_52 : decode cX7_write 52 = .ok (.getfield 10, 3) := by decide +kernel
theorem dX7_write_55 : decode cX7_write 55 = .ok (.getfield 55, 3) := by decide +kernel
theorem dX7_write_58 : decode cX7_write 58 = .ok (.iload_n 3, 1) := by decide +kernel
theorem dX7_write_59 : decode cX7_write 59 = .ok (.iadd, 1) := by decide +kernel
theorem dX7_write_60 : decode cX7_write 60 = .ok (.bipush 80, 2) := by decide +kernel
theorem dX7_write_62 : decode cX7_write 62 = .ok (.if_icmp .le 13, 3) := by decide +kernel
theorem dX7_write_65 : decode cX7_write 65 = .ok (.new 59, 3) := by decide +kernel
theorem dX7_write_68 : decode cX7_write 68 = .ok (.dup, 1) := by decide +kernel
theorem dX7_write_69 : decode cX7_write 69 = .ok (.ldc 61, 2) := by decide +kernel
theorem dX7_write_71 : decode cX7_write 71 = .ok (.invokespecial 63, 3) := by decide +kernel
theorem dX7_write_74 : decode cX7_write 74 = .ok (.athrow, 1) := by decide +kernel
theorem dX7_write_75 : decode cX7_write 75 = .ok (.bipush 56, 2) := by decide +kernel
theorem dX7_write_77 : decode cX7_write 77 = .ok (.istore 4, 2) := by decide +kernel
theorem dX7_write_79 : decode cX7_write 79 = .ok (.iload 4, 2) := by decide +kernel
theorem dX7_write_81 : decode cX7_write 81 = .ok (.ifCond .lt 29, 3) := by decide +kernel
theorem dX7_write_84 : decode cX7_write 84 = .ok (.lload_n 1, 1) := by decide +kernel
theorem dX7_write_85 : decode cX7_write 85 = .ok (.iload 4, 2) := by decide +kernel
theorem dX7_write_87 : decode cX7_write 87 = .ok (.invokestatic 38, 3) := by decide +kernel
theorem dX7_write_90 : decode cX7_write 90 = .ok (.istore 5, 2) := by decide +kernel
theorem dX7_write_92 : decode cX7_write 92 = .ok (.iload 5, 2) := by decide +kernel
theorem dX7_write_94 : decode cX7_write 94 = .ok (.ifCond .eq 10, 3) := by decide +kernel
theorem dX7_write_97 : decode cX7_write 97 = .ok (.aload_n 0, 1) := by decide +kernel
theorem dX7_write_98 : decode cX7_write 98 = .ok (.iload 5, 2) := by decide +kernel
theorem dX7_write_100 : decode cX7_write 100 = .ok (.invokevirtual 64, 3) := by decide +kernel
theorem dX7_write_103 : decode cX7_write 103 = .ok (.pop, 1) := by decide +kernel
theorem dX7_write_104 : decode cX7_write 104 = .ok (.iinc 4 (-8), 3) := by decide +kernel
theorem dX7_write_107 : decode cX7_write 107 = .ok (.goto (-28), 3) := by decide +kernel
theorem dX7_write_110 : decode cX7_write 110 = .ok (.aload_n 0, 1) := by decide +kernel
theorem dX7_write_111 : decode cX7_write 111 = .ok (.getfield 10, 3) := by decide +kernel
theorem dX7_write_114 : decode cX7_write 114 = .ok (.getfield 55, 3) := by decide +kernel
theorem dX7_write_117 : decode cX7_write 117 = .ok (.ireturn, 1) := by decide +kernel
theorem dX7_when_0 : decode cX7_when 0 = .ok (.aload_n 0, 1) := by decide +kernel
theorem dX7_when_1 : decode cX7_when 1 = .ok (.iload_n 1, 1) := by decide +kernel
theorem dX7_when_2 : decode cX7_when 2 = .ok (.invokevirtual 68, 3) := by decide +kernel
theorem dX7_when_5 : decode cX7_when 5 = .ok (.aload_n 0, 1) := by decide +kernel
theorem dX7_when_6 : decode cX7_when 6 = .ok (.invokevirtual 72, 3) := by decide +kernel
theorem dX7_when_9 : decode cX7_when 9 = .ok (.aload_n 0, 1) := by decide +kernel
theorem dX7_when_10 : decode cX7_when 10 = .ok (.getfield 10, 3) := by decide +kernel
theorem dX7_when_13 : decode cX7_when 13 = .ok (.invokevirtual 75, 3) := by decide +kernel
theorem dX7_when_16 : decode cX7_when 16 = .ok (.iconst 5, 1) := by decide +kernel
theorem dX7_when_17 : decode cX7_when 17 = .ok (.if_icmp .lt 13, 3) := by decide +kernel
theorem dX7_when_20 : decode cX7_when 20 = .ok (.new 59, 3) := by decide +kernel
theorem dX7_when_23 : decode cX7_when 23 = .ok (.dup, 1) := by decide +kernel
theorem dX7_when_24 : decode cX7_when 24 = .ok (.ldc 79, 2) := by decide +kernel
theorem dX7_when_26 : decode cX7_when 26 = .ok (.invokespecial 63, 3) := by decide +kernel
theorem dX7_when_29 : decode cX7_when 29 = .ok (.athrow, 1) := by decide +kernel
theorem dX7_when_30 : decode cX7_when 30 = .ok (.aload_n 0, 1) := by decide +kernel
theorem dX7_when_31 : decode cX7_when 31 = .ok (.iload_n 1, 1) := by decide +kernel
theorem dX7_when_32 : decode cX7_when 32 = .ok (.iload_n 2, 1) := by decide +kernel
theorem dX7_when_33 : decode cX7_when 33 = .ok (.invokestatic 81, 3) := by decide +kernel
theorem dX7_when_36 : decode cX7_when 36 = .ok (.invokevirtual 64, 3) := by decide +kernel
theorem dX7_when_39 : decode cX7_when 39 = .ok (.ireturn, 1) := by decide +kernel
theorem dX7_otherwise_0 : decode cX7_otherwise 0 = .ok (.aload_n 0, 1) := by decide +kernel
theorem dX7_otherwise_1 : decode cX7_otherwise 1 = .ok (.invokevirtual 72, 3) := by decide +kernel
theorem dX7_otherwise_4 : decode cX7_otherwise 4 = .ok (.aload_n 0, 1) := by decide +kernel
theorem dX7_otherwise_5 : decode cX7_otherwise 5 = .ok (.invokevirtual 85, 3) := by decide +kernel
theorem dX7_otherwise_8 : decode cX7_otherwise 8 = .ok (.aload_n 0, 1) := by decide +kernel
theorem dX7_otherwise_9 : decode cX7_otherwise 9 = .ok (.getfield 10, 3) := by decide +kernel
theorem dX7_otherwise_12 : decode cX7_otherwise 12 = .ok (.invokevirtual 88, 3) := by decide +kernel
theorem dX7_otherwise_15 : decode cX7_otherwise 15 = .ok (.ifCond .eq 13, 3) := by decide +kernel
theorem dX7_otherwise_18 : decode cX7_otherwise 18 = .ok (.new 59, 3) := by decide +kernel
theorem dX7_otherwise_21 : decode cX7_otherwise 21 = .ok (.dup, 1) := by decide +kernel
theorem dX7_otherwise_22 : decode cX7_otherwise 22 = .ok (.ldc 92, 2) := by decide +kernel
theorem dX7_otherwise_24 : decode cX7_otherwise 24 = .ok (.invokespecial 63, 3) := by decide +kernel
theorem dX7_otherwise_27 : decode cX7_otherwise 27 = .ok (.athrow, 1) := by decide +kernel
theorem dX7_otherwise_28 : decode cX7_otherwise 28 = .ok (.aload_n 0, 1) := by decide +kernel
theorem dX7_otherwise_29 : decode cX7_otherwise 29 = .ok (.bipush 16, 2) := by decide +kernel
theorem dX7_otherwise_31 : decode cX7_otherwise 31 = .ok (.invokevirtual 64, 3) := by decide +kernel
theorem dX7_otherwise_34 : decode cX7_otherwise 34 = .ok (.ireturn, 1) := by decide +kernel
theorem dX7_done_0 : decode cX7_done 0 = .ok (.aload_n 0, 1) := by decide +kernel
theorem dX7_done_1 : decode cX7_done 1 = .ok (.invokevirtual 72, 3) := by decide +kernel
theorem dX7_done_4 : decode cX7_done 4 = .ok (.aload_n 0, 1) := by decide +kernel
theorem dX7_done_5 : decode cX7_done 5 = .ok (.invokevirtual 85, 3) := by decide +kernel
theorem dX7_done_8 : decode cX7_done 8 = .ok (.aload_n 0, 1) := by decide +kernel
theorem dX7_done_9 : decode cX7_done 9 = .ok (.bipush 17, 2) := by decide +kernel
theorem dX7_done_11 : decode cX7_done 11 = .ok (.invokevirtual 64, 3) := by decide +kernel
theorem dX7_done_14 : decode cX7_done 14 = .ok (.ireturn, 1) := by decide +kernel
theorem dX7_set_0 : decode cX7_set 0 = .ok (.aload_n 0, 1) := by decide +kernel
theorem dX7_set_1 : decode cX7_set 1 = .ok (.iload_n 1, 1) := by decide +kernel
theorem dX7_set_2 : decode cX7_set 2 = .ok (.invokevirtual 68, 3) := by decide +kernel
theorem dX7_set_5 : decode cX7_set 5 = .ok (.aload_n 0, 1) := by decide +kernel
theorem dX7_set_6 : decode cX7_set 6 = .ok (.invokevirtual 72, 3) := by decide +kernel
theorem dX7_set_9 : decode cX7_set 9 = .ok (.aload_n 0, 1) := by decide +kernel
theorem dX7_set_10 : decode cX7_set 10 = .ok (.iload_n 1, 1) := by decide +kernel
theorem dX7_set_11 : decode cX7_set 11 = .ok (.iload_n 2, 1) := by decide +kernel
theorem dX7_set_12 : decode cX7_set 12 = .ok (.invokestatic 94, 3) := by decide +kernel
theorem dX7_set_15 : decode cX7_set 15 = .ok (.invokevirtual 64, 3) := by decide +kernel
theorem dX7_set_18 : decode cX7_set 18 = .ok (.ireturn, 1) := by decide +kernel
theorem dX7_size_0 : decode cX7_size 0 = .ok (.aload_n 0, 1) := by decide +kernel
theorem dX7_size_1 : decode cX7_size 1 = .ok (.getfield 10, 3) := by decide +kernel
theorem dX7_size_4 : decode cX7_size 4 = .ok (.getfield 55, 3) := by decide +kernel
theorem dX7_size_7 : decode cX7_size 7 = .ok (.ireturn, 1) := by decide +kernel
theorem dX7_item_0 : decode cX7_item 0 = .ok (.aload_n 0, 1) := by decide +kernel
theorem dX7_item_1 : decode cX7_item 1 = .ok (.iload_n 1, 1) := by decide +kernel
theorem dX7_item_2 : decode cX7_item 2 = .ok (.invokevirtual 102, 3) := by decide +kernel
theorem dX7_item_5 : decode cX7_item 5 = .ok (.aload_n 0, 1) := by decide +kernel
theorem dX7_item_6 : decode cX7_item 6 = .ok (.getfield 10, 3) := by decide +kernel
theorem dX7_item_9 : decode cX7_item 9 = .ok (.getfield 105, 3) := by decide +kernel
theorem dX7_item_12 : decode cX7_item 12 = .ok (.iload_n 1, 1) := by decide +kernel
theorem dX7_item_13 : decode cX7_item 13 = .ok (.iaload, 1) := by decide +kernel
theorem dX7_item_14 : decode cX7_item 14 = .ok (.ireturn, 1) := by decide +kernel
theorem dX7_unfinished_0 : decode cX7_unfinished 0 = .ok (.aload_n 0, 1) := by decide +kernel
theorem dX7_unfinished_1 : decode cX7_unfinished 1 = .ok (.getfield 10, 3) := by decide +kernel
theorem dX7_unfinished_4 : decode cX7_unfinished 4 = .ok (.invokevirtual 75, 3) := by decide +kernel
theorem dX7_unfinished_7 : decode cX7_unfinished 7 = .ok (.ireturn, 1) := by decide +kernel
theorem dX7_presence_0 : decode cX7_presence 0 = .ok (.aload_n 0, 1) := by decide +kernel
theorem dX7_presence_1 : decode cX7_presence 1 = .ok (.iload_n 1, 1) := by decide +kernel
theorem dX7_presence_2 : decode cX7_presence 2 = .ok (.invokevirtual 102, 3) := by decide +kernel
theorem dX7_presence_5 : decode cX7_presence 5 = .ok (.aload_n 0, 1) := by decide +kernel
theorem dX7_presence_6 : decode cX7_presence 6 = .ok (.invokevirtual 112, 3) := by decide +kernel
theorem dX7_presence_9 : decode cX7_presence 9 = .ok (.aload_n 0, 1) := by decide +kernel
theorem dX7_presence_10 : decode cX7_presence 10 = .ok (.getfield 19, 3) := by decide +kernel
theorem dX7_presence_13 : decode cX7_presence 13 = .ok (.getfield 115, 3) := by decide +kernel
theorem dX7_presence_16 : decode cX7_presence 16 = .ok (.iload_n 1, 1) := by decide +kernel
theorem dX7_presence_17 : decode cX7_presence 17 = .ok (.iaload, 1) := by decide +kernel
theorem dX7_presence_18 : decode cX7_presence 18 = .ok (.ireturn, 1) := by decide +kernel
theorem dX7_length_0 : decode cX7_length 0 = .ok (.aload_n 0, 1) := by decide +kernel
theorem dX7_length_1 : decode cX7_length 1 = .ok (.iload_n 1, 1) := by decide +kernel
theorem dX7_length_2 : decode cX7_length 2 = .ok (.invokevirtual 129, 3) := by decide +kernel
theorem dX7_length_5 : decode cX7_length 5 = .ok (.aload_n 0, 1) := by decide +kernel
theorem dX7_length_6 : decode cX7_length 6 = .ok (.invokevirtual 112, 3) := by decide +kernel
theorem dX7_length_9 : decode cX7_length 9 = .ok (.aload_n 0, 1) := by decide +kernel
theorem dX7_length_10 : decode cX7_length 10 = .ok (.getfield 25, 3) := by decide +kernel
theorem dX7_length_13 : decode cX7_length 13 = .ok (.iload_n 1, 1) := by decide +kernel
theorem dX7_length_14 : decode cX7_length 14 = .ok (.aaload, 1) := by decide +kernel
theorem dX7_length_15 : decode cX7_length 15 = .ok (.getfield 132, 3) := by decide +kernel
theorem dX7_length_18 : decode cX7_length 18 = .ok (.ireturn, 1) := by decide +kernel
theorem dX7_place_0 : decode cX7_place 0 = .ok (.aload_n 0, 1) := by decide +kernel
theorem dX7_place_1 : decode cX7_place 1 = .ok (.iload_n 1, 1) := by decide +kernel
theorem dX7_place_2 : decode cX7_place 2 = .ok (.invokevirtual 129, 3) := by decide +kernel
theorem dX7_place_5 : decode cX7_place 5 = .ok (.aload_n 0, 1) := by decide +kernel
theorem dX7_place_6 : decode cX7_place 6 = .ok (.invokevirtual 112, 3) := by decide +kernel
theorem dX7_place_9 : decode cX7_place 9 = .ok (.aload_n 0, 1) := by decide +kernel
theorem dX7_place_10 : decode cX7_place 10 = .ok (.iload_n 1, 1) := by decide +kernel
theorem dX7_place_11 : decode cX7_place 11 = .ok (.iload_n 2, 1) := by decide +kernel
theorem dX7_place_12 : decode cX7_place 12 = .ok (.invokevirtual 135, 3) := by decide +kernel
theorem dX7_place_15 : decode cX7_place 15 = .ok (.aload_n 0, 1) := by decide +kernel
theorem dX7_place_16 : decode cX7_place 16 = .ok (.getfield 25, 3) := by decide +kernel
theorem dX7_place_19 : decode cX7_place 19 = .ok (.iload_n 1, 1) := by decide +kernel
theorem dX7_place_20 : decode cX7_place 20 = .ok (.aaload, 1) := by decide +kernel
theorem dX7_place_21 : decode cX7_place 21 = .ok (.getfield 139, 3) := by decide +kernel
theorem dX7_place_24 : decode cX7_place 24 = .ok (.iload_n 2, 1) := by decide +kernel
theorem dX7_place_25 : decode cX7_place 25 = .ok (.iaload, 1) := by decide +kernel
theorem dX7_place_26 : decode cX7_place 26 = .ok (.ireturn, 1) := by decide +kernel
theorem dX7_variants_0 : decode cX7_variants 0 = .ok (.aload_n 0, 1) := by decide +kernel
theorem dX7_variants_1 : decode cX7_variants 1 = .ok (.invokevirtual 112, 3) := by decide +kernel
theorem dX7_variants_4 : decode cX7_variants 4 = .ok (.iconst 0, 1) := by decide +kernel
theorem dX7_variants_5 : decode cX7_variants 5 = .ok (.istore_n 1, 1) := by decide +kernel
theorem dX7_variants_6 : decode cX7_variants 6 = .ok (.iconst 0, 1) := by decide +kernel
theorem dX7_variants_7 : decode cX7_variants 7 = .ok (.istore_n 2, 1) := by decide +kernel
theorem dX7_variants_8 : decode cX7_variants 8 = .ok (.iload_n 2, 1) := by decide +kernel
theorem dX7_variants_9 : decode cX7_variants 9 = .ok (.bipush 16, 2) := by decide +kernel
theorem dX7_variants_11 : decode cX7_variants 11 = .ok (.if_icmp .ge 20, 3) := by decide +kernel
