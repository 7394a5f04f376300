theorem dX7_size_0 : decode cX7_size 0 = .ok (.aload_n 0, 1) := by decide +kernel
theorem dX7_size_1 : decode cX7_size 1 = .ok (.getfield 10, 3) := by decide +kernel
theorem dX7_size_4 : decode cX7_size 4 = .ok (.getfield 55, 3) := by decide +kernel
theorem dX7_size_7 : decode cX7_size 7 = .ok (.ireturn, 1) := by decide +kernel
theorem dX7_item_0 : decode cX7_item 0 = .ok (.aload_n 0, 1) := by decide +kernel
theorem dX7_item_1 : decode cX7_item 1 = .ok (.iload_n 1, 1) := by decide +kernel
theorem dX7_item_2 : decode cX7_item 2 = .ok (.invokevirtual 102, 3) := by decide +kernel
theorem dX7_item_5 : decode cX7_item 5 = .ok (.aload_n 0, 1) := by decide +kernel
theorem dX7_item_6 : decode cX7_item 6 = .ok (.getfield 10, 3) := by decide +kernel
theorem dX7_item_9 : decode cX7_item 9 = .ok (.getfield 105, 3) := by decide +kernel
theorem dX7_item_12 : decode cX7_item 12 = .ok (.iload_n 1, 1) := by decide +kernel
theorem dX7_item_13 : decode cX7_item 13 = .ok (.iaload, 1) := by decide +kernel
theorem dX7_item_14 : decode cX7_item 14 = .ok (.ireturn, 1) := by decide +kernel
theorem dX7_unfinished_0 : decode cX7_unfinished 0 = .ok (.aload_n 0, 1) := by decide +kernel
theorem dX7_unfinished_1 : decode cX7_unfinished 1 = .ok (.getfield 10, 3) := by decide +kernel
theorem dX7_unfinished_4 : decode cX7_unfinished 4 = .ok (.invokevirtual 75, 3) := by decide +kernel
theorem dX7_unfinished_7 : decode cX7_unfinished 7 = .ok (.ireturn, 1) := by decide +kernel
theorem dX7_presence_0 : decode cX7_presence 0 = .ok (.aload_n 0, 1) := by decide +kernel
theorem dX7_presence_1 : decode cX7_presence 1 = .ok (.iload_n 1, 1) := by decide +kernel
theorem dX7_presence_2 : decode cX7_presence 2 = .ok (.invokevirtual 102, 3) := by decide +kernel
theorem dX7_presence_5 : decode cX7_presence 5 = .ok (.aload_n 0, 1) := by decide +kernel
theorem dX7_presence_6 : decode cX7_presence 6 = .ok (.invokevirtual 112, 3) := by decide +kernel
theorem dX7_presence_9 : decode cX7_presence 9 = .ok (.aload_n 0, 1) := by decide +kernel
theorem dX7_presence_10 : decode cX7_presence 10 = .ok (.getfield 19, 3) := by decide +kernel
theorem dX7_presence_13 : decode cX7_presence 13 = .ok (.getfield 115, 3) := by decide +kernel
theorem dX7_presence_16 : decode cX7_presence 16 = .ok (.iload_n 1, 1) := by decide +kernel
theorem dX7_presence_17 : decode cX7_presence 17 = .ok (.iaload, 1) := by decide +kernel
theorem dX7_presence_18 : decode cX7_presence 18 = .ok (.ireturn, 1) := by decide +kernel
theorem dX7_on_0 : decode cX7_on 0 = .ok (.aload_n 0, 1) := by decide +kernel
theorem dX7_on_1 : decode cX7_on 1 = .ok (.iload_n 1, 1) := by decide +kernel
theorem dX7_on_2 : decode cX7_on 2 = .ok (.invokevirtual 68, 3) := by decide +kernel
theorem dX7_on_5 : decode cX7_on 5 = .ok (.aload_n 0, 1) := by decide +kernel
theorem dX7_on_6 : decode cX7_on 6 = .ok (.iload_n 2, 1) := by decide +kernel
theorem dX7_on_7 : decode cX7_on 7 = .ok (.invokevirtual 102, 3) := by decide +kernel
theorem dX7_on_10 : decode cX7_on 10 = .ok (.aload_n 0, 1) := by decide +kernel
theorem dX7_on_11 : decode cX7_on 11 = .ok (.invokevirtual 112, 3) := by decide +kernel
theorem dX7_on_14 : decode cX7_on 14 = .ok (.aload_n 0, 1) := by decide +kernel
theorem dX7_on_15 : decode cX7_on 15 = .ok (.getfield 19, 3) := by decide +kernel
theorem dX7_on_18 : decode cX7_on 18 = .ok (.getfield 118, 3) := by decide +kernel
theorem dX7_on_21 : decode cX7_on 21 = .ok (.iload_n 1, 1) := by decide +kernel
theorem dX7_on_22 : decode cX7_on 22 = .ok (.aaload, 1) := by decide +kernel
theorem dX7_on_23 : decode cX7_on 23 = .ok (.iload_n 2, 1) := by decide +kernel
theorem dX7_on_24 : decode cX7_on 24 = .ok (.iaload, 1) := by decide +kernel
theorem dX7_on_25 : decode cX7_on 25 = .ok (.ireturn, 1) := by decide +kernel
theorem dX7_features_0 : decode cX7_features 0 = .ok (.iload_n 1, 1) := by decide +kernel
theorem dX7_features_1 : decode cX7_features 1 = .ok (.ifCond .lt 9, 3) := by decide +kernel
theorem dX7_features_4 : decode cX7_features 4 = .ok (.iload_n 1, 1) := by decide +kernel
theorem dX7_features_5 : decode cX7_features 5 = .ok (.ldc 122, 2) := by decide +kernel
theorem dX7_features_7 : decode cX7_features 7 = .ok (.if_icmp .le 13, 3) := by decide +kernel
theorem dX7_features_10 : decode cX7_features 10 = .ok (.new 48, 3) := by decide +kernel
theorem dX7_features_13 : decode cX7_features 13 = .ok (.dup, 1) := by decide +kernel
theorem dX7_features_14 : decode cX7_features 14 = .ok (.ldc 123, 2) := by decide +kernel
theorem dX7_features_16 : decode cX7_features 16 = .ok (.invokespecial 52, 3) := by decide +kernel
theorem dX7_features_19 : decode cX7_features 19 = .ok (.athrow, 1) := by decide +kernel
theorem dX7_features_20 : decode cX7_features 20 = .ok (.iconst 0, 1) := by decide +kernel
theorem dX7_features_21 : decode cX7_features 21 = .ok (.istore_n 2, 1) := by decide +kernel
theorem dX7_features_22 : decode cX7_features 22 = .ok (.iconst 0, 1) := by decide +kernel
theorem dX7_features_23 : decode cX7_features 23 = .ok (.istore_n 3, 1) := by decide +kernel
theorem dX7_features_24 : decode cX7_features 24 = .ok (.iload_n 3, 1) := by decide +kernel
theorem dX7_features_25 : decode cX7_features 25 = .ok (.iconst 4, 1) := by decide +kernel
theorem dX7_features_26 : decode cX7_features 26 = .ok (.if_icmp .ge 23, 3) := by decide +kernel
theorem dX7_features_29 : decode cX7_features 29 = .ok (.iload_n 3, 1) := by decide +kernel
theorem dX7_features_30 : decode cX7_features 30 = .ok (.iload_n 1, 1) := by decide +kernel
theorem dX7_features_31 : decode cX7_features 31 = .ok (.invokestatic 125, 3) := by decide +kernel
theorem dX7_features_34 : decode cX7_features 34 = .ok (.ifCond .eq 9, 3) := by decide +kernel
theorem dX7_features_37 : decode cX7_features 37 = .ok (.iload_n 2, 1) := by decide +kernel
theorem dX7_features_38 : decode cX7_features 38 = .ok (.iconst 1, 1) := by decide +kernel
theorem dX7_features_39 : decode cX7_features 39 = .ok (.iload_n 3, 1) := by decide +kernel
theorem dX7_features_40 : decode cX7_features 40 = .ok (.ishl, 1) := by decide +kernel
theorem dX7_features_41 : decode cX7_features 41 = .ok (.ior, 1) := by decide +kernel
theorem dX7_features_42 : decode cX7_features 42 = .ok (.istore_n 2, 1) := by decide +kernel
theorem dX7_features_43 : decode cX7_features 43 = .ok (.iinc 3 1, 3) := by decide +kernel
theorem dX7_features_46 : decode cX7_features 46 = .ok (.goto (-22), 3) := by decide +kernel
theorem dX7_features_49 : decode cX7_features 49 = .ok (.iload_n 2, 1) := by decide +kernel
theorem dX7_features_50 : decode cX7_features 50 = .ok (.ireturn, 1) := by decide +kernel
theorem dX7_dead_0 : decode cX7_dead 0 = .ok (.aload_n 0, 1) := by decide +kernel
theorem dX7_dead_1 : decode cX7_dead 1 = .ok (.invokevirtual 112, 3) := by decide +kernel
theorem dX7_dead_4 : decode cX7_dead 4 = .ok (.iconst 0, 1) := by decide +kernel
theorem dX7_dead_5 : decode cX7_dead 5 = .ok (.istore_n 1, 1) := by decide +kernel
theorem dX7_dead_6 : decode cX7_dead 6 = .ok (.iconst 0, 1) := by decide +kernel
theorem dX7_dead_7 : decode cX7_dead 7 = .ok (.istore_n 2, 1) := by decide +kernel
theorem dX7_dead_8 : decode cX7_dead 8 = .ok (.iload_n 2, 1) := by decide +kernel
theorem dX7_dead_9 : decode cX7_dead 9 = .ok (.aload_n 0, 1) := by decide +kernel
theorem dX7_dead_10 : decode cX7_dead 10 = .ok (.getfield 10, 3) := by decide +kernel
theorem dX7_dead_13 : decode cX7_dead 13 = .ok (.getfield 55, 3) := by decide +kernel
theorem dX7_dead_16 : decode cX7_dead 16 = .ok (.if_icmp .ge 39, 3) := by decide +kernel
theorem dX7_dead_19 : decode cX7_dead 19 = .ok (.aload_n 0, 1) := by decide +kernel
theorem dX7_dead_20 : decode cX7_dead 20 = .ok (.getfield 10, 3) := by decide +kernel
theorem dX7_dead_23 : decode cX7_dead 23 = .ok (.getfield 105, 3) := by decide +kernel
theorem dX7_dead_26 : decode cX7_dead 26 = .ok (.iload_n 2, 1) := by decide +kernel
theorem dX7_dead_27 : decode cX7_dead 27 = .ok (.iaload, 1) := by decide +kernel
theorem dX7_dead_28 : decode cX7_dead 28 = .ok (.invokestatic 42, 3) := by decide +kernel
theorem dX7_dead_31 : decode cX7_dead 31 = .ok (.ifCond .eq 18, 3) := by decide +kernel
theorem dX7_dead_34 : decode cX7_dead 34 = .ok (.aload_n 0, 1) := by decide +kernel
theorem dX7_dead_35 : decode cX7_dead 35 = .ok (.getfield 19, 3) := by decide +kernel
theorem dX7_dead_38 : decode cX7_dead 38 = .ok (.getfield 115, 3) := by decide +kernel
theorem dX7_dead_41 : decode cX7_dead 41 = .ok (.iload_n 2, 1) := by decide +kernel
theorem dX7_dead_42 : decode cX7_dead 42 = .ok (.iaload, 1) := by decide +kernel
theorem dX7_dead_43 : decode cX7_dead 43 = .ok (.ifCond .ne 6, 3) := by decide +kernel
theorem dX7_dead_46 : decode cX7_dead 46 = .ok (.iinc 1 1, 3) := by decide +kernel
theorem dX7_dead_49 : decode cX7_dead 49 = .ok (.iinc 2 1, 3) := by decide +kernel
theorem dX7_dead_52 : decode cX7_dead 52 = .ok (.goto (-44), 3) := by decide +kernel
theorem dX7_dead_55 : decode cX7_dead 55 = .ok (.iload_n 1, 1) := by decide +kernel
theorem dX7_dead_56 : decode cX7_dead 56 = .ok (.ireturn, 1) := by decide +kernel
theorem dX7_length_0 : decode cX7_length 0 = .ok (.aload_n 0, 1) := by decide +kernel
theorem dX7_length_1 : decode cX7_length 1 = .ok (.iload_n 1, 1) := by decide +kernel
theorem dX7_length_2 : decode cX7_length 2 = .ok (.invokevirtual 129, 3) := by decide +kernel
theorem dX7_length_5 : decode cX7_length 5 = .ok (.aload_n 0, 1) := by decide +kernel
theorem dX7_length_6 : decode cX7_length 6 = .ok (.invokevirtual 112, 3) := by decide +kernel
theorem dX7_length_9 : decode cX7_length 9 = .ok (.aload_n 0, 1) := by decide +kernel
theorem dX7_length_10 : decode cX7_length 10 = .ok (.getfield 25, 3) := by decide +kernel
theorem dX7_length_13 : decode cX7_length 13 = .ok (.iload_n 1, 1) := by decide +kernel
theorem dX7_length_14 : decode cX7_length 14 = .ok (.aaload, 1) := by decide +kernel
theorem dX7_length_15 : decode cX7_length 15 = .ok (.getfield 132, 3) := by decide +kernel
theorem dX7_length_18 : decode cX7_length 18 = .ok (.ireturn, 1) := by decide +kernel
theorem dX7_place_0 : decode cX7_place 0 = .ok (.aload_n 0, 1) := by decide +kernel
theorem dX7_place_1 : decode cX7_place 1 = .ok (.iload_n 1, 1) := by decide +kernel
theorem dX7_place_2 : decode cX7_place 2 = .ok (.invokevirtual 129, 3) := by decide +kernel
theorem dX7_place_5 : decode cX7_place 5 = .ok (.aload_n 0, 1) := by decide +kernel
theorem dX7_place_6 : decode cX7_place 6 = .ok (.invokevirtual 112, 3) := by decide +kernel
theorem dX7_place_9 : decode cX7_place 9 = .ok (.aload_n 0, 1) := by decide +kernel
theorem dX7_place_10 : decode cX7_place 10 = .ok (.iload_n 1, 1) := by decide +kernel
theorem dX7_place_11 : decode cX7_place 11 = .ok (.iload_n 2, 1) := by decide +kernel
theorem dX7_place_12 : decode cX7_place 12 = .ok (.invokevirtual 135, 3) := by decide +kernel
theorem dX7_place_15 : decode cX7_place 15 = .ok (.aload_n 0, 1) := by decide +kernel
theorem dX7_place_16 : decode cX7_place 16 = .ok (.getfield 25, 3) := by decide +kernel
theorem dX7_place_19 : decode cX7_place 19 = .ok (.iload_n 1, 1) := by decide +kernel
theorem dX7_place_20 : decode cX7_place 20 = .ok (.aaload, 1) := by decide +kernel
theorem dX7_place_21 : decode cX7_place 21 = .ok (.getfield 139, 3) := by decide +kernel
theorem dX7_place_24 : decode cX7_place 24 = .ok (.iload_n 2, 1) := by decide +kernel
theorem dX7_place_25 : decode cX7_place 25 = .ok (.iaload, 1) := by decide +kernel
theorem dX7_place_26 : decode cX7_place 26 = .ok (.ireturn, 1) := by decide +kernel
theorem dX7_variants_0 : decode cX7_variants 0 = .ok (.aload_n 0, 1) := by decide +kernel
theorem dX7_variants_1 : decode cX7_variants 1 = .ok (.invokevirtual 112, 3) := by decide +kernel
theorem dX7_variants_4 : decode cX7_variants 4 = .ok (.iconst 0, 1) := by decide +kernel
theorem dX7_variants_5 : decode cX7_variants 5 = .ok (.istore_n 1, 1) := by decide +kernel
theorem dX7_variants_6 : decode cX7_variants 6 = .ok (.iconst 0, 1) := by decide +kernel
theorem dX7_variants_7 : decode cX7_variants 7 = .ok (.istore_n 2, 1) := by decide +kernel
theorem dX7_variants_8 : decode cX7_variants 8 = .ok (.iload_n 2, 1) := by decide +kernel
theorem dX7_variants_9 : decode cX7_variants 9 = .ok (.bipush 16, 2) := by decide +kernel
theorem dX7_variants_11 : decode cX7_variants 11 = .ok (.if_icmp .ge 20, 3) := by decide +kernel
theorem dX7_variants_14 : decode cX7_variants 14 = .ok (.aload_n 0, 1) := by decide +kernel
theorem dX7_variants_15 : decode cX7_variants 15 = .ok (.iload_n 2, 1) := by decide +kernel
theorem dX7_variants_16 : decode cX7_variants 16 = .ok (.invokevirtual 142, 3) := by decide +kernel
theorem dX7_variants_19 : decode cX7_variants 19 = .ok (.ifCond .eq 6, 3) := by decide +kernel
theorem dX7_variants_22 : decode cX7_variants 22 = .ok (.iinc 1 1, 3) := by decide +kernel
theorem dX7_variants_25 : decode cX7_variants 25 = .ok (.iinc 2 1, 3) := by decide +kernel
theorem dX7_variants_28 : decode cX7_variants 28 = .ok (.goto (-20), 3) := by decide +kernel
theorem dX7_variants_31 : decode cX7_variants 31 = .ok (.iload_n 1, 1) := by decide +kernel
theorem dX7_variants_32 : decode cX7_variants 32 = .ok (.ireturn, 1) := by decide +kernel
theorem dX7_error_0 : decode cX7_error 0 = .ok (.aload_n 0, 1) := by decide +kernel
theorem dX7_error_1 : decode cX7_error 1 = .ok (.iload_n 1, 1) := by decide +kernel
theorem dX7_error_2 : decode cX7_error 2 = .ok (.invokevirtual 129, 3) := by decide +kernel
theorem dX7_error_5 : decode cX7_error 5 = .ok (.aload_n 0, 1) := by decide +kernel
theorem dX7_error_6 : decode cX7_error 6 = .ok (.invokevirtual 145, 3) := by decide +kernel
theorem dX7_error_9 : decode cX7_error 9 = .ok (.aload_n 0, 1) := by decide +kernel
theorem dX7_error_10 : decode cX7_error 10 = .ok (.invokevirtual 112, 3) := by decide +kernel
theorem dX7_error_13 : decode cX7_error 13 = .ok (.aload_n 0, 1) := by decide +kernel
theorem dX7_error_14 : decode cX7_error 14 = .ok (.getfield 25, 3) := by decide +kernel
theorem dX7_error_17 : decode cX7_error 17 = .ok (.iload_n 1, 1) := by decide +kernel
theorem dX7_error_18 : decode cX7_error 18 = .ok (.aaload, 1) := by decide +kernel
theorem dX7_error_19 : decode cX7_error 19 = .ok (.getfield 148, 3) := by decide +kernel
theorem dX7_error_22 : decode cX7_error 22 = .ok (.getfield 152, 3) := by decide +kernel
theorem dX7_error_25 : decode cX7_error 25 = .ok (.ireturn, 1) := by decide +kernel
theorem dX7_wrong_0 : decode cX7_wrong 0 = .ok (.aload_n 0, 1) := by decide +kernel
theorem dX7_wrong_1 : decode cX7_wrong 1 = .ok (.invokevirtual 145, 3) := by decide +kernel
theorem dX7_wrong_4 : decode cX7_wrong 4 = .ok (.aload_n 0, 1) := by decide +kernel
theorem dX7_wrong_5 : decode cX7_wrong 5 = .ok (.invokevirtual 112, 3) := by decide +kernel
theorem dX7_wrong_8 : decode cX7_wrong 8 = .ok (.iconst 0, 1) := by decide +kernel
theorem dX7_wrong_9 : decode cX7_wrong 9 = .ok (.istore_n 1, 1) := by decide +kernel
theorem dX7_wrong_10 : decode cX7_wrong 10 = .ok (.iconst 0, 1) := by decide +kernel
theorem dX7_wrong_11 : decode cX7_wrong 11 = .ok (.istore_n 2, 1) := by decide +kernel
theorem dX7_wrong_12 : decode cX7_wrong 12 = .ok (.iload_n 2, 1) := by decide +kernel
theorem dX7_wrong_13 : decode cX7_wrong 13 = .ok (.bipush 16, 2) := by decide +kernel
theorem dX7_wrong_15 : decode cX7_wrong 15 = .ok (.if_icmp .ge 31, 3) := by decide +kernel
theorem dX7_wrong_18 : decode cX7_wrong 18 = .ok (.aload_n 0, 1) := by decide +kernel
theorem dX7_wrong_19 : decode cX7_wrong 19 = .ok (.getfield 25, 3) := by decide +kernel
theorem dX7_wrong_22 : decode cX7_wrong 22 = .ok (.iload_n 2, 1) := by decide +kernel
theorem dX7_wrong_23 : decode cX7_wrong 23 = .ok (.aaload, 1) := by decide +kernel
theorem dX7_wrong_24 : decode cX7_wrong 24 = .ok (.getfield 148, 3) := by decide +kernel
theorem dX7_wrong_27 : decode cX7_wrong 27 = .ok (.getfield 152, 3) := by decide +kernel
theorem dX7_wrong_30 : decode cX7_wrong 30 = .ok (.iconst (-1), 1) := by decide +kernel
theorem dX7_wrong_31 : decode cX7_wrong 31 = .ok (.if_icmp .eq 9, 3) := by decide +kernel
theorem dX7_wrong_34 : decode cX7_wrong 34 = .ok (.iload_n 1, 1) := by decide +kernel
theorem dX7_wrong_35 : decode cX7_wrong 35 = .ok (.iconst 1, 1) := by decide +kernel
theorem dX7_wrong_36 : decode cX7_wrong 36 = .ok (.iload_n 2, 1) := by decide +kernel
theorem dX7_wrong_37 : decode cX7_wrong 37 = .ok (.ishl, 1) := by decide +kernel
theorem dX7_wrong_38 : decode cX7_wrong 38 = .ok (.ior, 1) := by decide +kernel
theorem dX7_wrong_39 : decode cX7_wrong 39 = .ok (.istore_n 1, 1) := by decide +kernel
theorem dX7_wrong_40 : decode cX7_wrong 40 = .ok (.iinc 2 1, 3) := by decide +kernel
theorem dX7_wrong_43 : decode cX7_wrong 43 = .ok (.goto (-31), 3) := by decide +kernel
theorem dX7_wrong_46 : decode cX7_wrong 46 = .ok (.iload_n 1, 1) := by decide +kernel
theorem dX7_wrong_47 : decode cX7_wrong 47 = .ok (.ireturn, 1) := by decide +kernel
theorem dX7_firstError_0 : decode cX7_firstError 0 = .ok (.aload_n 0, 1) := by decide +kernel
theorem dX7_firstError_1 : decode cX7_firstError 1 = .ok (.invokevirtual 145, 3) := by decide +kernel
theorem dX7_firstError_4 : decode cX7_firstError 4 = .ok (.aload_n 0, 1) := by decide +kernel
theorem dX7_firstError_5 : decode cX7_firstError 5 = .ok (.invokevirtual 112, 3) := by decide +kernel
theorem dX7_firstError_8 : decode cX7_firstError 8 = .ok (.iconst (-1), 1) := by decide +kernel
theorem dX7_firstError_9 : decode cX7_firstError 9 = .ok (.istore_n 1, 1) := by decide +kernel
theorem dX7_firstError_10 : decode cX7_firstError 10 = .ok (.iconst 0, 1) := by decide +kernel
theorem dX7_firstError_11 : decode cX7_firstError 11 = .ok (.istore_n 2, 1) := by decide +kernel
theorem dX7_firstError_12 : decode cX7_firstError 12 = .ok (.iload_n 2, 1) := by decide +kernel
theorem dX7_firstError_13 : decode cX7_firstError 13 = .ok (.bipush 16, 2) := by decide +kernel
theorem dX7_firstError_15 : decode cX7_firstError 15 = .ok (.if_icmp .ge 39, 3) := by decide +kernel
theorem dX7_firstError_18 : decode cX7_firstError 18 = .ok (.aload_n 0, 1) := by decide +kernel
theorem dX7_firstError_19 : decode cX7_firstError 19 = .ok (.getfield 25, 3) := by decide +kernel
theorem dX7_firstError_22 : decode cX7_firstError 22 = .ok (.iload_n 2, 1) := by decide +kernel
theorem dX7_firstError_23 : decode cX7_firstError 23 = .ok (.aaload, 1) := by decide +kernel
theorem dX7_firstError_24 : decode cX7_firstError 24 = .ok (.getfield 148, 3) := by decide +kernel
theorem dX7_firstError_27 : decode cX7_firstError 27 = .ok (.getfield 152, 3) := by decide +kernel
theorem dX7_firstError_30 : decode cX7_firstError 30 = .ok (.istore_n 3, 1) := by decide +kernel
theorem dX7_firstError_31 : decode cX7_firstError 31 = .ok (.iload_n 3, 1) := by decide +kernel
theorem dX7_firstError_32 : decode cX7_firstError 32 = .ok (.iconst (-1), 1) := by decide +kernel
theorem dX7_firstError_33 : decode cX7_firstError 33 = .ok (.if_icmp .eq 15, 3) := by decide +kernel
theorem dX7_firstError_36 : decode cX7_firstError 36 = .ok (.iload_n 1, 1) := by decide +kernel
theorem dX7_firstError_37 : decode cX7_firstError 37 = .ok (.iconst (-1), 1) := by decide +kernel
theorem dX7_firstError_38 : decode cX7_firstError 38 = .ok (.if_icmp .eq 8, 3) := by decide +kernel
theorem dX7_firstError_41 : decode cX7_firstError 41 = .ok (.iload_n 3, 1) := by decide +kernel
theorem dX7_firstError_42 : decode cX7_firstError 42 = .ok (.iload_n 1, 1) := by decide +kernel
theorem dX7_firstError_43 : decode cX7_firstError 43 = .ok (.if_icmp .ge 5, 3) := by decide +kernel
theorem dX7_firstError_46 : decode cX7_firstError 46 = .ok (.iload_n 3, 1) := by decide +kernel
theorem dX7_firstError_47 : decode cX7_firstError 47 = .ok (.istore_n 1, 1) := by decide +kernel
theorem dX7_firstError_48 : decode cX7_firstError 48 = .ok (.iinc 2 1, 3) := by decide +kernel
theorem dX7_firstError_51 : decode cX7_firstError 51 = .ok (.goto (-39), 3) := by decide +kernel
theorem dX7_firstError_54 : decode cX7_firstError 54 = .ok (.iload_n 1, 1) := by decide +kernel
theorem dX7_firstError_55 : decode cX7_firstError 55 = .ok (.ireturn, 1) := by decide +kernel
theorem dX7_groups_0 : decode cX7_groups 0 = .ok (.aload_n 0, 1) := by decide +kernel
theorem dX7_groups_1 : decode cX7_groups 1 = .ok (.iload_n 1, 1) := by decide +kernel
theorem dX7_groups_2 : decode cX7_groups 2 = .ok (.invokevirtual 102, 3) := by decide +kernel
theorem dX7_groups_5 : decode cX7_groups 5 = .ok (.aload_n 0, 1) := by decide +kernel
theorem dX7_groups_6 : decode cX7_groups 6 = .ok (.invokevirtual 145, 3) := by decide +kernel
theorem dX7_groups_9 : decode cX7_groups 9 = .ok (.aload_n 0, 1) := by decide +kernel
theorem dX7_groups_10 : decode cX7_groups 10 = .ok (.invokevirtual 112, 3) := by decide +kernel
theorem dX7_groups_13 : decode cX7_groups 13 = .ok (.aload_n 0, 1) := by decide +kernel
theorem dX7_groups_14 : decode cX7_groups 14 = .ok (.getfield 30, 3) := by decide +kernel
theorem dX7_groups_17 : decode cX7_groups 17 = .ok (.iload_n 1, 1) := by decide +kernel
theorem dX7_groups_18 : decode cX7_groups 18 = .ok (.iaload, 1) := by decide +kernel
theorem dX7_groups_19 : decode cX7_groups 19 = .ok (.ireturn, 1) := by decide +kernel
theorem dX7_work_0 : decode cX7_work 0 = .ok (.aload_n 0, 1) := by decide +kernel
theorem dX7_work_1 : decode cX7_work 1 = .ok (.invokevirtual 145, 3) := by decide +kernel
theorem dX7_work_4 : decode cX7_work 4 = .ok (.aload_n 0, 1) := by decide +kernel
theorem dX7_work_5 : decode cX7_work 5 = .ok (.invokevirtual 112, 3) := by decide +kernel
theorem dX7_work_8 : decode cX7_work 8 = .ok (.aload_n 0, 1) := by decide +kernel
theorem dX7_work_9 : decode cX7_work 9 = .ok (.invokevirtual 157, 3) := by decide +kernel
theorem dX7_work_12 : decode cX7_work 12 = .ok (.ireturn, 1) := by decide +kernel
theorem dX7_gain_0 : decode cX7_gain 0 = .ok (.aload_n 0, 1) := by decide +kernel
theorem dX7_gain_1 : decode cX7_gain 1 = .ok (.invokevirtual 145, 3) := by decide +kernel
theorem dX7_gain_4 : decode cX7_gain 4 = .ok (.aload_n 0, 1) := by decide +kernel
theorem dX7_gain_5 : decode cX7_gain 5 = .ok (.invokevirtual 112, 3) := by decide +kernel
theorem dX7_gain_8 : decode cX7_gain 8 = .ok (.aload_n 0, 1) := by decide +kernel
theorem dX7_gain_9 : decode cX7_gain 9 = .ok (.invokevirtual 157, 3) := by decide +kernel
theorem dX7_gain_12 : decode cX7_gain 12 = .ok (.istore_n 1, 1) := by decide +kernel
theorem dX7_gain_13 : decode cX7_gain 13 = .ok (.iload_n 1, 1) := by decide +kernel
theorem dX7_gain_14 : decode cX7_gain 14 = .ok (.ifCond .ne 5, 3) := by decide +kernel
theorem dX7_gain_17 : decode cX7_gain 17 = .ok (.dconst 0, 1) := by decide +kernel
theorem dX7_gain_18 : decode cX7_gain 18 = .ok (.dreturn, 1) := by decide +kernel
theorem dX7_gain_19 : decode cX7_gain 19 = .ok (.iconst 0, 1) := by decide +kernel
theorem dX7_gain_20 : decode cX7_gain 20 = .ok (.istore_n 2, 1) := by decide +kernel
theorem dX7_gain_21 : decode cX7_gain 21 = .ok (.iconst 0, 1) := by decide +kernel
theorem dX7_gain_22 : decode cX7_gain 22 = .ok (.istore_n 3, 1) := by decide +kernel
theorem dX7_gain_23 : decode cX7_gain 23 = .ok (.iload_n 3, 1) := by decide +kernel
theorem dX7_gain_24 : decode cX7_gain 24 = .ok (.bipush 16, 2) := by decide +kernel
theorem dX7_gain_26 : decode cX7_gain 26 = .ok (.if_icmp .ge 24, 3) := by decide +kernel
theorem dX7_gain_29 : decode cX7_gain 29 = .ok (.iload_n 2, 1) := by decide +kernel
theorem dX7_gain_30 : decode cX7_gain 30 = .ok (.aload_n 0, 1) := by decide +kernel
theorem dX7_gain_31 : decode cX7_gain 31 = .ok (.getfield 25, 3) := by decide +kernel
theorem dX7_gain_34 : decode cX7_gain 34 = .ok (.iload_n 3, 1) := by decide +kernel
theorem dX7_gain_35 : decode cX7_gain 35 = .ok (.aaload, 1) := by decide +kernel
theorem dX7_gain_36 : decode cX7_gain 36 = .ok (.getfield 148, 3) := by decide +kernel
theorem dX7_gain_39 : decode cX7_gain 39 = .ok (.getfield 160, 3) := by decide +kernel
theorem dX7_gain_42 : decode cX7_gain 42 = .ok (.iadd, 1) := by decide +kernel
theorem dX7_gain_43 : decode cX7_gain 43 = .ok (.istore_n 2, 1) := by decide +kernel
theorem dX7_gain_44 : decode cX7_gain 44 = .ok (.iinc 3 1, 3) := by decide +kernel
theorem dX7_gain_47 : decode cX7_gain 47 = .ok (.goto (-24), 3) := by decide +kernel
theorem dX7_gain_50 : decode cX7_gain 50 = .ok (.iload_n 2, 1) := by decide +kernel
theorem dX7_gain_51 : decode cX7_gain 51 = .ok (.i2d, 1) := by decide +kernel
theorem dX7_gain_52 : decode cX7_gain 52 = .ok (.iload_n 1, 1) := by decide +kernel
theorem dX7_gain_53 : decode cX7_gain 53 = .ok (.i2d, 1) := by decide +kernel
theorem dX7_gain_54 : decode cX7_gain 54 = .ok (.ddiv, 1) := by decide +kernel
theorem dX7_gain_55 : decode cX7_gain 55 = .ok (.dreturn, 1) := by decide +kernel
theorem dX7_stack_0 : decode cX7_stack 0 = .ok (.aload_n 0, 1) := by decide +kernel
theorem dX7_stack_1 : decode cX7_stack 1 = .ok (.iload_n 1, 1) := by decide +kernel
theorem dX7_stack_2 : decode cX7_stack 2 = .ok (.invokevirtual 129, 3) := by decide +kernel
theorem dX7_stack_5 : decode cX7_stack 5 = .ok (.aload_n 0, 1) := by decide +kernel
theorem dX7_stack_6 : decode cX7_stack 6 = .ok (.invokevirtual 112, 3) := by decide +kernel
theorem dX7_stack_9 : decode cX7_stack 9 = .ok (.aload_n 0, 1) := by decide +kernel
theorem dX7_stack_10 : decode cX7_stack 10 = .ok (.iload_n 1, 1) := by decide +kernel
theorem dX7_stack_11 : decode cX7_stack 11 = .ok (.iload_n 2, 1) := by decide +kernel
theorem dX7_stack_12 : decode cX7_stack 12 = .ok (.invokevirtual 135, 3) := by decide +kernel
theorem dX7_stack_15 : decode cX7_stack 15 = .ok (.aload_n 0, 1) := by decide +kernel
theorem dX7_stack_16 : decode cX7_stack 16 = .ok (.invokevirtual 145, 3) := by decide +kernel
theorem dX7_stack_19 : decode cX7_stack 19 = .ok (.aload_n 0, 1) := by decide +kernel
theorem dX7_stack_20 : decode cX7_stack 20 = .ok (.getfield 25, 3) := by decide +kernel
theorem dX7_stack_23 : decode cX7_stack 23 = .ok (.iload_n 1, 1) := by decide +kernel
theorem dX7_stack_24 : decode cX7_stack 24 = .ok (.aaload, 1) := by decide +kernel
theorem dX7_stack_25 : decode cX7_stack 25 = .ok (.getfield 148, 3) := by decide +kernel
theorem dX7_stack_28 : decode cX7_stack 28 = .ok (.iload_n 2, 1) := by decide +kernel
theorem dX7_stack_29 : decode cX7_stack 29 = .ok (.invokevirtual 163, 3) := by decide +kernel
theorem dX7_stack_32 : decode cX7_stack 32 = .ok (.ireturn, 1) := by decide +kernel
theorem dX7_outputs_0 : decode cX7_outputs 0 = .ok (.aload_n 0, 1) := by decide +kernel
theorem dX7_outputs_1 : decode cX7_outputs 1 = .ok (.iload_n 1, 1) := by decide +kernel
theorem dX7_outputs_2 : decode cX7_outputs 2 = .ok (.invokevirtual 129, 3) := by decide +kernel
theorem dX7_outputs_5 : decode cX7_outputs 5 = .ok (.aload_n 0, 1) := by decide +kernel
theorem dX7_outputs_6 : decode cX7_outputs 6 = .ok (.invokevirtual 145, 3) := by decide +kernel
theorem dX7_outputs_9 : decode cX7_outputs 9 = .ok (.aload_n 0, 1) := by decide +kernel
theorem dX7_outputs_10 : decode cX7_outputs 10 = .ok (.invokevirtual 112, 3) := by decide +kernel
theorem dX7_outputs_13 : decode cX7_outputs 13 = .ok (.aload_n 0, 1) := by decide +kernel
theorem dX7_outputs_14 : decode cX7_outputs 14 = .ok (.iload_n 1, 1) := by decide +kernel
theorem dX7_outputs_15 : decode cX7_outputs 15 = .ok (.invokevirtual 166, 3) := by decide +kernel
theorem dX7_outputs_18 : decode cX7_outputs 18 = .ok (.aload_n 0, 1) := by decide +kernel
theorem dX7_outputs_19 : decode cX7_outputs 19 = .ok (.getfield 25, 3) := by decide +kernel
theorem dX7_outputs_22 : decode cX7_outputs 22 = .ok (.iload_n 1, 1) := by decide +kernel
theorem dX7_outputs_23 : decode cX7_outputs 23 = .ok (.aaload, 1) := by decide +kernel
theorem dX7_outputs_24 : decode cX7_outputs 24 = .ok (.getfield 169, 3) := by decide +kernel
theorem dX7_outputs_27 : decode cX7_outputs 27 = .ok (.getfield 173, 3) := by decide +kernel
theorem dX7_outputs_30 : decode cX7_outputs 30 = .ok (.ireturn, 1) := by decide +kernel
theorem dX7_output_0 : decode cX7_output 0 = .ok (.aload_n 0, 1) := by decide +kernel
theorem dX7_output_1 : decode cX7_output 1 = .ok (.iload_n 1, 1) := by decide +kernel
theorem dX7_output_2 : decode cX7_output 2 = .ok (.invokevirtual 129, 3) := by decide +kernel
theorem dX7_output_5 : decode cX7_output 5 = .ok (.aload_n 0, 1) := by decide +kernel
theorem dX7_output_6 : decode cX7_output 6 = .ok (.invokevirtual 145, 3) := by decide +kernel
theorem dX7_output_9 : decode cX7_output 9 = .ok (.aload_n 0, 1) := by decide +kernel
theorem dX7_output_10 : decode cX7_output 10 = .ok (.invokevirtual 112, 3) := by decide +kernel
theorem dX7_output_13 : decode cX7_output 13 = .ok (.aload_n 0, 1) := by decide +kernel
theorem dX7_output_14 : decode cX7_output 14 = .ok (.iload_n 1, 1) := by decide +kernel
theorem dX7_output_15 : decode cX7_output 15 = .ok (.invokevirtual 166, 3) := by decide +kernel
theorem dX7_output_18 : decode cX7_output 18 = .ok (.aload_n 0, 1) := by decide +kernel
theorem dX7_output_19 : decode cX7_output 19 = .ok (.getfield 25, 3) := by decide +kernel
theorem dX7_output_22 : decode cX7_output 22 = .ok (.iload_n 1, 1) := by decide +kernel
theorem dX7_output_23 : decode cX7_output 23 = .ok (.aaload, 1) := by decide +kernel
theorem dX7_output_24 : decode cX7_output 24 = .ok (.getfield 169, 3) := by decide +kernel
theorem dX7_output_27 : decode cX7_output 27 = .ok (.astore_n 3, 1) := by decide +kernel
theorem dX7_output_28 : decode cX7_output 28 = .ok (.iload_n 2, 1) := by decide +kernel
theorem dX7_output_29 : decode cX7_output 29 = .ok (.ifCond .lt 11, 3) := by decide +kernel
theorem dX7_output_32 : decode cX7_output 32 = .ok (.iload_n 2, 1) := by decide +kernel
theorem dX7_output_33 : decode cX7_output 33 = .ok (.aload_n 3, 1) := by decide +kernel
theorem dX7_output_34 : decode cX7_output 34 = .ok (.getfield 173, 3) := by decide +kernel
theorem dX7_output_37 : decode cX7_output 37 = .ok (.if_icmp .lt 13, 3) := by decide +kernel
theorem dX7_output_40 : decode cX7_output 40 = .ok (.new 48, 3) := by decide +kernel
theorem dX7_output_43 : decode cX7_output 43 = .ok (.dup, 1) := by decide +kernel
theorem dX7_output_44 : decode cX7_output 44 = .ok (.ldc 178, 2) := by decide +kernel
theorem dX7_output_46 : decode cX7_output 46 = .ok (.invokespecial 52, 3) := by decide +kernel
theorem dX7_output_49 : decode cX7_output 49 = .ok (.athrow, 1) := by decide +kernel
theorem dX7_output_50 : decode cX7_output 50 = .ok (.aload_n 3, 1) := by decide +kernel
theorem dX7_output_51 : decode cX7_output 51 = .ok (.getfield 180, 3) := by decide +kernel
theorem dX7_output_54 : decode cX7_output 54 = .ok (.iload_n 2, 1) := by decide +kernel
theorem dX7_output_55 : decode cX7_output 55 = .ok (.iaload, 1) := by decide +kernel
theorem dX7_output_56 : decode cX7_output 56 = .ok (.ireturn, 1) := by decide +kernel
theorem dX7_variable_0 : decode cX7_variable 0 = .ok (.aload_n 0, 1) := by decide +kernel
theorem dX7_variable_1 : decode cX7_variable 1 = .ok (.iload_n 1, 1) := by decide +kernel
theorem dX7_variable_2 : decode cX7_variable 2 = .ok (.invokevirtual 129, 3) := by decide +kernel
theorem dX7_variable_5 : decode cX7_variable 5 = .ok (.aload_n 0, 1) := by decide +kernel
theorem dX7_variable_6 : decode cX7_variable 6 = .ok (.invokevirtual 145, 3) := by decide +kernel
theorem dX7_variable_9 : decode cX7_variable 9 = .ok (.aload_n 0, 1) := by decide +kernel
theorem dX7_variable_10 : decode cX7_variable 10 = .ok (.invokevirtual 112, 3) := by decide +kernel
theorem dX7_variable_13 : decode cX7_variable 13 = .ok (.aload_n 0, 1) := by decide +kernel
theorem dX7_variable_14 : decode cX7_variable 14 = .ok (.iload_n 1, 1) := by decide +kernel
theorem dX7_variable_15 : decode cX7_variable 15 = .ok (.invokevirtual 166, 3) := by decide +kernel
theorem dX7_variable_18 : decode cX7_variable 18 = .ok (.iload_n 2, 1) := by decide +kernel
theorem dX7_variable_19 : decode cX7_variable 19 = .ok (.ifCond .lt 8, 3) := by decide +kernel
theorem dX7_variable_22 : decode cX7_variable 22 = .ok (.iload_n 2, 1) := by decide +kernel
theorem dX7_variable_23 : decode cX7_variable 23 = .ok (.iconst 4, 1) := by decide +kernel
theorem dX7_variable_24 : decode cX7_variable 24 = .ok (.if_icmp .lt 13, 3) := by decide +kernel
theorem dX7_variable_27 : decode cX7_variable 27 = .ok (.new 48, 3) := by decide +kernel
theorem dX7_variable_30 : decode cX7_variable 30 = .ok (.dup, 1) := by decide +kernel
theorem dX7_variable_31 : decode cX7_variable 31 = .ok (.ldc 183, 2) := by decide +kernel
theorem dX7_variable_33 : decode cX7_variable 33 = .ok (.invokespecial 52, 3) := by decide +kernel
theorem dX7_variable_36 : decode cX7_variable 36 = .ok (.athrow, 1) := by decide +kernel
theorem dX7_variable_37 : decode cX7_variable 37 = .ok (.aload_n 0, 1) := by decide +kernel
theorem dX7_variable_38 : decode cX7_variable 38 = .ok (.getfield 25, 3) := by decide +kernel
theorem dX7_variable_41 : decode cX7_variable 41 = .ok (.iload_n 1, 1) := by decide +kernel
theorem dX7_variable_42 : decode cX7_variable 42 = .ok (.aaload, 1) := by decide +kernel
theorem dX7_variable_43 : decode cX7_variable 43 = .ok (.getfield 169, 3) := by decide +kernel
theorem dX7_variable_46 : decode cX7_variable 46 = .ok (.getfield 185, 3) := by decide +kernel
theorem dX7_variable_49 : decode cX7_variable 49 = .ok (.iload_n 2, 1) := by decide +kernel
theorem dX7_variable_50 : decode cX7_variable 50 = .ok (.iaload, 1) := by decide +kernel
theorem dX7_variable_51 : decode cX7_variable 51 = .ok (.ireturn, 1) := by decide +kernel
theorem dX7_behaviours_0 : decode cX7_behaviours 0 = .ok (.aload_n 0, 1) := by decide +kernel
theorem dX7_behaviours_1 : decode cX7_behaviours 1 = .ok (.invokevirtual 145, 3) := by decide +kernel
theorem dX7_behaviours_4 : decode cX7_behaviours 4 = .ok (.aload_n 0, 1) := by decide +kernel
theorem dX7_behaviours_5 : decode cX7_behaviours 5 = .ok (.invokevirtual 112, 3) := by decide +kernel
theorem dX7_behaviours_8 : decode cX7_behaviours 8 = .ok (.iconst 0, 1) := by decide +kernel
theorem dX7_behaviours_9 : decode cX7_behaviours 9 = .ok (.istore_n 1, 1) := by decide +kernel
theorem dX7_behaviours_10 : decode cX7_behaviours 10 = .ok (.iconst 0, 1) := by decide +kernel
theorem dX7_behaviours_11 : decode cX7_behaviours 11 = .ok (.istore_n 2, 1) := by decide +kernel
theorem dX7_behaviours_12 : decode cX7_behaviours 12 = .ok (.iload_n 2, 1) := by decide +kernel
theorem dX7_behaviours_13 : decode cX7_behaviours 13 = .ok (.bipush 16, 2) := by decide +kernel
theorem dX7_behaviours_15 : decode cX7_behaviours 15 = .ok (.if_icmp .ge 36, 3) := by decide +kernel
theorem dX7_behaviours_18 : decode cX7_behaviours 18 = .ok (.aload_n 0, 1) := by decide +kernel
theorem dX7_behaviours_19 : decode cX7_behaviours 19 = .ok (.getfield 25, 3) := by decide +kernel
theorem dX7_behaviours_22 : decode cX7_behaviours 22 = .ok (.iload_n 2, 1) := by decide +kernel
theorem dX7_behaviours_23 : decode cX7_behaviours 23 = .ok (.aaload, 1) := by decide +kernel
theorem dX7_behaviours_24 : decode cX7_behaviours 24 = .ok (.getfield 148, 3) := by decide +kernel
theorem dX7_behaviours_27 : decode cX7_behaviours 27 = .ok (.getfield 152, 3) := by decide +kernel
theorem dX7_behaviours_30 : decode cX7_behaviours 30 = .ok (.iconst (-1), 1) := by decide +kernel
theorem dX7_behaviours_31 : decode cX7_behaviours 31 = .ok (.if_icmp .ne 14, 3) := by decide +kernel
theorem dX7_behaviours_34 : decode cX7_behaviours 34 = .ok (.aload_n 0, 1) := by decide +kernel
theorem dX7_behaviours_35 : decode cX7_behaviours 35 = .ok (.iload_n 2, 1) := by decide +kernel
theorem dX7_behaviours_36 : decode cX7_behaviours 36 = .ok (.invokevirtual 188, 3) := by decide +kernel
theorem dX7_behaviours_39 : decode cX7_behaviours 39 = .ok (.ifCond .eq 6, 3) := by decide +kernel
theorem dX7_behaviours_42 : decode cX7_behaviours 42 = .ok (.iinc 1 1, 3) := by decide +kernel
theorem dX7_behaviours_45 : decode cX7_behaviours 45 = .ok (.iinc 2 1, 3) := by decide +kernel
theorem dX7_behaviours_48 : decode cX7_behaviours 48 = .ok (.goto (-36), 3) := by decide +kernel
theorem dX7_behaviours_51 : decode cX7_behaviours 51 = .ok (.iload_n 1, 1) := by decide +kernel
theorem dX7_behaviours_52 : decode cX7_behaviours 52 = .ok (.ireturn, 1) := by decide +kernel
theorem dX7_digest_0 : decode cX7_digest 0 = .ok (.aload_n 0, 1) := by decide +kernel
theorem dX7_digest_1 : decode cX7_digest 1 = .ok (.invokevirtual 112, 3) := by decide +kernel
theorem dX7_digest_4 : decode cX7_digest 4 = .ok (.ldc2_w 191, 3) := by decide +kernel
theorem dX7_digest_7 : decode cX7_digest 7 = .ok (.aload_n 0, 1) := by decide +kernel
theorem dX7_digest_8 : decode cX7_digest 8 = .ok (.getfield 10, 3) := by decide +kernel
theorem dX7_digest_11 : decode cX7_digest 11 = .ok (.getfield 55, 3) := by decide +kernel
theorem dX7_digest_14 : decode cX7_digest 14 = .ok (.i2l, 1) := by decide +kernel
theorem dX7_digest_15 : decode cX7_digest 15 = .ok (.invokestatic 193, 3) := by decide +kernel
theorem dX7_digest_18 : decode cX7_digest 18 = .ok (.lstore_n 1, 1) := by decide +kernel
theorem dX7_digest_19 : decode cX7_digest 19 = .ok (.iconst 0, 1) := by decide +kernel
theorem dX7_digest_20 : decode cX7_digest 20 = .ok (.istore_n 3, 1) := by decide +kernel
theorem dX7_digest_21 : decode cX7_digest 21 = .ok (.iload_n 3, 1) := by decide +kernel
theorem dX7_digest_22 : decode cX7_digest 22 = .ok (.aload_n 0, 1) := by decide +kernel
theorem dX7_digest_23 : decode cX7_digest 23 = .ok (.getfield 10, 3) := by decide +kernel
theorem dX7_digest_26 : decode cX7_digest 26 = .ok (.getfield 55, 3) := by decide +kernel
theorem dX7_digest_29 : decode cX7_digest 29 = .ok (.if_icmp .ge 39, 3) := by decide +kernel
theorem dX7_digest_32 : decode cX7_digest 32 = .ok (.lload_n 1, 1) := by decide +kernel
theorem dX7_digest_33 : decode cX7_digest 33 = .ok (.aload_n 0, 1) := by decide +kernel
theorem dX7_digest_34 : decode cX7_digest 34 = .ok (.getfield 10, 3) := by decide +kernel
theorem dX7_digest_37 : decode cX7_digest 37 = .ok (.getfield 105, 3) := by decide +kernel
theorem dX7_digest_40 : decode cX7_digest 40 = .ok (.iload_n 3, 1) := by decide +kernel
theorem dX7_digest_41 : decode cX7_digest 41 = .ok (.iaload, 1) := by decide +kernel
theorem dX7_digest_42 : decode cX7_digest 42 = .ok (.i2l, 1) := by decide +kernel
theorem dX7_digest_43 : decode cX7_digest 43 = .ok (.invokestatic 193, 3) := by decide +kernel
theorem dX7_digest_46 : decode cX7_digest 46 = .ok (.lstore_n 1, 1) := by decide +kernel
theorem dX7_digest_47 : decode cX7_digest 47 = .ok (.lload_n 1, 1) := by decide +kernel
theorem dX7_digest_48 : decode cX7_digest 48 = .ok (.aload_n 0, 1) := by decide +kernel
theorem dX7_digest_49 : decode cX7_digest 49 = .ok (.getfield 19, 3) := by decide +kernel
theorem dX7_digest_52 : decode cX7_digest 52 = .ok (.getfield 115, 3) := by decide +kernel
theorem dX7_digest_55 : decode cX7_digest 55 = .ok (.iload_n 3, 1) := by decide +kernel
theorem dX7_digest_56 : decode cX7_digest 56 = .ok (.iaload, 1) := by decide +kernel
theorem dX7_digest_57 : decode cX7_digest 57 = .ok (.i2l, 1) := by decide +kernel
theorem dX7_digest_58 : decode cX7_digest 58 = .ok (.invokestatic 193, 3) := by decide +kernel
theorem dX7_digest_61 : decode cX7_digest 61 = .ok (.lstore_n 1, 1) := by decide +kernel
theorem dX7_digest_62 : decode cX7_digest 62 = .ok (.iinc 3 1, 3) := by decide +kernel
theorem dX7_digest_65 : decode cX7_digest 65 = .ok (.goto (-44), 3) := by decide +kernel
theorem dX7_digest_68 : decode cX7_digest 68 = .ok (.aload_n 0, 1) := by decide +kernel
theorem dX7_digest_69 : decode cX7_digest 69 = .ok (.getfield 10, 3) := by decide +kernel
theorem dX7_digest_72 : decode cX7_digest 72 = .ok (.invokevirtual 75, 3) := by decide +kernel
theorem dX7_digest_75 : decode cX7_digest 75 = .ok (.ifCond .ne 28, 3) := by decide +kernel
theorem dX7_digest_78 : decode cX7_digest 78 = .ok (.iconst 0, 1) := by decide +kernel
theorem dX7_digest_79 : decode cX7_digest 79 = .ok (.istore_n 3, 1) := by decide +kernel
theorem dX7_digest_80 : decode cX7_digest 80 = .ok (.iload_n 3, 1) := by decide +kernel
theorem dX7_digest_81 : decode cX7_digest 81 = .ok (.bipush 16, 2) := by decide +kernel
theorem dX7_digest_83 : decode cX7_digest 83 = .ok (.if_icmp .ge 20, 3) := by decide +kernel
theorem dX7_digest_86 : decode cX7_digest 86 = .ok (.lload_n 1, 1) := by decide +kernel
theorem dX7_digest_87 : decode cX7_digest 87 = .ok (.aload_n 0, 1) := by decide +kernel
theorem dX7_digest_88 : decode cX7_digest 88 = .ok (.getfield 25, 3) := by decide +kernel
theorem dX7_digest_91 : decode cX7_digest 91 = .ok (.iload_n 3, 1) := by decide +kernel
theorem dX7_digest_92 : decode cX7_digest 92 = .ok (.aaload, 1) := by decide +kernel
theorem dX7_digest_93 : decode cX7_digest 93 = .ok (.invokestatic 197, 3) := by decide +kernel
theorem dX7_digest_96 : decode cX7_digest 96 = .ok (.lstore_n 1, 1) := by decide +kernel
theorem dX7_digest_97 : decode cX7_digest 97 = .ok (.iinc 3 1, 3) := by decide +kernel
theorem dX7_digest_100 : decode cX7_digest 100 = .ok (.goto (-20), 3) := by decide +kernel
theorem dX7_digest_103 : decode cX7_digest 103 = .ok (.lload_n 1, 1) := by decide +kernel
theorem dX7_digest_104 : decode cX7_digest 104 = .ok (.lreturn, 1) := by decide +kernel
theorem dX7_checkFeature_0 : decode cX7_checkFeature 0 = .ok (.iload_n 1, 1) := by decide +kernel
theorem dX7_checkFeature_1 : decode cX7_checkFeature 1 = .ok (.ifCond .lt 8, 3) := by decide +kernel
theorem dX7_checkFeature_4 : decode cX7_checkFeature 4 = .ok (.iload_n 1, 1) := by decide +kernel
theorem dX7_checkFeature_5 : decode cX7_checkFeature 5 = .ok (.iconst 4, 1) := by decide +kernel
theorem dX7_checkFeature_6 : decode cX7_checkFeature 6 = .ok (.if_icmp .lt 13, 3) := by decide +kernel
theorem dX7_checkFeature_9 : decode cX7_checkFeature 9 = .ok (.new 201, 3) := by decide +kernel
theorem dX7_checkFeature_12 : decode cX7_checkFeature 12 = .ok (.dup, 1) := by decide +kernel
theorem dX7_checkFeature_13 : decode cX7_checkFeature 13 = .ok (.ldc 203, 2) := by decide +kernel
theorem dX7_checkFeature_15 : decode cX7_checkFeature 15 = .ok (.invokespecial 205, 3) := by decide +kernel
theorem dX7_checkFeature_18 : decode cX7_checkFeature 18 = .ok (.athrow, 1) := by decide +kernel
theorem dX7_checkFeature_19 : decode cX7_checkFeature 19 = .ok (.return_, 1) := by decide +kernel
theorem dX7_checkItem_0 : decode cX7_checkItem 0 = .ok (.iload_n 1, 1) := by decide +kernel
theorem dX7_checkItem_1 : decode cX7_checkItem 1 = .ok (.ifCond .lt 14, 3) := by decide +kernel
theorem dX7_checkItem_4 : decode cX7_checkItem 4 = .ok (.iload_n 1, 1) := by decide +kernel
theorem dX7_checkItem_5 : decode cX7_checkItem 5 = .ok (.aload_n 0, 1) := by decide +kernel
theorem dX7_checkItem_6 : decode cX7_checkItem 6 = .ok (.getfield 10, 3) := by decide +kernel
theorem dX7_checkItem_9 : decode cX7_checkItem 9 = .ok (.getfield 55, 3) := by decide +kernel
theorem dX7_checkItem_12 : decode cX7_checkItem 12 = .ok (.if_icmp .lt 13, 3) := by decide +kernel
theorem dX7_checkItem_15 : decode cX7_checkItem 15 = .ok (.new 201, 3) := by decide +kernel
theorem dX7_checkItem_18 : decode cX7_checkItem 18 = .ok (.dup, 1) := by decide +kernel
theorem dX7_checkItem_19 : decode cX7_checkItem 19 = .ok (.ldc 206, 2) := by decide +kernel
theorem dX7_checkItem_21 : decode cX7_checkItem 21 = .ok (.invokespecial 205, 3) := by decide +kernel
theorem dX7_checkItem_24 : decode cX7_checkItem 24 = .ok (.athrow, 1) := by decide +kernel
theorem dX7_checkItem_25 : decode cX7_checkItem 25 = .ok (.return_, 1) := by decide +kernel
theorem dX7_checkConfiguration_0 : decode cX7_checkConfiguration 0 = .ok (.iload_n 1, 1) := by decide +kernel
theorem dX7_checkConfiguration_1 : decode cX7_checkConfiguration 1 = .ok (.ifCond .lt 9, 3) := by decide +kernel
theorem dX7_checkConfiguration_4 : decode cX7_checkConfiguration 4 = .ok (.iload_n 1, 1) := by decide +kernel
theorem dX7_checkConfiguration_5 : decode cX7_checkConfiguration 5 = .ok (.bipush 16, 2) := by decide +kernel
theorem dX7_checkConfiguration_7 : decode cX7_checkConfiguration 7 = .ok (.if_icmp .lt 13, 3) := by decide +kernel
theorem dX7_checkConfiguration_10 : decode cX7_checkConfiguration 10 = .ok (.new 201, 3) := by decide +kernel
theorem dX7_checkConfiguration_13 : decode cX7_checkConfiguration 13 = .ok (.dup, 1) := by decide +kernel
theorem dX7_checkConfiguration_14 : decode cX7_checkConfiguration 14 = .ok (.ldc 208, 2) := by decide +kernel
theorem dX7_checkConfiguration_16 : decode cX7_checkConfiguration 16 = .ok (.invokespecial 205, 3) := by decide +kernel
theorem dX7_checkConfiguration_19 : decode cX7_checkConfiguration 19 = .ok (.athrow, 1) := by decide +kernel
theorem dX7_checkConfiguration_20 : decode cX7_checkConfiguration 20 = .ok (.return_, 1) := by decide +kernel
theorem dX7_checkIndex_0 : decode cX7_checkIndex 0 = .ok (.iload_n 2, 1) := by decide +kernel
theorem dX7_checkIndex_1 : decode cX7_checkIndex 1 = .ok (.ifCond .lt 16, 3) := by decide +kernel
theorem dX7_checkIndex_4 : decode cX7_checkIndex 4 = .ok (.iload_n 2, 1) := by decide +kernel
theorem dX7_checkIndex_5 : decode cX7_checkIndex 5 = .ok (.aload_n 0, 1) := by decide +kernel
theorem dX7_checkIndex_6 : decode cX7_checkIndex 6 = .ok (.getfield 25, 3) := by decide +kernel
theorem dX7_checkIndex_9 : decode cX7_checkIndex 9 = .ok (.iload_n 1, 1) := by decide +kernel
theorem dX7_checkIndex_10 : decode cX7_checkIndex 10 = .ok (.aaload, 1) := by decide +kernel
theorem dX7_checkIndex_11 : decode cX7_checkIndex 11 = .ok (.getfield 132, 3) := by decide +kernel
theorem dX7_checkIndex_14 : decode cX7_checkIndex 14 = .ok (.if_icmp .lt 13, 3) := by decide +kernel
theorem dX7_checkIndex_17 : decode cX7_checkIndex 17 = .ok (.new 201, 3) := by decide +kernel
theorem dX7_checkIndex_20 : decode cX7_checkIndex 20 = .ok (.dup, 1) := by decide +kernel
theorem dX7_checkIndex_21 : decode cX7_checkIndex 21 = .ok (.ldc 210, 2) := by decide +kernel
theorem dX7_checkIndex_23 : decode cX7_checkIndex 23 = .ok (.invokespecial 205, 3) := by decide +kernel
theorem dX7_checkIndex_26 : decode cX7_checkIndex 26 = .ok (.athrow, 1) := by decide +kernel
theorem dX7_checkIndex_27 : decode cX7_checkIndex 27 = .ok (.return_, 1) := by decide +kernel
theorem dX7_checkRoom_0 : decode cX7_checkRoom 0 = .ok (.aload_n 0, 1) := by decide +kernel
theorem dX7_checkRoom_1 : decode cX7_checkRoom 1 = .ok (.getfield 10, 3) := by decide +kernel
theorem dX7_checkRoom_4 : decode cX7_checkRoom 4 = .ok (.getfield 55, 3) := by decide +kernel
theorem dX7_checkRoom_7 : decode cX7_checkRoom 7 = .ok (.bipush 80, 2) := by decide +kernel
theorem dX7_checkRoom_9 : decode cX7_checkRoom 9 = .ok (.if_icmp .lt 13, 3) := by decide +kernel
theorem dX7_checkRoom_12 : decode cX7_checkRoom 12 = .ok (.new 59, 3) := by decide +kernel
theorem dX7_checkRoom_15 : decode cX7_checkRoom 15 = .ok (.dup, 1) := by decide +kernel
theorem dX7_checkRoom_16 : decode cX7_checkRoom 16 = .ok (.ldc 61, 2) := by decide +kernel
theorem dX7_checkRoom_18 : decode cX7_checkRoom 18 = .ok (.invokespecial 63, 3) := by decide +kernel
theorem dX7_checkRoom_21 : decode cX7_checkRoom 21 = .ok (.athrow, 1) := by decide +kernel
theorem dX7_checkRoom_22 : decode cX7_checkRoom 22 = .ok (.return_, 1) := by decide +kernel
theorem dX7_checkUnfinished_0 : decode cX7_checkUnfinished 0 = .ok (.aload_n 0, 1) := by decide +kernel
theorem dX7_checkUnfinished_1 : decode cX7_checkUnfinished 1 = .ok (.getfield 10, 3) := by decide +kernel
theorem dX7_checkUnfinished_4 : decode cX7_checkUnfinished 4 = .ok (.invokevirtual 75, 3) := by decide +kernel
theorem dX7_checkUnfinished_7 : decode cX7_checkUnfinished 7 = .ok (.ifCond .ne 13, 3) := by decide +kernel
theorem dX7_checkUnfinished_10 : decode cX7_checkUnfinished 10 = .ok (.new 59, 3) := by decide +kernel
theorem dX7_checkUnfinished_13 : decode cX7_checkUnfinished 13 = .ok (.dup, 1) := by decide +kernel
theorem dX7_checkUnfinished_14 : decode cX7_checkUnfinished 14 = .ok (.ldc 212, 2) := by decide +kernel
theorem dX7_checkUnfinished_16 : decode cX7_checkUnfinished 16 = .ok (.invokespecial 63, 3) := by decide +kernel
theorem dX7_checkUnfinished_19 : decode cX7_checkUnfinished 19 = .ok (.athrow, 1) := by decide +kernel
theorem dX7_checkUnfinished_20 : decode cX7_checkUnfinished 20 = .ok (.return_, 1) := by decide +kernel
theorem dX7_checkFinished_0 : decode cX7_checkFinished 0 = .ok (.aload_n 0, 1) := by decide +kernel
theorem dX7_checkFinished_1 : decode cX7_checkFinished 1 = .ok (.getfield 10, 3) := by decide +kernel
theorem dX7_checkFinished_4 : decode cX7_checkFinished 4 = .ok (.invokevirtual 75, 3) := by decide +kernel
theorem dX7_checkFinished_7 : decode cX7_checkFinished 7 = .ok (.ifCond .eq 13, 3) := by decide +kernel
theorem dX7_checkFinished_10 : decode cX7_checkFinished 10 = .ok (.new 59, 3) := by decide +kernel
theorem dX7_checkFinished_13 : decode cX7_checkFinished 13 = .ok (.dup, 1) := by decide +kernel
theorem dX7_checkFinished_14 : decode cX7_checkFinished 14 = .ok (.ldc 214, 2) := by decide +kernel
theorem dX7_checkFinished_16 : decode cX7_checkFinished 16 = .ok (.invokespecial 63, 3) := by decide +kernel
theorem dX7_checkFinished_19 : decode cX7_checkFinished 19 = .ok (.athrow, 1) := by decide +kernel
theorem dX7_checkFinished_20 : decode cX7_checkFinished 20 = .ok (.return_, 1) := by decide +kernel
theorem dX7_checkNoError_0 : decode cX7_checkNoError 0 = .ok (.aload_n 0, 1) := by decide +kernel
theorem dX7_checkNoError_1 : decode cX7_checkNoError 1 = .ok (.getfield 25, 3) := by decide +kernel
theorem dX7_checkNoError_4 : decode cX7_checkNoError 4 = .ok (.iload_n 1, 1) := by decide +kernel
theorem dX7_checkNoError_5 : decode cX7_checkNoError 5 = .ok (.aaload, 1) := by decide +kernel
theorem dX7_checkNoError_6 : decode cX7_checkNoError 6 = .ok (.getfield 148, 3) := by decide +kernel
theorem dX7_checkNoError_9 : decode cX7_checkNoError 9 = .ok (.getfield 152, 3) := by decide +kernel
theorem dX7_checkNoError_12 : decode cX7_checkNoError 12 = .ok (.iconst (-1), 1) := by decide +kernel
theorem dX7_checkNoError_13 : decode cX7_checkNoError 13 = .ok (.if_icmp .eq 13, 3) := by decide +kernel
theorem dX7_checkNoError_16 : decode cX7_checkNoError 16 = .ok (.new 216, 3) := by decide +kernel
theorem dX7_checkNoError_19 : decode cX7_checkNoError 19 = .ok (.dup, 1) := by decide +kernel
theorem dX7_checkNoError_20 : decode cX7_checkNoError 20 = .ok (.ldc 218, 2) := by decide +kernel
theorem dX7_checkNoError_22 : decode cX7_checkNoError 22 = .ok (.invokespecial 220, 3) := by decide +kernel
theorem dX7_checkNoError_25 : decode cX7_checkNoError 25 = .ok (.athrow, 1) := by decide +kernel
theorem dX7_checkNoError_26 : decode cX7_checkNoError 26 = .ok (.return_, 1) := by decide +kernel
theorem dX7_byteOf_0 : decode cX7_byteOf 0 = .ok (.lload_n 0, 1) := by decide +kernel
theorem dX7_byteOf_1 : decode cX7_byteOf 1 = .ok (.iload_n 2, 1) := by decide +kernel
theorem dX7_byteOf_2 : decode cX7_byteOf 2 = .ok (.lushr, 1) := by decide +kernel
theorem dX7_byteOf_3 : decode cX7_byteOf 3 = .ok (.l2i, 1) := by decide +kernel
theorem dX7_byteOf_4 : decode cX7_byteOf 4 = .ok (.sipush 255, 3) := by decide +kernel
theorem dX7_byteOf_7 : decode cX7_byteOf 7 = .ok (.iand, 1) := by decide +kernel
theorem dX7_byteOf_8 : decode cX7_byteOf 8 = .ok (.ireturn, 1) := by decide +kernel
theorem dX7_append_0 : decode cX7_append 0 = .ok (.aload_n 0, 1) := by decide +kernel
theorem dX7_append_1 : decode cX7_append 1 = .ok (.getfield 10, 3) := by decide +kernel
theorem dX7_append_4 : decode cX7_append 4 = .ok (.iload_n 1, 1) := by decide +kernel
theorem dX7_append_5 : decode cX7_append 5 = .ok (.invokevirtual 221, 3) := by decide +kernel
theorem dX7_append_8 : decode cX7_append 8 = .ok (.aload_n 0, 1) := by decide +kernel
theorem dX7_append_9 : decode cX7_append 9 = .ok (.iconst 0, 1) := by decide +kernel
theorem dX7_append_10 : decode cX7_append 10 = .ok (.putfield 34, 3) := by decide +kernel
theorem dX7_append_13 : decode cX7_append 13 = .ok (.aload_n 0, 1) := by decide +kernel
theorem dX7_append_14 : decode cX7_append 14 = .ok (.getfield 10, 3) := by decide +kernel
theorem dX7_append_17 : decode cX7_append 17 = .ok (.getfield 55, 3) := by decide +kernel
theorem dX7_append_20 : decode cX7_append 20 = .ok (.ireturn, 1) := by decide +kernel
theorem dX7_matters_0 : decode cX7_matters 0 = .ok (.iconst 0, 1) := by decide +kernel
theorem dX7_matters_1 : decode cX7_matters 1 = .ok (.istore_n 2, 1) := by decide +kernel
theorem dX7_matters_2 : decode cX7_matters 2 = .ok (.iload_n 2, 1) := by decide +kernel
theorem dX7_matters_3 : decode cX7_matters 3 = .ok (.bipush 16, 2) := by decide +kernel
theorem dX7_matters_5 : decode cX7_matters 5 = .ok (.if_icmp .ge 30, 3) := by decide +kernel
theorem dX7_matters_8 : decode cX7_matters 8 = .ok (.iload_n 2, 1) := by decide +kernel
theorem dX7_matters_9 : decode cX7_matters 9 = .ok (.iconst 1, 1) := by decide +kernel
theorem dX7_matters_10 : decode cX7_matters 10 = .ok (.iload_n 0, 1) := by decide +kernel
theorem dX7_matters_11 : decode cX7_matters 11 = .ok (.ishl, 1) := by decide +kernel
theorem dX7_matters_12 : decode cX7_matters 12 = .ok (.ixor, 1) := by decide +kernel
theorem dX7_matters_13 : decode cX7_matters 13 = .ok (.istore_n 3, 1) := by decide +kernel
theorem dX7_matters_14 : decode cX7_matters 14 = .ok (.iload_n 1, 1) := by decide +kernel
theorem dX7_matters_15 : decode cX7_matters 15 = .ok (.iload_n 2, 1) := by decide +kernel
theorem dX7_matters_16 : decode cX7_matters 16 = .ok (.ishr, 1) := by decide +kernel
theorem dX7_matters_17 : decode cX7_matters 17 = .ok (.iconst 1, 1) := by decide +kernel
theorem dX7_matters_18 : decode cX7_matters 18 = .ok (.iand, 1) := by decide +kernel
theorem dX7_matters_19 : decode cX7_matters 19 = .ok (.iload_n 1, 1) := by decide +kernel
theorem dX7_matters_20 : decode cX7_matters 20 = .ok (.iload_n 3, 1) := by decide +kernel
theorem dX7_matters_21 : decode cX7_matters 21 = .ok (.ishr, 1) := by decide +kernel
theorem dX7_matters_22 : decode cX7_matters 22 = .ok (.iconst 1, 1) := by decide +kernel
theorem dX7_matters_23 : decode cX7_matters 23 = .ok (.iand, 1) := by decide +kernel
theorem dX7_matters_24 : decode cX7_matters 24 = .ok (.if_icmp .eq 5, 3) := by decide +kernel
theorem dX7_matters_27 : decode cX7_matters 27 = .ok (.iconst 1, 1) := by decide +kernel
theorem dX7_matters_28 : decode cX7_matters 28 = .ok (.ireturn, 1) := by decide +kernel
theorem dX7_matters_29 : decode cX7_matters 29 = .ok (.iinc 2 1, 3) := by decide +kernel
theorem dX7_matters_32 : decode cX7_matters 32 = .ok (.goto (-30), 3) := by decide +kernel
theorem dX7_matters_35 : decode cX7_matters 35 = .ok (.iconst 0, 1) := by decide +kernel
theorem dX7_matters_36 : decode cX7_matters 36 = .ok (.ireturn, 1) := by decide +kernel
theorem dX7_refresh_0 : decode cX7_refresh 0 = .ok (.aload_n 0, 1) := by decide +kernel
theorem dX7_refresh_1 : decode cX7_refresh 1 = .ok (.getfield 34, 3) := by decide +kernel
theorem dX7_refresh_4 : decode cX7_refresh 4 = .ok (.ifCond .eq 4, 3) := by decide +kernel
theorem dX7_refresh_7 : decode cX7_refresh 7 = .ok (.return_, 1) := by decide +kernel
theorem dX7_refresh_8 : decode cX7_refresh 8 = .ok (.aload_n 0, 1) := by decide +kernel
theorem dX7_refresh_9 : decode cX7_refresh 9 = .ok (.getfield 19, 3) := by decide +kernel
theorem dX7_refresh_12 : decode cX7_refresh 12 = .ok (.aload_n 0, 1) := by decide +kernel
theorem dX7_refresh_13 : decode cX7_refresh 13 = .ok (.getfield 10, 3) := by decide +kernel
theorem dX7_refresh_16 : decode cX7_refresh 16 = .ok (.invokevirtual 224, 3) := by decide +kernel
theorem dX7_refresh_19 : decode cX7_refresh 19 = .ok (.aload_n 0, 1) := by decide +kernel
theorem dX7_refresh_20 : decode cX7_refresh 20 = .ok (.invokevirtual 228, 3) := by decide +kernel
theorem dX7_refresh_23 : decode cX7_refresh 23 = .ok (.aload_n 0, 1) := by decide +kernel
theorem dX7_refresh_24 : decode cX7_refresh 24 = .ok (.getfield 10, 3) := by decide +kernel
theorem dX7_refresh_27 : decode cX7_refresh 27 = .ok (.invokevirtual 75, 3) := by decide +kernel
theorem dX7_refresh_30 : decode cX7_refresh 30 = .ok (.ifCond .ne 11, 3) := by decide +kernel
theorem dX7_refresh_33 : decode cX7_refresh 33 = .ok (.aload_n 0, 1) := by decide +kernel
theorem dX7_refresh_34 : decode cX7_refresh 34 = .ok (.invokevirtual 231, 3) := by decide +kernel
theorem dX7_refresh_37 : decode cX7_refresh 37 = .ok (.aload_n 0, 1) := by decide +kernel
theorem dX7_refresh_38 : decode cX7_refresh 38 = .ok (.invokevirtual 234, 3) := by decide +kernel
theorem dX7_refresh_41 : decode cX7_refresh 41 = .ok (.aload_n 0, 1) := by decide +kernel
theorem dX7_refresh_42 : decode cX7_refresh 42 = .ok (.iconst 1, 1) := by decide +kernel
theorem dX7_refresh_43 : decode cX7_refresh 43 = .ok (.putfield 34, 3) := by decide +kernel
theorem dX7_refresh_46 : decode cX7_refresh 46 = .ok (.return_, 1) := by decide +kernel
theorem dX7_collectVariants_0 : decode cX7_collectVariants 0 = .ok (.iconst 0, 1) := by decide +kernel
theorem dX7_collectVariants_1 : decode cX7_collectVariants 1 = .ok (.istore_n 1, 1) := by decide +kernel
theorem dX7_collectVariants_2 : decode cX7_collectVariants 2 = .ok (.iload_n 1, 1) := by decide +kernel
theorem dX7_collectVariants_3 : decode cX7_collectVariants 3 = .ok (.bipush 16, 2) := by decide +kernel
theorem dX7_collectVariants_5 : decode cX7_collectVariants 5 = .ok (.if_icmp .ge 81, 3) := by decide +kernel
theorem dX7_collectVariants_8 : decode cX7_collectVariants 8 = .ok (.aload_n 0, 1) := by decide +kernel
theorem dX7_collectVariants_9 : decode cX7_collectVariants 9 = .ok (.getfield 25, 3) := by decide +kernel
theorem dX7_collectVariants_12 : decode cX7_collectVariants 12 = .ok (.iload_n 1, 1) := by decide +kernel
theorem dX7_collectVariants_13 : decode cX7_collectVariants 13 = .ok (.aaload, 1) := by decide +kernel
theorem dX7_collectVariants_14 : decode cX7_collectVariants 14 = .ok (.astore_n 2, 1) := by decide +kernel
theorem dX7_collectVariants_15 : decode cX7_collectVariants 15 = .ok (.aload_n 2, 1) := by decide +kernel
theorem dX7_collectVariants_16 : decode cX7_collectVariants 16 = .ok (.iconst 0, 1) := by decide +kernel
theorem dX7_collectVariants_17 : decode cX7_collectVariants 17 = .ok (.putfield 132, 3) := by decide +kernel
theorem dX7_collectVariants_20 : decode cX7_collectVariants 20 = .ok (.iconst 0, 1) := by decide +kernel
theorem dX7_collectVariants_21 : decode cX7_collectVariants 21 = .ok (.istore_n 3, 1) := by decide +kernel
theorem dX7_collectVariants_22 : decode cX7_collectVariants 22 = .ok (.iload_n 3, 1) := by decide +kernel
theorem dX7_collectVariants_23 : decode cX7_collectVariants 23 = .ok (.aload_n 0, 1) := by decide +kernel
theorem dX7_collectVariants_24 : decode cX7_collectVariants 24 = .ok (.getfield 10, 3) := by decide +kernel
theorem dX7_collectVariants_27 : decode cX7_collectVariants 27 = .ok (.getfield 55, 3) := by decide +kernel
theorem dX7_collectVariants_30 : decode cX7_collectVariants 30 = .ok (.if_icmp .ge 50, 3) := by decide +kernel
theorem dX7_collectVariants_33 : decode cX7_collectVariants 33 = .ok (.aload_n 0, 1) := by decide +kernel
theorem dX7_collectVariants_34 : decode cX7_collectVariants 34 = .ok (.getfield 10, 3) := by decide +kernel
theorem dX7_collectVariants_37 : decode cX7_collectVariants 37 = .ok (.getfield 105, 3) := by decide +kernel
theorem dX7_collectVariants_40 : decode cX7_collectVariants 40 = .ok (.iload_n 3, 1) := by decide +kernel
theorem dX7_collectVariants_41 : decode cX7_collectVariants 41 = .ok (.iaload, 1) := by decide +kernel
theorem dX7_collectVariants_42 : decode cX7_collectVariants 42 = .ok (.invokestatic 42, 3) := by decide +kernel
theorem dX7_collectVariants_45 : decode cX7_collectVariants 45 = .ok (.ifCond .eq 29, 3) := by decide +kernel
theorem dX7_collectVariants_48 : decode cX7_collectVariants 48 = .ok (.aload_n 0, 1) := by decide +kernel
theorem dX7_collectVariants_49 : decode cX7_collectVariants 49 = .ok (.getfield 19, 3) := by decide +kernel
theorem dX7_collectVariants_52 : decode cX7_collectVariants 52 = .ok (.iload_n 3, 1) := by decide +kernel
theorem dX7_collectVariants_53 : decode cX7_collectVariants 53 = .ok (.iload_n 1, 1) := by decide +kernel
theorem dX7_collectVariants_54 : decode cX7_collectVariants 54 = .ok (.invokevirtual 237, 3) := by decide +kernel
theorem dX7_collectVariants_57 : decode cX7_collectVariants 57 = .ok (.ifCond .eq 17, 3) := by decide +kernel
theorem dX7_collectVariants_60 : decode cX7_collectVariants 60 = .ok (.aload_n 2, 1) := by decide +kernel
theorem dX7_collectVariants_61 : decode cX7_collectVariants 61 = .ok (.aload_n 0, 1) := by decide +kernel
theorem dX7_collectVariants_62 : decode cX7_collectVariants 62 = .ok (.getfield 10, 3) := by decide +kernel
theorem dX7_collectVariants_65 : decode cX7_collectVariants 65 = .ok (.getfield 105, 3) := by decide +kernel
theorem dX7_collectVariants_68 : decode cX7_collectVariants 68 = .ok (.iload_n 3, 1) := by decide +kernel
theorem dX7_collectVariants_69 : decode cX7_collectVariants 69 = .ok (.iaload, 1) := by decide +kernel
theorem dX7_collectVariants_70 : decode cX7_collectVariants 70 = .ok (.iload_n 3, 1) := by decide +kernel
theorem dX7_collectVariants_71 : decode cX7_collectVariants 71 = .ok (.invokevirtual 240, 3) := by decide +kernel
theorem dX7_collectVariants_74 : decode cX7_collectVariants 74 = .ok (.iinc 3 1, 3) := by decide +kernel
theorem dX7_collectVariants_77 : decode cX7_collectVariants 77 = .ok (.goto (-55), 3) := by decide +kernel
theorem dX7_collectVariants_80 : decode cX7_collectVariants 80 = .ok (.iinc 1 1, 3) := by decide +kernel
theorem dX7_collectVariants_83 : decode cX7_collectVariants 83 = .ok (.goto (-81), 3) := by decide +kernel
theorem dX7_collectVariants_86 : decode cX7_collectVariants 86 = .ok (.return_, 1) := by decide +kernel
theorem dX7_readAll_0 : decode cX7_readAll 0 = .ok (.iconst 0, 1) := by decide +kernel
theorem dX7_readAll_1 : decode cX7_readAll 1 = .ok (.istore_n 1, 1) := by decide +kernel
theorem dX7_readAll_2 : decode cX7_readAll 2 = .ok (.iload_n 1, 1) := by decide +kernel
theorem dX7_readAll_3 : decode cX7_readAll 3 = .ok (.bipush 16, 2) := by decide +kernel
theorem dX7_readAll_5 : decode cX7_readAll 5 = .ok (.if_icmp .ge 21, 3) := by decide +kernel
theorem dX7_readAll_8 : decode cX7_readAll 8 = .ok (.aload_n 0, 1) := by decide +kernel
theorem dX7_readAll_9 : decode cX7_readAll 9 = .ok (.getfield 25, 3) := by decide +kernel
theorem dX7_readAll_12 : decode cX7_readAll 12 = .ok (.iload_n 1, 1) := by decide +kernel
theorem dX7_readAll_13 : decode cX7_readAll 13 = .ok (.aaload, 1) := by decide +kernel
theorem dX7_readAll_14 : decode cX7_readAll 14 = .ok (.getfield 148, 3) := by decide +kernel
theorem dX7_readAll_17 : decode cX7_readAll 17 = .ok (.invokevirtual 242, 3) := by decide +kernel
theorem dX7_readAll_20 : decode cX7_readAll 20 = .ok (.iinc 1 1, 3) := by decide +kernel
theorem dX7_readAll_23 : decode cX7_readAll 23 = .ok (.goto (-21), 3) := by decide +kernel
theorem dX7_readAll_26 : decode cX7_readAll 26 = .ok (.iconst 0, 1) := by decide +kernel
theorem dX7_readAll_27 : decode cX7_readAll 27 = .ok (.istore_n 1, 1) := by decide +kernel
theorem dX7_readAll_28 : decode cX7_readAll 28 = .ok (.iload_n 1, 1) := by decide +kernel
theorem dX7_readAll_29 : decode cX7_readAll 29 = .ok (.aload_n 0, 1) := by decide +kernel
theorem dX7_readAll_30 : decode cX7_readAll 30 = .ok (.getfield 10, 3) := by decide +kernel
theorem dX7_readAll_33 : decode cX7_readAll 33 = .ok (.getfield 55, 3) := by decide +kernel
theorem dX7_readAll_36 : decode cX7_readAll 36 = .ok (.if_icmp .ge 87, 3) := by decide +kernel
theorem dX7_readAll_39 : decode cX7_readAll 39 = .ok (.aload_n 0, 1) := by decide +kernel
theorem dX7_readAll_40 : decode cX7_readAll 40 = .ok (.getfield 30, 3) := by decide +kernel
theorem dX7_readAll_43 : decode cX7_readAll 43 = .ok (.iload_n 1, 1) := by decide +kernel
theorem dX7_readAll_44 : decode cX7_readAll 44 = .ok (.iconst 0, 1) := by decide +kernel
theorem dX7_readAll_45 : decode cX7_readAll 45 = .ok (.iastore, 1) := by decide +kernel
theorem dX7_readAll_46 : decode cX7_readAll 46 = .ok (.aload_n 0, 1) := by decide +kernel
theorem dX7_readAll_47 : decode cX7_readAll 47 = .ok (.getfield 10, 3) := by decide +kernel
theorem dX7_readAll_50 : decode cX7_readAll 50 = .ok (.getfield 105, 3) := by decide +kernel
theorem dX7_readAll_53 : decode cX7_readAll 53 = .ok (.iload_n 1, 1) := by decide +kernel
