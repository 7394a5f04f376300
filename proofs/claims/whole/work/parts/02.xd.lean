theorem dX7_readAll_54 : decode cX7_readAll 54 = .ok (.iaload, 1) := by decide +kernel
theorem dX7_readAll_55 : decode cX7_readAll 55 = .ok (.invokestatic 42, 3) := by decide +kernel
theorem dX7_readAll_58 : decode cX7_readAll 58 = .ok (.ifCond .eq 59, 3) := by decide +kernel
theorem dX7_readAll_61 : decode cX7_readAll 61 = .ok (.aload_n 0, 1) := by decide +kernel
theorem dX7_readAll_62 : decode cX7_readAll 62 = .ok (.getfield 30, 3) := by decide +kernel
theorem dX7_readAll_65 : decode cX7_readAll 65 = .ok (.iload_n 1, 1) := by decide +kernel
theorem dX7_readAll_66 : decode cX7_readAll 66 = .ok (.aload_n 0, 1) := by decide +kernel
theorem dX7_readAll_67 : decode cX7_readAll 67 = .ok (.iload_n 1, 1) := by decide +kernel
theorem dX7_readAll_68 : decode cX7_readAll 68 = .ok (.invokevirtual 245, 3) := by decide +kernel
theorem dX7_readAll_71 : decode cX7_readAll 71 = .ok (.iastore, 1) := by decide +kernel
theorem dX7_readAll_72 : decode cX7_readAll 72 = .ok (.iconst 0, 1) := by decide +kernel
theorem dX7_readAll_73 : decode cX7_readAll 73 = .ok (.istore_n 2, 1) := by decide +kernel
theorem dX7_readAll_74 : decode cX7_readAll 74 = .ok (.iload_n 2, 1) := by decide +kernel
theorem dX7_readAll_75 : decode cX7_readAll 75 = .ok (.bipush 16, 2) := by decide +kernel
theorem dX7_readAll_77 : decode cX7_readAll 77 = .ok (.if_icmp .ge 40, 3) := by decide +kernel
theorem dX7_readAll_80 : decode cX7_readAll 80 = .ok (.aload_n 0, 1) := by decide +kernel
theorem dX7_readAll_81 : decode cX7_readAll 81 = .ok (.iload_n 2, 1) := by decide +kernel
theorem dX7_readAll_82 : decode cX7_readAll 82 = .ok (.iload_n 1, 1) := by decide +kernel
theorem dX7_readAll_83 : decode cX7_readAll 83 = .ok (.invokevirtual 248, 3) := by decide +kernel
theorem dX7_readAll_86 : decode cX7_readAll 86 = .ok (.ifCond .eq 25, 3) := by decide +kernel
theorem dX7_readAll_89 : decode cX7_readAll 89 = .ok (.aload_n 0, 1) := by decide +kernel
theorem dX7_readAll_90 : decode cX7_readAll 90 = .ok (.getfield 25, 3) := by decide +kernel
theorem dX7_readAll_93 : decode cX7_readAll 93 = .ok (.iload_n 2, 1) := by decide +kernel
theorem dX7_readAll_94 : decode cX7_readAll 94 = .ok (.aaload, 1) := by decide +kernel
theorem dX7_readAll_95 : decode cX7_readAll 95 = .ok (.getfield 148, 3) := by decide +kernel
theorem dX7_readAll_98 : decode cX7_readAll 98 = .ok (.aload_n 0, 1) := by decide +kernel
theorem dX7_readAll_99 : decode cX7_readAll 99 = .ok (.getfield 10, 3) := by decide +kernel
theorem dX7_readAll_102 : decode cX7_readAll 102 = .ok (.getfield 105, 3) := by decide +kernel
theorem dX7_readAll_105 : decode cX7_readAll 105 = .ok (.iload_n 1, 1) := by decide +kernel
theorem dX7_readAll_106 : decode cX7_readAll 106 = .ok (.iaload, 1) := by decide +kernel
theorem dX7_readAll_107 : decode cX7_readAll 107 = .ok (.iload_n 1, 1) := by decide +kernel
theorem dX7_readAll_108 : decode cX7_readAll 108 = .ok (.invokevirtual 251, 3) := by decide +kernel
theorem dX7_readAll_111 : decode cX7_readAll 111 = .ok (.iinc 2 1, 3) := by decide +kernel
theorem dX7_readAll_114 : decode cX7_readAll 114 = .ok (.goto (-40), 3) := by decide +kernel
theorem dX7_readAll_117 : decode cX7_readAll 117 = .ok (.iinc 1 1, 3) := by decide +kernel
theorem dX7_readAll_120 : decode cX7_readAll 120 = .ok (.goto (-92), 3) := by decide +kernel
theorem dX7_readAll_123 : decode cX7_readAll 123 = .ok (.iconst 0, 1) := by decide +kernel
theorem dX7_readAll_124 : decode cX7_readAll 124 = .ok (.istore_n 1, 1) := by decide +kernel
theorem dX7_readAll_125 : decode cX7_readAll 125 = .ok (.iload_n 1, 1) := by decide +kernel
theorem dX7_readAll_126 : decode cX7_readAll 126 = .ok (.bipush 16, 2) := by decide +kernel
theorem dX7_readAll_128 : decode cX7_readAll 128 = .ok (.if_icmp .ge 28, 3) := by decide +kernel
theorem dX7_readAll_131 : decode cX7_readAll 131 = .ok (.aload_n 0, 1) := by decide +kernel
theorem dX7_readAll_132 : decode cX7_readAll 132 = .ok (.getfield 25, 3) := by decide +kernel
theorem dX7_readAll_135 : decode cX7_readAll 135 = .ok (.iload_n 1, 1) := by decide +kernel
theorem dX7_readAll_136 : decode cX7_readAll 136 = .ok (.aaload, 1) := by decide +kernel
theorem dX7_readAll_137 : decode cX7_readAll 137 = .ok (.getfield 148, 3) := by decide +kernel
theorem dX7_readAll_140 : decode cX7_readAll 140 = .ok (.aload_n 0, 1) := by decide +kernel
theorem dX7_readAll_141 : decode cX7_readAll 141 = .ok (.getfield 10, 3) := by decide +kernel
theorem dX7_readAll_144 : decode cX7_readAll 144 = .ok (.getfield 55, 3) := by decide +kernel
theorem dX7_readAll_147 : decode cX7_readAll 147 = .ok (.invokevirtual 254, 3) := by decide +kernel
theorem dX7_readAll_150 : decode cX7_readAll 150 = .ok (.iinc 1 1, 3) := by decide +kernel
theorem dX7_readAll_153 : decode cX7_readAll 153 = .ok (.goto (-28), 3) := by decide +kernel
theorem dX7_readAll_156 : decode cX7_readAll 156 = .ok (.return_, 1) := by decide +kernel
theorem dX7_runAll_0 : decode cX7_runAll 0 = .ok (.iconst 0, 1) := by decide +kernel
theorem dX7_runAll_1 : decode cX7_runAll 1 = .ok (.istore_n 1, 1) := by decide +kernel
theorem dX7_runAll_2 : decode cX7_runAll 2 = .ok (.iload_n 1, 1) := by decide +kernel
theorem dX7_runAll_3 : decode cX7_runAll 3 = .ok (.bipush 16, 2) := by decide +kernel
theorem dX7_runAll_5 : decode cX7_runAll 5 = .ok (.if_icmp .ge 55, 3) := by decide +kernel
theorem dX7_runAll_8 : decode cX7_runAll 8 = .ok (.aload_n 0, 1) := by decide +kernel
theorem dX7_runAll_9 : decode cX7_runAll 9 = .ok (.getfield 25, 3) := by decide +kernel
theorem dX7_runAll_12 : decode cX7_runAll 12 = .ok (.iload_n 1, 1) := by decide +kernel
theorem dX7_runAll_13 : decode cX7_runAll 13 = .ok (.aaload, 1) := by decide +kernel
theorem dX7_runAll_14 : decode cX7_runAll 14 = .ok (.getfield 148, 3) := by decide +kernel
theorem dX7_runAll_17 : decode cX7_runAll 17 = .ok (.getfield 152, 3) := by decide +kernel
theorem dX7_runAll_20 : decode cX7_runAll 20 = .ok (.iconst (-1), 1) := by decide +kernel
theorem dX7_runAll_21 : decode cX7_runAll 21 = .ok (.if_icmp .ne 33, 3) := by decide +kernel
theorem dX7_runAll_24 : decode cX7_runAll 24 = .ok (.aload_n 0, 1) := by decide +kernel
theorem dX7_runAll_25 : decode cX7_runAll 25 = .ok (.getfield 25, 3) := by decide +kernel
theorem dX7_runAll_28 : decode cX7_runAll 28 = .ok (.iload_n 1, 1) := by decide +kernel
theorem dX7_runAll_29 : decode cX7_runAll 29 = .ok (.aaload, 1) := by decide +kernel
theorem dX7_runAll_30 : decode cX7_runAll 30 = .ok (.getfield 169, 3) := by decide +kernel
theorem dX7_runAll_33 : decode cX7_runAll 33 = .ok (.aload_n 0, 1) := by decide +kernel
theorem dX7_runAll_34 : decode cX7_runAll 34 = .ok (.getfield 25, 3) := by decide +kernel
theorem dX7_runAll_37 : decode cX7_runAll 37 = .ok (.iload_n 1, 1) := by decide +kernel
theorem dX7_runAll_38 : decode cX7_runAll 38 = .ok (.aaload, 1) := by decide +kernel
theorem dX7_runAll_39 : decode cX7_runAll 39 = .ok (.getfield 257, 3) := by decide +kernel
theorem dX7_runAll_42 : decode cX7_runAll 42 = .ok (.aload_n 0, 1) := by decide +kernel
theorem dX7_runAll_43 : decode cX7_runAll 43 = .ok (.getfield 25, 3) := by decide +kernel
theorem dX7_runAll_46 : decode cX7_runAll 46 = .ok (.iload_n 1, 1) := by decide +kernel
theorem dX7_runAll_47 : decode cX7_runAll 47 = .ok (.aaload, 1) := by decide +kernel
theorem dX7_runAll_48 : decode cX7_runAll 48 = .ok (.getfield 132, 3) := by decide +kernel
theorem dX7_runAll_51 : decode cX7_runAll 51 = .ok (.invokevirtual 260, 3) := by decide +kernel
theorem dX7_runAll_54 : decode cX7_runAll 54 = .ok (.iinc 1 1, 3) := by decide +kernel
theorem dX7_runAll_57 : decode cX7_runAll 57 = .ok (.goto (-55), 3) := by decide +kernel
theorem dX7_runAll_60 : decode cX7_runAll 60 = .ok (.return_, 1) := by decide +kernel
theorem dX7_isReadBy_0 : decode cX7_isReadBy 0 = .ok (.aload_n 0, 1) := by decide +kernel
theorem dX7_isReadBy_1 : decode cX7_isReadBy 1 = .ok (.getfield 19, 3) := by decide +kernel
theorem dX7_isReadBy_4 : decode cX7_isReadBy 4 = .ok (.iload_n 2, 1) := by decide +kernel
theorem dX7_isReadBy_5 : decode cX7_isReadBy 5 = .ok (.iload_n 1, 1) := by decide +kernel
theorem dX7_isReadBy_6 : decode cX7_isReadBy 6 = .ok (.invokevirtual 237, 3) := by decide +kernel
theorem dX7_isReadBy_9 : decode cX7_isReadBy 9 = .ok (.ifCond .eq 23, 3) := by decide +kernel
theorem dX7_isReadBy_12 : decode cX7_isReadBy 12 = .ok (.aload_n 0, 1) := by decide +kernel
theorem dX7_isReadBy_13 : decode cX7_isReadBy 13 = .ok (.getfield 25, 3) := by decide +kernel
theorem dX7_isReadBy_16 : decode cX7_isReadBy 16 = .ok (.iload_n 1, 1) := by decide +kernel
theorem dX7_isReadBy_17 : decode cX7_isReadBy 17 = .ok (.aaload, 1) := by decide +kernel
theorem dX7_isReadBy_18 : decode cX7_isReadBy 18 = .ok (.getfield 148, 3) := by decide +kernel
theorem dX7_isReadBy_21 : decode cX7_isReadBy 21 = .ok (.getfield 152, 3) := by decide +kernel
theorem dX7_isReadBy_24 : decode cX7_isReadBy 24 = .ok (.iconst (-1), 1) := by decide +kernel
theorem dX7_isReadBy_25 : decode cX7_isReadBy 25 = .ok (.if_icmp .ne 7, 3) := by decide +kernel
theorem dX7_isReadBy_28 : decode cX7_isReadBy 28 = .ok (.iconst 1, 1) := by decide +kernel
theorem dX7_isReadBy_29 : decode cX7_isReadBy 29 = .ok (.goto 4, 3) := by decide +kernel
theorem dX7_isReadBy_32 : decode cX7_isReadBy 32 = .ok (.iconst 0, 1) := by decide +kernel
theorem dX7_isReadBy_33 : decode cX7_isReadBy 33 = .ok (.ireturn, 1) := by decide +kernel
theorem dX7_countGroups_0 : decode cX7_countGroups 0 = .ok (.iconst 0, 1) := by decide +kernel
theorem dX7_countGroups_1 : decode cX7_countGroups 1 = .ok (.istore_n 2, 1) := by decide +kernel
theorem dX7_countGroups_2 : decode cX7_countGroups 2 = .ok (.iconst 0, 1) := by decide +kernel
theorem dX7_countGroups_3 : decode cX7_countGroups 3 = .ok (.istore_n 3, 1) := by decide +kernel
theorem dX7_countGroups_4 : decode cX7_countGroups 4 = .ok (.iload_n 3, 1) := by decide +kernel
theorem dX7_countGroups_5 : decode cX7_countGroups 5 = .ok (.bipush 16, 2) := by decide +kernel
theorem dX7_countGroups_7 : decode cX7_countGroups 7 = .ok (.if_icmp .ge 30, 3) := by decide +kernel
theorem dX7_countGroups_10 : decode cX7_countGroups 10 = .ok (.aload_n 0, 1) := by decide +kernel
theorem dX7_countGroups_11 : decode cX7_countGroups 11 = .ok (.iload_n 3, 1) := by decide +kernel
theorem dX7_countGroups_12 : decode cX7_countGroups 12 = .ok (.iload_n 1, 1) := by decide +kernel
theorem dX7_countGroups_13 : decode cX7_countGroups 13 = .ok (.invokevirtual 248, 3) := by decide +kernel
theorem dX7_countGroups_16 : decode cX7_countGroups 16 = .ok (.ifCond .eq 15, 3) := by decide +kernel
theorem dX7_countGroups_19 : decode cX7_countGroups 19 = .ok (.aload_n 0, 1) := by decide +kernel
theorem dX7_countGroups_20 : decode cX7_countGroups 20 = .ok (.iload_n 3, 1) := by decide +kernel
theorem dX7_countGroups_21 : decode cX7_countGroups 21 = .ok (.iload_n 1, 1) := by decide +kernel
theorem dX7_countGroups_22 : decode cX7_countGroups 22 = .ok (.invokevirtual 264, 3) := by decide +kernel
theorem dX7_countGroups_25 : decode cX7_countGroups 25 = .ok (.ifCond .eq 6, 3) := by decide +kernel
theorem dX7_countGroups_28 : decode cX7_countGroups 28 = .ok (.iinc 2 1, 3) := by decide +kernel
theorem dX7_countGroups_31 : decode cX7_countGroups 31 = .ok (.iinc 3 1, 3) := by decide +kernel
theorem dX7_countGroups_34 : decode cX7_countGroups 34 = .ok (.goto (-30), 3) := by decide +kernel
theorem dX7_countGroups_37 : decode cX7_countGroups 37 = .ok (.iload_n 2, 1) := by decide +kernel
theorem dX7_countGroups_38 : decode cX7_countGroups 38 = .ok (.ireturn, 1) := by decide +kernel
theorem dX7_isFirstOfItsGroup_0 : decode cX7_isFirstOfItsGroup 0 = .ok (.aload_n 0, 1) := by decide +kernel
theorem dX7_isFirstOfItsGroup_1 : decode cX7_isFirstOfItsGroup 1 = .ok (.getfield 25, 3) := by decide +kernel
theorem dX7_isFirstOfItsGroup_4 : decode cX7_isFirstOfItsGroup 4 = .ok (.iload_n 1, 1) := by decide +kernel
theorem dX7_isFirstOfItsGroup_5 : decode cX7_isFirstOfItsGroup 5 = .ok (.aaload, 1) := by decide +kernel
theorem dX7_isFirstOfItsGroup_6 : decode cX7_isFirstOfItsGroup 6 = .ok (.getfield 148, 3) := by decide +kernel
theorem dX7_isFirstOfItsGroup_9 : decode cX7_isFirstOfItsGroup 9 = .ok (.astore_n 3, 1) := by decide +kernel
theorem dX7_isFirstOfItsGroup_10 : decode cX7_isFirstOfItsGroup 10 = .ok (.iconst 0, 1) := by decide +kernel
theorem dX7_isFirstOfItsGroup_11 : decode cX7_isFirstOfItsGroup 11 = .ok (.istore 4, 2) := by decide +kernel
theorem dX7_isFirstOfItsGroup_13 : decode cX7_isFirstOfItsGroup 13 = .ok (.iload 4, 2) := by decide +kernel
theorem dX7_isFirstOfItsGroup_15 : decode cX7_isFirstOfItsGroup 15 = .ok (.iload_n 1, 1) := by decide +kernel
theorem dX7_isFirstOfItsGroup_16 : decode cX7_isFirstOfItsGroup 16 = .ok (.if_icmp .ge 38, 3) := by decide +kernel
theorem dX7_isFirstOfItsGroup_19 : decode cX7_isFirstOfItsGroup 19 = .ok (.aload_n 0, 1) := by decide +kernel
theorem dX7_isFirstOfItsGroup_20 : decode cX7_isFirstOfItsGroup 20 = .ok (.iload 4, 2) := by decide +kernel
theorem dX7_isFirstOfItsGroup_22 : decode cX7_isFirstOfItsGroup 22 = .ok (.iload_n 2, 1) := by decide +kernel
theorem dX7_isFirstOfItsGroup_23 : decode cX7_isFirstOfItsGroup 23 = .ok (.invokevirtual 248, 3) := by decide +kernel
theorem dX7_isFirstOfItsGroup_26 : decode cX7_isFirstOfItsGroup 26 = .ok (.ifCond .eq 22, 3) := by decide +kernel
theorem dX7_isFirstOfItsGroup_29 : decode cX7_isFirstOfItsGroup 29 = .ok (.aload_n 3, 1) := by decide +kernel
theorem dX7_isFirstOfItsGroup_30 : decode cX7_isFirstOfItsGroup 30 = .ok (.aload_n 0, 1) := by decide +kernel
theorem dX7_isFirstOfItsGroup_31 : decode cX7_isFirstOfItsGroup 31 = .ok (.getfield 25, 3) := by decide +kernel
theorem dX7_isFirstOfItsGroup_34 : decode cX7_isFirstOfItsGroup 34 = .ok (.iload 4, 2) := by decide +kernel
theorem dX7_isFirstOfItsGroup_36 : decode cX7_isFirstOfItsGroup 36 = .ok (.aaload, 1) := by decide +kernel
theorem dX7_isFirstOfItsGroup_37 : decode cX7_isFirstOfItsGroup 37 = .ok (.getfield 148, 3) := by decide +kernel
theorem dX7_isFirstOfItsGroup_40 : decode cX7_isFirstOfItsGroup 40 = .ok (.invokevirtual 267, 3) := by decide +kernel
theorem dX7_isFirstOfItsGroup_43 : decode cX7_isFirstOfItsGroup 43 = .ok (.ifCond .eq 5, 3) := by decide +kernel
theorem dX7_isFirstOfItsGroup_46 : decode cX7_isFirstOfItsGroup 46 = .ok (.iconst 0, 1) := by decide +kernel
theorem dX7_isFirstOfItsGroup_47 : decode cX7_isFirstOfItsGroup 47 = .ok (.ireturn, 1) := by decide +kernel
theorem dX7_isFirstOfItsGroup_48 : decode cX7_isFirstOfItsGroup 48 = .ok (.iinc 4 1, 3) := by decide +kernel
theorem dX7_isFirstOfItsGroup_51 : decode cX7_isFirstOfItsGroup 51 = .ok (.goto (-38), 3) := by decide +kernel
theorem dX7_isFirstOfItsGroup_54 : decode cX7_isFirstOfItsGroup 54 = .ok (.iconst 1, 1) := by decide +kernel
theorem dX7_isFirstOfItsGroup_55 : decode cX7_isFirstOfItsGroup 55 = .ok (.ireturn, 1) := by decide +kernel
theorem dX7_isFirstOfItsText_0 : decode cX7_isFirstOfItsText 0 = .ok (.iconst 0, 1) := by decide +kernel
theorem dX7_isFirstOfItsText_1 : decode cX7_isFirstOfItsText 1 = .ok (.istore_n 2, 1) := by decide +kernel
theorem dX7_isFirstOfItsText_2 : decode cX7_isFirstOfItsText 2 = .ok (.iload_n 2, 1) := by decide +kernel
theorem dX7_isFirstOfItsText_3 : decode cX7_isFirstOfItsText 3 = .ok (.iload_n 1, 1) := by decide +kernel
theorem dX7_isFirstOfItsText_4 : decode cX7_isFirstOfItsText 4 = .ok (.if_icmp .ge 29, 3) := by decide +kernel
theorem dX7_isFirstOfItsText_7 : decode cX7_isFirstOfItsText 7 = .ok (.aload_n 0, 1) := by decide +kernel
theorem dX7_isFirstOfItsText_8 : decode cX7_isFirstOfItsText 8 = .ok (.getfield 25, 3) := by decide +kernel
theorem dX7_isFirstOfItsText_11 : decode cX7_isFirstOfItsText 11 = .ok (.iload_n 1, 1) := by decide +kernel
theorem dX7_isFirstOfItsText_12 : decode cX7_isFirstOfItsText 12 = .ok (.aaload, 1) := by decide +kernel
theorem dX7_isFirstOfItsText_13 : decode cX7_isFirstOfItsText 13 = .ok (.aload_n 0, 1) := by decide +kernel
theorem dX7_isFirstOfItsText_14 : decode cX7_isFirstOfItsText 14 = .ok (.getfield 25, 3) := by decide +kernel
theorem dX7_isFirstOfItsText_17 : decode cX7_isFirstOfItsText 17 = .ok (.iload_n 2, 1) := by decide +kernel
theorem dX7_isFirstOfItsText_18 : decode cX7_isFirstOfItsText 18 = .ok (.aaload, 1) := by decide +kernel
theorem dX7_isFirstOfItsText_19 : decode cX7_isFirstOfItsText 19 = .ok (.invokevirtual 271, 3) := by decide +kernel
theorem dX7_isFirstOfItsText_22 : decode cX7_isFirstOfItsText 22 = .ok (.ifCond .eq 5, 3) := by decide +kernel
theorem dX7_isFirstOfItsText_25 : decode cX7_isFirstOfItsText 25 = .ok (.iconst 0, 1) := by decide +kernel
theorem dX7_isFirstOfItsText_26 : decode cX7_isFirstOfItsText 26 = .ok (.ireturn, 1) := by decide +kernel
theorem dX7_isFirstOfItsText_27 : decode cX7_isFirstOfItsText 27 = .ok (.iinc 2 1, 3) := by decide +kernel
theorem dX7_isFirstOfItsText_30 : decode cX7_isFirstOfItsText 30 = .ok (.goto (-28), 3) := by decide +kernel
theorem dX7_isFirstOfItsText_33 : decode cX7_isFirstOfItsText 33 = .ok (.iconst 1, 1) := by decide +kernel
theorem dX7_isFirstOfItsText_34 : decode cX7_isFirstOfItsText 34 = .ok (.ireturn, 1) := by decide +kernel
theorem dX7_isFirstOfItsBehaviour_0 : decode cX7_isFirstOfItsBehaviour 0 = .ok (.aload_n 0, 1) := by decide +kernel
theorem dX7_isFirstOfItsBehaviour_1 : decode cX7_isFirstOfItsBehaviour 1 = .ok (.getfield 25, 3) := by decide +kernel
theorem dX7_isFirstOfItsBehaviour_4 : decode cX7_isFirstOfItsBehaviour 4 = .ok (.iload_n 1, 1) := by decide +kernel
theorem dX7_isFirstOfItsBehaviour_5 : decode cX7_isFirstOfItsBehaviour 5 = .ok (.aaload, 1) := by decide +kernel
theorem dX7_isFirstOfItsBehaviour_6 : decode cX7_isFirstOfItsBehaviour 6 = .ok (.getfield 169, 3) := by decide +kernel
theorem dX7_isFirstOfItsBehaviour_9 : decode cX7_isFirstOfItsBehaviour 9 = .ok (.astore_n 2, 1) := by decide +kernel
theorem dX7_isFirstOfItsBehaviour_10 : decode cX7_isFirstOfItsBehaviour 10 = .ok (.iconst 0, 1) := by decide +kernel
theorem dX7_isFirstOfItsBehaviour_11 : decode cX7_isFirstOfItsBehaviour 11 = .ok (.istore_n 3, 1) := by decide +kernel
theorem dX7_isFirstOfItsBehaviour_12 : decode cX7_isFirstOfItsBehaviour 12 = .ok (.iload_n 3, 1) := by decide +kernel
theorem dX7_isFirstOfItsBehaviour_13 : decode cX7_isFirstOfItsBehaviour 13 = .ok (.iload_n 1, 1) := by decide +kernel
theorem dX7_isFirstOfItsBehaviour_14 : decode cX7_isFirstOfItsBehaviour 14 = .ok (.if_icmp .ge 43, 3) := by decide +kernel
theorem dX7_isFirstOfItsBehaviour_17 : decode cX7_isFirstOfItsBehaviour 17 = .ok (.aload_n 0, 1) := by decide +kernel
theorem dX7_isFirstOfItsBehaviour_18 : decode cX7_isFirstOfItsBehaviour 18 = .ok (.getfield 25, 3) := by decide +kernel
theorem dX7_isFirstOfItsBehaviour_21 : decode cX7_isFirstOfItsBehaviour 21 = .ok (.iload_n 3, 1) := by decide +kernel
theorem dX7_isFirstOfItsBehaviour_22 : decode cX7_isFirstOfItsBehaviour 22 = .ok (.aaload, 1) := by decide +kernel
theorem dX7_isFirstOfItsBehaviour_23 : decode cX7_isFirstOfItsBehaviour 23 = .ok (.getfield 148, 3) := by decide +kernel
theorem dX7_isFirstOfItsBehaviour_26 : decode cX7_isFirstOfItsBehaviour 26 = .ok (.getfield 152, 3) := by decide +kernel
theorem dX7_isFirstOfItsBehaviour_29 : decode cX7_isFirstOfItsBehaviour 29 = .ok (.iconst (-1), 1) := by decide +kernel
theorem dX7_isFirstOfItsBehaviour_30 : decode cX7_isFirstOfItsBehaviour 30 = .ok (.if_icmp .ne 21, 3) := by decide +kernel
theorem dX7_isFirstOfItsBehaviour_33 : decode cX7_isFirstOfItsBehaviour 33 = .ok (.aload_n 2, 1) := by decide +kernel
theorem dX7_isFirstOfItsBehaviour_34 : decode cX7_isFirstOfItsBehaviour 34 = .ok (.aload_n 0, 1) := by decide +kernel
theorem dX7_isFirstOfItsBehaviour_35 : decode cX7_isFirstOfItsBehaviour 35 = .ok (.getfield 25, 3) := by decide +kernel
theorem dX7_isFirstOfItsBehaviour_38 : decode cX7_isFirstOfItsBehaviour 38 = .ok (.iload_n 3, 1) := by decide +kernel
theorem dX7_isFirstOfItsBehaviour_39 : decode cX7_isFirstOfItsBehaviour 39 = .ok (.aaload, 1) := by decide +kernel
theorem dX7_isFirstOfItsBehaviour_40 : decode cX7_isFirstOfItsBehaviour 40 = .ok (.getfield 169, 3) := by decide +kernel
theorem dX7_isFirstOfItsBehaviour_43 : decode cX7_isFirstOfItsBehaviour 43 = .ok (.invokevirtual 275, 3) := by decide +kernel
theorem dX7_isFirstOfItsBehaviour_46 : decode cX7_isFirstOfItsBehaviour 46 = .ok (.ifCond .eq 5, 3) := by decide +kernel
theorem dX7_isFirstOfItsBehaviour_49 : decode cX7_isFirstOfItsBehaviour 49 = .ok (.iconst 0, 1) := by decide +kernel
theorem dX7_isFirstOfItsBehaviour_50 : decode cX7_isFirstOfItsBehaviour 50 = .ok (.ireturn, 1) := by decide +kernel
theorem dX7_isFirstOfItsBehaviour_51 : decode cX7_isFirstOfItsBehaviour 51 = .ok (.iinc 3 1, 3) := by decide +kernel
theorem dX7_isFirstOfItsBehaviour_54 : decode cX7_isFirstOfItsBehaviour 54 = .ok (.goto (-42), 3) := by decide +kernel
theorem dX7_isFirstOfItsBehaviour_57 : decode cX7_isFirstOfItsBehaviour 57 = .ok (.iconst 1, 1) := by decide +kernel
theorem dX7_isFirstOfItsBehaviour_58 : decode cX7_isFirstOfItsBehaviour 58 = .ok (.ireturn, 1) := by decide +kernel
theorem dX7_sumOfGroups_0 : decode cX7_sumOfGroups 0 = .ok (.iconst 0, 1) := by decide +kernel
theorem dX7_sumOfGroups_1 : decode cX7_sumOfGroups 1 = .ok (.istore_n 1, 1) := by decide +kernel
theorem dX7_sumOfGroups_2 : decode cX7_sumOfGroups 2 = .ok (.iconst 0, 1) := by decide +kernel
theorem dX7_sumOfGroups_3 : decode cX7_sumOfGroups 3 = .ok (.istore_n 2, 1) := by decide +kernel
theorem dX7_sumOfGroups_4 : decode cX7_sumOfGroups 4 = .ok (.iload_n 2, 1) := by decide +kernel
theorem dX7_sumOfGroups_5 : decode cX7_sumOfGroups 5 = .ok (.aload_n 0, 1) := by decide +kernel
theorem dX7_sumOfGroups_6 : decode cX7_sumOfGroups 6 = .ok (.getfield 10, 3) := by decide +kernel
theorem dX7_sumOfGroups_9 : decode cX7_sumOfGroups 9 = .ok (.getfield 55, 3) := by decide +kernel
theorem dX7_sumOfGroups_12 : decode cX7_sumOfGroups 12 = .ok (.if_icmp .ge 18, 3) := by decide +kernel
theorem dX7_sumOfGroups_15 : decode cX7_sumOfGroups 15 = .ok (.iload_n 1, 1) := by decide +kernel
theorem dX7_sumOfGroups_16 : decode cX7_sumOfGroups 16 = .ok (.aload_n 0, 1) := by decide +kernel
theorem dX7_sumOfGroups_17 : decode cX7_sumOfGroups 17 = .ok (.getfield 30, 3) := by decide +kernel
theorem dX7_sumOfGroups_20 : decode cX7_sumOfGroups 20 = .ok (.iload_n 2, 1) := by decide +kernel
theorem dX7_sumOfGroups_21 : decode cX7_sumOfGroups 21 = .ok (.iaload, 1) := by decide +kernel
theorem dX7_sumOfGroups_22 : decode cX7_sumOfGroups 22 = .ok (.iadd, 1) := by decide +kernel
theorem dX7_sumOfGroups_23 : decode cX7_sumOfGroups 23 = .ok (.istore_n 1, 1) := by decide +kernel
theorem dX7_sumOfGroups_24 : decode cX7_sumOfGroups 24 = .ok (.iinc 2 1, 3) := by decide +kernel
theorem dX7_sumOfGroups_27 : decode cX7_sumOfGroups 27 = .ok (.goto (-23), 3) := by decide +kernel
theorem dX7_sumOfGroups_30 : decode cX7_sumOfGroups 30 = .ok (.iload_n 1, 1) := by decide +kernel
theorem dX7_sumOfGroups_31 : decode cX7_sumOfGroups 31 = .ok (.ireturn, 1) := by decide +kernel
theorem dX7_mix_0 : decode cX7_mix 0 = .ok (.lload_n 0, 1) := by decide +kernel
theorem dX7_mix_1 : decode cX7_mix 1 = .ok (.ldc2_w 279, 3) := by decide +kernel
theorem dX7_mix_4 : decode cX7_mix 4 = .ok (.lmul, 1) := by decide +kernel
theorem dX7_mix_5 : decode cX7_mix 5 = .ok (.lload_n 2, 1) := by decide +kernel
theorem dX7_mix_6 : decode cX7_mix 6 = .ok (.ladd, 1) := by decide +kernel
theorem dX7_mix_7 : decode cX7_mix 7 = .ok (.lreturn, 1) := by decide +kernel
theorem dX7_mixVariant_0 : decode cX7_mixVariant 0 = .ok (.lload_n 0, 1) := by decide +kernel
theorem dX7_mixVariant_1 : decode cX7_mixVariant 1 = .ok (.aload_n 2, 1) := by decide +kernel
theorem dX7_mixVariant_2 : decode cX7_mixVariant 2 = .ok (.getfield 148, 3) := by decide +kernel
theorem dX7_mixVariant_5 : decode cX7_mixVariant 5 = .ok (.getfield 152, 3) := by decide +kernel
theorem dX7_mixVariant_8 : decode cX7_mixVariant 8 = .ok (.i2l, 1) := by decide +kernel
theorem dX7_mixVariant_9 : decode cX7_mixVariant 9 = .ok (.invokestatic 193, 3) := by decide +kernel
theorem dX7_mixVariant_12 : decode cX7_mixVariant 12 = .ok (.lstore_n 3, 1) := by decide +kernel
theorem dX7_mixVariant_13 : decode cX7_mixVariant 13 = .ok (.aload_n 2, 1) := by decide +kernel
theorem dX7_mixVariant_14 : decode cX7_mixVariant 14 = .ok (.getfield 148, 3) := by decide +kernel
theorem dX7_mixVariant_17 : decode cX7_mixVariant 17 = .ok (.getfield 152, 3) := by decide +kernel
theorem dX7_mixVariant_20 : decode cX7_mixVariant 20 = .ok (.iconst (-1), 1) := by decide +kernel
theorem dX7_mixVariant_21 : decode cX7_mixVariant 21 = .ok (.if_icmp .ne 53, 3) := by decide +kernel
theorem dX7_mixVariant_24 : decode cX7_mixVariant 24 = .ok (.aload_n 2, 1) := by decide +kernel
theorem dX7_mixVariant_25 : decode cX7_mixVariant 25 = .ok (.getfield 169, 3) := by decide +kernel
theorem dX7_mixVariant_28 : decode cX7_mixVariant 28 = .ok (.astore 5, 2) := by decide +kernel
theorem dX7_mixVariant_30 : decode cX7_mixVariant 30 = .ok (.lload_n 3, 1) := by decide +kernel
theorem dX7_mixVariant_31 : decode cX7_mixVariant 31 = .ok (.aload 5, 2) := by decide +kernel
theorem dX7_mixVariant_33 : decode cX7_mixVariant 33 = .ok (.getfield 173, 3) := by decide +kernel
theorem dX7_mixVariant_36 : decode cX7_mixVariant 36 = .ok (.i2l, 1) := by decide +kernel
theorem dX7_mixVariant_37 : decode cX7_mixVariant 37 = .ok (.invokestatic 193, 3) := by decide +kernel
theorem dX7_mixVariant_40 : decode cX7_mixVariant 40 = .ok (.lstore_n 3, 1) := by decide +kernel
theorem dX7_mixVariant_41 : decode cX7_mixVariant 41 = .ok (.iconst 0, 1) := by decide +kernel
theorem dX7_mixVariant_42 : decode cX7_mixVariant 42 = .ok (.istore 6, 2) := by decide +kernel
theorem dX7_mixVariant_44 : decode cX7_mixVariant 44 = .ok (.iload 6, 2) := by decide +kernel
theorem dX7_mixVariant_46 : decode cX7_mixVariant 46 = .ok (.aload 5, 2) := by decide +kernel
theorem dX7_mixVariant_48 : decode cX7_mixVariant 48 = .ok (.getfield 173, 3) := by decide +kernel
theorem dX7_mixVariant_51 : decode cX7_mixVariant 51 = .ok (.if_icmp .ge 23, 3) := by decide +kernel
theorem dX7_mixVariant_54 : decode cX7_mixVariant 54 = .ok (.lload_n 3, 1) := by decide +kernel
theorem dX7_mixVariant_55 : decode cX7_mixVariant 55 = .ok (.aload 5, 2) := by decide +kernel
theorem dX7_mixVariant_57 : decode cX7_mixVariant 57 = .ok (.getfield 180, 3) := by decide +kernel
theorem dX7_mixVariant_60 : decode cX7_mixVariant 60 = .ok (.iload 6, 2) := by decide +kernel
theorem dX7_mixVariant_62 : decode cX7_mixVariant 62 = .ok (.iaload, 1) := by decide +kernel
theorem dX7_mixVariant_63 : decode cX7_mixVariant 63 = .ok (.i2l, 1) := by decide +kernel
theorem dX7_mixVariant_64 : decode cX7_mixVariant 64 = .ok (.invokestatic 193, 3) := by decide +kernel
theorem dX7_mixVariant_67 : decode cX7_mixVariant 67 = .ok (.lstore_n 3, 1) := by decide +kernel
theorem dX7_mixVariant_68 : decode cX7_mixVariant 68 = .ok (.iinc 6 1, 3) := by decide +kernel
theorem dX7_mixVariant_71 : decode cX7_mixVariant 71 = .ok (.goto (-27), 3) := by decide +kernel
theorem dX7_mixVariant_74 : decode cX7_mixVariant 74 = .ok (.lload_n 3, 1) := by decide +kernel
theorem dX7_mixVariant_75 : decode cX7_mixVariant 75 = .ok (.lreturn, 1) := by decide +kernel
theorem dX8_init_0 : decode cX8_init 0 = .ok (.aload_n 0, 1) := by decide +kernel
theorem dX8_init_1 : decode cX8_init 1 = .ok (.invokespecial 1, 3) := by decide +kernel
theorem dX8_init_4 : decode cX8_init 4 = .ok (.aload_n 0, 1) := by decide +kernel
theorem dX8_init_5 : decode cX8_init 5 = .ok (.bipush 80, 2) := by decide +kernel
theorem dX8_init_7 : decode cX8_init 7 = .ok (.newarray .int, 2) := by decide +kernel
theorem dX8_init_9 : decode cX8_init 9 = .ok (.putfield 9, 3) := by decide +kernel
theorem dX8_init_12 : decode cX8_init 12 = .ok (.aload_n 0, 1) := by decide +kernel
theorem dX8_init_13 : decode cX8_init 13 = .ok (.bipush 80, 2) := by decide +kernel
theorem dX8_init_15 : decode cX8_init 15 = .ok (.newarray .int, 2) := by decide +kernel
theorem dX8_init_17 : decode cX8_init 17 = .ok (.putfield 13, 3) := by decide +kernel
theorem dX8_init_20 : decode cX8_init 20 = .ok (.aload_n 0, 1) := by decide +kernel
theorem dX8_init_21 : decode cX8_init 21 = .ok (.sipush 320, 3) := by decide +kernel
theorem dX8_init_24 : decode cX8_init 24 = .ok (.newarray .int, 2) := by decide +kernel
theorem dX8_init_26 : decode cX8_init 26 = .ok (.putfield 16, 3) := by decide +kernel
theorem dX8_init_29 : decode cX8_init 29 = .ok (.aload_n 0, 1) := by decide +kernel
theorem dX8_init_30 : decode cX8_init 30 = .ok (.sipush 6400, 3) := by decide +kernel
theorem dX8_init_33 : decode cX8_init 33 = .ok (.newarray .int, 2) := by decide +kernel
theorem dX8_init_35 : decode cX8_init 35 = .ok (.putfield 19, 3) := by decide +kernel
theorem dX8_init_38 : decode cX8_init 38 = .ok (.aload_n 0, 1) := by decide +kernel
theorem dX8_init_39 : decode cX8_init 39 = .ok (.bipush 16, 2) := by decide +kernel
theorem dX8_init_41 : decode cX8_init 41 = .ok (.newarray .int, 2) := by decide +kernel
theorem dX8_init_43 : decode cX8_init 43 = .ok (.putfield 22, 3) := by decide +kernel
theorem dX8_init_46 : decode cX8_init 46 = .ok (.aload_n 0, 1) := by decide +kernel
theorem dX8_init_47 : decode cX8_init 47 = .ok (.bipush 16, 2) := by decide +kernel
theorem dX8_init_49 : decode cX8_init 49 = .ok (.newarray .int, 2) := by decide +kernel
theorem dX8_init_51 : decode cX8_init 51 = .ok (.putfield 25, 3) := by decide +kernel
theorem dX8_init_54 : decode cX8_init 54 = .ok (.aload_n 0, 1) := by decide +kernel
theorem dX8_init_55 : decode cX8_init 55 = .ok (.bipush 80, 2) := by decide +kernel
theorem dX8_init_57 : decode cX8_init 57 = .ok (.newarray .int, 2) := by decide +kernel
theorem dX8_init_59 : decode cX8_init 59 = .ok (.putfield 28, 3) := by decide +kernel
theorem dX8_init_62 : decode cX8_init 62 = .ok (.aload_n 0, 1) := by decide +kernel
theorem dX8_init_63 : decode cX8_init 63 = .ok (.sipush 1280, 3) := by decide +kernel
theorem dX8_init_66 : decode cX8_init 66 = .ok (.newarray .int, 2) := by decide +kernel
theorem dX8_init_68 : decode cX8_init 68 = .ok (.putfield 31, 3) := by decide +kernel
theorem dX8_init_71 : decode cX8_init 71 = .ok (.aload_n 0, 1) := by decide +kernel
theorem dX8_init_72 : decode cX8_init 72 = .ok (.bipush 81, 2) := by decide +kernel
theorem dX8_init_74 : decode cX8_init 74 = .ok (.newarray .int, 2) := by decide +kernel
theorem dX8_init_76 : decode cX8_init 76 = .ok (.putfield 34, 3) := by decide +kernel
theorem dX8_init_79 : decode cX8_init 79 = .ok (.aload_n 0, 1) := by decide +kernel
theorem dX8_init_80 : decode cX8_init 80 = .ok (.iconst 4, 1) := by decide +kernel
theorem dX8_init_81 : decode cX8_init 81 = .ok (.newarray .int, 2) := by decide +kernel
theorem dX8_init_83 : decode cX8_init 83 = .ok (.putfield 37, 3) := by decide +kernel
theorem dX8_init_86 : decode cX8_init 86 = .ok (.aload_n 0, 1) := by decide +kernel
theorem dX8_init_87 : decode cX8_init 87 = .ok (.bipush 80, 2) := by decide +kernel
theorem dX8_init_89 : decode cX8_init 89 = .ok (.newarray .int, 2) := by decide +kernel
theorem dX8_init_91 : decode cX8_init 91 = .ok (.putfield 40, 3) := by decide +kernel
theorem dX8_init_94 : decode cX8_init 94 = .ok (.return_, 1) := by decide +kernel
theorem dX8_thrown_0 : decode cX8_thrown 0 = .ok (.aload_n 0, 1) := by decide +kernel
theorem dX8_thrown_1 : decode cX8_thrown 1 = .ok (.getfield 43, 3) := by decide +kernel
theorem dX8_thrown_4 : decode cX8_thrown 4 = .ok (.ireturn, 1) := by decide +kernel
theorem dX8_no_0 : decode cX8_no 0 = .ok (.aload_n 0, 1) := by decide +kernel
theorem dX8_no_1 : decode cX8_no 1 = .ok (.iload_n 1, 1) := by decide +kernel
theorem dX8_no_2 : decode cX8_no 2 = .ok (.putfield 43, 3) := by decide +kernel
theorem dX8_no_5 : decode cX8_no 5 = .ok (.iconst 0, 1) := by decide +kernel
theorem dX8_no_6 : decode cX8_no 6 = .ok (.ireturn, 1) := by decide +kernel
theorem dX8_isIn_0 : decode cX8_isIn 0 = .ok (.iload_n 0, 1) := by decide +kernel
theorem dX8_isIn_1 : decode cX8_isIn 1 = .ok (.iload_n 1, 1) := by decide +kernel
theorem dX8_isIn_2 : decode cX8_isIn 2 = .ok (.if_icmp .lt 12, 3) := by decide +kernel
theorem dX8_isIn_5 : decode cX8_isIn 5 = .ok (.iload_n 0, 1) := by decide +kernel
theorem dX8_isIn_6 : decode cX8_isIn 6 = .ok (.iload_n 2, 1) := by decide +kernel
theorem dX8_isIn_7 : decode cX8_isIn 7 = .ok (.if_icmp .gt 7, 3) := by decide +kernel
theorem dX8_isIn_10 : decode cX8_isIn 10 = .ok (.iconst 1, 1) := by decide +kernel
theorem dX8_isIn_11 : decode cX8_isIn 11 = .ok (.goto 4, 3) := by decide +kernel
theorem dX8_isIn_14 : decode cX8_isIn 14 = .ok (.iconst 0, 1) := by decide +kernel
theorem dX8_isIn_15 : decode cX8_isIn 15 = .ok (.ireturn, 1) := by decide +kernel
theorem dX8_has_0 : decode cX8_has 0 = .ok (.iload_n 0, 1) := by decide +kernel
theorem dX8_has_1 : decode cX8_has 1 = .ok (.iload_n 1, 1) := by decide +kernel
theorem dX8_has_2 : decode cX8_has 2 = .ok (.ishr, 1) := by decide +kernel
theorem dX8_has_3 : decode cX8_has 3 = .ok (.iconst 1, 1) := by decide +kernel
theorem dX8_has_4 : decode cX8_has 4 = .ok (.iand, 1) := by decide +kernel
theorem dX8_has_5 : decode cX8_has 5 = .ok (.iconst 1, 1) := by decide +kernel
theorem dX8_has_6 : decode cX8_has 6 = .ok (.if_icmp .ne 7, 3) := by decide +kernel
theorem dX8_has_9 : decode cX8_has 9 = .ok (.iconst 1, 1) := by decide +kernel
theorem dX8_has_10 : decode cX8_has 10 = .ok (.goto 4, 3) := by decide +kernel
theorem dX8_has_13 : decode cX8_has 13 = .ok (.iconst 0, 1) := by decide +kernel
theorem dX8_has_14 : decode cX8_has 14 = .ok (.ireturn, 1) := by decide +kernel
theorem dX8_isItem_0 : decode cX8_isItem 0 = .ok (.iload_n 1, 1) := by decide +kernel
theorem dX8_isItem_1 : decode cX8_isItem 1 = .ok (.iconst 0, 1) := by decide +kernel
theorem dX8_isItem_2 : decode cX8_isItem 2 = .ok (.aload_n 0, 1) := by decide +kernel
theorem dX8_isItem_3 : decode cX8_isItem 3 = .ok (.getfield 47, 3) := by decide +kernel
theorem dX8_isItem_6 : decode cX8_isItem 6 = .ok (.iconst 1, 1) := by decide +kernel
theorem dX8_isItem_7 : decode cX8_isItem 7 = .ok (.isub, 1) := by decide +kernel
theorem dX8_isItem_8 : decode cX8_isItem 8 = .ok (.invokestatic 50, 3) := by decide +kernel
theorem dX8_isItem_11 : decode cX8_isItem 11 = .ok (.ireturn, 1) := by decide +kernel
theorem dX8_isFeature_0 : decode cX8_isFeature 0 = .ok (.iload_n 0, 1) := by decide +kernel
theorem dX8_isFeature_1 : decode cX8_isFeature 1 = .ok (.iconst 0, 1) := by decide +kernel
theorem dX8_isFeature_2 : decode cX8_isFeature 2 = .ok (.iconst 3, 1) := by decide +kernel
theorem dX8_isFeature_3 : decode cX8_isFeature 3 = .ok (.invokestatic 50, 3) := by decide +kernel
theorem dX8_isFeature_6 : decode cX8_isFeature 6 = .ok (.ireturn, 1) := by decide +kernel
theorem dX8_isConfiguration_0 : decode cX8_isConfiguration 0 = .ok (.iload_n 0, 1) := by decide +kernel
theorem dX8_isConfiguration_1 : decode cX8_isConfiguration 1 = .ok (.iconst 0, 1) := by decide +kernel
theorem dX8_isConfiguration_2 : decode cX8_isConfiguration 2 = .ok (.bipush 15, 2) := by decide +kernel
theorem dX8_isConfiguration_4 : decode cX8_isConfiguration 4 = .ok (.invokestatic 50, 3) := by decide +kernel
theorem dX8_isConfiguration_7 : decode cX8_isConfiguration 7 = .ok (.ireturn, 1) := by decide +kernel
theorem dX8_isCharacter_0 : decode cX8_isCharacter 0 = .ok (.iload_n 0, 1) := by decide +kernel
theorem dX8_isCharacter_1 : decode cX8_isCharacter 1 = .ok (.ifCond .le 16, 3) := by decide +kernel
theorem dX8_isCharacter_4 : decode cX8_isCharacter 4 = .ok (.ldc 54, 2) := by decide +kernel
theorem dX8_isCharacter_6 : decode cX8_isCharacter 6 = .ok (.iload_n 0, 1) := by decide +kernel
theorem dX8_isCharacter_7 : decode cX8_isCharacter 7 = .ok (.invokevirtual 56, 3) := by decide +kernel
theorem dX8_isCharacter_10 : decode cX8_isCharacter 10 = .ok (.ifCond .lt 7, 3) := by decide +kernel
theorem dX8_isCharacter_13 : decode cX8_isCharacter 13 = .ok (.iconst 1, 1) := by decide +kernel
theorem dX8_isCharacter_14 : decode cX8_isCharacter 14 = .ok (.goto 4, 3) := by decide +kernel
theorem dX8_isCharacter_17 : decode cX8_isCharacter 17 = .ok (.iconst 0, 1) := by decide +kernel
theorem dX8_isCharacter_18 : decode cX8_isCharacter 18 = .ok (.ireturn, 1) := by decide +kernel
theorem dX8_isToken_0 : decode cX8_isToken 0 = .ok (.aload_n 0, 1) := by decide +kernel
theorem dX8_isToken_1 : decode cX8_isToken 1 = .ok (.getfield 9, 3) := by decide +kernel
theorem dX8_isToken_4 : decode cX8_isToken 4 = .ok (.iload_n 1, 1) := by decide +kernel
theorem dX8_isToken_5 : decode cX8_isToken 5 = .ok (.iaload, 1) := by decide +kernel
theorem dX8_isToken_6 : decode cX8_isToken 6 = .ok (.bipush 17, 2) := by decide +kernel
theorem dX8_isToken_8 : decode cX8_isToken 8 = .ok (.if_icmp .le 7, 3) := by decide +kernel
theorem dX8_isToken_11 : decode cX8_isToken 11 = .ok (.iconst 1, 1) := by decide +kernel
theorem dX8_isToken_12 : decode cX8_isToken 12 = .ok (.goto 4, 3) := by decide +kernel
theorem dX8_isToken_15 : decode cX8_isToken 15 = .ok (.iconst 0, 1) := by decide +kernel
theorem dX8_isToken_16 : decode cX8_isToken 16 = .ok (.ireturn, 1) := by decide +kernel
theorem dX8_append_0 : decode cX8_append 0 = .ok (.aload_n 0, 1) := by decide +kernel
theorem dX8_append_1 : decode cX8_append 1 = .ok (.getfield 9, 3) := by decide +kernel
theorem dX8_append_4 : decode cX8_append 4 = .ok (.aload_n 0, 1) := by decide +kernel
theorem dX8_append_5 : decode cX8_append 5 = .ok (.getfield 47, 3) := by decide +kernel
theorem dX8_append_8 : decode cX8_append 8 = .ok (.iload_n 1, 1) := by decide +kernel
theorem dX8_append_9 : decode cX8_append 9 = .ok (.iastore, 1) := by decide +kernel
theorem dX8_append_10 : decode cX8_append 10 = .ok (.aload_n 0, 1) := by decide +kernel
theorem dX8_append_11 : decode cX8_append 11 = .ok (.dup, 1) := by decide +kernel
theorem dX8_append_12 : decode cX8_append 12 = .ok (.getfield 47, 3) := by decide +kernel
theorem dX8_append_15 : decode cX8_append 15 = .ok (.iconst 1, 1) := by decide +kernel
theorem dX8_append_16 : decode cX8_append 16 = .ok (.iadd, 1) := by decide +kernel
theorem dX8_append_17 : decode cX8_append 17 = .ok (.putfield 47, 3) := by decide +kernel
theorem dX8_append_20 : decode cX8_append 20 = .ok (.aload_n 0, 1) := by decide +kernel
theorem dX8_append_21 : decode cX8_append 21 = .ok (.getfield 47, 3) := by decide +kernel
theorem dX8_append_24 : decode cX8_append 24 = .ok (.ireturn, 1) := by decide +kernel
theorem dX8_write_0 : decode cX8_write 0 = .ok (.aload_n 0, 1) := by decide +kernel
theorem dX8_write_1 : decode cX8_write 1 = .ok (.iconst 0, 1) := by decide +kernel
theorem dX8_write_2 : decode cX8_write 2 = .ok (.putfield 43, 3) := by decide +kernel
theorem dX8_write_5 : decode cX8_write 5 = .ok (.iconst 0, 1) := by decide +kernel
theorem dX8_write_6 : decode cX8_write 6 = .ok (.istore_n 3, 1) := by decide +kernel
theorem dX8_write_7 : decode cX8_write 7 = .ok (.bipush 56, 2) := by decide +kernel
theorem dX8_write_9 : decode cX8_write 9 = .ok (.istore 4, 2) := by decide +kernel
theorem dX8_write_11 : decode cX8_write 11 = .ok (.iload 4, 2) := by decide +kernel
theorem dX8_write_13 : decode cX8_write 13 = .ok (.ifCond .lt 52, 3) := by decide +kernel
theorem dX8_write_16 : decode cX8_write 16 = .ok (.lload_n 1, 1) := by decide +kernel
theorem dX8_write_17 : decode cX8_write 17 = .ok (.iload 4, 2) := by decide +kernel
theorem dX8_write_19 : decode cX8_write 19 = .ok (.lshr, 1) := by decide +kernel
theorem dX8_write_20 : decode cX8_write 20 = .ok (.ldc2_w 62, 3) := by decide +kernel
theorem dX8_write_23 : decode cX8_write 23 = .ok (.land, 1) := by decide +kernel
theorem dX8_write_24 : decode cX8_write 24 = .ok (.l2i, 1) := by decide +kernel
theorem dX8_write_25 : decode cX8_write 25 = .ok (.istore 5, 2) := by decide +kernel
theorem dX8_write_27 : decode cX8_write 27 = .ok (.iload 5, 2) := by decide +kernel
theorem dX8_write_29 : decode cX8_write 29 = .ok (.ifCond .eq 17, 3) := by decide +kernel
theorem dX8_write_32 : decode cX8_write 32 = .ok (.iload 5, 2) := by decide +kernel
theorem dX8_write_34 : decode cX8_write 34 = .ok (.invokestatic 64, 3) := by decide +kernel
theorem dX8_write_37 : decode cX8_write 37 = .ok (.ifCond .ne 9, 3) := by decide +kernel
theorem dX8_write_40 : decode cX8_write 40 = .ok (.aload_n 0, 1) := by decide +kernel
theorem dX8_write_41 : decode cX8_write 41 = .ok (.iconst 1, 1) := by decide +kernel
theorem dX8_write_42 : decode cX8_write 42 = .ok (.invokevirtual 68, 3) := by decide +kernel
theorem dX8_write_45 : decode cX8_write 45 = .ok (.ireturn, 1) := by decide +kernel
theorem dX8_write_46 : decode cX8_write 46 = .ok (.iload_n 3, 1) := by decide +kernel
theorem dX8_write_47 : decode cX8_write 47 = .ok (.iload 5, 2) := by decide +kernel
theorem dX8_write_49 : decode cX8_write 49 = .ok (.ifCond .ne 7, 3) := by decide +kernel
theorem dX8_write_52 : decode cX8_write 52 = .ok (.iconst 0, 1) := by decide +kernel
theorem dX8_write_53 : decode cX8_write 53 = .ok (.goto 4, 3) := by decide +kernel
theorem dX8_write_56 : decode cX8_write 56 = .ok (.iconst 1, 1) := by decide +kernel
theorem dX8_write_57 : decode cX8_write 57 = .ok (.iadd, 1) := by decide +kernel
theorem dX8_write_58 : decode cX8_write 58 = .ok (.istore_n 3, 1) := by decide +kernel
theorem dX8_write_59 : decode cX8_write 59 = .ok (.iinc 4 (-8), 3) := by decide +kernel
theorem dX8_write_62 : decode cX8_write 62 = .ok (.goto (-51), 3) := by decide +kernel
theorem dX8_write_65 : decode cX8_write 65 = .ok (.aload_n 0, 1) := by decide +kernel
theorem dX8_write_66 : decode cX8_write 66 = .ok (.getfield 47, 3) := by decide +kernel
theorem dX8_write_69 : decode cX8_write 69 = .ok (.iload_n 3, 1) := by decide +kernel
theorem dX8_write_70 : decode cX8_write 70 = .ok (.iadd, 1) := by decide +kernel
theorem dX8_write_71 : decode cX8_write 71 = .ok (.bipush 80, 2) := by decide +kernel
theorem dX8_write_73 : decode cX8_write 73 = .ok (.if_icmp .le 9, 3) := by decide +kernel
theorem dX8_write_76 : decode cX8_write 76 = .ok (.aload_n 0, 1) := by decide +kernel
theorem dX8_write_77 : decode cX8_write 77 = .ok (.iconst 2, 1) := by decide +kernel
theorem dX8_write_78 : decode cX8_write 78 = .ok (.invokevirtual 68, 3) := by decide +kernel
theorem dX8_write_81 : decode cX8_write 81 = .ok (.ireturn, 1) := by decide +kernel
theorem dX8_write_82 : decode cX8_write 82 = .ok (.bipush 56, 2) := by decide +kernel
theorem dX8_write_84 : decode cX8_write 84 = .ok (.istore 4, 2) := by decide +kernel
theorem dX8_write_86 : decode cX8_write 86 = .ok (.iload 4, 2) := by decide +kernel
theorem dX8_write_88 : decode cX8_write 88 = .ok (.ifCond .lt 32, 3) := by decide +kernel
theorem dX8_write_91 : decode cX8_write 91 = .ok (.lload_n 1, 1) := by decide +kernel
theorem dX8_write_92 : decode cX8_write 92 = .ok (.iload 4, 2) := by decide +kernel
theorem dX8_write_94 : decode cX8_write 94 = .ok (.lshr, 1) := by decide +kernel
theorem dX8_write_95 : decode cX8_write 95 = .ok (.ldc2_w 62, 3) := by decide +kernel
theorem dX8_write_98 : decode cX8_write 98 = .ok (.land, 1) := by decide +kernel
theorem dX8_write_99 : decode cX8_write 99 = .ok (.l2i, 1) := by decide +kernel
theorem dX8_write_100 : decode cX8_write 100 = .ok (.istore 5, 2) := by decide +kernel
theorem dX8_write_102 : decode cX8_write 102 = .ok (.iload 5, 2) := by decide +kernel
theorem dX8_write_104 : decode cX8_write 104 = .ok (.ifCond .eq 10, 3) := by decide +kernel
theorem dX8_write_107 : decode cX8_write 107 = .ok (.aload_n 0, 1) := by decide +kernel
theorem dX8_write_108 : decode cX8_write 108 = .ok (.iload 5, 2) := by decide +kernel
theorem dX8_write_110 : decode cX8_write 110 = .ok (.invokevirtual 71, 3) := by decide +kernel
theorem dX8_write_113 : decode cX8_write 113 = .ok (.pop, 1) := by decide +kernel
theorem dX8_write_114 : decode cX8_write 114 = .ok (.iinc 4 (-8), 3) := by decide +kernel
theorem dX8_write_117 : decode cX8_write 117 = .ok (.goto (-31), 3) := by decide +kernel
theorem dX8_write_120 : decode cX8_write 120 = .ok (.aload_n 0, 1) := by decide +kernel
theorem dX8_write_121 : decode cX8_write 121 = .ok (.getfield 47, 3) := by decide +kernel
theorem dX8_write_124 : decode cX8_write 124 = .ok (.ireturn, 1) := by decide +kernel
theorem dX8_whenOf_0 : decode cX8_whenOf 0 = .ok (.iconst 0, 1) := by decide +kernel
theorem dX8_whenOf_1 : decode cX8_whenOf 1 = .ok (.istore_n 2, 1) := by decide +kernel
theorem dX8_whenOf_2 : decode cX8_whenOf 2 = .ok (.iload_n 1, 1) := by decide +kernel
theorem dX8_whenOf_3 : decode cX8_whenOf 3 = .ok (.iconst 1, 1) := by decide +kernel
theorem dX8_whenOf_4 : decode cX8_whenOf 4 = .ok (.isub, 1) := by decide +kernel
theorem dX8_whenOf_5 : decode cX8_whenOf 5 = .ok (.istore_n 3, 1) := by decide +kernel
theorem dX8_whenOf_6 : decode cX8_whenOf 6 = .ok (.iload_n 3, 1) := by decide +kernel
theorem dX8_whenOf_7 : decode cX8_whenOf 7 = .ok (.ifCond .lt 54, 3) := by decide +kernel
theorem dX8_whenOf_10 : decode cX8_whenOf 10 = .ok (.aload_n 0, 1) := by decide +kernel
theorem dX8_whenOf_11 : decode cX8_whenOf 11 = .ok (.getfield 9, 3) := by decide +kernel
theorem dX8_whenOf_14 : decode cX8_whenOf 14 = .ok (.iload_n 3, 1) := by decide +kernel
theorem dX8_whenOf_15 : decode cX8_whenOf 15 = .ok (.iaload, 1) := by decide +kernel
theorem dX8_whenOf_16 : decode cX8_whenOf 16 = .ok (.bipush 17, 2) := by decide +kernel
theorem dX8_whenOf_18 : decode cX8_whenOf 18 = .ok (.if_icmp .ne 6, 3) := by decide +kernel
theorem dX8_whenOf_21 : decode cX8_whenOf 21 = .ok (.iinc 2 1, 3) := by decide +kernel
theorem dX8_whenOf_24 : decode cX8_whenOf 24 = .ok (.aload_n 0, 1) := by decide +kernel
theorem dX8_whenOf_25 : decode cX8_whenOf 25 = .ok (.getfield 9, 3) := by decide +kernel
theorem dX8_whenOf_28 : decode cX8_whenOf 28 = .ok (.iload_n 3, 1) := by decide +kernel
theorem dX8_whenOf_29 : decode cX8_whenOf 29 = .ok (.iaload, 1) := by decide +kernel
theorem dX8_whenOf_30 : decode cX8_whenOf 30 = .ok (.bipush 8, 2) := by decide +kernel
theorem dX8_whenOf_32 : decode cX8_whenOf 32 = .ok (.if_icmp .ge 9, 3) := by decide +kernel
theorem dX8_whenOf_35 : decode cX8_whenOf 35 = .ok (.iload_n 2, 1) := by decide +kernel
theorem dX8_whenOf_36 : decode cX8_whenOf 36 = .ok (.ifCond .ne 5, 3) := by decide +kernel
theorem dX8_whenOf_39 : decode cX8_whenOf 39 = .ok (.iload_n 3, 1) := by decide +kernel
theorem dX8_whenOf_40 : decode cX8_whenOf 40 = .ok (.ireturn, 1) := by decide +kernel
theorem dX8_whenOf_41 : decode cX8_whenOf 41 = .ok (.aload_n 0, 1) := by decide +kernel
theorem dX8_whenOf_42 : decode cX8_whenOf 42 = .ok (.getfield 9, 3) := by decide +kernel
theorem dX8_whenOf_45 : decode cX8_whenOf 45 = .ok (.iload_n 3, 1) := by decide +kernel
theorem dX8_whenOf_46 : decode cX8_whenOf 46 = .ok (.iaload, 1) := by decide +kernel
theorem dX8_whenOf_47 : decode cX8_whenOf 47 = .ok (.bipush 8, 2) := by decide +kernel
theorem dX8_whenOf_49 : decode cX8_whenOf 49 = .ok (.if_icmp .ge 6, 3) := by decide +kernel
theorem dX8_whenOf_52 : decode cX8_whenOf 52 = .ok (.iinc 2 (-1), 3) := by decide +kernel
theorem dX8_whenOf_55 : decode cX8_whenOf 55 = .ok (.iinc 3 (-1), 3) := by decide +kernel
theorem dX8_whenOf_58 : decode cX8_whenOf 58 = .ok (.goto (-52), 3) := by decide +kernel
theorem dX8_whenOf_61 : decode cX8_whenOf 61 = .ok (.iconst (-1), 1) := by decide +kernel
theorem dX8_whenOf_62 : decode cX8_whenOf 62 = .ok (.ireturn, 1) := by decide +kernel
theorem dX8_openCount_0 : decode cX8_openCount 0 = .ok (.iconst 0, 1) := by decide +kernel
theorem dX8_openCount_1 : decode cX8_openCount 1 = .ok (.istore_n 1, 1) := by decide +kernel
theorem dX8_openCount_2 : decode cX8_openCount 2 = .ok (.iconst 0, 1) := by decide +kernel
theorem dX8_openCount_3 : decode cX8_openCount 3 = .ok (.istore_n 2, 1) := by decide +kernel
theorem dX8_openCount_4 : decode cX8_openCount 4 = .ok (.iload_n 2, 1) := by decide +kernel
theorem dX8_openCount_5 : decode cX8_openCount 5 = .ok (.aload_n 0, 1) := by decide +kernel
theorem dX8_openCount_6 : decode cX8_openCount 6 = .ok (.getfield 47, 3) := by decide +kernel
theorem dX8_openCount_9 : decode cX8_openCount 9 = .ok (.if_icmp .ge 43, 3) := by decide +kernel
theorem dX8_openCount_12 : decode cX8_openCount 12 = .ok (.iload_n 1, 1) := by decide +kernel
theorem dX8_openCount_13 : decode cX8_openCount 13 = .ok (.aload_n 0, 1) := by decide +kernel
theorem dX8_openCount_14 : decode cX8_openCount 14 = .ok (.getfield 9, 3) := by decide +kernel
theorem dX8_openCount_17 : decode cX8_openCount 17 = .ok (.iload_n 2, 1) := by decide +kernel
theorem dX8_openCount_18 : decode cX8_openCount 18 = .ok (.iaload, 1) := by decide +kernel
theorem dX8_openCount_19 : decode cX8_openCount 19 = .ok (.bipush 8, 2) := by decide +kernel
theorem dX8_openCount_21 : decode cX8_openCount 21 = .ok (.if_icmp .ge 7, 3) := by decide +kernel
theorem dX8_openCount_24 : decode cX8_openCount 24 = .ok (.iconst 1, 1) := by decide +kernel
theorem dX8_openCount_25 : decode cX8_openCount 25 = .ok (.goto 19, 3) := by decide +kernel
theorem dX8_openCount_28 : decode cX8_openCount 28 = .ok (.aload_n 0, 1) := by decide +kernel
theorem dX8_openCount_29 : decode cX8_openCount 29 = .ok (.getfield 9, 3) := by decide +kernel
theorem dX8_openCount_32 : decode cX8_openCount 32 = .ok (.iload_n 2, 1) := by decide +kernel
theorem dX8_openCount_33 : decode cX8_openCount 33 = .ok (.iaload, 1) := by decide +kernel
theorem dX8_openCount_34 : decode cX8_openCount 34 = .ok (.bipush 17, 2) := by decide +kernel
theorem dX8_openCount_36 : decode cX8_openCount 36 = .ok (.if_icmp .ne 7, 3) := by decide +kernel
theorem dX8_openCount_39 : decode cX8_openCount 39 = .ok (.iconst (-1), 1) := by decide +kernel
theorem dX8_openCount_40 : decode cX8_openCount 40 = .ok (.goto 4, 3) := by decide +kernel
theorem dX8_openCount_43 : decode cX8_openCount 43 = .ok (.iconst 0, 1) := by decide +kernel
theorem dX8_openCount_44 : decode cX8_openCount 44 = .ok (.iadd, 1) := by decide +kernel
theorem dX8_openCount_45 : decode cX8_openCount 45 = .ok (.istore_n 1, 1) := by decide +kernel
theorem dX8_openCount_46 : decode cX8_openCount 46 = .ok (.iinc 2 1, 3) := by decide +kernel
theorem dX8_openCount_49 : decode cX8_openCount 49 = .ok (.goto (-45), 3) := by decide +kernel
theorem dX8_openCount_52 : decode cX8_openCount 52 = .ok (.iload_n 1, 1) := by decide +kernel
theorem dX8_openCount_53 : decode cX8_openCount 53 = .ok (.ireturn, 1) := by decide +kernel
theorem dX8_when_0 : decode cX8_when 0 = .ok (.aload_n 0, 1) := by decide +kernel
theorem dX8_when_1 : decode cX8_when 1 = .ok (.iconst 0, 1) := by decide +kernel
theorem dX8_when_2 : decode cX8_when 2 = .ok (.putfield 43, 3) := by decide +kernel
theorem dX8_when_5 : decode cX8_when 5 = .ok (.iload_n 1, 1) := by decide +kernel
theorem dX8_when_6 : decode cX8_when 6 = .ok (.invokestatic 74, 3) := by decide +kernel
theorem dX8_when_9 : decode cX8_when 9 = .ok (.ifCond .ne 9, 3) := by decide +kernel
theorem dX8_when_12 : decode cX8_when 12 = .ok (.aload_n 0, 1) := by decide +kernel
theorem dX8_when_13 : decode cX8_when 13 = .ok (.iconst 1, 1) := by decide +kernel
theorem dX8_when_14 : decode cX8_when 14 = .ok (.invokevirtual 68, 3) := by decide +kernel
theorem dX8_when_17 : decode cX8_when 17 = .ok (.ireturn, 1) := by decide +kernel
theorem dX8_when_18 : decode cX8_when 18 = .ok (.aload_n 0, 1) := by decide +kernel
theorem dX8_when_19 : decode cX8_when 19 = .ok (.getfield 47, 3) := by decide +kernel
theorem dX8_when_22 : decode cX8_when 22 = .ok (.bipush 80, 2) := by decide +kernel
theorem dX8_when_24 : decode cX8_when 24 = .ok (.if_icmp .eq 11, 3) := by decide +kernel
theorem dX8_when_27 : decode cX8_when 27 = .ok (.aload_n 0, 1) := by decide +kernel
theorem dX8_when_28 : decode cX8_when 28 = .ok (.invokevirtual 77, 3) := by decide +kernel
theorem dX8_when_31 : decode cX8_when 31 = .ok (.iconst 5, 1) := by decide +kernel
theorem dX8_when_32 : decode cX8_when 32 = .ok (.if_icmp .ne 11, 3) := by decide +kernel
theorem dX8_when_35 : decode cX8_when 35 = .ok (.aload_n 0, 1) := by decide +kernel
theorem dX8_when_36 : decode cX8_when 36 = .ok (.iconst 2, 1) := by decide +kernel
theorem dX8_when_37 : decode cX8_when 37 = .ok (.invokevirtual 68, 3) := by decide +kernel
theorem dX8_when_40 : decode cX8_when 40 = .ok (.goto 20, 3) := by decide +kernel
theorem dX8_when_43 : decode cX8_when 43 = .ok (.aload_n 0, 1) := by decide +kernel
theorem dX8_when_44 : decode cX8_when 44 = .ok (.iconst 2, 1) := by decide +kernel
theorem dX8_when_45 : decode cX8_when 45 = .ok (.iload_n 1, 1) := by decide +kernel
theorem dX8_when_46 : decode cX8_when 46 = .ok (.imul, 1) := by decide +kernel
theorem dX8_when_47 : decode cX8_when 47 = .ok (.iload_n 2, 1) := by decide +kernel
theorem dX8_when_48 : decode cX8_when 48 = .ok (.ifCond .eq 7, 3) := by decide +kernel
theorem dX8_when_51 : decode cX8_when 51 = .ok (.iconst 1, 1) := by decide +kernel
theorem dX8_when_52 : decode cX8_when 52 = .ok (.goto 4, 3) := by decide +kernel
theorem dX8_when_55 : decode cX8_when 55 = .ok (.iconst 0, 1) := by decide +kernel
theorem dX8_when_56 : decode cX8_when 56 = .ok (.iadd, 1) := by decide +kernel
theorem dX8_when_57 : decode cX8_when 57 = .ok (.invokevirtual 71, 3) := by decide +kernel
theorem dX8_when_60 : decode cX8_when 60 = .ok (.ireturn, 1) := by decide +kernel
theorem dX8_hasOtherwise_0 : decode cX8_hasOtherwise 0 = .ok (.iconst 0, 1) := by decide +kernel
theorem dX8_hasOtherwise_1 : decode cX8_hasOtherwise 1 = .ok (.istore_n 2, 1) := by decide +kernel
theorem dX8_hasOtherwise_2 : decode cX8_hasOtherwise 2 = .ok (.iload_n 1, 1) := by decide +kernel
theorem dX8_hasOtherwise_3 : decode cX8_hasOtherwise 3 = .ok (.iconst 1, 1) := by decide +kernel
theorem dX8_hasOtherwise_4 : decode cX8_hasOtherwise 4 = .ok (.iadd, 1) := by decide +kernel
theorem dX8_hasOtherwise_5 : decode cX8_hasOtherwise 5 = .ok (.istore_n 3, 1) := by decide +kernel
theorem dX8_hasOtherwise_6 : decode cX8_hasOtherwise 6 = .ok (.iload_n 3, 1) := by decide +kernel
theorem dX8_hasOtherwise_7 : decode cX8_hasOtherwise 7 = .ok (.aload_n 0, 1) := by decide +kernel
theorem dX8_hasOtherwise_8 : decode cX8_hasOtherwise 8 = .ok (.getfield 47, 3) := by decide +kernel
theorem dX8_hasOtherwise_11 : decode cX8_hasOtherwise 11 = .ok (.if_icmp .ge 39, 3) := by decide +kernel
theorem dX8_hasOtherwise_14 : decode cX8_hasOtherwise 14 = .ok (.iload_n 2, 1) := by decide +kernel
theorem dX8_hasOtherwise_15 : decode cX8_hasOtherwise 15 = .ok (.ifCond .ne 23, 3) := by decide +kernel
theorem dX8_hasOtherwise_18 : decode cX8_hasOtherwise 18 = .ok (.aload_n 0, 1) := by decide +kernel
theorem dX8_hasOtherwise_19 : decode cX8_hasOtherwise 19 = .ok (.getfield 9, 3) := by decide +kernel
theorem dX8_hasOtherwise_22 : decode cX8_hasOtherwise 22 = .ok (.iload_n 3, 1) := by decide +kernel
theorem dX8_hasOtherwise_23 : decode cX8_hasOtherwise 23 = .ok (.iaload, 1) := by decide +kernel
theorem dX8_hasOtherwise_24 : decode cX8_hasOtherwise 24 = .ok (.bipush 16, 2) := by decide +kernel
theorem dX8_hasOtherwise_26 : decode cX8_hasOtherwise 26 = .ok (.if_icmp .ne 16, 3) := by decide +kernel
theorem dX8_hasOtherwise_29 : decode cX8_hasOtherwise 29 = .ok (.aload_n 0, 1) := by decide +kernel
theorem dX8_hasOtherwise_30 : decode cX8_hasOtherwise 30 = .ok (.iload_n 3, 1) := by decide +kernel
theorem dX8_hasOtherwise_31 : decode cX8_hasOtherwise 31 = .ok (.invokevirtual 81, 3) := by decide +kernel
theorem dX8_hasOtherwise_34 : decode cX8_hasOtherwise 34 = .ok (.iload_n 1, 1) := by decide +kernel
theorem dX8_hasOtherwise_35 : decode cX8_hasOtherwise 35 = .ok (.if_icmp .ne 7, 3) := by decide +kernel
theorem dX8_hasOtherwise_38 : decode cX8_hasOtherwise 38 = .ok (.iconst 1, 1) := by decide +kernel
theorem dX8_hasOtherwise_39 : decode cX8_hasOtherwise 39 = .ok (.goto 4, 3) := by decide +kernel
theorem dX8_hasOtherwise_42 : decode cX8_hasOtherwise 42 = .ok (.iconst 0, 1) := by decide +kernel
theorem dX8_hasOtherwise_43 : decode cX8_hasOtherwise 43 = .ok (.istore_n 2, 1) := by decide +kernel
theorem dX8_hasOtherwise_44 : decode cX8_hasOtherwise 44 = .ok (.iinc 3 1, 3) := by decide +kernel
theorem dX8_hasOtherwise_47 : decode cX8_hasOtherwise 47 = .ok (.goto (-41), 3) := by decide +kernel
theorem dX8_hasOtherwise_50 : decode cX8_hasOtherwise 50 = .ok (.iload_n 2, 1) := by decide +kernel
theorem dX8_hasOtherwise_51 : decode cX8_hasOtherwise 51 = .ok (.ireturn, 1) := by decide +kernel
theorem dX8_otherwise_0 : decode cX8_otherwise 0 = .ok (.aload_n 0, 1) := by decide +kernel
theorem dX8_otherwise_1 : decode cX8_otherwise 1 = .ok (.iconst 0, 1) := by decide +kernel
theorem dX8_otherwise_2 : decode cX8_otherwise 2 = .ok (.putfield 43, 3) := by decide +kernel
theorem dX8_otherwise_5 : decode cX8_otherwise 5 = .ok (.aload_n 0, 1) := by decide +kernel
theorem dX8_otherwise_6 : decode cX8_otherwise 6 = .ok (.aload_n 0, 1) := by decide +kernel
theorem dX8_otherwise_7 : decode cX8_otherwise 7 = .ok (.getfield 47, 3) := by decide +kernel
theorem dX8_otherwise_10 : decode cX8_otherwise 10 = .ok (.invokevirtual 81, 3) := by decide +kernel
theorem dX8_otherwise_13 : decode cX8_otherwise 13 = .ok (.istore_n 1, 1) := by decide +kernel
theorem dX8_otherwise_14 : decode cX8_otherwise 14 = .ok (.aload_n 0, 1) := by decide +kernel
theorem dX8_otherwise_15 : decode cX8_otherwise 15 = .ok (.getfield 47, 3) := by decide +kernel
theorem dX8_otherwise_18 : decode cX8_otherwise 18 = .ok (.bipush 80, 2) := by decide +kernel
theorem dX8_otherwise_20 : decode cX8_otherwise 20 = .ok (.if_icmp .eq 16, 3) := by decide +kernel
theorem dX8_otherwise_23 : decode cX8_otherwise 23 = .ok (.iload_n 1, 1) := by decide +kernel
theorem dX8_otherwise_24 : decode cX8_otherwise 24 = .ok (.iconst (-1), 1) := by decide +kernel
theorem dX8_otherwise_25 : decode cX8_otherwise 25 = .ok (.if_icmp .eq 11, 3) := by decide +kernel
theorem dX8_otherwise_28 : decode cX8_otherwise 28 = .ok (.aload_n 0, 1) := by decide +kernel
theorem dX8_otherwise_29 : decode cX8_otherwise 29 = .ok (.iload_n 1, 1) := by decide +kernel
theorem dX8_otherwise_30 : decode cX8_otherwise 30 = .ok (.invokevirtual 84, 3) := by decide +kernel
theorem dX8_otherwise_33 : decode cX8_otherwise 33 = .ok (.ifCond .eq 11, 3) := by decide +kernel
theorem dX8_otherwise_36 : decode cX8_otherwise 36 = .ok (.aload_n 0, 1) := by decide +kernel
theorem dX8_otherwise_37 : decode cX8_otherwise 37 = .ok (.iconst 1, 1) := by decide +kernel
theorem dX8_otherwise_38 : decode cX8_otherwise 38 = .ok (.invokevirtual 68, 3) := by decide +kernel
theorem dX8_otherwise_41 : decode cX8_otherwise 41 = .ok (.goto 9, 3) := by decide +kernel
theorem dX8_otherwise_44 : decode cX8_otherwise 44 = .ok (.aload_n 0, 1) := by decide +kernel
theorem dX8_otherwise_45 : decode cX8_otherwise 45 = .ok (.bipush 16, 2) := by decide +kernel
theorem dX8_otherwise_47 : decode cX8_otherwise 47 = .ok (.invokevirtual 71, 3) := by decide +kernel
theorem dX8_otherwise_50 : decode cX8_otherwise 50 = .ok (.ireturn, 1) := by decide +kernel
theorem dX8_done_0 : decode cX8_done 0 = .ok (.aload_n 0, 1) := by decide +kernel
theorem dX8_done_1 : decode cX8_done 1 = .ok (.iconst 0, 1) := by decide +kernel
theorem dX8_done_2 : decode cX8_done 2 = .ok (.putfield 43, 3) := by decide +kernel
theorem dX8_done_5 : decode cX8_done 5 = .ok (.aload_n 0, 1) := by decide +kernel
theorem dX8_done_6 : decode cX8_done 6 = .ok (.getfield 47, 3) := by decide +kernel
theorem dX8_done_9 : decode cX8_done 9 = .ok (.bipush 80, 2) := by decide +kernel
theorem dX8_done_11 : decode cX8_done 11 = .ok (.if_icmp .eq 15, 3) := by decide +kernel
theorem dX8_done_14 : decode cX8_done 14 = .ok (.aload_n 0, 1) := by decide +kernel
theorem dX8_done_15 : decode cX8_done 15 = .ok (.aload_n 0, 1) := by decide +kernel
theorem dX8_done_16 : decode cX8_done 16 = .ok (.getfield 47, 3) := by decide +kernel
theorem dX8_done_19 : decode cX8_done 19 = .ok (.invokevirtual 81, 3) := by decide +kernel
theorem dX8_done_22 : decode cX8_done 22 = .ok (.iconst (-1), 1) := by decide +kernel
theorem dX8_done_23 : decode cX8_done 23 = .ok (.if_icmp .ne 11, 3) := by decide +kernel
theorem dX8_done_26 : decode cX8_done 26 = .ok (.aload_n 0, 1) := by decide +kernel
theorem dX8_done_27 : decode cX8_done 27 = .ok (.iconst 1, 1) := by decide +kernel
theorem dX8_done_28 : decode cX8_done 28 = .ok (.invokevirtual 68, 3) := by decide +kernel
theorem dX8_done_31 : decode cX8_done 31 = .ok (.goto 9, 3) := by decide +kernel
theorem dX8_done_34 : decode cX8_done 34 = .ok (.aload_n 0, 1) := by decide +kernel
theorem dX8_done_35 : decode cX8_done 35 = .ok (.bipush 17, 2) := by decide +kernel
theorem dX8_done_37 : decode cX8_done 37 = .ok (.invokevirtual 71, 3) := by decide +kernel
theorem dX8_done_40 : decode cX8_done 40 = .ok (.ireturn, 1) := by decide +kernel
theorem dX8_set_0 : decode cX8_set 0 = .ok (.aload_n 0, 1) := by decide +kernel
theorem dX8_set_1 : decode cX8_set 1 = .ok (.iconst 0, 1) := by decide +kernel
theorem dX8_set_2 : decode cX8_set 2 = .ok (.putfield 43, 3) := by decide +kernel
theorem dX8_set_5 : decode cX8_set 5 = .ok (.iload_n 1, 1) := by decide +kernel
theorem dX8_set_6 : decode cX8_set 6 = .ok (.invokestatic 74, 3) := by decide +kernel
theorem dX8_set_9 : decode cX8_set 9 = .ok (.ifCond .ne 9, 3) := by decide +kernel
theorem dX8_set_12 : decode cX8_set 12 = .ok (.aload_n 0, 1) := by decide +kernel
theorem dX8_set_13 : decode cX8_set 13 = .ok (.iconst 1, 1) := by decide +kernel
theorem dX8_set_14 : decode cX8_set 14 = .ok (.invokevirtual 68, 3) := by decide +kernel
theorem dX8_set_17 : decode cX8_set 17 = .ok (.ireturn, 1) := by decide +kernel
theorem dX8_set_18 : decode cX8_set 18 = .ok (.aload_n 0, 1) := by decide +kernel
theorem dX8_set_19 : decode cX8_set 19 = .ok (.getfield 47, 3) := by decide +kernel
theorem dX8_set_22 : decode cX8_set 22 = .ok (.bipush 80, 2) := by decide +kernel
theorem dX8_set_24 : decode cX8_set 24 = .ok (.if_icmp .ne 11, 3) := by decide +kernel
theorem dX8_set_27 : decode cX8_set 27 = .ok (.aload_n 0, 1) := by decide +kernel
theorem dX8_set_28 : decode cX8_set 28 = .ok (.iconst 2, 1) := by decide +kernel
theorem dX8_set_29 : decode cX8_set 29 = .ok (.invokevirtual 68, 3) := by decide +kernel
theorem dX8_set_32 : decode cX8_set 32 = .ok (.goto 23, 3) := by decide +kernel
theorem dX8_set_35 : decode cX8_set 35 = .ok (.aload_n 0, 1) := by decide +kernel
theorem dX8_set_36 : decode cX8_set 36 = .ok (.bipush 8, 2) := by decide +kernel
theorem dX8_set_38 : decode cX8_set 38 = .ok (.iconst 2, 1) := by decide +kernel
theorem dX8_set_39 : decode cX8_set 39 = .ok (.iload_n 1, 1) := by decide +kernel
theorem dX8_set_40 : decode cX8_set 40 = .ok (.imul, 1) := by decide +kernel
theorem dX8_set_41 : decode cX8_set 41 = .ok (.iadd, 1) := by decide +kernel
theorem dX8_set_42 : decode cX8_set 42 = .ok (.iload_n 2, 1) := by decide +kernel
theorem dX8_set_43 : decode cX8_set 43 = .ok (.ifCond .eq 7, 3) := by decide +kernel
theorem dX8_set_46 : decode cX8_set 46 = .ok (.iconst 1, 1) := by decide +kernel
theorem dX8_set_47 : decode cX8_set 47 = .ok (.goto 4, 3) := by decide +kernel
theorem dX8_set_50 : decode cX8_set 50 = .ok (.iconst 0, 1) := by decide +kernel
theorem dX8_set_51 : decode cX8_set 51 = .ok (.iadd, 1) := by decide +kernel
theorem dX8_set_52 : decode cX8_set 52 = .ok (.invokevirtual 71, 3) := by decide +kernel
theorem dX8_set_55 : decode cX8_set 55 = .ok (.ireturn, 1) := by decide +kernel
theorem dX8_drop_0 : decode cX8_drop 0 = .ok (.aload_n 0, 1) := by decide +kernel
theorem dX8_drop_1 : decode cX8_drop 1 = .ok (.iconst 0, 1) := by decide +kernel
theorem dX8_drop_2 : decode cX8_drop 2 = .ok (.putfield 43, 3) := by decide +kernel
theorem dX8_drop_5 : decode cX8_drop 5 = .ok (.aload_n 0, 1) := by decide +kernel
theorem dX8_drop_6 : decode cX8_drop 6 = .ok (.getfield 47, 3) := by decide +kernel
theorem dX8_drop_9 : decode cX8_drop 9 = .ok (.ifCond .ne 9, 3) := by decide +kernel
theorem dX8_drop_12 : decode cX8_drop 12 = .ok (.aload_n 0, 1) := by decide +kernel
theorem dX8_drop_13 : decode cX8_drop 13 = .ok (.iconst 1, 1) := by decide +kernel
theorem dX8_drop_14 : decode cX8_drop 14 = .ok (.invokevirtual 68, 3) := by decide +kernel
theorem dX8_drop_17 : decode cX8_drop 17 = .ok (.ireturn, 1) := by decide +kernel
theorem dX8_drop_18 : decode cX8_drop 18 = .ok (.aload_n 0, 1) := by decide +kernel
theorem dX8_drop_19 : decode cX8_drop 19 = .ok (.dup, 1) := by decide +kernel
theorem dX8_drop_20 : decode cX8_drop 20 = .ok (.getfield 47, 3) := by decide +kernel
theorem dX8_drop_23 : decode cX8_drop 23 = .ok (.iconst 1, 1) := by decide +kernel
theorem dX8_drop_24 : decode cX8_drop 24 = .ok (.isub, 1) := by decide +kernel
theorem dX8_drop_25 : decode cX8_drop 25 = .ok (.putfield 47, 3) := by decide +kernel
theorem dX8_drop_28 : decode cX8_drop 28 = .ok (.aload_n 0, 1) := by decide +kernel
