/-! the words: all good words of the tables, and where each stands -/
def WG : List Cond := lw_tbl.filter goodWord
theorem WG_good {w : Cond} (h : w ∈ WG) : (w.onTables && w.keeps) = true ∨ ∃ ty, w = .arrayClass ty := good_of_word (List.mem_filter.mp h).2
theorem WG_lw {w : Cond} (h : w ∈ WG) : w ∈ lw_tbl := (List.mem_filter.mp h).1
theorem wt1 {w : Cond} (h : w ∈ tables_1_1) : w ∈ lw_tbl := List.mem_append_right _ (show w ∈ tables_1 from List.mem_append_left _ h)
theorem wg1 {w : Cond} (h : w ∈ tables_1_1) (g : goodWord w = true) : w ∈ WG := List.mem_filter.mpr ⟨wt1 h, g⟩
theorem wt2 {w : Cond} (h : w ∈ tables_1_2) : w ∈ lw_tbl := List.mem_append_right _ (show w ∈ tables_1 from List.mem_append_right _ (List.mem_append_left _ h))
theorem wg2 {w : Cond} (h : w ∈ tables_1_2) (g : goodWord w = true) : w ∈ WG := List.mem_filter.mpr ⟨wt2 h, g⟩
theorem wt3 {w : Cond} (h : w ∈ tables_1_3) : w ∈ lw_tbl := List.mem_append_right _ (show w ∈ tables_1 from List.mem_append_right _ (List.mem_append_right _ (List.mem_append_left _ h)))
theorem wg3 {w : Cond} (h : w ∈ tables_1_3) (g : goodWord w = true) : w ∈ WG := List.mem_filter.mpr ⟨wt3 h, g⟩
theorem wt4 {w : Cond} (h : w ∈ tables_1_4) : w ∈ lw_tbl := List.mem_append_right _ (show w ∈ tables_1 from List.mem_append_right _ (List.mem_append_right _ (List.mem_append_right _ (List.mem_append_left _ h))))
theorem wg4 {w : Cond} (h : w ∈ tables_1_4) (g : goodWord w = true) : w ∈ WG := List.mem_filter.mpr ⟨wt4 h, g⟩
theorem wt5 {w : Cond} (h : w ∈ tables_1_5) : w ∈ lw_tbl := List.mem_append_right _ (show w ∈ tables_1 from List.mem_append_right _ (List.mem_append_right _ (List.mem_append_right _ (List.mem_append_right _ (List.mem_append_left _ h)))))
theorem wg5 {w : Cond} (h : w ∈ tables_1_5) (g : goodWord w = true) : w ∈ WG := List.mem_filter.mpr ⟨wt5 h, g⟩
theorem wt6 {w : Cond} (h : w ∈ tables_1_6) : w ∈ lw_tbl := List.mem_append_right _ (show w ∈ tables_1 from List.mem_append_right _ (List.mem_append_right _ (List.mem_append_right _ (List.mem_append_right _ (List.mem_append_right _ (h))))))
theorem wg6 {w : Cond} (h : w ∈ tables_1_6) (g : goodWord w = true) : w ∈ WG := List.mem_filter.mpr ⟨wt6 h, g⟩
theorem wgp1 {q : MethodName × Nat} (h : q ∈ lw_privs_1) : Cond.selects q.1.cls q.1 q.1 ∈ WG := List.mem_filter.mpr ⟨List.mem_append_left _ (List.mem_map.mpr ⟨q, show q ∈ lw_privs from List.mem_append_left _ h, rfl⟩), rfl⟩
theorem wgp2 {q : MethodName × Nat} (h : q ∈ lw_privs_2) : Cond.selects q.1.cls q.1 q.1 ∈ WG := List.mem_filter.mpr ⟨List.mem_append_left _ (List.mem_map.mpr ⟨q, show q ∈ lw_privs from List.mem_append_right _ (List.mem_append_left _ h), rfl⟩), rfl⟩
theorem wgp3 {q : MethodName × Nat} (h : q ∈ lw_privs_3) : Cond.selects q.1.cls q.1 q.1 ∈ WG := List.mem_filter.mpr ⟨List.mem_append_left _ (List.mem_map.mpr ⟨q, show q ∈ lw_privs from List.mem_append_right _ (List.mem_append_right _ (List.mem_append_left _ h)), rfl⟩), rfl⟩
theorem wgp4 {q : MethodName × Nat} (h : q ∈ lw_privs_4) : Cond.selects q.1.cls q.1 q.1 ∈ WG := List.mem_filter.mpr ⟨List.mem_append_left _ (List.mem_map.mpr ⟨q, show q ∈ lw_privs from List.mem_append_right _ (List.mem_append_right _ (List.mem_append_right _ (h))), rfl⟩), rfl⟩
theorem m1_0 : Cond.initialized RL ∈ WG := wg1 (List.mem_of_getElem? (i := 0) rfl) rfl
theorem m1_1 : Cond.initialized RX7 ∈ WG := wg1 (List.mem_of_getElem? (i := 1) rfl) rfl
theorem m1_2 : Cond.initialized RX4 ∈ WG := wg1 (List.mem_of_getElem? (i := 2) rfl) rfl
theorem m1_3 : Cond.initialized RX6 ∈ WG := wg1 (List.mem_of_getElem? (i := 3) rfl) rfl
theorem m1_4 : Cond.initialized RX5 ∈ WG := wg1 (List.mem_of_getElem? (i := 4) rfl) rfl
theorem m1_5 : Cond.initialized RX1 ∈ WG := wg1 (List.mem_of_getElem? (i := 5) rfl) rfl
theorem m1_6 : Cond.initialized RX3 ∈ WG := wg1 (List.mem_of_getElem? (i := 6) rfl) rfl
theorem m1_7 : Cond.initialized RX8 ∈ WG := wg1 (List.mem_of_getElem? (i := 7) rfl) rfl
theorem m1_8 : Cond.initialized RX0 ∈ WG := wg1 (List.mem_of_getElem? (i := 8) rfl) rfl
theorem m1_9 : Cond.initialized "java/lang/Throwable" ∈ WG := wg1 (List.mem_of_getElem? (i := 9) rfl) rfl
theorem m1_10 : Cond.initialized "java/lang/Exception" ∈ WG := wg1 (List.mem_of_getElem? (i := 10) rfl) rfl
theorem m1_11 : Cond.initialized "java/lang/RuntimeException" ∈ WG := wg1 (List.mem_of_getElem? (i := 11) rfl) rfl
theorem m1_12 : Cond.initialized "java/lang/IllegalArgumentException" ∈ WG := wg1 (List.mem_of_getElem? (i := 12) rfl) rfl
theorem m1_13 : Cond.initialized "java/lang/IllegalStateException" ∈ WG := wg1 (List.mem_of_getElem? (i := 13) rfl) rfl
theorem m1_14 : Cond.initialized RJ0 ∈ WG := wg1 (List.mem_of_getElem? (i := 14) rfl) rfl
theorem m1_15 : Cond.initialized RJ1 ∈ WG := wg1 (List.mem_of_getElem? (i := 15) rfl) rfl
theorem m1_16 : Cond.initialized RJ9 ∈ WG := wg1 (List.mem_of_getElem? (i := 16) rfl) rfl
theorem m1_17 : Cond.initialized RJ2 ∈ WG := wg1 (List.mem_of_getElem? (i := 17) rfl) rfl
theorem m1_18 : Cond.initialized RJ3 ∈ WG := wg1 (List.mem_of_getElem? (i := 18) rfl) rfl
theorem m1_19 : Cond.initialized RJ11 ∈ WG := wg1 (List.mem_of_getElem? (i := 19) rfl) rfl
theorem m1_20 : Cond.initialized "java/lang/IndexOutOfBoundsException" ∈ WG := wg1 (List.mem_of_getElem? (i := 20) rfl) rfl
theorem m1_21 : Cond.initialized RX2 ∈ WG := wg1 (List.mem_of_getElem? (i := 21) rfl) rfl
theorem m1_22 : Cond.initialized "java/util/NoSuchElementException" ∈ WG := wg1 (List.mem_of_getElem? (i := 22) rfl) rfl
theorem m1_23 : Cond.classLink RL 8 "VariantParser" ∈ WG := wg1 (List.mem_of_getElem? (i := 23) rfl) rfl
theorem m1_24 : Cond.instantiable RX7 5 ∈ WG := wg1 (List.mem_of_getElem? (i := 24) rfl) rfl
theorem m1_25 : Cond.methodLink RL 95 yX7_init ∈ WG := wg1 (List.mem_of_getElem? (i := 25) rfl) rfl
theorem m1_26 : Cond.instanceMethod yX7_init ∈ WG := wg1 (List.mem_of_getElem? (i := 26) rfl) rfl
theorem m1_27 : Cond.code yX7_init cX7_init 2 none ∈ WG := wg1 (List.mem_of_getElem? (i := 27) rfl) rfl
theorem m1_28 : Cond.methodLink RX7 1 objectInit ∈ WG := wg1 (List.mem_of_getElem? (i := 28) rfl) rfl
theorem m1_29 : Cond.instanceMethod objectInit ∈ WG := wg1 (List.mem_of_getElem? (i := 29) rfl) rfl
theorem m1_30 : Cond.code objectInit object_method_1_code 1 none ∈ WG := wg1 (List.mem_of_getElem? (i := 30) rfl) rfl
theorem m1_31 : Cond.classLink RX7 7 "VariantParser$Source" ∈ WG := wg1 (List.mem_of_getElem? (i := 31) rfl) rfl
theorem m1_32 : Cond.instantiable RX4 2 ∈ WG := wg1 (List.mem_of_getElem? (i := 32) rfl) rfl
theorem m1_34 : Cond.instanceMethod yX4_init ∈ WG := wg1 (List.mem_of_getElem? (i := 34) rfl) rfl
theorem m1_35 : Cond.code yX4_init cX4_init 1 none ∈ WG := wg1 (List.mem_of_getElem? (i := 35) rfl) rfl
theorem m1_36 : Cond.methodLink RX4 3 objectInit ∈ WG := wg1 (List.mem_of_getElem? (i := 36) rfl) rfl
theorem m1_37 : Cond.fieldLink RX4 9 "VariantParser$Source" "codes" "[I" ∈ WG := wg1 (List.mem_of_getElem? (i := 37) rfl) rfl
theorem m1_38 : Cond.fieldLink RX6 45 "VariantParser$Source" "codes" "[I" ∈ WG := wg1 (List.mem_of_getElem? (i := 38) rfl) rfl
theorem m1_39 : Cond.fieldLink RX7 105 "VariantParser$Source" "codes" "[I" ∈ WG := wg1 (List.mem_of_getElem? (i := 39) rfl) rfl
theorem m1_40 : Cond.fieldLink RX7 55 "VariantParser$Source" "size" "I" ∈ WG := wg1 (List.mem_of_getElem? (i := 40) rfl) rfl
theorem m1_41 : Cond.fieldLink RX6 40 "VariantParser$Source" "size" "I" ∈ WG := wg1 (List.mem_of_getElem? (i := 41) rfl) rfl
theorem m1_42 : Cond.fieldLink RX4 19 "VariantParser$Source" "size" "I" ∈ WG := wg1 (List.mem_of_getElem? (i := 42) rfl) rfl
theorem m1_43 : Cond.laysFinal "VariantParser$Source" "VariantParser$Source" "codes" "[I" ∈ WG := wg1 (List.mem_of_getElem? (i := 43) rfl) rfl
theorem m1_45 : Cond.lays "VariantParser$Source" "VariantParser$Source" "size" "I" ∈ WG := wg1 (List.mem_of_getElem? (i := 45) rfl) rfl
theorem m1_48 : Cond.arrayClass .int ∈ WG := wg1 (List.mem_of_getElem? (i := 48) rfl) rfl
theorem m1_49 : Cond.classLink RX7 16 "VariantParser$Walk" ∈ WG := wg1 (List.mem_of_getElem? (i := 49) rfl) rfl
theorem m1_50 : Cond.instantiable RX6 7 ∈ WG := wg1 (List.mem_of_getElem? (i := 50) rfl) rfl
theorem m1_52 : Cond.instanceMethod yX6_init ∈ WG := wg1 (List.mem_of_getElem? (i := 52) rfl) rfl
theorem m1_53 : Cond.code yX6_init cX6_init 1 none ∈ WG := wg1 (List.mem_of_getElem? (i := 53) rfl) rfl
theorem m1_54 : Cond.methodLink RX6 3 objectInit ∈ WG := wg1 (List.mem_of_getElem? (i := 54) rfl) rfl
theorem m1_55 : Cond.classLink RX6 15 "[[I" ∈ WG := wg1 (List.mem_of_getElem? (i := 55) rfl) rfl
theorem m1_57 : Cond.fieldLink RX6 9 "VariantParser$Walk" "present" "[I" ∈ WG := wg1 (List.mem_of_getElem? (i := 57) rfl) rfl
theorem m1_58 : Cond.fieldLink RX7 115 "VariantParser$Walk" "present" "[I" ∈ WG := wg1 (List.mem_of_getElem? (i := 58) rfl) rfl
theorem m1_59 : Cond.fieldLink RX6 17 "VariantParser$Walk" "onAhead" "[[I" ∈ WG := wg1 (List.mem_of_getElem? (i := 59) rfl) rfl
theorem m1_60 : Cond.fieldLink RX7 118 "VariantParser$Walk" "onAhead" "[[I" ∈ WG := wg1 (List.mem_of_getElem? (i := 60) rfl) rfl
theorem m1_61 : Cond.fieldLink RX6 20 "VariantParser$Walk" "on" "[I" ∈ WG := wg1 (List.mem_of_getElem? (i := 61) rfl) rfl
theorem m1_62 : Cond.fieldLink RX6 23 "VariantParser$Walk" "activeAheadOfWhen" "[I" ∈ WG := wg1 (List.mem_of_getElem? (i := 62) rfl) rfl
theorem m1_63 : Cond.fieldLink RX6 26 "VariantParser$Walk" "activeAtOtherwise" "[I" ∈ WG := wg1 (List.mem_of_getElem? (i := 63) rfl) rfl
theorem m1_64 : Cond.fieldLink RX6 30 "VariantParser$Walk" "active" "I" ∈ WG := wg1 (List.mem_of_getElem? (i := 64) rfl) rfl
theorem m1_65 : Cond.fieldLink RX6 34 "VariantParser$Walk" "depth" "I" ∈ WG := wg1 (List.mem_of_getElem? (i := 65) rfl) rfl
theorem m1_66 : Cond.laysFinal "VariantParser$Walk" "VariantParser$Walk" "present" "[I" ∈ WG := wg1 (List.mem_of_getElem? (i := 66) rfl) rfl
theorem m1_68 : Cond.laysFinal "VariantParser$Walk" "VariantParser$Walk" "onAhead" "[[I" ∈ WG := wg1 (List.mem_of_getElem? (i := 68) rfl) rfl
theorem m1_70 : Cond.laysFinal "VariantParser$Walk" "VariantParser$Walk" "on" "[I" ∈ WG := wg1 (List.mem_of_getElem? (i := 70) rfl) rfl
theorem m1_72 : Cond.laysFinal "VariantParser$Walk" "VariantParser$Walk" "activeAheadOfWhen" "[I" ∈ WG := wg1 (List.mem_of_getElem? (i := 72) rfl) rfl
theorem m1_74 : Cond.laysFinal "VariantParser$Walk" "VariantParser$Walk" "activeAtOtherwise" "[I" ∈ WG := wg1 (List.mem_of_getElem? (i := 74) rfl) rfl
theorem m1_76 : Cond.lays "VariantParser$Walk" "VariantParser$Walk" "active" "I" ∈ WG := wg1 (List.mem_of_getElem? (i := 76) rfl) rfl
theorem m1_78 : Cond.lays "VariantParser$Walk" "VariantParser$Walk" "depth" "I" ∈ WG := wg1 (List.mem_of_getElem? (i := 78) rfl) rfl
theorem m1_81 : Cond.classLink RX7 23 "VariantParser$Variant" ∈ WG := wg1 (List.mem_of_getElem? (i := 81) rfl) rfl
theorem m1_83 : Cond.instantiable RX5 5 ∈ WG := wg1 (List.mem_of_getElem? (i := 83) rfl) rfl
theorem m1_85 : Cond.instanceMethod yX5_init ∈ WG := wg1 (List.mem_of_getElem? (i := 85) rfl) rfl
theorem m1_86 : Cond.code yX5_init cX5_init 1 none ∈ WG := wg1 (List.mem_of_getElem? (i := 86) rfl) rfl
theorem m1_87 : Cond.methodLink RX5 3 objectInit ∈ WG := wg1 (List.mem_of_getElem? (i := 87) rfl) rfl
theorem m1_88 : Cond.classLink RX5 18 "VariantParser$Reading" ∈ WG := wg1 (List.mem_of_getElem? (i := 88) rfl) rfl
theorem m1_89 : Cond.instantiable RX1 5 ∈ WG := wg1 (List.mem_of_getElem? (i := 89) rfl) rfl
theorem m1_91 : Cond.instanceMethod yX1_init ∈ WG := wg1 (List.mem_of_getElem? (i := 91) rfl) rfl
theorem m1_92 : Cond.code yX1_init cX1_init 1 none ∈ WG := wg1 (List.mem_of_getElem? (i := 92) rfl) rfl
theorem m1_93 : Cond.methodLink RX1 5 objectInit ∈ WG := wg1 (List.mem_of_getElem? (i := 93) rfl) rfl
theorem m1_94 : Cond.fieldLink RX1 11 "VariantParser$Reading" "symbols" "[I" ∈ WG := wg1 (List.mem_of_getElem? (i := 94) rfl) rfl
theorem m1_95 : Cond.fieldLink RX1 18 "VariantParser$Reading" "height" "I" ∈ WG := wg1 (List.mem_of_getElem? (i := 95) rfl) rfl
theorem m1_96 : Cond.fieldLink RX1 15 "VariantParser$Reading" "heights" "[I" ∈ WG := wg1 (List.mem_of_getElem? (i := 96) rfl) rfl
theorem m1_97 : Cond.fieldLink RX1 28 "VariantParser$Reading" "tokensRead" "I" ∈ WG := wg1 (List.mem_of_getElem? (i := 97) rfl) rfl
theorem m1_98 : Cond.fieldLink RX7 160 "VariantParser$Reading" "tokensRead" "I" ∈ WG := wg1 (List.mem_of_getElem? (i := 98) rfl) rfl
theorem m1_99 : Cond.fieldLink RX1 31 "VariantParser$Reading" "errorPlace" "I" ∈ WG := wg1 (List.mem_of_getElem? (i := 99) rfl) rfl
theorem m1_100 : Cond.fieldLink RX7 152 "VariantParser$Reading" "errorPlace" "I" ∈ WG := wg1 (List.mem_of_getElem? (i := 100) rfl) rfl
theorem m1_101 : Cond.laysFinal "VariantParser$Reading" "VariantParser$Reading" "symbols" "[I" ∈ WG := wg1 (List.mem_of_getElem? (i := 101) rfl) rfl
theorem m1_103 : Cond.lays "VariantParser$Reading" "VariantParser$Reading" "height" "I" ∈ WG := wg1 (List.mem_of_getElem? (i := 103) rfl) rfl
theorem m1_105 : Cond.laysFinal "VariantParser$Reading" "VariantParser$Reading" "heights" "[I" ∈ WG := wg1 (List.mem_of_getElem? (i := 105) rfl) rfl
theorem m1_107 : Cond.lays "VariantParser$Reading" "VariantParser$Reading" "tokensRead" "I" ∈ WG := wg1 (List.mem_of_getElem? (i := 107) rfl) rfl
theorem m1_109 : Cond.lays "VariantParser$Reading" "VariantParser$Reading" "errorPlace" "I" ∈ WG := wg1 (List.mem_of_getElem? (i := 109) rfl) rfl
theorem m1_112 : Cond.classLink RX5 25 "VariantParser$Run" ∈ WG := wg1 (List.mem_of_getElem? (i := 112) rfl) rfl
theorem m1_113 : Cond.instantiable RX3 6 ∈ WG := wg1 (List.mem_of_getElem? (i := 113) rfl) rfl
theorem m1_115 : Cond.instanceMethod yX3_init ∈ WG := wg1 (List.mem_of_getElem? (i := 115) rfl) rfl
theorem m1_116 : Cond.code yX3_init cX3_init 1 none ∈ WG := wg1 (List.mem_of_getElem? (i := 116) rfl) rfl
theorem m1_117 : Cond.methodLink RX3 3 objectInit ∈ WG := wg1 (List.mem_of_getElem? (i := 117) rfl) rfl
theorem m1_118 : Cond.fieldLink RX3 9 "VariantParser$Run" "tokens" "[I" ∈ WG := wg1 (List.mem_of_getElem? (i := 118) rfl) rfl
theorem m1_119 : Cond.fieldLink RX3 27 "VariantParser$Run" "count" "I" ∈ WG := wg1 (List.mem_of_getElem? (i := 119) rfl) rfl
theorem m1_120 : Cond.fieldLink RX3 31 "VariantParser$Run" "next" "I" ∈ WG := wg1 (List.mem_of_getElem? (i := 120) rfl) rfl
theorem m1_121 : Cond.fieldLink RX3 15 "VariantParser$Run" "variables" "[I" ∈ WG := wg1 (List.mem_of_getElem? (i := 121) rfl) rfl
theorem m1_122 : Cond.fieldLink RX7 185 "VariantParser$Run" "variables" "[I" ∈ WG := wg1 (List.mem_of_getElem? (i := 122) rfl) rfl
theorem m1_123 : Cond.fieldLink RX3 18 "VariantParser$Run" "outputs" "[I" ∈ WG := wg1 (List.mem_of_getElem? (i := 123) rfl) rfl
theorem m1_124 : Cond.fieldLink RX7 180 "VariantParser$Run" "outputs" "[I" ∈ WG := wg1 (List.mem_of_getElem? (i := 124) rfl) rfl
theorem m1_125 : Cond.fieldLink RX3 34 "VariantParser$Run" "outputCount" "I" ∈ WG := wg1 (List.mem_of_getElem? (i := 125) rfl) rfl
theorem m1_126 : Cond.fieldLink RX7 173 "VariantParser$Run" "outputCount" "I" ∈ WG := wg1 (List.mem_of_getElem? (i := 126) rfl) rfl
theorem m1_127 : Cond.laysFinal "VariantParser$Run" "VariantParser$Run" "tokens" "[I" ∈ WG := wg1 (List.mem_of_getElem? (i := 127) rfl) rfl
theorem m1_129 : Cond.lays "VariantParser$Run" "VariantParser$Run" "count" "I" ∈ WG := wg1 (List.mem_of_getElem? (i := 129) rfl) rfl
theorem m1_131 : Cond.lays "VariantParser$Run" "VariantParser$Run" "next" "I" ∈ WG := wg1 (List.mem_of_getElem? (i := 131) rfl) rfl
theorem m1_133 : Cond.laysFinal "VariantParser$Run" "VariantParser$Run" "variables" "[I" ∈ WG := wg1 (List.mem_of_getElem? (i := 133) rfl) rfl
theorem m1_135 : Cond.laysFinal "VariantParser$Run" "VariantParser$Run" "outputs" "[I" ∈ WG := wg1 (List.mem_of_getElem? (i := 135) rfl) rfl
theorem m1_137 : Cond.lays "VariantParser$Run" "VariantParser$Run" "outputCount" "I" ∈ WG := wg1 (List.mem_of_getElem? (i := 137) rfl) rfl
theorem m1_140 : Cond.fieldLink RX5 9 "VariantParser$Variant" "tokens" "[I" ∈ WG := wg1 (List.mem_of_getElem? (i := 140) rfl) rfl
theorem m1_141 : Cond.fieldLink RX7 257 "VariantParser$Variant" "tokens" "[I" ∈ WG := wg1 (List.mem_of_getElem? (i := 141) rfl) rfl
theorem m1_142 : Cond.fieldLink RX5 15 "VariantParser$Variant" "places" "[I" ∈ WG := wg1 (List.mem_of_getElem? (i := 142) rfl) rfl
theorem m1_143 : Cond.fieldLink RX7 139 "VariantParser$Variant" "places" "[I" ∈ WG := wg1 (List.mem_of_getElem? (i := 143) rfl) rfl
theorem m1_144 : Cond.fieldLink RX5 32 "VariantParser$Variant" "count" "I" ∈ WG := wg1 (List.mem_of_getElem? (i := 144) rfl) rfl
theorem m1_145 : Cond.fieldLink RX7 132 "VariantParser$Variant" "count" "I" ∈ WG := wg1 (List.mem_of_getElem? (i := 145) rfl) rfl
theorem m1_146 : Cond.fieldLink RX5 21 "VariantParser$Variant" "reading" "LVariantParser$Reading;" ∈ WG := wg1 (List.mem_of_getElem? (i := 146) rfl) rfl
theorem m1_147 : Cond.fieldLink RX7 148 "VariantParser$Variant" "reading" "LVariantParser$Reading;" ∈ WG := wg1 (List.mem_of_getElem? (i := 147) rfl) rfl
theorem m1_148 : Cond.fieldLink RX5 28 "VariantParser$Variant" "run" "LVariantParser$Run;" ∈ WG := wg1 (List.mem_of_getElem? (i := 148) rfl) rfl
theorem m1_149 : Cond.fieldLink RX7 169 "VariantParser$Variant" "run" "LVariantParser$Run;" ∈ WG := wg1 (List.mem_of_getElem? (i := 149) rfl) rfl
theorem m1_150 : Cond.laysFinal "VariantParser$Variant" "VariantParser$Variant" "tokens" "[I" ∈ WG := wg1 (List.mem_of_getElem? (i := 150) rfl) rfl
theorem m1_152 : Cond.laysFinal "VariantParser$Variant" "VariantParser$Variant" "places" "[I" ∈ WG := wg1 (List.mem_of_getElem? (i := 152) rfl) rfl
theorem m1_154 : Cond.lays "VariantParser$Variant" "VariantParser$Variant" "count" "I" ∈ WG := wg1 (List.mem_of_getElem? (i := 154) rfl) rfl
theorem m1_156 : Cond.laysFinal "VariantParser$Variant" "VariantParser$Variant" "reading" "LVariantParser$Reading;" ∈ WG := wg1 (List.mem_of_getElem? (i := 156) rfl) rfl
theorem m1_158 : Cond.laysFinal "VariantParser$Variant" "VariantParser$Variant" "run" "LVariantParser$Run;" ∈ WG := wg1 (List.mem_of_getElem? (i := 158) rfl) rfl
theorem m1_161 : Cond.fieldLink RX7 10 "VariantParser" "source" "LVariantParser$Source;" ∈ WG := wg1 (List.mem_of_getElem? (i := 161) rfl) rfl
theorem m1_162 : Cond.fieldLink RX7 19 "VariantParser" "walk" "LVariantParser$Walk;" ∈ WG := wg1 (List.mem_of_getElem? (i := 162) rfl) rfl
theorem m1_163 : Cond.fieldLink RX7 25 "VariantParser" "variantOf" "[LVariantParser$Variant;" ∈ WG := wg1 (List.mem_of_getElem? (i := 163) rfl) rfl
theorem m1_164 : Cond.fieldLink RX7 30 "VariantParser" "groupCounts" "[I" ∈ WG := wg1 (List.mem_of_getElem? (i := 164) rfl) rfl
theorem m1_165 : Cond.fieldLink RX7 34 "VariantParser" "isFresh" "Z" ∈ WG := wg1 (List.mem_of_getElem? (i := 165) rfl) rfl
theorem m1_166 : Cond.laysFinal "VariantParser" "VariantParser" "source" "LVariantParser$Source;" ∈ WG := wg1 (List.mem_of_getElem? (i := 166) rfl) rfl
theorem m1_168 : Cond.laysFinal "VariantParser" "VariantParser" "walk" "LVariantParser$Walk;" ∈ WG := wg1 (List.mem_of_getElem? (i := 168) rfl) rfl
theorem m1_170 : Cond.laysFinal "VariantParser" "VariantParser" "variantOf" "[LVariantParser$Variant;" ∈ WG := wg1 (List.mem_of_getElem? (i := 170) rfl) rfl
theorem m1_172 : Cond.laysFinal "VariantParser" "VariantParser" "groupCounts" "[I" ∈ WG := wg1 (List.mem_of_getElem? (i := 172) rfl) rfl
theorem m1_174 : Cond.lays "VariantParser" "VariantParser" "isFresh" "Z" ∈ WG := wg1 (List.mem_of_getElem? (i := 174) rfl) rfl
theorem m1_177 : Cond.methodLink RL 131 yX7_size ∈ WG := wg1 (List.mem_of_getElem? (i := 177) rfl) rfl
theorem m1_178 : Cond.instanceMethod yX7_size ∈ WG := wg1 (List.mem_of_getElem? (i := 178) rfl) rfl
theorem m1_179 : Cond.selects RX7 yX7_size yX7_size ∈ WG := wg1 (List.mem_of_getElem? (i := 179) rfl) rfl
theorem m1_180 : Cond.code yX7_size cX7_size 1 (some .int) ∈ WG := wg1 (List.mem_of_getElem? (i := 180) rfl) rfl
theorem m1_181 : Cond.methodLink RL 139 yX7_unfinished ∈ WG := wg1 (List.mem_of_getElem? (i := 181) rfl) rfl
theorem m1_182 : Cond.instanceMethod yX7_unfinished ∈ WG := wg1 (List.mem_of_getElem? (i := 182) rfl) rfl
theorem m1_183 : Cond.selects RX7 yX7_unfinished yX7_unfinished ∈ WG := wg1 (List.mem_of_getElem? (i := 183) rfl) rfl
theorem m1_184 : Cond.code yX7_unfinished cX7_unfinished 1 (some .int) ∈ WG := wg1 (List.mem_of_getElem? (i := 184) rfl) rfl
theorem m1_185 : Cond.methodLink RX7 75 yX4_countUnfinished ∈ WG := wg1 (List.mem_of_getElem? (i := 185) rfl) rfl
theorem m1_186 : Cond.instanceMethod yX4_countUnfinished ∈ WG := wg1 (List.mem_of_getElem? (i := 186) rfl) rfl
theorem m1_187 : Cond.selects RX4 yX4_countUnfinished yX4_countUnfinished ∈ WG := wg1 (List.mem_of_getElem? (i := 187) rfl) rfl
theorem m1_188 : Cond.code yX4_countUnfinished cX4_countUnfinished 3 (some .int) ∈ WG := wg1 (List.mem_of_getElem? (i := 188) rfl) rfl
theorem m1_189 : Cond.methodLink RX4 23 yX4_isWhen ∈ WG := wg1 (List.mem_of_getElem? (i := 189) rfl) rfl
theorem m1_190 : Cond.static yX4_isWhen ∈ WG := wg1 (List.mem_of_getElem? (i := 190) rfl) rfl
theorem m1_191 : Cond.code yX4_isWhen cX4_isWhen 1 (some .boolean) ∈ WG := wg1 (List.mem_of_getElem? (i := 191) rfl) rfl
theorem m1_192 : Cond.methodLink RL 152 yX7_dead ∈ WG := wg1 (List.mem_of_getElem? (i := 192) rfl) rfl
theorem m1_193 : Cond.instanceMethod yX7_dead ∈ WG := wg1 (List.mem_of_getElem? (i := 193) rfl) rfl
theorem m1_194 : Cond.selects RX7 yX7_dead yX7_dead ∈ WG := wg1 (List.mem_of_getElem? (i := 194) rfl) rfl
theorem m1_195 : Cond.code yX7_dead cX7_dead 3 (some .int) ∈ WG := wg1 (List.mem_of_getElem? (i := 195) rfl) rfl
theorem m1_196 : Cond.methodLink RX7 112 yX7_refresh ∈ WG := wg1 (List.mem_of_getElem? (i := 196) rfl) rfl
theorem m1_198 : Cond.instanceMethod yX7_refresh ∈ WG := wg1 (List.mem_of_getElem? (i := 198) rfl) rfl
theorem m1_199 : Cond.code yX7_refresh cX7_refresh 1 none ∈ WG := wg1 (List.mem_of_getElem? (i := 199) rfl) rfl
theorem m1_200 : Cond.methodLink RX7 224 yX6_goThrough ∈ WG := wg1 (List.mem_of_getElem? (i := 200) rfl) rfl
theorem m1_201 : Cond.instanceMethod yX6_goThrough ∈ WG := wg1 (List.mem_of_getElem? (i := 201) rfl) rfl
theorem m1_202 : Cond.selects RX6 yX6_goThrough yX6_goThrough ∈ WG := wg1 (List.mem_of_getElem? (i := 202) rfl) rfl
theorem m1_203 : Cond.code yX6_goThrough cX6_goThrough 4 none ∈ WG := wg1 (List.mem_of_getElem? (i := 203) rfl) rfl
theorem m1_204 : Cond.constant RX6 29 (65535) ∈ WG := wg1 (List.mem_of_getElem? (i := 204) rfl) rfl
theorem m1_205 : Cond.fieldLink RX6 37 "VariantParser$Walk" "ON_AT_FIRST" "[I" ∈ WG := wg1 (List.mem_of_getElem? (i := 205) rfl) rfl
theorem m1_207 : Cond.methodLink RX6 48 yX6_step ∈ WG := wg1 (List.mem_of_getElem? (i := 207) rfl) rfl
theorem m1_209 : Cond.instanceMethod yX6_step ∈ WG := wg1 (List.mem_of_getElem? (i := 209) rfl) rfl
theorem m1_210 : Cond.code yX6_step cX6_step 3 none ∈ WG := wg1 (List.mem_of_getElem? (i := 210) rfl) rfl
theorem m1_211 : Cond.methodLink RX6 52 yX4_isWhen ∈ WG := wg1 (List.mem_of_getElem? (i := 211) rfl) rfl
theorem m1_212 : Cond.methodLink RX6 56 yX6_enter ∈ WG := wg1 (List.mem_of_getElem? (i := 212) rfl) rfl
theorem m1_214 : Cond.instanceMethod yX6_enter ∈ WG := wg1 (List.mem_of_getElem? (i := 214) rfl) rfl
theorem m1_215 : Cond.code yX6_enter cX6_enter 3 none ∈ WG := wg1 (List.mem_of_getElem? (i := 215) rfl) rfl
theorem m1_216 : Cond.methodLink RX6 66 yX4_featureOf ∈ WG := wg1 (List.mem_of_getElem? (i := 216) rfl) rfl
theorem m1_217 : Cond.static yX4_featureOf ∈ WG := wg1 (List.mem_of_getElem? (i := 217) rfl) rfl
theorem m1_218 : Cond.code yX4_featureOf cX4_featureOf 1 (some .int) ∈ WG := wg1 (List.mem_of_getElem? (i := 218) rfl) rfl
theorem m1_219 : Cond.methodLink RX6 70 yX4_isForOn ∈ WG := wg1 (List.mem_of_getElem? (i := 219) rfl) rfl
theorem m1_220 : Cond.static yX4_isForOn ∈ WG := wg1 (List.mem_of_getElem? (i := 220) rfl) rfl
theorem m1_221 : Cond.code yX4_isForOn cX4_isForOn 1 (some .boolean) ∈ WG := wg1 (List.mem_of_getElem? (i := 221) rfl) rfl
theorem m1_222 : Cond.methodLink RX6 60 yX4_isSet ∈ WG := wg1 (List.mem_of_getElem? (i := 222) rfl) rfl
theorem m1_223 : Cond.static yX4_isSet ∈ WG := wg1 (List.mem_of_getElem? (i := 223) rfl) rfl
theorem m1_224 : Cond.code yX4_isSet cX4_isSet 1 (some .boolean) ∈ WG := wg1 (List.mem_of_getElem? (i := 224) rfl) rfl
theorem m1_225 : Cond.methodLink RX6 63 yX6_turn ∈ WG := wg1 (List.mem_of_getElem? (i := 225) rfl) rfl
theorem m1_227 : Cond.instanceMethod yX6_turn ∈ WG := wg1 (List.mem_of_getElem? (i := 227) rfl) rfl
theorem m1_228 : Cond.code yX6_turn cX6_turn 3 none ∈ WG := wg1 (List.mem_of_getElem? (i := 228) rfl) rfl
theorem m1_229 : Cond.methodLink RX7 228 yX7_collectVariants ∈ WG := wg1 (List.mem_of_getElem? (i := 229) rfl) rfl
theorem m1_231 : Cond.instanceMethod yX7_collectVariants ∈ WG := wg1 (List.mem_of_getElem? (i := 231) rfl) rfl
theorem m1_232 : Cond.code yX7_collectVariants cX7_collectVariants 4 none ∈ WG := wg1 (List.mem_of_getElem? (i := 232) rfl) rfl
theorem m1_233 : Cond.methodLink RX7 42 yX0_isToken ∈ WG := wg1 (List.mem_of_getElem? (i := 233) rfl) rfl
theorem m1_234 : Cond.static yX0_isToken ∈ WG := wg1 (List.mem_of_getElem? (i := 234) rfl) rfl
theorem m1_235 : Cond.code yX0_isToken cX0_isToken 1 (some .boolean) ∈ WG := wg1 (List.mem_of_getElem? (i := 235) rfl) rfl
theorem m1_236 : Cond.methodLink RX0 7 yX0_isDigit ∈ WG := wg1 (List.mem_of_getElem? (i := 236) rfl) rfl
theorem m1_237 : Cond.static yX0_isDigit ∈ WG := wg1 (List.mem_of_getElem? (i := 237) rfl) rfl
theorem m1_238 : Cond.code yX0_isDigit cX0_isDigit 1 (some .boolean) ∈ WG := wg1 (List.mem_of_getElem? (i := 238) rfl) rfl
theorem m1_239 : Cond.methodLink RX0 13 yX0_isName ∈ WG := wg1 (List.mem_of_getElem? (i := 239) rfl) rfl
theorem m2_0 : Cond.static yX0_isName ∈ WG := wg2 (List.mem_of_getElem? (i := 0) rfl) rfl
theorem m2_1 : Cond.code yX0_isName cX0_isName 1 (some .boolean) ∈ WG := wg2 (List.mem_of_getElem? (i := 1) rfl) rfl
theorem m2_2 : Cond.methodLink RX7 237 yX6_isPresent ∈ WG := wg2 (List.mem_of_getElem? (i := 2) rfl) rfl
theorem m2_3 : Cond.instanceMethod yX6_isPresent ∈ WG := wg2 (List.mem_of_getElem? (i := 3) rfl) rfl
theorem m2_4 : Cond.selects RX6 yX6_isPresent yX6_isPresent ∈ WG := wg2 (List.mem_of_getElem? (i := 4) rfl) rfl
theorem m2_5 : Cond.code yX6_isPresent cX6_isPresent 3 (some .boolean) ∈ WG := wg2 (List.mem_of_getElem? (i := 5) rfl) rfl
theorem m2_6 : Cond.methodLink RX7 240 yX5_add ∈ WG := wg2 (List.mem_of_getElem? (i := 6) rfl) rfl
theorem m2_7 : Cond.instanceMethod yX5_add ∈ WG := wg2 (List.mem_of_getElem? (i := 7) rfl) rfl
theorem m2_8 : Cond.selects RX5 yX5_add yX5_add ∈ WG := wg2 (List.mem_of_getElem? (i := 8) rfl) rfl
theorem m2_9 : Cond.code yX5_add cX5_add 3 none ∈ WG := wg2 (List.mem_of_getElem? (i := 9) rfl) rfl
theorem m2_10 : Cond.methodLink RX7 231 yX7_readAll ∈ WG := wg2 (List.mem_of_getElem? (i := 10) rfl) rfl
theorem m2_12 : Cond.instanceMethod yX7_readAll ∈ WG := wg2 (List.mem_of_getElem? (i := 12) rfl) rfl
theorem m2_13 : Cond.code yX7_readAll cX7_readAll 3 none ∈ WG := wg2 (List.mem_of_getElem? (i := 13) rfl) rfl
theorem m2_14 : Cond.methodLink RX7 242 yX1_begin ∈ WG := wg2 (List.mem_of_getElem? (i := 14) rfl) rfl
theorem m2_15 : Cond.instanceMethod yX1_begin ∈ WG := wg2 (List.mem_of_getElem? (i := 15) rfl) rfl
theorem m2_16 : Cond.selects RX1 yX1_begin yX1_begin ∈ WG := wg2 (List.mem_of_getElem? (i := 16) rfl) rfl
theorem m2_17 : Cond.code yX1_begin cX1_begin 1 none ∈ WG := wg2 (List.mem_of_getElem? (i := 17) rfl) rfl
theorem m2_18 : Cond.methodLink RX1 24 yX1_push ∈ WG := wg2 (List.mem_of_getElem? (i := 18) rfl) rfl
theorem m2_20 : Cond.instanceMethod yX1_push ∈ WG := wg2 (List.mem_of_getElem? (i := 20) rfl) rfl
theorem m2_21 : Cond.code yX1_push cX1_push 2 none ∈ WG := wg2 (List.mem_of_getElem? (i := 21) rfl) rfl
theorem m2_22 : Cond.methodLink RX7 245 yX7_countGroups ∈ WG := wg2 (List.mem_of_getElem? (i := 22) rfl) rfl
theorem m2_24 : Cond.instanceMethod yX7_countGroups ∈ WG := wg2 (List.mem_of_getElem? (i := 24) rfl) rfl
theorem m2_25 : Cond.code yX7_countGroups cX7_countGroups 4 (some .int) ∈ WG := wg2 (List.mem_of_getElem? (i := 25) rfl) rfl
theorem m2_26 : Cond.methodLink RX7 248 yX7_isReadBy ∈ WG := wg2 (List.mem_of_getElem? (i := 26) rfl) rfl
theorem m2_28 : Cond.instanceMethod yX7_isReadBy ∈ WG := wg2 (List.mem_of_getElem? (i := 28) rfl) rfl
theorem m2_29 : Cond.code yX7_isReadBy cX7_isReadBy 3 (some .boolean) ∈ WG := wg2 (List.mem_of_getElem? (i := 29) rfl) rfl
theorem m2_30 : Cond.methodLink RX7 264 yX7_isFirstOfItsGroup ∈ WG := wg2 (List.mem_of_getElem? (i := 30) rfl) rfl
theorem m2_32 : Cond.instanceMethod yX7_isFirstOfItsGroup ∈ WG := wg2 (List.mem_of_getElem? (i := 32) rfl) rfl
theorem m2_33 : Cond.code yX7_isFirstOfItsGroup cX7_isFirstOfItsGroup 5 (some .boolean) ∈ WG := wg2 (List.mem_of_getElem? (i := 33) rfl) rfl
theorem m2_34 : Cond.methodLink RX7 267 yX1_hasSameStack ∈ WG := wg2 (List.mem_of_getElem? (i := 34) rfl) rfl
theorem m2_35 : Cond.instanceMethod yX1_hasSameStack ∈ WG := wg2 (List.mem_of_getElem? (i := 35) rfl) rfl
theorem m2_36 : Cond.selects RX1 yX1_hasSameStack yX1_hasSameStack ∈ WG := wg2 (List.mem_of_getElem? (i := 36) rfl) rfl
theorem m2_37 : Cond.code yX1_hasSameStack cX1_hasSameStack 2 (some .boolean) ∈ WG := wg2 (List.mem_of_getElem? (i := 37) rfl) rfl
theorem m2_38 : Cond.methodLink RX1 37 yX2_areSame ∈ WG := wg2 (List.mem_of_getElem? (i := 38) rfl) rfl
theorem m2_39 : Cond.static yX2_areSame ∈ WG := wg2 (List.mem_of_getElem? (i := 39) rfl) rfl
theorem m2_40 : Cond.code yX2_areSame cX2_areSame 4 (some .boolean) ∈ WG := wg2 (List.mem_of_getElem? (i := 40) rfl) rfl
theorem m2_41 : Cond.methodLink RX2 7 yJ9_min_7cf53 ∈ WG := wg2 (List.mem_of_getElem? (i := 41) rfl) rfl
theorem m2_42 : Cond.static yJ9_min_7cf53 ∈ WG := wg2 (List.mem_of_getElem? (i := 42) rfl) rfl
theorem m2_43 : Cond.code yJ9_min_7cf53 cJ9_min_7cf53 2 (some .int) ∈ WG := wg2 (List.mem_of_getElem? (i := 43) rfl) rfl
theorem m2_44 : Cond.methodLink RX7 251 yX1_take ∈ WG := wg2 (List.mem_of_getElem? (i := 44) rfl) rfl
theorem m2_45 : Cond.instanceMethod yX1_take ∈ WG := wg2 (List.mem_of_getElem? (i := 45) rfl) rfl
theorem m2_46 : Cond.selects RX1 yX1_take yX1_take ∈ WG := wg2 (List.mem_of_getElem? (i := 46) rfl) rfl
theorem m2_47 : Cond.code yX1_take cX1_take 3 none ∈ WG := wg2 (List.mem_of_getElem? (i := 47) rfl) rfl
theorem m2_48 : Cond.methodLink RX1 34 yX1_replaceTop ∈ WG := wg2 (List.mem_of_getElem? (i := 48) rfl) rfl
theorem m2_50 : Cond.instanceMethod yX1_replaceTop ∈ WG := wg2 (List.mem_of_getElem? (i := 50) rfl) rfl
theorem m2_51 : Cond.code yX1_replaceTop cX1_replaceTop 7 none ∈ WG := wg2 (List.mem_of_getElem? (i := 51) rfl) rfl
theorem m2_52 : Cond.methodLink RX1 43 yX0_isReplaced ∈ WG := wg2 (List.mem_of_getElem? (i := 52) rfl) rfl
theorem m2_53 : Cond.static yX0_isReplaced ∈ WG := wg2 (List.mem_of_getElem? (i := 53) rfl) rfl
theorem m2_54 : Cond.code yX0_isReplaced cX0_isReplaced 1 (some .boolean) ∈ WG := wg2 (List.mem_of_getElem? (i := 54) rfl) rfl
theorem m2_55 : Cond.methodLink RX1 47 yX0_replacement ∈ WG := wg2 (List.mem_of_getElem? (i := 55) rfl) rfl
theorem m2_56 : Cond.static yX0_replacement ∈ WG := wg2 (List.mem_of_getElem? (i := 56) rfl) rfl
theorem m2_57 : Cond.code yX0_replacement cX0_replacement 2 (some (.object "java/lang/String")) ∈ WG := wg2 (List.mem_of_getElem? (i := 57) rfl) rfl
theorem m2_58 : Cond.methodLink RX0 16 yX0_canBeginStatement ∈ WG := wg2 (List.mem_of_getElem? (i := 58) rfl) rfl
theorem m2_59 : Cond.static yX0_canBeginStatement ∈ WG := wg2 (List.mem_of_getElem? (i := 59) rfl) rfl
theorem m2_60 : Cond.code yX0_canBeginStatement cX0_canBeginStatement 1 (some .boolean) ∈ WG := wg2 (List.mem_of_getElem? (i := 60) rfl) rfl
theorem m2_76 : Cond.methodLink RX1 51 yJ0_length_8abf5 ∈ WG := wg2 (List.mem_of_getElem? (i := 76) rfl) rfl
theorem m2_77 : Cond.instanceMethod yJ0_length_8abf5 ∈ WG := wg2 (List.mem_of_getElem? (i := 77) rfl) rfl
theorem m2_78 : Cond.selects RJ0 yJ0_length_8abf5 yJ0_length_8abf5 ∈ WG := wg2 (List.mem_of_getElem? (i := 78) rfl) rfl
theorem m2_79 : Cond.code yJ0_length_8abf5 cJ0_length_8abf5 1 (some .int) ∈ WG := wg2 (List.mem_of_getElem? (i := 79) rfl) rfl
theorem m2_80 : Cond.methodLink RJ0 335 yJ0_coder_7d493 ∈ WG := wg2 (List.mem_of_getElem? (i := 80) rfl) rfl
theorem m2_81 : Cond.instanceMethod yJ0_coder_7d493 ∈ WG := wg2 (List.mem_of_getElem? (i := 81) rfl) rfl
theorem m2_82 : Cond.selects RJ0 yJ0_coder_7d493 yJ0_coder_7d493 ∈ WG := wg2 (List.mem_of_getElem? (i := 82) rfl) rfl
theorem m2_83 : Cond.code yJ0_coder_7d493 cJ0_coder_7d493 1 (some .byte) ∈ WG := wg2 (List.mem_of_getElem? (i := 83) rfl) rfl
theorem m2_84 : Cond.fieldLink RJ0 38 "java/lang/String" "COMPACT_STRINGS" "Z" ∈ WG := wg2 (List.mem_of_getElem? (i := 84) rfl) rfl
theorem m2_86 : Cond.methodLink RX1 57 yJ0_charAt_5068e ∈ WG := wg2 (List.mem_of_getElem? (i := 86) rfl) rfl
theorem m2_87 : Cond.instanceMethod yJ0_charAt_5068e ∈ WG := wg2 (List.mem_of_getElem? (i := 87) rfl) rfl
theorem m2_88 : Cond.selects RJ0 yJ0_charAt_5068e yJ0_charAt_5068e ∈ WG := wg2 (List.mem_of_getElem? (i := 88) rfl) rfl
theorem m2_89 : Cond.code yJ0_charAt_5068e cJ0_charAt_5068e 2 (some .char) ∈ WG := wg2 (List.mem_of_getElem? (i := 89) rfl) rfl
theorem m2_90 : Cond.methodLink RJ0 492 yJ0_isLatin1_aae02 ∈ WG := wg2 (List.mem_of_getElem? (i := 90) rfl) rfl
theorem m2_91 : Cond.instanceMethod yJ0_isLatin1_aae02 ∈ WG := wg2 (List.mem_of_getElem? (i := 91) rfl) rfl
theorem m2_92 : Cond.selects RJ0 yJ0_isLatin1_aae02 yJ0_isLatin1_aae02 ∈ WG := wg2 (List.mem_of_getElem? (i := 92) rfl) rfl
theorem m2_93 : Cond.code yJ0_isLatin1_aae02 cJ0_isLatin1_aae02 1 (some .boolean) ∈ WG := wg2 (List.mem_of_getElem? (i := 93) rfl) rfl
theorem m2_94 : Cond.methodLink RJ0 495 yJ1_charAt_3b067 ∈ WG := wg2 (List.mem_of_getElem? (i := 94) rfl) rfl
theorem m2_95 : Cond.static yJ1_charAt_3b067 ∈ WG := wg2 (List.mem_of_getElem? (i := 95) rfl) rfl
theorem m2_96 : Cond.code yJ1_charAt_3b067 cJ1_charAt_3b067 2 (some .char) ∈ WG := wg2 (List.mem_of_getElem? (i := 96) rfl) rfl
theorem m2_97 : Cond.methodLink RJ1 9 yJ0_checkIndex_df160 ∈ WG := wg2 (List.mem_of_getElem? (i := 97) rfl) rfl
theorem m2_98 : Cond.static yJ0_checkIndex_df160 ∈ WG := wg2 (List.mem_of_getElem? (i := 98) rfl) rfl
theorem m2_99 : Cond.code yJ0_checkIndex_df160 cJ0_checkIndex_df160 2 none ∈ WG := wg2 (List.mem_of_getElem? (i := 99) rfl) rfl
theorem m2_100 : Cond.fieldLink RJ0 1053 "jdk/internal/util/Preconditions" "SIOOBE_FORMATTER" "Ljava/util/function/BiFunction;" ∈ WG := wg2 (List.mem_of_getElem? (i := 100) rfl) rfl
theorem m2_102 : Cond.methodLink RJ0 1059 yJ3_checkIndex_8e157 ∈ WG := wg2 (List.mem_of_getElem? (i := 102) rfl) rfl
theorem m2_103 : Cond.static yJ3_checkIndex_8e157 ∈ WG := wg2 (List.mem_of_getElem? (i := 103) rfl) rfl
theorem m2_104 : Cond.code yJ3_checkIndex_8e157 cJ3_checkIndex_8e157 3 (some .int) ∈ WG := wg2 (List.mem_of_getElem? (i := 104) rfl) rfl
theorem m2_105 : Cond.methodLink RJ0 498 yJ2_charAt_3b067 ∈ WG := wg2 (List.mem_of_getElem? (i := 105) rfl) rfl
theorem m2_106 : Cond.static yJ2_charAt_3b067 ∈ WG := wg2 (List.mem_of_getElem? (i := 106) rfl) rfl
theorem m2_107 : Cond.code yJ2_charAt_3b067 cJ2_charAt_3b067 2 (some .char) ∈ WG := wg2 (List.mem_of_getElem? (i := 107) rfl) rfl
theorem m2_108 : Cond.methodLink RJ2 67 yJ2_checkIndex_2214a ∈ WG := wg2 (List.mem_of_getElem? (i := 108) rfl) rfl
theorem m2_109 : Cond.static yJ2_checkIndex_2214a ∈ WG := wg2 (List.mem_of_getElem? (i := 109) rfl) rfl
theorem m2_110 : Cond.code yJ2_checkIndex_2214a cJ2_checkIndex_2214a 2 none ∈ WG := wg2 (List.mem_of_getElem? (i := 110) rfl) rfl
theorem m2_111 : Cond.methodLink RJ2 48 yJ2_length_9d52b ∈ WG := wg2 (List.mem_of_getElem? (i := 111) rfl) rfl
theorem m2_112 : Cond.static yJ2_length_9d52b ∈ WG := wg2 (List.mem_of_getElem? (i := 112) rfl) rfl
theorem m2_113 : Cond.code yJ2_length_9d52b cJ2_length_9d52b 1 (some .int) ∈ WG := wg2 (List.mem_of_getElem? (i := 113) rfl) rfl
theorem m2_114 : Cond.methodLink RJ2 414 yJ0_checkIndex_df160 ∈ WG := wg2 (List.mem_of_getElem? (i := 114) rfl) rfl
theorem m2_115 : Cond.methodLink RJ2 71 yJ2_getChar_3b067 ∈ WG := wg2 (List.mem_of_getElem? (i := 115) rfl) rfl
theorem m2_116 : Cond.static yJ2_getChar_3b067 ∈ WG := wg2 (List.mem_of_getElem? (i := 116) rfl) rfl
theorem m2_117 : Cond.code yJ2_getChar_3b067 cJ2_getChar_3b067 2 (some .char) ∈ WG := wg2 (List.mem_of_getElem? (i := 117) rfl) rfl
theorem m2_118 : Cond.fieldLink RJ2 44 "java/lang/StringUTF16" "$assertionsDisabled" "Z" ∈ WG := wg2 (List.mem_of_getElem? (i := 118) rfl) rfl
theorem m2_120 : Cond.fieldLink RJ2 59 "java/lang/StringUTF16" "HI_BYTE_SHIFT" "I" ∈ WG := wg2 (List.mem_of_getElem? (i := 120) rfl) rfl
theorem m2_122 : Cond.fieldLink RJ2 63 "java/lang/StringUTF16" "LO_BYTE_SHIFT" "I" ∈ WG := wg2 (List.mem_of_getElem? (i := 122) rfl) rfl
theorem m2_124 : Cond.methodLink RX7 254 yX1_end ∈ WG := wg2 (List.mem_of_getElem? (i := 124) rfl) rfl
theorem m2_125 : Cond.instanceMethod yX1_end ∈ WG := wg2 (List.mem_of_getElem? (i := 125) rfl) rfl
theorem m2_126 : Cond.selects RX1 yX1_end yX1_end ∈ WG := wg2 (List.mem_of_getElem? (i := 126) rfl) rfl
theorem m2_127 : Cond.code yX1_end cX1_end 2 none ∈ WG := wg2 (List.mem_of_getElem? (i := 127) rfl) rfl
theorem m2_128 : Cond.methodLink RX7 234 yX7_runAll ∈ WG := wg2 (List.mem_of_getElem? (i := 128) rfl) rfl
theorem m2_130 : Cond.instanceMethod yX7_runAll ∈ WG := wg2 (List.mem_of_getElem? (i := 130) rfl) rfl
theorem m2_131 : Cond.code yX7_runAll cX7_runAll 2 none ∈ WG := wg2 (List.mem_of_getElem? (i := 131) rfl) rfl
theorem m2_132 : Cond.methodLink RX7 260 yX3_execute ∈ WG := wg2 (List.mem_of_getElem? (i := 132) rfl) rfl
theorem m2_133 : Cond.instanceMethod yX3_execute ∈ WG := wg2 (List.mem_of_getElem? (i := 133) rfl) rfl
theorem m2_134 : Cond.selects RX3 yX3_execute yX3_execute ∈ WG := wg2 (List.mem_of_getElem? (i := 134) rfl) rfl
theorem m2_135 : Cond.code yX3_execute cX3_execute 4 none ∈ WG := wg2 (List.mem_of_getElem? (i := 135) rfl) rfl
theorem m2_136 : Cond.methodLink RX3 21 yJ9_min_7cf53 ∈ WG := wg2 (List.mem_of_getElem? (i := 136) rfl) rfl
theorem m2_137 : Cond.methodLink RX3 37 yX3_runStatements ∈ WG := wg2 (List.mem_of_getElem? (i := 137) rfl) rfl
theorem m2_139 : Cond.instanceMethod yX3_runStatements ∈ WG := wg2 (List.mem_of_getElem? (i := 139) rfl) rfl
theorem m2_140 : Cond.code yX3_runStatements cX3_runStatements 4 none ∈ WG := wg2 (List.mem_of_getElem? (i := 140) rfl) rfl
theorem m2_141 : Cond.methodLink RX3 49 yX3_peek ∈ WG := wg2 (List.mem_of_getElem? (i := 141) rfl) rfl
theorem m2_143 : Cond.instanceMethod yX3_peek ∈ WG := wg2 (List.mem_of_getElem? (i := 143) rfl) rfl
theorem m2_144 : Cond.code yX3_peek cX3_peek 1 (some .int) ∈ WG := wg2 (List.mem_of_getElem? (i := 144) rfl) rfl
theorem m2_145 : Cond.methodLink RX3 53 yX0_canBeginStatement ∈ WG := wg2 (List.mem_of_getElem? (i := 145) rfl) rfl
theorem m2_146 : Cond.methodLink RX3 57 yX3_runStatement ∈ WG := wg2 (List.mem_of_getElem? (i := 146) rfl) rfl
theorem m2_148 : Cond.instanceMethod yX3_runStatement ∈ WG := wg2 (List.mem_of_getElem? (i := 148) rfl) rfl
theorem m2_149 : Cond.code yX3_runStatement cX3_runStatement 5 none ∈ WG := wg2 (List.mem_of_getElem? (i := 149) rfl) rfl
theorem m2_150 : Cond.methodLink RX3 60 yX3_advance ∈ WG := wg2 (List.mem_of_getElem? (i := 150) rfl) rfl
theorem m2_152 : Cond.instanceMethod yX3_advance ∈ WG := wg2 (List.mem_of_getElem? (i := 152) rfl) rfl
theorem m2_153 : Cond.code yX3_advance cX3_advance 2 (some .int) ∈ WG := wg2 (List.mem_of_getElem? (i := 153) rfl) rfl
theorem m2_154 : Cond.methodLink RX3 63 yX3_runChoice ∈ WG := wg2 (List.mem_of_getElem? (i := 154) rfl) rfl
theorem m2_156 : Cond.instanceMethod yX3_runChoice ∈ WG := wg2 (List.mem_of_getElem? (i := 156) rfl) rfl
theorem m2_157 : Cond.code yX3_runChoice cX3_runChoice 4 none ∈ WG := wg2 (List.mem_of_getElem? (i := 157) rfl) rfl
theorem m2_158 : Cond.methodLink RX3 66 yX3_sum ∈ WG := wg2 (List.mem_of_getElem? (i := 158) rfl) rfl
theorem m2_160 : Cond.instanceMethod yX3_sum ∈ WG := wg2 (List.mem_of_getElem? (i := 160) rfl) rfl
theorem m2_161 : Cond.code yX3_sum cX3_sum 4 (some .int) ∈ WG := wg2 (List.mem_of_getElem? (i := 161) rfl) rfl
theorem m2_162 : Cond.methodLink RX3 78 yX3_product ∈ WG := wg2 (List.mem_of_getElem? (i := 162) rfl) rfl
theorem m2_164 : Cond.instanceMethod yX3_product ∈ WG := wg2 (List.mem_of_getElem? (i := 164) rfl) rfl
theorem m2_165 : Cond.code yX3_product cX3_product 4 (some .int) ∈ WG := wg2 (List.mem_of_getElem? (i := 165) rfl) rfl
theorem m2_166 : Cond.methodLink RX3 81 yX3_factor ∈ WG := wg2 (List.mem_of_getElem? (i := 166) rfl) rfl
theorem m2_168 : Cond.instanceMethod yX3_factor ∈ WG := wg2 (List.mem_of_getElem? (i := 168) rfl) rfl
theorem m2_169 : Cond.code yX3_factor cX3_factor 4 (some .int) ∈ WG := wg2 (List.mem_of_getElem? (i := 169) rfl) rfl
theorem m2_170 : Cond.methodLink RX3 84 yX3_operand ∈ WG := wg2 (List.mem_of_getElem? (i := 170) rfl) rfl
theorem m2_172 : Cond.instanceMethod yX3_operand ∈ WG := wg2 (List.mem_of_getElem? (i := 172) rfl) rfl
theorem m2_173 : Cond.code yX3_operand cX3_operand 4 (some .int) ∈ WG := wg2 (List.mem_of_getElem? (i := 173) rfl) rfl
theorem m2_174 : Cond.methodLink RX3 87 yX0_isDigit ∈ WG := wg2 (List.mem_of_getElem? (i := 174) rfl) rfl
theorem m2_175 : Cond.methodLink RX3 90 yX0_isName ∈ WG := wg2 (List.mem_of_getElem? (i := 175) rfl) rfl
theorem m2_176 : Cond.methodLink RX3 70 yX3_put ∈ WG := wg2 (List.mem_of_getElem? (i := 176) rfl) rfl
theorem m2_178 : Cond.instanceMethod yX3_put ∈ WG := wg2 (List.mem_of_getElem? (i := 178) rfl) rfl
theorem m2_179 : Cond.code yX3_put cX3_put 2 none ∈ WG := wg2 (List.mem_of_getElem? (i := 179) rfl) rfl
theorem m2_180 : Cond.methodLink RX3 74 yX3_assign ∈ WG := wg2 (List.mem_of_getElem? (i := 180) rfl) rfl
theorem m2_182 : Cond.instanceMethod yX3_assign ∈ WG := wg2 (List.mem_of_getElem? (i := 182) rfl) rfl
theorem m2_183 : Cond.code yX3_assign cX3_assign 3 none ∈ WG := wg2 (List.mem_of_getElem? (i := 183) rfl) rfl
theorem m2_184 : Cond.arrayClass .byte ∈ WG := wg2 (List.mem_of_getElem? (i := 184) rfl) rfl
theorem m2_185 : Cond.methodLink RL 162 yX7_variants ∈ WG := wg2 (List.mem_of_getElem? (i := 185) rfl) rfl
theorem m2_186 : Cond.instanceMethod yX7_variants ∈ WG := wg2 (List.mem_of_getElem? (i := 186) rfl) rfl
theorem m2_187 : Cond.selects RX7 yX7_variants yX7_variants ∈ WG := wg2 (List.mem_of_getElem? (i := 187) rfl) rfl
theorem m2_188 : Cond.code yX7_variants cX7_variants 3 (some .int) ∈ WG := wg2 (List.mem_of_getElem? (i := 188) rfl) rfl
theorem m2_189 : Cond.methodLink RX7 142 yX7_isFirstOfItsText ∈ WG := wg2 (List.mem_of_getElem? (i := 189) rfl) rfl
theorem m2_191 : Cond.instanceMethod yX7_isFirstOfItsText ∈ WG := wg2 (List.mem_of_getElem? (i := 191) rfl) rfl
theorem m2_192 : Cond.code yX7_isFirstOfItsText cX7_isFirstOfItsText 3 (some .boolean) ∈ WG := wg2 (List.mem_of_getElem? (i := 192) rfl) rfl
theorem m2_193 : Cond.methodLink RX7 271 yX5_hasSameTokens ∈ WG := wg2 (List.mem_of_getElem? (i := 193) rfl) rfl
theorem m2_194 : Cond.instanceMethod yX5_hasSameTokens ∈ WG := wg2 (List.mem_of_getElem? (i := 194) rfl) rfl
theorem m2_195 : Cond.selects RX5 yX5_hasSameTokens yX5_hasSameTokens ∈ WG := wg2 (List.mem_of_getElem? (i := 195) rfl) rfl
theorem m2_196 : Cond.code yX5_hasSameTokens cX5_hasSameTokens 2 (some .boolean) ∈ WG := wg2 (List.mem_of_getElem? (i := 196) rfl) rfl
theorem m2_197 : Cond.methodLink RX5 36 yX2_areSame ∈ WG := wg2 (List.mem_of_getElem? (i := 197) rfl) rfl
theorem m2_198 : Cond.methodLink RL 200 yX7_digest ∈ WG := wg2 (List.mem_of_getElem? (i := 198) rfl) rfl
theorem m2_199 : Cond.instanceMethod yX7_digest ∈ WG := wg2 (List.mem_of_getElem? (i := 199) rfl) rfl
theorem m2_200 : Cond.selects RX7 yX7_digest yX7_digest ∈ WG := wg2 (List.mem_of_getElem? (i := 200) rfl) rfl
theorem m2_201 : Cond.code yX7_digest cX7_digest 4 (some .long) ∈ WG := wg2 (List.mem_of_getElem? (i := 201) rfl) rfl
theorem m2_202 : Cond.constantLong RX7 191 (139) ∈ WG := wg2 (List.mem_of_getElem? (i := 202) rfl) rfl
theorem m2_203 : Cond.methodLink RX7 193 yX7_mix ∈ WG := wg2 (List.mem_of_getElem? (i := 203) rfl) rfl
theorem m2_204 : Cond.static yX7_mix ∈ WG := wg2 (List.mem_of_getElem? (i := 204) rfl) rfl
theorem m2_205 : Cond.code yX7_mix cX7_mix 4 (some .long) ∈ WG := wg2 (List.mem_of_getElem? (i := 205) rfl) rfl
theorem m2_206 : Cond.constantLong RX7 279 (31) ∈ WG := wg2 (List.mem_of_getElem? (i := 206) rfl) rfl
theorem m2_207 : Cond.methodLink RX7 197 yX7_mixVariant ∈ WG := wg2 (List.mem_of_getElem? (i := 207) rfl) rfl
theorem m2_208 : Cond.static yX7_mixVariant ∈ WG := wg2 (List.mem_of_getElem? (i := 208) rfl) rfl
theorem m2_209 : Cond.code yX7_mixVariant cX7_mixVariant 7 (some .long) ∈ WG := wg2 (List.mem_of_getElem? (i := 209) rfl) rfl
theorem m2_210 : Cond.methodLink RL 101 yL_write ∈ WG := wg2 (List.mem_of_getElem? (i := 210) rfl) rfl
theorem m2_211 : Cond.static yL_write ∈ WG := wg2 (List.mem_of_getElem? (i := 211) rfl) rfl
theorem m2_213 : Cond.classLink RL 13 "java/lang/IllegalArgumentException" ∈ WG := wg2 (List.mem_of_getElem? (i := 213) rfl) rfl
theorem m2_214 : Cond.classLink RL 15 "java/lang/IllegalStateException" ∈ WG := wg2 (List.mem_of_getElem? (i := 214) rfl) rfl
theorem m2_215 : Cond.methodLink RL 7 yX7_write ∈ WG := wg2 (List.mem_of_getElem? (i := 215) rfl) rfl
theorem m2_216 : Cond.instanceMethod yX7_write ∈ WG := wg2 (List.mem_of_getElem? (i := 216) rfl) rfl
theorem m2_217 : Cond.selects RX7 yX7_write yX7_write ∈ WG := wg2 (List.mem_of_getElem? (i := 217) rfl) rfl
theorem m2_218 : Cond.code yX7_write cX7_write 6 (some .int) ∈ WG := wg2 (List.mem_of_getElem? (i := 218) rfl) rfl
theorem m2_219 : Cond.methodLink RX7 38 yX7_byteOf ∈ WG := wg2 (List.mem_of_getElem? (i := 219) rfl) rfl
theorem m2_220 : Cond.static yX7_byteOf ∈ WG := wg2 (List.mem_of_getElem? (i := 220) rfl) rfl
theorem m2_221 : Cond.code yX7_byteOf cX7_byteOf 3 (some .int) ∈ WG := wg2 (List.mem_of_getElem? (i := 221) rfl) rfl
theorem m2_222 : Cond.classLink RX7 48 "java/lang/IllegalArgumentException" ∈ WG := wg2 (List.mem_of_getElem? (i := 222) rfl) rfl
theorem m2_223 : Cond.instantiable "java/lang/IllegalArgumentException" 6 ∈ WG := wg2 (List.mem_of_getElem? (i := 223) rfl) rfl
theorem m2_231 : Cond.selects "java/lang/IllegalArgumentException" ⟨"java/lang/Throwable", "fillInStackTrace", "(I)Ljava/lang/Throwable;"⟩ ⟨"java/lang/Throwable", "fillInStackTrace", "(I)Ljava/lang/Throwable;"⟩ ∈ WG := wg2 (List.mem_of_getElem? (i := 231) rfl) rfl
theorem m2_232 : Cond.selects "java/lang/IllegalArgumentException" ⟨"java/lang/Throwable", "fillInStackTrace", "()Ljava/lang/Throwable;"⟩ ⟨"java/lang/Throwable", "fillInStackTrace", "()Ljava/lang/Throwable;"⟩ ∈ WG := wg2 (List.mem_of_getElem? (i := 232) rfl) rfl
theorem m2_233 : Cond.lays "java/lang/IllegalArgumentException" "java/lang/Throwable" "cause" "Ljava/lang/Throwable;" ∈ WG := wg2 (List.mem_of_getElem? (i := 233) rfl) rfl
theorem m2_234 : Cond.lays "java/lang/Throwable" "java/lang/Throwable" "cause" "Ljava/lang/Throwable;" ∈ WG := wg2 (List.mem_of_getElem? (i := 234) rfl) rfl
theorem m2_235 : Cond.lays "java/lang/IllegalArgumentException" "java/lang/Throwable" "stackTrace" "[Ljava/lang/StackTraceElement;" ∈ WG := wg2 (List.mem_of_getElem? (i := 235) rfl) rfl
theorem m2_236 : Cond.lays "java/lang/Throwable" "java/lang/Throwable" "stackTrace" "[Ljava/lang/StackTraceElement;" ∈ WG := wg2 (List.mem_of_getElem? (i := 236) rfl) rfl
theorem m2_237 : Cond.lays "java/lang/IllegalArgumentException" "java/lang/Throwable" "suppressedExceptions" "Ljava/util/List;" ∈ WG := wg2 (List.mem_of_getElem? (i := 237) rfl) rfl
theorem m2_238 : Cond.lays "java/lang/Throwable" "java/lang/Throwable" "suppressedExceptions" "Ljava/util/List;" ∈ WG := wg2 (List.mem_of_getElem? (i := 238) rfl) rfl
theorem m2_239 : Cond.lays "java/lang/IllegalArgumentException" "java/lang/Throwable" "detailMessage" "Ljava/lang/String;" ∈ WG := wg2 (List.mem_of_getElem? (i := 239) rfl) rfl
theorem m3_0 : Cond.lays "java/lang/Throwable" "java/lang/Throwable" "detailMessage" "Ljava/lang/String;" ∈ WG := wg3 (List.mem_of_getElem? (i := 0) rfl) rfl
theorem m3_1 : Cond.lays "java/lang/IllegalArgumentException" "java/lang/Throwable" "backtrace" "Ljava/lang/Object;" ∈ WG := wg3 (List.mem_of_getElem? (i := 1) rfl) rfl
theorem m3_2 : Cond.lays "java/lang/Throwable" "java/lang/Throwable" "backtrace" "Ljava/lang/Object;" ∈ WG := wg3 (List.mem_of_getElem? (i := 2) rfl) rfl
theorem m3_3 : Cond.fieldLink "java/lang/Throwable" 198 "java/lang/Throwable" "backtrace" "Ljava/lang/Object;" ∈ WG := wg3 (List.mem_of_getElem? (i := 3) rfl) rfl
theorem m3_5 : Cond.instanceMethod ⟨"java/lang/Throwable", "<init>", "()V"⟩ ∈ WG := wg3 (List.mem_of_getElem? (i := 5) rfl) rfl
theorem m3_6 : Cond.code ⟨"java/lang/Throwable", "<init>", "()V"⟩ prog_24_method_1_code 1 none ∈ WG := wg3 (List.mem_of_getElem? (i := 6) rfl) rfl
theorem m3_7 : Cond.methodLink "java/lang/Throwable" 1 objectInit ∈ WG := wg3 (List.mem_of_getElem? (i := 7) rfl) rfl
theorem m3_8 : Cond.fieldLink "java/lang/Throwable" 13 "java/lang/Throwable" "UNASSIGNED_STACK" "[Ljava/lang/StackTraceElement;" ∈ WG := wg3 (List.mem_of_getElem? (i := 8) rfl) rfl
theorem m3_10 : Cond.fieldLink "java/lang/Throwable" 20 "java/lang/Throwable" "SUPPRESSED_SENTINEL" "Ljava/util/List;" ∈ WG := wg3 (List.mem_of_getElem? (i := 10) rfl) rfl
theorem m3_12 : Cond.methodLink "java/lang/Throwable" 27 ⟨"java/lang/Throwable", "fillInStackTrace", "()Ljava/lang/Throwable;"⟩ ∈ WG := wg3 (List.mem_of_getElem? (i := 12) rfl) rfl
theorem m3_13 : Cond.instanceMethod ⟨"java/lang/Throwable", "fillInStackTrace", "()Ljava/lang/Throwable;"⟩ ∈ WG := wg3 (List.mem_of_getElem? (i := 13) rfl) rfl
theorem m3_15 : Cond.selects "java/lang/IllegalStateException" ⟨"java/lang/Throwable", "fillInStackTrace", "()Ljava/lang/Throwable;"⟩ ⟨"java/lang/Throwable", "fillInStackTrace", "()Ljava/lang/Throwable;"⟩ ∈ WG := wg3 (List.mem_of_getElem? (i := 15) rfl) rfl
theorem m3_16 : Cond.selects "java/lang/IndexOutOfBoundsException" ⟨"java/lang/Throwable", "fillInStackTrace", "()Ljava/lang/Throwable;"⟩ ⟨"java/lang/Throwable", "fillInStackTrace", "()Ljava/lang/Throwable;"⟩ ∈ WG := wg3 (List.mem_of_getElem? (i := 16) rfl) rfl
theorem m3_17 : Cond.selects "java/util/NoSuchElementException" ⟨"java/lang/Throwable", "fillInStackTrace", "()Ljava/lang/Throwable;"⟩ ⟨"java/lang/Throwable", "fillInStackTrace", "()Ljava/lang/Throwable;"⟩ ∈ WG := wg3 (List.mem_of_getElem? (i := 17) rfl) rfl
theorem m3_19 : Cond.methodLink "java/lang/Throwable" 202 ⟨"java/lang/Throwable", "fillInStackTrace", "(I)Ljava/lang/Throwable;"⟩ ∈ WG := wg3 (List.mem_of_getElem? (i := 19) rfl) rfl
theorem m3_21 : Cond.instanceMethod ⟨"java/lang/Throwable", "fillInStackTrace", "(I)Ljava/lang/Throwable;"⟩ ∈ WG := wg3 (List.mem_of_getElem? (i := 21) rfl) rfl
theorem m3_22 : Cond.instantiable "java/lang/Throwable" 6 ∈ WG := wg3 (List.mem_of_getElem? (i := 22) rfl) rfl
theorem m3_25 : Cond.methodLink RX7 52 ⟨"java/lang/IllegalArgumentException", "<init>", "(Ljava/lang/String;)V"⟩ ∈ WG := wg3 (List.mem_of_getElem? (i := 25) rfl) rfl
theorem m3_26 : Cond.instanceMethod ⟨"java/lang/IllegalArgumentException", "<init>", "(Ljava/lang/String;)V"⟩ ∈ WG := wg3 (List.mem_of_getElem? (i := 26) rfl) rfl
theorem m3_27 : Cond.code ⟨"java/lang/IllegalArgumentException", "<init>", "(Ljava/lang/String;)V"⟩ prog_16_method_2_code 2 none ∈ WG := wg3 (List.mem_of_getElem? (i := 27) rfl) rfl
theorem m3_28 : Cond.methodLink "java/lang/IllegalArgumentException" 7 ⟨"java/lang/RuntimeException", "<init>", "(Ljava/lang/String;)V"⟩ ∈ WG := wg3 (List.mem_of_getElem? (i := 28) rfl) rfl
theorem m3_29 : Cond.instanceMethod ⟨"java/lang/RuntimeException", "<init>", "(Ljava/lang/String;)V"⟩ ∈ WG := wg3 (List.mem_of_getElem? (i := 29) rfl) rfl
theorem m3_30 : Cond.code ⟨"java/lang/RuntimeException", "<init>", "(Ljava/lang/String;)V"⟩ prog_20_method_2_code 2 none ∈ WG := wg3 (List.mem_of_getElem? (i := 30) rfl) rfl
theorem m3_31 : Cond.methodLink "java/lang/RuntimeException" 7 ⟨"java/lang/Exception", "<init>", "(Ljava/lang/String;)V"⟩ ∈ WG := wg3 (List.mem_of_getElem? (i := 31) rfl) rfl
theorem m3_32 : Cond.instanceMethod ⟨"java/lang/Exception", "<init>", "(Ljava/lang/String;)V"⟩ ∈ WG := wg3 (List.mem_of_getElem? (i := 32) rfl) rfl
theorem m3_33 : Cond.code ⟨"java/lang/Exception", "<init>", "(Ljava/lang/String;)V"⟩ prog_15_method_2_code 2 none ∈ WG := wg3 (List.mem_of_getElem? (i := 33) rfl) rfl
theorem m3_34 : Cond.methodLink "java/lang/Exception" 7 ⟨"java/lang/Throwable", "<init>", "(Ljava/lang/String;)V"⟩ ∈ WG := wg3 (List.mem_of_getElem? (i := 34) rfl) rfl
theorem m3_35 : Cond.instanceMethod ⟨"java/lang/Throwable", "<init>", "(Ljava/lang/String;)V"⟩ ∈ WG := wg3 (List.mem_of_getElem? (i := 35) rfl) rfl
theorem m3_36 : Cond.code ⟨"java/lang/Throwable", "<init>", "(Ljava/lang/String;)V"⟩ prog_24_method_2_code 2 none ∈ WG := wg3 (List.mem_of_getElem? (i := 36) rfl) rfl
theorem m3_38 : Cond.fieldLink "java/lang/Throwable" 31 "java/lang/Throwable" "detailMessage" "Ljava/lang/String;" ∈ WG := wg3 (List.mem_of_getElem? (i := 38) rfl) rfl
theorem m3_39 : Cond.fieldLink "java/lang/Throwable" 7 "java/lang/Throwable" "cause" "Ljava/lang/Throwable;" ∈ WG := wg3 (List.mem_of_getElem? (i := 39) rfl) rfl
theorem m3_40 : Cond.fieldLink "java/lang/Throwable" 17 "java/lang/Throwable" "stackTrace" "[Ljava/lang/StackTraceElement;" ∈ WG := wg3 (List.mem_of_getElem? (i := 40) rfl) rfl
theorem m3_41 : Cond.fieldLink "java/lang/Throwable" 24 "java/lang/Throwable" "suppressedExceptions" "Ljava/util/List;" ∈ WG := wg3 (List.mem_of_getElem? (i := 41) rfl) rfl
theorem m3_46 : Cond.lays "java/lang/IllegalArgumentException" "java/lang/Throwable" "depth" "I" ∈ WG := wg3 (List.mem_of_getElem? (i := 46) rfl) rfl
theorem m3_50 : Cond.classLink RX7 59 "java/lang/IllegalStateException" ∈ WG := wg3 (List.mem_of_getElem? (i := 50) rfl) rfl
theorem m3_51 : Cond.instantiable "java/lang/IllegalStateException" 6 ∈ WG := wg3 (List.mem_of_getElem? (i := 51) rfl) rfl
theorem m3_53 : Cond.selects "java/lang/IllegalStateException" ⟨"java/lang/Throwable", "fillInStackTrace", "(I)Ljava/lang/Throwable;"⟩ ⟨"java/lang/Throwable", "fillInStackTrace", "(I)Ljava/lang/Throwable;"⟩ ∈ WG := wg3 (List.mem_of_getElem? (i := 53) rfl) rfl
theorem m3_54 : Cond.lays "java/lang/IllegalStateException" "java/lang/Throwable" "cause" "Ljava/lang/Throwable;" ∈ WG := wg3 (List.mem_of_getElem? (i := 54) rfl) rfl
theorem m3_55 : Cond.lays "java/lang/IllegalStateException" "java/lang/Throwable" "stackTrace" "[Ljava/lang/StackTraceElement;" ∈ WG := wg3 (List.mem_of_getElem? (i := 55) rfl) rfl
theorem m3_56 : Cond.lays "java/lang/IllegalStateException" "java/lang/Throwable" "suppressedExceptions" "Ljava/util/List;" ∈ WG := wg3 (List.mem_of_getElem? (i := 56) rfl) rfl
theorem m3_57 : Cond.lays "java/lang/IllegalStateException" "java/lang/Throwable" "detailMessage" "Ljava/lang/String;" ∈ WG := wg3 (List.mem_of_getElem? (i := 57) rfl) rfl
theorem m3_58 : Cond.lays "java/lang/IllegalStateException" "java/lang/Throwable" "backtrace" "Ljava/lang/Object;" ∈ WG := wg3 (List.mem_of_getElem? (i := 58) rfl) rfl
theorem m3_60 : Cond.methodLink RX7 63 ⟨"java/lang/IllegalStateException", "<init>", "(Ljava/lang/String;)V"⟩ ∈ WG := wg3 (List.mem_of_getElem? (i := 60) rfl) rfl
theorem m3_61 : Cond.instanceMethod ⟨"java/lang/IllegalStateException", "<init>", "(Ljava/lang/String;)V"⟩ ∈ WG := wg3 (List.mem_of_getElem? (i := 61) rfl) rfl
theorem m3_62 : Cond.code ⟨"java/lang/IllegalStateException", "<init>", "(Ljava/lang/String;)V"⟩ prog_17_method_2_code 2 none ∈ WG := wg3 (List.mem_of_getElem? (i := 62) rfl) rfl
theorem m3_63 : Cond.methodLink "java/lang/IllegalStateException" 7 ⟨"java/lang/RuntimeException", "<init>", "(Ljava/lang/String;)V"⟩ ∈ WG := wg3 (List.mem_of_getElem? (i := 63) rfl) rfl
theorem m3_64 : Cond.lays "java/lang/IllegalStateException" "java/lang/Throwable" "depth" "I" ∈ WG := wg3 (List.mem_of_getElem? (i := 64) rfl) rfl
theorem m3_66 : Cond.methodLink RX7 64 yX7_append ∈ WG := wg3 (List.mem_of_getElem? (i := 66) rfl) rfl
theorem m3_68 : Cond.instanceMethod yX7_append ∈ WG := wg3 (List.mem_of_getElem? (i := 68) rfl) rfl
theorem m3_69 : Cond.code yX7_append cX7_append 2 (some .int) ∈ WG := wg3 (List.mem_of_getElem? (i := 69) rfl) rfl
theorem m3_70 : Cond.methodLink RX7 221 yX4_add ∈ WG := wg3 (List.mem_of_getElem? (i := 70) rfl) rfl
theorem m3_71 : Cond.instanceMethod yX4_add ∈ WG := wg3 (List.mem_of_getElem? (i := 71) rfl) rfl
theorem m3_72 : Cond.selects RX4 yX4_add yX4_add ∈ WG := wg3 (List.mem_of_getElem? (i := 72) rfl) rfl
theorem m3_73 : Cond.code yX4_add cX4_add 2 none ∈ WG := wg3 (List.mem_of_getElem? (i := 73) rfl) rfl
theorem m3_74 : Cond.methodLink RL 110 yL_when ∈ WG := wg3 (List.mem_of_getElem? (i := 74) rfl) rfl
theorem m3_75 : Cond.static yL_when ∈ WG := wg3 (List.mem_of_getElem? (i := 75) rfl) rfl
theorem m3_77 : Cond.classLink RL 21 "java/lang/IndexOutOfBoundsException" ∈ WG := wg3 (List.mem_of_getElem? (i := 77) rfl) rfl
theorem m3_78 : Cond.methodLink RL 17 yX7_when ∈ WG := wg3 (List.mem_of_getElem? (i := 78) rfl) rfl
theorem m3_79 : Cond.instanceMethod yX7_when ∈ WG := wg3 (List.mem_of_getElem? (i := 79) rfl) rfl
theorem m3_80 : Cond.selects RX7 yX7_when yX7_when ∈ WG := wg3 (List.mem_of_getElem? (i := 80) rfl) rfl
theorem m3_81 : Cond.code yX7_when cX7_when 3 (some .int) ∈ WG := wg3 (List.mem_of_getElem? (i := 81) rfl) rfl
theorem m3_82 : Cond.methodLink RX7 68 yX7_checkFeature ∈ WG := wg3 (List.mem_of_getElem? (i := 82) rfl) rfl
theorem m3_84 : Cond.instanceMethod yX7_checkFeature ∈ WG := wg3 (List.mem_of_getElem? (i := 84) rfl) rfl
theorem m3_85 : Cond.code yX7_checkFeature cX7_checkFeature 2 none ∈ WG := wg3 (List.mem_of_getElem? (i := 85) rfl) rfl
theorem m3_86 : Cond.classLink RX7 201 "java/lang/IndexOutOfBoundsException" ∈ WG := wg3 (List.mem_of_getElem? (i := 86) rfl) rfl
theorem m3_87 : Cond.instantiable "java/lang/IndexOutOfBoundsException" 6 ∈ WG := wg3 (List.mem_of_getElem? (i := 87) rfl) rfl
theorem m3_89 : Cond.selects "java/lang/IndexOutOfBoundsException" ⟨"java/lang/Throwable", "fillInStackTrace", "(I)Ljava/lang/Throwable;"⟩ ⟨"java/lang/Throwable", "fillInStackTrace", "(I)Ljava/lang/Throwable;"⟩ ∈ WG := wg3 (List.mem_of_getElem? (i := 89) rfl) rfl
theorem m3_90 : Cond.lays "java/lang/IndexOutOfBoundsException" "java/lang/Throwable" "cause" "Ljava/lang/Throwable;" ∈ WG := wg3 (List.mem_of_getElem? (i := 90) rfl) rfl
theorem m3_91 : Cond.lays "java/lang/IndexOutOfBoundsException" "java/lang/Throwable" "stackTrace" "[Ljava/lang/StackTraceElement;" ∈ WG := wg3 (List.mem_of_getElem? (i := 91) rfl) rfl
theorem m3_92 : Cond.lays "java/lang/IndexOutOfBoundsException" "java/lang/Throwable" "suppressedExceptions" "Ljava/util/List;" ∈ WG := wg3 (List.mem_of_getElem? (i := 92) rfl) rfl
theorem m3_93 : Cond.lays "java/lang/IndexOutOfBoundsException" "java/lang/Throwable" "detailMessage" "Ljava/lang/String;" ∈ WG := wg3 (List.mem_of_getElem? (i := 93) rfl) rfl
theorem m3_94 : Cond.lays "java/lang/IndexOutOfBoundsException" "java/lang/Throwable" "backtrace" "Ljava/lang/Object;" ∈ WG := wg3 (List.mem_of_getElem? (i := 94) rfl) rfl
theorem m3_96 : Cond.methodLink RX7 205 ⟨"java/lang/IndexOutOfBoundsException", "<init>", "(Ljava/lang/String;)V"⟩ ∈ WG := wg3 (List.mem_of_getElem? (i := 96) rfl) rfl
theorem m3_97 : Cond.instanceMethod ⟨"java/lang/IndexOutOfBoundsException", "<init>", "(Ljava/lang/String;)V"⟩ ∈ WG := wg3 (List.mem_of_getElem? (i := 97) rfl) rfl
theorem m3_98 : Cond.code ⟨"java/lang/IndexOutOfBoundsException", "<init>", "(Ljava/lang/String;)V"⟩ prog_18_method_2_code 2 none ∈ WG := wg3 (List.mem_of_getElem? (i := 98) rfl) rfl
theorem m3_99 : Cond.methodLink "java/lang/IndexOutOfBoundsException" 7 ⟨"java/lang/RuntimeException", "<init>", "(Ljava/lang/String;)V"⟩ ∈ WG := wg3 (List.mem_of_getElem? (i := 99) rfl) rfl
theorem m3_100 : Cond.lays "java/lang/IndexOutOfBoundsException" "java/lang/Throwable" "depth" "I" ∈ WG := wg3 (List.mem_of_getElem? (i := 100) rfl) rfl
theorem m3_102 : Cond.methodLink RX7 72 yX7_checkRoom ∈ WG := wg3 (List.mem_of_getElem? (i := 102) rfl) rfl
theorem m3_104 : Cond.instanceMethod yX7_checkRoom ∈ WG := wg3 (List.mem_of_getElem? (i := 104) rfl) rfl
theorem m3_105 : Cond.code yX7_checkRoom cX7_checkRoom 1 none ∈ WG := wg3 (List.mem_of_getElem? (i := 105) rfl) rfl
theorem m3_107 : Cond.methodLink RX7 81 yX4_codeOfWhen ∈ WG := wg3 (List.mem_of_getElem? (i := 107) rfl) rfl
theorem m3_108 : Cond.static yX4_codeOfWhen ∈ WG := wg3 (List.mem_of_getElem? (i := 108) rfl) rfl
theorem m3_109 : Cond.code yX4_codeOfWhen cX4_codeOfWhen 2 (some .int) ∈ WG := wg3 (List.mem_of_getElem? (i := 109) rfl) rfl
theorem m3_110 : Cond.methodLink RL 114 yL_otherwise ∈ WG := wg3 (List.mem_of_getElem? (i := 110) rfl) rfl
theorem m3_111 : Cond.static yL_otherwise ∈ WG := wg3 (List.mem_of_getElem? (i := 111) rfl) rfl
theorem m3_113 : Cond.methodLink RL 23 yX7_otherwise ∈ WG := wg3 (List.mem_of_getElem? (i := 113) rfl) rfl
theorem m3_114 : Cond.instanceMethod yX7_otherwise ∈ WG := wg3 (List.mem_of_getElem? (i := 114) rfl) rfl
theorem m3_115 : Cond.selects RX7 yX7_otherwise yX7_otherwise ∈ WG := wg3 (List.mem_of_getElem? (i := 115) rfl) rfl
theorem m3_116 : Cond.code yX7_otherwise cX7_otherwise 1 (some .int) ∈ WG := wg3 (List.mem_of_getElem? (i := 116) rfl) rfl
theorem m3_117 : Cond.methodLink RX7 85 yX7_checkUnfinished ∈ WG := wg3 (List.mem_of_getElem? (i := 117) rfl) rfl
theorem m3_119 : Cond.instanceMethod yX7_checkUnfinished ∈ WG := wg3 (List.mem_of_getElem? (i := 119) rfl) rfl
theorem m3_120 : Cond.code yX7_checkUnfinished cX7_checkUnfinished 1 none ∈ WG := wg3 (List.mem_of_getElem? (i := 120) rfl) rfl
theorem m3_122 : Cond.methodLink RX7 88 yX4_lastUnfinishedHasOtherwise ∈ WG := wg3 (List.mem_of_getElem? (i := 122) rfl) rfl
theorem m3_123 : Cond.instanceMethod yX4_lastUnfinishedHasOtherwise ∈ WG := wg3 (List.mem_of_getElem? (i := 123) rfl) rfl
theorem m3_124 : Cond.selects RX4 yX4_lastUnfinishedHasOtherwise yX4_lastUnfinishedHasOtherwise ∈ WG := wg3 (List.mem_of_getElem? (i := 124) rfl) rfl
theorem m3_125 : Cond.code yX4_lastUnfinishedHasOtherwise cX4_lastUnfinishedHasOtherwise 4 (some .boolean) ∈ WG := wg3 (List.mem_of_getElem? (i := 125) rfl) rfl
theorem m3_127 : Cond.methodLink RL 118 yL_done ∈ WG := wg3 (List.mem_of_getElem? (i := 127) rfl) rfl
theorem m3_128 : Cond.static yL_done ∈ WG := wg3 (List.mem_of_getElem? (i := 128) rfl) rfl
theorem m3_130 : Cond.methodLink RL 27 yX7_done ∈ WG := wg3 (List.mem_of_getElem? (i := 130) rfl) rfl
theorem m3_131 : Cond.instanceMethod yX7_done ∈ WG := wg3 (List.mem_of_getElem? (i := 131) rfl) rfl
theorem m3_132 : Cond.selects RX7 yX7_done yX7_done ∈ WG := wg3 (List.mem_of_getElem? (i := 132) rfl) rfl
theorem m3_133 : Cond.code yX7_done cX7_done 1 (some .int) ∈ WG := wg3 (List.mem_of_getElem? (i := 133) rfl) rfl
theorem m3_134 : Cond.methodLink RL 121 yL_set ∈ WG := wg3 (List.mem_of_getElem? (i := 134) rfl) rfl
theorem m3_135 : Cond.static yL_set ∈ WG := wg3 (List.mem_of_getElem? (i := 135) rfl) rfl
theorem m3_137 : Cond.methodLink RL 30 yX7_set ∈ WG := wg3 (List.mem_of_getElem? (i := 137) rfl) rfl
theorem m3_138 : Cond.instanceMethod yX7_set ∈ WG := wg3 (List.mem_of_getElem? (i := 138) rfl) rfl
theorem m3_139 : Cond.selects RX7 yX7_set yX7_set ∈ WG := wg3 (List.mem_of_getElem? (i := 139) rfl) rfl
theorem m3_140 : Cond.code yX7_set cX7_set 3 (some .int) ∈ WG := wg3 (List.mem_of_getElem? (i := 140) rfl) rfl
theorem m3_141 : Cond.methodLink RX7 94 yX4_codeOfSet ∈ WG := wg3 (List.mem_of_getElem? (i := 141) rfl) rfl
theorem m3_142 : Cond.static yX4_codeOfSet ∈ WG := wg3 (List.mem_of_getElem? (i := 142) rfl) rfl
theorem m3_143 : Cond.code yX4_codeOfSet cX4_codeOfSet 2 (some .int) ∈ WG := wg3 (List.mem_of_getElem? (i := 143) rfl) rfl
theorem m3_144 : Cond.methodLink RX4 15 yX4_codeOfWhen ∈ WG := wg3 (List.mem_of_getElem? (i := 144) rfl) rfl
theorem m3_145 : Cond.methodLink RL 124 yL_drop ∈ WG := wg3 (List.mem_of_getElem? (i := 145) rfl) rfl
theorem m3_146 : Cond.static yL_drop ∈ WG := wg3 (List.mem_of_getElem? (i := 146) rfl) rfl
theorem m3_148 : Cond.methodLink RL 33 yX7_drop ∈ WG := wg3 (List.mem_of_getElem? (i := 148) rfl) rfl
theorem m3_149 : Cond.instanceMethod yX7_drop ∈ WG := wg3 (List.mem_of_getElem? (i := 149) rfl) rfl
theorem m3_150 : Cond.selects RX7 yX7_drop yX7_drop ∈ WG := wg3 (List.mem_of_getElem? (i := 150) rfl) rfl
theorem m3_151 : Cond.code yX7_drop cX7_drop 1 (some .int) ∈ WG := wg3 (List.mem_of_getElem? (i := 151) rfl) rfl
theorem m3_153 : Cond.methodLink RX7 99 yX4_removeLast ∈ WG := wg3 (List.mem_of_getElem? (i := 153) rfl) rfl
theorem m3_154 : Cond.instanceMethod yX4_removeLast ∈ WG := wg3 (List.mem_of_getElem? (i := 154) rfl) rfl
theorem m3_155 : Cond.selects RX4 yX4_removeLast yX4_removeLast ∈ WG := wg3 (List.mem_of_getElem? (i := 155) rfl) rfl
theorem m3_156 : Cond.code yX4_removeLast cX4_removeLast 1 none ∈ WG := wg3 (List.mem_of_getElem? (i := 156) rfl) rfl
theorem m3_157 : Cond.methodLink RL 127 yL_replace ∈ WG := wg3 (List.mem_of_getElem? (i := 157) rfl) rfl
theorem m3_158 : Cond.static yL_replace ∈ WG := wg3 (List.mem_of_getElem? (i := 158) rfl) rfl
theorem m3_160 : Cond.methodLink RL 36 yX7_replace ∈ WG := wg3 (List.mem_of_getElem? (i := 160) rfl) rfl
theorem m3_161 : Cond.instanceMethod yX7_replace ∈ WG := wg3 (List.mem_of_getElem? (i := 161) rfl) rfl
theorem m3_162 : Cond.selects RX7 yX7_replace yX7_replace ∈ WG := wg3 (List.mem_of_getElem? (i := 162) rfl) rfl
theorem m3_163 : Cond.code yX7_replace cX7_replace 4 (some .int) ∈ WG := wg3 (List.mem_of_getElem? (i := 163) rfl) rfl
theorem m3_164 : Cond.methodLink RX7 102 yX7_checkItem ∈ WG := wg3 (List.mem_of_getElem? (i := 164) rfl) rfl
theorem m3_166 : Cond.instanceMethod yX7_checkItem ∈ WG := wg3 (List.mem_of_getElem? (i := 166) rfl) rfl
theorem m3_167 : Cond.code yX7_checkItem cX7_checkItem 2 none ∈ WG := wg3 (List.mem_of_getElem? (i := 167) rfl) rfl
theorem m3_171 : Cond.methodLink RL 135 yL_item ∈ WG := wg3 (List.mem_of_getElem? (i := 171) rfl) rfl
theorem m3_172 : Cond.static yL_item ∈ WG := wg3 (List.mem_of_getElem? (i := 172) rfl) rfl
theorem m3_174 : Cond.methodLink RL 40 yX7_item ∈ WG := wg3 (List.mem_of_getElem? (i := 174) rfl) rfl
theorem m3_175 : Cond.instanceMethod yX7_item ∈ WG := wg3 (List.mem_of_getElem? (i := 175) rfl) rfl
theorem m3_176 : Cond.selects RX7 yX7_item yX7_item ∈ WG := wg3 (List.mem_of_getElem? (i := 176) rfl) rfl
theorem m3_177 : Cond.code yX7_item cX7_item 2 (some .int) ∈ WG := wg3 (List.mem_of_getElem? (i := 177) rfl) rfl
theorem m3_178 : Cond.methodLink RL 143 yL_presence ∈ WG := wg3 (List.mem_of_getElem? (i := 178) rfl) rfl
theorem m3_179 : Cond.static yL_presence ∈ WG := wg3 (List.mem_of_getElem? (i := 179) rfl) rfl
theorem m3_181 : Cond.methodLink RL 44 yX7_presence ∈ WG := wg3 (List.mem_of_getElem? (i := 181) rfl) rfl
theorem m3_182 : Cond.instanceMethod yX7_presence ∈ WG := wg3 (List.mem_of_getElem? (i := 182) rfl) rfl
theorem m3_183 : Cond.selects RX7 yX7_presence yX7_presence ∈ WG := wg3 (List.mem_of_getElem? (i := 183) rfl) rfl
theorem m3_184 : Cond.code yX7_presence cX7_presence 2 (some .int) ∈ WG := wg3 (List.mem_of_getElem? (i := 184) rfl) rfl
theorem m3_185 : Cond.methodLink RL 146 yL_on ∈ WG := wg3 (List.mem_of_getElem? (i := 185) rfl) rfl
theorem m3_186 : Cond.static yL_on ∈ WG := wg3 (List.mem_of_getElem? (i := 186) rfl) rfl
theorem m3_188 : Cond.methodLink RL 47 yX7_on ∈ WG := wg3 (List.mem_of_getElem? (i := 188) rfl) rfl
theorem m3_189 : Cond.instanceMethod yX7_on ∈ WG := wg3 (List.mem_of_getElem? (i := 189) rfl) rfl
theorem m3_190 : Cond.selects RX7 yX7_on yX7_on ∈ WG := wg3 (List.mem_of_getElem? (i := 190) rfl) rfl
theorem m3_191 : Cond.code yX7_on cX7_on 3 (some .int) ∈ WG := wg3 (List.mem_of_getElem? (i := 191) rfl) rfl
theorem m3_192 : Cond.methodLink RL 149 yL_features ∈ WG := wg3 (List.mem_of_getElem? (i := 192) rfl) rfl
theorem m3_193 : Cond.static yL_features ∈ WG := wg3 (List.mem_of_getElem? (i := 193) rfl) rfl
theorem m3_195 : Cond.methodLink RL 50 yX7_features ∈ WG := wg3 (List.mem_of_getElem? (i := 195) rfl) rfl
theorem m3_196 : Cond.instanceMethod yX7_features ∈ WG := wg3 (List.mem_of_getElem? (i := 196) rfl) rfl
theorem m3_197 : Cond.selects RX7 yX7_features yX7_features ∈ WG := wg3 (List.mem_of_getElem? (i := 197) rfl) rfl
theorem m3_198 : Cond.code yX7_features cX7_features 4 (some .int) ∈ WG := wg3 (List.mem_of_getElem? (i := 198) rfl) rfl
theorem m3_199 : Cond.constant RX7 122 (65535) ∈ WG := wg3 (List.mem_of_getElem? (i := 199) rfl) rfl
theorem m3_201 : Cond.methodLink RX7 125 yX7_matters ∈ WG := wg3 (List.mem_of_getElem? (i := 201) rfl) rfl
theorem m3_202 : Cond.static yX7_matters ∈ WG := wg3 (List.mem_of_getElem? (i := 202) rfl) rfl
theorem m3_203 : Cond.code yX7_matters cX7_matters 4 (some .boolean) ∈ WG := wg3 (List.mem_of_getElem? (i := 203) rfl) rfl
theorem m3_204 : Cond.methodLink RL 156 yL_length ∈ WG := wg3 (List.mem_of_getElem? (i := 204) rfl) rfl
theorem m3_205 : Cond.static yL_length ∈ WG := wg3 (List.mem_of_getElem? (i := 205) rfl) rfl
theorem m3_207 : Cond.methodLink RL 53 yX7_length ∈ WG := wg3 (List.mem_of_getElem? (i := 207) rfl) rfl
theorem m3_208 : Cond.instanceMethod yX7_length ∈ WG := wg3 (List.mem_of_getElem? (i := 208) rfl) rfl
theorem m3_209 : Cond.selects RX7 yX7_length yX7_length ∈ WG := wg3 (List.mem_of_getElem? (i := 209) rfl) rfl
theorem m3_210 : Cond.code yX7_length cX7_length 2 (some .int) ∈ WG := wg3 (List.mem_of_getElem? (i := 210) rfl) rfl
theorem m3_211 : Cond.methodLink RX7 129 yX7_checkConfiguration ∈ WG := wg3 (List.mem_of_getElem? (i := 211) rfl) rfl
theorem m3_213 : Cond.instanceMethod yX7_checkConfiguration ∈ WG := wg3 (List.mem_of_getElem? (i := 213) rfl) rfl
theorem m3_214 : Cond.code yX7_checkConfiguration cX7_checkConfiguration 2 none ∈ WG := wg3 (List.mem_of_getElem? (i := 214) rfl) rfl
theorem m3_216 : Cond.methodLink RL 159 yL_place ∈ WG := wg3 (List.mem_of_getElem? (i := 216) rfl) rfl
theorem m3_217 : Cond.static yL_place ∈ WG := wg3 (List.mem_of_getElem? (i := 217) rfl) rfl
theorem m3_219 : Cond.methodLink RL 56 yX7_place ∈ WG := wg3 (List.mem_of_getElem? (i := 219) rfl) rfl
theorem m3_220 : Cond.instanceMethod yX7_place ∈ WG := wg3 (List.mem_of_getElem? (i := 220) rfl) rfl
theorem m3_221 : Cond.selects RX7 yX7_place yX7_place ∈ WG := wg3 (List.mem_of_getElem? (i := 221) rfl) rfl
theorem m3_222 : Cond.code yX7_place cX7_place 3 (some .int) ∈ WG := wg3 (List.mem_of_getElem? (i := 222) rfl) rfl
theorem m3_223 : Cond.methodLink RX7 135 yX7_checkIndex ∈ WG := wg3 (List.mem_of_getElem? (i := 223) rfl) rfl
theorem m3_225 : Cond.instanceMethod yX7_checkIndex ∈ WG := wg3 (List.mem_of_getElem? (i := 225) rfl) rfl
theorem m3_226 : Cond.code yX7_checkIndex cX7_checkIndex 3 none ∈ WG := wg3 (List.mem_of_getElem? (i := 226) rfl) rfl
theorem m3_228 : Cond.methodLink RL 166 yL_error ∈ WG := wg3 (List.mem_of_getElem? (i := 228) rfl) rfl
theorem m3_229 : Cond.static yL_error ∈ WG := wg3 (List.mem_of_getElem? (i := 229) rfl) rfl
theorem m3_231 : Cond.methodLink RL 59 yX7_error ∈ WG := wg3 (List.mem_of_getElem? (i := 231) rfl) rfl
theorem m3_232 : Cond.instanceMethod yX7_error ∈ WG := wg3 (List.mem_of_getElem? (i := 232) rfl) rfl
theorem m3_233 : Cond.selects RX7 yX7_error yX7_error ∈ WG := wg3 (List.mem_of_getElem? (i := 233) rfl) rfl
theorem m3_234 : Cond.code yX7_error cX7_error 2 (some .int) ∈ WG := wg3 (List.mem_of_getElem? (i := 234) rfl) rfl
theorem m3_235 : Cond.methodLink RX7 145 yX7_checkFinished ∈ WG := wg3 (List.mem_of_getElem? (i := 235) rfl) rfl
theorem m3_237 : Cond.instanceMethod yX7_checkFinished ∈ WG := wg3 (List.mem_of_getElem? (i := 237) rfl) rfl
theorem m3_238 : Cond.code yX7_checkFinished cX7_checkFinished 1 none ∈ WG := wg3 (List.mem_of_getElem? (i := 238) rfl) rfl
theorem m4_0 : Cond.methodLink RL 169 yL_wrong ∈ WG := wg4 (List.mem_of_getElem? (i := 0) rfl) rfl
theorem m4_1 : Cond.static yL_wrong ∈ WG := wg4 (List.mem_of_getElem? (i := 1) rfl) rfl
theorem m4_3 : Cond.methodLink RL 62 yX7_wrong ∈ WG := wg4 (List.mem_of_getElem? (i := 3) rfl) rfl
theorem m4_4 : Cond.instanceMethod yX7_wrong ∈ WG := wg4 (List.mem_of_getElem? (i := 4) rfl) rfl
theorem m4_5 : Cond.selects RX7 yX7_wrong yX7_wrong ∈ WG := wg4 (List.mem_of_getElem? (i := 5) rfl) rfl
theorem m4_6 : Cond.code yX7_wrong cX7_wrong 3 (some .int) ∈ WG := wg4 (List.mem_of_getElem? (i := 6) rfl) rfl
theorem m4_7 : Cond.methodLink RL 172 yL_firstError ∈ WG := wg4 (List.mem_of_getElem? (i := 7) rfl) rfl
theorem m4_8 : Cond.static yL_firstError ∈ WG := wg4 (List.mem_of_getElem? (i := 8) rfl) rfl
theorem m4_10 : Cond.methodLink RL 65 yX7_firstError ∈ WG := wg4 (List.mem_of_getElem? (i := 10) rfl) rfl
theorem m4_11 : Cond.instanceMethod yX7_firstError ∈ WG := wg4 (List.mem_of_getElem? (i := 11) rfl) rfl
theorem m4_12 : Cond.selects RX7 yX7_firstError yX7_firstError ∈ WG := wg4 (List.mem_of_getElem? (i := 12) rfl) rfl
theorem m4_13 : Cond.code yX7_firstError cX7_firstError 4 (some .int) ∈ WG := wg4 (List.mem_of_getElem? (i := 13) rfl) rfl
theorem m4_14 : Cond.methodLink RL 175 yL_groups ∈ WG := wg4 (List.mem_of_getElem? (i := 14) rfl) rfl
theorem m4_15 : Cond.static yL_groups ∈ WG := wg4 (List.mem_of_getElem? (i := 15) rfl) rfl
theorem m4_17 : Cond.methodLink RL 68 yX7_groups ∈ WG := wg4 (List.mem_of_getElem? (i := 17) rfl) rfl
theorem m4_18 : Cond.instanceMethod yX7_groups ∈ WG := wg4 (List.mem_of_getElem? (i := 18) rfl) rfl
theorem m4_19 : Cond.selects RX7 yX7_groups yX7_groups ∈ WG := wg4 (List.mem_of_getElem? (i := 19) rfl) rfl
theorem m4_20 : Cond.code yX7_groups cX7_groups 2 (some .int) ∈ WG := wg4 (List.mem_of_getElem? (i := 20) rfl) rfl
theorem m4_21 : Cond.methodLink RL 178 yL_work ∈ WG := wg4 (List.mem_of_getElem? (i := 21) rfl) rfl
theorem m4_22 : Cond.static yL_work ∈ WG := wg4 (List.mem_of_getElem? (i := 22) rfl) rfl
theorem m4_24 : Cond.methodLink RL 71 yX7_work ∈ WG := wg4 (List.mem_of_getElem? (i := 24) rfl) rfl
theorem m4_25 : Cond.instanceMethod yX7_work ∈ WG := wg4 (List.mem_of_getElem? (i := 25) rfl) rfl
theorem m4_26 : Cond.selects RX7 yX7_work yX7_work ∈ WG := wg4 (List.mem_of_getElem? (i := 26) rfl) rfl
theorem m4_27 : Cond.code yX7_work cX7_work 1 (some .int) ∈ WG := wg4 (List.mem_of_getElem? (i := 27) rfl) rfl
theorem m4_28 : Cond.methodLink RX7 157 yX7_sumOfGroups ∈ WG := wg4 (List.mem_of_getElem? (i := 28) rfl) rfl
theorem m4_30 : Cond.instanceMethod yX7_sumOfGroups ∈ WG := wg4 (List.mem_of_getElem? (i := 30) rfl) rfl
theorem m4_31 : Cond.code yX7_sumOfGroups cX7_sumOfGroups 3 (some .int) ∈ WG := wg4 (List.mem_of_getElem? (i := 31) rfl) rfl
theorem m4_32 : Cond.methodLink RL 181 yL_gain ∈ WG := wg4 (List.mem_of_getElem? (i := 32) rfl) rfl
theorem m4_33 : Cond.static yL_gain ∈ WG := wg4 (List.mem_of_getElem? (i := 33) rfl) rfl
theorem m4_35 : Cond.methodLink RL 74 yX7_gain ∈ WG := wg4 (List.mem_of_getElem? (i := 35) rfl) rfl
theorem m4_36 : Cond.instanceMethod yX7_gain ∈ WG := wg4 (List.mem_of_getElem? (i := 36) rfl) rfl
theorem m4_37 : Cond.selects RX7 yX7_gain yX7_gain ∈ WG := wg4 (List.mem_of_getElem? (i := 37) rfl) rfl
theorem m4_38 : Cond.code yX7_gain cX7_gain 4 (some .double) ∈ WG := wg4 (List.mem_of_getElem? (i := 38) rfl) rfl
theorem m4_39 : Cond.methodLink RL 185 yL_stack ∈ WG := wg4 (List.mem_of_getElem? (i := 39) rfl) rfl
theorem m4_40 : Cond.static yL_stack ∈ WG := wg4 (List.mem_of_getElem? (i := 40) rfl) rfl
theorem m4_42 : Cond.methodLink RL 78 yX7_stack ∈ WG := wg4 (List.mem_of_getElem? (i := 42) rfl) rfl
theorem m4_43 : Cond.instanceMethod yX7_stack ∈ WG := wg4 (List.mem_of_getElem? (i := 43) rfl) rfl
theorem m4_44 : Cond.selects RX7 yX7_stack yX7_stack ∈ WG := wg4 (List.mem_of_getElem? (i := 44) rfl) rfl
theorem m4_45 : Cond.code yX7_stack cX7_stack 3 (some .int) ∈ WG := wg4 (List.mem_of_getElem? (i := 45) rfl) rfl
theorem m4_46 : Cond.methodLink RX7 163 yX1_heightAhead ∈ WG := wg4 (List.mem_of_getElem? (i := 46) rfl) rfl
theorem m4_47 : Cond.instanceMethod yX1_heightAhead ∈ WG := wg4 (List.mem_of_getElem? (i := 47) rfl) rfl
theorem m4_48 : Cond.selects RX1 yX1_heightAhead yX1_heightAhead ∈ WG := wg4 (List.mem_of_getElem? (i := 48) rfl) rfl
theorem m4_49 : Cond.code yX1_heightAhead cX1_heightAhead 2 (some .int) ∈ WG := wg4 (List.mem_of_getElem? (i := 49) rfl) rfl
theorem m4_50 : Cond.methodLink RL 188 yL_outputs ∈ WG := wg4 (List.mem_of_getElem? (i := 50) rfl) rfl
theorem m4_51 : Cond.static yL_outputs ∈ WG := wg4 (List.mem_of_getElem? (i := 51) rfl) rfl
theorem m4_53 : Cond.classLink RL 84 "java/util/NoSuchElementException" ∈ WG := wg4 (List.mem_of_getElem? (i := 53) rfl) rfl
theorem m4_54 : Cond.methodLink RL 81 yX7_outputs ∈ WG := wg4 (List.mem_of_getElem? (i := 54) rfl) rfl
theorem m4_55 : Cond.instanceMethod yX7_outputs ∈ WG := wg4 (List.mem_of_getElem? (i := 55) rfl) rfl
theorem m4_56 : Cond.selects RX7 yX7_outputs yX7_outputs ∈ WG := wg4 (List.mem_of_getElem? (i := 56) rfl) rfl
theorem m4_57 : Cond.code yX7_outputs cX7_outputs 2 (some .int) ∈ WG := wg4 (List.mem_of_getElem? (i := 57) rfl) rfl
theorem m4_58 : Cond.methodLink RX7 166 yX7_checkNoError ∈ WG := wg4 (List.mem_of_getElem? (i := 58) rfl) rfl
theorem m4_60 : Cond.instanceMethod yX7_checkNoError ∈ WG := wg4 (List.mem_of_getElem? (i := 60) rfl) rfl
theorem m4_61 : Cond.code yX7_checkNoError cX7_checkNoError 2 none ∈ WG := wg4 (List.mem_of_getElem? (i := 61) rfl) rfl
theorem m4_62 : Cond.classLink RX7 216 "java/util/NoSuchElementException" ∈ WG := wg4 (List.mem_of_getElem? (i := 62) rfl) rfl
theorem m4_63 : Cond.instantiable "java/util/NoSuchElementException" 6 ∈ WG := wg4 (List.mem_of_getElem? (i := 63) rfl) rfl
theorem m4_65 : Cond.selects "java/util/NoSuchElementException" ⟨"java/lang/Throwable", "fillInStackTrace", "(I)Ljava/lang/Throwable;"⟩ ⟨"java/lang/Throwable", "fillInStackTrace", "(I)Ljava/lang/Throwable;"⟩ ∈ WG := wg4 (List.mem_of_getElem? (i := 65) rfl) rfl
theorem m4_66 : Cond.lays "java/util/NoSuchElementException" "java/lang/Throwable" "cause" "Ljava/lang/Throwable;" ∈ WG := wg4 (List.mem_of_getElem? (i := 66) rfl) rfl
theorem m4_67 : Cond.lays "java/util/NoSuchElementException" "java/lang/Throwable" "stackTrace" "[Ljava/lang/StackTraceElement;" ∈ WG := wg4 (List.mem_of_getElem? (i := 67) rfl) rfl
theorem m4_68 : Cond.lays "java/util/NoSuchElementException" "java/lang/Throwable" "suppressedExceptions" "Ljava/util/List;" ∈ WG := wg4 (List.mem_of_getElem? (i := 68) rfl) rfl
theorem m4_69 : Cond.lays "java/util/NoSuchElementException" "java/lang/Throwable" "detailMessage" "Ljava/lang/String;" ∈ WG := wg4 (List.mem_of_getElem? (i := 69) rfl) rfl
theorem m4_70 : Cond.lays "java/util/NoSuchElementException" "java/lang/Throwable" "backtrace" "Ljava/lang/Object;" ∈ WG := wg4 (List.mem_of_getElem? (i := 70) rfl) rfl
theorem m4_72 : Cond.methodLink RX7 220 ⟨"java/util/NoSuchElementException", "<init>", "(Ljava/lang/String;)V"⟩ ∈ WG := wg4 (List.mem_of_getElem? (i := 72) rfl) rfl
theorem m4_73 : Cond.instanceMethod ⟨"java/util/NoSuchElementException", "<init>", "(Ljava/lang/String;)V"⟩ ∈ WG := wg4 (List.mem_of_getElem? (i := 73) rfl) rfl
theorem m4_74 : Cond.code ⟨"java/util/NoSuchElementException", "<init>", "(Ljava/lang/String;)V"⟩ prog_27_method_4_code 2 none ∈ WG := wg4 (List.mem_of_getElem? (i := 74) rfl) rfl
theorem m4_75 : Cond.methodLink "java/util/NoSuchElementException" 13 ⟨"java/lang/RuntimeException", "<init>", "(Ljava/lang/String;)V"⟩ ∈ WG := wg4 (List.mem_of_getElem? (i := 75) rfl) rfl
theorem m4_76 : Cond.lays "java/util/NoSuchElementException" "java/lang/Throwable" "depth" "I" ∈ WG := wg4 (List.mem_of_getElem? (i := 76) rfl) rfl
theorem m4_78 : Cond.methodLink RL 191 yL_output ∈ WG := wg4 (List.mem_of_getElem? (i := 78) rfl) rfl
theorem m4_79 : Cond.static yL_output ∈ WG := wg4 (List.mem_of_getElem? (i := 79) rfl) rfl
theorem m4_81 : Cond.methodLink RL 86 yX7_output ∈ WG := wg4 (List.mem_of_getElem? (i := 81) rfl) rfl
theorem m4_82 : Cond.instanceMethod yX7_output ∈ WG := wg4 (List.mem_of_getElem? (i := 82) rfl) rfl
theorem m4_83 : Cond.selects RX7 yX7_output yX7_output ∈ WG := wg4 (List.mem_of_getElem? (i := 83) rfl) rfl
theorem m4_84 : Cond.code yX7_output cX7_output 4 (some .int) ∈ WG := wg4 (List.mem_of_getElem? (i := 84) rfl) rfl
theorem m4_86 : Cond.methodLink RL 194 yL_variable ∈ WG := wg4 (List.mem_of_getElem? (i := 86) rfl) rfl
theorem m4_87 : Cond.static yL_variable ∈ WG := wg4 (List.mem_of_getElem? (i := 87) rfl) rfl
theorem m4_89 : Cond.methodLink RL 89 yX7_variable ∈ WG := wg4 (List.mem_of_getElem? (i := 89) rfl) rfl
theorem m4_90 : Cond.instanceMethod yX7_variable ∈ WG := wg4 (List.mem_of_getElem? (i := 90) rfl) rfl
theorem m4_91 : Cond.selects RX7 yX7_variable yX7_variable ∈ WG := wg4 (List.mem_of_getElem? (i := 91) rfl) rfl
theorem m4_92 : Cond.code yX7_variable cX7_variable 3 (some .int) ∈ WG := wg4 (List.mem_of_getElem? (i := 92) rfl) rfl
theorem m4_94 : Cond.methodLink RL 197 yL_behaviours ∈ WG := wg4 (List.mem_of_getElem? (i := 94) rfl) rfl
theorem m4_95 : Cond.static yL_behaviours ∈ WG := wg4 (List.mem_of_getElem? (i := 95) rfl) rfl
theorem m4_97 : Cond.methodLink RL 92 yX7_behaviours ∈ WG := wg4 (List.mem_of_getElem? (i := 97) rfl) rfl
theorem m4_98 : Cond.instanceMethod yX7_behaviours ∈ WG := wg4 (List.mem_of_getElem? (i := 98) rfl) rfl
theorem m4_99 : Cond.selects RX7 yX7_behaviours yX7_behaviours ∈ WG := wg4 (List.mem_of_getElem? (i := 99) rfl) rfl
theorem m4_100 : Cond.code yX7_behaviours cX7_behaviours 3 (some .int) ∈ WG := wg4 (List.mem_of_getElem? (i := 100) rfl) rfl
theorem m4_101 : Cond.methodLink RX7 188 yX7_isFirstOfItsBehaviour ∈ WG := wg4 (List.mem_of_getElem? (i := 101) rfl) rfl
theorem m4_103 : Cond.instanceMethod yX7_isFirstOfItsBehaviour ∈ WG := wg4 (List.mem_of_getElem? (i := 103) rfl) rfl
theorem m4_104 : Cond.code yX7_isFirstOfItsBehaviour cX7_isFirstOfItsBehaviour 4 (some .boolean) ∈ WG := wg4 (List.mem_of_getElem? (i := 104) rfl) rfl
theorem m4_105 : Cond.methodLink RX7 275 yX3_hasSameOutputs ∈ WG := wg4 (List.mem_of_getElem? (i := 105) rfl) rfl
theorem m4_106 : Cond.instanceMethod yX3_hasSameOutputs ∈ WG := wg4 (List.mem_of_getElem? (i := 106) rfl) rfl
theorem m4_107 : Cond.selects RX3 yX3_hasSameOutputs yX3_hasSameOutputs ∈ WG := wg4 (List.mem_of_getElem? (i := 107) rfl) rfl
theorem m4_108 : Cond.code yX3_hasSameOutputs cX3_hasSameOutputs 2 (some .boolean) ∈ WG := wg4 (List.mem_of_getElem? (i := 108) rfl) rfl
theorem m4_109 : Cond.methodLink RX3 41 yX2_areSame ∈ WG := wg4 (List.mem_of_getElem? (i := 109) rfl) rfl
theorem m4_110 : Cond.classLink RL 96 "VariantParserModel" ∈ WG := wg4 (List.mem_of_getElem? (i := 110) rfl) rfl
theorem m4_111 : Cond.instantiable RX8 15 ∈ WG := wg4 (List.mem_of_getElem? (i := 111) rfl) rfl
theorem m4_112 : Cond.methodLink RL 98 yX8_init ∈ WG := wg4 (List.mem_of_getElem? (i := 112) rfl) rfl
theorem m4_113 : Cond.instanceMethod yX8_init ∈ WG := wg4 (List.mem_of_getElem? (i := 113) rfl) rfl
theorem m4_114 : Cond.code yX8_init cX8_init 1 none ∈ WG := wg4 (List.mem_of_getElem? (i := 114) rfl) rfl
theorem m4_115 : Cond.methodLink RX8 1 objectInit ∈ WG := wg4 (List.mem_of_getElem? (i := 115) rfl) rfl
theorem m4_116 : Cond.fieldLink RX8 43 "VariantParserModel" "thrown" "I" ∈ WG := wg4 (List.mem_of_getElem? (i := 116) rfl) rfl
theorem m4_117 : Cond.fieldLink RX8 47 "VariantParserModel" "size" "I" ∈ WG := wg4 (List.mem_of_getElem? (i := 117) rfl) rfl
theorem m4_118 : Cond.fieldLink RX8 9 "VariantParserModel" "items" "[I" ∈ WG := wg4 (List.mem_of_getElem? (i := 118) rfl) rfl
theorem m4_119 : Cond.fieldLink RX8 13 "VariantParserModel" "present" "[I" ∈ WG := wg4 (List.mem_of_getElem? (i := 119) rfl) rfl
theorem m4_120 : Cond.fieldLink RX8 16 "VariantParserModel" "ons" "[I" ∈ WG := wg4 (List.mem_of_getElem? (i := 120) rfl) rfl
theorem m4_121 : Cond.fieldLink RX8 19 "VariantParserModel" "stacks" "[I" ∈ WG := wg4 (List.mem_of_getElem? (i := 121) rfl) rfl
theorem m4_122 : Cond.fieldLink RX8 22 "VariantParserModel" "depths" "[I" ∈ WG := wg4 (List.mem_of_getElem? (i := 122) rfl) rfl
theorem m4_123 : Cond.fieldLink RX8 25 "VariantParserModel" "errors" "[I" ∈ WG := wg4 (List.mem_of_getElem? (i := 123) rfl) rfl
theorem m4_124 : Cond.fieldLink RX8 28 "VariantParserModel" "groupCounts" "[I" ∈ WG := wg4 (List.mem_of_getElem? (i := 124) rfl) rfl
theorem m4_125 : Cond.fieldLink RX8 31 "VariantParserModel" "depthsAt" "[I" ∈ WG := wg4 (List.mem_of_getElem? (i := 125) rfl) rfl
theorem m4_126 : Cond.fieldLink RX8 34 "VariantParserModel" "code" "[I" ∈ WG := wg4 (List.mem_of_getElem? (i := 126) rfl) rfl
theorem m4_127 : Cond.fieldLink RX8 152 "VariantParserModel" "at" "I" ∈ WG := wg4 (List.mem_of_getElem? (i := 127) rfl) rfl
theorem m4_128 : Cond.fieldLink RX8 37 "VariantParserModel" "values" "[I" ∈ WG := wg4 (List.mem_of_getElem? (i := 128) rfl) rfl
theorem m4_129 : Cond.fieldLink RX8 171 "VariantParserModel" "written" "I" ∈ WG := wg4 (List.mem_of_getElem? (i := 129) rfl) rfl
theorem m4_130 : Cond.fieldLink RX8 40 "VariantParserModel" "output" "[I" ∈ WG := wg4 (List.mem_of_getElem? (i := 130) rfl) rfl
theorem m4_131 : Cond.lays "VariantParserModel" "VariantParserModel" "thrown" "I" ∈ WG := wg4 (List.mem_of_getElem? (i := 131) rfl) rfl
theorem m4_133 : Cond.lays "VariantParserModel" "VariantParserModel" "size" "I" ∈ WG := wg4 (List.mem_of_getElem? (i := 133) rfl) rfl
theorem m4_135 : Cond.laysFinal "VariantParserModel" "VariantParserModel" "items" "[I" ∈ WG := wg4 (List.mem_of_getElem? (i := 135) rfl) rfl
theorem m4_137 : Cond.laysFinal "VariantParserModel" "VariantParserModel" "present" "[I" ∈ WG := wg4 (List.mem_of_getElem? (i := 137) rfl) rfl
theorem m4_139 : Cond.laysFinal "VariantParserModel" "VariantParserModel" "ons" "[I" ∈ WG := wg4 (List.mem_of_getElem? (i := 139) rfl) rfl
theorem m4_141 : Cond.laysFinal "VariantParserModel" "VariantParserModel" "stacks" "[I" ∈ WG := wg4 (List.mem_of_getElem? (i := 141) rfl) rfl
theorem m4_143 : Cond.laysFinal "VariantParserModel" "VariantParserModel" "depths" "[I" ∈ WG := wg4 (List.mem_of_getElem? (i := 143) rfl) rfl
theorem m4_145 : Cond.laysFinal "VariantParserModel" "VariantParserModel" "errors" "[I" ∈ WG := wg4 (List.mem_of_getElem? (i := 145) rfl) rfl
theorem m4_147 : Cond.laysFinal "VariantParserModel" "VariantParserModel" "groupCounts" "[I" ∈ WG := wg4 (List.mem_of_getElem? (i := 147) rfl) rfl
theorem m4_149 : Cond.laysFinal "VariantParserModel" "VariantParserModel" "depthsAt" "[I" ∈ WG := wg4 (List.mem_of_getElem? (i := 149) rfl) rfl
theorem m4_151 : Cond.laysFinal "VariantParserModel" "VariantParserModel" "code" "[I" ∈ WG := wg4 (List.mem_of_getElem? (i := 151) rfl) rfl
theorem m4_153 : Cond.lays "VariantParserModel" "VariantParserModel" "at" "I" ∈ WG := wg4 (List.mem_of_getElem? (i := 153) rfl) rfl
theorem m4_155 : Cond.laysFinal "VariantParserModel" "VariantParserModel" "values" "[I" ∈ WG := wg4 (List.mem_of_getElem? (i := 155) rfl) rfl
theorem m4_157 : Cond.lays "VariantParserModel" "VariantParserModel" "written" "I" ∈ WG := wg4 (List.mem_of_getElem? (i := 157) rfl) rfl
theorem m4_159 : Cond.laysFinal "VariantParserModel" "VariantParserModel" "output" "[I" ∈ WG := wg4 (List.mem_of_getElem? (i := 159) rfl) rfl
theorem m4_162 : Cond.methodLink RL 107 yX8_thrown ∈ WG := wg4 (List.mem_of_getElem? (i := 162) rfl) rfl
theorem m4_163 : Cond.instanceMethod yX8_thrown ∈ WG := wg4 (List.mem_of_getElem? (i := 163) rfl) rfl
theorem m4_164 : Cond.selects RX8 yX8_thrown yX8_thrown ∈ WG := wg4 (List.mem_of_getElem? (i := 164) rfl) rfl
theorem m4_165 : Cond.code yX8_thrown cX8_thrown 1 (some .int) ∈ WG := wg4 (List.mem_of_getElem? (i := 165) rfl) rfl
theorem m4_166 : Cond.methodLink RL 106 yX8_write ∈ WG := wg4 (List.mem_of_getElem? (i := 166) rfl) rfl
theorem m4_167 : Cond.instanceMethod yX8_write ∈ WG := wg4 (List.mem_of_getElem? (i := 167) rfl) rfl
theorem m4_168 : Cond.selects RX8 yX8_write yX8_write ∈ WG := wg4 (List.mem_of_getElem? (i := 168) rfl) rfl
theorem m4_169 : Cond.code yX8_write cX8_write 6 (some .int) ∈ WG := wg4 (List.mem_of_getElem? (i := 169) rfl) rfl
theorem m4_170 : Cond.constantLong RX8 62 (255) ∈ WG := wg4 (List.mem_of_getElem? (i := 170) rfl) rfl
theorem m4_171 : Cond.methodLink RX8 64 yX8_isCharacter ∈ WG := wg4 (List.mem_of_getElem? (i := 171) rfl) rfl
theorem m4_172 : Cond.static yX8_isCharacter ∈ WG := wg4 (List.mem_of_getElem? (i := 172) rfl) rfl
theorem m4_173 : Cond.code yX8_isCharacter cX8_isCharacter 1 (some .boolean) ∈ WG := wg4 (List.mem_of_getElem? (i := 173) rfl) rfl
theorem m4_175 : Cond.methodLink RX8 56 yJ0_indexOf_0f7a4 ∈ WG := wg4 (List.mem_of_getElem? (i := 175) rfl) rfl
theorem m4_176 : Cond.instanceMethod yJ0_indexOf_0f7a4 ∈ WG := wg4 (List.mem_of_getElem? (i := 176) rfl) rfl
theorem m4_177 : Cond.selects RJ0 yJ0_indexOf_0f7a4 yJ0_indexOf_0f7a4 ∈ WG := wg4 (List.mem_of_getElem? (i := 177) rfl) rfl
theorem m4_178 : Cond.code yJ0_indexOf_0f7a4 cJ0_indexOf_0f7a4 2 (some .int) ∈ WG := wg4 (List.mem_of_getElem? (i := 178) rfl) rfl
theorem m4_179 : Cond.methodLink RJ0 633 yJ0_indexOf_7cf53 ∈ WG := wg4 (List.mem_of_getElem? (i := 179) rfl) rfl
theorem m4_180 : Cond.instanceMethod yJ0_indexOf_7cf53 ∈ WG := wg4 (List.mem_of_getElem? (i := 180) rfl) rfl
theorem m4_181 : Cond.selects RJ0 yJ0_indexOf_7cf53 yJ0_indexOf_7cf53 ∈ WG := wg4 (List.mem_of_getElem? (i := 181) rfl) rfl
theorem m4_182 : Cond.code yJ0_indexOf_7cf53 cJ0_indexOf_7cf53 3 (some .int) ∈ WG := wg4 (List.mem_of_getElem? (i := 182) rfl) rfl
theorem m4_183 : Cond.methodLink RJ0 505 yJ0_length_8abf5 ∈ WG := wg4 (List.mem_of_getElem? (i := 183) rfl) rfl
theorem m4_184 : Cond.methodLink RJ0 637 yJ1_indexOf_4cfef ∈ WG := wg4 (List.mem_of_getElem? (i := 184) rfl) rfl
theorem m4_185 : Cond.static yJ1_indexOf_4cfef ∈ WG := wg4 (List.mem_of_getElem? (i := 185) rfl) rfl
theorem m4_186 : Cond.code yJ1_indexOf_4cfef cJ1_indexOf_4cfef 4 (some .int) ∈ WG := wg4 (List.mem_of_getElem? (i := 186) rfl) rfl
theorem m4_187 : Cond.methodLink RJ1 88 yJ1_canEncode_9a6ad ∈ WG := wg4 (List.mem_of_getElem? (i := 187) rfl) rfl
theorem m4_188 : Cond.static yJ1_canEncode_9a6ad ∈ WG := wg4 (List.mem_of_getElem? (i := 188) rfl) rfl
theorem m4_189 : Cond.code yJ1_canEncode_9a6ad cJ1_canEncode_9a6ad 1 (some .boolean) ∈ WG := wg4 (List.mem_of_getElem? (i := 189) rfl) rfl
theorem m4_190 : Cond.methodLink RJ1 92 yJ9_max_7cf53 ∈ WG := wg4 (List.mem_of_getElem? (i := 190) rfl) rfl
theorem m4_191 : Cond.static yJ9_max_7cf53 ∈ WG := wg4 (List.mem_of_getElem? (i := 191) rfl) rfl
theorem m4_192 : Cond.code yJ9_max_7cf53 cJ9_max_7cf53 2 (some .int) ∈ WG := wg4 (List.mem_of_getElem? (i := 192) rfl) rfl
theorem m4_193 : Cond.methodLink RJ1 38 yJ9_min_7cf53 ∈ WG := wg4 (List.mem_of_getElem? (i := 193) rfl) rfl
theorem m4_194 : Cond.methodLink RJ1 95 yJ1_indexOfChar_4cfef ∈ WG := wg4 (List.mem_of_getElem? (i := 194) rfl) rfl
theorem m4_195 : Cond.static yJ1_indexOfChar_4cfef ∈ WG := wg4 (List.mem_of_getElem? (i := 195) rfl) rfl
theorem m4_196 : Cond.code yJ1_indexOfChar_4cfef cJ1_indexOfChar_4cfef 6 (some .int) ∈ WG := wg4 (List.mem_of_getElem? (i := 196) rfl) rfl
theorem m4_197 : Cond.methodLink RJ0 640 yJ2_indexOf_4cfef ∈ WG := wg4 (List.mem_of_getElem? (i := 197) rfl) rfl
theorem m4_198 : Cond.static yJ2_indexOf_4cfef ∈ WG := wg4 (List.mem_of_getElem? (i := 198) rfl) rfl
theorem m4_199 : Cond.code yJ2_indexOf_4cfef cJ2_indexOf_4cfef 4 (some .int) ∈ WG := wg4 (List.mem_of_getElem? (i := 199) rfl) rfl
theorem m4_200 : Cond.methodLink RJ2 224 yJ9_max_7cf53 ∈ WG := wg4 (List.mem_of_getElem? (i := 200) rfl) rfl
theorem m4_201 : Cond.methodLink RJ2 183 yJ9_min_7cf53 ∈ WG := wg4 (List.mem_of_getElem? (i := 201) rfl) rfl
theorem m4_202 : Cond.constant RJ2 227 (65536) ∈ WG := wg4 (List.mem_of_getElem? (i := 202) rfl) rfl
theorem m4_203 : Cond.methodLink RJ2 228 yJ2_indexOfChar_4cfef ∈ WG := wg4 (List.mem_of_getElem? (i := 203) rfl) rfl
theorem m4_204 : Cond.static yJ2_indexOfChar_4cfef ∈ WG := wg4 (List.mem_of_getElem? (i := 204) rfl) rfl
theorem m4_205 : Cond.code yJ2_indexOfChar_4cfef cJ2_indexOfChar_4cfef 4 (some .int) ∈ WG := wg4 (List.mem_of_getElem? (i := 205) rfl) rfl
theorem m4_206 : Cond.methodLink RJ2 96 yJ2_checkBoundsBeginEnd_d044e ∈ WG := wg4 (List.mem_of_getElem? (i := 206) rfl) rfl
theorem m4_207 : Cond.static yJ2_checkBoundsBeginEnd_d044e ∈ WG := wg4 (List.mem_of_getElem? (i := 207) rfl) rfl
theorem m4_208 : Cond.code yJ2_checkBoundsBeginEnd_d044e cJ2_checkBoundsBeginEnd_d044e 3 none ∈ WG := wg4 (List.mem_of_getElem? (i := 208) rfl) rfl
theorem m4_209 : Cond.methodLink RJ2 241 yJ0_checkBoundsBeginEnd_23922 ∈ WG := wg4 (List.mem_of_getElem? (i := 209) rfl) rfl
theorem m4_210 : Cond.static yJ0_checkBoundsBeginEnd_23922 ∈ WG := wg4 (List.mem_of_getElem? (i := 210) rfl) rfl
theorem m4_211 : Cond.code yJ0_checkBoundsBeginEnd_23922 cJ0_checkBoundsBeginEnd_23922 3 none ∈ WG := wg4 (List.mem_of_getElem? (i := 211) rfl) rfl
theorem m4_212 : Cond.methodLink RJ0 1062 yJ3_checkFromToIndex_8c36e ∈ WG := wg4 (List.mem_of_getElem? (i := 212) rfl) rfl
theorem m4_213 : Cond.static yJ3_checkFromToIndex_8c36e ∈ WG := wg4 (List.mem_of_getElem? (i := 213) rfl) rfl
theorem m4_214 : Cond.code yJ3_checkFromToIndex_8c36e cJ3_checkFromToIndex_8c36e 4 (some .int) ∈ WG := wg4 (List.mem_of_getElem? (i := 214) rfl) rfl
theorem m4_215 : Cond.methodLink RJ2 244 yJ2_indexOfCharUnsafe_4cfef ∈ WG := wg4 (List.mem_of_getElem? (i := 215) rfl) rfl
theorem m4_216 : Cond.static yJ2_indexOfCharUnsafe_4cfef ∈ WG := wg4 (List.mem_of_getElem? (i := 216) rfl) rfl
theorem m4_217 : Cond.code yJ2_indexOfCharUnsafe_4cfef cJ2_indexOfCharUnsafe_4cfef 5 (some .int) ∈ WG := wg4 (List.mem_of_getElem? (i := 217) rfl) rfl
theorem m4_218 : Cond.methodLink RJ2 232 yJ2_indexOfSupplementary_4cfef ∈ WG := wg4 (List.mem_of_getElem? (i := 218) rfl) rfl
theorem m4_219 : Cond.static yJ2_indexOfSupplementary_4cfef ∈ WG := wg4 (List.mem_of_getElem? (i := 219) rfl) rfl
theorem m4_220 : Cond.code yJ2_indexOfSupplementary_4cfef cJ2_indexOfSupplementary_4cfef 7 (some .int) ∈ WG := wg4 (List.mem_of_getElem? (i := 220) rfl) rfl
theorem m4_221 : Cond.methodLink RJ2 164 yJ11_isValidCodePoint_9a6ad ∈ WG := wg4 (List.mem_of_getElem? (i := 221) rfl) rfl
theorem m4_222 : Cond.static yJ11_isValidCodePoint_9a6ad ∈ WG := wg4 (List.mem_of_getElem? (i := 222) rfl) rfl
theorem m4_223 : Cond.code yJ11_isValidCodePoint_9a6ad cJ11_isValidCodePoint_9a6ad 2 (some .boolean) ∈ WG := wg4 (List.mem_of_getElem? (i := 223) rfl) rfl
theorem m4_224 : Cond.methodLink RJ2 157 yJ11_highSurrogate_5068e ∈ WG := wg4 (List.mem_of_getElem? (i := 224) rfl) rfl
theorem m4_225 : Cond.static yJ11_highSurrogate_5068e ∈ WG := wg4 (List.mem_of_getElem? (i := 225) rfl) rfl
theorem m4_226 : Cond.code yJ11_highSurrogate_5068e cJ11_highSurrogate_5068e 1 (some .char) ∈ WG := wg4 (List.mem_of_getElem? (i := 226) rfl) rfl
theorem m4_227 : Cond.constant RJ11 110 (55232) ∈ WG := wg4 (List.mem_of_getElem? (i := 227) rfl) rfl
theorem m4_228 : Cond.methodLink RJ2 161 yJ11_lowSurrogate_5068e ∈ WG := wg4 (List.mem_of_getElem? (i := 228) rfl) rfl
theorem m4_229 : Cond.static yJ11_lowSurrogate_5068e ∈ WG := wg4 (List.mem_of_getElem? (i := 229) rfl) rfl
theorem m4_230 : Cond.code yJ11_lowSurrogate_5068e cJ11_lowSurrogate_5068e 1 (some .char) ∈ WG := wg4 (List.mem_of_getElem? (i := 230) rfl) rfl
theorem m4_231 : Cond.constant RJ11 76 (56320) ∈ WG := wg4 (List.mem_of_getElem? (i := 231) rfl) rfl
theorem m4_232 : Cond.methodLink RX8 68 yX8_no ∈ WG := wg4 (List.mem_of_getElem? (i := 232) rfl) rfl
theorem m4_234 : Cond.instanceMethod yX8_no ∈ WG := wg4 (List.mem_of_getElem? (i := 234) rfl) rfl
theorem m4_235 : Cond.code yX8_no cX8_no 2 (some .int) ∈ WG := wg4 (List.mem_of_getElem? (i := 235) rfl) rfl
theorem m4_236 : Cond.methodLink RX8 71 yX8_append ∈ WG := wg4 (List.mem_of_getElem? (i := 236) rfl) rfl
theorem m4_238 : Cond.instanceMethod yX8_append ∈ WG := wg4 (List.mem_of_getElem? (i := 238) rfl) rfl
theorem m4_239 : Cond.code yX8_append cX8_append 2 (some .int) ∈ WG := wg4 (List.mem_of_getElem? (i := 239) rfl) rfl
theorem m5_0 : Cond.methodLink RL 113 yX8_when ∈ WG := wg5 (List.mem_of_getElem? (i := 0) rfl) rfl
theorem m5_1 : Cond.instanceMethod yX8_when ∈ WG := wg5 (List.mem_of_getElem? (i := 1) rfl) rfl
theorem m5_2 : Cond.selects RX8 yX8_when yX8_when ∈ WG := wg5 (List.mem_of_getElem? (i := 2) rfl) rfl
theorem m5_3 : Cond.code yX8_when cX8_when 3 (some .int) ∈ WG := wg5 (List.mem_of_getElem? (i := 3) rfl) rfl
theorem m5_4 : Cond.methodLink RX8 74 yX8_isFeature ∈ WG := wg5 (List.mem_of_getElem? (i := 4) rfl) rfl
theorem m5_5 : Cond.static yX8_isFeature ∈ WG := wg5 (List.mem_of_getElem? (i := 5) rfl) rfl
theorem m5_6 : Cond.code yX8_isFeature cX8_isFeature 1 (some .boolean) ∈ WG := wg5 (List.mem_of_getElem? (i := 6) rfl) rfl
theorem m5_7 : Cond.methodLink RX8 50 yX8_isIn ∈ WG := wg5 (List.mem_of_getElem? (i := 7) rfl) rfl
theorem m5_8 : Cond.static yX8_isIn ∈ WG := wg5 (List.mem_of_getElem? (i := 8) rfl) rfl
theorem m5_9 : Cond.code yX8_isIn cX8_isIn 3 (some .boolean) ∈ WG := wg5 (List.mem_of_getElem? (i := 9) rfl) rfl
theorem m5_10 : Cond.methodLink RX8 77 yX8_openCount ∈ WG := wg5 (List.mem_of_getElem? (i := 10) rfl) rfl
theorem m5_12 : Cond.instanceMethod yX8_openCount ∈ WG := wg5 (List.mem_of_getElem? (i := 12) rfl) rfl
theorem m5_13 : Cond.code yX8_openCount cX8_openCount 3 (some .int) ∈ WG := wg5 (List.mem_of_getElem? (i := 13) rfl) rfl
theorem m5_14 : Cond.methodLink RL 117 yX8_otherwise ∈ WG := wg5 (List.mem_of_getElem? (i := 14) rfl) rfl
theorem m5_15 : Cond.instanceMethod yX8_otherwise ∈ WG := wg5 (List.mem_of_getElem? (i := 15) rfl) rfl
theorem m5_16 : Cond.selects RX8 yX8_otherwise yX8_otherwise ∈ WG := wg5 (List.mem_of_getElem? (i := 16) rfl) rfl
theorem m5_17 : Cond.code yX8_otherwise cX8_otherwise 2 (some .int) ∈ WG := wg5 (List.mem_of_getElem? (i := 17) rfl) rfl
theorem m5_18 : Cond.methodLink RX8 81 yX8_whenOf ∈ WG := wg5 (List.mem_of_getElem? (i := 18) rfl) rfl
theorem m5_20 : Cond.instanceMethod yX8_whenOf ∈ WG := wg5 (List.mem_of_getElem? (i := 20) rfl) rfl
theorem m5_21 : Cond.code yX8_whenOf cX8_whenOf 4 (some .int) ∈ WG := wg5 (List.mem_of_getElem? (i := 21) rfl) rfl
theorem m5_22 : Cond.methodLink RX8 84 yX8_hasOtherwise ∈ WG := wg5 (List.mem_of_getElem? (i := 22) rfl) rfl
theorem m5_24 : Cond.instanceMethod yX8_hasOtherwise ∈ WG := wg5 (List.mem_of_getElem? (i := 24) rfl) rfl
theorem m5_25 : Cond.code yX8_hasOtherwise cX8_hasOtherwise 4 (some .boolean) ∈ WG := wg5 (List.mem_of_getElem? (i := 25) rfl) rfl
theorem m5_26 : Cond.methodLink RL 120 yX8_done ∈ WG := wg5 (List.mem_of_getElem? (i := 26) rfl) rfl
theorem m5_27 : Cond.instanceMethod yX8_done ∈ WG := wg5 (List.mem_of_getElem? (i := 27) rfl) rfl
theorem m5_28 : Cond.selects RX8 yX8_done yX8_done ∈ WG := wg5 (List.mem_of_getElem? (i := 28) rfl) rfl
theorem m5_29 : Cond.code yX8_done cX8_done 1 (some .int) ∈ WG := wg5 (List.mem_of_getElem? (i := 29) rfl) rfl
theorem m5_30 : Cond.methodLink RL 123 yX8_set ∈ WG := wg5 (List.mem_of_getElem? (i := 30) rfl) rfl
theorem m5_31 : Cond.instanceMethod yX8_set ∈ WG := wg5 (List.mem_of_getElem? (i := 31) rfl) rfl
theorem m5_32 : Cond.selects RX8 yX8_set yX8_set ∈ WG := wg5 (List.mem_of_getElem? (i := 32) rfl) rfl
theorem m5_33 : Cond.code yX8_set cX8_set 3 (some .int) ∈ WG := wg5 (List.mem_of_getElem? (i := 33) rfl) rfl
theorem m5_34 : Cond.methodLink RL 126 yX8_drop ∈ WG := wg5 (List.mem_of_getElem? (i := 34) rfl) rfl
theorem m5_35 : Cond.instanceMethod yX8_drop ∈ WG := wg5 (List.mem_of_getElem? (i := 35) rfl) rfl
theorem m5_36 : Cond.selects RX8 yX8_drop yX8_drop ∈ WG := wg5 (List.mem_of_getElem? (i := 36) rfl) rfl
theorem m5_37 : Cond.code yX8_drop cX8_drop 1 (some .int) ∈ WG := wg5 (List.mem_of_getElem? (i := 37) rfl) rfl
theorem m5_38 : Cond.methodLink RL 130 yX8_replace ∈ WG := wg5 (List.mem_of_getElem? (i := 38) rfl) rfl
theorem m5_39 : Cond.instanceMethod yX8_replace ∈ WG := wg5 (List.mem_of_getElem? (i := 39) rfl) rfl
theorem m5_40 : Cond.selects RX8 yX8_replace yX8_replace ∈ WG := wg5 (List.mem_of_getElem? (i := 40) rfl) rfl
theorem m5_41 : Cond.code yX8_replace cX8_replace 4 (some .int) ∈ WG := wg5 (List.mem_of_getElem? (i := 41) rfl) rfl
theorem m5_42 : Cond.methodLink RX8 87 yX8_isItem ∈ WG := wg5 (List.mem_of_getElem? (i := 42) rfl) rfl
theorem m5_44 : Cond.instanceMethod yX8_isItem ∈ WG := wg5 (List.mem_of_getElem? (i := 44) rfl) rfl
theorem m5_45 : Cond.code yX8_isItem cX8_isItem 2 (some .boolean) ∈ WG := wg5 (List.mem_of_getElem? (i := 45) rfl) rfl
theorem m5_46 : Cond.methodLink RX8 90 yX8_isToken ∈ WG := wg5 (List.mem_of_getElem? (i := 46) rfl) rfl
theorem m5_48 : Cond.instanceMethod yX8_isToken ∈ WG := wg5 (List.mem_of_getElem? (i := 48) rfl) rfl
theorem m5_49 : Cond.code yX8_isToken cX8_isToken 2 (some .boolean) ∈ WG := wg5 (List.mem_of_getElem? (i := 49) rfl) rfl
theorem m5_50 : Cond.methodLink RL 134 yX8_size ∈ WG := wg5 (List.mem_of_getElem? (i := 50) rfl) rfl
theorem m5_51 : Cond.instanceMethod yX8_size ∈ WG := wg5 (List.mem_of_getElem? (i := 51) rfl) rfl
theorem m5_52 : Cond.selects RX8 yX8_size yX8_size ∈ WG := wg5 (List.mem_of_getElem? (i := 52) rfl) rfl
theorem m5_53 : Cond.code yX8_size cX8_size 1 (some .int) ∈ WG := wg5 (List.mem_of_getElem? (i := 53) rfl) rfl
theorem m5_54 : Cond.methodLink RL 138 yX8_item ∈ WG := wg5 (List.mem_of_getElem? (i := 54) rfl) rfl
theorem m5_55 : Cond.instanceMethod yX8_item ∈ WG := wg5 (List.mem_of_getElem? (i := 55) rfl) rfl
theorem m5_56 : Cond.selects RX8 yX8_item yX8_item ∈ WG := wg5 (List.mem_of_getElem? (i := 56) rfl) rfl
theorem m5_57 : Cond.code yX8_item cX8_item 2 (some .int) ∈ WG := wg5 (List.mem_of_getElem? (i := 57) rfl) rfl
theorem m5_58 : Cond.methodLink RL 142 yX8_unfinished ∈ WG := wg5 (List.mem_of_getElem? (i := 58) rfl) rfl
theorem m5_59 : Cond.instanceMethod yX8_unfinished ∈ WG := wg5 (List.mem_of_getElem? (i := 59) rfl) rfl
theorem m5_60 : Cond.selects RX8 yX8_unfinished yX8_unfinished ∈ WG := wg5 (List.mem_of_getElem? (i := 60) rfl) rfl
theorem m5_61 : Cond.code yX8_unfinished cX8_unfinished 1 (some .int) ∈ WG := wg5 (List.mem_of_getElem? (i := 61) rfl) rfl
theorem m5_62 : Cond.methodLink RL 145 yX8_presence ∈ WG := wg5 (List.mem_of_getElem? (i := 62) rfl) rfl
theorem m5_63 : Cond.instanceMethod yX8_presence ∈ WG := wg5 (List.mem_of_getElem? (i := 63) rfl) rfl
theorem m5_64 : Cond.selects RX8 yX8_presence yX8_presence ∈ WG := wg5 (List.mem_of_getElem? (i := 64) rfl) rfl
theorem m5_65 : Cond.code yX8_presence cX8_presence 2 (some .int) ∈ WG := wg5 (List.mem_of_getElem? (i := 65) rfl) rfl
theorem m5_66 : Cond.methodLink RX8 98 yX8_look ∈ WG := wg5 (List.mem_of_getElem? (i := 66) rfl) rfl
theorem m5_68 : Cond.instanceMethod yX8_look ∈ WG := wg5 (List.mem_of_getElem? (i := 68) rfl) rfl
theorem m5_69 : Cond.code yX8_look cX8_look 8 none ∈ WG := wg5 (List.mem_of_getElem? (i := 69) rfl) rfl
theorem m5_70 : Cond.methodLink RX8 93 yX8_has ∈ WG := wg5 (List.mem_of_getElem? (i := 70) rfl) rfl
theorem m5_71 : Cond.static yX8_has ∈ WG := wg5 (List.mem_of_getElem? (i := 71) rfl) rfl
theorem m5_72 : Cond.code yX8_has cX8_has 2 (some .boolean) ∈ WG := wg5 (List.mem_of_getElem? (i := 72) rfl) rfl
theorem m5_73 : Cond.constant RX8 97 (65535) ∈ WG := wg5 (List.mem_of_getElem? (i := 73) rfl) rfl
theorem m5_74 : Cond.methodLink RL 148 yX8_on ∈ WG := wg5 (List.mem_of_getElem? (i := 74) rfl) rfl
theorem m5_75 : Cond.instanceMethod yX8_on ∈ WG := wg5 (List.mem_of_getElem? (i := 75) rfl) rfl
theorem m5_76 : Cond.selects RX8 yX8_on yX8_on ∈ WG := wg5 (List.mem_of_getElem? (i := 76) rfl) rfl
theorem m5_77 : Cond.code yX8_on cX8_on 3 (some .int) ∈ WG := wg5 (List.mem_of_getElem? (i := 77) rfl) rfl
theorem m5_78 : Cond.methodLink RL 151 yX8_features ∈ WG := wg5 (List.mem_of_getElem? (i := 78) rfl) rfl
theorem m5_79 : Cond.instanceMethod yX8_features ∈ WG := wg5 (List.mem_of_getElem? (i := 79) rfl) rfl
theorem m5_80 : Cond.selects RX8 yX8_features yX8_features ∈ WG := wg5 (List.mem_of_getElem? (i := 80) rfl) rfl
theorem m5_81 : Cond.code yX8_features cX8_features 5 (some .int) ∈ WG := wg5 (List.mem_of_getElem? (i := 81) rfl) rfl
theorem m5_82 : Cond.methodLink RL 155 yX8_dead ∈ WG := wg5 (List.mem_of_getElem? (i := 82) rfl) rfl
theorem m5_83 : Cond.instanceMethod yX8_dead ∈ WG := wg5 (List.mem_of_getElem? (i := 83) rfl) rfl
theorem m5_84 : Cond.selects RX8 yX8_dead yX8_dead ∈ WG := wg5 (List.mem_of_getElem? (i := 84) rfl) rfl
theorem m5_85 : Cond.code yX8_dead cX8_dead 3 (some .int) ∈ WG := wg5 (List.mem_of_getElem? (i := 85) rfl) rfl
theorem m5_86 : Cond.methodLink RL 158 yX8_length ∈ WG := wg5 (List.mem_of_getElem? (i := 86) rfl) rfl
theorem m5_87 : Cond.instanceMethod yX8_length ∈ WG := wg5 (List.mem_of_getElem? (i := 87) rfl) rfl
theorem m5_88 : Cond.selects RX8 yX8_length yX8_length ∈ WG := wg5 (List.mem_of_getElem? (i := 88) rfl) rfl
theorem m5_89 : Cond.code yX8_length cX8_length 2 (some .int) ∈ WG := wg5 (List.mem_of_getElem? (i := 89) rfl) rfl
theorem m5_90 : Cond.methodLink RX8 101 yX8_isConfiguration ∈ WG := wg5 (List.mem_of_getElem? (i := 90) rfl) rfl
theorem m5_91 : Cond.static yX8_isConfiguration ∈ WG := wg5 (List.mem_of_getElem? (i := 91) rfl) rfl
theorem m5_92 : Cond.code yX8_isConfiguration cX8_isConfiguration 1 (some .boolean) ∈ WG := wg5 (List.mem_of_getElem? (i := 92) rfl) rfl
theorem m5_93 : Cond.methodLink RX8 104 yX8_lengthOf ∈ WG := wg5 (List.mem_of_getElem? (i := 93) rfl) rfl
theorem m5_95 : Cond.instanceMethod yX8_lengthOf ∈ WG := wg5 (List.mem_of_getElem? (i := 95) rfl) rfl
theorem m5_96 : Cond.code yX8_lengthOf cX8_lengthOf 4 (some .int) ∈ WG := wg5 (List.mem_of_getElem? (i := 96) rfl) rfl
theorem m5_97 : Cond.methodLink RL 161 yX8_place ∈ WG := wg5 (List.mem_of_getElem? (i := 97) rfl) rfl
theorem m5_98 : Cond.instanceMethod yX8_place ∈ WG := wg5 (List.mem_of_getElem? (i := 98) rfl) rfl
theorem m5_99 : Cond.selects RX8 yX8_place yX8_place ∈ WG := wg5 (List.mem_of_getElem? (i := 99) rfl) rfl
theorem m5_100 : Cond.code yX8_place cX8_place 4 (some .int) ∈ WG := wg5 (List.mem_of_getElem? (i := 100) rfl) rfl
theorem m5_101 : Cond.methodLink RX8 107 yX8_find ∈ WG := wg5 (List.mem_of_getElem? (i := 101) rfl) rfl
theorem m5_103 : Cond.instanceMethod yX8_find ∈ WG := wg5 (List.mem_of_getElem? (i := 103) rfl) rfl
theorem m5_104 : Cond.code yX8_find cX8_find 5 (some .int) ∈ WG := wg5 (List.mem_of_getElem? (i := 104) rfl) rfl
theorem m5_105 : Cond.methodLink RL 165 yX8_variants ∈ WG := wg5 (List.mem_of_getElem? (i := 105) rfl) rfl
theorem m5_106 : Cond.instanceMethod yX8_variants ∈ WG := wg5 (List.mem_of_getElem? (i := 106) rfl) rfl
theorem m5_107 : Cond.selects RX8 yX8_variants yX8_variants ∈ WG := wg5 (List.mem_of_getElem? (i := 107) rfl) rfl
theorem m5_108 : Cond.code yX8_variants cX8_variants 5 (some .int) ∈ WG := wg5 (List.mem_of_getElem? (i := 108) rfl) rfl
theorem m5_109 : Cond.methodLink RX8 111 yX8_areSame ∈ WG := wg5 (List.mem_of_getElem? (i := 109) rfl) rfl
theorem m5_111 : Cond.instanceMethod yX8_areSame ∈ WG := wg5 (List.mem_of_getElem? (i := 111) rfl) rfl
theorem m5_112 : Cond.code yX8_areSame cX8_areSame 6 (some .boolean) ∈ WG := wg5 (List.mem_of_getElem? (i := 112) rfl) rfl
theorem m5_113 : Cond.methodLink RL 168 yX8_error ∈ WG := wg5 (List.mem_of_getElem? (i := 113) rfl) rfl
theorem m5_114 : Cond.instanceMethod yX8_error ∈ WG := wg5 (List.mem_of_getElem? (i := 114) rfl) rfl
theorem m5_115 : Cond.selects RX8 yX8_error yX8_error ∈ WG := wg5 (List.mem_of_getElem? (i := 115) rfl) rfl
theorem m5_116 : Cond.code yX8_error cX8_error 2 (some .int) ∈ WG := wg5 (List.mem_of_getElem? (i := 116) rfl) rfl
theorem m5_117 : Cond.methodLink RX8 142 yX8_isWhole ∈ WG := wg5 (List.mem_of_getElem? (i := 117) rfl) rfl
theorem m5_119 : Cond.instanceMethod yX8_isWhole ∈ WG := wg5 (List.mem_of_getElem? (i := 119) rfl) rfl
theorem m5_120 : Cond.code yX8_isWhole cX8_isWhole 1 (some .boolean) ∈ WG := wg5 (List.mem_of_getElem? (i := 120) rfl) rfl
theorem m5_121 : Cond.methodLink RX8 146 yX8_read ∈ WG := wg5 (List.mem_of_getElem? (i := 121) rfl) rfl
theorem m5_123 : Cond.instanceMethod yX8_read ∈ WG := wg5 (List.mem_of_getElem? (i := 123) rfl) rfl
theorem m5_124 : Cond.code yX8_read cX8_read 5 none ∈ WG := wg5 (List.mem_of_getElem? (i := 124) rfl) rfl
theorem m5_125 : Cond.methodLink RX8 120 yX8_push ∈ WG := wg5 (List.mem_of_getElem? (i := 125) rfl) rfl
theorem m5_127 : Cond.instanceMethod yX8_push ∈ WG := wg5 (List.mem_of_getElem? (i := 127) rfl) rfl
theorem m5_128 : Cond.code yX8_push cX8_push 3 none ∈ WG := wg5 (List.mem_of_getElem? (i := 128) rfl) rfl
theorem m5_129 : Cond.methodLink RX8 136 yX8_countGroups ∈ WG := wg5 (List.mem_of_getElem? (i := 129) rfl) rfl
theorem m5_131 : Cond.instanceMethod yX8_countGroups ∈ WG := wg5 (List.mem_of_getElem? (i := 131) rfl) rfl
theorem m5_132 : Cond.code yX8_countGroups cX8_countGroups 6 (some .int) ∈ WG := wg5 (List.mem_of_getElem? (i := 132) rfl) rfl
theorem m5_133 : Cond.methodLink RX8 133 yX8_areLike ∈ WG := wg5 (List.mem_of_getElem? (i := 133) rfl) rfl
theorem m5_135 : Cond.instanceMethod yX8_areLike ∈ WG := wg5 (List.mem_of_getElem? (i := 135) rfl) rfl
theorem m5_136 : Cond.code yX8_areLike cX8_areLike 5 (some .boolean) ∈ WG := wg5 (List.mem_of_getElem? (i := 136) rfl) rfl
theorem m5_137 : Cond.methodLink RX8 139 yX8_readOne ∈ WG := wg5 (List.mem_of_getElem? (i := 137) rfl) rfl
theorem m5_139 : Cond.instanceMethod yX8_readOne ∈ WG := wg5 (List.mem_of_getElem? (i := 139) rfl) rfl
theorem m5_140 : Cond.code yX8_readOne cX8_readOne 3 (some .boolean) ∈ WG := wg5 (List.mem_of_getElem? (i := 140) rfl) rfl
theorem m5_141 : Cond.methodLink RX8 130 yX8_expand ∈ WG := wg5 (List.mem_of_getElem? (i := 141) rfl) rfl
theorem m5_143 : Cond.instanceMethod yX8_expand ∈ WG := wg5 (List.mem_of_getElem? (i := 143) rfl) rfl
theorem m5_144 : Cond.code yX8_expand cX8_expand 4 (some .boolean) ∈ WG := wg5 (List.mem_of_getElem? (i := 144) rfl) rfl
theorem m5_145 : Cond.methodLink RX8 117 yX8_canBegin ∈ WG := wg5 (List.mem_of_getElem? (i := 145) rfl) rfl
theorem m5_146 : Cond.static yX8_canBegin ∈ WG := wg5 (List.mem_of_getElem? (i := 146) rfl) rfl
theorem m5_147 : Cond.code yX8_canBegin cX8_canBegin 1 (some .boolean) ∈ WG := wg5 (List.mem_of_getElem? (i := 147) rfl) rfl
theorem m5_148 : Cond.methodLink RX8 114 yX8_isName ∈ WG := wg5 (List.mem_of_getElem? (i := 148) rfl) rfl
theorem m5_149 : Cond.static yX8_isName ∈ WG := wg5 (List.mem_of_getElem? (i := 149) rfl) rfl
theorem m5_150 : Cond.code yX8_isName cX8_isName 1 (some .boolean) ∈ WG := wg5 (List.mem_of_getElem? (i := 150) rfl) rfl
theorem m5_151 : Cond.methodLink RX8 124 yX8_expandStatement ∈ WG := wg5 (List.mem_of_getElem? (i := 151) rfl) rfl
theorem m5_153 : Cond.instanceMethod yX8_expandStatement ∈ WG := wg5 (List.mem_of_getElem? (i := 153) rfl) rfl
theorem m5_154 : Cond.code yX8_expandStatement cX8_expandStatement 3 (some .boolean) ∈ WG := wg5 (List.mem_of_getElem? (i := 154) rfl) rfl
theorem m5_155 : Cond.methodLink RX8 127 yX8_expandFactor ∈ WG := wg5 (List.mem_of_getElem? (i := 155) rfl) rfl
theorem m5_157 : Cond.instanceMethod yX8_expandFactor ∈ WG := wg5 (List.mem_of_getElem? (i := 157) rfl) rfl
theorem m5_158 : Cond.code yX8_expandFactor cX8_expandFactor 4 (some .boolean) ∈ WG := wg5 (List.mem_of_getElem? (i := 158) rfl) rfl
theorem m5_159 : Cond.methodLink RL 171 yX8_wrong ∈ WG := wg5 (List.mem_of_getElem? (i := 159) rfl) rfl
theorem m5_160 : Cond.instanceMethod yX8_wrong ∈ WG := wg5 (List.mem_of_getElem? (i := 160) rfl) rfl
theorem m5_161 : Cond.selects RX8 yX8_wrong yX8_wrong ∈ WG := wg5 (List.mem_of_getElem? (i := 161) rfl) rfl
theorem m5_162 : Cond.code yX8_wrong cX8_wrong 3 (some .int) ∈ WG := wg5 (List.mem_of_getElem? (i := 162) rfl) rfl
theorem m5_163 : Cond.methodLink RL 174 yX8_firstError ∈ WG := wg5 (List.mem_of_getElem? (i := 163) rfl) rfl
theorem m5_164 : Cond.instanceMethod yX8_firstError ∈ WG := wg5 (List.mem_of_getElem? (i := 164) rfl) rfl
theorem m5_165 : Cond.selects RX8 yX8_firstError yX8_firstError ∈ WG := wg5 (List.mem_of_getElem? (i := 165) rfl) rfl
theorem m5_166 : Cond.code yX8_firstError cX8_firstError 3 (some .int) ∈ WG := wg5 (List.mem_of_getElem? (i := 166) rfl) rfl
theorem m5_167 : Cond.methodLink RL 177 yX8_groups ∈ WG := wg5 (List.mem_of_getElem? (i := 167) rfl) rfl
theorem m5_168 : Cond.instanceMethod yX8_groups ∈ WG := wg5 (List.mem_of_getElem? (i := 168) rfl) rfl
theorem m5_169 : Cond.selects RX8 yX8_groups yX8_groups ∈ WG := wg5 (List.mem_of_getElem? (i := 169) rfl) rfl
theorem m5_170 : Cond.code yX8_groups cX8_groups 2 (some .int) ∈ WG := wg5 (List.mem_of_getElem? (i := 170) rfl) rfl
theorem m5_171 : Cond.methodLink RL 180 yX8_work ∈ WG := wg5 (List.mem_of_getElem? (i := 171) rfl) rfl
theorem m5_172 : Cond.instanceMethod yX8_work ∈ WG := wg5 (List.mem_of_getElem? (i := 172) rfl) rfl
theorem m5_173 : Cond.selects RX8 yX8_work yX8_work ∈ WG := wg5 (List.mem_of_getElem? (i := 173) rfl) rfl
theorem m5_174 : Cond.code yX8_work cX8_work 1 (some .int) ∈ WG := wg5 (List.mem_of_getElem? (i := 174) rfl) rfl
theorem m5_175 : Cond.methodLink RX8 149 yX8_sumOfGroups ∈ WG := wg5 (List.mem_of_getElem? (i := 175) rfl) rfl
theorem m5_177 : Cond.instanceMethod yX8_sumOfGroups ∈ WG := wg5 (List.mem_of_getElem? (i := 177) rfl) rfl
theorem m5_178 : Cond.code yX8_sumOfGroups cX8_sumOfGroups 3 (some .int) ∈ WG := wg5 (List.mem_of_getElem? (i := 178) rfl) rfl
theorem m5_179 : Cond.methodLink RL 184 yX8_gain ∈ WG := wg5 (List.mem_of_getElem? (i := 179) rfl) rfl
theorem m5_180 : Cond.instanceMethod yX8_gain ∈ WG := wg5 (List.mem_of_getElem? (i := 180) rfl) rfl
theorem m5_181 : Cond.selects RX8 yX8_gain yX8_gain ∈ WG := wg5 (List.mem_of_getElem? (i := 181) rfl) rfl
theorem m5_182 : Cond.code yX8_gain cX8_gain 4 (some .double) ∈ WG := wg5 (List.mem_of_getElem? (i := 182) rfl) rfl
theorem m5_183 : Cond.methodLink RL 187 yX8_stack ∈ WG := wg5 (List.mem_of_getElem? (i := 183) rfl) rfl
theorem m5_184 : Cond.instanceMethod yX8_stack ∈ WG := wg5 (List.mem_of_getElem? (i := 184) rfl) rfl
theorem m5_185 : Cond.selects RX8 yX8_stack yX8_stack ∈ WG := wg5 (List.mem_of_getElem? (i := 185) rfl) rfl
theorem m5_186 : Cond.code yX8_stack cX8_stack 4 (some .int) ∈ WG := wg5 (List.mem_of_getElem? (i := 186) rfl) rfl
theorem m5_187 : Cond.methodLink RL 190 yX8_outputs ∈ WG := wg5 (List.mem_of_getElem? (i := 187) rfl) rfl
theorem m5_188 : Cond.instanceMethod yX8_outputs ∈ WG := wg5 (List.mem_of_getElem? (i := 188) rfl) rfl
theorem m5_189 : Cond.selects RX8 yX8_outputs yX8_outputs ∈ WG := wg5 (List.mem_of_getElem? (i := 189) rfl) rfl
theorem m5_190 : Cond.code yX8_outputs cX8_outputs 2 (some .int) ∈ WG := wg5 (List.mem_of_getElem? (i := 190) rfl) rfl
theorem m5_191 : Cond.methodLink RX8 178 yX8_asks ∈ WG := wg5 (List.mem_of_getElem? (i := 191) rfl) rfl
theorem m5_193 : Cond.instanceMethod yX8_asks ∈ WG := wg5 (List.mem_of_getElem? (i := 193) rfl) rfl
theorem m5_194 : Cond.code yX8_asks cX8_asks 2 (some .boolean) ∈ WG := wg5 (List.mem_of_getElem? (i := 194) rfl) rfl
theorem m5_195 : Cond.methodLink RX8 174 yX8_run ∈ WG := wg5 (List.mem_of_getElem? (i := 195) rfl) rfl
theorem m5_197 : Cond.instanceMethod yX8_run ∈ WG := wg5 (List.mem_of_getElem? (i := 197) rfl) rfl
theorem m5_198 : Cond.code yX8_run cX8_run 4 none ∈ WG := wg5 (List.mem_of_getElem? (i := 198) rfl) rfl
theorem m5_199 : Cond.methodLink RX8 167 yX8_statement ∈ WG := wg5 (List.mem_of_getElem? (i := 199) rfl) rfl
theorem m5_201 : Cond.instanceMethod yX8_statement ∈ WG := wg5 (List.mem_of_getElem? (i := 201) rfl) rfl
theorem m5_202 : Cond.code yX8_statement cX8_statement 4 none ∈ WG := wg5 (List.mem_of_getElem? (i := 202) rfl) rfl
theorem m5_203 : Cond.methodLink RX8 164 yX8_expression ∈ WG := wg5 (List.mem_of_getElem? (i := 203) rfl) rfl
theorem m5_205 : Cond.instanceMethod yX8_expression ∈ WG := wg5 (List.mem_of_getElem? (i := 205) rfl) rfl
theorem m5_206 : Cond.code yX8_expression cX8_expression 4 (some .int) ∈ WG := wg5 (List.mem_of_getElem? (i := 206) rfl) rfl
theorem m5_207 : Cond.methodLink RX8 155 yX8_term ∈ WG := wg5 (List.mem_of_getElem? (i := 207) rfl) rfl
theorem m5_209 : Cond.instanceMethod yX8_term ∈ WG := wg5 (List.mem_of_getElem? (i := 209) rfl) rfl
theorem m5_210 : Cond.code yX8_term cX8_term 2 (some .int) ∈ WG := wg5 (List.mem_of_getElem? (i := 210) rfl) rfl
theorem m5_211 : Cond.methodLink RX8 158 yX8_factor ∈ WG := wg5 (List.mem_of_getElem? (i := 211) rfl) rfl
theorem m5_213 : Cond.instanceMethod yX8_factor ∈ WG := wg5 (List.mem_of_getElem? (i := 213) rfl) rfl
theorem m5_214 : Cond.code yX8_factor cX8_factor 3 (some .int) ∈ WG := wg5 (List.mem_of_getElem? (i := 214) rfl) rfl
theorem m5_215 : Cond.methodLink RX8 161 yX8_passes ∈ WG := wg5 (List.mem_of_getElem? (i := 215) rfl) rfl
theorem m5_217 : Cond.instanceMethod yX8_passes ∈ WG := wg5 (List.mem_of_getElem? (i := 217) rfl) rfl
theorem m5_218 : Cond.code yX8_passes cX8_passes 2 (some .boolean) ∈ WG := wg5 (List.mem_of_getElem? (i := 218) rfl) rfl
theorem m5_219 : Cond.methodLink RL 193 yX8_output ∈ WG := wg5 (List.mem_of_getElem? (i := 219) rfl) rfl
theorem m5_220 : Cond.instanceMethod yX8_output ∈ WG := wg5 (List.mem_of_getElem? (i := 220) rfl) rfl
theorem m5_221 : Cond.selects RX8 yX8_output yX8_output ∈ WG := wg5 (List.mem_of_getElem? (i := 221) rfl) rfl
theorem m5_222 : Cond.code yX8_output cX8_output 3 (some .int) ∈ WG := wg5 (List.mem_of_getElem? (i := 222) rfl) rfl
theorem m5_223 : Cond.methodLink RL 196 yX8_variable ∈ WG := wg5 (List.mem_of_getElem? (i := 223) rfl) rfl
theorem m5_224 : Cond.instanceMethod yX8_variable ∈ WG := wg5 (List.mem_of_getElem? (i := 224) rfl) rfl
theorem m5_225 : Cond.selects RX8 yX8_variable yX8_variable ∈ WG := wg5 (List.mem_of_getElem? (i := 225) rfl) rfl
theorem m5_226 : Cond.code yX8_variable cX8_variable 3 (some .int) ∈ WG := wg5 (List.mem_of_getElem? (i := 226) rfl) rfl
theorem m5_227 : Cond.methodLink RL 199 yX8_behaviours ∈ WG := wg5 (List.mem_of_getElem? (i := 227) rfl) rfl
theorem m5_228 : Cond.instanceMethod yX8_behaviours ∈ WG := wg5 (List.mem_of_getElem? (i := 228) rfl) rfl
theorem m5_229 : Cond.selects RX8 yX8_behaviours yX8_behaviours ∈ WG := wg5 (List.mem_of_getElem? (i := 229) rfl) rfl
theorem m5_230 : Cond.code yX8_behaviours cX8_behaviours 9 (some .int) ∈ WG := wg5 (List.mem_of_getElem? (i := 230) rfl) rfl
theorem m5_231 : Cond.methodLink RL 204 yX8_digest ∈ WG := wg5 (List.mem_of_getElem? (i := 231) rfl) rfl
theorem m5_232 : Cond.instanceMethod yX8_digest ∈ WG := wg5 (List.mem_of_getElem? (i := 232) rfl) rfl
theorem m5_233 : Cond.selects RX8 yX8_digest yX8_digest ∈ WG := wg5 (List.mem_of_getElem? (i := 233) rfl) rfl
theorem m5_234 : Cond.code yX8_digest cX8_digest 5 (some .long) ∈ WG := wg5 (List.mem_of_getElem? (i := 234) rfl) rfl
theorem m5_235 : Cond.constantLong RX8 181 (4309) ∈ WG := wg5 (List.mem_of_getElem? (i := 235) rfl) rfl
theorem m5_236 : Cond.constantLong RX8 183 (31) ∈ WG := wg5 (List.mem_of_getElem? (i := 236) rfl) rfl
theorem m5_237 : Cond.constantLong RL 99 (4294967295) ∈ WG := wg5 (List.mem_of_getElem? (i := 237) rfl) rfl
theorem m5_238 : Cond.arrayClass .long ∈ WG := wg5 (List.mem_of_getElem? (i := 238) rfl) rfl
theorem m5_239 : Cond.arrayClass .double ∈ WG := wg5 (List.mem_of_getElem? (i := 239) rfl) rfl
theorem m6_14 : Cond.fieldLink RJ0 15 "java/lang/String" "coder" "B" ∈ WG := wg6 (List.mem_of_getElem? (i := 14) rfl) rfl
theorem m6_15 : Cond.fieldLink RJ0 9 "java/lang/String" "value" "[B" ∈ WG := wg6 (List.mem_of_getElem? (i := 15) rfl) rfl
theorem mp1_0 : Cond.selects RX7 yX7_refresh yX7_refresh ∈ WG := wgp1 (List.mem_of_getElem? (i := 0) rfl)
theorem mp1_1 : Cond.selects RX6 yX6_step yX6_step ∈ WG := wgp1 (List.mem_of_getElem? (i := 1) rfl)
theorem mp1_2 : Cond.selects RX6 yX6_enter yX6_enter ∈ WG := wgp1 (List.mem_of_getElem? (i := 2) rfl)
theorem mp1_3 : Cond.selects RX6 yX6_turn yX6_turn ∈ WG := wgp1 (List.mem_of_getElem? (i := 3) rfl)
theorem mp1_4 : Cond.selects RX7 yX7_collectVariants yX7_collectVariants ∈ WG := wgp1 (List.mem_of_getElem? (i := 4) rfl)
theorem mp1_5 : Cond.selects RX7 yX7_readAll yX7_readAll ∈ WG := wgp1 (List.mem_of_getElem? (i := 5) rfl)
theorem mp1_6 : Cond.selects RX1 yX1_push yX1_push ∈ WG := wgp1 (List.mem_of_getElem? (i := 6) rfl)
theorem mp1_7 : Cond.selects RX7 yX7_countGroups yX7_countGroups ∈ WG := wgp1 (List.mem_of_getElem? (i := 7) rfl)
theorem mp1_8 : Cond.selects RX7 yX7_isReadBy yX7_isReadBy ∈ WG := wgp1 (List.mem_of_getElem? (i := 8) rfl)
theorem mp1_9 : Cond.selects RX7 yX7_isFirstOfItsGroup yX7_isFirstOfItsGroup ∈ WG := wgp1 (List.mem_of_getElem? (i := 9) rfl)
theorem mp1_10 : Cond.selects RX1 yX1_replaceTop yX1_replaceTop ∈ WG := wgp1 (List.mem_of_getElem? (i := 10) rfl)
theorem mp1_11 : Cond.selects RX7 yX7_runAll yX7_runAll ∈ WG := wgp1 (List.mem_of_getElem? (i := 11) rfl)
theorem mp1_12 : Cond.selects RX3 yX3_runStatements yX3_runStatements ∈ WG := wgp1 (List.mem_of_getElem? (i := 12) rfl)
theorem mp1_13 : Cond.selects RX3 yX3_peek yX3_peek ∈ WG := wgp1 (List.mem_of_getElem? (i := 13) rfl)
theorem mp1_14 : Cond.selects RX3 yX3_runStatement yX3_runStatement ∈ WG := wgp1 (List.mem_of_getElem? (i := 14) rfl)
theorem mp1_15 : Cond.selects RX3 yX3_advance yX3_advance ∈ WG := wgp1 (List.mem_of_getElem? (i := 15) rfl)
theorem mp2_0 : Cond.selects RX3 yX3_runChoice yX3_runChoice ∈ WG := wgp2 (List.mem_of_getElem? (i := 0) rfl)
theorem mp2_1 : Cond.selects RX3 yX3_sum yX3_sum ∈ WG := wgp2 (List.mem_of_getElem? (i := 1) rfl)
theorem mp2_2 : Cond.selects RX3 yX3_product yX3_product ∈ WG := wgp2 (List.mem_of_getElem? (i := 2) rfl)
theorem mp2_3 : Cond.selects RX3 yX3_factor yX3_factor ∈ WG := wgp2 (List.mem_of_getElem? (i := 3) rfl)
theorem mp2_4 : Cond.selects RX3 yX3_operand yX3_operand ∈ WG := wgp2 (List.mem_of_getElem? (i := 4) rfl)
theorem mp2_5 : Cond.selects RX3 yX3_put yX3_put ∈ WG := wgp2 (List.mem_of_getElem? (i := 5) rfl)
theorem mp2_6 : Cond.selects RX3 yX3_assign yX3_assign ∈ WG := wgp2 (List.mem_of_getElem? (i := 6) rfl)
theorem mp2_7 : Cond.selects RX7 yX7_isFirstOfItsText yX7_isFirstOfItsText ∈ WG := wgp2 (List.mem_of_getElem? (i := 7) rfl)
theorem mp2_8 : Cond.selects "java/lang/Throwable" ⟨"java/lang/Throwable", "fillInStackTrace", "(I)Ljava/lang/Throwable;"⟩ ⟨"java/lang/Throwable", "fillInStackTrace", "(I)Ljava/lang/Throwable;"⟩ ∈ WG := wgp2 (List.mem_of_getElem? (i := 8) rfl)
theorem mp2_9 : Cond.selects RX7 yX7_append yX7_append ∈ WG := wgp2 (List.mem_of_getElem? (i := 9) rfl)
theorem mp2_10 : Cond.selects RX7 yX7_checkFeature yX7_checkFeature ∈ WG := wgp2 (List.mem_of_getElem? (i := 10) rfl)
theorem mp2_11 : Cond.selects RX7 yX7_checkRoom yX7_checkRoom ∈ WG := wgp2 (List.mem_of_getElem? (i := 11) rfl)
theorem mp2_12 : Cond.selects RX7 yX7_checkUnfinished yX7_checkUnfinished ∈ WG := wgp2 (List.mem_of_getElem? (i := 12) rfl)
theorem mp2_13 : Cond.selects RX7 yX7_checkItem yX7_checkItem ∈ WG := wgp2 (List.mem_of_getElem? (i := 13) rfl)
theorem mp2_14 : Cond.selects RX7 yX7_checkConfiguration yX7_checkConfiguration ∈ WG := wgp2 (List.mem_of_getElem? (i := 14) rfl)
theorem mp2_15 : Cond.selects RX7 yX7_checkIndex yX7_checkIndex ∈ WG := wgp2 (List.mem_of_getElem? (i := 15) rfl)
theorem mp3_0 : Cond.selects RX7 yX7_checkFinished yX7_checkFinished ∈ WG := wgp3 (List.mem_of_getElem? (i := 0) rfl)
theorem mp3_1 : Cond.selects RX7 yX7_sumOfGroups yX7_sumOfGroups ∈ WG := wgp3 (List.mem_of_getElem? (i := 1) rfl)
theorem mp3_2 : Cond.selects RX7 yX7_checkNoError yX7_checkNoError ∈ WG := wgp3 (List.mem_of_getElem? (i := 2) rfl)
theorem mp3_3 : Cond.selects RX7 yX7_isFirstOfItsBehaviour yX7_isFirstOfItsBehaviour ∈ WG := wgp3 (List.mem_of_getElem? (i := 3) rfl)
theorem mp3_4 : Cond.selects RX8 yX8_no yX8_no ∈ WG := wgp3 (List.mem_of_getElem? (i := 4) rfl)
theorem mp3_5 : Cond.selects RX8 yX8_append yX8_append ∈ WG := wgp3 (List.mem_of_getElem? (i := 5) rfl)
theorem mp3_6 : Cond.selects RX8 yX8_openCount yX8_openCount ∈ WG := wgp3 (List.mem_of_getElem? (i := 6) rfl)
theorem mp3_7 : Cond.selects RX8 yX8_whenOf yX8_whenOf ∈ WG := wgp3 (List.mem_of_getElem? (i := 7) rfl)
theorem mp3_8 : Cond.selects RX8 yX8_hasOtherwise yX8_hasOtherwise ∈ WG := wgp3 (List.mem_of_getElem? (i := 8) rfl)
theorem mp3_9 : Cond.selects RX8 yX8_isItem yX8_isItem ∈ WG := wgp3 (List.mem_of_getElem? (i := 9) rfl)
theorem mp3_10 : Cond.selects RX8 yX8_isToken yX8_isToken ∈ WG := wgp3 (List.mem_of_getElem? (i := 10) rfl)
theorem mp3_11 : Cond.selects RX8 yX8_look yX8_look ∈ WG := wgp3 (List.mem_of_getElem? (i := 11) rfl)
theorem mp3_12 : Cond.selects RX8 yX8_lengthOf yX8_lengthOf ∈ WG := wgp3 (List.mem_of_getElem? (i := 12) rfl)
theorem mp3_13 : Cond.selects RX8 yX8_find yX8_find ∈ WG := wgp3 (List.mem_of_getElem? (i := 13) rfl)
theorem mp3_14 : Cond.selects RX8 yX8_areSame yX8_areSame ∈ WG := wgp3 (List.mem_of_getElem? (i := 14) rfl)
theorem mp3_15 : Cond.selects RX8 yX8_isWhole yX8_isWhole ∈ WG := wgp3 (List.mem_of_getElem? (i := 15) rfl)
theorem mp4_0 : Cond.selects RX8 yX8_read yX8_read ∈ WG := wgp4 (List.mem_of_getElem? (i := 0) rfl)
theorem mp4_1 : Cond.selects RX8 yX8_push yX8_push ∈ WG := wgp4 (List.mem_of_getElem? (i := 1) rfl)
theorem mp4_2 : Cond.selects RX8 yX8_countGroups yX8_countGroups ∈ WG := wgp4 (List.mem_of_getElem? (i := 2) rfl)
theorem mp4_3 : Cond.selects RX8 yX8_areLike yX8_areLike ∈ WG := wgp4 (List.mem_of_getElem? (i := 3) rfl)
theorem mp4_4 : Cond.selects RX8 yX8_readOne yX8_readOne ∈ WG := wgp4 (List.mem_of_getElem? (i := 4) rfl)
theorem mp4_5 : Cond.selects RX8 yX8_expand yX8_expand ∈ WG := wgp4 (List.mem_of_getElem? (i := 5) rfl)
theorem mp4_6 : Cond.selects RX8 yX8_expandStatement yX8_expandStatement ∈ WG := wgp4 (List.mem_of_getElem? (i := 6) rfl)
theorem mp4_7 : Cond.selects RX8 yX8_expandFactor yX8_expandFactor ∈ WG := wgp4 (List.mem_of_getElem? (i := 7) rfl)
theorem mp4_8 : Cond.selects RX8 yX8_sumOfGroups yX8_sumOfGroups ∈ WG := wgp4 (List.mem_of_getElem? (i := 8) rfl)
theorem mp4_9 : Cond.selects RX8 yX8_asks yX8_asks ∈ WG := wgp4 (List.mem_of_getElem? (i := 9) rfl)
theorem mp4_10 : Cond.selects RX8 yX8_run yX8_run ∈ WG := wgp4 (List.mem_of_getElem? (i := 10) rfl)
theorem mp4_11 : Cond.selects RX8 yX8_statement yX8_statement ∈ WG := wgp4 (List.mem_of_getElem? (i := 11) rfl)
theorem mp4_12 : Cond.selects RX8 yX8_expression yX8_expression ∈ WG := wgp4 (List.mem_of_getElem? (i := 12) rfl)
theorem mp4_13 : Cond.selects RX8 yX8_term yX8_term ∈ WG := wgp4 (List.mem_of_getElem? (i := 13) rfl)
theorem mp4_14 : Cond.selects RX8 yX8_factor yX8_factor ∈ WG := wgp4 (List.mem_of_getElem? (i := 14) rfl)
theorem mp4_15 : Cond.selects RX8 yX8_passes yX8_passes ∈ WG := wgp4 (List.mem_of_getElem? (i := 15) rfl)
theorem gwV {w0 : Cond} {own C : String} {idx : Nat} {y : MethodName} {cc : ByteArray} {mL : Nat} {ret : Option FieldType} (h1 : Cond.methodLink own idx y ∈ WG) (h2 : Cond.instanceMethod y ∈ WG) (h3 : Cond.selects C y y ∈ WG) (h4 : Cond.initialized C ∈ WG) (h5 : Cond.code y cc mL ret ∈ WG) : GoodIn (w0 :: WG) (wsV own idx C y (Cond.code y cc mL ret :: WG)) := by
  intro w hw
  have key : w ∈ WG := by
    simp only [wsV, List.mem_append, List.mem_cons, List.not_mem_nil, or_false] at hw
    rcases hw with (rfl | rfl | rfl | rfl) | rfl | h
    · exact h1
    · exact h2
    · exact h3
    · exact h4
    · exact h5
    · exact h
  exact ⟨List.mem_cons_of_mem _ key, WG_good key⟩
theorem gwS {w0 : Cond} {own : String} {idx : Nat} {y : MethodName} {cc : ByteArray} {mL : Nat} {ret : Option FieldType} (h1 : Cond.methodLink own idx y ∈ WG) (h2 : Cond.static y ∈ WG) (h4 : Cond.initialized y.cls ∈ WG) (h5 : Cond.code y cc mL ret ∈ WG) : GoodIn (w0 :: WG) (va_wsS own idx y (Cond.code y cc mL ret :: WG)) := by
  intro w hw
  have key : w ∈ WG := by
    simp only [va_wsS, List.mem_append, List.mem_cons, List.not_mem_nil, or_false] at hw
    rcases hw with (rfl | rfl | rfl) | rfl | h
    · exact h1
    · exact h2
    · exact h4
    · exact h5
    · exact h
  exact ⟨List.mem_cons_of_mem _ key, WG_good key⟩
theorem in_RX1 {w0 : Cond} : ∀ w ∈ u_ws RX1 TX1 5, w ∈ w0 :: WG := by
  intro w hw
  obtain ⟨k, hk, rfl⟩ := List.mem_map.mp hw
  have hk := List.mem_range.mp hk
  refine List.mem_cons_of_mem _ ?_
  match k, hk with
  | 0, _ => exact m1_101
  | 1, _ => exact m1_103
  | 2, _ => exact m1_105
  | 3, _ => exact m1_107
  | 4, _ => exact m1_109
  | k + 5, h => exact absurd h (by omega)
theorem in_RX3 {w0 : Cond} : ∀ w ∈ u_ws RX3 TX3 6, w ∈ w0 :: WG := by
  intro w hw
  obtain ⟨k, hk, rfl⟩ := List.mem_map.mp hw
  have hk := List.mem_range.mp hk
  refine List.mem_cons_of_mem _ ?_
  match k, hk with
  | 0, _ => exact m1_127
  | 1, _ => exact m1_129
  | 2, _ => exact m1_131
  | 3, _ => exact m1_133
  | 4, _ => exact m1_135
  | 5, _ => exact m1_137
  | k + 6, h => exact absurd h (by omega)
theorem in_RX4 {w0 : Cond} : ∀ w ∈ u_ws RX4 TX4 2, w ∈ w0 :: WG := by
  intro w hw
  obtain ⟨k, hk, rfl⟩ := List.mem_map.mp hw
  have hk := List.mem_range.mp hk
  refine List.mem_cons_of_mem _ ?_
  match k, hk with
  | 0, _ => exact m1_43
  | 1, _ => exact m1_45
  | k + 2, h => exact absurd h (by omega)
theorem in_RX5 {w0 : Cond} : ∀ w ∈ u_ws RX5 TX5 5, w ∈ w0 :: WG := by
  intro w hw
  obtain ⟨k, hk, rfl⟩ := List.mem_map.mp hw
  have hk := List.mem_range.mp hk
  refine List.mem_cons_of_mem _ ?_
  match k, hk with
  | 0, _ => exact m1_150
  | 1, _ => exact m1_152
  | 2, _ => exact m1_154
  | 3, _ => exact m1_156
  | 4, _ => exact m1_158
  | k + 5, h => exact absurd h (by omega)
theorem in_RX6 {w0 : Cond} : ∀ w ∈ u_ws RX6 TX6 7, w ∈ w0 :: WG := by
  intro w hw
  obtain ⟨k, hk, rfl⟩ := List.mem_map.mp hw
  have hk := List.mem_range.mp hk
  refine List.mem_cons_of_mem _ ?_
  match k, hk with
  | 0, _ => exact m1_66
  | 1, _ => exact m1_68
  | 2, _ => exact m1_70
  | 3, _ => exact m1_72
  | 4, _ => exact m1_74
  | 5, _ => exact m1_76
  | 6, _ => exact m1_78
  | k + 7, h => exact absurd h (by omega)
theorem in_RX7 {w0 : Cond} : ∀ w ∈ u_ws RX7 TX7 5, w ∈ w0 :: WG := by
  intro w hw
  obtain ⟨k, hk, rfl⟩ := List.mem_map.mp hw
  have hk := List.mem_range.mp hk
  refine List.mem_cons_of_mem _ ?_
  match k, hk with
  | 0, _ => exact m1_166
  | 1, _ => exact m1_168
  | 2, _ => exact m1_170
  | 3, _ => exact m1_172
  | 4, _ => exact m1_174
  | k + 5, h => exact absurd h (by omega)
theorem in_RX8 {w0 : Cond} : ∀ w ∈ u_ws RX8 TX8 15, w ∈ w0 :: WG := by
  intro w hw
  obtain ⟨k, hk, rfl⟩ := List.mem_map.mp hw
  have hk := List.mem_range.mp hk
  refine List.mem_cons_of_mem _ ?_
  match k, hk with
  | 0, _ => exact m4_131
  | 1, _ => exact m4_133
  | 2, _ => exact m4_135
  | 3, _ => exact m4_137
  | 4, _ => exact m4_139
  | 5, _ => exact m4_141
  | 6, _ => exact m4_143
  | 7, _ => exact m4_145
  | 8, _ => exact m4_147
  | 9, _ => exact m4_149
  | 10, _ => exact m4_151
  | 11, _ => exact m4_153
  | 12, _ => exact m4_155
  | 13, _ => exact m4_157
  | 14, _ => exact m4_159
  | k + 15, h => exact absurd h (by omega)
