/-! the words: all good words of the tables, and where each stands -/
def WG : List Cond := lw_tbl.filter goodWord
theorem WG_good {w : Cond} (h : w ∈ WG) : (w.onTables && w.keeps) = true ∨ ∃ ty, w = .arrayClass ty := good_of_word (List.mem_filter.mp h).2
theorem WG_lw {w : Cond} (h : w ∈ WG) : w ∈ lw_tbl := (List.mem_filter.mp h).1
theorem wt1 {w : Cond} (h : w ∈ tables_1_1) : w ∈ lw_tbl := List.mem_append_right _ (show w ∈ tables_1 from List.mem_append_left _ h)
theorem wg1 {w : Cond} (h : w ∈ tables_1_1) (g : goodWord w = true) : w ∈ WG := List.mem_filter.mpr ⟨wt1 h, g⟩
theorem wt2 {w : Cond} (h : w ∈ tables_1_2) : w ∈ lw_tbl := List.mem_append_right _ (show w ∈ tables_1 from List.mem_append_right _ (List.mem_append_left _ h))
theorem wg2 {w : Cond} (h : w ∈ tables_1_2) (g : goodWord w = true) : w ∈ WG := List.mem_filter.mpr ⟨wt2 h, g⟩
theorem wt3 {w : Cond} (h : w ∈ tables_1_3) : w ∈ lw_tbl := List.mem_append_right _ (show w ∈ tables_1 from List.mem_append_right _ (List.mem_append_right _ (List.mem_append_left _ h)))
theorem wg3 {w : Cond} (h : w ∈ tables_1_3) (g : goodWord w = true) : w ∈ WG := List.mem_filter.mpr ⟨wt3 h, g⟩
theorem wt4 {w : Cond} (h : w ∈ tables_1_4) : w ∈ lw_tbl := List.mem_append_right _ (show w ∈ tables_1 from List.mem_append_right _ (List.mem_append_right _ (List.mem_append_right _ (h))))
theorem wg4 {w : Cond} (h : w ∈ tables_1_4) (g : goodWord w = true) : w ∈ WG := List.mem_filter.mpr ⟨wt4 h, g⟩
theorem wgp1 {q : MethodName × Nat} (h : q ∈ lw_privs_1) : Cond.selects q.1.cls q.1 q.1 ∈ WG := List.mem_filter.mpr ⟨List.mem_append_left _ (List.mem_map.mpr ⟨q, show q ∈ lw_privs from List.mem_append_left _ h, rfl⟩), rfl⟩
theorem wgp2 {q : MethodName × Nat} (h : q ∈ lw_privs_2) : Cond.selects q.1.cls q.1 q.1 ∈ WG := List.mem_filter.mpr ⟨List.mem_append_left _ (List.mem_map.mpr ⟨q, show q ∈ lw_privs from List.mem_append_right _ (List.mem_append_left _ h), rfl⟩), rfl⟩
theorem wgp3 {q : MethodName × Nat} (h : q ∈ lw_privs_3) : Cond.selects q.1.cls q.1 q.1 ∈ WG := List.mem_filter.mpr ⟨List.mem_append_left _ (List.mem_map.mpr ⟨q, show q ∈ lw_privs from List.mem_append_right _ (List.mem_append_right _ (h)), rfl⟩), rfl⟩
theorem m1_0 : Cond.initialized RL ∈ WG := wg1 (List.mem_of_getElem? (i := 0) rfl) rfl
theorem m1_1 : Cond.initialized RX7 ∈ WG := wg1 (List.mem_of_getElem? (i := 1) rfl) rfl
theorem m1_2 : Cond.initialized RX4 ∈ WG := wg1 (List.mem_of_getElem? (i := 2) rfl) rfl
theorem m1_3 : Cond.initialized RX6 ∈ WG := wg1 (List.mem_of_getElem? (i := 3) rfl) rfl
theorem m1_4 : Cond.initialized RX5 ∈ WG := wg1 (List.mem_of_getElem? (i := 4) rfl) rfl
theorem m1_5 : Cond.initialized RX1 ∈ WG := wg1 (List.mem_of_getElem? (i := 5) rfl) rfl
theorem m1_6 : Cond.initialized RX3 ∈ WG := wg1 (List.mem_of_getElem? (i := 6) rfl) rfl
theorem m1_7 : Cond.initialized RJ0 ∈ WG := wg1 (List.mem_of_getElem? (i := 7) rfl) rfl
theorem m1_8 : Cond.initialized RJ1 ∈ WG := wg1 (List.mem_of_getElem? (i := 8) rfl) rfl
theorem m1_9 : Cond.initialized RJ3 ∈ WG := wg1 (List.mem_of_getElem? (i := 9) rfl) rfl
theorem m1_10 : Cond.initialized RJ2 ∈ WG := wg1 (List.mem_of_getElem? (i := 10) rfl) rfl
theorem m1_11 : Cond.initialized RX0 ∈ WG := wg1 (List.mem_of_getElem? (i := 11) rfl) rfl
theorem m1_12 : Cond.initialized "java/lang/Throwable" ∈ WG := wg1 (List.mem_of_getElem? (i := 12) rfl) rfl
theorem m1_13 : Cond.initialized "java/lang/Exception" ∈ WG := wg1 (List.mem_of_getElem? (i := 13) rfl) rfl
theorem m1_14 : Cond.initialized "java/lang/RuntimeException" ∈ WG := wg1 (List.mem_of_getElem? (i := 14) rfl) rfl
theorem m1_15 : Cond.initialized "java/lang/IllegalArgumentException" ∈ WG := wg1 (List.mem_of_getElem? (i := 15) rfl) rfl
theorem m1_16 : Cond.initialized "java/lang/IllegalStateException" ∈ WG := wg1 (List.mem_of_getElem? (i := 16) rfl) rfl
theorem m1_17 : Cond.initialized RJ9 ∈ WG := wg1 (List.mem_of_getElem? (i := 17) rfl) rfl
theorem m1_18 : Cond.initialized "java/lang/IndexOutOfBoundsException" ∈ WG := wg1 (List.mem_of_getElem? (i := 18) rfl) rfl
theorem m1_19 : Cond.initialized RX2 ∈ WG := wg1 (List.mem_of_getElem? (i := 19) rfl) rfl
theorem m1_20 : Cond.initialized "java/util/NoSuchElementException" ∈ WG := wg1 (List.mem_of_getElem? (i := 20) rfl) rfl
theorem m1_21 : Cond.initialized RJ6 ∈ WG := wg1 (List.mem_of_getElem? (i := 21) rfl) rfl
theorem m1_22 : Cond.classLink RL 58 "VariantParser" ∈ WG := wg1 (List.mem_of_getElem? (i := 22) rfl) rfl
theorem m1_23 : Cond.instantiable RX7 5 ∈ WG := wg1 (List.mem_of_getElem? (i := 23) rfl) rfl
theorem m1_24 : Cond.methodLink RL 87 yX7_init ∈ WG := wg1 (List.mem_of_getElem? (i := 24) rfl) rfl
theorem m1_25 : Cond.instanceMethod yX7_init ∈ WG := wg1 (List.mem_of_getElem? (i := 25) rfl) rfl
theorem m1_26 : Cond.code yX7_init cX7_init 2 none ∈ WG := wg1 (List.mem_of_getElem? (i := 26) rfl) rfl
theorem m1_27 : Cond.methodLink RX7 1 objectInit ∈ WG := wg1 (List.mem_of_getElem? (i := 27) rfl) rfl
theorem m1_28 : Cond.instanceMethod objectInit ∈ WG := wg1 (List.mem_of_getElem? (i := 28) rfl) rfl
theorem m1_29 : Cond.code objectInit object_method_1_code 1 none ∈ WG := wg1 (List.mem_of_getElem? (i := 29) rfl) rfl
theorem m1_30 : Cond.classLink RX7 7 "VariantParser$Source" ∈ WG := wg1 (List.mem_of_getElem? (i := 30) rfl) rfl
theorem m1_31 : Cond.instantiable RX4 2 ∈ WG := wg1 (List.mem_of_getElem? (i := 31) rfl) rfl
theorem m1_33 : Cond.instanceMethod yX4_init ∈ WG := wg1 (List.mem_of_getElem? (i := 33) rfl) rfl
theorem m1_34 : Cond.code yX4_init cX4_init 1 none ∈ WG := wg1 (List.mem_of_getElem? (i := 34) rfl) rfl
theorem m1_35 : Cond.methodLink RX4 3 objectInit ∈ WG := wg1 (List.mem_of_getElem? (i := 35) rfl) rfl
theorem m1_36 : Cond.fieldLink RX4 9 "VariantParser$Source" "codes" "[I" ∈ WG := wg1 (List.mem_of_getElem? (i := 36) rfl) rfl
theorem m1_37 : Cond.fieldLink RX6 45 "VariantParser$Source" "codes" "[I" ∈ WG := wg1 (List.mem_of_getElem? (i := 37) rfl) rfl
theorem m1_38 : Cond.fieldLink RX7 105 "VariantParser$Source" "codes" "[I" ∈ WG := wg1 (List.mem_of_getElem? (i := 38) rfl) rfl
theorem m1_39 : Cond.fieldLink RX7 55 "VariantParser$Source" "size" "I" ∈ WG := wg1 (List.mem_of_getElem? (i := 39) rfl) rfl
theorem m1_40 : Cond.fieldLink RX6 40 "VariantParser$Source" "size" "I" ∈ WG := wg1 (List.mem_of_getElem? (i := 40) rfl) rfl
theorem m1_41 : Cond.fieldLink RX4 19 "VariantParser$Source" "size" "I" ∈ WG := wg1 (List.mem_of_getElem? (i := 41) rfl) rfl
theorem m1_42 : Cond.laysFinal "VariantParser$Source" "VariantParser$Source" "codes" "[I" ∈ WG := wg1 (List.mem_of_getElem? (i := 42) rfl) rfl
theorem m1_44 : Cond.lays "VariantParser$Source" "VariantParser$Source" "size" "I" ∈ WG := wg1 (List.mem_of_getElem? (i := 44) rfl) rfl
theorem m1_47 : Cond.arrayClass .int ∈ WG := wg1 (List.mem_of_getElem? (i := 47) rfl) rfl
theorem m1_48 : Cond.classLink RX7 16 "VariantParser$Walk" ∈ WG := wg1 (List.mem_of_getElem? (i := 48) rfl) rfl
theorem m1_49 : Cond.instantiable RX6 7 ∈ WG := wg1 (List.mem_of_getElem? (i := 49) rfl) rfl
theorem m1_51 : Cond.instanceMethod yX6_init ∈ WG := wg1 (List.mem_of_getElem? (i := 51) rfl) rfl
theorem m1_52 : Cond.code yX6_init cX6_init 1 none ∈ WG := wg1 (List.mem_of_getElem? (i := 52) rfl) rfl
theorem m1_53 : Cond.methodLink RX6 3 objectInit ∈ WG := wg1 (List.mem_of_getElem? (i := 53) rfl) rfl
theorem m1_54 : Cond.classLink RX6 15 "[[I" ∈ WG := wg1 (List.mem_of_getElem? (i := 54) rfl) rfl
theorem m1_56 : Cond.fieldLink RX6 9 "VariantParser$Walk" "present" "[I" ∈ WG := wg1 (List.mem_of_getElem? (i := 56) rfl) rfl
theorem m1_57 : Cond.fieldLink RX7 115 "VariantParser$Walk" "present" "[I" ∈ WG := wg1 (List.mem_of_getElem? (i := 57) rfl) rfl
theorem m1_58 : Cond.fieldLink RX6 17 "VariantParser$Walk" "onAhead" "[[I" ∈ WG := wg1 (List.mem_of_getElem? (i := 58) rfl) rfl
theorem m1_59 : Cond.fieldLink RX6 20 "VariantParser$Walk" "on" "[I" ∈ WG := wg1 (List.mem_of_getElem? (i := 59) rfl) rfl
theorem m1_60 : Cond.fieldLink RX6 23 "VariantParser$Walk" "activeAheadOfWhen" "[I" ∈ WG := wg1 (List.mem_of_getElem? (i := 60) rfl) rfl
theorem m1_61 : Cond.fieldLink RX6 26 "VariantParser$Walk" "activeAtOtherwise" "[I" ∈ WG := wg1 (List.mem_of_getElem? (i := 61) rfl) rfl
theorem m1_62 : Cond.fieldLink RX6 30 "VariantParser$Walk" "active" "I" ∈ WG := wg1 (List.mem_of_getElem? (i := 62) rfl) rfl
theorem m1_63 : Cond.fieldLink RX6 34 "VariantParser$Walk" "depth" "I" ∈ WG := wg1 (List.mem_of_getElem? (i := 63) rfl) rfl
theorem m1_64 : Cond.laysFinal "VariantParser$Walk" "VariantParser$Walk" "present" "[I" ∈ WG := wg1 (List.mem_of_getElem? (i := 64) rfl) rfl
theorem m1_66 : Cond.laysFinal "VariantParser$Walk" "VariantParser$Walk" "onAhead" "[[I" ∈ WG := wg1 (List.mem_of_getElem? (i := 66) rfl) rfl
theorem m1_68 : Cond.laysFinal "VariantParser$Walk" "VariantParser$Walk" "on" "[I" ∈ WG := wg1 (List.mem_of_getElem? (i := 68) rfl) rfl
theorem m1_70 : Cond.laysFinal "VariantParser$Walk" "VariantParser$Walk" "activeAheadOfWhen" "[I" ∈ WG := wg1 (List.mem_of_getElem? (i := 70) rfl) rfl
theorem m1_72 : Cond.laysFinal "VariantParser$Walk" "VariantParser$Walk" "activeAtOtherwise" "[I" ∈ WG := wg1 (List.mem_of_getElem? (i := 72) rfl) rfl
theorem m1_74 : Cond.lays "VariantParser$Walk" "VariantParser$Walk" "active" "I" ∈ WG := wg1 (List.mem_of_getElem? (i := 74) rfl) rfl
theorem m1_76 : Cond.lays "VariantParser$Walk" "VariantParser$Walk" "depth" "I" ∈ WG := wg1 (List.mem_of_getElem? (i := 76) rfl) rfl
theorem m1_79 : Cond.classLink RX7 23 "VariantParser$Variant" ∈ WG := wg1 (List.mem_of_getElem? (i := 79) rfl) rfl
theorem m1_81 : Cond.instantiable RX5 5 ∈ WG := wg1 (List.mem_of_getElem? (i := 81) rfl) rfl
theorem m1_83 : Cond.instanceMethod yX5_init ∈ WG := wg1 (List.mem_of_getElem? (i := 83) rfl) rfl
theorem m1_84 : Cond.code yX5_init cX5_init 1 none ∈ WG := wg1 (List.mem_of_getElem? (i := 84) rfl) rfl
theorem m1_85 : Cond.methodLink RX5 3 objectInit ∈ WG := wg1 (List.mem_of_getElem? (i := 85) rfl) rfl
theorem m1_86 : Cond.classLink RX5 18 "VariantParser$Reading" ∈ WG := wg1 (List.mem_of_getElem? (i := 86) rfl) rfl
theorem m1_87 : Cond.instantiable RX1 5 ∈ WG := wg1 (List.mem_of_getElem? (i := 87) rfl) rfl
theorem m1_89 : Cond.instanceMethod yX1_init ∈ WG := wg1 (List.mem_of_getElem? (i := 89) rfl) rfl
theorem m1_90 : Cond.code yX1_init cX1_init 1 none ∈ WG := wg1 (List.mem_of_getElem? (i := 90) rfl) rfl
theorem m1_91 : Cond.methodLink RX1 5 objectInit ∈ WG := wg1 (List.mem_of_getElem? (i := 91) rfl) rfl
theorem m1_92 : Cond.fieldLink RX1 11 "VariantParser$Reading" "symbols" "[I" ∈ WG := wg1 (List.mem_of_getElem? (i := 92) rfl) rfl
theorem m1_93 : Cond.fieldLink RX1 18 "VariantParser$Reading" "height" "I" ∈ WG := wg1 (List.mem_of_getElem? (i := 93) rfl) rfl
theorem m1_94 : Cond.fieldLink RX1 15 "VariantParser$Reading" "heights" "[I" ∈ WG := wg1 (List.mem_of_getElem? (i := 94) rfl) rfl
theorem m1_95 : Cond.fieldLink RX1 28 "VariantParser$Reading" "tokensRead" "I" ∈ WG := wg1 (List.mem_of_getElem? (i := 95) rfl) rfl
theorem m1_96 : Cond.fieldLink RX7 160 "VariantParser$Reading" "tokensRead" "I" ∈ WG := wg1 (List.mem_of_getElem? (i := 96) rfl) rfl
theorem m1_97 : Cond.fieldLink RX1 31 "VariantParser$Reading" "errorPlace" "I" ∈ WG := wg1 (List.mem_of_getElem? (i := 97) rfl) rfl
theorem m1_98 : Cond.fieldLink RX7 152 "VariantParser$Reading" "errorPlace" "I" ∈ WG := wg1 (List.mem_of_getElem? (i := 98) rfl) rfl
theorem m1_99 : Cond.laysFinal "VariantParser$Reading" "VariantParser$Reading" "symbols" "[I" ∈ WG := wg1 (List.mem_of_getElem? (i := 99) rfl) rfl
theorem m1_101 : Cond.lays "VariantParser$Reading" "VariantParser$Reading" "height" "I" ∈ WG := wg1 (List.mem_of_getElem? (i := 101) rfl) rfl
theorem m1_103 : Cond.laysFinal "VariantParser$Reading" "VariantParser$Reading" "heights" "[I" ∈ WG := wg1 (List.mem_of_getElem? (i := 103) rfl) rfl
theorem m1_105 : Cond.lays "VariantParser$Reading" "VariantParser$Reading" "tokensRead" "I" ∈ WG := wg1 (List.mem_of_getElem? (i := 105) rfl) rfl
theorem m1_107 : Cond.lays "VariantParser$Reading" "VariantParser$Reading" "errorPlace" "I" ∈ WG := wg1 (List.mem_of_getElem? (i := 107) rfl) rfl
theorem m1_110 : Cond.classLink RX5 25 "VariantParser$Run" ∈ WG := wg1 (List.mem_of_getElem? (i := 110) rfl) rfl
theorem m1_111 : Cond.instantiable RX3 6 ∈ WG := wg1 (List.mem_of_getElem? (i := 111) rfl) rfl
theorem m1_113 : Cond.instanceMethod yX3_init ∈ WG := wg1 (List.mem_of_getElem? (i := 113) rfl) rfl
theorem m1_114 : Cond.code yX3_init cX3_init 1 none ∈ WG := wg1 (List.mem_of_getElem? (i := 114) rfl) rfl
theorem m1_115 : Cond.methodLink RX3 3 objectInit ∈ WG := wg1 (List.mem_of_getElem? (i := 115) rfl) rfl
theorem m1_116 : Cond.fieldLink RX3 9 "VariantParser$Run" "tokens" "[I" ∈ WG := wg1 (List.mem_of_getElem? (i := 116) rfl) rfl
theorem m1_117 : Cond.fieldLink RX3 27 "VariantParser$Run" "count" "I" ∈ WG := wg1 (List.mem_of_getElem? (i := 117) rfl) rfl
theorem m1_118 : Cond.fieldLink RX3 31 "VariantParser$Run" "next" "I" ∈ WG := wg1 (List.mem_of_getElem? (i := 118) rfl) rfl
theorem m1_119 : Cond.fieldLink RX3 15 "VariantParser$Run" "variables" "[I" ∈ WG := wg1 (List.mem_of_getElem? (i := 119) rfl) rfl
theorem m1_120 : Cond.fieldLink RX7 185 "VariantParser$Run" "variables" "[I" ∈ WG := wg1 (List.mem_of_getElem? (i := 120) rfl) rfl
theorem m1_121 : Cond.fieldLink RX3 18 "VariantParser$Run" "outputs" "[I" ∈ WG := wg1 (List.mem_of_getElem? (i := 121) rfl) rfl
theorem m1_122 : Cond.fieldLink RX7 180 "VariantParser$Run" "outputs" "[I" ∈ WG := wg1 (List.mem_of_getElem? (i := 122) rfl) rfl
theorem m1_123 : Cond.fieldLink RX3 34 "VariantParser$Run" "outputCount" "I" ∈ WG := wg1 (List.mem_of_getElem? (i := 123) rfl) rfl
theorem m1_124 : Cond.fieldLink RX7 173 "VariantParser$Run" "outputCount" "I" ∈ WG := wg1 (List.mem_of_getElem? (i := 124) rfl) rfl
theorem m1_125 : Cond.laysFinal "VariantParser$Run" "VariantParser$Run" "tokens" "[I" ∈ WG := wg1 (List.mem_of_getElem? (i := 125) rfl) rfl
theorem m1_127 : Cond.lays "VariantParser$Run" "VariantParser$Run" "count" "I" ∈ WG := wg1 (List.mem_of_getElem? (i := 127) rfl) rfl
theorem m1_129 : Cond.lays "VariantParser$Run" "VariantParser$Run" "next" "I" ∈ WG := wg1 (List.mem_of_getElem? (i := 129) rfl) rfl
theorem m1_131 : Cond.laysFinal "VariantParser$Run" "VariantParser$Run" "variables" "[I" ∈ WG := wg1 (List.mem_of_getElem? (i := 131) rfl) rfl
theorem m1_133 : Cond.laysFinal "VariantParser$Run" "VariantParser$Run" "outputs" "[I" ∈ WG := wg1 (List.mem_of_getElem? (i := 133) rfl) rfl
theorem m1_135 : Cond.lays "VariantParser$Run" "VariantParser$Run" "outputCount" "I" ∈ WG := wg1 (List.mem_of_getElem? (i := 135) rfl) rfl
theorem m1_138 : Cond.fieldLink RX5 9 "VariantParser$Variant" "tokens" "[I" ∈ WG := wg1 (List.mem_of_getElem? (i := 138) rfl) rfl
theorem m1_139 : Cond.fieldLink RX7 257 "VariantParser$Variant" "tokens" "[I" ∈ WG := wg1 (List.mem_of_getElem? (i := 139) rfl) rfl
theorem m1_140 : Cond.fieldLink RX5 15 "VariantParser$Variant" "places" "[I" ∈ WG := wg1 (List.mem_of_getElem? (i := 140) rfl) rfl
theorem m1_141 : Cond.fieldLink RX7 139 "VariantParser$Variant" "places" "[I" ∈ WG := wg1 (List.mem_of_getElem? (i := 141) rfl) rfl
theorem m1_142 : Cond.fieldLink RX5 32 "VariantParser$Variant" "count" "I" ∈ WG := wg1 (List.mem_of_getElem? (i := 142) rfl) rfl
theorem m1_143 : Cond.fieldLink RX7 132 "VariantParser$Variant" "count" "I" ∈ WG := wg1 (List.mem_of_getElem? (i := 143) rfl) rfl
theorem m1_144 : Cond.fieldLink RX5 21 "VariantParser$Variant" "reading" "LVariantParser$Reading;" ∈ WG := wg1 (List.mem_of_getElem? (i := 144) rfl) rfl
theorem m1_145 : Cond.fieldLink RX7 148 "VariantParser$Variant" "reading" "LVariantParser$Reading;" ∈ WG := wg1 (List.mem_of_getElem? (i := 145) rfl) rfl
theorem m1_146 : Cond.fieldLink RX5 28 "VariantParser$Variant" "run" "LVariantParser$Run;" ∈ WG := wg1 (List.mem_of_getElem? (i := 146) rfl) rfl
theorem m1_147 : Cond.fieldLink RX7 169 "VariantParser$Variant" "run" "LVariantParser$Run;" ∈ WG := wg1 (List.mem_of_getElem? (i := 147) rfl) rfl
theorem m1_148 : Cond.laysFinal "VariantParser$Variant" "VariantParser$Variant" "tokens" "[I" ∈ WG := wg1 (List.mem_of_getElem? (i := 148) rfl) rfl
theorem m1_150 : Cond.laysFinal "VariantParser$Variant" "VariantParser$Variant" "places" "[I" ∈ WG := wg1 (List.mem_of_getElem? (i := 150) rfl) rfl
theorem m1_152 : Cond.lays "VariantParser$Variant" "VariantParser$Variant" "count" "I" ∈ WG := wg1 (List.mem_of_getElem? (i := 152) rfl) rfl
theorem m1_154 : Cond.laysFinal "VariantParser$Variant" "VariantParser$Variant" "reading" "LVariantParser$Reading;" ∈ WG := wg1 (List.mem_of_getElem? (i := 154) rfl) rfl
theorem m1_156 : Cond.laysFinal "VariantParser$Variant" "VariantParser$Variant" "run" "LVariantParser$Run;" ∈ WG := wg1 (List.mem_of_getElem? (i := 156) rfl) rfl
theorem m1_159 : Cond.fieldLink RX7 10 "VariantParser" "source" "LVariantParser$Source;" ∈ WG := wg1 (List.mem_of_getElem? (i := 159) rfl) rfl
theorem m1_160 : Cond.fieldLink RX7 19 "VariantParser" "walk" "LVariantParser$Walk;" ∈ WG := wg1 (List.mem_of_getElem? (i := 160) rfl) rfl
theorem m1_161 : Cond.fieldLink RX7 25 "VariantParser" "variantOf" "[LVariantParser$Variant;" ∈ WG := wg1 (List.mem_of_getElem? (i := 161) rfl) rfl
theorem m1_162 : Cond.fieldLink RX7 30 "VariantParser" "groupCounts" "[I" ∈ WG := wg1 (List.mem_of_getElem? (i := 162) rfl) rfl
theorem m1_163 : Cond.fieldLink RX7 34 "VariantParser" "isFresh" "Z" ∈ WG := wg1 (List.mem_of_getElem? (i := 163) rfl) rfl
theorem m1_164 : Cond.laysFinal "VariantParser" "VariantParser" "source" "LVariantParser$Source;" ∈ WG := wg1 (List.mem_of_getElem? (i := 164) rfl) rfl
theorem m1_166 : Cond.laysFinal "VariantParser" "VariantParser" "walk" "LVariantParser$Walk;" ∈ WG := wg1 (List.mem_of_getElem? (i := 166) rfl) rfl
theorem m1_168 : Cond.laysFinal "VariantParser" "VariantParser" "variantOf" "[LVariantParser$Variant;" ∈ WG := wg1 (List.mem_of_getElem? (i := 168) rfl) rfl
theorem m1_170 : Cond.laysFinal "VariantParser" "VariantParser" "groupCounts" "[I" ∈ WG := wg1 (List.mem_of_getElem? (i := 170) rfl) rfl
theorem m1_172 : Cond.lays "VariantParser" "VariantParser" "isFresh" "Z" ∈ WG := wg1 (List.mem_of_getElem? (i := 172) rfl) rfl
theorem m1_175 : Cond.methodLink RL 57 yX7_write ∈ WG := wg1 (List.mem_of_getElem? (i := 175) rfl) rfl
theorem m1_176 : Cond.instanceMethod yX7_write ∈ WG := wg1 (List.mem_of_getElem? (i := 176) rfl) rfl
theorem m1_177 : Cond.selects RX7 yX7_write yX7_write ∈ WG := wg1 (List.mem_of_getElem? (i := 177) rfl) rfl
theorem m1_178 : Cond.code yX7_write cX7_write 6 (some .int) ∈ WG := wg1 (List.mem_of_getElem? (i := 178) rfl) rfl
theorem m1_179 : Cond.methodLink RX7 38 yX7_byteOf ∈ WG := wg1 (List.mem_of_getElem? (i := 179) rfl) rfl
theorem m1_180 : Cond.static yX7_byteOf ∈ WG := wg1 (List.mem_of_getElem? (i := 180) rfl) rfl
theorem m1_181 : Cond.code yX7_byteOf cX7_byteOf 3 (some .int) ∈ WG := wg1 (List.mem_of_getElem? (i := 181) rfl) rfl
theorem m1_182 : Cond.methodLink RX7 42 yX0_isToken ∈ WG := wg1 (List.mem_of_getElem? (i := 182) rfl) rfl
theorem m1_183 : Cond.static yX0_isToken ∈ WG := wg1 (List.mem_of_getElem? (i := 183) rfl) rfl
theorem m1_184 : Cond.code yX0_isToken cX0_isToken 1 (some .boolean) ∈ WG := wg1 (List.mem_of_getElem? (i := 184) rfl) rfl
theorem m1_185 : Cond.methodLink RX0 7 yX0_isDigit ∈ WG := wg1 (List.mem_of_getElem? (i := 185) rfl) rfl
theorem m1_186 : Cond.static yX0_isDigit ∈ WG := wg1 (List.mem_of_getElem? (i := 186) rfl) rfl
theorem m1_187 : Cond.code yX0_isDigit cX0_isDigit 1 (some .boolean) ∈ WG := wg1 (List.mem_of_getElem? (i := 187) rfl) rfl
theorem m1_188 : Cond.methodLink RX0 13 yX0_isName ∈ WG := wg1 (List.mem_of_getElem? (i := 188) rfl) rfl
theorem m1_189 : Cond.static yX0_isName ∈ WG := wg1 (List.mem_of_getElem? (i := 189) rfl) rfl
theorem m1_190 : Cond.code yX0_isName cX0_isName 1 (some .boolean) ∈ WG := wg1 (List.mem_of_getElem? (i := 190) rfl) rfl
theorem m1_191 : Cond.classLink RX7 48 "java/lang/IllegalArgumentException" ∈ WG := wg1 (List.mem_of_getElem? (i := 191) rfl) rfl
theorem m1_192 : Cond.instantiable "java/lang/IllegalArgumentException" 6 ∈ WG := wg1 (List.mem_of_getElem? (i := 192) rfl) rfl
theorem m1_200 : Cond.selects "java/lang/IllegalArgumentException" ⟨"java/lang/Throwable", "fillInStackTrace", "(I)Ljava/lang/Throwable;"⟩ ⟨"java/lang/Throwable", "fillInStackTrace", "(I)Ljava/lang/Throwable;"⟩ ∈ WG := wg1 (List.mem_of_getElem? (i := 200) rfl) rfl
theorem m1_201 : Cond.selects "java/lang/IllegalArgumentException" ⟨"java/lang/Throwable", "fillInStackTrace", "()Ljava/lang/Throwable;"⟩ ⟨"java/lang/Throwable", "fillInStackTrace", "()Ljava/lang/Throwable;"⟩ ∈ WG := wg1 (List.mem_of_getElem? (i := 201) rfl) rfl
theorem m1_202 : Cond.lays "java/lang/IllegalArgumentException" "java/lang/Throwable" "cause" "Ljava/lang/Throwable;" ∈ WG := wg1 (List.mem_of_getElem? (i := 202) rfl) rfl
theorem m1_203 : Cond.lays "java/lang/Throwable" "java/lang/Throwable" "cause" "Ljava/lang/Throwable;" ∈ WG := wg1 (List.mem_of_getElem? (i := 203) rfl) rfl
theorem m1_204 : Cond.lays "java/lang/IllegalArgumentException" "java/lang/Throwable" "stackTrace" "[Ljava/lang/StackTraceElement;" ∈ WG := wg1 (List.mem_of_getElem? (i := 204) rfl) rfl
theorem m1_205 : Cond.lays "java/lang/Throwable" "java/lang/Throwable" "stackTrace" "[Ljava/lang/StackTraceElement;" ∈ WG := wg1 (List.mem_of_getElem? (i := 205) rfl) rfl
theorem m1_206 : Cond.lays "java/lang/IllegalArgumentException" "java/lang/Throwable" "suppressedExceptions" "Ljava/util/List;" ∈ WG := wg1 (List.mem_of_getElem? (i := 206) rfl) rfl
theorem m1_207 : Cond.lays "java/lang/Throwable" "java/lang/Throwable" "suppressedExceptions" "Ljava/util/List;" ∈ WG := wg1 (List.mem_of_getElem? (i := 207) rfl) rfl
theorem m1_208 : Cond.lays "java/lang/IllegalArgumentException" "java/lang/Throwable" "detailMessage" "Ljava/lang/String;" ∈ WG := wg1 (List.mem_of_getElem? (i := 208) rfl) rfl
theorem m1_209 : Cond.lays "java/lang/Throwable" "java/lang/Throwable" "detailMessage" "Ljava/lang/String;" ∈ WG := wg1 (List.mem_of_getElem? (i := 209) rfl) rfl
theorem m1_210 : Cond.lays "java/lang/IllegalArgumentException" "java/lang/Throwable" "backtrace" "Ljava/lang/Object;" ∈ WG := wg1 (List.mem_of_getElem? (i := 210) rfl) rfl
theorem m1_211 : Cond.lays "java/lang/Throwable" "java/lang/Throwable" "backtrace" "Ljava/lang/Object;" ∈ WG := wg1 (List.mem_of_getElem? (i := 211) rfl) rfl
theorem m1_212 : Cond.fieldLink "java/lang/Throwable" 198 "java/lang/Throwable" "backtrace" "Ljava/lang/Object;" ∈ WG := wg1 (List.mem_of_getElem? (i := 212) rfl) rfl
theorem m1_214 : Cond.instanceMethod ⟨"java/lang/Throwable", "<init>", "()V"⟩ ∈ WG := wg1 (List.mem_of_getElem? (i := 214) rfl) rfl
theorem m1_215 : Cond.code ⟨"java/lang/Throwable", "<init>", "()V"⟩ prog_24_method_1_code 1 none ∈ WG := wg1 (List.mem_of_getElem? (i := 215) rfl) rfl
theorem m1_216 : Cond.methodLink "java/lang/Throwable" 1 objectInit ∈ WG := wg1 (List.mem_of_getElem? (i := 216) rfl) rfl
theorem m1_217 : Cond.fieldLink "java/lang/Throwable" 13 "java/lang/Throwable" "UNASSIGNED_STACK" "[Ljava/lang/StackTraceElement;" ∈ WG := wg1 (List.mem_of_getElem? (i := 217) rfl) rfl
theorem m1_219 : Cond.fieldLink "java/lang/Throwable" 20 "java/lang/Throwable" "SUPPRESSED_SENTINEL" "Ljava/util/List;" ∈ WG := wg1 (List.mem_of_getElem? (i := 219) rfl) rfl
theorem m1_221 : Cond.methodLink "java/lang/Throwable" 27 ⟨"java/lang/Throwable", "fillInStackTrace", "()Ljava/lang/Throwable;"⟩ ∈ WG := wg1 (List.mem_of_getElem? (i := 221) rfl) rfl
theorem m1_222 : Cond.instanceMethod ⟨"java/lang/Throwable", "fillInStackTrace", "()Ljava/lang/Throwable;"⟩ ∈ WG := wg1 (List.mem_of_getElem? (i := 222) rfl) rfl
theorem m1_224 : Cond.selects "java/lang/IllegalStateException" ⟨"java/lang/Throwable", "fillInStackTrace", "()Ljava/lang/Throwable;"⟩ ⟨"java/lang/Throwable", "fillInStackTrace", "()Ljava/lang/Throwable;"⟩ ∈ WG := wg1 (List.mem_of_getElem? (i := 224) rfl) rfl
theorem m1_225 : Cond.selects "java/lang/IndexOutOfBoundsException" ⟨"java/lang/Throwable", "fillInStackTrace", "()Ljava/lang/Throwable;"⟩ ⟨"java/lang/Throwable", "fillInStackTrace", "()Ljava/lang/Throwable;"⟩ ∈ WG := wg1 (List.mem_of_getElem? (i := 225) rfl) rfl
theorem m1_226 : Cond.selects "java/util/NoSuchElementException" ⟨"java/lang/Throwable", "fillInStackTrace", "()Ljava/lang/Throwable;"⟩ ⟨"java/lang/Throwable", "fillInStackTrace", "()Ljava/lang/Throwable;"⟩ ∈ WG := wg1 (List.mem_of_getElem? (i := 226) rfl) rfl
theorem m1_228 : Cond.methodLink "java/lang/Throwable" 202 ⟨"java/lang/Throwable", "fillInStackTrace", "(I)Ljava/lang/Throwable;"⟩ ∈ WG := wg1 (List.mem_of_getElem? (i := 228) rfl) rfl
theorem m1_230 : Cond.instanceMethod ⟨"java/lang/Throwable", "fillInStackTrace", "(I)Ljava/lang/Throwable;"⟩ ∈ WG := wg1 (List.mem_of_getElem? (i := 230) rfl) rfl
theorem m1_231 : Cond.instantiable "java/lang/Throwable" 6 ∈ WG := wg1 (List.mem_of_getElem? (i := 231) rfl) rfl
theorem m1_234 : Cond.methodLink RX7 52 ⟨"java/lang/IllegalArgumentException", "<init>", "(Ljava/lang/String;)V"⟩ ∈ WG := wg1 (List.mem_of_getElem? (i := 234) rfl) rfl
theorem m1_235 : Cond.instanceMethod ⟨"java/lang/IllegalArgumentException", "<init>", "(Ljava/lang/String;)V"⟩ ∈ WG := wg1 (List.mem_of_getElem? (i := 235) rfl) rfl
theorem m1_236 : Cond.code ⟨"java/lang/IllegalArgumentException", "<init>", "(Ljava/lang/String;)V"⟩ prog_15_method_2_code 2 none ∈ WG := wg1 (List.mem_of_getElem? (i := 236) rfl) rfl
theorem m1_237 : Cond.methodLink "java/lang/IllegalArgumentException" 7 ⟨"java/lang/RuntimeException", "<init>", "(Ljava/lang/String;)V"⟩ ∈ WG := wg1 (List.mem_of_getElem? (i := 237) rfl) rfl
theorem m1_238 : Cond.instanceMethod ⟨"java/lang/RuntimeException", "<init>", "(Ljava/lang/String;)V"⟩ ∈ WG := wg1 (List.mem_of_getElem? (i := 238) rfl) rfl
theorem m1_239 : Cond.code ⟨"java/lang/RuntimeException", "<init>", "(Ljava/lang/String;)V"⟩ prog_20_method_2_code 2 none ∈ WG := wg1 (List.mem_of_getElem? (i := 239) rfl) rfl
theorem m2_0 : Cond.methodLink "java/lang/RuntimeException" 7 ⟨"java/lang/Exception", "<init>", "(Ljava/lang/String;)V"⟩ ∈ WG := wg2 (List.mem_of_getElem? (i := 0) rfl) rfl
theorem m2_1 : Cond.instanceMethod ⟨"java/lang/Exception", "<init>", "(Ljava/lang/String;)V"⟩ ∈ WG := wg2 (List.mem_of_getElem? (i := 1) rfl) rfl
theorem m2_2 : Cond.code ⟨"java/lang/Exception", "<init>", "(Ljava/lang/String;)V"⟩ prog_14_method_2_code 2 none ∈ WG := wg2 (List.mem_of_getElem? (i := 2) rfl) rfl
theorem m2_3 : Cond.methodLink "java/lang/Exception" 7 ⟨"java/lang/Throwable", "<init>", "(Ljava/lang/String;)V"⟩ ∈ WG := wg2 (List.mem_of_getElem? (i := 3) rfl) rfl
theorem m2_4 : Cond.instanceMethod ⟨"java/lang/Throwable", "<init>", "(Ljava/lang/String;)V"⟩ ∈ WG := wg2 (List.mem_of_getElem? (i := 4) rfl) rfl
theorem m2_5 : Cond.code ⟨"java/lang/Throwable", "<init>", "(Ljava/lang/String;)V"⟩ prog_24_method_2_code 2 none ∈ WG := wg2 (List.mem_of_getElem? (i := 5) rfl) rfl
theorem m2_7 : Cond.fieldLink "java/lang/Throwable" 31 "java/lang/Throwable" "detailMessage" "Ljava/lang/String;" ∈ WG := wg2 (List.mem_of_getElem? (i := 7) rfl) rfl
theorem m2_8 : Cond.fieldLink "java/lang/Throwable" 7 "java/lang/Throwable" "cause" "Ljava/lang/Throwable;" ∈ WG := wg2 (List.mem_of_getElem? (i := 8) rfl) rfl
theorem m2_9 : Cond.fieldLink "java/lang/Throwable" 17 "java/lang/Throwable" "stackTrace" "[Ljava/lang/StackTraceElement;" ∈ WG := wg2 (List.mem_of_getElem? (i := 9) rfl) rfl
theorem m2_10 : Cond.fieldLink "java/lang/Throwable" 24 "java/lang/Throwable" "suppressedExceptions" "Ljava/util/List;" ∈ WG := wg2 (List.mem_of_getElem? (i := 10) rfl) rfl
theorem m2_15 : Cond.lays "java/lang/IllegalArgumentException" "java/lang/Throwable" "depth" "I" ∈ WG := wg2 (List.mem_of_getElem? (i := 15) rfl) rfl
theorem m2_19 : Cond.arrayClass .byte ∈ WG := wg2 (List.mem_of_getElem? (i := 19) rfl) rfl
theorem m2_20 : Cond.classLink RX7 59 "java/lang/IllegalStateException" ∈ WG := wg2 (List.mem_of_getElem? (i := 20) rfl) rfl
theorem m2_21 : Cond.instantiable "java/lang/IllegalStateException" 6 ∈ WG := wg2 (List.mem_of_getElem? (i := 21) rfl) rfl
theorem m2_23 : Cond.selects "java/lang/IllegalStateException" ⟨"java/lang/Throwable", "fillInStackTrace", "(I)Ljava/lang/Throwable;"⟩ ⟨"java/lang/Throwable", "fillInStackTrace", "(I)Ljava/lang/Throwable;"⟩ ∈ WG := wg2 (List.mem_of_getElem? (i := 23) rfl) rfl
theorem m2_24 : Cond.lays "java/lang/IllegalStateException" "java/lang/Throwable" "cause" "Ljava/lang/Throwable;" ∈ WG := wg2 (List.mem_of_getElem? (i := 24) rfl) rfl
theorem m2_25 : Cond.lays "java/lang/IllegalStateException" "java/lang/Throwable" "stackTrace" "[Ljava/lang/StackTraceElement;" ∈ WG := wg2 (List.mem_of_getElem? (i := 25) rfl) rfl
theorem m2_26 : Cond.lays "java/lang/IllegalStateException" "java/lang/Throwable" "suppressedExceptions" "Ljava/util/List;" ∈ WG := wg2 (List.mem_of_getElem? (i := 26) rfl) rfl
theorem m2_27 : Cond.lays "java/lang/IllegalStateException" "java/lang/Throwable" "detailMessage" "Ljava/lang/String;" ∈ WG := wg2 (List.mem_of_getElem? (i := 27) rfl) rfl
theorem m2_28 : Cond.lays "java/lang/IllegalStateException" "java/lang/Throwable" "backtrace" "Ljava/lang/Object;" ∈ WG := wg2 (List.mem_of_getElem? (i := 28) rfl) rfl
theorem m2_30 : Cond.methodLink RX7 63 ⟨"java/lang/IllegalStateException", "<init>", "(Ljava/lang/String;)V"⟩ ∈ WG := wg2 (List.mem_of_getElem? (i := 30) rfl) rfl
theorem m2_31 : Cond.instanceMethod ⟨"java/lang/IllegalStateException", "<init>", "(Ljava/lang/String;)V"⟩ ∈ WG := wg2 (List.mem_of_getElem? (i := 31) rfl) rfl
theorem m2_32 : Cond.code ⟨"java/lang/IllegalStateException", "<init>", "(Ljava/lang/String;)V"⟩ prog_16_method_2_code 2 none ∈ WG := wg2 (List.mem_of_getElem? (i := 32) rfl) rfl
theorem m2_33 : Cond.methodLink "java/lang/IllegalStateException" 7 ⟨"java/lang/RuntimeException", "<init>", "(Ljava/lang/String;)V"⟩ ∈ WG := wg2 (List.mem_of_getElem? (i := 33) rfl) rfl
theorem m2_34 : Cond.lays "java/lang/IllegalStateException" "java/lang/Throwable" "depth" "I" ∈ WG := wg2 (List.mem_of_getElem? (i := 34) rfl) rfl
theorem m2_36 : Cond.methodLink RX7 64 yX7_append ∈ WG := wg2 (List.mem_of_getElem? (i := 36) rfl) rfl
theorem m2_38 : Cond.instanceMethod yX7_append ∈ WG := wg2 (List.mem_of_getElem? (i := 38) rfl) rfl
theorem m2_39 : Cond.code yX7_append cX7_append 2 (some .int) ∈ WG := wg2 (List.mem_of_getElem? (i := 39) rfl) rfl
theorem m2_40 : Cond.methodLink RX7 221 yX4_add ∈ WG := wg2 (List.mem_of_getElem? (i := 40) rfl) rfl
theorem m2_41 : Cond.instanceMethod yX4_add ∈ WG := wg2 (List.mem_of_getElem? (i := 41) rfl) rfl
theorem m2_42 : Cond.selects RX4 yX4_add yX4_add ∈ WG := wg2 (List.mem_of_getElem? (i := 42) rfl) rfl
theorem m2_43 : Cond.code yX4_add cX4_add 2 none ∈ WG := wg2 (List.mem_of_getElem? (i := 43) rfl) rfl
theorem m2_44 : Cond.methodLink RL 101 yX7_item ∈ WG := wg2 (List.mem_of_getElem? (i := 44) rfl) rfl
theorem m2_45 : Cond.instanceMethod yX7_item ∈ WG := wg2 (List.mem_of_getElem? (i := 45) rfl) rfl
theorem m2_46 : Cond.selects RX7 yX7_item yX7_item ∈ WG := wg2 (List.mem_of_getElem? (i := 46) rfl) rfl
theorem m2_47 : Cond.code yX7_item cX7_item 2 (some .int) ∈ WG := wg2 (List.mem_of_getElem? (i := 47) rfl) rfl
theorem m2_48 : Cond.methodLink RX7 102 yX7_checkItem ∈ WG := wg2 (List.mem_of_getElem? (i := 48) rfl) rfl
theorem m2_50 : Cond.instanceMethod yX7_checkItem ∈ WG := wg2 (List.mem_of_getElem? (i := 50) rfl) rfl
theorem m2_51 : Cond.code yX7_checkItem cX7_checkItem 2 none ∈ WG := wg2 (List.mem_of_getElem? (i := 51) rfl) rfl
theorem m2_52 : Cond.classLink RX7 201 "java/lang/IndexOutOfBoundsException" ∈ WG := wg2 (List.mem_of_getElem? (i := 52) rfl) rfl
theorem m2_53 : Cond.instantiable "java/lang/IndexOutOfBoundsException" 6 ∈ WG := wg2 (List.mem_of_getElem? (i := 53) rfl) rfl
theorem m2_55 : Cond.selects "java/lang/IndexOutOfBoundsException" ⟨"java/lang/Throwable", "fillInStackTrace", "(I)Ljava/lang/Throwable;"⟩ ⟨"java/lang/Throwable", "fillInStackTrace", "(I)Ljava/lang/Throwable;"⟩ ∈ WG := wg2 (List.mem_of_getElem? (i := 55) rfl) rfl
theorem m2_56 : Cond.lays "java/lang/IndexOutOfBoundsException" "java/lang/Throwable" "cause" "Ljava/lang/Throwable;" ∈ WG := wg2 (List.mem_of_getElem? (i := 56) rfl) rfl
theorem m2_57 : Cond.lays "java/lang/IndexOutOfBoundsException" "java/lang/Throwable" "stackTrace" "[Ljava/lang/StackTraceElement;" ∈ WG := wg2 (List.mem_of_getElem? (i := 57) rfl) rfl
theorem m2_58 : Cond.lays "java/lang/IndexOutOfBoundsException" "java/lang/Throwable" "suppressedExceptions" "Ljava/util/List;" ∈ WG := wg2 (List.mem_of_getElem? (i := 58) rfl) rfl
theorem m2_59 : Cond.lays "java/lang/IndexOutOfBoundsException" "java/lang/Throwable" "detailMessage" "Ljava/lang/String;" ∈ WG := wg2 (List.mem_of_getElem? (i := 59) rfl) rfl
theorem m2_60 : Cond.lays "java/lang/IndexOutOfBoundsException" "java/lang/Throwable" "backtrace" "Ljava/lang/Object;" ∈ WG := wg2 (List.mem_of_getElem? (i := 60) rfl) rfl
theorem m2_62 : Cond.methodLink RX7 205 ⟨"java/lang/IndexOutOfBoundsException", "<init>", "(Ljava/lang/String;)V"⟩ ∈ WG := wg2 (List.mem_of_getElem? (i := 62) rfl) rfl
theorem m2_63 : Cond.instanceMethod ⟨"java/lang/IndexOutOfBoundsException", "<init>", "(Ljava/lang/String;)V"⟩ ∈ WG := wg2 (List.mem_of_getElem? (i := 63) rfl) rfl
theorem m2_64 : Cond.code ⟨"java/lang/IndexOutOfBoundsException", "<init>", "(Ljava/lang/String;)V"⟩ prog_17_method_2_code 2 none ∈ WG := wg2 (List.mem_of_getElem? (i := 64) rfl) rfl
theorem m2_65 : Cond.methodLink "java/lang/IndexOutOfBoundsException" 7 ⟨"java/lang/RuntimeException", "<init>", "(Ljava/lang/String;)V"⟩ ∈ WG := wg2 (List.mem_of_getElem? (i := 65) rfl) rfl
theorem m2_66 : Cond.lays "java/lang/IndexOutOfBoundsException" "java/lang/Throwable" "depth" "I" ∈ WG := wg2 (List.mem_of_getElem? (i := 66) rfl) rfl
theorem m2_68 : Cond.methodLink RL 104 yX7_presence ∈ WG := wg2 (List.mem_of_getElem? (i := 68) rfl) rfl
theorem m2_69 : Cond.instanceMethod yX7_presence ∈ WG := wg2 (List.mem_of_getElem? (i := 69) rfl) rfl
theorem m2_70 : Cond.selects RX7 yX7_presence yX7_presence ∈ WG := wg2 (List.mem_of_getElem? (i := 70) rfl) rfl
theorem m2_71 : Cond.code yX7_presence cX7_presence 2 (some .int) ∈ WG := wg2 (List.mem_of_getElem? (i := 71) rfl) rfl
theorem m2_72 : Cond.methodLink RX7 112 yX7_refresh ∈ WG := wg2 (List.mem_of_getElem? (i := 72) rfl) rfl
theorem m2_74 : Cond.instanceMethod yX7_refresh ∈ WG := wg2 (List.mem_of_getElem? (i := 74) rfl) rfl
theorem m2_75 : Cond.code yX7_refresh cX7_refresh 1 none ∈ WG := wg2 (List.mem_of_getElem? (i := 75) rfl) rfl
theorem m2_76 : Cond.methodLink RX7 224 yX6_goThrough ∈ WG := wg2 (List.mem_of_getElem? (i := 76) rfl) rfl
theorem m2_77 : Cond.instanceMethod yX6_goThrough ∈ WG := wg2 (List.mem_of_getElem? (i := 77) rfl) rfl
theorem m2_78 : Cond.selects RX6 yX6_goThrough yX6_goThrough ∈ WG := wg2 (List.mem_of_getElem? (i := 78) rfl) rfl
theorem m2_79 : Cond.code yX6_goThrough cX6_goThrough 4 none ∈ WG := wg2 (List.mem_of_getElem? (i := 79) rfl) rfl
theorem m2_80 : Cond.constant RX6 29 (65535) ∈ WG := wg2 (List.mem_of_getElem? (i := 80) rfl) rfl
theorem m2_81 : Cond.fieldLink RX6 37 "VariantParser$Walk" "ON_AT_FIRST" "[I" ∈ WG := wg2 (List.mem_of_getElem? (i := 81) rfl) rfl
theorem m2_83 : Cond.methodLink RX6 48 yX6_step ∈ WG := wg2 (List.mem_of_getElem? (i := 83) rfl) rfl
theorem m2_85 : Cond.instanceMethod yX6_step ∈ WG := wg2 (List.mem_of_getElem? (i := 85) rfl) rfl
theorem m2_86 : Cond.code yX6_step cX6_step 3 none ∈ WG := wg2 (List.mem_of_getElem? (i := 86) rfl) rfl
theorem m2_87 : Cond.methodLink RX6 52 yX4_isWhen ∈ WG := wg2 (List.mem_of_getElem? (i := 87) rfl) rfl
theorem m2_88 : Cond.static yX4_isWhen ∈ WG := wg2 (List.mem_of_getElem? (i := 88) rfl) rfl
theorem m2_89 : Cond.code yX4_isWhen cX4_isWhen 1 (some .boolean) ∈ WG := wg2 (List.mem_of_getElem? (i := 89) rfl) rfl
theorem m2_90 : Cond.methodLink RX6 56 yX6_enter ∈ WG := wg2 (List.mem_of_getElem? (i := 90) rfl) rfl
theorem m2_92 : Cond.instanceMethod yX6_enter ∈ WG := wg2 (List.mem_of_getElem? (i := 92) rfl) rfl
theorem m2_93 : Cond.code yX6_enter cX6_enter 3 none ∈ WG := wg2 (List.mem_of_getElem? (i := 93) rfl) rfl
theorem m2_94 : Cond.methodLink RX6 66 yX4_featureOf ∈ WG := wg2 (List.mem_of_getElem? (i := 94) rfl) rfl
theorem m2_95 : Cond.static yX4_featureOf ∈ WG := wg2 (List.mem_of_getElem? (i := 95) rfl) rfl
theorem m2_96 : Cond.code yX4_featureOf cX4_featureOf 1 (some .int) ∈ WG := wg2 (List.mem_of_getElem? (i := 96) rfl) rfl
theorem m2_97 : Cond.methodLink RX6 70 yX4_isForOn ∈ WG := wg2 (List.mem_of_getElem? (i := 97) rfl) rfl
theorem m2_98 : Cond.static yX4_isForOn ∈ WG := wg2 (List.mem_of_getElem? (i := 98) rfl) rfl
theorem m2_99 : Cond.code yX4_isForOn cX4_isForOn 1 (some .boolean) ∈ WG := wg2 (List.mem_of_getElem? (i := 99) rfl) rfl
theorem m2_100 : Cond.methodLink RX6 60 yX4_isSet ∈ WG := wg2 (List.mem_of_getElem? (i := 100) rfl) rfl
theorem m2_101 : Cond.static yX4_isSet ∈ WG := wg2 (List.mem_of_getElem? (i := 101) rfl) rfl
theorem m2_102 : Cond.code yX4_isSet cX4_isSet 1 (some .boolean) ∈ WG := wg2 (List.mem_of_getElem? (i := 102) rfl) rfl
theorem m2_103 : Cond.methodLink RX6 63 yX6_turn ∈ WG := wg2 (List.mem_of_getElem? (i := 103) rfl) rfl
theorem m2_105 : Cond.instanceMethod yX6_turn ∈ WG := wg2 (List.mem_of_getElem? (i := 105) rfl) rfl
theorem m2_106 : Cond.code yX6_turn cX6_turn 3 none ∈ WG := wg2 (List.mem_of_getElem? (i := 106) rfl) rfl
theorem m2_107 : Cond.methodLink RX7 228 yX7_collectVariants ∈ WG := wg2 (List.mem_of_getElem? (i := 107) rfl) rfl
theorem m2_109 : Cond.instanceMethod yX7_collectVariants ∈ WG := wg2 (List.mem_of_getElem? (i := 109) rfl) rfl
theorem m2_110 : Cond.code yX7_collectVariants cX7_collectVariants 4 none ∈ WG := wg2 (List.mem_of_getElem? (i := 110) rfl) rfl
theorem m2_111 : Cond.methodLink RX7 237 yX6_isPresent ∈ WG := wg2 (List.mem_of_getElem? (i := 111) rfl) rfl
theorem m2_112 : Cond.instanceMethod yX6_isPresent ∈ WG := wg2 (List.mem_of_getElem? (i := 112) rfl) rfl
theorem m2_113 : Cond.selects RX6 yX6_isPresent yX6_isPresent ∈ WG := wg2 (List.mem_of_getElem? (i := 113) rfl) rfl
theorem m2_114 : Cond.code yX6_isPresent cX6_isPresent 3 (some .boolean) ∈ WG := wg2 (List.mem_of_getElem? (i := 114) rfl) rfl
theorem m2_115 : Cond.methodLink RX7 240 yX5_add ∈ WG := wg2 (List.mem_of_getElem? (i := 115) rfl) rfl
theorem m2_116 : Cond.instanceMethod yX5_add ∈ WG := wg2 (List.mem_of_getElem? (i := 116) rfl) rfl
theorem m2_117 : Cond.selects RX5 yX5_add yX5_add ∈ WG := wg2 (List.mem_of_getElem? (i := 117) rfl) rfl
theorem m2_118 : Cond.code yX5_add cX5_add 3 none ∈ WG := wg2 (List.mem_of_getElem? (i := 118) rfl) rfl
theorem m2_119 : Cond.methodLink RX7 75 yX4_countUnfinished ∈ WG := wg2 (List.mem_of_getElem? (i := 119) rfl) rfl
theorem m2_120 : Cond.instanceMethod yX4_countUnfinished ∈ WG := wg2 (List.mem_of_getElem? (i := 120) rfl) rfl
theorem m2_121 : Cond.selects RX4 yX4_countUnfinished yX4_countUnfinished ∈ WG := wg2 (List.mem_of_getElem? (i := 121) rfl) rfl
theorem m2_122 : Cond.code yX4_countUnfinished cX4_countUnfinished 3 (some .int) ∈ WG := wg2 (List.mem_of_getElem? (i := 122) rfl) rfl
theorem m2_123 : Cond.methodLink RX4 23 yX4_isWhen ∈ WG := wg2 (List.mem_of_getElem? (i := 123) rfl) rfl
theorem m2_124 : Cond.methodLink RX7 231 yX7_readAll ∈ WG := wg2 (List.mem_of_getElem? (i := 124) rfl) rfl
theorem m2_126 : Cond.instanceMethod yX7_readAll ∈ WG := wg2 (List.mem_of_getElem? (i := 126) rfl) rfl
theorem m2_127 : Cond.code yX7_readAll cX7_readAll 3 none ∈ WG := wg2 (List.mem_of_getElem? (i := 127) rfl) rfl
theorem m2_128 : Cond.methodLink RX7 242 yX1_begin ∈ WG := wg2 (List.mem_of_getElem? (i := 128) rfl) rfl
theorem m2_129 : Cond.instanceMethod yX1_begin ∈ WG := wg2 (List.mem_of_getElem? (i := 129) rfl) rfl
theorem m2_130 : Cond.selects RX1 yX1_begin yX1_begin ∈ WG := wg2 (List.mem_of_getElem? (i := 130) rfl) rfl
theorem m2_131 : Cond.code yX1_begin cX1_begin 1 none ∈ WG := wg2 (List.mem_of_getElem? (i := 131) rfl) rfl
theorem m2_132 : Cond.methodLink RX1 24 yX1_push ∈ WG := wg2 (List.mem_of_getElem? (i := 132) rfl) rfl
theorem m2_134 : Cond.instanceMethod yX1_push ∈ WG := wg2 (List.mem_of_getElem? (i := 134) rfl) rfl
theorem m2_135 : Cond.code yX1_push cX1_push 2 none ∈ WG := wg2 (List.mem_of_getElem? (i := 135) rfl) rfl
theorem m2_136 : Cond.methodLink RX7 245 yX7_countGroups ∈ WG := wg2 (List.mem_of_getElem? (i := 136) rfl) rfl
theorem m2_138 : Cond.instanceMethod yX7_countGroups ∈ WG := wg2 (List.mem_of_getElem? (i := 138) rfl) rfl
theorem m2_139 : Cond.code yX7_countGroups cX7_countGroups 4 (some .int) ∈ WG := wg2 (List.mem_of_getElem? (i := 139) rfl) rfl
theorem m2_140 : Cond.methodLink RX7 248 yX7_isReadBy ∈ WG := wg2 (List.mem_of_getElem? (i := 140) rfl) rfl
theorem m2_142 : Cond.instanceMethod yX7_isReadBy ∈ WG := wg2 (List.mem_of_getElem? (i := 142) rfl) rfl
theorem m2_143 : Cond.code yX7_isReadBy cX7_isReadBy 3 (some .boolean) ∈ WG := wg2 (List.mem_of_getElem? (i := 143) rfl) rfl
theorem m2_144 : Cond.methodLink RX7 264 yX7_isFirstOfItsGroup ∈ WG := wg2 (List.mem_of_getElem? (i := 144) rfl) rfl
theorem m2_146 : Cond.instanceMethod yX7_isFirstOfItsGroup ∈ WG := wg2 (List.mem_of_getElem? (i := 146) rfl) rfl
theorem m2_147 : Cond.code yX7_isFirstOfItsGroup cX7_isFirstOfItsGroup 5 (some .boolean) ∈ WG := wg2 (List.mem_of_getElem? (i := 147) rfl) rfl
theorem m2_148 : Cond.methodLink RX7 267 yX1_hasSameStack ∈ WG := wg2 (List.mem_of_getElem? (i := 148) rfl) rfl
theorem m2_149 : Cond.instanceMethod yX1_hasSameStack ∈ WG := wg2 (List.mem_of_getElem? (i := 149) rfl) rfl
theorem m2_150 : Cond.selects RX1 yX1_hasSameStack yX1_hasSameStack ∈ WG := wg2 (List.mem_of_getElem? (i := 150) rfl) rfl
theorem m2_151 : Cond.code yX1_hasSameStack cX1_hasSameStack 2 (some .boolean) ∈ WG := wg2 (List.mem_of_getElem? (i := 151) rfl) rfl
theorem m2_152 : Cond.methodLink RX1 37 yX2_areSame ∈ WG := wg2 (List.mem_of_getElem? (i := 152) rfl) rfl
theorem m2_153 : Cond.static yX2_areSame ∈ WG := wg2 (List.mem_of_getElem? (i := 153) rfl) rfl
theorem m2_154 : Cond.code yX2_areSame cX2_areSame 4 (some .boolean) ∈ WG := wg2 (List.mem_of_getElem? (i := 154) rfl) rfl
theorem m2_155 : Cond.methodLink RX2 7 yJ9_min_7cf53 ∈ WG := wg2 (List.mem_of_getElem? (i := 155) rfl) rfl
theorem m2_156 : Cond.static yJ9_min_7cf53 ∈ WG := wg2 (List.mem_of_getElem? (i := 156) rfl) rfl
theorem m2_157 : Cond.code yJ9_min_7cf53 cJ9_min_7cf53 2 (some .int) ∈ WG := wg2 (List.mem_of_getElem? (i := 157) rfl) rfl
theorem m2_158 : Cond.methodLink RX7 251 yX1_take ∈ WG := wg2 (List.mem_of_getElem? (i := 158) rfl) rfl
theorem m2_159 : Cond.instanceMethod yX1_take ∈ WG := wg2 (List.mem_of_getElem? (i := 159) rfl) rfl
theorem m2_160 : Cond.selects RX1 yX1_take yX1_take ∈ WG := wg2 (List.mem_of_getElem? (i := 160) rfl) rfl
theorem m2_161 : Cond.code yX1_take cX1_take 3 none ∈ WG := wg2 (List.mem_of_getElem? (i := 161) rfl) rfl
theorem m2_162 : Cond.methodLink RX1 34 yX1_replaceTop ∈ WG := wg2 (List.mem_of_getElem? (i := 162) rfl) rfl
theorem m2_164 : Cond.instanceMethod yX1_replaceTop ∈ WG := wg2 (List.mem_of_getElem? (i := 164) rfl) rfl
theorem m2_165 : Cond.code yX1_replaceTop cX1_replaceTop 7 none ∈ WG := wg2 (List.mem_of_getElem? (i := 165) rfl) rfl
theorem m2_166 : Cond.methodLink RX1 43 yX0_isReplaced ∈ WG := wg2 (List.mem_of_getElem? (i := 166) rfl) rfl
theorem m2_167 : Cond.static yX0_isReplaced ∈ WG := wg2 (List.mem_of_getElem? (i := 167) rfl) rfl
theorem m2_168 : Cond.code yX0_isReplaced cX0_isReplaced 1 (some .boolean) ∈ WG := wg2 (List.mem_of_getElem? (i := 168) rfl) rfl
theorem m2_169 : Cond.methodLink RX1 47 yX0_replacement ∈ WG := wg2 (List.mem_of_getElem? (i := 169) rfl) rfl
theorem m2_170 : Cond.static yX0_replacement ∈ WG := wg2 (List.mem_of_getElem? (i := 170) rfl) rfl
theorem m2_171 : Cond.code yX0_replacement cX0_replacement 2 (some (.object "java/lang/String")) ∈ WG := wg2 (List.mem_of_getElem? (i := 171) rfl) rfl
theorem m2_172 : Cond.methodLink RX0 16 yX0_canBeginStatement ∈ WG := wg2 (List.mem_of_getElem? (i := 172) rfl) rfl
theorem m2_173 : Cond.static yX0_canBeginStatement ∈ WG := wg2 (List.mem_of_getElem? (i := 173) rfl) rfl
theorem m2_174 : Cond.code yX0_canBeginStatement cX0_canBeginStatement 1 (some .boolean) ∈ WG := wg2 (List.mem_of_getElem? (i := 174) rfl) rfl
theorem m2_190 : Cond.methodLink RX1 51 yJ0_length_8abf5 ∈ WG := wg2 (List.mem_of_getElem? (i := 190) rfl) rfl
theorem m2_191 : Cond.instanceMethod yJ0_length_8abf5 ∈ WG := wg2 (List.mem_of_getElem? (i := 191) rfl) rfl
theorem m2_192 : Cond.selects RJ0 yJ0_length_8abf5 yJ0_length_8abf5 ∈ WG := wg2 (List.mem_of_getElem? (i := 192) rfl) rfl
theorem m2_193 : Cond.code yJ0_length_8abf5 cJ0_length_8abf5 1 (some .int) ∈ WG := wg2 (List.mem_of_getElem? (i := 193) rfl) rfl
theorem m2_194 : Cond.methodLink RJ0 335 yJ0_coder_7d493 ∈ WG := wg2 (List.mem_of_getElem? (i := 194) rfl) rfl
theorem m2_195 : Cond.instanceMethod yJ0_coder_7d493 ∈ WG := wg2 (List.mem_of_getElem? (i := 195) rfl) rfl
theorem m2_196 : Cond.selects RJ0 yJ0_coder_7d493 yJ0_coder_7d493 ∈ WG := wg2 (List.mem_of_getElem? (i := 196) rfl) rfl
theorem m2_197 : Cond.code yJ0_coder_7d493 cJ0_coder_7d493 1 (some .byte) ∈ WG := wg2 (List.mem_of_getElem? (i := 197) rfl) rfl
theorem m2_198 : Cond.fieldLink RJ0 38 "java/lang/String" "COMPACT_STRINGS" "Z" ∈ WG := wg2 (List.mem_of_getElem? (i := 198) rfl) rfl
theorem m2_200 : Cond.methodLink RX1 57 yJ0_charAt_5068e ∈ WG := wg2 (List.mem_of_getElem? (i := 200) rfl) rfl
theorem m2_201 : Cond.instanceMethod yJ0_charAt_5068e ∈ WG := wg2 (List.mem_of_getElem? (i := 201) rfl) rfl
theorem m2_202 : Cond.selects RJ0 yJ0_charAt_5068e yJ0_charAt_5068e ∈ WG := wg2 (List.mem_of_getElem? (i := 202) rfl) rfl
theorem m2_203 : Cond.code yJ0_charAt_5068e cJ0_charAt_5068e 2 (some .char) ∈ WG := wg2 (List.mem_of_getElem? (i := 203) rfl) rfl
theorem m2_204 : Cond.methodLink RJ0 492 yJ0_isLatin1_aae02 ∈ WG := wg2 (List.mem_of_getElem? (i := 204) rfl) rfl
theorem m2_205 : Cond.instanceMethod yJ0_isLatin1_aae02 ∈ WG := wg2 (List.mem_of_getElem? (i := 205) rfl) rfl
theorem m2_206 : Cond.selects RJ0 yJ0_isLatin1_aae02 yJ0_isLatin1_aae02 ∈ WG := wg2 (List.mem_of_getElem? (i := 206) rfl) rfl
theorem m2_207 : Cond.code yJ0_isLatin1_aae02 cJ0_isLatin1_aae02 1 (some .boolean) ∈ WG := wg2 (List.mem_of_getElem? (i := 207) rfl) rfl
theorem m2_208 : Cond.methodLink RJ0 495 yJ1_charAt_3b067 ∈ WG := wg2 (List.mem_of_getElem? (i := 208) rfl) rfl
theorem m2_209 : Cond.static yJ1_charAt_3b067 ∈ WG := wg2 (List.mem_of_getElem? (i := 209) rfl) rfl
theorem m2_210 : Cond.code yJ1_charAt_3b067 cJ1_charAt_3b067 2 (some .char) ∈ WG := wg2 (List.mem_of_getElem? (i := 210) rfl) rfl
theorem m2_211 : Cond.methodLink RJ1 9 yJ0_checkIndex_df160 ∈ WG := wg2 (List.mem_of_getElem? (i := 211) rfl) rfl
theorem m2_212 : Cond.static yJ0_checkIndex_df160 ∈ WG := wg2 (List.mem_of_getElem? (i := 212) rfl) rfl
theorem m2_213 : Cond.code yJ0_checkIndex_df160 cJ0_checkIndex_df160 2 none ∈ WG := wg2 (List.mem_of_getElem? (i := 213) rfl) rfl
theorem m2_214 : Cond.fieldLink RJ0 1053 "jdk/internal/util/Preconditions" "SIOOBE_FORMATTER" "Ljava/util/function/BiFunction;" ∈ WG := wg2 (List.mem_of_getElem? (i := 214) rfl) rfl
theorem m2_216 : Cond.methodLink RJ0 1059 yJ3_checkIndex_8e157 ∈ WG := wg2 (List.mem_of_getElem? (i := 216) rfl) rfl
theorem m2_217 : Cond.static yJ3_checkIndex_8e157 ∈ WG := wg2 (List.mem_of_getElem? (i := 217) rfl) rfl
theorem m2_218 : Cond.code yJ3_checkIndex_8e157 cJ3_checkIndex_8e157 3 (some .int) ∈ WG := wg2 (List.mem_of_getElem? (i := 218) rfl) rfl
theorem m2_219 : Cond.methodLink RJ0 498 yJ2_charAt_3b067 ∈ WG := wg2 (List.mem_of_getElem? (i := 219) rfl) rfl
theorem m2_220 : Cond.static yJ2_charAt_3b067 ∈ WG := wg2 (List.mem_of_getElem? (i := 220) rfl) rfl
theorem m2_221 : Cond.code yJ2_charAt_3b067 cJ2_charAt_3b067 2 (some .char) ∈ WG := wg2 (List.mem_of_getElem? (i := 221) rfl) rfl
theorem m2_222 : Cond.methodLink RJ2 67 yJ2_checkIndex_2214a ∈ WG := wg2 (List.mem_of_getElem? (i := 222) rfl) rfl
theorem m2_223 : Cond.static yJ2_checkIndex_2214a ∈ WG := wg2 (List.mem_of_getElem? (i := 223) rfl) rfl
theorem m2_224 : Cond.code yJ2_checkIndex_2214a cJ2_checkIndex_2214a 2 none ∈ WG := wg2 (List.mem_of_getElem? (i := 224) rfl) rfl
theorem m2_225 : Cond.methodLink RJ2 48 yJ2_length_9d52b ∈ WG := wg2 (List.mem_of_getElem? (i := 225) rfl) rfl
theorem m2_226 : Cond.static yJ2_length_9d52b ∈ WG := wg2 (List.mem_of_getElem? (i := 226) rfl) rfl
theorem m2_227 : Cond.code yJ2_length_9d52b cJ2_length_9d52b 1 (some .int) ∈ WG := wg2 (List.mem_of_getElem? (i := 227) rfl) rfl
theorem m2_228 : Cond.methodLink RJ2 414 yJ0_checkIndex_df160 ∈ WG := wg2 (List.mem_of_getElem? (i := 228) rfl) rfl
theorem m2_229 : Cond.methodLink RJ2 71 yJ2_getChar_3b067 ∈ WG := wg2 (List.mem_of_getElem? (i := 229) rfl) rfl
theorem m2_230 : Cond.static yJ2_getChar_3b067 ∈ WG := wg2 (List.mem_of_getElem? (i := 230) rfl) rfl
theorem m2_231 : Cond.code yJ2_getChar_3b067 cJ2_getChar_3b067 2 (some .char) ∈ WG := wg2 (List.mem_of_getElem? (i := 231) rfl) rfl
theorem m2_232 : Cond.fieldLink RJ2 44 "java/lang/StringUTF16" "$assertionsDisabled" "Z" ∈ WG := wg2 (List.mem_of_getElem? (i := 232) rfl) rfl
theorem m2_234 : Cond.fieldLink RJ2 59 "java/lang/StringUTF16" "HI_BYTE_SHIFT" "I" ∈ WG := wg2 (List.mem_of_getElem? (i := 234) rfl) rfl
theorem m2_236 : Cond.fieldLink RJ2 63 "java/lang/StringUTF16" "LO_BYTE_SHIFT" "I" ∈ WG := wg2 (List.mem_of_getElem? (i := 236) rfl) rfl
theorem m2_238 : Cond.methodLink RX7 254 yX1_end ∈ WG := wg2 (List.mem_of_getElem? (i := 238) rfl) rfl
theorem m2_239 : Cond.instanceMethod yX1_end ∈ WG := wg2 (List.mem_of_getElem? (i := 239) rfl) rfl
theorem m3_0 : Cond.selects RX1 yX1_end yX1_end ∈ WG := wg3 (List.mem_of_getElem? (i := 0) rfl) rfl
theorem m3_1 : Cond.code yX1_end cX1_end 2 none ∈ WG := wg3 (List.mem_of_getElem? (i := 1) rfl) rfl
theorem m3_2 : Cond.methodLink RX7 234 yX7_runAll ∈ WG := wg3 (List.mem_of_getElem? (i := 2) rfl) rfl
theorem m3_4 : Cond.instanceMethod yX7_runAll ∈ WG := wg3 (List.mem_of_getElem? (i := 4) rfl) rfl
theorem m3_5 : Cond.code yX7_runAll cX7_runAll 2 none ∈ WG := wg3 (List.mem_of_getElem? (i := 5) rfl) rfl
theorem m3_6 : Cond.methodLink RX7 260 yX3_execute ∈ WG := wg3 (List.mem_of_getElem? (i := 6) rfl) rfl
theorem m3_7 : Cond.instanceMethod yX3_execute ∈ WG := wg3 (List.mem_of_getElem? (i := 7) rfl) rfl
theorem m3_8 : Cond.selects RX3 yX3_execute yX3_execute ∈ WG := wg3 (List.mem_of_getElem? (i := 8) rfl) rfl
theorem m3_9 : Cond.code yX3_execute cX3_execute 4 none ∈ WG := wg3 (List.mem_of_getElem? (i := 9) rfl) rfl
theorem m3_10 : Cond.methodLink RX3 21 yJ9_min_7cf53 ∈ WG := wg3 (List.mem_of_getElem? (i := 10) rfl) rfl
theorem m3_11 : Cond.methodLink RX3 37 yX3_runStatements ∈ WG := wg3 (List.mem_of_getElem? (i := 11) rfl) rfl
theorem m3_13 : Cond.instanceMethod yX3_runStatements ∈ WG := wg3 (List.mem_of_getElem? (i := 13) rfl) rfl
theorem m3_14 : Cond.code yX3_runStatements cX3_runStatements 4 none ∈ WG := wg3 (List.mem_of_getElem? (i := 14) rfl) rfl
theorem m3_15 : Cond.methodLink RX3 49 yX3_peek ∈ WG := wg3 (List.mem_of_getElem? (i := 15) rfl) rfl
theorem m3_17 : Cond.instanceMethod yX3_peek ∈ WG := wg3 (List.mem_of_getElem? (i := 17) rfl) rfl
theorem m3_18 : Cond.code yX3_peek cX3_peek 1 (some .int) ∈ WG := wg3 (List.mem_of_getElem? (i := 18) rfl) rfl
theorem m3_19 : Cond.methodLink RX3 53 yX0_canBeginStatement ∈ WG := wg3 (List.mem_of_getElem? (i := 19) rfl) rfl
theorem m3_20 : Cond.methodLink RX3 57 yX3_runStatement ∈ WG := wg3 (List.mem_of_getElem? (i := 20) rfl) rfl
theorem m3_22 : Cond.instanceMethod yX3_runStatement ∈ WG := wg3 (List.mem_of_getElem? (i := 22) rfl) rfl
theorem m3_23 : Cond.code yX3_runStatement cX3_runStatement 5 none ∈ WG := wg3 (List.mem_of_getElem? (i := 23) rfl) rfl
theorem m3_24 : Cond.methodLink RX3 60 yX3_advance ∈ WG := wg3 (List.mem_of_getElem? (i := 24) rfl) rfl
theorem m3_26 : Cond.instanceMethod yX3_advance ∈ WG := wg3 (List.mem_of_getElem? (i := 26) rfl) rfl
theorem m3_27 : Cond.code yX3_advance cX3_advance 2 (some .int) ∈ WG := wg3 (List.mem_of_getElem? (i := 27) rfl) rfl
theorem m3_28 : Cond.methodLink RX3 63 yX3_runChoice ∈ WG := wg3 (List.mem_of_getElem? (i := 28) rfl) rfl
theorem m3_30 : Cond.instanceMethod yX3_runChoice ∈ WG := wg3 (List.mem_of_getElem? (i := 30) rfl) rfl
theorem m3_31 : Cond.code yX3_runChoice cX3_runChoice 4 none ∈ WG := wg3 (List.mem_of_getElem? (i := 31) rfl) rfl
theorem m3_32 : Cond.methodLink RX3 66 yX3_sum ∈ WG := wg3 (List.mem_of_getElem? (i := 32) rfl) rfl
theorem m3_34 : Cond.instanceMethod yX3_sum ∈ WG := wg3 (List.mem_of_getElem? (i := 34) rfl) rfl
theorem m3_35 : Cond.code yX3_sum cX3_sum 4 (some .int) ∈ WG := wg3 (List.mem_of_getElem? (i := 35) rfl) rfl
theorem m3_36 : Cond.methodLink RX3 78 yX3_product ∈ WG := wg3 (List.mem_of_getElem? (i := 36) rfl) rfl
theorem m3_38 : Cond.instanceMethod yX3_product ∈ WG := wg3 (List.mem_of_getElem? (i := 38) rfl) rfl
theorem m3_39 : Cond.code yX3_product cX3_product 4 (some .int) ∈ WG := wg3 (List.mem_of_getElem? (i := 39) rfl) rfl
theorem m3_40 : Cond.methodLink RX3 81 yX3_factor ∈ WG := wg3 (List.mem_of_getElem? (i := 40) rfl) rfl
theorem m3_42 : Cond.instanceMethod yX3_factor ∈ WG := wg3 (List.mem_of_getElem? (i := 42) rfl) rfl
theorem m3_43 : Cond.code yX3_factor cX3_factor 4 (some .int) ∈ WG := wg3 (List.mem_of_getElem? (i := 43) rfl) rfl
theorem m3_44 : Cond.methodLink RX3 84 yX3_operand ∈ WG := wg3 (List.mem_of_getElem? (i := 44) rfl) rfl
theorem m3_46 : Cond.instanceMethod yX3_operand ∈ WG := wg3 (List.mem_of_getElem? (i := 46) rfl) rfl
theorem m3_47 : Cond.code yX3_operand cX3_operand 4 (some .int) ∈ WG := wg3 (List.mem_of_getElem? (i := 47) rfl) rfl
theorem m3_48 : Cond.methodLink RX3 87 yX0_isDigit ∈ WG := wg3 (List.mem_of_getElem? (i := 48) rfl) rfl
theorem m3_49 : Cond.methodLink RX3 90 yX0_isName ∈ WG := wg3 (List.mem_of_getElem? (i := 49) rfl) rfl
theorem m3_50 : Cond.methodLink RX3 70 yX3_put ∈ WG := wg3 (List.mem_of_getElem? (i := 50) rfl) rfl
theorem m3_52 : Cond.instanceMethod yX3_put ∈ WG := wg3 (List.mem_of_getElem? (i := 52) rfl) rfl
theorem m3_53 : Cond.code yX3_put cX3_put 2 none ∈ WG := wg3 (List.mem_of_getElem? (i := 53) rfl) rfl
theorem m3_54 : Cond.methodLink RX3 74 yX3_assign ∈ WG := wg3 (List.mem_of_getElem? (i := 54) rfl) rfl
theorem m3_56 : Cond.instanceMethod yX3_assign ∈ WG := wg3 (List.mem_of_getElem? (i := 56) rfl) rfl
theorem m3_57 : Cond.code yX3_assign cX3_assign 3 none ∈ WG := wg3 (List.mem_of_getElem? (i := 57) rfl) rfl
theorem m3_58 : Cond.methodLink RL 95 yX7_length ∈ WG := wg3 (List.mem_of_getElem? (i := 58) rfl) rfl
theorem m3_59 : Cond.instanceMethod yX7_length ∈ WG := wg3 (List.mem_of_getElem? (i := 59) rfl) rfl
theorem m3_60 : Cond.selects RX7 yX7_length yX7_length ∈ WG := wg3 (List.mem_of_getElem? (i := 60) rfl) rfl
theorem m3_61 : Cond.code yX7_length cX7_length 2 (some .int) ∈ WG := wg3 (List.mem_of_getElem? (i := 61) rfl) rfl
theorem m3_62 : Cond.methodLink RX7 129 yX7_checkConfiguration ∈ WG := wg3 (List.mem_of_getElem? (i := 62) rfl) rfl
theorem m3_64 : Cond.instanceMethod yX7_checkConfiguration ∈ WG := wg3 (List.mem_of_getElem? (i := 64) rfl) rfl
theorem m3_65 : Cond.code yX7_checkConfiguration cX7_checkConfiguration 2 none ∈ WG := wg3 (List.mem_of_getElem? (i := 65) rfl) rfl
theorem m3_67 : Cond.methodLink RL 98 yX7_place ∈ WG := wg3 (List.mem_of_getElem? (i := 67) rfl) rfl
theorem m3_68 : Cond.instanceMethod yX7_place ∈ WG := wg3 (List.mem_of_getElem? (i := 68) rfl) rfl
theorem m3_69 : Cond.selects RX7 yX7_place yX7_place ∈ WG := wg3 (List.mem_of_getElem? (i := 69) rfl) rfl
theorem m3_70 : Cond.code yX7_place cX7_place 3 (some .int) ∈ WG := wg3 (List.mem_of_getElem? (i := 70) rfl) rfl
theorem m3_71 : Cond.methodLink RX7 135 yX7_checkIndex ∈ WG := wg3 (List.mem_of_getElem? (i := 71) rfl) rfl
theorem m3_73 : Cond.instanceMethod yX7_checkIndex ∈ WG := wg3 (List.mem_of_getElem? (i := 73) rfl) rfl
theorem m3_74 : Cond.code yX7_checkIndex cX7_checkIndex 3 none ∈ WG := wg3 (List.mem_of_getElem? (i := 74) rfl) rfl
theorem m3_76 : Cond.methodLink RL 92 yX7_variants ∈ WG := wg3 (List.mem_of_getElem? (i := 76) rfl) rfl
theorem m3_77 : Cond.instanceMethod yX7_variants ∈ WG := wg3 (List.mem_of_getElem? (i := 77) rfl) rfl
theorem m3_78 : Cond.selects RX7 yX7_variants yX7_variants ∈ WG := wg3 (List.mem_of_getElem? (i := 78) rfl) rfl
theorem m3_79 : Cond.code yX7_variants cX7_variants 3 (some .int) ∈ WG := wg3 (List.mem_of_getElem? (i := 79) rfl) rfl
theorem m3_80 : Cond.methodLink RX7 142 yX7_isFirstOfItsText ∈ WG := wg3 (List.mem_of_getElem? (i := 80) rfl) rfl
theorem m3_82 : Cond.instanceMethod yX7_isFirstOfItsText ∈ WG := wg3 (List.mem_of_getElem? (i := 82) rfl) rfl
theorem m3_83 : Cond.code yX7_isFirstOfItsText cX7_isFirstOfItsText 3 (some .boolean) ∈ WG := wg3 (List.mem_of_getElem? (i := 83) rfl) rfl
theorem m3_84 : Cond.methodLink RX7 271 yX5_hasSameTokens ∈ WG := wg3 (List.mem_of_getElem? (i := 84) rfl) rfl
theorem m3_85 : Cond.instanceMethod yX5_hasSameTokens ∈ WG := wg3 (List.mem_of_getElem? (i := 85) rfl) rfl
theorem m3_86 : Cond.selects RX5 yX5_hasSameTokens yX5_hasSameTokens ∈ WG := wg3 (List.mem_of_getElem? (i := 86) rfl) rfl
theorem m3_87 : Cond.code yX5_hasSameTokens cX5_hasSameTokens 2 (some .boolean) ∈ WG := wg3 (List.mem_of_getElem? (i := 87) rfl) rfl
theorem m3_88 : Cond.methodLink RX5 36 yX2_areSame ∈ WG := wg3 (List.mem_of_getElem? (i := 88) rfl) rfl
theorem m3_89 : Cond.methodLink RL 107 yX7_error ∈ WG := wg3 (List.mem_of_getElem? (i := 89) rfl) rfl
theorem m3_90 : Cond.instanceMethod yX7_error ∈ WG := wg3 (List.mem_of_getElem? (i := 90) rfl) rfl
theorem m3_91 : Cond.selects RX7 yX7_error yX7_error ∈ WG := wg3 (List.mem_of_getElem? (i := 91) rfl) rfl
theorem m3_92 : Cond.code yX7_error cX7_error 2 (some .int) ∈ WG := wg3 (List.mem_of_getElem? (i := 92) rfl) rfl
theorem m3_93 : Cond.methodLink RX7 145 yX7_checkFinished ∈ WG := wg3 (List.mem_of_getElem? (i := 93) rfl) rfl
theorem m3_95 : Cond.instanceMethod yX7_checkFinished ∈ WG := wg3 (List.mem_of_getElem? (i := 95) rfl) rfl
theorem m3_96 : Cond.code yX7_checkFinished cX7_checkFinished 1 none ∈ WG := wg3 (List.mem_of_getElem? (i := 96) rfl) rfl
theorem m3_98 : Cond.methodLink RL 125 yX7_wrong ∈ WG := wg3 (List.mem_of_getElem? (i := 98) rfl) rfl
theorem m3_99 : Cond.instanceMethod yX7_wrong ∈ WG := wg3 (List.mem_of_getElem? (i := 99) rfl) rfl
theorem m3_100 : Cond.selects RX7 yX7_wrong yX7_wrong ∈ WG := wg3 (List.mem_of_getElem? (i := 100) rfl) rfl
theorem m3_101 : Cond.code yX7_wrong cX7_wrong 3 (some .int) ∈ WG := wg3 (List.mem_of_getElem? (i := 101) rfl) rfl
theorem m3_102 : Cond.methodLink RL 133 yX7_groups ∈ WG := wg3 (List.mem_of_getElem? (i := 102) rfl) rfl
theorem m3_103 : Cond.instanceMethod yX7_groups ∈ WG := wg3 (List.mem_of_getElem? (i := 103) rfl) rfl
theorem m3_104 : Cond.selects RX7 yX7_groups yX7_groups ∈ WG := wg3 (List.mem_of_getElem? (i := 104) rfl) rfl
theorem m3_105 : Cond.code yX7_groups cX7_groups 2 (some .int) ∈ WG := wg3 (List.mem_of_getElem? (i := 105) rfl) rfl
theorem m3_106 : Cond.methodLink RL 136 yX7_gain ∈ WG := wg3 (List.mem_of_getElem? (i := 106) rfl) rfl
theorem m3_107 : Cond.instanceMethod yX7_gain ∈ WG := wg3 (List.mem_of_getElem? (i := 107) rfl) rfl
theorem m3_108 : Cond.selects RX7 yX7_gain yX7_gain ∈ WG := wg3 (List.mem_of_getElem? (i := 108) rfl) rfl
theorem m3_109 : Cond.code yX7_gain cX7_gain 4 (some .double) ∈ WG := wg3 (List.mem_of_getElem? (i := 109) rfl) rfl
theorem m3_110 : Cond.methodLink RX7 157 yX7_sumOfGroups ∈ WG := wg3 (List.mem_of_getElem? (i := 110) rfl) rfl
theorem m3_112 : Cond.instanceMethod yX7_sumOfGroups ∈ WG := wg3 (List.mem_of_getElem? (i := 112) rfl) rfl
theorem m3_113 : Cond.code yX7_sumOfGroups cX7_sumOfGroups 3 (some .int) ∈ WG := wg3 (List.mem_of_getElem? (i := 113) rfl) rfl
theorem m3_114 : Cond.methodLink RL 110 yX7_stack ∈ WG := wg3 (List.mem_of_getElem? (i := 114) rfl) rfl
theorem m3_115 : Cond.instanceMethod yX7_stack ∈ WG := wg3 (List.mem_of_getElem? (i := 115) rfl) rfl
theorem m3_116 : Cond.selects RX7 yX7_stack yX7_stack ∈ WG := wg3 (List.mem_of_getElem? (i := 116) rfl) rfl
theorem m3_117 : Cond.code yX7_stack cX7_stack 3 (some .int) ∈ WG := wg3 (List.mem_of_getElem? (i := 117) rfl) rfl
theorem m3_118 : Cond.methodLink RX7 163 yX1_heightAhead ∈ WG := wg3 (List.mem_of_getElem? (i := 118) rfl) rfl
theorem m3_119 : Cond.instanceMethod yX1_heightAhead ∈ WG := wg3 (List.mem_of_getElem? (i := 119) rfl) rfl
theorem m3_120 : Cond.selects RX1 yX1_heightAhead yX1_heightAhead ∈ WG := wg3 (List.mem_of_getElem? (i := 120) rfl) rfl
theorem m3_121 : Cond.code yX1_heightAhead cX1_heightAhead 2 (some .int) ∈ WG := wg3 (List.mem_of_getElem? (i := 121) rfl) rfl
theorem m3_122 : Cond.methodLink RL 113 yX7_outputs ∈ WG := wg3 (List.mem_of_getElem? (i := 122) rfl) rfl
theorem m3_123 : Cond.instanceMethod yX7_outputs ∈ WG := wg3 (List.mem_of_getElem? (i := 123) rfl) rfl
theorem m3_124 : Cond.selects RX7 yX7_outputs yX7_outputs ∈ WG := wg3 (List.mem_of_getElem? (i := 124) rfl) rfl
theorem m3_125 : Cond.code yX7_outputs cX7_outputs 2 (some .int) ∈ WG := wg3 (List.mem_of_getElem? (i := 125) rfl) rfl
theorem m3_126 : Cond.methodLink RX7 166 yX7_checkNoError ∈ WG := wg3 (List.mem_of_getElem? (i := 126) rfl) rfl
theorem m3_128 : Cond.instanceMethod yX7_checkNoError ∈ WG := wg3 (List.mem_of_getElem? (i := 128) rfl) rfl
theorem m3_129 : Cond.code yX7_checkNoError cX7_checkNoError 2 none ∈ WG := wg3 (List.mem_of_getElem? (i := 129) rfl) rfl
theorem m3_130 : Cond.classLink RX7 216 "java/util/NoSuchElementException" ∈ WG := wg3 (List.mem_of_getElem? (i := 130) rfl) rfl
theorem m3_131 : Cond.instantiable "java/util/NoSuchElementException" 6 ∈ WG := wg3 (List.mem_of_getElem? (i := 131) rfl) rfl
theorem m3_133 : Cond.selects "java/util/NoSuchElementException" ⟨"java/lang/Throwable", "fillInStackTrace", "(I)Ljava/lang/Throwable;"⟩ ⟨"java/lang/Throwable", "fillInStackTrace", "(I)Ljava/lang/Throwable;"⟩ ∈ WG := wg3 (List.mem_of_getElem? (i := 133) rfl) rfl
theorem m3_134 : Cond.lays "java/util/NoSuchElementException" "java/lang/Throwable" "cause" "Ljava/lang/Throwable;" ∈ WG := wg3 (List.mem_of_getElem? (i := 134) rfl) rfl
theorem m3_135 : Cond.lays "java/util/NoSuchElementException" "java/lang/Throwable" "stackTrace" "[Ljava/lang/StackTraceElement;" ∈ WG := wg3 (List.mem_of_getElem? (i := 135) rfl) rfl
theorem m3_136 : Cond.lays "java/util/NoSuchElementException" "java/lang/Throwable" "suppressedExceptions" "Ljava/util/List;" ∈ WG := wg3 (List.mem_of_getElem? (i := 136) rfl) rfl
theorem m3_137 : Cond.lays "java/util/NoSuchElementException" "java/lang/Throwable" "detailMessage" "Ljava/lang/String;" ∈ WG := wg3 (List.mem_of_getElem? (i := 137) rfl) rfl
theorem m3_138 : Cond.lays "java/util/NoSuchElementException" "java/lang/Throwable" "backtrace" "Ljava/lang/Object;" ∈ WG := wg3 (List.mem_of_getElem? (i := 138) rfl) rfl
theorem m3_140 : Cond.methodLink RX7 220 ⟨"java/util/NoSuchElementException", "<init>", "(Ljava/lang/String;)V"⟩ ∈ WG := wg3 (List.mem_of_getElem? (i := 140) rfl) rfl
theorem m3_141 : Cond.instanceMethod ⟨"java/util/NoSuchElementException", "<init>", "(Ljava/lang/String;)V"⟩ ∈ WG := wg3 (List.mem_of_getElem? (i := 141) rfl) rfl
theorem m3_142 : Cond.code ⟨"java/util/NoSuchElementException", "<init>", "(Ljava/lang/String;)V"⟩ prog_27_method_4_code 2 none ∈ WG := wg3 (List.mem_of_getElem? (i := 142) rfl) rfl
theorem m3_143 : Cond.methodLink "java/util/NoSuchElementException" 13 ⟨"java/lang/RuntimeException", "<init>", "(Ljava/lang/String;)V"⟩ ∈ WG := wg3 (List.mem_of_getElem? (i := 143) rfl) rfl
theorem m3_144 : Cond.lays "java/util/NoSuchElementException" "java/lang/Throwable" "depth" "I" ∈ WG := wg3 (List.mem_of_getElem? (i := 144) rfl) rfl
theorem m3_146 : Cond.methodLink RL 116 yX7_output ∈ WG := wg3 (List.mem_of_getElem? (i := 146) rfl) rfl
theorem m3_147 : Cond.instanceMethod yX7_output ∈ WG := wg3 (List.mem_of_getElem? (i := 147) rfl) rfl
theorem m3_148 : Cond.selects RX7 yX7_output yX7_output ∈ WG := wg3 (List.mem_of_getElem? (i := 148) rfl) rfl
theorem m3_149 : Cond.code yX7_output cX7_output 4 (some .int) ∈ WG := wg3 (List.mem_of_getElem? (i := 149) rfl) rfl
theorem m3_151 : Cond.methodLink RL 119 yX7_variable ∈ WG := wg3 (List.mem_of_getElem? (i := 151) rfl) rfl
theorem m3_152 : Cond.instanceMethod yX7_variable ∈ WG := wg3 (List.mem_of_getElem? (i := 152) rfl) rfl
theorem m3_153 : Cond.selects RX7 yX7_variable yX7_variable ∈ WG := wg3 (List.mem_of_getElem? (i := 153) rfl) rfl
theorem m3_154 : Cond.code yX7_variable cX7_variable 3 (some .int) ∈ WG := wg3 (List.mem_of_getElem? (i := 154) rfl) rfl
theorem m3_156 : Cond.methodLink RL 122 yX7_behaviours ∈ WG := wg3 (List.mem_of_getElem? (i := 156) rfl) rfl
theorem m3_157 : Cond.instanceMethod yX7_behaviours ∈ WG := wg3 (List.mem_of_getElem? (i := 157) rfl) rfl
theorem m3_158 : Cond.selects RX7 yX7_behaviours yX7_behaviours ∈ WG := wg3 (List.mem_of_getElem? (i := 158) rfl) rfl
theorem m3_159 : Cond.code yX7_behaviours cX7_behaviours 3 (some .int) ∈ WG := wg3 (List.mem_of_getElem? (i := 159) rfl) rfl
theorem m3_160 : Cond.methodLink RX7 188 yX7_isFirstOfItsBehaviour ∈ WG := wg3 (List.mem_of_getElem? (i := 160) rfl) rfl
theorem m3_162 : Cond.instanceMethod yX7_isFirstOfItsBehaviour ∈ WG := wg3 (List.mem_of_getElem? (i := 162) rfl) rfl
theorem m3_163 : Cond.code yX7_isFirstOfItsBehaviour cX7_isFirstOfItsBehaviour 4 (some .boolean) ∈ WG := wg3 (List.mem_of_getElem? (i := 163) rfl) rfl
theorem m3_164 : Cond.methodLink RX7 275 yX3_hasSameOutputs ∈ WG := wg3 (List.mem_of_getElem? (i := 164) rfl) rfl
theorem m3_165 : Cond.instanceMethod yX3_hasSameOutputs ∈ WG := wg3 (List.mem_of_getElem? (i := 165) rfl) rfl
theorem m3_166 : Cond.selects RX3 yX3_hasSameOutputs yX3_hasSameOutputs ∈ WG := wg3 (List.mem_of_getElem? (i := 166) rfl) rfl
theorem m3_167 : Cond.code yX3_hasSameOutputs cX3_hasSameOutputs 2 (some .boolean) ∈ WG := wg3 (List.mem_of_getElem? (i := 167) rfl) rfl
theorem m3_168 : Cond.methodLink RX3 41 yX2_areSame ∈ WG := wg3 (List.mem_of_getElem? (i := 168) rfl) rfl
theorem m3_169 : Cond.methodLink RL 45 yL_below ∈ WG := wg3 (List.mem_of_getElem? (i := 169) rfl) rfl
theorem m3_170 : Cond.static yL_below ∈ WG := wg3 (List.mem_of_getElem? (i := 170) rfl) rfl
theorem m3_171 : Cond.code yL_below cL_below 2 (some .int) ∈ WG := wg3 (List.mem_of_getElem? (i := 171) rfl) rfl
theorem m3_172 : Cond.constant RL 7 (2147483647) ∈ WG := wg3 (List.mem_of_getElem? (i := 172) rfl) rfl
theorem m3_173 : Cond.methodLink RL 39 yL_cell ∈ WG := wg3 (List.mem_of_getElem? (i := 173) rfl) rfl
theorem m3_174 : Cond.static yL_cell ∈ WG := wg3 (List.mem_of_getElem? (i := 174) rfl) rfl
theorem m3_175 : Cond.code yL_cell cL_cell 2 (some .int) ∈ WG := wg3 (List.mem_of_getElem? (i := 175) rfl) rfl
theorem m3_176 : Cond.constant RL 8 (790386105) ∈ WG := wg3 (List.mem_of_getElem? (i := 176) rfl) rfl
theorem m3_177 : Cond.methodLink RL 88 yL_build ∈ WG := wg3 (List.mem_of_getElem? (i := 177) rfl) rfl
theorem m3_178 : Cond.static yL_build ∈ WG := wg3 (List.mem_of_getElem? (i := 178) rfl) rfl
theorem m3_179 : Cond.code yL_build cL_build 21 (some .int) ∈ WG := wg3 (List.mem_of_getElem? (i := 179) rfl) rfl
theorem m3_180 : Cond.classLink RL 9 "java/lang/String" ∈ WG := wg3 (List.mem_of_getElem? (i := 180) rfl) rfl
theorem m3_196 : Cond.methodLink RL 49 yJ0_length_8abf5 ∈ WG := wg3 (List.mem_of_getElem? (i := 196) rfl) rfl
theorem m3_197 : Cond.methodLink RL 53 yJ0_charAt_5068e ∈ WG := wg3 (List.mem_of_getElem? (i := 197) rfl) rfl
theorem m3_198 : Cond.methodLink RL 63 yJ9_max_7cf53 ∈ WG := wg3 (List.mem_of_getElem? (i := 198) rfl) rfl
theorem m3_199 : Cond.static yJ9_max_7cf53 ∈ WG := wg3 (List.mem_of_getElem? (i := 199) rfl) rfl
theorem m3_200 : Cond.code yJ9_max_7cf53 cJ9_max_7cf53 2 (some .int) ∈ WG := wg3 (List.mem_of_getElem? (i := 200) rfl) rfl
theorem m3_201 : Cond.methodLink RL 68 yX7_when ∈ WG := wg3 (List.mem_of_getElem? (i := 201) rfl) rfl
theorem m3_202 : Cond.instanceMethod yX7_when ∈ WG := wg3 (List.mem_of_getElem? (i := 202) rfl) rfl
theorem m3_203 : Cond.selects RX7 yX7_when yX7_when ∈ WG := wg3 (List.mem_of_getElem? (i := 203) rfl) rfl
theorem m3_204 : Cond.code yX7_when cX7_when 3 (some .int) ∈ WG := wg3 (List.mem_of_getElem? (i := 204) rfl) rfl
theorem m3_205 : Cond.methodLink RX7 68 yX7_checkFeature ∈ WG := wg3 (List.mem_of_getElem? (i := 205) rfl) rfl
theorem m3_207 : Cond.instanceMethod yX7_checkFeature ∈ WG := wg3 (List.mem_of_getElem? (i := 207) rfl) rfl
theorem m3_208 : Cond.code yX7_checkFeature cX7_checkFeature 2 none ∈ WG := wg3 (List.mem_of_getElem? (i := 208) rfl) rfl
theorem m3_210 : Cond.methodLink RX7 72 yX7_checkRoom ∈ WG := wg3 (List.mem_of_getElem? (i := 210) rfl) rfl
theorem m3_212 : Cond.instanceMethod yX7_checkRoom ∈ WG := wg3 (List.mem_of_getElem? (i := 212) rfl) rfl
theorem m3_213 : Cond.code yX7_checkRoom cX7_checkRoom 1 none ∈ WG := wg3 (List.mem_of_getElem? (i := 213) rfl) rfl
theorem m3_215 : Cond.methodLink RX7 81 yX4_codeOfWhen ∈ WG := wg3 (List.mem_of_getElem? (i := 215) rfl) rfl
theorem m3_216 : Cond.static yX4_codeOfWhen ∈ WG := wg3 (List.mem_of_getElem? (i := 216) rfl) rfl
theorem m3_217 : Cond.code yX4_codeOfWhen cX4_codeOfWhen 2 (some .int) ∈ WG := wg3 (List.mem_of_getElem? (i := 217) rfl) rfl
theorem m3_218 : Cond.methodLink RL 72 yX7_otherwise ∈ WG := wg3 (List.mem_of_getElem? (i := 218) rfl) rfl
theorem m3_219 : Cond.instanceMethod yX7_otherwise ∈ WG := wg3 (List.mem_of_getElem? (i := 219) rfl) rfl
theorem m3_220 : Cond.selects RX7 yX7_otherwise yX7_otherwise ∈ WG := wg3 (List.mem_of_getElem? (i := 220) rfl) rfl
theorem m3_221 : Cond.code yX7_otherwise cX7_otherwise 1 (some .int) ∈ WG := wg3 (List.mem_of_getElem? (i := 221) rfl) rfl
theorem m3_222 : Cond.methodLink RX7 85 yX7_checkUnfinished ∈ WG := wg3 (List.mem_of_getElem? (i := 222) rfl) rfl
theorem m3_224 : Cond.instanceMethod yX7_checkUnfinished ∈ WG := wg3 (List.mem_of_getElem? (i := 224) rfl) rfl
theorem m3_225 : Cond.code yX7_checkUnfinished cX7_checkUnfinished 1 none ∈ WG := wg3 (List.mem_of_getElem? (i := 225) rfl) rfl
theorem m3_227 : Cond.methodLink RX7 88 yX4_lastUnfinishedHasOtherwise ∈ WG := wg3 (List.mem_of_getElem? (i := 227) rfl) rfl
theorem m3_228 : Cond.instanceMethod yX4_lastUnfinishedHasOtherwise ∈ WG := wg3 (List.mem_of_getElem? (i := 228) rfl) rfl
theorem m3_229 : Cond.selects RX4 yX4_lastUnfinishedHasOtherwise yX4_lastUnfinishedHasOtherwise ∈ WG := wg3 (List.mem_of_getElem? (i := 229) rfl) rfl
theorem m3_230 : Cond.code yX4_lastUnfinishedHasOtherwise cX4_lastUnfinishedHasOtherwise 4 (some .boolean) ∈ WG := wg3 (List.mem_of_getElem? (i := 230) rfl) rfl
theorem m3_232 : Cond.methodLink RL 75 yX7_done ∈ WG := wg3 (List.mem_of_getElem? (i := 232) rfl) rfl
theorem m3_233 : Cond.instanceMethod yX7_done ∈ WG := wg3 (List.mem_of_getElem? (i := 233) rfl) rfl
theorem m3_234 : Cond.selects RX7 yX7_done yX7_done ∈ WG := wg3 (List.mem_of_getElem? (i := 234) rfl) rfl
theorem m3_235 : Cond.code yX7_done cX7_done 1 (some .int) ∈ WG := wg3 (List.mem_of_getElem? (i := 235) rfl) rfl
theorem m3_236 : Cond.methodLink RL 78 yX7_set ∈ WG := wg3 (List.mem_of_getElem? (i := 236) rfl) rfl
theorem m3_237 : Cond.instanceMethod yX7_set ∈ WG := wg3 (List.mem_of_getElem? (i := 237) rfl) rfl
theorem m3_238 : Cond.selects RX7 yX7_set yX7_set ∈ WG := wg3 (List.mem_of_getElem? (i := 238) rfl) rfl
theorem m3_239 : Cond.code yX7_set cX7_set 3 (some .int) ∈ WG := wg3 (List.mem_of_getElem? (i := 239) rfl) rfl
theorem m4_0 : Cond.methodLink RX7 94 yX4_codeOfSet ∈ WG := wg4 (List.mem_of_getElem? (i := 0) rfl) rfl
theorem m4_1 : Cond.static yX4_codeOfSet ∈ WG := wg4 (List.mem_of_getElem? (i := 1) rfl) rfl
theorem m4_2 : Cond.code yX4_codeOfSet cX4_codeOfSet 2 (some .int) ∈ WG := wg4 (List.mem_of_getElem? (i := 2) rfl) rfl
theorem m4_3 : Cond.methodLink RX4 15 yX4_codeOfWhen ∈ WG := wg4 (List.mem_of_getElem? (i := 3) rfl) rfl
theorem m4_4 : Cond.methodLink RL 81 yX7_unfinished ∈ WG := wg4 (List.mem_of_getElem? (i := 4) rfl) rfl
theorem m4_5 : Cond.instanceMethod yX7_unfinished ∈ WG := wg4 (List.mem_of_getElem? (i := 5) rfl) rfl
theorem m4_6 : Cond.selects RX7 yX7_unfinished yX7_unfinished ∈ WG := wg4 (List.mem_of_getElem? (i := 6) rfl) rfl
theorem m4_7 : Cond.code yX7_unfinished cX7_unfinished 1 (some .int) ∈ WG := wg4 (List.mem_of_getElem? (i := 7) rfl) rfl
theorem m4_8 : Cond.methodLink RL 84 yX7_size ∈ WG := wg4 (List.mem_of_getElem? (i := 8) rfl) rfl
theorem m4_9 : Cond.instanceMethod yX7_size ∈ WG := wg4 (List.mem_of_getElem? (i := 9) rfl) rfl
theorem m4_10 : Cond.selects RX7 yX7_size yX7_size ∈ WG := wg4 (List.mem_of_getElem? (i := 10) rfl) rfl
theorem m4_11 : Cond.code yX7_size cX7_size 1 (some .int) ∈ WG := wg4 (List.mem_of_getElem? (i := 11) rfl) rfl
theorem m4_12 : Cond.methodLink RL 128 yJ6_bitCount_0f7a4 ∈ WG := wg4 (List.mem_of_getElem? (i := 12) rfl) rfl
theorem m4_13 : Cond.static yJ6_bitCount_0f7a4 ∈ WG := wg4 (List.mem_of_getElem? (i := 13) rfl) rfl
theorem m4_14 : Cond.code yJ6_bitCount_0f7a4 cJ6_bitCount_0f7a4 1 (some .int) ∈ WG := wg4 (List.mem_of_getElem? (i := 14) rfl) rfl
theorem m4_15 : Cond.constant RJ6 265 (1431655765) ∈ WG := wg4 (List.mem_of_getElem? (i := 15) rfl) rfl
theorem m4_16 : Cond.constant RJ6 266 (858993459) ∈ WG := wg4 (List.mem_of_getElem? (i := 16) rfl) rfl
theorem m4_17 : Cond.constant RJ6 267 (252645135) ∈ WG := wg4 (List.mem_of_getElem? (i := 17) rfl) rfl
theorem m4_18 : Cond.constantDouble RL 140 (4625196817309499392 : UInt64) ∈ WG := wg4 (List.mem_of_getElem? (i := 18) rfl) rfl
theorem m4_32 : Cond.fieldLink RJ0 9 "java/lang/String" "value" "[B" ∈ WG := wg4 (List.mem_of_getElem? (i := 32) rfl) rfl
theorem m4_33 : Cond.fieldLink RJ0 15 "java/lang/String" "coder" "B" ∈ WG := wg4 (List.mem_of_getElem? (i := 33) rfl) rfl
theorem mp1_0 : Cond.selects "java/lang/Throwable" ⟨"java/lang/Throwable", "fillInStackTrace", "(I)Ljava/lang/Throwable;"⟩ ⟨"java/lang/Throwable", "fillInStackTrace", "(I)Ljava/lang/Throwable;"⟩ ∈ WG := wgp1 (List.mem_of_getElem? (i := 0) rfl)
theorem mp1_1 : Cond.selects RX7 yX7_append yX7_append ∈ WG := wgp1 (List.mem_of_getElem? (i := 1) rfl)
theorem mp1_2 : Cond.selects RX7 yX7_checkItem yX7_checkItem ∈ WG := wgp1 (List.mem_of_getElem? (i := 2) rfl)
theorem mp1_3 : Cond.selects RX7 yX7_refresh yX7_refresh ∈ WG := wgp1 (List.mem_of_getElem? (i := 3) rfl)
theorem mp1_4 : Cond.selects RX6 yX6_step yX6_step ∈ WG := wgp1 (List.mem_of_getElem? (i := 4) rfl)
theorem mp1_5 : Cond.selects RX6 yX6_enter yX6_enter ∈ WG := wgp1 (List.mem_of_getElem? (i := 5) rfl)
theorem mp1_6 : Cond.selects RX6 yX6_turn yX6_turn ∈ WG := wgp1 (List.mem_of_getElem? (i := 6) rfl)
theorem mp1_7 : Cond.selects RX7 yX7_collectVariants yX7_collectVariants ∈ WG := wgp1 (List.mem_of_getElem? (i := 7) rfl)
theorem mp1_8 : Cond.selects RX7 yX7_readAll yX7_readAll ∈ WG := wgp1 (List.mem_of_getElem? (i := 8) rfl)
theorem mp1_9 : Cond.selects RX1 yX1_push yX1_push ∈ WG := wgp1 (List.mem_of_getElem? (i := 9) rfl)
theorem mp1_10 : Cond.selects RX7 yX7_countGroups yX7_countGroups ∈ WG := wgp1 (List.mem_of_getElem? (i := 10) rfl)
theorem mp1_11 : Cond.selects RX7 yX7_isReadBy yX7_isReadBy ∈ WG := wgp1 (List.mem_of_getElem? (i := 11) rfl)
theorem mp1_12 : Cond.selects RX7 yX7_isFirstOfItsGroup yX7_isFirstOfItsGroup ∈ WG := wgp1 (List.mem_of_getElem? (i := 12) rfl)
theorem mp1_13 : Cond.selects RX1 yX1_replaceTop yX1_replaceTop ∈ WG := wgp1 (List.mem_of_getElem? (i := 13) rfl)
theorem mp1_14 : Cond.selects RX7 yX7_runAll yX7_runAll ∈ WG := wgp1 (List.mem_of_getElem? (i := 14) rfl)
theorem mp1_15 : Cond.selects RX3 yX3_runStatements yX3_runStatements ∈ WG := wgp1 (List.mem_of_getElem? (i := 15) rfl)
theorem mp2_0 : Cond.selects RX3 yX3_peek yX3_peek ∈ WG := wgp2 (List.mem_of_getElem? (i := 0) rfl)
theorem mp2_1 : Cond.selects RX3 yX3_runStatement yX3_runStatement ∈ WG := wgp2 (List.mem_of_getElem? (i := 1) rfl)
theorem mp2_2 : Cond.selects RX3 yX3_advance yX3_advance ∈ WG := wgp2 (List.mem_of_getElem? (i := 2) rfl)
theorem mp2_3 : Cond.selects RX3 yX3_runChoice yX3_runChoice ∈ WG := wgp2 (List.mem_of_getElem? (i := 3) rfl)
theorem mp2_4 : Cond.selects RX3 yX3_sum yX3_sum ∈ WG := wgp2 (List.mem_of_getElem? (i := 4) rfl)
theorem mp2_5 : Cond.selects RX3 yX3_product yX3_product ∈ WG := wgp2 (List.mem_of_getElem? (i := 5) rfl)
theorem mp2_6 : Cond.selects RX3 yX3_factor yX3_factor ∈ WG := wgp2 (List.mem_of_getElem? (i := 6) rfl)
theorem mp2_7 : Cond.selects RX3 yX3_operand yX3_operand ∈ WG := wgp2 (List.mem_of_getElem? (i := 7) rfl)
theorem mp2_8 : Cond.selects RX3 yX3_put yX3_put ∈ WG := wgp2 (List.mem_of_getElem? (i := 8) rfl)
theorem mp2_9 : Cond.selects RX3 yX3_assign yX3_assign ∈ WG := wgp2 (List.mem_of_getElem? (i := 9) rfl)
theorem mp2_10 : Cond.selects RX7 yX7_checkConfiguration yX7_checkConfiguration ∈ WG := wgp2 (List.mem_of_getElem? (i := 10) rfl)
theorem mp2_11 : Cond.selects RX7 yX7_checkIndex yX7_checkIndex ∈ WG := wgp2 (List.mem_of_getElem? (i := 11) rfl)
theorem mp2_12 : Cond.selects RX7 yX7_isFirstOfItsText yX7_isFirstOfItsText ∈ WG := wgp2 (List.mem_of_getElem? (i := 12) rfl)
theorem mp2_13 : Cond.selects RX7 yX7_checkFinished yX7_checkFinished ∈ WG := wgp2 (List.mem_of_getElem? (i := 13) rfl)
theorem mp2_14 : Cond.selects RX7 yX7_sumOfGroups yX7_sumOfGroups ∈ WG := wgp2 (List.mem_of_getElem? (i := 14) rfl)
theorem mp2_15 : Cond.selects RX7 yX7_checkNoError yX7_checkNoError ∈ WG := wgp2 (List.mem_of_getElem? (i := 15) rfl)
theorem mp3_0 : Cond.selects RX7 yX7_isFirstOfItsBehaviour yX7_isFirstOfItsBehaviour ∈ WG := wgp3 (List.mem_of_getElem? (i := 0) rfl)
theorem mp3_1 : Cond.selects RX7 yX7_checkFeature yX7_checkFeature ∈ WG := wgp3 (List.mem_of_getElem? (i := 1) rfl)
theorem mp3_2 : Cond.selects RX7 yX7_checkRoom yX7_checkRoom ∈ WG := wgp3 (List.mem_of_getElem? (i := 2) rfl)
theorem mp3_3 : Cond.selects RX7 yX7_checkUnfinished yX7_checkUnfinished ∈ WG := wgp3 (List.mem_of_getElem? (i := 3) rfl)
theorem gwV {w0 : Cond} {own C : String} {idx : Nat} {y : MethodName} {cc : ByteArray} {mL : Nat} {ret : Option FieldType} (h1 : Cond.methodLink own idx y ∈ WG) (h2 : Cond.instanceMethod y ∈ WG) (h3 : Cond.selects C y y ∈ WG) (h4 : Cond.initialized C ∈ WG) (h5 : Cond.code y cc mL ret ∈ WG) : GoodIn (w0 :: WG) (wsV own idx C y (Cond.code y cc mL ret :: WG)) := by
  intro w hw
  have key : w ∈ WG := by
    simp only [wsV, List.mem_append, List.mem_cons, List.not_mem_nil, or_false] at hw
    rcases hw with (rfl | rfl | rfl | rfl) | rfl | h
    · exact h1
    · exact h2
    · exact h3
    · exact h4
    · exact h5
    · exact h
  exact ⟨List.mem_cons_of_mem _ key, WG_good key⟩
theorem gwS {w0 : Cond} {own : String} {idx : Nat} {y : MethodName} {cc : ByteArray} {mL : Nat} {ret : Option FieldType} (h1 : Cond.methodLink own idx y ∈ WG) (h2 : Cond.static y ∈ WG) (h4 : Cond.initialized y.cls ∈ WG) (h5 : Cond.code y cc mL ret ∈ WG) : GoodIn (w0 :: WG) (va_wsS own idx y (Cond.code y cc mL ret :: WG)) := by
  intro w hw
  have key : w ∈ WG := by
    simp only [va_wsS, List.mem_append, List.mem_cons, List.not_mem_nil, or_false] at hw
    rcases hw with (rfl | rfl | rfl) | rfl | h
    · exact h1
    · exact h2
    · exact h4
    · exact h5
    · exact h
  exact ⟨List.mem_cons_of_mem _ key, WG_good key⟩
theorem in_RX1 {w0 : Cond} : ∀ w ∈ u_ws RX1 TX1 5, w ∈ w0 :: WG := by
  intro w hw
  obtain ⟨k, hk, rfl⟩ := List.mem_map.mp hw
  have hk := List.mem_range.mp hk
  refine List.mem_cons_of_mem _ ?_
  match k, hk with
  | 0, _ => exact m1_99
  | 1, _ => exact m1_101
  | 2, _ => exact m1_103
  | 3, _ => exact m1_105
  | 4, _ => exact m1_107
  | k + 5, h => exact absurd h (by omega)
theorem in_RX3 {w0 : Cond} : ∀ w ∈ u_ws RX3 TX3 6, w ∈ w0 :: WG := by
  intro w hw
  obtain ⟨k, hk, rfl⟩ := List.mem_map.mp hw
  have hk := List.mem_range.mp hk
  refine List.mem_cons_of_mem _ ?_
  match k, hk with
  | 0, _ => exact m1_125
  | 1, _ => exact m1_127
  | 2, _ => exact m1_129
  | 3, _ => exact m1_131
  | 4, _ => exact m1_133
  | 5, _ => exact m1_135
  | k + 6, h => exact absurd h (by omega)
theorem in_RX4 {w0 : Cond} : ∀ w ∈ u_ws RX4 TX4 2, w ∈ w0 :: WG := by
  intro w hw
  obtain ⟨k, hk, rfl⟩ := List.mem_map.mp hw
  have hk := List.mem_range.mp hk
  refine List.mem_cons_of_mem _ ?_
  match k, hk with
  | 0, _ => exact m1_42
  | 1, _ => exact m1_44
  | k + 2, h => exact absurd h (by omega)
theorem in_RX5 {w0 : Cond} : ∀ w ∈ u_ws RX5 TX5 5, w ∈ w0 :: WG := by
  intro w hw
  obtain ⟨k, hk, rfl⟩ := List.mem_map.mp hw
  have hk := List.mem_range.mp hk
  refine List.mem_cons_of_mem _ ?_
  match k, hk with
  | 0, _ => exact m1_148
  | 1, _ => exact m1_150
  | 2, _ => exact m1_152
  | 3, _ => exact m1_154
  | 4, _ => exact m1_156
  | k + 5, h => exact absurd h (by omega)
theorem in_RX6 {w0 : Cond} : ∀ w ∈ u_ws RX6 TX6 7, w ∈ w0 :: WG := by
  intro w hw
  obtain ⟨k, hk, rfl⟩ := List.mem_map.mp hw
  have hk := List.mem_range.mp hk
  refine List.mem_cons_of_mem _ ?_
  match k, hk with
  | 0, _ => exact m1_64
  | 1, _ => exact m1_66
  | 2, _ => exact m1_68
  | 3, _ => exact m1_70
  | 4, _ => exact m1_72
  | 5, _ => exact m1_74
  | 6, _ => exact m1_76
  | k + 7, h => exact absurd h (by omega)
theorem in_RX7 {w0 : Cond} : ∀ w ∈ u_ws RX7 TX7 5, w ∈ w0 :: WG := by
  intro w hw
  obtain ⟨k, hk, rfl⟩ := List.mem_map.mp hw
  have hk := List.mem_range.mp hk
  refine List.mem_cons_of_mem _ ?_
  match k, hk with
  | 0, _ => exact m1_164
  | 1, _ => exact m1_166
  | 2, _ => exact m1_168
  | 3, _ => exact m1_170
  | 4, _ => exact m1_172
  | k + 5, h => exact absurd h (by omega)
