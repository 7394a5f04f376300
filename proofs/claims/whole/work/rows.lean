section
-- ===== PART A: goes FIRST, ahead of the names: the tables' words, and 'selects' of the private methods out of them =====
/-- a private method of a class that the tables say can be made, by its rows of tables_1 -/
def lw_okq (q : MethodName × Nat) : Prop := (q.1.cls ≠ "java/lang/invoke/MethodHandle" ∧ q.1.cls ≠ "java/lang/invoke/VarHandle") ∧ Cond.instantiable q.1.cls q.2 ∈ tables_1 ∧ Cond.privateMethod q.1 ∈ tables_1 ∧ Cond.instanceMethod q.1 ∈ tables_1
theorem lw_p0 : lw_okq (⟨"VariantParser", "refresh", "()V"⟩, 5) := ⟨⟨by decide +kernel, by decide +kernel⟩, List.mem_of_getElem? (i := 24) (by decide +kernel), List.mem_of_getElem? (i := 197) (by decide +kernel), List.mem_of_getElem? (i := 198) (by decide +kernel)⟩
theorem lw_p1 : lw_okq (⟨"VariantParser$Walk", "step", "(II)V"⟩, 7) := ⟨⟨by decide +kernel, by decide +kernel⟩, List.mem_of_getElem? (i := 50) (by decide +kernel), List.mem_of_getElem? (i := 208) (by decide +kernel), List.mem_of_getElem? (i := 209) (by decide +kernel)⟩
theorem lw_p2 : lw_okq (⟨"VariantParser$Walk", "enter", "(I)V"⟩, 7) := ⟨⟨by decide +kernel, by decide +kernel⟩, List.mem_of_getElem? (i := 50) (by decide +kernel), List.mem_of_getElem? (i := 213) (by decide +kernel), List.mem_of_getElem? (i := 214) (by decide +kernel)⟩
theorem lw_p3 : lw_okq (⟨"VariantParser$Walk", "turn", "(I)V"⟩, 7) := ⟨⟨by decide +kernel, by decide +kernel⟩, List.mem_of_getElem? (i := 50) (by decide +kernel), List.mem_of_getElem? (i := 226) (by decide +kernel), List.mem_of_getElem? (i := 227) (by decide +kernel)⟩
theorem lw_p4 : lw_okq (⟨"VariantParser", "collectVariants", "()V"⟩, 5) := ⟨⟨by decide +kernel, by decide +kernel⟩, List.mem_of_getElem? (i := 24) (by decide +kernel), List.mem_of_getElem? (i := 230) (by decide +kernel), List.mem_of_getElem? (i := 231) (by decide +kernel)⟩
theorem lw_p5 : lw_okq (⟨"VariantParser", "readAll", "()V"⟩, 5) := ⟨⟨by decide +kernel, by decide +kernel⟩, List.mem_of_getElem? (i := 24) (by decide +kernel), List.mem_of_getElem? (i := 251) (by decide +kernel), List.mem_of_getElem? (i := 252) (by decide +kernel)⟩
theorem lw_p6 : lw_okq (⟨"VariantParser$Reading", "push", "(I)V"⟩, 5) := ⟨⟨by decide +kernel, by decide +kernel⟩, List.mem_of_getElem? (i := 89) (by decide +kernel), List.mem_of_getElem? (i := 259) (by decide +kernel), List.mem_of_getElem? (i := 260) (by decide +kernel)⟩
theorem lw_p7 : lw_okq (⟨"VariantParser", "countGroups", "(I)I"⟩, 5) := ⟨⟨by decide +kernel, by decide +kernel⟩, List.mem_of_getElem? (i := 24) (by decide +kernel), List.mem_of_getElem? (i := 263) (by decide +kernel), List.mem_of_getElem? (i := 264) (by decide +kernel)⟩
theorem lw_p8 : lw_okq (⟨"VariantParser", "isReadBy", "(II)Z"⟩, 5) := ⟨⟨by decide +kernel, by decide +kernel⟩, List.mem_of_getElem? (i := 24) (by decide +kernel), List.mem_of_getElem? (i := 267) (by decide +kernel), List.mem_of_getElem? (i := 268) (by decide +kernel)⟩
theorem lw_p9 : lw_okq (⟨"VariantParser", "isFirstOfItsGroup", "(II)Z"⟩, 5) := ⟨⟨by decide +kernel, by decide +kernel⟩, List.mem_of_getElem? (i := 24) (by decide +kernel), List.mem_of_getElem? (i := 271) (by decide +kernel), List.mem_of_getElem? (i := 272) (by decide +kernel)⟩
theorem lw_p10 : lw_okq (⟨"VariantParser$Reading", "replaceTop", "(I)V"⟩, 5) := ⟨⟨by decide +kernel, by decide +kernel⟩, List.mem_of_getElem? (i := 89) (by decide +kernel), List.mem_of_getElem? (i := 289) (by decide +kernel), List.mem_of_getElem? (i := 290) (by decide +kernel)⟩
theorem lw_p11 : lw_okq (⟨"VariantParser", "runAll", "()V"⟩, 5) := ⟨⟨by decide +kernel, by decide +kernel⟩, List.mem_of_getElem? (i := 24) (by decide +kernel), List.mem_of_getElem? (i := 369) (by decide +kernel), List.mem_of_getElem? (i := 370) (by decide +kernel)⟩
theorem lw_p12 : lw_okq (⟨"VariantParser$Run", "runStatements", "(ZI)V"⟩, 6) := ⟨⟨by decide +kernel, by decide +kernel⟩, List.mem_of_getElem? (i := 113) (by decide +kernel), List.mem_of_getElem? (i := 378) (by decide +kernel), List.mem_of_getElem? (i := 379) (by decide +kernel)⟩
theorem lw_p13 : lw_okq (⟨"VariantParser$Run", "peek", "()I"⟩, 6) := ⟨⟨by decide +kernel, by decide +kernel⟩, List.mem_of_getElem? (i := 113) (by decide +kernel), List.mem_of_getElem? (i := 382) (by decide +kernel), List.mem_of_getElem? (i := 383) (by decide +kernel)⟩
theorem lw_p14 : lw_okq (⟨"VariantParser$Run", "runStatement", "(ZI)V"⟩, 6) := ⟨⟨by decide +kernel, by decide +kernel⟩, List.mem_of_getElem? (i := 113) (by decide +kernel), List.mem_of_getElem? (i := 387) (by decide +kernel), List.mem_of_getElem? (i := 388) (by decide +kernel)⟩
theorem lw_p15 : lw_okq (⟨"VariantParser$Run", "advance", "()I"⟩, 6) := ⟨⟨by decide +kernel, by decide +kernel⟩, List.mem_of_getElem? (i := 113) (by decide +kernel), List.mem_of_getElem? (i := 391) (by decide +kernel), List.mem_of_getElem? (i := 392) (by decide +kernel)⟩
def lw_privs_1 : List (MethodName × Nat) := [(⟨"VariantParser", "refresh", "()V"⟩, 5), (⟨"VariantParser$Walk", "step", "(II)V"⟩, 7), (⟨"VariantParser$Walk", "enter", "(I)V"⟩, 7), (⟨"VariantParser$Walk", "turn", "(I)V"⟩, 7), (⟨"VariantParser", "collectVariants", "()V"⟩, 5), (⟨"VariantParser", "readAll", "()V"⟩, 5), (⟨"VariantParser$Reading", "push", "(I)V"⟩, 5), (⟨"VariantParser", "countGroups", "(I)I"⟩, 5), (⟨"VariantParser", "isReadBy", "(II)Z"⟩, 5), (⟨"VariantParser", "isFirstOfItsGroup", "(II)Z"⟩, 5), (⟨"VariantParser$Reading", "replaceTop", "(I)V"⟩, 5), (⟨"VariantParser", "runAll", "()V"⟩, 5), (⟨"VariantParser$Run", "runStatements", "(ZI)V"⟩, 6), (⟨"VariantParser$Run", "peek", "()I"⟩, 6), (⟨"VariantParser$Run", "runStatement", "(ZI)V"⟩, 6), (⟨"VariantParser$Run", "advance", "()I"⟩, 6)]
theorem lw_r1 : ∀ q ∈ lw_privs_1, lw_okq q := List.forall_mem_cons.mpr ⟨lw_p0, List.forall_mem_cons.mpr ⟨lw_p1, List.forall_mem_cons.mpr ⟨lw_p2, List.forall_mem_cons.mpr ⟨lw_p3, List.forall_mem_cons.mpr ⟨lw_p4, List.forall_mem_cons.mpr ⟨lw_p5, List.forall_mem_cons.mpr ⟨lw_p6, List.forall_mem_cons.mpr ⟨lw_p7, List.forall_mem_cons.mpr ⟨lw_p8, List.forall_mem_cons.mpr ⟨lw_p9, List.forall_mem_cons.mpr ⟨lw_p10, List.forall_mem_cons.mpr ⟨lw_p11, List.forall_mem_cons.mpr ⟨lw_p12, List.forall_mem_cons.mpr ⟨lw_p13, List.forall_mem_cons.mpr ⟨lw_p14, List.forall_mem_cons.mpr ⟨lw_p15, fun _ h => absurd h List.not_mem_nil⟩⟩⟩⟩⟩⟩⟩⟩⟩⟩⟩⟩⟩⟩⟩⟩
theorem lw_p16 : lw_okq (⟨"VariantParser$Run", "runChoice", "(ZI)V"⟩, 6) := ⟨⟨by decide +kernel, by decide +kernel⟩, List.mem_of_getElem? (i := 113) (by decide +kernel), List.mem_of_getElem? (i := 395) (by decide +kernel), List.mem_of_getElem? (i := 396) (by decide +kernel)⟩
theorem lw_p17 : lw_okq (⟨"VariantParser$Run", "sum", "(I)I"⟩, 6) := ⟨⟨by decide +kernel, by decide +kernel⟩, List.mem_of_getElem? (i := 113) (by decide +kernel), List.mem_of_getElem? (i := 399) (by decide +kernel), List.mem_of_getElem? (i := 400) (by decide +kernel)⟩
theorem lw_p18 : lw_okq (⟨"VariantParser$Run", "product", "(I)I"⟩, 6) := ⟨⟨by decide +kernel, by decide +kernel⟩, List.mem_of_getElem? (i := 113) (by decide +kernel), List.mem_of_getElem? (i := 403) (by decide +kernel), List.mem_of_getElem? (i := 404) (by decide +kernel)⟩
theorem lw_p19 : lw_okq (⟨"VariantParser$Run", "factor", "(I)I"⟩, 6) := ⟨⟨by decide +kernel, by decide +kernel⟩, List.mem_of_getElem? (i := 113) (by decide +kernel), List.mem_of_getElem? (i := 407) (by decide +kernel), List.mem_of_getElem? (i := 408) (by decide +kernel)⟩
theorem lw_p20 : lw_okq (⟨"VariantParser$Run", "operand", "(I)I"⟩, 6) := ⟨⟨by decide +kernel, by decide +kernel⟩, List.mem_of_getElem? (i := 113) (by decide +kernel), List.mem_of_getElem? (i := 411) (by decide +kernel), List.mem_of_getElem? (i := 412) (by decide +kernel)⟩
theorem lw_p21 : lw_okq (⟨"VariantParser$Run", "put", "(I)V"⟩, 6) := ⟨⟨by decide +kernel, by decide +kernel⟩, List.mem_of_getElem? (i := 113) (by decide +kernel), List.mem_of_getElem? (i := 417) (by decide +kernel), List.mem_of_getElem? (i := 418) (by decide +kernel)⟩
theorem lw_p22 : lw_okq (⟨"VariantParser$Run", "assign", "(II)V"⟩, 6) := ⟨⟨by decide +kernel, by decide +kernel⟩, List.mem_of_getElem? (i := 113) (by decide +kernel), List.mem_of_getElem? (i := 421) (by decide +kernel), List.mem_of_getElem? (i := 422) (by decide +kernel)⟩
theorem lw_p23 : lw_okq (⟨"VariantParser", "isFirstOfItsText", "(I)Z"⟩, 5) := ⟨⟨by decide +kernel, by decide +kernel⟩, List.mem_of_getElem? (i := 24) (by decide +kernel), List.mem_of_getElem? (i := 430) (by decide +kernel), List.mem_of_getElem? (i := 431) (by decide +kernel)⟩
theorem lw_p24 : lw_okq (⟨"java/lang/Throwable", "fillInStackTrace", "(I)Ljava/lang/Throwable;"⟩, 6) := ⟨⟨by decide +kernel, by decide +kernel⟩, List.mem_of_getElem? (i := 502) (by decide +kernel), List.mem_of_getElem? (i := 500) (by decide +kernel), List.mem_of_getElem? (i := 501) (by decide +kernel)⟩
theorem lw_p25 : lw_okq (⟨"VariantParser", "append", "(I)I"⟩, 5) := ⟨⟨by decide +kernel, by decide +kernel⟩, List.mem_of_getElem? (i := 24) (by decide +kernel), List.mem_of_getElem? (i := 547) (by decide +kernel), List.mem_of_getElem? (i := 548) (by decide +kernel)⟩
theorem lw_p26 : lw_okq (⟨"VariantParser", "checkFeature", "(I)V"⟩, 5) := ⟨⟨by decide +kernel, by decide +kernel⟩, List.mem_of_getElem? (i := 24) (by decide +kernel), List.mem_of_getElem? (i := 563) (by decide +kernel), List.mem_of_getElem? (i := 564) (by decide +kernel)⟩
theorem lw_p27 : lw_okq (⟨"VariantParser", "checkRoom", "()V"⟩, 5) := ⟨⟨by decide +kernel, by decide +kernel⟩, List.mem_of_getElem? (i := 24) (by decide +kernel), List.mem_of_getElem? (i := 583) (by decide +kernel), List.mem_of_getElem? (i := 584) (by decide +kernel)⟩
theorem lw_p28 : lw_okq (⟨"VariantParser", "checkUnfinished", "()V"⟩, 5) := ⟨⟨by decide +kernel, by decide +kernel⟩, List.mem_of_getElem? (i := 24) (by decide +kernel), List.mem_of_getElem? (i := 598) (by decide +kernel), List.mem_of_getElem? (i := 599) (by decide +kernel)⟩
theorem lw_p29 : lw_okq (⟨"VariantParser", "checkItem", "(I)V"⟩, 5) := ⟨⟨by decide +kernel, by decide +kernel⟩, List.mem_of_getElem? (i := 24) (by decide +kernel), List.mem_of_getElem? (i := 645) (by decide +kernel), List.mem_of_getElem? (i := 646) (by decide +kernel)⟩
theorem lw_p30 : lw_okq (⟨"VariantParser", "checkConfiguration", "(I)V"⟩, 5) := ⟨⟨by decide +kernel, by decide +kernel⟩, List.mem_of_getElem? (i := 24) (by decide +kernel), List.mem_of_getElem? (i := 692) (by decide +kernel), List.mem_of_getElem? (i := 693) (by decide +kernel)⟩
theorem lw_p31 : lw_okq (⟨"VariantParser", "checkIndex", "(II)V"⟩, 5) := ⟨⟨by decide +kernel, by decide +kernel⟩, List.mem_of_getElem? (i := 24) (by decide +kernel), List.mem_of_getElem? (i := 704) (by decide +kernel), List.mem_of_getElem? (i := 705) (by decide +kernel)⟩
def lw_privs_2 : List (MethodName × Nat) := [(⟨"VariantParser$Run", "runChoice", "(ZI)V"⟩, 6), (⟨"VariantParser$Run", "sum", "(I)I"⟩, 6), (⟨"VariantParser$Run", "product", "(I)I"⟩, 6), (⟨"VariantParser$Run", "factor", "(I)I"⟩, 6), (⟨"VariantParser$Run", "operand", "(I)I"⟩, 6), (⟨"VariantParser$Run", "put", "(I)V"⟩, 6), (⟨"VariantParser$Run", "assign", "(II)V"⟩, 6), (⟨"VariantParser", "isFirstOfItsText", "(I)Z"⟩, 5), (⟨"java/lang/Throwable", "fillInStackTrace", "(I)Ljava/lang/Throwable;"⟩, 6), (⟨"VariantParser", "append", "(I)I"⟩, 5), (⟨"VariantParser", "checkFeature", "(I)V"⟩, 5), (⟨"VariantParser", "checkRoom", "()V"⟩, 5), (⟨"VariantParser", "checkUnfinished", "()V"⟩, 5), (⟨"VariantParser", "checkItem", "(I)V"⟩, 5), (⟨"VariantParser", "checkConfiguration", "(I)V"⟩, 5), (⟨"VariantParser", "checkIndex", "(II)V"⟩, 5)]
theorem lw_r2 : ∀ q ∈ lw_privs_2, lw_okq q := List.forall_mem_cons.mpr ⟨lw_p16, List.forall_mem_cons.mpr ⟨lw_p17, List.forall_mem_cons.mpr ⟨lw_p18, List.forall_mem_cons.mpr ⟨lw_p19, List.forall_mem_cons.mpr ⟨lw_p20, List.forall_mem_cons.mpr ⟨lw_p21, List.forall_mem_cons.mpr ⟨lw_p22, List.forall_mem_cons.mpr ⟨lw_p23, List.forall_mem_cons.mpr ⟨lw_p24, List.forall_mem_cons.mpr ⟨lw_p25, List.forall_mem_cons.mpr ⟨lw_p26, List.forall_mem_cons.mpr ⟨lw_p27, List.forall_mem_cons.mpr ⟨lw_p28, List.forall_mem_cons.mpr ⟨lw_p29, List.forall_mem_cons.mpr ⟨lw_p30, List.forall_mem_cons.mpr ⟨lw_p31, fun _ h => absurd h List.not_mem_nil⟩⟩⟩⟩⟩⟩⟩⟩⟩⟩⟩⟩⟩⟩⟩⟩
theorem lw_p32 : lw_okq (⟨"VariantParser", "checkFinished", "()V"⟩, 5) := ⟨⟨by decide +kernel, by decide +kernel⟩, List.mem_of_getElem? (i := 24) (by decide +kernel), List.mem_of_getElem? (i := 716) (by decide +kernel), List.mem_of_getElem? (i := 717) (by decide +kernel)⟩
theorem lw_p33 : lw_okq (⟨"VariantParser", "sumOfGroups", "()I"⟩, 5) := ⟨⟨by decide +kernel, by decide +kernel⟩, List.mem_of_getElem? (i := 24) (by decide +kernel), List.mem_of_getElem? (i := 749) (by decide +kernel), List.mem_of_getElem? (i := 750) (by decide +kernel)⟩
theorem lw_p34 : lw_okq (⟨"VariantParser", "checkNoError", "(I)V"⟩, 5) := ⟨⟨by decide +kernel, by decide +kernel⟩, List.mem_of_getElem? (i := 24) (by decide +kernel), List.mem_of_getElem? (i := 779) (by decide +kernel), List.mem_of_getElem? (i := 780) (by decide +kernel)⟩
theorem lw_p35 : lw_okq (⟨"VariantParser", "isFirstOfItsBehaviour", "(I)Z"⟩, 5) := ⟨⟨by decide +kernel, by decide +kernel⟩, List.mem_of_getElem? (i := 24) (by decide +kernel), List.mem_of_getElem? (i := 822) (by decide +kernel), List.mem_of_getElem? (i := 823) (by decide +kernel)⟩
theorem lw_p36 : lw_okq (⟨"VariantParserModel", "no", "(I)I"⟩, 15) := ⟨⟨by decide +kernel, by decide +kernel⟩, List.mem_of_getElem? (i := 831) (by decide +kernel), List.mem_of_getElem? (i := 953) (by decide +kernel), List.mem_of_getElem? (i := 954) (by decide +kernel)⟩
theorem lw_p37 : lw_okq (⟨"VariantParserModel", "append", "(I)I"⟩, 15) := ⟨⟨by decide +kernel, by decide +kernel⟩, List.mem_of_getElem? (i := 831) (by decide +kernel), List.mem_of_getElem? (i := 957) (by decide +kernel), List.mem_of_getElem? (i := 958) (by decide +kernel)⟩
theorem lw_p38 : lw_okq (⟨"VariantParserModel", "openCount", "()I"⟩, 15) := ⟨⟨by decide +kernel, by decide +kernel⟩, List.mem_of_getElem? (i := 831) (by decide +kernel), List.mem_of_getElem? (i := 971) (by decide +kernel), List.mem_of_getElem? (i := 972) (by decide +kernel)⟩
theorem lw_p39 : lw_okq (⟨"VariantParserModel", "whenOf", "(I)I"⟩, 15) := ⟨⟨by decide +kernel, by decide +kernel⟩, List.mem_of_getElem? (i := 831) (by decide +kernel), List.mem_of_getElem? (i := 979) (by decide +kernel), List.mem_of_getElem? (i := 980) (by decide +kernel)⟩
theorem lw_p40 : lw_okq (⟨"VariantParserModel", "hasOtherwise", "(I)Z"⟩, 15) := ⟨⟨by decide +kernel, by decide +kernel⟩, List.mem_of_getElem? (i := 831) (by decide +kernel), List.mem_of_getElem? (i := 983) (by decide +kernel), List.mem_of_getElem? (i := 984) (by decide +kernel)⟩
theorem lw_p41 : lw_okq (⟨"VariantParserModel", "isItem", "(I)Z"⟩, 15) := ⟨⟨by decide +kernel, by decide +kernel⟩, List.mem_of_getElem? (i := 831) (by decide +kernel), List.mem_of_getElem? (i := 1003) (by decide +kernel), List.mem_of_getElem? (i := 1004) (by decide +kernel)⟩
theorem lw_p42 : lw_okq (⟨"VariantParserModel", "isToken", "(I)Z"⟩, 15) := ⟨⟨by decide +kernel, by decide +kernel⟩, List.mem_of_getElem? (i := 831) (by decide +kernel), List.mem_of_getElem? (i := 1007) (by decide +kernel), List.mem_of_getElem? (i := 1008) (by decide +kernel)⟩
theorem lw_p43 : lw_okq (⟨"VariantParserModel", "look", "()V"⟩, 15) := ⟨⟨by decide +kernel, by decide +kernel⟩, List.mem_of_getElem? (i := 831) (by decide +kernel), List.mem_of_getElem? (i := 1027) (by decide +kernel), List.mem_of_getElem? (i := 1028) (by decide +kernel)⟩
theorem lw_p44 : lw_okq (⟨"VariantParserModel", "lengthOf", "(I)I"⟩, 15) := ⟨⟨by decide +kernel, by decide +kernel⟩, List.mem_of_getElem? (i := 831) (by decide +kernel), List.mem_of_getElem? (i := 1054) (by decide +kernel), List.mem_of_getElem? (i := 1055) (by decide +kernel)⟩
theorem lw_p45 : lw_okq (⟨"VariantParserModel", "find", "(II)I"⟩, 15) := ⟨⟨by decide +kernel, by decide +kernel⟩, List.mem_of_getElem? (i := 831) (by decide +kernel), List.mem_of_getElem? (i := 1062) (by decide +kernel), List.mem_of_getElem? (i := 1063) (by decide +kernel)⟩
theorem lw_p46 : lw_okq (⟨"VariantParserModel", "areSame", "(II)Z"⟩, 15) := ⟨⟨by decide +kernel, by decide +kernel⟩, List.mem_of_getElem? (i := 831) (by decide +kernel), List.mem_of_getElem? (i := 1070) (by decide +kernel), List.mem_of_getElem? (i := 1071) (by decide +kernel)⟩
theorem lw_p47 : lw_okq (⟨"VariantParserModel", "isWhole", "()Z"⟩, 15) := ⟨⟨by decide +kernel, by decide +kernel⟩, List.mem_of_getElem? (i := 831) (by decide +kernel), List.mem_of_getElem? (i := 1078) (by decide +kernel), List.mem_of_getElem? (i := 1079) (by decide +kernel)⟩
def lw_privs_3 : List (MethodName × Nat) := [(⟨"VariantParser", "checkFinished", "()V"⟩, 5), (⟨"VariantParser", "sumOfGroups", "()I"⟩, 5), (⟨"VariantParser", "checkNoError", "(I)V"⟩, 5), (⟨"VariantParser", "isFirstOfItsBehaviour", "(I)Z"⟩, 5), (⟨"VariantParserModel", "no", "(I)I"⟩, 15), (⟨"VariantParserModel", "append", "(I)I"⟩, 15), (⟨"VariantParserModel", "openCount", "()I"⟩, 15), (⟨"VariantParserModel", "whenOf", "(I)I"⟩, 15), (⟨"VariantParserModel", "hasOtherwise", "(I)Z"⟩, 15), (⟨"VariantParserModel", "isItem", "(I)Z"⟩, 15), (⟨"VariantParserModel", "isToken", "(I)Z"⟩, 15), (⟨"VariantParserModel", "look", "()V"⟩, 15), (⟨"VariantParserModel", "lengthOf", "(I)I"⟩, 15), (⟨"VariantParserModel", "find", "(II)I"⟩, 15), (⟨"VariantParserModel", "areSame", "(II)Z"⟩, 15), (⟨"VariantParserModel", "isWhole", "()Z"⟩, 15)]
theorem lw_r3 : ∀ q ∈ lw_privs_3, lw_okq q := List.forall_mem_cons.mpr ⟨lw_p32, List.forall_mem_cons.mpr ⟨lw_p33, List.forall_mem_cons.mpr ⟨lw_p34, List.forall_mem_cons.mpr ⟨lw_p35, List.forall_mem_cons.mpr ⟨lw_p36, List.forall_mem_cons.mpr ⟨lw_p37, List.forall_mem_cons.mpr ⟨lw_p38, List.forall_mem_cons.mpr ⟨lw_p39, List.forall_mem_cons.mpr ⟨lw_p40, List.forall_mem_cons.mpr ⟨lw_p41, List.forall_mem_cons.mpr ⟨lw_p42, List.forall_mem_cons.mpr ⟨lw_p43, List.forall_mem_cons.mpr ⟨lw_p44, List.forall_mem_cons.mpr ⟨lw_p45, List.forall_mem_cons.mpr ⟨lw_p46, List.forall_mem_cons.mpr ⟨lw_p47, fun _ h => absurd h List.not_mem_nil⟩⟩⟩⟩⟩⟩⟩⟩⟩⟩⟩⟩⟩⟩⟩⟩
theorem lw_p48 : lw_okq (⟨"VariantParserModel", "read", "()V"⟩, 15) := ⟨⟨by decide +kernel, by decide +kernel⟩, List.mem_of_getElem? (i := 831) (by decide +kernel), List.mem_of_getElem? (i := 1082) (by decide +kernel), List.mem_of_getElem? (i := 1083) (by decide +kernel)⟩
theorem lw_p49 : lw_okq (⟨"VariantParserModel", "push", "(II)V"⟩, 15) := ⟨⟨by decide +kernel, by decide +kernel⟩, List.mem_of_getElem? (i := 831) (by decide +kernel), List.mem_of_getElem? (i := 1086) (by decide +kernel), List.mem_of_getElem? (i := 1087) (by decide +kernel)⟩
theorem lw_p50 : lw_okq (⟨"VariantParserModel", "countGroups", "(I)I"⟩, 15) := ⟨⟨by decide +kernel, by decide +kernel⟩, List.mem_of_getElem? (i := 831) (by decide +kernel), List.mem_of_getElem? (i := 1090) (by decide +kernel), List.mem_of_getElem? (i := 1091) (by decide +kernel)⟩
theorem lw_p51 : lw_okq (⟨"VariantParserModel", "areLike", "(II)Z"⟩, 15) := ⟨⟨by decide +kernel, by decide +kernel⟩, List.mem_of_getElem? (i := 831) (by decide +kernel), List.mem_of_getElem? (i := 1094) (by decide +kernel), List.mem_of_getElem? (i := 1095) (by decide +kernel)⟩
theorem lw_p52 : lw_okq (⟨"VariantParserModel", "readOne", "(II)Z"⟩, 15) := ⟨⟨by decide +kernel, by decide +kernel⟩, List.mem_of_getElem? (i := 831) (by decide +kernel), List.mem_of_getElem? (i := 1098) (by decide +kernel), List.mem_of_getElem? (i := 1099) (by decide +kernel)⟩
theorem lw_p53 : lw_okq (⟨"VariantParserModel", "expand", "(II)Z"⟩, 15) := ⟨⟨by decide +kernel, by decide +kernel⟩, List.mem_of_getElem? (i := 831) (by decide +kernel), List.mem_of_getElem? (i := 1102) (by decide +kernel), List.mem_of_getElem? (i := 1103) (by decide +kernel)⟩
theorem lw_p54 : lw_okq (⟨"VariantParserModel", "expandStatement", "(II)Z"⟩, 15) := ⟨⟨by decide +kernel, by decide +kernel⟩, List.mem_of_getElem? (i := 831) (by decide +kernel), List.mem_of_getElem? (i := 1112) (by decide +kernel), List.mem_of_getElem? (i := 1113) (by decide +kernel)⟩
theorem lw_p55 : lw_okq (⟨"VariantParserModel", "expandFactor", "(II)Z"⟩, 15) := ⟨⟨by decide +kernel, by decide +kernel⟩, List.mem_of_getElem? (i := 831) (by decide +kernel), List.mem_of_getElem? (i := 1116) (by decide +kernel), List.mem_of_getElem? (i := 1117) (by decide +kernel)⟩
theorem lw_p56 : lw_okq (⟨"VariantParserModel", "sumOfGroups", "()I"⟩, 15) := ⟨⟨by decide +kernel, by decide +kernel⟩, List.mem_of_getElem? (i := 831) (by decide +kernel), List.mem_of_getElem? (i := 1136) (by decide +kernel), List.mem_of_getElem? (i := 1137) (by decide +kernel)⟩
theorem lw_p57 : lw_okq (⟨"VariantParserModel", "asks", "(I)Z"⟩, 15) := ⟨⟨by decide +kernel, by decide +kernel⟩, List.mem_of_getElem? (i := 831) (by decide +kernel), List.mem_of_getElem? (i := 1152) (by decide +kernel), List.mem_of_getElem? (i := 1153) (by decide +kernel)⟩
theorem lw_p58 : lw_okq (⟨"VariantParserModel", "run", "(I)V"⟩, 15) := ⟨⟨by decide +kernel, by decide +kernel⟩, List.mem_of_getElem? (i := 831) (by decide +kernel), List.mem_of_getElem? (i := 1156) (by decide +kernel), List.mem_of_getElem? (i := 1157) (by decide +kernel)⟩
theorem lw_p59 : lw_okq (⟨"VariantParserModel", "statement", "(Z)V"⟩, 15) := ⟨⟨by decide +kernel, by decide +kernel⟩, List.mem_of_getElem? (i := 831) (by decide +kernel), List.mem_of_getElem? (i := 1160) (by decide +kernel), List.mem_of_getElem? (i := 1161) (by decide +kernel)⟩
theorem lw_p60 : lw_okq (⟨"VariantParserModel", "expression", "()I"⟩, 15) := ⟨⟨by decide +kernel, by decide +kernel⟩, List.mem_of_getElem? (i := 831) (by decide +kernel), List.mem_of_getElem? (i := 1164) (by decide +kernel), List.mem_of_getElem? (i := 1165) (by decide +kernel)⟩
theorem lw_p61 : lw_okq (⟨"VariantParserModel", "term", "()I"⟩, 15) := ⟨⟨by decide +kernel, by decide +kernel⟩, List.mem_of_getElem? (i := 831) (by decide +kernel), List.mem_of_getElem? (i := 1168) (by decide +kernel), List.mem_of_getElem? (i := 1169) (by decide +kernel)⟩
theorem lw_p62 : lw_okq (⟨"VariantParserModel", "factor", "()I"⟩, 15) := ⟨⟨by decide +kernel, by decide +kernel⟩, List.mem_of_getElem? (i := 831) (by decide +kernel), List.mem_of_getElem? (i := 1172) (by decide +kernel), List.mem_of_getElem? (i := 1173) (by decide +kernel)⟩
theorem lw_p63 : lw_okq (⟨"VariantParserModel", "passes", "(I)Z"⟩, 15) := ⟨⟨by decide +kernel, by decide +kernel⟩, List.mem_of_getElem? (i := 831) (by decide +kernel), List.mem_of_getElem? (i := 1176) (by decide +kernel), List.mem_of_getElem? (i := 1177) (by decide +kernel)⟩
def lw_privs_4 : List (MethodName × Nat) := [(⟨"VariantParserModel", "read", "()V"⟩, 15), (⟨"VariantParserModel", "push", "(II)V"⟩, 15), (⟨"VariantParserModel", "countGroups", "(I)I"⟩, 15), (⟨"VariantParserModel", "areLike", "(II)Z"⟩, 15), (⟨"VariantParserModel", "readOne", "(II)Z"⟩, 15), (⟨"VariantParserModel", "expand", "(II)Z"⟩, 15), (⟨"VariantParserModel", "expandStatement", "(II)Z"⟩, 15), (⟨"VariantParserModel", "expandFactor", "(II)Z"⟩, 15), (⟨"VariantParserModel", "sumOfGroups", "()I"⟩, 15), (⟨"VariantParserModel", "asks", "(I)Z"⟩, 15), (⟨"VariantParserModel", "run", "(I)V"⟩, 15), (⟨"VariantParserModel", "statement", "(Z)V"⟩, 15), (⟨"VariantParserModel", "expression", "()I"⟩, 15), (⟨"VariantParserModel", "term", "()I"⟩, 15), (⟨"VariantParserModel", "factor", "()I"⟩, 15), (⟨"VariantParserModel", "passes", "(I)Z"⟩, 15)]
theorem lw_r4 : ∀ q ∈ lw_privs_4, lw_okq q := List.forall_mem_cons.mpr ⟨lw_p48, List.forall_mem_cons.mpr ⟨lw_p49, List.forall_mem_cons.mpr ⟨lw_p50, List.forall_mem_cons.mpr ⟨lw_p51, List.forall_mem_cons.mpr ⟨lw_p52, List.forall_mem_cons.mpr ⟨lw_p53, List.forall_mem_cons.mpr ⟨lw_p54, List.forall_mem_cons.mpr ⟨lw_p55, List.forall_mem_cons.mpr ⟨lw_p56, List.forall_mem_cons.mpr ⟨lw_p57, List.forall_mem_cons.mpr ⟨lw_p58, List.forall_mem_cons.mpr ⟨lw_p59, List.forall_mem_cons.mpr ⟨lw_p60, List.forall_mem_cons.mpr ⟨lw_p61, List.forall_mem_cons.mpr ⟨lw_p62, List.forall_mem_cons.mpr ⟨lw_p63, fun _ h => absurd h List.not_mem_nil⟩⟩⟩⟩⟩⟩⟩⟩⟩⟩⟩⟩⟩⟩⟩⟩
def lw_privs : List (MethodName × Nat) := lw_privs_1 ++ (lw_privs_2 ++ (lw_privs_3 ++ (lw_privs_4)))
def lw_tbl : List Cond := k2_sels lw_privs ++ tables_1
theorem lw_privs_ok : ∀ q ∈ lw_privs, lw_okq q := by
  show ∀ q ∈ lw_privs_1 ++ (lw_privs_2 ++ (lw_privs_3 ++ (lw_privs_4))), lw_okq q
  exact List.forall_mem_append.mpr ⟨lw_r1, List.forall_mem_append.mpr ⟨lw_r2, List.forall_mem_append.mpr ⟨lw_r3, lw_r4⟩⟩⟩
/-- the streams that the claim lets the run draw from -/
abbrev lw_cs : List Choice := [Jvm.Choice.named "NaN.bits"]
theorem lw_bits : nanBits ∈ lw_cs := by first | decide | exact List.mem_cons_self | simp [lw_cs, nanBits]
-- ===== end of PART A; then your names; then what follows =====
end
section
/-! ===== BEGIN words of one list among another's, by their places ===== -/
theorem goodIn_r {big : List Cond} (ws : List Cond) (ps : List Nat) (hp : ws = ps.filterMap (fun i => big[i]?)) (h : ws.all goodWord = true) : GoodIn big ws := by
  intro w hw
  have h1 := List.all_eq_true.mp h w hw
  rw [hp] at hw
  obtain ⟨i, -, hi⟩ := List.mem_filterMap.mp hw
  have hm : w ∈ big := by first | exact List.mem_of_getElem? hi | exact List.getElem?_mem hi
  exact ⟨hm, good_of_word h1⟩
theorem goodIn_app {big a b : List Cond} (ha : GoodIn big a) (hb : GoodIn big b) : GoodIn big (a ++ b) := fun w h => (List.mem_append.mp h).elim (ha w) (hb w)
theorem goodIn_ca {big a b : List Cond} {c : Cond} (ha : GoodIn big (c :: a)) (hb : GoodIn big b) : GoodIn big (c :: (a ++ b)) := fun w h => (List.mem_cons.mp h).elim (fun e => ha w (List.mem_cons.mpr (Or.inl e))) (fun h => (List.mem_append.mp h).elim (fun h => ha w (List.mem_cons.mpr (Or.inr h))) (hb w))
theorem goodIn_sub {big ws : List Cond} (hm : ∀ w ∈ ws, w ∈ big) (h : ws.all goodWord = true) : GoodIn big ws := fun w hw => ⟨hm w hw, good_of_word (List.all_eq_true.mp h w hw)⟩
/-! ===== END ===== -/
/-! ===== BEGIN exceptions that leave a method, and their catching by the caller (launches without stack traces) ===== -/
section VXA
/-! The laws vx_back, vx_callV, vx_callS, vx_callSW, vx_throw0, vx_throwS follow proofs of the library, with one case more: JvmDerived/Free/Laws.lean (Back.of_free), Shelf42/LK1.lean (callV, callS), Shelf/KitTraced.lean (throwNew0V, throwNewS). -/
/-- where a method has thrown q: the class by its name, the cell, what was written, the world -/
def vx_T (XC : String → State → State → Prop) (st : State) (q : Addr) (t : State) (mc ms : Nat) (free : Addr → Prop) : Prop :=
  ∃ (E : String) (ce : Cell) (L : List Loc), XC E st t ∧ t.heap[q]? = some ce ∧ ce.vm = .none ∧ st.vm.findClass E = some ce.cls ∧ st.WarmedH t.vm ∧ st.sameButNew ({ t with vm := st.vm } : State) L mc ms ∧ ∀ z ∈ L, free z.base
def vx_Q (Qc : Array Value → State → Outcome → State → Prop) (XC : String → State → State → Prop) (mc ms : Nat) (free : Addr → Prop) : Array Value → State → Outcome → State → Prop := fun a st o t =>
  (Qc a st o t ∧ ∃ L, FrameEnd st o t L mc ms ∧ ∀ q ∈ L, free q.base) ∨ ∃ q, o = .threw q ∧ vx_T XC st q t mc ms free
/-- a callee that returns or throws -/
def vx_Met (l : Launch) (y : MethodName) (ws : List Cond) (rm : Room) (Pc : Array Value → State → Prop) (Qc : Array Value → State → Outcome → State → Prop) (XC : String → State → State → Prop) (mc ms : Nat) (free : Addr → Prop) : Prop :=
  MetFree l y (headSpec ws rm) Pc (fun _ _ _ _ _ => True) (vx_Q Qc XC mc ms free)
def vx_Post (XC : String → State → State → Prop) (mc ms : Nat) (free : Addr → Prop) : Pt → Array Value → Addr → Pt → Prop := fun A a q B =>
  ∃ (g : JFrame) (mk : MethodId) (t : State) (L : List Loc) (E : String) (ce : Cell), B.U.heap = t.heap ∧ B.U.vm = t.vm ∧ XC E (A.U.calling g mk a) t ∧ t.heap[q]? = some ce ∧ ce.vm = .none ∧ A.U.vm.findClass E = some ce.cls ∧ B.locs = A.locs ++ L ∧ (∀ z ∈ L, free z.base) ∧ B.cells = A.cells + mc ∧ B.slots = A.slots + ms
def vx_Back (l : Launch) (R : Room) (p : Program) (e : Env) (below : List Frame) (s : State) (sargs : Array Value) (y : MethodName) (len W9 : Nat)
    (Pre : Pt → Array Value → Prop) (Post : Pt → Array Value → Option Value → Pt → Prop) (PostX : Pt → Array Value → Addr → Pt → Prop) : Prop :=
  ∀ (m : MethodId) (meth : Method) (c : Code) (A : Pt) (g : JFrame) (ig : Instr) (mk : MethodId) (a : Array Value),
    Stand p l e R s m sargs below meth c A.U A.locs A.cells A.slots → g.method = m → g.locals.size = c.maxLocals → decode c.code g.pc = .ok (ig, len) →
    2 * g.monitorRoom + (g.stack.map fun v => v.category).sum ≤ W9 → A.U.methodNamed? y = some mk → Pre A a →
    (∃ (v : Option Value) (B : Pt), Stand p l e R s m sargs below meth c B.U B.locs B.cells B.slots ∧ Post A a v B ∧
      Steps p.tables e below (doInvoke e (A.U.setTop g) [] mk a).1 (B.U.setTop { g with pc := g.pc + len, stack := v.toList ++ g.stack })) ∨
    (∃ (q : Addr) (B : Pt), Stand p l e R s m sargs below meth c B.U B.locs B.cells B.slots ∧ PostX A a q B ∧
      Steps p.tables e below (doInvoke e (A.U.setTop g) [] mk a).1 ((B.U.setTop g).pushFrame (.throwing q)))
section Payer
variable {l : Launch} {R : Room} {p : Program} {e : Env} {below : List Frame} {s : State} {sargs : Array Value} {y : MethodName} {len W9 : Nat}
theorem vx_back {ws : List Cond} {rm : Room} {Pc : Array Value → State → Prop} {Qc : Array Value → State → Outcome → State → Prop} {XC : String → State → State → Prop} {mc ms : Nat} {free : Addr → Prop} {bytes : ByteArray} {maxL : Nat} {ret : Option FieldType}
    (hM : vx_Met l y ws rm Pc Qc XC mc ms free) (hblind : FrameBlind Pc) (hrc : rm.cells = mc) (hrs : rm.slots = ms)
    (hframes : rm.frames + 1 ≤ R.frames) (hlocals : W9 + (maxL + 11) + rm.locals ≤ R.locals)
    (hws : ∀ w ∈ ws, ∀ a' U, s.WarmedH U.vm → w.before a' U = true) (hcode : Cond.code y bytes maxL ret ∈ ws) (hinit : ∀ a' U, s.WarmedH U.vm → (Cond.initialized y.cls).before a' U = true) :
    vx_Back l R p e below s sargs y len W9 (PreOf R mc ms Pc) (PostOf Qc mc ms free) (vx_Post XC mc ms free) := by
  intro m meth c A g ig mk a X hg hsize hdg hW hn hp
  have h1 : (headSpec ws rm).pre.before a A.U = true := atoms_intro fun w hw => hws w hw _ _ X.warmed
  have h2 : (Cond.code y bytes maxL ret).before a A.U = true := hws _ hcode _ _ X.warmed
  have h3 : (Cond.initialized y.cls).before a A.U = true := hinit _ _ X.warmed
  have h4 : A.cells + (headSpec ws rm).room.cells ≤ R.cells := by rw [show (headSpec ws rm).room.cells = mc from hrc]; exact hp.1
  have h5 : A.slots + (headSpec ws rm).room.slots ≤ R.slots := by rw [show (headSpec ws rm).room.slots = ms from hrs]; exact hp.2.1
  have hPc : Pc a (A.U.calling g mk a) := hblind _ _ _ _ hp.2.2
  obtain ⟨U, Ls, c0, s0⟩ := A
  dsimp only [Pt.U, Pt.locs, Pt.cells, Pt.slots] at h1 h2 h3 h4 h5 X hn hPc ⊢
  obtain ⟨methY, cY, hmY, hcY, -, hlY, -, -, -, -⟩ := Cond.code_spec hn h2
  obtain ⟨kY, hkY, -⟩ := className_of_methodNamed hn
  have hinitY : kY.init = .initialized := Cond.initialized_spec (findClass_of_methodNamed hn) hkY h3
  have h : At U g.method c below := by rw [hg]; exact X.here
  have hlocals9 : W9 + (maxL + 11) + (headSpec ws rm).room.locals ≤ R.locals := hlocals
  have happ : (headSpec ws rm).appliesLoose y e.platform (U.calling g mk a) = true :=
    Spec.appliesLoose_calling (g := g) h hdg hn hkY hinitY
      (X.room_calling (g := g) (R' := (headSpec ws rm).room) hsize hmY hcY hframes (by rw [hlY]; omega) h4 h5) h1
  obtain ⟨mid, hmid⟩ := h.above
  have hfr : (U.setTop g).frames = (.java g :: mid) ++ below := by rw [State.frames_setTop' g h.top, hmid]; rfl
  obtain ⟨o, s₂, hsteps, -, hend, hq⟩ := Steps.callFree hM p X.admits X.cas X.clock (acts := []) hfr happ hPc trivial
  have hq' : vx_Q Qc XC mc ms free a (U.calling g mk a) o s₂ := hq
  rw [State.frames_setTop' g h.top] at hend
  obtain ⟨g₀, hg0⟩ := Option.isSome_iff_exists.mp h.top
  obtain ⟨r, hr⟩ := State.topJava?_eq_some.mp hg0
  have hr' : (({ U with heap := s₂.heap, slotsUsed := s₂.slotsUsed } : State).setVm s₂.vm).frames = .java g₀ :: r := hr
  rcases hq' with ⟨hqc, L, hfe, hL⟩ | ⟨q, rfl, E, ce, L, hx, hce, hcv, hcl, hW₂, hsm, hL⟩
  · obtain ⟨⟨v, rfl⟩, hW₂, e2, q2, q3, q4, q5, q6⟩ := id hfe
    have e3 : s₂ = ({ (U.calling g mk a).setFrames s₂.frames with heap := s₂.heap, slotsUsed := s₂.slotsUsed } : State).setVm s₂.vm := by
      have : s₂ = ({ s₂ with vm := (U.calling g mk a).vm } : State).setVm s₂.vm := rfl
      rw [e2] at this
      exact this
    obtain ⟨c₂, i₂, len₂, hc₂, hd₂, hf₂⟩ := hend
    have hW' : U.WarmedH s₂.vm := hW₂
    have hcc : c₂ = c := by
      have h1 : s₂.code? g.method = U.code? g.method := by
        rw [State.code?_eq, State.code?_eq, hW'.alike.method?]
      exact Option.some.inj (hc₂.symm.trans (h1.trans h.code))
    subst hcc
    have hlen : len₂ = len := by rw [hdg] at hd₂; cases hd₂; rfl
    subst hlen
    have hs₂ : s₂ = (({ U with heap := s₂.heap, slotsUsed := s₂.slotsUsed } : State).setVm s₂.vm).setTop { g with pc := g.pc + len₂, stack := v.toList ++ g.stack } := by
      refine e3.trans ?_
      rw [hf₂, State.calling_eq h.top, State.setFrames_setFrames, State.setTop_of_frames _ hr', hr]
      rfl
    have hsame : U.sameButNew ({ U with heap := s₂.heap, slotsUsed := s₂.slotsUsed } : State) L mc ms := by
      refine ⟨?_, q2, q3, q4, q5, q6⟩
      obtain ⟨t, ht, -⟩ := State.frames_cons hr
      show ({ U with heap := s₂.heap, slotsUsed := s₂.slotsUsed } : State) = { U.setFrames U.frames with heap := s₂.heap, slotsUsed := s₂.slotsUsed }
      rw [State.setFrames_self ht]
    subst hg
    refine Or.inl ⟨v, ⟨(({ U with heap := s₂.heap, slotsUsed := s₂.slotsUsed } : State).setVm s₂.vm), Ls ++ L, c0 + mc, s0 + ms⟩,
      ⟨X.admits, X.cas, X.clock, X.frames, X.room, X.hears, X.method, X.code, (X.here.setHeapUsed s₂.heap s₂.slotsUsed).setVm hW'.alike, X.tail, State.WarmedH.trans X.warmed hW', X.limits, X.bytes, X.same.trans (hsame.setVm s.vm)⟩,
      ⟨g, mk, s₂, L, rfl, rfl, hqc, rfl, hL, rfl, rfl⟩, ?_⟩
    show Steps p.tables e below _ ((({ U with heap := s₂.heap, slotsUsed := s₂.slotsUsed } : State).setVm s₂.vm).setTop { g with pc := g.pc + len₂, stack := v.toList ++ g.stack })
    rw [← hs₂]
    exact hsteps
  · obtain ⟨e2, q2, q3, q4, q5, q6⟩ := id hsm
    have e3 : s₂ = ({ (U.calling g mk a).setFrames s₂.frames with heap := s₂.heap, slotsUsed := s₂.slotsUsed } : State).setVm s₂.vm := by
      have : s₂ = ({ s₂ with vm := (U.calling g mk a).vm } : State).setVm s₂.vm := rfl
      rw [e2] at this
      exact this
    have hf₂ : s₂.frames = .throwing q :: .java g :: U.frames.tail := hend
    have hW' : U.WarmedH s₂.vm := hW₂
    have hs₂ : s₂ = ((({ U with heap := s₂.heap, slotsUsed := s₂.slotsUsed } : State).setVm s₂.vm).setTop g).pushFrame (.throwing q) := by
      refine e3.trans ?_
      rw [hf₂, State.calling_eq h.top, State.setFrames_setFrames, State.pushFrame, State.frames_setTop _ hr', State.setTop_of_frames _ hr', State.setFrames_setFrames, hr]
      rfl
    have hsame : U.sameButNew ({ U with heap := s₂.heap, slotsUsed := s₂.slotsUsed } : State) L mc ms := by
      refine ⟨?_, q2, q3, q4, q5, q6⟩
      obtain ⟨t, ht, -⟩ := State.frames_cons hr
      show ({ U with heap := s₂.heap, slotsUsed := s₂.slotsUsed } : State) = { U.setFrames U.frames with heap := s₂.heap, slotsUsed := s₂.slotsUsed }
      rw [State.setFrames_self ht]
    subst hg
    refine Or.inr ⟨q, ⟨(({ U with heap := s₂.heap, slotsUsed := s₂.slotsUsed } : State).setVm s₂.vm), Ls ++ L, c0 + mc, s0 + ms⟩,
      ⟨X.admits, X.cas, X.clock, X.frames, X.room, X.hears, X.method, X.code, (X.here.setHeapUsed s₂.heap s₂.slotsUsed).setVm hW'.alike, X.tail, State.WarmedH.trans X.warmed hW', X.limits, X.bytes, X.same.trans (hsame.setVm s.vm)⟩,
      ⟨g, mk, s₂, L, E, ce, rfl, rfl, hx, hce, hcv, hcl, rfl, hL, rfl, rfl⟩, ?_⟩
    show Steps p.tables e below _ (((({ U with heap := s₂.heap, slotsUsed := s₂.slotsUsed } : State).setVm s₂.vm).setTop g).pushFrame (.throwing q))
    rw [← hs₂]
    exact hsteps
end Payer
section Calls
variable {p : Program} {l : Launch} {e : Env} {R : Room} {s : State} {m : MethodId} {args : Array Value} {below : List Frame} {meth : Method} {c : Code} {T : State} {locs : List Loc} {cells slots : Nat}
theorem vx_callV (X : Stand p l e R s m args below meth c T locs cells slots) (hexec : p.tables.exec = Jvm.exec) {own C : String} {index : Nat} {y : MethodName} {bytes : ByteArray} {maxL : Nat} {ret : Option FieldType}
    (hown : s.vm.findClass own = some m.cls) (hlink : (Cond.methodLink own index y).before args s = true) (hinst : (Cond.instanceMethod y).before args s = true) (hsel : (Cond.selects C y y).before args s = true)
    (hcode : (Cond.code y bytes maxL ret).before args s = true) (hy : y.cls ≠ "java/lang/invoke/MethodHandle" ∧ y.cls ≠ "java/lang/invoke/VarHandle")
    {W9 : Nat} {Pre : Pt → Array Value → Prop} {Post : Pt → Array Value → Option Value → Pt → Prop} {PostX : Pt → Array Value → Addr → Pt → Prop} (hK : vx_Back l R p e below s args y 3 W9 Pre Post PostX)
    {b : Addr} {cellB : Cell} (hcell : T.heap[b]? = some cellB) (hobj : cellB.vm.isStatics = false) (hcls : s.vm.findClass C = some cellB.cls)
    {g : JFrame} (hg : g.method = m) (hsize : g.locals.size = c.maxLocals) {argsL rest : List Value} (hlen : ∀ sig, parseMethodDescriptor y.desc = some sig → argsL.length = sig.parameters.length)
    (hstack : g.stack = argsL.reverse ++ .ref b :: rest) (hW : 2 * g.monitorRoom + (rest.map fun v => v.category).sum ≤ W9) (hdg : decode c.code g.pc = .ok (.invokevirtual index, 3))
    (hpre : ∀ vm₁, s.WarmedH vm₁ → Pre ⟨T.setVm vm₁, locs, cells, slots⟩ (Value.ref b :: argsL).toArray) :
    (∃ (v : Option Value) (vm₁ : Vm) (B : Pt), s.WarmedH vm₁ ∧ Stand p l e R s m args below meth c B.U B.locs B.cells B.slots ∧ Post ⟨T.setVm vm₁, locs, cells, slots⟩ (Value.ref b :: argsL).toArray v B ∧
      ∀ target, Steps p.tables e below (B.U.setTop { g with pc := g.pc + 3, stack := v.toList ++ rest }) target → Steps p.tables e below (T.setTop g) target) ∨
    (∃ (q : Addr) (vm₁ : Vm) (B : Pt), s.WarmedH vm₁ ∧ Stand p l e R s m args below meth c B.U B.locs B.cells B.slots ∧ PostX ⟨T.setVm vm₁, locs, cells, slots⟩ (Value.ref b :: argsL).toArray q B ∧
      Steps p.tables e below (T.setTop g) ((B.U.setTop { g with stack := rest }).pushFrame (.throwing q))) := by
  obtain ⟨mk, methM, hnamed, hmethM, hstM, habM⟩ := Cond.instanceMethod_spec hinst
  obtain ⟨methM', cM, hmethM', -, -, -, -, -, -, hsigM⟩ := Cond.code_spec hnamed hcode
  cases hmethM.symm.trans hmethM'
  obtain ⟨c2, r2, m2, q1, q2, q3, q4, kP, hkP, hkPi⟩ := Cond.selects_spec hsel
  cases hcls.symm.trans q1
  cases (State.methodFound?_of_named hnamed hy).symm.trans q2
  cases hnamed.symm.trans q3
  have hselP : selectMethod e.platform s.vm cellB.cls mk = .method mk := by rw [Launch.admits_selectMethod X.admits]; exact q4
  obtain ⟨vm₁, X₁, hstep₁⟩ := X.invokevirtual hexec hown hlink hnamed hmethM hstM hkP hkPi hy (a := b) (cell := cellB) hcell
    (fun z h => by rw [h] at hobj; cases hobj) hselP hmethM habM hkP hkPi (g := g) hg (argsL := argsL) (rest := rest) (hlen _ hsigM) hstack hdg
  rcases hK m meth c ⟨T.setVm vm₁, locs, cells, slots⟩ { g with stack := rest } (.invokevirtual index) mk (Value.ref b :: argsL).toArray X₁ hg hsize hdg hW (X₁.named hnamed) (hpre vm₁ X₁.warmed) with ⟨v, B, X', hpost, hsteps⟩ | ⟨q, B, X', hpost, hsteps⟩
  · exact Or.inl ⟨v, vm₁, B, X₁.warmed, X', hpost, fun target h => hstep₁ _ fun acts => by rw [doInvoke_state]; exact hsteps.trans h⟩
  · exact Or.inr ⟨q, vm₁, B, X₁.warmed, X', hpost, hstep₁ _ fun acts => by rw [doInvoke_state]; exact hsteps⟩
theorem vx_callS (X : Stand p l e R s m args below meth c T locs cells slots) (hexec : p.tables.exec = Jvm.exec) {own : String} {index : Nat} {y : MethodName} {bytes : ByteArray} {maxL : Nat} {ret : Option FieldType}
    (hown : s.vm.findClass own = some m.cls) (hlink : (Cond.methodLink own index y).before args s = true) (hstat : (Cond.static y).before args s = true) (hinit : (Cond.initialized y.cls).before args s = true)
    (hcode : (Cond.code y bytes maxL ret).before args s = true) (hy : y.cls ≠ "java/lang/invoke/MethodHandle" ∧ y.cls ≠ "java/lang/invoke/VarHandle")
    {W9 : Nat} {Pre : Pt → Array Value → Prop} {Post : Pt → Array Value → Option Value → Pt → Prop} {PostX : Pt → Array Value → Addr → Pt → Prop} (hK : vx_Back l R p e below s args y 3 W9 Pre Post PostX)
    {g : JFrame} (hg : g.method = m) (hsize : g.locals.size = c.maxLocals) {argsL rest : List Value} (hlen : ∀ sig, parseMethodDescriptor y.desc = some sig → argsL.length = sig.parameters.length)
    (hstack : g.stack = argsL.reverse ++ rest) (hW : 2 * g.monitorRoom + (rest.map fun v => v.category).sum ≤ W9) (hdg : decode c.code g.pc = .ok (.invokestatic index, 3))
    (hpre : ∀ vm₁, s.WarmedH vm₁ → Pre ⟨T.setVm vm₁, locs, cells, slots⟩ argsL.toArray) :
    (∃ (v : Option Value) (vm₁ : Vm) (B : Pt), s.WarmedH vm₁ ∧ Stand p l e R s m args below meth c B.U B.locs B.cells B.slots ∧ Post ⟨T.setVm vm₁, locs, cells, slots⟩ argsL.toArray v B ∧
      ∀ target, Steps p.tables e below (B.U.setTop { g with pc := g.pc + 3, stack := v.toList ++ rest }) target → Steps p.tables e below (T.setTop g) target) ∨
    (∃ (q : Addr) (vm₁ : Vm) (B : Pt), s.WarmedH vm₁ ∧ Stand p l e R s m args below meth c B.U B.locs B.cells B.slots ∧ PostX ⟨T.setVm vm₁, locs, cells, slots⟩ argsL.toArray q B ∧
      Steps p.tables e below (T.setTop g) ((B.U.setTop { g with stack := rest }).pushFrame (.throwing q))) := by
  obtain ⟨mk, hnamed⟩ := Cond.code_named hcode
  obtain ⟨methM, cM, hmethM, -, -, -, -, -, -, hsigM⟩ := Cond.code_spec hnamed hcode
  have hstatic : methM.isStatic = true := Cond.static_spec hnamed hmethM hstat
  obtain ⟨kP, hkP, -⟩ := className_of_methodNamed hnamed
  have hinitP : kP.init = .initialized := Cond.initialized_spec (findClass_of_methodNamed hnamed) hkP hinit
  obtain ⟨vm₁, X₁, hstep₁⟩ := X.invokestatic hexec hown hlink hnamed hmethM hstatic hkP hinitP hy (g := g) hg (argsL := argsL) (rest := rest) (hlen _ hsigM) hstack hdg
  rcases hK m meth c ⟨T.setVm vm₁, locs, cells, slots⟩ { g with stack := rest } (.invokestatic index) mk argsL.toArray X₁ hg hsize hdg hW (X₁.named hnamed) (hpre vm₁ X₁.warmed) with ⟨v, B, X', hpost, hsteps⟩ | ⟨q, B, X', hpost, hsteps⟩
  · exact Or.inl ⟨v, vm₁, B, X₁.warmed, X', hpost, fun target h => hstep₁ _ fun acts => by rw [doInvoke_state]; exact hsteps.trans h⟩
  · exact Or.inr ⟨q, vm₁, B, X₁.warmed, X', hpost, hstep₁ _ fun acts => by rw [doInvoke_state]; exact hsteps⟩
end Calls
theorem vx_cls {s : State} {T : State} {vm₁ : Vm} {E : String} {k : ClassId} (hW : s.WarmedH vm₁) (h : (T.setVm vm₁).vm.findClass E = some k) : s.vm.findClass E = some k := by
  have h1 : vm₁.findClass E = some k := h
  rw [hW.alike.findClass] at h1
  exact h1
/-- the method's frame g, with q thrown over it -/
def vx_W (p : Program) (l : Launch) (e : Env) (R : Room) (s : State) (m : MethodId) (args : Array Value) (below : List Frame) (meth : Method) (c : Code) (H : Heap) (locs : List Loc) (cells slots : Nat) (Q : State → Prop) (g : JFrame) (q : Addr) : Prop :=
  ∀ T : State, T.heap = H → Stand p l e R s m args below meth c T locs cells slots → ∃ t, Steps p.tables e below ((T.setTop g).pushFrame (.throwing q)) t ∧ Q t
def vx_Run (p : Program) (l : Launch) (e : Env) (R : Room) (s : State) (m : MethodId) (args : Array Value) (below : List Frame) (meth : Method) (c : Code) (H : Heap) (locs : List Loc) (cells slots mc ms : Nat) (g : JFrame) (rest : List Value) (Qa : State → Outcome → State → Prop) (XC : String → State → State → Prop) (free : Addr → Prop) : Prop :=
  ∀ T : State, T.heap = H → Stand p l e R s m args below meth c T locs cells slots →
    (∃ (v : Option Value) (st₀ t T' : State) (L : List Loc), st₀.heap = H ∧ Stand p l e R s m args below meth c T' (locs ++ L) (cells + mc) (slots + ms) ∧ (∀ q ∈ L, free q.base) ∧ T'.heap = t.heap ∧ T'.vm = t.vm ∧ Qa st₀ (.returned v) t ∧
      Goes p e below T g T' { g with pc := g.pc + 3, stack := v.toList ++ rest }) ∨
    (∃ (q : Addr) (st₀ t T' : State) (L : List Loc) (E : String) (ce : Cell), st₀.heap = H ∧ Stand p l e R s m args below meth c T' (locs ++ L) (cells + mc) (slots + ms) ∧ (∀ z ∈ L, free z.base) ∧ T'.heap = t.heap ∧ T'.vm = t.vm ∧ XC E st₀ t ∧ t.heap[q]? = some ce ∧ ce.vm = .none ∧ s.vm.findClass E = some ce.cls ∧
      Steps p.tables e below (T.setTop g) ((T'.setTop { g with stack := rest }).pushFrame (.throwing q)))
def vx_X {S : Type} (px : S → Prop) (B : String → S → State → Prop) (A : Nat → Prop) : String → State → State → Prop := fun E st t => ∃ u : S, px u ∧ B E u t ∧ va_F A st t
section Runs
variable {p : Program} {l : Launch} {e : Env} {R : Room} {s : State} {m : MethodId} {args : Array Value} {below : List Frame} {meth : Method} {c : Code} {H : Heap} {locs : List Loc} {cells slots : Nat}
variable {y : MethodName} {bytes cc : ByteArray} {maxL nL mc ms n index : Nat} {ret : Option FieldType} {ws : List Cond} {rm : Room} {Pc : Array Value → State → Prop} {Qc : Array Value → State → Outcome → State → Prop} {XC : String → State → State → Prop} {free : Addr → Prop} {Ts : List Cond} {own C : String} {b : Addr} {As rest : List Value} {g : JFrame}
theorem vx_callBack (cb : CallB R s args own index y bytes maxL ret ws rm mc ms n) (hM : vx_Met l y ws rm Pc Qc XC mc ms free) (hbl : FrameBlind Pc) : vx_Back l R p e below s args y 3 8 (PreOf R mc ms Pc) (PostOf Qc mc ms free) (vx_Post XC mc ms free) := by
  obtain ⟨hrc, hrs, hfr, hlo, hws, hcw, -, hini, -⟩ := cb
  exact vx_back (bytes := bytes) (maxL := maxL) (ret := ret) hM hbl hrc hrs hfr hlo hws hcw (fun a' U hW => word_at hW (Or.inl (by first | rfl | simp [Cond.onTables, Cond.keeps, Cond.steady])) hini)
theorem vx_runV (S : CallFix p m c cc nL s args Ts own) (hM : vx_Met l y ws rm Pc Qc XC mc ms free) (cw : CallW R s args own C index y bytes maxL ret ws rm mc ms n) (hp : PreV s H C b Pc As)
    (hg : g.method = m) (hn : As.length = n) (hsize : g.locals.size = nL) (hstack : g.stack = As.reverse ++ .ref b :: rest) (hW : 2 * g.monitorRoom + (rest.map fun v => v.category).sum ≤ 8) (hdg : decode cc g.pc = .ok (.invokevirtual index, 3)) (hf : cells + mc ≤ R.cells ∧ slots + ms ≤ R.slots) :
    vx_Run p l e R s m args below meth c H locs cells slots mc ms g rest (Qc (Value.ref b :: As).toArray) XC free := by
  have hK : vx_Back l R p e below s args y 3 8 (PreOf R mc ms Pc) (PostOf Qc mc ms free) (vx_Post XC mc ms free) := vx_callBack cw.1 hM hp.1
  obtain ⟨⟨-, -, -, -, -, -, hcode, -, hy, hlen, hl⟩, hin, hse⟩ := cw
  obtain ⟨hx, hb, hml, ho, -⟩ := S
  obtain ⟨-, ⟨cellB, hcB, hoB, hclB⟩, hPc⟩ := hp
  intro T hT X
  rcases vx_callV X hx (C := C) (bytes := bytes) (maxL := maxL) (ret := ret) ho hl hin hse hcode hy hK (by rw [hT]; exact hcB) hoB hclB hg (hsize.trans hml.symm) (argsL := As) (rest := rest) (fun sig h => hn.trans (hlen sig h)) hstack hW (by rw [hb]; exact hdg)
    (fun vm₁ hW₁ => ⟨hf.1, hf.2, hPc (T.setVm vm₁) hT hW₁⟩) with ⟨v, vm₁, ⟨U', l2, c2, s2⟩, hW₁, X', ⟨g', mk, t, L, e1, e2, hq, h1, hL, h2, h3⟩, st⟩ | ⟨q, vm₁, ⟨U', l2, c2, s2⟩, hW₁, X', ⟨g', mk, t, L, E, ce, e1, e2, hq, hce, hcv, hcl, h1, hL, h2, h3⟩, st⟩
  · dsimp only [Pt.U, Pt.locs, Pt.cells, Pt.slots] at X' e1 e2 h1 h2 h3 st
    subst h1; subst h2; subst h3
    exact Or.inl ⟨v, (T.setVm vm₁).calling g' mk (Value.ref b :: As).toArray, t, U', L, hT, X', hL, e1, e2, hq, st⟩
  · dsimp only [Pt.U, Pt.locs, Pt.cells, Pt.slots] at X' e1 e2 h1 h2 h3 st hcl
    subst h1; subst h2; subst h3
    exact Or.inr ⟨q, (T.setVm vm₁).calling g' mk (Value.ref b :: As).toArray, t, U', L, E, ce, hT, X', hL, e1, e2, hq, hce, hcv, vx_cls hW₁ hcl, st⟩
theorem vx_runS (S : CallFix p m c cc nL s args Ts own) (hM : vx_Met l y ws rm Pc Qc XC mc ms free) (cw : CallB R s args own index y bytes maxL ret ws rm mc ms n ∧ (Cond.static y).before args s = true) (hp : PreS s H Pc As)
    (hg : g.method = m) (hn : As.length = n) (hsize : g.locals.size = nL) (hstack : g.stack = As.reverse ++ rest) (hW : 2 * g.monitorRoom + (rest.map fun v => v.category).sum ≤ 8) (hdg : decode cc g.pc = .ok (.invokestatic index, 3)) (hf : cells + mc ≤ R.cells ∧ slots + ms ≤ R.slots) :
    vx_Run p l e R s m args below meth c H locs cells slots mc ms g rest (Qc As.toArray) XC free := by
  have hK : vx_Back l R p e below s args y 3 8 (PreOf R mc ms Pc) (PostOf Qc mc ms free) (vx_Post XC mc ms free) := vx_callBack cw.1 hM hp.1
  obtain ⟨⟨-, -, -, -, -, -, hcode, hini, hy, hlen, hl⟩, hstt⟩ := cw
  obtain ⟨hx, hb, hml, ho, -⟩ := S
  intro T hT X
  rcases vx_callS X hx (bytes := bytes) (maxL := maxL) (ret := ret) ho hl hstt hini hcode hy hK hg (hsize.trans hml.symm) (argsL := As) (rest := rest) (fun sig h => hn.trans (hlen sig h)) hstack hW (by rw [hb]; exact hdg)
    (fun vm₁ hW₁ => ⟨hf.1, hf.2, hp.2 (T.setVm vm₁) hT hW₁⟩) with ⟨v, vm₁, ⟨U', l2, c2, s2⟩, hW₁, X', ⟨g', mk, t, L, e1, e2, hq, h1, hL, h2, h3⟩, st⟩ | ⟨q, vm₁, ⟨U', l2, c2, s2⟩, hW₁, X', ⟨g', mk, t, L, E, ce, e1, e2, hq, hce, hcv, hcl, h1, hL, h2, h3⟩, st⟩
  · dsimp only [Pt.U, Pt.locs, Pt.cells, Pt.slots] at X' e1 e2 h1 h2 h3 st
    subst h1; subst h2; subst h3
    exact Or.inl ⟨v, (T.setVm vm₁).calling g' mk As.toArray, t, U', L, hT, X', hL, e1, e2, hq, st⟩
  · dsimp only [Pt.U, Pt.locs, Pt.cells, Pt.slots] at X' e1 e2 h1 h2 h3 st hcl
    subst h1; subst h2; subst h3
    exact Or.inr ⟨q, (T.setVm vm₁).calling g' mk As.toArray, t, U', L, E, ce, hT, X', hL, e1, e2, hq, hce, hcv, vx_cls hW₁ hcl, st⟩
end Runs
section Rows
variable {p : Program} {l : Launch} {e : Env} {R : Room} {s : State} {m : MethodId} {args : Array Value} {below : List Frame} {meth : Method} {c : Code} {H : Heap} {locs : List Loc} {cells slots : Nat} {Q : State → Prop}
variable {mc ms : Nat} {free : Addr → Prop} {A0 A1 : Nat → Prop} {H0 : Heap} {a : Array Value} {pc : Nat} {ls : Array Slot} {st0 rest : List Value}
theorem vx_keep {st₀ t T' : State} {L : List Loc} (h0 : st₀.heap = H) (e1 : T'.heap = t.heap) (hS : va_S A0 H0 H locs) (hA : ∀ q, q < H.size → A1 q → A0 q) (hf : ∀ q, free q → A0 q) (hL : ∀ q ∈ L, free q.base) (hF : va_F A1 st₀ t) :
    H.size ≤ T'.heap.size ∧ (∀ q : Nat, q < H.size → ¬ A1 q → T'.heap[q]? = H[q]?) ∧ va_S A0 H0 T'.heap (locs ++ L) := by
  obtain ⟨hz, hk⟩ := hF
  rw [h0] at hz hk
  exact ⟨by rw [e1]; exact hz, fun q h1 h2 => by rw [e1]; exact hk q h1 h2,
    ⟨Nat.le_trans hS.1 (by rw [e1]; exact hz), fun q h1 h2 => by rw [e1, hk q (Nat.lt_of_lt_of_le h1 hS.1) (fun z => h2 (hA q (Nat.lt_of_lt_of_le h1 hS.1) z))]; exact hS.2.1 q h1 h2, fun q hq => by
      rcases List.mem_append.mp hq with h | h
      · exact hS.2.2 q h
      · exact hf _ (hL q h)⟩⟩
theorem vx_calli {S SX : Type} {post : Int32 → S → Prop} {px : SX → Prop} {B : S → State → Prop} {BX : String → SX → State → Prop} {AX : Nat → Prop} (hr : vx_Run p l e R s m args below meth c H locs cells slots mc ms (F0 m pc ls st0) rest (va_Qi post B A1 a) (vx_X px BX AX) free) (hS : va_S A0 H0 H locs) (hA : ∀ q, q < H.size → A1 q → A0 q) (hf : ∀ q, free q → A0 q) (hAX : ∀ q, q < H.size → AX q → A0 q)
    (kx : ∀ (E : String) (ce : Cell) (q9 : Addr) (u : SX) (t : State) (H1 : Heap) (locs1 : List Loc), t.heap = H1 → s.vm.Alike t.vm → px u → BX E u t → H.size ≤ H1.size → (∀ q : Nat, q < H.size → ¬ AX q → H1[q]? = H[q]?) → va_S A0 H0 H1 locs1 → H1[q9]? = some ce → ce.vm = .none → s.vm.findClass E = some ce.cls → vx_W p l e R s m args below meth c H1 locs1 (cells + mc) (slots + ms) Q (F0 m pc ls rest) q9)
    (kk : ∀ (r : Int32) (u : S) (t : State) (H1 : Heap) (locs1 : List Loc), t.heap = H1 → s.vm.Alike t.vm → post r u → B u t → H.size ≤ H1.size → (∀ q : Nat, q < H.size → ¬ A1 q → H1[q]? = H[q]?) → va_S A0 H0 H1 locs1 → W p l e R s m args below meth c H1 locs1 (cells + mc) (slots + ms) Q (F0 m (pc + 3) ls (.int r :: rest))) : W p l e R s m args below meth c H locs cells slots Q (F0 m pc ls st0) := by
  intro T hT X
  rcases hr T hT X with ⟨v, st₀, t, T', L, h0, X', hL, e1, e2, ⟨⟨r, u, hv, hp, hb⟩, hF⟩, st⟩ | ⟨q, st₀, t, T', L, E, ce, h0, X', hL, e1, e2, ⟨u, hp, hb, hF⟩, hce, hcv, hcl, st⟩
  · cases hv
    obtain ⟨k1, k2, k3⟩ := vx_keep h0 e1 hS hA hf hL hF
    obtain ⟨t2, a1, b1⟩ := kk r u t T'.heap (locs ++ L) e1.symm (by rw [← e2]; exact X'.warmed.alike) hp hb k1 k2 k3 T' rfl X'
    exact ⟨t2, st t2 a1, b1⟩
  · obtain ⟨k1, k2, k3⟩ := vx_keep h0 e1 hS hAX hf hL hF
    obtain ⟨t2, a1, b1⟩ := kx E ce q u t T'.heap (locs ++ L) e1.symm (by rw [← e2]; exact X'.warmed.alike) hp hb k1 k2 k3 (by rw [e1]; exact hce) hcv hcl T' rfl X'
    exact ⟨t2, st.trans a1, b1⟩
theorem vx_calll {S SX : Type} {post : Int64 → S → Prop} {px : SX → Prop} {B : S → State → Prop} {BX : String → SX → State → Prop} {AX : Nat → Prop} (hr : vx_Run p l e R s m args below meth c H locs cells slots mc ms (F0 m pc ls st0) rest (va_Ql post B A1 a) (vx_X px BX AX) free) (hS : va_S A0 H0 H locs) (hA : ∀ q, q < H.size → A1 q → A0 q) (hf : ∀ q, free q → A0 q) (hAX : ∀ q, q < H.size → AX q → A0 q)
    (kx : ∀ (E : String) (ce : Cell) (q9 : Addr) (u : SX) (t : State) (H1 : Heap) (locs1 : List Loc), t.heap = H1 → s.vm.Alike t.vm → px u → BX E u t → H.size ≤ H1.size → (∀ q : Nat, q < H.size → ¬ AX q → H1[q]? = H[q]?) → va_S A0 H0 H1 locs1 → H1[q9]? = some ce → ce.vm = .none → s.vm.findClass E = some ce.cls → vx_W p l e R s m args below meth c H1 locs1 (cells + mc) (slots + ms) Q (F0 m pc ls rest) q9)
    (kk : ∀ (r : Int64) (u : S) (t : State) (H1 : Heap) (locs1 : List Loc), t.heap = H1 → s.vm.Alike t.vm → post r u → B u t → H.size ≤ H1.size → (∀ q : Nat, q < H.size → ¬ A1 q → H1[q]? = H[q]?) → va_S A0 H0 H1 locs1 → W p l e R s m args below meth c H1 locs1 (cells + mc) (slots + ms) Q (F0 m (pc + 3) ls (.long r :: rest))) : W p l e R s m args below meth c H locs cells slots Q (F0 m pc ls st0) := by
  intro T hT X
  rcases hr T hT X with ⟨v, st₀, t, T', L, h0, X', hL, e1, e2, ⟨⟨r, u, hv, hp, hb⟩, hF⟩, st⟩ | ⟨q, st₀, t, T', L, E, ce, h0, X', hL, e1, e2, ⟨u, hp, hb, hF⟩, hce, hcv, hcl, st⟩
  · cases hv
    obtain ⟨k1, k2, k3⟩ := vx_keep h0 e1 hS hA hf hL hF
    obtain ⟨t2, a1, b1⟩ := kk r u t T'.heap (locs ++ L) e1.symm (by rw [← e2]; exact X'.warmed.alike) hp hb k1 k2 k3 T' rfl X'
    exact ⟨t2, st t2 a1, b1⟩
  · obtain ⟨k1, k2, k3⟩ := vx_keep h0 e1 hS hAX hf hL hF
    obtain ⟨t2, a1, b1⟩ := kx E ce q u t T'.heap (locs ++ L) e1.symm (by rw [← e2]; exact X'.warmed.alike) hp hb k1 k2 k3 (by rw [e1]; exact hce) hcv hcl T' rfl X'
    exact ⟨t2, st.trans a1, b1⟩
theorem vx_callf {S SX : Type} {post : UInt32 → S → Prop} {px : SX → Prop} {B : S → State → Prop} {BX : String → SX → State → Prop} {AX : Nat → Prop} (hr : vx_Run p l e R s m args below meth c H locs cells slots mc ms (F0 m pc ls st0) rest (va_Qf post B A1 a) (vx_X px BX AX) free) (hS : va_S A0 H0 H locs) (hA : ∀ q, q < H.size → A1 q → A0 q) (hf : ∀ q, free q → A0 q) (hAX : ∀ q, q < H.size → AX q → A0 q)
    (kx : ∀ (E : String) (ce : Cell) (q9 : Addr) (u : SX) (t : State) (H1 : Heap) (locs1 : List Loc), t.heap = H1 → s.vm.Alike t.vm → px u → BX E u t → H.size ≤ H1.size → (∀ q : Nat, q < H.size → ¬ AX q → H1[q]? = H[q]?) → va_S A0 H0 H1 locs1 → H1[q9]? = some ce → ce.vm = .none → s.vm.findClass E = some ce.cls → vx_W p l e R s m args below meth c H1 locs1 (cells + mc) (slots + ms) Q (F0 m pc ls rest) q9)
    (kk : ∀ (r : UInt32) (u : S) (t : State) (H1 : Heap) (locs1 : List Loc), t.heap = H1 → s.vm.Alike t.vm → post r u → B u t → H.size ≤ H1.size → (∀ q : Nat, q < H.size → ¬ A1 q → H1[q]? = H[q]?) → va_S A0 H0 H1 locs1 → W p l e R s m args below meth c H1 locs1 (cells + mc) (slots + ms) Q (F0 m (pc + 3) ls (.float r :: rest))) : W p l e R s m args below meth c H locs cells slots Q (F0 m pc ls st0) := by
  intro T hT X
  rcases hr T hT X with ⟨v, st₀, t, T', L, h0, X', hL, e1, e2, ⟨⟨r, u, hv, hp, hb⟩, hF⟩, st⟩ | ⟨q, st₀, t, T', L, E, ce, h0, X', hL, e1, e2, ⟨u, hp, hb, hF⟩, hce, hcv, hcl, st⟩
  · cases hv
    obtain ⟨k1, k2, k3⟩ := vx_keep h0 e1 hS hA hf hL hF
    obtain ⟨t2, a1, b1⟩ := kk r u t T'.heap (locs ++ L) e1.symm (by rw [← e2]; exact X'.warmed.alike) hp hb k1 k2 k3 T' rfl X'
    exact ⟨t2, st t2 a1, b1⟩
  · obtain ⟨k1, k2, k3⟩ := vx_keep h0 e1 hS hAX hf hL hF
    obtain ⟨t2, a1, b1⟩ := kx E ce q u t T'.heap (locs ++ L) e1.symm (by rw [← e2]; exact X'.warmed.alike) hp hb k1 k2 k3 (by rw [e1]; exact hce) hcv hcl T' rfl X'
    exact ⟨t2, st.trans a1, b1⟩
theorem vx_calld {S SX : Type} {post : UInt64 → S → Prop} {px : SX → Prop} {B : S → State → Prop} {BX : String → SX → State → Prop} {AX : Nat → Prop} (hr : vx_Run p l e R s m args below meth c H locs cells slots mc ms (F0 m pc ls st0) rest (va_Qd post B A1 a) (vx_X px BX AX) free) (hS : va_S A0 H0 H locs) (hA : ∀ q, q < H.size → A1 q → A0 q) (hf : ∀ q, free q → A0 q) (hAX : ∀ q, q < H.size → AX q → A0 q)
    (kx : ∀ (E : String) (ce : Cell) (q9 : Addr) (u : SX) (t : State) (H1 : Heap) (locs1 : List Loc), t.heap = H1 → s.vm.Alike t.vm → px u → BX E u t → H.size ≤ H1.size → (∀ q : Nat, q < H.size → ¬ AX q → H1[q]? = H[q]?) → va_S A0 H0 H1 locs1 → H1[q9]? = some ce → ce.vm = .none → s.vm.findClass E = some ce.cls → vx_W p l e R s m args below meth c H1 locs1 (cells + mc) (slots + ms) Q (F0 m pc ls rest) q9)
    (kk : ∀ (r : UInt64) (u : S) (t : State) (H1 : Heap) (locs1 : List Loc), t.heap = H1 → s.vm.Alike t.vm → post r u → B u t → H.size ≤ H1.size → (∀ q : Nat, q < H.size → ¬ A1 q → H1[q]? = H[q]?) → va_S A0 H0 H1 locs1 → W p l e R s m args below meth c H1 locs1 (cells + mc) (slots + ms) Q (F0 m (pc + 3) ls (.double r :: rest))) : W p l e R s m args below meth c H locs cells slots Q (F0 m pc ls st0) := by
  intro T hT X
  rcases hr T hT X with ⟨v, st₀, t, T', L, h0, X', hL, e1, e2, ⟨⟨r, u, hv, hp, hb⟩, hF⟩, st⟩ | ⟨q, st₀, t, T', L, E, ce, h0, X', hL, e1, e2, ⟨u, hp, hb, hF⟩, hce, hcv, hcl, st⟩
  · cases hv
    obtain ⟨k1, k2, k3⟩ := vx_keep h0 e1 hS hA hf hL hF
    obtain ⟨t2, a1, b1⟩ := kk r u t T'.heap (locs ++ L) e1.symm (by rw [← e2]; exact X'.warmed.alike) hp hb k1 k2 k3 T' rfl X'
    exact ⟨t2, st t2 a1, b1⟩
  · obtain ⟨k1, k2, k3⟩ := vx_keep h0 e1 hS hAX hf hL hF
    obtain ⟨t2, a1, b1⟩ := kx E ce q u t T'.heap (locs ++ L) e1.symm (by rw [← e2]; exact X'.warmed.alike) hp hb k1 k2 k3 (by rw [e1]; exact hce) hcv hcl T' rfl X'
    exact ⟨t2, st.trans a1, b1⟩
theorem vx_callv {S SX : Type} {post : S → Prop} {px : SX → Prop} {B : S → State → Prop} {BX : String → SX → State → Prop} {AX : Nat → Prop} (hr : vx_Run p l e R s m args below meth c H locs cells slots mc ms (F0 m pc ls st0) rest (va_Qv post B A1 a) (vx_X px BX AX) free) (hS : va_S A0 H0 H locs) (hA : ∀ q, q < H.size → A1 q → A0 q) (hf : ∀ q, free q → A0 q) (hAX : ∀ q, q < H.size → AX q → A0 q)
    (kx : ∀ (E : String) (ce : Cell) (q9 : Addr) (u : SX) (t : State) (H1 : Heap) (locs1 : List Loc), t.heap = H1 → s.vm.Alike t.vm → px u → BX E u t → H.size ≤ H1.size → (∀ q : Nat, q < H.size → ¬ AX q → H1[q]? = H[q]?) → va_S A0 H0 H1 locs1 → H1[q9]? = some ce → ce.vm = .none → s.vm.findClass E = some ce.cls → vx_W p l e R s m args below meth c H1 locs1 (cells + mc) (slots + ms) Q (F0 m pc ls rest) q9)
    (kk : ∀ (u : S) (t : State) (H1 : Heap) (locs1 : List Loc), t.heap = H1 → s.vm.Alike t.vm → post u → B u t → H.size ≤ H1.size → (∀ q : Nat, q < H.size → ¬ A1 q → H1[q]? = H[q]?) → va_S A0 H0 H1 locs1 → W p l e R s m args below meth c H1 locs1 (cells + mc) (slots + ms) Q (F0 m (pc + 3) ls (rest))) : W p l e R s m args below meth c H locs cells slots Q (F0 m pc ls st0) := by
  intro T hT X
  rcases hr T hT X with ⟨v, st₀, t, T', L, h0, X', hL, e1, e2, ⟨⟨u, hv, hp, hb⟩, hF⟩, st⟩ | ⟨q, st₀, t, T', L, E, ce, h0, X', hL, e1, e2, ⟨u, hp, hb, hF⟩, hce, hcv, hcl, st⟩
  · cases hv
    obtain ⟨k1, k2, k3⟩ := vx_keep h0 e1 hS hA hf hL hF
    obtain ⟨t2, a1, b1⟩ := kk u t T'.heap (locs ++ L) e1.symm (by rw [← e2]; exact X'.warmed.alike) hp hb k1 k2 k3 T' rfl X'
    exact ⟨t2, st t2 a1, b1⟩
  · obtain ⟨k1, k2, k3⟩ := vx_keep h0 e1 hS hAX hf hL hF
    obtain ⟨t2, a1, b1⟩ := kx E ce q u t T'.heap (locs ++ L) e1.symm (by rw [← e2]; exact X'.warmed.alike) hp hb k1 k2 k3 (by rw [e1]; exact hce) hcv hcl T' rfl X'
    exact ⟨t2, st.trans a1, b1⟩
/-- caught by the row x of this method's table; the rows ahead don't take it -/
theorem vx_catch {own name : String} {E : String} {ce : Cell} {q : Addr} (hown : s.vm.findClass own = some m.cls) (pre : List ExceptionTableEntry) (x : ExceptionTableEntry) (suf : List ExceptionTableEntry) (hsplit : c.exceptionTable.toList = pre ++ x :: suf)
    (hpass : ∀ z ∈ pre, covers z pc = false ∨ (z.catchType ≠ 0 ∧ ∃ nm : String, (Cond.classLink own z.catchType nm).before args s = true ∧ va_Nc E nm s)) (hx : covers x pc = true) (h0 : x.catchType ≠ 0)
    (hlink : (Cond.classLink own x.catchType name).before args s = true) (hcast : (Cond.castable E name).before args s = true) (hcell : H[q]? = some ce) (hv : ce.vm = .none) (hcl : s.vm.findClass E = some ce.cls)
    (kk : W p l e R s m args below meth c H locs cells slots Q (F0 m x.handlerPc ls [.ref q])) : vx_W p l e R s m args below meth c H locs cells slots Q (F0 m pc ls rest) q := by
  intro T hT X
  have hpl : e.platform.magicAccessors = ({} : Platform).magicAccessors := by rw [X.admits.platform]
  obtain ⟨c3, c4, hc3, hc4, hasg⟩ := Cond.castable_spec hcast
  cases Option.some.inj (hc3.symm.trans hcl)
  obtain ⟨c5, hc5, hcl5⟩ := Cond.classLink_spec hown hlink e.platform hpl
  cases Option.some.inj (hc4.symm.trans hc5)
  obtain ⟨vm', X', st⟩ := X.thenCaughtThrough q (g := F0 m pc ls rest) rfl (Steps.refl _) (by rw [hT]; exact hcell) (by rw [hv]; rfl) (by obtain ⟨k9, h9, -⟩ := Vm.findClass_spec hcl; exact ⟨k9, h9⟩) pre x suf hsplit
    (fun z hz => by
      rcases hpass z hz with h | ⟨hz0, nm, hl1, hn1⟩
      · exact Or.inl h
      · obtain ⟨c6, hc6, hcl6⟩ := Cond.classLink_spec hown hl1 e.platform hpl
        obtain ⟨a8, b8, h1, h2, h3⟩ := hn1
        cases Option.some.inj (h1.symm.trans hcl)
        cases Option.some.inj (h2.symm.trans hc6)
        exact Or.inr ⟨hz0, _, hcl6, h3⟩) hx (Or.inr ⟨h0, c4, hcl5, hasg⟩)
  obtain ⟨t, a1, b1⟩ := kk (T.setVm vm') hT X'
  exact ⟨t, st.trans a1, b1⟩
end Rows
section Ends
variable {p : Program} {l : Launch} {e : Env} {R : Room} {s : State} {m : MethodId} {args : Array Value} {below : List Frame} {meth : Method} {c : Code} {H : Heap} {locs : List Loc} {cells slots : Nat} {Q : State → Prop}
variable {mc ms : Nat} {free : Addr → Prop} {A0 A1 : Nat → Prop} {H0 : Heap} {a : Array Value} {ls : Array Slot} {st0 rest : List Value}
variable {Qc : Array Value → State → Outcome → State → Prop} {XC : String → State → State → Prop}
/-- what a body that may throw owes at its end -/
def vx_MQ (below : List Frame) (Qc : Array Value → State → Outcome → State → Prop) (XC : String → State → State → Prop) (a : Array Value) (s : State) (mc ms : Nat) (free : Addr → Prop) : State → Prop := fun t =>
  ∃ o, t.status = .running ∧ Ended t below o ∧ vx_Q Qc XC mc ms free a s o t
theorem vx_ret {g : JFrame} {mc ms : Nat} (k : W p l e R s m args below meth c H locs cells slots (MQ below Qc args s mc ms free) g) : W p l e R s m args below meth c H locs cells slots (vx_MQ below Qc XC args s mc ms free) g := by
  intro T hT X
  obtain ⟨t, a1, o, b1, b2, b3, b4⟩ := k T hT X
  exact ⟨t, a1, o, b1, b2, Or.inl ⟨b3, b4⟩⟩
/-- not caught here: it goes on to the caller -/
theorem vx_widen {g : JFrame} {q : Addr} {k n : Nat} (h1 : cells ≤ k) (h2 : slots ≤ n) (kk : vx_W p l e R s m args below meth c H locs k n Q g q) : vx_W p l e R s m args below meth c H locs cells slots Q g q := fun T hT X => kk T hT (stand_widen X h1 h2)
theorem vx_out {pc : Nat} {E : String} {ce : Cell} {q : Addr} {mc ms : Nat} (hout : ∀ x ∈ c.exceptionTable.toList, covers x pc = false) (hlocks : meth.locks = false) (hcell : H[q]? = some ce) (hv : ce.vm = .none) (hcl : s.vm.findClass E = some ce.cls)
    (hx : ∀ t : State, t.heap = H → s.vm.Alike t.vm → XC E s t) (hf : ∀ z ∈ locs, free z.base) (hc : cells ≤ mc) (hs : slots ≤ ms) :
    vx_W p l e R s m args below meth c H locs cells slots (vx_MQ below Qc XC args s mc ms free) (F0 m pc ls rest) q := by
  intro T hT X
  obtain ⟨st1, hrun, hend, hW, hsm⟩ := X.leaveThrown q (g := F0 m pc ls rest) rfl rfl rfl hout hlocks
  have hcell9 : (T.setFrames (.throwing q :: below)).heap[q]? = some ce := by
    show T.heap[q]? = some ce
    rw [hT]; exact hcell
  exact ⟨_, st1, .threw q, hrun, hend, Or.inr ⟨q, rfl, E, ce, locs, hx _ hT hW.alike, hcell9, hv, hcl, hW, hsm.mono hc hs, hf⟩⟩
theorem vx_frame {U : State} {k n : Nat} (h : s.sameButNew ({ U with vm := s.vm } : State) locs k n) : s.heap.size ≤ U.heap.size ∧ ∀ q : Nat, q < s.heap.size → (∀ z ∈ locs, z.base ≠ q) → U.heap[q]? = s.heap[q]? := by
  obtain ⟨-, h2, -, -, -, h6⟩ := h
  refine ⟨h2, fun q hq hz => ?_⟩
  obtain ⟨c9, e1, e2, e3, e4⟩ := h6 q _ (Array.getElem?_eq_getElem hq)
  have hs : c9.slots = (s.heap[q]).slots := Array.ext_getElem? fun i => e4 i fun hm => hz _ hm rfl
  have h9 : c9 = s.heap[q] := by
    rw [hs] at e2
    exact e2
  have e5 : U.heap[q]? = some c9 := e1
  rw [e5, h9, Array.getElem?_eq_getElem hq]
/-- the words of a throw but the four that speak of the heap -/
def vx_no (w : Cond) : Bool := decide (w ≠ .isRef (.static Bundle.tN "UNASSIGNED_STACK" Bundle.steD)) && decide (w ≠ .isRef (.static Bundle.tN "SUPPRESSED_SENTINEL" Bundle.listD)) && decide (w ≠ .laysStatic Bundle.tN "UNASSIGNED_STACK" Bundle.steD) && decide (w ≠ .laysStatic Bundle.tN "SUPPRESSED_SENTINEL" Bundle.listD)
def vx_at0 (own : String) (ic : Nat) (X : String) (names : List String) : List Cond := (Bundle.ownAtoms0 own ic X names).filter vx_no
def vx_atS (own : String) (ic : Nat) (X : String) (names : List String) : List Cond := (Bundle.ownAtoms own ic X names).filter vx_no
/-- a word that the tables alone decide, or a good one -/
def vx_ot (w : Cond) : Bool := w.onTables || goodWord w
theorem vx_ot_at {args a' : Array Value} {s U : State} {w : Cond} (hW : s.WarmedH U.vm) (hvm : s.vm = U.vm) (hg : vx_ot w = true) (h : w.before args s = true) : w.before a' U = true := by
  simp only [vx_ot, Bool.or_eq_true] at hg
  rcases hg with hg | hg
  · exact va_tabs hg hvm h
  · exact word_at hW (good_of_word hg) h
/-- a list's words: the good ones out of the method's own list, the others by premises of their own -/
theorem vx_hat {args : Array Value} {s : State} {L B : List Cond} (h1 : ∀ w ∈ L.filter goodWord, w.before args s = true) (h2 : ∀ w ∈ L.filter (fun w => !goodWord w), w ∈ B) (h3 : ∀ w ∈ B, w.before args s = true) : ∀ w ∈ L, w.before args s = true := by
  intro w hw
  by_cases g : goodWord w = true
  · exact h1 w (List.mem_filter.mpr ⟨hw, g⟩)
  · refine h3 w (h2 w (List.mem_filter.mpr ⟨hw, ?_⟩))
    show (!goodWord w) = true
    cases hgw : goodWord w
    · rfl
    · exact absurd hgw g
theorem vx_c {args : Array Value} {s : State} {w : Cond} {B : List Cond} (h : w.before args s = true) (t : ∀ w ∈ B, w.before args s = true) : ∀ w' ∈ w :: B, w'.before args s = true := fun w' h' => (List.mem_cons.mp h').elim (fun e => by rw [e]; exact h) (t w')
theorem vx_n {args : Array Value} {s : State} : ∀ w ∈ ([] : List Cond), w.before args s = true := fun _ h => nomatch h
theorem vx_own {args : Array Value} {s : State} {L : List Cond} (h1 : ∀ w ∈ L.filter vx_no, w.before args s = true)
    (hU : (Cond.isRef (.static Bundle.tN "UNASSIGNED_STACK" Bundle.steD)).before args s = true) (hN : (Cond.isRef (.static Bundle.tN "SUPPRESSED_SENTINEL" Bundle.listD)).before args s = true)
    (lU : (Cond.laysStatic Bundle.tN "UNASSIGNED_STACK" Bundle.steD).before args s = true) (lN : (Cond.laysStatic Bundle.tN "SUPPRESSED_SENTINEL" Bundle.listD).before args s = true) : ∀ w ∈ L, w.before args s = true := by
  intro w hw
  by_cases e1 : w = .isRef (.static Bundle.tN "UNASSIGNED_STACK" Bundle.steD)
  · rw [e1]; exact hU
  · by_cases e2 : w = .isRef (.static Bundle.tN "SUPPRESSED_SENTINEL" Bundle.listD)
    · rw [e2]; exact hN
    · by_cases e3 : w = .laysStatic Bundle.tN "UNASSIGNED_STACK" Bundle.steD
      · rw [e3]; exact lU
      · by_cases e4 : w = .laysStatic Bundle.tN "SUPPRESSED_SENTINEL" Bundle.listD
        · rw [e4]; exact lN
        · exact h1 w (List.mem_filter.mpr ⟨hw, by unfold vx_no; rw [decide_eq_true e1, decide_eq_true e2, decide_eq_true e3, decide_eq_true e4]; rfl⟩)
/-- where a static field lies, its class's statics cell in H -/
def vx_L (C n d : String) (A : Nat → Prop) (U : State) (H : Heap) : Prop := ∃ (c : ClassId) (k : Class) (i : Nat) (f : Field) (a : Nat) (cell : Cell), U.vm.findClass C = some c ∧ U.fieldFound? C n d = some (c, k, i, f) ∧ f.isStatic = true ∧ k.statics = some a ∧ H[a]? = some cell ∧ cell.vm.isStatics = true ∧ cell.cls = c ∧ f.slot < cell.slots.size ∧ k.staticTypes[f.slot]? = some f.type ∧ ¬ A a
theorem vx_L.moved {C n d : String} {A : Nat → Prop} {u U : State} {H : Heap} (hvm : u.vm.Alike U.vm) (h : vx_L C n d A u H) : vx_L C n d A U H := by
  obtain ⟨c, k, i, f, a, cell, h1, h2, h3, h4, h5, h6, h7, h8, h9, h10⟩ := h
  obtain ⟨k', hi', he⟩ := State.fieldFound?_setVm hvm h2
  exact ⟨c, k', i, f, a, cell, by rw [hvm.findClass]; exact h1, hi', h3, by rw [he]; exact h4, h5, h6, h7, h8, by rw [he]; exact h9, h10⟩
theorem vx_L.kept {C n d : String} {A : Nat → Prop} {U : State} {H H1 : Heap} (h : vx_L C n d A U H) (hq : ∀ a : Nat, a < H.size → ¬ A a → H1[a]? = H[a]?) : vx_L C n d A U H1 := by
  obtain ⟨c, k, i, f, a, cell, h1, h2, h3, h4, h5, h6, h7, h8, h9, h10⟩ := h
  exact ⟨c, k, i, f, a, cell, h1, h2, h3, h4, by rw [hq a (Array.getElem?_eq_some_iff.mp h5).1 h10]; exact h5, h6, h7, h8, h9, h10⟩
theorem vx_L.narrow {C n d : String} {A B : Nat → Prop} {U : State} {H : Heap} (h : vx_L C n d A U H) (hAB : ∀ q, B q → A q) : vx_L C n d B U H := by
  obtain ⟨c, k, i, f, a, cell, h1, h2, h3, h4, h5, h6, h7, h8, h9, h10⟩ := h
  exact ⟨c, k, i, f, a, cell, h1, h2, h3, h4, h5, h6, h7, h8, h9, fun z => h10 (hAB _ z)⟩
theorem vx_L.word {C n d : String} {A : Nat → Prop} {s : State} {args : Array Value} (h : vx_L C n d A s s.heap) : (Cond.laysStatic C n d).before args s = true := by
  obtain ⟨c, k, i, f, a, cell, h1, h2, h3, h4, h5, h6, h7, h8, h9, -⟩ := h
  show (Cond.laysStatic C n d).holds args s none s [] = true
  exact Cond.laysStatic_of h1 h2 h3 h4 h5 h6 h7 h8 h9
/-- .. and what it holds: null or some reference -/
def vx_Zq (C n d : String) (A : Nat → Prop) (U : State) (H : Heap) : Prop := va_Zq C n d A U H ∧ vx_L C n d A U H
theorem vx_Zq.moved {C n d : String} {A : Nat → Prop} {u U : State} {H : Heap} (hvm : u.vm.Alike U.vm) (h : vx_Zq C n d A u H) : vx_Zq C n d A U H := ⟨va_Zq.moved hvm h.1, vx_L.moved hvm h.2⟩
theorem vx_Zq.kept {C n d : String} {A : Nat → Prop} {U : State} {H H1 : Heap} (h : vx_Zq C n d A U H) (hq : ∀ a : Nat, a < H.size → ¬ A a → H1[a]? = H[a]?) : vx_Zq C n d A U H1 := ⟨va_Zq.kept h.1 hq, vx_L.kept h.2 hq⟩
theorem vx_Zq.narrow {C n d : String} {A B : Nat → Prop} {U : State} {H : Heap} (h : vx_Zq C n d A U H) (hAB : ∀ q, B q → A q) : vx_Zq C n d B U H := ⟨va_Zq.narrow h.1 hAB, vx_L.narrow h.2 hAB⟩
theorem vx_Zqof {args : Array Value} {s : State} {C n d : String} {A : Nat → Prop} (hl : (Cond.laysStatic C n d).before args s = true) (hini : (Cond.initialized C).before args s = true) (h : (Cond.isRef (.static C n d)).before args s = true) (hA : ∀ a : Nat, a < s.heap.size → ¬ A a) : vx_Zq C n d A s s.heap := by
  refine ⟨va_Zqof hl hini h hA, ?_⟩
  obtain ⟨c, k, i, f, a, cell, h1, h2, h3, h4, h5, h6, h7, h8, h9⟩ := Cond.laysStatic_spec hl
  exact ⟨c, k, i, f, a, cell, h1, h2, h3, h4, h5, h6, h7, h8, h9, hA a (Array.getElem?_eq_some_iff.mp h5).1⟩
theorem vx_isRef {C n d : String} {v : Value} {A : Nat → Prop} {s : State} {args : Array Value} (h : va_Z C n d v A s s.heap) (hv : v.isRef = true) : (Cond.isRef (.static C n d)).before args s = true := by
  obtain ⟨cf, kf, fi, f, a, cell, h1, h2, h3, h4, h5, h6, h7, -⟩ := h
  have he : (Term.static C n d).eval args s none [] s = some v := by
    simp [Term.eval, State.fieldNamed?, h1, h2, h4, h5, h6, h7]
  simp only [Cond.before, Cond.holds, Cond.value, he]
  cases v <;> simp_all [Value.isRef]
theorem vx_isRefq {C n d : String} {A : Nat → Prop} {s : State} {args : Array Value} (h : va_Zq C n d A s s.heap) : (Cond.isRef (.static C n d)).before args s = true := by
  rcases h with h | ⟨t, h⟩
  · exact vx_isRef h rfl
  · exact vx_isRef h rfl
/-- the same frame, seen from here: as if the method were called anew in this heap -/
theorem vx_rebase {T : State} (X : Stand p l e R s m args below meth c T locs cells slots) {R' : Room} (hf : R'.frames ≤ R.frames) (hl : R'.locals ≤ R.locals) (hc : cells + R'.cells ≤ R.cells) (hs : slots + R'.slots ≤ R.slots) :
    Stand p l e R' ((T.setVm s.vm).setFrames (.invoking m args :: below)) m args below meth c T [] 0 0 := by
  have htop : (T.setVm s.vm).topJava?.isSome := X.here.top
  have hF : ((T.setVm s.vm).setFrames (.invoking m args :: below)).frames = .invoking m args :: below := State.frames_setFrames _ (State.cur_lt_of_top htop)
  obtain ⟨g₀, hg0⟩ := Option.isSome_iff_exists.mp htop
  obtain ⟨r, hr⟩ := State.topJava?_eq_some.mp hg0
  have hl9 : e.platform.stackLimits (T.setVm s.vm).me = e.platform.stackLimits s.me := X.limits
  have hb9 : (T.setVm s.vm).me.stackBytes = s.me.stackBytes := X.bytes
  refine ⟨X.admits, X.cas, X.clock, hF, ?_, X.hears, X.method, X.code, X.here, X.tail, X.warmed, ?_, ?_, ?_⟩
  · have h := X.room
    have hU : ((T.setVm s.vm).setFrames (.invoking m args :: below)).localsInUse = s.localsInUse := by
      rw [State.localsInUse_invoking hF (meth := meth) (c := c) X.method X.code, State.localsInUse_invoking X.frames X.method X.code]
    simp only [State.hasRoom, Bool.and_eq_true, decide_eq_true_eq] at h ⊢
    obtain ⟨⟨⟨⟨h1, h2, h3, h4, h5, h6⟩, h7⟩, h8⟩, h9⟩ := h
    rw [X.frames, List.length_cons] at h2 h3
    have q1 := X.heapSize
    have q2 := X.used
    simp only [hF, hU, List.length_cons, State.stackLimits_setFrames, State.stackBytes_setFrames, hl9, hb9]
    refine ⟨⟨⟨⟨by omega, by omega, by omega, by omega, by omega, h6⟩, ?_⟩, ?_⟩, X.book⟩
    · show T.heap.size + R'.cells ≤ e.platform.maxCells
      omega
    · show T.slotsUsed + R'.slots ≤ e.platform.maxSlots
      omega
  · rw [State.stackLimits_setFrames]; rfl
  · rw [State.stackBytes_setFrames]; rfl
  · refine ⟨?_, Nat.le_refl _, Nat.le_refl _, ?_, ?_, fun a c9 h9 => ⟨c9, h9, rfl, rfl, fun _ _ => rfl⟩⟩
    · obtain ⟨t, ht, -⟩ := State.frames_cons hr
      show T.setVm s.vm = { ((T.setVm s.vm).setFrames (.invoking m args :: below)).setFrames (T.setVm s.vm).frames with heap := T.heap, slotsUsed := T.slotsUsed }
      rw [State.setFrames_setFrames, State.setFrames_self ht]
      rfl
    · show T.slotsUsed = T.slotsUsed + ((T.heap.toList.drop T.heap.size).map (·.slots.size)).sum
      rw [List.drop_eq_nil_of_le (Nat.le_of_eq Array.length_toList)]
      rfl
    · show ((T.heap.toList.drop T.heap.size).map (·.slots.size)).sum ≤ 0
      rw [List.drop_eq_nil_of_le (Nat.le_of_eq Array.length_toList)]
      exact Nat.le_refl _
/-- 'throw new E()': new; dup; invokespecial; athrow -/
theorem vx_throw0 {cc : ByteArray} {pc : Nat} (hexec : p.tables.exec = Jvm.exec) (hb : c.code = cc) (hl : l.stackTraces = false) {own cls : String} {names : List String} {ik ic mc ms : Nat} {A : Nat → Prop}
    (hown : s.vm.findClass own = some m.cls) (hcls : Bundle.fit cls = true) (hnames : ∀ n ∈ names, Bundle.fit n = true)
    (hk : (Cond.classLink own ik cls).before args s = true) (hini : (Cond.initialized cls).before args s = true) (hat : ∀ w ∈ vx_at0 own ic cls names, w.before args s = true)
    (hgood : ∀ w ∈ Cond.classLink own ik cls :: Cond.initialized cls :: vx_at0 own ic cls names, vx_ot w = true)
    (hU : vx_Zq Bundle.tN "UNASSIGNED_STACK" Bundle.steD A s s.heap) (hN : vx_Zq Bundle.tN "SUPPRESSED_SENTINEL" Bundle.listD A s s.heap) (hS : va_S A s.heap H locs) (hsize : ls.size = c.maxLocals)
    (d0 : decode cc pc = .ok (.new ik, 3)) (d3 : decode cc (pc + 3) = .ok (.dup, 1)) (d4 : decode cc (pc + 4) = .ok (.invokespecial ic, 3)) (d7 : decode cc (pc + 7) = .ok (.athrow, 1))
    (hout : ∀ x ∈ c.exceptionTable.toList, covers x (pc + 7) = false)
    (hRframes : names.length + 3 < R.frames) (hRlocals : (rest.map fun v => v.category).sum + (13 * (names.length + 1) + 42) ≤ R.locals) (hRcells : cells + 1 ≤ R.cells) (hRslots : slots + 6 ≤ R.slots) (hlocks : meth.locks = false)
    (hx : ∀ t : State, s.vm.Alike t.vm → H.size ≤ t.heap.size → (∀ q : Nat, q < H.size → t.heap[q]? = H[q]?) → XC cls s t)
    (hf : ∀ z ∈ locs, free z.base) (hc : cells + 1 ≤ mc) (hs : slots + 6 ≤ ms) :
    W p l e R s m args below meth c H locs cells slots (vx_MQ below Qc XC args s mc ms free) (F0 m pc ls rest) := by
  intro T hT X
  have htr : e.platform.stackTraces = false := (show e.platform.stackTraces = l.stackTraces by rw [X.admits.platform]).trans hl
  have Y := vx_rebase X (R' := { frames := R.frames, locals := R.locals, cells := 1, slots := 6 }) (Nat.le_refl _) (Nat.le_refl _) hRcells hRslots
  obtain ⟨s', hA⟩ : ∃ z, z = (T.setVm s.vm).setFrames (.invoking m args :: below) := ⟨_, rfl⟩
  rw [← hA] at Y
  have hvm : s'.vm = s.vm := by rw [hA]; rfl
  have hhp : s'.heap = H := by rw [hA]; exact hT
  have hW0 : s.WarmedH s'.vm := by rw [hvm]; exact State.WarmedH.refl s
  have hat' : ∀ w ∈ vx_at0 own ic cls names, w.before args s' = true := fun w hw => vx_ot_at hW0 hvm.symm (hgood w (List.mem_cons_of_mem _ (List.mem_cons_of_mem _ hw))) (hat w hw)
  have hk' : (Cond.classLink own ik cls).before args s' = true := vx_ot_at hW0 hvm.symm (hgood _ List.mem_cons_self) hk
  have hini' : (Cond.initialized cls).before args s' = true := vx_ot_at hW0 hvm.symm (hgood _ (List.mem_cons_of_mem _ List.mem_cons_self)) hini
  have hU' : vx_Zq Bundle.tN "UNASSIGNED_STACK" Bundle.steD A s' s'.heap := by rw [hhp]; exact vx_Zq.moved hW0.alike (hU.kept hS.2.1)
  have hN' : vx_Zq Bundle.tN "SUPPRESSED_SENTINEL" Bundle.listD A s' s'.heap := by rw [hhp]; exact vx_Zq.moved hW0.alike (hN.kept hS.2.1)
  have h : ∀ w ∈ Bundle.ownAtoms0 own ic cls names, w.before args s' = true := vx_own hat' (vx_isRefq hU'.1) (vx_isRefq hN'.1) hU'.2.word hN'.2.word
  have hown' : s'.vm.findClass own = some m.cls := by rw [hvm]; exact hown
  have hins : (Cond.instantiable cls 6).before args s' = true := h _ (by simp [Bundle.ownAtoms0])
  obtain ⟨vm₁, cX, kX, hfX, hkX, -, -, X₁, st1⟩ := Y.newCold hexec (own := own) (C := cls) (index := ik) (n := 6) hown' hk' hins hini'
    (g := F0 m pc ls rest) rfl (by rw [hb]; exact d0) (Nat.le_refl _) (Nat.le_refl _)
  generalize hT1 : (T.setVm vm₁).pushCell { cls := cX, slots := kX.instanceTypes.map defaultValue, vm := .none } = T1 at X₁ st1
  have hcat : (Value.ref T.heap.size).category = 1 := rfl
  have hcellA : T1.heap[T.heap.size]? = some (freshCell cX kX) := by rw [← hT1]; exact State.heap_pushCell_size _ _
  have d3' : decode c.code (pc + 3) = .ok (.dup, 1) := by rw [hb]; exact d3
  obtain ⟨U, hsteps, hrun, hend, hW, hsame, ce, hce, hO⟩ := X₁.ctorThrow0 hexec htr (own := own) (cls := cls) (names := names) (ic := ic) hown' hcls hnames h (fun x hx => nomatch hx) hfX hkX hcellA (by rw [hhp, hT]; exact Nat.le_refl _)
    (g := { method := m, pc := pc + 4, locals := ls, stack := .ref T.heap.size :: .ref T.heap.size :: rest, locked := none }) rfl hsize rfl rfl (rest := rest) rfl
    (by rw [hb]; exact d4) (by rw [hb]; exact d7) hout hRframes (by simp only [List.map_cons, List.sum_cons, hcat]; omega) hlocks
  obtain ⟨f1, f2⟩ := vx_frame hsame
  rw [hhp] at f1 f2
  have hWs : s.WarmedH U.vm := State.WarmedH.trans hW0 hW
  have hcl : s.vm.findClass cls = some ce.cls := by
    have h9 := hO.cls
    rw [hvm] at h9
    exact h9
  have hall : s.sameButNew ({ U with vm := s.vm } : State) locs mc ms := by
    subst hA
    obtain ⟨e1, e2⟩ := hsame
    rw [State.setFrames_setFrames] at e1
    have h2 : (T.setVm s.vm).sameButNew ({ U with vm := s.vm } : State) [] (0 + 1) (0 + 6) := ⟨e1, e2⟩
    have h3 := X.same.trans h2
    rw [List.append_nil] at h3
    exact h3.mono hc hs
  refine ⟨U, ?_, .threw T.heap.size, hrun, hend, Or.inr ⟨T.heap.size, rfl, cls, ce, locs, hx U hWs.alike f1 (fun q hq => f2 q hq (fun z hz => nomatch hz)), hce, hO.vm, hcl, hWs, hall, hf⟩⟩
  refine st1 _ ?_
  show Steps p.tables e below (T1.setTop { method := m, pc := pc + 3, locals := ls, stack := .ref T.heap.size :: rest, locked := none }) _
  jvm_step X₁.here [X₁.here.top, hexec, d3', Value.category]
  exact hsteps
/-- 'throw new E("text")': new; dup; ldc; invokespecial; athrow -/
theorem vx_throwS {cc : ByteArray} {pc : Nat} (hexec : p.tables.exec = Jvm.exec) (hb : c.code = cc) (hl : l.stackTraces = false) {own cls text : String} {names : List String} {ik is ic mc ms sa : Nat} {A : Nat → Prop}
    (hown : s.vm.findClass own = some m.cls) (hcls : Bundle.fit cls = true) (hnames : ∀ n ∈ names, Bundle.fit n = true)
    (hk : (Cond.classLink own ik cls).before args s = true) (hini : (Cond.initialized cls).before args s = true) (hstr : vk_R own is text sa s) (hat : ∀ w ∈ vx_atS own ic cls names, w.before args s = true)
    (hgood : ∀ w ∈ Cond.classLink own ik cls :: Cond.initialized cls :: vx_atS own ic cls names, vx_ot w = true)
    (hU : vx_Zq Bundle.tN "UNASSIGNED_STACK" Bundle.steD A s s.heap) (hN : vx_Zq Bundle.tN "SUPPRESSED_SENTINEL" Bundle.listD A s s.heap) (hS : va_S A s.heap H locs) (hsize : ls.size = c.maxLocals)
    (d0 : decode cc pc = .ok (.new ik, 3)) (d3 : decode cc (pc + 3) = .ok (.dup, 1)) (d4 : decode cc (pc + 4) = .ok (.ldc is, 2)) (d6 : decode cc (pc + 6) = .ok (.invokespecial ic, 3)) (d9 : decode cc (pc + 9) = .ok (.athrow, 1))
    (hout : ∀ x ∈ c.exceptionTable.toList, covers x (pc + 9) = false)
    (hRframes : names.length + 3 < R.frames) (hRlocals : (rest.map fun v => v.category).sum + (13 * (names.length + 1) + 43) ≤ R.locals) (hRcells : cells + 1 ≤ R.cells) (hRslots : slots + 6 ≤ R.slots) (hlocks : meth.locks = false)
    (hx : ∀ t : State, s.vm.Alike t.vm → H.size ≤ t.heap.size → (∀ q : Nat, q < H.size → t.heap[q]? = H[q]?) → XC cls s t)
    (hf : ∀ z ∈ locs, free z.base) (hc : cells + 1 ≤ mc) (hs : slots + 6 ≤ ms) :
    W p l e R s m args below meth c H locs cells slots (vx_MQ below Qc XC args s mc ms free) (F0 m pc ls rest) := by
  intro T hT X
  have htr : e.platform.stackTraces = false := (show e.platform.stackTraces = l.stackTraces by rw [X.admits.platform]).trans hl
  have Y := vx_rebase X (R' := { frames := R.frames, locals := R.locals, cells := 1, slots := 6 }) (Nat.le_refl _) (Nat.le_refl _) hRcells hRslots
  obtain ⟨s', hA⟩ : ∃ z, z = (T.setVm s.vm).setFrames (.invoking m args :: below) := ⟨_, rfl⟩
  rw [← hA] at Y
  have hvm : s'.vm = s.vm := by rw [hA]; rfl
  have hhp : s'.heap = H := by rw [hA]; exact hT
  have hW0 : s.WarmedH s'.vm := by rw [hvm]; exact State.WarmedH.refl s
  have hat' : ∀ w ∈ vx_atS own ic cls names, w.before args s' = true := fun w hw => vx_ot_at hW0 hvm.symm (hgood w (List.mem_cons_of_mem _ (List.mem_cons_of_mem _ hw))) (hat w hw)
  have hk' : (Cond.classLink own ik cls).before args s' = true := vx_ot_at hW0 hvm.symm (hgood _ List.mem_cons_self) hk
  have hini' : (Cond.initialized cls).before args s' = true := vx_ot_at hW0 hvm.symm (hgood _ (List.mem_cons_of_mem _ List.mem_cons_self)) hini
  have hU' : vx_Zq Bundle.tN "UNASSIGNED_STACK" Bundle.steD A s' s'.heap := by rw [hhp]; exact vx_Zq.moved hW0.alike (hU.kept hS.2.1)
  have hN' : vx_Zq Bundle.tN "SUPPRESSED_SENTINEL" Bundle.listD A s' s'.heap := by rw [hhp]; exact vx_Zq.moved hW0.alike (hN.kept hS.2.1)
  have h : ∀ w ∈ Bundle.ownAtoms own ic cls names, w.before args s' = true := vx_own hat' (vx_isRefq hU'.1) (vx_isRefq hN'.1) hU'.2.word hN'.2.word
  have hown' : s'.vm.findClass own = some m.cls := by rw [hvm]; exact hown
  have hins : (Cond.instantiable cls 6).before args s' = true := h _ (by simp [Bundle.ownAtoms])
  obtain ⟨vm₁, cX, kX, hfX, hkX, -, -, X₁, st1⟩ := Y.newCold hexec (own := own) (C := cls) (index := ik) (n := 6) hown' hk' hins hini'
    (g := F0 m pc ls rest) rfl (by rw [hb]; exact d0) (Nat.le_refl _) (Nat.le_refl _)
  generalize hT1 : (T.setVm vm₁).pushCell { cls := cX, slots := kX.instanceTypes.map defaultValue, vm := .none } = T1 at X₁ st1
  have hcat : (Value.ref T.heap.size).category = 1 := rfl
  have hcellA : T1.heap[T.heap.size]? = some (freshCell cX kX) := by rw [← hT1]; exact State.heap_pushCell_size _ _
  have d3' : decode c.code (pc + 3) = .ok (.dup, 1) := by rw [hb]; exact d3
  have d4' : decode c.code (pc + 4) = .ok (.ldc is, 2) := by rw [hb]; exact d4
  have hstr' : vk_R own is text sa s' := vk_R.warm hW0 hstr
  obtain ⟨U, hsteps, hrun, hend, hW, hsame, ce, hce, hO⟩ := X₁.ctorThrowS hexec htr (own := own) (cls := cls) (names := names) (ic := ic) hown' hcls hnames h (fun x hx => nomatch hx) hfX hkX hcellA (by rw [hhp, hT]; exact Nat.le_refl _) (msg := .ref sa) rfl
    (g := { method := m, pc := pc + 6, locals := ls, stack := .ref sa :: .ref T.heap.size :: .ref T.heap.size :: rest, locked := none }) rfl hsize rfl rfl (rest := rest) rfl
    (by rw [hb]; exact d6) (by rw [hb]; exact d9) hout hRframes (by simp only [List.map_cons, List.sum_cons, hcat]; omega) hlocks
  obtain ⟨f1, f2⟩ := vx_frame hsame
  rw [hhp] at f1 f2
  have hWs : s.WarmedH U.vm := State.WarmedH.trans hW0 hW
  have hcl : s.vm.findClass cls = some ce.cls := by
    have h9 := hO.cls
    rw [hvm] at h9
    exact h9
  have hall : s.sameButNew ({ U with vm := s.vm } : State) locs mc ms := by
    subst hA
    obtain ⟨e1, e2⟩ := hsame
    rw [State.setFrames_setFrames] at e1
    have h2 : (T.setVm s.vm).sameButNew ({ U with vm := s.vm } : State) [] (0 + 1) (0 + 6) := ⟨e1, e2⟩
    have h3 := X.same.trans h2
    rw [List.append_nil] at h3
    exact h3.mono hc hs
  refine ⟨U, ?_, .threw T.heap.size, hrun, hend, Or.inr ⟨T.heap.size, rfl, cls, ce, locs, hx U hWs.alike f1 (fun q hq => f2 q hq (fun z hz => nomatch hz)), hce, hO.vm, hcl, hWs, hall, hf⟩⟩
  refine st1 _ ?_
  show Steps p.tables e below (T1.setTop { method := m, pc := pc + 3, locals := ls, stack := .ref T.heap.size :: rest, locked := none }) _
  jvm_step X₁.here [X₁.here.top, hexec, d3', Value.category]
  exact X₁.ldcString hexec (own := own) (text := text) (index := is) (a := sa) hown' hstr'.1 hstr'.2
    (g := { method := m, pc := pc + 4, locals := ls, stack := .ref T.heap.size :: .ref T.heap.size :: rest, locked := none }) rfl d4' _ hsteps
/-- 'throw new E("text")', the text by a wide index -/
theorem vx_throwSW {cc : ByteArray} {pc : Nat} (hexec : p.tables.exec = Jvm.exec) (hb : c.code = cc) (hl : l.stackTraces = false) {own cls text : String} {names : List String} {ik is ic mc ms sa : Nat} {A : Nat → Prop}
    (hown : s.vm.findClass own = some m.cls) (hcls : Bundle.fit cls = true) (hnames : ∀ n ∈ names, Bundle.fit n = true)
    (hk : (Cond.classLink own ik cls).before args s = true) (hini : (Cond.initialized cls).before args s = true) (hstr : vk_R own is text sa s) (hat : ∀ w ∈ vx_atS own ic cls names, w.before args s = true)
    (hgood : ∀ w ∈ Cond.classLink own ik cls :: Cond.initialized cls :: vx_atS own ic cls names, vx_ot w = true)
    (hU : vx_Zq Bundle.tN "UNASSIGNED_STACK" Bundle.steD A s s.heap) (hN : vx_Zq Bundle.tN "SUPPRESSED_SENTINEL" Bundle.listD A s s.heap) (hS : va_S A s.heap H locs) (hsize : ls.size = c.maxLocals)
    (d0 : decode cc pc = .ok (.new ik, 3)) (d3 : decode cc (pc + 3) = .ok (.dup, 1)) (d4 : decode cc (pc + 4) = .ok (.ldc_w is, 3)) (d7 : decode cc (pc + 7) = .ok (.invokespecial ic, 3)) (d10 : decode cc (pc + 10) = .ok (.athrow, 1))
    (hout : ∀ x ∈ c.exceptionTable.toList, covers x (pc + 10) = false)
    (hRframes : names.length + 3 < R.frames) (hRlocals : (rest.map fun v => v.category).sum + (13 * (names.length + 1) + 43) ≤ R.locals) (hRcells : cells + 1 ≤ R.cells) (hRslots : slots + 6 ≤ R.slots) (hlocks : meth.locks = false)
    (hx : ∀ t : State, s.vm.Alike t.vm → H.size ≤ t.heap.size → (∀ q : Nat, q < H.size → t.heap[q]? = H[q]?) → XC cls s t)
    (hf : ∀ z ∈ locs, free z.base) (hc : cells + 1 ≤ mc) (hs : slots + 6 ≤ ms) :
    W p l e R s m args below meth c H locs cells slots (vx_MQ below Qc XC args s mc ms free) (F0 m pc ls rest) := by
  intro T hT X
  have htr : e.platform.stackTraces = false := (show e.platform.stackTraces = l.stackTraces by rw [X.admits.platform]).trans hl
  have Y := vx_rebase X (R' := { frames := R.frames, locals := R.locals, cells := 1, slots := 6 }) (Nat.le_refl _) (Nat.le_refl _) hRcells hRslots
  obtain ⟨s', hA⟩ : ∃ z, z = (T.setVm s.vm).setFrames (.invoking m args :: below) := ⟨_, rfl⟩
  rw [← hA] at Y
  have hvm : s'.vm = s.vm := by rw [hA]; rfl
  have hhp : s'.heap = H := by rw [hA]; exact hT
  have hW0 : s.WarmedH s'.vm := by rw [hvm]; exact State.WarmedH.refl s
  have hat' : ∀ w ∈ vx_atS own ic cls names, w.before args s' = true := fun w hw => vx_ot_at hW0 hvm.symm (hgood w (List.mem_cons_of_mem _ (List.mem_cons_of_mem _ hw))) (hat w hw)
  have hk' : (Cond.classLink own ik cls).before args s' = true := vx_ot_at hW0 hvm.symm (hgood _ List.mem_cons_self) hk
  have hini' : (Cond.initialized cls).before args s' = true := vx_ot_at hW0 hvm.symm (hgood _ (List.mem_cons_of_mem _ List.mem_cons_self)) hini
  have hU' : vx_Zq Bundle.tN "UNASSIGNED_STACK" Bundle.steD A s' s'.heap := by rw [hhp]; exact vx_Zq.moved hW0.alike (hU.kept hS.2.1)
  have hN' : vx_Zq Bundle.tN "SUPPRESSED_SENTINEL" Bundle.listD A s' s'.heap := by rw [hhp]; exact vx_Zq.moved hW0.alike (hN.kept hS.2.1)
  have h : ∀ w ∈ Bundle.ownAtoms own ic cls names, w.before args s' = true := vx_own hat' (vx_isRefq hU'.1) (vx_isRefq hN'.1) hU'.2.word hN'.2.word
  have hown' : s'.vm.findClass own = some m.cls := by rw [hvm]; exact hown
  have hins : (Cond.instantiable cls 6).before args s' = true := h _ (by simp [Bundle.ownAtoms])
  obtain ⟨vm₁, cX, kX, hfX, hkX, -, -, X₁, st1⟩ := Y.newCold hexec (own := own) (C := cls) (index := ik) (n := 6) hown' hk' hins hini'
    (g := F0 m pc ls rest) rfl (by rw [hb]; exact d0) (Nat.le_refl _) (Nat.le_refl _)
  generalize hT1 : (T.setVm vm₁).pushCell { cls := cX, slots := kX.instanceTypes.map defaultValue, vm := .none } = T1 at X₁ st1
  have hcat : (Value.ref T.heap.size).category = 1 := rfl
  have hcellA : T1.heap[T.heap.size]? = some (freshCell cX kX) := by rw [← hT1]; exact State.heap_pushCell_size _ _
  have d3' : decode c.code (pc + 3) = .ok (.dup, 1) := by rw [hb]; exact d3
  have d4' : decode c.code (pc + 4) = .ok (.ldc_w is, 3) := by rw [hb]; exact d4
  have hstr' : vk_R own is text sa s' := vk_R.warm hW0 hstr
  obtain ⟨U, hsteps, hrun, hend, hW, hsame, ce, hce, hO⟩ := X₁.ctorThrowS hexec htr (own := own) (cls := cls) (names := names) (ic := ic) hown' hcls hnames h (fun x hx => nomatch hx) hfX hkX hcellA (by rw [hhp, hT]; exact Nat.le_refl _) (msg := .ref sa) rfl
    (g := { method := m, pc := pc + 7, locals := ls, stack := .ref sa :: .ref T.heap.size :: .ref T.heap.size :: rest, locked := none }) rfl hsize rfl rfl (rest := rest) rfl
    (by rw [hb]; exact d7) (by rw [hb]; exact d10) hout hRframes (by simp only [List.map_cons, List.sum_cons, hcat]; omega) hlocks
  obtain ⟨f1, f2⟩ := vx_frame hsame
  rw [hhp] at f1 f2
  have hWs : s.WarmedH U.vm := State.WarmedH.trans hW0 hW
  have hcl : s.vm.findClass cls = some ce.cls := by
    have h9 := hO.cls
    rw [hvm] at h9
    exact h9
  have hall : s.sameButNew ({ U with vm := s.vm } : State) locs mc ms := by
    subst hA
    obtain ⟨e1, e2⟩ := hsame
    rw [State.setFrames_setFrames] at e1
    have h2 : (T.setVm s.vm).sameButNew ({ U with vm := s.vm } : State) [] (0 + 1) (0 + 6) := ⟨e1, e2⟩
    have h3 := X.same.trans h2
    rw [List.append_nil] at h3
    exact h3.mono hc hs
  refine ⟨U, ?_, .threw T.heap.size, hrun, hend, Or.inr ⟨T.heap.size, rfl, cls, ce, locs, hx U hWs.alike f1 (fun q hq => f2 q hq (fun z hz => nomatch hz)), hce, hO.vm, hcl, hWs, hall, hf⟩⟩
  refine st1 _ ?_
  show Steps p.tables e below (T1.setTop { method := m, pc := pc + 3, locals := ls, stack := .ref T.heap.size :: rest, locked := none }) _
  jvm_step X₁.here [X₁.here.top, hexec, d3', Value.category]
  exact X₁.ldcStringW hexec (own := own) (text := text) (index := is) (a := sa) hown' hstr'.1 hstr'.2
    (g := { method := m, pc := pc + 4, locals := ls, stack := .ref T.heap.size :: .ref T.heap.size :: rest, locked := none }) rfl d4' _ hsteps
end Ends
section Bodies
variable {l : Launch}
theorem vx_ofW {y : MethodName} {ws ws' : List Cond} {rm : Room} {Pc : Array Value → State → Prop} {Qc : Array Value → State → Outcome → State → Prop} {XC : String → State → State → Prop} {mc ms : Nat} {free : Addr → Prop} {cc : ByteArray} {maxL : Nat} {ret : Option FieldType}
    (hy : plainName y.cls = true) (hw : ws = Cond.code y cc maxL ret :: ws')
    (body : ∀ p e s m args below meth c s₁, BodyLoose p l y (headSpec ws rm) cc maxL ret e s m args below meth c s₁ → c.maxLocals = maxL → (∀ x ∈ c.exceptionTable.toList, False) → Pc args s →
      W p l e (headSpec ws rm).room s m args below meth c s.heap [] 0 0 (vx_MQ below Qc XC args s mc ms free) (entryFrame m args maxL)) : vx_Met l y ws rm Pc Qc XC mc ms free := by
  refine MetFree.of_bodyS (code := cc) (maxLocals := maxL) (ret := ret) hy ?_ ?_
  · intro args s m h hn
    obtain ⟨meth, c, h1, h2, h3, h4, h5, h6, -, -⟩ := Cond.code_spec hn (atoms_spec (ws := ws) h _ (by rw [hw]; exact List.mem_cons_self))
    exact ⟨meth, c, h1, h2, h3, h4, h5, h6⟩
  · intro p e s m args below meth c s₁ B hml hP _
    have hh0 : s₁.heap = s.heap := by rw [B.state]; rfl
    have ht : ∀ x ∈ c.exceptionTable.toList, False := by
      obtain ⟨meth9, c9, h1, h2, -, -, -, -, h7, -⟩ := Cond.code_spec B.named (atoms_spec (ws := ws) B.pre _ (by rw [hw]; exact List.mem_cons_self))
      cases Option.some.inj (h1.symm.trans B.method)
      cases Option.some.inj (h2.symm.trans (Stand.of_body B).code)
      intro x hx
      rw [Array.isEmpty_iff.mp h7] at hx
      cases hx
    obtain ⟨t, a1, o, b1, b2, b3⟩ := body p e s m args below meth c s₁ B hml ht hP s₁ hh0 (Stand.of_body B)
    exact ⟨t, o, a1, b1, b2, b3⟩
/-- the table of a body with handlers -/
theorem vx_table {p : Program} {x y : MethodName} {S : Spec} {cc bytes : ByteArray} {maxL maxL' : Nat} {ret ret' : Option FieldType} {e : Env} {s s₁ : State} {m : MethodId} {args : Array Value} {below : List Frame} {meth : Method} {c : Code} {hh : List (Nat × Nat × Nat × Nat)}
    (B : BodyLoose p l y S cc maxL ret e s m args below meth c s₁) (h : (Cond.codeWith y bytes maxL' ret' hh).before args s = true) : c.exceptionTable.toList = tableOf hh := by
  obtain ⟨m9, meth9, c9, hn9, h1, h2, -, -, h6, -⟩ := Cond.codeWith_spec h
  cases Option.some.inj (hn9.symm.trans B.named)
  cases Option.some.inj (h1.symm.trans B.method)
  cases Option.some.inj (h2.symm.trans (Stand.of_body B).code)
  rw [← h6, table_eq]
end Bodies
end VXA
/-! ===== END ===== -/
/-! ===== BEGIN a static call of a method with an exception table ===== -/
section VXS
variable {p : Program} {l : Launch} {e : Env} {R : Room} {s : State} {m : MethodId} {args : Array Value} {below : List Frame} {meth : Method} {c : Code} {T : State} {H : Heap} {locs : List Loc} {cells slots : Nat}
abbrev vx_CSW (R : Room) (s : State) (args : Array Value) (own : String) (index : Nat) (y : MethodName) (bytes : ByteArray) (maxL : Nat) (ret : Option FieldType) (hh : List (Nat × Nat × Nat × Nat)) (ws : List Cond) (rm : Room) (mc ms n : Nat) : Prop :=
  (rm.cells = mc ∧ rm.slots = ms ∧ rm.frames + 1 ≤ R.frames ∧ 8 + (maxL + 11) + rm.locals ≤ R.locals ∧ (∀ w ∈ ws, ∀ (a' : Array Value) (U : State), s.WarmedH U.vm → w.before a' U = true) ∧ Cond.codeWith y bytes maxL ret hh ∈ ws) ∧
  (Cond.codeWith y bytes maxL ret hh).before args s = true ∧ (Cond.initialized y.cls).before args s = true ∧ (y.cls ≠ "java/lang/invoke/MethodHandle" ∧ y.cls ≠ "java/lang/invoke/VarHandle") ∧
  (∀ sig, parseMethodDescriptor y.desc = some sig → n = sig.parameters.length) ∧ (Cond.methodLink own index y).before args s = true ∧ (Cond.static y).before args s = true
theorem vx_cwSW {own : String} {index maxL mc ms : Nat} {y : MethodName} {bytes : ByteArray} {ret : Option FieldType} {hh : List (Nat × Nat × Nat × Nat)} {Ts ws ws' : List Cond} {rm : Room} (n : Nat) (ht : ∀ w ∈ Ts, w.before args s = true) (hT : GoodIn Ts (va_wsS own index y ws)) (hw : ws = Cond.codeWith y bytes maxL ret hh :: ws') (hrc : rm.cells = mc) (hrs : rm.slots = ms)
    (hd : y.cls ≠ "java/lang/invoke/MethodHandle" ∧ y.cls ≠ "java/lang/invoke/VarHandle" ∧ (parseMethodDescriptor y.desc).map (fun d => d.parameters.length) = some n) (hR : rm.frames + 1 ≤ R.frames ∧ 8 + (maxL + 11) + rm.locals ≤ R.locals) :
    vx_CSW R s args own index y bytes maxL ret hh ws rm mc ms n := by
  have ok : ∀ w ∈ va_wsS own index y ws, w.before args s = true := fun w h => ht w (hT w h).1
  have hG : GoodIn Ts ws := fun w h => hT w (by unfold va_wsS; exact List.mem_append_right _ h)
  have hc : Cond.codeWith y bytes maxL ret hh ∈ ws := by rw [hw]; exact List.mem_cons_self
  refine ⟨⟨hrc, hrs, hR.1, hR.2, pay_in ht hG, hc⟩, ht _ (hG _ hc).1, ok _ (by simp [va_wsS]), ⟨hd.1, hd.2.1⟩, fun sig h => ?_, ok _ (by simp [va_wsS]), ok _ (by simp [va_wsS])⟩
  have h2 := hd.2.2
  rw [h] at h2
  exact (Option.some.inj h2).symm
theorem vx_callSW (X : Stand p l e R s m args below meth c T locs cells slots) (hexec : p.tables.exec = Jvm.exec) {own : String} {index : Nat} {y : MethodName} {bytes : ByteArray} {maxL : Nat} {ret : Option FieldType} {hh : List (Nat × Nat × Nat × Nat)}
    (hown : s.vm.findClass own = some m.cls) (hlink : (Cond.methodLink own index y).before args s = true) (hstat : (Cond.static y).before args s = true) (hinit : (Cond.initialized y.cls).before args s = true)
    (hcode : (Cond.codeWith y bytes maxL ret hh).before args s = true) (hy : y.cls ≠ "java/lang/invoke/MethodHandle" ∧ y.cls ≠ "java/lang/invoke/VarHandle")
    {W9 : Nat} {Pre : Pt → Array Value → Prop} {Post : Pt → Array Value → Option Value → Pt → Prop} (hK : Back l R p e below s args y 3 W9 Pre Post)
    {g : JFrame} (hg : g.method = m) (hsize : g.locals.size = c.maxLocals) {argsL rest : List Value} (hlen : ∀ sig, parseMethodDescriptor y.desc = some sig → argsL.length = sig.parameters.length)
    (hstack : g.stack = argsL.reverse ++ rest) (hW : 2 * g.monitorRoom + (rest.map fun v => v.category).sum ≤ W9) (hdg : decode c.code g.pc = .ok (.invokestatic index, 3))
    (hpre : ∀ vm₁, s.WarmedH vm₁ → Pre ⟨T.setVm vm₁, locs, cells, slots⟩ argsL.toArray) :
    ∃ (v : Option Value) (vm₁ : Vm) (B : Pt), s.WarmedH vm₁ ∧ Stand p l e R s m args below meth c B.U B.locs B.cells B.slots ∧ Post ⟨T.setVm vm₁, locs, cells, slots⟩ argsL.toArray v B ∧
      ∀ target, Steps p.tables e below (B.U.setTop { g with pc := g.pc + 3, stack := v.toList ++ rest }) target → Steps p.tables e below (T.setTop g) target := by
  obtain ⟨mk, methM, cM, hnamed, hmethM, -, -, -, -, -, -, hsigM⟩ := Cond.codeWith_spec hcode
  have hstatic : methM.isStatic = true := Cond.static_spec hnamed hmethM hstat
  obtain ⟨kP, hkP, -⟩ := className_of_methodNamed hnamed
  have hinitP : kP.init = .initialized := Cond.initialized_spec (findClass_of_methodNamed hnamed) hkP hinit
  obtain ⟨vm₁, X₁, hstep₁⟩ := X.invokestatic hexec hown hlink hnamed hmethM hstatic hkP hinitP hy (g := g) hg (argsL := argsL) (rest := rest) (hlen _ hsigM) hstack hdg
  obtain ⟨v, B, X', hpost, hsteps⟩ := hK m meth c ⟨T.setVm vm₁, locs, cells, slots⟩ { g with stack := rest } (.invokestatic index) mk argsL.toArray X₁ hg hsize hdg hW (X₁.named hnamed) (hpre vm₁ X₁.warmed)
  exact ⟨v, vm₁, B, X₁.warmed, X', hpost, fun target h => hstep₁ _ fun acts => by rw [doInvoke_state]; exact hsteps.trans h⟩
theorem vx_runSW {y : MethodName} {bytes cc : ByteArray} {maxL nL mc ms n index : Nat} {ret : Option FieldType} {hh : List (Nat × Nat × Nat × Nat)} {ws : List Cond} {rm : Room} {Pc : Array Value → State → Prop} {Qc : Array Value → State → Outcome → State → Prop} {free : Addr → Prop} {Ts : List Cond} {own : String} {As rest : List Value} {g : JFrame}
    (S : CallFix p m c cc nL s args Ts own) (hM : Met l y ws rm Pc Qc mc ms free) (cw : vx_CSW R s args own index y bytes maxL ret hh ws rm mc ms n) (hp : PreS s H Pc As)
    (hg : g.method = m) (hn : As.length = n) (hsize : g.locals.size = nL) (hstack : g.stack = As.reverse ++ rest) (hW : 2 * g.monitorRoom + (rest.map fun v => v.category).sum ≤ 8) (hdg : decode cc g.pc = .ok (.invokestatic index, 3)) (hf : cells + mc ≤ R.cells ∧ slots + ms ≤ R.slots) :
    va_Run p l e R s m args below meth c H locs cells slots mc ms g rest (Qc As.toArray) (free) := by
  obtain ⟨⟨hrc, hrs, hfr, hlo, hws, hcw⟩, hcode, hini, hy, hlen, hl, hstt⟩ := cw
  have hK : Back l R p e below s args y 3 8 (PreOf R mc ms Pc) (PostOf Qc mc ms free) := va_backW (hh := hh) (bytes := bytes) (maxL := maxL) (ret := ret) hM hp.1 hrc hrs hfr hlo hws hcw (fun a' U hW => word_at hW (Or.inl (by first | rfl | simp [Cond.onTables, Cond.keeps, Cond.steady])) hini)
  obtain ⟨hx, hb, hml, ho, -⟩ := S
  intro T hT X
  obtain ⟨v, vm₁, ⟨U', l2, c2, s2⟩, hW₁, X', ⟨g', mk, t, L, e1, e2, hq, h1, hL, h2, h3⟩, st⟩ := vx_callSW X hx (hh := hh) (bytes := bytes) (maxL := maxL) (ret := ret) ho hl hstt hini hcode hy hK hg (hsize.trans hml.symm) (argsL := As) (rest := rest) (fun sig h => hn.trans (hlen sig h)) hstack hW (by rw [hb]; exact hdg)
    (fun vm₁ hW₁ => ⟨hf.1, hf.2, hp.2 (T.setVm vm₁) hT hW₁⟩)
  dsimp only [Pt.U, Pt.locs, Pt.cells, Pt.slots] at X' e1 e2 h1 h2 h3 st
  subst h1; subst h2; subst h3
  exact ⟨v, (T.setVm vm₁).calling g' mk As.toArray, t, U', L, hT, X', hL, e1, e2, hq, st⟩
/-- not caught here, past rows that name other classes: it goes on to the caller -/
theorem vx_outP {p : Program} {l : Launch} {e : Env} {R : Room} {s : State} {m : MethodId} {args : Array Value} {below : List Frame} {meth : Method} {c : Code} {H : Heap} {locs : List Loc} {cells slots : Nat} {free : Addr → Prop} {ls : Array Slot} {rest : List Value} {Qc : Array Value → State → Outcome → State → Prop} {XC : String → State → State → Prop}
    {pc : Nat} {own E : String} {ce : Cell} {q : Addr} {mc ms : Nat} (hown : s.vm.findClass own = some m.cls) (hlocks : meth.locks = false)
    (hpass : ∀ z ∈ c.exceptionTable.toList, covers z pc = false ∨ (z.catchType ≠ 0 ∧ ∃ nm : String, (Cond.classLink own z.catchType nm).before args s = true ∧ va_Nc E nm s)) (hcell : H[q]? = some ce) (hv : ce.vm = .none) (hcl : s.vm.findClass E = some ce.cls)
    (hx : ∀ t : State, t.heap = H → s.vm.Alike t.vm → XC E s t) (hf : ∀ z ∈ locs, free z.base) (hc : cells ≤ mc) (hs : slots ≤ ms) :
    vx_W p l e R s m args below meth c H locs cells slots (vx_MQ below Qc XC args s mc ms free) (F0 m pc ls rest) q := by
  intro T hT X
  have hpl : e.platform.magicAccessors = ({} : Platform).magicAccessors := by rw [X.admits.platform]
  obtain ⟨vm', hW', X', st⟩ := X.outThrough hlocks q (g := F0 m pc ls rest) rfl rfl rfl (cell := ce) (by rw [hT]; exact hcell) (by rw [hv]; rfl)
    (by obtain ⟨k9, h9, -⟩ := Vm.findClass_spec hcl; exact ⟨k9, h9⟩) (fun z hz => by
      rcases hpass z hz with h | ⟨hz0, nm, hl1, hn1⟩
      · exact Or.inl h
      · obtain ⟨c6, hc6, hcl6⟩ := Cond.classLink_spec hown hl1 e.platform hpl
        obtain ⟨a8, b8, h1, h2, h3⟩ := hn1
        cases Option.some.inj (h1.symm.trans hcl)
        cases Option.some.inj (h2.symm.trans hc6)
        exact Or.inr ⟨hz0, _, hcl6, h3⟩)
  obtain ⟨g₀, hfr⟩ := X'.frames_eq
  have hcell9 : ((T.setVm vm').setFrames (.throwing q :: below)).heap[q]? = some ce := by
    show T.heap[q]? = some ce
    rw [hT]; exact hcell
  have hend : Ended ((T.setVm vm').setFrames (.throwing q :: below)) below (.threw q) := State.frames_setFrames _ (State.cur_lt_of_frames hfr)
  refine ⟨(T.setVm vm').setFrames (.throwing q :: below), ?_, .threw q, X'.here.running, hend, Or.inr ⟨q, rfl, E, ce, locs, hx _ hT (X'.ends _).1.alike, hcell9, hv, hcl, (X'.ends _).1, (X'.ends _).2.mono hc hs, hf⟩⟩
  rw [X.pushThrowing_eq]
  exact st
/-- a thing of a world lies in the heap -/
theorem vx_lt {D : va_G} {cl : List vw_C} {ws : va_W} {H1 : Heap} (h : va_P D cl ws H1) {k : Nat} {q : Nat × va_E} (hk : ws[k]? = some q) : q.1 < H1.size := (h k q hk).lt
end VXS
/-! ===== END ===== -/
/-! ===== BEGIN methods with a table of their own: called by a name, returning or throwing ===== -/
section VXH
/-! vx_backW, vx_callVX, vx_callSX, vx_callVW, vx_runVW, vx_runVX, vx_runSX, vx_ofWH follow the same proofs as their sisters above (Free/Laws.lean, Shelf42/LK1.lean); vx_outP calls Shelf42/NT130.lean (outThrough). -/
section
variable {l : Launch} {R : Room} {p : Program} {e : Env} {below : List Frame} {s : State} {sargs : Array Value} {y : MethodName} {len W9 : Nat}
theorem vx_backW {ws : List Cond} {rm : Room} {Pc : Array Value → State → Prop} {Qc : Array Value → State → Outcome → State → Prop} {XC : String → State → State → Prop} {mc ms : Nat} {free : Addr → Prop} {bytes : ByteArray} {maxL : Nat} {ret : Option FieldType} {hh : List (Nat × Nat × Nat × Nat)}
    (hM : vx_Met l y ws rm Pc Qc XC mc ms free) (hblind : FrameBlind Pc) (hrc : rm.cells = mc) (hrs : rm.slots = ms)
    (hframes : rm.frames + 1 ≤ R.frames) (hlocals : W9 + (maxL + 11) + rm.locals ≤ R.locals)
    (hws : ∀ w ∈ ws, ∀ a' U, s.WarmedH U.vm → w.before a' U = true) (hcode : Cond.codeWith y bytes maxL ret hh ∈ ws) (hinit : ∀ a' U, s.WarmedH U.vm → (Cond.initialized y.cls).before a' U = true) :
    vx_Back l R p e below s sargs y len W9 (PreOf R mc ms Pc) (PostOf Qc mc ms free) (vx_Post XC mc ms free) := by
  intro m meth c A g ig mk a X hg hsize hdg hW hn hp
  have h1 : (headSpec ws rm).pre.before a A.U = true := atoms_intro fun w hw => hws w hw _ _ X.warmed
  have h2 : (Cond.codeWith y bytes maxL ret hh).before a A.U = true := hws _ hcode _ _ X.warmed
  have h3 : (Cond.initialized y.cls).before a A.U = true := hinit _ _ X.warmed
  have h4 : A.cells + (headSpec ws rm).room.cells ≤ R.cells := by rw [show (headSpec ws rm).room.cells = mc from hrc]; exact hp.1
  have h5 : A.slots + (headSpec ws rm).room.slots ≤ R.slots := by rw [show (headSpec ws rm).room.slots = ms from hrs]; exact hp.2.1
  have hPc : Pc a (A.U.calling g mk a) := hblind _ _ _ _ hp.2.2
  obtain ⟨U, Ls, c0, s0⟩ := A
  dsimp only [Pt.U, Pt.locs, Pt.cells, Pt.slots] at h1 h2 h3 h4 h5 X hn hPc ⊢
  obtain ⟨m9, methY, cY, hn9, hmY, hcY, -, hlY, -⟩ := Cond.codeWith_spec h2
  cases Option.some.inj (hn9.symm.trans hn)
  obtain ⟨kY, hkY, -⟩ := className_of_methodNamed hn
  have hinitY : kY.init = .initialized := Cond.initialized_spec (findClass_of_methodNamed hn) hkY h3
  have h : At U g.method c below := by rw [hg]; exact X.here
  have hlocals9 : W9 + (maxL + 11) + (headSpec ws rm).room.locals ≤ R.locals := hlocals
  have happ : (headSpec ws rm).appliesLoose y e.platform (U.calling g mk a) = true :=
    Spec.appliesLoose_calling (g := g) h hdg hn hkY hinitY
      (X.room_calling (g := g) (R' := (headSpec ws rm).room) hsize hmY hcY hframes (by rw [hlY]; omega) h4 h5) h1
  obtain ⟨mid, hmid⟩ := h.above
  have hfr : (U.setTop g).frames = (.java g :: mid) ++ below := by rw [State.frames_setTop' g h.top, hmid]; rfl
  obtain ⟨o, s₂, hsteps, -, hend, hq⟩ := Steps.callFree hM p X.admits X.cas X.clock (acts := []) hfr happ hPc trivial
  have hq' : vx_Q Qc XC mc ms free a (U.calling g mk a) o s₂ := hq
  rw [State.frames_setTop' g h.top] at hend
  obtain ⟨g₀, hg0⟩ := Option.isSome_iff_exists.mp h.top
  obtain ⟨r, hr⟩ := State.topJava?_eq_some.mp hg0
  have hr' : (({ U with heap := s₂.heap, slotsUsed := s₂.slotsUsed } : State).setVm s₂.vm).frames = .java g₀ :: r := hr
  rcases hq' with ⟨hqc, L, hfe, hL⟩ | ⟨q, rfl, E, ce, L, hx, hce, hcv, hcl, hW₂, hsm, hL⟩
  · obtain ⟨⟨v, rfl⟩, hW₂, e2, q2, q3, q4, q5, q6⟩ := id hfe
    have e3 : s₂ = ({ (U.calling g mk a).setFrames s₂.frames with heap := s₂.heap, slotsUsed := s₂.slotsUsed } : State).setVm s₂.vm := by
      have : s₂ = ({ s₂ with vm := (U.calling g mk a).vm } : State).setVm s₂.vm := rfl
      rw [e2] at this
      exact this
    obtain ⟨c₂, i₂, len₂, hc₂, hd₂, hf₂⟩ := hend
    have hW' : U.WarmedH s₂.vm := hW₂
    have hcc : c₂ = c := by
      have h1 : s₂.code? g.method = U.code? g.method := by
        rw [State.code?_eq, State.code?_eq, hW'.alike.method?]
      exact Option.some.inj (hc₂.symm.trans (h1.trans h.code))
    subst hcc
    have hlen : len₂ = len := by rw [hdg] at hd₂; cases hd₂; rfl
    subst hlen
    have hs₂ : s₂ = (({ U with heap := s₂.heap, slotsUsed := s₂.slotsUsed } : State).setVm s₂.vm).setTop { g with pc := g.pc + len₂, stack := v.toList ++ g.stack } := by
      refine e3.trans ?_
      rw [hf₂, State.calling_eq h.top, State.setFrames_setFrames, State.setTop_of_frames _ hr', hr]
      rfl
    have hsame : U.sameButNew ({ U with heap := s₂.heap, slotsUsed := s₂.slotsUsed } : State) L mc ms := by
      refine ⟨?_, q2, q3, q4, q5, q6⟩
      obtain ⟨t, ht, -⟩ := State.frames_cons hr
      show ({ U with heap := s₂.heap, slotsUsed := s₂.slotsUsed } : State) = { U.setFrames U.frames with heap := s₂.heap, slotsUsed := s₂.slotsUsed }
      rw [State.setFrames_self ht]
    subst hg
    refine Or.inl ⟨v, ⟨(({ U with heap := s₂.heap, slotsUsed := s₂.slotsUsed } : State).setVm s₂.vm), Ls ++ L, c0 + mc, s0 + ms⟩,
      ⟨X.admits, X.cas, X.clock, X.frames, X.room, X.hears, X.method, X.code, (X.here.setHeapUsed s₂.heap s₂.slotsUsed).setVm hW'.alike, X.tail, State.WarmedH.trans X.warmed hW', X.limits, X.bytes, X.same.trans (hsame.setVm s.vm)⟩,
      ⟨g, mk, s₂, L, rfl, rfl, hqc, rfl, hL, rfl, rfl⟩, ?_⟩
    show Steps p.tables e below _ ((({ U with heap := s₂.heap, slotsUsed := s₂.slotsUsed } : State).setVm s₂.vm).setTop { g with pc := g.pc + len₂, stack := v.toList ++ g.stack })
    rw [← hs₂]
    exact hsteps
  · obtain ⟨e2, q2, q3, q4, q5, q6⟩ := id hsm
    have e3 : s₂ = ({ (U.calling g mk a).setFrames s₂.frames with heap := s₂.heap, slotsUsed := s₂.slotsUsed } : State).setVm s₂.vm := by
      have : s₂ = ({ s₂ with vm := (U.calling g mk a).vm } : State).setVm s₂.vm := rfl
      rw [e2] at this
      exact this
    have hf₂ : s₂.frames = .throwing q :: .java g :: U.frames.tail := hend
    have hW' : U.WarmedH s₂.vm := hW₂
    have hs₂ : s₂ = ((({ U with heap := s₂.heap, slotsUsed := s₂.slotsUsed } : State).setVm s₂.vm).setTop g).pushFrame (.throwing q) := by
      refine e3.trans ?_
      rw [hf₂, State.calling_eq h.top, State.setFrames_setFrames, State.pushFrame, State.frames_setTop _ hr', State.setTop_of_frames _ hr', State.setFrames_setFrames, hr]
      rfl
    have hsame : U.sameButNew ({ U with heap := s₂.heap, slotsUsed := s₂.slotsUsed } : State) L mc ms := by
      refine ⟨?_, q2, q3, q4, q5, q6⟩
      obtain ⟨t, ht, -⟩ := State.frames_cons hr
      show ({ U with heap := s₂.heap, slotsUsed := s₂.slotsUsed } : State) = { U.setFrames U.frames with heap := s₂.heap, slotsUsed := s₂.slotsUsed }
      rw [State.setFrames_self ht]
    subst hg
    refine Or.inr ⟨q, ⟨(({ U with heap := s₂.heap, slotsUsed := s₂.slotsUsed } : State).setVm s₂.vm), Ls ++ L, c0 + mc, s0 + ms⟩,
      ⟨X.admits, X.cas, X.clock, X.frames, X.room, X.hears, X.method, X.code, (X.here.setHeapUsed s₂.heap s₂.slotsUsed).setVm hW'.alike, X.tail, State.WarmedH.trans X.warmed hW', X.limits, X.bytes, X.same.trans (hsame.setVm s.vm)⟩,
      ⟨g, mk, s₂, L, E, ce, rfl, rfl, hx, hce, hcv, hcl, rfl, hL, rfl, rfl⟩, ?_⟩
    show Steps p.tables e below _ (((({ U with heap := s₂.heap, slotsUsed := s₂.slotsUsed } : State).setVm s₂.vm).setTop g).pushFrame (.throwing q))
    rw [← hs₂]
    exact hsteps
end
variable {p : Program} {l : Launch} {e : Env} {R : Room} {s : State} {m : MethodId} {args : Array Value} {below : List Frame} {meth : Method} {c : Code} {T : State} {H : Heap} {locs : List Loc} {cells slots : Nat}
theorem vx_callVX (X : Stand p l e R s m args below meth c T locs cells slots) (hexec : p.tables.exec = Jvm.exec) {own C : String} {index : Nat} {y : MethodName} {bytes : ByteArray} {maxL : Nat} {ret : Option FieldType} {hh : List (Nat × Nat × Nat × Nat)}
    (hown : s.vm.findClass own = some m.cls) (hlink : (Cond.methodLink own index y).before args s = true) (hinst : (Cond.instanceMethod y).before args s = true) (hsel : (Cond.selects C y y).before args s = true)
    (hcode : (Cond.codeWith y bytes maxL ret hh).before args s = true) (hy : y.cls ≠ "java/lang/invoke/MethodHandle" ∧ y.cls ≠ "java/lang/invoke/VarHandle")
    {W9 : Nat} {Pre : Pt → Array Value → Prop} {Post : Pt → Array Value → Option Value → Pt → Prop} {PostX : Pt → Array Value → Addr → Pt → Prop} (hK : vx_Back l R p e below s args y 3 W9 Pre Post PostX)
    {b : Addr} {cellB : Cell} (hcell : T.heap[b]? = some cellB) (hobj : cellB.vm.isStatics = false) (hcls : s.vm.findClass C = some cellB.cls)
    {g : JFrame} (hg : g.method = m) (hsize : g.locals.size = c.maxLocals) {argsL rest : List Value} (hlen : ∀ sig, parseMethodDescriptor y.desc = some sig → argsL.length = sig.parameters.length)
    (hstack : g.stack = argsL.reverse ++ .ref b :: rest) (hW : 2 * g.monitorRoom + (rest.map fun v => v.category).sum ≤ W9) (hdg : decode c.code g.pc = .ok (.invokevirtual index, 3))
    (hpre : ∀ vm₁, s.WarmedH vm₁ → Pre ⟨T.setVm vm₁, locs, cells, slots⟩ (Value.ref b :: argsL).toArray) :
    (∃ (v : Option Value) (vm₁ : Vm) (B : Pt), s.WarmedH vm₁ ∧ Stand p l e R s m args below meth c B.U B.locs B.cells B.slots ∧ Post ⟨T.setVm vm₁, locs, cells, slots⟩ (Value.ref b :: argsL).toArray v B ∧
      ∀ target, Steps p.tables e below (B.U.setTop { g with pc := g.pc + 3, stack := v.toList ++ rest }) target → Steps p.tables e below (T.setTop g) target) ∨
    (∃ (q : Addr) (vm₁ : Vm) (B : Pt), s.WarmedH vm₁ ∧ Stand p l e R s m args below meth c B.U B.locs B.cells B.slots ∧ PostX ⟨T.setVm vm₁, locs, cells, slots⟩ (Value.ref b :: argsL).toArray q B ∧
      Steps p.tables e below (T.setTop g) ((B.U.setTop { g with stack := rest }).pushFrame (.throwing q))) := by
  obtain ⟨mk, methM, hnamed, hmethM, hstM, habM⟩ := Cond.instanceMethod_spec hinst
  obtain ⟨m8, methM', cM, hn8, hmethM', -, -, -, -, -, -, hsigM⟩ := Cond.codeWith_spec hcode
  cases Option.some.inj (hn8.symm.trans hnamed)
  cases hmethM.symm.trans hmethM'
  obtain ⟨c2, r2, m2, q1, q2, q3, q4, kP, hkP, hkPi⟩ := Cond.selects_spec hsel
  cases hcls.symm.trans q1
  cases (State.methodFound?_of_named hnamed hy).symm.trans q2
  cases hnamed.symm.trans q3
  have hselP : selectMethod e.platform s.vm cellB.cls mk = .method mk := by rw [Launch.admits_selectMethod X.admits]; exact q4
  obtain ⟨vm₁, X₁, hstep₁⟩ := X.invokevirtual hexec hown hlink hnamed hmethM hstM hkP hkPi hy (a := b) (cell := cellB) hcell
    (fun z h => by rw [h] at hobj; cases hobj) hselP hmethM habM hkP hkPi (g := g) hg (argsL := argsL) (rest := rest) (hlen _ hsigM) hstack hdg
  rcases hK m meth c ⟨T.setVm vm₁, locs, cells, slots⟩ { g with stack := rest } (.invokevirtual index) mk (Value.ref b :: argsL).toArray X₁ hg hsize hdg hW (X₁.named hnamed) (hpre vm₁ X₁.warmed) with ⟨v, B, X', hpost, hsteps⟩ | ⟨q, B, X', hpost, hsteps⟩
  · exact Or.inl ⟨v, vm₁, B, X₁.warmed, X', hpost, fun target h => hstep₁ _ fun acts => by rw [doInvoke_state]; exact hsteps.trans h⟩
  · exact Or.inr ⟨q, vm₁, B, X₁.warmed, X', hpost, hstep₁ _ fun acts => by rw [doInvoke_state]; exact hsteps⟩
theorem vx_callSX (X : Stand p l e R s m args below meth c T locs cells slots) (hexec : p.tables.exec = Jvm.exec) {own : String} {index : Nat} {y : MethodName} {bytes : ByteArray} {maxL : Nat} {ret : Option FieldType} {hh : List (Nat × Nat × Nat × Nat)}
    (hown : s.vm.findClass own = some m.cls) (hlink : (Cond.methodLink own index y).before args s = true) (hstat : (Cond.static y).before args s = true) (hinit : (Cond.initialized y.cls).before args s = true)
    (hcode : (Cond.codeWith y bytes maxL ret hh).before args s = true) (hy : y.cls ≠ "java/lang/invoke/MethodHandle" ∧ y.cls ≠ "java/lang/invoke/VarHandle")
    {W9 : Nat} {Pre : Pt → Array Value → Prop} {Post : Pt → Array Value → Option Value → Pt → Prop} {PostX : Pt → Array Value → Addr → Pt → Prop} (hK : vx_Back l R p e below s args y 3 W9 Pre Post PostX)
    {g : JFrame} (hg : g.method = m) (hsize : g.locals.size = c.maxLocals) {argsL rest : List Value} (hlen : ∀ sig, parseMethodDescriptor y.desc = some sig → argsL.length = sig.parameters.length)
    (hstack : g.stack = argsL.reverse ++ rest) (hW : 2 * g.monitorRoom + (rest.map fun v => v.category).sum ≤ W9) (hdg : decode c.code g.pc = .ok (.invokestatic index, 3))
    (hpre : ∀ vm₁, s.WarmedH vm₁ → Pre ⟨T.setVm vm₁, locs, cells, slots⟩ argsL.toArray) :
    (∃ (v : Option Value) (vm₁ : Vm) (B : Pt), s.WarmedH vm₁ ∧ Stand p l e R s m args below meth c B.U B.locs B.cells B.slots ∧ Post ⟨T.setVm vm₁, locs, cells, slots⟩ argsL.toArray v B ∧
      ∀ target, Steps p.tables e below (B.U.setTop { g with pc := g.pc + 3, stack := v.toList ++ rest }) target → Steps p.tables e below (T.setTop g) target) ∨
    (∃ (q : Addr) (vm₁ : Vm) (B : Pt), s.WarmedH vm₁ ∧ Stand p l e R s m args below meth c B.U B.locs B.cells B.slots ∧ PostX ⟨T.setVm vm₁, locs, cells, slots⟩ argsL.toArray q B ∧
      Steps p.tables e below (T.setTop g) ((B.U.setTop { g with stack := rest }).pushFrame (.throwing q))) := by
  obtain ⟨mk, methM, cM, hnamed, hmethM, -, -, -, -, -, -, hsigM⟩ := Cond.codeWith_spec hcode
  have hstatic : methM.isStatic = true := Cond.static_spec hnamed hmethM hstat
  obtain ⟨kP, hkP, -⟩ := className_of_methodNamed hnamed
  have hinitP : kP.init = .initialized := Cond.initialized_spec (findClass_of_methodNamed hnamed) hkP hinit
  obtain ⟨vm₁, X₁, hstep₁⟩ := X.invokestatic hexec hown hlink hnamed hmethM hstatic hkP hinitP hy (g := g) hg (argsL := argsL) (rest := rest) (hlen _ hsigM) hstack hdg
  rcases hK m meth c ⟨T.setVm vm₁, locs, cells, slots⟩ { g with stack := rest } (.invokestatic index) mk argsL.toArray X₁ hg hsize hdg hW (X₁.named hnamed) (hpre vm₁ X₁.warmed) with ⟨v, B, X', hpost, hsteps⟩ | ⟨q, B, X', hpost, hsteps⟩
  · exact Or.inl ⟨v, vm₁, B, X₁.warmed, X', hpost, fun target h => hstep₁ _ fun acts => by rw [doInvoke_state]; exact hsteps.trans h⟩
  · exact Or.inr ⟨q, vm₁, B, X₁.warmed, X', hpost, hstep₁ _ fun acts => by rw [doInvoke_state]; exact hsteps⟩
theorem vx_callVW (X : Stand p l e R s m args below meth c T locs cells slots) (hexec : p.tables.exec = Jvm.exec) {own C : String} {index : Nat} {y : MethodName} {bytes : ByteArray} {maxL : Nat} {ret : Option FieldType} {hh : List (Nat × Nat × Nat × Nat)}
    (hown : s.vm.findClass own = some m.cls) (hlink : (Cond.methodLink own index y).before args s = true) (hinst : (Cond.instanceMethod y).before args s = true) (hsel : (Cond.selects C y y).before args s = true)
    (hcode : (Cond.codeWith y bytes maxL ret hh).before args s = true) (hy : y.cls ≠ "java/lang/invoke/MethodHandle" ∧ y.cls ≠ "java/lang/invoke/VarHandle")
    {W9 : Nat} {Pre : Pt → Array Value → Prop} {Post : Pt → Array Value → Option Value → Pt → Prop} (hK : Back l R p e below s args y 3 W9 Pre Post)
    {b : Addr} {cellB : Cell} (hcell : T.heap[b]? = some cellB) (hobj : cellB.vm.isStatics = false) (hcls : s.vm.findClass C = some cellB.cls)
    {g : JFrame} (hg : g.method = m) (hsize : g.locals.size = c.maxLocals) {argsL rest : List Value} (hlen : ∀ sig, parseMethodDescriptor y.desc = some sig → argsL.length = sig.parameters.length)
    (hstack : g.stack = argsL.reverse ++ .ref b :: rest) (hW : 2 * g.monitorRoom + (rest.map fun v => v.category).sum ≤ W9) (hdg : decode c.code g.pc = .ok (.invokevirtual index, 3))
    (hpre : ∀ vm₁, s.WarmedH vm₁ → Pre ⟨T.setVm vm₁, locs, cells, slots⟩ (Value.ref b :: argsL).toArray) :
    ∃ (v : Option Value) (vm₁ : Vm) (B : Pt), s.WarmedH vm₁ ∧ Stand p l e R s m args below meth c B.U B.locs B.cells B.slots ∧ Post ⟨T.setVm vm₁, locs, cells, slots⟩ (Value.ref b :: argsL).toArray v B ∧
      ∀ target, Steps p.tables e below (B.U.setTop { g with pc := g.pc + 3, stack := v.toList ++ rest }) target → Steps p.tables e below (T.setTop g) target := by
  obtain ⟨mk, methM, hnamed, hmethM, hstM, habM⟩ := Cond.instanceMethod_spec hinst
  obtain ⟨m8, methM', cM, hn8, hmethM', -, -, -, -, -, -, hsigM⟩ := Cond.codeWith_spec hcode
  cases Option.some.inj (hn8.symm.trans hnamed)
  cases hmethM.symm.trans hmethM'
  obtain ⟨c2, r2, m2, q1, q2, q3, q4, kP, hkP, hkPi⟩ := Cond.selects_spec hsel
  cases hcls.symm.trans q1
  cases (State.methodFound?_of_named hnamed hy).symm.trans q2
  cases hnamed.symm.trans q3
  have hselP : selectMethod e.platform s.vm cellB.cls mk = .method mk := by rw [Launch.admits_selectMethod X.admits]; exact q4
  obtain ⟨vm₁, X₁, hstep₁⟩ := X.invokevirtual hexec hown hlink hnamed hmethM hstM hkP hkPi hy (a := b) (cell := cellB) hcell
    (fun z h => by rw [h] at hobj; cases hobj) hselP hmethM habM hkP hkPi (g := g) hg (argsL := argsL) (rest := rest) (hlen _ hsigM) hstack hdg
  obtain ⟨v, B, X', hpost, hsteps⟩ := hK m meth c ⟨T.setVm vm₁, locs, cells, slots⟩ { g with stack := rest } (.invokevirtual index) mk (Value.ref b :: argsL).toArray X₁ hg hsize hdg hW (X₁.named hnamed) (hpre vm₁ X₁.warmed)
  exact ⟨v, vm₁, B, X₁.warmed, X', hpost, fun target h => hstep₁ _ fun acts => by rw [doInvoke_state]; exact hsteps.trans h⟩
abbrev vx_CVW (R : Room) (s : State) (args : Array Value) (own C : String) (index : Nat) (y : MethodName) (bytes : ByteArray) (maxL : Nat) (ret : Option FieldType) (hh : List (Nat × Nat × Nat × Nat)) (ws : List Cond) (rm : Room) (mc ms n : Nat) : Prop :=
  (rm.cells = mc ∧ rm.slots = ms ∧ rm.frames + 1 ≤ R.frames ∧ 8 + (maxL + 11) + rm.locals ≤ R.locals ∧ (∀ w ∈ ws, ∀ (a' : Array Value) (U : State), s.WarmedH U.vm → w.before a' U = true) ∧ Cond.codeWith y bytes maxL ret hh ∈ ws) ∧
  (Cond.codeWith y bytes maxL ret hh).before args s = true ∧ (Cond.initialized y.cls).before args s = true ∧ (y.cls ≠ "java/lang/invoke/MethodHandle" ∧ y.cls ≠ "java/lang/invoke/VarHandle") ∧
  (∀ sig, parseMethodDescriptor y.desc = some sig → n = sig.parameters.length) ∧ (Cond.methodLink own index y).before args s = true ∧ (Cond.instanceMethod y).before args s = true ∧ (Cond.selects C y y).before args s = true
theorem vx_cwVW {own C : String} {index maxL mc ms : Nat} {y : MethodName} {bytes : ByteArray} {ret : Option FieldType} {hh : List (Nat × Nat × Nat × Nat)} {Ts ws ws' : List Cond} {rm : Room} (n : Nat) (ht : ∀ w ∈ Ts, w.before args s = true) (hT : GoodIn Ts (wsV own index C y ws)) (hw : ws = Cond.codeWith y bytes maxL ret hh :: ws') (hrc : rm.cells = mc) (hrs : rm.slots = ms)
    (hd : y.cls = C ∧ y.cls ≠ "java/lang/invoke/MethodHandle" ∧ y.cls ≠ "java/lang/invoke/VarHandle" ∧ (parseMethodDescriptor y.desc).map (fun d => d.parameters.length) = some n) (hR : rm.frames + 1 ≤ R.frames ∧ 8 + (maxL + 11) + rm.locals ≤ R.locals) :
    vx_CVW R s args own C index y bytes maxL ret hh ws rm mc ms n := by
  obtain ⟨hC, hd⟩ := hd
  subst hC
  have ok : ∀ w ∈ wsV own index y.cls y ws, w.before args s = true := fun w h => ht w (hT w h).1
  have hG : GoodIn Ts ws := fun w h => hT w (by unfold wsV; exact List.mem_append_right _ h)
  have hc : Cond.codeWith y bytes maxL ret hh ∈ ws := by rw [hw]; exact List.mem_cons_self
  refine ⟨⟨hrc, hrs, hR.1, hR.2, pay_in ht hG, hc⟩, ht _ (hG _ hc).1, ok _ (by simp [wsV]), ⟨hd.1, hd.2.1⟩, fun sig h => ?_, ok _ (by simp [wsV]), ok _ (by simp [wsV]), ok _ (by simp [wsV])⟩
  have h2 := hd.2.2
  rw [h] at h2
  exact (Option.some.inj h2).symm
theorem vx_runVW {y : MethodName} {bytes cc : ByteArray} {maxL nL mc ms n index : Nat} {ret : Option FieldType} {hh : List (Nat × Nat × Nat × Nat)} {ws : List Cond} {rm : Room} {Pc : Array Value → State → Prop} {Qc : Array Value → State → Outcome → State → Prop} {free : Addr → Prop} {Ts : List Cond} {own C : String} {b : Addr} {As rest : List Value} {g : JFrame}
    (S : CallFix p m c cc nL s args Ts own) (hM : Met l y ws rm Pc Qc mc ms free) (cw : vx_CVW R s args own C index y bytes maxL ret hh ws rm mc ms n) (hp : PreV s H C b Pc As)
    (hg : g.method = m) (hn : As.length = n) (hsize : g.locals.size = nL) (hstack : g.stack = As.reverse ++ .ref b :: rest) (hW : 2 * g.monitorRoom + (rest.map fun v => v.category).sum ≤ 8) (hdg : decode cc g.pc = .ok (.invokevirtual index, 3)) (hf : cells + mc ≤ R.cells ∧ slots + ms ≤ R.slots) :
    va_Run p l e R s m args below meth c H locs cells slots mc ms g rest (Qc (Value.ref b :: As).toArray) free := by
  obtain ⟨⟨hrc, hrs, hfr, hlo, hws, hcw⟩, hcode, hini, hy, hlen, hl, hin, hse⟩ := cw
  have hK : Back l R p e below s args y 3 8 (PreOf R mc ms Pc) (PostOf Qc mc ms free) := va_backW (hh := hh) (bytes := bytes) (maxL := maxL) (ret := ret) hM hp.1 hrc hrs hfr hlo hws hcw (fun a' U hW => word_at hW (Or.inl (by first | rfl | simp [Cond.onTables, Cond.keeps, Cond.steady])) hini)
  obtain ⟨hx, hb, hml, ho, -⟩ := S
  obtain ⟨-, ⟨cellB, hcB, hoB, hclB⟩, hPc⟩ := hp
  intro T hT X
  obtain ⟨v, vm₁, ⟨U', l2, c2, s2⟩, hW₁, X', ⟨g', mk, t, L, e1, e2, hq, h1, hL, h2, h3⟩, st⟩ := vx_callVW X hx (C := C) (hh := hh) (bytes := bytes) (maxL := maxL) (ret := ret) ho hl hin hse hcode hy hK (by rw [hT]; exact hcB) hoB hclB hg (hsize.trans hml.symm) (argsL := As) (rest := rest) (fun sig h => hn.trans (hlen sig h)) hstack hW (by rw [hb]; exact hdg)
    (fun vm₁ hW₁ => ⟨hf.1, hf.2, hPc (T.setVm vm₁) hT hW₁⟩)
  dsimp only [Pt.U, Pt.locs, Pt.cells, Pt.slots] at X' e1 e2 h1 h2 h3 st
  subst h1; subst h2; subst h3
  exact ⟨v, (T.setVm vm₁).calling g' mk (Value.ref b :: As).toArray, t, U', L, hT, X', hL, e1, e2, hq, st⟩
section
variable {y : MethodName} {bytes cc : ByteArray} {maxL nL mc ms n index : Nat} {ret : Option FieldType} {ws : List Cond} {rm : Room} {Pc : Array Value → State → Prop} {Qc : Array Value → State → Outcome → State → Prop} {XC : String → State → State → Prop} {free : Addr → Prop} {Ts : List Cond} {own C : String} {b : Addr} {As rest : List Value} {g : JFrame}
theorem vx_runVX {hh : List (Nat × Nat × Nat × Nat)} (S : CallFix p m c cc nL s args Ts own) (hM : vx_Met l y ws rm Pc Qc XC mc ms free) (cw : vx_CVW R s args own C index y bytes maxL ret hh ws rm mc ms n) (hp : PreV s H C b Pc As)
    (hg : g.method = m) (hn : As.length = n) (hsize : g.locals.size = nL) (hstack : g.stack = As.reverse ++ .ref b :: rest) (hW : 2 * g.monitorRoom + (rest.map fun v => v.category).sum ≤ 8) (hdg : decode cc g.pc = .ok (.invokevirtual index, 3)) (hf : cells + mc ≤ R.cells ∧ slots + ms ≤ R.slots) :
    vx_Run p l e R s m args below meth c H locs cells slots mc ms g rest (Qc (Value.ref b :: As).toArray) XC free := by
  obtain ⟨⟨hrc, hrs, hfr, hlo, hws, hcw⟩, hcode, hini, hy, hlen, hl, hin, hse⟩ := cw
  have hK : vx_Back l R p e below s args y 3 8 (PreOf R mc ms Pc) (PostOf Qc mc ms free) (vx_Post XC mc ms free) := vx_backW (hh := hh) (bytes := bytes) (maxL := maxL) (ret := ret) hM hp.1 hrc hrs hfr hlo hws hcw (fun a' U hW => word_at hW (Or.inl (by first | rfl | simp [Cond.onTables, Cond.keeps, Cond.steady])) hini)
  obtain ⟨hx, hb, hml, ho, -⟩ := S
  obtain ⟨-, ⟨cellB, hcB, hoB, hclB⟩, hPc⟩ := hp
  intro T hT X
  rcases vx_callVX X hx (C := C) (hh := hh) (bytes := bytes) (maxL := maxL) (ret := ret) ho hl hin hse hcode hy hK (by rw [hT]; exact hcB) hoB hclB hg (hsize.trans hml.symm) (argsL := As) (rest := rest) (fun sig h => hn.trans (hlen sig h)) hstack hW (by rw [hb]; exact hdg)
    (fun vm₁ hW₁ => ⟨hf.1, hf.2, hPc (T.setVm vm₁) hT hW₁⟩) with ⟨v, vm₁, ⟨U', l2, c2, s2⟩, hW₁, X', ⟨g', mk, t, L, e1, e2, hq, h1, hL, h2, h3⟩, st⟩ | ⟨q, vm₁, ⟨U', l2, c2, s2⟩, hW₁, X', ⟨g', mk, t, L, E, ce, e1, e2, hq, hce, hcv, hcl, h1, hL, h2, h3⟩, st⟩
  · dsimp only [Pt.U, Pt.locs, Pt.cells, Pt.slots] at X' e1 e2 h1 h2 h3 st
    subst h1; subst h2; subst h3
    exact Or.inl ⟨v, (T.setVm vm₁).calling g' mk (Value.ref b :: As).toArray, t, U', L, hT, X', hL, e1, e2, hq, st⟩
  · dsimp only [Pt.U, Pt.locs, Pt.cells, Pt.slots] at X' e1 e2 h1 h2 h3 st hcl
    subst h1; subst h2; subst h3
    exact Or.inr ⟨q, (T.setVm vm₁).calling g' mk (Value.ref b :: As).toArray, t, U', L, E, ce, hT, X', hL, e1, e2, hq, hce, hcv, vx_cls hW₁ hcl, st⟩
theorem vx_runSX {hh : List (Nat × Nat × Nat × Nat)} (S : CallFix p m c cc nL s args Ts own) (hM : vx_Met l y ws rm Pc Qc XC mc ms free) (cw : vx_CSW R s args own index y bytes maxL ret hh ws rm mc ms n) (hp : PreS s H Pc As)
    (hg : g.method = m) (hn : As.length = n) (hsize : g.locals.size = nL) (hstack : g.stack = As.reverse ++ rest) (hW : 2 * g.monitorRoom + (rest.map fun v => v.category).sum ≤ 8) (hdg : decode cc g.pc = .ok (.invokestatic index, 3)) (hf : cells + mc ≤ R.cells ∧ slots + ms ≤ R.slots) :
    vx_Run p l e R s m args below meth c H locs cells slots mc ms g rest (Qc As.toArray) XC free := by
  obtain ⟨⟨hrc, hrs, hfr, hlo, hws, hcw⟩, hcode, hini, hy, hlen, hl, hstt⟩ := cw
  have hK : vx_Back l R p e below s args y 3 8 (PreOf R mc ms Pc) (PostOf Qc mc ms free) (vx_Post XC mc ms free) := vx_backW (hh := hh) (bytes := bytes) (maxL := maxL) (ret := ret) hM hp.1 hrc hrs hfr hlo hws hcw (fun a' U hW => word_at hW (Or.inl (by first | rfl | simp [Cond.onTables, Cond.keeps, Cond.steady])) hini)
  obtain ⟨hx, hb, hml, ho, -⟩ := S
  intro T hT X
  rcases vx_callSX X hx (hh := hh) (bytes := bytes) (maxL := maxL) (ret := ret) ho hl hstt hini hcode hy hK hg (hsize.trans hml.symm) (argsL := As) (rest := rest) (fun sig h => hn.trans (hlen sig h)) hstack hW (by rw [hb]; exact hdg)
    (fun vm₁ hW₁ => ⟨hf.1, hf.2, hp.2 (T.setVm vm₁) hT hW₁⟩) with ⟨v, vm₁, ⟨U', l2, c2, s2⟩, hW₁, X', ⟨g', mk, t, L, e1, e2, hq, h1, hL, h2, h3⟩, st⟩ | ⟨q, vm₁, ⟨U', l2, c2, s2⟩, hW₁, X', ⟨g', mk, t, L, E, ce, e1, e2, hq, hce, hcv, hcl, h1, hL, h2, h3⟩, st⟩
  · dsimp only [Pt.U, Pt.locs, Pt.cells, Pt.slots] at X' e1 e2 h1 h2 h3 st
    subst h1; subst h2; subst h3
    exact Or.inl ⟨v, (T.setVm vm₁).calling g' mk As.toArray, t, U', L, hT, X', hL, e1, e2, hq, st⟩
  · dsimp only [Pt.U, Pt.locs, Pt.cells, Pt.slots] at X' e1 e2 h1 h2 h3 st hcl
    subst h1; subst h2; subst h3
    exact Or.inr ⟨q, (T.setVm vm₁).calling g' mk As.toArray, t, U', L, E, ce, hT, X', hL, e1, e2, hq, hce, hcv, vx_cls hW₁ hcl, st⟩
end
end VXH
theorem vx_ofWH {l : Launch} {y : MethodName} {ws ws' : List Cond} {rm : Room} {Pc : Array Value → State → Prop} {Qc : Array Value → State → Outcome → State → Prop} {XC : String → State → State → Prop} {mc ms : Nat} {free : Addr → Prop} {cc : ByteArray} {maxL : Nat} {ret : Option FieldType} {hh : List (Nat × Nat × Nat × Nat)}
    (hy : plainName y.cls = true) (hw : ws = Cond.codeWith y cc maxL ret hh :: ws')
    (body : ∀ p e s m args below meth c s₁, BodyLoose p l y (headSpec ws rm) cc maxL ret e s m args below meth c s₁ → c.maxLocals = maxL → Pc args s →
      W p l e (headSpec ws rm).room s m args below meth c s.heap [] 0 0 (vx_MQ below Qc XC args s mc ms free) (entryFrame m args maxL)) : vx_Met l y ws rm Pc Qc XC mc ms free := by
  refine MetFree.of_bodyS (code := cc) (maxLocals := maxL) (ret := ret) hy ?_ ?_
  · intro args s m h hn
    obtain ⟨m9, meth, c, hn9, h1, h2, h3, h4, -, h5, h6, -⟩ := Cond.codeWith_spec (atoms_spec (ws := ws) h _ (by rw [hw]; exact List.mem_cons_self))
    cases hn.symm.trans hn9
    exact ⟨meth, c, h1, h2, h3, h4, h5, h6⟩
  · intro p e s m args below meth c s₁ B hml hP _
    have hh0 : s₁.heap = s.heap := by rw [B.state]; rfl
    obtain ⟨t, a1, o, b1, b2, b3⟩ := body p e s m args below meth c s₁ B hml hP s₁ hh0 (Stand.of_body B)
    exact ⟨t, o, a1, b1, b2, b3⟩
/-! ===== END ===== -/

def RX0 : String := "VariantParser$Grammar"
def TX0 : u_T := fun k => match k with
  | _ => ("", "", "", false)
def tyX0 : Nat → FieldType := fun k => match k with
  | _ => .int
theorem nmX0 : ∀ a, a < 0 → ∀ b, b < 0 → a ≠ b → (TX0 a).2.1 ≠ (TX0 b).2.1 := by decide +kernel
theorem tyX0_ok : ∀ k, k < 0 → parseFieldDescriptor (TX0 k).2.2.1 = some (tyX0 k) := by decide +kernel
abbrev cX0_isDigit : ByteArray := prog_2_method_2_code
def yX0_isDigit : MethodName := ⟨RX0, "isDigit", "(I)Z"⟩
abbrev cX0_isName : ByteArray := prog_2_method_3_code
def yX0_isName : MethodName := ⟨RX0, "isName", "(I)Z"⟩
abbrev cX0_isToken : ByteArray := prog_2_method_4_code
def yX0_isToken : MethodName := ⟨RX0, "isToken", "(I)Z"⟩
abbrev cX0_isReplaced : ByteArray := prog_2_method_5_code
def yX0_isReplaced : MethodName := ⟨RX0, "isReplaced", "(I)Z"⟩
abbrev cX0_canBeginStatement : ByteArray := prog_2_method_6_code
def yX0_canBeginStatement : MethodName := ⟨RX0, "canBeginStatement", "(I)Z"⟩
abbrev cX0_replacement : ByteArray := prog_2_method_7_code
def yX0_replacement : MethodName := ⟨RX0, "replacement", "(II)Ljava/lang/String;"⟩
def RX1 : String := "VariantParser$Reading"
def TX1 : u_T := fun k => match k with
  | 0 => ("VariantParser$Reading", "symbols", "[I", true)
  | 1 => ("VariantParser$Reading", "height", "I", false)
  | 2 => ("VariantParser$Reading", "heights", "[I", true)
  | 3 => ("VariantParser$Reading", "tokensRead", "I", false)
  | _ => ("VariantParser$Reading", "errorPlace", "I", false)
def tyX1 : Nat → FieldType := fun k => match k with
  | 0 => .array .int
  | 1 => .int
  | 2 => .array .int
  | 3 => .int
  | _ => .int
theorem nmX1 : ∀ a, a < 5 → ∀ b, b < 5 → a ≠ b → (TX1 a).2.1 ≠ (TX1 b).2.1 := by decide +kernel
theorem tyX1_ok : ∀ k, k < 5 → parseFieldDescriptor (TX1 k).2.2.1 = some (tyX1 k) := by decide +kernel
abbrev cX1_init : ByteArray := prog_3_method_1_code
def yX1_init : MethodName := ⟨RX1, "<init>", "()V"⟩
abbrev cX1_begin : ByteArray := prog_3_method_2_code
def yX1_begin : MethodName := ⟨RX1, "begin", "()V"⟩
abbrev cX1_take : ByteArray := prog_3_method_3_code
def yX1_take : MethodName := ⟨RX1, "take", "(II)V"⟩
abbrev cX1_end : ByteArray := prog_3_method_4_code
def yX1_end : MethodName := ⟨RX1, "end", "(I)V"⟩
abbrev cX1_heightAhead : ByteArray := prog_3_method_5_code
def yX1_heightAhead : MethodName := ⟨RX1, "heightAhead", "(I)I"⟩
abbrev cX1_hasSameStack : ByteArray := prog_3_method_6_code
def yX1_hasSameStack : MethodName := ⟨RX1, "hasSameStack", "(LVariantParser$Reading;)Z"⟩
abbrev cX1_replaceTop : ByteArray := prog_3_method_7_code
def yX1_replaceTop : MethodName := ⟨RX1, "replaceTop", "(I)V"⟩
abbrev cX1_push : ByteArray := prog_3_method_8_code
def yX1_push : MethodName := ⟨RX1, "push", "(I)V"⟩
def RX2 : String := "VariantParser$Rows"
def TX2 : u_T := fun k => match k with
  | _ => ("", "", "", false)
def tyX2 : Nat → FieldType := fun k => match k with
  | _ => .int
theorem nmX2 : ∀ a, a < 0 → ∀ b, b < 0 → a ≠ b → (TX2 a).2.1 ≠ (TX2 b).2.1 := by decide +kernel
theorem tyX2_ok : ∀ k, k < 0 → parseFieldDescriptor (TX2 k).2.2.1 = some (tyX2 k) := by decide +kernel
abbrev cX2_areSame : ByteArray := prog_4_method_2_code
def yX2_areSame : MethodName := ⟨RX2, "areSame", "([I[II)Z"⟩
def RX3 : String := "VariantParser$Run"
def TX3 : u_T := fun k => match k with
  | 0 => ("VariantParser$Run", "tokens", "[I", true)
  | 1 => ("VariantParser$Run", "count", "I", false)
  | 2 => ("VariantParser$Run", "next", "I", false)
  | 3 => ("VariantParser$Run", "variables", "[I", true)
  | 4 => ("VariantParser$Run", "outputs", "[I", true)
  | _ => ("VariantParser$Run", "outputCount", "I", false)
def tyX3 : Nat → FieldType := fun k => match k with
  | 0 => .array .int
  | 1 => .int
  | 2 => .int
  | 3 => .array .int
  | 4 => .array .int
  | _ => .int
theorem nmX3 : ∀ a, a < 6 → ∀ b, b < 6 → a ≠ b → (TX3 a).2.1 ≠ (TX3 b).2.1 := by decide +kernel
theorem tyX3_ok : ∀ k, k < 6 → parseFieldDescriptor (TX3 k).2.2.1 = some (tyX3 k) := by decide +kernel
abbrev cX3_init : ByteArray := prog_5_method_1_code
def yX3_init : MethodName := ⟨RX3, "<init>", "()V"⟩
abbrev cX3_execute : ByteArray := prog_5_method_2_code
def yX3_execute : MethodName := ⟨RX3, "execute", "([II)V"⟩
abbrev cX3_hasSameOutputs : ByteArray := prog_5_method_3_code
def yX3_hasSameOutputs : MethodName := ⟨RX3, "hasSameOutputs", "(LVariantParser$Run;)Z"⟩
abbrev cX3_peek : ByteArray := prog_5_method_4_code
def yX3_peek : MethodName := ⟨RX3, "peek", "()I"⟩
abbrev cX3_advance : ByteArray := prog_5_method_5_code
def yX3_advance : MethodName := ⟨RX3, "advance", "()I"⟩
abbrev cX3_runStatements : ByteArray := prog_5_method_6_code
def yX3_runStatements : MethodName := ⟨RX3, "runStatements", "(ZI)V"⟩
abbrev cX3_runStatement : ByteArray := prog_5_method_7_code
def yX3_runStatement : MethodName := ⟨RX3, "runStatement", "(ZI)V"⟩
abbrev cX3_runChoice : ByteArray := prog_5_method_8_code
def yX3_runChoice : MethodName := ⟨RX3, "runChoice", "(ZI)V"⟩
abbrev cX3_sum : ByteArray := prog_5_method_9_code
def yX3_sum : MethodName := ⟨RX3, "sum", "(I)I"⟩
abbrev cX3_product : ByteArray := prog_5_method_10_code
def yX3_product : MethodName := ⟨RX3, "product", "(I)I"⟩
abbrev cX3_factor : ByteArray := prog_5_method_11_code
def yX3_factor : MethodName := ⟨RX3, "factor", "(I)I"⟩
abbrev cX3_operand : ByteArray := prog_5_method_12_code
def yX3_operand : MethodName := ⟨RX3, "operand", "(I)I"⟩
abbrev cX3_assign : ByteArray := prog_5_method_13_code
def yX3_assign : MethodName := ⟨RX3, "assign", "(II)V"⟩
abbrev cX3_put : ByteArray := prog_5_method_14_code
def yX3_put : MethodName := ⟨RX3, "put", "(I)V"⟩
def RX4 : String := "VariantParser$Source"
def TX4 : u_T := fun k => match k with
  | 0 => ("VariantParser$Source", "codes", "[I", true)
  | _ => ("VariantParser$Source", "size", "I", false)
def tyX4 : Nat → FieldType := fun k => match k with
  | 0 => .array .int
  | _ => .int
theorem nmX4 : ∀ a, a < 2 → ∀ b, b < 2 → a ≠ b → (TX4 a).2.1 ≠ (TX4 b).2.1 := by decide +kernel
theorem tyX4_ok : ∀ k, k < 2 → parseFieldDescriptor (TX4 k).2.2.1 = some (tyX4 k) := by decide +kernel
abbrev cX4_init : ByteArray := prog_6_method_1_code
def yX4_init : MethodName := ⟨RX4, "<init>", "()V"⟩
abbrev cX4_codeOfWhen : ByteArray := prog_6_method_2_code
def yX4_codeOfWhen : MethodName := ⟨RX4, "codeOfWhen", "(IZ)I"⟩
abbrev cX4_codeOfSet : ByteArray := prog_6_method_3_code
def yX4_codeOfSet : MethodName := ⟨RX4, "codeOfSet", "(IZ)I"⟩
abbrev cX4_isWhen : ByteArray := prog_6_method_4_code
def yX4_isWhen : MethodName := ⟨RX4, "isWhen", "(I)Z"⟩
abbrev cX4_isSet : ByteArray := prog_6_method_5_code
def yX4_isSet : MethodName := ⟨RX4, "isSet", "(I)Z"⟩
abbrev cX4_featureOf : ByteArray := prog_6_method_6_code
def yX4_featureOf : MethodName := ⟨RX4, "featureOf", "(I)I"⟩
abbrev cX4_isForOn : ByteArray := prog_6_method_7_code
def yX4_isForOn : MethodName := ⟨RX4, "isForOn", "(I)Z"⟩
abbrev cX4_add : ByteArray := prog_6_method_8_code
def yX4_add : MethodName := ⟨RX4, "add", "(I)V"⟩
abbrev cX4_removeLast : ByteArray := prog_6_method_9_code
def yX4_removeLast : MethodName := ⟨RX4, "removeLast", "()V"⟩
abbrev cX4_countUnfinished : ByteArray := prog_6_method_10_code
def yX4_countUnfinished : MethodName := ⟨RX4, "countUnfinished", "()I"⟩
abbrev cX4_lastUnfinishedHasOtherwise : ByteArray := prog_6_method_11_code
def yX4_lastUnfinishedHasOtherwise : MethodName := ⟨RX4, "lastUnfinishedHasOtherwise", "()Z"⟩
def RX5 : String := "VariantParser$Variant"
def TX5 : u_T := fun k => match k with
  | 0 => ("VariantParser$Variant", "tokens", "[I", true)
  | 1 => ("VariantParser$Variant", "places", "[I", true)
  | 2 => ("VariantParser$Variant", "count", "I", false)
  | 3 => ("VariantParser$Variant", "reading", "LVariantParser$Reading;", true)
  | _ => ("VariantParser$Variant", "run", "LVariantParser$Run;", true)
def tyX5 : Nat → FieldType := fun k => match k with
  | 0 => .array .int
  | 1 => .array .int
  | 2 => .int
  | 3 => .object "VariantParser$Reading"
  | _ => .object "VariantParser$Run"
theorem nmX5 : ∀ a, a < 5 → ∀ b, b < 5 → a ≠ b → (TX5 a).2.1 ≠ (TX5 b).2.1 := by decide +kernel
theorem tyX5_ok : ∀ k, k < 5 → parseFieldDescriptor (TX5 k).2.2.1 = some (tyX5 k) := by decide +kernel
abbrev cX5_init : ByteArray := prog_7_method_1_code
def yX5_init : MethodName := ⟨RX5, "<init>", "()V"⟩
abbrev cX5_add : ByteArray := prog_7_method_2_code
def yX5_add : MethodName := ⟨RX5, "add", "(II)V"⟩
abbrev cX5_hasSameTokens : ByteArray := prog_7_method_3_code
def yX5_hasSameTokens : MethodName := ⟨RX5, "hasSameTokens", "(LVariantParser$Variant;)Z"⟩
def RX6 : String := "VariantParser$Walk"
def TX6 : u_T := fun k => match k with
  | 0 => ("VariantParser$Walk", "present", "[I", true)
  | 1 => ("VariantParser$Walk", "onAhead", "[[I", true)
  | 2 => ("VariantParser$Walk", "on", "[I", true)
  | 3 => ("VariantParser$Walk", "activeAheadOfWhen", "[I", true)
  | 4 => ("VariantParser$Walk", "activeAtOtherwise", "[I", true)
  | 5 => ("VariantParser$Walk", "active", "I", false)
  | _ => ("VariantParser$Walk", "depth", "I", false)
def tyX6 : Nat → FieldType := fun k => match k with
  | 0 => .array .int
  | 1 => .array (.array .int)
  | 2 => .array .int
  | 3 => .array .int
  | 4 => .array .int
  | 5 => .int
  | _ => .int
theorem nmX6 : ∀ a, a < 7 → ∀ b, b < 7 → a ≠ b → (TX6 a).2.1 ≠ (TX6 b).2.1 := by decide +kernel
theorem tyX6_ok : ∀ k, k < 7 → parseFieldDescriptor (TX6 k).2.2.1 = some (tyX6 k) := by decide +kernel
abbrev cX6_init : ByteArray := prog_8_method_1_code
def yX6_init : MethodName := ⟨RX6, "<init>", "()V"⟩
abbrev cX6_isPresent : ByteArray := prog_8_method_2_code
def yX6_isPresent : MethodName := ⟨RX6, "isPresent", "(II)Z"⟩
abbrev cX6_goThrough : ByteArray := prog_8_method_3_code
def yX6_goThrough : MethodName := ⟨RX6, "goThrough", "(LVariantParser$Source;)V"⟩
abbrev cX6_step : ByteArray := prog_8_method_4_code
def yX6_step : MethodName := ⟨RX6, "step", "(II)V"⟩
abbrev cX6_enter : ByteArray := prog_8_method_5_code
def yX6_enter : MethodName := ⟨RX6, "enter", "(I)V"⟩
abbrev cX6_turn : ByteArray := prog_8_method_6_code
def yX6_turn : MethodName := ⟨RX6, "turn", "(I)V"⟩
def RX7 : String := "VariantParser"
def TX7 : u_T := fun k => match k with
  | 0 => ("VariantParser", "source", "LVariantParser$Source;", true)
  | 1 => ("VariantParser", "walk", "LVariantParser$Walk;", true)
  | 2 => ("VariantParser", "variantOf", "[LVariantParser$Variant;", true)
  | 3 => ("VariantParser", "groupCounts", "[I", true)
  | _ => ("VariantParser", "isFresh", "Z", false)
def tyX7 : Nat → FieldType := fun k => match k with
  | 0 => .object "VariantParser$Source"
  | 1 => .object "VariantParser$Walk"
  | 2 => .array (.object "VariantParser$Variant")
  | 3 => .array .int
  | _ => .boolean
theorem nmX7 : ∀ a, a < 5 → ∀ b, b < 5 → a ≠ b → (TX7 a).2.1 ≠ (TX7 b).2.1 := by decide +kernel
theorem tyX7_ok : ∀ k, k < 5 → parseFieldDescriptor (TX7 k).2.2.1 = some (tyX7 k) := by decide +kernel
abbrev cX7_init : ByteArray := prog_1_method_1_code
def yX7_init : MethodName := ⟨RX7, "<init>", "()V"⟩
abbrev cX7_write : ByteArray := prog_1_method_2_code
def yX7_write : MethodName := ⟨RX7, "write", "(J)I"⟩
abbrev cX7_when : ByteArray := prog_1_method_3_code
def yX7_when : MethodName := ⟨RX7, "when", "(IZ)I"⟩
abbrev cX7_otherwise : ByteArray := prog_1_method_4_code
def yX7_otherwise : MethodName := ⟨RX7, "otherwise", "()I"⟩
abbrev cX7_done : ByteArray := prog_1_method_5_code
def yX7_done : MethodName := ⟨RX7, "done", "()I"⟩
abbrev cX7_set : ByteArray := prog_1_method_6_code
def yX7_set : MethodName := ⟨RX7, "set", "(IZ)I"⟩
abbrev cX7_drop : ByteArray := prog_1_method_7_code
def yX7_drop : MethodName := ⟨RX7, "drop", "()I"⟩
abbrev cX7_replace : ByteArray := prog_1_method_8_code
def yX7_replace : MethodName := ⟨RX7, "replace", "(II)I"⟩
abbrev cX7_size : ByteArray := prog_1_method_9_code
def yX7_size : MethodName := ⟨RX7, "size", "()I"⟩
abbrev cX7_item : ByteArray := prog_1_method_10_code
def yX7_item : MethodName := ⟨RX7, "item", "(I)I"⟩
abbrev cX7_unfinished : ByteArray := prog_1_method_11_code
def yX7_unfinished : MethodName := ⟨RX7, "unfinished", "()I"⟩
abbrev cX7_presence : ByteArray := prog_1_method_12_code
def yX7_presence : MethodName := ⟨RX7, "presence", "(I)I"⟩
abbrev cX7_on : ByteArray := prog_1_method_13_code
def yX7_on : MethodName := ⟨RX7, "on", "(II)I"⟩
abbrev cX7_features : ByteArray := prog_1_method_14_code
def yX7_features : MethodName := ⟨RX7, "features", "(I)I"⟩
abbrev cX7_dead : ByteArray := prog_1_method_15_code
def yX7_dead : MethodName := ⟨RX7, "dead", "()I"⟩
abbrev cX7_length : ByteArray := prog_1_method_16_code
def yX7_length : MethodName := ⟨RX7, "length", "(I)I"⟩
abbrev cX7_place : ByteArray := prog_1_method_17_code
def yX7_place : MethodName := ⟨RX7, "place", "(II)I"⟩
abbrev cX7_variants : ByteArray := prog_1_method_18_code
def yX7_variants : MethodName := ⟨RX7, "variants", "()I"⟩
abbrev cX7_error : ByteArray := prog_1_method_19_code
def yX7_error : MethodName := ⟨RX7, "error", "(I)I"⟩
abbrev cX7_wrong : ByteArray := prog_1_method_20_code
def yX7_wrong : MethodName := ⟨RX7, "wrong", "()I"⟩
abbrev cX7_firstError : ByteArray := prog_1_method_21_code
def yX7_firstError : MethodName := ⟨RX7, "firstError", "()I"⟩
abbrev cX7_groups : ByteArray := prog_1_method_22_code
def yX7_groups : MethodName := ⟨RX7, "groups", "(I)I"⟩
abbrev cX7_work : ByteArray := prog_1_method_23_code
def yX7_work : MethodName := ⟨RX7, "work", "()I"⟩
abbrev cX7_gain : ByteArray := prog_1_method_24_code
def yX7_gain : MethodName := ⟨RX7, "gain", "()D"⟩
abbrev cX7_stack : ByteArray := prog_1_method_25_code
def yX7_stack : MethodName := ⟨RX7, "stack", "(II)I"⟩
abbrev cX7_outputs : ByteArray := prog_1_method_26_code
def yX7_outputs : MethodName := ⟨RX7, "outputs", "(I)I"⟩
abbrev cX7_output : ByteArray := prog_1_method_27_code
def yX7_output : MethodName := ⟨RX7, "output", "(II)I"⟩
abbrev cX7_variable : ByteArray := prog_1_method_28_code
def yX7_variable : MethodName := ⟨RX7, "variable", "(II)I"⟩
abbrev cX7_behaviours : ByteArray := prog_1_method_29_code
def yX7_behaviours : MethodName := ⟨RX7, "behaviours", "()I"⟩
abbrev cX7_digest : ByteArray := prog_1_method_30_code
def yX7_digest : MethodName := ⟨RX7, "digest", "()J"⟩
abbrev cX7_checkFeature : ByteArray := prog_1_method_31_code
def yX7_checkFeature : MethodName := ⟨RX7, "checkFeature", "(I)V"⟩
abbrev cX7_checkItem : ByteArray := prog_1_method_32_code
def yX7_checkItem : MethodName := ⟨RX7, "checkItem", "(I)V"⟩
abbrev cX7_checkConfiguration : ByteArray := prog_1_method_33_code
def yX7_checkConfiguration : MethodName := ⟨RX7, "checkConfiguration", "(I)V"⟩
abbrev cX7_checkIndex : ByteArray := prog_1_method_34_code
def yX7_checkIndex : MethodName := ⟨RX7, "checkIndex", "(II)V"⟩
abbrev cX7_checkRoom : ByteArray := prog_1_method_35_code
def yX7_checkRoom : MethodName := ⟨RX7, "checkRoom", "()V"⟩
abbrev cX7_checkUnfinished : ByteArray := prog_1_method_36_code
def yX7_checkUnfinished : MethodName := ⟨RX7, "checkUnfinished", "()V"⟩
abbrev cX7_checkFinished : ByteArray := prog_1_method_37_code
def yX7_checkFinished : MethodName := ⟨RX7, "checkFinished", "()V"⟩
abbrev cX7_checkNoError : ByteArray := prog_1_method_38_code
def yX7_checkNoError : MethodName := ⟨RX7, "checkNoError", "(I)V"⟩
abbrev cX7_byteOf : ByteArray := prog_1_method_39_code
def yX7_byteOf : MethodName := ⟨RX7, "byteOf", "(JI)I"⟩
abbrev cX7_append : ByteArray := prog_1_method_40_code
def yX7_append : MethodName := ⟨RX7, "append", "(I)I"⟩
abbrev cX7_matters : ByteArray := prog_1_method_41_code
def yX7_matters : MethodName := ⟨RX7, "matters", "(II)Z"⟩
abbrev cX7_refresh : ByteArray := prog_1_method_42_code
def yX7_refresh : MethodName := ⟨RX7, "refresh", "()V"⟩
abbrev cX7_collectVariants : ByteArray := prog_1_method_43_code
def yX7_collectVariants : MethodName := ⟨RX7, "collectVariants", "()V"⟩
abbrev cX7_readAll : ByteArray := prog_1_method_44_code
def yX7_readAll : MethodName := ⟨RX7, "readAll", "()V"⟩
abbrev cX7_runAll : ByteArray := prog_1_method_45_code
def yX7_runAll : MethodName := ⟨RX7, "runAll", "()V"⟩
abbrev cX7_isReadBy : ByteArray := prog_1_method_46_code
def yX7_isReadBy : MethodName := ⟨RX7, "isReadBy", "(II)Z"⟩
abbrev cX7_countGroups : ByteArray := prog_1_method_47_code
def yX7_countGroups : MethodName := ⟨RX7, "countGroups", "(I)I"⟩
abbrev cX7_isFirstOfItsGroup : ByteArray := prog_1_method_48_code
def yX7_isFirstOfItsGroup : MethodName := ⟨RX7, "isFirstOfItsGroup", "(II)Z"⟩
abbrev cX7_isFirstOfItsText : ByteArray := prog_1_method_49_code
def yX7_isFirstOfItsText : MethodName := ⟨RX7, "isFirstOfItsText", "(I)Z"⟩
abbrev cX7_isFirstOfItsBehaviour : ByteArray := prog_1_method_50_code
def yX7_isFirstOfItsBehaviour : MethodName := ⟨RX7, "isFirstOfItsBehaviour", "(I)Z"⟩
abbrev cX7_sumOfGroups : ByteArray := prog_1_method_51_code
def yX7_sumOfGroups : MethodName := ⟨RX7, "sumOfGroups", "()I"⟩
abbrev cX7_mix : ByteArray := prog_1_method_52_code
def yX7_mix : MethodName := ⟨RX7, "mix", "(JJ)J"⟩
abbrev cX7_mixVariant : ByteArray := prog_1_method_53_code
def yX7_mixVariant : MethodName := ⟨RX7, "mixVariant", "(JLVariantParser$Variant;)J"⟩
def RX8 : String := "VariantParserModel"
def TX8 : u_T := fun k => match k with
  | 0 => ("VariantParserModel", "thrown", "I", false)
  | 1 => ("VariantParserModel", "size", "I", false)
  | 2 => ("VariantParserModel", "items", "[I", true)
  | 3 => ("VariantParserModel", "present", "[I", true)
  | 4 => ("VariantParserModel", "ons", "[I", true)
  | 5 => ("VariantParserModel", "stacks", "[I", true)
  | 6 => ("VariantParserModel", "depths", "[I", true)
  | 7 => ("VariantParserModel", "errors", "[I", true)
  | 8 => ("VariantParserModel", "groupCounts", "[I", true)
  | 9 => ("VariantParserModel", "depthsAt", "[I", true)
  | 10 => ("VariantParserModel", "code", "[I", true)
  | 11 => ("VariantParserModel", "at", "I", false)
  | 12 => ("VariantParserModel", "values", "[I", true)
  | 13 => ("VariantParserModel", "written", "I", false)
  | _ => ("VariantParserModel", "output", "[I", true)
def tyX8 : Nat → FieldType := fun k => match k with
  | 0 => .int
  | 1 => .int
  | 2 => .array .int
  | 3 => .array .int
  | 4 => .array .int
  | 5 => .array .int
  | 6 => .array .int
  | 7 => .array .int
  | 8 => .array .int
  | 9 => .array .int
  | 10 => .array .int
  | 11 => .int
  | 12 => .array .int
  | 13 => .int
  | _ => .array .int
theorem nmX8 : ∀ a, a < 15 → ∀ b, b < 15 → a ≠ b → (TX8 a).2.1 ≠ (TX8 b).2.1 := by decide +kernel
theorem tyX8_ok : ∀ k, k < 15 → parseFieldDescriptor (TX8 k).2.2.1 = some (tyX8 k) := by decide +kernel
abbrev cX8_init : ByteArray := prog_10_method_1_code
def yX8_init : MethodName := ⟨RX8, "<init>", "()V"⟩
abbrev cX8_thrown : ByteArray := prog_10_method_2_code
def yX8_thrown : MethodName := ⟨RX8, "thrown", "()I"⟩
abbrev cX8_no : ByteArray := prog_10_method_3_code
def yX8_no : MethodName := ⟨RX8, "no", "(I)I"⟩
abbrev cX8_isIn : ByteArray := prog_10_method_4_code
def yX8_isIn : MethodName := ⟨RX8, "isIn", "(III)Z"⟩
abbrev cX8_has : ByteArray := prog_10_method_5_code
def yX8_has : MethodName := ⟨RX8, "has", "(II)Z"⟩
abbrev cX8_isItem : ByteArray := prog_10_method_6_code
def yX8_isItem : MethodName := ⟨RX8, "isItem", "(I)Z"⟩
abbrev cX8_isFeature : ByteArray := prog_10_method_7_code
def yX8_isFeature : MethodName := ⟨RX8, "isFeature", "(I)Z"⟩
abbrev cX8_isConfiguration : ByteArray := prog_10_method_8_code
def yX8_isConfiguration : MethodName := ⟨RX8, "isConfiguration", "(I)Z"⟩
abbrev cX8_isCharacter : ByteArray := prog_10_method_9_code
def yX8_isCharacter : MethodName := ⟨RX8, "isCharacter", "(I)Z"⟩
abbrev cX8_isToken : ByteArray := prog_10_method_10_code
def yX8_isToken : MethodName := ⟨RX8, "isToken", "(I)Z"⟩
abbrev cX8_append : ByteArray := prog_10_method_11_code
def yX8_append : MethodName := ⟨RX8, "append", "(I)I"⟩
abbrev cX8_write : ByteArray := prog_10_method_12_code
def yX8_write : MethodName := ⟨RX8, "write", "(J)I"⟩
abbrev cX8_whenOf : ByteArray := prog_10_method_13_code
def yX8_whenOf : MethodName := ⟨RX8, "whenOf", "(I)I"⟩
abbrev cX8_openCount : ByteArray := prog_10_method_14_code
def yX8_openCount : MethodName := ⟨RX8, "openCount", "()I"⟩
abbrev cX8_when : ByteArray := prog_10_method_15_code
def yX8_when : MethodName := ⟨RX8, "when", "(IZ)I"⟩
abbrev cX8_hasOtherwise : ByteArray := prog_10_method_16_code
def yX8_hasOtherwise : MethodName := ⟨RX8, "hasOtherwise", "(I)Z"⟩
abbrev cX8_otherwise : ByteArray := prog_10_method_17_code
def yX8_otherwise : MethodName := ⟨RX8, "otherwise", "()I"⟩
abbrev cX8_done : ByteArray := prog_10_method_18_code
def yX8_done : MethodName := ⟨RX8, "done", "()I"⟩
abbrev cX8_set : ByteArray := prog_10_method_19_code
def yX8_set : MethodName := ⟨RX8, "set", "(IZ)I"⟩
abbrev cX8_drop : ByteArray := prog_10_method_20_code
def yX8_drop : MethodName := ⟨RX8, "drop", "()I"⟩
abbrev cX8_replace : ByteArray := prog_10_method_21_code
def yX8_replace : MethodName := ⟨RX8, "replace", "(II)I"⟩
abbrev cX8_size : ByteArray := prog_10_method_22_code
def yX8_size : MethodName := ⟨RX8, "size", "()I"⟩
abbrev cX8_item : ByteArray := prog_10_method_23_code
def yX8_item : MethodName := ⟨RX8, "item", "(I)I"⟩
abbrev cX8_unfinished : ByteArray := prog_10_method_24_code
def yX8_unfinished : MethodName := ⟨RX8, "unfinished", "()I"⟩
abbrev cX8_look : ByteArray := prog_10_method_25_code
def yX8_look : MethodName := ⟨RX8, "look", "()V"⟩
abbrev cX8_presence : ByteArray := prog_10_method_26_code
def yX8_presence : MethodName := ⟨RX8, "presence", "(I)I"⟩
abbrev cX8_on : ByteArray := prog_10_method_27_code
def yX8_on : MethodName := ⟨RX8, "on", "(II)I"⟩
abbrev cX8_features : ByteArray := prog_10_method_28_code
def yX8_features : MethodName := ⟨RX8, "features", "(I)I"⟩
abbrev cX8_dead : ByteArray := prog_10_method_29_code
def yX8_dead : MethodName := ⟨RX8, "dead", "()I"⟩
abbrev cX8_lengthOf : ByteArray := prog_10_method_30_code
def yX8_lengthOf : MethodName := ⟨RX8, "lengthOf", "(I)I"⟩
abbrev cX8_find : ByteArray := prog_10_method_31_code
def yX8_find : MethodName := ⟨RX8, "find", "(II)I"⟩
abbrev cX8_length : ByteArray := prog_10_method_32_code
def yX8_length : MethodName := ⟨RX8, "length", "(I)I"⟩
abbrev cX8_place : ByteArray := prog_10_method_33_code
def yX8_place : MethodName := ⟨RX8, "place", "(II)I"⟩
abbrev cX8_areSame : ByteArray := prog_10_method_34_code
def yX8_areSame : MethodName := ⟨RX8, "areSame", "(II)Z"⟩
abbrev cX8_variants : ByteArray := prog_10_method_35_code
def yX8_variants : MethodName := ⟨RX8, "variants", "()I"⟩
abbrev cX8_push : ByteArray := prog_10_method_36_code
def yX8_push : MethodName := ⟨RX8, "push", "(II)V"⟩
abbrev cX8_isName : ByteArray := prog_10_method_37_code
def yX8_isName : MethodName := ⟨RX8, "isName", "(I)Z"⟩
abbrev cX8_canBegin : ByteArray := prog_10_method_38_code
def yX8_canBegin : MethodName := ⟨RX8, "canBegin", "(I)Z"⟩
abbrev cX8_expand : ByteArray := prog_10_method_39_code
def yX8_expand : MethodName := ⟨RX8, "expand", "(II)Z"⟩
abbrev cX8_expandStatement : ByteArray := prog_10_method_40_code
def yX8_expandStatement : MethodName := ⟨RX8, "expandStatement", "(II)Z"⟩
abbrev cX8_expandFactor : ByteArray := prog_10_method_41_code
def yX8_expandFactor : MethodName := ⟨RX8, "expandFactor", "(II)Z"⟩
abbrev cX8_readOne : ByteArray := prog_10_method_42_code
def yX8_readOne : MethodName := ⟨RX8, "readOne", "(II)Z"⟩
abbrev cX8_areLike : ByteArray := prog_10_method_43_code
def yX8_areLike : MethodName := ⟨RX8, "areLike", "(II)Z"⟩
abbrev cX8_countGroups : ByteArray := prog_10_method_44_code
def yX8_countGroups : MethodName := ⟨RX8, "countGroups", "(I)I"⟩
abbrev cX8_read : ByteArray := prog_10_method_45_code
def yX8_read : MethodName := ⟨RX8, "read", "()V"⟩
abbrev cX8_isWhole : ByteArray := prog_10_method_46_code
def yX8_isWhole : MethodName := ⟨RX8, "isWhole", "()Z"⟩
abbrev cX8_error : ByteArray := prog_10_method_47_code
def yX8_error : MethodName := ⟨RX8, "error", "(I)I"⟩
abbrev cX8_wrong : ByteArray := prog_10_method_48_code
def yX8_wrong : MethodName := ⟨RX8, "wrong", "()I"⟩
abbrev cX8_firstError : ByteArray := prog_10_method_49_code
def yX8_firstError : MethodName := ⟨RX8, "firstError", "()I"⟩
abbrev cX8_groups : ByteArray := prog_10_method_50_code
def yX8_groups : MethodName := ⟨RX8, "groups", "(I)I"⟩
abbrev cX8_sumOfGroups : ByteArray := prog_10_method_51_code
def yX8_sumOfGroups : MethodName := ⟨RX8, "sumOfGroups", "()I"⟩
abbrev cX8_work : ByteArray := prog_10_method_52_code
def yX8_work : MethodName := ⟨RX8, "work", "()I"⟩
abbrev cX8_gain : ByteArray := prog_10_method_53_code
def yX8_gain : MethodName := ⟨RX8, "gain", "()D"⟩
abbrev cX8_stack : ByteArray := prog_10_method_54_code
def yX8_stack : MethodName := ⟨RX8, "stack", "(II)I"⟩
abbrev cX8_passes : ByteArray := prog_10_method_55_code
def yX8_passes : MethodName := ⟨RX8, "passes", "(I)Z"⟩
abbrev cX8_expression : ByteArray := prog_10_method_56_code
def yX8_expression : MethodName := ⟨RX8, "expression", "()I"⟩
abbrev cX8_term : ByteArray := prog_10_method_57_code
def yX8_term : MethodName := ⟨RX8, "term", "()I"⟩
abbrev cX8_factor : ByteArray := prog_10_method_58_code
def yX8_factor : MethodName := ⟨RX8, "factor", "()I"⟩
abbrev cX8_statement : ByteArray := prog_10_method_59_code
def yX8_statement : MethodName := ⟨RX8, "statement", "(Z)V"⟩
abbrev cX8_run : ByteArray := prog_10_method_60_code
def yX8_run : MethodName := ⟨RX8, "run", "(I)V"⟩
abbrev cX8_asks : ByteArray := prog_10_method_61_code
def yX8_asks : MethodName := ⟨RX8, "asks", "(I)Z"⟩
abbrev cX8_outputs : ByteArray := prog_10_method_62_code
def yX8_outputs : MethodName := ⟨RX8, "outputs", "(I)I"⟩
abbrev cX8_output : ByteArray := prog_10_method_63_code
def yX8_output : MethodName := ⟨RX8, "output", "(II)I"⟩
abbrev cX8_variable : ByteArray := prog_10_method_64_code
def yX8_variable : MethodName := ⟨RX8, "variable", "(II)I"⟩
abbrev cX8_behaviours : ByteArray := prog_10_method_65_code
def yX8_behaviours : MethodName := ⟨RX8, "behaviours", "()I"⟩
abbrev cX8_digest : ByteArray := prog_10_method_66_code
def yX8_digest : MethodName := ⟨RX8, "digest", "()J"⟩
def RJx145de : String := "java/io/Serializable"
def TJx145de : u_T := fun k => match k with
  | _ => ("", "", "", false)
def tyJx145de : Nat → FieldType := fun k => match k with
  | _ => .int
theorem nmJx145de : ∀ a, a < 0 → ∀ b, b < 0 → a ≠ b → (TJx145de a).2.1 ≠ (TJx145de b).2.1 := by decide +kernel
theorem tyJx145de_ok : ∀ k, k < 0 → parseFieldDescriptor (TJx145de k).2.2.1 = some (tyJx145de k) := by decide +kernel
def RJx9f9b0 : String := "java/lang/CharSequence"
def TJx9f9b0 : u_T := fun k => match k with
  | _ => ("", "", "", false)
def tyJx9f9b0 : Nat → FieldType := fun k => match k with
  | _ => .int
theorem nmJx9f9b0 : ∀ a, a < 0 → ∀ b, b < 0 → a ≠ b → (TJx9f9b0 a).2.1 ≠ (TJx9f9b0 b).2.1 := by decide +kernel
theorem tyJx9f9b0_ok : ∀ k, k < 0 → parseFieldDescriptor (TJx9f9b0 k).2.2.1 = some (tyJx9f9b0 k) := by decide +kernel
def RJ11 : String := "java/lang/Character"
def TJ11 : u_T := fun k => match k with
  | _ => ("", "", "", false)
def tyJ11 : Nat → FieldType := fun k => match k with
  | _ => .int
theorem nmJ11 : ∀ a, a < 0 → ∀ b, b < 0 → a ≠ b → (TJ11 a).2.1 ≠ (TJ11 b).2.1 := by decide +kernel
theorem tyJ11_ok : ∀ k, k < 0 → parseFieldDescriptor (TJ11 k).2.2.1 = some (tyJ11 k) := by decide +kernel
abbrev cJ11_isValidCodePoint_9a6ad : ByteArray := prog_13_method_11_code
def yJ11_isValidCodePoint_9a6ad : MethodName := ⟨RJ11, "isValidCodePoint", "(I)Z"⟩
abbrev cJ11_highSurrogate_5068e : ByteArray := prog_13_method_28_code
def yJ11_highSurrogate_5068e : MethodName := ⟨RJ11, "highSurrogate", "(I)C"⟩
abbrev cJ11_lowSurrogate_5068e : ByteArray := prog_13_method_29_code
def yJ11_lowSurrogate_5068e : MethodName := ⟨RJ11, "lowSurrogate", "(I)C"⟩
def RJxb160c : String := "java/lang/Comparable"
def TJxb160c : u_T := fun k => match k with
  | _ => ("", "", "", false)
def tyJxb160c : Nat → FieldType := fun k => match k with
  | _ => .int
theorem nmJxb160c : ∀ a, a < 0 → ∀ b, b < 0 → a ≠ b → (TJxb160c a).2.1 ≠ (TJxb160c b).2.1 := by decide +kernel
theorem tyJxb160c_ok : ∀ k, k < 0 → parseFieldDescriptor (TJxb160c k).2.2.1 = some (tyJxb160c k) := by decide +kernel
def RJ9 : String := "java/lang/Math"
def TJ9 : u_T := fun k => match k with
  | _ => ("", "", "", false)
def tyJ9 : Nat → FieldType := fun k => match k with
  | _ => .int
theorem nmJ9 : ∀ a, a < 0 → ∀ b, b < 0 → a ≠ b → (TJ9 a).2.1 ≠ (TJ9 b).2.1 := by decide +kernel
theorem tyJ9_ok : ∀ k, k < 0 → parseFieldDescriptor (TJ9 k).2.2.1 = some (tyJ9 k) := by decide +kernel
abbrev cJ9_max_7cf53 : ByteArray := prog_19_method_65_code
def yJ9_max_7cf53 : MethodName := ⟨RJ9, "max", "(II)I"⟩
abbrev cJ9_min_7cf53 : ByteArray := prog_19_method_69_code
def yJ9_min_7cf53 : MethodName := ⟨RJ9, "min", "(II)I"⟩
def RJ0 : String := "java/lang/String"
def TJ0 : u_T := fun k => match k with
  | _ => ("", "", "", false)
def tyJ0 : Nat → FieldType := fun k => match k with
  | _ => .int
theorem nmJ0 : ∀ a, a < 0 → ∀ b, b < 0 → a ≠ b → (TJ0 a).2.1 ≠ (TJ0 b).2.1 := by decide +kernel
theorem tyJ0_ok : ∀ k, k < 0 → parseFieldDescriptor (TJ0 k).2.2.1 = some (tyJ0 k) := by decide +kernel
abbrev cJ0_length_8abf5 : ByteArray := prog_21_method_54_code
def yJ0_length_8abf5 : MethodName := ⟨RJ0, "length", "()I"⟩
abbrev cJ0_charAt_5068e : ByteArray := prog_21_method_56_code
def yJ0_charAt_5068e : MethodName := ⟨RJ0, "charAt", "(I)C"⟩
abbrev cJ0_indexOf_0f7a4 : ByteArray := prog_21_method_79_code
def yJ0_indexOf_0f7a4 : MethodName := ⟨RJ0, "indexOf", "(I)I"⟩
abbrev cJ0_indexOf_7cf53 : ByteArray := prog_21_method_80_code
def yJ0_indexOf_7cf53 : MethodName := ⟨RJ0, "indexOf", "(II)I"⟩
abbrev cJ0_coder_7d493 : ByteArray := prog_21_method_152_code
def yJ0_coder_7d493 : MethodName := ⟨RJ0, "coder", "()B"⟩
abbrev cJ0_isLatin1_aae02 : ByteArray := prog_21_method_154_code
def yJ0_isLatin1_aae02 : MethodName := ⟨RJ0, "isLatin1", "()Z"⟩
abbrev cJ0_checkIndex_df160 : ByteArray := prog_21_method_155_code
def yJ0_checkIndex_df160 : MethodName := ⟨RJ0, "checkIndex", "(II)V"⟩
abbrev cJ0_checkBoundsBeginEnd_23922 : ByteArray := prog_21_method_158_code
def yJ0_checkBoundsBeginEnd_23922 : MethodName := ⟨RJ0, "checkBoundsBeginEnd", "(III)V"⟩
def RJ1 : String := "java/lang/StringLatin1"
def TJ1 : u_T := fun k => match k with
  | _ => ("", "", "", false)
def tyJ1 : Nat → FieldType := fun k => match k with
  | _ => .int
theorem nmJ1 : ∀ a, a < 0 → ∀ b, b < 0 → a ≠ b → (TJ1 a).2.1 ≠ (TJ1 b).2.1 := by decide +kernel
theorem tyJ1_ok : ∀ k, k < 0 → parseFieldDescriptor (TJ1 k).2.2.1 = some (tyJ1 k) := by decide +kernel
abbrev cJ1_charAt_3b067 : ByteArray := prog_22_method_2_code
def yJ1_charAt_3b067 : MethodName := ⟨RJ1, "charAt", "([BI)C"⟩
abbrev cJ1_canEncode_9a6ad : ByteArray := prog_22_method_4_code
def yJ1_canEncode_9a6ad : MethodName := ⟨RJ1, "canEncode", "(I)Z"⟩
abbrev cJ1_indexOf_4cfef : ByteArray := prog_22_method_22_code
def yJ1_indexOf_4cfef : MethodName := ⟨RJ1, "indexOf", "([BIII)I"⟩
abbrev cJ1_indexOfChar_4cfef : ByteArray := prog_22_method_23_code
def yJ1_indexOfChar_4cfef : MethodName := ⟨RJ1, "indexOfChar", "([BIII)I"⟩
def RJ2 : String := "java/lang/StringUTF16"
def TJ2 : u_T := fun k => match k with
  | _ => ("", "", "", false)
def tyJ2 : Nat → FieldType := fun k => match k with
  | _ => .int
theorem nmJ2 : ∀ a, a < 0 → ∀ b, b < 0 → a ≠ b → (TJ2 a).2.1 ≠ (TJ2 b).2.1 := by decide +kernel
theorem tyJ2_ok : ∀ k, k < 0 → parseFieldDescriptor (TJ2 k).2.2.1 = some (tyJ2 k) := by decide +kernel
abbrev cJ2_getChar_3b067 : ByteArray := prog_23_method_5_code
def yJ2_getChar_3b067 : MethodName := ⟨RJ2, "getChar", "([BI)C"⟩
abbrev cJ2_length_9d52b : ByteArray := prog_23_method_6_code
def yJ2_length_9d52b : MethodName := ⟨RJ2, "length", "([B)I"⟩
abbrev cJ2_indexOf_4cfef : ByteArray := prog_23_method_40_code
def yJ2_indexOf_4cfef : MethodName := ⟨RJ2, "indexOf", "([BIII)I"⟩
abbrev cJ2_indexOfChar_4cfef : ByteArray := prog_23_method_47_code
def yJ2_indexOfChar_4cfef : MethodName := ⟨RJ2, "indexOfChar", "([BIII)I"⟩
abbrev cJ2_indexOfCharUnsafe_4cfef : ByteArray := prog_23_method_48_code
def yJ2_indexOfCharUnsafe_4cfef : MethodName := ⟨RJ2, "indexOfCharUnsafe", "([BIII)I"⟩
abbrev cJ2_indexOfSupplementary_4cfef : ByteArray := prog_23_method_49_code
def yJ2_indexOfSupplementary_4cfef : MethodName := ⟨RJ2, "indexOfSupplementary", "([BIII)I"⟩
abbrev cJ2_charAt_3b067 : ByteArray := prog_23_method_83_code
def yJ2_charAt_3b067 : MethodName := ⟨RJ2, "charAt", "([BI)C"⟩
abbrev cJ2_checkIndex_2214a : ByteArray := prog_23_method_91_code
def yJ2_checkIndex_2214a : MethodName := ⟨RJ2, "checkIndex", "(I[B)V"⟩
abbrev cJ2_checkBoundsBeginEnd_d044e : ByteArray := prog_23_method_93_code
def yJ2_checkBoundsBeginEnd_d044e : MethodName := ⟨RJ2, "checkBoundsBeginEnd", "(II[B)V"⟩
def RJxfd54e : String := "java/lang/constant/Constable"
def TJxfd54e : u_T := fun k => match k with
  | _ => ("", "", "", false)
def tyJxfd54e : Nat → FieldType := fun k => match k with
  | _ => .int
theorem nmJxfd54e : ∀ a, a < 0 → ∀ b, b < 0 → a ≠ b → (TJxfd54e a).2.1 ≠ (TJxfd54e b).2.1 := by decide +kernel
theorem tyJxfd54e_ok : ∀ k, k < 0 → parseFieldDescriptor (TJxfd54e k).2.2.1 = some (tyJxfd54e k) := by decide +kernel
def RJx3cf43 : String := "java/lang/constant/ConstantDesc"
def TJx3cf43 : u_T := fun k => match k with
  | _ => ("", "", "", false)
def tyJx3cf43 : Nat → FieldType := fun k => match k with
  | _ => .int
theorem nmJx3cf43 : ∀ a, a < 0 → ∀ b, b < 0 → a ≠ b → (TJx3cf43 a).2.1 ≠ (TJx3cf43 b).2.1 := by decide +kernel
theorem tyJx3cf43_ok : ∀ k, k < 0 → parseFieldDescriptor (TJx3cf43 k).2.2.1 = some (tyJx3cf43 k) := by decide +kernel
def RJ3 : String := "jdk/internal/util/Preconditions"
def TJ3 : u_T := fun k => match k with
  | _ => ("", "", "", false)
def tyJ3 : Nat → FieldType := fun k => match k with
  | _ => .int
theorem nmJ3 : ∀ a, a < 0 → ∀ b, b < 0 → a ≠ b → (TJ3 a).2.1 ≠ (TJ3 b).2.1 := by decide +kernel
theorem tyJ3_ok : ∀ k, k < 0 → parseFieldDescriptor (TJ3 k).2.2.1 = some (tyJ3 k) := by decide +kernel
abbrev cJ3_checkIndex_8e157 : ByteArray := prog_28_method_11_code
def yJ3_checkIndex_8e157 : MethodName := ⟨RJ3, "checkIndex", "(IILjava/util/function/BiFunction;)I"⟩
abbrev cJ3_checkFromToIndex_8c36e : ByteArray := prog_28_method_12_code
def yJ3_checkFromToIndex_8c36e : MethodName := ⟨RJ3, "checkFromToIndex", "(IIILjava/util/function/BiFunction;)I"⟩
def RL : String := "VariantParserLaw"
abbrev cL_write : ByteArray := method_3_code
def yL_write : MethodName := ⟨RL, "write", "(LVariantParser;J[J)I"⟩
abbrev cL_when : ByteArray := method_4_code
def yL_when : MethodName := ⟨RL, "when", "(LVariantParser;IZ[J)I"⟩
abbrev cL_otherwise : ByteArray := method_5_code
def yL_otherwise : MethodName := ⟨RL, "otherwise", "(LVariantParser;[J)I"⟩
abbrev cL_done : ByteArray := method_6_code
def yL_done : MethodName := ⟨RL, "done", "(LVariantParser;[J)I"⟩
abbrev cL_set : ByteArray := method_7_code
def yL_set : MethodName := ⟨RL, "set", "(LVariantParser;IZ[J)I"⟩
abbrev cL_drop : ByteArray := method_8_code
def yL_drop : MethodName := ⟨RL, "drop", "(LVariantParser;[J)I"⟩
abbrev cL_replace : ByteArray := method_9_code
def yL_replace : MethodName := ⟨RL, "replace", "(LVariantParser;II[J)I"⟩
abbrev cL_item : ByteArray := method_10_code
def yL_item : MethodName := ⟨RL, "item", "(LVariantParser;I[J)I"⟩
abbrev cL_presence : ByteArray := method_11_code
def yL_presence : MethodName := ⟨RL, "presence", "(LVariantParser;I[J)I"⟩
abbrev cL_on : ByteArray := method_12_code
def yL_on : MethodName := ⟨RL, "on", "(LVariantParser;II[J)I"⟩
abbrev cL_features : ByteArray := method_13_code
def yL_features : MethodName := ⟨RL, "features", "(LVariantParser;I[J)I"⟩
abbrev cL_length : ByteArray := method_14_code
def yL_length : MethodName := ⟨RL, "length", "(LVariantParser;I[J)I"⟩
abbrev cL_place : ByteArray := method_15_code
def yL_place : MethodName := ⟨RL, "place", "(LVariantParser;II[J)I"⟩
abbrev cL_error : ByteArray := method_16_code
def yL_error : MethodName := ⟨RL, "error", "(LVariantParser;I[J)I"⟩
abbrev cL_wrong : ByteArray := method_17_code
def yL_wrong : MethodName := ⟨RL, "wrong", "(LVariantParser;[J)I"⟩
abbrev cL_firstError : ByteArray := method_18_code
def yL_firstError : MethodName := ⟨RL, "firstError", "(LVariantParser;[J)I"⟩
abbrev cL_groups : ByteArray := method_19_code
def yL_groups : MethodName := ⟨RL, "groups", "(LVariantParser;I[J)I"⟩
abbrev cL_work : ByteArray := method_20_code
def yL_work : MethodName := ⟨RL, "work", "(LVariantParser;[J)I"⟩
abbrev cL_gain : ByteArray := method_21_code
def yL_gain : MethodName := ⟨RL, "gain", "(LVariantParser;[D)I"⟩
abbrev cL_stack : ByteArray := method_22_code
def yL_stack : MethodName := ⟨RL, "stack", "(LVariantParser;II[J)I"⟩
abbrev cL_outputs : ByteArray := method_23_code
def yL_outputs : MethodName := ⟨RL, "outputs", "(LVariantParser;I[J)I"⟩
abbrev cL_output : ByteArray := method_24_code
def yL_output : MethodName := ⟨RL, "output", "(LVariantParser;II[J)I"⟩
abbrev cL_variable : ByteArray := method_25_code
def yL_variable : MethodName := ⟨RL, "variable", "(LVariantParser;II[J)I"⟩
abbrev cL_behaviours : ByteArray := method_26_code
def yL_behaviours : MethodName := ⟨RL, "behaviours", "(LVariantParser;[J)I"⟩
abbrev cL_law : ByteArray := code
def yL_law : MethodName := ⟨RL, "law", "([I)Z"⟩
abbrev vwCl : List vw_C := [(RX1, TX1, 5), (RX3, TX3, 6), (RX4, TX4, 2), (RX5, TX5, 5), (RX6, TX6, 7), (RX7, TX7, 5), (RX8, TX8, 15)]
end
section
/-! the words: all good words of the tables, and where each stands -/
def WG : List Cond := lw_tbl.filter goodWord
theorem WG_good {w : Cond} (h : w ∈ WG) : (w.onTables && w.keeps) = true ∨ ∃ ty, w = .arrayClass ty := good_of_word (List.mem_filter.mp h).2
theorem WG_lw {w : Cond} (h : w ∈ WG) : w ∈ lw_tbl := (List.mem_filter.mp h).1
theorem wt1 {w : Cond} (h : w ∈ tables_1_1) : w ∈ lw_tbl := List.mem_append_right _ (show w ∈ tables_1 from List.mem_append_left _ h)
theorem wg1 {w : Cond} (h : w ∈ tables_1_1) (g : goodWord w = true) : w ∈ WG := List.mem_filter.mpr ⟨wt1 h, g⟩
theorem wt2 {w : Cond} (h : w ∈ tables_1_2) : w ∈ lw_tbl := List.mem_append_right _ (show w ∈ tables_1 from List.mem_append_right _ (List.mem_append_left _ h))
theorem wg2 {w : Cond} (h : w ∈ tables_1_2) (g : goodWord w = true) : w ∈ WG := List.mem_filter.mpr ⟨wt2 h, g⟩
theorem wt3 {w : Cond} (h : w ∈ tables_1_3) : w ∈ lw_tbl := List.mem_append_right _ (show w ∈ tables_1 from List.mem_append_right _ (List.mem_append_right _ (List.mem_append_left _ h)))
theorem wg3 {w : Cond} (h : w ∈ tables_1_3) (g : goodWord w = true) : w ∈ WG := List.mem_filter.mpr ⟨wt3 h, g⟩
theorem wt4 {w : Cond} (h : w ∈ tables_1_4) : w ∈ lw_tbl := List.mem_append_right _ (show w ∈ tables_1 from List.mem_append_right _ (List.mem_append_right _ (List.mem_append_right _ (List.mem_append_left _ h))))
theorem wg4 {w : Cond} (h : w ∈ tables_1_4) (g : goodWord w = true) : w ∈ WG := List.mem_filter.mpr ⟨wt4 h, g⟩
theorem wt5 {w : Cond} (h : w ∈ tables_1_5) : w ∈ lw_tbl := List.mem_append_right _ (show w ∈ tables_1 from List.mem_append_right _ (List.mem_append_right _ (List.mem_append_right _ (List.mem_append_right _ (List.mem_append_left _ h)))))
theorem wg5 {w : Cond} (h : w ∈ tables_1_5) (g : goodWord w = true) : w ∈ WG := List.mem_filter.mpr ⟨wt5 h, g⟩
theorem wt6 {w : Cond} (h : w ∈ tables_1_6) : w ∈ lw_tbl := List.mem_append_right _ (show w ∈ tables_1 from List.mem_append_right _ (List.mem_append_right _ (List.mem_append_right _ (List.mem_append_right _ (List.mem_append_right _ (h))))))
theorem wg6 {w : Cond} (h : w ∈ tables_1_6) (g : goodWord w = true) : w ∈ WG := List.mem_filter.mpr ⟨wt6 h, g⟩
theorem wgp1 {q : MethodName × Nat} (h : q ∈ lw_privs_1) : Cond.selects q.1.cls q.1 q.1 ∈ WG := List.mem_filter.mpr ⟨List.mem_append_left _ (List.mem_map.mpr ⟨q, show q ∈ lw_privs from List.mem_append_left _ h, rfl⟩), rfl⟩
theorem wgp2 {q : MethodName × Nat} (h : q ∈ lw_privs_2) : Cond.selects q.1.cls q.1 q.1 ∈ WG := List.mem_filter.mpr ⟨List.mem_append_left _ (List.mem_map.mpr ⟨q, show q ∈ lw_privs from List.mem_append_right _ (List.mem_append_left _ h), rfl⟩), rfl⟩
theorem wgp3 {q : MethodName × Nat} (h : q ∈ lw_privs_3) : Cond.selects q.1.cls q.1 q.1 ∈ WG := List.mem_filter.mpr ⟨List.mem_append_left _ (List.mem_map.mpr ⟨q, show q ∈ lw_privs from List.mem_append_right _ (List.mem_append_right _ (List.mem_append_left _ h)), rfl⟩), rfl⟩
theorem wgp4 {q : MethodName × Nat} (h : q ∈ lw_privs_4) : Cond.selects q.1.cls q.1 q.1 ∈ WG := List.mem_filter.mpr ⟨List.mem_append_left _ (List.mem_map.mpr ⟨q, show q ∈ lw_privs from List.mem_append_right _ (List.mem_append_right _ (List.mem_append_right _ (h))), rfl⟩), rfl⟩
theorem m1_0 : Cond.initialized RL ∈ WG := wg1 (List.mem_of_getElem? (i := 0) rfl) rfl
theorem m1_1 : Cond.initialized RX7 ∈ WG := wg1 (List.mem_of_getElem? (i := 1) rfl) rfl
theorem m1_2 : Cond.initialized RX4 ∈ WG := wg1 (List.mem_of_getElem? (i := 2) rfl) rfl
theorem m1_3 : Cond.initialized RX6 ∈ WG := wg1 (List.mem_of_getElem? (i := 3) rfl) rfl
theorem m1_4 : Cond.initialized RX5 ∈ WG := wg1 (List.mem_of_getElem? (i := 4) rfl) rfl
theorem m1_5 : Cond.initialized RX1 ∈ WG := wg1 (List.mem_of_getElem? (i := 5) rfl) rfl
theorem m1_6 : Cond.initialized RX3 ∈ WG := wg1 (List.mem_of_getElem? (i := 6) rfl) rfl
theorem m1_7 : Cond.initialized RX8 ∈ WG := wg1 (List.mem_of_getElem? (i := 7) rfl) rfl
theorem m1_8 : Cond.initialized RX0 ∈ WG := wg1 (List.mem_of_getElem? (i := 8) rfl) rfl
theorem m1_9 : Cond.initialized "java/lang/Throwable" ∈ WG := wg1 (List.mem_of_getElem? (i := 9) rfl) rfl
theorem m1_10 : Cond.initialized "java/lang/Exception" ∈ WG := wg1 (List.mem_of_getElem? (i := 10) rfl) rfl
theorem m1_11 : Cond.initialized "java/lang/RuntimeException" ∈ WG := wg1 (List.mem_of_getElem? (i := 11) rfl) rfl
theorem m1_12 : Cond.initialized "java/lang/IllegalArgumentException" ∈ WG := wg1 (List.mem_of_getElem? (i := 12) rfl) rfl
theorem m1_13 : Cond.initialized "java/lang/IllegalStateException" ∈ WG := wg1 (List.mem_of_getElem? (i := 13) rfl) rfl
theorem m1_14 : Cond.initialized RJ0 ∈ WG := wg1 (List.mem_of_getElem? (i := 14) rfl) rfl
theorem m1_15 : Cond.initialized RJ1 ∈ WG := wg1 (List.mem_of_getElem? (i := 15) rfl) rfl
theorem m1_16 : Cond.initialized RJ9 ∈ WG := wg1 (List.mem_of_getElem? (i := 16) rfl) rfl
theorem m1_17 : Cond.initialized RJ2 ∈ WG := wg1 (List.mem_of_getElem? (i := 17) rfl) rfl
theorem m1_18 : Cond.initialized RJ3 ∈ WG := wg1 (List.mem_of_getElem? (i := 18) rfl) rfl
theorem m1_19 : Cond.initialized RJ11 ∈ WG := wg1 (List.mem_of_getElem? (i := 19) rfl) rfl
theorem m1_20 : Cond.initialized "java/lang/IndexOutOfBoundsException" ∈ WG := wg1 (List.mem_of_getElem? (i := 20) rfl) rfl
theorem m1_21 : Cond.initialized RX2 ∈ WG := wg1 (List.mem_of_getElem? (i := 21) rfl) rfl
theorem m1_22 : Cond.initialized "java/util/NoSuchElementException" ∈ WG := wg1 (List.mem_of_getElem? (i := 22) rfl) rfl
theorem m1_23 : Cond.classLink RL 8 "VariantParser" ∈ WG := wg1 (List.mem_of_getElem? (i := 23) rfl) rfl
theorem m1_24 : Cond.instantiable RX7 5 ∈ WG := wg1 (List.mem_of_getElem? (i := 24) rfl) rfl
theorem m1_25 : Cond.methodLink RL 95 yX7_init ∈ WG := wg1 (List.mem_of_getElem? (i := 25) rfl) rfl
theorem m1_26 : Cond.instanceMethod yX7_init ∈ WG := wg1 (List.mem_of_getElem? (i := 26) rfl) rfl
theorem m1_27 : Cond.code yX7_init cX7_init 2 none ∈ WG := wg1 (List.mem_of_getElem? (i := 27) rfl) rfl
theorem m1_28 : Cond.methodLink RX7 1 objectInit ∈ WG := wg1 (List.mem_of_getElem? (i := 28) rfl) rfl
theorem m1_29 : Cond.instanceMethod objectInit ∈ WG := wg1 (List.mem_of_getElem? (i := 29) rfl) rfl
theorem m1_30 : Cond.code objectInit object_method_1_code 1 none ∈ WG := wg1 (List.mem_of_getElem? (i := 30) rfl) rfl
theorem m1_31 : Cond.classLink RX7 7 "VariantParser$Source" ∈ WG := wg1 (List.mem_of_getElem? (i := 31) rfl) rfl
theorem m1_32 : Cond.instantiable RX4 2 ∈ WG := wg1 (List.mem_of_getElem? (i := 32) rfl) rfl
theorem m1_34 : Cond.instanceMethod yX4_init ∈ WG := wg1 (List.mem_of_getElem? (i := 34) rfl) rfl
theorem m1_35 : Cond.code yX4_init cX4_init 1 none ∈ WG := wg1 (List.mem_of_getElem? (i := 35) rfl) rfl
theorem m1_36 : Cond.methodLink RX4 3 objectInit ∈ WG := wg1 (List.mem_of_getElem? (i := 36) rfl) rfl
theorem m1_37 : Cond.fieldLink RX4 9 "VariantParser$Source" "codes" "[I" ∈ WG := wg1 (List.mem_of_getElem? (i := 37) rfl) rfl
theorem m1_38 : Cond.fieldLink RX6 45 "VariantParser$Source" "codes" "[I" ∈ WG := wg1 (List.mem_of_getElem? (i := 38) rfl) rfl
theorem m1_39 : Cond.fieldLink RX7 105 "VariantParser$Source" "codes" "[I" ∈ WG := wg1 (List.mem_of_getElem? (i := 39) rfl) rfl
theorem m1_40 : Cond.fieldLink RX7 55 "VariantParser$Source" "size" "I" ∈ WG := wg1 (List.mem_of_getElem? (i := 40) rfl) rfl
theorem m1_41 : Cond.fieldLink RX6 40 "VariantParser$Source" "size" "I" ∈ WG := wg1 (List.mem_of_getElem? (i := 41) rfl) rfl
theorem m1_42 : Cond.fieldLink RX4 19 "VariantParser$Source" "size" "I" ∈ WG := wg1 (List.mem_of_getElem? (i := 42) rfl) rfl
theorem m1_43 : Cond.laysFinal "VariantParser$Source" "VariantParser$Source" "codes" "[I" ∈ WG := wg1 (List.mem_of_getElem? (i := 43) rfl) rfl
theorem m1_45 : Cond.lays "VariantParser$Source" "VariantParser$Source" "size" "I" ∈ WG := wg1 (List.mem_of_getElem? (i := 45) rfl) rfl
theorem m1_48 : Cond.arrayClass .int ∈ WG := wg1 (List.mem_of_getElem? (i := 48) rfl) rfl
theorem m1_49 : Cond.classLink RX7 16 "VariantParser$Walk" ∈ WG := wg1 (List.mem_of_getElem? (i := 49) rfl) rfl
theorem m1_50 : Cond.instantiable RX6 7 ∈ WG := wg1 (List.mem_of_getElem? (i := 50) rfl) rfl
theorem m1_52 : Cond.instanceMethod yX6_init ∈ WG := wg1 (List.mem_of_getElem? (i := 52) rfl) rfl
theorem m1_53 : Cond.code yX6_init cX6_init 1 none ∈ WG := wg1 (List.mem_of_getElem? (i := 53) rfl) rfl
theorem m1_54 : Cond.methodLink RX6 3 objectInit ∈ WG := wg1 (List.mem_of_getElem? (i := 54) rfl) rfl
theorem m1_55 : Cond.classLink RX6 15 "[[I" ∈ WG := wg1 (List.mem_of_getElem? (i := 55) rfl) rfl
theorem m1_57 : Cond.fieldLink RX6 9 "VariantParser$Walk" "present" "[I" ∈ WG := wg1 (List.mem_of_getElem? (i := 57) rfl) rfl
theorem m1_58 : Cond.fieldLink RX7 115 "VariantParser$Walk" "present" "[I" ∈ WG := wg1 (List.mem_of_getElem? (i := 58) rfl) rfl
theorem m1_59 : Cond.fieldLink RX6 17 "VariantParser$Walk" "onAhead" "[[I" ∈ WG := wg1 (List.mem_of_getElem? (i := 59) rfl) rfl
theorem m1_60 : Cond.fieldLink RX7 118 "VariantParser$Walk" "onAhead" "[[I" ∈ WG := wg1 (List.mem_of_getElem? (i := 60) rfl) rfl
theorem m1_61 : Cond.fieldLink RX6 20 "VariantParser$Walk" "on" "[I" ∈ WG := wg1 (List.mem_of_getElem? (i := 61) rfl) rfl
theorem m1_62 : Cond.fieldLink RX6 23 "VariantParser$Walk" "activeAheadOfWhen" "[I" ∈ WG := wg1 (List.mem_of_getElem? (i := 62) rfl) rfl
theorem m1_63 : Cond.fieldLink RX6 26 "VariantParser$Walk" "activeAtOtherwise" "[I" ∈ WG := wg1 (List.mem_of_getElem? (i := 63) rfl) rfl
theorem m1_64 : Cond.fieldLink RX6 30 "VariantParser$Walk" "active" "I" ∈ WG := wg1 (List.mem_of_getElem? (i := 64) rfl) rfl
theorem m1_65 : Cond.fieldLink RX6 34 "VariantParser$Walk" "depth" "I" ∈ WG := wg1 (List.mem_of_getElem? (i := 65) rfl) rfl
theorem m1_66 : Cond.laysFinal "VariantParser$Walk" "VariantParser$Walk" "present" "[I" ∈ WG := wg1 (List.mem_of_getElem? (i := 66) rfl) rfl
theorem m1_68 : Cond.laysFinal "VariantParser$Walk" "VariantParser$Walk" "onAhead" "[[I" ∈ WG := wg1 (List.mem_of_getElem? (i := 68) rfl) rfl
theorem m1_70 : Cond.laysFinal "VariantParser$Walk" "VariantParser$Walk" "on" "[I" ∈ WG := wg1 (List.mem_of_getElem? (i := 70) rfl) rfl
theorem m1_72 : Cond.laysFinal "VariantParser$Walk" "VariantParser$Walk" "activeAheadOfWhen" "[I" ∈ WG := wg1 (List.mem_of_getElem? (i := 72) rfl) rfl
theorem m1_74 : Cond.laysFinal "VariantParser$Walk" "VariantParser$Walk" "activeAtOtherwise" "[I" ∈ WG := wg1 (List.mem_of_getElem? (i := 74) rfl) rfl
theorem m1_76 : Cond.lays "VariantParser$Walk" "VariantParser$Walk" "active" "I" ∈ WG := wg1 (List.mem_of_getElem? (i := 76) rfl) rfl
theorem m1_78 : Cond.lays "VariantParser$Walk" "VariantParser$Walk" "depth" "I" ∈ WG := wg1 (List.mem_of_getElem? (i := 78) rfl) rfl
theorem m1_81 : Cond.classLink RX7 23 "VariantParser$Variant" ∈ WG := wg1 (List.mem_of_getElem? (i := 81) rfl) rfl
theorem m1_83 : Cond.instantiable RX5 5 ∈ WG := wg1 (List.mem_of_getElem? (i := 83) rfl) rfl
theorem m1_85 : Cond.instanceMethod yX5_init ∈ WG := wg1 (List.mem_of_getElem? (i := 85) rfl) rfl
theorem m1_86 : Cond.code yX5_init cX5_init 1 none ∈ WG := wg1 (List.mem_of_getElem? (i := 86) rfl) rfl
theorem m1_87 : Cond.methodLink RX5 3 objectInit ∈ WG := wg1 (List.mem_of_getElem? (i := 87) rfl) rfl
theorem m1_88 : Cond.classLink RX5 18 "VariantParser$Reading" ∈ WG := wg1 (List.mem_of_getElem? (i := 88) rfl) rfl
theorem m1_89 : Cond.instantiable RX1 5 ∈ WG := wg1 (List.mem_of_getElem? (i := 89) rfl) rfl
theorem m1_91 : Cond.instanceMethod yX1_init ∈ WG := wg1 (List.mem_of_getElem? (i := 91) rfl) rfl
theorem m1_92 : Cond.code yX1_init cX1_init 1 none ∈ WG := wg1 (List.mem_of_getElem? (i := 92) rfl) rfl
theorem m1_93 : Cond.methodLink RX1 5 objectInit ∈ WG := wg1 (List.mem_of_getElem? (i := 93) rfl) rfl
theorem m1_94 : Cond.fieldLink RX1 11 "VariantParser$Reading" "symbols" "[I" ∈ WG := wg1 (List.mem_of_getElem? (i := 94) rfl) rfl
theorem m1_95 : Cond.fieldLink RX1 18 "VariantParser$Reading" "height" "I" ∈ WG := wg1 (List.mem_of_getElem? (i := 95) rfl) rfl
theorem m1_96 : Cond.fieldLink RX1 15 "VariantParser$Reading" "heights" "[I" ∈ WG := wg1 (List.mem_of_getElem? (i := 96) rfl) rfl
theorem m1_97 : Cond.fieldLink RX1 28 "VariantParser$Reading" "tokensRead" "I" ∈ WG := wg1 (List.mem_of_getElem? (i := 97) rfl) rfl
theorem m1_98 : Cond.fieldLink RX7 160 "VariantParser$Reading" "tokensRead" "I" ∈ WG := wg1 (List.mem_of_getElem? (i := 98) rfl) rfl
theorem m1_99 : Cond.fieldLink RX1 31 "VariantParser$Reading" "errorPlace" "I" ∈ WG := wg1 (List.mem_of_getElem? (i := 99) rfl) rfl
theorem m1_100 : Cond.fieldLink RX7 152 "VariantParser$Reading" "errorPlace" "I" ∈ WG := wg1 (List.mem_of_getElem? (i := 100) rfl) rfl
theorem m1_101 : Cond.laysFinal "VariantParser$Reading" "VariantParser$Reading" "symbols" "[I" ∈ WG := wg1 (List.mem_of_getElem? (i := 101) rfl) rfl
theorem m1_103 : Cond.lays "VariantParser$Reading" "VariantParser$Reading" "height" "I" ∈ WG := wg1 (List.mem_of_getElem? (i := 103) rfl) rfl
theorem m1_105 : Cond.laysFinal "VariantParser$Reading" "VariantParser$Reading" "heights" "[I" ∈ WG := wg1 (List.mem_of_getElem? (i := 105) rfl) rfl
theorem m1_107 : Cond.lays "VariantParser$Reading" "VariantParser$Reading" "tokensRead" "I" ∈ WG := wg1 (List.mem_of_getElem? (i := 107) rfl) rfl
theorem m1_109 : Cond.lays "VariantParser$Reading" "VariantParser$Reading" "errorPlace" "I" ∈ WG := wg1 (List.mem_of_getElem? (i := 109) rfl) rfl
theorem m1_112 : Cond.classLink RX5 25 "VariantParser$Run" ∈ WG := wg1 (List.mem_of_getElem? (i := 112) rfl) rfl
theorem m1_113 : Cond.instantiable RX3 6 ∈ WG := wg1 (List.mem_of_getElem? (i := 113) rfl) rfl
theorem m1_115 : Cond.instanceMethod yX3_init ∈ WG := wg1 (List.mem_of_getElem? (i := 115) rfl) rfl
theorem m1_116 : Cond.code yX3_init cX3_init 1 none ∈ WG := wg1 (List.mem_of_getElem? (i := 116) rfl) rfl
theorem m1_117 : Cond.methodLink RX3 3 objectInit ∈ WG := wg1 (List.mem_of_getElem? (i := 117) rfl) rfl
theorem m1_118 : Cond.fieldLink RX3 9 "VariantParser$Run" "tokens" "[I" ∈ WG := wg1 (List.mem_of_getElem? (i := 118) rfl) rfl
theorem m1_119 : Cond.fieldLink RX3 27 "VariantParser$Run" "count" "I" ∈ WG := wg1 (List.mem_of_getElem? (i := 119) rfl) rfl
theorem m1_120 : Cond.fieldLink RX3 31 "VariantParser$Run" "next" "I" ∈ WG := wg1 (List.mem_of_getElem? (i := 120) rfl) rfl
theorem m1_121 : Cond.fieldLink RX3 15 "VariantParser$Run" "variables" "[I" ∈ WG := wg1 (List.mem_of_getElem? (i := 121) rfl) rfl
theorem m1_122 : Cond.fieldLink RX7 185 "VariantParser$Run" "variables" "[I" ∈ WG := wg1 (List.mem_of_getElem? (i := 122) rfl) rfl
theorem m1_123 : Cond.fieldLink RX3 18 "VariantParser$Run" "outputs" "[I" ∈ WG := wg1 (List.mem_of_getElem? (i := 123) rfl) rfl
theorem m1_124 : Cond.fieldLink RX7 180 "VariantParser$Run" "outputs" "[I" ∈ WG := wg1 (List.mem_of_getElem? (i := 124) rfl) rfl
theorem m1_125 : Cond.fieldLink RX3 34 "VariantParser$Run" "outputCount" "I" ∈ WG := wg1 (List.mem_of_getElem? (i := 125) rfl) rfl
theorem m1_126 : Cond.fieldLink RX7 173 "VariantParser$Run" "outputCount" "I" ∈ WG := wg1 (List.mem_of_getElem? (i := 126) rfl) rfl
theorem m1_127 : Cond.laysFinal "VariantParser$Run" "VariantParser$Run" "tokens" "[I" ∈ WG := wg1 (List.mem_of_getElem? (i := 127) rfl) rfl
theorem m1_129 : Cond.lays "VariantParser$Run" "VariantParser$Run" "count" "I" ∈ WG := wg1 (List.mem_of_getElem? (i := 129) rfl) rfl
theorem m1_131 : Cond.lays "VariantParser$Run" "VariantParser$Run" "next" "I" ∈ WG := wg1 (List.mem_of_getElem? (i := 131) rfl) rfl
theorem m1_133 : Cond.laysFinal "VariantParser$Run" "VariantParser$Run" "variables" "[I" ∈ WG := wg1 (List.mem_of_getElem? (i := 133) rfl) rfl
theorem m1_135 : Cond.laysFinal "VariantParser$Run" "VariantParser$Run" "outputs" "[I" ∈ WG := wg1 (List.mem_of_getElem? (i := 135) rfl) rfl
theorem m1_137 : Cond.lays "VariantParser$Run" "VariantParser$Run" "outputCount" "I" ∈ WG := wg1 (List.mem_of_getElem? (i := 137) rfl) rfl
theorem m1_140 : Cond.fieldLink RX5 9 "VariantParser$Variant" "tokens" "[I" ∈ WG := wg1 (List.mem_of_getElem? (i := 140) rfl) rfl
theorem m1_141 : Cond.fieldLink RX7 257 "VariantParser$Variant" "tokens" "[I" ∈ WG := wg1 (List.mem_of_getElem? (i := 141) rfl) rfl
theorem m1_142 : Cond.fieldLink RX5 15 "VariantParser$Variant" "places" "[I" ∈ WG := wg1 (List.mem_of_getElem? (i := 142) rfl) rfl
theorem m1_143 : Cond.fieldLink RX7 139 "VariantParser$Variant" "places" "[I" ∈ WG := wg1 (List.mem_of_getElem? (i := 143) rfl) rfl
theorem m1_144 : Cond.fieldLink RX5 32 "VariantParser$Variant" "count" "I" ∈ WG := wg1 (List.mem_of_getElem? (i := 144) rfl) rfl
theorem m1_145 : Cond.fieldLink RX7 132 "VariantParser$Variant" "count" "I" ∈ WG := wg1 (List.mem_of_getElem? (i := 145) rfl) rfl
theorem m1_146 : Cond.fieldLink RX5 21 "VariantParser$Variant" "reading" "LVariantParser$Reading;" ∈ WG := wg1 (List.mem_of_getElem? (i := 146) rfl) rfl
theorem m1_147 : Cond.fieldLink RX7 148 "VariantParser$Variant" "reading" "LVariantParser$Reading;" ∈ WG := wg1 (List.mem_of_getElem? (i := 147) rfl) rfl
theorem m1_148 : Cond.fieldLink RX5 28 "VariantParser$Variant" "run" "LVariantParser$Run;" ∈ WG := wg1 (List.mem_of_getElem? (i := 148) rfl) rfl
theorem m1_149 : Cond.fieldLink RX7 169 "VariantParser$Variant" "run" "LVariantParser$Run;" ∈ WG := wg1 (List.mem_of_getElem? (i := 149) rfl) rfl
theorem m1_150 : Cond.laysFinal "VariantParser$Variant" "VariantParser$Variant" "tokens" "[I" ∈ WG := wg1 (List.mem_of_getElem? (i := 150) rfl) rfl
theorem m1_152 : Cond.laysFinal "VariantParser$Variant" "VariantParser$Variant" "places" "[I" ∈ WG := wg1 (List.mem_of_getElem? (i := 152) rfl) rfl
theorem m1_154 : Cond.lays "VariantParser$Variant" "VariantParser$Variant" "count" "I" ∈ WG := wg1 (List.mem_of_getElem? (i := 154) rfl) rfl
theorem m1_156 : Cond.laysFinal "VariantParser$Variant" "VariantParser$Variant" "reading" "LVariantParser$Reading;" ∈ WG := wg1 (List.mem_of_getElem? (i := 156) rfl) rfl
theorem m1_158 : Cond.laysFinal "VariantParser$Variant" "VariantParser$Variant" "run" "LVariantParser$Run;" ∈ WG := wg1 (List.mem_of_getElem? (i := 158) rfl) rfl
theorem m1_161 : Cond.fieldLink RX7 10 "VariantParser" "source" "LVariantParser$Source;" ∈ WG := wg1 (List.mem_of_getElem? (i := 161) rfl) rfl
theorem m1_162 : Cond.fieldLink RX7 19 "VariantParser" "walk" "LVariantParser$Walk;" ∈ WG := wg1 (List.mem_of_getElem? (i := 162) rfl) rfl
theorem m1_163 : Cond.fieldLink RX7 25 "VariantParser" "variantOf" "[LVariantParser$Variant;" ∈ WG := wg1 (List.mem_of_getElem? (i := 163) rfl) rfl
theorem m1_164 : Cond.fieldLink RX7 30 "VariantParser" "groupCounts" "[I" ∈ WG := wg1 (List.mem_of_getElem? (i := 164) rfl) rfl
theorem m1_165 : Cond.fieldLink RX7 34 "VariantParser" "isFresh" "Z" ∈ WG := wg1 (List.mem_of_getElem? (i := 165) rfl) rfl
theorem m1_166 : Cond.laysFinal "VariantParser" "VariantParser" "source" "LVariantParser$Source;" ∈ WG := wg1 (List.mem_of_getElem? (i := 166) rfl) rfl
theorem m1_168 : Cond.laysFinal "VariantParser" "VariantParser" "walk" "LVariantParser$Walk;" ∈ WG := wg1 (List.mem_of_getElem? (i := 168) rfl) rfl
theorem m1_170 : Cond.laysFinal "VariantParser" "VariantParser" "variantOf" "[LVariantParser$Variant;" ∈ WG := wg1 (List.mem_of_getElem? (i := 170) rfl) rfl
theorem m1_172 : Cond.laysFinal "VariantParser" "VariantParser" "groupCounts" "[I" ∈ WG := wg1 (List.mem_of_getElem? (i := 172) rfl) rfl
theorem m1_174 : Cond.lays "VariantParser" "VariantParser" "isFresh" "Z" ∈ WG := wg1 (List.mem_of_getElem? (i := 174) rfl) rfl
theorem m1_177 : Cond.methodLink RL 131 yX7_size ∈ WG := wg1 (List.mem_of_getElem? (i := 177) rfl) rfl
theorem m1_178 : Cond.instanceMethod yX7_size ∈ WG := wg1 (List.mem_of_getElem? (i := 178) rfl) rfl
theorem m1_179 : Cond.selects RX7 yX7_size yX7_size ∈ WG := wg1 (List.mem_of_getElem? (i := 179) rfl) rfl
theorem m1_180 : Cond.code yX7_size cX7_size 1 (some .int) ∈ WG := wg1 (List.mem_of_getElem? (i := 180) rfl) rfl
theorem m1_181 : Cond.methodLink RL 139 yX7_unfinished ∈ WG := wg1 (List.mem_of_getElem? (i := 181) rfl) rfl
theorem m1_182 : Cond.instanceMethod yX7_unfinished ∈ WG := wg1 (List.mem_of_getElem? (i := 182) rfl) rfl
theorem m1_183 : Cond.selects RX7 yX7_unfinished yX7_unfinished ∈ WG := wg1 (List.mem_of_getElem? (i := 183) rfl) rfl
theorem m1_184 : Cond.code yX7_unfinished cX7_unfinished 1 (some .int) ∈ WG := wg1 (List.mem_of_getElem? (i := 184) rfl) rfl
theorem m1_185 : Cond.methodLink RX7 75 yX4_countUnfinished ∈ WG := wg1 (List.mem_of_getElem? (i := 185) rfl) rfl
theorem m1_186 : Cond.instanceMethod yX4_countUnfinished ∈ WG := wg1 (List.mem_of_getElem? (i := 186) rfl) rfl
theorem m1_187 : Cond.selects RX4 yX4_countUnfinished yX4_countUnfinished ∈ WG := wg1 (List.mem_of_getElem? (i := 187) rfl) rfl
theorem m1_188 : Cond.code yX4_countUnfinished cX4_countUnfinished 3 (some .int) ∈ WG := wg1 (List.mem_of_getElem? (i := 188) rfl) rfl
theorem m1_189 : Cond.methodLink RX4 23 yX4_isWhen ∈ WG := wg1 (List.mem_of_getElem? (i := 189) rfl) rfl
theorem m1_190 : Cond.static yX4_isWhen ∈ WG := wg1 (List.mem_of_getElem? (i := 190) rfl) rfl
theorem m1_191 : Cond.code yX4_isWhen cX4_isWhen 1 (some .boolean) ∈ WG := wg1 (List.mem_of_getElem? (i := 191) rfl) rfl
theorem m1_192 : Cond.methodLink RL 152 yX7_dead ∈ WG := wg1 (List.mem_of_getElem? (i := 192) rfl) rfl
theorem m1_193 : Cond.instanceMethod yX7_dead ∈ WG := wg1 (List.mem_of_getElem? (i := 193) rfl) rfl
theorem m1_194 : Cond.selects RX7 yX7_dead yX7_dead ∈ WG := wg1 (List.mem_of_getElem? (i := 194) rfl) rfl
theorem m1_195 : Cond.code yX7_dead cX7_dead 3 (some .int) ∈ WG := wg1 (List.mem_of_getElem? (i := 195) rfl) rfl
theorem m1_196 : Cond.methodLink RX7 112 yX7_refresh ∈ WG := wg1 (List.mem_of_getElem? (i := 196) rfl) rfl
theorem m1_198 : Cond.instanceMethod yX7_refresh ∈ WG := wg1 (List.mem_of_getElem? (i := 198) rfl) rfl
theorem m1_199 : Cond.code yX7_refresh cX7_refresh 1 none ∈ WG := wg1 (List.mem_of_getElem? (i := 199) rfl) rfl
theorem m1_200 : Cond.methodLink RX7 224 yX6_goThrough ∈ WG := wg1 (List.mem_of_getElem? (i := 200) rfl) rfl
theorem m1_201 : Cond.instanceMethod yX6_goThrough ∈ WG := wg1 (List.mem_of_getElem? (i := 201) rfl) rfl
theorem m1_202 : Cond.selects RX6 yX6_goThrough yX6_goThrough ∈ WG := wg1 (List.mem_of_getElem? (i := 202) rfl) rfl
theorem m1_203 : Cond.code yX6_goThrough cX6_goThrough 4 none ∈ WG := wg1 (List.mem_of_getElem? (i := 203) rfl) rfl
theorem m1_204 : Cond.constant RX6 29 (65535) ∈ WG := wg1 (List.mem_of_getElem? (i := 204) rfl) rfl
theorem m1_205 : Cond.fieldLink RX6 37 "VariantParser$Walk" "ON_AT_FIRST" "[I" ∈ WG := wg1 (List.mem_of_getElem? (i := 205) rfl) rfl
theorem m1_207 : Cond.methodLink RX6 48 yX6_step ∈ WG := wg1 (List.mem_of_getElem? (i := 207) rfl) rfl
theorem m1_209 : Cond.instanceMethod yX6_step ∈ WG := wg1 (List.mem_of_getElem? (i := 209) rfl) rfl
theorem m1_210 : Cond.code yX6_step cX6_step 3 none ∈ WG := wg1 (List.mem_of_getElem? (i := 210) rfl) rfl
theorem m1_211 : Cond.methodLink RX6 52 yX4_isWhen ∈ WG := wg1 (List.mem_of_getElem? (i := 211) rfl) rfl
theorem m1_212 : Cond.methodLink RX6 56 yX6_enter ∈ WG := wg1 (List.mem_of_getElem? (i := 212) rfl) rfl
theorem m1_214 : Cond.instanceMethod yX6_enter ∈ WG := wg1 (List.mem_of_getElem? (i := 214) rfl) rfl
theorem m1_215 : Cond.code yX6_enter cX6_enter 3 none ∈ WG := wg1 (List.mem_of_getElem? (i := 215) rfl) rfl
theorem m1_216 : Cond.methodLink RX6 66 yX4_featureOf ∈ WG := wg1 (List.mem_of_getElem? (i := 216) rfl) rfl
theorem m1_217 : Cond.static yX4_featureOf ∈ WG := wg1 (List.mem_of_getElem? (i := 217) rfl) rfl
theorem m1_218 : Cond.code yX4_featureOf cX4_featureOf 1 (some .int) ∈ WG := wg1 (List.mem_of_getElem? (i := 218) rfl) rfl
theorem m1_219 : Cond.methodLink RX6 70 yX4_isForOn ∈ WG := wg1 (List.mem_of_getElem? (i := 219) rfl) rfl
theorem m1_220 : Cond.static yX4_isForOn ∈ WG := wg1 (List.mem_of_getElem? (i := 220) rfl) rfl
theorem m1_221 : Cond.code yX4_isForOn cX4_isForOn 1 (some .boolean) ∈ WG := wg1 (List.mem_of_getElem? (i := 221) rfl) rfl
theorem m1_222 : Cond.methodLink RX6 60 yX4_isSet ∈ WG := wg1 (List.mem_of_getElem? (i := 222) rfl) rfl
theorem m1_223 : Cond.static yX4_isSet ∈ WG := wg1 (List.mem_of_getElem? (i := 223) rfl) rfl
theorem m1_224 : Cond.code yX4_isSet cX4_isSet 1 (some .boolean) ∈ WG := wg1 (List.mem_of_getElem? (i := 224) rfl) rfl
theorem m1_225 : Cond.methodLink RX6 63 yX6_turn ∈ WG := wg1 (List.mem_of_getElem? (i := 225) rfl) rfl
theorem m1_227 : Cond.instanceMethod yX6_turn ∈ WG := wg1 (List.mem_of_getElem? (i := 227) rfl) rfl
theorem m1_228 : Cond.code yX6_turn cX6_turn 3 none ∈ WG := wg1 (List.mem_of_getElem? (i := 228) rfl) rfl
theorem m1_229 : Cond.methodLink RX7 228 yX7_collectVariants ∈ WG := wg1 (List.mem_of_getElem? (i := 229) rfl) rfl
theorem m1_231 : Cond.instanceMethod yX7_collectVariants ∈ WG := wg1 (List.mem_of_getElem? (i := 231) rfl) rfl
theorem m1_232 : Cond.code yX7_collectVariants cX7_collectVariants 4 none ∈ WG := wg1 (List.mem_of_getElem? (i := 232) rfl) rfl
theorem m1_233 : Cond.methodLink RX7 42 yX0_isToken ∈ WG := wg1 (List.mem_of_getElem? (i := 233) rfl) rfl
theorem m1_234 : Cond.static yX0_isToken ∈ WG := wg1 (List.mem_of_getElem? (i := 234) rfl) rfl
theorem m1_235 : Cond.code yX0_isToken cX0_isToken 1 (some .boolean) ∈ WG := wg1 (List.mem_of_getElem? (i := 235) rfl) rfl
theorem m1_236 : Cond.methodLink RX0 7 yX0_isDigit ∈ WG := wg1 (List.mem_of_getElem? (i := 236) rfl) rfl
theorem m1_237 : Cond.static yX0_isDigit ∈ WG := wg1 (List.mem_of_getElem? (i := 237) rfl) rfl
theorem m1_238 : Cond.code yX0_isDigit cX0_isDigit 1 (some .boolean) ∈ WG := wg1 (List.mem_of_getElem? (i := 238) rfl) rfl
theorem m1_239 : Cond.methodLink RX0 13 yX0_isName ∈ WG := wg1 (List.mem_of_getElem? (i := 239) rfl) rfl
theorem m2_0 : Cond.static yX0_isName ∈ WG := wg2 (List.mem_of_getElem? (i := 0) rfl) rfl
theorem m2_1 : Cond.code yX0_isName cX0_isName 1 (some .boolean) ∈ WG := wg2 (List.mem_of_getElem? (i := 1) rfl) rfl
theorem m2_2 : Cond.methodLink RX7 237 yX6_isPresent ∈ WG := wg2 (List.mem_of_getElem? (i := 2) rfl) rfl
theorem m2_3 : Cond.instanceMethod yX6_isPresent ∈ WG := wg2 (List.mem_of_getElem? (i := 3) rfl) rfl
theorem m2_4 : Cond.selects RX6 yX6_isPresent yX6_isPresent ∈ WG := wg2 (List.mem_of_getElem? (i := 4) rfl) rfl
theorem m2_5 : Cond.code yX6_isPresent cX6_isPresent 3 (some .boolean) ∈ WG := wg2 (List.mem_of_getElem? (i := 5) rfl) rfl
theorem m2_6 : Cond.methodLink RX7 240 yX5_add ∈ WG := wg2 (List.mem_of_getElem? (i := 6) rfl) rfl
theorem m2_7 : Cond.instanceMethod yX5_add ∈ WG := wg2 (List.mem_of_getElem? (i := 7) rfl) rfl
theorem m2_8 : Cond.selects RX5 yX5_add yX5_add ∈ WG := wg2 (List.mem_of_getElem? (i := 8) rfl) rfl
theorem m2_9 : Cond.code yX5_add cX5_add 3 none ∈ WG := wg2 (List.mem_of_getElem? (i := 9) rfl) rfl
theorem m2_10 : Cond.methodLink RX7 231 yX7_readAll ∈ WG := wg2 (List.mem_of_getElem? (i := 10) rfl) rfl
theorem m2_12 : Cond.instanceMethod yX7_readAll ∈ WG := wg2 (List.mem_of_getElem? (i := 12) rfl) rfl
theorem m2_13 : Cond.code yX7_readAll cX7_readAll 3 none ∈ WG := wg2 (List.mem_of_getElem? (i := 13) rfl) rfl
theorem m2_14 : Cond.methodLink RX7 242 yX1_begin ∈ WG := wg2 (List.mem_of_getElem? (i := 14) rfl) rfl
theorem m2_15 : Cond.instanceMethod yX1_begin ∈ WG := wg2 (List.mem_of_getElem? (i := 15) rfl) rfl
theorem m2_16 : Cond.selects RX1 yX1_begin yX1_begin ∈ WG := wg2 (List.mem_of_getElem? (i := 16) rfl) rfl
theorem m2_17 : Cond.code yX1_begin cX1_begin 1 none ∈ WG := wg2 (List.mem_of_getElem? (i := 17) rfl) rfl
theorem m2_18 : Cond.methodLink RX1 24 yX1_push ∈ WG := wg2 (List.mem_of_getElem? (i := 18) rfl) rfl
theorem m2_20 : Cond.instanceMethod yX1_push ∈ WG := wg2 (List.mem_of_getElem? (i := 20) rfl) rfl
theorem m2_21 : Cond.code yX1_push cX1_push 2 none ∈ WG := wg2 (List.mem_of_getElem? (i := 21) rfl) rfl
theorem m2_22 : Cond.methodLink RX7 245 yX7_countGroups ∈ WG := wg2 (List.mem_of_getElem? (i := 22) rfl) rfl
theorem m2_24 : Cond.instanceMethod yX7_countGroups ∈ WG := wg2 (List.mem_of_getElem? (i := 24) rfl) rfl
theorem m2_25 : Cond.code yX7_countGroups cX7_countGroups 4 (some .int) ∈ WG := wg2 (List.mem_of_getElem? (i := 25) rfl) rfl
theorem m2_26 : Cond.methodLink RX7 248 yX7_isReadBy ∈ WG := wg2 (List.mem_of_getElem? (i := 26) rfl) rfl
theorem m2_28 : Cond.instanceMethod yX7_isReadBy ∈ WG := wg2 (List.mem_of_getElem? (i := 28) rfl) rfl
theorem m2_29 : Cond.code yX7_isReadBy cX7_isReadBy 3 (some .boolean) ∈ WG := wg2 (List.mem_of_getElem? (i := 29) rfl) rfl
theorem m2_30 : Cond.methodLink RX7 264 yX7_isFirstOfItsGroup ∈ WG := wg2 (List.mem_of_getElem? (i := 30) rfl) rfl
theorem m2_32 : Cond.instanceMethod yX7_isFirstOfItsGroup ∈ WG := wg2 (List.mem_of_getElem? (i := 32) rfl) rfl
theorem m2_33 : Cond.code yX7_isFirstOfItsGroup cX7_isFirstOfItsGroup 5 (some .boolean) ∈ WG := wg2 (List.mem_of_getElem? (i := 33) rfl) rfl
theorem m2_34 : Cond.methodLink RX7 267 yX1_hasSameStack ∈ WG := wg2 (List.mem_of_getElem? (i := 34) rfl) rfl
theorem m2_35 : Cond.instanceMethod yX1_hasSameStack ∈ WG := wg2 (List.mem_of_getElem? (i := 35) rfl) rfl
theorem m2_36 : Cond.selects RX1 yX1_hasSameStack yX1_hasSameStack ∈ WG := wg2 (List.mem_of_getElem? (i := 36) rfl) rfl
theorem m2_37 : Cond.code yX1_hasSameStack cX1_hasSameStack 2 (some .boolean) ∈ WG := wg2 (List.mem_of_getElem? (i := 37) rfl) rfl
theorem m2_38 : Cond.methodLink RX1 37 yX2_areSame ∈ WG := wg2 (List.mem_of_getElem? (i := 38) rfl) rfl
theorem m2_39 : Cond.static yX2_areSame ∈ WG := wg2 (List.mem_of_getElem? (i := 39) rfl) rfl
theorem m2_40 : Cond.code yX2_areSame cX2_areSame 4 (some .boolean) ∈ WG := wg2 (List.mem_of_getElem? (i := 40) rfl) rfl
theorem m2_41 : Cond.methodLink RX2 7 yJ9_min_7cf53 ∈ WG := wg2 (List.mem_of_getElem? (i := 41) rfl) rfl
theorem m2_42 : Cond.static yJ9_min_7cf53 ∈ WG := wg2 (List.mem_of_getElem? (i := 42) rfl) rfl
theorem m2_43 : Cond.code yJ9_min_7cf53 cJ9_min_7cf53 2 (some .int) ∈ WG := wg2 (List.mem_of_getElem? (i := 43) rfl) rfl
theorem m2_44 : Cond.methodLink RX7 251 yX1_take ∈ WG := wg2 (List.mem_of_getElem? (i := 44) rfl) rfl
theorem m2_45 : Cond.instanceMethod yX1_take ∈ WG := wg2 (List.mem_of_getElem? (i := 45) rfl) rfl
theorem m2_46 : Cond.selects RX1 yX1_take yX1_take ∈ WG := wg2 (List.mem_of_getElem? (i := 46) rfl) rfl
theorem m2_47 : Cond.code yX1_take cX1_take 3 none ∈ WG := wg2 (List.mem_of_getElem? (i := 47) rfl) rfl
theorem m2_48 : Cond.methodLink RX1 34 yX1_replaceTop ∈ WG := wg2 (List.mem_of_getElem? (i := 48) rfl) rfl
theorem m2_50 : Cond.instanceMethod yX1_replaceTop ∈ WG := wg2 (List.mem_of_getElem? (i := 50) rfl) rfl
theorem m2_51 : Cond.code yX1_replaceTop cX1_replaceTop 7 none ∈ WG := wg2 (List.mem_of_getElem? (i := 51) rfl) rfl
theorem m2_52 : Cond.methodLink RX1 43 yX0_isReplaced ∈ WG := wg2 (List.mem_of_getElem? (i := 52) rfl) rfl
theorem m2_53 : Cond.static yX0_isReplaced ∈ WG := wg2 (List.mem_of_getElem? (i := 53) rfl) rfl
theorem m2_54 : Cond.code yX0_isReplaced cX0_isReplaced 1 (some .boolean) ∈ WG := wg2 (List.mem_of_getElem? (i := 54) rfl) rfl
theorem m2_55 : Cond.methodLink RX1 47 yX0_replacement ∈ WG := wg2 (List.mem_of_getElem? (i := 55) rfl) rfl
theorem m2_56 : Cond.static yX0_replacement ∈ WG := wg2 (List.mem_of_getElem? (i := 56) rfl) rfl
theorem m2_57 : Cond.code yX0_replacement cX0_replacement 2 (some (.object "java/lang/String")) ∈ WG := wg2 (List.mem_of_getElem? (i := 57) rfl) rfl
theorem m2_58 : Cond.methodLink RX0 16 yX0_canBeginStatement ∈ WG := wg2 (List.mem_of_getElem? (i := 58) rfl) rfl
theorem m2_59 : Cond.static yX0_canBeginStatement ∈ WG := wg2 (List.mem_of_getElem? (i := 59) rfl) rfl
theorem m2_60 : Cond.code yX0_canBeginStatement cX0_canBeginStatement 1 (some .boolean) ∈ WG := wg2 (List.mem_of_getElem? (i := 60) rfl) rfl
theorem m2_76 : Cond.methodLink RX1 51 yJ0_length_8abf5 ∈ WG := wg2 (List.mem_of_getElem? (i := 76) rfl) rfl
theorem m2_77 : Cond.instanceMethod yJ0_length_8abf5 ∈ WG := wg2 (List.mem_of_getElem? (i := 77) rfl) rfl
theorem m2_78 : Cond.selects RJ0 yJ0_length_8abf5 yJ0_length_8abf5 ∈ WG := wg2 (List.mem_of_getElem? (i := 78) rfl) rfl
theorem m2_79 : Cond.code yJ0_length_8abf5 cJ0_length_8abf5 1 (some .int) ∈ WG := wg2 (List.mem_of_getElem? (i := 79) rfl) rfl
theorem m2_80 : Cond.methodLink RJ0 335 yJ0_coder_7d493 ∈ WG := wg2 (List.mem_of_getElem? (i := 80) rfl) rfl
theorem m2_81 : Cond.instanceMethod yJ0_coder_7d493 ∈ WG := wg2 (List.mem_of_getElem? (i := 81) rfl) rfl
theorem m2_82 : Cond.selects RJ0 yJ0_coder_7d493 yJ0_coder_7d493 ∈ WG := wg2 (List.mem_of_getElem? (i := 82) rfl) rfl
theorem m2_83 : Cond.code yJ0_coder_7d493 cJ0_coder_7d493 1 (some .byte) ∈ WG := wg2 (List.mem_of_getElem? (i := 83) rfl) rfl
theorem m2_84 : Cond.fieldLink RJ0 38 "java/lang/String" "COMPACT_STRINGS" "Z" ∈ WG := wg2 (List.mem_of_getElem? (i := 84) rfl) rfl
theorem m2_86 : Cond.methodLink RX1 57 yJ0_charAt_5068e ∈ WG := wg2 (List.mem_of_getElem? (i := 86) rfl) rfl
theorem m2_87 : Cond.instanceMethod yJ0_charAt_5068e ∈ WG := wg2 (List.mem_of_getElem? (i := 87) rfl) rfl
theorem m2_88 : Cond.selects RJ0 yJ0_charAt_5068e yJ0_charAt_5068e ∈ WG := wg2 (List.mem_of_getElem? (i := 88) rfl) rfl
theorem m2_89 : Cond.code yJ0_charAt_5068e cJ0_charAt_5068e 2 (some .char) ∈ WG := wg2 (List.mem_of_getElem? (i := 89) rfl) rfl
theorem m2_90 : Cond.methodLink RJ0 492 yJ0_isLatin1_aae02 ∈ WG := wg2 (List.mem_of_getElem? (i := 90) rfl) rfl
theorem m2_91 : Cond.instanceMethod yJ0_isLatin1_aae02 ∈ WG := wg2 (List.mem_of_getElem? (i := 91) rfl) rfl
theorem m2_92 : Cond.selects RJ0 yJ0_isLatin1_aae02 yJ0_isLatin1_aae02 ∈ WG := wg2 (List.mem_of_getElem? (i := 92) rfl) rfl
theorem m2_93 : Cond.code yJ0_isLatin1_aae02 cJ0_isLatin1_aae02 1 (some .boolean) ∈ WG := wg2 (List.mem_of_getElem? (i := 93) rfl) rfl
theorem m2_94 : Cond.methodLink RJ0 495 yJ1_charAt_3b067 ∈ WG := wg2 (List.mem_of_getElem? (i := 94) rfl) rfl
theorem m2_95 : Cond.static yJ1_charAt_3b067 ∈ WG := wg2 (List.mem_of_getElem? (i := 95) rfl) rfl
theorem m2_96 : Cond.code yJ1_charAt_3b067 cJ1_charAt_3b067 2 (some .char) ∈ WG := wg2 (List.mem_of_getElem? (i := 96) rfl) rfl
theorem m2_97 : Cond.methodLink RJ1 9 yJ0_checkIndex_df160 ∈ WG := wg2 (List.mem_of_getElem? (i := 97) rfl) rfl
theorem m2_98 : Cond.static yJ0_checkIndex_df160 ∈ WG := wg2 (List.mem_of_getElem? (i := 98) rfl) rfl
theorem m2_99 : Cond.code yJ0_checkIndex_df160 cJ0_checkIndex_df160 2 none ∈ WG := wg2 (List.mem_of_getElem? (i := 99) rfl) rfl
theorem m2_100 : Cond.fieldLink RJ0 1053 "jdk/internal/util/Preconditions" "SIOOBE_FORMATTER" "Ljava/util/function/BiFunction;" ∈ WG := wg2 (List.mem_of_getElem? (i := 100) rfl) rfl
theorem m2_102 : Cond.methodLink RJ0 1059 yJ3_checkIndex_8e157 ∈ WG := wg2 (List.mem_of_getElem? (i := 102) rfl) rfl
theorem m2_103 : Cond.static yJ3_checkIndex_8e157 ∈ WG := wg2 (List.mem_of_getElem? (i := 103) rfl) rfl
theorem m2_104 : Cond.code yJ3_checkIndex_8e157 cJ3_checkIndex_8e157 3 (some .int) ∈ WG := wg2 (List.mem_of_getElem? (i := 104) rfl) rfl
theorem m2_105 : Cond.methodLink RJ0 498 yJ2_charAt_3b067 ∈ WG := wg2 (List.mem_of_getElem? (i := 105) rfl) rfl
theorem m2_106 : Cond.static yJ2_charAt_3b067 ∈ WG := wg2 (List.mem_of_getElem? (i := 106) rfl) rfl
theorem m2_107 : Cond.code yJ2_charAt_3b067 cJ2_charAt_3b067 2 (some .char) ∈ WG := wg2 (List.mem_of_getElem? (i := 107) rfl) rfl
theorem m2_108 : Cond.methodLink RJ2 67 yJ2_checkIndex_2214a ∈ WG := wg2 (List.mem_of_getElem? (i := 108) rfl) rfl
theorem m2_109 : Cond.static yJ2_checkIndex_2214a ∈ WG := wg2 (List.mem_of_getElem? (i := 109) rfl) rfl
theorem m2_110 : Cond.code yJ2_checkIndex_2214a cJ2_checkIndex_2214a 2 none ∈ WG := wg2 (List.mem_of_getElem? (i := 110) rfl) rfl
theorem m2_111 : Cond.methodLink RJ2 48 yJ2_length_9d52b ∈ WG := wg2 (List.mem_of_getElem? (i := 111) rfl) rfl
theorem m2_112 : Cond.static yJ2_length_9d52b ∈ WG := wg2 (List.mem_of_getElem? (i := 112) rfl) rfl
theorem m2_113 : Cond.code yJ2_length_9d52b cJ2_length_9d52b 1 (some .int) ∈ WG := wg2 (List.mem_of_getElem? (i := 113) rfl) rfl
theorem m2_114 : Cond.methodLink RJ2 414 yJ0_checkIndex_df160 ∈ WG := wg2 (List.mem_of_getElem? (i := 114) rfl) rfl
theorem m2_115 : Cond.methodLink RJ2 71 yJ2_getChar_3b067 ∈ WG := wg2 (List.mem_of_getElem? (i := 115) rfl) rfl
theorem m2_116 : Cond.static yJ2_getChar_3b067 ∈ WG := wg2 (List.mem_of_getElem? (i := 116) rfl) rfl
theorem m2_117 : Cond.code yJ2_getChar_3b067 cJ2_getChar_3b067 2 (some .char) ∈ WG := wg2 (List.mem_of_getElem? (i := 117) rfl) rfl
theorem m2_118 : Cond.fieldLink RJ2 44 "java/lang/StringUTF16" "$assertionsDisabled" "Z" ∈ WG := wg2 (List.mem_of_getElem? (i := 118) rfl) rfl
theorem m2_120 : Cond.fieldLink RJ2 59 "java/lang/StringUTF16" "HI_BYTE_SHIFT" "I" ∈ WG := wg2 (List.mem_of_getElem? (i := 120) rfl) rfl
theorem m2_122 : Cond.fieldLink RJ2 63 "java/lang/StringUTF16" "LO_BYTE_SHIFT" "I" ∈ WG := wg2 (List.mem_of_getElem? (i := 122) rfl) rfl
theorem m2_124 : Cond.methodLink RX7 254 yX1_end ∈ WG := wg2 (List.mem_of_getElem? (i := 124) rfl) rfl
theorem m2_125 : Cond.instanceMethod yX1_end ∈ WG := wg2 (List.mem_of_getElem? (i := 125) rfl) rfl
theorem m2_126 : Cond.selects RX1 yX1_end yX1_end ∈ WG := wg2 (List.mem_of_getElem? (i := 126) rfl) rfl
theorem m2_127 : Cond.code yX1_end cX1_end 2 none ∈ WG := wg2 (List.mem_of_getElem? (i := 127) rfl) rfl
theorem m2_128 : Cond.methodLink RX7 234 yX7_runAll ∈ WG := wg2 (List.mem_of_getElem? (i := 128) rfl) rfl
theorem m2_130 : Cond.instanceMethod yX7_runAll ∈ WG := wg2 (List.mem_of_getElem? (i := 130) rfl) rfl
theorem m2_131 : Cond.code yX7_runAll cX7_runAll 2 none ∈ WG := wg2 (List.mem_of_getElem? (i := 131) rfl) rfl
theorem m2_132 : Cond.methodLink RX7 260 yX3_execute ∈ WG := wg2 (List.mem_of_getElem? (i := 132) rfl) rfl
theorem m2_133 : Cond.instanceMethod yX3_execute ∈ WG := wg2 (List.mem_of_getElem? (i := 133) rfl) rfl
theorem m2_134 : Cond.selects RX3 yX3_execute yX3_execute ∈ WG := wg2 (List.mem_of_getElem? (i := 134) rfl) rfl
theorem m2_135 : Cond.code yX3_execute cX3_execute 4 none ∈ WG := wg2 (List.mem_of_getElem? (i := 135) rfl) rfl
theorem m2_136 : Cond.methodLink RX3 21 yJ9_min_7cf53 ∈ WG := wg2 (List.mem_of_getElem? (i := 136) rfl) rfl
theorem m2_137 : Cond.methodLink RX3 37 yX3_runStatements ∈ WG := wg2 (List.mem_of_getElem? (i := 137) rfl) rfl
theorem m2_139 : Cond.instanceMethod yX3_runStatements ∈ WG := wg2 (List.mem_of_getElem? (i := 139) rfl) rfl
theorem m2_140 : Cond.code yX3_runStatements cX3_runStatements 4 none ∈ WG := wg2 (List.mem_of_getElem? (i := 140) rfl) rfl
theorem m2_141 : Cond.methodLink RX3 49 yX3_peek ∈ WG := wg2 (List.mem_of_getElem? (i := 141) rfl) rfl
theorem m2_143 : Cond.instanceMethod yX3_peek ∈ WG := wg2 (List.mem_of_getElem? (i := 143) rfl) rfl
theorem m2_144 : Cond.code yX3_peek cX3_peek 1 (some .int) ∈ WG := wg2 (List.mem_of_getElem? (i := 144) rfl) rfl
theorem m2_145 : Cond.methodLink RX3 53 yX0_canBeginStatement ∈ WG := wg2 (List.mem_of_getElem? (i := 145) rfl) rfl
theorem m2_146 : Cond.methodLink RX3 57 yX3_runStatement ∈ WG := wg2 (List.mem_of_getElem? (i := 146) rfl) rfl
theorem m2_148 : Cond.instanceMethod yX3_runStatement ∈ WG := wg2 (List.mem_of_getElem? (i := 148) rfl) rfl
theorem m2_149 : Cond.code yX3_runStatement cX3_runStatement 5 none ∈ WG := wg2 (List.mem_of_getElem? (i := 149) rfl) rfl
theorem m2_150 : Cond.methodLink RX3 60 yX3_advance ∈ WG := wg2 (List.mem_of_getElem? (i := 150) rfl) rfl
theorem m2_152 : Cond.instanceMethod yX3_advance ∈ WG := wg2 (List.mem_of_getElem? (i := 152) rfl) rfl
theorem m2_153 : Cond.code yX3_advance cX3_advance 2 (some .int) ∈ WG := wg2 (List.mem_of_getElem? (i := 153) rfl) rfl
theorem m2_154 : Cond.methodLink RX3 63 yX3_runChoice ∈ WG := wg2 (List.mem_of_getElem? (i := 154) rfl) rfl
theorem m2_156 : Cond.instanceMethod yX3_runChoice ∈ WG := wg2 (List.mem_of_getElem? (i := 156) rfl) rfl
theorem m2_157 : Cond.code yX3_runChoice cX3_runChoice 4 none ∈ WG := wg2 (List.mem_of_getElem? (i := 157) rfl) rfl
theorem m2_158 : Cond.methodLink RX3 66 yX3_sum ∈ WG := wg2 (List.mem_of_getElem? (i := 158) rfl) rfl
theorem m2_160 : Cond.instanceMethod yX3_sum ∈ WG := wg2 (List.mem_of_getElem? (i := 160) rfl) rfl
theorem m2_161 : Cond.code yX3_sum cX3_sum 4 (some .int) ∈ WG := wg2 (List.mem_of_getElem? (i := 161) rfl) rfl
theorem m2_162 : Cond.methodLink RX3 78 yX3_product ∈ WG := wg2 (List.mem_of_getElem? (i := 162) rfl) rfl
theorem m2_164 : Cond.instanceMethod yX3_product ∈ WG := wg2 (List.mem_of_getElem? (i := 164) rfl) rfl
theorem m2_165 : Cond.code yX3_product cX3_product 4 (some .int) ∈ WG := wg2 (List.mem_of_getElem? (i := 165) rfl) rfl
theorem m2_166 : Cond.methodLink RX3 81 yX3_factor ∈ WG := wg2 (List.mem_of_getElem? (i := 166) rfl) rfl
theorem m2_168 : Cond.instanceMethod yX3_factor ∈ WG := wg2 (List.mem_of_getElem? (i := 168) rfl) rfl
theorem m2_169 : Cond.code yX3_factor cX3_factor 4 (some .int) ∈ WG := wg2 (List.mem_of_getElem? (i := 169) rfl) rfl
theorem m2_170 : Cond.methodLink RX3 84 yX3_operand ∈ WG := wg2 (List.mem_of_getElem? (i := 170) rfl) rfl
theorem m2_172 : Cond.instanceMethod yX3_operand ∈ WG := wg2 (List.mem_of_getElem? (i := 172) rfl) rfl
theorem m2_173 : Cond.code yX3_operand cX3_operand 4 (some .int) ∈ WG := wg2 (List.mem_of_getElem? (i := 173) rfl) rfl
theorem m2_174 : Cond.methodLink RX3 87 yX0_isDigit ∈ WG := wg2 (List.mem_of_getElem? (i := 174) rfl) rfl
theorem m2_175 : Cond.methodLink RX3 90 yX0_isName ∈ WG := wg2 (List.mem_of_getElem? (i := 175) rfl) rfl
theorem m2_176 : Cond.methodLink RX3 70 yX3_put ∈ WG := wg2 (List.mem_of_getElem? (i := 176) rfl) rfl
theorem m2_178 : Cond.instanceMethod yX3_put ∈ WG := wg2 (List.mem_of_getElem? (i := 178) rfl) rfl
theorem m2_179 : Cond.code yX3_put cX3_put 2 none ∈ WG := wg2 (List.mem_of_getElem? (i := 179) rfl) rfl
theorem m2_180 : Cond.methodLink RX3 74 yX3_assign ∈ WG := wg2 (List.mem_of_getElem? (i := 180) rfl) rfl
theorem m2_182 : Cond.instanceMethod yX3_assign ∈ WG := wg2 (List.mem_of_getElem? (i := 182) rfl) rfl
theorem m2_183 : Cond.code yX3_assign cX3_assign 3 none ∈ WG := wg2 (List.mem_of_getElem? (i := 183) rfl) rfl
theorem m2_184 : Cond.arrayClass .byte ∈ WG := wg2 (List.mem_of_getElem? (i := 184) rfl) rfl
theorem m2_185 : Cond.methodLink RL 162 yX7_variants ∈ WG := wg2 (List.mem_of_getElem? (i := 185) rfl) rfl
theorem m2_186 : Cond.instanceMethod yX7_variants ∈ WG := wg2 (List.mem_of_getElem? (i := 186) rfl) rfl
theorem m2_187 : Cond.selects RX7 yX7_variants yX7_variants ∈ WG := wg2 (List.mem_of_getElem? (i := 187) rfl) rfl
theorem m2_188 : Cond.code yX7_variants cX7_variants 3 (some .int) ∈ WG := wg2 (List.mem_of_getElem? (i := 188) rfl) rfl
theorem m2_189 : Cond.methodLink RX7 142 yX7_isFirstOfItsText ∈ WG := wg2 (List.mem_of_getElem? (i := 189) rfl) rfl
theorem m2_191 : Cond.instanceMethod yX7_isFirstOfItsText ∈ WG := wg2 (List.mem_of_getElem? (i := 191) rfl) rfl
theorem m2_192 : Cond.code yX7_isFirstOfItsText cX7_isFirstOfItsText 3 (some .boolean) ∈ WG := wg2 (List.mem_of_getElem? (i := 192) rfl) rfl
theorem m2_193 : Cond.methodLink RX7 271 yX5_hasSameTokens ∈ WG := wg2 (List.mem_of_getElem? (i := 193) rfl) rfl
theorem m2_194 : Cond.instanceMethod yX5_hasSameTokens ∈ WG := wg2 (List.mem_of_getElem? (i := 194) rfl) rfl
theorem m2_195 : Cond.selects RX5 yX5_hasSameTokens yX5_hasSameTokens ∈ WG := wg2 (List.mem_of_getElem? (i := 195) rfl) rfl
theorem m2_196 : Cond.code yX5_hasSameTokens cX5_hasSameTokens 2 (some .boolean) ∈ WG := wg2 (List.mem_of_getElem? (i := 196) rfl) rfl
theorem m2_197 : Cond.methodLink RX5 36 yX2_areSame ∈ WG := wg2 (List.mem_of_getElem? (i := 197) rfl) rfl
theorem m2_198 : Cond.methodLink RL 200 yX7_digest ∈ WG := wg2 (List.mem_of_getElem? (i := 198) rfl) rfl
theorem m2_199 : Cond.instanceMethod yX7_digest ∈ WG := wg2 (List.mem_of_getElem? (i := 199) rfl) rfl
theorem m2_200 : Cond.selects RX7 yX7_digest yX7_digest ∈ WG := wg2 (List.mem_of_getElem? (i := 200) rfl) rfl
theorem m2_201 : Cond.code yX7_digest cX7_digest 4 (some .long) ∈ WG := wg2 (List.mem_of_getElem? (i := 201) rfl) rfl
theorem m2_202 : Cond.constantLong RX7 191 (139) ∈ WG := wg2 (List.mem_of_getElem? (i := 202) rfl) rfl
theorem m2_203 : Cond.methodLink RX7 193 yX7_mix ∈ WG := wg2 (List.mem_of_getElem? (i := 203) rfl) rfl
theorem m2_204 : Cond.static yX7_mix ∈ WG := wg2 (List.mem_of_getElem? (i := 204) rfl) rfl
theorem m2_205 : Cond.code yX7_mix cX7_mix 4 (some .long) ∈ WG := wg2 (List.mem_of_getElem? (i := 205) rfl) rfl
theorem m2_206 : Cond.constantLong RX7 279 (31) ∈ WG := wg2 (List.mem_of_getElem? (i := 206) rfl) rfl
theorem m2_207 : Cond.methodLink RX7 197 yX7_mixVariant ∈ WG := wg2 (List.mem_of_getElem? (i := 207) rfl) rfl
theorem m2_208 : Cond.static yX7_mixVariant ∈ WG := wg2 (List.mem_of_getElem? (i := 208) rfl) rfl
theorem m2_209 : Cond.code yX7_mixVariant cX7_mixVariant 7 (some .long) ∈ WG := wg2 (List.mem_of_getElem? (i := 209) rfl) rfl
theorem m2_210 : Cond.methodLink RL 101 yL_write ∈ WG := wg2 (List.mem_of_getElem? (i := 210) rfl) rfl
theorem m2_211 : Cond.static yL_write ∈ WG := wg2 (List.mem_of_getElem? (i := 211) rfl) rfl
theorem m2_213 : Cond.classLink RL 13 "java/lang/IllegalArgumentException" ∈ WG := wg2 (List.mem_of_getElem? (i := 213) rfl) rfl
theorem m2_214 : Cond.classLink RL 15 "java/lang/IllegalStateException" ∈ WG := wg2 (List.mem_of_getElem? (i := 214) rfl) rfl
theorem m2_215 : Cond.methodLink RL 7 yX7_write ∈ WG := wg2 (List.mem_of_getElem? (i := 215) rfl) rfl
theorem m2_216 : Cond.instanceMethod yX7_write ∈ WG := wg2 (List.mem_of_getElem? (i := 216) rfl) rfl
theorem m2_217 : Cond.selects RX7 yX7_write yX7_write ∈ WG := wg2 (List.mem_of_getElem? (i := 217) rfl) rfl
theorem m2_218 : Cond.code yX7_write cX7_write 6 (some .int) ∈ WG := wg2 (List.mem_of_getElem? (i := 218) rfl) rfl
theorem m2_219 : Cond.methodLink RX7 38 yX7_byteOf ∈ WG := wg2 (List.mem_of_getElem? (i := 219) rfl) rfl
theorem m2_220 : Cond.static yX7_byteOf ∈ WG := wg2 (List.mem_of_getElem? (i := 220) rfl) rfl
theorem m2_221 : Cond.code yX7_byteOf cX7_byteOf 3 (some .int) ∈ WG := wg2 (List.mem_of_getElem? (i := 221) rfl) rfl
theorem m2_222 : Cond.classLink RX7 48 "java/lang/IllegalArgumentException" ∈ WG := wg2 (List.mem_of_getElem? (i := 222) rfl) rfl
theorem m2_223 : Cond.instantiable "java/lang/IllegalArgumentException" 6 ∈ WG := wg2 (List.mem_of_getElem? (i := 223) rfl) rfl
theorem m2_231 : Cond.selects "java/lang/IllegalArgumentException" ⟨"java/lang/Throwable", "fillInStackTrace", "(I)Ljava/lang/Throwable;"⟩ ⟨"java/lang/Throwable", "fillInStackTrace", "(I)Ljava/lang/Throwable;"⟩ ∈ WG := wg2 (List.mem_of_getElem? (i := 231) rfl) rfl
theorem m2_232 : Cond.selects "java/lang/IllegalArgumentException" ⟨"java/lang/Throwable", "fillInStackTrace", "()Ljava/lang/Throwable;"⟩ ⟨"java/lang/Throwable", "fillInStackTrace", "()Ljava/lang/Throwable;"⟩ ∈ WG := wg2 (List.mem_of_getElem? (i := 232) rfl) rfl
theorem m2_233 : Cond.lays "java/lang/IllegalArgumentException" "java/lang/Throwable" "cause" "Ljava/lang/Throwable;" ∈ WG := wg2 (List.mem_of_getElem? (i := 233) rfl) rfl
theorem m2_234 : Cond.lays "java/lang/Throwable" "java/lang/Throwable" "cause" "Ljava/lang/Throwable;" ∈ WG := wg2 (List.mem_of_getElem? (i := 234) rfl) rfl
theorem m2_235 : Cond.lays "java/lang/IllegalArgumentException" "java/lang/Throwable" "stackTrace" "[Ljava/lang/StackTraceElement;" ∈ WG := wg2 (List.mem_of_getElem? (i := 235) rfl) rfl
theorem m2_236 : Cond.lays "java/lang/Throwable" "java/lang/Throwable" "stackTrace" "[Ljava/lang/StackTraceElement;" ∈ WG := wg2 (List.mem_of_getElem? (i := 236) rfl) rfl
theorem m2_237 : Cond.lays "java/lang/IllegalArgumentException" "java/lang/Throwable" "suppressedExceptions" "Ljava/util/List;" ∈ WG := wg2 (List.mem_of_getElem? (i := 237) rfl) rfl
theorem m2_238 : Cond.lays "java/lang/Throwable" "java/lang/Throwable" "suppressedExceptions" "Ljava/util/List;" ∈ WG := wg2 (List.mem_of_getElem? (i := 238) rfl) rfl
theorem m2_239 : Cond.lays "java/lang/IllegalArgumentException" "java/lang/Throwable" "detailMessage" "Ljava/lang/String;" ∈ WG := wg2 (List.mem_of_getElem? (i := 239) rfl) rfl
theorem m3_0 : Cond.lays "java/lang/Throwable" "java/lang/Throwable" "detailMessage" "Ljava/lang/String;" ∈ WG := wg3 (List.mem_of_getElem? (i := 0) rfl) rfl
theorem m3_1 : Cond.lays "java/lang/IllegalArgumentException" "java/lang/Throwable" "backtrace" "Ljava/lang/Object;" ∈ WG := wg3 (List.mem_of_getElem? (i := 1) rfl) rfl
theorem m3_2 : Cond.lays "java/lang/Throwable" "java/lang/Throwable" "backtrace" "Ljava/lang/Object;" ∈ WG := wg3 (List.mem_of_getElem? (i := 2) rfl) rfl
theorem m3_3 : Cond.fieldLink "java/lang/Throwable" 198 "java/lang/Throwable" "backtrace" "Ljava/lang/Object;" ∈ WG := wg3 (List.mem_of_getElem? (i := 3) rfl) rfl
theorem m3_5 : Cond.instanceMethod ⟨"java/lang/Throwable", "<init>", "()V"⟩ ∈ WG := wg3 (List.mem_of_getElem? (i := 5) rfl) rfl
theorem m3_6 : Cond.code ⟨"java/lang/Throwable", "<init>", "()V"⟩ prog_24_method_1_code 1 none ∈ WG := wg3 (List.mem_of_getElem? (i := 6) rfl) rfl
theorem m3_7 : Cond.methodLink "java/lang/Throwable" 1 objectInit ∈ WG := wg3 (List.mem_of_getElem? (i := 7) rfl) rfl
theorem m3_8 : Cond.fieldLink "java/lang/Throwable" 13 "java/lang/Throwable" "UNASSIGNED_STACK" "[Ljava/lang/StackTraceElement;" ∈ WG := wg3 (List.mem_of_getElem? (i := 8) rfl) rfl
theorem m3_10 : Cond.fieldLink "java/lang/Throwable" 20 "java/lang/Throwable" "SUPPRESSED_SENTINEL" "Ljava/util/List;" ∈ WG := wg3 (List.mem_of_getElem? (i := 10) rfl) rfl
theorem m3_12 : Cond.methodLink "java/lang/Throwable" 27 ⟨"java/lang/Throwable", "fillInStackTrace", "()Ljava/lang/Throwable;"⟩ ∈ WG := wg3 (List.mem_of_getElem? (i := 12) rfl) rfl
theorem m3_13 : Cond.instanceMethod ⟨"java/lang/Throwable", "fillInStackTrace", "()Ljava/lang/Throwable;"⟩ ∈ WG := wg3 (List.mem_of_getElem? (i := 13) rfl) rfl
theorem m3_15 : Cond.selects "java/lang/IllegalStateException" ⟨"java/lang/Throwable", "fillInStackTrace", "()Ljava/lang/Throwable;"⟩ ⟨"java/lang/Throwable", "fillInStackTrace", "()Ljava/lang/Throwable;"⟩ ∈ WG := wg3 (List.mem_of_getElem? (i := 15) rfl) rfl
theorem m3_16 : Cond.selects "java/lang/IndexOutOfBoundsException" ⟨"java/lang/Throwable", "fillInStackTrace", "()Ljava/lang/Throwable;"⟩ ⟨"java/lang/Throwable", "fillInStackTrace", "()Ljava/lang/Throwable;"⟩ ∈ WG := wg3 (List.mem_of_getElem? (i := 16) rfl) rfl
theorem m3_17 : Cond.selects "java/util/NoSuchElementException" ⟨"java/lang/Throwable", "fillInStackTrace", "()Ljava/lang/Throwable;"⟩ ⟨"java/lang/Throwable", "fillInStackTrace", "()Ljava/lang/Throwable;"⟩ ∈ WG := wg3 (List.mem_of_getElem? (i := 17) rfl) rfl
theorem m3_19 : Cond.methodLink "java/lang/Throwable" 202 ⟨"java/lang/Throwable", "fillInStackTrace", "(I)Ljava/lang/Throwable;"⟩ ∈ WG := wg3 (List.mem_of_getElem? (i := 19) rfl) rfl
theorem m3_21 : Cond.instanceMethod ⟨"java/lang/Throwable", "fillInStackTrace", "(I)Ljava/lang/Throwable;"⟩ ∈ WG := wg3 (List.mem_of_getElem? (i := 21) rfl) rfl
theorem m3_22 : Cond.instantiable "java/lang/Throwable" 6 ∈ WG := wg3 (List.mem_of_getElem? (i := 22) rfl) rfl
theorem m3_25 : Cond.methodLink RX7 52 ⟨"java/lang/IllegalArgumentException", "<init>", "(Ljava/lang/String;)V"⟩ ∈ WG := wg3 (List.mem_of_getElem? (i := 25) rfl) rfl
theorem m3_26 : Cond.instanceMethod ⟨"java/lang/IllegalArgumentException", "<init>", "(Ljava/lang/String;)V"⟩ ∈ WG := wg3 (List.mem_of_getElem? (i := 26) rfl) rfl
theorem m3_27 : Cond.code ⟨"java/lang/IllegalArgumentException", "<init>", "(Ljava/lang/String;)V"⟩ prog_16_method_2_code 2 none ∈ WG := wg3 (List.mem_of_getElem? (i := 27) rfl) rfl
theorem m3_28 : Cond.methodLink "java/lang/IllegalArgumentException" 7 ⟨"java/lang/RuntimeException", "<init>", "(Ljava/lang/String;)V"⟩ ∈ WG := wg3 (List.mem_of_getElem? (i := 28) rfl) rfl
theorem m3_29 : Cond.instanceMethod ⟨"java/lang/RuntimeException", "<init>", "(Ljava/lang/String;)V"⟩ ∈ WG := wg3 (List.mem_of_getElem? (i := 29) rfl) rfl
theorem m3_30 : Cond.code ⟨"java/lang/RuntimeException", "<init>", "(Ljava/lang/String;)V"⟩ prog_20_method_2_code 2 none ∈ WG := wg3 (List.mem_of_getElem? (i := 30) rfl) rfl
theorem m3_31 : Cond.methodLink "java/lang/RuntimeException" 7 ⟨"java/lang/Exception", "<init>", "(Ljava/lang/String;)V"⟩ ∈ WG := wg3 (List.mem_of_getElem? (i := 31) rfl) rfl
theorem m3_32 : Cond.instanceMethod ⟨"java/lang/Exception", "<init>", "(Ljava/lang/String;)V"⟩ ∈ WG := wg3 (List.mem_of_getElem? (i := 32) rfl) rfl
theorem m3_33 : Cond.code ⟨"java/lang/Exception", "<init>", "(Ljava/lang/String;)V"⟩ prog_15_method_2_code 2 none ∈ WG := wg3 (List.mem_of_getElem? (i := 33) rfl) rfl
theorem m3_34 : Cond.methodLink "java/lang/Exception" 7 ⟨"java/lang/Throwable", "<init>", "(Ljava/lang/String;)V"⟩ ∈ WG := wg3 (List.mem_of_getElem? (i := 34) rfl) rfl
theorem m3_35 : Cond.instanceMethod ⟨"java/lang/Throwable", "<init>", "(Ljava/lang/String;)V"⟩ ∈ WG := wg3 (List.mem_of_getElem? (i := 35) rfl) rfl
theorem m3_36 : Cond.code ⟨"java/lang/Throwable", "<init>", "(Ljava/lang/String;)V"⟩ prog_24_method_2_code 2 none ∈ WG := wg3 (List.mem_of_getElem? (i := 36) rfl) rfl
theorem m3_38 : Cond.fieldLink "java/lang/Throwable" 31 "java/lang/Throwable" "detailMessage" "Ljava/lang/String;" ∈ WG := wg3 (List.mem_of_getElem? (i := 38) rfl) rfl
theorem m3_39 : Cond.fieldLink "java/lang/Throwable" 7 "java/lang/Throwable" "cause" "Ljava/lang/Throwable;" ∈ WG := wg3 (List.mem_of_getElem? (i := 39) rfl) rfl
theorem m3_40 : Cond.fieldLink "java/lang/Throwable" 17 "java/lang/Throwable" "stackTrace" "[Ljava/lang/StackTraceElement;" ∈ WG := wg3 (List.mem_of_getElem? (i := 40) rfl) rfl
theorem m3_41 : Cond.fieldLink "java/lang/Throwable" 24 "java/lang/Throwable" "suppressedExceptions" "Ljava/util/List;" ∈ WG := wg3 (List.mem_of_getElem? (i := 41) rfl) rfl
theorem m3_46 : Cond.lays "java/lang/IllegalArgumentException" "java/lang/Throwable" "depth" "I" ∈ WG := wg3 (List.mem_of_getElem? (i := 46) rfl) rfl
theorem m3_50 : Cond.classLink RX7 59 "java/lang/IllegalStateException" ∈ WG := wg3 (List.mem_of_getElem? (i := 50) rfl) rfl
theorem m3_51 : Cond.instantiable "java/lang/IllegalStateException" 6 ∈ WG := wg3 (List.mem_of_getElem? (i := 51) rfl) rfl
theorem m3_53 : Cond.selects "java/lang/IllegalStateException" ⟨"java/lang/Throwable", "fillInStackTrace", "(I)Ljava/lang/Throwable;"⟩ ⟨"java/lang/Throwable", "fillInStackTrace", "(I)Ljava/lang/Throwable;"⟩ ∈ WG := wg3 (List.mem_of_getElem? (i := 53) rfl) rfl
theorem m3_54 : Cond.lays "java/lang/IllegalStateException" "java/lang/Throwable" "cause" "Ljava/lang/Throwable;" ∈ WG := wg3 (List.mem_of_getElem? (i := 54) rfl) rfl
theorem m3_55 : Cond.lays "java/lang/IllegalStateException" "java/lang/Throwable" "stackTrace" "[Ljava/lang/StackTraceElement;" ∈ WG := wg3 (List.mem_of_getElem? (i := 55) rfl) rfl
theorem m3_56 : Cond.lays "java/lang/IllegalStateException" "java/lang/Throwable" "suppressedExceptions" "Ljava/util/List;" ∈ WG := wg3 (List.mem_of_getElem? (i := 56) rfl) rfl
theorem m3_57 : Cond.lays "java/lang/IllegalStateException" "java/lang/Throwable" "detailMessage" "Ljava/lang/String;" ∈ WG := wg3 (List.mem_of_getElem? (i := 57) rfl) rfl
theorem m3_58 : Cond.lays "java/lang/IllegalStateException" "java/lang/Throwable" "backtrace" "Ljava/lang/Object;" ∈ WG := wg3 (List.mem_of_getElem? (i := 58) rfl) rfl
theorem m3_60 : Cond.methodLink RX7 63 ⟨"java/lang/IllegalStateException", "<init>", "(Ljava/lang/String;)V"⟩ ∈ WG := wg3 (List.mem_of_getElem? (i := 60) rfl) rfl
theorem m3_61 : Cond.instanceMethod ⟨"java/lang/IllegalStateException", "<init>", "(Ljava/lang/String;)V"⟩ ∈ WG := wg3 (List.mem_of_getElem? (i := 61) rfl) rfl
theorem m3_62 : Cond.code ⟨"java/lang/IllegalStateException", "<init>", "(Ljava/lang/String;)V"⟩ prog_17_method_2_code 2 none ∈ WG := wg3 (List.mem_of_getElem? (i := 62) rfl) rfl
theorem m3_63 : Cond.methodLink "java/lang/IllegalStateException" 7 ⟨"java/lang/RuntimeException", "<init>", "(Ljava/lang/String;)V"⟩ ∈ WG := wg3 (List.mem_of_getElem? (i := 63) rfl) rfl
theorem m3_64 : Cond.lays "java/lang/IllegalStateException" "java/lang/Throwable" "depth" "I" ∈ WG := wg3 (List.mem_of_getElem? (i := 64) rfl) rfl
theorem m3_66 : Cond.methodLink RX7 64 yX7_append ∈ WG := wg3 (List.mem_of_getElem? (i := 66) rfl) rfl
theorem m3_68 : Cond.instanceMethod yX7_append ∈ WG := wg3 (List.mem_of_getElem? (i := 68) rfl) rfl
theorem m3_69 : Cond.code yX7_append cX7_append 2 (some .int) ∈ WG := wg3 (List.mem_of_getElem? (i := 69) rfl) rfl
theorem m3_70 : Cond.methodLink RX7 221 yX4_add ∈ WG := wg3 (List.mem_of_getElem? (i := 70) rfl) rfl
theorem m3_71 : Cond.instanceMethod yX4_add ∈ WG := wg3 (List.mem_of_getElem? (i := 71) rfl) rfl
theorem m3_72 : Cond.selects RX4 yX4_add yX4_add ∈ WG := wg3 (List.mem_of_getElem? (i := 72) rfl) rfl
theorem m3_73 : Cond.code yX4_add cX4_add 2 none ∈ WG := wg3 (List.mem_of_getElem? (i := 73) rfl) rfl
theorem m3_74 : Cond.methodLink RL 110 yL_when ∈ WG := wg3 (List.mem_of_getElem? (i := 74) rfl) rfl
theorem m3_75 : Cond.static yL_when ∈ WG := wg3 (List.mem_of_getElem? (i := 75) rfl) rfl
theorem m3_77 : Cond.classLink RL 21 "java/lang/IndexOutOfBoundsException" ∈ WG := wg3 (List.mem_of_getElem? (i := 77) rfl) rfl
theorem m3_78 : Cond.methodLink RL 17 yX7_when ∈ WG := wg3 (List.mem_of_getElem? (i := 78) rfl) rfl
theorem m3_79 : Cond.instanceMethod yX7_when ∈ WG := wg3 (List.mem_of_getElem? (i := 79) rfl) rfl
theorem m3_80 : Cond.selects RX7 yX7_when yX7_when ∈ WG := wg3 (List.mem_of_getElem? (i := 80) rfl) rfl
theorem m3_81 : Cond.code yX7_when cX7_when 3 (some .int) ∈ WG := wg3 (List.mem_of_getElem? (i := 81) rfl) rfl
theorem m3_82 : Cond.methodLink RX7 68 yX7_checkFeature ∈ WG := wg3 (List.mem_of_getElem? (i := 82) rfl) rfl
theorem m3_84 : Cond.instanceMethod yX7_checkFeature ∈ WG := wg3 (List.mem_of_getElem? (i := 84) rfl) rfl
theorem m3_85 : Cond.code yX7_checkFeature cX7_checkFeature 2 none ∈ WG := wg3 (List.mem_of_getElem? (i := 85) rfl) rfl
theorem m3_86 : Cond.classLink RX7 201 "java/lang/IndexOutOfBoundsException" ∈ WG := wg3 (List.mem_of_getElem? (i := 86) rfl) rfl
theorem m3_87 : Cond.instantiable "java/lang/IndexOutOfBoundsException" 6 ∈ WG := wg3 (List.mem_of_getElem? (i := 87) rfl) rfl
theorem m3_89 : Cond.selects "java/lang/IndexOutOfBoundsException" ⟨"java/lang/Throwable", "fillInStackTrace", "(I)Ljava/lang/Throwable;"⟩ ⟨"java/lang/Throwable", "fillInStackTrace", "(I)Ljava/lang/Throwable;"⟩ ∈ WG := wg3 (List.mem_of_getElem? (i := 89) rfl) rfl
theorem m3_90 : Cond.lays "java/lang/IndexOutOfBoundsException" "java/lang/Throwable" "cause" "Ljava/lang/Throwable;" ∈ WG := wg3 (List.mem_of_getElem? (i := 90) rfl) rfl
theorem m3_91 : Cond.lays "java/lang/IndexOutOfBoundsException" "java/lang/Throwable" "stackTrace" "[Ljava/lang/StackTraceElement;" ∈ WG := wg3 (List.mem_of_getElem? (i := 91) rfl) rfl
theorem m3_92 : Cond.lays "java/lang/IndexOutOfBoundsException" "java/lang/Throwable" "suppressedExceptions" "Ljava/util/List;" ∈ WG := wg3 (List.mem_of_getElem? (i := 92) rfl) rfl
theorem m3_93 : Cond.lays "java/lang/IndexOutOfBoundsException" "java/lang/Throwable" "detailMessage" "Ljava/lang/String;" ∈ WG := wg3 (List.mem_of_getElem? (i := 93) rfl) rfl
theorem m3_94 : Cond.lays "java/lang/IndexOutOfBoundsException" "java/lang/Throwable" "backtrace" "Ljava/lang/Object;" ∈ WG := wg3 (List.mem_of_getElem? (i := 94) rfl) rfl
theorem m3_96 : Cond.methodLink RX7 205 ⟨"java/lang/IndexOutOfBoundsException", "<init>", "(Ljava/lang/String;)V"⟩ ∈ WG := wg3 (List.mem_of_getElem? (i := 96) rfl) rfl
theorem m3_97 : Cond.instanceMethod ⟨"java/lang/IndexOutOfBoundsException", "<init>", "(Ljava/lang/String;)V"⟩ ∈ WG := wg3 (List.mem_of_getElem? (i := 97) rfl) rfl
theorem m3_98 : Cond.code ⟨"java/lang/IndexOutOfBoundsException", "<init>", "(Ljava/lang/String;)V"⟩ prog_18_method_2_code 2 none ∈ WG := wg3 (List.mem_of_getElem? (i := 98) rfl) rfl
theorem m3_99 : Cond.methodLink "java/lang/IndexOutOfBoundsException" 7 ⟨"java/lang/RuntimeException", "<init>", "(Ljava/lang/String;)V"⟩ ∈ WG := wg3 (List.mem_of_getElem? (i := 99) rfl) rfl
theorem m3_100 : Cond.lays "java/lang/IndexOutOfBoundsException" "java/lang/Throwable" "depth" "I" ∈ WG := wg3 (List.mem_of_getElem? (i := 100) rfl) rfl
theorem m3_102 : Cond.methodLink RX7 72 yX7_checkRoom ∈ WG := wg3 (List.mem_of_getElem? (i := 102) rfl) rfl
theorem m3_104 : Cond.instanceMethod yX7_checkRoom ∈ WG := wg3 (List.mem_of_getElem? (i := 104) rfl) rfl
theorem m3_105 : Cond.code yX7_checkRoom cX7_checkRoom 1 none ∈ WG := wg3 (List.mem_of_getElem? (i := 105) rfl) rfl
theorem m3_107 : Cond.methodLink RX7 81 yX4_codeOfWhen ∈ WG := wg3 (List.mem_of_getElem? (i := 107) rfl) rfl
theorem m3_108 : Cond.static yX4_codeOfWhen ∈ WG := wg3 (List.mem_of_getElem? (i := 108) rfl) rfl
theorem m3_109 : Cond.code yX4_codeOfWhen cX4_codeOfWhen 2 (some .int) ∈ WG := wg3 (List.mem_of_getElem? (i := 109) rfl) rfl
theorem m3_110 : Cond.methodLink RL 114 yL_otherwise ∈ WG := wg3 (List.mem_of_getElem? (i := 110) rfl) rfl
theorem m3_111 : Cond.static yL_otherwise ∈ WG := wg3 (List.mem_of_getElem? (i := 111) rfl) rfl
theorem m3_113 : Cond.methodLink RL 23 yX7_otherwise ∈ WG := wg3 (List.mem_of_getElem? (i := 113) rfl) rfl
theorem m3_114 : Cond.instanceMethod yX7_otherwise ∈ WG := wg3 (List.mem_of_getElem? (i := 114) rfl) rfl
theorem m3_115 : Cond.selects RX7 yX7_otherwise yX7_otherwise ∈ WG := wg3 (List.mem_of_getElem? (i := 115) rfl) rfl
theorem m3_116 : Cond.code yX7_otherwise cX7_otherwise 1 (some .int) ∈ WG := wg3 (List.mem_of_getElem? (i := 116) rfl) rfl
theorem m3_117 : Cond.methodLink RX7 85 yX7_checkUnfinished ∈ WG := wg3 (List.mem_of_getElem? (i := 117) rfl) rfl
theorem m3_119 : Cond.instanceMethod yX7_checkUnfinished ∈ WG := wg3 (List.mem_of_getElem? (i := 119) rfl) rfl
theorem m3_120 : Cond.code yX7_checkUnfinished cX7_checkUnfinished 1 none ∈ WG := wg3 (List.mem_of_getElem? (i := 120) rfl) rfl
theorem m3_122 : Cond.methodLink RX7 88 yX4_lastUnfinishedHasOtherwise ∈ WG := wg3 (List.mem_of_getElem? (i := 122) rfl) rfl
theorem m3_123 : Cond.instanceMethod yX4_lastUnfinishedHasOtherwise ∈ WG := wg3 (List.mem_of_getElem? (i := 123) rfl) rfl
theorem m3_124 : Cond.selects RX4 yX4_lastUnfinishedHasOtherwise yX4_lastUnfinishedHasOtherwise ∈ WG := wg3 (List.mem_of_getElem? (i := 124) rfl) rfl
theorem m3_125 : Cond.code yX4_lastUnfinishedHasOtherwise cX4_lastUnfinishedHasOtherwise 4 (some .boolean) ∈ WG := wg3 (List.mem_of_getElem? (i := 125) rfl) rfl
theorem m3_127 : Cond.methodLink RL 118 yL_done ∈ WG := wg3 (List.mem_of_getElem? (i := 127) rfl) rfl
theorem m3_128 : Cond.static yL_done ∈ WG := wg3 (List.mem_of_getElem? (i := 128) rfl) rfl
theorem m3_130 : Cond.methodLink RL 27 yX7_done ∈ WG := wg3 (List.mem_of_getElem? (i := 130) rfl) rfl
theorem m3_131 : Cond.instanceMethod yX7_done ∈ WG := wg3 (List.mem_of_getElem? (i := 131) rfl) rfl
theorem m3_132 : Cond.selects RX7 yX7_done yX7_done ∈ WG := wg3 (List.mem_of_getElem? (i := 132) rfl) rfl
theorem m3_133 : Cond.code yX7_done cX7_done 1 (some .int) ∈ WG := wg3 (List.mem_of_getElem? (i := 133) rfl) rfl
theorem m3_134 : Cond.methodLink RL 121 yL_set ∈ WG := wg3 (List.mem_of_getElem? (i := 134) rfl) rfl
theorem m3_135 : Cond.static yL_set ∈ WG := wg3 (List.mem_of_getElem? (i := 135) rfl) rfl
theorem m3_137 : Cond.methodLink RL 30 yX7_set ∈ WG := wg3 (List.mem_of_getElem? (i := 137) rfl) rfl
theorem m3_138 : Cond.instanceMethod yX7_set ∈ WG := wg3 (List.mem_of_getElem? (i := 138) rfl) rfl
theorem m3_139 : Cond.selects RX7 yX7_set yX7_set ∈ WG := wg3 (List.mem_of_getElem? (i := 139) rfl) rfl
theorem m3_140 : Cond.code yX7_set cX7_set 3 (some .int) ∈ WG := wg3 (List.mem_of_getElem? (i := 140) rfl) rfl
theorem m3_141 : Cond.methodLink RX7 94 yX4_codeOfSet ∈ WG := wg3 (List.mem_of_getElem? (i := 141) rfl) rfl
theorem m3_142 : Cond.static yX4_codeOfSet ∈ WG := wg3 (List.mem_of_getElem? (i := 142) rfl) rfl
theorem m3_143 : Cond.code yX4_codeOfSet cX4_codeOfSet 2 (some .int) ∈ WG := wg3 (List.mem_of_getElem? (i := 143) rfl) rfl
theorem m3_144 : Cond.methodLink RX4 15 yX4_codeOfWhen ∈ WG := wg3 (List.mem_of_getElem? (i := 144) rfl) rfl
theorem m3_145 : Cond.methodLink RL 124 yL_drop ∈ WG := wg3 (List.mem_of_getElem? (i := 145) rfl) rfl
theorem m3_146 : Cond.static yL_drop ∈ WG := wg3 (List.mem_of_getElem? (i := 146) rfl) rfl
theorem m3_148 : Cond.methodLink RL 33 yX7_drop ∈ WG := wg3 (List.mem_of_getElem? (i := 148) rfl) rfl
theorem m3_149 : Cond.instanceMethod yX7_drop ∈ WG := wg3 (List.mem_of_getElem? (i := 149) rfl) rfl
theorem m3_150 : Cond.selects RX7 yX7_drop yX7_drop ∈ WG := wg3 (List.mem_of_getElem? (i := 150) rfl) rfl
theorem m3_151 : Cond.code yX7_drop cX7_drop 1 (some .int) ∈ WG := wg3 (List.mem_of_getElem? (i := 151) rfl) rfl
theorem m3_153 : Cond.methodLink RX7 99 yX4_removeLast ∈ WG := wg3 (List.mem_of_getElem? (i := 153) rfl) rfl
theorem m3_154 : Cond.instanceMethod yX4_removeLast ∈ WG := wg3 (List.mem_of_getElem? (i := 154) rfl) rfl
theorem m3_155 : Cond.selects RX4 yX4_removeLast yX4_removeLast ∈ WG := wg3 (List.mem_of_getElem? (i := 155) rfl) rfl
theorem m3_156 : Cond.code yX4_removeLast cX4_removeLast 1 none ∈ WG := wg3 (List.mem_of_getElem? (i := 156) rfl) rfl
theorem m3_157 : Cond.methodLink RL 127 yL_replace ∈ WG := wg3 (List.mem_of_getElem? (i := 157) rfl) rfl
theorem m3_158 : Cond.static yL_replace ∈ WG := wg3 (List.mem_of_getElem? (i := 158) rfl) rfl
theorem m3_160 : Cond.methodLink RL 36 yX7_replace ∈ WG := wg3 (List.mem_of_getElem? (i := 160) rfl) rfl
theorem m3_161 : Cond.instanceMethod yX7_replace ∈ WG := wg3 (List.mem_of_getElem? (i := 161) rfl) rfl
theorem m3_162 : Cond.selects RX7 yX7_replace yX7_replace ∈ WG := wg3 (List.mem_of_getElem? (i := 162) rfl) rfl
theorem m3_163 : Cond.code yX7_replace cX7_replace 4 (some .int) ∈ WG := wg3 (List.mem_of_getElem? (i := 163) rfl) rfl
theorem m3_164 : Cond.methodLink RX7 102 yX7_checkItem ∈ WG := wg3 (List.mem_of_getElem? (i := 164) rfl) rfl
theorem m3_166 : Cond.instanceMethod yX7_checkItem ∈ WG := wg3 (List.mem_of_getElem? (i := 166) rfl) rfl
theorem m3_167 : Cond.code yX7_checkItem cX7_checkItem 2 none ∈ WG := wg3 (List.mem_of_getElem? (i := 167) rfl) rfl
theorem m3_171 : Cond.methodLink RL 135 yL_item ∈ WG := wg3 (List.mem_of_getElem? (i := 171) rfl) rfl
theorem m3_172 : Cond.static yL_item ∈ WG := wg3 (List.mem_of_getElem? (i := 172) rfl) rfl
theorem m3_174 : Cond.methodLink RL 40 yX7_item ∈ WG := wg3 (List.mem_of_getElem? (i := 174) rfl) rfl
theorem m3_175 : Cond.instanceMethod yX7_item ∈ WG := wg3 (List.mem_of_getElem? (i := 175) rfl) rfl
theorem m3_176 : Cond.selects RX7 yX7_item yX7_item ∈ WG := wg3 (List.mem_of_getElem? (i := 176) rfl) rfl
theorem m3_177 : Cond.code yX7_item cX7_item 2 (some .int) ∈ WG := wg3 (List.mem_of_getElem? (i := 177) rfl) rfl
theorem m3_178 : Cond.methodLink RL 143 yL_presence ∈ WG := wg3 (List.mem_of_getElem? (i := 178) rfl) rfl
theorem m3_179 : Cond.static yL_presence ∈ WG := wg3 (List.mem_of_getElem? (i := 179) rfl) rfl
theorem m3_181 : Cond.methodLink RL 44 yX7_presence ∈ WG := wg3 (List.mem_of_getElem? (i := 181) rfl) rfl
theorem m3_182 : Cond.instanceMethod yX7_presence ∈ WG := wg3 (List.mem_of_getElem? (i := 182) rfl) rfl
theorem m3_183 : Cond.selects RX7 yX7_presence yX7_presence ∈ WG := wg3 (List.mem_of_getElem? (i := 183) rfl) rfl
theorem m3_184 : Cond.code yX7_presence cX7_presence 2 (some .int) ∈ WG := wg3 (List.mem_of_getElem? (i := 184) rfl) rfl
theorem m3_185 : Cond.methodLink RL 146 yL_on ∈ WG := wg3 (List.mem_of_getElem? (i := 185) rfl) rfl
theorem m3_186 : Cond.static yL_on ∈ WG := wg3 (List.mem_of_getElem? (i := 186) rfl) rfl
theorem m3_188 : Cond.methodLink RL 47 yX7_on ∈ WG := wg3 (List.mem_of_getElem? (i := 188) rfl) rfl
theorem m3_189 : Cond.instanceMethod yX7_on ∈ WG := wg3 (List.mem_of_getElem? (i := 189) rfl) rfl
theorem m3_190 : Cond.selects RX7 yX7_on yX7_on ∈ WG := wg3 (List.mem_of_getElem? (i := 190) rfl) rfl
theorem m3_191 : Cond.code yX7_on cX7_on 3 (some .int) ∈ WG := wg3 (List.mem_of_getElem? (i := 191) rfl) rfl
theorem m3_192 : Cond.methodLink RL 149 yL_features ∈ WG := wg3 (List.mem_of_getElem? (i := 192) rfl) rfl
theorem m3_193 : Cond.static yL_features ∈ WG := wg3 (List.mem_of_getElem? (i := 193) rfl) rfl
theorem m3_195 : Cond.methodLink RL 50 yX7_features ∈ WG := wg3 (List.mem_of_getElem? (i := 195) rfl) rfl
theorem m3_196 : Cond.instanceMethod yX7_features ∈ WG := wg3 (List.mem_of_getElem? (i := 196) rfl) rfl
theorem m3_197 : Cond.selects RX7 yX7_features yX7_features ∈ WG := wg3 (List.mem_of_getElem? (i := 197) rfl) rfl
theorem m3_198 : Cond.code yX7_features cX7_features 4 (some .int) ∈ WG := wg3 (List.mem_of_getElem? (i := 198) rfl) rfl
theorem m3_199 : Cond.constant RX7 122 (65535) ∈ WG := wg3 (List.mem_of_getElem? (i := 199) rfl) rfl
theorem m3_201 : Cond.methodLink RX7 125 yX7_matters ∈ WG := wg3 (List.mem_of_getElem? (i := 201) rfl) rfl
theorem m3_202 : Cond.static yX7_matters ∈ WG := wg3 (List.mem_of_getElem? (i := 202) rfl) rfl
theorem m3_203 : Cond.code yX7_matters cX7_matters 4 (some .boolean) ∈ WG := wg3 (List.mem_of_getElem? (i := 203) rfl) rfl
theorem m3_204 : Cond.methodLink RL 156 yL_length ∈ WG := wg3 (List.mem_of_getElem? (i := 204) rfl) rfl
theorem m3_205 : Cond.static yL_length ∈ WG := wg3 (List.mem_of_getElem? (i := 205) rfl) rfl
theorem m3_207 : Cond.methodLink RL 53 yX7_length ∈ WG := wg3 (List.mem_of_getElem? (i := 207) rfl) rfl
theorem m3_208 : Cond.instanceMethod yX7_length ∈ WG := wg3 (List.mem_of_getElem? (i := 208) rfl) rfl
theorem m3_209 : Cond.selects RX7 yX7_length yX7_length ∈ WG := wg3 (List.mem_of_getElem? (i := 209) rfl) rfl
theorem m3_210 : Cond.code yX7_length cX7_length 2 (some .int) ∈ WG := wg3 (List.mem_of_getElem? (i := 210) rfl) rfl
theorem m3_211 : Cond.methodLink RX7 129 yX7_checkConfiguration ∈ WG := wg3 (List.mem_of_getElem? (i := 211) rfl) rfl
theorem m3_213 : Cond.instanceMethod yX7_checkConfiguration ∈ WG := wg3 (List.mem_of_getElem? (i := 213) rfl) rfl
theorem m3_214 : Cond.code yX7_checkConfiguration cX7_checkConfiguration 2 none ∈ WG := wg3 (List.mem_of_getElem? (i := 214) rfl) rfl
theorem m3_216 : Cond.methodLink RL 159 yL_place ∈ WG := wg3 (List.mem_of_getElem? (i := 216) rfl) rfl
theorem m3_217 : Cond.static yL_place ∈ WG := wg3 (List.mem_of_getElem? (i := 217) rfl) rfl
theorem m3_219 : Cond.methodLink RL 56 yX7_place ∈ WG := wg3 (List.mem_of_getElem? (i := 219) rfl) rfl
theorem m3_220 : Cond.instanceMethod yX7_place ∈ WG := wg3 (List.mem_of_getElem? (i := 220) rfl) rfl
theorem m3_221 : Cond.selects RX7 yX7_place yX7_place ∈ WG := wg3 (List.mem_of_getElem? (i := 221) rfl) rfl
theorem m3_222 : Cond.code yX7_place cX7_place 3 (some .int) ∈ WG := wg3 (List.mem_of_getElem? (i := 222) rfl) rfl
theorem m3_223 : Cond.methodLink RX7 135 yX7_checkIndex ∈ WG := wg3 (List.mem_of_getElem? (i := 223) rfl) rfl
theorem m3_225 : Cond.instanceMethod yX7_checkIndex ∈ WG := wg3 (List.mem_of_getElem? (i := 225) rfl) rfl
theorem m3_226 : Cond.code yX7_checkIndex cX7_checkIndex 3 none ∈ WG := wg3 (List.mem_of_getElem? (i := 226) rfl) rfl
theorem m3_228 : Cond.methodLink RL 166 yL_error ∈ WG := wg3 (List.mem_of_getElem? (i := 228) rfl) rfl
theorem m3_229 : Cond.static yL_error ∈ WG := wg3 (List.mem_of_getElem? (i := 229) rfl) rfl
theorem m3_231 : Cond.methodLink RL 59 yX7_error ∈ WG := wg3 (List.mem_of_getElem? (i := 231) rfl) rfl
theorem m3_232 : Cond.instanceMethod yX7_error ∈ WG := wg3 (List.mem_of_getElem? (i := 232) rfl) rfl
theorem m3_233 : Cond.selects RX7 yX7_error yX7_error ∈ WG := wg3 (List.mem_of_getElem? (i := 233) rfl) rfl
theorem m3_234 : Cond.code yX7_error cX7_error 2 (some .int) ∈ WG := wg3 (List.mem_of_getElem? (i := 234) rfl) rfl
theorem m3_235 : Cond.methodLink RX7 145 yX7_checkFinished ∈ WG := wg3 (List.mem_of_getElem? (i := 235) rfl) rfl
theorem m3_237 : Cond.instanceMethod yX7_checkFinished ∈ WG := wg3 (List.mem_of_getElem? (i := 237) rfl) rfl
theorem m3_238 : Cond.code yX7_checkFinished cX7_checkFinished 1 none ∈ WG := wg3 (List.mem_of_getElem? (i := 238) rfl) rfl
theorem m4_0 : Cond.methodLink RL 169 yL_wrong ∈ WG := wg4 (List.mem_of_getElem? (i := 0) rfl) rfl
theorem m4_1 : Cond.static yL_wrong ∈ WG := wg4 (List.mem_of_getElem? (i := 1) rfl) rfl
theorem m4_3 : Cond.methodLink RL 62 yX7_wrong ∈ WG := wg4 (List.mem_of_getElem? (i := 3) rfl) rfl
theorem m4_4 : Cond.instanceMethod yX7_wrong ∈ WG := wg4 (List.mem_of_getElem? (i := 4) rfl) rfl
theorem m4_5 : Cond.selects RX7 yX7_wrong yX7_wrong ∈ WG := wg4 (List.mem_of_getElem? (i := 5) rfl) rfl
theorem m4_6 : Cond.code yX7_wrong cX7_wrong 3 (some .int) ∈ WG := wg4 (List.mem_of_getElem? (i := 6) rfl) rfl
theorem m4_7 : Cond.methodLink RL 172 yL_firstError ∈ WG := wg4 (List.mem_of_getElem? (i := 7) rfl) rfl
theorem m4_8 : Cond.static yL_firstError ∈ WG := wg4 (List.mem_of_getElem? (i := 8) rfl) rfl
theorem m4_10 : Cond.methodLink RL 65 yX7_firstError ∈ WG := wg4 (List.mem_of_getElem? (i := 10) rfl) rfl
theorem m4_11 : Cond.instanceMethod yX7_firstError ∈ WG := wg4 (List.mem_of_getElem? (i := 11) rfl) rfl
theorem m4_12 : Cond.selects RX7 yX7_firstError yX7_firstError ∈ WG := wg4 (List.mem_of_getElem? (i := 12) rfl) rfl
theorem m4_13 : Cond.code yX7_firstError cX7_firstError 4 (some .int) ∈ WG := wg4 (List.mem_of_getElem? (i := 13) rfl) rfl
theorem m4_14 : Cond.methodLink RL 175 yL_groups ∈ WG := wg4 (List.mem_of_getElem? (i := 14) rfl) rfl
theorem m4_15 : Cond.static yL_groups ∈ WG := wg4 (List.mem_of_getElem? (i := 15) rfl) rfl
theorem m4_17 : Cond.methodLink RL 68 yX7_groups ∈ WG := wg4 (List.mem_of_getElem? (i := 17) rfl) rfl
theorem m4_18 : Cond.instanceMethod yX7_groups ∈ WG := wg4 (List.mem_of_getElem? (i := 18) rfl) rfl
theorem m4_19 : Cond.selects RX7 yX7_groups yX7_groups ∈ WG := wg4 (List.mem_of_getElem? (i := 19) rfl) rfl
theorem m4_20 : Cond.code yX7_groups cX7_groups 2 (some .int) ∈ WG := wg4 (List.mem_of_getElem? (i := 20) rfl) rfl
theorem m4_21 : Cond.methodLink RL 178 yL_work ∈ WG := wg4 (List.mem_of_getElem? (i := 21) rfl) rfl
theorem m4_22 : Cond.static yL_work ∈ WG := wg4 (List.mem_of_getElem? (i := 22) rfl) rfl
theorem m4_24 : Cond.methodLink RL 71 yX7_work ∈ WG := wg4 (List.mem_of_getElem? (i := 24) rfl) rfl
theorem m4_25 : Cond.instanceMethod yX7_work ∈ WG := wg4 (List.mem_of_getElem? (i := 25) rfl) rfl
theorem m4_26 : Cond.selects RX7 yX7_work yX7_work ∈ WG := wg4 (List.mem_of_getElem? (i := 26) rfl) rfl
theorem m4_27 : Cond.code yX7_work cX7_work 1 (some .int) ∈ WG := wg4 (List.mem_of_getElem? (i := 27) rfl) rfl
theorem m4_28 : Cond.methodLink RX7 157 yX7_sumOfGroups ∈ WG := wg4 (List.mem_of_getElem? (i := 28) rfl) rfl
theorem m4_30 : Cond.instanceMethod yX7_sumOfGroups ∈ WG := wg4 (List.mem_of_getElem? (i := 30) rfl) rfl
theorem m4_31 : Cond.code yX7_sumOfGroups cX7_sumOfGroups 3 (some .int) ∈ WG := wg4 (List.mem_of_getElem? (i := 31) rfl) rfl
theorem m4_32 : Cond.methodLink RL 181 yL_gain ∈ WG := wg4 (List.mem_of_getElem? (i := 32) rfl) rfl
theorem m4_33 : Cond.static yL_gain ∈ WG := wg4 (List.mem_of_getElem? (i := 33) rfl) rfl
theorem m4_35 : Cond.methodLink RL 74 yX7_gain ∈ WG := wg4 (List.mem_of_getElem? (i := 35) rfl) rfl
theorem m4_36 : Cond.instanceMethod yX7_gain ∈ WG := wg4 (List.mem_of_getElem? (i := 36) rfl) rfl
theorem m4_37 : Cond.selects RX7 yX7_gain yX7_gain ∈ WG := wg4 (List.mem_of_getElem? (i := 37) rfl) rfl
theorem m4_38 : Cond.code yX7_gain cX7_gain 4 (some .double) ∈ WG := wg4 (List.mem_of_getElem? (i := 38) rfl) rfl
theorem m4_39 : Cond.methodLink RL 185 yL_stack ∈ WG := wg4 (List.mem_of_getElem? (i := 39) rfl) rfl
theorem m4_40 : Cond.static yL_stack ∈ WG := wg4 (List.mem_of_getElem? (i := 40) rfl) rfl
theorem m4_42 : Cond.methodLink RL 78 yX7_stack ∈ WG := wg4 (List.mem_of_getElem? (i := 42) rfl) rfl
theorem m4_43 : Cond.instanceMethod yX7_stack ∈ WG := wg4 (List.mem_of_getElem? (i := 43) rfl) rfl
theorem m4_44 : Cond.selects RX7 yX7_stack yX7_stack ∈ WG := wg4 (List.mem_of_getElem? (i := 44) rfl) rfl
theorem m4_45 : Cond.code yX7_stack cX7_stack 3 (some .int) ∈ WG := wg4 (List.mem_of_getElem? (i := 45) rfl) rfl
theorem m4_46 : Cond.methodLink RX7 163 yX1_heightAhead ∈ WG := wg4 (List.mem_of_getElem? (i := 46) rfl) rfl
theorem m4_47 : Cond.instanceMethod yX1_heightAhead ∈ WG := wg4 (List.mem_of_getElem? (i := 47) rfl) rfl
theorem m4_48 : Cond.selects RX1 yX1_heightAhead yX1_heightAhead ∈ WG := wg4 (List.mem_of_getElem? (i := 48) rfl) rfl
theorem m4_49 : Cond.code yX1_heightAhead cX1_heightAhead 2 (some .int) ∈ WG := wg4 (List.mem_of_getElem? (i := 49) rfl) rfl
theorem m4_50 : Cond.methodLink RL 188 yL_outputs ∈ WG := wg4 (List.mem_of_getElem? (i := 50) rfl) rfl
theorem m4_51 : Cond.static yL_outputs ∈ WG := wg4 (List.mem_of_getElem? (i := 51) rfl) rfl
theorem m4_53 : Cond.classLink RL 84 "java/util/NoSuchElementException" ∈ WG := wg4 (List.mem_of_getElem? (i := 53) rfl) rfl
theorem m4_54 : Cond.methodLink RL 81 yX7_outputs ∈ WG := wg4 (List.mem_of_getElem? (i := 54) rfl) rfl
theorem m4_55 : Cond.instanceMethod yX7_outputs ∈ WG := wg4 (List.mem_of_getElem? (i := 55) rfl) rfl
theorem m4_56 : Cond.selects RX7 yX7_outputs yX7_outputs ∈ WG := wg4 (List.mem_of_getElem? (i := 56) rfl) rfl
theorem m4_57 : Cond.code yX7_outputs cX7_outputs 2 (some .int) ∈ WG := wg4 (List.mem_of_getElem? (i := 57) rfl) rfl
theorem m4_58 : Cond.methodLink RX7 166 yX7_checkNoError ∈ WG := wg4 (List.mem_of_getElem? (i := 58) rfl) rfl
theorem m4_60 : Cond.instanceMethod yX7_checkNoError ∈ WG := wg4 (List.mem_of_getElem? (i := 60) rfl) rfl
theorem m4_61 : Cond.code yX7_checkNoError cX7_checkNoError 2 none ∈ WG := wg4 (List.mem_of_getElem? (i := 61) rfl) rfl
theorem m4_62 : Cond.classLink RX7 216 "java/util/NoSuchElementException" ∈ WG := wg4 (List.mem_of_getElem? (i := 62) rfl) rfl
theorem m4_63 : Cond.instantiable "java/util/NoSuchElementException" 6 ∈ WG := wg4 (List.mem_of_getElem? (i := 63) rfl) rfl
theorem m4_65 : Cond.selects "java/util/NoSuchElementException" ⟨"java/lang/Throwable", "fillInStackTrace", "(I)Ljava/lang/Throwable;"⟩ ⟨"java/lang/Throwable", "fillInStackTrace", "(I)Ljava/lang/Throwable;"⟩ ∈ WG := wg4 (List.mem_of_getElem? (i := 65) rfl) rfl
theorem m4_66 : Cond.lays "java/util/NoSuchElementException" "java/lang/Throwable" "cause" "Ljava/lang/Throwable;" ∈ WG := wg4 (List.mem_of_getElem? (i := 66) rfl) rfl
theorem m4_67 : Cond.lays "java/util/NoSuchElementException" "java/lang/Throwable" "stackTrace" "[Ljava/lang/StackTraceElement;" ∈ WG := wg4 (List.mem_of_getElem? (i := 67) rfl) rfl
theorem m4_68 : Cond.lays "java/util/NoSuchElementException" "java/lang/Throwable" "suppressedExceptions" "Ljava/util/List;" ∈ WG := wg4 (List.mem_of_getElem? (i := 68) rfl) rfl
theorem m4_69 : Cond.lays "java/util/NoSuchElementException" "java/lang/Throwable" "detailMessage" "Ljava/lang/String;" ∈ WG := wg4 (List.mem_of_getElem? (i := 69) rfl) rfl
theorem m4_70 : Cond.lays "java/util/NoSuchElementException" "java/lang/Throwable" "backtrace" "Ljava/lang/Object;" ∈ WG := wg4 (List.mem_of_getElem? (i := 70) rfl) rfl
theorem m4_72 : Cond.methodLink RX7 220 ⟨"java/util/NoSuchElementException", "<init>", "(Ljava/lang/String;)V"⟩ ∈ WG := wg4 (List.mem_of_getElem? (i := 72) rfl) rfl
theorem m4_73 : Cond.instanceMethod ⟨"java/util/NoSuchElementException", "<init>", "(Ljava/lang/String;)V"⟩ ∈ WG := wg4 (List.mem_of_getElem? (i := 73) rfl) rfl
theorem m4_74 : Cond.code ⟨"java/util/NoSuchElementException", "<init>", "(Ljava/lang/String;)V"⟩ prog_27_method_4_code 2 none ∈ WG := wg4 (List.mem_of_getElem? (i := 74) rfl) rfl
theorem m4_75 : Cond.methodLink "java/util/NoSuchElementException" 13 ⟨"java/lang/RuntimeException", "<init>", "(Ljava/lang/String;)V"⟩ ∈ WG := wg4 (List.mem_of_getElem? (i := 75) rfl) rfl
theorem m4_76 : Cond.lays "java/util/NoSuchElementException" "java/lang/Throwable" "depth" "I" ∈ WG := wg4 (List.mem_of_getElem? (i := 76) rfl) rfl
theorem m4_78 : Cond.methodLink RL 191 yL_output ∈ WG := wg4 (List.mem_of_getElem? (i := 78) rfl) rfl
theorem m4_79 : Cond.static yL_output ∈ WG := wg4 (List.mem_of_getElem? (i := 79) rfl) rfl
theorem m4_81 : Cond.methodLink RL 86 yX7_output ∈ WG := wg4 (List.mem_of_getElem? (i := 81) rfl) rfl
theorem m4_82 : Cond.instanceMethod yX7_output ∈ WG := wg4 (List.mem_of_getElem? (i := 82) rfl) rfl
theorem m4_83 : Cond.selects RX7 yX7_output yX7_output ∈ WG := wg4 (List.mem_of_getElem? (i := 83) rfl) rfl
theorem m4_84 : Cond.code yX7_output cX7_output 4 (some .int) ∈ WG := wg4 (List.mem_of_getElem? (i := 84) rfl) rfl
theorem m4_86 : Cond.methodLink RL 194 yL_variable ∈ WG := wg4 (List.mem_of_getElem? (i := 86) rfl) rfl
theorem m4_87 : Cond.static yL_variable ∈ WG := wg4 (List.mem_of_getElem? (i := 87) rfl) rfl
theorem m4_89 : Cond.methodLink RL 89 yX7_variable ∈ WG := wg4 (List.mem_of_getElem? (i := 89) rfl) rfl
theorem m4_90 : Cond.instanceMethod yX7_variable ∈ WG := wg4 (List.mem_of_getElem? (i := 90) rfl) rfl
theorem m4_91 : Cond.selects RX7 yX7_variable yX7_variable ∈ WG := wg4 (List.mem_of_getElem? (i := 91) rfl) rfl
theorem m4_92 : Cond.code yX7_variable cX7_variable 3 (some .int) ∈ WG := wg4 (List.mem_of_getElem? (i := 92) rfl) rfl
theorem m4_94 : Cond.methodLink RL 197 yL_behaviours ∈ WG := wg4 (List.mem_of_getElem? (i := 94) rfl) rfl
theorem m4_95 : Cond.static yL_behaviours ∈ WG := wg4 (List.mem_of_getElem? (i := 95) rfl) rfl
theorem m4_97 : Cond.methodLink RL 92 yX7_behaviours ∈ WG := wg4 (List.mem_of_getElem? (i := 97) rfl) rfl
theorem m4_98 : Cond.instanceMethod yX7_behaviours ∈ WG := wg4 (List.mem_of_getElem? (i := 98) rfl) rfl
theorem m4_99 : Cond.selects RX7 yX7_behaviours yX7_behaviours ∈ WG := wg4 (List.mem_of_getElem? (i := 99) rfl) rfl
theorem m4_100 : Cond.code yX7_behaviours cX7_behaviours 3 (some .int) ∈ WG := wg4 (List.mem_of_getElem? (i := 100) rfl) rfl
theorem m4_101 : Cond.methodLink RX7 188 yX7_isFirstOfItsBehaviour ∈ WG := wg4 (List.mem_of_getElem? (i := 101) rfl) rfl
theorem m4_103 : Cond.instanceMethod yX7_isFirstOfItsBehaviour ∈ WG := wg4 (List.mem_of_getElem? (i := 103) rfl) rfl
theorem m4_104 : Cond.code yX7_isFirstOfItsBehaviour cX7_isFirstOfItsBehaviour 4 (some .boolean) ∈ WG := wg4 (List.mem_of_getElem? (i := 104) rfl) rfl
theorem m4_105 : Cond.methodLink RX7 275 yX3_hasSameOutputs ∈ WG := wg4 (List.mem_of_getElem? (i := 105) rfl) rfl
theorem m4_106 : Cond.instanceMethod yX3_hasSameOutputs ∈ WG := wg4 (List.mem_of_getElem? (i := 106) rfl) rfl
theorem m4_107 : Cond.selects RX3 yX3_hasSameOutputs yX3_hasSameOutputs ∈ WG := wg4 (List.mem_of_getElem? (i := 107) rfl) rfl
theorem m4_108 : Cond.code yX3_hasSameOutputs cX3_hasSameOutputs 2 (some .boolean) ∈ WG := wg4 (List.mem_of_getElem? (i := 108) rfl) rfl
theorem m4_109 : Cond.methodLink RX3 41 yX2_areSame ∈ WG := wg4 (List.mem_of_getElem? (i := 109) rfl) rfl
theorem m4_110 : Cond.classLink RL 96 "VariantParserModel" ∈ WG := wg4 (List.mem_of_getElem? (i := 110) rfl) rfl
theorem m4_111 : Cond.instantiable RX8 15 ∈ WG := wg4 (List.mem_of_getElem? (i := 111) rfl) rfl
theorem m4_112 : Cond.methodLink RL 98 yX8_init ∈ WG := wg4 (List.mem_of_getElem? (i := 112) rfl) rfl
theorem m4_113 : Cond.instanceMethod yX8_init ∈ WG := wg4 (List.mem_of_getElem? (i := 113) rfl) rfl
theorem m4_114 : Cond.code yX8_init cX8_init 1 none ∈ WG := wg4 (List.mem_of_getElem? (i := 114) rfl) rfl
theorem m4_115 : Cond.methodLink RX8 1 objectInit ∈ WG := wg4 (List.mem_of_getElem? (i := 115) rfl) rfl
theorem m4_116 : Cond.fieldLink RX8 43 "VariantParserModel" "thrown" "I" ∈ WG := wg4 (List.mem_of_getElem? (i := 116) rfl) rfl
theorem m4_117 : Cond.fieldLink RX8 47 "VariantParserModel" "size" "I" ∈ WG := wg4 (List.mem_of_getElem? (i := 117) rfl) rfl
theorem m4_118 : Cond.fieldLink RX8 9 "VariantParserModel" "items" "[I" ∈ WG := wg4 (List.mem_of_getElem? (i := 118) rfl) rfl
theorem m4_119 : Cond.fieldLink RX8 13 "VariantParserModel" "present" "[I" ∈ WG := wg4 (List.mem_of_getElem? (i := 119) rfl) rfl
theorem m4_120 : Cond.fieldLink RX8 16 "VariantParserModel" "ons" "[I" ∈ WG := wg4 (List.mem_of_getElem? (i := 120) rfl) rfl
theorem m4_121 : Cond.fieldLink RX8 19 "VariantParserModel" "stacks" "[I" ∈ WG := wg4 (List.mem_of_getElem? (i := 121) rfl) rfl
theorem m4_122 : Cond.fieldLink RX8 22 "VariantParserModel" "depths" "[I" ∈ WG := wg4 (List.mem_of_getElem? (i := 122) rfl) rfl
theorem m4_123 : Cond.fieldLink RX8 25 "VariantParserModel" "errors" "[I" ∈ WG := wg4 (List.mem_of_getElem? (i := 123) rfl) rfl
theorem m4_124 : Cond.fieldLink RX8 28 "VariantParserModel" "groupCounts" "[I" ∈ WG := wg4 (List.mem_of_getElem? (i := 124) rfl) rfl
theorem m4_125 : Cond.fieldLink RX8 31 "VariantParserModel" "depthsAt" "[I" ∈ WG := wg4 (List.mem_of_getElem? (i := 125) rfl) rfl
theorem m4_126 : Cond.fieldLink RX8 34 "VariantParserModel" "code" "[I" ∈ WG := wg4 (List.mem_of_getElem? (i := 126) rfl) rfl
theorem m4_127 : Cond.fieldLink RX8 152 "VariantParserModel" "at" "I" ∈ WG := wg4 (List.mem_of_getElem? (i := 127) rfl) rfl
theorem m4_128 : Cond.fieldLink RX8 37 "VariantParserModel" "values" "[I" ∈ WG := wg4 (List.mem_of_getElem? (i := 128) rfl) rfl
theorem m4_129 : Cond.fieldLink RX8 171 "VariantParserModel" "written" "I" ∈ WG := wg4 (List.mem_of_getElem? (i := 129) rfl) rfl
theorem m4_130 : Cond.fieldLink RX8 40 "VariantParserModel" "output" "[I" ∈ WG := wg4 (List.mem_of_getElem? (i := 130) rfl) rfl
theorem m4_131 : Cond.lays "VariantParserModel" "VariantParserModel" "thrown" "I" ∈ WG := wg4 (List.mem_of_getElem? (i := 131) rfl) rfl
theorem m4_133 : Cond.lays "VariantParserModel" "VariantParserModel" "size" "I" ∈ WG := wg4 (List.mem_of_getElem? (i := 133) rfl) rfl
theorem m4_135 : Cond.laysFinal "VariantParserModel" "VariantParserModel" "items" "[I" ∈ WG := wg4 (List.mem_of_getElem? (i := 135) rfl) rfl
theorem m4_137 : Cond.laysFinal "VariantParserModel" "VariantParserModel" "present" "[I" ∈ WG := wg4 (List.mem_of_getElem? (i := 137) rfl) rfl
theorem m4_139 : Cond.laysFinal "VariantParserModel" "VariantParserModel" "ons" "[I" ∈ WG := wg4 (List.mem_of_getElem? (i := 139) rfl) rfl
theorem m4_141 : Cond.laysFinal "VariantParserModel" "VariantParserModel" "stacks" "[I" ∈ WG := wg4 (List.mem_of_getElem? (i := 141) rfl) rfl
theorem m4_143 : Cond.laysFinal "VariantParserModel" "VariantParserModel" "depths" "[I" ∈ WG := wg4 (List.mem_of_getElem? (i := 143) rfl) rfl
theorem m4_145 : Cond.laysFinal "VariantParserModel" "VariantParserModel" "errors" "[I" ∈ WG := wg4 (List.mem_of_getElem? (i := 145) rfl) rfl
theorem m4_147 : Cond.laysFinal "VariantParserModel" "VariantParserModel" "groupCounts" "[I" ∈ WG := wg4 (List.mem_of_getElem? (i := 147) rfl) rfl
theorem m4_149 : Cond.laysFinal "VariantParserModel" "VariantParserModel" "depthsAt" "[I" ∈ WG := wg4 (List.mem_of_getElem? (i := 149) rfl) rfl
theorem m4_151 : Cond.laysFinal "VariantParserModel" "VariantParserModel" "code" "[I" ∈ WG := wg4 (List.mem_of_getElem? (i := 151) rfl) rfl
theorem m4_153 : Cond.lays "VariantParserModel" "VariantParserModel" "at" "I" ∈ WG := wg4 (List.mem_of_getElem? (i := 153) rfl) rfl
theorem m4_155 : Cond.laysFinal "VariantParserModel" "VariantParserModel" "values" "[I" ∈ WG := wg4 (List.mem_of_getElem? (i := 155) rfl) rfl
theorem m4_157 : Cond.lays "VariantParserModel" "VariantParserModel" "written" "I" ∈ WG := wg4 (List.mem_of_getElem? (i := 157) rfl) rfl
theorem m4_159 : Cond.laysFinal "VariantParserModel" "VariantParserModel" "output" "[I" ∈ WG := wg4 (List.mem_of_getElem? (i := 159) rfl) rfl
theorem m4_162 : Cond.methodLink RL 107 yX8_thrown ∈ WG := wg4 (List.mem_of_getElem? (i := 162) rfl) rfl
theorem m4_163 : Cond.instanceMethod yX8_thrown ∈ WG := wg4 (List.mem_of_getElem? (i := 163) rfl) rfl
theorem m4_164 : Cond.selects RX8 yX8_thrown yX8_thrown ∈ WG := wg4 (List.mem_of_getElem? (i := 164) rfl) rfl
theorem m4_165 : Cond.code yX8_thrown cX8_thrown 1 (some .int) ∈ WG := wg4 (List.mem_of_getElem? (i := 165) rfl) rfl
theorem m4_166 : Cond.methodLink RL 106 yX8_write ∈ WG := wg4 (List.mem_of_getElem? (i := 166) rfl) rfl
theorem m4_167 : Cond.instanceMethod yX8_write ∈ WG := wg4 (List.mem_of_getElem? (i := 167) rfl) rfl
theorem m4_168 : Cond.selects RX8 yX8_write yX8_write ∈ WG := wg4 (List.mem_of_getElem? (i := 168) rfl) rfl
theorem m4_169 : Cond.code yX8_write cX8_write 6 (some .int) ∈ WG := wg4 (List.mem_of_getElem? (i := 169) rfl) rfl
theorem m4_170 : Cond.constantLong RX8 62 (255) ∈ WG := wg4 (List.mem_of_getElem? (i := 170) rfl) rfl
theorem m4_171 : Cond.methodLink RX8 64 yX8_isCharacter ∈ WG := wg4 (List.mem_of_getElem? (i := 171) rfl) rfl
theorem m4_172 : Cond.static yX8_isCharacter ∈ WG := wg4 (List.mem_of_getElem? (i := 172) rfl) rfl
theorem m4_173 : Cond.code yX8_isCharacter cX8_isCharacter 1 (some .boolean) ∈ WG := wg4 (List.mem_of_getElem? (i := 173) rfl) rfl
theorem m4_175 : Cond.methodLink RX8 56 yJ0_indexOf_0f7a4 ∈ WG := wg4 (List.mem_of_getElem? (i := 175) rfl) rfl
theorem m4_176 : Cond.instanceMethod yJ0_indexOf_0f7a4 ∈ WG := wg4 (List.mem_of_getElem? (i := 176) rfl) rfl
theorem m4_177 : Cond.selects RJ0 yJ0_indexOf_0f7a4 yJ0_indexOf_0f7a4 ∈ WG := wg4 (List.mem_of_getElem? (i := 177) rfl) rfl
theorem m4_178 : Cond.code yJ0_indexOf_0f7a4 cJ0_indexOf_0f7a4 2 (some .int) ∈ WG := wg4 (List.mem_of_getElem? (i := 178) rfl) rfl
theorem m4_179 : Cond.methodLink RJ0 633 yJ0_indexOf_7cf53 ∈ WG := wg4 (List.mem_of_getElem? (i := 179) rfl) rfl
theorem m4_180 : Cond.instanceMethod yJ0_indexOf_7cf53 ∈ WG := wg4 (List.mem_of_getElem? (i := 180) rfl) rfl
theorem m4_181 : Cond.selects RJ0 yJ0_indexOf_7cf53 yJ0_indexOf_7cf53 ∈ WG := wg4 (List.mem_of_getElem? (i := 181) rfl) rfl
theorem m4_182 : Cond.code yJ0_indexOf_7cf53 cJ0_indexOf_7cf53 3 (some .int) ∈ WG := wg4 (List.mem_of_getElem? (i := 182) rfl) rfl
theorem m4_183 : Cond.methodLink RJ0 505 yJ0_length_8abf5 ∈ WG := wg4 (List.mem_of_getElem? (i := 183) rfl) rfl
theorem m4_184 : Cond.methodLink RJ0 637 yJ1_indexOf_4cfef ∈ WG := wg4 (List.mem_of_getElem? (i := 184) rfl) rfl
theorem m4_185 : Cond.static yJ1_indexOf_4cfef ∈ WG := wg4 (List.mem_of_getElem? (i := 185) rfl) rfl
theorem m4_186 : Cond.code yJ1_indexOf_4cfef cJ1_indexOf_4cfef 4 (some .int) ∈ WG := wg4 (List.mem_of_getElem? (i := 186) rfl) rfl
theorem m4_187 : Cond.methodLink RJ1 88 yJ1_canEncode_9a6ad ∈ WG := wg4 (List.mem_of_getElem? (i := 187) rfl) rfl
theorem m4_188 : Cond.static yJ1_canEncode_9a6ad ∈ WG := wg4 (List.mem_of_getElem? (i := 188) rfl) rfl
theorem m4_189 : Cond.code yJ1_canEncode_9a6ad cJ1_canEncode_9a6ad 1 (some .boolean) ∈ WG := wg4 (List.mem_of_getElem? (i := 189) rfl) rfl
theorem m4_190 : Cond.methodLink RJ1 92 yJ9_max_7cf53 ∈ WG := wg4 (List.mem_of_getElem? (i := 190) rfl) rfl
theorem m4_191 : Cond.static yJ9_max_7cf53 ∈ WG := wg4 (List.mem_of_getElem? (i := 191) rfl) rfl
theorem m4_192 : Cond.code yJ9_max_7cf53 cJ9_max_7cf53 2 (some .int) ∈ WG := wg4 (List.mem_of_getElem? (i := 192) rfl) rfl
theorem m4_193 : Cond.methodLink RJ1 38 yJ9_min_7cf53 ∈ WG := wg4 (List.mem_of_getElem? (i := 193) rfl) rfl
theorem m4_194 : Cond.methodLink RJ1 95 yJ1_indexOfChar_4cfef ∈ WG := wg4 (List.mem_of_getElem? (i := 194) rfl) rfl
theorem m4_195 : Cond.static yJ1_indexOfChar_4cfef ∈ WG := wg4 (List.mem_of_getElem? (i := 195) rfl) rfl
theorem m4_196 : Cond.code yJ1_indexOfChar_4cfef cJ1_indexOfChar_4cfef 6 (some .int) ∈ WG := wg4 (List.mem_of_getElem? (i := 196) rfl) rfl
theorem m4_197 : Cond.methodLink RJ0 640 yJ2_indexOf_4cfef ∈ WG := wg4 (List.mem_of_getElem? (i := 197) rfl) rfl
theorem m4_198 : Cond.static yJ2_indexOf_4cfef ∈ WG := wg4 (List.mem_of_getElem? (i := 198) rfl) rfl
theorem m4_199 : Cond.code yJ2_indexOf_4cfef cJ2_indexOf_4cfef 4 (some .int) ∈ WG := wg4 (List.mem_of_getElem? (i := 199) rfl) rfl
theorem m4_200 : Cond.methodLink RJ2 224 yJ9_max_7cf53 ∈ WG := wg4 (List.mem_of_getElem? (i := 200) rfl) rfl
theorem m4_201 : Cond.methodLink RJ2 183 yJ9_min_7cf53 ∈ WG := wg4 (List.mem_of_getElem? (i := 201) rfl) rfl
theorem m4_202 : Cond.constant RJ2 227 (65536) ∈ WG := wg4 (List.mem_of_getElem? (i := 202) rfl) rfl
theorem m4_203 : Cond.methodLink RJ2 228 yJ2_indexOfChar_4cfef ∈ WG := wg4 (List.mem_of_getElem? (i := 203) rfl) rfl
theorem m4_204 : Cond.static yJ2_indexOfChar_4cfef ∈ WG := wg4 (List.mem_of_getElem? (i := 204) rfl) rfl
theorem m4_205 : Cond.code yJ2_indexOfChar_4cfef cJ2_indexOfChar_4cfef 4 (some .int) ∈ WG := wg4 (List.mem_of_getElem? (i := 205) rfl) rfl
theorem m4_206 : Cond.methodLink RJ2 96 yJ2_checkBoundsBeginEnd_d044e ∈ WG := wg4 (List.mem_of_getElem? (i := 206) rfl) rfl
theorem m4_207 : Cond.static yJ2_checkBoundsBeginEnd_d044e ∈ WG := wg4 (List.mem_of_getElem? (i := 207) rfl) rfl
theorem m4_208 : Cond.code yJ2_checkBoundsBeginEnd_d044e cJ2_checkBoundsBeginEnd_d044e 3 none ∈ WG := wg4 (List.mem_of_getElem? (i := 208) rfl) rfl
theorem m4_209 : Cond.methodLink RJ2 241 yJ0_checkBoundsBeginEnd_23922 ∈ WG := wg4 (List.mem_of_getElem? (i := 209) rfl) rfl
theorem m4_210 : Cond.static yJ0_checkBoundsBeginEnd_23922 ∈ WG := wg4 (List.mem_of_getElem? (i := 210) rfl) rfl
theorem m4_211 : Cond.code yJ0_checkBoundsBeginEnd_23922 cJ0_checkBoundsBeginEnd_23922 3 none ∈ WG := wg4 (List.mem_of_getElem? (i := 211) rfl) rfl
theorem m4_212 : Cond.methodLink RJ0 1062 yJ3_checkFromToIndex_8c36e ∈ WG := wg4 (List.mem_of_getElem? (i := 212) rfl) rfl
theorem m4_213 : Cond.static yJ3_checkFromToIndex_8c36e ∈ WG := wg4 (List.mem_of_getElem? (i := 213) rfl) rfl
theorem m4_214 : Cond.code yJ3_checkFromToIndex_8c36e cJ3_checkFromToIndex_8c36e 4 (some .int) ∈ WG := wg4 (List.mem_of_getElem? (i := 214) rfl) rfl
theorem m4_215 : Cond.methodLink RJ2 244 yJ2_indexOfCharUnsafe_4cfef ∈ WG := wg4 (List.mem_of_getElem? (i := 215) rfl) rfl
theorem m4_216 : Cond.static yJ2_indexOfCharUnsafe_4cfef ∈ WG := wg4 (List.mem_of_getElem? (i := 216) rfl) rfl
theorem m4_217 : Cond.code yJ2_indexOfCharUnsafe_4cfef cJ2_indexOfCharUnsafe_4cfef 5 (some .int) ∈ WG := wg4 (List.mem_of_getElem? (i := 217) rfl) rfl
theorem m4_218 : Cond.methodLink RJ2 232 yJ2_indexOfSupplementary_4cfef ∈ WG := wg4 (List.mem_of_getElem? (i := 218) rfl) rfl
theorem m4_219 : Cond.static yJ2_indexOfSupplementary_4cfef ∈ WG := wg4 (List.mem_of_getElem? (i := 219) rfl) rfl
theorem m4_220 : Cond.code yJ2_indexOfSupplementary_4cfef cJ2_indexOfSupplementary_4cfef 7 (some .int) ∈ WG := wg4 (List.mem_of_getElem? (i := 220) rfl) rfl
theorem m4_221 : Cond.methodLink RJ2 164 yJ11_isValidCodePoint_9a6ad ∈ WG := wg4 (List.mem_of_getElem? (i := 221) rfl) rfl
theorem m4_222 : Cond.static yJ11_isValidCodePoint_9a6ad ∈ WG := wg4 (List.mem_of_getElem? (i := 222) rfl) rfl
theorem m4_223 : Cond.code yJ11_isValidCodePoint_9a6ad cJ11_isValidCodePoint_9a6ad 2 (some .boolean) ∈ WG := wg4 (List.mem_of_getElem? (i := 223) rfl) rfl
theorem m4_224 : Cond.methodLink RJ2 157 yJ11_highSurrogate_5068e ∈ WG := wg4 (List.mem_of_getElem? (i := 224) rfl) rfl
theorem m4_225 : Cond.static yJ11_highSurrogate_5068e ∈ WG := wg4 (List.mem_of_getElem? (i := 225) rfl) rfl
theorem m4_226 : Cond.code yJ11_highSurrogate_5068e cJ11_highSurrogate_5068e 1 (some .char) ∈ WG := wg4 (List.mem_of_getElem? (i := 226) rfl) rfl
theorem m4_227 : Cond.constant RJ11 110 (55232) ∈ WG := wg4 (List.mem_of_getElem? (i := 227) rfl) rfl
theorem m4_228 : Cond.methodLink RJ2 161 yJ11_lowSurrogate_5068e ∈ WG := wg4 (List.mem_of_getElem? (i := 228) rfl) rfl
theorem m4_229 : Cond.static yJ11_lowSurrogate_5068e ∈ WG := wg4 (List.mem_of_getElem? (i := 229) rfl) rfl
theorem m4_230 : Cond.code yJ11_lowSurrogate_5068e cJ11_lowSurrogate_5068e 1 (some .char) ∈ WG := wg4 (List.mem_of_getElem? (i := 230) rfl) rfl
theorem m4_231 : Cond.constant RJ11 76 (56320) ∈ WG := wg4 (List.mem_of_getElem? (i := 231) rfl) rfl
theorem m4_232 : Cond.methodLink RX8 68 yX8_no ∈ WG := wg4 (List.mem_of_getElem? (i := 232) rfl) rfl
theorem m4_234 : Cond.instanceMethod yX8_no ∈ WG := wg4 (List.mem_of_getElem? (i := 234) rfl) rfl
theorem m4_235 : Cond.code yX8_no cX8_no 2 (some .int) ∈ WG := wg4 (List.mem_of_getElem? (i := 235) rfl) rfl
theorem m4_236 : Cond.methodLink RX8 71 yX8_append ∈ WG := wg4 (List.mem_of_getElem? (i := 236) rfl) rfl
theorem m4_238 : Cond.instanceMethod yX8_append ∈ WG := wg4 (List.mem_of_getElem? (i := 238) rfl) rfl
theorem m4_239 : Cond.code yX8_append cX8_append 2 (some .int) ∈ WG := wg4 (List.mem_of_getElem? (i := 239) rfl) rfl
theorem m5_0 : Cond.methodLink RL 113 yX8_when ∈ WG := wg5 (List.mem_of_getElem? (i := 0) rfl) rfl
theorem m5_1 : Cond.instanceMethod yX8_when ∈ WG := wg5 (List.mem_of_getElem? (i := 1) rfl) rfl
theorem m5_2 : Cond.selects RX8 yX8_when yX8_when ∈ WG := wg5 (List.mem_of_getElem? (i := 2) rfl) rfl
theorem m5_3 : Cond.code yX8_when cX8_when 3 (some .int) ∈ WG := wg5 (List.mem_of_getElem? (i := 3) rfl) rfl
theorem m5_4 : Cond.methodLink RX8 74 yX8_isFeature ∈ WG := wg5 (List.mem_of_getElem? (i := 4) rfl) rfl
theorem m5_5 : Cond.static yX8_isFeature ∈ WG := wg5 (List.mem_of_getElem? (i := 5) rfl) rfl
theorem m5_6 : Cond.code yX8_isFeature cX8_isFeature 1 (some .boolean) ∈ WG := wg5 (List.mem_of_getElem? (i := 6) rfl) rfl
theorem m5_7 : Cond.methodLink RX8 50 yX8_isIn ∈ WG := wg5 (List.mem_of_getElem? (i := 7) rfl) rfl
theorem m5_8 : Cond.static yX8_isIn ∈ WG := wg5 (List.mem_of_getElem? (i := 8) rfl) rfl
theorem m5_9 : Cond.code yX8_isIn cX8_isIn 3 (some .boolean) ∈ WG := wg5 (List.mem_of_getElem? (i := 9) rfl) rfl
theorem m5_10 : Cond.methodLink RX8 77 yX8_openCount ∈ WG := wg5 (List.mem_of_getElem? (i := 10) rfl) rfl
theorem m5_12 : Cond.instanceMethod yX8_openCount ∈ WG := wg5 (List.mem_of_getElem? (i := 12) rfl) rfl
theorem m5_13 : Cond.code yX8_openCount cX8_openCount 3 (some .int) ∈ WG := wg5 (List.mem_of_getElem? (i := 13) rfl) rfl
theorem m5_14 : Cond.methodLink RL 117 yX8_otherwise ∈ WG := wg5 (List.mem_of_getElem? (i := 14) rfl) rfl
theorem m5_15 : Cond.instanceMethod yX8_otherwise ∈ WG := wg5 (List.mem_of_getElem? (i := 15) rfl) rfl
theorem m5_16 : Cond.selects RX8 yX8_otherwise yX8_otherwise ∈ WG := wg5 (List.mem_of_getElem? (i := 16) rfl) rfl
theorem m5_17 : Cond.code yX8_otherwise cX8_otherwise 2 (some .int) ∈ WG := wg5 (List.mem_of_getElem? (i := 17) rfl) rfl
theorem m5_18 : Cond.methodLink RX8 81 yX8_whenOf ∈ WG := wg5 (List.mem_of_getElem? (i := 18) rfl) rfl
theorem m5_20 : Cond.instanceMethod yX8_whenOf ∈ WG := wg5 (List.mem_of_getElem? (i := 20) rfl) rfl
theorem m5_21 : Cond.code yX8_whenOf cX8_whenOf 4 (some .int) ∈ WG := wg5 (List.mem_of_getElem? (i := 21) rfl) rfl
theorem m5_22 : Cond.methodLink RX8 84 yX8_hasOtherwise ∈ WG := wg5 (List.mem_of_getElem? (i := 22) rfl) rfl
theorem m5_24 : Cond.instanceMethod yX8_hasOtherwise ∈ WG := wg5 (List.mem_of_getElem? (i := 24) rfl) rfl
theorem m5_25 : Cond.code yX8_hasOtherwise cX8_hasOtherwise 4 (some .boolean) ∈ WG := wg5 (List.mem_of_getElem? (i := 25) rfl) rfl
theorem m5_26 : Cond.methodLink RL 120 yX8_done ∈ WG := wg5 (List.mem_of_getElem? (i := 26) rfl) rfl
theorem m5_27 : Cond.instanceMethod yX8_done ∈ WG := wg5 (List.mem_of_getElem? (i := 27) rfl) rfl
theorem m5_28 : Cond.selects RX8 yX8_done yX8_done ∈ WG := wg5 (List.mem_of_getElem? (i := 28) rfl) rfl
theorem m5_29 : Cond.code yX8_done cX8_done 1 (some .int) ∈ WG := wg5 (List.mem_of_getElem? (i := 29) rfl) rfl
theorem m5_30 : Cond.methodLink RL 123 yX8_set ∈ WG := wg5 (List.mem_of_getElem? (i := 30) rfl) rfl
theorem m5_31 : Cond.instanceMethod yX8_set ∈ WG := wg5 (List.mem_of_getElem? (i := 31) rfl) rfl
theorem m5_32 : Cond.selects RX8 yX8_set yX8_set ∈ WG := wg5 (List.mem_of_getElem? (i := 32) rfl) rfl
theorem m5_33 : Cond.code yX8_set cX8_set 3 (some .int) ∈ WG := wg5 (List.mem_of_getElem? (i := 33) rfl) rfl
theorem m5_34 : Cond.methodLink RL 126 yX8_drop ∈ WG := wg5 (List.mem_of_getElem? (i := 34) rfl) rfl
theorem m5_35 : Cond.instanceMethod yX8_drop ∈ WG := wg5 (List.mem_of_getElem? (i := 35) rfl) rfl
theorem m5_36 : Cond.selects RX8 yX8_drop yX8_drop ∈ WG := wg5 (List.mem_of_getElem? (i := 36) rfl) rfl
theorem m5_37 : Cond.code yX8_drop cX8_drop 1 (some .int) ∈ WG := wg5 (List.mem_of_getElem? (i := 37) rfl) rfl
theorem m5_38 : Cond.methodLink RL 130 yX8_replace ∈ WG := wg5 (List.mem_of_getElem? (i := 38) rfl) rfl
theorem m5_39 : Cond.instanceMethod yX8_replace ∈ WG := wg5 (List.mem_of_getElem? (i := 39) rfl) rfl
theorem m5_40 : Cond.selects RX8 yX8_replace yX8_replace ∈ WG := wg5 (List.mem_of_getElem? (i := 40) rfl) rfl
theorem m5_41 : Cond.code yX8_replace cX8_replace 4 (some .int) ∈ WG := wg5 (List.mem_of_getElem? (i := 41) rfl) rfl
theorem m5_42 : Cond.methodLink RX8 87 yX8_isItem ∈ WG := wg5 (List.mem_of_getElem? (i := 42) rfl) rfl
theorem m5_44 : Cond.instanceMethod yX8_isItem ∈ WG := wg5 (List.mem_of_getElem? (i := 44) rfl) rfl
theorem m5_45 : Cond.code yX8_isItem cX8_isItem 2 (some .boolean) ∈ WG := wg5 (List.mem_of_getElem? (i := 45) rfl) rfl
theorem m5_46 : Cond.methodLink RX8 90 yX8_isToken ∈ WG := wg5 (List.mem_of_getElem? (i := 46) rfl) rfl
theorem m5_48 : Cond.instanceMethod yX8_isToken ∈ WG := wg5 (List.mem_of_getElem? (i := 48) rfl) rfl
theorem m5_49 : Cond.code yX8_isToken cX8_isToken 2 (some .boolean) ∈ WG := wg5 (List.mem_of_getElem? (i := 49) rfl) rfl
theorem m5_50 : Cond.methodLink RL 134 yX8_size ∈ WG := wg5 (List.mem_of_getElem? (i := 50) rfl) rfl
theorem m5_51 : Cond.instanceMethod yX8_size ∈ WG := wg5 (List.mem_of_getElem? (i := 51) rfl) rfl
theorem m5_52 : Cond.selects RX8 yX8_size yX8_size ∈ WG := wg5 (List.mem_of_getElem? (i := 52) rfl) rfl
theorem m5_53 : Cond.code yX8_size cX8_size 1 (some .int) ∈ WG := wg5 (List.mem_of_getElem? (i := 53) rfl) rfl
theorem m5_54 : Cond.methodLink RL 138 yX8_item ∈ WG := wg5 (List.mem_of_getElem? (i := 54) rfl) rfl
theorem m5_55 : Cond.instanceMethod yX8_item ∈ WG := wg5 (List.mem_of_getElem? (i := 55) rfl) rfl
theorem m5_56 : Cond.selects RX8 yX8_item yX8_item ∈ WG := wg5 (List.mem_of_getElem? (i := 56) rfl) rfl
theorem m5_57 : Cond.code yX8_item cX8_item 2 (some .int) ∈ WG := wg5 (List.mem_of_getElem? (i := 57) rfl) rfl
theorem m5_58 : Cond.methodLink RL 142 yX8_unfinished ∈ WG := wg5 (List.mem_of_getElem? (i := 58) rfl) rfl
theorem m5_59 : Cond.instanceMethod yX8_unfinished ∈ WG := wg5 (List.mem_of_getElem? (i := 59) rfl) rfl
theorem m5_60 : Cond.selects RX8 yX8_unfinished yX8_unfinished ∈ WG := wg5 (List.mem_of_getElem? (i := 60) rfl) rfl
theorem m5_61 : Cond.code yX8_unfinished cX8_unfinished 1 (some .int) ∈ WG := wg5 (List.mem_of_getElem? (i := 61) rfl) rfl
theorem m5_62 : Cond.methodLink RL 145 yX8_presence ∈ WG := wg5 (List.mem_of_getElem? (i := 62) rfl) rfl
theorem m5_63 : Cond.instanceMethod yX8_presence ∈ WG := wg5 (List.mem_of_getElem? (i := 63) rfl) rfl
theorem m5_64 : Cond.selects RX8 yX8_presence yX8_presence ∈ WG := wg5 (List.mem_of_getElem? (i := 64) rfl) rfl
theorem m5_65 : Cond.code yX8_presence cX8_presence 2 (some .int) ∈ WG := wg5 (List.mem_of_getElem? (i := 65) rfl) rfl
theorem m5_66 : Cond.methodLink RX8 98 yX8_look ∈ WG := wg5 (List.mem_of_getElem? (i := 66) rfl) rfl
theorem m5_68 : Cond.instanceMethod yX8_look ∈ WG := wg5 (List.mem_of_getElem? (i := 68) rfl) rfl
theorem m5_69 : Cond.code yX8_look cX8_look 8 none ∈ WG := wg5 (List.mem_of_getElem? (i := 69) rfl) rfl
theorem m5_70 : Cond.methodLink RX8 93 yX8_has ∈ WG := wg5 (List.mem_of_getElem? (i := 70) rfl) rfl
theorem m5_71 : Cond.static yX8_has ∈ WG := wg5 (List.mem_of_getElem? (i := 71) rfl) rfl
theorem m5_72 : Cond.code yX8_has cX8_has 2 (some .boolean) ∈ WG := wg5 (List.mem_of_getElem? (i := 72) rfl) rfl
theorem m5_73 : Cond.constant RX8 97 (65535) ∈ WG := wg5 (List.mem_of_getElem? (i := 73) rfl) rfl
theorem m5_74 : Cond.methodLink RL 148 yX8_on ∈ WG := wg5 (List.mem_of_getElem? (i := 74) rfl) rfl
theorem m5_75 : Cond.instanceMethod yX8_on ∈ WG := wg5 (List.mem_of_getElem? (i := 75) rfl) rfl
theorem m5_76 : Cond.selects RX8 yX8_on yX8_on ∈ WG := wg5 (List.mem_of_getElem? (i := 76) rfl) rfl
theorem m5_77 : Cond.code yX8_on cX8_on 3 (some .int) ∈ WG := wg5 (List.mem_of_getElem? (i := 77) rfl) rfl
theorem m5_78 : Cond.methodLink RL 151 yX8_features ∈ WG := wg5 (List.mem_of_getElem? (i := 78) rfl) rfl
theorem m5_79 : Cond.instanceMethod yX8_features ∈ WG := wg5 (List.mem_of_getElem? (i := 79) rfl) rfl
theorem m5_80 : Cond.selects RX8 yX8_features yX8_features ∈ WG := wg5 (List.mem_of_getElem? (i := 80) rfl) rfl
theorem m5_81 : Cond.code yX8_features cX8_features 5 (some .int) ∈ WG := wg5 (List.mem_of_getElem? (i := 81) rfl) rfl
theorem m5_82 : Cond.methodLink RL 155 yX8_dead ∈ WG := wg5 (List.mem_of_getElem? (i := 82) rfl) rfl
theorem m5_83 : Cond.instanceMethod yX8_dead ∈ WG := wg5 (List.mem_of_getElem? (i := 83) rfl) rfl
theorem m5_84 : Cond.selects RX8 yX8_dead yX8_dead ∈ WG := wg5 (List.mem_of_getElem? (i := 84) rfl) rfl
theorem m5_85 : Cond.code yX8_dead cX8_dead 3 (some .int) ∈ WG := wg5 (List.mem_of_getElem? (i := 85) rfl) rfl
theorem m5_86 : Cond.methodLink RL 158 yX8_length ∈ WG := wg5 (List.mem_of_getElem? (i := 86) rfl) rfl
theorem m5_87 : Cond.instanceMethod yX8_length ∈ WG := wg5 (List.mem_of_getElem? (i := 87) rfl) rfl
theorem m5_88 : Cond.selects RX8 yX8_length yX8_length ∈ WG := wg5 (List.mem_of_getElem? (i := 88) rfl) rfl
theorem m5_89 : Cond.code yX8_length cX8_length 2 (some .int) ∈ WG := wg5 (List.mem_of_getElem? (i := 89) rfl) rfl
theorem m5_90 : Cond.methodLink RX8 101 yX8_isConfiguration ∈ WG := wg5 (List.mem_of_getElem? (i := 90) rfl) rfl
theorem m5_91 : Cond.static yX8_isConfiguration ∈ WG := wg5 (List.mem_of_getElem? (i := 91) rfl) rfl
theorem m5_92 : Cond.code yX8_isConfiguration cX8_isConfiguration 1 (some .boolean) ∈ WG := wg5 (List.mem_of_getElem? (i := 92) rfl) rfl
theorem m5_93 : Cond.methodLink RX8 104 yX8_lengthOf ∈ WG := wg5 (List.mem_of_getElem? (i := 93) rfl) rfl
theorem m5_95 : Cond.instanceMethod yX8_lengthOf ∈ WG := wg5 (List.mem_of_getElem? (i := 95) rfl) rfl
theorem m5_96 : Cond.code yX8_lengthOf cX8_lengthOf 4 (some .int) ∈ WG := wg5 (List.mem_of_getElem? (i := 96) rfl) rfl
theorem m5_97 : Cond.methodLink RL 161 yX8_place ∈ WG := wg5 (List.mem_of_getElem? (i := 97) rfl) rfl
theorem m5_98 : Cond.instanceMethod yX8_place ∈ WG := wg5 (List.mem_of_getElem? (i := 98) rfl) rfl
theorem m5_99 : Cond.selects RX8 yX8_place yX8_place ∈ WG := wg5 (List.mem_of_getElem? (i := 99) rfl) rfl
theorem m5_100 : Cond.code yX8_place cX8_place 4 (some .int) ∈ WG := wg5 (List.mem_of_getElem? (i := 100) rfl) rfl
theorem m5_101 : Cond.methodLink RX8 107 yX8_find ∈ WG := wg5 (List.mem_of_getElem? (i := 101) rfl) rfl
theorem m5_103 : Cond.instanceMethod yX8_find ∈ WG := wg5 (List.mem_of_getElem? (i := 103) rfl) rfl
theorem m5_104 : Cond.code yX8_find cX8_find 5 (some .int) ∈ WG := wg5 (List.mem_of_getElem? (i := 104) rfl) rfl
theorem m5_105 : Cond.methodLink RL 165 yX8_variants ∈ WG := wg5 (List.mem_of_getElem? (i := 105) rfl) rfl
theorem m5_106 : Cond.instanceMethod yX8_variants ∈ WG := wg5 (List.mem_of_getElem? (i := 106) rfl) rfl
theorem m5_107 : Cond.selects RX8 yX8_variants yX8_variants ∈ WG := wg5 (List.mem_of_getElem? (i := 107) rfl) rfl
theorem m5_108 : Cond.code yX8_variants cX8_variants 5 (some .int) ∈ WG := wg5 (List.mem_of_getElem? (i := 108) rfl) rfl
theorem m5_109 : Cond.methodLink RX8 111 yX8_areSame ∈ WG := wg5 (List.mem_of_getElem? (i := 109) rfl) rfl
theorem m5_111 : Cond.instanceMethod yX8_areSame ∈ WG := wg5 (List.mem_of_getElem? (i := 111) rfl) rfl
theorem m5_112 : Cond.code yX8_areSame cX8_areSame 6 (some .boolean) ∈ WG := wg5 (List.mem_of_getElem? (i := 112) rfl) rfl
theorem m5_113 : Cond.methodLink RL 168 yX8_error ∈ WG := wg5 (List.mem_of_getElem? (i := 113) rfl) rfl
theorem m5_114 : Cond.instanceMethod yX8_error ∈ WG := wg5 (List.mem_of_getElem? (i := 114) rfl) rfl
theorem m5_115 : Cond.selects RX8 yX8_error yX8_error ∈ WG := wg5 (List.mem_of_getElem? (i := 115) rfl) rfl
theorem m5_116 : Cond.code yX8_error cX8_error 2 (some .int) ∈ WG := wg5 (List.mem_of_getElem? (i := 116) rfl) rfl
theorem m5_117 : Cond.methodLink RX8 142 yX8_isWhole ∈ WG := wg5 (List.mem_of_getElem? (i := 117) rfl) rfl
theorem m5_119 : Cond.instanceMethod yX8_isWhole ∈ WG := wg5 (List.mem_of_getElem? (i := 119) rfl) rfl
theorem m5_120 : Cond.code yX8_isWhole cX8_isWhole 1 (some .boolean) ∈ WG := wg5 (List.mem_of_getElem? (i := 120) rfl) rfl
theorem m5_121 : Cond.methodLink RX8 146 yX8_read ∈ WG := wg5 (List.mem_of_getElem? (i := 121) rfl) rfl
theorem m5_123 : Cond.instanceMethod yX8_read ∈ WG := wg5 (List.mem_of_getElem? (i := 123) rfl) rfl
theorem m5_124 : Cond.code yX8_read cX8_read 5 none ∈ WG := wg5 (List.mem_of_getElem? (i := 124) rfl) rfl
theorem m5_125 : Cond.methodLink RX8 120 yX8_push ∈ WG := wg5 (List.mem_of_getElem? (i := 125) rfl) rfl
theorem m5_127 : Cond.instanceMethod yX8_push ∈ WG := wg5 (List.mem_of_getElem? (i := 127) rfl) rfl
theorem m5_128 : Cond.code yX8_push cX8_push 3 none ∈ WG := wg5 (List.mem_of_getElem? (i := 128) rfl) rfl
theorem m5_129 : Cond.methodLink RX8 136 yX8_countGroups ∈ WG := wg5 (List.mem_of_getElem? (i := 129) rfl) rfl
theorem m5_131 : Cond.instanceMethod yX8_countGroups ∈ WG := wg5 (List.mem_of_getElem? (i := 131) rfl) rfl
theorem m5_132 : Cond.code yX8_countGroups cX8_countGroups 6 (some .int) ∈ WG := wg5 (List.mem_of_getElem? (i := 132) rfl) rfl
theorem m5_133 : Cond.methodLink RX8 133 yX8_areLike ∈ WG := wg5 (List.mem_of_getElem? (i := 133) rfl) rfl
theorem m5_135 : Cond.instanceMethod yX8_areLike ∈ WG := wg5 (List.mem_of_getElem? (i := 135) rfl) rfl
theorem m5_136 : Cond.code yX8_areLike cX8_areLike 5 (some .boolean) ∈ WG := wg5 (List.mem_of_getElem? (i := 136) rfl) rfl
theorem m5_137 : Cond.methodLink RX8 139 yX8_readOne ∈ WG := wg5 (List.mem_of_getElem? (i := 137) rfl) rfl
theorem m5_139 : Cond.instanceMethod yX8_readOne ∈ WG := wg5 (List.mem_of_getElem? (i := 139) rfl) rfl
theorem m5_140 : Cond.code yX8_readOne cX8_readOne 3 (some .boolean) ∈ WG := wg5 (List.mem_of_getElem? (i := 140) rfl) rfl
theorem m5_141 : Cond.methodLink RX8 130 yX8_expand ∈ WG := wg5 (List.mem_of_getElem? (i := 141) rfl) rfl
theorem m5_143 : Cond.instanceMethod yX8_expand ∈ WG := wg5 (List.mem_of_getElem? (i := 143) rfl) rfl
theorem m5_144 : Cond.code yX8_expand cX8_expand 4 (some .boolean) ∈ WG := wg5 (List.mem_of_getElem? (i := 144) rfl) rfl
theorem m5_145 : Cond.methodLink RX8 117 yX8_canBegin ∈ WG := wg5 (List.mem_of_getElem? (i := 145) rfl) rfl
theorem m5_146 : Cond.static yX8_canBegin ∈ WG := wg5 (List.mem_of_getElem? (i := 146) rfl) rfl
theorem m5_147 : Cond.code yX8_canBegin cX8_canBegin 1 (some .boolean) ∈ WG := wg5 (List.mem_of_getElem? (i := 147) rfl) rfl
theorem m5_148 : Cond.methodLink RX8 114 yX8_isName ∈ WG := wg5 (List.mem_of_getElem? (i := 148) rfl) rfl
theorem m5_149 : Cond.static yX8_isName ∈ WG := wg5 (List.mem_of_getElem? (i := 149) rfl) rfl
theorem m5_150 : Cond.code yX8_isName cX8_isName 1 (some .boolean) ∈ WG := wg5 (List.mem_of_getElem? (i := 150) rfl) rfl
theorem m5_151 : Cond.methodLink RX8 124 yX8_expandStatement ∈ WG := wg5 (List.mem_of_getElem? (i := 151) rfl) rfl
theorem m5_153 : Cond.instanceMethod yX8_expandStatement ∈ WG := wg5 (List.mem_of_getElem? (i := 153) rfl) rfl
theorem m5_154 : Cond.code yX8_expandStatement cX8_expandStatement 3 (some .boolean) ∈ WG := wg5 (List.mem_of_getElem? (i := 154) rfl) rfl
theorem m5_155 : Cond.methodLink RX8 127 yX8_expandFactor ∈ WG := wg5 (List.mem_of_getElem? (i := 155) rfl) rfl
theorem m5_157 : Cond.instanceMethod yX8_expandFactor ∈ WG := wg5 (List.mem_of_getElem? (i := 157) rfl) rfl
theorem m5_158 : Cond.code yX8_expandFactor cX8_expandFactor 4 (some .boolean) ∈ WG := wg5 (List.mem_of_getElem? (i := 158) rfl) rfl
theorem m5_159 : Cond.methodLink RL 171 yX8_wrong ∈ WG := wg5 (List.mem_of_getElem? (i := 159) rfl) rfl
theorem m5_160 : Cond.instanceMethod yX8_wrong ∈ WG := wg5 (List.mem_of_getElem? (i := 160) rfl) rfl
theorem m5_161 : Cond.selects RX8 yX8_wrong yX8_wrong ∈ WG := wg5 (List.mem_of_getElem? (i := 161) rfl) rfl
theorem m5_162 : Cond.code yX8_wrong cX8_wrong 3 (some .int) ∈ WG := wg5 (List.mem_of_getElem? (i := 162) rfl) rfl
theorem m5_163 : Cond.methodLink RL 174 yX8_firstError ∈ WG := wg5 (List.mem_of_getElem? (i := 163) rfl) rfl
theorem m5_164 : Cond.instanceMethod yX8_firstError ∈ WG := wg5 (List.mem_of_getElem? (i := 164) rfl) rfl
theorem m5_165 : Cond.selects RX8 yX8_firstError yX8_firstError ∈ WG := wg5 (List.mem_of_getElem? (i := 165) rfl) rfl
theorem m5_166 : Cond.code yX8_firstError cX8_firstError 3 (some .int) ∈ WG := wg5 (List.mem_of_getElem? (i := 166) rfl) rfl
theorem m5_167 : Cond.methodLink RL 177 yX8_groups ∈ WG := wg5 (List.mem_of_getElem? (i := 167) rfl) rfl
theorem m5_168 : Cond.instanceMethod yX8_groups ∈ WG := wg5 (List.mem_of_getElem? (i := 168) rfl) rfl
theorem m5_169 : Cond.selects RX8 yX8_groups yX8_groups ∈ WG := wg5 (List.mem_of_getElem? (i := 169) rfl) rfl
theorem m5_170 : Cond.code yX8_groups cX8_groups 2 (some .int) ∈ WG := wg5 (List.mem_of_getElem? (i := 170) rfl) rfl
theorem m5_171 : Cond.methodLink RL 180 yX8_work ∈ WG := wg5 (List.mem_of_getElem? (i := 171) rfl) rfl
theorem m5_172 : Cond.instanceMethod yX8_work ∈ WG := wg5 (List.mem_of_getElem? (i := 172) rfl) rfl
theorem m5_173 : Cond.selects RX8 yX8_work yX8_work ∈ WG := wg5 (List.mem_of_getElem? (i := 173) rfl) rfl
theorem m5_174 : Cond.code yX8_work cX8_work 1 (some .int) ∈ WG := wg5 (List.mem_of_getElem? (i := 174) rfl) rfl
theorem m5_175 : Cond.methodLink RX8 149 yX8_sumOfGroups ∈ WG := wg5 (List.mem_of_getElem? (i := 175) rfl) rfl
theorem m5_177 : Cond.instanceMethod yX8_sumOfGroups ∈ WG := wg5 (List.mem_of_getElem? (i := 177) rfl) rfl
theorem m5_178 : Cond.code yX8_sumOfGroups cX8_sumOfGroups 3 (some .int) ∈ WG := wg5 (List.mem_of_getElem? (i := 178) rfl) rfl
theorem m5_179 : Cond.methodLink RL 184 yX8_gain ∈ WG := wg5 (List.mem_of_getElem? (i := 179) rfl) rfl
theorem m5_180 : Cond.instanceMethod yX8_gain ∈ WG := wg5 (List.mem_of_getElem? (i := 180) rfl) rfl
theorem m5_181 : Cond.selects RX8 yX8_gain yX8_gain ∈ WG := wg5 (List.mem_of_getElem? (i := 181) rfl) rfl
theorem m5_182 : Cond.code yX8_gain cX8_gain 4 (some .double) ∈ WG := wg5 (List.mem_of_getElem? (i := 182) rfl) rfl
theorem m5_183 : Cond.methodLink RL 187 yX8_stack ∈ WG := wg5 (List.mem_of_getElem? (i := 183) rfl) rfl
theorem m5_184 : Cond.instanceMethod yX8_stack ∈ WG := wg5 (List.mem_of_getElem? (i := 184) rfl) rfl
theorem m5_185 : Cond.selects RX8 yX8_stack yX8_stack ∈ WG := wg5 (List.mem_of_getElem? (i := 185) rfl) rfl
theorem m5_186 : Cond.code yX8_stack cX8_stack 4 (some .int) ∈ WG := wg5 (List.mem_of_getElem? (i := 186) rfl) rfl
theorem m5_187 : Cond.methodLink RL 190 yX8_outputs ∈ WG := wg5 (List.mem_of_getElem? (i := 187) rfl) rfl
theorem m5_188 : Cond.instanceMethod yX8_outputs ∈ WG := wg5 (List.mem_of_getElem? (i := 188) rfl) rfl
theorem m5_189 : Cond.selects RX8 yX8_outputs yX8_outputs ∈ WG := wg5 (List.mem_of_getElem? (i := 189) rfl) rfl
theorem m5_190 : Cond.code yX8_outputs cX8_outputs 2 (some .int) ∈ WG := wg5 (List.mem_of_getElem? (i := 190) rfl) rfl
theorem m5_191 : Cond.methodLink RX8 178 yX8_asks ∈ WG := wg5 (List.mem_of_getElem? (i := 191) rfl) rfl
theorem m5_193 : Cond.instanceMethod yX8_asks ∈ WG := wg5 (List.mem_of_getElem? (i := 193) rfl) rfl
theorem m5_194 : Cond.code yX8_asks cX8_asks 2 (some .boolean) ∈ WG := wg5 (List.mem_of_getElem? (i := 194) rfl) rfl
theorem m5_195 : Cond.methodLink RX8 174 yX8_run ∈ WG := wg5 (List.mem_of_getElem? (i := 195) rfl) rfl
theorem m5_197 : Cond.instanceMethod yX8_run ∈ WG := wg5 (List.mem_of_getElem? (i := 197) rfl) rfl
theorem m5_198 : Cond.code yX8_run cX8_run 4 none ∈ WG := wg5 (List.mem_of_getElem? (i := 198) rfl) rfl
theorem m5_199 : Cond.methodLink RX8 167 yX8_statement ∈ WG := wg5 (List.mem_of_getElem? (i := 199) rfl) rfl
theorem m5_201 : Cond.instanceMethod yX8_statement ∈ WG := wg5 (List.mem_of_getElem? (i := 201) rfl) rfl
theorem m5_202 : Cond.code yX8_statement cX8_statement 4 none ∈ WG := wg5 (List.mem_of_getElem? (i := 202) rfl) rfl
theorem m5_203 : Cond.methodLink RX8 164 yX8_expression ∈ WG := wg5 (List.mem_of_getElem? (i := 203) rfl) rfl
theorem m5_205 : Cond.instanceMethod yX8_expression ∈ WG := wg5 (List.mem_of_getElem? (i := 205) rfl) rfl
theorem m5_206 : Cond.code yX8_expression cX8_expression 4 (some .int) ∈ WG := wg5 (List.mem_of_getElem? (i := 206) rfl) rfl
theorem m5_207 : Cond.methodLink RX8 155 yX8_term ∈ WG := wg5 (List.mem_of_getElem? (i := 207) rfl) rfl
theorem m5_209 : Cond.instanceMethod yX8_term ∈ WG := wg5 (List.mem_of_getElem? (i := 209) rfl) rfl
theorem m5_210 : Cond.code yX8_term cX8_term 2 (some .int) ∈ WG := wg5 (List.mem_of_getElem? (i := 210) rfl) rfl
theorem m5_211 : Cond.methodLink RX8 158 yX8_factor ∈ WG := wg5 (List.mem_of_getElem? (i := 211) rfl) rfl
theorem m5_213 : Cond.instanceMethod yX8_factor ∈ WG := wg5 (List.mem_of_getElem? (i := 213) rfl) rfl
theorem m5_214 : Cond.code yX8_factor cX8_factor 3 (some .int) ∈ WG := wg5 (List.mem_of_getElem? (i := 214) rfl) rfl
theorem m5_215 : Cond.methodLink RX8 161 yX8_passes ∈ WG := wg5 (List.mem_of_getElem? (i := 215) rfl) rfl
theorem m5_217 : Cond.instanceMethod yX8_passes ∈ WG := wg5 (List.mem_of_getElem? (i := 217) rfl) rfl
theorem m5_218 : Cond.code yX8_passes cX8_passes 2 (some .boolean) ∈ WG := wg5 (List.mem_of_getElem? (i := 218) rfl) rfl
theorem m5_219 : Cond.methodLink RL 193 yX8_output ∈ WG := wg5 (List.mem_of_getElem? (i := 219) rfl) rfl
theorem m5_220 : Cond.instanceMethod yX8_output ∈ WG := wg5 (List.mem_of_getElem? (i := 220) rfl) rfl
theorem m5_221 : Cond.selects RX8 yX8_output yX8_output ∈ WG := wg5 (List.mem_of_getElem? (i := 221) rfl) rfl
theorem m5_222 : Cond.code yX8_output cX8_output 3 (some .int) ∈ WG := wg5 (List.mem_of_getElem? (i := 222) rfl) rfl
theorem m5_223 : Cond.methodLink RL 196 yX8_variable ∈ WG := wg5 (List.mem_of_getElem? (i := 223) rfl) rfl
theorem m5_224 : Cond.instanceMethod yX8_variable ∈ WG := wg5 (List.mem_of_getElem? (i := 224) rfl) rfl
theorem m5_225 : Cond.selects RX8 yX8_variable yX8_variable ∈ WG := wg5 (List.mem_of_getElem? (i := 225) rfl) rfl
theorem m5_226 : Cond.code yX8_variable cX8_variable 3 (some .int) ∈ WG := wg5 (List.mem_of_getElem? (i := 226) rfl) rfl
theorem m5_227 : Cond.methodLink RL 199 yX8_behaviours ∈ WG := wg5 (List.mem_of_getElem? (i := 227) rfl) rfl
theorem m5_228 : Cond.instanceMethod yX8_behaviours ∈ WG := wg5 (List.mem_of_getElem? (i := 228) rfl) rfl
theorem m5_229 : Cond.selects RX8 yX8_behaviours yX8_behaviours ∈ WG := wg5 (List.mem_of_getElem? (i := 229) rfl) rfl
theorem m5_230 : Cond.code yX8_behaviours cX8_behaviours 9 (some .int) ∈ WG := wg5 (List.mem_of_getElem? (i := 230) rfl) rfl
theorem m5_231 : Cond.methodLink RL 204 yX8_digest ∈ WG := wg5 (List.mem_of_getElem? (i := 231) rfl) rfl
theorem m5_232 : Cond.instanceMethod yX8_digest ∈ WG := wg5 (List.mem_of_getElem? (i := 232) rfl) rfl
theorem m5_233 : Cond.selects RX8 yX8_digest yX8_digest ∈ WG := wg5 (List.mem_of_getElem? (i := 233) rfl) rfl
theorem m5_234 : Cond.code yX8_digest cX8_digest 5 (some .long) ∈ WG := wg5 (List.mem_of_getElem? (i := 234) rfl) rfl
theorem m5_235 : Cond.constantLong RX8 181 (4309) ∈ WG := wg5 (List.mem_of_getElem? (i := 235) rfl) rfl
theorem m5_236 : Cond.constantLong RX8 183 (31) ∈ WG := wg5 (List.mem_of_getElem? (i := 236) rfl) rfl
theorem m5_237 : Cond.constantLong RL 99 (4294967295) ∈ WG := wg5 (List.mem_of_getElem? (i := 237) rfl) rfl
theorem m5_238 : Cond.arrayClass .long ∈ WG := wg5 (List.mem_of_getElem? (i := 238) rfl) rfl
theorem m5_239 : Cond.arrayClass .double ∈ WG := wg5 (List.mem_of_getElem? (i := 239) rfl) rfl
theorem m6_14 : Cond.fieldLink RJ0 15 "java/lang/String" "coder" "B" ∈ WG := wg6 (List.mem_of_getElem? (i := 14) rfl) rfl
theorem m6_15 : Cond.fieldLink RJ0 9 "java/lang/String" "value" "[B" ∈ WG := wg6 (List.mem_of_getElem? (i := 15) rfl) rfl
theorem mp1_0 : Cond.selects RX7 yX7_refresh yX7_refresh ∈ WG := wgp1 (List.mem_of_getElem? (i := 0) rfl)
theorem mp1_1 : Cond.selects RX6 yX6_step yX6_step ∈ WG := wgp1 (List.mem_of_getElem? (i := 1) rfl)
theorem mp1_2 : Cond.selects RX6 yX6_enter yX6_enter ∈ WG := wgp1 (List.mem_of_getElem? (i := 2) rfl)
theorem mp1_3 : Cond.selects RX6 yX6_turn yX6_turn ∈ WG := wgp1 (List.mem_of_getElem? (i := 3) rfl)
theorem mp1_4 : Cond.selects RX7 yX7_collectVariants yX7_collectVariants ∈ WG := wgp1 (List.mem_of_getElem? (i := 4) rfl)
theorem mp1_5 : Cond.selects RX7 yX7_readAll yX7_readAll ∈ WG := wgp1 (List.mem_of_getElem? (i := 5) rfl)
theorem mp1_6 : Cond.selects RX1 yX1_push yX1_push ∈ WG := wgp1 (List.mem_of_getElem? (i := 6) rfl)
theorem mp1_7 : Cond.selects RX7 yX7_countGroups yX7_countGroups ∈ WG := wgp1 (List.mem_of_getElem? (i := 7) rfl)
theorem mp1_8 : Cond.selects RX7 yX7_isReadBy yX7_isReadBy ∈ WG := wgp1 (List.mem_of_getElem? (i := 8) rfl)
theorem mp1_9 : Cond.selects RX7 yX7_isFirstOfItsGroup yX7_isFirstOfItsGroup ∈ WG := wgp1 (List.mem_of_getElem? (i := 9) rfl)
theorem mp1_10 : Cond.selects RX1 yX1_replaceTop yX1_replaceTop ∈ WG := wgp1 (List.mem_of_getElem? (i := 10) rfl)
theorem mp1_11 : Cond.selects RX7 yX7_runAll yX7_runAll ∈ WG := wgp1 (List.mem_of_getElem? (i := 11) rfl)
theorem mp1_12 : Cond.selects RX3 yX3_runStatements yX3_runStatements ∈ WG := wgp1 (List.mem_of_getElem? (i := 12) rfl)
theorem mp1_13 : Cond.selects RX3 yX3_peek yX3_peek ∈ WG := wgp1 (List.mem_of_getElem? (i := 13) rfl)
theorem mp1_14 : Cond.selects RX3 yX3_runStatement yX3_runStatement ∈ WG := wgp1 (List.mem_of_getElem? (i := 14) rfl)
theorem mp1_15 : Cond.selects RX3 yX3_advance yX3_advance ∈ WG := wgp1 (List.mem_of_getElem? (i := 15) rfl)
theorem mp2_0 : Cond.selects RX3 yX3_runChoice yX3_runChoice ∈ WG := wgp2 (List.mem_of_getElem? (i := 0) rfl)
theorem mp2_1 : Cond.selects RX3 yX3_sum yX3_sum ∈ WG := wgp2 (List.mem_of_getElem? (i := 1) rfl)
theorem mp2_2 : Cond.selects RX3 yX3_product yX3_product ∈ WG := wgp2 (List.mem_of_getElem? (i := 2) rfl)
theorem mp2_3 : Cond.selects RX3 yX3_factor yX3_factor ∈ WG := wgp2 (List.mem_of_getElem? (i := 3) rfl)
theorem mp2_4 : Cond.selects RX3 yX3_operand yX3_operand ∈ WG := wgp2 (List.mem_of_getElem? (i := 4) rfl)
theorem mp2_5 : Cond.selects RX3 yX3_put yX3_put ∈ WG := wgp2 (List.mem_of_getElem? (i := 5) rfl)
theorem mp2_6 : Cond.selects RX3 yX3_assign yX3_assign ∈ WG := wgp2 (List.mem_of_getElem? (i := 6) rfl)
theorem mp2_7 : Cond.selects RX7 yX7_isFirstOfItsText yX7_isFirstOfItsText ∈ WG := wgp2 (List.mem_of_getElem? (i := 7) rfl)
theorem mp2_8 : Cond.selects "java/lang/Throwable" ⟨"java/lang/Throwable", "fillInStackTrace", "(I)Ljava/lang/Throwable;"⟩ ⟨"java/lang/Throwable", "fillInStackTrace", "(I)Ljava/lang/Throwable;"⟩ ∈ WG := wgp2 (List.mem_of_getElem? (i := 8) rfl)
theorem mp2_9 : Cond.selects RX7 yX7_append yX7_append ∈ WG := wgp2 (List.mem_of_getElem? (i := 9) rfl)
theorem mp2_10 : Cond.selects RX7 yX7_checkFeature yX7_checkFeature ∈ WG := wgp2 (List.mem_of_getElem? (i := 10) rfl)
theorem mp2_11 : Cond.selects RX7 yX7_checkRoom yX7_checkRoom ∈ WG := wgp2 (List.mem_of_getElem? (i := 11) rfl)
theorem mp2_12 : Cond.selects RX7 yX7_checkUnfinished yX7_checkUnfinished ∈ WG := wgp2 (List.mem_of_getElem? (i := 12) rfl)
theorem mp2_13 : Cond.selects RX7 yX7_checkItem yX7_checkItem ∈ WG := wgp2 (List.mem_of_getElem? (i := 13) rfl)
theorem mp2_14 : Cond.selects RX7 yX7_checkConfiguration yX7_checkConfiguration ∈ WG := wgp2 (List.mem_of_getElem? (i := 14) rfl)
theorem mp2_15 : Cond.selects RX7 yX7_checkIndex yX7_checkIndex ∈ WG := wgp2 (List.mem_of_getElem? (i := 15) rfl)
theorem mp3_0 : Cond.selects RX7 yX7_checkFinished yX7_checkFinished ∈ WG := wgp3 (List.mem_of_getElem? (i := 0) rfl)
theorem mp3_1 : Cond.selects RX7 yX7_sumOfGroups yX7_sumOfGroups ∈ WG := wgp3 (List.mem_of_getElem? (i := 1) rfl)
theorem mp3_2 : Cond.selects RX7 yX7_checkNoError yX7_checkNoError ∈ WG := wgp3 (List.mem_of_getElem? (i := 2) rfl)
theorem mp3_3 : Cond.selects RX7 yX7_isFirstOfItsBehaviour yX7_isFirstOfItsBehaviour ∈ WG := wgp3 (List.mem_of_getElem? (i := 3) rfl)
theorem mp3_4 : Cond.selects RX8 yX8_no yX8_no ∈ WG := wgp3 (List.mem_of_getElem? (i := 4) rfl)
theorem mp3_5 : Cond.selects RX8 yX8_append yX8_append ∈ WG := wgp3 (List.mem_of_getElem? (i := 5) rfl)
theorem mp3_6 : Cond.selects RX8 yX8_openCount yX8_openCount ∈ WG := wgp3 (List.mem_of_getElem? (i := 6) rfl)
theorem mp3_7 : Cond.selects RX8 yX8_whenOf yX8_whenOf ∈ WG := wgp3 (List.mem_of_getElem? (i := 7) rfl)
theorem mp3_8 : Cond.selects RX8 yX8_hasOtherwise yX8_hasOtherwise ∈ WG := wgp3 (List.mem_of_getElem? (i := 8) rfl)
theorem mp3_9 : Cond.selects RX8 yX8_isItem yX8_isItem ∈ WG := wgp3 (List.mem_of_getElem? (i := 9) rfl)
theorem mp3_10 : Cond.selects RX8 yX8_isToken yX8_isToken ∈ WG := wgp3 (List.mem_of_getElem? (i := 10) rfl)
theorem mp3_11 : Cond.selects RX8 yX8_look yX8_look ∈ WG := wgp3 (List.mem_of_getElem? (i := 11) rfl)
theorem mp3_12 : Cond.selects RX8 yX8_lengthOf yX8_lengthOf ∈ WG := wgp3 (List.mem_of_getElem? (i := 12) rfl)
theorem mp3_13 : Cond.selects RX8 yX8_find yX8_find ∈ WG := wgp3 (List.mem_of_getElem? (i := 13) rfl)
theorem mp3_14 : Cond.selects RX8 yX8_areSame yX8_areSame ∈ WG := wgp3 (List.mem_of_getElem? (i := 14) rfl)
theorem mp3_15 : Cond.selects RX8 yX8_isWhole yX8_isWhole ∈ WG := wgp3 (List.mem_of_getElem? (i := 15) rfl)
theorem mp4_0 : Cond.selects RX8 yX8_read yX8_read ∈ WG := wgp4 (List.mem_of_getElem? (i := 0) rfl)
theorem mp4_1 : Cond.selects RX8 yX8_push yX8_push ∈ WG := wgp4 (List.mem_of_getElem? (i := 1) rfl)
theorem mp4_2 : Cond.selects RX8 yX8_countGroups yX8_countGroups ∈ WG := wgp4 (List.mem_of_getElem? (i := 2) rfl)
theorem mp4_3 : Cond.selects RX8 yX8_areLike yX8_areLike ∈ WG := wgp4 (List.mem_of_getElem? (i := 3) rfl)
theorem mp4_4 : Cond.selects RX8 yX8_readOne yX8_readOne ∈ WG := wgp4 (List.mem_of_getElem? (i := 4) rfl)
theorem mp4_5 : Cond.selects RX8 yX8_expand yX8_expand ∈ WG := wgp4 (List.mem_of_getElem? (i := 5) rfl)
theorem mp4_6 : Cond.selects RX8 yX8_expandStatement yX8_expandStatement ∈ WG := wgp4 (List.mem_of_getElem? (i := 6) rfl)
theorem mp4_7 : Cond.selects RX8 yX8_expandFactor yX8_expandFactor ∈ WG := wgp4 (List.mem_of_getElem? (i := 7) rfl)
theorem mp4_8 : Cond.selects RX8 yX8_sumOfGroups yX8_sumOfGroups ∈ WG := wgp4 (List.mem_of_getElem? (i := 8) rfl)
theorem mp4_9 : Cond.selects RX8 yX8_asks yX8_asks ∈ WG := wgp4 (List.mem_of_getElem? (i := 9) rfl)
theorem mp4_10 : Cond.selects RX8 yX8_run yX8_run ∈ WG := wgp4 (List.mem_of_getElem? (i := 10) rfl)
theorem mp4_11 : Cond.selects RX8 yX8_statement yX8_statement ∈ WG := wgp4 (List.mem_of_getElem? (i := 11) rfl)
theorem mp4_12 : Cond.selects RX8 yX8_expression yX8_expression ∈ WG := wgp4 (List.mem_of_getElem? (i := 12) rfl)
theorem mp4_13 : Cond.selects RX8 yX8_term yX8_term ∈ WG := wgp4 (List.mem_of_getElem? (i := 13) rfl)
theorem mp4_14 : Cond.selects RX8 yX8_factor yX8_factor ∈ WG := wgp4 (List.mem_of_getElem? (i := 14) rfl)
theorem mp4_15 : Cond.selects RX8 yX8_passes yX8_passes ∈ WG := wgp4 (List.mem_of_getElem? (i := 15) rfl)
theorem gwV {w0 : Cond} {own C : String} {idx : Nat} {y : MethodName} {cc : ByteArray} {mL : Nat} {ret : Option FieldType} (h1 : Cond.methodLink own idx y ∈ WG) (h2 : Cond.instanceMethod y ∈ WG) (h3 : Cond.selects C y y ∈ WG) (h4 : Cond.initialized C ∈ WG) (h5 : Cond.code y cc mL ret ∈ WG) : GoodIn (w0 :: WG) (wsV own idx C y (Cond.code y cc mL ret :: WG)) := by
  intro w hw
  have key : w ∈ WG := by
    simp only [wsV, List.mem_append, List.mem_cons, List.not_mem_nil, or_false] at hw
    rcases hw with (rfl | rfl | rfl | rfl) | rfl | h
    · exact h1
    · exact h2
    · exact h3
    · exact h4
    · exact h5
    · exact h
  exact ⟨List.mem_cons_of_mem _ key, WG_good key⟩
theorem gwS {w0 : Cond} {own : String} {idx : Nat} {y : MethodName} {cc : ByteArray} {mL : Nat} {ret : Option FieldType} (h1 : Cond.methodLink own idx y ∈ WG) (h2 : Cond.static y ∈ WG) (h4 : Cond.initialized y.cls ∈ WG) (h5 : Cond.code y cc mL ret ∈ WG) : GoodIn (w0 :: WG) (va_wsS own idx y (Cond.code y cc mL ret :: WG)) := by
  intro w hw
  have key : w ∈ WG := by
    simp only [va_wsS, List.mem_append, List.mem_cons, List.not_mem_nil, or_false] at hw
    rcases hw with (rfl | rfl | rfl) | rfl | h
    · exact h1
    · exact h2
    · exact h4
    · exact h5
    · exact h
  exact ⟨List.mem_cons_of_mem _ key, WG_good key⟩
theorem in_RX1 {w0 : Cond} : ∀ w ∈ u_ws RX1 TX1 5, w ∈ w0 :: WG := by
  intro w hw
  obtain ⟨k, hk, rfl⟩ := List.mem_map.mp hw
  have hk := List.mem_range.mp hk
  refine List.mem_cons_of_mem _ ?_
  match k, hk with
  | 0, _ => exact m1_101
  | 1, _ => exact m1_103
  | 2, _ => exact m1_105
  | 3, _ => exact m1_107
  | 4, _ => exact m1_109
  | k + 5, h => exact absurd h (by omega)
theorem in_RX3 {w0 : Cond} : ∀ w ∈ u_ws RX3 TX3 6, w ∈ w0 :: WG := by
  intro w hw
  obtain ⟨k, hk, rfl⟩ := List.mem_map.mp hw
  have hk := List.mem_range.mp hk
  refine List.mem_cons_of_mem _ ?_
  match k, hk with
  | 0, _ => exact m1_127
  | 1, _ => exact m1_129
  | 2, _ => exact m1_131
  | 3, _ => exact m1_133
  | 4, _ => exact m1_135
  | 5, _ => exact m1_137
  | k + 6, h => exact absurd h (by omega)
theorem in_RX4 {w0 : Cond} : ∀ w ∈ u_ws RX4 TX4 2, w ∈ w0 :: WG := by
  intro w hw
  obtain ⟨k, hk, rfl⟩ := List.mem_map.mp hw
  have hk := List.mem_range.mp hk
  refine List.mem_cons_of_mem _ ?_
  match k, hk with
  | 0, _ => exact m1_43
  | 1, _ => exact m1_45
  | k + 2, h => exact absurd h (by omega)
theorem in_RX5 {w0 : Cond} : ∀ w ∈ u_ws RX5 TX5 5, w ∈ w0 :: WG := by
  intro w hw
  obtain ⟨k, hk, rfl⟩ := List.mem_map.mp hw
  have hk := List.mem_range.mp hk
  refine List.mem_cons_of_mem _ ?_
  match k, hk with
  | 0, _ => exact m1_150
  | 1, _ => exact m1_152
  | 2, _ => exact m1_154
  | 3, _ => exact m1_156
  | 4, _ => exact m1_158
  | k + 5, h => exact absurd h (by omega)
theorem in_RX6 {w0 : Cond} : ∀ w ∈ u_ws RX6 TX6 7, w ∈ w0 :: WG := by
  intro w hw
  obtain ⟨k, hk, rfl⟩ := List.mem_map.mp hw
  have hk := List.mem_range.mp hk
  refine List.mem_cons_of_mem _ ?_
  match k, hk with
  | 0, _ => exact m1_66
  | 1, _ => exact m1_68
  | 2, _ => exact m1_70
  | 3, _ => exact m1_72
  | 4, _ => exact m1_74
  | 5, _ => exact m1_76
  | 6, _ => exact m1_78
  | k + 7, h => exact absurd h (by omega)
theorem in_RX7 {w0 : Cond} : ∀ w ∈ u_ws RX7 TX7 5, w ∈ w0 :: WG := by
  intro w hw
  obtain ⟨k, hk, rfl⟩ := List.mem_map.mp hw
  have hk := List.mem_range.mp hk
  refine List.mem_cons_of_mem _ ?_
  match k, hk with
  | 0, _ => exact m1_166
  | 1, _ => exact m1_168
  | 2, _ => exact m1_170
  | 3, _ => exact m1_172
  | 4, _ => exact m1_174
  | k + 5, h => exact absurd h (by omega)
theorem in_RX8 {w0 : Cond} : ∀ w ∈ u_ws RX8 TX8 15, w ∈ w0 :: WG := by
  intro w hw
  obtain ⟨k, hk, rfl⟩ := List.mem_map.mp hw
  have hk := List.mem_range.mp hk
  refine List.mem_cons_of_mem _ ?_
  match k, hk with
  | 0, _ => exact m4_131
  | 1, _ => exact m4_133
  | 2, _ => exact m4_135
  | 3, _ => exact m4_137
  | 4, _ => exact m4_139
  | 5, _ => exact m4_141
  | 6, _ => exact m4_143
  | 7, _ => exact m4_145
  | 8, _ => exact m4_147
  | 9, _ => exact m4_149
  | 10, _ => exact m4_151
  | 11, _ => exact m4_153
  | 12, _ => exact m4_155
  | 13, _ => exact m4_157
  | 14, _ => exact m4_159
  | k + 15, h => exact absurd h (by omega)
end
