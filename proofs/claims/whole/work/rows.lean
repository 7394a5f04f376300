section
-- ===== PART A: goes FIRST, ahead of the names: the tables' words, and 'selects' of the private methods out of them =====
/-- a private method of a class that the tables say can be made, by its rows of tables_1 -/
def lw_okq (q : MethodName × Nat) : Prop := (q.1.cls ≠ "java/lang/invoke/MethodHandle" ∧ q.1.cls ≠ "java/lang/invoke/VarHandle") ∧ Cond.instantiable q.1.cls q.2 ∈ tables_1 ∧ Cond.privateMethod q.1 ∈ tables_1 ∧ Cond.instanceMethod q.1 ∈ tables_1
theorem lw_p0 : lw_okq (⟨"VariantParser", "refresh", "()V"⟩, 5) := ⟨⟨by decide +kernel, by decide +kernel⟩, List.mem_of_getElem? (i := 24) (by decide +kernel), List.mem_of_getElem? (i := 197) (by decide +kernel), List.mem_of_getElem? (i := 198) (by decide +kernel)⟩
theorem lw_p1 : lw_okq (⟨"VariantParser$Walk", "step", "(II)V"⟩, 7) := ⟨⟨by decide +kernel, by decide +kernel⟩, List.mem_of_getElem? (i := 50) (by decide +kernel), List.mem_of_getElem? (i := 208) (by decide +kernel), List.mem_of_getElem? (i := 209) (by decide +kernel)⟩
theorem lw_p2 : lw_okq (⟨"VariantParser$Walk", "enter", "(I)V"⟩, 7) := ⟨⟨by decide +kernel, by decide +kernel⟩, List.mem_of_getElem? (i := 50) (by decide +kernel), List.mem_of_getElem? (i := 213) (by decide +kernel), List.mem_of_getElem? (i := 214) (by decide +kernel)⟩
theorem lw_p3 : lw_okq (⟨"VariantParser$Walk", "turn", "(I)V"⟩, 7) := ⟨⟨by decide +kernel, by decide +kernel⟩, List.mem_of_getElem? (i := 50) (by decide +kernel), List.mem_of_getElem? (i := 226) (by decide +kernel), List.mem_of_getElem? (i := 227) (by decide +kernel)⟩
theorem lw_p4 : lw_okq (⟨"VariantParser", "collectVariants", "()V"⟩, 5) := ⟨⟨by decide +kernel, by decide +kernel⟩, List.mem_of_getElem? (i := 24) (by decide +kernel), List.mem_of_getElem? (i := 230) (by decide +kernel), List.mem_of_getElem? (i := 231) (by decide +kernel)⟩
theorem lw_p5 : lw_okq (⟨"VariantParser", "readAll", "()V"⟩, 5) := ⟨⟨by decide +kernel, by decide +kernel⟩, List.mem_of_getElem? (i := 24) (by decide +kernel), List.mem_of_getElem? (i := 251) (by decide +kernel), List.mem_of_getElem? (i := 252) (by decide +kernel)⟩
theorem lw_p6 : lw_okq (⟨"VariantParser$Reading", "push", "(I)V"⟩, 5) := ⟨⟨by decide +kernel, by decide +kernel⟩, List.mem_of_getElem? (i := 89) (by decide +kernel), List.mem_of_getElem? (i := 259) (by decide +kernel), List.mem_of_getElem? (i := 260) (by decide +kernel)⟩
theorem lw_p7 : lw_okq (⟨"VariantParser", "countGroups", "(I)I"⟩, 5) := ⟨⟨by decide +kernel, by decide +kernel⟩, List.mem_of_getElem? (i := 24) (by decide +kernel), List.mem_of_getElem? (i := 263) (by decide +kernel), List.mem_of_getElem? (i := 264) (by decide +kernel)⟩
theorem lw_p8 : lw_okq (⟨"VariantParser", "isReadBy", "(II)Z"⟩, 5) := ⟨⟨by decide +kernel, by decide +kernel⟩, List.mem_of_getElem? (i := 24) (by decide +kernel), List.mem_of_getElem? (i := 267) (by decide +kernel), List.mem_of_getElem? (i := 268) (by decide +kernel)⟩
theorem lw_p9 : lw_okq (⟨"VariantParser", "isFirstOfItsGroup", "(II)Z"⟩, 5) := ⟨⟨by decide +kernel, by decide +kernel⟩, List.mem_of_getElem? (i := 24) (by decide +kernel), List.mem_of_getElem? (i := 271) (by decide +kernel), List.mem_of_getElem? (i := 272) (by decide +kernel)⟩
theorem lw_p10 : lw_okq (⟨"VariantParser$Reading", "replaceTop", "(I)V"⟩, 5) := ⟨⟨by decide +kernel, by decide +kernel⟩, List.mem_of_getElem? (i := 89) (by decide +kernel), List.mem_of_getElem? (i := 289) (by decide +kernel), List.mem_of_getElem? (i := 290) (by decide +kernel)⟩
theorem lw_p11 : lw_okq (⟨"VariantParser", "runAll", "()V"⟩, 5) := ⟨⟨by decide +kernel, by decide +kernel⟩, List.mem_of_getElem? (i := 24) (by decide +kernel), List.mem_of_getElem? (i := 369) (by decide +kernel), List.mem_of_getElem? (i := 370) (by decide +kernel)⟩
theorem lw_p12 : lw_okq (⟨"VariantParser$Run", "runStatements", "(ZI)V"⟩, 6) := ⟨⟨by decide +kernel, by decide +kernel⟩, List.mem_of_getElem? (i := 113) (by decide +kernel), List.mem_of_getElem? (i := 378) (by decide +kernel), List.mem_of_getElem? (i := 379) (by decide +kernel)⟩
theorem lw_p13 : lw_okq (⟨"VariantParser$Run", "peek", "()I"⟩, 6) := ⟨⟨by decide +kernel, by decide +kernel⟩, List.mem_of_getElem? (i := 113) (by decide +kernel), List.mem_of_getElem? (i := 382) (by decide +kernel), List.mem_of_getElem? (i := 383) (by decide +kernel)⟩
theorem lw_p14 : lw_okq (⟨"VariantParser$Run", "runStatement", "(ZI)V"⟩, 6) := ⟨⟨by decide +kernel, by decide +kernel⟩, List.mem_of_getElem? (i := 113) (by decide +kernel), List.mem_of_getElem? (i := 387) (by decide +kernel), List.mem_of_getElem? (i := 388) (by decide +kernel)⟩
theorem lw_p15 : lw_okq (⟨"VariantParser$Run", "advance", "()I"⟩, 6) := ⟨⟨by decide +kernel, by decide +kernel⟩, List.mem_of_getElem? (i := 113) (by decide +kernel), List.mem_of_getElem? (i := 391) (by decide +kernel), List.mem_of_getElem? (i := 392) (by decide +kernel)⟩
def lw_privs_1 : List (MethodName × Nat) := [(⟨"VariantParser", "refresh", "()V"⟩, 5), (⟨"VariantParser$Walk", "step", "(II)V"⟩, 7), (⟨"VariantParser$Walk", "enter", "(I)V"⟩, 7), (⟨"VariantParser$Walk", "turn", "(I)V"⟩, 7), (⟨"VariantParser", "collectVariants", "()V"⟩, 5), (⟨"VariantParser", "readAll", "()V"⟩, 5), (⟨"VariantParser$Reading", "push", "(I)V"⟩, 5), (⟨"VariantParser", "countGroups", "(I)I"⟩, 5), (⟨"VariantParser", "isReadBy", "(II)Z"⟩, 5), (⟨"VariantParser", "isFirstOfItsGroup", "(II)Z"⟩, 5), (⟨"VariantParser$Reading", "replaceTop", "(I)V"⟩, 5), (⟨"VariantParser", "runAll", "()V"⟩, 5), (⟨"VariantParser$Run", "runStatements", "(ZI)V"⟩, 6), (⟨"VariantParser$Run", "peek", "()I"⟩, 6), (⟨"VariantParser$Run", "runStatement", "(ZI)V"⟩, 6), (⟨"VariantParser$Run", "advance", "()I"⟩, 6)]
theorem lw_r1 : ∀ q ∈ lw_privs_1, lw_okq q := List.forall_mem_cons.mpr ⟨lw_p0, List.forall_mem_cons.mpr ⟨lw_p1, List.forall_mem_cons.mpr ⟨lw_p2, List.forall_mem_cons.mpr ⟨lw_p3, List.forall_mem_cons.mpr ⟨lw_p4, List.forall_mem_cons.mpr ⟨lw_p5, List.forall_mem_cons.mpr ⟨lw_p6, List.forall_mem_cons.mpr ⟨lw_p7, List.forall_mem_cons.mpr ⟨lw_p8, List.forall_mem_cons.mpr ⟨lw_p9, List.forall_mem_cons.mpr ⟨lw_p10, List.forall_mem_cons.mpr ⟨lw_p11, List.forall_mem_cons.mpr ⟨lw_p12, List.forall_mem_cons.mpr ⟨lw_p13, List.forall_mem_cons.mpr ⟨lw_p14, List.forall_mem_cons.mpr ⟨lw_p15, fun _ h => absurd h List.not_mem_nil⟩⟩⟩⟩⟩⟩⟩⟩⟩⟩⟩⟩⟩⟩⟩⟩
theorem lw_p16 : lw_okq (⟨"VariantParser$Run", "runChoice", "(ZI)V"⟩, 6) := ⟨⟨by decide +kernel, by decide +kernel⟩, List.mem_of_getElem? (i := 113) (by decide +kernel), List.mem_of_getElem? (i := 395) (by decide +kernel), List.mem_of_getElem? (i := 396) (by decide +kernel)⟩
theorem lw_p17 : lw_okq (⟨"VariantParser$Run", "sum", "(I)I"⟩, 6) := ⟨⟨by decide +kernel, by decide +kernel⟩, List.mem_of_getElem? (i := 113) (by decide +kernel), List.mem_of_getElem? (i := 399) (by decide +kernel), List.mem_of_getElem? (i := 400) (by decide +kernel)⟩
theorem lw_p18 : lw_okq (⟨"VariantParser$Run", "product", "(I)I"⟩, 6) := ⟨⟨by decide +kernel, by decide +kernel⟩, List.mem_of_getElem? (i := 113) (by decide +kernel), List.mem_of_getElem? (i := 403) (by decide +kernel), List.mem_of_getElem? (i := 404) (by decide +kernel)⟩
theorem lw_p19 : lw_okq (⟨"VariantParser$Run", "factor", "(I)I"⟩, 6) := ⟨⟨by decide +kernel, by decide +kernel⟩, List.mem_of_getElem? (i := 113) (by decide +kernel), List.mem_of_getElem? (i := 407) (by decide +kernel), List.mem_of_getElem? (i := 408) (by decide +kernel)⟩
theorem lw_p20 : lw_okq (⟨"VariantParser$Run", "operand", "(I)I"⟩, 6) := ⟨⟨by decide +kernel, by decide +kernel⟩, List.mem_of_getElem? (i := 113) (by decide +kernel), List.mem_of_getElem? (i := 411) (by decide +kernel), List.mem_of_getElem? (i := 412) (by decide +kernel)⟩
theorem lw_p21 : lw_okq (⟨"VariantParser$Run", "put", "(I)V"⟩, 6) := ⟨⟨by decide +kernel, by decide +kernel⟩, List.mem_of_getElem? (i := 113) (by decide +kernel), List.mem_of_getElem? (i := 417) (by decide +kernel), List.mem_of_getElem? (i := 418) (by decide +kernel)⟩
theorem lw_p22 : lw_okq (⟨"VariantParser$Run", "assign", "(II)V"⟩, 6) := ⟨⟨by decide +kernel, by decide +kernel⟩, List.mem_of_getElem? (i := 113) (by decide +kernel), List.mem_of_getElem? (i := 421) (by decide +kernel), List.mem_of_getElem? (i := 422) (by decide +kernel)⟩
theorem lw_p23 : lw_okq (⟨"VariantParser", "isFirstOfItsText", "(I)Z"⟩, 5) := ⟨⟨by decide +kernel, by decide +kernel⟩, List.mem_of_getElem? (i := 24) (by decide +kernel), List.mem_of_getElem? (i := 430) (by decide +kernel), List.mem_of_getElem? (i := 431) (by decide +kernel)⟩
theorem lw_p24 : lw_okq (⟨"java/lang/Throwable", "fillInStackTrace", "(I)Ljava/lang/Throwable;"⟩, 6) := ⟨⟨by decide +kernel, by decide +kernel⟩, List.mem_of_getElem? (i := 502) (by decide +kernel), List.mem_of_getElem? (i := 500) (by decide +kernel), List.mem_of_getElem? (i := 501) (by decide +kernel)⟩
theorem lw_p25 : lw_okq (⟨"VariantParser", "append", "(I)I"⟩, 5) := ⟨⟨by decide +kernel, by decide +kernel⟩, List.mem_of_getElem? (i := 24) (by decide +kernel), List.mem_of_getElem? (i := 547) (by decide +kernel), List.mem_of_getElem? (i := 548) (by decide +kernel)⟩
theorem lw_p26 : lw_okq (⟨"VariantParser", "checkFeature", "(I)V"⟩, 5) := ⟨⟨by decide +kernel, by decide +kernel⟩, List.mem_of_getElem? (i := 24) (by decide +kernel), List.mem_of_getElem? (i := 563) (by decide +kernel), List.mem_of_getElem? (i := 564) (by decide +kernel)⟩
theorem lw_p27 : lw_okq (⟨"VariantParser", "checkRoom", "()V"⟩, 5) := ⟨⟨by decide +kernel, by decide +kernel⟩, List.mem_of_getElem? (i := 24) (by decide +kernel), List.mem_of_getElem? (i := 583) (by decide +kernel), List.mem_of_getElem? (i := 584) (by decide +kernel)⟩
theorem lw_p28 : lw_okq (⟨"VariantParser", "checkUnfinished", "()V"⟩, 5) := ⟨⟨by decide +kernel, by decide +kernel⟩, List.mem_of_getElem? (i := 24) (by decide +kernel), List.mem_of_getElem? (i := 598) (by decide +kernel), List.mem_of_getElem? (i := 599) (by decide +kernel)⟩
theorem lw_p29 : lw_okq (⟨"VariantParser", "checkItem", "(I)V"⟩, 5) := ⟨⟨by decide +kernel, by decide +kernel⟩, List.mem_of_getElem? (i := 24) (by decide +kernel), List.mem_of_getElem? (i := 645) (by decide +kernel), List.mem_of_getElem? (i := 646) (by decide +kernel)⟩
theorem lw_p30 : lw_okq (⟨"VariantParser", "checkConfiguration", "(I)V"⟩, 5) := ⟨⟨by decide +kernel, by decide +kernel⟩, List.mem_of_getElem? (i := 24) (by decide +kernel), List.mem_of_getElem? (i := 692) (by decide +kernel), List.mem_of_getElem? (i := 693) (by decide +kernel)⟩
theorem lw_p31 : lw_okq (⟨"VariantParser", "checkIndex", "(II)V"⟩, 5) := ⟨⟨by decide +kernel, by decide +kernel⟩, List.mem_of_getElem? (i := 24) (by decide +kernel), List.mem_of_getElem? (i := 704) (by decide +kernel), List.mem_of_getElem? (i := 705) (by decide +kernel)⟩
def lw_privs_2 : List (MethodName × Nat) := [(⟨"VariantParser$Run", "runChoice", "(ZI)V"⟩, 6), (⟨"VariantParser$Run", "sum", "(I)I"⟩, 6), (⟨"VariantParser$Run", "product", "(I)I"⟩, 6), (⟨"VariantParser$Run", "factor", "(I)I"⟩, 6), (⟨"VariantParser$Run", "operand", "(I)I"⟩, 6), (⟨"VariantParser$Run", "put", "(I)V"⟩, 6), (⟨"VariantParser$Run", "assign", "(II)V"⟩, 6), (⟨"VariantParser", "isFirstOfItsText", "(I)Z"⟩, 5), (⟨"java/lang/Throwable", "fillInStackTrace", "(I)Ljava/lang/Throwable;"⟩, 6), (⟨"VariantParser", "append", "(I)I"⟩, 5), (⟨"VariantParser", "checkFeature", "(I)V"⟩, 5), (⟨"VariantParser", "checkRoom", "()V"⟩, 5), (⟨"VariantParser", "checkUnfinished", "()V"⟩, 5), (⟨"VariantParser", "checkItem", "(I)V"⟩, 5), (⟨"VariantParser", "checkConfiguration", "(I)V"⟩, 5), (⟨"VariantParser", "checkIndex", "(II)V"⟩, 5)]
theorem lw_r2 : ∀ q ∈ lw_privs_2, lw_okq q := List.forall_mem_cons.mpr ⟨lw_p16, List.forall_mem_cons.mpr ⟨lw_p17, List.forall_mem_cons.mpr ⟨lw_p18, List.forall_mem_cons.mpr ⟨lw_p19, List.forall_mem_cons.mpr ⟨lw_p20, List.forall_mem_cons.mpr ⟨lw_p21, List.forall_mem_cons.mpr ⟨lw_p22, List.forall_mem_cons.mpr ⟨lw_p23, List.forall_mem_cons.mpr ⟨lw_p24, List.forall_mem_cons.mpr ⟨lw_p25, List.forall_mem_cons.mpr ⟨lw_p26, List.forall_mem_cons.mpr ⟨lw_p27, List.forall_mem_cons.mpr ⟨lw_p28, List.forall_mem_cons.mpr ⟨lw_p29, List.forall_mem_cons.mpr ⟨lw_p30, List.forall_mem_cons.mpr ⟨lw_p31, fun _ h => absurd h List.not_mem_nil⟩⟩⟩⟩⟩⟩⟩⟩⟩⟩⟩⟩⟩⟩⟩⟩
theorem lw_p32 : lw_okq (⟨"VariantParser", "checkFinished", "()V"⟩, 5) := ⟨⟨by decide +kernel, by decide +kernel⟩, List.mem_of_getElem? (i := 24) (by decide +kernel), List.mem_of_getElem? (i := 716) (by decide +kernel), List.mem_of_getElem? (i := 717) (by decide +kernel)⟩
theorem lw_p33 : lw_okq (⟨"VariantParser", "sumOfGroups", "()I"⟩, 5) := ⟨⟨by decide +kernel, by decide +kernel⟩, List.mem_of_getElem? (i := 24) (by decide +kernel), List.mem_of_getElem? (i := 749) (by decide +kernel), List.mem_of_getElem? (i := 750) (by decide +kernel)⟩
theorem lw_p34 : lw_okq (⟨"VariantParser", "checkNoError", "(I)V"⟩, 5) := ⟨⟨by decide +kernel, by decide +kernel⟩, List.mem_of_getElem? (i := 24) (by decide +kernel), List.mem_of_getElem? (i := 779) (by decide +kernel), List.mem_of_getElem? (i := 780) (by decide +kernel)⟩
theorem lw_p35 : lw_okq (⟨"VariantParser", "isFirstOfItsBehaviour", "(I)Z"⟩, 5) := ⟨⟨by decide +kernel, by decide +kernel⟩, List.mem_of_getElem? (i := 24) (by decide +kernel), List.mem_of_getElem? (i := 822) (by decide +kernel), List.mem_of_getElem? (i := 823) (by decide +kernel)⟩
theorem lw_p36 : lw_okq (⟨"VariantParserModel", "no", "(I)I"⟩, 15) := ⟨⟨by decide +kernel, by decide +kernel⟩, List.mem_of_getElem? (i := 831) (by decide +kernel), List.mem_of_getElem? (i := 953) (by decide +kernel), List.mem_of_getElem? (i := 954) (by decide +kernel)⟩
theorem lw_p37 : lw_okq (⟨"VariantParserModel", "append", "(I)I"⟩, 15) := ⟨⟨by decide +kernel, by decide +kernel⟩, List.mem_of_getElem? (i := 831) (by decide +kernel), List.mem_of_getElem? (i := 957) (by decide +kernel), List.mem_of_getElem? (i := 958) (by decide +kernel)⟩
theorem lw_p38 : lw_okq (⟨"VariantParserModel", "openCount", "()I"⟩, 15) := ⟨⟨by decide +kernel, by decide +kernel⟩, List.mem_of_getElem? (i := 831) (by decide +kernel), List.mem_of_getElem? (i := 971) (by decide +kernel), List.mem_of_getElem? (i := 972) (by decide +kernel)⟩
theorem lw_p39 : lw_okq (⟨"VariantParserModel", "whenOf", "(I)I"⟩, 15) := ⟨⟨by decide +kernel, by decide +kernel⟩, List.mem_of_getElem? (i := 831) (by decide +kernel), List.mem_of_getElem? (i := 979) (by decide +kernel), List.mem_of_getElem? (i := 980) (by decide +kernel)⟩
theorem lw_p40 : lw_okq (⟨"VariantParserModel", "hasOtherwise", "(I)Z"⟩, 15) := ⟨⟨by decide +kernel, by decide +kernel⟩, List.mem_of_getElem? (i := 831) (by decide +kernel), List.mem_of_getElem? (i := 983) (by decide +kernel), List.mem_of_getElem? (i := 984) (by decide +kernel)⟩
theorem lw_p41 : lw_okq (⟨"VariantParserModel", "isItem", "(I)Z"⟩, 15) := ⟨⟨by decide +kernel, by decide +kernel⟩, List.mem_of_getElem? (i := 831) (by decide +kernel), List.mem_of_getElem? (i := 1003) (by decide +kernel), List.mem_of_getElem? (i := 1004) (by decide +kernel)⟩
theorem lw_p42 : lw_okq (⟨"VariantParserModel", "isToken", "(I)Z"⟩, 15) := ⟨⟨by decide +kernel, by decide +kernel⟩, List.mem_of_getElem? (i := 831) (by decide +kernel), List.mem_of_getElem? (i := 1007) (by decide +kernel), List.mem_of_getElem? (i := 1008) (by decide +kernel)⟩
theorem lw_p43 : lw_okq (⟨"VariantParserModel", "look", "()V"⟩, 15) := ⟨⟨by decide +kernel, by decide +kernel⟩, List.mem_of_getElem? (i := 831) (by decide +kernel), List.mem_of_getElem? (i := 1027) (by decide +kernel), List.mem_of_getElem? (i := 1028) (by decide +kernel)⟩
theorem lw_p44 : lw_okq (⟨"VariantParserModel", "lengthOf", "(I)I"⟩, 15) := ⟨⟨by decide +kernel, by decide +kernel⟩, List.mem_of_getElem? (i := 831) (by decide +kernel), List.mem_of_getElem? (i := 1054) (by decide +kernel), List.mem_of_getElem? (i := 1055) (by decide +kernel)⟩
theorem lw_p45 : lw_okq (⟨"VariantParserModel", "find", "(II)I"⟩, 15) := ⟨⟨by decide +kernel, by decide +kernel⟩, List.mem_of_getElem? (i := 831) (by decide +kernel), List.mem_of_getElem? (i := 1062) (by decide +kernel), List.mem_of_getElem? (i := 1063) (by decide +kernel)⟩
theorem lw_p46 : lw_okq (⟨"VariantParserModel", "areSame", "(II)Z"⟩, 15) := ⟨⟨by decide +kernel, by decide +kernel⟩, List.mem_of_getElem? (i := 831) (by decide +kernel), List.mem_of_getElem? (i := 1070) (by decide +kernel), List.mem_of_getElem? (i := 1071) (by decide +kernel)⟩
theorem lw_p47 : lw_okq (⟨"VariantParserModel", "isWhole", "()Z"⟩, 15) := ⟨⟨by decide +kernel, by decide +kernel⟩, List.mem_of_getElem? (i := 831) (by decide +kernel), List.mem_of_getElem? (i := 1078) (by decide +kernel), List.mem_of_getElem? (i := 1079) (by decide +kernel)⟩
def lw_privs_3 : List (MethodName × Nat) := [(⟨"VariantParser", "checkFinished", "()V"⟩, 5), (⟨"VariantParser", "sumOfGroups", "()I"⟩, 5), (⟨"VariantParser", "checkNoError", "(I)V"⟩, 5), (⟨"VariantParser", "isFirstOfItsBehaviour", "(I)Z"⟩, 5), (⟨"VariantParserModel", "no", "(I)I"⟩, 15), (⟨"VariantParserModel", "append", "(I)I"⟩, 15), (⟨"VariantParserModel", "openCount", "()I"⟩, 15), (⟨"VariantParserModel", "whenOf", "(I)I"⟩, 15), (⟨"VariantParserModel", "hasOtherwise", "(I)Z"⟩, 15), (⟨"VariantParserModel", "isItem", "(I)Z"⟩, 15), (⟨"VariantParserModel", "isToken", "(I)Z"⟩, 15), (⟨"VariantParserModel", "look", "()V"⟩, 15), (⟨"VariantParserModel", "lengthOf", "(I)I"⟩, 15), (⟨"VariantParserModel", "find", "(II)I"⟩, 15), (⟨"VariantParserModel", "areSame", "(II)Z"⟩, 15), (⟨"VariantParserModel", "isWhole", "()Z"⟩, 15)]
theorem lw_r3 : ∀ q ∈ lw_privs_3, lw_okq q := List.forall_mem_cons.mpr ⟨lw_p32, List.forall_mem_cons.mpr ⟨lw_p33, List.forall_mem_cons.mpr ⟨lw_p34, List.forall_mem_cons.mpr ⟨lw_p35, List.forall_mem_cons.mpr ⟨lw_p36, List.forall_mem_cons.mpr ⟨lw_p37, List.forall_mem_cons.mpr ⟨lw_p38, List.forall_mem_cons.mpr ⟨lw_p39, List.forall_mem_cons.mpr ⟨lw_p40, List.forall_mem_cons.mpr ⟨lw_p41, List.forall_mem_cons.mpr ⟨lw_p42, List.forall_mem_cons.mpr ⟨lw_p43, List.forall_mem_cons.mpr ⟨lw_p44, List.forall_mem_cons.mpr ⟨lw_p45, List.forall_mem_cons.mpr ⟨lw_p46, List.forall_mem_cons.mpr ⟨lw_p47, fun _ h => absurd h List.not_mem_nil⟩⟩⟩⟩⟩⟩⟩⟩⟩⟩⟩⟩⟩⟩⟩⟩
theorem lw_p48 : lw_okq (⟨"VariantParserModel", "read", "()V"⟩, 15) := ⟨⟨by decide +kernel, by decide +kernel⟩, List.mem_of_getElem? (i := 831) (by decide +kernel), List.mem_of_getElem? (i := 1082) (by decide +kernel), List.mem_of_getElem? (i := 1083) (by decide +kernel)⟩
theorem lw_p49 : lw_okq (⟨"VariantParserModel", "push", "(II)V"⟩, 15) := ⟨⟨by decide +kernel, by decide +kernel⟩, List.mem_of_getElem? (i := 831) (by decide +kernel), List.mem_of_getElem? (i := 1086) (by decide +kernel), List.mem_of_getElem? (i := 1087) (by decide +kernel)⟩
theorem lw_p50 : lw_okq (⟨"VariantParserModel", "countGroups", "(I)I"⟩, 15) := ⟨⟨by decide +kernel, by decide +kernel⟩, List.mem_of_getElem? (i := 831) (by decide +kernel), List.mem_of_getElem? (i := 1090) (by decide +kernel), List.mem_of_getElem? (i := 1091) (by decide +kernel)⟩
theorem lw_p51 : lw_okq (⟨"VariantParserModel", "areLike", "(II)Z"⟩, 15) := ⟨⟨by decide +kernel, by decide +kernel⟩, List.mem_of_getElem? (i := 831) (by decide +kernel), List.mem_of_getElem? (i := 1094) (by decide +kernel), List.mem_of_getElem? (i := 1095) (by decide +kernel)⟩
theorem lw_p52 : lw_okq (⟨"VariantParserModel", "readOne", "(II)Z"⟩, 15) := ⟨⟨by decide +kernel, by decide +kernel⟩, List.mem_of_getElem? (i := 831) (by decide +kernel), List.mem_of_getElem? (i := 1098) (by decide +kernel), List.mem_of_getElem? (i := 1099) (by decide +kernel)⟩
theorem lw_p53 : lw_okq (⟨"VariantParserModel", "expand", "(II)Z"⟩, 15) := ⟨⟨by decide +kernel, by decide +kernel⟩, List.mem_of_getElem? (i := 831) (by decide +kernel), List.mem_of_getElem? (i := 1102) (by decide +kernel), List.mem_of_getElem? (i := 1103) (by decide +kernel)⟩
theorem lw_p54 : lw_okq (⟨"VariantParserModel", "expandStatement", "(II)Z"⟩, 15) := ⟨⟨by decide +kernel, by decide +kernel⟩, List.mem_of_getElem? (i := 831) (by decide +kernel), List.mem_of_getElem? (i := 1112) (by decide +kernel), List.mem_of_getElem? (i := 1113) (by decide +kernel)⟩
theorem lw_p55 : lw_okq (⟨"VariantParserModel", "expandFactor", "(II)Z"⟩, 15) := ⟨⟨by decide +kernel, by decide +kernel⟩, List.mem_of_getElem? (i := 831) (by decide +kernel), List.mem_of_getElem? (i := 1116) (by decide +kernel), List.mem_of_getElem? (i := 1117) (by decide +kernel)⟩
theorem lw_p56 : lw_okq (⟨"VariantParserModel", "sumOfGroups", "()I"⟩, 15) := ⟨⟨by decide +kernel, by decide +kernel⟩, List.mem_of_getElem? (i := 831) (by decide +kernel), List.mem_of_getElem? (i := 1136) (by decide +kernel), List.mem_of_getElem? (i := 1137) (by decide +kernel)⟩
theorem lw_p57 : lw_okq (⟨"VariantParserModel", "asks", "(I)Z"⟩, 15) := ⟨⟨by decide +kernel, by decide +kernel⟩, List.mem_of_getElem? (i := 831) (by decide +kernel), List.mem_of_getElem? (i := 1152) (by decide +kernel), List.mem_of_getElem? (i := 1153) (by decide +kernel)⟩
theorem lw_p58 : lw_okq (⟨"VariantParserModel", "run", "(I)V"⟩, 15) := ⟨⟨by decide +kernel, by decide +kernel⟩, List.mem_of_getElem? (i := 831) (by decide +kernel), List.mem_of_getElem? (i := 1156) (by decide +kernel), List.mem_of_getElem? (i := 1157) (by decide +kernel)⟩
theorem lw_p59 : lw_okq (⟨"VariantParserModel", "statement", "(Z)V"⟩, 15) := ⟨⟨by decide +kernel, by decide +kernel⟩, List.mem_of_getElem? (i := 831) (by decide +kernel), List.mem_of_getElem? (i := 1160) (by decide +kernel), List.mem_of_getElem? (i := 1161) (by decide +kernel)⟩
theorem lw_p60 : lw_okq (⟨"VariantParserModel", "expression", "()I"⟩, 15) := ⟨⟨by decide +kernel, by decide +kernel⟩, List.mem_of_getElem? (i := 831) (by decide +kernel), List.mem_of_getElem? (i := 1164) (by decide +kernel), List.mem_of_getElem? (i := 1165) (by decide +kernel)⟩
theorem lw_p61 : lw_okq (⟨"VariantParserModel", "term", "()I"⟩, 15) := ⟨⟨by decide +kernel, by decide +kernel⟩, List.mem_of_getElem? (i := 831) (by decide +kernel), List.mem_of_getElem? (i := 1168) (by decide +kernel), List.mem_of_getElem? (i := 1169) (by decide +kernel)⟩
theorem lw_p62 : lw_okq (⟨"VariantParserModel", "factor", "()I"⟩, 15) := ⟨⟨by decide +kernel, by decide +kernel⟩, List.mem_of_getElem? (i := 831) (by decide +kernel), List.mem_of_getElem? (i := 1172) (by decide +kernel), List.mem_of_getElem? (i := 1173) (by decide +kernel)⟩
theorem lw_p63 : lw_okq (⟨"VariantParserModel", "passes", "(I)Z"⟩, 15) := ⟨⟨by decide +kernel, by decide +kernel⟩, List.mem_of_getElem? (i := 831) (by decide +kernel), List.mem_of_getElem? (i := 1176) (by decide +kernel), List.mem_of_getElem? (i := 1177) (by decide +kernel)⟩
def lw_privs_4 : List (MethodName × Nat) := [(⟨"VariantParserModel", "read", "()V"⟩, 15), (⟨"VariantParserModel", "push", "(II)V"⟩, 15), (⟨"VariantParserModel", "countGroups", "(I)I"⟩, 15), (⟨"VariantParserModel", "areLike", "(II)Z"⟩, 15), (⟨"VariantParserModel", "readOne", "(II)Z"⟩, 15), (⟨"VariantParserModel", "expand", "(II)Z"⟩, 15), (⟨"VariantParserModel", "expandStatement", "(II)Z"⟩, 15), (⟨"VariantParserModel", "expandFactor", "(II)Z"⟩, 15), (⟨"VariantParserModel", "sumOfGroups", "()I"⟩, 15), (⟨"VariantParserModel", "asks", "(I)Z"⟩, 15), (⟨"VariantParserModel", "run", "(I)V"⟩, 15), (⟨"VariantParserModel", "statement", "(Z)V"⟩, 15), (⟨"VariantParserModel", "expression", "()I"⟩, 15), (⟨"VariantParserModel", "term", "()I"⟩, 15), (⟨"VariantParserModel", "factor", "()I"⟩, 15), (⟨"VariantParserModel", "passes", "(I)Z"⟩, 15)]
theorem lw_r4 : ∀ q ∈ lw_privs_4, lw_okq q := List.forall_mem_cons.mpr ⟨lw_p48, List.forall_mem_cons.mpr ⟨lw_p49, List.forall_mem_cons.mpr ⟨lw_p50, List.forall_mem_cons.mpr ⟨lw_p51, List.forall_mem_cons.mpr ⟨lw_p52, List.forall_mem_cons.mpr ⟨lw_p53, List.forall_mem_cons.mpr ⟨lw_p54, List.forall_mem_cons.mpr ⟨lw_p55, List.forall_mem_cons.mpr ⟨lw_p56, List.forall_mem_cons.mpr ⟨lw_p57, List.forall_mem_cons.mpr ⟨lw_p58, List.forall_mem_cons.mpr ⟨lw_p59, List.forall_mem_cons.mpr ⟨lw_p60, List.forall_mem_cons.mpr ⟨lw_p61, List.forall_mem_cons.mpr ⟨lw_p62, List.forall_mem_cons.mpr ⟨lw_p63, fun _ h => absurd h List.not_mem_nil⟩⟩⟩⟩⟩⟩⟩⟩⟩⟩⟩⟩⟩⟩⟩⟩
def lw_privs : List (MethodName × Nat) := lw_privs_1 ++ (lw_privs_2 ++ (lw_privs_3 ++ (lw_privs_4)))
def lw_tbl : List Cond := k2_sels lw_privs ++ tables_1
theorem lw_privs_ok : ∀ q ∈ lw_privs, lw_okq q := by
  show ∀ q ∈ lw_privs_1 ++ (lw_privs_2 ++ (lw_privs_3 ++ (lw_privs_4))), lw_okq q
  exact List.forall_mem_append.mpr ⟨lw_r1, List.forall_mem_append.mpr ⟨lw_r2, List.forall_mem_append.mpr ⟨lw_r3, lw_r4⟩⟩⟩
/-- the streams that the claim lets the run draw from -/
abbrev lw_cs : List Choice := [Jvm.Choice.named "NaN.bits"]
theorem lw_bits : nanBits ∈ lw_cs := by first | decide | exact List.mem_cons_self | simp [lw_cs, nanBits]
-- ===== end of PART A; then your names; then what follows =====
end
section
/-! ===== BEGIN words of one list among another's, by their places ===== -/
theorem goodIn_r {big : List Cond} (ws : List Cond) (ps : List Nat) (hp : ws = ps.filterMap (fun i => big[i]?)) (h : ws.all goodWord = true) : GoodIn big ws := by
  intro w hw
  have h1 := List.all_eq_true.mp h w hw
  rw [hp] at hw
  obtain ⟨i, -, hi⟩ := List.mem_filterMap.mp hw
  have hm : w ∈ big := by first | exact List.mem_of_getElem? hi | exact List.getElem?_mem hi
  exact ⟨hm, good_of_word h1⟩
theorem goodIn_app {big a b : List Cond} (ha : GoodIn big a) (hb : GoodIn big b) : GoodIn big (a ++ b) := fun w h => (List.mem_append.mp h).elim (ha w) (hb w)
theorem goodIn_ca {big a b : List Cond} {c : Cond} (ha : GoodIn big (c :: a)) (hb : GoodIn big b) : GoodIn big (c :: (a ++ b)) := fun w h => (List.mem_cons.mp h).elim (fun e => ha w (List.mem_cons.mpr (Or.inl e))) (fun h => (List.mem_append.mp h).elim (fun h => ha w (List.mem_cons.mpr (Or.inr h))) (hb w))
theorem goodIn_sub {big ws : List Cond} (hm : ∀ w ∈ ws, w ∈ big) (h : ws.all goodWord = true) : GoodIn big ws := fun w hw => ⟨hm w hw, good_of_word (List.all_eq_true.mp h w hw)⟩
/-! ===== END ===== -/
/-! ===== BEGIN exceptions that leave a method, and their catching by the caller (launches without stack traces) ===== -/
section VXA
/-! The laws vx_back, vx_callV, vx_callS, vx_callSW, vx_throw0, vx_throwS follow proofs of the library, with one case more: JvmDerived/Free/Laws.lean (Back.of_free), Shelf42/LK1.lean (callV, callS), Shelf/KitTraced.lean (throwNew0V, throwNewS). -/
/-- where a method has thrown q: the class by its name, the cell, what was written, the world -/
def vx_T (XC : String → State → State → Prop) (st : State) (q : Addr) (t : State) (mc ms : Nat) (free : Addr → Prop) : Prop :=
  ∃ (E : String) (ce : Cell) (L : List Loc), XC E st t ∧ t.heap[q]? = some ce ∧ ce.vm = .none ∧ st.vm.findClass E = some ce.cls ∧ st.WarmedH t.vm ∧ st.sameButNew ({ t with vm := st.vm } : State) L mc ms ∧ ∀ z ∈ L, free z.base
def vx_Q (Qc : Array Value → State → Outcome → State → Prop) (XC : String → State → State → Prop) (mc ms : Nat) (free : Addr → Prop) : Array Value → State → Outcome → State → Prop := fun a st o t =>
  (Qc a st o t ∧ ∃ L, FrameEnd st o t L mc ms ∧ ∀ q ∈ L, free q.base) ∨ ∃ q, o = .threw q ∧ vx_T XC st q t mc ms free
/-- a callee that returns or throws -/
def vx_Met (l : Launch) (y : MethodName) (ws : List Cond) (rm : Room) (Pc : Array Value → State → Prop) (Qc : Array Value → State → Outcome → State → Prop) (XC : String → State → State → Prop) (mc ms : Nat) (free : Addr → Prop) : Prop :=
  MetFree l y (headSpec ws rm) Pc (fun _ _ _ _ _ => True) (vx_Q Qc XC mc ms free)
def vx_Post (XC : String → State → State → Prop) (mc ms : Nat) (free : Addr → Prop) : Pt → Array Value → Addr → Pt → Prop := fun A a q B =>
  ∃ (g : JFrame) (mk : MethodId) (t : State) (L : List Loc) (E : String) (ce : Cell), B.U.heap = t.heap ∧ B.U.vm = t.vm ∧ XC E (A.U.calling g mk a) t ∧ t.heap[q]? = some ce ∧ ce.vm = .none ∧ A.U.vm.findClass E = some ce.cls ∧ B.locs = A.locs ++ L ∧ (∀ z ∈ L, free z.base) ∧ B.cells = A.cells + mc ∧ B.slots = A.slots + ms
def vx_Back (l : Launch) (R : Room) (p : Program) (e : Env) (below : List Frame) (s : State) (sargs : Array Value) (y : MethodName) (len W9 : Nat)
    (Pre : Pt → Array Value → Prop) (Post : Pt → Array Value → Option Value → Pt → Prop) (PostX : Pt → Array Value → Addr → Pt → Prop) : Prop :=
  ∀ (m : MethodId) (meth : Method) (c : Code) (A : Pt) (g : JFrame) (ig : Instr) (mk : MethodId) (a : Array Value),
    Stand p l e R s m sargs below meth c A.U A.locs A.cells A.slots → g.method = m → g.locals.size = c.maxLocals → decode c.code g.pc = .ok (ig, len) →
    2 * g.monitorRoom + (g.stack.map fun v => v.category).sum ≤ W9 → A.U.methodNamed? y = some mk → Pre A a →
    (∃ (v : Option Value) (B : Pt), Stand p l e R s m sargs below meth c B.U B.locs B.cells B.slots ∧ Post A a v B ∧
      Steps p.tables e below (doInvoke e (A.U.setTop g) [] mk a).1 (B.U.setTop { g with pc := g.pc + len, stack := v.toList ++ g.stack })) ∨
    (∃ (q : Addr) (B : Pt), Stand p l e R s m sargs below meth c B.U B.locs B.cells B.slots ∧ PostX A a q B ∧
      Steps p.tables e below (doInvoke e (A.U.setTop g) [] mk a).1 ((B.U.setTop g).pushFrame (.throwing q)))
section Payer
variable {l : Launch} {R : Room} {p : Program} {e : Env} {below : List Frame} {s : State} {sargs : Array Value} {y : MethodName} {len W9 : Nat}
theorem vx_back {ws : List Cond} {rm : Room} {Pc : Array Value → State → Prop} {Qc : Array Value → State → Outcome → State → Prop} {XC : String → State → State → Prop} {mc ms : Nat} {free : Addr → Prop} {bytes : ByteArray} {maxL : Nat} {ret : Option FieldType}
    (hM : vx_Met l y ws rm Pc Qc XC mc ms free) (hblind : FrameBlind Pc) (hrc : rm.cells = mc) (hrs : rm.slots = ms)
    (hframes : rm.frames + 1 ≤ R.frames) (hlocals : W9 + (maxL + 11) + rm.locals ≤ R.locals)
    (hws : ∀ w ∈ ws, ∀ a' U, s.WarmedH U.vm → w.before a' U = true) (hcode : Cond.code y bytes maxL ret ∈ ws) (hinit : ∀ a' U, s.WarmedH U.vm → (Cond.initialized y.cls).before a' U = true) :
    vx_Back l R p e below s sargs y len W9 (PreOf R mc ms Pc) (PostOf Qc mc ms free) (vx_Post XC mc ms free) := by
  intro m meth c A g ig mk a X hg hsize hdg hW hn hp
  have h1 : (headSpec ws rm).pre.before a A.U = true := atoms_intro fun w hw => hws w hw _ _ X.warmed
  have h2 : (Cond.code y bytes maxL ret).before a A.U = true := hws _ hcode _ _ X.warmed
  have h3 : (Cond.initialized y.cls).before a A.U = true := hinit _ _ X.warmed
  have h4 : A.cells + (headSpec ws rm).room.cells ≤ R.cells := by rw [show (headSpec ws rm).room.cells = mc from hrc]; exact hp.1
  have h5 : A.slots + (headSpec ws rm).room.slots ≤ R.slots := by rw [show (headSpec ws rm).room.slots = ms from hrs]; exact hp.2.1
  have hPc : Pc a (A.U.calling g mk a) := hblind _ _ _ _ hp.2.2
  obtain ⟨U, Ls, c0, s0⟩ := A
  dsimp only [Pt.U, Pt.locs, Pt.cells, Pt.slots] at h1 h2 h3 h4 h5 X hn hPc ⊢
  obtain ⟨methY, cY, hmY, hcY, -, hlY, -, -, -, -⟩ := Cond.code_spec hn h2
  obtain ⟨kY, hkY, -⟩ := className_of_methodNamed hn
  have hinitY : kY.init = .initialized := Cond.initialized_spec (findClass_of_methodNamed hn) hkY h3
  have h : At U g.method c below := by rw [hg]; exact X.here
  have hlocals9 : W9 + (maxL + 11) + (headSpec ws rm).room.locals ≤ R.locals := hlocals
  have happ : (headSpec ws rm).appliesLoose y e.platform (U.calling g mk a) = true :=
    Spec.appliesLoose_calling (g := g) h hdg hn hkY hinitY
      (X.room_calling (g := g) (R' := (headSpec ws rm).room) hsize hmY hcY hframes (by rw [hlY]; omega) h4 h5) h1
  obtain ⟨mid, hmid⟩ := h.above
  have hfr : (U.setTop g).frames = (.java g :: mid) ++ below := by rw [State.frames_setTop' g h.top, hmid]; rfl
  obtain ⟨o, s₂, hsteps, -, hend, hq⟩ := Steps.callFree hM p X.admits X.cas X.clock (acts := []) hfr happ hPc trivial
  have hq' : vx_Q Qc XC mc ms free a (U.calling g mk a) o s₂ := hq
  rw [State.frames_setTop' g h.top] at hend
  obtain ⟨g₀, hg0⟩ := Option.isSome_iff_exists.mp h.top
  obtain ⟨r, hr⟩ := State.topJava?_eq_some.mp hg0
  have hr' : (({ U with heap := s₂.heap, slotsUsed := s₂.slotsUsed } : State).setVm s₂.vm).frames = .java g₀ :: r := hr
  rcases hq' with ⟨hqc, L, hfe, hL⟩ | ⟨q, rfl, E, ce, L, hx, hce, hcv, hcl, hW₂, hsm, hL⟩
  · obtain ⟨⟨v, rfl⟩, hW₂, e2, q2, q3, q4, q5, q6⟩ := id hfe
    have e3 : s₂ = ({ (U.calling g mk a).setFrames s₂.frames with heap := s₂.heap, slotsUsed := s₂.slotsUsed } : State).setVm s₂.vm := by
      have : s₂ = ({ s₂ with vm := (U.calling g mk a).vm } : State).setVm s₂.vm := rfl
      rw [e2] at this
      exact this
    obtain ⟨c₂, i₂, len₂, hc₂, hd₂, hf₂⟩ := hend
    have hW' : U.WarmedH s₂.vm := hW₂
    have hcc : c₂ = c := by
      have h1 : s₂.code? g.method = U.code? g.method := by
        rw [State.code?_eq, State.code?_eq, hW'.alike.method?]
      exact Option.some.inj (hc₂.symm.trans (h1.trans h.code))
    subst hcc
    have hlen : len₂ = len := by rw [hdg] at hd₂; cases hd₂; rfl
    subst hlen
    have hs₂ : s₂ = (({ U with heap := s₂.heap, slotsUsed := s₂.slotsUsed } : State).setVm s₂.vm).setTop { g with pc := g.pc + len₂, stack := v.toList ++ g.stack } := by
      refine e3.trans ?_
      rw [hf₂, State.calling_eq h.top, State.setFrames_setFrames, State.setTop_of_frames _ hr', hr]
      rfl
    have hsame : U.sameButNew ({ U with heap := s₂.heap, slotsUsed := s₂.slotsUsed } : State) L mc ms := by
      refine ⟨?_, q2, q3, q4, q5, q6⟩
      obtain ⟨t, ht, -⟩ := State.frames_cons hr
      show ({ U with heap := s₂.heap, slotsUsed := s₂.slotsUsed } : State) = { U.setFrames U.frames with heap := s₂.heap, slotsUsed := s₂.slotsUsed }
      rw [State.setFrames_self ht]
    subst hg
    refine Or.inl ⟨v, ⟨(({ U with heap := s₂.heap, slotsUsed := s₂.slotsUsed } : State).setVm s₂.vm), Ls ++ L, c0 + mc, s0 + ms⟩,
      ⟨X.admits, X.cas, X.clock, X.frames, X.room, X.hears, X.method, X.code, (X.here.setHeapUsed s₂.heap s₂.slotsUsed).setVm hW'.alike, X.tail, State.WarmedH.trans X.warmed hW', X.limits, X.bytes, X.same.trans (hsame.setVm s.vm)⟩,
      ⟨g, mk, s₂, L, rfl, rfl, hqc, rfl, hL, rfl, rfl⟩, ?_⟩
    show Steps p.tables e below _ ((({ U with heap := s₂.heap, slotsUsed := s₂.slotsUsed } : State).setVm s₂.vm).setTop { g with pc := g.pc + len₂, stack := v.toList ++ g.stack })
    rw [← hs₂]
    exact hsteps
  · obtain ⟨e2, q2, q3, q4, q5, q6⟩ := id hsm
    have e3 : s₂ = ({ (U.calling g mk a).setFrames s₂.frames with heap := s₂.heap, slotsUsed := s₂.slotsUsed } : State).setVm s₂.vm := by
      have : s₂ = ({ s₂ with vm := (U.calling g mk a).vm } : State).setVm s₂.vm := rfl
      rw [e2] at this
      exact this
    have hf₂ : s₂.frames = .throwing q :: .java g :: U.frames.tail := hend
    have hW' : U.WarmedH s₂.vm := hW₂
    have hs₂ : s₂ = ((({ U with heap := s₂.heap, slotsUsed := s₂.slotsUsed } : State).setVm s₂.vm).setTop g).pushFrame (.throwing q) := by
      refine e3.trans ?_
      rw [hf₂, State.calling_eq h.top, State.setFrames_setFrames, State.pushFrame, State.frames_setTop _ hr', State.setTop_of_frames _ hr', State.setFrames_setFrames, hr]
      rfl
    have hsame : U.sameButNew ({ U with heap := s₂.heap, slotsUsed := s₂.slotsUsed } : State) L mc ms := by
      refine ⟨?_, q2, q3, q4, q5, q6⟩
      obtain ⟨t, ht, -⟩ := State.frames_cons hr
      show ({ U with heap := s₂.heap, slotsUsed := s₂.slotsUsed } : State) = { U.setFrames U.frames with heap := s₂.heap, slotsUsed := s₂.slotsUsed }
      rw [State.setFrames_self ht]
    subst hg
    refine Or.inr ⟨q, ⟨(({ U with heap := s₂.heap, slotsUsed := s₂.slotsUsed } : State).setVm s₂.vm), Ls ++ L, c0 + mc, s0 + ms⟩,
      ⟨X.admits, X.cas, X.clock, X.frames, X.room, X.hears, X.method, X.code, (X.here.setHeapUsed s₂.heap s₂.slotsUsed).setVm hW'.alike, X.tail, State.WarmedH.trans X.warmed hW', X.limits, X.bytes, X.same.trans (hsame.setVm s.vm)⟩,
      ⟨g, mk, s₂, L, E, ce, rfl, rfl, hx, hce, hcv, hcl, rfl, hL, rfl, rfl⟩, ?_⟩
    show Steps p.tables e below _ (((({ U with heap := s₂.heap, slotsUsed := s₂.slotsUsed } : State).setVm s₂.vm).setTop g).pushFrame (.throwing q))
    rw [← hs₂]
    exact hsteps
end Payer
section Calls
variable {p : Program} {l : Launch} {e : Env} {R : Room} {s : State} {m : MethodId} {args : Array Value} {below : List Frame} {meth : Method} {c : Code} {T : State} {locs : List Loc} {cells slots : Nat}
theorem vx_callV (X : Stand p l e R s m args below meth c T locs cells slots) (hexec : p.tables.exec = Jvm.exec) {own C : String} {index : Nat} {y : MethodName} {bytes : ByteArray} {maxL : Nat} {ret : Option FieldType}
    (hown : s.vm.findClass own = some m.cls) (hlink : (Cond.methodLink own index y).before args s = true) (hinst : (Cond.instanceMethod y).before args s = true) (hsel : (Cond.selects C y y).before args s = true)
    (hcode : (Cond.code y bytes maxL ret).before args s = true) (hy : y.cls ≠ "java/lang/invoke/MethodHandle" ∧ y.cls ≠ "java/lang/invoke/VarHandle")
    {W9 : Nat} {Pre : Pt → Array Value → Prop} {Post : Pt → Array Value → Option Value → Pt → Prop} {PostX : Pt → Array Value → Addr → Pt → Prop} (hK : vx_Back l R p e below s args y 3 W9 Pre Post PostX)
    {b : Addr} {cellB : Cell} (hcell : T.heap[b]? = some cellB) (hobj : cellB.vm.isStatics = false) (hcls : s.vm.findClass C = some cellB.cls)
    {g : JFrame} (hg : g.method = m) (hsize : g.locals.size = c.maxLocals) {argsL rest : List Value} (hlen : ∀ sig, parseMethodDescriptor y.desc = some sig → argsL.length = sig.parameters.length)
    (hstack : g.stack = argsL.reverse ++ .ref b :: rest) (hW : 2 * g.monitorRoom + (rest.map fun v => v.category).sum ≤ W9) (hdg : decode c.code g.pc = .ok (.invokevirtual index, 3))
    (hpre : ∀ vm₁, s.WarmedH vm₁ → Pre ⟨T.setVm vm₁, locs, cells, slots⟩ (Value.ref b :: argsL).toArray) :
    (∃ (v : Option Value) (vm₁ : Vm) (B : Pt), s.WarmedH vm₁ ∧ Stand p l e R s m args below meth c B.U B.locs B.cells B.slots ∧ Post ⟨T.setVm vm₁, locs, cells, slots⟩ (Value.ref b :: argsL).toArray v B ∧
      ∀ target, Steps p.tables e below (B.U.setTop { g with pc := g.pc + 3, stack := v.toList ++ rest }) target → Steps p.tables e below (T.setTop g) target) ∨
    (∃ (q : Addr) (vm₁ : Vm) (B : Pt), s.WarmedH vm₁ ∧ Stand p l e R s m args below meth c B.U B.locs B.cells B.slots ∧ PostX ⟨T.setVm vm₁, locs, cells, slots⟩ (Value.ref b :: argsL).toArray q B ∧
      Steps p.tables e below (T.setTop g) ((B.U.setTop { g with stack := rest }).pushFrame (.throwing q))) := by
  obtain ⟨mk, methM, hnamed, hmethM, hstM, habM⟩ := Cond.instanceMethod_spec hinst
  obtain ⟨methM', cM, hmethM', -, -, -, -, -, -, hsigM⟩ := Cond.code_spec hnamed hcode
  cases hmethM.symm.trans hmethM'
  obtain ⟨c2, r2, m2, q1, q2, q3, q4, kP, hkP, hkPi⟩ := Cond.selects_spec hsel
  cases hcls.symm.trans q1
  cases (State.methodFound?_of_named hnamed hy).symm.trans q2
  cases hnamed.symm.trans q3
  have hselP : selectMethod e.platform s.vm cellB.cls mk = .method mk := by rw [Launch.admits_selectMethod X.admits]; exact q4
  obtain ⟨vm₁, X₁, hstep₁⟩ := X.invokevirtual hexec hown hlink hnamed hmethM hstM hkP hkPi hy (a := b) (cell := cellB) hcell
    (fun z h => by rw [h] at hobj; cases hobj) hselP hmethM habM hkP hkPi (g := g) hg (argsL := argsL) (rest := rest) (hlen _ hsigM) hstack hdg
  rcases hK m meth c ⟨T.setVm vm₁, locs, cells, slots⟩ { g with stack := rest } (.invokevirtual index) mk (Value.ref b :: argsL).toArray X₁ hg hsize hdg hW (X₁.named hnamed) (hpre vm₁ X₁.warmed) with ⟨v, B, X', hpost, hsteps⟩ | ⟨q, B, X', hpost, hsteps⟩
  · exact Or.inl ⟨v, vm₁, B, X₁.warmed, X', hpost, fun target h => hstep₁ _ fun acts => by rw [doInvoke_state]; exact hsteps.trans h⟩
  · exact Or.inr ⟨q, vm₁, B, X₁.warmed, X', hpost, hstep₁ _ fun acts => by rw [doInvoke_state]; exact hsteps⟩
theorem vx_callS (X : Stand p l e R s m args below meth c T locs cells slots) (hexec : p.tables.exec = Jvm.exec) {own : String} {index : Nat} {y : MethodName} {bytes : ByteArray} {maxL : Nat} {ret : Option FieldType}
    (hown : s.vm.findClass own = some m.cls) (hlink : (Cond.methodLink own index y).before args s = true) (hstat : (Cond.static y).before args s = true) (hinit : (Cond.initialized y.cls).before args s = true)
    (hcode : (Cond.code y bytes maxL ret).before args s = true) (hy : y.cls ≠ "java/lang/invoke/MethodHandle" ∧ y.cls ≠ "java/lang/invoke/VarHandle")
    {W9 : Nat} {Pre : Pt → Array Value → Prop} {Post : Pt → Array Value → Option Value → Pt → Prop} {PostX : Pt → Array Value → Addr → Pt → Prop} (hK : vx_Back l R p e below s args y 3 W9 Pre Post PostX)
    {g : JFrame} (hg : g.method = m) (hsize : g.locals.size = c.maxLocals) {argsL rest : List Value} (hlen : ∀ sig, parseMethodDescriptor y.desc = some sig → argsL.length = sig.parameters.length)
    (hstack : g.stack = argsL.reverse ++ rest) (hW : 2 * g.monitorRoom + (rest.map fun v => v.category).sum ≤ W9) (hdg : decode c.code g.pc = .ok (.invokestatic index, 3))
    (hpre : ∀ vm₁, s.WarmedH vm₁ → Pre ⟨T.setVm vm₁, locs, cells, slots⟩ argsL.toArray) :
    (∃ (v : Option Value) (vm₁ : Vm) (B : Pt), s.WarmedH vm₁ ∧ Stand p l e R s m args below meth c B.U B.locs B.cells B.slots ∧ Post ⟨T.setVm vm₁, locs, cells, slots⟩ argsL.toArray v B ∧
      ∀ target, Steps p.tables e below (B.U.setTop { g with pc := g.pc + 3, stack := v.toList ++ rest }) target → Steps p.tables e below (T.setTop g) target) ∨
    (∃ (q : Addr) (vm₁ : Vm) (B : Pt), s.WarmedH vm₁ ∧ Stand p l e R s m args below meth c B.U B.locs B.cells B.slots ∧ PostX ⟨T.setVm vm₁, locs, cells, slots⟩ argsL.toArray q B ∧
      Steps p.tables e below (T.setTop g) ((B.U.setTop { g with stack := rest }).pushFrame (.throwing q))) := by
  obtain ⟨mk, hnamed⟩ := Cond.code_named hcode
  obtain ⟨methM, cM, hmethM, -, -, -, -, -, -, hsigM⟩ := Cond.code_spec hnamed hcode
  have hstatic : methM.isStatic = true := Cond.static_spec hnamed hmethM hstat
  obtain ⟨kP, hkP, -⟩ := className_of_methodNamed hnamed
  have hinitP : kP.init = .initialized := Cond.initialized_spec (findClass_of_methodNamed hnamed) hkP hinit
  obtain ⟨vm₁, X₁, hstep₁⟩ := X.invokestatic hexec hown hlink hnamed hmethM hstatic hkP hinitP hy (g := g) hg (argsL := argsL) (rest := rest) (hlen _ hsigM) hstack hdg
  rcases hK m meth c ⟨T.setVm vm₁, locs, cells, slots⟩ { g with stack := rest } (.invokestatic index) mk argsL.toArray X₁ hg hsize hdg hW (X₁.named hnamed) (hpre vm₁ X₁.warmed) with ⟨v, B, X', hpost, hsteps⟩ | ⟨q, B, X', hpost, hsteps⟩
  · exact Or.inl ⟨v, vm₁, B, X₁.warmed, X', hpost, fun target h => hstep₁ _ fun acts => by rw [doInvoke_state]; exact hsteps.trans h⟩
  · exact Or.inr ⟨q, vm₁, B, X₁.warmed, X', hpost, hstep₁ _ fun acts => by rw [doInvoke_state]; exact hsteps⟩
end Calls
theorem vx_cls {s : State} {T : State} {vm₁ : Vm} {E : String} {k : ClassId} (hW : s.WarmedH vm₁) (h : (T.setVm vm₁).vm.findClass E = some k) : s.vm.findClass E = some k := by
  have h1 : vm₁.findClass E = some k := h
  rw [hW.alike.findClass] at h1
  exact h1
/-- the method's frame g, with q thrown over it -/
def vx_W (p : Program) (l : Launch) (e : Env) (R : Room) (s : State) (m : MethodId) (args : Array Value) (below : List Frame) (meth : Method) (c : Code) (H : Heap) (locs : List Loc) (cells slots : Nat) (Q : State → Prop) (g : JFrame) (q : Addr) : Prop :=
  ∀ T : State, T.heap = H → Stand p l e R s m args below meth c T locs cells slots → ∃ t, Steps p.tables e below ((T.setTop g).pushFrame (.throwing q)) t ∧ Q t
def vx_Run (p : Program) (l : Launch) (e : Env) (R : Room) (s : State) (m : MethodId) (args : Array Value) (below : List Frame) (meth : Method) (c : Code) (H : Heap) (locs : List Loc) (cells slots mc ms : Nat) (g : JFrame) (rest : List Value) (Qa : State → Outcome → State → Prop) (XC : String → State → State → Prop) (free : Addr → Prop) : Prop :=
  ∀ T : State, T.heap = H → Stand p l e R s m args below meth c T locs cells slots →
    (∃ (v : Option Value) (st₀ t T' : State) (L : List Loc), st₀.heap = H ∧ Stand p l e R s m args below meth c T' (locs ++ L) (cells + mc) (slots + ms) ∧ (∀ q ∈ L, free q.base) ∧ T'.heap = t.heap ∧ T'.vm = t.vm ∧ Qa st₀ (.returned v) t ∧
      Goes p e below T g T' { g with pc := g.pc + 3, stack := v.toList ++ rest }) ∨
    (∃ (q : Addr) (st₀ t T' : State) (L : List Loc) (E : String) (ce : Cell), st₀.heap = H ∧ Stand p l e R s m args below meth c T' (locs ++ L) (cells + mc) (slots + ms) ∧ (∀ z ∈ L, free z.base) ∧ T'.heap = t.heap ∧ T'.vm = t.vm ∧ XC E st₀ t ∧ t.heap[q]? = some ce ∧ ce.vm = .none ∧ s.vm.findClass E = some ce.cls ∧
      Steps p.tables e below (T.setTop g) ((T'.setTop { g with stack := rest }).pushFrame (.throwing q)))
def vx_X {S : Type} (px : S → Prop) (B : String → S → State → Prop) (A : Nat → Prop) : String → State → State → Prop := fun E st t => ∃ u : S, px u ∧ B E u t ∧ va_F A st t
section Runs
variable {p : Program} {l : Launch} {e : Env} {R : Room} {s : State} {m : MethodId} {args : Array Value} {below : List Frame} {meth : Method} {c : Code} {H : Heap} {locs : List Loc} {cells slots : Nat}
variable {y : MethodName} {bytes cc : ByteArray} {maxL nL mc ms n index : Nat} {ret : Option FieldType} {ws : List Cond} {rm : Room} {Pc : Array Value → State → Prop} {Qc : Array Value → State → Outcome → State → Prop} {XC : String → State → State → Prop} {free : Addr → Prop} {Ts : List Cond} {own C : String} {b : Addr} {As rest : List Value} {g : JFrame}
theorem vx_callBack (cb : CallB R s args own index y bytes maxL ret ws rm mc ms n) (hM : vx_Met l y ws rm Pc Qc XC mc ms free) (hbl : FrameBlind Pc) : vx_Back l R p e below s args y 3 8 (PreOf R mc ms Pc) (PostOf Qc mc ms free) (vx_Post XC mc ms free) := by
  obtain ⟨hrc, hrs, hfr, hlo, hws, hcw, -, hini, -⟩ := cb
  exact vx_back (bytes := bytes) (maxL := maxL) (ret := ret) hM hbl hrc hrs hfr hlo hws hcw (fun a' U hW => word_at hW (Or.inl (by first | rfl | simp [Cond.onTables, Cond.keeps, Cond.steady])) hini)
theorem vx_runV (S : CallFix p m c cc nL s args Ts own) (hM : vx_Met l y ws rm Pc Qc XC mc ms free) (cw : CallW R s args own C index y bytes maxL ret ws rm mc ms n) (hp : PreV s H C b Pc As)
    (hg : g.method = m) (hn : As.length = n) (hsize : g.locals.size = nL) (hstack : g.stack = As.reverse ++ .ref b :: rest) (hW : 2 * g.monitorRoom + (rest.map fun v => v.category).sum ≤ 8) (hdg : decode cc g.pc = .ok (.invokevirtual index, 3)) (hf : cells + mc ≤ R.cells ∧ slots + ms ≤ R.slots) :
    vx_Run p l e R s m args below meth c H locs cells slots mc ms g rest (Qc (Value.ref b :: As).toArray) XC free := by
  have hK : vx_Back l R p e below s args y 3 8 (PreOf R mc ms Pc) (PostOf Qc mc ms free) (vx_Post XC mc ms free) := vx_callBack cw.1 hM hp.1
  obtain ⟨⟨-, -, -, -, -, -, hcode, -, hy, hlen, hl⟩, hin, hse⟩ := cw
  obtain ⟨hx, hb, hml, ho, -⟩ := S
  obtain ⟨-, ⟨cellB, hcB, hoB, hclB⟩, hPc⟩ := hp
  intro T hT X
  rcases vx_callV X hx (C := C) (bytes := bytes) (maxL := maxL) (ret := ret) ho hl hin hse hcode hy hK (by rw [hT]; exact hcB) hoB hclB hg (hsize.trans hml.symm) (argsL := As) (rest := rest) (fun sig h => hn.trans (hlen sig h)) hstack hW (by rw [hb]; exact hdg)
    (fun vm₁ hW₁ => ⟨hf.1, hf.2, hPc (T.setVm vm₁) hT hW₁⟩) with ⟨v, vm₁, ⟨U', l2, c2, s2⟩, hW₁, X', ⟨g', mk, t, L, e1, e2, hq, h1, hL, h2, h3⟩, st⟩ | ⟨q, vm₁, ⟨U', l2, c2, s2⟩, hW₁, X', ⟨g', mk, t, L, E, ce, e1, e2, hq, hce, hcv, hcl, h1, hL, h2, h3⟩, st⟩
  · dsimp only [Pt.U, Pt.locs, Pt.cells, Pt.slots] at X' e1 e2 h1 h2 h3 st
    subst h1; subst h2; subst h3
    exact Or.inl ⟨v, (T.setVm vm₁).calling g' mk (Value.ref b :: As).toArray, t, U', L, hT, X', hL, e1, e2, hq, st⟩
  · dsimp only [Pt.U, Pt.locs, Pt.cells, Pt.slots] at X' e1 e2 h1 h2 h3 st hcl
    subst h1; subst h2; subst h3
    exact Or.inr ⟨q, (T.setVm vm₁).calling g' mk (Value.ref b :: As).toArray, t, U', L, E, ce, hT, X', hL, e1, e2, hq, hce, hcv, vx_cls hW₁ hcl, st⟩
theorem vx_runS (S : CallFix p m c cc nL s args Ts own) (hM : vx_Met l y ws rm Pc Qc XC mc ms free) (cw : CallB R s args own index y bytes maxL ret ws rm mc ms n ∧ (Cond.static y).before args s = true) (hp : PreS s H Pc As)
    (hg : g.method = m) (hn : As.length = n) (hsize : g.locals.size = nL) (hstack : g.stack = As.reverse ++ rest) (hW : 2 * g.monitorRoom + (rest.map fun v => v.category).sum ≤ 8) (hdg : decode cc g.pc = .ok (.invokestatic index, 3)) (hf : cells + mc ≤ R.cells ∧ slots + ms ≤ R.slots) :
    vx_Run p l e R s m args below meth c H locs cells slots mc ms g rest (Qc As.toArray) XC free := by
  have hK : vx_Back l R p e below s args y 3 8 (PreOf R mc ms Pc) (PostOf Qc mc ms free) (vx_Post XC mc ms free) := vx_callBack cw.1 hM hp.1
  obtain ⟨⟨-, -, -, -, -, -, hcode, hini, hy, hlen, hl⟩, hstt⟩ := cw
  obtain ⟨hx, hb, hml, ho, -⟩ := S
  intro T hT X
  rcases vx_callS X hx (bytes := bytes) (maxL := maxL) (ret := ret) ho hl hstt hini hcode hy hK hg (hsize.trans hml.symm) (argsL := As) (rest := rest) (fun sig h => hn.trans (hlen sig h)) hstack hW (by rw [hb]; exact hdg)
    (fun vm₁ hW₁ => ⟨hf.1, hf.2, hp.2 (T.setVm vm₁) hT hW₁⟩) with ⟨v, vm₁, ⟨U', l2, c2, s2⟩, hW₁, X', ⟨g', mk, t, L, e1, e2, hq, h1, hL, h2, h3⟩, st⟩ | ⟨q, vm₁, ⟨U', l2, c2, s2⟩, hW₁, X', ⟨g', mk, t, L, E, ce, e1, e2, hq, hce, hcv, hcl, h1, hL, h2, h3⟩, st⟩
  · dsimp only [Pt.U, Pt.locs, Pt.cells, Pt.slots] at X' e1 e2 h1 h2 h3 st
    subst h1; subst h2; subst h3
    exact Or.inl ⟨v, (T.setVm vm₁).calling g' mk As.toArray, t, U', L, hT, X', hL, e1, e2, hq, st⟩
  · dsimp only [Pt.U, Pt.locs, Pt.cells, Pt.slots] at X' e1 e2 h1 h2 h3 st hcl
    subst h1; subst h2; subst h3
    exact Or.inr ⟨q, (T.setVm vm₁).calling g' mk As.toArray, t, U', L, E, ce, hT, X', hL, e1, e2, hq, hce, hcv, vx_cls hW₁ hcl, st⟩
end Runs
section Rows
variable {p : Program} {l : Launch} {e : Env} {R : Room} {s : State} {m : MethodId} {args : Array Value} {below : List Frame} {meth : Method} {c : Code} {H : Heap} {locs : List Loc} {cells slots : Nat} {Q : State → Prop}
variable {mc ms : Nat} {free : Addr → Prop} {A0 A1 : Nat → Prop} {H0 : Heap} {a : Array Value} {pc : Nat} {ls : Array Slot} {st0 rest : List Value}
theorem vx_keep {st₀ t T' : State} {L : List Loc} (h0 : st₀.heap = H) (e1 : T'.heap = t.heap) (hS : va_S A0 H0 H locs) (hA : ∀ q, q < H.size → A1 q → A0 q) (hf : ∀ q, free q → A0 q) (hL : ∀ q ∈ L, free q.base) (hF : va_F A1 st₀ t) :
    H.size ≤ T'.heap.size ∧ (∀ q : Nat, q < H.size → ¬ A1 q → T'.heap[q]? = H[q]?) ∧ va_S A0 H0 T'.heap (locs ++ L) := by
  obtain ⟨hz, hk⟩ := hF
  rw [h0] at hz hk
  exact ⟨by rw [e1]; exact hz, fun q h1 h2 => by rw [e1]; exact hk q h1 h2,
    ⟨Nat.le_trans hS.1 (by rw [e1]; exact hz), fun q h1 h2 => by rw [e1, hk q (Nat.lt_of_lt_of_le h1 hS.1) (fun z => h2 (hA q (Nat.lt_of_lt_of_le h1 hS.1) z))]; exact hS.2.1 q h1 h2, fun q hq => by
      rcases List.mem_append.mp hq with h | h
      · exact hS.2.2 q h
      · exact hf _ (hL q h)⟩⟩
theorem vx_calli {S SX : Type} {post : Int32 → S → Prop} {px : SX → Prop} {B : S → State → Prop} {BX : String → SX → State → Prop} {AX : Nat → Prop} (hr : vx_Run p l e R s m args below meth c H locs cells slots mc ms (F0 m pc ls st0) rest (va_Qi post B A1 a) (vx_X px BX AX) free) (hS : va_S A0 H0 H locs) (hA : ∀ q, q < H.size → A1 q → A0 q) (hf : ∀ q, free q → A0 q) (hAX : ∀ q, q < H.size → AX q → A0 q)
    (kx : ∀ (E : String) (ce : Cell) (q9 : Addr) (u : SX) (t : State) (H1 : Heap) (locs1 : List Loc), t.heap = H1 → s.vm.Alike t.vm → px u → BX E u t → H.size ≤ H1.size → (∀ q : Nat, q < H.size → ¬ AX q → H1[q]? = H[q]?) → va_S A0 H0 H1 locs1 → H1[q9]? = some ce → ce.vm = .none → s.vm.findClass E = some ce.cls → vx_W p l e R s m args below meth c H1 locs1 (cells + mc) (slots + ms) Q (F0 m pc ls rest) q9)
    (kk : ∀ (r : Int32) (u : S) (t : State) (H1 : Heap) (locs1 : List Loc), t.heap = H1 → s.vm.Alike t.vm → post r u → B u t → H.size ≤ H1.size → (∀ q : Nat, q < H.size → ¬ A1 q → H1[q]? = H[q]?) → va_S A0 H0 H1 locs1 → W p l e R s m args below meth c H1 locs1 (cells + mc) (slots + ms) Q (F0 m (pc + 3) ls (.int r :: rest))) : W p l e R s m args below meth c H locs cells slots Q (F0 m pc ls st0) := by
  intro T hT X
  rcases hr T hT X with ⟨v, st₀, t, T', L, h0, X', hL, e1, e2, ⟨⟨r, u, hv, hp, hb⟩, hF⟩, st⟩ | ⟨q, st₀, t, T', L, E, ce, h0, X', hL, e1, e2, ⟨u, hp, hb, hF⟩, hce, hcv, hcl, st⟩
  · cases hv
    obtain ⟨k1, k2, k3⟩ := vx_keep h0 e1 hS hA hf hL hF
    obtain ⟨t2, a1, b1⟩ := kk r u t T'.heap (locs ++ L) e1.symm (by rw [← e2]; exact X'.warmed.alike) hp hb k1 k2 k3 T' rfl X'
    exact ⟨t2, st t2 a1, b1⟩
  · obtain ⟨k1, k2, k3⟩ := vx_keep h0 e1 hS hAX hf hL hF
    obtain ⟨t2, a1, b1⟩ := kx E ce q u t T'.heap (locs ++ L) e1.symm (by rw [← e2]; exact X'.warmed.alike) hp hb k1 k2 k3 (by rw [e1]; exact hce) hcv hcl T' rfl X'
    exact ⟨t2, st.trans a1, b1⟩
theorem vx_calll {S SX : Type} {post : Int64 → S → Prop} {px : SX → Prop} {B : S → State → Prop} {BX : String → SX → State → Prop} {AX : Nat → Prop} (hr : vx_Run p l e R s m args below meth c H locs cells slots mc ms (F0 m pc ls st0) rest (va_Ql post B A1 a) (vx_X px BX AX) free) (hS : va_S A0 H0 H locs) (hA : ∀ q, q < H.size → A1 q → A0 q) (hf : ∀ q, free q → A0 q) (hAX : ∀ q, q < H.size → AX q → A0 q)
    (kx : ∀ (E : String) (ce : Cell) (q9 : Addr) (u : SX) (t : State) (H1 : Heap) (locs1 : List Loc), t.heap = H1 → s.vm.Alike t.vm → px u → BX E u t → H.size ≤ H1.size → (∀ q : Nat, q < H.size → ¬ AX q → H1[q]? = H[q]?) → va_S A0 H0 H1 locs1 → H1[q9]? = some ce → ce.vm = .none → s.vm.findClass E = some ce.cls → vx_W p l e R s m args below meth c H1 locs1 (cells + mc) (slots + ms) Q (F0 m pc ls rest) q9)
    (kk : ∀ (r : Int64) (u : S) (t : State) (H1 : Heap) (locs1 : List Loc), t.heap = H1 → s.vm.Alike t.vm → post r u → B u t → H.size ≤ H1.size → (∀ q : Nat, q < H.size → ¬ A1 q → H1[q]? = H[q]?) → va_S A0 H0 H1 locs1 → W p l e R s m args below meth c H1 locs1 (cells + mc) (slots + ms) Q (F0 m (pc + 3) ls (.long r :: rest))) : W p l e R s m args below meth c H locs cells slots Q (F0 m pc ls st0) := by
  intro T hT X
  rcases hr T hT X with ⟨v, st₀, t, T', L, h0, X', hL, e1, e2, ⟨⟨r, u, hv, hp, hb⟩, hF⟩, st⟩ | ⟨q, st₀, t, T', L, E, ce, h0, X', hL, e1, e2, ⟨u, hp, hb, hF⟩, hce, hcv, hcl, st⟩
  · cases hv
    obtain ⟨k1, k2, k3⟩ := vx_keep h0 e1 hS hA hf hL hF
    obtain ⟨t2, a1, b1⟩ := kk r u t T'.heap (locs ++ L) e1.symm (by rw [← e2]; exact X'.warmed.alike) hp hb k1 k2 k3 T' rfl X'
    exact ⟨t2, st t2 a1, b1⟩
  · obtain ⟨k1, k2, k3⟩ := vx_keep h0 e1 hS hAX hf hL hF
    obtain ⟨t2, a1, b1⟩ := kx E ce q u t T'.heap (locs ++ L) e1.symm (by rw [← e2]; exact X'.warmed.alike) hp hb k1 k2 k3 (by rw [e1]; exact hce) hcv hcl T' rfl X'
    exact ⟨t2, st.trans a1, b1⟩
theorem vx_callf {S SX : Type} {post : UInt32 → S → Prop} {px : SX → Prop} {B : S → State → Prop} {BX : String → SX → State → Prop} {AX : Nat → Prop} (hr : vx_Run p l e R s m args below meth c H locs cells slots mc ms (F0 m pc ls st0) rest (va_Qf post B A1 a) (vx_X px BX AX) free) (hS : va_S A0 H0 H locs) (hA : ∀ q, q < H.size → A1 q → A0 q) (hf : ∀ q, free q → A0 q) (hAX : ∀ q, q < H.size → AX q → A0 q)
    (kx : ∀ (E : String) (ce : Cell) (q9 : Addr) (u : SX) (t : State) (H1 : Heap) (locs1 : List Loc), t.heap = H1 → s.vm.Alike t.vm → px u → BX E u t → H.size ≤ H1.size → (∀ q : Nat, q < H.size → ¬ AX q → H1[q]? = H[q]?) → va_S A0 H0 H1 locs1 → H1[q9]? = some ce → ce.vm = .none → s.vm.findClass E = some ce.cls → vx_W p l e R s m args below meth c H1 locs1 (cells + mc) (slots + ms) Q (F0 m pc ls rest) q9)
    (kk : ∀ (r : UInt32) (u : S) (t : State) (H1 : Heap) (locs1 : List Loc), t.heap = H1 → s.vm.Alike t.vm → post r u → B u t → H.size ≤ H1.size → (∀ q : Nat, q < H.size → ¬ A1 q → H1[q]? = H[q]?) → va_S A0 H0 H1 locs1 → W p l e R s m args below meth c H1 locs1 (cells + mc) (slots + ms) Q (F0 m (pc + 3) ls (.float r :: rest))) : W p l e R s m args below meth c H locs cells slots Q (F0 m pc ls st0) := by
  intro T hT X
  rcases hr T hT X with ⟨v, st₀, t, T', L, h0, X', hL, e1, e2, ⟨⟨r, u, hv, hp, hb⟩, hF⟩, st⟩ | ⟨q, st₀, t, T', L, E, ce, h0, X', hL, e1, e2, ⟨u, hp, hb, hF⟩, hce, hcv, hcl, st⟩
  · cases hv
    obtain ⟨k1, k2, k3⟩ := vx_keep h0 e1 hS hA hf hL hF
    obtain ⟨t2, a1, b1⟩ := kk r u t T'.heap (locs ++ L) e1.symm (by rw [← e2]; exact X'.warmed.alike) hp hb k1 k2 k3 T' rfl X'
    exact ⟨t2, st t2 a1, b1⟩
  · obtain ⟨k1, k2, k3⟩ := vx_keep h0 e1 hS hAX hf hL hF
    obtain ⟨t2, a1, b1⟩ := kx E ce q u t T'.heap (locs ++ L) e1.symm (by rw [← e2]; exact X'.warmed.alike) hp hb k1 k2 k3 (by rw [e1]; exact hce) hcv hcl T' rfl X'
    exact ⟨t2, st.trans a1, b1⟩
theorem vx_calld {S SX : Type} {post : UInt64 → S → Prop} {px : SX → Prop} {B : S → State → Prop} {BX : String → SX → State → Prop} {AX : Nat → Prop} (hr : vx_Run p l e R s m args below meth c H locs cells slots mc ms (F0 m pc ls st0) rest (va_Qd post B A1 a) (vx_X px BX AX) free) (hS : va_S A0 H0 H locs) (hA : ∀ q, q < H.size → A1 q → A0 q) (hf : ∀ q, free q → A0 q) (hAX : ∀ q, q < H.size → AX q → A0 q)
    (kx : ∀ (E : String) (ce : Cell) (q9 : Addr) (u : SX) (t : State) (H1 : Heap) (locs1 : List Loc), t.heap = H1 → s.vm.Alike t.vm → px u → BX E u t → H.size ≤ H1.size → (∀ q : Nat, q < H.size → ¬ AX q → H1[q]? = H[q]?) → va_S A0 H0 H1 locs1 → H1[q9]? = some ce → ce.vm = .none → s.vm.findClass E = some ce.cls → vx_W p l e R s m args below meth c H1 locs1 (cells + mc) (slots + ms) Q (F0 m pc ls rest) q9)
    (kk : ∀ (r : UInt64) (u : S) (t : State) (H1 : Heap) (locs1 : List Loc), t.heap = H1 → s.vm.Alike t.vm → post r u → B u t → H.size ≤ H1.size → (∀ q : Nat, q < H.size → ¬ A1 q → H1[q]? = H[q]?) → va_S A0 H0 H1 locs1 → W p l e R s m args below meth c H1 locs1 (cells + mc) (slots + ms) Q (F0 m (pc + 3) ls (.double r :: rest))) : W p l e R s m args below meth c H locs cells slots Q (F0 m pc ls st0) := by
  intro T hT X
  rcases hr T hT X with ⟨v, st₀, t, T', L, h0, X', hL, e1, e2, ⟨⟨r, u, hv, hp, hb⟩, hF⟩, st⟩ | ⟨q, st₀, t, T', L, E, ce, h0, X', hL, e1, e2, ⟨u, hp, hb, hF⟩, hce, hcv, hcl, st⟩
  · cases hv
    obtain ⟨k1, k2, k3⟩ := vx_keep h0 e1 hS hA hf hL hF
    obtain ⟨t2, a1, b1⟩ := kk r u t T'.heap (locs ++ L) e1.symm (by rw [← e2]; exact X'.warmed.alike) hp hb k1 k2 k3 T' rfl X'
    exact ⟨t2, st t2 a1, b1⟩
  · obtain ⟨k1, k2, k3⟩ := vx_keep h0 e1 hS hAX hf hL hF
    obtain ⟨t2, a1, b1⟩ := kx E ce q u t T'.heap (locs ++ L) e1.symm (by rw [← e2]; exact X'.warmed.alike) hp hb k1 k2 k3 (by rw [e1]; exact hce) hcv hcl T' rfl X'
    exact ⟨t2, st.trans a1, b1⟩
theorem vx_callv {S SX : Type} {post : S → Prop} {px : SX → Prop} {B : S → State → Prop} {BX : String → SX → State → Prop} {AX : Nat → Prop} (hr : vx_Run p l e R s m args below meth c H locs cells slots mc ms (F0 m pc ls st0) rest (va_Qv post B A1 a) (vx_X px BX AX) free) (hS : va_S A0 H0 H locs) (hA : ∀ q, q < H.size → A1 q → A0 q) (hf : ∀ q, free q → A0 q) (hAX : ∀ q, q < H.size → AX q → A0 q)
    (kx : ∀ (E : String) (ce : Cell) (q9 : Addr) (u : SX) (t : State) (H1 : Heap) (locs1 : List Loc), t.heap = H1 → s.vm.Alike t.vm → px u → BX E u t → H.size ≤ H1.size → (∀ q : Nat, q < H.size → ¬ AX q → H1[q]? = H[q]?) → va_S A0 H0 H1 locs1 → H1[q9]? = some ce → ce.vm = .none → s.vm.findClass E = some ce.cls → vx_W p l e R s m args below meth c H1 locs1 (cells + mc) (slots + ms) Q (F0 m pc ls rest) q9)
    (kk : ∀ (u : S) (t : State) (H1 : Heap) (locs1 : List Loc), t.heap = H1 → s.vm.Alike t.vm → post u → B u t → H.size ≤ H1.size → (∀ q : Nat, q < H.size → ¬ A1 q → H1[q]? = H[q]?) → va_S A0 H0 H1 locs1 → W p l e R s m args below meth c H1 locs1 (cells + mc) (slots + ms) Q (F0 m (pc + 3) ls (rest))) : W p l e R s m args below meth c H locs cells slots Q (F0 m pc ls st0) := by
  intro T hT X
  rcases hr T hT X with ⟨v, st₀, t, T', L, h0, X', hL, e1, e2, ⟨⟨u, hv, hp, hb⟩, hF⟩, st⟩ | ⟨q, st₀, t, T', L, E, ce, h0, X', hL, e1, e2, ⟨u, hp, hb, hF⟩, hce, hcv, hcl, st⟩
  · cases hv
    obtain ⟨k1, k2, k3⟩ := vx_keep h0 e1 hS hA hf hL hF
    obtain ⟨t2, a1, b1⟩ := kk u t T'.heap (locs ++ L) e1.symm (by rw [← e2]; exact X'.warmed.alike) hp hb k1 k2 k3 T' rfl X'
    exact ⟨t2, st t2 a1, b1⟩
  · obtain ⟨k1, k2, k3⟩ := vx_keep h0 e1 hS hAX hf hL hF
    obtain ⟨t2, a1, b1⟩ := kx E ce q u t T'.heap (locs ++ L) e1.symm (by rw [← e2]; exact X'.warmed.alike) hp hb k1 k2 k3 (by rw [e1]; exact hce) hcv hcl T' rfl X'
    exact ⟨t2, st.trans a1, b1⟩
/-- caught by the row x of this method's table; the rows ahead don't take it -/
theorem vx_catch {own name : String} {E : String} {ce : Cell} {q : Addr} (hown : s.vm.findClass own = some m.cls) (pre : List ExceptionTableEntry) (x : ExceptionTableEntry) (suf : List ExceptionTableEntry) (hsplit : c.exceptionTable.toList = pre ++ x :: suf)
    (hpass : ∀ z ∈ pre, covers z pc = false ∨ (z.catchType ≠ 0 ∧ ∃ nm : String, (Cond.classLink own z.catchType nm).before args s = true ∧ va_Nc E nm s)) (hx : covers x pc = true) (h0 : x.catchType ≠ 0)
    (hlink : (Cond.classLink own x.catchType name).before args s = true) (hcast : (Cond.castable E name).before args s = true) (hcell : H[q]? = some ce) (hv : ce.vm = .none) (hcl : s.vm.findClass E = some ce.cls)
    (kk : W p l e R s m args below meth c H locs cells slots Q (F0 m x.handlerPc ls [.ref q])) : vx_W p l e R s m args below meth c H locs cells slots Q (F0 m pc ls rest) q := by
  intro T hT X
  have hpl : e.platform.magicAccessors = ({} : Platform).magicAccessors := by rw [X.admits.platform]
  obtain ⟨c3, c4, hc3, hc4, hasg⟩ := Cond.castable_spec hcast
  cases Option.some.inj (hc3.symm.trans hcl)
  obtain ⟨c5, hc5, hcl5⟩ := Cond.classLink_spec hown hlink e.platform hpl
  cases Option.some.inj (hc4.symm.trans hc5)
  obtain ⟨vm', X', st⟩ := X.thenCaughtThrough q (g := F0 m pc ls rest) rfl (Steps.refl _) (by rw [hT]; exact hcell) (by rw [hv]; rfl) (by obtain ⟨k9, h9, -⟩ := Vm.findClass_spec hcl; exact ⟨k9, h9⟩) pre x suf hsplit
    (fun z hz => by
      rcases hpass z hz with h | ⟨hz0, nm, hl1, hn1⟩
      · exact Or.inl h
      · obtain ⟨c6, hc6, hcl6⟩ := Cond.classLink_spec hown hl1 e.platform hpl
        obtain ⟨a8, b8, h1, h2, h3⟩ := hn1
        cases Option.some.inj (h1.symm.trans hcl)
        cases Option.some.inj (h2.symm.trans hc6)
        exact Or.inr ⟨hz0, _, hcl6, h3⟩) hx (Or.inr ⟨h0, c4, hcl5, hasg⟩)
  obtain ⟨t, a1, b1⟩ := kk (T.setVm vm') hT X'
  exact ⟨t, st.trans a1, b1⟩
end Rows
section Ends
variable {p : Program} {l : Launch} {e : Env} {R : Room} {s : State} {m : MethodId} {args : Array Value} {below : List Frame} {meth : Method} {c : Code} {H : Heap} {locs : List Loc} {cells slots : Nat} {Q : State → Prop}
variable {mc ms : Nat} {free : Addr → Prop} {A0 A1 : Nat → Prop} {H0 : Heap} {a : Array Value} {ls : Array Slot} {st0 rest : List Value}
variable {Qc : Array Value → State → Outcome → State → Prop} {XC : String → State → State → Prop}
/-- what a body that may throw owes at its end -/
def vx_MQ (below : List Frame) (Qc : Array Value → State → Outcome → State → Prop) (XC : String → State → State → Prop) (a : Array Value) (s : State) (mc ms : Nat) (free : Addr → Prop) : State → Prop := fun t =>
  ∃ o, t.status = .running ∧ Ended t below o ∧ vx_Q Qc XC mc ms free a s o t
theorem vx_ret {g : JFrame} {mc ms : Nat} (k : W p l e R s m args below meth c H locs cells slots (MQ below Qc args s mc ms free) g) : W p l e R s m args below meth c H locs cells slots (vx_MQ below Qc XC args s mc ms free) g := by
  intro T hT X
  obtain ⟨t, a1, o, b1, b2, b3, b4⟩ := k T hT X
  exact ⟨t, a1, o, b1, b2, Or.inl ⟨b3, b4⟩⟩
/-- not caught here: it goes on to the caller -/
theorem vx_widen {g : JFrame} {q : Addr} {k n : Nat} (h1 : cells ≤ k) (h2 : slots ≤ n) (kk : vx_W p l e R s m args below meth c H locs k n Q g q) : vx_W p l e R s m args below meth c H locs cells slots Q g q := fun T hT X => kk T hT (stand_widen X h1 h2)
theorem vx_out {pc : Nat} {E : String} {ce : Cell} {q : Addr} {mc ms : Nat} (hout : ∀ x ∈ c.exceptionTable.toList, covers x pc = false) (hlocks : meth.locks = false) (hcell : H[q]? = some ce) (hv : ce.vm = .none) (hcl : s.vm.findClass E = some ce.cls)
    (hx : ∀ t : State, t.heap = H → s.vm.Alike t.vm → XC E s t) (hf : ∀ z ∈ locs, free z.base) (hc : cells ≤ mc) (hs : slots ≤ ms) :
    vx_W p l e R s m args below meth c H locs cells slots (vx_MQ below Qc XC args s mc ms free) (F0 m pc ls rest) q := by
  intro T hT X
  obtain ⟨st1, hrun, hend, hW, hsm⟩ := X.leaveThrown q (g := F0 m pc ls rest) rfl rfl rfl hout hlocks
  have hcell9 : (T.setFrames (.throwing q :: below)).heap[q]? = some ce := by
    show T.heap[q]? = some ce
    rw [hT]; exact hcell
  exact ⟨_, st1, .threw q, hrun, hend, Or.inr ⟨q, rfl, E, ce, locs, hx _ hT hW.alike, hcell9, hv, hcl, hW, hsm.mono hc hs, hf⟩⟩
theorem vx_frame {U : State} {k n : Nat} (h : s.sameButNew ({ U with vm := s.vm } : State) locs k n) : s.heap.size ≤ U.heap.size ∧ ∀ q : Nat, q < s.heap.size → (∀ z ∈ locs, z.base ≠ q) → U.heap[q]? = s.heap[q]? := by
  obtain ⟨-, h2, -, -, -, h6⟩ := h
  refine ⟨h2, fun q hq hz => ?_⟩
  obtain ⟨c9, e1, e2, e3, e4⟩ := h6 q _ (Array.getElem?_eq_getElem hq)
  have hs : c9.slots = (s.heap[q]).slots := Array.ext_getElem? fun i => e4 i fun hm => hz _ hm rfl
  have h9 : c9 = s.heap[q] := by
    rw [hs] at e2
    exact e2
  have e5 : U.heap[q]? = some c9 := e1
  rw [e5, h9, Array.getElem?_eq_getElem hq]
/-- the words of a throw but the four that speak of the heap -/
def vx_no (w : Cond) : Bool := decide (w ≠ .isRef (.static Bundle.tN "UNASSIGNED_STACK" Bundle.steD)) && decide (w ≠ .isRef (.static Bundle.tN "SUPPRESSED_SENTINEL" Bundle.listD)) && decide (w ≠ .laysStatic Bundle.tN "UNASSIGNED_STACK" Bundle.steD) && decide (w ≠ .laysStatic Bundle.tN "SUPPRESSED_SENTINEL" Bundle.listD)
def vx_at0 (own : String) (ic : Nat) (X : String) (names : List String) : List Cond := (Bundle.ownAtoms0 own ic X names).filter vx_no
def vx_atS (own : String) (ic : Nat) (X : String) (names : List String) : List Cond := (Bundle.ownAtoms own ic X names).filter vx_no
/-- a word that the tables alone decide, or a good one -/
def vx_ot (w : Cond) : Bool := w.onTables || goodWord w
theorem vx_ot_at {args a' : Array Value} {s U : State} {w : Cond} (hW : s.WarmedH U.vm) (hvm : s.vm = U.vm) (hg : vx_ot w = true) (h : w.before args s = true) : w.before a' U = true := by
  simp only [vx_ot, Bool.or_eq_true] at hg
  rcases hg with hg | hg
  · exact va_tabs hg hvm h
  · exact word_at hW (good_of_word hg) h
/-- a list's words: the good ones out of the method's own list, the others by premises of their own -/
theorem vx_hat {args : Array Value} {s : State} {L B : List Cond} (h1 : ∀ w ∈ L.filter goodWord, w.before args s = true) (h2 : ∀ w ∈ L.filter (fun w => !goodWord w), w ∈ B) (h3 : ∀ w ∈ B, w.before args s = true) : ∀ w ∈ L, w.before args s = true := by
  intro w hw
  by_cases g : goodWord w = true
  · exact h1 w (List.mem_filter.mpr ⟨hw, g⟩)
  · refine h3 w (h2 w (List.mem_filter.mpr ⟨hw, ?_⟩))
    show (!goodWord w) = true
    cases hgw : goodWord w
    · rfl
    · exact absurd hgw g
theorem vx_c {args : Array Value} {s : State} {w : Cond} {B : List Cond} (h : w.before args s = true) (t : ∀ w ∈ B, w.before args s = true) : ∀ w' ∈ w :: B, w'.before args s = true := fun w' h' => (List.mem_cons.mp h').elim (fun e => by rw [e]; exact h) (t w')
theorem vx_n {args : Array Value} {s : State} : ∀ w ∈ ([] : List Cond), w.before args s = true := fun _ h => nomatch h
theorem vx_own {args : Array Value} {s : State} {L : List Cond} (h1 : ∀ w ∈ L.filter vx_no, w.before args s = true)
    (hU : (Cond.isRef (.static Bundle.tN "UNASSIGNED_STACK" Bundle.steD)).before args s = true) (hN : (Cond.isRef (.static Bundle.tN "SUPPRESSED_SENTINEL" Bundle.listD)).before args s = true)
    (lU : (Cond.laysStatic Bundle.tN "UNASSIGNED_STACK" Bundle.steD).before args s = true) (lN : (Cond.laysStatic Bundle.tN "SUPPRESSED_SENTINEL" Bundle.listD).before args s = true) : ∀ w ∈ L, w.before args s = true := by
  intro w hw
  by_cases e1 : w = .isRef (.static Bundle.tN "UNASSIGNED_STACK" Bundle.steD)
  · rw [e1]; exact hU
  · by_cases e2 : w = .isRef (.static Bundle.tN "SUPPRESSED_SENTINEL" Bundle.listD)
    · rw [e2]; exact hN
    · by_cases e3 : w = .laysStatic Bundle.tN "UNASSIGNED_STACK" Bundle.steD
      · rw [e3]; exact lU
      · by_cases e4 : w = .laysStatic Bundle.tN "SUPPRESSED_SENTINEL" Bundle.listD
        · rw [e4]; exact lN
        · exact h1 w (List.mem_filter.mpr ⟨hw, by unfold vx_no; rw [decide_eq_true e1, decide_eq_true e2, decide_eq_true e3, decide_eq_true e4]; rfl⟩)
/-- where a static field lies, its class's statics cell in H -/
def vx_L (C n d : String) (A : Nat → Prop) (U : State) (H : Heap) : Prop := ∃ (c : ClassId) (k : Class) (i : Nat) (f : Field) (a : Nat) (cell : Cell), U.vm.findClass C = some c ∧ U.fieldFound? C n d = some (c, k, i, f) ∧ f.isStatic = true ∧ k.statics = some a ∧ H[a]? = some cell ∧ cell.vm.isStatics = true ∧ cell.cls = c ∧ f.slot < cell.slots.size ∧ k.staticTypes[f.slot]? = some f.type ∧ ¬ A a
theorem vx_L.moved {C n d : String} {A : Nat → Prop} {u U : State} {H : Heap} (hvm : u.vm.Alike U.vm) (h : vx_L C n d A u H) : vx_L C n d A U H := by
  obtain ⟨c, k, i, f, a, cell, h1, h2, h3, h4, h5, h6, h7, h8, h9, h10⟩ := h
  obtain ⟨k', hi', he⟩ := State.fieldFound?_setVm hvm h2
  exact ⟨c, k', i, f, a, cell, by rw [hvm.findClass]; exact h1, hi', h3, by rw [he]; exact h4, h5, h6, h7, h8, by rw [he]; exact h9, h10⟩
theorem vx_L.kept {C n d : String} {A : Nat → Prop} {U : State} {H H1 : Heap} (h : vx_L C n d A U H) (hq : ∀ a : Nat, a < H.size → ¬ A a → H1[a]? = H[a]?) : vx_L C n d A U H1 := by
  obtain ⟨c, k, i, f, a, cell, h1, h2, h3, h4, h5, h6, h7, h8, h9, h10⟩ := h
  exact ⟨c, k, i, f, a, cell, h1, h2, h3, h4, by rw [hq a (Array.getElem?_eq_some_iff.mp h5).1 h10]; exact h5, h6, h7, h8, h9, h10⟩
theorem vx_L.narrow {C n d : String} {A B : Nat → Prop} {U : State} {H : Heap} (h : vx_L C n d A U H) (hAB : ∀ q, B q → A q) : vx_L C n d B U H := by
  obtain ⟨c, k, i, f, a, cell, h1, h2, h3, h4, h5, h6, h7, h8, h9, h10⟩ := h
  exact ⟨c, k, i, f, a, cell, h1, h2, h3, h4, h5, h6, h7, h8, h9, fun z => h10 (hAB _ z)⟩
theorem vx_L.word {C n d : String} {A : Nat → Prop} {s : State} {args : Array Value} (h : vx_L C n d A s s.heap) : (Cond.laysStatic C n d).before args s = true := by
  obtain ⟨c, k, i, f, a, cell, h1, h2, h3, h4, h5, h6, h7, h8, h9, -⟩ := h
  show (Cond.laysStatic C n d).holds args s none s [] = true
  exact Cond.laysStatic_of h1 h2 h3 h4 h5 h6 h7 h8 h9
/-- .. and what it holds: null or some reference -/
def vx_Zq (C n d : String) (A : Nat → Prop) (U : State) (H : Heap) : Prop := va_Zq C n d A U H ∧ vx_L C n d A U H
theorem vx_Zq.moved {C n d : String} {A : Nat → Prop} {u U : State} {H : Heap} (hvm : u.vm.Alike U.vm) (h : vx_Zq C n d A u H) : vx_Zq C n d A U H := ⟨va_Zq.moved hvm h.1, vx_L.moved hvm h.2⟩
theorem vx_Zq.kept {C n d : String} {A : Nat → Prop} {U : State} {H H1 : Heap} (h : vx_Zq C n d A U H) (hq : ∀ a : Nat, a < H.size → ¬ A a → H1[a]? = H[a]?) : vx_Zq C n d A U H1 := ⟨va_Zq.kept h.1 hq, vx_L.kept h.2 hq⟩
theorem vx_Zq.narrow {C n d : String} {A B : Nat → Prop} {U : State} {H : Heap} (h : vx_Zq C n d A U H) (hAB : ∀ q, B q → A q) : vx_Zq C n d B U H := ⟨va_Zq.narrow h.1 hAB, vx_L.narrow h.2 hAB⟩
theorem vx_Zqof {args : Array Value} {s : State} {C n d : String} {A : Nat → Prop} (hl : (Cond.laysStatic C n d).before args s = true) (hini : (Cond.initialized C).before args s = true) (h : (Cond.isRef (.static C n d)).before args s = true) (hA : ∀ a : Nat, a < s.heap.size → ¬ A a) : vx_Zq C n d A s s.heap := by
  refine ⟨va_Zqof hl hini h hA, ?_⟩
  obtain ⟨c, k, i, f, a, cell, h1, h2, h3, h4, h5, h6, h7, h8, h9⟩ := Cond.laysStatic_spec hl
  exact ⟨c, k, i, f, a, cell, h1, h2, h3, h4, h5, h6, h7, h8, h9, hA a (Array.getElem?_eq_some_iff.mp h5).1⟩
theorem vx_isRef {C n d : String} {v : Value} {A : Nat → Prop} {s : State} {args : Array Value} (h : va_Z C n d v A s s.heap) (hv : v.isRef = true) : (Cond.isRef (.static C n d)).before args s = true := by
  obtain ⟨cf, kf, fi, f, a, cell, h1, h2, h3, h4, h5, h6, h7, -⟩ := h
  have he : (Term.static C n d).eval args s none [] s = some v := by
    simp [Term.eval, State.fieldNamed?, h1, h2, h4, h5, h6, h7]
  simp only [Cond.before, Cond.holds, Cond.value, he]
  cases v <;> simp_all [Value.isRef]
theorem vx_isRefq {C n d : String} {A : Nat → Prop} {s : State} {args : Array Value} (h : va_Zq C n d A s s.heap) : (Cond.isRef (.static C n d)).before args s = true := by
  rcases h with h | ⟨t, h⟩
  · exact vx_isRef h rfl
  · exact vx_isRef h rfl
/-- the same frame, seen from here: as if the method were called anew in this heap -/
theorem vx_rebase {T : State} (X : Stand p l e R s m args below meth c T locs cells slots) {R' : Room} (hf : R'.frames ≤ R.frames) (hl : R'.locals ≤ R.locals) (hc : cells + R'.cells ≤ R.cells) (hs : slots + R'.slots ≤ R.slots) :
    Stand p l e R' ((T.setVm s.vm).setFrames (.invoking m args :: below)) m args below meth c T [] 0 0 := by
  have htop : (T.setVm s.vm).topJava?.isSome := X.here.top
  have hF : ((T.setVm s.vm).setFrames (.invoking m args :: below)).frames = .invoking m args :: below := State.frames_setFrames _ (State.cur_lt_of_top htop)
  obtain ⟨g₀, hg0⟩ := Option.isSome_iff_exists.mp htop
  obtain ⟨r, hr⟩ := State.topJava?_eq_some.mp hg0
  have hl9 : e.platform.stackLimits (T.setVm s.vm).me = e.platform.stackLimits s.me := X.limits
  have hb9 : (T.setVm s.vm).me.stackBytes = s.me.stackBytes := X.bytes
  refine ⟨X.admits, X.cas, X.clock, hF, ?_, X.hears, X.method, X.code, X.here, X.tail, X.warmed, ?_, ?_, ?_⟩
  · have h := X.room
    have hU : ((T.setVm s.vm).setFrames (.invoking m args :: below)).localsInUse = s.localsInUse := by
      rw [State.localsInUse_invoking hF (meth := meth) (c := c) X.method X.code, State.localsInUse_invoking X.frames X.method X.code]
    simp only [State.hasRoom, Bool.and_eq_true, decide_eq_true_eq] at h ⊢
    obtain ⟨⟨⟨⟨h1, h2, h3, h4, h5, h6⟩, h7⟩, h8⟩, h9⟩ := h
    rw [X.frames, List.length_cons] at h2 h3
    have q1 := X.heapSize
    have q2 := X.used
    simp only [hF, hU, List.length_cons, State.stackLimits_setFrames, State.stackBytes_setFrames, hl9, hb9]
    refine ⟨⟨⟨⟨by omega, by omega, by omega, by omega, by omega, h6⟩, ?_⟩, ?_⟩, X.book⟩
    · show T.heap.size + R'.cells ≤ e.platform.maxCells
      omega
    · show T.slotsUsed + R'.slots ≤ e.platform.maxSlots
      omega
  · rw [State.stackLimits_setFrames]; rfl
  · rw [State.stackBytes_setFrames]; rfl
  · refine ⟨?_, Nat.le_refl _, Nat.le_refl _, ?_, ?_, fun a c9 h9 => ⟨c9, h9, rfl, rfl, fun _ _ => rfl⟩⟩
    · obtain ⟨t, ht, -⟩ := State.frames_cons hr
      show T.setVm s.vm = { ((T.setVm s.vm).setFrames (.invoking m args :: below)).setFrames (T.setVm s.vm).frames with heap := T.heap, slotsUsed := T.slotsUsed }
      rw [State.setFrames_setFrames, State.setFrames_self ht]
      rfl
    · show T.slotsUsed = T.slotsUsed + ((T.heap.toList.drop T.heap.size).map (·.slots.size)).sum
      rw [List.drop_eq_nil_of_le (Nat.le_of_eq Array.length_toList)]
      rfl
    · show ((T.heap.toList.drop T.heap.size).map (·.slots.size)).sum ≤ 0
      rw [List.drop_eq_nil_of_le (Nat.le_of_eq Array.length_toList)]
      exact Nat.le_refl _
/-- 'throw new E()': new; dup; invokespecial; athrow -/
theorem vx_throw0 {cc : ByteArray} {pc : Nat} (hexec : p.tables.exec = Jvm.exec) (hb : c.code = cc) (hl : l.stackTraces = false) {own cls : String} {names : List String} {ik ic mc ms : Nat} {A : Nat → Prop}
    (hown : s.vm.findClass own = some m.cls) (hcls : Bundle.fit cls = true) (hnames : ∀ n ∈ names, Bundle.fit n = true)
    (hk : (Cond.classLink own ik cls).before args s = true) (hini : (Cond.initialized cls).before args s = true) (hat : ∀ w ∈ vx_at0 own ic cls names, w.before args s = true)
    (hgood : ∀ w ∈ Cond.classLink own ik cls :: Cond.initialized cls :: vx_at0 own ic cls names, vx_ot w = true)
    (hU : vx_Zq Bundle.tN "UNASSIGNED_STACK" Bundle.steD A s s.heap) (hN : vx_Zq Bundle.tN "SUPPRESSED_SENTINEL" Bundle.listD A s s.heap) (hS : va_S A s.heap H locs) (hsize : ls.size = c.maxLocals)
    (d0 : decode cc pc = .ok (.new ik, 3)) (d3 : decode cc (pc + 3) = .ok (.dup, 1)) (d4 : decode cc (pc + 4) = .ok (.invokespecial ic, 3)) (d7 : decode cc (pc + 7) = .ok (.athrow, 1))
    (hout : ∀ x ∈ c.exceptionTable.toList, covers x (pc + 7) = false)
    (hRframes : names.length + 3 < R.frames) (hRlocals : (rest.map fun v => v.category).sum + (13 * (names.length + 1) + 42) ≤ R.locals) (hRcells : cells + 1 ≤ R.cells) (hRslots : slots + 6 ≤ R.slots) (hlocks : meth.locks = false)
    (hx : ∀ t : State, s.vm.Alike t.vm → H.size ≤ t.heap.size → (∀ q : Nat, q < H.size → t.heap[q]? = H[q]?) → XC cls s t)
    (hf : ∀ z ∈ locs, free z.base) (hc : cells + 1 ≤ mc) (hs : slots + 6 ≤ ms) :
    W p l e R s m args below meth c H locs cells slots (vx_MQ below Qc XC args s mc ms free) (F0 m pc ls rest) := by
  intro T hT X
  have htr : e.platform.stackTraces = false := (show e.platform.stackTraces = l.stackTraces by rw [X.admits.platform]).trans hl
  have Y := vx_rebase X (R' := { frames := R.frames, locals := R.locals, cells := 1, slots := 6 }) (Nat.le_refl _) (Nat.le_refl _) hRcells hRslots
  obtain ⟨s', hA⟩ : ∃ z, z = (T.setVm s.vm).setFrames (.invoking m args :: below) := ⟨_, rfl⟩
  rw [← hA] at Y
  have hvm : s'.vm = s.vm := by rw [hA]; rfl
  have hhp : s'.heap = H := by rw [hA]; exact hT
  have hW0 : s.WarmedH s'.vm := by rw [hvm]; exact State.WarmedH.refl s
  have hat' : ∀ w ∈ vx_at0 own ic cls names, w.before args s' = true := fun w hw => vx_ot_at hW0 hvm.symm (hgood w (List.mem_cons_of_mem _ (List.mem_cons_of_mem _ hw))) (hat w hw)
  have hk' : (Cond.classLink own ik cls).before args s' = true := vx_ot_at hW0 hvm.symm (hgood _ List.mem_cons_self) hk
  have hini' : (Cond.initialized cls).before args s' = true := vx_ot_at hW0 hvm.symm (hgood _ (List.mem_cons_of_mem _ List.mem_cons_self)) hini
  have hU' : vx_Zq Bundle.tN "UNASSIGNED_STACK" Bundle.steD A s' s'.heap := by rw [hhp]; exact vx_Zq.moved hW0.alike (hU.kept hS.2.1)
  have hN' : vx_Zq Bundle.tN "SUPPRESSED_SENTINEL" Bundle.listD A s' s'.heap := by rw [hhp]; exact vx_Zq.moved hW0.alike (hN.kept hS.2.1)
  have h : ∀ w ∈ Bundle.ownAtoms0 own ic cls names, w.before args s' = true := vx_own hat' (vx_isRefq hU'.1) (vx_isRefq hN'.1) hU'.2.word hN'.2.word
  have hown' : s'.vm.findClass own = some m.cls := by rw [hvm]; exact hown
  have hins : (Cond.instantiable cls 6).before args s' = true := h _ (by simp [Bundle.ownAtoms0])
  obtain ⟨vm₁, cX, kX, hfX, hkX, -, -, X₁, st1⟩ := Y.newCold hexec (own := own) (C := cls) (index := ik) (n := 6) hown' hk' hins hini'
    (g := F0 m pc ls rest) rfl (by rw [hb]; exact d0) (Nat.le_refl _) (Nat.le_refl _)
  generalize hT1 : (T.setVm vm₁).pushCell { cls := cX, slots := kX.instanceTypes.map defaultValue, vm := .none } = T1 at X₁ st1
  have hcat : (Value.ref T.heap.size).category = 1 := rfl
  have hcellA : T1.heap[T.heap.size]? = some (freshCell cX kX) := by rw [← hT1]; exact State.heap_pushCell_size _ _
  have d3' : decode c.code (pc + 3) = .ok (.dup, 1) := by rw [hb]; exact d3
  obtain ⟨U, hsteps, hrun, hend, hW, hsame, ce, hce, hO⟩ := X₁.ctorThrow0 hexec htr (own := own) (cls := cls) (names := names) (ic := ic) hown' hcls hnames h (fun x hx => nomatch hx) hfX hkX hcellA (by rw [hhp, hT]; exact Nat.le_refl _)
    (g := { method := m, pc := pc + 4, locals := ls, stack := .ref T.heap.size :: .ref T.heap.size :: rest, locked := none }) rfl hsize rfl rfl (rest := rest) rfl
    (by rw [hb]; exact d4) (by rw [hb]; exact d7) hout hRframes (by simp only [List.map_cons, List.sum_cons, hcat]; omega) hlocks
  obtain ⟨f1, f2⟩ := vx_frame hsame
  rw [hhp] at f1 f2
  have hWs : s.WarmedH U.vm := State.WarmedH.trans hW0 hW
  have hcl : s.vm.findClass cls = some ce.cls := by
    have h9 := hO.cls
    rw [hvm] at h9
    exact h9
  have hall : s.sameButNew ({ U with vm := s.vm } : State) locs mc ms := by
    subst hA
    obtain ⟨e1, e2⟩ := hsame
    rw [State.setFrames_setFrames] at e1
    have h2 : (T.setVm s.vm).sameButNew ({ U with vm := s.vm } : State) [] (0 + 1) (0 + 6) := ⟨e1, e2⟩
    have h3 := X.same.trans h2
    rw [List.append_nil] at h3
    exact h3.mono hc hs
  refine ⟨U, ?_, .threw T.heap.size, hrun, hend, Or.inr ⟨T.heap.size, rfl, cls, ce, locs, hx U hWs.alike f1 (fun q hq => f2 q hq (fun z hz => nomatch hz)), hce, hO.vm, hcl, hWs, hall, hf⟩⟩
  refine st1 _ ?_
  show Steps p.tables e below (T1.setTop { method := m, pc := pc + 3, locals := ls, stack := .ref T.heap.size :: rest, locked := none }) _
  jvm_step X₁.here [X₁.here.top, hexec, d3', Value.category]
  exact hsteps
/-- 'throw new E("text")': new; dup; ldc; invokespecial; athrow -/
theorem vx_throwS {cc : ByteArray} {pc : Nat} (hexec : p.tables.exec = Jvm.exec) (hb : c.code = cc) (hl : l.stackTraces = false) {own cls text : String} {names : List String} {ik is ic mc ms sa : Nat} {A : Nat → Prop}
    (hown : s.vm.findClass own = some m.cls) (hcls : Bundle.fit cls = true) (hnames : ∀ n ∈ names, Bundle.fit n = true)
    (hk : (Cond.classLink own ik cls).before args s = true) (hini : (Cond.initialized cls).before args s = true) (hstr : vk_R own is text sa s) (hat : ∀ w ∈ vx_atS own ic cls names, w.before args s = true)
    (hgood : ∀ w ∈ Cond.classLink own ik cls :: Cond.initialized cls :: vx_atS own ic cls names, vx_ot w = true)
    (hU : vx_Zq Bundle.tN "UNASSIGNED_STACK" Bundle.steD A s s.heap) (hN : vx_Zq Bundle.tN "SUPPRESSED_SENTINEL" Bundle.listD A s s.heap) (hS : va_S A s.heap H locs) (hsize : ls.size = c.maxLocals)
    (d0 : decode cc pc = .ok (.new ik, 3)) (d3 : decode cc (pc + 3) = .ok (.dup, 1)) (d4 : decode cc (pc + 4) = .ok (.ldc is, 2)) (d6 : decode cc (pc + 6) = .ok (.invokespecial ic, 3)) (d9 : decode cc (pc + 9) = .ok (.athrow, 1))
    (hout : ∀ x ∈ c.exceptionTable.toList, covers x (pc + 9) = false)
    (hRframes : names.length + 3 < R.frames) (hRlocals : (rest.map fun v => v.category).sum + (13 * (names.length + 1) + 43) ≤ R.locals) (hRcells : cells + 1 ≤ R.cells) (hRslots : slots + 6 ≤ R.slots) (hlocks : meth.locks = false)
    (hx : ∀ t : State, s.vm.Alike t.vm → H.size ≤ t.heap.size → (∀ q : Nat, q < H.size → t.heap[q]? = H[q]?) → XC cls s t)
    (hf : ∀ z ∈ locs, free z.base) (hc : cells + 1 ≤ mc) (hs : slots + 6 ≤ ms) :
    W p l e R s m args below meth c H locs cells slots (vx_MQ below Qc XC args s mc ms free) (F0 m pc ls rest) := by
  intro T hT X
  have htr : e.platform.stackTraces = false := (show e.platform.stackTraces = l.stackTraces by rw [X.admits.platform]).trans hl
  have Y := vx_rebase X (R' := { frames := R.frames, locals := R.locals, cells := 1, slots := 6 }) (Nat.le_refl _) (Nat.le_refl _) hRcells hRslots
  obtain ⟨s', hA⟩ : ∃ z, z = (T.setVm s.vm).setFrames (.invoking m args :: below) := ⟨_, rfl⟩
  rw [← hA] at Y
  have hvm : s'.vm = s.vm := by rw [hA]; rfl
  have hhp : s'.heap = H := by rw [hA]; exact hT
  have hW0 : s.WarmedH s'.vm := by rw [hvm]; exact State.WarmedH.refl s
  have hat' : ∀ w ∈ vx_atS own ic cls names, w.before args s' = true := fun w hw => vx_ot_at hW0 hvm.symm (hgood w (List.mem_cons_of_mem _ (List.mem_cons_of_mem _ hw))) (hat w hw)
  have hk' : (Cond.classLink own ik cls).before args s' = true := vx_ot_at hW0 hvm.symm (hgood _ List.mem_cons_self) hk
  have hini' : (Cond.initialized cls).before args s' = true := vx_ot_at hW0 hvm.symm (hgood _ (List.mem_cons_of_mem _ List.mem_cons_self)) hini
  have hU' : vx_Zq Bundle.tN "UNASSIGNED_STACK" Bundle.steD A s' s'.heap := by rw [hhp]; exact vx_Zq.moved hW0.alike (hU.kept hS.2.1)
  have hN' : vx_Zq Bundle.tN "SUPPRESSED_SENTINEL" Bundle.listD A s' s'.heap := by rw [hhp]; exact vx_Zq.moved hW0.alike (hN.kept hS.2.1)
  have h : ∀ w ∈ Bundle.ownAtoms own ic cls names, w.before args s' = true := vx_own hat' (vx_isRefq hU'.1) (vx_isRefq hN'.1) hU'.2.word hN'.2.word
  have hown' : s'.vm.findClass own = some m.cls := by rw [hvm]; exact hown
  have hins : (Cond.instantiable cls 6).before args s' = true := h _ (by simp [Bundle.ownAtoms])
  obtain ⟨vm₁, cX, kX, hfX, hkX, -, -, X₁, st1⟩ := Y.newCold hexec (own := own) (C := cls) (index := ik) (n := 6) hown' hk' hins hini'
    (g := F0 m pc ls rest) rfl (by rw [hb]; exact d0) (Nat.le_refl _) (Nat.le_refl _)
  generalize hT1 : (T.setVm vm₁).pushCell { cls := cX, slots := kX.instanceTypes.map defaultValue, vm := .none } = T1 at X₁ st1
  have hcat : (Value.ref T.heap.size).category = 1 := rfl
  have hcellA : T1.heap[T.heap.size]? = some (freshCell cX kX) := by rw [← hT1]; exact State.heap_pushCell_size _ _
  have d3' : decode c.code (pc + 3) = .ok (.dup, 1) := by rw [hb]; exact d3
  have d4' : decode c.code (pc + 4) = .ok (.ldc is, 2) := by rw [hb]; exact d4
  have hstr' : vk_R own is text sa s' := vk_R.warm hW0 hstr
  obtain ⟨U, hsteps, hrun, hend, hW, hsame, ce, hce, hO⟩ := X₁.ctorThrowS hexec htr (own := own) (cls := cls) (names := names) (ic := ic) hown' hcls hnames h (fun x hx => nomatch hx) hfX hkX hcellA (by rw [hhp, hT]; exact Nat.le_refl _) (msg := .ref sa) rfl
    (g := { method := m, pc := pc + 6, locals := ls, stack := .ref sa :: .ref T.heap.size :: .ref T.heap.size :: rest, locked := none }) rfl hsize rfl rfl (rest := rest) rfl
    (by rw [hb]; exact d6) (by rw [hb]; exact d9) hout hRframes (by simp only [List.map_cons, List.sum_cons, hcat]; omega) hlocks
  obtain ⟨f1, f2⟩ := vx_frame hsame
  rw [hhp] at f1 f2
  have hWs : s.WarmedH U.vm := State.WarmedH.trans hW0 hW
  have hcl : s.vm.findClass cls = some ce.cls := by
    have h9 := hO.cls
    rw [hvm] at h9
    exact h9
  have hall : s.sameButNew ({ U with vm := s.vm } : State) locs mc ms := by
    subst hA
    obtain ⟨e1, e2⟩ := hsame
    rw [State.setFrames_setFrames] at e1
    have h2 : (T.setVm s.vm).sameButNew ({ U with vm := s.vm } : State) [] (0 + 1) (0 + 6) := ⟨e1, e2⟩
    have h3 := X.same.trans h2
    rw [List.append_nil] at h3
    exact h3.mono hc hs
  refine ⟨U, ?_, .threw T.heap.size, hrun, hend, Or.inr ⟨T.heap.size, rfl, cls, ce, locs, hx U hWs.alike f1 (fun q hq => f2 q hq (fun z hz => nomatch hz)), hce, hO.vm, hcl, hWs, hall, hf⟩⟩
  refine st1 _ ?_
  show Steps p.tables e below (T1.setTop { method := m, pc := pc + 3, locals := ls, stack := .ref T.heap.size :: rest, locked := none }) _
  jvm_step X₁.here [X₁.here.top, hexec, d3', Value.category]
  exact X₁.ldcString hexec (own := own) (text := text) (index := is) (a := sa) hown' hstr'.1 hstr'.2
    (g := { method := m, pc := pc + 4, locals := ls, stack := .ref T.heap.size :: .ref T.heap.size :: rest, locked := none }) rfl d4' _ hsteps
/-- 'throw new E("text")', the text by a wide index -/
theorem vx_throwSW {cc : ByteArray} {pc : Nat} (hexec : p.tables.exec = Jvm.exec) (hb : c.code = cc) (hl : l.stackTraces = false) {own cls text : String} {names : List String} {ik is ic mc ms sa : Nat} {A : Nat → Prop}
    (hown : s.vm.findClass own = some m.cls) (hcls : Bundle.fit cls = true) (hnames : ∀ n ∈ names, Bundle.fit n = true)
    (hk : (Cond.classLink own ik cls).before args s = true) (hini : (Cond.initialized cls).before args s = true) (hstr : vk_R own is text sa s) (hat : ∀ w ∈ vx_atS own ic cls names, w.before args s = true)
    (hgood : ∀ w ∈ Cond.classLink own ik cls :: Cond.initialized cls :: vx_atS own ic cls names, vx_ot w = true)
    (hU : vx_Zq Bundle.tN "UNASSIGNED_STACK" Bundle.steD A s s.heap) (hN : vx_Zq Bundle.tN "SUPPRESSED_SENTINEL" Bundle.listD A s s.heap) (hS : va_S A s.heap H locs) (hsize : ls.size = c.maxLocals)
    (d0 : decode cc pc = .ok (.new ik, 3)) (d3 : decode cc (pc + 3) = .ok (.dup, 1)) (d4 : decode cc (pc + 4) = .ok (.ldc_w is, 3)) (d7 : decode cc (pc + 7) = .ok (.invokespecial ic, 3)) (d10 : decode cc (pc + 10) = .ok (.athrow, 1))
    (hout : ∀ x ∈ c.exceptionTable.toList, covers x (pc + 10) = false)
    (hRframes : names.length + 3 < R.frames) (hRlocals : (rest.map fun v => v.category).sum + (13 * (names.length + 1) + 43) ≤ R.locals) (hRcells : cells + 1 ≤ R.cells) (hRslots : slots + 6 ≤ R.slots) (hlocks : meth.locks = false)
    (hx : ∀ t : State, s.vm.Alike t.vm → H.size ≤ t.heap.size → (∀ q : Nat, q < H.size → t.heap[q]? = H[q]?) → XC cls s t)
    (hf : ∀ z ∈ locs, free z.base) (hc : cells + 1 ≤ mc) (hs : slots + 6 ≤ ms) :
    W p l e R s m args below meth c H locs cells slots (vx_MQ below Qc XC args s mc ms free) (F0 m pc ls rest) := by
  intro T hT X
  have htr : e.platform.stackTraces = false := (show e.platform.stackTraces = l.stackTraces by rw [X.admits.platform]).trans hl
  have Y := vx_rebase X (R' := { frames := R.frames, locals := R.locals, cells := 1, slots := 6 }) (Nat.le_refl _) (Nat.le_refl _) hRcells hRslots
  obtain ⟨s', hA⟩ : ∃ z, z = (T.setVm s.vm).setFrames (.invoking m args :: below) := ⟨_, rfl⟩
  rw [← hA] at Y
  have hvm : s'.vm = s.vm := by rw [hA]; rfl
  have hhp : s'.heap = H := by rw [hA]; exact hT
  have hW0 : s.WarmedH s'.vm := by rw [hvm]; exact State.WarmedH.refl s
  have hat' : ∀ w ∈ vx_atS own ic cls names, w.before args s' = true := fun w hw => vx_ot_at hW0 hvm.symm (hgood w (List.mem_cons_of_mem _ (List.mem_cons_of_mem _ hw))) (hat w hw)
  have hk' : (Cond.classLink own ik cls).before args s' = true := vx_ot_at hW0 hvm.symm (hgood _ List.mem_cons_self) hk
  have hini' : (Cond.initialized cls).before args s' = true := vx_ot_at hW0 hvm.symm (hgood _ (List.mem_cons_of_mem _ List.mem_cons_self)) hini
  have hU' : vx_Zq Bundle.tN "UNASSIGNED_STACK" Bundle.steD A s' s'.heap := by rw [hhp]; exact vx_Zq.moved hW0.alike (hU.kept hS.2.1)
  have hN' : vx_Zq Bundle.tN "SUPPRESSED_SENTINEL" Bundle.listD A s' s'.heap := by rw [hhp]; exact vx_Zq.moved hW0.alike (hN.kept hS.2.1)
  have h : ∀ w ∈ Bundle.ownAtoms own ic cls names, w.before args s' = true := vx_own hat' (vx_isRefq hU'.1) (vx_isRefq hN'.1) hU'.2.word hN'.2.word
  have hown' : s'.vm.findClass own = some m.cls := by rw [hvm]; exact hown
  have hins : (Cond.instantiable cls 6).before args s' = true := h _ (by simp [Bundle.ownAtoms])
  obtain ⟨vm₁, cX, kX, hfX, hkX, -, -, X₁, st1⟩ := Y.newCold hexec (own := own) (C := cls) (index := ik) (n := 6) hown' hk' hins hini'
    (g := F0 m pc ls rest) rfl (by rw [hb]; exact d0) (Nat.le_refl _) (Nat.le_refl _)
  generalize hT1 : (T.setVm vm₁).pushCell { cls := cX, slots := kX.instanceTypes.map defaultValue, vm := .none } = T1 at X₁ st1
  have hcat : (Value.ref T.heap.size).category = 1 := rfl
  have hcellA : T1.heap[T.heap.size]? = some (freshCell cX kX) := by rw [← hT1]; exact State.heap_pushCell_size _ _
  have d3' : decode c.code (pc + 3) = .ok (.dup, 1) := by rw [hb]; exact d3
  have d4' : decode c.code (pc + 4) = .ok (.ldc_w is, 3) := by rw [hb]; exact d4
  have hstr' : vk_R own is text sa s' := vk_R.warm hW0 hstr
  obtain ⟨U, hsteps, hrun, hend, hW, hsame, ce, hce, hO⟩ := X₁.ctorThrowS hexec htr (own := own) (cls := cls) (names := names) (ic := ic) hown' hcls hnames h (fun x hx => nomatch hx) hfX hkX hcellA (by rw [hhp, hT]; exact Nat.le_refl _) (msg := .ref sa) rfl
    (g := { method := m, pc := pc + 7, locals := ls, stack := .ref sa :: .ref T.heap.size :: .ref T.heap.size :: rest, locked := none }) rfl hsize rfl rfl (rest := rest) rfl
    (by rw [hb]; exact d7) (by rw [hb]; exact d10) hout hRframes (by simp only [List.map_cons, List.sum_cons, hcat]; omega) hlocks
  obtain ⟨f1, f2⟩ := vx_frame hsame
  rw [hhp] at f1 f2
  have hWs : s.WarmedH U.vm := State.WarmedH.trans hW0 hW
  have hcl : s.vm.findClass cls = some ce.cls := by
    have h9 := hO.cls
    rw [hvm] at h9
    exact h9
  have hall : s.sameButNew ({ U with vm := s.vm } : State) locs mc ms := by
    subst hA
    obtain ⟨e1, e2⟩ := hsame
    rw [State.setFrames_setFrames] at e1
    have h2 : (T.setVm s.vm).sameButNew ({ U with vm := s.vm } : State) [] (0 + 1) (0 + 6) := ⟨e1, e2⟩
    have h3 := X.same.trans h2
    rw [List.append_nil] at h3
    exact h3.mono hc hs
  refine ⟨U, ?_, .threw T.heap.size, hrun, hend, Or.inr ⟨T.heap.size, rfl, cls, ce, locs, hx U hWs.alike f1 (fun q hq => f2 q hq (fun z hz => nomatch hz)), hce, hO.vm, hcl, hWs, hall, hf⟩⟩
  refine st1 _ ?_
  show Steps p.tables e below (T1.setTop { method := m, pc := pc + 3, locals := ls, stack := .ref T.heap.size :: rest, locked := none }) _
  jvm_step X₁.here [X₁.here.top, hexec, d3', Value.category]
  exact X₁.ldcStringW hexec (own := own) (text := text) (index := is) (a := sa) hown' hstr'.1 hstr'.2
    (g := { method := m, pc := pc + 4, locals := ls, stack := .ref T.heap.size :: .ref T.heap.size :: rest, locked := none }) rfl d4' _ hsteps
end Ends
section Bodies
variable {l : Launch}
theorem vx_ofW {y : MethodName} {ws ws' : List Cond} {rm : Room} {Pc : Array Value → State → Prop} {Qc : Array Value → State → Outcome → State → Prop} {XC : String → State → State → Prop} {mc ms : Nat} {free : Addr → Prop} {cc : ByteArray} {maxL : Nat} {ret : Option FieldType}
    (hy : plainName y.cls = true) (hw : ws = Cond.code y cc maxL ret :: ws')
    (body : ∀ p e s m args below meth c s₁, BodyLoose p l y (headSpec ws rm) cc maxL ret e s m args below meth c s₁ → c.maxLocals = maxL → (∀ x ∈ c.exceptionTable.toList, False) → Pc args s →
      W p l e (headSpec ws rm).room s m args below meth c s.heap [] 0 0 (vx_MQ below Qc XC args s mc ms free) (entryFrame m args maxL)) : vx_Met l y ws rm Pc Qc XC mc ms free := by
  refine MetFree.of_bodyS (code := cc) (maxLocals := maxL) (ret := ret) hy ?_ ?_
  · intro args s m h hn
    obtain ⟨meth, c, h1, h2, h3, h4, h5, h6, -, -⟩ := Cond.code_spec hn (atoms_spec (ws := ws) h _ (by rw [hw]; exact List.mem_cons_self))
    exact ⟨meth, c, h1, h2, h3, h4, h5, h6⟩
  · intro p e s m args below meth c s₁ B hml hP _
    have hh0 : s₁.heap = s.heap := by rw [B.state]; rfl
    have ht : ∀ x ∈ c.exceptionTable.toList, False := by
      obtain ⟨meth9, c9, h1, h2, -, -, -, -, h7, -⟩ := Cond.code_spec B.named (atoms_spec (ws := ws) B.pre _ (by rw [hw]; exact List.mem_cons_self))
      cases Option.some.inj (h1.symm.trans B.method)
      cases Option.some.inj (h2.symm.trans (Stand.of_body B).code)
      intro x hx
      rw [Array.isEmpty_iff.mp h7] at hx
      cases hx
    obtain ⟨t, a1, o, b1, b2, b3⟩ := body p e s m args below meth c s₁ B hml ht hP s₁ hh0 (Stand.of_body B)
    exact ⟨t, o, a1, b1, b2, b3⟩
/-- the table of a body with handlers -/
theorem vx_table {p : Program} {x y : MethodName} {S : Spec} {cc bytes : ByteArray} {maxL maxL' : Nat} {ret ret' : Option FieldType} {e : Env} {s s₁ : State} {m : MethodId} {args : Array Value} {below : List Frame} {meth : Method} {c : Code} {hh : List (Nat × Nat × Nat × Nat)}
    (B : BodyLoose p l y S cc maxL ret e s m args below meth c s₁) (h : (Cond.codeWith y bytes maxL' ret' hh).before args s = true) : c.exceptionTable.toList = tableOf hh := by
  obtain ⟨m9, meth9, c9, hn9, h1, h2, -, -, h6, -⟩ := Cond.codeWith_spec h
  cases Option.some.inj (hn9.symm.trans B.named)
  cases Option.some.inj (h1.symm.trans B.method)
  cases Option.some.inj (h2.symm.trans (Stand.of_body B).code)
  rw [← h6, table_eq]
end Bodies
end VXA
/-! ===== END ===== -/
/-! ===== BEGIN a static call of a method with an exception table ===== -/
section VXS
variable {p : Program} {l : Launch} {e : Env} {R : Room} {s : State} {m : MethodId} {args : Array Value} {below : List Frame} {meth : Method} {c : Code} {T : State} {H : Heap} {locs : List Loc} {cells slots : Nat}
abbrev vx_CSW (R : Room) (s : State) (args : Array Value) (own : String) (index : Nat) (y : MethodName) (bytes : ByteArray) (maxL : Nat) (ret : Option FieldType) (hh : List (Nat × Nat × Nat × Nat)) (ws : List Cond) (rm : Room) (mc ms n : Nat) : Prop :=
  (rm.cells = mc ∧ rm.slots = ms ∧ rm.frames + 1 ≤ R.frames ∧ 8 + (maxL + 11) + rm.locals ≤ R.locals ∧ (∀ w ∈ ws, ∀ (a' : Array Value) (U : State), s.WarmedH U.vm → w.before a' U = true) ∧ Cond.codeWith y bytes maxL ret hh ∈ ws) ∧
  (Cond.codeWith y bytes maxL ret hh).before args s = true ∧ (Cond.initialized y.cls).before args s = true ∧ (y.cls ≠ "java/lang/invoke/MethodHandle" ∧ y.cls ≠ "java/lang/invoke/VarHandle") ∧
  (∀ sig, parseMethodDescriptor y.desc = some sig → n = sig.parameters.length) ∧ (Cond.methodLink own index y).before args s = true ∧ (Cond.static y).before args s = true
theorem vx_cwSW {own : String} {index maxL mc ms : Nat} {y : MethodName} {bytes : ByteArray} {ret : Option FieldType} {hh : List (Nat × Nat × Nat × Nat)} {Ts ws ws' : List Cond} {rm : Room} (n : Nat) (ht : ∀ w ∈ Ts, w.before args s = true) (hT : GoodIn Ts (va_wsS own index y ws)) (hw : ws = Cond.codeWith y bytes maxL ret hh :: ws') (hrc : rm.cells = mc) (hrs : rm.slots = ms)
    (hd : y.cls ≠ "java/lang/invoke/MethodHandle" ∧ y.cls ≠ "java/lang/invoke/VarHandle" ∧ (parseMethodDescriptor y.desc).map (fun d => d.parameters.length) = some n) (hR : rm.frames + 1 ≤ R.frames ∧ 8 + (maxL + 11) + rm.locals ≤ R.locals) :
    vx_CSW R s args own index y bytes maxL ret hh ws rm mc ms n := by
  have ok : ∀ w ∈ va_wsS own index y ws, w.before args s = true := fun w h => ht w (hT w h).1
  have hG : GoodIn Ts ws := fun w h => hT w (by unfold va_wsS; exact List.mem_append_right _ h)
  have hc : Cond.codeWith y bytes maxL ret hh ∈ ws := by rw [hw]; exact List.mem_cons_self
  refine ⟨⟨hrc, hrs, hR.1, hR.2, pay_in ht hG, hc⟩, ht _ (hG _ hc).1, ok _ (by simp [va_wsS]), ⟨hd.1, hd.2.1⟩, fun sig h => ?_, ok _ (by simp [va_wsS]), ok _ (by simp [va_wsS])⟩
  have h2 := hd.2.2
  rw [h] at h2
  exact (Option.some.inj h2).symm
theorem vx_callSW (X : Stand p l e R s m args below meth c T locs cells slots) (hexec : p.tables.exec = Jvm.exec) {own : String} {index : Nat} {y : MethodName} {bytes : ByteArray} {maxL : Nat} {ret : Option FieldType} {hh : List (Nat × Nat × Nat × Nat)}
    (hown : s.vm.findClass own = some m.cls) (hlink : (Cond.methodLink own index y).before args s = true) (hstat : (Cond.static y).before args s = true) (hinit : (Cond.initialized y.cls).before args s = true)
    (hcode : (Cond.codeWith y bytes maxL ret hh).before args s = true) (hy : y.cls ≠ "java/lang/invoke/MethodHandle" ∧ y.cls ≠ "java/lang/invoke/VarHandle")
    {W9 : Nat} {Pre : Pt → Array Value → Prop} {Post : Pt → Array Value → Option Value → Pt → Prop} (hK : Back l R p e below s args y 3 W9 Pre Post)
    {g : JFrame} (hg : g.method = m) (hsize : g.locals.size = c.maxLocals) {argsL rest : List Value} (hlen : ∀ sig, parseMethodDescriptor y.desc = some sig → argsL.length = sig.parameters.length)
    (hstack : g.stack = argsL.reverse ++ rest) (hW : 2 * g.monitorRoom + (rest.map fun v => v.category).sum ≤ W9) (hdg : decode c.code g.pc = .ok (.invokestatic index, 3))
    (hpre : ∀ vm₁, s.WarmedH vm₁ → Pre ⟨T.setVm vm₁, locs, cells, slots⟩ argsL.toArray) :
    ∃ (v : Option Value) (vm₁ : Vm) (B : Pt), s.WarmedH vm₁ ∧ Stand p l e R s m args below meth c B.U B.locs B.cells B.slots ∧ Post ⟨T.setVm vm₁, locs, cells, slots⟩ argsL.toArray v B ∧
      ∀ target, Steps p.tables e below (B.U.setTop { g with pc := g.pc + 3, stack := v.toList ++ rest }) target → Steps p.tables e below (T.setTop g) target := by
  obtain ⟨mk, methM, cM, hnamed, hmethM, -, -, -, -, -, -, hsigM⟩ := Cond.codeWith_spec hcode
  have hstatic : methM.isStatic = true := Cond.static_spec hnamed hmethM hstat
  obtain ⟨kP, hkP, -⟩ := className_of_methodNamed hnamed
  have hinitP : kP.init = .initialized := Cond.initialized_spec (findClass_of_methodNamed hnamed) hkP hinit
  obtain ⟨vm₁, X₁, hstep₁⟩ := X.invokestatic hexec hown hlink hnamed hmethM hstatic hkP hinitP hy (g := g) hg (argsL := argsL) (rest := rest) (hlen _ hsigM) hstack hdg
  obtain ⟨v, B, X', hpost, hsteps⟩ := hK m meth c ⟨T.setVm vm₁, locs, cells, slots⟩ { g with stack := rest } (.invokestatic index) mk argsL.toArray X₁ hg hsize hdg hW (X₁.named hnamed) (hpre vm₁ X₁.warmed)
  exact ⟨v, vm₁, B, X₁.warmed, X', hpost, fun target h => hstep₁ _ fun acts => by rw [doInvoke_state]; exact hsteps.trans h⟩
theorem vx_runSW {y : MethodName} {bytes cc : ByteArray} {maxL nL mc ms n index : Nat} {ret : Option FieldType} {hh : List (Nat × Nat × Nat × Nat)} {ws : List Cond} {rm : Room} {Pc : Array Value → State → Prop} {Qc : Array Value → State → Outcome → State → Prop} {free : Addr → Prop} {Ts : List Cond} {own : String} {As rest : List Value} {g : JFrame}
    (S : CallFix p m c cc nL s args Ts own) (hM : Met l y ws rm Pc Qc mc ms free) (cw : vx_CSW R s args own index y bytes maxL ret hh ws rm mc ms n) (hp : PreS s H Pc As)
    (hg : g.method = m) (hn : As.length = n) (hsize : g.locals.size = nL) (hstack : g.stack = As.reverse ++ rest) (hW : 2 * g.monitorRoom + (rest.map fun v => v.category).sum ≤ 8) (hdg : decode cc g.pc = .ok (.invokestatic index, 3)) (hf : cells + mc ≤ R.cells ∧ slots + ms ≤ R.slots) :
    va_Run p l e R s m args below meth c H locs cells slots mc ms g rest (Qc As.toArray) (free) := by
  obtain ⟨⟨hrc, hrs, hfr, hlo, hws, hcw⟩, hcode, hini, hy, hlen, hl, hstt⟩ := cw
  have hK : Back l R p e below s args y 3 8 (PreOf R mc ms Pc) (PostOf Qc mc ms free) := va_backW (hh := hh) (bytes := bytes) (maxL := maxL) (ret := ret) hM hp.1 hrc hrs hfr hlo hws hcw (fun a' U hW => word_at hW (Or.inl (by first | rfl | simp [Cond.onTables, Cond.keeps, Cond.steady])) hini)
  obtain ⟨hx, hb, hml, ho, -⟩ := S
  intro T hT X
  obtain ⟨v, vm₁, ⟨U', l2, c2, s2⟩, hW₁, X', ⟨g', mk, t, L, e1, e2, hq, h1, hL, h2, h3⟩, st⟩ := vx_callSW X hx (hh := hh) (bytes := bytes) (maxL := maxL) (ret := ret) ho hl hstt hini hcode hy hK hg (hsize.trans hml.symm) (argsL := As) (rest := rest) (fun sig h => hn.trans (hlen sig h)) hstack hW (by rw [hb]; exact hdg)
    (fun vm₁ hW₁ => ⟨hf.1, hf.2, hp.2 (T.setVm vm₁) hT hW₁⟩)
  dsimp only [Pt.U, Pt.locs, Pt.cells, Pt.slots] at X' e1 e2 h1 h2 h3 st
  subst h1; subst h2; subst h3
  exact ⟨v, (T.setVm vm₁).calling g' mk As.toArray, t, U', L, hT, X', hL, e1, e2, hq, st⟩
/-- not caught here, past rows that name other classes: it goes on to the caller -/
theorem vx_outP {p : Program} {l : Launch} {e : Env} {R : Room} {s : State} {m : MethodId} {args : Array Value} {below : List Frame} {meth : Method} {c : Code} {H : Heap} {locs : List Loc} {cells slots : Nat} {free : Addr → Prop} {ls : Array Slot} {rest : List Value} {Qc : Array Value → State → Outcome → State → Prop} {XC : String → State → State → Prop}
    {pc : Nat} {own E : String} {ce : Cell} {q : Addr} {mc ms : Nat} (hown : s.vm.findClass own = some m.cls) (hlocks : meth.locks = false)
    (hpass : ∀ z ∈ c.exceptionTable.toList, covers z pc = false ∨ (z.catchType ≠ 0 ∧ ∃ nm : String, (Cond.classLink own z.catchType nm).before args s = true ∧ va_Nc E nm s)) (hcell : H[q]? = some ce) (hv : ce.vm = .none) (hcl : s.vm.findClass E = some ce.cls)
    (hx : ∀ t : State, t.heap = H → s.vm.Alike t.vm → XC E s t) (hf : ∀ z ∈ locs, free z.base) (hc : cells ≤ mc) (hs : slots ≤ ms) :
    vx_W p l e R s m args below meth c H locs cells slots (vx_MQ below Qc XC args s mc ms free) (F0 m pc ls rest) q := by
  intro T hT X
  have hpl : e.platform.magicAccessors = ({} : Platform).magicAccessors := by rw [X.admits.platform]
  obtain ⟨vm', hW', X', st⟩ := X.outThrough hlocks q (g := F0 m pc ls rest) rfl rfl rfl (cell := ce) (by rw [hT]; exact hcell) (by rw [hv]; rfl)
    (by obtain ⟨k9, h9, -⟩ := Vm.findClass_spec hcl; exact ⟨k9, h9⟩) (fun z hz => by
      rcases hpass z hz with h | ⟨hz0, nm, hl1, hn1⟩
      · exact Or.inl h
      · obtain ⟨c6, hc6, hcl6⟩ := Cond.classLink_spec hown hl1 e.platform hpl
        obtain ⟨a8, b8, h1, h2, h3⟩ := hn1
        cases Option.some.inj (h1.symm.trans hcl)
        cases Option.some.inj (h2.symm.trans hc6)
        exact Or.inr ⟨hz0, _, hcl6, h3⟩)
  obtain ⟨g₀, hfr⟩ := X'.frames_eq
  have hcell9 : ((T.setVm vm').setFrames (.throwing q :: below)).heap[q]? = some ce := by
    show T.heap[q]? = some ce
    rw [hT]; exact hcell
  have hend : Ended ((T.setVm vm').setFrames (.throwing q :: below)) below (.threw q) := State.frames_setFrames _ (State.cur_lt_of_frames hfr)
  refine ⟨(T.setVm vm').setFrames (.throwing q :: below), ?_, .threw q, X'.here.running, hend, Or.inr ⟨q, rfl, E, ce, locs, hx _ hT (X'.ends _).1.alike, hcell9, hv, hcl, (X'.ends _).1, (X'.ends _).2.mono hc hs, hf⟩⟩
  rw [X.pushThrowing_eq]
  exact st
/-- a thing of a world lies in the heap -/
theorem vx_lt {D : va_G} {cl : List vw_C} {ws : va_W} {H1 : Heap} (h : va_P D cl ws H1) {k : Nat} {q : Nat × va_E} (hk : ws[k]? = some q) : q.1 < H1.size := (h k q hk).lt
end VXS
/-! ===== END ===== -/
/-! ===== BEGIN methods with a table of their own: called by a name, returning or throwing ===== -/
section VXH
/-! vx_backW, vx_callVX, vx_callSX, vx_callVW, vx_runVW, vx_runVX, vx_runSX, vx_ofWH follow the same proofs as their sisters above (Free/Laws.lean, Shelf42/LK1.lean); vx_outP calls Shelf42/NT130.lean (outThrough). -/
section
variable {l : Launch} {R : Room} {p : Program} {e : Env} {below : List Frame} {s : State} {sargs : Array Value} {y : MethodName} {len W9 : Nat}
theorem vx_backW {ws : List Cond} {rm : Room} {Pc : Array Value → State → Prop} {Qc : Array Value → State → Outcome → State → Prop} {XC : String → State → State → Prop} {mc ms : Nat} {free : Addr → Prop} {bytes : ByteArray} {maxL : Nat} {ret : Option FieldType} {hh : List (Nat × Nat × Nat × Nat)}
    (hM : vx_Met l y ws rm Pc Qc XC mc ms free) (hblind : FrameBlind Pc) (hrc : rm.cells = mc) (hrs : rm.slots = ms)
    (hframes : rm.frames + 1 ≤ R.frames) (hlocals : W9 + (maxL + 11) + rm.locals ≤ R.locals)
    (hws : ∀ w ∈ ws, ∀ a' U, s.WarmedH U.vm → w.before a' U = true) (hcode : Cond.codeWith y bytes maxL ret hh ∈ ws) (hinit : ∀ a' U, s.WarmedH U.vm → (Cond.initialized y.cls).before a' U = true) :
    vx_Back l R p e below s sargs y len W9 (PreOf R mc ms Pc) (PostOf Qc mc ms free) (vx_Post XC mc ms free) := by
  intro m meth c A g ig mk a X hg hsize hdg hW hn hp
  have h1 : (headSpec ws rm).pre.before a A.U = true := atoms_intro fun w hw => hws w hw _ _ X.warmed
  have h2 : (Cond.codeWith y bytes maxL ret hh).before a A.U = true := hws _ hcode _ _ X.warmed
  have h3 : (Cond.initialized y.cls).before a A.U = true := hinit _ _ X.warmed
  have h4 : A.cells + (headSpec ws rm).room.cells ≤ R.cells := by rw [show (headSpec ws rm).room.cells = mc from hrc]; exact hp.1
  have h5 : A.slots + (headSpec ws rm).room.slots ≤ R.slots := by rw [show (headSpec ws rm).room.slots = ms from hrs]; exact hp.2.1
  have hPc : Pc a (A.U.calling g mk a) := hblind _ _ _ _ hp.2.2
  obtain ⟨U, Ls, c0, s0⟩ := A
  dsimp only [Pt.U, Pt.locs, Pt.cells, Pt.slots] at h1 h2 h3 h4 h5 X hn hPc ⊢
  obtain ⟨m9, methY, cY, hn9, hmY, hcY, -, hlY, -⟩ := Cond.codeWith_spec h2
  cases Option.some.inj (hn9.symm.trans hn)
  obtain ⟨kY, hkY, -⟩ := className_of_methodNamed hn
  have hinitY : kY.init = .initialized := Cond.initialized_spec (findClass_of_methodNamed hn) hkY h3
  have h : At U g.method c below := by rw [hg]; exact X.here
  have hlocals9 : W9 + (maxL + 11) + (headSpec ws rm).room.locals ≤ R.locals := hlocals
  have happ : (headSpec ws rm).appliesLoose y e.platform (U.calling g mk a) = true :=
    Spec.appliesLoose_calling (g := g) h hdg hn hkY hinitY
      (X.room_calling (g := g) (R' := (headSpec ws rm).room) hsize hmY hcY hframes (by rw [hlY]; omega) h4 h5) h1
  obtain ⟨mid, hmid⟩ := h.above
  have hfr : (U.setTop g).frames = (.java g :: mid) ++ below := by rw [State.frames_setTop' g h.top, hmid]; rfl
  obtain ⟨o, s₂, hsteps, -, hend, hq⟩ := Steps.callFree hM p X.admits X.cas X.clock (acts := []) hfr happ hPc trivial
  have hq' : vx_Q Qc XC mc ms free a (U.calling g mk a) o s₂ := hq
  rw [State.frames_setTop' g h.top] at hend
  obtain ⟨g₀, hg0⟩ := Option.isSome_iff_exists.mp h.top
  obtain ⟨r, hr⟩ := State.topJava?_eq_some.mp hg0
  have hr' : (({ U with heap := s₂.heap, slotsUsed := s₂.slotsUsed } : State).setVm s₂.vm).frames = .java g₀ :: r := hr
  rcases hq' with ⟨hqc, L, hfe, hL⟩ | ⟨q, rfl, E, ce, L, hx, hce, hcv, hcl, hW₂, hsm, hL⟩
  · obtain ⟨⟨v, rfl⟩, hW₂, e2, q2, q3, q4, q5, q6⟩ := id hfe
    have e3 : s₂ = ({ (U.calling g mk a).setFrames s₂.frames with heap := s₂.heap, slotsUsed := s₂.slotsUsed } : State).setVm s₂.vm := by
      have : s₂ = ({ s₂ with vm := (U.calling g mk a).vm } : State).setVm s₂.vm := rfl
      rw [e2] at this
      exact this
    obtain ⟨c₂, i₂, len₂, hc₂, hd₂, hf₂⟩ := hend
    have hW' : U.WarmedH s₂.vm := hW₂
    have hcc : c₂ = c := by
      have h1 : s₂.code? g.method = U.code? g.method := by
        rw [State.code?_eq, State.code?_eq, hW'.alike.method?]
      exact Option.some.inj (hc₂.symm.trans (h1.trans h.code))
    subst hcc
    have hlen : len₂ = len := by rw [hdg] at hd₂; cases hd₂; rfl
    subst hlen
    have hs₂ : s₂ = (({ U with heap := s₂.heap, slotsUsed := s₂.slotsUsed } : State).setVm s₂.vm).setTop { g with pc := g.pc + len₂, stack := v.toList ++ g.stack } := by
      refine e3.trans ?_
      rw [hf₂, State.calling_eq h.top, State.setFrames_setFrames, State.setTop_of_frames _ hr', hr]
      rfl
    have hsame : U.sameButNew ({ U with heap := s₂.heap, slotsUsed := s₂.slotsUsed } : State) L mc ms := by
      refine ⟨?_, q2, q3, q4, q5, q6⟩
      obtain ⟨t, ht, -⟩ := State.frames_cons hr
      show ({ U with heap := s₂.heap, slotsUsed := s₂.slotsUsed } : State) = { U.setFrames U.frames with heap := s₂.heap, slotsUsed := s₂.slotsUsed }
      rw [State.setFrames_self ht]
    subst hg
    refine Or.inl ⟨v, ⟨(({ U with heap := s₂.heap, slotsUsed := s₂.slotsUsed } : State).setVm s₂.vm), Ls ++ L, c0 + mc, s0 + ms⟩,
      ⟨X.admits, X.cas, X.clock, X.frames, X.room, X.hears, X.method, X.code, (X.here.setHeapUsed s₂.heap s₂.slotsUsed).setVm hW'.alike, X.tail, State.WarmedH.trans X.warmed hW', X.limits, X.bytes, X.same.trans (hsame.setVm s.vm)⟩,
      ⟨g, mk, s₂, L, rfl, rfl, hqc, rfl, hL, rfl, rfl⟩, ?_⟩
    show Steps p.tables e below _ ((({ U with heap := s₂.heap, slotsUsed := s₂.slotsUsed } : State).setVm s₂.vm).setTop { g with pc := g.pc + len₂, stack := v.toList ++ g.stack })
    rw [← hs₂]
    exact hsteps
  · obtain ⟨e2, q2, q3, q4, q5, q6⟩ := id hsm
    have e3 : s₂ = ({ (U.calling g mk a).setFrames s₂.frames with heap := s₂.heap, slotsUsed := s₂.slotsUsed } : State).setVm s₂.vm := by
      have : s₂ = ({ s₂ with vm := (U.calling g mk a).vm } : State).setVm s₂.vm := rfl
      rw [e2] at this
      exact this
    have hf₂ : s₂.frames = .throwing q :: .java g :: U.frames.tail := hend
    have hW' : U.WarmedH s₂.vm := hW₂
    have hs₂ : s₂ = ((({ U with heap := s₂.heap, slotsUsed := s₂.slotsUsed } : State).setVm s₂.vm).setTop g).pushFrame (.throwing q) := by
      refine e3.trans ?_
      rw [hf₂, State.calling_eq h.top, State.setFrames_setFrames, State.pushFrame, State.frames_setTop _ hr', State.setTop_of_frames _ hr', State.setFrames_setFrames, hr]
      rfl
    have hsame : U.sameButNew ({ U with heap := s₂.heap, slotsUsed := s₂.slotsUsed } : State) L mc ms := by
      refine ⟨?_, q2, q3, q4, q5, q6⟩
      obtain ⟨t, ht, -⟩ := State.frames_cons hr
      show ({ U with heap := s₂.heap, slotsUsed := s₂.slotsUsed } : State) = { U.setFrames U.frames with heap := s₂.heap, slotsUsed := s₂.slotsUsed }
      rw [State.setFrames_self ht]
    subst hg
    refine Or.inr ⟨q, ⟨(({ U with heap := s₂.heap, slotsUsed := s₂.slotsUsed } : State).setVm s₂.vm), Ls ++ L, c0 + mc, s0 + ms⟩,
      ⟨X.admits, X.cas, X.clock, X.frames, X.room, X.hears, X.method, X.code, (X.here.setHeapUsed s₂.heap s₂.slotsUsed).setVm hW'.alike, X.tail, State.WarmedH.trans X.warmed hW', X.limits, X.bytes, X.same.trans (hsame.setVm s.vm)⟩,
      ⟨g, mk, s₂, L, E, ce, rfl, rfl, hx, hce, hcv, hcl, rfl, hL, rfl, rfl⟩, ?_⟩
    show Steps p.tables e below _ (((({ U with heap := s₂.heap, slotsUsed := s₂.slotsUsed } : State).setVm s₂.vm).setTop g).pushFrame (.throwing q))
    rw [← hs₂]
    exact hsteps
end
variable {p : Program} {l : Launch} {e : Env} {R : Room} {s : State} {m : MethodId} {args : Array Value} {below : List Frame} {meth : Method} {c : Code} {T : State} {H : Heap} {locs : List Loc} {cells slots : Nat}
theorem vx_callVX (X : Stand p l e R s m args below meth c T locs cells slots) (hexec : p.tables.exec = Jvm.exec) {own C : String} {index : Nat} {y : MethodName} {bytes : ByteArray} {maxL : Nat} {ret : Option FieldType} {hh : List (Nat × Nat × Nat × Nat)}
    (hown : s.vm.findClass own = some m.cls) (hlink : (Cond.methodLink own index y).before args s = true) (hinst : (Cond.instanceMethod y).before args s = true) (hsel : (Cond.selects C y y).before args s = true)
    (hcode : (Cond.codeWith y bytes maxL ret hh).before args s = true) (hy : y.cls ≠ "java/lang/invoke/MethodHandle" ∧ y.cls ≠ "java/lang/invoke/VarHandle")
    {W9 : Nat} {Pre : Pt → Array Value → Prop} {Post : Pt → Array Value → Option Value → Pt → Prop} {PostX : Pt → Array Value → Addr → Pt → Prop} (hK : vx_Back l R p e below s args y 3 W9 Pre Post PostX)
    {b : Addr} {cellB : Cell} (hcell : T.heap[b]? = some cellB) (hobj : cellB.vm.isStatics = false) (hcls : s.vm.findClass C = some cellB.cls)
    {g : JFrame} (hg : g.method = m) (hsize : g.locals.size = c.maxLocals) {argsL rest : List Value} (hlen : ∀ sig, parseMethodDescriptor y.desc = some sig → argsL.length = sig.parameters.length)
    (hstack : g.stack = argsL.reverse ++ .ref b :: rest) (hW : 2 * g.monitorRoom + (rest.map fun v => v.category).sum ≤ W9) (hdg : decode c.code g.pc = .ok (.invokevirtual index, 3))
    (hpre : ∀ vm₁, s.WarmedH vm₁ → Pre ⟨T.setVm vm₁, locs, cells, slots⟩ (Value.ref b :: argsL).toArray) :
    (∃ (v : Option Value) (vm₁ : Vm) (B : Pt), s.WarmedH vm₁ ∧ Stand p l e R s m args below meth c B.U B.locs B.cells B.slots ∧ Post ⟨T.setVm vm₁, locs, cells, slots⟩ (Value.ref b :: argsL).toArray v B ∧
      ∀ target, Steps p.tables e below (B.U.setTop { g with pc := g.pc + 3, stack := v.toList ++ rest }) target → Steps p.tables e below (T.setTop g) target) ∨
    (∃ (q : Addr) (vm₁ : Vm) (B : Pt), s.WarmedH vm₁ ∧ Stand p l e R s m args below meth c B.U B.locs B.cells B.slots ∧ PostX ⟨T.setVm vm₁, locs, cells, slots⟩ (Value.ref b :: argsL).toArray q B ∧
      Steps p.tables e below (T.setTop g) ((B.U.setTop { g with stack := rest }).pushFrame (.throwing q))) := by
  obtain ⟨mk, methM, hnamed, hmethM, hstM, habM⟩ := Cond.instanceMethod_spec hinst
  obtain ⟨m8, methM', cM, hn8, hmethM', -, -, -, -, -, -, hsigM⟩ := Cond.codeWith_spec hcode
  cases Option.some.inj (hn8.symm.trans hnamed)
  cases hmethM.symm.trans hmethM'
  obtain ⟨c2, r2, m2, q1, q2, q3, q4, kP, hkP, hkPi⟩ := Cond.selects_spec hsel
  cases hcls.symm.trans q1
  cases (State.methodFound?_of_named hnamed hy).symm.trans q2
  cases hnamed.symm.trans q3
  have hselP : selectMethod e.platform s.vm cellB.cls mk = .method mk := by rw [Launch.admits_selectMethod X.admits]; exact q4
  obtain ⟨vm₁, X₁, hstep₁⟩ := X.invokevirtual hexec hown hlink hnamed hmethM hstM hkP hkPi hy (a := b) (cell := cellB) hcell
    (fun z h => by rw [h] at hobj; cases hobj) hselP hmethM habM hkP hkPi (g := g) hg (argsL := argsL) (rest := rest) (hlen _ hsigM) hstack hdg
  rcases hK m meth c ⟨T.setVm vm₁, locs, cells, slots⟩ { g with stack := rest } (.invokevirtual index) mk (Value.ref b :: argsL).toArray X₁ hg hsize hdg hW (X₁.named hnamed) (hpre vm₁ X₁.warmed) with ⟨v, B, X', hpost, hsteps⟩ | ⟨q, B, X', hpost, hsteps⟩
  · exact Or.inl ⟨v, vm₁, B, X₁.warmed, X', hpost, fun target h => hstep₁ _ fun acts => by rw [doInvoke_state]; exact hsteps.trans h⟩
  · exact Or.inr ⟨q, vm₁, B, X₁.warmed, X', hpost, hstep₁ _ fun acts => by rw [doInvoke_state]; exact hsteps⟩
theorem vx_callSX (X : Stand p l e R s m args below meth c T locs cells slots) (hexec : p.tables.exec = Jvm.exec) {own : String} {index : Nat} {y : MethodName} {bytes : ByteArray} {maxL : Nat} {ret : Option FieldType} {hh : List (Nat × Nat × Nat × Nat)}
    (hown : s.vm.findClass own = some m.cls) (hlink : (Cond.methodLink own index y).before args s = true) (hstat : (Cond.static y).before args s = true) (hinit : (Cond.initialized y.cls).before args s = true)
    (hcode : (Cond.codeWith y bytes maxL ret hh).before args s = true) (hy : y.cls ≠ "java/lang/invoke/MethodHandle" ∧ y.cls ≠ "java/lang/invoke/VarHandle")
    {W9 : Nat} {Pre : Pt → Array Value → Prop} {Post : Pt → Array Value → Option Value → Pt → Prop} {PostX : Pt → Array Value → Addr → Pt → Prop} (hK : vx_Back l R p e below s args y 3 W9 Pre Post PostX)
    {g : JFrame} (hg : g.method = m) (hsize : g.locals.size = c.maxLocals) {argsL rest : List Value} (hlen : ∀ sig, parseMethodDescriptor y.desc = some sig → argsL.length = sig.parameters.length)
    (hstack : g.stack = argsL.reverse ++ rest) (hW : 2 * g.monitorRoom + (rest.map fun v => v.category).sum ≤ W9) (hdg : decode c.code g.pc = .ok (.invokestatic index, 3))
    (hpre : ∀ vm₁, s.WarmedH vm₁ → Pre ⟨T.setVm vm₁, locs, cells, slots⟩ argsL.toArray) :
    (∃ (v : Option Value) (vm₁ : Vm) (B : Pt), s.WarmedH vm₁ ∧ Stand p l e R s m args below meth c B.U B.locs B.cells B.slots ∧ Post ⟨T.setVm vm₁, locs, cells, slots⟩ argsL.toArray v B ∧
      ∀ target, Steps p.tables e below (B.U.setTop { g with pc := g.pc + 3, stack := v.toList ++ rest }) target → Steps p.tables e below (T.setTop g) target) ∨
    (∃ (q : Addr) (vm₁ : Vm) (B : Pt), s.WarmedH vm₁ ∧ Stand p l e R s m args below meth c B.U B.locs B.cells B.slots ∧ PostX ⟨T.setVm vm₁, locs, cells, slots⟩ argsL.toArray q B ∧
      Steps p.tables e below (T.setTop g) ((B.U.setTop { g with stack := rest }).pushFrame (.throwing q))) := by
  obtain ⟨mk, methM, cM, hnamed, hmethM, -, -, -, -, -, -, hsigM⟩ := Cond.codeWith_spec hcode
  have hstatic : methM.isStatic = true := Cond.static_spec hnamed hmethM hstat
  obtain ⟨kP, hkP, -⟩ := className_of_methodNamed hnamed
  have hinitP : kP.init = .initialized := Cond.initialized_spec (findClass_of_methodNamed hnamed) hkP hinit
  obtain ⟨vm₁, X₁, hstep₁⟩ := X.invokestatic hexec hown hlink hnamed hmethM hstatic hkP hinitP hy (g := g) hg (argsL := argsL) (rest := rest) (hlen _ hsigM) hstack hdg
  rcases hK m meth c ⟨T.setVm vm₁, locs, cells, slots⟩ { g with stack := rest } (.invokestatic index) mk argsL.toArray X₁ hg hsize hdg hW (X₁.named hnamed) (hpre vm₁ X₁.warmed) with ⟨v, B, X', hpost, hsteps⟩ | ⟨q, B, X', hpost, hsteps⟩
  · exact Or.inl ⟨v, vm₁, B, X₁.warmed, X', hpost, fun target h => hstep₁ _ fun acts => by rw [doInvoke_state]; exact hsteps.trans h⟩
  · exact Or.inr ⟨q, vm₁, B, X₁.warmed, X', hpost, hstep₁ _ fun acts => by rw [doInvoke_state]; exact hsteps⟩
theorem vx_callVW (X : Stand p l e R s m args below meth c T locs cells slots) (hexec : p.tables.exec = Jvm.exec) {own C : String} {index : Nat} {y : MethodName} {bytes : ByteArray} {maxL : Nat} {ret : Option FieldType} {hh : List (Nat × Nat × Nat × Nat)}
    (hown : s.vm.findClass own = some m.cls) (hlink : (Cond.methodLink own index y).before args s = true) (hinst : (Cond.instanceMethod y).before args s = true) (hsel : (Cond.selects C y y).before args s = true)
    (hcode : (Cond.codeWith y bytes maxL ret hh).before args s = true) (hy : y.cls ≠ "java/lang/invoke/MethodHandle" ∧ y.cls ≠ "java/lang/invoke/VarHandle")
    {W9 : Nat} {Pre : Pt → Array Value → Prop} {Post : Pt → Array Value → Option Value → Pt → Prop} (hK : Back l R p e below s args y 3 W9 Pre Post)
    {b : Addr} {cellB : Cell} (hcell : T.heap[b]? = some cellB) (hobj : cellB.vm.isStatics = false) (hcls : s.vm.findClass C = some cellB.cls)
    {g : JFrame} (hg : g.method = m) (hsize : g.locals.size = c.maxLocals) {argsL rest : List Value} (hlen : ∀ sig, parseMethodDescriptor y.desc = some sig → argsL.length = sig.parameters.length)
    (hstack : g.stack = argsL.reverse ++ .ref b :: rest) (hW : 2 * g.monitorRoom + (rest.map fun v => v.category).sum ≤ W9) (hdg : decode c.code g.pc = .ok (.invokevirtual index, 3))
    (hpre : ∀ vm₁, s.WarmedH vm₁ → Pre ⟨T.setVm vm₁, locs, cells, slots⟩ (Value.ref b :: argsL).toArray) :
    ∃ (v : Option Value) (vm₁ : Vm) (B : Pt), s.WarmedH vm₁ ∧ Stand p l e R s m args below meth c B.U B.locs B.cells B.slots ∧ Post ⟨T.setVm vm₁, locs, cells, slots⟩ (Value.ref b :: argsL).toArray v B ∧
      ∀ target, Steps p.tables e below (B.U.setTop { g with pc := g.pc + 3, stack := v.toList ++ rest }) target → Steps p.tables e below (T.setTop g) target := by
  obtain ⟨mk, methM, hnamed, hmethM, hstM, habM⟩ := Cond.instanceMethod_spec hinst
  obtain ⟨m8, methM', cM, hn8, hmethM', -, -, -, -, -, -, hsigM⟩ := Cond.codeWith_spec hcode
  cases Option.some.inj (hn8.symm.trans hnamed)
  cases hmethM.symm.trans hmethM'
  obtain ⟨c2, r2, m2, q1, q2, q3, q4, kP, hkP, hkPi⟩ := Cond.selects_spec hsel
  cases hcls.symm.trans q1
  cases (State.methodFound?_of_named hnamed hy).symm.trans q2
  cases hnamed.symm.trans q3
  have hselP : selectMethod e.platform s.vm cellB.cls mk = .method mk := by rw [Launch.admits_selectMethod X.admits]; exact q4
  obtain ⟨vm₁, X₁, hstep₁⟩ := X.invokevirtual hexec hown hlink hnamed hmethM hstM hkP hkPi hy (a := b) (cell := cellB) hcell
    (fun z h => by rw [h] at hobj; cases hobj) hselP hmethM habM hkP hkPi (g := g) hg (argsL := argsL) (rest := rest) (hlen _ hsigM) hstack hdg
  obtain ⟨v, B, X', hpost, hsteps⟩ := hK m meth c ⟨T.setVm vm₁, locs, cells, slots⟩ { g with stack := rest } (.invokevirtual index) mk (Value.ref b :: argsL).toArray X₁ hg hsize hdg hW (X₁.named hnamed) (hpre vm₁ X₁.warmed)
  exact ⟨v, vm₁, B, X₁.warmed, X', hpost, fun target h => hstep₁ _ fun acts => by rw [doInvoke_state]; exact hsteps.trans h⟩
abbrev vx_CVW (R : Room) (s : State) (args : Array Value) (own C : String) (index : Nat) (y : MethodName) (bytes : ByteArray) (maxL : Nat) (ret : Option FieldType) (hh : List (Nat × Nat × Nat × Nat)) (ws : List Cond) (rm : Room) (mc ms n : Nat) : Prop :=
  (rm.cells = mc ∧ rm.slots = ms ∧ rm.frames + 1 ≤ R.frames ∧ 8 + (maxL + 11) + rm.locals ≤ R.locals ∧ (∀ w ∈ ws, ∀ (a' : Array Value) (U : State), s.WarmedH U.vm → w.before a' U = true) ∧ Cond.codeWith y bytes maxL ret hh ∈ ws) ∧
  (Cond.codeWith y bytes maxL ret hh).before args s = true ∧ (Cond.initialized y.cls).before args s = true ∧ (y.cls ≠ "java/lang/invoke/MethodHandle" ∧ y.cls ≠ "java/lang/invoke/VarHandle") ∧
  (∀ sig, parseMethodDescriptor y.desc = some sig → n = sig.parameters.length) ∧ (Cond.methodLink own index y).before args s = true ∧ (Cond.instanceMethod y).before args s = true ∧ (Cond.selects C y y).before args s = true
theorem vx_cwVW {own C : String} {index maxL mc ms : Nat} {y : MethodName} {bytes : ByteArray} {ret : Option FieldType} {hh : List (Nat × Nat × Nat × Nat)} {Ts ws ws' : List Cond} {rm : Room} (n : Nat) (ht : ∀ w ∈ Ts, w.before args s = true) (hT : GoodIn Ts (wsV own index C y ws)) (hw : ws = Cond.codeWith y bytes maxL ret hh :: ws') (hrc : rm.cells = mc) (hrs : rm.slots = ms)
    (hd : y.cls = C ∧ y.cls ≠ "java/lang/invoke/MethodHandle" ∧ y.cls ≠ "java/lang/invoke/VarHandle" ∧ (parseMethodDescriptor y.desc).map (fun d => d.parameters.length) = some n) (hR : rm.frames + 1 ≤ R.frames ∧ 8 + (maxL + 11) + rm.locals ≤ R.locals) :
    vx_CVW R s args own C index y bytes maxL ret hh ws rm mc ms n := by
  obtain ⟨hC, hd⟩ := hd
  subst hC
  have ok : ∀ w ∈ wsV own index y.cls y ws, w.before args s = true := fun w h => ht w (hT w h).1
  have hG : GoodIn Ts ws := fun w h => hT w (by unfold wsV; exact List.mem_append_right _ h)
  have hc : Cond.codeWith y bytes maxL ret hh ∈ ws := by rw [hw]; exact List.mem_cons_self
  refine ⟨⟨hrc, hrs, hR.1, hR.2, pay_in ht hG, hc⟩, ht _ (hG _ hc).1, ok _ (by simp [wsV]), ⟨hd.1, hd.2.1⟩, fun sig h => ?_, ok _ (by simp [wsV]), ok _ (by simp [wsV]), ok _ (by simp [wsV])⟩
  have h2 := hd.2.2
  rw [h] at h2
  exact (Option.some.inj h2).symm
theorem vx_runVW {y : MethodName} {bytes cc : ByteArray} {maxL nL mc ms n index : Nat} {ret : Option FieldType} {hh : List (Nat × Nat × Nat × Nat)} {ws : List Cond} {rm : Room} {Pc : Array Value → State → Prop} {Qc : Array Value → State → Outcome → State → Prop} {free : Addr → Prop} {Ts : List Cond} {own C : String} {b : Addr} {As rest : List Value} {g : JFrame}
    (S : CallFix p m c cc nL s args Ts own) (hM : Met l y ws rm Pc Qc mc ms free) (cw : vx_CVW R s args own C index y bytes maxL ret hh ws rm mc ms n) (hp : PreV s H C b Pc As)
    (hg : g.method = m) (hn : As.length = n) (hsize : g.locals.size = nL) (hstack : g.stack = As.reverse ++ .ref b :: rest) (hW : 2 * g.monitorRoom + (rest.map fun v => v.category).sum ≤ 8) (hdg : decode cc g.pc = .ok (.invokevirtual index, 3)) (hf : cells + mc ≤ R.cells ∧ slots + ms ≤ R.slots) :
    va_Run p l e R s m args below meth c H locs cells slots mc ms g rest (Qc (Value.ref b :: As).toArray) free := by
  obtain ⟨⟨hrc, hrs, hfr, hlo, hws, hcw⟩, hcode, hini, hy, hlen, hl, hin, hse⟩ := cw
  have hK : Back l R p e below s args y 3 8 (PreOf R mc ms Pc) (PostOf Qc mc ms free) := va_backW (hh := hh) (bytes := bytes) (maxL := maxL) (ret := ret) hM hp.1 hrc hrs hfr hlo hws hcw (fun a' U hW => word_at hW (Or.inl (by first | rfl | simp [Cond.onTables, Cond.keeps, Cond.steady])) hini)
  obtain ⟨hx, hb, hml, ho, -⟩ := S
  obtain ⟨-, ⟨cellB, hcB, hoB, hclB⟩, hPc⟩ := hp
  intro T hT X
  obtain ⟨v, vm₁, ⟨U', l2, c2, s2⟩, hW₁, X', ⟨g', mk, t, L, e1, e2, hq, h1, hL, h2, h3⟩, st⟩ := vx_callVW X hx (C := C) (hh := hh) (bytes := bytes) (maxL := maxL) (ret := ret) ho hl hin hse hcode hy hK (by rw [hT]; exact hcB) hoB hclB hg (hsize.trans hml.symm) (argsL := As) (rest := rest) (fun sig h => hn.trans (hlen sig h)) hstack hW (by rw [hb]; exact hdg)
    (fun vm₁ hW₁ => ⟨hf.1, hf.2, hPc (T.setVm vm₁) hT hW₁⟩)
  dsimp only [Pt.U, Pt.locs, Pt.cells, Pt.slots] at X' e1 e2 h1 h2 h3 st
  subst h1; subst h2; subst h3
  exact ⟨v, (T.setVm vm₁).calling g' mk (Value.ref b :: As).toArray, t, U', L, hT, X', hL, e1, e2, hq, st⟩
section
variable {y : MethodName} {bytes cc : ByteArray} {maxL nL mc ms n index : Nat} {ret : Option FieldType} {ws : List Cond} {rm : Room} {Pc : Array Value → State → Prop} {Qc : Array Value → State → Outcome → State → Prop} {XC : String → State → State → Prop} {free : Addr → Prop} {Ts : List Cond} {own C : String} {b : Addr} {As rest : List Value} {g : JFrame}
theorem vx_runVX {hh : List (Nat × Nat × Nat × Nat)} (S : CallFix p m c cc nL s args Ts own) (hM : vx_Met l y ws rm Pc Qc XC mc ms free) (cw : vx_CVW R s args own C index y bytes maxL ret hh ws rm mc ms n) (hp : PreV s H C b Pc As)
    (hg : g.method = m) (hn : As.length = n) (hsize : g.locals.size = nL) (hstack : g.stack = As.reverse ++ .ref b :: rest) (hW : 2 * g.monitorRoom + (rest.map fun v => v.category).sum ≤ 8) (hdg : decode cc g.pc = .ok (.invokevirtual index, 3)) (hf : cells + mc ≤ R.cells ∧ slots + ms ≤ R.slots) :
    vx_Run p l e R s m args below meth c H locs cells slots mc ms g rest (Qc (Value.ref b :: As).toArray) XC free := by
  obtain ⟨⟨hrc, hrs, hfr, hlo, hws, hcw⟩, hcode, hini, hy, hlen, hl, hin, hse⟩ := cw
  have hK : vx_Back l R p e below s args y 3 8 (PreOf R mc ms Pc) (PostOf Qc mc ms free) (vx_Post XC mc ms free) := vx_backW (hh := hh) (bytes := bytes) (maxL := maxL) (ret := ret) hM hp.1 hrc hrs hfr hlo hws hcw (fun a' U hW => word_at hW (Or.inl (by first | rfl | simp [Cond.onTables, Cond.keeps, Cond.steady])) hini)
  obtain ⟨hx, hb, hml, ho, -⟩ := S
  obtain ⟨-, ⟨cellB, hcB, hoB, hclB⟩, hPc⟩ := hp
  intro T hT X
  rcases vx_callVX X hx (C := C) (hh := hh) (bytes := bytes) (maxL := maxL) (ret := ret) ho hl hin hse hcode hy hK (by rw [hT]; exact hcB) hoB hclB hg (hsize.trans hml.symm) (argsL := As) (rest := rest) (fun sig h => hn.trans (hlen sig h)) hstack hW (by rw [hb]; exact hdg)
    (fun vm₁ hW₁ => ⟨hf.1, hf.2, hPc (T.setVm vm₁) hT hW₁⟩) with ⟨v, vm₁, ⟨U', l2, c2, s2⟩, hW₁, X', ⟨g', mk, t, L, e1, e2, hq, h1, hL, h2, h3⟩, st⟩ | ⟨q, vm₁, ⟨U', l2, c2, s2⟩, hW₁, X', ⟨g', mk, t, L, E, ce, e1, e2, hq, hce, hcv, hcl, h1, hL, h2, h3⟩, st⟩
  · dsimp only [Pt.U, Pt.locs, Pt.cells, Pt.slots] at X' e1 e2 h1 h2 h3 st
    subst h1; subst h2; subst h3
    exact Or.inl ⟨v, (T.setVm vm₁).calling g' mk (Value.ref b :: As).toArray, t, U', L, hT, X', hL, e1, e2, hq, st⟩
  · dsimp only [Pt.U, Pt.locs, Pt.cells, Pt.slots] at X' e1 e2 h1 h2 h3 st hcl
    subst h1; subst h2; subst h3
    exact Or.inr ⟨q, (T.setVm vm₁).calling g' mk (Value.ref b :: As).toArray, t, U', L, E, ce, hT, X', hL, e1, e2, hq, hce, hcv, vx_cls hW₁ hcl, st⟩
theorem vx_runSX {hh : List (Nat × Nat × Nat × Nat)} (S : CallFix p m c cc nL s args Ts own) (hM : vx_Met l y ws rm Pc Qc XC mc ms free) (cw : vx_CSW R s args own index y bytes maxL ret hh ws rm mc ms n) (hp : PreS s H Pc As)
    (hg : g.method = m) (hn : As.length = n) (hsize : g.locals.size = nL) (hstack : g.stack = As.reverse ++ rest) (hW : 2 * g.monitorRoom + (rest.map fun v => v.category).sum ≤ 8) (hdg : decode cc g.pc = .ok (.invokestatic index, 3)) (hf : cells + mc ≤ R.cells ∧ slots + ms ≤ R.slots) :
    vx_Run p l e R s m args below meth c H locs cells slots mc ms g rest (Qc As.toArray) XC free := by
  obtain ⟨⟨hrc, hrs, hfr, hlo, hws, hcw⟩, hcode, hini, hy, hlen, hl, hstt⟩ := cw
  have hK : vx_Back l R p e below s args y 3 8 (PreOf R mc ms Pc) (PostOf Qc mc ms free) (vx_Post XC mc ms free) := vx_backW (hh := hh) (bytes := bytes) (maxL := maxL) (ret := ret) hM hp.1 hrc hrs hfr hlo hws hcw (fun a' U hW => word_at hW (Or.inl (by first | rfl | simp [Cond.onTables, Cond.keeps, Cond.steady])) hini)
  obtain ⟨hx, hb, hml, ho, -⟩ := S
  intro T hT X
  rcases vx_callSX X hx (hh := hh) (bytes := bytes) (maxL := maxL) (ret := ret) ho hl hstt hini hcode hy hK hg (hsize.trans hml.symm) (argsL := As) (rest := rest) (fun sig h => hn.trans (hlen sig h)) hstack hW (by rw [hb]; exact hdg)
    (fun vm₁ hW₁ => ⟨hf.1, hf.2, hp.2 (T.setVm vm₁) hT hW₁⟩) with ⟨v, vm₁, ⟨U', l2, c2, s2⟩, hW₁, X', ⟨g', mk, t, L, e1, e2, hq, h1, hL, h2, h3⟩, st⟩ | ⟨q, vm₁, ⟨U', l2, c2, s2⟩, hW₁, X', ⟨g', mk, t, L, E, ce, e1, e2, hq, hce, hcv, hcl, h1, hL, h2, h3⟩, st⟩
  · dsimp only [Pt.U, Pt.locs, Pt.cells, Pt.slots] at X' e1 e2 h1 h2 h3 st
    subst h1; subst h2; subst h3
    exact Or.inl ⟨v, (T.setVm vm₁).calling g' mk As.toArray, t, U', L, hT, X', hL, e1, e2, hq, st⟩
  · dsimp only [Pt.U, Pt.locs, Pt.cells, Pt.slots] at X' e1 e2 h1 h2 h3 st hcl
    subst h1; subst h2; subst h3
    exact Or.inr ⟨q, (T.setVm vm₁).calling g' mk As.toArray, t, U', L, E, ce, hT, X', hL, e1, e2, hq, hce, hcv, vx_cls hW₁ hcl, st⟩
end
end VXH
theorem vx_ofWH {l : Launch} {y : MethodName} {ws ws' : List Cond} {rm : Room} {Pc : Array Value → State → Prop} {Qc : Array Value → State → Outcome → State → Prop} {XC : String → State → State → Prop} {mc ms : Nat} {free : Addr → Prop} {cc : ByteArray} {maxL : Nat} {ret : Option FieldType} {hh : List (Nat × Nat × Nat × Nat)}
    (hy : plainName y.cls = true) (hw : ws = Cond.codeWith y cc maxL ret hh :: ws')
    (body : ∀ p e s m args below meth c s₁, BodyLoose p l y (headSpec ws rm) cc maxL ret e s m args below meth c s₁ → c.maxLocals = maxL → Pc args s →
      W p l e (headSpec ws rm).room s m args below meth c s.heap [] 0 0 (vx_MQ below Qc XC args s mc ms free) (entryFrame m args maxL)) : vx_Met l y ws rm Pc Qc XC mc ms free := by
  refine MetFree.of_bodyS (code := cc) (maxLocals := maxL) (ret := ret) hy ?_ ?_
  · intro args s m h hn
    obtain ⟨m9, meth, c, hn9, h1, h2, h3, h4, -, h5, h6, -⟩ := Cond.codeWith_spec (atoms_spec (ws := ws) h _ (by rw [hw]; exact List.mem_cons_self))
    cases hn.symm.trans hn9
    exact ⟨meth, c, h1, h2, h3, h4, h5, h6⟩
  · intro p e s m args below meth c s₁ B hml hP _
    have hh0 : s₁.heap = s.heap := by rw [B.state]; rfl
    obtain ⟨t, a1, o, b1, b2, b3⟩ := body p e s m args below meth c s₁ B hml hP s₁ hh0 (Stand.of_body B)
    exact ⟨t, o, a1, b1, b2, b3⟩
/-! ===== END ===== -/

def RX0 : String := "VariantParser$Grammar"
def TX0 : u_T := fun k => match k with
  | _ => ("", "", "", false)
def tyX0 : Nat → FieldType := fun k => match k with
  | _ => .int
theorem nmX0 : ∀ a, a < 0 → ∀ b, b < 0 → a ≠ b → (TX0 a).2.1 ≠ (TX0 b).2.1 := by decide +kernel
theorem tyX0_ok : ∀ k, k < 0 → parseFieldDescriptor (TX0 k).2.2.1 = some (tyX0 k) := by decide +kernel
abbrev cX0_isDigit : ByteArray := prog_2_method_2_code
def yX0_isDigit : MethodName := ⟨RX0, "isDigit", "(I)Z"⟩
abbrev cX0_isName : ByteArray := prog_2_method_3_code
def yX0_isName : MethodName := ⟨RX0, "isName", "(I)Z"⟩
abbrev cX0_isToken : ByteArray := prog_2_method_4_code
def yX0_isToken : MethodName := ⟨RX0, "isToken", "(I)Z"⟩
abbrev cX0_isReplaced : ByteArray := prog_2_method_5_code
def yX0_isReplaced : MethodName := ⟨RX0, "isReplaced", "(I)Z"⟩
abbrev cX0_canBeginStatement : ByteArray := prog_2_method_6_code
def yX0_canBeginStatement : MethodName := ⟨RX0, "canBeginStatement", "(I)Z"⟩
abbrev cX0_replacement : ByteArray := prog_2_method_7_code
def yX0_replacement : MethodName := ⟨RX0, "replacement", "(II)Ljava/lang/String;"⟩
def RX1 : String := "VariantParser$Reading"
def TX1 : u_T := fun k => match k with
  | 0 => ("VariantParser$Reading", "symbols", "[I", true)
  | 1 => ("VariantParser$Reading", "height", "I", false)
  | 2 => ("VariantParser$Reading", "heights", "[I", true)
  | 3 => ("VariantParser$Reading", "tokensRead", "I", false)
  | _ => ("VariantParser$Reading", "errorPlace", "I", false)
def tyX1 : Nat → FieldType := fun k => match k with
  | 0 => .array .int
  | 1 => .int
  | 2 => .array .int
  | 3 => .int
  | _ => .int
theorem nmX1 : ∀ a, a < 5 → ∀ b, b < 5 → a ≠ b → (TX1 a).2.1 ≠ (TX1 b).2.1 := by decide +kernel
theorem tyX1_ok : ∀ k, k < 5 → parseFieldDescriptor (TX1 k).2.2.1 = some (tyX1 k) := by decide +kernel
abbrev cX1_init : ByteArray := prog_3_method_1_code
def yX1_init : MethodName := ⟨RX1, "<init>", "()V"⟩
abbrev cX1_begin : ByteArray := prog_3_method_2_code
def yX1_begin : MethodName := ⟨RX1, "begin", "()V"⟩
abbrev cX1_take : ByteArray := prog_3_method_3_code
def yX1_take : MethodName := ⟨RX1, "take", "(II)V"⟩
abbrev cX1_end : ByteArray := prog_3_method_4_code
def yX1_end : MethodName := ⟨RX1, "end", "(I)V"⟩
abbrev cX1_heightAhead : ByteArray := prog_3_method_5_code
def yX1_heightAhead : MethodName := ⟨RX1, "heightAhead", "(I)I"⟩
abbrev cX1_hasSameStack : ByteArray := prog_3_method_6_code
def yX1_hasSameStack : MethodName := ⟨RX1, "hasSameStack", "(LVariantParser$Reading;)Z"⟩
abbrev cX1_replaceTop : ByteArray := prog_3_method_7_code
def yX1_replaceTop : MethodName := ⟨RX1, "replaceTop", "(I)V"⟩
abbrev cX1_push : ByteArray := prog_3_method_8_code
def yX1_push : MethodName := ⟨RX1, "push", "(I)V"⟩
def RX2 : String := "VariantParser$Rows"
def TX2 : u_T := fun k => match k with
  | _ => ("", "", "", false)
def tyX2 : Nat → FieldType := fun k => match k with
  | _ => .int
theorem nmX2 : ∀ a, a < 0 → ∀ b, b < 0 → a ≠ b → (TX2 a).2.1 ≠ (TX2 b).2.1 := by decide +kernel
theorem tyX2_ok : ∀ k, k < 0 → parseFieldDescriptor (TX2 k).2.2.1 = some (tyX2 k) := by decide +kernel
abbrev cX2_areSame : ByteArray := prog_4_method_2_code
def yX2_areSame : MethodName := ⟨RX2, "areSame", "([I[II)Z"⟩
def RX3 : String := "VariantParser$Run"
def TX3 : u_T := fun k => match k with
  | 0 => ("VariantParser$Run", "tokens", "[I", true)
  | 1 => ("VariantParser$Run", "count", "I", false)
  | 2 => ("VariantParser$Run", "next", "I", false)
  | 3 => ("VariantParser$Run", "variables", "[I", true)
  | 4 => ("VariantParser$Run", "outputs", "[I", true)
  | _ => ("VariantParser$Run", "outputCount", "I", false)
def tyX3 : Nat → FieldType := fun k => match k with
  | 0 => .array .int
  | 1 => .int
  | 2 => .int
  | 3 => .array .int
  | 4 => .array .int
  | _ => .int
theorem nmX3 : ∀ a, a < 6 → ∀ b, b < 6 → a ≠ b → (TX3 a).2.1 ≠ (TX3 b).2.1 := by decide +kernel
theorem tyX3_ok : ∀ k, k < 6 → parseFieldDescriptor (TX3 k).2.2.1 = some (tyX3 k) := by decide +kernel
abbrev cX3_init : ByteArray := prog_5_method_1_code
def yX3_init : MethodName := ⟨RX3, "<init>", "()V"⟩
abbrev cX3_execute : ByteArray := prog_5_method_2_code
def yX3_execute : MethodName := ⟨RX3, "execute", "([II)V"⟩
abbrev cX3_hasSameOutputs : ByteArray := prog_5_method_3_code
def yX3_hasSameOutputs : MethodName := ⟨RX3, "hasSameOutputs", "(LVariantParser$Run;)Z"⟩
abbrev cX3_peek : ByteArray := prog_5_method_4_code
def yX3_peek : MethodName := ⟨RX3, "peek", "()I"⟩
abbrev cX3_advance : ByteArray := prog_5_method_5_code
def yX3_advance : MethodName := ⟨RX3, "advance", "()I"⟩
abbrev cX3_runStatements : ByteArray := prog_5_method_6_code
def yX3_runStatements : MethodName := ⟨RX3, "runStatements", "(ZI)V"⟩
abbrev cX3_runStatement : ByteArray := prog_5_method_7_code
def yX3_runStatement : MethodName := ⟨RX3, "runStatement", "(ZI)V"⟩
abbrev cX3_runChoice : ByteArray := prog_5_method_8_code
def yX3_runChoice : MethodName := ⟨RX3, "runChoice", "(ZI)V"⟩
abbrev cX3_sum : ByteArray := prog_5_method_9_code
def yX3_sum : MethodName := ⟨RX3, "sum", "(I)I"⟩
abbrev cX3_product : ByteArray := prog_5_method_10_code
def yX3_product : MethodName := ⟨RX3, "product", "(I)I"⟩
abbrev cX3_factor : ByteArray := prog_5_method_11_code
def yX3_factor : MethodName := ⟨RX3, "factor", "(I)I"⟩
abbrev cX3_operand : ByteArray := prog_5_method_12_code
def yX3_operand : MethodName := ⟨RX3, "operand", "(I)I"⟩
abbrev cX3_assign : ByteArray := prog_5_method_13_code
def yX3_assign : MethodName := ⟨RX3, "assign", "(II)V"⟩
abbrev cX3_put : ByteArray := prog_5_method_14_code
def yX3_put : MethodName := ⟨RX3, "put", "(I)V"⟩
def RX4 : String := "VariantParser$Source"
def TX4 : u_T := fun k => match k with
  | 0 => ("VariantParser$Source", "codes", "[I", true)
  | _ => ("VariantParser$Source", "size", "I", false)
def tyX4 : Nat → FieldType := fun k => match k with
  | 0 => .array .int
  | _ => .int
theorem nmX4 : ∀ a, a < 2 → ∀ b, b < 2 → a ≠ b → (TX4 a).2.1 ≠ (TX4 b).2.1 := by decide +kernel
theorem tyX4_ok : ∀ k, k < 2 → parseFieldDescriptor (TX4 k).2.2.1 = some (tyX4 k) := by decide +kernel
abbrev cX4_init : ByteArray := prog_6_method_1_code
def yX4_init : MethodName := ⟨RX4, "<init>", "()V"⟩
abbrev cX4_codeOfWhen : ByteArray := prog_6_method_2_code
def yX4_codeOfWhen : MethodName := ⟨RX4, "codeOfWhen", "(IZ)I"⟩
abbrev cX4_codeOfSet : ByteArray := prog_6_method_3_code
def yX4_codeOfSet : MethodName := ⟨RX4, "codeOfSet", "(IZ)I"⟩
abbrev cX4_isWhen : ByteArray := prog_6_method_4_code
def yX4_isWhen : MethodName := ⟨RX4, "isWhen", "(I)Z"⟩
abbrev cX4_isSet : ByteArray := prog_6_method_5_code
def yX4_isSet : MethodName := ⟨RX4, "isSet", "(I)Z"⟩
abbrev cX4_featureOf : ByteArray := prog_6_method_6_code
def yX4_featureOf : MethodName := ⟨RX4, "featureOf", "(I)I"⟩
abbrev cX4_isForOn : ByteArray := prog_6_method_7_code
def yX4_isForOn : MethodName := ⟨RX4, "isForOn", "(I)Z"⟩
abbrev cX4_add : ByteArray := prog_6_method_8_code
def yX4_add : MethodName := ⟨RX4, "add", "(I)V"⟩
abbrev cX4_removeLast : ByteArray := prog_6_method_9_code
def yX4_removeLast : MethodName := ⟨RX4, "removeLast", "()V"⟩
abbrev cX4_countUnfinished : ByteArray := prog_6_method_10_code
def yX4_countUnfinished : MethodName := ⟨RX4, "countUnfinished", "()I"⟩
abbrev cX4_lastUnfinishedHasOtherwise : ByteArray := prog_6_method_11_code
def yX4_lastUnfinishedHasOtherwise : MethodName := ⟨RX4, "lastUnfinishedHasOtherwise", "()Z"⟩
def RX5 : String := "VariantParser$Variant"
def TX5 : u_T := fun k => match k with
  | 0 => ("VariantParser$Variant", "tokens", "[I", true)
  | 1 => ("VariantParser$Variant", "places", "[I", true)
  | 2 => ("VariantParser$Variant", "count", "I", false)
  | 3 => ("VariantParser$Variant", "reading", "LVariantParser$Reading;", true)
  | _ => ("VariantParser$Variant", "run", "LVariantParser$Run;", true)
def tyX5 : Nat → FieldType := fun k => match k with
  | 0 => .array .int
  | 1 => .array .int
  | 2 => .int
  | 3 => .object "VariantParser$Reading"
  | _ => .object "VariantParser$Run"
theorem nmX5 : ∀ a, a < 5 → ∀ b, b < 5 → a ≠ b → (TX5 a).2.1 ≠ (TX5 b).2.1 := by decide +kernel
theorem tyX5_ok : ∀ k, k < 5 → parseFieldDescriptor (TX5 k).2.2.1 = some (tyX5 k) := by decide +kernel
abbrev cX5_init : ByteArray := prog_7_method_1_code
def yX5_init : MethodName := ⟨RX5, "<init>", "()V"⟩
abbrev cX5_add : ByteArray := prog_7_method_2_code
def yX5_add : MethodName := ⟨RX5, "add", "(II)V"⟩
abbrev cX5_hasSameTokens : ByteArray := prog_7_method_3_code
def yX5_hasSameTokens : MethodName := ⟨RX5, "hasSameTokens", "(LVariantParser$Variant;)Z"⟩
def RX6 : String := "VariantParser$Walk"
def TX6 : u_T := fun k => match k with
  | 0 => ("VariantParser$Walk", "present", "[I", true)
  | 1 => ("VariantParser$Walk", "onAhead", "[[I", true)
  | 2 => ("VariantParser$Walk", "on", "[I", true)
  | 3 => ("VariantParser$Walk", "activeAheadOfWhen", "[I", true)
  | 4 => ("VariantParser$Walk", "activeAtOtherwise", "[I", true)
  | 5 => ("VariantParser$Walk", "active", "I", false)
  | _ => ("VariantParser$Walk", "depth", "I", false)
def tyX6 : Nat → FieldType := fun k => match k with
  | 0 => .array .int
  | 1 => .array (.array .int)
  | 2 => .array .int
  | 3 => .array .int
  | 4 => .array .int
  | 5 => .int
  | _ => .int
theorem nmX6 : ∀ a, a < 7 → ∀ b, b < 7 → a ≠ b → (TX6 a).2.1 ≠ (TX6 b).2.1 := by decide +kernel
theorem tyX6_ok : ∀ k, k < 7 → parseFieldDescriptor (TX6 k).2.2.1 = some (tyX6 k) := by decide +kernel
abbrev cX6_init : ByteArray := prog_8_method_1_code
def yX6_init : MethodName := ⟨RX6, "<init>", "()V"⟩
abbrev cX6_isPresent : ByteArray := prog_8_method_2_code
def yX6_isPresent : MethodName := ⟨RX6, "isPresent", "(II)Z"⟩
abbrev cX6_goThrough : ByteArray := prog_8_method_3_code
def yX6_goThrough : MethodName := ⟨RX6, "goThrough", "(LVariantParser$Source;)V"⟩
abbrev cX6_step : ByteArray := prog_8_method_4_code
def yX6_step : MethodName := ⟨RX6, "step", "(II)V"⟩
abbrev cX6_enter : ByteArray := prog_8_method_5_code
def yX6_enter : MethodName := ⟨RX6, "enter", "(I)V"⟩
abbrev cX6_turn : ByteArray := prog_8_method_6_code
def yX6_turn : MethodName := ⟨RX6, "turn", "(I)V"⟩
def RX7 : String := "VariantParser"
def TX7 : u_T := fun k => match k with
  | 0 => ("VariantParser", "source", "LVariantParser$Source;", true)
  | 1 => ("VariantParser", "walk", "LVariantParser$Walk;", true)
  | 2 => ("VariantParser", "variantOf", "[LVariantParser$Variant;", true)
  | 3 => ("VariantParser", "groupCounts", "[I", true)
  | _ => ("VariantParser", "isFresh", "Z", false)
def tyX7 : Nat → FieldType := fun k => match k with
  | 0 => .object "VariantParser$Source"
  | 1 => .object "VariantParser$Walk"
  | 2 => .array (.object "VariantParser$Variant")
  | 3 => .array .int
  | _ => .boolean
theorem nmX7 : ∀ a, a < 5 → ∀ b, b < 5 → a ≠ b → (TX7 a).2.1 ≠ (TX7 b).2.1 := by decide +kernel
theorem tyX7_ok : ∀ k, k < 5 → parseFieldDescriptor (TX7 k).2.2.1 = some (tyX7 k) := by decide +kernel
abbrev cX7_init : ByteArray := prog_1_method_1_code
def yX7_init : MethodName := ⟨RX7, "<init>", "()V"⟩
abbrev cX7_write : ByteArray := prog_1_method_2_code
def yX7_write : MethodName := ⟨RX7, "write", "(J)I"⟩
abbrev cX7_when : ByteArray := prog_1_method_3_code
def yX7_when : MethodName := ⟨RX7, "when", "(IZ)I"⟩
abbrev cX7_otherwise : ByteArray := prog_1_method_4_code
def yX7_otherwise : MethodName := ⟨RX7, "otherwise", "()I"⟩
abbrev cX7_done : ByteArray := prog_1_method_5_code
def yX7_done : MethodName := ⟨RX7, "done", "()I"⟩
abbrev cX7_set : ByteArray := prog_1_method_6_code
def yX7_set : MethodName := ⟨RX7, "set", "(IZ)I"⟩
abbrev cX7_drop : ByteArray := prog_1_method_7_code
def yX7_drop : MethodName := ⟨RX7, "drop", "()I"⟩
abbrev cX7_replace : ByteArray := prog_1_method_8_code
def yX7_replace : MethodName := ⟨RX7, "replace", "(II)I"⟩
abbrev cX7_size : ByteArray := prog_1_method_9_code
def yX7_size : MethodName := ⟨RX7, "size", "()I"⟩
abbrev cX7_item : ByteArray := prog_1_method_10_code
def yX7_item : MethodName := ⟨RX7, "item", "(I)I"⟩
abbrev cX7_unfinished : ByteArray := prog_1_method_11_code
def yX7_unfinished : MethodName := ⟨RX7, "unfinished", "()I"⟩
abbrev cX7_presence : ByteArray := prog_1_method_12_code
def yX7_presence : MethodName := ⟨RX7, "presence", "(I)I"⟩
abbrev cX7_on : ByteArray := prog_1_method_13_code
def yX7_on : MethodName := ⟨RX7, "on", "(II)I"⟩
abbrev cX7_features : ByteArray := prog_1_method_14_code
def yX7_features : MethodName := ⟨RX7, "features", "(I)I"⟩
abbrev cX7_dead : ByteArray := prog_1_method_15_code
def yX7_dead : MethodName := ⟨RX7, "dead", "()I"⟩
abbrev cX7_length : ByteArray := prog_1_method_16_code
def yX7_length : MethodName := ⟨RX7, "length", "(I)I"⟩
abbrev cX7_place : ByteArray := prog_1_method_17_code
def yX7_place : MethodName := ⟨RX7, "place", "(II)I"⟩
abbrev cX7_variants : ByteArray := prog_1_method_18_code
def yX7_variants : MethodName := ⟨RX7, "variants", "()I"⟩
abbrev cX7_error : ByteArray := prog_1_method_19_code
def yX7_error : MethodName := ⟨RX7, "error", "(I)I"⟩
abbrev cX7_wrong : ByteArray := prog_1_method_20_code
def yX7_wrong : MethodName := ⟨RX7, "wrong", "()I"⟩
abbrev cX7_firstError : ByteArray := prog_1_method_21_code
def yX7_firstError : MethodName := ⟨RX7, "firstError", "()I"⟩
abbrev cX7_groups : ByteArray := prog_1_method_22_code
def yX7_groups : MethodName := ⟨RX7, "groups", "(I)I"⟩
abbrev cX7_work : ByteArray := prog_1_method_23_code
def yX7_work : MethodName := ⟨RX7, "work", "()I"⟩
abbrev cX7_gain : ByteArray := prog_1_method_24_code
def yX7_gain : MethodName := ⟨RX7, "gain", "()D"⟩
abbrev cX7_stack : ByteArray := prog_1_method_25_code
def yX7_stack : MethodName := ⟨RX7, "stack", "(II)I"⟩
abbrev cX7_outputs : ByteArray := prog_1_method_26_code
def yX7_outputs : MethodName := ⟨RX7, "outputs", "(I)I"⟩
abbrev cX7_output : ByteArray := prog_1_method_27_code
def yX7_output : MethodName := ⟨RX7, "output", "(II)I"⟩
abbrev cX7_variable : ByteArray := prog_1_method_28_code
def yX7_variable : MethodName := ⟨RX7, "variable", "(II)I"⟩
abbrev cX7_behaviours : ByteArray := prog_1_method_29_code
def yX7_behaviours : MethodName := ⟨RX7, "behaviours", "()I"⟩
abbrev cX7_digest : ByteArray := prog_1_method_30_code
def yX7_digest : MethodName := ⟨RX7, "digest", "()J"⟩
abbrev cX7_checkFeature : ByteArray := prog_1_method_31_code
def yX7_checkFeature : MethodName := ⟨RX7, "checkFeature", "(I)V"⟩
abbrev cX7_checkItem : ByteArray := prog_1_method_32_code
def yX7_checkItem : MethodName := ⟨RX7, "checkItem", "(I)V"⟩
abbrev cX7_checkConfiguration : ByteArray := prog_1_method_33_code
def yX7_checkConfiguration : MethodName := ⟨RX7, "checkConfiguration", "(I)V"⟩
abbrev cX7_checkIndex : ByteArray := prog_1_method_34_code
def yX7_checkIndex : MethodName := ⟨RX7, "checkIndex", "(II)V"⟩
abbrev cX7_checkRoom : ByteArray := prog_1_method_35_code
def yX7_checkRoom : MethodName := ⟨RX7, "checkRoom", "()V"⟩
abbrev cX7_checkUnfinished : ByteArray := prog_1_method_36_code
def yX7_checkUnfinished : MethodName := ⟨RX7, "checkUnfinished", "()V"⟩
abbrev cX7_checkFinished : ByteArray := prog_1_method_37_code
def yX7_checkFinished : MethodName := ⟨RX7, "checkFinished", "()V"⟩
abbrev cX7_checkNoError : ByteArray := prog_1_method_38_code
def yX7_checkNoError : MethodName := ⟨RX7, "checkNoError", "(I)V"⟩
abbrev cX7_byteOf : ByteArray := prog_1_method_39_code
def yX7_byteOf : MethodName := ⟨RX7, "byteOf", "(JI)I"⟩
abbrev cX7_append : ByteArray := prog_1_method_40_code
def yX7_append : MethodName := ⟨RX7, "append", "(I)I"⟩
abbrev cX7_matters : ByteArray := prog_1_method_41_code
def yX7_matters : MethodName := ⟨RX7, "matters", "(II)Z"⟩
abbrev cX7_refresh : ByteArray := prog_1_method_42_code
def yX7_refresh : MethodName := ⟨RX7, "refresh", "()V"⟩
abbrev cX7_collectVariants : ByteArray := prog_1_method_43_code
def yX7_collectVariants : MethodName := ⟨RX7, "collectVariants", "()V"⟩
abbrev cX7_readAll : ByteArray := prog_1_method_44_code
def yX7_readAll : MethodName := ⟨RX7, "readAll", "()V"⟩
abbrev cX7_runAll : ByteArray := prog_1_method_45_code
def yX7_runAll : MethodName := ⟨RX7, "runAll", "()V"⟩
abbrev cX7_isReadBy : ByteArray := prog_1_method_46_code
def yX7_isReadBy : MethodName := ⟨RX7, "isReadBy", "(II)Z"⟩
abbrev cX7_countGroups : ByteArray := prog_1_method_47_code
def yX7_countGroups : MethodName := ⟨RX7, "countGroups", "(I)I"⟩
abbrev cX7_isFirstOfItsGroup : ByteArray := prog_1_method_48_code
def yX7_isFirstOfItsGroup : MethodName := ⟨RX7, "isFirstOfItsGroup", "(II)Z"⟩
abbrev cX7_isFirstOfItsText : ByteArray := prog_1_method_49_code
def yX7_isFirstOfItsText : MethodName := ⟨RX7, "isFirstOfItsText", "(I)Z"⟩
abbrev cX7_isFirstOfItsBehaviour : ByteArray := prog_1_method_50_code
def yX7_isFirstOfItsBehaviour : MethodName := ⟨RX7, "isFirstOfItsBehaviour", "(I)Z"⟩
abbrev cX7_sumOfGroups : ByteArray := prog_1_method_51_code
def yX7_sumOfGroups : MethodName := ⟨RX7, "sumOfGroups", "()I"⟩
abbrev cX7_mix : ByteArray := prog_1_method_52_code
def yX7_mix : MethodName := ⟨RX7, "mix", "(JJ)J"⟩
abbrev cX7_mixVariant : ByteArray := prog_1_method_53_code
def yX7_mixVariant : MethodName := ⟨RX7, "mixVariant", "(JLVariantParser$Variant;)J"⟩
def RX8 : String := "VariantParserModel"
def TX8 : u_T := fun k => match k with
  | 0 => ("VariantParserModel", "thrown", "I", false)
  | 1 => ("VariantParserModel", "size", "I", false)
  | 2 => ("VariantParserModel", "items", "[I", true)
  | 3 => ("VariantParserModel", "present", "[I", true)
  | 4 => ("VariantParserModel", "ons", "[I", true)
  | 5 => ("VariantParserModel", "stacks", "[I", true)
  | 6 => ("VariantParserModel", "depths", "[I", true)
  | 7 => ("VariantParserModel", "errors", "[I", true)
  | 8 => ("VariantParserModel", "groupCounts", "[I", true)
  | 9 => ("VariantParserModel", "depthsAt", "[I", true)
  | 10 => ("VariantParserModel", "code", "[I", true)
  | 11 => ("VariantParserModel", "at", "I", false)
  | 12 => ("VariantParserModel", "values", "[I", true)
  | 13 => ("VariantParserModel", "written", "I", false)
  | _ => ("VariantParserModel", "output", "[I", true)
def tyX8 : Nat → FieldType := fun k => match k with
  | 0 => .int
  | 1 => .int
  | 2 => .array .int
  | 3 => .array .int
  | 4 => .array .int
  | 5 => .array .int
  | 6 => .array .int
  | 7 => .array .int
  | 8 => .array .int
  | 9 => .array .int
  | 10 => .array .int
  | 11 => .int
  | 12 => .array .int
  | 13 => .int
  | _ => .array .int
theorem nmX8 : ∀ a, a < 15 → ∀ b, b < 15 → a ≠ b → (TX8 a).2.1 ≠ (TX8 b).2.1 := by decide +kernel
theorem tyX8_ok : ∀ k, k < 15 → parseFieldDescriptor (TX8 k).2.2.1 = some (tyX8 k) := by decide +kernel
abbrev cX8_init : ByteArray := prog_10_method_1_code
def yX8_init : MethodName := ⟨RX8, "<init>", "()V"⟩
abbrev cX8_thrown : ByteArray := prog_10_method_2_code
def yX8_thrown : MethodName := ⟨RX8, "thrown", "()I"⟩
abbrev cX8_no : ByteArray := prog_10_method_3_code
def yX8_no : MethodName := ⟨RX8, "no", "(I)I"⟩
abbrev cX8_isIn : ByteArray := prog_10_method_4_code
def yX8_isIn : MethodName := ⟨RX8, "isIn", "(III)Z"⟩
abbrev cX8_has : ByteArray := prog_10_method_5_code
def yX8_has : MethodName := ⟨RX8, "has", "(II)Z"⟩
abbrev cX8_isItem : ByteArray := prog_10_method_6_code
def yX8_isItem : MethodName := ⟨RX8, "isItem", "(I)Z"⟩
abbrev cX8_isFeature : ByteArray := prog_10_method_7_code
def yX8_isFeature : MethodName := ⟨RX8, "isFeature", "(I)Z"⟩
abbrev cX8_isConfiguration : ByteArray := prog_10_method_8_code
def yX8_isConfiguration : MethodName := ⟨RX8, "isConfiguration", "(I)Z"⟩
abbrev cX8_isCharacter : ByteArray := prog_10_method_9_code
def yX8_isCharacter : MethodName := ⟨RX8, "isCharacter", "(I)Z"⟩
abbrev cX8_isToken : ByteArray := prog_10_method_10_code
def yX8_isToken : MethodName := ⟨RX8, "isToken", "(I)Z"⟩
abbrev cX8_append : ByteArray := prog_10_method_11_code
def yX8_append : MethodName := ⟨RX8, "append", "(I)I"⟩
abbrev cX8_write : ByteArray := prog_10_method_12_code
def yX8_write : MethodName := ⟨RX8, "write", "(J)I"⟩
abbrev cX8_whenOf : ByteArray := prog_10_method_13_code
def yX8_whenOf : MethodName := ⟨RX8, "whenOf", "(I)I"⟩
abbrev cX8_openCount : ByteArray := prog_10_method_14_code
def yX8_openCount : MethodName := ⟨RX8, "openCount", "()I"⟩
abbrev cX8_when : ByteArray := prog_10_method_15_code
def yX8_when : MethodName := ⟨RX8, "when", "(IZ)I"⟩
abbrev cX8_hasOtherwise : ByteArray := prog_10_method_16_code
def yX8_hasOtherwise : MethodName := ⟨RX8, "hasOtherwise", "(I)Z"⟩
abbrev cX8_otherwise : ByteArray := prog_10_method_17_code
def yX8_otherwise : MethodName := ⟨RX8, "otherwise", "()I"⟩
abbrev cX8_done : ByteArray := prog_10_method_18_code
def yX8_done : MethodName := ⟨RX8, "done", "()I"⟩
abbrev cX8_set : ByteArray := prog_10_method_19_code
def yX8_set : MethodName := ⟨RX8, "set", "(IZ)I"⟩
abbrev cX8_drop : ByteArray := prog_10_method_20_code
def yX8_drop : MethodName := ⟨RX8, "drop", "()I"⟩
abbrev cX8_replace : ByteArray := prog_10_method_21_code
def yX8_replace : MethodName := ⟨RX8, "replace", "(II)I"⟩
abbrev cX8_size : ByteArray := prog_10_method_22_code
def yX8_size : MethodName := ⟨RX8, "size", "()I"⟩
abbrev cX8_item : ByteArray := prog_10_method_23_code
def yX8_item : MethodName := ⟨RX8, "item", "(I)I"⟩
abbrev cX8_unfinished : ByteArray := prog_10_method_24_code
def yX8_unfinished : MethodName := ⟨RX8, "unfinished", "()I"⟩
abbrev cX8_look : ByteArray := prog_10_method_25_code
def yX8_look : MethodName := ⟨RX8, "look", "()V"⟩
abbrev cX8_presence : ByteArray := prog_10_method_26_code
def yX8_presence : MethodName := ⟨RX8, "presence", "(I)I"⟩
abbrev cX8_on : ByteArray := prog_10_method_27_code
def yX8_on : MethodName := ⟨RX8, "on", "(II)I"⟩
abbrev cX8_features : ByteArray := prog_10_method_28_code
def yX8_features : MethodName := ⟨RX8, "features", "(I)I"⟩
abbrev cX8_dead : ByteArray := prog_10_method_29_code
def yX8_dead : MethodName := ⟨RX8, "dead", "()I"⟩
abbrev cX8_lengthOf : ByteArray := prog_10_method_30_code
def yX8_lengthOf : MethodName := ⟨RX8, "lengthOf", "(I)I"⟩
abbrev cX8_find : ByteArray := prog_10_method_31_code
def yX8_find : MethodName := ⟨RX8, "find", "(II)I"⟩
abbrev cX8_length : ByteArray := prog_10_method_32_code
def yX8_length : MethodName := ⟨RX8, "length", "(I)I"⟩
abbrev cX8_place : ByteArray := prog_10_method_33_code
def yX8_place : MethodName := ⟨RX8, "place", "(II)I"⟩
abbrev cX8_areSame : ByteArray := prog_10_method_34_code
def yX8_areSame : MethodName := ⟨RX8, "areSame", "(II)Z"⟩
abbrev cX8_variants : ByteArray := prog_10_method_35_code
def yX8_variants : MethodName := ⟨RX8, "variants", "()I"⟩
abbrev cX8_push : ByteArray := prog_10_method_36_code
def yX8_push : MethodName := ⟨RX8, "push", "(II)V"⟩
abbrev cX8_isName : ByteArray := prog_10_method_37_code
def yX8_isName : MethodName := ⟨RX8, "isName", "(I)Z"⟩
abbrev cX8_canBegin : ByteArray := prog_10_method_38_code
def yX8_canBegin : MethodName := ⟨RX8, "canBegin", "(I)Z"⟩
abbrev cX8_expand : ByteArray := prog_10_method_39_code
def yX8_expand : MethodName := ⟨RX8, "expand", "(II)Z"⟩
abbrev cX8_expandStatement : ByteArray := prog_10_method_40_code
def yX8_expandStatement : MethodName := ⟨RX8, "expandStatement", "(II)Z"⟩
abbrev cX8_expandFactor : ByteArray := prog_10_method_41_code
def yX8_expandFactor : MethodName := ⟨RX8, "expandFactor", "(II)Z"⟩
abbrev cX8_readOne : ByteArray := prog_10_method_42_code
def yX8_readOne : MethodName := ⟨RX8, "readOne", "(II)Z"⟩
abbrev cX8_areLike : ByteArray := prog_10_method_43_code
def yX8_areLike : MethodName := ⟨RX8, "areLike", "(II)Z"⟩
abbrev cX8_countGroups : ByteArray := prog_10_method_44_code
def yX8_countGroups : MethodName := ⟨RX8, "countGroups", "(I)I"⟩
abbrev cX8_read : ByteArray := prog_10_method_45_code
def yX8_read : MethodName := ⟨RX8, "read", "()V"⟩
abbrev cX8_isWhole : ByteArray := prog_10_method_46_code
def yX8_isWhole : MethodName := ⟨RX8, "isWhole", "()Z"⟩
abbrev cX8_error : ByteArray := prog_10_method_47_code
def yX8_error : MethodName := ⟨RX8, "error", "(I)I"⟩
abbrev cX8_wrong : ByteArray := prog_10_method_48_code
def yX8_wrong : MethodName := ⟨RX8, "wrong", "()I"⟩
abbrev cX8_firstError : ByteArray := prog_10_method_49_code
def yX8_firstError : MethodName := ⟨RX8, "firstError", "()I"⟩
abbrev cX8_groups : ByteArray := prog_10_method_50_code
def yX8_groups : MethodName := ⟨RX8, "groups", "(I)I"⟩
abbrev cX8_sumOfGroups : ByteArray := prog_10_method_51_code
def yX8_sumOfGroups : MethodName := ⟨RX8, "sumOfGroups", "()I"⟩
abbrev cX8_work : ByteArray := prog_10_method_52_code
def yX8_work : MethodName := ⟨RX8, "work", "()I"⟩
abbrev cX8_gain : ByteArray := prog_10_method_53_code
def yX8_gain : MethodName := ⟨RX8, "gain", "()D"⟩
abbrev cX8_stack : ByteArray := prog_10_method_54_code
def yX8_stack : MethodName := ⟨RX8, "stack", "(II)I"⟩
abbrev cX8_passes : ByteArray := prog_10_method_55_code
def yX8_passes : MethodName := ⟨RX8, "passes", "(I)Z"⟩
abbrev cX8_expression : ByteArray := prog_10_method_56_code
def yX8_expression : MethodName := ⟨RX8, "expression", "()I"⟩
abbrev cX8_term : ByteArray := prog_10_method_57_code
def yX8_term : MethodName := ⟨RX8, "term", "()I"⟩
abbrev cX8_factor : ByteArray := prog_10_method_58_code
def yX8_factor : MethodName := ⟨RX8, "factor", "()I"⟩
abbrev cX8_statement : ByteArray := prog_10_method_59_code
def yX8_statement : MethodName := ⟨RX8, "statement", "(Z)V"⟩
abbrev cX8_run : ByteArray := prog_10_method_60_code
def yX8_run : MethodName := ⟨RX8, "run", "(I)V"⟩
abbrev cX8_asks : ByteArray := prog_10_method_61_code
def yX8_asks : MethodName := ⟨RX8, "asks", "(I)Z"⟩
abbrev cX8_outputs : ByteArray := prog_10_method_62_code
def yX8_outputs : MethodName := ⟨RX8, "outputs", "(I)I"⟩
abbrev cX8_output : ByteArray := prog_10_method_63_code
def yX8_output : MethodName := ⟨RX8, "output", "(II)I"⟩
abbrev cX8_variable : ByteArray := prog_10_method_64_code
def yX8_variable : MethodName := ⟨RX8, "variable", "(II)I"⟩
abbrev cX8_behaviours : ByteArray := prog_10_method_65_code
def yX8_behaviours : MethodName := ⟨RX8, "behaviours", "()I"⟩
abbrev cX8_digest : ByteArray := prog_10_method_66_code
def yX8_digest : MethodName := ⟨RX8, "digest", "()J"⟩
def RJx145de : String := "java/io/Serializable"
def TJx145de : u_T := fun k => match k with
  | _ => ("", "", "", false)
def tyJx145de : Nat → FieldType := fun k => match k with
  | _ => .int
theorem nmJx145de : ∀ a, a < 0 → ∀ b, b < 0 → a ≠ b → (TJx145de a).2.1 ≠ (TJx145de b).2.1 := by decide +kernel
theorem tyJx145de_ok : ∀ k, k < 0 → parseFieldDescriptor (TJx145de k).2.2.1 = some (tyJx145de k) := by decide +kernel
def RJx9f9b0 : String := "java/lang/CharSequence"
def TJx9f9b0 : u_T := fun k => match k with
  | _ => ("", "", "", false)
def tyJx9f9b0 : Nat → FieldType := fun k => match k with
  | _ => .int
theorem nmJx9f9b0 : ∀ a, a < 0 → ∀ b, b < 0 → a ≠ b → (TJx9f9b0 a).2.1 ≠ (TJx9f9b0 b).2.1 := by decide +kernel
theorem tyJx9f9b0_ok : ∀ k, k < 0 → parseFieldDescriptor (TJx9f9b0 k).2.2.1 = some (tyJx9f9b0 k) := by decide +kernel
def RJ11 : String := "java/lang/Character"
def TJ11 : u_T := fun k => match k with
  | _ => ("", "", "", false)
def tyJ11 : Nat → FieldType := fun k => match k with
  | _ => .int
theorem nmJ11 : ∀ a, a < 0 → ∀ b, b < 0 → a ≠ b → (TJ11 a).2.1 ≠ (TJ11 b).2.1 := by decide +kernel
theorem tyJ11_ok : ∀ k, k < 0 → parseFieldDescriptor (TJ11 k).2.2.1 = some (tyJ11 k) := by decide +kernel
abbrev cJ11_isValidCodePoint_9a6ad : ByteArray := prog_13_method_11_code
def yJ11_isValidCodePoint_9a6ad : MethodName := ⟨RJ11, "isValidCodePoint", "(I)Z"⟩
abbrev cJ11_highSurrogate_5068e : ByteArray := prog_13_method_28_code
def yJ11_highSurrogate_5068e : MethodName := ⟨RJ11, "highSurrogate", "(I)C"⟩
abbrev cJ11_lowSurrogate_5068e : ByteArray := prog_13_method_29_code
def yJ11_lowSurrogate_5068e : MethodName := ⟨RJ11, "lowSurrogate", "(I)C"⟩
def RJxb160c : String := "java/lang/Comparable"
def TJxb160c : u_T := fun k => match k with
  | _ => ("", "", "", false)
def tyJxb160c : Nat → FieldType := fun k => match k with
  | _ => .int
theorem nmJxb160c : ∀ a, a < 0 → ∀ b, b < 0 → a ≠ b → (TJxb160c a).2.1 ≠ (TJxb160c b).2.1 := by decide +kernel
theorem tyJxb160c_ok : ∀ k, k < 0 → parseFieldDescriptor (TJxb160c k).2.2.1 = some (tyJxb160c k) := by decide +kernel
def RJ9 : String := "java/lang/Math"
def TJ9 : u_T := fun k => match k with
  | _ => ("", "", "", false)
def tyJ9 : Nat → FieldType := fun k => match k with
  | _ => .int
theorem nmJ9 : ∀ a, a < 0 → ∀ b, b < 0 → a ≠ b → (TJ9 a).2.1 ≠ (TJ9 b).2.1 := by decide +kernel
theorem tyJ9_ok : ∀ k, k < 0 → parseFieldDescriptor (TJ9 k).2.2.1 = some (tyJ9 k) := by decide +kernel
abbrev cJ9_max_7cf53 : ByteArray := prog_19_method_65_code
def yJ9_max_7cf53 : MethodName := ⟨RJ9, "max", "(II)I"⟩
abbrev cJ9_min_7cf53 : ByteArray := prog_19_method_69_code
def yJ9_min_7cf53 : MethodName := ⟨RJ9, "min", "(II)I"⟩
def RJ0 : String := "java/lang/String"
def TJ0 : u_T := fun k => match k with
  | _ => ("", "", "", false)
def tyJ0 : Nat → FieldType := fun k => match k with
  | _ => .int
theorem nmJ0 : ∀ a, a < 0 → ∀ b, b < 0 → a ≠ b → (TJ0 a).2.1 ≠ (TJ0 b).2.1 := by decide +kernel
theorem tyJ0_ok : ∀ k, k < 0 → parseFieldDescriptor (TJ0 k).2.2.1 = some (tyJ0 k) := by decide +kernel
abbrev cJ0_length_8abf5 : ByteArray := prog_21_method_54_code
def yJ0_length_8abf5 : MethodName := ⟨RJ0, "length", "()I"⟩
abbrev cJ0_charAt_5068e : ByteArray := prog_21_method_56_code
def yJ0_charAt_5068e : MethodName := ⟨RJ0, "charAt", "(I)C"⟩
abbrev cJ0_indexOf_0f7a4 : ByteArray := prog_21_method_79_code
def yJ0_indexOf_0f7a4 : MethodName := ⟨RJ0, "indexOf", "(I)I"⟩
abbrev cJ0_indexOf_7cf53 : ByteArray := prog_21_method_80_code
def yJ0_indexOf_7cf53 : MethodName := ⟨RJ0, "indexOf", "(II)I"⟩
abbrev cJ0_coder_7d493 : ByteArray := prog_21_method_152_code
def yJ0_coder_7d493 : MethodName := ⟨RJ0, "coder", "()B"⟩
abbrev cJ0_isLatin1_aae02 : ByteArray := prog_21_method_154_code
def yJ0_isLatin1_aae02 : MethodName := ⟨RJ0, "isLatin1", "()Z"⟩
abbrev cJ0_checkIndex_df160 : ByteArray := prog_21_method_155_code
def yJ0_checkIndex_df160 : MethodName := ⟨RJ0, "checkIndex", "(II)V"⟩
abbrev cJ0_checkBoundsBeginEnd_23922 : ByteArray := prog_21_method_158_code
def yJ0_checkBoundsBeginEnd_23922 : MethodName := ⟨RJ0, "checkBoundsBeginEnd", "(III)V"⟩
def RJ1 : String := "java/lang/StringLatin1"
def TJ1 : u_T := fun k => match k with
  | _ => ("", "", "", false)
def tyJ1 : Nat → FieldType := fun k => match k with
  | _ => .int
theorem nmJ1 : ∀ a, a < 0 → ∀ b, b < 0 → a ≠ b → (TJ1 a).2.1 ≠ (TJ1 b).2.1 := by decide +kernel
theorem tyJ1_ok : ∀ k, k < 0 → parseFieldDescriptor (TJ1 k).2.2.1 = some (tyJ1 k) := by decide +kernel
abbrev cJ1_charAt_3b067 : ByteArray := prog_22_method_2_code
def yJ1_charAt_3b067 : MethodName := ⟨RJ1, "charAt", "([BI)C"⟩
abbrev cJ1_canEncode_9a6ad : ByteArray := prog_22_method_4_code
def yJ1_canEncode_9a6ad : MethodName := ⟨RJ1, "canEncode", "(I)Z"⟩
abbrev cJ1_indexOf_4cfef : ByteArray := prog_22_method_22_code
def yJ1_indexOf_4cfef : MethodName := ⟨RJ1, "indexOf", "([BIII)I"⟩
abbrev cJ1_indexOfChar_4cfef : ByteArray := prog_22_method_23_code
def yJ1_indexOfChar_4cfef : MethodName := ⟨RJ1, "indexOfChar", "([BIII)I"⟩
def RJ2 : String := "java/lang/StringUTF16"
def TJ2 : u_T := fun k => match k with
  | _ => ("", "", "", false)
def tyJ2 : Nat → FieldType := fun k => match k with
  | _ => .int
theorem nmJ2 : ∀ a, a < 0 → ∀ b, b < 0 → a ≠ b → (TJ2 a).2.1 ≠ (TJ2 b).2.1 := by decide +kernel
theorem tyJ2_ok : ∀ k, k < 0 → parseFieldDescriptor (TJ2 k).2.2.1 = some (tyJ2 k) := by decide +kernel
abbrev cJ2_getChar_3b067 : ByteArray := prog_23_method_5_code
def yJ2_getChar_3b067 : MethodName := ⟨RJ2, "getChar", "([BI)C"⟩
abbrev cJ2_length_9d52b : ByteArray := prog_23_method_6_code
def yJ2_length_9d52b : MethodName := ⟨RJ2, "length", "([B)I"⟩
abbrev cJ2_indexOf_4cfef : ByteArray := prog_23_method_40_code
def yJ2_indexOf_4cfef : MethodName := ⟨RJ2, "indexOf", "([BIII)I"⟩
abbrev cJ2_indexOfChar_4cfef : ByteArray := prog_23_method_47_code
def yJ2_indexOfChar_4cfef : MethodName := ⟨RJ2, "indexOfChar", "([BIII)I"⟩
abbrev cJ2_indexOfCharUnsafe_4cfef : ByteArray := prog_23_method_48_code
def yJ2_indexOfCharUnsafe_4cfef : MethodName := ⟨RJ2, "indexOfCharUnsafe", "([BIII)I"⟩
abbrev cJ2_indexOfSupplementary_4cfef : ByteArray := prog_23_method_49_code
def yJ2_indexOfSupplementary_4cfef : MethodName := ⟨RJ2, "indexOfSupplementary", "([BIII)I"⟩
abbrev cJ2_charAt_3b067 : ByteArray := prog_23_method_83_code
def yJ2_charAt_3b067 : MethodName := ⟨RJ2, "charAt", "([BI)C"⟩
abbrev cJ2_checkIndex_2214a : ByteArray := prog_23_method_91_code
def yJ2_checkIndex_2214a : MethodName := ⟨RJ2, "checkIndex", "(I[B)V"⟩
abbrev cJ2_checkBoundsBeginEnd_d044e : ByteArray := prog_23_method_93_code
def yJ2_checkBoundsBeginEnd_d044e : MethodName := ⟨RJ2, "checkBoundsBeginEnd", "(II[B)V"⟩
def RJxfd54e : String := "java/lang/constant/Constable"
def TJxfd54e : u_T := fun k => match k with
  | _ => ("", "", "", false)
def tyJxfd54e : Nat → FieldType := fun k => match k with
  | _ => .int
theorem nmJxfd54e : ∀ a, a < 0 → ∀ b, b < 0 → a ≠ b → (TJxfd54e a).2.1 ≠ (TJxfd54e b).2.1 := by decide +kernel
theorem tyJxfd54e_ok : ∀ k, k < 0 → parseFieldDescriptor (TJxfd54e k).2.2.1 = some (tyJxfd54e k) := by decide +kernel
def RJx3cf43 : String := "java/lang/constant/ConstantDesc"
def TJx3cf43 : u_T := fun k => match k with
  | _ => ("", "", "", false)
def tyJx3cf43 : Nat → FieldType := fun k => match k with
  | _ => .int
theorem nmJx3cf43 : ∀ a, a < 0 → ∀ b, b < 0 → a ≠ b → (TJx3cf43 a).2.1 ≠ (TJx3cf43 b).2.1 := by decide +kernel
theorem tyJx3cf43_ok : ∀ k, k < 0 → parseFieldDescriptor (TJx3cf43 k).2.2.1 = some (tyJx3cf43 k) := by decide +kernel
def RJ3 : String := "jdk/internal/util/Preconditions"
def TJ3 : u_T := fun k => match k with
  | _ => ("", "", "", false)
def tyJ3 : Nat → FieldType := fun k => match k with
  | _ => .int
theorem nmJ3 : ∀ a, a < 0 → ∀ b, b < 0 → a ≠ b → (TJ3 a).2.1 ≠ (TJ3 b).2.1 := by decide +kernel
theorem tyJ3_ok : ∀ k, k < 0 → parseFieldDescriptor (TJ3 k).2.2.1 = some (tyJ3 k) := by decide +kernel
abbrev cJ3_checkIndex_8e157 : ByteArray := prog_28_method_11_code
def yJ3_checkIndex_8e157 : MethodName := ⟨RJ3, "checkIndex", "(IILjava/util/function/BiFunction;)I"⟩
abbrev cJ3_checkFromToIndex_8c36e : ByteArray := prog_28_method_12_code
def yJ3_checkFromToIndex_8c36e : MethodName := ⟨RJ3, "checkFromToIndex", "(IIILjava/util/function/BiFunction;)I"⟩
def RL : String := "VariantParserLaw"
abbrev cL_write : ByteArray := method_3_code
def yL_write : MethodName := ⟨RL, "write", "(LVariantParser;J[J)I"⟩
abbrev cL_when : ByteArray := method_4_code
def yL_when : MethodName := ⟨RL, "when", "(LVariantParser;IZ[J)I"⟩
abbrev cL_otherwise : ByteArray := method_5_code
def yL_otherwise : MethodName := ⟨RL, "otherwise", "(LVariantParser;[J)I"⟩
abbrev cL_done : ByteArray := method_6_code
def yL_done : MethodName := ⟨RL, "done", "(LVariantParser;[J)I"⟩
abbrev cL_set : ByteArray := method_7_code
def yL_set : MethodName := ⟨RL, "set", "(LVariantParser;IZ[J)I"⟩
abbrev cL_drop : ByteArray := method_8_code
def yL_drop : MethodName := ⟨RL, "drop", "(LVariantParser;[J)I"⟩
abbrev cL_replace : ByteArray := method_9_code
def yL_replace : MethodName := ⟨RL, "replace", "(LVariantParser;II[J)I"⟩
abbrev cL_item : ByteArray := method_10_code
def yL_item : MethodName := ⟨RL, "item", "(LVariantParser;I[J)I"⟩
abbrev cL_presence : ByteArray := method_11_code
def yL_presence : MethodName := ⟨RL, "presence", "(LVariantParser;I[J)I"⟩
abbrev cL_on : ByteArray := method_12_code
def yL_on : MethodName := ⟨RL, "on", "(LVariantParser;II[J)I"⟩
abbrev cL_features : ByteArray := method_13_code
def yL_features : MethodName := ⟨RL, "features", "(LVariantParser;I[J)I"⟩
abbrev cL_length : ByteArray := method_14_code
def yL_length : MethodName := ⟨RL, "length", "(LVariantParser;I[J)I"⟩
abbrev cL_place : ByteArray := method_15_code
def yL_place : MethodName := ⟨RL, "place", "(LVariantParser;II[J)I"⟩
abbrev cL_error : ByteArray := method_16_code
def yL_error : MethodName := ⟨RL, "error", "(LVariantParser;I[J)I"⟩
abbrev cL_wrong : ByteArray := method_17_code
def yL_wrong : MethodName := ⟨RL, "wrong", "(LVariantParser;[J)I"⟩
abbrev cL_firstError : ByteArray := method_18_code
def yL_firstError : MethodName := ⟨RL, "firstError", "(LVariantParser;[J)I"⟩
abbrev cL_groups : ByteArray := method_19_code
def yL_groups : MethodName := ⟨RL, "groups", "(LVariantParser;I[J)I"⟩
abbrev cL_work : ByteArray := method_20_code
def yL_work : MethodName := ⟨RL, "work", "(LVariantParser;[J)I"⟩
abbrev cL_gain : ByteArray := method_21_code
def yL_gain : MethodName := ⟨RL, "gain", "(LVariantParser;[D)I"⟩
abbrev cL_stack : ByteArray := method_22_code
def yL_stack : MethodName := ⟨RL, "stack", "(LVariantParser;II[J)I"⟩
abbrev cL_outputs : ByteArray := method_23_code
def yL_outputs : MethodName := ⟨RL, "outputs", "(LVariantParser;I[J)I"⟩
abbrev cL_output : ByteArray := method_24_code
def yL_output : MethodName := ⟨RL, "output", "(LVariantParser;II[J)I"⟩
abbrev cL_variable : ByteArray := method_25_code
def yL_variable : MethodName := ⟨RL, "variable", "(LVariantParser;II[J)I"⟩
abbrev cL_behaviours : ByteArray := method_26_code
def yL_behaviours : MethodName := ⟨RL, "behaviours", "(LVariantParser;[J)I"⟩
abbrev cL_law : ByteArray := code
def yL_law : MethodName := ⟨RL, "law", "([I)Z"⟩
abbrev vwCl : List vw_C := [(RX1, TX1, 5), (RX3, TX3, 6), (RX4, TX4, 2), (RX5, TX5, 5), (RX6, TX6, 7), (RX7, TX7, 5), (RX8, TX8, 15)]
end
section
/-! the words: all good words of the tables, and where each stands -/
def WG : List Cond := lw_tbl.filter goodWord
theorem WG_good {w : Cond} (h : w ∈ WG) : (w.onTables && w.keeps) = true ∨ ∃ ty, w = .arrayClass ty := good_of_word (List.mem_filter.mp h).2
theorem WG_lw {w : Cond} (h : w ∈ WG) : w ∈ lw_tbl := (List.mem_filter.mp h).1
theorem wt1 {w : Cond} (h : w ∈ tables_1_1) : w ∈ lw_tbl := List.mem_append_right _ (show w ∈ tables_1 from List.mem_append_left _ h)
theorem wg1 {w : Cond} (h : w ∈ tables_1_1) (g : goodWord w = true) : w ∈ WG := List.mem_filter.mpr ⟨wt1 h, g⟩
theorem wt2 {w : Cond} (h : w ∈ tables_1_2) : w ∈ lw_tbl := List.mem_append_right _ (show w ∈ tables_1 from List.mem_append_right _ (List.mem_append_left _ h))
theorem wg2 {w : Cond} (h : w ∈ tables_1_2) (g : goodWord w = true) : w ∈ WG := List.mem_filter.mpr ⟨wt2 h, g⟩
theorem wt3 {w : Cond} (h : w ∈ tables_1_3) : w ∈ lw_tbl := List.mem_append_right _ (show w ∈ tables_1 from List.mem_append_right _ (List.mem_append_right _ (List.mem_append_left _ h)))
theorem wg3 {w : Cond} (h : w ∈ tables_1_3) (g : goodWord w = true) : w ∈ WG := List.mem_filter.mpr ⟨wt3 h, g⟩
theorem wt4 {w : Cond} (h : w ∈ tables_1_4) : w ∈ lw_tbl := List.mem_append_right _ (show w ∈ tables_1 from List.mem_append_right _ (List.mem_append_right _ (List.mem_append_right _ (List.mem_append_left _ h))))
theorem wg4 {w : Cond} (h : w ∈ tables_1_4) (g : goodWord w = true) : w ∈ WG := List.mem_filter.mpr ⟨wt4 h, g⟩
theorem wt5 {w : Cond} (h : w ∈ tables_1_5) : w ∈ lw_tbl := List.mem_append_right _ (show w ∈ tables_1 from List.mem_append_right _ (List.mem_append_right _ (List.mem_append_right _ (List.mem_append_right _ (List.mem_append_left _ h)))))
theorem wg5 {w : Cond} (h : w ∈ tables_1_5) (g : goodWord w = true) : w ∈ WG := List.mem_filter.mpr ⟨wt5 h, g⟩
theorem wt6 {w : Cond} (h : w ∈ tables_1_6) : w ∈ lw_tbl := List.mem_append_right _ (show w ∈ tables_1 from List.mem_append_right _ (List.mem_append_right _ (List.mem_append_right _ (List.mem_append_right _ (List.mem_append_right _ (h))))))
theorem wg6 {w : Cond} (h : w ∈ tables_1_6) (g : goodWord w = true) : w ∈ WG := List.mem_filter.mpr ⟨wt6 h, g⟩
theorem wgp1 {q : MethodName × Nat} (h : q ∈ lw_privs_1) : Cond.selects q.1.cls q.1 q.1 ∈ WG := List.mem_filter.mpr ⟨List.mem_append_left _ (List.mem_map.mpr ⟨q, show q ∈ lw_privs from List.mem_append_left _ h, rfl⟩), rfl⟩
theorem wgp2 {q : MethodName × Nat} (h : q ∈ lw_privs_2) : Cond.selects q.1.cls q.1 q.1 ∈ WG := List.mem_filter.mpr ⟨List.mem_append_left _ (List.mem_map.mpr ⟨q, show q ∈ lw_privs from List.mem_append_right _ (List.mem_append_left _ h), rfl⟩), rfl⟩
theorem wgp3 {q : MethodName × Nat} (h : q ∈ lw_privs_3) : Cond.selects q.1.cls q.1 q.1 ∈ WG := List.mem_filter.mpr ⟨List.mem_append_left _ (List.mem_map.mpr ⟨q, show q ∈ lw_privs from List.mem_append_right _ (List.mem_append_right _ (List.mem_append_left _ h)), rfl⟩), rfl⟩
theorem wgp4 {q : MethodName × Nat} (h : q ∈ lw_privs_4) : Cond.selects q.1.cls q.1 q.1 ∈ WG := List.mem_filter.mpr ⟨List.mem_append_left _ (List.mem_map.mpr ⟨q, show q ∈ lw_privs from List.mem_append_right _ (List.mem_append_right _ (List.mem_append_right _ (h))), rfl⟩), rfl⟩
theorem m1_0 : Cond.initialized RL ∈ WG := wg1 (List.mem_of_getElem? (i := 0) rfl) rfl
theorem m1_1 : Cond.initialized RX7 ∈ WG := wg1 (List.mem_of_getElem? (i := 1) rfl) rfl
theorem m1_2 : Cond.initialized RX4 ∈ WG := wg1 (List.mem_of_getElem? (i := 2) rfl) rfl
theorem m1_3 : Cond.initialized RX6 ∈ WG := wg1 (List.mem_of_getElem? (i := 3) rfl) rfl
theorem m1_4 : Cond.initialized RX5 ∈ WG := wg1 (List.mem_of_getElem? (i := 4) rfl) rfl
theorem m1_5 : Cond.initialized RX1 ∈ WG := wg1 (List.mem_of_getElem? (i := 5) rfl) rfl
theorem m1_6 : Cond.initialized RX3 ∈ WG := wg1 (List.mem_of_getElem? (i := 6) rfl) rfl
theorem m1_7 : Cond.initialized RX8 ∈ WG := wg1 (List.mem_of_getElem? (i := 7) rfl) rfl
theorem m1_8 : Cond.initialized RX0 ∈ WG := wg1 (List.mem_of_getElem? (i := 8) rfl) rfl
theorem m1_9 : Cond.initialized "java/lang/Throwable" ∈ WG := wg1 (List.mem_of_getElem? (i := 9) rfl) rfl
theorem m1_10 : Cond.initialized "java/lang/Exception" ∈ WG := wg1 (List.mem_of_getElem? (i := 10) rfl) rfl
theorem m1_11 : Cond.initialized "java/lang/RuntimeException" ∈ WG := wg1 (List.mem_of_getElem? (i := 11) rfl) rfl
theorem m1_12 : Cond.initialized "java/lang/IllegalArgumentException" ∈ WG := wg1 (List.mem_of_getElem? (i := 12) rfl) rfl
theorem m1_13 : Cond.initialized "java/lang/IllegalStateException" ∈ WG := wg1 (List.mem_of_getElem? (i := 13) rfl) rfl
theorem m1_14 : Cond.initialized RJ0 ∈ WG := wg1 (List.mem_of_getElem? (i := 14) rfl) rfl
theorem m1_15 : Cond.initialized RJ1 ∈ WG := wg1 (List.mem_of_getElem? (i := 15) rfl) rfl
theorem m1_16 : Cond.initialized RJ9 ∈ WG := wg1 (List.mem_of_getElem? (i := 16) rfl) rfl
theorem m1_17 : Cond.initialized RJ2 ∈ WG := wg1 (List.mem_of_getElem? (i := 17) rfl) rfl
theorem m1_18 : Cond.initialized RJ3 ∈ WG := wg1 (List.mem_of_getElem? (i := 18) rfl) rfl
theorem m1_19 : Cond.initialized RJ11 ∈ WG := wg1 (List.mem_of_getElem? (i := 19) rfl) rfl
theorem m1_20 : Cond.initialized "java/lang/IndexOutOfBoundsException" ∈ WG := wg1 (List.mem_of_getElem? (i := 20) rfl) rfl
theorem m1_21 : Cond.initialized RX2 ∈ WG := wg1 (List.mem_of_getElem? (i := 21) rfl) rfl
theorem m1_22 : Cond.initialized "java/util/NoSuchElementException" ∈ WG := wg1 (List.mem_of_getElem? (i := 22) rfl) rfl
theorem m1_23 : Cond.classLink RL 8 "VariantParser" ∈ WG := wg1 (List.mem_of_getElem? (i := 23) rfl) rfl
theorem m1_24 : Cond.instantiable RX7 5 ∈ WG := wg1 (List.mem_of_getElem? (i := 24) rfl) rfl
theorem m1_25 : Cond.methodLink RL 95 yX7_init ∈ WG := wg1 (List.mem_of_getElem? (i := 25) rfl) rfl
theorem m1_26 : Cond.instanceMethod yX7_init ∈ WG := wg1 (List.mem_of_getElem? (i := 26) rfl) rfl
theorem m1_27 : Cond.code yX7_init cX7_init 2 none ∈ WG := wg1 (List.mem_of_getElem? (i := 27) rfl) rfl
theorem m1_28 : Cond.methodLink RX7 1 objectInit ∈ WG := wg1 (List.mem_of_getElem? (i := 28) rfl) rfl
theorem m1_29 : Cond.instanceMethod objectInit ∈ WG := wg1 (List.mem_of_getElem? (i := 29) rfl) rfl
theorem m1_30 : Cond.code objectInit object_method_1_code 1 none ∈ WG := wg1 (List.mem_of_getElem? (i := 30) rfl) rfl
theorem m1_31 : Cond.classLink RX7 7 "VariantParser$Source" ∈ WG := wg1 (List.mem_of_getElem? (i := 31) rfl) rfl
theorem m1_32 : Cond.instantiable RX4 2 ∈ WG := wg1 (List.mem_of_getElem? (i := 32) rfl) rfl
theorem m1_34 : Cond.instanceMethod yX4_init ∈ WG := wg1 (List.mem_of_getElem? (i := 34) rfl) rfl
theorem m1_35 : Cond.code yX4_init cX4_init 1 none ∈ WG := wg1 (List.mem_of_getElem? (i := 35) rfl) rfl
theorem m1_36 : Cond.methodLink RX4 3 objectInit ∈ WG := wg1 (List.mem_of_getElem? (i := 36) rfl) rfl
theorem m1_37 : Cond.fieldLink RX4 9 "VariantParser$Source" "codes" "[I" ∈ WG := wg1 (List.mem_of_getElem? (i := 37) rfl) rfl
theorem m1_38 : Cond.fieldLink RX6 45 "VariantParser$Source" "codes" "[I" ∈ WG := wg1 (List.mem_of_getElem? (i := 38) rfl) rfl
theorem m1_39 : Cond.fieldLink RX7 105 "VariantParser$Source" "codes" "[I" ∈ WG := wg1 (List.mem_of_getElem? (i := 39) rfl) rfl
theorem m1_40 : Cond.fieldLink RX7 55 "VariantParser$Source" "size" "I" ∈ WG := wg1 (List.mem_of_getElem? (i := 40) rfl) rfl
theorem m1_41 : Cond.fieldLink RX6 40 "VariantParser$Source" "size" "I" ∈ WG := wg1 (List.mem_of_getElem? (i := 41) rfl) rfl
theorem m1_42 : Cond.fieldLink RX4 19 "VariantParser$Source" "size" "I" ∈ WG := wg1 (List.mem_of_getElem? (i := 42) rfl) rfl
theorem m1_43 : Cond.laysFinal "VariantParser$Source" "VariantParser$Source" "codes" "[I" ∈ WG := wg1 (List.mem_of_getElem? (i := 43) rfl) rfl
theorem m1_45 : Cond.lays "VariantParser$Source" "VariantParser$Source" "size" "I" ∈ WG := wg1 (List.mem_of_getElem? (i := 45) rfl) rfl
theorem m1_48 : Cond.arrayClass .int ∈ WG := wg1 (List.mem_of_getElem? (i := 48) rfl) rfl
theorem m1_49 : Cond.classLink RX7 16 "VariantParser$Walk" ∈ WG := wg1 (List.mem_of_getElem? (i := 49) rfl) rfl
theorem m1_50 : Cond.instantiable RX6 7 ∈ WG := wg1 (List.mem_of_getElem? (i := 50) rfl) rfl
theorem m1_52 : Cond.instanceMethod yX6_init ∈ WG := wg1 (List.mem_of_getElem? (i := 52) rfl) rfl
theorem m1_53 : Cond.code yX6_init cX6_init 1 none ∈ WG := wg1 (List.mem_of_getElem? (i := 53) rfl) rfl
theorem m1_54 : Cond.methodLink RX6 3 objectInit ∈ WG := wg1 (List.mem_of_getElem? (i := 54) rfl) rfl
theorem m1_55 : Cond.classLink RX6 15 "[[I" ∈ WG := wg1 (List.mem_of_getElem? (i := 55) rfl) rfl
theorem m1_57 : Cond.fieldLink RX6 9 "VariantParser$Walk" "present" "[I" ∈ WG := wg1 (List.mem_of_getElem? (i := 57) rfl) rfl
theorem m1_58 : Cond.fieldLink RX7 115 "VariantParser$Walk" "present" "[I" ∈ WG := wg1 (List.mem_of_getElem? (i := 58) rfl) rfl
theorem m1_59 : Cond.fieldLink RX6 17 "VariantParser$Walk" "onAhead" "[[I" ∈ WG := wg1 (List.mem_of_getElem? (i := 59) rfl) rfl
theorem m1_60 : Cond.fieldLink RX7 118 "VariantParser$Walk" "onAhead" "[[I" ∈ WG := wg1 (List.mem_of_getElem? (i := 60) rfl) rfl
theorem m1_61 : Cond.fieldLink RX6 20 "VariantParser$Walk" "on" "[I" ∈ WG := wg1 (List.mem_of_getElem? (i := 61) rfl) rfl
theorem m1_62 : Cond.fieldLink RX6 23 "VariantParser$Walk" "activeAheadOfWhen" "[I" ∈ WG := wg1 (List.mem_of_getElem? (i := 62) rfl) rfl
theorem m1_63 : Cond.fieldLink RX6 26 "VariantParser$Walk" "activeAtOtherwise" "[I" ∈ WG := wg1 (List.mem_of_getElem? (i := 63) rfl) rfl
theorem m1_64 : Cond.fieldLink RX6 30 "VariantParser$Walk" "active" "I" ∈ WG := wg1 (List.mem_of_getElem? (i := 64) rfl) rfl
theorem m1_65 : Cond.fieldLink RX6 34 "VariantParser$Walk" "depth" "I" ∈ WG := wg1 (List.mem_of_getElem? (i := 65) rfl) rfl
theorem m1_66 : Cond.laysFinal "VariantParser$Walk" "VariantParser$Walk" "present" "[I" ∈ WG := wg1 (List.mem_of_getElem? (i := 66) rfl) rfl
theorem m1_68 : Cond.laysFinal "VariantParser$Walk" "VariantParser$Walk" "onAhead" "[[I" ∈ WG := wg1 (List.mem_of_getElem? (i := 68) rfl) rfl
theorem m1_70 : Cond.laysFinal "VariantParser$Walk" "VariantParser$Walk" "on" "[I" ∈ WG := wg1 (List.mem_of_getElem? (i := 70) rfl) rfl
theorem m1_72 : Cond.laysFinal "VariantParser$Walk" "VariantParser$Walk" "activeAheadOfWhen" "[I" ∈ WG := wg1 (List.mem_of_getElem? (i := 72) rfl) rfl
theorem m1_74 : Cond.laysFinal "VariantParser$Walk" "VariantParser$Walk" "activeAtOtherwise" "[I" ∈ WG := wg1 (List.mem_of_getElem? (i := 74) rfl) rfl
theorem m1_76 : Cond.lays "VariantParser$Walk" "VariantParser$Walk" "active" "I" ∈ WG := wg1 (List.mem_of_getElem? (i := 76) rfl) rfl
theorem m1_78 : Cond.lays "VariantParser$Walk" "VariantParser$Walk" "depth" "I" ∈ WG := wg1 (List.mem_of_getElem? (i := 78) rfl) rfl
theorem m1_81 : Cond.classLink RX7 23 "VariantParser$Variant" ∈ WG := wg1 (List.mem_of_getElem? (i := 81) rfl) rfl
theorem m1_83 : Cond.instantiable RX5 5 ∈ WG := wg1 (List.mem_of_getElem? (i := 83) rfl) rfl
theorem m1_85 : Cond.instanceMethod yX5_init ∈ WG := wg1 (List.mem_of_getElem? (i := 85) rfl) rfl
theorem m1_86 : Cond.code yX5_init cX5_init 1 none ∈ WG := wg1 (List.mem_of_getElem? (i := 86) rfl) rfl
theorem m1_87 : Cond.methodLink RX5 3 objectInit ∈ WG := wg1 (List.mem_of_getElem? (i := 87) rfl) rfl
theorem m1_88 : Cond.classLink RX5 18 "VariantParser$Reading" ∈ WG := wg1 (List.mem_of_getElem? (i := 88) rfl) rfl
theorem m1_89 : Cond.instantiable RX1 5 ∈ WG := wg1 (List.mem_of_getElem? (i := 89) rfl) rfl
theorem m1_91 : Cond.instanceMethod yX1_init ∈ WG := wg1 (List.mem_of_getElem? (i := 91) rfl) rfl
theorem m1_92 : Cond.code yX1_init cX1_init 1 none ∈ WG := wg1 (List.mem_of_getElem? (i := 92) rfl) rfl
theorem m1_93 : Cond.methodLink RX1 5 objectInit ∈ WG := wg1 (List.mem_of_getElem? (i := 93) rfl) rfl
theorem m1_94 : Cond.fieldLink RX1 11 "VariantParser$Reading" "symbols" "[I" ∈ WG := wg1 (List.mem_of_getElem? (i := 94) rfl) rfl
theorem m1_95 : Cond.fieldLink RX1 18 "VariantParser$Reading" "height" "I" ∈ WG := wg1 (List.mem_of_getElem? (i := 95) rfl) rfl
theorem m1_96 : Cond.fieldLink RX1 15 "VariantParser$Reading" "heights" "[I" ∈ WG := wg1 (List.mem_of_getElem? (i := 96) rfl) rfl
theorem m1_97 : Cond.fieldLink RX1 28 "VariantParser$Reading" "tokensRead" "I" ∈ WG := wg1 (List.mem_of_getElem? (i := 97) rfl) rfl
theorem m1_98 : Cond.fieldLink RX7 160 "VariantParser$Reading" "tokensRead" "I" ∈ WG := wg1 (List.mem_of_getElem? (i := 98) rfl) rfl
theorem m1_99 : Cond.fieldLink RX1 31 "VariantParser$Reading" "errorPlace" "I" ∈ WG := wg1 (List.mem_of_getElem? (i := 99) rfl) rfl
theorem m1_100 : Cond.fieldLink RX7 152 "VariantParser$Reading" "errorPlace" "I" ∈ WG := wg1 (List.mem_of_getElem? (i := 100) rfl) rfl
theorem m1_101 : Cond.laysFinal "VariantParser$Reading" "VariantParser$Reading" "symbols" "[I" ∈ WG := wg1 (List.mem_of_getElem? (i := 101) rfl) rfl
theorem m1_103 : Cond.lays "VariantParser$Reading" "VariantParser$Reading" "height" "I" ∈ WG := wg1 (List.mem_of_getElem? (i := 103) rfl) rfl
theorem m1_105 : Cond.laysFinal "VariantParser$Reading" "VariantParser$Reading" "heights" "[I" ∈ WG := wg1 (List.mem_of_getElem? (i := 105) rfl) rfl
theorem m1_107 : Cond.lays "VariantParser$Reading" "VariantParser$Reading" "tokensRead" "I" ∈ WG := wg1 (List.mem_of_getElem? (i := 107) rfl) rfl
theorem m1_109 : Cond.lays "VariantParser$Reading" "VariantParser$Reading" "errorPlace" "I" ∈ WG := wg1 (List.mem_of_getElem? (i := 109) rfl) rfl
theorem m1_112 : Cond.classLink RX5 25 "VariantParser$Run" ∈ WG := wg1 (List.mem_of_getElem? (i := 112) rfl) rfl
theorem m1_113 : Cond.instantiable RX3 6 ∈ WG := wg1 (List.mem_of_getElem? (i := 113) rfl) rfl
theorem m1_115 : Cond.instanceMethod yX3_init ∈ WG := wg1 (List.mem_of_getElem? (i := 115) rfl) rfl
theorem m1_116 : Cond.code yX3_init cX3_init 1 none ∈ WG := wg1 (List.mem_of_getElem? (i := 116) rfl) rfl
theorem m1_117 : Cond.methodLink RX3 3 objectInit ∈ WG := wg1 (List.mem_of_getElem? (i := 117) rfl) rfl
theorem m1_118 : Cond.fieldLink RX3 9 "VariantParser$Run" "tokens" "[I" ∈ WG := wg1 (List.mem_of_getElem? (i := 118) rfl) rfl
theorem m1_119 : Cond.fieldLink RX3 27 "VariantParser$Run" "count" "I" ∈ WG := wg1 (List.mem_of_getElem? (i := 119) rfl) rfl
theorem m1_120 : Cond.fieldLink RX3 31 "VariantParser$Run" "next" "I" ∈ WG := wg1 (List.mem_of_getElem? (i := 120) rfl) rfl
theorem m1_121 : Cond.fieldLink RX3 15 "VariantParser$Run" "variables" "[I" ∈ WG := wg1 (List.mem_of_getElem? (i := 121) rfl) rfl
theorem m1_122 : Cond.fieldLink RX7 185 "VariantParser$Run" "variables" "[I" ∈ WG := wg1 (List.mem_of_getElem? (i := 122) rfl) rfl
theorem m1_123 : Cond.fieldLink RX3 18 "VariantParser$Run" "outputs" "[I" ∈ WG := wg1 (List.mem_of_getElem? (i := 123) rfl) rfl
theorem m1_124 : Cond.fieldLink RX7 180 "VariantParser$Run" "outputs" "[I" ∈ WG := wg1 (List.mem_of_getElem? (i := 124) rfl) rfl
theorem m1_125 : Cond.fieldLink RX3 34 "VariantParser$Run" "outputCount" "I" ∈ WG := wg1 (List.mem_of_getElem? (i := 125) rfl) rfl
theorem m1_126 : Cond.fieldLink RX7 173 "VariantParser$Run" "outputCount" "I" ∈ WG := wg1 (List.mem_of_getElem? (i := 126) rfl) rfl
theorem m1_127 : Cond.laysFinal "VariantParser$Run" "VariantParser$Run" "tokens" "[I" ∈ WG := wg1 (List.mem_of_getElem? (i := 127) rfl) rfl
theorem m1_129 : Cond.lays "VariantParser$Run" "VariantParser$Run" "count" "I" ∈ WG := wg1 (List.mem_of_getElem? (i := 129) rfl) rfl
theorem m1_131 : Cond.lays "VariantParser$Run" "VariantParser$Run" "next" "I" ∈ WG := wg1 (List.mem_of_getElem? (i := 131) rfl) rfl
theorem m1_133 : Cond.laysFinal "VariantParser$Run" "VariantParser$Run" "variables" "[I" ∈ WG := wg1 (List.mem_of_getElem? (i := 133) rfl) rfl
theorem m1_135 : Cond.laysFinal "VariantParser$Run" "VariantParser$Run" "outputs" "[I" ∈ WG := wg1 (List.mem_of_getElem? (i := 135) rfl) rfl
theorem m1_137 : Cond.lays "VariantParser$Run" "VariantParser$Run" "outputCount" "I" ∈ WG := wg1 (List.mem_of_getElem? (i := 137) rfl) rfl
theorem m1_140 : Cond.fieldLink RX5 9 "VariantParser$Variant" "tokens" "[I" ∈ WG := wg1 (List.mem_of_getElem? (i := 140) rfl) rfl
theorem m1_141 : Cond.fieldLink RX7 257 "VariantParser$Variant" "tokens" "[I" ∈ WG := wg1 (List.mem_of_getElem? (i := 141) rfl) rfl
theorem m1_142 : Cond.fieldLink RX5 15 "VariantParser$Variant" "places" "[I" ∈ WG := wg1 (List.mem_of_getElem? (i := 142) rfl) rfl
theorem m1_143 : Cond.fieldLink RX7 139 "VariantParser$Variant" "places" "[I" ∈ WG := wg1 (List.mem_of_getElem? (i := 143) rfl) rfl
theorem m1_144 : Cond.fieldLink RX5 32 "VariantParser$Variant" "count" "I" ∈ WG := wg1 (List.mem_of_getElem? (i := 144) rfl) rfl
theorem m1_145 : Cond.fieldLink RX7 132 "VariantParser$Variant" "count" "I" ∈ WG := wg1 (List.mem_of_getElem? (i := 145) rfl) rfl
theorem m1_146 : Cond.fieldLink RX5 21 "VariantParser$Variant" "reading" "LVariantParser$Reading;" ∈ WG := wg1 (List.mem_of_getElem? (i := 146) rfl) rfl
theorem m1_147 : Cond.fieldLink RX7 148 "VariantParser$Variant" "reading" "LVariantParser$Reading;" ∈ WG := wg1 (List.mem_of_getElem? (i := 147) rfl) rfl
theorem m1_148 : Cond.fieldLink RX5 28 "VariantParser$Variant" "run" "LVariantParser$Run;" ∈ WG := wg1 (List.mem_of_getElem? (i := 148) rfl) rfl
theorem m1_149 : Cond.fieldLink RX7 169 "VariantParser$Variant" "run" "LVariantParser$Run;" ∈ WG := wg1 (List.mem_of_getElem? (i := 149) rfl) rfl
theorem m1_150 : Cond.laysFinal "VariantParser$Variant" "VariantParser$Variant" "tokens" "[I" ∈ WG := wg1 (List.mem_of_getElem? (i := 150) rfl) rfl
theorem m1_152 : Cond.laysFinal "VariantParser$Variant" "VariantParser$Variant" "places" "[I" ∈ WG := wg1 (List.mem_of_getElem? (i := 152) rfl) rfl
theorem m1_154 : Cond.lays "VariantParser$Variant" "VariantParser$Variant" "count" "I" ∈ WG := wg1 (List.mem_of_getElem? (i := 154) rfl) rfl
theorem m1_156 : Cond.laysFinal "VariantParser$Variant" "VariantParser$Variant" "reading" "LVariantParser$Reading;" ∈ WG := wg1 (List.mem_of_getElem? (i := 156) rfl) rfl
theorem m1_158 : Cond.laysFinal "VariantParser$Variant" "VariantParser$Variant" "run" "LVariantParser$Run;" ∈ WG := wg1 (List.mem_of_getElem? (i := 158) rfl) rfl
theorem m1_161 : Cond.fieldLink RX7 10 "VariantParser" "source" "LVariantParser$Source;" ∈ WG := wg1 (List.mem_of_getElem? (i := 161) rfl) rfl
theorem m1_162 : Cond.fieldLink RX7 19 "VariantParser" "walk" "LVariantParser$Walk;" ∈ WG := wg1 (List.mem_of_getElem? (i := 162) rfl) rfl
theorem m1_163 : Cond.fieldLink RX7 25 "VariantParser" "variantOf" "[LVariantParser$Variant;" ∈ WG := wg1 (List.mem_of_getElem? (i := 163) rfl) rfl
theorem m1_164 : Cond.fieldLink RX7 30 "VariantParser" "groupCounts" "[I" ∈ WG := wg1 (List.mem_of_getElem? (i := 164) rfl) rfl
theorem m1_165 : Cond.fieldLink RX7 34 "VariantParser" "isFresh" "Z" ∈ WG := wg1 (List.mem_of_getElem? (i := 165) rfl) rfl
theorem m1_166 : Cond.laysFinal "VariantParser" "VariantParser" "source" "LVariantParser$Source;" ∈ WG := wg1 (List.mem_of_getElem? (i := 166) rfl) rfl
theorem m1_168 : Cond.laysFinal "VariantParser" "VariantParser" "walk" "LVariantParser$Walk;" ∈ WG := wg1 (List.mem_of_getElem? (i := 168) rfl) rfl
theorem m1_170 : Cond.laysFinal "VariantParser" "VariantParser" "variantOf" "[LVariantParser$Variant;" ∈ WG := wg1 (List.mem_of_getElem? (i := 170) rfl) rfl
theorem m1_172 : Cond.laysFinal "VariantParser" "VariantParser" "groupCounts" "[I" ∈ WG := wg1 (List.mem_of_getElem? (i := 172) rfl) rfl
theorem m1_174 : Cond.lays "VariantParser" "VariantParser" "isFresh" "Z" ∈ WG := wg1 (List.mem_of_getElem? (i := 174) rfl) rfl
theorem m1_177 : Cond.methodLink RL 131 yX7_size ∈ WG := wg1 (List.mem_of_getElem? (i := 177) rfl) rfl
theorem m1_178 : Cond.instanceMethod yX7_size ∈ WG := wg1 (List.mem_of_getElem? (i := 178) rfl) rfl
theorem m1_179 : Cond.selects RX7 yX7_size yX7_size ∈ WG := wg1 (List.mem_of_getElem? (i := 179) rfl) rfl
theorem m1_180 : Cond.code yX7_size cX7_size 1 (some .int) ∈ WG := wg1 (List.mem_of_getElem? (i := 180) rfl) rfl
theorem m1_181 : Cond.methodLink RL 139 yX7_unfinished ∈ WG := wg1 (List.mem_of_getElem? (i := 181) rfl) rfl
theorem m1_182 : Cond.instanceMethod yX7_unfinished ∈ WG := wg1 (List.mem_of_getElem? (i := 182) rfl) rfl
theorem m1_183 : Cond.selects RX7 yX7_unfinished yX7_unfinished ∈ WG := wg1 (List.mem_of_getElem? (i := 183) rfl) rfl
theorem m1_184 : Cond.code yX7_unfinished cX7_unfinished 1 (some .int) ∈ WG := wg1 (List.mem_of_getElem? (i := 184) rfl) rfl
theorem m1_185 : Cond.methodLink RX7 75 yX4_countUnfinished ∈ WG := wg1 (List.mem_of_getElem? (i := 185) rfl) rfl
theorem m1_186 : Cond.instanceMethod yX4_countUnfinished ∈ WG := wg1 (List.mem_of_getElem? (i := 186) rfl) rfl
theorem m1_187 : Cond.selects RX4 yX4_countUnfinished yX4_countUnfinished ∈ WG := wg1 (List.mem_of_getElem? (i := 187) rfl) rfl
theorem m1_188 : Cond.code yX4_countUnfinished cX4_countUnfinished 3 (some .int) ∈ WG := wg1 (List.mem_of_getElem? (i := 188) rfl) rfl
theorem m1_189 : Cond.methodLink RX4 23 yX4_isWhen ∈ WG := wg1 (List.mem_of_getElem? (i := 189) rfl) rfl
theorem m1_190 : Cond.static yX4_isWhen ∈ WG := wg1 (List.mem_of_getElem? (i := 190) rfl) rfl
theorem m1_191 : Cond.code yX4_isWhen cX4_isWhen 1 (some .boolean) ∈ WG := wg1 (List.mem_of_getElem? (i := 191) rfl) rfl
theorem m1_192 : Cond.methodLink RL 152 yX7_dead ∈ WG := wg1 (List.mem_of_getElem? (i := 192) rfl) rfl
theorem m1_193 : Cond.instanceMethod yX7_dead ∈ WG := wg1 (List.mem_of_getElem? (i := 193) rfl) rfl
theorem m1_194 : Cond.selects RX7 yX7_dead yX7_dead ∈ WG := wg1 (List.mem_of_getElem? (i := 194) rfl) rfl
theorem m1_195 : Cond.code yX7_dead cX7_dead 3 (some .int) ∈ WG := wg1 (List.mem_of_getElem? (i := 195) rfl) rfl
theorem m1_196 : Cond.methodLink RX7 112 yX7_refresh ∈ WG := wg1 (List.mem_of_getElem? (i := 196) rfl) rfl
theorem m1_198 : Cond.instanceMethod yX7_refresh ∈ WG := wg1 (List.mem_of_getElem? (i := 198) rfl) rfl
theorem m1_199 : Cond.code yX7_refresh cX7_refresh 1 none ∈ WG := wg1 (List.mem_of_getElem? (i := 199) rfl) rfl
theorem m1_200 : Cond.methodLink RX7 224 yX6_goThrough ∈ WG := wg1 (List.mem_of_getElem? (i := 200) rfl) rfl
theorem m1_201 : Cond.instanceMethod yX6_goThrough ∈ WG := wg1 (List.mem_of_getElem? (i := 201) rfl) rfl
theorem m1_202 : Cond.selects RX6 yX6_goThrough yX6_goThrough ∈ WG := wg1 (List.mem_of_getElem? (i := 202) rfl) rfl
theorem m1_203 : Cond.code yX6_goThrough cX6_goThrough 4 none ∈ WG := wg1 (List.mem_of_getElem? (i := 203) rfl) rfl
theorem m1_204 : Cond.constant RX6 29 (65535) ∈ WG := wg1 (List.mem_of_getElem? (i := 204) rfl) rfl
theorem m1_205 : Cond.fieldLink RX6 37 "VariantParser$Walk" "ON_AT_FIRST" "[I" ∈ WG := wg1 (List.mem_of_getElem? (i := 205) rfl) rfl
theorem m1_207 : Cond.methodLink RX6 48 yX6_step ∈ WG := wg1 (List.mem_of_getElem? (i := 207) rfl) rfl
theorem m1_209 : Cond.instanceMethod yX6_step ∈ WG := wg1 (List.mem_of_getElem? (i := 209) rfl) rfl
theorem m1_210 : Cond.code yX6_step cX6_step 3 none ∈ WG := wg1 (List.mem_of_getElem? (i := 210) rfl) rfl
theorem m1_211 : Cond.methodLink RX6 52 yX4_isWhen ∈ WG := wg1 (List.mem_of_getElem? (i := 211) rfl) rfl
theorem m1_212 : Cond.methodLink RX6 56 yX6_enter ∈ WG := wg1 (List.mem_of_getElem? (i := 212) rfl) rfl
theorem m1_214 : Cond.instanceMethod yX6_enter ∈ WG := wg1 (List.mem_of_getElem? (i := 214) rfl) rfl
theorem m1_215 : Cond.code yX6_enter cX6_enter 3 none ∈ WG := wg1 (List.mem_of_getElem? (i := 215) rfl) rfl
theorem m1_216 : Cond.methodLink RX6 66 yX4_featureOf ∈ WG := wg1 (List.mem_of_getElem? (i := 216) rfl) rfl
theorem m1_217 : Cond.static yX4_featureOf ∈ WG := wg1 (List.mem_of_getElem? (i := 217) rfl) rfl
theorem m1_218 : Cond.code yX4_featureOf cX4_featureOf 1 (some .int) ∈ WG := wg1 (List.mem_of_getElem? (i := 218) rfl) rfl
theorem m1_219 : Cond.methodLink RX6 70 yX4_isForOn ∈ WG := wg1 (List.mem_of_getElem? (i := 219) rfl) rfl
theorem m1_220 : Cond.static yX4_isForOn ∈ WG := wg1 (List.mem_of_getElem? (i := 220) rfl) rfl
theorem m1_221 : Cond.code yX4_isForOn cX4_isForOn 1 (some .boolean) ∈ WG := wg1 (List.mem_of_getElem? (i := 221) rfl) rfl
theorem m1_222 : Cond.methodLink RX6 60 yX4_isSet ∈ WG := wg1 (List.mem_of_getElem? (i := 222) rfl) rfl
theorem m1_223 : Cond.static yX4_isSet ∈ WG := wg1 (List.mem_of_getElem? (i := 223) rfl) rfl
theorem m1_224 : Cond.code yX4_isSet cX4_isSet 1 (some .boolean) ∈ WG := wg1 (List.mem_of_getElem? (i := 224) rfl) rfl
theorem m1_225 : Cond.methodLink RX6 63 yX6_turn ∈ WG := wg1 (List.mem_of_getElem? (i := 225) rfl) rfl
theorem m1_227 : Cond.instanceMethod yX6_turn ∈ WG := wg1 (List.mem_of_getElem? (i := 227) rfl) rfl
theorem m1_228 : Cond.code yX6_turn cX6_turn 3 none ∈ WG := wg1 (List.mem_of_getElem? (i := 228) rfl) rfl
theorem m1_229 : Cond.methodLink RX7 228 yX7_collectVariants ∈ WG := wg1 (List.mem_of_getElem? (i := 229) rfl) rfl
theorem m1_231 : Cond.instanceMethod yX7_collectVariants ∈ WG := wg1 (List.mem_of_getElem? (i := 231) rfl) rfl
theorem m1_232 : Cond.code yX7_collectVariants cX7_collectVariants 4 none ∈ WG := wg1 (List.mem_of_getElem? (i := 232) rfl) rfl
theorem m1_233 : Cond.methodLink RX7 42 yX0_isToken ∈ WG := wg1 (List.mem_of_getElem? (i := 233) rfl) rfl
theorem m1_234 : Cond.static yX0_isToken ∈ WG := wg1 (List.mem_of_getElem? (i := 234) rfl) rfl
theorem m1_235 : Cond.code yX0_isToken cX0_isToken 1 (some .boolean) ∈ WG := wg1 (List.mem_of_getElem? (i := 235) rfl) rfl
theorem m1_236 : Cond.methodLink RX0 7 yX0_isDigit ∈ WG := wg1 (List.mem_of_getElem? (i := 236) rfl) rfl
theorem m1_237 : Cond.static yX0_isDigit ∈ WG := wg1 (List.mem_of_getElem? (i := 237) rfl) rfl
theorem m1_238 : Cond.code yX0_isDigit cX0_isDigit 1 (some .boolean) ∈ WG := wg1 (List.mem_of_getElem? (i := 238) rfl) rfl
theorem m1_239 : Cond.methodLink RX0 13 yX0_isName ∈ WG := wg1 (List.mem_of_getElem? (i := 239) rfl) rfl
theorem m2_0 : Cond.static yX0_isName ∈ WG := wg2 (List.mem_of_getElem? (i := 0) rfl) rfl
theorem m2_1 : Cond.code yX0_isName cX0_isName 1 (some .boolean) ∈ WG := wg2 (List.mem_of_getElem? (i := 1) rfl) rfl
theorem m2_2 : Cond.methodLink RX7 237 yX6_isPresent ∈ WG := wg2 (List.mem_of_getElem? (i := 2) rfl) rfl
theorem m2_3 : Cond.instanceMethod yX6_isPresent ∈ WG := wg2 (List.mem_of_getElem? (i := 3) rfl) rfl
theorem m2_4 : Cond.selects RX6 yX6_isPresent yX6_isPresent ∈ WG := wg2 (List.mem_of_getElem? (i := 4) rfl) rfl
theorem m2_5 : Cond.code yX6_isPresent cX6_isPresent 3 (some .boolean) ∈ WG := wg2 (List.mem_of_getElem? (i := 5) rfl) rfl
theorem m2_6 : Cond.methodLink RX7 240 yX5_add ∈ WG := wg2 (List.mem_of_getElem? (i := 6) rfl) rfl
theorem m2_7 : Cond.instanceMethod yX5_add ∈ WG := wg2 (List.mem_of_getElem? (i := 7) rfl) rfl
theorem m2_8 : Cond.selects RX5 yX5_add yX5_add ∈ WG := wg2 (List.mem_of_getElem? (i := 8) rfl) rfl
theorem m2_9 : Cond.code yX5_add cX5_add 3 none ∈ WG := wg2 (List.mem_of_getElem? (i := 9) rfl) rfl
theorem m2_10 : Cond.methodLink RX7 231 yX7_readAll ∈ WG := wg2 (List.mem_of_getElem? (i := 10) rfl) rfl
theorem m2_12 : Cond.instanceMethod yX7_readAll ∈ WG := wg2 (List.mem_of_getElem? (i := 12) rfl) rfl
theorem m2_13 : Cond.code yX7_readAll cX7_readAll 3 none ∈ WG := wg2 (List.mem_of_getElem? (i := 13) rfl) rfl
theorem m2_14 : Cond.methodLink RX7 242 yX1_begin ∈ WG := wg2 (List.mem_of_getElem? (i := 14) rfl) rfl
theorem m2_15 : Cond.instanceMethod yX1_begin ∈ WG := wg2 (List.mem_of_getElem? (i := 15) rfl) rfl
theorem m2_16 : Cond.selects RX1 yX1_begin yX1_begin ∈ WG := wg2 (List.mem_of_getElem? (i := 16) rfl) rfl
theorem m2_17 : Cond.code yX1_begin cX1_begin 1 none ∈ WG := wg2 (List.mem_of_getElem? (i := 17) rfl) rfl
theorem m2_18 : Cond.methodLink RX1 24 yX1_push ∈ WG := wg2 (List.mem_of_getElem? (i := 18) rfl) rfl
theorem m2_20 : Cond.instanceMethod yX1_push ∈ WG := wg2 (List.mem_of_getElem? (i := 20) rfl) rfl
theorem m2_21 : Cond.code yX1_push cX1_push 2 none ∈ WG := wg2 (List.mem_of_getElem? (i := 21) rfl) rfl
theorem m2_22 : Cond.methodLink RX7 245 yX7_countGroups ∈ WG := wg2 (List.mem_of_getElem? (i := 22) rfl) rfl
theorem m2_24 : Cond.instanceMethod yX7_countGroups ∈ WG := wg2 (List.mem_of_getElem? (i := 24) rfl) rfl
theorem m2_25 : Cond.code yX7_countGroups cX7_countGroups 4 (some .int) ∈ WG := wg2 (List.mem_of_getElem? (i := 25) rfl) rfl
theorem m2_26 : Cond.methodLink RX7 248 yX7_isReadBy ∈ WG := wg2 (List.mem_of_getElem? (i := 26) rfl) rfl
theorem m2_28 : Cond.instanceMethod yX7_isReadBy ∈ WG := wg2 (List.mem_of_getElem? (i := 28) rfl) rfl
theorem m2_29 : Cond.code yX7_isReadBy cX7_isReadBy 3 (some .boolean) ∈ WG := wg2 (List.mem_of_getElem? (i := 29) rfl) rfl
theorem m2_30 : Cond.methodLink RX7 264 yX7_isFirstOfItsGroup ∈ WG := wg2 (List.mem_of_getElem? (i := 30) rfl) rfl
theorem m2_32 : Cond.instanceMethod yX7_isFirstOfItsGroup ∈ WG := wg2 (List.mem_of_getElem? (i := 32) rfl) rfl
theorem m2_33 : Cond.code yX7_isFirstOfItsGroup cX7_isFirstOfItsGroup 5 (some .boolean) ∈ WG := wg2 (List.mem_of_getElem? (i := 33) rfl) rfl
theorem m2_34 : Cond.methodLink RX7 267 yX1_hasSameStack ∈ WG := wg2 (List.mem_of_getElem? (i := 34) rfl) rfl
theorem m2_35 : Cond.instanceMethod yX1_hasSameStack ∈ WG := wg2 (List.mem_of_getElem? (i := 35) rfl) rfl
theorem m2_36 : Cond.selects RX1 yX1_hasSameStack yX1_hasSameStack ∈ WG := wg2 (List.mem_of_getElem? (i := 36) rfl) rfl
theorem m2_37 : Cond.code yX1_hasSameStack cX1_hasSameStack 2 (some .boolean) ∈ WG := wg2 (List.mem_of_getElem? (i := 37) rfl) rfl
theorem m2_38 : Cond.methodLink RX1 37 yX2_areSame ∈ WG := wg2 (List.mem_of_getElem? (i := 38) rfl) rfl
theorem m2_39 : Cond.static yX2_areSame ∈ WG := wg2 (List.mem_of_getElem? (i := 39) rfl) rfl
theorem m2_40 : Cond.code yX2_areSame cX2_areSame 4 (some .boolean) ∈ WG := wg2 (List.mem_of_getElem? (i := 40) rfl) rfl
theorem m2_41 : Cond.methodLink RX2 7 yJ9_min_7cf53 ∈ WG := wg2 (List.mem_of_getElem? (i := 41) rfl) rfl
theorem m2_42 : Cond.static yJ9_min_7cf53 ∈ WG := wg2 (List.mem_of_getElem? (i := 42) rfl) rfl
theorem m2_43 : Cond.code yJ9_min_7cf53 cJ9_min_7cf53 2 (some .int) ∈ WG := wg2 (List.mem_of_getElem? (i := 43) rfl) rfl
theorem m2_44 : Cond.methodLink RX7 251 yX1_take ∈ WG := wg2 (List.mem_of_getElem? (i := 44) rfl) rfl
theorem m2_45 : Cond.instanceMethod yX1_take ∈ WG := wg2 (List.mem_of_getElem? (i := 45) rfl) rfl
theorem m2_46 : Cond.selects RX1 yX1_take yX1_take ∈ WG := wg2 (List.mem_of_getElem? (i := 46) rfl) rfl
theorem m2_47 : Cond.code yX1_take cX1_take 3 none ∈ WG := wg2 (List.mem_of_getElem? (i := 47) rfl) rfl
theorem m2_48 : Cond.methodLink RX1 34 yX1_replaceTop ∈ WG := wg2 (List.mem_of_getElem? (i := 48) rfl) rfl
theorem m2_50 : Cond.instanceMethod yX1_replaceTop ∈ WG := wg2 (List.mem_of_getElem? (i := 50) rfl) rfl
theorem m2_51 : Cond.code yX1_replaceTop cX1_replaceTop 7 none ∈ WG := wg2 (List.mem_of_getElem? (i := 51) rfl) rfl
theorem m2_52 : Cond.methodLink RX1 43 yX0_isReplaced ∈ WG := wg2 (List.mem_of_getElem? (i := 52) rfl) rfl
theorem m2_53 : Cond.static yX0_isReplaced ∈ WG := wg2 (List.mem_of_getElem? (i := 53) rfl) rfl
theorem m2_54 : Cond.code yX0_isReplaced cX0_isReplaced 1 (some .boolean) ∈ WG := wg2 (List.mem_of_getElem? (i := 54) rfl) rfl
theorem m2_55 : Cond.methodLink RX1 47 yX0_replacement ∈ WG := wg2 (List.mem_of_getElem? (i := 55) rfl) rfl
theorem m2_56 : Cond.static yX0_replacement ∈ WG := wg2 (List.mem_of_getElem? (i := 56) rfl) rfl
theorem m2_57 : Cond.code yX0_replacement cX0_replacement 2 (some (.object "java/lang/String")) ∈ WG := wg2 (List.mem_of_getElem? (i := 57) rfl) rfl
theorem m2_58 : Cond.methodLink RX0 16 yX0_canBeginStatement ∈ WG := wg2 (List.mem_of_getElem? (i := 58) rfl) rfl
theorem m2_59 : Cond.static yX0_canBeginStatement ∈ WG := wg2 (List.mem_of_getElem? (i := 59) rfl) rfl
theorem m2_60 : Cond.code yX0_canBeginStatement cX0_canBeginStatement 1 (some .boolean) ∈ WG := wg2 (List.mem_of_getElem? (i := 60) rfl) rfl
theorem m2_76 : Cond.methodLink RX1 51 yJ0_length_8abf5 ∈ WG := wg2 (List.mem_of_getElem? (i := 76) rfl) rfl
theorem m2_77 : Cond.instanceMethod yJ0_length_8abf5 ∈ WG := wg2 (List.mem_of_getElem? (i := 77) rfl) rfl
theorem m2_78 : Cond.selects RJ0 yJ0_length_8abf5 yJ0_length_8abf5 ∈ WG := wg2 (List.mem_of_getElem? (i := 78) rfl) rfl
theorem m2_79 : Cond.code yJ0_length_8abf5 cJ0_length_8abf5 1 (some .int) ∈ WG := wg2 (List.mem_of_getElem? (i := 79) rfl) rfl
theorem m2_80 : Cond.methodLink RJ0 335 yJ0_coder_7d493 ∈ WG := wg2 (List.mem_of_getElem? (i := 80) rfl) rfl
theorem m2_81 : Cond.instanceMethod yJ0_coder_7d493 ∈ WG := wg2 (List.mem_of_getElem? (i := 81) rfl) rfl
theorem m2_82 : Cond.selects RJ0 yJ0_coder_7d493 yJ0_coder_7d493 ∈ WG := wg2 (List.mem_of_getElem? (i := 82) rfl) rfl
theorem m2_83 : Cond.code yJ0_coder_7d493 cJ0_coder_7d493 1 (some .byte) ∈ WG := wg2 (List.mem_of_getElem? (i := 83) rfl) rfl
theorem m2_84 : Cond.fieldLink RJ0 38 "java/lang/String" "COMPACT_STRINGS" "Z" ∈ WG := wg2 (List.mem_of_getElem? (i := 84) rfl) rfl
theorem m2_86 : Cond.methodLink RX1 57 yJ0_charAt_5068e ∈ WG := wg2 (List.mem_of_getElem? (i := 86) rfl) rfl
theorem m2_87 : Cond.instanceMethod yJ0_charAt_5068e ∈ WG := wg2 (List.mem_of_getElem? (i := 87) rfl) rfl
theorem m2_88 : Cond.selects RJ0 yJ0_charAt_5068e yJ0_charAt_5068e ∈ WG := wg2 (List.mem_of_getElem? (i := 88) rfl) rfl
theorem m2_89 : Cond.code yJ0_charAt_5068e cJ0_charAt_5068e 2 (some .char) ∈ WG := wg2 (List.mem_of_getElem? (i := 89) rfl) rfl
theorem m2_90 : Cond.methodLink RJ0 492 yJ0_isLatin1_aae02 ∈ WG := wg2 (List.mem_of_getElem? (i := 90) rfl) rfl
theorem m2_91 : Cond.instanceMethod yJ0_isLatin1_aae02 ∈ WG := wg2 (List.mem_of_getElem? (i := 91) rfl) rfl
theorem m2_92 : Cond.selects RJ0 yJ0_isLatin1_aae02 yJ0_isLatin1_aae02 ∈ WG := wg2 (List.mem_of_getElem? (i := 92) rfl) rfl
theorem m2_93 : Cond.code yJ0_isLatin1_aae02 cJ0_isLatin1_aae02 1 (some .boolean) ∈ WG := wg2 (List.mem_of_getElem? (i := 93) rfl) rfl
theorem m2_94 : Cond.methodLink RJ0 495 yJ1_charAt_3b067 ∈ WG := wg2 (List.mem_of_getElem? (i := 94) rfl) rfl
theorem m2_95 : Cond.static yJ1_charAt_3b067 ∈ WG := wg2 (List.mem_of_getElem? (i := 95) rfl) rfl
theorem m2_96 : Cond.code yJ1_charAt_3b067 cJ1_charAt_3b067 2 (some .char) ∈ WG := wg2 (List.mem_of_getElem? (i := 96) rfl) rfl
theorem m2_97 : Cond.methodLink RJ1 9 yJ0_checkIndex_df160 ∈ WG := wg2 (List.mem_of_getElem? (i := 97) rfl) rfl
theorem m2_98 : Cond.static yJ0_checkIndex_df160 ∈ WG := wg2 (List.mem_of_getElem? (i := 98) rfl) rfl
theorem m2_99 : Cond.code yJ0_checkIndex_df160 cJ0_checkIndex_df160 2 none ∈ WG := wg2 (List.mem_of_getElem? (i := 99) rfl) rfl
theorem m2_100 : Cond.fieldLink RJ0 1053 "jdk/internal/util/Preconditions" "SIOOBE_FORMATTER" "Ljava/util/function/BiFunction;" ∈ WG := wg2 (List.mem_of_getElem? (i := 100) rfl) rfl
theorem m2_102 : Cond.methodLink RJ0 1059 yJ3_checkIndex_8e157 ∈ WG := wg2 (List.mem_of_getElem? (i := 102) rfl) rfl
theorem m2_103 : Cond.static yJ3_checkIndex_8e157 ∈ WG := wg2 (List.mem_of_getElem? (i := 103) rfl) rfl
theorem m2_104 : Cond.code yJ3_checkIndex_8e157 cJ3_checkIndex_8e157 3 (some .int) ∈ WG := wg2 (List.mem_of_getElem? (i := 104) rfl) rfl
theorem m2_105 : Cond.methodLink RJ0 498 yJ2_charAt_3b067 ∈ WG := wg2 (List.mem_of_getElem? (i := 105) rfl) rfl
theorem m2_106 : Cond.static yJ2_charAt_3b067 ∈ WG := wg2 (List.mem_of_getElem? (i := 106) rfl) rfl
theorem m2_107 : Cond.code yJ2_charAt_3b067 cJ2_charAt_3b067 2 (some .char) ∈ WG := wg2 (List.mem_of_getElem? (i := 107) rfl) rfl
theorem m2_108 : Cond.methodLink RJ2 67 yJ2_checkIndex_2214a ∈ WG := wg2 (List.mem_of_getElem? (i := 108) rfl) rfl
theorem m2_109 : Cond.static yJ2_checkIndex_2214a ∈ WG := wg2 (List.mem_of_getElem? (i := 109) rfl) rfl
theorem m2_110 : Cond.code yJ2_checkIndex_2214a cJ2_checkIndex_2214a 2 none ∈ WG := wg2 (List.mem_of_getElem? (i := 110) rfl) rfl
theorem m2_111 : Cond.methodLink RJ2 48 yJ2_length_9d52b ∈ WG := wg2 (List.mem_of_getElem? (i := 111) rfl) rfl
theorem m2_112 : Cond.static yJ2_length_9d52b ∈ WG := wg2 (List.mem_of_getElem? (i := 112) rfl) rfl
theorem m2_113 : Cond.code yJ2_length_9d52b cJ2_length_9d52b 1 (some .int) ∈ WG := wg2 (List.mem_of_getElem? (i := 113) rfl) rfl
theorem m2_114 : Cond.methodLink RJ2 414 yJ0_checkIndex_df160 ∈ WG := wg2 (List.mem_of_getElem? (i := 114) rfl) rfl
theorem m2_115 : Cond.methodLink RJ2 71 yJ2_getChar_3b067 ∈ WG := wg2 (List.mem_of_getElem? (i := 115) rfl) rfl
theorem m2_116 : Cond.static yJ2_getChar_3b067 ∈ WG := wg2 (List.mem_of_getElem? (i := 116) rfl) rfl
theorem m2_117 : Cond.code yJ2_getChar_3b067 cJ2_getChar_3b067 2 (some .char) ∈ WG := wg2 (List.mem_of_getElem? (i := 117) rfl) rfl
theorem m2_118 : Cond.fieldLink RJ2 44 "java/lang/StringUTF16" "$assertionsDisabled" "Z" ∈ WG := wg2 (List.mem_of_getElem? (i := 118) rfl) rfl
theorem m2_120 : Cond.fieldLink RJ2 59 "java/lang/StringUTF16" "HI_BYTE_SHIFT" "I" ∈ WG := wg2 (List.mem_of_getElem? (i := 120) rfl) rfl
theorem m2_122 : Cond.fieldLink RJ2 63 "java/lang/StringUTF16" "LO_BYTE_SHIFT" "I" ∈ WG := wg2 (List.mem_of_getElem? (i := 122) rfl) rfl
theorem m2_124 : Cond.methodLink RX7 254 yX1_end ∈ WG := wg2 (List.mem_of_getElem? (i := 124) rfl) rfl
theorem m2_125 : Cond.instanceMethod yX1_end ∈ WG := wg2 (List.mem_of_getElem? (i := 125) rfl) rfl
theorem m2_126 : Cond.selects RX1 yX1_end yX1_end ∈ WG := wg2 (List.mem_of_getElem? (i := 126) rfl) rfl
theorem m2_127 : Cond.code yX1_end cX1_end 2 none ∈ WG := wg2 (List.mem_of_getElem? (i := 127) rfl) rfl
theorem m2_128 : Cond.methodLink RX7 234 yX7_runAll ∈ WG := wg2 (List.mem_of_getElem? (i := 128) rfl) rfl
theorem m2_130 : Cond.instanceMethod yX7_runAll ∈ WG := wg2 (List.mem_of_getElem? (i := 130) rfl) rfl
theorem m2_131 : Cond.code yX7_runAll cX7_runAll 2 none ∈ WG := wg2 (List.mem_of_getElem? (i := 131) rfl) rfl
theorem m2_132 : Cond.methodLink RX7 260 yX3_execute ∈ WG := wg2 (List.mem_of_getElem? (i := 132) rfl) rfl
theorem m2_133 : Cond.instanceMethod yX3_execute ∈ WG := wg2 (List.mem_of_getElem? (i := 133) rfl) rfl
theorem m2_134 : Cond.selects RX3 yX3_execute yX3_execute ∈ WG := wg2 (List.mem_of_getElem? (i := 134) rfl) rfl
theorem m2_135 : Cond.code yX3_execute cX3_execute 4 none ∈ WG := wg2 (List.mem_of_getElem? (i := 135) rfl) rfl
theorem m2_136 : Cond.methodLink RX3 21 yJ9_min_7cf53 ∈ WG := wg2 (List.mem_of_getElem? (i := 136) rfl) rfl
theorem m2_137 : Cond.methodLink RX3 37 yX3_runStatements ∈ WG := wg2 (List.mem_of_getElem? (i := 137) rfl) rfl
theorem m2_139 : Cond.instanceMethod yX3_runStatements ∈ WG := wg2 (List.mem_of_getElem? (i := 139) rfl) rfl
theorem m2_140 : Cond.code yX3_runStatements cX3_runStatements 4 none ∈ WG := wg2 (List.mem_of_getElem? (i := 140) rfl) rfl
theorem m2_141 : Cond.methodLink RX3 49 yX3_peek ∈ WG := wg2 (List.mem_of_getElem? (i := 141) rfl) rfl
theorem m2_143 : Cond.instanceMethod yX3_peek ∈ WG := wg2 (List.mem_of_getElem? (i := 143) rfl) rfl
theorem m2_144 : Cond.code yX3_peek cX3_peek 1 (some .int) ∈ WG := wg2 (List.mem_of_getElem? (i := 144) rfl) rfl
theorem m2_145 : Cond.methodLink RX3 53 yX0_canBeginStatement ∈ WG := wg2 (List.mem_of_getElem? (i := 145) rfl) rfl
theorem m2_146 : Cond.methodLink RX3 57 yX3_runStatement ∈ WG := wg2 (List.mem_of_getElem? (i := 146) rfl) rfl
theorem m2_148 : Cond.instanceMethod yX3_runStatement ∈ WG := wg2 (List.mem_of_getElem? (i := 148) rfl) rfl
theorem m2_149 : Cond.code yX3_runStatement cX3_runStatement 5 none ∈ WG := wg2 (List.mem_of_getElem? (i := 149) rfl) rfl
theorem m2_150 : Cond.methodLink RX3 60 yX3_advance ∈ WG := wg2 (List.mem_of_getElem? (i := 150) rfl) rfl
theorem m2_152 : Cond.instanceMethod yX3_advance ∈ WG := wg2 (List.mem_of_getElem? (i := 152) rfl) rfl
theorem m2_153 : Cond.code yX3_advance cX3_advance 2 (some .int) ∈ WG := wg2 (List.mem_of_getElem? (i := 153) rfl) rfl
theorem m2_154 : Cond.methodLink RX3 63 yX3_runChoice ∈ WG := wg2 (List.mem_of_getElem? (i := 154) rfl) rfl
theorem m2_156 : Cond.instanceMethod yX3_runChoice ∈ WG := wg2 (List.mem_of_getElem? (i := 156) rfl) rfl
theorem m2_157 : Cond.code yX3_runChoice cX3_runChoice 4 none ∈ WG := wg2 (List.mem_of_getElem? (i := 157) rfl) rfl
theorem m2_158 : Cond.methodLink RX3 66 yX3_sum ∈ WG := wg2 (List.mem_of_getElem? (i := 158) rfl) rfl
theorem m2_160 : Cond.instanceMethod yX3_sum ∈ WG := wg2 (List.mem_of_getElem? (i := 160) rfl) rfl
theorem m2_161 : Cond.code yX3_sum cX3_sum 4 (some .int) ∈ WG := wg2 (List.mem_of_getElem? (i := 161) rfl) rfl
theorem m2_162 : Cond.methodLink RX3 78 yX3_product ∈ WG := wg2 (List.mem_of_getElem? (i := 162) rfl) rfl
theorem m2_164 : Cond.instanceMethod yX3_product ∈ WG := wg2 (List.mem_of_getElem? (i := 164) rfl) rfl
theorem m2_165 : Cond.code yX3_product cX3_product 4 (some .int) ∈ WG := wg2 (List.mem_of_getElem? (i := 165) rfl) rfl
theorem m2_166 : Cond.methodLink RX3 81 yX3_factor ∈ WG := wg2 (List.mem_of_getElem? (i := 166) rfl) rfl
theorem m2_168 : Cond.instanceMethod yX3_factor ∈ WG := wg2 (List.mem_of_getElem? (i := 168) rfl) rfl
theorem m2_169 : Cond.code yX3_factor cX3_factor 4 (some .int) ∈ WG := wg2 (List.mem_of_getElem? (i := 169) rfl) rfl
theorem m2_170 : Cond.methodLink RX3 84 yX3_operand ∈ WG := wg2 (List.mem_of_getElem? (i := 170) rfl) rfl
theorem m2_172 : Cond.instanceMethod yX3_operand ∈ WG := wg2 (List.mem_of_getElem? (i := 172) rfl) rfl
theorem m2_173 : Cond.code yX3_operand cX3_operand 4 (some .int) ∈ WG := wg2 (List.mem_of_getElem? (i := 173) rfl) rfl
theorem m2_174 : Cond.methodLink RX3 87 yX0_isDigit ∈ WG := wg2 (List.mem_of_getElem? (i := 174) rfl) rfl
theorem m2_175 : Cond.methodLink RX3 90 yX0_isName ∈ WG := wg2 (List.mem_of_getElem? (i := 175) rfl) rfl
theorem m2_176 : Cond.methodLink RX3 70 yX3_put ∈ WG := wg2 (List.mem_of_getElem? (i := 176) rfl) rfl
theorem m2_178 : Cond.instanceMethod yX3_put ∈ WG := wg2 (List.mem_of_getElem? (i := 178) rfl) rfl
theorem m2_179 : Cond.code yX3_put cX3_put 2 none ∈ WG := wg2 (List.mem_of_getElem? (i := 179) rfl) rfl
theorem m2_180 : Cond.methodLink RX3 74 yX3_assign ∈ WG := wg2 (List.mem_of_getElem? (i := 180) rfl) rfl
theorem m2_182 : Cond.instanceMethod yX3_assign ∈ WG := wg2 (List.mem_of_getElem? (i := 182) rfl) rfl
theorem m2_183 : Cond.code yX3_assign cX3_assign 3 none ∈ WG := wg2 (List.mem_of_getElem? (i := 183) rfl) rfl
theorem m2_184 : Cond.arrayClass .byte ∈ WG := wg2 (List.mem_of_getElem? (i := 184) rfl) rfl
theorem m2_185 : Cond.methodLink RL 162 yX7_variants ∈ WG := wg2 (List.mem_of_getElem? (i := 185) rfl) rfl
theorem m2_186 : Cond.instanceMethod yX7_variants ∈ WG := wg2 (List.mem_of_getElem? (i := 186) rfl) rfl
theorem m2_187 : Cond.selects RX7 yX7_variants yX7_variants ∈ WG := wg2 (List.mem_of_getElem? (i := 187) rfl) rfl
theorem m2_188 : Cond.code yX7_variants cX7_variants 3 (some .int) ∈ WG := wg2 (List.mem_of_getElem? (i := 188) rfl) rfl
theorem m2_189 : Cond.methodLink RX7 142 yX7_isFirstOfItsText ∈ WG := wg2 (List.mem_of_getElem? (i := 189) rfl) rfl
theorem m2_191 : Cond.instanceMethod yX7_isFirstOfItsText ∈ WG := wg2 (List.mem_of_getElem? (i := 191) rfl) rfl
theorem m2_192 : Cond.code yX7_isFirstOfItsText cX7_isFirstOfItsText 3 (some .boolean) ∈ WG := wg2 (List.mem_of_getElem? (i := 192) rfl) rfl
theorem m2_193 : Cond.methodLink RX7 271 yX5_hasSameTokens ∈ WG := wg2 (List.mem_of_getElem? (i := 193) rfl) rfl
theorem m2_194 : Cond.instanceMethod yX5_hasSameTokens ∈ WG := wg2 (List.mem_of_getElem? (i := 194) rfl) rfl
theorem m2_195 : Cond.selects RX5 yX5_hasSameTokens yX5_hasSameTokens ∈ WG := wg2 (List.mem_of_getElem? (i := 195) rfl) rfl
theorem m2_196 : Cond.code yX5_hasSameTokens cX5_hasSameTokens 2 (some .boolean) ∈ WG := wg2 (List.mem_of_getElem? (i := 196) rfl) rfl
theorem m2_197 : Cond.methodLink RX5 36 yX2_areSame ∈ WG := wg2 (List.mem_of_getElem? (i := 197) rfl) rfl
theorem m2_198 : Cond.methodLink RL 200 yX7_digest ∈ WG := wg2 (List.mem_of_getElem? (i := 198) rfl) rfl
theorem m2_199 : Cond.instanceMethod yX7_digest ∈ WG := wg2 (List.mem_of_getElem? (i := 199) rfl) rfl
theorem m2_200 : Cond.selects RX7 yX7_digest yX7_digest ∈ WG := wg2 (List.mem_of_getElem? (i := 200) rfl) rfl
theorem m2_201 : Cond.code yX7_digest cX7_digest 4 (some .long) ∈ WG := wg2 (List.mem_of_getElem? (i := 201) rfl) rfl
theorem m2_202 : Cond.constantLong RX7 191 (139) ∈ WG := wg2 (List.mem_of_getElem? (i := 202) rfl) rfl
theorem m2_203 : Cond.methodLink RX7 193 yX7_mix ∈ WG := wg2 (List.mem_of_getElem? (i := 203) rfl) rfl
theorem m2_204 : Cond.static yX7_mix ∈ WG := wg2 (List.mem_of_getElem? (i := 204) rfl) rfl
theorem m2_205 : Cond.code yX7_mix cX7_mix 4 (some .long) ∈ WG := wg2 (List.mem_of_getElem? (i := 205) rfl) rfl
theorem m2_206 : Cond.constantLong RX7 279 (31) ∈ WG := wg2 (List.mem_of_getElem? (i := 206) rfl) rfl
theorem m2_207 : Cond.methodLink RX7 197 yX7_mixVariant ∈ WG := wg2 (List.mem_of_getElem? (i := 207) rfl) rfl
theorem m2_208 : Cond.static yX7_mixVariant ∈ WG := wg2 (List.mem_of_getElem? (i := 208) rfl) rfl
theorem m2_209 : Cond.code yX7_mixVariant cX7_mixVariant 7 (some .long) ∈ WG := wg2 (List.mem_of_getElem? (i := 209) rfl) rfl
theorem m2_210 : Cond.methodLink RL 101 yL_write ∈ WG := wg2 (List.mem_of_getElem? (i := 210) rfl) rfl
theorem m2_211 : Cond.static yL_write ∈ WG := wg2 (List.mem_of_getElem? (i := 211) rfl) rfl
theorem m2_213 : Cond.classLink RL 13 "java/lang/IllegalArgumentException" ∈ WG := wg2 (List.mem_of_getElem? (i := 213) rfl) rfl
theorem m2_214 : Cond.classLink RL 15 "java/lang/IllegalStateException" ∈ WG := wg2 (List.mem_of_getElem? (i := 214) rfl) rfl
theorem m2_215 : Cond.methodLink RL 7 yX7_write ∈ WG := wg2 (List.mem_of_getElem? (i := 215) rfl) rfl
theorem m2_216 : Cond.instanceMethod yX7_write ∈ WG := wg2 (List.mem_of_getElem? (i := 216) rfl) rfl
theorem m2_217 : Cond.selects RX7 yX7_write yX7_write ∈ WG := wg2 (List.mem_of_getElem? (i := 217) rfl) rfl
theorem m2_218 : Cond.code yX7_write cX7_write 6 (some .int) ∈ WG := wg2 (List.mem_of_getElem? (i := 218) rfl) rfl
theorem m2_219 : Cond.methodLink RX7 38 yX7_byteOf ∈ WG := wg2 (List.mem_of_getElem? (i := 219) rfl) rfl
theorem m2_220 : Cond.static yX7_byteOf ∈ WG := wg2 (List.mem_of_getElem? (i := 220) rfl) rfl
theorem m2_221 : Cond.code yX7_byteOf cX7_byteOf 3 (some .int) ∈ WG := wg2 (List.mem_of_getElem? (i := 221) rfl) rfl
theorem m2_222 : Cond.classLink RX7 48 "java/lang/IllegalArgumentException" ∈ WG := wg2 (List.mem_of_getElem? (i := 222) rfl) rfl
theorem m2_223 : Cond.instantiable "java/lang/IllegalArgumentException" 6 ∈ WG := wg2 (List.mem_of_getElem? (i := 223) rfl) rfl
theorem m2_231 : Cond.selects "java/lang/IllegalArgumentException" ⟨"java/lang/Throwable", "fillInStackTrace", "(I)Ljava/lang/Throwable;"⟩ ⟨"java/lang/Throwable", "fillInStackTrace", "(I)Ljava/lang/Throwable;"⟩ ∈ WG := wg2 (List.mem_of_getElem? (i := 231) rfl) rfl
theorem m2_232 : Cond.selects "java/lang/IllegalArgumentException" ⟨"java/lang/Throwable", "fillInStackTrace", "()Ljava/lang/Throwable;"⟩ ⟨"java/lang/Throwable", "fillInStackTrace", "()Ljava/lang/Throwable;"⟩ ∈ WG := wg2 (List.mem_of_getElem? (i := 232) rfl) rfl
theorem m2_233 : Cond.lays "java/lang/IllegalArgumentException" "java/lang/Throwable" "cause" "Ljava/lang/Throwable;" ∈ WG := wg2 (List.mem_of_getElem? (i := 233) rfl) rfl
theorem m2_234 : Cond.lays "java/lang/Throwable" "java/lang/Throwable" "cause" "Ljava/lang/Throwable;" ∈ WG := wg2 (List.mem_of_getElem? (i := 234) rfl) rfl
theorem m2_235 : Cond.lays "java/lang/IllegalArgumentException" "java/lang/Throwable" "stackTrace" "[Ljava/lang/StackTraceElement;" ∈ WG := wg2 (List.mem_of_getElem? (i := 235) rfl) rfl
theorem m2_236 : Cond.lays "java/lang/Throwable" "java/lang/Throwable" "stackTrace" "[Ljava/lang/StackTraceElement;" ∈ WG := wg2 (List.mem_of_getElem? (i := 236) rfl) rfl
theorem m2_237 : Cond.lays "java/lang/IllegalArgumentException" "java/lang/Throwable" "suppressedExceptions" "Ljava/util/List;" ∈ WG := wg2 (List.mem_of_getElem? (i := 237) rfl) rfl
theorem m2_238 : Cond.lays "java/lang/Throwable" "java/lang/Throwable" "suppressedExceptions" "Ljava/util/List;" ∈ WG := wg2 (List.mem_of_getElem? (i := 238) rfl) rfl
theorem m2_239 : Cond.lays "java/lang/IllegalArgumentException" "java/lang/Throwable" "detailMessage" "Ljava/lang/String;" ∈ WG := wg2 (List.mem_of_getElem? (i := 239) rfl) rfl
theorem m3_0 : Cond.lays "java/lang/Throwable" "java/lang/Throwable" "detailMessage" "Ljava/lang/String;" ∈ WG := wg3 (List.mem_of_getElem? (i := 0) rfl) rfl
theorem m3_1 : Cond.lays "java/lang/IllegalArgumentException" "java/lang/Throwable" "backtrace" "Ljava/lang/Object;" ∈ WG := wg3 (List.mem_of_getElem? (i := 1) rfl) rfl
theorem m3_2 : Cond.lays "java/lang/Throwable" "java/lang/Throwable" "backtrace" "Ljava/lang/Object;" ∈ WG := wg3 (List.mem_of_getElem? (i := 2) rfl) rfl
theorem m3_3 : Cond.fieldLink "java/lang/Throwable" 198 "java/lang/Throwable" "backtrace" "Ljava/lang/Object;" ∈ WG := wg3 (List.mem_of_getElem? (i := 3) rfl) rfl
theorem m3_5 : Cond.instanceMethod ⟨"java/lang/Throwable", "<init>", "()V"⟩ ∈ WG := wg3 (List.mem_of_getElem? (i := 5) rfl) rfl
theorem m3_6 : Cond.code ⟨"java/lang/Throwable", "<init>", "()V"⟩ prog_24_method_1_code 1 none ∈ WG := wg3 (List.mem_of_getElem? (i := 6) rfl) rfl
theorem m3_7 : Cond.methodLink "java/lang/Throwable" 1 objectInit ∈ WG := wg3 (List.mem_of_getElem? (i := 7) rfl) rfl
theorem m3_8 : Cond.fieldLink "java/lang/Throwable" 13 "java/lang/Throwable" "UNASSIGNED_STACK" "[Ljava/lang/StackTraceElement;" ∈ WG := wg3 (List.mem_of_getElem? (i := 8) rfl) rfl
theorem m3_10 : Cond.fieldLink "java/lang/Throwable" 20 "java/lang/Throwable" "SUPPRESSED_SENTINEL" "Ljava/util/List;" ∈ WG := wg3 (List.mem_of_getElem? (i := 10) rfl) rfl
theorem m3_12 : Cond.methodLink "java/lang/Throwable" 27 ⟨"java/lang/Throwable", "fillInStackTrace", "()Ljava/lang/Throwable;"⟩ ∈ WG := wg3 (List.mem_of_getElem? (i := 12) rfl) rfl
theorem m3_13 : Cond.instanceMethod ⟨"java/lang/Throwable", "fillInStackTrace", "()Ljava/lang/Throwable;"⟩ ∈ WG := wg3 (List.mem_of_getElem? (i := 13) rfl) rfl
theorem m3_15 : Cond.selects "java/lang/IllegalStateException" ⟨"java/lang/Throwable", "fillInStackTrace", "()Ljava/lang/Throwable;"⟩ ⟨"java/lang/Throwable", "fillInStackTrace", "()Ljava/lang/Throwable;"⟩ ∈ WG := wg3 (List.mem_of_getElem? (i := 15) rfl) rfl
theorem m3_16 : Cond.selects "java/lang/IndexOutOfBoundsException" ⟨"java/lang/Throwable", "fillInStackTrace", "()Ljava/lang/Throwable;"⟩ ⟨"java/lang/Throwable", "fillInStackTrace", "()Ljava/lang/Throwable;"⟩ ∈ WG := wg3 (List.mem_of_getElem? (i := 16) rfl) rfl
theorem m3_17 : Cond.selects "java/util/NoSuchElementException" ⟨"java/lang/Throwable", "fillInStackTrace", "()Ljava/lang/Throwable;"⟩ ⟨"java/lang/Throwable", "fillInStackTrace", "()Ljava/lang/Throwable;"⟩ ∈ WG := wg3 (List.mem_of_getElem? (i := 17) rfl) rfl
theorem m3_19 : Cond.methodLink "java/lang/Throwable" 202 ⟨"java/lang/Throwable", "fillInStackTrace", "(I)Ljava/lang/Throwable;"⟩ ∈ WG := wg3 (List.mem_of_getElem? (i := 19) rfl) rfl
theorem m3_21 : Cond.instanceMethod ⟨"java/lang/Throwable", "fillInStackTrace", "(I)Ljava/lang/Throwable;"⟩ ∈ WG := wg3 (List.mem_of_getElem? (i := 21) rfl) rfl
theorem m3_22 : Cond.instantiable "java/lang/Throwable" 6 ∈ WG := wg3 (List.mem_of_getElem? (i := 22) rfl) rfl
theorem m3_25 : Cond.methodLink RX7 52 ⟨"java/lang/IllegalArgumentException", "<init>", "(Ljava/lang/String;)V"⟩ ∈ WG := wg3 (List.mem_of_getElem? (i := 25) rfl) rfl
theorem m3_26 : Cond.instanceMethod ⟨"java/lang/IllegalArgumentException", "<init>", "(Ljava/lang/String;)V"⟩ ∈ WG := wg3 (List.mem_of_getElem? (i := 26) rfl) rfl
theorem m3_27 : Cond.code ⟨"java/lang/IllegalArgumentException", "<init>", "(Ljava/lang/String;)V"⟩ prog_16_method_2_code 2 none ∈ WG := wg3 (List.mem_of_getElem? (i := 27) rfl) rfl
theorem m3_28 : Cond.methodLink "java/lang/IllegalArgumentException" 7 ⟨"java/lang/RuntimeException", "<init>", "(Ljava/lang/String;)V"⟩ ∈ WG := wg3 (List.mem_of_getElem? (i := 28) rfl) rfl
theorem m3_29 : Cond.instanceMethod ⟨"java/lang/RuntimeException", "<init>", "(Ljava/lang/String;)V"⟩ ∈ WG := wg3 (List.mem_of_getElem? (i := 29) rfl) rfl
theorem m3_30 : Cond.code ⟨"java/lang/RuntimeException", "<init>", "(Ljava/lang/String;)V"⟩ prog_20_method_2_code 2 none ∈ WG := wg3 (List.mem_of_getElem? (i := 30) rfl) rfl
theorem m3_31 : Cond.methodLink "java/lang/RuntimeException" 7 ⟨"java/lang/Exception", "<init>", "(Ljava/lang/String;)V"⟩ ∈ WG := wg3 (List.mem_of_getElem? (i := 31) rfl) rfl
theorem m3_32 : Cond.instanceMethod ⟨"java/lang/Exception", "<init>", "(Ljava/lang/String;)V"⟩ ∈ WG := wg3 (List.mem_of_getElem? (i := 32) rfl) rfl
theorem m3_33 : Cond.code ⟨"java/lang/Exception", "<init>", "(Ljava/lang/String;)V"⟩ prog_15_method_2_code 2 none ∈ WG := wg3 (List.mem_of_getElem? (i := 33) rfl) rfl
theorem m3_34 : Cond.methodLink "java/lang/Exception" 7 ⟨"java/lang/Throwable", "<init>", "(Ljava/lang/String;)V"⟩ ∈ WG := wg3 (List.mem_of_getElem? (i := 34) rfl) rfl
theorem m3_35 : Cond.instanceMethod ⟨"java/lang/Throwable", "<init>", "(Ljava/lang/String;)V"⟩ ∈ WG := wg3 (List.mem_of_getElem? (i := 35) rfl) rfl
theorem m3_36 : Cond.code ⟨"java/lang/Throwable", "<init>", "(Ljava/lang/String;)V"⟩ prog_24_method_2_code 2 none ∈ WG := wg3 (List.mem_of_getElem? (i := 36) rfl) rfl
theorem m3_38 : Cond.fieldLink "java/lang/Throwable" 31 "java/lang/Throwable" "detailMessage" "Ljava/lang/String;" ∈ WG := wg3 (List.mem_of_getElem? (i := 38) rfl) rfl
theorem m3_39 : Cond.fieldLink "java/lang/Throwable" 7 "java/lang/Throwable" "cause" "Ljava/lang/Throwable;" ∈ WG := wg3 (List.mem_of_getElem? (i := 39) rfl) rfl
theorem m3_40 : Cond.fieldLink "java/lang/Throwable" 17 "java/lang/Throwable" "stackTrace" "[Ljava/lang/StackTraceElement;" ∈ WG := wg3 (List.mem_of_getElem? (i := 40) rfl) rfl
theorem m3_41 : Cond.fieldLink "java/lang/Throwable" 24 "java/lang/Throwable" "suppressedExceptions" "Ljava/util/List;" ∈ WG := wg3 (List.mem_of_getElem? (i := 41) rfl) rfl
theorem m3_46 : Cond.lays "java/lang/IllegalArgumentException" "java/lang/Throwable" "depth" "I" ∈ WG := wg3 (List.mem_of_getElem? (i := 46) rfl) rfl
theorem m3_50 : Cond.classLink RX7 59 "java/lang/IllegalStateException" ∈ WG := wg3 (List.mem_of_getElem? (i := 50) rfl) rfl
theorem m3_51 : Cond.instantiable "java/lang/IllegalStateException" 6 ∈ WG := wg3 (List.mem_of_getElem? (i := 51) rfl) rfl
theorem m3_53 : Cond.selects "java/lang/IllegalStateException" ⟨"java/lang/Throwable", "fillInStackTrace", "(I)Ljava/lang/Throwable;"⟩ ⟨"java/lang/Throwable", "fillInStackTrace", "(I)Ljava/lang/Throwable;"⟩ ∈ WG := wg3 (List.mem_of_getElem? (i := 53) rfl) rfl
theorem m3_54 : Cond.lays "java/lang/IllegalStateException" "java/lang/Throwable" "cause" "Ljava/lang/Throwable;" ∈ WG := wg3 (List.mem_of_getElem? (i := 54) rfl) rfl
theorem m3_55 : Cond.lays "java/lang/IllegalStateException" "java/lang/Throwable" "stackTrace" "[Ljava/lang/StackTraceElement;" ∈ WG := wg3 (List.mem_of_getElem? (i := 55) rfl) rfl
theorem m3_56 : Cond.lays "java/lang/IllegalStateException" "java/lang/Throwable" "suppressedExceptions" "Ljava/util/List;" ∈ WG := wg3 (List.mem_of_getElem? (i := 56) rfl) rfl
theorem m3_57 : Cond.lays "java/lang/IllegalStateException" "java/lang/Throwable" "detailMessage" "Ljava/lang/String;" ∈ WG := wg3 (List.mem_of_getElem? (i := 57) rfl) rfl
theorem m3_58 : Cond.lays "java/lang/IllegalStateException" "java/lang/Throwable" "backtrace" "Ljava/lang/Object;" ∈ WG := wg3 (List.mem_of_getElem? (i := 58) rfl) rfl
theorem m3_60 : Cond.methodLink RX7 63 ⟨"java/lang/IllegalStateException", "<init>", "(Ljava/lang/String;)V"⟩ ∈ WG := wg3 (List.mem_of_getElem? (i := 60) rfl) rfl
theorem m3_61 : Cond.instanceMethod ⟨"java/lang/IllegalStateException", "<init>", "(Ljava/lang/String;)V"⟩ ∈ WG := wg3 (List.mem_of_getElem? (i := 61) rfl) rfl
theorem m3_62 : Cond.code ⟨"java/lang/IllegalStateException", "<init>", "(Ljava/lang/String;)V"⟩ prog_17_method_2_code 2 none ∈ WG := wg3 (List.mem_of_getElem? (i := 62) rfl) rfl
theorem m3_63 : Cond.methodLink "java/lang/IllegalStateException" 7 ⟨"java/lang/RuntimeException", "<init>", "(Ljava/lang/String;)V"⟩ ∈ WG := wg3 (List.mem_of_getElem? (i := 63) rfl) rfl
theorem m3_64 : Cond.lays "java/lang/IllegalStateException" "java/lang/Throwable" "depth" "I" ∈ WG := wg3 (List.mem_of_getElem? (i := 64) rfl) rfl
theorem m3_66 : Cond.methodLink RX7 64 yX7_append ∈ WG := wg3 (List.mem_of_getElem? (i := 66) rfl) rfl
theorem m3_68 : Cond.instanceMethod yX7_append ∈ WG := wg3 (List.mem_of_getElem? (i := 68) rfl) rfl
theorem m3_69 : Cond.code yX7_append cX7_append 2 (some .int) ∈ WG := wg3 (List.mem_of_getElem? (i := 69) rfl) rfl
theorem m3_70 : Cond.methodLink RX7 221 yX4_add ∈ WG := wg3 (List.mem_of_getElem? (i := 70) rfl) rfl
theorem m3_71 : Cond.instanceMethod yX4_add ∈ WG := wg3 (List.mem_of_getElem? (i := 71) rfl) rfl
theorem m3_72 : Cond.selects RX4 yX4_add yX4_add ∈ WG := wg3 (List.mem_of_getElem? (i := 72) rfl) rfl
theorem m3_73 : Cond.code yX4_add cX4_add 2 none ∈ WG := wg3 (List.mem_of_getElem? (i := 73) rfl) rfl
theorem m3_74 : Cond.methodLink RL 110 yL_when ∈ WG := wg3 (List.mem_of_getElem? (i := 74) rfl) rfl
theorem m3_75 : Cond.static yL_when ∈ WG := wg3 (List.mem_of_getElem? (i := 75) rfl) rfl
theorem m3_77 : Cond.classLink RL 21 "java/lang/IndexOutOfBoundsException" ∈ WG := wg3 (List.mem_of_getElem? (i := 77) rfl) rfl
theorem m3_78 : Cond.methodLink RL 17 yX7_when ∈ WG := wg3 (List.mem_of_getElem? (i := 78) rfl) rfl
theorem m3_79 : Cond.instanceMethod yX7_when ∈ WG := wg3 (List.mem_of_getElem? (i := 79) rfl) rfl
theorem m3_80 : Cond.selects RX7 yX7_when yX7_when ∈ WG := wg3 (List.mem_of_getElem? (i := 80) rfl) rfl
theorem m3_81 : Cond.code yX7_when cX7_when 3 (some .int) ∈ WG := wg3 (List.mem_of_getElem? (i := 81) rfl) rfl
theorem m3_82 : Cond.methodLink RX7 68 yX7_checkFeature ∈ WG := wg3 (List.mem_of_getElem? (i := 82) rfl) rfl
theorem m3_84 : Cond.instanceMethod yX7_checkFeature ∈ WG := wg3 (List.mem_of_getElem? (i := 84) rfl) rfl
theorem m3_85 : Cond.code yX7_checkFeature cX7_checkFeature 2 none ∈ WG := wg3 (List.mem_of_getElem? (i := 85) rfl) rfl
theorem m3_86 : Cond.classLink RX7 201 "java/lang/IndexOutOfBoundsException" ∈ WG := wg3 (List.mem_of_getElem? (i := 86) rfl) rfl
theorem m3_87 : Cond.instantiable "java/lang/IndexOutOfBoundsException" 6 ∈ WG := wg3 (List.mem_of_getElem? (i := 87) rfl) rfl
theorem m3_89 : Cond.selects "java/lang/IndexOutOfBoundsException" ⟨"java/lang/Throwable", "fillInStackTrace", "(I)Ljava/lang/Throwable;"⟩ ⟨"java/lang/Throwable", "fillInStackTrace", "(I)Ljava/lang/Throwable;"⟩ ∈ WG := wg3 (List.mem_of_getElem? (i := 89) rfl) rfl
theorem m3_90 : Cond.lays "java/lang/IndexOutOfBoundsException" "java/lang/Throwable" "cause" "Ljava/lang/Throwable;" ∈ WG := wg3 (List.mem_of_getElem? (i := 90) rfl) rfl
theorem m3_91 : Cond.lays "java/lang/IndexOutOfBoundsException" "java/lang/Throwable" "stackTrace" "[Ljava/lang/StackTraceElement;" ∈ WG := wg3 (List.mem_of_getElem? (i := 91) rfl) rfl
theorem m3_92 : Cond.lays "java/lang/IndexOutOfBoundsException" "java/lang/Throwable" "suppressedExceptions" "Ljava/util/List;" ∈ WG := wg3 (List.mem_of_getElem? (i := 92) rfl) rfl
theorem m3_93 : Cond.lays "java/lang/IndexOutOfBoundsException" "java/lang/Throwable" "detailMessage" "Ljava/lang/String;" ∈ WG := wg3 (List.mem_of_getElem? (i := 93) rfl) rfl
theorem m3_94 : Cond.lays "java/lang/IndexOutOfBoundsException" "java/lang/Throwable" "backtrace" "Ljava/lang/Object;" ∈ WG := wg3 (List.mem_of_getElem? (i := 94) rfl) rfl
theorem m3_96 : Cond.methodLink RX7 205 ⟨"java/lang/IndexOutOfBoundsException", "<init>", "(Ljava/lang/String;)V"⟩ ∈ WG := wg3 (List.mem_of_getElem? (i := 96) rfl) rfl
theorem m3_97 : Cond.instanceMethod ⟨"java/lang/IndexOutOfBoundsException", "<init>", "(Ljava/lang/String;)V"⟩ ∈ WG := wg3 (List.mem_of_getElem? (i := 97) rfl) rfl
theorem m3_98 : Cond.code ⟨"java/lang/IndexOutOfBoundsException", "<init>", "(Ljava/lang/String;)V"⟩ prog_18_method_2_code 2 none ∈ WG := wg3 (List.mem_of_getElem? (i := 98) rfl) rfl
theorem m3_99 : Cond.methodLink "java/lang/IndexOutOfBoundsException" 7 ⟨"java/lang/RuntimeException", "<init>", "(Ljava/lang/String;)V"⟩ ∈ WG := wg3 (List.mem_of_getElem? (i := 99) rfl) rfl
theorem m3_100 : Cond.lays "java/lang/IndexOutOfBoundsException" "java/lang/Throwable" "depth" "I" ∈ WG := wg3 (List.mem_of_getElem? (i := 100) rfl) rfl
theorem m3_102 : Cond.methodLink RX7 72 yX7_checkRoom ∈ WG := wg3 (List.mem_of_getElem? (i := 102) rfl) rfl
theorem m3_104 : Cond.instanceMethod yX7_checkRoom ∈ WG := wg3 (List.mem_of_getElem? (i := 104) rfl) rfl
theorem m3_105 : Cond.code yX7_checkRoom cX7_checkRoom 1 none ∈ WG := wg3 (List.mem_of_getElem? (i := 105) rfl) rfl
theorem m3_107 : Cond.methodLink RX7 81 yX4_codeOfWhen ∈ WG := wg3 (List.mem_of_getElem? (i := 107) rfl) rfl
theorem m3_108 : Cond.static yX4_codeOfWhen ∈ WG := wg3 (List.mem_of_getElem? (i := 108) rfl) rfl
theorem m3_109 : Cond.code yX4_codeOfWhen cX4_codeOfWhen 2 (some .int) ∈ WG := wg3 (List.mem_of_getElem? (i := 109) rfl) rfl
theorem m3_110 : Cond.methodLink RL 114 yL_otherwise ∈ WG := wg3 (List.mem_of_getElem? (i := 110) rfl) rfl
theorem m3_111 : Cond.static yL_otherwise ∈ WG := wg3 (List.mem_of_getElem? (i := 111) rfl) rfl
theorem m3_113 : Cond.methodLink RL 23 yX7_otherwise ∈ WG := wg3 (List.mem_of_getElem? (i := 113) rfl) rfl
theorem m3_114 : Cond.instanceMethod yX7_otherwise ∈ WG := wg3 (List.mem_of_getElem? (i := 114) rfl) rfl
theorem m3_115 : Cond.selects RX7 yX7_otherwise yX7_otherwise ∈ WG := wg3 (List.mem_of_getElem? (i := 115) rfl) rfl
theorem m3_116 : Cond.code yX7_otherwise cX7_otherwise 1 (some .int) ∈ WG := wg3 (List.mem_of_getElem? (i := 116) rfl) rfl
theorem m3_117 : Cond.methodLink RX7 85 yX7_checkUnfinished ∈ WG := wg3 (List.mem_of_getElem? (i := 117) rfl) rfl
theorem m3_119 : Cond.instanceMethod yX7_checkUnfinished ∈ WG := wg3 (List.mem_of_getElem? (i := 119) rfl) rfl
theorem m3_120 : Cond.code yX7_checkUnfinished cX7_checkUnfinished 1 none ∈ WG := wg3 (List.mem_of_getElem? (i := 120) rfl) rfl
theorem m3_122 : Cond.methodLink RX7 88 yX4_lastUnfinishedHasOtherwise ∈ WG := wg3 (List.mem_of_getElem? (i := 122) rfl) rfl
theorem m3_123 : Cond.instanceMethod yX4_lastUnfinishedHasOtherwise ∈ WG := wg3 (List.mem_of_getElem? (i := 123) rfl) rfl
theorem m3_124 : Cond.selects RX4 yX4_lastUnfinishedHasOtherwise yX4_lastUnfinishedHasOtherwise ∈ WG := wg3 (List.mem_of_getElem? (i := 124) rfl) rfl
theorem m3_125 : Cond.code yX4_lastUnfinishedHasOtherwise cX4_lastUnfinishedHasOtherwise 4 (some .boolean) ∈ WG := wg3 (List.mem_of_getElem? (i := 125) rfl) rfl
theorem m3_127 : Cond.methodLink RL 118 yL_done ∈ WG := wg3 (List.mem_of_getElem? (i := 127) rfl) rfl
theorem m3_128 : Cond.static yL_done ∈ WG := wg3 (List.mem_of_getElem? (i := 128) rfl) rfl
theorem m3_130 : Cond.methodLink RL 27 yX7_done ∈ WG := wg3 (List.mem_of_getElem? (i := 130) rfl) rfl
theorem m3_131 : Cond.instanceMethod yX7_done ∈ WG := wg3 (List.mem_of_getElem? (i := 131) rfl) rfl
theorem m3_132 : Cond.selects RX7 yX7_done yX7_done ∈ WG := wg3 (List.mem_of_getElem? (i := 132) rfl) rfl
theorem m3_133 : Cond.code yX7_done cX7_done 1 (some .int) ∈ WG := wg3 (List.mem_of_getElem? (i := 133) rfl) rfl
theorem m3_134 : Cond.methodLink RL 121 yL_set ∈ WG := wg3 (List.mem_of_getElem? (i := 134) rfl) rfl
theorem m3_135 : Cond.static yL_set ∈ WG := wg3 (List.mem_of_getElem? (i := 135) rfl) rfl
theorem m3_137 : Cond.methodLink RL 30 yX7_set ∈ WG := wg3 (List.mem_of_getElem? (i := 137) rfl) rfl
theorem m3_138 : Cond.instanceMethod yX7_set ∈ WG := wg3 (List.mem_of_getElem? (i := 138) rfl) rfl
theorem m3_139 : Cond.selects RX7 yX7_set yX7_set ∈ WG := wg3 (List.mem_of_getElem? (i := 139) rfl) rfl
theorem m3_140 : Cond.code yX7_set cX7_set 3 (some .int) ∈ WG := wg3 (List.mem_of_getElem? (i := 140) rfl) rfl
theorem m3_141 : Cond.methodLink RX7 94 yX4_codeOfSet ∈ WG := wg3 (List.mem_of_getElem? (i := 141) rfl) rfl
theorem m3_142 : Cond.static yX4_codeOfSet ∈ WG := wg3 (List.mem_of_getElem? (i := 142) rfl) rfl
theorem m3_143 : Cond.code yX4_codeOfSet cX4_codeOfSet 2 (some .int) ∈ WG := wg3 (List.mem_of_getElem? (i := 143) rfl) rfl
theorem m3_144 : Cond.methodLink RX4 15 yX4_codeOfWhen ∈ WG := wg3 (List.mem_of_getElem? (i := 144) rfl) rfl
theorem m3_145 : Cond.methodLink RL 124 yL_drop ∈ WG := wg3 (List.mem_of_getElem? (i := 145) rfl) rfl
theorem m3_146 : Cond.static yL_drop ∈ WG := wg3 (List.mem_of_getElem? (i := 146) rfl) rfl
theorem m3_148 : Cond.methodLink RL 33 yX7_drop ∈ WG := wg3 (List.mem_of_getElem? (i := 148) rfl) rfl
theorem m3_149 : Cond.instanceMethod yX7_drop ∈ WG := wg3 (List.mem_of_getElem? (i := 149) rfl) rfl
theorem m3_150 : Cond.selects RX7 yX7_drop yX7_drop ∈ WG := wg3 (List.mem_of_getElem? (i := 150) rfl) rfl
theorem m3_151 : Cond.code yX7_drop cX7_drop 1 (some .int) ∈ WG := wg3 (List.mem_of_getElem? (i := 151) rfl) rfl
theorem m3_153 : Cond.methodLink RX7 99 yX4_removeLast ∈ WG := wg3 (List.mem_of_getElem? (i := 153) rfl) rfl
theorem m3_154 : Cond.instanceMethod yX4_removeLast ∈ WG := wg3 (List.mem_of_getElem? (i := 154) rfl) rfl
theorem m3_155 : Cond.selects RX4 yX4_removeLast yX4_removeLast ∈ WG := wg3 (List.mem_of_getElem? (i := 155) rfl) rfl
theorem m3_156 : Cond.code yX4_removeLast cX4_removeLast 1 none ∈ WG := wg3 (List.mem_of_getElem? (i := 156) rfl) rfl
theorem m3_157 : Cond.methodLink RL 127 yL_replace ∈ WG := wg3 (List.mem_of_getElem? (i := 157) rfl) rfl
theorem m3_158 : Cond.static yL_replace ∈ WG := wg3 (List.mem_of_getElem? (i := 158) rfl) rfl
theorem m3_160 : Cond.methodLink RL 36 yX7_replace ∈ WG := wg3 (List.mem_of_getElem? (i := 160) rfl) rfl
theorem m3_161 : Cond.instanceMethod yX7_replace ∈ WG := wg3 (List.mem_of_getElem? (i := 161) rfl) rfl
theorem m3_162 : Cond.selects RX7 yX7_replace yX7_replace ∈ WG := wg3 (List.mem_of_getElem? (i := 162) rfl) rfl
theorem m3_163 : Cond.code yX7_replace cX7_replace 4 (some .int) ∈ WG := wg3 (List.mem_of_getElem? (i := 163) rfl) rfl
theorem m3_164 : Cond.methodLink RX7 102 yX7_checkItem ∈ WG := wg3 (List.mem_of_getElem? (i := 164) rfl) rfl
theorem m3_166 : Cond.instanceMethod yX7_checkItem ∈ WG := wg3 (List.mem_of_getElem? (i := 166) rfl) rfl
theorem m3_167 : Cond.code yX7_checkItem cX7_checkItem 2 none ∈ WG := wg3 (List.mem_of_getElem? (i := 167) rfl) rfl
theorem m3_171 : Cond.methodLink RL 135 yL_item ∈ WG := wg3 (List.mem_of_getElem? (i := 171) rfl) rfl
theorem m3_172 : Cond.static yL_item ∈ WG := wg3 (List.mem_of_getElem? (i := 172) rfl) rfl
theorem m3_174 : Cond.methodLink RL 40 yX7_item ∈ WG := wg3 (List.mem_of_getElem? (i := 174) rfl) rfl
theorem m3_175 : Cond.instanceMethod yX7_item ∈ WG := wg3 (List.mem_of_getElem? (i := 175) rfl) rfl
theorem m3_176 : Cond.selects RX7 yX7_item yX7_item ∈ WG := wg3 (List.mem_of_getElem? (i := 176) rfl) rfl
theorem m3_177 : Cond.code yX7_item cX7_item 2 (some .int) ∈ WG := wg3 (List.mem_of_getElem? (i := 177) rfl) rfl
theorem m3_178 : Cond.methodLink RL 143 yL_presence ∈ WG := wg3 (List.mem_of_getElem? (i := 178) rfl) rfl
theorem m3_179 : Cond.static yL_presence ∈ WG := wg3 (List.mem_of_getElem? (i := 179) rfl) rfl
theorem m3_181 : Cond.methodLink RL 44 yX7_presence ∈ WG := wg3 (List.mem_of_getElem? (i := 181) rfl) rfl
theorem m3_182 : Cond.instanceMethod yX7_presence ∈ WG := wg3 (List.mem_of_getElem? (i := 182) rfl) rfl
theorem m3_183 : Cond.selects RX7 yX7_presence yX7_presence ∈ WG := wg3 (List.mem_of_getElem? (i := 183) rfl) rfl
theorem m3_184 : Cond.code yX7_presence cX7_presence 2 (some .int) ∈ WG := wg3 (List.mem_of_getElem? (i := 184) rfl) rfl
theorem m3_185 : Cond.methodLink RL 146 yL_on ∈ WG := wg3 (List.mem_of_getElem? (i := 185) rfl) rfl
theorem m3_186 : Cond.static yL_on ∈ WG := wg3 (List.mem_of_getElem? (i := 186) rfl) rfl
theorem m3_188 : Cond.methodLink RL 47 yX7_on ∈ WG := wg3 (List.mem_of_getElem? (i := 188) rfl) rfl
theorem m3_189 : Cond.instanceMethod yX7_on ∈ WG := wg3 (List.mem_of_getElem? (i := 189) rfl) rfl
theorem m3_190 : Cond.selects RX7 yX7_on yX7_on ∈ WG := wg3 (List.mem_of_getElem? (i := 190) rfl) rfl
theorem m3_191 : Cond.code yX7_on cX7_on 3 (some .int) ∈ WG := wg3 (List.mem_of_getElem? (i := 191) rfl) rfl
theorem m3_192 : Cond.methodLink RL 149 yL_features ∈ WG := wg3 (List.mem_of_getElem? (i := 192) rfl) rfl
theorem m3_193 : Cond.static yL_features ∈ WG := wg3 (List.mem_of_getElem? (i := 193) rfl) rfl
theorem m3_195 : Cond.methodLink RL 50 yX7_features ∈ WG := wg3 (List.mem_of_getElem? (i := 195) rfl) rfl
theorem m3_196 : Cond.instanceMethod yX7_features ∈ WG := wg3 (List.mem_of_getElem? (i := 196) rfl) rfl
theorem m3_197 : Cond.selects RX7 yX7_features yX7_features ∈ WG := wg3 (List.mem_of_getElem? (i := 197) rfl) rfl
theorem m3_198 : Cond.code yX7_features cX7_features 4 (some .int) ∈ WG := wg3 (List.mem_of_getElem? (i := 198) rfl) rfl
theorem m3_199 : Cond.constant RX7 122 (65535) ∈ WG := wg3 (List.mem_of_getElem? (i := 199) rfl) rfl
theorem m3_201 : Cond.methodLink RX7 125 yX7_matters ∈ WG := wg3 (List.mem_of_getElem? (i := 201) rfl) rfl
theorem m3_202 : Cond.static yX7_matters ∈ WG := wg3 (List.mem_of_getElem? (i := 202) rfl) rfl
theorem m3_203 : Cond.code yX7_matters cX7_matters 4 (some .boolean) ∈ WG := wg3 (List.mem_of_getElem? (i := 203) rfl) rfl
theorem m3_204 : Cond.methodLink RL 156 yL_length ∈ WG := wg3 (List.mem_of_getElem? (i := 204) rfl) rfl
theorem m3_205 : Cond.static yL_length ∈ WG := wg3 (List.mem_of_getElem? (i := 205) rfl) rfl
theorem m3_207 : Cond.methodLink RL 53 yX7_length ∈ WG := wg3 (List.mem_of_getElem? (i := 207) rfl) rfl
theorem m3_208 : Cond.instanceMethod yX7_length ∈ WG := wg3 (List.mem_of_getElem? (i := 208) rfl) rfl
theorem m3_209 : Cond.selects RX7 yX7_length yX7_length ∈ WG := wg3 (List.mem_of_getElem? (i := 209) rfl) rfl
theorem m3_210 : Cond.code yX7_length cX7_length 2 (some .int) ∈ WG := wg3 (List.mem_of_getElem? (i := 210) rfl) rfl
theorem m3_211 : Cond.methodLink RX7 129 yX7_checkConfiguration ∈ WG := wg3 (List.mem_of_getElem? (i := 211) rfl) rfl
theorem m3_213 : Cond.instanceMethod yX7_checkConfiguration ∈ WG := wg3 (List.mem_of_getElem? (i := 213) rfl) rfl
theorem m3_214 : Cond.code yX7_checkConfiguration cX7_checkConfiguration 2 none ∈ WG := wg3 (List.mem_of_getElem? (i := 214) rfl) rfl
theorem m3_216 : Cond.methodLink RL 159 yL_place ∈ WG := wg3 (List.mem_of_getElem? (i := 216) rfl) rfl
theorem m3_217 : Cond.static yL_place ∈ WG := wg3 (List.mem_of_getElem? (i := 217) rfl) rfl
theorem m3_219 : Cond.methodLink RL 56 yX7_place ∈ WG := wg3 (List.mem_of_getElem? (i := 219) rfl) rfl
theorem m3_220 : Cond.instanceMethod yX7_place ∈ WG := wg3 (List.mem_of_getElem? (i := 220) rfl) rfl
theorem m3_221 : Cond.selects RX7 yX7_place yX7_place ∈ WG := wg3 (List.mem_of_getElem? (i := 221) rfl) rfl
theorem m3_222 : Cond.code yX7_place cX7_place 3 (some .int) ∈ WG := wg3 (List.mem_of_getElem? (i := 222) rfl) rfl
theorem m3_223 : Cond.methodLink RX7 135 yX7_checkIndex ∈ WG := wg3 (List.mem_of_getElem? (i := 223) rfl) rfl
theorem m3_225 : Cond.instanceMethod yX7_checkIndex ∈ WG := wg3 (List.mem_of_getElem? (i := 225) rfl) rfl
theorem m3_226 : Cond.code yX7_checkIndex cX7_checkIndex 3 none ∈ WG := wg3 (List.mem_of_getElem? (i := 226) rfl) rfl
theorem m3_228 : Cond.methodLink RL 166 yL_error ∈ WG := wg3 (List.mem_of_getElem? (i := 228) rfl) rfl
theorem m3_229 : Cond.static yL_error ∈ WG := wg3 (List.mem_of_getElem? (i := 229) rfl) rfl
theorem m3_231 : Cond.methodLink RL 59 yX7_error ∈ WG := wg3 (List.mem_of_getElem? (i := 231) rfl) rfl
theorem m3_232 : Cond.instanceMethod yX7_error ∈ WG := wg3 (List.mem_of_getElem? (i := 232) rfl) rfl
theorem m3_233 : Cond.selects RX7 yX7_error yX7_error ∈ WG := wg3 (List.mem_of_getElem? (i := 233) rfl) rfl
theorem m3_234 : Cond.code yX7_error cX7_error 2 (some .int) ∈ WG := wg3 (List.mem_of_getElem? (i := 234) rfl) rfl
theorem m3_235 : Cond.methodLink RX7 145 yX7_checkFinished ∈ WG := wg3 (List.mem_of_getElem? (i := 235) rfl) rfl
theorem m3_237 : Cond.instanceMethod yX7_checkFinished ∈ WG := wg3 (List.mem_of_getElem? (i := 237) rfl) rfl
theorem m3_238 : Cond.code yX7_checkFinished cX7_checkFinished 1 none ∈ WG := wg3 (List.mem_of_getElem? (i := 238) rfl) rfl
theorem m4_0 : Cond.methodLink RL 169 yL_wrong ∈ WG := wg4 (List.mem_of_getElem? (i := 0) rfl) rfl
theorem m4_1 : Cond.static yL_wrong ∈ WG := wg4 (List.mem_of_getElem? (i := 1) rfl) rfl
theorem m4_3 : Cond.methodLink RL 62 yX7_wrong ∈ WG := wg4 (List.mem_of_getElem? (i := 3) rfl) rfl
theorem m4_4 : Cond.instanceMethod yX7_wrong ∈ WG := wg4 (List.mem_of_getElem? (i := 4) rfl) rfl
theorem m4_5 : Cond.selects RX7 yX7_wrong yX7_wrong ∈ WG := wg4 (List.mem_of_getElem? (i := 5) rfl) rfl
theorem m4_6 : Cond.code yX7_wrong cX7_wrong 3 (some .int) ∈ WG := wg4 (List.mem_of_getElem? (i := 6) rfl) rfl
theorem m4_7 : Cond.methodLink RL 172 yL_firstError ∈ WG := wg4 (List.mem_of_getElem? (i := 7) rfl) rfl
theorem m4_8 : Cond.static yL_firstError ∈ WG := wg4 (List.mem_of_getElem? (i := 8) rfl) rfl
theorem m4_10 : Cond.methodLink RL 65 yX7_firstError ∈ WG := wg4 (List.mem_of_getElem? (i := 10) rfl) rfl
theorem m4_11 : Cond.instanceMethod yX7_firstError ∈ WG := wg4 (List.mem_of_getElem? (i := 11) rfl) rfl
theorem m4_12 : Cond.selects RX7 yX7_firstError yX7_firstError ∈ WG := wg4 (List.mem_of_getElem? (i := 12) rfl) rfl
theorem m4_13 : Cond.code yX7_firstError cX7_firstError 4 (some .int) ∈ WG := wg4 (List.mem_of_getElem? (i := 13) rfl) rfl
theorem m4_14 : Cond.methodLink RL 175 yL_groups ∈ WG := wg4 (List.mem_of_getElem? (i := 14) rfl) rfl
theorem m4_15 : Cond.static yL_groups ∈ WG := wg4 (List.mem_of_getElem? (i := 15) rfl) rfl
theorem m4_17 : Cond.methodLink RL 68 yX7_groups ∈ WG := wg4 (List.mem_of_getElem? (i := 17) rfl) rfl
theorem m4_18 : Cond.instanceMethod yX7_groups ∈ WG := wg4 (List.mem_of_getElem? (i := 18) rfl) rfl
theorem m4_19 : Cond.selects RX7 yX7_groups yX7_groups ∈ WG := wg4 (List.mem_of_getElem? (i := 19) rfl) rfl
theorem m4_20 : Cond.code yX7_groups cX7_groups 2 (some .int) ∈ WG := wg4 (List.mem_of_getElem? (i := 20) rfl) rfl
theorem m4_21 : Cond.methodLink RL 178 yL_work ∈ WG := wg4 (List.mem_of_getElem? (i := 21) rfl) rfl
theorem m4_22 : Cond.static yL_work ∈ WG := wg4 (List.mem_of_getElem? (i := 22) rfl) rfl
theorem m4_24 : Cond.methodLink RL 71 yX7_work ∈ WG := wg4 (List.mem_of_getElem? (i := 24) rfl) rfl
theorem m4_25 : Cond.instanceMethod yX7_work ∈ WG := wg4 (List.mem_of_getElem? (i := 25) rfl) rfl
theorem m4_26 : Cond.selects RX7 yX7_work yX7_work ∈ WG := wg4 (List.mem_of_getElem? (i := 26) rfl) rfl
theorem m4_27 : Cond.code yX7_work cX7_work 1 (some .int) ∈ WG := wg4 (List.mem_of_getElem? (i := 27) rfl) rfl
theorem m4_28 : Cond.methodLink RX7 157 yX7_sumOfGroups ∈ WG := wg4 (List.mem_of_getElem? (i := 28) rfl) rfl
theorem m4_30 : Cond.instanceMethod yX7_sumOfGroups ∈ WG := wg4 (List.mem_of_getElem? (i := 30) rfl) rfl
theorem m4_31 : Cond.code yX7_sumOfGroups cX7_sumOfGroups 3 (some .int) ∈ WG := wg4 (List.mem_of_getElem? (i := 31) rfl) rfl
theorem m4_32 : Cond.methodLink RL 181 yL_gain ∈ WG := wg4 (List.mem_of_getElem? (i := 32) rfl) rfl
theorem m4_33 : Cond.static yL_gain ∈ WG := wg4 (List.mem_of_getElem? (i := 33) rfl) rfl
theorem m4_35 : Cond.methodLink RL 74 yX7_gain ∈ WG := wg4 (List.mem_of_getElem? (i := 35) rfl) rfl
theorem m4_36 : Cond.instanceMethod yX7_gain ∈ WG := wg4 (List.mem_of_getElem? (i := 36) rfl) rfl
theorem m4_37 : Cond.selects RX7 yX7_gain yX7_gain ∈ WG := wg4 (List.mem_of_getElem? (i := 37) rfl) rfl
theorem m4_38 : Cond.code yX7_gain cX7_gain 4 (some .double) ∈ WG := wg4 (List.mem_of_getElem? (i := 38) rfl) rfl
theorem m4_39 : Cond.methodLink RL 185 yL_stack ∈ WG := wg4 (List.mem_of_getElem? (i := 39) rfl) rfl
theorem m4_40 : Cond.static yL_stack ∈ WG := wg4 (List.mem_of_getElem? (i := 40) rfl) rfl
theorem m4_42 : Cond.methodLink RL 78 yX7_stack ∈ WG := wg4 (List.mem_of_getElem? (i := 42) rfl) rfl
theorem m4_43 : Cond.instanceMethod yX7_stack ∈ WG := wg4 (List.mem_of_getElem? (i := 43) rfl) rfl
theorem m4_44 : Cond.selects RX7 yX7_stack yX7_stack ∈ WG := wg4 (List.mem_of_getElem? (i := 44) rfl) rfl
theorem m4_45 : Cond.code yX7_stack cX7_stack 3 (some .int) ∈ WG := wg4 (List.mem_of_getElem? (i := 45) rfl) rfl
theorem m4_46 : Cond.methodLink RX7 163 yX1_heightAhead ∈ WG := wg4 (List.mem_of_getElem? (i := 46) rfl) rfl
theorem m4_47 : Cond.instanceMethod yX1_heightAhead ∈ WG := wg4 (List.mem_of_getElem? (i := 47) rfl) rfl
theorem m4_48 : Cond.selects RX1 yX1_heightAhead yX1_heightAhead ∈ WG := wg4 (List.mem_of_getElem? (i := 48) rfl) rfl
theorem m4_49 : Cond.code yX1_heightAhead cX1_heightAhead 2 (some .int) ∈ WG := wg4 (List.mem_of_getElem? (i := 49) rfl) rfl
theorem m4_50 : Cond.methodLink RL 188 yL_outputs ∈ WG := wg4 (List.mem_of_getElem? (i := 50) rfl) rfl
theorem m4_51 : Cond.static yL_outputs ∈ WG := wg4 (List.mem_of_getElem? (i := 51) rfl) rfl
theorem m4_53 : Cond.classLink RL 84 "java/util/NoSuchElementException" ∈ WG := wg4 (List.mem_of_getElem? (i := 53) rfl) rfl
theorem m4_54 : Cond.methodLink RL 81 yX7_outputs ∈ WG := wg4 (List.mem_of_getElem? (i := 54) rfl) rfl
theorem m4_55 : Cond.instanceMethod yX7_outputs ∈ WG := wg4 (List.mem_of_getElem? (i := 55) rfl) rfl
theorem m4_56 : Cond.selects RX7 yX7_outputs yX7_outputs ∈ WG := wg4 (List.mem_of_getElem? (i := 56) rfl) rfl
theorem m4_57 : Cond.code yX7_outputs cX7_outputs 2 (some .int) ∈ WG := wg4 (List.mem_of_getElem? (i := 57) rfl) rfl
theorem m4_58 : Cond.methodLink RX7 166 yX7_checkNoError ∈ WG := wg4 (List.mem_of_getElem? (i := 58) rfl) rfl
theorem m4_60 : Cond.instanceMethod yX7_checkNoError ∈ WG := wg4 (List.mem_of_getElem? (i := 60) rfl) rfl
theorem m4_61 : Cond.code yX7_checkNoError cX7_checkNoError 2 none ∈ WG := wg4 (List.mem_of_getElem? (i := 61) rfl) rfl
theorem m4_62 : Cond.classLink RX7 216 "java/util/NoSuchElementException" ∈ WG := wg4 (List.mem_of_getElem? (i := 62) rfl) rfl
theorem m4_63 : Cond.instantiable "java/util/NoSuchElementException" 6 ∈ WG := wg4 (List.mem_of_getElem? (i := 63) rfl) rfl
theorem m4_65 : Cond.selects "java/util/NoSuchElementException" ⟨"java/lang/Throwable", "fillInStackTrace", "(I)Ljava/lang/Throwable;"⟩ ⟨"java/lang/Throwable", "fillInStackTrace", "(I)Ljava/lang/Throwable;"⟩ ∈ WG := wg4 (List.mem_of_getElem? (i := 65) rfl) rfl
theorem m4_66 : Cond.lays "java/util/NoSuchElementException" "java/lang/Throwable" "cause" "Ljava/lang/Throwable;" ∈ WG := wg4 (List.mem_of_getElem? (i := 66) rfl) rfl
theorem m4_67 : Cond.lays "java/util/NoSuchElementException" "java/lang/Throwable" "stackTrace" "[Ljava/lang/StackTraceElement;" ∈ WG := wg4 (List.mem_of_getElem? (i := 67) rfl) rfl
theorem m4_68 : Cond.lays "java/util/NoSuchElementException" "java/lang/Throwable" "suppressedExceptions" "Ljava/util/List;" ∈ WG := wg4 (List.mem_of_getElem? (i := 68) rfl) rfl
theorem m4_69 : Cond.lays "java/util/NoSuchElementException" "java/lang/Throwable" "detailMessage" "Ljava/lang/String;" ∈ WG := wg4 (List.mem_of_getElem? (i := 69) rfl) rfl
theorem m4_70 : Cond.lays "java/util/NoSuchElementException" "java/lang/Throwable" "backtrace" "Ljava/lang/Object;" ∈ WG := wg4 (List.mem_of_getElem? (i := 70) rfl) rfl
theorem m4_72 : Cond.methodLink RX7 220 ⟨"java/util/NoSuchElementException", "<init>", "(Ljava/lang/String;)V"⟩ ∈ WG := wg4 (List.mem_of_getElem? (i := 72) rfl) rfl
theorem m4_73 : Cond.instanceMethod ⟨"java/util/NoSuchElementException", "<init>", "(Ljava/lang/String;)V"⟩ ∈ WG := wg4 (List.mem_of_getElem? (i := 73) rfl) rfl
theorem m4_74 : Cond.code ⟨"java/util/NoSuchElementException", "<init>", "(Ljava/lang/String;)V"⟩ prog_27_method_4_code 2 none ∈ WG := wg4 (List.mem_of_getElem? (i := 74) rfl) rfl
theorem m4_75 : Cond.methodLink "java/util/NoSuchElementException" 13 ⟨"java/lang/RuntimeException", "<init>", "(Ljava/lang/String;)V"⟩ ∈ WG := wg4 (List.mem_of_getElem? (i := 75) rfl) rfl
theorem m4_76 : Cond.lays "java/util/NoSuchElementException" "java/lang/Throwable" "depth" "I" ∈ WG := wg4 (List.mem_of_getElem? (i := 76) rfl) rfl
theorem m4_78 : Cond.methodLink RL 191 yL_output ∈ WG := wg4 (List.mem_of_getElem? (i := 78) rfl) rfl
theorem m4_79 : Cond.static yL_output ∈ WG := wg4 (List.mem_of_getElem? (i := 79) rfl) rfl
theorem m4_81 : Cond.methodLink RL 86 yX7_output ∈ WG := wg4 (List.mem_of_getElem? (i := 81) rfl) rfl
theorem m4_82 : Cond.instanceMethod yX7_output ∈ WG := wg4 (List.mem_of_getElem? (i := 82) rfl) rfl
theorem m4_83 : Cond.selects RX7 yX7_output yX7_output ∈ WG := wg4 (List.mem_of_getElem? (i := 83) rfl) rfl
theorem m4_84 : Cond.code yX7_output cX7_output 4 (some .int) ∈ WG := wg4 (List.mem_of_getElem? (i := 84) rfl) rfl
theorem m4_86 : Cond.methodLink RL 194 yL_variable ∈ WG := wg4 (List.mem_of_getElem? (i := 86) rfl) rfl
theorem m4_87 : Cond.static yL_variable ∈ WG := wg4 (List.mem_of_getElem? (i := 87) rfl) rfl
theorem m4_89 : Cond.methodLink RL 89 yX7_variable ∈ WG := wg4 (List.mem_of_getElem? (i := 89) rfl) rfl
theorem m4_90 : Cond.instanceMethod yX7_variable ∈ WG := wg4 (List.mem_of_getElem? (i := 90) rfl) rfl
theorem m4_91 : Cond.selects RX7 yX7_variable yX7_variable ∈ WG := wg4 (List.mem_of_getElem? (i := 91) rfl) rfl
theorem m4_92 : Cond.code yX7_variable cX7_variable 3 (some .int) ∈ WG := wg4 (List.mem_of_getElem? (i := 92) rfl) rfl
theorem m4_94 : Cond.methodLink RL 197 yL_behaviours ∈ WG := wg4 (List.mem_of_getElem? (i := 94) rfl) rfl
theorem m4_95 : Cond.static yL_behaviours ∈ WG := wg4 (List.mem_of_getElem? (i := 95) rfl) rfl
theorem m4_97 : Cond.methodLink RL 92 yX7_behaviours ∈ WG := wg4 (List.mem_of_getElem? (i := 97) rfl) rfl
theorem m4_98 : Cond.instanceMethod yX7_behaviours ∈ WG := wg4 (List.mem_of_getElem? (i := 98) rfl) rfl
theorem m4_99 : Cond.selects RX7 yX7_behaviours yX7_behaviours ∈ WG := wg4 (List.mem_of_getElem? (i := 99) rfl) rfl
theorem m4_100 : Cond.code yX7_behaviours cX7_behaviours 3 (some .int) ∈ WG := wg4 (List.mem_of_getElem? (i := 100) rfl) rfl
theorem m4_101 : Cond.methodLink RX7 188 yX7_isFirstOfItsBehaviour ∈ WG := wg4 (List.mem_of_getElem? (i := 101) rfl) rfl
theorem m4_103 : Cond.instanceMethod yX7_isFirstOfItsBehaviour ∈ WG := wg4 (List.mem_of_getElem? (i := 103) rfl) rfl
theorem m4_104 : Cond.code yX7_isFirstOfItsBehaviour cX7_isFirstOfItsBehaviour 4 (some .boolean) ∈ WG := wg4 (List.mem_of_getElem? (i := 104) rfl) rfl
theorem m4_105 : Cond.methodLink RX7 275 yX3_hasSameOutputs ∈ WG := wg4 (List.mem_of_getElem? (i := 105) rfl) rfl
theorem m4_106 : Cond.instanceMethod yX3_hasSameOutputs ∈ WG := wg4 (List.mem_of_getElem? (i := 106) rfl) rfl
theorem m4_107 : Cond.selects RX3 yX3_hasSameOutputs yX3_hasSameOutputs ∈ WG := wg4 (List.mem_of_getElem? (i := 107) rfl) rfl
theorem m4_108 : Cond.code yX3_hasSameOutputs cX3_hasSameOutputs 2 (some .boolean) ∈ WG := wg4 (List.mem_of_getElem? (i := 108) rfl) rfl
theorem m4_109 : Cond.methodLink RX3 41 yX2_areSame ∈ WG := wg4 (List.mem_of_getElem? (i := 109) rfl) rfl
theorem m4_110 : Cond.classLink RL 96 "VariantParserModel" ∈ WG := wg4 (List.mem_of_getElem? (i := 110) rfl) rfl
theorem m4_111 : Cond.instantiable RX8 15 ∈ WG := wg4 (List.mem_of_getElem? (i := 111) rfl) rfl
theorem m4_112 : Cond.methodLink RL 98 yX8_init ∈ WG := wg4 (List.mem_of_getElem? (i := 112) rfl) rfl
theorem m4_113 : Cond.instanceMethod yX8_init ∈ WG := wg4 (List.mem_of_getElem? (i := 113) rfl) rfl
theorem m4_114 : Cond.code yX8_init cX8_init 1 none ∈ WG := wg4 (List.mem_of_getElem? (i := 114) rfl) rfl
theorem m4_115 : Cond.methodLink RX8 1 objectInit ∈ WG := wg4 (List.mem_of_getElem? (i := 115) rfl) rfl
theorem m4_116 : Cond.fieldLink RX8 43 "VariantParserModel" "thrown" "I" ∈ WG := wg4 (List.mem_of_getElem? (i := 116) rfl) rfl
theorem m4_117 : Cond.fieldLink RX8 47 "VariantParserModel" "size" "I" ∈ WG := wg4 (List.mem_of_getElem? (i := 117) rfl) rfl
theorem m4_118 : Cond.fieldLink RX8 9 "VariantParserModel" "items" "[I" ∈ WG := wg4 (List.mem_of_getElem? (i := 118) rfl) rfl
theorem m4_119 : Cond.fieldLink RX8 13 "VariantParserModel" "present" "[I" ∈ WG := wg4 (List.mem_of_getElem? (i := 119) rfl) rfl
theorem m4_120 : Cond.fieldLink RX8 16 "VariantParserModel" "ons" "[I" ∈ WG := wg4 (List.mem_of_getElem? (i := 120) rfl) rfl
theorem m4_121 : Cond.fieldLink RX8 19 "VariantParserModel" "stacks" "[I" ∈ WG := wg4 (List.mem_of_getElem? (i := 121) rfl) rfl
theorem m4_122 : Cond.fieldLink RX8 22 "VariantParserModel" "depths" "[I" ∈ WG := wg4 (List.mem_of_getElem? (i := 122) rfl) rfl
theorem m4_123 : Cond.fieldLink RX8 25 "VariantParserModel" "errors" "[I" ∈ WG := wg4 (List.mem_of_getElem? (i := 123) rfl) rfl
theorem m4_124 : Cond.fieldLink RX8 28 "VariantParserModel" "groupCounts" "[I" ∈ WG := wg4 (List.mem_of_getElem? (i := 124) rfl) rfl
theorem m4_125 : Cond.fieldLink RX8 31 "VariantParserModel" "depthsAt" "[I" ∈ WG := wg4 (List.mem_of_getElem? (i := 125) rfl) rfl
theorem m4_126 : Cond.fieldLink RX8 34 "VariantParserModel" "code" "[I" ∈ WG := wg4 (List.mem_of_getElem? (i := 126) rfl) rfl
theorem m4_127 : Cond.fieldLink RX8 152 "VariantParserModel" "at" "I" ∈ WG := wg4 (List.mem_of_getElem? (i := 127) rfl) rfl
theorem m4_128 : Cond.fieldLink RX8 37 "VariantParserModel" "values" "[I" ∈ WG := wg4 (List.mem_of_getElem? (i := 128) rfl) rfl
theorem m4_129 : Cond.fieldLink RX8 171 "VariantParserModel" "written" "I" ∈ WG := wg4 (List.mem_of_getElem? (i := 129) rfl) rfl
theorem m4_130 : Cond.fieldLink RX8 40 "VariantParserModel" "output" "[I" ∈ WG := wg4 (List.mem_of_getElem? (i := 130) rfl) rfl
theorem m4_131 : Cond.lays "VariantParserModel" "VariantParserModel" "thrown" "I" ∈ WG := wg4 (List.mem_of_getElem? (i := 131) rfl) rfl
theorem m4_133 : Cond.lays "VariantParserModel" "VariantParserModel" "size" "I" ∈ WG := wg4 (List.mem_of_getElem? (i := 133) rfl) rfl
theorem m4_135 : Cond.laysFinal "VariantParserModel" "VariantParserModel" "items" "[I" ∈ WG := wg4 (List.mem_of_getElem? (i := 135) rfl) rfl
theorem m4_137 : Cond.laysFinal "VariantParserModel" "VariantParserModel" "present" "[I" ∈ WG := wg4 (List.mem_of_getElem? (i := 137) rfl) rfl
theorem m4_139 : Cond.laysFinal "VariantParserModel" "VariantParserModel" "ons" "[I" ∈ WG := wg4 (List.mem_of_getElem? (i := 139) rfl) rfl
theorem m4_141 : Cond.laysFinal "VariantParserModel" "VariantParserModel" "stacks" "[I" ∈ WG := wg4 (List.mem_of_getElem? (i := 141) rfl) rfl
theorem m4_143 : Cond.laysFinal "VariantParserModel" "VariantParserModel" "depths" "[I" ∈ WG := wg4 (List.mem_of_getElem? (i := 143) rfl) rfl
theorem m4_145 : Cond.laysFinal "VariantParserModel" "VariantParserModel" "errors" "[I" ∈ WG := wg4 (List.mem_of_getElem? (i := 145) rfl) rfl
theorem m4_147 : Cond.laysFinal "VariantParserModel" "VariantParserModel" "groupCounts" "[I" ∈ WG := wg4 (List.mem_of_getElem? (i := 147) rfl) rfl
theorem m4_149 : Cond.laysFinal "VariantParserModel" "VariantParserModel" "depthsAt" "[I" ∈ WG := wg4 (List.mem_of_getElem? (i := 149) rfl) rfl
theorem m4_151 : Cond.laysFinal "VariantParserModel" "VariantParserModel" "code" "[I" ∈ WG := wg4 (List.mem_of_getElem? (i := 151) rfl) rfl
theorem m4_153 : Cond.lays "VariantParserModel" "VariantParserModel" "at" "I" ∈ WG := wg4 (List.mem_of_getElem? (i := 153) rfl) rfl
theorem m4_155 : Cond.laysFinal "VariantParserModel" "VariantParserModel" "values" "[I" ∈ WG := wg4 (List.mem_of_getElem? (i := 155) rfl) rfl
theorem m4_157 : Cond.lays "VariantParserModel" "VariantParserModel" "written" "I" ∈ WG := wg4 (List.mem_of_getElem? (i := 157) rfl) rfl
theorem m4_159 : Cond.laysFinal "VariantParserModel" "VariantParserModel" "output" "[I" ∈ WG := wg4 (List.mem_of_getElem? (i := 159) rfl) rfl
theorem m4_162 : Cond.methodLink RL 107 yX8_thrown ∈ WG := wg4 (List.mem_of_getElem? (i := 162) rfl) rfl
theorem m4_163 : Cond.instanceMethod yX8_thrown ∈ WG := wg4 (List.mem_of_getElem? (i := 163) rfl) rfl
theorem m4_164 : Cond.selects RX8 yX8_thrown yX8_thrown ∈ WG := wg4 (List.mem_of_getElem? (i := 164) rfl) rfl
theorem m4_165 : Cond.code yX8_thrown cX8_thrown 1 (some .int) ∈ WG := wg4 (List.mem_of_getElem? (i := 165) rfl) rfl
theorem m4_166 : Cond.methodLink RL 106 yX8_write ∈ WG := wg4 (List.mem_of_getElem? (i := 166) rfl) rfl
theorem m4_167 : Cond.instanceMethod yX8_write ∈ WG := wg4 (List.mem_of_getElem? (i := 167) rfl) rfl
theorem m4_168 : Cond.selects RX8 yX8_write yX8_write ∈ WG := wg4 (List.mem_of_getElem? (i := 168) rfl) rfl
theorem m4_169 : Cond.code yX8_write cX8_write 6 (some .int) ∈ WG := wg4 (List.mem_of_getElem? (i := 169) rfl) rfl
theorem m4_170 : Cond.constantLong RX8 62 (255) ∈ WG := wg4 (List.mem_of_getElem? (i := 170) rfl) rfl
theorem m4_171 : Cond.methodLink RX8 64 yX8_isCharacter ∈ WG := wg4 (List.mem_of_getElem? (i := 171) rfl) rfl
theorem m4_172 : Cond.static yX8_isCharacter ∈ WG := wg4 (List.mem_of_getElem? (i := 172) rfl) rfl
theorem m4_173 : Cond.code yX8_isCharacter cX8_isCharacter 1 (some .boolean) ∈ WG := wg4 (List.mem_of_getElem? (i := 173) rfl) rfl
theorem m4_175 : Cond.methodLink RX8 56 yJ0_indexOf_0f7a4 ∈ WG := wg4 (List.mem_of_getElem? (i := 175) rfl) rfl
theorem m4_176 : Cond.instanceMethod yJ0_indexOf_0f7a4 ∈ WG := wg4 (List.mem_of_getElem? (i := 176) rfl) rfl
theorem m4_177 : Cond.selects RJ0 yJ0_indexOf_0f7a4 yJ0_indexOf_0f7a4 ∈ WG := wg4 (List.mem_of_getElem? (i := 177) rfl) rfl
theorem m4_178 : Cond.code yJ0_indexOf_0f7a4 cJ0_indexOf_0f7a4 2 (some .int) ∈ WG := wg4 (List.mem_of_getElem? (i := 178) rfl) rfl
theorem m4_179 : Cond.methodLink RJ0 633 yJ0_indexOf_7cf53 ∈ WG := wg4 (List.mem_of_getElem? (i := 179) rfl) rfl
theorem m4_180 : Cond.instanceMethod yJ0_indexOf_7cf53 ∈ WG := wg4 (List.mem_of_getElem? (i := 180) rfl) rfl
theorem m4_181 : Cond.selects RJ0 yJ0_indexOf_7cf53 yJ0_indexOf_7cf53 ∈ WG := wg4 (List.mem_of_getElem? (i := 181) rfl) rfl
theorem m4_182 : Cond.code yJ0_indexOf_7cf53 cJ0_indexOf_7cf53 3 (some .int) ∈ WG := wg4 (List.mem_of_getElem? (i := 182) rfl) rfl
theorem m4_183 : Cond.methodLink RJ0 505 yJ0_length_8abf5 ∈ WG := wg4 (List.mem_of_getElem? (i := 183) rfl) rfl
theorem m4_184 : Cond.methodLink RJ0 637 yJ1_indexOf_4cfef ∈ WG := wg4 (List.mem_of_getElem? (i := 184) rfl) rfl
theorem m4_185 : Cond.static yJ1_indexOf_4cfef ∈ WG := wg4 (List.mem_of_getElem? (i := 185) rfl) rfl
theorem m4_186 : Cond.code yJ1_indexOf_4cfef cJ1_indexOf_4cfef 4 (some .int) ∈ WG := wg4 (List.mem_of_getElem? (i := 186) rfl) rfl
theorem m4_187 : Cond.methodLink RJ1 88 yJ1_canEncode_9a6ad ∈ WG := wg4 (List.mem_of_getElem? (i := 187) rfl) rfl
theorem m4_188 : Cond.static yJ1_canEncode_9a6ad ∈ WG := wg4 (List.mem_of_getElem? (i := 188) rfl) rfl
theorem m4_189 : Cond.code yJ1_canEncode_9a6ad cJ1_canEncode_9a6ad 1 (some .boolean) ∈ WG := wg4 (List.mem_of_getElem? (i := 189) rfl) rfl
theorem m4_190 : Cond.methodLink RJ1 92 yJ9_max_7cf53 ∈ WG := wg4 (List.mem_of_getElem? (i := 190) rfl) rfl
theorem m4_191 : Cond.static yJ9_max_7cf53 ∈ WG := wg4 (List.mem_of_getElem? (i := 191) rfl) rfl
theorem m4_192 : Cond.code yJ9_max_7cf53 cJ9_max_7cf53 2 (some .int) ∈ WG := wg4 (List.mem_of_getElem? (i := 192) rfl) rfl
theorem m4_193 : Cond.methodLink RJ1 38 yJ9_min_7cf53 ∈ WG := wg4 (List.mem_of_getElem? (i := 193) rfl) rfl
theorem m4_194 : Cond.methodLink RJ1 95 yJ1_indexOfChar_4cfef ∈ WG := wg4 (List.mem_of_getElem? (i := 194) rfl) rfl
theorem m4_195 : Cond.static yJ1_indexOfChar_4cfef ∈ WG := wg4 (List.mem_of_getElem? (i := 195) rfl) rfl
theorem m4_196 : Cond.code yJ1_indexOfChar_4cfef cJ1_indexOfChar_4cfef 6 (some .int) ∈ WG := wg4 (List.mem_of_getElem? (i := 196) rfl) rfl
theorem m4_197 : Cond.methodLink RJ0 640 yJ2_indexOf_4cfef ∈ WG := wg4 (List.mem_of_getElem? (i := 197) rfl) rfl
theorem m4_198 : Cond.static yJ2_indexOf_4cfef ∈ WG := wg4 (List.mem_of_getElem? (i := 198) rfl) rfl
theorem m4_199 : Cond.code yJ2_indexOf_4cfef cJ2_indexOf_4cfef 4 (some .int) ∈ WG := wg4 (List.mem_of_getElem? (i := 199) rfl) rfl
theorem m4_200 : Cond.methodLink RJ2 224 yJ9_max_7cf53 ∈ WG := wg4 (List.mem_of_getElem? (i := 200) rfl) rfl
theorem m4_201 : Cond.methodLink RJ2 183 yJ9_min_7cf53 ∈ WG := wg4 (List.mem_of_getElem? (i := 201) rfl) rfl
theorem m4_202 : Cond.constant RJ2 227 (65536) ∈ WG := wg4 (List.mem_of_getElem? (i := 202) rfl) rfl
theorem m4_203 : Cond.methodLink RJ2 228 yJ2_indexOfChar_4cfef ∈ WG := wg4 (List.mem_of_getElem? (i := 203) rfl) rfl
theorem m4_204 : Cond.static yJ2_indexOfChar_4cfef ∈ WG := wg4 (List.mem_of_getElem? (i := 204) rfl) rfl
theorem m4_205 : Cond.code yJ2_indexOfChar_4cfef cJ2_indexOfChar_4cfef 4 (some .int) ∈ WG := wg4 (List.mem_of_getElem? (i := 205) rfl) rfl
theorem m4_206 : Cond.methodLink RJ2 96 yJ2_checkBoundsBeginEnd_d044e ∈ WG := wg4 (List.mem_of_getElem? (i := 206) rfl) rfl
theorem m4_207 : Cond.static yJ2_checkBoundsBeginEnd_d044e ∈ WG := wg4 (List.mem_of_getElem? (i := 207) rfl) rfl
theorem m4_208 : Cond.code yJ2_checkBoundsBeginEnd_d044e cJ2_checkBoundsBeginEnd_d044e 3 none ∈ WG := wg4 (List.mem_of_getElem? (i := 208) rfl) rfl
theorem m4_209 : Cond.methodLink RJ2 241 yJ0_checkBoundsBeginEnd_23922 ∈ WG := wg4 (List.mem_of_getElem? (i := 209) rfl) rfl
theorem m4_210 : Cond.static yJ0_checkBoundsBeginEnd_23922 ∈ WG := wg4 (List.mem_of_getElem? (i := 210) rfl) rfl
theorem m4_211 : Cond.code yJ0_checkBoundsBeginEnd_23922 cJ0_checkBoundsBeginEnd_23922 3 none ∈ WG := wg4 (List.mem_of_getElem? (i := 211) rfl) rfl
theorem m4_212 : Cond.methodLink RJ0 1062 yJ3_checkFromToIndex_8c36e ∈ WG := wg4 (List.mem_of_getElem? (i := 212) rfl) rfl
theorem m4_213 : Cond.static yJ3_checkFromToIndex_8c36e ∈ WG := wg4 (List.mem_of_getElem? (i := 213) rfl) rfl
theorem m4_214 : Cond.code yJ3_checkFromToIndex_8c36e cJ3_checkFromToIndex_8c36e 4 (some .int) ∈ WG := wg4 (List.mem_of_getElem? (i := 214) rfl) rfl
theorem m4_215 : Cond.methodLink RJ2 244 yJ2_indexOfCharUnsafe_4cfef ∈ WG := wg4 (List.mem_of_getElem? (i := 215) rfl) rfl
theorem m4_216 : Cond.static yJ2_indexOfCharUnsafe_4cfef ∈ WG := wg4 (List.mem_of_getElem? (i := 216) rfl) rfl
theorem m4_217 : Cond.code yJ2_indexOfCharUnsafe_4cfef cJ2_indexOfCharUnsafe_4cfef 5 (some .int) ∈ WG := wg4 (List.mem_of_getElem? (i := 217) rfl) rfl
theorem m4_218 : Cond.methodLink RJ2 232 yJ2_indexOfSupplementary_4cfef ∈ WG := wg4 (List.mem_of_getElem? (i := 218) rfl) rfl
theorem m4_219 : Cond.static yJ2_indexOfSupplementary_4cfef ∈ WG := wg4 (List.mem_of_getElem? (i := 219) rfl) rfl
theorem m4_220 : Cond.code yJ2_indexOfSupplementary_4cfef cJ2_indexOfSupplementary_4cfef 7 (some .int) ∈ WG := wg4 (List.mem_of_getElem? (i := 220) rfl) rfl
theorem m4_221 : Cond.methodLink RJ2 164 yJ11_isValidCodePoint_9a6ad ∈ WG := wg4 (List.mem_of_getElem? (i := 221) rfl) rfl
theorem m4_222 : Cond.static yJ11_isValidCodePoint_9a6ad ∈ WG := wg4 (List.mem_of_getElem? (i := 222) rfl) rfl
theorem m4_223 : Cond.code yJ11_isValidCodePoint_9a6ad cJ11_isValidCodePoint_9a6ad 2 (some .boolean) ∈ WG := wg4 (List.mem_of_getElem? (i := 223) rfl) rfl
theorem m4_224 : Cond.methodLink RJ2 157 yJ11_highSurrogate_5068e ∈ WG := wg4 (List.mem_of_getElem? (i := 224) rfl) rfl
theorem m4_225 : Cond.static yJ11_highSurrogate_5068e ∈ WG := wg4 (List.mem_of_getElem? (i := 225) rfl) rfl
theorem m4_226 : Cond.code yJ11_highSurrogate_5068e cJ11_highSurrogate_5068e 1 (some .char) ∈ WG := wg4 (List.mem_of_getElem? (i := 226) rfl) rfl
theorem m4_227 : Cond.constant RJ11 110 (55232) ∈ WG := wg4 (List.mem_of_getElem? (i := 227) rfl) rfl
theorem m4_228 : Cond.methodLink RJ2 161 yJ11_lowSurrogate_5068e ∈ WG := wg4 (List.mem_of_getElem? (i := 228) rfl) rfl
theorem m4_229 : Cond.static yJ11_lowSurrogate_5068e ∈ WG := wg4 (List.mem_of_getElem? (i := 229) rfl) rfl
theorem m4_230 : Cond.code yJ11_lowSurrogate_5068e cJ11_lowSurrogate_5068e 1 (some .char) ∈ WG := wg4 (List.mem_of_getElem? (i := 230) rfl) rfl
theorem m4_231 : Cond.constant RJ11 76 (56320) ∈ WG := wg4 (List.mem_of_getElem? (i := 231) rfl) rfl
theorem m4_232 : Cond.methodLink RX8 68 yX8_no ∈ WG := wg4 (List.mem_of_getElem? (i := 232) rfl) rfl
theorem m4_234 : Cond.instanceMethod yX8_no ∈ WG := wg4 (List.mem_of_getElem? (i := 234) rfl) rfl
theorem m4_235 : Cond.code yX8_no cX8_no 2 (some .int) ∈ WG := wg4 (List.mem_of_getElem? (i := 235) rfl) rfl
theorem m4_236 : Cond.methodLink RX8 71 yX8_append ∈ WG := wg4 (List.mem_of_getElem? (i := 236) rfl) rfl
theorem m4_238 : Cond.instanceMethod yX8_append ∈ WG := wg4 (List.mem_of_getElem? (i := 238) rfl) rfl
theorem m4_239 : Cond.code yX8_append cX8_append 2 (some .int) ∈ WG := wg4 (List.mem_of_getElem? (i := 239) rfl) rfl
theorem m5_0 : Cond.methodLink RL 113 yX8_when ∈ WG := wg5 (List.mem_of_getElem? (i := 0) rfl) rfl
theorem m5_1 : Cond.instanceMethod yX8_when ∈ WG := wg5 (List.mem_of_getElem? (i := 1) rfl) rfl
theorem m5_2 : Cond.selects RX8 yX8_when yX8_when ∈ WG := wg5 (List.mem_of_getElem? (i := 2) rfl) rfl
theorem m5_3 : Cond.code yX8_when cX8_when 3 (some .int) ∈ WG := wg5 (List.mem_of_getElem? (i := 3) rfl) rfl
theorem m5_4 : Cond.methodLink RX8 74 yX8_isFeature ∈ WG := wg5 (List.mem_of_getElem? (i := 4) rfl) rfl
theorem m5_5 : Cond.static yX8_isFeature ∈ WG := wg5 (List.mem_of_getElem? (i := 5) rfl) rfl
theorem m5_6 : Cond.code yX8_isFeature cX8_isFeature 1 (some .boolean) ∈ WG := wg5 (List.mem_of_getElem? (i := 6) rfl) rfl
theorem m5_7 : Cond.methodLink RX8 50 yX8_isIn ∈ WG := wg5 (List.mem_of_getElem? (i := 7) rfl) rfl
theorem m5_8 : Cond.static yX8_isIn ∈ WG := wg5 (List.mem_of_getElem? (i := 8) rfl) rfl
theorem m5_9 : Cond.code yX8_isIn cX8_isIn 3 (some .boolean) ∈ WG := wg5 (List.mem_of_getElem? (i := 9) rfl) rfl
theorem m5_10 : Cond.methodLink RX8 77 yX8_openCount ∈ WG := wg5 (List.mem_of_getElem? (i := 10) rfl) rfl
theorem m5_12 : Cond.instanceMethod yX8_openCount ∈ WG := wg5 (List.mem_of_getElem? (i := 12) rfl) rfl
theorem m5_13 : Cond.code yX8_openCount cX8_openCount 3 (some .int) ∈ WG := wg5 (List.mem_of_getElem? (i := 13) rfl) rfl
theorem m5_14 : Cond.methodLink RL 117 yX8_otherwise ∈ WG := wg5 (List.mem_of_getElem? (i := 14) rfl) rfl
theorem m5_15 : Cond.instanceMethod yX8_otherwise ∈ WG := wg5 (List.mem_of_getElem? (i := 15) rfl) rfl
theorem m5_16 : Cond.selects RX8 yX8_otherwise yX8_otherwise ∈ WG := wg5 (List.mem_of_getElem? (i := 16) rfl) rfl
theorem m5_17 : Cond.code yX8_otherwise cX8_otherwise 2 (some .int) ∈ WG := wg5 (List.mem_of_getElem? (i := 17) rfl) rfl
theorem m5_18 : Cond.methodLink RX8 81 yX8_whenOf ∈ WG := wg5 (List.mem_of_getElem? (i := 18) rfl) rfl
theorem m5_20 : Cond.instanceMethod yX8_whenOf ∈ WG := wg5 (List.mem_of_getElem? (i := 20) rfl) rfl
theorem m5_21 : Cond.code yX8_whenOf cX8_whenOf 4 (some .int) ∈ WG := wg5 (List.mem_of_getElem? (i := 21) rfl) rfl
theorem m5_22 : Cond.methodLink RX8 84 yX8_hasOtherwise ∈ WG := wg5 (List.mem_of_getElem? (i := 22) rfl) rfl
theorem m5_24 : Cond.instanceMethod yX8_hasOtherwise ∈ WG := wg5 (List.mem_of_getElem? (i := 24) rfl) rfl
theorem m5_25 : Cond.code yX8_hasOtherwise cX8_hasOtherwise 4 (some .boolean) ∈ WG := wg5 (List.mem_of_getElem? (i := 25) rfl) rfl
theorem m5_26 : Cond.methodLink RL 120 yX8_done ∈ WG := wg5 (List.mem_of_getElem? (i := 26) rfl) rfl
theorem m5_27 : Cond.instanceMethod yX8_done ∈ WG := wg5 (List.mem_of_getElem? (i := 27) rfl) rfl
theorem m5_28 : Cond.selects RX8 yX8_done yX8_done ∈ WG := wg5 (List.mem_of_getElem? (i := 28) rfl) rfl
theorem m5_29 : Cond.code yX8_done cX8_done 1 (some .int) ∈ WG := wg5 (List.mem_of_getElem? (i := 29) rfl) rfl
theorem m5_30 : Cond.methodLink RL 123 yX8_set ∈ WG := wg5 (List.mem_of_getElem? (i := 30) rfl) rfl
theorem m5_31 : Cond.instanceMethod yX8_set ∈ WG := wg5 (List.mem_of_getElem? (i := 31) rfl) rfl
theorem m5_32 : Cond.selects RX8 yX8_set yX8_set ∈ WG := wg5 (List.mem_of_getElem? (i := 32) rfl) rfl
theorem m5_33 : Cond.code yX8_set cX8_set 3 (some .int) ∈ WG := wg5 (List.mem_of_getElem? (i := 33) rfl) rfl
theorem m5_34 : Cond.methodLink RL 126 yX8_drop ∈ WG := wg5 (List.mem_of_getElem? (i := 34) rfl) rfl
theorem m5_35 : Cond.instanceMethod yX8_drop ∈ WG := wg5 (List.mem_of_getElem? (i := 35) rfl) rfl
theorem m5_36 : Cond.selects RX8 yX8_drop yX8_drop ∈ WG := wg5 (List.mem_of_getElem? (i := 36) rfl) rfl
theorem m5_37 : Cond.code yX8_drop cX8_drop 1 (some .int) ∈ WG := wg5 (List.mem_of_getElem? (i := 37) rfl) rfl
theorem m5_38 : Cond.methodLink RL 130 yX8_replace ∈ WG := wg5 (List.mem_of_getElem? (i := 38) rfl) rfl
theorem m5_39 : Cond.instanceMethod yX8_replace ∈ WG := wg5 (List.mem_of_getElem? (i := 39) rfl) rfl
theorem m5_40 : Cond.selects RX8 yX8_replace yX8_replace ∈ WG := wg5 (List.mem_of_getElem? (i := 40) rfl) rfl
theorem m5_41 : Cond.code yX8_replace cX8_replace 4 (some .int) ∈ WG := wg5 (List.mem_of_getElem? (i := 41) rfl) rfl
theorem m5_42 : Cond.methodLink RX8 87 yX8_isItem ∈ WG := wg5 (List.mem_of_getElem? (i := 42) rfl) rfl
theorem m5_44 : Cond.instanceMethod yX8_isItem ∈ WG := wg5 (List.mem_of_getElem? (i := 44) rfl) rfl
theorem m5_45 : Cond.code yX8_isItem cX8_isItem 2 (some .boolean) ∈ WG := wg5 (List.mem_of_getElem? (i := 45) rfl) rfl
theorem m5_46 : Cond.methodLink RX8 90 yX8_isToken ∈ WG := wg5 (List.mem_of_getElem? (i := 46) rfl) rfl
theorem m5_48 : Cond.instanceMethod yX8_isToken ∈ WG := wg5 (List.mem_of_getElem? (i := 48) rfl) rfl
theorem m5_49 : Cond.code yX8_isToken cX8_isToken 2 (some .boolean) ∈ WG := wg5 (List.mem_of_getElem? (i := 49) rfl) rfl
theorem m5_50 : Cond.methodLink RL 134 yX8_size ∈ WG := wg5 (List.mem_of_getElem? (i := 50) rfl) rfl
theorem m5_51 : Cond.instanceMethod yX8_size ∈ WG := wg5 (List.mem_of_getElem? (i := 51) rfl) rfl
theorem m5_52 : Cond.selects RX8 yX8_size yX8_size ∈ WG := wg5 (List.mem_of_getElem? (i := 52) rfl) rfl
theorem m5_53 : Cond.code yX8_size cX8_size 1 (some .int) ∈ WG := wg5 (List.mem_of_getElem? (i := 53) rfl) rfl
theorem m5_54 : Cond.methodLink RL 138 yX8_item ∈ WG := wg5 (List.mem_of_getElem? (i := 54) rfl) rfl
theorem m5_55 : Cond.instanceMethod yX8_item ∈ WG := wg5 (List.mem_of_getElem? (i := 55) rfl) rfl
theorem m5_56 : Cond.selects RX8 yX8_item yX8_item ∈ WG := wg5 (List.mem_of_getElem? (i := 56) rfl) rfl
theorem m5_57 : Cond.code yX8_item cX8_item 2 (some .int) ∈ WG := wg5 (List.mem_of_getElem? (i := 57) rfl) rfl
theorem m5_58 : Cond.methodLink RL 142 yX8_unfinished ∈ WG := wg5 (List.mem_of_getElem? (i := 58) rfl) rfl
theorem m5_59 : Cond.instanceMethod yX8_unfinished ∈ WG := wg5 (List.mem_of_getElem? (i := 59) rfl) rfl
theorem m5_60 : Cond.selects RX8 yX8_unfinished yX8_unfinished ∈ WG := wg5 (List.mem_of_getElem? (i := 60) rfl) rfl
theorem m5_61 : Cond.code yX8_unfinished cX8_unfinished 1 (some .int) ∈ WG := wg5 (List.mem_of_getElem? (i := 61) rfl) rfl
theorem m5_62 : Cond.methodLink RL 145 yX8_presence ∈ WG := wg5 (List.mem_of_getElem? (i := 62) rfl) rfl
theorem m5_63 : Cond.instanceMethod yX8_presence ∈ WG := wg5 (List.mem_of_getElem? (i := 63) rfl) rfl
theorem m5_64 : Cond.selects RX8 yX8_presence yX8_presence ∈ WG := wg5 (List.mem_of_getElem? (i := 64) rfl) rfl
theorem m5_65 : Cond.code yX8_presence cX8_presence 2 (some .int) ∈ WG := wg5 (List.mem_of_getElem? (i := 65) rfl) rfl
theorem m5_66 : Cond.methodLink RX8 98 yX8_look ∈ WG := wg5 (List.mem_of_getElem? (i := 66) rfl) rfl
theorem m5_68 : Cond.instanceMethod yX8_look ∈ WG := wg5 (List.mem_of_getElem? (i := 68) rfl) rfl
theorem m5_69 : Cond.code yX8_look cX8_look 8 none ∈ WG := wg5 (List.mem_of_getElem? (i := 69) rfl) rfl
theorem m5_70 : Cond.methodLink RX8 93 yX8_has ∈ WG := wg5 (List.mem_of_getElem? (i := 70) rfl) rfl
theorem m5_71 : Cond.static yX8_has ∈ WG := wg5 (List.mem_of_getElem? (i := 71) rfl) rfl
theorem m5_72 : Cond.code yX8_has cX8_has 2 (some .boolean) ∈ WG := wg5 (List.mem_of_getElem? (i := 72) rfl) rfl
theorem m5_73 : Cond.constant RX8 97 (65535) ∈ WG := wg5 (List.mem_of_getElem? (i := 73) rfl) rfl
theorem m5_74 : Cond.methodLink RL 148 yX8_on ∈ WG := wg5 (List.mem_of_getElem? (i := 74) rfl) rfl
theorem m5_75 : Cond.instanceMethod yX8_on ∈ WG := wg5 (List.mem_of_getElem? (i := 75) rfl) rfl
theorem m5_76 : Cond.selects RX8 yX8_on yX8_on ∈ WG := wg5 (List.mem_of_getElem? (i := 76) rfl) rfl
theorem m5_77 : Cond.code yX8_on cX8_on 3 (some .int) ∈ WG := wg5 (List.mem_of_getElem? (i := 77) rfl) rfl
theorem m5_78 : Cond.methodLink RL 151 yX8_features ∈ WG := wg5 (List.mem_of_getElem? (i := 78) rfl) rfl
theorem m5_79 : Cond.instanceMethod yX8_features ∈ WG := wg5 (List.mem_of_getElem? (i := 79) rfl) rfl
theorem m5_80 : Cond.selects RX8 yX8_features yX8_features ∈ WG := wg5 (List.mem_of_getElem? (i := 80) rfl) rfl
theorem m5_81 : Cond.code yX8_features cX8_features 5 (some .int) ∈ WG := wg5 (List.mem_of_getElem? (i := 81) rfl) rfl
theorem m5_82 : Cond.methodLink RL 155 yX8_dead ∈ WG := wg5 (List.mem_of_getElem? (i := 82) rfl) rfl
theorem m5_83 : Cond.instanceMethod yX8_dead ∈ WG := wg5 (List.mem_of_getElem? (i := 83) rfl) rfl
theorem m5_84 : Cond.selects RX8 yX8_dead yX8_dead ∈ WG := wg5 (List.mem_of_getElem? (i := 84) rfl) rfl
theorem m5_85 : Cond.code yX8_dead cX8_dead 3 (some .int) ∈ WG := wg5 (List.mem_of_getElem? (i := 85) rfl) rfl
theorem m5_86 : Cond.methodLink RL 158 yX8_length ∈ WG := wg5 (List.mem_of_getElem? (i := 86) rfl) rfl
theorem m5_87 : Cond.instanceMethod yX8_length ∈ WG := wg5 (List.mem_of_getElem? (i := 87) rfl) rfl
theorem m5_88 : Cond.selects RX8 yX8_length yX8_length ∈ WG := wg5 (List.mem_of_getElem? (i := 88) rfl) rfl
theorem m5_89 : Cond.code yX8_length cX8_length 2 (some .int) ∈ WG := wg5 (List.mem_of_getElem? (i := 89) rfl) rfl
theorem m5_90 : Cond.methodLink RX8 101 yX8_isConfiguration ∈ WG := wg5 (List.mem_of_getElem? (i := 90) rfl) rfl
theorem m5_91 : Cond.static yX8_isConfiguration ∈ WG := wg5 (List.mem_of_getElem? (i := 91) rfl) rfl
theorem m5_92 : Cond.code yX8_isConfiguration cX8_isConfiguration 1 (some .boolean) ∈ WG := wg5 (List.mem_of_getElem? (i := 92) rfl) rfl
theorem m5_93 : Cond.methodLink RX8 104 yX8_lengthOf ∈ WG := wg5 (List.mem_of_getElem? (i := 93) rfl) rfl
theorem m5_95 : Cond.instanceMethod yX8_lengthOf ∈ WG := wg5 (List.mem_of_getElem? (i := 95) rfl) rfl
theorem m5_96 : Cond.code yX8_lengthOf cX8_lengthOf 4 (some .int) ∈ WG := wg5 (List.mem_of_getElem? (i := 96) rfl) rfl
theorem m5_97 : Cond.methodLink RL 161 yX8_place ∈ WG := wg5 (List.mem_of_getElem? (i := 97) rfl) rfl
theorem m5_98 : Cond.instanceMethod yX8_place ∈ WG := wg5 (List.mem_of_getElem? (i := 98) rfl) rfl
theorem m5_99 : Cond.selects RX8 yX8_place yX8_place ∈ WG := wg5 (List.mem_of_getElem? (i := 99) rfl) rfl
theorem m5_100 : Cond.code yX8_place cX8_place 4 (some .int) ∈ WG := wg5 (List.mem_of_getElem? (i := 100) rfl) rfl
theorem m5_101 : Cond.methodLink RX8 107 yX8_find ∈ WG := wg5 (List.mem_of_getElem? (i := 101) rfl) rfl
theorem m5_103 : Cond.instanceMethod yX8_find ∈ WG := wg5 (List.mem_of_getElem? (i := 103) rfl) rfl
theorem m5_104 : Cond.code yX8_find cX8_find 5 (some .int) ∈ WG := wg5 (List.mem_of_getElem? (i := 104) rfl) rfl
theorem m5_105 : Cond.methodLink RL 165 yX8_variants ∈ WG := wg5 (List.mem_of_getElem? (i := 105) rfl) rfl
theorem m5_106 : Cond.instanceMethod yX8_variants ∈ WG := wg5 (List.mem_of_getElem? (i := 106) rfl) rfl
theorem m5_107 : Cond.selects RX8 yX8_variants yX8_variants ∈ WG := wg5 (List.mem_of_getElem? (i := 107) rfl) rfl
theorem m5_108 : Cond.code yX8_variants cX8_variants 5 (some .int) ∈ WG := wg5 (List.mem_of_getElem? (i := 108) rfl) rfl
theorem m5_109 : Cond.methodLink RX8 111 yX8_areSame ∈ WG := wg5 (List.mem_of_getElem? (i := 109) rfl) rfl
theorem m5_111 : Cond.instanceMethod yX8_areSame ∈ WG := wg5 (List.mem_of_getElem? (i := 111) rfl) rfl
theorem m5_112 : Cond.code yX8_areSame cX8_areSame 6 (some .boolean) ∈ WG := wg5 (List.mem_of_getElem? (i := 112) rfl) rfl
theorem m5_113 : Cond.methodLink RL 168 yX8_error ∈ WG := wg5 (List.mem_of_getElem? (i := 113) rfl) rfl
theorem m5_114 : Cond.instanceMethod yX8_error ∈ WG := wg5 (List.mem_of_getElem? (i := 114) rfl) rfl
theorem m5_115 : Cond.selects RX8 yX8_error yX8_error ∈ WG := wg5 (List.mem_of_getElem? (i := 115) rfl) rfl
theorem m5_116 : Cond.code yX8_error cX8_error 2 (some .int) ∈ WG := wg5 (List.mem_of_getElem? (i := 116) rfl) rfl
theorem m5_117 : Cond.methodLink RX8 142 yX8_isWhole ∈ WG := wg5 (List.mem_of_getElem? (i := 117) rfl) rfl
theorem m5_119 : Cond.instanceMethod yX8_isWhole ∈ WG := wg5 (List.mem_of_getElem? (i := 119) rfl) rfl
theorem m5_120 : Cond.code yX8_isWhole cX8_isWhole 1 (some .boolean) ∈ WG := wg5 (List.mem_of_getElem? (i := 120) rfl) rfl
theorem m5_121 : Cond.methodLink RX8 146 yX8_read ∈ WG := wg5 (List.mem_of_getElem? (i := 121) rfl) rfl
theorem m5_123 : Cond.instanceMethod yX8_read ∈ WG := wg5 (List.mem_of_getElem? (i := 123) rfl) rfl
theorem m5_124 : Cond.code yX8_read cX8_read 5 none ∈ WG := wg5 (List.mem_of_getElem? (i := 124) rfl) rfl
theorem m5_125 : Cond.methodLink RX8 120 yX8_push ∈ WG := wg5 (List.mem_of_getElem? (i := 125) rfl) rfl
theorem m5_127 : Cond.instanceMethod yX8_push ∈ WG := wg5 (List.mem_of_getElem? (i := 127) rfl) rfl
theorem m5_128 : Cond.code yX8_push cX8_push 3 none ∈ WG := wg5 (List.mem_of_getElem? (i := 128) rfl) rfl
theorem m5_129 : Cond.methodLink RX8 136 yX8_countGroups ∈ WG := wg5 (List.mem_of_getElem? (i := 129) rfl) rfl
theorem m5_131 : Cond.instanceMethod yX8_countGroups ∈ WG := wg5 (List.mem_of_getElem? (i := 131) rfl) rfl
theorem m5_132 : Cond.code yX8_countGroups cX8_countGroups 6 (some .int) ∈ WG := wg5 (List.mem_of_getElem? (i := 132) rfl) rfl
theorem m5_133 : Cond.methodLink RX8 133 yX8_areLike ∈ WG := wg5 (List.mem_of_getElem? (i := 133) rfl) rfl
theorem m5_135 : Cond.instanceMethod yX8_areLike ∈ WG := wg5 (List.mem_of_getElem? (i := 135) rfl) rfl
theorem m5_136 : Cond.code yX8_areLike cX8_areLike 5 (some .boolean) ∈ WG := wg5 (List.mem_of_getElem? (i := 136) rfl) rfl
theorem m5_137 : Cond.methodLink RX8 139 yX8_readOne ∈ WG := wg5 (List.mem_of_getElem? (i := 137) rfl) rfl
theorem m5_139 : Cond.instanceMethod yX8_readOne ∈ WG := wg5 (List.mem_of_getElem? (i := 139) rfl) rfl
theorem m5_140 : Cond.code yX8_readOne cX8_readOne 3 (some .boolean) ∈ WG := wg5 (List.mem_of_getElem? (i := 140) rfl) rfl
theorem m5_141 : Cond.methodLink RX8 130 yX8_expand ∈ WG := wg5 (List.mem_of_getElem? (i := 141) rfl) rfl
theorem m5_143 : Cond.instanceMethod yX8_expand ∈ WG := wg5 (List.mem_of_getElem? (i := 143) rfl) rfl
theorem m5_144 : Cond.code yX8_expand cX8_expand 4 (some .boolean) ∈ WG := wg5 (List.mem_of_getElem? (i := 144) rfl) rfl
theorem m5_145 : Cond.methodLink RX8 117 yX8_canBegin ∈ WG := wg5 (List.mem_of_getElem? (i := 145) rfl) rfl
theorem m5_146 : Cond.static yX8_canBegin ∈ WG := wg5 (List.mem_of_getElem? (i := 146) rfl) rfl
theorem m5_147 : Cond.code yX8_canBegin cX8_canBegin 1 (some .boolean) ∈ WG := wg5 (List.mem_of_getElem? (i := 147) rfl) rfl
theorem m5_148 : Cond.methodLink RX8 114 yX8_isName ∈ WG := wg5 (List.mem_of_getElem? (i := 148) rfl) rfl
theorem m5_149 : Cond.static yX8_isName ∈ WG := wg5 (List.mem_of_getElem? (i := 149) rfl) rfl
theorem m5_150 : Cond.code yX8_isName cX8_isName 1 (some .boolean) ∈ WG := wg5 (List.mem_of_getElem? (i := 150) rfl) rfl
theorem m5_151 : Cond.methodLink RX8 124 yX8_expandStatement ∈ WG := wg5 (List.mem_of_getElem? (i := 151) rfl) rfl
theorem m5_153 : Cond.instanceMethod yX8_expandStatement ∈ WG := wg5 (List.mem_of_getElem? (i := 153) rfl) rfl
theorem m5_154 : Cond.code yX8_expandStatement cX8_expandStatement 3 (some .boolean) ∈ WG := wg5 (List.mem_of_getElem? (i := 154) rfl) rfl
theorem m5_155 : Cond.methodLink RX8 127 yX8_expandFactor ∈ WG := wg5 (List.mem_of_getElem? (i := 155) rfl) rfl
theorem m5_157 : Cond.instanceMethod yX8_expandFactor ∈ WG := wg5 (List.mem_of_getElem? (i := 157) rfl) rfl
theorem m5_158 : Cond.code yX8_expandFactor cX8_expandFactor 4 (some .boolean) ∈ WG := wg5 (List.mem_of_getElem? (i := 158) rfl) rfl
theorem m5_159 : Cond.methodLink RL 171 yX8_wrong ∈ WG := wg5 (List.mem_of_getElem? (i := 159) rfl) rfl
theorem m5_160 : Cond.instanceMethod yX8_wrong ∈ WG := wg5 (List.mem_of_getElem? (i := 160) rfl) rfl
theorem m5_161 : Cond.selects RX8 yX8_wrong yX8_wrong ∈ WG := wg5 (List.mem_of_getElem? (i := 161) rfl) rfl
theorem m5_162 : Cond.code yX8_wrong cX8_wrong 3 (some .int) ∈ WG := wg5 (List.mem_of_getElem? (i := 162) rfl) rfl
theorem m5_163 : Cond.methodLink RL 174 yX8_firstError ∈ WG := wg5 (List.mem_of_getElem? (i := 163) rfl) rfl
theorem m5_164 : Cond.instanceMethod yX8_firstError ∈ WG := wg5 (List.mem_of_getElem? (i := 164) rfl) rfl
theorem m5_165 : Cond.selects RX8 yX8_firstError yX8_firstError ∈ WG := wg5 (List.mem_of_getElem? (i := 165) rfl) rfl
theorem m5_166 : Cond.code yX8_firstError cX8_firstError 3 (some .int) ∈ WG := wg5 (List.mem_of_getElem? (i := 166) rfl) rfl
theorem m5_167 : Cond.methodLink RL 177 yX8_groups ∈ WG := wg5 (List.mem_of_getElem? (i := 167) rfl) rfl
theorem m5_168 : Cond.instanceMethod yX8_groups ∈ WG := wg5 (List.mem_of_getElem? (i := 168) rfl) rfl
theorem m5_169 : Cond.selects RX8 yX8_groups yX8_groups ∈ WG := wg5 (List.mem_of_getElem? (i := 169) rfl) rfl
theorem m5_170 : Cond.code yX8_groups cX8_groups 2 (some .int) ∈ WG := wg5 (List.mem_of_getElem? (i := 170) rfl) rfl
theorem m5_171 : Cond.methodLink RL 180 yX8_work ∈ WG := wg5 (List.mem_of_getElem? (i := 171) rfl) rfl
theorem m5_172 : Cond.instanceMethod yX8_work ∈ WG := wg5 (List.mem_of_getElem? (i := 172) rfl) rfl
theorem m5_173 : Cond.selects RX8 yX8_work yX8_work ∈ WG := wg5 (List.mem_of_getElem? (i := 173) rfl) rfl
theorem m5_174 : Cond.code yX8_work cX8_work 1 (some .int) ∈ WG := wg5 (List.mem_of_getElem? (i := 174) rfl) rfl
theorem m5_175 : Cond.methodLink RX8 149 yX8_sumOfGroups ∈ WG := wg5 (List.mem_of_getElem? (i := 175) rfl) rfl
theorem m5_177 : Cond.instanceMethod yX8_sumOfGroups ∈ WG := wg5 (List.mem_of_getElem? (i := 177) rfl) rfl
theorem m5_178 : Cond.code yX8_sumOfGroups cX8_sumOfGroups 3 (some .int) ∈ WG := wg5 (List.mem_of_getElem? (i := 178) rfl) rfl
theorem m5_179 : Cond.methodLink RL 184 yX8_gain ∈ WG := wg5 (List.mem_of_getElem? (i := 179) rfl) rfl
theorem m5_180 : Cond.instanceMethod yX8_gain ∈ WG := wg5 (List.mem_of_getElem? (i := 180) rfl) rfl
theorem m5_181 : Cond.selects RX8 yX8_gain yX8_gain ∈ WG := wg5 (List.mem_of_getElem? (i := 181) rfl) rfl
theorem m5_182 : Cond.code yX8_gain cX8_gain 4 (some .double) ∈ WG := wg5 (List.mem_of_getElem? (i := 182) rfl) rfl
theorem m5_183 : Cond.methodLink RL 187 yX8_stack ∈ WG := wg5 (List.mem_of_getElem? (i := 183) rfl) rfl
theorem m5_184 : Cond.instanceMethod yX8_stack ∈ WG := wg5 (List.mem_of_getElem? (i := 184) rfl) rfl
theorem m5_185 : Cond.selects RX8 yX8_stack yX8_stack ∈ WG := wg5 (List.mem_of_getElem? (i := 185) rfl) rfl
theorem m5_186 : Cond.code yX8_stack cX8_stack 4 (some .int) ∈ WG := wg5 (List.mem_of_getElem? (i := 186) rfl) rfl
theorem m5_187 : Cond.methodLink RL 190 yX8_outputs ∈ WG := wg5 (List.mem_of_getElem? (i := 187) rfl) rfl
theorem m5_188 : Cond.instanceMethod yX8_outputs ∈ WG := wg5 (List.mem_of_getElem? (i := 188) rfl) rfl
theorem m5_189 : Cond.selects RX8 yX8_outputs yX8_outputs ∈ WG := wg5 (List.mem_of_getElem? (i := 189) rfl) rfl
theorem m5_190 : Cond.code yX8_outputs cX8_outputs 2 (some .int) ∈ WG := wg5 (List.mem_of_getElem? (i := 190) rfl) rfl
theorem m5_191 : Cond.methodLink RX8 178 yX8_asks ∈ WG := wg5 (List.mem_of_getElem? (i := 191) rfl) rfl
theorem m5_193 : Cond.instanceMethod yX8_asks ∈ WG := wg5 (List.mem_of_getElem? (i := 193) rfl) rfl
theorem m5_194 : Cond.code yX8_asks cX8_asks 2 (some .boolean) ∈ WG := wg5 (List.mem_of_getElem? (i := 194) rfl) rfl
theorem m5_195 : Cond.methodLink RX8 174 yX8_run ∈ WG := wg5 (List.mem_of_getElem? (i := 195) rfl) rfl
theorem m5_197 : Cond.instanceMethod yX8_run ∈ WG := wg5 (List.mem_of_getElem? (i := 197) rfl) rfl
theorem m5_198 : Cond.code yX8_run cX8_run 4 none ∈ WG := wg5 (List.mem_of_getElem? (i := 198) rfl) rfl
theorem m5_199 : Cond.methodLink RX8 167 yX8_statement ∈ WG := wg5 (List.mem_of_getElem? (i := 199) rfl) rfl
theorem m5_201 : Cond.instanceMethod yX8_statement ∈ WG := wg5 (List.mem_of_getElem? (i := 201) rfl) rfl
theorem m5_202 : Cond.code yX8_statement cX8_statement 4 none ∈ WG := wg5 (List.mem_of_getElem? (i := 202) rfl) rfl
theorem m5_203 : Cond.methodLink RX8 164 yX8_expression ∈ WG := wg5 (List.mem_of_getElem? (i := 203) rfl) rfl
theorem m5_205 : Cond.instanceMethod yX8_expression ∈ WG := wg5 (List.mem_of_getElem? (i := 205) rfl) rfl
theorem m5_206 : Cond.code yX8_expression cX8_expression 4 (some .int) ∈ WG := wg5 (List.mem_of_getElem? (i := 206) rfl) rfl
theorem m5_207 : Cond.methodLink RX8 155 yX8_term ∈ WG := wg5 (List.mem_of_getElem? (i := 207) rfl) rfl
theorem m5_209 : Cond.instanceMethod yX8_term ∈ WG := wg5 (List.mem_of_getElem? (i := 209) rfl) rfl
theorem m5_210 : Cond.code yX8_term cX8_term 2 (some .int) ∈ WG := wg5 (List.mem_of_getElem? (i := 210) rfl) rfl
theorem m5_211 : Cond.methodLink RX8 158 yX8_factor ∈ WG := wg5 (List.mem_of_getElem? (i := 211) rfl) rfl
theorem m5_213 : Cond.instanceMethod yX8_factor ∈ WG := wg5 (List.mem_of_getElem? (i := 213) rfl) rfl
theorem m5_214 : Cond.code yX8_factor cX8_factor 3 (some .int) ∈ WG := wg5 (List.mem_of_getElem? (i := 214) rfl) rfl
theorem m5_215 : Cond.methodLink RX8 161 yX8_passes ∈ WG := wg5 (List.mem_of_getElem? (i := 215) rfl) rfl
theorem m5_217 : Cond.instanceMethod yX8_passes ∈ WG := wg5 (List.mem_of_getElem? (i := 217) rfl) rfl
theorem m5_218 : Cond.code yX8_passes cX8_passes 2 (some .boolean) ∈ WG := wg5 (List.mem_of_getElem? (i := 218) rfl) rfl
theorem m5_219 : Cond.methodLink RL 193 yX8_output ∈ WG := wg5 (List.mem_of_getElem? (i := 219) rfl) rfl
theorem m5_220 : Cond.instanceMethod yX8_output ∈ WG := wg5 (List.mem_of_getElem? (i := 220) rfl) rfl
theorem m5_221 : Cond.selects RX8 yX8_output yX8_output ∈ WG := wg5 (List.mem_of_getElem? (i := 221) rfl) rfl
theorem m5_222 : Cond.code yX8_output cX8_output 3 (some .int) ∈ WG := wg5 (List.mem_of_getElem? (i := 222) rfl) rfl
theorem m5_223 : Cond.methodLink RL 196 yX8_variable ∈ WG := wg5 (List.mem_of_getElem? (i := 223) rfl) rfl
theorem m5_224 : Cond.instanceMethod yX8_variable ∈ WG := wg5 (List.mem_of_getElem? (i := 224) rfl) rfl
theorem m5_225 : Cond.selects RX8 yX8_variable yX8_variable ∈ WG := wg5 (List.mem_of_getElem? (i := 225) rfl) rfl
theorem m5_226 : Cond.code yX8_variable cX8_variable 3 (some .int) ∈ WG := wg5 (List.mem_of_getElem? (i := 226) rfl) rfl
theorem m5_227 : Cond.methodLink RL 199 yX8_behaviours ∈ WG := wg5 (List.mem_of_getElem? (i := 227) rfl) rfl
theorem m5_228 : Cond.instanceMethod yX8_behaviours ∈ WG := wg5 (List.mem_of_getElem? (i := 228) rfl) rfl
theorem m5_229 : Cond.selects RX8 yX8_behaviours yX8_behaviours ∈ WG := wg5 (List.mem_of_getElem? (i := 229) rfl) rfl
theorem m5_230 : Cond.code yX8_behaviours cX8_behaviours 9 (some .int) ∈ WG := wg5 (List.mem_of_getElem? (i := 230) rfl) rfl
theorem m5_231 : Cond.methodLink RL 204 yX8_digest ∈ WG := wg5 (List.mem_of_getElem? (i := 231) rfl) rfl
theorem m5_232 : Cond.instanceMethod yX8_digest ∈ WG := wg5 (List.mem_of_getElem? (i := 232) rfl) rfl
theorem m5_233 : Cond.selects RX8 yX8_digest yX8_digest ∈ WG := wg5 (List.mem_of_getElem? (i := 233) rfl) rfl
theorem m5_234 : Cond.code yX8_digest cX8_digest 5 (some .long) ∈ WG := wg5 (List.mem_of_getElem? (i := 234) rfl) rfl
theorem m5_235 : Cond.constantLong RX8 181 (4309) ∈ WG := wg5 (List.mem_of_getElem? (i := 235) rfl) rfl
theorem m5_236 : Cond.constantLong RX8 183 (31) ∈ WG := wg5 (List.mem_of_getElem? (i := 236) rfl) rfl
theorem m5_237 : Cond.constantLong RL 99 (4294967295) ∈ WG := wg5 (List.mem_of_getElem? (i := 237) rfl) rfl
theorem m5_238 : Cond.arrayClass .long ∈ WG := wg5 (List.mem_of_getElem? (i := 238) rfl) rfl
theorem m5_239 : Cond.arrayClass .double ∈ WG := wg5 (List.mem_of_getElem? (i := 239) rfl) rfl
theorem m6_14 : Cond.fieldLink RJ0 15 "java/lang/String" "coder" "B" ∈ WG := wg6 (List.mem_of_getElem? (i := 14) rfl) rfl
theorem m6_15 : Cond.fieldLink RJ0 9 "java/lang/String" "value" "[B" ∈ WG := wg6 (List.mem_of_getElem? (i := 15) rfl) rfl
theorem mp1_0 : Cond.selects RX7 yX7_refresh yX7_refresh ∈ WG := wgp1 (List.mem_of_getElem? (i := 0) rfl)
theorem mp1_1 : Cond.selects RX6 yX6_step yX6_step ∈ WG := wgp1 (List.mem_of_getElem? (i := 1) rfl)
theorem mp1_2 : Cond.selects RX6 yX6_enter yX6_enter ∈ WG := wgp1 (List.mem_of_getElem? (i := 2) rfl)
theorem mp1_3 : Cond.selects RX6 yX6_turn yX6_turn ∈ WG := wgp1 (List.mem_of_getElem? (i := 3) rfl)
theorem mp1_4 : Cond.selects RX7 yX7_collectVariants yX7_collectVariants ∈ WG := wgp1 (List.mem_of_getElem? (i := 4) rfl)
theorem mp1_5 : Cond.selects RX7 yX7_readAll yX7_readAll ∈ WG := wgp1 (List.mem_of_getElem? (i := 5) rfl)
theorem mp1_6 : Cond.selects RX1 yX1_push yX1_push ∈ WG := wgp1 (List.mem_of_getElem? (i := 6) rfl)
theorem mp1_7 : Cond.selects RX7 yX7_countGroups yX7_countGroups ∈ WG := wgp1 (List.mem_of_getElem? (i := 7) rfl)
theorem mp1_8 : Cond.selects RX7 yX7_isReadBy yX7_isReadBy ∈ WG := wgp1 (List.mem_of_getElem? (i := 8) rfl)
theorem mp1_9 : Cond.selects RX7 yX7_isFirstOfItsGroup yX7_isFirstOfItsGroup ∈ WG := wgp1 (List.mem_of_getElem? (i := 9) rfl)
theorem mp1_10 : Cond.selects RX1 yX1_replaceTop yX1_replaceTop ∈ WG := wgp1 (List.mem_of_getElem? (i := 10) rfl)
theorem mp1_11 : Cond.selects RX7 yX7_runAll yX7_runAll ∈ WG := wgp1 (List.mem_of_getElem? (i := 11) rfl)
theorem mp1_12 : Cond.selects RX3 yX3_runStatements yX3_runStatements ∈ WG := wgp1 (List.mem_of_getElem? (i := 12) rfl)
theorem mp1_13 : Cond.selects RX3 yX3_peek yX3_peek ∈ WG := wgp1 (List.mem_of_getElem? (i := 13) rfl)
theorem mp1_14 : Cond.selects RX3 yX3_runStatement yX3_runStatement ∈ WG := wgp1 (List.mem_of_getElem? (i := 14) rfl)
theorem mp1_15 : Cond.selects RX3 yX3_advance yX3_advance ∈ WG := wgp1 (List.mem_of_getElem? (i := 15) rfl)
theorem mp2_0 : Cond.selects RX3 yX3_runChoice yX3_runChoice ∈ WG := wgp2 (List.mem_of_getElem? (i := 0) rfl)
theorem mp2_1 : Cond.selects RX3 yX3_sum yX3_sum ∈ WG := wgp2 (List.mem_of_getElem? (i := 1) rfl)
theorem mp2_2 : Cond.selects RX3 yX3_product yX3_product ∈ WG := wgp2 (List.mem_of_getElem? (i := 2) rfl)
theorem mp2_3 : Cond.selects RX3 yX3_factor yX3_factor ∈ WG := wgp2 (List.mem_of_getElem? (i := 3) rfl)
theorem mp2_4 : Cond.selects RX3 yX3_operand yX3_operand ∈ WG := wgp2 (List.mem_of_getElem? (i := 4) rfl)
theorem mp2_5 : Cond.selects RX3 yX3_put yX3_put ∈ WG := wgp2 (List.mem_of_getElem? (i := 5) rfl)
theorem mp2_6 : Cond.selects RX3 yX3_assign yX3_assign ∈ WG := wgp2 (List.mem_of_getElem? (i := 6) rfl)
theorem mp2_7 : Cond.selects RX7 yX7_isFirstOfItsText yX7_isFirstOfItsText ∈ WG := wgp2 (List.mem_of_getElem? (i := 7) rfl)
theorem mp2_8 : Cond.selects "java/lang/Throwable" ⟨"java/lang/Throwable", "fillInStackTrace", "(I)Ljava/lang/Throwable;"⟩ ⟨"java/lang/Throwable", "fillInStackTrace", "(I)Ljava/lang/Throwable;"⟩ ∈ WG := wgp2 (List.mem_of_getElem? (i := 8) rfl)
theorem mp2_9 : Cond.selects RX7 yX7_append yX7_append ∈ WG := wgp2 (List.mem_of_getElem? (i := 9) rfl)
theorem mp2_10 : Cond.selects RX7 yX7_checkFeature yX7_checkFeature ∈ WG := wgp2 (List.mem_of_getElem? (i := 10) rfl)
theorem mp2_11 : Cond.selects RX7 yX7_checkRoom yX7_checkRoom ∈ WG := wgp2 (List.mem_of_getElem? (i := 11) rfl)
theorem mp2_12 : Cond.selects RX7 yX7_checkUnfinished yX7_checkUnfinished ∈ WG := wgp2 (List.mem_of_getElem? (i := 12) rfl)
theorem mp2_13 : Cond.selects RX7 yX7_checkItem yX7_checkItem ∈ WG := wgp2 (List.mem_of_getElem? (i := 13) rfl)
theorem mp2_14 : Cond.selects RX7 yX7_checkConfiguration yX7_checkConfiguration ∈ WG := wgp2 (List.mem_of_getElem? (i := 14) rfl)
theorem mp2_15 : Cond.selects RX7 yX7_checkIndex yX7_checkIndex ∈ WG := wgp2 (List.mem_of_getElem? (i := 15) rfl)
theorem mp3_0 : Cond.selects RX7 yX7_checkFinished yX7_checkFinished ∈ WG := wgp3 (List.mem_of_getElem? (i := 0) rfl)
theorem mp3_1 : Cond.selects RX7 yX7_sumOfGroups yX7_sumOfGroups ∈ WG := wgp3 (List.mem_of_getElem? (i := 1) rfl)
theorem mp3_2 : Cond.selects RX7 yX7_checkNoError yX7_checkNoError ∈ WG := wgp3 (List.mem_of_getElem? (i := 2) rfl)
theorem mp3_3 : Cond.selects RX7 yX7_isFirstOfItsBehaviour yX7_isFirstOfItsBehaviour ∈ WG := wgp3 (List.mem_of_getElem? (i := 3) rfl)
theorem mp3_4 : Cond.selects RX8 yX8_no yX8_no ∈ WG := wgp3 (List.mem_of_getElem? (i := 4) rfl)
theorem mp3_5 : Cond.selects RX8 yX8_append yX8_append ∈ WG := wgp3 (List.mem_of_getElem? (i := 5) rfl)
theorem mp3_6 : Cond.selects RX8 yX8_openCount yX8_openCount ∈ WG := wgp3 (List.mem_of_getElem? (i := 6) rfl)
theorem mp3_7 : Cond.selects RX8 yX8_whenOf yX8_whenOf ∈ WG := wgp3 (List.mem_of_getElem? (i := 7) rfl)
theorem mp3_8 : Cond.selects RX8 yX8_hasOtherwise yX8_hasOtherwise ∈ WG := wgp3 (List.mem_of_getElem? (i := 8) rfl)
theorem mp3_9 : Cond.selects RX8 yX8_isItem yX8_isItem ∈ WG := wgp3 (List.mem_of_getElem? (i := 9) rfl)
theorem mp3_10 : Cond.selects RX8 yX8_isToken yX8_isToken ∈ WG := wgp3 (List.mem_of_getElem? (i := 10) rfl)
theorem mp3_11 : Cond.selects RX8 yX8_look yX8_look ∈ WG := wgp3 (List.mem_of_getElem? (i := 11) rfl)
theorem mp3_12 : Cond.selects RX8 yX8_lengthOf yX8_lengthOf ∈ WG := wgp3 (List.mem_of_getElem? (i := 12) rfl)
theorem mp3_13 : Cond.selects RX8 yX8_find yX8_find ∈ WG := wgp3 (List.mem_of_getElem? (i := 13) rfl)
theorem mp3_14 : Cond.selects RX8 yX8_areSame yX8_areSame ∈ WG := wgp3 (List.mem_of_getElem? (i := 14) rfl)
theorem mp3_15 : Cond.selects RX8 yX8_isWhole yX8_isWhole ∈ WG := wgp3 (List.mem_of_getElem? (i := 15) rfl)
theorem mp4_0 : Cond.selects RX8 yX8_read yX8_read ∈ WG := wgp4 (List.mem_of_getElem? (i := 0) rfl)
theorem mp4_1 : Cond.selects RX8 yX8_push yX8_push ∈ WG := wgp4 (List.mem_of_getElem? (i := 1) rfl)
theorem mp4_2 : Cond.selects RX8 yX8_countGroups yX8_countGroups ∈ WG := wgp4 (List.mem_of_getElem? (i := 2) rfl)
theorem mp4_3 : Cond.selects RX8 yX8_areLike yX8_areLike ∈ WG := wgp4 (List.mem_of_getElem? (i := 3) rfl)
theorem mp4_4 : Cond.selects RX8 yX8_readOne yX8_readOne ∈ WG := wgp4 (List.mem_of_getElem? (i := 4) rfl)
theorem mp4_5 : Cond.selects RX8 yX8_expand yX8_expand ∈ WG := wgp4 (List.mem_of_getElem? (i := 5) rfl)
theorem mp4_6 : Cond.selects RX8 yX8_expandStatement yX8_expandStatement ∈ WG := wgp4 (List.mem_of_getElem? (i := 6) rfl)
theorem mp4_7 : Cond.selects RX8 yX8_expandFactor yX8_expandFactor ∈ WG := wgp4 (List.mem_of_getElem? (i := 7) rfl)
theorem mp4_8 : Cond.selects RX8 yX8_sumOfGroups yX8_sumOfGroups ∈ WG := wgp4 (List.mem_of_getElem? (i := 8) rfl)
theorem mp4_9 : Cond.selects RX8 yX8_asks yX8_asks ∈ WG := wgp4 (List.mem_of_getElem? (i := 9) rfl)
theorem mp4_10 : Cond.selects RX8 yX8_run yX8_run ∈ WG := wgp4 (List.mem_of_getElem? (i := 10) rfl)
theorem mp4_11 : Cond.selects RX8 yX8_statement yX8_statement ∈ WG := wgp4 (List.mem_of_getElem? (i := 11) rfl)
theorem mp4_12 : Cond.selects RX8 yX8_expression yX8_expression ∈ WG := wgp4 (List.mem_of_getElem? (i := 12) rfl)
theorem mp4_13 : Cond.selects RX8 yX8_term yX8_term ∈ WG := wgp4 (List.mem_of_getElem? (i := 13) rfl)
theorem mp4_14 : Cond.selects RX8 yX8_factor yX8_factor ∈ WG := wgp4 (List.mem_of_getElem? (i := 14) rfl)
theorem mp4_15 : Cond.selects RX8 yX8_passes yX8_passes ∈ WG := wgp4 (List.mem_of_getElem? (i := 15) rfl)
theorem gwV {w0 : Cond} {own C : String} {idx : Nat} {y : MethodName} {cc : ByteArray} {mL : Nat} {ret : Option FieldType} (h1 : Cond.methodLink own idx y ∈ WG) (h2 : Cond.instanceMethod y ∈ WG) (h3 : Cond.selects C y y ∈ WG) (h4 : Cond.initialized C ∈ WG) (h5 : Cond.code y cc mL ret ∈ WG) : GoodIn (w0 :: WG) (wsV own idx C y (Cond.code y cc mL ret :: WG)) := by
  intro w hw
  have key : w ∈ WG := by
    simp only [wsV, List.mem_append, List.mem_cons, List.not_mem_nil, or_false] at hw
    rcases hw with (rfl | rfl | rfl | rfl) | rfl | h
    · exact h1
    · exact h2
    · exact h3
    · exact h4
    · exact h5
    · exact h
  exact ⟨List.mem_cons_of_mem _ key, WG_good key⟩
theorem gwS {w0 : Cond} {own : String} {idx : Nat} {y : MethodName} {cc : ByteArray} {mL : Nat} {ret : Option FieldType} (h1 : Cond.methodLink own idx y ∈ WG) (h2 : Cond.static y ∈ WG) (h4 : Cond.initialized y.cls ∈ WG) (h5 : Cond.code y cc mL ret ∈ WG) : GoodIn (w0 :: WG) (va_wsS own idx y (Cond.code y cc mL ret :: WG)) := by
  intro w hw
  have key : w ∈ WG := by
    simp only [va_wsS, List.mem_append, List.mem_cons, List.not_mem_nil, or_false] at hw
    rcases hw with (rfl | rfl | rfl) | rfl | h
    · exact h1
    · exact h2
    · exact h4
    · exact h5
    · exact h
  exact ⟨List.mem_cons_of_mem _ key, WG_good key⟩
theorem in_RX1 {w0 : Cond} : ∀ w ∈ u_ws RX1 TX1 5, w ∈ w0 :: WG := by
  intro w hw
  obtain ⟨k, hk, rfl⟩ := List.mem_map.mp hw
  have hk := List.mem_range.mp hk
  refine List.mem_cons_of_mem _ ?_
  match k, hk with
  | 0, _ => exact m1_101
  | 1, _ => exact m1_103
  | 2, _ => exact m1_105
  | 3, _ => exact m1_107
  | 4, _ => exact m1_109
  | k + 5, h => exact absurd h (by omega)
theorem in_RX3 {w0 : Cond} : ∀ w ∈ u_ws RX3 TX3 6, w ∈ w0 :: WG := by
  intro w hw
  obtain ⟨k, hk, rfl⟩ := List.mem_map.mp hw
  have hk := List.mem_range.mp hk
  refine List.mem_cons_of_mem _ ?_
  match k, hk with
  | 0, _ => exact m1_127
  | 1, _ => exact m1_129
  | 2, _ => exact m1_131
  | 3, _ => exact m1_133
  | 4, _ => exact m1_135
  | 5, _ => exact m1_137
  | k + 6, h => exact absurd h (by omega)
theorem in_RX4 {w0 : Cond} : ∀ w ∈ u_ws RX4 TX4 2, w ∈ w0 :: WG := by
  intro w hw
  obtain ⟨k, hk, rfl⟩ := List.mem_map.mp hw
  have hk := List.mem_range.mp hk
  refine List.mem_cons_of_mem _ ?_
  match k, hk with
  | 0, _ => exact m1_43
  | 1, _ => exact m1_45
  | k + 2, h => exact absurd h (by omega)
theorem in_RX5 {w0 : Cond} : ∀ w ∈ u_ws RX5 TX5 5, w ∈ w0 :: WG := by
  intro w hw
  obtain ⟨k, hk, rfl⟩ := List.mem_map.mp hw
  have hk := List.mem_range.mp hk
  refine List.mem_cons_of_mem _ ?_
  match k, hk with
  | 0, _ => exact m1_150
  | 1, _ => exact m1_152
  | 2, _ => exact m1_154
  | 3, _ => exact m1_156
  | 4, _ => exact m1_158
  | k + 5, h => exact absurd h (by omega)
theorem in_RX6 {w0 : Cond} : ∀ w ∈ u_ws RX6 TX6 7, w ∈ w0 :: WG := by
  intro w hw
  obtain ⟨k, hk, rfl⟩ := List.mem_map.mp hw
  have hk := List.mem_range.mp hk
  refine List.mem_cons_of_mem _ ?_
  match k, hk with
  | 0, _ => exact m1_66
  | 1, _ => exact m1_68
  | 2, _ => exact m1_70
  | 3, _ => exact m1_72
  | 4, _ => exact m1_74
  | 5, _ => exact m1_76
  | 6, _ => exact m1_78
  | k + 7, h => exact absurd h (by omega)
theorem in_RX7 {w0 : Cond} : ∀ w ∈ u_ws RX7 TX7 5, w ∈ w0 :: WG := by
  intro w hw
  obtain ⟨k, hk, rfl⟩ := List.mem_map.mp hw
  have hk := List.mem_range.mp hk
  refine List.mem_cons_of_mem _ ?_
  match k, hk with
  | 0, _ => exact m1_166
  | 1, _ => exact m1_168
  | 2, _ => exact m1_170
  | 3, _ => exact m1_172
  | 4, _ => exact m1_174
  | k + 5, h => exact absurd h (by omega)
theorem in_RX8 {w0 : Cond} : ∀ w ∈ u_ws RX8 TX8 15, w ∈ w0 :: WG := by
  intro w hw
  obtain ⟨k, hk, rfl⟩ := List.mem_map.mp hw
  have hk := List.mem_range.mp hk
  refine List.mem_cons_of_mem _ ?_
  match k, hk with
  | 0, _ => exact m4_131
  | 1, _ => exact m4_133
  | 2, _ => exact m4_135
  | 3, _ => exact m4_137
  | 4, _ => exact m4_139
  | 5, _ => exact m4_141
  | 6, _ => exact m4_143
  | 7, _ => exact m4_145
  | 8, _ => exact m4_147
  | 9, _ => exact m4_149
  | 10, _ => exact m4_151
  | 11, _ => exact m4_153
  | 12, _ => exact m4_155
  | 13, _ => exact m4_157
  | 14, _ => exact m4_159
  | k + 15, h => exact absurd h (by omega)
end
section
theorem dX0_isDigit_0 : decode cX0_isDigit 0 = .ok (.iload_n 0, 1) := by decide +kernel
theorem dX0_isDigit_1 : decode cX0_isDigit 1 = .ok (.bipush 48, 2) := by decide +kernel
theorem dX0_isDigit_3 : decode cX0_isDigit 3 = .ok (.if_icmp .lt 13, 3) := by decide +kernel
theorem dX0_isDigit_6 : decode cX0_isDigit 6 = .ok (.iload_n 0, 1) := by decide +kernel
theorem dX0_isDigit_7 : decode cX0_isDigit 7 = .ok (.bipush 57, 2) := by decide +kernel
theorem dX0_isDigit_9 : decode cX0_isDigit 9 = .ok (.if_icmp .gt 7, 3) := by decide +kernel
theorem dX0_isDigit_12 : decode cX0_isDigit 12 = .ok (.iconst 1, 1) := by decide +kernel
theorem dX0_isDigit_13 : decode cX0_isDigit 13 = .ok (.goto 4, 3) := by decide +kernel
theorem dX0_isDigit_16 : decode cX0_isDigit 16 = .ok (.iconst 0, 1) := by decide +kernel
theorem dX0_isDigit_17 : decode cX0_isDigit 17 = .ok (.ireturn, 1) := by decide +kernel
theorem dX0_isName_0 : decode cX0_isName 0 = .ok (.iload_n 0, 1) := by decide +kernel
theorem dX0_isName_1 : decode cX0_isName 1 = .ok (.bipush 97, 2) := by decide +kernel
theorem dX0_isName_3 : decode cX0_isName 3 = .ok (.if_icmp .lt 13, 3) := by decide +kernel
theorem dX0_isName_6 : decode cX0_isName 6 = .ok (.iload_n 0, 1) := by decide +kernel
theorem dX0_isName_7 : decode cX0_isName 7 = .ok (.bipush 100, 2) := by decide +kernel
theorem dX0_isName_9 : decode cX0_isName 9 = .ok (.if_icmp .gt 7, 3) := by decide +kernel
theorem dX0_isName_12 : decode cX0_isName 12 = .ok (.iconst 1, 1) := by decide +kernel
theorem dX0_isName_13 : decode cX0_isName 13 = .ok (.goto 4, 3) := by decide +kernel
theorem dX0_isName_16 : decode cX0_isName 16 = .ok (.iconst 0, 1) := by decide +kernel
theorem dX0_isName_17 : decode cX0_isName 17 = .ok (.ireturn, 1) := by decide +kernel
theorem dX0_isToken_0 : decode cX0_isToken 0 = .ok (.iload_n 0, 1) := by decide +kernel
theorem dX0_isToken_1 : decode cX0_isToken 1 = .ok (.lookupswitch 109 #[(33, 107), (40, 107), (41, 107), (42, 107), (43, 107), (45, 107), (58, 107), (59, 107), (61, 107), (63, 107), (123, 107), (125, 107)], 107) := by decide +kernel
theorem dX0_isToken_108 : decode cX0_isToken 108 = .ok (.iconst 1, 1) := by decide +kernel
theorem dX0_isToken_109 : decode cX0_isToken 109 = .ok (.ireturn, 1) := by decide +kernel
theorem dX0_isToken_110 : decode cX0_isToken 110 = .ok (.iload_n 0, 1) := by decide +kernel
theorem dX0_isToken_111 : decode cX0_isToken 111 = .ok (.invokestatic 7, 3) := by decide +kernel
theorem dX0_isToken_114 : decode cX0_isToken 114 = .ok (.ifCond .ne 10, 3) := by decide +kernel
theorem dX0_isToken_117 : decode cX0_isToken 117 = .ok (.iload_n 0, 1) := by decide +kernel
theorem dX0_isToken_118 : decode cX0_isToken 118 = .ok (.invokestatic 13, 3) := by decide +kernel
theorem dX0_isToken_121 : decode cX0_isToken 121 = .ok (.ifCond .eq 7, 3) := by decide +kernel
theorem dX0_isToken_124 : decode cX0_isToken 124 = .ok (.iconst 1, 1) := by decide +kernel
theorem dX0_isToken_125 : decode cX0_isToken 125 = .ok (.goto 4, 3) := by decide +kernel
theorem dX0_isToken_128 : decode cX0_isToken 128 = .ok (.iconst 0, 1) := by decide +kernel
theorem dX0_isToken_129 : decode cX0_isToken 129 = .ok (.ireturn, 1) := by decide +kernel
theorem dX0_isReplaced_0 : decode cX0_isReplaced 0 = .ok (.iload_n 0, 1) := by decide +kernel
theorem dX0_isReplaced_1 : decode cX0_isReplaced 1 = .ok (.bipush 65, 2) := by decide +kernel
theorem dX0_isReplaced_3 : decode cX0_isReplaced 3 = .ok (.if_icmp .lt 13, 3) := by decide +kernel
theorem dX0_isReplaced_6 : decode cX0_isReplaced 6 = .ok (.iload_n 0, 1) := by decide +kernel
theorem dX0_isReplaced_7 : decode cX0_isReplaced 7 = .ok (.bipush 90, 2) := by decide +kernel
theorem dX0_isReplaced_9 : decode cX0_isReplaced 9 = .ok (.if_icmp .gt 7, 3) := by decide +kernel
theorem dX0_isReplaced_12 : decode cX0_isReplaced 12 = .ok (.iconst 1, 1) := by decide +kernel
theorem dX0_isReplaced_13 : decode cX0_isReplaced 13 = .ok (.goto 4, 3) := by decide +kernel
theorem dX0_isReplaced_16 : decode cX0_isReplaced 16 = .ok (.iconst 0, 1) := by decide +kernel
theorem dX0_isReplaced_17 : decode cX0_isReplaced 17 = .ok (.ireturn, 1) := by decide +kernel
theorem dX0_canBeginStatement_0 : decode cX0_canBeginStatement 0 = .ok (.iload_n 0, 1) := by decide +kernel
theorem dX0_canBeginStatement_1 : decode cX0_canBeginStatement 1 = .ok (.lookupswitch 69 #[(33, 67), (63, 67), (97, 67), (98, 67), (99, 67), (100, 67), (123, 67)], 67) := by decide +kernel
theorem dX0_canBeginStatement_68 : decode cX0_canBeginStatement 68 = .ok (.iconst 1, 1) := by decide +kernel
theorem dX0_canBeginStatement_69 : decode cX0_canBeginStatement 69 = .ok (.ireturn, 1) := by decide +kernel
theorem dX0_canBeginStatement_70 : decode cX0_canBeginStatement 70 = .ok (.iconst 0, 1) := by decide +kernel
theorem dX0_canBeginStatement_71 : decode cX0_canBeginStatement 71 = .ok (.ireturn, 1) := by decide +kernel
theorem dX0_replacement_0 : decode cX0_replacement 0 = .ok (.iload_n 0, 1) := by decide +kernel
theorem dX0_replacement_1 : decode cX0_replacement 1 = .ok (.tableswitch 235 69 85 #[153, 196, 235, 235, 235, 235, 235, 235, 235, 235, 235, 83, 156, 139, 98, 179, 182], 83) := by decide +kernel
theorem dX0_replacement_84 : decode cX0_replacement 84 = .ok (.iload_n 1, 1) := by decide +kernel
theorem dX0_replacement_85 : decode cX0_replacement 85 = .ok (.invokestatic 16, 3) := by decide +kernel
theorem dX0_replacement_88 : decode cX0_replacement 88 = .ok (.ifCond .eq 8, 3) := by decide +kernel
theorem dX0_replacement_91 : decode cX0_replacement 91 = .ok (.ldc 19, 2) := by decide +kernel
theorem dX0_replacement_93 : decode cX0_replacement 93 = .ok (.goto 5, 3) := by decide +kernel
theorem dX0_replacement_96 : decode cX0_replacement 96 = .ok (.ldc 21, 2) := by decide +kernel
theorem dX0_replacement_98 : decode cX0_replacement 98 = .ok (.areturn, 1) := by decide +kernel
theorem dX0_replacement_99 : decode cX0_replacement 99 = .ok (.iload_n 1, 1) := by decide +kernel
theorem dX0_replacement_100 : decode cX0_replacement 100 = .ok (.bipush 123, 2) := by decide +kernel
theorem dX0_replacement_102 : decode cX0_replacement 102 = .ok (.if_icmp .ne 6, 3) := by decide +kernel
theorem dX0_replacement_105 : decode cX0_replacement 105 = .ok (.ldc 23, 2) := by decide +kernel
theorem dX0_replacement_107 : decode cX0_replacement 107 = .ok (.areturn, 1) := by decide +kernel
theorem dX0_replacement_108 : decode cX0_replacement 108 = .ok (.iload_n 1, 1) := by decide +kernel
theorem dX0_replacement_109 : decode cX0_replacement 109 = .ok (.bipush 63, 2) := by decide +kernel
theorem dX0_replacement_111 : decode cX0_replacement 111 = .ok (.if_icmp .ne 6, 3) := by decide +kernel
theorem dX0_replacement_114 : decode cX0_replacement 114 = .ok (.ldc 25, 2) := by decide +kernel
theorem dX0_replacement_116 : decode cX0_replacement 116 = .ok (.areturn, 1) := by decide +kernel
theorem dX0_replacement_117 : decode cX0_replacement 117 = .ok (.iload_n 1, 1) := by decide +kernel
theorem dX0_replacement_118 : decode cX0_replacement 118 = .ok (.bipush 33, 2) := by decide +kernel
theorem dX0_replacement_120 : decode cX0_replacement 120 = .ok (.if_icmp .ne 6, 3) := by decide +kernel
theorem dX0_replacement_123 : decode cX0_replacement 123 = .ok (.ldc 27, 2) := by decide +kernel
theorem dX0_replacement_125 : decode cX0_replacement 125 = .ok (.areturn, 1) := by decide +kernel
theorem dX0_replacement_126 : decode cX0_replacement 126 = .ok (.iload_n 1, 1) := by decide +kernel
theorem dX0_replacement_127 : decode cX0_replacement 127 = .ok (.invokestatic 13, 3) := by decide +kernel
theorem dX0_replacement_130 : decode cX0_replacement 130 = .ok (.ifCond .eq 8, 3) := by decide +kernel
theorem dX0_replacement_133 : decode cX0_replacement 133 = .ok (.ldc 29, 2) := by decide +kernel
theorem dX0_replacement_135 : decode cX0_replacement 135 = .ok (.goto 4, 3) := by decide +kernel
theorem dX0_replacement_138 : decode cX0_replacement 138 = .ok (.aconst_null, 1) := by decide +kernel
theorem dX0_replacement_139 : decode cX0_replacement 139 = .ok (.areturn, 1) := by decide +kernel
theorem dX0_replacement_140 : decode cX0_replacement 140 = .ok (.iload_n 1, 1) := by decide +kernel
theorem dX0_replacement_141 : decode cX0_replacement 141 = .ok (.bipush 58, 2) := by decide +kernel
theorem dX0_replacement_143 : decode cX0_replacement 143 = .ok (.if_icmp .ne 8, 3) := by decide +kernel
theorem dX0_replacement_146 : decode cX0_replacement 146 = .ok (.ldc 31, 2) := by decide +kernel
theorem dX0_replacement_148 : decode cX0_replacement 148 = .ok (.goto 5, 3) := by decide +kernel
theorem dX0_replacement_151 : decode cX0_replacement 151 = .ok (.ldc 21, 2) := by decide +kernel
theorem dX0_replacement_153 : decode cX0_replacement 153 = .ok (.areturn, 1) := by decide +kernel
theorem dX0_replacement_154 : decode cX0_replacement 154 = .ok (.ldc 33, 2) := by decide +kernel
theorem dX0_replacement_156 : decode cX0_replacement 156 = .ok (.areturn, 1) := by decide +kernel
theorem dX0_replacement_157 : decode cX0_replacement 157 = .ok (.iload_n 1, 1) := by decide +kernel
theorem dX0_replacement_158 : decode cX0_replacement 158 = .ok (.bipush 43, 2) := by decide +kernel
theorem dX0_replacement_160 : decode cX0_replacement 160 = .ok (.if_icmp .ne 6, 3) := by decide +kernel
theorem dX0_replacement_163 : decode cX0_replacement 163 = .ok (.ldc 35, 2) := by decide +kernel
theorem dX0_replacement_165 : decode cX0_replacement 165 = .ok (.areturn, 1) := by decide +kernel
theorem dX0_replacement_166 : decode cX0_replacement 166 = .ok (.iload_n 1, 1) := by decide +kernel
theorem dX0_replacement_167 : decode cX0_replacement 167 = .ok (.bipush 45, 2) := by decide +kernel
theorem dX0_replacement_169 : decode cX0_replacement 169 = .ok (.if_icmp .ne 8, 3) := by decide +kernel
theorem dX0_replacement_172 : decode cX0_replacement 172 = .ok (.ldc 37, 2) := by decide +kernel
theorem dX0_replacement_174 : decode cX0_replacement 174 = .ok (.goto 5, 3) := by decide +kernel
theorem dX0_replacement_177 : decode cX0_replacement 177 = .ok (.ldc 21, 2) := by decide +kernel
theorem dX0_replacement_179 : decode cX0_replacement 179 = .ok (.areturn, 1) := by decide +kernel
theorem dX0_replacement_180 : decode cX0_replacement 180 = .ok (.ldc 39, 2) := by decide +kernel
theorem dX0_replacement_182 : decode cX0_replacement 182 = .ok (.areturn, 1) := by decide +kernel
theorem dX0_replacement_183 : decode cX0_replacement 183 = .ok (.iload_n 1, 1) := by decide +kernel
theorem dX0_replacement_184 : decode cX0_replacement 184 = .ok (.bipush 42, 2) := by decide +kernel
theorem dX0_replacement_186 : decode cX0_replacement 186 = .ok (.if_icmp .ne 8, 3) := by decide +kernel
theorem dX0_replacement_189 : decode cX0_replacement 189 = .ok (.ldc 41, 2) := by decide +kernel
theorem dX0_replacement_191 : decode cX0_replacement 191 = .ok (.goto 5, 3) := by decide +kernel
theorem dX0_replacement_194 : decode cX0_replacement 194 = .ok (.ldc 21, 2) := by decide +kernel
theorem dX0_replacement_196 : decode cX0_replacement 196 = .ok (.areturn, 1) := by decide +kernel
theorem dX0_replacement_197 : decode cX0_replacement 197 = .ok (.iload_n 1, 1) := by decide +kernel
theorem dX0_replacement_198 : decode cX0_replacement 198 = .ok (.bipush 40, 2) := by decide +kernel
theorem dX0_replacement_200 : decode cX0_replacement 200 = .ok (.if_icmp .ne 6, 3) := by decide +kernel
theorem dX0_replacement_203 : decode cX0_replacement 203 = .ok (.ldc 43, 2) := by decide +kernel
theorem dX0_replacement_205 : decode cX0_replacement 205 = .ok (.areturn, 1) := by decide +kernel
theorem dX0_replacement_206 : decode cX0_replacement 206 = .ok (.iload_n 1, 1) := by decide +kernel
theorem dX0_replacement_207 : decode cX0_replacement 207 = .ok (.bipush 45, 2) := by decide +kernel
theorem dX0_replacement_209 : decode cX0_replacement 209 = .ok (.if_icmp .ne 6, 3) := by decide +kernel
theorem dX0_replacement_212 : decode cX0_replacement 212 = .ok (.ldc 45, 2) := by decide +kernel
theorem dX0_replacement_214 : decode cX0_replacement 214 = .ok (.areturn, 1) := by decide +kernel
theorem dX0_replacement_215 : decode cX0_replacement 215 = .ok (.iload_n 1, 1) := by decide +kernel
theorem dX0_replacement_216 : decode cX0_replacement 216 = .ok (.invokestatic 7, 3) := by decide +kernel
theorem dX0_replacement_219 : decode cX0_replacement 219 = .ok (.ifCond .ne 10, 3) := by decide +kernel
theorem dX0_replacement_222 : decode cX0_replacement 222 = .ok (.iload_n 1, 1) := by decide +kernel
theorem dX0_replacement_223 : decode cX0_replacement 223 = .ok (.invokestatic 13, 3) := by decide +kernel
theorem dX0_replacement_226 : decode cX0_replacement 226 = .ok (.ifCond .eq 8, 3) := by decide +kernel
theorem dX0_replacement_229 : decode cX0_replacement 229 = .ok (.ldc 47, 2) := by decide +kernel
theorem dX0_replacement_231 : decode cX0_replacement 231 = .ok (.goto 4, 3) := by decide +kernel
theorem dX0_replacement_234 : decode cX0_replacement 234 = .ok (.aconst_null, 1) := by decide +kernel
theorem dX0_replacement_235 : decode cX0_replacement 235 = .ok (.areturn, 1) := by decide +kernel
theorem dX0_replacement_236 : decode cX0_replacement 236 = .ok (.aconst_null, 1) := by decide +kernel
theorem dX0_replacement_237 : decode cX0_replacement 237 = .ok (.areturn, 1) := by decide +kernel
theorem dX1_init_0 : decode cX1_init 0 = .ok (.aload_n 0, 1) := by decide +kernel
theorem dX1_init_1 : decode cX1_init 1 = .ok (.invokespecial 5, 3) := by decide +kernel
theorem dX1_init_4 : decode cX1_init 4 = .ok (.aload_n 0, 1) := by decide +kernel
theorem dX1_init_5 : decode cX1_init 5 = .ok (.sipush 320, 3) := by decide +kernel
theorem dX1_init_8 : decode cX1_init 8 = .ok (.newarray .int, 2) := by decide +kernel
theorem dX1_init_10 : decode cX1_init 10 = .ok (.putfield 11, 3) := by decide +kernel
theorem dX1_init_13 : decode cX1_init 13 = .ok (.aload_n 0, 1) := by decide +kernel
theorem dX1_init_14 : decode cX1_init 14 = .ok (.bipush 80, 2) := by decide +kernel
theorem dX1_init_16 : decode cX1_init 16 = .ok (.newarray .int, 2) := by decide +kernel
theorem dX1_init_18 : decode cX1_init 18 = .ok (.putfield 15, 3) := by decide +kernel
theorem dX1_init_21 : decode cX1_init 21 = .ok (.return_, 1) := by decide +kernel
theorem dX1_begin_0 : decode cX1_begin 0 = .ok (.aload_n 0, 1) := by decide +kernel
theorem dX1_begin_1 : decode cX1_begin 1 = .ok (.iconst 0, 1) := by decide +kernel
theorem dX1_begin_2 : decode cX1_begin 2 = .ok (.putfield 18, 3) := by decide +kernel
theorem dX1_begin_5 : decode cX1_begin 5 = .ok (.aload_n 0, 1) := by decide +kernel
theorem dX1_begin_6 : decode cX1_begin 6 = .ok (.bipush 80, 2) := by decide +kernel
theorem dX1_begin_8 : decode cX1_begin 8 = .ok (.invokevirtual 24, 3) := by decide +kernel
theorem dX1_begin_11 : decode cX1_begin 11 = .ok (.aload_n 0, 1) := by decide +kernel
theorem dX1_begin_12 : decode cX1_begin 12 = .ok (.iconst 0, 1) := by decide +kernel
theorem dX1_begin_13 : decode cX1_begin 13 = .ok (.putfield 28, 3) := by decide +kernel
theorem dX1_begin_16 : decode cX1_begin 16 = .ok (.aload_n 0, 1) := by decide +kernel
theorem dX1_begin_17 : decode cX1_begin 17 = .ok (.iconst (-1), 1) := by decide +kernel
theorem dX1_begin_18 : decode cX1_begin 18 = .ok (.putfield 31, 3) := by decide +kernel
theorem dX1_begin_21 : decode cX1_begin 21 = .ok (.return_, 1) := by decide +kernel
theorem dX1_take_0 : decode cX1_take 0 = .ok (.aload_n 0, 1) := by decide +kernel
theorem dX1_take_1 : decode cX1_take 1 = .ok (.getfield 28, 3) := by decide +kernel
theorem dX1_take_4 : decode cX1_take 4 = .ok (.bipush 80, 2) := by decide +kernel
theorem dX1_take_6 : decode cX1_take 6 = .ok (.if_icmp .ge 26, 3) := by decide +kernel
theorem dX1_take_9 : decode cX1_take 9 = .ok (.aload_n 0, 1) := by decide +kernel
theorem dX1_take_10 : decode cX1_take 10 = .ok (.getfield 15, 3) := by decide +kernel
theorem dX1_take_13 : decode cX1_take 13 = .ok (.aload_n 0, 1) := by decide +kernel
theorem dX1_take_14 : decode cX1_take 14 = .ok (.getfield 28, 3) := by decide +kernel
theorem dX1_take_17 : decode cX1_take 17 = .ok (.aload_n 0, 1) := by decide +kernel
theorem dX1_take_18 : decode cX1_take 18 = .ok (.getfield 18, 3) := by decide +kernel
theorem dX1_take_21 : decode cX1_take 21 = .ok (.iastore, 1) := by decide +kernel
theorem dX1_take_22 : decode cX1_take 22 = .ok (.aload_n 0, 1) := by decide +kernel
theorem dX1_take_23 : decode cX1_take 23 = .ok (.dup, 1) := by decide +kernel
theorem dX1_take_24 : decode cX1_take 24 = .ok (.getfield 28, 3) := by decide +kernel
theorem dX1_take_27 : decode cX1_take 27 = .ok (.iconst 1, 1) := by decide +kernel
theorem dX1_take_28 : decode cX1_take 28 = .ok (.iadd, 1) := by decide +kernel
theorem dX1_take_29 : decode cX1_take 29 = .ok (.putfield 28, 3) := by decide +kernel
theorem dX1_take_32 : decode cX1_take 32 = .ok (.aload_n 0, 1) := by decide +kernel
theorem dX1_take_33 : decode cX1_take 33 = .ok (.iload_n 1, 1) := by decide +kernel
theorem dX1_take_34 : decode cX1_take 34 = .ok (.invokevirtual 34, 3) := by decide +kernel
theorem dX1_take_37 : decode cX1_take 37 = .ok (.aload_n 0, 1) := by decide +kernel
theorem dX1_take_38 : decode cX1_take 38 = .ok (.getfield 18, 3) := by decide +kernel
theorem dX1_take_41 : decode cX1_take 41 = .ok (.ifCond .le 31, 3) := by decide +kernel
theorem dX1_take_44 : decode cX1_take 44 = .ok (.aload_n 0, 1) := by decide +kernel
theorem dX1_take_45 : decode cX1_take 45 = .ok (.getfield 11, 3) := by decide +kernel
theorem dX1_take_48 : decode cX1_take 48 = .ok (.aload_n 0, 1) := by decide +kernel
theorem dX1_take_49 : decode cX1_take 49 = .ok (.getfield 18, 3) := by decide +kernel
theorem dX1_take_52 : decode cX1_take 52 = .ok (.iconst 1, 1) := by decide +kernel
theorem dX1_take_53 : decode cX1_take 53 = .ok (.isub, 1) := by decide +kernel
theorem dX1_take_54 : decode cX1_take 54 = .ok (.iaload, 1) := by decide +kernel
theorem dX1_take_55 : decode cX1_take 55 = .ok (.iload_n 1, 1) := by decide +kernel
theorem dX1_take_56 : decode cX1_take 56 = .ok (.if_icmp .ne 16, 3) := by decide +kernel
theorem dX1_take_59 : decode cX1_take 59 = .ok (.aload_n 0, 1) := by decide +kernel
theorem dX1_take_60 : decode cX1_take 60 = .ok (.dup, 1) := by decide +kernel
theorem dX1_take_61 : decode cX1_take 61 = .ok (.getfield 18, 3) := by decide +kernel
theorem dX1_take_64 : decode cX1_take 64 = .ok (.iconst 1, 1) := by decide +kernel
theorem dX1_take_65 : decode cX1_take 65 = .ok (.isub, 1) := by decide +kernel
theorem dX1_take_66 : decode cX1_take 66 = .ok (.putfield 18, 3) := by decide +kernel
theorem dX1_take_69 : decode cX1_take 69 = .ok (.goto 8, 3) := by decide +kernel
theorem dX1_take_72 : decode cX1_take 72 = .ok (.aload_n 0, 1) := by decide +kernel
theorem dX1_take_73 : decode cX1_take 73 = .ok (.iload_n 2, 1) := by decide +kernel
theorem dX1_take_74 : decode cX1_take 74 = .ok (.putfield 31, 3) := by decide +kernel
theorem dX1_take_77 : decode cX1_take 77 = .ok (.return_, 1) := by decide +kernel
theorem dX1_end_0 : decode cX1_end 0 = .ok (.aload_n 0, 1) := by decide +kernel
theorem dX1_end_1 : decode cX1_end 1 = .ok (.getfield 31, 3) := by decide +kernel
theorem dX1_end_4 : decode cX1_end 4 = .ok (.iconst (-1), 1) := by decide +kernel
theorem dX1_end_5 : decode cX1_end 5 = .ok (.if_icmp .ne 20, 3) := by decide +kernel
theorem dX1_end_8 : decode cX1_end 8 = .ok (.aload_n 0, 1) := by decide +kernel
theorem dX1_end_9 : decode cX1_end 9 = .ok (.iconst 0, 1) := by decide +kernel
theorem dX1_end_10 : decode cX1_end 10 = .ok (.invokevirtual 34, 3) := by decide +kernel
theorem dX1_end_13 : decode cX1_end 13 = .ok (.aload_n 0, 1) := by decide +kernel
theorem dX1_end_14 : decode cX1_end 14 = .ok (.getfield 18, 3) := by decide +kernel
theorem dX1_end_17 : decode cX1_end 17 = .ok (.ifCond .eq 8, 3) := by decide +kernel
theorem dX1_end_20 : decode cX1_end 20 = .ok (.aload_n 0, 1) := by decide +kernel
theorem dX1_end_21 : decode cX1_end 21 = .ok (.iload_n 1, 1) := by decide +kernel
theorem dX1_end_22 : decode cX1_end 22 = .ok (.putfield 31, 3) := by decide +kernel
theorem dX1_end_25 : decode cX1_end 25 = .ok (.return_, 1) := by decide +kernel
theorem dX1_heightAhead_0 : decode cX1_heightAhead 0 = .ok (.iload_n 1, 1) := by decide +kernel
theorem dX1_heightAhead_1 : decode cX1_heightAhead 1 = .ok (.ifCond .lt 20, 3) := by decide +kernel
theorem dX1_heightAhead_4 : decode cX1_heightAhead 4 = .ok (.iload_n 1, 1) := by decide +kernel
theorem dX1_heightAhead_5 : decode cX1_heightAhead 5 = .ok (.aload_n 0, 1) := by decide +kernel
theorem dX1_heightAhead_6 : decode cX1_heightAhead 6 = .ok (.getfield 28, 3) := by decide +kernel
theorem dX1_heightAhead_9 : decode cX1_heightAhead 9 = .ok (.if_icmp .ge 12, 3) := by decide +kernel
theorem dX1_heightAhead_12 : decode cX1_heightAhead 12 = .ok (.aload_n 0, 1) := by decide +kernel
theorem dX1_heightAhead_13 : decode cX1_heightAhead 13 = .ok (.getfield 15, 3) := by decide +kernel
theorem dX1_heightAhead_16 : decode cX1_heightAhead 16 = .ok (.iload_n 1, 1) := by decide +kernel
theorem dX1_heightAhead_17 : decode cX1_heightAhead 17 = .ok (.iaload, 1) := by decide +kernel
theorem dX1_heightAhead_18 : decode cX1_heightAhead 18 = .ok (.goto 4, 3) := by decide +kernel
theorem dX1_heightAhead_21 : decode cX1_heightAhead 21 = .ok (.iconst (-1), 1) := by decide +kernel
theorem dX1_heightAhead_22 : decode cX1_heightAhead 22 = .ok (.ireturn, 1) := by decide +kernel
theorem dX1_hasSameStack_0 : decode cX1_hasSameStack 0 = .ok (.aload_n 0, 1) := by decide +kernel
theorem dX1_hasSameStack_1 : decode cX1_hasSameStack 1 = .ok (.getfield 18, 3) := by decide +kernel
theorem dX1_hasSameStack_4 : decode cX1_hasSameStack 4 = .ok (.aload_n 1, 1) := by decide +kernel
theorem dX1_hasSameStack_5 : decode cX1_hasSameStack 5 = .ok (.getfield 18, 3) := by decide +kernel
theorem dX1_hasSameStack_8 : decode cX1_hasSameStack 8 = .ok (.if_icmp .ne 25, 3) := by decide +kernel
theorem dX1_hasSameStack_11 : decode cX1_hasSameStack 11 = .ok (.aload_n 0, 1) := by decide +kernel
theorem dX1_hasSameStack_12 : decode cX1_hasSameStack 12 = .ok (.getfield 11, 3) := by decide +kernel
theorem dX1_hasSameStack_15 : decode cX1_hasSameStack 15 = .ok (.aload_n 1, 1) := by decide +kernel
theorem dX1_hasSameStack_16 : decode cX1_hasSameStack 16 = .ok (.getfield 11, 3) := by decide +kernel
theorem dX1_hasSameStack_19 : decode cX1_hasSameStack 19 = .ok (.aload_n 0, 1) := by decide +kernel
theorem dX1_hasSameStack_20 : decode cX1_hasSameStack 20 = .ok (.getfield 18, 3) := by decide +kernel
theorem dX1_hasSameStack_23 : decode cX1_hasSameStack 23 = .ok (.invokestatic 37, 3) := by decide +kernel
theorem dX1_hasSameStack_26 : decode cX1_hasSameStack 26 = .ok (.ifCond .eq 7, 3) := by decide +kernel
theorem dX1_hasSameStack_29 : decode cX1_hasSameStack 29 = .ok (.iconst 1, 1) := by decide +kernel
theorem dX1_hasSameStack_30 : decode cX1_hasSameStack 30 = .ok (.goto 4, 3) := by decide +kernel
theorem dX1_hasSameStack_33 : decode cX1_hasSameStack 33 = .ok (.iconst 0, 1) := by decide +kernel
theorem dX1_hasSameStack_34 : decode cX1_hasSameStack 34 = .ok (.ireturn, 1) := by decide +kernel
theorem dX1_replaceTop_0 : decode cX1_replaceTop 0 = .ok (.iconst 0, 1) := by decide +kernel
theorem dX1_replaceTop_1 : decode cX1_replaceTop 1 = .ok (.istore_n 2, 1) := by decide +kernel
theorem dX1_replaceTop_2 : decode cX1_replaceTop 2 = .ok (.iload_n 2, 1) := by decide +kernel
theorem dX1_replaceTop_3 : decode cX1_replaceTop 3 = .ok (.sipush 640, 3) := by decide +kernel
theorem dX1_replaceTop_6 : decode cX1_replaceTop 6 = .ok (.if_icmp .ge 105, 3) := by decide +kernel
theorem dX1_replaceTop_9 : decode cX1_replaceTop 9 = .ok (.aload_n 0, 1) := by decide +kernel
theorem dX1_replaceTop_10 : decode cX1_replaceTop 10 = .ok (.getfield 18, 3) := by decide +kernel
theorem dX1_replaceTop_13 : decode cX1_replaceTop 13 = .ok (.ifCond .le 98, 3) := by decide +kernel
theorem dX1_replaceTop_16 : decode cX1_replaceTop 16 = .ok (.aload_n 0, 1) := by decide +kernel
theorem dX1_replaceTop_17 : decode cX1_replaceTop 17 = .ok (.getfield 11, 3) := by decide +kernel
theorem dX1_replaceTop_20 : decode cX1_replaceTop 20 = .ok (.aload_n 0, 1) := by decide +kernel
theorem dX1_replaceTop_21 : decode cX1_replaceTop 21 = .ok (.getfield 18, 3) := by decide +kernel
theorem dX1_replaceTop_24 : decode cX1_replaceTop 24 = .ok (.iconst 1, 1) := by decide +kernel
theorem dX1_replaceTop_25 : decode cX1_replaceTop 25 = .ok (.isub, 1) := by decide +kernel
theorem dX1_replaceTop_26 : decode cX1_replaceTop 26 = .ok (.iaload, 1) := by decide +kernel
theorem dX1_replaceTop_27 : decode cX1_replaceTop 27 = .ok (.istore_n 3, 1) := by decide +kernel
theorem dX1_replaceTop_28 : decode cX1_replaceTop 28 = .ok (.iload_n 3, 1) := by decide +kernel
theorem dX1_replaceTop_29 : decode cX1_replaceTop 29 = .ok (.invokestatic 43, 3) := by decide +kernel
theorem dX1_replaceTop_32 : decode cX1_replaceTop 32 = .ok (.ifCond .ne 4, 3) := by decide +kernel
theorem dX1_replaceTop_35 : decode cX1_replaceTop 35 = .ok (.return_, 1) := by decide +kernel
theorem dX1_replaceTop_36 : decode cX1_replaceTop 36 = .ok (.iload_n 3, 1) := by decide +kernel
theorem dX1_replaceTop_37 : decode cX1_replaceTop 37 = .ok (.iload_n 1, 1) := by decide +kernel
theorem dX1_replaceTop_38 : decode cX1_replaceTop 38 = .ok (.invokestatic 47, 3) := by decide +kernel
theorem dX1_replaceTop_41 : decode cX1_replaceTop 41 = .ok (.astore 4, 2) := by decide +kernel
theorem dX1_replaceTop_43 : decode cX1_replaceTop 43 = .ok (.aload 4, 2) := by decide +kernel
theorem dX1_replaceTop_45 : decode cX1_replaceTop 45 = .ok (.ifnonnull 4, 3) := by decide +kernel
theorem dX1_replaceTop_48 : decode cX1_replaceTop 48 = .ok (.return_, 1) := by decide +kernel
theorem dX1_replaceTop_49 : decode cX1_replaceTop 49 = .ok (.aload_n 0, 1) := by decide +kernel
theorem dX1_replaceTop_50 : decode cX1_replaceTop 50 = .ok (.dup, 1) := by decide +kernel
theorem dX1_replaceTop_51 : decode cX1_replaceTop 51 = .ok (.getfield 18, 3) := by decide +kernel
theorem dX1_replaceTop_54 : decode cX1_replaceTop 54 = .ok (.iconst 1, 1) := by decide +kernel
theorem dX1_replaceTop_55 : decode cX1_replaceTop 55 = .ok (.isub, 1) := by decide +kernel
theorem dX1_replaceTop_56 : decode cX1_replaceTop 56 = .ok (.putfield 18, 3) := by decide +kernel
theorem dX1_replaceTop_59 : decode cX1_replaceTop 59 = .ok (.aload 4, 2) := by decide +kernel
theorem dX1_replaceTop_61 : decode cX1_replaceTop 61 = .ok (.invokevirtual 51, 3) := by decide +kernel
theorem dX1_replaceTop_64 : decode cX1_replaceTop 64 = .ok (.iconst 1, 1) := by decide +kernel
theorem dX1_replaceTop_65 : decode cX1_replaceTop 65 = .ok (.isub, 1) := by decide +kernel
theorem dX1_replaceTop_66 : decode cX1_replaceTop 66 = .ok (.istore 5, 2) := by decide +kernel
theorem dX1_replaceTop_68 : decode cX1_replaceTop 68 = .ok (.iload 5, 2) := by decide +kernel
theorem dX1_replaceTop_70 : decode cX1_replaceTop 70 = .ok (.ifCond .lt 35, 3) := by decide +kernel
theorem dX1_replaceTop_73 : decode cX1_replaceTop 73 = .ok (.aload 4, 2) := by decide +kernel
theorem dX1_replaceTop_75 : decode cX1_replaceTop 75 = .ok (.iload 5, 2) := by decide +kernel
theorem dX1_replaceTop_77 : decode cX1_replaceTop 77 = .ok (.invokevirtual 57, 3) := by decide +kernel
theorem dX1_replaceTop_80 : decode cX1_replaceTop 80 = .ok (.istore 6, 2) := by decide +kernel
theorem dX1_replaceTop_82 : decode cX1_replaceTop 82 = .ok (.aload_n 0, 1) := by decide +kernel
theorem dX1_replaceTop_83 : decode cX1_replaceTop 83 = .ok (.iload 6, 2) := by decide +kernel
theorem dX1_replaceTop_85 : decode cX1_replaceTop 85 = .ok (.bipush 35, 2) := by decide +kernel
theorem dX1_replaceTop_87 : decode cX1_replaceTop 87 = .ok (.if_icmp .ne 7, 3) := by decide +kernel
theorem dX1_replaceTop_90 : decode cX1_replaceTop 90 = .ok (.iload_n 1, 1) := by decide +kernel
theorem dX1_replaceTop_91 : decode cX1_replaceTop 91 = .ok (.goto 5, 3) := by decide +kernel
theorem dX1_replaceTop_94 : decode cX1_replaceTop 94 = .ok (.iload 6, 2) := by decide +kernel
theorem dX1_replaceTop_96 : decode cX1_replaceTop 96 = .ok (.invokevirtual 24, 3) := by decide +kernel
theorem dX1_replaceTop_99 : decode cX1_replaceTop 99 = .ok (.iinc 5 (-1), 3) := by decide +kernel
theorem dX1_replaceTop_102 : decode cX1_replaceTop 102 = .ok (.goto (-34), 3) := by decide +kernel
theorem dX1_replaceTop_105 : decode cX1_replaceTop 105 = .ok (.iinc 2 1, 3) := by decide +kernel
theorem dX1_replaceTop_108 : decode cX1_replaceTop 108 = .ok (.goto (-106), 3) := by decide +kernel
theorem dX1_replaceTop_111 : decode cX1_replaceTop 111 = .ok (.return_, 1) := by decide +kernel
theorem dX1_push_0 : decode cX1_push 0 = .ok (.aload_n 0, 1) := by decide +kernel
theorem dX1_push_1 : decode cX1_push 1 = .ok (.getfield 18, 3) := by decide +kernel
theorem dX1_push_4 : decode cX1_push 4 = .ok (.sipush 320, 3) := by decide +kernel
theorem dX1_push_7 : decode cX1_push 7 = .ok (.if_icmp .ge 23, 3) := by decide +kernel
theorem dX1_push_10 : decode cX1_push 10 = .ok (.aload_n 0, 1) := by decide +kernel
theorem dX1_push_11 : decode cX1_push 11 = .ok (.getfield 11, 3) := by decide +kernel
theorem dX1_push_14 : decode cX1_push 14 = .ok (.aload_n 0, 1) := by decide +kernel
theorem dX1_push_15 : decode cX1_push 15 = .ok (.getfield 18, 3) := by decide +kernel
theorem dX1_push_18 : decode cX1_push 18 = .ok (.iload_n 1, 1) := by decide +kernel
theorem dX1_push_19 : decode cX1_push 19 = .ok (.iastore, 1) := by decide +kernel
theorem dX1_push_20 : decode cX1_push 20 = .ok (.aload_n 0, 1) := by decide +kernel
theorem dX1_push_21 : decode cX1_push 21 = .ok (.dup, 1) := by decide +kernel
theorem dX1_push_22 : decode cX1_push 22 = .ok (.getfield 18, 3) := by decide +kernel
theorem dX1_push_25 : decode cX1_push 25 = .ok (.iconst 1, 1) := by decide +kernel
theorem dX1_push_26 : decode cX1_push 26 = .ok (.iadd, 1) := by decide +kernel
theorem dX1_push_27 : decode cX1_push 27 = .ok (.putfield 18, 3) := by decide +kernel
theorem dX1_push_30 : decode cX1_push 30 = .ok (.return_, 1) := by decide +kernel
theorem dX2_areSame_0 : decode cX2_areSame 0 = .ok (.iload_n 2, 1) := by decide +kernel
theorem dX2_areSame_1 : decode cX2_areSame 1 = .ok (.aload_n 0, 1) := by decide +kernel
theorem dX2_areSame_2 : decode cX2_areSame 2 = .ok (.arraylength, 1) := by decide +kernel
theorem dX2_areSame_3 : decode cX2_areSame 3 = .ok (.aload_n 1, 1) := by decide +kernel
theorem dX2_areSame_4 : decode cX2_areSame 4 = .ok (.arraylength, 1) := by decide +kernel
theorem dX2_areSame_5 : decode cX2_areSame 5 = .ok (.invokestatic 7, 3) := by decide +kernel
theorem dX2_areSame_8 : decode cX2_areSame 8 = .ok (.invokestatic 7, 3) := by decide +kernel
theorem dX2_areSame_11 : decode cX2_areSame 11 = .ok (.iconst 1, 1) := by decide +kernel
theorem dX2_areSame_12 : decode cX2_areSame 12 = .ok (.isub, 1) := by decide +kernel
theorem dX2_areSame_13 : decode cX2_areSame 13 = .ok (.istore_n 3, 1) := by decide +kernel
theorem dX2_areSame_14 : decode cX2_areSame 14 = .ok (.iload_n 3, 1) := by decide +kernel
theorem dX2_areSame_15 : decode cX2_areSame 15 = .ok (.ifCond .lt 20, 3) := by decide +kernel
theorem dX2_areSame_18 : decode cX2_areSame 18 = .ok (.aload_n 0, 1) := by decide +kernel
theorem dX2_areSame_19 : decode cX2_areSame 19 = .ok (.iload_n 3, 1) := by decide +kernel
theorem dX2_areSame_20 : decode cX2_areSame 20 = .ok (.iaload, 1) := by decide +kernel
theorem dX2_areSame_21 : decode cX2_areSame 21 = .ok (.aload_n 1, 1) := by decide +kernel
theorem dX2_areSame_22 : decode cX2_areSame 22 = .ok (.iload_n 3, 1) := by decide +kernel
theorem dX2_areSame_23 : decode cX2_areSame 23 = .ok (.iaload, 1) := by decide +kernel
theorem dX2_areSame_24 : decode cX2_areSame 24 = .ok (.if_icmp .eq 5, 3) := by decide +kernel
theorem dX2_areSame_27 : decode cX2_areSame 27 = .ok (.iconst 0, 1) := by decide +kernel
theorem dX2_areSame_28 : decode cX2_areSame 28 = .ok (.ireturn, 1) := by decide +kernel
theorem dX2_areSame_29 : decode cX2_areSame 29 = .ok (.iinc 3 (-1), 3) := by decide +kernel
theorem dX2_areSame_32 : decode cX2_areSame 32 = .ok (.goto (-18), 3) := by decide +kernel
theorem dX2_areSame_35 : decode cX2_areSame 35 = .ok (.iconst 1, 1) := by decide +kernel
theorem dX2_areSame_36 : decode cX2_areSame 36 = .ok (.ireturn, 1) := by decide +kernel
theorem dX3_init_0 : decode cX3_init 0 = .ok (.aload_n 0, 1) := by decide +kernel
theorem dX3_init_1 : decode cX3_init 1 = .ok (.invokespecial 3, 3) := by decide +kernel
theorem dX3_init_4 : decode cX3_init 4 = .ok (.aload_n 0, 1) := by decide +kernel
theorem dX3_init_5 : decode cX3_init 5 = .ok (.bipush 80, 2) := by decide +kernel
theorem dX3_init_7 : decode cX3_init 7 = .ok (.newarray .int, 2) := by decide +kernel
theorem dX3_init_9 : decode cX3_init 9 = .ok (.putfield 9, 3) := by decide +kernel
theorem dX3_init_12 : decode cX3_init 12 = .ok (.aload_n 0, 1) := by decide +kernel
theorem dX3_init_13 : decode cX3_init 13 = .ok (.iconst 4, 1) := by decide +kernel
theorem dX3_init_14 : decode cX3_init 14 = .ok (.newarray .int, 2) := by decide +kernel
theorem dX3_init_16 : decode cX3_init 16 = .ok (.putfield 15, 3) := by decide +kernel
theorem dX3_init_19 : decode cX3_init 19 = .ok (.aload_n 0, 1) := by decide +kernel
theorem dX3_init_20 : decode cX3_init 20 = .ok (.bipush 80, 2) := by decide +kernel
theorem dX3_init_22 : decode cX3_init 22 = .ok (.newarray .int, 2) := by decide +kernel
theorem dX3_init_24 : decode cX3_init 24 = .ok (.putfield 18, 3) := by decide +kernel
theorem dX3_init_27 : decode cX3_init 27 = .ok (.return_, 1) := by decide +kernel
theorem dX3_execute_0 : decode cX3_execute 0 = .ok (.aload_n 0, 1) := by decide +kernel
theorem dX3_execute_1 : decode cX3_execute 1 = .ok (.iload_n 2, 1) := by decide +kernel
theorem dX3_execute_2 : decode cX3_execute 2 = .ok (.aload_n 1, 1) := by decide +kernel
theorem dX3_execute_3 : decode cX3_execute 3 = .ok (.arraylength, 1) := by decide +kernel
theorem dX3_execute_4 : decode cX3_execute 4 = .ok (.bipush 80, 2) := by decide +kernel
theorem dX3_execute_6 : decode cX3_execute 6 = .ok (.invokestatic 21, 3) := by decide +kernel
theorem dX3_execute_9 : decode cX3_execute 9 = .ok (.invokestatic 21, 3) := by decide +kernel
theorem dX3_execute_12 : decode cX3_execute 12 = .ok (.putfield 27, 3) := by decide +kernel
theorem dX3_execute_15 : decode cX3_execute 15 = .ok (.iconst 0, 1) := by decide +kernel
theorem dX3_execute_16 : decode cX3_execute 16 = .ok (.istore_n 3, 1) := by decide +kernel
theorem dX3_execute_17 : decode cX3_execute 17 = .ok (.iload_n 3, 1) := by decide +kernel
theorem dX3_execute_18 : decode cX3_execute 18 = .ok (.aload_n 0, 1) := by decide +kernel
theorem dX3_execute_19 : decode cX3_execute 19 = .ok (.getfield 27, 3) := by decide +kernel
theorem dX3_execute_22 : decode cX3_execute 22 = .ok (.if_icmp .ge 18, 3) := by decide +kernel
theorem dX3_execute_25 : decode cX3_execute 25 = .ok (.aload_n 0, 1) := by decide +kernel
theorem dX3_execute_26 : decode cX3_execute 26 = .ok (.getfield 9, 3) := by decide +kernel
theorem dX3_execute_29 : decode cX3_execute 29 = .ok (.iload_n 3, 1) := by decide +kernel
theorem dX3_execute_30 : decode cX3_execute 30 = .ok (.aload_n 1, 1) := by decide +kernel
theorem dX3_execute_31 : decode cX3_execute 31 = .ok (.iload_n 3, 1) := by decide +kernel
theorem dX3_execute_32 : decode cX3_execute 32 = .ok (.iaload, 1) := by decide +kernel
theorem dX3_execute_33 : decode cX3_execute 33 = .ok (.iastore, 1) := by decide +kernel
theorem dX3_execute_34 : decode cX3_execute 34 = .ok (.iinc 3 1, 3) := by decide +kernel
theorem dX3_execute_37 : decode cX3_execute 37 = .ok (.goto (-20), 3) := by decide +kernel
theorem dX3_execute_40 : decode cX3_execute 40 = .ok (.aload_n 0, 1) := by decide +kernel
theorem dX3_execute_41 : decode cX3_execute 41 = .ok (.iconst 0, 1) := by decide +kernel
theorem dX3_execute_42 : decode cX3_execute 42 = .ok (.putfield 31, 3) := by decide +kernel
theorem dX3_execute_45 : decode cX3_execute 45 = .ok (.aload_n 0, 1) := by decide +kernel
theorem dX3_execute_46 : decode cX3_execute 46 = .ok (.iconst 0, 1) := by decide +kernel
theorem dX3_execute_47 : decode cX3_execute 47 = .ok (.putfield 34, 3) := by decide +kernel
theorem dX3_execute_50 : decode cX3_execute 50 = .ok (.iconst 0, 1) := by decide +kernel
theorem dX3_execute_51 : decode cX3_execute 51 = .ok (.istore_n 3, 1) := by decide +kernel
theorem dX3_execute_52 : decode cX3_execute 52 = .ok (.iload_n 3, 1) := by decide +kernel
theorem dX3_execute_53 : decode cX3_execute 53 = .ok (.iconst 4, 1) := by decide +kernel
theorem dX3_execute_54 : decode cX3_execute 54 = .ok (.if_icmp .ge 16, 3) := by decide +kernel
theorem dX3_execute_57 : decode cX3_execute 57 = .ok (.aload_n 0, 1) := by decide +kernel
theorem dX3_execute_58 : decode cX3_execute 58 = .ok (.getfield 15, 3) := by decide +kernel
theorem dX3_execute_61 : decode cX3_execute 61 = .ok (.iload_n 3, 1) := by decide +kernel
theorem dX3_execute_62 : decode cX3_execute 62 = .ok (.iconst 0, 1) := by decide +kernel
theorem dX3_execute_63 : decode cX3_execute 63 = .ok (.iastore, 1) := by decide +kernel
theorem dX3_execute_64 : decode cX3_execute 64 = .ok (.iinc 3 1, 3) := by decide +kernel
theorem dX3_execute_67 : decode cX3_execute 67 = .ok (.goto (-15), 3) := by decide +kernel
theorem dX3_execute_70 : decode cX3_execute 70 = .ok (.aload_n 0, 1) := by decide +kernel
theorem dX3_execute_71 : decode cX3_execute 71 = .ok (.iconst 1, 1) := by decide +kernel
theorem dX3_execute_72 : decode cX3_execute 72 = .ok (.iconst 0, 1) := by decide +kernel
theorem dX3_execute_73 : decode cX3_execute 73 = .ok (.invokevirtual 37, 3) := by decide +kernel
theorem dX3_execute_76 : decode cX3_execute 76 = .ok (.return_, 1) := by decide +kernel
theorem dX3_hasSameOutputs_0 : decode cX3_hasSameOutputs 0 = .ok (.aload_n 0, 1) := by decide +kernel
theorem dX3_hasSameOutputs_1 : decode cX3_hasSameOutputs 1 = .ok (.getfield 34, 3) := by decide +kernel
theorem dX3_hasSameOutputs_4 : decode cX3_hasSameOutputs 4 = .ok (.aload_n 1, 1) := by decide +kernel
theorem dX3_hasSameOutputs_5 : decode cX3_hasSameOutputs 5 = .ok (.getfield 34, 3) := by decide +kernel
theorem dX3_hasSameOutputs_8 : decode cX3_hasSameOutputs 8 = .ok (.if_icmp .ne 25, 3) := by decide +kernel
theorem dX3_hasSameOutputs_11 : decode cX3_hasSameOutputs 11 = .ok (.aload_n 0, 1) := by decide +kernel
theorem dX3_hasSameOutputs_12 : decode cX3_hasSameOutputs 12 = .ok (.getfield 18, 3) := by decide +kernel
theorem dX3_hasSameOutputs_15 : decode cX3_hasSameOutputs 15 = .ok (.aload_n 1, 1) := by decide +kernel
theorem dX3_hasSameOutputs_16 : decode cX3_hasSameOutputs 16 = .ok (.getfield 18, 3) := by decide +kernel
theorem dX3_hasSameOutputs_19 : decode cX3_hasSameOutputs 19 = .ok (.aload_n 0, 1) := by decide +kernel
theorem dX3_hasSameOutputs_20 : decode cX3_hasSameOutputs 20 = .ok (.getfield 34, 3) := by decide +kernel
theorem dX3_hasSameOutputs_23 : decode cX3_hasSameOutputs 23 = .ok (.invokestatic 41, 3) := by decide +kernel
theorem dX3_hasSameOutputs_26 : decode cX3_hasSameOutputs 26 = .ok (.ifCond .eq 7, 3) := by decide +kernel
theorem dX3_hasSameOutputs_29 : decode cX3_hasSameOutputs 29 = .ok (.iconst 1, 1) := by decide +kernel
theorem dX3_hasSameOutputs_30 : decode cX3_hasSameOutputs 30 = .ok (.goto 4, 3) := by decide +kernel
theorem dX3_hasSameOutputs_33 : decode cX3_hasSameOutputs 33 = .ok (.iconst 0, 1) := by decide +kernel
theorem dX3_hasSameOutputs_34 : decode cX3_hasSameOutputs 34 = .ok (.ireturn, 1) := by decide +kernel
theorem dX3_peek_0 : decode cX3_peek 0 = .ok (.aload_n 0, 1) := by decide +kernel
theorem dX3_peek_1 : decode cX3_peek 1 = .ok (.getfield 31, 3) := by decide +kernel
theorem dX3_peek_4 : decode cX3_peek 4 = .ok (.ifCond .lt 26, 3) := by decide +kernel
theorem dX3_peek_7 : decode cX3_peek 7 = .ok (.aload_n 0, 1) := by decide +kernel
theorem dX3_peek_8 : decode cX3_peek 8 = .ok (.getfield 31, 3) := by decide +kernel
theorem dX3_peek_11 : decode cX3_peek 11 = .ok (.aload_n 0, 1) := by decide +kernel
theorem dX3_peek_12 : decode cX3_peek 12 = .ok (.getfield 27, 3) := by decide +kernel
theorem dX3_peek_15 : decode cX3_peek 15 = .ok (.if_icmp .ge 15, 3) := by decide +kernel
theorem dX3_peek_18 : decode cX3_peek 18 = .ok (.aload_n 0, 1) := by decide +kernel
theorem dX3_peek_19 : decode cX3_peek 19 = .ok (.getfield 9, 3) := by decide +kernel
theorem dX3_peek_22 : decode cX3_peek 22 = .ok (.aload_n 0, 1) := by decide +kernel
theorem dX3_peek_23 : decode cX3_peek 23 = .ok (.getfield 31, 3) := by decide +kernel
theorem dX3_peek_26 : decode cX3_peek 26 = .ok (.iaload, 1) := by decide +kernel
theorem dX3_peek_27 : decode cX3_peek 27 = .ok (.goto 4, 3) := by decide +kernel
theorem dX3_peek_30 : decode cX3_peek 30 = .ok (.iconst 0, 1) := by decide +kernel
theorem dX3_peek_31 : decode cX3_peek 31 = .ok (.ireturn, 1) := by decide +kernel
theorem dX3_advance_0 : decode cX3_advance 0 = .ok (.aload_n 0, 1) := by decide +kernel
theorem dX3_advance_1 : decode cX3_advance 1 = .ok (.invokevirtual 49, 3) := by decide +kernel
theorem dX3_advance_4 : decode cX3_advance 4 = .ok (.istore_n 1, 1) := by decide +kernel
theorem dX3_advance_5 : decode cX3_advance 5 = .ok (.aload_n 0, 1) := by decide +kernel
theorem dX3_advance_6 : decode cX3_advance 6 = .ok (.getfield 31, 3) := by decide +kernel
theorem dX3_advance_9 : decode cX3_advance 9 = .ok (.aload_n 0, 1) := by decide +kernel
theorem dX3_advance_10 : decode cX3_advance 10 = .ok (.getfield 27, 3) := by decide +kernel
theorem dX3_advance_13 : decode cX3_advance 13 = .ok (.if_icmp .ge 13, 3) := by decide +kernel
theorem dX3_advance_16 : decode cX3_advance 16 = .ok (.aload_n 0, 1) := by decide +kernel
theorem dX3_advance_17 : decode cX3_advance 17 = .ok (.dup, 1) := by decide +kernel
theorem dX3_advance_18 : decode cX3_advance 18 = .ok (.getfield 31, 3) := by decide +kernel
theorem dX3_advance_21 : decode cX3_advance 21 = .ok (.iconst 1, 1) := by decide +kernel
theorem dX3_advance_22 : decode cX3_advance 22 = .ok (.iadd, 1) := by decide +kernel
theorem dX3_advance_23 : decode cX3_advance 23 = .ok (.putfield 31, 3) := by decide +kernel
theorem dX3_advance_26 : decode cX3_advance 26 = .ok (.iload_n 1, 1) := by decide +kernel
theorem dX3_advance_27 : decode cX3_advance 27 = .ok (.ireturn, 1) := by decide +kernel
theorem dX3_runStatements_0 : decode cX3_runStatements 0 = .ok (.iconst 0, 1) := by decide +kernel
theorem dX3_runStatements_1 : decode cX3_runStatements 1 = .ok (.istore_n 3, 1) := by decide +kernel
theorem dX3_runStatements_2 : decode cX3_runStatements 2 = .ok (.iload_n 3, 1) := by decide +kernel
theorem dX3_runStatements_3 : decode cX3_runStatements 3 = .ok (.bipush 80, 2) := by decide +kernel
theorem dX3_runStatements_5 : decode cX3_runStatements 5 = .ok (.if_icmp .ge 25, 3) := by decide +kernel
theorem dX3_runStatements_8 : decode cX3_runStatements 8 = .ok (.aload_n 0, 1) := by decide +kernel
theorem dX3_runStatements_9 : decode cX3_runStatements 9 = .ok (.invokevirtual 49, 3) := by decide +kernel
theorem dX3_runStatements_12 : decode cX3_runStatements 12 = .ok (.invokestatic 53, 3) := by decide +kernel
theorem dX3_runStatements_15 : decode cX3_runStatements 15 = .ok (.ifCond .eq 15, 3) := by decide +kernel
theorem dX3_runStatements_18 : decode cX3_runStatements 18 = .ok (.aload_n 0, 1) := by decide +kernel
theorem dX3_runStatements_19 : decode cX3_runStatements 19 = .ok (.iload_n 1, 1) := by decide +kernel
theorem dX3_runStatements_20 : decode cX3_runStatements 20 = .ok (.iload_n 2, 1) := by decide +kernel
theorem dX3_runStatements_21 : decode cX3_runStatements 21 = .ok (.invokevirtual 57, 3) := by decide +kernel
theorem dX3_runStatements_24 : decode cX3_runStatements 24 = .ok (.iinc 3 1, 3) := by decide +kernel
theorem dX3_runStatements_27 : decode cX3_runStatements 27 = .ok (.goto (-25), 3) := by decide +kernel
theorem dX3_runStatements_30 : decode cX3_runStatements 30 = .ok (.return_, 1) := by decide +kernel
theorem dX3_runStatement_0 : decode cX3_runStatement 0 = .ok (.iload_n 2, 1) := by decide +kernel
theorem dX3_runStatement_1 : decode cX3_runStatement 1 = .ok (.bipush 40, 2) := by decide +kernel
theorem dX3_runStatement_3 : decode cX3_runStatement 3 = .ok (.if_icmp .le 4, 3) := by decide +kernel
theorem dX3_runStatement_6 : decode cX3_runStatement 6 = .ok (.return_, 1) := by decide +kernel
theorem dX3_runStatement_7 : decode cX3_runStatement 7 = .ok (.aload_n 0, 1) := by decide +kernel
theorem dX3_runStatement_8 : decode cX3_runStatement 8 = .ok (.invokevirtual 60, 3) := by decide +kernel
theorem dX3_runStatement_11 : decode cX3_runStatement 11 = .ok (.istore_n 3, 1) := by decide +kernel
theorem dX3_runStatement_12 : decode cX3_runStatement 12 = .ok (.iload_n 3, 1) := by decide +kernel
theorem dX3_runStatement_13 : decode cX3_runStatement 13 = .ok (.bipush 123, 2) := by decide +kernel
theorem dX3_runStatement_15 : decode cX3_runStatement 15 = .ok (.if_icmp .ne 19, 3) := by decide +kernel
theorem dX3_runStatement_18 : decode cX3_runStatement 18 = .ok (.aload_n 0, 1) := by decide +kernel
theorem dX3_runStatement_19 : decode cX3_runStatement 19 = .ok (.iload_n 1, 1) := by decide +kernel
theorem dX3_runStatement_20 : decode cX3_runStatement 20 = .ok (.iload_n 2, 1) := by decide +kernel
theorem dX3_runStatement_21 : decode cX3_runStatement 21 = .ok (.iconst 1, 1) := by decide +kernel
theorem dX3_runStatement_22 : decode cX3_runStatement 22 = .ok (.iadd, 1) := by decide +kernel
theorem dX3_runStatement_23 : decode cX3_runStatement 23 = .ok (.invokevirtual 37, 3) := by decide +kernel
theorem dX3_runStatement_26 : decode cX3_runStatement 26 = .ok (.aload_n 0, 1) := by decide +kernel
theorem dX3_runStatement_27 : decode cX3_runStatement 27 = .ok (.invokevirtual 60, 3) := by decide +kernel
theorem dX3_runStatement_30 : decode cX3_runStatement 30 = .ok (.pop, 1) := by decide +kernel
theorem dX3_runStatement_31 : decode cX3_runStatement 31 = .ok (.goto 79, 3) := by decide +kernel
theorem dX3_runStatement_34 : decode cX3_runStatement 34 = .ok (.iload_n 3, 1) := by decide +kernel
theorem dX3_runStatement_35 : decode cX3_runStatement 35 = .ok (.bipush 63, 2) := by decide +kernel
theorem dX3_runStatement_37 : decode cX3_runStatement 37 = .ok (.if_icmp .ne 14, 3) := by decide +kernel
theorem dX3_runStatement_40 : decode cX3_runStatement 40 = .ok (.aload_n 0, 1) := by decide +kernel
theorem dX3_runStatement_41 : decode cX3_runStatement 41 = .ok (.iload_n 1, 1) := by decide +kernel
theorem dX3_runStatement_42 : decode cX3_runStatement 42 = .ok (.iload_n 2, 1) := by decide +kernel
theorem dX3_runStatement_43 : decode cX3_runStatement 43 = .ok (.iconst 1, 1) := by decide +kernel
theorem dX3_runStatement_44 : decode cX3_runStatement 44 = .ok (.iadd, 1) := by decide +kernel
theorem dX3_runStatement_45 : decode cX3_runStatement 45 = .ok (.invokevirtual 63, 3) := by decide +kernel
theorem dX3_runStatement_48 : decode cX3_runStatement 48 = .ok (.goto 62, 3) := by decide +kernel
theorem dX3_runStatement_51 : decode cX3_runStatement 51 = .ok (.iload_n 3, 1) := by decide +kernel
theorem dX3_runStatement_52 : decode cX3_runStatement 52 = .ok (.bipush 33, 2) := by decide +kernel
theorem dX3_runStatement_54 : decode cX3_runStatement 54 = .ok (.if_icmp .ne 28, 3) := by decide +kernel
theorem dX3_runStatement_57 : decode cX3_runStatement 57 = .ok (.aload_n 0, 1) := by decide +kernel
theorem dX3_runStatement_58 : decode cX3_runStatement 58 = .ok (.iload_n 2, 1) := by decide +kernel
theorem dX3_runStatement_59 : decode cX3_runStatement 59 = .ok (.invokevirtual 66, 3) := by decide +kernel
theorem dX3_runStatement_62 : decode cX3_runStatement 62 = .ok (.istore 4, 2) := by decide +kernel
theorem dX3_runStatement_64 : decode cX3_runStatement 64 = .ok (.aload_n 0, 1) := by decide +kernel
theorem dX3_runStatement_65 : decode cX3_runStatement 65 = .ok (.invokevirtual 60, 3) := by decide +kernel
theorem dX3_runStatement_68 : decode cX3_runStatement 68 = .ok (.pop, 1) := by decide +kernel
theorem dX3_runStatement_69 : decode cX3_runStatement 69 = .ok (.iload_n 1, 1) := by decide +kernel
theorem dX3_runStatement_70 : decode cX3_runStatement 70 = .ok (.ifCond .eq 9, 3) := by decide +kernel
theorem dX3_runStatement_73 : decode cX3_runStatement 73 = .ok (.aload_n 0, 1) := by decide +kernel
theorem dX3_runStatement_74 : decode cX3_runStatement 74 = .ok (.iload 4, 2) := by decide +kernel
theorem dX3_runStatement_76 : decode cX3_runStatement 76 = .ok (.invokevirtual 70, 3) := by decide +kernel
theorem dX3_runStatement_79 : decode cX3_runStatement 79 = .ok (.goto 31, 3) := by decide +kernel
theorem dX3_runStatement_82 : decode cX3_runStatement 82 = .ok (.aload_n 0, 1) := by decide +kernel
theorem dX3_runStatement_83 : decode cX3_runStatement 83 = .ok (.invokevirtual 60, 3) := by decide +kernel
theorem dX3_runStatement_86 : decode cX3_runStatement 86 = .ok (.pop, 1) := by decide +kernel
theorem dX3_runStatement_87 : decode cX3_runStatement 87 = .ok (.aload_n 0, 1) := by decide +kernel
theorem dX3_runStatement_88 : decode cX3_runStatement 88 = .ok (.iload_n 2, 1) := by decide +kernel
theorem dX3_runStatement_89 : decode cX3_runStatement 89 = .ok (.invokevirtual 66, 3) := by decide +kernel
theorem dX3_runStatement_92 : decode cX3_runStatement 92 = .ok (.istore 4, 2) := by decide +kernel
theorem dX3_runStatement_94 : decode cX3_runStatement 94 = .ok (.aload_n 0, 1) := by decide +kernel
theorem dX3_runStatement_95 : decode cX3_runStatement 95 = .ok (.invokevirtual 60, 3) := by decide +kernel
theorem dX3_runStatement_98 : decode cX3_runStatement 98 = .ok (.pop, 1) := by decide +kernel
theorem dX3_runStatement_99 : decode cX3_runStatement 99 = .ok (.iload_n 1, 1) := by decide +kernel
theorem dX3_runStatement_100 : decode cX3_runStatement 100 = .ok (.ifCond .eq 10, 3) := by decide +kernel
theorem dX3_runStatement_103 : decode cX3_runStatement 103 = .ok (.aload_n 0, 1) := by decide +kernel
theorem dX3_runStatement_104 : decode cX3_runStatement 104 = .ok (.iload_n 3, 1) := by decide +kernel
theorem dX3_runStatement_105 : decode cX3_runStatement 105 = .ok (.iload 4, 2) := by decide +kernel
theorem dX3_runStatement_107 : decode cX3_runStatement 107 = .ok (.invokevirtual 74, 3) := by decide +kernel
theorem dX3_runStatement_110 : decode cX3_runStatement 110 = .ok (.return_, 1) := by decide +kernel
theorem dX3_runChoice_0 : decode cX3_runChoice 0 = .ok (.aload_n 0, 1) := by decide +kernel
theorem dX3_runChoice_1 : decode cX3_runChoice 1 = .ok (.iload_n 2, 1) := by decide +kernel
theorem dX3_runChoice_2 : decode cX3_runChoice 2 = .ok (.invokevirtual 66, 3) := by decide +kernel
theorem dX3_runChoice_5 : decode cX3_runChoice 5 = .ok (.ifCond .eq 7, 3) := by decide +kernel
theorem dX3_runChoice_8 : decode cX3_runChoice 8 = .ok (.iconst 1, 1) := by decide +kernel
theorem dX3_runChoice_9 : decode cX3_runChoice 9 = .ok (.goto 4, 3) := by decide +kernel
theorem dX3_runChoice_12 : decode cX3_runChoice 12 = .ok (.iconst 0, 1) := by decide +kernel
theorem dX3_runChoice_13 : decode cX3_runChoice 13 = .ok (.istore_n 3, 1) := by decide +kernel
theorem dX3_runChoice_14 : decode cX3_runChoice 14 = .ok (.aload_n 0, 1) := by decide +kernel
theorem dX3_runChoice_15 : decode cX3_runChoice 15 = .ok (.iload_n 1, 1) := by decide +kernel
theorem dX3_runChoice_16 : decode cX3_runChoice 16 = .ok (.ifCond .eq 11, 3) := by decide +kernel
theorem dX3_runChoice_19 : decode cX3_runChoice 19 = .ok (.iload_n 3, 1) := by decide +kernel
theorem dX3_runChoice_20 : decode cX3_runChoice 20 = .ok (.ifCond .eq 7, 3) := by decide +kernel
theorem dX3_runChoice_23 : decode cX3_runChoice 23 = .ok (.iconst 1, 1) := by decide +kernel
theorem dX3_runChoice_24 : decode cX3_runChoice 24 = .ok (.goto 4, 3) := by decide +kernel
theorem dX3_runChoice_27 : decode cX3_runChoice 27 = .ok (.iconst 0, 1) := by decide +kernel
theorem dX3_runChoice_28 : decode cX3_runChoice 28 = .ok (.iload_n 2, 1) := by decide +kernel
theorem dX3_runChoice_29 : decode cX3_runChoice 29 = .ok (.invokevirtual 57, 3) := by decide +kernel
theorem dX3_runChoice_32 : decode cX3_runChoice 32 = .ok (.aload_n 0, 1) := by decide +kernel
theorem dX3_runChoice_33 : decode cX3_runChoice 33 = .ok (.invokevirtual 49, 3) := by decide +kernel
theorem dX3_runChoice_36 : decode cX3_runChoice 36 = .ok (.bipush 58, 2) := by decide +kernel
theorem dX3_runChoice_38 : decode cX3_runChoice 38 = .ok (.if_icmp .ne 26, 3) := by decide +kernel
theorem dX3_runChoice_41 : decode cX3_runChoice 41 = .ok (.aload_n 0, 1) := by decide +kernel
theorem dX3_runChoice_42 : decode cX3_runChoice 42 = .ok (.invokevirtual 60, 3) := by decide +kernel
theorem dX3_runChoice_45 : decode cX3_runChoice 45 = .ok (.pop, 1) := by decide +kernel
theorem dX3_runChoice_46 : decode cX3_runChoice 46 = .ok (.aload_n 0, 1) := by decide +kernel
theorem dX3_runChoice_47 : decode cX3_runChoice 47 = .ok (.iload_n 1, 1) := by decide +kernel
theorem dX3_runChoice_48 : decode cX3_runChoice 48 = .ok (.ifCond .eq 11, 3) := by decide +kernel
theorem dX3_runChoice_51 : decode cX3_runChoice 51 = .ok (.iload_n 3, 1) := by decide +kernel
theorem dX3_runChoice_52 : decode cX3_runChoice 52 = .ok (.ifCond .ne 7, 3) := by decide +kernel
theorem dX3_runChoice_55 : decode cX3_runChoice 55 = .ok (.iconst 1, 1) := by decide +kernel
theorem dX3_runChoice_56 : decode cX3_runChoice 56 = .ok (.goto 4, 3) := by decide +kernel
theorem dX3_runChoice_59 : decode cX3_runChoice 59 = .ok (.iconst 0, 1) := by decide +kernel
theorem dX3_runChoice_60 : decode cX3_runChoice 60 = .ok (.iload_n 2, 1) := by decide +kernel
theorem dX3_runChoice_61 : decode cX3_runChoice 61 = .ok (.invokevirtual 57, 3) := by decide +kernel
theorem dX3_runChoice_64 : decode cX3_runChoice 64 = .ok (.return_, 1) := by decide +kernel
theorem dX3_sum_0 : decode cX3_sum 0 = .ok (.aload_n 0, 1) := by decide +kernel
theorem dX3_sum_1 : decode cX3_sum 1 = .ok (.iload_n 1, 1) := by decide +kernel
theorem dX3_sum_2 : decode cX3_sum 2 = .ok (.invokevirtual 78, 3) := by decide +kernel
theorem dX3_sum_5 : decode cX3_sum 5 = .ok (.istore_n 2, 1) := by decide +kernel
theorem dX3_sum_6 : decode cX3_sum 6 = .ok (.iconst 0, 1) := by decide +kernel
theorem dX3_sum_7 : decode cX3_sum 7 = .ok (.istore_n 3, 1) := by decide +kernel
theorem dX3_sum_8 : decode cX3_sum 8 = .ok (.iload_n 3, 1) := by decide +kernel
theorem dX3_sum_9 : decode cX3_sum 9 = .ok (.bipush 80, 2) := by decide +kernel
theorem dX3_sum_11 : decode cX3_sum 11 = .ok (.if_icmp .ge 55, 3) := by decide +kernel
theorem dX3_sum_14 : decode cX3_sum 14 = .ok (.aload_n 0, 1) := by decide +kernel
theorem dX3_sum_15 : decode cX3_sum 15 = .ok (.invokevirtual 49, 3) := by decide +kernel
theorem dX3_sum_18 : decode cX3_sum 18 = .ok (.bipush 43, 2) := by decide +kernel
theorem dX3_sum_20 : decode cX3_sum 20 = .ok (.if_icmp .eq 12, 3) := by decide +kernel
theorem dX3_sum_23 : decode cX3_sum 23 = .ok (.aload_n 0, 1) := by decide +kernel
theorem dX3_sum_24 : decode cX3_sum 24 = .ok (.invokevirtual 49, 3) := by decide +kernel
theorem dX3_sum_27 : decode cX3_sum 27 = .ok (.bipush 45, 2) := by decide +kernel
theorem dX3_sum_29 : decode cX3_sum 29 = .ok (.if_icmp .ne 37, 3) := by decide +kernel
theorem dX3_sum_32 : decode cX3_sum 32 = .ok (.aload_n 0, 1) := by decide +kernel
theorem dX3_sum_33 : decode cX3_sum 33 = .ok (.invokevirtual 60, 3) := by decide +kernel
theorem dX3_sum_36 : decode cX3_sum 36 = .ok (.bipush 43, 2) := by decide +kernel
theorem dX3_sum_38 : decode cX3_sum 38 = .ok (.if_icmp .ne 14, 3) := by decide +kernel
theorem dX3_sum_41 : decode cX3_sum 41 = .ok (.iload_n 2, 1) := by decide +kernel
theorem dX3_sum_42 : decode cX3_sum 42 = .ok (.aload_n 0, 1) := by decide +kernel
theorem dX3_sum_43 : decode cX3_sum 43 = .ok (.iload_n 1, 1) := by decide +kernel
theorem dX3_sum_44 : decode cX3_sum 44 = .ok (.invokevirtual 78, 3) := by decide +kernel
theorem dX3_sum_47 : decode cX3_sum 47 = .ok (.iadd, 1) := by decide +kernel
theorem dX3_sum_48 : decode cX3_sum 48 = .ok (.istore_n 2, 1) := by decide +kernel
theorem dX3_sum_49 : decode cX3_sum 49 = .ok (.goto 11, 3) := by decide +kernel
theorem dX3_sum_52 : decode cX3_sum 52 = .ok (.iload_n 2, 1) := by decide +kernel
theorem dX3_sum_53 : decode cX3_sum 53 = .ok (.aload_n 0, 1) := by decide +kernel
theorem dX3_sum_54 : decode cX3_sum 54 = .ok (.iload_n 1, 1) := by decide +kernel
theorem dX3_sum_55 : decode cX3_sum 55 = .ok (.invokevirtual 78, 3) := by decide +kernel
theorem dX3_sum_58 : decode cX3_sum 58 = .ok (.isub, 1) := by decide +kernel
theorem dX3_sum_59 : decode cX3_sum 59 = .ok (.istore_n 2, 1) := by decide +kernel
theorem dX3_sum_60 : decode cX3_sum 60 = .ok (.iinc 3 1, 3) := by decide +kernel
theorem dX3_sum_63 : decode cX3_sum 63 = .ok (.goto (-55), 3) := by decide +kernel
theorem dX3_sum_66 : decode cX3_sum 66 = .ok (.iload_n 2, 1) := by decide +kernel
theorem dX3_sum_67 : decode cX3_sum 67 = .ok (.ireturn, 1) := by decide +kernel
theorem dX3_product_0 : decode cX3_product 0 = .ok (.aload_n 0, 1) := by decide +kernel
theorem dX3_product_1 : decode cX3_product 1 = .ok (.iload_n 1, 1) := by decide +kernel
theorem dX3_product_2 : decode cX3_product 2 = .ok (.invokevirtual 81, 3) := by decide +kernel
theorem dX3_product_5 : decode cX3_product 5 = .ok (.istore_n 2, 1) := by decide +kernel
theorem dX3_product_6 : decode cX3_product 6 = .ok (.iconst 0, 1) := by decide +kernel
theorem dX3_product_7 : decode cX3_product 7 = .ok (.istore_n 3, 1) := by decide +kernel
theorem dX3_product_8 : decode cX3_product 8 = .ok (.iload_n 3, 1) := by decide +kernel
theorem dX3_product_9 : decode cX3_product 9 = .ok (.bipush 80, 2) := by decide +kernel
theorem dX3_product_11 : decode cX3_product 11 = .ok (.if_icmp .ge 31, 3) := by decide +kernel
theorem dX3_product_14 : decode cX3_product 14 = .ok (.aload_n 0, 1) := by decide +kernel
theorem dX3_product_15 : decode cX3_product 15 = .ok (.invokevirtual 49, 3) := by decide +kernel
theorem dX3_product_18 : decode cX3_product 18 = .ok (.bipush 42, 2) := by decide +kernel
theorem dX3_product_20 : decode cX3_product 20 = .ok (.if_icmp .ne 22, 3) := by decide +kernel
theorem dX3_product_23 : decode cX3_product 23 = .ok (.aload_n 0, 1) := by decide +kernel
theorem dX3_product_24 : decode cX3_product 24 = .ok (.invokevirtual 60, 3) := by decide +kernel
theorem dX3_product_27 : decode cX3_product 27 = .ok (.pop, 1) := by decide +kernel
theorem dX3_product_28 : decode cX3_product 28 = .ok (.iload_n 2, 1) := by decide +kernel
theorem dX3_product_29 : decode cX3_product 29 = .ok (.aload_n 0, 1) := by decide +kernel
theorem dX3_product_30 : decode cX3_product 30 = .ok (.iload_n 1, 1) := by decide +kernel
theorem dX3_product_31 : decode cX3_product 31 = .ok (.invokevirtual 81, 3) := by decide +kernel
theorem dX3_product_34 : decode cX3_product 34 = .ok (.imul, 1) := by decide +kernel
theorem dX3_product_35 : decode cX3_product 35 = .ok (.istore_n 2, 1) := by decide +kernel
theorem dX3_product_36 : decode cX3_product 36 = .ok (.iinc 3 1, 3) := by decide +kernel
theorem dX3_product_39 : decode cX3_product 39 = .ok (.goto (-31), 3) := by decide +kernel
theorem dX3_product_42 : decode cX3_product 42 = .ok (.iload_n 2, 1) := by decide +kernel
theorem dX3_product_43 : decode cX3_product 43 = .ok (.ireturn, 1) := by decide +kernel
theorem dX3_factor_0 : decode cX3_factor 0 = .ok (.iconst 0, 1) := by decide +kernel
theorem dX3_factor_1 : decode cX3_factor 1 = .ok (.istore_n 2, 1) := by decide +kernel
theorem dX3_factor_2 : decode cX3_factor 2 = .ok (.iconst 0, 1) := by decide +kernel
theorem dX3_factor_3 : decode cX3_factor 3 = .ok (.istore_n 3, 1) := by decide +kernel
theorem dX3_factor_4 : decode cX3_factor 4 = .ok (.iload_n 3, 1) := by decide +kernel
theorem dX3_factor_5 : decode cX3_factor 5 = .ok (.bipush 80, 2) := by decide +kernel
theorem dX3_factor_7 : decode cX3_factor 7 = .ok (.if_icmp .ge 33, 3) := by decide +kernel
theorem dX3_factor_10 : decode cX3_factor 10 = .ok (.aload_n 0, 1) := by decide +kernel
theorem dX3_factor_11 : decode cX3_factor 11 = .ok (.invokevirtual 49, 3) := by decide +kernel
theorem dX3_factor_14 : decode cX3_factor 14 = .ok (.bipush 45, 2) := by decide +kernel
theorem dX3_factor_16 : decode cX3_factor 16 = .ok (.if_icmp .ne 24, 3) := by decide +kernel
theorem dX3_factor_19 : decode cX3_factor 19 = .ok (.aload_n 0, 1) := by decide +kernel
theorem dX3_factor_20 : decode cX3_factor 20 = .ok (.invokevirtual 60, 3) := by decide +kernel
theorem dX3_factor_23 : decode cX3_factor 23 = .ok (.pop, 1) := by decide +kernel
theorem dX3_factor_24 : decode cX3_factor 24 = .ok (.iload_n 2, 1) := by decide +kernel
theorem dX3_factor_25 : decode cX3_factor 25 = .ok (.ifCond .ne 7, 3) := by decide +kernel
theorem dX3_factor_28 : decode cX3_factor 28 = .ok (.iconst 1, 1) := by decide +kernel
theorem dX3_factor_29 : decode cX3_factor 29 = .ok (.goto 4, 3) := by decide +kernel
theorem dX3_factor_32 : decode cX3_factor 32 = .ok (.iconst 0, 1) := by decide +kernel
theorem dX3_factor_33 : decode cX3_factor 33 = .ok (.istore_n 2, 1) := by decide +kernel
theorem dX3_factor_34 : decode cX3_factor 34 = .ok (.iinc 3 1, 3) := by decide +kernel
theorem dX3_factor_37 : decode cX3_factor 37 = .ok (.goto (-33), 3) := by decide +kernel
theorem dX3_factor_40 : decode cX3_factor 40 = .ok (.aload_n 0, 1) := by decide +kernel
theorem dX3_factor_41 : decode cX3_factor 41 = .ok (.iload_n 1, 1) := by decide +kernel
theorem dX3_factor_42 : decode cX3_factor 42 = .ok (.invokevirtual 84, 3) := by decide +kernel
theorem dX3_factor_45 : decode cX3_factor 45 = .ok (.istore_n 3, 1) := by decide +kernel
theorem dX3_factor_46 : decode cX3_factor 46 = .ok (.iload_n 2, 1) := by decide +kernel
theorem dX3_factor_47 : decode cX3_factor 47 = .ok (.ifCond .eq 8, 3) := by decide +kernel
theorem dX3_factor_50 : decode cX3_factor 50 = .ok (.iload_n 3, 1) := by decide +kernel
theorem dX3_factor_51 : decode cX3_factor 51 = .ok (.ineg, 1) := by decide +kernel
theorem dX3_factor_52 : decode cX3_factor 52 = .ok (.goto 4, 3) := by decide +kernel
theorem dX3_factor_55 : decode cX3_factor 55 = .ok (.iload_n 3, 1) := by decide +kernel
theorem dX3_factor_56 : decode cX3_factor 56 = .ok (.ireturn, 1) := by decide +kernel
theorem dX3_operand_0 : decode cX3_operand 0 = .ok (.aload_n 0, 1) := by decide +kernel
theorem dX3_operand_1 : decode cX3_operand 1 = .ok (.invokevirtual 60, 3) := by decide +kernel
theorem dX3_operand_4 : decode cX3_operand 4 = .ok (.istore_n 2, 1) := by decide +kernel
theorem dX3_operand_5 : decode cX3_operand 5 = .ok (.iload_n 2, 1) := by decide +kernel
theorem dX3_operand_6 : decode cX3_operand 6 = .ok (.invokestatic 87, 3) := by decide +kernel
theorem dX3_operand_9 : decode cX3_operand 9 = .ok (.ifCond .eq 8, 3) := by decide +kernel
theorem dX3_operand_12 : decode cX3_operand 12 = .ok (.iload_n 2, 1) := by decide +kernel
theorem dX3_operand_13 : decode cX3_operand 13 = .ok (.bipush 48, 2) := by decide +kernel
theorem dX3_operand_15 : decode cX3_operand 15 = .ok (.isub, 1) := by decide +kernel
theorem dX3_operand_16 : decode cX3_operand 16 = .ok (.ireturn, 1) := by decide +kernel
theorem dX3_operand_17 : decode cX3_operand 17 = .ok (.iload_n 2, 1) := by decide +kernel
theorem dX3_operand_18 : decode cX3_operand 18 = .ok (.invokestatic 90, 3) := by decide +kernel
theorem dX3_operand_21 : decode cX3_operand 21 = .ok (.ifCond .eq 13, 3) := by decide +kernel
theorem dX3_operand_24 : decode cX3_operand 24 = .ok (.aload_n 0, 1) := by decide +kernel
theorem dX3_operand_25 : decode cX3_operand 25 = .ok (.getfield 15, 3) := by decide +kernel
theorem dX3_operand_28 : decode cX3_operand 28 = .ok (.iload_n 2, 1) := by decide +kernel
theorem dX3_operand_29 : decode cX3_operand 29 = .ok (.bipush 97, 2) := by decide +kernel
theorem dX3_operand_31 : decode cX3_operand 31 = .ok (.isub, 1) := by decide +kernel
theorem dX3_operand_32 : decode cX3_operand 32 = .ok (.iaload, 1) := by decide +kernel
theorem dX3_operand_33 : decode cX3_operand 33 = .ok (.ireturn, 1) := by decide +kernel
theorem dX3_operand_34 : decode cX3_operand 34 = .ok (.iload_n 1, 1) := by decide +kernel
theorem dX3_operand_35 : decode cX3_operand 35 = .ok (.bipush 40, 2) := by decide +kernel
theorem dX3_operand_37 : decode cX3_operand 37 = .ok (.if_icmp .le 5, 3) := by decide +kernel
theorem dX3_operand_40 : decode cX3_operand 40 = .ok (.iconst 0, 1) := by decide +kernel
theorem dX3_operand_41 : decode cX3_operand 41 = .ok (.ireturn, 1) := by decide +kernel
theorem dX3_operand_42 : decode cX3_operand 42 = .ok (.aload_n 0, 1) := by decide +kernel
theorem dX3_operand_43 : decode cX3_operand 43 = .ok (.iload_n 1, 1) := by decide +kernel
theorem dX3_operand_44 : decode cX3_operand 44 = .ok (.iconst 1, 1) := by decide +kernel
theorem dX3_operand_45 : decode cX3_operand 45 = .ok (.iadd, 1) := by decide +kernel
theorem dX3_operand_46 : decode cX3_operand 46 = .ok (.invokevirtual 66, 3) := by decide +kernel
theorem dX3_operand_49 : decode cX3_operand 49 = .ok (.istore_n 3, 1) := by decide +kernel
theorem dX3_operand_50 : decode cX3_operand 50 = .ok (.aload_n 0, 1) := by decide +kernel
theorem dX3_operand_51 : decode cX3_operand 51 = .ok (.invokevirtual 60, 3) := by decide +kernel
theorem dX3_operand_54 : decode cX3_operand 54 = .ok (.pop, 1) := by decide +kernel
theorem dX3_operand_55 : decode cX3_operand 55 = .ok (.iload_n 3, 1) := by decide +kernel
end
section
theorem dX3_operand_56 : decode cX3_operand 56 = .ok (.ireturn, 1) := by decide +kernel
theorem dX3_assign_0 : decode cX3_assign 0 = .ok (.iload_n 1, 1) := by decide +kernel
theorem dX3_assign_1 : decode cX3_assign 1 = .ok (.invokestatic 90, 3) := by decide +kernel
theorem dX3_assign_4 : decode cX3_assign 4 = .ok (.ifCond .eq 13, 3) := by decide +kernel
theorem dX3_assign_7 : decode cX3_assign 7 = .ok (.aload_n 0, 1) := by decide +kernel
theorem dX3_assign_8 : decode cX3_assign 8 = .ok (.getfield 15, 3) := by decide +kernel
theorem dX3_assign_11 : decode cX3_assign 11 = .ok (.iload_n 1, 1) := by decide +kernel
theorem dX3_assign_12 : decode cX3_assign 12 = .ok (.bipush 97, 2) := by decide +kernel
theorem dX3_assign_14 : decode cX3_assign 14 = .ok (.isub, 1) := by decide +kernel
theorem dX3_assign_15 : decode cX3_assign 15 = .ok (.iload_n 2, 1) := by decide +kernel
theorem dX3_assign_16 : decode cX3_assign 16 = .ok (.iastore, 1) := by decide +kernel
theorem dX3_assign_17 : decode cX3_assign 17 = .ok (.return_, 1) := by decide +kernel
theorem dX3_put_0 : decode cX3_put 0 = .ok (.aload_n 0, 1) := by decide +kernel
theorem dX3_put_1 : decode cX3_put 1 = .ok (.getfield 34, 3) := by decide +kernel
theorem dX3_put_4 : decode cX3_put 4 = .ok (.bipush 80, 2) := by decide +kernel
theorem dX3_put_6 : decode cX3_put 6 = .ok (.if_icmp .ge 23, 3) := by decide +kernel
theorem dX3_put_9 : decode cX3_put 9 = .ok (.aload_n 0, 1) := by decide +kernel
theorem dX3_put_10 : decode cX3_put 10 = .ok (.getfield 18, 3) := by decide +kernel
theorem dX3_put_13 : decode cX3_put 13 = .ok (.aload_n 0, 1) := by decide +kernel
theorem dX3_put_14 : decode cX3_put 14 = .ok (.getfield 34, 3) := by decide +kernel
theorem dX3_put_17 : decode cX3_put 17 = .ok (.iload_n 1, 1) := by decide +kernel
theorem dX3_put_18 : decode cX3_put 18 = .ok (.iastore, 1) := by decide +kernel
theorem dX3_put_19 : decode cX3_put 19 = .ok (.aload_n 0, 1) := by decide +kernel
theorem dX3_put_20 : decode cX3_put 20 = .ok (.dup, 1) := by decide +kernel
theorem dX3_put_21 : decode cX3_put 21 = .ok (.getfield 34, 3) := by decide +kernel
theorem dX3_put_24 : decode cX3_put 24 = .ok (.iconst 1, 1) := by decide +kernel
theorem dX3_put_25 : decode cX3_put 25 = .ok (.iadd, 1) := by decide +kernel
theorem dX3_put_26 : decode cX3_put 26 = .ok (.putfield 34, 3) := by decide +kernel
theorem dX3_put_29 : decode cX3_put 29 = .ok (.return_, 1) := by decide +kernel
theorem dX4_init_0 : decode cX4_init 0 = .ok (.aload_n 0, 1) := by decide +kernel
theorem dX4_init_1 : decode cX4_init 1 = .ok (.invokespecial 3, 3) := by decide +kernel
theorem dX4_init_4 : decode cX4_init 4 = .ok (.aload_n 0, 1) := by decide +kernel
theorem dX4_init_5 : decode cX4_init 5 = .ok (.bipush 80, 2) := by decide +kernel
theorem dX4_init_7 : decode cX4_init 7 = .ok (.newarray .int, 2) := by decide +kernel
theorem dX4_init_9 : decode cX4_init 9 = .ok (.putfield 9, 3) := by decide +kernel
theorem dX4_init_12 : decode cX4_init 12 = .ok (.return_, 1) := by decide +kernel
theorem dX4_codeOfWhen_0 : decode cX4_codeOfWhen 0 = .ok (.iconst 2, 1) := by decide +kernel
theorem dX4_codeOfWhen_1 : decode cX4_codeOfWhen 1 = .ok (.iload_n 0, 1) := by decide +kernel
theorem dX4_codeOfWhen_2 : decode cX4_codeOfWhen 2 = .ok (.imul, 1) := by decide +kernel
theorem dX4_codeOfWhen_3 : decode cX4_codeOfWhen 3 = .ok (.iload_n 1, 1) := by decide +kernel
theorem dX4_codeOfWhen_4 : decode cX4_codeOfWhen 4 = .ok (.ifCond .eq 7, 3) := by decide +kernel
theorem dX4_codeOfWhen_7 : decode cX4_codeOfWhen 7 = .ok (.iconst 1, 1) := by decide +kernel
theorem dX4_codeOfWhen_8 : decode cX4_codeOfWhen 8 = .ok (.goto 4, 3) := by decide +kernel
theorem dX4_codeOfWhen_11 : decode cX4_codeOfWhen 11 = .ok (.iconst 0, 1) := by decide +kernel
theorem dX4_codeOfWhen_12 : decode cX4_codeOfWhen 12 = .ok (.iadd, 1) := by decide +kernel
theorem dX4_codeOfWhen_13 : decode cX4_codeOfWhen 13 = .ok (.ireturn, 1) := by decide +kernel
theorem dX4_codeOfSet_0 : decode cX4_codeOfSet 0 = .ok (.bipush 8, 2) := by decide +kernel
theorem dX4_codeOfSet_2 : decode cX4_codeOfSet 2 = .ok (.iload_n 0, 1) := by decide +kernel
theorem dX4_codeOfSet_3 : decode cX4_codeOfSet 3 = .ok (.iload_n 1, 1) := by decide +kernel
theorem dX4_codeOfSet_4 : decode cX4_codeOfSet 4 = .ok (.invokestatic 15, 3) := by decide +kernel
theorem dX4_codeOfSet_7 : decode cX4_codeOfSet 7 = .ok (.iadd, 1) := by decide +kernel
theorem dX4_codeOfSet_8 : decode cX4_codeOfSet 8 = .ok (.ireturn, 1) := by decide +kernel
theorem dX4_isWhen_0 : decode cX4_isWhen 0 = .ok (.iload_n 0, 1) := by decide +kernel
theorem dX4_isWhen_1 : decode cX4_isWhen 1 = .ok (.ifCond .lt 13, 3) := by decide +kernel
theorem dX4_isWhen_4 : decode cX4_isWhen 4 = .ok (.iload_n 0, 1) := by decide +kernel
theorem dX4_isWhen_5 : decode cX4_isWhen 5 = .ok (.bipush 8, 2) := by decide +kernel
theorem dX4_isWhen_7 : decode cX4_isWhen 7 = .ok (.if_icmp .ge 7, 3) := by decide +kernel
theorem dX4_isWhen_10 : decode cX4_isWhen 10 = .ok (.iconst 1, 1) := by decide +kernel
theorem dX4_isWhen_11 : decode cX4_isWhen 11 = .ok (.goto 4, 3) := by decide +kernel
theorem dX4_isWhen_14 : decode cX4_isWhen 14 = .ok (.iconst 0, 1) := by decide +kernel
theorem dX4_isWhen_15 : decode cX4_isWhen 15 = .ok (.ireturn, 1) := by decide +kernel
theorem dX4_isSet_0 : decode cX4_isSet 0 = .ok (.iload_n 0, 1) := by decide +kernel
theorem dX4_isSet_1 : decode cX4_isSet 1 = .ok (.bipush 8, 2) := by decide +kernel
theorem dX4_isSet_3 : decode cX4_isSet 3 = .ok (.if_icmp .lt 13, 3) := by decide +kernel
theorem dX4_isSet_6 : decode cX4_isSet 6 = .ok (.iload_n 0, 1) := by decide +kernel
theorem dX4_isSet_7 : decode cX4_isSet 7 = .ok (.bipush 16, 2) := by decide +kernel
theorem dX4_isSet_9 : decode cX4_isSet 9 = .ok (.if_icmp .ge 7, 3) := by decide +kernel
theorem dX4_isSet_12 : decode cX4_isSet 12 = .ok (.iconst 1, 1) := by decide +kernel
theorem dX4_isSet_13 : decode cX4_isSet 13 = .ok (.goto 4, 3) := by decide +kernel
theorem dX4_isSet_16 : decode cX4_isSet 16 = .ok (.iconst 0, 1) := by decide +kernel
theorem dX4_isSet_17 : decode cX4_isSet 17 = .ok (.ireturn, 1) := by decide +kernel
theorem dX4_featureOf_0 : decode cX4_featureOf 0 = .ok (.iload_n 0, 1) := by decide +kernel
theorem dX4_featureOf_1 : decode cX4_featureOf 1 = .ok (.bipush 8, 2) := by decide +kernel
theorem dX4_featureOf_3 : decode cX4_featureOf 3 = .ok (.irem, 1) := by decide +kernel
theorem dX4_featureOf_4 : decode cX4_featureOf 4 = .ok (.iconst 2, 1) := by decide +kernel
theorem dX4_featureOf_5 : decode cX4_featureOf 5 = .ok (.idiv, 1) := by decide +kernel
theorem dX4_featureOf_6 : decode cX4_featureOf 6 = .ok (.ireturn, 1) := by decide +kernel
theorem dX4_isForOn_0 : decode cX4_isForOn 0 = .ok (.iload_n 0, 1) := by decide +kernel
theorem dX4_isForOn_1 : decode cX4_isForOn 1 = .ok (.iconst 2, 1) := by decide +kernel
theorem dX4_isForOn_2 : decode cX4_isForOn 2 = .ok (.irem, 1) := by decide +kernel
theorem dX4_isForOn_3 : decode cX4_isForOn 3 = .ok (.iconst 1, 1) := by decide +kernel
theorem dX4_isForOn_4 : decode cX4_isForOn 4 = .ok (.if_icmp .ne 7, 3) := by decide +kernel
theorem dX4_isForOn_7 : decode cX4_isForOn 7 = .ok (.iconst 1, 1) := by decide +kernel
theorem dX4_isForOn_8 : decode cX4_isForOn 8 = .ok (.goto 4, 3) := by decide +kernel
theorem dX4_isForOn_11 : decode cX4_isForOn 11 = .ok (.iconst 0, 1) := by decide +kernel
theorem dX4_isForOn_12 : decode cX4_isForOn 12 = .ok (.ireturn, 1) := by decide +kernel
theorem dX4_add_0 : decode cX4_add 0 = .ok (.aload_n 0, 1) := by decide +kernel
theorem dX4_add_1 : decode cX4_add 1 = .ok (.getfield 19, 3) := by decide +kernel
theorem dX4_add_4 : decode cX4_add 4 = .ok (.bipush 80, 2) := by decide +kernel
theorem dX4_add_6 : decode cX4_add 6 = .ok (.if_icmp .ge 23, 3) := by decide +kernel
theorem dX4_add_9 : decode cX4_add 9 = .ok (.aload_n 0, 1) := by decide +kernel
theorem dX4_add_10 : decode cX4_add 10 = .ok (.getfield 9, 3) := by decide +kernel
theorem dX4_add_13 : decode cX4_add 13 = .ok (.aload_n 0, 1) := by decide +kernel
theorem dX4_add_14 : decode cX4_add 14 = .ok (.getfield 19, 3) := by decide +kernel
theorem dX4_add_17 : decode cX4_add 17 = .ok (.iload_n 1, 1) := by decide +kernel
theorem dX4_add_18 : decode cX4_add 18 = .ok (.iastore, 1) := by decide +kernel
theorem dX4_add_19 : decode cX4_add 19 = .ok (.aload_n 0, 1) := by decide +kernel
theorem dX4_add_20 : decode cX4_add 20 = .ok (.dup, 1) := by decide +kernel
theorem dX4_add_21 : decode cX4_add 21 = .ok (.getfield 19, 3) := by decide +kernel
theorem dX4_add_24 : decode cX4_add 24 = .ok (.iconst 1, 1) := by decide +kernel
theorem dX4_add_25 : decode cX4_add 25 = .ok (.iadd, 1) := by decide +kernel
theorem dX4_add_26 : decode cX4_add 26 = .ok (.putfield 19, 3) := by decide +kernel
theorem dX4_add_29 : decode cX4_add 29 = .ok (.return_, 1) := by decide +kernel
theorem dX4_removeLast_0 : decode cX4_removeLast 0 = .ok (.aload_n 0, 1) := by decide +kernel
theorem dX4_removeLast_1 : decode cX4_removeLast 1 = .ok (.getfield 19, 3) := by decide +kernel
theorem dX4_removeLast_4 : decode cX4_removeLast 4 = .ok (.ifCond .le 13, 3) := by decide +kernel
theorem dX4_removeLast_7 : decode cX4_removeLast 7 = .ok (.aload_n 0, 1) := by decide +kernel
theorem dX4_removeLast_8 : decode cX4_removeLast 8 = .ok (.dup, 1) := by decide +kernel
theorem dX4_removeLast_9 : decode cX4_removeLast 9 = .ok (.getfield 19, 3) := by decide +kernel
theorem dX4_removeLast_12 : decode cX4_removeLast 12 = .ok (.iconst 1, 1) := by decide +kernel
theorem dX4_removeLast_13 : decode cX4_removeLast 13 = .ok (.isub, 1) := by decide +kernel
theorem dX4_removeLast_14 : decode cX4_removeLast 14 = .ok (.putfield 19, 3) := by decide +kernel
theorem dX4_removeLast_17 : decode cX4_removeLast 17 = .ok (.return_, 1) := by decide +kernel
theorem dX4_countUnfinished_0 : decode cX4_countUnfinished 0 = .ok (.iconst 0, 1) := by decide +kernel
theorem dX4_countUnfinished_1 : decode cX4_countUnfinished 1 = .ok (.istore_n 1, 1) := by decide +kernel
theorem dX4_countUnfinished_2 : decode cX4_countUnfinished 2 = .ok (.iconst 0, 1) := by decide +kernel
theorem dX4_countUnfinished_3 : decode cX4_countUnfinished 3 = .ok (.istore_n 2, 1) := by decide +kernel
theorem dX4_countUnfinished_4 : decode cX4_countUnfinished 4 = .ok (.iload_n 2, 1) := by decide +kernel
theorem dX4_countUnfinished_5 : decode cX4_countUnfinished 5 = .ok (.aload_n 0, 1) := by decide +kernel
theorem dX4_countUnfinished_6 : decode cX4_countUnfinished 6 = .ok (.getfield 19, 3) := by decide +kernel
theorem dX4_countUnfinished_9 : decode cX4_countUnfinished 9 = .ok (.if_icmp .ge 41, 3) := by decide +kernel
theorem dX4_countUnfinished_12 : decode cX4_countUnfinished 12 = .ok (.aload_n 0, 1) := by decide +kernel
theorem dX4_countUnfinished_13 : decode cX4_countUnfinished 13 = .ok (.getfield 9, 3) := by decide +kernel
theorem dX4_countUnfinished_16 : decode cX4_countUnfinished 16 = .ok (.iload_n 2, 1) := by decide +kernel
theorem dX4_countUnfinished_17 : decode cX4_countUnfinished 17 = .ok (.iaload, 1) := by decide +kernel
theorem dX4_countUnfinished_18 : decode cX4_countUnfinished 18 = .ok (.invokestatic 23, 3) := by decide +kernel
theorem dX4_countUnfinished_21 : decode cX4_countUnfinished 21 = .ok (.ifCond .eq 9, 3) := by decide +kernel
theorem dX4_countUnfinished_24 : decode cX4_countUnfinished 24 = .ok (.iinc 1 1, 3) := by decide +kernel
theorem dX4_countUnfinished_27 : decode cX4_countUnfinished 27 = .ok (.goto 17, 3) := by decide +kernel
theorem dX4_countUnfinished_30 : decode cX4_countUnfinished 30 = .ok (.aload_n 0, 1) := by decide +kernel
theorem dX4_countUnfinished_31 : decode cX4_countUnfinished 31 = .ok (.getfield 9, 3) := by decide +kernel
theorem dX4_countUnfinished_34 : decode cX4_countUnfinished 34 = .ok (.iload_n 2, 1) := by decide +kernel
theorem dX4_countUnfinished_35 : decode cX4_countUnfinished 35 = .ok (.iaload, 1) := by decide +kernel
theorem dX4_countUnfinished_36 : decode cX4_countUnfinished 36 = .ok (.bipush 17, 2) := by decide +kernel
theorem dX4_countUnfinished_38 : decode cX4_countUnfinished 38 = .ok (.if_icmp .ne 6, 3) := by decide +kernel
theorem dX4_countUnfinished_41 : decode cX4_countUnfinished 41 = .ok (.iinc 1 (-1), 3) := by decide +kernel
theorem dX4_countUnfinished_44 : decode cX4_countUnfinished 44 = .ok (.iinc 2 1, 3) := by decide +kernel
theorem dX4_countUnfinished_47 : decode cX4_countUnfinished 47 = .ok (.goto (-43), 3) := by decide +kernel
theorem dX4_countUnfinished_50 : decode cX4_countUnfinished 50 = .ok (.iload_n 1, 1) := by decide +kernel
theorem dX4_countUnfinished_51 : decode cX4_countUnfinished 51 = .ok (.ireturn, 1) := by decide +kernel
theorem dX4_lastUnfinishedHasOtherwise_0 : decode cX4_lastUnfinishedHasOtherwise 0 = .ok (.iconst 0, 1) := by decide +kernel
theorem dX4_lastUnfinishedHasOtherwise_1 : decode cX4_lastUnfinishedHasOtherwise 1 = .ok (.istore_n 1, 1) := by decide +kernel
theorem dX4_lastUnfinishedHasOtherwise_2 : decode cX4_lastUnfinishedHasOtherwise 2 = .ok (.aload_n 0, 1) := by decide +kernel
theorem dX4_lastUnfinishedHasOtherwise_3 : decode cX4_lastUnfinishedHasOtherwise 3 = .ok (.getfield 19, 3) := by decide +kernel
theorem dX4_lastUnfinishedHasOtherwise_6 : decode cX4_lastUnfinishedHasOtherwise 6 = .ok (.iconst 1, 1) := by decide +kernel
theorem dX4_lastUnfinishedHasOtherwise_7 : decode cX4_lastUnfinishedHasOtherwise 7 = .ok (.isub, 1) := by decide +kernel
theorem dX4_lastUnfinishedHasOtherwise_8 : decode cX4_lastUnfinishedHasOtherwise 8 = .ok (.istore_n 2, 1) := by decide +kernel
theorem dX4_lastUnfinishedHasOtherwise_9 : decode cX4_lastUnfinishedHasOtherwise 9 = .ok (.iload_n 2, 1) := by decide +kernel
theorem dX4_lastUnfinishedHasOtherwise_10 : decode cX4_lastUnfinishedHasOtherwise 10 = .ok (.ifCond .lt 67, 3) := by decide +kernel
theorem dX4_lastUnfinishedHasOtherwise_13 : decode cX4_lastUnfinishedHasOtherwise 13 = .ok (.aload_n 0, 1) := by decide +kernel
theorem dX4_lastUnfinishedHasOtherwise_14 : decode cX4_lastUnfinishedHasOtherwise 14 = .ok (.getfield 9, 3) := by decide +kernel
theorem dX4_lastUnfinishedHasOtherwise_17 : decode cX4_lastUnfinishedHasOtherwise 17 = .ok (.iload_n 2, 1) := by decide +kernel
theorem dX4_lastUnfinishedHasOtherwise_18 : decode cX4_lastUnfinishedHasOtherwise 18 = .ok (.iaload, 1) := by decide +kernel
theorem dX4_lastUnfinishedHasOtherwise_19 : decode cX4_lastUnfinishedHasOtherwise 19 = .ok (.istore_n 3, 1) := by decide +kernel
theorem dX4_lastUnfinishedHasOtherwise_20 : decode cX4_lastUnfinishedHasOtherwise 20 = .ok (.iload_n 3, 1) := by decide +kernel
theorem dX4_lastUnfinishedHasOtherwise_21 : decode cX4_lastUnfinishedHasOtherwise 21 = .ok (.bipush 17, 2) := by decide +kernel
theorem dX4_lastUnfinishedHasOtherwise_23 : decode cX4_lastUnfinishedHasOtherwise 23 = .ok (.if_icmp .ne 9, 3) := by decide +kernel
theorem dX4_lastUnfinishedHasOtherwise_26 : decode cX4_lastUnfinishedHasOtherwise 26 = .ok (.iinc 1 1, 3) := by decide +kernel
theorem dX4_lastUnfinishedHasOtherwise_29 : decode cX4_lastUnfinishedHasOtherwise 29 = .ok (.goto 42, 3) := by decide +kernel
theorem dX4_lastUnfinishedHasOtherwise_32 : decode cX4_lastUnfinishedHasOtherwise 32 = .ok (.iload_n 1, 1) := by decide +kernel
theorem dX4_lastUnfinishedHasOtherwise_33 : decode cX4_lastUnfinishedHasOtherwise 33 = .ok (.ifCond .ne 28, 3) := by decide +kernel
theorem dX4_lastUnfinishedHasOtherwise_36 : decode cX4_lastUnfinishedHasOtherwise 36 = .ok (.iload_n 3, 1) := by decide +kernel
theorem dX4_lastUnfinishedHasOtherwise_37 : decode cX4_lastUnfinishedHasOtherwise 37 = .ok (.bipush 16, 2) := by decide +kernel
theorem dX4_lastUnfinishedHasOtherwise_39 : decode cX4_lastUnfinishedHasOtherwise 39 = .ok (.if_icmp .eq 10, 3) := by decide +kernel
theorem dX4_lastUnfinishedHasOtherwise_42 : decode cX4_lastUnfinishedHasOtherwise 42 = .ok (.iload_n 3, 1) := by decide +kernel
theorem dX4_lastUnfinishedHasOtherwise_43 : decode cX4_lastUnfinishedHasOtherwise 43 = .ok (.invokestatic 23, 3) := by decide +kernel
theorem dX4_lastUnfinishedHasOtherwise_46 : decode cX4_lastUnfinishedHasOtherwise 46 = .ok (.ifCond .eq 15, 3) := by decide +kernel
theorem dX4_lastUnfinishedHasOtherwise_49 : decode cX4_lastUnfinishedHasOtherwise 49 = .ok (.iload_n 3, 1) := by decide +kernel
theorem dX4_lastUnfinishedHasOtherwise_50 : decode cX4_lastUnfinishedHasOtherwise 50 = .ok (.bipush 16, 2) := by decide +kernel
theorem dX4_lastUnfinishedHasOtherwise_52 : decode cX4_lastUnfinishedHasOtherwise 52 = .ok (.if_icmp .ne 7, 3) := by decide +kernel
theorem dX4_lastUnfinishedHasOtherwise_55 : decode cX4_lastUnfinishedHasOtherwise 55 = .ok (.iconst 1, 1) := by decide +kernel
theorem dX4_lastUnfinishedHasOtherwise_56 : decode cX4_lastUnfinishedHasOtherwise 56 = .ok (.goto 4, 3) := by decide +kernel
theorem dX4_lastUnfinishedHasOtherwise_59 : decode cX4_lastUnfinishedHasOtherwise 59 = .ok (.iconst 0, 1) := by decide +kernel
theorem dX4_lastUnfinishedHasOtherwise_60 : decode cX4_lastUnfinishedHasOtherwise 60 = .ok (.ireturn, 1) := by decide +kernel
theorem dX4_lastUnfinishedHasOtherwise_61 : decode cX4_lastUnfinishedHasOtherwise 61 = .ok (.iload_n 3, 1) := by decide +kernel
theorem dX4_lastUnfinishedHasOtherwise_62 : decode cX4_lastUnfinishedHasOtherwise 62 = .ok (.invokestatic 23, 3) := by decide +kernel
theorem dX4_lastUnfinishedHasOtherwise_65 : decode cX4_lastUnfinishedHasOtherwise 65 = .ok (.ifCond .eq 6, 3) := by decide +kernel
theorem dX4_lastUnfinishedHasOtherwise_68 : decode cX4_lastUnfinishedHasOtherwise 68 = .ok (.iinc 1 (-1), 3) := by decide +kernel
theorem dX4_lastUnfinishedHasOtherwise_71 : decode cX4_lastUnfinishedHasOtherwise 71 = .ok (.iinc 2 (-1), 3) := by decide +kernel
theorem dX4_lastUnfinishedHasOtherwise_74 : decode cX4_lastUnfinishedHasOtherwise 74 = .ok (.goto (-65), 3) := by decide +kernel
theorem dX4_lastUnfinishedHasOtherwise_77 : decode cX4_lastUnfinishedHasOtherwise 77 = .ok (.iconst 0, 1) := by decide +kernel
theorem dX4_lastUnfinishedHasOtherwise_78 : decode cX4_lastUnfinishedHasOtherwise 78 = .ok (.ireturn, 1) := by decide +kernel
theorem dX5_init_0 : decode cX5_init 0 = .ok (.aload_n 0, 1) := by decide +kernel
theorem dX5_init_1 : decode cX5_init 1 = .ok (.invokespecial 3, 3) := by decide +kernel
theorem dX5_init_4 : decode cX5_init 4 = .ok (.aload_n 0, 1) := by decide +kernel
theorem dX5_init_5 : decode cX5_init 5 = .ok (.bipush 80, 2) := by decide +kernel
theorem dX5_init_7 : decode cX5_init 7 = .ok (.newarray .int, 2) := by decide +kernel
theorem dX5_init_9 : decode cX5_init 9 = .ok (.putfield 9, 3) := by decide +kernel
theorem dX5_init_12 : decode cX5_init 12 = .ok (.aload_n 0, 1) := by decide +kernel
theorem dX5_init_13 : decode cX5_init 13 = .ok (.bipush 80, 2) := by decide +kernel
theorem dX5_init_15 : decode cX5_init 15 = .ok (.newarray .int, 2) := by decide +kernel
theorem dX5_init_17 : decode cX5_init 17 = .ok (.putfield 15, 3) := by decide +kernel
theorem dX5_init_20 : decode cX5_init 20 = .ok (.aload_n 0, 1) := by decide +kernel
theorem dX5_init_21 : decode cX5_init 21 = .ok (.new 18, 3) := by decide +kernel
theorem dX5_init_24 : decode cX5_init 24 = .ok (.dup, 1) := by decide +kernel
theorem dX5_init_25 : decode cX5_init 25 = .ok (.invokespecial 20, 3) := by decide +kernel
theorem dX5_init_28 : decode cX5_init 28 = .ok (.putfield 21, 3) := by decide +kernel
theorem dX5_init_31 : decode cX5_init 31 = .ok (.aload_n 0, 1) := by decide +kernel
theorem dX5_init_32 : decode cX5_init 32 = .ok (.new 25, 3) := by decide +kernel
theorem dX5_init_35 : decode cX5_init 35 = .ok (.dup, 1) := by decide +kernel
theorem dX5_init_36 : decode cX5_init 36 = .ok (.invokespecial 27, 3) := by decide +kernel
theorem dX5_init_39 : decode cX5_init 39 = .ok (.putfield 28, 3) := by decide +kernel
theorem dX5_init_42 : decode cX5_init 42 = .ok (.return_, 1) := by decide +kernel
theorem dX5_add_0 : decode cX5_add 0 = .ok (.aload_n 0, 1) := by decide +kernel
theorem dX5_add_1 : decode cX5_add 1 = .ok (.getfield 32, 3) := by decide +kernel
theorem dX5_add_4 : decode cX5_add 4 = .ok (.bipush 80, 2) := by decide +kernel
theorem dX5_add_6 : decode cX5_add 6 = .ok (.if_icmp .ge 33, 3) := by decide +kernel
theorem dX5_add_9 : decode cX5_add 9 = .ok (.aload_n 0, 1) := by decide +kernel
theorem dX5_add_10 : decode cX5_add 10 = .ok (.getfield 9, 3) := by decide +kernel
theorem dX5_add_13 : decode cX5_add 13 = .ok (.aload_n 0, 1) := by decide +kernel
theorem dX5_add_14 : decode cX5_add 14 = .ok (.getfield 32, 3) := by decide +kernel
theorem dX5_add_17 : decode cX5_add 17 = .ok (.iload_n 1, 1) := by decide +kernel
theorem dX5_add_18 : decode cX5_add 18 = .ok (.iastore, 1) := by decide +kernel
theorem dX5_add_19 : decode cX5_add 19 = .ok (.aload_n 0, 1) := by decide +kernel
theorem dX5_add_20 : decode cX5_add 20 = .ok (.getfield 15, 3) := by decide +kernel
theorem dX5_add_23 : decode cX5_add 23 = .ok (.aload_n 0, 1) := by decide +kernel
theorem dX5_add_24 : decode cX5_add 24 = .ok (.getfield 32, 3) := by decide +kernel
theorem dX5_add_27 : decode cX5_add 27 = .ok (.iload_n 2, 1) := by decide +kernel
theorem dX5_add_28 : decode cX5_add 28 = .ok (.iastore, 1) := by decide +kernel
theorem dX5_add_29 : decode cX5_add 29 = .ok (.aload_n 0, 1) := by decide +kernel
theorem dX5_add_30 : decode cX5_add 30 = .ok (.dup, 1) := by decide +kernel
theorem dX5_add_31 : decode cX5_add 31 = .ok (.getfield 32, 3) := by decide +kernel
theorem dX5_add_34 : decode cX5_add 34 = .ok (.iconst 1, 1) := by decide +kernel
theorem dX5_add_35 : decode cX5_add 35 = .ok (.iadd, 1) := by decide +kernel
theorem dX5_add_36 : decode cX5_add 36 = .ok (.putfield 32, 3) := by decide +kernel
theorem dX5_add_39 : decode cX5_add 39 = .ok (.return_, 1) := by decide +kernel
theorem dX5_hasSameTokens_0 : decode cX5_hasSameTokens 0 = .ok (.aload_n 0, 1) := by decide +kernel
theorem dX5_hasSameTokens_1 : decode cX5_hasSameTokens 1 = .ok (.getfield 32, 3) := by decide +kernel
theorem dX5_hasSameTokens_4 : decode cX5_hasSameTokens 4 = .ok (.aload_n 1, 1) := by decide +kernel
theorem dX5_hasSameTokens_5 : decode cX5_hasSameTokens 5 = .ok (.getfield 32, 3) := by decide +kernel
theorem dX5_hasSameTokens_8 : decode cX5_hasSameTokens 8 = .ok (.if_icmp .ne 25, 3) := by decide +kernel
theorem dX5_hasSameTokens_11 : decode cX5_hasSameTokens 11 = .ok (.aload_n 0, 1) := by decide +kernel
theorem dX5_hasSameTokens_12 : decode cX5_hasSameTokens 12 = .ok (.getfield 9, 3) := by decide +kernel
theorem dX5_hasSameTokens_15 : decode cX5_hasSameTokens 15 = .ok (.aload_n 1, 1) := by decide +kernel
theorem dX5_hasSameTokens_16 : decode cX5_hasSameTokens 16 = .ok (.getfield 9, 3) := by decide +kernel
theorem dX5_hasSameTokens_19 : decode cX5_hasSameTokens 19 = .ok (.aload_n 0, 1) := by decide +kernel
theorem dX5_hasSameTokens_20 : decode cX5_hasSameTokens 20 = .ok (.getfield 32, 3) := by decide +kernel
theorem dX5_hasSameTokens_23 : decode cX5_hasSameTokens 23 = .ok (.invokestatic 36, 3) := by decide +kernel
theorem dX5_hasSameTokens_26 : decode cX5_hasSameTokens 26 = .ok (.ifCond .eq 7, 3) := by decide +kernel
theorem dX5_hasSameTokens_29 : decode cX5_hasSameTokens 29 = .ok (.iconst 1, 1) := by decide +kernel
theorem dX5_hasSameTokens_30 : decode cX5_hasSameTokens 30 = .ok (.goto 4, 3) := by decide +kernel
theorem dX5_hasSameTokens_33 : decode cX5_hasSameTokens 33 = .ok (.iconst 0, 1) := by decide +kernel
theorem dX5_hasSameTokens_34 : decode cX5_hasSameTokens 34 = .ok (.ireturn, 1) := by decide +kernel
theorem dX6_init_0 : decode cX6_init 0 = .ok (.aload_n 0, 1) := by decide +kernel
theorem dX6_init_1 : decode cX6_init 1 = .ok (.invokespecial 3, 3) := by decide +kernel
theorem dX6_init_4 : decode cX6_init 4 = .ok (.aload_n 0, 1) := by decide +kernel
theorem dX6_init_5 : decode cX6_init 5 = .ok (.bipush 80, 2) := by decide +kernel
theorem dX6_init_7 : decode cX6_init 7 = .ok (.newarray .int, 2) := by decide +kernel
theorem dX6_init_9 : decode cX6_init 9 = .ok (.putfield 9, 3) := by decide +kernel
theorem dX6_init_12 : decode cX6_init 12 = .ok (.aload_n 0, 1) := by decide +kernel
theorem dX6_init_13 : decode cX6_init 13 = .ok (.iconst 4, 1) := by decide +kernel
theorem dX6_init_14 : decode cX6_init 14 = .ok (.bipush 80, 2) := by decide +kernel
theorem dX6_init_16 : decode cX6_init 16 = .ok (.multianewarray 15 2, 4) := by decide +kernel
theorem dX6_init_20 : decode cX6_init 20 = .ok (.putfield 17, 3) := by decide +kernel
theorem dX6_init_23 : decode cX6_init 23 = .ok (.aload_n 0, 1) := by decide +kernel
theorem dX6_init_24 : decode cX6_init 24 = .ok (.iconst 4, 1) := by decide +kernel
theorem dX6_init_25 : decode cX6_init 25 = .ok (.newarray .int, 2) := by decide +kernel
theorem dX6_init_27 : decode cX6_init 27 = .ok (.putfield 20, 3) := by decide +kernel
theorem dX6_init_30 : decode cX6_init 30 = .ok (.aload_n 0, 1) := by decide +kernel
theorem dX6_init_31 : decode cX6_init 31 = .ok (.iconst 5, 1) := by decide +kernel
theorem dX6_init_32 : decode cX6_init 32 = .ok (.newarray .int, 2) := by decide +kernel
theorem dX6_init_34 : decode cX6_init 34 = .ok (.putfield 23, 3) := by decide +kernel
theorem dX6_init_37 : decode cX6_init 37 = .ok (.aload_n 0, 1) := by decide +kernel
theorem dX6_init_38 : decode cX6_init 38 = .ok (.iconst 5, 1) := by decide +kernel
theorem dX6_init_39 : decode cX6_init 39 = .ok (.newarray .int, 2) := by decide +kernel
theorem dX6_init_41 : decode cX6_init 41 = .ok (.putfield 26, 3) := by decide +kernel
theorem dX6_init_44 : decode cX6_init 44 = .ok (.return_, 1) := by decide +kernel
theorem dX6_isPresent_0 : decode cX6_isPresent 0 = .ok (.aload_n 0, 1) := by decide +kernel
theorem dX6_isPresent_1 : decode cX6_isPresent 1 = .ok (.getfield 9, 3) := by decide +kernel
theorem dX6_isPresent_4 : decode cX6_isPresent 4 = .ok (.iload_n 1, 1) := by decide +kernel
theorem dX6_isPresent_5 : decode cX6_isPresent 5 = .ok (.iaload, 1) := by decide +kernel
theorem dX6_isPresent_6 : decode cX6_isPresent 6 = .ok (.iload_n 2, 1) := by decide +kernel
theorem dX6_isPresent_7 : decode cX6_isPresent 7 = .ok (.ishr, 1) := by decide +kernel
theorem dX6_isPresent_8 : decode cX6_isPresent 8 = .ok (.iconst 1, 1) := by decide +kernel
theorem dX6_isPresent_9 : decode cX6_isPresent 9 = .ok (.iand, 1) := by decide +kernel
theorem dX6_isPresent_10 : decode cX6_isPresent 10 = .ok (.iconst 1, 1) := by decide +kernel
theorem dX6_isPresent_11 : decode cX6_isPresent 11 = .ok (.if_icmp .ne 7, 3) := by decide +kernel
theorem dX6_isPresent_14 : decode cX6_isPresent 14 = .ok (.iconst 1, 1) := by decide +kernel
theorem dX6_isPresent_15 : decode cX6_isPresent 15 = .ok (.goto 4, 3) := by decide +kernel
theorem dX6_isPresent_18 : decode cX6_isPresent 18 = .ok (.iconst 0, 1) := by decide +kernel
theorem dX6_isPresent_19 : decode cX6_isPresent 19 = .ok (.ireturn, 1) := by decide +kernel
theorem dX6_goThrough_0 : decode cX6_goThrough 0 = .ok (.aload_n 0, 1) := by decide +kernel
theorem dX6_goThrough_1 : decode cX6_goThrough 1 = .ok (.ldc 29, 2) := by decide +kernel
theorem dX6_goThrough_3 : decode cX6_goThrough 3 = .ok (.putfield 30, 3) := by decide +kernel
theorem dX6_goThrough_6 : decode cX6_goThrough 6 = .ok (.aload_n 0, 1) := by decide +kernel
theorem dX6_goThrough_7 : decode cX6_goThrough 7 = .ok (.iconst 0, 1) := by decide +kernel
theorem dX6_goThrough_8 : decode cX6_goThrough 8 = .ok (.putfield 34, 3) := by decide +kernel
theorem dX6_goThrough_11 : decode cX6_goThrough 11 = .ok (.iconst 0, 1) := by decide +kernel
theorem dX6_goThrough_12 : decode cX6_goThrough 12 = .ok (.istore_n 2, 1) := by decide +kernel
theorem dX6_goThrough_13 : decode cX6_goThrough 13 = .ok (.iload_n 2, 1) := by decide +kernel
theorem dX6_goThrough_14 : decode cX6_goThrough 14 = .ok (.iconst 4, 1) := by decide +kernel
theorem dX6_goThrough_15 : decode cX6_goThrough 15 = .ok (.if_icmp .ge 20, 3) := by decide +kernel
theorem dX6_goThrough_18 : decode cX6_goThrough 18 = .ok (.aload_n 0, 1) := by decide +kernel
theorem dX6_goThrough_19 : decode cX6_goThrough 19 = .ok (.getfield 20, 3) := by decide +kernel
theorem dX6_goThrough_22 : decode cX6_goThrough 22 = .ok (.iload_n 2, 1) := by decide +kernel
theorem dX6_goThrough_23 : decode cX6_goThrough 23 = .ok (.getstatic 37, 3) := by decide +kernel
theorem dX6_goThrough_26 : decode cX6_goThrough 26 = .ok (.iload_n 2, 1) := by decide +kernel
theorem dX6_goThrough_27 : decode cX6_goThrough 27 = .ok (.iaload, 1) := by decide +kernel
theorem dX6_goThrough_28 : decode cX6_goThrough 28 = .ok (.iastore, 1) := by decide +kernel
theorem dX6_goThrough_29 : decode cX6_goThrough 29 = .ok (.iinc 2 1, 3) := by decide +kernel
theorem dX6_goThrough_32 : decode cX6_goThrough 32 = .ok (.goto (-19), 3) := by decide +kernel
theorem dX6_goThrough_35 : decode cX6_goThrough 35 = .ok (.iconst 0, 1) := by decide +kernel
theorem dX6_goThrough_36 : decode cX6_goThrough 36 = .ok (.istore_n 2, 1) := by decide +kernel
theorem dX6_goThrough_37 : decode cX6_goThrough 37 = .ok (.iload_n 2, 1) := by decide +kernel
theorem dX6_goThrough_38 : decode cX6_goThrough 38 = .ok (.aload_n 1, 1) := by decide +kernel
theorem dX6_goThrough_39 : decode cX6_goThrough 39 = .ok (.getfield 40, 3) := by decide +kernel
theorem dX6_goThrough_42 : decode cX6_goThrough 42 = .ok (.if_icmp .ge 57, 3) := by decide +kernel
theorem dX6_goThrough_45 : decode cX6_goThrough 45 = .ok (.iconst 0, 1) := by decide +kernel
theorem dX6_goThrough_46 : decode cX6_goThrough 46 = .ok (.istore_n 3, 1) := by decide +kernel
theorem dX6_goThrough_47 : decode cX6_goThrough 47 = .ok (.iload_n 3, 1) := by decide +kernel
theorem dX6_goThrough_48 : decode cX6_goThrough 48 = .ok (.iconst 4, 1) := by decide +kernel
theorem dX6_goThrough_49 : decode cX6_goThrough 49 = .ok (.if_icmp .ge 23, 3) := by decide +kernel
theorem dX6_goThrough_52 : decode cX6_goThrough 52 = .ok (.aload_n 0, 1) := by decide +kernel
theorem dX6_goThrough_53 : decode cX6_goThrough 53 = .ok (.getfield 17, 3) := by decide +kernel
theorem dX6_goThrough_56 : decode cX6_goThrough 56 = .ok (.iload_n 3, 1) := by decide +kernel
theorem dX6_goThrough_57 : decode cX6_goThrough 57 = .ok (.aaload, 1) := by decide +kernel
theorem dX6_goThrough_58 : decode cX6_goThrough 58 = .ok (.iload_n 2, 1) := by decide +kernel
theorem dX6_goThrough_59 : decode cX6_goThrough 59 = .ok (.aload_n 0, 1) := by decide +kernel
theorem dX6_goThrough_60 : decode cX6_goThrough 60 = .ok (.getfield 20, 3) := by decide +kernel
theorem dX6_goThrough_63 : decode cX6_goThrough 63 = .ok (.iload_n 3, 1) := by decide +kernel
theorem dX6_goThrough_64 : decode cX6_goThrough 64 = .ok (.iaload, 1) := by decide +kernel
theorem dX6_goThrough_65 : decode cX6_goThrough 65 = .ok (.iastore, 1) := by decide +kernel
theorem dX6_goThrough_66 : decode cX6_goThrough 66 = .ok (.iinc 3 1, 3) := by decide +kernel
theorem dX6_goThrough_69 : decode cX6_goThrough 69 = .ok (.goto (-22), 3) := by decide +kernel
theorem dX6_goThrough_72 : decode cX6_goThrough 72 = .ok (.aload_n 0, 1) := by decide +kernel
theorem dX6_goThrough_73 : decode cX6_goThrough 73 = .ok (.getfield 9, 3) := by decide +kernel
theorem dX6_goThrough_76 : decode cX6_goThrough 76 = .ok (.iload_n 2, 1) := by decide +kernel
theorem dX6_goThrough_77 : decode cX6_goThrough 77 = .ok (.aload_n 0, 1) := by decide +kernel
theorem dX6_goThrough_78 : decode cX6_goThrough 78 = .ok (.getfield 30, 3) := by decide +kernel
theorem dX6_goThrough_81 : decode cX6_goThrough 81 = .ok (.iastore, 1) := by decide +kernel
theorem dX6_goThrough_82 : decode cX6_goThrough 82 = .ok (.aload_n 0, 1) := by decide +kernel
theorem dX6_goThrough_83 : decode cX6_goThrough 83 = .ok (.aload_n 1, 1) := by decide +kernel
theorem dX6_goThrough_84 : decode cX6_goThrough 84 = .ok (.getfield 45, 3) := by decide +kernel
theorem dX6_goThrough_87 : decode cX6_goThrough 87 = .ok (.iload_n 2, 1) := by decide +kernel
theorem dX6_goThrough_88 : decode cX6_goThrough 88 = .ok (.iaload, 1) := by decide +kernel
theorem dX6_goThrough_89 : decode cX6_goThrough 89 = .ok (.iload_n 2, 1) := by decide +kernel
theorem dX6_goThrough_90 : decode cX6_goThrough 90 = .ok (.invokevirtual 48, 3) := by decide +kernel
theorem dX6_goThrough_93 : decode cX6_goThrough 93 = .ok (.iinc 2 1, 3) := by decide +kernel
theorem dX6_goThrough_96 : decode cX6_goThrough 96 = .ok (.goto (-59), 3) := by decide +kernel
theorem dX6_goThrough_99 : decode cX6_goThrough 99 = .ok (.return_, 1) := by decide +kernel
theorem dX6_step_0 : decode cX6_step 0 = .ok (.iload_n 1, 1) := by decide +kernel
theorem dX6_step_1 : decode cX6_step 1 = .ok (.invokestatic 52, 3) := by decide +kernel
theorem dX6_step_4 : decode cX6_step 4 = .ok (.ifCond .eq 11, 3) := by decide +kernel
theorem dX6_step_7 : decode cX6_step 7 = .ok (.aload_n 0, 1) := by decide +kernel
theorem dX6_step_8 : decode cX6_step 8 = .ok (.iload_n 1, 1) := by decide +kernel
theorem dX6_step_9 : decode cX6_step 9 = .ok (.invokevirtual 56, 3) := by decide +kernel
theorem dX6_step_12 : decode cX6_step 12 = .ok (.goto 122, 3) := by decide +kernel
theorem dX6_step_15 : decode cX6_step 15 = .ok (.iload_n 1, 1) := by decide +kernel
theorem dX6_step_16 : decode cX6_step 16 = .ok (.invokestatic 60, 3) := by decide +kernel
theorem dX6_step_19 : decode cX6_step 19 = .ok (.ifCond .eq 11, 3) := by decide +kernel
theorem dX6_step_22 : decode cX6_step 22 = .ok (.aload_n 0, 1) := by decide +kernel
theorem dX6_step_23 : decode cX6_step 23 = .ok (.iload_n 1, 1) := by decide +kernel
theorem dX6_step_24 : decode cX6_step 24 = .ok (.invokevirtual 63, 3) := by decide +kernel
theorem dX6_step_27 : decode cX6_step 27 = .ok (.goto 107, 3) := by decide +kernel
theorem dX6_step_30 : decode cX6_step 30 = .ok (.aload_n 0, 1) := by decide +kernel
theorem dX6_step_31 : decode cX6_step 31 = .ok (.getfield 34, 3) := by decide +kernel
theorem dX6_step_34 : decode cX6_step 34 = .ok (.ifCond .le 100, 3) := by decide +kernel
theorem dX6_step_37 : decode cX6_step 37 = .ok (.aload_n 0, 1) := by decide +kernel
theorem dX6_step_38 : decode cX6_step 38 = .ok (.getfield 34, 3) := by decide +kernel
theorem dX6_step_41 : decode cX6_step 41 = .ok (.iconst 5, 1) := by decide +kernel
theorem dX6_step_42 : decode cX6_step 42 = .ok (.if_icmp .gt 92, 3) := by decide +kernel
theorem dX6_step_45 : decode cX6_step 45 = .ok (.iload_n 1, 1) := by decide +kernel
theorem dX6_step_46 : decode cX6_step 46 = .ok (.bipush 16, 2) := by decide +kernel
theorem dX6_step_48 : decode cX6_step 48 = .ok (.if_icmp .ne 38, 3) := by decide +kernel
theorem dX6_step_51 : decode cX6_step 51 = .ok (.aload_n 0, 1) := by decide +kernel
theorem dX6_step_52 : decode cX6_step 52 = .ok (.getfield 9, 3) := by decide +kernel
theorem dX6_step_55 : decode cX6_step 55 = .ok (.iload_n 2, 1) := by decide +kernel
theorem dX6_step_56 : decode cX6_step 56 = .ok (.aload_n 0, 1) := by decide +kernel
theorem dX6_step_57 : decode cX6_step 57 = .ok (.getfield 23, 3) := by decide +kernel
theorem dX6_step_60 : decode cX6_step 60 = .ok (.aload_n 0, 1) := by decide +kernel
theorem dX6_step_61 : decode cX6_step 61 = .ok (.getfield 34, 3) := by decide +kernel
theorem dX6_step_64 : decode cX6_step 64 = .ok (.iconst 1, 1) := by decide +kernel
theorem dX6_step_65 : decode cX6_step 65 = .ok (.isub, 1) := by decide +kernel
theorem dX6_step_66 : decode cX6_step 66 = .ok (.iaload, 1) := by decide +kernel
theorem dX6_step_67 : decode cX6_step 67 = .ok (.iastore, 1) := by decide +kernel
theorem dX6_step_68 : decode cX6_step 68 = .ok (.aload_n 0, 1) := by decide +kernel
theorem dX6_step_69 : decode cX6_step 69 = .ok (.aload_n 0, 1) := by decide +kernel
theorem dX6_step_70 : decode cX6_step 70 = .ok (.getfield 26, 3) := by decide +kernel
theorem dX6_step_73 : decode cX6_step 73 = .ok (.aload_n 0, 1) := by decide +kernel
theorem dX6_step_74 : decode cX6_step 74 = .ok (.getfield 34, 3) := by decide +kernel
theorem dX6_step_77 : decode cX6_step 77 = .ok (.iconst 1, 1) := by decide +kernel
theorem dX6_step_78 : decode cX6_step 78 = .ok (.isub, 1) := by decide +kernel
theorem dX6_step_79 : decode cX6_step 79 = .ok (.iaload, 1) := by decide +kernel
theorem dX6_step_80 : decode cX6_step 80 = .ok (.putfield 30, 3) := by decide +kernel
theorem dX6_step_83 : decode cX6_step 83 = .ok (.goto 51, 3) := by decide +kernel
theorem dX6_step_86 : decode cX6_step 86 = .ok (.iload_n 1, 1) := by decide +kernel
theorem dX6_step_87 : decode cX6_step 87 = .ok (.bipush 17, 2) := by decide +kernel
theorem dX6_step_89 : decode cX6_step 89 = .ok (.if_icmp .ne 45, 3) := by decide +kernel
theorem dX6_step_92 : decode cX6_step 92 = .ok (.aload_n 0, 1) := by decide +kernel
theorem dX6_step_93 : decode cX6_step 93 = .ok (.getfield 9, 3) := by decide +kernel
theorem dX6_step_96 : decode cX6_step 96 = .ok (.iload_n 2, 1) := by decide +kernel
theorem dX6_step_97 : decode cX6_step 97 = .ok (.aload_n 0, 1) := by decide +kernel
theorem dX6_step_98 : decode cX6_step 98 = .ok (.getfield 23, 3) := by decide +kernel
theorem dX6_step_101 : decode cX6_step 101 = .ok (.aload_n 0, 1) := by decide +kernel
theorem dX6_step_102 : decode cX6_step 102 = .ok (.getfield 34, 3) := by decide +kernel
theorem dX6_step_105 : decode cX6_step 105 = .ok (.iconst 1, 1) := by decide +kernel
theorem dX6_step_106 : decode cX6_step 106 = .ok (.isub, 1) := by decide +kernel
theorem dX6_step_107 : decode cX6_step 107 = .ok (.iaload, 1) := by decide +kernel
theorem dX6_step_108 : decode cX6_step 108 = .ok (.iastore, 1) := by decide +kernel
theorem dX6_step_109 : decode cX6_step 109 = .ok (.aload_n 0, 1) := by decide +kernel
theorem dX6_step_110 : decode cX6_step 110 = .ok (.aload_n 0, 1) := by decide +kernel
theorem dX6_step_111 : decode cX6_step 111 = .ok (.getfield 23, 3) := by decide +kernel
theorem dX6_step_114 : decode cX6_step 114 = .ok (.aload_n 0, 1) := by decide +kernel
theorem dX6_step_115 : decode cX6_step 115 = .ok (.getfield 34, 3) := by decide +kernel
theorem dX6_step_118 : decode cX6_step 118 = .ok (.iconst 1, 1) := by decide +kernel
theorem dX6_step_119 : decode cX6_step 119 = .ok (.isub, 1) := by decide +kernel
theorem dX6_step_120 : decode cX6_step 120 = .ok (.iaload, 1) := by decide +kernel
theorem dX6_step_121 : decode cX6_step 121 = .ok (.putfield 30, 3) := by decide +kernel
theorem dX6_step_124 : decode cX6_step 124 = .ok (.aload_n 0, 1) := by decide +kernel
theorem dX6_step_125 : decode cX6_step 125 = .ok (.dup, 1) := by decide +kernel
theorem dX6_step_126 : decode cX6_step 126 = .ok (.getfield 34, 3) := by decide +kernel
theorem dX6_step_129 : decode cX6_step 129 = .ok (.iconst 1, 1) := by decide +kernel
theorem dX6_step_130 : decode cX6_step 130 = .ok (.isub, 1) := by decide +kernel
theorem dX6_step_131 : decode cX6_step 131 = .ok (.putfield 34, 3) := by decide +kernel
theorem dX6_step_134 : decode cX6_step 134 = .ok (.return_, 1) := by decide +kernel
theorem dX6_enter_0 : decode cX6_enter 0 = .ok (.aload_n 0, 1) := by decide +kernel
theorem dX6_enter_1 : decode cX6_enter 1 = .ok (.getfield 34, 3) := by decide +kernel
theorem dX6_enter_4 : decode cX6_enter 4 = .ok (.ifCond .lt 11, 3) := by decide +kernel
theorem dX6_enter_7 : decode cX6_enter 7 = .ok (.aload_n 0, 1) := by decide +kernel
theorem dX6_enter_8 : decode cX6_enter 8 = .ok (.getfield 34, 3) := by decide +kernel
theorem dX6_enter_11 : decode cX6_enter 11 = .ok (.iconst 5, 1) := by decide +kernel
theorem dX6_enter_12 : decode cX6_enter 12 = .ok (.if_icmp .lt 4, 3) := by decide +kernel
theorem dX6_enter_15 : decode cX6_enter 15 = .ok (.return_, 1) := by decide +kernel
theorem dX6_enter_16 : decode cX6_enter 16 = .ok (.aload_n 0, 1) := by decide +kernel
theorem dX6_enter_17 : decode cX6_enter 17 = .ok (.getfield 20, 3) := by decide +kernel
theorem dX6_enter_20 : decode cX6_enter 20 = .ok (.iload_n 1, 1) := by decide +kernel
theorem dX6_enter_21 : decode cX6_enter 21 = .ok (.invokestatic 66, 3) := by decide +kernel
theorem dX6_enter_24 : decode cX6_enter 24 = .ok (.iaload, 1) := by decide +kernel
theorem dX6_enter_25 : decode cX6_enter 25 = .ok (.istore_n 2, 1) := by decide +kernel
theorem dX6_enter_26 : decode cX6_enter 26 = .ok (.iload_n 1, 1) := by decide +kernel
theorem dX6_enter_27 : decode cX6_enter 27 = .ok (.invokestatic 70, 3) := by decide +kernel
theorem dX6_enter_30 : decode cX6_enter 30 = .ok (.ifCond .ne 7, 3) := by decide +kernel
theorem dX6_enter_33 : decode cX6_enter 33 = .ok (.iload_n 2, 1) := by decide +kernel
theorem dX6_enter_34 : decode cX6_enter 34 = .ok (.iconst (-1), 1) := by decide +kernel
theorem dX6_enter_35 : decode cX6_enter 35 = .ok (.ixor, 1) := by decide +kernel
theorem dX6_enter_36 : decode cX6_enter 36 = .ok (.istore_n 2, 1) := by decide +kernel
theorem dX6_enter_37 : decode cX6_enter 37 = .ok (.aload_n 0, 1) := by decide +kernel
theorem dX6_enter_38 : decode cX6_enter 38 = .ok (.getfield 23, 3) := by decide +kernel
theorem dX6_enter_41 : decode cX6_enter 41 = .ok (.aload_n 0, 1) := by decide +kernel
theorem dX6_enter_42 : decode cX6_enter 42 = .ok (.getfield 34, 3) := by decide +kernel
theorem dX6_enter_45 : decode cX6_enter 45 = .ok (.aload_n 0, 1) := by decide +kernel
theorem dX6_enter_46 : decode cX6_enter 46 = .ok (.getfield 30, 3) := by decide +kernel
theorem dX6_enter_49 : decode cX6_enter 49 = .ok (.iastore, 1) := by decide +kernel
theorem dX6_enter_50 : decode cX6_enter 50 = .ok (.aload_n 0, 1) := by decide +kernel
theorem dX6_enter_51 : decode cX6_enter 51 = .ok (.getfield 26, 3) := by decide +kernel
theorem dX6_enter_54 : decode cX6_enter 54 = .ok (.aload_n 0, 1) := by decide +kernel
theorem dX6_enter_55 : decode cX6_enter 55 = .ok (.getfield 34, 3) := by decide +kernel
theorem dX6_enter_58 : decode cX6_enter 58 = .ok (.aload_n 0, 1) := by decide +kernel
theorem dX6_enter_59 : decode cX6_enter 59 = .ok (.getfield 30, 3) := by decide +kernel
theorem dX6_enter_62 : decode cX6_enter 62 = .ok (.iload_n 2, 1) := by decide +kernel
theorem dX6_enter_63 : decode cX6_enter 63 = .ok (.iconst (-1), 1) := by decide +kernel
theorem dX6_enter_64 : decode cX6_enter 64 = .ok (.ixor, 1) := by decide +kernel
theorem dX6_enter_65 : decode cX6_enter 65 = .ok (.iand, 1) := by decide +kernel
theorem dX6_enter_66 : decode cX6_enter 66 = .ok (.iastore, 1) := by decide +kernel
theorem dX6_enter_67 : decode cX6_enter 67 = .ok (.aload_n 0, 1) := by decide +kernel
theorem dX6_enter_68 : decode cX6_enter 68 = .ok (.dup, 1) := by decide +kernel
theorem dX6_enter_69 : decode cX6_enter 69 = .ok (.getfield 30, 3) := by decide +kernel
theorem dX6_enter_72 : decode cX6_enter 72 = .ok (.iload_n 2, 1) := by decide +kernel
theorem dX6_enter_73 : decode cX6_enter 73 = .ok (.iand, 1) := by decide +kernel
theorem dX6_enter_74 : decode cX6_enter 74 = .ok (.putfield 30, 3) := by decide +kernel
theorem dX6_enter_77 : decode cX6_enter 77 = .ok (.aload_n 0, 1) := by decide +kernel
theorem dX6_enter_78 : decode cX6_enter 78 = .ok (.dup, 1) := by decide +kernel
theorem dX6_enter_79 : decode cX6_enter 79 = .ok (.getfield 34, 3) := by decide +kernel
theorem dX6_enter_82 : decode cX6_enter 82 = .ok (.iconst 1, 1) := by decide +kernel
theorem dX6_enter_83 : decode cX6_enter 83 = .ok (.iadd, 1) := by decide +kernel
theorem dX6_enter_84 : decode cX6_enter 84 = .ok (.putfield 34, 3) := by decide +kernel
theorem dX6_enter_87 : decode cX6_enter 87 = .ok (.return_, 1) := by decide +kernel
theorem dX6_turn_0 : decode cX6_turn 0 = .ok (.iload_n 1, 1) := by decide +kernel
theorem dX6_turn_1 : decode cX6_turn 1 = .ok (.invokestatic 66, 3) := by decide +kernel
theorem dX6_turn_4 : decode cX6_turn 4 = .ok (.istore_n 2, 1) := by decide +kernel
theorem dX6_turn_5 : decode cX6_turn 5 = .ok (.iload_n 1, 1) := by decide +kernel
theorem dX6_turn_6 : decode cX6_turn 6 = .ok (.invokestatic 70, 3) := by decide +kernel
theorem dX6_turn_9 : decode cX6_turn 9 = .ok (.ifCond .eq 19, 3) := by decide +kernel
theorem dX6_turn_12 : decode cX6_turn 12 = .ok (.aload_n 0, 1) := by decide +kernel
theorem dX6_turn_13 : decode cX6_turn 13 = .ok (.getfield 20, 3) := by decide +kernel
theorem dX6_turn_16 : decode cX6_turn 16 = .ok (.iload_n 2, 1) := by decide +kernel
theorem dX6_turn_17 : decode cX6_turn 17 = .ok (.dup2, 1) := by decide +kernel
theorem dX6_turn_18 : decode cX6_turn 18 = .ok (.iaload, 1) := by decide +kernel
theorem dX6_turn_19 : decode cX6_turn 19 = .ok (.aload_n 0, 1) := by decide +kernel
theorem dX6_turn_20 : decode cX6_turn 20 = .ok (.getfield 30, 3) := by decide +kernel
theorem dX6_turn_23 : decode cX6_turn 23 = .ok (.ior, 1) := by decide +kernel
theorem dX6_turn_24 : decode cX6_turn 24 = .ok (.iastore, 1) := by decide +kernel
theorem dX6_turn_25 : decode cX6_turn 25 = .ok (.goto 18, 3) := by decide +kernel
theorem dX6_turn_28 : decode cX6_turn 28 = .ok (.aload_n 0, 1) := by decide +kernel
theorem dX6_turn_29 : decode cX6_turn 29 = .ok (.getfield 20, 3) := by decide +kernel
theorem dX6_turn_32 : decode cX6_turn 32 = .ok (.iload_n 2, 1) := by decide +kernel
theorem dX6_turn_33 : decode cX6_turn 33 = .ok (.dup2, 1) := by decide +kernel
theorem dX6_turn_34 : decode cX6_turn 34 = .ok (.iaload, 1) := by decide +kernel
theorem dX6_turn_35 : decode cX6_turn 35 = .ok (.aload_n 0, 1) := by decide +kernel
theorem dX6_turn_36 : decode cX6_turn 36 = .ok (.getfield 30, 3) := by decide +kernel
theorem dX6_turn_39 : decode cX6_turn 39 = .ok (.iconst (-1), 1) := by decide +kernel
theorem dX6_turn_40 : decode cX6_turn 40 = .ok (.ixor, 1) := by decide +kernel
theorem dX6_turn_41 : decode cX6_turn 41 = .ok (.iand, 1) := by decide +kernel
theorem dX6_turn_42 : decode cX6_turn 42 = .ok (.iastore, 1) := by decide +kernel
theorem dX6_turn_43 : decode cX6_turn 43 = .ok (.return_, 1) := by decide +kernel
theorem dX7_init_0 : decode cX7_init 0 = .ok (.aload_n 0, 1) := by decide +kernel
theorem dX7_init_1 : decode cX7_init 1 = .ok (.invokespecial 1, 3) := by decide +kernel
theorem dX7_init_4 : decode cX7_init 4 = .ok (.aload_n 0, 1) := by decide +kernel
theorem dX7_init_5 : decode cX7_init 5 = .ok (.new 7, 3) := by decide +kernel
theorem dX7_init_8 : decode cX7_init 8 = .ok (.dup, 1) := by decide +kernel
theorem dX7_init_9 : decode cX7_init 9 = .ok (.invokespecial 9, 3) := by decide +kernel
theorem dX7_init_12 : decode cX7_init 12 = .ok (.putfield 10, 3) := by decide +kernel
theorem dX7_init_15 : decode cX7_init 15 = .ok (.aload_n 0, 1) := by decide +kernel
theorem dX7_init_16 : decode cX7_init 16 = .ok (.new 16, 3) := by decide +kernel
theorem dX7_init_19 : decode cX7_init 19 = .ok (.dup, 1) := by decide +kernel
theorem dX7_init_20 : decode cX7_init 20 = .ok (.invokespecial 18, 3) := by decide +kernel
theorem dX7_init_23 : decode cX7_init 23 = .ok (.putfield 19, 3) := by decide +kernel
theorem dX7_init_26 : decode cX7_init 26 = .ok (.aload_n 0, 1) := by decide +kernel
theorem dX7_init_27 : decode cX7_init 27 = .ok (.bipush 16, 2) := by decide +kernel
theorem dX7_init_29 : decode cX7_init 29 = .ok (.anewarray 23, 3) := by decide +kernel
theorem dX7_init_32 : decode cX7_init 32 = .ok (.putfield 25, 3) := by decide +kernel
theorem dX7_init_35 : decode cX7_init 35 = .ok (.iconst 0, 1) := by decide +kernel
theorem dX7_init_36 : decode cX7_init 36 = .ok (.istore_n 1, 1) := by decide +kernel
theorem dX7_init_37 : decode cX7_init 37 = .ok (.iload_n 1, 1) := by decide +kernel
theorem dX7_init_38 : decode cX7_init 38 = .ok (.bipush 16, 2) := by decide +kernel
theorem dX7_init_40 : decode cX7_init 40 = .ok (.if_icmp .ge 22, 3) := by decide +kernel
theorem dX7_init_43 : decode cX7_init 43 = .ok (.aload_n 0, 1) := by decide +kernel
theorem dX7_init_44 : decode cX7_init 44 = .ok (.getfield 25, 3) := by decide +kernel
theorem dX7_init_47 : decode cX7_init 47 = .ok (.iload_n 1, 1) := by decide +kernel
theorem dX7_init_48 : decode cX7_init 48 = .ok (.new 23, 3) := by decide +kernel
theorem dX7_init_51 : decode cX7_init 51 = .ok (.dup, 1) := by decide +kernel
theorem dX7_init_52 : decode cX7_init 52 = .ok (.invokespecial 29, 3) := by decide +kernel
theorem dX7_init_55 : decode cX7_init 55 = .ok (.aastore, 1) := by decide +kernel
theorem dX7_init_56 : decode cX7_init 56 = .ok (.iinc 1 1, 3) := by decide +kernel
theorem dX7_init_59 : decode cX7_init 59 = .ok (.goto (-22), 3) := by decide +kernel
theorem dX7_init_62 : decode cX7_init 62 = .ok (.aload_n 0, 1) := by decide +kernel
theorem dX7_init_63 : decode cX7_init 63 = .ok (.bipush 80, 2) := by decide +kernel
theorem dX7_init_65 : decode cX7_init 65 = .ok (.newarray .int, 2) := by decide +kernel
theorem dX7_init_67 : decode cX7_init 67 = .ok (.putfield 30, 3) := by decide +kernel
theorem dX7_init_70 : decode cX7_init 70 = .ok (.aload_n 0, 1) := by decide +kernel
theorem dX7_init_71 : decode cX7_init 71 = .ok (.iconst 0, 1) := by decide +kernel
theorem dX7_init_72 : decode cX7_init 72 = .ok (.putfield 34, 3) := by decide +kernel
theorem dX7_init_75 : decode cX7_init 75 = .ok (.return_, 1) := by decide +kernel
theorem dX7_write_0 : decode cX7_write 0 = .ok (.iconst 0, 1) := by decide +kernel
theorem dX7_write_1 : decode cX7_write 1 = .ok (.istore_n 3, 1) := by decide +kernel
theorem dX7_write_2 : decode cX7_write 2 = .ok (.bipush 56, 2) := by decide +kernel
theorem dX7_write_4 : decode cX7_write 4 = .ok (.istore 4, 2) := by decide +kernel
theorem dX7_write_6 : decode cX7_write 6 = .ok (.iload 4, 2) := by decide +kernel
theorem dX7_write_8 : decode cX7_write 8 = .ok (.ifCond .lt 43, 3) := by decide +kernel
theorem dX7_write_11 : decode cX7_write 11 = .ok (.lload_n 1, 1) := by decide +kernel
theorem dX7_write_12 : decode cX7_write 12 = .ok (.iload 4, 2) := by decide +kernel
theorem dX7_write_14 : decode cX7_write 14 = .ok (.invokestatic 38, 3) := by decide +kernel
theorem dX7_write_17 : decode cX7_write 17 = .ok (.istore 5, 2) := by decide +kernel
theorem dX7_write_19 : decode cX7_write 19 = .ok (.iload 5, 2) := by decide +kernel
theorem dX7_write_21 : decode cX7_write 21 = .ok (.ifCond .eq 24, 3) := by decide +kernel
theorem dX7_write_24 : decode cX7_write 24 = .ok (.iload 5, 2) := by decide +kernel
theorem dX7_write_26 : decode cX7_write 26 = .ok (.invokestatic 42, 3) := by decide +kernel
theorem dX7_write_29 : decode cX7_write 29 = .ok (.ifCond .ne 13, 3) := by decide +kernel
theorem dX7_write_32 : decode cX7_write 32 = .ok (.new 48, 3) := by decide +kernel
theorem dX7_write_35 : decode cX7_write 35 = .ok (.dup, 1) := by decide +kernel
theorem dX7_write_36 : decode cX7_write 36 = .ok (.ldc 50, 2) := by decide +kernel
theorem dX7_write_38 : decode cX7_write 38 = .ok (.invokespecial 52, 3) := by decide +kernel
theorem dX7_write_41 : decode cX7_write 41 = .ok (.athrow, 1) := by decide +kernel
theorem dX7_write_42 : decode cX7_write 42 = .ok (.iinc 3 1, 3) := by decide +kernel
theorem dX7_write_45 : decode cX7_write 45 = .ok (.iinc 4 (-8), 3) := by decide +kernel
theorem dX7_write_48 : decode cX7_write 48 = .ok (.goto (-42), 3) := by decide +kernel
theorem dX7_write_51 : decode cX7_write 51 = .ok (.aload_n 0, 1) := by decide +kernel
theorem dX7_write_52 : decode cX7_write 52 = .ok (.getfield 10, 3) := by decide +kernel
theorem dX7_write_55 : decode cX7_write 55 = .ok (.getfield 55, 3) := by decide +kernel
theorem dX7_write_58 : decode cX7_write 58 = .ok (.iload_n 3, 1) := by decide +kernel
theorem dX7_write_59 : decode cX7_write 59 = .ok (.iadd, 1) := by decide +kernel
theorem dX7_write_60 : decode cX7_write 60 = .ok (.bipush 80, 2) := by decide +kernel
theorem dX7_write_62 : decode cX7_write 62 = .ok (.if_icmp .le 13, 3) := by decide +kernel
theorem dX7_write_65 : decode cX7_write 65 = .ok (.new 59, 3) := by decide +kernel
theorem dX7_write_68 : decode cX7_write 68 = .ok (.dup, 1) := by decide +kernel
theorem dX7_write_69 : decode cX7_write 69 = .ok (.ldc 61, 2) := by decide +kernel
theorem dX7_write_71 : decode cX7_write 71 = .ok (.invokespecial 63, 3) := by decide +kernel
theorem dX7_write_74 : decode cX7_write 74 = .ok (.athrow, 1) := by decide +kernel
theorem dX7_write_75 : decode cX7_write 75 = .ok (.bipush 56, 2) := by decide +kernel
theorem dX7_write_77 : decode cX7_write 77 = .ok (.istore 4, 2) := by decide +kernel
theorem dX7_write_79 : decode cX7_write 79 = .ok (.iload 4, 2) := by decide +kernel
theorem dX7_write_81 : decode cX7_write 81 = .ok (.ifCond .lt 29, 3) := by decide +kernel
theorem dX7_write_84 : decode cX7_write 84 = .ok (.lload_n 1, 1) := by decide +kernel
theorem dX7_write_85 : decode cX7_write 85 = .ok (.iload 4, 2) := by decide +kernel
theorem dX7_write_87 : decode cX7_write 87 = .ok (.invokestatic 38, 3) := by decide +kernel
theorem dX7_write_90 : decode cX7_write 90 = .ok (.istore 5, 2) := by decide +kernel
theorem dX7_write_92 : decode cX7_write 92 = .ok (.iload 5, 2) := by decide +kernel
theorem dX7_write_94 : decode cX7_write 94 = .ok (.ifCond .eq 10, 3) := by decide +kernel
theorem dX7_write_97 : decode cX7_write 97 = .ok (.aload_n 0, 1) := by decide +kernel
theorem dX7_write_98 : decode cX7_write 98 = .ok (.iload 5, 2) := by decide +kernel
theorem dX7_write_100 : decode cX7_write 100 = .ok (.invokevirtual 64, 3) := by decide +kernel
theorem dX7_write_103 : decode cX7_write 103 = .ok (.pop, 1) := by decide +kernel
theorem dX7_write_104 : decode cX7_write 104 = .ok (.iinc 4 (-8), 3) := by decide +kernel
theorem dX7_write_107 : decode cX7_write 107 = .ok (.goto (-28), 3) := by decide +kernel
theorem dX7_write_110 : decode cX7_write 110 = .ok (.aload_n 0, 1) := by decide +kernel
theorem dX7_write_111 : decode cX7_write 111 = .ok (.getfield 10, 3) := by decide +kernel
theorem dX7_write_114 : decode cX7_write 114 = .ok (.getfield 55, 3) := by decide +kernel
theorem dX7_write_117 : decode cX7_write 117 = .ok (.ireturn, 1) := by decide +kernel
theorem dX7_when_0 : decode cX7_when 0 = .ok (.aload_n 0, 1) := by decide +kernel
theorem dX7_when_1 : decode cX7_when 1 = .ok (.iload_n 1, 1) := by decide +kernel
theorem dX7_when_2 : decode cX7_when 2 = .ok (.invokevirtual 68, 3) := by decide +kernel
theorem dX7_when_5 : decode cX7_when 5 = .ok (.aload_n 0, 1) := by decide +kernel
theorem dX7_when_6 : decode cX7_when 6 = .ok (.invokevirtual 72, 3) := by decide +kernel
theorem dX7_when_9 : decode cX7_when 9 = .ok (.aload_n 0, 1) := by decide +kernel
theorem dX7_when_10 : decode cX7_when 10 = .ok (.getfield 10, 3) := by decide +kernel
theorem dX7_when_13 : decode cX7_when 13 = .ok (.invokevirtual 75, 3) := by decide +kernel
theorem dX7_when_16 : decode cX7_when 16 = .ok (.iconst 5, 1) := by decide +kernel
theorem dX7_when_17 : decode cX7_when 17 = .ok (.if_icmp .lt 13, 3) := by decide +kernel
theorem dX7_when_20 : decode cX7_when 20 = .ok (.new 59, 3) := by decide +kernel
theorem dX7_when_23 : decode cX7_when 23 = .ok (.dup, 1) := by decide +kernel
theorem dX7_when_24 : decode cX7_when 24 = .ok (.ldc 79, 2) := by decide +kernel
theorem dX7_when_26 : decode cX7_when 26 = .ok (.invokespecial 63, 3) := by decide +kernel
theorem dX7_when_29 : decode cX7_when 29 = .ok (.athrow, 1) := by decide +kernel
theorem dX7_when_30 : decode cX7_when 30 = .ok (.aload_n 0, 1) := by decide +kernel
theorem dX7_when_31 : decode cX7_when 31 = .ok (.iload_n 1, 1) := by decide +kernel
theorem dX7_when_32 : decode cX7_when 32 = .ok (.iload_n 2, 1) := by decide +kernel
theorem dX7_when_33 : decode cX7_when 33 = .ok (.invokestatic 81, 3) := by decide +kernel
theorem dX7_when_36 : decode cX7_when 36 = .ok (.invokevirtual 64, 3) := by decide +kernel
theorem dX7_when_39 : decode cX7_when 39 = .ok (.ireturn, 1) := by decide +kernel
theorem dX7_otherwise_0 : decode cX7_otherwise 0 = .ok (.aload_n 0, 1) := by decide +kernel
theorem dX7_otherwise_1 : decode cX7_otherwise 1 = .ok (.invokevirtual 72, 3) := by decide +kernel
theorem dX7_otherwise_4 : decode cX7_otherwise 4 = .ok (.aload_n 0, 1) := by decide +kernel
theorem dX7_otherwise_5 : decode cX7_otherwise 5 = .ok (.invokevirtual 85, 3) := by decide +kernel
theorem dX7_otherwise_8 : decode cX7_otherwise 8 = .ok (.aload_n 0, 1) := by decide +kernel
theorem dX7_otherwise_9 : decode cX7_otherwise 9 = .ok (.getfield 10, 3) := by decide +kernel
theorem dX7_otherwise_12 : decode cX7_otherwise 12 = .ok (.invokevirtual 88, 3) := by decide +kernel
theorem dX7_otherwise_15 : decode cX7_otherwise 15 = .ok (.ifCond .eq 13, 3) := by decide +kernel
theorem dX7_otherwise_18 : decode cX7_otherwise 18 = .ok (.new 59, 3) := by decide +kernel
theorem dX7_otherwise_21 : decode cX7_otherwise 21 = .ok (.dup, 1) := by decide +kernel
theorem dX7_otherwise_22 : decode cX7_otherwise 22 = .ok (.ldc 92, 2) := by decide +kernel
theorem dX7_otherwise_24 : decode cX7_otherwise 24 = .ok (.invokespecial 63, 3) := by decide +kernel
theorem dX7_otherwise_27 : decode cX7_otherwise 27 = .ok (.athrow, 1) := by decide +kernel
theorem dX7_otherwise_28 : decode cX7_otherwise 28 = .ok (.aload_n 0, 1) := by decide +kernel
theorem dX7_otherwise_29 : decode cX7_otherwise 29 = .ok (.bipush 16, 2) := by decide +kernel
theorem dX7_otherwise_31 : decode cX7_otherwise 31 = .ok (.invokevirtual 64, 3) := by decide +kernel
theorem dX7_otherwise_34 : decode cX7_otherwise 34 = .ok (.ireturn, 1) := by decide +kernel
theorem dX7_done_0 : decode cX7_done 0 = .ok (.aload_n 0, 1) := by decide +kernel
theorem dX7_done_1 : decode cX7_done 1 = .ok (.invokevirtual 72, 3) := by decide +kernel
theorem dX7_done_4 : decode cX7_done 4 = .ok (.aload_n 0, 1) := by decide +kernel
theorem dX7_done_5 : decode cX7_done 5 = .ok (.invokevirtual 85, 3) := by decide +kernel
theorem dX7_done_8 : decode cX7_done 8 = .ok (.aload_n 0, 1) := by decide +kernel
theorem dX7_done_9 : decode cX7_done 9 = .ok (.bipush 17, 2) := by decide +kernel
theorem dX7_done_11 : decode cX7_done 11 = .ok (.invokevirtual 64, 3) := by decide +kernel
theorem dX7_done_14 : decode cX7_done 14 = .ok (.ireturn, 1) := by decide +kernel
theorem dX7_set_0 : decode cX7_set 0 = .ok (.aload_n 0, 1) := by decide +kernel
theorem dX7_set_1 : decode cX7_set 1 = .ok (.iload_n 1, 1) := by decide +kernel
theorem dX7_set_2 : decode cX7_set 2 = .ok (.invokevirtual 68, 3) := by decide +kernel
theorem dX7_set_5 : decode cX7_set 5 = .ok (.aload_n 0, 1) := by decide +kernel
theorem dX7_set_6 : decode cX7_set 6 = .ok (.invokevirtual 72, 3) := by decide +kernel
theorem dX7_set_9 : decode cX7_set 9 = .ok (.aload_n 0, 1) := by decide +kernel
theorem dX7_set_10 : decode cX7_set 10 = .ok (.iload_n 1, 1) := by decide +kernel
theorem dX7_set_11 : decode cX7_set 11 = .ok (.iload_n 2, 1) := by decide +kernel
theorem dX7_set_12 : decode cX7_set 12 = .ok (.invokestatic 94, 3) := by decide +kernel
theorem dX7_set_15 : decode cX7_set 15 = .ok (.invokevirtual 64, 3) := by decide +kernel
theorem dX7_set_18 : decode cX7_set 18 = .ok (.ireturn, 1) := by decide +kernel
theorem dX7_drop_0 : decode cX7_drop 0 = .ok (.aload_n 0, 1) := by decide +kernel
theorem dX7_drop_1 : decode cX7_drop 1 = .ok (.getfield 10, 3) := by decide +kernel
theorem dX7_drop_4 : decode cX7_drop 4 = .ok (.getfield 55, 3) := by decide +kernel
theorem dX7_drop_7 : decode cX7_drop 7 = .ok (.ifCond .ne 13, 3) := by decide +kernel
theorem dX7_drop_10 : decode cX7_drop 10 = .ok (.new 59, 3) := by decide +kernel
theorem dX7_drop_13 : decode cX7_drop 13 = .ok (.dup, 1) := by decide +kernel
theorem dX7_drop_14 : decode cX7_drop 14 = .ok (.ldc 97, 2) := by decide +kernel
theorem dX7_drop_16 : decode cX7_drop 16 = .ok (.invokespecial 63, 3) := by decide +kernel
theorem dX7_drop_19 : decode cX7_drop 19 = .ok (.athrow, 1) := by decide +kernel
theorem dX7_drop_20 : decode cX7_drop 20 = .ok (.aload_n 0, 1) := by decide +kernel
theorem dX7_drop_21 : decode cX7_drop 21 = .ok (.getfield 10, 3) := by decide +kernel
theorem dX7_drop_24 : decode cX7_drop 24 = .ok (.invokevirtual 99, 3) := by decide +kernel
theorem dX7_drop_27 : decode cX7_drop 27 = .ok (.aload_n 0, 1) := by decide +kernel
theorem dX7_drop_28 : decode cX7_drop 28 = .ok (.iconst 0, 1) := by decide +kernel
theorem dX7_drop_29 : decode cX7_drop 29 = .ok (.putfield 34, 3) := by decide +kernel
theorem dX7_drop_32 : decode cX7_drop 32 = .ok (.aload_n 0, 1) := by decide +kernel
theorem dX7_drop_33 : decode cX7_drop 33 = .ok (.getfield 10, 3) := by decide +kernel
theorem dX7_drop_36 : decode cX7_drop 36 = .ok (.getfield 55, 3) := by decide +kernel
theorem dX7_drop_39 : decode cX7_drop 39 = .ok (.ireturn, 1) := by decide +kernel
theorem dX7_replace_0 : decode cX7_replace 0 = .ok (.aload_n 0, 1) := by decide +kernel
theorem dX7_replace_1 : decode cX7_replace 1 = .ok (.iload_n 1, 1) := by decide +kernel
theorem dX7_replace_2 : decode cX7_replace 2 = .ok (.invokevirtual 102, 3) := by decide +kernel
theorem dX7_replace_5 : decode cX7_replace 5 = .ok (.aload_n 0, 1) := by decide +kernel
theorem dX7_replace_6 : decode cX7_replace 6 = .ok (.getfield 10, 3) := by decide +kernel
theorem dX7_replace_9 : decode cX7_replace 9 = .ok (.getfield 105, 3) := by decide +kernel
theorem dX7_replace_12 : decode cX7_replace 12 = .ok (.iload_n 1, 1) := by decide +kernel
theorem dX7_replace_13 : decode cX7_replace 13 = .ok (.iaload, 1) := by decide +kernel
theorem dX7_replace_14 : decode cX7_replace 14 = .ok (.istore_n 3, 1) := by decide +kernel
theorem dX7_replace_15 : decode cX7_replace 15 = .ok (.iload_n 3, 1) := by decide +kernel
theorem dX7_replace_16 : decode cX7_replace 16 = .ok (.invokestatic 42, 3) := by decide +kernel
theorem dX7_replace_19 : decode cX7_replace 19 = .ok (.ifCond .ne 13, 3) := by decide +kernel
theorem dX7_replace_22 : decode cX7_replace 22 = .ok (.new 59, 3) := by decide +kernel
theorem dX7_replace_25 : decode cX7_replace 25 = .ok (.dup, 1) := by decide +kernel
theorem dX7_replace_26 : decode cX7_replace 26 = .ok (.ldc 108, 2) := by decide +kernel
theorem dX7_replace_28 : decode cX7_replace 28 = .ok (.invokespecial 63, 3) := by decide +kernel
theorem dX7_replace_31 : decode cX7_replace 31 = .ok (.athrow, 1) := by decide +kernel
theorem dX7_replace_32 : decode cX7_replace 32 = .ok (.iload_n 2, 1) := by decide +kernel
theorem dX7_replace_33 : decode cX7_replace 33 = .ok (.invokestatic 42, 3) := by decide +kernel
theorem dX7_replace_36 : decode cX7_replace 36 = .ok (.ifCond .ne 13, 3) := by decide +kernel
theorem dX7_replace_39 : decode cX7_replace 39 = .ok (.new 48, 3) := by decide +kernel
theorem dX7_replace_42 : decode cX7_replace 42 = .ok (.dup, 1) := by decide +kernel
theorem dX7_replace_43 : decode cX7_replace 43 = .ok (.ldc 110, 2) := by decide +kernel
theorem dX7_replace_45 : decode cX7_replace 45 = .ok (.invokespecial 52, 3) := by decide +kernel
theorem dX7_replace_48 : decode cX7_replace 48 = .ok (.athrow, 1) := by decide +kernel
theorem dX7_replace_49 : decode cX7_replace 49 = .ok (.aload_n 0, 1) := by decide +kernel
theorem dX7_replace_50 : decode cX7_replace 50 = .ok (.getfield 10, 3) := by decide +kernel
theorem dX7_replace_53 : decode cX7_replace 53 = .ok (.getfield 105, 3) := by decide +kernel
theorem dX7_replace_56 : decode cX7_replace 56 = .ok (.iload_n 1, 1) := by decide +kernel
theorem dX7_replace_57 : decode cX7_replace 57 = .ok (.iload_n 2, 1) := by decide +kernel
theorem dX7_replace_58 : decode cX7_replace 58 = .ok (.iastore, 1) := by decide +kernel
theorem dX7_replace_59 : decode cX7_replace 59 = .ok (.aload_n 0, 1) := by decide +kernel
theorem dX7_replace_60 : decode cX7_replace 60 = .ok (.iconst 0, 1) := by decide +kernel
theorem dX7_replace_61 : decode cX7_replace 61 = .ok (.putfield 34, 3) := by decide +kernel
theorem dX7_replace_64 : decode cX7_replace 64 = .ok (.iload_n 3, 1) := by decide +kernel
theorem dX7_replace_65 : decode cX7_replace 65 = .ok (.ireturn, 1) := by decide +kernel
end
section
theorem dX7_size_0 : decode cX7_size 0 = .ok (.aload_n 0, 1) := by decide +kernel
theorem dX7_size_1 : decode cX7_size 1 = .ok (.getfield 10, 3) := by decide +kernel
theorem dX7_size_4 : decode cX7_size 4 = .ok (.getfield 55, 3) := by decide +kernel
theorem dX7_size_7 : decode cX7_size 7 = .ok (.ireturn, 1) := by decide +kernel
theorem dX7_item_0 : decode cX7_item 0 = .ok (.aload_n 0, 1) := by decide +kernel
theorem dX7_item_1 : decode cX7_item 1 = .ok (.iload_n 1, 1) := by decide +kernel
theorem dX7_item_2 : decode cX7_item 2 = .ok (.invokevirtual 102, 3) := by decide +kernel
theorem dX7_item_5 : decode cX7_item 5 = .ok (.aload_n 0, 1) := by decide +kernel
theorem dX7_item_6 : decode cX7_item 6 = .ok (.getfield 10, 3) := by decide +kernel
theorem dX7_item_9 : decode cX7_item 9 = .ok (.getfield 105, 3) := by decide +kernel
theorem dX7_item_12 : decode cX7_item 12 = .ok (.iload_n 1, 1) := by decide +kernel
theorem dX7_item_13 : decode cX7_item 13 = .ok (.iaload, 1) := by decide +kernel
theorem dX7_item_14 : decode cX7_item 14 = .ok (.ireturn, 1) := by decide +kernel
theorem dX7_unfinished_0 : decode cX7_unfinished 0 = .ok (.aload_n 0, 1) := by decide +kernel
theorem dX7_unfinished_1 : decode cX7_unfinished 1 = .ok (.getfield 10, 3) := by decide +kernel
theorem dX7_unfinished_4 : decode cX7_unfinished 4 = .ok (.invokevirtual 75, 3) := by decide +kernel
theorem dX7_unfinished_7 : decode cX7_unfinished 7 = .ok (.ireturn, 1) := by decide +kernel
theorem dX7_presence_0 : decode cX7_presence 0 = .ok (.aload_n 0, 1) := by decide +kernel
theorem dX7_presence_1 : decode cX7_presence 1 = .ok (.iload_n 1, 1) := by decide +kernel
theorem dX7_presence_2 : decode cX7_presence 2 = .ok (.invokevirtual 102, 3) := by decide +kernel
theorem dX7_presence_5 : decode cX7_presence 5 = .ok (.aload_n 0, 1) := by decide +kernel
theorem dX7_presence_6 : decode cX7_presence 6 = .ok (.invokevirtual 112, 3) := by decide +kernel
theorem dX7_presence_9 : decode cX7_presence 9 = .ok (.aload_n 0, 1) := by decide +kernel
theorem dX7_presence_10 : decode cX7_presence 10 = .ok (.getfield 19, 3) := by decide +kernel
theorem dX7_presence_13 : decode cX7_presence 13 = .ok (.getfield 115, 3) := by decide +kernel
theorem dX7_presence_16 : decode cX7_presence 16 = .ok (.iload_n 1, 1) := by decide +kernel
theorem dX7_presence_17 : decode cX7_presence 17 = .ok (.iaload, 1) := by decide +kernel
theorem dX7_presence_18 : decode cX7_presence 18 = .ok (.ireturn, 1) := by decide +kernel
theorem dX7_on_0 : decode cX7_on 0 = .ok (.aload_n 0, 1) := by decide +kernel
theorem dX7_on_1 : decode cX7_on 1 = .ok (.iload_n 1, 1) := by decide +kernel
theorem dX7_on_2 : decode cX7_on 2 = .ok (.invokevirtual 68, 3) := by decide +kernel
theorem dX7_on_5 : decode cX7_on 5 = .ok (.aload_n 0, 1) := by decide +kernel
theorem dX7_on_6 : decode cX7_on 6 = .ok (.iload_n 2, 1) := by decide +kernel
theorem dX7_on_7 : decode cX7_on 7 = .ok (.invokevirtual 102, 3) := by decide +kernel
theorem dX7_on_10 : decode cX7_on 10 = .ok (.aload_n 0, 1) := by decide +kernel
theorem dX7_on_11 : decode cX7_on 11 = .ok (.invokevirtual 112, 3) := by decide +kernel
theorem dX7_on_14 : decode cX7_on 14 = .ok (.aload_n 0, 1) := by decide +kernel
theorem dX7_on_15 : decode cX7_on 15 = .ok (.getfield 19, 3) := by decide +kernel
theorem dX7_on_18 : decode cX7_on 18 = .ok (.getfield 118, 3) := by decide +kernel
theorem dX7_on_21 : decode cX7_on 21 = .ok (.iload_n 1, 1) := by decide +kernel
theorem dX7_on_22 : decode cX7_on 22 = .ok (.aaload, 1) := by decide +kernel
theorem dX7_on_23 : decode cX7_on 23 = .ok (.iload_n 2, 1) := by decide +kernel
theorem dX7_on_24 : decode cX7_on 24 = .ok (.iaload, 1) := by decide +kernel
theorem dX7_on_25 : decode cX7_on 25 = .ok (.ireturn, 1) := by decide +kernel
theorem dX7_features_0 : decode cX7_features 0 = .ok (.iload_n 1, 1) := by decide +kernel
theorem dX7_features_1 : decode cX7_features 1 = .ok (.ifCond .lt 9, 3) := by decide +kernel
theorem dX7_features_4 : decode cX7_features 4 = .ok (.iload_n 1, 1) := by decide +kernel
theorem dX7_features_5 : decode cX7_features 5 = .ok (.ldc 122, 2) := by decide +kernel
theorem dX7_features_7 : decode cX7_features 7 = .ok (.if_icmp .le 13, 3) := by decide +kernel
theorem dX7_features_10 : decode cX7_features 10 = .ok (.new 48, 3) := by decide +kernel
theorem dX7_features_13 : decode cX7_features 13 = .ok (.dup, 1) := by decide +kernel
theorem dX7_features_14 : decode cX7_features 14 = .ok (.ldc 123, 2) := by decide +kernel
theorem dX7_features_16 : decode cX7_features 16 = .ok (.invokespecial 52, 3) := by decide +kernel
theorem dX7_features_19 : decode cX7_features 19 = .ok (.athrow, 1) := by decide +kernel
theorem dX7_features_20 : decode cX7_features 20 = .ok (.iconst 0, 1) := by decide +kernel
theorem dX7_features_21 : decode cX7_features 21 = .ok (.istore_n 2, 1) := by decide +kernel
theorem dX7_features_22 : decode cX7_features 22 = .ok (.iconst 0, 1) := by decide +kernel
theorem dX7_features_23 : decode cX7_features 23 = .ok (.istore_n 3, 1) := by decide +kernel
theorem dX7_features_24 : decode cX7_features 24 = .ok (.iload_n 3, 1) := by decide +kernel
theorem dX7_features_25 : decode cX7_features 25 = .ok (.iconst 4, 1) := by decide +kernel
theorem dX7_features_26 : decode cX7_features 26 = .ok (.if_icmp .ge 23, 3) := by decide +kernel
theorem dX7_features_29 : decode cX7_features 29 = .ok (.iload_n 3, 1) := by decide +kernel
theorem dX7_features_30 : decode cX7_features 30 = .ok (.iload_n 1, 1) := by decide +kernel
theorem dX7_features_31 : decode cX7_features 31 = .ok (.invokestatic 125, 3) := by decide +kernel
theorem dX7_features_34 : decode cX7_features 34 = .ok (.ifCond .eq 9, 3) := by decide +kernel
theorem dX7_features_37 : decode cX7_features 37 = .ok (.iload_n 2, 1) := by decide +kernel
theorem dX7_features_38 : decode cX7_features 38 = .ok (.iconst 1, 1) := by decide +kernel
theorem dX7_features_39 : decode cX7_features 39 = .ok (.iload_n 3, 1) := by decide +kernel
theorem dX7_features_40 : decode cX7_features 40 = .ok (.ishl, 1) := by decide +kernel
theorem dX7_features_41 : decode cX7_features 41 = .ok (.ior, 1) := by decide +kernel
theorem dX7_features_42 : decode cX7_features 42 = .ok (.istore_n 2, 1) := by decide +kernel
theorem dX7_features_43 : decode cX7_features 43 = .ok (.iinc 3 1, 3) := by decide +kernel
theorem dX7_features_46 : decode cX7_features 46 = .ok (.goto (-22), 3) := by decide +kernel
theorem dX7_features_49 : decode cX7_features 49 = .ok (.iload_n 2, 1) := by decide +kernel
theorem dX7_features_50 : decode cX7_features 50 = .ok (.ireturn, 1) := by decide +kernel
theorem dX7_dead_0 : decode cX7_dead 0 = .ok (.aload_n 0, 1) := by decide +kernel
theorem dX7_dead_1 : decode cX7_dead 1 = .ok (.invokevirtual 112, 3) := by decide +kernel
theorem dX7_dead_4 : decode cX7_dead 4 = .ok (.iconst 0, 1) := by decide +kernel
theorem dX7_dead_5 : decode cX7_dead 5 = .ok (.istore_n 1, 1) := by decide +kernel
theorem dX7_dead_6 : decode cX7_dead 6 = .ok (.iconst 0, 1) := by decide +kernel
theorem dX7_dead_7 : decode cX7_dead 7 = .ok (.istore_n 2, 1) := by decide +kernel
theorem dX7_dead_8 : decode cX7_dead 8 = .ok (.iload_n 2, 1) := by decide +kernel
theorem dX7_dead_9 : decode cX7_dead 9 = .ok (.aload_n 0, 1) := by decide +kernel
theorem dX7_dead_10 : decode cX7_dead 10 = .ok (.getfield 10, 3) := by decide +kernel
theorem dX7_dead_13 : decode cX7_dead 13 = .ok (.getfield 55, 3) := by decide +kernel
theorem dX7_dead_16 : decode cX7_dead 16 = .ok (.if_icmp .ge 39, 3) := by decide +kernel
theorem dX7_dead_19 : decode cX7_dead 19 = .ok (.aload_n 0, 1) := by decide +kernel
theorem dX7_dead_20 : decode cX7_dead 20 = .ok (.getfield 10, 3) := by decide +kernel
theorem dX7_dead_23 : decode cX7_dead 23 = .ok (.getfield 105, 3) := by decide +kernel
theorem dX7_dead_26 : decode cX7_dead 26 = .ok (.iload_n 2, 1) := by decide +kernel
theorem dX7_dead_27 : decode cX7_dead 27 = .ok (.iaload, 1) := by decide +kernel
theorem dX7_dead_28 : decode cX7_dead 28 = .ok (.invokestatic 42, 3) := by decide +kernel
theorem dX7_dead_31 : decode cX7_dead 31 = .ok (.ifCond .eq 18, 3) := by decide +kernel
theorem dX7_dead_34 : decode cX7_dead 34 = .ok (.aload_n 0, 1) := by decide +kernel
theorem dX7_dead_35 : decode cX7_dead 35 = .ok (.getfield 19, 3) := by decide +kernel
theorem dX7_dead_38 : decode cX7_dead 38 = .ok (.getfield 115, 3) := by decide +kernel
theorem dX7_dead_41 : decode cX7_dead 41 = .ok (.iload_n 2, 1) := by decide +kernel
theorem dX7_dead_42 : decode cX7_dead 42 = .ok (.iaload, 1) := by decide +kernel
theorem dX7_dead_43 : decode cX7_dead 43 = .ok (.ifCond .ne 6, 3) := by decide +kernel
theorem dX7_dead_46 : decode cX7_dead 46 = .ok (.iinc 1 1, 3) := by decide +kernel
theorem dX7_dead_49 : decode cX7_dead 49 = .ok (.iinc 2 1, 3) := by decide +kernel
theorem dX7_dead_52 : decode cX7_dead 52 = .ok (.goto (-44), 3) := by decide +kernel
theorem dX7_dead_55 : decode cX7_dead 55 = .ok (.iload_n 1, 1) := by decide +kernel
theorem dX7_dead_56 : decode cX7_dead 56 = .ok (.ireturn, 1) := by decide +kernel
theorem dX7_length_0 : decode cX7_length 0 = .ok (.aload_n 0, 1) := by decide +kernel
theorem dX7_length_1 : decode cX7_length 1 = .ok (.iload_n 1, 1) := by decide +kernel
theorem dX7_length_2 : decode cX7_length 2 = .ok (.invokevirtual 129, 3) := by decide +kernel
theorem dX7_length_5 : decode cX7_length 5 = .ok (.aload_n 0, 1) := by decide +kernel
theorem dX7_length_6 : decode cX7_length 6 = .ok (.invokevirtual 112, 3) := by decide +kernel
theorem dX7_length_9 : decode cX7_length 9 = .ok (.aload_n 0, 1) := by decide +kernel
theorem dX7_length_10 : decode cX7_length 10 = .ok (.getfield 25, 3) := by decide +kernel
theorem dX7_length_13 : decode cX7_length 13 = .ok (.iload_n 1, 1) := by decide +kernel
theorem dX7_length_14 : decode cX7_length 14 = .ok (.aaload, 1) := by decide +kernel
theorem dX7_length_15 : decode cX7_length 15 = .ok (.getfield 132, 3) := by decide +kernel
theorem dX7_length_18 : decode cX7_length 18 = .ok (.ireturn, 1) := by decide +kernel
theorem dX7_place_0 : decode cX7_place 0 = .ok (.aload_n 0, 1) := by decide +kernel
theorem dX7_place_1 : decode cX7_place 1 = .ok (.iload_n 1, 1) := by decide +kernel
theorem dX7_place_2 : decode cX7_place 2 = .ok (.invokevirtual 129, 3) := by decide +kernel
theorem dX7_place_5 : decode cX7_place 5 = .ok (.aload_n 0, 1) := by decide +kernel
theorem dX7_place_6 : decode cX7_place 6 = .ok (.invokevirtual 112, 3) := by decide +kernel
theorem dX7_place_9 : decode cX7_place 9 = .ok (.aload_n 0, 1) := by decide +kernel
theorem dX7_place_10 : decode cX7_place 10 = .ok (.iload_n 1, 1) := by decide +kernel
theorem dX7_place_11 : decode cX7_place 11 = .ok (.iload_n 2, 1) := by decide +kernel
theorem dX7_place_12 : decode cX7_place 12 = .ok (.invokevirtual 135, 3) := by decide +kernel
theorem dX7_place_15 : decode cX7_place 15 = .ok (.aload_n 0, 1) := by decide +kernel
theorem dX7_place_16 : decode cX7_place 16 = .ok (.getfield 25, 3) := by decide +kernel
theorem dX7_place_19 : decode cX7_place 19 = .ok (.iload_n 1, 1) := by decide +kernel
theorem dX7_place_20 : decode cX7_place 20 = .ok (.aaload, 1) := by decide +kernel
theorem dX7_place_21 : decode cX7_place 21 = .ok (.getfield 139, 3) := by decide +kernel
theorem dX7_place_24 : decode cX7_place 24 = .ok (.iload_n 2, 1) := by decide +kernel
theorem dX7_place_25 : decode cX7_place 25 = .ok (.iaload, 1) := by decide +kernel
theorem dX7_place_26 : decode cX7_place 26 = .ok (.ireturn, 1) := by decide +kernel
theorem dX7_variants_0 : decode cX7_variants 0 = .ok (.aload_n 0, 1) := by decide +kernel
theorem dX7_variants_1 : decode cX7_variants 1 = .ok (.invokevirtual 112, 3) := by decide +kernel
theorem dX7_variants_4 : decode cX7_variants 4 = .ok (.iconst 0, 1) := by decide +kernel
theorem dX7_variants_5 : decode cX7_variants 5 = .ok (.istore_n 1, 1) := by decide +kernel
theorem dX7_variants_6 : decode cX7_variants 6 = .ok (.iconst 0, 1) := by decide +kernel
theorem dX7_variants_7 : decode cX7_variants 7 = .ok (.istore_n 2, 1) := by decide +kernel
theorem dX7_variants_8 : decode cX7_variants 8 = .ok (.iload_n 2, 1) := by decide +kernel
theorem dX7_variants_9 : decode cX7_variants 9 = .ok (.bipush 16, 2) := by decide +kernel
theorem dX7_variants_11 : decode cX7_variants 11 = .ok (.if_icmp .ge 20, 3) := by decide +kernel
theorem dX7_variants_14 : decode cX7_variants 14 = .ok (.aload_n 0, 1) := by decide +kernel
theorem dX7_variants_15 : decode cX7_variants 15 = .ok (.iload_n 2, 1) := by decide +kernel
theorem dX7_variants_16 : decode cX7_variants 16 = .ok (.invokevirtual 142, 3) := by decide +kernel
theorem dX7_variants_19 : decode cX7_variants 19 = .ok (.ifCond .eq 6, 3) := by decide +kernel
theorem dX7_variants_22 : decode cX7_variants 22 = .ok (.iinc 1 1, 3) := by decide +kernel
theorem dX7_variants_25 : decode cX7_variants 25 = .ok (.iinc 2 1, 3) := by decide +kernel
theorem dX7_variants_28 : decode cX7_variants 28 = .ok (.goto (-20), 3) := by decide +kernel
theorem dX7_variants_31 : decode cX7_variants 31 = .ok (.iload_n 1, 1) := by decide +kernel
theorem dX7_variants_32 : decode cX7_variants 32 = .ok (.ireturn, 1) := by decide +kernel
theorem dX7_error_0 : decode cX7_error 0 = .ok (.aload_n 0, 1) := by decide +kernel
theorem dX7_error_1 : decode cX7_error 1 = .ok (.iload_n 1, 1) := by decide +kernel
theorem dX7_error_2 : decode cX7_error 2 = .ok (.invokevirtual 129, 3) := by decide +kernel
theorem dX7_error_5 : decode cX7_error 5 = .ok (.aload_n 0, 1) := by decide +kernel
theorem dX7_error_6 : decode cX7_error 6 = .ok (.invokevirtual 145, 3) := by decide +kernel
theorem dX7_error_9 : decode cX7_error 9 = .ok (.aload_n 0, 1) := by decide +kernel
theorem dX7_error_10 : decode cX7_error 10 = .ok (.invokevirtual 112, 3) := by decide +kernel
theorem dX7_error_13 : decode cX7_error 13 = .ok (.aload_n 0, 1) := by decide +kernel
theorem dX7_error_14 : decode cX7_error 14 = .ok (.getfield 25, 3) := by decide +kernel
theorem dX7_error_17 : decode cX7_error 17 = .ok (.iload_n 1, 1) := by decide +kernel
theorem dX7_error_18 : decode cX7_error 18 = .ok (.aaload, 1) := by decide +kernel
theorem dX7_error_19 : decode cX7_error 19 = .ok (.getfield 148, 3) := by decide +kernel
theorem dX7_error_22 : decode cX7_error 22 = .ok (.getfield 152, 3) := by decide +kernel
theorem dX7_error_25 : decode cX7_error 25 = .ok (.ireturn, 1) := by decide +kernel
theorem dX7_wrong_0 : decode cX7_wrong 0 = .ok (.aload_n 0, 1) := by decide +kernel
theorem dX7_wrong_1 : decode cX7_wrong 1 = .ok (.invokevirtual 145, 3) := by decide +kernel
theorem dX7_wrong_4 : decode cX7_wrong 4 = .ok (.aload_n 0, 1) := by decide +kernel
theorem dX7_wrong_5 : decode cX7_wrong 5 = .ok (.invokevirtual 112, 3) := by decide +kernel
theorem dX7_wrong_8 : decode cX7_wrong 8 = .ok (.iconst 0, 1) := by decide +kernel
theorem dX7_wrong_9 : decode cX7_wrong 9 = .ok (.istore_n 1, 1) := by decide +kernel
theorem dX7_wrong_10 : decode cX7_wrong 10 = .ok (.iconst 0, 1) := by decide +kernel
theorem dX7_wrong_11 : decode cX7_wrong 11 = .ok (.istore_n 2, 1) := by decide +kernel
theorem dX7_wrong_12 : decode cX7_wrong 12 = .ok (.iload_n 2, 1) := by decide +kernel
theorem dX7_wrong_13 : decode cX7_wrong 13 = .ok (.bipush 16, 2) := by decide +kernel
theorem dX7_wrong_15 : decode cX7_wrong 15 = .ok (.if_icmp .ge 31, 3) := by decide +kernel
theorem dX7_wrong_18 : decode cX7_wrong 18 = .ok (.aload_n 0, 1) := by decide +kernel
theorem dX7_wrong_19 : decode cX7_wrong 19 = .ok (.getfield 25, 3) := by decide +kernel
theorem dX7_wrong_22 : decode cX7_wrong 22 = .ok (.iload_n 2, 1) := by decide +kernel
theorem dX7_wrong_23 : decode cX7_wrong 23 = .ok (.aaload, 1) := by decide +kernel
theorem dX7_wrong_24 : decode cX7_wrong 24 = .ok (.getfield 148, 3) := by decide +kernel
theorem dX7_wrong_27 : decode cX7_wrong 27 = .ok (.getfield 152, 3) := by decide +kernel
theorem dX7_wrong_30 : decode cX7_wrong 30 = .ok (.iconst (-1), 1) := by decide +kernel
theorem dX7_wrong_31 : decode cX7_wrong 31 = .ok (.if_icmp .eq 9, 3) := by decide +kernel
theorem dX7_wrong_34 : decode cX7_wrong 34 = .ok (.iload_n 1, 1) := by decide +kernel
theorem dX7_wrong_35 : decode cX7_wrong 35 = .ok (.iconst 1, 1) := by decide +kernel
theorem dX7_wrong_36 : decode cX7_wrong 36 = .ok (.iload_n 2, 1) := by decide +kernel
theorem dX7_wrong_37 : decode cX7_wrong 37 = .ok (.ishl, 1) := by decide +kernel
theorem dX7_wrong_38 : decode cX7_wrong 38 = .ok (.ior, 1) := by decide +kernel
theorem dX7_wrong_39 : decode cX7_wrong 39 = .ok (.istore_n 1, 1) := by decide +kernel
theorem dX7_wrong_40 : decode cX7_wrong 40 = .ok (.iinc 2 1, 3) := by decide +kernel
theorem dX7_wrong_43 : decode cX7_wrong 43 = .ok (.goto (-31), 3) := by decide +kernel
theorem dX7_wrong_46 : decode cX7_wrong 46 = .ok (.iload_n 1, 1) := by decide +kernel
theorem dX7_wrong_47 : decode cX7_wrong 47 = .ok (.ireturn, 1) := by decide +kernel
theorem dX7_firstError_0 : decode cX7_firstError 0 = .ok (.aload_n 0, 1) := by decide +kernel
theorem dX7_firstError_1 : decode cX7_firstError 1 = .ok (.invokevirtual 145, 3) := by decide +kernel
theorem dX7_firstError_4 : decode cX7_firstError 4 = .ok (.aload_n 0, 1) := by decide +kernel
theorem dX7_firstError_5 : decode cX7_firstError 5 = .ok (.invokevirtual 112, 3) := by decide +kernel
theorem dX7_firstError_8 : decode cX7_firstError 8 = .ok (.iconst (-1), 1) := by decide +kernel
theorem dX7_firstError_9 : decode cX7_firstError 9 = .ok (.istore_n 1, 1) := by decide +kernel
theorem dX7_firstError_10 : decode cX7_firstError 10 = .ok (.iconst 0, 1) := by decide +kernel
theorem dX7_firstError_11 : decode cX7_firstError 11 = .ok (.istore_n 2, 1) := by decide +kernel
theorem dX7_firstError_12 : decode cX7_firstError 12 = .ok (.iload_n 2, 1) := by decide +kernel
theorem dX7_firstError_13 : decode cX7_firstError 13 = .ok (.bipush 16, 2) := by decide +kernel
theorem dX7_firstError_15 : decode cX7_firstError 15 = .ok (.if_icmp .ge 39, 3) := by decide +kernel
theorem dX7_firstError_18 : decode cX7_firstError 18 = .ok (.aload_n 0, 1) := by decide +kernel
theorem dX7_firstError_19 : decode cX7_firstError 19 = .ok (.getfield 25, 3) := by decide +kernel
theorem dX7_firstError_22 : decode cX7_firstError 22 = .ok (.iload_n 2, 1) := by decide +kernel
theorem dX7_firstError_23 : decode cX7_firstError 23 = .ok (.aaload, 1) := by decide +kernel
theorem dX7_firstError_24 : decode cX7_firstError 24 = .ok (.getfield 148, 3) := by decide +kernel
theorem dX7_firstError_27 : decode cX7_firstError 27 = .ok (.getfield 152, 3) := by decide +kernel
theorem dX7_firstError_30 : decode cX7_firstError 30 = .ok (.istore_n 3, 1) := by decide +kernel
theorem dX7_firstError_31 : decode cX7_firstError 31 = .ok (.iload_n 3, 1) := by decide +kernel
theorem dX7_firstError_32 : decode cX7_firstError 32 = .ok (.iconst (-1), 1) := by decide +kernel
theorem dX7_firstError_33 : decode cX7_firstError 33 = .ok (.if_icmp .eq 15, 3) := by decide +kernel
theorem dX7_firstError_36 : decode cX7_firstError 36 = .ok (.iload_n 1, 1) := by decide +kernel
theorem dX7_firstError_37 : decode cX7_firstError 37 = .ok (.iconst (-1), 1) := by decide +kernel
theorem dX7_firstError_38 : decode cX7_firstError 38 = .ok (.if_icmp .eq 8, 3) := by decide +kernel
theorem dX7_firstError_41 : decode cX7_firstError 41 = .ok (.iload_n 3, 1) := by decide +kernel
theorem dX7_firstError_42 : decode cX7_firstError 42 = .ok (.iload_n 1, 1) := by decide +kernel
theorem dX7_firstError_43 : decode cX7_firstError 43 = .ok (.if_icmp .ge 5, 3) := by decide +kernel
theorem dX7_firstError_46 : decode cX7_firstError 46 = .ok (.iload_n 3, 1) := by decide +kernel
theorem dX7_firstError_47 : decode cX7_firstError 47 = .ok (.istore_n 1, 1) := by decide +kernel
theorem dX7_firstError_48 : decode cX7_firstError 48 = .ok (.iinc 2 1, 3) := by decide +kernel
theorem dX7_firstError_51 : decode cX7_firstError 51 = .ok (.goto (-39), 3) := by decide +kernel
theorem dX7_firstError_54 : decode cX7_firstError 54 = .ok (.iload_n 1, 1) := by decide +kernel
theorem dX7_firstError_55 : decode cX7_firstError 55 = .ok (.ireturn, 1) := by decide +kernel
theorem dX7_groups_0 : decode cX7_groups 0 = .ok (.aload_n 0, 1) := by decide +kernel
theorem dX7_groups_1 : decode cX7_groups 1 = .ok (.iload_n 1, 1) := by decide +kernel
theorem dX7_groups_2 : decode cX7_groups 2 = .ok (.invokevirtual 102, 3) := by decide +kernel
theorem dX7_groups_5 : decode cX7_groups 5 = .ok (.aload_n 0, 1) := by decide +kernel
theorem dX7_groups_6 : decode cX7_groups 6 = .ok (.invokevirtual 145, 3) := by decide +kernel
theorem dX7_groups_9 : decode cX7_groups 9 = .ok (.aload_n 0, 1) := by decide +kernel
theorem dX7_groups_10 : decode cX7_groups 10 = .ok (.invokevirtual 112, 3) := by decide +kernel
theorem dX7_groups_13 : decode cX7_groups 13 = .ok (.aload_n 0, 1) := by decide +kernel
theorem dX7_groups_14 : decode cX7_groups 14 = .ok (.getfield 30, 3) := by decide +kernel
theorem dX7_groups_17 : decode cX7_groups 17 = .ok (.iload_n 1, 1) := by decide +kernel
theorem dX7_groups_18 : decode cX7_groups 18 = .ok (.iaload, 1) := by decide +kernel
theorem dX7_groups_19 : decode cX7_groups 19 = .ok (.ireturn, 1) := by decide +kernel
theorem dX7_work_0 : decode cX7_work 0 = .ok (.aload_n 0, 1) := by decide +kernel
theorem dX7_work_1 : decode cX7_work 1 = .ok (.invokevirtual 145, 3) := by decide +kernel
theorem dX7_work_4 : decode cX7_work 4 = .ok (.aload_n 0, 1) := by decide +kernel
theorem dX7_work_5 : decode cX7_work 5 = .ok (.invokevirtual 112, 3) := by decide +kernel
theorem dX7_work_8 : decode cX7_work 8 = .ok (.aload_n 0, 1) := by decide +kernel
theorem dX7_work_9 : decode cX7_work 9 = .ok (.invokevirtual 157, 3) := by decide +kernel
theorem dX7_work_12 : decode cX7_work 12 = .ok (.ireturn, 1) := by decide +kernel
theorem dX7_gain_0 : decode cX7_gain 0 = .ok (.aload_n 0, 1) := by decide +kernel
theorem dX7_gain_1 : decode cX7_gain 1 = .ok (.invokevirtual 145, 3) := by decide +kernel
theorem dX7_gain_4 : decode cX7_gain 4 = .ok (.aload_n 0, 1) := by decide +kernel
theorem dX7_gain_5 : decode cX7_gain 5 = .ok (.invokevirtual 112, 3) := by decide +kernel
theorem dX7_gain_8 : decode cX7_gain 8 = .ok (.aload_n 0, 1) := by decide +kernel
theorem dX7_gain_9 : decode cX7_gain 9 = .ok (.invokevirtual 157, 3) := by decide +kernel
theorem dX7_gain_12 : decode cX7_gain 12 = .ok (.istore_n 1, 1) := by decide +kernel
theorem dX7_gain_13 : decode cX7_gain 13 = .ok (.iload_n 1, 1) := by decide +kernel
theorem dX7_gain_14 : decode cX7_gain 14 = .ok (.ifCond .ne 5, 3) := by decide +kernel
theorem dX7_gain_17 : decode cX7_gain 17 = .ok (.dconst 0, 1) := by decide +kernel
theorem dX7_gain_18 : decode cX7_gain 18 = .ok (.dreturn, 1) := by decide +kernel
theorem dX7_gain_19 : decode cX7_gain 19 = .ok (.iconst 0, 1) := by decide +kernel
theorem dX7_gain_20 : decode cX7_gain 20 = .ok (.istore_n 2, 1) := by decide +kernel
theorem dX7_gain_21 : decode cX7_gain 21 = .ok (.iconst 0, 1) := by decide +kernel
theorem dX7_gain_22 : decode cX7_gain 22 = .ok (.istore_n 3, 1) := by decide +kernel
theorem dX7_gain_23 : decode cX7_gain 23 = .ok (.iload_n 3, 1) := by decide +kernel
theorem dX7_gain_24 : decode cX7_gain 24 = .ok (.bipush 16, 2) := by decide +kernel
theorem dX7_gain_26 : decode cX7_gain 26 = .ok (.if_icmp .ge 24, 3) := by decide +kernel
theorem dX7_gain_29 : decode cX7_gain 29 = .ok (.iload_n 2, 1) := by decide +kernel
theorem dX7_gain_30 : decode cX7_gain 30 = .ok (.aload_n 0, 1) := by decide +kernel
theorem dX7_gain_31 : decode cX7_gain 31 = .ok (.getfield 25, 3) := by decide +kernel
theorem dX7_gain_34 : decode cX7_gain 34 = .ok (.iload_n 3, 1) := by decide +kernel
theorem dX7_gain_35 : decode cX7_gain 35 = .ok (.aaload, 1) := by decide +kernel
theorem dX7_gain_36 : decode cX7_gain 36 = .ok (.getfield 148, 3) := by decide +kernel
theorem dX7_gain_39 : decode cX7_gain 39 = .ok (.getfield 160, 3) := by decide +kernel
theorem dX7_gain_42 : decode cX7_gain 42 = .ok (.iadd, 1) := by decide +kernel
theorem dX7_gain_43 : decode cX7_gain 43 = .ok (.istore_n 2, 1) := by decide +kernel
theorem dX7_gain_44 : decode cX7_gain 44 = .ok (.iinc 3 1, 3) := by decide +kernel
theorem dX7_gain_47 : decode cX7_gain 47 = .ok (.goto (-24), 3) := by decide +kernel
theorem dX7_gain_50 : decode cX7_gain 50 = .ok (.iload_n 2, 1) := by decide +kernel
theorem dX7_gain_51 : decode cX7_gain 51 = .ok (.i2d, 1) := by decide +kernel
theorem dX7_gain_52 : decode cX7_gain 52 = .ok (.iload_n 1, 1) := by decide +kernel
theorem dX7_gain_53 : decode cX7_gain 53 = .ok (.i2d, 1) := by decide +kernel
theorem dX7_gain_54 : decode cX7_gain 54 = .ok (.ddiv, 1) := by decide +kernel
theorem dX7_gain_55 : decode cX7_gain 55 = .ok (.dreturn, 1) := by decide +kernel
theorem dX7_stack_0 : decode cX7_stack 0 = .ok (.aload_n 0, 1) := by decide +kernel
theorem dX7_stack_1 : decode cX7_stack 1 = .ok (.iload_n 1, 1) := by decide +kernel
theorem dX7_stack_2 : decode cX7_stack 2 = .ok (.invokevirtual 129, 3) := by decide +kernel
theorem dX7_stack_5 : decode cX7_stack 5 = .ok (.aload_n 0, 1) := by decide +kernel
theorem dX7_stack_6 : decode cX7_stack 6 = .ok (.invokevirtual 112, 3) := by decide +kernel
theorem dX7_stack_9 : decode cX7_stack 9 = .ok (.aload_n 0, 1) := by decide +kernel
theorem dX7_stack_10 : decode cX7_stack 10 = .ok (.iload_n 1, 1) := by decide +kernel
theorem dX7_stack_11 : decode cX7_stack 11 = .ok (.iload_n 2, 1) := by decide +kernel
theorem dX7_stack_12 : decode cX7_stack 12 = .ok (.invokevirtual 135, 3) := by decide +kernel
theorem dX7_stack_15 : decode cX7_stack 15 = .ok (.aload_n 0, 1) := by decide +kernel
theorem dX7_stack_16 : decode cX7_stack 16 = .ok (.invokevirtual 145, 3) := by decide +kernel
theorem dX7_stack_19 : decode cX7_stack 19 = .ok (.aload_n 0, 1) := by decide +kernel
theorem dX7_stack_20 : decode cX7_stack 20 = .ok (.getfield 25, 3) := by decide +kernel
theorem dX7_stack_23 : decode cX7_stack 23 = .ok (.iload_n 1, 1) := by decide +kernel
theorem dX7_stack_24 : decode cX7_stack 24 = .ok (.aaload, 1) := by decide +kernel
theorem dX7_stack_25 : decode cX7_stack 25 = .ok (.getfield 148, 3) := by decide +kernel
theorem dX7_stack_28 : decode cX7_stack 28 = .ok (.iload_n 2, 1) := by decide +kernel
theorem dX7_stack_29 : decode cX7_stack 29 = .ok (.invokevirtual 163, 3) := by decide +kernel
theorem dX7_stack_32 : decode cX7_stack 32 = .ok (.ireturn, 1) := by decide +kernel
theorem dX7_outputs_0 : decode cX7_outputs 0 = .ok (.aload_n 0, 1) := by decide +kernel
theorem dX7_outputs_1 : decode cX7_outputs 1 = .ok (.iload_n 1, 1) := by decide +kernel
theorem dX7_outputs_2 : decode cX7_outputs 2 = .ok (.invokevirtual 129, 3) := by decide +kernel
theorem dX7_outputs_5 : decode cX7_outputs 5 = .ok (.aload_n 0, 1) := by decide +kernel
theorem dX7_outputs_6 : decode cX7_outputs 6 = .ok (.invokevirtual 145, 3) := by decide +kernel
theorem dX7_outputs_9 : decode cX7_outputs 9 = .ok (.aload_n 0, 1) := by decide +kernel
theorem dX7_outputs_10 : decode cX7_outputs 10 = .ok (.invokevirtual 112, 3) := by decide +kernel
theorem dX7_outputs_13 : decode cX7_outputs 13 = .ok (.aload_n 0, 1) := by decide +kernel
theorem dX7_outputs_14 : decode cX7_outputs 14 = .ok (.iload_n 1, 1) := by decide +kernel
theorem dX7_outputs_15 : decode cX7_outputs 15 = .ok (.invokevirtual 166, 3) := by decide +kernel
theorem dX7_outputs_18 : decode cX7_outputs 18 = .ok (.aload_n 0, 1) := by decide +kernel
theorem dX7_outputs_19 : decode cX7_outputs 19 = .ok (.getfield 25, 3) := by decide +kernel
theorem dX7_outputs_22 : decode cX7_outputs 22 = .ok (.iload_n 1, 1) := by decide +kernel
theorem dX7_outputs_23 : decode cX7_outputs 23 = .ok (.aaload, 1) := by decide +kernel
theorem dX7_outputs_24 : decode cX7_outputs 24 = .ok (.getfield 169, 3) := by decide +kernel
theorem dX7_outputs_27 : decode cX7_outputs 27 = .ok (.getfield 173, 3) := by decide +kernel
theorem dX7_outputs_30 : decode cX7_outputs 30 = .ok (.ireturn, 1) := by decide +kernel
theorem dX7_output_0 : decode cX7_output 0 = .ok (.aload_n 0, 1) := by decide +kernel
theorem dX7_output_1 : decode cX7_output 1 = .ok (.iload_n 1, 1) := by decide +kernel
theorem dX7_output_2 : decode cX7_output 2 = .ok (.invokevirtual 129, 3) := by decide +kernel
theorem dX7_output_5 : decode cX7_output 5 = .ok (.aload_n 0, 1) := by decide +kernel
theorem dX7_output_6 : decode cX7_output 6 = .ok (.invokevirtual 145, 3) := by decide +kernel
theorem dX7_output_9 : decode cX7_output 9 = .ok (.aload_n 0, 1) := by decide +kernel
theorem dX7_output_10 : decode cX7_output 10 = .ok (.invokevirtual 112, 3) := by decide +kernel
theorem dX7_output_13 : decode cX7_output 13 = .ok (.aload_n 0, 1) := by decide +kernel
theorem dX7_output_14 : decode cX7_output 14 = .ok (.iload_n 1, 1) := by decide +kernel
theorem dX7_output_15 : decode cX7_output 15 = .ok (.invokevirtual 166, 3) := by decide +kernel
theorem dX7_output_18 : decode cX7_output 18 = .ok (.aload_n 0, 1) := by decide +kernel
theorem dX7_output_19 : decode cX7_output 19 = .ok (.getfield 25, 3) := by decide +kernel
theorem dX7_output_22 : decode cX7_output 22 = .ok (.iload_n 1, 1) := by decide +kernel
theorem dX7_output_23 : decode cX7_output 23 = .ok (.aaload, 1) := by decide +kernel
theorem dX7_output_24 : decode cX7_output 24 = .ok (.getfield 169, 3) := by decide +kernel
theorem dX7_output_27 : decode cX7_output 27 = .ok (.astore_n 3, 1) := by decide +kernel
theorem dX7_output_28 : decode cX7_output 28 = .ok (.iload_n 2, 1) := by decide +kernel
theorem dX7_output_29 : decode cX7_output 29 = .ok (.ifCond .lt 11, 3) := by decide +kernel
theorem dX7_output_32 : decode cX7_output 32 = .ok (.iload_n 2, 1) := by decide +kernel
theorem dX7_output_33 : decode cX7_output 33 = .ok (.aload_n 3, 1) := by decide +kernel
theorem dX7_output_34 : decode cX7_output 34 = .ok (.getfield 173, 3) := by decide +kernel
theorem dX7_output_37 : decode cX7_output 37 = .ok (.if_icmp .lt 13, 3) := by decide +kernel
theorem dX7_output_40 : decode cX7_output 40 = .ok (.new 48, 3) := by decide +kernel
theorem dX7_output_43 : decode cX7_output 43 = .ok (.dup, 1) := by decide +kernel
theorem dX7_output_44 : decode cX7_output 44 = .ok (.ldc 178, 2) := by decide +kernel
theorem dX7_output_46 : decode cX7_output 46 = .ok (.invokespecial 52, 3) := by decide +kernel
theorem dX7_output_49 : decode cX7_output 49 = .ok (.athrow, 1) := by decide +kernel
theorem dX7_output_50 : decode cX7_output 50 = .ok (.aload_n 3, 1) := by decide +kernel
theorem dX7_output_51 : decode cX7_output 51 = .ok (.getfield 180, 3) := by decide +kernel
theorem dX7_output_54 : decode cX7_output 54 = .ok (.iload_n 2, 1) := by decide +kernel
theorem dX7_output_55 : decode cX7_output 55 = .ok (.iaload, 1) := by decide +kernel
theorem dX7_output_56 : decode cX7_output 56 = .ok (.ireturn, 1) := by decide +kernel
theorem dX7_variable_0 : decode cX7_variable 0 = .ok (.aload_n 0, 1) := by decide +kernel
theorem dX7_variable_1 : decode cX7_variable 1 = .ok (.iload_n 1, 1) := by decide +kernel
theorem dX7_variable_2 : decode cX7_variable 2 = .ok (.invokevirtual 129, 3) := by decide +kernel
theorem dX7_variable_5 : decode cX7_variable 5 = .ok (.aload_n 0, 1) := by decide +kernel
theorem dX7_variable_6 : decode cX7_variable 6 = .ok (.invokevirtual 145, 3) := by decide +kernel
theorem dX7_variable_9 : decode cX7_variable 9 = .ok (.aload_n 0, 1) := by decide +kernel
theorem dX7_variable_10 : decode cX7_variable 10 = .ok (.invokevirtual 112, 3) := by decide +kernel
theorem dX7_variable_13 : decode cX7_variable 13 = .ok (.aload_n 0, 1) := by decide +kernel
theorem dX7_variable_14 : decode cX7_variable 14 = .ok (.iload_n 1, 1) := by decide +kernel
theorem dX7_variable_15 : decode cX7_variable 15 = .ok (.invokevirtual 166, 3) := by decide +kernel
theorem dX7_variable_18 : decode cX7_variable 18 = .ok (.iload_n 2, 1) := by decide +kernel
theorem dX7_variable_19 : decode cX7_variable 19 = .ok (.ifCond .lt 8, 3) := by decide +kernel
theorem dX7_variable_22 : decode cX7_variable 22 = .ok (.iload_n 2, 1) := by decide +kernel
theorem dX7_variable_23 : decode cX7_variable 23 = .ok (.iconst 4, 1) := by decide +kernel
theorem dX7_variable_24 : decode cX7_variable 24 = .ok (.if_icmp .lt 13, 3) := by decide +kernel
theorem dX7_variable_27 : decode cX7_variable 27 = .ok (.new 48, 3) := by decide +kernel
theorem dX7_variable_30 : decode cX7_variable 30 = .ok (.dup, 1) := by decide +kernel
theorem dX7_variable_31 : decode cX7_variable 31 = .ok (.ldc 183, 2) := by decide +kernel
theorem dX7_variable_33 : decode cX7_variable 33 = .ok (.invokespecial 52, 3) := by decide +kernel
theorem dX7_variable_36 : decode cX7_variable 36 = .ok (.athrow, 1) := by decide +kernel
theorem dX7_variable_37 : decode cX7_variable 37 = .ok (.aload_n 0, 1) := by decide +kernel
theorem dX7_variable_38 : decode cX7_variable 38 = .ok (.getfield 25, 3) := by decide +kernel
theorem dX7_variable_41 : decode cX7_variable 41 = .ok (.iload_n 1, 1) := by decide +kernel
theorem dX7_variable_42 : decode cX7_variable 42 = .ok (.aaload, 1) := by decide +kernel
theorem dX7_variable_43 : decode cX7_variable 43 = .ok (.getfield 169, 3) := by decide +kernel
theorem dX7_variable_46 : decode cX7_variable 46 = .ok (.getfield 185, 3) := by decide +kernel
theorem dX7_variable_49 : decode cX7_variable 49 = .ok (.iload_n 2, 1) := by decide +kernel
theorem dX7_variable_50 : decode cX7_variable 50 = .ok (.iaload, 1) := by decide +kernel
theorem dX7_variable_51 : decode cX7_variable 51 = .ok (.ireturn, 1) := by decide +kernel
theorem dX7_behaviours_0 : decode cX7_behaviours 0 = .ok (.aload_n 0, 1) := by decide +kernel
theorem dX7_behaviours_1 : decode cX7_behaviours 1 = .ok (.invokevirtual 145, 3) := by decide +kernel
theorem dX7_behaviours_4 : decode cX7_behaviours 4 = .ok (.aload_n 0, 1) := by decide +kernel
theorem dX7_behaviours_5 : decode cX7_behaviours 5 = .ok (.invokevirtual 112, 3) := by decide +kernel
theorem dX7_behaviours_8 : decode cX7_behaviours 8 = .ok (.iconst 0, 1) := by decide +kernel
theorem dX7_behaviours_9 : decode cX7_behaviours 9 = .ok (.istore_n 1, 1) := by decide +kernel
theorem dX7_behaviours_10 : decode cX7_behaviours 10 = .ok (.iconst 0, 1) := by decide +kernel
theorem dX7_behaviours_11 : decode cX7_behaviours 11 = .ok (.istore_n 2, 1) := by decide +kernel
theorem dX7_behaviours_12 : decode cX7_behaviours 12 = .ok (.iload_n 2, 1) := by decide +kernel
theorem dX7_behaviours_13 : decode cX7_behaviours 13 = .ok (.bipush 16, 2) := by decide +kernel
theorem dX7_behaviours_15 : decode cX7_behaviours 15 = .ok (.if_icmp .ge 36, 3) := by decide +kernel
theorem dX7_behaviours_18 : decode cX7_behaviours 18 = .ok (.aload_n 0, 1) := by decide +kernel
theorem dX7_behaviours_19 : decode cX7_behaviours 19 = .ok (.getfield 25, 3) := by decide +kernel
theorem dX7_behaviours_22 : decode cX7_behaviours 22 = .ok (.iload_n 2, 1) := by decide +kernel
theorem dX7_behaviours_23 : decode cX7_behaviours 23 = .ok (.aaload, 1) := by decide +kernel
theorem dX7_behaviours_24 : decode cX7_behaviours 24 = .ok (.getfield 148, 3) := by decide +kernel
theorem dX7_behaviours_27 : decode cX7_behaviours 27 = .ok (.getfield 152, 3) := by decide +kernel
theorem dX7_behaviours_30 : decode cX7_behaviours 30 = .ok (.iconst (-1), 1) := by decide +kernel
theorem dX7_behaviours_31 : decode cX7_behaviours 31 = .ok (.if_icmp .ne 14, 3) := by decide +kernel
theorem dX7_behaviours_34 : decode cX7_behaviours 34 = .ok (.aload_n 0, 1) := by decide +kernel
theorem dX7_behaviours_35 : decode cX7_behaviours 35 = .ok (.iload_n 2, 1) := by decide +kernel
theorem dX7_behaviours_36 : decode cX7_behaviours 36 = .ok (.invokevirtual 188, 3) := by decide +kernel
theorem dX7_behaviours_39 : decode cX7_behaviours 39 = .ok (.ifCond .eq 6, 3) := by decide +kernel
theorem dX7_behaviours_42 : decode cX7_behaviours 42 = .ok (.iinc 1 1, 3) := by decide +kernel
theorem dX7_behaviours_45 : decode cX7_behaviours 45 = .ok (.iinc 2 1, 3) := by decide +kernel
theorem dX7_behaviours_48 : decode cX7_behaviours 48 = .ok (.goto (-36), 3) := by decide +kernel
theorem dX7_behaviours_51 : decode cX7_behaviours 51 = .ok (.iload_n 1, 1) := by decide +kernel
theorem dX7_behaviours_52 : decode cX7_behaviours 52 = .ok (.ireturn, 1) := by decide +kernel
theorem dX7_digest_0 : decode cX7_digest 0 = .ok (.aload_n 0, 1) := by decide +kernel
theorem dX7_digest_1 : decode cX7_digest 1 = .ok (.invokevirtual 112, 3) := by decide +kernel
theorem dX7_digest_4 : decode cX7_digest 4 = .ok (.ldc2_w 191, 3) := by decide +kernel
theorem dX7_digest_7 : decode cX7_digest 7 = .ok (.aload_n 0, 1) := by decide +kernel
theorem dX7_digest_8 : decode cX7_digest 8 = .ok (.getfield 10, 3) := by decide +kernel
theorem dX7_digest_11 : decode cX7_digest 11 = .ok (.getfield 55, 3) := by decide +kernel
theorem dX7_digest_14 : decode cX7_digest 14 = .ok (.i2l, 1) := by decide +kernel
theorem dX7_digest_15 : decode cX7_digest 15 = .ok (.invokestatic 193, 3) := by decide +kernel
theorem dX7_digest_18 : decode cX7_digest 18 = .ok (.lstore_n 1, 1) := by decide +kernel
theorem dX7_digest_19 : decode cX7_digest 19 = .ok (.iconst 0, 1) := by decide +kernel
theorem dX7_digest_20 : decode cX7_digest 20 = .ok (.istore_n 3, 1) := by decide +kernel
theorem dX7_digest_21 : decode cX7_digest 21 = .ok (.iload_n 3, 1) := by decide +kernel
theorem dX7_digest_22 : decode cX7_digest 22 = .ok (.aload_n 0, 1) := by decide +kernel
theorem dX7_digest_23 : decode cX7_digest 23 = .ok (.getfield 10, 3) := by decide +kernel
theorem dX7_digest_26 : decode cX7_digest 26 = .ok (.getfield 55, 3) := by decide +kernel
theorem dX7_digest_29 : decode cX7_digest 29 = .ok (.if_icmp .ge 39, 3) := by decide +kernel
theorem dX7_digest_32 : decode cX7_digest 32 = .ok (.lload_n 1, 1) := by decide +kernel
theorem dX7_digest_33 : decode cX7_digest 33 = .ok (.aload_n 0, 1) := by decide +kernel
theorem dX7_digest_34 : decode cX7_digest 34 = .ok (.getfield 10, 3) := by decide +kernel
theorem dX7_digest_37 : decode cX7_digest 37 = .ok (.getfield 105, 3) := by decide +kernel
theorem dX7_digest_40 : decode cX7_digest 40 = .ok (.iload_n 3, 1) := by decide +kernel
theorem dX7_digest_41 : decode cX7_digest 41 = .ok (.iaload, 1) := by decide +kernel
theorem dX7_digest_42 : decode cX7_digest 42 = .ok (.i2l, 1) := by decide +kernel
theorem dX7_digest_43 : decode cX7_digest 43 = .ok (.invokestatic 193, 3) := by decide +kernel
theorem dX7_digest_46 : decode cX7_digest 46 = .ok (.lstore_n 1, 1) := by decide +kernel
theorem dX7_digest_47 : decode cX7_digest 47 = .ok (.lload_n 1, 1) := by decide +kernel
theorem dX7_digest_48 : decode cX7_digest 48 = .ok (.aload_n 0, 1) := by decide +kernel
theorem dX7_digest_49 : decode cX7_digest 49 = .ok (.getfield 19, 3) := by decide +kernel
theorem dX7_digest_52 : decode cX7_digest 52 = .ok (.getfield 115, 3) := by decide +kernel
theorem dX7_digest_55 : decode cX7_digest 55 = .ok (.iload_n 3, 1) := by decide +kernel
theorem dX7_digest_56 : decode cX7_digest 56 = .ok (.iaload, 1) := by decide +kernel
theorem dX7_digest_57 : decode cX7_digest 57 = .ok (.i2l, 1) := by decide +kernel
theorem dX7_digest_58 : decode cX7_digest 58 = .ok (.invokestatic 193, 3) := by decide +kernel
theorem dX7_digest_61 : decode cX7_digest 61 = .ok (.lstore_n 1, 1) := by decide +kernel
theorem dX7_digest_62 : decode cX7_digest 62 = .ok (.iinc 3 1, 3) := by decide +kernel
theorem dX7_digest_65 : decode cX7_digest 65 = .ok (.goto (-44), 3) := by decide +kernel
theorem dX7_digest_68 : decode cX7_digest 68 = .ok (.aload_n 0, 1) := by decide +kernel
theorem dX7_digest_69 : decode cX7_digest 69 = .ok (.getfield 10, 3) := by decide +kernel
theorem dX7_digest_72 : decode cX7_digest 72 = .ok (.invokevirtual 75, 3) := by decide +kernel
theorem dX7_digest_75 : decode cX7_digest 75 = .ok (.ifCond .ne 28, 3) := by decide +kernel
theorem dX7_digest_78 : decode cX7_digest 78 = .ok (.iconst 0, 1) := by decide +kernel
theorem dX7_digest_79 : decode cX7_digest 79 = .ok (.istore_n 3, 1) := by decide +kernel
theorem dX7_digest_80 : decode cX7_digest 80 = .ok (.iload_n 3, 1) := by decide +kernel
theorem dX7_digest_81 : decode cX7_digest 81 = .ok (.bipush 16, 2) := by decide +kernel
theorem dX7_digest_83 : decode cX7_digest 83 = .ok (.if_icmp .ge 20, 3) := by decide +kernel
theorem dX7_digest_86 : decode cX7_digest 86 = .ok (.lload_n 1, 1) := by decide +kernel
theorem dX7_digest_87 : decode cX7_digest 87 = .ok (.aload_n 0, 1) := by decide +kernel
theorem dX7_digest_88 : decode cX7_digest 88 = .ok (.getfield 25, 3) := by decide +kernel
theorem dX7_digest_91 : decode cX7_digest 91 = .ok (.iload_n 3, 1) := by decide +kernel
theorem dX7_digest_92 : decode cX7_digest 92 = .ok (.aaload, 1) := by decide +kernel
theorem dX7_digest_93 : decode cX7_digest 93 = .ok (.invokestatic 197, 3) := by decide +kernel
theorem dX7_digest_96 : decode cX7_digest 96 = .ok (.lstore_n 1, 1) := by decide +kernel
theorem dX7_digest_97 : decode cX7_digest 97 = .ok (.iinc 3 1, 3) := by decide +kernel
theorem dX7_digest_100 : decode cX7_digest 100 = .ok (.goto (-20), 3) := by decide +kernel
theorem dX7_digest_103 : decode cX7_digest 103 = .ok (.lload_n 1, 1) := by decide +kernel
theorem dX7_digest_104 : decode cX7_digest 104 = .ok (.lreturn, 1) := by decide +kernel
theorem dX7_checkFeature_0 : decode cX7_checkFeature 0 = .ok (.iload_n 1, 1) := by decide +kernel
theorem dX7_checkFeature_1 : decode cX7_checkFeature 1 = .ok (.ifCond .lt 8, 3) := by decide +kernel
theorem dX7_checkFeature_4 : decode cX7_checkFeature 4 = .ok (.iload_n 1, 1) := by decide +kernel
theorem dX7_checkFeature_5 : decode cX7_checkFeature 5 = .ok (.iconst 4, 1) := by decide +kernel
theorem dX7_checkFeature_6 : decode cX7_checkFeature 6 = .ok (.if_icmp .lt 13, 3) := by decide +kernel
theorem dX7_checkFeature_9 : decode cX7_checkFeature 9 = .ok (.new 201, 3) := by decide +kernel
theorem dX7_checkFeature_12 : decode cX7_checkFeature 12 = .ok (.dup, 1) := by decide +kernel
theorem dX7_checkFeature_13 : decode cX7_checkFeature 13 = .ok (.ldc 203, 2) := by decide +kernel
theorem dX7_checkFeature_15 : decode cX7_checkFeature 15 = .ok (.invokespecial 205, 3) := by decide +kernel
theorem dX7_checkFeature_18 : decode cX7_checkFeature 18 = .ok (.athrow, 1) := by decide +kernel
theorem dX7_checkFeature_19 : decode cX7_checkFeature 19 = .ok (.return_, 1) := by decide +kernel
theorem dX7_checkItem_0 : decode cX7_checkItem 0 = .ok (.iload_n 1, 1) := by decide +kernel
theorem dX7_checkItem_1 : decode cX7_checkItem 1 = .ok (.ifCond .lt 14, 3) := by decide +kernel
theorem dX7_checkItem_4 : decode cX7_checkItem 4 = .ok (.iload_n 1, 1) := by decide +kernel
theorem dX7_checkItem_5 : decode cX7_checkItem 5 = .ok (.aload_n 0, 1) := by decide +kernel
theorem dX7_checkItem_6 : decode cX7_checkItem 6 = .ok (.getfield 10, 3) := by decide +kernel
theorem dX7_checkItem_9 : decode cX7_checkItem 9 = .ok (.getfield 55, 3) := by decide +kernel
theorem dX7_checkItem_12 : decode cX7_checkItem 12 = .ok (.if_icmp .lt 13, 3) := by decide +kernel
theorem dX7_checkItem_15 : decode cX7_checkItem 15 = .ok (.new 201, 3) := by decide +kernel
theorem dX7_checkItem_18 : decode cX7_checkItem 18 = .ok (.dup, 1) := by decide +kernel
theorem dX7_checkItem_19 : decode cX7_checkItem 19 = .ok (.ldc 206, 2) := by decide +kernel
theorem dX7_checkItem_21 : decode cX7_checkItem 21 = .ok (.invokespecial 205, 3) := by decide +kernel
theorem dX7_checkItem_24 : decode cX7_checkItem 24 = .ok (.athrow, 1) := by decide +kernel
theorem dX7_checkItem_25 : decode cX7_checkItem 25 = .ok (.return_, 1) := by decide +kernel
theorem dX7_checkConfiguration_0 : decode cX7_checkConfiguration 0 = .ok (.iload_n 1, 1) := by decide +kernel
theorem dX7_checkConfiguration_1 : decode cX7_checkConfiguration 1 = .ok (.ifCond .lt 9, 3) := by decide +kernel
theorem dX7_checkConfiguration_4 : decode cX7_checkConfiguration 4 = .ok (.iload_n 1, 1) := by decide +kernel
theorem dX7_checkConfiguration_5 : decode cX7_checkConfiguration 5 = .ok (.bipush 16, 2) := by decide +kernel
theorem dX7_checkConfiguration_7 : decode cX7_checkConfiguration 7 = .ok (.if_icmp .lt 13, 3) := by decide +kernel
theorem dX7_checkConfiguration_10 : decode cX7_checkConfiguration 10 = .ok (.new 201, 3) := by decide +kernel
theorem dX7_checkConfiguration_13 : decode cX7_checkConfiguration 13 = .ok (.dup, 1) := by decide +kernel
theorem dX7_checkConfiguration_14 : decode cX7_checkConfiguration 14 = .ok (.ldc 208, 2) := by decide +kernel
theorem dX7_checkConfiguration_16 : decode cX7_checkConfiguration 16 = .ok (.invokespecial 205, 3) := by decide +kernel
theorem dX7_checkConfiguration_19 : decode cX7_checkConfiguration 19 = .ok (.athrow, 1) := by decide +kernel
theorem dX7_checkConfiguration_20 : decode cX7_checkConfiguration 20 = .ok (.return_, 1) := by decide +kernel
theorem dX7_checkIndex_0 : decode cX7_checkIndex 0 = .ok (.iload_n 2, 1) := by decide +kernel
theorem dX7_checkIndex_1 : decode cX7_checkIndex 1 = .ok (.ifCond .lt 16, 3) := by decide +kernel
theorem dX7_checkIndex_4 : decode cX7_checkIndex 4 = .ok (.iload_n 2, 1) := by decide +kernel
theorem dX7_checkIndex_5 : decode cX7_checkIndex 5 = .ok (.aload_n 0, 1) := by decide +kernel
theorem dX7_checkIndex_6 : decode cX7_checkIndex 6 = .ok (.getfield 25, 3) := by decide +kernel
theorem dX7_checkIndex_9 : decode cX7_checkIndex 9 = .ok (.iload_n 1, 1) := by decide +kernel
theorem dX7_checkIndex_10 : decode cX7_checkIndex 10 = .ok (.aaload, 1) := by decide +kernel
theorem dX7_checkIndex_11 : decode cX7_checkIndex 11 = .ok (.getfield 132, 3) := by decide +kernel
theorem dX7_checkIndex_14 : decode cX7_checkIndex 14 = .ok (.if_icmp .lt 13, 3) := by decide +kernel
theorem dX7_checkIndex_17 : decode cX7_checkIndex 17 = .ok (.new 201, 3) := by decide +kernel
theorem dX7_checkIndex_20 : decode cX7_checkIndex 20 = .ok (.dup, 1) := by decide +kernel
theorem dX7_checkIndex_21 : decode cX7_checkIndex 21 = .ok (.ldc 210, 2) := by decide +kernel
theorem dX7_checkIndex_23 : decode cX7_checkIndex 23 = .ok (.invokespecial 205, 3) := by decide +kernel
theorem dX7_checkIndex_26 : decode cX7_checkIndex 26 = .ok (.athrow, 1) := by decide +kernel
theorem dX7_checkIndex_27 : decode cX7_checkIndex 27 = .ok (.return_, 1) := by decide +kernel
theorem dX7_checkRoom_0 : decode cX7_checkRoom 0 = .ok (.aload_n 0, 1) := by decide +kernel
theorem dX7_checkRoom_1 : decode cX7_checkRoom 1 = .ok (.getfield 10, 3) := by decide +kernel
theorem dX7_checkRoom_4 : decode cX7_checkRoom 4 = .ok (.getfield 55, 3) := by decide +kernel
theorem dX7_checkRoom_7 : decode cX7_checkRoom 7 = .ok (.bipush 80, 2) := by decide +kernel
theorem dX7_checkRoom_9 : decode cX7_checkRoom 9 = .ok (.if_icmp .lt 13, 3) := by decide +kernel
theorem dX7_checkRoom_12 : decode cX7_checkRoom 12 = .ok (.new 59, 3) := by decide +kernel
theorem dX7_checkRoom_15 : decode cX7_checkRoom 15 = .ok (.dup, 1) := by decide +kernel
theorem dX7_checkRoom_16 : decode cX7_checkRoom 16 = .ok (.ldc 61, 2) := by decide +kernel
theorem dX7_checkRoom_18 : decode cX7_checkRoom 18 = .ok (.invokespecial 63, 3) := by decide +kernel
theorem dX7_checkRoom_21 : decode cX7_checkRoom 21 = .ok (.athrow, 1) := by decide +kernel
theorem dX7_checkRoom_22 : decode cX7_checkRoom 22 = .ok (.return_, 1) := by decide +kernel
theorem dX7_checkUnfinished_0 : decode cX7_checkUnfinished 0 = .ok (.aload_n 0, 1) := by decide +kernel
theorem dX7_checkUnfinished_1 : decode cX7_checkUnfinished 1 = .ok (.getfield 10, 3) := by decide +kernel
theorem dX7_checkUnfinished_4 : decode cX7_checkUnfinished 4 = .ok (.invokevirtual 75, 3) := by decide +kernel
theorem dX7_checkUnfinished_7 : decode cX7_checkUnfinished 7 = .ok (.ifCond .ne 13, 3) := by decide +kernel
theorem dX7_checkUnfinished_10 : decode cX7_checkUnfinished 10 = .ok (.new 59, 3) := by decide +kernel
theorem dX7_checkUnfinished_13 : decode cX7_checkUnfinished 13 = .ok (.dup, 1) := by decide +kernel
theorem dX7_checkUnfinished_14 : decode cX7_checkUnfinished 14 = .ok (.ldc 212, 2) := by decide +kernel
theorem dX7_checkUnfinished_16 : decode cX7_checkUnfinished 16 = .ok (.invokespecial 63, 3) := by decide +kernel
theorem dX7_checkUnfinished_19 : decode cX7_checkUnfinished 19 = .ok (.athrow, 1) := by decide +kernel
theorem dX7_checkUnfinished_20 : decode cX7_checkUnfinished 20 = .ok (.return_, 1) := by decide +kernel
theorem dX7_checkFinished_0 : decode cX7_checkFinished 0 = .ok (.aload_n 0, 1) := by decide +kernel
theorem dX7_checkFinished_1 : decode cX7_checkFinished 1 = .ok (.getfield 10, 3) := by decide +kernel
theorem dX7_checkFinished_4 : decode cX7_checkFinished 4 = .ok (.invokevirtual 75, 3) := by decide +kernel
theorem dX7_checkFinished_7 : decode cX7_checkFinished 7 = .ok (.ifCond .eq 13, 3) := by decide +kernel
theorem dX7_checkFinished_10 : decode cX7_checkFinished 10 = .ok (.new 59, 3) := by decide +kernel
theorem dX7_checkFinished_13 : decode cX7_checkFinished 13 = .ok (.dup, 1) := by decide +kernel
theorem dX7_checkFinished_14 : decode cX7_checkFinished 14 = .ok (.ldc 214, 2) := by decide +kernel
theorem dX7_checkFinished_16 : decode cX7_checkFinished 16 = .ok (.invokespecial 63, 3) := by decide +kernel
theorem dX7_checkFinished_19 : decode cX7_checkFinished 19 = .ok (.athrow, 1) := by decide +kernel
theorem dX7_checkFinished_20 : decode cX7_checkFinished 20 = .ok (.return_, 1) := by decide +kernel
theorem dX7_checkNoError_0 : decode cX7_checkNoError 0 = .ok (.aload_n 0, 1) := by decide +kernel
theorem dX7_checkNoError_1 : decode cX7_checkNoError 1 = .ok (.getfield 25, 3) := by decide +kernel
theorem dX7_checkNoError_4 : decode cX7_checkNoError 4 = .ok (.iload_n 1, 1) := by decide +kernel
theorem dX7_checkNoError_5 : decode cX7_checkNoError 5 = .ok (.aaload, 1) := by decide +kernel
theorem dX7_checkNoError_6 : decode cX7_checkNoError 6 = .ok (.getfield 148, 3) := by decide +kernel
theorem dX7_checkNoError_9 : decode cX7_checkNoError 9 = .ok (.getfield 152, 3) := by decide +kernel
theorem dX7_checkNoError_12 : decode cX7_checkNoError 12 = .ok (.iconst (-1), 1) := by decide +kernel
theorem dX7_checkNoError_13 : decode cX7_checkNoError 13 = .ok (.if_icmp .eq 13, 3) := by decide +kernel
theorem dX7_checkNoError_16 : decode cX7_checkNoError 16 = .ok (.new 216, 3) := by decide +kernel
theorem dX7_checkNoError_19 : decode cX7_checkNoError 19 = .ok (.dup, 1) := by decide +kernel
theorem dX7_checkNoError_20 : decode cX7_checkNoError 20 = .ok (.ldc 218, 2) := by decide +kernel
theorem dX7_checkNoError_22 : decode cX7_checkNoError 22 = .ok (.invokespecial 220, 3) := by decide +kernel
theorem dX7_checkNoError_25 : decode cX7_checkNoError 25 = .ok (.athrow, 1) := by decide +kernel
theorem dX7_checkNoError_26 : decode cX7_checkNoError 26 = .ok (.return_, 1) := by decide +kernel
theorem dX7_byteOf_0 : decode cX7_byteOf 0 = .ok (.lload_n 0, 1) := by decide +kernel
theorem dX7_byteOf_1 : decode cX7_byteOf 1 = .ok (.iload_n 2, 1) := by decide +kernel
theorem dX7_byteOf_2 : decode cX7_byteOf 2 = .ok (.lushr, 1) := by decide +kernel
theorem dX7_byteOf_3 : decode cX7_byteOf 3 = .ok (.l2i, 1) := by decide +kernel
theorem dX7_byteOf_4 : decode cX7_byteOf 4 = .ok (.sipush 255, 3) := by decide +kernel
theorem dX7_byteOf_7 : decode cX7_byteOf 7 = .ok (.iand, 1) := by decide +kernel
theorem dX7_byteOf_8 : decode cX7_byteOf 8 = .ok (.ireturn, 1) := by decide +kernel
theorem dX7_append_0 : decode cX7_append 0 = .ok (.aload_n 0, 1) := by decide +kernel
theorem dX7_append_1 : decode cX7_append 1 = .ok (.getfield 10, 3) := by decide +kernel
theorem dX7_append_4 : decode cX7_append 4 = .ok (.iload_n 1, 1) := by decide +kernel
theorem dX7_append_5 : decode cX7_append 5 = .ok (.invokevirtual 221, 3) := by decide +kernel
theorem dX7_append_8 : decode cX7_append 8 = .ok (.aload_n 0, 1) := by decide +kernel
theorem dX7_append_9 : decode cX7_append 9 = .ok (.iconst 0, 1) := by decide +kernel
theorem dX7_append_10 : decode cX7_append 10 = .ok (.putfield 34, 3) := by decide +kernel
theorem dX7_append_13 : decode cX7_append 13 = .ok (.aload_n 0, 1) := by decide +kernel
theorem dX7_append_14 : decode cX7_append 14 = .ok (.getfield 10, 3) := by decide +kernel
theorem dX7_append_17 : decode cX7_append 17 = .ok (.getfield 55, 3) := by decide +kernel
theorem dX7_append_20 : decode cX7_append 20 = .ok (.ireturn, 1) := by decide +kernel
theorem dX7_matters_0 : decode cX7_matters 0 = .ok (.iconst 0, 1) := by decide +kernel
theorem dX7_matters_1 : decode cX7_matters 1 = .ok (.istore_n 2, 1) := by decide +kernel
theorem dX7_matters_2 : decode cX7_matters 2 = .ok (.iload_n 2, 1) := by decide +kernel
theorem dX7_matters_3 : decode cX7_matters 3 = .ok (.bipush 16, 2) := by decide +kernel
theorem dX7_matters_5 : decode cX7_matters 5 = .ok (.if_icmp .ge 30, 3) := by decide +kernel
theorem dX7_matters_8 : decode cX7_matters 8 = .ok (.iload_n 2, 1) := by decide +kernel
theorem dX7_matters_9 : decode cX7_matters 9 = .ok (.iconst 1, 1) := by decide +kernel
theorem dX7_matters_10 : decode cX7_matters 10 = .ok (.iload_n 0, 1) := by decide +kernel
theorem dX7_matters_11 : decode cX7_matters 11 = .ok (.ishl, 1) := by decide +kernel
theorem dX7_matters_12 : decode cX7_matters 12 = .ok (.ixor, 1) := by decide +kernel
theorem dX7_matters_13 : decode cX7_matters 13 = .ok (.istore_n 3, 1) := by decide +kernel
theorem dX7_matters_14 : decode cX7_matters 14 = .ok (.iload_n 1, 1) := by decide +kernel
theorem dX7_matters_15 : decode cX7_matters 15 = .ok (.iload_n 2, 1) := by decide +kernel
theorem dX7_matters_16 : decode cX7_matters 16 = .ok (.ishr, 1) := by decide +kernel
theorem dX7_matters_17 : decode cX7_matters 17 = .ok (.iconst 1, 1) := by decide +kernel
theorem dX7_matters_18 : decode cX7_matters 18 = .ok (.iand, 1) := by decide +kernel
theorem dX7_matters_19 : decode cX7_matters 19 = .ok (.iload_n 1, 1) := by decide +kernel
theorem dX7_matters_20 : decode cX7_matters 20 = .ok (.iload_n 3, 1) := by decide +kernel
theorem dX7_matters_21 : decode cX7_matters 21 = .ok (.ishr, 1) := by decide +kernel
theorem dX7_matters_22 : decode cX7_matters 22 = .ok (.iconst 1, 1) := by decide +kernel
theorem dX7_matters_23 : decode cX7_matters 23 = .ok (.iand, 1) := by decide +kernel
theorem dX7_matters_24 : decode cX7_matters 24 = .ok (.if_icmp .eq 5, 3) := by decide +kernel
theorem dX7_matters_27 : decode cX7_matters 27 = .ok (.iconst 1, 1) := by decide +kernel
theorem dX7_matters_28 : decode cX7_matters 28 = .ok (.ireturn, 1) := by decide +kernel
theorem dX7_matters_29 : decode cX7_matters 29 = .ok (.iinc 2 1, 3) := by decide +kernel
theorem dX7_matters_32 : decode cX7_matters 32 = .ok (.goto (-30), 3) := by decide +kernel
theorem dX7_matters_35 : decode cX7_matters 35 = .ok (.iconst 0, 1) := by decide +kernel
theorem dX7_matters_36 : decode cX7_matters 36 = .ok (.ireturn, 1) := by decide +kernel
theorem dX7_refresh_0 : decode cX7_refresh 0 = .ok (.aload_n 0, 1) := by decide +kernel
theorem dX7_refresh_1 : decode cX7_refresh 1 = .ok (.getfield 34, 3) := by decide +kernel
theorem dX7_refresh_4 : decode cX7_refresh 4 = .ok (.ifCond .eq 4, 3) := by decide +kernel
theorem dX7_refresh_7 : decode cX7_refresh 7 = .ok (.return_, 1) := by decide +kernel
theorem dX7_refresh_8 : decode cX7_refresh 8 = .ok (.aload_n 0, 1) := by decide +kernel
theorem dX7_refresh_9 : decode cX7_refresh 9 = .ok (.getfield 19, 3) := by decide +kernel
theorem dX7_refresh_12 : decode cX7_refresh 12 = .ok (.aload_n 0, 1) := by decide +kernel
theorem dX7_refresh_13 : decode cX7_refresh 13 = .ok (.getfield 10, 3) := by decide +kernel
theorem dX7_refresh_16 : decode cX7_refresh 16 = .ok (.invokevirtual 224, 3) := by decide +kernel
theorem dX7_refresh_19 : decode cX7_refresh 19 = .ok (.aload_n 0, 1) := by decide +kernel
theorem dX7_refresh_20 : decode cX7_refresh 20 = .ok (.invokevirtual 228, 3) := by decide +kernel
theorem dX7_refresh_23 : decode cX7_refresh 23 = .ok (.aload_n 0, 1) := by decide +kernel
theorem dX7_refresh_24 : decode cX7_refresh 24 = .ok (.getfield 10, 3) := by decide +kernel
theorem dX7_refresh_27 : decode cX7_refresh 27 = .ok (.invokevirtual 75, 3) := by decide +kernel
theorem dX7_refresh_30 : decode cX7_refresh 30 = .ok (.ifCond .ne 11, 3) := by decide +kernel
theorem dX7_refresh_33 : decode cX7_refresh 33 = .ok (.aload_n 0, 1) := by decide +kernel
theorem dX7_refresh_34 : decode cX7_refresh 34 = .ok (.invokevirtual 231, 3) := by decide +kernel
theorem dX7_refresh_37 : decode cX7_refresh 37 = .ok (.aload_n 0, 1) := by decide +kernel
theorem dX7_refresh_38 : decode cX7_refresh 38 = .ok (.invokevirtual 234, 3) := by decide +kernel
theorem dX7_refresh_41 : decode cX7_refresh 41 = .ok (.aload_n 0, 1) := by decide +kernel
theorem dX7_refresh_42 : decode cX7_refresh 42 = .ok (.iconst 1, 1) := by decide +kernel
theorem dX7_refresh_43 : decode cX7_refresh 43 = .ok (.putfield 34, 3) := by decide +kernel
theorem dX7_refresh_46 : decode cX7_refresh 46 = .ok (.return_, 1) := by decide +kernel
theorem dX7_collectVariants_0 : decode cX7_collectVariants 0 = .ok (.iconst 0, 1) := by decide +kernel
theorem dX7_collectVariants_1 : decode cX7_collectVariants 1 = .ok (.istore_n 1, 1) := by decide +kernel
theorem dX7_collectVariants_2 : decode cX7_collectVariants 2 = .ok (.iload_n 1, 1) := by decide +kernel
theorem dX7_collectVariants_3 : decode cX7_collectVariants 3 = .ok (.bipush 16, 2) := by decide +kernel
theorem dX7_collectVariants_5 : decode cX7_collectVariants 5 = .ok (.if_icmp .ge 81, 3) := by decide +kernel
theorem dX7_collectVariants_8 : decode cX7_collectVariants 8 = .ok (.aload_n 0, 1) := by decide +kernel
theorem dX7_collectVariants_9 : decode cX7_collectVariants 9 = .ok (.getfield 25, 3) := by decide +kernel
theorem dX7_collectVariants_12 : decode cX7_collectVariants 12 = .ok (.iload_n 1, 1) := by decide +kernel
theorem dX7_collectVariants_13 : decode cX7_collectVariants 13 = .ok (.aaload, 1) := by decide +kernel
theorem dX7_collectVariants_14 : decode cX7_collectVariants 14 = .ok (.astore_n 2, 1) := by decide +kernel
theorem dX7_collectVariants_15 : decode cX7_collectVariants 15 = .ok (.aload_n 2, 1) := by decide +kernel
theorem dX7_collectVariants_16 : decode cX7_collectVariants 16 = .ok (.iconst 0, 1) := by decide +kernel
theorem dX7_collectVariants_17 : decode cX7_collectVariants 17 = .ok (.putfield 132, 3) := by decide +kernel
theorem dX7_collectVariants_20 : decode cX7_collectVariants 20 = .ok (.iconst 0, 1) := by decide +kernel
theorem dX7_collectVariants_21 : decode cX7_collectVariants 21 = .ok (.istore_n 3, 1) := by decide +kernel
theorem dX7_collectVariants_22 : decode cX7_collectVariants 22 = .ok (.iload_n 3, 1) := by decide +kernel
theorem dX7_collectVariants_23 : decode cX7_collectVariants 23 = .ok (.aload_n 0, 1) := by decide +kernel
theorem dX7_collectVariants_24 : decode cX7_collectVariants 24 = .ok (.getfield 10, 3) := by decide +kernel
theorem dX7_collectVariants_27 : decode cX7_collectVariants 27 = .ok (.getfield 55, 3) := by decide +kernel
theorem dX7_collectVariants_30 : decode cX7_collectVariants 30 = .ok (.if_icmp .ge 50, 3) := by decide +kernel
theorem dX7_collectVariants_33 : decode cX7_collectVariants 33 = .ok (.aload_n 0, 1) := by decide +kernel
theorem dX7_collectVariants_34 : decode cX7_collectVariants 34 = .ok (.getfield 10, 3) := by decide +kernel
theorem dX7_collectVariants_37 : decode cX7_collectVariants 37 = .ok (.getfield 105, 3) := by decide +kernel
theorem dX7_collectVariants_40 : decode cX7_collectVariants 40 = .ok (.iload_n 3, 1) := by decide +kernel
theorem dX7_collectVariants_41 : decode cX7_collectVariants 41 = .ok (.iaload, 1) := by decide +kernel
theorem dX7_collectVariants_42 : decode cX7_collectVariants 42 = .ok (.invokestatic 42, 3) := by decide +kernel
theorem dX7_collectVariants_45 : decode cX7_collectVariants 45 = .ok (.ifCond .eq 29, 3) := by decide +kernel
theorem dX7_collectVariants_48 : decode cX7_collectVariants 48 = .ok (.aload_n 0, 1) := by decide +kernel
theorem dX7_collectVariants_49 : decode cX7_collectVariants 49 = .ok (.getfield 19, 3) := by decide +kernel
theorem dX7_collectVariants_52 : decode cX7_collectVariants 52 = .ok (.iload_n 3, 1) := by decide +kernel
theorem dX7_collectVariants_53 : decode cX7_collectVariants 53 = .ok (.iload_n 1, 1) := by decide +kernel
theorem dX7_collectVariants_54 : decode cX7_collectVariants 54 = .ok (.invokevirtual 237, 3) := by decide +kernel
theorem dX7_collectVariants_57 : decode cX7_collectVariants 57 = .ok (.ifCond .eq 17, 3) := by decide +kernel
theorem dX7_collectVariants_60 : decode cX7_collectVariants 60 = .ok (.aload_n 2, 1) := by decide +kernel
theorem dX7_collectVariants_61 : decode cX7_collectVariants 61 = .ok (.aload_n 0, 1) := by decide +kernel
theorem dX7_collectVariants_62 : decode cX7_collectVariants 62 = .ok (.getfield 10, 3) := by decide +kernel
theorem dX7_collectVariants_65 : decode cX7_collectVariants 65 = .ok (.getfield 105, 3) := by decide +kernel
theorem dX7_collectVariants_68 : decode cX7_collectVariants 68 = .ok (.iload_n 3, 1) := by decide +kernel
theorem dX7_collectVariants_69 : decode cX7_collectVariants 69 = .ok (.iaload, 1) := by decide +kernel
theorem dX7_collectVariants_70 : decode cX7_collectVariants 70 = .ok (.iload_n 3, 1) := by decide +kernel
theorem dX7_collectVariants_71 : decode cX7_collectVariants 71 = .ok (.invokevirtual 240, 3) := by decide +kernel
theorem dX7_collectVariants_74 : decode cX7_collectVariants 74 = .ok (.iinc 3 1, 3) := by decide +kernel
theorem dX7_collectVariants_77 : decode cX7_collectVariants 77 = .ok (.goto (-55), 3) := by decide +kernel
theorem dX7_collectVariants_80 : decode cX7_collectVariants 80 = .ok (.iinc 1 1, 3) := by decide +kernel
theorem dX7_collectVariants_83 : decode cX7_collectVariants 83 = .ok (.goto (-81), 3) := by decide +kernel
theorem dX7_collectVariants_86 : decode cX7_collectVariants 86 = .ok (.return_, 1) := by decide +kernel
theorem dX7_readAll_0 : decode cX7_readAll 0 = .ok (.iconst 0, 1) := by decide +kernel
theorem dX7_readAll_1 : decode cX7_readAll 1 = .ok (.istore_n 1, 1) := by decide +kernel
theorem dX7_readAll_2 : decode cX7_readAll 2 = .ok (.iload_n 1, 1) := by decide +kernel
theorem dX7_readAll_3 : decode cX7_readAll 3 = .ok (.bipush 16, 2) := by decide +kernel
theorem dX7_readAll_5 : decode cX7_readAll 5 = .ok (.if_icmp .ge 21, 3) := by decide +kernel
theorem dX7_readAll_8 : decode cX7_readAll 8 = .ok (.aload_n 0, 1) := by decide +kernel
theorem dX7_readAll_9 : decode cX7_readAll 9 = .ok (.getfield 25, 3) := by decide +kernel
theorem dX7_readAll_12 : decode cX7_readAll 12 = .ok (.iload_n 1, 1) := by decide +kernel
theorem dX7_readAll_13 : decode cX7_readAll 13 = .ok (.aaload, 1) := by decide +kernel
theorem dX7_readAll_14 : decode cX7_readAll 14 = .ok (.getfield 148, 3) := by decide +kernel
theorem dX7_readAll_17 : decode cX7_readAll 17 = .ok (.invokevirtual 242, 3) := by decide +kernel
theorem dX7_readAll_20 : decode cX7_readAll 20 = .ok (.iinc 1 1, 3) := by decide +kernel
theorem dX7_readAll_23 : decode cX7_readAll 23 = .ok (.goto (-21), 3) := by decide +kernel
theorem dX7_readAll_26 : decode cX7_readAll 26 = .ok (.iconst 0, 1) := by decide +kernel
theorem dX7_readAll_27 : decode cX7_readAll 27 = .ok (.istore_n 1, 1) := by decide +kernel
theorem dX7_readAll_28 : decode cX7_readAll 28 = .ok (.iload_n 1, 1) := by decide +kernel
theorem dX7_readAll_29 : decode cX7_readAll 29 = .ok (.aload_n 0, 1) := by decide +kernel
theorem dX7_readAll_30 : decode cX7_readAll 30 = .ok (.getfield 10, 3) := by decide +kernel
theorem dX7_readAll_33 : decode cX7_readAll 33 = .ok (.getfield 55, 3) := by decide +kernel
theorem dX7_readAll_36 : decode cX7_readAll 36 = .ok (.if_icmp .ge 87, 3) := by decide +kernel
theorem dX7_readAll_39 : decode cX7_readAll 39 = .ok (.aload_n 0, 1) := by decide +kernel
theorem dX7_readAll_40 : decode cX7_readAll 40 = .ok (.getfield 30, 3) := by decide +kernel
theorem dX7_readAll_43 : decode cX7_readAll 43 = .ok (.iload_n 1, 1) := by decide +kernel
theorem dX7_readAll_44 : decode cX7_readAll 44 = .ok (.iconst 0, 1) := by decide +kernel
theorem dX7_readAll_45 : decode cX7_readAll 45 = .ok (.iastore, 1) := by decide +kernel
theorem dX7_readAll_46 : decode cX7_readAll 46 = .ok (.aload_n 0, 1) := by decide +kernel
theorem dX7_readAll_47 : decode cX7_readAll 47 = .ok (.getfield 10, 3) := by decide +kernel
theorem dX7_readAll_50 : decode cX7_readAll 50 = .ok (.getfield 105, 3) := by decide +kernel
theorem dX7_readAll_53 : decode cX7_readAll 53 = .ok (.iload_n 1, 1) := by decide +kernel
end
section
theorem dX7_readAll_54 : decode cX7_readAll 54 = .ok (.iaload, 1) := by decide +kernel
theorem dX7_readAll_55 : decode cX7_readAll 55 = .ok (.invokestatic 42, 3) := by decide +kernel
theorem dX7_readAll_58 : decode cX7_readAll 58 = .ok (.ifCond .eq 59, 3) := by decide +kernel
theorem dX7_readAll_61 : decode cX7_readAll 61 = .ok (.aload_n 0, 1) := by decide +kernel
theorem dX7_readAll_62 : decode cX7_readAll 62 = .ok (.getfield 30, 3) := by decide +kernel
theorem dX7_readAll_65 : decode cX7_readAll 65 = .ok (.iload_n 1, 1) := by decide +kernel
theorem dX7_readAll_66 : decode cX7_readAll 66 = .ok (.aload_n 0, 1) := by decide +kernel
theorem dX7_readAll_67 : decode cX7_readAll 67 = .ok (.iload_n 1, 1) := by decide +kernel
theorem dX7_readAll_68 : decode cX7_readAll 68 = .ok (.invokevirtual 245, 3) := by decide +kernel
theorem dX7_readAll_71 : decode cX7_readAll 71 = .ok (.iastore, 1) := by decide +kernel
theorem dX7_readAll_72 : decode cX7_readAll 72 = .ok (.iconst 0, 1) := by decide +kernel
theorem dX7_readAll_73 : decode cX7_readAll 73 = .ok (.istore_n 2, 1) := by decide +kernel
theorem dX7_readAll_74 : decode cX7_readAll 74 = .ok (.iload_n 2, 1) := by decide +kernel
theorem dX7_readAll_75 : decode cX7_readAll 75 = .ok (.bipush 16, 2) := by decide +kernel
theorem dX7_readAll_77 : decode cX7_readAll 77 = .ok (.if_icmp .ge 40, 3) := by decide +kernel
theorem dX7_readAll_80 : decode cX7_readAll 80 = .ok (.aload_n 0, 1) := by decide +kernel
theorem dX7_readAll_81 : decode cX7_readAll 81 = .ok (.iload_n 2, 1) := by decide +kernel
theorem dX7_readAll_82 : decode cX7_readAll 82 = .ok (.iload_n 1, 1) := by decide +kernel
theorem dX7_readAll_83 : decode cX7_readAll 83 = .ok (.invokevirtual 248, 3) := by decide +kernel
theorem dX7_readAll_86 : decode cX7_readAll 86 = .ok (.ifCond .eq 25, 3) := by decide +kernel
theorem dX7_readAll_89 : decode cX7_readAll 89 = .ok (.aload_n 0, 1) := by decide +kernel
theorem dX7_readAll_90 : decode cX7_readAll 90 = .ok (.getfield 25, 3) := by decide +kernel
theorem dX7_readAll_93 : decode cX7_readAll 93 = .ok (.iload_n 2, 1) := by decide +kernel
theorem dX7_readAll_94 : decode cX7_readAll 94 = .ok (.aaload, 1) := by decide +kernel
theorem dX7_readAll_95 : decode cX7_readAll 95 = .ok (.getfield 148, 3) := by decide +kernel
theorem dX7_readAll_98 : decode cX7_readAll 98 = .ok (.aload_n 0, 1) := by decide +kernel
theorem dX7_readAll_99 : decode cX7_readAll 99 = .ok (.getfield 10, 3) := by decide +kernel
theorem dX7_readAll_102 : decode cX7_readAll 102 = .ok (.getfield 105, 3) := by decide +kernel
theorem dX7_readAll_105 : decode cX7_readAll 105 = .ok (.iload_n 1, 1) := by decide +kernel
theorem dX7_readAll_106 : decode cX7_readAll 106 = .ok (.iaload, 1) := by decide +kernel
theorem dX7_readAll_107 : decode cX7_readAll 107 = .ok (.iload_n 1, 1) := by decide +kernel
theorem dX7_readAll_108 : decode cX7_readAll 108 = .ok (.invokevirtual 251, 3) := by decide +kernel
theorem dX7_readAll_111 : decode cX7_readAll 111 = .ok (.iinc 2 1, 3) := by decide +kernel
theorem dX7_readAll_114 : decode cX7_readAll 114 = .ok (.goto (-40), 3) := by decide +kernel
theorem dX7_readAll_117 : decode cX7_readAll 117 = .ok (.iinc 1 1, 3) := by decide +kernel
theorem dX7_readAll_120 : decode cX7_readAll 120 = .ok (.goto (-92), 3) := by decide +kernel
theorem dX7_readAll_123 : decode cX7_readAll 123 = .ok (.iconst 0, 1) := by decide +kernel
theorem dX7_readAll_124 : decode cX7_readAll 124 = .ok (.istore_n 1, 1) := by decide +kernel
theorem dX7_readAll_125 : decode cX7_readAll 125 = .ok (.iload_n 1, 1) := by decide +kernel
theorem dX7_readAll_126 : decode cX7_readAll 126 = .ok (.bipush 16, 2) := by decide +kernel
theorem dX7_readAll_128 : decode cX7_readAll 128 = .ok (.if_icmp .ge 28, 3) := by decide +kernel
theorem dX7_readAll_131 : decode cX7_readAll 131 = .ok (.aload_n 0, 1) := by decide +kernel
theorem dX7_readAll_132 : decode cX7_readAll 132 = .ok (.getfield 25, 3) := by decide +kernel
theorem dX7_readAll_135 : decode cX7_readAll 135 = .ok (.iload_n 1, 1) := by decide +kernel
theorem dX7_readAll_136 : decode cX7_readAll 136 = .ok (.aaload, 1) := by decide +kernel
theorem dX7_readAll_137 : decode cX7_readAll 137 = .ok (.getfield 148, 3) := by decide +kernel
theorem dX7_readAll_140 : decode cX7_readAll 140 = .ok (.aload_n 0, 1) := by decide +kernel
theorem dX7_readAll_141 : decode cX7_readAll 141 = .ok (.getfield 10, 3) := by decide +kernel
theorem dX7_readAll_144 : decode cX7_readAll 144 = .ok (.getfield 55, 3) := by decide +kernel
theorem dX7_readAll_147 : decode cX7_readAll 147 = .ok (.invokevirtual 254, 3) := by decide +kernel
theorem dX7_readAll_150 : decode cX7_readAll 150 = .ok (.iinc 1 1, 3) := by decide +kernel
theorem dX7_readAll_153 : decode cX7_readAll 153 = .ok (.goto (-28), 3) := by decide +kernel
theorem dX7_readAll_156 : decode cX7_readAll 156 = .ok (.return_, 1) := by decide +kernel
theorem dX7_runAll_0 : decode cX7_runAll 0 = .ok (.iconst 0, 1) := by decide +kernel
theorem dX7_runAll_1 : decode cX7_runAll 1 = .ok (.istore_n 1, 1) := by decide +kernel
theorem dX7_runAll_2 : decode cX7_runAll 2 = .ok (.iload_n 1, 1) := by decide +kernel
theorem dX7_runAll_3 : decode cX7_runAll 3 = .ok (.bipush 16, 2) := by decide +kernel
theorem dX7_runAll_5 : decode cX7_runAll 5 = .ok (.if_icmp .ge 55, 3) := by decide +kernel
theorem dX7_runAll_8 : decode cX7_runAll 8 = .ok (.aload_n 0, 1) := by decide +kernel
theorem dX7_runAll_9 : decode cX7_runAll 9 = .ok (.getfield 25, 3) := by decide +kernel
theorem dX7_runAll_12 : decode cX7_runAll 12 = .ok (.iload_n 1, 1) := by decide +kernel
theorem dX7_runAll_13 : decode cX7_runAll 13 = .ok (.aaload, 1) := by decide +kernel
theorem dX7_runAll_14 : decode cX7_runAll 14 = .ok (.getfield 148, 3) := by decide +kernel
theorem dX7_runAll_17 : decode cX7_runAll 17 = .ok (.getfield 152, 3) := by decide +kernel
theorem dX7_runAll_20 : decode cX7_runAll 20 = .ok (.iconst (-1), 1) := by decide +kernel
theorem dX7_runAll_21 : decode cX7_runAll 21 = .ok (.if_icmp .ne 33, 3) := by decide +kernel
theorem dX7_runAll_24 : decode cX7_runAll 24 = .ok (.aload_n 0, 1) := by decide +kernel
theorem dX7_runAll_25 : decode cX7_runAll 25 = .ok (.getfield 25, 3) := by decide +kernel
theorem dX7_runAll_28 : decode cX7_runAll 28 = .ok (.iload_n 1, 1) := by decide +kernel
theorem dX7_runAll_29 : decode cX7_runAll 29 = .ok (.aaload, 1) := by decide +kernel
theorem dX7_runAll_30 : decode cX7_runAll 30 = .ok (.getfield 169, 3) := by decide +kernel
theorem dX7_runAll_33 : decode cX7_runAll 33 = .ok (.aload_n 0, 1) := by decide +kernel
theorem dX7_runAll_34 : decode cX7_runAll 34 = .ok (.getfield 25, 3) := by decide +kernel
theorem dX7_runAll_37 : decode cX7_runAll 37 = .ok (.iload_n 1, 1) := by decide +kernel
theorem dX7_runAll_38 : decode cX7_runAll 38 = .ok (.aaload, 1) := by decide +kernel
theorem dX7_runAll_39 : decode cX7_runAll 39 = .ok (.getfield 257, 3) := by decide +kernel
theorem dX7_runAll_42 : decode cX7_runAll 42 = .ok (.aload_n 0, 1) := by decide +kernel
theorem dX7_runAll_43 : decode cX7_runAll 43 = .ok (.getfield 25, 3) := by decide +kernel
theorem dX7_runAll_46 : decode cX7_runAll 46 = .ok (.iload_n 1, 1) := by decide +kernel
theorem dX7_runAll_47 : decode cX7_runAll 47 = .ok (.aaload, 1) := by decide +kernel
theorem dX7_runAll_48 : decode cX7_runAll 48 = .ok (.getfield 132, 3) := by decide +kernel
theorem dX7_runAll_51 : decode cX7_runAll 51 = .ok (.invokevirtual 260, 3) := by decide +kernel
theorem dX7_runAll_54 : decode cX7_runAll 54 = .ok (.iinc 1 1, 3) := by decide +kernel
theorem dX7_runAll_57 : decode cX7_runAll 57 = .ok (.goto (-55), 3) := by decide +kernel
theorem dX7_runAll_60 : decode cX7_runAll 60 = .ok (.return_, 1) := by decide +kernel
theorem dX7_isReadBy_0 : decode cX7_isReadBy 0 = .ok (.aload_n 0, 1) := by decide +kernel
theorem dX7_isReadBy_1 : decode cX7_isReadBy 1 = .ok (.getfield 19, 3) := by decide +kernel
theorem dX7_isReadBy_4 : decode cX7_isReadBy 4 = .ok (.iload_n 2, 1) := by decide +kernel
theorem dX7_isReadBy_5 : decode cX7_isReadBy 5 = .ok (.iload_n 1, 1) := by decide +kernel
theorem dX7_isReadBy_6 : decode cX7_isReadBy 6 = .ok (.invokevirtual 237, 3) := by decide +kernel
theorem dX7_isReadBy_9 : decode cX7_isReadBy 9 = .ok (.ifCond .eq 23, 3) := by decide +kernel
theorem dX7_isReadBy_12 : decode cX7_isReadBy 12 = .ok (.aload_n 0, 1) := by decide +kernel
theorem dX7_isReadBy_13 : decode cX7_isReadBy 13 = .ok (.getfield 25, 3) := by decide +kernel
theorem dX7_isReadBy_16 : decode cX7_isReadBy 16 = .ok (.iload_n 1, 1) := by decide +kernel
theorem dX7_isReadBy_17 : decode cX7_isReadBy 17 = .ok (.aaload, 1) := by decide +kernel
theorem dX7_isReadBy_18 : decode cX7_isReadBy 18 = .ok (.getfield 148, 3) := by decide +kernel
theorem dX7_isReadBy_21 : decode cX7_isReadBy 21 = .ok (.getfield 152, 3) := by decide +kernel
theorem dX7_isReadBy_24 : decode cX7_isReadBy 24 = .ok (.iconst (-1), 1) := by decide +kernel
theorem dX7_isReadBy_25 : decode cX7_isReadBy 25 = .ok (.if_icmp .ne 7, 3) := by decide +kernel
theorem dX7_isReadBy_28 : decode cX7_isReadBy 28 = .ok (.iconst 1, 1) := by decide +kernel
theorem dX7_isReadBy_29 : decode cX7_isReadBy 29 = .ok (.goto 4, 3) := by decide +kernel
theorem dX7_isReadBy_32 : decode cX7_isReadBy 32 = .ok (.iconst 0, 1) := by decide +kernel
theorem dX7_isReadBy_33 : decode cX7_isReadBy 33 = .ok (.ireturn, 1) := by decide +kernel
theorem dX7_countGroups_0 : decode cX7_countGroups 0 = .ok (.iconst 0, 1) := by decide +kernel
theorem dX7_countGroups_1 : decode cX7_countGroups 1 = .ok (.istore_n 2, 1) := by decide +kernel
theorem dX7_countGroups_2 : decode cX7_countGroups 2 = .ok (.iconst 0, 1) := by decide +kernel
theorem dX7_countGroups_3 : decode cX7_countGroups 3 = .ok (.istore_n 3, 1) := by decide +kernel
theorem dX7_countGroups_4 : decode cX7_countGroups 4 = .ok (.iload_n 3, 1) := by decide +kernel
theorem dX7_countGroups_5 : decode cX7_countGroups 5 = .ok (.bipush 16, 2) := by decide +kernel
theorem dX7_countGroups_7 : decode cX7_countGroups 7 = .ok (.if_icmp .ge 30, 3) := by decide +kernel
theorem dX7_countGroups_10 : decode cX7_countGroups 10 = .ok (.aload_n 0, 1) := by decide +kernel
theorem dX7_countGroups_11 : decode cX7_countGroups 11 = .ok (.iload_n 3, 1) := by decide +kernel
theorem dX7_countGroups_12 : decode cX7_countGroups 12 = .ok (.iload_n 1, 1) := by decide +kernel
theorem dX7_countGroups_13 : decode cX7_countGroups 13 = .ok (.invokevirtual 248, 3) := by decide +kernel
theorem dX7_countGroups_16 : decode cX7_countGroups 16 = .ok (.ifCond .eq 15, 3) := by decide +kernel
theorem dX7_countGroups_19 : decode cX7_countGroups 19 = .ok (.aload_n 0, 1) := by decide +kernel
theorem dX7_countGroups_20 : decode cX7_countGroups 20 = .ok (.iload_n 3, 1) := by decide +kernel
theorem dX7_countGroups_21 : decode cX7_countGroups 21 = .ok (.iload_n 1, 1) := by decide +kernel
theorem dX7_countGroups_22 : decode cX7_countGroups 22 = .ok (.invokevirtual 264, 3) := by decide +kernel
theorem dX7_countGroups_25 : decode cX7_countGroups 25 = .ok (.ifCond .eq 6, 3) := by decide +kernel
theorem dX7_countGroups_28 : decode cX7_countGroups 28 = .ok (.iinc 2 1, 3) := by decide +kernel
theorem dX7_countGroups_31 : decode cX7_countGroups 31 = .ok (.iinc 3 1, 3) := by decide +kernel
theorem dX7_countGroups_34 : decode cX7_countGroups 34 = .ok (.goto (-30), 3) := by decide +kernel
theorem dX7_countGroups_37 : decode cX7_countGroups 37 = .ok (.iload_n 2, 1) := by decide +kernel
theorem dX7_countGroups_38 : decode cX7_countGroups 38 = .ok (.ireturn, 1) := by decide +kernel
theorem dX7_isFirstOfItsGroup_0 : decode cX7_isFirstOfItsGroup 0 = .ok (.aload_n 0, 1) := by decide +kernel
theorem dX7_isFirstOfItsGroup_1 : decode cX7_isFirstOfItsGroup 1 = .ok (.getfield 25, 3) := by decide +kernel
theorem dX7_isFirstOfItsGroup_4 : decode cX7_isFirstOfItsGroup 4 = .ok (.iload_n 1, 1) := by decide +kernel
theorem dX7_isFirstOfItsGroup_5 : decode cX7_isFirstOfItsGroup 5 = .ok (.aaload, 1) := by decide +kernel
theorem dX7_isFirstOfItsGroup_6 : decode cX7_isFirstOfItsGroup 6 = .ok (.getfield 148, 3) := by decide +kernel
theorem dX7_isFirstOfItsGroup_9 : decode cX7_isFirstOfItsGroup 9 = .ok (.astore_n 3, 1) := by decide +kernel
theorem dX7_isFirstOfItsGroup_10 : decode cX7_isFirstOfItsGroup 10 = .ok (.iconst 0, 1) := by decide +kernel
theorem dX7_isFirstOfItsGroup_11 : decode cX7_isFirstOfItsGroup 11 = .ok (.istore 4, 2) := by decide +kernel
theorem dX7_isFirstOfItsGroup_13 : decode cX7_isFirstOfItsGroup 13 = .ok (.iload 4, 2) := by decide +kernel
theorem dX7_isFirstOfItsGroup_15 : decode cX7_isFirstOfItsGroup 15 = .ok (.iload_n 1, 1) := by decide +kernel
theorem dX7_isFirstOfItsGroup_16 : decode cX7_isFirstOfItsGroup 16 = .ok (.if_icmp .ge 38, 3) := by decide +kernel
theorem dX7_isFirstOfItsGroup_19 : decode cX7_isFirstOfItsGroup 19 = .ok (.aload_n 0, 1) := by decide +kernel
theorem dX7_isFirstOfItsGroup_20 : decode cX7_isFirstOfItsGroup 20 = .ok (.iload 4, 2) := by decide +kernel
theorem dX7_isFirstOfItsGroup_22 : decode cX7_isFirstOfItsGroup 22 = .ok (.iload_n 2, 1) := by decide +kernel
theorem dX7_isFirstOfItsGroup_23 : decode cX7_isFirstOfItsGroup 23 = .ok (.invokevirtual 248, 3) := by decide +kernel
theorem dX7_isFirstOfItsGroup_26 : decode cX7_isFirstOfItsGroup 26 = .ok (.ifCond .eq 22, 3) := by decide +kernel
theorem dX7_isFirstOfItsGroup_29 : decode cX7_isFirstOfItsGroup 29 = .ok (.aload_n 3, 1) := by decide +kernel
theorem dX7_isFirstOfItsGroup_30 : decode cX7_isFirstOfItsGroup 30 = .ok (.aload_n 0, 1) := by decide +kernel
theorem dX7_isFirstOfItsGroup_31 : decode cX7_isFirstOfItsGroup 31 = .ok (.getfield 25, 3) := by decide +kernel
theorem dX7_isFirstOfItsGroup_34 : decode cX7_isFirstOfItsGroup 34 = .ok (.iload 4, 2) := by decide +kernel
theorem dX7_isFirstOfItsGroup_36 : decode cX7_isFirstOfItsGroup 36 = .ok (.aaload, 1) := by decide +kernel
theorem dX7_isFirstOfItsGroup_37 : decode cX7_isFirstOfItsGroup 37 = .ok (.getfield 148, 3) := by decide +kernel
theorem dX7_isFirstOfItsGroup_40 : decode cX7_isFirstOfItsGroup 40 = .ok (.invokevirtual 267, 3) := by decide +kernel
theorem dX7_isFirstOfItsGroup_43 : decode cX7_isFirstOfItsGroup 43 = .ok (.ifCond .eq 5, 3) := by decide +kernel
theorem dX7_isFirstOfItsGroup_46 : decode cX7_isFirstOfItsGroup 46 = .ok (.iconst 0, 1) := by decide +kernel
theorem dX7_isFirstOfItsGroup_47 : decode cX7_isFirstOfItsGroup 47 = .ok (.ireturn, 1) := by decide +kernel
theorem dX7_isFirstOfItsGroup_48 : decode cX7_isFirstOfItsGroup 48 = .ok (.iinc 4 1, 3) := by decide +kernel
theorem dX7_isFirstOfItsGroup_51 : decode cX7_isFirstOfItsGroup 51 = .ok (.goto (-38), 3) := by decide +kernel
theorem dX7_isFirstOfItsGroup_54 : decode cX7_isFirstOfItsGroup 54 = .ok (.iconst 1, 1) := by decide +kernel
theorem dX7_isFirstOfItsGroup_55 : decode cX7_isFirstOfItsGroup 55 = .ok (.ireturn, 1) := by decide +kernel
theorem dX7_isFirstOfItsText_0 : decode cX7_isFirstOfItsText 0 = .ok (.iconst 0, 1) := by decide +kernel
theorem dX7_isFirstOfItsText_1 : decode cX7_isFirstOfItsText 1 = .ok (.istore_n 2, 1) := by decide +kernel
theorem dX7_isFirstOfItsText_2 : decode cX7_isFirstOfItsText 2 = .ok (.iload_n 2, 1) := by decide +kernel
theorem dX7_isFirstOfItsText_3 : decode cX7_isFirstOfItsText 3 = .ok (.iload_n 1, 1) := by decide +kernel
theorem dX7_isFirstOfItsText_4 : decode cX7_isFirstOfItsText 4 = .ok (.if_icmp .ge 29, 3) := by decide +kernel
theorem dX7_isFirstOfItsText_7 : decode cX7_isFirstOfItsText 7 = .ok (.aload_n 0, 1) := by decide +kernel
theorem dX7_isFirstOfItsText_8 : decode cX7_isFirstOfItsText 8 = .ok (.getfield 25, 3) := by decide +kernel
theorem dX7_isFirstOfItsText_11 : decode cX7_isFirstOfItsText 11 = .ok (.iload_n 1, 1) := by decide +kernel
theorem dX7_isFirstOfItsText_12 : decode cX7_isFirstOfItsText 12 = .ok (.aaload, 1) := by decide +kernel
theorem dX7_isFirstOfItsText_13 : decode cX7_isFirstOfItsText 13 = .ok (.aload_n 0, 1) := by decide +kernel
theorem dX7_isFirstOfItsText_14 : decode cX7_isFirstOfItsText 14 = .ok (.getfield 25, 3) := by decide +kernel
theorem dX7_isFirstOfItsText_17 : decode cX7_isFirstOfItsText 17 = .ok (.iload_n 2, 1) := by decide +kernel
theorem dX7_isFirstOfItsText_18 : decode cX7_isFirstOfItsText 18 = .ok (.aaload, 1) := by decide +kernel
theorem dX7_isFirstOfItsText_19 : decode cX7_isFirstOfItsText 19 = .ok (.invokevirtual 271, 3) := by decide +kernel
theorem dX7_isFirstOfItsText_22 : decode cX7_isFirstOfItsText 22 = .ok (.ifCond .eq 5, 3) := by decide +kernel
theorem dX7_isFirstOfItsText_25 : decode cX7_isFirstOfItsText 25 = .ok (.iconst 0, 1) := by decide +kernel
theorem dX7_isFirstOfItsText_26 : decode cX7_isFirstOfItsText 26 = .ok (.ireturn, 1) := by decide +kernel
theorem dX7_isFirstOfItsText_27 : decode cX7_isFirstOfItsText 27 = .ok (.iinc 2 1, 3) := by decide +kernel
theorem dX7_isFirstOfItsText_30 : decode cX7_isFirstOfItsText 30 = .ok (.goto (-28), 3) := by decide +kernel
theorem dX7_isFirstOfItsText_33 : decode cX7_isFirstOfItsText 33 = .ok (.iconst 1, 1) := by decide +kernel
theorem dX7_isFirstOfItsText_34 : decode cX7_isFirstOfItsText 34 = .ok (.ireturn, 1) := by decide +kernel
theorem dX7_isFirstOfItsBehaviour_0 : decode cX7_isFirstOfItsBehaviour 0 = .ok (.aload_n 0, 1) := by decide +kernel
theorem dX7_isFirstOfItsBehaviour_1 : decode cX7_isFirstOfItsBehaviour 1 = .ok (.getfield 25, 3) := by decide +kernel
theorem dX7_isFirstOfItsBehaviour_4 : decode cX7_isFirstOfItsBehaviour 4 = .ok (.iload_n 1, 1) := by decide +kernel
theorem dX7_isFirstOfItsBehaviour_5 : decode cX7_isFirstOfItsBehaviour 5 = .ok (.aaload, 1) := by decide +kernel
theorem dX7_isFirstOfItsBehaviour_6 : decode cX7_isFirstOfItsBehaviour 6 = .ok (.getfield 169, 3) := by decide +kernel
theorem dX7_isFirstOfItsBehaviour_9 : decode cX7_isFirstOfItsBehaviour 9 = .ok (.astore_n 2, 1) := by decide +kernel
theorem dX7_isFirstOfItsBehaviour_10 : decode cX7_isFirstOfItsBehaviour 10 = .ok (.iconst 0, 1) := by decide +kernel
theorem dX7_isFirstOfItsBehaviour_11 : decode cX7_isFirstOfItsBehaviour 11 = .ok (.istore_n 3, 1) := by decide +kernel
theorem dX7_isFirstOfItsBehaviour_12 : decode cX7_isFirstOfItsBehaviour 12 = .ok (.iload_n 3, 1) := by decide +kernel
theorem dX7_isFirstOfItsBehaviour_13 : decode cX7_isFirstOfItsBehaviour 13 = .ok (.iload_n 1, 1) := by decide +kernel
theorem dX7_isFirstOfItsBehaviour_14 : decode cX7_isFirstOfItsBehaviour 14 = .ok (.if_icmp .ge 43, 3) := by decide +kernel
theorem dX7_isFirstOfItsBehaviour_17 : decode cX7_isFirstOfItsBehaviour 17 = .ok (.aload_n 0, 1) := by decide +kernel
theorem dX7_isFirstOfItsBehaviour_18 : decode cX7_isFirstOfItsBehaviour 18 = .ok (.getfield 25, 3) := by decide +kernel
theorem dX7_isFirstOfItsBehaviour_21 : decode cX7_isFirstOfItsBehaviour 21 = .ok (.iload_n 3, 1) := by decide +kernel
theorem dX7_isFirstOfItsBehaviour_22 : decode cX7_isFirstOfItsBehaviour 22 = .ok (.aaload, 1) := by decide +kernel
theorem dX7_isFirstOfItsBehaviour_23 : decode cX7_isFirstOfItsBehaviour 23 = .ok (.getfield 148, 3) := by decide +kernel
theorem dX7_isFirstOfItsBehaviour_26 : decode cX7_isFirstOfItsBehaviour 26 = .ok (.getfield 152, 3) := by decide +kernel
theorem dX7_isFirstOfItsBehaviour_29 : decode cX7_isFirstOfItsBehaviour 29 = .ok (.iconst (-1), 1) := by decide +kernel
theorem dX7_isFirstOfItsBehaviour_30 : decode cX7_isFirstOfItsBehaviour 30 = .ok (.if_icmp .ne 21, 3) := by decide +kernel
theorem dX7_isFirstOfItsBehaviour_33 : decode cX7_isFirstOfItsBehaviour 33 = .ok (.aload_n 2, 1) := by decide +kernel
theorem dX7_isFirstOfItsBehaviour_34 : decode cX7_isFirstOfItsBehaviour 34 = .ok (.aload_n 0, 1) := by decide +kernel
theorem dX7_isFirstOfItsBehaviour_35 : decode cX7_isFirstOfItsBehaviour 35 = .ok (.getfield 25, 3) := by decide +kernel
theorem dX7_isFirstOfItsBehaviour_38 : decode cX7_isFirstOfItsBehaviour 38 = .ok (.iload_n 3, 1) := by decide +kernel
theorem dX7_isFirstOfItsBehaviour_39 : decode cX7_isFirstOfItsBehaviour 39 = .ok (.aaload, 1) := by decide +kernel
theorem dX7_isFirstOfItsBehaviour_40 : decode cX7_isFirstOfItsBehaviour 40 = .ok (.getfield 169, 3) := by decide +kernel
theorem dX7_isFirstOfItsBehaviour_43 : decode cX7_isFirstOfItsBehaviour 43 = .ok (.invokevirtual 275, 3) := by decide +kernel
theorem dX7_isFirstOfItsBehaviour_46 : decode cX7_isFirstOfItsBehaviour 46 = .ok (.ifCond .eq 5, 3) := by decide +kernel
theorem dX7_isFirstOfItsBehaviour_49 : decode cX7_isFirstOfItsBehaviour 49 = .ok (.iconst 0, 1) := by decide +kernel
theorem dX7_isFirstOfItsBehaviour_50 : decode cX7_isFirstOfItsBehaviour 50 = .ok (.ireturn, 1) := by decide +kernel
theorem dX7_isFirstOfItsBehaviour_51 : decode cX7_isFirstOfItsBehaviour 51 = .ok (.iinc 3 1, 3) := by decide +kernel
theorem dX7_isFirstOfItsBehaviour_54 : decode cX7_isFirstOfItsBehaviour 54 = .ok (.goto (-42), 3) := by decide +kernel
theorem dX7_isFirstOfItsBehaviour_57 : decode cX7_isFirstOfItsBehaviour 57 = .ok (.iconst 1, 1) := by decide +kernel
theorem dX7_isFirstOfItsBehaviour_58 : decode cX7_isFirstOfItsBehaviour 58 = .ok (.ireturn, 1) := by decide +kernel
theorem dX7_sumOfGroups_0 : decode cX7_sumOfGroups 0 = .ok (.iconst 0, 1) := by decide +kernel
theorem dX7_sumOfGroups_1 : decode cX7_sumOfGroups 1 = .ok (.istore_n 1, 1) := by decide +kernel
theorem dX7_sumOfGroups_2 : decode cX7_sumOfGroups 2 = .ok (.iconst 0, 1) := by decide +kernel
theorem dX7_sumOfGroups_3 : decode cX7_sumOfGroups 3 = .ok (.istore_n 2, 1) := by decide +kernel
theorem dX7_sumOfGroups_4 : decode cX7_sumOfGroups 4 = .ok (.iload_n 2, 1) := by decide +kernel
theorem dX7_sumOfGroups_5 : decode cX7_sumOfGroups 5 = .ok (.aload_n 0, 1) := by decide +kernel
theorem dX7_sumOfGroups_6 : decode cX7_sumOfGroups 6 = .ok (.getfield 10, 3) := by decide +kernel
theorem dX7_sumOfGroups_9 : decode cX7_sumOfGroups 9 = .ok (.getfield 55, 3) := by decide +kernel
theorem dX7_sumOfGroups_12 : decode cX7_sumOfGroups 12 = .ok (.if_icmp .ge 18, 3) := by decide +kernel
theorem dX7_sumOfGroups_15 : decode cX7_sumOfGroups 15 = .ok (.iload_n 1, 1) := by decide +kernel
theorem dX7_sumOfGroups_16 : decode cX7_sumOfGroups 16 = .ok (.aload_n 0, 1) := by decide +kernel
theorem dX7_sumOfGroups_17 : decode cX7_sumOfGroups 17 = .ok (.getfield 30, 3) := by decide +kernel
theorem dX7_sumOfGroups_20 : decode cX7_sumOfGroups 20 = .ok (.iload_n 2, 1) := by decide +kernel
theorem dX7_sumOfGroups_21 : decode cX7_sumOfGroups 21 = .ok (.iaload, 1) := by decide +kernel
theorem dX7_sumOfGroups_22 : decode cX7_sumOfGroups 22 = .ok (.iadd, 1) := by decide +kernel
theorem dX7_sumOfGroups_23 : decode cX7_sumOfGroups 23 = .ok (.istore_n 1, 1) := by decide +kernel
theorem dX7_sumOfGroups_24 : decode cX7_sumOfGroups 24 = .ok (.iinc 2 1, 3) := by decide +kernel
theorem dX7_sumOfGroups_27 : decode cX7_sumOfGroups 27 = .ok (.goto (-23), 3) := by decide +kernel
theorem dX7_sumOfGroups_30 : decode cX7_sumOfGroups 30 = .ok (.iload_n 1, 1) := by decide +kernel
theorem dX7_sumOfGroups_31 : decode cX7_sumOfGroups 31 = .ok (.ireturn, 1) := by decide +kernel
theorem dX7_mix_0 : decode cX7_mix 0 = .ok (.lload_n 0, 1) := by decide +kernel
theorem dX7_mix_1 : decode cX7_mix 1 = .ok (.ldc2_w 279, 3) := by decide +kernel
theorem dX7_mix_4 : decode cX7_mix 4 = .ok (.lmul, 1) := by decide +kernel
theorem dX7_mix_5 : decode cX7_mix 5 = .ok (.lload_n 2, 1) := by decide +kernel
theorem dX7_mix_6 : decode cX7_mix 6 = .ok (.ladd, 1) := by decide +kernel
theorem dX7_mix_7 : decode cX7_mix 7 = .ok (.lreturn, 1) := by decide +kernel
theorem dX7_mixVariant_0 : decode cX7_mixVariant 0 = .ok (.lload_n 0, 1) := by decide +kernel
theorem dX7_mixVariant_1 : decode cX7_mixVariant 1 = .ok (.aload_n 2, 1) := by decide +kernel
theorem dX7_mixVariant_2 : decode cX7_mixVariant 2 = .ok (.getfield 148, 3) := by decide +kernel
theorem dX7_mixVariant_5 : decode cX7_mixVariant 5 = .ok (.getfield 152, 3) := by decide +kernel
theorem dX7_mixVariant_8 : decode cX7_mixVariant 8 = .ok (.i2l, 1) := by decide +kernel
theorem dX7_mixVariant_9 : decode cX7_mixVariant 9 = .ok (.invokestatic 193, 3) := by decide +kernel
theorem dX7_mixVariant_12 : decode cX7_mixVariant 12 = .ok (.lstore_n 3, 1) := by decide +kernel
theorem dX7_mixVariant_13 : decode cX7_mixVariant 13 = .ok (.aload_n 2, 1) := by decide +kernel
theorem dX7_mixVariant_14 : decode cX7_mixVariant 14 = .ok (.getfield 148, 3) := by decide +kernel
theorem dX7_mixVariant_17 : decode cX7_mixVariant 17 = .ok (.getfield 152, 3) := by decide +kernel
theorem dX7_mixVariant_20 : decode cX7_mixVariant 20 = .ok (.iconst (-1), 1) := by decide +kernel
theorem dX7_mixVariant_21 : decode cX7_mixVariant 21 = .ok (.if_icmp .ne 53, 3) := by decide +kernel
theorem dX7_mixVariant_24 : decode cX7_mixVariant 24 = .ok (.aload_n 2, 1) := by decide +kernel
theorem dX7_mixVariant_25 : decode cX7_mixVariant 25 = .ok (.getfield 169, 3) := by decide +kernel
theorem dX7_mixVariant_28 : decode cX7_mixVariant 28 = .ok (.astore 5, 2) := by decide +kernel
theorem dX7_mixVariant_30 : decode cX7_mixVariant 30 = .ok (.lload_n 3, 1) := by decide +kernel
theorem dX7_mixVariant_31 : decode cX7_mixVariant 31 = .ok (.aload 5, 2) := by decide +kernel
theorem dX7_mixVariant_33 : decode cX7_mixVariant 33 = .ok (.getfield 173, 3) := by decide +kernel
theorem dX7_mixVariant_36 : decode cX7_mixVariant 36 = .ok (.i2l, 1) := by decide +kernel
theorem dX7_mixVariant_37 : decode cX7_mixVariant 37 = .ok (.invokestatic 193, 3) := by decide +kernel
theorem dX7_mixVariant_40 : decode cX7_mixVariant 40 = .ok (.lstore_n 3, 1) := by decide +kernel
theorem dX7_mixVariant_41 : decode cX7_mixVariant 41 = .ok (.iconst 0, 1) := by decide +kernel
theorem dX7_mixVariant_42 : decode cX7_mixVariant 42 = .ok (.istore 6, 2) := by decide +kernel
theorem dX7_mixVariant_44 : decode cX7_mixVariant 44 = .ok (.iload 6, 2) := by decide +kernel
theorem dX7_mixVariant_46 : decode cX7_mixVariant 46 = .ok (.aload 5, 2) := by decide +kernel
theorem dX7_mixVariant_48 : decode cX7_mixVariant 48 = .ok (.getfield 173, 3) := by decide +kernel
theorem dX7_mixVariant_51 : decode cX7_mixVariant 51 = .ok (.if_icmp .ge 23, 3) := by decide +kernel
theorem dX7_mixVariant_54 : decode cX7_mixVariant 54 = .ok (.lload_n 3, 1) := by decide +kernel
theorem dX7_mixVariant_55 : decode cX7_mixVariant 55 = .ok (.aload 5, 2) := by decide +kernel
theorem dX7_mixVariant_57 : decode cX7_mixVariant 57 = .ok (.getfield 180, 3) := by decide +kernel
theorem dX7_mixVariant_60 : decode cX7_mixVariant 60 = .ok (.iload 6, 2) := by decide +kernel
theorem dX7_mixVariant_62 : decode cX7_mixVariant 62 = .ok (.iaload, 1) := by decide +kernel
theorem dX7_mixVariant_63 : decode cX7_mixVariant 63 = .ok (.i2l, 1) := by decide +kernel
theorem dX7_mixVariant_64 : decode cX7_mixVariant 64 = .ok (.invokestatic 193, 3) := by decide +kernel
theorem dX7_mixVariant_67 : decode cX7_mixVariant 67 = .ok (.lstore_n 3, 1) := by decide +kernel
theorem dX7_mixVariant_68 : decode cX7_mixVariant 68 = .ok (.iinc 6 1, 3) := by decide +kernel
theorem dX7_mixVariant_71 : decode cX7_mixVariant 71 = .ok (.goto (-27), 3) := by decide +kernel
theorem dX7_mixVariant_74 : decode cX7_mixVariant 74 = .ok (.lload_n 3, 1) := by decide +kernel
theorem dX7_mixVariant_75 : decode cX7_mixVariant 75 = .ok (.lreturn, 1) := by decide +kernel
theorem dX8_init_0 : decode cX8_init 0 = .ok (.aload_n 0, 1) := by decide +kernel
theorem dX8_init_1 : decode cX8_init 1 = .ok (.invokespecial 1, 3) := by decide +kernel
theorem dX8_init_4 : decode cX8_init 4 = .ok (.aload_n 0, 1) := by decide +kernel
theorem dX8_init_5 : decode cX8_init 5 = .ok (.bipush 80, 2) := by decide +kernel
theorem dX8_init_7 : decode cX8_init 7 = .ok (.newarray .int, 2) := by decide +kernel
theorem dX8_init_9 : decode cX8_init 9 = .ok (.putfield 9, 3) := by decide +kernel
theorem dX8_init_12 : decode cX8_init 12 = .ok (.aload_n 0, 1) := by decide +kernel
theorem dX8_init_13 : decode cX8_init 13 = .ok (.bipush 80, 2) := by decide +kernel
theorem dX8_init_15 : decode cX8_init 15 = .ok (.newarray .int, 2) := by decide +kernel
theorem dX8_init_17 : decode cX8_init 17 = .ok (.putfield 13, 3) := by decide +kernel
theorem dX8_init_20 : decode cX8_init 20 = .ok (.aload_n 0, 1) := by decide +kernel
theorem dX8_init_21 : decode cX8_init 21 = .ok (.sipush 320, 3) := by decide +kernel
theorem dX8_init_24 : decode cX8_init 24 = .ok (.newarray .int, 2) := by decide +kernel
theorem dX8_init_26 : decode cX8_init 26 = .ok (.putfield 16, 3) := by decide +kernel
theorem dX8_init_29 : decode cX8_init 29 = .ok (.aload_n 0, 1) := by decide +kernel
theorem dX8_init_30 : decode cX8_init 30 = .ok (.sipush 6400, 3) := by decide +kernel
theorem dX8_init_33 : decode cX8_init 33 = .ok (.newarray .int, 2) := by decide +kernel
theorem dX8_init_35 : decode cX8_init 35 = .ok (.putfield 19, 3) := by decide +kernel
theorem dX8_init_38 : decode cX8_init 38 = .ok (.aload_n 0, 1) := by decide +kernel
theorem dX8_init_39 : decode cX8_init 39 = .ok (.bipush 16, 2) := by decide +kernel
theorem dX8_init_41 : decode cX8_init 41 = .ok (.newarray .int, 2) := by decide +kernel
theorem dX8_init_43 : decode cX8_init 43 = .ok (.putfield 22, 3) := by decide +kernel
theorem dX8_init_46 : decode cX8_init 46 = .ok (.aload_n 0, 1) := by decide +kernel
theorem dX8_init_47 : decode cX8_init 47 = .ok (.bipush 16, 2) := by decide +kernel
theorem dX8_init_49 : decode cX8_init 49 = .ok (.newarray .int, 2) := by decide +kernel
theorem dX8_init_51 : decode cX8_init 51 = .ok (.putfield 25, 3) := by decide +kernel
theorem dX8_init_54 : decode cX8_init 54 = .ok (.aload_n 0, 1) := by decide +kernel
theorem dX8_init_55 : decode cX8_init 55 = .ok (.bipush 80, 2) := by decide +kernel
theorem dX8_init_57 : decode cX8_init 57 = .ok (.newarray .int, 2) := by decide +kernel
theorem dX8_init_59 : decode cX8_init 59 = .ok (.putfield 28, 3) := by decide +kernel
theorem dX8_init_62 : decode cX8_init 62 = .ok (.aload_n 0, 1) := by decide +kernel
theorem dX8_init_63 : decode cX8_init 63 = .ok (.sipush 1280, 3) := by decide +kernel
theorem dX8_init_66 : decode cX8_init 66 = .ok (.newarray .int, 2) := by decide +kernel
theorem dX8_init_68 : decode cX8_init 68 = .ok (.putfield 31, 3) := by decide +kernel
theorem dX8_init_71 : decode cX8_init 71 = .ok (.aload_n 0, 1) := by decide +kernel
theorem dX8_init_72 : decode cX8_init 72 = .ok (.bipush 81, 2) := by decide +kernel
theorem dX8_init_74 : decode cX8_init 74 = .ok (.newarray .int, 2) := by decide +kernel
theorem dX8_init_76 : decode cX8_init 76 = .ok (.putfield 34, 3) := by decide +kernel
theorem dX8_init_79 : decode cX8_init 79 = .ok (.aload_n 0, 1) := by decide +kernel
theorem dX8_init_80 : decode cX8_init 80 = .ok (.iconst 4, 1) := by decide +kernel
theorem dX8_init_81 : decode cX8_init 81 = .ok (.newarray .int, 2) := by decide +kernel
theorem dX8_init_83 : decode cX8_init 83 = .ok (.putfield 37, 3) := by decide +kernel
theorem dX8_init_86 : decode cX8_init 86 = .ok (.aload_n 0, 1) := by decide +kernel
theorem dX8_init_87 : decode cX8_init 87 = .ok (.bipush 80, 2) := by decide +kernel
theorem dX8_init_89 : decode cX8_init 89 = .ok (.newarray .int, 2) := by decide +kernel
theorem dX8_init_91 : decode cX8_init 91 = .ok (.putfield 40, 3) := by decide +kernel
theorem dX8_init_94 : decode cX8_init 94 = .ok (.return_, 1) := by decide +kernel
theorem dX8_thrown_0 : decode cX8_thrown 0 = .ok (.aload_n 0, 1) := by decide +kernel
theorem dX8_thrown_1 : decode cX8_thrown 1 = .ok (.getfield 43, 3) := by decide +kernel
theorem dX8_thrown_4 : decode cX8_thrown 4 = .ok (.ireturn, 1) := by decide +kernel
theorem dX8_no_0 : decode cX8_no 0 = .ok (.aload_n 0, 1) := by decide +kernel
theorem dX8_no_1 : decode cX8_no 1 = .ok (.iload_n 1, 1) := by decide +kernel
theorem dX8_no_2 : decode cX8_no 2 = .ok (.putfield 43, 3) := by decide +kernel
theorem dX8_no_5 : decode cX8_no 5 = .ok (.iconst 0, 1) := by decide +kernel
theorem dX8_no_6 : decode cX8_no 6 = .ok (.ireturn, 1) := by decide +kernel
theorem dX8_isIn_0 : decode cX8_isIn 0 = .ok (.iload_n 0, 1) := by decide +kernel
theorem dX8_isIn_1 : decode cX8_isIn 1 = .ok (.iload_n 1, 1) := by decide +kernel
theorem dX8_isIn_2 : decode cX8_isIn 2 = .ok (.if_icmp .lt 12, 3) := by decide +kernel
theorem dX8_isIn_5 : decode cX8_isIn 5 = .ok (.iload_n 0, 1) := by decide +kernel
theorem dX8_isIn_6 : decode cX8_isIn 6 = .ok (.iload_n 2, 1) := by decide +kernel
theorem dX8_isIn_7 : decode cX8_isIn 7 = .ok (.if_icmp .gt 7, 3) := by decide +kernel
theorem dX8_isIn_10 : decode cX8_isIn 10 = .ok (.iconst 1, 1) := by decide +kernel
theorem dX8_isIn_11 : decode cX8_isIn 11 = .ok (.goto 4, 3) := by decide +kernel
theorem dX8_isIn_14 : decode cX8_isIn 14 = .ok (.iconst 0, 1) := by decide +kernel
theorem dX8_isIn_15 : decode cX8_isIn 15 = .ok (.ireturn, 1) := by decide +kernel
theorem dX8_has_0 : decode cX8_has 0 = .ok (.iload_n 0, 1) := by decide +kernel
theorem dX8_has_1 : decode cX8_has 1 = .ok (.iload_n 1, 1) := by decide +kernel
theorem dX8_has_2 : decode cX8_has 2 = .ok (.ishr, 1) := by decide +kernel
theorem dX8_has_3 : decode cX8_has 3 = .ok (.iconst 1, 1) := by decide +kernel
theorem dX8_has_4 : decode cX8_has 4 = .ok (.iand, 1) := by decide +kernel
theorem dX8_has_5 : decode cX8_has 5 = .ok (.iconst 1, 1) := by decide +kernel
theorem dX8_has_6 : decode cX8_has 6 = .ok (.if_icmp .ne 7, 3) := by decide +kernel
theorem dX8_has_9 : decode cX8_has 9 = .ok (.iconst 1, 1) := by decide +kernel
theorem dX8_has_10 : decode cX8_has 10 = .ok (.goto 4, 3) := by decide +kernel
theorem dX8_has_13 : decode cX8_has 13 = .ok (.iconst 0, 1) := by decide +kernel
theorem dX8_has_14 : decode cX8_has 14 = .ok (.ireturn, 1) := by decide +kernel
theorem dX8_isItem_0 : decode cX8_isItem 0 = .ok (.iload_n 1, 1) := by decide +kernel
theorem dX8_isItem_1 : decode cX8_isItem 1 = .ok (.iconst 0, 1) := by decide +kernel
theorem dX8_isItem_2 : decode cX8_isItem 2 = .ok (.aload_n 0, 1) := by decide +kernel
theorem dX8_isItem_3 : decode cX8_isItem 3 = .ok (.getfield 47, 3) := by decide +kernel
theorem dX8_isItem_6 : decode cX8_isItem 6 = .ok (.iconst 1, 1) := by decide +kernel
theorem dX8_isItem_7 : decode cX8_isItem 7 = .ok (.isub, 1) := by decide +kernel
theorem dX8_isItem_8 : decode cX8_isItem 8 = .ok (.invokestatic 50, 3) := by decide +kernel
theorem dX8_isItem_11 : decode cX8_isItem 11 = .ok (.ireturn, 1) := by decide +kernel
theorem dX8_isFeature_0 : decode cX8_isFeature 0 = .ok (.iload_n 0, 1) := by decide +kernel
theorem dX8_isFeature_1 : decode cX8_isFeature 1 = .ok (.iconst 0, 1) := by decide +kernel
theorem dX8_isFeature_2 : decode cX8_isFeature 2 = .ok (.iconst 3, 1) := by decide +kernel
theorem dX8_isFeature_3 : decode cX8_isFeature 3 = .ok (.invokestatic 50, 3) := by decide +kernel
theorem dX8_isFeature_6 : decode cX8_isFeature 6 = .ok (.ireturn, 1) := by decide +kernel
theorem dX8_isConfiguration_0 : decode cX8_isConfiguration 0 = .ok (.iload_n 0, 1) := by decide +kernel
theorem dX8_isConfiguration_1 : decode cX8_isConfiguration 1 = .ok (.iconst 0, 1) := by decide +kernel
theorem dX8_isConfiguration_2 : decode cX8_isConfiguration 2 = .ok (.bipush 15, 2) := by decide +kernel
theorem dX8_isConfiguration_4 : decode cX8_isConfiguration 4 = .ok (.invokestatic 50, 3) := by decide +kernel
theorem dX8_isConfiguration_7 : decode cX8_isConfiguration 7 = .ok (.ireturn, 1) := by decide +kernel
theorem dX8_isCharacter_0 : decode cX8_isCharacter 0 = .ok (.iload_n 0, 1) := by decide +kernel
theorem dX8_isCharacter_1 : decode cX8_isCharacter 1 = .ok (.ifCond .le 16, 3) := by decide +kernel
theorem dX8_isCharacter_4 : decode cX8_isCharacter 4 = .ok (.ldc 54, 2) := by decide +kernel
theorem dX8_isCharacter_6 : decode cX8_isCharacter 6 = .ok (.iload_n 0, 1) := by decide +kernel
theorem dX8_isCharacter_7 : decode cX8_isCharacter 7 = .ok (.invokevirtual 56, 3) := by decide +kernel
theorem dX8_isCharacter_10 : decode cX8_isCharacter 10 = .ok (.ifCond .lt 7, 3) := by decide +kernel
theorem dX8_isCharacter_13 : decode cX8_isCharacter 13 = .ok (.iconst 1, 1) := by decide +kernel
theorem dX8_isCharacter_14 : decode cX8_isCharacter 14 = .ok (.goto 4, 3) := by decide +kernel
theorem dX8_isCharacter_17 : decode cX8_isCharacter 17 = .ok (.iconst 0, 1) := by decide +kernel
theorem dX8_isCharacter_18 : decode cX8_isCharacter 18 = .ok (.ireturn, 1) := by decide +kernel
theorem dX8_isToken_0 : decode cX8_isToken 0 = .ok (.aload_n 0, 1) := by decide +kernel
theorem dX8_isToken_1 : decode cX8_isToken 1 = .ok (.getfield 9, 3) := by decide +kernel
theorem dX8_isToken_4 : decode cX8_isToken 4 = .ok (.iload_n 1, 1) := by decide +kernel
theorem dX8_isToken_5 : decode cX8_isToken 5 = .ok (.iaload, 1) := by decide +kernel
theorem dX8_isToken_6 : decode cX8_isToken 6 = .ok (.bipush 17, 2) := by decide +kernel
theorem dX8_isToken_8 : decode cX8_isToken 8 = .ok (.if_icmp .le 7, 3) := by decide +kernel
theorem dX8_isToken_11 : decode cX8_isToken 11 = .ok (.iconst 1, 1) := by decide +kernel
theorem dX8_isToken_12 : decode cX8_isToken 12 = .ok (.goto 4, 3) := by decide +kernel
theorem dX8_isToken_15 : decode cX8_isToken 15 = .ok (.iconst 0, 1) := by decide +kernel
theorem dX8_isToken_16 : decode cX8_isToken 16 = .ok (.ireturn, 1) := by decide +kernel
theorem dX8_append_0 : decode cX8_append 0 = .ok (.aload_n 0, 1) := by decide +kernel
theorem dX8_append_1 : decode cX8_append 1 = .ok (.getfield 9, 3) := by decide +kernel
theorem dX8_append_4 : decode cX8_append 4 = .ok (.aload_n 0, 1) := by decide +kernel
theorem dX8_append_5 : decode cX8_append 5 = .ok (.getfield 47, 3) := by decide +kernel
theorem dX8_append_8 : decode cX8_append 8 = .ok (.iload_n 1, 1) := by decide +kernel
theorem dX8_append_9 : decode cX8_append 9 = .ok (.iastore, 1) := by decide +kernel
theorem dX8_append_10 : decode cX8_append 10 = .ok (.aload_n 0, 1) := by decide +kernel
theorem dX8_append_11 : decode cX8_append 11 = .ok (.dup, 1) := by decide +kernel
theorem dX8_append_12 : decode cX8_append 12 = .ok (.getfield 47, 3) := by decide +kernel
theorem dX8_append_15 : decode cX8_append 15 = .ok (.iconst 1, 1) := by decide +kernel
theorem dX8_append_16 : decode cX8_append 16 = .ok (.iadd, 1) := by decide +kernel
theorem dX8_append_17 : decode cX8_append 17 = .ok (.putfield 47, 3) := by decide +kernel
theorem dX8_append_20 : decode cX8_append 20 = .ok (.aload_n 0, 1) := by decide +kernel
theorem dX8_append_21 : decode cX8_append 21 = .ok (.getfield 47, 3) := by decide +kernel
theorem dX8_append_24 : decode cX8_append 24 = .ok (.ireturn, 1) := by decide +kernel
theorem dX8_write_0 : decode cX8_write 0 = .ok (.aload_n 0, 1) := by decide +kernel
theorem dX8_write_1 : decode cX8_write 1 = .ok (.iconst 0, 1) := by decide +kernel
theorem dX8_write_2 : decode cX8_write 2 = .ok (.putfield 43, 3) := by decide +kernel
theorem dX8_write_5 : decode cX8_write 5 = .ok (.iconst 0, 1) := by decide +kernel
theorem dX8_write_6 : decode cX8_write 6 = .ok (.istore_n 3, 1) := by decide +kernel
theorem dX8_write_7 : decode cX8_write 7 = .ok (.bipush 56, 2) := by decide +kernel
theorem dX8_write_9 : decode cX8_write 9 = .ok (.istore 4, 2) := by decide +kernel
theorem dX8_write_11 : decode cX8_write 11 = .ok (.iload 4, 2) := by decide +kernel
theorem dX8_write_13 : decode cX8_write 13 = .ok (.ifCond .lt 52, 3) := by decide +kernel
theorem dX8_write_16 : decode cX8_write 16 = .ok (.lload_n 1, 1) := by decide +kernel
theorem dX8_write_17 : decode cX8_write 17 = .ok (.iload 4, 2) := by decide +kernel
theorem dX8_write_19 : decode cX8_write 19 = .ok (.lshr, 1) := by decide +kernel
theorem dX8_write_20 : decode cX8_write 20 = .ok (.ldc2_w 62, 3) := by decide +kernel
theorem dX8_write_23 : decode cX8_write 23 = .ok (.land, 1) := by decide +kernel
theorem dX8_write_24 : decode cX8_write 24 = .ok (.l2i, 1) := by decide +kernel
theorem dX8_write_25 : decode cX8_write 25 = .ok (.istore 5, 2) := by decide +kernel
theorem dX8_write_27 : decode cX8_write 27 = .ok (.iload 5, 2) := by decide +kernel
theorem dX8_write_29 : decode cX8_write 29 = .ok (.ifCond .eq 17, 3) := by decide +kernel
theorem dX8_write_32 : decode cX8_write 32 = .ok (.iload 5, 2) := by decide +kernel
theorem dX8_write_34 : decode cX8_write 34 = .ok (.invokestatic 64, 3) := by decide +kernel
theorem dX8_write_37 : decode cX8_write 37 = .ok (.ifCond .ne 9, 3) := by decide +kernel
theorem dX8_write_40 : decode cX8_write 40 = .ok (.aload_n 0, 1) := by decide +kernel
theorem dX8_write_41 : decode cX8_write 41 = .ok (.iconst 1, 1) := by decide +kernel
theorem dX8_write_42 : decode cX8_write 42 = .ok (.invokevirtual 68, 3) := by decide +kernel
theorem dX8_write_45 : decode cX8_write 45 = .ok (.ireturn, 1) := by decide +kernel
theorem dX8_write_46 : decode cX8_write 46 = .ok (.iload_n 3, 1) := by decide +kernel
theorem dX8_write_47 : decode cX8_write 47 = .ok (.iload 5, 2) := by decide +kernel
theorem dX8_write_49 : decode cX8_write 49 = .ok (.ifCond .ne 7, 3) := by decide +kernel
theorem dX8_write_52 : decode cX8_write 52 = .ok (.iconst 0, 1) := by decide +kernel
theorem dX8_write_53 : decode cX8_write 53 = .ok (.goto 4, 3) := by decide +kernel
theorem dX8_write_56 : decode cX8_write 56 = .ok (.iconst 1, 1) := by decide +kernel
theorem dX8_write_57 : decode cX8_write 57 = .ok (.iadd, 1) := by decide +kernel
theorem dX8_write_58 : decode cX8_write 58 = .ok (.istore_n 3, 1) := by decide +kernel
theorem dX8_write_59 : decode cX8_write 59 = .ok (.iinc 4 (-8), 3) := by decide +kernel
theorem dX8_write_62 : decode cX8_write 62 = .ok (.goto (-51), 3) := by decide +kernel
theorem dX8_write_65 : decode cX8_write 65 = .ok (.aload_n 0, 1) := by decide +kernel
theorem dX8_write_66 : decode cX8_write 66 = .ok (.getfield 47, 3) := by decide +kernel
theorem dX8_write_69 : decode cX8_write 69 = .ok (.iload_n 3, 1) := by decide +kernel
theorem dX8_write_70 : decode cX8_write 70 = .ok (.iadd, 1) := by decide +kernel
theorem dX8_write_71 : decode cX8_write 71 = .ok (.bipush 80, 2) := by decide +kernel
theorem dX8_write_73 : decode cX8_write 73 = .ok (.if_icmp .le 9, 3) := by decide +kernel
theorem dX8_write_76 : decode cX8_write 76 = .ok (.aload_n 0, 1) := by decide +kernel
theorem dX8_write_77 : decode cX8_write 77 = .ok (.iconst 2, 1) := by decide +kernel
theorem dX8_write_78 : decode cX8_write 78 = .ok (.invokevirtual 68, 3) := by decide +kernel
theorem dX8_write_81 : decode cX8_write 81 = .ok (.ireturn, 1) := by decide +kernel
theorem dX8_write_82 : decode cX8_write 82 = .ok (.bipush 56, 2) := by decide +kernel
theorem dX8_write_84 : decode cX8_write 84 = .ok (.istore 4, 2) := by decide +kernel
theorem dX8_write_86 : decode cX8_write 86 = .ok (.iload 4, 2) := by decide +kernel
theorem dX8_write_88 : decode cX8_write 88 = .ok (.ifCond .lt 32, 3) := by decide +kernel
theorem dX8_write_91 : decode cX8_write 91 = .ok (.lload_n 1, 1) := by decide +kernel
theorem dX8_write_92 : decode cX8_write 92 = .ok (.iload 4, 2) := by decide +kernel
theorem dX8_write_94 : decode cX8_write 94 = .ok (.lshr, 1) := by decide +kernel
theorem dX8_write_95 : decode cX8_write 95 = .ok (.ldc2_w 62, 3) := by decide +kernel
theorem dX8_write_98 : decode cX8_write 98 = .ok (.land, 1) := by decide +kernel
theorem dX8_write_99 : decode cX8_write 99 = .ok (.l2i, 1) := by decide +kernel
theorem dX8_write_100 : decode cX8_write 100 = .ok (.istore 5, 2) := by decide +kernel
theorem dX8_write_102 : decode cX8_write 102 = .ok (.iload 5, 2) := by decide +kernel
theorem dX8_write_104 : decode cX8_write 104 = .ok (.ifCond .eq 10, 3) := by decide +kernel
theorem dX8_write_107 : decode cX8_write 107 = .ok (.aload_n 0, 1) := by decide +kernel
theorem dX8_write_108 : decode cX8_write 108 = .ok (.iload 5, 2) := by decide +kernel
theorem dX8_write_110 : decode cX8_write 110 = .ok (.invokevirtual 71, 3) := by decide +kernel
theorem dX8_write_113 : decode cX8_write 113 = .ok (.pop, 1) := by decide +kernel
theorem dX8_write_114 : decode cX8_write 114 = .ok (.iinc 4 (-8), 3) := by decide +kernel
theorem dX8_write_117 : decode cX8_write 117 = .ok (.goto (-31), 3) := by decide +kernel
theorem dX8_write_120 : decode cX8_write 120 = .ok (.aload_n 0, 1) := by decide +kernel
theorem dX8_write_121 : decode cX8_write 121 = .ok (.getfield 47, 3) := by decide +kernel
theorem dX8_write_124 : decode cX8_write 124 = .ok (.ireturn, 1) := by decide +kernel
theorem dX8_whenOf_0 : decode cX8_whenOf 0 = .ok (.iconst 0, 1) := by decide +kernel
theorem dX8_whenOf_1 : decode cX8_whenOf 1 = .ok (.istore_n 2, 1) := by decide +kernel
theorem dX8_whenOf_2 : decode cX8_whenOf 2 = .ok (.iload_n 1, 1) := by decide +kernel
theorem dX8_whenOf_3 : decode cX8_whenOf 3 = .ok (.iconst 1, 1) := by decide +kernel
theorem dX8_whenOf_4 : decode cX8_whenOf 4 = .ok (.isub, 1) := by decide +kernel
theorem dX8_whenOf_5 : decode cX8_whenOf 5 = .ok (.istore_n 3, 1) := by decide +kernel
theorem dX8_whenOf_6 : decode cX8_whenOf 6 = .ok (.iload_n 3, 1) := by decide +kernel
theorem dX8_whenOf_7 : decode cX8_whenOf 7 = .ok (.ifCond .lt 54, 3) := by decide +kernel
theorem dX8_whenOf_10 : decode cX8_whenOf 10 = .ok (.aload_n 0, 1) := by decide +kernel
theorem dX8_whenOf_11 : decode cX8_whenOf 11 = .ok (.getfield 9, 3) := by decide +kernel
theorem dX8_whenOf_14 : decode cX8_whenOf 14 = .ok (.iload_n 3, 1) := by decide +kernel
theorem dX8_whenOf_15 : decode cX8_whenOf 15 = .ok (.iaload, 1) := by decide +kernel
theorem dX8_whenOf_16 : decode cX8_whenOf 16 = .ok (.bipush 17, 2) := by decide +kernel
theorem dX8_whenOf_18 : decode cX8_whenOf 18 = .ok (.if_icmp .ne 6, 3) := by decide +kernel
theorem dX8_whenOf_21 : decode cX8_whenOf 21 = .ok (.iinc 2 1, 3) := by decide +kernel
theorem dX8_whenOf_24 : decode cX8_whenOf 24 = .ok (.aload_n 0, 1) := by decide +kernel
theorem dX8_whenOf_25 : decode cX8_whenOf 25 = .ok (.getfield 9, 3) := by decide +kernel
theorem dX8_whenOf_28 : decode cX8_whenOf 28 = .ok (.iload_n 3, 1) := by decide +kernel
theorem dX8_whenOf_29 : decode cX8_whenOf 29 = .ok (.iaload, 1) := by decide +kernel
theorem dX8_whenOf_30 : decode cX8_whenOf 30 = .ok (.bipush 8, 2) := by decide +kernel
theorem dX8_whenOf_32 : decode cX8_whenOf 32 = .ok (.if_icmp .ge 9, 3) := by decide +kernel
theorem dX8_whenOf_35 : decode cX8_whenOf 35 = .ok (.iload_n 2, 1) := by decide +kernel
theorem dX8_whenOf_36 : decode cX8_whenOf 36 = .ok (.ifCond .ne 5, 3) := by decide +kernel
theorem dX8_whenOf_39 : decode cX8_whenOf 39 = .ok (.iload_n 3, 1) := by decide +kernel
theorem dX8_whenOf_40 : decode cX8_whenOf 40 = .ok (.ireturn, 1) := by decide +kernel
theorem dX8_whenOf_41 : decode cX8_whenOf 41 = .ok (.aload_n 0, 1) := by decide +kernel
theorem dX8_whenOf_42 : decode cX8_whenOf 42 = .ok (.getfield 9, 3) := by decide +kernel
theorem dX8_whenOf_45 : decode cX8_whenOf 45 = .ok (.iload_n 3, 1) := by decide +kernel
theorem dX8_whenOf_46 : decode cX8_whenOf 46 = .ok (.iaload, 1) := by decide +kernel
theorem dX8_whenOf_47 : decode cX8_whenOf 47 = .ok (.bipush 8, 2) := by decide +kernel
theorem dX8_whenOf_49 : decode cX8_whenOf 49 = .ok (.if_icmp .ge 6, 3) := by decide +kernel
theorem dX8_whenOf_52 : decode cX8_whenOf 52 = .ok (.iinc 2 (-1), 3) := by decide +kernel
theorem dX8_whenOf_55 : decode cX8_whenOf 55 = .ok (.iinc 3 (-1), 3) := by decide +kernel
theorem dX8_whenOf_58 : decode cX8_whenOf 58 = .ok (.goto (-52), 3) := by decide +kernel
theorem dX8_whenOf_61 : decode cX8_whenOf 61 = .ok (.iconst (-1), 1) := by decide +kernel
theorem dX8_whenOf_62 : decode cX8_whenOf 62 = .ok (.ireturn, 1) := by decide +kernel
theorem dX8_openCount_0 : decode cX8_openCount 0 = .ok (.iconst 0, 1) := by decide +kernel
theorem dX8_openCount_1 : decode cX8_openCount 1 = .ok (.istore_n 1, 1) := by decide +kernel
theorem dX8_openCount_2 : decode cX8_openCount 2 = .ok (.iconst 0, 1) := by decide +kernel
theorem dX8_openCount_3 : decode cX8_openCount 3 = .ok (.istore_n 2, 1) := by decide +kernel
theorem dX8_openCount_4 : decode cX8_openCount 4 = .ok (.iload_n 2, 1) := by decide +kernel
theorem dX8_openCount_5 : decode cX8_openCount 5 = .ok (.aload_n 0, 1) := by decide +kernel
theorem dX8_openCount_6 : decode cX8_openCount 6 = .ok (.getfield 47, 3) := by decide +kernel
theorem dX8_openCount_9 : decode cX8_openCount 9 = .ok (.if_icmp .ge 43, 3) := by decide +kernel
theorem dX8_openCount_12 : decode cX8_openCount 12 = .ok (.iload_n 1, 1) := by decide +kernel
theorem dX8_openCount_13 : decode cX8_openCount 13 = .ok (.aload_n 0, 1) := by decide +kernel
theorem dX8_openCount_14 : decode cX8_openCount 14 = .ok (.getfield 9, 3) := by decide +kernel
theorem dX8_openCount_17 : decode cX8_openCount 17 = .ok (.iload_n 2, 1) := by decide +kernel
theorem dX8_openCount_18 : decode cX8_openCount 18 = .ok (.iaload, 1) := by decide +kernel
theorem dX8_openCount_19 : decode cX8_openCount 19 = .ok (.bipush 8, 2) := by decide +kernel
theorem dX8_openCount_21 : decode cX8_openCount 21 = .ok (.if_icmp .ge 7, 3) := by decide +kernel
theorem dX8_openCount_24 : decode cX8_openCount 24 = .ok (.iconst 1, 1) := by decide +kernel
theorem dX8_openCount_25 : decode cX8_openCount 25 = .ok (.goto 19, 3) := by decide +kernel
theorem dX8_openCount_28 : decode cX8_openCount 28 = .ok (.aload_n 0, 1) := by decide +kernel
theorem dX8_openCount_29 : decode cX8_openCount 29 = .ok (.getfield 9, 3) := by decide +kernel
theorem dX8_openCount_32 : decode cX8_openCount 32 = .ok (.iload_n 2, 1) := by decide +kernel
theorem dX8_openCount_33 : decode cX8_openCount 33 = .ok (.iaload, 1) := by decide +kernel
theorem dX8_openCount_34 : decode cX8_openCount 34 = .ok (.bipush 17, 2) := by decide +kernel
theorem dX8_openCount_36 : decode cX8_openCount 36 = .ok (.if_icmp .ne 7, 3) := by decide +kernel
theorem dX8_openCount_39 : decode cX8_openCount 39 = .ok (.iconst (-1), 1) := by decide +kernel
theorem dX8_openCount_40 : decode cX8_openCount 40 = .ok (.goto 4, 3) := by decide +kernel
theorem dX8_openCount_43 : decode cX8_openCount 43 = .ok (.iconst 0, 1) := by decide +kernel
theorem dX8_openCount_44 : decode cX8_openCount 44 = .ok (.iadd, 1) := by decide +kernel
theorem dX8_openCount_45 : decode cX8_openCount 45 = .ok (.istore_n 1, 1) := by decide +kernel
theorem dX8_openCount_46 : decode cX8_openCount 46 = .ok (.iinc 2 1, 3) := by decide +kernel
theorem dX8_openCount_49 : decode cX8_openCount 49 = .ok (.goto (-45), 3) := by decide +kernel
theorem dX8_openCount_52 : decode cX8_openCount 52 = .ok (.iload_n 1, 1) := by decide +kernel
theorem dX8_openCount_53 : decode cX8_openCount 53 = .ok (.ireturn, 1) := by decide +kernel
theorem dX8_when_0 : decode cX8_when 0 = .ok (.aload_n 0, 1) := by decide +kernel
theorem dX8_when_1 : decode cX8_when 1 = .ok (.iconst 0, 1) := by decide +kernel
theorem dX8_when_2 : decode cX8_when 2 = .ok (.putfield 43, 3) := by decide +kernel
theorem dX8_when_5 : decode cX8_when 5 = .ok (.iload_n 1, 1) := by decide +kernel
theorem dX8_when_6 : decode cX8_when 6 = .ok (.invokestatic 74, 3) := by decide +kernel
theorem dX8_when_9 : decode cX8_when 9 = .ok (.ifCond .ne 9, 3) := by decide +kernel
theorem dX8_when_12 : decode cX8_when 12 = .ok (.aload_n 0, 1) := by decide +kernel
theorem dX8_when_13 : decode cX8_when 13 = .ok (.iconst 1, 1) := by decide +kernel
theorem dX8_when_14 : decode cX8_when 14 = .ok (.invokevirtual 68, 3) := by decide +kernel
theorem dX8_when_17 : decode cX8_when 17 = .ok (.ireturn, 1) := by decide +kernel
theorem dX8_when_18 : decode cX8_when 18 = .ok (.aload_n 0, 1) := by decide +kernel
theorem dX8_when_19 : decode cX8_when 19 = .ok (.getfield 47, 3) := by decide +kernel
theorem dX8_when_22 : decode cX8_when 22 = .ok (.bipush 80, 2) := by decide +kernel
theorem dX8_when_24 : decode cX8_when 24 = .ok (.if_icmp .eq 11, 3) := by decide +kernel
theorem dX8_when_27 : decode cX8_when 27 = .ok (.aload_n 0, 1) := by decide +kernel
theorem dX8_when_28 : decode cX8_when 28 = .ok (.invokevirtual 77, 3) := by decide +kernel
theorem dX8_when_31 : decode cX8_when 31 = .ok (.iconst 5, 1) := by decide +kernel
theorem dX8_when_32 : decode cX8_when 32 = .ok (.if_icmp .ne 11, 3) := by decide +kernel
theorem dX8_when_35 : decode cX8_when 35 = .ok (.aload_n 0, 1) := by decide +kernel
theorem dX8_when_36 : decode cX8_when 36 = .ok (.iconst 2, 1) := by decide +kernel
theorem dX8_when_37 : decode cX8_when 37 = .ok (.invokevirtual 68, 3) := by decide +kernel
theorem dX8_when_40 : decode cX8_when 40 = .ok (.goto 20, 3) := by decide +kernel
theorem dX8_when_43 : decode cX8_when 43 = .ok (.aload_n 0, 1) := by decide +kernel
theorem dX8_when_44 : decode cX8_when 44 = .ok (.iconst 2, 1) := by decide +kernel
theorem dX8_when_45 : decode cX8_when 45 = .ok (.iload_n 1, 1) := by decide +kernel
theorem dX8_when_46 : decode cX8_when 46 = .ok (.imul, 1) := by decide +kernel
theorem dX8_when_47 : decode cX8_when 47 = .ok (.iload_n 2, 1) := by decide +kernel
theorem dX8_when_48 : decode cX8_when 48 = .ok (.ifCond .eq 7, 3) := by decide +kernel
theorem dX8_when_51 : decode cX8_when 51 = .ok (.iconst 1, 1) := by decide +kernel
theorem dX8_when_52 : decode cX8_when 52 = .ok (.goto 4, 3) := by decide +kernel
theorem dX8_when_55 : decode cX8_when 55 = .ok (.iconst 0, 1) := by decide +kernel
theorem dX8_when_56 : decode cX8_when 56 = .ok (.iadd, 1) := by decide +kernel
theorem dX8_when_57 : decode cX8_when 57 = .ok (.invokevirtual 71, 3) := by decide +kernel
theorem dX8_when_60 : decode cX8_when 60 = .ok (.ireturn, 1) := by decide +kernel
theorem dX8_hasOtherwise_0 : decode cX8_hasOtherwise 0 = .ok (.iconst 0, 1) := by decide +kernel
theorem dX8_hasOtherwise_1 : decode cX8_hasOtherwise 1 = .ok (.istore_n 2, 1) := by decide +kernel
theorem dX8_hasOtherwise_2 : decode cX8_hasOtherwise 2 = .ok (.iload_n 1, 1) := by decide +kernel
theorem dX8_hasOtherwise_3 : decode cX8_hasOtherwise 3 = .ok (.iconst 1, 1) := by decide +kernel
theorem dX8_hasOtherwise_4 : decode cX8_hasOtherwise 4 = .ok (.iadd, 1) := by decide +kernel
theorem dX8_hasOtherwise_5 : decode cX8_hasOtherwise 5 = .ok (.istore_n 3, 1) := by decide +kernel
theorem dX8_hasOtherwise_6 : decode cX8_hasOtherwise 6 = .ok (.iload_n 3, 1) := by decide +kernel
theorem dX8_hasOtherwise_7 : decode cX8_hasOtherwise 7 = .ok (.aload_n 0, 1) := by decide +kernel
theorem dX8_hasOtherwise_8 : decode cX8_hasOtherwise 8 = .ok (.getfield 47, 3) := by decide +kernel
theorem dX8_hasOtherwise_11 : decode cX8_hasOtherwise 11 = .ok (.if_icmp .ge 39, 3) := by decide +kernel
theorem dX8_hasOtherwise_14 : decode cX8_hasOtherwise 14 = .ok (.iload_n 2, 1) := by decide +kernel
theorem dX8_hasOtherwise_15 : decode cX8_hasOtherwise 15 = .ok (.ifCond .ne 23, 3) := by decide +kernel
theorem dX8_hasOtherwise_18 : decode cX8_hasOtherwise 18 = .ok (.aload_n 0, 1) := by decide +kernel
theorem dX8_hasOtherwise_19 : decode cX8_hasOtherwise 19 = .ok (.getfield 9, 3) := by decide +kernel
theorem dX8_hasOtherwise_22 : decode cX8_hasOtherwise 22 = .ok (.iload_n 3, 1) := by decide +kernel
theorem dX8_hasOtherwise_23 : decode cX8_hasOtherwise 23 = .ok (.iaload, 1) := by decide +kernel
theorem dX8_hasOtherwise_24 : decode cX8_hasOtherwise 24 = .ok (.bipush 16, 2) := by decide +kernel
theorem dX8_hasOtherwise_26 : decode cX8_hasOtherwise 26 = .ok (.if_icmp .ne 16, 3) := by decide +kernel
theorem dX8_hasOtherwise_29 : decode cX8_hasOtherwise 29 = .ok (.aload_n 0, 1) := by decide +kernel
theorem dX8_hasOtherwise_30 : decode cX8_hasOtherwise 30 = .ok (.iload_n 3, 1) := by decide +kernel
theorem dX8_hasOtherwise_31 : decode cX8_hasOtherwise 31 = .ok (.invokevirtual 81, 3) := by decide +kernel
theorem dX8_hasOtherwise_34 : decode cX8_hasOtherwise 34 = .ok (.iload_n 1, 1) := by decide +kernel
theorem dX8_hasOtherwise_35 : decode cX8_hasOtherwise 35 = .ok (.if_icmp .ne 7, 3) := by decide +kernel
theorem dX8_hasOtherwise_38 : decode cX8_hasOtherwise 38 = .ok (.iconst 1, 1) := by decide +kernel
theorem dX8_hasOtherwise_39 : decode cX8_hasOtherwise 39 = .ok (.goto 4, 3) := by decide +kernel
theorem dX8_hasOtherwise_42 : decode cX8_hasOtherwise 42 = .ok (.iconst 0, 1) := by decide +kernel
theorem dX8_hasOtherwise_43 : decode cX8_hasOtherwise 43 = .ok (.istore_n 2, 1) := by decide +kernel
theorem dX8_hasOtherwise_44 : decode cX8_hasOtherwise 44 = .ok (.iinc 3 1, 3) := by decide +kernel
theorem dX8_hasOtherwise_47 : decode cX8_hasOtherwise 47 = .ok (.goto (-41), 3) := by decide +kernel
theorem dX8_hasOtherwise_50 : decode cX8_hasOtherwise 50 = .ok (.iload_n 2, 1) := by decide +kernel
theorem dX8_hasOtherwise_51 : decode cX8_hasOtherwise 51 = .ok (.ireturn, 1) := by decide +kernel
theorem dX8_otherwise_0 : decode cX8_otherwise 0 = .ok (.aload_n 0, 1) := by decide +kernel
theorem dX8_otherwise_1 : decode cX8_otherwise 1 = .ok (.iconst 0, 1) := by decide +kernel
theorem dX8_otherwise_2 : decode cX8_otherwise 2 = .ok (.putfield 43, 3) := by decide +kernel
theorem dX8_otherwise_5 : decode cX8_otherwise 5 = .ok (.aload_n 0, 1) := by decide +kernel
theorem dX8_otherwise_6 : decode cX8_otherwise 6 = .ok (.aload_n 0, 1) := by decide +kernel
theorem dX8_otherwise_7 : decode cX8_otherwise 7 = .ok (.getfield 47, 3) := by decide +kernel
theorem dX8_otherwise_10 : decode cX8_otherwise 10 = .ok (.invokevirtual 81, 3) := by decide +kernel
theorem dX8_otherwise_13 : decode cX8_otherwise 13 = .ok (.istore_n 1, 1) := by decide +kernel
theorem dX8_otherwise_14 : decode cX8_otherwise 14 = .ok (.aload_n 0, 1) := by decide +kernel
theorem dX8_otherwise_15 : decode cX8_otherwise 15 = .ok (.getfield 47, 3) := by decide +kernel
theorem dX8_otherwise_18 : decode cX8_otherwise 18 = .ok (.bipush 80, 2) := by decide +kernel
theorem dX8_otherwise_20 : decode cX8_otherwise 20 = .ok (.if_icmp .eq 16, 3) := by decide +kernel
theorem dX8_otherwise_23 : decode cX8_otherwise 23 = .ok (.iload_n 1, 1) := by decide +kernel
theorem dX8_otherwise_24 : decode cX8_otherwise 24 = .ok (.iconst (-1), 1) := by decide +kernel
theorem dX8_otherwise_25 : decode cX8_otherwise 25 = .ok (.if_icmp .eq 11, 3) := by decide +kernel
theorem dX8_otherwise_28 : decode cX8_otherwise 28 = .ok (.aload_n 0, 1) := by decide +kernel
theorem dX8_otherwise_29 : decode cX8_otherwise 29 = .ok (.iload_n 1, 1) := by decide +kernel
theorem dX8_otherwise_30 : decode cX8_otherwise 30 = .ok (.invokevirtual 84, 3) := by decide +kernel
theorem dX8_otherwise_33 : decode cX8_otherwise 33 = .ok (.ifCond .eq 11, 3) := by decide +kernel
theorem dX8_otherwise_36 : decode cX8_otherwise 36 = .ok (.aload_n 0, 1) := by decide +kernel
theorem dX8_otherwise_37 : decode cX8_otherwise 37 = .ok (.iconst 1, 1) := by decide +kernel
theorem dX8_otherwise_38 : decode cX8_otherwise 38 = .ok (.invokevirtual 68, 3) := by decide +kernel
theorem dX8_otherwise_41 : decode cX8_otherwise 41 = .ok (.goto 9, 3) := by decide +kernel
theorem dX8_otherwise_44 : decode cX8_otherwise 44 = .ok (.aload_n 0, 1) := by decide +kernel
theorem dX8_otherwise_45 : decode cX8_otherwise 45 = .ok (.bipush 16, 2) := by decide +kernel
theorem dX8_otherwise_47 : decode cX8_otherwise 47 = .ok (.invokevirtual 71, 3) := by decide +kernel
theorem dX8_otherwise_50 : decode cX8_otherwise 50 = .ok (.ireturn, 1) := by decide +kernel
theorem dX8_done_0 : decode cX8_done 0 = .ok (.aload_n 0, 1) := by decide +kernel
theorem dX8_done_1 : decode cX8_done 1 = .ok (.iconst 0, 1) := by decide +kernel
theorem dX8_done_2 : decode cX8_done 2 = .ok (.putfield 43, 3) := by decide +kernel
theorem dX8_done_5 : decode cX8_done 5 = .ok (.aload_n 0, 1) := by decide +kernel
theorem dX8_done_6 : decode cX8_done 6 = .ok (.getfield 47, 3) := by decide +kernel
theorem dX8_done_9 : decode cX8_done 9 = .ok (.bipush 80, 2) := by decide +kernel
theorem dX8_done_11 : decode cX8_done 11 = .ok (.if_icmp .eq 15, 3) := by decide +kernel
theorem dX8_done_14 : decode cX8_done 14 = .ok (.aload_n 0, 1) := by decide +kernel
theorem dX8_done_15 : decode cX8_done 15 = .ok (.aload_n 0, 1) := by decide +kernel
theorem dX8_done_16 : decode cX8_done 16 = .ok (.getfield 47, 3) := by decide +kernel
theorem dX8_done_19 : decode cX8_done 19 = .ok (.invokevirtual 81, 3) := by decide +kernel
theorem dX8_done_22 : decode cX8_done 22 = .ok (.iconst (-1), 1) := by decide +kernel
theorem dX8_done_23 : decode cX8_done 23 = .ok (.if_icmp .ne 11, 3) := by decide +kernel
theorem dX8_done_26 : decode cX8_done 26 = .ok (.aload_n 0, 1) := by decide +kernel
theorem dX8_done_27 : decode cX8_done 27 = .ok (.iconst 1, 1) := by decide +kernel
theorem dX8_done_28 : decode cX8_done 28 = .ok (.invokevirtual 68, 3) := by decide +kernel
theorem dX8_done_31 : decode cX8_done 31 = .ok (.goto 9, 3) := by decide +kernel
theorem dX8_done_34 : decode cX8_done 34 = .ok (.aload_n 0, 1) := by decide +kernel
theorem dX8_done_35 : decode cX8_done 35 = .ok (.bipush 17, 2) := by decide +kernel
theorem dX8_done_37 : decode cX8_done 37 = .ok (.invokevirtual 71, 3) := by decide +kernel
theorem dX8_done_40 : decode cX8_done 40 = .ok (.ireturn, 1) := by decide +kernel
theorem dX8_set_0 : decode cX8_set 0 = .ok (.aload_n 0, 1) := by decide +kernel
theorem dX8_set_1 : decode cX8_set 1 = .ok (.iconst 0, 1) := by decide +kernel
theorem dX8_set_2 : decode cX8_set 2 = .ok (.putfield 43, 3) := by decide +kernel
theorem dX8_set_5 : decode cX8_set 5 = .ok (.iload_n 1, 1) := by decide +kernel
theorem dX8_set_6 : decode cX8_set 6 = .ok (.invokestatic 74, 3) := by decide +kernel
theorem dX8_set_9 : decode cX8_set 9 = .ok (.ifCond .ne 9, 3) := by decide +kernel
theorem dX8_set_12 : decode cX8_set 12 = .ok (.aload_n 0, 1) := by decide +kernel
theorem dX8_set_13 : decode cX8_set 13 = .ok (.iconst 1, 1) := by decide +kernel
theorem dX8_set_14 : decode cX8_set 14 = .ok (.invokevirtual 68, 3) := by decide +kernel
theorem dX8_set_17 : decode cX8_set 17 = .ok (.ireturn, 1) := by decide +kernel
theorem dX8_set_18 : decode cX8_set 18 = .ok (.aload_n 0, 1) := by decide +kernel
theorem dX8_set_19 : decode cX8_set 19 = .ok (.getfield 47, 3) := by decide +kernel
theorem dX8_set_22 : decode cX8_set 22 = .ok (.bipush 80, 2) := by decide +kernel
theorem dX8_set_24 : decode cX8_set 24 = .ok (.if_icmp .ne 11, 3) := by decide +kernel
theorem dX8_set_27 : decode cX8_set 27 = .ok (.aload_n 0, 1) := by decide +kernel
theorem dX8_set_28 : decode cX8_set 28 = .ok (.iconst 2, 1) := by decide +kernel
theorem dX8_set_29 : decode cX8_set 29 = .ok (.invokevirtual 68, 3) := by decide +kernel
theorem dX8_set_32 : decode cX8_set 32 = .ok (.goto 23, 3) := by decide +kernel
theorem dX8_set_35 : decode cX8_set 35 = .ok (.aload_n 0, 1) := by decide +kernel
theorem dX8_set_36 : decode cX8_set 36 = .ok (.bipush 8, 2) := by decide +kernel
theorem dX8_set_38 : decode cX8_set 38 = .ok (.iconst 2, 1) := by decide +kernel
theorem dX8_set_39 : decode cX8_set 39 = .ok (.iload_n 1, 1) := by decide +kernel
theorem dX8_set_40 : decode cX8_set 40 = .ok (.imul, 1) := by decide +kernel
theorem dX8_set_41 : decode cX8_set 41 = .ok (.iadd, 1) := by decide +kernel
theorem dX8_set_42 : decode cX8_set 42 = .ok (.iload_n 2, 1) := by decide +kernel
theorem dX8_set_43 : decode cX8_set 43 = .ok (.ifCond .eq 7, 3) := by decide +kernel
theorem dX8_set_46 : decode cX8_set 46 = .ok (.iconst 1, 1) := by decide +kernel
theorem dX8_set_47 : decode cX8_set 47 = .ok (.goto 4, 3) := by decide +kernel
theorem dX8_set_50 : decode cX8_set 50 = .ok (.iconst 0, 1) := by decide +kernel
theorem dX8_set_51 : decode cX8_set 51 = .ok (.iadd, 1) := by decide +kernel
theorem dX8_set_52 : decode cX8_set 52 = .ok (.invokevirtual 71, 3) := by decide +kernel
theorem dX8_set_55 : decode cX8_set 55 = .ok (.ireturn, 1) := by decide +kernel
theorem dX8_drop_0 : decode cX8_drop 0 = .ok (.aload_n 0, 1) := by decide +kernel
theorem dX8_drop_1 : decode cX8_drop 1 = .ok (.iconst 0, 1) := by decide +kernel
theorem dX8_drop_2 : decode cX8_drop 2 = .ok (.putfield 43, 3) := by decide +kernel
theorem dX8_drop_5 : decode cX8_drop 5 = .ok (.aload_n 0, 1) := by decide +kernel
theorem dX8_drop_6 : decode cX8_drop 6 = .ok (.getfield 47, 3) := by decide +kernel
theorem dX8_drop_9 : decode cX8_drop 9 = .ok (.ifCond .ne 9, 3) := by decide +kernel
theorem dX8_drop_12 : decode cX8_drop 12 = .ok (.aload_n 0, 1) := by decide +kernel
theorem dX8_drop_13 : decode cX8_drop 13 = .ok (.iconst 1, 1) := by decide +kernel
theorem dX8_drop_14 : decode cX8_drop 14 = .ok (.invokevirtual 68, 3) := by decide +kernel
theorem dX8_drop_17 : decode cX8_drop 17 = .ok (.ireturn, 1) := by decide +kernel
theorem dX8_drop_18 : decode cX8_drop 18 = .ok (.aload_n 0, 1) := by decide +kernel
theorem dX8_drop_19 : decode cX8_drop 19 = .ok (.dup, 1) := by decide +kernel
theorem dX8_drop_20 : decode cX8_drop 20 = .ok (.getfield 47, 3) := by decide +kernel
theorem dX8_drop_23 : decode cX8_drop 23 = .ok (.iconst 1, 1) := by decide +kernel
theorem dX8_drop_24 : decode cX8_drop 24 = .ok (.isub, 1) := by decide +kernel
theorem dX8_drop_25 : decode cX8_drop 25 = .ok (.putfield 47, 3) := by decide +kernel
theorem dX8_drop_28 : decode cX8_drop 28 = .ok (.aload_n 0, 1) := by decide +kernel
end
section
theorem dX8_drop_29 : decode cX8_drop 29 = .ok (.getfield 47, 3) := by decide +kernel
theorem dX8_drop_32 : decode cX8_drop 32 = .ok (.ireturn, 1) := by decide +kernel
theorem dX8_replace_0 : decode cX8_replace 0 = .ok (.aload_n 0, 1) := by decide +kernel
theorem dX8_replace_1 : decode cX8_replace 1 = .ok (.iconst 0, 1) := by decide +kernel
theorem dX8_replace_2 : decode cX8_replace 2 = .ok (.putfield 43, 3) := by decide +kernel
theorem dX8_replace_5 : decode cX8_replace 5 = .ok (.aload_n 0, 1) := by decide +kernel
theorem dX8_replace_6 : decode cX8_replace 6 = .ok (.iload_n 1, 1) := by decide +kernel
theorem dX8_replace_7 : decode cX8_replace 7 = .ok (.invokevirtual 87, 3) := by decide +kernel
theorem dX8_replace_10 : decode cX8_replace 10 = .ok (.ifCond .ne 9, 3) := by decide +kernel
theorem dX8_replace_13 : decode cX8_replace 13 = .ok (.aload_n 0, 1) := by decide +kernel
theorem dX8_replace_14 : decode cX8_replace 14 = .ok (.iconst 1, 1) := by decide +kernel
theorem dX8_replace_15 : decode cX8_replace 15 = .ok (.invokevirtual 68, 3) := by decide +kernel
theorem dX8_replace_18 : decode cX8_replace 18 = .ok (.ireturn, 1) := by decide +kernel
theorem dX8_replace_19 : decode cX8_replace 19 = .ok (.aload_n 0, 1) := by decide +kernel
theorem dX8_replace_20 : decode cX8_replace 20 = .ok (.iload_n 1, 1) := by decide +kernel
theorem dX8_replace_21 : decode cX8_replace 21 = .ok (.invokevirtual 90, 3) := by decide +kernel
theorem dX8_replace_24 : decode cX8_replace 24 = .ok (.ifCond .ne 9, 3) := by decide +kernel
theorem dX8_replace_27 : decode cX8_replace 27 = .ok (.aload_n 0, 1) := by decide +kernel
theorem dX8_replace_28 : decode cX8_replace 28 = .ok (.iconst 2, 1) := by decide +kernel
theorem dX8_replace_29 : decode cX8_replace 29 = .ok (.invokevirtual 68, 3) := by decide +kernel
theorem dX8_replace_32 : decode cX8_replace 32 = .ok (.ireturn, 1) := by decide +kernel
theorem dX8_replace_33 : decode cX8_replace 33 = .ok (.iload_n 2, 1) := by decide +kernel
theorem dX8_replace_34 : decode cX8_replace 34 = .ok (.invokestatic 64, 3) := by decide +kernel
theorem dX8_replace_37 : decode cX8_replace 37 = .ok (.ifCond .ne 9, 3) := by decide +kernel
theorem dX8_replace_40 : decode cX8_replace 40 = .ok (.aload_n 0, 1) := by decide +kernel
theorem dX8_replace_41 : decode cX8_replace 41 = .ok (.iconst 3, 1) := by decide +kernel
theorem dX8_replace_42 : decode cX8_replace 42 = .ok (.invokevirtual 68, 3) := by decide +kernel
theorem dX8_replace_45 : decode cX8_replace 45 = .ok (.ireturn, 1) := by decide +kernel
theorem dX8_replace_46 : decode cX8_replace 46 = .ok (.aload_n 0, 1) := by decide +kernel
theorem dX8_replace_47 : decode cX8_replace 47 = .ok (.getfield 9, 3) := by decide +kernel
theorem dX8_replace_50 : decode cX8_replace 50 = .ok (.iload_n 1, 1) := by decide +kernel
theorem dX8_replace_51 : decode cX8_replace 51 = .ok (.iaload, 1) := by decide +kernel
theorem dX8_replace_52 : decode cX8_replace 52 = .ok (.istore_n 3, 1) := by decide +kernel
theorem dX8_replace_53 : decode cX8_replace 53 = .ok (.aload_n 0, 1) := by decide +kernel
theorem dX8_replace_54 : decode cX8_replace 54 = .ok (.getfield 9, 3) := by decide +kernel
theorem dX8_replace_57 : decode cX8_replace 57 = .ok (.iload_n 1, 1) := by decide +kernel
theorem dX8_replace_58 : decode cX8_replace 58 = .ok (.iload_n 2, 1) := by decide +kernel
theorem dX8_replace_59 : decode cX8_replace 59 = .ok (.iastore, 1) := by decide +kernel
theorem dX8_replace_60 : decode cX8_replace 60 = .ok (.iload_n 3, 1) := by decide +kernel
theorem dX8_replace_61 : decode cX8_replace 61 = .ok (.ireturn, 1) := by decide +kernel
theorem dX8_size_0 : decode cX8_size 0 = .ok (.aload_n 0, 1) := by decide +kernel
theorem dX8_size_1 : decode cX8_size 1 = .ok (.iconst 0, 1) := by decide +kernel
theorem dX8_size_2 : decode cX8_size 2 = .ok (.putfield 43, 3) := by decide +kernel
theorem dX8_size_5 : decode cX8_size 5 = .ok (.aload_n 0, 1) := by decide +kernel
theorem dX8_size_6 : decode cX8_size 6 = .ok (.getfield 47, 3) := by decide +kernel
theorem dX8_size_9 : decode cX8_size 9 = .ok (.ireturn, 1) := by decide +kernel
theorem dX8_item_0 : decode cX8_item 0 = .ok (.aload_n 0, 1) := by decide +kernel
theorem dX8_item_1 : decode cX8_item 1 = .ok (.iconst 0, 1) := by decide +kernel
theorem dX8_item_2 : decode cX8_item 2 = .ok (.putfield 43, 3) := by decide +kernel
theorem dX8_item_5 : decode cX8_item 5 = .ok (.aload_n 0, 1) := by decide +kernel
theorem dX8_item_6 : decode cX8_item 6 = .ok (.iload_n 1, 1) := by decide +kernel
theorem dX8_item_7 : decode cX8_item 7 = .ok (.invokevirtual 87, 3) := by decide +kernel
theorem dX8_item_10 : decode cX8_item 10 = .ok (.ifCond .eq 12, 3) := by decide +kernel
theorem dX8_item_13 : decode cX8_item 13 = .ok (.aload_n 0, 1) := by decide +kernel
theorem dX8_item_14 : decode cX8_item 14 = .ok (.getfield 9, 3) := by decide +kernel
theorem dX8_item_17 : decode cX8_item 17 = .ok (.iload_n 1, 1) := by decide +kernel
theorem dX8_item_18 : decode cX8_item 18 = .ok (.iaload, 1) := by decide +kernel
theorem dX8_item_19 : decode cX8_item 19 = .ok (.goto 8, 3) := by decide +kernel
theorem dX8_item_22 : decode cX8_item 22 = .ok (.aload_n 0, 1) := by decide +kernel
theorem dX8_item_23 : decode cX8_item 23 = .ok (.iconst 1, 1) := by decide +kernel
theorem dX8_item_24 : decode cX8_item 24 = .ok (.invokevirtual 68, 3) := by decide +kernel
theorem dX8_item_27 : decode cX8_item 27 = .ok (.ireturn, 1) := by decide +kernel
theorem dX8_unfinished_0 : decode cX8_unfinished 0 = .ok (.aload_n 0, 1) := by decide +kernel
theorem dX8_unfinished_1 : decode cX8_unfinished 1 = .ok (.iconst 0, 1) := by decide +kernel
theorem dX8_unfinished_2 : decode cX8_unfinished 2 = .ok (.putfield 43, 3) := by decide +kernel
theorem dX8_unfinished_5 : decode cX8_unfinished 5 = .ok (.aload_n 0, 1) := by decide +kernel
theorem dX8_unfinished_6 : decode cX8_unfinished 6 = .ok (.invokevirtual 77, 3) := by decide +kernel
theorem dX8_unfinished_9 : decode cX8_unfinished 9 = .ok (.ireturn, 1) := by decide +kernel
theorem dX8_look_0 : decode cX8_look 0 = .ok (.iconst 4, 1) := by decide +kernel
theorem dX8_look_1 : decode cX8_look 1 = .ok (.newarray .int, 2) := by decide +kernel
theorem dX8_look_3 : decode cX8_look 3 = .ok (.astore_n 1, 1) := by decide +kernel
theorem dX8_look_4 : decode cX8_look 4 = .ok (.iconst 0, 1) := by decide +kernel
theorem dX8_look_5 : decode cX8_look 5 = .ok (.istore_n 2, 1) := by decide +kernel
theorem dX8_look_6 : decode cX8_look 6 = .ok (.iload_n 2, 1) := by decide +kernel
theorem dX8_look_7 : decode cX8_look 7 = .ok (.bipush 16, 2) := by decide +kernel
theorem dX8_look_9 : decode cX8_look 9 = .ok (.if_icmp .ge 39, 3) := by decide +kernel
theorem dX8_look_12 : decode cX8_look 12 = .ok (.iconst 0, 1) := by decide +kernel
theorem dX8_look_13 : decode cX8_look 13 = .ok (.istore_n 3, 1) := by decide +kernel
theorem dX8_look_14 : decode cX8_look 14 = .ok (.iload_n 3, 1) := by decide +kernel
theorem dX8_look_15 : decode cX8_look 15 = .ok (.iconst 4, 1) := by decide +kernel
theorem dX8_look_16 : decode cX8_look 16 = .ok (.if_icmp .ge 26, 3) := by decide +kernel
theorem dX8_look_19 : decode cX8_look 19 = .ok (.iload_n 2, 1) := by decide +kernel
theorem dX8_look_20 : decode cX8_look 20 = .ok (.iload_n 3, 1) := by decide +kernel
theorem dX8_look_21 : decode cX8_look 21 = .ok (.invokestatic 93, 3) := by decide +kernel
theorem dX8_look_24 : decode cX8_look 24 = .ok (.ifCond .eq 12, 3) := by decide +kernel
theorem dX8_look_27 : decode cX8_look 27 = .ok (.aload_n 1, 1) := by decide +kernel
theorem dX8_look_28 : decode cX8_look 28 = .ok (.iload_n 3, 1) := by decide +kernel
theorem dX8_look_29 : decode cX8_look 29 = .ok (.dup2, 1) := by decide +kernel
theorem dX8_look_30 : decode cX8_look 30 = .ok (.iaload, 1) := by decide +kernel
theorem dX8_look_31 : decode cX8_look 31 = .ok (.iconst 1, 1) := by decide +kernel
theorem dX8_look_32 : decode cX8_look 32 = .ok (.iload_n 2, 1) := by decide +kernel
theorem dX8_look_33 : decode cX8_look 33 = .ok (.ishl, 1) := by decide +kernel
theorem dX8_look_34 : decode cX8_look 34 = .ok (.ior, 1) := by decide +kernel
theorem dX8_look_35 : decode cX8_look 35 = .ok (.iastore, 1) := by decide +kernel
theorem dX8_look_36 : decode cX8_look 36 = .ok (.iinc 3 1, 3) := by decide +kernel
theorem dX8_look_39 : decode cX8_look 39 = .ok (.goto (-25), 3) := by decide +kernel
theorem dX8_look_42 : decode cX8_look 42 = .ok (.iinc 2 1, 3) := by decide +kernel
theorem dX8_look_45 : decode cX8_look 45 = .ok (.goto (-39), 3) := by decide +kernel
theorem dX8_look_48 : decode cX8_look 48 = .ok (.ldc 97, 2) := by decide +kernel
theorem dX8_look_50 : decode cX8_look 50 = .ok (.istore_n 2, 1) := by decide +kernel
theorem dX8_look_51 : decode cX8_look 51 = .ok (.iconst 5, 1) := by decide +kernel
theorem dX8_look_52 : decode cX8_look 52 = .ok (.newarray .int, 2) := by decide +kernel
theorem dX8_look_54 : decode cX8_look 54 = .ok (.astore_n 3, 1) := by decide +kernel
theorem dX8_look_55 : decode cX8_look 55 = .ok (.iconst 5, 1) := by decide +kernel
theorem dX8_look_56 : decode cX8_look 56 = .ok (.newarray .int, 2) := by decide +kernel
theorem dX8_look_58 : decode cX8_look 58 = .ok (.astore 4, 2) := by decide +kernel
theorem dX8_look_60 : decode cX8_look 60 = .ok (.iconst 0, 1) := by decide +kernel
theorem dX8_look_61 : decode cX8_look 61 = .ok (.istore 5, 2) := by decide +kernel
theorem dX8_look_63 : decode cX8_look 63 = .ok (.iconst 0, 1) := by decide +kernel
theorem dX8_look_64 : decode cX8_look 64 = .ok (.istore 6, 2) := by decide +kernel
theorem dX8_look_66 : decode cX8_look 66 = .ok (.iload 6, 2) := by decide +kernel
theorem dX8_look_68 : decode cX8_look 68 = .ok (.aload_n 0, 1) := by decide +kernel
theorem dX8_look_69 : decode cX8_look 69 = .ok (.getfield 47, 3) := by decide +kernel
theorem dX8_look_72 : decode cX8_look 72 = .ok (.if_icmp .ge 265, 3) := by decide +kernel
theorem dX8_look_75 : decode cX8_look 75 = .ok (.iconst 0, 1) := by decide +kernel
theorem dX8_look_76 : decode cX8_look 76 = .ok (.istore 7, 2) := by decide +kernel
theorem dX8_look_78 : decode cX8_look 78 = .ok (.iload 7, 2) := by decide +kernel
theorem dX8_look_80 : decode cX8_look 80 = .ok (.iconst 4, 1) := by decide +kernel
theorem dX8_look_81 : decode cX8_look 81 = .ok (.if_icmp .ge 25, 3) := by decide +kernel
theorem dX8_look_84 : decode cX8_look 84 = .ok (.aload_n 0, 1) := by decide +kernel
theorem dX8_look_85 : decode cX8_look 85 = .ok (.getfield 16, 3) := by decide +kernel
theorem dX8_look_88 : decode cX8_look 88 = .ok (.iconst 4, 1) := by decide +kernel
theorem dX8_look_89 : decode cX8_look 89 = .ok (.iload 6, 2) := by decide +kernel
theorem dX8_look_91 : decode cX8_look 91 = .ok (.imul, 1) := by decide +kernel
theorem dX8_look_92 : decode cX8_look 92 = .ok (.iload 7, 2) := by decide +kernel
theorem dX8_look_94 : decode cX8_look 94 = .ok (.iadd, 1) := by decide +kernel
theorem dX8_look_95 : decode cX8_look 95 = .ok (.aload_n 1, 1) := by decide +kernel
theorem dX8_look_96 : decode cX8_look 96 = .ok (.iload 7, 2) := by decide +kernel
theorem dX8_look_98 : decode cX8_look 98 = .ok (.iaload, 1) := by decide +kernel
theorem dX8_look_99 : decode cX8_look 99 = .ok (.iastore, 1) := by decide +kernel
theorem dX8_look_100 : decode cX8_look 100 = .ok (.iinc 7 1, 3) := by decide +kernel
theorem dX8_look_103 : decode cX8_look 103 = .ok (.goto (-25), 3) := by decide +kernel
theorem dX8_look_106 : decode cX8_look 106 = .ok (.aload_n 0, 1) := by decide +kernel
theorem dX8_look_107 : decode cX8_look 107 = .ok (.getfield 13, 3) := by decide +kernel
theorem dX8_look_110 : decode cX8_look 110 = .ok (.iload 6, 2) := by decide +kernel
theorem dX8_look_112 : decode cX8_look 112 = .ok (.aload_n 0, 1) := by decide +kernel
theorem dX8_look_113 : decode cX8_look 113 = .ok (.getfield 9, 3) := by decide +kernel
theorem dX8_look_116 : decode cX8_look 116 = .ok (.iload 6, 2) := by decide +kernel
theorem dX8_look_118 : decode cX8_look 118 = .ok (.iaload, 1) := by decide +kernel
theorem dX8_look_119 : decode cX8_look 119 = .ok (.bipush 16, 2) := by decide +kernel
theorem dX8_look_121 : decode cX8_look 121 = .ok (.if_icmp .eq 15, 3) := by decide +kernel
theorem dX8_look_124 : decode cX8_look 124 = .ok (.aload_n 0, 1) := by decide +kernel
theorem dX8_look_125 : decode cX8_look 125 = .ok (.getfield 9, 3) := by decide +kernel
theorem dX8_look_128 : decode cX8_look 128 = .ok (.iload 6, 2) := by decide +kernel
theorem dX8_look_130 : decode cX8_look 130 = .ok (.iaload, 1) := by decide +kernel
theorem dX8_look_131 : decode cX8_look 131 = .ok (.bipush 17, 2) := by decide +kernel
theorem dX8_look_133 : decode cX8_look 133 = .ok (.if_icmp .ne 12, 3) := by decide +kernel
theorem dX8_look_136 : decode cX8_look 136 = .ok (.aload_n 3, 1) := by decide +kernel
theorem dX8_look_137 : decode cX8_look 137 = .ok (.iload 5, 2) := by decide +kernel
theorem dX8_look_139 : decode cX8_look 139 = .ok (.iconst 1, 1) := by decide +kernel
theorem dX8_look_140 : decode cX8_look 140 = .ok (.isub, 1) := by decide +kernel
theorem dX8_look_141 : decode cX8_look 141 = .ok (.iaload, 1) := by decide +kernel
theorem dX8_look_142 : decode cX8_look 142 = .ok (.goto 4, 3) := by decide +kernel
theorem dX8_look_145 : decode cX8_look 145 = .ok (.iload_n 2, 1) := by decide +kernel
theorem dX8_look_146 : decode cX8_look 146 = .ok (.iastore, 1) := by decide +kernel
theorem dX8_look_147 : decode cX8_look 147 = .ok (.aload_n 0, 1) := by decide +kernel
theorem dX8_look_148 : decode cX8_look 148 = .ok (.getfield 9, 3) := by decide +kernel
theorem dX8_look_151 : decode cX8_look 151 = .ok (.iload 6, 2) := by decide +kernel
theorem dX8_look_153 : decode cX8_look 153 = .ok (.iaload, 1) := by decide +kernel
theorem dX8_look_154 : decode cX8_look 154 = .ok (.bipush 17, 2) := by decide +kernel
theorem dX8_look_156 : decode cX8_look 156 = .ok (.if_icmp .ne 14, 3) := by decide +kernel
theorem dX8_look_159 : decode cX8_look 159 = .ok (.iinc 5 (-1), 3) := by decide +kernel
theorem dX8_look_162 : decode cX8_look 162 = .ok (.aload_n 3, 1) := by decide +kernel
theorem dX8_look_163 : decode cX8_look 163 = .ok (.iload 5, 2) := by decide +kernel
theorem dX8_look_165 : decode cX8_look 165 = .ok (.iaload, 1) := by decide +kernel
theorem dX8_look_166 : decode cX8_look 166 = .ok (.istore_n 2, 1) := by decide +kernel
theorem dX8_look_167 : decode cX8_look 167 = .ok (.goto 164, 3) := by decide +kernel
theorem dX8_look_170 : decode cX8_look 170 = .ok (.aload_n 0, 1) := by decide +kernel
theorem dX8_look_171 : decode cX8_look 171 = .ok (.getfield 9, 3) := by decide +kernel
theorem dX8_look_174 : decode cX8_look 174 = .ok (.iload 6, 2) := by decide +kernel
theorem dX8_look_176 : decode cX8_look 176 = .ok (.iaload, 1) := by decide +kernel
theorem dX8_look_177 : decode cX8_look 177 = .ok (.bipush 16, 2) := by decide +kernel
theorem dX8_look_179 : decode cX8_look 179 = .ok (.if_icmp .ne 23, 3) := by decide +kernel
theorem dX8_look_182 : decode cX8_look 182 = .ok (.aload_n 3, 1) := by decide +kernel
theorem dX8_look_183 : decode cX8_look 183 = .ok (.iload 5, 2) := by decide +kernel
theorem dX8_look_185 : decode cX8_look 185 = .ok (.iconst 1, 1) := by decide +kernel
theorem dX8_look_186 : decode cX8_look 186 = .ok (.isub, 1) := by decide +kernel
theorem dX8_look_187 : decode cX8_look 187 = .ok (.iaload, 1) := by decide +kernel
theorem dX8_look_188 : decode cX8_look 188 = .ok (.aload 4, 2) := by decide +kernel
theorem dX8_look_190 : decode cX8_look 190 = .ok (.iload 5, 2) := by decide +kernel
theorem dX8_look_192 : decode cX8_look 192 = .ok (.iconst 1, 1) := by decide +kernel
theorem dX8_look_193 : decode cX8_look 193 = .ok (.isub, 1) := by decide +kernel
theorem dX8_look_194 : decode cX8_look 194 = .ok (.iaload, 1) := by decide +kernel
theorem dX8_look_195 : decode cX8_look 195 = .ok (.iconst (-1), 1) := by decide +kernel
theorem dX8_look_196 : decode cX8_look 196 = .ok (.ixor, 1) := by decide +kernel
theorem dX8_look_197 : decode cX8_look 197 = .ok (.iand, 1) := by decide +kernel
theorem dX8_look_198 : decode cX8_look 198 = .ok (.istore_n 2, 1) := by decide +kernel
theorem dX8_look_199 : decode cX8_look 199 = .ok (.goto 132, 3) := by decide +kernel
theorem dX8_look_202 : decode cX8_look 202 = .ok (.aload_n 0, 1) := by decide +kernel
theorem dX8_look_203 : decode cX8_look 203 = .ok (.getfield 9, 3) := by decide +kernel
theorem dX8_look_206 : decode cX8_look 206 = .ok (.iload 6, 2) := by decide +kernel
theorem dX8_look_208 : decode cX8_look 208 = .ok (.iaload, 1) := by decide +kernel
theorem dX8_look_209 : decode cX8_look 209 = .ok (.bipush 8, 2) := by decide +kernel
theorem dX8_look_211 : decode cX8_look 211 = .ok (.if_icmp .ge 60, 3) := by decide +kernel
theorem dX8_look_214 : decode cX8_look 214 = .ok (.aload_n 0, 1) := by decide +kernel
theorem dX8_look_215 : decode cX8_look 215 = .ok (.getfield 9, 3) := by decide +kernel
theorem dX8_look_218 : decode cX8_look 218 = .ok (.iload 6, 2) := by decide +kernel
theorem dX8_look_220 : decode cX8_look 220 = .ok (.iaload, 1) := by decide +kernel
theorem dX8_look_221 : decode cX8_look 221 = .ok (.iconst 2, 1) := by decide +kernel
theorem dX8_look_222 : decode cX8_look 222 = .ok (.idiv, 1) := by decide +kernel
theorem dX8_look_223 : decode cX8_look 223 = .ok (.istore 7, 2) := by decide +kernel
theorem dX8_look_225 : decode cX8_look 225 = .ok (.aload_n 3, 1) := by decide +kernel
theorem dX8_look_226 : decode cX8_look 226 = .ok (.iload 5, 2) := by decide +kernel
theorem dX8_look_228 : decode cX8_look 228 = .ok (.iload_n 2, 1) := by decide +kernel
theorem dX8_look_229 : decode cX8_look 229 = .ok (.iastore, 1) := by decide +kernel
theorem dX8_look_230 : decode cX8_look 230 = .ok (.iload_n 2, 1) := by decide +kernel
theorem dX8_look_231 : decode cX8_look 231 = .ok (.aload_n 0, 1) := by decide +kernel
theorem dX8_look_232 : decode cX8_look 232 = .ok (.getfield 9, 3) := by decide +kernel
theorem dX8_look_235 : decode cX8_look 235 = .ok (.iload 6, 2) := by decide +kernel
theorem dX8_look_237 : decode cX8_look 237 = .ok (.iaload, 1) := by decide +kernel
theorem dX8_look_238 : decode cX8_look 238 = .ok (.iconst 2, 1) := by decide +kernel
theorem dX8_look_239 : decode cX8_look 239 = .ok (.irem, 1) := by decide +kernel
theorem dX8_look_240 : decode cX8_look 240 = .ok (.iconst 1, 1) := by decide +kernel
theorem dX8_look_241 : decode cX8_look 241 = .ok (.if_icmp .ne 10, 3) := by decide +kernel
theorem dX8_look_244 : decode cX8_look 244 = .ok (.aload_n 1, 1) := by decide +kernel
theorem dX8_look_245 : decode cX8_look 245 = .ok (.iload 7, 2) := by decide +kernel
theorem dX8_look_247 : decode cX8_look 247 = .ok (.iaload, 1) := by decide +kernel
theorem dX8_look_248 : decode cX8_look 248 = .ok (.goto 9, 3) := by decide +kernel
theorem dX8_look_251 : decode cX8_look 251 = .ok (.aload_n 1, 1) := by decide +kernel
theorem dX8_look_252 : decode cX8_look 252 = .ok (.iload 7, 2) := by decide +kernel
theorem dX8_look_254 : decode cX8_look 254 = .ok (.iaload, 1) := by decide +kernel
theorem dX8_look_255 : decode cX8_look 255 = .ok (.iconst (-1), 1) := by decide +kernel
theorem dX8_look_256 : decode cX8_look 256 = .ok (.ixor, 1) := by decide +kernel
theorem dX8_look_257 : decode cX8_look 257 = .ok (.iand, 1) := by decide +kernel
theorem dX8_look_258 : decode cX8_look 258 = .ok (.istore_n 2, 1) := by decide +kernel
theorem dX8_look_259 : decode cX8_look 259 = .ok (.aload 4, 2) := by decide +kernel
theorem dX8_look_261 : decode cX8_look 261 = .ok (.iload 5, 2) := by decide +kernel
theorem dX8_look_263 : decode cX8_look 263 = .ok (.iload_n 2, 1) := by decide +kernel
theorem dX8_look_264 : decode cX8_look 264 = .ok (.iastore, 1) := by decide +kernel
theorem dX8_look_265 : decode cX8_look 265 = .ok (.iinc 5 1, 3) := by decide +kernel
theorem dX8_look_268 : decode cX8_look 268 = .ok (.goto 63, 3) := by decide +kernel
theorem dX8_look_271 : decode cX8_look 271 = .ok (.aload_n 0, 1) := by decide +kernel
theorem dX8_look_272 : decode cX8_look 272 = .ok (.getfield 9, 3) := by decide +kernel
theorem dX8_look_275 : decode cX8_look 275 = .ok (.iload 6, 2) := by decide +kernel
theorem dX8_look_277 : decode cX8_look 277 = .ok (.iaload, 1) := by decide +kernel
theorem dX8_look_278 : decode cX8_look 278 = .ok (.bipush 16, 2) := by decide +kernel
theorem dX8_look_280 : decode cX8_look 280 = .ok (.if_icmp .ge 51, 3) := by decide +kernel
theorem dX8_look_283 : decode cX8_look 283 = .ok (.aload_n 0, 1) := by decide +kernel
theorem dX8_look_284 : decode cX8_look 284 = .ok (.getfield 9, 3) := by decide +kernel
theorem dX8_look_287 : decode cX8_look 287 = .ok (.iload 6, 2) := by decide +kernel
theorem dX8_look_289 : decode cX8_look 289 = .ok (.iaload, 1) := by decide +kernel
theorem dX8_look_290 : decode cX8_look 290 = .ok (.bipush 8, 2) := by decide +kernel
theorem dX8_look_292 : decode cX8_look 292 = .ok (.isub, 1) := by decide +kernel
theorem dX8_look_293 : decode cX8_look 293 = .ok (.iconst 2, 1) := by decide +kernel
theorem dX8_look_294 : decode cX8_look 294 = .ok (.idiv, 1) := by decide +kernel
theorem dX8_look_295 : decode cX8_look 295 = .ok (.istore 7, 2) := by decide +kernel
theorem dX8_look_297 : decode cX8_look 297 = .ok (.aload_n 1, 1) := by decide +kernel
theorem dX8_look_298 : decode cX8_look 298 = .ok (.iload 7, 2) := by decide +kernel
theorem dX8_look_300 : decode cX8_look 300 = .ok (.aload_n 0, 1) := by decide +kernel
theorem dX8_look_301 : decode cX8_look 301 = .ok (.getfield 9, 3) := by decide +kernel
theorem dX8_look_304 : decode cX8_look 304 = .ok (.iload 6, 2) := by decide +kernel
theorem dX8_look_306 : decode cX8_look 306 = .ok (.iaload, 1) := by decide +kernel
theorem dX8_look_307 : decode cX8_look 307 = .ok (.iconst 2, 1) := by decide +kernel
theorem dX8_look_308 : decode cX8_look 308 = .ok (.irem, 1) := by decide +kernel
theorem dX8_look_309 : decode cX8_look 309 = .ok (.iconst 1, 1) := by decide +kernel
theorem dX8_look_310 : decode cX8_look 310 = .ok (.if_icmp .ne 12, 3) := by decide +kernel
theorem dX8_look_313 : decode cX8_look 313 = .ok (.aload_n 1, 1) := by decide +kernel
theorem dX8_look_314 : decode cX8_look 314 = .ok (.iload 7, 2) := by decide +kernel
theorem dX8_look_316 : decode cX8_look 316 = .ok (.iaload, 1) := by decide +kernel
theorem dX8_look_317 : decode cX8_look 317 = .ok (.iload_n 2, 1) := by decide +kernel
theorem dX8_look_318 : decode cX8_look 318 = .ok (.ior, 1) := by decide +kernel
theorem dX8_look_319 : decode cX8_look 319 = .ok (.goto 11, 3) := by decide +kernel
theorem dX8_look_322 : decode cX8_look 322 = .ok (.aload_n 1, 1) := by decide +kernel
theorem dX8_look_323 : decode cX8_look 323 = .ok (.iload 7, 2) := by decide +kernel
theorem dX8_look_325 : decode cX8_look 325 = .ok (.iaload, 1) := by decide +kernel
theorem dX8_look_326 : decode cX8_look 326 = .ok (.iload_n 2, 1) := by decide +kernel
theorem dX8_look_327 : decode cX8_look 327 = .ok (.iconst (-1), 1) := by decide +kernel
theorem dX8_look_328 : decode cX8_look 328 = .ok (.ixor, 1) := by decide +kernel
theorem dX8_look_329 : decode cX8_look 329 = .ok (.iand, 1) := by decide +kernel
theorem dX8_look_330 : decode cX8_look 330 = .ok (.iastore, 1) := by decide +kernel
theorem dX8_look_331 : decode cX8_look 331 = .ok (.iinc 6 1, 3) := by decide +kernel
theorem dX8_look_334 : decode cX8_look 334 = .ok (.goto (-268), 3) := by decide +kernel
theorem dX8_look_337 : decode cX8_look 337 = .ok (.return_, 1) := by decide +kernel
theorem dX8_presence_0 : decode cX8_presence 0 = .ok (.aload_n 0, 1) := by decide +kernel
theorem dX8_presence_1 : decode cX8_presence 1 = .ok (.iconst 0, 1) := by decide +kernel
theorem dX8_presence_2 : decode cX8_presence 2 = .ok (.putfield 43, 3) := by decide +kernel
theorem dX8_presence_5 : decode cX8_presence 5 = .ok (.aload_n 0, 1) := by decide +kernel
theorem dX8_presence_6 : decode cX8_presence 6 = .ok (.iload_n 1, 1) := by decide +kernel
theorem dX8_presence_7 : decode cX8_presence 7 = .ok (.invokevirtual 87, 3) := by decide +kernel
theorem dX8_presence_10 : decode cX8_presence 10 = .ok (.ifCond .ne 9, 3) := by decide +kernel
theorem dX8_presence_13 : decode cX8_presence 13 = .ok (.aload_n 0, 1) := by decide +kernel
theorem dX8_presence_14 : decode cX8_presence 14 = .ok (.iconst 1, 1) := by decide +kernel
theorem dX8_presence_15 : decode cX8_presence 15 = .ok (.invokevirtual 68, 3) := by decide +kernel
theorem dX8_presence_18 : decode cX8_presence 18 = .ok (.ireturn, 1) := by decide +kernel
theorem dX8_presence_19 : decode cX8_presence 19 = .ok (.aload_n 0, 1) := by decide +kernel
theorem dX8_presence_20 : decode cX8_presence 20 = .ok (.invokevirtual 98, 3) := by decide +kernel
theorem dX8_presence_23 : decode cX8_presence 23 = .ok (.aload_n 0, 1) := by decide +kernel
theorem dX8_presence_24 : decode cX8_presence 24 = .ok (.getfield 13, 3) := by decide +kernel
theorem dX8_presence_27 : decode cX8_presence 27 = .ok (.iload_n 1, 1) := by decide +kernel
theorem dX8_presence_28 : decode cX8_presence 28 = .ok (.iaload, 1) := by decide +kernel
theorem dX8_presence_29 : decode cX8_presence 29 = .ok (.ireturn, 1) := by decide +kernel
theorem dX8_on_0 : decode cX8_on 0 = .ok (.aload_n 0, 1) := by decide +kernel
theorem dX8_on_1 : decode cX8_on 1 = .ok (.iconst 0, 1) := by decide +kernel
theorem dX8_on_2 : decode cX8_on 2 = .ok (.putfield 43, 3) := by decide +kernel
theorem dX8_on_5 : decode cX8_on 5 = .ok (.iload_n 1, 1) := by decide +kernel
theorem dX8_on_6 : decode cX8_on 6 = .ok (.invokestatic 74, 3) := by decide +kernel
theorem dX8_on_9 : decode cX8_on 9 = .ok (.ifCond .eq 11, 3) := by decide +kernel
theorem dX8_on_12 : decode cX8_on 12 = .ok (.aload_n 0, 1) := by decide +kernel
theorem dX8_on_13 : decode cX8_on 13 = .ok (.iload_n 2, 1) := by decide +kernel
theorem dX8_on_14 : decode cX8_on 14 = .ok (.invokevirtual 87, 3) := by decide +kernel
theorem dX8_on_17 : decode cX8_on 17 = .ok (.ifCond .ne 9, 3) := by decide +kernel
theorem dX8_on_20 : decode cX8_on 20 = .ok (.aload_n 0, 1) := by decide +kernel
theorem dX8_on_21 : decode cX8_on 21 = .ok (.iconst 1, 1) := by decide +kernel
theorem dX8_on_22 : decode cX8_on 22 = .ok (.invokevirtual 68, 3) := by decide +kernel
theorem dX8_on_25 : decode cX8_on 25 = .ok (.ireturn, 1) := by decide +kernel
theorem dX8_on_26 : decode cX8_on 26 = .ok (.aload_n 0, 1) := by decide +kernel
theorem dX8_on_27 : decode cX8_on 27 = .ok (.invokevirtual 98, 3) := by decide +kernel
theorem dX8_on_30 : decode cX8_on 30 = .ok (.aload_n 0, 1) := by decide +kernel
theorem dX8_on_31 : decode cX8_on 31 = .ok (.getfield 16, 3) := by decide +kernel
theorem dX8_on_34 : decode cX8_on 34 = .ok (.iconst 4, 1) := by decide +kernel
theorem dX8_on_35 : decode cX8_on 35 = .ok (.iload_n 2, 1) := by decide +kernel
theorem dX8_on_36 : decode cX8_on 36 = .ok (.imul, 1) := by decide +kernel
theorem dX8_on_37 : decode cX8_on 37 = .ok (.iload_n 1, 1) := by decide +kernel
theorem dX8_on_38 : decode cX8_on 38 = .ok (.iadd, 1) := by decide +kernel
theorem dX8_on_39 : decode cX8_on 39 = .ok (.iaload, 1) := by decide +kernel
theorem dX8_on_40 : decode cX8_on 40 = .ok (.ireturn, 1) := by decide +kernel
theorem dX8_features_0 : decode cX8_features 0 = .ok (.aload_n 0, 1) := by decide +kernel
theorem dX8_features_1 : decode cX8_features 1 = .ok (.iconst 0, 1) := by decide +kernel
theorem dX8_features_2 : decode cX8_features 2 = .ok (.putfield 43, 3) := by decide +kernel
theorem dX8_features_5 : decode cX8_features 5 = .ok (.iload_n 1, 1) := by decide +kernel
theorem dX8_features_6 : decode cX8_features 6 = .ok (.iconst 0, 1) := by decide +kernel
theorem dX8_features_7 : decode cX8_features 7 = .ok (.ldc 97, 2) := by decide +kernel
theorem dX8_features_9 : decode cX8_features 9 = .ok (.invokestatic 50, 3) := by decide +kernel
theorem dX8_features_12 : decode cX8_features 12 = .ok (.ifCond .ne 9, 3) := by decide +kernel
theorem dX8_features_15 : decode cX8_features 15 = .ok (.aload_n 0, 1) := by decide +kernel
theorem dX8_features_16 : decode cX8_features 16 = .ok (.iconst 1, 1) := by decide +kernel
theorem dX8_features_17 : decode cX8_features 17 = .ok (.invokevirtual 68, 3) := by decide +kernel
theorem dX8_features_20 : decode cX8_features 20 = .ok (.ireturn, 1) := by decide +kernel
theorem dX8_features_21 : decode cX8_features 21 = .ok (.iconst 0, 1) := by decide +kernel
theorem dX8_features_22 : decode cX8_features 22 = .ok (.istore_n 2, 1) := by decide +kernel
theorem dX8_features_23 : decode cX8_features 23 = .ok (.iconst 0, 1) := by decide +kernel
theorem dX8_features_24 : decode cX8_features 24 = .ok (.istore_n 3, 1) := by decide +kernel
theorem dX8_features_25 : decode cX8_features 25 = .ok (.iload_n 3, 1) := by decide +kernel
theorem dX8_features_26 : decode cX8_features 26 = .ok (.bipush 16, 2) := by decide +kernel
theorem dX8_features_28 : decode cX8_features 28 = .ok (.if_icmp .ge 52, 3) := by decide +kernel
theorem dX8_features_31 : decode cX8_features 31 = .ok (.iconst 0, 1) := by decide +kernel
theorem dX8_features_32 : decode cX8_features 32 = .ok (.istore 4, 2) := by decide +kernel
theorem dX8_features_34 : decode cX8_features 34 = .ok (.iload 4, 2) := by decide +kernel
theorem dX8_features_36 : decode cX8_features 36 = .ok (.iconst 4, 1) := by decide +kernel
theorem dX8_features_37 : decode cX8_features 37 = .ok (.if_icmp .ge 37, 3) := by decide +kernel
theorem dX8_features_40 : decode cX8_features 40 = .ok (.iload_n 1, 1) := by decide +kernel
theorem dX8_features_41 : decode cX8_features 41 = .ok (.iload_n 3, 1) := by decide +kernel
theorem dX8_features_42 : decode cX8_features 42 = .ok (.invokestatic 93, 3) := by decide +kernel
theorem dX8_features_45 : decode cX8_features 45 = .ok (.ifCond .eq 23, 3) := by decide +kernel
theorem dX8_features_48 : decode cX8_features 48 = .ok (.iload_n 1, 1) := by decide +kernel
theorem dX8_features_49 : decode cX8_features 49 = .ok (.iload_n 3, 1) := by decide +kernel
theorem dX8_features_50 : decode cX8_features 50 = .ok (.iconst 1, 1) := by decide +kernel
theorem dX8_features_51 : decode cX8_features 51 = .ok (.iload 4, 2) := by decide +kernel
theorem dX8_features_53 : decode cX8_features 53 = .ok (.ishl, 1) := by decide +kernel
theorem dX8_features_54 : decode cX8_features 54 = .ok (.ixor, 1) := by decide +kernel
theorem dX8_features_55 : decode cX8_features 55 = .ok (.invokestatic 93, 3) := by decide +kernel
theorem dX8_features_58 : decode cX8_features 58 = .ok (.ifCond .ne 10, 3) := by decide +kernel
theorem dX8_features_61 : decode cX8_features 61 = .ok (.iload_n 2, 1) := by decide +kernel
theorem dX8_features_62 : decode cX8_features 62 = .ok (.iconst 1, 1) := by decide +kernel
theorem dX8_features_63 : decode cX8_features 63 = .ok (.iload 4, 2) := by decide +kernel
theorem dX8_features_65 : decode cX8_features 65 = .ok (.ishl, 1) := by decide +kernel
theorem dX8_features_66 : decode cX8_features 66 = .ok (.ior, 1) := by decide +kernel
theorem dX8_features_67 : decode cX8_features 67 = .ok (.istore_n 2, 1) := by decide +kernel
theorem dX8_features_68 : decode cX8_features 68 = .ok (.iinc 4 1, 3) := by decide +kernel
theorem dX8_features_71 : decode cX8_features 71 = .ok (.goto (-37), 3) := by decide +kernel
theorem dX8_features_74 : decode cX8_features 74 = .ok (.iinc 3 1, 3) := by decide +kernel
theorem dX8_features_77 : decode cX8_features 77 = .ok (.goto (-52), 3) := by decide +kernel
theorem dX8_features_80 : decode cX8_features 80 = .ok (.iload_n 2, 1) := by decide +kernel
theorem dX8_features_81 : decode cX8_features 81 = .ok (.ireturn, 1) := by decide +kernel
theorem dX8_dead_0 : decode cX8_dead 0 = .ok (.aload_n 0, 1) := by decide +kernel
theorem dX8_dead_1 : decode cX8_dead 1 = .ok (.iconst 0, 1) := by decide +kernel
theorem dX8_dead_2 : decode cX8_dead 2 = .ok (.putfield 43, 3) := by decide +kernel
theorem dX8_dead_5 : decode cX8_dead 5 = .ok (.aload_n 0, 1) := by decide +kernel
theorem dX8_dead_6 : decode cX8_dead 6 = .ok (.invokevirtual 98, 3) := by decide +kernel
theorem dX8_dead_9 : decode cX8_dead 9 = .ok (.iconst 0, 1) := by decide +kernel
theorem dX8_dead_10 : decode cX8_dead 10 = .ok (.istore_n 1, 1) := by decide +kernel
theorem dX8_dead_11 : decode cX8_dead 11 = .ok (.iconst 0, 1) := by decide +kernel
theorem dX8_dead_12 : decode cX8_dead 12 = .ok (.istore_n 2, 1) := by decide +kernel
theorem dX8_dead_13 : decode cX8_dead 13 = .ok (.iload_n 2, 1) := by decide +kernel
theorem dX8_dead_14 : decode cX8_dead 14 = .ok (.aload_n 0, 1) := by decide +kernel
theorem dX8_dead_15 : decode cX8_dead 15 = .ok (.getfield 47, 3) := by decide +kernel
theorem dX8_dead_18 : decode cX8_dead 18 = .ok (.if_icmp .ge 34, 3) := by decide +kernel
theorem dX8_dead_21 : decode cX8_dead 21 = .ok (.iload_n 1, 1) := by decide +kernel
theorem dX8_dead_22 : decode cX8_dead 22 = .ok (.aload_n 0, 1) := by decide +kernel
theorem dX8_dead_23 : decode cX8_dead 23 = .ok (.iload_n 2, 1) := by decide +kernel
theorem dX8_dead_24 : decode cX8_dead 24 = .ok (.invokevirtual 90, 3) := by decide +kernel
theorem dX8_dead_27 : decode cX8_dead 27 = .ok (.ifCond .eq 16, 3) := by decide +kernel
theorem dX8_dead_30 : decode cX8_dead 30 = .ok (.aload_n 0, 1) := by decide +kernel
theorem dX8_dead_31 : decode cX8_dead 31 = .ok (.getfield 13, 3) := by decide +kernel
theorem dX8_dead_34 : decode cX8_dead 34 = .ok (.iload_n 2, 1) := by decide +kernel
theorem dX8_dead_35 : decode cX8_dead 35 = .ok (.iaload, 1) := by decide +kernel
theorem dX8_dead_36 : decode cX8_dead 36 = .ok (.ifCond .ne 7, 3) := by decide +kernel
theorem dX8_dead_39 : decode cX8_dead 39 = .ok (.iconst 1, 1) := by decide +kernel
theorem dX8_dead_40 : decode cX8_dead 40 = .ok (.goto 4, 3) := by decide +kernel
theorem dX8_dead_43 : decode cX8_dead 43 = .ok (.iconst 0, 1) := by decide +kernel
theorem dX8_dead_44 : decode cX8_dead 44 = .ok (.iadd, 1) := by decide +kernel
theorem dX8_dead_45 : decode cX8_dead 45 = .ok (.istore_n 1, 1) := by decide +kernel
theorem dX8_dead_46 : decode cX8_dead 46 = .ok (.iinc 2 1, 3) := by decide +kernel
theorem dX8_dead_49 : decode cX8_dead 49 = .ok (.goto (-36), 3) := by decide +kernel
theorem dX8_dead_52 : decode cX8_dead 52 = .ok (.iload_n 1, 1) := by decide +kernel
theorem dX8_dead_53 : decode cX8_dead 53 = .ok (.ireturn, 1) := by decide +kernel
theorem dX8_lengthOf_0 : decode cX8_lengthOf 0 = .ok (.iconst 0, 1) := by decide +kernel
theorem dX8_lengthOf_1 : decode cX8_lengthOf 1 = .ok (.istore_n 2, 1) := by decide +kernel
theorem dX8_lengthOf_2 : decode cX8_lengthOf 2 = .ok (.iconst 0, 1) := by decide +kernel
theorem dX8_lengthOf_3 : decode cX8_lengthOf 3 = .ok (.istore_n 3, 1) := by decide +kernel
theorem dX8_lengthOf_4 : decode cX8_lengthOf 4 = .ok (.iload_n 3, 1) := by decide +kernel
theorem dX8_lengthOf_5 : decode cX8_lengthOf 5 = .ok (.aload_n 0, 1) := by decide +kernel
theorem dX8_lengthOf_6 : decode cX8_lengthOf 6 = .ok (.getfield 47, 3) := by decide +kernel
theorem dX8_lengthOf_9 : decode cX8_lengthOf 9 = .ok (.if_icmp .ge 38, 3) := by decide +kernel
theorem dX8_lengthOf_12 : decode cX8_lengthOf 12 = .ok (.iload_n 2, 1) := by decide +kernel
theorem dX8_lengthOf_13 : decode cX8_lengthOf 13 = .ok (.aload_n 0, 1) := by decide +kernel
theorem dX8_lengthOf_14 : decode cX8_lengthOf 14 = .ok (.iload_n 3, 1) := by decide +kernel
theorem dX8_lengthOf_15 : decode cX8_lengthOf 15 = .ok (.invokevirtual 90, 3) := by decide +kernel
theorem dX8_lengthOf_18 : decode cX8_lengthOf 18 = .ok (.ifCond .eq 20, 3) := by decide +kernel
theorem dX8_lengthOf_21 : decode cX8_lengthOf 21 = .ok (.aload_n 0, 1) := by decide +kernel
theorem dX8_lengthOf_22 : decode cX8_lengthOf 22 = .ok (.getfield 13, 3) := by decide +kernel
theorem dX8_lengthOf_25 : decode cX8_lengthOf 25 = .ok (.iload_n 3, 1) := by decide +kernel
theorem dX8_lengthOf_26 : decode cX8_lengthOf 26 = .ok (.iaload, 1) := by decide +kernel
theorem dX8_lengthOf_27 : decode cX8_lengthOf 27 = .ok (.iload_n 1, 1) := by decide +kernel
theorem dX8_lengthOf_28 : decode cX8_lengthOf 28 = .ok (.invokestatic 93, 3) := by decide +kernel
theorem dX8_lengthOf_31 : decode cX8_lengthOf 31 = .ok (.ifCond .eq 7, 3) := by decide +kernel
theorem dX8_lengthOf_34 : decode cX8_lengthOf 34 = .ok (.iconst 1, 1) := by decide +kernel
theorem dX8_lengthOf_35 : decode cX8_lengthOf 35 = .ok (.goto 4, 3) := by decide +kernel
theorem dX8_lengthOf_38 : decode cX8_lengthOf 38 = .ok (.iconst 0, 1) := by decide +kernel
theorem dX8_lengthOf_39 : decode cX8_lengthOf 39 = .ok (.iadd, 1) := by decide +kernel
theorem dX8_lengthOf_40 : decode cX8_lengthOf 40 = .ok (.istore_n 2, 1) := by decide +kernel
theorem dX8_lengthOf_41 : decode cX8_lengthOf 41 = .ok (.iinc 3 1, 3) := by decide +kernel
theorem dX8_lengthOf_44 : decode cX8_lengthOf 44 = .ok (.goto (-40), 3) := by decide +kernel
theorem dX8_lengthOf_47 : decode cX8_lengthOf 47 = .ok (.iload_n 2, 1) := by decide +kernel
theorem dX8_lengthOf_48 : decode cX8_lengthOf 48 = .ok (.ireturn, 1) := by decide +kernel
theorem dX8_find_0 : decode cX8_find 0 = .ok (.iload_n 2, 1) := by decide +kernel
theorem dX8_find_1 : decode cX8_find 1 = .ok (.istore_n 3, 1) := by decide +kernel
theorem dX8_find_2 : decode cX8_find 2 = .ok (.iconst 0, 1) := by decide +kernel
theorem dX8_find_3 : decode cX8_find 3 = .ok (.istore 4, 2) := by decide +kernel
theorem dX8_find_5 : decode cX8_find 5 = .ok (.iload 4, 2) := by decide +kernel
theorem dX8_find_7 : decode cX8_find 7 = .ok (.aload_n 0, 1) := by decide +kernel
theorem dX8_find_8 : decode cX8_find 8 = .ok (.getfield 47, 3) := by decide +kernel
theorem dX8_find_11 : decode cX8_find 11 = .ok (.if_icmp .ge 49, 3) := by decide +kernel
theorem dX8_find_14 : decode cX8_find 14 = .ok (.iload_n 2, 1) := by decide +kernel
theorem dX8_find_15 : decode cX8_find 15 = .ok (.ifCond .lt 45, 3) := by decide +kernel
theorem dX8_find_18 : decode cX8_find 18 = .ok (.aload_n 0, 1) := by decide +kernel
theorem dX8_find_19 : decode cX8_find 19 = .ok (.iload 4, 2) := by decide +kernel
theorem dX8_find_21 : decode cX8_find 21 = .ok (.invokevirtual 90, 3) := by decide +kernel
theorem dX8_find_24 : decode cX8_find 24 = .ok (.ifCond .eq 30, 3) := by decide +kernel
theorem dX8_find_27 : decode cX8_find 27 = .ok (.aload_n 0, 1) := by decide +kernel
theorem dX8_find_28 : decode cX8_find 28 = .ok (.getfield 13, 3) := by decide +kernel
theorem dX8_find_31 : decode cX8_find 31 = .ok (.iload 4, 2) := by decide +kernel
theorem dX8_find_33 : decode cX8_find 33 = .ok (.iaload, 1) := by decide +kernel
theorem dX8_find_34 : decode cX8_find 34 = .ok (.iload_n 1, 1) := by decide +kernel
theorem dX8_find_35 : decode cX8_find 35 = .ok (.invokestatic 93, 3) := by decide +kernel
theorem dX8_find_38 : decode cX8_find 38 = .ok (.ifCond .ne 6, 3) := by decide +kernel
theorem dX8_find_41 : decode cX8_find 41 = .ok (.goto 13, 3) := by decide +kernel
theorem dX8_find_44 : decode cX8_find 44 = .ok (.iload_n 3, 1) := by decide +kernel
theorem dX8_find_45 : decode cX8_find 45 = .ok (.ifCond .ne 6, 3) := by decide +kernel
theorem dX8_find_48 : decode cX8_find 48 = .ok (.iload 4, 2) := by decide +kernel
theorem dX8_find_50 : decode cX8_find 50 = .ok (.ireturn, 1) := by decide +kernel
theorem dX8_find_51 : decode cX8_find 51 = .ok (.iinc 3 (-1), 3) := by decide +kernel
theorem dX8_find_54 : decode cX8_find 54 = .ok (.iinc 4 1, 3) := by decide +kernel
theorem dX8_find_57 : decode cX8_find 57 = .ok (.goto (-52), 3) := by decide +kernel
theorem dX8_find_60 : decode cX8_find 60 = .ok (.iconst (-1), 1) := by decide +kernel
theorem dX8_find_61 : decode cX8_find 61 = .ok (.ireturn, 1) := by decide +kernel
theorem dX8_length_0 : decode cX8_length 0 = .ok (.aload_n 0, 1) := by decide +kernel
theorem dX8_length_1 : decode cX8_length 1 = .ok (.iconst 0, 1) := by decide +kernel
theorem dX8_length_2 : decode cX8_length 2 = .ok (.putfield 43, 3) := by decide +kernel
theorem dX8_length_5 : decode cX8_length 5 = .ok (.iload_n 1, 1) := by decide +kernel
theorem dX8_length_6 : decode cX8_length 6 = .ok (.invokestatic 101, 3) := by decide +kernel
theorem dX8_length_9 : decode cX8_length 9 = .ok (.ifCond .ne 9, 3) := by decide +kernel
theorem dX8_length_12 : decode cX8_length 12 = .ok (.aload_n 0, 1) := by decide +kernel
theorem dX8_length_13 : decode cX8_length 13 = .ok (.iconst 1, 1) := by decide +kernel
theorem dX8_length_14 : decode cX8_length 14 = .ok (.invokevirtual 68, 3) := by decide +kernel
theorem dX8_length_17 : decode cX8_length 17 = .ok (.ireturn, 1) := by decide +kernel
theorem dX8_length_18 : decode cX8_length 18 = .ok (.aload_n 0, 1) := by decide +kernel
theorem dX8_length_19 : decode cX8_length 19 = .ok (.invokevirtual 98, 3) := by decide +kernel
theorem dX8_length_22 : decode cX8_length 22 = .ok (.aload_n 0, 1) := by decide +kernel
theorem dX8_length_23 : decode cX8_length 23 = .ok (.iload_n 1, 1) := by decide +kernel
theorem dX8_length_24 : decode cX8_length 24 = .ok (.invokevirtual 104, 3) := by decide +kernel
theorem dX8_length_27 : decode cX8_length 27 = .ok (.ireturn, 1) := by decide +kernel
theorem dX8_place_0 : decode cX8_place 0 = .ok (.aload_n 0, 1) := by decide +kernel
theorem dX8_place_1 : decode cX8_place 1 = .ok (.iconst 0, 1) := by decide +kernel
theorem dX8_place_2 : decode cX8_place 2 = .ok (.putfield 43, 3) := by decide +kernel
theorem dX8_place_5 : decode cX8_place 5 = .ok (.iload_n 1, 1) := by decide +kernel
theorem dX8_place_6 : decode cX8_place 6 = .ok (.invokestatic 101, 3) := by decide +kernel
theorem dX8_place_9 : decode cX8_place 9 = .ok (.ifCond .ne 9, 3) := by decide +kernel
theorem dX8_place_12 : decode cX8_place 12 = .ok (.aload_n 0, 1) := by decide +kernel
theorem dX8_place_13 : decode cX8_place 13 = .ok (.iconst 1, 1) := by decide +kernel
theorem dX8_place_14 : decode cX8_place 14 = .ok (.invokevirtual 68, 3) := by decide +kernel
theorem dX8_place_17 : decode cX8_place 17 = .ok (.ireturn, 1) := by decide +kernel
theorem dX8_place_18 : decode cX8_place 18 = .ok (.aload_n 0, 1) := by decide +kernel
theorem dX8_place_19 : decode cX8_place 19 = .ok (.invokevirtual 98, 3) := by decide +kernel
theorem dX8_place_22 : decode cX8_place 22 = .ok (.aload_n 0, 1) := by decide +kernel
theorem dX8_place_23 : decode cX8_place 23 = .ok (.iload_n 1, 1) := by decide +kernel
theorem dX8_place_24 : decode cX8_place 24 = .ok (.iload_n 2, 1) := by decide +kernel
theorem dX8_place_25 : decode cX8_place 25 = .ok (.invokevirtual 107, 3) := by decide +kernel
theorem dX8_place_28 : decode cX8_place 28 = .ok (.istore_n 3, 1) := by decide +kernel
theorem dX8_place_29 : decode cX8_place 29 = .ok (.iload_n 3, 1) := by decide +kernel
theorem dX8_place_30 : decode cX8_place 30 = .ok (.iconst (-1), 1) := by decide +kernel
theorem dX8_place_31 : decode cX8_place 31 = .ok (.if_icmp .ne 11, 3) := by decide +kernel
theorem dX8_place_34 : decode cX8_place 34 = .ok (.aload_n 0, 1) := by decide +kernel
theorem dX8_place_35 : decode cX8_place 35 = .ok (.iconst 1, 1) := by decide +kernel
theorem dX8_place_36 : decode cX8_place 36 = .ok (.invokevirtual 68, 3) := by decide +kernel
theorem dX8_place_39 : decode cX8_place 39 = .ok (.goto 4, 3) := by decide +kernel
theorem dX8_place_42 : decode cX8_place 42 = .ok (.iload_n 3, 1) := by decide +kernel
theorem dX8_place_43 : decode cX8_place 43 = .ok (.ireturn, 1) := by decide +kernel
theorem dX8_areSame_0 : decode cX8_areSame 0 = .ok (.aload_n 0, 1) := by decide +kernel
theorem dX8_areSame_1 : decode cX8_areSame 1 = .ok (.iload_n 1, 1) := by decide +kernel
theorem dX8_areSame_2 : decode cX8_areSame 2 = .ok (.invokevirtual 104, 3) := by decide +kernel
theorem dX8_areSame_5 : decode cX8_areSame 5 = .ok (.istore_n 3, 1) := by decide +kernel
theorem dX8_areSame_6 : decode cX8_areSame 6 = .ok (.iload_n 3, 1) := by decide +kernel
theorem dX8_areSame_7 : decode cX8_areSame 7 = .ok (.aload_n 0, 1) := by decide +kernel
theorem dX8_areSame_8 : decode cX8_areSame 8 = .ok (.iload_n 2, 1) := by decide +kernel
theorem dX8_areSame_9 : decode cX8_areSame 9 = .ok (.invokevirtual 104, 3) := by decide +kernel
theorem dX8_areSame_12 : decode cX8_areSame 12 = .ok (.if_icmp .ne 7, 3) := by decide +kernel
theorem dX8_areSame_15 : decode cX8_areSame 15 = .ok (.iconst 1, 1) := by decide +kernel
theorem dX8_areSame_16 : decode cX8_areSame 16 = .ok (.goto 4, 3) := by decide +kernel
theorem dX8_areSame_19 : decode cX8_areSame 19 = .ok (.iconst 0, 1) := by decide +kernel
theorem dX8_areSame_20 : decode cX8_areSame 20 = .ok (.istore 4, 2) := by decide +kernel
theorem dX8_areSame_22 : decode cX8_areSame 22 = .ok (.iconst 0, 1) := by decide +kernel
theorem dX8_areSame_23 : decode cX8_areSame 23 = .ok (.istore 5, 2) := by decide +kernel
theorem dX8_areSame_25 : decode cX8_areSame 25 = .ok (.iload 5, 2) := by decide +kernel
theorem dX8_areSame_27 : decode cX8_areSame 27 = .ok (.iload_n 3, 1) := by decide +kernel
theorem dX8_areSame_28 : decode cX8_areSame 28 = .ok (.if_icmp .ge 48, 3) := by decide +kernel
theorem dX8_areSame_31 : decode cX8_areSame 31 = .ok (.iload 4, 2) := by decide +kernel
theorem dX8_areSame_33 : decode cX8_areSame 33 = .ok (.ifCond .eq 43, 3) := by decide +kernel
theorem dX8_areSame_36 : decode cX8_areSame 36 = .ok (.aload_n 0, 1) := by decide +kernel
theorem dX8_areSame_37 : decode cX8_areSame 37 = .ok (.getfield 9, 3) := by decide +kernel
theorem dX8_areSame_40 : decode cX8_areSame 40 = .ok (.aload_n 0, 1) := by decide +kernel
theorem dX8_areSame_41 : decode cX8_areSame 41 = .ok (.iload_n 1, 1) := by decide +kernel
theorem dX8_areSame_42 : decode cX8_areSame 42 = .ok (.iload 5, 2) := by decide +kernel
theorem dX8_areSame_44 : decode cX8_areSame 44 = .ok (.invokevirtual 107, 3) := by decide +kernel
theorem dX8_areSame_47 : decode cX8_areSame 47 = .ok (.iaload, 1) := by decide +kernel
theorem dX8_areSame_48 : decode cX8_areSame 48 = .ok (.aload_n 0, 1) := by decide +kernel
theorem dX8_areSame_49 : decode cX8_areSame 49 = .ok (.getfield 9, 3) := by decide +kernel
theorem dX8_areSame_52 : decode cX8_areSame 52 = .ok (.aload_n 0, 1) := by decide +kernel
theorem dX8_areSame_53 : decode cX8_areSame 53 = .ok (.iload_n 2, 1) := by decide +kernel
theorem dX8_areSame_54 : decode cX8_areSame 54 = .ok (.iload 5, 2) := by decide +kernel
theorem dX8_areSame_56 : decode cX8_areSame 56 = .ok (.invokevirtual 107, 3) := by decide +kernel
theorem dX8_areSame_59 : decode cX8_areSame 59 = .ok (.iaload, 1) := by decide +kernel
theorem dX8_areSame_60 : decode cX8_areSame 60 = .ok (.if_icmp .ne 7, 3) := by decide +kernel
theorem dX8_areSame_63 : decode cX8_areSame 63 = .ok (.iconst 1, 1) := by decide +kernel
theorem dX8_areSame_64 : decode cX8_areSame 64 = .ok (.goto 4, 3) := by decide +kernel
theorem dX8_areSame_67 : decode cX8_areSame 67 = .ok (.iconst 0, 1) := by decide +kernel
theorem dX8_areSame_68 : decode cX8_areSame 68 = .ok (.istore 4, 2) := by decide +kernel
theorem dX8_areSame_70 : decode cX8_areSame 70 = .ok (.iinc 5 1, 3) := by decide +kernel
theorem dX8_areSame_73 : decode cX8_areSame 73 = .ok (.goto (-48), 3) := by decide +kernel
theorem dX8_areSame_76 : decode cX8_areSame 76 = .ok (.iload 4, 2) := by decide +kernel
theorem dX8_areSame_78 : decode cX8_areSame 78 = .ok (.ireturn, 1) := by decide +kernel
theorem dX8_variants_0 : decode cX8_variants 0 = .ok (.aload_n 0, 1) := by decide +kernel
theorem dX8_variants_1 : decode cX8_variants 1 = .ok (.iconst 0, 1) := by decide +kernel
theorem dX8_variants_2 : decode cX8_variants 2 = .ok (.putfield 43, 3) := by decide +kernel
theorem dX8_variants_5 : decode cX8_variants 5 = .ok (.aload_n 0, 1) := by decide +kernel
theorem dX8_variants_6 : decode cX8_variants 6 = .ok (.invokevirtual 98, 3) := by decide +kernel
theorem dX8_variants_9 : decode cX8_variants 9 = .ok (.iconst 0, 1) := by decide +kernel
theorem dX8_variants_10 : decode cX8_variants 10 = .ok (.istore_n 1, 1) := by decide +kernel
theorem dX8_variants_11 : decode cX8_variants 11 = .ok (.iconst 0, 1) := by decide +kernel
theorem dX8_variants_12 : decode cX8_variants 12 = .ok (.istore_n 2, 1) := by decide +kernel
theorem dX8_variants_13 : decode cX8_variants 13 = .ok (.iload_n 2, 1) := by decide +kernel
theorem dX8_variants_14 : decode cX8_variants 14 = .ok (.bipush 16, 2) := by decide +kernel
theorem dX8_variants_16 : decode cX8_variants 16 = .ok (.if_icmp .ge 58, 3) := by decide +kernel
theorem dX8_variants_19 : decode cX8_variants 19 = .ok (.iconst 1, 1) := by decide +kernel
theorem dX8_variants_20 : decode cX8_variants 20 = .ok (.istore_n 3, 1) := by decide +kernel
theorem dX8_variants_21 : decode cX8_variants 21 = .ok (.iconst 0, 1) := by decide +kernel
theorem dX8_variants_22 : decode cX8_variants 22 = .ok (.istore 4, 2) := by decide +kernel
theorem dX8_variants_24 : decode cX8_variants 24 = .ok (.iload 4, 2) := by decide +kernel
theorem dX8_variants_26 : decode cX8_variants 26 = .ok (.iload_n 2, 1) := by decide +kernel
theorem dX8_variants_27 : decode cX8_variants 27 = .ok (.if_icmp .ge 29, 3) := by decide +kernel
theorem dX8_variants_30 : decode cX8_variants 30 = .ok (.iload_n 3, 1) := by decide +kernel
theorem dX8_variants_31 : decode cX8_variants 31 = .ok (.ifCond .eq 25, 3) := by decide +kernel
theorem dX8_variants_34 : decode cX8_variants 34 = .ok (.aload_n 0, 1) := by decide +kernel
theorem dX8_variants_35 : decode cX8_variants 35 = .ok (.iload 4, 2) := by decide +kernel
theorem dX8_variants_37 : decode cX8_variants 37 = .ok (.iload_n 2, 1) := by decide +kernel
theorem dX8_variants_38 : decode cX8_variants 38 = .ok (.invokevirtual 111, 3) := by decide +kernel
theorem dX8_variants_41 : decode cX8_variants 41 = .ok (.ifCond .ne 7, 3) := by decide +kernel
theorem dX8_variants_44 : decode cX8_variants 44 = .ok (.iconst 1, 1) := by decide +kernel
theorem dX8_variants_45 : decode cX8_variants 45 = .ok (.goto 4, 3) := by decide +kernel
theorem dX8_variants_48 : decode cX8_variants 48 = .ok (.iconst 0, 1) := by decide +kernel
theorem dX8_variants_49 : decode cX8_variants 49 = .ok (.istore_n 3, 1) := by decide +kernel
theorem dX8_variants_50 : decode cX8_variants 50 = .ok (.iinc 4 1, 3) := by decide +kernel
theorem dX8_variants_53 : decode cX8_variants 53 = .ok (.goto (-29), 3) := by decide +kernel
theorem dX8_variants_56 : decode cX8_variants 56 = .ok (.iload_n 1, 1) := by decide +kernel
theorem dX8_variants_57 : decode cX8_variants 57 = .ok (.iload_n 3, 1) := by decide +kernel
theorem dX8_variants_58 : decode cX8_variants 58 = .ok (.ifCond .eq 7, 3) := by decide +kernel
theorem dX8_variants_61 : decode cX8_variants 61 = .ok (.iconst 1, 1) := by decide +kernel
theorem dX8_variants_62 : decode cX8_variants 62 = .ok (.goto 4, 3) := by decide +kernel
theorem dX8_variants_65 : decode cX8_variants 65 = .ok (.iconst 0, 1) := by decide +kernel
theorem dX8_variants_66 : decode cX8_variants 66 = .ok (.iadd, 1) := by decide +kernel
theorem dX8_variants_67 : decode cX8_variants 67 = .ok (.istore_n 1, 1) := by decide +kernel
theorem dX8_variants_68 : decode cX8_variants 68 = .ok (.iinc 2 1, 3) := by decide +kernel
theorem dX8_variants_71 : decode cX8_variants 71 = .ok (.goto (-58), 3) := by decide +kernel
theorem dX8_variants_74 : decode cX8_variants 74 = .ok (.iload_n 1, 1) := by decide +kernel
theorem dX8_variants_75 : decode cX8_variants 75 = .ok (.ireturn, 1) := by decide +kernel
theorem dX8_push_0 : decode cX8_push 0 = .ok (.aload_n 0, 1) := by decide +kernel
theorem dX8_push_1 : decode cX8_push 1 = .ok (.getfield 19, 3) := by decide +kernel
theorem dX8_push_4 : decode cX8_push 4 = .ok (.sipush 400, 3) := by decide +kernel
theorem dX8_push_7 : decode cX8_push 7 = .ok (.iload_n 1, 1) := by decide +kernel
theorem dX8_push_8 : decode cX8_push 8 = .ok (.imul, 1) := by decide +kernel
theorem dX8_push_9 : decode cX8_push 9 = .ok (.aload_n 0, 1) := by decide +kernel
theorem dX8_push_10 : decode cX8_push 10 = .ok (.getfield 22, 3) := by decide +kernel
theorem dX8_push_13 : decode cX8_push 13 = .ok (.iload_n 1, 1) := by decide +kernel
theorem dX8_push_14 : decode cX8_push 14 = .ok (.iaload, 1) := by decide +kernel
theorem dX8_push_15 : decode cX8_push 15 = .ok (.iadd, 1) := by decide +kernel
theorem dX8_push_16 : decode cX8_push 16 = .ok (.iload_n 2, 1) := by decide +kernel
theorem dX8_push_17 : decode cX8_push 17 = .ok (.iastore, 1) := by decide +kernel
theorem dX8_push_18 : decode cX8_push 18 = .ok (.aload_n 0, 1) := by decide +kernel
theorem dX8_push_19 : decode cX8_push 19 = .ok (.getfield 22, 3) := by decide +kernel
theorem dX8_push_22 : decode cX8_push 22 = .ok (.iload_n 1, 1) := by decide +kernel
theorem dX8_push_23 : decode cX8_push 23 = .ok (.dup2, 1) := by decide +kernel
theorem dX8_push_24 : decode cX8_push 24 = .ok (.iaload, 1) := by decide +kernel
theorem dX8_push_25 : decode cX8_push 25 = .ok (.iconst 1, 1) := by decide +kernel
theorem dX8_push_26 : decode cX8_push 26 = .ok (.iadd, 1) := by decide +kernel
theorem dX8_push_27 : decode cX8_push 27 = .ok (.iastore, 1) := by decide +kernel
theorem dX8_push_28 : decode cX8_push 28 = .ok (.return_, 1) := by decide +kernel
theorem dX8_isName_0 : decode cX8_isName 0 = .ok (.iload_n 0, 1) := by decide +kernel
theorem dX8_isName_1 : decode cX8_isName 1 = .ok (.bipush 97, 2) := by decide +kernel
theorem dX8_isName_3 : decode cX8_isName 3 = .ok (.if_icmp .lt 13, 3) := by decide +kernel
theorem dX8_isName_6 : decode cX8_isName 6 = .ok (.iload_n 0, 1) := by decide +kernel
theorem dX8_isName_7 : decode cX8_isName 7 = .ok (.bipush 100, 2) := by decide +kernel
theorem dX8_isName_9 : decode cX8_isName 9 = .ok (.if_icmp .gt 7, 3) := by decide +kernel
theorem dX8_isName_12 : decode cX8_isName 12 = .ok (.iconst 1, 1) := by decide +kernel
theorem dX8_isName_13 : decode cX8_isName 13 = .ok (.goto 4, 3) := by decide +kernel
theorem dX8_isName_16 : decode cX8_isName 16 = .ok (.iconst 0, 1) := by decide +kernel
theorem dX8_isName_17 : decode cX8_isName 17 = .ok (.ireturn, 1) := by decide +kernel
theorem dX8_canBegin_0 : decode cX8_canBegin 0 = .ok (.iload_n 0, 1) := by decide +kernel
theorem dX8_canBegin_1 : decode cX8_canBegin 1 = .ok (.invokestatic 114, 3) := by decide +kernel
theorem dX8_canBegin_4 : decode cX8_canBegin 4 = .ok (.ifCond .ne 21, 3) := by decide +kernel
theorem dX8_canBegin_7 : decode cX8_canBegin 7 = .ok (.iload_n 0, 1) := by decide +kernel
theorem dX8_canBegin_8 : decode cX8_canBegin 8 = .ok (.bipush 123, 2) := by decide +kernel
theorem dX8_canBegin_10 : decode cX8_canBegin 10 = .ok (.if_icmp .eq 15, 3) := by decide +kernel
theorem dX8_canBegin_13 : decode cX8_canBegin 13 = .ok (.iload_n 0, 1) := by decide +kernel
theorem dX8_canBegin_14 : decode cX8_canBegin 14 = .ok (.bipush 63, 2) := by decide +kernel
theorem dX8_canBegin_16 : decode cX8_canBegin 16 = .ok (.if_icmp .eq 9, 3) := by decide +kernel
theorem dX8_canBegin_19 : decode cX8_canBegin 19 = .ok (.iload_n 0, 1) := by decide +kernel
theorem dX8_canBegin_20 : decode cX8_canBegin 20 = .ok (.bipush 33, 2) := by decide +kernel
theorem dX8_canBegin_22 : decode cX8_canBegin 22 = .ok (.if_icmp .ne 7, 3) := by decide +kernel
theorem dX8_canBegin_25 : decode cX8_canBegin 25 = .ok (.iconst 1, 1) := by decide +kernel
theorem dX8_canBegin_26 : decode cX8_canBegin 26 = .ok (.goto 4, 3) := by decide +kernel
theorem dX8_canBegin_29 : decode cX8_canBegin 29 = .ok (.iconst 0, 1) := by decide +kernel
theorem dX8_canBegin_30 : decode cX8_canBegin 30 = .ok (.ireturn, 1) := by decide +kernel
theorem dX8_expand_0 : decode cX8_expand 0 = .ok (.aload_n 0, 1) := by decide +kernel
theorem dX8_expand_1 : decode cX8_expand 1 = .ok (.getfield 22, 3) := by decide +kernel
theorem dX8_expand_4 : decode cX8_expand 4 = .ok (.iload_n 1, 1) := by decide +kernel
theorem dX8_expand_5 : decode cX8_expand 5 = .ok (.dup2, 1) := by decide +kernel
theorem dX8_expand_6 : decode cX8_expand 6 = .ok (.iaload, 1) := by decide +kernel
theorem dX8_expand_7 : decode cX8_expand 7 = .ok (.iconst 1, 1) := by decide +kernel
theorem dX8_expand_8 : decode cX8_expand 8 = .ok (.isub, 1) := by decide +kernel
theorem dX8_expand_9 : decode cX8_expand 9 = .ok (.iastore, 1) := by decide +kernel
theorem dX8_expand_10 : decode cX8_expand 10 = .ok (.aload_n 0, 1) := by decide +kernel
theorem dX8_expand_11 : decode cX8_expand 11 = .ok (.getfield 19, 3) := by decide +kernel
theorem dX8_expand_14 : decode cX8_expand 14 = .ok (.sipush 400, 3) := by decide +kernel
theorem dX8_expand_17 : decode cX8_expand 17 = .ok (.iload_n 1, 1) := by decide +kernel
theorem dX8_expand_18 : decode cX8_expand 18 = .ok (.imul, 1) := by decide +kernel
theorem dX8_expand_19 : decode cX8_expand 19 = .ok (.aload_n 0, 1) := by decide +kernel
theorem dX8_expand_20 : decode cX8_expand 20 = .ok (.getfield 22, 3) := by decide +kernel
theorem dX8_expand_23 : decode cX8_expand 23 = .ok (.iload_n 1, 1) := by decide +kernel
theorem dX8_expand_24 : decode cX8_expand 24 = .ok (.iaload, 1) := by decide +kernel
theorem dX8_expand_25 : decode cX8_expand 25 = .ok (.iadd, 1) := by decide +kernel
theorem dX8_expand_26 : decode cX8_expand 26 = .ok (.iaload, 1) := by decide +kernel
theorem dX8_expand_27 : decode cX8_expand 27 = .ok (.istore_n 3, 1) := by decide +kernel
theorem dX8_expand_28 : decode cX8_expand 28 = .ok (.iload_n 3, 1) := by decide +kernel
theorem dX8_expand_29 : decode cX8_expand 29 = .ok (.tableswitch 201 1 7 #[43, 71, 78, 105, 136, 120, 171], 43) := by decide +kernel
theorem dX8_expand_72 : decode cX8_expand 72 = .ok (.iload_n 2, 1) := by decide +kernel
theorem dX8_expand_73 : decode cX8_expand 73 = .ok (.invokestatic 117, 3) := by decide +kernel
theorem dX8_expand_76 : decode cX8_expand 76 = .ok (.ifCond .eq 9, 3) := by decide +kernel
theorem dX8_expand_79 : decode cX8_expand 79 = .ok (.aload_n 0, 1) := by decide +kernel
theorem dX8_expand_80 : decode cX8_expand 80 = .ok (.iload_n 1, 1) := by decide +kernel
theorem dX8_expand_81 : decode cX8_expand 81 = .ok (.iconst 1, 1) := by decide +kernel
theorem dX8_expand_82 : decode cX8_expand 82 = .ok (.invokevirtual 120, 3) := by decide +kernel
theorem dX8_expand_85 : decode cX8_expand 85 = .ok (.iload_n 2, 1) := by decide +kernel
theorem dX8_expand_86 : decode cX8_expand 86 = .ok (.invokestatic 117, 3) := by decide +kernel
theorem dX8_expand_89 : decode cX8_expand 89 = .ok (.ifCond .eq 9, 3) := by decide +kernel
theorem dX8_expand_92 : decode cX8_expand 92 = .ok (.aload_n 0, 1) := by decide +kernel
theorem dX8_expand_93 : decode cX8_expand 93 = .ok (.iload_n 1, 1) := by decide +kernel
theorem dX8_expand_94 : decode cX8_expand 94 = .ok (.iconst 2, 1) := by decide +kernel
theorem dX8_expand_95 : decode cX8_expand 95 = .ok (.invokevirtual 120, 3) := by decide +kernel
theorem dX8_expand_98 : decode cX8_expand 98 = .ok (.iconst 1, 1) := by decide +kernel
theorem dX8_expand_99 : decode cX8_expand 99 = .ok (.ireturn, 1) := by decide +kernel
theorem dX8_expand_100 : decode cX8_expand 100 = .ok (.aload_n 0, 1) := by decide +kernel
theorem dX8_expand_101 : decode cX8_expand 101 = .ok (.iload_n 1, 1) := by decide +kernel
theorem dX8_expand_102 : decode cX8_expand 102 = .ok (.iload_n 2, 1) := by decide +kernel
theorem dX8_expand_103 : decode cX8_expand 103 = .ok (.invokevirtual 124, 3) := by decide +kernel
theorem dX8_expand_106 : decode cX8_expand 106 = .ok (.ireturn, 1) := by decide +kernel
theorem dX8_expand_107 : decode cX8_expand 107 = .ok (.iload_n 2, 1) := by decide +kernel
theorem dX8_expand_108 : decode cX8_expand 108 = .ok (.bipush 58, 2) := by decide +kernel
theorem dX8_expand_110 : decode cX8_expand 110 = .ok (.if_icmp .ne 9, 3) := by decide +kernel
theorem dX8_expand_113 : decode cX8_expand 113 = .ok (.aload_n 0, 1) := by decide +kernel
theorem dX8_expand_114 : decode cX8_expand 114 = .ok (.iload_n 1, 1) := by decide +kernel
theorem dX8_expand_115 : decode cX8_expand 115 = .ok (.iconst 2, 1) := by decide +kernel
theorem dX8_expand_116 : decode cX8_expand 116 = .ok (.invokevirtual 120, 3) := by decide +kernel
theorem dX8_expand_119 : decode cX8_expand 119 = .ok (.iload_n 2, 1) := by decide +kernel
theorem dX8_expand_120 : decode cX8_expand 120 = .ok (.bipush 58, 2) := by decide +kernel
theorem dX8_expand_122 : decode cX8_expand 122 = .ok (.if_icmp .ne 10, 3) := by decide +kernel
theorem dX8_expand_125 : decode cX8_expand 125 = .ok (.aload_n 0, 1) := by decide +kernel
theorem dX8_expand_126 : decode cX8_expand 126 = .ok (.iload_n 1, 1) := by decide +kernel
theorem dX8_expand_127 : decode cX8_expand 127 = .ok (.bipush 58, 2) := by decide +kernel
theorem dX8_expand_129 : decode cX8_expand 129 = .ok (.invokevirtual 120, 3) := by decide +kernel
theorem dX8_expand_132 : decode cX8_expand 132 = .ok (.iconst 1, 1) := by decide +kernel
theorem dX8_expand_133 : decode cX8_expand 133 = .ok (.ireturn, 1) := by decide +kernel
theorem dX8_expand_134 : decode cX8_expand 134 = .ok (.aload_n 0, 1) := by decide +kernel
theorem dX8_expand_135 : decode cX8_expand 135 = .ok (.iload_n 1, 1) := by decide +kernel
theorem dX8_expand_136 : decode cX8_expand 136 = .ok (.iconst 5, 1) := by decide +kernel
theorem dX8_expand_137 : decode cX8_expand 137 = .ok (.invokevirtual 120, 3) := by decide +kernel
theorem dX8_expand_140 : decode cX8_expand 140 = .ok (.aload_n 0, 1) := by decide +kernel
theorem dX8_expand_141 : decode cX8_expand 141 = .ok (.iload_n 1, 1) := by decide +kernel
theorem dX8_expand_142 : decode cX8_expand 142 = .ok (.bipush 6, 2) := by decide +kernel
theorem dX8_expand_144 : decode cX8_expand 144 = .ok (.invokevirtual 120, 3) := by decide +kernel
theorem dX8_expand_147 : decode cX8_expand 147 = .ok (.iconst 1, 1) := by decide +kernel
end
section
theorem dX8_expand_148 : decode cX8_expand 148 = .ok (.ireturn, 1) := by decide +kernel
theorem dX8_expand_149 : decode cX8_expand 149 = .ok (.aload_n 0, 1) := by decide +kernel
theorem dX8_expand_150 : decode cX8_expand 150 = .ok (.iload_n 1, 1) := by decide +kernel
theorem dX8_expand_151 : decode cX8_expand 151 = .ok (.bipush 7, 2) := by decide +kernel
theorem dX8_expand_153 : decode cX8_expand 153 = .ok (.invokevirtual 120, 3) := by decide +kernel
theorem dX8_expand_156 : decode cX8_expand 156 = .ok (.aload_n 0, 1) := by decide +kernel
theorem dX8_expand_157 : decode cX8_expand 157 = .ok (.iload_n 1, 1) := by decide +kernel
theorem dX8_expand_158 : decode cX8_expand 158 = .ok (.bipush 8, 2) := by decide +kernel
theorem dX8_expand_160 : decode cX8_expand 160 = .ok (.invokevirtual 120, 3) := by decide +kernel
theorem dX8_expand_163 : decode cX8_expand 163 = .ok (.iconst 1, 1) := by decide +kernel
theorem dX8_expand_164 : decode cX8_expand 164 = .ok (.ireturn, 1) := by decide +kernel
theorem dX8_expand_165 : decode cX8_expand 165 = .ok (.iload_n 2, 1) := by decide +kernel
theorem dX8_expand_166 : decode cX8_expand 166 = .ok (.bipush 43, 2) := by decide +kernel
theorem dX8_expand_168 : decode cX8_expand 168 = .ok (.if_icmp .eq 11, 3) := by decide +kernel
theorem dX8_expand_171 : decode cX8_expand 171 = .ok (.iload_n 2, 1) := by decide +kernel
theorem dX8_expand_172 : decode cX8_expand 172 = .ok (.bipush 45, 2) := by decide +kernel
theorem dX8_expand_174 : decode cX8_expand 174 = .ok (.if_icmp .eq 5, 3) := by decide +kernel
theorem dX8_expand_177 : decode cX8_expand 177 = .ok (.iconst 1, 1) := by decide +kernel
theorem dX8_expand_178 : decode cX8_expand 178 = .ok (.ireturn, 1) := by decide +kernel
theorem dX8_expand_179 : decode cX8_expand 179 = .ok (.aload_n 0, 1) := by decide +kernel
theorem dX8_expand_180 : decode cX8_expand 180 = .ok (.iload_n 1, 1) := by decide +kernel
theorem dX8_expand_181 : decode cX8_expand 181 = .ok (.iconst 5, 1) := by decide +kernel
theorem dX8_expand_182 : decode cX8_expand 182 = .ok (.invokevirtual 120, 3) := by decide +kernel
theorem dX8_expand_185 : decode cX8_expand 185 = .ok (.aload_n 0, 1) := by decide +kernel
theorem dX8_expand_186 : decode cX8_expand 186 = .ok (.iload_n 1, 1) := by decide +kernel
theorem dX8_expand_187 : decode cX8_expand 187 = .ok (.bipush 6, 2) := by decide +kernel
theorem dX8_expand_189 : decode cX8_expand 189 = .ok (.invokevirtual 120, 3) := by decide +kernel
theorem dX8_expand_192 : decode cX8_expand 192 = .ok (.aload_n 0, 1) := by decide +kernel
theorem dX8_expand_193 : decode cX8_expand 193 = .ok (.iload_n 1, 1) := by decide +kernel
theorem dX8_expand_194 : decode cX8_expand 194 = .ok (.iload_n 2, 1) := by decide +kernel
theorem dX8_expand_195 : decode cX8_expand 195 = .ok (.invokevirtual 120, 3) := by decide +kernel
theorem dX8_expand_198 : decode cX8_expand 198 = .ok (.iconst 1, 1) := by decide +kernel
theorem dX8_expand_199 : decode cX8_expand 199 = .ok (.ireturn, 1) := by decide +kernel
theorem dX8_expand_200 : decode cX8_expand 200 = .ok (.iload_n 2, 1) := by decide +kernel
theorem dX8_expand_201 : decode cX8_expand 201 = .ok (.bipush 42, 2) := by decide +kernel
theorem dX8_expand_203 : decode cX8_expand 203 = .ok (.if_icmp .eq 5, 3) := by decide +kernel
theorem dX8_expand_206 : decode cX8_expand 206 = .ok (.iconst 1, 1) := by decide +kernel
theorem dX8_expand_207 : decode cX8_expand 207 = .ok (.ireturn, 1) := by decide +kernel
theorem dX8_expand_208 : decode cX8_expand 208 = .ok (.aload_n 0, 1) := by decide +kernel
theorem dX8_expand_209 : decode cX8_expand 209 = .ok (.iload_n 1, 1) := by decide +kernel
theorem dX8_expand_210 : decode cX8_expand 210 = .ok (.bipush 7, 2) := by decide +kernel
theorem dX8_expand_212 : decode cX8_expand 212 = .ok (.invokevirtual 120, 3) := by decide +kernel
theorem dX8_expand_215 : decode cX8_expand 215 = .ok (.aload_n 0, 1) := by decide +kernel
theorem dX8_expand_216 : decode cX8_expand 216 = .ok (.iload_n 1, 1) := by decide +kernel
theorem dX8_expand_217 : decode cX8_expand 217 = .ok (.bipush 8, 2) := by decide +kernel
theorem dX8_expand_219 : decode cX8_expand 219 = .ok (.invokevirtual 120, 3) := by decide +kernel
theorem dX8_expand_222 : decode cX8_expand 222 = .ok (.aload_n 0, 1) := by decide +kernel
theorem dX8_expand_223 : decode cX8_expand 223 = .ok (.iload_n 1, 1) := by decide +kernel
theorem dX8_expand_224 : decode cX8_expand 224 = .ok (.iload_n 2, 1) := by decide +kernel
theorem dX8_expand_225 : decode cX8_expand 225 = .ok (.invokevirtual 120, 3) := by decide +kernel
theorem dX8_expand_228 : decode cX8_expand 228 = .ok (.iconst 1, 1) := by decide +kernel
theorem dX8_expand_229 : decode cX8_expand 229 = .ok (.ireturn, 1) := by decide +kernel
theorem dX8_expand_230 : decode cX8_expand 230 = .ok (.aload_n 0, 1) := by decide +kernel
theorem dX8_expand_231 : decode cX8_expand 231 = .ok (.iload_n 1, 1) := by decide +kernel
theorem dX8_expand_232 : decode cX8_expand 232 = .ok (.iload_n 2, 1) := by decide +kernel
theorem dX8_expand_233 : decode cX8_expand 233 = .ok (.invokevirtual 127, 3) := by decide +kernel
theorem dX8_expand_236 : decode cX8_expand 236 = .ok (.ireturn, 1) := by decide +kernel
theorem dX8_expandStatement_0 : decode cX8_expandStatement 0 = .ok (.iload_n 2, 1) := by decide +kernel
theorem dX8_expandStatement_1 : decode cX8_expandStatement 1 = .ok (.invokestatic 117, 3) := by decide +kernel
theorem dX8_expandStatement_4 : decode cX8_expandStatement 4 = .ok (.ifCond .ne 5, 3) := by decide +kernel
theorem dX8_expandStatement_7 : decode cX8_expandStatement 7 = .ok (.iconst 0, 1) := by decide +kernel
theorem dX8_expandStatement_8 : decode cX8_expandStatement 8 = .ok (.ireturn, 1) := by decide +kernel
theorem dX8_expandStatement_9 : decode cX8_expandStatement 9 = .ok (.iload_n 2, 1) := by decide +kernel
theorem dX8_expandStatement_10 : decode cX8_expandStatement 10 = .ok (.bipush 123, 2) := by decide +kernel
theorem dX8_expandStatement_12 : decode cX8_expandStatement 12 = .ok (.if_icmp .ne 19, 3) := by decide +kernel
theorem dX8_expandStatement_15 : decode cX8_expandStatement 15 = .ok (.aload_n 0, 1) := by decide +kernel
theorem dX8_expandStatement_16 : decode cX8_expandStatement 16 = .ok (.iload_n 1, 1) := by decide +kernel
theorem dX8_expandStatement_17 : decode cX8_expandStatement 17 = .ok (.bipush 125, 2) := by decide +kernel
theorem dX8_expandStatement_19 : decode cX8_expandStatement 19 = .ok (.invokevirtual 120, 3) := by decide +kernel
theorem dX8_expandStatement_22 : decode cX8_expandStatement 22 = .ok (.aload_n 0, 1) := by decide +kernel
theorem dX8_expandStatement_23 : decode cX8_expandStatement 23 = .ok (.iload_n 1, 1) := by decide +kernel
theorem dX8_expandStatement_24 : decode cX8_expandStatement 24 = .ok (.iconst 1, 1) := by decide +kernel
theorem dX8_expandStatement_25 : decode cX8_expandStatement 25 = .ok (.invokevirtual 120, 3) := by decide +kernel
theorem dX8_expandStatement_28 : decode cX8_expandStatement 28 = .ok (.goto 57, 3) := by decide +kernel
theorem dX8_expandStatement_31 : decode cX8_expandStatement 31 = .ok (.iload_n 2, 1) := by decide +kernel
theorem dX8_expandStatement_32 : decode cX8_expandStatement 32 = .ok (.bipush 63, 2) := by decide +kernel
theorem dX8_expandStatement_34 : decode cX8_expandStatement 34 = .ok (.if_icmp .ne 24, 3) := by decide +kernel
theorem dX8_expandStatement_37 : decode cX8_expandStatement 37 = .ok (.aload_n 0, 1) := by decide +kernel
theorem dX8_expandStatement_38 : decode cX8_expandStatement 38 = .ok (.iload_n 1, 1) := by decide +kernel
theorem dX8_expandStatement_39 : decode cX8_expandStatement 39 = .ok (.iconst 3, 1) := by decide +kernel
theorem dX8_expandStatement_40 : decode cX8_expandStatement 40 = .ok (.invokevirtual 120, 3) := by decide +kernel
theorem dX8_expandStatement_43 : decode cX8_expandStatement 43 = .ok (.aload_n 0, 1) := by decide +kernel
theorem dX8_expandStatement_44 : decode cX8_expandStatement 44 = .ok (.iload_n 1, 1) := by decide +kernel
theorem dX8_expandStatement_45 : decode cX8_expandStatement 45 = .ok (.iconst 2, 1) := by decide +kernel
theorem dX8_expandStatement_46 : decode cX8_expandStatement 46 = .ok (.invokevirtual 120, 3) := by decide +kernel
theorem dX8_expandStatement_49 : decode cX8_expandStatement 49 = .ok (.aload_n 0, 1) := by decide +kernel
theorem dX8_expandStatement_50 : decode cX8_expandStatement 50 = .ok (.iload_n 1, 1) := by decide +kernel
theorem dX8_expandStatement_51 : decode cX8_expandStatement 51 = .ok (.iconst 4, 1) := by decide +kernel
theorem dX8_expandStatement_52 : decode cX8_expandStatement 52 = .ok (.invokevirtual 120, 3) := by decide +kernel
theorem dX8_expandStatement_55 : decode cX8_expandStatement 55 = .ok (.goto 30, 3) := by decide +kernel
theorem dX8_expandStatement_58 : decode cX8_expandStatement 58 = .ok (.aload_n 0, 1) := by decide +kernel
theorem dX8_expandStatement_59 : decode cX8_expandStatement 59 = .ok (.iload_n 1, 1) := by decide +kernel
theorem dX8_expandStatement_60 : decode cX8_expandStatement 60 = .ok (.bipush 59, 2) := by decide +kernel
theorem dX8_expandStatement_62 : decode cX8_expandStatement 62 = .ok (.invokevirtual 120, 3) := by decide +kernel
theorem dX8_expandStatement_65 : decode cX8_expandStatement 65 = .ok (.aload_n 0, 1) := by decide +kernel
theorem dX8_expandStatement_66 : decode cX8_expandStatement 66 = .ok (.iload_n 1, 1) := by decide +kernel
theorem dX8_expandStatement_67 : decode cX8_expandStatement 67 = .ok (.iconst 4, 1) := by decide +kernel
theorem dX8_expandStatement_68 : decode cX8_expandStatement 68 = .ok (.invokevirtual 120, 3) := by decide +kernel
theorem dX8_expandStatement_71 : decode cX8_expandStatement 71 = .ok (.iload_n 2, 1) := by decide +kernel
theorem dX8_expandStatement_72 : decode cX8_expandStatement 72 = .ok (.invokestatic 114, 3) := by decide +kernel
theorem dX8_expandStatement_75 : decode cX8_expandStatement 75 = .ok (.ifCond .eq 10, 3) := by decide +kernel
theorem dX8_expandStatement_78 : decode cX8_expandStatement 78 = .ok (.aload_n 0, 1) := by decide +kernel
theorem dX8_expandStatement_79 : decode cX8_expandStatement 79 = .ok (.iload_n 1, 1) := by decide +kernel
theorem dX8_expandStatement_80 : decode cX8_expandStatement 80 = .ok (.bipush 61, 2) := by decide +kernel
theorem dX8_expandStatement_82 : decode cX8_expandStatement 82 = .ok (.invokevirtual 120, 3) := by decide +kernel
theorem dX8_expandStatement_85 : decode cX8_expandStatement 85 = .ok (.aload_n 0, 1) := by decide +kernel
theorem dX8_expandStatement_86 : decode cX8_expandStatement 86 = .ok (.iload_n 1, 1) := by decide +kernel
theorem dX8_expandStatement_87 : decode cX8_expandStatement 87 = .ok (.iload_n 2, 1) := by decide +kernel
theorem dX8_expandStatement_88 : decode cX8_expandStatement 88 = .ok (.invokevirtual 120, 3) := by decide +kernel
theorem dX8_expandStatement_91 : decode cX8_expandStatement 91 = .ok (.iconst 1, 1) := by decide +kernel
theorem dX8_expandStatement_92 : decode cX8_expandStatement 92 = .ok (.ireturn, 1) := by decide +kernel
theorem dX8_expandFactor_0 : decode cX8_expandFactor 0 = .ok (.iload_n 2, 1) := by decide +kernel
theorem dX8_expandFactor_1 : decode cX8_expandFactor 1 = .ok (.bipush 48, 2) := by decide +kernel
theorem dX8_expandFactor_3 : decode cX8_expandFactor 3 = .ok (.if_icmp .lt 9, 3) := by decide +kernel
theorem dX8_expandFactor_6 : decode cX8_expandFactor 6 = .ok (.iload_n 2, 1) := by decide +kernel
theorem dX8_expandFactor_7 : decode cX8_expandFactor 7 = .ok (.bipush 57, 2) := by decide +kernel
theorem dX8_expandFactor_9 : decode cX8_expandFactor 9 = .ok (.if_icmp .le 22, 3) := by decide +kernel
theorem dX8_expandFactor_12 : decode cX8_expandFactor 12 = .ok (.iload_n 2, 1) := by decide +kernel
theorem dX8_expandFactor_13 : decode cX8_expandFactor 13 = .ok (.invokestatic 114, 3) := by decide +kernel
theorem dX8_expandFactor_16 : decode cX8_expandFactor 16 = .ok (.ifCond .ne 15, 3) := by decide +kernel
theorem dX8_expandFactor_19 : decode cX8_expandFactor 19 = .ok (.iload_n 2, 1) := by decide +kernel
theorem dX8_expandFactor_20 : decode cX8_expandFactor 20 = .ok (.bipush 40, 2) := by decide +kernel
theorem dX8_expandFactor_22 : decode cX8_expandFactor 22 = .ok (.if_icmp .eq 9, 3) := by decide +kernel
theorem dX8_expandFactor_25 : decode cX8_expandFactor 25 = .ok (.iload_n 2, 1) := by decide +kernel
theorem dX8_expandFactor_26 : decode cX8_expandFactor 26 = .ok (.bipush 45, 2) := by decide +kernel
theorem dX8_expandFactor_28 : decode cX8_expandFactor 28 = .ok (.if_icmp .ne 7, 3) := by decide +kernel
theorem dX8_expandFactor_31 : decode cX8_expandFactor 31 = .ok (.iconst 1, 1) := by decide +kernel
theorem dX8_expandFactor_32 : decode cX8_expandFactor 32 = .ok (.goto 4, 3) := by decide +kernel
theorem dX8_expandFactor_35 : decode cX8_expandFactor 35 = .ok (.iconst 0, 1) := by decide +kernel
theorem dX8_expandFactor_36 : decode cX8_expandFactor 36 = .ok (.istore_n 3, 1) := by decide +kernel
theorem dX8_expandFactor_37 : decode cX8_expandFactor 37 = .ok (.iload_n 2, 1) := by decide +kernel
theorem dX8_expandFactor_38 : decode cX8_expandFactor 38 = .ok (.bipush 40, 2) := by decide +kernel
theorem dX8_expandFactor_40 : decode cX8_expandFactor 40 = .ok (.if_icmp .ne 16, 3) := by decide +kernel
theorem dX8_expandFactor_43 : decode cX8_expandFactor 43 = .ok (.aload_n 0, 1) := by decide +kernel
theorem dX8_expandFactor_44 : decode cX8_expandFactor 44 = .ok (.iload_n 1, 1) := by decide +kernel
theorem dX8_expandFactor_45 : decode cX8_expandFactor 45 = .ok (.bipush 41, 2) := by decide +kernel
theorem dX8_expandFactor_47 : decode cX8_expandFactor 47 = .ok (.invokevirtual 120, 3) := by decide +kernel
theorem dX8_expandFactor_50 : decode cX8_expandFactor 50 = .ok (.aload_n 0, 1) := by decide +kernel
theorem dX8_expandFactor_51 : decode cX8_expandFactor 51 = .ok (.iload_n 1, 1) := by decide +kernel
theorem dX8_expandFactor_52 : decode cX8_expandFactor 52 = .ok (.iconst 4, 1) := by decide +kernel
theorem dX8_expandFactor_53 : decode cX8_expandFactor 53 = .ok (.invokevirtual 120, 3) := by decide +kernel
theorem dX8_expandFactor_56 : decode cX8_expandFactor 56 = .ok (.iload_n 2, 1) := by decide +kernel
theorem dX8_expandFactor_57 : decode cX8_expandFactor 57 = .ok (.bipush 45, 2) := by decide +kernel
theorem dX8_expandFactor_59 : decode cX8_expandFactor 59 = .ok (.if_icmp .ne 10, 3) := by decide +kernel
theorem dX8_expandFactor_62 : decode cX8_expandFactor 62 = .ok (.aload_n 0, 1) := by decide +kernel
theorem dX8_expandFactor_63 : decode cX8_expandFactor 63 = .ok (.iload_n 1, 1) := by decide +kernel
theorem dX8_expandFactor_64 : decode cX8_expandFactor 64 = .ok (.bipush 8, 2) := by decide +kernel
theorem dX8_expandFactor_66 : decode cX8_expandFactor 66 = .ok (.invokevirtual 120, 3) := by decide +kernel
theorem dX8_expandFactor_69 : decode cX8_expandFactor 69 = .ok (.aload_n 0, 1) := by decide +kernel
theorem dX8_expandFactor_70 : decode cX8_expandFactor 70 = .ok (.iload_n 1, 1) := by decide +kernel
theorem dX8_expandFactor_71 : decode cX8_expandFactor 71 = .ok (.iload_n 2, 1) := by decide +kernel
theorem dX8_expandFactor_72 : decode cX8_expandFactor 72 = .ok (.invokevirtual 120, 3) := by decide +kernel
theorem dX8_expandFactor_75 : decode cX8_expandFactor 75 = .ok (.iload_n 3, 1) := by decide +kernel
theorem dX8_expandFactor_76 : decode cX8_expandFactor 76 = .ok (.ireturn, 1) := by decide +kernel
theorem dX8_readOne_0 : decode cX8_readOne 0 = .ok (.aload_n 0, 1) := by decide +kernel
theorem dX8_readOne_1 : decode cX8_readOne 1 = .ok (.getfield 22, 3) := by decide +kernel
theorem dX8_readOne_4 : decode cX8_readOne 4 = .ok (.iload_n 1, 1) := by decide +kernel
theorem dX8_readOne_5 : decode cX8_readOne 5 = .ok (.iaload, 1) := by decide +kernel
theorem dX8_readOne_6 : decode cX8_readOne 6 = .ok (.ifCond .le 38, 3) := by decide +kernel
theorem dX8_readOne_9 : decode cX8_readOne 9 = .ok (.aload_n 0, 1) := by decide +kernel
theorem dX8_readOne_10 : decode cX8_readOne 10 = .ok (.getfield 19, 3) := by decide +kernel
theorem dX8_readOne_13 : decode cX8_readOne 13 = .ok (.sipush 400, 3) := by decide +kernel
theorem dX8_readOne_16 : decode cX8_readOne 16 = .ok (.iload_n 1, 1) := by decide +kernel
theorem dX8_readOne_17 : decode cX8_readOne 17 = .ok (.imul, 1) := by decide +kernel
theorem dX8_readOne_18 : decode cX8_readOne 18 = .ok (.aload_n 0, 1) := by decide +kernel
theorem dX8_readOne_19 : decode cX8_readOne 19 = .ok (.getfield 22, 3) := by decide +kernel
theorem dX8_readOne_22 : decode cX8_readOne 22 = .ok (.iload_n 1, 1) := by decide +kernel
theorem dX8_readOne_23 : decode cX8_readOne 23 = .ok (.iaload, 1) := by decide +kernel
theorem dX8_readOne_24 : decode cX8_readOne 24 = .ok (.iadd, 1) := by decide +kernel
theorem dX8_readOne_25 : decode cX8_readOne 25 = .ok (.iconst 1, 1) := by decide +kernel
theorem dX8_readOne_26 : decode cX8_readOne 26 = .ok (.isub, 1) := by decide +kernel
theorem dX8_readOne_27 : decode cX8_readOne 27 = .ok (.iaload, 1) := by decide +kernel
theorem dX8_readOne_28 : decode cX8_readOne 28 = .ok (.bipush 8, 2) := by decide +kernel
theorem dX8_readOne_30 : decode cX8_readOne 30 = .ok (.if_icmp .gt 14, 3) := by decide +kernel
theorem dX8_readOne_33 : decode cX8_readOne 33 = .ok (.aload_n 0, 1) := by decide +kernel
theorem dX8_readOne_34 : decode cX8_readOne 34 = .ok (.iload_n 1, 1) := by decide +kernel
theorem dX8_readOne_35 : decode cX8_readOne 35 = .ok (.iload_n 2, 1) := by decide +kernel
theorem dX8_readOne_36 : decode cX8_readOne 36 = .ok (.invokevirtual 130, 3) := by decide +kernel
theorem dX8_readOne_39 : decode cX8_readOne 39 = .ok (.ifCond .ne (-39), 3) := by decide +kernel
theorem dX8_readOne_42 : decode cX8_readOne 42 = .ok (.iconst 0, 1) := by decide +kernel
theorem dX8_readOne_43 : decode cX8_readOne 43 = .ok (.ireturn, 1) := by decide +kernel
theorem dX8_readOne_44 : decode cX8_readOne 44 = .ok (.iload_n 2, 1) := by decide +kernel
theorem dX8_readOne_45 : decode cX8_readOne 45 = .ok (.ifCond .ne 18, 3) := by decide +kernel
theorem dX8_readOne_48 : decode cX8_readOne 48 = .ok (.aload_n 0, 1) := by decide +kernel
theorem dX8_readOne_49 : decode cX8_readOne 49 = .ok (.getfield 22, 3) := by decide +kernel
theorem dX8_readOne_52 : decode cX8_readOne 52 = .ok (.iload_n 1, 1) := by decide +kernel
theorem dX8_readOne_53 : decode cX8_readOne 53 = .ok (.iaload, 1) := by decide +kernel
theorem dX8_readOne_54 : decode cX8_readOne 54 = .ok (.ifCond .ne 7, 3) := by decide +kernel
theorem dX8_readOne_57 : decode cX8_readOne 57 = .ok (.iconst 1, 1) := by decide +kernel
theorem dX8_readOne_58 : decode cX8_readOne 58 = .ok (.goto 4, 3) := by decide +kernel
theorem dX8_readOne_61 : decode cX8_readOne 61 = .ok (.iconst 0, 1) := by decide +kernel
theorem dX8_readOne_62 : decode cX8_readOne 62 = .ok (.ireturn, 1) := by decide +kernel
theorem dX8_readOne_63 : decode cX8_readOne 63 = .ok (.aload_n 0, 1) := by decide +kernel
theorem dX8_readOne_64 : decode cX8_readOne 64 = .ok (.getfield 22, 3) := by decide +kernel
theorem dX8_readOne_67 : decode cX8_readOne 67 = .ok (.iload_n 1, 1) := by decide +kernel
theorem dX8_readOne_68 : decode cX8_readOne 68 = .ok (.iaload, 1) := by decide +kernel
theorem dX8_readOne_69 : decode cX8_readOne 69 = .ok (.ifCond .eq 26, 3) := by decide +kernel
theorem dX8_readOne_72 : decode cX8_readOne 72 = .ok (.aload_n 0, 1) := by decide +kernel
theorem dX8_readOne_73 : decode cX8_readOne 73 = .ok (.getfield 19, 3) := by decide +kernel
theorem dX8_readOne_76 : decode cX8_readOne 76 = .ok (.sipush 400, 3) := by decide +kernel
theorem dX8_readOne_79 : decode cX8_readOne 79 = .ok (.iload_n 1, 1) := by decide +kernel
theorem dX8_readOne_80 : decode cX8_readOne 80 = .ok (.imul, 1) := by decide +kernel
theorem dX8_readOne_81 : decode cX8_readOne 81 = .ok (.aload_n 0, 1) := by decide +kernel
theorem dX8_readOne_82 : decode cX8_readOne 82 = .ok (.getfield 22, 3) := by decide +kernel
theorem dX8_readOne_85 : decode cX8_readOne 85 = .ok (.iload_n 1, 1) := by decide +kernel
theorem dX8_readOne_86 : decode cX8_readOne 86 = .ok (.iaload, 1) := by decide +kernel
theorem dX8_readOne_87 : decode cX8_readOne 87 = .ok (.iadd, 1) := by decide +kernel
theorem dX8_readOne_88 : decode cX8_readOne 88 = .ok (.iconst 1, 1) := by decide +kernel
theorem dX8_readOne_89 : decode cX8_readOne 89 = .ok (.isub, 1) := by decide +kernel
theorem dX8_readOne_90 : decode cX8_readOne 90 = .ok (.iaload, 1) := by decide +kernel
theorem dX8_readOne_91 : decode cX8_readOne 91 = .ok (.iload_n 2, 1) := by decide +kernel
theorem dX8_readOne_92 : decode cX8_readOne 92 = .ok (.if_icmp .eq 5, 3) := by decide +kernel
theorem dX8_readOne_95 : decode cX8_readOne 95 = .ok (.iconst 0, 1) := by decide +kernel
theorem dX8_readOne_96 : decode cX8_readOne 96 = .ok (.ireturn, 1) := by decide +kernel
theorem dX8_readOne_97 : decode cX8_readOne 97 = .ok (.aload_n 0, 1) := by decide +kernel
theorem dX8_readOne_98 : decode cX8_readOne 98 = .ok (.getfield 22, 3) := by decide +kernel
theorem dX8_readOne_101 : decode cX8_readOne 101 = .ok (.iload_n 1, 1) := by decide +kernel
theorem dX8_readOne_102 : decode cX8_readOne 102 = .ok (.dup2, 1) := by decide +kernel
theorem dX8_readOne_103 : decode cX8_readOne 103 = .ok (.iaload, 1) := by decide +kernel
theorem dX8_readOne_104 : decode cX8_readOne 104 = .ok (.iconst 1, 1) := by decide +kernel
theorem dX8_readOne_105 : decode cX8_readOne 105 = .ok (.isub, 1) := by decide +kernel
theorem dX8_readOne_106 : decode cX8_readOne 106 = .ok (.iastore, 1) := by decide +kernel
theorem dX8_readOne_107 : decode cX8_readOne 107 = .ok (.iconst 1, 1) := by decide +kernel
theorem dX8_readOne_108 : decode cX8_readOne 108 = .ok (.ireturn, 1) := by decide +kernel
theorem dX8_areLike_0 : decode cX8_areLike 0 = .ok (.aload_n 0, 1) := by decide +kernel
theorem dX8_areLike_1 : decode cX8_areLike 1 = .ok (.getfield 22, 3) := by decide +kernel
theorem dX8_areLike_4 : decode cX8_areLike 4 = .ok (.iload_n 1, 1) := by decide +kernel
theorem dX8_areLike_5 : decode cX8_areLike 5 = .ok (.iaload, 1) := by decide +kernel
theorem dX8_areLike_6 : decode cX8_areLike 6 = .ok (.aload_n 0, 1) := by decide +kernel
theorem dX8_areLike_7 : decode cX8_areLike 7 = .ok (.getfield 22, 3) := by decide +kernel
theorem dX8_areLike_10 : decode cX8_areLike 10 = .ok (.iload_n 2, 1) := by decide +kernel
theorem dX8_areLike_11 : decode cX8_areLike 11 = .ok (.iaload, 1) := by decide +kernel
theorem dX8_areLike_12 : decode cX8_areLike 12 = .ok (.if_icmp .ne 7, 3) := by decide +kernel
theorem dX8_areLike_15 : decode cX8_areLike 15 = .ok (.iconst 1, 1) := by decide +kernel
theorem dX8_areLike_16 : decode cX8_areLike 16 = .ok (.goto 4, 3) := by decide +kernel
theorem dX8_areLike_19 : decode cX8_areLike 19 = .ok (.iconst 0, 1) := by decide +kernel
theorem dX8_areLike_20 : decode cX8_areLike 20 = .ok (.istore_n 3, 1) := by decide +kernel
theorem dX8_areLike_21 : decode cX8_areLike 21 = .ok (.iconst 0, 1) := by decide +kernel
theorem dX8_areLike_22 : decode cX8_areLike 22 = .ok (.istore 4, 2) := by decide +kernel
theorem dX8_areLike_24 : decode cX8_areLike 24 = .ok (.iload 4, 2) := by decide +kernel
theorem dX8_areLike_26 : decode cX8_areLike 26 = .ok (.aload_n 0, 1) := by decide +kernel
theorem dX8_areLike_27 : decode cX8_areLike 27 = .ok (.getfield 22, 3) := by decide +kernel
theorem dX8_areLike_30 : decode cX8_areLike 30 = .ok (.iload_n 1, 1) := by decide +kernel
theorem dX8_areLike_31 : decode cX8_areLike 31 = .ok (.iaload, 1) := by decide +kernel
theorem dX8_areLike_32 : decode cX8_areLike 32 = .ok (.if_icmp .ge 48, 3) := by decide +kernel
theorem dX8_areLike_35 : decode cX8_areLike 35 = .ok (.iload_n 3, 1) := by decide +kernel
theorem dX8_areLike_36 : decode cX8_areLike 36 = .ok (.ifCond .eq 44, 3) := by decide +kernel
theorem dX8_areLike_39 : decode cX8_areLike 39 = .ok (.aload_n 0, 1) := by decide +kernel
theorem dX8_areLike_40 : decode cX8_areLike 40 = .ok (.getfield 19, 3) := by decide +kernel
theorem dX8_areLike_43 : decode cX8_areLike 43 = .ok (.sipush 400, 3) := by decide +kernel
theorem dX8_areLike_46 : decode cX8_areLike 46 = .ok (.iload_n 1, 1) := by decide +kernel
theorem dX8_areLike_47 : decode cX8_areLike 47 = .ok (.imul, 1) := by decide +kernel
theorem dX8_areLike_48 : decode cX8_areLike 48 = .ok (.iload 4, 2) := by decide +kernel
theorem dX8_areLike_50 : decode cX8_areLike 50 = .ok (.iadd, 1) := by decide +kernel
theorem dX8_areLike_51 : decode cX8_areLike 51 = .ok (.iaload, 1) := by decide +kernel
theorem dX8_areLike_52 : decode cX8_areLike 52 = .ok (.aload_n 0, 1) := by decide +kernel
theorem dX8_areLike_53 : decode cX8_areLike 53 = .ok (.getfield 19, 3) := by decide +kernel
theorem dX8_areLike_56 : decode cX8_areLike 56 = .ok (.sipush 400, 3) := by decide +kernel
theorem dX8_areLike_59 : decode cX8_areLike 59 = .ok (.iload_n 2, 1) := by decide +kernel
theorem dX8_areLike_60 : decode cX8_areLike 60 = .ok (.imul, 1) := by decide +kernel
theorem dX8_areLike_61 : decode cX8_areLike 61 = .ok (.iload 4, 2) := by decide +kernel
theorem dX8_areLike_63 : decode cX8_areLike 63 = .ok (.iadd, 1) := by decide +kernel
theorem dX8_areLike_64 : decode cX8_areLike 64 = .ok (.iaload, 1) := by decide +kernel
theorem dX8_areLike_65 : decode cX8_areLike 65 = .ok (.if_icmp .ne 7, 3) := by decide +kernel
theorem dX8_areLike_68 : decode cX8_areLike 68 = .ok (.iconst 1, 1) := by decide +kernel
theorem dX8_areLike_69 : decode cX8_areLike 69 = .ok (.goto 4, 3) := by decide +kernel
theorem dX8_areLike_72 : decode cX8_areLike 72 = .ok (.iconst 0, 1) := by decide +kernel
theorem dX8_areLike_73 : decode cX8_areLike 73 = .ok (.istore_n 3, 1) := by decide +kernel
theorem dX8_areLike_74 : decode cX8_areLike 74 = .ok (.iinc 4 1, 3) := by decide +kernel
theorem dX8_areLike_77 : decode cX8_areLike 77 = .ok (.goto (-53), 3) := by decide +kernel
theorem dX8_areLike_80 : decode cX8_areLike 80 = .ok (.iload_n 3, 1) := by decide +kernel
theorem dX8_areLike_81 : decode cX8_areLike 81 = .ok (.ireturn, 1) := by decide +kernel
theorem dX8_countGroups_0 : decode cX8_countGroups 0 = .ok (.iconst 0, 1) := by decide +kernel
theorem dX8_countGroups_1 : decode cX8_countGroups 1 = .ok (.istore_n 2, 1) := by decide +kernel
theorem dX8_countGroups_2 : decode cX8_countGroups 2 = .ok (.iconst 0, 1) := by decide +kernel
theorem dX8_countGroups_3 : decode cX8_countGroups 3 = .ok (.istore_n 3, 1) := by decide +kernel
theorem dX8_countGroups_4 : decode cX8_countGroups 4 = .ok (.iload_n 3, 1) := by decide +kernel
theorem dX8_countGroups_5 : decode cX8_countGroups 5 = .ok (.bipush 16, 2) := by decide +kernel
theorem dX8_countGroups_7 : decode cX8_countGroups 7 = .ok (.if_icmp .ge 75, 3) := by decide +kernel
theorem dX8_countGroups_10 : decode cX8_countGroups 10 = .ok (.iload_n 1, 1) := by decide +kernel
theorem dX8_countGroups_11 : decode cX8_countGroups 11 = .ok (.iload_n 3, 1) := by decide +kernel
theorem dX8_countGroups_12 : decode cX8_countGroups 12 = .ok (.invokestatic 93, 3) := by decide +kernel
theorem dX8_countGroups_15 : decode cX8_countGroups 15 = .ok (.istore 4, 2) := by decide +kernel
theorem dX8_countGroups_17 : decode cX8_countGroups 17 = .ok (.iconst 0, 1) := by decide +kernel
theorem dX8_countGroups_18 : decode cX8_countGroups 18 = .ok (.istore 5, 2) := by decide +kernel
theorem dX8_countGroups_20 : decode cX8_countGroups 20 = .ok (.iload 5, 2) := by decide +kernel
theorem dX8_countGroups_22 : decode cX8_countGroups 22 = .ok (.iload_n 3, 1) := by decide +kernel
theorem dX8_countGroups_23 : decode cX8_countGroups 23 = .ok (.if_icmp .ge 40, 3) := by decide +kernel
theorem dX8_countGroups_26 : decode cX8_countGroups 26 = .ok (.iload 4, 2) := by decide +kernel
theorem dX8_countGroups_28 : decode cX8_countGroups 28 = .ok (.ifCond .eq 35, 3) := by decide +kernel
theorem dX8_countGroups_31 : decode cX8_countGroups 31 = .ok (.iload_n 1, 1) := by decide +kernel
theorem dX8_countGroups_32 : decode cX8_countGroups 32 = .ok (.iload 5, 2) := by decide +kernel
theorem dX8_countGroups_34 : decode cX8_countGroups 34 = .ok (.invokestatic 93, 3) := by decide +kernel
theorem dX8_countGroups_37 : decode cX8_countGroups 37 = .ok (.ifCond .eq 13, 3) := by decide +kernel
theorem dX8_countGroups_40 : decode cX8_countGroups 40 = .ok (.aload_n 0, 1) := by decide +kernel
theorem dX8_countGroups_41 : decode cX8_countGroups 41 = .ok (.iload 5, 2) := by decide +kernel
theorem dX8_countGroups_43 : decode cX8_countGroups 43 = .ok (.iload_n 3, 1) := by decide +kernel
theorem dX8_countGroups_44 : decode cX8_countGroups 44 = .ok (.invokevirtual 133, 3) := by decide +kernel
theorem dX8_countGroups_47 : decode cX8_countGroups 47 = .ok (.ifCond .ne 7, 3) := by decide +kernel
theorem dX8_countGroups_50 : decode cX8_countGroups 50 = .ok (.iconst 1, 1) := by decide +kernel
theorem dX8_countGroups_51 : decode cX8_countGroups 51 = .ok (.goto 4, 3) := by decide +kernel
theorem dX8_countGroups_54 : decode cX8_countGroups 54 = .ok (.iconst 0, 1) := by decide +kernel
theorem dX8_countGroups_55 : decode cX8_countGroups 55 = .ok (.istore 4, 2) := by decide +kernel
theorem dX8_countGroups_57 : decode cX8_countGroups 57 = .ok (.iinc 5 1, 3) := by decide +kernel
theorem dX8_countGroups_60 : decode cX8_countGroups 60 = .ok (.goto (-40), 3) := by decide +kernel
theorem dX8_countGroups_63 : decode cX8_countGroups 63 = .ok (.iload_n 2, 1) := by decide +kernel
theorem dX8_countGroups_64 : decode cX8_countGroups 64 = .ok (.iload 4, 2) := by decide +kernel
theorem dX8_countGroups_66 : decode cX8_countGroups 66 = .ok (.ifCond .eq 7, 3) := by decide +kernel
theorem dX8_countGroups_69 : decode cX8_countGroups 69 = .ok (.iconst 1, 1) := by decide +kernel
theorem dX8_countGroups_70 : decode cX8_countGroups 70 = .ok (.goto 4, 3) := by decide +kernel
theorem dX8_countGroups_73 : decode cX8_countGroups 73 = .ok (.iconst 0, 1) := by decide +kernel
theorem dX8_countGroups_74 : decode cX8_countGroups 74 = .ok (.iadd, 1) := by decide +kernel
theorem dX8_countGroups_75 : decode cX8_countGroups 75 = .ok (.istore_n 2, 1) := by decide +kernel
theorem dX8_countGroups_76 : decode cX8_countGroups 76 = .ok (.iinc 3 1, 3) := by decide +kernel
theorem dX8_countGroups_79 : decode cX8_countGroups 79 = .ok (.goto (-75), 3) := by decide +kernel
theorem dX8_countGroups_82 : decode cX8_countGroups 82 = .ok (.iload_n 2, 1) := by decide +kernel
theorem dX8_countGroups_83 : decode cX8_countGroups 83 = .ok (.ireturn, 1) := by decide +kernel
theorem dX8_read_0 : decode cX8_read 0 = .ok (.aload_n 0, 1) := by decide +kernel
theorem dX8_read_1 : decode cX8_read 1 = .ok (.invokevirtual 98, 3) := by decide +kernel
theorem dX8_read_4 : decode cX8_read 4 = .ok (.iconst 0, 1) := by decide +kernel
theorem dX8_read_5 : decode cX8_read 5 = .ok (.istore_n 1, 1) := by decide +kernel
theorem dX8_read_6 : decode cX8_read 6 = .ok (.iload_n 1, 1) := by decide +kernel
theorem dX8_read_7 : decode cX8_read 7 = .ok (.bipush 16, 2) := by decide +kernel
theorem dX8_read_9 : decode cX8_read 9 = .ok (.if_icmp .ge 29, 3) := by decide +kernel
theorem dX8_read_12 : decode cX8_read 12 = .ok (.aload_n 0, 1) := by decide +kernel
theorem dX8_read_13 : decode cX8_read 13 = .ok (.getfield 25, 3) := by decide +kernel
theorem dX8_read_16 : decode cX8_read 16 = .ok (.iload_n 1, 1) := by decide +kernel
theorem dX8_read_17 : decode cX8_read 17 = .ok (.iconst (-1), 1) := by decide +kernel
theorem dX8_read_18 : decode cX8_read 18 = .ok (.iastore, 1) := by decide +kernel
theorem dX8_read_19 : decode cX8_read 19 = .ok (.aload_n 0, 1) := by decide +kernel
theorem dX8_read_20 : decode cX8_read 20 = .ok (.getfield 22, 3) := by decide +kernel
theorem dX8_read_23 : decode cX8_read 23 = .ok (.iload_n 1, 1) := by decide +kernel
theorem dX8_read_24 : decode cX8_read 24 = .ok (.iconst 0, 1) := by decide +kernel
theorem dX8_read_25 : decode cX8_read 25 = .ok (.iastore, 1) := by decide +kernel
theorem dX8_read_26 : decode cX8_read 26 = .ok (.aload_n 0, 1) := by decide +kernel
theorem dX8_read_27 : decode cX8_read 27 = .ok (.iload_n 1, 1) := by decide +kernel
theorem dX8_read_28 : decode cX8_read 28 = .ok (.iconst 1, 1) := by decide +kernel
theorem dX8_read_29 : decode cX8_read 29 = .ok (.invokevirtual 120, 3) := by decide +kernel
theorem dX8_read_32 : decode cX8_read 32 = .ok (.iinc 1 1, 3) := by decide +kernel
theorem dX8_read_35 : decode cX8_read 35 = .ok (.goto (-29), 3) := by decide +kernel
theorem dX8_read_38 : decode cX8_read 38 = .ok (.ldc 97, 2) := by decide +kernel
theorem dX8_read_40 : decode cX8_read 40 = .ok (.istore_n 1, 1) := by decide +kernel
theorem dX8_read_41 : decode cX8_read 41 = .ok (.iconst 0, 1) := by decide +kernel
theorem dX8_read_42 : decode cX8_read 42 = .ok (.istore_n 2, 1) := by decide +kernel
theorem dX8_read_43 : decode cX8_read 43 = .ok (.iload_n 2, 1) := by decide +kernel
theorem dX8_read_44 : decode cX8_read 44 = .ok (.aload_n 0, 1) := by decide +kernel
theorem dX8_read_45 : decode cX8_read 45 = .ok (.getfield 47, 3) := by decide +kernel
theorem dX8_read_48 : decode cX8_read 48 = .ok (.if_icmp .ge 133, 3) := by decide +kernel
theorem dX8_read_51 : decode cX8_read 51 = .ok (.aload_n 0, 1) := by decide +kernel
theorem dX8_read_52 : decode cX8_read 52 = .ok (.iload_n 2, 1) := by decide +kernel
theorem dX8_read_53 : decode cX8_read 53 = .ok (.invokevirtual 90, 3) := by decide +kernel
theorem dX8_read_56 : decode cX8_read 56 = .ok (.ifCond .eq 14, 3) := by decide +kernel
theorem dX8_read_59 : decode cX8_read 59 = .ok (.aload_n 0, 1) := by decide +kernel
theorem dX8_read_60 : decode cX8_read 60 = .ok (.getfield 13, 3) := by decide +kernel
theorem dX8_read_63 : decode cX8_read 63 = .ok (.iload_n 2, 1) := by decide +kernel
theorem dX8_read_64 : decode cX8_read 64 = .ok (.iaload, 1) := by decide +kernel
theorem dX8_read_65 : decode cX8_read 65 = .ok (.iload_n 1, 1) := by decide +kernel
theorem dX8_read_66 : decode cX8_read 66 = .ok (.iand, 1) := by decide +kernel
theorem dX8_read_67 : decode cX8_read 67 = .ok (.goto 4, 3) := by decide +kernel
theorem dX8_read_70 : decode cX8_read 70 = .ok (.iconst 0, 1) := by decide +kernel
theorem dX8_read_71 : decode cX8_read 71 = .ok (.istore_n 3, 1) := by decide +kernel
theorem dX8_read_72 : decode cX8_read 72 = .ok (.aload_n 0, 1) := by decide +kernel
theorem dX8_read_73 : decode cX8_read 73 = .ok (.getfield 28, 3) := by decide +kernel
theorem dX8_read_76 : decode cX8_read 76 = .ok (.iload_n 2, 1) := by decide +kernel
theorem dX8_read_77 : decode cX8_read 77 = .ok (.aload_n 0, 1) := by decide +kernel
theorem dX8_read_78 : decode cX8_read 78 = .ok (.iload_n 3, 1) := by decide +kernel
theorem dX8_read_79 : decode cX8_read 79 = .ok (.invokevirtual 136, 3) := by decide +kernel
theorem dX8_read_82 : decode cX8_read 82 = .ok (.iastore, 1) := by decide +kernel
theorem dX8_read_83 : decode cX8_read 83 = .ok (.iconst 0, 1) := by decide +kernel
theorem dX8_read_84 : decode cX8_read 84 = .ok (.istore 4, 2) := by decide +kernel
theorem dX8_read_86 : decode cX8_read 86 = .ok (.iload 4, 2) := by decide +kernel
theorem dX8_read_88 : decode cX8_read 88 = .ok (.bipush 16, 2) := by decide +kernel
theorem dX8_read_90 : decode cX8_read 90 = .ok (.if_icmp .ge 85, 3) := by decide +kernel
theorem dX8_read_93 : decode cX8_read 93 = .ok (.aload_n 0, 1) := by decide +kernel
theorem dX8_read_94 : decode cX8_read 94 = .ok (.getfield 31, 3) := by decide +kernel
theorem dX8_read_97 : decode cX8_read 97 = .ok (.bipush 80, 2) := by decide +kernel
theorem dX8_read_99 : decode cX8_read 99 = .ok (.iload 4, 2) := by decide +kernel
theorem dX8_read_101 : decode cX8_read 101 = .ok (.imul, 1) := by decide +kernel
theorem dX8_read_102 : decode cX8_read 102 = .ok (.iload_n 2, 1) := by decide +kernel
theorem dX8_read_103 : decode cX8_read 103 = .ok (.iadd, 1) := by decide +kernel
theorem dX8_read_104 : decode cX8_read 104 = .ok (.iload_n 1, 1) := by decide +kernel
theorem dX8_read_105 : decode cX8_read 105 = .ok (.iload 4, 2) := by decide +kernel
theorem dX8_read_107 : decode cX8_read 107 = .ok (.invokestatic 93, 3) := by decide +kernel
theorem dX8_read_110 : decode cX8_read 110 = .ok (.ifCond .eq 13, 3) := by decide +kernel
theorem dX8_read_113 : decode cX8_read 113 = .ok (.aload_n 0, 1) := by decide +kernel
theorem dX8_read_114 : decode cX8_read 114 = .ok (.getfield 22, 3) := by decide +kernel
theorem dX8_read_117 : decode cX8_read 117 = .ok (.iload 4, 2) := by decide +kernel
theorem dX8_read_119 : decode cX8_read 119 = .ok (.iaload, 1) := by decide +kernel
theorem dX8_read_120 : decode cX8_read 120 = .ok (.goto 4, 3) := by decide +kernel
theorem dX8_read_123 : decode cX8_read 123 = .ok (.iconst (-1), 1) := by decide +kernel
theorem dX8_read_124 : decode cX8_read 124 = .ok (.iastore, 1) := by decide +kernel
theorem dX8_read_125 : decode cX8_read 125 = .ok (.iload_n 3, 1) := by decide +kernel
theorem dX8_read_126 : decode cX8_read 126 = .ok (.iload 4, 2) := by decide +kernel
theorem dX8_read_128 : decode cX8_read 128 = .ok (.invokestatic 93, 3) := by decide +kernel
theorem dX8_read_131 : decode cX8_read 131 = .ok (.ifCond .eq 38, 3) := by decide +kernel
theorem dX8_read_134 : decode cX8_read 134 = .ok (.aload_n 0, 1) := by decide +kernel
theorem dX8_read_135 : decode cX8_read 135 = .ok (.iload 4, 2) := by decide +kernel
theorem dX8_read_137 : decode cX8_read 137 = .ok (.aload_n 0, 1) := by decide +kernel
theorem dX8_read_138 : decode cX8_read 138 = .ok (.getfield 9, 3) := by decide +kernel
theorem dX8_read_141 : decode cX8_read 141 = .ok (.iload_n 2, 1) := by decide +kernel
theorem dX8_read_142 : decode cX8_read 142 = .ok (.iaload, 1) := by decide +kernel
theorem dX8_read_143 : decode cX8_read 143 = .ok (.invokevirtual 139, 3) := by decide +kernel
theorem dX8_read_146 : decode cX8_read 146 = .ok (.ifCond .eq 6, 3) := by decide +kernel
theorem dX8_read_149 : decode cX8_read 149 = .ok (.goto 20, 3) := by decide +kernel
theorem dX8_read_152 : decode cX8_read 152 = .ok (.aload_n 0, 1) := by decide +kernel
theorem dX8_read_153 : decode cX8_read 153 = .ok (.getfield 25, 3) := by decide +kernel
theorem dX8_read_156 : decode cX8_read 156 = .ok (.iload 4, 2) := by decide +kernel
theorem dX8_read_158 : decode cX8_read 158 = .ok (.iload_n 2, 1) := by decide +kernel
theorem dX8_read_159 : decode cX8_read 159 = .ok (.iastore, 1) := by decide +kernel
theorem dX8_read_160 : decode cX8_read 160 = .ok (.iload_n 1, 1) := by decide +kernel
theorem dX8_read_161 : decode cX8_read 161 = .ok (.iconst 1, 1) := by decide +kernel
theorem dX8_read_162 : decode cX8_read 162 = .ok (.iload 4, 2) := by decide +kernel
theorem dX8_read_164 : decode cX8_read 164 = .ok (.ishl, 1) := by decide +kernel
theorem dX8_read_165 : decode cX8_read 165 = .ok (.iconst (-1), 1) := by decide +kernel
theorem dX8_read_166 : decode cX8_read 166 = .ok (.ixor, 1) := by decide +kernel
theorem dX8_read_167 : decode cX8_read 167 = .ok (.iand, 1) := by decide +kernel
theorem dX8_read_168 : decode cX8_read 168 = .ok (.istore_n 1, 1) := by decide +kernel
theorem dX8_read_169 : decode cX8_read 169 = .ok (.iinc 4 1, 3) := by decide +kernel
theorem dX8_read_172 : decode cX8_read 172 = .ok (.goto (-86), 3) := by decide +kernel
theorem dX8_read_175 : decode cX8_read 175 = .ok (.iinc 2 1, 3) := by decide +kernel
theorem dX8_read_178 : decode cX8_read 178 = .ok (.goto (-135), 3) := by decide +kernel
theorem dX8_read_181 : decode cX8_read 181 = .ok (.iconst 0, 1) := by decide +kernel
theorem dX8_read_182 : decode cX8_read 182 = .ok (.istore_n 2, 1) := by decide +kernel
theorem dX8_read_183 : decode cX8_read 183 = .ok (.iload_n 2, 1) := by decide +kernel
theorem dX8_read_184 : decode cX8_read 184 = .ok (.bipush 16, 2) := by decide +kernel
theorem dX8_read_186 : decode cX8_read 186 = .ok (.if_icmp .ge 36, 3) := by decide +kernel
theorem dX8_read_189 : decode cX8_read 189 = .ok (.iload_n 1, 1) := by decide +kernel
theorem dX8_read_190 : decode cX8_read 190 = .ok (.iload_n 2, 1) := by decide +kernel
theorem dX8_read_191 : decode cX8_read 191 = .ok (.invokestatic 93, 3) := by decide +kernel
theorem dX8_read_194 : decode cX8_read 194 = .ok (.ifCond .eq 22, 3) := by decide +kernel
theorem dX8_read_197 : decode cX8_read 197 = .ok (.aload_n 0, 1) := by decide +kernel
theorem dX8_read_198 : decode cX8_read 198 = .ok (.iload_n 2, 1) := by decide +kernel
theorem dX8_read_199 : decode cX8_read 199 = .ok (.iconst 0, 1) := by decide +kernel
theorem dX8_read_200 : decode cX8_read 200 = .ok (.invokevirtual 139, 3) := by decide +kernel
theorem dX8_read_203 : decode cX8_read 203 = .ok (.ifCond .ne 13, 3) := by decide +kernel
theorem dX8_read_206 : decode cX8_read 206 = .ok (.aload_n 0, 1) := by decide +kernel
theorem dX8_read_207 : decode cX8_read 207 = .ok (.getfield 25, 3) := by decide +kernel
theorem dX8_read_210 : decode cX8_read 210 = .ok (.iload_n 2, 1) := by decide +kernel
theorem dX8_read_211 : decode cX8_read 211 = .ok (.aload_n 0, 1) := by decide +kernel
theorem dX8_read_212 : decode cX8_read 212 = .ok (.getfield 47, 3) := by decide +kernel
theorem dX8_read_215 : decode cX8_read 215 = .ok (.iastore, 1) := by decide +kernel
theorem dX8_read_216 : decode cX8_read 216 = .ok (.iinc 2 1, 3) := by decide +kernel
theorem dX8_read_219 : decode cX8_read 219 = .ok (.goto (-36), 3) := by decide +kernel
theorem dX8_read_222 : decode cX8_read 222 = .ok (.return_, 1) := by decide +kernel
theorem dX8_isWhole_0 : decode cX8_isWhole 0 = .ok (.aload_n 0, 1) := by decide +kernel
theorem dX8_isWhole_1 : decode cX8_isWhole 1 = .ok (.invokevirtual 77, 3) := by decide +kernel
theorem dX8_isWhole_4 : decode cX8_isWhole 4 = .ok (.ifCond .ne 7, 3) := by decide +kernel
theorem dX8_isWhole_7 : decode cX8_isWhole 7 = .ok (.iconst 1, 1) := by decide +kernel
theorem dX8_isWhole_8 : decode cX8_isWhole 8 = .ok (.goto 4, 3) := by decide +kernel
theorem dX8_isWhole_11 : decode cX8_isWhole 11 = .ok (.iconst 0, 1) := by decide +kernel
theorem dX8_isWhole_12 : decode cX8_isWhole 12 = .ok (.ireturn, 1) := by decide +kernel
theorem dX8_error_0 : decode cX8_error 0 = .ok (.aload_n 0, 1) := by decide +kernel
theorem dX8_error_1 : decode cX8_error 1 = .ok (.iconst 0, 1) := by decide +kernel
theorem dX8_error_2 : decode cX8_error 2 = .ok (.putfield 43, 3) := by decide +kernel
theorem dX8_error_5 : decode cX8_error 5 = .ok (.iload_n 1, 1) := by decide +kernel
theorem dX8_error_6 : decode cX8_error 6 = .ok (.invokestatic 101, 3) := by decide +kernel
theorem dX8_error_9 : decode cX8_error 9 = .ok (.ifCond .ne 9, 3) := by decide +kernel
theorem dX8_error_12 : decode cX8_error 12 = .ok (.aload_n 0, 1) := by decide +kernel
theorem dX8_error_13 : decode cX8_error 13 = .ok (.iconst 1, 1) := by decide +kernel
theorem dX8_error_14 : decode cX8_error 14 = .ok (.invokevirtual 68, 3) := by decide +kernel
theorem dX8_error_17 : decode cX8_error 17 = .ok (.ireturn, 1) := by decide +kernel
theorem dX8_error_18 : decode cX8_error 18 = .ok (.aload_n 0, 1) := by decide +kernel
theorem dX8_error_19 : decode cX8_error 19 = .ok (.invokevirtual 142, 3) := by decide +kernel
theorem dX8_error_22 : decode cX8_error 22 = .ok (.ifCond .ne 9, 3) := by decide +kernel
theorem dX8_error_25 : decode cX8_error 25 = .ok (.aload_n 0, 1) := by decide +kernel
theorem dX8_error_26 : decode cX8_error 26 = .ok (.iconst 2, 1) := by decide +kernel
theorem dX8_error_27 : decode cX8_error 27 = .ok (.invokevirtual 68, 3) := by decide +kernel
theorem dX8_error_30 : decode cX8_error 30 = .ok (.ireturn, 1) := by decide +kernel
theorem dX8_error_31 : decode cX8_error 31 = .ok (.aload_n 0, 1) := by decide +kernel
theorem dX8_error_32 : decode cX8_error 32 = .ok (.invokevirtual 146, 3) := by decide +kernel
theorem dX8_error_35 : decode cX8_error 35 = .ok (.aload_n 0, 1) := by decide +kernel
theorem dX8_error_36 : decode cX8_error 36 = .ok (.getfield 25, 3) := by decide +kernel
theorem dX8_error_39 : decode cX8_error 39 = .ok (.iload_n 1, 1) := by decide +kernel
theorem dX8_error_40 : decode cX8_error 40 = .ok (.iaload, 1) := by decide +kernel
theorem dX8_error_41 : decode cX8_error 41 = .ok (.ireturn, 1) := by decide +kernel
theorem dX8_wrong_0 : decode cX8_wrong 0 = .ok (.aload_n 0, 1) := by decide +kernel
theorem dX8_wrong_1 : decode cX8_wrong 1 = .ok (.iconst 0, 1) := by decide +kernel
theorem dX8_wrong_2 : decode cX8_wrong 2 = .ok (.putfield 43, 3) := by decide +kernel
theorem dX8_wrong_5 : decode cX8_wrong 5 = .ok (.aload_n 0, 1) := by decide +kernel
theorem dX8_wrong_6 : decode cX8_wrong 6 = .ok (.invokevirtual 142, 3) := by decide +kernel
theorem dX8_wrong_9 : decode cX8_wrong 9 = .ok (.ifCond .ne 9, 3) := by decide +kernel
theorem dX8_wrong_12 : decode cX8_wrong 12 = .ok (.aload_n 0, 1) := by decide +kernel
theorem dX8_wrong_13 : decode cX8_wrong 13 = .ok (.iconst 1, 1) := by decide +kernel
theorem dX8_wrong_14 : decode cX8_wrong 14 = .ok (.invokevirtual 68, 3) := by decide +kernel
theorem dX8_wrong_17 : decode cX8_wrong 17 = .ok (.ireturn, 1) := by decide +kernel
theorem dX8_wrong_18 : decode cX8_wrong 18 = .ok (.aload_n 0, 1) := by decide +kernel
theorem dX8_wrong_19 : decode cX8_wrong 19 = .ok (.invokevirtual 146, 3) := by decide +kernel
theorem dX8_wrong_22 : decode cX8_wrong 22 = .ok (.iconst 0, 1) := by decide +kernel
theorem dX8_wrong_23 : decode cX8_wrong 23 = .ok (.istore_n 1, 1) := by decide +kernel
theorem dX8_wrong_24 : decode cX8_wrong 24 = .ok (.iconst 0, 1) := by decide +kernel
theorem dX8_wrong_25 : decode cX8_wrong 25 = .ok (.istore_n 2, 1) := by decide +kernel
theorem dX8_wrong_26 : decode cX8_wrong 26 = .ok (.iload_n 2, 1) := by decide +kernel
theorem dX8_wrong_27 : decode cX8_wrong 27 = .ok (.bipush 16, 2) := by decide +kernel
theorem dX8_wrong_29 : decode cX8_wrong 29 = .ok (.if_icmp .ge 25, 3) := by decide +kernel
theorem dX8_wrong_32 : decode cX8_wrong 32 = .ok (.aload_n 0, 1) := by decide +kernel
theorem dX8_wrong_33 : decode cX8_wrong 33 = .ok (.getfield 25, 3) := by decide +kernel
theorem dX8_wrong_36 : decode cX8_wrong 36 = .ok (.iload_n 2, 1) := by decide +kernel
theorem dX8_wrong_37 : decode cX8_wrong 37 = .ok (.iaload, 1) := by decide +kernel
theorem dX8_wrong_38 : decode cX8_wrong 38 = .ok (.iconst (-1), 1) := by decide +kernel
theorem dX8_wrong_39 : decode cX8_wrong 39 = .ok (.if_icmp .eq 9, 3) := by decide +kernel
theorem dX8_wrong_42 : decode cX8_wrong 42 = .ok (.iload_n 1, 1) := by decide +kernel
theorem dX8_wrong_43 : decode cX8_wrong 43 = .ok (.iconst 1, 1) := by decide +kernel
theorem dX8_wrong_44 : decode cX8_wrong 44 = .ok (.iload_n 2, 1) := by decide +kernel
theorem dX8_wrong_45 : decode cX8_wrong 45 = .ok (.ishl, 1) := by decide +kernel
theorem dX8_wrong_46 : decode cX8_wrong 46 = .ok (.ior, 1) := by decide +kernel
theorem dX8_wrong_47 : decode cX8_wrong 47 = .ok (.istore_n 1, 1) := by decide +kernel
theorem dX8_wrong_48 : decode cX8_wrong 48 = .ok (.iinc 2 1, 3) := by decide +kernel
theorem dX8_wrong_51 : decode cX8_wrong 51 = .ok (.goto (-25), 3) := by decide +kernel
theorem dX8_wrong_54 : decode cX8_wrong 54 = .ok (.iload_n 1, 1) := by decide +kernel
theorem dX8_wrong_55 : decode cX8_wrong 55 = .ok (.ireturn, 1) := by decide +kernel
theorem dX8_firstError_0 : decode cX8_firstError 0 = .ok (.aload_n 0, 1) := by decide +kernel
theorem dX8_firstError_1 : decode cX8_firstError 1 = .ok (.iconst 0, 1) := by decide +kernel
theorem dX8_firstError_2 : decode cX8_firstError 2 = .ok (.putfield 43, 3) := by decide +kernel
theorem dX8_firstError_5 : decode cX8_firstError 5 = .ok (.aload_n 0, 1) := by decide +kernel
theorem dX8_firstError_6 : decode cX8_firstError 6 = .ok (.invokevirtual 142, 3) := by decide +kernel
theorem dX8_firstError_9 : decode cX8_firstError 9 = .ok (.ifCond .ne 9, 3) := by decide +kernel
theorem dX8_firstError_12 : decode cX8_firstError 12 = .ok (.aload_n 0, 1) := by decide +kernel
theorem dX8_firstError_13 : decode cX8_firstError 13 = .ok (.iconst 1, 1) := by decide +kernel
theorem dX8_firstError_14 : decode cX8_firstError 14 = .ok (.invokevirtual 68, 3) := by decide +kernel
theorem dX8_firstError_17 : decode cX8_firstError 17 = .ok (.ireturn, 1) := by decide +kernel
theorem dX8_firstError_18 : decode cX8_firstError 18 = .ok (.aload_n 0, 1) := by decide +kernel
theorem dX8_firstError_19 : decode cX8_firstError 19 = .ok (.invokevirtual 146, 3) := by decide +kernel
theorem dX8_firstError_22 : decode cX8_firstError 22 = .ok (.iconst (-1), 1) := by decide +kernel
theorem dX8_firstError_23 : decode cX8_firstError 23 = .ok (.istore_n 1, 1) := by decide +kernel
theorem dX8_firstError_24 : decode cX8_firstError 24 = .ok (.iconst 0, 1) := by decide +kernel
theorem dX8_firstError_25 : decode cX8_firstError 25 = .ok (.istore_n 2, 1) := by decide +kernel
theorem dX8_firstError_26 : decode cX8_firstError 26 = .ok (.iload_n 2, 1) := by decide +kernel
theorem dX8_firstError_27 : decode cX8_firstError 27 = .ok (.bipush 16, 2) := by decide +kernel
theorem dX8_firstError_29 : decode cX8_firstError 29 = .ok (.if_icmp .ge 41, 3) := by decide +kernel
theorem dX8_firstError_32 : decode cX8_firstError 32 = .ok (.aload_n 0, 1) := by decide +kernel
theorem dX8_firstError_33 : decode cX8_firstError 33 = .ok (.getfield 25, 3) := by decide +kernel
theorem dX8_firstError_36 : decode cX8_firstError 36 = .ok (.iload_n 2, 1) := by decide +kernel
theorem dX8_firstError_37 : decode cX8_firstError 37 = .ok (.iaload, 1) := by decide +kernel
theorem dX8_firstError_38 : decode cX8_firstError 38 = .ok (.iconst (-1), 1) := by decide +kernel
theorem dX8_firstError_39 : decode cX8_firstError 39 = .ok (.if_icmp .eq 25, 3) := by decide +kernel
theorem dX8_firstError_42 : decode cX8_firstError 42 = .ok (.iload_n 1, 1) := by decide +kernel
theorem dX8_firstError_43 : decode cX8_firstError 43 = .ok (.iconst (-1), 1) := by decide +kernel
theorem dX8_firstError_44 : decode cX8_firstError 44 = .ok (.if_icmp .eq 13, 3) := by decide +kernel
theorem dX8_firstError_47 : decode cX8_firstError 47 = .ok (.aload_n 0, 1) := by decide +kernel
theorem dX8_firstError_48 : decode cX8_firstError 48 = .ok (.getfield 25, 3) := by decide +kernel
theorem dX8_firstError_51 : decode cX8_firstError 51 = .ok (.iload_n 2, 1) := by decide +kernel
theorem dX8_firstError_52 : decode cX8_firstError 52 = .ok (.iaload, 1) := by decide +kernel
theorem dX8_firstError_53 : decode cX8_firstError 53 = .ok (.iload_n 1, 1) := by decide +kernel
theorem dX8_firstError_54 : decode cX8_firstError 54 = .ok (.if_icmp .ge 10, 3) := by decide +kernel
theorem dX8_firstError_57 : decode cX8_firstError 57 = .ok (.aload_n 0, 1) := by decide +kernel
theorem dX8_firstError_58 : decode cX8_firstError 58 = .ok (.getfield 25, 3) := by decide +kernel
theorem dX8_firstError_61 : decode cX8_firstError 61 = .ok (.iload_n 2, 1) := by decide +kernel
theorem dX8_firstError_62 : decode cX8_firstError 62 = .ok (.iaload, 1) := by decide +kernel
theorem dX8_firstError_63 : decode cX8_firstError 63 = .ok (.istore_n 1, 1) := by decide +kernel
theorem dX8_firstError_64 : decode cX8_firstError 64 = .ok (.iinc 2 1, 3) := by decide +kernel
theorem dX8_firstError_67 : decode cX8_firstError 67 = .ok (.goto (-41), 3) := by decide +kernel
theorem dX8_firstError_70 : decode cX8_firstError 70 = .ok (.iload_n 1, 1) := by decide +kernel
theorem dX8_firstError_71 : decode cX8_firstError 71 = .ok (.ireturn, 1) := by decide +kernel
theorem dX8_groups_0 : decode cX8_groups 0 = .ok (.aload_n 0, 1) := by decide +kernel
theorem dX8_groups_1 : decode cX8_groups 1 = .ok (.iconst 0, 1) := by decide +kernel
theorem dX8_groups_2 : decode cX8_groups 2 = .ok (.putfield 43, 3) := by decide +kernel
theorem dX8_groups_5 : decode cX8_groups 5 = .ok (.aload_n 0, 1) := by decide +kernel
theorem dX8_groups_6 : decode cX8_groups 6 = .ok (.iload_n 1, 1) := by decide +kernel
theorem dX8_groups_7 : decode cX8_groups 7 = .ok (.invokevirtual 87, 3) := by decide +kernel
theorem dX8_groups_10 : decode cX8_groups 10 = .ok (.ifCond .ne 9, 3) := by decide +kernel
theorem dX8_groups_13 : decode cX8_groups 13 = .ok (.aload_n 0, 1) := by decide +kernel
theorem dX8_groups_14 : decode cX8_groups 14 = .ok (.iconst 1, 1) := by decide +kernel
theorem dX8_groups_15 : decode cX8_groups 15 = .ok (.invokevirtual 68, 3) := by decide +kernel
theorem dX8_groups_18 : decode cX8_groups 18 = .ok (.ireturn, 1) := by decide +kernel
theorem dX8_groups_19 : decode cX8_groups 19 = .ok (.aload_n 0, 1) := by decide +kernel
theorem dX8_groups_20 : decode cX8_groups 20 = .ok (.invokevirtual 142, 3) := by decide +kernel
theorem dX8_groups_23 : decode cX8_groups 23 = .ok (.ifCond .ne 9, 3) := by decide +kernel
theorem dX8_groups_26 : decode cX8_groups 26 = .ok (.aload_n 0, 1) := by decide +kernel
theorem dX8_groups_27 : decode cX8_groups 27 = .ok (.iconst 2, 1) := by decide +kernel
theorem dX8_groups_28 : decode cX8_groups 28 = .ok (.invokevirtual 68, 3) := by decide +kernel
theorem dX8_groups_31 : decode cX8_groups 31 = .ok (.ireturn, 1) := by decide +kernel
theorem dX8_groups_32 : decode cX8_groups 32 = .ok (.aload_n 0, 1) := by decide +kernel
theorem dX8_groups_33 : decode cX8_groups 33 = .ok (.invokevirtual 146, 3) := by decide +kernel
theorem dX8_groups_36 : decode cX8_groups 36 = .ok (.aload_n 0, 1) := by decide +kernel
theorem dX8_groups_37 : decode cX8_groups 37 = .ok (.getfield 28, 3) := by decide +kernel
theorem dX8_groups_40 : decode cX8_groups 40 = .ok (.iload_n 1, 1) := by decide +kernel
theorem dX8_groups_41 : decode cX8_groups 41 = .ok (.iaload, 1) := by decide +kernel
theorem dX8_groups_42 : decode cX8_groups 42 = .ok (.ireturn, 1) := by decide +kernel
theorem dX8_sumOfGroups_0 : decode cX8_sumOfGroups 0 = .ok (.iconst 0, 1) := by decide +kernel
theorem dX8_sumOfGroups_1 : decode cX8_sumOfGroups 1 = .ok (.istore_n 1, 1) := by decide +kernel
theorem dX8_sumOfGroups_2 : decode cX8_sumOfGroups 2 = .ok (.iconst 0, 1) := by decide +kernel
theorem dX8_sumOfGroups_3 : decode cX8_sumOfGroups 3 = .ok (.istore_n 2, 1) := by decide +kernel
theorem dX8_sumOfGroups_4 : decode cX8_sumOfGroups 4 = .ok (.iload_n 2, 1) := by decide +kernel
theorem dX8_sumOfGroups_5 : decode cX8_sumOfGroups 5 = .ok (.aload_n 0, 1) := by decide +kernel
theorem dX8_sumOfGroups_6 : decode cX8_sumOfGroups 6 = .ok (.getfield 47, 3) := by decide +kernel
theorem dX8_sumOfGroups_9 : decode cX8_sumOfGroups 9 = .ok (.if_icmp .ge 18, 3) := by decide +kernel
theorem dX8_sumOfGroups_12 : decode cX8_sumOfGroups 12 = .ok (.iload_n 1, 1) := by decide +kernel
theorem dX8_sumOfGroups_13 : decode cX8_sumOfGroups 13 = .ok (.aload_n 0, 1) := by decide +kernel
theorem dX8_sumOfGroups_14 : decode cX8_sumOfGroups 14 = .ok (.getfield 28, 3) := by decide +kernel
theorem dX8_sumOfGroups_17 : decode cX8_sumOfGroups 17 = .ok (.iload_n 2, 1) := by decide +kernel
theorem dX8_sumOfGroups_18 : decode cX8_sumOfGroups 18 = .ok (.iaload, 1) := by decide +kernel
theorem dX8_sumOfGroups_19 : decode cX8_sumOfGroups 19 = .ok (.iadd, 1) := by decide +kernel
theorem dX8_sumOfGroups_20 : decode cX8_sumOfGroups 20 = .ok (.istore_n 1, 1) := by decide +kernel
theorem dX8_sumOfGroups_21 : decode cX8_sumOfGroups 21 = .ok (.iinc 2 1, 3) := by decide +kernel
theorem dX8_sumOfGroups_24 : decode cX8_sumOfGroups 24 = .ok (.goto (-20), 3) := by decide +kernel
theorem dX8_sumOfGroups_27 : decode cX8_sumOfGroups 27 = .ok (.iload_n 1, 1) := by decide +kernel
theorem dX8_sumOfGroups_28 : decode cX8_sumOfGroups 28 = .ok (.ireturn, 1) := by decide +kernel
theorem dX8_work_0 : decode cX8_work 0 = .ok (.aload_n 0, 1) := by decide +kernel
theorem dX8_work_1 : decode cX8_work 1 = .ok (.iconst 0, 1) := by decide +kernel
theorem dX8_work_2 : decode cX8_work 2 = .ok (.putfield 43, 3) := by decide +kernel
theorem dX8_work_5 : decode cX8_work 5 = .ok (.aload_n 0, 1) := by decide +kernel
theorem dX8_work_6 : decode cX8_work 6 = .ok (.invokevirtual 142, 3) := by decide +kernel
theorem dX8_work_9 : decode cX8_work 9 = .ok (.ifCond .ne 9, 3) := by decide +kernel
theorem dX8_work_12 : decode cX8_work 12 = .ok (.aload_n 0, 1) := by decide +kernel
theorem dX8_work_13 : decode cX8_work 13 = .ok (.iconst 1, 1) := by decide +kernel
theorem dX8_work_14 : decode cX8_work 14 = .ok (.invokevirtual 68, 3) := by decide +kernel
theorem dX8_work_17 : decode cX8_work 17 = .ok (.ireturn, 1) := by decide +kernel
theorem dX8_work_18 : decode cX8_work 18 = .ok (.aload_n 0, 1) := by decide +kernel
theorem dX8_work_19 : decode cX8_work 19 = .ok (.invokevirtual 146, 3) := by decide +kernel
theorem dX8_work_22 : decode cX8_work 22 = .ok (.aload_n 0, 1) := by decide +kernel
theorem dX8_work_23 : decode cX8_work 23 = .ok (.invokevirtual 149, 3) := by decide +kernel
theorem dX8_work_26 : decode cX8_work 26 = .ok (.ireturn, 1) := by decide +kernel
theorem dX8_gain_0 : decode cX8_gain 0 = .ok (.aload_n 0, 1) := by decide +kernel
theorem dX8_gain_1 : decode cX8_gain 1 = .ok (.aload_n 0, 1) := by decide +kernel
theorem dX8_gain_2 : decode cX8_gain 2 = .ok (.invokevirtual 142, 3) := by decide +kernel
theorem dX8_gain_5 : decode cX8_gain 5 = .ok (.ifCond .eq 7, 3) := by decide +kernel
theorem dX8_gain_8 : decode cX8_gain 8 = .ok (.iconst 0, 1) := by decide +kernel
theorem dX8_gain_9 : decode cX8_gain 9 = .ok (.goto 4, 3) := by decide +kernel
theorem dX8_gain_12 : decode cX8_gain 12 = .ok (.iconst 1, 1) := by decide +kernel
theorem dX8_gain_13 : decode cX8_gain 13 = .ok (.putfield 43, 3) := by decide +kernel
theorem dX8_gain_16 : decode cX8_gain 16 = .ok (.aload_n 0, 1) := by decide +kernel
theorem dX8_gain_17 : decode cX8_gain 17 = .ok (.getfield 43, 3) := by decide +kernel
theorem dX8_gain_20 : decode cX8_gain 20 = .ok (.ifCond .eq 5, 3) := by decide +kernel
theorem dX8_gain_23 : decode cX8_gain 23 = .ok (.dconst 0, 1) := by decide +kernel
theorem dX8_gain_24 : decode cX8_gain 24 = .ok (.dreturn, 1) := by decide +kernel
theorem dX8_gain_25 : decode cX8_gain 25 = .ok (.aload_n 0, 1) := by decide +kernel
theorem dX8_gain_26 : decode cX8_gain 26 = .ok (.invokevirtual 146, 3) := by decide +kernel
theorem dX8_gain_29 : decode cX8_gain 29 = .ok (.iconst 0, 1) := by decide +kernel
theorem dX8_gain_30 : decode cX8_gain 30 = .ok (.istore_n 1, 1) := by decide +kernel
theorem dX8_gain_31 : decode cX8_gain 31 = .ok (.iconst 0, 1) := by decide +kernel
theorem dX8_gain_32 : decode cX8_gain 32 = .ok (.istore_n 2, 1) := by decide +kernel
theorem dX8_gain_33 : decode cX8_gain 33 = .ok (.iload_n 2, 1) := by decide +kernel
theorem dX8_gain_34 : decode cX8_gain 34 = .ok (.bipush 16, 2) := by decide +kernel
theorem dX8_gain_36 : decode cX8_gain 36 = .ok (.if_icmp .ge 74, 3) := by decide +kernel
theorem dX8_gain_39 : decode cX8_gain 39 = .ok (.iconst 0, 1) := by decide +kernel
theorem dX8_gain_40 : decode cX8_gain 40 = .ok (.istore_n 3, 1) := by decide +kernel
theorem dX8_gain_41 : decode cX8_gain 41 = .ok (.iload_n 3, 1) := by decide +kernel
theorem dX8_gain_42 : decode cX8_gain 42 = .ok (.aload_n 0, 1) := by decide +kernel
theorem dX8_gain_43 : decode cX8_gain 43 = .ok (.getfield 47, 3) := by decide +kernel
theorem dX8_gain_46 : decode cX8_gain 46 = .ok (.if_icmp .ge 58, 3) := by decide +kernel
theorem dX8_gain_49 : decode cX8_gain 49 = .ok (.iload_n 1, 1) := by decide +kernel
theorem dX8_gain_50 : decode cX8_gain 50 = .ok (.aload_n 0, 1) := by decide +kernel
theorem dX8_gain_51 : decode cX8_gain 51 = .ok (.iload_n 3, 1) := by decide +kernel
theorem dX8_gain_52 : decode cX8_gain 52 = .ok (.invokevirtual 90, 3) := by decide +kernel
theorem dX8_gain_55 : decode cX8_gain 55 = .ok (.ifCond .eq 40, 3) := by decide +kernel
theorem dX8_gain_58 : decode cX8_gain 58 = .ok (.aload_n 0, 1) := by decide +kernel
theorem dX8_gain_59 : decode cX8_gain 59 = .ok (.getfield 13, 3) := by decide +kernel
theorem dX8_gain_62 : decode cX8_gain 62 = .ok (.iload_n 3, 1) := by decide +kernel
theorem dX8_gain_63 : decode cX8_gain 63 = .ok (.iaload, 1) := by decide +kernel
theorem dX8_gain_64 : decode cX8_gain 64 = .ok (.iload_n 2, 1) := by decide +kernel
theorem dX8_gain_65 : decode cX8_gain 65 = .ok (.invokestatic 93, 3) := by decide +kernel
theorem dX8_gain_68 : decode cX8_gain 68 = .ok (.ifCond .eq 27, 3) := by decide +kernel
theorem dX8_gain_71 : decode cX8_gain 71 = .ok (.aload_n 0, 1) := by decide +kernel
theorem dX8_gain_72 : decode cX8_gain 72 = .ok (.getfield 25, 3) := by decide +kernel
theorem dX8_gain_75 : decode cX8_gain 75 = .ok (.iload_n 2, 1) := by decide +kernel
theorem dX8_gain_76 : decode cX8_gain 76 = .ok (.iaload, 1) := by decide +kernel
theorem dX8_gain_77 : decode cX8_gain 77 = .ok (.iconst (-1), 1) := by decide +kernel
theorem dX8_gain_78 : decode cX8_gain 78 = .ok (.if_icmp .eq 13, 3) := by decide +kernel
theorem dX8_gain_81 : decode cX8_gain 81 = .ok (.iload_n 3, 1) := by decide +kernel
theorem dX8_gain_82 : decode cX8_gain 82 = .ok (.aload_n 0, 1) := by decide +kernel
theorem dX8_gain_83 : decode cX8_gain 83 = .ok (.getfield 25, 3) := by decide +kernel
theorem dX8_gain_86 : decode cX8_gain 86 = .ok (.iload_n 2, 1) := by decide +kernel
theorem dX8_gain_87 : decode cX8_gain 87 = .ok (.iaload, 1) := by decide +kernel
theorem dX8_gain_88 : decode cX8_gain 88 = .ok (.if_icmp .gt 7, 3) := by decide +kernel
theorem dX8_gain_91 : decode cX8_gain 91 = .ok (.iconst 1, 1) := by decide +kernel
theorem dX8_gain_92 : decode cX8_gain 92 = .ok (.goto 4, 3) := by decide +kernel
theorem dX8_gain_95 : decode cX8_gain 95 = .ok (.iconst 0, 1) := by decide +kernel
theorem dX8_gain_96 : decode cX8_gain 96 = .ok (.iadd, 1) := by decide +kernel
theorem dX8_gain_97 : decode cX8_gain 97 = .ok (.istore_n 1, 1) := by decide +kernel
theorem dX8_gain_98 : decode cX8_gain 98 = .ok (.iinc 3 1, 3) := by decide +kernel
theorem dX8_gain_101 : decode cX8_gain 101 = .ok (.goto (-60), 3) := by decide +kernel
theorem dX8_gain_104 : decode cX8_gain 104 = .ok (.iinc 2 1, 3) := by decide +kernel
theorem dX8_gain_107 : decode cX8_gain 107 = .ok (.goto (-74), 3) := by decide +kernel
theorem dX8_gain_110 : decode cX8_gain 110 = .ok (.aload_n 0, 1) := by decide +kernel
theorem dX8_gain_111 : decode cX8_gain 111 = .ok (.invokevirtual 149, 3) := by decide +kernel
theorem dX8_gain_114 : decode cX8_gain 114 = .ok (.ifCond .ne 7, 3) := by decide +kernel
theorem dX8_gain_117 : decode cX8_gain 117 = .ok (.dconst 0, 1) := by decide +kernel
theorem dX8_gain_118 : decode cX8_gain 118 = .ok (.goto 11, 3) := by decide +kernel
theorem dX8_gain_121 : decode cX8_gain 121 = .ok (.iload_n 1, 1) := by decide +kernel
theorem dX8_gain_122 : decode cX8_gain 122 = .ok (.i2d, 1) := by decide +kernel
theorem dX8_gain_123 : decode cX8_gain 123 = .ok (.aload_n 0, 1) := by decide +kernel
theorem dX8_gain_124 : decode cX8_gain 124 = .ok (.invokevirtual 149, 3) := by decide +kernel
theorem dX8_gain_127 : decode cX8_gain 127 = .ok (.i2d, 1) := by decide +kernel
theorem dX8_gain_128 : decode cX8_gain 128 = .ok (.ddiv, 1) := by decide +kernel
theorem dX8_gain_129 : decode cX8_gain 129 = .ok (.dreturn, 1) := by decide +kernel
theorem dX8_stack_0 : decode cX8_stack 0 = .ok (.aload_n 0, 1) := by decide +kernel
theorem dX8_stack_1 : decode cX8_stack 1 = .ok (.iconst 0, 1) := by decide +kernel
theorem dX8_stack_2 : decode cX8_stack 2 = .ok (.putfield 43, 3) := by decide +kernel
theorem dX8_stack_5 : decode cX8_stack 5 = .ok (.iload_n 1, 1) := by decide +kernel
theorem dX8_stack_6 : decode cX8_stack 6 = .ok (.invokestatic 101, 3) := by decide +kernel
theorem dX8_stack_9 : decode cX8_stack 9 = .ok (.ifCond .ne 9, 3) := by decide +kernel
theorem dX8_stack_12 : decode cX8_stack 12 = .ok (.aload_n 0, 1) := by decide +kernel
theorem dX8_stack_13 : decode cX8_stack 13 = .ok (.iconst 1, 1) := by decide +kernel
theorem dX8_stack_14 : decode cX8_stack 14 = .ok (.invokevirtual 68, 3) := by decide +kernel
theorem dX8_stack_17 : decode cX8_stack 17 = .ok (.ireturn, 1) := by decide +kernel
theorem dX8_stack_18 : decode cX8_stack 18 = .ok (.aload_n 0, 1) := by decide +kernel
theorem dX8_stack_19 : decode cX8_stack 19 = .ok (.invokevirtual 98, 3) := by decide +kernel
theorem dX8_stack_22 : decode cX8_stack 22 = .ok (.aload_n 0, 1) := by decide +kernel
theorem dX8_stack_23 : decode cX8_stack 23 = .ok (.iload_n 1, 1) := by decide +kernel
theorem dX8_stack_24 : decode cX8_stack 24 = .ok (.iload_n 2, 1) := by decide +kernel
end
section
theorem dX8_stack_25 : decode cX8_stack 25 = .ok (.invokevirtual 107, 3) := by decide +kernel
theorem dX8_stack_28 : decode cX8_stack 28 = .ok (.istore_n 3, 1) := by decide +kernel
theorem dX8_stack_29 : decode cX8_stack 29 = .ok (.iload_n 3, 1) := by decide +kernel
theorem dX8_stack_30 : decode cX8_stack 30 = .ok (.iconst (-1), 1) := by decide +kernel
theorem dX8_stack_31 : decode cX8_stack 31 = .ok (.if_icmp .ne 9, 3) := by decide +kernel
theorem dX8_stack_34 : decode cX8_stack 34 = .ok (.aload_n 0, 1) := by decide +kernel
theorem dX8_stack_35 : decode cX8_stack 35 = .ok (.iconst 1, 1) := by decide +kernel
theorem dX8_stack_36 : decode cX8_stack 36 = .ok (.invokevirtual 68, 3) := by decide +kernel
theorem dX8_stack_39 : decode cX8_stack 39 = .ok (.ireturn, 1) := by decide +kernel
theorem dX8_stack_40 : decode cX8_stack 40 = .ok (.aload_n 0, 1) := by decide +kernel
theorem dX8_stack_41 : decode cX8_stack 41 = .ok (.invokevirtual 142, 3) := by decide +kernel
theorem dX8_stack_44 : decode cX8_stack 44 = .ok (.ifCond .ne 9, 3) := by decide +kernel
theorem dX8_stack_47 : decode cX8_stack 47 = .ok (.aload_n 0, 1) := by decide +kernel
theorem dX8_stack_48 : decode cX8_stack 48 = .ok (.iconst 2, 1) := by decide +kernel
theorem dX8_stack_49 : decode cX8_stack 49 = .ok (.invokevirtual 68, 3) := by decide +kernel
theorem dX8_stack_52 : decode cX8_stack 52 = .ok (.ireturn, 1) := by decide +kernel
theorem dX8_stack_53 : decode cX8_stack 53 = .ok (.aload_n 0, 1) := by decide +kernel
theorem dX8_stack_54 : decode cX8_stack 54 = .ok (.invokevirtual 146, 3) := by decide +kernel
theorem dX8_stack_57 : decode cX8_stack 57 = .ok (.aload_n 0, 1) := by decide +kernel
theorem dX8_stack_58 : decode cX8_stack 58 = .ok (.getfield 31, 3) := by decide +kernel
theorem dX8_stack_61 : decode cX8_stack 61 = .ok (.bipush 80, 2) := by decide +kernel
theorem dX8_stack_63 : decode cX8_stack 63 = .ok (.iload_n 1, 1) := by decide +kernel
theorem dX8_stack_64 : decode cX8_stack 64 = .ok (.imul, 1) := by decide +kernel
theorem dX8_stack_65 : decode cX8_stack 65 = .ok (.iload_n 3, 1) := by decide +kernel
theorem dX8_stack_66 : decode cX8_stack 66 = .ok (.iadd, 1) := by decide +kernel
theorem dX8_stack_67 : decode cX8_stack 67 = .ok (.iaload, 1) := by decide +kernel
theorem dX8_stack_68 : decode cX8_stack 68 = .ok (.ireturn, 1) := by decide +kernel
theorem dX8_passes_0 : decode cX8_passes 0 = .ok (.aload_n 0, 1) := by decide +kernel
theorem dX8_passes_1 : decode cX8_passes 1 = .ok (.getfield 34, 3) := by decide +kernel
theorem dX8_passes_4 : decode cX8_passes 4 = .ok (.aload_n 0, 1) := by decide +kernel
theorem dX8_passes_5 : decode cX8_passes 5 = .ok (.getfield 152, 3) := by decide +kernel
theorem dX8_passes_8 : decode cX8_passes 8 = .ok (.iaload, 1) := by decide +kernel
theorem dX8_passes_9 : decode cX8_passes 9 = .ok (.iload_n 1, 1) := by decide +kernel
theorem dX8_passes_10 : decode cX8_passes 10 = .ok (.if_icmp .eq 5, 3) := by decide +kernel
theorem dX8_passes_13 : decode cX8_passes 13 = .ok (.iconst 0, 1) := by decide +kernel
theorem dX8_passes_14 : decode cX8_passes 14 = .ok (.ireturn, 1) := by decide +kernel
theorem dX8_passes_15 : decode cX8_passes 15 = .ok (.aload_n 0, 1) := by decide +kernel
theorem dX8_passes_16 : decode cX8_passes 16 = .ok (.dup, 1) := by decide +kernel
theorem dX8_passes_17 : decode cX8_passes 17 = .ok (.getfield 152, 3) := by decide +kernel
theorem dX8_passes_20 : decode cX8_passes 20 = .ok (.iconst 1, 1) := by decide +kernel
theorem dX8_passes_21 : decode cX8_passes 21 = .ok (.iadd, 1) := by decide +kernel
theorem dX8_passes_22 : decode cX8_passes 22 = .ok (.putfield 152, 3) := by decide +kernel
theorem dX8_passes_25 : decode cX8_passes 25 = .ok (.iconst 1, 1) := by decide +kernel
theorem dX8_passes_26 : decode cX8_passes 26 = .ok (.ireturn, 1) := by decide +kernel
theorem dX8_expression_0 : decode cX8_expression 0 = .ok (.aload_n 0, 1) := by decide +kernel
theorem dX8_expression_1 : decode cX8_expression 1 = .ok (.invokevirtual 155, 3) := by decide +kernel
theorem dX8_expression_4 : decode cX8_expression 4 = .ok (.istore_n 1, 1) := by decide +kernel
theorem dX8_expression_5 : decode cX8_expression 5 = .ok (.aload_n 0, 1) := by decide +kernel
theorem dX8_expression_6 : decode cX8_expression 6 = .ok (.getfield 34, 3) := by decide +kernel
theorem dX8_expression_9 : decode cX8_expression 9 = .ok (.aload_n 0, 1) := by decide +kernel
theorem dX8_expression_10 : decode cX8_expression 10 = .ok (.getfield 152, 3) := by decide +kernel
theorem dX8_expression_13 : decode cX8_expression 13 = .ok (.iaload, 1) := by decide +kernel
theorem dX8_expression_14 : decode cX8_expression 14 = .ok (.bipush 43, 2) := by decide +kernel
theorem dX8_expression_16 : decode cX8_expression 16 = .ok (.if_icmp .eq 17, 3) := by decide +kernel
theorem dX8_expression_19 : decode cX8_expression 19 = .ok (.aload_n 0, 1) := by decide +kernel
theorem dX8_expression_20 : decode cX8_expression 20 = .ok (.getfield 34, 3) := by decide +kernel
theorem dX8_expression_23 : decode cX8_expression 23 = .ok (.aload_n 0, 1) := by decide +kernel
theorem dX8_expression_24 : decode cX8_expression 24 = .ok (.getfield 152, 3) := by decide +kernel
theorem dX8_expression_27 : decode cX8_expression 27 = .ok (.iaload, 1) := by decide +kernel
theorem dX8_expression_28 : decode cX8_expression 28 = .ok (.bipush 45, 2) := by decide +kernel
theorem dX8_expression_30 : decode cX8_expression 30 = .ok (.if_icmp .ne 55, 3) := by decide +kernel
theorem dX8_expression_33 : decode cX8_expression 33 = .ok (.aload_n 0, 1) := by decide +kernel
theorem dX8_expression_34 : decode cX8_expression 34 = .ok (.getfield 34, 3) := by decide +kernel
theorem dX8_expression_37 : decode cX8_expression 37 = .ok (.aload_n 0, 1) := by decide +kernel
theorem dX8_expression_38 : decode cX8_expression 38 = .ok (.getfield 152, 3) := by decide +kernel
theorem dX8_expression_41 : decode cX8_expression 41 = .ok (.iaload, 1) := by decide +kernel
theorem dX8_expression_42 : decode cX8_expression 42 = .ok (.bipush 43, 2) := by decide +kernel
theorem dX8_expression_44 : decode cX8_expression 44 = .ok (.if_icmp .ne 7, 3) := by decide +kernel
theorem dX8_expression_47 : decode cX8_expression 47 = .ok (.iconst 1, 1) := by decide +kernel
theorem dX8_expression_48 : decode cX8_expression 48 = .ok (.goto 4, 3) := by decide +kernel
theorem dX8_expression_51 : decode cX8_expression 51 = .ok (.iconst 0, 1) := by decide +kernel
theorem dX8_expression_52 : decode cX8_expression 52 = .ok (.istore_n 2, 1) := by decide +kernel
theorem dX8_expression_53 : decode cX8_expression 53 = .ok (.aload_n 0, 1) := by decide +kernel
theorem dX8_expression_54 : decode cX8_expression 54 = .ok (.dup, 1) := by decide +kernel
theorem dX8_expression_55 : decode cX8_expression 55 = .ok (.getfield 152, 3) := by decide +kernel
theorem dX8_expression_58 : decode cX8_expression 58 = .ok (.iconst 1, 1) := by decide +kernel
theorem dX8_expression_59 : decode cX8_expression 59 = .ok (.iadd, 1) := by decide +kernel
theorem dX8_expression_60 : decode cX8_expression 60 = .ok (.putfield 152, 3) := by decide +kernel
theorem dX8_expression_63 : decode cX8_expression 63 = .ok (.aload_n 0, 1) := by decide +kernel
theorem dX8_expression_64 : decode cX8_expression 64 = .ok (.invokevirtual 155, 3) := by decide +kernel
theorem dX8_expression_67 : decode cX8_expression 67 = .ok (.istore_n 3, 1) := by decide +kernel
theorem dX8_expression_68 : decode cX8_expression 68 = .ok (.iload_n 2, 1) := by decide +kernel
theorem dX8_expression_69 : decode cX8_expression 69 = .ok (.ifCond .eq 9, 3) := by decide +kernel
theorem dX8_expression_72 : decode cX8_expression 72 = .ok (.iload_n 1, 1) := by decide +kernel
theorem dX8_expression_73 : decode cX8_expression 73 = .ok (.iload_n 3, 1) := by decide +kernel
theorem dX8_expression_74 : decode cX8_expression 74 = .ok (.iadd, 1) := by decide +kernel
theorem dX8_expression_75 : decode cX8_expression 75 = .ok (.goto 6, 3) := by decide +kernel
theorem dX8_expression_78 : decode cX8_expression 78 = .ok (.iload_n 1, 1) := by decide +kernel
theorem dX8_expression_79 : decode cX8_expression 79 = .ok (.iload_n 3, 1) := by decide +kernel
theorem dX8_expression_80 : decode cX8_expression 80 = .ok (.isub, 1) := by decide +kernel
theorem dX8_expression_81 : decode cX8_expression 81 = .ok (.istore_n 1, 1) := by decide +kernel
theorem dX8_expression_82 : decode cX8_expression 82 = .ok (.goto (-77), 3) := by decide +kernel
theorem dX8_expression_85 : decode cX8_expression 85 = .ok (.iload_n 1, 1) := by decide +kernel
theorem dX8_expression_86 : decode cX8_expression 86 = .ok (.ireturn, 1) := by decide +kernel
theorem dX8_term_0 : decode cX8_term 0 = .ok (.aload_n 0, 1) := by decide +kernel
theorem dX8_term_1 : decode cX8_term 1 = .ok (.invokevirtual 158, 3) := by decide +kernel
theorem dX8_term_4 : decode cX8_term 4 = .ok (.istore_n 1, 1) := by decide +kernel
theorem dX8_term_5 : decode cX8_term 5 = .ok (.aload_n 0, 1) := by decide +kernel
theorem dX8_term_6 : decode cX8_term 6 = .ok (.bipush 42, 2) := by decide +kernel
theorem dX8_term_8 : decode cX8_term 8 = .ok (.invokevirtual 161, 3) := by decide +kernel
theorem dX8_term_11 : decode cX8_term 11 = .ok (.ifCond .eq 13, 3) := by decide +kernel
theorem dX8_term_14 : decode cX8_term 14 = .ok (.iload_n 1, 1) := by decide +kernel
theorem dX8_term_15 : decode cX8_term 15 = .ok (.aload_n 0, 1) := by decide +kernel
theorem dX8_term_16 : decode cX8_term 16 = .ok (.invokevirtual 158, 3) := by decide +kernel
theorem dX8_term_19 : decode cX8_term 19 = .ok (.imul, 1) := by decide +kernel
theorem dX8_term_20 : decode cX8_term 20 = .ok (.istore_n 1, 1) := by decide +kernel
theorem dX8_term_21 : decode cX8_term 21 = .ok (.goto (-16), 3) := by decide +kernel
theorem dX8_term_24 : decode cX8_term 24 = .ok (.iload_n 1, 1) := by decide +kernel
theorem dX8_term_25 : decode cX8_term 25 = .ok (.ireturn, 1) := by decide +kernel
theorem dX8_factor_0 : decode cX8_factor 0 = .ok (.aload_n 0, 1) := by decide +kernel
theorem dX8_factor_1 : decode cX8_factor 1 = .ok (.getfield 34, 3) := by decide +kernel
theorem dX8_factor_4 : decode cX8_factor 4 = .ok (.aload_n 0, 1) := by decide +kernel
theorem dX8_factor_5 : decode cX8_factor 5 = .ok (.getfield 152, 3) := by decide +kernel
theorem dX8_factor_8 : decode cX8_factor 8 = .ok (.iaload, 1) := by decide +kernel
theorem dX8_factor_9 : decode cX8_factor 9 = .ok (.istore_n 1, 1) := by decide +kernel
theorem dX8_factor_10 : decode cX8_factor 10 = .ok (.aload_n 0, 1) := by decide +kernel
theorem dX8_factor_11 : decode cX8_factor 11 = .ok (.dup, 1) := by decide +kernel
theorem dX8_factor_12 : decode cX8_factor 12 = .ok (.getfield 152, 3) := by decide +kernel
theorem dX8_factor_15 : decode cX8_factor 15 = .ok (.iconst 1, 1) := by decide +kernel
theorem dX8_factor_16 : decode cX8_factor 16 = .ok (.iadd, 1) := by decide +kernel
theorem dX8_factor_17 : decode cX8_factor 17 = .ok (.putfield 152, 3) := by decide +kernel
theorem dX8_factor_20 : decode cX8_factor 20 = .ok (.iload_n 1, 1) := by decide +kernel
theorem dX8_factor_21 : decode cX8_factor 21 = .ok (.bipush 45, 2) := by decide +kernel
theorem dX8_factor_23 : decode cX8_factor 23 = .ok (.if_icmp .ne 9, 3) := by decide +kernel
theorem dX8_factor_26 : decode cX8_factor 26 = .ok (.aload_n 0, 1) := by decide +kernel
theorem dX8_factor_27 : decode cX8_factor 27 = .ok (.invokevirtual 158, 3) := by decide +kernel
theorem dX8_factor_30 : decode cX8_factor 30 = .ok (.ineg, 1) := by decide +kernel
theorem dX8_factor_31 : decode cX8_factor 31 = .ok (.ireturn, 1) := by decide +kernel
theorem dX8_factor_32 : decode cX8_factor 32 = .ok (.iload_n 1, 1) := by decide +kernel
theorem dX8_factor_33 : decode cX8_factor 33 = .ok (.bipush 40, 2) := by decide +kernel
theorem dX8_factor_35 : decode cX8_factor 35 = .ok (.if_icmp .ne 20, 3) := by decide +kernel
theorem dX8_factor_38 : decode cX8_factor 38 = .ok (.aload_n 0, 1) := by decide +kernel
theorem dX8_factor_39 : decode cX8_factor 39 = .ok (.invokevirtual 164, 3) := by decide +kernel
theorem dX8_factor_42 : decode cX8_factor 42 = .ok (.istore_n 2, 1) := by decide +kernel
theorem dX8_factor_43 : decode cX8_factor 43 = .ok (.aload_n 0, 1) := by decide +kernel
theorem dX8_factor_44 : decode cX8_factor 44 = .ok (.dup, 1) := by decide +kernel
theorem dX8_factor_45 : decode cX8_factor 45 = .ok (.getfield 152, 3) := by decide +kernel
theorem dX8_factor_48 : decode cX8_factor 48 = .ok (.iconst 1, 1) := by decide +kernel
theorem dX8_factor_49 : decode cX8_factor 49 = .ok (.iadd, 1) := by decide +kernel
theorem dX8_factor_50 : decode cX8_factor 50 = .ok (.putfield 152, 3) := by decide +kernel
theorem dX8_factor_53 : decode cX8_factor 53 = .ok (.iload_n 2, 1) := by decide +kernel
theorem dX8_factor_54 : decode cX8_factor 54 = .ok (.ireturn, 1) := by decide +kernel
theorem dX8_factor_55 : decode cX8_factor 55 = .ok (.iload_n 1, 1) := by decide +kernel
theorem dX8_factor_56 : decode cX8_factor 56 = .ok (.invokestatic 114, 3) := by decide +kernel
theorem dX8_factor_59 : decode cX8_factor 59 = .ok (.ifCond .eq 15, 3) := by decide +kernel
theorem dX8_factor_62 : decode cX8_factor 62 = .ok (.aload_n 0, 1) := by decide +kernel
theorem dX8_factor_63 : decode cX8_factor 63 = .ok (.getfield 37, 3) := by decide +kernel
theorem dX8_factor_66 : decode cX8_factor 66 = .ok (.iload_n 1, 1) := by decide +kernel
theorem dX8_factor_67 : decode cX8_factor 67 = .ok (.bipush 97, 2) := by decide +kernel
theorem dX8_factor_69 : decode cX8_factor 69 = .ok (.isub, 1) := by decide +kernel
theorem dX8_factor_70 : decode cX8_factor 70 = .ok (.iaload, 1) := by decide +kernel
theorem dX8_factor_71 : decode cX8_factor 71 = .ok (.goto 7, 3) := by decide +kernel
theorem dX8_factor_74 : decode cX8_factor 74 = .ok (.iload_n 1, 1) := by decide +kernel
theorem dX8_factor_75 : decode cX8_factor 75 = .ok (.bipush 48, 2) := by decide +kernel
theorem dX8_factor_77 : decode cX8_factor 77 = .ok (.isub, 1) := by decide +kernel
theorem dX8_factor_78 : decode cX8_factor 78 = .ok (.ireturn, 1) := by decide +kernel
theorem dX8_statement_0 : decode cX8_statement 0 = .ok (.aload_n 0, 1) := by decide +kernel
theorem dX8_statement_1 : decode cX8_statement 1 = .ok (.getfield 34, 3) := by decide +kernel
theorem dX8_statement_4 : decode cX8_statement 4 = .ok (.aload_n 0, 1) := by decide +kernel
theorem dX8_statement_5 : decode cX8_statement 5 = .ok (.getfield 152, 3) := by decide +kernel
theorem dX8_statement_8 : decode cX8_statement 8 = .ok (.iaload, 1) := by decide +kernel
theorem dX8_statement_9 : decode cX8_statement 9 = .ok (.istore_n 2, 1) := by decide +kernel
theorem dX8_statement_10 : decode cX8_statement 10 = .ok (.aload_n 0, 1) := by decide +kernel
theorem dX8_statement_11 : decode cX8_statement 11 = .ok (.dup, 1) := by decide +kernel
theorem dX8_statement_12 : decode cX8_statement 12 = .ok (.getfield 152, 3) := by decide +kernel
theorem dX8_statement_15 : decode cX8_statement 15 = .ok (.iconst 1, 1) := by decide +kernel
theorem dX8_statement_16 : decode cX8_statement 16 = .ok (.iadd, 1) := by decide +kernel
theorem dX8_statement_17 : decode cX8_statement 17 = .ok (.putfield 152, 3) := by decide +kernel
theorem dX8_statement_20 : decode cX8_statement 20 = .ok (.iload_n 2, 1) := by decide +kernel
theorem dX8_statement_21 : decode cX8_statement 21 = .ok (.bipush 123, 2) := by decide +kernel
theorem dX8_statement_23 : decode cX8_statement 23 = .ok (.if_icmp .ne 38, 3) := by decide +kernel
theorem dX8_statement_26 : decode cX8_statement 26 = .ok (.aload_n 0, 1) := by decide +kernel
theorem dX8_statement_27 : decode cX8_statement 27 = .ok (.getfield 34, 3) := by decide +kernel
theorem dX8_statement_30 : decode cX8_statement 30 = .ok (.aload_n 0, 1) := by decide +kernel
theorem dX8_statement_31 : decode cX8_statement 31 = .ok (.getfield 152, 3) := by decide +kernel
theorem dX8_statement_34 : decode cX8_statement 34 = .ok (.iaload, 1) := by decide +kernel
theorem dX8_statement_35 : decode cX8_statement 35 = .ok (.bipush 125, 2) := by decide +kernel
theorem dX8_statement_37 : decode cX8_statement 37 = .ok (.if_icmp .eq 11, 3) := by decide +kernel
theorem dX8_statement_40 : decode cX8_statement 40 = .ok (.aload_n 0, 1) := by decide +kernel
theorem dX8_statement_41 : decode cX8_statement 41 = .ok (.iload_n 1, 1) := by decide +kernel
theorem dX8_statement_42 : decode cX8_statement 42 = .ok (.invokevirtual 167, 3) := by decide +kernel
theorem dX8_statement_45 : decode cX8_statement 45 = .ok (.goto (-19), 3) := by decide +kernel
theorem dX8_statement_48 : decode cX8_statement 48 = .ok (.aload_n 0, 1) := by decide +kernel
theorem dX8_statement_49 : decode cX8_statement 49 = .ok (.dup, 1) := by decide +kernel
theorem dX8_statement_50 : decode cX8_statement 50 = .ok (.getfield 152, 3) := by decide +kernel
theorem dX8_statement_53 : decode cX8_statement 53 = .ok (.iconst 1, 1) := by decide +kernel
theorem dX8_statement_54 : decode cX8_statement 54 = .ok (.iadd, 1) := by decide +kernel
theorem dX8_statement_55 : decode cX8_statement 55 = .ok (.putfield 152, 3) := by decide +kernel
theorem dX8_statement_58 : decode cX8_statement 58 = .ok (.goto 151, 3) := by decide +kernel
theorem dX8_statement_61 : decode cX8_statement 61 = .ok (.iload_n 2, 1) := by decide +kernel
theorem dX8_statement_62 : decode cX8_statement 62 = .ok (.bipush 63, 2) := by decide +kernel
theorem dX8_statement_64 : decode cX8_statement 64 = .ok (.if_icmp .ne 62, 3) := by decide +kernel
theorem dX8_statement_67 : decode cX8_statement 67 = .ok (.aload_n 0, 1) := by decide +kernel
theorem dX8_statement_68 : decode cX8_statement 68 = .ok (.invokevirtual 164, 3) := by decide +kernel
theorem dX8_statement_71 : decode cX8_statement 71 = .ok (.ifCond .eq 7, 3) := by decide +kernel
theorem dX8_statement_74 : decode cX8_statement 74 = .ok (.iconst 1, 1) := by decide +kernel
theorem dX8_statement_75 : decode cX8_statement 75 = .ok (.goto 4, 3) := by decide +kernel
theorem dX8_statement_78 : decode cX8_statement 78 = .ok (.iconst 0, 1) := by decide +kernel
theorem dX8_statement_79 : decode cX8_statement 79 = .ok (.istore_n 3, 1) := by decide +kernel
theorem dX8_statement_80 : decode cX8_statement 80 = .ok (.aload_n 0, 1) := by decide +kernel
theorem dX8_statement_81 : decode cX8_statement 81 = .ok (.iload_n 1, 1) := by decide +kernel
theorem dX8_statement_82 : decode cX8_statement 82 = .ok (.ifCond .eq 11, 3) := by decide +kernel
theorem dX8_statement_85 : decode cX8_statement 85 = .ok (.iload_n 3, 1) := by decide +kernel
theorem dX8_statement_86 : decode cX8_statement 86 = .ok (.ifCond .eq 7, 3) := by decide +kernel
theorem dX8_statement_89 : decode cX8_statement 89 = .ok (.iconst 1, 1) := by decide +kernel
theorem dX8_statement_90 : decode cX8_statement 90 = .ok (.goto 4, 3) := by decide +kernel
theorem dX8_statement_93 : decode cX8_statement 93 = .ok (.iconst 0, 1) := by decide +kernel
theorem dX8_statement_94 : decode cX8_statement 94 = .ok (.invokevirtual 167, 3) := by decide +kernel
theorem dX8_statement_97 : decode cX8_statement 97 = .ok (.aload_n 0, 1) := by decide +kernel
theorem dX8_statement_98 : decode cX8_statement 98 = .ok (.bipush 58, 2) := by decide +kernel
theorem dX8_statement_100 : decode cX8_statement 100 = .ok (.invokevirtual 161, 3) := by decide +kernel
theorem dX8_statement_103 : decode cX8_statement 103 = .ok (.ifCond .eq 20, 3) := by decide +kernel
theorem dX8_statement_106 : decode cX8_statement 106 = .ok (.aload_n 0, 1) := by decide +kernel
theorem dX8_statement_107 : decode cX8_statement 107 = .ok (.iload_n 1, 1) := by decide +kernel
theorem dX8_statement_108 : decode cX8_statement 108 = .ok (.ifCond .eq 11, 3) := by decide +kernel
theorem dX8_statement_111 : decode cX8_statement 111 = .ok (.iload_n 3, 1) := by decide +kernel
theorem dX8_statement_112 : decode cX8_statement 112 = .ok (.ifCond .ne 7, 3) := by decide +kernel
theorem dX8_statement_115 : decode cX8_statement 115 = .ok (.iconst 1, 1) := by decide +kernel
theorem dX8_statement_116 : decode cX8_statement 116 = .ok (.goto 4, 3) := by decide +kernel
theorem dX8_statement_119 : decode cX8_statement 119 = .ok (.iconst 0, 1) := by decide +kernel
theorem dX8_statement_120 : decode cX8_statement 120 = .ok (.invokevirtual 167, 3) := by decide +kernel
theorem dX8_statement_123 : decode cX8_statement 123 = .ok (.goto 86, 3) := by decide +kernel
theorem dX8_statement_126 : decode cX8_statement 126 = .ok (.iload_n 2, 1) := by decide +kernel
theorem dX8_statement_127 : decode cX8_statement 127 = .ok (.invokestatic 114, 3) := by decide +kernel
theorem dX8_statement_130 : decode cX8_statement 130 = .ok (.ifCond .eq 13, 3) := by decide +kernel
theorem dX8_statement_133 : decode cX8_statement 133 = .ok (.aload_n 0, 1) := by decide +kernel
theorem dX8_statement_134 : decode cX8_statement 134 = .ok (.dup, 1) := by decide +kernel
theorem dX8_statement_135 : decode cX8_statement 135 = .ok (.getfield 152, 3) := by decide +kernel
theorem dX8_statement_138 : decode cX8_statement 138 = .ok (.iconst 1, 1) := by decide +kernel
theorem dX8_statement_139 : decode cX8_statement 139 = .ok (.iadd, 1) := by decide +kernel
theorem dX8_statement_140 : decode cX8_statement 140 = .ok (.putfield 152, 3) := by decide +kernel
theorem dX8_statement_143 : decode cX8_statement 143 = .ok (.aload_n 0, 1) := by decide +kernel
theorem dX8_statement_144 : decode cX8_statement 144 = .ok (.invokevirtual 164, 3) := by decide +kernel
theorem dX8_statement_147 : decode cX8_statement 147 = .ok (.istore_n 3, 1) := by decide +kernel
theorem dX8_statement_148 : decode cX8_statement 148 = .ok (.aload_n 0, 1) := by decide +kernel
theorem dX8_statement_149 : decode cX8_statement 149 = .ok (.dup, 1) := by decide +kernel
theorem dX8_statement_150 : decode cX8_statement 150 = .ok (.getfield 152, 3) := by decide +kernel
theorem dX8_statement_153 : decode cX8_statement 153 = .ok (.iconst 1, 1) := by decide +kernel
theorem dX8_statement_154 : decode cX8_statement 154 = .ok (.iadd, 1) := by decide +kernel
theorem dX8_statement_155 : decode cX8_statement 155 = .ok (.putfield 152, 3) := by decide +kernel
theorem dX8_statement_158 : decode cX8_statement 158 = .ok (.iload_n 1, 1) := by decide +kernel
theorem dX8_statement_159 : decode cX8_statement 159 = .ok (.ifCond .eq 20, 3) := by decide +kernel
theorem dX8_statement_162 : decode cX8_statement 162 = .ok (.iload_n 2, 1) := by decide +kernel
theorem dX8_statement_163 : decode cX8_statement 163 = .ok (.invokestatic 114, 3) := by decide +kernel
theorem dX8_statement_166 : decode cX8_statement 166 = .ok (.ifCond .eq 13, 3) := by decide +kernel
theorem dX8_statement_169 : decode cX8_statement 169 = .ok (.aload_n 0, 1) := by decide +kernel
theorem dX8_statement_170 : decode cX8_statement 170 = .ok (.getfield 37, 3) := by decide +kernel
theorem dX8_statement_173 : decode cX8_statement 173 = .ok (.iload_n 2, 1) := by decide +kernel
theorem dX8_statement_174 : decode cX8_statement 174 = .ok (.bipush 97, 2) := by decide +kernel
theorem dX8_statement_176 : decode cX8_statement 176 = .ok (.isub, 1) := by decide +kernel
theorem dX8_statement_177 : decode cX8_statement 177 = .ok (.iload_n 3, 1) := by decide +kernel
theorem dX8_statement_178 : decode cX8_statement 178 = .ok (.iastore, 1) := by decide +kernel
theorem dX8_statement_179 : decode cX8_statement 179 = .ok (.iload_n 1, 1) := by decide +kernel
theorem dX8_statement_180 : decode cX8_statement 180 = .ok (.ifCond .eq 29, 3) := by decide +kernel
theorem dX8_statement_183 : decode cX8_statement 183 = .ok (.iload_n 2, 1) := by decide +kernel
theorem dX8_statement_184 : decode cX8_statement 184 = .ok (.bipush 33, 2) := by decide +kernel
theorem dX8_statement_186 : decode cX8_statement 186 = .ok (.if_icmp .ne 23, 3) := by decide +kernel
theorem dX8_statement_189 : decode cX8_statement 189 = .ok (.aload_n 0, 1) := by decide +kernel
theorem dX8_statement_190 : decode cX8_statement 190 = .ok (.getfield 40, 3) := by decide +kernel
theorem dX8_statement_193 : decode cX8_statement 193 = .ok (.aload_n 0, 1) := by decide +kernel
theorem dX8_statement_194 : decode cX8_statement 194 = .ok (.getfield 171, 3) := by decide +kernel
theorem dX8_statement_197 : decode cX8_statement 197 = .ok (.iload_n 3, 1) := by decide +kernel
theorem dX8_statement_198 : decode cX8_statement 198 = .ok (.iastore, 1) := by decide +kernel
theorem dX8_statement_199 : decode cX8_statement 199 = .ok (.aload_n 0, 1) := by decide +kernel
theorem dX8_statement_200 : decode cX8_statement 200 = .ok (.dup, 1) := by decide +kernel
theorem dX8_statement_201 : decode cX8_statement 201 = .ok (.getfield 171, 3) := by decide +kernel
theorem dX8_statement_204 : decode cX8_statement 204 = .ok (.iconst 1, 1) := by decide +kernel
theorem dX8_statement_205 : decode cX8_statement 205 = .ok (.iadd, 1) := by decide +kernel
theorem dX8_statement_206 : decode cX8_statement 206 = .ok (.putfield 171, 3) := by decide +kernel
theorem dX8_statement_209 : decode cX8_statement 209 = .ok (.return_, 1) := by decide +kernel
theorem dX8_run_0 : decode cX8_run 0 = .ok (.iconst 0, 1) := by decide +kernel
theorem dX8_run_1 : decode cX8_run 1 = .ok (.istore_n 2, 1) := by decide +kernel
theorem dX8_run_2 : decode cX8_run 2 = .ok (.iconst 0, 1) := by decide +kernel
theorem dX8_run_3 : decode cX8_run 3 = .ok (.istore_n 3, 1) := by decide +kernel
theorem dX8_run_4 : decode cX8_run 4 = .ok (.iload_n 3, 1) := by decide +kernel
theorem dX8_run_5 : decode cX8_run 5 = .ok (.aload_n 0, 1) := by decide +kernel
theorem dX8_run_6 : decode cX8_run 6 = .ok (.getfield 47, 3) := by decide +kernel
theorem dX8_run_9 : decode cX8_run 9 = .ok (.if_icmp .ge 48, 3) := by decide +kernel
theorem dX8_run_12 : decode cX8_run 12 = .ok (.aload_n 0, 1) := by decide +kernel
theorem dX8_run_13 : decode cX8_run 13 = .ok (.iload_n 3, 1) := by decide +kernel
theorem dX8_run_14 : decode cX8_run 14 = .ok (.invokevirtual 90, 3) := by decide +kernel
theorem dX8_run_17 : decode cX8_run 17 = .ok (.ifCond .eq 34, 3) := by decide +kernel
theorem dX8_run_20 : decode cX8_run 20 = .ok (.aload_n 0, 1) := by decide +kernel
theorem dX8_run_21 : decode cX8_run 21 = .ok (.getfield 13, 3) := by decide +kernel
theorem dX8_run_24 : decode cX8_run 24 = .ok (.iload_n 3, 1) := by decide +kernel
theorem dX8_run_25 : decode cX8_run 25 = .ok (.iaload, 1) := by decide +kernel
theorem dX8_run_26 : decode cX8_run 26 = .ok (.iload_n 1, 1) := by decide +kernel
theorem dX8_run_27 : decode cX8_run 27 = .ok (.invokestatic 93, 3) := by decide +kernel
theorem dX8_run_30 : decode cX8_run 30 = .ok (.ifCond .ne 6, 3) := by decide +kernel
theorem dX8_run_33 : decode cX8_run 33 = .ok (.goto 18, 3) := by decide +kernel
theorem dX8_run_36 : decode cX8_run 36 = .ok (.aload_n 0, 1) := by decide +kernel
theorem dX8_run_37 : decode cX8_run 37 = .ok (.getfield 34, 3) := by decide +kernel
theorem dX8_run_40 : decode cX8_run 40 = .ok (.iload_n 2, 1) := by decide +kernel
theorem dX8_run_41 : decode cX8_run 41 = .ok (.aload_n 0, 1) := by decide +kernel
theorem dX8_run_42 : decode cX8_run 42 = .ok (.getfield 9, 3) := by decide +kernel
theorem dX8_run_45 : decode cX8_run 45 = .ok (.iload_n 3, 1) := by decide +kernel
theorem dX8_run_46 : decode cX8_run 46 = .ok (.iaload, 1) := by decide +kernel
theorem dX8_run_47 : decode cX8_run 47 = .ok (.iastore, 1) := by decide +kernel
theorem dX8_run_48 : decode cX8_run 48 = .ok (.iinc 2 1, 3) := by decide +kernel
theorem dX8_run_51 : decode cX8_run 51 = .ok (.iinc 3 1, 3) := by decide +kernel
theorem dX8_run_54 : decode cX8_run 54 = .ok (.goto (-50), 3) := by decide +kernel
theorem dX8_run_57 : decode cX8_run 57 = .ok (.aload_n 0, 1) := by decide +kernel
theorem dX8_run_58 : decode cX8_run 58 = .ok (.getfield 34, 3) := by decide +kernel
theorem dX8_run_61 : decode cX8_run 61 = .ok (.iload_n 2, 1) := by decide +kernel
theorem dX8_run_62 : decode cX8_run 62 = .ok (.iconst 0, 1) := by decide +kernel
theorem dX8_run_63 : decode cX8_run 63 = .ok (.iastore, 1) := by decide +kernel
theorem dX8_run_64 : decode cX8_run 64 = .ok (.aload_n 0, 1) := by decide +kernel
theorem dX8_run_65 : decode cX8_run 65 = .ok (.iconst 0, 1) := by decide +kernel
theorem dX8_run_66 : decode cX8_run 66 = .ok (.putfield 152, 3) := by decide +kernel
theorem dX8_run_69 : decode cX8_run 69 = .ok (.aload_n 0, 1) := by decide +kernel
theorem dX8_run_70 : decode cX8_run 70 = .ok (.iconst 0, 1) := by decide +kernel
theorem dX8_run_71 : decode cX8_run 71 = .ok (.putfield 171, 3) := by decide +kernel
theorem dX8_run_74 : decode cX8_run 74 = .ok (.iconst 0, 1) := by decide +kernel
theorem dX8_run_75 : decode cX8_run 75 = .ok (.istore_n 3, 1) := by decide +kernel
theorem dX8_run_76 : decode cX8_run 76 = .ok (.iload_n 3, 1) := by decide +kernel
theorem dX8_run_77 : decode cX8_run 77 = .ok (.iconst 4, 1) := by decide +kernel
theorem dX8_run_78 : decode cX8_run 78 = .ok (.if_icmp .ge 16, 3) := by decide +kernel
theorem dX8_run_81 : decode cX8_run 81 = .ok (.aload_n 0, 1) := by decide +kernel
theorem dX8_run_82 : decode cX8_run 82 = .ok (.getfield 37, 3) := by decide +kernel
theorem dX8_run_85 : decode cX8_run 85 = .ok (.iload_n 3, 1) := by decide +kernel
theorem dX8_run_86 : decode cX8_run 86 = .ok (.iconst 0, 1) := by decide +kernel
theorem dX8_run_87 : decode cX8_run 87 = .ok (.iastore, 1) := by decide +kernel
theorem dX8_run_88 : decode cX8_run 88 = .ok (.iinc 3 1, 3) := by decide +kernel
theorem dX8_run_91 : decode cX8_run 91 = .ok (.goto (-15), 3) := by decide +kernel
theorem dX8_run_94 : decode cX8_run 94 = .ok (.aload_n 0, 1) := by decide +kernel
theorem dX8_run_95 : decode cX8_run 95 = .ok (.getfield 152, 3) := by decide +kernel
theorem dX8_run_98 : decode cX8_run 98 = .ok (.iload_n 2, 1) := by decide +kernel
theorem dX8_run_99 : decode cX8_run 99 = .ok (.if_icmp .ge 11, 3) := by decide +kernel
theorem dX8_run_102 : decode cX8_run 102 = .ok (.aload_n 0, 1) := by decide +kernel
theorem dX8_run_103 : decode cX8_run 103 = .ok (.iconst 1, 1) := by decide +kernel
theorem dX8_run_104 : decode cX8_run 104 = .ok (.invokevirtual 167, 3) := by decide +kernel
theorem dX8_run_107 : decode cX8_run 107 = .ok (.goto (-13), 3) := by decide +kernel
theorem dX8_run_110 : decode cX8_run 110 = .ok (.return_, 1) := by decide +kernel
theorem dX8_asks_0 : decode cX8_asks 0 = .ok (.aload_n 0, 1) := by decide +kernel
theorem dX8_asks_1 : decode cX8_asks 1 = .ok (.iload_n 1, 1) := by decide +kernel
theorem dX8_asks_2 : decode cX8_asks 2 = .ok (.invokestatic 101, 3) := by decide +kernel
theorem dX8_asks_5 : decode cX8_asks 5 = .ok (.ifCond .ne 7, 3) := by decide +kernel
theorem dX8_asks_8 : decode cX8_asks 8 = .ok (.iconst 1, 1) := by decide +kernel
theorem dX8_asks_9 : decode cX8_asks 9 = .ok (.goto 15, 3) := by decide +kernel
theorem dX8_asks_12 : decode cX8_asks 12 = .ok (.aload_n 0, 1) := by decide +kernel
theorem dX8_asks_13 : decode cX8_asks 13 = .ok (.invokevirtual 142, 3) := by decide +kernel
theorem dX8_asks_16 : decode cX8_asks 16 = .ok (.ifCond .ne 7, 3) := by decide +kernel
theorem dX8_asks_19 : decode cX8_asks 19 = .ok (.iconst 2, 1) := by decide +kernel
theorem dX8_asks_20 : decode cX8_asks 20 = .ok (.goto 4, 3) := by decide +kernel
theorem dX8_asks_23 : decode cX8_asks 23 = .ok (.iconst 0, 1) := by decide +kernel
theorem dX8_asks_24 : decode cX8_asks 24 = .ok (.putfield 43, 3) := by decide +kernel
theorem dX8_asks_27 : decode cX8_asks 27 = .ok (.aload_n 0, 1) := by decide +kernel
theorem dX8_asks_28 : decode cX8_asks 28 = .ok (.getfield 43, 3) := by decide +kernel
theorem dX8_asks_31 : decode cX8_asks 31 = .ok (.ifCond .eq 5, 3) := by decide +kernel
theorem dX8_asks_34 : decode cX8_asks 34 = .ok (.iconst 0, 1) := by decide +kernel
theorem dX8_asks_35 : decode cX8_asks 35 = .ok (.ireturn, 1) := by decide +kernel
theorem dX8_asks_36 : decode cX8_asks 36 = .ok (.aload_n 0, 1) := by decide +kernel
theorem dX8_asks_37 : decode cX8_asks 37 = .ok (.invokevirtual 146, 3) := by decide +kernel
theorem dX8_asks_40 : decode cX8_asks 40 = .ok (.aload_n 0, 1) := by decide +kernel
theorem dX8_asks_41 : decode cX8_asks 41 = .ok (.getfield 25, 3) := by decide +kernel
theorem dX8_asks_44 : decode cX8_asks 44 = .ok (.iload_n 1, 1) := by decide +kernel
theorem dX8_asks_45 : decode cX8_asks 45 = .ok (.iaload, 1) := by decide +kernel
theorem dX8_asks_46 : decode cX8_asks 46 = .ok (.iconst (-1), 1) := by decide +kernel
theorem dX8_asks_47 : decode cX8_asks 47 = .ok (.if_icmp .eq 11, 3) := by decide +kernel
theorem dX8_asks_50 : decode cX8_asks 50 = .ok (.aload_n 0, 1) := by decide +kernel
theorem dX8_asks_51 : decode cX8_asks 51 = .ok (.iconst 3, 1) := by decide +kernel
theorem dX8_asks_52 : decode cX8_asks 52 = .ok (.putfield 43, 3) := by decide +kernel
theorem dX8_asks_55 : decode cX8_asks 55 = .ok (.goto 8, 3) := by decide +kernel
theorem dX8_asks_58 : decode cX8_asks 58 = .ok (.aload_n 0, 1) := by decide +kernel
theorem dX8_asks_59 : decode cX8_asks 59 = .ok (.iload_n 1, 1) := by decide +kernel
theorem dX8_asks_60 : decode cX8_asks 60 = .ok (.invokevirtual 174, 3) := by decide +kernel
theorem dX8_asks_63 : decode cX8_asks 63 = .ok (.aload_n 0, 1) := by decide +kernel
theorem dX8_asks_64 : decode cX8_asks 64 = .ok (.getfield 43, 3) := by decide +kernel
theorem dX8_asks_67 : decode cX8_asks 67 = .ok (.ifCond .ne 7, 3) := by decide +kernel
theorem dX8_asks_70 : decode cX8_asks 70 = .ok (.iconst 1, 1) := by decide +kernel
theorem dX8_asks_71 : decode cX8_asks 71 = .ok (.goto 4, 3) := by decide +kernel
theorem dX8_asks_74 : decode cX8_asks 74 = .ok (.iconst 0, 1) := by decide +kernel
theorem dX8_asks_75 : decode cX8_asks 75 = .ok (.ireturn, 1) := by decide +kernel
theorem dX8_outputs_0 : decode cX8_outputs 0 = .ok (.aload_n 0, 1) := by decide +kernel
theorem dX8_outputs_1 : decode cX8_outputs 1 = .ok (.iload_n 1, 1) := by decide +kernel
theorem dX8_outputs_2 : decode cX8_outputs 2 = .ok (.invokevirtual 178, 3) := by decide +kernel
theorem dX8_outputs_5 : decode cX8_outputs 5 = .ok (.ifCond .eq 10, 3) := by decide +kernel
theorem dX8_outputs_8 : decode cX8_outputs 8 = .ok (.aload_n 0, 1) := by decide +kernel
theorem dX8_outputs_9 : decode cX8_outputs 9 = .ok (.getfield 171, 3) := by decide +kernel
theorem dX8_outputs_12 : decode cX8_outputs 12 = .ok (.goto 4, 3) := by decide +kernel
theorem dX8_outputs_15 : decode cX8_outputs 15 = .ok (.iconst 0, 1) := by decide +kernel
theorem dX8_outputs_16 : decode cX8_outputs 16 = .ok (.ireturn, 1) := by decide +kernel
theorem dX8_output_0 : decode cX8_output 0 = .ok (.aload_n 0, 1) := by decide +kernel
theorem dX8_output_1 : decode cX8_output 1 = .ok (.iload_n 1, 1) := by decide +kernel
theorem dX8_output_2 : decode cX8_output 2 = .ok (.invokevirtual 178, 3) := by decide +kernel
theorem dX8_output_5 : decode cX8_output 5 = .ok (.ifCond .ne 5, 3) := by decide +kernel
theorem dX8_output_8 : decode cX8_output 8 = .ok (.iconst 0, 1) := by decide +kernel
theorem dX8_output_9 : decode cX8_output 9 = .ok (.ireturn, 1) := by decide +kernel
theorem dX8_output_10 : decode cX8_output 10 = .ok (.iload_n 2, 1) := by decide +kernel
theorem dX8_output_11 : decode cX8_output 11 = .ok (.iconst 0, 1) := by decide +kernel
theorem dX8_output_12 : decode cX8_output 12 = .ok (.aload_n 0, 1) := by decide +kernel
theorem dX8_output_13 : decode cX8_output 13 = .ok (.getfield 171, 3) := by decide +kernel
theorem dX8_output_16 : decode cX8_output 16 = .ok (.iconst 1, 1) := by decide +kernel
theorem dX8_output_17 : decode cX8_output 17 = .ok (.isub, 1) := by decide +kernel
theorem dX8_output_18 : decode cX8_output 18 = .ok (.invokestatic 50, 3) := by decide +kernel
theorem dX8_output_21 : decode cX8_output 21 = .ok (.ifCond .eq 12, 3) := by decide +kernel
theorem dX8_output_24 : decode cX8_output 24 = .ok (.aload_n 0, 1) := by decide +kernel
theorem dX8_output_25 : decode cX8_output 25 = .ok (.getfield 40, 3) := by decide +kernel
theorem dX8_output_28 : decode cX8_output 28 = .ok (.iload_n 2, 1) := by decide +kernel
theorem dX8_output_29 : decode cX8_output 29 = .ok (.iaload, 1) := by decide +kernel
theorem dX8_output_30 : decode cX8_output 30 = .ok (.goto 8, 3) := by decide +kernel
theorem dX8_output_33 : decode cX8_output 33 = .ok (.aload_n 0, 1) := by decide +kernel
theorem dX8_output_34 : decode cX8_output 34 = .ok (.iconst 4, 1) := by decide +kernel
theorem dX8_output_35 : decode cX8_output 35 = .ok (.invokevirtual 68, 3) := by decide +kernel
theorem dX8_output_38 : decode cX8_output 38 = .ok (.ireturn, 1) := by decide +kernel
theorem dX8_variable_0 : decode cX8_variable 0 = .ok (.aload_n 0, 1) := by decide +kernel
theorem dX8_variable_1 : decode cX8_variable 1 = .ok (.iload_n 1, 1) := by decide +kernel
theorem dX8_variable_2 : decode cX8_variable 2 = .ok (.invokevirtual 178, 3) := by decide +kernel
theorem dX8_variable_5 : decode cX8_variable 5 = .ok (.ifCond .ne 5, 3) := by decide +kernel
theorem dX8_variable_8 : decode cX8_variable 8 = .ok (.iconst 0, 1) := by decide +kernel
theorem dX8_variable_9 : decode cX8_variable 9 = .ok (.ireturn, 1) := by decide +kernel
theorem dX8_variable_10 : decode cX8_variable 10 = .ok (.iload_n 2, 1) := by decide +kernel
theorem dX8_variable_11 : decode cX8_variable 11 = .ok (.iconst 0, 1) := by decide +kernel
theorem dX8_variable_12 : decode cX8_variable 12 = .ok (.iconst 3, 1) := by decide +kernel
theorem dX8_variable_13 : decode cX8_variable 13 = .ok (.invokestatic 50, 3) := by decide +kernel
theorem dX8_variable_16 : decode cX8_variable 16 = .ok (.ifCond .eq 12, 3) := by decide +kernel
theorem dX8_variable_19 : decode cX8_variable 19 = .ok (.aload_n 0, 1) := by decide +kernel
theorem dX8_variable_20 : decode cX8_variable 20 = .ok (.getfield 37, 3) := by decide +kernel
theorem dX8_variable_23 : decode cX8_variable 23 = .ok (.iload_n 2, 1) := by decide +kernel
theorem dX8_variable_24 : decode cX8_variable 24 = .ok (.iaload, 1) := by decide +kernel
theorem dX8_variable_25 : decode cX8_variable 25 = .ok (.goto 8, 3) := by decide +kernel
theorem dX8_variable_28 : decode cX8_variable 28 = .ok (.aload_n 0, 1) := by decide +kernel
theorem dX8_variable_29 : decode cX8_variable 29 = .ok (.iconst 4, 1) := by decide +kernel
theorem dX8_variable_30 : decode cX8_variable 30 = .ok (.invokevirtual 68, 3) := by decide +kernel
theorem dX8_variable_33 : decode cX8_variable 33 = .ok (.ireturn, 1) := by decide +kernel
theorem dX8_behaviours_0 : decode cX8_behaviours 0 = .ok (.aload_n 0, 1) := by decide +kernel
theorem dX8_behaviours_1 : decode cX8_behaviours 1 = .ok (.iconst 0, 1) := by decide +kernel
theorem dX8_behaviours_2 : decode cX8_behaviours 2 = .ok (.putfield 43, 3) := by decide +kernel
theorem dX8_behaviours_5 : decode cX8_behaviours 5 = .ok (.aload_n 0, 1) := by decide +kernel
theorem dX8_behaviours_6 : decode cX8_behaviours 6 = .ok (.invokevirtual 142, 3) := by decide +kernel
theorem dX8_behaviours_9 : decode cX8_behaviours 9 = .ok (.ifCond .ne 9, 3) := by decide +kernel
theorem dX8_behaviours_12 : decode cX8_behaviours 12 = .ok (.aload_n 0, 1) := by decide +kernel
theorem dX8_behaviours_13 : decode cX8_behaviours 13 = .ok (.iconst 1, 1) := by decide +kernel
theorem dX8_behaviours_14 : decode cX8_behaviours 14 = .ok (.invokevirtual 68, 3) := by decide +kernel
theorem dX8_behaviours_17 : decode cX8_behaviours 17 = .ok (.ireturn, 1) := by decide +kernel
theorem dX8_behaviours_18 : decode cX8_behaviours 18 = .ok (.aload_n 0, 1) := by decide +kernel
theorem dX8_behaviours_19 : decode cX8_behaviours 19 = .ok (.invokevirtual 146, 3) := by decide +kernel
theorem dX8_behaviours_22 : decode cX8_behaviours 22 = .ok (.bipush 16, 2) := by decide +kernel
theorem dX8_behaviours_24 : decode cX8_behaviours 24 = .ok (.newarray .int, 2) := by decide +kernel
theorem dX8_behaviours_26 : decode cX8_behaviours 26 = .ok (.astore_n 1, 1) := by decide +kernel
theorem dX8_behaviours_27 : decode cX8_behaviours 27 = .ok (.sipush 1280, 3) := by decide +kernel
theorem dX8_behaviours_30 : decode cX8_behaviours 30 = .ok (.newarray .int, 2) := by decide +kernel
theorem dX8_behaviours_32 : decode cX8_behaviours 32 = .ok (.astore_n 2, 1) := by decide +kernel
theorem dX8_behaviours_33 : decode cX8_behaviours 33 = .ok (.iconst 0, 1) := by decide +kernel
theorem dX8_behaviours_34 : decode cX8_behaviours 34 = .ok (.istore_n 3, 1) := by decide +kernel
theorem dX8_behaviours_35 : decode cX8_behaviours 35 = .ok (.iconst 0, 1) := by decide +kernel
theorem dX8_behaviours_36 : decode cX8_behaviours 36 = .ok (.istore 4, 2) := by decide +kernel
theorem dX8_behaviours_38 : decode cX8_behaviours 38 = .ok (.iload 4, 2) := by decide +kernel
theorem dX8_behaviours_40 : decode cX8_behaviours 40 = .ok (.bipush 16, 2) := by decide +kernel
theorem dX8_behaviours_42 : decode cX8_behaviours 42 = .ok (.if_icmp .ge 194, 3) := by decide +kernel
theorem dX8_behaviours_45 : decode cX8_behaviours 45 = .ok (.aload_n 1, 1) := by decide +kernel
theorem dX8_behaviours_46 : decode cX8_behaviours 46 = .ok (.iload 4, 2) := by decide +kernel
theorem dX8_behaviours_48 : decode cX8_behaviours 48 = .ok (.iconst (-1), 1) := by decide +kernel
theorem dX8_behaviours_49 : decode cX8_behaviours 49 = .ok (.iastore, 1) := by decide +kernel
theorem dX8_behaviours_50 : decode cX8_behaviours 50 = .ok (.aload_n 0, 1) := by decide +kernel
theorem dX8_behaviours_51 : decode cX8_behaviours 51 = .ok (.getfield 25, 3) := by decide +kernel
theorem dX8_behaviours_54 : decode cX8_behaviours 54 = .ok (.iload 4, 2) := by decide +kernel
theorem dX8_behaviours_56 : decode cX8_behaviours 56 = .ok (.iaload, 1) := by decide +kernel
theorem dX8_behaviours_57 : decode cX8_behaviours 57 = .ok (.iconst (-1), 1) := by decide +kernel
theorem dX8_behaviours_58 : decode cX8_behaviours 58 = .ok (.if_icmp .eq 6, 3) := by decide +kernel
theorem dX8_behaviours_61 : decode cX8_behaviours 61 = .ok (.goto 169, 3) := by decide +kernel
theorem dX8_behaviours_64 : decode cX8_behaviours 64 = .ok (.aload_n 0, 1) := by decide +kernel
theorem dX8_behaviours_65 : decode cX8_behaviours 65 = .ok (.iload 4, 2) := by decide +kernel
theorem dX8_behaviours_67 : decode cX8_behaviours 67 = .ok (.invokevirtual 174, 3) := by decide +kernel
theorem dX8_behaviours_70 : decode cX8_behaviours 70 = .ok (.aload_n 1, 1) := by decide +kernel
theorem dX8_behaviours_71 : decode cX8_behaviours 71 = .ok (.iload 4, 2) := by decide +kernel
theorem dX8_behaviours_73 : decode cX8_behaviours 73 = .ok (.aload_n 0, 1) := by decide +kernel
theorem dX8_behaviours_74 : decode cX8_behaviours 74 = .ok (.getfield 171, 3) := by decide +kernel
theorem dX8_behaviours_77 : decode cX8_behaviours 77 = .ok (.iastore, 1) := by decide +kernel
theorem dX8_behaviours_78 : decode cX8_behaviours 78 = .ok (.iconst 0, 1) := by decide +kernel
theorem dX8_behaviours_79 : decode cX8_behaviours 79 = .ok (.istore 5, 2) := by decide +kernel
theorem dX8_behaviours_81 : decode cX8_behaviours 81 = .ok (.iload 5, 2) := by decide +kernel
theorem dX8_behaviours_83 : decode cX8_behaviours 83 = .ok (.aload_n 0, 1) := by decide +kernel
theorem dX8_behaviours_84 : decode cX8_behaviours 84 = .ok (.getfield 171, 3) := by decide +kernel
theorem dX8_behaviours_87 : decode cX8_behaviours 87 = .ok (.if_icmp .ge 26, 3) := by decide +kernel
theorem dX8_behaviours_90 : decode cX8_behaviours 90 = .ok (.aload_n 2, 1) := by decide +kernel
theorem dX8_behaviours_91 : decode cX8_behaviours 91 = .ok (.bipush 80, 2) := by decide +kernel
theorem dX8_behaviours_93 : decode cX8_behaviours 93 = .ok (.iload 4, 2) := by decide +kernel
theorem dX8_behaviours_95 : decode cX8_behaviours 95 = .ok (.imul, 1) := by decide +kernel
theorem dX8_behaviours_96 : decode cX8_behaviours 96 = .ok (.iload 5, 2) := by decide +kernel
theorem dX8_behaviours_98 : decode cX8_behaviours 98 = .ok (.iadd, 1) := by decide +kernel
theorem dX8_behaviours_99 : decode cX8_behaviours 99 = .ok (.aload_n 0, 1) := by decide +kernel
theorem dX8_behaviours_100 : decode cX8_behaviours 100 = .ok (.getfield 40, 3) := by decide +kernel
theorem dX8_behaviours_103 : decode cX8_behaviours 103 = .ok (.iload 5, 2) := by decide +kernel
theorem dX8_behaviours_105 : decode cX8_behaviours 105 = .ok (.iaload, 1) := by decide +kernel
theorem dX8_behaviours_106 : decode cX8_behaviours 106 = .ok (.iastore, 1) := by decide +kernel
theorem dX8_behaviours_107 : decode cX8_behaviours 107 = .ok (.iinc 5 1, 3) := by decide +kernel
theorem dX8_behaviours_110 : decode cX8_behaviours 110 = .ok (.goto (-29), 3) := by decide +kernel
theorem dX8_behaviours_113 : decode cX8_behaviours 113 = .ok (.iconst 1, 1) := by decide +kernel
theorem dX8_behaviours_114 : decode cX8_behaviours 114 = .ok (.istore 5, 2) := by decide +kernel
theorem dX8_behaviours_116 : decode cX8_behaviours 116 = .ok (.iconst 0, 1) := by decide +kernel
theorem dX8_behaviours_117 : decode cX8_behaviours 117 = .ok (.istore 6, 2) := by decide +kernel
theorem dX8_behaviours_119 : decode cX8_behaviours 119 = .ok (.iload 6, 2) := by decide +kernel
theorem dX8_behaviours_121 : decode cX8_behaviours 121 = .ok (.iload 4, 2) := by decide +kernel
theorem dX8_behaviours_123 : decode cX8_behaviours 123 = .ok (.if_icmp .ge 94, 3) := by decide +kernel
theorem dX8_behaviours_126 : decode cX8_behaviours 126 = .ok (.iload 5, 2) := by decide +kernel
theorem dX8_behaviours_128 : decode cX8_behaviours 128 = .ok (.ifCond .eq 89, 3) := by decide +kernel
theorem dX8_behaviours_131 : decode cX8_behaviours 131 = .ok (.aload_n 1, 1) := by decide +kernel
theorem dX8_behaviours_132 : decode cX8_behaviours 132 = .ok (.iload 6, 2) := by decide +kernel
theorem dX8_behaviours_134 : decode cX8_behaviours 134 = .ok (.iaload, 1) := by decide +kernel
theorem dX8_behaviours_135 : decode cX8_behaviours 135 = .ok (.aload_n 0, 1) := by decide +kernel
theorem dX8_behaviours_136 : decode cX8_behaviours 136 = .ok (.getfield 171, 3) := by decide +kernel
theorem dX8_behaviours_139 : decode cX8_behaviours 139 = .ok (.if_icmp .ne 7, 3) := by decide +kernel
theorem dX8_behaviours_142 : decode cX8_behaviours 142 = .ok (.iconst 1, 1) := by decide +kernel
theorem dX8_behaviours_143 : decode cX8_behaviours 143 = .ok (.goto 4, 3) := by decide +kernel
theorem dX8_behaviours_146 : decode cX8_behaviours 146 = .ok (.iconst 0, 1) := by decide +kernel
theorem dX8_behaviours_147 : decode cX8_behaviours 147 = .ok (.istore 7, 2) := by decide +kernel
theorem dX8_behaviours_149 : decode cX8_behaviours 149 = .ok (.iconst 0, 1) := by decide +kernel
theorem dX8_behaviours_150 : decode cX8_behaviours 150 = .ok (.istore 8, 2) := by decide +kernel
theorem dX8_behaviours_152 : decode cX8_behaviours 152 = .ok (.iload 8, 2) := by decide +kernel
theorem dX8_behaviours_154 : decode cX8_behaviours 154 = .ok (.aload_n 0, 1) := by decide +kernel
theorem dX8_behaviours_155 : decode cX8_behaviours 155 = .ok (.getfield 171, 3) := by decide +kernel
theorem dX8_behaviours_158 : decode cX8_behaviours 158 = .ok (.if_icmp .ge 41, 3) := by decide +kernel
theorem dX8_behaviours_161 : decode cX8_behaviours 161 = .ok (.iload 7, 2) := by decide +kernel
theorem dX8_behaviours_163 : decode cX8_behaviours 163 = .ok (.ifCond .eq 36, 3) := by decide +kernel
theorem dX8_behaviours_166 : decode cX8_behaviours 166 = .ok (.aload_n 2, 1) := by decide +kernel
theorem dX8_behaviours_167 : decode cX8_behaviours 167 = .ok (.bipush 80, 2) := by decide +kernel
theorem dX8_behaviours_169 : decode cX8_behaviours 169 = .ok (.iload 6, 2) := by decide +kernel
theorem dX8_behaviours_171 : decode cX8_behaviours 171 = .ok (.imul, 1) := by decide +kernel
theorem dX8_behaviours_172 : decode cX8_behaviours 172 = .ok (.iload 8, 2) := by decide +kernel
theorem dX8_behaviours_174 : decode cX8_behaviours 174 = .ok (.iadd, 1) := by decide +kernel
theorem dX8_behaviours_175 : decode cX8_behaviours 175 = .ok (.iaload, 1) := by decide +kernel
theorem dX8_behaviours_176 : decode cX8_behaviours 176 = .ok (.aload_n 0, 1) := by decide +kernel
theorem dX8_behaviours_177 : decode cX8_behaviours 177 = .ok (.getfield 40, 3) := by decide +kernel
theorem dX8_behaviours_180 : decode cX8_behaviours 180 = .ok (.iload 8, 2) := by decide +kernel
theorem dX8_behaviours_182 : decode cX8_behaviours 182 = .ok (.iaload, 1) := by decide +kernel
theorem dX8_behaviours_183 : decode cX8_behaviours 183 = .ok (.if_icmp .ne 7, 3) := by decide +kernel
theorem dX8_behaviours_186 : decode cX8_behaviours 186 = .ok (.iconst 1, 1) := by decide +kernel
theorem dX8_behaviours_187 : decode cX8_behaviours 187 = .ok (.goto 4, 3) := by decide +kernel
theorem dX8_behaviours_190 : decode cX8_behaviours 190 = .ok (.iconst 0, 1) := by decide +kernel
theorem dX8_behaviours_191 : decode cX8_behaviours 191 = .ok (.istore 7, 2) := by decide +kernel
theorem dX8_behaviours_193 : decode cX8_behaviours 193 = .ok (.iinc 8 1, 3) := by decide +kernel
theorem dX8_behaviours_196 : decode cX8_behaviours 196 = .ok (.goto (-44), 3) := by decide +kernel
theorem dX8_behaviours_199 : decode cX8_behaviours 199 = .ok (.iload 7, 2) := by decide +kernel
theorem dX8_behaviours_201 : decode cX8_behaviours 201 = .ok (.ifCond .ne 7, 3) := by decide +kernel
theorem dX8_behaviours_204 : decode cX8_behaviours 204 = .ok (.iconst 1, 1) := by decide +kernel
theorem dX8_behaviours_205 : decode cX8_behaviours 205 = .ok (.goto 4, 3) := by decide +kernel
theorem dX8_behaviours_208 : decode cX8_behaviours 208 = .ok (.iconst 0, 1) := by decide +kernel
theorem dX8_behaviours_209 : decode cX8_behaviours 209 = .ok (.istore 5, 2) := by decide +kernel
theorem dX8_behaviours_211 : decode cX8_behaviours 211 = .ok (.iinc 6 1, 3) := by decide +kernel
theorem dX8_behaviours_214 : decode cX8_behaviours 214 = .ok (.goto (-95), 3) := by decide +kernel
theorem dX8_behaviours_217 : decode cX8_behaviours 217 = .ok (.iload_n 3, 1) := by decide +kernel
theorem dX8_behaviours_218 : decode cX8_behaviours 218 = .ok (.iload 5, 2) := by decide +kernel
theorem dX8_behaviours_220 : decode cX8_behaviours 220 = .ok (.ifCond .eq 7, 3) := by decide +kernel
theorem dX8_behaviours_223 : decode cX8_behaviours 223 = .ok (.iconst 1, 1) := by decide +kernel
theorem dX8_behaviours_224 : decode cX8_behaviours 224 = .ok (.goto 4, 3) := by decide +kernel
theorem dX8_behaviours_227 : decode cX8_behaviours 227 = .ok (.iconst 0, 1) := by decide +kernel
theorem dX8_behaviours_228 : decode cX8_behaviours 228 = .ok (.iadd, 1) := by decide +kernel
theorem dX8_behaviours_229 : decode cX8_behaviours 229 = .ok (.istore_n 3, 1) := by decide +kernel
theorem dX8_behaviours_230 : decode cX8_behaviours 230 = .ok (.iinc 4 1, 3) := by decide +kernel
theorem dX8_behaviours_233 : decode cX8_behaviours 233 = .ok (.goto (-195), 3) := by decide +kernel
theorem dX8_behaviours_236 : decode cX8_behaviours 236 = .ok (.iload_n 3, 1) := by decide +kernel
theorem dX8_behaviours_237 : decode cX8_behaviours 237 = .ok (.ireturn, 1) := by decide +kernel
theorem dX8_digest_0 : decode cX8_digest 0 = .ok (.aload_n 0, 1) := by decide +kernel
theorem dX8_digest_1 : decode cX8_digest 1 = .ok (.iconst 0, 1) := by decide +kernel
theorem dX8_digest_2 : decode cX8_digest 2 = .ok (.putfield 43, 3) := by decide +kernel
theorem dX8_digest_5 : decode cX8_digest 5 = .ok (.aload_n 0, 1) := by decide +kernel
theorem dX8_digest_6 : decode cX8_digest 6 = .ok (.invokevirtual 98, 3) := by decide +kernel
theorem dX8_digest_9 : decode cX8_digest 9 = .ok (.ldc2_w 181, 3) := by decide +kernel
theorem dX8_digest_12 : decode cX8_digest 12 = .ok (.aload_n 0, 1) := by decide +kernel
theorem dX8_digest_13 : decode cX8_digest 13 = .ok (.getfield 47, 3) := by decide +kernel
theorem dX8_digest_16 : decode cX8_digest 16 = .ok (.i2l, 1) := by decide +kernel
theorem dX8_digest_17 : decode cX8_digest 17 = .ok (.ladd, 1) := by decide +kernel
theorem dX8_digest_18 : decode cX8_digest 18 = .ok (.lstore_n 1, 1) := by decide +kernel
theorem dX8_digest_19 : decode cX8_digest 19 = .ok (.iconst 0, 1) := by decide +kernel
theorem dX8_digest_20 : decode cX8_digest 20 = .ok (.istore_n 3, 1) := by decide +kernel
theorem dX8_digest_21 : decode cX8_digest 21 = .ok (.iload_n 3, 1) := by decide +kernel
theorem dX8_digest_22 : decode cX8_digest 22 = .ok (.aload_n 0, 1) := by decide +kernel
theorem dX8_digest_23 : decode cX8_digest 23 = .ok (.getfield 47, 3) := by decide +kernel
theorem dX8_digest_26 : decode cX8_digest 26 = .ok (.if_icmp .ge 35, 3) := by decide +kernel
theorem dX8_digest_29 : decode cX8_digest 29 = .ok (.lload_n 1, 1) := by decide +kernel
theorem dX8_digest_30 : decode cX8_digest 30 = .ok (.ldc2_w 183, 3) := by decide +kernel
theorem dX8_digest_33 : decode cX8_digest 33 = .ok (.lmul, 1) := by decide +kernel
theorem dX8_digest_34 : decode cX8_digest 34 = .ok (.aload_n 0, 1) := by decide +kernel
theorem dX8_digest_35 : decode cX8_digest 35 = .ok (.getfield 9, 3) := by decide +kernel
theorem dX8_digest_38 : decode cX8_digest 38 = .ok (.iload_n 3, 1) := by decide +kernel
theorem dX8_digest_39 : decode cX8_digest 39 = .ok (.iaload, 1) := by decide +kernel
theorem dX8_digest_40 : decode cX8_digest 40 = .ok (.i2l, 1) := by decide +kernel
theorem dX8_digest_41 : decode cX8_digest 41 = .ok (.ladd, 1) := by decide +kernel
theorem dX8_digest_42 : decode cX8_digest 42 = .ok (.ldc2_w 183, 3) := by decide +kernel
theorem dX8_digest_45 : decode cX8_digest 45 = .ok (.lmul, 1) := by decide +kernel
theorem dX8_digest_46 : decode cX8_digest 46 = .ok (.aload_n 0, 1) := by decide +kernel
theorem dX8_digest_47 : decode cX8_digest 47 = .ok (.getfield 13, 3) := by decide +kernel
theorem dX8_digest_50 : decode cX8_digest 50 = .ok (.iload_n 3, 1) := by decide +kernel
theorem dX8_digest_51 : decode cX8_digest 51 = .ok (.iaload, 1) := by decide +kernel
theorem dX8_digest_52 : decode cX8_digest 52 = .ok (.i2l, 1) := by decide +kernel
theorem dX8_digest_53 : decode cX8_digest 53 = .ok (.ladd, 1) := by decide +kernel
theorem dX8_digest_54 : decode cX8_digest 54 = .ok (.lstore_n 1, 1) := by decide +kernel
theorem dX8_digest_55 : decode cX8_digest 55 = .ok (.iinc 3 1, 3) := by decide +kernel
theorem dX8_digest_58 : decode cX8_digest 58 = .ok (.goto (-37), 3) := by decide +kernel
theorem dX8_digest_61 : decode cX8_digest 61 = .ok (.aload_n 0, 1) := by decide +kernel
theorem dX8_digest_62 : decode cX8_digest 62 = .ok (.invokevirtual 142, 3) := by decide +kernel
theorem dX8_digest_65 : decode cX8_digest 65 = .ok (.ifCond .ne 5, 3) := by decide +kernel
theorem dX8_digest_68 : decode cX8_digest 68 = .ok (.lload_n 1, 1) := by decide +kernel
theorem dX8_digest_69 : decode cX8_digest 69 = .ok (.lreturn, 1) := by decide +kernel
theorem dX8_digest_70 : decode cX8_digest 70 = .ok (.aload_n 0, 1) := by decide +kernel
theorem dX8_digest_71 : decode cX8_digest 71 = .ok (.invokevirtual 146, 3) := by decide +kernel
theorem dX8_digest_74 : decode cX8_digest 74 = .ok (.iconst 0, 1) := by decide +kernel
theorem dX8_digest_75 : decode cX8_digest 75 = .ok (.istore_n 3, 1) := by decide +kernel
theorem dX8_digest_76 : decode cX8_digest 76 = .ok (.iload_n 3, 1) := by decide +kernel
theorem dX8_digest_77 : decode cX8_digest 77 = .ok (.bipush 16, 2) := by decide +kernel
theorem dX8_digest_79 : decode cX8_digest 79 = .ok (.if_icmp .ge 86, 3) := by decide +kernel
theorem dX8_digest_82 : decode cX8_digest 82 = .ok (.lload_n 1, 1) := by decide +kernel
theorem dX8_digest_83 : decode cX8_digest 83 = .ok (.ldc2_w 183, 3) := by decide +kernel
theorem dX8_digest_86 : decode cX8_digest 86 = .ok (.lmul, 1) := by decide +kernel
theorem dX8_digest_87 : decode cX8_digest 87 = .ok (.aload_n 0, 1) := by decide +kernel
theorem dX8_digest_88 : decode cX8_digest 88 = .ok (.getfield 25, 3) := by decide +kernel
theorem dX8_digest_91 : decode cX8_digest 91 = .ok (.iload_n 3, 1) := by decide +kernel
theorem dX8_digest_92 : decode cX8_digest 92 = .ok (.iaload, 1) := by decide +kernel
theorem dX8_digest_93 : decode cX8_digest 93 = .ok (.i2l, 1) := by decide +kernel
theorem dX8_digest_94 : decode cX8_digest 94 = .ok (.ladd, 1) := by decide +kernel
theorem dX8_digest_95 : decode cX8_digest 95 = .ok (.lstore_n 1, 1) := by decide +kernel
theorem dX8_digest_96 : decode cX8_digest 96 = .ok (.aload_n 0, 1) := by decide +kernel
theorem dX8_digest_97 : decode cX8_digest 97 = .ok (.getfield 25, 3) := by decide +kernel
theorem dX8_digest_100 : decode cX8_digest 100 = .ok (.iload_n 3, 1) := by decide +kernel
theorem dX8_digest_101 : decode cX8_digest 101 = .ok (.iaload, 1) := by decide +kernel
theorem dX8_digest_102 : decode cX8_digest 102 = .ok (.iconst (-1), 1) := by decide +kernel
theorem dX8_digest_103 : decode cX8_digest 103 = .ok (.if_icmp .eq 6, 3) := by decide +kernel
theorem dX8_digest_106 : decode cX8_digest 106 = .ok (.goto 53, 3) := by decide +kernel
theorem dX8_digest_109 : decode cX8_digest 109 = .ok (.aload_n 0, 1) := by decide +kernel
theorem dX8_digest_110 : decode cX8_digest 110 = .ok (.iload_n 3, 1) := by decide +kernel
theorem dX8_digest_111 : decode cX8_digest 111 = .ok (.invokevirtual 174, 3) := by decide +kernel
theorem dX8_digest_114 : decode cX8_digest 114 = .ok (.lload_n 1, 1) := by decide +kernel
theorem dX8_digest_115 : decode cX8_digest 115 = .ok (.ldc2_w 183, 3) := by decide +kernel
theorem dX8_digest_118 : decode cX8_digest 118 = .ok (.lmul, 1) := by decide +kernel
theorem dX8_digest_119 : decode cX8_digest 119 = .ok (.aload_n 0, 1) := by decide +kernel
theorem dX8_digest_120 : decode cX8_digest 120 = .ok (.getfield 171, 3) := by decide +kernel
theorem dX8_digest_123 : decode cX8_digest 123 = .ok (.i2l, 1) := by decide +kernel
theorem dX8_digest_124 : decode cX8_digest 124 = .ok (.ladd, 1) := by decide +kernel
theorem dX8_digest_125 : decode cX8_digest 125 = .ok (.lstore_n 1, 1) := by decide +kernel
theorem dX8_digest_126 : decode cX8_digest 126 = .ok (.iconst 0, 1) := by decide +kernel
theorem dX8_digest_127 : decode cX8_digest 127 = .ok (.istore 4, 2) := by decide +kernel
theorem dX8_digest_129 : decode cX8_digest 129 = .ok (.iload 4, 2) := by decide +kernel
theorem dX8_digest_131 : decode cX8_digest 131 = .ok (.aload_n 0, 1) := by decide +kernel
theorem dX8_digest_132 : decode cX8_digest 132 = .ok (.getfield 171, 3) := by decide +kernel
theorem dX8_digest_135 : decode cX8_digest 135 = .ok (.if_icmp .ge 24, 3) := by decide +kernel
theorem dX8_digest_138 : decode cX8_digest 138 = .ok (.lload_n 1, 1) := by decide +kernel
theorem dX8_digest_139 : decode cX8_digest 139 = .ok (.ldc2_w 183, 3) := by decide +kernel
theorem dX8_digest_142 : decode cX8_digest 142 = .ok (.lmul, 1) := by decide +kernel
theorem dX8_digest_143 : decode cX8_digest 143 = .ok (.aload_n 0, 1) := by decide +kernel
theorem dX8_digest_144 : decode cX8_digest 144 = .ok (.getfield 40, 3) := by decide +kernel
theorem dX8_digest_147 : decode cX8_digest 147 = .ok (.iload 4, 2) := by decide +kernel
theorem dX8_digest_149 : decode cX8_digest 149 = .ok (.iaload, 1) := by decide +kernel
theorem dX8_digest_150 : decode cX8_digest 150 = .ok (.i2l, 1) := by decide +kernel
theorem dX8_digest_151 : decode cX8_digest 151 = .ok (.ladd, 1) := by decide +kernel
theorem dX8_digest_152 : decode cX8_digest 152 = .ok (.lstore_n 1, 1) := by decide +kernel
theorem dX8_digest_153 : decode cX8_digest 153 = .ok (.iinc 4 1, 3) := by decide +kernel
theorem dX8_digest_156 : decode cX8_digest 156 = .ok (.goto (-27), 3) := by decide +kernel
theorem dX8_digest_159 : decode cX8_digest 159 = .ok (.iinc 3 1, 3) := by decide +kernel
theorem dX8_digest_162 : decode cX8_digest 162 = .ok (.goto (-86), 3) := by decide +kernel
theorem dX8_digest_165 : decode cX8_digest 165 = .ok (.lload_n 1, 1) := by decide +kernel
theorem dX8_digest_166 : decode cX8_digest 166 = .ok (.lreturn, 1) := by decide +kernel
theorem dJ0_length_8abf5_0 : decode cJ0_length_8abf5 0 = .ok (.aload_n 0, 1) := by decide +kernel
theorem dJ0_length_8abf5_1 : decode cJ0_length_8abf5 1 = .ok (.getfield 9, 3) := by decide +kernel
theorem dJ0_length_8abf5_4 : decode cJ0_length_8abf5 4 = .ok (.arraylength, 1) := by decide +kernel
theorem dJ0_length_8abf5_5 : decode cJ0_length_8abf5 5 = .ok (.aload_n 0, 1) := by decide +kernel
theorem dJ0_length_8abf5_6 : decode cJ0_length_8abf5 6 = .ok (.invokevirtual 335, 3) := by decide +kernel
theorem dJ0_length_8abf5_9 : decode cJ0_length_8abf5 9 = .ok (.ishr, 1) := by decide +kernel
theorem dJ0_length_8abf5_10 : decode cJ0_length_8abf5 10 = .ok (.ireturn, 1) := by decide +kernel
theorem dJ0_charAt_5068e_0 : decode cJ0_charAt_5068e 0 = .ok (.aload_n 0, 1) := by decide +kernel
theorem dJ0_charAt_5068e_1 : decode cJ0_charAt_5068e 1 = .ok (.invokevirtual 492, 3) := by decide +kernel
theorem dJ0_charAt_5068e_4 : decode cJ0_charAt_5068e 4 = .ok (.ifCond .eq 12, 3) := by decide +kernel
theorem dJ0_charAt_5068e_7 : decode cJ0_charAt_5068e 7 = .ok (.aload_n 0, 1) := by decide +kernel
theorem dJ0_charAt_5068e_8 : decode cJ0_charAt_5068e 8 = .ok (.getfield 9, 3) := by decide +kernel
theorem dJ0_charAt_5068e_11 : decode cJ0_charAt_5068e 11 = .ok (.iload_n 1, 1) := by decide +kernel
theorem dJ0_charAt_5068e_12 : decode cJ0_charAt_5068e 12 = .ok (.invokestatic 495, 3) := by decide +kernel
theorem dJ0_charAt_5068e_15 : decode cJ0_charAt_5068e 15 = .ok (.ireturn, 1) := by decide +kernel
theorem dJ0_charAt_5068e_16 : decode cJ0_charAt_5068e 16 = .ok (.aload_n 0, 1) := by decide +kernel
theorem dJ0_charAt_5068e_17 : decode cJ0_charAt_5068e 17 = .ok (.getfield 9, 3) := by decide +kernel
theorem dJ0_charAt_5068e_20 : decode cJ0_charAt_5068e 20 = .ok (.iload_n 1, 1) := by decide +kernel
theorem dJ0_charAt_5068e_21 : decode cJ0_charAt_5068e 21 = .ok (.invokestatic 498, 3) := by decide +kernel
theorem dJ0_charAt_5068e_24 : decode cJ0_charAt_5068e 24 = .ok (.ireturn, 1) := by decide +kernel
theorem dJ0_indexOf_0f7a4_0 : decode cJ0_indexOf_0f7a4 0 = .ok (.aload_n 0, 1) := by decide +kernel
theorem dJ0_indexOf_0f7a4_1 : decode cJ0_indexOf_0f7a4 1 = .ok (.iload_n 1, 1) := by decide +kernel
theorem dJ0_indexOf_0f7a4_2 : decode cJ0_indexOf_0f7a4 2 = .ok (.iconst 0, 1) := by decide +kernel
theorem dJ0_indexOf_0f7a4_3 : decode cJ0_indexOf_0f7a4 3 = .ok (.invokevirtual 633, 3) := by decide +kernel
theorem dJ0_indexOf_0f7a4_6 : decode cJ0_indexOf_0f7a4 6 = .ok (.ireturn, 1) := by decide +kernel
theorem dJ0_indexOf_7cf53_0 : decode cJ0_indexOf_7cf53 0 = .ok (.aload_n 0, 1) := by decide +kernel
theorem dJ0_indexOf_7cf53_1 : decode cJ0_indexOf_7cf53 1 = .ok (.invokevirtual 492, 3) := by decide +kernel
theorem dJ0_indexOf_7cf53_4 : decode cJ0_indexOf_7cf53 4 = .ok (.ifCond .eq 19, 3) := by decide +kernel
theorem dJ0_indexOf_7cf53_7 : decode cJ0_indexOf_7cf53 7 = .ok (.aload_n 0, 1) := by decide +kernel
theorem dJ0_indexOf_7cf53_8 : decode cJ0_indexOf_7cf53 8 = .ok (.getfield 9, 3) := by decide +kernel
theorem dJ0_indexOf_7cf53_11 : decode cJ0_indexOf_7cf53 11 = .ok (.iload_n 1, 1) := by decide +kernel
theorem dJ0_indexOf_7cf53_12 : decode cJ0_indexOf_7cf53 12 = .ok (.iload_n 2, 1) := by decide +kernel
theorem dJ0_indexOf_7cf53_13 : decode cJ0_indexOf_7cf53 13 = .ok (.aload_n 0, 1) := by decide +kernel
theorem dJ0_indexOf_7cf53_14 : decode cJ0_indexOf_7cf53 14 = .ok (.invokevirtual 505, 3) := by decide +kernel
theorem dJ0_indexOf_7cf53_17 : decode cJ0_indexOf_7cf53 17 = .ok (.invokestatic 637, 3) := by decide +kernel
theorem dJ0_indexOf_7cf53_20 : decode cJ0_indexOf_7cf53 20 = .ok (.goto 16, 3) := by decide +kernel
theorem dJ0_indexOf_7cf53_23 : decode cJ0_indexOf_7cf53 23 = .ok (.aload_n 0, 1) := by decide +kernel
theorem dJ0_indexOf_7cf53_24 : decode cJ0_indexOf_7cf53 24 = .ok (.getfield 9, 3) := by decide +kernel
theorem dJ0_indexOf_7cf53_27 : decode cJ0_indexOf_7cf53 27 = .ok (.iload_n 1, 1) := by decide +kernel
theorem dJ0_indexOf_7cf53_28 : decode cJ0_indexOf_7cf53 28 = .ok (.iload_n 2, 1) := by decide +kernel
theorem dJ0_indexOf_7cf53_29 : decode cJ0_indexOf_7cf53 29 = .ok (.aload_n 0, 1) := by decide +kernel
theorem dJ0_indexOf_7cf53_30 : decode cJ0_indexOf_7cf53 30 = .ok (.invokevirtual 505, 3) := by decide +kernel
theorem dJ0_indexOf_7cf53_33 : decode cJ0_indexOf_7cf53 33 = .ok (.invokestatic 640, 3) := by decide +kernel
theorem dJ0_indexOf_7cf53_36 : decode cJ0_indexOf_7cf53 36 = .ok (.ireturn, 1) := by decide +kernel
theorem dJ0_coder_7d493_0 : decode cJ0_coder_7d493 0 = .ok (.getstatic 38, 3) := by decide +kernel
theorem dJ0_coder_7d493_3 : decode cJ0_coder_7d493 3 = .ok (.ifCond .eq 10, 3) := by decide +kernel
theorem dJ0_coder_7d493_6 : decode cJ0_coder_7d493 6 = .ok (.aload_n 0, 1) := by decide +kernel
theorem dJ0_coder_7d493_7 : decode cJ0_coder_7d493 7 = .ok (.getfield 15, 3) := by decide +kernel
end
section
theorem dJ0_coder_7d493_10 : decode cJ0_coder_7d493 10 = .ok (.goto 4, 3) := by decide +kernel
theorem dJ0_coder_7d493_13 : decode cJ0_coder_7d493 13 = .ok (.iconst 1, 1) := by decide +kernel
theorem dJ0_coder_7d493_14 : decode cJ0_coder_7d493 14 = .ok (.ireturn, 1) := by decide +kernel
theorem dJ0_isLatin1_aae02_0 : decode cJ0_isLatin1_aae02 0 = .ok (.getstatic 38, 3) := by decide +kernel
theorem dJ0_isLatin1_aae02_3 : decode cJ0_isLatin1_aae02 3 = .ok (.ifCond .eq 14, 3) := by decide +kernel
theorem dJ0_isLatin1_aae02_6 : decode cJ0_isLatin1_aae02 6 = .ok (.aload_n 0, 1) := by decide +kernel
theorem dJ0_isLatin1_aae02_7 : decode cJ0_isLatin1_aae02 7 = .ok (.getfield 15, 3) := by decide +kernel
theorem dJ0_isLatin1_aae02_10 : decode cJ0_isLatin1_aae02 10 = .ok (.ifCond .ne 7, 3) := by decide +kernel
theorem dJ0_isLatin1_aae02_13 : decode cJ0_isLatin1_aae02 13 = .ok (.iconst 1, 1) := by decide +kernel
theorem dJ0_isLatin1_aae02_14 : decode cJ0_isLatin1_aae02 14 = .ok (.goto 4, 3) := by decide +kernel
theorem dJ0_isLatin1_aae02_17 : decode cJ0_isLatin1_aae02 17 = .ok (.iconst 0, 1) := by decide +kernel
theorem dJ0_isLatin1_aae02_18 : decode cJ0_isLatin1_aae02 18 = .ok (.ireturn, 1) := by decide +kernel
theorem dJ0_checkIndex_df160_0 : decode cJ0_checkIndex_df160 0 = .ok (.iload_n 0, 1) := by decide +kernel
theorem dJ0_checkIndex_df160_1 : decode cJ0_checkIndex_df160 1 = .ok (.iload_n 1, 1) := by decide +kernel
theorem dJ0_checkIndex_df160_2 : decode cJ0_checkIndex_df160 2 = .ok (.getstatic 1053, 3) := by decide +kernel
theorem dJ0_checkIndex_df160_5 : decode cJ0_checkIndex_df160 5 = .ok (.invokestatic 1059, 3) := by decide +kernel
theorem dJ0_checkIndex_df160_8 : decode cJ0_checkIndex_df160 8 = .ok (.pop, 1) := by decide +kernel
theorem dJ0_checkIndex_df160_9 : decode cJ0_checkIndex_df160 9 = .ok (.return_, 1) := by decide +kernel
theorem dJ0_checkBoundsBeginEnd_23922_0 : decode cJ0_checkBoundsBeginEnd_23922 0 = .ok (.iload_n 0, 1) := by decide +kernel
theorem dJ0_checkBoundsBeginEnd_23922_1 : decode cJ0_checkBoundsBeginEnd_23922 1 = .ok (.iload_n 1, 1) := by decide +kernel
theorem dJ0_checkBoundsBeginEnd_23922_2 : decode cJ0_checkBoundsBeginEnd_23922 2 = .ok (.iload_n 2, 1) := by decide +kernel
theorem dJ0_checkBoundsBeginEnd_23922_3 : decode cJ0_checkBoundsBeginEnd_23922 3 = .ok (.getstatic 1053, 3) := by decide +kernel
theorem dJ0_checkBoundsBeginEnd_23922_6 : decode cJ0_checkBoundsBeginEnd_23922 6 = .ok (.invokestatic 1062, 3) := by decide +kernel
theorem dJ0_checkBoundsBeginEnd_23922_9 : decode cJ0_checkBoundsBeginEnd_23922 9 = .ok (.pop, 1) := by decide +kernel
theorem dJ0_checkBoundsBeginEnd_23922_10 : decode cJ0_checkBoundsBeginEnd_23922 10 = .ok (.return_, 1) := by decide +kernel
theorem dJ1_charAt_3b067_0 : decode cJ1_charAt_3b067 0 = .ok (.iload_n 1, 1) := by decide +kernel
theorem dJ1_charAt_3b067_1 : decode cJ1_charAt_3b067 1 = .ok (.aload_n 0, 1) := by decide +kernel
theorem dJ1_charAt_3b067_2 : decode cJ1_charAt_3b067 2 = .ok (.arraylength, 1) := by decide +kernel
theorem dJ1_charAt_3b067_3 : decode cJ1_charAt_3b067 3 = .ok (.invokestatic 9, 3) := by decide +kernel
theorem dJ1_charAt_3b067_6 : decode cJ1_charAt_3b067 6 = .ok (.aload_n 0, 1) := by decide +kernel
theorem dJ1_charAt_3b067_7 : decode cJ1_charAt_3b067 7 = .ok (.iload_n 1, 1) := by decide +kernel
theorem dJ1_charAt_3b067_8 : decode cJ1_charAt_3b067 8 = .ok (.baload, 1) := by decide +kernel
theorem dJ1_charAt_3b067_9 : decode cJ1_charAt_3b067 9 = .ok (.sipush 255, 3) := by decide +kernel
theorem dJ1_charAt_3b067_12 : decode cJ1_charAt_3b067 12 = .ok (.iand, 1) := by decide +kernel
theorem dJ1_charAt_3b067_13 : decode cJ1_charAt_3b067 13 = .ok (.i2c, 1) := by decide +kernel
theorem dJ1_charAt_3b067_14 : decode cJ1_charAt_3b067 14 = .ok (.ireturn, 1) := by decide +kernel
theorem dJ1_canEncode_9a6ad_0 : decode cJ1_canEncode_9a6ad 0 = .ok (.iload_n 0, 1) := by decide +kernel
theorem dJ1_canEncode_9a6ad_1 : decode cJ1_canEncode_9a6ad 1 = .ok (.ifCond .lt 14, 3) := by decide +kernel
theorem dJ1_canEncode_9a6ad_4 : decode cJ1_canEncode_9a6ad 4 = .ok (.iload_n 0, 1) := by decide +kernel
theorem dJ1_canEncode_9a6ad_5 : decode cJ1_canEncode_9a6ad 5 = .ok (.sipush 255, 3) := by decide +kernel
theorem dJ1_canEncode_9a6ad_8 : decode cJ1_canEncode_9a6ad 8 = .ok (.if_icmp .gt 7, 3) := by decide +kernel
theorem dJ1_canEncode_9a6ad_11 : decode cJ1_canEncode_9a6ad 11 = .ok (.iconst 1, 1) := by decide +kernel
theorem dJ1_canEncode_9a6ad_12 : decode cJ1_canEncode_9a6ad 12 = .ok (.goto 4, 3) := by decide +kernel
theorem dJ1_canEncode_9a6ad_15 : decode cJ1_canEncode_9a6ad 15 = .ok (.iconst 0, 1) := by decide +kernel
theorem dJ1_canEncode_9a6ad_16 : decode cJ1_canEncode_9a6ad 16 = .ok (.ireturn, 1) := by decide +kernel
theorem dJ1_indexOf_4cfef_0 : decode cJ1_indexOf_4cfef 0 = .ok (.iload_n 1, 1) := by decide +kernel
theorem dJ1_indexOf_4cfef_1 : decode cJ1_indexOf_4cfef 1 = .ok (.invokestatic 88, 3) := by decide +kernel
theorem dJ1_indexOf_4cfef_4 : decode cJ1_indexOf_4cfef 4 = .ok (.ifCond .ne 5, 3) := by decide +kernel
theorem dJ1_indexOf_4cfef_7 : decode cJ1_indexOf_4cfef 7 = .ok (.iconst (-1), 1) := by decide +kernel
theorem dJ1_indexOf_4cfef_8 : decode cJ1_indexOf_4cfef 8 = .ok (.ireturn, 1) := by decide +kernel
theorem dJ1_indexOf_4cfef_9 : decode cJ1_indexOf_4cfef 9 = .ok (.iload_n 2, 1) := by decide +kernel
theorem dJ1_indexOf_4cfef_10 : decode cJ1_indexOf_4cfef 10 = .ok (.iconst 0, 1) := by decide +kernel
theorem dJ1_indexOf_4cfef_11 : decode cJ1_indexOf_4cfef 11 = .ok (.invokestatic 92, 3) := by decide +kernel
theorem dJ1_indexOf_4cfef_14 : decode cJ1_indexOf_4cfef 14 = .ok (.istore_n 2, 1) := by decide +kernel
theorem dJ1_indexOf_4cfef_15 : decode cJ1_indexOf_4cfef 15 = .ok (.iload_n 3, 1) := by decide +kernel
theorem dJ1_indexOf_4cfef_16 : decode cJ1_indexOf_4cfef 16 = .ok (.aload_n 0, 1) := by decide +kernel
theorem dJ1_indexOf_4cfef_17 : decode cJ1_indexOf_4cfef 17 = .ok (.arraylength, 1) := by decide +kernel
theorem dJ1_indexOf_4cfef_18 : decode cJ1_indexOf_4cfef 18 = .ok (.invokestatic 38, 3) := by decide +kernel
theorem dJ1_indexOf_4cfef_21 : decode cJ1_indexOf_4cfef 21 = .ok (.istore_n 3, 1) := by decide +kernel
theorem dJ1_indexOf_4cfef_22 : decode cJ1_indexOf_4cfef 22 = .ok (.iload_n 2, 1) := by decide +kernel
theorem dJ1_indexOf_4cfef_23 : decode cJ1_indexOf_4cfef 23 = .ok (.iload_n 3, 1) := by decide +kernel
theorem dJ1_indexOf_4cfef_24 : decode cJ1_indexOf_4cfef 24 = .ok (.if_icmp .lt 5, 3) := by decide +kernel
theorem dJ1_indexOf_4cfef_27 : decode cJ1_indexOf_4cfef 27 = .ok (.iconst (-1), 1) := by decide +kernel
theorem dJ1_indexOf_4cfef_28 : decode cJ1_indexOf_4cfef 28 = .ok (.ireturn, 1) := by decide +kernel
theorem dJ1_indexOf_4cfef_29 : decode cJ1_indexOf_4cfef 29 = .ok (.aload_n 0, 1) := by decide +kernel
theorem dJ1_indexOf_4cfef_30 : decode cJ1_indexOf_4cfef 30 = .ok (.iload_n 1, 1) := by decide +kernel
theorem dJ1_indexOf_4cfef_31 : decode cJ1_indexOf_4cfef 31 = .ok (.iload_n 2, 1) := by decide +kernel
theorem dJ1_indexOf_4cfef_32 : decode cJ1_indexOf_4cfef 32 = .ok (.iload_n 3, 1) := by decide +kernel
theorem dJ1_indexOf_4cfef_33 : decode cJ1_indexOf_4cfef 33 = .ok (.invokestatic 95, 3) := by decide +kernel
theorem dJ1_indexOf_4cfef_36 : decode cJ1_indexOf_4cfef 36 = .ok (.ireturn, 1) := by decide +kernel
theorem dJ1_indexOfChar_4cfef_0 : decode cJ1_indexOfChar_4cfef 0 = .ok (.iload_n 1, 1) := by decide +kernel
theorem dJ1_indexOfChar_4cfef_1 : decode cJ1_indexOfChar_4cfef 1 = .ok (.i2b, 1) := by decide +kernel
theorem dJ1_indexOfChar_4cfef_2 : decode cJ1_indexOfChar_4cfef 2 = .ok (.istore 4, 2) := by decide +kernel
theorem dJ1_indexOfChar_4cfef_4 : decode cJ1_indexOfChar_4cfef 4 = .ok (.iload_n 2, 1) := by decide +kernel
theorem dJ1_indexOfChar_4cfef_5 : decode cJ1_indexOfChar_4cfef 5 = .ok (.istore 5, 2) := by decide +kernel
theorem dJ1_indexOfChar_4cfef_7 : decode cJ1_indexOfChar_4cfef 7 = .ok (.iload 5, 2) := by decide +kernel
theorem dJ1_indexOfChar_4cfef_9 : decode cJ1_indexOfChar_4cfef 9 = .ok (.iload_n 3, 1) := by decide +kernel
theorem dJ1_indexOfChar_4cfef_10 : decode cJ1_indexOfChar_4cfef 10 = .ok (.if_icmp .ge 21, 3) := by decide +kernel
theorem dJ1_indexOfChar_4cfef_13 : decode cJ1_indexOfChar_4cfef 13 = .ok (.aload_n 0, 1) := by decide +kernel
theorem dJ1_indexOfChar_4cfef_14 : decode cJ1_indexOfChar_4cfef 14 = .ok (.iload 5, 2) := by decide +kernel
theorem dJ1_indexOfChar_4cfef_16 : decode cJ1_indexOfChar_4cfef 16 = .ok (.baload, 1) := by decide +kernel
theorem dJ1_indexOfChar_4cfef_17 : decode cJ1_indexOfChar_4cfef 17 = .ok (.iload 4, 2) := by decide +kernel
theorem dJ1_indexOfChar_4cfef_19 : decode cJ1_indexOfChar_4cfef 19 = .ok (.if_icmp .ne 6, 3) := by decide +kernel
theorem dJ1_indexOfChar_4cfef_22 : decode cJ1_indexOfChar_4cfef 22 = .ok (.iload 5, 2) := by decide +kernel
theorem dJ1_indexOfChar_4cfef_24 : decode cJ1_indexOfChar_4cfef 24 = .ok (.ireturn, 1) := by decide +kernel
theorem dJ1_indexOfChar_4cfef_25 : decode cJ1_indexOfChar_4cfef 25 = .ok (.iinc 5 1, 3) := by decide +kernel
theorem dJ1_indexOfChar_4cfef_28 : decode cJ1_indexOfChar_4cfef 28 = .ok (.goto (-21), 3) := by decide +kernel
theorem dJ1_indexOfChar_4cfef_31 : decode cJ1_indexOfChar_4cfef 31 = .ok (.iconst (-1), 1) := by decide +kernel
theorem dJ1_indexOfChar_4cfef_32 : decode cJ1_indexOfChar_4cfef 32 = .ok (.ireturn, 1) := by decide +kernel
theorem dJ3_checkIndex_8e157_0 : decode cJ3_checkIndex_8e157 0 = .ok (.iload_n 0, 1) := by decide +kernel
theorem dJ3_checkIndex_8e157_1 : decode cJ3_checkIndex_8e157 1 = .ok (.ifCond .lt 8, 3) := by decide +kernel
theorem dJ3_checkIndex_8e157_4 : decode cJ3_checkIndex_8e157 4 = .ok (.iload_n 0, 1) := by decide +kernel
theorem dJ3_checkIndex_8e157_5 : decode cJ3_checkIndex_8e157 5 = .ok (.iload_n 1, 1) := by decide +kernel
theorem dJ3_checkIndex_8e157_6 : decode cJ3_checkIndex_8e157 6 = .ok (.if_icmp .lt 10, 3) := by decide +kernel
theorem dJ3_checkIndex_8e157_9 : decode cJ3_checkIndex_8e157 9 = .ok (.aload_n 2, 1) := by decide +kernel
theorem dJ3_checkIndex_8e157_10 : decode cJ3_checkIndex_8e157 10 = .ok (.iload_n 0, 1) := by decide +kernel
theorem dJ3_checkIndex_8e157_11 : decode cJ3_checkIndex_8e157 11 = .ok (.iload_n 1, 1) := by decide +kernel
theorem dJ3_checkIndex_8e157_12 : decode cJ3_checkIndex_8e157 12 = .ok (.invokestatic 95, 3) := by decide +kernel
theorem dJ3_checkIndex_8e157_15 : decode cJ3_checkIndex_8e157 15 = .ok (.athrow, 1) := by decide +kernel
theorem dJ3_checkIndex_8e157_16 : decode cJ3_checkIndex_8e157 16 = .ok (.iload_n 0, 1) := by decide +kernel
theorem dJ3_checkIndex_8e157_17 : decode cJ3_checkIndex_8e157 17 = .ok (.ireturn, 1) := by decide +kernel
theorem dJ3_checkFromToIndex_8c36e_0 : decode cJ3_checkFromToIndex_8c36e 0 = .ok (.iload_n 0, 1) := by decide +kernel
theorem dJ3_checkFromToIndex_8c36e_1 : decode cJ3_checkFromToIndex_8c36e 1 = .ok (.ifCond .lt 13, 3) := by decide +kernel
theorem dJ3_checkFromToIndex_8c36e_4 : decode cJ3_checkFromToIndex_8c36e 4 = .ok (.iload_n 0, 1) := by decide +kernel
theorem dJ3_checkFromToIndex_8c36e_5 : decode cJ3_checkFromToIndex_8c36e 5 = .ok (.iload_n 1, 1) := by decide +kernel
theorem dJ3_checkFromToIndex_8c36e_6 : decode cJ3_checkFromToIndex_8c36e 6 = .ok (.if_icmp .gt 8, 3) := by decide +kernel
theorem dJ3_checkFromToIndex_8c36e_9 : decode cJ3_checkFromToIndex_8c36e 9 = .ok (.iload_n 1, 1) := by decide +kernel
theorem dJ3_checkFromToIndex_8c36e_10 : decode cJ3_checkFromToIndex_8c36e 10 = .ok (.iload_n 2, 1) := by decide +kernel
theorem dJ3_checkFromToIndex_8c36e_11 : decode cJ3_checkFromToIndex_8c36e 11 = .ok (.if_icmp .le 11, 3) := by decide +kernel
theorem dJ3_checkFromToIndex_8c36e_14 : decode cJ3_checkFromToIndex_8c36e 14 = .ok (.aload_n 3, 1) := by decide +kernel
theorem dJ3_checkFromToIndex_8c36e_15 : decode cJ3_checkFromToIndex_8c36e 15 = .ok (.iload_n 0, 1) := by decide +kernel
theorem dJ3_checkFromToIndex_8c36e_16 : decode cJ3_checkFromToIndex_8c36e 16 = .ok (.iload_n 1, 1) := by decide +kernel
theorem dJ3_checkFromToIndex_8c36e_17 : decode cJ3_checkFromToIndex_8c36e 17 = .ok (.iload_n 2, 1) := by decide +kernel
theorem dJ3_checkFromToIndex_8c36e_18 : decode cJ3_checkFromToIndex_8c36e 18 = .ok (.invokestatic 99, 3) := by decide +kernel
theorem dJ3_checkFromToIndex_8c36e_21 : decode cJ3_checkFromToIndex_8c36e 21 = .ok (.athrow, 1) := by decide +kernel
theorem dJ3_checkFromToIndex_8c36e_22 : decode cJ3_checkFromToIndex_8c36e 22 = .ok (.iload_n 0, 1) := by decide +kernel
theorem dJ3_checkFromToIndex_8c36e_23 : decode cJ3_checkFromToIndex_8c36e 23 = .ok (.ireturn, 1) := by decide +kernel
theorem dL_write_0 : decode cL_write 0 = .ok (.aload_n 3, 1) := by decide +kernel
theorem dL_write_1 : decode cL_write 1 = .ok (.iconst 0, 1) := by decide +kernel
theorem dL_write_2 : decode cL_write 2 = .ok (.aload_n 0, 1) := by decide +kernel
theorem dL_write_3 : decode cL_write 3 = .ok (.lload_n 1, 1) := by decide +kernel
theorem dL_write_4 : decode cL_write 4 = .ok (.invokevirtual 7, 3) := by decide +kernel
theorem dL_write_7 : decode cL_write 7 = .ok (.i2l, 1) := by decide +kernel
theorem dL_write_8 : decode cL_write 8 = .ok (.lastore, 1) := by decide +kernel
theorem dL_write_9 : decode cL_write 9 = .ok (.goto 11, 3) := by decide +kernel
theorem dL_write_12 : decode cL_write 12 = .ok (.astore 4, 2) := by decide +kernel
theorem dL_write_14 : decode cL_write 14 = .ok (.iconst 1, 1) := by decide +kernel
theorem dL_write_15 : decode cL_write 15 = .ok (.ireturn, 1) := by decide +kernel
theorem dL_write_16 : decode cL_write 16 = .ok (.astore 4, 2) := by decide +kernel
theorem dL_write_18 : decode cL_write 18 = .ok (.iconst 2, 1) := by decide +kernel
theorem dL_write_19 : decode cL_write 19 = .ok (.ireturn, 1) := by decide +kernel
theorem dL_write_20 : decode cL_write 20 = .ok (.iconst 0, 1) := by decide +kernel
theorem dL_write_21 : decode cL_write 21 = .ok (.ireturn, 1) := by decide +kernel
theorem dL_when_0 : decode cL_when 0 = .ok (.aload_n 3, 1) := by decide +kernel
theorem dL_when_1 : decode cL_when 1 = .ok (.iconst 0, 1) := by decide +kernel
theorem dL_when_2 : decode cL_when 2 = .ok (.aload_n 0, 1) := by decide +kernel
theorem dL_when_3 : decode cL_when 3 = .ok (.iload_n 1, 1) := by decide +kernel
theorem dL_when_4 : decode cL_when 4 = .ok (.iload_n 2, 1) := by decide +kernel
theorem dL_when_5 : decode cL_when 5 = .ok (.invokevirtual 17, 3) := by decide +kernel
theorem dL_when_8 : decode cL_when 8 = .ok (.i2l, 1) := by decide +kernel
theorem dL_when_9 : decode cL_when 9 = .ok (.lastore, 1) := by decide +kernel
theorem dL_when_10 : decode cL_when 10 = .ok (.goto 11, 3) := by decide +kernel
theorem dL_when_13 : decode cL_when 13 = .ok (.astore 4, 2) := by decide +kernel
theorem dL_when_15 : decode cL_when 15 = .ok (.iconst 1, 1) := by decide +kernel
theorem dL_when_16 : decode cL_when 16 = .ok (.ireturn, 1) := by decide +kernel
theorem dL_when_17 : decode cL_when 17 = .ok (.astore 4, 2) := by decide +kernel
theorem dL_when_19 : decode cL_when 19 = .ok (.iconst 2, 1) := by decide +kernel
theorem dL_when_20 : decode cL_when 20 = .ok (.ireturn, 1) := by decide +kernel
theorem dL_when_21 : decode cL_when 21 = .ok (.iconst 0, 1) := by decide +kernel
theorem dL_when_22 : decode cL_when 22 = .ok (.ireturn, 1) := by decide +kernel
theorem dL_otherwise_0 : decode cL_otherwise 0 = .ok (.aload_n 1, 1) := by decide +kernel
theorem dL_otherwise_1 : decode cL_otherwise 1 = .ok (.iconst 0, 1) := by decide +kernel
theorem dL_otherwise_2 : decode cL_otherwise 2 = .ok (.aload_n 0, 1) := by decide +kernel
theorem dL_otherwise_3 : decode cL_otherwise 3 = .ok (.invokevirtual 23, 3) := by decide +kernel
theorem dL_otherwise_6 : decode cL_otherwise 6 = .ok (.i2l, 1) := by decide +kernel
theorem dL_otherwise_7 : decode cL_otherwise 7 = .ok (.lastore, 1) := by decide +kernel
theorem dL_otherwise_8 : decode cL_otherwise 8 = .ok (.goto 6, 3) := by decide +kernel
theorem dL_otherwise_11 : decode cL_otherwise 11 = .ok (.astore_n 2, 1) := by decide +kernel
theorem dL_otherwise_12 : decode cL_otherwise 12 = .ok (.iconst 1, 1) := by decide +kernel
theorem dL_otherwise_13 : decode cL_otherwise 13 = .ok (.ireturn, 1) := by decide +kernel
theorem dL_otherwise_14 : decode cL_otherwise 14 = .ok (.iconst 0, 1) := by decide +kernel
theorem dL_otherwise_15 : decode cL_otherwise 15 = .ok (.ireturn, 1) := by decide +kernel
theorem dL_done_0 : decode cL_done 0 = .ok (.aload_n 1, 1) := by decide +kernel
theorem dL_done_1 : decode cL_done 1 = .ok (.iconst 0, 1) := by decide +kernel
theorem dL_done_2 : decode cL_done 2 = .ok (.aload_n 0, 1) := by decide +kernel
theorem dL_done_3 : decode cL_done 3 = .ok (.invokevirtual 27, 3) := by decide +kernel
theorem dL_done_6 : decode cL_done 6 = .ok (.i2l, 1) := by decide +kernel
theorem dL_done_7 : decode cL_done 7 = .ok (.lastore, 1) := by decide +kernel
theorem dL_done_8 : decode cL_done 8 = .ok (.goto 6, 3) := by decide +kernel
theorem dL_done_11 : decode cL_done 11 = .ok (.astore_n 2, 1) := by decide +kernel
theorem dL_done_12 : decode cL_done 12 = .ok (.iconst 1, 1) := by decide +kernel
theorem dL_done_13 : decode cL_done 13 = .ok (.ireturn, 1) := by decide +kernel
theorem dL_done_14 : decode cL_done 14 = .ok (.iconst 0, 1) := by decide +kernel
theorem dL_done_15 : decode cL_done 15 = .ok (.ireturn, 1) := by decide +kernel
theorem dL_set_0 : decode cL_set 0 = .ok (.aload_n 3, 1) := by decide +kernel
theorem dL_set_1 : decode cL_set 1 = .ok (.iconst 0, 1) := by decide +kernel
theorem dL_set_2 : decode cL_set 2 = .ok (.aload_n 0, 1) := by decide +kernel
theorem dL_set_3 : decode cL_set 3 = .ok (.iload_n 1, 1) := by decide +kernel
theorem dL_set_4 : decode cL_set 4 = .ok (.iload_n 2, 1) := by decide +kernel
theorem dL_set_5 : decode cL_set 5 = .ok (.invokevirtual 30, 3) := by decide +kernel
theorem dL_set_8 : decode cL_set 8 = .ok (.i2l, 1) := by decide +kernel
theorem dL_set_9 : decode cL_set 9 = .ok (.lastore, 1) := by decide +kernel
theorem dL_set_10 : decode cL_set 10 = .ok (.goto 11, 3) := by decide +kernel
theorem dL_set_13 : decode cL_set 13 = .ok (.astore 4, 2) := by decide +kernel
theorem dL_set_15 : decode cL_set 15 = .ok (.iconst 1, 1) := by decide +kernel
theorem dL_set_16 : decode cL_set 16 = .ok (.ireturn, 1) := by decide +kernel
theorem dL_set_17 : decode cL_set 17 = .ok (.astore 4, 2) := by decide +kernel
theorem dL_set_19 : decode cL_set 19 = .ok (.iconst 2, 1) := by decide +kernel
theorem dL_set_20 : decode cL_set 20 = .ok (.ireturn, 1) := by decide +kernel
theorem dL_set_21 : decode cL_set 21 = .ok (.iconst 0, 1) := by decide +kernel
theorem dL_set_22 : decode cL_set 22 = .ok (.ireturn, 1) := by decide +kernel
theorem dL_drop_0 : decode cL_drop 0 = .ok (.aload_n 1, 1) := by decide +kernel
theorem dL_drop_1 : decode cL_drop 1 = .ok (.iconst 0, 1) := by decide +kernel
theorem dL_drop_2 : decode cL_drop 2 = .ok (.aload_n 0, 1) := by decide +kernel
theorem dL_drop_3 : decode cL_drop 3 = .ok (.invokevirtual 33, 3) := by decide +kernel
theorem dL_drop_6 : decode cL_drop 6 = .ok (.i2l, 1) := by decide +kernel
theorem dL_drop_7 : decode cL_drop 7 = .ok (.lastore, 1) := by decide +kernel
theorem dL_drop_8 : decode cL_drop 8 = .ok (.goto 6, 3) := by decide +kernel
theorem dL_drop_11 : decode cL_drop 11 = .ok (.astore_n 2, 1) := by decide +kernel
theorem dL_drop_12 : decode cL_drop 12 = .ok (.iconst 1, 1) := by decide +kernel
theorem dL_drop_13 : decode cL_drop 13 = .ok (.ireturn, 1) := by decide +kernel
theorem dL_drop_14 : decode cL_drop 14 = .ok (.iconst 0, 1) := by decide +kernel
theorem dL_drop_15 : decode cL_drop 15 = .ok (.ireturn, 1) := by decide +kernel
theorem dL_replace_0 : decode cL_replace 0 = .ok (.aload_n 3, 1) := by decide +kernel
theorem dL_replace_1 : decode cL_replace 1 = .ok (.iconst 0, 1) := by decide +kernel
theorem dL_replace_2 : decode cL_replace 2 = .ok (.aload_n 0, 1) := by decide +kernel
theorem dL_replace_3 : decode cL_replace 3 = .ok (.iload_n 1, 1) := by decide +kernel
theorem dL_replace_4 : decode cL_replace 4 = .ok (.iload_n 2, 1) := by decide +kernel
theorem dL_replace_5 : decode cL_replace 5 = .ok (.invokevirtual 36, 3) := by decide +kernel
theorem dL_replace_8 : decode cL_replace 8 = .ok (.i2l, 1) := by decide +kernel
theorem dL_replace_9 : decode cL_replace 9 = .ok (.lastore, 1) := by decide +kernel
theorem dL_replace_10 : decode cL_replace 10 = .ok (.goto 15, 3) := by decide +kernel
theorem dL_replace_13 : decode cL_replace 13 = .ok (.astore 4, 2) := by decide +kernel
theorem dL_replace_15 : decode cL_replace 15 = .ok (.iconst 1, 1) := by decide +kernel
theorem dL_replace_16 : decode cL_replace 16 = .ok (.ireturn, 1) := by decide +kernel
theorem dL_replace_17 : decode cL_replace 17 = .ok (.astore 4, 2) := by decide +kernel
theorem dL_replace_19 : decode cL_replace 19 = .ok (.iconst 2, 1) := by decide +kernel
theorem dL_replace_20 : decode cL_replace 20 = .ok (.ireturn, 1) := by decide +kernel
theorem dL_replace_21 : decode cL_replace 21 = .ok (.astore 4, 2) := by decide +kernel
theorem dL_replace_23 : decode cL_replace 23 = .ok (.iconst 3, 1) := by decide +kernel
theorem dL_replace_24 : decode cL_replace 24 = .ok (.ireturn, 1) := by decide +kernel
theorem dL_replace_25 : decode cL_replace 25 = .ok (.iconst 0, 1) := by decide +kernel
theorem dL_replace_26 : decode cL_replace 26 = .ok (.ireturn, 1) := by decide +kernel
theorem dL_item_0 : decode cL_item 0 = .ok (.aload_n 2, 1) := by decide +kernel
theorem dL_item_1 : decode cL_item 1 = .ok (.iconst 0, 1) := by decide +kernel
theorem dL_item_2 : decode cL_item 2 = .ok (.aload_n 0, 1) := by decide +kernel
theorem dL_item_3 : decode cL_item 3 = .ok (.iload_n 1, 1) := by decide +kernel
theorem dL_item_4 : decode cL_item 4 = .ok (.invokevirtual 40, 3) := by decide +kernel
theorem dL_item_7 : decode cL_item 7 = .ok (.i2l, 1) := by decide +kernel
theorem dL_item_8 : decode cL_item 8 = .ok (.lastore, 1) := by decide +kernel
theorem dL_item_9 : decode cL_item 9 = .ok (.goto 6, 3) := by decide +kernel
theorem dL_item_12 : decode cL_item 12 = .ok (.astore_n 3, 1) := by decide +kernel
theorem dL_item_13 : decode cL_item 13 = .ok (.iconst 1, 1) := by decide +kernel
theorem dL_item_14 : decode cL_item 14 = .ok (.ireturn, 1) := by decide +kernel
theorem dL_item_15 : decode cL_item 15 = .ok (.iconst 0, 1) := by decide +kernel
theorem dL_item_16 : decode cL_item 16 = .ok (.ireturn, 1) := by decide +kernel
theorem dL_presence_0 : decode cL_presence 0 = .ok (.aload_n 2, 1) := by decide +kernel
theorem dL_presence_1 : decode cL_presence 1 = .ok (.iconst 0, 1) := by decide +kernel
theorem dL_presence_2 : decode cL_presence 2 = .ok (.aload_n 0, 1) := by decide +kernel
theorem dL_presence_3 : decode cL_presence 3 = .ok (.iload_n 1, 1) := by decide +kernel
theorem dL_presence_4 : decode cL_presence 4 = .ok (.invokevirtual 44, 3) := by decide +kernel
theorem dL_presence_7 : decode cL_presence 7 = .ok (.i2l, 1) := by decide +kernel
theorem dL_presence_8 : decode cL_presence 8 = .ok (.lastore, 1) := by decide +kernel
theorem dL_presence_9 : decode cL_presence 9 = .ok (.goto 6, 3) := by decide +kernel
theorem dL_presence_12 : decode cL_presence 12 = .ok (.astore_n 3, 1) := by decide +kernel
theorem dL_presence_13 : decode cL_presence 13 = .ok (.iconst 1, 1) := by decide +kernel
theorem dL_presence_14 : decode cL_presence 14 = .ok (.ireturn, 1) := by decide +kernel
theorem dL_presence_15 : decode cL_presence 15 = .ok (.iconst 0, 1) := by decide +kernel
theorem dL_presence_16 : decode cL_presence 16 = .ok (.ireturn, 1) := by decide +kernel
theorem dL_on_0 : decode cL_on 0 = .ok (.aload_n 3, 1) := by decide +kernel
theorem dL_on_1 : decode cL_on 1 = .ok (.iconst 0, 1) := by decide +kernel
theorem dL_on_2 : decode cL_on 2 = .ok (.aload_n 0, 1) := by decide +kernel
theorem dL_on_3 : decode cL_on 3 = .ok (.iload_n 1, 1) := by decide +kernel
theorem dL_on_4 : decode cL_on 4 = .ok (.iload_n 2, 1) := by decide +kernel
theorem dL_on_5 : decode cL_on 5 = .ok (.invokevirtual 47, 3) := by decide +kernel
theorem dL_on_8 : decode cL_on 8 = .ok (.i2l, 1) := by decide +kernel
theorem dL_on_9 : decode cL_on 9 = .ok (.lastore, 1) := by decide +kernel
theorem dL_on_10 : decode cL_on 10 = .ok (.goto 7, 3) := by decide +kernel
theorem dL_on_13 : decode cL_on 13 = .ok (.astore 4, 2) := by decide +kernel
theorem dL_on_15 : decode cL_on 15 = .ok (.iconst 1, 1) := by decide +kernel
theorem dL_on_16 : decode cL_on 16 = .ok (.ireturn, 1) := by decide +kernel
theorem dL_on_17 : decode cL_on 17 = .ok (.iconst 0, 1) := by decide +kernel
theorem dL_on_18 : decode cL_on 18 = .ok (.ireturn, 1) := by decide +kernel
theorem dL_features_0 : decode cL_features 0 = .ok (.aload_n 2, 1) := by decide +kernel
theorem dL_features_1 : decode cL_features 1 = .ok (.iconst 0, 1) := by decide +kernel
theorem dL_features_2 : decode cL_features 2 = .ok (.aload_n 0, 1) := by decide +kernel
theorem dL_features_3 : decode cL_features 3 = .ok (.iload_n 1, 1) := by decide +kernel
theorem dL_features_4 : decode cL_features 4 = .ok (.invokevirtual 50, 3) := by decide +kernel
theorem dL_features_7 : decode cL_features 7 = .ok (.i2l, 1) := by decide +kernel
theorem dL_features_8 : decode cL_features 8 = .ok (.lastore, 1) := by decide +kernel
theorem dL_features_9 : decode cL_features 9 = .ok (.goto 6, 3) := by decide +kernel
theorem dL_features_12 : decode cL_features 12 = .ok (.astore_n 3, 1) := by decide +kernel
theorem dL_features_13 : decode cL_features 13 = .ok (.iconst 1, 1) := by decide +kernel
theorem dL_features_14 : decode cL_features 14 = .ok (.ireturn, 1) := by decide +kernel
theorem dL_features_15 : decode cL_features 15 = .ok (.iconst 0, 1) := by decide +kernel
theorem dL_features_16 : decode cL_features 16 = .ok (.ireturn, 1) := by decide +kernel
theorem dL_length_0 : decode cL_length 0 = .ok (.aload_n 2, 1) := by decide +kernel
theorem dL_length_1 : decode cL_length 1 = .ok (.iconst 0, 1) := by decide +kernel
theorem dL_length_2 : decode cL_length 2 = .ok (.aload_n 0, 1) := by decide +kernel
theorem dL_length_3 : decode cL_length 3 = .ok (.iload_n 1, 1) := by decide +kernel
theorem dL_length_4 : decode cL_length 4 = .ok (.invokevirtual 53, 3) := by decide +kernel
theorem dL_length_7 : decode cL_length 7 = .ok (.i2l, 1) := by decide +kernel
theorem dL_length_8 : decode cL_length 8 = .ok (.lastore, 1) := by decide +kernel
theorem dL_length_9 : decode cL_length 9 = .ok (.goto 6, 3) := by decide +kernel
theorem dL_length_12 : decode cL_length 12 = .ok (.astore_n 3, 1) := by decide +kernel
theorem dL_length_13 : decode cL_length 13 = .ok (.iconst 1, 1) := by decide +kernel
theorem dL_length_14 : decode cL_length 14 = .ok (.ireturn, 1) := by decide +kernel
theorem dL_length_15 : decode cL_length 15 = .ok (.iconst 0, 1) := by decide +kernel
theorem dL_length_16 : decode cL_length 16 = .ok (.ireturn, 1) := by decide +kernel
theorem dL_place_0 : decode cL_place 0 = .ok (.aload_n 3, 1) := by decide +kernel
theorem dL_place_1 : decode cL_place 1 = .ok (.iconst 0, 1) := by decide +kernel
theorem dL_place_2 : decode cL_place 2 = .ok (.aload_n 0, 1) := by decide +kernel
theorem dL_place_3 : decode cL_place 3 = .ok (.iload_n 1, 1) := by decide +kernel
theorem dL_place_4 : decode cL_place 4 = .ok (.iload_n 2, 1) := by decide +kernel
theorem dL_place_5 : decode cL_place 5 = .ok (.invokevirtual 56, 3) := by decide +kernel
theorem dL_place_8 : decode cL_place 8 = .ok (.i2l, 1) := by decide +kernel
theorem dL_place_9 : decode cL_place 9 = .ok (.lastore, 1) := by decide +kernel
theorem dL_place_10 : decode cL_place 10 = .ok (.goto 7, 3) := by decide +kernel
theorem dL_place_13 : decode cL_place 13 = .ok (.astore 4, 2) := by decide +kernel
theorem dL_place_15 : decode cL_place 15 = .ok (.iconst 1, 1) := by decide +kernel
theorem dL_place_16 : decode cL_place 16 = .ok (.ireturn, 1) := by decide +kernel
theorem dL_place_17 : decode cL_place 17 = .ok (.iconst 0, 1) := by decide +kernel
theorem dL_place_18 : decode cL_place 18 = .ok (.ireturn, 1) := by decide +kernel
theorem dL_error_0 : decode cL_error 0 = .ok (.aload_n 2, 1) := by decide +kernel
theorem dL_error_1 : decode cL_error 1 = .ok (.iconst 0, 1) := by decide +kernel
theorem dL_error_2 : decode cL_error 2 = .ok (.aload_n 0, 1) := by decide +kernel
theorem dL_error_3 : decode cL_error 3 = .ok (.iload_n 1, 1) := by decide +kernel
theorem dL_error_4 : decode cL_error 4 = .ok (.invokevirtual 59, 3) := by decide +kernel
theorem dL_error_7 : decode cL_error 7 = .ok (.i2l, 1) := by decide +kernel
theorem dL_error_8 : decode cL_error 8 = .ok (.lastore, 1) := by decide +kernel
theorem dL_error_9 : decode cL_error 9 = .ok (.goto 9, 3) := by decide +kernel
theorem dL_error_12 : decode cL_error 12 = .ok (.astore_n 3, 1) := by decide +kernel
theorem dL_error_13 : decode cL_error 13 = .ok (.iconst 1, 1) := by decide +kernel
theorem dL_error_14 : decode cL_error 14 = .ok (.ireturn, 1) := by decide +kernel
theorem dL_error_15 : decode cL_error 15 = .ok (.astore_n 3, 1) := by decide +kernel
theorem dL_error_16 : decode cL_error 16 = .ok (.iconst 2, 1) := by decide +kernel
theorem dL_error_17 : decode cL_error 17 = .ok (.ireturn, 1) := by decide +kernel
theorem dL_error_18 : decode cL_error 18 = .ok (.iconst 0, 1) := by decide +kernel
theorem dL_error_19 : decode cL_error 19 = .ok (.ireturn, 1) := by decide +kernel
theorem dL_wrong_0 : decode cL_wrong 0 = .ok (.aload_n 1, 1) := by decide +kernel
theorem dL_wrong_1 : decode cL_wrong 1 = .ok (.iconst 0, 1) := by decide +kernel
theorem dL_wrong_2 : decode cL_wrong 2 = .ok (.aload_n 0, 1) := by decide +kernel
theorem dL_wrong_3 : decode cL_wrong 3 = .ok (.invokevirtual 62, 3) := by decide +kernel
theorem dL_wrong_6 : decode cL_wrong 6 = .ok (.i2l, 1) := by decide +kernel
theorem dL_wrong_7 : decode cL_wrong 7 = .ok (.lastore, 1) := by decide +kernel
theorem dL_wrong_8 : decode cL_wrong 8 = .ok (.goto 6, 3) := by decide +kernel
theorem dL_wrong_11 : decode cL_wrong 11 = .ok (.astore_n 2, 1) := by decide +kernel
theorem dL_wrong_12 : decode cL_wrong 12 = .ok (.iconst 1, 1) := by decide +kernel
theorem dL_wrong_13 : decode cL_wrong 13 = .ok (.ireturn, 1) := by decide +kernel
theorem dL_wrong_14 : decode cL_wrong 14 = .ok (.iconst 0, 1) := by decide +kernel
theorem dL_wrong_15 : decode cL_wrong 15 = .ok (.ireturn, 1) := by decide +kernel
theorem dL_firstError_0 : decode cL_firstError 0 = .ok (.aload_n 1, 1) := by decide +kernel
theorem dL_firstError_1 : decode cL_firstError 1 = .ok (.iconst 0, 1) := by decide +kernel
theorem dL_firstError_2 : decode cL_firstError 2 = .ok (.aload_n 0, 1) := by decide +kernel
theorem dL_firstError_3 : decode cL_firstError 3 = .ok (.invokevirtual 65, 3) := by decide +kernel
theorem dL_firstError_6 : decode cL_firstError 6 = .ok (.i2l, 1) := by decide +kernel
theorem dL_firstError_7 : decode cL_firstError 7 = .ok (.lastore, 1) := by decide +kernel
theorem dL_firstError_8 : decode cL_firstError 8 = .ok (.goto 6, 3) := by decide +kernel
theorem dL_firstError_11 : decode cL_firstError 11 = .ok (.astore_n 2, 1) := by decide +kernel
theorem dL_firstError_12 : decode cL_firstError 12 = .ok (.iconst 1, 1) := by decide +kernel
theorem dL_firstError_13 : decode cL_firstError 13 = .ok (.ireturn, 1) := by decide +kernel
theorem dL_firstError_14 : decode cL_firstError 14 = .ok (.iconst 0, 1) := by decide +kernel
theorem dL_firstError_15 : decode cL_firstError 15 = .ok (.ireturn, 1) := by decide +kernel
theorem dL_groups_0 : decode cL_groups 0 = .ok (.aload_n 2, 1) := by decide +kernel
theorem dL_groups_1 : decode cL_groups 1 = .ok (.iconst 0, 1) := by decide +kernel
theorem dL_groups_2 : decode cL_groups 2 = .ok (.aload_n 0, 1) := by decide +kernel
theorem dL_groups_3 : decode cL_groups 3 = .ok (.iload_n 1, 1) := by decide +kernel
theorem dL_groups_4 : decode cL_groups 4 = .ok (.invokevirtual 68, 3) := by decide +kernel
theorem dL_groups_7 : decode cL_groups 7 = .ok (.i2l, 1) := by decide +kernel
theorem dL_groups_8 : decode cL_groups 8 = .ok (.lastore, 1) := by decide +kernel
theorem dL_groups_9 : decode cL_groups 9 = .ok (.goto 9, 3) := by decide +kernel
theorem dL_groups_12 : decode cL_groups 12 = .ok (.astore_n 3, 1) := by decide +kernel
theorem dL_groups_13 : decode cL_groups 13 = .ok (.iconst 1, 1) := by decide +kernel
theorem dL_groups_14 : decode cL_groups 14 = .ok (.ireturn, 1) := by decide +kernel
theorem dL_groups_15 : decode cL_groups 15 = .ok (.astore_n 3, 1) := by decide +kernel
theorem dL_groups_16 : decode cL_groups 16 = .ok (.iconst 2, 1) := by decide +kernel
theorem dL_groups_17 : decode cL_groups 17 = .ok (.ireturn, 1) := by decide +kernel
theorem dL_groups_18 : decode cL_groups 18 = .ok (.iconst 0, 1) := by decide +kernel
theorem dL_groups_19 : decode cL_groups 19 = .ok (.ireturn, 1) := by decide +kernel
theorem dL_work_0 : decode cL_work 0 = .ok (.aload_n 1, 1) := by decide +kernel
theorem dL_work_1 : decode cL_work 1 = .ok (.iconst 0, 1) := by decide +kernel
theorem dL_work_2 : decode cL_work 2 = .ok (.aload_n 0, 1) := by decide +kernel
theorem dL_work_3 : decode cL_work 3 = .ok (.invokevirtual 71, 3) := by decide +kernel
theorem dL_work_6 : decode cL_work 6 = .ok (.i2l, 1) := by decide +kernel
theorem dL_work_7 : decode cL_work 7 = .ok (.lastore, 1) := by decide +kernel
theorem dL_work_8 : decode cL_work 8 = .ok (.goto 6, 3) := by decide +kernel
theorem dL_work_11 : decode cL_work 11 = .ok (.astore_n 2, 1) := by decide +kernel
theorem dL_work_12 : decode cL_work 12 = .ok (.iconst 1, 1) := by decide +kernel
theorem dL_work_13 : decode cL_work 13 = .ok (.ireturn, 1) := by decide +kernel
theorem dL_work_14 : decode cL_work 14 = .ok (.iconst 0, 1) := by decide +kernel
theorem dL_work_15 : decode cL_work 15 = .ok (.ireturn, 1) := by decide +kernel
theorem dL_gain_0 : decode cL_gain 0 = .ok (.aload_n 1, 1) := by decide +kernel
theorem dL_gain_1 : decode cL_gain 1 = .ok (.iconst 0, 1) := by decide +kernel
theorem dL_gain_2 : decode cL_gain 2 = .ok (.aload_n 0, 1) := by decide +kernel
theorem dL_gain_3 : decode cL_gain 3 = .ok (.invokevirtual 74, 3) := by decide +kernel
theorem dL_gain_6 : decode cL_gain 6 = .ok (.dastore, 1) := by decide +kernel
theorem dL_gain_7 : decode cL_gain 7 = .ok (.goto 6, 3) := by decide +kernel
theorem dL_gain_10 : decode cL_gain 10 = .ok (.astore_n 2, 1) := by decide +kernel
theorem dL_gain_11 : decode cL_gain 11 = .ok (.iconst 1, 1) := by decide +kernel
theorem dL_gain_12 : decode cL_gain 12 = .ok (.ireturn, 1) := by decide +kernel
theorem dL_gain_13 : decode cL_gain 13 = .ok (.iconst 0, 1) := by decide +kernel
theorem dL_gain_14 : decode cL_gain 14 = .ok (.ireturn, 1) := by decide +kernel
theorem dL_stack_0 : decode cL_stack 0 = .ok (.aload_n 3, 1) := by decide +kernel
theorem dL_stack_1 : decode cL_stack 1 = .ok (.iconst 0, 1) := by decide +kernel
theorem dL_stack_2 : decode cL_stack 2 = .ok (.aload_n 0, 1) := by decide +kernel
theorem dL_stack_3 : decode cL_stack 3 = .ok (.iload_n 1, 1) := by decide +kernel
theorem dL_stack_4 : decode cL_stack 4 = .ok (.iload_n 2, 1) := by decide +kernel
theorem dL_stack_5 : decode cL_stack 5 = .ok (.invokevirtual 78, 3) := by decide +kernel
theorem dL_stack_8 : decode cL_stack 8 = .ok (.i2l, 1) := by decide +kernel
theorem dL_stack_9 : decode cL_stack 9 = .ok (.lastore, 1) := by decide +kernel
theorem dL_stack_10 : decode cL_stack 10 = .ok (.goto 11, 3) := by decide +kernel
theorem dL_stack_13 : decode cL_stack 13 = .ok (.astore 4, 2) := by decide +kernel
theorem dL_stack_15 : decode cL_stack 15 = .ok (.iconst 1, 1) := by decide +kernel
theorem dL_stack_16 : decode cL_stack 16 = .ok (.ireturn, 1) := by decide +kernel
theorem dL_stack_17 : decode cL_stack 17 = .ok (.astore 4, 2) := by decide +kernel
theorem dL_stack_19 : decode cL_stack 19 = .ok (.iconst 2, 1) := by decide +kernel
theorem dL_stack_20 : decode cL_stack 20 = .ok (.ireturn, 1) := by decide +kernel
theorem dL_stack_21 : decode cL_stack 21 = .ok (.iconst 0, 1) := by decide +kernel
theorem dL_stack_22 : decode cL_stack 22 = .ok (.ireturn, 1) := by decide +kernel
theorem dL_outputs_0 : decode cL_outputs 0 = .ok (.aload_n 2, 1) := by decide +kernel
theorem dL_outputs_1 : decode cL_outputs 1 = .ok (.iconst 0, 1) := by decide +kernel
theorem dL_outputs_2 : decode cL_outputs 2 = .ok (.aload_n 0, 1) := by decide +kernel
theorem dL_outputs_3 : decode cL_outputs 3 = .ok (.iload_n 1, 1) := by decide +kernel
theorem dL_outputs_4 : decode cL_outputs 4 = .ok (.invokevirtual 81, 3) := by decide +kernel
theorem dL_outputs_7 : decode cL_outputs 7 = .ok (.i2l, 1) := by decide +kernel
theorem dL_outputs_8 : decode cL_outputs 8 = .ok (.lastore, 1) := by decide +kernel
theorem dL_outputs_9 : decode cL_outputs 9 = .ok (.goto 12, 3) := by decide +kernel
theorem dL_outputs_12 : decode cL_outputs 12 = .ok (.astore_n 3, 1) := by decide +kernel
theorem dL_outputs_13 : decode cL_outputs 13 = .ok (.iconst 1, 1) := by decide +kernel
theorem dL_outputs_14 : decode cL_outputs 14 = .ok (.ireturn, 1) := by decide +kernel
theorem dL_outputs_15 : decode cL_outputs 15 = .ok (.astore_n 3, 1) := by decide +kernel
theorem dL_outputs_16 : decode cL_outputs 16 = .ok (.iconst 2, 1) := by decide +kernel
theorem dL_outputs_17 : decode cL_outputs 17 = .ok (.ireturn, 1) := by decide +kernel
theorem dL_outputs_18 : decode cL_outputs 18 = .ok (.astore_n 3, 1) := by decide +kernel
theorem dL_outputs_19 : decode cL_outputs 19 = .ok (.iconst 3, 1) := by decide +kernel
theorem dL_outputs_20 : decode cL_outputs 20 = .ok (.ireturn, 1) := by decide +kernel
theorem dL_outputs_21 : decode cL_outputs 21 = .ok (.iconst 0, 1) := by decide +kernel
theorem dL_outputs_22 : decode cL_outputs 22 = .ok (.ireturn, 1) := by decide +kernel
theorem dL_output_0 : decode cL_output 0 = .ok (.aload_n 3, 1) := by decide +kernel
theorem dL_output_1 : decode cL_output 1 = .ok (.iconst 0, 1) := by decide +kernel
theorem dL_output_2 : decode cL_output 2 = .ok (.aload_n 0, 1) := by decide +kernel
theorem dL_output_3 : decode cL_output 3 = .ok (.iload_n 1, 1) := by decide +kernel
theorem dL_output_4 : decode cL_output 4 = .ok (.iload_n 2, 1) := by decide +kernel
theorem dL_output_5 : decode cL_output 5 = .ok (.invokevirtual 86, 3) := by decide +kernel
theorem dL_output_8 : decode cL_output 8 = .ok (.i2l, 1) := by decide +kernel
theorem dL_output_9 : decode cL_output 9 = .ok (.lastore, 1) := by decide +kernel
theorem dL_output_10 : decode cL_output 10 = .ok (.goto 19, 3) := by decide +kernel
theorem dL_output_13 : decode cL_output 13 = .ok (.astore 4, 2) := by decide +kernel
theorem dL_output_15 : decode cL_output 15 = .ok (.iconst 1, 1) := by decide +kernel
theorem dL_output_16 : decode cL_output 16 = .ok (.ireturn, 1) := by decide +kernel
theorem dL_output_17 : decode cL_output 17 = .ok (.astore 4, 2) := by decide +kernel
theorem dL_output_19 : decode cL_output 19 = .ok (.iconst 2, 1) := by decide +kernel
theorem dL_output_20 : decode cL_output 20 = .ok (.ireturn, 1) := by decide +kernel
theorem dL_output_21 : decode cL_output 21 = .ok (.astore 4, 2) := by decide +kernel
theorem dL_output_23 : decode cL_output 23 = .ok (.iconst 3, 1) := by decide +kernel
theorem dL_output_24 : decode cL_output 24 = .ok (.ireturn, 1) := by decide +kernel
theorem dL_output_25 : decode cL_output 25 = .ok (.astore 4, 2) := by decide +kernel
theorem dL_output_27 : decode cL_output 27 = .ok (.iconst 4, 1) := by decide +kernel
theorem dL_output_28 : decode cL_output 28 = .ok (.ireturn, 1) := by decide +kernel
theorem dL_output_29 : decode cL_output 29 = .ok (.iconst 0, 1) := by decide +kernel
theorem dL_output_30 : decode cL_output 30 = .ok (.ireturn, 1) := by decide +kernel
theorem dL_variable_0 : decode cL_variable 0 = .ok (.aload_n 3, 1) := by decide +kernel
theorem dL_variable_1 : decode cL_variable 1 = .ok (.iconst 0, 1) := by decide +kernel
theorem dL_variable_2 : decode cL_variable 2 = .ok (.aload_n 0, 1) := by decide +kernel
theorem dL_variable_3 : decode cL_variable 3 = .ok (.iload_n 1, 1) := by decide +kernel
theorem dL_variable_4 : decode cL_variable 4 = .ok (.iload_n 2, 1) := by decide +kernel
theorem dL_variable_5 : decode cL_variable 5 = .ok (.invokevirtual 89, 3) := by decide +kernel
theorem dL_variable_8 : decode cL_variable 8 = .ok (.i2l, 1) := by decide +kernel
theorem dL_variable_9 : decode cL_variable 9 = .ok (.lastore, 1) := by decide +kernel
theorem dL_variable_10 : decode cL_variable 10 = .ok (.goto 19, 3) := by decide +kernel
theorem dL_variable_13 : decode cL_variable 13 = .ok (.astore 4, 2) := by decide +kernel
theorem dL_variable_15 : decode cL_variable 15 = .ok (.iconst 1, 1) := by decide +kernel
theorem dL_variable_16 : decode cL_variable 16 = .ok (.ireturn, 1) := by decide +kernel
theorem dL_variable_17 : decode cL_variable 17 = .ok (.astore 4, 2) := by decide +kernel
theorem dL_variable_19 : decode cL_variable 19 = .ok (.iconst 2, 1) := by decide +kernel
theorem dL_variable_20 : decode cL_variable 20 = .ok (.ireturn, 1) := by decide +kernel
theorem dL_variable_21 : decode cL_variable 21 = .ok (.astore 4, 2) := by decide +kernel
theorem dL_variable_23 : decode cL_variable 23 = .ok (.iconst 3, 1) := by decide +kernel
theorem dL_variable_24 : decode cL_variable 24 = .ok (.ireturn, 1) := by decide +kernel
theorem dL_variable_25 : decode cL_variable 25 = .ok (.astore 4, 2) := by decide +kernel
theorem dL_variable_27 : decode cL_variable 27 = .ok (.iconst 4, 1) := by decide +kernel
theorem dL_variable_28 : decode cL_variable 28 = .ok (.ireturn, 1) := by decide +kernel
theorem dL_variable_29 : decode cL_variable 29 = .ok (.iconst 0, 1) := by decide +kernel
theorem dL_variable_30 : decode cL_variable 30 = .ok (.ireturn, 1) := by decide +kernel
theorem dL_behaviours_0 : decode cL_behaviours 0 = .ok (.aload_n 1, 1) := by decide +kernel
theorem dL_behaviours_1 : decode cL_behaviours 1 = .ok (.iconst 0, 1) := by decide +kernel
theorem dL_behaviours_2 : decode cL_behaviours 2 = .ok (.aload_n 0, 1) := by decide +kernel
theorem dL_behaviours_3 : decode cL_behaviours 3 = .ok (.invokevirtual 92, 3) := by decide +kernel
theorem dL_behaviours_6 : decode cL_behaviours 6 = .ok (.i2l, 1) := by decide +kernel
theorem dL_behaviours_7 : decode cL_behaviours 7 = .ok (.lastore, 1) := by decide +kernel
theorem dL_behaviours_8 : decode cL_behaviours 8 = .ok (.goto 6, 3) := by decide +kernel
theorem dL_behaviours_11 : decode cL_behaviours 11 = .ok (.astore_n 2, 1) := by decide +kernel
theorem dL_behaviours_12 : decode cL_behaviours 12 = .ok (.iconst 1, 1) := by decide +kernel
theorem dL_behaviours_13 : decode cL_behaviours 13 = .ok (.ireturn, 1) := by decide +kernel
theorem dL_behaviours_14 : decode cL_behaviours 14 = .ok (.iconst 0, 1) := by decide +kernel
theorem dL_behaviours_15 : decode cL_behaviours 15 = .ok (.ireturn, 1) := by decide +kernel
theorem dL_law_0 : decode cL_law 0 = .ok (.new 8, 3) := by decide +kernel
theorem dL_law_3 : decode cL_law 3 = .ok (.dup, 1) := by decide +kernel
theorem dL_law_4 : decode cL_law 4 = .ok (.invokespecial 95, 3) := by decide +kernel
theorem dL_law_7 : decode cL_law 7 = .ok (.astore_n 1, 1) := by decide +kernel
theorem dL_law_8 : decode cL_law 8 = .ok (.new 96, 3) := by decide +kernel
theorem dL_law_11 : decode cL_law 11 = .ok (.dup, 1) := by decide +kernel
theorem dL_law_12 : decode cL_law 12 = .ok (.invokespecial 98, 3) := by decide +kernel
theorem dL_law_15 : decode cL_law 15 = .ok (.astore_n 2, 1) := by decide +kernel
theorem dL_law_16 : decode cL_law 16 = .ok (.iconst 1, 1) := by decide +kernel
theorem dL_law_17 : decode cL_law 17 = .ok (.newarray .long, 2) := by decide +kernel
theorem dL_law_19 : decode cL_law 19 = .ok (.astore_n 3, 1) := by decide +kernel
theorem dL_law_20 : decode cL_law 20 = .ok (.iconst 1, 1) := by decide +kernel
theorem dL_law_21 : decode cL_law 21 = .ok (.newarray .double, 2) := by decide +kernel
theorem dL_law_23 : decode cL_law 23 = .ok (.astore 4, 2) := by decide +kernel
theorem dL_law_25 : decode cL_law 25 = .ok (.iconst 0, 1) := by decide +kernel
theorem dL_law_26 : decode cL_law 26 = .ok (.istore 5, 2) := by decide +kernel
theorem dL_law_28 : decode cL_law 28 = .ok (.iload 5, 2) := by decide +kernel
theorem dL_law_30 : decode cL_law 30 = .ok (.aload_n 0, 1) := by decide +kernel
theorem dL_law_31 : decode cL_law 31 = .ok (.arraylength, 1) := by decide +kernel
theorem dL_law_32 : decode cL_law 32 = .ok (.iconst 3, 1) := by decide +kernel
theorem dL_law_33 : decode cL_law 33 = .ok (.isub, 1) := by decide +kernel
theorem dL_law_34 : decode cL_law 34 = .ok (.if_icmp .gt 1643, 3) := by decide +kernel
theorem dL_law_37 : decode cL_law 37 = .ok (.aload_n 0, 1) := by decide +kernel
theorem dL_law_38 : decode cL_law 38 = .ok (.iload 5, 2) := by decide +kernel
theorem dL_law_40 : decode cL_law 40 = .ok (.iaload, 1) := by decide +kernel
theorem dL_law_41 : decode cL_law 41 = .ok (.bipush 31, 2) := by decide +kernel
theorem dL_law_43 : decode cL_law 43 = .ok (.iand, 1) := by decide +kernel
theorem dL_law_44 : decode cL_law 44 = .ok (.tableswitch 1627 0 28 #[132, 220, 304, 348, 392, 476, 520, 588, 601, 657, 670, 726, 794, 850, 863, 919, 987, 1000, 1056, 1100, 1144, 1200, 1244, 1309, 1377, 1433, 1501, 1569, 1613], 132) := by decide +kernel
theorem dL_law_176 : decode cL_law 176 = .ok (.aload_n 1, 1) := by decide +kernel
theorem dL_law_177 : decode cL_law 177 = .ok (.aload_n 0, 1) := by decide +kernel
theorem dL_law_178 : decode cL_law 178 = .ok (.iload 5, 2) := by decide +kernel
theorem dL_law_180 : decode cL_law 180 = .ok (.iconst 1, 1) := by decide +kernel
theorem dL_law_181 : decode cL_law 181 = .ok (.iadd, 1) := by decide +kernel
theorem dL_law_182 : decode cL_law 182 = .ok (.iaload, 1) := by decide +kernel
theorem dL_law_183 : decode cL_law 183 = .ok (.i2l, 1) := by decide +kernel
theorem dL_law_184 : decode cL_law 184 = .ok (.bipush 32, 2) := by decide +kernel
theorem dL_law_186 : decode cL_law 186 = .ok (.lshl, 1) := by decide +kernel
theorem dL_law_187 : decode cL_law 187 = .ok (.aload_n 0, 1) := by decide +kernel
theorem dL_law_188 : decode cL_law 188 = .ok (.iload 5, 2) := by decide +kernel
theorem dL_law_190 : decode cL_law 190 = .ok (.iconst 2, 1) := by decide +kernel
theorem dL_law_191 : decode cL_law 191 = .ok (.iadd, 1) := by decide +kernel
theorem dL_law_192 : decode cL_law 192 = .ok (.iaload, 1) := by decide +kernel
theorem dL_law_193 : decode cL_law 193 = .ok (.i2l, 1) := by decide +kernel
theorem dL_law_194 : decode cL_law 194 = .ok (.ldc2_w 99, 3) := by decide +kernel
theorem dL_law_197 : decode cL_law 197 = .ok (.land, 1) := by decide +kernel
theorem dL_law_198 : decode cL_law 198 = .ok (.lor, 1) := by decide +kernel
theorem dL_law_199 : decode cL_law 199 = .ok (.aload_n 3, 1) := by decide +kernel
theorem dL_law_200 : decode cL_law 200 = .ok (.invokestatic 101, 3) := by decide +kernel
theorem dL_law_203 : decode cL_law 203 = .ok (.istore 6, 2) := by decide +kernel
theorem dL_law_205 : decode cL_law 205 = .ok (.aload_n 2, 1) := by decide +kernel
theorem dL_law_206 : decode cL_law 206 = .ok (.aload_n 0, 1) := by decide +kernel
theorem dL_law_207 : decode cL_law 207 = .ok (.iload 5, 2) := by decide +kernel
theorem dL_law_209 : decode cL_law 209 = .ok (.iconst 1, 1) := by decide +kernel
theorem dL_law_210 : decode cL_law 210 = .ok (.iadd, 1) := by decide +kernel
theorem dL_law_211 : decode cL_law 211 = .ok (.iaload, 1) := by decide +kernel
theorem dL_law_212 : decode cL_law 212 = .ok (.i2l, 1) := by decide +kernel
theorem dL_law_213 : decode cL_law 213 = .ok (.bipush 32, 2) := by decide +kernel
theorem dL_law_215 : decode cL_law 215 = .ok (.lshl, 1) := by decide +kernel
theorem dL_law_216 : decode cL_law 216 = .ok (.aload_n 0, 1) := by decide +kernel
theorem dL_law_217 : decode cL_law 217 = .ok (.iload 5, 2) := by decide +kernel
theorem dL_law_219 : decode cL_law 219 = .ok (.iconst 2, 1) := by decide +kernel
theorem dL_law_220 : decode cL_law 220 = .ok (.iadd, 1) := by decide +kernel
theorem dL_law_221 : decode cL_law 221 = .ok (.iaload, 1) := by decide +kernel
theorem dL_law_222 : decode cL_law 222 = .ok (.i2l, 1) := by decide +kernel
theorem dL_law_223 : decode cL_law 223 = .ok (.ldc2_w 99, 3) := by decide +kernel
theorem dL_law_226 : decode cL_law 226 = .ok (.land, 1) := by decide +kernel
theorem dL_law_227 : decode cL_law 227 = .ok (.lor, 1) := by decide +kernel
theorem dL_law_228 : decode cL_law 228 = .ok (.invokevirtual 106, 3) := by decide +kernel
theorem dL_law_231 : decode cL_law 231 = .ok (.istore 7, 2) := by decide +kernel
theorem dL_law_233 : decode cL_law 233 = .ok (.aload_n 2, 1) := by decide +kernel
theorem dL_law_234 : decode cL_law 234 = .ok (.invokevirtual 107, 3) := by decide +kernel
theorem dL_law_237 : decode cL_law 237 = .ok (.iload 6, 2) := by decide +kernel
theorem dL_law_239 : decode cL_law 239 = .ok (.if_icmp .eq 5, 3) := by decide +kernel
theorem dL_law_242 : decode cL_law 242 = .ok (.iconst 0, 1) := by decide +kernel
theorem dL_law_243 : decode cL_law 243 = .ok (.ireturn, 1) := by decide +kernel
theorem dL_law_244 : decode cL_law 244 = .ok (.iload 6, 2) := by decide +kernel
theorem dL_law_246 : decode cL_law 246 = .ok (.ifCond .ne 15, 3) := by decide +kernel
theorem dL_law_249 : decode cL_law 249 = .ok (.aload_n 3, 1) := by decide +kernel
theorem dL_law_250 : decode cL_law 250 = .ok (.iconst 0, 1) := by decide +kernel
theorem dL_law_251 : decode cL_law 251 = .ok (.laload, 1) := by decide +kernel
theorem dL_law_252 : decode cL_law 252 = .ok (.iload 7, 2) := by decide +kernel
theorem dL_law_254 : decode cL_law 254 = .ok (.i2l, 1) := by decide +kernel
theorem dL_law_255 : decode cL_law 255 = .ok (.lcmp, 1) := by decide +kernel
theorem dL_law_256 : decode cL_law 256 = .ok (.ifCond .eq 5, 3) := by decide +kernel
theorem dL_law_259 : decode cL_law 259 = .ok (.iconst 0, 1) := by decide +kernel
theorem dL_law_260 : decode cL_law 260 = .ok (.ireturn, 1) := by decide +kernel
theorem dL_law_261 : decode cL_law 261 = .ok (.goto 1410, 3) := by decide +kernel
theorem dL_law_264 : decode cL_law 264 = .ok (.aload_n 1, 1) := by decide +kernel
theorem dL_law_265 : decode cL_law 265 = .ok (.aload_n 0, 1) := by decide +kernel
theorem dL_law_266 : decode cL_law 266 = .ok (.iload 5, 2) := by decide +kernel
theorem dL_law_268 : decode cL_law 268 = .ok (.iconst 1, 1) := by decide +kernel
theorem dL_law_269 : decode cL_law 269 = .ok (.iadd, 1) := by decide +kernel
theorem dL_law_270 : decode cL_law 270 = .ok (.iaload, 1) := by decide +kernel
theorem dL_law_271 : decode cL_law 271 = .ok (.aload_n 0, 1) := by decide +kernel
theorem dL_law_272 : decode cL_law 272 = .ok (.iload 5, 2) := by decide +kernel
theorem dL_law_274 : decode cL_law 274 = .ok (.iconst 2, 1) := by decide +kernel
theorem dL_law_275 : decode cL_law 275 = .ok (.iadd, 1) := by decide +kernel
theorem dL_law_276 : decode cL_law 276 = .ok (.iaload, 1) := by decide +kernel
theorem dL_law_277 : decode cL_law 277 = .ok (.ifCond .eq 7, 3) := by decide +kernel
theorem dL_law_280 : decode cL_law 280 = .ok (.iconst 1, 1) := by decide +kernel
theorem dL_law_281 : decode cL_law 281 = .ok (.goto 4, 3) := by decide +kernel
theorem dL_law_284 : decode cL_law 284 = .ok (.iconst 0, 1) := by decide +kernel
theorem dL_law_285 : decode cL_law 285 = .ok (.aload_n 3, 1) := by decide +kernel
theorem dL_law_286 : decode cL_law 286 = .ok (.invokestatic 110, 3) := by decide +kernel
theorem dL_law_289 : decode cL_law 289 = .ok (.istore 6, 2) := by decide +kernel
theorem dL_law_291 : decode cL_law 291 = .ok (.aload_n 2, 1) := by decide +kernel
theorem dL_law_292 : decode cL_law 292 = .ok (.aload_n 0, 1) := by decide +kernel
theorem dL_law_293 : decode cL_law 293 = .ok (.iload 5, 2) := by decide +kernel
theorem dL_law_295 : decode cL_law 295 = .ok (.iconst 1, 1) := by decide +kernel
theorem dL_law_296 : decode cL_law 296 = .ok (.iadd, 1) := by decide +kernel
theorem dL_law_297 : decode cL_law 297 = .ok (.iaload, 1) := by decide +kernel
theorem dL_law_298 : decode cL_law 298 = .ok (.aload_n 0, 1) := by decide +kernel
theorem dL_law_299 : decode cL_law 299 = .ok (.iload 5, 2) := by decide +kernel
theorem dL_law_301 : decode cL_law 301 = .ok (.iconst 2, 1) := by decide +kernel
theorem dL_law_302 : decode cL_law 302 = .ok (.iadd, 1) := by decide +kernel
theorem dL_law_303 : decode cL_law 303 = .ok (.iaload, 1) := by decide +kernel
theorem dL_law_304 : decode cL_law 304 = .ok (.ifCond .eq 7, 3) := by decide +kernel
theorem dL_law_307 : decode cL_law 307 = .ok (.iconst 1, 1) := by decide +kernel
theorem dL_law_308 : decode cL_law 308 = .ok (.goto 4, 3) := by decide +kernel
theorem dL_law_311 : decode cL_law 311 = .ok (.iconst 0, 1) := by decide +kernel
theorem dL_law_312 : decode cL_law 312 = .ok (.invokevirtual 113, 3) := by decide +kernel
theorem dL_law_315 : decode cL_law 315 = .ok (.istore 7, 2) := by decide +kernel
theorem dL_law_317 : decode cL_law 317 = .ok (.aload_n 2, 1) := by decide +kernel
theorem dL_law_318 : decode cL_law 318 = .ok (.invokevirtual 107, 3) := by decide +kernel
theorem dL_law_321 : decode cL_law 321 = .ok (.iload 6, 2) := by decide +kernel
theorem dL_law_323 : decode cL_law 323 = .ok (.if_icmp .eq 5, 3) := by decide +kernel
theorem dL_law_326 : decode cL_law 326 = .ok (.iconst 0, 1) := by decide +kernel
theorem dL_law_327 : decode cL_law 327 = .ok (.ireturn, 1) := by decide +kernel
theorem dL_law_328 : decode cL_law 328 = .ok (.iload 6, 2) := by decide +kernel
theorem dL_law_330 : decode cL_law 330 = .ok (.ifCond .ne 15, 3) := by decide +kernel
theorem dL_law_333 : decode cL_law 333 = .ok (.aload_n 3, 1) := by decide +kernel
theorem dL_law_334 : decode cL_law 334 = .ok (.iconst 0, 1) := by decide +kernel
theorem dL_law_335 : decode cL_law 335 = .ok (.laload, 1) := by decide +kernel
theorem dL_law_336 : decode cL_law 336 = .ok (.iload 7, 2) := by decide +kernel
theorem dL_law_338 : decode cL_law 338 = .ok (.i2l, 1) := by decide +kernel
theorem dL_law_339 : decode cL_law 339 = .ok (.lcmp, 1) := by decide +kernel
theorem dL_law_340 : decode cL_law 340 = .ok (.ifCond .eq 5, 3) := by decide +kernel
theorem dL_law_343 : decode cL_law 343 = .ok (.iconst 0, 1) := by decide +kernel
theorem dL_law_344 : decode cL_law 344 = .ok (.ireturn, 1) := by decide +kernel
theorem dL_law_345 : decode cL_law 345 = .ok (.goto 1326, 3) := by decide +kernel
theorem dL_law_348 : decode cL_law 348 = .ok (.aload_n 1, 1) := by decide +kernel
theorem dL_law_349 : decode cL_law 349 = .ok (.aload_n 3, 1) := by decide +kernel
theorem dL_law_350 : decode cL_law 350 = .ok (.invokestatic 114, 3) := by decide +kernel
theorem dL_law_353 : decode cL_law 353 = .ok (.istore 6, 2) := by decide +kernel
theorem dL_law_355 : decode cL_law 355 = .ok (.aload_n 2, 1) := by decide +kernel
theorem dL_law_356 : decode cL_law 356 = .ok (.invokevirtual 117, 3) := by decide +kernel
theorem dL_law_359 : decode cL_law 359 = .ok (.istore 7, 2) := by decide +kernel
theorem dL_law_361 : decode cL_law 361 = .ok (.aload_n 2, 1) := by decide +kernel
theorem dL_law_362 : decode cL_law 362 = .ok (.invokevirtual 107, 3) := by decide +kernel
theorem dL_law_365 : decode cL_law 365 = .ok (.iload 6, 2) := by decide +kernel
theorem dL_law_367 : decode cL_law 367 = .ok (.if_icmp .eq 5, 3) := by decide +kernel
theorem dL_law_370 : decode cL_law 370 = .ok (.iconst 0, 1) := by decide +kernel
theorem dL_law_371 : decode cL_law 371 = .ok (.ireturn, 1) := by decide +kernel
theorem dL_law_372 : decode cL_law 372 = .ok (.iload 6, 2) := by decide +kernel
theorem dL_law_374 : decode cL_law 374 = .ok (.ifCond .ne 15, 3) := by decide +kernel
theorem dL_law_377 : decode cL_law 377 = .ok (.aload_n 3, 1) := by decide +kernel
theorem dL_law_378 : decode cL_law 378 = .ok (.iconst 0, 1) := by decide +kernel
theorem dL_law_379 : decode cL_law 379 = .ok (.laload, 1) := by decide +kernel
theorem dL_law_380 : decode cL_law 380 = .ok (.iload 7, 2) := by decide +kernel
theorem dL_law_382 : decode cL_law 382 = .ok (.i2l, 1) := by decide +kernel
theorem dL_law_383 : decode cL_law 383 = .ok (.lcmp, 1) := by decide +kernel
theorem dL_law_384 : decode cL_law 384 = .ok (.ifCond .eq 5, 3) := by decide +kernel
theorem dL_law_387 : decode cL_law 387 = .ok (.iconst 0, 1) := by decide +kernel
theorem dL_law_388 : decode cL_law 388 = .ok (.ireturn, 1) := by decide +kernel
theorem dL_law_389 : decode cL_law 389 = .ok (.goto 1282, 3) := by decide +kernel
theorem dL_law_392 : decode cL_law 392 = .ok (.aload_n 1, 1) := by decide +kernel
theorem dL_law_393 : decode cL_law 393 = .ok (.aload_n 3, 1) := by decide +kernel
theorem dL_law_394 : decode cL_law 394 = .ok (.invokestatic 118, 3) := by decide +kernel
theorem dL_law_397 : decode cL_law 397 = .ok (.istore 6, 2) := by decide +kernel
theorem dL_law_399 : decode cL_law 399 = .ok (.aload_n 2, 1) := by decide +kernel
theorem dL_law_400 : decode cL_law 400 = .ok (.invokevirtual 120, 3) := by decide +kernel
theorem dL_law_403 : decode cL_law 403 = .ok (.istore 7, 2) := by decide +kernel
theorem dL_law_405 : decode cL_law 405 = .ok (.aload_n 2, 1) := by decide +kernel
theorem dL_law_406 : decode cL_law 406 = .ok (.invokevirtual 107, 3) := by decide +kernel
theorem dL_law_409 : decode cL_law 409 = .ok (.iload 6, 2) := by decide +kernel
theorem dL_law_411 : decode cL_law 411 = .ok (.if_icmp .eq 5, 3) := by decide +kernel
theorem dL_law_414 : decode cL_law 414 = .ok (.iconst 0, 1) := by decide +kernel
theorem dL_law_415 : decode cL_law 415 = .ok (.ireturn, 1) := by decide +kernel
theorem dL_law_416 : decode cL_law 416 = .ok (.iload 6, 2) := by decide +kernel
theorem dL_law_418 : decode cL_law 418 = .ok (.ifCond .ne 15, 3) := by decide +kernel
theorem dL_law_421 : decode cL_law 421 = .ok (.aload_n 3, 1) := by decide +kernel
theorem dL_law_422 : decode cL_law 422 = .ok (.iconst 0, 1) := by decide +kernel
theorem dL_law_423 : decode cL_law 423 = .ok (.laload, 1) := by decide +kernel
theorem dL_law_424 : decode cL_law 424 = .ok (.iload 7, 2) := by decide +kernel
theorem dL_law_426 : decode cL_law 426 = .ok (.i2l, 1) := by decide +kernel
theorem dL_law_427 : decode cL_law 427 = .ok (.lcmp, 1) := by decide +kernel
theorem dL_law_428 : decode cL_law 428 = .ok (.ifCond .eq 5, 3) := by decide +kernel
theorem dL_law_431 : decode cL_law 431 = .ok (.iconst 0, 1) := by decide +kernel
theorem dL_law_432 : decode cL_law 432 = .ok (.ireturn, 1) := by decide +kernel
theorem dL_law_433 : decode cL_law 433 = .ok (.goto 1238, 3) := by decide +kernel
theorem dL_law_436 : decode cL_law 436 = .ok (.aload_n 1, 1) := by decide +kernel
theorem dL_law_437 : decode cL_law 437 = .ok (.aload_n 0, 1) := by decide +kernel
theorem dL_law_438 : decode cL_law 438 = .ok (.iload 5, 2) := by decide +kernel
theorem dL_law_440 : decode cL_law 440 = .ok (.iconst 1, 1) := by decide +kernel
theorem dL_law_441 : decode cL_law 441 = .ok (.iadd, 1) := by decide +kernel
theorem dL_law_442 : decode cL_law 442 = .ok (.iaload, 1) := by decide +kernel
theorem dL_law_443 : decode cL_law 443 = .ok (.aload_n 0, 1) := by decide +kernel
theorem dL_law_444 : decode cL_law 444 = .ok (.iload 5, 2) := by decide +kernel
theorem dL_law_446 : decode cL_law 446 = .ok (.iconst 2, 1) := by decide +kernel
theorem dL_law_447 : decode cL_law 447 = .ok (.iadd, 1) := by decide +kernel
theorem dL_law_448 : decode cL_law 448 = .ok (.iaload, 1) := by decide +kernel
theorem dL_law_449 : decode cL_law 449 = .ok (.ifCond .eq 7, 3) := by decide +kernel
theorem dL_law_452 : decode cL_law 452 = .ok (.iconst 1, 1) := by decide +kernel
theorem dL_law_453 : decode cL_law 453 = .ok (.goto 4, 3) := by decide +kernel
theorem dL_law_456 : decode cL_law 456 = .ok (.iconst 0, 1) := by decide +kernel
theorem dL_law_457 : decode cL_law 457 = .ok (.aload_n 3, 1) := by decide +kernel
theorem dL_law_458 : decode cL_law 458 = .ok (.invokestatic 121, 3) := by decide +kernel
theorem dL_law_461 : decode cL_law 461 = .ok (.istore 6, 2) := by decide +kernel
theorem dL_law_463 : decode cL_law 463 = .ok (.aload_n 2, 1) := by decide +kernel
theorem dL_law_464 : decode cL_law 464 = .ok (.aload_n 0, 1) := by decide +kernel
theorem dL_law_465 : decode cL_law 465 = .ok (.iload 5, 2) := by decide +kernel
theorem dL_law_467 : decode cL_law 467 = .ok (.iconst 1, 1) := by decide +kernel
theorem dL_law_468 : decode cL_law 468 = .ok (.iadd, 1) := by decide +kernel
theorem dL_law_469 : decode cL_law 469 = .ok (.iaload, 1) := by decide +kernel
theorem dL_law_470 : decode cL_law 470 = .ok (.aload_n 0, 1) := by decide +kernel
theorem dL_law_471 : decode cL_law 471 = .ok (.iload 5, 2) := by decide +kernel
theorem dL_law_473 : decode cL_law 473 = .ok (.iconst 2, 1) := by decide +kernel
theorem dL_law_474 : decode cL_law 474 = .ok (.iadd, 1) := by decide +kernel
theorem dL_law_475 : decode cL_law 475 = .ok (.iaload, 1) := by decide +kernel
theorem dL_law_476 : decode cL_law 476 = .ok (.ifCond .eq 7, 3) := by decide +kernel
theorem dL_law_479 : decode cL_law 479 = .ok (.iconst 1, 1) := by decide +kernel
theorem dL_law_480 : decode cL_law 480 = .ok (.goto 4, 3) := by decide +kernel
theorem dL_law_483 : decode cL_law 483 = .ok (.iconst 0, 1) := by decide +kernel
theorem dL_law_484 : decode cL_law 484 = .ok (.invokevirtual 123, 3) := by decide +kernel
end
section
theorem dL_law_487 : decode cL_law 487 = .ok (.istore 7, 2) := by decide +kernel
theorem dL_law_489 : decode cL_law 489 = .ok (.aload_n 2, 1) := by decide +kernel
theorem dL_law_490 : decode cL_law 490 = .ok (.invokevirtual 107, 3) := by decide +kernel
theorem dL_law_493 : decode cL_law 493 = .ok (.iload 6, 2) := by decide +kernel
theorem dL_law_495 : decode cL_law 495 = .ok (.if_icmp .eq 5, 3) := by decide +kernel
theorem dL_law_498 : decode cL_law 498 = .ok (.iconst 0, 1) := by decide +kernel
theorem dL_law_499 : decode cL_law 499 = .ok (.ireturn, 1) := by decide +kernel
theorem dL_law_500 : decode cL_law 500 = .ok (.iload 6, 2) := by decide +kernel
theorem dL_law_502 : decode cL_law 502 = .ok (.ifCond .ne 15, 3) := by decide +kernel
theorem dL_law_505 : decode cL_law 505 = .ok (.aload_n 3, 1) := by decide +kernel
theorem dL_law_506 : decode cL_law 506 = .ok (.iconst 0, 1) := by decide +kernel
theorem dL_law_507 : decode cL_law 507 = .ok (.laload, 1) := by decide +kernel
theorem dL_law_508 : decode cL_law 508 = .ok (.iload 7, 2) := by decide +kernel
theorem dL_law_510 : decode cL_law 510 = .ok (.i2l, 1) := by decide +kernel
theorem dL_law_511 : decode cL_law 511 = .ok (.lcmp, 1) := by decide +kernel
theorem dL_law_512 : decode cL_law 512 = .ok (.ifCond .eq 5, 3) := by decide +kernel
theorem dL_law_515 : decode cL_law 515 = .ok (.iconst 0, 1) := by decide +kernel
theorem dL_law_516 : decode cL_law 516 = .ok (.ireturn, 1) := by decide +kernel
theorem dL_law_517 : decode cL_law 517 = .ok (.goto 1154, 3) := by decide +kernel
theorem dL_law_520 : decode cL_law 520 = .ok (.aload_n 1, 1) := by decide +kernel
theorem dL_law_521 : decode cL_law 521 = .ok (.aload_n 3, 1) := by decide +kernel
theorem dL_law_522 : decode cL_law 522 = .ok (.invokestatic 124, 3) := by decide +kernel
theorem dL_law_525 : decode cL_law 525 = .ok (.istore 6, 2) := by decide +kernel
theorem dL_law_527 : decode cL_law 527 = .ok (.aload_n 2, 1) := by decide +kernel
theorem dL_law_528 : decode cL_law 528 = .ok (.invokevirtual 126, 3) := by decide +kernel
theorem dL_law_531 : decode cL_law 531 = .ok (.istore 7, 2) := by decide +kernel
theorem dL_law_533 : decode cL_law 533 = .ok (.aload_n 2, 1) := by decide +kernel
theorem dL_law_534 : decode cL_law 534 = .ok (.invokevirtual 107, 3) := by decide +kernel
theorem dL_law_537 : decode cL_law 537 = .ok (.iload 6, 2) := by decide +kernel
theorem dL_law_539 : decode cL_law 539 = .ok (.if_icmp .eq 5, 3) := by decide +kernel
theorem dL_law_542 : decode cL_law 542 = .ok (.iconst 0, 1) := by decide +kernel
theorem dL_law_543 : decode cL_law 543 = .ok (.ireturn, 1) := by decide +kernel
theorem dL_law_544 : decode cL_law 544 = .ok (.iload 6, 2) := by decide +kernel
theorem dL_law_546 : decode cL_law 546 = .ok (.ifCond .ne 15, 3) := by decide +kernel
theorem dL_law_549 : decode cL_law 549 = .ok (.aload_n 3, 1) := by decide +kernel
theorem dL_law_550 : decode cL_law 550 = .ok (.iconst 0, 1) := by decide +kernel
theorem dL_law_551 : decode cL_law 551 = .ok (.laload, 1) := by decide +kernel
theorem dL_law_552 : decode cL_law 552 = .ok (.iload 7, 2) := by decide +kernel
theorem dL_law_554 : decode cL_law 554 = .ok (.i2l, 1) := by decide +kernel
theorem dL_law_555 : decode cL_law 555 = .ok (.lcmp, 1) := by decide +kernel
theorem dL_law_556 : decode cL_law 556 = .ok (.ifCond .eq 5, 3) := by decide +kernel
theorem dL_law_559 : decode cL_law 559 = .ok (.iconst 0, 1) := by decide +kernel
theorem dL_law_560 : decode cL_law 560 = .ok (.ireturn, 1) := by decide +kernel
theorem dL_law_561 : decode cL_law 561 = .ok (.goto 1110, 3) := by decide +kernel
theorem dL_law_564 : decode cL_law 564 = .ok (.aload_n 1, 1) := by decide +kernel
theorem dL_law_565 : decode cL_law 565 = .ok (.aload_n 0, 1) := by decide +kernel
theorem dL_law_566 : decode cL_law 566 = .ok (.iload 5, 2) := by decide +kernel
theorem dL_law_568 : decode cL_law 568 = .ok (.iconst 1, 1) := by decide +kernel
theorem dL_law_569 : decode cL_law 569 = .ok (.iadd, 1) := by decide +kernel
theorem dL_law_570 : decode cL_law 570 = .ok (.iaload, 1) := by decide +kernel
theorem dL_law_571 : decode cL_law 571 = .ok (.aload_n 0, 1) := by decide +kernel
theorem dL_law_572 : decode cL_law 572 = .ok (.iload 5, 2) := by decide +kernel
theorem dL_law_574 : decode cL_law 574 = .ok (.iconst 2, 1) := by decide +kernel
theorem dL_law_575 : decode cL_law 575 = .ok (.iadd, 1) := by decide +kernel
theorem dL_law_576 : decode cL_law 576 = .ok (.iaload, 1) := by decide +kernel
theorem dL_law_577 : decode cL_law 577 = .ok (.aload_n 3, 1) := by decide +kernel
theorem dL_law_578 : decode cL_law 578 = .ok (.invokestatic 127, 3) := by decide +kernel
theorem dL_law_581 : decode cL_law 581 = .ok (.istore 6, 2) := by decide +kernel
theorem dL_law_583 : decode cL_law 583 = .ok (.aload_n 2, 1) := by decide +kernel
theorem dL_law_584 : decode cL_law 584 = .ok (.aload_n 0, 1) := by decide +kernel
theorem dL_law_585 : decode cL_law 585 = .ok (.iload 5, 2) := by decide +kernel
theorem dL_law_587 : decode cL_law 587 = .ok (.iconst 1, 1) := by decide +kernel
theorem dL_law_588 : decode cL_law 588 = .ok (.iadd, 1) := by decide +kernel
theorem dL_law_589 : decode cL_law 589 = .ok (.iaload, 1) := by decide +kernel
theorem dL_law_590 : decode cL_law 590 = .ok (.aload_n 0, 1) := by decide +kernel
theorem dL_law_591 : decode cL_law 591 = .ok (.iload 5, 2) := by decide +kernel
theorem dL_law_593 : decode cL_law 593 = .ok (.iconst 2, 1) := by decide +kernel
theorem dL_law_594 : decode cL_law 594 = .ok (.iadd, 1) := by decide +kernel
theorem dL_law_595 : decode cL_law 595 = .ok (.iaload, 1) := by decide +kernel
theorem dL_law_596 : decode cL_law 596 = .ok (.invokevirtual 130, 3) := by decide +kernel
theorem dL_law_599 : decode cL_law 599 = .ok (.istore 7, 2) := by decide +kernel
theorem dL_law_601 : decode cL_law 601 = .ok (.aload_n 2, 1) := by decide +kernel
theorem dL_law_602 : decode cL_law 602 = .ok (.invokevirtual 107, 3) := by decide +kernel
theorem dL_law_605 : decode cL_law 605 = .ok (.iload 6, 2) := by decide +kernel
theorem dL_law_607 : decode cL_law 607 = .ok (.if_icmp .eq 5, 3) := by decide +kernel
theorem dL_law_610 : decode cL_law 610 = .ok (.iconst 0, 1) := by decide +kernel
theorem dL_law_611 : decode cL_law 611 = .ok (.ireturn, 1) := by decide +kernel
theorem dL_law_612 : decode cL_law 612 = .ok (.iload 6, 2) := by decide +kernel
theorem dL_law_614 : decode cL_law 614 = .ok (.ifCond .ne 15, 3) := by decide +kernel
theorem dL_law_617 : decode cL_law 617 = .ok (.aload_n 3, 1) := by decide +kernel
theorem dL_law_618 : decode cL_law 618 = .ok (.iconst 0, 1) := by decide +kernel
theorem dL_law_619 : decode cL_law 619 = .ok (.laload, 1) := by decide +kernel
theorem dL_law_620 : decode cL_law 620 = .ok (.iload 7, 2) := by decide +kernel
theorem dL_law_622 : decode cL_law 622 = .ok (.i2l, 1) := by decide +kernel
theorem dL_law_623 : decode cL_law 623 = .ok (.lcmp, 1) := by decide +kernel
theorem dL_law_624 : decode cL_law 624 = .ok (.ifCond .eq 5, 3) := by decide +kernel
theorem dL_law_627 : decode cL_law 627 = .ok (.iconst 0, 1) := by decide +kernel
theorem dL_law_628 : decode cL_law 628 = .ok (.ireturn, 1) := by decide +kernel
theorem dL_law_629 : decode cL_law 629 = .ok (.goto 1042, 3) := by decide +kernel
theorem dL_law_632 : decode cL_law 632 = .ok (.aload_n 1, 1) := by decide +kernel
theorem dL_law_633 : decode cL_law 633 = .ok (.invokevirtual 131, 3) := by decide +kernel
theorem dL_law_636 : decode cL_law 636 = .ok (.aload_n 2, 1) := by decide +kernel
theorem dL_law_637 : decode cL_law 637 = .ok (.invokevirtual 134, 3) := by decide +kernel
theorem dL_law_640 : decode cL_law 640 = .ok (.if_icmp .eq 1031, 3) := by decide +kernel
theorem dL_law_643 : decode cL_law 643 = .ok (.iconst 0, 1) := by decide +kernel
theorem dL_law_644 : decode cL_law 644 = .ok (.ireturn, 1) := by decide +kernel
theorem dL_law_645 : decode cL_law 645 = .ok (.aload_n 1, 1) := by decide +kernel
theorem dL_law_646 : decode cL_law 646 = .ok (.aload_n 0, 1) := by decide +kernel
theorem dL_law_647 : decode cL_law 647 = .ok (.iload 5, 2) := by decide +kernel
theorem dL_law_649 : decode cL_law 649 = .ok (.iconst 1, 1) := by decide +kernel
theorem dL_law_650 : decode cL_law 650 = .ok (.iadd, 1) := by decide +kernel
theorem dL_law_651 : decode cL_law 651 = .ok (.iaload, 1) := by decide +kernel
theorem dL_law_652 : decode cL_law 652 = .ok (.aload_n 3, 1) := by decide +kernel
theorem dL_law_653 : decode cL_law 653 = .ok (.invokestatic 135, 3) := by decide +kernel
theorem dL_law_656 : decode cL_law 656 = .ok (.istore 6, 2) := by decide +kernel
theorem dL_law_658 : decode cL_law 658 = .ok (.aload_n 2, 1) := by decide +kernel
theorem dL_law_659 : decode cL_law 659 = .ok (.aload_n 0, 1) := by decide +kernel
theorem dL_law_660 : decode cL_law 660 = .ok (.iload 5, 2) := by decide +kernel
theorem dL_law_662 : decode cL_law 662 = .ok (.iconst 1, 1) := by decide +kernel
theorem dL_law_663 : decode cL_law 663 = .ok (.iadd, 1) := by decide +kernel
theorem dL_law_664 : decode cL_law 664 = .ok (.iaload, 1) := by decide +kernel
theorem dL_law_665 : decode cL_law 665 = .ok (.invokevirtual 138, 3) := by decide +kernel
theorem dL_law_668 : decode cL_law 668 = .ok (.istore 7, 2) := by decide +kernel
theorem dL_law_670 : decode cL_law 670 = .ok (.aload_n 2, 1) := by decide +kernel
theorem dL_law_671 : decode cL_law 671 = .ok (.invokevirtual 107, 3) := by decide +kernel
theorem dL_law_674 : decode cL_law 674 = .ok (.iload 6, 2) := by decide +kernel
theorem dL_law_676 : decode cL_law 676 = .ok (.if_icmp .eq 5, 3) := by decide +kernel
theorem dL_law_679 : decode cL_law 679 = .ok (.iconst 0, 1) := by decide +kernel
theorem dL_law_680 : decode cL_law 680 = .ok (.ireturn, 1) := by decide +kernel
theorem dL_law_681 : decode cL_law 681 = .ok (.iload 6, 2) := by decide +kernel
theorem dL_law_683 : decode cL_law 683 = .ok (.ifCond .ne 15, 3) := by decide +kernel
theorem dL_law_686 : decode cL_law 686 = .ok (.aload_n 3, 1) := by decide +kernel
theorem dL_law_687 : decode cL_law 687 = .ok (.iconst 0, 1) := by decide +kernel
theorem dL_law_688 : decode cL_law 688 = .ok (.laload, 1) := by decide +kernel
theorem dL_law_689 : decode cL_law 689 = .ok (.iload 7, 2) := by decide +kernel
theorem dL_law_691 : decode cL_law 691 = .ok (.i2l, 1) := by decide +kernel
theorem dL_law_692 : decode cL_law 692 = .ok (.lcmp, 1) := by decide +kernel
theorem dL_law_693 : decode cL_law 693 = .ok (.ifCond .eq 5, 3) := by decide +kernel
theorem dL_law_696 : decode cL_law 696 = .ok (.iconst 0, 1) := by decide +kernel
theorem dL_law_697 : decode cL_law 697 = .ok (.ireturn, 1) := by decide +kernel
theorem dL_law_698 : decode cL_law 698 = .ok (.goto 973, 3) := by decide +kernel
theorem dL_law_701 : decode cL_law 701 = .ok (.aload_n 1, 1) := by decide +kernel
theorem dL_law_702 : decode cL_law 702 = .ok (.invokevirtual 139, 3) := by decide +kernel
theorem dL_law_705 : decode cL_law 705 = .ok (.aload_n 2, 1) := by decide +kernel
theorem dL_law_706 : decode cL_law 706 = .ok (.invokevirtual 142, 3) := by decide +kernel
theorem dL_law_709 : decode cL_law 709 = .ok (.if_icmp .eq 962, 3) := by decide +kernel
theorem dL_law_712 : decode cL_law 712 = .ok (.iconst 0, 1) := by decide +kernel
theorem dL_law_713 : decode cL_law 713 = .ok (.ireturn, 1) := by decide +kernel
theorem dL_law_714 : decode cL_law 714 = .ok (.aload_n 1, 1) := by decide +kernel
theorem dL_law_715 : decode cL_law 715 = .ok (.aload_n 0, 1) := by decide +kernel
theorem dL_law_716 : decode cL_law 716 = .ok (.iload 5, 2) := by decide +kernel
theorem dL_law_718 : decode cL_law 718 = .ok (.iconst 1, 1) := by decide +kernel
theorem dL_law_719 : decode cL_law 719 = .ok (.iadd, 1) := by decide +kernel
theorem dL_law_720 : decode cL_law 720 = .ok (.iaload, 1) := by decide +kernel
theorem dL_law_721 : decode cL_law 721 = .ok (.aload_n 3, 1) := by decide +kernel
theorem dL_law_722 : decode cL_law 722 = .ok (.invokestatic 143, 3) := by decide +kernel
theorem dL_law_725 : decode cL_law 725 = .ok (.istore 6, 2) := by decide +kernel
theorem dL_law_727 : decode cL_law 727 = .ok (.aload_n 2, 1) := by decide +kernel
theorem dL_law_728 : decode cL_law 728 = .ok (.aload_n 0, 1) := by decide +kernel
theorem dL_law_729 : decode cL_law 729 = .ok (.iload 5, 2) := by decide +kernel
theorem dL_law_731 : decode cL_law 731 = .ok (.iconst 1, 1) := by decide +kernel
theorem dL_law_732 : decode cL_law 732 = .ok (.iadd, 1) := by decide +kernel
theorem dL_law_733 : decode cL_law 733 = .ok (.iaload, 1) := by decide +kernel
theorem dL_law_734 : decode cL_law 734 = .ok (.invokevirtual 145, 3) := by decide +kernel
theorem dL_law_737 : decode cL_law 737 = .ok (.istore 7, 2) := by decide +kernel
theorem dL_law_739 : decode cL_law 739 = .ok (.aload_n 2, 1) := by decide +kernel
theorem dL_law_740 : decode cL_law 740 = .ok (.invokevirtual 107, 3) := by decide +kernel
theorem dL_law_743 : decode cL_law 743 = .ok (.iload 6, 2) := by decide +kernel
theorem dL_law_745 : decode cL_law 745 = .ok (.if_icmp .eq 5, 3) := by decide +kernel
theorem dL_law_748 : decode cL_law 748 = .ok (.iconst 0, 1) := by decide +kernel
theorem dL_law_749 : decode cL_law 749 = .ok (.ireturn, 1) := by decide +kernel
theorem dL_law_750 : decode cL_law 750 = .ok (.iload 6, 2) := by decide +kernel
theorem dL_law_752 : decode cL_law 752 = .ok (.ifCond .ne 15, 3) := by decide +kernel
theorem dL_law_755 : decode cL_law 755 = .ok (.aload_n 3, 1) := by decide +kernel
theorem dL_law_756 : decode cL_law 756 = .ok (.iconst 0, 1) := by decide +kernel
theorem dL_law_757 : decode cL_law 757 = .ok (.laload, 1) := by decide +kernel
theorem dL_law_758 : decode cL_law 758 = .ok (.iload 7, 2) := by decide +kernel
theorem dL_law_760 : decode cL_law 760 = .ok (.i2l, 1) := by decide +kernel
theorem dL_law_761 : decode cL_law 761 = .ok (.lcmp, 1) := by decide +kernel
theorem dL_law_762 : decode cL_law 762 = .ok (.ifCond .eq 5, 3) := by decide +kernel
theorem dL_law_765 : decode cL_law 765 = .ok (.iconst 0, 1) := by decide +kernel
theorem dL_law_766 : decode cL_law 766 = .ok (.ireturn, 1) := by decide +kernel
theorem dL_law_767 : decode cL_law 767 = .ok (.goto 904, 3) := by decide +kernel
theorem dL_law_770 : decode cL_law 770 = .ok (.aload_n 1, 1) := by decide +kernel
theorem dL_law_771 : decode cL_law 771 = .ok (.aload_n 0, 1) := by decide +kernel
theorem dL_law_772 : decode cL_law 772 = .ok (.iload 5, 2) := by decide +kernel
theorem dL_law_774 : decode cL_law 774 = .ok (.iconst 1, 1) := by decide +kernel
theorem dL_law_775 : decode cL_law 775 = .ok (.iadd, 1) := by decide +kernel
theorem dL_law_776 : decode cL_law 776 = .ok (.iaload, 1) := by decide +kernel
theorem dL_law_777 : decode cL_law 777 = .ok (.aload_n 0, 1) := by decide +kernel
theorem dL_law_778 : decode cL_law 778 = .ok (.iload 5, 2) := by decide +kernel
theorem dL_law_780 : decode cL_law 780 = .ok (.iconst 2, 1) := by decide +kernel
theorem dL_law_781 : decode cL_law 781 = .ok (.iadd, 1) := by decide +kernel
theorem dL_law_782 : decode cL_law 782 = .ok (.iaload, 1) := by decide +kernel
theorem dL_law_783 : decode cL_law 783 = .ok (.aload_n 3, 1) := by decide +kernel
theorem dL_law_784 : decode cL_law 784 = .ok (.invokestatic 146, 3) := by decide +kernel
theorem dL_law_787 : decode cL_law 787 = .ok (.istore 6, 2) := by decide +kernel
theorem dL_law_789 : decode cL_law 789 = .ok (.aload_n 2, 1) := by decide +kernel
theorem dL_law_790 : decode cL_law 790 = .ok (.aload_n 0, 1) := by decide +kernel
theorem dL_law_791 : decode cL_law 791 = .ok (.iload 5, 2) := by decide +kernel
theorem dL_law_793 : decode cL_law 793 = .ok (.iconst 1, 1) := by decide +kernel
theorem dL_law_794 : decode cL_law 794 = .ok (.iadd, 1) := by decide +kernel
theorem dL_law_795 : decode cL_law 795 = .ok (.iaload, 1) := by decide +kernel
theorem dL_law_796 : decode cL_law 796 = .ok (.aload_n 0, 1) := by decide +kernel
theorem dL_law_797 : decode cL_law 797 = .ok (.iload 5, 2) := by decide +kernel
theorem dL_law_799 : decode cL_law 799 = .ok (.iconst 2, 1) := by decide +kernel
theorem dL_law_800 : decode cL_law 800 = .ok (.iadd, 1) := by decide +kernel
theorem dL_law_801 : decode cL_law 801 = .ok (.iaload, 1) := by decide +kernel
theorem dL_law_802 : decode cL_law 802 = .ok (.invokevirtual 148, 3) := by decide +kernel
theorem dL_law_805 : decode cL_law 805 = .ok (.istore 7, 2) := by decide +kernel
theorem dL_law_807 : decode cL_law 807 = .ok (.aload_n 2, 1) := by decide +kernel
theorem dL_law_808 : decode cL_law 808 = .ok (.invokevirtual 107, 3) := by decide +kernel
theorem dL_law_811 : decode cL_law 811 = .ok (.iload 6, 2) := by decide +kernel
theorem dL_law_813 : decode cL_law 813 = .ok (.if_icmp .eq 5, 3) := by decide +kernel
theorem dL_law_816 : decode cL_law 816 = .ok (.iconst 0, 1) := by decide +kernel
theorem dL_law_817 : decode cL_law 817 = .ok (.ireturn, 1) := by decide +kernel
theorem dL_law_818 : decode cL_law 818 = .ok (.iload 6, 2) := by decide +kernel
theorem dL_law_820 : decode cL_law 820 = .ok (.ifCond .ne 15, 3) := by decide +kernel
theorem dL_law_823 : decode cL_law 823 = .ok (.aload_n 3, 1) := by decide +kernel
theorem dL_law_824 : decode cL_law 824 = .ok (.iconst 0, 1) := by decide +kernel
theorem dL_law_825 : decode cL_law 825 = .ok (.laload, 1) := by decide +kernel
theorem dL_law_826 : decode cL_law 826 = .ok (.iload 7, 2) := by decide +kernel
theorem dL_law_828 : decode cL_law 828 = .ok (.i2l, 1) := by decide +kernel
theorem dL_law_829 : decode cL_law 829 = .ok (.lcmp, 1) := by decide +kernel
theorem dL_law_830 : decode cL_law 830 = .ok (.ifCond .eq 5, 3) := by decide +kernel
theorem dL_law_833 : decode cL_law 833 = .ok (.iconst 0, 1) := by decide +kernel
theorem dL_law_834 : decode cL_law 834 = .ok (.ireturn, 1) := by decide +kernel
theorem dL_law_835 : decode cL_law 835 = .ok (.goto 836, 3) := by decide +kernel
theorem dL_law_838 : decode cL_law 838 = .ok (.aload_n 1, 1) := by decide +kernel
theorem dL_law_839 : decode cL_law 839 = .ok (.aload_n 0, 1) := by decide +kernel
theorem dL_law_840 : decode cL_law 840 = .ok (.iload 5, 2) := by decide +kernel
theorem dL_law_842 : decode cL_law 842 = .ok (.iconst 1, 1) := by decide +kernel
theorem dL_law_843 : decode cL_law 843 = .ok (.iadd, 1) := by decide +kernel
theorem dL_law_844 : decode cL_law 844 = .ok (.iaload, 1) := by decide +kernel
theorem dL_law_845 : decode cL_law 845 = .ok (.aload_n 3, 1) := by decide +kernel
theorem dL_law_846 : decode cL_law 846 = .ok (.invokestatic 149, 3) := by decide +kernel
theorem dL_law_849 : decode cL_law 849 = .ok (.istore 6, 2) := by decide +kernel
theorem dL_law_851 : decode cL_law 851 = .ok (.aload_n 2, 1) := by decide +kernel
theorem dL_law_852 : decode cL_law 852 = .ok (.aload_n 0, 1) := by decide +kernel
theorem dL_law_853 : decode cL_law 853 = .ok (.iload 5, 2) := by decide +kernel
theorem dL_law_855 : decode cL_law 855 = .ok (.iconst 1, 1) := by decide +kernel
theorem dL_law_856 : decode cL_law 856 = .ok (.iadd, 1) := by decide +kernel
theorem dL_law_857 : decode cL_law 857 = .ok (.iaload, 1) := by decide +kernel
theorem dL_law_858 : decode cL_law 858 = .ok (.invokevirtual 151, 3) := by decide +kernel
theorem dL_law_861 : decode cL_law 861 = .ok (.istore 7, 2) := by decide +kernel
theorem dL_law_863 : decode cL_law 863 = .ok (.aload_n 2, 1) := by decide +kernel
theorem dL_law_864 : decode cL_law 864 = .ok (.invokevirtual 107, 3) := by decide +kernel
theorem dL_law_867 : decode cL_law 867 = .ok (.iload 6, 2) := by decide +kernel
theorem dL_law_869 : decode cL_law 869 = .ok (.if_icmp .eq 5, 3) := by decide +kernel
theorem dL_law_872 : decode cL_law 872 = .ok (.iconst 0, 1) := by decide +kernel
theorem dL_law_873 : decode cL_law 873 = .ok (.ireturn, 1) := by decide +kernel
theorem dL_law_874 : decode cL_law 874 = .ok (.iload 6, 2) := by decide +kernel
theorem dL_law_876 : decode cL_law 876 = .ok (.ifCond .ne 15, 3) := by decide +kernel
theorem dL_law_879 : decode cL_law 879 = .ok (.aload_n 3, 1) := by decide +kernel
theorem dL_law_880 : decode cL_law 880 = .ok (.iconst 0, 1) := by decide +kernel
theorem dL_law_881 : decode cL_law 881 = .ok (.laload, 1) := by decide +kernel
theorem dL_law_882 : decode cL_law 882 = .ok (.iload 7, 2) := by decide +kernel
theorem dL_law_884 : decode cL_law 884 = .ok (.i2l, 1) := by decide +kernel
theorem dL_law_885 : decode cL_law 885 = .ok (.lcmp, 1) := by decide +kernel
theorem dL_law_886 : decode cL_law 886 = .ok (.ifCond .eq 5, 3) := by decide +kernel
theorem dL_law_889 : decode cL_law 889 = .ok (.iconst 0, 1) := by decide +kernel
theorem dL_law_890 : decode cL_law 890 = .ok (.ireturn, 1) := by decide +kernel
theorem dL_law_891 : decode cL_law 891 = .ok (.goto 780, 3) := by decide +kernel
theorem dL_law_894 : decode cL_law 894 = .ok (.aload_n 1, 1) := by decide +kernel
theorem dL_law_895 : decode cL_law 895 = .ok (.invokevirtual 152, 3) := by decide +kernel
theorem dL_law_898 : decode cL_law 898 = .ok (.aload_n 2, 1) := by decide +kernel
theorem dL_law_899 : decode cL_law 899 = .ok (.invokevirtual 155, 3) := by decide +kernel
theorem dL_law_902 : decode cL_law 902 = .ok (.if_icmp .eq 769, 3) := by decide +kernel
theorem dL_law_905 : decode cL_law 905 = .ok (.iconst 0, 1) := by decide +kernel
theorem dL_law_906 : decode cL_law 906 = .ok (.ireturn, 1) := by decide +kernel
theorem dL_law_907 : decode cL_law 907 = .ok (.aload_n 1, 1) := by decide +kernel
theorem dL_law_908 : decode cL_law 908 = .ok (.aload_n 0, 1) := by decide +kernel
theorem dL_law_909 : decode cL_law 909 = .ok (.iload 5, 2) := by decide +kernel
theorem dL_law_911 : decode cL_law 911 = .ok (.iconst 1, 1) := by decide +kernel
theorem dL_law_912 : decode cL_law 912 = .ok (.iadd, 1) := by decide +kernel
theorem dL_law_913 : decode cL_law 913 = .ok (.iaload, 1) := by decide +kernel
theorem dL_law_914 : decode cL_law 914 = .ok (.aload_n 3, 1) := by decide +kernel
theorem dL_law_915 : decode cL_law 915 = .ok (.invokestatic 156, 3) := by decide +kernel
theorem dL_law_918 : decode cL_law 918 = .ok (.istore 6, 2) := by decide +kernel
theorem dL_law_920 : decode cL_law 920 = .ok (.aload_n 2, 1) := by decide +kernel
theorem dL_law_921 : decode cL_law 921 = .ok (.aload_n 0, 1) := by decide +kernel
theorem dL_law_922 : decode cL_law 922 = .ok (.iload 5, 2) := by decide +kernel
theorem dL_law_924 : decode cL_law 924 = .ok (.iconst 1, 1) := by decide +kernel
theorem dL_law_925 : decode cL_law 925 = .ok (.iadd, 1) := by decide +kernel
theorem dL_law_926 : decode cL_law 926 = .ok (.iaload, 1) := by decide +kernel
theorem dL_law_927 : decode cL_law 927 = .ok (.invokevirtual 158, 3) := by decide +kernel
theorem dL_law_930 : decode cL_law 930 = .ok (.istore 7, 2) := by decide +kernel
theorem dL_law_932 : decode cL_law 932 = .ok (.aload_n 2, 1) := by decide +kernel
theorem dL_law_933 : decode cL_law 933 = .ok (.invokevirtual 107, 3) := by decide +kernel
theorem dL_law_936 : decode cL_law 936 = .ok (.iload 6, 2) := by decide +kernel
theorem dL_law_938 : decode cL_law 938 = .ok (.if_icmp .eq 5, 3) := by decide +kernel
theorem dL_law_941 : decode cL_law 941 = .ok (.iconst 0, 1) := by decide +kernel
theorem dL_law_942 : decode cL_law 942 = .ok (.ireturn, 1) := by decide +kernel
theorem dL_law_943 : decode cL_law 943 = .ok (.iload 6, 2) := by decide +kernel
theorem dL_law_945 : decode cL_law 945 = .ok (.ifCond .ne 15, 3) := by decide +kernel
theorem dL_law_948 : decode cL_law 948 = .ok (.aload_n 3, 1) := by decide +kernel
theorem dL_law_949 : decode cL_law 949 = .ok (.iconst 0, 1) := by decide +kernel
theorem dL_law_950 : decode cL_law 950 = .ok (.laload, 1) := by decide +kernel
theorem dL_law_951 : decode cL_law 951 = .ok (.iload 7, 2) := by decide +kernel
theorem dL_law_953 : decode cL_law 953 = .ok (.i2l, 1) := by decide +kernel
theorem dL_law_954 : decode cL_law 954 = .ok (.lcmp, 1) := by decide +kernel
theorem dL_law_955 : decode cL_law 955 = .ok (.ifCond .eq 5, 3) := by decide +kernel
theorem dL_law_958 : decode cL_law 958 = .ok (.iconst 0, 1) := by decide +kernel
theorem dL_law_959 : decode cL_law 959 = .ok (.ireturn, 1) := by decide +kernel
theorem dL_law_960 : decode cL_law 960 = .ok (.goto 711, 3) := by decide +kernel
theorem dL_law_963 : decode cL_law 963 = .ok (.aload_n 1, 1) := by decide +kernel
theorem dL_law_964 : decode cL_law 964 = .ok (.aload_n 0, 1) := by decide +kernel
theorem dL_law_965 : decode cL_law 965 = .ok (.iload 5, 2) := by decide +kernel
theorem dL_law_967 : decode cL_law 967 = .ok (.iconst 1, 1) := by decide +kernel
theorem dL_law_968 : decode cL_law 968 = .ok (.iadd, 1) := by decide +kernel
theorem dL_law_969 : decode cL_law 969 = .ok (.iaload, 1) := by decide +kernel
theorem dL_law_970 : decode cL_law 970 = .ok (.aload_n 0, 1) := by decide +kernel
theorem dL_law_971 : decode cL_law 971 = .ok (.iload 5, 2) := by decide +kernel
theorem dL_law_973 : decode cL_law 973 = .ok (.iconst 2, 1) := by decide +kernel
theorem dL_law_974 : decode cL_law 974 = .ok (.iadd, 1) := by decide +kernel
theorem dL_law_975 : decode cL_law 975 = .ok (.iaload, 1) := by decide +kernel
theorem dL_law_976 : decode cL_law 976 = .ok (.aload_n 3, 1) := by decide +kernel
theorem dL_law_977 : decode cL_law 977 = .ok (.invokestatic 159, 3) := by decide +kernel
theorem dL_law_980 : decode cL_law 980 = .ok (.istore 6, 2) := by decide +kernel
theorem dL_law_982 : decode cL_law 982 = .ok (.aload_n 2, 1) := by decide +kernel
theorem dL_law_983 : decode cL_law 983 = .ok (.aload_n 0, 1) := by decide +kernel
theorem dL_law_984 : decode cL_law 984 = .ok (.iload 5, 2) := by decide +kernel
theorem dL_law_986 : decode cL_law 986 = .ok (.iconst 1, 1) := by decide +kernel
theorem dL_law_987 : decode cL_law 987 = .ok (.iadd, 1) := by decide +kernel
theorem dL_law_988 : decode cL_law 988 = .ok (.iaload, 1) := by decide +kernel
theorem dL_law_989 : decode cL_law 989 = .ok (.aload_n 0, 1) := by decide +kernel
theorem dL_law_990 : decode cL_law 990 = .ok (.iload 5, 2) := by decide +kernel
theorem dL_law_992 : decode cL_law 992 = .ok (.iconst 2, 1) := by decide +kernel
theorem dL_law_993 : decode cL_law 993 = .ok (.iadd, 1) := by decide +kernel
theorem dL_law_994 : decode cL_law 994 = .ok (.iaload, 1) := by decide +kernel
theorem dL_law_995 : decode cL_law 995 = .ok (.invokevirtual 161, 3) := by decide +kernel
theorem dL_law_998 : decode cL_law 998 = .ok (.istore 7, 2) := by decide +kernel
theorem dL_law_1000 : decode cL_law 1000 = .ok (.aload_n 2, 1) := by decide +kernel
theorem dL_law_1001 : decode cL_law 1001 = .ok (.invokevirtual 107, 3) := by decide +kernel
theorem dL_law_1004 : decode cL_law 1004 = .ok (.iload 6, 2) := by decide +kernel
theorem dL_law_1006 : decode cL_law 1006 = .ok (.if_icmp .eq 5, 3) := by decide +kernel
theorem dL_law_1009 : decode cL_law 1009 = .ok (.iconst 0, 1) := by decide +kernel
theorem dL_law_1010 : decode cL_law 1010 = .ok (.ireturn, 1) := by decide +kernel
theorem dL_law_1011 : decode cL_law 1011 = .ok (.iload 6, 2) := by decide +kernel
theorem dL_law_1013 : decode cL_law 1013 = .ok (.ifCond .ne 15, 3) := by decide +kernel
theorem dL_law_1016 : decode cL_law 1016 = .ok (.aload_n 3, 1) := by decide +kernel
theorem dL_law_1017 : decode cL_law 1017 = .ok (.iconst 0, 1) := by decide +kernel
theorem dL_law_1018 : decode cL_law 1018 = .ok (.laload, 1) := by decide +kernel
theorem dL_law_1019 : decode cL_law 1019 = .ok (.iload 7, 2) := by decide +kernel
theorem dL_law_1021 : decode cL_law 1021 = .ok (.i2l, 1) := by decide +kernel
theorem dL_law_1022 : decode cL_law 1022 = .ok (.lcmp, 1) := by decide +kernel
theorem dL_law_1023 : decode cL_law 1023 = .ok (.ifCond .eq 5, 3) := by decide +kernel
theorem dL_law_1026 : decode cL_law 1026 = .ok (.iconst 0, 1) := by decide +kernel
theorem dL_law_1027 : decode cL_law 1027 = .ok (.ireturn, 1) := by decide +kernel
theorem dL_law_1028 : decode cL_law 1028 = .ok (.goto 643, 3) := by decide +kernel
theorem dL_law_1031 : decode cL_law 1031 = .ok (.aload_n 1, 1) := by decide +kernel
theorem dL_law_1032 : decode cL_law 1032 = .ok (.invokevirtual 162, 3) := by decide +kernel
theorem dL_law_1035 : decode cL_law 1035 = .ok (.aload_n 2, 1) := by decide +kernel
theorem dL_law_1036 : decode cL_law 1036 = .ok (.invokevirtual 165, 3) := by decide +kernel
theorem dL_law_1039 : decode cL_law 1039 = .ok (.if_icmp .eq 632, 3) := by decide +kernel
theorem dL_law_1042 : decode cL_law 1042 = .ok (.iconst 0, 1) := by decide +kernel
theorem dL_law_1043 : decode cL_law 1043 = .ok (.ireturn, 1) := by decide +kernel
theorem dL_law_1044 : decode cL_law 1044 = .ok (.aload_n 1, 1) := by decide +kernel
theorem dL_law_1045 : decode cL_law 1045 = .ok (.aload_n 0, 1) := by decide +kernel
theorem dL_law_1046 : decode cL_law 1046 = .ok (.iload 5, 2) := by decide +kernel
theorem dL_law_1048 : decode cL_law 1048 = .ok (.iconst 1, 1) := by decide +kernel
theorem dL_law_1049 : decode cL_law 1049 = .ok (.iadd, 1) := by decide +kernel
theorem dL_law_1050 : decode cL_law 1050 = .ok (.iaload, 1) := by decide +kernel
theorem dL_law_1051 : decode cL_law 1051 = .ok (.aload_n 3, 1) := by decide +kernel
theorem dL_law_1052 : decode cL_law 1052 = .ok (.invokestatic 166, 3) := by decide +kernel
theorem dL_law_1055 : decode cL_law 1055 = .ok (.istore 6, 2) := by decide +kernel
theorem dL_law_1057 : decode cL_law 1057 = .ok (.aload_n 2, 1) := by decide +kernel
theorem dL_law_1058 : decode cL_law 1058 = .ok (.aload_n 0, 1) := by decide +kernel
theorem dL_law_1059 : decode cL_law 1059 = .ok (.iload 5, 2) := by decide +kernel
theorem dL_law_1061 : decode cL_law 1061 = .ok (.iconst 1, 1) := by decide +kernel
theorem dL_law_1062 : decode cL_law 1062 = .ok (.iadd, 1) := by decide +kernel
theorem dL_law_1063 : decode cL_law 1063 = .ok (.iaload, 1) := by decide +kernel
theorem dL_law_1064 : decode cL_law 1064 = .ok (.invokevirtual 168, 3) := by decide +kernel
theorem dL_law_1067 : decode cL_law 1067 = .ok (.istore 7, 2) := by decide +kernel
theorem dL_law_1069 : decode cL_law 1069 = .ok (.aload_n 2, 1) := by decide +kernel
theorem dL_law_1070 : decode cL_law 1070 = .ok (.invokevirtual 107, 3) := by decide +kernel
theorem dL_law_1073 : decode cL_law 1073 = .ok (.iload 6, 2) := by decide +kernel
theorem dL_law_1075 : decode cL_law 1075 = .ok (.if_icmp .eq 5, 3) := by decide +kernel
theorem dL_law_1078 : decode cL_law 1078 = .ok (.iconst 0, 1) := by decide +kernel
theorem dL_law_1079 : decode cL_law 1079 = .ok (.ireturn, 1) := by decide +kernel
theorem dL_law_1080 : decode cL_law 1080 = .ok (.iload 6, 2) := by decide +kernel
theorem dL_law_1082 : decode cL_law 1082 = .ok (.ifCond .ne 15, 3) := by decide +kernel
theorem dL_law_1085 : decode cL_law 1085 = .ok (.aload_n 3, 1) := by decide +kernel
theorem dL_law_1086 : decode cL_law 1086 = .ok (.iconst 0, 1) := by decide +kernel
theorem dL_law_1087 : decode cL_law 1087 = .ok (.laload, 1) := by decide +kernel
theorem dL_law_1088 : decode cL_law 1088 = .ok (.iload 7, 2) := by decide +kernel
theorem dL_law_1090 : decode cL_law 1090 = .ok (.i2l, 1) := by decide +kernel
theorem dL_law_1091 : decode cL_law 1091 = .ok (.lcmp, 1) := by decide +kernel
theorem dL_law_1092 : decode cL_law 1092 = .ok (.ifCond .eq 5, 3) := by decide +kernel
theorem dL_law_1095 : decode cL_law 1095 = .ok (.iconst 0, 1) := by decide +kernel
theorem dL_law_1096 : decode cL_law 1096 = .ok (.ireturn, 1) := by decide +kernel
theorem dL_law_1097 : decode cL_law 1097 = .ok (.goto 574, 3) := by decide +kernel
theorem dL_law_1100 : decode cL_law 1100 = .ok (.aload_n 1, 1) := by decide +kernel
theorem dL_law_1101 : decode cL_law 1101 = .ok (.aload_n 3, 1) := by decide +kernel
theorem dL_law_1102 : decode cL_law 1102 = .ok (.invokestatic 169, 3) := by decide +kernel
theorem dL_law_1105 : decode cL_law 1105 = .ok (.istore 6, 2) := by decide +kernel
theorem dL_law_1107 : decode cL_law 1107 = .ok (.aload_n 2, 1) := by decide +kernel
theorem dL_law_1108 : decode cL_law 1108 = .ok (.invokevirtual 171, 3) := by decide +kernel
theorem dL_law_1111 : decode cL_law 1111 = .ok (.istore 7, 2) := by decide +kernel
theorem dL_law_1113 : decode cL_law 1113 = .ok (.aload_n 2, 1) := by decide +kernel
theorem dL_law_1114 : decode cL_law 1114 = .ok (.invokevirtual 107, 3) := by decide +kernel
theorem dL_law_1117 : decode cL_law 1117 = .ok (.iload 6, 2) := by decide +kernel
theorem dL_law_1119 : decode cL_law 1119 = .ok (.if_icmp .eq 5, 3) := by decide +kernel
theorem dL_law_1122 : decode cL_law 1122 = .ok (.iconst 0, 1) := by decide +kernel
theorem dL_law_1123 : decode cL_law 1123 = .ok (.ireturn, 1) := by decide +kernel
theorem dL_law_1124 : decode cL_law 1124 = .ok (.iload 6, 2) := by decide +kernel
theorem dL_law_1126 : decode cL_law 1126 = .ok (.ifCond .ne 15, 3) := by decide +kernel
theorem dL_law_1129 : decode cL_law 1129 = .ok (.aload_n 3, 1) := by decide +kernel
theorem dL_law_1130 : decode cL_law 1130 = .ok (.iconst 0, 1) := by decide +kernel
theorem dL_law_1131 : decode cL_law 1131 = .ok (.laload, 1) := by decide +kernel
theorem dL_law_1132 : decode cL_law 1132 = .ok (.iload 7, 2) := by decide +kernel
theorem dL_law_1134 : decode cL_law 1134 = .ok (.i2l, 1) := by decide +kernel
theorem dL_law_1135 : decode cL_law 1135 = .ok (.lcmp, 1) := by decide +kernel
theorem dL_law_1136 : decode cL_law 1136 = .ok (.ifCond .eq 5, 3) := by decide +kernel
theorem dL_law_1139 : decode cL_law 1139 = .ok (.iconst 0, 1) := by decide +kernel
theorem dL_law_1140 : decode cL_law 1140 = .ok (.ireturn, 1) := by decide +kernel
theorem dL_law_1141 : decode cL_law 1141 = .ok (.goto 530, 3) := by decide +kernel
theorem dL_law_1144 : decode cL_law 1144 = .ok (.aload_n 1, 1) := by decide +kernel
theorem dL_law_1145 : decode cL_law 1145 = .ok (.aload_n 3, 1) := by decide +kernel
theorem dL_law_1146 : decode cL_law 1146 = .ok (.invokestatic 172, 3) := by decide +kernel
theorem dL_law_1149 : decode cL_law 1149 = .ok (.istore 6, 2) := by decide +kernel
theorem dL_law_1151 : decode cL_law 1151 = .ok (.aload_n 2, 1) := by decide +kernel
theorem dL_law_1152 : decode cL_law 1152 = .ok (.invokevirtual 174, 3) := by decide +kernel
theorem dL_law_1155 : decode cL_law 1155 = .ok (.istore 7, 2) := by decide +kernel
theorem dL_law_1157 : decode cL_law 1157 = .ok (.aload_n 2, 1) := by decide +kernel
theorem dL_law_1158 : decode cL_law 1158 = .ok (.invokevirtual 107, 3) := by decide +kernel
theorem dL_law_1161 : decode cL_law 1161 = .ok (.iload 6, 2) := by decide +kernel
theorem dL_law_1163 : decode cL_law 1163 = .ok (.if_icmp .eq 5, 3) := by decide +kernel
theorem dL_law_1166 : decode cL_law 1166 = .ok (.iconst 0, 1) := by decide +kernel
theorem dL_law_1167 : decode cL_law 1167 = .ok (.ireturn, 1) := by decide +kernel
theorem dL_law_1168 : decode cL_law 1168 = .ok (.iload 6, 2) := by decide +kernel
theorem dL_law_1170 : decode cL_law 1170 = .ok (.ifCond .ne 15, 3) := by decide +kernel
theorem dL_law_1173 : decode cL_law 1173 = .ok (.aload_n 3, 1) := by decide +kernel
theorem dL_law_1174 : decode cL_law 1174 = .ok (.iconst 0, 1) := by decide +kernel
theorem dL_law_1175 : decode cL_law 1175 = .ok (.laload, 1) := by decide +kernel
theorem dL_law_1176 : decode cL_law 1176 = .ok (.iload 7, 2) := by decide +kernel
theorem dL_law_1178 : decode cL_law 1178 = .ok (.i2l, 1) := by decide +kernel
theorem dL_law_1179 : decode cL_law 1179 = .ok (.lcmp, 1) := by decide +kernel
theorem dL_law_1180 : decode cL_law 1180 = .ok (.ifCond .eq 5, 3) := by decide +kernel
theorem dL_law_1183 : decode cL_law 1183 = .ok (.iconst 0, 1) := by decide +kernel
theorem dL_law_1184 : decode cL_law 1184 = .ok (.ireturn, 1) := by decide +kernel
theorem dL_law_1185 : decode cL_law 1185 = .ok (.goto 486, 3) := by decide +kernel
theorem dL_law_1188 : decode cL_law 1188 = .ok (.aload_n 1, 1) := by decide +kernel
theorem dL_law_1189 : decode cL_law 1189 = .ok (.aload_n 0, 1) := by decide +kernel
theorem dL_law_1190 : decode cL_law 1190 = .ok (.iload 5, 2) := by decide +kernel
theorem dL_law_1192 : decode cL_law 1192 = .ok (.iconst 1, 1) := by decide +kernel
theorem dL_law_1193 : decode cL_law 1193 = .ok (.iadd, 1) := by decide +kernel
theorem dL_law_1194 : decode cL_law 1194 = .ok (.iaload, 1) := by decide +kernel
theorem dL_law_1195 : decode cL_law 1195 = .ok (.aload_n 3, 1) := by decide +kernel
theorem dL_law_1196 : decode cL_law 1196 = .ok (.invokestatic 175, 3) := by decide +kernel
theorem dL_law_1199 : decode cL_law 1199 = .ok (.istore 6, 2) := by decide +kernel
theorem dL_law_1201 : decode cL_law 1201 = .ok (.aload_n 2, 1) := by decide +kernel
theorem dL_law_1202 : decode cL_law 1202 = .ok (.aload_n 0, 1) := by decide +kernel
theorem dL_law_1203 : decode cL_law 1203 = .ok (.iload 5, 2) := by decide +kernel
theorem dL_law_1205 : decode cL_law 1205 = .ok (.iconst 1, 1) := by decide +kernel
theorem dL_law_1206 : decode cL_law 1206 = .ok (.iadd, 1) := by decide +kernel
theorem dL_law_1207 : decode cL_law 1207 = .ok (.iaload, 1) := by decide +kernel
theorem dL_law_1208 : decode cL_law 1208 = .ok (.invokevirtual 177, 3) := by decide +kernel
theorem dL_law_1211 : decode cL_law 1211 = .ok (.istore 7, 2) := by decide +kernel
theorem dL_law_1213 : decode cL_law 1213 = .ok (.aload_n 2, 1) := by decide +kernel
theorem dL_law_1214 : decode cL_law 1214 = .ok (.invokevirtual 107, 3) := by decide +kernel
theorem dL_law_1217 : decode cL_law 1217 = .ok (.iload 6, 2) := by decide +kernel
theorem dL_law_1219 : decode cL_law 1219 = .ok (.if_icmp .eq 5, 3) := by decide +kernel
theorem dL_law_1222 : decode cL_law 1222 = .ok (.iconst 0, 1) := by decide +kernel
theorem dL_law_1223 : decode cL_law 1223 = .ok (.ireturn, 1) := by decide +kernel
theorem dL_law_1224 : decode cL_law 1224 = .ok (.iload 6, 2) := by decide +kernel
theorem dL_law_1226 : decode cL_law 1226 = .ok (.ifCond .ne 15, 3) := by decide +kernel
theorem dL_law_1229 : decode cL_law 1229 = .ok (.aload_n 3, 1) := by decide +kernel
theorem dL_law_1230 : decode cL_law 1230 = .ok (.iconst 0, 1) := by decide +kernel
theorem dL_law_1231 : decode cL_law 1231 = .ok (.laload, 1) := by decide +kernel
theorem dL_law_1232 : decode cL_law 1232 = .ok (.iload 7, 2) := by decide +kernel
theorem dL_law_1234 : decode cL_law 1234 = .ok (.i2l, 1) := by decide +kernel
theorem dL_law_1235 : decode cL_law 1235 = .ok (.lcmp, 1) := by decide +kernel
theorem dL_law_1236 : decode cL_law 1236 = .ok (.ifCond .eq 5, 3) := by decide +kernel
theorem dL_law_1239 : decode cL_law 1239 = .ok (.iconst 0, 1) := by decide +kernel
theorem dL_law_1240 : decode cL_law 1240 = .ok (.ireturn, 1) := by decide +kernel
theorem dL_law_1241 : decode cL_law 1241 = .ok (.goto 430, 3) := by decide +kernel
theorem dL_law_1244 : decode cL_law 1244 = .ok (.aload_n 1, 1) := by decide +kernel
theorem dL_law_1245 : decode cL_law 1245 = .ok (.aload_n 3, 1) := by decide +kernel
theorem dL_law_1246 : decode cL_law 1246 = .ok (.invokestatic 178, 3) := by decide +kernel
theorem dL_law_1249 : decode cL_law 1249 = .ok (.istore 6, 2) := by decide +kernel
theorem dL_law_1251 : decode cL_law 1251 = .ok (.aload_n 2, 1) := by decide +kernel
theorem dL_law_1252 : decode cL_law 1252 = .ok (.invokevirtual 180, 3) := by decide +kernel
theorem dL_law_1255 : decode cL_law 1255 = .ok (.istore 7, 2) := by decide +kernel
theorem dL_law_1257 : decode cL_law 1257 = .ok (.aload_n 2, 1) := by decide +kernel
theorem dL_law_1258 : decode cL_law 1258 = .ok (.invokevirtual 107, 3) := by decide +kernel
theorem dL_law_1261 : decode cL_law 1261 = .ok (.iload 6, 2) := by decide +kernel
theorem dL_law_1263 : decode cL_law 1263 = .ok (.if_icmp .eq 5, 3) := by decide +kernel
theorem dL_law_1266 : decode cL_law 1266 = .ok (.iconst 0, 1) := by decide +kernel
theorem dL_law_1267 : decode cL_law 1267 = .ok (.ireturn, 1) := by decide +kernel
theorem dL_law_1268 : decode cL_law 1268 = .ok (.iload 6, 2) := by decide +kernel
theorem dL_law_1270 : decode cL_law 1270 = .ok (.ifCond .ne 15, 3) := by decide +kernel
theorem dL_law_1273 : decode cL_law 1273 = .ok (.aload_n 3, 1) := by decide +kernel
theorem dL_law_1274 : decode cL_law 1274 = .ok (.iconst 0, 1) := by decide +kernel
theorem dL_law_1275 : decode cL_law 1275 = .ok (.laload, 1) := by decide +kernel
theorem dL_law_1276 : decode cL_law 1276 = .ok (.iload 7, 2) := by decide +kernel
theorem dL_law_1278 : decode cL_law 1278 = .ok (.i2l, 1) := by decide +kernel
theorem dL_law_1279 : decode cL_law 1279 = .ok (.lcmp, 1) := by decide +kernel
theorem dL_law_1280 : decode cL_law 1280 = .ok (.ifCond .eq 5, 3) := by decide +kernel
theorem dL_law_1283 : decode cL_law 1283 = .ok (.iconst 0, 1) := by decide +kernel
theorem dL_law_1284 : decode cL_law 1284 = .ok (.ireturn, 1) := by decide +kernel
theorem dL_law_1285 : decode cL_law 1285 = .ok (.goto 386, 3) := by decide +kernel
theorem dL_law_1288 : decode cL_law 1288 = .ok (.aload_n 1, 1) := by decide +kernel
theorem dL_law_1289 : decode cL_law 1289 = .ok (.aload 4, 2) := by decide +kernel
theorem dL_law_1291 : decode cL_law 1291 = .ok (.invokestatic 181, 3) := by decide +kernel
theorem dL_law_1294 : decode cL_law 1294 = .ok (.istore 6, 2) := by decide +kernel
theorem dL_law_1296 : decode cL_law 1296 = .ok (.aload_n 2, 1) := by decide +kernel
theorem dL_law_1297 : decode cL_law 1297 = .ok (.invokevirtual 184, 3) := by decide +kernel
theorem dL_law_1300 : decode cL_law 1300 = .ok (.dstore 7, 2) := by decide +kernel
theorem dL_law_1302 : decode cL_law 1302 = .ok (.aload_n 2, 1) := by decide +kernel
theorem dL_law_1303 : decode cL_law 1303 = .ok (.invokevirtual 107, 3) := by decide +kernel
theorem dL_law_1306 : decode cL_law 1306 = .ok (.iload 6, 2) := by decide +kernel
theorem dL_law_1308 : decode cL_law 1308 = .ok (.if_icmp .eq 5, 3) := by decide +kernel
theorem dL_law_1311 : decode cL_law 1311 = .ok (.iconst 0, 1) := by decide +kernel
theorem dL_law_1312 : decode cL_law 1312 = .ok (.ireturn, 1) := by decide +kernel
theorem dL_law_1313 : decode cL_law 1313 = .ok (.iload 6, 2) := by decide +kernel
theorem dL_law_1315 : decode cL_law 1315 = .ok (.ifCond .ne 35, 3) := by decide +kernel
theorem dL_law_1318 : decode cL_law 1318 = .ok (.aload 4, 2) := by decide +kernel
theorem dL_law_1320 : decode cL_law 1320 = .ok (.iconst 0, 1) := by decide +kernel
theorem dL_law_1321 : decode cL_law 1321 = .ok (.daload, 1) := by decide +kernel
theorem dL_law_1322 : decode cL_law 1322 = .ok (.dload 7, 2) := by decide +kernel
theorem dL_law_1324 : decode cL_law 1324 = .ok (.dcmp .l, 1) := by decide +kernel
theorem dL_law_1325 : decode cL_law 1325 = .ok (.ifCond .eq 25, 3) := by decide +kernel
theorem dL_law_1328 : decode cL_law 1328 = .ok (.aload 4, 2) := by decide +kernel
theorem dL_law_1330 : decode cL_law 1330 = .ok (.iconst 0, 1) := by decide +kernel
theorem dL_law_1331 : decode cL_law 1331 = .ok (.daload, 1) := by decide +kernel
theorem dL_law_1332 : decode cL_law 1332 = .ok (.aload 4, 2) := by decide +kernel
theorem dL_law_1334 : decode cL_law 1334 = .ok (.iconst 0, 1) := by decide +kernel
theorem dL_law_1335 : decode cL_law 1335 = .ok (.daload, 1) := by decide +kernel
theorem dL_law_1336 : decode cL_law 1336 = .ok (.dcmp .l, 1) := by decide +kernel
theorem dL_law_1337 : decode cL_law 1337 = .ok (.ifCond .eq 11, 3) := by decide +kernel
theorem dL_law_1340 : decode cL_law 1340 = .ok (.dload 7, 2) := by decide +kernel
theorem dL_law_1342 : decode cL_law 1342 = .ok (.dload 7, 2) := by decide +kernel
theorem dL_law_1344 : decode cL_law 1344 = .ok (.dcmp .l, 1) := by decide +kernel
theorem dL_law_1345 : decode cL_law 1345 = .ok (.ifCond .ne 5, 3) := by decide +kernel
theorem dL_law_1348 : decode cL_law 1348 = .ok (.iconst 0, 1) := by decide +kernel
theorem dL_law_1349 : decode cL_law 1349 = .ok (.ireturn, 1) := by decide +kernel
theorem dL_law_1350 : decode cL_law 1350 = .ok (.goto 321, 3) := by decide +kernel
theorem dL_law_1353 : decode cL_law 1353 = .ok (.aload_n 1, 1) := by decide +kernel
theorem dL_law_1354 : decode cL_law 1354 = .ok (.aload_n 0, 1) := by decide +kernel
theorem dL_law_1355 : decode cL_law 1355 = .ok (.iload 5, 2) := by decide +kernel
theorem dL_law_1357 : decode cL_law 1357 = .ok (.iconst 1, 1) := by decide +kernel
theorem dL_law_1358 : decode cL_law 1358 = .ok (.iadd, 1) := by decide +kernel
theorem dL_law_1359 : decode cL_law 1359 = .ok (.iaload, 1) := by decide +kernel
theorem dL_law_1360 : decode cL_law 1360 = .ok (.aload_n 0, 1) := by decide +kernel
theorem dL_law_1361 : decode cL_law 1361 = .ok (.iload 5, 2) := by decide +kernel
theorem dL_law_1363 : decode cL_law 1363 = .ok (.iconst 2, 1) := by decide +kernel
theorem dL_law_1364 : decode cL_law 1364 = .ok (.iadd, 1) := by decide +kernel
theorem dL_law_1365 : decode cL_law 1365 = .ok (.iaload, 1) := by decide +kernel
theorem dL_law_1366 : decode cL_law 1366 = .ok (.aload_n 3, 1) := by decide +kernel
theorem dL_law_1367 : decode cL_law 1367 = .ok (.invokestatic 185, 3) := by decide +kernel
theorem dL_law_1370 : decode cL_law 1370 = .ok (.istore 6, 2) := by decide +kernel
theorem dL_law_1372 : decode cL_law 1372 = .ok (.aload_n 2, 1) := by decide +kernel
theorem dL_law_1373 : decode cL_law 1373 = .ok (.aload_n 0, 1) := by decide +kernel
theorem dL_law_1374 : decode cL_law 1374 = .ok (.iload 5, 2) := by decide +kernel
theorem dL_law_1376 : decode cL_law 1376 = .ok (.iconst 1, 1) := by decide +kernel
theorem dL_law_1377 : decode cL_law 1377 = .ok (.iadd, 1) := by decide +kernel
theorem dL_law_1378 : decode cL_law 1378 = .ok (.iaload, 1) := by decide +kernel
theorem dL_law_1379 : decode cL_law 1379 = .ok (.aload_n 0, 1) := by decide +kernel
theorem dL_law_1380 : decode cL_law 1380 = .ok (.iload 5, 2) := by decide +kernel
theorem dL_law_1382 : decode cL_law 1382 = .ok (.iconst 2, 1) := by decide +kernel
theorem dL_law_1383 : decode cL_law 1383 = .ok (.iadd, 1) := by decide +kernel
theorem dL_law_1384 : decode cL_law 1384 = .ok (.iaload, 1) := by decide +kernel
theorem dL_law_1385 : decode cL_law 1385 = .ok (.invokevirtual 187, 3) := by decide +kernel
theorem dL_law_1388 : decode cL_law 1388 = .ok (.istore 7, 2) := by decide +kernel
theorem dL_law_1390 : decode cL_law 1390 = .ok (.aload_n 2, 1) := by decide +kernel
theorem dL_law_1391 : decode cL_law 1391 = .ok (.invokevirtual 107, 3) := by decide +kernel
theorem dL_law_1394 : decode cL_law 1394 = .ok (.iload 6, 2) := by decide +kernel
theorem dL_law_1396 : decode cL_law 1396 = .ok (.if_icmp .eq 5, 3) := by decide +kernel
theorem dL_law_1399 : decode cL_law 1399 = .ok (.iconst 0, 1) := by decide +kernel
theorem dL_law_1400 : decode cL_law 1400 = .ok (.ireturn, 1) := by decide +kernel
theorem dL_law_1401 : decode cL_law 1401 = .ok (.iload 6, 2) := by decide +kernel
theorem dL_law_1403 : decode cL_law 1403 = .ok (.ifCond .ne 15, 3) := by decide +kernel
theorem dL_law_1406 : decode cL_law 1406 = .ok (.aload_n 3, 1) := by decide +kernel
theorem dL_law_1407 : decode cL_law 1407 = .ok (.iconst 0, 1) := by decide +kernel
theorem dL_law_1408 : decode cL_law 1408 = .ok (.laload, 1) := by decide +kernel
theorem dL_law_1409 : decode cL_law 1409 = .ok (.iload 7, 2) := by decide +kernel
theorem dL_law_1411 : decode cL_law 1411 = .ok (.i2l, 1) := by decide +kernel
theorem dL_law_1412 : decode cL_law 1412 = .ok (.lcmp, 1) := by decide +kernel
theorem dL_law_1413 : decode cL_law 1413 = .ok (.ifCond .eq 5, 3) := by decide +kernel
theorem dL_law_1416 : decode cL_law 1416 = .ok (.iconst 0, 1) := by decide +kernel
theorem dL_law_1417 : decode cL_law 1417 = .ok (.ireturn, 1) := by decide +kernel
theorem dL_law_1418 : decode cL_law 1418 = .ok (.goto 253, 3) := by decide +kernel
theorem dL_law_1421 : decode cL_law 1421 = .ok (.aload_n 1, 1) := by decide +kernel
theorem dL_law_1422 : decode cL_law 1422 = .ok (.aload_n 0, 1) := by decide +kernel
theorem dL_law_1423 : decode cL_law 1423 = .ok (.iload 5, 2) := by decide +kernel
theorem dL_law_1425 : decode cL_law 1425 = .ok (.iconst 1, 1) := by decide +kernel
theorem dL_law_1426 : decode cL_law 1426 = .ok (.iadd, 1) := by decide +kernel
theorem dL_law_1427 : decode cL_law 1427 = .ok (.iaload, 1) := by decide +kernel
theorem dL_law_1428 : decode cL_law 1428 = .ok (.aload_n 3, 1) := by decide +kernel
theorem dL_law_1429 : decode cL_law 1429 = .ok (.invokestatic 188, 3) := by decide +kernel
theorem dL_law_1432 : decode cL_law 1432 = .ok (.istore 6, 2) := by decide +kernel
theorem dL_law_1434 : decode cL_law 1434 = .ok (.aload_n 2, 1) := by decide +kernel
theorem dL_law_1435 : decode cL_law 1435 = .ok (.aload_n 0, 1) := by decide +kernel
theorem dL_law_1436 : decode cL_law 1436 = .ok (.iload 5, 2) := by decide +kernel
theorem dL_law_1438 : decode cL_law 1438 = .ok (.iconst 1, 1) := by decide +kernel
theorem dL_law_1439 : decode cL_law 1439 = .ok (.iadd, 1) := by decide +kernel
theorem dL_law_1440 : decode cL_law 1440 = .ok (.iaload, 1) := by decide +kernel
theorem dL_law_1441 : decode cL_law 1441 = .ok (.invokevirtual 190, 3) := by decide +kernel
theorem dL_law_1444 : decode cL_law 1444 = .ok (.istore 7, 2) := by decide +kernel
theorem dL_law_1446 : decode cL_law 1446 = .ok (.aload_n 2, 1) := by decide +kernel
theorem dL_law_1447 : decode cL_law 1447 = .ok (.invokevirtual 107, 3) := by decide +kernel
theorem dL_law_1450 : decode cL_law 1450 = .ok (.iload 6, 2) := by decide +kernel
theorem dL_law_1452 : decode cL_law 1452 = .ok (.if_icmp .eq 5, 3) := by decide +kernel
theorem dL_law_1455 : decode cL_law 1455 = .ok (.iconst 0, 1) := by decide +kernel
theorem dL_law_1456 : decode cL_law 1456 = .ok (.ireturn, 1) := by decide +kernel
theorem dL_law_1457 : decode cL_law 1457 = .ok (.iload 6, 2) := by decide +kernel
theorem dL_law_1459 : decode cL_law 1459 = .ok (.ifCond .ne 15, 3) := by decide +kernel
theorem dL_law_1462 : decode cL_law 1462 = .ok (.aload_n 3, 1) := by decide +kernel
theorem dL_law_1463 : decode cL_law 1463 = .ok (.iconst 0, 1) := by decide +kernel
theorem dL_law_1464 : decode cL_law 1464 = .ok (.laload, 1) := by decide +kernel
theorem dL_law_1465 : decode cL_law 1465 = .ok (.iload 7, 2) := by decide +kernel
theorem dL_law_1467 : decode cL_law 1467 = .ok (.i2l, 1) := by decide +kernel
theorem dL_law_1468 : decode cL_law 1468 = .ok (.lcmp, 1) := by decide +kernel
theorem dL_law_1469 : decode cL_law 1469 = .ok (.ifCond .eq 5, 3) := by decide +kernel
theorem dL_law_1472 : decode cL_law 1472 = .ok (.iconst 0, 1) := by decide +kernel
theorem dL_law_1473 : decode cL_law 1473 = .ok (.ireturn, 1) := by decide +kernel
theorem dL_law_1474 : decode cL_law 1474 = .ok (.goto 197, 3) := by decide +kernel
theorem dL_law_1477 : decode cL_law 1477 = .ok (.aload_n 1, 1) := by decide +kernel
theorem dL_law_1478 : decode cL_law 1478 = .ok (.aload_n 0, 1) := by decide +kernel
theorem dL_law_1479 : decode cL_law 1479 = .ok (.iload 5, 2) := by decide +kernel
theorem dL_law_1481 : decode cL_law 1481 = .ok (.iconst 1, 1) := by decide +kernel
theorem dL_law_1482 : decode cL_law 1482 = .ok (.iadd, 1) := by decide +kernel
theorem dL_law_1483 : decode cL_law 1483 = .ok (.iaload, 1) := by decide +kernel
theorem dL_law_1484 : decode cL_law 1484 = .ok (.aload_n 0, 1) := by decide +kernel
theorem dL_law_1485 : decode cL_law 1485 = .ok (.iload 5, 2) := by decide +kernel
theorem dL_law_1487 : decode cL_law 1487 = .ok (.iconst 2, 1) := by decide +kernel
theorem dL_law_1488 : decode cL_law 1488 = .ok (.iadd, 1) := by decide +kernel
theorem dL_law_1489 : decode cL_law 1489 = .ok (.iaload, 1) := by decide +kernel
theorem dL_law_1490 : decode cL_law 1490 = .ok (.aload_n 3, 1) := by decide +kernel
theorem dL_law_1491 : decode cL_law 1491 = .ok (.invokestatic 191, 3) := by decide +kernel
theorem dL_law_1494 : decode cL_law 1494 = .ok (.istore 6, 2) := by decide +kernel
theorem dL_law_1496 : decode cL_law 1496 = .ok (.aload_n 2, 1) := by decide +kernel
theorem dL_law_1497 : decode cL_law 1497 = .ok (.aload_n 0, 1) := by decide +kernel
theorem dL_law_1498 : decode cL_law 1498 = .ok (.iload 5, 2) := by decide +kernel
theorem dL_law_1500 : decode cL_law 1500 = .ok (.iconst 1, 1) := by decide +kernel
theorem dL_law_1501 : decode cL_law 1501 = .ok (.iadd, 1) := by decide +kernel
theorem dL_law_1502 : decode cL_law 1502 = .ok (.iaload, 1) := by decide +kernel
theorem dL_law_1503 : decode cL_law 1503 = .ok (.aload_n 0, 1) := by decide +kernel
theorem dL_law_1504 : decode cL_law 1504 = .ok (.iload 5, 2) := by decide +kernel
theorem dL_law_1506 : decode cL_law 1506 = .ok (.iconst 2, 1) := by decide +kernel
theorem dL_law_1507 : decode cL_law 1507 = .ok (.iadd, 1) := by decide +kernel
theorem dL_law_1508 : decode cL_law 1508 = .ok (.iaload, 1) := by decide +kernel
theorem dL_law_1509 : decode cL_law 1509 = .ok (.invokevirtual 193, 3) := by decide +kernel
theorem dL_law_1512 : decode cL_law 1512 = .ok (.istore 7, 2) := by decide +kernel
theorem dL_law_1514 : decode cL_law 1514 = .ok (.aload_n 2, 1) := by decide +kernel
theorem dL_law_1515 : decode cL_law 1515 = .ok (.invokevirtual 107, 3) := by decide +kernel
theorem dL_law_1518 : decode cL_law 1518 = .ok (.iload 6, 2) := by decide +kernel
theorem dL_law_1520 : decode cL_law 1520 = .ok (.if_icmp .eq 5, 3) := by decide +kernel
theorem dL_law_1523 : decode cL_law 1523 = .ok (.iconst 0, 1) := by decide +kernel
theorem dL_law_1524 : decode cL_law 1524 = .ok (.ireturn, 1) := by decide +kernel
theorem dL_law_1525 : decode cL_law 1525 = .ok (.iload 6, 2) := by decide +kernel
theorem dL_law_1527 : decode cL_law 1527 = .ok (.ifCond .ne 15, 3) := by decide +kernel
theorem dL_law_1530 : decode cL_law 1530 = .ok (.aload_n 3, 1) := by decide +kernel
theorem dL_law_1531 : decode cL_law 1531 = .ok (.iconst 0, 1) := by decide +kernel
theorem dL_law_1532 : decode cL_law 1532 = .ok (.laload, 1) := by decide +kernel
theorem dL_law_1533 : decode cL_law 1533 = .ok (.iload 7, 2) := by decide +kernel
theorem dL_law_1535 : decode cL_law 1535 = .ok (.i2l, 1) := by decide +kernel
theorem dL_law_1536 : decode cL_law 1536 = .ok (.lcmp, 1) := by decide +kernel
theorem dL_law_1537 : decode cL_law 1537 = .ok (.ifCond .eq 5, 3) := by decide +kernel
theorem dL_law_1540 : decode cL_law 1540 = .ok (.iconst 0, 1) := by decide +kernel
theorem dL_law_1541 : decode cL_law 1541 = .ok (.ireturn, 1) := by decide +kernel
theorem dL_law_1542 : decode cL_law 1542 = .ok (.goto 129, 3) := by decide +kernel
theorem dL_law_1545 : decode cL_law 1545 = .ok (.aload_n 1, 1) := by decide +kernel
theorem dL_law_1546 : decode cL_law 1546 = .ok (.aload_n 0, 1) := by decide +kernel
theorem dL_law_1547 : decode cL_law 1547 = .ok (.iload 5, 2) := by decide +kernel
theorem dL_law_1549 : decode cL_law 1549 = .ok (.iconst 1, 1) := by decide +kernel
theorem dL_law_1550 : decode cL_law 1550 = .ok (.iadd, 1) := by decide +kernel
theorem dL_law_1551 : decode cL_law 1551 = .ok (.iaload, 1) := by decide +kernel
theorem dL_law_1552 : decode cL_law 1552 = .ok (.aload_n 0, 1) := by decide +kernel
theorem dL_law_1553 : decode cL_law 1553 = .ok (.iload 5, 2) := by decide +kernel
theorem dL_law_1555 : decode cL_law 1555 = .ok (.iconst 2, 1) := by decide +kernel
theorem dL_law_1556 : decode cL_law 1556 = .ok (.iadd, 1) := by decide +kernel
theorem dL_law_1557 : decode cL_law 1557 = .ok (.iaload, 1) := by decide +kernel
theorem dL_law_1558 : decode cL_law 1558 = .ok (.aload_n 3, 1) := by decide +kernel
theorem dL_law_1559 : decode cL_law 1559 = .ok (.invokestatic 194, 3) := by decide +kernel
theorem dL_law_1562 : decode cL_law 1562 = .ok (.istore 6, 2) := by decide +kernel
theorem dL_law_1564 : decode cL_law 1564 = .ok (.aload_n 2, 1) := by decide +kernel
theorem dL_law_1565 : decode cL_law 1565 = .ok (.aload_n 0, 1) := by decide +kernel
theorem dL_law_1566 : decode cL_law 1566 = .ok (.iload 5, 2) := by decide +kernel
theorem dL_law_1568 : decode cL_law 1568 = .ok (.iconst 1, 1) := by decide +kernel
theorem dL_law_1569 : decode cL_law 1569 = .ok (.iadd, 1) := by decide +kernel
theorem dL_law_1570 : decode cL_law 1570 = .ok (.iaload, 1) := by decide +kernel
theorem dL_law_1571 : decode cL_law 1571 = .ok (.aload_n 0, 1) := by decide +kernel
theorem dL_law_1572 : decode cL_law 1572 = .ok (.iload 5, 2) := by decide +kernel
theorem dL_law_1574 : decode cL_law 1574 = .ok (.iconst 2, 1) := by decide +kernel
theorem dL_law_1575 : decode cL_law 1575 = .ok (.iadd, 1) := by decide +kernel
theorem dL_law_1576 : decode cL_law 1576 = .ok (.iaload, 1) := by decide +kernel
theorem dL_law_1577 : decode cL_law 1577 = .ok (.invokevirtual 196, 3) := by decide +kernel
theorem dL_law_1580 : decode cL_law 1580 = .ok (.istore 7, 2) := by decide +kernel
theorem dL_law_1582 : decode cL_law 1582 = .ok (.aload_n 2, 1) := by decide +kernel
theorem dL_law_1583 : decode cL_law 1583 = .ok (.invokevirtual 107, 3) := by decide +kernel
theorem dL_law_1586 : decode cL_law 1586 = .ok (.iload 6, 2) := by decide +kernel
theorem dL_law_1588 : decode cL_law 1588 = .ok (.if_icmp .eq 5, 3) := by decide +kernel
theorem dL_law_1591 : decode cL_law 1591 = .ok (.iconst 0, 1) := by decide +kernel
theorem dL_law_1592 : decode cL_law 1592 = .ok (.ireturn, 1) := by decide +kernel
theorem dL_law_1593 : decode cL_law 1593 = .ok (.iload 6, 2) := by decide +kernel
theorem dL_law_1595 : decode cL_law 1595 = .ok (.ifCond .ne 15, 3) := by decide +kernel
theorem dL_law_1598 : decode cL_law 1598 = .ok (.aload_n 3, 1) := by decide +kernel
theorem dL_law_1599 : decode cL_law 1599 = .ok (.iconst 0, 1) := by decide +kernel
theorem dL_law_1600 : decode cL_law 1600 = .ok (.laload, 1) := by decide +kernel
theorem dL_law_1601 : decode cL_law 1601 = .ok (.iload 7, 2) := by decide +kernel
theorem dL_law_1603 : decode cL_law 1603 = .ok (.i2l, 1) := by decide +kernel
theorem dL_law_1604 : decode cL_law 1604 = .ok (.lcmp, 1) := by decide +kernel
theorem dL_law_1605 : decode cL_law 1605 = .ok (.ifCond .eq 5, 3) := by decide +kernel
theorem dL_law_1608 : decode cL_law 1608 = .ok (.iconst 0, 1) := by decide +kernel
theorem dL_law_1609 : decode cL_law 1609 = .ok (.ireturn, 1) := by decide +kernel
theorem dL_law_1610 : decode cL_law 1610 = .ok (.goto 61, 3) := by decide +kernel
theorem dL_law_1613 : decode cL_law 1613 = .ok (.aload_n 1, 1) := by decide +kernel
theorem dL_law_1614 : decode cL_law 1614 = .ok (.aload_n 3, 1) := by decide +kernel
end
section
theorem dL_law_1615 : decode cL_law 1615 = .ok (.invokestatic 197, 3) := by decide +kernel
theorem dL_law_1618 : decode cL_law 1618 = .ok (.istore 6, 2) := by decide +kernel
theorem dL_law_1620 : decode cL_law 1620 = .ok (.aload_n 2, 1) := by decide +kernel
theorem dL_law_1621 : decode cL_law 1621 = .ok (.invokevirtual 199, 3) := by decide +kernel
theorem dL_law_1624 : decode cL_law 1624 = .ok (.istore 7, 2) := by decide +kernel
theorem dL_law_1626 : decode cL_law 1626 = .ok (.aload_n 2, 1) := by decide +kernel
theorem dL_law_1627 : decode cL_law 1627 = .ok (.invokevirtual 107, 3) := by decide +kernel
theorem dL_law_1630 : decode cL_law 1630 = .ok (.iload 6, 2) := by decide +kernel
theorem dL_law_1632 : decode cL_law 1632 = .ok (.if_icmp .eq 5, 3) := by decide +kernel
theorem dL_law_1635 : decode cL_law 1635 = .ok (.iconst 0, 1) := by decide +kernel
theorem dL_law_1636 : decode cL_law 1636 = .ok (.ireturn, 1) := by decide +kernel
theorem dL_law_1637 : decode cL_law 1637 = .ok (.iload 6, 2) := by decide +kernel
theorem dL_law_1639 : decode cL_law 1639 = .ok (.ifCond .ne 15, 3) := by decide +kernel
theorem dL_law_1642 : decode cL_law 1642 = .ok (.aload_n 3, 1) := by decide +kernel
theorem dL_law_1643 : decode cL_law 1643 = .ok (.iconst 0, 1) := by decide +kernel
theorem dL_law_1644 : decode cL_law 1644 = .ok (.laload, 1) := by decide +kernel
theorem dL_law_1645 : decode cL_law 1645 = .ok (.iload 7, 2) := by decide +kernel
theorem dL_law_1647 : decode cL_law 1647 = .ok (.i2l, 1) := by decide +kernel
theorem dL_law_1648 : decode cL_law 1648 = .ok (.lcmp, 1) := by decide +kernel
theorem dL_law_1649 : decode cL_law 1649 = .ok (.ifCond .eq 5, 3) := by decide +kernel
theorem dL_law_1652 : decode cL_law 1652 = .ok (.iconst 0, 1) := by decide +kernel
theorem dL_law_1653 : decode cL_law 1653 = .ok (.ireturn, 1) := by decide +kernel
theorem dL_law_1654 : decode cL_law 1654 = .ok (.goto 17, 3) := by decide +kernel
theorem dL_law_1657 : decode cL_law 1657 = .ok (.aload_n 1, 1) := by decide +kernel
theorem dL_law_1658 : decode cL_law 1658 = .ok (.invokevirtual 200, 3) := by decide +kernel
theorem dL_law_1661 : decode cL_law 1661 = .ok (.aload_n 2, 1) := by decide +kernel
theorem dL_law_1662 : decode cL_law 1662 = .ok (.invokevirtual 204, 3) := by decide +kernel
theorem dL_law_1665 : decode cL_law 1665 = .ok (.lcmp, 1) := by decide +kernel
theorem dL_law_1666 : decode cL_law 1666 = .ok (.ifCond .eq 5, 3) := by decide +kernel
theorem dL_law_1669 : decode cL_law 1669 = .ok (.iconst 0, 1) := by decide +kernel
theorem dL_law_1670 : decode cL_law 1670 = .ok (.ireturn, 1) := by decide +kernel
theorem dL_law_1671 : decode cL_law 1671 = .ok (.iinc 5 3, 3) := by decide +kernel
theorem dL_law_1674 : decode cL_law 1674 = .ok (.goto (-1646), 3) := by decide +kernel
theorem dL_law_1677 : decode cL_law 1677 = .ok (.iconst 1, 1) := by decide +kernel
theorem dL_law_1678 : decode cL_law 1678 = .ok (.ireturn, 1) := by decide +kernel
end
section
/-! THE FRAME: both systems hold ints alone in fields and arrays that change; what refers stays as the constructors laid it. So a state is a memory M : cell number -> place -> int, over a fixed layout L of cells. -/
abbrev Mm : Type := Nat → Nat → Int32
/-- a named value -/
def lt {α β : Type} (a : α) (f : α → β) : β := f a
theorem lt_e {α β : Type} {a : α} {f : α → β} {r : β} (h : lt a f = r) : ∃ x, x = a ∧ f x = r := ⟨a, rfl, h⟩
/-- a place of a cell written -/
def um (M : Mm) (k j : Nat) (v : Int32) : Mm := fun a => if a = k then upd (M k) j v else M a
theorem um_s (M : Mm) (k j : Nat) (v : Int32) : um M k j v k = upd (M k) j v := if_pos rfl
theorem um_n (M : Mm) {k a : Nat} (j : Nat) (v : Int32) (h : a ≠ k) : um M k j v a = M a := if_neg h
/-- a layout: an int array of a length; an object of a class, each field a cell or an int; an array of references, which cell at each place -/
abbrev Sh : Type := Nat ⊕ (Nat × List (Option Nat)) ⊕ (Bool × Nat × (Nat → Nat))
abbrev shI (n : Nat) : Sh := .inl n
abbrev shO (ci : Nat) (fl : List (Option Nat)) : Sh := .inr (.inl (ci, fl))
abbrev shR (b : Bool) (n : Nat) (g : Nat → Nat) : Sh := .inr (.inr (b, n, g))
def fld (ad : Nat → Nat) (m : Nat → Int32) : Nat → List (Option Nat) → List Value
  | _, [] => []
  | i, none :: l => .int (m i) :: fld ad m (i + 1) l
  | i, some k :: l => .ref (ad k) :: fld ad m (i + 1) l
theorem fld_len (ad : Nat → Nat) (m : Nat → Int32) : ∀ (l : List (Option Nat)) (i : Nat), (fld ad m i l).length = l.length
  | [], _ => rfl
  | none :: l, i => by simp [fld, fld_len ad m l (i + 1)]
  | some k :: l, i => by simp [fld, fld_len ad m l (i + 1)]
theorem fld_i (ad : Nat → Nat) (m : Nat → Int32) : ∀ (l : List (Option Nat)) (i j : Nat), l[j]? = some none → (fld ad m i l)[j]? = some (.int (m (i + j)))
  | [], _, j, h => by simp at h
  | none :: l, i, 0, _ => by simp [fld]
  | some k :: l, i, 0, h => by simp at h
  | none :: l, i, j + 1, h => by
    simp only [fld, List.getElem?_cons_succ]
    rw [fld_i ad m l (i + 1) j (by simpa using h), show i + 1 + j = i + (j + 1) by omega]
  | some k :: l, i, j + 1, h => by
    simp only [fld, List.getElem?_cons_succ]
    rw [fld_i ad m l (i + 1) j (by simpa using h), show i + 1 + j = i + (j + 1) by omega]
theorem fld_r (ad : Nat → Nat) (m : Nat → Int32) : ∀ (l : List (Option Nat)) (i j k : Nat), l[j]? = some (some k) → (fld ad m i l)[j]? = some (.ref (ad k))
  | [], _, j, k, h => by simp at h
  | none :: l, i, 0, k, h => by simp at h
  | some k' :: l, i, 0, k, h => by simp at h; subst h; simp [fld]
  | none :: l, i, j + 1, k, h => by
    simp only [fld, List.getElem?_cons_succ]
    exact fld_r ad m l (i + 1) j k (by simpa using h)
  | some k' :: l, i, j + 1, k, h => by
    simp only [fld, List.getElem?_cons_succ]
    exact fld_r ad m l (i + 1) j k (by simpa using h)
theorem fld_c (ad : Nat → Nat) (m m' : Nat → Int32) : ∀ (l : List (Option Nat)) (i : Nat), (∀ j, i ≤ j → m' j = m j) → fld ad m' i l = fld ad m i l
  | [], _, _ => rfl
  | none :: l, i, h => by simp only [fld]; rw [h i (Nat.le_refl _), fld_c ad m m' l (i + 1) (fun j hj => h j (by omega))]
  | some k :: l, i, h => by simp only [fld]; rw [fld_c ad m m' l (i + 1) (fun j hj => h j (by omega))]
theorem fld_s (ad : Nat → Nat) (m : Nat → Int32) (v : Int32) : ∀ (l : List (Option Nat)) (i j : Nat), l[j]? = some none → (fld ad m i l).set j (.int v) = fld ad (upd m (i + j) v) i l
  | [], _, j, h => by simp at h
  | none :: l, i, 0, _ => by
    simp only [fld, List.set_cons_zero, Nat.add_zero]
    rw [fld_c ad m (upd m i v) l (i + 1) (fun j hj => by simp only [upd]; rw [if_neg (by omega)])]
    simp [upd]
  | some k :: l, i, 0, h => by simp at h
  | none :: l, i, j + 1, h => by
    simp only [fld, List.set_cons_succ]
    rw [fld_s ad m v l (i + 1) j (by simpa using h), show i + 1 + j = i + (j + 1) by omega]
    simp [upd]
  | some k :: l, i, j + 1, h => by
    simp only [fld, List.set_cons_succ]
    rw [fld_s ad m v l (i + 1) j (by simpa using h), show i + 1 + j = i + (j + 1) by omega]
abbrev Cs : Type := ClassId × ClassId × ClassId
def cellOf (cs : Cs) (ad : Nat → Nat) (sh : Sh) (m : Nat → Int32) : va_E := match sh with
  | .inl n => .inl (cs.1, n, .inl m)
  | .inr (.inl o) => .inr (o.1, fld ad m 0 o.2)
  | .inr (.inr (b, n, g)) => .inl (if b then cs.2.1 else cs.2.2, n, .inr (.inr (.inr (.inr (fun i => some (ad (g i)))))))
def wl (cs : Cs) (L : Nat → Sh) (N : Nat) (ad : Nat → Nat) (M : Mm) : va_W := (List.range N).map (fun k => (ad k, cellOf cs ad (L k) (M k)))
abbrev tysC (cs : Cs) : List (ClassId × FieldType) := [(cs.1, .int), (cs.2.1, .object RX5), (cs.2.2, .array .int)]
theorem wl_len (cs : Cs) (L : Nat → Sh) (N : Nat) (ad : Nat → Nat) (M : Mm) : (wl cs L N ad M).length = N := by simp [wl]
theorem wl_get {cs : Cs} {L : Nat → Sh} {N : Nat} {ad : Nat → Nat} {M : Mm} (X : va_W) {k : Nat} (hk : k < N) : (wl cs L N ad M ++ X)[k]? = some (ad k, cellOf cs ad (L k) (M k)) := by
  rw [List.getElem?_append_left (by rw [wl_len]; exact hk)]
  simp [wl, List.getElem?_range hk]
theorem wl_set {cs : Cs} {L : Nat → Sh} {N : Nat} {ad : Nat → Nat} {M M' : Mm} (X : va_W) {k : Nat} (hk : k < N) {e : va_E} (he : e = cellOf cs ad (L k) (M' k)) (ho : ∀ a, a ≠ k → M' a = M a) : (wl cs L N ad M ++ X).set k (ad k, e) = wl cs L N ad M' ++ X := by
  rw [List.set_append_left _ _ (by rw [wl_len]; exact hk)]
  congr 1
  apply List.ext_getElem?
  intro i
  by_cases hi : i = k
  · subst hi
    rw [List.getElem?_set_self (by rw [wl_len]; exact hk), he]
    simp [wl, List.getElem?_range hk]
  · rw [List.getElem?_set_ne (Ne.symm hi)]
    by_cases hiN : i < N
    · simp [wl, List.getElem?_range hiN, ho i hi]
    · rw [List.getElem?_eq_none (by rw [wl_len]; omega), List.getElem?_eq_none (by rw [wl_len]; omega)]
theorem wl_D {cs : Cs} {L : Nat → Sh} {N : Nat} {ad : Nat → Nat} {M : Mm} {A : Nat → Prop} {X : va_W} (M' : Mm) (hD : va_D A (wl cs L N ad M ++ X)) : va_D A (wl cs L N ad M' ++ X) := by
  have key : ∀ (i : Nat) (q : Nat × va_E), (wl cs L N ad M' ++ X)[i]? = some q → ∃ e, (wl cs L N ad M ++ X)[i]? = some (q.1, e) := by
    intro i q h
    by_cases hi : i < N
    · rw [wl_get X hi] at h
      cases h
      exact ⟨_, wl_get X hi⟩
    · rw [List.getElem?_append_right (by rw [wl_len]; omega), wl_len] at h ⊢
      exact ⟨q.2, h⟩
  refine ⟨fun i j p q hi hj e => ?_, fun i q hi => ?_⟩
  · obtain ⟨e1, h1⟩ := key i p hi
    obtain ⟨e2, h2⟩ := key j q hj
    exact hD.1 i j _ _ h1 h2 e
  · obtain ⟨e1, h1⟩ := key i q hi
    exact hD.2 i (q.1, e1) h1
/-- which cells a method over the layout may change: its own, the caller's other ones, new ones -/
def wA (N : Nat) (ad : Nat → Nat) (X : va_W) (sz : Nat) : Nat → Prop := fun q => (∃ k, k < N ∧ q = ad k) ∨ (∃ (k : Nat) (e : va_E), X[k]? = some (q, e)) ∨ sz ≤ q
theorem wA_D {cs : Cs} {L : Nat → Sh} {N : Nat} {ad : Nat → Nat} {M : Mm} {A : Nat → Prop} {X : va_W} {sz : Nat} (hD : va_D A (wl cs L N ad M ++ X)) : va_D (wA N ad X sz) (wl cs L N ad M ++ X) := by
  refine hD.weaken (fun i q hi _ => ?_)
  by_cases h : i < N
  · rw [wl_get X h] at hi
    cases hi
    exact Or.inl ⟨i, h, rfl⟩
  · rw [List.getElem?_append_right (by rw [wl_len]; omega)] at hi
    exact Or.inr (Or.inl ⟨_, q.2, hi⟩)
theorem wA_free {cs : Cs} {L : Nat → Sh} {N : Nat} {ad : Nat → Nat} {M : Mm} {A0 : Nat → Prop} {X : va_W} {H0 H : Heap} {locs : List Loc} (hD : va_D A0 (wl cs L N ad M ++ X)) (hS : va_S A0 H0 H locs) (hA : ∀ q, H0.size ≤ q → A0 q) : ∀ q, wA N ad X H.size q → A0 q := by
  intro q h
  rcases h with ⟨k, hk, rfl⟩ | ⟨k, e, h⟩ | h
  · exact hD.2 k _ (wl_get X hk)
  · exact hD.2 (N + k) (q, e) (by rw [List.getElem?_append_right (by rw [wl_len]; omega), wl_len, Nat.add_sub_cancel_left]; exact h)
  · exact hA q (Nat.le_trans hS.1 h)
theorem w_left {D : va_G} {cl : List vw_C} {w1 w2 : va_W} {H : Heap} (hP : va_P D cl (w1 ++ w2) H) : va_P D cl w1 H := fun k q hk => hP k q (by rw [List.getElem?_append_left (List.getElem?_eq_some_iff.mp hk).1]; exact hk)
section FWR
variable {p : Program} {l : Launch} {e : Env} {R : Room} {s : State} {m : MethodId} {args : Array Value} {below : List Frame} {meth : Method} {c : Code} {H H0 : Heap} {locs : List Loc} {cells slots : Nat} {Q : State → Prop} {cc : ByteArray} {pc : Nat} {ls : Array Slot} {rest st0 : List Value} {D : va_G} {A : Nat → Prop} {cs : Cs} {L : Nat → Sh} {N : Nat} {ad : Nat → Nat} {M : Mm} {X : va_W}
/-- an int field read -/
theorem m_gi (hexec : p.tables.exec = Jvm.exec) (hb : c.code = cc) {own ref C : String} {T : u_T} {n ci index : Nat} {Ts : List Cond} (hts : ∀ w ∈ Ts, w.before args s = true) (hin : ∀ w ∈ u_ws C T n, w ∈ Ts) (hown : s.vm.findClass own = some m.cls) (hK : va_K D vwCl (tysC cs) s) (hP : va_P D vwCl (wl cs L N ad M ++ X) H) {k : Nat} (hk : k < N) {fl : List (Option Nat)} (hL : L k = shO ci fl) (hc : vwCl[ci]? = some (C, T, n)) (j : Nat) (hj : j < n) (hf : fl[j]? = some none) (hlink : (Cond.fieldLink own index ref (T j).2.1 (T j).2.2.1).before args s = true) (hsame : ∀ x, s.fieldFound? (T j).1 (T j).2.1 (T j).2.2.1 = some x → s.fieldFound? ref (T j).2.1 (T j).2.2.1 = some x) (hdg : decode cc pc = .ok (.getfield index, 3))
    (kk : W p l e R s m args below meth c H locs cells slots Q (F0 m (pc + 3) ls (.int (M k j) :: rest))) : W p l e R s m args below meth c H locs cells slots Q (F0 m pc ls (.ref (ad k) :: rest)) := by
  have he : (wl cs L N ad M ++ X)[k]? = some (ad k, .inr (ci, fld ad (M k) 0 fl)) := by rw [wl_get X hk, hL]; rfl
  exact va_get (D := D) (ci := ci) (C := C) (T := T) (N := n) hexec hb hts hin hown hK hP k he hc j hj hlink hsame (v := .int (M k j)) (by rw [fld_i ad (M k) fl 0 j hf, Nat.zero_add]) hdg kk
/-- a field read that refers -/
theorem m_gr (hexec : p.tables.exec = Jvm.exec) (hb : c.code = cc) {own ref C : String} {T : u_T} {n ci index : Nat} {Ts : List Cond} (hts : ∀ w ∈ Ts, w.before args s = true) (hin : ∀ w ∈ u_ws C T n, w ∈ Ts) (hown : s.vm.findClass own = some m.cls) (hK : va_K D vwCl (tysC cs) s) (hP : va_P D vwCl (wl cs L N ad M ++ X) H) {k : Nat} (hk : k < N) {fl : List (Option Nat)} (hL : L k = shO ci fl) (hc : vwCl[ci]? = some (C, T, n)) (j : Nat) (hj : j < n) {k2 : Nat} (hf : fl[j]? = some (some k2)) (hlink : (Cond.fieldLink own index ref (T j).2.1 (T j).2.2.1).before args s = true) (hsame : ∀ x, s.fieldFound? (T j).1 (T j).2.1 (T j).2.2.1 = some x → s.fieldFound? ref (T j).2.1 (T j).2.2.1 = some x) (hdg : decode cc pc = .ok (.getfield index, 3))
    (kk : W p l e R s m args below meth c H locs cells slots Q (F0 m (pc + 3) ls (.ref (ad k2) :: rest))) : W p l e R s m args below meth c H locs cells slots Q (F0 m pc ls (.ref (ad k) :: rest)) := by
  have he : (wl cs L N ad M ++ X)[k]? = some (ad k, .inr (ci, fld ad (M k) 0 fl)) := by rw [wl_get X hk, hL]; rfl
  exact va_get (D := D) (ci := ci) (C := C) (T := T) (N := n) hexec hb hts hin hown hK hP k he hc j hj hlink hsame (v := .ref (ad k2)) (fld_r ad (M k) fl 0 j k2 hf) hdg kk
/-- an int field written -/
theorem m_pi (hexec : p.tables.exec = Jvm.exec) (hb : c.code = cc) {own ref C : String} {T : u_T} {n ci index : Nat} {Ts : List Cond} (hts : ∀ w ∈ Ts, w.before args s = true) (hin : ∀ w ∈ u_ws C T n, w ∈ Ts) (ty0 : Nat → FieldType) (hty : ∀ k, k < n → parseFieldDescriptor (T k).2.2.1 = some (ty0 k)) (hnm : ∀ a, a < n → ∀ b, b < n → a ≠ b → (T a).2.1 ≠ (T b).2.1) (hown : s.vm.findClass own = some m.cls) (hK : va_K D vwCl (tysC cs) s) (hP : va_P D vwCl (wl cs L N ad M ++ X) H) (hD : va_D A (wl cs L N ad M ++ X)) (hS : va_S A H0 H locs) {k : Nat} (hk : k < N) {fl : List (Option Nat)} (hL : L k = shO ci fl) (hc : vwCl[ci]? = some (C, T, n)) (j : Nat) (hj : j < n) (hf : fl[j]? = some none) (hlink : (Cond.fieldLink own index ref (T j).2.1 (T j).2.2.1).before args s = true) (hsame : ∀ x, s.fieldFound? (T j).1 (T j).2.1 (T j).2.2.1 = some x → s.fieldFound? ref (T j).2.1 (T j).2.2.1 = some x) (hfin : (T j).2.2.2 = false) {v : Int32} (hn : narrow (ty0 j) (.int v) = .int v) (hfit : fits (ty0 j) (.int v) = true) (hdg : decode cc pc = .ok (.putfield index, 3)) {M1 : Mm} (hM : M1 = um M k j v)
    (kk : ∀ (H1 : Heap) (locs1 : List Loc), va_P D vwCl (wl cs L N ad M1 ++ X) H1 → va_D A (wl cs L N ad M1 ++ X) → va_S A H0 H1 locs1 → W p l e R s m args below meth c H1 locs1 cells slots Q (F0 m (pc + 3) ls rest)) : W p l e R s m args below meth c H locs cells slots Q (F0 m pc ls (.int v :: .ref (ad k) :: rest)) := by
  have he : (wl cs L N ad M ++ X)[k]? = some (ad k, .inr (ci, fld ad (M k) 0 fl)) := by rw [wl_get X hk, hL]; rfl
  have hl : j < fl.length := (List.getElem?_eq_some_iff.mp hf).1
  have hset : (wl cs L N ad M ++ X).set k (ad k, .inr (ci, (fld ad (M k) 0 fl).set j (.int v))) = wl cs L N ad M1 ++ X := by
    refine wl_set X hk ?_ (fun a ha => by rw [hM]; exact um_n M j v ha)
    rw [hL, hM, um_s, fld_s ad (M k) v fl 0 j hf, Nat.zero_add]
    rfl
  refine va_put (D := D) (ci := ci) (C := C) (T := T) (N := n) (ty := ty0 j) (v := .int v) hexec hb hts hin ty0 hty hnm hown hK hP hD hS k he hc j hj hlink hsame hfin (hty j hj) hn hfit (by rw [fld_len]; exact hl) hdg (fun H1 locs1 hP1 hD1 hS1 => ?_)
  rw [hset] at hP1 hD1
  exact kk H1 locs1 hP1 hD1 hS1
/-- a place of an int array read -/
theorem m_ld (hexec : p.tables.exec = Jvm.exec) (hb : c.code = cc) (hK : va_K D vwCl (tysC cs) s) (hP : va_P D vwCl (wl cs L N ad M ++ X) H) {k : Nat} (hk : k < N) {n : Nat} (hL : L k = shI n) {i : Int32} (hin : ¬ (i < 0 ∨ n ≤ i.toNatClampNeg)) (hdg : decode cc pc = .ok (.iaload, 1))
    (kk : W p l e R s m args below meth c H locs cells slots Q (F0 m (pc + 1) ls (.int (M k i.toNatClampNeg) :: rest))) : W p l e R s m args below meth c H locs cells slots Q (F0 m pc ls (.int i :: .ref (ad k) :: rest)) := by
  have he : (wl cs L N ad M ++ X)[k]? = some (ad k, .inl (cs.1, n, .inl (M k))) := by rw [wl_get X hk, hL]; rfl
  exact va_iald hexec hb hK hP k 0 he rfl hin hdg kk
/-- a place of an int array written -/
theorem m_st (hexec : p.tables.exec = Jvm.exec) (hb : c.code = cc) (hK : va_K D vwCl (tysC cs) s) (hP : va_P D vwCl (wl cs L N ad M ++ X) H) (hD : va_D A (wl cs L N ad M ++ X)) (hS : va_S A H0 H locs) {k : Nat} (hk : k < N) {n : Nat} (hL : L k = shI n) {i v : Int32} (hin : ¬ (i < 0 ∨ n ≤ i.toNatClampNeg)) (hdg : decode cc pc = .ok (.iastore, 1)) {M1 : Mm} (hM : M1 = um M k i.toNatClampNeg v)
    (kk : ∀ (H1 : Heap) (locs1 : List Loc), va_P D vwCl (wl cs L N ad M1 ++ X) H1 → va_D A (wl cs L N ad M1 ++ X) → va_S A H0 H1 locs1 → W p l e R s m args below meth c H1 locs1 cells slots Q (F0 m (pc + 1) ls rest)) : W p l e R s m args below meth c H locs cells slots Q (F0 m pc ls (.int v :: .int i :: .ref (ad k) :: rest)) := by
  have he : (wl cs L N ad M ++ X)[k]? = some (ad k, .inl (cs.1, n, .inl (M k))) := by rw [wl_get X hk, hL]; rfl
  have hset : (wl cs L N ad M ++ X).set k (ad k, .inl (cs.1, n, .inl (upd (M k) i.toNatClampNeg v))) = wl cs L N ad M1 ++ X := by
    refine wl_set X hk ?_ (fun a ha => by rw [hM]; exact um_n M _ v ha)
    rw [hL, hM, um_s]
    rfl
  refine va_iast hexec hb hK hP hD hS k 0 he rfl hin hdg (fun H1 locs1 hP1 hD1 hS1 => ?_)
  rw [hset] at hP1 hD1
  exact kk H1 locs1 hP1 hD1 hS1
/-- a place of an array of our objects read -/
theorem m_lq (hexec : p.tables.exec = Jvm.exec) (hb : c.code = cc) (hK : va_K D vwCl (tysC cs) s) (hP : va_P D vwCl (wl cs L N ad M ++ X) H) {k : Nat} (hk : k < N) {n : Nat} {g : Nat → Nat} (hL : L k = shR true n g) {i : Int32} (hin : ¬ (i < 0 ∨ n ≤ i.toNatClampNeg)) (hdg : decode cc pc = .ok (.aaload, 1))
    (kk : W p l e R s m args below meth c H locs cells slots Q (F0 m (pc + 1) ls (.ref (ad (g i.toNatClampNeg)) :: rest))) : W p l e R s m args below meth c H locs cells slots Q (F0 m pc ls (.int i :: .ref (ad k) :: rest)) := by
  have he : (wl cs L N ad M ++ X)[k]? = some (ad k, .inl (cs.2.1, n, .inr (.inr (.inr (.inr (fun i => some (ad (g i)))))))) := by rw [wl_get X hk, hL]; rfl
  exact va_aldq hexec hb hK hP k 1 he rfl hin hdg kk
/-- a row of an array of int arrays -/
theorem m_lr (hexec : p.tables.exec = Jvm.exec) (hb : c.code = cc) (hK : va_K D vwCl (tysC cs) s) (hP : va_P D vwCl (wl cs L N ad M ++ X) H) {k : Nat} (hk : k < N) {n : Nat} {g : Nat → Nat} (hL : L k = shR false n g) {i : Int32} (hin : ¬ (i < 0 ∨ n ≤ i.toNatClampNeg)) (hdg : decode cc pc = .ok (.aaload, 1))
    (kk : W p l e R s m args below meth c H locs cells slots Q (F0 m (pc + 1) ls (.ref (ad (g i.toNatClampNeg)) :: rest))) : W p l e R s m args below meth c H locs cells slots Q (F0 m pc ls (.int i :: .ref (ad k) :: rest)) := by
  have he : (wl cs L N ad M ++ X)[k]? = some (ad k, .inl (cs.2.2, n, .inr (.inr (.inr (.inr (fun i => some (ad (g i)))))))) := by rw [wl_get X hk, hL]; rfl
  have hlt : i.toNatClampNeg < n := Nat.not_le.mp fun q => hin (Or.inr q)
  exact W.aald (v := va_rf (some (ad (g i.toNatClampNeg)))) (ty := .array .int) hexec hb (hP k _ he) ((hK.2 2 _ rfl).1 n (fun j => va_rf (some (ad (g j))))) rfl (fun q => by cases q) (by show ¬ (i < 0 ∨ (arrV _ _ _).slots.size ≤ _); rw [arrV_size]; exact hin) (by show (arrV _ _ _).slots[_]? = _; rw [arrV_read _ _ hlt]) rfl rfl hdg kk
/-- an array's length -/
theorem m_ln (hexec : p.tables.exec = Jvm.exec) (hb : c.code = cc) (hK : va_K D vwCl (tysC cs) s) (hP : va_P D vwCl (wl cs L N ad M ++ X) H) {k : Nat} (hk : k < N) {n : Nat} (hL : L k = shI n) (hdg : decode cc pc = .ok (.arraylength, 1))
    (kk : W p l e R s m args below meth c H locs cells slots Q (F0 m (pc + 1) ls (.int (nI n) :: rest))) : W p l e R s m args below meth c H locs cells slots Q (F0 m pc ls (.ref (ad k) :: rest)) := by
  have he : (wl cs L N ad M ++ X)[k]? = some (ad k, .inl (cs.1, (n, .inl (M k)))) := by rw [wl_get X hk, hL]; rfl
  exact va_alen (v := nI n) hexec hb hK hP k 0 he (ty := .int) rfl rfl hdg kk
end FWR
/-! what the launch holds and nobody writes: literals, statics -/
def litT : List (String × Nat × String) := [(RX0, 19, "SP"), (RX0, 21, ""), (RX0, 23, "{P}"), (RX0, 25, "?ESR"), (RX0, 27, "!E;"), (RX0, 29, "#=E;"), (RX0, 31, ":S"), (RX0, 33, "TQ"), (RX0, 35, "+TQ"), (RX0, 37, "-TQ"), (RX0, 39, "FU"), (RX0, 41, "*FU"), (RX0, 43, "(E)"), (RX0, 45, "-F"), (RX0, 47, "#"), (RX8, 54, "0123456789abcd+-*()=;{}?:!")]
def litB : List (List Int32) := [[83, 80], [], [123, 80, 125], [63, 69, 83, 82], [33, 69, 59], [35, 61, 69, 59], [58, 83], [84, 81], [43, 84, 81], [45, 84, 81], [70, 85], [42, 70, 85], [40, 69, 41], [45, 70], [35], [48, 49, 50, 51, 52, 53, 54, 55, 56, 57, 97, 98, 99, 100, 43, 45, 42, 40, 41, 61, 59, 123, 125, 63, 58, 33]]
def litL : List Nat := [2, 0, 3, 4, 3, 4, 2, 2, 3, 3, 2, 3, 3, 2, 1, 26]
def msgT : List (Nat × String) := [(50, "a byte is no token"), (61, "too many items"), (203, "there is no such feature"), (79, "too many WHENs that are not finished"), (212, "there is no WHEN that is not finished"), (92, "the WHEN has an OTHERWISE"), (97, "there is no item"), (206, "there is no such item"), (108, "the item is no token"), (110, "the character is no token"), (123, "no set of configurations"), (208, "there is no such configuration"), (210, "there is no such index"), (214, "a WHEN is not finished"), (218, "the variant has an error"), (178, "there is no such value"), (183, "there is no such variable")]
def onF : Nat → Int32 := fun j => [43690, 52428, 61680, 65280].getD j 0
abbrev Sw : Type := (Nat → Nat) × (Nat → Nat) × Nat
def SW (w : Sw) (A : Nat → Prop) (U : State) (H : Heap) : Prop :=
  vx_Zq Bundle.tN "UNASSIGNED_STACK" Bundle.steD A U H ∧ vx_Zq Bundle.tN "SUPPRESSED_SENTINEL" Bundle.listD A U H ∧ va_Zq RJ3 "SIOOBE_FORMATTER" "Ljava/util/function/BiFunction;" A U H ∧ va_Z RJ0 "COMPACT_STRINGS" "Z" (.int 1) A U H ∧ va_Z RX6 "ON_AT_FIRST" "[I" (.ref w.2.2) A U H ∧ va_T .int w.2.2 4 (fun j => .int (onF j)) A U H ∧ vk_S 16 litL litB w.1 w.2.1 A U H ∧ (∀ (i : Nat) (q : String × Nat × String), litT[i]? = some q → vk_R q.1 q.2.1 q.2.2 (w.1 i) U) ∧ ∀ q ∈ msgT, ∃ sa, vk_R RX7 q.1 q.2 sa U
theorem SW.kept {w : Sw} {A : Nat → Prop} {U : State} {H H1 : Heap} (h : SW w A U H) (hq : ∀ a : Nat, a < H.size → ¬ A a → H1[a]? = H[a]?) : SW w A U H1 := by
  obtain ⟨h1, h2, h3, h4, h5, h6, h7, h8, h9⟩ := h
  exact ⟨h1.kept hq, h2.kept hq, h3.kept hq, h4.kept hq, h5.kept hq, h6.kept hq, h7.kept hq, h8, h9⟩
theorem SW.narrow {w : Sw} {A B : Nat → Prop} {U : State} {H : Heap} (h : SW w A U H) (hAB : ∀ q, B q → A q) : SW w B U H := by
  obtain ⟨h1, h2, h3, h4, h5, h6, h7, h8, h9⟩ := h
  exact ⟨h1.narrow hAB, h2.narrow hAB, h3.narrow hAB, h4.narrow hAB, h5.narrow hAB, h6.narrow hAB, h7.narrow hAB, h8, h9⟩
theorem SW.warm {w : Sw} {A : Nat → Prop} {s U : State} {H : Heap} (hW : s.WarmedH U.vm) (h : SW w A s H) : SW w A U H := by
  obtain ⟨h1, h2, h3, h4, h5, h6, h7, h8, h9⟩ := h
  exact ⟨h1.moved hW.alike, h2.moved hW.alike, va_Zq.moved hW.alike h3, va_Z.moved hW.alike h4, va_Z.moved hW.alike h5, va_T.moved hW.alike h6, vk_S.moved hW.alike h7, fun i q hq => vk_R.warm hW (h8 i q hq), fun q hq => (h9 q hq).elim (fun sa h => ⟨sa, vk_R.warm hW h⟩)⟩
theorem SW.same {w : Sw} {A : Nat → Prop} {u U : State} {H : Heap} (hv : U.vm = u.vm) (h : SW w A u H) : SW w A U H := by
  obtain ⟨h1, h2, h3, h4, h5, h6, h7, h8, h9⟩ := h
  have ha : u.vm.Alike U.vm := by rw [hv]; exact Vm.Alike.refl u.vm
  exact ⟨h1.moved ha, h2.moved ha, va_Zq.moved ha h3, va_Z.moved ha h4, va_Z.moved ha h5, va_T.moved ha h6, vk_S.moved ha h7, fun i q hq => vk_R.same hv (h8 i q hq), fun q hq => (h9 q hq).elim (fun sa h => ⟨sa, vk_R.same hv h⟩)⟩
theorem SW.pass {w : Sw} {A B : Nat → Prop} {s U : State} {H : Heap} {locs : List Loc} (h : SW w A s s.heap) (hS : va_S A s.heap H locs) (hBA : ∀ q, B q → A q) (hU : U.heap = H) (hW : s.WarmedH U.vm) : SW w B U U.heap := by
  rw [hU]
  exact ((h.kept hS.2.1).narrow hBA).warm hW
/-- what a method that reads needs; what a method that writes needs -/
def rPre (D : va_G) (sw : Sw) (cs : Cs) (L : Nat → Sh) (N : Nat) (ad : Nat → Nat) (M : Mm) (X : va_W) (U : State) : Prop := va_P D vwCl (wl cs L N ad M ++ X) U.heap ∧ va_K D vwCl (tysC cs) U ∧ SW sw (fun _ => False) U U.heap
def wPre (D : va_G) (sw : Sw) (cs : Cs) (L : Nat → Sh) (N : Nat) (ad : Nat → Nat) (M : Mm) (X : va_W) (sz : Nat) (U : State) : Prop := U.heap.size = sz ∧ va_P D vwCl (wl cs L N ad M ++ X) U.heap ∧ va_K D vwCl (tysC cs) U ∧ va_D (fun _ => True) (wl cs L N ad M ++ X) ∧ SW sw (wA N ad X sz) U U.heap
/-- ends: an int and the memory; the memory -/
abbrev wQi (D : va_G) (cs : Cs) (L : Nat → Sh) (N : Nat) (ad : Nat → Nat) (M : Mm) (X : va_W) (sz : Nat) (r : Int32) := va_Qi (fun (r' : Int32) (_ : Unit) => r' = r) (fun _ t => va_P D vwCl (wl cs L N ad M ++ X) t.heap) (wA N ad X sz)
abbrev wQl (D : va_G) (cs : Cs) (L : Nat → Sh) (N : Nat) (ad : Nat → Nat) (M : Mm) (X : va_W) (sz : Nat) (r : Int64) := va_Ql (fun (r' : Int64) (_ : Unit) => r' = r) (fun _ t => va_P D vwCl (wl cs L N ad M ++ X) t.heap) (wA N ad X sz)
abbrev wQv (D : va_G) (cs : Cs) (L : Nat → Sh) (N : Nat) (ad : Nat → Nat) (M : Mm) (X : va_W) (sz : Nat) := va_Qv (fun (_ : Unit) => True) (fun _ t => va_P D vwCl (wl cs L N ad M ++ X) t.heap) (wA N ad X sz)
section FWC
variable {p : Program} {l : Launch} {e : Env} {R : Room} {s : State} {m : MethodId} {args : Array Value} {below : List Frame} {meth : Method} {c : Code} {H H0 : Heap} {locs : List Loc} {cells slots : Nat} {Q : State → Prop} {cc : ByteArray} {pc : Nat} {ls : Array Slot} {rest st0 : List Value} {D : va_G} {A : Nat → Prop} {cs : Cs} {L : Nat → Sh} {N : Nat} {ad : Nat → Nat} {M M1 : Mm} {X : va_W} {mc ms : Nat} {a : Array Value}
theorem rPre_blind {sw : Sw} (av : List Value) : FrameBlind (va_Pc av (rPre D sw cs L N ad M X)) := fun _ U _ _ q => ⟨q.1, q.2.1, va_K.moved (u := U) (U := U.calling _ _ _) (Vm.Alike.refl U.vm) q.2.2.1, SW.same (u := U) (U := U.calling _ _ _) rfl q.2.2.2⟩
theorem wPre_blind {sw : Sw} (av : List Value) (sz : Nat) : FrameBlind (va_Pc av (wPre D sw cs L N ad M X sz)) := fun _ U _ _ q => ⟨q.1, q.2.1, q.2.2.1, va_K.moved (u := U) (U := U.calling _ _ _) (Vm.Alike.refl U.vm) q.2.2.2.1, q.2.2.2.2.1, SW.same (u := U) (U := U.calling _ _ _) rfl q.2.2.2.2.2⟩
theorem pPre_blind (av : List Value) : FrameBlind (va_Pc av (fun _ => True)) := fun _ _ _ _ q => q
theorem SW.r {sw : Sw} {U : State} (hSW : SW sw (fun _ => False) s H) (hU : U.heap = H) (hW : s.WarmedH U.vm) : SW sw (fun _ => False) U U.heap := by rw [hU]; exact hSW.warm hW
theorem SW.wr {sw : Sw} (hSW : SW sw A s s.heap) (hS : va_S A s.heap H locs) : SW sw (fun _ => False) s H := (hSW.kept hS.2.1).narrow (fun _ h => h.elim)
theorem w_recv (hK : va_K D vwCl (tysC cs) s) (hP : va_P D vwCl (wl cs L N ad M ++ X) H) {k : Nat} (hk : k < N) {ci : Nat} {fl : List (Option Nat)} (hL : L k = shO ci fl) {C : String} {T : u_T} {n : Nat} (hc : vwCl[ci]? = some (C, T, n)) : ∃ cellB : Cell, H[ad k]? = some cellB ∧ cellB.vm.isStatics = false ∧ s.vm.findClass C = some cellB.cls :=
  va_recv hK hP (ci := ci) (q0 := k) hc (by rw [wl_get X hk, hL]; rfl)
theorem rPreV {sw : Sw} (hSW : SW sw (fun _ => False) s H) (hK : va_K D vwCl (tysC cs) s) (hP : va_P D vwCl (wl cs L N ad M ++ X) H) {k : Nat} (hk : k < N) {ci : Nat} {fl : List (Option Nat)} (hL : L k = shO ci fl) {C : String} {T : u_T} {n : Nat} (hc : vwCl[ci]? = some (C, T, n)) (As : List Value) : PreV s H C (ad k) (va_Pc (.ref (ad k) :: As) (rPre D sw cs L N ad M X)) As :=
  ⟨rPre_blind _, w_recv hK hP hk hL hc, fun U hU hW => ⟨rfl, by rw [hU]; exact hP, va_K.moved hW.alike hK, hSW.r hU hW⟩⟩
theorem rPreS {sw : Sw} (hSW : SW sw (fun _ => False) s H) (hK : va_K D vwCl (tysC cs) s) (hP : va_P D vwCl (wl cs L N ad M ++ X) H) (As : List Value) : PreS s H (va_Pc As (rPre D sw cs L N ad M X)) As :=
  ⟨rPre_blind _, fun U hU hW => ⟨rfl, by rw [hU]; exact hP, va_K.moved hW.alike hK, hSW.r hU hW⟩⟩
theorem pPreS (As : List Value) : PreS s H (va_Pc As (fun _ => True)) As := ⟨pPre_blind _, fun _ _ _ => ⟨rfl, trivial⟩⟩
theorem wPreV {sw : Sw} (hSW : SW sw A s s.heap) (hS : va_S A s.heap H locs) (hA : ∀ q, s.heap.size ≤ q → A q) (hK : va_K D vwCl (tysC cs) s) (hP : va_P D vwCl (wl cs L N ad M ++ X) H) (hD : va_D A (wl cs L N ad M ++ X)) {k : Nat} (hk : k < N) {ci : Nat} {fl : List (Option Nat)} (hL : L k = shO ci fl) {C : String} {T : u_T} {n : Nat} (hc : vwCl[ci]? = some (C, T, n)) (As : List Value) : PreV s H C (ad k) (va_Pc (.ref (ad k) :: As) (wPre D sw cs L N ad M X H.size)) As :=
  ⟨wPre_blind _ _, w_recv hK hP hk hL hc, fun U hU hW => ⟨rfl, by rw [hU], by rw [hU]; exact hP, va_K.moved hW.alike hK, hD.weaken (fun _ _ _ _ => trivial), hSW.pass hS (wA_free hD hS hA) hU hW⟩⟩
theorem wPreS {sw : Sw} (hSW : SW sw A s s.heap) (hS : va_S A s.heap H locs) (hA : ∀ q, s.heap.size ≤ q → A q) (hK : va_K D vwCl (tysC cs) s) (hP : va_P D vwCl (wl cs L N ad M ++ X) H) (hD : va_D A (wl cs L N ad M ++ X)) (As : List Value) : PreS s H (va_Pc As (wPre D sw cs L N ad M X H.size)) As :=
  ⟨wPre_blind _ _, fun U hU hW => ⟨rfl, by rw [hU], by rw [hU]; exact hP, va_K.moved hW.alike hK, hD.weaken (fun _ _ _ _ => trivial), hSW.pass hS (wA_free hD hS hA) hU hW⟩⟩
theorem r_calli {r : Int32} (hr : CallRun p l e R s m args below meth c H locs cells slots 0 0 (F0 m pc ls st0) rest (vp_Si (fun r' => r' = r) a) (fun _ => False))
    (kk : W p l e R s m args below meth c H locs cells slots Q (F0 m (pc + 3) ls (.int r :: rest))) : W p l e R s m args below meth c H locs cells slots Q (F0 m pc ls st0) := vp_callSi hr (fun r' h => by subst h; exact kk)
theorem r_calll {r : Int64} (hr : CallRun p l e R s m args below meth c H locs cells slots 0 0 (F0 m pc ls st0) rest (vp_Sl (fun r' => r' = r) a) (fun _ => False))
    (kk : W p l e R s m args below meth c H locs cells slots Q (F0 m (pc + 3) ls (.long r :: rest))) : W p l e R s m args below meth c H locs cells slots Q (F0 m pc ls st0) := vp_callSl hr (fun r' h => by subst h; exact kk)
theorem w_calli {r : Int32} (hr : va_Run p l e R s m args below meth c H locs cells slots mc ms (F0 m pc ls st0) rest (wQi D cs L N ad M1 X H.size r a) (wA N ad X H.size)) (hD : va_D A (wl cs L N ad M ++ X)) (hS : va_S A H0 H locs) (hA : ∀ q, H0.size ≤ q → A q)
    (kk : ∀ (H1 : Heap) (locs1 : List Loc), va_P D vwCl (wl cs L N ad M1 ++ X) H1 → va_D A (wl cs L N ad M1 ++ X) → va_S A H0 H1 locs1 → W p l e R s m args below meth c H1 locs1 (cells + mc) (slots + ms) Q (F0 m (pc + 3) ls (.int r :: rest))) : W p l e R s m args below meth c H locs cells slots Q (F0 m pc ls st0) :=
  va_calli hr hS (fun q _ h => wA_free hD hS hA q h) (wA_free hD hS hA) (fun r' u t H1 locs1 ht _ hw hB _ _ hS1 => by subst hw; rw [ht] at hB; exact kk H1 locs1 hB (wl_D M1 hD) hS1)
theorem w_calll {r : Int64} (hr : va_Run p l e R s m args below meth c H locs cells slots mc ms (F0 m pc ls st0) rest (wQl D cs L N ad M1 X H.size r a) (wA N ad X H.size)) (hD : va_D A (wl cs L N ad M ++ X)) (hS : va_S A H0 H locs) (hA : ∀ q, H0.size ≤ q → A q)
    (kk : ∀ (H1 : Heap) (locs1 : List Loc), va_P D vwCl (wl cs L N ad M1 ++ X) H1 → va_D A (wl cs L N ad M1 ++ X) → va_S A H0 H1 locs1 → W p l e R s m args below meth c H1 locs1 (cells + mc) (slots + ms) Q (F0 m (pc + 3) ls (.long r :: rest))) : W p l e R s m args below meth c H locs cells slots Q (F0 m pc ls st0) :=
  va_calll hr hS (fun q _ h => wA_free hD hS hA q h) (wA_free hD hS hA) (fun r' u t H1 locs1 ht _ hw hB _ _ hS1 => by subst hw; rw [ht] at hB; exact kk H1 locs1 hB (wl_D M1 hD) hS1)
theorem w_callv (hr : va_Run p l e R s m args below meth c H locs cells slots mc ms (F0 m pc ls st0) rest (wQv D cs L N ad M1 X H.size a) (wA N ad X H.size)) (hD : va_D A (wl cs L N ad M ++ X)) (hS : va_S A H0 H locs) (hA : ∀ q, H0.size ≤ q → A q)
    (kk : ∀ (H1 : Heap) (locs1 : List Loc), va_P D vwCl (wl cs L N ad M1 ++ X) H1 → va_D A (wl cs L N ad M1 ++ X) → va_S A H0 H1 locs1 → W p l e R s m args below meth c H1 locs1 (cells + mc) (slots + ms) Q (F0 m (pc + 3) ls rest)) : W p l e R s m args below meth c H locs cells slots Q (F0 m pc ls st0) :=
  va_callv hr hS (fun q _ h => wA_free hD hS hA q h) (wA_free hD hS hA) (fun u t H1 locs1 ht _ _ hB _ _ hS1 => by rw [ht] at hB; exact kk H1 locs1 hB (wl_D M1 hD) hS1)
end FWC
/-! small rows of the programs that lay the walks -/
theorem if_t {c : Prop} [Decidable c] {α : Sort _} {a b r : α} (hg : (if c then a else b) = r) (h : c) : a = r := by rw [if_pos h] at hg; exact hg
theorem if_f {c : Prop} [Decidable c] {α : Sort _} {a b r : α} (hg : (if c then a else b) = r) (h : ¬ c) : b = r := by rw [if_neg h] at hg; exact hg
theorem ck_e {c : Prop} [Decidable c] {α : Type} {a r : Option α} (hg : (if c then none else a) = r) (hne : r ≠ none) : ¬ c ∧ a = r := by
  by_cases h : c
  · rw [if_pos h] at hg
    exact absurd hg.symm hne
  · rw [if_neg h] at hg
    exact ⟨h, hg⟩
def bd {α β : Type} (x : Option α) (f : α → Option β) : Option β := match x with
  | none => none
  | some a => f a
def bd2 {α β γ : Type} (x : Option (α × β)) (f : α → β → Option γ) : Option γ := match x with
  | none => none
  | some q => f q.1 q.2
theorem bd_e {α β : Type} {x : Option α} {f : α → Option β} {r : Option β} (h : bd x f = r) (hne : r ≠ none) : ∃ a, x = some a ∧ f a = r := by
  cases x with
  | none => exact absurd h.symm hne
  | some a => exact ⟨a, rfl, h⟩
theorem bd2_e {α β γ : Type} {x : Option (α × β)} {f : α → β → Option γ} {r : Option γ} (h : bd2 x f = r) (hne : r ≠ none) : ∃ a b, x = some (a, b) ∧ f a b = r := by
  cases x with
  | none => exact absurd h.symm hne
  | some q => exact ⟨q.1, q.2, rfl, h⟩
theorem bd_s {α β : Type} (a : α) (f : α → Option β) : bd (some a) f = f a := rfl
theorem bd2_s {α β γ : Type} (a : α) (b : β) (f : α → β → Option γ) : bd2 (some (a, b)) f = f a b := rfl
theorem lf1 {α δ ρ : Type} {f : α → δ} {k : (α → δ) → ρ} {r : ρ} (h : lt f k = r) : ∃ J : α → δ, (∀ a, J a = f a) ∧ k J = r := ⟨f, fun _ => rfl, h⟩
theorem lf2 {α β δ ρ : Type} {f : α → β → δ} {k : (α → β → δ) → ρ} {r : ρ} (h : lt f k = r) : ∃ J : α → β → δ, (∀ a b, J a b = f a b) ∧ k J = r := ⟨f, fun _ _ => rfl, h⟩
theorem lf3 {α β γ δ ρ : Type} {f : α → β → γ → δ} {k : (α → β → γ → δ) → ρ} {r : ρ} (h : lt f k = r) : ∃ J : α → β → γ → δ, (∀ a b c, J a b c = f a b c) ∧ k J = r := ⟨f, fun _ _ _ => rfl, h⟩
theorem lf4 {α β γ ε δ ρ : Type} {f : α → β → γ → ε → δ} {k : (α → β → γ → ε → δ) → ρ} {r : ρ} (h : lt f k = r) : ∃ J : α → β → γ → ε → δ, (∀ a b c d, J a b c d = f a b c d) ∧ k J = r := ⟨f, fun _ _ _ _ => rfl, h⟩
theorem lf5 {α β γ ε ζ δ ρ : Type} {f : α → β → γ → ε → ζ → δ} {k : (α → β → γ → ε → ζ → δ) → ρ} {r : ρ} (h : lt f k = r) : ∃ J : α → β → γ → ε → ζ → δ, (∀ a b c d e, J a b c d e = f a b c d e) ∧ k J = r := ⟨f, fun _ _ _ _ _ => rfl, h⟩
theorem lf6 {α β γ ε ζ η δ ρ : Type} {f : α → β → γ → ε → ζ → η → δ} {k : (α → β → γ → ε → ζ → η → δ) → ρ} {r : ρ} (h : lt f k = r) : ∃ J : α → β → γ → ε → ζ → η → δ, (∀ a b c d e g, J a b c d e g = f a b c d e g) ∧ k J = r := ⟨f, fun _ _ _ _ _ _ => rfl, h⟩
theorem lf7 {α β γ ε ζ η θ δ ρ : Type} {f : α → β → γ → ε → ζ → η → θ → δ} {k : (α → β → γ → ε → ζ → η → θ → δ) → ρ} {r : ρ} (h : lt f k = r) : ∃ J : α → β → γ → ε → ζ → η → θ → δ, (∀ a b c d e g i, J a b c d e g i = f a b c d e g i) ∧ k J = r := ⟨f, fun _ _ _ _ _ _ _ => rfl, h⟩
theorem lf8 {α β γ ε ζ η θ ι δ ρ : Type} {f : α → β → γ → ε → ζ → η → θ → ι → δ} {k : (α → β → γ → ε → ζ → η → θ → ι → δ) → ρ} {r : ρ} (h : lt f k = r) : ∃ J : α → β → γ → ε → ζ → η → θ → ι → δ, (∀ a b c d e g i j, J a b c d e g i j = f a b c d e g i j) ∧ k J = r := ⟨f, fun _ _ _ _ _ _ _ _ => rfl, h⟩
theorem z01 {v : Int32} (h : ¬ ¬ (v = 0 ∨ v = 1)) : narrow .boolean (.int v) = .int v := by
  rcases Decidable.not_not.mp h with rfl | rfl <;> rfl
theorem zif {c : Prop} [Decidable c] {a b : Int32} (ha : narrow .boolean (.int a) = .int a) (hb : narrow .boolean (.int b) = .int b) : narrow .boolean (.int (if c then a else b)) = .int (if c then a else b) := by
  by_cases h : c
  · rw [if_pos h]; exact ha
  · rw [if_neg h]; exact hb
theorem ix_lt {i : Int32} {n v : Nat} (h : ¬ (i < 0 ∨ n ≤ i.toNatClampNeg)) (hv : v = i.toNatClampNeg) : v < n := by
  rw [hv]
  exact Nat.not_le.mp fun q => h (Or.inr q)
/-- the loops' fuel -/
def FU : Nat := 2000
section FWT
variable {p : Program} {l : Launch} {e : Env} {R : Room} {s : State} {m : MethodId} {args : Array Value} {below : List Frame} {meth : Method} {c : Code} {H : Heap} {locs : List Loc} {cells slots : Nat} {Q : State → Prop} {pc : Nat} {ls : Array Slot} {rest : List Value}
theorem top_i {x y : Int32} (h : y = x) (k : W p l e R s m args below meth c H locs cells slots Q (F0 m pc ls (.int y :: rest))) : W p l e R s m args below meth c H locs cells slots Q (F0 m pc ls (.int x :: rest)) := by subst h; exact k
theorem top_l {x y : Int64} (h : y = x) (k : W p l e R s m args below meth c H locs cells slots Q (F0 m pc ls (.long y :: rest))) : W p l e R s m args below meth c H locs cells slots Q (F0 m pc ls (.long x :: rest)) := by subst h; exact k
end FWT
theorem wpost {D : va_G} {cs : Cs} {L : Nat → Sh} {N : Nat} {ad : Nat → Nat} {M M1 : Mm} {X : va_W} {H : Heap} {t : State} (hP : va_P D vwCl (wl cs L N ad M ++ X) H) (ht : t.heap = H) (hM : M = M1) : va_P D vwCl (wl cs L N ad M1 ++ X) t.heap := by rw [ht, ← hM]; exact hP
/-! contracts out of walks -/
theorem met_p {l : Launch} {y : MethodName} {ws ws' : List Cond} {rm : Room} {cc : ByteArray} {maxL : Nat} {ret : Option FieldType} {As : List Value} {Qc : Array Value → State → Outcome → State → Prop} {mc ms : Nat} {free : Addr → Prop} (hy : plainName y.cls = true) (hw : ws = Cond.code y cc maxL ret :: ws') (hn : (lg_sl As).length ≤ maxL)
    (body : ∀ (p : Program) (e : Env) (s : State) (m : MethodId) (args : Array Value) (below : List Frame) (meth : Method) (c : Code) (ls : Array Slot), CallFix p m c cc maxL s args ws y.cls → meth.sig.returnType = ret → meth.locks = false → lv_has ls maxL (lv_args 0 As) → W p l e rm s m args below meth c s.heap [] 0 0 (MQ below Qc args s mc ms free) (F0 m 0 ls [])) : Met l y ws rm (va_Pc As (fun _ => True)) Qc mc ms free := by
  refine Met.ofW (cc := cc) (maxL := maxL) (ret := ret) hy hw ?_
  intro p e s m args below meth c s₁ B hml hv
  obtain ⟨rfl, -⟩ := hv
  have hl := lv_entry As (n := maxL) hn
  rw [lg_entry_eq]
  exact body p e s m _ below meth c _ ⟨B.exec, B.bytes, hml, findClass_of_methodNamed B.named, atoms_spec (ws := ws) B.pre⟩ B.returns B.notSynchronized hl
theorem met_r {l : Launch} {y : MethodName} {ws ws' : List Cond} {rm : Room} {cc : ByteArray} {maxL : Nat} {ret : Option FieldType} {As : List Value} {Qc : Array Value → State → Outcome → State → Prop} {mc ms : Nat} {free : Addr → Prop} {D : va_G} {sw : Sw} {cs : Cs} {L : Nat → Sh} {N : Nat} {ad : Nat → Nat} {M : Mm} {X : va_W} (hy : plainName y.cls = true) (hw : ws = Cond.code y cc maxL ret :: ws') (hn : (lg_sl As).length ≤ maxL)
    (body : ∀ (p : Program) (e : Env) (s : State) (m : MethodId) (args : Array Value) (below : List Frame) (meth : Method) (c : Code) (ls : Array Slot), CallFix p m c cc maxL s args ws y.cls → meth.sig.returnType = ret → meth.locks = false → va_K D vwCl (tysC cs) s → SW sw (fun _ => False) s s.heap → va_P D vwCl (wl cs L N ad M ++ X) s.heap → lv_has ls maxL (lv_args 0 As) → W p l e rm s m args below meth c s.heap [] 0 0 (MQ below Qc args s mc ms free) (F0 m 0 ls [])) : Met l y ws rm (va_Pc As (rPre D sw cs L N ad M X)) Qc mc ms free := by
  refine Met.ofW (cc := cc) (maxL := maxL) (ret := ret) hy hw ?_
  intro p e s m args below meth c s₁ B hml hv
  obtain ⟨rfl, hP, hK, hSW⟩ := hv
  have hl := lv_entry As (n := maxL) hn
  rw [lg_entry_eq]
  exact body p e s m _ below meth c _ ⟨B.exec, B.bytes, hml, findClass_of_methodNamed B.named, atoms_spec (ws := ws) B.pre⟩ B.returns B.notSynchronized hK hSW hP hl
theorem met_w {l : Launch} {y : MethodName} {ws ws' : List Cond} {rm : Room} {cc : ByteArray} {maxL : Nat} {ret : Option FieldType} {As : List Value} {Qc : Array Value → State → Outcome → State → Prop} {mc ms : Nat} {free : Addr → Prop} {D : va_G} {sw : Sw} {cs : Cs} {L : Nat → Sh} {N : Nat} {ad : Nat → Nat} {M : Mm} {X : va_W} {sz : Nat} (hy : plainName y.cls = true) (hw : ws = Cond.code y cc maxL ret :: ws') (hn : (lg_sl As).length ≤ maxL)
    (body : ∀ (p : Program) (e : Env) (s : State) (m : MethodId) (args : Array Value) (below : List Frame) (meth : Method) (c : Code) (ls : Array Slot), CallFix p m c cc maxL s args ws y.cls → meth.sig.returnType = ret → meth.locks = false → va_K D vwCl (tysC cs) s → SW sw (wA N ad X sz) s s.heap → va_P D vwCl (wl cs L N ad M ++ X) s.heap → va_D (wA N ad X sz) (wl cs L N ad M ++ X) → va_S (wA N ad X sz) s.heap s.heap [] → (∀ q, s.heap.size ≤ q → wA N ad X sz q) → lv_has ls maxL (lv_args 0 As) → W p l e rm s m args below meth c s.heap [] 0 0 (MQ below Qc args s mc ms free) (F0 m 0 ls [])) : Met l y ws rm (va_Pc As (wPre D sw cs L N ad M X sz)) Qc mc ms free := by
  refine Met.ofW (cc := cc) (maxL := maxL) (ret := ret) hy hw ?_
  intro p e s m args below meth c s₁ B hml hv
  obtain ⟨rfl, hsz, hP, hK, hD, hSW⟩ := hv
  have hl := lv_entry As (n := maxL) hn
  rw [lg_entry_eq]
  exact body p e s m _ below meth c _ ⟨B.exec, B.bytes, hml, findClass_of_methodNamed B.named, atoms_spec (ws := ws) B.pre⟩ B.returns B.notSynchronized hK hSW hP (wA_D hD) va_S.rf (fun q h => Or.inr (Or.inr (by rw [← hsz]; exact h))) hl
/-! the two layouts -/
def vb (c : Nat) : Nat := 15 + 10 * c
def ob (f : Nat) : Nat := 6 + f
def NC : Nat := 175
def lc0 : List Sh := [shO 5 [some 1, some 3, some 13, some 14, none], shO 2 [some 2, none], shI 80, shO 4 [some 4, some 5, some 10, some 11, some 12, none, none], shI 80, shR false 4 ob, shI 80, shI 80, shI 80, shI 80, shI 4, shI 5, shI 5, shR true 16 vb, shI 80]
def lcv (b : Nat) : List Sh := [shO 3 [some (b + 1), some (b + 2), none, some (b + 3), some (b + 6)], shI 80, shI 80, shO 0 [some (b + 4), none, some (b + 5), none, none], shI 320, shI 80, shO 1 [some (b + 7), none, none, some (b + 8), some (b + 9), none], shI 80, shI 4, shI 80]
def LC : Nat → Sh := fun k => if k < 15 then lc0.getD k (shI 0) else (lcv (vb ((k - 15) / 10))).getD ((k - 15) % 10) (shI 0)
theorem LC_vj (c j : Nat) (hj : j < 10) : LC (vb c + j) = (lcv (vb c)).getD j (shI 0) := by
  unfold LC
  rw [if_neg (by unfold vb; omega), show (vb c + j - 15) / 10 = c by unfold vb; omega, show (vb c + j - 15) % 10 = j by unfold vb; omega]
theorem LC_VAR (c : Nat) : LC (vb c) = shO 3 [some (vb c + 1), some (vb c + 2), none, some (vb c + 3), some (vb c + 6)] := LC_vj c 0 (by decide)
theorem LC_VTOK (c : Nat) : LC (vb c + 1) = shI 80 := LC_vj c 1 (by decide)
theorem LC_VPL (c : Nat) : LC (vb c + 2) = shI 80 := LC_vj c 2 (by decide)
theorem LC_RDG (c : Nat) : LC (vb c + 3) = shO 0 [some (vb c + 4), none, some (vb c + 5), none, none] := LC_vj c 3 (by decide)
theorem LC_SYM (c : Nat) : LC (vb c + 4) = shI 320 := LC_vj c 4 (by decide)
theorem LC_HTS (c : Nat) : LC (vb c + 5) = shI 80 := LC_vj c 5 (by decide)
theorem LC_RUN (c : Nat) : LC (vb c + 6) = shO 1 [some (vb c + 7), none, none, some (vb c + 8), some (vb c + 9), none] := LC_vj c 6 (by decide)
theorem LC_RTOK (c : Nat) : LC (vb c + 7) = shI 80 := LC_vj c 7 (by decide)
theorem LC_RVARS (c : Nat) : LC (vb c + 8) = shI 4 := LC_vj c 8 (by decide)
theorem LC_ROUT (c : Nat) : LC (vb c + 9) = shI 80 := LC_vj c 9 (by decide)
theorem LC_ob {f : Nat} (h : f < 4) : LC (ob f) = shI 80 := by
  rcases (show f = 0 ∨ f = 1 ∨ f = 2 ∨ f = 3 by omega) with rfl | rfl | rfl | rfl <;> rfl
theorem kC_v0 {c : Nat} (hc : c < 16) : vb c < NC := by unfold vb NC; omega
theorem kC_v {c j : Nat} (hc : c < 16) (hj : j < 10) : vb c + j < NC := by unfold vb NC; omega
theorem kC_ob {f : Nat} (h : f < 4) : ob f < NC := by unfold ob NC; omega
def NM : Nat := 12
def lm0 : List Sh := [shO 6 [none, none, some 1, some 2, some 3, some 4, some 5, some 6, some 7, some 8, some 9, none, some 10, none, some 11], shI 80, shI 80, shI 320, shI 6400, shI 16, shI 16, shI 80, shI 1280, shI 81, shI 4, shI 80]
def LM : Nat → Sh := fun k => lm0.getD k (shI 0)
end
section
abbrev wsX0_isDigit : List Cond := Cond.code yX0_isDigit cX0_isDigit 1 (some .boolean) :: WG
def gX0_isDigit (a0 : Int32) : Int32 := if a0 < (48 : Int32) then ((0 : Int32)) else if (57 : Int32) < a0 then ((0 : Int32)) else (1 : Int32)
set_option maxHeartbeats 4000000 in
set_option maxRecDepth 100000 in
theorem bX0_isDigit {p : Program} {l : Launch} {e : Env} {R : Room} {s : State} {m : MethodId} {args : Array Value} {below : List Frame} {meth : Method} {c : Code} {H : Heap} {locs : List Loc} {Q : State → Prop} (a0 : Int32) {res : Int32} (hg : gX0_isDigit a0 = res) (CX : CallFix p m c cX0_isDigit 1 s args wsX0_isDigit RX0) (hR : 0 ≤ R.frames ∧ 0 ≤ R.locals) {ls : Array Slot} (hl : lv_has ls 1 [(0, .int a0)]) (hret : ∀ (pc : Nat) (ls : Array Slot) (v : Int32), v = res → decode cX0_isDigit pc = .ok (.ireturn, 1) → narrow .boolean (.int v) = .int v → W p l e R s m args below meth c H locs 0 0 Q (F0 m pc ls [.int v])) : W p l e R s m args below meth c H locs 0 0 Q (F0 m 0 ls []) := by
  obtain ⟨hx, hb, hml, hown, hts⟩ := id CX
  have hw : ∀ w ∈ WG, w.before args s = true := fun w h => hts w (List.mem_cons_of_mem _ h)
  unfold gX0_isDigit at hg
  refine lv_iload_n hx hb dX0_isDigit_0 rfl (lv_at hl 0 rfl) ?_
  refine lv_bipush (v := 48) hx hb dX0_isDigit_1 (by decide) ?_
  refine lv_icmp_lt (tgt := 16) hx hb dX0_isDigit_3 (by decide) (fun c1 => ?_) (fun c1 => ?_)
  · have hg := if_t hg c1
    refine lv_iconst (v := 0) hx hb dX0_isDigit_16 (by decide) ?_
    exact hret _ _ _ hg dX0_isDigit_17 rfl
  · have hg := if_f hg c1
    refine lv_iload_n hx hb dX0_isDigit_6 rfl (lv_at hl 0 rfl) ?_
    refine lv_bipush (v := 57) hx hb dX0_isDigit_7 (by decide) ?_
    refine lv_icmp_gt (tgt := 16) hx hb dX0_isDigit_9 (by decide) (fun c2 => ?_) (fun c2 => ?_)
    · have hg := if_t hg c2
      refine lv_iconst (v := 0) hx hb dX0_isDigit_16 (by decide) ?_
      exact hret _ _ _ hg dX0_isDigit_17 rfl
    · have hg := if_f hg c2
      refine lv_iconst (v := 1) hx hb dX0_isDigit_12 (by decide) ?_
      refine lv_goto (tgt := 17) hx hb dX0_isDigit_13 (by decide) ?_
      exact hret _ _ _ hg dX0_isDigit_17 rfl
theorem zX0_isDigit (a0 : Int32) : narrow .boolean (.int (gX0_isDigit a0)) = .int (gX0_isDigit a0) := by
  unfold gX0_isDigit
  repeat' (first | apply zif | rfl)
theorem ctX0_isDigit (l : Launch) (a0 : Int32) : Met l yX0_isDigit wsX0_isDigit ({ frames := 0, cells := 0, slots := 0, locals := 0 }) (va_Pc [.int a0] (fun _ => True)) (vp_Si (fun r' => r' = gX0_isDigit a0)) 0 0 (fun _ => False) :=
  met_p rfl rfl (Nat.le_of_ble_eq_true rfl) (fun p e s m args below meth c ls CX hr hlk hl => bX0_isDigit a0 rfl CX ⟨Nat.le_refl _, Nat.le_refl _⟩ hl (fun pc ls v hv dg hz => W.zret (ty := .boolean) CX.1 CX.2.1 hr hz (fun t ht hW => ⟨_, rfl, hv, ht⟩) (fun _ h => by cases h) dg))

abbrev wsX0_isName : List Cond := Cond.code yX0_isName cX0_isName 1 (some .boolean) :: WG
def gX0_isName (a0 : Int32) : Int32 := if a0 < (97 : Int32) then ((0 : Int32)) else if (100 : Int32) < a0 then ((0 : Int32)) else (1 : Int32)
set_option maxHeartbeats 4000000 in
set_option maxRecDepth 100000 in
theorem bX0_isName {p : Program} {l : Launch} {e : Env} {R : Room} {s : State} {m : MethodId} {args : Array Value} {below : List Frame} {meth : Method} {c : Code} {H : Heap} {locs : List Loc} {Q : State → Prop} (a0 : Int32) {res : Int32} (hg : gX0_isName a0 = res) (CX : CallFix p m c cX0_isName 1 s args wsX0_isName RX0) (hR : 0 ≤ R.frames ∧ 0 ≤ R.locals) {ls : Array Slot} (hl : lv_has ls 1 [(0, .int a0)]) (hret : ∀ (pc : Nat) (ls : Array Slot) (v : Int32), v = res → decode cX0_isName pc = .ok (.ireturn, 1) → narrow .boolean (.int v) = .int v → W p l e R s m args below meth c H locs 0 0 Q (F0 m pc ls [.int v])) : W p l e R s m args below meth c H locs 0 0 Q (F0 m 0 ls []) := by
  obtain ⟨hx, hb, hml, hown, hts⟩ := id CX
  have hw : ∀ w ∈ WG, w.before args s = true := fun w h => hts w (List.mem_cons_of_mem _ h)
  unfold gX0_isName at hg
  refine lv_iload_n hx hb dX0_isName_0 rfl (lv_at hl 0 rfl) ?_
  refine lv_bipush (v := 97) hx hb dX0_isName_1 (by decide) ?_
  refine lv_icmp_lt (tgt := 16) hx hb dX0_isName_3 (by decide) (fun c1 => ?_) (fun c1 => ?_)
  · have hg := if_t hg c1
    refine lv_iconst (v := 0) hx hb dX0_isName_16 (by decide) ?_
    exact hret _ _ _ hg dX0_isName_17 rfl
  · have hg := if_f hg c1
    refine lv_iload_n hx hb dX0_isName_6 rfl (lv_at hl 0 rfl) ?_
    refine lv_bipush (v := 100) hx hb dX0_isName_7 (by decide) ?_
    refine lv_icmp_gt (tgt := 16) hx hb dX0_isName_9 (by decide) (fun c2 => ?_) (fun c2 => ?_)
    · have hg := if_t hg c2
      refine lv_iconst (v := 0) hx hb dX0_isName_16 (by decide) ?_
      exact hret _ _ _ hg dX0_isName_17 rfl
    · have hg := if_f hg c2
      refine lv_iconst (v := 1) hx hb dX0_isName_12 (by decide) ?_
      refine lv_goto (tgt := 17) hx hb dX0_isName_13 (by decide) ?_
      exact hret _ _ _ hg dX0_isName_17 rfl
theorem zX0_isName (a0 : Int32) : narrow .boolean (.int (gX0_isName a0)) = .int (gX0_isName a0) := by
  unfold gX0_isName
  repeat' (first | apply zif | rfl)
theorem ctX0_isName (l : Launch) (a0 : Int32) : Met l yX0_isName wsX0_isName ({ frames := 0, cells := 0, slots := 0, locals := 0 }) (va_Pc [.int a0] (fun _ => True)) (vp_Si (fun r' => r' = gX0_isName a0)) 0 0 (fun _ => False) :=
  met_p rfl rfl (Nat.le_of_ble_eq_true rfl) (fun p e s m args below meth c ls CX hr hlk hl => bX0_isName a0 rfl CX ⟨Nat.le_refl _, Nat.le_refl _⟩ hl (fun pc ls v hv dg hz => W.zret (ty := .boolean) CX.1 CX.2.1 hr hz (fun t ht hW => ⟨_, rfl, hv, ht⟩) (fun _ h => by cases h) dg))

abbrev wsX0_isToken : List Cond := Cond.code yX0_isToken cX0_isToken 1 (some .boolean) :: WG
def gX0_isToken (a0 : Int32) : Int32 := if a0 = (33 : Int32) then ((1 : Int32)) else if a0 = (40 : Int32) then ((1 : Int32)) else if a0 = (41 : Int32) then ((1 : Int32)) else if a0 = (42 : Int32) then ((1 : Int32)) else if a0 = (43 : Int32) then ((1 : Int32)) else if a0 = (45 : Int32) then ((1 : Int32)) else if a0 = (58 : Int32) then ((1 : Int32)) else if a0 = (59 : Int32) then ((1 : Int32)) else if a0 = (61 : Int32) then ((1 : Int32)) else if a0 = (63 : Int32) then ((1 : Int32)) else if a0 = (123 : Int32) then ((1 : Int32)) else if a0 = (125 : Int32) then ((1 : Int32)) else if (gX0_isDigit a0) = 0 then (if (gX0_isName a0) = 0 then ((0 : Int32)) else (1 : Int32)) else (1 : Int32)
set_option maxHeartbeats 4000000 in
set_option maxRecDepth 100000 in
theorem bX0_isToken {p : Program} {l : Launch} {e : Env} {R : Room} {s : State} {m : MethodId} {args : Array Value} {below : List Frame} {meth : Method} {c : Code} {H : Heap} {locs : List Loc} {Q : State → Prop} (a0 : Int32) {res : Int32} (hg : gX0_isToken a0 = res) (CX : CallFix p m c cX0_isToken 1 s args wsX0_isToken RX0) (hR : 1 ≤ R.frames ∧ 20 ≤ R.locals) {ls : Array Slot} (hl : lv_has ls 1 [(0, .int a0)]) (hret : ∀ (pc : Nat) (ls : Array Slot) (v : Int32), v = res → decode cX0_isToken pc = .ok (.ireturn, 1) → narrow .boolean (.int v) = .int v → W p l e R s m args below meth c H locs 0 0 Q (F0 m pc ls [.int v])) : W p l e R s m args below meth c H locs 0 0 Q (F0 m 0 ls []) := by
  obtain ⟨hx, hb, hml, hown, hts⟩ := id CX
  have hw : ∀ w ∈ WG, w.before args s = true := fun w h => hts w (List.mem_cons_of_mem _ h)
  unfold gX0_isToken at hg
  refine lv_iload_n hx hb dX0_isToken_0 rfl (lv_at hl 0 rfl) ?_
  by_cases z1 : a0 = (33 : Int32)
  · have hg := if_t hg z1
    refine lv_lookup (off := 107) (tgt := 108) hx hb dX0_isToken_1 (by decide) (by rw [z1]; decide) (by decide) ?_
    refine lv_iconst (v := 1) hx hb dX0_isToken_108 (by decide) ?_
    exact hret _ _ _ hg dX0_isToken_109 rfl
  have hg := if_f hg z1
  by_cases z2 : a0 = (40 : Int32)
  · have hg := if_t hg z2
    refine lv_lookup (off := 107) (tgt := 108) hx hb dX0_isToken_1 (by decide) (by rw [z2]; decide) (by decide) ?_
    refine lv_iconst (v := 1) hx hb dX0_isToken_108 (by decide) ?_
    exact hret _ _ _ hg dX0_isToken_109 rfl
  have hg := if_f hg z2
  by_cases z3 : a0 = (41 : Int32)
  · have hg := if_t hg z3
    refine lv_lookup (off := 107) (tgt := 108) hx hb dX0_isToken_1 (by decide) (by rw [z3]; decide) (by decide) ?_
    refine lv_iconst (v := 1) hx hb dX0_isToken_108 (by decide) ?_
    exact hret _ _ _ hg dX0_isToken_109 rfl
  have hg := if_f hg z3
  by_cases z4 : a0 = (42 : Int32)
  · have hg := if_t hg z4
    refine lv_lookup (off := 107) (tgt := 108) hx hb dX0_isToken_1 (by decide) (by rw [z4]; decide) (by decide) ?_
    refine lv_iconst (v := 1) hx hb dX0_isToken_108 (by decide) ?_
    exact hret _ _ _ hg dX0_isToken_109 rfl
  have hg := if_f hg z4
  by_cases z5 : a0 = (43 : Int32)
  · have hg := if_t hg z5
    refine lv_lookup (off := 107) (tgt := 108) hx hb dX0_isToken_1 (by decide) (by rw [z5]; decide) (by decide) ?_
    refine lv_iconst (v := 1) hx hb dX0_isToken_108 (by decide) ?_
    exact hret _ _ _ hg dX0_isToken_109 rfl
  have hg := if_f hg z5
  by_cases z6 : a0 = (45 : Int32)
  · have hg := if_t hg z6
    refine lv_lookup (off := 107) (tgt := 108) hx hb dX0_isToken_1 (by decide) (by rw [z6]; decide) (by decide) ?_
    refine lv_iconst (v := 1) hx hb dX0_isToken_108 (by decide) ?_
    exact hret _ _ _ hg dX0_isToken_109 rfl
  have hg := if_f hg z6
  by_cases z7 : a0 = (58 : Int32)
  · have hg := if_t hg z7
    refine lv_lookup (off := 107) (tgt := 108) hx hb dX0_isToken_1 (by decide) (by rw [z7]; decide) (by decide) ?_
    refine lv_iconst (v := 1) hx hb dX0_isToken_108 (by decide) ?_
    exact hret _ _ _ hg dX0_isToken_109 rfl
  have hg := if_f hg z7
  by_cases z8 : a0 = (59 : Int32)
  · have hg := if_t hg z8
    refine lv_lookup (off := 107) (tgt := 108) hx hb dX0_isToken_1 (by decide) (by rw [z8]; decide) (by decide) ?_
    refine lv_iconst (v := 1) hx hb dX0_isToken_108 (by decide) ?_
    exact hret _ _ _ hg dX0_isToken_109 rfl
  have hg := if_f hg z8
  by_cases z9 : a0 = (61 : Int32)
  · have hg := if_t hg z9
    refine lv_lookup (off := 107) (tgt := 108) hx hb dX0_isToken_1 (by decide) (by rw [z9]; decide) (by decide) ?_
    refine lv_iconst (v := 1) hx hb dX0_isToken_108 (by decide) ?_
    exact hret _ _ _ hg dX0_isToken_109 rfl
  have hg := if_f hg z9
  by_cases z10 : a0 = (63 : Int32)
  · have hg := if_t hg z10
    refine lv_lookup (off := 107) (tgt := 108) hx hb dX0_isToken_1 (by decide) (by rw [z10]; decide) (by decide) ?_
    refine lv_iconst (v := 1) hx hb dX0_isToken_108 (by decide) ?_
    exact hret _ _ _ hg dX0_isToken_109 rfl
  have hg := if_f hg z10
  by_cases z11 : a0 = (123 : Int32)
  · have hg := if_t hg z11
    refine lv_lookup (off := 107) (tgt := 108) hx hb dX0_isToken_1 (by decide) (by rw [z11]; decide) (by decide) ?_
    refine lv_iconst (v := 1) hx hb dX0_isToken_108 (by decide) ?_
    exact hret _ _ _ hg dX0_isToken_109 rfl
  have hg := if_f hg z11
  by_cases z12 : a0 = (125 : Int32)
  · have hg := if_t hg z12
    refine lv_lookup (off := 107) (tgt := 108) hx hb dX0_isToken_1 (by decide) (by rw [z12]; decide) (by decide) ?_
    refine lv_iconst (v := 1) hx hb dX0_isToken_108 (by decide) ?_
    exact hret _ _ _ hg dX0_isToken_109 rfl
  have hg := if_f hg z12
  refine lv_lookup (off := 109) (tgt := 110) hx hb dX0_isToken_1 (by decide) (((((((((((((lv_osw z1 (by decide)).trans (lv_osw z2 (by decide))).trans (lv_osw z3 (by decide))).trans (lv_osw z4 (by decide))).trans (lv_osw z5 (by decide))).trans (lv_osw z6 (by decide))).trans (lv_osw z7 (by decide))).trans (lv_osw z8 (by decide))).trans (lv_osw z9 (by decide))).trans (lv_osw z10 (by decide))).trans (lv_osw z11 (by decide))).trans (lv_osw z12 (by decide))).trans rfl) (by decide) ?_
  refine lv_iload_n hx hb dX0_isToken_110 rfl (lv_at hl 0 rfl) ?_
  refine r_calli (W.runS (As := [.int a0]) (rest := []) CX (ctX0_isDigit l a0) (va_cwS 1 hts (gwS m1_236 m1_237 m1_8 m1_238) rfl rfl rfl (by decide +kernel) ⟨Nat.le_trans (Nat.le_of_ble_eq_true rfl) hR.1, Nat.le_trans (Nat.le_of_ble_eq_true rfl) hR.2⟩) (pPreS _) rfl rfl hl.1 rfl (lv_room (Nat.le_of_ble_eq_true rfl)) dX0_isToken_111 ⟨Nat.zero_le _, Nat.zero_le _⟩) ?_
  refine lv_if_ne (tgt := 124) hx hb dX0_isToken_114 (by decide) (fun c13 => ?_) (fun c13 => ?_)
  · have hg := if_f hg c13
    refine lv_iconst (v := 1) hx hb dX0_isToken_124 (by decide) ?_
    refine lv_goto (tgt := 129) hx hb dX0_isToken_125 (by decide) ?_
    exact hret _ _ _ hg dX0_isToken_129 rfl
  · have hg := if_t hg c13
    refine lv_iload_n hx hb dX0_isToken_117 rfl (lv_at hl 0 rfl) ?_
    refine r_calli (W.runS (As := [.int a0]) (rest := []) CX (ctX0_isName l a0) (va_cwS 1 hts (gwS m1_239 m2_0 m1_8 m2_1) rfl rfl rfl (by decide +kernel) ⟨Nat.le_trans (Nat.le_of_ble_eq_true rfl) hR.1, Nat.le_trans (Nat.le_of_ble_eq_true rfl) hR.2⟩) (pPreS _) rfl rfl hl.1 rfl (lv_room (Nat.le_of_ble_eq_true rfl)) dX0_isToken_118 ⟨Nat.zero_le _, Nat.zero_le _⟩) ?_
    refine lv_if_eq (tgt := 128) hx hb dX0_isToken_121 (by decide) (fun c14 => ?_) (fun c14 => ?_)
    · have hg := if_t hg c14
      refine lv_iconst (v := 0) hx hb dX0_isToken_128 (by decide) ?_
      exact hret _ _ _ hg dX0_isToken_129 rfl
    · have hg := if_f hg c14
      refine lv_iconst (v := 1) hx hb dX0_isToken_124 (by decide) ?_
      refine lv_goto (tgt := 129) hx hb dX0_isToken_125 (by decide) ?_
      exact hret _ _ _ hg dX0_isToken_129 rfl
theorem zX0_isToken (a0 : Int32) : narrow .boolean (.int (gX0_isToken a0)) = .int (gX0_isToken a0) := by
  unfold gX0_isToken
  repeat' (first | apply zif | rfl | apply zX0_isDigit | apply zX0_isName)
theorem ctX0_isToken (l : Launch) (a0 : Int32) : Met l yX0_isToken wsX0_isToken ({ frames := 1, cells := 0, slots := 0, locals := 20 }) (va_Pc [.int a0] (fun _ => True)) (vp_Si (fun r' => r' = gX0_isToken a0)) 0 0 (fun _ => False) :=
  met_p rfl rfl (Nat.le_of_ble_eq_true rfl) (fun p e s m args below meth c ls CX hr hlk hl => bX0_isToken a0 rfl CX ⟨Nat.le_refl _, Nat.le_refl _⟩ hl (fun pc ls v hv dg hz => W.zret (ty := .boolean) CX.1 CX.2.1 hr hz (fun t ht hW => ⟨_, rfl, hv, ht⟩) (fun _ h => by cases h) dg))

abbrev wsX0_isReplaced : List Cond := Cond.code yX0_isReplaced cX0_isReplaced 1 (some .boolean) :: WG
def gX0_isReplaced (a0 : Int32) : Int32 := if a0 < (65 : Int32) then ((0 : Int32)) else if (90 : Int32) < a0 then ((0 : Int32)) else (1 : Int32)
set_option maxHeartbeats 4000000 in
set_option maxRecDepth 100000 in
theorem bX0_isReplaced {p : Program} {l : Launch} {e : Env} {R : Room} {s : State} {m : MethodId} {args : Array Value} {below : List Frame} {meth : Method} {c : Code} {H : Heap} {locs : List Loc} {Q : State → Prop} (a0 : Int32) {res : Int32} (hg : gX0_isReplaced a0 = res) (CX : CallFix p m c cX0_isReplaced 1 s args wsX0_isReplaced RX0) (hR : 0 ≤ R.frames ∧ 0 ≤ R.locals) {ls : Array Slot} (hl : lv_has ls 1 [(0, .int a0)]) (hret : ∀ (pc : Nat) (ls : Array Slot) (v : Int32), v = res → decode cX0_isReplaced pc = .ok (.ireturn, 1) → narrow .boolean (.int v) = .int v → W p l e R s m args below meth c H locs 0 0 Q (F0 m pc ls [.int v])) : W p l e R s m args below meth c H locs 0 0 Q (F0 m 0 ls []) := by
  obtain ⟨hx, hb, hml, hown, hts⟩ := id CX
  have hw : ∀ w ∈ WG, w.before args s = true := fun w h => hts w (List.mem_cons_of_mem _ h)
  unfold gX0_isReplaced at hg
  refine lv_iload_n hx hb dX0_isReplaced_0 rfl (lv_at hl 0 rfl) ?_
  refine lv_bipush (v := 65) hx hb dX0_isReplaced_1 (by decide) ?_
  refine lv_icmp_lt (tgt := 16) hx hb dX0_isReplaced_3 (by decide) (fun c1 => ?_) (fun c1 => ?_)
  · have hg := if_t hg c1
    refine lv_iconst (v := 0) hx hb dX0_isReplaced_16 (by decide) ?_
    exact hret _ _ _ hg dX0_isReplaced_17 rfl
  · have hg := if_f hg c1
    refine lv_iload_n hx hb dX0_isReplaced_6 rfl (lv_at hl 0 rfl) ?_
    refine lv_bipush (v := 90) hx hb dX0_isReplaced_7 (by decide) ?_
    refine lv_icmp_gt (tgt := 16) hx hb dX0_isReplaced_9 (by decide) (fun c2 => ?_) (fun c2 => ?_)
    · have hg := if_t hg c2
      refine lv_iconst (v := 0) hx hb dX0_isReplaced_16 (by decide) ?_
      exact hret _ _ _ hg dX0_isReplaced_17 rfl
    · have hg := if_f hg c2
      refine lv_iconst (v := 1) hx hb dX0_isReplaced_12 (by decide) ?_
      refine lv_goto (tgt := 17) hx hb dX0_isReplaced_13 (by decide) ?_
      exact hret _ _ _ hg dX0_isReplaced_17 rfl
theorem zX0_isReplaced (a0 : Int32) : narrow .boolean (.int (gX0_isReplaced a0)) = .int (gX0_isReplaced a0) := by
  unfold gX0_isReplaced
  repeat' (first | apply zif | rfl)
theorem ctX0_isReplaced (l : Launch) (a0 : Int32) : Met l yX0_isReplaced wsX0_isReplaced ({ frames := 0, cells := 0, slots := 0, locals := 0 }) (va_Pc [.int a0] (fun _ => True)) (vp_Si (fun r' => r' = gX0_isReplaced a0)) 0 0 (fun _ => False) :=
  met_p rfl rfl (Nat.le_of_ble_eq_true rfl) (fun p e s m args below meth c ls CX hr hlk hl => bX0_isReplaced a0 rfl CX ⟨Nat.le_refl _, Nat.le_refl _⟩ hl (fun pc ls v hv dg hz => W.zret (ty := .boolean) CX.1 CX.2.1 hr hz (fun t ht hW => ⟨_, rfl, hv, ht⟩) (fun _ h => by cases h) dg))

abbrev wsX0_canBeginStatement : List Cond := Cond.code yX0_canBeginStatement cX0_canBeginStatement 1 (some .boolean) :: WG
def gX0_canBeginStatement (a0 : Int32) : Int32 := if a0 = (33 : Int32) then ((1 : Int32)) else if a0 = (63 : Int32) then ((1 : Int32)) else if a0 = (97 : Int32) then ((1 : Int32)) else if a0 = (98 : Int32) then ((1 : Int32)) else if a0 = (99 : Int32) then ((1 : Int32)) else if a0 = (100 : Int32) then ((1 : Int32)) else if a0 = (123 : Int32) then ((1 : Int32)) else (0 : Int32)
set_option maxHeartbeats 4000000 in
set_option maxRecDepth 100000 in
theorem bX0_canBeginStatement {p : Program} {l : Launch} {e : Env} {R : Room} {s : State} {m : MethodId} {args : Array Value} {below : List Frame} {meth : Method} {c : Code} {H : Heap} {locs : List Loc} {Q : State → Prop} (a0 : Int32) {res : Int32} (hg : gX0_canBeginStatement a0 = res) (CX : CallFix p m c cX0_canBeginStatement 1 s args wsX0_canBeginStatement RX0) (hR : 0 ≤ R.frames ∧ 0 ≤ R.locals) {ls : Array Slot} (hl : lv_has ls 1 [(0, .int a0)]) (hret : ∀ (pc : Nat) (ls : Array Slot) (v : Int32), v = res → decode cX0_canBeginStatement pc = .ok (.ireturn, 1) → narrow .boolean (.int v) = .int v → W p l e R s m args below meth c H locs 0 0 Q (F0 m pc ls [.int v])) : W p l e R s m args below meth c H locs 0 0 Q (F0 m 0 ls []) := by
  obtain ⟨hx, hb, hml, hown, hts⟩ := id CX
  have hw : ∀ w ∈ WG, w.before args s = true := fun w h => hts w (List.mem_cons_of_mem _ h)
  unfold gX0_canBeginStatement at hg
  refine lv_iload_n hx hb dX0_canBeginStatement_0 rfl (lv_at hl 0 rfl) ?_
  by_cases z1 : a0 = (33 : Int32)
  · have hg := if_t hg z1
    refine lv_lookup (off := 67) (tgt := 68) hx hb dX0_canBeginStatement_1 (by decide) (by rw [z1]; decide) (by decide) ?_
    refine lv_iconst (v := 1) hx hb dX0_canBeginStatement_68 (by decide) ?_
    exact hret _ _ _ hg dX0_canBeginStatement_69 rfl
  have hg := if_f hg z1
  by_cases z2 : a0 = (63 : Int32)
  · have hg := if_t hg z2
    refine lv_lookup (off := 67) (tgt := 68) hx hb dX0_canBeginStatement_1 (by decide) (by rw [z2]; decide) (by decide) ?_
    refine lv_iconst (v := 1) hx hb dX0_canBeginStatement_68 (by decide) ?_
    exact hret _ _ _ hg dX0_canBeginStatement_69 rfl
  have hg := if_f hg z2
  by_cases z3 : a0 = (97 : Int32)
  · have hg := if_t hg z3
    refine lv_lookup (off := 67) (tgt := 68) hx hb dX0_canBeginStatement_1 (by decide) (by rw [z3]; decide) (by decide) ?_
    refine lv_iconst (v := 1) hx hb dX0_canBeginStatement_68 (by decide) ?_
    exact hret _ _ _ hg dX0_canBeginStatement_69 rfl
  have hg := if_f hg z3
  by_cases z4 : a0 = (98 : Int32)
  · have hg := if_t hg z4
    refine lv_lookup (off := 67) (tgt := 68) hx hb dX0_canBeginStatement_1 (by decide) (by rw [z4]; decide) (by decide) ?_
    refine lv_iconst (v := 1) hx hb dX0_canBeginStatement_68 (by decide) ?_
    exact hret _ _ _ hg dX0_canBeginStatement_69 rfl
  have hg := if_f hg z4
  by_cases z5 : a0 = (99 : Int32)
  · have hg := if_t hg z5
    refine lv_lookup (off := 67) (tgt := 68) hx hb dX0_canBeginStatement_1 (by decide) (by rw [z5]; decide) (by decide) ?_
    refine lv_iconst (v := 1) hx hb dX0_canBeginStatement_68 (by decide) ?_
    exact hret _ _ _ hg dX0_canBeginStatement_69 rfl
  have hg := if_f hg z5
  by_cases z6 : a0 = (100 : Int32)
  · have hg := if_t hg z6
    refine lv_lookup (off := 67) (tgt := 68) hx hb dX0_canBeginStatement_1 (by decide) (by rw [z6]; decide) (by decide) ?_
    refine lv_iconst (v := 1) hx hb dX0_canBeginStatement_68 (by decide) ?_
    exact hret _ _ _ hg dX0_canBeginStatement_69 rfl
  have hg := if_f hg z6
  by_cases z7 : a0 = (123 : Int32)
  · have hg := if_t hg z7
    refine lv_lookup (off := 67) (tgt := 68) hx hb dX0_canBeginStatement_1 (by decide) (by rw [z7]; decide) (by decide) ?_
    refine lv_iconst (v := 1) hx hb dX0_canBeginStatement_68 (by decide) ?_
    exact hret _ _ _ hg dX0_canBeginStatement_69 rfl
  have hg := if_f hg z7
  refine lv_lookup (off := 69) (tgt := 70) hx hb dX0_canBeginStatement_1 (by decide) ((((((((lv_osw z1 (by decide)).trans (lv_osw z2 (by decide))).trans (lv_osw z3 (by decide))).trans (lv_osw z4 (by decide))).trans (lv_osw z5 (by decide))).trans (lv_osw z6 (by decide))).trans (lv_osw z7 (by decide))).trans rfl) (by decide) ?_
  refine lv_iconst (v := 0) hx hb dX0_canBeginStatement_70 (by decide) ?_
  exact hret _ _ _ hg dX0_canBeginStatement_71 rfl
theorem zX0_canBeginStatement (a0 : Int32) : narrow .boolean (.int (gX0_canBeginStatement a0)) = .int (gX0_canBeginStatement a0) := by
  unfold gX0_canBeginStatement
  repeat' (first | apply zif | rfl)
theorem ctX0_canBeginStatement (l : Launch) (a0 : Int32) : Met l yX0_canBeginStatement wsX0_canBeginStatement ({ frames := 0, cells := 0, slots := 0, locals := 0 }) (va_Pc [.int a0] (fun _ => True)) (vp_Si (fun r' => r' = gX0_canBeginStatement a0)) 0 0 (fun _ => False) :=
  met_p rfl rfl (Nat.le_of_ble_eq_true rfl) (fun p e s m args below meth c ls CX hr hlk hl => bX0_canBeginStatement a0 rfl CX ⟨Nat.le_refl _, Nat.le_refl _⟩ hl (fun pc ls v hv dg hz => W.zret (ty := .boolean) CX.1 CX.2.1 hr hz (fun t ht hW => ⟨_, rfl, hv, ht⟩) (fun _ h => by cases h) dg))

abbrev wsX4_codeOfWhen : List Cond := Cond.code yX4_codeOfWhen cX4_codeOfWhen 2 (some .int) :: WG
def gX4_codeOfWhen (a0 : Int32) (a1 : Int32) : Int32 := if a1 = 0 then ((((2 : Int32) * a0) + (0 : Int32))) else (((2 : Int32) * a0) + (1 : Int32))
set_option maxHeartbeats 4000000 in
set_option maxRecDepth 100000 in
theorem bX4_codeOfWhen {p : Program} {l : Launch} {e : Env} {R : Room} {s : State} {m : MethodId} {args : Array Value} {below : List Frame} {meth : Method} {c : Code} {H : Heap} {locs : List Loc} {Q : State → Prop} (a0 : Int32) (a1 : Int32) {res : Int32} (hg : gX4_codeOfWhen a0 a1 = res) (CX : CallFix p m c cX4_codeOfWhen 2 s args wsX4_codeOfWhen RX4) (hR : 0 ≤ R.frames ∧ 0 ≤ R.locals) {ls : Array Slot} (hl : lv_has ls 2 [(0, .int a0), (1, .int a1)]) (hret : ∀ (pc : Nat) (ls : Array Slot) (v : Int32), v = res → decode cX4_codeOfWhen pc = .ok (.ireturn, 1) → W p l e R s m args below meth c H locs 0 0 Q (F0 m pc ls [.int v])) : W p l e R s m args below meth c H locs 0 0 Q (F0 m 0 ls []) := by
  obtain ⟨hx, hb, hml, hown, hts⟩ := id CX
  have hw : ∀ w ∈ WG, w.before args s = true := fun w h => hts w (List.mem_cons_of_mem _ h)
  unfold gX4_codeOfWhen at hg
  refine lv_iconst (v := 2) hx hb dX4_codeOfWhen_0 (by decide) ?_
  refine lv_iload_n hx hb dX4_codeOfWhen_1 rfl (lv_at hl 0 rfl) ?_
  refine lv_imul hx hb dX4_codeOfWhen_2 ?_
  refine lv_iload_n hx hb dX4_codeOfWhen_3 rfl (lv_at hl 1 rfl) ?_
  refine lv_if_eq (tgt := 11) hx hb dX4_codeOfWhen_4 (by decide) (fun c1 => ?_) (fun c1 => ?_)
  · have hg := if_t hg c1
    refine lv_iconst (v := 0) hx hb dX4_codeOfWhen_11 (by decide) ?_
    refine lv_iadd hx hb dX4_codeOfWhen_12 ?_
    exact hret _ _ _ hg dX4_codeOfWhen_13
  · have hg := if_f hg c1
    refine lv_iconst (v := 1) hx hb dX4_codeOfWhen_7 (by decide) ?_
    refine lv_goto (tgt := 12) hx hb dX4_codeOfWhen_8 (by decide) ?_
    refine lv_iadd hx hb dX4_codeOfWhen_12 ?_
    exact hret _ _ _ hg dX4_codeOfWhen_13
theorem ctX4_codeOfWhen (l : Launch) (a0 : Int32) (a1 : Int32) : Met l yX4_codeOfWhen wsX4_codeOfWhen ({ frames := 0, cells := 0, slots := 0, locals := 0 }) (va_Pc [.int a0, .int a1] (fun _ => True)) (vp_Si (fun r' => r' = gX4_codeOfWhen a0 a1)) 0 0 (fun _ => False) :=
  met_p rfl rfl (Nat.le_of_ble_eq_true rfl) (fun p e s m args below meth c ls CX hr hlk hl => bX4_codeOfWhen a0 a1 rfl CX ⟨Nat.le_refl _, Nat.le_refl _⟩ hl (fun pc ls v hv dg => W.iret CX.1 CX.2.1 hr (fun t ht hW => ⟨_, rfl, hv, ht⟩) (fun _ h => by cases h) dg))

abbrev wsX4_codeOfSet : List Cond := Cond.code yX4_codeOfSet cX4_codeOfSet 2 (some .int) :: WG
def gX4_codeOfSet (a0 : Int32) (a1 : Int32) : Int32 := ((8 : Int32) + (gX4_codeOfWhen a0 a1))
set_option maxHeartbeats 4000000 in
set_option maxRecDepth 100000 in
theorem bX4_codeOfSet {p : Program} {l : Launch} {e : Env} {R : Room} {s : State} {m : MethodId} {args : Array Value} {below : List Frame} {meth : Method} {c : Code} {H : Heap} {locs : List Loc} {Q : State → Prop} (a0 : Int32) (a1 : Int32) {res : Int32} (hg : gX4_codeOfSet a0 a1 = res) (CX : CallFix p m c cX4_codeOfSet 2 s args wsX4_codeOfSet RX4) (hR : 1 ≤ R.frames ∧ 21 ≤ R.locals) {ls : Array Slot} (hl : lv_has ls 2 [(0, .int a0), (1, .int a1)]) (hret : ∀ (pc : Nat) (ls : Array Slot) (v : Int32), v = res → decode cX4_codeOfSet pc = .ok (.ireturn, 1) → W p l e R s m args below meth c H locs 0 0 Q (F0 m pc ls [.int v])) : W p l e R s m args below meth c H locs 0 0 Q (F0 m 0 ls []) := by
  obtain ⟨hx, hb, hml, hown, hts⟩ := id CX
  have hw : ∀ w ∈ WG, w.before args s = true := fun w h => hts w (List.mem_cons_of_mem _ h)
  unfold gX4_codeOfSet at hg
  refine lv_bipush (v := 8) hx hb dX4_codeOfSet_0 (by decide) ?_
  refine lv_iload_n hx hb dX4_codeOfSet_2 rfl (lv_at hl 0 rfl) ?_
  refine lv_iload_n hx hb dX4_codeOfSet_3 rfl (lv_at hl 1 rfl) ?_
  refine r_calli (W.runS (As := [.int a0, .int a1]) (rest := [.int (8 : Int32)]) CX (ctX4_codeOfWhen l a0 a1) (va_cwS 2 hts (gwS m3_144 m3_108 m1_2 m3_109) rfl rfl rfl (by decide +kernel) ⟨Nat.le_trans (Nat.le_of_ble_eq_true rfl) hR.1, Nat.le_trans (Nat.le_of_ble_eq_true rfl) hR.2⟩) (pPreS _) rfl rfl hl.1 rfl (lv_room (Nat.le_of_ble_eq_true rfl)) dX4_codeOfSet_4 ⟨Nat.zero_le _, Nat.zero_le _⟩) ?_
  refine lv_iadd hx hb dX4_codeOfSet_7 ?_
  exact hret _ _ _ hg dX4_codeOfSet_8
theorem ctX4_codeOfSet (l : Launch) (a0 : Int32) (a1 : Int32) : Met l yX4_codeOfSet wsX4_codeOfSet ({ frames := 1, cells := 0, slots := 0, locals := 21 }) (va_Pc [.int a0, .int a1] (fun _ => True)) (vp_Si (fun r' => r' = gX4_codeOfSet a0 a1)) 0 0 (fun _ => False) :=
  met_p rfl rfl (Nat.le_of_ble_eq_true rfl) (fun p e s m args below meth c ls CX hr hlk hl => bX4_codeOfSet a0 a1 rfl CX ⟨Nat.le_refl _, Nat.le_refl _⟩ hl (fun pc ls v hv dg => W.iret CX.1 CX.2.1 hr (fun t ht hW => ⟨_, rfl, hv, ht⟩) (fun _ h => by cases h) dg))

abbrev wsX4_isWhen : List Cond := Cond.code yX4_isWhen cX4_isWhen 1 (some .boolean) :: WG
def gX4_isWhen (a0 : Int32) : Int32 := if a0 < 0 then ((0 : Int32)) else if (8 : Int32) ≤ a0 then ((0 : Int32)) else (1 : Int32)
set_option maxHeartbeats 4000000 in
set_option maxRecDepth 100000 in
theorem bX4_isWhen {p : Program} {l : Launch} {e : Env} {R : Room} {s : State} {m : MethodId} {args : Array Value} {below : List Frame} {meth : Method} {c : Code} {H : Heap} {locs : List Loc} {Q : State → Prop} (a0 : Int32) {res : Int32} (hg : gX4_isWhen a0 = res) (CX : CallFix p m c cX4_isWhen 1 s args wsX4_isWhen RX4) (hR : 0 ≤ R.frames ∧ 0 ≤ R.locals) {ls : Array Slot} (hl : lv_has ls 1 [(0, .int a0)]) (hret : ∀ (pc : Nat) (ls : Array Slot) (v : Int32), v = res → decode cX4_isWhen pc = .ok (.ireturn, 1) → narrow .boolean (.int v) = .int v → W p l e R s m args below meth c H locs 0 0 Q (F0 m pc ls [.int v])) : W p l e R s m args below meth c H locs 0 0 Q (F0 m 0 ls []) := by
  obtain ⟨hx, hb, hml, hown, hts⟩ := id CX
  have hw : ∀ w ∈ WG, w.before args s = true := fun w h => hts w (List.mem_cons_of_mem _ h)
  unfold gX4_isWhen at hg
  refine lv_iload_n hx hb dX4_isWhen_0 rfl (lv_at hl 0 rfl) ?_
  refine lv_if_lt (tgt := 14) hx hb dX4_isWhen_1 (by decide) (fun c1 => ?_) (fun c1 => ?_)
  · have hg := if_t hg c1
    refine lv_iconst (v := 0) hx hb dX4_isWhen_14 (by decide) ?_
    exact hret _ _ _ hg dX4_isWhen_15 rfl
  · have hg := if_f hg c1
    refine lv_iload_n hx hb dX4_isWhen_4 rfl (lv_at hl 0 rfl) ?_
    refine lv_bipush (v := 8) hx hb dX4_isWhen_5 (by decide) ?_
    refine lv_icmp_ge (tgt := 14) hx hb dX4_isWhen_7 (by decide) (fun c2 => ?_) (fun c2 => ?_)
    · have hg := if_t hg c2
      refine lv_iconst (v := 0) hx hb dX4_isWhen_14 (by decide) ?_
      exact hret _ _ _ hg dX4_isWhen_15 rfl
    · have hg := if_f hg c2
      refine lv_iconst (v := 1) hx hb dX4_isWhen_10 (by decide) ?_
      refine lv_goto (tgt := 15) hx hb dX4_isWhen_11 (by decide) ?_
      exact hret _ _ _ hg dX4_isWhen_15 rfl
theorem zX4_isWhen (a0 : Int32) : narrow .boolean (.int (gX4_isWhen a0)) = .int (gX4_isWhen a0) := by
  unfold gX4_isWhen
  repeat' (first | apply zif | rfl)
theorem ctX4_isWhen (l : Launch) (a0 : Int32) : Met l yX4_isWhen wsX4_isWhen ({ frames := 0, cells := 0, slots := 0, locals := 0 }) (va_Pc [.int a0] (fun _ => True)) (vp_Si (fun r' => r' = gX4_isWhen a0)) 0 0 (fun _ => False) :=
  met_p rfl rfl (Nat.le_of_ble_eq_true rfl) (fun p e s m args below meth c ls CX hr hlk hl => bX4_isWhen a0 rfl CX ⟨Nat.le_refl _, Nat.le_refl _⟩ hl (fun pc ls v hv dg hz => W.zret (ty := .boolean) CX.1 CX.2.1 hr hz (fun t ht hW => ⟨_, rfl, hv, ht⟩) (fun _ h => by cases h) dg))

abbrev wsX4_isSet : List Cond := Cond.code yX4_isSet cX4_isSet 1 (some .boolean) :: WG
def gX4_isSet (a0 : Int32) : Int32 := if a0 < (8 : Int32) then ((0 : Int32)) else if (16 : Int32) ≤ a0 then ((0 : Int32)) else (1 : Int32)
set_option maxHeartbeats 4000000 in
set_option maxRecDepth 100000 in
theorem bX4_isSet {p : Program} {l : Launch} {e : Env} {R : Room} {s : State} {m : MethodId} {args : Array Value} {below : List Frame} {meth : Method} {c : Code} {H : Heap} {locs : List Loc} {Q : State → Prop} (a0 : Int32) {res : Int32} (hg : gX4_isSet a0 = res) (CX : CallFix p m c cX4_isSet 1 s args wsX4_isSet RX4) (hR : 0 ≤ R.frames ∧ 0 ≤ R.locals) {ls : Array Slot} (hl : lv_has ls 1 [(0, .int a0)]) (hret : ∀ (pc : Nat) (ls : Array Slot) (v : Int32), v = res → decode cX4_isSet pc = .ok (.ireturn, 1) → narrow .boolean (.int v) = .int v → W p l e R s m args below meth c H locs 0 0 Q (F0 m pc ls [.int v])) : W p l e R s m args below meth c H locs 0 0 Q (F0 m 0 ls []) := by
  obtain ⟨hx, hb, hml, hown, hts⟩ := id CX
  have hw : ∀ w ∈ WG, w.before args s = true := fun w h => hts w (List.mem_cons_of_mem _ h)
  unfold gX4_isSet at hg
  refine lv_iload_n hx hb dX4_isSet_0 rfl (lv_at hl 0 rfl) ?_
  refine lv_bipush (v := 8) hx hb dX4_isSet_1 (by decide) ?_
  refine lv_icmp_lt (tgt := 16) hx hb dX4_isSet_3 (by decide) (fun c1 => ?_) (fun c1 => ?_)
  · have hg := if_t hg c1
    refine lv_iconst (v := 0) hx hb dX4_isSet_16 (by decide) ?_
    exact hret _ _ _ hg dX4_isSet_17 rfl
  · have hg := if_f hg c1
    refine lv_iload_n hx hb dX4_isSet_6 rfl (lv_at hl 0 rfl) ?_
    refine lv_bipush (v := 16) hx hb dX4_isSet_7 (by decide) ?_
    refine lv_icmp_ge (tgt := 16) hx hb dX4_isSet_9 (by decide) (fun c2 => ?_) (fun c2 => ?_)
    · have hg := if_t hg c2
      refine lv_iconst (v := 0) hx hb dX4_isSet_16 (by decide) ?_
      exact hret _ _ _ hg dX4_isSet_17 rfl
    · have hg := if_f hg c2
      refine lv_iconst (v := 1) hx hb dX4_isSet_12 (by decide) ?_
      refine lv_goto (tgt := 17) hx hb dX4_isSet_13 (by decide) ?_
      exact hret _ _ _ hg dX4_isSet_17 rfl
theorem zX4_isSet (a0 : Int32) : narrow .boolean (.int (gX4_isSet a0)) = .int (gX4_isSet a0) := by
  unfold gX4_isSet
  repeat' (first | apply zif | rfl)
theorem ctX4_isSet (l : Launch) (a0 : Int32) : Met l yX4_isSet wsX4_isSet ({ frames := 0, cells := 0, slots := 0, locals := 0 }) (va_Pc [.int a0] (fun _ => True)) (vp_Si (fun r' => r' = gX4_isSet a0)) 0 0 (fun _ => False) :=
  met_p rfl rfl (Nat.le_of_ble_eq_true rfl) (fun p e s m args below meth c ls CX hr hlk hl => bX4_isSet a0 rfl CX ⟨Nat.le_refl _, Nat.le_refl _⟩ hl (fun pc ls v hv dg hz => W.zret (ty := .boolean) CX.1 CX.2.1 hr hz (fun t ht hW => ⟨_, rfl, hv, ht⟩) (fun _ h => by cases h) dg))

abbrev wsX4_featureOf : List Cond := Cond.code yX4_featureOf cX4_featureOf 1 (some .int) :: WG
def gX4_featureOf (a0 : Int32) : Int32 := ((a0 - a0 / (8 : Int32) * (8 : Int32)) / (2 : Int32))
set_option maxHeartbeats 4000000 in
set_option maxRecDepth 100000 in
theorem bX4_featureOf {p : Program} {l : Launch} {e : Env} {R : Room} {s : State} {m : MethodId} {args : Array Value} {below : List Frame} {meth : Method} {c : Code} {H : Heap} {locs : List Loc} {Q : State → Prop} (a0 : Int32) {res : Int32} (hg : gX4_featureOf a0 = res) (CX : CallFix p m c cX4_featureOf 1 s args wsX4_featureOf RX4) (hR : 0 ≤ R.frames ∧ 0 ≤ R.locals) {ls : Array Slot} (hl : lv_has ls 1 [(0, .int a0)]) (hret : ∀ (pc : Nat) (ls : Array Slot) (v : Int32), v = res → decode cX4_featureOf pc = .ok (.ireturn, 1) → W p l e R s m args below meth c H locs 0 0 Q (F0 m pc ls [.int v])) : W p l e R s m args below meth c H locs 0 0 Q (F0 m 0 ls []) := by
  obtain ⟨hx, hb, hml, hown, hts⟩ := id CX
  have hw : ∀ w ∈ WG, w.before args s = true := fun w h => hts w (List.mem_cons_of_mem _ h)
  unfold gX4_featureOf at hg
  refine lv_iload_n hx hb dX4_featureOf_0 rfl (lv_at hl 0 rfl) ?_
  refine lv_bipush (v := 8) hx hb dX4_featureOf_1 (by decide) ?_
  refine lv_irem hx hb dX4_featureOf_3 (by decide) ?_
  refine lv_iconst (v := 2) hx hb dX4_featureOf_4 (by decide) ?_
  refine lv_idiv hx hb dX4_featureOf_5 (by decide) ?_
  exact hret _ _ _ hg dX4_featureOf_6
theorem ctX4_featureOf (l : Launch) (a0 : Int32) : Met l yX4_featureOf wsX4_featureOf ({ frames := 0, cells := 0, slots := 0, locals := 0 }) (va_Pc [.int a0] (fun _ => True)) (vp_Si (fun r' => r' = gX4_featureOf a0)) 0 0 (fun _ => False) :=
  met_p rfl rfl (Nat.le_of_ble_eq_true rfl) (fun p e s m args below meth c ls CX hr hlk hl => bX4_featureOf a0 rfl CX ⟨Nat.le_refl _, Nat.le_refl _⟩ hl (fun pc ls v hv dg => W.iret CX.1 CX.2.1 hr (fun t ht hW => ⟨_, rfl, hv, ht⟩) (fun _ h => by cases h) dg))

abbrev wsX4_isForOn : List Cond := Cond.code yX4_isForOn cX4_isForOn 1 (some .boolean) :: WG
def gX4_isForOn (a0 : Int32) : Int32 := if (a0 - a0 / (2 : Int32) * (2 : Int32)) = (1 : Int32) then ((1 : Int32)) else (0 : Int32)
set_option maxHeartbeats 4000000 in
set_option maxRecDepth 100000 in
theorem bX4_isForOn {p : Program} {l : Launch} {e : Env} {R : Room} {s : State} {m : MethodId} {args : Array Value} {below : List Frame} {meth : Method} {c : Code} {H : Heap} {locs : List Loc} {Q : State → Prop} (a0 : Int32) {res : Int32} (hg : gX4_isForOn a0 = res) (CX : CallFix p m c cX4_isForOn 1 s args wsX4_isForOn RX4) (hR : 0 ≤ R.frames ∧ 0 ≤ R.locals) {ls : Array Slot} (hl : lv_has ls 1 [(0, .int a0)]) (hret : ∀ (pc : Nat) (ls : Array Slot) (v : Int32), v = res → decode cX4_isForOn pc = .ok (.ireturn, 1) → narrow .boolean (.int v) = .int v → W p l e R s m args below meth c H locs 0 0 Q (F0 m pc ls [.int v])) : W p l e R s m args below meth c H locs 0 0 Q (F0 m 0 ls []) := by
  obtain ⟨hx, hb, hml, hown, hts⟩ := id CX
  have hw : ∀ w ∈ WG, w.before args s = true := fun w h => hts w (List.mem_cons_of_mem _ h)
  unfold gX4_isForOn at hg
  refine lv_iload_n hx hb dX4_isForOn_0 rfl (lv_at hl 0 rfl) ?_
  refine lv_iconst (v := 2) hx hb dX4_isForOn_1 (by decide) ?_
  refine lv_irem hx hb dX4_isForOn_2 (by decide) ?_
  refine lv_iconst (v := 1) hx hb dX4_isForOn_3 (by decide) ?_
  refine lv_icmp_ne (tgt := 11) hx hb dX4_isForOn_4 (by decide) (fun c1 => ?_) (fun c1 => ?_)
  · have hg := if_f hg c1
    refine lv_iconst (v := 0) hx hb dX4_isForOn_11 (by decide) ?_
    exact hret _ _ _ hg dX4_isForOn_12 rfl
  · have hg := if_t hg c1
    refine lv_iconst (v := 1) hx hb dX4_isForOn_7 (by decide) ?_
    refine lv_goto (tgt := 12) hx hb dX4_isForOn_8 (by decide) ?_
    exact hret _ _ _ hg dX4_isForOn_12 rfl
theorem zX4_isForOn (a0 : Int32) : narrow .boolean (.int (gX4_isForOn a0)) = .int (gX4_isForOn a0) := by
  unfold gX4_isForOn
  repeat' (first | apply zif | rfl)
theorem ctX4_isForOn (l : Launch) (a0 : Int32) : Met l yX4_isForOn wsX4_isForOn ({ frames := 0, cells := 0, slots := 0, locals := 0 }) (va_Pc [.int a0] (fun _ => True)) (vp_Si (fun r' => r' = gX4_isForOn a0)) 0 0 (fun _ => False) :=
  met_p rfl rfl (Nat.le_of_ble_eq_true rfl) (fun p e s m args below meth c ls CX hr hlk hl => bX4_isForOn a0 rfl CX ⟨Nat.le_refl _, Nat.le_refl _⟩ hl (fun pc ls v hv dg hz => W.zret (ty := .boolean) CX.1 CX.2.1 hr hz (fun t ht hW => ⟨_, rfl, hv, ht⟩) (fun _ h => by cases h) dg))

abbrev wsX4_add : List Cond := Cond.code yX4_add cX4_add 2 none :: WG
def gX4_add (M : Mm) (a1 : Int32) : Option Mm := if (80 : Int32) ≤ (M 1 1) then (some M) else if ((M 1 1) < 0 ∨ 80 ≤ ((M 1 1)).toNatClampNeg) then none else lt (um M 2 ((M 1 1)).toNatClampNeg a1) fun M3 => lt (um M3 1 1 ((M3 1 1) + (1 : Int32))) fun M4 => some M4
set_option maxHeartbeats 4000000 in
set_option maxRecDepth 100000 in
theorem bX4_add {p : Program} {l : Launch} {e : Env} {R : Room} {s : State} {m : MethodId} {args : Array Value} {below : List Frame} {meth : Method} {c : Code} {H : Heap} {locs : List Loc} {Q : State → Prop} {D : va_G} {sw : Sw} {cs : Cs} {ad : Nat → Nat} {X : va_W} {A : Nat → Prop} (M : Mm) (a1 : Int32) {res : Option Mm} (hg : gX4_add M a1 = res) (hne : res ≠ none) (CX : CallFix p m c cX4_add 2 s args wsX4_add RX4) (hR : 0 ≤ R.frames ∧ 0 ≤ R.locals) (hK : va_K D vwCl (tysC cs) s) (hSW : SW sw A s s.heap) (hP : va_P D vwCl (wl cs LC NC ad M ++ X) H) (hD : va_D A (wl cs LC NC ad M ++ X)) (hS : va_S A s.heap H locs) (hA : ∀ q, s.heap.size ≤ q → A q) {ls : Array Slot} (hl : lv_has ls 2 [(0, .ref (ad 1)), (1, .int a1)]) (hret : ∀ (pc : Nat) (ls : Array Slot) (H : Heap) (locs : List Loc) (M9 : Mm), some M9 = res → decode cX4_add pc = .ok (.return_, 1) → va_P D vwCl (wl cs LC NC ad M9 ++ X) H → va_D A (wl cs LC NC ad M9 ++ X) → va_S A s.heap H locs → W p l e R s m args below meth c H locs 0 0 Q (F0 m pc ls [])) : W p l e R s m args below meth c H locs 0 0 Q (F0 m 0 ls []) := by
  obtain ⟨hx, hb, hml, hown, hts⟩ := id CX
  have hw : ∀ w ∈ WG, w.before args s = true := fun w h => hts w (List.mem_cons_of_mem _ h)
  have lk_19 := hw _ m1_42
  have lk_9 := hw _ m1_37
  unfold gX4_add at hg
  refine lv_aload_n hx hb dX4_add_0 rfl (lv_at hl 0 rfl) ?_
  refine m_gi (C := RX4) (T := TX4) (n := 2) (ci := 2) hx hb hts in_RX4 hown hK hP (by decide) rfl rfl 1 (by decide) rfl lk_19 (fun _ h9 => h9) dX4_add_1 ?_
  refine lv_bipush (v := 80) hx hb dX4_add_4 (by decide) ?_
  refine lv_icmp_ge (tgt := 29) hx hb dX4_add_6 (by decide) (fun c1 => ?_) (fun c1 => ?_)
  · have hg := if_t hg c1
    exact hret _ _ _ _ _ hg dX4_add_29 hP hD hS
  · have hg := if_f hg c1
    refine lv_aload_n hx hb dX4_add_9 rfl (lv_at hl 0 rfl) ?_
    refine m_gr (C := RX4) (T := TX4) (n := 2) (ci := 2) hx hb hts in_RX4 hown hK hP (by decide) rfl rfl 0 (by decide) rfl lk_9 (fun _ h9 => h9) dX4_add_10 ?_
    refine lv_aload_n hx hb dX4_add_13 rfl (lv_at hl 0 rfl) ?_
    refine m_gi (C := RX4) (T := TX4) (n := 2) (ci := 2) hx hb hts in_RX4 hown hK hP (by decide) rfl rfl 1 (by decide) rfl lk_19 (fun _ h9 => h9) dX4_add_14 ?_
    refine lv_iload_n hx hb dX4_add_17 rfl (lv_at hl 1 rfl) ?_
    obtain ⟨b2, hg⟩ := ck_e hg hne
    obtain ⟨M3, hM3, hg⟩ := lt_e hg
    refine m_st hx hb hK hP hD hS (by decide) rfl b2 dX4_add_18 hM3 (fun H locs hP hD hS => ?_)
    refine lv_aload_n hx hb dX4_add_19 rfl (lv_at hl 0 rfl) ?_
    refine lv_dup hx hb dX4_add_20 rfl ?_
    refine m_gi (C := RX4) (T := TX4) (n := 2) (ci := 2) hx hb hts in_RX4 hown hK hP (by decide) rfl rfl 1 (by decide) rfl lk_19 (fun _ h9 => h9) dX4_add_21 ?_
    refine lv_iconst (v := 1) hx hb dX4_add_24 (by decide) ?_
    refine lv_iadd hx hb dX4_add_25 ?_
    obtain ⟨M4, hM4, hg⟩ := lt_e hg
    refine m_pi (C := RX4) (T := TX4) (n := 2) (ci := 2) hx hb hts in_RX4 tyX4 tyX4_ok nmX4 hown hK hP hD hS (by decide) rfl rfl 1 (by decide) rfl lk_19 (fun _ h9 => h9) rfl rfl rfl dX4_add_26 hM4 (fun H locs hP hD hS => ?_)
    exact hret _ _ _ _ _ hg dX4_add_29 hP hD hS
theorem ctX4_add (l : Launch) (D : va_G) (sw : Sw) (cs : Cs) (ad : Nat → Nat) (X : va_W) (sz : Nat) (M : Mm) (a1 : Int32) {M1 : Mm} (hq : gX4_add M a1 = some M1) : Met l yX4_add wsX4_add ({ frames := 0, cells := 0, slots := 0, locals := 0 }) (va_Pc [.ref (ad 1), .int a1] (wPre D sw cs LC NC ad M X sz)) (wQv D cs LC NC ad M1 X sz) 0 0 (wA NC ad X sz) :=
  met_w rfl rfl (Nat.le_of_ble_eq_true rfl) (fun p e s m args below meth c ls CX hr hlk hK hSW hP hD hS hA hl => bX4_add M a1 hq (by simp) CX ⟨Nat.le_refl _, Nat.le_refl _⟩ hK hSW hP hD hS hA hl (fun pc ls H locs M9 hv dg hP hD hS => W.vret CX.1 CX.2.1 hr (fun t ht hW => ⟨⟨(), rfl, trivial, wpost hP ht (Option.some.inj hv)⟩, hS.F ht⟩) hS.2.2 dg))

abbrev wsX4_removeLast : List Cond := Cond.code yX4_removeLast cX4_removeLast 1 none :: WG
def gX4_removeLast (M : Mm) : Option Mm := if (M 1 1) ≤ 0 then (some M) else lt (um M 1 1 ((M 1 1) - (1 : Int32))) fun M2 => some M2
set_option maxHeartbeats 4000000 in
set_option maxRecDepth 100000 in
theorem bX4_removeLast {p : Program} {l : Launch} {e : Env} {R : Room} {s : State} {m : MethodId} {args : Array Value} {below : List Frame} {meth : Method} {c : Code} {H : Heap} {locs : List Loc} {Q : State → Prop} {D : va_G} {sw : Sw} {cs : Cs} {ad : Nat → Nat} {X : va_W} {A : Nat → Prop} (M : Mm) {res : Option Mm} (hg : gX4_removeLast M = res) (hne : res ≠ none) (CX : CallFix p m c cX4_removeLast 1 s args wsX4_removeLast RX4) (hR : 0 ≤ R.frames ∧ 0 ≤ R.locals) (hK : va_K D vwCl (tysC cs) s) (hSW : SW sw A s s.heap) (hP : va_P D vwCl (wl cs LC NC ad M ++ X) H) (hD : va_D A (wl cs LC NC ad M ++ X)) (hS : va_S A s.heap H locs) (hA : ∀ q, s.heap.size ≤ q → A q) {ls : Array Slot} (hl : lv_has ls 1 [(0, .ref (ad 1))]) (hret : ∀ (pc : Nat) (ls : Array Slot) (H : Heap) (locs : List Loc) (M9 : Mm), some M9 = res → decode cX4_removeLast pc = .ok (.return_, 1) → va_P D vwCl (wl cs LC NC ad M9 ++ X) H → va_D A (wl cs LC NC ad M9 ++ X) → va_S A s.heap H locs → W p l e R s m args below meth c H locs 0 0 Q (F0 m pc ls [])) : W p l e R s m args below meth c H locs 0 0 Q (F0 m 0 ls []) := by
  obtain ⟨hx, hb, hml, hown, hts⟩ := id CX
  have hw : ∀ w ∈ WG, w.before args s = true := fun w h => hts w (List.mem_cons_of_mem _ h)
  have lk_19 := hw _ m1_42
  unfold gX4_removeLast at hg
  refine lv_aload_n hx hb dX4_removeLast_0 rfl (lv_at hl 0 rfl) ?_
  refine m_gi (C := RX4) (T := TX4) (n := 2) (ci := 2) hx hb hts in_RX4 hown hK hP (by decide) rfl rfl 1 (by decide) rfl lk_19 (fun _ h9 => h9) dX4_removeLast_1 ?_
  refine lv_if_le (tgt := 17) hx hb dX4_removeLast_4 (by decide) (fun c1 => ?_) (fun c1 => ?_)
  · have hg := if_t hg c1
    exact hret _ _ _ _ _ hg dX4_removeLast_17 hP hD hS
  · have hg := if_f hg c1
    refine lv_aload_n hx hb dX4_removeLast_7 rfl (lv_at hl 0 rfl) ?_
    refine lv_dup hx hb dX4_removeLast_8 rfl ?_
    refine m_gi (C := RX4) (T := TX4) (n := 2) (ci := 2) hx hb hts in_RX4 hown hK hP (by decide) rfl rfl 1 (by decide) rfl lk_19 (fun _ h9 => h9) dX4_removeLast_9 ?_
    refine lv_iconst (v := 1) hx hb dX4_removeLast_12 (by decide) ?_
    refine lv_isub hx hb dX4_removeLast_13 ?_
    obtain ⟨M2, hM2, hg⟩ := lt_e hg
    refine m_pi (C := RX4) (T := TX4) (n := 2) (ci := 2) hx hb hts in_RX4 tyX4 tyX4_ok nmX4 hown hK hP hD hS (by decide) rfl rfl 1 (by decide) rfl lk_19 (fun _ h9 => h9) rfl rfl rfl dX4_removeLast_14 hM2 (fun H locs hP hD hS => ?_)
    exact hret _ _ _ _ _ hg dX4_removeLast_17 hP hD hS
theorem ctX4_removeLast (l : Launch) (D : va_G) (sw : Sw) (cs : Cs) (ad : Nat → Nat) (X : va_W) (sz : Nat) (M : Mm) {M1 : Mm} (hq : gX4_removeLast M = some M1) : Met l yX4_removeLast wsX4_removeLast ({ frames := 0, cells := 0, slots := 0, locals := 0 }) (va_Pc [.ref (ad 1)] (wPre D sw cs LC NC ad M X sz)) (wQv D cs LC NC ad M1 X sz) 0 0 (wA NC ad X sz) :=
  met_w rfl rfl (Nat.le_of_ble_eq_true rfl) (fun p e s m args below meth c ls CX hr hlk hK hSW hP hD hS hA hl => bX4_removeLast M hq (by simp) CX ⟨Nat.le_refl _, Nat.le_refl _⟩ hK hSW hP hD hS hA hl (fun pc ls H locs M9 hv dg hP hD hS => W.vret CX.1 CX.2.1 hr (fun t ht hW => ⟨⟨(), rfl, trivial, wpost hP ht (Option.some.inj hv)⟩, hS.F ht⟩) hS.2.2 dg))

abbrev wsX4_countUnfinished : List Cond := Cond.code yX4_countUnfinished cX4_countUnfinished 3 (some .int) :: WG
def gX4_countUnfinished_L4 (M : Mm) : Nat → Int32 → Int32 → Option Int32
  | 0, _, _ => none
  | n3 + 1, x1, x2 => if (M 1 1) ≤ x2 then (some x1) else if (x2 < 0 ∨ 80 ≤ (x2).toNatClampNeg) then none else if (gX4_isWhen (M 2 (x2).toNatClampNeg)) = 0 then (if (x2 < 0 ∨ 80 ≤ (x2).toNatClampNeg) then none else if (M 2 (x2).toNatClampNeg) = (17 : Int32) then (lt (x1 + (-1 : Int32)) fun x10 => lt (x2 + (1 : Int32)) fun x11 => gX4_countUnfinished_L4 M n3 x10 x11) else lt (x2 + (1 : Int32)) fun x9 => gX4_countUnfinished_L4 M n3 x1 x9) else lt (x1 + (1 : Int32)) fun x12 => lt (x2 + (1 : Int32)) fun x13 => gX4_countUnfinished_L4 M n3 x12 x13
def gX4_countUnfinished (M : Mm) : Option Int32 := gX4_countUnfinished_L4 M FU (0 : Int32) (0 : Int32)
set_option maxHeartbeats 4000000 in
set_option maxRecDepth 100000 in
theorem bX4_countUnfinished {p : Program} {l : Launch} {e : Env} {R : Room} {s : State} {m : MethodId} {args : Array Value} {below : List Frame} {meth : Method} {c : Code} {H : Heap} {locs : List Loc} {Q : State → Prop} {D : va_G} {sw : Sw} {cs : Cs} {ad : Nat → Nat} {X : va_W} (M : Mm) {res : Option Int32} (hg : gX4_countUnfinished M = res) (hne : res ≠ none) (CX : CallFix p m c cX4_countUnfinished 3 s args wsX4_countUnfinished RX4) (hR : 1 ≤ R.frames ∧ 20 ≤ R.locals) (hK : va_K D vwCl (tysC cs) s) (hSW : SW sw (fun _ => False) s H) (hP : va_P D vwCl (wl cs LC NC ad M ++ X) H) {ls : Array Slot} (hl : lv_has ls 3 [(0, .ref (ad 1))]) (hret : ∀ (pc : Nat) (ls : Array Slot) (v : Int32), some v = res → decode cX4_countUnfinished pc = .ok (.ireturn, 1) → W p l e R s m args below meth c H locs 0 0 Q (F0 m pc ls [.int v])) : W p l e R s m args below meth c H locs 0 0 Q (F0 m 0 ls []) := by
  obtain ⟨hx, hb, hml, hown, hts⟩ := id CX
  have hw : ∀ w ∈ WG, w.before args s = true := fun w h => hts w (List.mem_cons_of_mem _ h)
  have lk_19 := hw _ m1_42
  have lk_9 := hw _ m1_37
  unfold gX4_countUnfinished at hg
  refine lv_iconst (v := 0) hx hb dX4_countUnfinished_0 (by decide) ?_
  refine lv_istore_n (lv' := [(1, .int (0 : Int32)), (0, .ref (ad 1))]) hx hb dX4_countUnfinished_1 rfl hl (by decide) rfl (fun ls hl => ?_)
  refine lv_iconst (v := 0) hx hb dX4_countUnfinished_2 (by decide) ?_
  refine lv_istore_n (lv' := [(2, .int (0 : Int32)), (1, .int (0 : Int32)), (0, .ref (ad 1))]) hx hb dX4_countUnfinished_3 rfl hl (by decide) rfl (fun ls hl => ?_)
  have kL4_14 : ∀ (n3 : Nat) (x1 : Int32) (x2 : Int32) (ls : Array Slot), lv_has ls 3 [(0, .ref (ad 1)), (1, .int x1), (2, .int x2)] → gX4_countUnfinished_L4 M n3 x1 x2 = res → W p l e R s m args below meth c H locs 0 0 Q (F0 m 4 ls []) := by
    intro n3
    induction n3 with
    | zero =>
      intro x1 x2 ls hl hg
      rw [gX4_countUnfinished_L4] at hg
      exact absurd hg.symm hne
    | succ n3 ih =>
      intro x1 x2 ls hl hg
      rw [gX4_countUnfinished_L4] at hg
      refine lv_iload_n hx hb dX4_countUnfinished_4 rfl (lv_at hl 2 rfl) ?_
      refine lv_aload_n hx hb dX4_countUnfinished_5 rfl (lv_at hl 0 rfl) ?_
      refine m_gi (C := RX4) (T := TX4) (n := 2) (ci := 2) hx hb hts in_RX4 hown hK hP (by decide) rfl rfl 1 (by decide) rfl lk_19 (fun _ h9 => h9) dX4_countUnfinished_6 ?_
      refine lv_icmp_ge (tgt := 50) hx hb dX4_countUnfinished_9 (by decide) (fun c4 => ?_) (fun c4 => ?_)
      · have hg := if_t hg c4
        refine lv_iload_n hx hb dX4_countUnfinished_50 rfl (lv_at hl 1 rfl) ?_
        exact hret _ _ _ hg dX4_countUnfinished_51
      · have hg := if_f hg c4
        refine lv_aload_n hx hb dX4_countUnfinished_12 rfl (lv_at hl 0 rfl) ?_
        refine m_gr (C := RX4) (T := TX4) (n := 2) (ci := 2) hx hb hts in_RX4 hown hK hP (by decide) rfl rfl 0 (by decide) rfl lk_9 (fun _ h9 => h9) dX4_countUnfinished_13 ?_
        refine lv_iload_n hx hb dX4_countUnfinished_16 rfl (lv_at hl 2 rfl) ?_
        obtain ⟨b5, hg⟩ := ck_e hg hne
        refine m_ld hx hb hK hP (by decide) rfl b5 dX4_countUnfinished_17 ?_
        refine r_calli (W.runS (As := [.int (M 2 (x2).toNatClampNeg)]) (rest := []) CX (ctX4_isWhen l (M 2 (x2).toNatClampNeg)) (va_cwS 1 hts (gwS m1_189 m1_190 m1_2 m1_191) rfl rfl rfl (by decide +kernel) ⟨Nat.le_trans (Nat.le_of_ble_eq_true rfl) hR.1, Nat.le_trans (Nat.le_of_ble_eq_true rfl) hR.2⟩) (pPreS _) rfl rfl hl.1 rfl (lv_room (Nat.le_of_ble_eq_true rfl)) dX4_countUnfinished_18 ⟨Nat.zero_le _, Nat.zero_le _⟩) ?_
        refine lv_if_eq (tgt := 30) hx hb dX4_countUnfinished_21 (by decide) (fun c6 => ?_) (fun c6 => ?_)
        · have hg := if_t hg c6
          refine lv_aload_n hx hb dX4_countUnfinished_30 rfl (lv_at hl 0 rfl) ?_
          refine m_gr (C := RX4) (T := TX4) (n := 2) (ci := 2) hx hb hts in_RX4 hown hK hP (by decide) rfl rfl 0 (by decide) rfl lk_9 (fun _ h9 => h9) dX4_countUnfinished_31 ?_
          refine lv_iload_n hx hb dX4_countUnfinished_34 rfl (lv_at hl 2 rfl) ?_
          obtain ⟨b7, hg⟩ := ck_e hg hne
          refine m_ld hx hb hK hP (by decide) rfl b7 dX4_countUnfinished_35 ?_
          refine lv_bipush (v := 17) hx hb dX4_countUnfinished_36 (by decide) ?_
          refine lv_icmp_ne (tgt := 44) hx hb dX4_countUnfinished_38 (by decide) (fun c8 => ?_) (fun c8 => ?_)
          · have hg := if_f hg c8
            obtain ⟨x9, hx9, hg⟩ := lt_e hg
            refine lv_iinc (v := x9) (lv' := [(2, .int x9), (0, .ref (ad 1)), (1, .int x1)]) hx hb dX4_countUnfinished_44 hl (k := 2) rfl (hx9.symm) (by decide) rfl (fun ls hl => ?_)
            refine lv_goto (tgt := 4) hx hb dX4_countUnfinished_47 (by decide) ?_
            exact ih _ _ _ (lv_sub hl [1, 2, 0] rfl) hg
          · have hg := if_t hg c8
            obtain ⟨x10, hx10, hg⟩ := lt_e hg
            refine lv_iinc (v := x10) (lv' := [(1, .int x10), (0, .ref (ad 1)), (2, .int x2)]) hx hb dX4_countUnfinished_41 hl (k := 1) rfl (hx10.symm) (by decide) rfl (fun ls hl => ?_)
            obtain ⟨x11, hx11, hg⟩ := lt_e hg
            refine lv_iinc (v := x11) (lv' := [(2, .int x11), (1, .int x10), (0, .ref (ad 1))]) hx hb dX4_countUnfinished_44 hl (k := 2) rfl (hx11.symm) (by decide) rfl (fun ls hl => ?_)
            refine lv_goto (tgt := 4) hx hb dX4_countUnfinished_47 (by decide) ?_
            exact ih _ _ _ (lv_sub hl [2, 1, 0] rfl) hg
        · have hg := if_f hg c6
          obtain ⟨x12, hx12, hg⟩ := lt_e hg
          refine lv_iinc (v := x12) (lv' := [(1, .int x12), (0, .ref (ad 1)), (2, .int x2)]) hx hb dX4_countUnfinished_24 hl (k := 1) rfl (hx12.symm) (by decide) rfl (fun ls hl => ?_)
          refine lv_goto (tgt := 44) hx hb dX4_countUnfinished_27 (by decide) ?_
          obtain ⟨x13, hx13, hg⟩ := lt_e hg
          refine lv_iinc (v := x13) (lv' := [(2, .int x13), (1, .int x12), (0, .ref (ad 1))]) hx hb dX4_countUnfinished_44 hl (k := 2) rfl (hx13.symm) (by decide) rfl (fun ls hl => ?_)
          refine lv_goto (tgt := 4) hx hb dX4_countUnfinished_47 (by decide) ?_
          exact ih _ _ _ (lv_sub hl [2, 1, 0] rfl) hg
  exact kL4_14 FU _ _ _ (lv_sub hl [2, 1, 0] rfl) hg
theorem ctX4_countUnfinished (l : Launch) (D : va_G) (sw : Sw) (cs : Cs) (ad : Nat → Nat) (X : va_W) (M : Mm) {r : Int32} (hq : gX4_countUnfinished M = some r) : Met l yX4_countUnfinished wsX4_countUnfinished ({ frames := 1, cells := 0, slots := 0, locals := 20 }) (va_Pc [.ref (ad 1)] (rPre D sw cs LC NC ad M X)) (vp_Si (fun r' => r' = r)) 0 0 (fun _ => False) :=
  met_r rfl rfl (Nat.le_of_ble_eq_true rfl) (fun p e s m args below meth c ls CX hr hlk hK hSW hP hl => bX4_countUnfinished M hq (by simp) CX ⟨Nat.le_refl _, Nat.le_refl _⟩ hK hSW hP hl (fun pc ls v hv dg => W.iret CX.1 CX.2.1 hr (fun t ht hW => ⟨_, rfl, Option.some.inj hv, ht⟩) (fun _ h => by cases h) dg))

abbrev wsX4_lastUnfinishedHasOtherwise : List Cond := Cond.code yX4_lastUnfinishedHasOtherwise cX4_lastUnfinishedHasOtherwise 4 (some .boolean) :: WG
def gX4_lastUnfinishedHasOtherwise_L9 (M : Mm) (E2 : Int32 → Option Int32) : Nat → Int32 → Int32 → Option Int32
  | 0, _, _ => none
  | n6 + 1, x4, x5 => if x5 < 0 then (some (0 : Int32)) else if (x5 < 0 ∨ 80 ≤ (x5).toNatClampNeg) then none else if (M 2 (x5).toNatClampNeg) = (17 : Int32) then (lt (x4 + (1 : Int32)) fun x21 => lt (x5 + (-1 : Int32)) fun x22 => gX4_lastUnfinishedHasOtherwise_L9 M E2 n6 x21 x22) else if x4 = 0 then (if (M 2 (x5).toNatClampNeg) = (16 : Int32) then (E2 (M 2 (x5).toNatClampNeg)) else if (gX4_isWhen (M 2 (x5).toNatClampNeg)) = 0 then (if (gX4_isWhen (M 2 (x5).toNatClampNeg)) = 0 then (lt (x5 + (-1 : Int32)) fun x18 => gX4_lastUnfinishedHasOtherwise_L9 M E2 n6 x4 x18) else lt (x4 + (-1 : Int32)) fun x19 => lt (x5 + (-1 : Int32)) fun x20 => gX4_lastUnfinishedHasOtherwise_L9 M E2 n6 x19 x20) else E2 (M 2 (x5).toNatClampNeg)) else if (gX4_isWhen (M 2 (x5).toNatClampNeg)) = 0 then (lt (x5 + (-1 : Int32)) fun x12 => gX4_lastUnfinishedHasOtherwise_L9 M E2 n6 x4 x12) else lt (x4 + (-1 : Int32)) fun x13 => lt (x5 + (-1 : Int32)) fun x14 => gX4_lastUnfinishedHasOtherwise_L9 M E2 n6 x13 x14
def gX4_lastUnfinishedHasOtherwise (M : Mm) : Option Int32 := lt (fun (x1 : Int32) => if x1 = (16 : Int32) then (some (1 : Int32)) else some (0 : Int32)) fun E2 => gX4_lastUnfinishedHasOtherwise_L9 M E2 FU (0 : Int32) ((M 1 1) - (1 : Int32))
set_option maxHeartbeats 4000000 in
set_option maxRecDepth 100000 in
theorem bX4_lastUnfinishedHasOtherwise {p : Program} {l : Launch} {e : Env} {R : Room} {s : State} {m : MethodId} {args : Array Value} {below : List Frame} {meth : Method} {c : Code} {H : Heap} {locs : List Loc} {Q : State → Prop} {D : va_G} {sw : Sw} {cs : Cs} {ad : Nat → Nat} {X : va_W} (M : Mm) {res : Option Int32} (hg : gX4_lastUnfinishedHasOtherwise M = res) (hne : res ≠ none) (CX : CallFix p m c cX4_lastUnfinishedHasOtherwise 4 s args wsX4_lastUnfinishedHasOtherwise RX4) (hR : 1 ≤ R.frames ∧ 20 ≤ R.locals) (hK : va_K D vwCl (tysC cs) s) (hSW : SW sw (fun _ => False) s H) (hP : va_P D vwCl (wl cs LC NC ad M ++ X) H) {ls : Array Slot} (hl : lv_has ls 4 [(0, .ref (ad 1))]) (hret : ∀ (pc : Nat) (ls : Array Slot) (v : Int32), some v = res → decode cX4_lastUnfinishedHasOtherwise pc = .ok (.ireturn, 1) → narrow .boolean (.int v) = .int v → W p l e R s m args below meth c H locs 0 0 Q (F0 m pc ls [.int v])) : W p l e R s m args below meth c H locs 0 0 Q (F0 m 0 ls []) := by
  obtain ⟨hx, hb, hml, hown, hts⟩ := id CX
  have hw : ∀ w ∈ WG, w.before args s = true := fun w h => hts w (List.mem_cons_of_mem _ h)
  have lk_19 := hw _ m1_42
  have lk_9 := hw _ m1_37
  unfold gX4_lastUnfinishedHasOtherwise at hg
  refine lv_iconst (v := 0) hx hb dX4_lastUnfinishedHasOtherwise_0 (by decide) ?_
  refine lv_istore_n (lv' := [(1, .int (0 : Int32)), (0, .ref (ad 1))]) hx hb dX4_lastUnfinishedHasOtherwise_1 rfl hl (by decide) rfl (fun ls hl => ?_)
  refine lv_aload_n hx hb dX4_lastUnfinishedHasOtherwise_2 rfl (lv_at hl 1 rfl) ?_
  refine m_gi (C := RX4) (T := TX4) (n := 2) (ci := 2) hx hb hts in_RX4 hown hK hP (by decide) rfl rfl 1 (by decide) rfl lk_19 (fun _ h9 => h9) dX4_lastUnfinishedHasOtherwise_3 ?_
  refine lv_iconst (v := 1) hx hb dX4_lastUnfinishedHasOtherwise_6 (by decide) ?_
  refine lv_isub hx hb dX4_lastUnfinishedHasOtherwise_7 ?_
  refine lv_istore_n (lv' := [(2, .int ((M 1 1) - (1 : Int32))), (1, .int (0 : Int32)), (0, .ref (ad 1))]) hx hb dX4_lastUnfinishedHasOtherwise_8 rfl hl (by decide) rfl (fun ls hl => ?_)
  obtain ⟨E2, hE2, hg⟩ := lf1 hg
  have kE2 : ∀ (x1 : Int32) (ls : Array Slot), lv_has ls 4 [(3, .int x1)] → E2 x1 = res → W p l e R s m args below meth c H locs 0 0 Q (F0 m 49 ls []) := by
    intro x1 ls hl hg
    rw [hE2] at hg
    refine lv_iload_n hx hb dX4_lastUnfinishedHasOtherwise_49 rfl (lv_at hl 0 rfl) ?_
    refine lv_bipush (v := 16) hx hb dX4_lastUnfinishedHasOtherwise_50 (by decide) ?_
    refine lv_icmp_ne (tgt := 59) hx hb dX4_lastUnfinishedHasOtherwise_52 (by decide) (fun c3 => ?_) (fun c3 => ?_)
    · have hg := if_f hg c3
      refine lv_iconst (v := 0) hx hb dX4_lastUnfinishedHasOtherwise_59 (by decide) ?_
      exact hret _ _ _ hg dX4_lastUnfinishedHasOtherwise_60 rfl
    · have hg := if_t hg c3
      refine lv_iconst (v := 1) hx hb dX4_lastUnfinishedHasOtherwise_55 (by decide) ?_
      refine lv_goto (tgt := 60) hx hb dX4_lastUnfinishedHasOtherwise_56 (by decide) ?_
      exact hret _ _ _ hg dX4_lastUnfinishedHasOtherwise_60 rfl
  have kL9_23 : ∀ (n6 : Nat) (x4 : Int32) (x5 : Int32) (ls : Array Slot), lv_has ls 4 [(0, .ref (ad 1)), (1, .int x4), (2, .int x5)] → gX4_lastUnfinishedHasOtherwise_L9 M E2 n6 x4 x5 = res → W p l e R s m args below meth c H locs 0 0 Q (F0 m 9 ls []) := by
    intro n6
    induction n6 with
    | zero =>
      intro x4 x5 ls hl hg
      rw [gX4_lastUnfinishedHasOtherwise_L9] at hg
      exact absurd hg.symm hne
    | succ n6 ih =>
      intro x4 x5 ls hl hg
      rw [gX4_lastUnfinishedHasOtherwise_L9] at hg
      refine lv_iload_n hx hb dX4_lastUnfinishedHasOtherwise_9 rfl (lv_at hl 2 rfl) ?_
      refine lv_if_lt (tgt := 77) hx hb dX4_lastUnfinishedHasOtherwise_10 (by decide) (fun c7 => ?_) (fun c7 => ?_)
      · have hg := if_t hg c7
        refine lv_iconst (v := 0) hx hb dX4_lastUnfinishedHasOtherwise_77 (by decide) ?_
        exact hret _ _ _ hg dX4_lastUnfinishedHasOtherwise_78 rfl
      · have hg := if_f hg c7
        refine lv_aload_n hx hb dX4_lastUnfinishedHasOtherwise_13 rfl (lv_at hl 0 rfl) ?_
        refine m_gr (C := RX4) (T := TX4) (n := 2) (ci := 2) hx hb hts in_RX4 hown hK hP (by decide) rfl rfl 0 (by decide) rfl lk_9 (fun _ h9 => h9) dX4_lastUnfinishedHasOtherwise_14 ?_
        refine lv_iload_n hx hb dX4_lastUnfinishedHasOtherwise_17 rfl (lv_at hl 2 rfl) ?_
        obtain ⟨b8, hg⟩ := ck_e hg hne
        refine m_ld hx hb hK hP (by decide) rfl b8 dX4_lastUnfinishedHasOtherwise_18 ?_
        refine lv_istore_n (lv' := [(3, .int (M 2 (x5).toNatClampNeg)), (0, .ref (ad 1)), (1, .int x4), (2, .int x5)]) hx hb dX4_lastUnfinishedHasOtherwise_19 rfl hl (by decide) rfl (fun ls hl => ?_)
        refine lv_iload_n hx hb dX4_lastUnfinishedHasOtherwise_20 rfl (lv_at hl 0 rfl) ?_
        refine lv_bipush (v := 17) hx hb dX4_lastUnfinishedHasOtherwise_21 (by decide) ?_
        refine lv_icmp_ne (tgt := 32) hx hb dX4_lastUnfinishedHasOtherwise_23 (by decide) (fun c9 => ?_) (fun c9 => ?_)
        · have hg := if_f hg c9
          refine lv_iload_n hx hb dX4_lastUnfinishedHasOtherwise_32 rfl (lv_at hl 2 rfl) ?_
          refine lv_if_ne (tgt := 61) hx hb dX4_lastUnfinishedHasOtherwise_33 (by decide) (fun c10 => ?_) (fun c10 => ?_)
          · have hg := if_f hg c10
            refine lv_iload_n hx hb dX4_lastUnfinishedHasOtherwise_61 rfl (lv_at hl 0 rfl) ?_
            refine r_calli (W.runS (As := [.int (M 2 (x5).toNatClampNeg)]) (rest := []) CX (ctX4_isWhen l (M 2 (x5).toNatClampNeg)) (va_cwS 1 hts (gwS m1_189 m1_190 m1_2 m1_191) rfl rfl rfl (by decide +kernel) ⟨Nat.le_trans (Nat.le_of_ble_eq_true rfl) hR.1, Nat.le_trans (Nat.le_of_ble_eq_true rfl) hR.2⟩) (pPreS _) rfl rfl hl.1 rfl (lv_room (Nat.le_of_ble_eq_true rfl)) dX4_lastUnfinishedHasOtherwise_62 ⟨Nat.zero_le _, Nat.zero_le _⟩) ?_
            refine lv_if_eq (tgt := 71) hx hb dX4_lastUnfinishedHasOtherwise_65 (by decide) (fun c11 => ?_) (fun c11 => ?_)
            · have hg := if_t hg c11
              obtain ⟨x12, hx12, hg⟩ := lt_e hg
              refine lv_iinc (v := x12) (lv' := [(2, .int x12), (3, .int (M 2 (x5).toNatClampNeg)), (0, .ref (ad 1)), (1, .int x4)]) hx hb dX4_lastUnfinishedHasOtherwise_71 hl (k := 3) rfl (hx12.symm) (by decide) rfl (fun ls hl => ?_)
              refine lv_goto (tgt := 9) hx hb dX4_lastUnfinishedHasOtherwise_74 (by decide) ?_
              exact ih _ _ _ (lv_sub hl [2, 3, 0] rfl) hg
            · have hg := if_f hg c11
              obtain ⟨x13, hx13, hg⟩ := lt_e hg
              refine lv_iinc (v := x13) (lv' := [(1, .int x13), (3, .int (M 2 (x5).toNatClampNeg)), (0, .ref (ad 1)), (2, .int x5)]) hx hb dX4_lastUnfinishedHasOtherwise_68 hl (k := 2) rfl (hx13.symm) (by decide) rfl (fun ls hl => ?_)
              obtain ⟨x14, hx14, hg⟩ := lt_e hg
              refine lv_iinc (v := x14) (lv' := [(2, .int x14), (1, .int x13), (3, .int (M 2 (x5).toNatClampNeg)), (0, .ref (ad 1))]) hx hb dX4_lastUnfinishedHasOtherwise_71 hl (k := 3) rfl (hx14.symm) (by decide) rfl (fun ls hl => ?_)
              refine lv_goto (tgt := 9) hx hb dX4_lastUnfinishedHasOtherwise_74 (by decide) ?_
              exact ih _ _ _ (lv_sub hl [3, 1, 0] rfl) hg
          · have hg := if_t hg c10
            refine lv_iload_n hx hb dX4_lastUnfinishedHasOtherwise_36 rfl (lv_at hl 0 rfl) ?_
            refine lv_bipush (v := 16) hx hb dX4_lastUnfinishedHasOtherwise_37 (by decide) ?_
            refine lv_icmp_eq (tgt := 49) hx hb dX4_lastUnfinishedHasOtherwise_39 (by decide) (fun c15 => ?_) (fun c15 => ?_)
            · have hg := if_t hg c15
              exact kE2 _ _ (lv_sub hl [0] rfl) hg
            · have hg := if_f hg c15
              refine lv_iload_n hx hb dX4_lastUnfinishedHasOtherwise_42 rfl (lv_at hl 0 rfl) ?_
              refine r_calli (W.runS (As := [.int (M 2 (x5).toNatClampNeg)]) (rest := []) CX (ctX4_isWhen l (M 2 (x5).toNatClampNeg)) (va_cwS 1 hts (gwS m1_189 m1_190 m1_2 m1_191) rfl rfl rfl (by decide +kernel) ⟨Nat.le_trans (Nat.le_of_ble_eq_true rfl) hR.1, Nat.le_trans (Nat.le_of_ble_eq_true rfl) hR.2⟩) (pPreS _) rfl rfl hl.1 rfl (lv_room (Nat.le_of_ble_eq_true rfl)) dX4_lastUnfinishedHasOtherwise_43 ⟨Nat.zero_le _, Nat.zero_le _⟩) ?_
              refine lv_if_eq (tgt := 61) hx hb dX4_lastUnfinishedHasOtherwise_46 (by decide) (fun c16 => ?_) (fun c16 => ?_)
              · have hg := if_t hg c16
                refine lv_iload_n hx hb dX4_lastUnfinishedHasOtherwise_61 rfl (lv_at hl 0 rfl) ?_
                refine r_calli (W.runS (As := [.int (M 2 (x5).toNatClampNeg)]) (rest := []) CX (ctX4_isWhen l (M 2 (x5).toNatClampNeg)) (va_cwS 1 hts (gwS m1_189 m1_190 m1_2 m1_191) rfl rfl rfl (by decide +kernel) ⟨Nat.le_trans (Nat.le_of_ble_eq_true rfl) hR.1, Nat.le_trans (Nat.le_of_ble_eq_true rfl) hR.2⟩) (pPreS _) rfl rfl hl.1 rfl (lv_room (Nat.le_of_ble_eq_true rfl)) dX4_lastUnfinishedHasOtherwise_62 ⟨Nat.zero_le _, Nat.zero_le _⟩) ?_
                refine lv_if_eq (tgt := 71) hx hb dX4_lastUnfinishedHasOtherwise_65 (by decide) (fun c17 => ?_) (fun c17 => ?_)
                · have hg := if_t hg c17
                  obtain ⟨x18, hx18, hg⟩ := lt_e hg
                  refine lv_iinc (v := x18) (lv' := [(2, .int x18), (3, .int (M 2 (x5).toNatClampNeg)), (0, .ref (ad 1)), (1, .int x4)]) hx hb dX4_lastUnfinishedHasOtherwise_71 hl (k := 3) rfl (hx18.symm) (by decide) rfl (fun ls hl => ?_)
                  refine lv_goto (tgt := 9) hx hb dX4_lastUnfinishedHasOtherwise_74 (by decide) ?_
                  exact ih _ _ _ (lv_sub hl [2, 3, 0] rfl) hg
                · have hg := if_f hg c17
                  obtain ⟨x19, hx19, hg⟩ := lt_e hg
                  refine lv_iinc (v := x19) (lv' := [(1, .int x19), (3, .int (M 2 (x5).toNatClampNeg)), (0, .ref (ad 1)), (2, .int x5)]) hx hb dX4_lastUnfinishedHasOtherwise_68 hl (k := 2) rfl (hx19.symm) (by decide) rfl (fun ls hl => ?_)
                  obtain ⟨x20, hx20, hg⟩ := lt_e hg
                  refine lv_iinc (v := x20) (lv' := [(2, .int x20), (1, .int x19), (3, .int (M 2 (x5).toNatClampNeg)), (0, .ref (ad 1))]) hx hb dX4_lastUnfinishedHasOtherwise_71 hl (k := 3) rfl (hx20.symm) (by decide) rfl (fun ls hl => ?_)
                  refine lv_goto (tgt := 9) hx hb dX4_lastUnfinishedHasOtherwise_74 (by decide) ?_
                  exact ih _ _ _ (lv_sub hl [3, 1, 0] rfl) hg
              · have hg := if_f hg c16
                exact kE2 _ _ (lv_sub hl [0] rfl) hg
        · have hg := if_t hg c9
          obtain ⟨x21, hx21, hg⟩ := lt_e hg
          refine lv_iinc (v := x21) (lv' := [(1, .int x21), (3, .int (M 2 (x5).toNatClampNeg)), (0, .ref (ad 1)), (2, .int x5)]) hx hb dX4_lastUnfinishedHasOtherwise_26 hl (k := 2) rfl (hx21.symm) (by decide) rfl (fun ls hl => ?_)
          refine lv_goto (tgt := 71) hx hb dX4_lastUnfinishedHasOtherwise_29 (by decide) ?_
          obtain ⟨x22, hx22, hg⟩ := lt_e hg
          refine lv_iinc (v := x22) (lv' := [(2, .int x22), (1, .int x21), (3, .int (M 2 (x5).toNatClampNeg)), (0, .ref (ad 1))]) hx hb dX4_lastUnfinishedHasOtherwise_71 hl (k := 3) rfl (hx22.symm) (by decide) rfl (fun ls hl => ?_)
          refine lv_goto (tgt := 9) hx hb dX4_lastUnfinishedHasOtherwise_74 (by decide) ?_
          exact ih _ _ _ (lv_sub hl [3, 1, 0] rfl) hg
  exact kL9_23 FU _ _ _ (lv_sub hl [2, 1, 0] rfl) hg
theorem ctX4_lastUnfinishedHasOtherwise (l : Launch) (D : va_G) (sw : Sw) (cs : Cs) (ad : Nat → Nat) (X : va_W) (M : Mm) {r : Int32} (hq : gX4_lastUnfinishedHasOtherwise M = some r) : Met l yX4_lastUnfinishedHasOtherwise wsX4_lastUnfinishedHasOtherwise ({ frames := 1, cells := 0, slots := 0, locals := 20 }) (va_Pc [.ref (ad 1)] (rPre D sw cs LC NC ad M X)) (vp_Si (fun r' => r' = r)) 0 0 (fun _ => False) :=
  met_r rfl rfl (Nat.le_of_ble_eq_true rfl) (fun p e s m args below meth c ls CX hr hlk hK hSW hP hl => bX4_lastUnfinishedHasOtherwise M hq (by simp) CX ⟨Nat.le_refl _, Nat.le_refl _⟩ hK hSW hP hl (fun pc ls v hv dg hz => W.zret (ty := .boolean) CX.1 CX.2.1 hr hz (fun t ht hW => ⟨_, rfl, Option.some.inj hv, ht⟩) (fun _ h => by cases h) dg))

abbrev wsX2_areSame : List Cond := Cond.code yX2_areSame cX2_areSame 4 (some .boolean) :: WG
def gX2_areSame_L14 (M : Mm) : Nat → Nat → Nat → Nat → Nat → Int32 → Option Int32
  | 0, _, _, _, _, _ => none
  | n11 + 1, v2, v3, v6, v7, x10 => if x10 < 0 then (some (1 : Int32)) else if (x10 < 0 ∨ v3 ≤ (x10).toNatClampNeg) then none else if (x10 < 0 ∨ v7 ≤ (x10).toNatClampNeg) then none else if (M v2 (x10).toNatClampNeg) = (M v6 (x10).toNatClampNeg) then (lt (x10 + (-1 : Int32)) fun x16 => gX2_areSame_L14 M n11 v2 v3 v6 v7 x16) else some (0 : Int32)
def gX2_areSame (M : Mm) (k0 : Nat) (n0 : Nat) (k1 : Nat) (n1 : Nat) (a2 : Int32) : Option Int32 := lt ((if (if (nI n1) < (nI n0) then (nI n1) else (nI n0)) < a2 then (if (nI n1) < (nI n0) then (nI n1) else (nI n0)) else a2) - (1 : Int32)) fun x1 => gX2_areSame_L14 M FU k0 n0 k1 n1 x1
set_option maxHeartbeats 4000000 in
set_option maxRecDepth 100000 in
theorem bX2_areSame {p : Program} {l : Launch} {e : Env} {R : Room} {s : State} {m : MethodId} {args : Array Value} {below : List Frame} {meth : Method} {c : Code} {H : Heap} {locs : List Loc} {Q : State → Prop} {D : va_G} {sw : Sw} {cs : Cs} {ad : Nat → Nat} {X : va_W} (M : Mm) (k0 n0 : Nat) (hk0 : k0 < NC) (hn0 : LC k0 = shI n0) (k1 n1 : Nat) (hk1 : k1 < NC) (hn1 : LC k1 = shI n1) (a2 : Int32) {res : Option Int32} (hg : gX2_areSame M k0 n0 k1 n1 a2 = res) (hne : res ≠ none) (CX : CallFix p m c cX2_areSame 4 s args wsX2_areSame RX2) (hR : 1 ≤ R.frames ∧ 21 ≤ R.locals) (hK : va_K D vwCl (tysC cs) s) (hSW : SW sw (fun _ => False) s H) (hP : va_P D vwCl (wl cs LC NC ad M ++ X) H) {ls : Array Slot} (hl : lv_has ls 4 [(0, .ref (ad k0)), (1, .ref (ad k1)), (2, .int a2)]) (hret : ∀ (pc : Nat) (ls : Array Slot) (v : Int32), some v = res → decode cX2_areSame pc = .ok (.ireturn, 1) → narrow .boolean (.int v) = .int v → W p l e R s m args below meth c H locs 0 0 Q (F0 m pc ls [.int v])) : W p l e R s m args below meth c H locs 0 0 Q (F0 m 0 ls []) := by
  obtain ⟨hx, hb, hml, hown, hts⟩ := id CX
  have hw : ∀ w ∈ WG, w.before args s = true := fun w h => hts w (List.mem_cons_of_mem _ h)
  have lk_7 := hw _ m2_41
  have lm_smin : (Cond.static Lib.Math.min.name).before args s = true := hw _ m2_42
  have lm_i : (Cond.initialized "java/lang/Math").before args s = true := hw _ m1_16
  have lm_cmin : (Cond.code Lib.Math.min.name Lib.Math.min.code 2 (some .int)).before args s = true := hw _ m2_43
  unfold gX2_areSame at hg
  refine lv_iload_n hx hb dX2_areSame_0 rfl (lv_at hl 2 rfl) ?_
  refine lv_aload_n hx hb dX2_areSame_1 rfl (lv_at hl 0 rfl) ?_
  refine m_ln hx hb hK hP hk0 hn0 dX2_areSame_2 ?_
  refine lv_aload_n hx hb dX2_areSame_3 rfl (lv_at hl 1 rfl) ?_
  refine m_ln hx hb hK hP hk1 hn1 dX2_areSame_4 ?_
  refine va_mmin hx hb (hml.trans hl.1.symm) hown lk_7 lm_smin lm_i lm_cmin (Nat.le_trans (Nat.le_of_ble_eq_true rfl) hR.1) (Nat.le_trans (Nat.le_of_ble_eq_true rfl) hR.2) (Nat.zero_le _) (Nat.zero_le _) dX2_areSame_5 ?_
  refine va_mmin hx hb (hml.trans hl.1.symm) hown lk_7 lm_smin lm_i lm_cmin (Nat.le_trans (Nat.le_of_ble_eq_true rfl) hR.1) (Nat.le_trans (Nat.le_of_ble_eq_true rfl) hR.2) (Nat.zero_le _) (Nat.zero_le _) dX2_areSame_8 ?_
  refine lv_iconst (v := 1) hx hb dX2_areSame_11 (by decide) ?_
  refine lv_isub hx hb dX2_areSame_12 ?_
  obtain ⟨x1, hx1, hg⟩ := lt_e hg
  refine top_i hx1 ?_
  refine lv_istore_n (lv' := [(3, .int x1), (0, .ref (ad k0)), (1, .ref (ad k1)), (2, .int a2)]) hx hb dX2_areSame_13 rfl hl (by decide) rfl (fun ls hl => ?_)
  have kL14_17 : ∀ (n11 : Nat) (v2 : Nat) (v3 : Nat) (h4 : v2 < NC) (h5 : LC v2 = shI v3) (v6 : Nat) (v7 : Nat) (h8 : v6 < NC) (h9 : LC v6 = shI v7) (x10 : Int32) (ls : Array Slot), lv_has ls 4 [(0, .ref (ad v2)), (1, .ref (ad v6)), (3, .int x10)] → gX2_areSame_L14 M n11 v2 v3 v6 v7 x10 = res → W p l e R s m args below meth c H locs 0 0 Q (F0 m 14 ls []) := by
    intro n11
    induction n11 with
    | zero =>
      intro v2 v3 h4 h5 v6 v7 h8 h9 x10 ls hl hg
      rw [gX2_areSame_L14] at hg
      exact absurd hg.symm hne
    | succ n11 ih =>
      intro v2 v3 h4 h5 v6 v7 h8 h9 x10 ls hl hg
      rw [gX2_areSame_L14] at hg
      refine lv_iload_n hx hb dX2_areSame_14 rfl (lv_at hl 2 rfl) ?_
      refine lv_if_lt (tgt := 35) hx hb dX2_areSame_15 (by decide) (fun c12 => ?_) (fun c12 => ?_)
      · have hg := if_t hg c12
        refine lv_iconst (v := 1) hx hb dX2_areSame_35 (by decide) ?_
        exact hret _ _ _ hg dX2_areSame_36 rfl
      · have hg := if_f hg c12
        refine lv_aload_n hx hb dX2_areSame_18 rfl (lv_at hl 0 rfl) ?_
        refine lv_iload_n hx hb dX2_areSame_19 rfl (lv_at hl 2 rfl) ?_
        obtain ⟨b13, hg⟩ := ck_e hg hne
        refine m_ld hx hb hK hP h4 h5 b13 dX2_areSame_20 ?_
        refine lv_aload_n hx hb dX2_areSame_21 rfl (lv_at hl 1 rfl) ?_
        refine lv_iload_n hx hb dX2_areSame_22 rfl (lv_at hl 2 rfl) ?_
        obtain ⟨b14, hg⟩ := ck_e hg hne
        refine m_ld hx hb hK hP h8 h9 b14 dX2_areSame_23 ?_
        refine lv_icmp_eq (tgt := 29) hx hb dX2_areSame_24 (by decide) (fun c15 => ?_) (fun c15 => ?_)
        · have hg := if_t hg c15
          obtain ⟨x16, hx16, hg⟩ := lt_e hg
          refine lv_iinc (v := x16) (lv' := [(3, .int x16), (0, .ref (ad v2)), (1, .ref (ad v6))]) hx hb dX2_areSame_29 hl (k := 2) rfl (hx16.symm) (by decide) rfl (fun ls hl => ?_)
          refine lv_goto (tgt := 14) hx hb dX2_areSame_32 (by decide) ?_
          exact ih _ _ h4 h5 _ _ h8 h9 _ _ (lv_sub hl [1, 2, 0] rfl) hg
        · have hg := if_f hg c15
          refine lv_iconst (v := 0) hx hb dX2_areSame_27 (by decide) ?_
          exact hret _ _ _ hg dX2_areSame_28 rfl
  exact kL14_17 FU _ _ hk0 hn0 _ _ hk1 hn1 _ _ (lv_sub hl [1, 2, 0] rfl) hg
theorem ctX2_areSame (l : Launch) (D : va_G) (sw : Sw) (cs : Cs) (ad : Nat → Nat) (X : va_W) (M : Mm) (k0 n0 : Nat) (hk0 : k0 < NC) (hn0 : LC k0 = shI n0) (k1 n1 : Nat) (hk1 : k1 < NC) (hn1 : LC k1 = shI n1) (a2 : Int32) {r : Int32} (hq : gX2_areSame M k0 n0 k1 n1 a2 = some r) : Met l yX2_areSame wsX2_areSame ({ frames := 1, cells := 0, slots := 0, locals := 21 }) (va_Pc [.ref (ad k0), .ref (ad k1), .int a2] (rPre D sw cs LC NC ad M X)) (vp_Si (fun r' => r' = r)) 0 0 (fun _ => False) :=
  met_r rfl rfl (Nat.le_of_ble_eq_true rfl) (fun p e s m args below meth c ls CX hr hlk hK hSW hP hl => bX2_areSame M k0 n0 hk0 hn0 k1 n1 hk1 hn1 a2 hq (by simp) CX ⟨Nat.le_refl _, Nat.le_refl _⟩ hK hSW hP hl (fun pc ls v hv dg hz => W.zret (ty := .boolean) CX.1 CX.2.1 hr hz (fun t ht hW => ⟨_, rfl, Option.some.inj hv, ht⟩) (fun _ h => by cases h) dg))

abbrev wsX1_push : List Cond := Cond.code yX1_push cX1_push 2 none :: WG
def gX1_push (M : Mm) (v0 : Nat) (a1 : Int32) : Option Mm := if (320 : Int32) ≤ (M (vb v0 + 3) 1) then (some M) else if ((M (vb v0 + 3) 1) < 0 ∨ 320 ≤ ((M (vb v0 + 3) 1)).toNatClampNeg) then none else lt (um M (vb v0 + 4) ((M (vb v0 + 3) 1)).toNatClampNeg a1) fun M3 => lt (um M3 (vb v0 + 3) 1 ((M3 (vb v0 + 3) 1) + (1 : Int32))) fun M4 => some M4
set_option maxHeartbeats 4000000 in
set_option maxRecDepth 100000 in
theorem bX1_push {p : Program} {l : Launch} {e : Env} {R : Room} {s : State} {m : MethodId} {args : Array Value} {below : List Frame} {meth : Method} {c : Code} {H : Heap} {locs : List Loc} {Q : State → Prop} {D : va_G} {sw : Sw} {cs : Cs} {ad : Nat → Nat} {X : va_W} {A : Nat → Prop} (M : Mm) (v0 : Nat) (hv0 : v0 < 16) (a1 : Int32) {res : Option Mm} (hg : gX1_push M v0 a1 = res) (hne : res ≠ none) (CX : CallFix p m c cX1_push 2 s args wsX1_push RX1) (hR : 0 ≤ R.frames ∧ 0 ≤ R.locals) (hK : va_K D vwCl (tysC cs) s) (hSW : SW sw A s s.heap) (hP : va_P D vwCl (wl cs LC NC ad M ++ X) H) (hD : va_D A (wl cs LC NC ad M ++ X)) (hS : va_S A s.heap H locs) (hA : ∀ q, s.heap.size ≤ q → A q) {ls : Array Slot} (hl : lv_has ls 2 [(0, .ref (ad (vb v0 + 3))), (1, .int a1)]) (hret : ∀ (pc : Nat) (ls : Array Slot) (H : Heap) (locs : List Loc) (M9 : Mm), some M9 = res → decode cX1_push pc = .ok (.return_, 1) → va_P D vwCl (wl cs LC NC ad M9 ++ X) H → va_D A (wl cs LC NC ad M9 ++ X) → va_S A s.heap H locs → W p l e R s m args below meth c H locs 0 0 Q (F0 m pc ls [])) : W p l e R s m args below meth c H locs 0 0 Q (F0 m 0 ls []) := by
  obtain ⟨hx, hb, hml, hown, hts⟩ := id CX
  have hw : ∀ w ∈ WG, w.before args s = true := fun w h => hts w (List.mem_cons_of_mem _ h)
  have lk_18 := hw _ m1_95
  have lk_11 := hw _ m1_94
  unfold gX1_push at hg
  refine lv_aload_n hx hb dX1_push_0 rfl (lv_at hl 0 rfl) ?_
  refine m_gi (C := RX1) (T := TX1) (n := 5) (ci := 0) hx hb hts in_RX1 hown hK hP (kC_v (j := 3) hv0 (by decide)) (LC_RDG v0) rfl 1 (by decide) rfl lk_18 (fun _ h9 => h9) dX1_push_1 ?_
  refine lv_sipush (v := 320) hx hb dX1_push_4 (by decide) ?_
  refine lv_icmp_ge (tgt := 30) hx hb dX1_push_7 (by decide) (fun c1 => ?_) (fun c1 => ?_)
  · have hg := if_t hg c1
    exact hret _ _ _ _ _ hg dX1_push_30 hP hD hS
  · have hg := if_f hg c1
    refine lv_aload_n hx hb dX1_push_10 rfl (lv_at hl 0 rfl) ?_
    refine m_gr (C := RX1) (T := TX1) (n := 5) (ci := 0) hx hb hts in_RX1 hown hK hP (kC_v (j := 3) hv0 (by decide)) (LC_RDG v0) rfl 0 (by decide) rfl lk_11 (fun _ h9 => h9) dX1_push_11 ?_
    refine lv_aload_n hx hb dX1_push_14 rfl (lv_at hl 0 rfl) ?_
    refine m_gi (C := RX1) (T := TX1) (n := 5) (ci := 0) hx hb hts in_RX1 hown hK hP (kC_v (j := 3) hv0 (by decide)) (LC_RDG v0) rfl 1 (by decide) rfl lk_18 (fun _ h9 => h9) dX1_push_15 ?_
    refine lv_iload_n hx hb dX1_push_18 rfl (lv_at hl 1 rfl) ?_
    obtain ⟨b2, hg⟩ := ck_e hg hne
    obtain ⟨M3, hM3, hg⟩ := lt_e hg
    refine m_st hx hb hK hP hD hS (kC_v (j := 4) hv0 (by decide)) (LC_SYM v0) b2 dX1_push_19 hM3 (fun H locs hP hD hS => ?_)
    refine lv_aload_n hx hb dX1_push_20 rfl (lv_at hl 0 rfl) ?_
    refine lv_dup hx hb dX1_push_21 rfl ?_
    refine m_gi (C := RX1) (T := TX1) (n := 5) (ci := 0) hx hb hts in_RX1 hown hK hP (kC_v (j := 3) hv0 (by decide)) (LC_RDG v0) rfl 1 (by decide) rfl lk_18 (fun _ h9 => h9) dX1_push_22 ?_
    refine lv_iconst (v := 1) hx hb dX1_push_25 (by decide) ?_
    refine lv_iadd hx hb dX1_push_26 ?_
    obtain ⟨M4, hM4, hg⟩ := lt_e hg
    refine m_pi (C := RX1) (T := TX1) (n := 5) (ci := 0) hx hb hts in_RX1 tyX1 tyX1_ok nmX1 hown hK hP hD hS (kC_v (j := 3) hv0 (by decide)) (LC_RDG v0) rfl 1 (by decide) rfl lk_18 (fun _ h9 => h9) rfl rfl rfl dX1_push_27 hM4 (fun H locs hP hD hS => ?_)
    exact hret _ _ _ _ _ hg dX1_push_30 hP hD hS
theorem ctX1_push (l : Launch) (D : va_G) (sw : Sw) (cs : Cs) (ad : Nat → Nat) (X : va_W) (sz : Nat) (M : Mm) (v0 : Nat) (hv0 : v0 < 16) (a1 : Int32) {M1 : Mm} (hq : gX1_push M v0 a1 = some M1) : Met l yX1_push wsX1_push ({ frames := 0, cells := 0, slots := 0, locals := 0 }) (va_Pc [.ref (ad (vb v0 + 3)), .int a1] (wPre D sw cs LC NC ad M X sz)) (wQv D cs LC NC ad M1 X sz) 0 0 (wA NC ad X sz) :=
  met_w rfl rfl (Nat.le_of_ble_eq_true rfl) (fun p e s m args below meth c ls CX hr hlk hK hSW hP hD hS hA hl => bX1_push M v0 hv0 a1 hq (by simp) CX ⟨Nat.le_refl _, Nat.le_refl _⟩ hK hSW hP hD hS hA hl (fun pc ls H locs M9 hv dg hP hD hS => W.vret CX.1 CX.2.1 hr (fun t ht hW => ⟨⟨(), rfl, trivial, wpost hP ht (Option.some.inj hv)⟩, hS.F ht⟩) hS.2.2 dg))

abbrev wsX1_begin : List Cond := Cond.code yX1_begin cX1_begin 1 none :: WG
def gX1_begin (M : Mm) (v0 : Nat) : Option Mm := lt (um M (vb v0 + 3) 1 (0 : Int32)) fun M1 => bd (gX1_push M1 v0 (80 : Int32)) fun M3 => lt (um M3 (vb v0 + 3) 3 (0 : Int32)) fun M4 => lt (um M4 (vb v0 + 3) 4 (-1 : Int32)) fun M5 => some M5
set_option maxHeartbeats 4000000 in
set_option maxRecDepth 100000 in
theorem bX1_begin {p : Program} {l : Launch} {e : Env} {R : Room} {s : State} {m : MethodId} {args : Array Value} {below : List Frame} {meth : Method} {c : Code} {H : Heap} {locs : List Loc} {Q : State → Prop} {D : va_G} {sw : Sw} {cs : Cs} {ad : Nat → Nat} {X : va_W} {A : Nat → Prop} (M : Mm) (v0 : Nat) (hv0 : v0 < 16) {res : Option Mm} (hg : gX1_begin M v0 = res) (hne : res ≠ none) (CX : CallFix p m c cX1_begin 1 s args wsX1_begin RX1) (hR : 1 ≤ R.frames ∧ 21 ≤ R.locals) (hK : va_K D vwCl (tysC cs) s) (hSW : SW sw A s s.heap) (hP : va_P D vwCl (wl cs LC NC ad M ++ X) H) (hD : va_D A (wl cs LC NC ad M ++ X)) (hS : va_S A s.heap H locs) (hA : ∀ q, s.heap.size ≤ q → A q) {ls : Array Slot} (hl : lv_has ls 1 [(0, .ref (ad (vb v0 + 3)))]) (hret : ∀ (pc : Nat) (ls : Array Slot) (H : Heap) (locs : List Loc) (M9 : Mm), some M9 = res → decode cX1_begin pc = .ok (.return_, 1) → va_P D vwCl (wl cs LC NC ad M9 ++ X) H → va_D A (wl cs LC NC ad M9 ++ X) → va_S A s.heap H locs → W p l e R s m args below meth c H locs 0 0 Q (F0 m pc ls [])) : W p l e R s m args below meth c H locs 0 0 Q (F0 m 0 ls []) := by
  obtain ⟨hx, hb, hml, hown, hts⟩ := id CX
  have hw : ∀ w ∈ WG, w.before args s = true := fun w h => hts w (List.mem_cons_of_mem _ h)
  have lk_18 := hw _ m1_95
  have lk_28 := hw _ m1_97
  have lk_31 := hw _ m1_99
  unfold gX1_begin at hg
  refine lv_aload_n hx hb dX1_begin_0 rfl (lv_at hl 0 rfl) ?_
  refine lv_iconst (v := 0) hx hb dX1_begin_1 (by decide) ?_
  obtain ⟨M1, hM1, hg⟩ := lt_e hg
  refine m_pi (C := RX1) (T := TX1) (n := 5) (ci := 0) hx hb hts in_RX1 tyX1 tyX1_ok nmX1 hown hK hP hD hS (kC_v (j := 3) hv0 (by decide)) (LC_RDG v0) rfl 1 (by decide) rfl lk_18 (fun _ h9 => h9) rfl rfl rfl dX1_begin_2 hM1 (fun H locs hP hD hS => ?_)
  refine lv_aload_n hx hb dX1_begin_5 rfl (lv_at hl 0 rfl) ?_
  refine lv_bipush (v := 80) hx hb dX1_begin_6 (by decide) ?_
  obtain ⟨M3, q2, hg⟩ := bd_e hg hne
  refine w_callv (va_runV (As := [.int (80 : Int32)]) (rest := []) CX (ctX1_push l D sw cs ad X H.size M1 v0 hv0 (80 : Int32) q2) (cwV 1 hts (gwV m2_18 m2_20 mp1_6 m1_5 m2_21) rfl rfl rfl (by decide +kernel) ⟨Nat.le_trans (Nat.le_of_ble_eq_true rfl) hR.1, Nat.le_trans (Nat.le_of_ble_eq_true rfl) hR.2⟩) (wPreV hSW hS hA hK hP hD (kC_v (j := 3) hv0 (by decide)) (LC_RDG v0) rfl _) rfl rfl hl.1 rfl (lv_room (Nat.le_of_ble_eq_true rfl)) dX1_begin_8 ⟨Nat.zero_le _, Nat.zero_le _⟩) hD hS hA (fun H locs hP hD hS => ?_)
  refine lv_aload_n hx hb dX1_begin_11 rfl (lv_at hl 0 rfl) ?_
  refine lv_iconst (v := 0) hx hb dX1_begin_12 (by decide) ?_
  obtain ⟨M4, hM4, hg⟩ := lt_e hg
  refine m_pi (C := RX1) (T := TX1) (n := 5) (ci := 0) hx hb hts in_RX1 tyX1 tyX1_ok nmX1 hown hK hP hD hS (kC_v (j := 3) hv0 (by decide)) (LC_RDG v0) rfl 3 (by decide) rfl lk_28 (fun _ h9 => h9) rfl rfl rfl dX1_begin_13 hM4 (fun H locs hP hD hS => ?_)
  refine lv_aload_n hx hb dX1_begin_16 rfl (lv_at hl 0 rfl) ?_
  refine lv_iconst (v := -1) hx hb dX1_begin_17 (by decide) ?_
  obtain ⟨M5, hM5, hg⟩ := lt_e hg
  refine m_pi (C := RX1) (T := TX1) (n := 5) (ci := 0) hx hb hts in_RX1 tyX1 tyX1_ok nmX1 hown hK hP hD hS (kC_v (j := 3) hv0 (by decide)) (LC_RDG v0) rfl 4 (by decide) rfl lk_31 (fun _ h9 => h9) rfl rfl rfl dX1_begin_18 hM5 (fun H locs hP hD hS => ?_)
  exact hret _ _ _ _ _ hg dX1_begin_21 hP hD hS
theorem ctX1_begin (l : Launch) (D : va_G) (sw : Sw) (cs : Cs) (ad : Nat → Nat) (X : va_W) (sz : Nat) (M : Mm) (v0 : Nat) (hv0 : v0 < 16) {M1 : Mm} (hq : gX1_begin M v0 = some M1) : Met l yX1_begin wsX1_begin ({ frames := 1, cells := 0, slots := 0, locals := 21 }) (va_Pc [.ref (ad (vb v0 + 3))] (wPre D sw cs LC NC ad M X sz)) (wQv D cs LC NC ad M1 X sz) 0 0 (wA NC ad X sz) :=
  met_w rfl rfl (Nat.le_of_ble_eq_true rfl) (fun p e s m args below meth c ls CX hr hlk hK hSW hP hD hS hA hl => bX1_begin M v0 hv0 hq (by simp) CX ⟨Nat.le_refl _, Nat.le_refl _⟩ hK hSW hP hD hS hA hl (fun pc ls H locs M9 hv dg hP hD hS => W.vret CX.1 CX.2.1 hr (fun t ht hW => ⟨⟨(), rfl, trivial, wpost hP ht (Option.some.inj hv)⟩, hS.F ht⟩) hS.2.2 dg))

abbrev wsX1_heightAhead : List Cond := Cond.code yX1_heightAhead cX1_heightAhead 2 (some .int) :: WG
def gX1_heightAhead (M : Mm) (v0 : Nat) (a1 : Int32) : Option Int32 := if a1 < 0 then (some (-1 : Int32)) else if (M (vb v0 + 3) 3) ≤ a1 then (some (-1 : Int32)) else if (a1 < 0 ∨ 80 ≤ (a1).toNatClampNeg) then none else some (M (vb v0 + 5) (a1).toNatClampNeg)
set_option maxHeartbeats 4000000 in
set_option maxRecDepth 100000 in
theorem bX1_heightAhead {p : Program} {l : Launch} {e : Env} {R : Room} {s : State} {m : MethodId} {args : Array Value} {below : List Frame} {meth : Method} {c : Code} {H : Heap} {locs : List Loc} {Q : State → Prop} {D : va_G} {sw : Sw} {cs : Cs} {ad : Nat → Nat} {X : va_W} (M : Mm) (v0 : Nat) (hv0 : v0 < 16) (a1 : Int32) {res : Option Int32} (hg : gX1_heightAhead M v0 a1 = res) (hne : res ≠ none) (CX : CallFix p m c cX1_heightAhead 2 s args wsX1_heightAhead RX1) (hR : 0 ≤ R.frames ∧ 0 ≤ R.locals) (hK : va_K D vwCl (tysC cs) s) (hSW : SW sw (fun _ => False) s H) (hP : va_P D vwCl (wl cs LC NC ad M ++ X) H) {ls : Array Slot} (hl : lv_has ls 2 [(0, .ref (ad (vb v0 + 3))), (1, .int a1)]) (hret : ∀ (pc : Nat) (ls : Array Slot) (v : Int32), some v = res → decode cX1_heightAhead pc = .ok (.ireturn, 1) → W p l e R s m args below meth c H locs 0 0 Q (F0 m pc ls [.int v])) : W p l e R s m args below meth c H locs 0 0 Q (F0 m 0 ls []) := by
  obtain ⟨hx, hb, hml, hown, hts⟩ := id CX
  have hw : ∀ w ∈ WG, w.before args s = true := fun w h => hts w (List.mem_cons_of_mem _ h)
  have lk_28 := hw _ m1_97
  have lk_15 := hw _ m1_96
  unfold gX1_heightAhead at hg
  refine lv_iload_n hx hb dX1_heightAhead_0 rfl (lv_at hl 1 rfl) ?_
  refine lv_if_lt (tgt := 21) hx hb dX1_heightAhead_1 (by decide) (fun c1 => ?_) (fun c1 => ?_)
  · have hg := if_t hg c1
    refine lv_iconst (v := -1) hx hb dX1_heightAhead_21 (by decide) ?_
    exact hret _ _ _ hg dX1_heightAhead_22
  · have hg := if_f hg c1
    refine lv_iload_n hx hb dX1_heightAhead_4 rfl (lv_at hl 1 rfl) ?_
    refine lv_aload_n hx hb dX1_heightAhead_5 rfl (lv_at hl 0 rfl) ?_
    refine m_gi (C := RX1) (T := TX1) (n := 5) (ci := 0) hx hb hts in_RX1 hown hK hP (kC_v (j := 3) hv0 (by decide)) (LC_RDG v0) rfl 3 (by decide) rfl lk_28 (fun _ h9 => h9) dX1_heightAhead_6 ?_
    refine lv_icmp_ge (tgt := 21) hx hb dX1_heightAhead_9 (by decide) (fun c2 => ?_) (fun c2 => ?_)
    · have hg := if_t hg c2
      refine lv_iconst (v := -1) hx hb dX1_heightAhead_21 (by decide) ?_
      exact hret _ _ _ hg dX1_heightAhead_22
    · have hg := if_f hg c2
      refine lv_aload_n hx hb dX1_heightAhead_12 rfl (lv_at hl 0 rfl) ?_
      refine m_gr (C := RX1) (T := TX1) (n := 5) (ci := 0) hx hb hts in_RX1 hown hK hP (kC_v (j := 3) hv0 (by decide)) (LC_RDG v0) rfl 2 (by decide) rfl lk_15 (fun _ h9 => h9) dX1_heightAhead_13 ?_
      refine lv_iload_n hx hb dX1_heightAhead_16 rfl (lv_at hl 1 rfl) ?_
      obtain ⟨b3, hg⟩ := ck_e hg hne
      refine m_ld hx hb hK hP (kC_v (j := 5) hv0 (by decide)) (LC_HTS v0) b3 dX1_heightAhead_17 ?_
      refine lv_goto (tgt := 22) hx hb dX1_heightAhead_18 (by decide) ?_
      exact hret _ _ _ hg dX1_heightAhead_22
theorem ctX1_heightAhead (l : Launch) (D : va_G) (sw : Sw) (cs : Cs) (ad : Nat → Nat) (X : va_W) (M : Mm) (v0 : Nat) (hv0 : v0 < 16) (a1 : Int32) {r : Int32} (hq : gX1_heightAhead M v0 a1 = some r) : Met l yX1_heightAhead wsX1_heightAhead ({ frames := 0, cells := 0, slots := 0, locals := 0 }) (va_Pc [.ref (ad (vb v0 + 3)), .int a1] (rPre D sw cs LC NC ad M X)) (vp_Si (fun r' => r' = r)) 0 0 (fun _ => False) :=
  met_r rfl rfl (Nat.le_of_ble_eq_true rfl) (fun p e s m args below meth c ls CX hr hlk hK hSW hP hl => bX1_heightAhead M v0 hv0 a1 hq (by simp) CX ⟨Nat.le_refl _, Nat.le_refl _⟩ hK hSW hP hl (fun pc ls v hv dg => W.iret CX.1 CX.2.1 hr (fun t ht hW => ⟨_, rfl, Option.some.inj hv, ht⟩) (fun _ h => by cases h) dg))

abbrev wsX1_hasSameStack : List Cond := Cond.code yX1_hasSameStack cX1_hasSameStack 2 (some .boolean) :: WG
def gX1_hasSameStack (M : Mm) (v0 : Nat) (v1 : Nat) : Option Int32 := if (M (vb v0 + 3) 1) = (M (vb v1 + 3) 1) then (bd (gX2_areSame M (vb v0 + 4) 320 (vb v1 + 4) 320 (M (vb v0 + 3) 1)) fun r2 => if r2 = 0 then (some (0 : Int32)) else some (1 : Int32)) else some (0 : Int32)
set_option maxHeartbeats 4000000 in
set_option maxRecDepth 100000 in
theorem bX1_hasSameStack {p : Program} {l : Launch} {e : Env} {R : Room} {s : State} {m : MethodId} {args : Array Value} {below : List Frame} {meth : Method} {c : Code} {H : Heap} {locs : List Loc} {Q : State → Prop} {D : va_G} {sw : Sw} {cs : Cs} {ad : Nat → Nat} {X : va_W} (M : Mm) (v0 : Nat) (hv0 : v0 < 16) (v1 : Nat) (hv1 : v1 < 16) {res : Option Int32} (hg : gX1_hasSameStack M v0 v1 = res) (hne : res ≠ none) (CX : CallFix p m c cX1_hasSameStack 2 s args wsX1_hasSameStack RX1) (hR : 2 ≤ R.frames ∧ 44 ≤ R.locals) (hK : va_K D vwCl (tysC cs) s) (hSW : SW sw (fun _ => False) s H) (hP : va_P D vwCl (wl cs LC NC ad M ++ X) H) {ls : Array Slot} (hl : lv_has ls 2 [(0, .ref (ad (vb v0 + 3))), (1, .ref (ad (vb v1 + 3)))]) (hret : ∀ (pc : Nat) (ls : Array Slot) (v : Int32), some v = res → decode cX1_hasSameStack pc = .ok (.ireturn, 1) → narrow .boolean (.int v) = .int v → W p l e R s m args below meth c H locs 0 0 Q (F0 m pc ls [.int v])) : W p l e R s m args below meth c H locs 0 0 Q (F0 m 0 ls []) := by
  obtain ⟨hx, hb, hml, hown, hts⟩ := id CX
  have hw : ∀ w ∈ WG, w.before args s = true := fun w h => hts w (List.mem_cons_of_mem _ h)
  have lk_18 := hw _ m1_95
  have lk_11 := hw _ m1_94
  unfold gX1_hasSameStack at hg
  refine lv_aload_n hx hb dX1_hasSameStack_0 rfl (lv_at hl 0 rfl) ?_
  refine m_gi (C := RX1) (T := TX1) (n := 5) (ci := 0) hx hb hts in_RX1 hown hK hP (kC_v (j := 3) hv0 (by decide)) (LC_RDG v0) rfl 1 (by decide) rfl lk_18 (fun _ h9 => h9) dX1_hasSameStack_1 ?_
  refine lv_aload_n hx hb dX1_hasSameStack_4 rfl (lv_at hl 1 rfl) ?_
  refine m_gi (C := RX1) (T := TX1) (n := 5) (ci := 0) hx hb hts in_RX1 hown hK hP (kC_v (j := 3) hv1 (by decide)) (LC_RDG v1) rfl 1 (by decide) rfl lk_18 (fun _ h9 => h9) dX1_hasSameStack_5 ?_
  refine lv_icmp_ne (tgt := 33) hx hb dX1_hasSameStack_8 (by decide) (fun c1 => ?_) (fun c1 => ?_)
  · have hg := if_f hg c1
    refine lv_iconst (v := 0) hx hb dX1_hasSameStack_33 (by decide) ?_
    exact hret _ _ _ hg dX1_hasSameStack_34 rfl
  · have hg := if_t hg c1
    refine lv_aload_n hx hb dX1_hasSameStack_11 rfl (lv_at hl 0 rfl) ?_
    refine m_gr (C := RX1) (T := TX1) (n := 5) (ci := 0) hx hb hts in_RX1 hown hK hP (kC_v (j := 3) hv0 (by decide)) (LC_RDG v0) rfl 0 (by decide) rfl lk_11 (fun _ h9 => h9) dX1_hasSameStack_12 ?_
    refine lv_aload_n hx hb dX1_hasSameStack_15 rfl (lv_at hl 1 rfl) ?_
    refine m_gr (C := RX1) (T := TX1) (n := 5) (ci := 0) hx hb hts in_RX1 hown hK hP (kC_v (j := 3) hv1 (by decide)) (LC_RDG v1) rfl 0 (by decide) rfl lk_11 (fun _ h9 => h9) dX1_hasSameStack_16 ?_
    refine lv_aload_n hx hb dX1_hasSameStack_19 rfl (lv_at hl 0 rfl) ?_
    refine m_gi (C := RX1) (T := TX1) (n := 5) (ci := 0) hx hb hts in_RX1 hown hK hP (kC_v (j := 3) hv0 (by decide)) (LC_RDG v0) rfl 1 (by decide) rfl lk_18 (fun _ h9 => h9) dX1_hasSameStack_20 ?_
    obtain ⟨r2, q3, hg⟩ := bd_e hg hne
    refine r_calli (W.runS (As := [.ref (ad (vb v0 + 4)), .ref (ad (vb v1 + 4)), .int (M (vb v0 + 3) 1)]) (rest := []) CX (ctX2_areSame l D sw cs ad X M (vb v0 + 4) 320 (kC_v (j := 4) hv0 (by decide)) (LC_SYM v0) (vb v1 + 4) 320 (kC_v (j := 4) hv1 (by decide)) (LC_SYM v1) (M (vb v0 + 3) 1) q3) (va_cwS 3 hts (gwS m2_38 m2_39 m1_21 m2_40) rfl rfl rfl (by decide +kernel) ⟨Nat.le_trans (Nat.le_of_ble_eq_true rfl) hR.1, Nat.le_trans (Nat.le_of_ble_eq_true rfl) hR.2⟩) (rPreS hSW hK hP _) rfl rfl hl.1 rfl (lv_room (Nat.le_of_ble_eq_true rfl)) dX1_hasSameStack_23 ⟨Nat.zero_le _, Nat.zero_le _⟩) ?_
    refine lv_if_eq (tgt := 33) hx hb dX1_hasSameStack_26 (by decide) (fun c4 => ?_) (fun c4 => ?_)
    · have hg := if_t hg c4
      refine lv_iconst (v := 0) hx hb dX1_hasSameStack_33 (by decide) ?_
      exact hret _ _ _ hg dX1_hasSameStack_34 rfl
    · have hg := if_f hg c4
      refine lv_iconst (v := 1) hx hb dX1_hasSameStack_29 (by decide) ?_
      refine lv_goto (tgt := 34) hx hb dX1_hasSameStack_30 (by decide) ?_
      exact hret _ _ _ hg dX1_hasSameStack_34 rfl
theorem ctX1_hasSameStack (l : Launch) (D : va_G) (sw : Sw) (cs : Cs) (ad : Nat → Nat) (X : va_W) (M : Mm) (v0 : Nat) (hv0 : v0 < 16) (v1 : Nat) (hv1 : v1 < 16) {r : Int32} (hq : gX1_hasSameStack M v0 v1 = some r) : Met l yX1_hasSameStack wsX1_hasSameStack ({ frames := 2, cells := 0, slots := 0, locals := 44 }) (va_Pc [.ref (ad (vb v0 + 3)), .ref (ad (vb v1 + 3))] (rPre D sw cs LC NC ad M X)) (vp_Si (fun r' => r' = r)) 0 0 (fun _ => False) :=
  met_r rfl rfl (Nat.le_of_ble_eq_true rfl) (fun p e s m args below meth c ls CX hr hlk hK hSW hP hl => bX1_hasSameStack M v0 hv0 v1 hv1 hq (by simp) CX ⟨Nat.le_refl _, Nat.le_refl _⟩ hK hSW hP hl (fun pc ls v hv dg hz => W.zret (ty := .boolean) CX.1 CX.2.1 hr hz (fun t ht hW => ⟨_, rfl, Option.some.inj hv, ht⟩) (fun _ h => by cases h) dg))
end
