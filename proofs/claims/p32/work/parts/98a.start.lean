/-! WHAT STANDS AT THE LAW'S ENTRY -/
abbrev flatN : List Cond := flatC (Jvm.Cond.and given_1 narrow_1)
def tmS (i : Nat) : Term := .string (litT.getD i ("", 0, "")).1 (litT.getD i ("", 0, "")).2.1
abbrev tmV (i : Nat) : Term := .field (tmS i) "java/lang/String" "value" "[B"
def offS : List Nat := [83, 89, 93, 100, 108, 115, 123, 129, 135, 142, 149, 155, 162, 169, 175, 349, 357, 367, 374, 383, 388, 393, 402, 416, 428, 434, 439, 448, 453]
set_option maxRecDepth 100000 in
theorem sA1 : ∀ i ∈ List.range 29, flatN[offS.getD i 0 + 0]? = some (Cond.exactly (tmS i) "java/lang/String") := by decide +kernel
set_option maxRecDepth 100000 in
theorem sA2 : ∀ i ∈ List.range 29, flatN[offS.getD i 0 + 1]? = some (Cond.eq (.field (tmS i) "java/lang/String" "coder" "B") (.int 0)) := by decide +kernel
set_option maxRecDepth 100000 in
theorem sA3 : ∀ i ∈ List.range 29, flatN[offS.getD i 0 + 2]? = some (Cond.arrayOf (tmV i) .byte) := by decide +kernel
set_option maxRecDepth 100000 in
theorem sA4 : ∀ i ∈ List.range 29, flatN[offS.getD i 0 + 3]? = some (Cond.eq (.length (tmV i)) (.int (Int32.ofNat (litL.getD i 0)))) := by decide +kernel
set_option maxRecDepth 100000 in
theorem sA5 : ∀ i ∈ List.range 29, ∀ j ∈ List.range (litL.getD i 0), flatN[offS.getD i 0 + 4 + j]? = some (Cond.eq (.elem (tmV i) (.int (Int32.ofNat j))) (.int ((litB.getD i []).getD j 0))) := by decide +kernel
set_option maxRecDepth 100000 in
theorem sA6 : ∀ i ∈ List.range 29, litL.getD i 0 < 2 ^ 31 := by decide +kernel
set_option maxRecDepth 100000 in
theorem sA7 : ∀ i ∈ List.range 29, ∀ j ∈ List.range 29, i ≠ j → litL.getD i 0 ≠ litL.getD j 0 ∨ ∃ k ∈ List.range (litL.getD i 0), (litB.getD i []).getD k 0 ≠ (litB.getD j []).getD k 0 := by decide +kernel
theorem mfl {c : Cond} {k : Nat} (h : flatN[k]? = some c) : c ∈ flatN := List.mem_of_getElem? h
set_option maxRecDepth 100000 in
theorem sL1 : ∀ q ∈ litT, Cond.stringRef q.1 q.2.1 q.2.2 ∈ lw_tbl := by decide +kernel
set_option maxRecDepth 100000 in
theorem sL2 : ∀ q ∈ msgT, Cond.stringRef RX7 q.1 q.2 ∈ lw_tbl := by decide +kernel
set_option maxRecDepth 100000 in
theorem sL3 : ∀ Y ∈ exD, Cond.declares (Bundle.initS Y) ∈ lw_tbl := by decide +kernel
set_option maxRecDepth 100000 in
theorem sL4 : ∀ Y ∈ exC, Cond.castable Y Y ∈ lw_tbl := by decide +kernel
set_option maxRecDepth 100000 in
theorem sN1 : ∀ Y ∈ exN, ∀ Z ∈ exN, Y ≠ Z → Cond.not (.castable Y Z) ∈ flatN := by decide +kernel
set_option maxRecDepth 100000 in
theorem sN2 : Cond.isRef (.static Bundle.tN "UNASSIGNED_STACK" Bundle.steD) ∈ flatN ∧ Cond.isRef (.static Bundle.tN "SUPPRESSED_SENTINEL" Bundle.listD) ∈ flatN ∧ Cond.isRef (.static RJ3 "SIOOBE_FORMATTER" "Ljava/util/function/BiFunction;") ∈ flatN ∧ Cond.eq (.static RJ0 "COMPACT_STRINGS" "Z") (.int 1) ∈ flatN ∧ Cond.arrayOf (.static RX6 "ON_AT_FIRST" "[I") .int ∈ flatN ∧ Cond.eq (.length (.static RX6 "ON_AT_FIRST" "[I")) (.int (Int32.ofNat 4)) ∈ flatN := by decide +kernel
set_option maxRecDepth 100000 in
theorem sN3 : ∀ j ∈ List.range 4, Cond.eq (.elem (.static RX6 "ON_AT_FIRST" "[I") (.int (Int32.ofNat j))) (.int (onF j)) ∈ flatN := by decide +kernel
set_option maxRecDepth 100000 in
theorem sL5 : Cond.laysStatic Bundle.tN "UNASSIGNED_STACK" Bundle.steD ∈ lw_tbl ∧ Cond.laysStatic Bundle.tN "SUPPRESSED_SENTINEL" Bundle.listD ∈ lw_tbl ∧ Cond.laysStatic RJ3 "SIOOBE_FORMATTER" "Ljava/util/function/BiFunction;" ∈ lw_tbl ∧ Cond.laysStatic RJ0 "COMPACT_STRINGS" "Z" ∈ lw_tbl ∧ Cond.laysStatic RX6 "ON_AT_FIRST" "[I" ∈ lw_tbl ∧ Cond.initialized Bundle.tN ∈ lw_tbl ∧ Cond.initialized RJ3 ∈ lw_tbl ∧ Cond.initialized RJ0 ∈ lw_tbl ∧ Cond.initialized RX6 ∈ lw_tbl := by decide +kernel
set_option maxRecDepth 100000 in
theorem sL6 : Cond.arrayOver (.object RX5) ∈ lw_tbl ∧ Cond.arrayOver (.array .int) ∈ lw_tbl ∧ Cond.methodLinkNest RX7 9 yX4_init RX7 ∈ lw_tbl ∧ Cond.methodLinkNest RX7 18 yX6_init RX7 ∈ lw_tbl ∧ Cond.methodLinkNest RX7 29 yX5_init RX7 ∈ lw_tbl ∧ Cond.methodLinkNest RX5 20 yX1_init RX7 ∈ lw_tbl ∧ Cond.methodLinkNest RX5 27 yX3_init RX7 ∈ lw_tbl := by decide +kernel
set_option maxRecDepth 100000 in
theorem sL7 : Cond.arrayOver (.object "java/lang/String") ∈ lw_tbl := by decide +kernel
