/-! what holds at the law's entry -/
section ENT
abbrev eNC : List Cond := flatC (Jvm.Cond.and given_1 narrow_1)
abbrev eTm (i : Nat) : Term := .string (pStr.getD i ("", 0, "")).1 (pStr.getD i ("", 0, "")).2.1
set_option maxRecDepth 100000 in
theorem en_s1 : ∀ i, i < 28 → Cond.exactly (eTm i) "java/lang/String" ∈ eNC := by decide +kernel
set_option maxRecDepth 100000 in
theorem en_s2 : ∀ i, i < 8 → Cond.eq (.field (eTm i) "java/lang/String" "coder" "B") (.int 0) ∈ eNC ∧ Cond.arrayOf (.field (eTm i) "java/lang/String" "value" "[B") .byte ∈ eNC ∧ Cond.eq (.length (.field (eTm i) "java/lang/String" "value" "[B")) (.int (Int32.ofNat (pLen.getD i 0))) ∈ eNC := by decide +kernel
set_option maxRecDepth 100000 in
theorem en_s3 : ∀ i, i < 8 → ∀ j, j < pLen.getD i 0 → Cond.eq (.elem (.field (eTm i) "java/lang/String" "value" "[B") (.int (Int32.ofNat j))) (.int ((pByt.getD i []).getD j 0)) ∈ eNC := by decide +kernel
set_option maxRecDepth 100000 in
theorem en_nc : ∀ q ∈ pNc, Cond.not (.castable q.1 q.2) ∈ eNC := by decide +kernel
set_option maxRecDepth 100000 in
theorem en_st : Cond.isRef (.static Bundle.tN "UNASSIGNED_STACK" Bundle.steD) ∈ eNC ∧ Cond.isRef (.static Bundle.tN "SUPPRESSED_SENTINEL" Bundle.listD) ∈ eNC ∧ Cond.eq (.static "java/lang/String" "COMPACT_STRINGS" "Z") (.int 1) ∈ eNC ∧ Cond.isRef (.static "jdk/internal/util/Preconditions" "SIOOBE_FORMATTER" "Ljava/util/function/BiFunction;") ∈ eNC := by decide +kernel
set_option maxRecDepth 100000 in
theorem en_t1 : ∀ q ∈ pStr, Cond.stringRef q.1 q.2.1 q.2.2 ∈ lw_tbl := by decide +kernel
set_option maxRecDepth 100000 in
theorem en_t2 : Cond.laysStatic Bundle.tN "UNASSIGNED_STACK" Bundle.steD ∈ lw_tbl ∧ Cond.laysStatic Bundle.tN "SUPPRESSED_SENTINEL" Bundle.listD ∈ lw_tbl ∧ Cond.laysStatic "java/lang/String" "COMPACT_STRINGS" "Z" ∈ lw_tbl ∧ Cond.laysStatic "jdk/internal/util/Preconditions" "SIOOBE_FORMATTER" "Ljava/util/function/BiFunction;" ∈ lw_tbl ∧ Cond.initialized Bundle.tN ∈ lw_tbl ∧ Cond.initialized "java/lang/String" ∈ lw_tbl ∧ Cond.initialized "jdk/internal/util/Preconditions" ∈ lw_tbl ∧ Cond.arrayOver (.object "CloneOutliner$Tree") ∈ lw_tbl := by decide +kernel
set_option maxRecDepth 100000 in
theorem en_t3 : ∀ q ∈ pNest, Cond.methodLinkNest q.1 q.2.1 q.2.2 "CloneOutliner" ∈ lw_tbl ∧ (Cond.methodLinkNest q.1 q.2.1 q.2.2 "CloneOutliner").onTables = true := by decide +kernel
set_option maxRecDepth 100000 in
theorem en_t4 : ∀ q ∈ pCast, Cond.castable q.1 q.2 ∈ lw_tbl ∧ (Cond.castable q.1 q.2).onTables = true := by decide +kernel
set_option maxRecDepth 100000 in
theorem en_t5 : ∀ q ∈ pDecl, Cond.declares (Bundle.initS q) ∈ lw_tbl ∧ (Cond.declares (Bundle.initS q)).onTables = true := by decide +kernel
set_option maxRecDepth 100000 in
theorem en_t6 : ∀ q ∈ vwCl, (∀ w ∈ u_ws q.1 q.2.1 q.2.2, w ∈ lw_tbl) ∧ Cond.instantiable q.1 q.2.2 ∈ lw_tbl := by decide +kernel
set_option maxRecDepth 100000 in
theorem en_t7 : ∀ ty ∈ ([.int, .char, .long, .boolean, .double] : List FieldType), Cond.arrayClass ty ∈ lw_tbl := by decide +kernel
end ENT
