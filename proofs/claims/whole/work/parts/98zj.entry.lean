/-! what holds at the law's entry: words, by their places -/
section ENT
abbrev eNC : List Cond := flatC (Jvm.Cond.and given_1 narrow_1)
abbrev eTm (i : Nat) : Term := .string (pStr.getD i ("", 0, "")).1 (pStr.getD i ("", 0, "")).2.1
def eIx : List Nat := [559, 566, 574, 581, 687, 695, 704, 712, 86, 130, 183, 208, 237, 262, 279, 324, 350, 392, 417, 442, 460, 490, 514, 536, 588, 613, 636, 663]
def eNx : List Nat := [37, 82, 52, 67, 22, 83, 53, 68, 25, 40, 55, 70, 23, 38, 84, 69, 24, 39, 85, 54]
def eSx : List Nat := [1067, 1068, 1122, 1123, 1721, 1722, 1723, 1724, 589, 629, 668, 689, 728, 750, 789, 811, 828, 849, 858, 870, 894, 956, 1025, 1037, 1246, 1258, 1270, 1282]
def eMx : List Nat := [108, 123, 136, 162, 187, 203, 237, 344, 382, 413, 416, 438, 447, 461, 795]
set_option maxRecDepth 100000 in
theorem en_s1' : ∀ i, i < 28 → eNC[eIx.getD i 0]? = some (Cond.exactly (eTm i) "java/lang/String") := by decide +kernel
theorem en_s1 (i : Nat) (h : i < 28) : Cond.exactly (eTm i) "java/lang/String" ∈ eNC := List.mem_of_getElem? (en_s1' i h)
set_option maxRecDepth 100000 in
theorem en_s2' : ∀ i, i < 8 → eNC[eIx.getD i 0 + 1]? = some (Cond.eq (.field (eTm i) "java/lang/String" "coder" "B") (.int 0)) ∧ eNC[eIx.getD i 0 + 2]? = some (Cond.arrayOf (.field (eTm i) "java/lang/String" "value" "[B") .byte) ∧ eNC[eIx.getD i 0 + 3]? = some (Cond.eq (.length (.field (eTm i) "java/lang/String" "value" "[B")) (.int (Int32.ofNat (pLen.getD i 0)))) := by decide +kernel
theorem en_s2 (i : Nat) (h : i < 8) : Cond.eq (.field (eTm i) "java/lang/String" "coder" "B") (.int 0) ∈ eNC ∧ Cond.arrayOf (.field (eTm i) "java/lang/String" "value" "[B") .byte ∈ eNC ∧ Cond.eq (.length (.field (eTm i) "java/lang/String" "value" "[B")) (.int (Int32.ofNat (pLen.getD i 0))) ∈ eNC := by
  obtain ⟨h1, h2, h3⟩ := en_s2' i h
  exact ⟨List.mem_of_getElem? h1, List.mem_of_getElem? h2, List.mem_of_getElem? h3⟩
set_option maxRecDepth 100000 in
theorem en_s3' : ∀ i, i < 8 → ∀ j, j < pLen.getD i 0 → eNC[eIx.getD i 0 + 4 + j]? = some (Cond.eq (.elem (.field (eTm i) "java/lang/String" "value" "[B") (.int (Int32.ofNat j))) (.int ((pByt.getD i []).getD j 0))) := by decide +kernel
theorem en_s3 (i : Nat) (h : i < 8) (j : Nat) (hj : j < pLen.getD i 0) : Cond.eq (.elem (.field (eTm i) "java/lang/String" "value" "[B") (.int (Int32.ofNat j))) (.int ((pByt.getD i []).getD j 0)) ∈ eNC := List.mem_of_getElem? (en_s3' i h j hj)
set_option maxRecDepth 100000 in
theorem en_nc' : ∀ i, i < 20 → eNC[eNx.getD i 0]? = (pNc[i]?).map fun q => Cond.not (.castable q.1 q.2) := by decide +kernel
theorem en_nc (q : String × String) (h : q ∈ pNc) : Cond.not (.castable q.1 q.2) ∈ eNC := by
  obtain ⟨i, hi, e⟩ := List.getElem_of_mem h
  have hl : pNc.length = 20 := by decide +kernel
  have e2 : pNc[i]? = some q := by rw [List.getElem?_eq_getElem hi, e]
  have := en_nc' i (by omega)
  rw [e2] at this
  exact List.mem_of_getElem? this
set_option maxRecDepth 100000 in
theorem en_st : Cond.isRef (.static Bundle.tN "UNASSIGNED_STACK" Bundle.steD) ∈ eNC ∧ Cond.isRef (.static Bundle.tN "SUPPRESSED_SENTINEL" Bundle.listD) ∈ eNC ∧ Cond.eq (.static "java/lang/String" "COMPACT_STRINGS" "Z") (.int 1) ∈ eNC ∧ Cond.isRef (.static "jdk/internal/util/Preconditions" "SIOOBE_FORMATTER" "Ljava/util/function/BiFunction;") ∈ eNC :=
  ⟨List.mem_of_getElem? (i := 4) (by decide +kernel), List.mem_of_getElem? (i := 5) (by decide +kernel), List.mem_of_getElem? (i := 6) (by decide +kernel), List.mem_of_getElem? (i := 7) (by decide +kernel)⟩
set_option maxRecDepth 100000 in
theorem en_t1' : ∀ i, i < 28 → tables_1[eSx.getD i 0]? = (pStr[i]?).map fun q => Cond.stringRef q.1 q.2.1 q.2.2 := by decide +kernel
theorem en_t1 (q : String × Nat × String) (h : q ∈ pStr) : Cond.stringRef q.1 q.2.1 q.2.2 ∈ lw_tbl := by
  obtain ⟨i, hi, e⟩ := List.getElem_of_mem h
  have hl : pStr.length = 28 := by decide +kernel
  have e2 : pStr[i]? = some q := by rw [List.getElem?_eq_getElem hi, e]
  have := en_t1' i (by omega)
  rw [e2] at this
  exact List.mem_append_right _ (List.mem_of_getElem? this)
set_option maxRecDepth 100000 in
theorem en_t2 : Cond.laysStatic Bundle.tN "UNASSIGNED_STACK" Bundle.steD ∈ lw_tbl ∧ Cond.laysStatic Bundle.tN "SUPPRESSED_SENTINEL" Bundle.listD ∈ lw_tbl ∧ Cond.laysStatic "java/lang/String" "COMPACT_STRINGS" "Z" ∈ lw_tbl ∧ Cond.laysStatic "jdk/internal/util/Preconditions" "SIOOBE_FORMATTER" "Ljava/util/function/BiFunction;" ∈ lw_tbl ∧ Cond.initialized Bundle.tN ∈ lw_tbl ∧ Cond.initialized "java/lang/String" ∈ lw_tbl ∧ Cond.initialized "jdk/internal/util/Preconditions" ∈ lw_tbl ∧ Cond.arrayOver (.object "CloneOutliner$Tree") ∈ lw_tbl :=
  ⟨List.mem_append_right _ (List.mem_of_getElem? (i := 573) (by decide +kernel)), List.mem_append_right _ (List.mem_of_getElem? (i := 575) (by decide +kernel)), List.mem_append_right _ (List.mem_of_getElem? (i := 1082) (by decide +kernel)), List.mem_append_right _ (List.mem_of_getElem? (i := 1098) (by decide +kernel)), List.mem_append_right _ (List.mem_of_getElem? (i := 14) (by decide +kernel)), List.mem_append_right _ (List.mem_of_getElem? (i := 23) (by decide +kernel)), List.mem_append_right _ (List.mem_of_getElem? (i := 25) (by decide +kernel)), List.mem_append_right _ (List.mem_of_getElem? (i := 113) (by decide +kernel))⟩
set_option maxRecDepth 100000 in
theorem en_t3' : ∀ i, i < 15 → tables_1[eMx.getD i 0]? = (pNest[i]?).map fun q => Cond.methodLinkNest q.1 q.2.1 q.2.2 "CloneOutliner" := by decide +kernel
theorem en_t3 (q : String × Nat × MethodName) (h : q ∈ pNest) : Cond.methodLinkNest q.1 q.2.1 q.2.2 "CloneOutliner" ∈ lw_tbl ∧ (Cond.methodLinkNest q.1 q.2.1 q.2.2 "CloneOutliner").onTables = true := by
  obtain ⟨i, hi, e⟩ := List.getElem_of_mem h
  have hl : pNest.length = 15 := by decide +kernel
  have e2 : pNest[i]? = some q := by rw [List.getElem?_eq_getElem hi, e]
  have := en_t3' i (by omega)
  rw [e2] at this
  exact ⟨List.mem_append_right _ (List.mem_of_getElem? this), rfl⟩
set_option maxRecDepth 100000 in
theorem en_t4 : ∀ q ∈ pCast, Cond.castable q.1 q.2 ∈ lw_tbl ∧ (Cond.castable q.1 q.2).onTables = true := by
  intro q hq
  refine ⟨?_, rfl⟩
  simp only [pCast, List.mem_cons, List.not_mem_nil, or_false] at hq
  rcases hq with rfl | rfl | rfl | rfl | rfl
  · exact List.mem_append_right _ (List.mem_of_getElem? (i := 548) (by decide +kernel))
  · exact List.mem_append_right _ (List.mem_of_getElem? (i := 622) (by decide +kernel))
  · exact List.mem_append_right _ (List.mem_of_getElem? (i := 743) (by decide +kernel))
  · exact List.mem_append_right _ (List.mem_of_getElem? (i := 661) (by decide +kernel))
  · exact List.mem_append_right _ (List.mem_of_getElem? (i := 682) (by decide +kernel))
set_option maxRecDepth 100000 in
theorem en_t5 : ∀ q ∈ pDecl, Cond.declares (Bundle.initS q) ∈ lw_tbl ∧ (Cond.declares (Bundle.initS q)).onTables = true := by
  intro q hq
  refine ⟨?_, rfl⟩
  simp only [pDecl, List.mem_cons, List.not_mem_nil, or_false] at hq
  rcases hq with rfl | rfl | rfl
  · exact List.mem_append_right _ (List.mem_of_getElem? (i := 550) (by decide +kernel))
  · exact List.mem_append_right _ (List.mem_of_getElem? (i := 552) (by decide +kernel))
  · exact List.mem_append_right _ (List.mem_of_getElem? (i := 554) (by decide +kernel))
set_option maxRecDepth 100000 in
theorem en_t6 : ∀ q ∈ vwCl, (∀ w ∈ u_ws q.1 q.2.1 q.2.2, w ∈ lw_tbl) ∧ Cond.instantiable q.1 q.2.2 ∈ lw_tbl := by
  intro q hq
  simp only [vwCl, List.mem_cons, List.not_mem_nil, or_false] at hq
  rcases hq with rfl | rfl | rfl | rfl | rfl | rfl | rfl | rfl | rfl | rfl | rfl
  · exact ⟨fun w hw => (List.mem_filter.mp (uX0 w hw)).1, (List.mem_filter.mp nX9_77.2.1).1⟩
  · exact ⟨fun w hw => (List.mem_filter.mp (uX1 w hw)).1, (List.mem_filter.mp nX9_46.2.1).1⟩
  · exact ⟨fun w hw => (List.mem_filter.mp (uX2 w hw)).1, (List.mem_filter.mp nX9_70.2.1).1⟩
  · exact ⟨fun w hw => (List.mem_filter.mp (uX3 w hw)).1, (List.mem_filter.mp nX9_32.2.1).1⟩
  · exact ⟨fun w hw => (List.mem_filter.mp (uX4 w hw)).1, (List.mem_filter.mp nX9_39.2.1).1⟩
  · exact ⟨fun w hw => (List.mem_filter.mp (uX5 w hw)).1, (List.mem_filter.mp nX9_56.2.1).1⟩
  · exact ⟨fun w hw => (List.mem_filter.mp (uX6 w hw)).1, (List.mem_filter.mp nX9_22.2.1).1⟩
  · exact ⟨fun w hw => (List.mem_filter.mp (uX7 w hw)).1, (List.mem_filter.mp nX9_63.2.1).1⟩
  · exact ⟨fun w hw => (List.mem_filter.mp (uX8 w hw)).1, (List.mem_filter.mp nX9_9.2.1).1⟩
  · exact ⟨fun w hw => (List.mem_filter.mp (uX9 w hw)).1, (List.mem_filter.mp nL_8.2.1).1⟩
  · exact ⟨fun w hw => (List.mem_filter.mp (uX10 w hw)).1, (List.mem_filter.mp nL_113.2.1).1⟩
set_option maxRecDepth 100000 in
theorem en_t7 : ∀ ty ∈ ([.int, .char, .long, .boolean, .double] : List FieldType), Cond.arrayClass ty ∈ lw_tbl := by
  intro q hq
  simp only [List.mem_cons, List.not_mem_nil, or_false] at hq
  rcases hq with rfl | rfl | rfl | rfl | rfl
  · exact (List.mem_filter.mp k_arr_int).1
  · exact (List.mem_filter.mp k_arr_char).1
  · exact (List.mem_filter.mp k_arr_long).1
  · exact (List.mem_filter.mp k_arr_boolean).1
  · exact (List.mem_filter.mp k_arr_double).1
end ENT
