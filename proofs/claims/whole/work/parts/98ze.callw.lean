/-! calls of the law's callers -/
abbrev mL_law : pM := (yL_law, cL_law, 9, some .boolean, 10, 218)
def gMthW (M : pM) (k : Nat) : Prop := Cond.codeWith M.1 M.2.1 M.2.2.1 M.2.2.2.1 (pTab M.1) ∈ gT ∧ Cond.initialized M.1.cls ∈ gT ∧ (M.1.cls ≠ "java/lang/invoke/MethodHandle" ∧ M.1.cls ≠ "java/lang/invoke/VarHandle" ∧ (parseMethodDescriptor M.1.desc).map (fun d => d.parameters.length) = some k)
theorem gT_good : ∀ w ∈ gT, (w.onTables && w.keeps) = true ∨ ∃ ty, w = .arrayClass ty := fun w hw => good_of_word (List.mem_filter.mp hw).2
theorem gwsW_good {M M' : pM} {idx k : Nat} (hm : gMthW M' k) (hlk : Cond.methodLink M.1.cls idx M'.1 ∈ gT) (hi : Cond.static M'.1 ∈ gT) : GoodIn gT (va_wsS M.1.cls idx M'.1 (gwsW M')) := by
  have h : ∀ w ∈ va_wsS M.1.cls idx M'.1 (gwsW M'), w ∈ gT := by
    intro w hw
    unfold va_wsS gwsW at hw
    simp only [List.cons_append, List.nil_append, List.mem_cons] at hw
    rcases hw with rfl | rfl | rfl | rfl | hw
    · exact hlk
    · exact hi
    · exact hm.2.1
    · exact hm.1
    · exact hw
  exact fun w hw => ⟨h w hw, gT_good w (h w hw)⟩
section RULES
variable {X : pX} {M : pM} {pc : Nat} {ls : List (Option Value)} {st : List Value} {S : pS} {Q : pO → Nat → pF → Prop} {mc ms mc1 ms1 mc2 ms2 : Nat}
theorem q_callSW {idx : Nat} (M' : pM) (as : List Value) {k : Nat} {Sk : List Value} {Q' : pO → Nat → pF → Prop} (hd : decode M.2.1 pc = .ok (.invokestatic idx, 3)) (hlk : Cond.methodLink M.1.cls idx M'.1 ∈ gT) (hm : gMthW M' k) (hi : Cond.static M'.1 ∈ gT)
    (hroom : M'.2.2.2.2.1 + 1 ≤ M.2.2.2.2.1 ∧ 8 + (M'.2.2.1 + 11) + M'.2.2.2.2.2 ≤ M.2.2.2.2.2) (hS0 : Sk = as.reverse ++ st) (hk : as.length = k) (hcat : (st.map fun v => v.category).sum ≤ 8) (hmc : mc1 + mc2 ≤ mc) (hms : ms1 + ms2 ≤ ms)
    (hC : gCW X M' as S.1 S.2 Q' mc1 ms1) (kk : ∀ (v : Option Value) (n' : Nat) (h' : pF), Q' (.inl v) n' h' → gW X M (pc + 3) ls (v.toList ++ st) n' h' Q mc2 ms2) : gW X M pc ls Sk S.1 S.2 Q mc ms := by
  refine r_back (as := as) (rest0 := st) hmc hms kk ?_
  intro l p e R s m args below meth c H locs cells slots lsA C hw hS hl h1 h2
  subst hS0
  exact ⟨_, vx_runSW (hh := pTab M'.1) (As := as.map (pv X)) (rest := st.map (pv X)) (g := F0 m pc lsA ((as.reverse ++ st).map (pv X))) (H := H) (nL := M.2.2.1) ⟨C.1, C.2.1, C.2.2.1, gCx_own C, gCx_ts C⟩ (hC l C.2.2.2.2.2.2.2.2.2.2.1)
    (R := R) (index := idx) (n := k) (bytes := M'.2.1) (maxL := M'.2.2.1) (ret := M'.2.2.2.1) (vx_cwSW k (gCx_ts C) (gwsW_good hm hlk hi) rfl rfl rfl hm.2.2 ⟨Nat.le_trans hroom.1 C.2.2.2.2.2.2.2.2.1, Nat.le_trans hroom.2 C.2.2.2.2.2.2.2.2.2.1⟩)
    ⟨gP_blind, fun U hU hW => ⟨rfl, by rw [hU]; exact hw, pk_step (gCx_k C) hW hU hS⟩⟩ rfl (by rw [List.length_map]; exact hk) hl.1 (by simp [F0]) (by rw [g_cat]; show 2 * 0 + _ ≤ 8; omega) hd ⟨by omega, by omega⟩⟩
end RULES

theorem wL_append : gMthW mL_append 3 := ⟨gT_in (List.mem_append_right _ (List.mem_of_getElem? (i := 539) (by decide +kernel))) (by decide +kernel), gT_in (List.mem_append_right _ (List.mem_of_getElem? (i := 0) (by decide +kernel))) (by decide +kernel), by decide +kernel⟩
theorem wL_add : gMthW mL_add 4 := ⟨gT_in (List.mem_append_right _ (List.mem_of_getElem? (i := 646) (by decide +kernel))) (by decide +kernel), gT_in (List.mem_append_right _ (List.mem_of_getElem? (i := 0) (by decide +kernel))) (by decide +kernel), by decide +kernel⟩
theorem wL_clone : gMthW mL_clone 5 := ⟨gT_in (List.mem_append_right _ (List.mem_of_getElem? (i := 780) (by decide +kernel))) (by decide +kernel), gT_in (List.mem_append_right _ (List.mem_of_getElem? (i := 0) (by decide +kernel))) (by decide +kernel), by decide +kernel⟩
theorem wL_detach : gMthW mL_detach 4 := ⟨gT_in (List.mem_append_right _ (List.mem_of_getElem? (i := 802) (by decide +kernel))) (by decide +kernel), gT_in (List.mem_append_right _ (List.mem_of_getElem? (i := 0) (by decide +kernel))) (by decide +kernel), by decide +kernel⟩
theorem wL_moveBlock : gMthW mL_moveBlock 7 := ⟨gT_in (List.mem_append_right _ (List.mem_of_getElem? (i := 823) (by decide +kernel))) (by decide +kernel), gT_in (List.mem_append_right _ (List.mem_of_getElem? (i := 0) (by decide +kernel))) (by decide +kernel), by decide +kernel⟩
theorem wL_indent : gMthW mL_indent 3 := ⟨gT_in (List.mem_append_right _ (List.mem_of_getElem? (i := 840) (by decide +kernel))) (by decide +kernel), gT_in (List.mem_append_right _ (List.mem_of_getElem? (i := 0) (by decide +kernel))) (by decide +kernel), by decide +kernel⟩
theorem wL_outdent : gMthW mL_outdent 3 := ⟨gT_in (List.mem_append_right _ (List.mem_of_getElem? (i := 861) (by decide +kernel))) (by decide +kernel), gT_in (List.mem_append_right _ (List.mem_of_getElem? (i := 0) (by decide +kernel))) (by decide +kernel), by decide +kernel⟩
theorem wL_rename : gMthW mL_rename 3 := ⟨gT_in (List.mem_append_right _ (List.mem_of_getElem? (i := 877) (by decide +kernel))) (by decide +kernel), gT_in (List.mem_append_right _ (List.mem_of_getElem? (i := 0) (by decide +kernel))) (by decide +kernel), by decide +kernel⟩
theorem wL_setNumber : gMthW mL_setNumber 5 := ⟨gT_in (List.mem_append_right _ (List.mem_of_getElem? (i := 889) (by decide +kernel))) (by decide +kernel), gT_in (List.mem_append_right _ (List.mem_of_getElem? (i := 0) (by decide +kernel))) (by decide +kernel), by decide +kernel⟩
theorem wL_setFlag : gMthW mL_setFlag 5 := ⟨gT_in (List.mem_append_right _ (List.mem_of_getElem? (i := 913) (by decide +kernel))) (by decide +kernel), gT_in (List.mem_append_right _ (List.mem_of_getElem? (i := 0) (by decide +kernel))) (by decide +kernel), by decide +kernel⟩
theorem wL_item : gMthW mL_item 4 := ⟨gT_in (List.mem_append_right _ (List.mem_of_getElem? (i := 930) (by decide +kernel))) (by decide +kernel), gT_in (List.mem_append_right _ (List.mem_of_getElem? (i := 0) (by decide +kernel))) (by decide +kernel), by decide +kernel⟩
theorem wL_related : gMthW mL_related 5 := ⟨gT_in (List.mem_append_right _ (List.mem_of_getElem? (i := 959) (by decide +kernel))) (by decide +kernel), gT_in (List.mem_append_right _ (List.mem_of_getElem? (i := 0) (by decide +kernel))) (by decide +kernel), by decide +kernel⟩
theorem wL_letter : gMthW mL_letter 4 := ⟨gT_in (List.mem_append_right _ (List.mem_of_getElem? (i := 971) (by decide +kernel))) (by decide +kernel), gT_in (List.mem_append_right _ (List.mem_of_getElem? (i := 0) (by decide +kernel))) (by decide +kernel), by decide +kernel⟩
theorem wL_isBelow : gMthW mL_isBelow 4 := ⟨gT_in (List.mem_append_right _ (List.mem_of_getElem? (i := 979) (by decide +kernel))) (by decide +kernel), gT_in (List.mem_append_right _ (List.mem_of_getElem? (i := 0) (by decide +kernel))) (by decide +kernel), by decide +kernel⟩
theorem wL_outline : gMthW mL_outline 3 := ⟨gT_in (List.mem_append_right _ (List.mem_of_getElem? (i := 986) (by decide +kernel))) (by decide +kernel), gT_in (List.mem_append_right _ (List.mem_of_getElem? (i := 0) (by decide +kernel))) (by decide +kernel), by decide +kernel⟩
theorem wL_doneShare : gMthW mL_doneShare 3 := ⟨gT_in (List.mem_append_right _ (List.mem_of_getElem? (i := 1006) (by decide +kernel))) (by decide +kernel), gT_in (List.mem_append_right _ (List.mem_of_getElem? (i := 0) (by decide +kernel))) (by decide +kernel), by decide +kernel⟩
theorem wL_meanValue : gMthW mL_meanValue 3 := ⟨gT_in (List.mem_append_right _ (List.mem_of_getElem? (i := 1013) (by decide +kernel))) (by decide +kernel), gT_in (List.mem_append_right _ (List.mem_of_getElem? (i := 0) (by decide +kernel))) (by decide +kernel), by decide +kernel⟩
theorem wL_hoist : gMthW mL_hoist 3 := ⟨gT_in (List.mem_append_right _ (List.mem_of_getElem? (i := 1020) (by decide +kernel))) (by decide +kernel), gT_in (List.mem_append_right _ (List.mem_of_getElem? (i := 0) (by decide +kernel))) (by decide +kernel), by decide +kernel⟩
theorem wL_unhoist : gMthW mL_unhoist 2 := ⟨gT_in (List.mem_append_right _ (List.mem_of_getElem? (i := 1032) (by decide +kernel))) (by decide +kernel), gT_in (List.mem_append_right _ (List.mem_of_getElem? (i := 0) (by decide +kernel))) (by decide +kernel), by decide +kernel⟩
theorem wL_filter : gMthW mL_filter 2 := ⟨gT_in (List.mem_append_right _ (List.mem_of_getElem? (i := 1044) (by decide +kernel))) (by decide +kernel), gT_in (List.mem_append_right _ (List.mem_of_getElem? (i := 0) (by decide +kernel))) (by decide +kernel), by decide +kernel⟩
theorem wL_line : gMthW mL_line 4 := ⟨gT_in (List.mem_append_right _ (List.mem_of_getElem? (i := 1146) (by decide +kernel))) (by decide +kernel), gT_in (List.mem_append_right _ (List.mem_of_getElem? (i := 0) (by decide +kernel))) (by decide +kernel), by decide +kernel⟩
theorem wL_path : gMthW mL_path 4 := ⟨gT_in (List.mem_append_right _ (List.mem_of_getElem? (i := 1159) (by decide +kernel))) (by decide +kernel), gT_in (List.mem_append_right _ (List.mem_of_getElem? (i := 0) (by decide +kernel))) (by decide +kernel), by decide +kernel⟩
theorem wL_load : gMthW mL_load 3 := ⟨gT_in (List.mem_append_right _ (List.mem_of_getElem? (i := 1172) (by decide +kernel))) (by decide +kernel), gT_in (List.mem_append_right _ (List.mem_of_getElem? (i := 0) (by decide +kernel))) (by decide +kernel), by decide +kernel⟩
theorem wL_errorPosition : gMthW mL_errorPosition 2 := ⟨gT_in (List.mem_append_right _ (List.mem_of_getElem? (i := 1241) (by decide +kernel))) (by decide +kernel), gT_in (List.mem_append_right _ (List.mem_of_getElem? (i := 0) (by decide +kernel))) (by decide +kernel), by decide +kernel⟩
theorem wL_refusal : gMthW mL_refusal 3 := ⟨gT_in (List.mem_append_right _ (List.mem_of_getElem? (i := 1249) (by decide +kernel))) (by decide +kernel), gT_in (List.mem_append_right _ (List.mem_of_getElem? (i := 0) (by decide +kernel))) (by decide +kernel), by decide +kernel⟩
theorem wL_undo : gMthW mL_undo 2 := ⟨gT_in (List.mem_append_right _ (List.mem_of_getElem? (i := 1265) (by decide +kernel))) (by decide +kernel), gT_in (List.mem_append_right _ (List.mem_of_getElem? (i := 0) (by decide +kernel))) (by decide +kernel), by decide +kernel⟩
theorem wL_restore : gMthW mL_restore 2 := ⟨gT_in (List.mem_append_right _ (List.mem_of_getElem? (i := 1277) (by decide +kernel))) (by decide +kernel), gT_in (List.mem_append_right _ (List.mem_of_getElem? (i := 0) (by decide +kernel))) (by decide +kernel), by decide +kernel⟩
