/-! the law's cases -/
theorem lg_cmp_self (x : Int64) : lg_cmp x x = 0 := (lg_cmp0 x x).mpr rfl
theorem cmp_eq0 (op : CmpOp) : Op.cmpValue (some .eq) op = 0 := by cases op <;> rfl
section RULES
variable {X : pX} {M : pM} {pc : Nat} {ls : List (Option Value)} {st : List Value} {n : Nat} {h : pF} {Q : pO → Nat → pF → Prop} {mc ms : Nat}
theorem r_nz {x : Int32} (d0 : decode M.2.1 pc = .ok (.ifCond .eq 7, 3)) (d3 : decode M.2.1 (pc + 3) = .ok (.iconst 1, 1)) (d4 : decode M.2.1 (pc + 4) = .ok (.goto 4, 3)) (d7 : decode M.2.1 (pc + 7) = .ok (.iconst 0, 1)) (k : gW X M (pc + 8) ls (.int (if x = 0 then 0 else 1) :: st) n h Q mc ms) : gW X M pc ls (.int x :: st) n h Q mc ms := by
  refine r_if_eq (pc + 7) d0 (by omega) (fun c => ?_) (fun c => ?_)
  · rw [if_pos c] at k
    exact r_iconst (0 : Int32) d7 (by decide) k
  · rw [if_neg c] at k
    exact r_iconst (1 : Int32) d3 (by decide) (r_goto (pc + 8) d4 (by omega) k)
theorem r_nzL {x : Int32} (d0 : decode M.2.1 pc = .ok (.ifCond .eq 7, 3)) (d3 : decode M.2.1 (pc + 3) = .ok (.lconst 1, 1)) (d4 : decode M.2.1 (pc + 4) = .ok (.goto 4, 3)) (d7 : decode M.2.1 (pc + 7) = .ok (.lconst 0, 1)) (k : gW X M (pc + 8) ls (.long (if x = 0 then 0 else 1) :: st) n h Q mc ms) : gW X M pc ls (.int x :: st) n h Q mc ms := by
  refine r_if_eq (pc + 7) d0 (by omega) (fun c => ?_) (fun c => ?_)
  · rw [if_pos c] at k
    exact r_lconst (0 : Int64) d7 (by decide) k
  · rw [if_neg c] at k
    exact r_lconst (1 : Int64) d3 (by decide) (r_goto (pc + 8) d4 (by omega) k)
end RULES
def QW (W : Nat → Option (Int32 × pS)) : pO → Nat → pF → Prop := fun o n h => ∃ j k S1, W j = some (k, S1) ∧ o = .inl (some (.int k)) ∧ n = S1.1 ∧ h = S1.2
theorem qw_of {S : pS} {W : Nat → Option (Int32 × pS)} {α : Type} {o : pS → Option (α × pS)} {rd : pS → α → Prop} (h : TT S W o rd) : ∀ j, ∃ r, W j = some r ∧ QW W (.inl (some (.int r.1))) r.2.1 r.2.2 := by
  intro j
  obtain ⟨k, S1, b, S2, A', e, -⟩ := h j
  exact ⟨(k, S1), e, j, k, S1, e, rfl, rfl, rfl⟩
theorem qw_nx {W : Nat → Option (Int32 × pS)} : ∀ (E : String) (n' : Nat) (h' : pF), ¬ QW W (.inr E) n' h' := by
  intro E n' h' hq
  obtain ⟨j, k, S1, -, e, -⟩ := hq
  cases e
abbrev lw_ls (i : Int32) : List (Option Value) := [some (.retAddr 0), some (.ref 0), some (.ref 68), some (.ref 109), some (.ref 110), some (.int i), none, none, none]
section LAW
variable {X : pX} {S : pS} {A : As} {Q : pO → Nat → pF → Prop} {mc ms : Nat} {i : Int32}
set_option maxRecDepth 100000 in
set_option maxHeartbeats 4000000 in
theorem B_0 (h1 : vp_in (i + 1) X.2.2.2.2.1) (h2 : vp_in (i + 2) X.2.2.2.2.1) (h3 : vp_in (i + 3) X.2.2.2.2.1) (h4 : vp_in (i + 4) X.2.2.2.2.1) (h5 : vp_in (i + 5) X.2.2.2.2.1) (hT : TP S (fun S => F_X9_clear S 0) (fun S1 => F_X10_clear S1 68)) (kk : ∀ S2 A', LI S2 A' → gW X mL_law 2049 (lw_ls i) [] S2.1 S2.2 Q mc ms) : gW X mL_law 184 (lw_ls i) [] S.1 S.2 Q (mc + 0) (ms + 0) := by
  refine r_aload_n (pc := 184) dL_law_184 rfl ?_
  obtain ⟨b, S1, S2, A', t1, t2, t4⟩ := hT
  replace t1 : F_X9_clear S 0 = some (b, S1) := t1
  refine q_callV (S' := S1) (v := some (.int b)) (pc := 185) mX9_clear 9 [] dL_law_185 kL_116 fX9_clear iX9_clear ⟨by decide, by decide⟩ rfl rfl rfl (Nat.le_of_ble_eq_true rfl) (og t1) (mc1 := 0) (ms1 := 0) (mc2 := mc) (ms2 := ms) (Nat.le_of_eq (Nat.add_comm _ _)) (Nat.le_of_eq (Nat.add_comm _ _)) (C_X9_clear S 0 (b, S1) t1 (qR_mk (some (.int b)) S1)) ?_
  refine r_aload_n (pc := 188) dL_law_188 rfl ?_
  replace t2 : F_X10_clear S1 68 = some (b, S2) := t2
  refine q_callV (S' := S2) (v := some (.int b)) (pc := 189) mX10_clear 10 [] dL_law_189 kL_119 fX10_clear iX10_clear ⟨by decide, by decide⟩ rfl rfl rfl (Nat.le_of_ble_eq_true rfl) (og t2) (mc1 := 0) (ms1 := 0) (mc2 := mc) (ms2 := ms) (Nat.le_of_eq (Nat.zero_add _)) (Nat.le_of_eq (Nat.zero_add _)) (C_X10_clear S1 68 (b, S2) t2 (qR_mk (some (.int b)) S2)) ?_
  refine r_icmp_eq (pc := 192) 2049 dL_law_192 (by decide) (fun _ => ?_) (fun z => absurd rfl z)
  exact gW.weak (ls' := lw_ls i) (by simp [gle]) (kk S2 A' t4)
set_option maxRecDepth 100000 in
set_option maxHeartbeats 4000000 in
theorem B_1 (h1 : vp_in (i + 1) X.2.2.2.2.1) (h2 : vp_in (i + 2) X.2.2.2.2.1) (h3 : vp_in (i + 3) X.2.2.2.2.1) (h4 : vp_in (i + 4) X.2.2.2.2.1) (h5 : vp_in (i + 5) X.2.2.2.2.1) (hT : TT S (fun j => F_L_append j S 0 (X.2.2.2.2.2 (i + 1).toNatClampNeg) 109) (fun S1 => F_X10_append S1 68 (X.2.2.2.2.2 (i + 1).toNatClampNeg)) tdJ) (kk : ∀ S2 A', LI S2 A' → gW X mL_law 2049 (lw_ls i) [] S2.1 S2.2 Q mc ms) : gW X mL_law 197 (lw_ls i) [] S.1 S.2 Q (mc + 1) (ms + 6) := by
  refine r_aload_n (pc := 197) dL_law_197 rfl ?_
  refine r_xload_n (pc := 198) dL_law_198 rfl ?_
  refine r_iload (pc := 199) dL_law_199 rfl ?_
  refine r_iconst (pc := 201) (1 : Int32) dL_law_201 (by decide) ?_
  refine r_iadd (pc := 202) dL_law_202 ?_
  refine r_sld (pc := 203) dL_law_203 h1 ?_
  refine r_aload_n (pc := 204) dL_law_204 rfl ?_
  refine q_callSW (pc := 205) mL_append [.ref 0, .int (X.2.2.2.2.2 (i + 1).toNatClampNeg), .ref 109] dL_law_205 kL_120 wL_append sL_append ⟨by decide, by decide⟩ rfl rfl (Nat.le_of_ble_eq_true rfl) (mc1 := 1) (ms1 := 6) (mc2 := mc) (ms2 := ms) (Nat.le_of_eq (Nat.add_comm _ _)) (Nat.le_of_eq (Nat.add_comm _ _)) (C_L_append (Q := QW (fun j => F_L_append j S 0 (X.2.2.2.2.2 (i + 1).toNatClampNeg) 109)) S 0 (X.2.2.2.2.2 (i + 1).toNatClampNeg) 109 (qw_of hT) qw_nx) (fun v n' h' hq => ?_)
  obtain ⟨j, k, S1, hj, rfl, rfl, rfl⟩ := (show ∃ j k S1, F_L_append j S 0 (X.2.2.2.2.2 (i + 1).toNatClampNeg) 109 = some (k, S1) ∧ v = some (.int k) ∧ n' = S1.1 ∧ h' = S1.2 by
    obtain ⟨j, k, S1, w1, w2, w3, w4⟩ := hq
    cases w2; exact ⟨j, k, S1, w1, rfl, w3, w4⟩)
  obtain ⟨k9, S9, b, S2, A', t1, t2, t3, t4, t5⟩ := hT j
  cases hj.symm.trans t1
  refine r_istore (pc := 208) dL_law_208 (by decide) ?_
  change gW _ _ _ [some (.retAddr 0), some (.ref 0), some (.ref 68), some (.ref 109), some (.ref 110), some (.int i), some (.int k), none, none] _ _ _ _ _ _
  refine r_aload_n (pc := 210) dL_law_210 rfl ?_
  refine r_xload_n (pc := 211) dL_law_211 rfl ?_
  refine r_iload (pc := 212) dL_law_212 rfl ?_
  refine r_iconst (pc := 214) (1 : Int32) dL_law_214 (by decide) ?_
  refine r_iadd (pc := 215) dL_law_215 ?_
  refine r_sld (pc := 216) dL_law_216 h1 ?_
  replace t2 : F_X10_append S1 68 (X.2.2.2.2.2 (i + 1).toNatClampNeg) = some (b, S2) := t2
  refine q_callV (S' := S2) (v := some (.int b)) (pc := 217) mX10_append 10 [.int (X.2.2.2.2.2 (i + 1).toNatClampNeg)] dL_law_217 kL_125 fX10_append iX10_append ⟨by decide, by decide⟩ rfl rfl rfl (Nat.le_of_ble_eq_true rfl) (og t2) (mc1 := 0) (ms1 := 0) (mc2 := mc) (ms2 := ms) (Nat.le_of_eq (Nat.zero_add _)) (Nat.le_of_eq (Nat.zero_add _)) (C_X10_append S1 68 (X.2.2.2.2.2 (i + 1).toNatClampNeg) (b, S2) t2 (qR_mk (some (.int b)) S2)) ?_
  refine r_istore (pc := 220) dL_law_220 (by decide) ?_
  change gW _ _ _ [some (.retAddr 0), some (.ref 0), some (.ref 68), some (.ref 109), some (.ref 110), some (.int i), some (.int k), some (.int b), none] _ _ _ _ _ _
  refine r_aload_n (pc := 222) dL_law_222 rfl ?_
  refine q_callV (S' := S2) (v := some (.int k)) (pc := 223) mX10_thrown 10 [] dL_law_223 kL_126 fX10_thrown iX10_thrown ⟨by decide, by decide⟩ rfl rfl rfl (Nat.le_of_ble_eq_true rfl) (og t3) (mc1 := 0) (ms1 := 0) (mc2 := mc) (ms2 := ms) (Nat.le_of_eq (Nat.zero_add _)) (Nat.le_of_eq (Nat.zero_add _)) (C_X10_thrown S2 68 k t3 (qR_mk (some (.int k)) S2)) ?_
  refine r_iload (pc := 226) dL_law_226 rfl ?_
  refine r_icmp_eq (pc := 228) 233 dL_law_228 (by decide) (fun _ => ?_) (fun z => absurd rfl z)
  refine r_iload (pc := 233) dL_law_233 rfl ?_
  refine r_if_ne (pc := 235) 250 dL_law_235 (by decide) (fun _ => ?_) (fun z => ?_)
  · refine r_goto (pc := 250) 2049 dL_law_250 (by decide) ?_
    exact gW.weak (ls' := lw_ls i) (by simp [gle]) (kk S2 A' t4)
  have k0 := Decidable.not_not.mp z
  have rd := t5 k0
  refine r_aload_n (pc := 238) dL_law_238 rfl ?_
  refine r_iconst (pc := 239) (0 : Int32) dL_law_239 (by decide) ?_
  refine q_lald (S := S2) (pc := 240) dL_law_240 rd ?_
  refine r_iload (pc := 241) dL_law_241 rfl ?_
  refine r_i2l (pc := 243) dL_law_243 ?_
  refine r_lcmp (pc := 244) dL_law_244 ?_
  refine r_if_eq (pc := 245) 250 dL_law_245 (by decide) (fun _ => ?_) (fun z => absurd (lg_cmp_self _) z)
  refine r_goto (pc := 250) 2049 dL_law_250 (by decide) ?_
  exact gW.weak (ls' := lw_ls i) (by simp [gle]) (kk S2 A' t4)
set_option maxRecDepth 100000 in
set_option maxHeartbeats 4000000 in
theorem B_2 (h1 : vp_in (i + 1) X.2.2.2.2.1) (h2 : vp_in (i + 2) X.2.2.2.2.1) (h3 : vp_in (i + 3) X.2.2.2.2.1) (h4 : vp_in (i + 4) X.2.2.2.2.1) (h5 : vp_in (i + 5) X.2.2.2.2.1) (hT : TT S (fun j => F_L_add j S 0 (X.2.2.2.2.2 (i + 1).toNatClampNeg) (X.2.2.2.2.2 (i + 2).toNatClampNeg) 109) (fun S1 => F_X10_add S1 68 (X.2.2.2.2.2 (i + 1).toNatClampNeg) (X.2.2.2.2.2 (i + 2).toNatClampNeg)) tdJ) (kk : ∀ S2 A', LI S2 A' → gW X mL_law 2049 (lw_ls i) [] S2.1 S2.2 Q mc ms) : gW X mL_law 253 (lw_ls i) [] S.1 S.2 Q (mc + 10) (ms + 1614) := by
  refine r_aload_n (pc := 253) dL_law_253 rfl ?_
  refine r_xload_n (pc := 254) dL_law_254 rfl ?_
  refine r_iload (pc := 255) dL_law_255 rfl ?_
  refine r_iconst (pc := 257) (1 : Int32) dL_law_257 (by decide) ?_
  refine r_iadd (pc := 258) dL_law_258 ?_
  refine r_sld (pc := 259) dL_law_259 h1 ?_
  refine r_xload_n (pc := 260) dL_law_260 rfl ?_
  refine r_iload (pc := 261) dL_law_261 rfl ?_
  refine r_iconst (pc := 263) (2 : Int32) dL_law_263 (by decide) ?_
  refine r_iadd (pc := 264) dL_law_264 ?_
  refine r_sld (pc := 265) dL_law_265 h2 ?_
  refine r_aload_n (pc := 266) dL_law_266 rfl ?_
  refine q_callSW (pc := 267) mL_add [.ref 0, .int (X.2.2.2.2.2 (i + 1).toNatClampNeg), .int (X.2.2.2.2.2 (i + 2).toNatClampNeg), .ref 109] dL_law_267 kL_129 wL_add sL_add ⟨by decide, by decide⟩ rfl rfl (Nat.le_of_ble_eq_true rfl) (mc1 := 10) (ms1 := 1614) (mc2 := mc) (ms2 := ms) (Nat.le_of_eq (Nat.add_comm _ _)) (Nat.le_of_eq (Nat.add_comm _ _)) (C_L_add (Q := QW (fun j => F_L_add j S 0 (X.2.2.2.2.2 (i + 1).toNatClampNeg) (X.2.2.2.2.2 (i + 2).toNatClampNeg) 109)) S 0 (X.2.2.2.2.2 (i + 1).toNatClampNeg) (X.2.2.2.2.2 (i + 2).toNatClampNeg) 109 (qw_of hT) qw_nx) (fun v n' h' hq => ?_)
  obtain ⟨j, k, S1, hj, rfl, rfl, rfl⟩ := (show ∃ j k S1, F_L_add j S 0 (X.2.2.2.2.2 (i + 1).toNatClampNeg) (X.2.2.2.2.2 (i + 2).toNatClampNeg) 109 = some (k, S1) ∧ v = some (.int k) ∧ n' = S1.1 ∧ h' = S1.2 by
    obtain ⟨j, k, S1, w1, w2, w3, w4⟩ := hq
    cases w2; exact ⟨j, k, S1, w1, rfl, w3, w4⟩)
  obtain ⟨k9, S9, b, S2, A', t1, t2, t3, t4, t5⟩ := hT j
  cases hj.symm.trans t1
  refine r_istore (pc := 270) dL_law_270 (by decide) ?_
  change gW _ _ _ [some (.retAddr 0), some (.ref 0), some (.ref 68), some (.ref 109), some (.ref 110), some (.int i), some (.int k), none, none] _ _ _ _ _ _
  refine r_aload_n (pc := 272) dL_law_272 rfl ?_
  refine r_xload_n (pc := 273) dL_law_273 rfl ?_
  refine r_iload (pc := 274) dL_law_274 rfl ?_
  refine r_iconst (pc := 276) (1 : Int32) dL_law_276 (by decide) ?_
  refine r_iadd (pc := 277) dL_law_277 ?_
  refine r_sld (pc := 278) dL_law_278 h1 ?_
  refine r_xload_n (pc := 279) dL_law_279 rfl ?_
  refine r_iload (pc := 280) dL_law_280 rfl ?_
  refine r_iconst (pc := 282) (2 : Int32) dL_law_282 (by decide) ?_
  refine r_iadd (pc := 283) dL_law_283 ?_
  refine r_sld (pc := 284) dL_law_284 h2 ?_
  replace t2 : F_X10_add S1 68 (X.2.2.2.2.2 (i + 1).toNatClampNeg) (X.2.2.2.2.2 (i + 2).toNatClampNeg) = some (b, S2) := t2
  refine q_callV (S' := S2) (v := some (.int b)) (pc := 285) mX10_add 10 [.int (X.2.2.2.2.2 (i + 1).toNatClampNeg), .int (X.2.2.2.2.2 (i + 2).toNatClampNeg)] dL_law_285 kL_132 fX10_add iX10_add ⟨by decide, by decide⟩ rfl rfl rfl (Nat.le_of_ble_eq_true rfl) (og t2) (mc1 := 0) (ms1 := 0) (mc2 := mc) (ms2 := ms) (Nat.le_of_eq (Nat.zero_add _)) (Nat.le_of_eq (Nat.zero_add _)) (C_X10_add S1 68 (X.2.2.2.2.2 (i + 1).toNatClampNeg) (X.2.2.2.2.2 (i + 2).toNatClampNeg) (b, S2) t2 (qR_mk (some (.int b)) S2)) ?_
  refine r_istore (pc := 288) dL_law_288 (by decide) ?_
  change gW _ _ _ [some (.retAddr 0), some (.ref 0), some (.ref 68), some (.ref 109), some (.ref 110), some (.int i), some (.int k), some (.int b), none] _ _ _ _ _ _
  refine r_aload_n (pc := 290) dL_law_290 rfl ?_
  refine q_callV (S' := S2) (v := some (.int k)) (pc := 291) mX10_thrown 10 [] dL_law_291 kL_126 fX10_thrown iX10_thrown ⟨by decide, by decide⟩ rfl rfl rfl (Nat.le_of_ble_eq_true rfl) (og t3) (mc1 := 0) (ms1 := 0) (mc2 := mc) (ms2 := ms) (Nat.le_of_eq (Nat.zero_add _)) (Nat.le_of_eq (Nat.zero_add _)) (C_X10_thrown S2 68 k t3 (qR_mk (some (.int k)) S2)) ?_
  refine r_iload (pc := 294) dL_law_294 rfl ?_
  refine r_icmp_eq (pc := 296) 301 dL_law_296 (by decide) (fun _ => ?_) (fun z => absurd rfl z)
  refine r_iload (pc := 301) dL_law_301 rfl ?_
  refine r_if_ne (pc := 303) 318 dL_law_303 (by decide) (fun _ => ?_) (fun z => ?_)
  · refine r_goto (pc := 318) 2049 dL_law_318 (by decide) ?_
    exact gW.weak (ls' := lw_ls i) (by simp [gle]) (kk S2 A' t4)
  have k0 := Decidable.not_not.mp z
  have rd := t5 k0
  refine r_aload_n (pc := 306) dL_law_306 rfl ?_
  refine r_iconst (pc := 307) (0 : Int32) dL_law_307 (by decide) ?_
  refine q_lald (S := S2) (pc := 308) dL_law_308 rd ?_
  refine r_iload (pc := 309) dL_law_309 rfl ?_
  refine r_i2l (pc := 311) dL_law_311 ?_
  refine r_lcmp (pc := 312) dL_law_312 ?_
  refine r_if_eq (pc := 313) 318 dL_law_313 (by decide) (fun _ => ?_) (fun z => absurd (lg_cmp_self _) z)
  refine r_goto (pc := 318) 2049 dL_law_318 (by decide) ?_
  exact gW.weak (ls' := lw_ls i) (by simp [gle]) (kk S2 A' t4)
set_option maxRecDepth 100000 in
set_option maxHeartbeats 4000000 in
theorem B_3 (h1 : vp_in (i + 1) X.2.2.2.2.1) (h2 : vp_in (i + 2) X.2.2.2.2.1) (h3 : vp_in (i + 3) X.2.2.2.2.1) (h4 : vp_in (i + 4) X.2.2.2.2.1) (h5 : vp_in (i + 5) X.2.2.2.2.1) (hT : TT S (fun j => F_L_clone j S 0 (X.2.2.2.2.2 (i + 1).toNatClampNeg) (X.2.2.2.2.2 (i + 2).toNatClampNeg) (X.2.2.2.2.2 (i + 3).toNatClampNeg) 109) (fun S1 => F_X10_clone S1 68 (X.2.2.2.2.2 (i + 1).toNatClampNeg) (X.2.2.2.2.2 (i + 2).toNatClampNeg) (X.2.2.2.2.2 (i + 3).toNatClampNeg)) tdJ) (kk : ∀ S2 A', LI S2 A' → gW X mL_law 2049 (lw_ls i) [] S2.1 S2.2 Q mc ms) : gW X mL_law 321 (lw_ls i) [] S.1 S.2 Q (mc + 10) (ms + 1614) := by
  refine r_aload_n (pc := 321) dL_law_321 rfl ?_
  refine r_xload_n (pc := 322) dL_law_322 rfl ?_
  refine r_iload (pc := 323) dL_law_323 rfl ?_
  refine r_iconst (pc := 325) (1 : Int32) dL_law_325 (by decide) ?_
  refine r_iadd (pc := 326) dL_law_326 ?_
  refine r_sld (pc := 327) dL_law_327 h1 ?_
  refine r_xload_n (pc := 328) dL_law_328 rfl ?_
  refine r_iload (pc := 329) dL_law_329 rfl ?_
  refine r_iconst (pc := 331) (2 : Int32) dL_law_331 (by decide) ?_
  refine r_iadd (pc := 332) dL_law_332 ?_
  refine r_sld (pc := 333) dL_law_333 h2 ?_
  refine r_xload_n (pc := 334) dL_law_334 rfl ?_
  refine r_iload (pc := 335) dL_law_335 rfl ?_
  refine r_iconst (pc := 337) (3 : Int32) dL_law_337 (by decide) ?_
  refine r_iadd (pc := 338) dL_law_338 ?_
  refine r_sld (pc := 339) dL_law_339 h3 ?_
  refine r_aload_n (pc := 340) dL_law_340 rfl ?_
  refine q_callSW (pc := 341) mL_clone [.ref 0, .int (X.2.2.2.2.2 (i + 1).toNatClampNeg), .int (X.2.2.2.2.2 (i + 2).toNatClampNeg), .int (X.2.2.2.2.2 (i + 3).toNatClampNeg), .ref 109] dL_law_341 kL_133 wL_clone sL_clone ⟨by decide, by decide⟩ rfl rfl (Nat.le_of_ble_eq_true rfl) (mc1 := 10) (ms1 := 1614) (mc2 := mc) (ms2 := ms) (Nat.le_of_eq (Nat.add_comm _ _)) (Nat.le_of_eq (Nat.add_comm _ _)) (C_L_clone (Q := QW (fun j => F_L_clone j S 0 (X.2.2.2.2.2 (i + 1).toNatClampNeg) (X.2.2.2.2.2 (i + 2).toNatClampNeg) (X.2.2.2.2.2 (i + 3).toNatClampNeg) 109)) S 0 (X.2.2.2.2.2 (i + 1).toNatClampNeg) (X.2.2.2.2.2 (i + 2).toNatClampNeg) (X.2.2.2.2.2 (i + 3).toNatClampNeg) 109 (qw_of hT) qw_nx) (fun v n' h' hq => ?_)
  obtain ⟨j, k, S1, hj, rfl, rfl, rfl⟩ := (show ∃ j k S1, F_L_clone j S 0 (X.2.2.2.2.2 (i + 1).toNatClampNeg) (X.2.2.2.2.2 (i + 2).toNatClampNeg) (X.2.2.2.2.2 (i + 3).toNatClampNeg) 109 = some (k, S1) ∧ v = some (.int k) ∧ n' = S1.1 ∧ h' = S1.2 by
    obtain ⟨j, k, S1, w1, w2, w3, w4⟩ := hq
    cases w2; exact ⟨j, k, S1, w1, rfl, w3, w4⟩)
  obtain ⟨k9, S9, b, S2, A', t1, t2, t3, t4, t5⟩ := hT j
  cases hj.symm.trans t1
  refine r_istore (pc := 344) dL_law_344 (by decide) ?_
  change gW _ _ _ [some (.retAddr 0), some (.ref 0), some (.ref 68), some (.ref 109), some (.ref 110), some (.int i), some (.int k), none, none] _ _ _ _ _ _
  refine r_aload_n (pc := 346) dL_law_346 rfl ?_
  refine r_xload_n (pc := 347) dL_law_347 rfl ?_
  refine r_iload (pc := 348) dL_law_348 rfl ?_
  refine r_iconst (pc := 350) (1 : Int32) dL_law_350 (by decide) ?_
  refine r_iadd (pc := 351) dL_law_351 ?_
  refine r_sld (pc := 352) dL_law_352 h1 ?_
  refine r_xload_n (pc := 353) dL_law_353 rfl ?_
  refine r_iload (pc := 354) dL_law_354 rfl ?_
  refine r_iconst (pc := 356) (2 : Int32) dL_law_356 (by decide) ?_
  refine r_iadd (pc := 357) dL_law_357 ?_
  refine r_sld (pc := 358) dL_law_358 h2 ?_
  refine r_xload_n (pc := 359) dL_law_359 rfl ?_
  refine r_iload (pc := 360) dL_law_360 rfl ?_
  refine r_iconst (pc := 362) (3 : Int32) dL_law_362 (by decide) ?_
  refine r_iadd (pc := 363) dL_law_363 ?_
  refine r_sld (pc := 364) dL_law_364 h3 ?_
  replace t2 : F_X10_clone S1 68 (X.2.2.2.2.2 (i + 1).toNatClampNeg) (X.2.2.2.2.2 (i + 2).toNatClampNeg) (X.2.2.2.2.2 (i + 3).toNatClampNeg) = some (b, S2) := t2
  refine q_callV (S' := S2) (v := some (.int b)) (pc := 365) mX10_clone 10 [.int (X.2.2.2.2.2 (i + 1).toNatClampNeg), .int (X.2.2.2.2.2 (i + 2).toNatClampNeg), .int (X.2.2.2.2.2 (i + 3).toNatClampNeg)] dL_law_365 kL_136 fX10_clone iX10_clone ⟨by decide, by decide⟩ rfl rfl rfl (Nat.le_of_ble_eq_true rfl) (og t2) (mc1 := 0) (ms1 := 0) (mc2 := mc) (ms2 := ms) (Nat.le_of_eq (Nat.zero_add _)) (Nat.le_of_eq (Nat.zero_add _)) (C_X10_clone S1 68 (X.2.2.2.2.2 (i + 1).toNatClampNeg) (X.2.2.2.2.2 (i + 2).toNatClampNeg) (X.2.2.2.2.2 (i + 3).toNatClampNeg) (b, S2) t2 (qR_mk (some (.int b)) S2)) ?_
  refine r_istore (pc := 368) dL_law_368 (by decide) ?_
  change gW _ _ _ [some (.retAddr 0), some (.ref 0), some (.ref 68), some (.ref 109), some (.ref 110), some (.int i), some (.int k), some (.int b), none] _ _ _ _ _ _
  refine r_aload_n (pc := 370) dL_law_370 rfl ?_
  refine q_callV (S' := S2) (v := some (.int k)) (pc := 371) mX10_thrown 10 [] dL_law_371 kL_126 fX10_thrown iX10_thrown ⟨by decide, by decide⟩ rfl rfl rfl (Nat.le_of_ble_eq_true rfl) (og t3) (mc1 := 0) (ms1 := 0) (mc2 := mc) (ms2 := ms) (Nat.le_of_eq (Nat.zero_add _)) (Nat.le_of_eq (Nat.zero_add _)) (C_X10_thrown S2 68 k t3 (qR_mk (some (.int k)) S2)) ?_
  refine r_iload (pc := 374) dL_law_374 rfl ?_
  refine r_icmp_eq (pc := 376) 381 dL_law_376 (by decide) (fun _ => ?_) (fun z => absurd rfl z)
  refine r_iload (pc := 381) dL_law_381 rfl ?_
  refine r_if_ne (pc := 383) 398 dL_law_383 (by decide) (fun _ => ?_) (fun z => ?_)
  · refine r_goto (pc := 398) 2049 dL_law_398 (by decide) ?_
    exact gW.weak (ls' := lw_ls i) (by simp [gle]) (kk S2 A' t4)
  have k0 := Decidable.not_not.mp z
  have rd := t5 k0
  refine r_aload_n (pc := 386) dL_law_386 rfl ?_
  refine r_iconst (pc := 387) (0 : Int32) dL_law_387 (by decide) ?_
  refine q_lald (S := S2) (pc := 388) dL_law_388 rd ?_
  refine r_iload (pc := 389) dL_law_389 rfl ?_
  refine r_i2l (pc := 391) dL_law_391 ?_
  refine r_lcmp (pc := 392) dL_law_392 ?_
  refine r_if_eq (pc := 393) 398 dL_law_393 (by decide) (fun _ => ?_) (fun z => absurd (lg_cmp_self _) z)
  refine r_goto (pc := 398) 2049 dL_law_398 (by decide) ?_
  exact gW.weak (ls' := lw_ls i) (by simp [gle]) (kk S2 A' t4)
set_option maxRecDepth 100000 in
set_option maxHeartbeats 4000000 in
theorem B_4 (h1 : vp_in (i + 1) X.2.2.2.2.1) (h2 : vp_in (i + 2) X.2.2.2.2.1) (h3 : vp_in (i + 3) X.2.2.2.2.1) (h4 : vp_in (i + 4) X.2.2.2.2.1) (h5 : vp_in (i + 5) X.2.2.2.2.1) (hT : TT S (fun j => F_L_detach j S 0 (X.2.2.2.2.2 (i + 1).toNatClampNeg) (X.2.2.2.2.2 (i + 2).toNatClampNeg) 109) (fun S1 => F_X10_detach S1 68 (X.2.2.2.2.2 (i + 1).toNatClampNeg) (X.2.2.2.2.2 (i + 2).toNatClampNeg)) tdJ) (kk : ∀ S2 A', LI S2 A' → gW X mL_law 2049 (lw_ls i) [] S2.1 S2.2 Q mc ms) : gW X mL_law 401 (lw_ls i) [] S.1 S.2 Q (mc + 9) (ms + 1608) := by
  refine r_aload_n (pc := 401) dL_law_401 rfl ?_
  refine r_xload_n (pc := 402) dL_law_402 rfl ?_
  refine r_iload (pc := 403) dL_law_403 rfl ?_
  refine r_iconst (pc := 405) (1 : Int32) dL_law_405 (by decide) ?_
  refine r_iadd (pc := 406) dL_law_406 ?_
  refine r_sld (pc := 407) dL_law_407 h1 ?_
  refine r_xload_n (pc := 408) dL_law_408 rfl ?_
  refine r_iload (pc := 409) dL_law_409 rfl ?_
  refine r_iconst (pc := 411) (2 : Int32) dL_law_411 (by decide) ?_
  refine r_iadd (pc := 412) dL_law_412 ?_
  refine r_sld (pc := 413) dL_law_413 h2 ?_
  refine r_aload_n (pc := 414) dL_law_414 rfl ?_
  refine q_callSW (pc := 415) mL_detach [.ref 0, .int (X.2.2.2.2.2 (i + 1).toNatClampNeg), .int (X.2.2.2.2.2 (i + 2).toNatClampNeg), .ref 109] dL_law_415 kL_137 wL_detach sL_detach ⟨by decide, by decide⟩ rfl rfl (Nat.le_of_ble_eq_true rfl) (mc1 := 9) (ms1 := 1608) (mc2 := mc) (ms2 := ms) (Nat.le_of_eq (Nat.add_comm _ _)) (Nat.le_of_eq (Nat.add_comm _ _)) (C_L_detach (Q := QW (fun j => F_L_detach j S 0 (X.2.2.2.2.2 (i + 1).toNatClampNeg) (X.2.2.2.2.2 (i + 2).toNatClampNeg) 109)) S 0 (X.2.2.2.2.2 (i + 1).toNatClampNeg) (X.2.2.2.2.2 (i + 2).toNatClampNeg) 109 (qw_of hT) qw_nx) (fun v n' h' hq => ?_)
  obtain ⟨j, k, S1, hj, rfl, rfl, rfl⟩ := (show ∃ j k S1, F_L_detach j S 0 (X.2.2.2.2.2 (i + 1).toNatClampNeg) (X.2.2.2.2.2 (i + 2).toNatClampNeg) 109 = some (k, S1) ∧ v = some (.int k) ∧ n' = S1.1 ∧ h' = S1.2 by
    obtain ⟨j, k, S1, w1, w2, w3, w4⟩ := hq
    cases w2; exact ⟨j, k, S1, w1, rfl, w3, w4⟩)
  obtain ⟨k9, S9, b, S2, A', t1, t2, t3, t4, t5⟩ := hT j
  cases hj.symm.trans t1
  refine r_istore (pc := 418) dL_law_418 (by decide) ?_
  change gW _ _ _ [some (.retAddr 0), some (.ref 0), some (.ref 68), some (.ref 109), some (.ref 110), some (.int i), some (.int k), none, none] _ _ _ _ _ _
  refine r_aload_n (pc := 420) dL_law_420 rfl ?_
  refine r_xload_n (pc := 421) dL_law_421 rfl ?_
  refine r_iload (pc := 422) dL_law_422 rfl ?_
  refine r_iconst (pc := 424) (1 : Int32) dL_law_424 (by decide) ?_
  refine r_iadd (pc := 425) dL_law_425 ?_
  refine r_sld (pc := 426) dL_law_426 h1 ?_
  refine r_xload_n (pc := 427) dL_law_427 rfl ?_
  refine r_iload (pc := 428) dL_law_428 rfl ?_
  refine r_iconst (pc := 430) (2 : Int32) dL_law_430 (by decide) ?_
  refine r_iadd (pc := 431) dL_law_431 ?_
  refine r_sld (pc := 432) dL_law_432 h2 ?_
  replace t2 : F_X10_detach S1 68 (X.2.2.2.2.2 (i + 1).toNatClampNeg) (X.2.2.2.2.2 (i + 2).toNatClampNeg) = some (b, S2) := t2
  refine q_callV (S' := S2) (v := some (.int b)) (pc := 433) mX10_detach 10 [.int (X.2.2.2.2.2 (i + 1).toNatClampNeg), .int (X.2.2.2.2.2 (i + 2).toNatClampNeg)] dL_law_433 kL_139 fX10_detach iX10_detach ⟨by decide, by decide⟩ rfl rfl rfl (Nat.le_of_ble_eq_true rfl) (og t2) (mc1 := 0) (ms1 := 0) (mc2 := mc) (ms2 := ms) (Nat.le_of_eq (Nat.zero_add _)) (Nat.le_of_eq (Nat.zero_add _)) (C_X10_detach S1 68 (X.2.2.2.2.2 (i + 1).toNatClampNeg) (X.2.2.2.2.2 (i + 2).toNatClampNeg) (b, S2) t2 (qR_mk (some (.int b)) S2)) ?_
  refine r_istore (pc := 436) dL_law_436 (by decide) ?_
  change gW _ _ _ [some (.retAddr 0), some (.ref 0), some (.ref 68), some (.ref 109), some (.ref 110), some (.int i), some (.int k), some (.int b), none] _ _ _ _ _ _
  refine r_aload_n (pc := 438) dL_law_438 rfl ?_
  refine q_callV (S' := S2) (v := some (.int k)) (pc := 439) mX10_thrown 10 [] dL_law_439 kL_126 fX10_thrown iX10_thrown ⟨by decide, by decide⟩ rfl rfl rfl (Nat.le_of_ble_eq_true rfl) (og t3) (mc1 := 0) (ms1 := 0) (mc2 := mc) (ms2 := ms) (Nat.le_of_eq (Nat.zero_add _)) (Nat.le_of_eq (Nat.zero_add _)) (C_X10_thrown S2 68 k t3 (qR_mk (some (.int k)) S2)) ?_
  refine r_iload (pc := 442) dL_law_442 rfl ?_
  refine r_icmp_eq (pc := 444) 449 dL_law_444 (by decide) (fun _ => ?_) (fun z => absurd rfl z)
  refine r_iload (pc := 449) dL_law_449 rfl ?_
  refine r_if_ne (pc := 451) 466 dL_law_451 (by decide) (fun _ => ?_) (fun z => ?_)
  · refine r_goto (pc := 466) 2049 dL_law_466 (by decide) ?_
    exact gW.weak (ls' := lw_ls i) (by simp [gle]) (kk S2 A' t4)
  have k0 := Decidable.not_not.mp z
  have rd := t5 k0
  refine r_aload_n (pc := 454) dL_law_454 rfl ?_
  refine r_iconst (pc := 455) (0 : Int32) dL_law_455 (by decide) ?_
  refine q_lald (S := S2) (pc := 456) dL_law_456 rd ?_
  refine r_iload (pc := 457) dL_law_457 rfl ?_
  refine r_i2l (pc := 459) dL_law_459 ?_
  refine r_lcmp (pc := 460) dL_law_460 ?_
  refine r_if_eq (pc := 461) 466 dL_law_461 (by decide) (fun _ => ?_) (fun z => absurd (lg_cmp_self _) z)
  refine r_goto (pc := 466) 2049 dL_law_466 (by decide) ?_
  exact gW.weak (ls' := lw_ls i) (by simp [gle]) (kk S2 A' t4)
set_option maxRecDepth 100000 in
set_option maxHeartbeats 4000000 in
theorem B_5 (h1 : vp_in (i + 1) X.2.2.2.2.1) (h2 : vp_in (i + 2) X.2.2.2.2.1) (h3 : vp_in (i + 3) X.2.2.2.2.1) (h4 : vp_in (i + 4) X.2.2.2.2.1) (h5 : vp_in (i + 5) X.2.2.2.2.1) (hT : TT S (fun j => F_L_moveBlock j S 0 (X.2.2.2.2.2 (i + 1).toNatClampNeg) (X.2.2.2.2.2 (i + 2).toNatClampNeg) (X.2.2.2.2.2 (i + 3).toNatClampNeg) (X.2.2.2.2.2 (i + 4).toNatClampNeg) (X.2.2.2.2.2 (i + 5).toNatClampNeg) 109) (fun S1 => F_X10_moveBlock S1 68 (X.2.2.2.2.2 (i + 1).toNatClampNeg) (X.2.2.2.2.2 (i + 2).toNatClampNeg) (X.2.2.2.2.2 (i + 3).toNatClampNeg) (X.2.2.2.2.2 (i + 4).toNatClampNeg) (X.2.2.2.2.2 (i + 5).toNatClampNeg)) tdJ) (kk : ∀ S2 A', LI S2 A' → gW X mL_law 2049 (lw_ls i) [] S2.1 S2.2 Q mc ms) : gW X mL_law 469 (lw_ls i) [] S.1 S.2 Q (mc + 12) (ms + 1626) := by
  refine r_aload_n (pc := 469) dL_law_469 rfl ?_
  refine r_xload_n (pc := 470) dL_law_470 rfl ?_
  refine r_iload (pc := 471) dL_law_471 rfl ?_
  refine r_iconst (pc := 473) (1 : Int32) dL_law_473 (by decide) ?_
  refine r_iadd (pc := 474) dL_law_474 ?_
  refine r_sld (pc := 475) dL_law_475 h1 ?_
  refine r_xload_n (pc := 476) dL_law_476 rfl ?_
  refine r_iload (pc := 477) dL_law_477 rfl ?_
  refine r_iconst (pc := 479) (2 : Int32) dL_law_479 (by decide) ?_
  refine r_iadd (pc := 480) dL_law_480 ?_
  refine r_sld (pc := 481) dL_law_481 h2 ?_
  refine r_xload_n (pc := 482) dL_law_482 rfl ?_
  refine r_iload (pc := 483) dL_law_483 rfl ?_
  refine r_iconst (pc := 485) (3 : Int32) dL_law_485 (by decide) ?_
  refine r_iadd (pc := 486) dL_law_486 ?_
  refine r_sld (pc := 487) dL_law_487 h3 ?_
  refine r_xload_n (pc := 488) dL_law_488 rfl ?_
  refine r_iload (pc := 489) dL_law_489 rfl ?_
  refine r_iconst (pc := 491) (4 : Int32) dL_law_491 (by decide) ?_
  refine r_iadd (pc := 492) dL_law_492 ?_
  refine r_sld (pc := 493) dL_law_493 h4 ?_
  refine r_xload_n (pc := 494) dL_law_494 rfl ?_
  refine r_iload (pc := 495) dL_law_495 rfl ?_
  refine r_iconst (pc := 497) (5 : Int32) dL_law_497 (by decide) ?_
  refine r_iadd (pc := 498) dL_law_498 ?_
  refine r_sld (pc := 499) dL_law_499 h5 ?_
  refine r_aload_n (pc := 500) dL_law_500 rfl ?_
  refine q_callSW (pc := 501) mL_moveBlock [.ref 0, .int (X.2.2.2.2.2 (i + 1).toNatClampNeg), .int (X.2.2.2.2.2 (i + 2).toNatClampNeg), .int (X.2.2.2.2.2 (i + 3).toNatClampNeg), .int (X.2.2.2.2.2 (i + 4).toNatClampNeg), .int (X.2.2.2.2.2 (i + 5).toNatClampNeg), .ref 109] dL_law_501 kL_140 wL_moveBlock sL_moveBlock ⟨by decide, by decide⟩ rfl rfl (Nat.le_of_ble_eq_true rfl) (mc1 := 12) (ms1 := 1626) (mc2 := mc) (ms2 := ms) (Nat.le_of_eq (Nat.add_comm _ _)) (Nat.le_of_eq (Nat.add_comm _ _)) (C_L_moveBlock (Q := QW (fun j => F_L_moveBlock j S 0 (X.2.2.2.2.2 (i + 1).toNatClampNeg) (X.2.2.2.2.2 (i + 2).toNatClampNeg) (X.2.2.2.2.2 (i + 3).toNatClampNeg) (X.2.2.2.2.2 (i + 4).toNatClampNeg) (X.2.2.2.2.2 (i + 5).toNatClampNeg) 109)) S 0 (X.2.2.2.2.2 (i + 1).toNatClampNeg) (X.2.2.2.2.2 (i + 2).toNatClampNeg) (X.2.2.2.2.2 (i + 3).toNatClampNeg) (X.2.2.2.2.2 (i + 4).toNatClampNeg) (X.2.2.2.2.2 (i + 5).toNatClampNeg) 109 (qw_of hT) qw_nx) (fun v n' h' hq => ?_)
  obtain ⟨j, k, S1, hj, rfl, rfl, rfl⟩ := (show ∃ j k S1, F_L_moveBlock j S 0 (X.2.2.2.2.2 (i + 1).toNatClampNeg) (X.2.2.2.2.2 (i + 2).toNatClampNeg) (X.2.2.2.2.2 (i + 3).toNatClampNeg) (X.2.2.2.2.2 (i + 4).toNatClampNeg) (X.2.2.2.2.2 (i + 5).toNatClampNeg) 109 = some (k, S1) ∧ v = some (.int k) ∧ n' = S1.1 ∧ h' = S1.2 by
    obtain ⟨j, k, S1, w1, w2, w3, w4⟩ := hq
    cases w2; exact ⟨j, k, S1, w1, rfl, w3, w4⟩)
  obtain ⟨k9, S9, b, S2, A', t1, t2, t3, t4, t5⟩ := hT j
  cases hj.symm.trans t1
  refine r_istore (pc := 504) dL_law_504 (by decide) ?_
  change gW _ _ _ [some (.retAddr 0), some (.ref 0), some (.ref 68), some (.ref 109), some (.ref 110), some (.int i), some (.int k), none, none] _ _ _ _ _ _
  refine r_aload_n (pc := 506) dL_law_506 rfl ?_
  refine r_xload_n (pc := 507) dL_law_507 rfl ?_
  refine r_iload (pc := 508) dL_law_508 rfl ?_
  refine r_iconst (pc := 510) (1 : Int32) dL_law_510 (by decide) ?_
  refine r_iadd (pc := 511) dL_law_511 ?_
  refine r_sld (pc := 512) dL_law_512 h1 ?_
  refine r_xload_n (pc := 513) dL_law_513 rfl ?_
  refine r_iload (pc := 514) dL_law_514 rfl ?_
  refine r_iconst (pc := 516) (2 : Int32) dL_law_516 (by decide) ?_
  refine r_iadd (pc := 517) dL_law_517 ?_
  refine r_sld (pc := 518) dL_law_518 h2 ?_
  refine r_xload_n (pc := 519) dL_law_519 rfl ?_
  refine r_iload (pc := 520) dL_law_520 rfl ?_
  refine r_iconst (pc := 522) (3 : Int32) dL_law_522 (by decide) ?_
  refine r_iadd (pc := 523) dL_law_523 ?_
  refine r_sld (pc := 524) dL_law_524 h3 ?_
  refine r_xload_n (pc := 525) dL_law_525 rfl ?_
  refine r_iload (pc := 526) dL_law_526 rfl ?_
  refine r_iconst (pc := 528) (4 : Int32) dL_law_528 (by decide) ?_
  refine r_iadd (pc := 529) dL_law_529 ?_
  refine r_sld (pc := 530) dL_law_530 h4 ?_
  refine r_xload_n (pc := 531) dL_law_531 rfl ?_
  refine r_iload (pc := 532) dL_law_532 rfl ?_
  refine r_iconst (pc := 534) (5 : Int32) dL_law_534 (by decide) ?_
  refine r_iadd (pc := 535) dL_law_535 ?_
  refine r_sld (pc := 536) dL_law_536 h5 ?_
  replace t2 : F_X10_moveBlock S1 68 (X.2.2.2.2.2 (i + 1).toNatClampNeg) (X.2.2.2.2.2 (i + 2).toNatClampNeg) (X.2.2.2.2.2 (i + 3).toNatClampNeg) (X.2.2.2.2.2 (i + 4).toNatClampNeg) (X.2.2.2.2.2 (i + 5).toNatClampNeg) = some (b, S2) := t2
  refine q_callV (S' := S2) (v := some (.int b)) (pc := 537) mX10_moveBlock 10 [.int (X.2.2.2.2.2 (i + 1).toNatClampNeg), .int (X.2.2.2.2.2 (i + 2).toNatClampNeg), .int (X.2.2.2.2.2 (i + 3).toNatClampNeg), .int (X.2.2.2.2.2 (i + 4).toNatClampNeg), .int (X.2.2.2.2.2 (i + 5).toNatClampNeg)] dL_law_537 kL_143 fX10_moveBlock iX10_moveBlock ⟨by decide, by decide⟩ rfl rfl rfl (Nat.le_of_ble_eq_true rfl) (og t2) (mc1 := 0) (ms1 := 0) (mc2 := mc) (ms2 := ms) (Nat.le_of_eq (Nat.zero_add _)) (Nat.le_of_eq (Nat.zero_add _)) (C_X10_moveBlock S1 68 (X.2.2.2.2.2 (i + 1).toNatClampNeg) (X.2.2.2.2.2 (i + 2).toNatClampNeg) (X.2.2.2.2.2 (i + 3).toNatClampNeg) (X.2.2.2.2.2 (i + 4).toNatClampNeg) (X.2.2.2.2.2 (i + 5).toNatClampNeg) (b, S2) t2 (qR_mk (some (.int b)) S2)) ?_
  refine r_istore (pc := 540) dL_law_540 (by decide) ?_
  change gW _ _ _ [some (.retAddr 0), some (.ref 0), some (.ref 68), some (.ref 109), some (.ref 110), some (.int i), some (.int k), some (.int b), none] _ _ _ _ _ _
  refine r_aload_n (pc := 542) dL_law_542 rfl ?_
  refine q_callV (S' := S2) (v := some (.int k)) (pc := 543) mX10_thrown 10 [] dL_law_543 kL_126 fX10_thrown iX10_thrown ⟨by decide, by decide⟩ rfl rfl rfl (Nat.le_of_ble_eq_true rfl) (og t3) (mc1 := 0) (ms1 := 0) (mc2 := mc) (ms2 := ms) (Nat.le_of_eq (Nat.zero_add _)) (Nat.le_of_eq (Nat.zero_add _)) (C_X10_thrown S2 68 k t3 (qR_mk (some (.int k)) S2)) ?_
  refine r_iload (pc := 546) dL_law_546 rfl ?_
  refine r_icmp_eq (pc := 548) 553 dL_law_548 (by decide) (fun _ => ?_) (fun z => absurd rfl z)
  refine r_iload (pc := 553) dL_law_553 rfl ?_
  refine r_if_ne (pc := 555) 570 dL_law_555 (by decide) (fun _ => ?_) (fun z => ?_)
  · refine r_goto (pc := 570) 2049 dL_law_570 (by decide) ?_
    exact gW.weak (ls' := lw_ls i) (by simp [gle]) (kk S2 A' t4)
  have k0 := Decidable.not_not.mp z
  have rd := t5 k0
  refine r_aload_n (pc := 558) dL_law_558 rfl ?_
  refine r_iconst (pc := 559) (0 : Int32) dL_law_559 (by decide) ?_
  refine q_lald (S := S2) (pc := 560) dL_law_560 rd ?_
  refine r_iload (pc := 561) dL_law_561 rfl ?_
  refine r_i2l (pc := 563) dL_law_563 ?_
  refine r_lcmp (pc := 564) dL_law_564 ?_
  refine r_if_eq (pc := 565) 570 dL_law_565 (by decide) (fun _ => ?_) (fun z => absurd (lg_cmp_self _) z)
  refine r_goto (pc := 570) 2049 dL_law_570 (by decide) ?_
  exact gW.weak (ls' := lw_ls i) (by simp [gle]) (kk S2 A' t4)
set_option maxRecDepth 100000 in
set_option maxHeartbeats 4000000 in
theorem B_6 (h1 : vp_in (i + 1) X.2.2.2.2.1) (h2 : vp_in (i + 2) X.2.2.2.2.1) (h3 : vp_in (i + 3) X.2.2.2.2.1) (h4 : vp_in (i + 4) X.2.2.2.2.1) (h5 : vp_in (i + 5) X.2.2.2.2.1) (hT : TT S (fun j => F_L_indent j S 0 (X.2.2.2.2.2 (i + 1).toNatClampNeg) 109) (fun S1 => F_X10_indent S1 68 (X.2.2.2.2.2 (i + 1).toNatClampNeg)) tdJ) (kk : ∀ S2 A', LI S2 A' → gW X mL_law 2049 (lw_ls i) [] S2.1 S2.2 Q mc ms) : gW X mL_law 573 (lw_ls i) [] S.1 S.2 Q (mc + 8) (ms + 1602) := by
  refine r_aload_n (pc := 573) dL_law_573 rfl ?_
  refine r_xload_n (pc := 574) dL_law_574 rfl ?_
  refine r_iload (pc := 575) dL_law_575 rfl ?_
  refine r_iconst (pc := 577) (1 : Int32) dL_law_577 (by decide) ?_
  refine r_iadd (pc := 578) dL_law_578 ?_
  refine r_sld (pc := 579) dL_law_579 h1 ?_
  refine r_aload_n (pc := 580) dL_law_580 rfl ?_
  refine q_callSW (pc := 581) mL_indent [.ref 0, .int (X.2.2.2.2.2 (i + 1).toNatClampNeg), .ref 109] dL_law_581 kL_144 wL_indent sL_indent ⟨by decide, by decide⟩ rfl rfl (Nat.le_of_ble_eq_true rfl) (mc1 := 8) (ms1 := 1602) (mc2 := mc) (ms2 := ms) (Nat.le_of_eq (Nat.add_comm _ _)) (Nat.le_of_eq (Nat.add_comm _ _)) (C_L_indent (Q := QW (fun j => F_L_indent j S 0 (X.2.2.2.2.2 (i + 1).toNatClampNeg) 109)) S 0 (X.2.2.2.2.2 (i + 1).toNatClampNeg) 109 (qw_of hT) qw_nx) (fun v n' h' hq => ?_)
  obtain ⟨j, k, S1, hj, rfl, rfl, rfl⟩ := (show ∃ j k S1, F_L_indent j S 0 (X.2.2.2.2.2 (i + 1).toNatClampNeg) 109 = some (k, S1) ∧ v = some (.int k) ∧ n' = S1.1 ∧ h' = S1.2 by
    obtain ⟨j, k, S1, w1, w2, w3, w4⟩ := hq
    cases w2; exact ⟨j, k, S1, w1, rfl, w3, w4⟩)
  obtain ⟨k9, S9, b, S2, A', t1, t2, t3, t4, t5⟩ := hT j
  cases hj.symm.trans t1
  refine r_istore (pc := 584) dL_law_584 (by decide) ?_
  change gW _ _ _ [some (.retAddr 0), some (.ref 0), some (.ref 68), some (.ref 109), some (.ref 110), some (.int i), some (.int k), none, none] _ _ _ _ _ _
  refine r_aload_n (pc := 586) dL_law_586 rfl ?_
  refine r_xload_n (pc := 587) dL_law_587 rfl ?_
  refine r_iload (pc := 588) dL_law_588 rfl ?_
  refine r_iconst (pc := 590) (1 : Int32) dL_law_590 (by decide) ?_
  refine r_iadd (pc := 591) dL_law_591 ?_
  refine r_sld (pc := 592) dL_law_592 h1 ?_
  replace t2 : F_X10_indent S1 68 (X.2.2.2.2.2 (i + 1).toNatClampNeg) = some (b, S2) := t2
  refine q_callV (S' := S2) (v := some (.int b)) (pc := 593) mX10_indent 10 [.int (X.2.2.2.2.2 (i + 1).toNatClampNeg)] dL_law_593 kL_146 fX10_indent iX10_indent ⟨by decide, by decide⟩ rfl rfl rfl (Nat.le_of_ble_eq_true rfl) (og t2) (mc1 := 0) (ms1 := 0) (mc2 := mc) (ms2 := ms) (Nat.le_of_eq (Nat.zero_add _)) (Nat.le_of_eq (Nat.zero_add _)) (C_X10_indent S1 68 (X.2.2.2.2.2 (i + 1).toNatClampNeg) (b, S2) t2 (qR_mk (some (.int b)) S2)) ?_
  refine r_istore (pc := 596) dL_law_596 (by decide) ?_
  change gW _ _ _ [some (.retAddr 0), some (.ref 0), some (.ref 68), some (.ref 109), some (.ref 110), some (.int i), some (.int k), some (.int b), none] _ _ _ _ _ _
  refine r_aload_n (pc := 598) dL_law_598 rfl ?_
  refine q_callV (S' := S2) (v := some (.int k)) (pc := 599) mX10_thrown 10 [] dL_law_599 kL_126 fX10_thrown iX10_thrown ⟨by decide, by decide⟩ rfl rfl rfl (Nat.le_of_ble_eq_true rfl) (og t3) (mc1 := 0) (ms1 := 0) (mc2 := mc) (ms2 := ms) (Nat.le_of_eq (Nat.zero_add _)) (Nat.le_of_eq (Nat.zero_add _)) (C_X10_thrown S2 68 k t3 (qR_mk (some (.int k)) S2)) ?_
  refine r_iload (pc := 602) dL_law_602 rfl ?_
  refine r_icmp_eq (pc := 604) 609 dL_law_604 (by decide) (fun _ => ?_) (fun z => absurd rfl z)
  refine r_iload (pc := 609) dL_law_609 rfl ?_
  refine r_if_ne (pc := 611) 626 dL_law_611 (by decide) (fun _ => ?_) (fun z => ?_)
  · refine r_goto (pc := 626) 2049 dL_law_626 (by decide) ?_
    exact gW.weak (ls' := lw_ls i) (by simp [gle]) (kk S2 A' t4)
  have k0 := Decidable.not_not.mp z
  have rd := t5 k0
  refine r_aload_n (pc := 614) dL_law_614 rfl ?_
  refine r_iconst (pc := 615) (0 : Int32) dL_law_615 (by decide) ?_
  refine q_lald (S := S2) (pc := 616) dL_law_616 rd ?_
  refine r_iload (pc := 617) dL_law_617 rfl ?_
  refine r_i2l (pc := 619) dL_law_619 ?_
  refine r_lcmp (pc := 620) dL_law_620 ?_
  refine r_if_eq (pc := 621) 626 dL_law_621 (by decide) (fun _ => ?_) (fun z => absurd (lg_cmp_self _) z)
  refine r_goto (pc := 626) 2049 dL_law_626 (by decide) ?_
  exact gW.weak (ls' := lw_ls i) (by simp [gle]) (kk S2 A' t4)
set_option maxRecDepth 100000 in
set_option maxHeartbeats 4000000 in
theorem B_7 (h1 : vp_in (i + 1) X.2.2.2.2.1) (h2 : vp_in (i + 2) X.2.2.2.2.1) (h3 : vp_in (i + 3) X.2.2.2.2.1) (h4 : vp_in (i + 4) X.2.2.2.2.1) (h5 : vp_in (i + 5) X.2.2.2.2.1) (hT : TT S (fun j => F_L_outdent j S 0 (X.2.2.2.2.2 (i + 1).toNatClampNeg) 109) (fun S1 => F_X10_outdent S1 68 (X.2.2.2.2.2 (i + 1).toNatClampNeg)) tdJ) (kk : ∀ S2 A', LI S2 A' → gW X mL_law 2049 (lw_ls i) [] S2.1 S2.2 Q mc ms) : gW X mL_law 629 (lw_ls i) [] S.1 S.2 Q (mc + 8) (ms + 1602) := by
  refine r_aload_n (pc := 629) dL_law_629 rfl ?_
  refine r_xload_n (pc := 630) dL_law_630 rfl ?_
  refine r_iload (pc := 631) dL_law_631 rfl ?_
  refine r_iconst (pc := 633) (1 : Int32) dL_law_633 (by decide) ?_
  refine r_iadd (pc := 634) dL_law_634 ?_
  refine r_sld (pc := 635) dL_law_635 h1 ?_
  refine r_aload_n (pc := 636) dL_law_636 rfl ?_
  refine q_callSW (pc := 637) mL_outdent [.ref 0, .int (X.2.2.2.2.2 (i + 1).toNatClampNeg), .ref 109] dL_law_637 kL_147 wL_outdent sL_outdent ⟨by decide, by decide⟩ rfl rfl (Nat.le_of_ble_eq_true rfl) (mc1 := 8) (ms1 := 1602) (mc2 := mc) (ms2 := ms) (Nat.le_of_eq (Nat.add_comm _ _)) (Nat.le_of_eq (Nat.add_comm _ _)) (C_L_outdent (Q := QW (fun j => F_L_outdent j S 0 (X.2.2.2.2.2 (i + 1).toNatClampNeg) 109)) S 0 (X.2.2.2.2.2 (i + 1).toNatClampNeg) 109 (qw_of hT) qw_nx) (fun v n' h' hq => ?_)
  obtain ⟨j, k, S1, hj, rfl, rfl, rfl⟩ := (show ∃ j k S1, F_L_outdent j S 0 (X.2.2.2.2.2 (i + 1).toNatClampNeg) 109 = some (k, S1) ∧ v = some (.int k) ∧ n' = S1.1 ∧ h' = S1.2 by
    obtain ⟨j, k, S1, w1, w2, w3, w4⟩ := hq
    cases w2; exact ⟨j, k, S1, w1, rfl, w3, w4⟩)
  obtain ⟨k9, S9, b, S2, A', t1, t2, t3, t4, t5⟩ := hT j
  cases hj.symm.trans t1
  refine r_istore (pc := 640) dL_law_640 (by decide) ?_
  change gW _ _ _ [some (.retAddr 0), some (.ref 0), some (.ref 68), some (.ref 109), some (.ref 110), some (.int i), some (.int k), none, none] _ _ _ _ _ _
  refine r_aload_n (pc := 642) dL_law_642 rfl ?_
  refine r_xload_n (pc := 643) dL_law_643 rfl ?_
  refine r_iload (pc := 644) dL_law_644 rfl ?_
  refine r_iconst (pc := 646) (1 : Int32) dL_law_646 (by decide) ?_
  refine r_iadd (pc := 647) dL_law_647 ?_
  refine r_sld (pc := 648) dL_law_648 h1 ?_
  replace t2 : F_X10_outdent S1 68 (X.2.2.2.2.2 (i + 1).toNatClampNeg) = some (b, S2) := t2
  refine q_callV (S' := S2) (v := some (.int b)) (pc := 649) mX10_outdent 10 [.int (X.2.2.2.2.2 (i + 1).toNatClampNeg)] dL_law_649 kL_149 fX10_outdent iX10_outdent ⟨by decide, by decide⟩ rfl rfl rfl (Nat.le_of_ble_eq_true rfl) (og t2) (mc1 := 0) (ms1 := 0) (mc2 := mc) (ms2 := ms) (Nat.le_of_eq (Nat.zero_add _)) (Nat.le_of_eq (Nat.zero_add _)) (C_X10_outdent S1 68 (X.2.2.2.2.2 (i + 1).toNatClampNeg) (b, S2) t2 (qR_mk (some (.int b)) S2)) ?_
  refine r_istore (pc := 652) dL_law_652 (by decide) ?_
  change gW _ _ _ [some (.retAddr 0), some (.ref 0), some (.ref 68), some (.ref 109), some (.ref 110), some (.int i), some (.int k), some (.int b), none] _ _ _ _ _ _
  refine r_aload_n (pc := 654) dL_law_654 rfl ?_
  refine q_callV (S' := S2) (v := some (.int k)) (pc := 655) mX10_thrown 10 [] dL_law_655 kL_126 fX10_thrown iX10_thrown ⟨by decide, by decide⟩ rfl rfl rfl (Nat.le_of_ble_eq_true rfl) (og t3) (mc1 := 0) (ms1 := 0) (mc2 := mc) (ms2 := ms) (Nat.le_of_eq (Nat.zero_add _)) (Nat.le_of_eq (Nat.zero_add _)) (C_X10_thrown S2 68 k t3 (qR_mk (some (.int k)) S2)) ?_
  refine r_iload (pc := 658) dL_law_658 rfl ?_
  refine r_icmp_eq (pc := 660) 665 dL_law_660 (by decide) (fun _ => ?_) (fun z => absurd rfl z)
  refine r_iload (pc := 665) dL_law_665 rfl ?_
  refine r_if_ne (pc := 667) 682 dL_law_667 (by decide) (fun _ => ?_) (fun z => ?_)
  · refine r_goto (pc := 682) 2049 dL_law_682 (by decide) ?_
    exact gW.weak (ls' := lw_ls i) (by simp [gle]) (kk S2 A' t4)
  have k0 := Decidable.not_not.mp z
  have rd := t5 k0
  refine r_aload_n (pc := 670) dL_law_670 rfl ?_
  refine r_iconst (pc := 671) (0 : Int32) dL_law_671 (by decide) ?_
  refine q_lald (S := S2) (pc := 672) dL_law_672 rd ?_
  refine r_iload (pc := 673) dL_law_673 rfl ?_
  refine r_i2l (pc := 675) dL_law_675 ?_
  refine r_lcmp (pc := 676) dL_law_676 ?_
  refine r_if_eq (pc := 677) 682 dL_law_677 (by decide) (fun _ => ?_) (fun z => absurd (lg_cmp_self _) z)
  refine r_goto (pc := 682) 2049 dL_law_682 (by decide) ?_
  exact gW.weak (ls' := lw_ls i) (by simp [gle]) (kk S2 A' t4)
set_option maxRecDepth 100000 in
set_option maxHeartbeats 4000000 in
theorem B_8 (h1 : vp_in (i + 1) X.2.2.2.2.1) (h2 : vp_in (i + 2) X.2.2.2.2.1) (h3 : vp_in (i + 3) X.2.2.2.2.1) (h4 : vp_in (i + 4) X.2.2.2.2.1) (h5 : vp_in (i + 5) X.2.2.2.2.1) (hT : TT S (fun j => F_L_rename j S 0 (X.2.2.2.2.2 (i + 1).toNatClampNeg) 109) (fun S1 => F_X10_rename S1 68 (X.2.2.2.2.2 (i + 1).toNatClampNeg)) tdJ) (kk : ∀ S2 A', LI S2 A' → gW X mL_law 2049 (lw_ls i) [] S2.1 S2.2 Q mc ms) : gW X mL_law 685 (lw_ls i) [] S.1 S.2 Q (mc + 9) (ms + 1608) := by
  refine r_aload_n (pc := 685) dL_law_685 rfl ?_
  refine r_xload_n (pc := 686) dL_law_686 rfl ?_
  refine r_iload (pc := 687) dL_law_687 rfl ?_
  refine r_iconst (pc := 689) (1 : Int32) dL_law_689 (by decide) ?_
  refine r_iadd (pc := 690) dL_law_690 ?_
  refine r_sld (pc := 691) dL_law_691 h1 ?_
  refine r_aload_n (pc := 692) dL_law_692 rfl ?_
  refine q_callSW (pc := 693) mL_rename [.ref 0, .int (X.2.2.2.2.2 (i + 1).toNatClampNeg), .ref 109] dL_law_693 kL_150 wL_rename sL_rename ⟨by decide, by decide⟩ rfl rfl (Nat.le_of_ble_eq_true rfl) (mc1 := 9) (ms1 := 1608) (mc2 := mc) (ms2 := ms) (Nat.le_of_eq (Nat.add_comm _ _)) (Nat.le_of_eq (Nat.add_comm _ _)) (C_L_rename (Q := QW (fun j => F_L_rename j S 0 (X.2.2.2.2.2 (i + 1).toNatClampNeg) 109)) S 0 (X.2.2.2.2.2 (i + 1).toNatClampNeg) 109 (qw_of hT) qw_nx) (fun v n' h' hq => ?_)
  obtain ⟨j, k, S1, hj, rfl, rfl, rfl⟩ := (show ∃ j k S1, F_L_rename j S 0 (X.2.2.2.2.2 (i + 1).toNatClampNeg) 109 = some (k, S1) ∧ v = some (.int k) ∧ n' = S1.1 ∧ h' = S1.2 by
    obtain ⟨j, k, S1, w1, w2, w3, w4⟩ := hq
    cases w2; exact ⟨j, k, S1, w1, rfl, w3, w4⟩)
  obtain ⟨k9, S9, b, S2, A', t1, t2, t3, t4, t5⟩ := hT j
  cases hj.symm.trans t1
  refine r_istore (pc := 696) dL_law_696 (by decide) ?_
  change gW _ _ _ [some (.retAddr 0), some (.ref 0), some (.ref 68), some (.ref 109), some (.ref 110), some (.int i), some (.int k), none, none] _ _ _ _ _ _
  refine r_aload_n (pc := 698) dL_law_698 rfl ?_
  refine r_xload_n (pc := 699) dL_law_699 rfl ?_
  refine r_iload (pc := 700) dL_law_700 rfl ?_
  refine r_iconst (pc := 702) (1 : Int32) dL_law_702 (by decide) ?_
  refine r_iadd (pc := 703) dL_law_703 ?_
  refine r_sld (pc := 704) dL_law_704 h1 ?_
  replace t2 : F_X10_rename S1 68 (X.2.2.2.2.2 (i + 1).toNatClampNeg) = some (b, S2) := t2
  refine q_callV (S' := S2) (v := some (.int b)) (pc := 705) mX10_rename 10 [.int (X.2.2.2.2.2 (i + 1).toNatClampNeg)] dL_law_705 kL_152 fX10_rename iX10_rename ⟨by decide, by decide⟩ rfl rfl rfl (Nat.le_of_ble_eq_true rfl) (og t2) (mc1 := 0) (ms1 := 0) (mc2 := mc) (ms2 := ms) (Nat.le_of_eq (Nat.zero_add _)) (Nat.le_of_eq (Nat.zero_add _)) (C_X10_rename S1 68 (X.2.2.2.2.2 (i + 1).toNatClampNeg) (b, S2) t2 (qR_mk (some (.int b)) S2)) ?_
  refine r_istore (pc := 708) dL_law_708 (by decide) ?_
  change gW _ _ _ [some (.retAddr 0), some (.ref 0), some (.ref 68), some (.ref 109), some (.ref 110), some (.int i), some (.int k), some (.int b), none] _ _ _ _ _ _
  refine r_aload_n (pc := 710) dL_law_710 rfl ?_
  refine q_callV (S' := S2) (v := some (.int k)) (pc := 711) mX10_thrown 10 [] dL_law_711 kL_126 fX10_thrown iX10_thrown ⟨by decide, by decide⟩ rfl rfl rfl (Nat.le_of_ble_eq_true rfl) (og t3) (mc1 := 0) (ms1 := 0) (mc2 := mc) (ms2 := ms) (Nat.le_of_eq (Nat.zero_add _)) (Nat.le_of_eq (Nat.zero_add _)) (C_X10_thrown S2 68 k t3 (qR_mk (some (.int k)) S2)) ?_
  refine r_iload (pc := 714) dL_law_714 rfl ?_
  refine r_icmp_eq (pc := 716) 721 dL_law_716 (by decide) (fun _ => ?_) (fun z => absurd rfl z)
  refine r_iload (pc := 721) dL_law_721 rfl ?_
  refine r_if_ne (pc := 723) 738 dL_law_723 (by decide) (fun _ => ?_) (fun z => ?_)
  · refine r_goto (pc := 738) 2049 dL_law_738 (by decide) ?_
    exact gW.weak (ls' := lw_ls i) (by simp [gle]) (kk S2 A' t4)
  have k0 := Decidable.not_not.mp z
  have rd := t5 k0
  refine r_aload_n (pc := 726) dL_law_726 rfl ?_
  refine r_iconst (pc := 727) (0 : Int32) dL_law_727 (by decide) ?_
  refine q_lald (S := S2) (pc := 728) dL_law_728 rd ?_
  refine r_iload (pc := 729) dL_law_729 rfl ?_
  refine r_i2l (pc := 731) dL_law_731 ?_
  refine r_lcmp (pc := 732) dL_law_732 ?_
  refine r_if_eq (pc := 733) 738 dL_law_733 (by decide) (fun _ => ?_) (fun z => absurd (lg_cmp_self _) z)
  refine r_goto (pc := 738) 2049 dL_law_738 (by decide) ?_
  exact gW.weak (ls' := lw_ls i) (by simp [gle]) (kk S2 A' t4)
set_option maxRecDepth 100000 in
set_option maxHeartbeats 4000000 in
theorem B_9 (h1 : vp_in (i + 1) X.2.2.2.2.1) (h2 : vp_in (i + 2) X.2.2.2.2.1) (h3 : vp_in (i + 3) X.2.2.2.2.1) (h4 : vp_in (i + 4) X.2.2.2.2.1) (h5 : vp_in (i + 5) X.2.2.2.2.1) (hT : TT S (fun j => F_L_setNumber j S 0 (X.2.2.2.2.2 (i + 1).toNatClampNeg) (if (X.2.2.2.2.2 (i + 2).toNatClampNeg) = 0 then 0 else 1) (X.2.2.2.2.2 (i + 3).toNatClampNeg) 109) (fun S1 => F_X10_setNumber S1 68 (X.2.2.2.2.2 (i + 1).toNatClampNeg) (if (X.2.2.2.2.2 (i + 2).toNatClampNeg) = 0 then 0 else 1) (X.2.2.2.2.2 (i + 3).toNatClampNeg)) tdJ) (kk : ∀ S2 A', LI S2 A' → gW X mL_law 2049 (lw_ls i) [] S2.1 S2.2 Q mc ms) : gW X mL_law 741 (lw_ls i) [] S.1 S.2 Q (mc + 8) (ms + 1602) := by
  refine r_aload_n (pc := 741) dL_law_741 rfl ?_
  refine r_xload_n (pc := 742) dL_law_742 rfl ?_
  refine r_iload (pc := 743) dL_law_743 rfl ?_
  refine r_iconst (pc := 745) (1 : Int32) dL_law_745 (by decide) ?_
  refine r_iadd (pc := 746) dL_law_746 ?_
  refine r_sld (pc := 747) dL_law_747 h1 ?_
  refine r_xload_n (pc := 748) dL_law_748 rfl ?_
  refine r_iload (pc := 749) dL_law_749 rfl ?_
  refine r_iconst (pc := 751) (2 : Int32) dL_law_751 (by decide) ?_
  refine r_iadd (pc := 752) dL_law_752 ?_
  refine r_sld (pc := 753) dL_law_753 h2 ?_
  refine r_nz (pc := 754) dL_law_754 dL_law_757 dL_law_758 dL_law_761 ?_
  refine r_xload_n (pc := 762) dL_law_762 rfl ?_
  refine r_iload (pc := 763) dL_law_763 rfl ?_
  refine r_iconst (pc := 765) (3 : Int32) dL_law_765 (by decide) ?_
  refine r_iadd (pc := 766) dL_law_766 ?_
  refine r_sld (pc := 767) dL_law_767 h3 ?_
  refine r_aload_n (pc := 768) dL_law_768 rfl ?_
  refine q_callSW (pc := 769) mL_setNumber [.ref 0, .int (X.2.2.2.2.2 (i + 1).toNatClampNeg), .int (if (X.2.2.2.2.2 (i + 2).toNatClampNeg) = 0 then 0 else 1), .int (X.2.2.2.2.2 (i + 3).toNatClampNeg), .ref 109] dL_law_769 kL_153 wL_setNumber sL_setNumber ⟨by decide, by decide⟩ rfl rfl (Nat.le_of_ble_eq_true rfl) (mc1 := 8) (ms1 := 1602) (mc2 := mc) (ms2 := ms) (Nat.le_of_eq (Nat.add_comm _ _)) (Nat.le_of_eq (Nat.add_comm _ _)) (C_L_setNumber (Q := QW (fun j => F_L_setNumber j S 0 (X.2.2.2.2.2 (i + 1).toNatClampNeg) (if (X.2.2.2.2.2 (i + 2).toNatClampNeg) = 0 then 0 else 1) (X.2.2.2.2.2 (i + 3).toNatClampNeg) 109)) S 0 (X.2.2.2.2.2 (i + 1).toNatClampNeg) (if (X.2.2.2.2.2 (i + 2).toNatClampNeg) = 0 then 0 else 1) (X.2.2.2.2.2 (i + 3).toNatClampNeg) 109 (qw_of hT) qw_nx) (fun v n' h' hq => ?_)
  obtain ⟨j, k, S1, hj, rfl, rfl, rfl⟩ := (show ∃ j k S1, F_L_setNumber j S 0 (X.2.2.2.2.2 (i + 1).toNatClampNeg) (if (X.2.2.2.2.2 (i + 2).toNatClampNeg) = 0 then 0 else 1) (X.2.2.2.2.2 (i + 3).toNatClampNeg) 109 = some (k, S1) ∧ v = some (.int k) ∧ n' = S1.1 ∧ h' = S1.2 by
    obtain ⟨j, k, S1, w1, w2, w3, w4⟩ := hq
    cases w2; exact ⟨j, k, S1, w1, rfl, w3, w4⟩)
  obtain ⟨k9, S9, b, S2, A', t1, t2, t3, t4, t5⟩ := hT j
  cases hj.symm.trans t1
  refine r_istore (pc := 772) dL_law_772 (by decide) ?_
  change gW _ _ _ [some (.retAddr 0), some (.ref 0), some (.ref 68), some (.ref 109), some (.ref 110), some (.int i), some (.int k), none, none] _ _ _ _ _ _
  refine r_aload_n (pc := 774) dL_law_774 rfl ?_
  refine r_xload_n (pc := 775) dL_law_775 rfl ?_
  refine r_iload (pc := 776) dL_law_776 rfl ?_
  refine r_iconst (pc := 778) (1 : Int32) dL_law_778 (by decide) ?_
  refine r_iadd (pc := 779) dL_law_779 ?_
  refine r_sld (pc := 780) dL_law_780 h1 ?_
  refine r_xload_n (pc := 781) dL_law_781 rfl ?_
  refine r_iload (pc := 782) dL_law_782 rfl ?_
  refine r_iconst (pc := 784) (2 : Int32) dL_law_784 (by decide) ?_
  refine r_iadd (pc := 785) dL_law_785 ?_
  refine r_sld (pc := 786) dL_law_786 h2 ?_
  refine r_nz (pc := 787) dL_law_787 dL_law_790 dL_law_791 dL_law_794 ?_
  refine r_xload_n (pc := 795) dL_law_795 rfl ?_
  refine r_iload (pc := 796) dL_law_796 rfl ?_
  refine r_iconst (pc := 798) (3 : Int32) dL_law_798 (by decide) ?_
  refine r_iadd (pc := 799) dL_law_799 ?_
  refine r_sld (pc := 800) dL_law_800 h3 ?_
  replace t2 : F_X10_setNumber S1 68 (X.2.2.2.2.2 (i + 1).toNatClampNeg) (if (X.2.2.2.2.2 (i + 2).toNatClampNeg) = 0 then 0 else 1) (X.2.2.2.2.2 (i + 3).toNatClampNeg) = some (b, S2) := t2
  refine q_callV (S' := S2) (v := some (.int b)) (pc := 801) mX10_setNumber 10 [.int (X.2.2.2.2.2 (i + 1).toNatClampNeg), .int (if (X.2.2.2.2.2 (i + 2).toNatClampNeg) = 0 then 0 else 1), .int (X.2.2.2.2.2 (i + 3).toNatClampNeg)] dL_law_801 kL_156 fX10_setNumber iX10_setNumber ⟨by decide, by decide⟩ rfl rfl rfl (Nat.le_of_ble_eq_true rfl) (og t2) (mc1 := 0) (ms1 := 0) (mc2 := mc) (ms2 := ms) (Nat.le_of_eq (Nat.zero_add _)) (Nat.le_of_eq (Nat.zero_add _)) (C_X10_setNumber S1 68 (X.2.2.2.2.2 (i + 1).toNatClampNeg) (if (X.2.2.2.2.2 (i + 2).toNatClampNeg) = 0 then 0 else 1) (X.2.2.2.2.2 (i + 3).toNatClampNeg) (b, S2) t2 (qR_mk (some (.int b)) S2)) ?_
  refine r_istore (pc := 804) dL_law_804 (by decide) ?_
  change gW _ _ _ [some (.retAddr 0), some (.ref 0), some (.ref 68), some (.ref 109), some (.ref 110), some (.int i), some (.int k), some (.int b), none] _ _ _ _ _ _
  refine r_aload_n (pc := 806) dL_law_806 rfl ?_
  refine q_callV (S' := S2) (v := some (.int k)) (pc := 807) mX10_thrown 10 [] dL_law_807 kL_126 fX10_thrown iX10_thrown ⟨by decide, by decide⟩ rfl rfl rfl (Nat.le_of_ble_eq_true rfl) (og t3) (mc1 := 0) (ms1 := 0) (mc2 := mc) (ms2 := ms) (Nat.le_of_eq (Nat.zero_add _)) (Nat.le_of_eq (Nat.zero_add _)) (C_X10_thrown S2 68 k t3 (qR_mk (some (.int k)) S2)) ?_
  refine r_iload (pc := 810) dL_law_810 rfl ?_
  refine r_icmp_eq (pc := 812) 817 dL_law_812 (by decide) (fun _ => ?_) (fun z => absurd rfl z)
  refine r_iload (pc := 817) dL_law_817 rfl ?_
  refine r_if_ne (pc := 819) 834 dL_law_819 (by decide) (fun _ => ?_) (fun z => ?_)
  · refine r_goto (pc := 834) 2049 dL_law_834 (by decide) ?_
    exact gW.weak (ls' := lw_ls i) (by simp [gle]) (kk S2 A' t4)
  have k0 := Decidable.not_not.mp z
  have rd := t5 k0
  refine r_aload_n (pc := 822) dL_law_822 rfl ?_
  refine r_iconst (pc := 823) (0 : Int32) dL_law_823 (by decide) ?_
  refine q_lald (S := S2) (pc := 824) dL_law_824 rd ?_
  refine r_iload (pc := 825) dL_law_825 rfl ?_
  refine r_i2l (pc := 827) dL_law_827 ?_
  refine r_lcmp (pc := 828) dL_law_828 ?_
  refine r_if_eq (pc := 829) 834 dL_law_829 (by decide) (fun _ => ?_) (fun z => absurd (lg_cmp_self _) z)
  refine r_goto (pc := 834) 2049 dL_law_834 (by decide) ?_
  exact gW.weak (ls' := lw_ls i) (by simp [gle]) (kk S2 A' t4)
set_option maxRecDepth 100000 in
set_option maxHeartbeats 4000000 in
theorem B_10 (h1 : vp_in (i + 1) X.2.2.2.2.1) (h2 : vp_in (i + 2) X.2.2.2.2.1) (h3 : vp_in (i + 3) X.2.2.2.2.1) (h4 : vp_in (i + 4) X.2.2.2.2.1) (h5 : vp_in (i + 5) X.2.2.2.2.1) (hT : TT S (fun j => F_L_setFlag j S 0 (X.2.2.2.2.2 (i + 1).toNatClampNeg) (if (X.2.2.2.2.2 (i + 2).toNatClampNeg) = 0 then 0 else 1) (if (X.2.2.2.2.2 (i + 3).toNatClampNeg) = 0 then 0 else 1) 109) (fun S1 => F_X10_setFlag S1 68 (X.2.2.2.2.2 (i + 1).toNatClampNeg) (if (X.2.2.2.2.2 (i + 2).toNatClampNeg) = 0 then 0 else 1) (if (X.2.2.2.2.2 (i + 3).toNatClampNeg) = 0 then 0 else 1)) tdZ) (kk : ∀ S2 A', LI S2 A' → gW X mL_law 2049 (lw_ls i) [] S2.1 S2.2 Q mc ms) : gW X mL_law 837 (lw_ls i) [] S.1 S.2 Q (mc + 8) (ms + 1602) := by
  refine r_aload_n (pc := 837) dL_law_837 rfl ?_
  refine r_xload_n (pc := 838) dL_law_838 rfl ?_
  refine r_iload (pc := 839) dL_law_839 rfl ?_
  refine r_iconst (pc := 841) (1 : Int32) dL_law_841 (by decide) ?_
  refine r_iadd (pc := 842) dL_law_842 ?_
  refine r_sld (pc := 843) dL_law_843 h1 ?_
  refine r_xload_n (pc := 844) dL_law_844 rfl ?_
  refine r_iload (pc := 845) dL_law_845 rfl ?_
  refine r_iconst (pc := 847) (2 : Int32) dL_law_847 (by decide) ?_
  refine r_iadd (pc := 848) dL_law_848 ?_
  refine r_sld (pc := 849) dL_law_849 h2 ?_
  refine r_nz (pc := 850) dL_law_850 dL_law_853 dL_law_854 dL_law_857 ?_
  refine r_xload_n (pc := 858) dL_law_858 rfl ?_
  refine r_iload (pc := 859) dL_law_859 rfl ?_
  refine r_iconst (pc := 861) (3 : Int32) dL_law_861 (by decide) ?_
  refine r_iadd (pc := 862) dL_law_862 ?_
  refine r_sld (pc := 863) dL_law_863 h3 ?_
  refine r_nz (pc := 864) dL_law_864 dL_law_867 dL_law_868 dL_law_871 ?_
  refine r_aload_n (pc := 872) dL_law_872 rfl ?_
  refine q_callSW (pc := 873) mL_setFlag [.ref 0, .int (X.2.2.2.2.2 (i + 1).toNatClampNeg), .int (if (X.2.2.2.2.2 (i + 2).toNatClampNeg) = 0 then 0 else 1), .int (if (X.2.2.2.2.2 (i + 3).toNatClampNeg) = 0 then 0 else 1), .ref 109] dL_law_873 kL_157 wL_setFlag sL_setFlag ⟨by decide, by decide⟩ rfl rfl (Nat.le_of_ble_eq_true rfl) (mc1 := 8) (ms1 := 1602) (mc2 := mc) (ms2 := ms) (Nat.le_of_eq (Nat.add_comm _ _)) (Nat.le_of_eq (Nat.add_comm _ _)) (C_L_setFlag (Q := QW (fun j => F_L_setFlag j S 0 (X.2.2.2.2.2 (i + 1).toNatClampNeg) (if (X.2.2.2.2.2 (i + 2).toNatClampNeg) = 0 then 0 else 1) (if (X.2.2.2.2.2 (i + 3).toNatClampNeg) = 0 then 0 else 1) 109)) S 0 (X.2.2.2.2.2 (i + 1).toNatClampNeg) (if (X.2.2.2.2.2 (i + 2).toNatClampNeg) = 0 then 0 else 1) (if (X.2.2.2.2.2 (i + 3).toNatClampNeg) = 0 then 0 else 1) 109 (qw_of hT) qw_nx) (fun v n' h' hq => ?_)
  obtain ⟨j, k, S1, hj, rfl, rfl, rfl⟩ := (show ∃ j k S1, F_L_setFlag j S 0 (X.2.2.2.2.2 (i + 1).toNatClampNeg) (if (X.2.2.2.2.2 (i + 2).toNatClampNeg) = 0 then 0 else 1) (if (X.2.2.2.2.2 (i + 3).toNatClampNeg) = 0 then 0 else 1) 109 = some (k, S1) ∧ v = some (.int k) ∧ n' = S1.1 ∧ h' = S1.2 by
    obtain ⟨j, k, S1, w1, w2, w3, w4⟩ := hq
    cases w2; exact ⟨j, k, S1, w1, rfl, w3, w4⟩)
  obtain ⟨k9, S9, b, S2, A', t1, t2, t3, t4, t5⟩ := hT j
  cases hj.symm.trans t1
  refine r_istore (pc := 876) dL_law_876 (by decide) ?_
  change gW _ _ _ [some (.retAddr 0), some (.ref 0), some (.ref 68), some (.ref 109), some (.ref 110), some (.int i), some (.int k), none, none] _ _ _ _ _ _
  refine r_aload_n (pc := 878) dL_law_878 rfl ?_
  refine r_xload_n (pc := 879) dL_law_879 rfl ?_
  refine r_iload (pc := 880) dL_law_880 rfl ?_
  refine r_iconst (pc := 882) (1 : Int32) dL_law_882 (by decide) ?_
  refine r_iadd (pc := 883) dL_law_883 ?_
  refine r_sld (pc := 884) dL_law_884 h1 ?_
  refine r_xload_n (pc := 885) dL_law_885 rfl ?_
  refine r_iload (pc := 886) dL_law_886 rfl ?_
  refine r_iconst (pc := 888) (2 : Int32) dL_law_888 (by decide) ?_
  refine r_iadd (pc := 889) dL_law_889 ?_
  refine r_sld (pc := 890) dL_law_890 h2 ?_
  refine r_nz (pc := 891) dL_law_891 dL_law_894 dL_law_895 dL_law_898 ?_
  refine r_xload_n (pc := 899) dL_law_899 rfl ?_
  refine r_iload (pc := 900) dL_law_900 rfl ?_
  refine r_iconst (pc := 902) (3 : Int32) dL_law_902 (by decide) ?_
  refine r_iadd (pc := 903) dL_law_903 ?_
  refine r_sld (pc := 904) dL_law_904 h3 ?_
  refine r_nz (pc := 905) dL_law_905 dL_law_908 dL_law_909 dL_law_912 ?_
  replace t2 : F_X10_setFlag S1 68 (X.2.2.2.2.2 (i + 1).toNatClampNeg) (if (X.2.2.2.2.2 (i + 2).toNatClampNeg) = 0 then 0 else 1) (if (X.2.2.2.2.2 (i + 3).toNatClampNeg) = 0 then 0 else 1) = some (b, S2) := t2
  refine q_callV (S' := S2) (v := some (.int b)) (pc := 913) mX10_setFlag 10 [.int (X.2.2.2.2.2 (i + 1).toNatClampNeg), .int (if (X.2.2.2.2.2 (i + 2).toNatClampNeg) = 0 then 0 else 1), .int (if (X.2.2.2.2.2 (i + 3).toNatClampNeg) = 0 then 0 else 1)] dL_law_913 kL_160 fX10_setFlag iX10_setFlag ⟨by decide, by decide⟩ rfl rfl rfl (Nat.le_of_ble_eq_true rfl) (og t2) (mc1 := 0) (ms1 := 0) (mc2 := mc) (ms2 := ms) (Nat.le_of_eq (Nat.zero_add _)) (Nat.le_of_eq (Nat.zero_add _)) (C_X10_setFlag S1 68 (X.2.2.2.2.2 (i + 1).toNatClampNeg) (if (X.2.2.2.2.2 (i + 2).toNatClampNeg) = 0 then 0 else 1) (if (X.2.2.2.2.2 (i + 3).toNatClampNeg) = 0 then 0 else 1) (b, S2) t2 (qR_mk (some (.int b)) S2)) ?_
  refine r_istore (pc := 916) dL_law_916 (by decide) ?_
  change gW _ _ _ [some (.retAddr 0), some (.ref 0), some (.ref 68), some (.ref 109), some (.ref 110), some (.int i), some (.int k), some (.int b), none] _ _ _ _ _ _
  refine r_aload_n (pc := 918) dL_law_918 rfl ?_
  refine q_callV (S' := S2) (v := some (.int k)) (pc := 919) mX10_thrown 10 [] dL_law_919 kL_126 fX10_thrown iX10_thrown ⟨by decide, by decide⟩ rfl rfl rfl (Nat.le_of_ble_eq_true rfl) (og t3) (mc1 := 0) (ms1 := 0) (mc2 := mc) (ms2 := ms) (Nat.le_of_eq (Nat.zero_add _)) (Nat.le_of_eq (Nat.zero_add _)) (C_X10_thrown S2 68 k t3 (qR_mk (some (.int k)) S2)) ?_
  refine r_iload (pc := 922) dL_law_922 rfl ?_
  refine r_icmp_eq (pc := 924) 929 dL_law_924 (by decide) (fun _ => ?_) (fun z => absurd rfl z)
  refine r_iload (pc := 929) dL_law_929 rfl ?_
  refine r_if_ne (pc := 931) 953 dL_law_931 (by decide) (fun _ => ?_) (fun z => ?_)
  · refine r_goto (pc := 953) 2049 dL_law_953 (by decide) ?_
    exact gW.weak (ls' := lw_ls i) (by simp [gle]) (kk S2 A' t4)
  have k0 := Decidable.not_not.mp z
  have rd := t5 k0
  refine r_aload_n (pc := 934) dL_law_934 rfl ?_
  refine r_iconst (pc := 935) (0 : Int32) dL_law_935 (by decide) ?_
  refine q_lald (S := S2) (pc := 936) dL_law_936 rd ?_
  refine r_iload (pc := 937) dL_law_937 rfl ?_
  refine r_nzL (pc := 939) dL_law_939 dL_law_942 dL_law_943 dL_law_946 ?_
  refine r_lcmp (pc := 947) dL_law_947 ?_
  refine r_if_eq (pc := 948) 953 dL_law_948 (by decide) (fun _ => ?_) (fun z => absurd (lg_cmp_self _) z)
  refine r_goto (pc := 953) 2049 dL_law_953 (by decide) ?_
  exact gW.weak (ls' := lw_ls i) (by simp [gle]) (kk S2 A' t4)
set_option maxRecDepth 100000 in
set_option maxHeartbeats 4000000 in
theorem B_11 (h1 : vp_in (i + 1) X.2.2.2.2.1) (h2 : vp_in (i + 2) X.2.2.2.2.1) (h3 : vp_in (i + 3) X.2.2.2.2.1) (h4 : vp_in (i + 4) X.2.2.2.2.1) (h5 : vp_in (i + 5) X.2.2.2.2.1) (hT : TT S (fun j => F_L_item j S 0 (X.2.2.2.2.2 (i + 1).toNatClampNeg) (X.2.2.2.2.2 (i + 2).toNatClampNeg) 109) (fun S1 => F_X10_item S1 68 (X.2.2.2.2.2 (i + 1).toNatClampNeg) (X.2.2.2.2.2 (i + 2).toNatClampNeg)) tdJ) (kk : ∀ S2 A', LI S2 A' → gW X mL_law 2049 (lw_ls i) [] S2.1 S2.2 Q mc ms) : gW X mL_law 956 (lw_ls i) [] S.1 S.2 Q (mc + 2) (ms + 12) := by
  refine r_aload_n (pc := 956) dL_law_956 rfl ?_
  refine r_xload_n (pc := 957) dL_law_957 rfl ?_
  refine r_iload (pc := 958) dL_law_958 rfl ?_
  refine r_iconst (pc := 960) (1 : Int32) dL_law_960 (by decide) ?_
  refine r_iadd (pc := 961) dL_law_961 ?_
  refine r_sld (pc := 962) dL_law_962 h1 ?_
  refine r_xload_n (pc := 963) dL_law_963 rfl ?_
  refine r_iload (pc := 964) dL_law_964 rfl ?_
  refine r_iconst (pc := 966) (2 : Int32) dL_law_966 (by decide) ?_
  refine r_iadd (pc := 967) dL_law_967 ?_
  refine r_sld (pc := 968) dL_law_968 h2 ?_
  refine r_aload_n (pc := 969) dL_law_969 rfl ?_
  refine q_callSW (pc := 970) mL_item [.ref 0, .int (X.2.2.2.2.2 (i + 1).toNatClampNeg), .int (X.2.2.2.2.2 (i + 2).toNatClampNeg), .ref 109] dL_law_970 kL_161 wL_item sL_item ⟨by decide, by decide⟩ rfl rfl (Nat.le_of_ble_eq_true rfl) (mc1 := 2) (ms1 := 12) (mc2 := mc) (ms2 := ms) (Nat.le_of_eq (Nat.add_comm _ _)) (Nat.le_of_eq (Nat.add_comm _ _)) (C_L_item (Q := QW (fun j => F_L_item j S 0 (X.2.2.2.2.2 (i + 1).toNatClampNeg) (X.2.2.2.2.2 (i + 2).toNatClampNeg) 109)) S 0 (X.2.2.2.2.2 (i + 1).toNatClampNeg) (X.2.2.2.2.2 (i + 2).toNatClampNeg) 109 (qw_of hT) qw_nx) (fun v n' h' hq => ?_)
  obtain ⟨j, k, S1, hj, rfl, rfl, rfl⟩ := (show ∃ j k S1, F_L_item j S 0 (X.2.2.2.2.2 (i + 1).toNatClampNeg) (X.2.2.2.2.2 (i + 2).toNatClampNeg) 109 = some (k, S1) ∧ v = some (.int k) ∧ n' = S1.1 ∧ h' = S1.2 by
    obtain ⟨j, k, S1, w1, w2, w3, w4⟩ := hq
    cases w2; exact ⟨j, k, S1, w1, rfl, w3, w4⟩)
  obtain ⟨k9, S9, b, S2, A', t1, t2, t3, t4, t5⟩ := hT j
  cases hj.symm.trans t1
  refine r_istore (pc := 973) dL_law_973 (by decide) ?_
  change gW _ _ _ [some (.retAddr 0), some (.ref 0), some (.ref 68), some (.ref 109), some (.ref 110), some (.int i), some (.int k), none, none] _ _ _ _ _ _
  refine r_aload_n (pc := 975) dL_law_975 rfl ?_
  refine r_xload_n (pc := 976) dL_law_976 rfl ?_
  refine r_iload (pc := 977) dL_law_977 rfl ?_
  refine r_iconst (pc := 979) (1 : Int32) dL_law_979 (by decide) ?_
  refine r_iadd (pc := 980) dL_law_980 ?_
  refine r_sld (pc := 981) dL_law_981 h1 ?_
  refine r_xload_n (pc := 982) dL_law_982 rfl ?_
  refine r_iload (pc := 983) dL_law_983 rfl ?_
  refine r_iconst (pc := 985) (2 : Int32) dL_law_985 (by decide) ?_
  refine r_iadd (pc := 986) dL_law_986 ?_
  refine r_sld (pc := 987) dL_law_987 h2 ?_
  replace t2 : F_X10_item S1 68 (X.2.2.2.2.2 (i + 1).toNatClampNeg) (X.2.2.2.2.2 (i + 2).toNatClampNeg) = some (b, S2) := t2
  refine q_callV (S' := S2) (v := some (.int b)) (pc := 988) mX10_item 10 [.int (X.2.2.2.2.2 (i + 1).toNatClampNeg), .int (X.2.2.2.2.2 (i + 2).toNatClampNeg)] dL_law_988 kL_163 fX10_item iX10_item ⟨by decide, by decide⟩ rfl rfl rfl (Nat.le_of_ble_eq_true rfl) (og t2) (mc1 := 0) (ms1 := 0) (mc2 := mc) (ms2 := ms) (Nat.le_of_eq (Nat.zero_add _)) (Nat.le_of_eq (Nat.zero_add _)) (C_X10_item S1 68 (X.2.2.2.2.2 (i + 1).toNatClampNeg) (X.2.2.2.2.2 (i + 2).toNatClampNeg) (b, S2) t2 (qR_mk (some (.int b)) S2)) ?_
  refine r_istore (pc := 991) dL_law_991 (by decide) ?_
  change gW _ _ _ [some (.retAddr 0), some (.ref 0), some (.ref 68), some (.ref 109), some (.ref 110), some (.int i), some (.int k), some (.int b), none] _ _ _ _ _ _
  refine r_aload_n (pc := 993) dL_law_993 rfl ?_
  refine q_callV (S' := S2) (v := some (.int k)) (pc := 994) mX10_thrown 10 [] dL_law_994 kL_126 fX10_thrown iX10_thrown ⟨by decide, by decide⟩ rfl rfl rfl (Nat.le_of_ble_eq_true rfl) (og t3) (mc1 := 0) (ms1 := 0) (mc2 := mc) (ms2 := ms) (Nat.le_of_eq (Nat.zero_add _)) (Nat.le_of_eq (Nat.zero_add _)) (C_X10_thrown S2 68 k t3 (qR_mk (some (.int k)) S2)) ?_
  refine r_iload (pc := 997) dL_law_997 rfl ?_
  refine r_icmp_eq (pc := 999) 1004 dL_law_999 (by decide) (fun _ => ?_) (fun z => absurd rfl z)
  refine r_iload (pc := 1004) dL_law_1004 rfl ?_
  refine r_if_ne (pc := 1006) 1021 dL_law_1006 (by decide) (fun _ => ?_) (fun z => ?_)
  · refine r_goto (pc := 1021) 2049 dL_law_1021 (by decide) ?_
    exact gW.weak (ls' := lw_ls i) (by simp [gle]) (kk S2 A' t4)
  have k0 := Decidable.not_not.mp z
  have rd := t5 k0
  refine r_aload_n (pc := 1009) dL_law_1009 rfl ?_
  refine r_iconst (pc := 1010) (0 : Int32) dL_law_1010 (by decide) ?_
  refine q_lald (S := S2) (pc := 1011) dL_law_1011 rd ?_
  refine r_iload (pc := 1012) dL_law_1012 rfl ?_
  refine r_i2l (pc := 1014) dL_law_1014 ?_
  refine r_lcmp (pc := 1015) dL_law_1015 ?_
  refine r_if_eq (pc := 1016) 1021 dL_law_1016 (by decide) (fun _ => ?_) (fun z => absurd (lg_cmp_self _) z)
  refine r_goto (pc := 1021) 2049 dL_law_1021 (by decide) ?_
  exact gW.weak (ls' := lw_ls i) (by simp [gle]) (kk S2 A' t4)
set_option maxRecDepth 100000 in
set_option maxHeartbeats 4000000 in
theorem B_12 (h1 : vp_in (i + 1) X.2.2.2.2.1) (h2 : vp_in (i + 2) X.2.2.2.2.1) (h3 : vp_in (i + 3) X.2.2.2.2.1) (h4 : vp_in (i + 4) X.2.2.2.2.1) (h5 : vp_in (i + 5) X.2.2.2.2.1) (hT : TT S (fun j => F_L_related j S 0 (X.2.2.2.2.2 (i + 1).toNatClampNeg) (X.2.2.2.2.2 (i + 2).toNatClampNeg) (if (X.2.2.2.2.2 (i + 3).toNatClampNeg) = 0 then 0 else 1) 109) (fun S1 => F_X10_related S1 68 (X.2.2.2.2.2 (i + 1).toNatClampNeg) (X.2.2.2.2.2 (i + 2).toNatClampNeg) (if (X.2.2.2.2.2 (i + 3).toNatClampNeg) = 0 then 0 else 1)) tdJ) (kk : ∀ S2 A', LI S2 A' → gW X mL_law 2049 (lw_ls i) [] S2.1 S2.2 Q mc ms) : gW X mL_law 1024 (lw_ls i) [] S.1 S.2 Q (mc + 2) (ms + 12) := by
  refine r_aload_n (pc := 1024) dL_law_1024 rfl ?_
  refine r_xload_n (pc := 1025) dL_law_1025 rfl ?_
  refine r_iload (pc := 1026) dL_law_1026 rfl ?_
  refine r_iconst (pc := 1028) (1 : Int32) dL_law_1028 (by decide) ?_
  refine r_iadd (pc := 1029) dL_law_1029 ?_
  refine r_sld (pc := 1030) dL_law_1030 h1 ?_
  refine r_xload_n (pc := 1031) dL_law_1031 rfl ?_
  refine r_iload (pc := 1032) dL_law_1032 rfl ?_
  refine r_iconst (pc := 1034) (2 : Int32) dL_law_1034 (by decide) ?_
  refine r_iadd (pc := 1035) dL_law_1035 ?_
  refine r_sld (pc := 1036) dL_law_1036 h2 ?_
  refine r_xload_n (pc := 1037) dL_law_1037 rfl ?_
  refine r_iload (pc := 1038) dL_law_1038 rfl ?_
  refine r_iconst (pc := 1040) (3 : Int32) dL_law_1040 (by decide) ?_
  refine r_iadd (pc := 1041) dL_law_1041 ?_
  refine r_sld (pc := 1042) dL_law_1042 h3 ?_
  refine r_nz (pc := 1043) dL_law_1043 dL_law_1046 dL_law_1047 dL_law_1050 ?_
  refine r_aload_n (pc := 1051) dL_law_1051 rfl ?_
  refine q_callSW (pc := 1052) mL_related [.ref 0, .int (X.2.2.2.2.2 (i + 1).toNatClampNeg), .int (X.2.2.2.2.2 (i + 2).toNatClampNeg), .int (if (X.2.2.2.2.2 (i + 3).toNatClampNeg) = 0 then 0 else 1), .ref 109] dL_law_1052 kL_164 wL_related sL_related ⟨by decide, by decide⟩ rfl rfl (Nat.le_of_ble_eq_true rfl) (mc1 := 2) (ms1 := 12) (mc2 := mc) (ms2 := ms) (Nat.le_of_eq (Nat.add_comm _ _)) (Nat.le_of_eq (Nat.add_comm _ _)) (C_L_related (Q := QW (fun j => F_L_related j S 0 (X.2.2.2.2.2 (i + 1).toNatClampNeg) (X.2.2.2.2.2 (i + 2).toNatClampNeg) (if (X.2.2.2.2.2 (i + 3).toNatClampNeg) = 0 then 0 else 1) 109)) S 0 (X.2.2.2.2.2 (i + 1).toNatClampNeg) (X.2.2.2.2.2 (i + 2).toNatClampNeg) (if (X.2.2.2.2.2 (i + 3).toNatClampNeg) = 0 then 0 else 1) 109 (qw_of hT) qw_nx) (fun v n' h' hq => ?_)
  obtain ⟨j, k, S1, hj, rfl, rfl, rfl⟩ := (show ∃ j k S1, F_L_related j S 0 (X.2.2.2.2.2 (i + 1).toNatClampNeg) (X.2.2.2.2.2 (i + 2).toNatClampNeg) (if (X.2.2.2.2.2 (i + 3).toNatClampNeg) = 0 then 0 else 1) 109 = some (k, S1) ∧ v = some (.int k) ∧ n' = S1.1 ∧ h' = S1.2 by
    obtain ⟨j, k, S1, w1, w2, w3, w4⟩ := hq
    cases w2; exact ⟨j, k, S1, w1, rfl, w3, w4⟩)
  obtain ⟨k9, S9, b, S2, A', t1, t2, t3, t4, t5⟩ := hT j
  cases hj.symm.trans t1
  refine r_istore (pc := 1055) dL_law_1055 (by decide) ?_
  change gW _ _ _ [some (.retAddr 0), some (.ref 0), some (.ref 68), some (.ref 109), some (.ref 110), some (.int i), some (.int k), none, none] _ _ _ _ _ _
  refine r_aload_n (pc := 1057) dL_law_1057 rfl ?_
  refine r_xload_n (pc := 1058) dL_law_1058 rfl ?_
  refine r_iload (pc := 1059) dL_law_1059 rfl ?_
  refine r_iconst (pc := 1061) (1 : Int32) dL_law_1061 (by decide) ?_
  refine r_iadd (pc := 1062) dL_law_1062 ?_
  refine r_sld (pc := 1063) dL_law_1063 h1 ?_
  refine r_xload_n (pc := 1064) dL_law_1064 rfl ?_
  refine r_iload (pc := 1065) dL_law_1065 rfl ?_
  refine r_iconst (pc := 1067) (2 : Int32) dL_law_1067 (by decide) ?_
  refine r_iadd (pc := 1068) dL_law_1068 ?_
  refine r_sld (pc := 1069) dL_law_1069 h2 ?_
  refine r_xload_n (pc := 1070) dL_law_1070 rfl ?_
  refine r_iload (pc := 1071) dL_law_1071 rfl ?_
  refine r_iconst (pc := 1073) (3 : Int32) dL_law_1073 (by decide) ?_
  refine r_iadd (pc := 1074) dL_law_1074 ?_
  refine r_sld (pc := 1075) dL_law_1075 h3 ?_
  refine r_nz (pc := 1076) dL_law_1076 dL_law_1079 dL_law_1080 dL_law_1083 ?_
  replace t2 : F_X10_related S1 68 (X.2.2.2.2.2 (i + 1).toNatClampNeg) (X.2.2.2.2.2 (i + 2).toNatClampNeg) (if (X.2.2.2.2.2 (i + 3).toNatClampNeg) = 0 then 0 else 1) = some (b, S2) := t2
  refine q_callV (S' := S2) (v := some (.int b)) (pc := 1084) mX10_related 10 [.int (X.2.2.2.2.2 (i + 1).toNatClampNeg), .int (X.2.2.2.2.2 (i + 2).toNatClampNeg), .int (if (X.2.2.2.2.2 (i + 3).toNatClampNeg) = 0 then 0 else 1)] dL_law_1084 kL_167 fX10_related iX10_related ⟨by decide, by decide⟩ rfl rfl rfl (Nat.le_of_ble_eq_true rfl) (og t2) (mc1 := 0) (ms1 := 0) (mc2 := mc) (ms2 := ms) (Nat.le_of_eq (Nat.zero_add _)) (Nat.le_of_eq (Nat.zero_add _)) (C_X10_related S1 68 (X.2.2.2.2.2 (i + 1).toNatClampNeg) (X.2.2.2.2.2 (i + 2).toNatClampNeg) (if (X.2.2.2.2.2 (i + 3).toNatClampNeg) = 0 then 0 else 1) (b, S2) t2 (qR_mk (some (.int b)) S2)) ?_
  refine r_istore (pc := 1087) dL_law_1087 (by decide) ?_
  change gW _ _ _ [some (.retAddr 0), some (.ref 0), some (.ref 68), some (.ref 109), some (.ref 110), some (.int i), some (.int k), some (.int b), none] _ _ _ _ _ _
  refine r_aload_n (pc := 1089) dL_law_1089 rfl ?_
  refine q_callV (S' := S2) (v := some (.int k)) (pc := 1090) mX10_thrown 10 [] dL_law_1090 kL_126 fX10_thrown iX10_thrown ⟨by decide, by decide⟩ rfl rfl rfl (Nat.le_of_ble_eq_true rfl) (og t3) (mc1 := 0) (ms1 := 0) (mc2 := mc) (ms2 := ms) (Nat.le_of_eq (Nat.zero_add _)) (Nat.le_of_eq (Nat.zero_add _)) (C_X10_thrown S2 68 k t3 (qR_mk (some (.int k)) S2)) ?_
  refine r_iload (pc := 1093) dL_law_1093 rfl ?_
  refine r_icmp_eq (pc := 1095) 1100 dL_law_1095 (by decide) (fun _ => ?_) (fun z => absurd rfl z)
  refine r_iload (pc := 1100) dL_law_1100 rfl ?_
  refine r_if_ne (pc := 1102) 1117 dL_law_1102 (by decide) (fun _ => ?_) (fun z => ?_)
  · refine r_goto (pc := 1117) 2049 dL_law_1117 (by decide) ?_
    exact gW.weak (ls' := lw_ls i) (by simp [gle]) (kk S2 A' t4)
  have k0 := Decidable.not_not.mp z
  have rd := t5 k0
  refine r_aload_n (pc := 1105) dL_law_1105 rfl ?_
  refine r_iconst (pc := 1106) (0 : Int32) dL_law_1106 (by decide) ?_
  refine q_lald (S := S2) (pc := 1107) dL_law_1107 rd ?_
  refine r_iload (pc := 1108) dL_law_1108 rfl ?_
  refine r_i2l (pc := 1110) dL_law_1110 ?_
  refine r_lcmp (pc := 1111) dL_law_1111 ?_
  refine r_if_eq (pc := 1112) 1117 dL_law_1112 (by decide) (fun _ => ?_) (fun z => absurd (lg_cmp_self _) z)
  refine r_goto (pc := 1117) 2049 dL_law_1117 (by decide) ?_
  exact gW.weak (ls' := lw_ls i) (by simp [gle]) (kk S2 A' t4)
set_option maxRecDepth 100000 in
set_option maxHeartbeats 4000000 in
theorem B_13 (h1 : vp_in (i + 1) X.2.2.2.2.1) (h2 : vp_in (i + 2) X.2.2.2.2.1) (h3 : vp_in (i + 3) X.2.2.2.2.1) (h4 : vp_in (i + 4) X.2.2.2.2.1) (h5 : vp_in (i + 5) X.2.2.2.2.1) (hT : TT S (fun j => F_L_letter j S 0 (X.2.2.2.2.2 (i + 1).toNatClampNeg) (X.2.2.2.2.2 (i + 2).toNatClampNeg) 109) (fun S1 => F_X10_letter S1 68 (X.2.2.2.2.2 (i + 1).toNatClampNeg) (X.2.2.2.2.2 (i + 2).toNatClampNeg)) tdJ) (kk : ∀ S2 A', LI S2 A' → gW X mL_law 2049 (lw_ls i) [] S2.1 S2.2 Q mc ms) : gW X mL_law 1120 (lw_ls i) [] S.1 S.2 Q (mc + 2) (ms + 12) := by
  refine r_aload_n (pc := 1120) dL_law_1120 rfl ?_
  refine r_xload_n (pc := 1121) dL_law_1121 rfl ?_
  refine r_iload (pc := 1122) dL_law_1122 rfl ?_
  refine r_iconst (pc := 1124) (1 : Int32) dL_law_1124 (by decide) ?_
  refine r_iadd (pc := 1125) dL_law_1125 ?_
  refine r_sld (pc := 1126) dL_law_1126 h1 ?_
  refine r_xload_n (pc := 1127) dL_law_1127 rfl ?_
  refine r_iload (pc := 1128) dL_law_1128 rfl ?_
  refine r_iconst (pc := 1130) (2 : Int32) dL_law_1130 (by decide) ?_
  refine r_iadd (pc := 1131) dL_law_1131 ?_
  refine r_sld (pc := 1132) dL_law_1132 h2 ?_
  refine r_aload_n (pc := 1133) dL_law_1133 rfl ?_
  refine q_callSW (pc := 1134) mL_letter [.ref 0, .int (X.2.2.2.2.2 (i + 1).toNatClampNeg), .int (X.2.2.2.2.2 (i + 2).toNatClampNeg), .ref 109] dL_law_1134 kL_168 wL_letter sL_letter ⟨by decide, by decide⟩ rfl rfl (Nat.le_of_ble_eq_true rfl) (mc1 := 2) (ms1 := 12) (mc2 := mc) (ms2 := ms) (Nat.le_of_eq (Nat.add_comm _ _)) (Nat.le_of_eq (Nat.add_comm _ _)) (C_L_letter (Q := QW (fun j => F_L_letter j S 0 (X.2.2.2.2.2 (i + 1).toNatClampNeg) (X.2.2.2.2.2 (i + 2).toNatClampNeg) 109)) S 0 (X.2.2.2.2.2 (i + 1).toNatClampNeg) (X.2.2.2.2.2 (i + 2).toNatClampNeg) 109 (qw_of hT) qw_nx) (fun v n' h' hq => ?_)
  obtain ⟨j, k, S1, hj, rfl, rfl, rfl⟩ := (show ∃ j k S1, F_L_letter j S 0 (X.2.2.2.2.2 (i + 1).toNatClampNeg) (X.2.2.2.2.2 (i + 2).toNatClampNeg) 109 = some (k, S1) ∧ v = some (.int k) ∧ n' = S1.1 ∧ h' = S1.2 by
    obtain ⟨j, k, S1, w1, w2, w3, w4⟩ := hq
    cases w2; exact ⟨j, k, S1, w1, rfl, w3, w4⟩)
  obtain ⟨k9, S9, b, S2, A', t1, t2, t3, t4, t5⟩ := hT j
  cases hj.symm.trans t1
  refine r_istore (pc := 1137) dL_law_1137 (by decide) ?_
  change gW _ _ _ [some (.retAddr 0), some (.ref 0), some (.ref 68), some (.ref 109), some (.ref 110), some (.int i), some (.int k), none, none] _ _ _ _ _ _
  refine r_aload_n (pc := 1139) dL_law_1139 rfl ?_
  refine r_xload_n (pc := 1140) dL_law_1140 rfl ?_
  refine r_iload (pc := 1141) dL_law_1141 rfl ?_
  refine r_iconst (pc := 1143) (1 : Int32) dL_law_1143 (by decide) ?_
  refine r_iadd (pc := 1144) dL_law_1144 ?_
  refine r_sld (pc := 1145) dL_law_1145 h1 ?_
  refine r_xload_n (pc := 1146) dL_law_1146 rfl ?_
  refine r_iload (pc := 1147) dL_law_1147 rfl ?_
  refine r_iconst (pc := 1149) (2 : Int32) dL_law_1149 (by decide) ?_
  refine r_iadd (pc := 1150) dL_law_1150 ?_
  refine r_sld (pc := 1151) dL_law_1151 h2 ?_
  replace t2 : F_X10_letter S1 68 (X.2.2.2.2.2 (i + 1).toNatClampNeg) (X.2.2.2.2.2 (i + 2).toNatClampNeg) = some (b, S2) := t2
  refine q_callV (S' := S2) (v := some (.int b)) (pc := 1152) mX10_letter 10 [.int (X.2.2.2.2.2 (i + 1).toNatClampNeg), .int (X.2.2.2.2.2 (i + 2).toNatClampNeg)] dL_law_1152 kL_170 fX10_letter iX10_letter ⟨by decide, by decide⟩ rfl rfl rfl (Nat.le_of_ble_eq_true rfl) (og t2) (mc1 := 0) (ms1 := 0) (mc2 := mc) (ms2 := ms) (Nat.le_of_eq (Nat.zero_add _)) (Nat.le_of_eq (Nat.zero_add _)) (C_X10_letter S1 68 (X.2.2.2.2.2 (i + 1).toNatClampNeg) (X.2.2.2.2.2 (i + 2).toNatClampNeg) (b, S2) t2 (qR_mk (some (.int b)) S2)) ?_
  refine r_istore (pc := 1155) dL_law_1155 (by decide) ?_
  change gW _ _ _ [some (.retAddr 0), some (.ref 0), some (.ref 68), some (.ref 109), some (.ref 110), some (.int i), some (.int k), some (.int b), none] _ _ _ _ _ _
  refine r_aload_n (pc := 1157) dL_law_1157 rfl ?_
  refine q_callV (S' := S2) (v := some (.int k)) (pc := 1158) mX10_thrown 10 [] dL_law_1158 kL_126 fX10_thrown iX10_thrown ⟨by decide, by decide⟩ rfl rfl rfl (Nat.le_of_ble_eq_true rfl) (og t3) (mc1 := 0) (ms1 := 0) (mc2 := mc) (ms2 := ms) (Nat.le_of_eq (Nat.zero_add _)) (Nat.le_of_eq (Nat.zero_add _)) (C_X10_thrown S2 68 k t3 (qR_mk (some (.int k)) S2)) ?_
  refine r_iload (pc := 1161) dL_law_1161 rfl ?_
  refine r_icmp_eq (pc := 1163) 1168 dL_law_1163 (by decide) (fun _ => ?_) (fun z => absurd rfl z)
  refine r_iload (pc := 1168) dL_law_1168 rfl ?_
  refine r_if_ne (pc := 1170) 1185 dL_law_1170 (by decide) (fun _ => ?_) (fun z => ?_)
  · refine r_goto (pc := 1185) 2049 dL_law_1185 (by decide) ?_
    exact gW.weak (ls' := lw_ls i) (by simp [gle]) (kk S2 A' t4)
  have k0 := Decidable.not_not.mp z
  have rd := t5 k0
  refine r_aload_n (pc := 1173) dL_law_1173 rfl ?_
  refine r_iconst (pc := 1174) (0 : Int32) dL_law_1174 (by decide) ?_
  refine q_lald (S := S2) (pc := 1175) dL_law_1175 rd ?_
  refine r_iload (pc := 1176) dL_law_1176 rfl ?_
  refine r_i2l (pc := 1178) dL_law_1178 ?_
  refine r_lcmp (pc := 1179) dL_law_1179 ?_
  refine r_if_eq (pc := 1180) 1185 dL_law_1180 (by decide) (fun _ => ?_) (fun z => absurd (lg_cmp_self _) z)
  refine r_goto (pc := 1185) 2049 dL_law_1185 (by decide) ?_
  exact gW.weak (ls' := lw_ls i) (by simp [gle]) (kk S2 A' t4)
set_option maxRecDepth 100000 in
set_option maxHeartbeats 4000000 in
theorem B_14 (h1 : vp_in (i + 1) X.2.2.2.2.1) (h2 : vp_in (i + 2) X.2.2.2.2.1) (h3 : vp_in (i + 3) X.2.2.2.2.1) (h4 : vp_in (i + 4) X.2.2.2.2.1) (h5 : vp_in (i + 5) X.2.2.2.2.1) (hT : TT S (fun j => F_L_isBelow j S 0 (X.2.2.2.2.2 (i + 1).toNatClampNeg) (X.2.2.2.2.2 (i + 2).toNatClampNeg) 109) (fun S1 => F_X10_isBelow S1 68 (X.2.2.2.2.2 (i + 1).toNatClampNeg) (X.2.2.2.2.2 (i + 2).toNatClampNeg)) tdZ) (kk : ∀ S2 A', LI S2 A' → gW X mL_law 2049 (lw_ls i) [] S2.1 S2.2 Q mc ms) : gW X mL_law 1188 (lw_ls i) [] S.1 S.2 Q (mc + 2) (ms + 12) := by
  refine r_aload_n (pc := 1188) dL_law_1188 rfl ?_
  refine r_xload_n (pc := 1189) dL_law_1189 rfl ?_
  refine r_iload (pc := 1190) dL_law_1190 rfl ?_
  refine r_iconst (pc := 1192) (1 : Int32) dL_law_1192 (by decide) ?_
  refine r_iadd (pc := 1193) dL_law_1193 ?_
  refine r_sld (pc := 1194) dL_law_1194 h1 ?_
  refine r_xload_n (pc := 1195) dL_law_1195 rfl ?_
  refine r_iload (pc := 1196) dL_law_1196 rfl ?_
  refine r_iconst (pc := 1198) (2 : Int32) dL_law_1198 (by decide) ?_
  refine r_iadd (pc := 1199) dL_law_1199 ?_
  refine r_sld (pc := 1200) dL_law_1200 h2 ?_
  refine r_aload_n (pc := 1201) dL_law_1201 rfl ?_
  refine q_callSW (pc := 1202) mL_isBelow [.ref 0, .int (X.2.2.2.2.2 (i + 1).toNatClampNeg), .int (X.2.2.2.2.2 (i + 2).toNatClampNeg), .ref 109] dL_law_1202 kL_171 wL_isBelow sL_isBelow ⟨by decide, by decide⟩ rfl rfl (Nat.le_of_ble_eq_true rfl) (mc1 := 2) (ms1 := 12) (mc2 := mc) (ms2 := ms) (Nat.le_of_eq (Nat.add_comm _ _)) (Nat.le_of_eq (Nat.add_comm _ _)) (C_L_isBelow (Q := QW (fun j => F_L_isBelow j S 0 (X.2.2.2.2.2 (i + 1).toNatClampNeg) (X.2.2.2.2.2 (i + 2).toNatClampNeg) 109)) S 0 (X.2.2.2.2.2 (i + 1).toNatClampNeg) (X.2.2.2.2.2 (i + 2).toNatClampNeg) 109 (qw_of hT) qw_nx) (fun v n' h' hq => ?_)
  obtain ⟨j, k, S1, hj, rfl, rfl, rfl⟩ := (show ∃ j k S1, F_L_isBelow j S 0 (X.2.2.2.2.2 (i + 1).toNatClampNeg) (X.2.2.2.2.2 (i + 2).toNatClampNeg) 109 = some (k, S1) ∧ v = some (.int k) ∧ n' = S1.1 ∧ h' = S1.2 by
    obtain ⟨j, k, S1, w1, w2, w3, w4⟩ := hq
    cases w2; exact ⟨j, k, S1, w1, rfl, w3, w4⟩)
  obtain ⟨k9, S9, b, S2, A', t1, t2, t3, t4, t5⟩ := hT j
  cases hj.symm.trans t1
  refine r_istore (pc := 1205) dL_law_1205 (by decide) ?_
  change gW _ _ _ [some (.retAddr 0), some (.ref 0), some (.ref 68), some (.ref 109), some (.ref 110), some (.int i), some (.int k), none, none] _ _ _ _ _ _
  refine r_aload_n (pc := 1207) dL_law_1207 rfl ?_
  refine r_xload_n (pc := 1208) dL_law_1208 rfl ?_
  refine r_iload (pc := 1209) dL_law_1209 rfl ?_
  refine r_iconst (pc := 1211) (1 : Int32) dL_law_1211 (by decide) ?_
  refine r_iadd (pc := 1212) dL_law_1212 ?_
  refine r_sld (pc := 1213) dL_law_1213 h1 ?_
  refine r_xload_n (pc := 1214) dL_law_1214 rfl ?_
  refine r_iload (pc := 1215) dL_law_1215 rfl ?_
  refine r_iconst (pc := 1217) (2 : Int32) dL_law_1217 (by decide) ?_
  refine r_iadd (pc := 1218) dL_law_1218 ?_
  refine r_sld (pc := 1219) dL_law_1219 h2 ?_
  replace t2 : F_X10_isBelow S1 68 (X.2.2.2.2.2 (i + 1).toNatClampNeg) (X.2.2.2.2.2 (i + 2).toNatClampNeg) = some (b, S2) := t2
  refine q_callV (S' := S2) (v := some (.int b)) (pc := 1220) mX10_isBelow 10 [.int (X.2.2.2.2.2 (i + 1).toNatClampNeg), .int (X.2.2.2.2.2 (i + 2).toNatClampNeg)] dL_law_1220 kL_173 fX10_isBelow iX10_isBelow ⟨by decide, by decide⟩ rfl rfl rfl (Nat.le_of_ble_eq_true rfl) (og t2) (mc1 := 0) (ms1 := 0) (mc2 := mc) (ms2 := ms) (Nat.le_of_eq (Nat.zero_add _)) (Nat.le_of_eq (Nat.zero_add _)) (C_X10_isBelow S1 68 (X.2.2.2.2.2 (i + 1).toNatClampNeg) (X.2.2.2.2.2 (i + 2).toNatClampNeg) (b, S2) t2 (qR_mk (some (.int b)) S2)) ?_
  refine r_istore (pc := 1223) dL_law_1223 (by decide) ?_
  change gW _ _ _ [some (.retAddr 0), some (.ref 0), some (.ref 68), some (.ref 109), some (.ref 110), some (.int i), some (.int k), some (.int b), none] _ _ _ _ _ _
  refine r_aload_n (pc := 1225) dL_law_1225 rfl ?_
  refine q_callV (S' := S2) (v := some (.int k)) (pc := 1226) mX10_thrown 10 [] dL_law_1226 kL_126 fX10_thrown iX10_thrown ⟨by decide, by decide⟩ rfl rfl rfl (Nat.le_of_ble_eq_true rfl) (og t3) (mc1 := 0) (ms1 := 0) (mc2 := mc) (ms2 := ms) (Nat.le_of_eq (Nat.zero_add _)) (Nat.le_of_eq (Nat.zero_add _)) (C_X10_thrown S2 68 k t3 (qR_mk (some (.int k)) S2)) ?_
  refine r_iload (pc := 1229) dL_law_1229 rfl ?_
  refine r_icmp_eq (pc := 1231) 1236 dL_law_1231 (by decide) (fun _ => ?_) (fun z => absurd rfl z)
  refine r_iload (pc := 1236) dL_law_1236 rfl ?_
  refine r_if_ne (pc := 1238) 1260 dL_law_1238 (by decide) (fun _ => ?_) (fun z => ?_)
  · refine r_goto (pc := 1260) 2049 dL_law_1260 (by decide) ?_
    exact gW.weak (ls' := lw_ls i) (by simp [gle]) (kk S2 A' t4)
  have k0 := Decidable.not_not.mp z
  have rd := t5 k0
  refine r_aload_n (pc := 1241) dL_law_1241 rfl ?_
  refine r_iconst (pc := 1242) (0 : Int32) dL_law_1242 (by decide) ?_
  refine q_lald (S := S2) (pc := 1243) dL_law_1243 rd ?_
  refine r_iload (pc := 1244) dL_law_1244 rfl ?_
  refine r_nzL (pc := 1246) dL_law_1246 dL_law_1249 dL_law_1250 dL_law_1253 ?_
  refine r_lcmp (pc := 1254) dL_law_1254 ?_
  refine r_if_eq (pc := 1255) 1260 dL_law_1255 (by decide) (fun _ => ?_) (fun z => absurd (lg_cmp_self _) z)
  refine r_goto (pc := 1260) 2049 dL_law_1260 (by decide) ?_
  exact gW.weak (ls' := lw_ls i) (by simp [gle]) (kk S2 A' t4)
set_option maxRecDepth 100000 in
set_option maxHeartbeats 4000000 in
theorem B_15 (h1 : vp_in (i + 1) X.2.2.2.2.1) (h2 : vp_in (i + 2) X.2.2.2.2.1) (h3 : vp_in (i + 3) X.2.2.2.2.1) (h4 : vp_in (i + 4) X.2.2.2.2.1) (h5 : vp_in (i + 5) X.2.2.2.2.1) (hT : TT S (fun j => F_L_outline j S 0 (X.2.2.2.2.2 (i + 1).toNatClampNeg) 109) (fun S1 => F_X10_outline S1 68 (X.2.2.2.2.2 (i + 1).toNatClampNeg)) tdJ) (kk : ∀ S2 A', LI S2 A' → gW X mL_law 2049 (lw_ls i) [] S2.1 S2.2 Q mc ms) : gW X mL_law 1263 (lw_ls i) [] S.1 S.2 Q (mc + 1) (ms + 6) := by
  refine r_aload_n (pc := 1263) dL_law_1263 rfl ?_
  refine r_xload_n (pc := 1264) dL_law_1264 rfl ?_
  refine r_iload (pc := 1265) dL_law_1265 rfl ?_
  refine r_iconst (pc := 1267) (1 : Int32) dL_law_1267 (by decide) ?_
  refine r_iadd (pc := 1268) dL_law_1268 ?_
  refine r_sld (pc := 1269) dL_law_1269 h1 ?_
  refine r_aload_n (pc := 1270) dL_law_1270 rfl ?_
  refine q_callSW (pc := 1271) mL_outline [.ref 0, .int (X.2.2.2.2.2 (i + 1).toNatClampNeg), .ref 109] dL_law_1271 kL_174 wL_outline sL_outline ⟨by decide, by decide⟩ rfl rfl (Nat.le_of_ble_eq_true rfl) (mc1 := 1) (ms1 := 6) (mc2 := mc) (ms2 := ms) (Nat.le_of_eq (Nat.add_comm _ _)) (Nat.le_of_eq (Nat.add_comm _ _)) (C_L_outline (Q := QW (fun j => F_L_outline j S 0 (X.2.2.2.2.2 (i + 1).toNatClampNeg) 109)) S 0 (X.2.2.2.2.2 (i + 1).toNatClampNeg) 109 (qw_of hT) qw_nx) (fun v n' h' hq => ?_)
  obtain ⟨j, k, S1, hj, rfl, rfl, rfl⟩ := (show ∃ j k S1, F_L_outline j S 0 (X.2.2.2.2.2 (i + 1).toNatClampNeg) 109 = some (k, S1) ∧ v = some (.int k) ∧ n' = S1.1 ∧ h' = S1.2 by
    obtain ⟨j, k, S1, w1, w2, w3, w4⟩ := hq
    cases w2; exact ⟨j, k, S1, w1, rfl, w3, w4⟩)
  obtain ⟨k9, S9, b, S2, A', t1, t2, t3, t4, t5⟩ := hT j
  cases hj.symm.trans t1
  refine r_istore (pc := 1274) dL_law_1274 (by decide) ?_
  change gW _ _ _ [some (.retAddr 0), some (.ref 0), some (.ref 68), some (.ref 109), some (.ref 110), some (.int i), some (.int k), none, none] _ _ _ _ _ _
  refine r_aload_n (pc := 1276) dL_law_1276 rfl ?_
  refine r_xload_n (pc := 1277) dL_law_1277 rfl ?_
  refine r_iload (pc := 1278) dL_law_1278 rfl ?_
  refine r_iconst (pc := 1280) (1 : Int32) dL_law_1280 (by decide) ?_
  refine r_iadd (pc := 1281) dL_law_1281 ?_
  refine r_sld (pc := 1282) dL_law_1282 h1 ?_
  replace t2 : F_X10_outline S1 68 (X.2.2.2.2.2 (i + 1).toNatClampNeg) = some (b, S2) := t2
  refine q_callV (S' := S2) (v := some (.int b)) (pc := 1283) mX10_outline 10 [.int (X.2.2.2.2.2 (i + 1).toNatClampNeg)] dL_law_1283 kL_176 fX10_outline iX10_outline ⟨by decide, by decide⟩ rfl rfl rfl (Nat.le_of_ble_eq_true rfl) (og t2) (mc1 := 0) (ms1 := 0) (mc2 := mc) (ms2 := ms) (Nat.le_of_eq (Nat.zero_add _)) (Nat.le_of_eq (Nat.zero_add _)) (C_X10_outline S1 68 (X.2.2.2.2.2 (i + 1).toNatClampNeg) (b, S2) t2 (qR_mk (some (.int b)) S2)) ?_
  refine r_istore (pc := 1286) dL_law_1286 (by decide) ?_
  change gW _ _ _ [some (.retAddr 0), some (.ref 0), some (.ref 68), some (.ref 109), some (.ref 110), some (.int i), some (.int k), some (.int b), none] _ _ _ _ _ _
  refine r_aload_n (pc := 1288) dL_law_1288 rfl ?_
  refine q_callV (S' := S2) (v := some (.int k)) (pc := 1289) mX10_thrown 10 [] dL_law_1289 kL_126 fX10_thrown iX10_thrown ⟨by decide, by decide⟩ rfl rfl rfl (Nat.le_of_ble_eq_true rfl) (og t3) (mc1 := 0) (ms1 := 0) (mc2 := mc) (ms2 := ms) (Nat.le_of_eq (Nat.zero_add _)) (Nat.le_of_eq (Nat.zero_add _)) (C_X10_thrown S2 68 k t3 (qR_mk (some (.int k)) S2)) ?_
  refine r_iload (pc := 1292) dL_law_1292 rfl ?_
  refine r_icmp_eq (pc := 1294) 1299 dL_law_1294 (by decide) (fun _ => ?_) (fun z => absurd rfl z)
  refine r_iload (pc := 1299) dL_law_1299 rfl ?_
  refine r_if_ne (pc := 1301) 1316 dL_law_1301 (by decide) (fun _ => ?_) (fun z => ?_)
  · refine r_goto (pc := 1316) 2049 dL_law_1316 (by decide) ?_
    exact gW.weak (ls' := lw_ls i) (by simp [gle]) (kk S2 A' t4)
  have k0 := Decidable.not_not.mp z
  have rd := t5 k0
  refine r_aload_n (pc := 1304) dL_law_1304 rfl ?_
  refine r_iconst (pc := 1305) (0 : Int32) dL_law_1305 (by decide) ?_
  refine q_lald (S := S2) (pc := 1306) dL_law_1306 rd ?_
  refine r_iload (pc := 1307) dL_law_1307 rfl ?_
  refine r_i2l (pc := 1309) dL_law_1309 ?_
  refine r_lcmp (pc := 1310) dL_law_1310 ?_
  refine r_if_eq (pc := 1311) 1316 dL_law_1311 (by decide) (fun _ => ?_) (fun z => absurd (lg_cmp_self _) z)
  refine r_goto (pc := 1316) 2049 dL_law_1316 (by decide) ?_
  exact gW.weak (ls' := lw_ls i) (by simp [gle]) (kk S2 A' t4)
set_option maxRecDepth 100000 in
set_option maxHeartbeats 4000000 in
theorem B_16 (h1 : vp_in (i + 1) X.2.2.2.2.1) (h2 : vp_in (i + 2) X.2.2.2.2.1) (h3 : vp_in (i + 3) X.2.2.2.2.1) (h4 : vp_in (i + 4) X.2.2.2.2.1) (h5 : vp_in (i + 5) X.2.2.2.2.1) (hT : TT S (fun j => F_L_doneShare j S 0 (X.2.2.2.2.2 (i + 1).toNatClampNeg) 110) (fun S1 => F_X10_doneShare S1 68 (X.2.2.2.2.2 (i + 1).toNatClampNeg)) tdF) (kk : ∀ S2 A', LI S2 A' → gW X mL_law 2049 (lw_ls i) [] S2.1 S2.2 Q mc ms) : gW X mL_law 1319 (lw_ls i) [] S.1 S.2 Q (mc + 1) (ms + 6) := by
  refine r_aload_n (pc := 1319) dL_law_1319 rfl ?_
  refine r_xload_n (pc := 1320) dL_law_1320 rfl ?_
  refine r_iload (pc := 1321) dL_law_1321 rfl ?_
  refine r_iconst (pc := 1323) (1 : Int32) dL_law_1323 (by decide) ?_
  refine r_iadd (pc := 1324) dL_law_1324 ?_
  refine r_sld (pc := 1325) dL_law_1325 h1 ?_
  refine r_aload (pc := 1326) dL_law_1326 rfl ?_
  refine q_callSW (pc := 1328) mL_doneShare [.ref 0, .int (X.2.2.2.2.2 (i + 1).toNatClampNeg), .ref 110] dL_law_1328 kL_177 wL_doneShare sL_doneShare ⟨by decide, by decide⟩ rfl rfl (Nat.le_of_ble_eq_true rfl) (mc1 := 1) (ms1 := 6) (mc2 := mc) (ms2 := ms) (Nat.le_of_eq (Nat.add_comm _ _)) (Nat.le_of_eq (Nat.add_comm _ _)) (C_L_doneShare (Q := QW (fun j => F_L_doneShare j S 0 (X.2.2.2.2.2 (i + 1).toNatClampNeg) 110)) S 0 (X.2.2.2.2.2 (i + 1).toNatClampNeg) 110 (qw_of hT) qw_nx) (fun v n' h' hq => ?_)
  obtain ⟨j, k, S1, hj, rfl, rfl, rfl⟩ := (show ∃ j k S1, F_L_doneShare j S 0 (X.2.2.2.2.2 (i + 1).toNatClampNeg) 110 = some (k, S1) ∧ v = some (.int k) ∧ n' = S1.1 ∧ h' = S1.2 by
    obtain ⟨j, k, S1, w1, w2, w3, w4⟩ := hq
    cases w2; exact ⟨j, k, S1, w1, rfl, w3, w4⟩)
  obtain ⟨k9, S9, b, S2, A', t1, t2, t3, t4, t5⟩ := hT j
  cases hj.symm.trans t1
  refine r_istore (pc := 1331) dL_law_1331 (by decide) ?_
  change gW _ _ _ [some (.retAddr 0), some (.ref 0), some (.ref 68), some (.ref 109), some (.ref 110), some (.int i), some (.int k), none, none] _ _ _ _ _ _
  refine r_aload_n (pc := 1333) dL_law_1333 rfl ?_
  refine r_xload_n (pc := 1334) dL_law_1334 rfl ?_
  refine r_iload (pc := 1335) dL_law_1335 rfl ?_
  refine r_iconst (pc := 1337) (1 : Int32) dL_law_1337 (by decide) ?_
  refine r_iadd (pc := 1338) dL_law_1338 ?_
  refine r_sld (pc := 1339) dL_law_1339 h1 ?_
  replace t2 : F_X10_doneShare S1 68 (X.2.2.2.2.2 (i + 1).toNatClampNeg) = some (b, S2) := t2
  refine q_callV (S' := S2) (v := some (.float b)) (pc := 1340) mX10_doneShare 10 [.int (X.2.2.2.2.2 (i + 1).toNatClampNeg)] dL_law_1340 kL_180 fX10_doneShare iX10_doneShare ⟨by decide, by decide⟩ rfl rfl rfl (Nat.le_of_ble_eq_true rfl) (og t2) (mc1 := 0) (ms1 := 0) (mc2 := mc) (ms2 := ms) (Nat.le_of_eq (Nat.zero_add _)) (Nat.le_of_eq (Nat.zero_add _)) (C_X10_doneShare S1 68 (X.2.2.2.2.2 (i + 1).toNatClampNeg) (b, S2) t2 (qR_mk (some (.float b)) S2)) ?_
  refine r_fstore (pc := 1343) dL_law_1343 (by decide) ?_
  change gW _ _ _ [some (.retAddr 0), some (.ref 0), some (.ref 68), some (.ref 109), some (.ref 110), some (.int i), some (.int k), some (.float b), none] _ _ _ _ _ _
  refine r_aload_n (pc := 1345) dL_law_1345 rfl ?_
  refine q_callV (S' := S2) (v := some (.int k)) (pc := 1346) mX10_thrown 10 [] dL_law_1346 kL_126 fX10_thrown iX10_thrown ⟨by decide, by decide⟩ rfl rfl rfl (Nat.le_of_ble_eq_true rfl) (og t3) (mc1 := 0) (ms1 := 0) (mc2 := mc) (ms2 := ms) (Nat.le_of_eq (Nat.zero_add _)) (Nat.le_of_eq (Nat.zero_add _)) (C_X10_thrown S2 68 k t3 (qR_mk (some (.int k)) S2)) ?_
  refine r_iload (pc := 1349) dL_law_1349 rfl ?_
  refine r_icmp_eq (pc := 1351) 1356 dL_law_1351 (by decide) (fun _ => ?_) (fun z => absurd rfl z)
  refine r_iload (pc := 1356) dL_law_1356 rfl ?_
  refine r_if_ne (pc := 1358) 1394 dL_law_1358 (by decide) (fun _ => ?_) (fun z => ?_)
  · refine r_goto (pc := 1394) 2049 dL_law_1394 (by decide) ?_
    exact gW.weak (ls' := lw_ls i) (by simp [gle]) (kk S2 A' t4)
  have k0 := Decidable.not_not.mp z
  have rd := t5 k0
  obtain ⟨rd, fd, cd⟩ := rd
  refine r_aload (pc := 1361) dL_law_1361 rfl ?_
  refine r_iconst (pc := 1363) (0 : Int32) dL_law_1363 (by decide) ?_
  refine q_dald (S := S2) (pc := 1364) dL_law_1364 rd ?_
  refine r_fload (pc := 1365) dL_law_1365 rfl ?_
  refine q_f2d (S := S2) (pc := 1367) dL_law_1367 fd ?_
  refine r_dcmp (pc := 1368) dL_law_1368 ?_
  refine r_if_eq (pc := 1369) 1394 dL_law_1369 (by decide) (fun _ => ?_) (fun z => absurd (by rw [cd]; exact cmp_eq0 _) z)
  refine r_goto (pc := 1394) 2049 dL_law_1394 (by decide) ?_
  exact gW.weak (ls' := lw_ls i) (by simp [gle]) (kk S2 A' t4)
set_option maxRecDepth 100000 in
set_option maxHeartbeats 4000000 in
theorem B_17 (h1 : vp_in (i + 1) X.2.2.2.2.1) (h2 : vp_in (i + 2) X.2.2.2.2.1) (h3 : vp_in (i + 3) X.2.2.2.2.1) (h4 : vp_in (i + 4) X.2.2.2.2.1) (h5 : vp_in (i + 5) X.2.2.2.2.1) (hT : TT S (fun j => F_L_meanValue j S 0 (X.2.2.2.2.2 (i + 1).toNatClampNeg) 110) (fun S1 => F_X10_meanValue S1 68 (X.2.2.2.2.2 (i + 1).toNatClampNeg)) tdD) (kk : ∀ S2 A', LI S2 A' → gW X mL_law 2049 (lw_ls i) [] S2.1 S2.2 Q mc ms) : gW X mL_law 1397 (lw_ls i) [] S.1 S.2 Q (mc + 1) (ms + 6) := by
  refine r_aload_n (pc := 1397) dL_law_1397 rfl ?_
  refine r_xload_n (pc := 1398) dL_law_1398 rfl ?_
  refine r_iload (pc := 1399) dL_law_1399 rfl ?_
  refine r_iconst (pc := 1401) (1 : Int32) dL_law_1401 (by decide) ?_
  refine r_iadd (pc := 1402) dL_law_1402 ?_
  refine r_sld (pc := 1403) dL_law_1403 h1 ?_
  refine r_aload (pc := 1404) dL_law_1404 rfl ?_
  refine q_callSW (pc := 1406) mL_meanValue [.ref 0, .int (X.2.2.2.2.2 (i + 1).toNatClampNeg), .ref 110] dL_law_1406 kL_181 wL_meanValue sL_meanValue ⟨by decide, by decide⟩ rfl rfl (Nat.le_of_ble_eq_true rfl) (mc1 := 1) (ms1 := 6) (mc2 := mc) (ms2 := ms) (Nat.le_of_eq (Nat.add_comm _ _)) (Nat.le_of_eq (Nat.add_comm _ _)) (C_L_meanValue (Q := QW (fun j => F_L_meanValue j S 0 (X.2.2.2.2.2 (i + 1).toNatClampNeg) 110)) S 0 (X.2.2.2.2.2 (i + 1).toNatClampNeg) 110 (qw_of hT) qw_nx) (fun v n' h' hq => ?_)
  obtain ⟨j, k, S1, hj, rfl, rfl, rfl⟩ := (show ∃ j k S1, F_L_meanValue j S 0 (X.2.2.2.2.2 (i + 1).toNatClampNeg) 110 = some (k, S1) ∧ v = some (.int k) ∧ n' = S1.1 ∧ h' = S1.2 by
    obtain ⟨j, k, S1, w1, w2, w3, w4⟩ := hq
    cases w2; exact ⟨j, k, S1, w1, rfl, w3, w4⟩)
  obtain ⟨k9, S9, b, S2, A', t1, t2, t3, t4, t5⟩ := hT j
  cases hj.symm.trans t1
  refine r_istore (pc := 1409) dL_law_1409 (by decide) ?_
  change gW _ _ _ [some (.retAddr 0), some (.ref 0), some (.ref 68), some (.ref 109), some (.ref 110), some (.int i), some (.int k), none, none] _ _ _ _ _ _
  refine r_aload_n (pc := 1411) dL_law_1411 rfl ?_
  refine r_xload_n (pc := 1412) dL_law_1412 rfl ?_
  refine r_iload (pc := 1413) dL_law_1413 rfl ?_
  refine r_iconst (pc := 1415) (1 : Int32) dL_law_1415 (by decide) ?_
  refine r_iadd (pc := 1416) dL_law_1416 ?_
  refine r_sld (pc := 1417) dL_law_1417 h1 ?_
  replace t2 : F_X10_meanValue S1 68 (X.2.2.2.2.2 (i + 1).toNatClampNeg) = some (b, S2) := t2
  refine q_callV (S' := S2) (v := some (.double b)) (pc := 1418) mX10_meanValue 10 [.int (X.2.2.2.2.2 (i + 1).toNatClampNeg)] dL_law_1418 kL_183 fX10_meanValue iX10_meanValue ⟨by decide, by decide⟩ rfl rfl rfl (Nat.le_of_ble_eq_true rfl) (og t2) (mc1 := 0) (ms1 := 0) (mc2 := mc) (ms2 := ms) (Nat.le_of_eq (Nat.zero_add _)) (Nat.le_of_eq (Nat.zero_add _)) (C_X10_meanValue S1 68 (X.2.2.2.2.2 (i + 1).toNatClampNeg) (b, S2) t2 (qR_mk (some (.double b)) S2)) ?_
  refine r_dstore (pc := 1421) dL_law_1421 (by decide) ?_
  change gW _ _ _ [some (.retAddr 0), some (.ref 0), some (.ref 68), some (.ref 109), some (.ref 110), some (.int i), some (.int k), some (.double b), none] _ _ _ _ _ _
  refine r_aload_n (pc := 1423) dL_law_1423 rfl ?_
  refine q_callV (S' := S2) (v := some (.int k)) (pc := 1424) mX10_thrown 10 [] dL_law_1424 kL_126 fX10_thrown iX10_thrown ⟨by decide, by decide⟩ rfl rfl rfl (Nat.le_of_ble_eq_true rfl) (og t3) (mc1 := 0) (ms1 := 0) (mc2 := mc) (ms2 := ms) (Nat.le_of_eq (Nat.zero_add _)) (Nat.le_of_eq (Nat.zero_add _)) (C_X10_thrown S2 68 k t3 (qR_mk (some (.int k)) S2)) ?_
  refine r_iload (pc := 1427) dL_law_1427 rfl ?_
  refine r_icmp_eq (pc := 1429) 1434 dL_law_1429 (by decide) (fun _ => ?_) (fun z => absurd rfl z)
  refine r_iload (pc := 1434) dL_law_1434 rfl ?_
  refine r_if_ne (pc := 1436) 1471 dL_law_1436 (by decide) (fun _ => ?_) (fun z => ?_)
  · refine r_goto (pc := 1471) 2049 dL_law_1471 (by decide) ?_
    exact gW.weak (ls' := lw_ls i) (by simp [gle]) (kk S2 A' t4)
  have k0 := Decidable.not_not.mp z
  have rd := t5 k0
  refine r_aload (pc := 1439) dL_law_1439 rfl ?_
  refine r_iconst (pc := 1441) (0 : Int32) dL_law_1441 (by decide) ?_
  refine q_dald (S := S2) (pc := 1442) dL_law_1442 rd ?_
  refine r_dload (pc := 1443) dL_law_1443 rfl ?_
  refine r_dcmp (pc := 1445) dL_law_1445 ?_
  refine r_if_eq (pc := 1446) 1471 dL_law_1446 (by decide) (fun _ => ?_) (fun z0 => ?_)
  · refine r_goto (pc := 1471) 2049 dL_law_1471 (by decide) ?_
    exact gW.weak (ls' := lw_ls i) (by simp [gle]) (kk S2 A' t4)
  refine r_aload (pc := 1449) dL_law_1449 rfl ?_
  refine r_iconst (pc := 1451) (0 : Int32) dL_law_1451 (by decide) ?_
  refine q_dald (S := S2) (pc := 1452) dL_law_1452 rd ?_
  refine r_aload (pc := 1453) dL_law_1453 rfl ?_
  refine r_iconst (pc := 1455) (0 : Int32) dL_law_1455 (by decide) ?_
  refine q_dald (S := S2) (pc := 1456) dL_law_1456 rd ?_
  refine r_dcmp (pc := 1457) dL_law_1457 ?_
  refine r_if_eq (pc := 1458) 1469 dL_law_1458 (by decide) (fun z => absurd z z0) (fun _ => ?_)
  refine r_dload (pc := 1461) dL_law_1461 rfl ?_
  refine r_dload (pc := 1463) dL_law_1463 rfl ?_
  refine r_dcmp (pc := 1465) dL_law_1465 ?_
  refine r_if_ne (pc := 1466) 1471 dL_law_1466 (by decide) (fun _ => ?_) (fun z => absurd z0 z)
  refine r_goto (pc := 1471) 2049 dL_law_1471 (by decide) ?_
  exact gW.weak (ls' := lw_ls i) (by simp [gle]) (kk S2 A' t4)
set_option maxRecDepth 100000 in
set_option maxHeartbeats 4000000 in
theorem B_18 (h1 : vp_in (i + 1) X.2.2.2.2.1) (h2 : vp_in (i + 2) X.2.2.2.2.1) (h3 : vp_in (i + 3) X.2.2.2.2.1) (h4 : vp_in (i + 4) X.2.2.2.2.1) (h5 : vp_in (i + 5) X.2.2.2.2.1) (hT : TT S (fun j => F_L_hoist j S 0 (X.2.2.2.2.2 (i + 1).toNatClampNeg) 109) (fun S1 => F_X10_hoist S1 68 (X.2.2.2.2.2 (i + 1).toNatClampNeg)) tdJ) (kk : ∀ S2 A', LI S2 A' → gW X mL_law 2049 (lw_ls i) [] S2.1 S2.2 Q mc ms) : gW X mL_law 1474 (lw_ls i) [] S.1 S.2 Q (mc + 2) (ms + 12) := by
  refine r_aload_n (pc := 1474) dL_law_1474 rfl ?_
  refine r_xload_n (pc := 1475) dL_law_1475 rfl ?_
  refine r_iload (pc := 1476) dL_law_1476 rfl ?_
  refine r_iconst (pc := 1478) (1 : Int32) dL_law_1478 (by decide) ?_
  refine r_iadd (pc := 1479) dL_law_1479 ?_
  refine r_sld (pc := 1480) dL_law_1480 h1 ?_
  refine r_aload_n (pc := 1481) dL_law_1481 rfl ?_
  refine q_callSW (pc := 1482) mL_hoist [.ref 0, .int (X.2.2.2.2.2 (i + 1).toNatClampNeg), .ref 109] dL_law_1482 kL_184 wL_hoist sL_hoist ⟨by decide, by decide⟩ rfl rfl (Nat.le_of_ble_eq_true rfl) (mc1 := 2) (ms1 := 12) (mc2 := mc) (ms2 := ms) (Nat.le_of_eq (Nat.add_comm _ _)) (Nat.le_of_eq (Nat.add_comm _ _)) (C_L_hoist (Q := QW (fun j => F_L_hoist j S 0 (X.2.2.2.2.2 (i + 1).toNatClampNeg) 109)) S 0 (X.2.2.2.2.2 (i + 1).toNatClampNeg) 109 (qw_of hT) qw_nx) (fun v n' h' hq => ?_)
  obtain ⟨j, k, S1, hj, rfl, rfl, rfl⟩ := (show ∃ j k S1, F_L_hoist j S 0 (X.2.2.2.2.2 (i + 1).toNatClampNeg) 109 = some (k, S1) ∧ v = some (.int k) ∧ n' = S1.1 ∧ h' = S1.2 by
    obtain ⟨j, k, S1, w1, w2, w3, w4⟩ := hq
    cases w2; exact ⟨j, k, S1, w1, rfl, w3, w4⟩)
  obtain ⟨k9, S9, b, S2, A', t1, t2, t3, t4, t5⟩ := hT j
  cases hj.symm.trans t1
  refine r_istore (pc := 1485) dL_law_1485 (by decide) ?_
  change gW _ _ _ [some (.retAddr 0), some (.ref 0), some (.ref 68), some (.ref 109), some (.ref 110), some (.int i), some (.int k), none, none] _ _ _ _ _ _
  refine r_aload_n (pc := 1487) dL_law_1487 rfl ?_
  refine r_xload_n (pc := 1488) dL_law_1488 rfl ?_
  refine r_iload (pc := 1489) dL_law_1489 rfl ?_
  refine r_iconst (pc := 1491) (1 : Int32) dL_law_1491 (by decide) ?_
  refine r_iadd (pc := 1492) dL_law_1492 ?_
  refine r_sld (pc := 1493) dL_law_1493 h1 ?_
  replace t2 : F_X10_hoist S1 68 (X.2.2.2.2.2 (i + 1).toNatClampNeg) = some (b, S2) := t2
  refine q_callV (S' := S2) (v := some (.int b)) (pc := 1494) mX10_hoist 10 [.int (X.2.2.2.2.2 (i + 1).toNatClampNeg)] dL_law_1494 kL_186 fX10_hoist iX10_hoist ⟨by decide, by decide⟩ rfl rfl rfl (Nat.le_of_ble_eq_true rfl) (og t2) (mc1 := 0) (ms1 := 0) (mc2 := mc) (ms2 := ms) (Nat.le_of_eq (Nat.zero_add _)) (Nat.le_of_eq (Nat.zero_add _)) (C_X10_hoist S1 68 (X.2.2.2.2.2 (i + 1).toNatClampNeg) (b, S2) t2 (qR_mk (some (.int b)) S2)) ?_
  refine r_istore (pc := 1497) dL_law_1497 (by decide) ?_
  change gW _ _ _ [some (.retAddr 0), some (.ref 0), some (.ref 68), some (.ref 109), some (.ref 110), some (.int i), some (.int k), some (.int b), none] _ _ _ _ _ _
  refine r_aload_n (pc := 1499) dL_law_1499 rfl ?_
  refine q_callV (S' := S2) (v := some (.int k)) (pc := 1500) mX10_thrown 10 [] dL_law_1500 kL_126 fX10_thrown iX10_thrown ⟨by decide, by decide⟩ rfl rfl rfl (Nat.le_of_ble_eq_true rfl) (og t3) (mc1 := 0) (ms1 := 0) (mc2 := mc) (ms2 := ms) (Nat.le_of_eq (Nat.zero_add _)) (Nat.le_of_eq (Nat.zero_add _)) (C_X10_thrown S2 68 k t3 (qR_mk (some (.int k)) S2)) ?_
  refine r_iload (pc := 1503) dL_law_1503 rfl ?_
  refine r_icmp_eq (pc := 1505) 1510 dL_law_1505 (by decide) (fun _ => ?_) (fun z => absurd rfl z)
  refine r_iload (pc := 1510) dL_law_1510 rfl ?_
  refine r_if_ne (pc := 1512) 1527 dL_law_1512 (by decide) (fun _ => ?_) (fun z => ?_)
  · refine r_goto (pc := 1527) 2049 dL_law_1527 (by decide) ?_
    exact gW.weak (ls' := lw_ls i) (by simp [gle]) (kk S2 A' t4)
  have k0 := Decidable.not_not.mp z
  have rd := t5 k0
  refine r_aload_n (pc := 1515) dL_law_1515 rfl ?_
  refine r_iconst (pc := 1516) (0 : Int32) dL_law_1516 (by decide) ?_
  refine q_lald (S := S2) (pc := 1517) dL_law_1517 rd ?_
  refine r_iload (pc := 1518) dL_law_1518 rfl ?_
  refine r_i2l (pc := 1520) dL_law_1520 ?_
  refine r_lcmp (pc := 1521) dL_law_1521 ?_
  refine r_if_eq (pc := 1522) 1527 dL_law_1522 (by decide) (fun _ => ?_) (fun z => absurd (lg_cmp_self _) z)
  refine r_goto (pc := 1527) 2049 dL_law_1527 (by decide) ?_
  exact gW.weak (ls' := lw_ls i) (by simp [gle]) (kk S2 A' t4)
set_option maxRecDepth 100000 in
set_option maxHeartbeats 4000000 in
theorem B_19 (h1 : vp_in (i + 1) X.2.2.2.2.1) (h2 : vp_in (i + 2) X.2.2.2.2.1) (h3 : vp_in (i + 3) X.2.2.2.2.1) (h4 : vp_in (i + 4) X.2.2.2.2.1) (h5 : vp_in (i + 5) X.2.2.2.2.1) (hT : TT S (fun j => F_L_unhoist j S 0 109) (fun S1 => F_X10_unhoist S1 68) tdJ) (kk : ∀ S2 A', LI S2 A' → gW X mL_law 2049 (lw_ls i) [] S2.1 S2.2 Q mc ms) : gW X mL_law 1530 (lw_ls i) [] S.1 S.2 Q (mc + 1) (ms + 6) := by
  refine r_aload_n (pc := 1530) dL_law_1530 rfl ?_
  refine r_aload_n (pc := 1531) dL_law_1531 rfl ?_
  refine q_callSW (pc := 1532) mL_unhoist [.ref 0, .ref 109] dL_law_1532 kL_187 wL_unhoist sL_unhoist ⟨by decide, by decide⟩ rfl rfl (Nat.le_of_ble_eq_true rfl) (mc1 := 1) (ms1 := 6) (mc2 := mc) (ms2 := ms) (Nat.le_of_eq (Nat.add_comm _ _)) (Nat.le_of_eq (Nat.add_comm _ _)) (C_L_unhoist (Q := QW (fun j => F_L_unhoist j S 0 109)) S 0 109 (qw_of hT) qw_nx) (fun v n' h' hq => ?_)
  obtain ⟨j, k, S1, hj, rfl, rfl, rfl⟩ := (show ∃ j k S1, F_L_unhoist j S 0 109 = some (k, S1) ∧ v = some (.int k) ∧ n' = S1.1 ∧ h' = S1.2 by
    obtain ⟨j, k, S1, w1, w2, w3, w4⟩ := hq
    cases w2; exact ⟨j, k, S1, w1, rfl, w3, w4⟩)
  obtain ⟨k9, S9, b, S2, A', t1, t2, t3, t4, t5⟩ := hT j
  cases hj.symm.trans t1
  refine r_istore (pc := 1535) dL_law_1535 (by decide) ?_
  change gW _ _ _ [some (.retAddr 0), some (.ref 0), some (.ref 68), some (.ref 109), some (.ref 110), some (.int i), some (.int k), none, none] _ _ _ _ _ _
  refine r_aload_n (pc := 1537) dL_law_1537 rfl ?_
  replace t2 : F_X10_unhoist S1 68 = some (b, S2) := t2
  refine q_callV (S' := S2) (v := some (.int b)) (pc := 1538) mX10_unhoist 10 [] dL_law_1538 kL_190 fX10_unhoist iX10_unhoist ⟨by decide, by decide⟩ rfl rfl rfl (Nat.le_of_ble_eq_true rfl) (og t2) (mc1 := 0) (ms1 := 0) (mc2 := mc) (ms2 := ms) (Nat.le_of_eq (Nat.zero_add _)) (Nat.le_of_eq (Nat.zero_add _)) (C_X10_unhoist S1 68 (b, S2) t2 (qR_mk (some (.int b)) S2)) ?_
  refine r_istore (pc := 1541) dL_law_1541 (by decide) ?_
  change gW _ _ _ [some (.retAddr 0), some (.ref 0), some (.ref 68), some (.ref 109), some (.ref 110), some (.int i), some (.int k), some (.int b), none] _ _ _ _ _ _
  refine r_aload_n (pc := 1543) dL_law_1543 rfl ?_
  refine q_callV (S' := S2) (v := some (.int k)) (pc := 1544) mX10_thrown 10 [] dL_law_1544 kL_126 fX10_thrown iX10_thrown ⟨by decide, by decide⟩ rfl rfl rfl (Nat.le_of_ble_eq_true rfl) (og t3) (mc1 := 0) (ms1 := 0) (mc2 := mc) (ms2 := ms) (Nat.le_of_eq (Nat.zero_add _)) (Nat.le_of_eq (Nat.zero_add _)) (C_X10_thrown S2 68 k t3 (qR_mk (some (.int k)) S2)) ?_
  refine r_iload (pc := 1547) dL_law_1547 rfl ?_
  refine r_icmp_eq (pc := 1549) 1554 dL_law_1549 (by decide) (fun _ => ?_) (fun z => absurd rfl z)
  refine r_iload (pc := 1554) dL_law_1554 rfl ?_
  refine r_if_ne (pc := 1556) 1571 dL_law_1556 (by decide) (fun _ => ?_) (fun z => ?_)
  · refine r_goto (pc := 1571) 2049 dL_law_1571 (by decide) ?_
    exact gW.weak (ls' := lw_ls i) (by simp [gle]) (kk S2 A' t4)
  have k0 := Decidable.not_not.mp z
  have rd := t5 k0
  refine r_aload_n (pc := 1559) dL_law_1559 rfl ?_
  refine r_iconst (pc := 1560) (0 : Int32) dL_law_1560 (by decide) ?_
  refine q_lald (S := S2) (pc := 1561) dL_law_1561 rd ?_
  refine r_iload (pc := 1562) dL_law_1562 rfl ?_
  refine r_i2l (pc := 1564) dL_law_1564 ?_
  refine r_lcmp (pc := 1565) dL_law_1565 ?_
  refine r_if_eq (pc := 1566) 1571 dL_law_1566 (by decide) (fun _ => ?_) (fun z => absurd (lg_cmp_self _) z)
  refine r_goto (pc := 1571) 2049 dL_law_1571 (by decide) ?_
  exact gW.weak (ls' := lw_ls i) (by simp [gle]) (kk S2 A' t4)
set_option maxRecDepth 100000 in
set_option maxHeartbeats 4000000 in
theorem B_20 (h1 : vp_in (i + 1) X.2.2.2.2.1) (h2 : vp_in (i + 2) X.2.2.2.2.1) (h3 : vp_in (i + 3) X.2.2.2.2.1) (h4 : vp_in (i + 4) X.2.2.2.2.1) (h5 : vp_in (i + 5) X.2.2.2.2.1) (hT : TT S (fun j => F_L_filter j S 0 109) (fun S1 => F_X10_filter S1 68) tdJ) (kk : ∀ S2 A', LI S2 A' → gW X mL_law 2049 (lw_ls i) [] S2.1 S2.2 Q mc ms) : gW X mL_law 1574 (lw_ls i) [] S.1 S.2 Q (mc + 1) (ms + 6) := by
  refine r_aload_n (pc := 1574) dL_law_1574 rfl ?_
  refine r_aload_n (pc := 1575) dL_law_1575 rfl ?_
  refine q_callSW (pc := 1576) mL_filter [.ref 0, .ref 109] dL_law_1576 kL_191 wL_filter sL_filter ⟨by decide, by decide⟩ rfl rfl (Nat.le_of_ble_eq_true rfl) (mc1 := 1) (ms1 := 6) (mc2 := mc) (ms2 := ms) (Nat.le_of_eq (Nat.add_comm _ _)) (Nat.le_of_eq (Nat.add_comm _ _)) (C_L_filter (Q := QW (fun j => F_L_filter j S 0 109)) S 0 109 (qw_of hT) qw_nx) (fun v n' h' hq => ?_)
  obtain ⟨j, k, S1, hj, rfl, rfl, rfl⟩ := (show ∃ j k S1, F_L_filter j S 0 109 = some (k, S1) ∧ v = some (.int k) ∧ n' = S1.1 ∧ h' = S1.2 by
    obtain ⟨j, k, S1, w1, w2, w3, w4⟩ := hq
    cases w2; exact ⟨j, k, S1, w1, rfl, w3, w4⟩)
  obtain ⟨k9, S9, b, S2, A', t1, t2, t3, t4, t5⟩ := hT j
  cases hj.symm.trans t1
  refine r_istore (pc := 1579) dL_law_1579 (by decide) ?_
  change gW _ _ _ [some (.retAddr 0), some (.ref 0), some (.ref 68), some (.ref 109), some (.ref 110), some (.int i), some (.int k), none, none] _ _ _ _ _ _
  refine r_aload_n (pc := 1581) dL_law_1581 rfl ?_
  replace t2 : F_X10_filter S1 68 = some (b, S2) := t2
  refine q_callV (S' := S2) (v := some (.int b)) (pc := 1582) mX10_filter 10 [] dL_law_1582 kL_193 fX10_filter iX10_filter ⟨by decide, by decide⟩ rfl rfl rfl (Nat.le_of_ble_eq_true rfl) (og t2) (mc1 := 0) (ms1 := 0) (mc2 := mc) (ms2 := ms) (Nat.le_of_eq (Nat.zero_add _)) (Nat.le_of_eq (Nat.zero_add _)) (C_X10_filter S1 68 (b, S2) t2 (qR_mk (some (.int b)) S2)) ?_
  refine r_istore (pc := 1585) dL_law_1585 (by decide) ?_
  change gW _ _ _ [some (.retAddr 0), some (.ref 0), some (.ref 68), some (.ref 109), some (.ref 110), some (.int i), some (.int k), some (.int b), none] _ _ _ _ _ _
  refine r_aload_n (pc := 1587) dL_law_1587 rfl ?_
  refine q_callV (S' := S2) (v := some (.int k)) (pc := 1588) mX10_thrown 10 [] dL_law_1588 kL_126 fX10_thrown iX10_thrown ⟨by decide, by decide⟩ rfl rfl rfl (Nat.le_of_ble_eq_true rfl) (og t3) (mc1 := 0) (ms1 := 0) (mc2 := mc) (ms2 := ms) (Nat.le_of_eq (Nat.zero_add _)) (Nat.le_of_eq (Nat.zero_add _)) (C_X10_thrown S2 68 k t3 (qR_mk (some (.int k)) S2)) ?_
  refine r_iload (pc := 1591) dL_law_1591 rfl ?_
  refine r_icmp_eq (pc := 1593) 1598 dL_law_1593 (by decide) (fun _ => ?_) (fun z => absurd rfl z)
  refine r_iload (pc := 1598) dL_law_1598 rfl ?_
  refine r_if_ne (pc := 1600) 1615 dL_law_1600 (by decide) (fun _ => ?_) (fun z => ?_)
  · refine r_goto (pc := 1615) 2049 dL_law_1615 (by decide) ?_
    exact gW.weak (ls' := lw_ls i) (by simp [gle]) (kk S2 A' t4)
  have k0 := Decidable.not_not.mp z
  have rd := t5 k0
  refine r_aload_n (pc := 1603) dL_law_1603 rfl ?_
  refine r_iconst (pc := 1604) (0 : Int32) dL_law_1604 (by decide) ?_
  refine q_lald (S := S2) (pc := 1605) dL_law_1605 rd ?_
  refine r_iload (pc := 1606) dL_law_1606 rfl ?_
  refine r_i2l (pc := 1608) dL_law_1608 ?_
  refine r_lcmp (pc := 1609) dL_law_1609 ?_
  refine r_if_eq (pc := 1610) 1615 dL_law_1610 (by decide) (fun _ => ?_) (fun z => absurd (lg_cmp_self _) z)
  refine r_goto (pc := 1615) 2049 dL_law_1615 (by decide) ?_
  exact gW.weak (ls' := lw_ls i) (by simp [gle]) (kk S2 A' t4)
set_option maxRecDepth 100000 in
set_option maxHeartbeats 4000000 in
theorem B_21 (h1 : vp_in (i + 1) X.2.2.2.2.1) (h2 : vp_in (i + 2) X.2.2.2.2.1) (h3 : vp_in (i + 3) X.2.2.2.2.1) (h4 : vp_in (i + 4) X.2.2.2.2.1) (h5 : vp_in (i + 5) X.2.2.2.2.1) (hT : TT S (fun j => F_L_line j S 0 (X.2.2.2.2.2 (i + 1).toNatClampNeg) (X.2.2.2.2.2 (i + 2).toNatClampNeg) 109) (fun S1 => F_X10_line S1 68 (X.2.2.2.2.2 (i + 1).toNatClampNeg) (X.2.2.2.2.2 (i + 2).toNatClampNeg)) tdJ) (kk : ∀ S2 A', LI S2 A' → gW X mL_law 2049 (lw_ls i) [] S2.1 S2.2 Q mc ms) : gW X mL_law 1618 (lw_ls i) [] S.1 S.2 Q (mc + 2) (ms + 12) := by
  refine r_aload_n (pc := 1618) dL_law_1618 rfl ?_
  refine r_xload_n (pc := 1619) dL_law_1619 rfl ?_
  refine r_iload (pc := 1620) dL_law_1620 rfl ?_
  refine r_iconst (pc := 1622) (1 : Int32) dL_law_1622 (by decide) ?_
  refine r_iadd (pc := 1623) dL_law_1623 ?_
  refine r_sld (pc := 1624) dL_law_1624 h1 ?_
  refine r_xload_n (pc := 1625) dL_law_1625 rfl ?_
  refine r_iload (pc := 1626) dL_law_1626 rfl ?_
  refine r_iconst (pc := 1628) (2 : Int32) dL_law_1628 (by decide) ?_
  refine r_iadd (pc := 1629) dL_law_1629 ?_
  refine r_sld (pc := 1630) dL_law_1630 h2 ?_
  refine r_aload_n (pc := 1631) dL_law_1631 rfl ?_
  refine q_callSW (pc := 1632) mL_line [.ref 0, .int (X.2.2.2.2.2 (i + 1).toNatClampNeg), .int (X.2.2.2.2.2 (i + 2).toNatClampNeg), .ref 109] dL_law_1632 kL_194 wL_line sL_line ⟨by decide, by decide⟩ rfl rfl (Nat.le_of_ble_eq_true rfl) (mc1 := 2) (ms1 := 12) (mc2 := mc) (ms2 := ms) (Nat.le_of_eq (Nat.add_comm _ _)) (Nat.le_of_eq (Nat.add_comm _ _)) (C_L_line (Q := QW (fun j => F_L_line j S 0 (X.2.2.2.2.2 (i + 1).toNatClampNeg) (X.2.2.2.2.2 (i + 2).toNatClampNeg) 109)) S 0 (X.2.2.2.2.2 (i + 1).toNatClampNeg) (X.2.2.2.2.2 (i + 2).toNatClampNeg) 109 (qw_of hT) qw_nx) (fun v n' h' hq => ?_)
  obtain ⟨j, k, S1, hj, rfl, rfl, rfl⟩ := (show ∃ j k S1, F_L_line j S 0 (X.2.2.2.2.2 (i + 1).toNatClampNeg) (X.2.2.2.2.2 (i + 2).toNatClampNeg) 109 = some (k, S1) ∧ v = some (.int k) ∧ n' = S1.1 ∧ h' = S1.2 by
    obtain ⟨j, k, S1, w1, w2, w3, w4⟩ := hq
    cases w2; exact ⟨j, k, S1, w1, rfl, w3, w4⟩)
  obtain ⟨k9, S9, b, S2, A', t1, t2, t3, t4, t5⟩ := hT j
  cases hj.symm.trans t1
  refine r_istore (pc := 1635) dL_law_1635 (by decide) ?_
  change gW _ _ _ [some (.retAddr 0), some (.ref 0), some (.ref 68), some (.ref 109), some (.ref 110), some (.int i), some (.int k), none, none] _ _ _ _ _ _
  refine r_aload_n (pc := 1637) dL_law_1637 rfl ?_
  refine r_xload_n (pc := 1638) dL_law_1638 rfl ?_
  refine r_iload (pc := 1639) dL_law_1639 rfl ?_
  refine r_iconst (pc := 1641) (1 : Int32) dL_law_1641 (by decide) ?_
  refine r_iadd (pc := 1642) dL_law_1642 ?_
  refine r_sld (pc := 1643) dL_law_1643 h1 ?_
  refine r_xload_n (pc := 1644) dL_law_1644 rfl ?_
  refine r_iload (pc := 1645) dL_law_1645 rfl ?_
  refine r_iconst (pc := 1647) (2 : Int32) dL_law_1647 (by decide) ?_
  refine r_iadd (pc := 1648) dL_law_1648 ?_
  refine r_sld (pc := 1649) dL_law_1649 h2 ?_
  replace t2 : F_X10_line S1 68 (X.2.2.2.2.2 (i + 1).toNatClampNeg) (X.2.2.2.2.2 (i + 2).toNatClampNeg) = some (b, S2) := t2
  refine q_callV (S' := S2) (v := some (.int b)) (pc := 1650) mX10_line 10 [.int (X.2.2.2.2.2 (i + 1).toNatClampNeg), .int (X.2.2.2.2.2 (i + 2).toNatClampNeg)] dL_law_1650 kL_196 fX10_line iX10_line ⟨by decide, by decide⟩ rfl rfl rfl (Nat.le_of_ble_eq_true rfl) (og t2) (mc1 := 0) (ms1 := 0) (mc2 := mc) (ms2 := ms) (Nat.le_of_eq (Nat.zero_add _)) (Nat.le_of_eq (Nat.zero_add _)) (C_X10_line S1 68 (X.2.2.2.2.2 (i + 1).toNatClampNeg) (X.2.2.2.2.2 (i + 2).toNatClampNeg) (b, S2) t2 (qR_mk (some (.int b)) S2)) ?_
  refine r_istore (pc := 1653) dL_law_1653 (by decide) ?_
  change gW _ _ _ [some (.retAddr 0), some (.ref 0), some (.ref 68), some (.ref 109), some (.ref 110), some (.int i), some (.int k), some (.int b), none] _ _ _ _ _ _
  refine r_aload_n (pc := 1655) dL_law_1655 rfl ?_
  refine q_callV (S' := S2) (v := some (.int k)) (pc := 1656) mX10_thrown 10 [] dL_law_1656 kL_126 fX10_thrown iX10_thrown ⟨by decide, by decide⟩ rfl rfl rfl (Nat.le_of_ble_eq_true rfl) (og t3) (mc1 := 0) (ms1 := 0) (mc2 := mc) (ms2 := ms) (Nat.le_of_eq (Nat.zero_add _)) (Nat.le_of_eq (Nat.zero_add _)) (C_X10_thrown S2 68 k t3 (qR_mk (some (.int k)) S2)) ?_
  refine r_iload (pc := 1659) dL_law_1659 rfl ?_
  refine r_icmp_eq (pc := 1661) 1666 dL_law_1661 (by decide) (fun _ => ?_) (fun z => absurd rfl z)
  refine r_iload (pc := 1666) dL_law_1666 rfl ?_
  refine r_if_ne (pc := 1668) 1683 dL_law_1668 (by decide) (fun _ => ?_) (fun z => ?_)
  · refine r_goto (pc := 1683) 2049 dL_law_1683 (by decide) ?_
    exact gW.weak (ls' := lw_ls i) (by simp [gle]) (kk S2 A' t4)
  have k0 := Decidable.not_not.mp z
  have rd := t5 k0
  refine r_aload_n (pc := 1671) dL_law_1671 rfl ?_
  refine r_iconst (pc := 1672) (0 : Int32) dL_law_1672 (by decide) ?_
  refine q_lald (S := S2) (pc := 1673) dL_law_1673 rd ?_
  refine r_iload (pc := 1674) dL_law_1674 rfl ?_
  refine r_i2l (pc := 1676) dL_law_1676 ?_
  refine r_lcmp (pc := 1677) dL_law_1677 ?_
  refine r_if_eq (pc := 1678) 1683 dL_law_1678 (by decide) (fun _ => ?_) (fun z => absurd (lg_cmp_self _) z)
  refine r_goto (pc := 1683) 2049 dL_law_1683 (by decide) ?_
  exact gW.weak (ls' := lw_ls i) (by simp [gle]) (kk S2 A' t4)
set_option maxRecDepth 100000 in
set_option maxHeartbeats 4000000 in
theorem B_22 (h1 : vp_in (i + 1) X.2.2.2.2.1) (h2 : vp_in (i + 2) X.2.2.2.2.1) (h3 : vp_in (i + 3) X.2.2.2.2.1) (h4 : vp_in (i + 4) X.2.2.2.2.1) (h5 : vp_in (i + 5) X.2.2.2.2.1) (hT : TT S (fun j => F_L_path j S 0 (X.2.2.2.2.2 (i + 1).toNatClampNeg) (X.2.2.2.2.2 (i + 2).toNatClampNeg) 109) (fun S1 => F_X10_path S1 68 (X.2.2.2.2.2 (i + 1).toNatClampNeg) (X.2.2.2.2.2 (i + 2).toNatClampNeg)) tdJ) (kk : ∀ S2 A', LI S2 A' → gW X mL_law 2049 (lw_ls i) [] S2.1 S2.2 Q mc ms) : gW X mL_law 1686 (lw_ls i) [] S.1 S.2 Q (mc + 2) (ms + 12) := by
  refine r_aload_n (pc := 1686) dL_law_1686 rfl ?_
  refine r_xload_n (pc := 1687) dL_law_1687 rfl ?_
  refine r_iload (pc := 1688) dL_law_1688 rfl ?_
  refine r_iconst (pc := 1690) (1 : Int32) dL_law_1690 (by decide) ?_
  refine r_iadd (pc := 1691) dL_law_1691 ?_
  refine r_sld (pc := 1692) dL_law_1692 h1 ?_
  refine r_xload_n (pc := 1693) dL_law_1693 rfl ?_
  refine r_iload (pc := 1694) dL_law_1694 rfl ?_
  refine r_iconst (pc := 1696) (2 : Int32) dL_law_1696 (by decide) ?_
  refine r_iadd (pc := 1697) dL_law_1697 ?_
  refine r_sld (pc := 1698) dL_law_1698 h2 ?_
  refine r_aload_n (pc := 1699) dL_law_1699 rfl ?_
  refine q_callSW (pc := 1700) mL_path [.ref 0, .int (X.2.2.2.2.2 (i + 1).toNatClampNeg), .int (X.2.2.2.2.2 (i + 2).toNatClampNeg), .ref 109] dL_law_1700 kL_197 wL_path sL_path ⟨by decide, by decide⟩ rfl rfl (Nat.le_of_ble_eq_true rfl) (mc1 := 2) (ms1 := 12) (mc2 := mc) (ms2 := ms) (Nat.le_of_eq (Nat.add_comm _ _)) (Nat.le_of_eq (Nat.add_comm _ _)) (C_L_path (Q := QW (fun j => F_L_path j S 0 (X.2.2.2.2.2 (i + 1).toNatClampNeg) (X.2.2.2.2.2 (i + 2).toNatClampNeg) 109)) S 0 (X.2.2.2.2.2 (i + 1).toNatClampNeg) (X.2.2.2.2.2 (i + 2).toNatClampNeg) 109 (qw_of hT) qw_nx) (fun v n' h' hq => ?_)
  obtain ⟨j, k, S1, hj, rfl, rfl, rfl⟩ := (show ∃ j k S1, F_L_path j S 0 (X.2.2.2.2.2 (i + 1).toNatClampNeg) (X.2.2.2.2.2 (i + 2).toNatClampNeg) 109 = some (k, S1) ∧ v = some (.int k) ∧ n' = S1.1 ∧ h' = S1.2 by
    obtain ⟨j, k, S1, w1, w2, w3, w4⟩ := hq
    cases w2; exact ⟨j, k, S1, w1, rfl, w3, w4⟩)
  obtain ⟨k9, S9, b, S2, A', t1, t2, t3, t4, t5⟩ := hT j
  cases hj.symm.trans t1
  refine r_istore (pc := 1703) dL_law_1703 (by decide) ?_
  change gW _ _ _ [some (.retAddr 0), some (.ref 0), some (.ref 68), some (.ref 109), some (.ref 110), some (.int i), some (.int k), none, none] _ _ _ _ _ _
  refine r_aload_n (pc := 1705) dL_law_1705 rfl ?_
  refine r_xload_n (pc := 1706) dL_law_1706 rfl ?_
  refine r_iload (pc := 1707) dL_law_1707 rfl ?_
  refine r_iconst (pc := 1709) (1 : Int32) dL_law_1709 (by decide) ?_
  refine r_iadd (pc := 1710) dL_law_1710 ?_
  refine r_sld (pc := 1711) dL_law_1711 h1 ?_
  refine r_xload_n (pc := 1712) dL_law_1712 rfl ?_
  refine r_iload (pc := 1713) dL_law_1713 rfl ?_
  refine r_iconst (pc := 1715) (2 : Int32) dL_law_1715 (by decide) ?_
  refine r_iadd (pc := 1716) dL_law_1716 ?_
  refine r_sld (pc := 1717) dL_law_1717 h2 ?_
  replace t2 : F_X10_path S1 68 (X.2.2.2.2.2 (i + 1).toNatClampNeg) (X.2.2.2.2.2 (i + 2).toNatClampNeg) = some (b, S2) := t2
  refine q_callV (S' := S2) (v := some (.int b)) (pc := 1718) mX10_path 10 [.int (X.2.2.2.2.2 (i + 1).toNatClampNeg), .int (X.2.2.2.2.2 (i + 2).toNatClampNeg)] dL_law_1718 kL_199 fX10_path iX10_path ⟨by decide, by decide⟩ rfl rfl rfl (Nat.le_of_ble_eq_true rfl) (og t2) (mc1 := 0) (ms1 := 0) (mc2 := mc) (ms2 := ms) (Nat.le_of_eq (Nat.zero_add _)) (Nat.le_of_eq (Nat.zero_add _)) (C_X10_path S1 68 (X.2.2.2.2.2 (i + 1).toNatClampNeg) (X.2.2.2.2.2 (i + 2).toNatClampNeg) (b, S2) t2 (qR_mk (some (.int b)) S2)) ?_
  refine r_istore (pc := 1721) dL_law_1721 (by decide) ?_
  change gW _ _ _ [some (.retAddr 0), some (.ref 0), some (.ref 68), some (.ref 109), some (.ref 110), some (.int i), some (.int k), some (.int b), none] _ _ _ _ _ _
  refine r_aload_n (pc := 1723) dL_law_1723 rfl ?_
  refine q_callV (S' := S2) (v := some (.int k)) (pc := 1724) mX10_thrown 10 [] dL_law_1724 kL_126 fX10_thrown iX10_thrown ⟨by decide, by decide⟩ rfl rfl rfl (Nat.le_of_ble_eq_true rfl) (og t3) (mc1 := 0) (ms1 := 0) (mc2 := mc) (ms2 := ms) (Nat.le_of_eq (Nat.zero_add _)) (Nat.le_of_eq (Nat.zero_add _)) (C_X10_thrown S2 68 k t3 (qR_mk (some (.int k)) S2)) ?_
  refine r_iload (pc := 1727) dL_law_1727 rfl ?_
  refine r_icmp_eq (pc := 1729) 1734 dL_law_1729 (by decide) (fun _ => ?_) (fun z => absurd rfl z)
  refine r_iload (pc := 1734) dL_law_1734 rfl ?_
  refine r_if_ne (pc := 1736) 1751 dL_law_1736 (by decide) (fun _ => ?_) (fun z => ?_)
  · refine r_goto (pc := 1751) 2049 dL_law_1751 (by decide) ?_
    exact gW.weak (ls' := lw_ls i) (by simp [gle]) (kk S2 A' t4)
  have k0 := Decidable.not_not.mp z
  have rd := t5 k0
  refine r_aload_n (pc := 1739) dL_law_1739 rfl ?_
  refine r_iconst (pc := 1740) (0 : Int32) dL_law_1740 (by decide) ?_
  refine q_lald (S := S2) (pc := 1741) dL_law_1741 rd ?_
  refine r_iload (pc := 1742) dL_law_1742 rfl ?_
  refine r_i2l (pc := 1744) dL_law_1744 ?_
  refine r_lcmp (pc := 1745) dL_law_1745 ?_
  refine r_if_eq (pc := 1746) 1751 dL_law_1746 (by decide) (fun _ => ?_) (fun z => absurd (lg_cmp_self _) z)
  refine r_goto (pc := 1751) 2049 dL_law_1751 (by decide) ?_
  exact gW.weak (ls' := lw_ls i) (by simp [gle]) (kk S2 A' t4)
set_option maxRecDepth 100000 in
set_option maxHeartbeats 4000000 in
theorem B_23 (h1 : vp_in (i + 1) X.2.2.2.2.1) (h2 : vp_in (i + 2) X.2.2.2.2.1) (h3 : vp_in (i + 3) X.2.2.2.2.1) (h4 : vp_in (i + 4) X.2.2.2.2.1) (h5 : vp_in (i + 5) X.2.2.2.2.1) (hT : TP S (fun S => F_X9_lineOf S 0 (X.2.2.2.2.2 (i + 1).toNatClampNeg)) (fun S1 => F_X10_lineOf S1 68 (X.2.2.2.2.2 (i + 1).toNatClampNeg))) (kk : ∀ S2 A', LI S2 A' → gW X mL_law 2049 (lw_ls i) [] S2.1 S2.2 Q mc ms) : gW X mL_law 1754 (lw_ls i) [] S.1 S.2 Q (mc + 0) (ms + 0) := by
  refine r_aload_n (pc := 1754) dL_law_1754 rfl ?_
  refine r_xload_n (pc := 1755) dL_law_1755 rfl ?_
  refine r_iload (pc := 1756) dL_law_1756 rfl ?_
  refine r_iconst (pc := 1758) (1 : Int32) dL_law_1758 (by decide) ?_
  refine r_iadd (pc := 1759) dL_law_1759 ?_
  refine r_sld (pc := 1760) dL_law_1760 h1 ?_
  obtain ⟨b, S1, S2, A', t1, t2, t4⟩ := hT
  replace t1 : F_X9_lineOf S 0 (X.2.2.2.2.2 (i + 1).toNatClampNeg) = some (b, S1) := t1
  refine q_callV (S' := S1) (v := some (.int b)) (pc := 1761) mX9_lineOf 9 [.int (X.2.2.2.2.2 (i + 1).toNatClampNeg)] dL_law_1761 kL_200 fX9_lineOf iX9_lineOf ⟨by decide, by decide⟩ rfl rfl rfl (Nat.le_of_ble_eq_true rfl) (og t1) (mc1 := 0) (ms1 := 0) (mc2 := mc) (ms2 := ms) (Nat.le_of_eq (Nat.add_comm _ _)) (Nat.le_of_eq (Nat.add_comm _ _)) (C_X9_lineOf S 0 (X.2.2.2.2.2 (i + 1).toNatClampNeg) (b, S1) t1 (qR_mk (some (.int b)) S1)) ?_
  refine r_aload_n (pc := 1764) dL_law_1764 rfl ?_
  refine r_xload_n (pc := 1765) dL_law_1765 rfl ?_
  refine r_iload (pc := 1766) dL_law_1766 rfl ?_
  refine r_iconst (pc := 1768) (1 : Int32) dL_law_1768 (by decide) ?_
  refine r_iadd (pc := 1769) dL_law_1769 ?_
  refine r_sld (pc := 1770) dL_law_1770 h1 ?_
  replace t2 : F_X10_lineOf S1 68 (X.2.2.2.2.2 (i + 1).toNatClampNeg) = some (b, S2) := t2
  refine q_callV (S' := S2) (v := some (.int b)) (pc := 1771) mX10_lineOf 10 [.int (X.2.2.2.2.2 (i + 1).toNatClampNeg)] dL_law_1771 kL_203 fX10_lineOf iX10_lineOf ⟨by decide, by decide⟩ rfl rfl rfl (Nat.le_of_ble_eq_true rfl) (og t2) (mc1 := 0) (ms1 := 0) (mc2 := mc) (ms2 := ms) (Nat.le_of_eq (Nat.zero_add _)) (Nat.le_of_eq (Nat.zero_add _)) (C_X10_lineOf S1 68 (X.2.2.2.2.2 (i + 1).toNatClampNeg) (b, S2) t2 (qR_mk (some (.int b)) S2)) ?_
  refine r_icmp_eq (pc := 1774) 2049 dL_law_1774 (by decide) (fun _ => ?_) (fun z => absurd rfl z)
  exact gW.weak (ls' := lw_ls i) (by simp [gle]) (kk S2 A' t4)
set_option maxRecDepth 100000 in
set_option maxHeartbeats 4000000 in
theorem B_24 (h1 : vp_in (i + 1) X.2.2.2.2.1) (h2 : vp_in (i + 2) X.2.2.2.2.1) (h3 : vp_in (i + 3) X.2.2.2.2.1) (h4 : vp_in (i + 4) X.2.2.2.2.1) (h5 : vp_in (i + 5) X.2.2.2.2.1) (hT : TT S (fun j => F_L_load j S 0 (X.2.2.2.2.2 (i + 1).toNatClampNeg) 109) (fun S1 => F_X10_load S1 68 (X.2.2.2.2.2 (i + 1).toNatClampNeg)) tdJ) (kk : ∀ S2 A', LI S2 A' → gW X mL_law 2049 (lw_ls i) [] S2.1 S2.2 Q mc ms) : gW X mL_law 1779 (lw_ls i) [] S.1 S.2 Q (mc + 9) (ms + 1608) := by
  refine r_aload_n (pc := 1779) dL_law_1779 rfl ?_
  refine r_xload_n (pc := 1780) dL_law_1780 rfl ?_
  refine r_iload (pc := 1781) dL_law_1781 rfl ?_
  refine r_iconst (pc := 1783) (1 : Int32) dL_law_1783 (by decide) ?_
  refine r_iadd (pc := 1784) dL_law_1784 ?_
  refine r_sld (pc := 1785) dL_law_1785 h1 ?_
  refine r_aload_n (pc := 1786) dL_law_1786 rfl ?_
  refine q_callSW (pc := 1787) mL_load [.ref 0, .int (X.2.2.2.2.2 (i + 1).toNatClampNeg), .ref 109] dL_law_1787 kL_204 wL_load sL_load ⟨by decide, by decide⟩ rfl rfl (Nat.le_of_ble_eq_true rfl) (mc1 := 9) (ms1 := 1608) (mc2 := mc) (ms2 := ms) (Nat.le_of_eq (Nat.add_comm _ _)) (Nat.le_of_eq (Nat.add_comm _ _)) (C_L_load (Q := QW (fun j => F_L_load j S 0 (X.2.2.2.2.2 (i + 1).toNatClampNeg) 109)) S 0 (X.2.2.2.2.2 (i + 1).toNatClampNeg) 109 (qw_of hT) qw_nx) (fun v n' h' hq => ?_)
  obtain ⟨j, k, S1, hj, rfl, rfl, rfl⟩ := (show ∃ j k S1, F_L_load j S 0 (X.2.2.2.2.2 (i + 1).toNatClampNeg) 109 = some (k, S1) ∧ v = some (.int k) ∧ n' = S1.1 ∧ h' = S1.2 by
    obtain ⟨j, k, S1, w1, w2, w3, w4⟩ := hq
    cases w2; exact ⟨j, k, S1, w1, rfl, w3, w4⟩)
  obtain ⟨k9, S9, b, S2, A', t1, t2, t3, t4, t5⟩ := hT j
  cases hj.symm.trans t1
  refine r_istore (pc := 1790) dL_law_1790 (by decide) ?_
  change gW _ _ _ [some (.retAddr 0), some (.ref 0), some (.ref 68), some (.ref 109), some (.ref 110), some (.int i), some (.int k), none, none] _ _ _ _ _ _
  refine r_aload_n (pc := 1792) dL_law_1792 rfl ?_
  refine r_xload_n (pc := 1793) dL_law_1793 rfl ?_
  refine r_iload (pc := 1794) dL_law_1794 rfl ?_
  refine r_iconst (pc := 1796) (1 : Int32) dL_law_1796 (by decide) ?_
  refine r_iadd (pc := 1797) dL_law_1797 ?_
  refine r_sld (pc := 1798) dL_law_1798 h1 ?_
  replace t2 : F_X10_load S1 68 (X.2.2.2.2.2 (i + 1).toNatClampNeg) = some (b, S2) := t2
  refine q_callV (S' := S2) (v := some (.int b)) (pc := 1799) mX10_load 10 [.int (X.2.2.2.2.2 (i + 1).toNatClampNeg)] dL_law_1799 kL_206 fX10_load iX10_load ⟨by decide, by decide⟩ rfl rfl rfl (Nat.le_of_ble_eq_true rfl) (og t2) (mc1 := 0) (ms1 := 0) (mc2 := mc) (ms2 := ms) (Nat.le_of_eq (Nat.zero_add _)) (Nat.le_of_eq (Nat.zero_add _)) (C_X10_load S1 68 (X.2.2.2.2.2 (i + 1).toNatClampNeg) (b, S2) t2 (qR_mk (some (.int b)) S2)) ?_
  refine r_istore (pc := 1802) dL_law_1802 (by decide) ?_
  change gW _ _ _ [some (.retAddr 0), some (.ref 0), some (.ref 68), some (.ref 109), some (.ref 110), some (.int i), some (.int k), some (.int b), none] _ _ _ _ _ _
  refine r_aload_n (pc := 1804) dL_law_1804 rfl ?_
  refine q_callV (S' := S2) (v := some (.int k)) (pc := 1805) mX10_thrown 10 [] dL_law_1805 kL_126 fX10_thrown iX10_thrown ⟨by decide, by decide⟩ rfl rfl rfl (Nat.le_of_ble_eq_true rfl) (og t3) (mc1 := 0) (ms1 := 0) (mc2 := mc) (ms2 := ms) (Nat.le_of_eq (Nat.zero_add _)) (Nat.le_of_eq (Nat.zero_add _)) (C_X10_thrown S2 68 k t3 (qR_mk (some (.int k)) S2)) ?_
  refine r_iload (pc := 1808) dL_law_1808 rfl ?_
  refine r_icmp_eq (pc := 1810) 1815 dL_law_1810 (by decide) (fun _ => ?_) (fun z => absurd rfl z)
  refine r_iload (pc := 1815) dL_law_1815 rfl ?_
  refine r_if_ne (pc := 1817) 1832 dL_law_1817 (by decide) (fun _ => ?_) (fun z => ?_)
  · refine r_goto (pc := 1832) 2049 dL_law_1832 (by decide) ?_
    exact gW.weak (ls' := lw_ls i) (by simp [gle]) (kk S2 A' t4)
  have k0 := Decidable.not_not.mp z
  have rd := t5 k0
  refine r_aload_n (pc := 1820) dL_law_1820 rfl ?_
  refine r_iconst (pc := 1821) (0 : Int32) dL_law_1821 (by decide) ?_
  refine q_lald (S := S2) (pc := 1822) dL_law_1822 rd ?_
  refine r_iload (pc := 1823) dL_law_1823 rfl ?_
  refine r_i2l (pc := 1825) dL_law_1825 ?_
  refine r_lcmp (pc := 1826) dL_law_1826 ?_
  refine r_if_eq (pc := 1827) 1832 dL_law_1827 (by decide) (fun _ => ?_) (fun z => absurd (lg_cmp_self _) z)
  refine r_goto (pc := 1832) 2049 dL_law_1832 (by decide) ?_
  exact gW.weak (ls' := lw_ls i) (by simp [gle]) (kk S2 A' t4)
set_option maxRecDepth 100000 in
set_option maxHeartbeats 4000000 in
theorem B_25 (h1 : vp_in (i + 1) X.2.2.2.2.1) (h2 : vp_in (i + 2) X.2.2.2.2.1) (h3 : vp_in (i + 3) X.2.2.2.2.1) (h4 : vp_in (i + 4) X.2.2.2.2.1) (h5 : vp_in (i + 5) X.2.2.2.2.1) (hT : TT S (fun j => F_L_errorPosition j S 0 109) (fun S1 => F_X10_errorPosition S1 68) tdJ) (kk : ∀ S2 A', LI S2 A' → gW X mL_law 2049 (lw_ls i) [] S2.1 S2.2 Q mc ms) : gW X mL_law 1835 (lw_ls i) [] S.1 S.2 Q (mc + 1) (ms + 6) := by
  refine r_aload_n (pc := 1835) dL_law_1835 rfl ?_
  refine r_aload_n (pc := 1836) dL_law_1836 rfl ?_
  refine q_callSW (pc := 1837) mL_errorPosition [.ref 0, .ref 109] dL_law_1837 kL_207 wL_errorPosition sL_errorPosition ⟨by decide, by decide⟩ rfl rfl (Nat.le_of_ble_eq_true rfl) (mc1 := 1) (ms1 := 6) (mc2 := mc) (ms2 := ms) (Nat.le_of_eq (Nat.add_comm _ _)) (Nat.le_of_eq (Nat.add_comm _ _)) (C_L_errorPosition (Q := QW (fun j => F_L_errorPosition j S 0 109)) S 0 109 (qw_of hT) qw_nx) (fun v n' h' hq => ?_)
  obtain ⟨j, k, S1, hj, rfl, rfl, rfl⟩ := (show ∃ j k S1, F_L_errorPosition j S 0 109 = some (k, S1) ∧ v = some (.int k) ∧ n' = S1.1 ∧ h' = S1.2 by
    obtain ⟨j, k, S1, w1, w2, w3, w4⟩ := hq
    cases w2; exact ⟨j, k, S1, w1, rfl, w3, w4⟩)
  obtain ⟨k9, S9, b, S2, A', t1, t2, t3, t4, t5⟩ := hT j
  cases hj.symm.trans t1
  refine r_istore (pc := 1840) dL_law_1840 (by decide) ?_
  change gW _ _ _ [some (.retAddr 0), some (.ref 0), some (.ref 68), some (.ref 109), some (.ref 110), some (.int i), some (.int k), none, none] _ _ _ _ _ _
  refine r_aload_n (pc := 1842) dL_law_1842 rfl ?_
  replace t2 : F_X10_errorPosition S1 68 = some (b, S2) := t2
  refine q_callV (S' := S2) (v := some (.int b)) (pc := 1843) mX10_errorPosition 10 [] dL_law_1843 kL_209 fX10_errorPosition iX10_errorPosition ⟨by decide, by decide⟩ rfl rfl rfl (Nat.le_of_ble_eq_true rfl) (og t2) (mc1 := 0) (ms1 := 0) (mc2 := mc) (ms2 := ms) (Nat.le_of_eq (Nat.zero_add _)) (Nat.le_of_eq (Nat.zero_add _)) (C_X10_errorPosition S1 68 (b, S2) t2 (qR_mk (some (.int b)) S2)) ?_
  refine r_istore (pc := 1846) dL_law_1846 (by decide) ?_
  change gW _ _ _ [some (.retAddr 0), some (.ref 0), some (.ref 68), some (.ref 109), some (.ref 110), some (.int i), some (.int k), some (.int b), none] _ _ _ _ _ _
  refine r_aload_n (pc := 1848) dL_law_1848 rfl ?_
  refine q_callV (S' := S2) (v := some (.int k)) (pc := 1849) mX10_thrown 10 [] dL_law_1849 kL_126 fX10_thrown iX10_thrown ⟨by decide, by decide⟩ rfl rfl rfl (Nat.le_of_ble_eq_true rfl) (og t3) (mc1 := 0) (ms1 := 0) (mc2 := mc) (ms2 := ms) (Nat.le_of_eq (Nat.zero_add _)) (Nat.le_of_eq (Nat.zero_add _)) (C_X10_thrown S2 68 k t3 (qR_mk (some (.int k)) S2)) ?_
  refine r_iload (pc := 1852) dL_law_1852 rfl ?_
  refine r_icmp_eq (pc := 1854) 1859 dL_law_1854 (by decide) (fun _ => ?_) (fun z => absurd rfl z)
  refine r_iload (pc := 1859) dL_law_1859 rfl ?_
  refine r_if_ne (pc := 1861) 1876 dL_law_1861 (by decide) (fun _ => ?_) (fun z => ?_)
  · refine r_goto (pc := 1876) 2049 dL_law_1876 (by decide) ?_
    exact gW.weak (ls' := lw_ls i) (by simp [gle]) (kk S2 A' t4)
  have k0 := Decidable.not_not.mp z
  have rd := t5 k0
  refine r_aload_n (pc := 1864) dL_law_1864 rfl ?_
  refine r_iconst (pc := 1865) (0 : Int32) dL_law_1865 (by decide) ?_
  refine q_lald (S := S2) (pc := 1866) dL_law_1866 rd ?_
  refine r_iload (pc := 1867) dL_law_1867 rfl ?_
  refine r_i2l (pc := 1869) dL_law_1869 ?_
  refine r_lcmp (pc := 1870) dL_law_1870 ?_
  refine r_if_eq (pc := 1871) 1876 dL_law_1871 (by decide) (fun _ => ?_) (fun z => absurd (lg_cmp_self _) z)
  refine r_goto (pc := 1876) 2049 dL_law_1876 (by decide) ?_
  exact gW.weak (ls' := lw_ls i) (by simp [gle]) (kk S2 A' t4)
set_option maxRecDepth 100000 in
set_option maxHeartbeats 4000000 in
theorem B_26 (h1 : vp_in (i + 1) X.2.2.2.2.1) (h2 : vp_in (i + 2) X.2.2.2.2.1) (h3 : vp_in (i + 3) X.2.2.2.2.1) (h4 : vp_in (i + 4) X.2.2.2.2.1) (h5 : vp_in (i + 5) X.2.2.2.2.1) (hT : TT S (fun j => F_L_refusal j S 0 (X.2.2.2.2.2 (i + 1).toNatClampNeg) 109) (fun S1 => F_X10_refusal S1 68 (X.2.2.2.2.2 (i + 1).toNatClampNeg)) tdJ) (kk : ∀ S2 A', LI S2 A' → gW X mL_law 2049 (lw_ls i) [] S2.1 S2.2 Q mc ms) : gW X mL_law 1879 (lw_ls i) [] S.1 S.2 Q (mc + 1) (ms + 6) := by
  refine r_aload_n (pc := 1879) dL_law_1879 rfl ?_
  refine r_xload_n (pc := 1880) dL_law_1880 rfl ?_
  refine r_iload (pc := 1881) dL_law_1881 rfl ?_
  refine r_iconst (pc := 1883) (1 : Int32) dL_law_1883 (by decide) ?_
  refine r_iadd (pc := 1884) dL_law_1884 ?_
  refine r_sld (pc := 1885) dL_law_1885 h1 ?_
  refine r_aload_n (pc := 1886) dL_law_1886 rfl ?_
  refine q_callSW (pc := 1887) mL_refusal [.ref 0, .int (X.2.2.2.2.2 (i + 1).toNatClampNeg), .ref 109] dL_law_1887 kL_210 wL_refusal sL_refusal ⟨by decide, by decide⟩ rfl rfl (Nat.le_of_ble_eq_true rfl) (mc1 := 1) (ms1 := 6) (mc2 := mc) (ms2 := ms) (Nat.le_of_eq (Nat.add_comm _ _)) (Nat.le_of_eq (Nat.add_comm _ _)) (C_L_refusal (Q := QW (fun j => F_L_refusal j S 0 (X.2.2.2.2.2 (i + 1).toNatClampNeg) 109)) S 0 (X.2.2.2.2.2 (i + 1).toNatClampNeg) 109 (qw_of hT) qw_nx) (fun v n' h' hq => ?_)
  obtain ⟨j, k, S1, hj, rfl, rfl, rfl⟩ := (show ∃ j k S1, F_L_refusal j S 0 (X.2.2.2.2.2 (i + 1).toNatClampNeg) 109 = some (k, S1) ∧ v = some (.int k) ∧ n' = S1.1 ∧ h' = S1.2 by
    obtain ⟨j, k, S1, w1, w2, w3, w4⟩ := hq
    cases w2; exact ⟨j, k, S1, w1, rfl, w3, w4⟩)
  obtain ⟨k9, S9, b, S2, A', t1, t2, t3, t4, t5⟩ := hT j
  cases hj.symm.trans t1
  refine r_istore (pc := 1890) dL_law_1890 (by decide) ?_
  change gW _ _ _ [some (.retAddr 0), some (.ref 0), some (.ref 68), some (.ref 109), some (.ref 110), some (.int i), some (.int k), none, none] _ _ _ _ _ _
  refine r_aload_n (pc := 1892) dL_law_1892 rfl ?_
  refine r_xload_n (pc := 1893) dL_law_1893 rfl ?_
  refine r_iload (pc := 1894) dL_law_1894 rfl ?_
  refine r_iconst (pc := 1896) (1 : Int32) dL_law_1896 (by decide) ?_
  refine r_iadd (pc := 1897) dL_law_1897 ?_
  refine r_sld (pc := 1898) dL_law_1898 h1 ?_
  replace t2 : F_X10_refusal S1 68 (X.2.2.2.2.2 (i + 1).toNatClampNeg) = some (b, S2) := t2
  refine q_callV (S' := S2) (v := some (.int b)) (pc := 1899) mX10_refusal 10 [.int (X.2.2.2.2.2 (i + 1).toNatClampNeg)] dL_law_1899 kL_212 fX10_refusal iX10_refusal ⟨by decide, by decide⟩ rfl rfl rfl (Nat.le_of_ble_eq_true rfl) (og t2) (mc1 := 0) (ms1 := 0) (mc2 := mc) (ms2 := ms) (Nat.le_of_eq (Nat.zero_add _)) (Nat.le_of_eq (Nat.zero_add _)) (C_X10_refusal S1 68 (X.2.2.2.2.2 (i + 1).toNatClampNeg) (b, S2) t2 (qR_mk (some (.int b)) S2)) ?_
  refine r_istore (pc := 1902) dL_law_1902 (by decide) ?_
  change gW _ _ _ [some (.retAddr 0), some (.ref 0), some (.ref 68), some (.ref 109), some (.ref 110), some (.int i), some (.int k), some (.int b), none] _ _ _ _ _ _
  refine r_aload_n (pc := 1904) dL_law_1904 rfl ?_
  refine q_callV (S' := S2) (v := some (.int k)) (pc := 1905) mX10_thrown 10 [] dL_law_1905 kL_126 fX10_thrown iX10_thrown ⟨by decide, by decide⟩ rfl rfl rfl (Nat.le_of_ble_eq_true rfl) (og t3) (mc1 := 0) (ms1 := 0) (mc2 := mc) (ms2 := ms) (Nat.le_of_eq (Nat.zero_add _)) (Nat.le_of_eq (Nat.zero_add _)) (C_X10_thrown S2 68 k t3 (qR_mk (some (.int k)) S2)) ?_
  refine r_iload (pc := 1908) dL_law_1908 rfl ?_
  refine r_icmp_eq (pc := 1910) 1915 dL_law_1910 (by decide) (fun _ => ?_) (fun z => absurd rfl z)
  refine r_iload (pc := 1915) dL_law_1915 rfl ?_
  refine r_if_ne (pc := 1917) 1932 dL_law_1917 (by decide) (fun _ => ?_) (fun z => ?_)
  · refine r_goto (pc := 1932) 2049 dL_law_1932 (by decide) ?_
    exact gW.weak (ls' := lw_ls i) (by simp [gle]) (kk S2 A' t4)
  have k0 := Decidable.not_not.mp z
  have rd := t5 k0
  refine r_aload_n (pc := 1920) dL_law_1920 rfl ?_
  refine r_iconst (pc := 1921) (0 : Int32) dL_law_1921 (by decide) ?_
  refine q_lald (S := S2) (pc := 1922) dL_law_1922 rd ?_
  refine r_iload (pc := 1923) dL_law_1923 rfl ?_
  refine r_i2l (pc := 1925) dL_law_1925 ?_
  refine r_lcmp (pc := 1926) dL_law_1926 ?_
  refine r_if_eq (pc := 1927) 1932 dL_law_1927 (by decide) (fun _ => ?_) (fun z => absurd (lg_cmp_self _) z)
  refine r_goto (pc := 1932) 2049 dL_law_1932 (by decide) ?_
  exact gW.weak (ls' := lw_ls i) (by simp [gle]) (kk S2 A' t4)
set_option maxRecDepth 100000 in
set_option maxHeartbeats 4000000 in
theorem B_27 (h1 : vp_in (i + 1) X.2.2.2.2.1) (h2 : vp_in (i + 2) X.2.2.2.2.1) (h3 : vp_in (i + 3) X.2.2.2.2.1) (h4 : vp_in (i + 4) X.2.2.2.2.1) (h5 : vp_in (i + 5) X.2.2.2.2.1) (hT : TP S (fun S => F_X9_isConsistent S 0) (fun S1 => F_X10_isConsistent S1 68)) (kk : ∀ S2 A', LI S2 A' → gW X mL_law 2049 (lw_ls i) [] S2.1 S2.2 Q mc ms) : gW X mL_law 1935 (lw_ls i) [] S.1 S.2 Q (mc + 0) (ms + 0) := by
  refine r_aload_n (pc := 1935) dL_law_1935 rfl ?_
  obtain ⟨b, S1, S2, A', t1, t2, t4⟩ := hT
  replace t1 : F_X9_isConsistent S 0 = some (b, S1) := t1
  refine q_callV (S' := S1) (v := some (.int b)) (pc := 1936) mX9_isConsistent 9 [] dL_law_1936 kL_213 fX9_isConsistent iX9_isConsistent ⟨by decide, by decide⟩ rfl rfl rfl (Nat.le_of_ble_eq_true rfl) (og t1) (mc1 := 0) (ms1 := 0) (mc2 := mc) (ms2 := ms) (Nat.le_of_eq (Nat.add_comm _ _)) (Nat.le_of_eq (Nat.add_comm _ _)) (C_X9_isConsistent S 0 (b, S1) t1 (qR_mk (some (.int b)) S1)) ?_
  refine r_aload_n (pc := 1939) dL_law_1939 rfl ?_
  replace t2 : F_X10_isConsistent S1 68 = some (b, S2) := t2
  refine q_callV (S' := S2) (v := some (.int b)) (pc := 1940) mX10_isConsistent 10 [] dL_law_1940 kL_217 fX10_isConsistent iX10_isConsistent ⟨by decide, by decide⟩ rfl rfl rfl (Nat.le_of_ble_eq_true rfl) (og t2) (mc1 := 0) (ms1 := 0) (mc2 := mc) (ms2 := ms) (Nat.le_of_eq (Nat.zero_add _)) (Nat.le_of_eq (Nat.zero_add _)) (C_X10_isConsistent S1 68 (b, S2) t2 (qR_mk (some (.int b)) S2)) ?_
  refine r_icmp_eq (pc := 1943) 2049 dL_law_1943 (by decide) (fun _ => ?_) (fun z => absurd rfl z)
  exact gW.weak (ls' := lw_ls i) (by simp [gle]) (kk S2 A' t4)
set_option maxRecDepth 100000 in
set_option maxHeartbeats 4000000 in
theorem B_28 (h1 : vp_in (i + 1) X.2.2.2.2.1) (h2 : vp_in (i + 2) X.2.2.2.2.1) (h3 : vp_in (i + 3) X.2.2.2.2.1) (h4 : vp_in (i + 4) X.2.2.2.2.1) (h5 : vp_in (i + 5) X.2.2.2.2.1) (hT : TT S (fun j => F_L_undo j S 0 109) (fun S1 => F_X10_undo S1 68) tdJ) (kk : ∀ S2 A', LI S2 A' → gW X mL_law 2049 (lw_ls i) [] S2.1 S2.2 Q mc ms) : gW X mL_law 1948 (lw_ls i) [] S.1 S.2 Q (mc + 1) (ms + 6) := by
  refine r_aload_n (pc := 1948) dL_law_1948 rfl ?_
  refine r_aload_n (pc := 1949) dL_law_1949 rfl ?_
  refine q_callSW (pc := 1950) mL_undo [.ref 0, .ref 109] dL_law_1950 kL_218 wL_undo sL_undo ⟨by decide, by decide⟩ rfl rfl (Nat.le_of_ble_eq_true rfl) (mc1 := 1) (ms1 := 6) (mc2 := mc) (ms2 := ms) (Nat.le_of_eq (Nat.add_comm _ _)) (Nat.le_of_eq (Nat.add_comm _ _)) (C_L_undo (Q := QW (fun j => F_L_undo j S 0 109)) S 0 109 (qw_of hT) qw_nx) (fun v n' h' hq => ?_)
  obtain ⟨j, k, S1, hj, rfl, rfl, rfl⟩ := (show ∃ j k S1, F_L_undo j S 0 109 = some (k, S1) ∧ v = some (.int k) ∧ n' = S1.1 ∧ h' = S1.2 by
    obtain ⟨j, k, S1, w1, w2, w3, w4⟩ := hq
    cases w2; exact ⟨j, k, S1, w1, rfl, w3, w4⟩)
  obtain ⟨k9, S9, b, S2, A', t1, t2, t3, t4, t5⟩ := hT j
  cases hj.symm.trans t1
  refine r_istore (pc := 1953) dL_law_1953 (by decide) ?_
  change gW _ _ _ [some (.retAddr 0), some (.ref 0), some (.ref 68), some (.ref 109), some (.ref 110), some (.int i), some (.int k), none, none] _ _ _ _ _ _
  refine r_aload_n (pc := 1955) dL_law_1955 rfl ?_
  replace t2 : F_X10_undo S1 68 = some (b, S2) := t2
  refine q_callV (S' := S2) (v := some (.int b)) (pc := 1956) mX10_undo 10 [] dL_law_1956 kL_220 fX10_undo iX10_undo ⟨by decide, by decide⟩ rfl rfl rfl (Nat.le_of_ble_eq_true rfl) (og t2) (mc1 := 0) (ms1 := 0) (mc2 := mc) (ms2 := ms) (Nat.le_of_eq (Nat.zero_add _)) (Nat.le_of_eq (Nat.zero_add _)) (C_X10_undo S1 68 (b, S2) t2 (qR_mk (some (.int b)) S2)) ?_
  refine r_istore (pc := 1959) dL_law_1959 (by decide) ?_
  change gW _ _ _ [some (.retAddr 0), some (.ref 0), some (.ref 68), some (.ref 109), some (.ref 110), some (.int i), some (.int k), some (.int b), none] _ _ _ _ _ _
  refine r_aload_n (pc := 1961) dL_law_1961 rfl ?_
  refine q_callV (S' := S2) (v := some (.int k)) (pc := 1962) mX10_thrown 10 [] dL_law_1962 kL_126 fX10_thrown iX10_thrown ⟨by decide, by decide⟩ rfl rfl rfl (Nat.le_of_ble_eq_true rfl) (og t3) (mc1 := 0) (ms1 := 0) (mc2 := mc) (ms2 := ms) (Nat.le_of_eq (Nat.zero_add _)) (Nat.le_of_eq (Nat.zero_add _)) (C_X10_thrown S2 68 k t3 (qR_mk (some (.int k)) S2)) ?_
  refine r_iload (pc := 1965) dL_law_1965 rfl ?_
  refine r_icmp_eq (pc := 1967) 1972 dL_law_1967 (by decide) (fun _ => ?_) (fun z => absurd rfl z)
  refine r_iload (pc := 1972) dL_law_1972 rfl ?_
  refine r_if_ne (pc := 1974) 1989 dL_law_1974 (by decide) (fun _ => ?_) (fun z => ?_)
  · refine r_goto (pc := 1989) 2049 dL_law_1989 (by decide) ?_
    exact gW.weak (ls' := lw_ls i) (by simp [gle]) (kk S2 A' t4)
  have k0 := Decidable.not_not.mp z
  have rd := t5 k0
  refine r_aload_n (pc := 1977) dL_law_1977 rfl ?_
  refine r_iconst (pc := 1978) (0 : Int32) dL_law_1978 (by decide) ?_
  refine q_lald (S := S2) (pc := 1979) dL_law_1979 rd ?_
  refine r_iload (pc := 1980) dL_law_1980 rfl ?_
  refine r_i2l (pc := 1982) dL_law_1982 ?_
  refine r_lcmp (pc := 1983) dL_law_1983 ?_
  refine r_if_eq (pc := 1984) 1989 dL_law_1984 (by decide) (fun _ => ?_) (fun z => absurd (lg_cmp_self _) z)
  refine r_goto (pc := 1989) 2049 dL_law_1989 (by decide) ?_
  exact gW.weak (ls' := lw_ls i) (by simp [gle]) (kk S2 A' t4)
set_option maxRecDepth 100000 in
set_option maxHeartbeats 4000000 in
theorem B_29 (h1 : vp_in (i + 1) X.2.2.2.2.1) (h2 : vp_in (i + 2) X.2.2.2.2.1) (h3 : vp_in (i + 3) X.2.2.2.2.1) (h4 : vp_in (i + 4) X.2.2.2.2.1) (h5 : vp_in (i + 5) X.2.2.2.2.1) (hT : TP S (fun S => F_X9_snapshot S 0) (fun S1 => F_X10_snapshot S1 68)) (kk : ∀ S2 A', LI S2 A' → gW X mL_law 2049 (lw_ls i) [] S2.1 S2.2 Q mc ms) : gW X mL_law 1992 (lw_ls i) [] S.1 S.2 Q (mc + 7) (ms + 1596) := by
  refine r_aload_n (pc := 1992) dL_law_1992 rfl ?_
  obtain ⟨b, S1, S2, A', t1, t2, t4⟩ := hT
  replace t1 : F_X9_snapshot S 0 = some (b, S1) := t1
  refine q_callV (S' := S1) (v := some (.int b)) (pc := 1993) mX9_snapshot 9 [] dL_law_1993 kL_221 fX9_snapshot iX9_snapshot ⟨by decide, by decide⟩ rfl rfl rfl (Nat.le_of_ble_eq_true rfl) (og t1) (mc1 := 7) (ms1 := 1596) (mc2 := mc) (ms2 := ms) (Nat.le_of_eq (Nat.add_comm _ _)) (Nat.le_of_eq (Nat.add_comm _ _)) (C_X9_snapshot S 0 (b, S1) t1 (qR_mk (some (.int b)) S1)) ?_
  refine r_aload_n (pc := 1996) dL_law_1996 rfl ?_
  replace t2 : F_X10_snapshot S1 68 = some (b, S2) := t2
  refine q_callV (S' := S2) (v := some (.int b)) (pc := 1997) mX10_snapshot 10 [] dL_law_1997 kL_224 fX10_snapshot iX10_snapshot ⟨by decide, by decide⟩ rfl rfl rfl (Nat.le_of_ble_eq_true rfl) (og t2) (mc1 := 0) (ms1 := 0) (mc2 := mc) (ms2 := ms) (Nat.le_of_eq (Nat.zero_add _)) (Nat.le_of_eq (Nat.zero_add _)) (C_X10_snapshot S1 68 (b, S2) t2 (qR_mk (some (.int b)) S2)) ?_
  refine r_icmp_eq (pc := 2000) 2049 dL_law_2000 (by decide) (fun _ => ?_) (fun z => absurd rfl z)
  exact gW.weak (ls' := lw_ls i) (by simp [gle]) (kk S2 A' t4)
set_option maxRecDepth 100000 in
set_option maxHeartbeats 4000000 in
theorem B_30 (h1 : vp_in (i + 1) X.2.2.2.2.1) (h2 : vp_in (i + 2) X.2.2.2.2.1) (h3 : vp_in (i + 3) X.2.2.2.2.1) (h4 : vp_in (i + 4) X.2.2.2.2.1) (h5 : vp_in (i + 5) X.2.2.2.2.1) (hT : TT S (fun j => F_L_restore j S 0 109) (fun S1 => F_X10_restore S1 68) tdJ) (kk : ∀ S2 A', LI S2 A' → gW X mL_law 2049 (lw_ls i) [] S2.1 S2.2 Q mc ms) : gW X mL_law 2005 (lw_ls i) [] S.1 S.2 Q (mc + 1) (ms + 6) := by
  refine r_aload_n (pc := 2005) dL_law_2005 rfl ?_
  refine r_aload_n (pc := 2006) dL_law_2006 rfl ?_
  refine q_callSW (pc := 2007) mL_restore [.ref 0, .ref 109] dL_law_2007 kL_225 wL_restore sL_restore ⟨by decide, by decide⟩ rfl rfl (Nat.le_of_ble_eq_true rfl) (mc1 := 1) (ms1 := 6) (mc2 := mc) (ms2 := ms) (Nat.le_of_eq (Nat.add_comm _ _)) (Nat.le_of_eq (Nat.add_comm _ _)) (C_L_restore (Q := QW (fun j => F_L_restore j S 0 109)) S 0 109 (qw_of hT) qw_nx) (fun v n' h' hq => ?_)
  obtain ⟨j, k, S1, hj, rfl, rfl, rfl⟩ := (show ∃ j k S1, F_L_restore j S 0 109 = some (k, S1) ∧ v = some (.int k) ∧ n' = S1.1 ∧ h' = S1.2 by
    obtain ⟨j, k, S1, w1, w2, w3, w4⟩ := hq
    cases w2; exact ⟨j, k, S1, w1, rfl, w3, w4⟩)
  obtain ⟨k9, S9, b, S2, A', t1, t2, t3, t4, t5⟩ := hT j
  cases hj.symm.trans t1
  refine r_istore (pc := 2010) dL_law_2010 (by decide) ?_
  change gW _ _ _ [some (.retAddr 0), some (.ref 0), some (.ref 68), some (.ref 109), some (.ref 110), some (.int i), some (.int k), none, none] _ _ _ _ _ _
  refine r_aload_n (pc := 2012) dL_law_2012 rfl ?_
  replace t2 : F_X10_restore S1 68 = some (b, S2) := t2
  refine q_callV (S' := S2) (v := some (.int b)) (pc := 2013) mX10_restore 10 [] dL_law_2013 kL_227 fX10_restore iX10_restore ⟨by decide, by decide⟩ rfl rfl rfl (Nat.le_of_ble_eq_true rfl) (og t2) (mc1 := 0) (ms1 := 0) (mc2 := mc) (ms2 := ms) (Nat.le_of_eq (Nat.zero_add _)) (Nat.le_of_eq (Nat.zero_add _)) (C_X10_restore S1 68 (b, S2) t2 (qR_mk (some (.int b)) S2)) ?_
  refine r_istore (pc := 2016) dL_law_2016 (by decide) ?_
  change gW _ _ _ [some (.retAddr 0), some (.ref 0), some (.ref 68), some (.ref 109), some (.ref 110), some (.int i), some (.int k), some (.int b), none] _ _ _ _ _ _
  refine r_aload_n (pc := 2018) dL_law_2018 rfl ?_
  refine q_callV (S' := S2) (v := some (.int k)) (pc := 2019) mX10_thrown 10 [] dL_law_2019 kL_126 fX10_thrown iX10_thrown ⟨by decide, by decide⟩ rfl rfl rfl (Nat.le_of_ble_eq_true rfl) (og t3) (mc1 := 0) (ms1 := 0) (mc2 := mc) (ms2 := ms) (Nat.le_of_eq (Nat.zero_add _)) (Nat.le_of_eq (Nat.zero_add _)) (C_X10_thrown S2 68 k t3 (qR_mk (some (.int k)) S2)) ?_
  refine r_iload (pc := 2022) dL_law_2022 rfl ?_
  refine r_icmp_eq (pc := 2024) 2029 dL_law_2024 (by decide) (fun _ => ?_) (fun z => absurd rfl z)
  refine r_iload (pc := 2029) dL_law_2029 rfl ?_
  refine r_if_ne (pc := 2031) 2046 dL_law_2031 (by decide) (fun _ => ?_) (fun z => ?_)
  · refine r_goto (pc := 2046) 2049 dL_law_2046 (by decide) ?_
    exact gW.weak (ls' := lw_ls i) (by simp [gle]) (kk S2 A' t4)
  have k0 := Decidable.not_not.mp z
  have rd := t5 k0
  refine r_aload_n (pc := 2034) dL_law_2034 rfl ?_
  refine r_iconst (pc := 2035) (0 : Int32) dL_law_2035 (by decide) ?_
  refine q_lald (S := S2) (pc := 2036) dL_law_2036 rd ?_
  refine r_iload (pc := 2037) dL_law_2037 rfl ?_
  refine r_i2l (pc := 2039) dL_law_2039 ?_
  refine r_lcmp (pc := 2040) dL_law_2040 ?_
  refine r_if_eq (pc := 2041) 2046 dL_law_2041 (by decide) (fun _ => ?_) (fun z => absurd (lg_cmp_self _) z)
  refine r_goto (pc := 2046) 2049 dL_law_2046 (by decide) ?_
  exact gW.weak (ls' := lw_ls i) (by simp [gle]) (kk S2 A' t4)
end LAW
