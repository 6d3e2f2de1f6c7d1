def F_X9_countLines_98 (S : pS) (l0 : Nat) : Option (Int32 × pS) := (oGA S l0 9 9).bind fun x31 => (F_X5_size S x31).bind fun q33 => some (q33, S)
set_option maxRecDepth 100000 in
set_option maxHeartbeats 4000000 in
theorem W_X9_countLines_98 {X : pX} {Q : pO → Nat → pF → Prop} (S : pS) (l0 : Nat) (r : Int32 × pS) (hf : F_X9_countLines_98 S l0 = some r) (hk : Q (.inl (some (.int r.1))) r.2.1 r.2.2) : gW X mX9_countLines 98 [some (.ref l0), none, none] [] S.1 S.2 Q 0 0 := by
  unfold F_X9_countLines_98 at hf
  refine r_aload_n (pc := 98) dX9_countLines_98 rfl ?_
  obtain ⟨x31, e32, hf⟩ := obind hf
  refine q_getA (pc := 99) dX9_countLines_99 gX9_59 e32 ?_
  obtain ⟨q33, e34, hf⟩ := obind hf
  refine q_callV (pc := 102) (v := some (.int q33)) (S' := S) mX5_size 5 [] dX9_countLines_102 kX9_463 fX5_size iX5_size ⟨by decide, by decide⟩ rfl rfl rfl (Nat.le_of_ble_eq_true rfl) (og e34) (mc1 := 0) (ms1 := 0) (mc2 := 0) (ms2 := 0) (by decide) (by decide) (C_X5_size S x31 q33 e34 (qR_mk _ _)) ?_
  change gW _ _ _ _ (.int q33 :: _) _ _ _ _ _
  refine r_ireturn (pc := 105) .int dX9_countLines_105 rfl rfl ?_
  cases hf
  exact hk
def F_X9_countLines (S : pS) (a0 : Nat) : Option (Int32 × pS) := (oF S a0 9).bind fun _ => (oGA S a0 9 7).bind fun x1 => (F_X1_size S x1).bind fun q3 => if ¬ q3 = 0 then ((oGA S a0 9 3).bind fun x5 => (oGA S a0 9 7).bind fun x7 => (oGA S a0 9 0).bind fun x9 => (oGA S a0 9 3).bind fun x11 => (F_X1_fittingItems S x7 x9 x11).bind fun q13 => (F_X6_itemsAtOrAbove S x5 q13).bind fun q15 => (oGA S a0 9 9).bind fun x17 => (oGA S a0 9 0).bind fun x19 => (oGA S a0 9 6).bind fun x21 => (F_X4_top S x21).bind fun q23 => (oGA S a0 9 0).bind fun x25 => (F_X8_presentItems S x25).bind fun q27 => (F_X5_find S x17 x19 q23 q15 q27).bind fun q29 => F_X9_countLines_98 q29 a0) else ((oGA S a0 9 9).bind fun x35 => (oGA S a0 9 0).bind fun x37 => (oGA S a0 9 6).bind fun x39 => (F_X4_top S x39).bind fun q41 => (oGA S a0 9 0).bind fun x43 => (F_X8_presentItems S x43).bind fun q45 => (oGA S a0 9 0).bind fun x47 => (F_X8_foldedItems S x47).bind fun q49 => (F_X5_find S x35 x37 q41 q45 (q49 ^^^ (-1 : Int64))).bind fun q51 => F_X9_countLines_98 q51 a0)
set_option maxRecDepth 100000 in
set_option maxHeartbeats 4000000 in
theorem C_X9_countLines {X : pX} {Q : pO → Nat → pF → Prop} (S : pS) (a0 : Nat) (r : Int32 × pS) (hf : F_X9_countLines S a0 = some r) (hk : Q (.inl (some (.int r.1))) r.2.1 r.2.2) : gC X mX9_countLines [.ref a0] S.1 S.2 Q 0 0 := by
  refine gC_of (by decide) (Nat.le_of_ble_eq_true rfl) ?_
  change gW _ _ _ [some (.ref a0), none, none] _ _ _ _ _ _
  unfold F_X9_countLines at hf
  obtain ⟨_, _, hf⟩ := obind hf
  refine r_aload_n (pc := 0) dX9_countLines_0 rfl ?_
  obtain ⟨x1, e2, hf⟩ := obind hf
  refine q_getA (pc := 1) dX9_countLines_1 gX9_49 e2 ?_
  obtain ⟨q3, e4, hf⟩ := obind hf
  refine q_callV (pc := 4) (v := some (.int q3)) (S' := S) mX1_size 1 [] dX9_countLines_4 kX9_328 fX1_size iX1_size ⟨by decide, by decide⟩ rfl rfl rfl (Nat.le_of_ble_eq_true rfl) (og e4) (mc1 := 0) (ms1 := 0) (mc2 := 0) (ms2 := 0) (by decide) (by decide) (C_X1_size S x1 q3 e4 (qR_mk _ _)) ?_
  change gW _ _ _ _ (.int q3 :: _) _ _ _ _ _
  refine r_if_ne (pc := 7) 49 dX9_countLines_7 (by decide) (fun hc => ?_) (fun hc => ?_)
  · rw [if_pos hc] at hf
    refine r_aload_n (pc := 49) dX9_countLines_49 rfl ?_
    obtain ⟨x5, e6, hf⟩ := obind hf
    refine q_getA (pc := 50) dX9_countLines_50 gX9_25 e6 ?_
    refine r_aload_n (pc := 53) dX9_countLines_53 rfl ?_
    obtain ⟨x7, e8, hf⟩ := obind hf
    refine q_getA (pc := 54) dX9_countLines_54 gX9_49 e8 ?_
    refine r_aload_n (pc := 57) dX9_countLines_57 rfl ?_
    obtain ⟨x9, e10, hf⟩ := obind hf
    refine q_getA (pc := 58) dX9_countLines_58 gX9_12 e10 ?_
    refine r_aload_n (pc := 61) dX9_countLines_61 rfl ?_
    obtain ⟨x11, e12, hf⟩ := obind hf
    refine q_getA (pc := 62) dX9_countLines_62 gX9_25 e12 ?_
    obtain ⟨q13, e14, hf⟩ := obind hf
    refine q_callV (pc := 65) (v := some (.long q13)) (S' := S) mX1_fittingItems 1 [.ref x9, .ref x11] dX9_countLines_65 kX9_329 fX1_fittingItems iX1_fittingItems ⟨by decide, by decide⟩ rfl rfl rfl (Nat.le_of_ble_eq_true rfl) (og e14) (mc1 := 0) (ms1 := 0) (mc2 := 0) (ms2 := 0) (by decide) (by decide) (C_X1_fittingItems S x7 x9 x11 q13 e14 (qR_mk _ _)) ?_
    change gW _ _ _ _ (.long q13 :: _) _ _ _ _ _
    obtain ⟨q15, e16, hf⟩ := obind hf
    refine q_callV (pc := 68) (v := some (.long q15)) (S' := S) mX6_itemsAtOrAbove 6 [.long q13] dX9_countLines_68 kX9_459 fX6_itemsAtOrAbove iX6_itemsAtOrAbove ⟨by decide, by decide⟩ rfl rfl rfl (Nat.le_of_ble_eq_true rfl) (og e16) (mc1 := 0) (ms1 := 0) (mc2 := 0) (ms2 := 0) (by decide) (by decide) (C_X6_itemsAtOrAbove S x5 q13 q15 e16 (qR_mk _ _)) ?_
    change gW _ _ _ _ (.long q15 :: _) _ _ _ _ _
    refine r_lstore_n (pc := 71) dX9_countLines_71 (by decide) ?_
    change gW _ _ _ [some (.ref a0), some (.long q15), none] _ _ _ _ _ _
    refine r_aload_n (pc := 72) dX9_countLines_72 rfl ?_
    obtain ⟨x17, e18, hf⟩ := obind hf
    refine q_getA (pc := 73) dX9_countLines_73 gX9_59 e18 ?_
    refine r_aload_n (pc := 76) dX9_countLines_76 rfl ?_
    obtain ⟨x19, e20, hf⟩ := obind hf
    refine q_getA (pc := 77) dX9_countLines_77 gX9_12 e20 ?_
    refine r_aload_n (pc := 80) dX9_countLines_80 rfl ?_
    obtain ⟨x21, e22, hf⟩ := obind hf
    refine q_getA (pc := 81) dX9_countLines_81 gX9_42 e22 ?_
    obtain ⟨q23, e24, hf⟩ := obind hf
    refine q_callV (pc := 84) (v := some (.int q23)) (S' := S) mX4_top 4 [] dX9_countLines_84 kX9_324 fX4_top iX4_top ⟨by decide, by decide⟩ rfl rfl rfl (Nat.le_of_ble_eq_true rfl) (og e24) (mc1 := 0) (ms1 := 0) (mc2 := 0) (ms2 := 0) (by decide) (by decide) (C_X4_top S x21 q23 e24 (qR_mk _ _)) ?_
    change gW _ _ _ _ (.int q23 :: _) _ _ _ _ _
    refine r_lload_n (pc := 87) dX9_countLines_87 rfl ?_
    refine r_aload_n (pc := 88) dX9_countLines_88 rfl ?_
    obtain ⟨x25, e26, hf⟩ := obind hf
    refine q_getA (pc := 89) dX9_countLines_89 gX9_12 e26 ?_
    obtain ⟨q27, e28, hf⟩ := obind hf
    refine q_callV (pc := 92) (v := some (.long q27)) (S' := S) mX8_presentItems 8 [] dX9_countLines_92 kX9_379 fX8_presentItems iX8_presentItems ⟨by decide, by decide⟩ rfl rfl rfl (Nat.le_of_ble_eq_true rfl) (og e28) (mc1 := 0) (ms1 := 0) (mc2 := 0) (ms2 := 0) (by decide) (by decide) (C_X8_presentItems S x25 q27 e28 (qR_mk _ _)) ?_
    change gW _ _ _ _ (.long q27 :: _) _ _ _ _ _
    obtain ⟨q29, e30, hf⟩ := obind hf
    refine q_callV (pc := 95) (v := none) (S' := q29) mX5_find 5 [.ref x19, .int q23, .long q15, .long q27] dX9_countLines_95 kX9_455 fX5_find iX5_find ⟨by decide, by decide⟩ rfl rfl rfl (Nat.le_of_ble_eq_true rfl) (og e30) (mc1 := 0) (ms1 := 0) (mc2 := 0) (ms2 := 0) (by decide) (by decide) (C_X5_find S x17 x19 q23 q15 q27 q29 e30 (qR_mk _ _)) ?_
    refine gW.mono (mc := 0) (ms := 0) ?_ (fun _ _ _ q => q) (by decide) (by decide)
    exact gW.weak (by simp [gle]) (W_X9_countLines_98 q29 a0 r hf hk)
  · rw [if_neg hc] at hf
    refine r_aload_n (pc := 10) dX9_countLines_10 rfl ?_
    obtain ⟨x35, e36, hf⟩ := obind hf
    refine q_getA (pc := 11) dX9_countLines_11 gX9_59 e36 ?_
    refine r_aload_n (pc := 14) dX9_countLines_14 rfl ?_
    obtain ⟨x37, e38, hf⟩ := obind hf
    refine q_getA (pc := 15) dX9_countLines_15 gX9_12 e38 ?_
    refine r_aload_n (pc := 18) dX9_countLines_18 rfl ?_
    obtain ⟨x39, e40, hf⟩ := obind hf
    refine q_getA (pc := 19) dX9_countLines_19 gX9_42 e40 ?_
    obtain ⟨q41, e42, hf⟩ := obind hf
    refine q_callV (pc := 22) (v := some (.int q41)) (S' := S) mX4_top 4 [] dX9_countLines_22 kX9_324 fX4_top iX4_top ⟨by decide, by decide⟩ rfl rfl rfl (Nat.le_of_ble_eq_true rfl) (og e42) (mc1 := 0) (ms1 := 0) (mc2 := 0) (ms2 := 0) (by decide) (by decide) (C_X4_top S x39 q41 e42 (qR_mk _ _)) ?_
    change gW _ _ _ _ (.int q41 :: _) _ _ _ _ _
    refine r_aload_n (pc := 25) dX9_countLines_25 rfl ?_
    obtain ⟨x43, e44, hf⟩ := obind hf
    refine q_getA (pc := 26) dX9_countLines_26 gX9_12 e44 ?_
    obtain ⟨q45, e46, hf⟩ := obind hf
    refine q_callV (pc := 29) (v := some (.long q45)) (S' := S) mX8_presentItems 8 [] dX9_countLines_29 kX9_379 fX8_presentItems iX8_presentItems ⟨by decide, by decide⟩ rfl rfl rfl (Nat.le_of_ble_eq_true rfl) (og e46) (mc1 := 0) (ms1 := 0) (mc2 := 0) (ms2 := 0) (by decide) (by decide) (C_X8_presentItems S x43 q45 e46 (qR_mk _ _)) ?_
    change gW _ _ _ _ (.long q45 :: _) _ _ _ _ _
    refine r_aload_n (pc := 32) dX9_countLines_32 rfl ?_
    obtain ⟨x47, e48, hf⟩ := obind hf
    refine q_getA (pc := 33) dX9_countLines_33 gX9_12 e48 ?_
    obtain ⟨q49, e50, hf⟩ := obind hf
    refine q_callV (pc := 36) (v := some (.long q49)) (S' := S) mX8_foldedItems 8 [] dX9_countLines_36 kX9_268 fX8_foldedItems iX8_foldedItems ⟨by decide, by decide⟩ rfl rfl rfl (Nat.le_of_ble_eq_true rfl) (og e50) (mc1 := 0) (ms1 := 0) (mc2 := 0) (ms2 := 0) (by decide) (by decide) (C_X8_foldedItems S x47 q49 e50 (qR_mk _ _)) ?_
    change gW _ _ _ _ (.long q49 :: _) _ _ _ _ _
    refine r_ldc2 (pc := 39) dX9_countLines_39 kX9_453 ?_
    refine r_lxor (pc := 42) dX9_countLines_42 ?_
    obtain ⟨q51, e52, hf⟩ := obind hf
    refine q_callV (pc := 43) (v := none) (S' := q51) mX5_find 5 [.ref x37, .int q41, .long q45, .long (q49 ^^^ (-1 : Int64))] dX9_countLines_43 kX9_455 fX5_find iX5_find ⟨by decide, by decide⟩ rfl rfl rfl (Nat.le_of_ble_eq_true rfl) (og e52) (mc1 := 0) (ms1 := 0) (mc2 := 0) (ms2 := 0) (by decide) (by decide) (C_X5_find S x35 x37 q41 q45 (q49 ^^^ (-1 : Int64)) q51 e52 (qR_mk _ _)) ?_
    refine r_goto (pc := 46) 98 dX9_countLines_46 (by decide) ?_
    refine gW.mono (mc := 0) (ms := 0) ?_ (fun _ _ _ q => q) (by decide) (by decide)
    exact gW.weak (by simp [gle]) (W_X9_countLines_98 q51 a0 r hf hk)
def F_X9_needLine_9 (S : pS) : Option ((pS) ⊕ (String × pS)) := some (.inr ("java/util/NoSuchElementException", S))
set_option maxRecDepth 100000 in
set_option maxHeartbeats 4000000 in
theorem W_X9_needLine_9 {X : pX} {Q : pO → Nat → pF → Prop} (S : pS) (r : (pS) ⊕ (String × pS)) (hf : F_X9_needLine_9 S = some r) (hk : Sum.elim (fun q => Q (.inl none) q.1 q.2) (fun q => ∀ n', q.2.1 ≤ n' → Q (.inr q.1) n' (gjunk q.2.2 q.2.1)) r) : gW X mX9_needLine 9 [none, none, none] [] S.1 S.2 Q 1 6 := by
  unfold F_X9_needLine_9 at hf
  refine r_throwW (pc := 9) "java/util/NoSuchElementException" 17 dX9_needLine_9 dX9_needLine_12 dX9_needLine_13 dX9_needLine_16 dX9_needLine_19 xX9_404_408 rfl ⟨by decide, Nat.le_of_ble_eq_true rfl⟩ (by decide) (by decide) ?_
  cases hf
  exact hk
def F_X9_needLine (S : pS) (a0 : Nat) (a1 : Int32) (a2 : Int32) : Option ((pS) ⊕ (String × pS)) := (oF S a0 9).bind fun _ => if a1 < 0 then (F_X9_needLine_9 S) else (if a1 < a2 then (some (.inl S)) else (F_X9_needLine_9 S))
set_option maxRecDepth 100000 in
set_option maxHeartbeats 4000000 in
theorem C_X9_needLine {X : pX} {Q : pO → Nat → pF → Prop} (S : pS) (a0 : Nat) (a1 : Int32) (a2 : Int32) (r : (pS) ⊕ (String × pS)) (hf : F_X9_needLine S a0 a1 a2 = some r) (hk : Sum.elim (fun q => Q (.inl none) q.1 q.2) (fun q => ∀ n', q.2.1 ≤ n' → Q (.inr q.1) n' (gjunk q.2.2 q.2.1)) r) : gC X mX9_needLine [.ref a0, .int a1, .int a2] S.1 S.2 Q 1 6 := by
  refine gC_of (by decide) (Nat.le_of_ble_eq_true rfl) ?_
  change gW _ _ _ [some (.ref a0), some (.int a1), some (.int a2)] _ _ _ _ _ _
  unfold F_X9_needLine at hf
  obtain ⟨_, _, hf⟩ := obind hf
  refine r_iload_n (pc := 0) dX9_needLine_0 rfl ?_
  refine r_if_lt (pc := 1) 9 dX9_needLine_1 (by decide) (fun hc => ?_) (fun hc => ?_)
  · rw [if_pos hc] at hf
    refine gW.mono (mc := 1) (ms := 6) ?_ (fun _ _ _ q => q) (by decide) (by decide)
    exact gW.weak (by simp [gle]) (W_X9_needLine_9 S r hf hk)
  · rw [if_neg hc] at hf
    refine r_iload_n (pc := 4) dX9_needLine_4 rfl ?_
    refine r_iload_n (pc := 5) dX9_needLine_5 rfl ?_
    refine r_icmp_lt (pc := 6) 20 dX9_needLine_6 (by decide) (fun hc => ?_) (fun hc => ?_)
    · rw [if_pos hc] at hf
      refine r_return (pc := 20) dX9_needLine_20 rfl ?_
      cases hf
      exact hk
    · rw [if_neg hc] at hf
      refine gW.mono (mc := 1) (ms := 6) ?_ (fun _ _ _ q => q) (by decide) (by decide)
      exact gW.weak (by simp [gle]) (W_X9_needLine_9 S r hf hk)
def F_X9_indent (S : pS) (a0 : Nat) (a1 : Int32) : Option ((Int32 × pS) ⊕ (String × pS)) := (oF S a0 9).bind fun _ => (F_X9_countLines S a0).bind fun q1 => (F_X9_needLine q1.2 a0 a1 q1.1).bind fun q3 => Sum.elim (fun q3 => (oGA q3 a0 9 9).bind fun x5 => (F_X5_itemAbove q3 x5 a1).bind fun q7 => (oGA q3 a0 9 9).bind fun x9 => (F_X5_indexIn q3 x9 a1).bind fun q11 => if ¬ q11 = 0 then ((oGA q3 a0 9 0).bind fun x13 => (F_X8_childAt q3 x13 q7 (q11 - (1 : Int32))).bind fun q15 => (oGA q3 a0 9 1).bind fun x17 => (oGA q3 a0 9 0).bind fun x19 => (F_X8_copyFrom q3 x17 x19).bind fun q21 => (F_X9_takeBlock q21 a0 q7 q11 (1 : Int32)).bind fun q23 => (oGA q23 a0 9 1).bind fun x25 => (F_X8_childCount q23 x25 q15).bind fun q27 => (F_X9_putBlock q23 a0 (40 : Int32) (1 : Int32) q15 q27).bind fun q29 => if ¬ q29.1 = 0 then ((F_X9_adoptDraft q29.2 a0).bind fun q31 => some (.inl (q15, q31))) else (some (.inr ("java/lang/UnsupportedOperationException", q29.2)))) else (some (.inr ("java/lang/IllegalStateException", q3)))) (fun q3 => some (.inr q3)) q3
set_option maxRecDepth 100000 in
set_option maxHeartbeats 4000000 in
theorem C_X9_indent {X : pX} {Q : pO → Nat → pF → Prop} (S : pS) (a0 : Nat) (a1 : Int32) (r : (Int32 × pS) ⊕ (String × pS)) (hf : F_X9_indent S a0 a1 = some r) (hk : Sum.elim (fun q => Q (.inl (some (.int q.1))) q.2.1 q.2.2) (fun q => ∀ n', q.2.1 ≤ n' → Q (.inr q.1) n' (gjunk q.2.2 q.2.1)) r) : gC X mX9_indent [.ref a0, .int a1] S.1 S.2 Q 8 1602 := by
  refine gC_of (by decide) (Nat.le_of_ble_eq_true rfl) ?_
  change gW _ _ _ [some (.ref a0), some (.int a1), none, none, none] _ _ _ _ _ _
  unfold F_X9_indent at hf
  obtain ⟨_, _, hf⟩ := obind hf
  refine r_aload_n (pc := 0) dX9_indent_0 rfl ?_
  refine r_iload_n (pc := 1) dX9_indent_1 rfl ?_
  refine r_aload_n (pc := 2) dX9_indent_2 rfl ?_
  obtain ⟨q1, e2, hf⟩ := obind hf
  refine q_callV (pc := 3) (v := some (.int q1.1)) (S' := q1.2) mX9_countLines 9 [] dX9_indent_3 kX9_218 fX9_countLines iX9_countLines ⟨by decide, by decide⟩ rfl rfl rfl (Nat.le_of_ble_eq_true rfl) (og e2) (mc1 := 0) (ms1 := 0) (mc2 := 8) (ms2 := 1602) (by decide) (by decide) (C_X9_countLines S a0 q1 e2 (qR_mk _ _)) ?_
  change gW _ _ _ _ (.int q1.1 :: _) _ _ _ _ _
  obtain ⟨q3, e4, hf⟩ := obind hf
  rcases q3 with q3 | q3
  · replace hf := hf
    refine q_callV (pc := 6) (v := none) (S' := q3) mX9_needLine 9 [.int a1, .int q1.1] dX9_indent_6 kX9_221 fX9_needLine iX9_needLine ⟨by decide, by decide⟩ rfl rfl rfl (Nat.le_of_ble_eq_true rfl) (og e4) (mc1 := 1) (ms1 := 6) (mc2 := 7) (ms2 := 1596) (by decide) (by decide) (C_X9_needLine q1.2 a0 a1 q1.1 (.inl q3) e4 (qR_mk _ _)) ?_
    refine r_aload_n (pc := 9) dX9_indent_9 rfl ?_
    obtain ⟨x5, e6, hf⟩ := obind hf
    refine q_getA (pc := 10) dX9_indent_10 gX9_59 e6 ?_
    refine r_iload_n (pc := 13) dX9_indent_13 rfl ?_
    obtain ⟨q7, e8, hf⟩ := obind hf
    refine q_callV (pc := 14) (v := some (.int q7)) (S' := q3) mX5_itemAbove 5 [.int a1] dX9_indent_14 kX9_224 fX5_itemAbove iX5_itemAbove ⟨by decide, by decide⟩ rfl rfl rfl (Nat.le_of_ble_eq_true rfl) (og e8) (mc1 := 0) (ms1 := 0) (mc2 := 7) (ms2 := 1596) (by decide) (by decide) (C_X5_itemAbove q3 x5 a1 q7 e8 (qR_mk _ _)) ?_
    change gW _ _ _ _ (.int q7 :: _) _ _ _ _ _
    refine r_istore_n (pc := 17) dX9_indent_17 (by decide) ?_
    change gW _ _ _ [some (.ref a0), some (.int a1), some (.int q7), none, none] _ _ _ _ _ _
    refine r_aload_n (pc := 18) dX9_indent_18 rfl ?_
    obtain ⟨x9, e10, hf⟩ := obind hf
    refine q_getA (pc := 19) dX9_indent_19 gX9_59 e10 ?_
    refine r_iload_n (pc := 22) dX9_indent_22 rfl ?_
    obtain ⟨q11, e12, hf⟩ := obind hf
    refine q_callV (pc := 23) (v := some (.int q11)) (S' := q3) mX5_indexIn 5 [.int a1] dX9_indent_23 kX9_227 fX5_indexIn iX5_indexIn ⟨by decide, by decide⟩ rfl rfl rfl (Nat.le_of_ble_eq_true rfl) (og e12) (mc1 := 0) (ms1 := 0) (mc2 := 7) (ms2 := 1596) (by decide) (by decide) (C_X5_indexIn q3 x9 a1 q11 e12 (qR_mk _ _)) ?_
    change gW _ _ _ _ (.int q11 :: _) _ _ _ _ _
    refine r_istore_n (pc := 26) dX9_indent_26 (by decide) ?_
    change gW _ _ _ [some (.ref a0), some (.int a1), some (.int q7), some (.int q11), none] _ _ _ _ _ _
    refine r_iload_n (pc := 27) dX9_indent_27 rfl ?_
    refine r_if_ne (pc := 28) 41 dX9_indent_28 (by decide) (fun hc => ?_) (fun hc => ?_)
    · rw [if_pos hc] at hf
      refine r_aload_n (pc := 41) dX9_indent_41 rfl ?_
      obtain ⟨x13, e14, hf⟩ := obind hf
      refine q_getA (pc := 42) dX9_indent_42 gX9_12 e14 ?_
      refine r_iload_n (pc := 45) dX9_indent_45 rfl ?_
      refine r_iload_n (pc := 46) dX9_indent_46 rfl ?_
      refine r_iconst (pc := 47) (1 : Int32) dX9_indent_47 (by decide) ?_
      refine r_isub (pc := 48) dX9_indent_48 ?_
      obtain ⟨q15, e16, hf⟩ := obind hf
      refine q_callV (pc := 49) (v := some (.int q15)) (S' := q3) mX8_childAt 8 [.int q7, .int (q11 - (1 : Int32))] dX9_indent_49 kX9_232 fX8_childAt iX8_childAt ⟨by decide, by decide⟩ rfl rfl rfl (Nat.le_of_ble_eq_true rfl) (og e16) (mc1 := 0) (ms1 := 0) (mc2 := 7) (ms2 := 1596) (by decide) (by decide) (C_X8_childAt q3 x13 q7 (q11 - (1 : Int32)) q15 e16 (qR_mk _ _)) ?_
      change gW _ _ _ _ (.int q15 :: _) _ _ _ _ _
      refine r_istore (pc := 52) dX9_indent_52 (by decide) ?_
      change gW _ _ _ [some (.ref a0), some (.int a1), some (.int q7), some (.int q11), some (.int q15)] _ _ _ _ _ _
      refine r_aload_n (pc := 54) dX9_indent_54 rfl ?_
      obtain ⟨x17, e18, hf⟩ := obind hf
      refine q_getA (pc := 55) dX9_indent_55 gX9_16 e18 ?_
      refine r_aload_n (pc := 58) dX9_indent_58 rfl ?_
      obtain ⟨x19, e20, hf⟩ := obind hf
      refine q_getA (pc := 59) dX9_indent_59 gX9_12 e20 ?_
      obtain ⟨q21, e22, hf⟩ := obind hf
      refine q_callV (pc := 62) (v := none) (S' := q21) mX8_copyFrom 8 [.ref x19] dX9_indent_62 kX9_165 fX8_copyFrom iX8_copyFrom ⟨by decide, by decide⟩ rfl rfl rfl (Nat.le_of_ble_eq_true rfl) (og e22) (mc1 := 0) (ms1 := 0) (mc2 := 7) (ms2 := 1596) (by decide) (by decide) (C_X8_copyFrom q3 x17 x19 q21 e22 (qR_mk _ _)) ?_
      refine r_aload_n (pc := 65) dX9_indent_65 rfl ?_
      refine r_iload_n (pc := 66) dX9_indent_66 rfl ?_
      refine r_iload_n (pc := 67) dX9_indent_67 rfl ?_
      refine r_iconst (pc := 68) (1 : Int32) dX9_indent_68 (by decide) ?_
      obtain ⟨q23, e24, hf⟩ := obind hf
      refine q_callV (pc := 69) (v := none) (S' := q23) mX9_takeBlock 9 [.int q7, .int q11, .int (1 : Int32)] dX9_indent_69 kX9_211 fX9_takeBlock iX9_takeBlock ⟨by decide, by decide⟩ rfl rfl rfl (Nat.le_of_ble_eq_true rfl) (og e24) (mc1 := 0) (ms1 := 0) (mc2 := 7) (ms2 := 1596) (by decide) (by decide) (C_X9_takeBlock q21 a0 q7 q11 (1 : Int32) q23 e24 (qR_mk _ _)) ?_
      refine r_aload_n (pc := 72) dX9_indent_72 rfl ?_
      refine r_bipush (pc := 73) (40 : Int32) dX9_indent_73 (by decide) ?_
      refine r_iconst (pc := 75) (1 : Int32) dX9_indent_75 (by decide) ?_
      refine r_iload (pc := 76) dX9_indent_76 rfl ?_
      refine r_aload_n (pc := 78) dX9_indent_78 rfl ?_
      obtain ⟨x25, e26, hf⟩ := obind hf
      refine q_getA (pc := 79) dX9_indent_79 gX9_16 e26 ?_
      refine r_iload (pc := 82) dX9_indent_82 rfl ?_
      obtain ⟨q27, e28, hf⟩ := obind hf
      refine q_callV (pc := 84) (v := some (.int q27)) (S' := q23) mX8_childCount 8 [.int q15] dX9_indent_84 kX9_141 fX8_childCount iX8_childCount ⟨by decide, by decide⟩ rfl rfl rfl (Nat.le_of_ble_eq_true rfl) (og e28) (mc1 := 0) (ms1 := 0) (mc2 := 7) (ms2 := 1596) (by decide) (by decide) (C_X8_childCount q23 x25 q15 q27 e28 (qR_mk _ _)) ?_
      change gW _ _ _ _ (.int q27 :: _) _ _ _ _ _
      obtain ⟨q29, e30, hf⟩ := obind hf
      refine q_callV (pc := 87) (v := some (.int q29.1)) (S' := q29.2) mX9_putBlock 9 [.int (40 : Int32), .int (1 : Int32), .int q15, .int q27] dX9_indent_87 kX9_214 fX9_putBlock iX9_putBlock ⟨by decide, by decide⟩ rfl rfl rfl (Nat.le_of_ble_eq_true rfl) (og e30) (mc1 := 0) (ms1 := 0) (mc2 := 7) (ms2 := 1596) (by decide) (by decide) (C_X9_putBlock q23 a0 (40 : Int32) (1 : Int32) q15 q27 q29 e30 (qR_mk _ _)) ?_
      change gW _ _ _ _ (.int q29.1 :: _) _ _ _ _ _
      refine r_if_ne (pc := 90) 103 dX9_indent_90 (by decide) (fun hc => ?_) (fun hc => ?_)
      · rw [if_pos hc] at hf
        refine r_aload_n (pc := 103) dX9_indent_103 rfl ?_
        obtain ⟨q31, e32, hf⟩ := obind hf
        refine q_callV (pc := 104) (v := none) (S' := q31) mX9_adoptDraft 9 [] dX9_indent_104 kX9_176 fX9_adoptDraft iX9_adoptDraft ⟨by decide, by decide⟩ rfl rfl rfl (Nat.le_of_ble_eq_true rfl) (og e32) (mc1 := 7) (ms1 := 1596) (mc2 := 0) (ms2 := 0) (by decide) (by decide) (C_X9_adoptDraft q29.2 a0 q31 e32 (qR_mk _ _)) ?_
        refine r_iload (pc := 107) dX9_indent_107 rfl ?_
        refine r_ireturn (pc := 109) .int dX9_indent_109 rfl rfl ?_
        cases hf
        exact hk
      · rw [if_neg hc] at hf
        refine r_throw (pc := 93) "java/lang/UnsupportedOperationException" 13 dX9_indent_93 dX9_indent_96 dX9_indent_97 dX9_indent_99 dX9_indent_102 xX9_160_164 rfl ⟨by decide, Nat.le_of_ble_eq_true rfl⟩ (by decide) (by decide) ?_
        cases hf
        exact hk
    · rw [if_neg hc] at hf
      refine r_throw (pc := 31) "java/lang/IllegalStateException" 18 dX9_indent_31 dX9_indent_34 dX9_indent_35 dX9_indent_37 dX9_indent_40 xX9_125_129 rfl ⟨by decide, Nat.le_of_ble_eq_true rfl⟩ (by decide) (by decide) ?_
      cases hf
      exact hk
  · replace hf := hf
    refine q_callVt (pc := 6) (E := q3.1) (S' := q3.2) mX9_needLine 9 [.int a1, .int q1.1] dX9_indent_6 kX9_221 fX9_needLine iX9_needLine ⟨by decide, by decide⟩ rfl rfl rfl (Nat.le_of_ble_eq_true rfl) (og e4) (mc1 := 1) (ms1 := 6) (by decide) (by decide) (C_X9_needLine q1.2 a0 a1 q1.1 (.inr q3) e4 (qX_mk _ _)) ?_
    cases hf
    exact hk
def F_X9_outdent (S : pS) (a0 : Nat) (a1 : Int32) : Option ((Int32 × pS) ⊕ (String × pS)) := (oF S a0 9).bind fun _ => (F_X9_countLines S a0).bind fun q1 => (F_X9_needLine q1.2 a0 a1 q1.1).bind fun q3 => Sum.elim (fun q3 => (oGA q3 a0 9 9).bind fun x5 => (F_X5_depthOf q3 x5 a1).bind fun q7 => if ¬ q7 = 0 then ((oGA q3 a0 9 9).bind fun x9 => (F_X5_lineAbove q3 x9 a1).bind fun q11 => (oGA q3 a0 9 9).bind fun x13 => (F_X5_itemAbove q3 x13 q11).bind fun q15 => (oGA q3 a0 9 1).bind fun x17 => (oGA q3 a0 9 0).bind fun x19 => (F_X8_copyFrom q3 x17 x19).bind fun q21 => (oGA q21 a0 9 9).bind fun x23 => (F_X5_itemOf q21 x23 q11).bind fun q25 => (oGA q21 a0 9 9).bind fun x27 => (F_X5_indexIn q21 x27 a1).bind fun q29 => (F_X9_takeBlock q21 a0 q25 q29 (1 : Int32)).bind fun q31 => (oGA q31 a0 9 9).bind fun x33 => (F_X5_indexIn q31 x33 q11).bind fun q35 => (F_X9_putBlock q31 a0 (50 : Int32) (1 : Int32) q15 (q35 + (1 : Int32))).bind fun q37 => if ¬ q37.1 = 0 then ((F_X9_adoptDraft q37.2 a0).bind fun q39 => some (.inl (q15, q39))) else (some (.inr ("java/lang/UnsupportedOperationException", q37.2)))) else (some (.inr ("java/lang/IllegalStateException", q3)))) (fun q3 => some (.inr q3)) q3
set_option maxRecDepth 100000 in
set_option maxHeartbeats 4000000 in
theorem C_X9_outdent {X : pX} {Q : pO → Nat → pF → Prop} (S : pS) (a0 : Nat) (a1 : Int32) (r : (Int32 × pS) ⊕ (String × pS)) (hf : F_X9_outdent S a0 a1 = some r) (hk : Sum.elim (fun q => Q (.inl (some (.int q.1))) q.2.1 q.2.2) (fun q => ∀ n', q.2.1 ≤ n' → Q (.inr q.1) n' (gjunk q.2.2 q.2.1)) r) : gC X mX9_outdent [.ref a0, .int a1] S.1 S.2 Q 8 1602 := by
  refine gC_of (by decide) (Nat.le_of_ble_eq_true rfl) ?_
  change gW _ _ _ [some (.ref a0), some (.int a1), none, none] _ _ _ _ _ _
  unfold F_X9_outdent at hf
  obtain ⟨_, _, hf⟩ := obind hf
  refine r_aload_n (pc := 0) dX9_outdent_0 rfl ?_
  refine r_iload_n (pc := 1) dX9_outdent_1 rfl ?_
  refine r_aload_n (pc := 2) dX9_outdent_2 rfl ?_
  obtain ⟨q1, e2, hf⟩ := obind hf
  refine q_callV (pc := 3) (v := some (.int q1.1)) (S' := q1.2) mX9_countLines 9 [] dX9_outdent_3 kX9_218 fX9_countLines iX9_countLines ⟨by decide, by decide⟩ rfl rfl rfl (Nat.le_of_ble_eq_true rfl) (og e2) (mc1 := 0) (ms1 := 0) (mc2 := 8) (ms2 := 1602) (by decide) (by decide) (C_X9_countLines S a0 q1 e2 (qR_mk _ _)) ?_
  change gW _ _ _ _ (.int q1.1 :: _) _ _ _ _ _
  obtain ⟨q3, e4, hf⟩ := obind hf
  rcases q3 with q3 | q3
  · replace hf := hf
    refine q_callV (pc := 6) (v := none) (S' := q3) mX9_needLine 9 [.int a1, .int q1.1] dX9_outdent_6 kX9_221 fX9_needLine iX9_needLine ⟨by decide, by decide⟩ rfl rfl rfl (Nat.le_of_ble_eq_true rfl) (og e4) (mc1 := 1) (ms1 := 6) (mc2 := 7) (ms2 := 1596) (by decide) (by decide) (C_X9_needLine q1.2 a0 a1 q1.1 (.inl q3) e4 (qR_mk _ _)) ?_
    refine r_aload_n (pc := 9) dX9_outdent_9 rfl ?_
    obtain ⟨x5, e6, hf⟩ := obind hf
    refine q_getA (pc := 10) dX9_outdent_10 gX9_59 e6 ?_
    refine r_iload_n (pc := 13) dX9_outdent_13 rfl ?_
    obtain ⟨q7, e8, hf⟩ := obind hf
    refine q_callV (pc := 14) (v := some (.int q7)) (S' := q3) mX5_depthOf 5 [.int a1] dX9_outdent_14 kX9_236 fX5_depthOf iX5_depthOf ⟨by decide, by decide⟩ rfl rfl rfl (Nat.le_of_ble_eq_true rfl) (og e8) (mc1 := 0) (ms1 := 0) (mc2 := 7) (ms2 := 1596) (by decide) (by decide) (C_X5_depthOf q3 x5 a1 q7 e8 (qR_mk _ _)) ?_
    change gW _ _ _ _ (.int q7 :: _) _ _ _ _ _
    refine r_if_ne (pc := 17) 30 dX9_outdent_17 (by decide) (fun hc => ?_) (fun hc => ?_)
    · rw [if_pos hc] at hf
      refine r_aload_n (pc := 30) dX9_outdent_30 rfl ?_
      obtain ⟨x9, e10, hf⟩ := obind hf
      refine q_getA (pc := 31) dX9_outdent_31 gX9_59 e10 ?_
      refine r_iload_n (pc := 34) dX9_outdent_34 rfl ?_
      obtain ⟨q11, e12, hf⟩ := obind hf
      refine q_callV (pc := 35) (v := some (.int q11)) (S' := q3) mX5_lineAbove 5 [.int a1] dX9_outdent_35 kX9_241 fX5_lineAbove iX5_lineAbove ⟨by decide, by decide⟩ rfl rfl rfl (Nat.le_of_ble_eq_true rfl) (og e12) (mc1 := 0) (ms1 := 0) (mc2 := 7) (ms2 := 1596) (by decide) (by decide) (C_X5_lineAbove q3 x9 a1 q11 e12 (qR_mk _ _)) ?_
      change gW _ _ _ _ (.int q11 :: _) _ _ _ _ _
      refine r_istore_n (pc := 38) dX9_outdent_38 (by decide) ?_
      change gW _ _ _ [some (.ref a0), some (.int a1), some (.int q11), none] _ _ _ _ _ _
      refine r_aload_n (pc := 39) dX9_outdent_39 rfl ?_
      obtain ⟨x13, e14, hf⟩ := obind hf
      refine q_getA (pc := 40) dX9_outdent_40 gX9_59 e14 ?_
      refine r_iload_n (pc := 43) dX9_outdent_43 rfl ?_
      obtain ⟨q15, e16, hf⟩ := obind hf
      refine q_callV (pc := 44) (v := some (.int q15)) (S' := q3) mX5_itemAbove 5 [.int q11] dX9_outdent_44 kX9_224 fX5_itemAbove iX5_itemAbove ⟨by decide, by decide⟩ rfl rfl rfl (Nat.le_of_ble_eq_true rfl) (og e16) (mc1 := 0) (ms1 := 0) (mc2 := 7) (ms2 := 1596) (by decide) (by decide) (C_X5_itemAbove q3 x13 q11 q15 e16 (qR_mk _ _)) ?_
      change gW _ _ _ _ (.int q15 :: _) _ _ _ _ _
      refine r_istore_n (pc := 47) dX9_outdent_47 (by decide) ?_
      change gW _ _ _ [some (.ref a0), some (.int a1), some (.int q11), some (.int q15)] _ _ _ _ _ _
      refine r_aload_n (pc := 48) dX9_outdent_48 rfl ?_
      obtain ⟨x17, e18, hf⟩ := obind hf
      refine q_getA (pc := 49) dX9_outdent_49 gX9_16 e18 ?_
      refine r_aload_n (pc := 52) dX9_outdent_52 rfl ?_
      obtain ⟨x19, e20, hf⟩ := obind hf
      refine q_getA (pc := 53) dX9_outdent_53 gX9_12 e20 ?_
      obtain ⟨q21, e22, hf⟩ := obind hf
      refine q_callV (pc := 56) (v := none) (S' := q21) mX8_copyFrom 8 [.ref x19] dX9_outdent_56 kX9_165 fX8_copyFrom iX8_copyFrom ⟨by decide, by decide⟩ rfl rfl rfl (Nat.le_of_ble_eq_true rfl) (og e22) (mc1 := 0) (ms1 := 0) (mc2 := 7) (ms2 := 1596) (by decide) (by decide) (C_X8_copyFrom q3 x17 x19 q21 e22 (qR_mk _ _)) ?_
      refine r_aload_n (pc := 59) dX9_outdent_59 rfl ?_
      refine r_aload_n (pc := 60) dX9_outdent_60 rfl ?_
      obtain ⟨x23, e24, hf⟩ := obind hf
      refine q_getA (pc := 61) dX9_outdent_61 gX9_59 e24 ?_
      refine r_iload_n (pc := 64) dX9_outdent_64 rfl ?_
      obtain ⟨q25, e26, hf⟩ := obind hf
      refine q_callV (pc := 65) (v := some (.int q25)) (S' := q21) mX5_itemOf 5 [.int q11] dX9_outdent_65 kX9_244 fX5_itemOf iX5_itemOf ⟨by decide, by decide⟩ rfl rfl rfl (Nat.le_of_ble_eq_true rfl) (og e26) (mc1 := 0) (ms1 := 0) (mc2 := 7) (ms2 := 1596) (by decide) (by decide) (C_X5_itemOf q21 x23 q11 q25 e26 (qR_mk _ _)) ?_
      change gW _ _ _ _ (.int q25 :: _) _ _ _ _ _
      refine r_aload_n (pc := 68) dX9_outdent_68 rfl ?_
      obtain ⟨x27, e28, hf⟩ := obind hf
      refine q_getA (pc := 69) dX9_outdent_69 gX9_59 e28 ?_
      refine r_iload_n (pc := 72) dX9_outdent_72 rfl ?_
      obtain ⟨q29, e30, hf⟩ := obind hf
      refine q_callV (pc := 73) (v := some (.int q29)) (S' := q21) mX5_indexIn 5 [.int a1] dX9_outdent_73 kX9_227 fX5_indexIn iX5_indexIn ⟨by decide, by decide⟩ rfl rfl rfl (Nat.le_of_ble_eq_true rfl) (og e30) (mc1 := 0) (ms1 := 0) (mc2 := 7) (ms2 := 1596) (by decide) (by decide) (C_X5_indexIn q21 x27 a1 q29 e30 (qR_mk _ _)) ?_
      change gW _ _ _ _ (.int q29 :: _) _ _ _ _ _
      refine r_iconst (pc := 76) (1 : Int32) dX9_outdent_76 (by decide) ?_
      obtain ⟨q31, e32, hf⟩ := obind hf
      refine q_callV (pc := 77) (v := none) (S' := q31) mX9_takeBlock 9 [.int q25, .int q29, .int (1 : Int32)] dX9_outdent_77 kX9_211 fX9_takeBlock iX9_takeBlock ⟨by decide, by decide⟩ rfl rfl rfl (Nat.le_of_ble_eq_true rfl) (og e32) (mc1 := 0) (ms1 := 0) (mc2 := 7) (ms2 := 1596) (by decide) (by decide) (C_X9_takeBlock q21 a0 q25 q29 (1 : Int32) q31 e32 (qR_mk _ _)) ?_
      refine r_aload_n (pc := 80) dX9_outdent_80 rfl ?_
      refine r_bipush (pc := 81) (50 : Int32) dX9_outdent_81 (by decide) ?_
      refine r_iconst (pc := 83) (1 : Int32) dX9_outdent_83 (by decide) ?_
      refine r_iload_n (pc := 84) dX9_outdent_84 rfl ?_
      refine r_aload_n (pc := 85) dX9_outdent_85 rfl ?_
      obtain ⟨x33, e34, hf⟩ := obind hf
      refine q_getA (pc := 86) dX9_outdent_86 gX9_59 e34 ?_
      refine r_iload_n (pc := 89) dX9_outdent_89 rfl ?_
      obtain ⟨q35, e36, hf⟩ := obind hf
      refine q_callV (pc := 90) (v := some (.int q35)) (S' := q31) mX5_indexIn 5 [.int q11] dX9_outdent_90 kX9_227 fX5_indexIn iX5_indexIn ⟨by decide, by decide⟩ rfl rfl rfl (Nat.le_of_ble_eq_true rfl) (og e36) (mc1 := 0) (ms1 := 0) (mc2 := 7) (ms2 := 1596) (by decide) (by decide) (C_X5_indexIn q31 x33 q11 q35 e36 (qR_mk _ _)) ?_
      change gW _ _ _ _ (.int q35 :: _) _ _ _ _ _
      refine r_iconst (pc := 93) (1 : Int32) dX9_outdent_93 (by decide) ?_
      refine r_iadd (pc := 94) dX9_outdent_94 ?_
      obtain ⟨q37, e38, hf⟩ := obind hf
      refine q_callV (pc := 95) (v := some (.int q37.1)) (S' := q37.2) mX9_putBlock 9 [.int (50 : Int32), .int (1 : Int32), .int q15, .int (q35 + (1 : Int32))] dX9_outdent_95 kX9_214 fX9_putBlock iX9_putBlock ⟨by decide, by decide⟩ rfl rfl rfl (Nat.le_of_ble_eq_true rfl) (og e38) (mc1 := 0) (ms1 := 0) (mc2 := 7) (ms2 := 1596) (by decide) (by decide) (C_X9_putBlock q31 a0 (50 : Int32) (1 : Int32) q15 (q35 + (1 : Int32)) q37 e38 (qR_mk _ _)) ?_
      change gW _ _ _ _ (.int q37.1 :: _) _ _ _ _ _
      refine r_if_ne (pc := 98) 111 dX9_outdent_98 (by decide) (fun hc => ?_) (fun hc => ?_)
      · rw [if_pos hc] at hf
        refine r_aload_n (pc := 111) dX9_outdent_111 rfl ?_
        obtain ⟨q39, e40, hf⟩ := obind hf
        refine q_callV (pc := 112) (v := none) (S' := q39) mX9_adoptDraft 9 [] dX9_outdent_112 kX9_176 fX9_adoptDraft iX9_adoptDraft ⟨by decide, by decide⟩ rfl rfl rfl (Nat.le_of_ble_eq_true rfl) (og e40) (mc1 := 7) (ms1 := 1596) (mc2 := 0) (ms2 := 0) (by decide) (by decide) (C_X9_adoptDraft q37.2 a0 q39 e40 (qR_mk _ _)) ?_
        refine r_iload_n (pc := 115) dX9_outdent_115 rfl ?_
        refine r_ireturn (pc := 116) .int dX9_outdent_116 rfl rfl ?_
        cases hf
        exact hk
      · rw [if_neg hc] at hf
        refine r_throw (pc := 101) "java/lang/UnsupportedOperationException" 13 dX9_outdent_101 dX9_outdent_104 dX9_outdent_105 dX9_outdent_107 dX9_outdent_110 xX9_160_164 rfl ⟨by decide, Nat.le_of_ble_eq_true rfl⟩ (by decide) (by decide) ?_
        cases hf
        exact hk
    · rw [if_neg hc] at hf
      refine r_throw (pc := 20) "java/lang/IllegalStateException" 19 dX9_outdent_20 dX9_outdent_23 dX9_outdent_24 dX9_outdent_26 dX9_outdent_29 xX9_125_129 rfl ⟨by decide, Nat.le_of_ble_eq_true rfl⟩ (by decide) (by decide) ?_
      cases hf
      exact hk
  · replace hf := hf
    refine q_callVt (pc := 6) (E := q3.1) (S' := q3.2) mX9_needLine 9 [.int a1, .int q1.1] dX9_outdent_6 kX9_221 fX9_needLine iX9_needLine ⟨by decide, by decide⟩ rfl rfl rfl (Nat.le_of_ble_eq_true rfl) (og e4) (mc1 := 1) (ms1 := 6) (by decide) (by decide) (C_X9_needLine q1.2 a0 a1 q1.1 (.inr q3) e4 (qX_mk _ _)) ?_
    cases hf
    exact hk
def F_X9_rename (S : pS) (a0 : Nat) (a1 : Int32) : Option ((Int32 × pS) ⊕ (String × pS)) := (oF S a0 9).bind fun _ => (F_X9_needNamedItem S a0 a1).bind fun q1 => Sum.elim (fun q1 => (F_X9_takeName q1 a0).bind fun q3 => Sum.elim (fun q3 => (oGA q3.2 a0 9 0).bind fun x5 => (F_X8_nameLength q3.2 x5 a1).bind fun q7 => (oGA q3.2 a0 9 1).bind fun x9 => (oGA q3.2 a0 9 0).bind fun x11 => (F_X8_copyFrom q3.2 x9 x11).bind fun q13 => (oGA q13 a0 9 1).bind fun x15 => (oGA q13 a0 9 13).bind fun x17 => (F_X8_setName q13 x15 a1 x17 (0 : Int32) q3.1).bind fun q19 => (F_X9_adoptDraft q19 a0).bind fun q21 => some (.inl (q7, q21))) (fun q3 => some (.inr q3)) q3) (fun q1 => some (.inr q1)) q1
set_option maxRecDepth 100000 in
set_option maxHeartbeats 4000000 in
theorem C_X9_rename {X : pX} {Q : pO → Nat → pF → Prop} (S : pS) (a0 : Nat) (a1 : Int32) (r : (Int32 × pS) ⊕ (String × pS)) (hf : F_X9_rename S a0 a1 = some r) (hk : Sum.elim (fun q => Q (.inl (some (.int q.1))) q.2.1 q.2.2) (fun q => ∀ n', q.2.1 ≤ n' → Q (.inr q.1) n' (gjunk q.2.2 q.2.1)) r) : gC X mX9_rename [.ref a0, .int a1] S.1 S.2 Q 9 1608 := by
  refine gC_of (by decide) (Nat.le_of_ble_eq_true rfl) ?_
  change gW _ _ _ [some (.ref a0), some (.int a1), none, none] _ _ _ _ _ _
  unfold F_X9_rename at hf
  obtain ⟨_, _, hf⟩ := obind hf
  refine r_aload_n (pc := 0) dX9_rename_0 rfl ?_
  refine r_iload_n (pc := 1) dX9_rename_1 rfl ?_
  obtain ⟨q1, e2, hf⟩ := obind hf
  rcases q1 with q1 | q1
  · replace hf := hf
    refine q_callV (pc := 2) (v := none) (S' := q1) mX9_needNamedItem 9 [.int a1] dX9_rename_2 kX9_179 fX9_needNamedItem iX9_needNamedItem ⟨by decide, by decide⟩ rfl rfl rfl (Nat.le_of_ble_eq_true rfl) (og e2) (mc1 := 1) (ms1 := 6) (mc2 := 8) (ms2 := 1602) (by decide) (by decide) (C_X9_needNamedItem S a0 a1 (.inl q1) e2 (qR_mk _ _)) ?_
    refine r_aload_n (pc := 5) dX9_rename_5 rfl ?_
    obtain ⟨q3, e4, hf⟩ := obind hf
    rcases q3 with q3 | q3
    · replace hf := hf
      refine q_callV (pc := 6) (v := some (.int q3.1)) (S' := q3.2) mX9_takeName 9 [] dX9_rename_6 kX9_149 fX9_takeName iX9_takeName ⟨by decide, by decide⟩ rfl rfl rfl (Nat.le_of_ble_eq_true rfl) (og e4) (mc1 := 1) (ms1 := 6) (mc2 := 7) (ms2 := 1596) (by decide) (by decide) (C_X9_takeName q1 a0 (.inl q3) e4 (qR_mk _ _)) ?_
      change gW _ _ _ _ (.int q3.1 :: _) _ _ _ _ _
      refine r_istore_n (pc := 9) dX9_rename_9 (by decide) ?_
      change gW _ _ _ [some (.ref a0), some (.int a1), some (.int q3.1), none] _ _ _ _ _ _
      refine r_aload_n (pc := 10) dX9_rename_10 rfl ?_
      obtain ⟨x5, e6, hf⟩ := obind hf
      refine q_getA (pc := 11) dX9_rename_11 gX9_12 e6 ?_
      refine r_iload_n (pc := 14) dX9_rename_14 rfl ?_
      obtain ⟨q7, e8, hf⟩ := obind hf
      refine q_callV (pc := 15) (v := some (.int q7)) (S' := q3.2) mX8_nameLength 8 [.int a1] dX9_rename_15 kX9_247 fX8_nameLength iX8_nameLength ⟨by decide, by decide⟩ rfl rfl rfl (Nat.le_of_ble_eq_true rfl) (og e8) (mc1 := 0) (ms1 := 0) (mc2 := 7) (ms2 := 1596) (by decide) (by decide) (C_X8_nameLength q3.2 x5 a1 q7 e8 (qR_mk _ _)) ?_
      change gW _ _ _ _ (.int q7 :: _) _ _ _ _ _
      refine r_istore_n (pc := 18) dX9_rename_18 (by decide) ?_
      change gW _ _ _ [some (.ref a0), some (.int a1), some (.int q3.1), some (.int q7)] _ _ _ _ _ _
      refine r_aload_n (pc := 19) dX9_rename_19 rfl ?_
      obtain ⟨x9, e10, hf⟩ := obind hf
      refine q_getA (pc := 20) dX9_rename_20 gX9_16 e10 ?_
      refine r_aload_n (pc := 23) dX9_rename_23 rfl ?_
      obtain ⟨x11, e12, hf⟩ := obind hf
      refine q_getA (pc := 24) dX9_rename_24 gX9_12 e12 ?_
      obtain ⟨q13, e14, hf⟩ := obind hf
      refine q_callV (pc := 27) (v := none) (S' := q13) mX8_copyFrom 8 [.ref x11] dX9_rename_27 kX9_165 fX8_copyFrom iX8_copyFrom ⟨by decide, by decide⟩ rfl rfl rfl (Nat.le_of_ble_eq_true rfl) (og e14) (mc1 := 0) (ms1 := 0) (mc2 := 7) (ms2 := 1596) (by decide) (by decide) (C_X8_copyFrom q3.2 x9 x11 q13 e14 (qR_mk _ _)) ?_
      refine r_aload_n (pc := 30) dX9_rename_30 rfl ?_
      obtain ⟨x15, e16, hf⟩ := obind hf
      refine q_getA (pc := 31) dX9_rename_31 gX9_16 e16 ?_
      refine r_iload_n (pc := 34) dX9_rename_34 rfl ?_
      refine r_aload_n (pc := 35) dX9_rename_35 rfl ?_
      obtain ⟨x17, e18, hf⟩ := obind hf
      refine q_getA (pc := 36) dX9_rename_36 gX9_84 e18 ?_
      refine r_iconst (pc := 39) (0 : Int32) dX9_rename_39 (by decide) ?_
      refine r_iload_n (pc := 40) dX9_rename_40 rfl ?_
      obtain ⟨q19, e20, hf⟩ := obind hf
      refine q_callV (pc := 41) (v := none) (S' := q19) mX8_setName 8 [.int a1, .ref x17, .int (0 : Int32), .int q3.1] dX9_rename_41 kX9_250 fX8_setName iX8_setName ⟨by decide, by decide⟩ rfl rfl rfl (Nat.le_of_ble_eq_true rfl) (og e20) (mc1 := 0) (ms1 := 0) (mc2 := 7) (ms2 := 1596) (by decide) (by decide) (C_X8_setName q13 x15 a1 x17 (0 : Int32) q3.1 q19 e20 (qR_mk _ _)) ?_
      refine r_aload_n (pc := 44) dX9_rename_44 rfl ?_
      obtain ⟨q21, e22, hf⟩ := obind hf
      refine q_callV (pc := 45) (v := none) (S' := q21) mX9_adoptDraft 9 [] dX9_rename_45 kX9_176 fX9_adoptDraft iX9_adoptDraft ⟨by decide, by decide⟩ rfl rfl rfl (Nat.le_of_ble_eq_true rfl) (og e22) (mc1 := 7) (ms1 := 1596) (mc2 := 0) (ms2 := 0) (by decide) (by decide) (C_X9_adoptDraft q19 a0 q21 e22 (qR_mk _ _)) ?_
      refine r_iload_n (pc := 48) dX9_rename_48 rfl ?_
      refine r_ireturn (pc := 49) .int dX9_rename_49 rfl rfl ?_
      cases hf
      exact hk
    · replace hf := hf
      refine q_callVt (pc := 6) (E := q3.1) (S' := q3.2) mX9_takeName 9 [] dX9_rename_6 kX9_149 fX9_takeName iX9_takeName ⟨by decide, by decide⟩ rfl rfl rfl (Nat.le_of_ble_eq_true rfl) (og e4) (mc1 := 1) (ms1 := 6) (by decide) (by decide) (C_X9_takeName q1 a0 (.inr q3) e4 (qX_mk _ _)) ?_
      cases hf
      exact hk
  · replace hf := hf
    refine q_callVt (pc := 2) (E := q1.1) (S' := q1.2) mX9_needNamedItem 9 [.int a1] dX9_rename_2 kX9_179 fX9_needNamedItem iX9_needNamedItem ⟨by decide, by decide⟩ rfl rfl rfl (Nat.le_of_ble_eq_true rfl) (og e2) (mc1 := 1) (ms1 := 6) (by decide) (by decide) (C_X9_needNamedItem S a0 a1 (.inr q1) e2 (qX_mk _ _)) ?_
    cases hf
    exact hk
def F_X9_setNumber_45 (S : pS) : Option ((Int32 × pS) ⊕ (String × pS)) := some (.inr ("java/lang/IllegalArgumentException", S))
set_option maxRecDepth 100000 in
set_option maxHeartbeats 4000000 in
theorem W_X9_setNumber_45 {X : pX} {Q : pO → Nat → pF → Prop} (S : pS) (r : (Int32 × pS) ⊕ (String × pS)) (hf : F_X9_setNumber_45 S = some r) (hk : Sum.elim (fun q => Q (.inl (some (.int q.1))) q.2.1 q.2.2) (fun q => ∀ n', q.2.1 ≤ n' → Q (.inr q.1) n' (gjunk q.2.2 q.2.1)) r) : gW X mX9_setNumber 45 [none, none, none, none, none, none, none] [] S.1 S.2 Q 1 6 := by
  unfold F_X9_setNumber_45 at hf
  refine r_throw (pc := 45) "java/lang/IllegalArgumentException" 20 dX9_setNumber_45 dX9_setNumber_48 dX9_setNumber_49 dX9_setNumber_51 dX9_setNumber_54 xX9_114_118 rfl ⟨by decide, Nat.le_of_ble_eq_true rfl⟩ (by decide) (by decide) ?_
  cases hf
  exact hk
def F_X9_setNumber_116 (S : pS) (l0 : Nat) (l6 : Int32) : Option ((Int32 × pS) ⊕ (String × pS)) := (F_X9_adoptDraft S l0).bind fun q17 => some (.inl (l6, q17))
set_option maxRecDepth 100000 in
set_option maxHeartbeats 4000000 in
theorem W_X9_setNumber_116 {X : pX} {Q : pO → Nat → pF → Prop} (S : pS) (l0 : Nat) (l6 : Int32) (r : (Int32 × pS) ⊕ (String × pS)) (hf : F_X9_setNumber_116 S l0 l6 = some r) (hk : Sum.elim (fun q => Q (.inl (some (.int q.1))) q.2.1 q.2.2) (fun q => ∀ n', q.2.1 ≤ n' → Q (.inr q.1) n' (gjunk q.2.2 q.2.1)) r) : gW X mX9_setNumber 116 [some (.ref l0), none, none, none, none, none, some (.int l6)] [] S.1 S.2 Q 7 1596 := by
  unfold F_X9_setNumber_116 at hf
  refine r_aload_n (pc := 116) dX9_setNumber_116 rfl ?_
  obtain ⟨q17, e18, hf⟩ := obind hf
  refine q_callV (pc := 117) (v := none) (S' := q17) mX9_adoptDraft 9 [] dX9_setNumber_117 kX9_176 fX9_adoptDraft iX9_adoptDraft ⟨by decide, by decide⟩ rfl rfl rfl (Nat.le_of_ble_eq_true rfl) (og e18) (mc1 := 7) (ms1 := 1596) (mc2 := 0) (ms2 := 0) (by decide) (by decide) (C_X9_adoptDraft S l0 q17 e18 (qR_mk _ _)) ?_
  refine r_iload (pc := 120) dX9_setNumber_120 rfl ?_
  refine r_ireturn (pc := 122) .int dX9_setNumber_122 rfl rfl ?_
  cases hf
  exact hk
def F_X9_setNumber_78 (S : pS) (l0 : Nat) (l1 : Int32) (l2 : Int32) (l3 : Int32) (t0 : Int32) : Option ((Int32 × pS) ⊕ (String × pS)) := (oGA S l0 9 1).bind fun x7 => (oGA S l0 9 0).bind fun x9 => (F_X8_copyFrom S x7 x9).bind fun q11 => if l2 = 0 then ((oGA q11 l0 9 1).bind fun x13 => (F_X8_setValue q11 x13 l1 l3).bind fun q15 => F_X9_setNumber_116 q15 l0 t0) else ((oGA q11 l0 9 1).bind fun x19 => (F_X8_setDay q11 x19 l1 l3).bind fun q21 => F_X9_setNumber_116 q21 l0 t0)
set_option maxRecDepth 100000 in
set_option maxHeartbeats 4000000 in
theorem W_X9_setNumber_78 {X : pX} {Q : pO → Nat → pF → Prop} (S : pS) (l0 : Nat) (l1 : Int32) (l2 : Int32) (l3 : Int32) (t0 : Int32) (r : (Int32 × pS) ⊕ (String × pS)) (hf : F_X9_setNumber_78 S l0 l1 l2 l3 t0 = some r) (hk : Sum.elim (fun q => Q (.inl (some (.int q.1))) q.2.1 q.2.2) (fun q => ∀ n', q.2.1 ≤ n' → Q (.inr q.1) n' (gjunk q.2.2 q.2.1)) r) : gW X mX9_setNumber 78 [some (.ref l0), some (.int l1), some (.int l2), some (.int l3), none, none, none] [.int t0] S.1 S.2 Q 7 1596 := by
  unfold F_X9_setNumber_78 at hf
  refine r_istore (pc := 78) dX9_setNumber_78 (by decide) ?_
  change gW _ _ _ [some (.ref l0), some (.int l1), some (.int l2), some (.int l3), none, none, some (.int t0)] _ _ _ _ _ _
  refine r_aload_n (pc := 80) dX9_setNumber_80 rfl ?_
  obtain ⟨x7, e8, hf⟩ := obind hf
  refine q_getA (pc := 81) dX9_setNumber_81 gX9_16 e8 ?_
  refine r_aload_n (pc := 84) dX9_setNumber_84 rfl ?_
  obtain ⟨x9, e10, hf⟩ := obind hf
  refine q_getA (pc := 85) dX9_setNumber_85 gX9_12 e10 ?_
  obtain ⟨q11, e12, hf⟩ := obind hf
  refine q_callV (pc := 88) (v := none) (S' := q11) mX8_copyFrom 8 [.ref x9] dX9_setNumber_88 kX9_165 fX8_copyFrom iX8_copyFrom ⟨by decide, by decide⟩ rfl rfl rfl (Nat.le_of_ble_eq_true rfl) (og e12) (mc1 := 0) (ms1 := 0) (mc2 := 7) (ms2 := 1596) (by decide) (by decide) (C_X8_copyFrom S x7 x9 q11 e12 (qR_mk _ _)) ?_
  refine r_iload_n (pc := 91) dX9_setNumber_91 rfl ?_
  refine r_if_eq (pc := 92) 107 dX9_setNumber_92 (by decide) (fun hc => ?_) (fun hc => ?_)
  · rw [if_pos hc] at hf
    refine r_aload_n (pc := 107) dX9_setNumber_107 rfl ?_
    obtain ⟨x13, e14, hf⟩ := obind hf
    refine q_getA (pc := 108) dX9_setNumber_108 gX9_16 e14 ?_
    refine r_iload_n (pc := 111) dX9_setNumber_111 rfl ?_
    refine r_iload_n (pc := 112) dX9_setNumber_112 rfl ?_
    obtain ⟨q15, e16, hf⟩ := obind hf
    refine q_callV (pc := 113) (v := none) (S' := q15) mX8_setValue 8 [.int l1, .int l3] dX9_setNumber_113 kX9_265 fX8_setValue iX8_setValue ⟨by decide, by decide⟩ rfl rfl rfl (Nat.le_of_ble_eq_true rfl) (og e16) (mc1 := 0) (ms1 := 0) (mc2 := 7) (ms2 := 1596) (by decide) (by decide) (C_X8_setValue q11 x13 l1 l3 q15 e16 (qR_mk _ _)) ?_
    refine gW.mono (mc := 7) (ms := 1596) ?_ (fun _ _ _ q => q) (by decide) (by decide)
    exact gW.weak (by simp [gle]) (W_X9_setNumber_116 q15 l0 t0 r hf hk)
  · rw [if_neg hc] at hf
    refine r_aload_n (pc := 95) dX9_setNumber_95 rfl ?_
    obtain ⟨x19, e20, hf⟩ := obind hf
    refine q_getA (pc := 96) dX9_setNumber_96 gX9_16 e20 ?_
    refine r_iload_n (pc := 99) dX9_setNumber_99 rfl ?_
    refine r_iload_n (pc := 100) dX9_setNumber_100 rfl ?_
    obtain ⟨q21, e22, hf⟩ := obind hf
    refine q_callV (pc := 101) (v := none) (S' := q21) mX8_setDay 8 [.int l1, .int l3] dX9_setNumber_101 kX9_262 fX8_setDay iX8_setDay ⟨by decide, by decide⟩ rfl rfl rfl (Nat.le_of_ble_eq_true rfl) (og e22) (mc1 := 0) (ms1 := 0) (mc2 := 7) (ms2 := 1596) (by decide) (by decide) (C_X8_setDay q11 x19 l1 l3 q21 e22 (qR_mk _ _)) ?_
    refine r_goto (pc := 104) 116 dX9_setNumber_104 (by decide) ?_
    refine gW.mono (mc := 7) (ms := 1596) ?_ (fun _ _ _ q => q) (by decide) (by decide)
    exact gW.weak (by simp [gle]) (W_X9_setNumber_116 q21 l0 t0 r hf hk)
def F_X9_setNumber_31 (S : pS) (l0 : Nat) (l1 : Int32) (l2 : Int32) (l3 : Int32) (l4 : Int32) (t0 : Int32) : Option ((Int32 × pS) ⊕ (String × pS)) := if l3 < l4 then (F_X9_setNumber_45 S) else (if l3 ≤ t0 then (if l2 = 0 then ((oGA S l0 9 0).bind fun x3 => (F_X8_valueOf S x3 l1).bind fun q5 => F_X9_setNumber_78 S l0 l1 l2 l3 q5) else ((oGA S l0 9 0).bind fun x23 => (F_X8_dayOf S x23 l1).bind fun q25 => F_X9_setNumber_78 S l0 l1 l2 l3 q25)) else (F_X9_setNumber_45 S))
set_option maxRecDepth 100000 in
set_option maxHeartbeats 4000000 in
theorem W_X9_setNumber_31 {X : pX} {Q : pO → Nat → pF → Prop} (S : pS) (l0 : Nat) (l1 : Int32) (l2 : Int32) (l3 : Int32) (l4 : Int32) (t0 : Int32) (r : (Int32 × pS) ⊕ (String × pS)) (hf : F_X9_setNumber_31 S l0 l1 l2 l3 l4 t0 = some r) (hk : Sum.elim (fun q => Q (.inl (some (.int q.1))) q.2.1 q.2.2) (fun q => ∀ n', q.2.1 ≤ n' → Q (.inr q.1) n' (gjunk q.2.2 q.2.1)) r) : gW X mX9_setNumber 31 [some (.ref l0), some (.int l1), some (.int l2), some (.int l3), some (.int l4), none, none] [.int t0] S.1 S.2 Q 7 1596 := by
  unfold F_X9_setNumber_31 at hf
  refine r_istore (pc := 31) dX9_setNumber_31 (by decide) ?_
  change gW _ _ _ [some (.ref l0), some (.int l1), some (.int l2), some (.int l3), some (.int l4), some (.int t0), none] _ _ _ _ _ _
  refine r_iload_n (pc := 33) dX9_setNumber_33 rfl ?_
  refine r_iload (pc := 34) dX9_setNumber_34 rfl ?_
  refine r_icmp_lt (pc := 36) 45 dX9_setNumber_36 (by decide) (fun hc => ?_) (fun hc => ?_)
  · rw [if_pos hc] at hf
    refine gW.mono (mc := 1) (ms := 6) ?_ (fun _ _ _ q => q) (by decide) (by decide)
    exact gW.weak (by simp [gle]) (W_X9_setNumber_45 S r hf hk)
  · rw [if_neg hc] at hf
    refine r_iload_n (pc := 39) dX9_setNumber_39 rfl ?_
    refine r_iload (pc := 40) dX9_setNumber_40 rfl ?_
    refine r_icmp_le (pc := 42) 55 dX9_setNumber_42 (by decide) (fun hc => ?_) (fun hc => ?_)
    · rw [if_pos hc] at hf
      refine r_iload_n (pc := 55) dX9_setNumber_55 rfl ?_
      refine r_if_eq (pc := 56) 70 dX9_setNumber_56 (by decide) (fun hc => ?_) (fun hc => ?_)
      · rw [if_pos hc] at hf
        refine r_aload_n (pc := 70) dX9_setNumber_70 rfl ?_
        obtain ⟨x3, e4, hf⟩ := obind hf
        refine q_getA (pc := 71) dX9_setNumber_71 gX9_12 e4 ?_
        refine r_iload_n (pc := 74) dX9_setNumber_74 rfl ?_
        obtain ⟨q5, e6, hf⟩ := obind hf
        refine q_callV (pc := 75) (v := some (.int q5)) (S' := S) mX8_valueOf 8 [.int l1] dX9_setNumber_75 kX9_259 fX8_valueOf iX8_valueOf ⟨by decide, by decide⟩ rfl rfl rfl (Nat.le_of_ble_eq_true rfl) (og e6) (mc1 := 0) (ms1 := 0) (mc2 := 7) (ms2 := 1596) (by decide) (by decide) (C_X8_valueOf S x3 l1 q5 e6 (qR_mk _ _)) ?_
        change gW _ _ _ _ (.int q5 :: _) _ _ _ _ _
        refine gW.mono (mc := 7) (ms := 1596) ?_ (fun _ _ _ q => q) (by decide) (by decide)
        exact gW.weak (by simp [gle]) (W_X9_setNumber_78 S l0 l1 l2 l3 q5 r hf hk)
      · rw [if_neg hc] at hf
        refine r_aload_n (pc := 59) dX9_setNumber_59 rfl ?_
        obtain ⟨x23, e24, hf⟩ := obind hf
        refine q_getA (pc := 60) dX9_setNumber_60 gX9_12 e24 ?_
        refine r_iload_n (pc := 63) dX9_setNumber_63 rfl ?_
        obtain ⟨q25, e26, hf⟩ := obind hf
        refine q_callV (pc := 64) (v := some (.int q25)) (S' := S) mX8_dayOf 8 [.int l1] dX9_setNumber_64 kX9_256 fX8_dayOf iX8_dayOf ⟨by decide, by decide⟩ rfl rfl rfl (Nat.le_of_ble_eq_true rfl) (og e26) (mc1 := 0) (ms1 := 0) (mc2 := 7) (ms2 := 1596) (by decide) (by decide) (C_X8_dayOf S x23 l1 q25 e26 (qR_mk _ _)) ?_
        change gW _ _ _ _ (.int q25 :: _) _ _ _ _ _
        refine r_goto (pc := 67) 78 dX9_setNumber_67 (by decide) ?_
        refine gW.mono (mc := 7) (ms := 1596) ?_ (fun _ _ _ q => q) (by decide) (by decide)
        exact gW.weak (by simp [gle]) (W_X9_setNumber_78 S l0 l1 l2 l3 q25 r hf hk)
    · rw [if_neg hc] at hf
      refine gW.mono (mc := 1) (ms := 6) ?_ (fun _ _ _ q => q) (by decide) (by decide)
      exact gW.weak (by simp [gle]) (W_X9_setNumber_45 S r hf hk)
def F_X9_setNumber_16 (S : pS) (l0 : Nat) (l1 : Int32) (l2 : Int32) (l3 : Int32) (t0 : Int32) : Option ((Int32 × pS) ⊕ (String × pS)) := if l2 = 0 then (F_X9_setNumber_31 S l0 l1 l2 l3 t0 (999 : Int32)) else (F_X9_setNumber_31 S l0 l1 l2 l3 t0 (9999 : Int32))
set_option maxRecDepth 100000 in
set_option maxHeartbeats 4000000 in
theorem W_X9_setNumber_16 {X : pX} {Q : pO → Nat → pF → Prop} (S : pS) (l0 : Nat) (l1 : Int32) (l2 : Int32) (l3 : Int32) (t0 : Int32) (r : (Int32 × pS) ⊕ (String × pS)) (hf : F_X9_setNumber_16 S l0 l1 l2 l3 t0 = some r) (hk : Sum.elim (fun q => Q (.inl (some (.int q.1))) q.2.1 q.2.2) (fun q => ∀ n', q.2.1 ≤ n' → Q (.inr q.1) n' (gjunk q.2.2 q.2.1)) r) : gW X mX9_setNumber 16 [some (.ref l0), some (.int l1), some (.int l2), some (.int l3), none, none, none] [.int t0] S.1 S.2 Q 7 1596 := by
  unfold F_X9_setNumber_16 at hf
  refine r_istore (pc := 16) dX9_setNumber_16 (by decide) ?_
  change gW _ _ _ [some (.ref l0), some (.int l1), some (.int l2), some (.int l3), some (.int t0), none, none] _ _ _ _ _ _
  refine r_iload_n (pc := 18) dX9_setNumber_18 rfl ?_
  refine r_if_eq (pc := 19) 28 dX9_setNumber_19 (by decide) (fun hc => ?_) (fun hc => ?_)
  · rw [if_pos hc] at hf
    refine r_sipush (pc := 28) (999 : Int32) dX9_setNumber_28 (by decide) ?_
    refine gW.mono (mc := 7) (ms := 1596) ?_ (fun _ _ _ q => q) (by decide) (by decide)
    exact gW.weak (by simp [gle]) (W_X9_setNumber_31 S l0 l1 l2 l3 t0 (999 : Int32) r hf hk)
  · rw [if_neg hc] at hf
    refine r_sipush (pc := 22) (9999 : Int32) dX9_setNumber_22 (by decide) ?_
    refine r_goto (pc := 25) 31 dX9_setNumber_25 (by decide) ?_
    refine gW.mono (mc := 7) (ms := 1596) ?_ (fun _ _ _ q => q) (by decide) (by decide)
    exact gW.weak (by simp [gle]) (W_X9_setNumber_31 S l0 l1 l2 l3 t0 (9999 : Int32) r hf hk)
def F_X9_setNumber (S : pS) (a0 : Nat) (a1 : Int32) (a2 : Int32) (a3 : Int32) : Option ((Int32 × pS) ⊕ (String × pS)) := (oF S a0 9).bind fun _ => (F_X9_needItem S a0 a1).bind fun q1 => Sum.elim (fun q1 => if a2 = 0 then (F_X9_setNumber_16 q1 a0 a1 a2 a3 (-999 : Int32)) else (F_X9_setNumber_16 q1 a0 a1 a2 a3 (-1 : Int32))) (fun q1 => some (.inr q1)) q1
set_option maxRecDepth 100000 in
set_option maxHeartbeats 4000000 in
theorem C_X9_setNumber {X : pX} {Q : pO → Nat → pF → Prop} (S : pS) (a0 : Nat) (a1 : Int32) (a2 : Int32) (a3 : Int32) (r : (Int32 × pS) ⊕ (String × pS)) (hf : F_X9_setNumber S a0 a1 a2 a3 = some r) (hk : Sum.elim (fun q => Q (.inl (some (.int q.1))) q.2.1 q.2.2) (fun q => ∀ n', q.2.1 ≤ n' → Q (.inr q.1) n' (gjunk q.2.2 q.2.1)) r) : gC X mX9_setNumber [.ref a0, .int a1, .int a2, .int a3] S.1 S.2 Q 8 1602 := by
  refine gC_of (by decide) (Nat.le_of_ble_eq_true rfl) ?_
  change gW _ _ _ [some (.ref a0), some (.int a1), some (.int a2), some (.int a3), none, none, none] _ _ _ _ _ _
  unfold F_X9_setNumber at hf
  obtain ⟨_, _, hf⟩ := obind hf
  refine r_aload_n (pc := 0) dX9_setNumber_0 rfl ?_
  refine r_iload_n (pc := 1) dX9_setNumber_1 rfl ?_
  obtain ⟨q1, e2, hf⟩ := obind hf
  rcases q1 with q1 | q1
  · replace hf := hf
    refine q_callV (pc := 2) (v := none) (S' := q1) mX9_needItem 9 [.int a1] dX9_setNumber_2 kX9_137 fX9_needItem iX9_needItem ⟨by decide, by decide⟩ rfl rfl rfl (Nat.le_of_ble_eq_true rfl) (og e2) (mc1 := 1) (ms1 := 6) (mc2 := 7) (ms2 := 1596) (by decide) (by decide) (C_X9_needItem S a0 a1 (.inl q1) e2 (qR_mk _ _)) ?_
    refine r_iload_n (pc := 5) dX9_setNumber_5 rfl ?_
    refine r_if_eq (pc := 6) 13 dX9_setNumber_6 (by decide) (fun hc => ?_) (fun hc => ?_)
    · rw [if_pos hc] at hf
      refine r_sipush (pc := 13) (-999 : Int32) dX9_setNumber_13 (by decide) ?_
      refine gW.mono (mc := 7) (ms := 1596) ?_ (fun _ _ _ q => q) (by decide) (by decide)
      exact gW.weak (by simp [gle]) (W_X9_setNumber_16 q1 a0 a1 a2 a3 (-999 : Int32) r hf hk)
    · rw [if_neg hc] at hf
      refine r_iconst (pc := 9) (-1 : Int32) dX9_setNumber_9 (by decide) ?_
      refine r_goto (pc := 10) 16 dX9_setNumber_10 (by decide) ?_
      refine gW.mono (mc := 7) (ms := 1596) ?_ (fun _ _ _ q => q) (by decide) (by decide)
      exact gW.weak (by simp [gle]) (W_X9_setNumber_16 q1 a0 a1 a2 a3 (-1 : Int32) r hf hk)
  · replace hf := hf
    refine q_callVt (pc := 2) (E := q1.1) (S' := q1.2) mX9_needItem 9 [.int a1] dX9_setNumber_2 kX9_137 fX9_needItem iX9_needItem ⟨by decide, by decide⟩ rfl rfl rfl (Nat.le_of_ble_eq_true rfl) (og e2) (mc1 := 1) (ms1 := 6) (by decide) (by decide) (C_X9_needItem S a0 a1 (.inr q1) e2 (qX_mk _ _)) ?_
    cases hf
    exact hk
def F_X9_setFlag_68 (S : pS) (l0 : Nat) (l4 : Int32) : Option ((Int32 × pS) ⊕ (String × pS)) := (F_X9_adoptDraft S l0).bind fun q19 => (oZ l4).bind fun x21 => some (.inl (x21, q19))
set_option maxRecDepth 100000 in
set_option maxHeartbeats 4000000 in
theorem W_X9_setFlag_68 {X : pX} {Q : pO → Nat → pF → Prop} (S : pS) (l0 : Nat) (l4 : Int32) (r : (Int32 × pS) ⊕ (String × pS)) (hf : F_X9_setFlag_68 S l0 l4 = some r) (hk : Sum.elim (fun q => Q (.inl (some (.int q.1))) q.2.1 q.2.2) (fun q => ∀ n', q.2.1 ≤ n' → Q (.inr q.1) n' (gjunk q.2.2 q.2.1)) r) : gW X mX9_setFlag 68 [some (.ref l0), none, none, none, some (.int l4)] [] S.1 S.2 Q 7 1596 := by
  unfold F_X9_setFlag_68 at hf
  refine r_aload_n (pc := 68) dX9_setFlag_68 rfl ?_
  obtain ⟨q19, e20, hf⟩ := obind hf
  refine q_callV (pc := 69) (v := none) (S' := q19) mX9_adoptDraft 9 [] dX9_setFlag_69 kX9_176 fX9_adoptDraft iX9_adoptDraft ⟨by decide, by decide⟩ rfl rfl rfl (Nat.le_of_ble_eq_true rfl) (og e20) (mc1 := 7) (ms1 := 1596) (mc2 := 0) (ms2 := 0) (by decide) (by decide) (C_X9_adoptDraft S l0 q19 e20 (qR_mk _ _)) ?_
  refine r_iload (pc := 72) dX9_setFlag_72 rfl ?_
  obtain ⟨x21, e22, hf⟩ := obind hf
  obtain ⟨rfl, e22⟩ := oZ_some e22
  refine r_ireturn (pc := 74) .boolean dX9_setFlag_74 rfl e22 ?_
  cases hf
  exact hk
def F_X9_setFlag_26 (S : pS) (l0 : Nat) (l1 : Int32) (l2 : Int32) (l3 : Int32) (t0 : Int64) : Option ((Int32 × pS) ⊕ (String × pS)) := (F_X9_contains S t0 l1).bind fun q7 => (oGA S l0 9 1).bind fun x9 => (oGA S l0 9 0).bind fun x11 => (F_X8_copyFrom S x9 x11).bind fun q13 => if l2 = 0 then ((oGA q13 l0 9 1).bind fun x15 => (F_X8_setDone q13 x15 l1 l3).bind fun q17 => F_X9_setFlag_68 q17 l0 q7) else ((oGA q13 l0 9 1).bind fun x23 => (F_X8_setFolded q13 x23 l1 l3).bind fun q25 => F_X9_setFlag_68 q25 l0 q7)
set_option maxRecDepth 100000 in
set_option maxHeartbeats 4000000 in
theorem W_X9_setFlag_26 {X : pX} {Q : pO → Nat → pF → Prop} (S : pS) (l0 : Nat) (l1 : Int32) (l2 : Int32) (l3 : Int32) (t0 : Int64) (r : (Int32 × pS) ⊕ (String × pS)) (hf : F_X9_setFlag_26 S l0 l1 l2 l3 t0 = some r) (hk : Sum.elim (fun q => Q (.inl (some (.int q.1))) q.2.1 q.2.2) (fun q => ∀ n', q.2.1 ≤ n' → Q (.inr q.1) n' (gjunk q.2.2 q.2.1)) r) : gW X mX9_setFlag 26 [some (.ref l0), some (.int l1), some (.int l2), some (.int l3), none] [.long t0] S.1 S.2 Q 7 1596 := by
  unfold F_X9_setFlag_26 at hf
  refine r_iload_n (pc := 26) dX9_setFlag_26 rfl ?_
  obtain ⟨q7, e8, hf⟩ := obind hf
  refine q_callS (pc := 27) (v := some (.int q7)) (S' := S) mX9_contains [.long t0, .int l1] dX9_setFlag_27 kX9_275 fX9_contains sX9_contains ⟨by decide, by decide⟩ rfl rfl (Nat.le_of_ble_eq_true rfl) (mc1 := 0) (ms1 := 0) (mc2 := 7) (ms2 := 1596) (by decide) (by decide) (C_X9_contains S t0 l1 q7 e8 (qR_mk _ _)) ?_
  change gW _ _ _ _ (.int q7 :: _) _ _ _ _ _
  refine r_istore (pc := 30) dX9_setFlag_30 (by decide) ?_
  change gW _ _ _ [some (.ref l0), some (.int l1), some (.int l2), some (.int l3), some (.int q7)] _ _ _ _ _ _
  refine r_aload_n (pc := 32) dX9_setFlag_32 rfl ?_
  obtain ⟨x9, e10, hf⟩ := obind hf
  refine q_getA (pc := 33) dX9_setFlag_33 gX9_16 e10 ?_
  refine r_aload_n (pc := 36) dX9_setFlag_36 rfl ?_
  obtain ⟨x11, e12, hf⟩ := obind hf
  refine q_getA (pc := 37) dX9_setFlag_37 gX9_12 e12 ?_
  obtain ⟨q13, e14, hf⟩ := obind hf
  refine q_callV (pc := 40) (v := none) (S' := q13) mX8_copyFrom 8 [.ref x11] dX9_setFlag_40 kX9_165 fX8_copyFrom iX8_copyFrom ⟨by decide, by decide⟩ rfl rfl rfl (Nat.le_of_ble_eq_true rfl) (og e14) (mc1 := 0) (ms1 := 0) (mc2 := 7) (ms2 := 1596) (by decide) (by decide) (C_X8_copyFrom S x9 x11 q13 e14 (qR_mk _ _)) ?_
  refine r_iload_n (pc := 43) dX9_setFlag_43 rfl ?_
  refine r_if_eq (pc := 44) 59 dX9_setFlag_44 (by decide) (fun hc => ?_) (fun hc => ?_)
  · rw [if_pos hc] at hf
    refine r_aload_n (pc := 59) dX9_setFlag_59 rfl ?_
    obtain ⟨x15, e16, hf⟩ := obind hf
    refine q_getA (pc := 60) dX9_setFlag_60 gX9_16 e16 ?_
    refine r_iload_n (pc := 63) dX9_setFlag_63 rfl ?_
    refine r_iload_n (pc := 64) dX9_setFlag_64 rfl ?_
    obtain ⟨q17, e18, hf⟩ := obind hf
    refine q_callV (pc := 65) (v := none) (S' := q17) mX8_setDone 8 [.int l1, .int l3] dX9_setFlag_65 kX9_283 fX8_setDone iX8_setDone ⟨by decide, by decide⟩ rfl rfl rfl (Nat.le_of_ble_eq_true rfl) (og e18) (mc1 := 0) (ms1 := 0) (mc2 := 7) (ms2 := 1596) (by decide) (by decide) (C_X8_setDone q13 x15 l1 l3 q17 e18 (qR_mk _ _)) ?_
    refine gW.mono (mc := 7) (ms := 1596) ?_ (fun _ _ _ q => q) (by decide) (by decide)
    exact gW.weak (by simp [gle]) (W_X9_setFlag_68 q17 l0 q7 r hf hk)
  · rw [if_neg hc] at hf
    refine r_aload_n (pc := 47) dX9_setFlag_47 rfl ?_
    obtain ⟨x23, e24, hf⟩ := obind hf
    refine q_getA (pc := 48) dX9_setFlag_48 gX9_16 e24 ?_
    refine r_iload_n (pc := 51) dX9_setFlag_51 rfl ?_
    refine r_iload_n (pc := 52) dX9_setFlag_52 rfl ?_
    obtain ⟨q25, e26, hf⟩ := obind hf
    refine q_callV (pc := 53) (v := none) (S' := q25) mX8_setFolded 8 [.int l1, .int l3] dX9_setFlag_53 kX9_279 fX8_setFolded iX8_setFolded ⟨by decide, by decide⟩ rfl rfl rfl (Nat.le_of_ble_eq_true rfl) (og e26) (mc1 := 0) (ms1 := 0) (mc2 := 7) (ms2 := 1596) (by decide) (by decide) (C_X8_setFolded q13 x23 l1 l3 q25 e26 (qR_mk _ _)) ?_
    refine r_goto (pc := 56) 68 dX9_setFlag_56 (by decide) ?_
    refine gW.mono (mc := 7) (ms := 1596) ?_ (fun _ _ _ q => q) (by decide) (by decide)
    exact gW.weak (by simp [gle]) (W_X9_setFlag_68 q25 l0 q7 r hf hk)
def F_X9_setFlag (S : pS) (a0 : Nat) (a1 : Int32) (a2 : Int32) (a3 : Int32) : Option ((Int32 × pS) ⊕ (String × pS)) := (oF S a0 9).bind fun _ => (F_X9_needItem S a0 a1).bind fun q1 => Sum.elim (fun q1 => if a2 = 0 then ((oGA q1 a0 9 0).bind fun x3 => (F_X8_doneItems q1 x3).bind fun q5 => F_X9_setFlag_26 q1 a0 a1 a2 a3 q5) else ((oGA q1 a0 9 0).bind fun x27 => (F_X8_foldedItems q1 x27).bind fun q29 => F_X9_setFlag_26 q1 a0 a1 a2 a3 q29)) (fun q1 => some (.inr q1)) q1
set_option maxRecDepth 100000 in
set_option maxHeartbeats 4000000 in
theorem C_X9_setFlag {X : pX} {Q : pO → Nat → pF → Prop} (S : pS) (a0 : Nat) (a1 : Int32) (a2 : Int32) (a3 : Int32) (r : (Int32 × pS) ⊕ (String × pS)) (hf : F_X9_setFlag S a0 a1 a2 a3 = some r) (hk : Sum.elim (fun q => Q (.inl (some (.int q.1))) q.2.1 q.2.2) (fun q => ∀ n', q.2.1 ≤ n' → Q (.inr q.1) n' (gjunk q.2.2 q.2.1)) r) : gC X mX9_setFlag [.ref a0, .int a1, .int a2, .int a3] S.1 S.2 Q 8 1602 := by
  refine gC_of (by decide) (Nat.le_of_ble_eq_true rfl) ?_
  change gW _ _ _ [some (.ref a0), some (.int a1), some (.int a2), some (.int a3), none] _ _ _ _ _ _
  unfold F_X9_setFlag at hf
  obtain ⟨_, _, hf⟩ := obind hf
  refine r_aload_n (pc := 0) dX9_setFlag_0 rfl ?_
  refine r_iload_n (pc := 1) dX9_setFlag_1 rfl ?_
  obtain ⟨q1, e2, hf⟩ := obind hf
  rcases q1 with q1 | q1
  · replace hf := hf
    refine q_callV (pc := 2) (v := none) (S' := q1) mX9_needItem 9 [.int a1] dX9_setFlag_2 kX9_137 fX9_needItem iX9_needItem ⟨by decide, by decide⟩ rfl rfl rfl (Nat.le_of_ble_eq_true rfl) (og e2) (mc1 := 1) (ms1 := 6) (mc2 := 7) (ms2 := 1596) (by decide) (by decide) (C_X9_needItem S a0 a1 (.inl q1) e2 (qR_mk _ _)) ?_
    refine r_iload_n (pc := 5) dX9_setFlag_5 rfl ?_
    refine r_if_eq (pc := 6) 19 dX9_setFlag_6 (by decide) (fun hc => ?_) (fun hc => ?_)
    · rw [if_pos hc] at hf
      refine r_aload_n (pc := 19) dX9_setFlag_19 rfl ?_
      obtain ⟨x3, e4, hf⟩ := obind hf
      refine q_getA (pc := 20) dX9_setFlag_20 gX9_12 e4 ?_
      obtain ⟨q5, e6, hf⟩ := obind hf
      refine q_callV (pc := 23) (v := some (.long q5)) (S' := q1) mX8_doneItems 8 [] dX9_setFlag_23 kX9_272 fX8_doneItems iX8_doneItems ⟨by decide, by decide⟩ rfl rfl rfl (Nat.le_of_ble_eq_true rfl) (og e6) (mc1 := 0) (ms1 := 0) (mc2 := 7) (ms2 := 1596) (by decide) (by decide) (C_X8_doneItems q1 x3 q5 e6 (qR_mk _ _)) ?_
      change gW _ _ _ _ (.long q5 :: _) _ _ _ _ _
      refine gW.mono (mc := 7) (ms := 1596) ?_ (fun _ _ _ q => q) (by decide) (by decide)
      exact gW.weak (by simp [gle]) (W_X9_setFlag_26 q1 a0 a1 a2 a3 q5 r hf hk)
    · rw [if_neg hc] at hf
      refine r_aload_n (pc := 9) dX9_setFlag_9 rfl ?_
      obtain ⟨x27, e28, hf⟩ := obind hf
      refine q_getA (pc := 10) dX9_setFlag_10 gX9_12 e28 ?_
      obtain ⟨q29, e30, hf⟩ := obind hf
      refine q_callV (pc := 13) (v := some (.long q29)) (S' := q1) mX8_foldedItems 8 [] dX9_setFlag_13 kX9_268 fX8_foldedItems iX8_foldedItems ⟨by decide, by decide⟩ rfl rfl rfl (Nat.le_of_ble_eq_true rfl) (og e30) (mc1 := 0) (ms1 := 0) (mc2 := 7) (ms2 := 1596) (by decide) (by decide) (C_X8_foldedItems q1 x27 q29 e30 (qR_mk _ _)) ?_
      change gW _ _ _ _ (.long q29 :: _) _ _ _ _ _
      refine r_goto (pc := 16) 26 dX9_setFlag_16 (by decide) ?_
      refine gW.mono (mc := 7) (ms := 1596) ?_ (fun _ _ _ q => q) (by decide) (by decide)
      exact gW.weak (by simp [gle]) (W_X9_setFlag_26 q1 a0 a1 a2 a3 q29 r hf hk)
  · replace hf := hf
    refine q_callVt (pc := 2) (E := q1.1) (S' := q1.2) mX9_needItem 9 [.int a1] dX9_setFlag_2 kX9_137 fX9_needItem iX9_needItem ⟨by decide, by decide⟩ rfl rfl rfl (Nat.le_of_ble_eq_true rfl) (og e2) (mc1 := 1) (ms1 := 6) (by decide) (by decide) (C_X9_needItem S a0 a1 (.inr q1) e2 (qX_mk _ _)) ?_
    cases hf
    exact hk
def F_X9_countLeaves (S : pS) (a0 : Nat) (a1 : Int32) : Option (Int32) := (oF S a0 9).bind fun _ => (oGA S a0 9 3).bind fun x1 => (F_X6_familyOf S x1 a1).bind fun q3 => (oGA S a0 9 0).bind fun x5 => (F_X8_leafItems S x5).bind fun q7 => (F_J13_bitCount_95d88 S (q3 &&& q7)).bind fun q9 => some q9
set_option maxRecDepth 100000 in
set_option maxHeartbeats 4000000 in
theorem C_X9_countLeaves {X : pX} {Q : pO → Nat → pF → Prop} (S : pS) (a0 : Nat) (a1 : Int32) (r : Int32) (hf : F_X9_countLeaves S a0 a1 = some r) (hk : Q (.inl (some (.int r))) S.1 S.2) : gC X mX9_countLeaves [.ref a0, .int a1] S.1 S.2 Q 0 0 := by
  refine gC_of (by decide) (Nat.le_of_ble_eq_true rfl) ?_
  change gW _ _ _ [some (.ref a0), some (.int a1)] _ _ _ _ _ _
  unfold F_X9_countLeaves at hf
  obtain ⟨_, _, hf⟩ := obind hf
  refine r_aload_n (pc := 0) dX9_countLeaves_0 rfl ?_
  obtain ⟨x1, e2, hf⟩ := obind hf
  refine q_getA (pc := 1) dX9_countLeaves_1 gX9_25 e2 ?_
  refine r_iload_n (pc := 4) dX9_countLeaves_4 rfl ?_
  obtain ⟨q3, e4, hf⟩ := obind hf
  refine q_callV (pc := 5) (v := some (.long q3)) (S' := S) mX6_familyOf 6 [.int a1] dX9_countLeaves_5 kX9_198 fX6_familyOf iX6_familyOf ⟨by decide, by decide⟩ rfl rfl rfl (Nat.le_of_ble_eq_true rfl) (og e4) (mc1 := 0) (ms1 := 0) (mc2 := 0) (ms2 := 0) (by decide) (by decide) (C_X6_familyOf S x1 a1 q3 e4 (qR_mk _ _)) ?_
  change gW _ _ _ _ (.long q3 :: _) _ _ _ _ _
  refine r_aload_n (pc := 8) dX9_countLeaves_8 rfl ?_
  obtain ⟨x5, e6, hf⟩ := obind hf
  refine q_getA (pc := 9) dX9_countLeaves_9 gX9_12 e6 ?_
  obtain ⟨q7, e8, hf⟩ := obind hf
  refine q_callV (pc := 12) (v := some (.long q7)) (S' := S) mX8_leafItems 8 [] dX9_countLeaves_12 kX9_450 fX8_leafItems iX8_leafItems ⟨by decide, by decide⟩ rfl rfl rfl (Nat.le_of_ble_eq_true rfl) (og e8) (mc1 := 0) (ms1 := 0) (mc2 := 0) (ms2 := 0) (by decide) (by decide) (C_X8_leafItems S x5 q7 e8 (qR_mk _ _)) ?_
  change gW _ _ _ _ (.long q7 :: _) _ _ _ _ _
  refine r_land (pc := 15) dX9_countLeaves_15 ?_
  obtain ⟨q9, e10, hf⟩ := obind hf
  refine q_callS (pc := 16) (v := some (.int q9)) (S' := S) mJ13_bitCount_95d88 [.long (q3 &&& q7)] dX9_countLeaves_16 kX9_289 fJ13_bitCount_95d88 sJ13_bitCount_95d88 ⟨by decide, by decide⟩ rfl rfl (Nat.le_of_ble_eq_true rfl) (mc1 := 0) (ms1 := 0) (mc2 := 0) (ms2 := 0) (by decide) (by decide) (C_J13_bitCount_95d88 S (q3 &&& q7) q9 e10 (qR_mk _ _)) ?_
  change gW _ _ _ _ (.int q9 :: _) _ _ _ _ _
  refine r_ireturn (pc := 19) .int dX9_countLeaves_19 rfl rfl ?_
  cases hf
  exact hk
def F_X9_countDoneLeaves (S : pS) (a0 : Nat) (a1 : Int32) : Option (Int32) := (oF S a0 9).bind fun _ => (oGA S a0 9 3).bind fun x1 => (F_X6_familyOf S x1 a1).bind fun q3 => (oGA S a0 9 0).bind fun x5 => (F_X8_leafItems S x5).bind fun q7 => (oGA S a0 9 0).bind fun x9 => (F_X8_doneItems S x9).bind fun q11 => (F_J13_bitCount_95d88 S ((q3 &&& q7) &&& q11)).bind fun q13 => some q13
set_option maxRecDepth 100000 in
set_option maxHeartbeats 4000000 in
theorem C_X9_countDoneLeaves {X : pX} {Q : pO → Nat → pF → Prop} (S : pS) (a0 : Nat) (a1 : Int32) (r : Int32) (hf : F_X9_countDoneLeaves S a0 a1 = some r) (hk : Q (.inl (some (.int r))) S.1 S.2) : gC X mX9_countDoneLeaves [.ref a0, .int a1] S.1 S.2 Q 0 0 := by
  refine gC_of (by decide) (Nat.le_of_ble_eq_true rfl) ?_
  change gW _ _ _ [some (.ref a0), some (.int a1)] _ _ _ _ _ _
  unfold F_X9_countDoneLeaves at hf
  obtain ⟨_, _, hf⟩ := obind hf
  refine r_aload_n (pc := 0) dX9_countDoneLeaves_0 rfl ?_
  obtain ⟨x1, e2, hf⟩ := obind hf
  refine q_getA (pc := 1) dX9_countDoneLeaves_1 gX9_25 e2 ?_
  refine r_iload_n (pc := 4) dX9_countDoneLeaves_4 rfl ?_
  obtain ⟨q3, e4, hf⟩ := obind hf
  refine q_callV (pc := 5) (v := some (.long q3)) (S' := S) mX6_familyOf 6 [.int a1] dX9_countDoneLeaves_5 kX9_198 fX6_familyOf iX6_familyOf ⟨by decide, by decide⟩ rfl rfl rfl (Nat.le_of_ble_eq_true rfl) (og e4) (mc1 := 0) (ms1 := 0) (mc2 := 0) (ms2 := 0) (by decide) (by decide) (C_X6_familyOf S x1 a1 q3 e4 (qR_mk _ _)) ?_
  change gW _ _ _ _ (.long q3 :: _) _ _ _ _ _
  refine r_aload_n (pc := 8) dX9_countDoneLeaves_8 rfl ?_
  obtain ⟨x5, e6, hf⟩ := obind hf
  refine q_getA (pc := 9) dX9_countDoneLeaves_9 gX9_12 e6 ?_
  obtain ⟨q7, e8, hf⟩ := obind hf
  refine q_callV (pc := 12) (v := some (.long q7)) (S' := S) mX8_leafItems 8 [] dX9_countDoneLeaves_12 kX9_450 fX8_leafItems iX8_leafItems ⟨by decide, by decide⟩ rfl rfl rfl (Nat.le_of_ble_eq_true rfl) (og e8) (mc1 := 0) (ms1 := 0) (mc2 := 0) (ms2 := 0) (by decide) (by decide) (C_X8_leafItems S x5 q7 e8 (qR_mk _ _)) ?_
  change gW _ _ _ _ (.long q7 :: _) _ _ _ _ _
  refine r_land (pc := 15) dX9_countDoneLeaves_15 ?_
  refine r_aload_n (pc := 16) dX9_countDoneLeaves_16 rfl ?_
  obtain ⟨x9, e10, hf⟩ := obind hf
  refine q_getA (pc := 17) dX9_countDoneLeaves_17 gX9_12 e10 ?_
  obtain ⟨q11, e12, hf⟩ := obind hf
  refine q_callV (pc := 20) (v := some (.long q11)) (S' := S) mX8_doneItems 8 [] dX9_countDoneLeaves_20 kX9_272 fX8_doneItems iX8_doneItems ⟨by decide, by decide⟩ rfl rfl rfl (Nat.le_of_ble_eq_true rfl) (og e12) (mc1 := 0) (ms1 := 0) (mc2 := 0) (ms2 := 0) (by decide) (by decide) (C_X8_doneItems S x9 q11 e12 (qR_mk _ _)) ?_
  change gW _ _ _ _ (.long q11 :: _) _ _ _ _ _
  refine r_land (pc := 23) dX9_countDoneLeaves_23 ?_
  obtain ⟨q13, e14, hf⟩ := obind hf
  refine q_callS (pc := 24) (v := some (.int q13)) (S' := S) mJ13_bitCount_95d88 [.long ((q3 &&& q7) &&& q11)] dX9_countDoneLeaves_24 kX9_289 fJ13_bitCount_95d88 sJ13_bitCount_95d88 ⟨by decide, by decide⟩ rfl rfl (Nat.le_of_ble_eq_true rfl) (mc1 := 0) (ms1 := 0) (mc2 := 0) (ms2 := 0) (by decide) (by decide) (C_J13_bitCount_95d88 S ((q3 &&& q7) &&& q11) q13 e14 (qR_mk _ _)) ?_
  change gW _ _ _ _ (.int q13 :: _) _ _ _ _ _
  refine r_ireturn (pc := 27) .int dX9_countDoneLeaves_27 rfl rfl ?_
  cases hf
  exact hk
def F_X9_item (S : pS) (a0 : Nat) (a1 : Int32) (a2 : Int32) : Option ((Int32 × pS) ⊕ (String × pS)) := (oF S a0 9).bind fun _ => (F_X9_needItem S a0 a1).bind fun q1 => Sum.elim (fun q1 => if a2 = (0 : Int32) then ((oGA q1 a0 9 3).bind fun x3 => (F_X6_parentsOf q1 x3 a1).bind fun q5 => some (.inl (q5, q1))) else if a2 = (1 : Int32) then ((oGA q1 a0 9 0).bind fun x7 => (F_X8_childCount q1 x7 a1).bind fun q9 => some (.inl (q9, q1))) else if a2 = (2 : Int32) then ((oGA q1 a0 9 3).bind fun x11 => (F_X6_placesOf q1 x11 a1).bind fun q13 => some (.inl (q13, q1))) else if a2 = (3 : Int32) then ((oGA q1 a0 9 0).bind fun x15 => (F_X8_nameLength q1 x15 a1).bind fun q17 => some (.inl (q17, q1))) else if a2 = (4 : Int32) then ((oGA q1 a0 9 0).bind fun x19 => (F_X8_valueOf q1 x19 a1).bind fun q21 => some (.inl (q21, q1))) else if a2 = (5 : Int32) then ((oGA q1 a0 9 0).bind fun x23 => (F_X8_dayOf q1 x23 a1).bind fun q25 => some (.inl (q25, q1))) else if a2 = (6 : Int32) then ((oGA q1 a0 9 0).bind fun x27 => (F_X8_doneItems q1 x27).bind fun q29 => (F_X9_contains q1 q29 a1).bind fun q31 => if q31 = 0 then (some (.inl ((0 : Int32), q1))) else (some (.inl ((1 : Int32), q1)))) else if a2 = (7 : Int32) then ((oGA q1 a0 9 0).bind fun x33 => (F_X8_foldedItems q1 x33).bind fun q35 => (F_X9_contains q1 q35 a1).bind fun q37 => if q37 = 0 then (some (.inl ((0 : Int32), q1))) else (some (.inl ((1 : Int32), q1)))) else if a2 = (8 : Int32) then ((oGA q1 a0 9 3).bind fun x39 => (F_X6_familyOf q1 x39 a1).bind fun q41 => (F_J13_bitCount_95d88 q1 q41).bind fun q43 => some (.inl (q43, q1))) else if a2 = (9 : Int32) then ((oGA q1 a0 9 0).bind fun x45 => (oGA q1 a0 9 3).bind fun x47 => (F_X6_familyOf q1 x47 a1).bind fun q49 => (F_X8_sumOf q1 x45 q49).bind fun q51 => some (.inl (q51, q1))) else if a2 = (10 : Int32) then ((oGA q1 a0 9 0).bind fun x53 => (oGA q1 a0 9 3).bind fun x55 => (F_X6_familyOf q1 x55 a1).bind fun q57 => (F_X8_earliestDay q1 x53 q57).bind fun q59 => some (.inl (q59, q1))) else if a2 = (11 : Int32) then ((oGA q1 a0 9 0).bind fun x61 => (oGA q1 a0 9 3).bind fun x63 => (F_X6_familyOf q1 x63 a1).bind fun q65 => (F_X8_latestDay q1 x61 q65).bind fun q67 => some (.inl (q67, q1))) else if a2 = (12 : Int32) then ((F_X9_countLeaves q1 a0 a1).bind fun q69 => some (.inl (q69, q1))) else if a2 = (13 : Int32) then ((F_X9_countDoneLeaves q1 a0 a1).bind fun q71 => some (.inl (q71, q1))) else if a2 = (14 : Int32) then ((oGA q1 a0 9 3).bind fun x73 => (F_X6_placesBelow q1 x73 a1).bind fun q75 => some (.inl (q75, q1))) else (some (.inr ("java/lang/IllegalArgumentException", q1)))) (fun q1 => some (.inr q1)) q1
set_option maxRecDepth 100000 in
set_option maxHeartbeats 4000000 in
theorem C_X9_item {X : pX} {Q : pO → Nat → pF → Prop} (S : pS) (a0 : Nat) (a1 : Int32) (a2 : Int32) (r : (Int32 × pS) ⊕ (String × pS)) (hf : F_X9_item S a0 a1 a2 = some r) (hk : Sum.elim (fun q => Q (.inl (some (.int q.1))) q.2.1 q.2.2) (fun q => ∀ n', q.2.1 ≤ n' → Q (.inr q.1) n' (gjunk q.2.2 q.2.1)) r) : gC X mX9_item [.ref a0, .int a1, .int a2] S.1 S.2 Q 2 12 := by
  refine gC_of (by decide) (Nat.le_of_ble_eq_true rfl) ?_
  change gW _ _ _ [some (.ref a0), some (.int a1), some (.int a2)] _ _ _ _ _ _
  unfold F_X9_item at hf
  obtain ⟨_, _, hf⟩ := obind hf
  refine r_aload_n (pc := 0) dX9_item_0 rfl ?_
  refine r_iload_n (pc := 1) dX9_item_1 rfl ?_
  obtain ⟨q1, e2, hf⟩ := obind hf
  rcases q1 with q1 | q1
  · replace hf := hf
    refine q_callV (pc := 2) (v := none) (S' := q1) mX9_needItem 9 [.int a1] dX9_item_2 kX9_137 fX9_needItem iX9_needItem ⟨by decide, by decide⟩ rfl rfl rfl (Nat.le_of_ble_eq_true rfl) (og e2) (mc1 := 1) (ms1 := 6) (mc2 := 1) (ms2 := 6) (by decide) (by decide) (C_X9_needItem S a0 a1 (.inl q1) e2 (qR_mk _ _)) ?_
    refine r_iload_n (pc := 5) dX9_item_5 rfl ?_
    by_cases hc0 : a2 = (0 : Int32)
    · rw [if_pos hc0] at hf
      refine r_tableIn (pc := 6) 80 dX9_item_6 (by rw [hc0]; decide) (by rw [hc0]; decide) (off := 74) (by rw [hc0]; rfl) (by decide) ?_
      refine r_aload_n (pc := 80) dX9_item_80 rfl ?_
      obtain ⟨x3, e4, hf⟩ := obind hf
      refine q_getA (pc := 81) dX9_item_81 gX9_25 e4 ?_
      refine r_iload_n (pc := 84) dX9_item_84 rfl ?_
      obtain ⟨q5, e6, hf⟩ := obind hf
      refine q_callV (pc := 85) (v := some (.int q5)) (S' := q1) mX6_parentsOf 6 [.int a1] dX9_item_85 kX9_286 fX6_parentsOf iX6_parentsOf ⟨by decide, by decide⟩ rfl rfl rfl (Nat.le_of_ble_eq_true rfl) (og e6) (mc1 := 0) (ms1 := 0) (mc2 := 0) (ms2 := 0) (by decide) (by decide) (C_X6_parentsOf q1 x3 a1 q5 e6 (qR_mk _ _)) ?_
      change gW _ _ _ _ (.int q5 :: _) _ _ _ _ _
      refine r_ireturn (pc := 88) .int dX9_item_88 rfl rfl ?_
      cases hf
      exact hk
    rw [if_neg hc0] at hf
    by_cases hc1 : a2 = (1 : Int32)
    · rw [if_pos hc1] at hf
      refine r_tableIn (pc := 6) 89 dX9_item_6 (by rw [hc1]; decide) (by rw [hc1]; decide) (off := 83) (by rw [hc1]; rfl) (by decide) ?_
      refine r_aload_n (pc := 89) dX9_item_89 rfl ?_
      obtain ⟨x7, e8, hf⟩ := obind hf
      refine q_getA (pc := 90) dX9_item_90 gX9_12 e8 ?_
      refine r_iload_n (pc := 93) dX9_item_93 rfl ?_
      obtain ⟨q9, e10, hf⟩ := obind hf
      refine q_callV (pc := 94) (v := some (.int q9)) (S' := q1) mX8_childCount 8 [.int a1] dX9_item_94 kX9_141 fX8_childCount iX8_childCount ⟨by decide, by decide⟩ rfl rfl rfl (Nat.le_of_ble_eq_true rfl) (og e10) (mc1 := 0) (ms1 := 0) (mc2 := 0) (ms2 := 0) (by decide) (by decide) (C_X8_childCount q1 x7 a1 q9 e10 (qR_mk _ _)) ?_
      change gW _ _ _ _ (.int q9 :: _) _ _ _ _ _
      refine r_ireturn (pc := 97) .int dX9_item_97 rfl rfl ?_
      cases hf
      exact hk
    rw [if_neg hc1] at hf
    by_cases hc2 : a2 = (2 : Int32)
    · rw [if_pos hc2] at hf
      refine r_tableIn (pc := 6) 98 dX9_item_6 (by rw [hc2]; decide) (by rw [hc2]; decide) (off := 92) (by rw [hc2]; rfl) (by decide) ?_
      refine r_aload_n (pc := 98) dX9_item_98 rfl ?_
      obtain ⟨x11, e12, hf⟩ := obind hf
      refine q_getA (pc := 99) dX9_item_99 gX9_25 e12 ?_
      refine r_iload_n (pc := 102) dX9_item_102 rfl ?_
      obtain ⟨q13, e14, hf⟩ := obind hf
      refine q_callV (pc := 103) (v := some (.int q13)) (S' := q1) mX6_placesOf 6 [.int a1] dX9_item_103 kX9_186 fX6_placesOf iX6_placesOf ⟨by decide, by decide⟩ rfl rfl rfl (Nat.le_of_ble_eq_true rfl) (og e14) (mc1 := 0) (ms1 := 0) (mc2 := 0) (ms2 := 0) (by decide) (by decide) (C_X6_placesOf q1 x11 a1 q13 e14 (qR_mk _ _)) ?_
      change gW _ _ _ _ (.int q13 :: _) _ _ _ _ _
      refine r_ireturn (pc := 106) .int dX9_item_106 rfl rfl ?_
      cases hf
      exact hk
    rw [if_neg hc2] at hf
    by_cases hc3 : a2 = (3 : Int32)
    · rw [if_pos hc3] at hf
      refine r_tableIn (pc := 6) 107 dX9_item_6 (by rw [hc3]; decide) (by rw [hc3]; decide) (off := 101) (by rw [hc3]; rfl) (by decide) ?_
      refine r_aload_n (pc := 107) dX9_item_107 rfl ?_
      obtain ⟨x15, e16, hf⟩ := obind hf
      refine q_getA (pc := 108) dX9_item_108 gX9_12 e16 ?_
      refine r_iload_n (pc := 111) dX9_item_111 rfl ?_
      obtain ⟨q17, e18, hf⟩ := obind hf
      refine q_callV (pc := 112) (v := some (.int q17)) (S' := q1) mX8_nameLength 8 [.int a1] dX9_item_112 kX9_247 fX8_nameLength iX8_nameLength ⟨by decide, by decide⟩ rfl rfl rfl (Nat.le_of_ble_eq_true rfl) (og e18) (mc1 := 0) (ms1 := 0) (mc2 := 0) (ms2 := 0) (by decide) (by decide) (C_X8_nameLength q1 x15 a1 q17 e18 (qR_mk _ _)) ?_
      change gW _ _ _ _ (.int q17 :: _) _ _ _ _ _
      refine r_ireturn (pc := 115) .int dX9_item_115 rfl rfl ?_
      cases hf
      exact hk
    rw [if_neg hc3] at hf
    by_cases hc4 : a2 = (4 : Int32)
    · rw [if_pos hc4] at hf
      refine r_tableIn (pc := 6) 116 dX9_item_6 (by rw [hc4]; decide) (by rw [hc4]; decide) (off := 110) (by rw [hc4]; rfl) (by decide) ?_
      refine r_aload_n (pc := 116) dX9_item_116 rfl ?_
      obtain ⟨x19, e20, hf⟩ := obind hf
      refine q_getA (pc := 117) dX9_item_117 gX9_12 e20 ?_
      refine r_iload_n (pc := 120) dX9_item_120 rfl ?_
      obtain ⟨q21, e22, hf⟩ := obind hf
      refine q_callV (pc := 121) (v := some (.int q21)) (S' := q1) mX8_valueOf 8 [.int a1] dX9_item_121 kX9_259 fX8_valueOf iX8_valueOf ⟨by decide, by decide⟩ rfl rfl rfl (Nat.le_of_ble_eq_true rfl) (og e22) (mc1 := 0) (ms1 := 0) (mc2 := 0) (ms2 := 0) (by decide) (by decide) (C_X8_valueOf q1 x19 a1 q21 e22 (qR_mk _ _)) ?_
      change gW _ _ _ _ (.int q21 :: _) _ _ _ _ _
      refine r_ireturn (pc := 124) .int dX9_item_124 rfl rfl ?_
      cases hf
      exact hk
    rw [if_neg hc4] at hf
    by_cases hc5 : a2 = (5 : Int32)
    · rw [if_pos hc5] at hf
      refine r_tableIn (pc := 6) 125 dX9_item_6 (by rw [hc5]; decide) (by rw [hc5]; decide) (off := 119) (by rw [hc5]; rfl) (by decide) ?_
      refine r_aload_n (pc := 125) dX9_item_125 rfl ?_
      obtain ⟨x23, e24, hf⟩ := obind hf
      refine q_getA (pc := 126) dX9_item_126 gX9_12 e24 ?_
      refine r_iload_n (pc := 129) dX9_item_129 rfl ?_
      obtain ⟨q25, e26, hf⟩ := obind hf
      refine q_callV (pc := 130) (v := some (.int q25)) (S' := q1) mX8_dayOf 8 [.int a1] dX9_item_130 kX9_256 fX8_dayOf iX8_dayOf ⟨by decide, by decide⟩ rfl rfl rfl (Nat.le_of_ble_eq_true rfl) (og e26) (mc1 := 0) (ms1 := 0) (mc2 := 0) (ms2 := 0) (by decide) (by decide) (C_X8_dayOf q1 x23 a1 q25 e26 (qR_mk _ _)) ?_
      change gW _ _ _ _ (.int q25 :: _) _ _ _ _ _
      refine r_ireturn (pc := 133) .int dX9_item_133 rfl rfl ?_
      cases hf
      exact hk
    rw [if_neg hc5] at hf
    by_cases hc6 : a2 = (6 : Int32)
    · rw [if_pos hc6] at hf
      refine r_tableIn (pc := 6) 134 dX9_item_6 (by rw [hc6]; decide) (by rw [hc6]; decide) (off := 128) (by rw [hc6]; rfl) (by decide) ?_
      refine r_aload_n (pc := 134) dX9_item_134 rfl ?_
      obtain ⟨x27, e28, hf⟩ := obind hf
      refine q_getA (pc := 135) dX9_item_135 gX9_12 e28 ?_
      obtain ⟨q29, e30, hf⟩ := obind hf
      refine q_callV (pc := 138) (v := some (.long q29)) (S' := q1) mX8_doneItems 8 [] dX9_item_138 kX9_272 fX8_doneItems iX8_doneItems ⟨by decide, by decide⟩ rfl rfl rfl (Nat.le_of_ble_eq_true rfl) (og e30) (mc1 := 0) (ms1 := 0) (mc2 := 0) (ms2 := 0) (by decide) (by decide) (C_X8_doneItems q1 x27 q29 e30 (qR_mk _ _)) ?_
      change gW _ _ _ _ (.long q29 :: _) _ _ _ _ _
      refine r_iload_n (pc := 141) dX9_item_141 rfl ?_
      obtain ⟨q31, e32, hf⟩ := obind hf
      refine q_callS (pc := 142) (v := some (.int q31)) (S' := q1) mX9_contains [.long q29, .int a1] dX9_item_142 kX9_275 fX9_contains sX9_contains ⟨by decide, by decide⟩ rfl rfl (Nat.le_of_ble_eq_true rfl) (mc1 := 0) (ms1 := 0) (mc2 := 0) (ms2 := 0) (by decide) (by decide) (C_X9_contains q1 q29 a1 q31 e32 (qR_mk _ _)) ?_
      change gW _ _ _ _ (.int q31 :: _) _ _ _ _ _
      refine r_if_eq (pc := 145) 152 dX9_item_145 (by decide) (fun hc => ?_) (fun hc => ?_)
      · rw [if_pos hc] at hf
        refine r_iconst (pc := 152) (0 : Int32) dX9_item_152 (by decide) ?_
        refine r_ireturn (pc := 153) .int dX9_item_153 rfl rfl ?_
        cases hf
        exact hk
      · rw [if_neg hc] at hf
        refine r_iconst (pc := 148) (1 : Int32) dX9_item_148 (by decide) ?_
        refine r_goto (pc := 149) 153 dX9_item_149 (by decide) ?_
        refine r_ireturn (pc := 153) .int dX9_item_153 rfl rfl ?_
        cases hf
        exact hk
    rw [if_neg hc6] at hf
    by_cases hc7 : a2 = (7 : Int32)
    · rw [if_pos hc7] at hf
      refine r_tableIn (pc := 6) 154 dX9_item_6 (by rw [hc7]; decide) (by rw [hc7]; decide) (off := 148) (by rw [hc7]; rfl) (by decide) ?_
      refine r_aload_n (pc := 154) dX9_item_154 rfl ?_
      obtain ⟨x33, e34, hf⟩ := obind hf
      refine q_getA (pc := 155) dX9_item_155 gX9_12 e34 ?_
      obtain ⟨q35, e36, hf⟩ := obind hf
      refine q_callV (pc := 158) (v := some (.long q35)) (S' := q1) mX8_foldedItems 8 [] dX9_item_158 kX9_268 fX8_foldedItems iX8_foldedItems ⟨by decide, by decide⟩ rfl rfl rfl (Nat.le_of_ble_eq_true rfl) (og e36) (mc1 := 0) (ms1 := 0) (mc2 := 0) (ms2 := 0) (by decide) (by decide) (C_X8_foldedItems q1 x33 q35 e36 (qR_mk _ _)) ?_
      change gW _ _ _ _ (.long q35 :: _) _ _ _ _ _
      refine r_iload_n (pc := 161) dX9_item_161 rfl ?_
      obtain ⟨q37, e38, hf⟩ := obind hf
      refine q_callS (pc := 162) (v := some (.int q37)) (S' := q1) mX9_contains [.long q35, .int a1] dX9_item_162 kX9_275 fX9_contains sX9_contains ⟨by decide, by decide⟩ rfl rfl (Nat.le_of_ble_eq_true rfl) (mc1 := 0) (ms1 := 0) (mc2 := 0) (ms2 := 0) (by decide) (by decide) (C_X9_contains q1 q35 a1 q37 e38 (qR_mk _ _)) ?_
      change gW _ _ _ _ (.int q37 :: _) _ _ _ _ _
      refine r_if_eq (pc := 165) 172 dX9_item_165 (by decide) (fun hc => ?_) (fun hc => ?_)
      · rw [if_pos hc] at hf
        refine r_iconst (pc := 172) (0 : Int32) dX9_item_172 (by decide) ?_
        refine r_ireturn (pc := 173) .int dX9_item_173 rfl rfl ?_
        cases hf
        exact hk
      · rw [if_neg hc] at hf
        refine r_iconst (pc := 168) (1 : Int32) dX9_item_168 (by decide) ?_
        refine r_goto (pc := 169) 173 dX9_item_169 (by decide) ?_
        refine r_ireturn (pc := 173) .int dX9_item_173 rfl rfl ?_
        cases hf
        exact hk
    rw [if_neg hc7] at hf
    by_cases hc8 : a2 = (8 : Int32)
    · rw [if_pos hc8] at hf
      refine r_tableIn (pc := 6) 174 dX9_item_6 (by rw [hc8]; decide) (by rw [hc8]; decide) (off := 168) (by rw [hc8]; rfl) (by decide) ?_
      refine r_aload_n (pc := 174) dX9_item_174 rfl ?_
      obtain ⟨x39, e40, hf⟩ := obind hf
      refine q_getA (pc := 175) dX9_item_175 gX9_25 e40 ?_
      refine r_iload_n (pc := 178) dX9_item_178 rfl ?_
      obtain ⟨q41, e42, hf⟩ := obind hf
      refine q_callV (pc := 179) (v := some (.long q41)) (S' := q1) mX6_familyOf 6 [.int a1] dX9_item_179 kX9_198 fX6_familyOf iX6_familyOf ⟨by decide, by decide⟩ rfl rfl rfl (Nat.le_of_ble_eq_true rfl) (og e42) (mc1 := 0) (ms1 := 0) (mc2 := 0) (ms2 := 0) (by decide) (by decide) (C_X6_familyOf q1 x39 a1 q41 e42 (qR_mk _ _)) ?_
      change gW _ _ _ _ (.long q41 :: _) _ _ _ _ _
      obtain ⟨q43, e44, hf⟩ := obind hf
      refine q_callS (pc := 182) (v := some (.int q43)) (S' := q1) mJ13_bitCount_95d88 [.long q41] dX9_item_182 kX9_289 fJ13_bitCount_95d88 sJ13_bitCount_95d88 ⟨by decide, by decide⟩ rfl rfl (Nat.le_of_ble_eq_true rfl) (mc1 := 0) (ms1 := 0) (mc2 := 0) (ms2 := 0) (by decide) (by decide) (C_J13_bitCount_95d88 q1 q41 q43 e44 (qR_mk _ _)) ?_
      change gW _ _ _ _ (.int q43 :: _) _ _ _ _ _
      refine r_ireturn (pc := 185) .int dX9_item_185 rfl rfl ?_
      cases hf
      exact hk
    rw [if_neg hc8] at hf
    by_cases hc9 : a2 = (9 : Int32)
    · rw [if_pos hc9] at hf
      refine r_tableIn (pc := 6) 186 dX9_item_6 (by rw [hc9]; decide) (by rw [hc9]; decide) (off := 180) (by rw [hc9]; rfl) (by decide) ?_
      refine r_aload_n (pc := 186) dX9_item_186 rfl ?_
      obtain ⟨x45, e46, hf⟩ := obind hf
      refine q_getA (pc := 187) dX9_item_187 gX9_12 e46 ?_
      refine r_aload_n (pc := 190) dX9_item_190 rfl ?_
      obtain ⟨x47, e48, hf⟩ := obind hf
      refine q_getA (pc := 191) dX9_item_191 gX9_25 e48 ?_
      refine r_iload_n (pc := 194) dX9_item_194 rfl ?_
      obtain ⟨q49, e50, hf⟩ := obind hf
      refine q_callV (pc := 195) (v := some (.long q49)) (S' := q1) mX6_familyOf 6 [.int a1] dX9_item_195 kX9_198 fX6_familyOf iX6_familyOf ⟨by decide, by decide⟩ rfl rfl rfl (Nat.le_of_ble_eq_true rfl) (og e50) (mc1 := 0) (ms1 := 0) (mc2 := 0) (ms2 := 0) (by decide) (by decide) (C_X6_familyOf q1 x47 a1 q49 e50 (qR_mk _ _)) ?_
      change gW _ _ _ _ (.long q49 :: _) _ _ _ _ _
      obtain ⟨q51, e52, hf⟩ := obind hf
      refine q_callV (pc := 198) (v := some (.int q51)) (S' := q1) mX8_sumOf 8 [.long q49] dX9_item_198 kX9_294 fX8_sumOf iX8_sumOf ⟨by decide, by decide⟩ rfl rfl rfl (Nat.le_of_ble_eq_true rfl) (og e52) (mc1 := 0) (ms1 := 0) (mc2 := 0) (ms2 := 0) (by decide) (by decide) (C_X8_sumOf q1 x45 q49 q51 e52 (qR_mk _ _)) ?_
      change gW _ _ _ _ (.int q51 :: _) _ _ _ _ _
      refine r_ireturn (pc := 201) .int dX9_item_201 rfl rfl ?_
      cases hf
      exact hk
    rw [if_neg hc9] at hf
    by_cases hc10 : a2 = (10 : Int32)
    · rw [if_pos hc10] at hf
      refine r_tableIn (pc := 6) 202 dX9_item_6 (by rw [hc10]; decide) (by rw [hc10]; decide) (off := 196) (by rw [hc10]; rfl) (by decide) ?_
      refine r_aload_n (pc := 202) dX9_item_202 rfl ?_
      obtain ⟨x53, e54, hf⟩ := obind hf
      refine q_getA (pc := 203) dX9_item_203 gX9_12 e54 ?_
      refine r_aload_n (pc := 206) dX9_item_206 rfl ?_
      obtain ⟨x55, e56, hf⟩ := obind hf
      refine q_getA (pc := 207) dX9_item_207 gX9_25 e56 ?_
      refine r_iload_n (pc := 210) dX9_item_210 rfl ?_
      obtain ⟨q57, e58, hf⟩ := obind hf
      refine q_callV (pc := 211) (v := some (.long q57)) (S' := q1) mX6_familyOf 6 [.int a1] dX9_item_211 kX9_198 fX6_familyOf iX6_familyOf ⟨by decide, by decide⟩ rfl rfl rfl (Nat.le_of_ble_eq_true rfl) (og e58) (mc1 := 0) (ms1 := 0) (mc2 := 0) (ms2 := 0) (by decide) (by decide) (C_X6_familyOf q1 x55 a1 q57 e58 (qR_mk _ _)) ?_
      change gW _ _ _ _ (.long q57 :: _) _ _ _ _ _
      obtain ⟨q59, e60, hf⟩ := obind hf
      refine q_callV (pc := 214) (v := some (.int q59)) (S' := q1) mX8_earliestDay 8 [.long q57] dX9_item_214 kX9_297 fX8_earliestDay iX8_earliestDay ⟨by decide, by decide⟩ rfl rfl rfl (Nat.le_of_ble_eq_true rfl) (og e60) (mc1 := 0) (ms1 := 0) (mc2 := 0) (ms2 := 0) (by decide) (by decide) (C_X8_earliestDay q1 x53 q57 q59 e60 (qR_mk _ _)) ?_
      change gW _ _ _ _ (.int q59 :: _) _ _ _ _ _
      refine r_ireturn (pc := 217) .int dX9_item_217 rfl rfl ?_
      cases hf
      exact hk
    rw [if_neg hc10] at hf
    by_cases hc11 : a2 = (11 : Int32)
    · rw [if_pos hc11] at hf
      refine r_tableIn (pc := 6) 218 dX9_item_6 (by rw [hc11]; decide) (by rw [hc11]; decide) (off := 212) (by rw [hc11]; rfl) (by decide) ?_
      refine r_aload_n (pc := 218) dX9_item_218 rfl ?_
      obtain ⟨x61, e62, hf⟩ := obind hf
      refine q_getA (pc := 219) dX9_item_219 gX9_12 e62 ?_
      refine r_aload_n (pc := 222) dX9_item_222 rfl ?_
      obtain ⟨x63, e64, hf⟩ := obind hf
      refine q_getA (pc := 223) dX9_item_223 gX9_25 e64 ?_
      refine r_iload_n (pc := 226) dX9_item_226 rfl ?_
      obtain ⟨q65, e66, hf⟩ := obind hf
      refine q_callV (pc := 227) (v := some (.long q65)) (S' := q1) mX6_familyOf 6 [.int a1] dX9_item_227 kX9_198 fX6_familyOf iX6_familyOf ⟨by decide, by decide⟩ rfl rfl rfl (Nat.le_of_ble_eq_true rfl) (og e66) (mc1 := 0) (ms1 := 0) (mc2 := 0) (ms2 := 0) (by decide) (by decide) (C_X6_familyOf q1 x63 a1 q65 e66 (qR_mk _ _)) ?_
      change gW _ _ _ _ (.long q65 :: _) _ _ _ _ _
      obtain ⟨q67, e68, hf⟩ := obind hf
      refine q_callV (pc := 230) (v := some (.int q67)) (S' := q1) mX8_latestDay 8 [.long q65] dX9_item_230 kX9_300 fX8_latestDay iX8_latestDay ⟨by decide, by decide⟩ rfl rfl rfl (Nat.le_of_ble_eq_true rfl) (og e68) (mc1 := 0) (ms1 := 0) (mc2 := 0) (ms2 := 0) (by decide) (by decide) (C_X8_latestDay q1 x61 q65 q67 e68 (qR_mk _ _)) ?_
      change gW _ _ _ _ (.int q67 :: _) _ _ _ _ _
      refine r_ireturn (pc := 233) .int dX9_item_233 rfl rfl ?_
      cases hf
      exact hk
    rw [if_neg hc11] at hf
    by_cases hc12 : a2 = (12 : Int32)
    · rw [if_pos hc12] at hf
      refine r_tableIn (pc := 6) 234 dX9_item_6 (by rw [hc12]; decide) (by rw [hc12]; decide) (off := 228) (by rw [hc12]; rfl) (by decide) ?_
      refine r_aload_n (pc := 234) dX9_item_234 rfl ?_
      refine r_iload_n (pc := 235) dX9_item_235 rfl ?_
      obtain ⟨q69, e70, hf⟩ := obind hf
      refine q_callV (pc := 236) (v := some (.int q69)) (S' := q1) mX9_countLeaves 9 [.int a1] dX9_item_236 kX9_303 fX9_countLeaves iX9_countLeaves ⟨by decide, by decide⟩ rfl rfl rfl (Nat.le_of_ble_eq_true rfl) (og e70) (mc1 := 0) (ms1 := 0) (mc2 := 0) (ms2 := 0) (by decide) (by decide) (C_X9_countLeaves q1 a0 a1 q69 e70 (qR_mk _ _)) ?_
      change gW _ _ _ _ (.int q69 :: _) _ _ _ _ _
      refine r_ireturn (pc := 239) .int dX9_item_239 rfl rfl ?_
      cases hf
      exact hk
    rw [if_neg hc12] at hf
    by_cases hc13 : a2 = (13 : Int32)
    · rw [if_pos hc13] at hf
      refine r_tableIn (pc := 6) 240 dX9_item_6 (by rw [hc13]; decide) (by rw [hc13]; decide) (off := 234) (by rw [hc13]; rfl) (by decide) ?_
      refine r_aload_n (pc := 240) dX9_item_240 rfl ?_
      refine r_iload_n (pc := 241) dX9_item_241 rfl ?_
      obtain ⟨q71, e72, hf⟩ := obind hf
      refine q_callV (pc := 242) (v := some (.int q71)) (S' := q1) mX9_countDoneLeaves 9 [.int a1] dX9_item_242 kX9_306 fX9_countDoneLeaves iX9_countDoneLeaves ⟨by decide, by decide⟩ rfl rfl rfl (Nat.le_of_ble_eq_true rfl) (og e72) (mc1 := 0) (ms1 := 0) (mc2 := 0) (ms2 := 0) (by decide) (by decide) (C_X9_countDoneLeaves q1 a0 a1 q71 e72 (qR_mk _ _)) ?_
      change gW _ _ _ _ (.int q71 :: _) _ _ _ _ _
      refine r_ireturn (pc := 245) .int dX9_item_245 rfl rfl ?_
      cases hf
      exact hk
    rw [if_neg hc13] at hf
    by_cases hc14 : a2 = (14 : Int32)
    · rw [if_pos hc14] at hf
      refine r_tableIn (pc := 6) 246 dX9_item_6 (by rw [hc14]; decide) (by rw [hc14]; decide) (off := 240) (by rw [hc14]; rfl) (by decide) ?_
      refine r_aload_n (pc := 246) dX9_item_246 rfl ?_
      obtain ⟨x73, e74, hf⟩ := obind hf
      refine q_getA (pc := 247) dX9_item_247 gX9_25 e74 ?_
      refine r_iload_n (pc := 250) dX9_item_250 rfl ?_
      obtain ⟨q75, e76, hf⟩ := obind hf
      refine q_callV (pc := 251) (v := some (.int q75)) (S' := q1) mX6_placesBelow 6 [.int a1] dX9_item_251 kX9_309 fX6_placesBelow iX6_placesBelow ⟨by decide, by decide⟩ rfl rfl rfl (Nat.le_of_ble_eq_true rfl) (og e76) (mc1 := 0) (ms1 := 0) (mc2 := 0) (ms2 := 0) (by decide) (by decide) (C_X6_placesBelow q1 x73 a1 q75 e76 (qR_mk _ _)) ?_
      change gW _ _ _ _ (.int q75 :: _) _ _ _ _ _
      refine r_ireturn (pc := 254) .int dX9_item_254 rfl rfl ?_
      cases hf
      exact hk
    rw [if_neg hc14] at hf
    refine r_tableOut (pc := 6) 255 dX9_item_6 (by
      have := tsw_out a2 (0) 15 (fun j hj => by
        match j, hj with
        | 0, _ => exact hc0
        | 1, _ => exact hc1
        | 2, _ => exact hc2
        | 3, _ => exact hc3
        | 4, _ => exact hc4
        | 5, _ => exact hc5
        | 6, _ => exact hc6
        | 7, _ => exact hc7
        | 8, _ => exact hc8
        | 9, _ => exact hc9
        | 10, _ => exact hc10
        | 11, _ => exact hc11
        | 12, _ => exact hc12
        | 13, _ => exact hc13
        | 14, _ => exact hc14
        | j + 15, hj => exact absurd hj (by omega))
      simpa using this) (by decide) ?_
    refine r_throwW (pc := 255) "java/lang/IllegalArgumentException" 21 dX9_item_255 dX9_item_258 dX9_item_259 dX9_item_262 dX9_item_265 xX9_114_118 rfl ⟨by decide, Nat.le_of_ble_eq_true rfl⟩ (by decide) (by decide) ?_
    cases hf
    exact hk
  · replace hf := hf
    refine q_callVt (pc := 2) (E := q1.1) (S' := q1.2) mX9_needItem 9 [.int a1] dX9_item_2 kX9_137 fX9_needItem iX9_needItem ⟨by decide, by decide⟩ rfl rfl rfl (Nat.le_of_ble_eq_true rfl) (og e2) (mc1 := 1) (ms1 := 6) (by decide) (by decide) (C_X9_needItem S a0 a1 (.inr q1) e2 (qX_mk _ _)) ?_
    cases hf
    exact hk
def F_X9_related_30 (S : pS) (l0 : Nat) (l1 : Int32) (l2 : Int32) (l3 : Int32) (t0 : Nat) (t1 : Int32) (t2 : Int32) : Option ((Int32 × pS) ⊕ (String × pS)) := (F_X9_needIndex S t0 t1 t2).bind fun q7 => Sum.elim (fun q7 => if l3 = 0 then ((oGA q7 l0 9 0).bind fun x9 => (F_X8_childAt q7 x9 l1 l2).bind fun q11 => some (.inl (q11, q7))) else ((oGA q7 l0 9 0).bind fun x13 => (F_X8_parentAt q7 x13 l1 l2).bind fun q15 => some (.inl (q15, q7)))) (fun q7 => some (.inr q7)) q7
set_option maxRecDepth 100000 in
set_option maxHeartbeats 4000000 in
theorem W_X9_related_30 {X : pX} {Q : pO → Nat → pF → Prop} (S : pS) (l0 : Nat) (l1 : Int32) (l2 : Int32) (l3 : Int32) (t0 : Nat) (t1 : Int32) (t2 : Int32) (r : (Int32 × pS) ⊕ (String × pS)) (hf : F_X9_related_30 S l0 l1 l2 l3 t0 t1 t2 = some r) (hk : Sum.elim (fun q => Q (.inl (some (.int q.1))) q.2.1 q.2.2) (fun q => ∀ n', q.2.1 ≤ n' → Q (.inr q.1) n' (gjunk q.2.2 q.2.1)) r) : gW X mX9_related 30 [some (.ref l0), some (.int l1), some (.int l2), some (.int l3)] [.int t2, .int t1, .ref t0] S.1 S.2 Q 1 6 := by
  unfold F_X9_related_30 at hf
  obtain ⟨q7, e8, hf⟩ := obind hf
  rcases q7 with q7 | q7
  · replace hf := hf
    refine q_callV (pc := 30) (v := none) (S' := q7) mX9_needIndex 9 [.int t1, .int t2] dX9_related_30 kX9_189 fX9_needIndex iX9_needIndex ⟨by decide, by decide⟩ rfl rfl rfl (Nat.le_of_ble_eq_true rfl) (og e8) (mc1 := 1) (ms1 := 6) (mc2 := 0) (ms2 := 0) (by decide) (by decide) (C_X9_needIndex S t0 t1 t2 (.inl q7) e8 (qR_mk _ _)) ?_
    refine r_iload_n (pc := 33) dX9_related_33 rfl ?_
    refine r_if_eq (pc := 34) 49 dX9_related_34 (by decide) (fun hc => ?_) (fun hc => ?_)
    · rw [if_pos hc] at hf
      refine r_aload_n (pc := 49) dX9_related_49 rfl ?_
      obtain ⟨x9, e10, hf⟩ := obind hf
      refine q_getA (pc := 50) dX9_related_50 gX9_12 e10 ?_
      refine r_iload_n (pc := 53) dX9_related_53 rfl ?_
      refine r_iload_n (pc := 54) dX9_related_54 rfl ?_
      obtain ⟨q11, e12, hf⟩ := obind hf
      refine q_callV (pc := 55) (v := some (.int q11)) (S' := q7) mX8_childAt 8 [.int l1, .int l2] dX9_related_55 kX9_232 fX8_childAt iX8_childAt ⟨by decide, by decide⟩ rfl rfl rfl (Nat.le_of_ble_eq_true rfl) (og e12) (mc1 := 0) (ms1 := 0) (mc2 := 0) (ms2 := 0) (by decide) (by decide) (C_X8_childAt q7 x9 l1 l2 q11 e12 (qR_mk _ _)) ?_
      change gW _ _ _ _ (.int q11 :: _) _ _ _ _ _
      refine r_ireturn (pc := 58) .int dX9_related_58 rfl rfl ?_
      cases hf
      exact hk
    · rw [if_neg hc] at hf
      refine r_aload_n (pc := 37) dX9_related_37 rfl ?_
      obtain ⟨x13, e14, hf⟩ := obind hf
      refine q_getA (pc := 38) dX9_related_38 gX9_12 e14 ?_
      refine r_iload_n (pc := 41) dX9_related_41 rfl ?_
      refine r_iload_n (pc := 42) dX9_related_42 rfl ?_
      obtain ⟨q15, e16, hf⟩ := obind hf
      refine q_callV (pc := 43) (v := some (.int q15)) (S' := q7) mX8_parentAt 8 [.int l1, .int l2] dX9_related_43 kX9_314 fX8_parentAt iX8_parentAt ⟨by decide, by decide⟩ rfl rfl rfl (Nat.le_of_ble_eq_true rfl) (og e16) (mc1 := 0) (ms1 := 0) (mc2 := 0) (ms2 := 0) (by decide) (by decide) (C_X8_parentAt q7 x13 l1 l2 q15 e16 (qR_mk _ _)) ?_
      change gW _ _ _ _ (.int q15 :: _) _ _ _ _ _
      refine r_goto (pc := 46) 58 dX9_related_46 (by decide) ?_
      refine r_ireturn (pc := 58) .int dX9_related_58 rfl rfl ?_
      cases hf
      exact hk
  · replace hf := hf
    refine q_callVt (pc := 30) (E := q7.1) (S' := q7.2) mX9_needIndex 9 [.int t1, .int t2] dX9_related_30 kX9_189 fX9_needIndex iX9_needIndex ⟨by decide, by decide⟩ rfl rfl rfl (Nat.le_of_ble_eq_true rfl) (og e8) (mc1 := 1) (ms1 := 6) (by decide) (by decide) (C_X9_needIndex S t0 t1 t2 (.inr q7) e8 (qX_mk _ _)) ?_
    cases hf
    exact hk
def F_X9_related (S : pS) (a0 : Nat) (a1 : Int32) (a2 : Int32) (a3 : Int32) : Option ((Int32 × pS) ⊕ (String × pS)) := (oF S a0 9).bind fun _ => (F_X9_needItem S a0 a1).bind fun q1 => Sum.elim (fun q1 => if a3 = 0 then ((oGA q1 a0 9 0).bind fun x3 => (F_X8_childCount q1 x3 a1).bind fun q5 => F_X9_related_30 q1 a0 a1 a2 a3 a0 a2 q5) else ((oGA q1 a0 9 3).bind fun x17 => (F_X6_parentsOf q1 x17 a1).bind fun q19 => F_X9_related_30 q1 a0 a1 a2 a3 a0 a2 q19)) (fun q1 => some (.inr q1)) q1
set_option maxRecDepth 100000 in
set_option maxHeartbeats 4000000 in
theorem C_X9_related {X : pX} {Q : pO → Nat → pF → Prop} (S : pS) (a0 : Nat) (a1 : Int32) (a2 : Int32) (a3 : Int32) (r : (Int32 × pS) ⊕ (String × pS)) (hf : F_X9_related S a0 a1 a2 a3 = some r) (hk : Sum.elim (fun q => Q (.inl (some (.int q.1))) q.2.1 q.2.2) (fun q => ∀ n', q.2.1 ≤ n' → Q (.inr q.1) n' (gjunk q.2.2 q.2.1)) r) : gC X mX9_related [.ref a0, .int a1, .int a2, .int a3] S.1 S.2 Q 2 12 := by
  refine gC_of (by decide) (Nat.le_of_ble_eq_true rfl) ?_
  change gW _ _ _ [some (.ref a0), some (.int a1), some (.int a2), some (.int a3)] _ _ _ _ _ _
  unfold F_X9_related at hf
  obtain ⟨_, _, hf⟩ := obind hf
  refine r_aload_n (pc := 0) dX9_related_0 rfl ?_
  refine r_iload_n (pc := 1) dX9_related_1 rfl ?_
  obtain ⟨q1, e2, hf⟩ := obind hf
  rcases q1 with q1 | q1
  · replace hf := hf
    refine q_callV (pc := 2) (v := none) (S' := q1) mX9_needItem 9 [.int a1] dX9_related_2 kX9_137 fX9_needItem iX9_needItem ⟨by decide, by decide⟩ rfl rfl rfl (Nat.le_of_ble_eq_true rfl) (og e2) (mc1 := 1) (ms1 := 6) (mc2 := 1) (ms2 := 6) (by decide) (by decide) (C_X9_needItem S a0 a1 (.inl q1) e2 (qR_mk _ _)) ?_
    refine r_aload_n (pc := 5) dX9_related_5 rfl ?_
    refine r_iload_n (pc := 6) dX9_related_6 rfl ?_
    refine r_iload_n (pc := 7) dX9_related_7 rfl ?_
    refine r_if_eq (pc := 8) 22 dX9_related_8 (by decide) (fun hc => ?_) (fun hc => ?_)
    · rw [if_pos hc] at hf
      refine r_aload_n (pc := 22) dX9_related_22 rfl ?_
      obtain ⟨x3, e4, hf⟩ := obind hf
      refine q_getA (pc := 23) dX9_related_23 gX9_12 e4 ?_
      refine r_iload_n (pc := 26) dX9_related_26 rfl ?_
      obtain ⟨q5, e6, hf⟩ := obind hf
      refine q_callV (pc := 27) (v := some (.int q5)) (S' := q1) mX8_childCount 8 [.int a1] dX9_related_27 kX9_141 fX8_childCount iX8_childCount ⟨by decide, by decide⟩ rfl rfl rfl (Nat.le_of_ble_eq_true rfl) (og e6) (mc1 := 0) (ms1 := 0) (mc2 := 1) (ms2 := 6) (by decide) (by decide) (C_X8_childCount q1 x3 a1 q5 e6 (qR_mk _ _)) ?_
      change gW _ _ _ _ (.int q5 :: _) _ _ _ _ _
      refine gW.mono (mc := 1) (ms := 6) ?_ (fun _ _ _ q => q) (by decide) (by decide)
      exact gW.weak (by simp [gle]) (W_X9_related_30 q1 a0 a1 a2 a3 a0 a2 q5 r hf hk)
    · rw [if_neg hc] at hf
      refine r_aload_n (pc := 11) dX9_related_11 rfl ?_
      obtain ⟨x17, e18, hf⟩ := obind hf
      refine q_getA (pc := 12) dX9_related_12 gX9_25 e18 ?_
      refine r_iload_n (pc := 15) dX9_related_15 rfl ?_
      obtain ⟨q19, e20, hf⟩ := obind hf
      refine q_callV (pc := 16) (v := some (.int q19)) (S' := q1) mX6_parentsOf 6 [.int a1] dX9_related_16 kX9_286 fX6_parentsOf iX6_parentsOf ⟨by decide, by decide⟩ rfl rfl rfl (Nat.le_of_ble_eq_true rfl) (og e20) (mc1 := 0) (ms1 := 0) (mc2 := 1) (ms2 := 6) (by decide) (by decide) (C_X6_parentsOf q1 x17 a1 q19 e20 (qR_mk _ _)) ?_
      change gW _ _ _ _ (.int q19 :: _) _ _ _ _ _
      refine r_goto (pc := 19) 30 dX9_related_19 (by decide) ?_
      refine gW.mono (mc := 1) (ms := 6) ?_ (fun _ _ _ q => q) (by decide) (by decide)
      exact gW.weak (by simp [gle]) (W_X9_related_30 q1 a0 a1 a2 a3 a0 a2 q19 r hf hk)
  · replace hf := hf
    refine q_callVt (pc := 2) (E := q1.1) (S' := q1.2) mX9_needItem 9 [.int a1] dX9_related_2 kX9_137 fX9_needItem iX9_needItem ⟨by decide, by decide⟩ rfl rfl rfl (Nat.le_of_ble_eq_true rfl) (og e2) (mc1 := 1) (ms1 := 6) (by decide) (by decide) (C_X9_needItem S a0 a1 (.inr q1) e2 (qX_mk _ _)) ?_
    cases hf
    exact hk
def F_X9_letter (S : pS) (a0 : Nat) (a1 : Int32) (a2 : Int32) : Option ((Int32 × pS) ⊕ (String × pS)) := (oF S a0 9).bind fun _ => (F_X9_needNamedItem S a0 a1).bind fun q1 => Sum.elim (fun q1 => (oGA q1 a0 9 0).bind fun x3 => (F_X8_nameLength q1 x3 a1).bind fun q5 => (F_X9_needIndex q1 a0 a2 q5).bind fun q7 => Sum.elim (fun q7 => (oGA q7 a0 9 0).bind fun x9 => (F_X8_letterAt q7 x9 a1 a2).bind fun q11 => (oC q11).bind fun x13 => some (.inl (x13, q7))) (fun q7 => some (.inr q7)) q7) (fun q1 => some (.inr q1)) q1
set_option maxRecDepth 100000 in
set_option maxHeartbeats 4000000 in
theorem C_X9_letter {X : pX} {Q : pO → Nat → pF → Prop} (S : pS) (a0 : Nat) (a1 : Int32) (a2 : Int32) (r : (Int32 × pS) ⊕ (String × pS)) (hf : F_X9_letter S a0 a1 a2 = some r) (hk : Sum.elim (fun q => Q (.inl (some (.int q.1))) q.2.1 q.2.2) (fun q => ∀ n', q.2.1 ≤ n' → Q (.inr q.1) n' (gjunk q.2.2 q.2.1)) r) : gC X mX9_letter [.ref a0, .int a1, .int a2] S.1 S.2 Q 2 12 := by
  refine gC_of (by decide) (Nat.le_of_ble_eq_true rfl) ?_
  change gW _ _ _ [some (.ref a0), some (.int a1), some (.int a2)] _ _ _ _ _ _
  unfold F_X9_letter at hf
  obtain ⟨_, _, hf⟩ := obind hf
  refine r_aload_n (pc := 0) dX9_letter_0 rfl ?_
  refine r_iload_n (pc := 1) dX9_letter_1 rfl ?_
  obtain ⟨q1, e2, hf⟩ := obind hf
  rcases q1 with q1 | q1
  · replace hf := hf
    refine q_callV (pc := 2) (v := none) (S' := q1) mX9_needNamedItem 9 [.int a1] dX9_letter_2 kX9_179 fX9_needNamedItem iX9_needNamedItem ⟨by decide, by decide⟩ rfl rfl rfl (Nat.le_of_ble_eq_true rfl) (og e2) (mc1 := 1) (ms1 := 6) (mc2 := 1) (ms2 := 6) (by decide) (by decide) (C_X9_needNamedItem S a0 a1 (.inl q1) e2 (qR_mk _ _)) ?_
    refine r_aload_n (pc := 5) dX9_letter_5 rfl ?_
    refine r_iload_n (pc := 6) dX9_letter_6 rfl ?_
    refine r_aload_n (pc := 7) dX9_letter_7 rfl ?_
    obtain ⟨x3, e4, hf⟩ := obind hf
    refine q_getA (pc := 8) dX9_letter_8 gX9_12 e4 ?_
    refine r_iload_n (pc := 11) dX9_letter_11 rfl ?_
    obtain ⟨q5, e6, hf⟩ := obind hf
    refine q_callV (pc := 12) (v := some (.int q5)) (S' := q1) mX8_nameLength 8 [.int a1] dX9_letter_12 kX9_247 fX8_nameLength iX8_nameLength ⟨by decide, by decide⟩ rfl rfl rfl (Nat.le_of_ble_eq_true rfl) (og e6) (mc1 := 0) (ms1 := 0) (mc2 := 1) (ms2 := 6) (by decide) (by decide) (C_X8_nameLength q1 x3 a1 q5 e6 (qR_mk _ _)) ?_
    change gW _ _ _ _ (.int q5 :: _) _ _ _ _ _
    obtain ⟨q7, e8, hf⟩ := obind hf
    rcases q7 with q7 | q7
    · replace hf := hf
      refine q_callV (pc := 15) (v := none) (S' := q7) mX9_needIndex 9 [.int a2, .int q5] dX9_letter_15 kX9_189 fX9_needIndex iX9_needIndex ⟨by decide, by decide⟩ rfl rfl rfl (Nat.le_of_ble_eq_true rfl) (og e8) (mc1 := 1) (ms1 := 6) (mc2 := 0) (ms2 := 0) (by decide) (by decide) (C_X9_needIndex q1 a0 a2 q5 (.inl q7) e8 (qR_mk _ _)) ?_
      refine r_aload_n (pc := 18) dX9_letter_18 rfl ?_
      obtain ⟨x9, e10, hf⟩ := obind hf
      refine q_getA (pc := 19) dX9_letter_19 gX9_12 e10 ?_
      refine r_iload_n (pc := 22) dX9_letter_22 rfl ?_
      refine r_iload_n (pc := 23) dX9_letter_23 rfl ?_
      obtain ⟨q11, e12, hf⟩ := obind hf
      refine q_callV (pc := 24) (v := some (.int q11)) (S' := q7) mX8_letterAt 8 [.int a1, .int a2] dX9_letter_24 kX9_317 fX8_letterAt iX8_letterAt ⟨by decide, by decide⟩ rfl rfl rfl (Nat.le_of_ble_eq_true rfl) (og e12) (mc1 := 0) (ms1 := 0) (mc2 := 0) (ms2 := 0) (by decide) (by decide) (C_X8_letterAt q7 x9 a1 a2 q11 e12 (qR_mk _ _)) ?_
      change gW _ _ _ _ (.int q11 :: _) _ _ _ _ _
      obtain ⟨x13, e14, hf⟩ := obind hf
      obtain ⟨rfl, e14⟩ := oC_some e14
      refine r_ireturn (pc := 27) .char dX9_letter_27 rfl e14 ?_
      cases hf
      exact hk
    · replace hf := hf
      refine q_callVt (pc := 15) (E := q7.1) (S' := q7.2) mX9_needIndex 9 [.int a2, .int q5] dX9_letter_15 kX9_189 fX9_needIndex iX9_needIndex ⟨by decide, by decide⟩ rfl rfl rfl (Nat.le_of_ble_eq_true rfl) (og e8) (mc1 := 1) (ms1 := 6) (by decide) (by decide) (C_X9_needIndex q1 a0 a2 q5 (.inr q7) e8 (qX_mk _ _)) ?_
      cases hf
      exact hk
  · replace hf := hf
    refine q_callVt (pc := 2) (E := q1.1) (S' := q1.2) mX9_needNamedItem 9 [.int a1] dX9_letter_2 kX9_179 fX9_needNamedItem iX9_needNamedItem ⟨by decide, by decide⟩ rfl rfl rfl (Nat.le_of_ble_eq_true rfl) (og e2) (mc1 := 1) (ms1 := 6) (by decide) (by decide) (C_X9_needNamedItem S a0 a1 (.inr q1) e2 (qX_mk _ _)) ?_
    cases hf
    exact hk
def F_X9_isBelow (S : pS) (a0 : Nat) (a1 : Int32) (a2 : Int32) : Option ((Int32 × pS) ⊕ (String × pS)) := (oF S a0 9).bind fun _ => (F_X9_needItem S a0 a1).bind fun q1 => Sum.elim (fun q1 => (F_X9_needItem q1 a0 a2).bind fun q3 => Sum.elim (fun q3 => if a1 = a2 then (some (.inl ((0 : Int32), q3))) else ((oGA q3 a0 9 3).bind fun x5 => (F_X6_familyOf q3 x5 a2).bind fun q7 => (F_X9_contains q3 q7 a1).bind fun q9 => if q9 = 0 then (some (.inl ((0 : Int32), q3))) else (some (.inl ((1 : Int32), q3))))) (fun q3 => some (.inr q3)) q3) (fun q1 => some (.inr q1)) q1
set_option maxRecDepth 100000 in
set_option maxHeartbeats 4000000 in
theorem C_X9_isBelow {X : pX} {Q : pO → Nat → pF → Prop} (S : pS) (a0 : Nat) (a1 : Int32) (a2 : Int32) (r : (Int32 × pS) ⊕ (String × pS)) (hf : F_X9_isBelow S a0 a1 a2 = some r) (hk : Sum.elim (fun q => Q (.inl (some (.int q.1))) q.2.1 q.2.2) (fun q => ∀ n', q.2.1 ≤ n' → Q (.inr q.1) n' (gjunk q.2.2 q.2.1)) r) : gC X mX9_isBelow [.ref a0, .int a1, .int a2] S.1 S.2 Q 2 12 := by
  refine gC_of (by decide) (Nat.le_of_ble_eq_true rfl) ?_
  change gW _ _ _ [some (.ref a0), some (.int a1), some (.int a2)] _ _ _ _ _ _
  unfold F_X9_isBelow at hf
  obtain ⟨_, _, hf⟩ := obind hf
  refine r_aload_n (pc := 0) dX9_isBelow_0 rfl ?_
  refine r_iload_n (pc := 1) dX9_isBelow_1 rfl ?_
  obtain ⟨q1, e2, hf⟩ := obind hf
  rcases q1 with q1 | q1
  · replace hf := hf
    refine q_callV (pc := 2) (v := none) (S' := q1) mX9_needItem 9 [.int a1] dX9_isBelow_2 kX9_137 fX9_needItem iX9_needItem ⟨by decide, by decide⟩ rfl rfl rfl (Nat.le_of_ble_eq_true rfl) (og e2) (mc1 := 1) (ms1 := 6) (mc2 := 1) (ms2 := 6) (by decide) (by decide) (C_X9_needItem S a0 a1 (.inl q1) e2 (qR_mk _ _)) ?_
    refine r_aload_n (pc := 5) dX9_isBelow_5 rfl ?_
    refine r_iload_n (pc := 6) dX9_isBelow_6 rfl ?_
    obtain ⟨q3, e4, hf⟩ := obind hf
    rcases q3 with q3 | q3
    · replace hf := hf
      refine q_callV (pc := 7) (v := none) (S' := q3) mX9_needItem 9 [.int a2] dX9_isBelow_7 kX9_137 fX9_needItem iX9_needItem ⟨by decide, by decide⟩ rfl rfl rfl (Nat.le_of_ble_eq_true rfl) (og e4) (mc1 := 1) (ms1 := 6) (mc2 := 0) (ms2 := 0) (by decide) (by decide) (C_X9_needItem q1 a0 a2 (.inl q3) e4 (qR_mk _ _)) ?_
      refine r_iload_n (pc := 10) dX9_isBelow_10 rfl ?_
      refine r_iload_n (pc := 11) dX9_isBelow_11 rfl ?_
      refine r_icmp_eq (pc := 12) 34 dX9_isBelow_12 (by decide) (fun hc => ?_) (fun hc => ?_)
      · rw [if_pos hc] at hf
        refine r_iconst (pc := 34) (0 : Int32) dX9_isBelow_34 (by decide) ?_
        refine r_ireturn (pc := 35) .boolean dX9_isBelow_35 rfl rfl ?_
        cases hf
        exact hk
      · rw [if_neg hc] at hf
        refine r_aload_n (pc := 15) dX9_isBelow_15 rfl ?_
        obtain ⟨x5, e6, hf⟩ := obind hf
        refine q_getA (pc := 16) dX9_isBelow_16 gX9_25 e6 ?_
        refine r_iload_n (pc := 19) dX9_isBelow_19 rfl ?_
        obtain ⟨q7, e8, hf⟩ := obind hf
        refine q_callV (pc := 20) (v := some (.long q7)) (S' := q3) mX6_familyOf 6 [.int a2] dX9_isBelow_20 kX9_198 fX6_familyOf iX6_familyOf ⟨by decide, by decide⟩ rfl rfl rfl (Nat.le_of_ble_eq_true rfl) (og e8) (mc1 := 0) (ms1 := 0) (mc2 := 0) (ms2 := 0) (by decide) (by decide) (C_X6_familyOf q3 x5 a2 q7 e8 (qR_mk _ _)) ?_
        change gW _ _ _ _ (.long q7 :: _) _ _ _ _ _
        refine r_iload_n (pc := 23) dX9_isBelow_23 rfl ?_
        obtain ⟨q9, e10, hf⟩ := obind hf
        refine q_callS (pc := 24) (v := some (.int q9)) (S' := q3) mX9_contains [.long q7, .int a1] dX9_isBelow_24 kX9_275 fX9_contains sX9_contains ⟨by decide, by decide⟩ rfl rfl (Nat.le_of_ble_eq_true rfl) (mc1 := 0) (ms1 := 0) (mc2 := 0) (ms2 := 0) (by decide) (by decide) (C_X9_contains q3 q7 a1 q9 e10 (qR_mk _ _)) ?_
        change gW _ _ _ _ (.int q9 :: _) _ _ _ _ _
        refine r_if_eq (pc := 27) 34 dX9_isBelow_27 (by decide) (fun hc => ?_) (fun hc => ?_)
        · rw [if_pos hc] at hf
          refine r_iconst (pc := 34) (0 : Int32) dX9_isBelow_34 (by decide) ?_
          refine r_ireturn (pc := 35) .boolean dX9_isBelow_35 rfl rfl ?_
          cases hf
          exact hk
        · rw [if_neg hc] at hf
          refine r_iconst (pc := 30) (1 : Int32) dX9_isBelow_30 (by decide) ?_
          refine r_goto (pc := 31) 35 dX9_isBelow_31 (by decide) ?_
          refine r_ireturn (pc := 35) .boolean dX9_isBelow_35 rfl rfl ?_
          cases hf
          exact hk
    · replace hf := hf
      refine q_callVt (pc := 7) (E := q3.1) (S' := q3.2) mX9_needItem 9 [.int a2] dX9_isBelow_7 kX9_137 fX9_needItem iX9_needItem ⟨by decide, by decide⟩ rfl rfl rfl (Nat.le_of_ble_eq_true rfl) (og e4) (mc1 := 1) (ms1 := 6) (by decide) (by decide) (C_X9_needItem q1 a0 a2 (.inr q3) e4 (qX_mk _ _)) ?_
      cases hf
      exact hk
  · replace hf := hf
    refine q_callVt (pc := 2) (E := q1.1) (S' := q1.2) mX9_needItem 9 [.int a1] dX9_isBelow_2 kX9_137 fX9_needItem iX9_needItem ⟨by decide, by decide⟩ rfl rfl rfl (Nat.le_of_ble_eq_true rfl) (og e2) (mc1 := 1) (ms1 := 6) (by decide) (by decide) (C_X9_needItem S a0 a1 (.inr q1) e2 (qX_mk _ _)) ?_
    cases hf
    exact hk
def F_X9_outline (S : pS) (a0 : Nat) (a1 : Int32) : Option ((Int32 × pS) ⊕ (String × pS)) := (oF S a0 9).bind fun _ => if a1 = (0 : Int32) then ((oGA S a0 9 0).bind fun x1 => (F_X8_countItems S x1).bind fun q3 => some (.inl (q3, S))) else if a1 = (1 : Int32) then ((oGA S a0 9 0).bind fun x5 => (F_X8_countAdded S x5).bind fun q7 => some (.inl (q7, S))) else if a1 = (2 : Int32) then ((oGA S a0 9 3).bind fun x9 => (F_X6_placesBelow S x9 (0 : Int32)).bind fun q11 => some (.inl (q11, S))) else if a1 = (3 : Int32) then ((F_X9_countLines S a0).bind fun q13 => some (.inl (q13.1, q13.2))) else if a1 = (4 : Int32) then ((oGA S a0 9 6).bind fun x15 => (F_X4_top S x15).bind fun q17 => some (.inl (q17, S))) else if a1 = (5 : Int32) then ((oGA S a0 9 6).bind fun x19 => (F_X4_size S x19).bind fun q21 => some (.inl (q21, S))) else if a1 = (6 : Int32) then ((oGA S a0 9 7).bind fun x23 => (F_X1_size S x23).bind fun q25 => some (.inl (q25, S))) else if a1 = (7 : Int32) then ((oGA S a0 9 7).bind fun x27 => (oGA S a0 9 0).bind fun x29 => (oGA S a0 9 3).bind fun x31 => (F_X1_fittingItems S x27 x29 x31).bind fun q33 => (F_J13_bitCount_95d88 S q33).bind fun q35 => some (.inl (q35, S))) else if a1 = (8 : Int32) then ((oGA S a0 9 10).bind fun x37 => (F_X7_size S x37).bind fun q39 => some (.inl (q39, S))) else if a1 = (9 : Int32) then ((oGA S a0 9 5).bind fun x41 => (F_X3_size S x41).bind fun q43 => some (.inl (q43, S))) else if a1 = (10 : Int32) then ((oGA S a0 9 3).bind fun x45 => (F_X6_greatestDepth S x45).bind fun q47 => some (.inl (q47, S))) else (some (.inr ("java/lang/IllegalArgumentException", S)))
set_option maxRecDepth 100000 in
set_option maxHeartbeats 4000000 in
theorem C_X9_outline {X : pX} {Q : pO → Nat → pF → Prop} (S : pS) (a0 : Nat) (a1 : Int32) (r : (Int32 × pS) ⊕ (String × pS)) (hf : F_X9_outline S a0 a1 = some r) (hk : Sum.elim (fun q => Q (.inl (some (.int q.1))) q.2.1 q.2.2) (fun q => ∀ n', q.2.1 ≤ n' → Q (.inr q.1) n' (gjunk q.2.2 q.2.1)) r) : gC X mX9_outline [.ref a0, .int a1] S.1 S.2 Q 1 6 := by
  refine gC_of (by decide) (Nat.le_of_ble_eq_true rfl) ?_
  change gW _ _ _ [some (.ref a0), some (.int a1)] _ _ _ _ _ _
  unfold F_X9_outline at hf
  obtain ⟨_, _, hf⟩ := obind hf
  refine r_iload_n (pc := 0) dX9_outline_0 rfl ?_
  by_cases hc0 : a1 = (0 : Int32)
  · rw [if_pos hc0] at hf
    refine r_tableIn (pc := 1) 60 dX9_outline_1 (by rw [hc0]; decide) (by rw [hc0]; decide) (off := 59) (by rw [hc0]; rfl) (by decide) ?_
    refine r_aload_n (pc := 60) dX9_outline_60 rfl ?_
    obtain ⟨x1, e2, hf⟩ := obind hf
    refine q_getA (pc := 61) dX9_outline_61 gX9_12 e2 ?_
    obtain ⟨q3, e4, hf⟩ := obind hf
    refine q_callV (pc := 64) (v := some (.int q3)) (S' := S) mX8_countItems 8 [] dX9_outline_64 kX9_97 fX8_countItems iX8_countItems ⟨by decide, by decide⟩ rfl rfl rfl (Nat.le_of_ble_eq_true rfl) (og e4) (mc1 := 0) (ms1 := 0) (mc2 := 0) (ms2 := 0) (by decide) (by decide) (C_X8_countItems S x1 q3 e4 (qR_mk _ _)) ?_
    change gW _ _ _ _ (.int q3 :: _) _ _ _ _ _
    refine r_ireturn (pc := 67) .int dX9_outline_67 rfl rfl ?_
    cases hf
    exact hk
  rw [if_neg hc0] at hf
  by_cases hc1 : a1 = (1 : Int32)
  · rw [if_pos hc1] at hf
    refine r_tableIn (pc := 1) 68 dX9_outline_1 (by rw [hc1]; decide) (by rw [hc1]; decide) (off := 67) (by rw [hc1]; rfl) (by decide) ?_
    refine r_aload_n (pc := 68) dX9_outline_68 rfl ?_
    obtain ⟨x5, e6, hf⟩ := obind hf
    refine q_getA (pc := 69) dX9_outline_69 gX9_12 e6 ?_
    obtain ⟨q7, e8, hf⟩ := obind hf
    refine q_callV (pc := 72) (v := some (.int q7)) (S' := S) mX8_countAdded 8 [] dX9_outline_72 kX9_321 fX8_countAdded iX8_countAdded ⟨by decide, by decide⟩ rfl rfl rfl (Nat.le_of_ble_eq_true rfl) (og e8) (mc1 := 0) (ms1 := 0) (mc2 := 0) (ms2 := 0) (by decide) (by decide) (C_X8_countAdded S x5 q7 e8 (qR_mk _ _)) ?_
    change gW _ _ _ _ (.int q7 :: _) _ _ _ _ _
    refine r_ireturn (pc := 75) .int dX9_outline_75 rfl rfl ?_
    cases hf
    exact hk
  rw [if_neg hc1] at hf
  by_cases hc2 : a1 = (2 : Int32)
  · rw [if_pos hc2] at hf
    refine r_tableIn (pc := 1) 76 dX9_outline_1 (by rw [hc2]; decide) (by rw [hc2]; decide) (off := 75) (by rw [hc2]; rfl) (by decide) ?_
    refine r_aload_n (pc := 76) dX9_outline_76 rfl ?_
    obtain ⟨x9, e10, hf⟩ := obind hf
    refine q_getA (pc := 77) dX9_outline_77 gX9_25 e10 ?_
    refine r_iconst (pc := 80) (0 : Int32) dX9_outline_80 (by decide) ?_
    obtain ⟨q11, e12, hf⟩ := obind hf
    refine q_callV (pc := 81) (v := some (.int q11)) (S' := S) mX6_placesBelow 6 [.int (0 : Int32)] dX9_outline_81 kX9_309 fX6_placesBelow iX6_placesBelow ⟨by decide, by decide⟩ rfl rfl rfl (Nat.le_of_ble_eq_true rfl) (og e12) (mc1 := 0) (ms1 := 0) (mc2 := 0) (ms2 := 0) (by decide) (by decide) (C_X6_placesBelow S x9 (0 : Int32) q11 e12 (qR_mk _ _)) ?_
    change gW _ _ _ _ (.int q11 :: _) _ _ _ _ _
    refine r_ireturn (pc := 84) .int dX9_outline_84 rfl rfl ?_
    cases hf
    exact hk
  rw [if_neg hc2] at hf
  by_cases hc3 : a1 = (3 : Int32)
  · rw [if_pos hc3] at hf
    refine r_tableIn (pc := 1) 85 dX9_outline_1 (by rw [hc3]; decide) (by rw [hc3]; decide) (off := 84) (by rw [hc3]; rfl) (by decide) ?_
    refine r_aload_n (pc := 85) dX9_outline_85 rfl ?_
    obtain ⟨q13, e14, hf⟩ := obind hf
    refine q_callV (pc := 86) (v := some (.int q13.1)) (S' := q13.2) mX9_countLines 9 [] dX9_outline_86 kX9_218 fX9_countLines iX9_countLines ⟨by decide, by decide⟩ rfl rfl rfl (Nat.le_of_ble_eq_true rfl) (og e14) (mc1 := 0) (ms1 := 0) (mc2 := 0) (ms2 := 0) (by decide) (by decide) (C_X9_countLines S a0 q13 e14 (qR_mk _ _)) ?_
    change gW _ _ _ _ (.int q13.1 :: _) _ _ _ _ _
    refine r_ireturn (pc := 89) .int dX9_outline_89 rfl rfl ?_
    cases hf
    exact hk
  rw [if_neg hc3] at hf
  by_cases hc4 : a1 = (4 : Int32)
  · rw [if_pos hc4] at hf
    refine r_tableIn (pc := 1) 90 dX9_outline_1 (by rw [hc4]; decide) (by rw [hc4]; decide) (off := 89) (by rw [hc4]; rfl) (by decide) ?_
    refine r_aload_n (pc := 90) dX9_outline_90 rfl ?_
    obtain ⟨x15, e16, hf⟩ := obind hf
    refine q_getA (pc := 91) dX9_outline_91 gX9_42 e16 ?_
    obtain ⟨q17, e18, hf⟩ := obind hf
    refine q_callV (pc := 94) (v := some (.int q17)) (S' := S) mX4_top 4 [] dX9_outline_94 kX9_324 fX4_top iX4_top ⟨by decide, by decide⟩ rfl rfl rfl (Nat.le_of_ble_eq_true rfl) (og e18) (mc1 := 0) (ms1 := 0) (mc2 := 0) (ms2 := 0) (by decide) (by decide) (C_X4_top S x15 q17 e18 (qR_mk _ _)) ?_
    change gW _ _ _ _ (.int q17 :: _) _ _ _ _ _
    refine r_ireturn (pc := 97) .int dX9_outline_97 rfl rfl ?_
    cases hf
    exact hk
  rw [if_neg hc4] at hf
  by_cases hc5 : a1 = (5 : Int32)
  · rw [if_pos hc5] at hf
    refine r_tableIn (pc := 1) 98 dX9_outline_1 (by rw [hc5]; decide) (by rw [hc5]; decide) (off := 97) (by rw [hc5]; rfl) (by decide) ?_
    refine r_aload_n (pc := 98) dX9_outline_98 rfl ?_
    obtain ⟨x19, e20, hf⟩ := obind hf
    refine q_getA (pc := 99) dX9_outline_99 gX9_42 e20 ?_
    obtain ⟨q21, e22, hf⟩ := obind hf
    refine q_callV (pc := 102) (v := some (.int q21)) (S' := S) mX4_size 4 [] dX9_outline_102 kX9_327 fX4_size iX4_size ⟨by decide, by decide⟩ rfl rfl rfl (Nat.le_of_ble_eq_true rfl) (og e22) (mc1 := 0) (ms1 := 0) (mc2 := 0) (ms2 := 0) (by decide) (by decide) (C_X4_size S x19 q21 e22 (qR_mk _ _)) ?_
    change gW _ _ _ _ (.int q21 :: _) _ _ _ _ _
    refine r_ireturn (pc := 105) .int dX9_outline_105 rfl rfl ?_
    cases hf
    exact hk
  rw [if_neg hc5] at hf
  by_cases hc6 : a1 = (6 : Int32)
  · rw [if_pos hc6] at hf
    refine r_tableIn (pc := 1) 106 dX9_outline_1 (by rw [hc6]; decide) (by rw [hc6]; decide) (off := 105) (by rw [hc6]; rfl) (by decide) ?_
    refine r_aload_n (pc := 106) dX9_outline_106 rfl ?_
    obtain ⟨x23, e24, hf⟩ := obind hf
    refine q_getA (pc := 107) dX9_outline_107 gX9_49 e24 ?_
    obtain ⟨q25, e26, hf⟩ := obind hf
    refine q_callV (pc := 110) (v := some (.int q25)) (S' := S) mX1_size 1 [] dX9_outline_110 kX9_328 fX1_size iX1_size ⟨by decide, by decide⟩ rfl rfl rfl (Nat.le_of_ble_eq_true rfl) (og e26) (mc1 := 0) (ms1 := 0) (mc2 := 0) (ms2 := 0) (by decide) (by decide) (C_X1_size S x23 q25 e26 (qR_mk _ _)) ?_
    change gW _ _ _ _ (.int q25 :: _) _ _ _ _ _
    refine r_ireturn (pc := 113) .int dX9_outline_113 rfl rfl ?_
    cases hf
    exact hk
  rw [if_neg hc6] at hf
  by_cases hc7 : a1 = (7 : Int32)
  · rw [if_pos hc7] at hf
    refine r_tableIn (pc := 1) 114 dX9_outline_1 (by rw [hc7]; decide) (by rw [hc7]; decide) (off := 113) (by rw [hc7]; rfl) (by decide) ?_
    refine r_aload_n (pc := 114) dX9_outline_114 rfl ?_
    obtain ⟨x27, e28, hf⟩ := obind hf
    refine q_getA (pc := 115) dX9_outline_115 gX9_49 e28 ?_
    refine r_aload_n (pc := 118) dX9_outline_118 rfl ?_
    obtain ⟨x29, e30, hf⟩ := obind hf
    refine q_getA (pc := 119) dX9_outline_119 gX9_12 e30 ?_
    refine r_aload_n (pc := 122) dX9_outline_122 rfl ?_
    obtain ⟨x31, e32, hf⟩ := obind hf
    refine q_getA (pc := 123) dX9_outline_123 gX9_25 e32 ?_
    obtain ⟨q33, e34, hf⟩ := obind hf
    refine q_callV (pc := 126) (v := some (.long q33)) (S' := S) mX1_fittingItems 1 [.ref x29, .ref x31] dX9_outline_126 kX9_329 fX1_fittingItems iX1_fittingItems ⟨by decide, by decide⟩ rfl rfl rfl (Nat.le_of_ble_eq_true rfl) (og e34) (mc1 := 0) (ms1 := 0) (mc2 := 0) (ms2 := 0) (by decide) (by decide) (C_X1_fittingItems S x27 x29 x31 q33 e34 (qR_mk _ _)) ?_
    change gW _ _ _ _ (.long q33 :: _) _ _ _ _ _
    obtain ⟨q35, e36, hf⟩ := obind hf
    refine q_callS (pc := 129) (v := some (.int q35)) (S' := S) mJ13_bitCount_95d88 [.long q33] dX9_outline_129 kX9_289 fJ13_bitCount_95d88 sJ13_bitCount_95d88 ⟨by decide, by decide⟩ rfl rfl (Nat.le_of_ble_eq_true rfl) (mc1 := 0) (ms1 := 0) (mc2 := 0) (ms2 := 0) (by decide) (by decide) (C_J13_bitCount_95d88 S q33 q35 e36 (qR_mk _ _)) ?_
    change gW _ _ _ _ (.int q35 :: _) _ _ _ _ _
    refine r_ireturn (pc := 132) .int dX9_outline_132 rfl rfl ?_
    cases hf
    exact hk
  rw [if_neg hc7] at hf
  by_cases hc8 : a1 = (8 : Int32)
  · rw [if_pos hc8] at hf
    refine r_tableIn (pc := 1) 133 dX9_outline_1 (by rw [hc8]; decide) (by rw [hc8]; decide) (off := 132) (by rw [hc8]; rfl) (by decide) ?_
    refine r_aload_n (pc := 133) dX9_outline_133 rfl ?_
    obtain ⟨x37, e38, hf⟩ := obind hf
    refine q_getA (pc := 134) dX9_outline_134 gX9_66 e38 ?_
    obtain ⟨q39, e40, hf⟩ := obind hf
    refine q_callV (pc := 137) (v := some (.int q39)) (S' := S) mX7_size 7 [] dX9_outline_137 kX9_134 fX7_size iX7_size ⟨by decide, by decide⟩ rfl rfl rfl (Nat.le_of_ble_eq_true rfl) (og e40) (mc1 := 0) (ms1 := 0) (mc2 := 0) (ms2 := 0) (by decide) (by decide) (C_X7_size S x37 q39 e40 (qR_mk _ _)) ?_
    change gW _ _ _ _ (.int q39 :: _) _ _ _ _ _
    refine r_ireturn (pc := 140) .int dX9_outline_140 rfl rfl ?_
    cases hf
    exact hk
  rw [if_neg hc8] at hf
  by_cases hc9 : a1 = (9 : Int32)
  · rw [if_pos hc9] at hf
    refine r_tableIn (pc := 1) 141 dX9_outline_1 (by rw [hc9]; decide) (by rw [hc9]; decide) (off := 140) (by rw [hc9]; rfl) (by decide) ?_
    refine r_aload_n (pc := 141) dX9_outline_141 rfl ?_
    obtain ⟨x41, e42, hf⟩ := obind hf
    refine q_getA (pc := 142) dX9_outline_142 gX9_35 e42 ?_
    obtain ⟨q43, e44, hf⟩ := obind hf
    refine q_callV (pc := 145) (v := some (.int q43)) (S' := S) mX3_size 3 [] dX9_outline_145 kX9_333 fX3_size iX3_size ⟨by decide, by decide⟩ rfl rfl rfl (Nat.le_of_ble_eq_true rfl) (og e44) (mc1 := 0) (ms1 := 0) (mc2 := 0) (ms2 := 0) (by decide) (by decide) (C_X3_size S x41 q43 e44 (qR_mk _ _)) ?_
    change gW _ _ _ _ (.int q43 :: _) _ _ _ _ _
    refine r_ireturn (pc := 148) .int dX9_outline_148 rfl rfl ?_
    cases hf
    exact hk
  rw [if_neg hc9] at hf
  by_cases hc10 : a1 = (10 : Int32)
  · rw [if_pos hc10] at hf
    refine r_tableIn (pc := 1) 149 dX9_outline_1 (by rw [hc10]; decide) (by rw [hc10]; decide) (off := 148) (by rw [hc10]; rfl) (by decide) ?_
    refine r_aload_n (pc := 149) dX9_outline_149 rfl ?_
    obtain ⟨x45, e46, hf⟩ := obind hf
    refine q_getA (pc := 150) dX9_outline_150 gX9_25 e46 ?_
    obtain ⟨q47, e48, hf⟩ := obind hf
    refine q_callV (pc := 153) (v := some (.int q47)) (S' := S) mX6_greatestDepth 6 [] dX9_outline_153 kX9_334 fX6_greatestDepth iX6_greatestDepth ⟨by decide, by decide⟩ rfl rfl rfl (Nat.le_of_ble_eq_true rfl) (og e48) (mc1 := 0) (ms1 := 0) (mc2 := 0) (ms2 := 0) (by decide) (by decide) (C_X6_greatestDepth S x45 q47 e48 (qR_mk _ _)) ?_
    change gW _ _ _ _ (.int q47 :: _) _ _ _ _ _
    refine r_ireturn (pc := 156) .int dX9_outline_156 rfl rfl ?_
    cases hf
    exact hk
  rw [if_neg hc10] at hf
  refine r_tableOut (pc := 1) 157 dX9_outline_1 (by
    have := tsw_out a1 (0) 11 (fun j hj => by
      match j, hj with
      | 0, _ => exact hc0
      | 1, _ => exact hc1
      | 2, _ => exact hc2
      | 3, _ => exact hc3
      | 4, _ => exact hc4
      | 5, _ => exact hc5
      | 6, _ => exact hc6
      | 7, _ => exact hc7
      | 8, _ => exact hc8
      | 9, _ => exact hc9
      | 10, _ => exact hc10
      | j + 11, hj => exact absurd hj (by omega))
    simpa using this) (by decide) ?_
  refine r_throwW (pc := 157) "java/lang/IllegalArgumentException" 21 dX9_outline_157 dX9_outline_160 dX9_outline_161 dX9_outline_164 dX9_outline_167 xX9_114_118 rfl ⟨by decide, Nat.le_of_ble_eq_true rfl⟩ (by decide) (by decide) ?_
  cases hf
  exact hk
def F_X9_doneShare (S : pS) (a0 : Nat) (a1 : Int32) : Option ((UInt32 × pS) ⊕ (String × pS)) := (oF S a0 9).bind fun _ => (F_X9_needItem S a0 a1).bind fun q1 => Sum.elim (fun q1 => (F_X9_countLeaves q1 a0 a1).bind fun q3 => if ¬ q3 = 0 then ((F_X9_countDoneLeaves q1 a0 a1).bind fun q5 => (oFdiv (FP.i2f q5) (FP.i2f q3)).bind fun x7 => some (.inl (x7, q1))) else (some (.inl ((0 : UInt32), q1)))) (fun q1 => some (.inr q1)) q1
set_option maxRecDepth 100000 in
set_option maxHeartbeats 4000000 in
theorem C_X9_doneShare {X : pX} {Q : pO → Nat → pF → Prop} (S : pS) (a0 : Nat) (a1 : Int32) (r : (UInt32 × pS) ⊕ (String × pS)) (hf : F_X9_doneShare S a0 a1 = some r) (hk : Sum.elim (fun q => Q (.inl (some (.float q.1))) q.2.1 q.2.2) (fun q => ∀ n', q.2.1 ≤ n' → Q (.inr q.1) n' (gjunk q.2.2 q.2.1)) r) : gC X mX9_doneShare [.ref a0, .int a1] S.1 S.2 Q 1 6 := by
  refine gC_of (by decide) (Nat.le_of_ble_eq_true rfl) ?_
  change gW _ _ _ [some (.ref a0), some (.int a1), none] _ _ _ _ _ _
  unfold F_X9_doneShare at hf
  obtain ⟨_, _, hf⟩ := obind hf
  refine r_aload_n (pc := 0) dX9_doneShare_0 rfl ?_
  refine r_iload_n (pc := 1) dX9_doneShare_1 rfl ?_
  obtain ⟨q1, e2, hf⟩ := obind hf
  rcases q1 with q1 | q1
  · replace hf := hf
    refine q_callV (pc := 2) (v := none) (S' := q1) mX9_needItem 9 [.int a1] dX9_doneShare_2 kX9_137 fX9_needItem iX9_needItem ⟨by decide, by decide⟩ rfl rfl rfl (Nat.le_of_ble_eq_true rfl) (og e2) (mc1 := 1) (ms1 := 6) (mc2 := 0) (ms2 := 0) (by decide) (by decide) (C_X9_needItem S a0 a1 (.inl q1) e2 (qR_mk _ _)) ?_
    refine r_aload_n (pc := 5) dX9_doneShare_5 rfl ?_
    refine r_iload_n (pc := 6) dX9_doneShare_6 rfl ?_
    obtain ⟨q3, e4, hf⟩ := obind hf
    refine q_callV (pc := 7) (v := some (.int q3)) (S' := q1) mX9_countLeaves 9 [.int a1] dX9_doneShare_7 kX9_303 fX9_countLeaves iX9_countLeaves ⟨by decide, by decide⟩ rfl rfl rfl (Nat.le_of_ble_eq_true rfl) (og e4) (mc1 := 0) (ms1 := 0) (mc2 := 0) (ms2 := 0) (by decide) (by decide) (C_X9_countLeaves q1 a0 a1 q3 e4 (qR_mk _ _)) ?_
    change gW _ _ _ _ (.int q3 :: _) _ _ _ _ _
    refine r_istore_n (pc := 10) dX9_doneShare_10 (by decide) ?_
    change gW _ _ _ [some (.ref a0), some (.int a1), some (.int q3)] _ _ _ _ _ _
    refine r_iload_n (pc := 11) dX9_doneShare_11 rfl ?_
    refine r_if_ne (pc := 12) 19 dX9_doneShare_12 (by decide) (fun hc => ?_) (fun hc => ?_)
    · rw [if_pos hc] at hf
      refine r_aload_n (pc := 19) dX9_doneShare_19 rfl ?_
      refine r_iload_n (pc := 20) dX9_doneShare_20 rfl ?_
      obtain ⟨q5, e6, hf⟩ := obind hf
      refine q_callV (pc := 21) (v := some (.int q5)) (S' := q1) mX9_countDoneLeaves 9 [.int a1] dX9_doneShare_21 kX9_306 fX9_countDoneLeaves iX9_countDoneLeaves ⟨by decide, by decide⟩ rfl rfl rfl (Nat.le_of_ble_eq_true rfl) (og e6) (mc1 := 0) (ms1 := 0) (mc2 := 0) (ms2 := 0) (by decide) (by decide) (C_X9_countDoneLeaves q1 a0 a1 q5 e6 (qR_mk _ _)) ?_
      change gW _ _ _ _ (.int q5 :: _) _ _ _ _ _
      refine r_i2f (pc := 24) dX9_doneShare_24 ?_
      refine r_iload_n (pc := 25) dX9_doneShare_25 rfl ?_
      refine r_i2f (pc := 26) dX9_doneShare_26 ?_
      obtain ⟨x7, e8, hf⟩ := obind hf
      refine q_fdiv (pc := 27) dX9_doneShare_27 e8 ?_
      refine r_freturn (pc := 28) dX9_doneShare_28 rfl ?_
      cases hf
      exact hk
    · rw [if_neg hc] at hf
      refine r_fconst0 (pc := 15) dX9_doneShare_15 ?_
      refine r_goto (pc := 16) 28 dX9_doneShare_16 (by decide) ?_
      refine r_freturn (pc := 28) dX9_doneShare_28 rfl ?_
      cases hf
      exact hk
  · replace hf := hf
    refine q_callVt (pc := 2) (E := q1.1) (S' := q1.2) mX9_needItem 9 [.int a1] dX9_doneShare_2 kX9_137 fX9_needItem iX9_needItem ⟨by decide, by decide⟩ rfl rfl rfl (Nat.le_of_ble_eq_true rfl) (og e2) (mc1 := 1) (ms1 := 6) (by decide) (by decide) (C_X9_needItem S a0 a1 (.inr q1) e2 (qX_mk _ _)) ?_
    cases hf
    exact hk
def F_X9_meanValue (S : pS) (a0 : Nat) (a1 : Int32) : Option ((UInt64 × pS) ⊕ (String × pS)) := (oF S a0 9).bind fun _ => (F_X9_needItem S a0 a1).bind fun q1 => Sum.elim (fun q1 => (oGA q1 a0 9 3).bind fun x3 => (F_X6_familyOf q1 x3 a1).bind fun q5 => (F_J13_bitCount_95d88 q1 q5).bind fun q7 => if ¬ q7 = 0 then ((oGA q1 a0 9 0).bind fun x9 => (F_X8_sumOf q1 x9 q5).bind fun q11 => (oDdiv (FP.i2d q11) (FP.i2d q7)).bind fun x13 => some (.inl (x13, q1))) else (some (.inl ((0 : UInt64), q1)))) (fun q1 => some (.inr q1)) q1
set_option maxRecDepth 100000 in
set_option maxHeartbeats 4000000 in
theorem C_X9_meanValue {X : pX} {Q : pO → Nat → pF → Prop} (S : pS) (a0 : Nat) (a1 : Int32) (r : (UInt64 × pS) ⊕ (String × pS)) (hf : F_X9_meanValue S a0 a1 = some r) (hk : Sum.elim (fun q => Q (.inl (some (.double q.1))) q.2.1 q.2.2) (fun q => ∀ n', q.2.1 ≤ n' → Q (.inr q.1) n' (gjunk q.2.2 q.2.1)) r) : gC X mX9_meanValue [.ref a0, .int a1] S.1 S.2 Q 1 6 := by
  refine gC_of (by decide) (Nat.le_of_ble_eq_true rfl) ?_
  change gW _ _ _ [some (.ref a0), some (.int a1), none, none, none] _ _ _ _ _ _
  unfold F_X9_meanValue at hf
  obtain ⟨_, _, hf⟩ := obind hf
  refine r_aload_n (pc := 0) dX9_meanValue_0 rfl ?_
  refine r_iload_n (pc := 1) dX9_meanValue_1 rfl ?_
  obtain ⟨q1, e2, hf⟩ := obind hf
  rcases q1 with q1 | q1
  · replace hf := hf
    refine q_callV (pc := 2) (v := none) (S' := q1) mX9_needItem 9 [.int a1] dX9_meanValue_2 kX9_137 fX9_needItem iX9_needItem ⟨by decide, by decide⟩ rfl rfl rfl (Nat.le_of_ble_eq_true rfl) (og e2) (mc1 := 1) (ms1 := 6) (mc2 := 0) (ms2 := 0) (by decide) (by decide) (C_X9_needItem S a0 a1 (.inl q1) e2 (qR_mk _ _)) ?_
    refine r_aload_n (pc := 5) dX9_meanValue_5 rfl ?_
    obtain ⟨x3, e4, hf⟩ := obind hf
    refine q_getA (pc := 6) dX9_meanValue_6 gX9_25 e4 ?_
    refine r_iload_n (pc := 9) dX9_meanValue_9 rfl ?_
    obtain ⟨q5, e6, hf⟩ := obind hf
    refine q_callV (pc := 10) (v := some (.long q5)) (S' := q1) mX6_familyOf 6 [.int a1] dX9_meanValue_10 kX9_198 fX6_familyOf iX6_familyOf ⟨by decide, by decide⟩ rfl rfl rfl (Nat.le_of_ble_eq_true rfl) (og e6) (mc1 := 0) (ms1 := 0) (mc2 := 0) (ms2 := 0) (by decide) (by decide) (C_X6_familyOf q1 x3 a1 q5 e6 (qR_mk _ _)) ?_
    change gW _ _ _ _ (.long q5 :: _) _ _ _ _ _
    refine r_lstore_n (pc := 13) dX9_meanValue_13 (by decide) ?_
    change gW _ _ _ [some (.ref a0), some (.int a1), some (.long q5), none, none] _ _ _ _ _ _
    refine r_lload_n (pc := 14) dX9_meanValue_14 rfl ?_
    obtain ⟨q7, e8, hf⟩ := obind hf
    refine q_callS (pc := 15) (v := some (.int q7)) (S' := q1) mJ13_bitCount_95d88 [.long q5] dX9_meanValue_15 kX9_289 fJ13_bitCount_95d88 sJ13_bitCount_95d88 ⟨by decide, by decide⟩ rfl rfl (Nat.le_of_ble_eq_true rfl) (mc1 := 0) (ms1 := 0) (mc2 := 0) (ms2 := 0) (by decide) (by decide) (C_J13_bitCount_95d88 q1 q5 q7 e8 (qR_mk _ _)) ?_
    change gW _ _ _ _ (.int q7 :: _) _ _ _ _ _
    refine r_istore (pc := 18) dX9_meanValue_18 (by decide) ?_
    change gW _ _ _ [some (.ref a0), some (.int a1), some (.long q5), none, some (.int q7)] _ _ _ _ _ _
    refine r_iload (pc := 20) dX9_meanValue_20 rfl ?_
    refine r_if_ne (pc := 22) 29 dX9_meanValue_22 (by decide) (fun hc => ?_) (fun hc => ?_)
    · rw [if_pos hc] at hf
      refine r_aload_n (pc := 29) dX9_meanValue_29 rfl ?_
      obtain ⟨x9, e10, hf⟩ := obind hf
      refine q_getA (pc := 30) dX9_meanValue_30 gX9_12 e10 ?_
      refine r_lload_n (pc := 33) dX9_meanValue_33 rfl ?_
      obtain ⟨q11, e12, hf⟩ := obind hf
      refine q_callV (pc := 34) (v := some (.int q11)) (S' := q1) mX8_sumOf 8 [.long q5] dX9_meanValue_34 kX9_294 fX8_sumOf iX8_sumOf ⟨by decide, by decide⟩ rfl rfl rfl (Nat.le_of_ble_eq_true rfl) (og e12) (mc1 := 0) (ms1 := 0) (mc2 := 0) (ms2 := 0) (by decide) (by decide) (C_X8_sumOf q1 x9 q5 q11 e12 (qR_mk _ _)) ?_
      change gW _ _ _ _ (.int q11 :: _) _ _ _ _ _
      refine r_i2d (pc := 37) dX9_meanValue_37 ?_
      refine r_iload (pc := 38) dX9_meanValue_38 rfl ?_
      refine r_i2d (pc := 40) dX9_meanValue_40 ?_
      obtain ⟨x13, e14, hf⟩ := obind hf
      refine q_ddiv (pc := 41) dX9_meanValue_41 e14 ?_
      refine r_dreturn (pc := 42) dX9_meanValue_42 rfl ?_
      cases hf
      exact hk
    · rw [if_neg hc] at hf
      refine r_dconst0 (pc := 25) dX9_meanValue_25 ?_
      refine r_goto (pc := 26) 42 dX9_meanValue_26 (by decide) ?_
      refine r_dreturn (pc := 42) dX9_meanValue_42 rfl ?_
      cases hf
      exact hk
  · replace hf := hf
    refine q_callVt (pc := 2) (E := q1.1) (S' := q1.2) mX9_needItem 9 [.int a1] dX9_meanValue_2 kX9_137 fX9_needItem iX9_needItem ⟨by decide, by decide⟩ rfl rfl rfl (Nat.le_of_ble_eq_true rfl) (og e2) (mc1 := 1) (ms1 := 6) (by decide) (by decide) (C_X9_needItem S a0 a1 (.inr q1) e2 (qX_mk _ _)) ?_
    cases hf
    exact hk
def F_X9_hoist (S : pS) (a0 : Nat) (a1 : Int32) : Option ((Int32 × pS) ⊕ (String × pS)) := (oF S a0 9).bind fun _ => (F_X9_needItem S a0 a1).bind fun q1 => Sum.elim (fun q1 => (oGA q1 a0 9 6).bind fun x3 => (F_X4_size q1 x3).bind fun q5 => if q5 < (4 : Int32) then ((oGA q1 a0 9 6).bind fun x7 => (F_X4_push q1 x7 a1).bind fun q9 => (oGA q9 a0 9 6).bind fun x11 => (F_X4_size q9 x11).bind fun q13 => some (.inl (q13, q9))) else (some (.inr ("java/lang/IllegalStateException", q1)))) (fun q1 => some (.inr q1)) q1
set_option maxRecDepth 100000 in
set_option maxHeartbeats 4000000 in
theorem C_X9_hoist {X : pX} {Q : pO → Nat → pF → Prop} (S : pS) (a0 : Nat) (a1 : Int32) (r : (Int32 × pS) ⊕ (String × pS)) (hf : F_X9_hoist S a0 a1 = some r) (hk : Sum.elim (fun q => Q (.inl (some (.int q.1))) q.2.1 q.2.2) (fun q => ∀ n', q.2.1 ≤ n' → Q (.inr q.1) n' (gjunk q.2.2 q.2.1)) r) : gC X mX9_hoist [.ref a0, .int a1] S.1 S.2 Q 2 12 := by
  refine gC_of (by decide) (Nat.le_of_ble_eq_true rfl) ?_
  change gW _ _ _ [some (.ref a0), some (.int a1)] _ _ _ _ _ _
  unfold F_X9_hoist at hf
  obtain ⟨_, _, hf⟩ := obind hf
  refine r_aload_n (pc := 0) dX9_hoist_0 rfl ?_
  refine r_iload_n (pc := 1) dX9_hoist_1 rfl ?_
  obtain ⟨q1, e2, hf⟩ := obind hf
  rcases q1 with q1 | q1
  · replace hf := hf
    refine q_callV (pc := 2) (v := none) (S' := q1) mX9_needItem 9 [.int a1] dX9_hoist_2 kX9_137 fX9_needItem iX9_needItem ⟨by decide, by decide⟩ rfl rfl rfl (Nat.le_of_ble_eq_true rfl) (og e2) (mc1 := 1) (ms1 := 6) (mc2 := 1) (ms2 := 6) (by decide) (by decide) (C_X9_needItem S a0 a1 (.inl q1) e2 (qR_mk _ _)) ?_
    refine r_aload_n (pc := 5) dX9_hoist_5 rfl ?_
    obtain ⟨x3, e4, hf⟩ := obind hf
    refine q_getA (pc := 6) dX9_hoist_6 gX9_42 e4 ?_
    obtain ⟨q5, e6, hf⟩ := obind hf
    refine q_callV (pc := 9) (v := some (.int q5)) (S' := q1) mX4_size 4 [] dX9_hoist_9 kX9_327 fX4_size iX4_size ⟨by decide, by decide⟩ rfl rfl rfl (Nat.le_of_ble_eq_true rfl) (og e6) (mc1 := 0) (ms1 := 0) (mc2 := 1) (ms2 := 6) (by decide) (by decide) (C_X4_size q1 x3 q5 e6 (qR_mk _ _)) ?_
    change gW _ _ _ _ (.int q5 :: _) _ _ _ _ _
    refine r_iconst (pc := 12) (4 : Int32) dX9_hoist_12 (by decide) ?_
    refine r_icmp_lt (pc := 13) 27 dX9_hoist_13 (by decide) (fun hc => ?_) (fun hc => ?_)
    · rw [if_pos hc] at hf
      refine r_aload_n (pc := 27) dX9_hoist_27 rfl ?_
      obtain ⟨x7, e8, hf⟩ := obind hf
      refine q_getA (pc := 28) dX9_hoist_28 gX9_42 e8 ?_
      refine r_iload_n (pc := 31) dX9_hoist_31 rfl ?_
      obtain ⟨q9, e10, hf⟩ := obind hf
      refine q_callV (pc := 32) (v := none) (S' := q9) mX4_push 4 [.int a1] dX9_hoist_32 kX9_339 fX4_push iX4_push ⟨by decide, by decide⟩ rfl rfl rfl (Nat.le_of_ble_eq_true rfl) (og e10) (mc1 := 0) (ms1 := 0) (mc2 := 0) (ms2 := 0) (by decide) (by decide) (C_X4_push q1 x7 a1 q9 e10 (qR_mk _ _)) ?_
      refine r_aload_n (pc := 35) dX9_hoist_35 rfl ?_
      obtain ⟨x11, e12, hf⟩ := obind hf
      refine q_getA (pc := 36) dX9_hoist_36 gX9_42 e12 ?_
      obtain ⟨q13, e14, hf⟩ := obind hf
      refine q_callV (pc := 39) (v := some (.int q13)) (S' := q9) mX4_size 4 [] dX9_hoist_39 kX9_327 fX4_size iX4_size ⟨by decide, by decide⟩ rfl rfl rfl (Nat.le_of_ble_eq_true rfl) (og e14) (mc1 := 0) (ms1 := 0) (mc2 := 0) (ms2 := 0) (by decide) (by decide) (C_X4_size q9 x11 q13 e14 (qR_mk _ _)) ?_
      change gW _ _ _ _ (.int q13 :: _) _ _ _ _ _
      refine r_ireturn (pc := 42) .int dX9_hoist_42 rfl rfl ?_
      cases hf
      exact hk
    · rw [if_neg hc] at hf
      refine r_throwW (pc := 16) "java/lang/IllegalStateException" 22 dX9_hoist_16 dX9_hoist_19 dX9_hoist_20 dX9_hoist_23 dX9_hoist_26 xX9_125_129 rfl ⟨by decide, Nat.le_of_ble_eq_true rfl⟩ (by decide) (by decide) ?_
      cases hf
      exact hk
  · replace hf := hf
    refine q_callVt (pc := 2) (E := q1.1) (S' := q1.2) mX9_needItem 9 [.int a1] dX9_hoist_2 kX9_137 fX9_needItem iX9_needItem ⟨by decide, by decide⟩ rfl rfl rfl (Nat.le_of_ble_eq_true rfl) (og e2) (mc1 := 1) (ms1 := 6) (by decide) (by decide) (C_X9_needItem S a0 a1 (.inr q1) e2 (qX_mk _ _)) ?_
    cases hf
    exact hk
def F_X9_unhoist (S : pS) (a0 : Nat) : Option ((Int32 × pS) ⊕ (String × pS)) := (oF S a0 9).bind fun _ => (oGA S a0 9 6).bind fun x1 => (F_X4_size S x1).bind fun q3 => if ¬ q3 = 0 then ((oGA S a0 9 6).bind fun x5 => (F_X4_pop S x5).bind fun q7 => (oGA q7 a0 9 6).bind fun x9 => (F_X4_top q7 x9).bind fun q11 => some (.inl (q11, q7))) else (some (.inr ("java/lang/IllegalStateException", S)))
set_option maxRecDepth 100000 in
set_option maxHeartbeats 4000000 in
theorem C_X9_unhoist {X : pX} {Q : pO → Nat → pF → Prop} (S : pS) (a0 : Nat) (r : (Int32 × pS) ⊕ (String × pS)) (hf : F_X9_unhoist S a0 = some r) (hk : Sum.elim (fun q => Q (.inl (some (.int q.1))) q.2.1 q.2.2) (fun q => ∀ n', q.2.1 ≤ n' → Q (.inr q.1) n' (gjunk q.2.2 q.2.1)) r) : gC X mX9_unhoist [.ref a0] S.1 S.2 Q 1 6 := by
  refine gC_of (by decide) (Nat.le_of_ble_eq_true rfl) ?_
  change gW _ _ _ [some (.ref a0)] _ _ _ _ _ _
  unfold F_X9_unhoist at hf
  obtain ⟨_, _, hf⟩ := obind hf
  refine r_aload_n (pc := 0) dX9_unhoist_0 rfl ?_
  obtain ⟨x1, e2, hf⟩ := obind hf
  refine q_getA (pc := 1) dX9_unhoist_1 gX9_42 e2 ?_
  obtain ⟨q3, e4, hf⟩ := obind hf
  refine q_callV (pc := 4) (v := some (.int q3)) (S' := S) mX4_size 4 [] dX9_unhoist_4 kX9_327 fX4_size iX4_size ⟨by decide, by decide⟩ rfl rfl rfl (Nat.le_of_ble_eq_true rfl) (og e4) (mc1 := 0) (ms1 := 0) (mc2 := 1) (ms2 := 6) (by decide) (by decide) (C_X4_size S x1 q3 e4 (qR_mk _ _)) ?_
  change gW _ _ _ _ (.int q3 :: _) _ _ _ _ _
  refine r_if_ne (pc := 7) 21 dX9_unhoist_7 (by decide) (fun hc => ?_) (fun hc => ?_)
  · rw [if_pos hc] at hf
    refine r_aload_n (pc := 21) dX9_unhoist_21 rfl ?_
    obtain ⟨x5, e6, hf⟩ := obind hf
    refine q_getA (pc := 22) dX9_unhoist_22 gX9_42 e6 ?_
    obtain ⟨q7, e8, hf⟩ := obind hf
    refine q_callV (pc := 25) (v := none) (S' := q7) mX4_pop 4 [] dX9_unhoist_25 kX9_344 fX4_pop iX4_pop ⟨by decide, by decide⟩ rfl rfl rfl (Nat.le_of_ble_eq_true rfl) (og e8) (mc1 := 0) (ms1 := 0) (mc2 := 0) (ms2 := 0) (by decide) (by decide) (C_X4_pop S x5 q7 e8 (qR_mk _ _)) ?_
    refine r_aload_n (pc := 28) dX9_unhoist_28 rfl ?_
    obtain ⟨x9, e10, hf⟩ := obind hf
    refine q_getA (pc := 29) dX9_unhoist_29 gX9_42 e10 ?_
    obtain ⟨q11, e12, hf⟩ := obind hf
    refine q_callV (pc := 32) (v := some (.int q11)) (S' := q7) mX4_top 4 [] dX9_unhoist_32 kX9_324 fX4_top iX4_top ⟨by decide, by decide⟩ rfl rfl rfl (Nat.le_of_ble_eq_true rfl) (og e12) (mc1 := 0) (ms1 := 0) (mc2 := 0) (ms2 := 0) (by decide) (by decide) (C_X4_top q7 x9 q11 e12 (qR_mk _ _)) ?_
    change gW _ _ _ _ (.int q11 :: _) _ _ _ _ _
    refine r_ireturn (pc := 35) .int dX9_unhoist_35 rfl rfl ?_
    cases hf
    exact hk
  · rw [if_neg hc] at hf
    refine r_throwW (pc := 10) "java/lang/IllegalStateException" 23 dX9_unhoist_10 dX9_unhoist_13 dX9_unhoist_14 dX9_unhoist_17 dX9_unhoist_20 xX9_125_129 rfl ⟨by decide, Nat.le_of_ble_eq_true rfl⟩ (by decide) (by decide) ?_
    cases hf
    exact hk
