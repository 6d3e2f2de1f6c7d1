def F_X8_makeItem (S : pS) (a0 : Nat) (a1 : Nat) (a2 : Int32) (a3 : Int32) : Option (Int32 × pS) := (oF S a0 8).bind fun _ => (oGI S a0 8 9).bind fun x1 => (oPI S a0 8 9 (x1 + (1 : Int32))).bind fun S3 => (oGI S3 a0 8 9).bind fun x5 => (oGJ S3 a0 8 6).bind fun x7 => (F_X9_with S3 x7 x5 (1 : Int32)).bind fun q9 => (oPJ S3 a0 8 6 q9).bind fun S11 => (oGJ S11 a0 8 7).bind fun x13 => (F_X9_with S11 x13 x5 (0 : Int32)).bind fun q15 => (oPJ S11 a0 8 7 q15).bind fun S17 => (oGJ S17 a0 8 8).bind fun x19 => (F_X9_with S17 x19 x5 (0 : Int32)).bind fun q21 => (oPJ S17 a0 8 8 q21).bind fun S23 => (oGA S23 a0 8 0).bind fun x25 => (oSI S23 x25 .int x5 (0 : Int32)).bind fun S27 => (oGA S27 a0 8 4).bind fun x29 => (oSI S27 x29 .int x5 (0 : Int32)).bind fun S31 => (oGA S31 a0 8 5).bind fun x33 => (oSI S31 x33 .int x5 (-1 : Int32)).bind fun S35 => (F_X8_setName S35 a0 x5 a1 a2 a3).bind fun q37 => some (x5, q37)
set_option maxRecDepth 100000 in
set_option maxHeartbeats 4000000 in
theorem C_X8_makeItem {X : pX} {Q : pO → Nat → pF → Prop} (S : pS) (a0 : Nat) (a1 : Nat) (a2 : Int32) (a3 : Int32) (r : Int32 × pS) (hf : F_X8_makeItem S a0 a1 a2 a3 = some r) (hk : Q (.inl (some (.int r.1))) r.2.1 r.2.2) : gC X mX8_makeItem [.ref a0, .ref a1, .int a2, .int a3] S.1 S.2 Q 0 0 := by
  refine gC_of (by decide) (Nat.le_of_ble_eq_true rfl) rfl ?_
  change gW _ _ _ [some (.ref a0), some (.ref a1), some (.int a2), some (.int a3), none] _ _ _ _ _ _
  unfold F_X8_makeItem at hf
  obtain ⟨_, _, hf⟩ := obind hf
  refine r_aload_n (pc := 0) dX8_makeItem_0 rfl ?_
  refine r_dup (pc := 1) dX8_makeItem_1 rfl ?_
  replace hf := obind hf
  obtain ⟨x1, e2, hf⟩ := hf
  refine q_getI (pc := 2) dX8_makeItem_2 gX8_41 e2 ?_
  refine r_iconst (pc := 5) (1 : Int32) dX8_makeItem_5 (by decide) ?_
  refine r_iadd (pc := 6) dX8_makeItem_6 ?_
  replace hf := obind hf
  obtain ⟨S3, e4, hf⟩ := hf
  refine q_putI (pc := 7) dX8_makeItem_7 pX8_41 rfl e4 ?_
  refine r_aload_n (pc := 10) dX8_makeItem_10 rfl ?_
  replace hf := obind hf
  obtain ⟨x5, e6, hf⟩ := hf
  refine q_getI (pc := 11) dX8_makeItem_11 gX8_41 e6 ?_
  refine r_istore (pc := 14) dX8_makeItem_14 (by decide) ?_
  change gW _ _ _ [some (.ref a0), some (.ref a1), some (.int a2), some (.int a3), some (.int x5)] _ _ _ _ _ _
  refine r_aload_n (pc := 16) dX8_makeItem_16 rfl ?_
  refine r_aload_n (pc := 17) dX8_makeItem_17 rfl ?_
  replace hf := obind hf
  obtain ⟨x7, e8, hf⟩ := hf
  refine q_getJ (pc := 18) dX8_makeItem_18 gX8_31 e8 ?_
  refine r_iload (pc := 21) dX8_makeItem_21 rfl ?_
  refine r_iconst (pc := 23) (1 : Int32) dX8_makeItem_23 (by decide) ?_
  replace hf := obind hf
  obtain ⟨q9, e10, hf⟩ := hf
  refine q_callSN (pc := 24) (v := some (.long q9)) (S' := S3) mX9_with [.long x7, .int x5, .int (1 : Int32)] dX8_makeItem_24 kX8_61 fX9_with sX9_with ⟨by decide, by decide⟩ rfl rfl (Nat.le_of_ble_eq_true rfl) (mc1 := 0) (ms1 := 0) (mc2 := 0) (ms2 := 0) (by decide) (by decide) (C_X9_with S3 x7 x5 (1 : Int32) q9 e10 (qR_mk _ _)) ?_
  change gW _ _ _ _ (.long q9 :: _) _ _ _ _ _
  replace hf := obind hf
  obtain ⟨S11, e12, hf⟩ := hf
  refine q_putJ (pc := 27) dX8_makeItem_27 pX8_31 rfl e12 ?_
  refine r_aload_n (pc := 30) dX8_makeItem_30 rfl ?_
  refine r_aload_n (pc := 31) dX8_makeItem_31 rfl ?_
  replace hf := obind hf
  obtain ⟨x13, e14, hf⟩ := hf
  refine q_getJ (pc := 32) dX8_makeItem_32 gX8_35 e14 ?_
  refine r_iload (pc := 35) dX8_makeItem_35 rfl ?_
  refine r_iconst (pc := 37) (0 : Int32) dX8_makeItem_37 (by decide) ?_
  replace hf := obind hf
  obtain ⟨q15, e16, hf⟩ := hf
  refine q_callSN (pc := 38) (v := some (.long q15)) (S' := S11) mX9_with [.long x13, .int x5, .int (0 : Int32)] dX8_makeItem_38 kX8_61 fX9_with sX9_with ⟨by decide, by decide⟩ rfl rfl (Nat.le_of_ble_eq_true rfl) (mc1 := 0) (ms1 := 0) (mc2 := 0) (ms2 := 0) (by decide) (by decide) (C_X9_with S11 x13 x5 (0 : Int32) q15 e16 (qR_mk _ _)) ?_
  change gW _ _ _ _ (.long q15 :: _) _ _ _ _ _
  replace hf := obind hf
  obtain ⟨S17, e18, hf⟩ := hf
  refine q_putJ (pc := 41) dX8_makeItem_41 pX8_35 rfl e18 ?_
  refine r_aload_n (pc := 44) dX8_makeItem_44 rfl ?_
  refine r_aload_n (pc := 45) dX8_makeItem_45 rfl ?_
  replace hf := obind hf
  obtain ⟨x19, e20, hf⟩ := hf
  refine q_getJ (pc := 46) dX8_makeItem_46 gX8_38 e20 ?_
  refine r_iload (pc := 49) dX8_makeItem_49 rfl ?_
  refine r_iconst (pc := 51) (0 : Int32) dX8_makeItem_51 (by decide) ?_
  replace hf := obind hf
  obtain ⟨q21, e22, hf⟩ := hf
  refine q_callSN (pc := 52) (v := some (.long q21)) (S' := S17) mX9_with [.long x19, .int x5, .int (0 : Int32)] dX8_makeItem_52 kX8_61 fX9_with sX9_with ⟨by decide, by decide⟩ rfl rfl (Nat.le_of_ble_eq_true rfl) (mc1 := 0) (ms1 := 0) (mc2 := 0) (ms2 := 0) (by decide) (by decide) (C_X9_with S17 x19 x5 (0 : Int32) q21 e22 (qR_mk _ _)) ?_
  change gW _ _ _ _ (.long q21 :: _) _ _ _ _ _
  replace hf := obind hf
  obtain ⟨S23, e24, hf⟩ := hf
  refine q_putJ (pc := 55) dX8_makeItem_55 pX8_38 rfl e24 ?_
  refine r_aload_n (pc := 58) dX8_makeItem_58 rfl ?_
  replace hf := obind hf
  obtain ⟨x25, e26, hf⟩ := hf
  refine q_getA (pc := 59) dX8_makeItem_59 gX8_9 e26 ?_
  refine r_iload (pc := 62) dX8_makeItem_62 rfl ?_
  refine r_iconst (pc := 64) (0 : Int32) dX8_makeItem_64 (by decide) ?_
  replace hf := obind hf
  obtain ⟨S27, e28, hf⟩ := hf
  refine q_iast (pc := 65) dX8_makeItem_65 e28 ?_
  refine r_aload_n (pc := 66) dX8_makeItem_66 rfl ?_
  replace hf := obind hf
  obtain ⟨x29, e30, hf⟩ := hf
  refine q_getA (pc := 67) dX8_makeItem_67 gX8_25 e30 ?_
  refine r_iload (pc := 70) dX8_makeItem_70 rfl ?_
  refine r_iconst (pc := 72) (0 : Int32) dX8_makeItem_72 (by decide) ?_
  replace hf := obind hf
  obtain ⟨S31, e32, hf⟩ := hf
  refine q_iast (pc := 73) dX8_makeItem_73 e32 ?_
  refine r_aload_n (pc := 74) dX8_makeItem_74 rfl ?_
  replace hf := obind hf
  obtain ⟨x33, e34, hf⟩ := hf
  refine q_getA (pc := 75) dX8_makeItem_75 gX8_28 e34 ?_
  refine r_iload (pc := 78) dX8_makeItem_78 rfl ?_
  refine r_iconst (pc := 80) (-1 : Int32) dX8_makeItem_80 (by decide) ?_
  replace hf := obind hf
  obtain ⟨S35, e36, hf⟩ := hf
  refine q_iast (pc := 81) dX8_makeItem_81 e36 ?_
  refine r_aload_n (pc := 82) dX8_makeItem_82 rfl ?_
  refine r_iload (pc := 83) dX8_makeItem_83 rfl ?_
  refine r_aload_n (pc := 85) dX8_makeItem_85 rfl ?_
  refine r_iload_n (pc := 86) dX8_makeItem_86 rfl ?_
  refine r_iload_n (pc := 87) dX8_makeItem_87 rfl ?_
  replace hf := obind hf
  obtain ⟨q37, e38, hf⟩ := hf
  refine q_callV (pc := 88) (v := none) (S' := q37) mX8_setName 8 [.int x5, .ref a1, .int a2, .int a3] dX8_makeItem_88 kX8_65 fX8_setName iX8_setName ⟨by decide, by decide⟩ rfl rfl rfl (Nat.le_of_ble_eq_true rfl) (og e38) (mc1 := 0) (ms1 := 0) (mc2 := 0) (ms2 := 0) (by decide) (by decide) (C_X8_setName S35 a0 x5 a1 a2 a3 q37 e38 (qR_mk _ _)) ?_
  refine r_iload (pc := 91) dX8_makeItem_91 rfl ?_
  refine r_ireturn (pc := 93) .int dX8_makeItem_93 rfl rfl ?_
  cases hf
  exact hk
def F_X8_setDay (S : pS) (a0 : Nat) (a1 : Int32) (a2 : Int32) : Option (pS) := (oF S a0 8).bind fun _ => (oGA S a0 8 5).bind fun x1 => (oSI S x1 .int a1 a2).bind fun S3 => some S3
set_option maxRecDepth 100000 in
set_option maxHeartbeats 4000000 in
theorem C_X8_setDay {X : pX} {Q : pO → Nat → pF → Prop} (S : pS) (a0 : Nat) (a1 : Int32) (a2 : Int32) (r : pS) (hf : F_X8_setDay S a0 a1 a2 = some r) (hk : Q (.inl none) r.1 r.2) : gC X mX8_setDay [.ref a0, .int a1, .int a2] S.1 S.2 Q 0 0 := by
  refine gC_of (by decide) (Nat.le_of_ble_eq_true rfl) rfl ?_
  change gW _ _ _ [some (.ref a0), some (.int a1), some (.int a2)] _ _ _ _ _ _
  unfold F_X8_setDay at hf
  obtain ⟨_, _, hf⟩ := obind hf
  refine r_aload_n (pc := 0) dX8_setDay_0 rfl ?_
  replace hf := obind hf
  obtain ⟨x1, e2, hf⟩ := hf
  refine q_getA (pc := 1) dX8_setDay_1 gX8_28 e2 ?_
  refine r_iload_n (pc := 4) dX8_setDay_4 rfl ?_
  refine r_iload_n (pc := 5) dX8_setDay_5 rfl ?_
  replace hf := obind hf
  obtain ⟨S3, e4, hf⟩ := hf
  refine q_iast (pc := 6) dX8_setDay_6 e4 ?_
  refine r_return (pc := 7) dX8_setDay_7 rfl ?_
  cases hf
  exact hk
def F_X8_setValue (S : pS) (a0 : Nat) (a1 : Int32) (a2 : Int32) : Option (pS) := (oF S a0 8).bind fun _ => (oGA S a0 8 4).bind fun x1 => (oSI S x1 .int a1 a2).bind fun S3 => some S3
set_option maxRecDepth 100000 in
set_option maxHeartbeats 4000000 in
theorem C_X8_setValue {X : pX} {Q : pO → Nat → pF → Prop} (S : pS) (a0 : Nat) (a1 : Int32) (a2 : Int32) (r : pS) (hf : F_X8_setValue S a0 a1 a2 = some r) (hk : Q (.inl none) r.1 r.2) : gC X mX8_setValue [.ref a0, .int a1, .int a2] S.1 S.2 Q 0 0 := by
  refine gC_of (by decide) (Nat.le_of_ble_eq_true rfl) rfl ?_
  change gW _ _ _ [some (.ref a0), some (.int a1), some (.int a2)] _ _ _ _ _ _
  unfold F_X8_setValue at hf
  obtain ⟨_, _, hf⟩ := obind hf
  refine r_aload_n (pc := 0) dX8_setValue_0 rfl ?_
  replace hf := obind hf
  obtain ⟨x1, e2, hf⟩ := hf
  refine q_getA (pc := 1) dX8_setValue_1 gX8_25 e2 ?_
  refine r_iload_n (pc := 4) dX8_setValue_4 rfl ?_
  refine r_iload_n (pc := 5) dX8_setValue_5 rfl ?_
  replace hf := obind hf
  obtain ⟨S3, e4, hf⟩ := hf
  refine q_iast (pc := 6) dX8_setValue_6 e4 ?_
  refine r_return (pc := 7) dX8_setValue_7 rfl ?_
  cases hf
  exact hk
def F_X8_setDone (S : pS) (a0 : Nat) (a1 : Int32) (a2 : Int32) : Option (pS) := (oF S a0 8).bind fun _ => (oGJ S a0 8 7).bind fun x1 => (F_X9_with S x1 a1 a2).bind fun q3 => (oPJ S a0 8 7 q3).bind fun S5 => some S5
set_option maxRecDepth 100000 in
set_option maxHeartbeats 4000000 in
theorem C_X8_setDone {X : pX} {Q : pO → Nat → pF → Prop} (S : pS) (a0 : Nat) (a1 : Int32) (a2 : Int32) (r : pS) (hf : F_X8_setDone S a0 a1 a2 = some r) (hk : Q (.inl none) r.1 r.2) : gC X mX8_setDone [.ref a0, .int a1, .int a2] S.1 S.2 Q 0 0 := by
  refine gC_of (by decide) (Nat.le_of_ble_eq_true rfl) rfl ?_
  change gW _ _ _ [some (.ref a0), some (.int a1), some (.int a2)] _ _ _ _ _ _
  unfold F_X8_setDone at hf
  obtain ⟨_, _, hf⟩ := obind hf
  refine r_aload_n (pc := 0) dX8_setDone_0 rfl ?_
  refine r_aload_n (pc := 1) dX8_setDone_1 rfl ?_
  replace hf := obind hf
  obtain ⟨x1, e2, hf⟩ := hf
  refine q_getJ (pc := 2) dX8_setDone_2 gX8_35 e2 ?_
  refine r_iload_n (pc := 5) dX8_setDone_5 rfl ?_
  refine r_iload_n (pc := 6) dX8_setDone_6 rfl ?_
  replace hf := obind hf
  obtain ⟨q3, e4, hf⟩ := hf
  refine q_callSN (pc := 7) (v := some (.long q3)) (S' := S) mX9_with [.long x1, .int a1, .int a2] dX8_setDone_7 kX8_61 fX9_with sX9_with ⟨by decide, by decide⟩ rfl rfl (Nat.le_of_ble_eq_true rfl) (mc1 := 0) (ms1 := 0) (mc2 := 0) (ms2 := 0) (by decide) (by decide) (C_X9_with S x1 a1 a2 q3 e4 (qR_mk _ _)) ?_
  change gW _ _ _ _ (.long q3 :: _) _ _ _ _ _
  replace hf := obind hf
  obtain ⟨S5, e6, hf⟩ := hf
  refine q_putJ (pc := 10) dX8_setDone_10 pX8_35 rfl e6 ?_
  refine r_return (pc := 13) dX8_setDone_13 rfl ?_
  cases hf
  exact hk
def F_X2_itemFor_81 (S : pS) (l0 : Nat) (l2 : Int32) : Option (Int32 × pS) := (oGA S l0 2 7).bind fun x33 => (oAI S x33 .int l2).bind fun x35 => some (x35, S)
set_option maxRecDepth 100000 in
set_option maxHeartbeats 4000000 in
theorem W_X2_itemFor_81 {X : pX} {Q : pO → Nat → pF → Prop} (S : pS) (l0 : Nat) (l2 : Int32) (r : Int32 × pS) (hf : F_X2_itemFor_81 S l0 l2 = some r) (hk : Q (.inl (some (.int r.1))) r.2.1 r.2.2) : gW X mX2_itemFor 81 [some (.ref l0), none, some (.int l2), none] [] S.1 S.2 Q 0 0 := by
  unfold F_X2_itemFor_81 at hf
  refine r_aload_n (pc := 81) dX2_itemFor_81 rfl ?_
  replace hf := obind hf
  obtain ⟨x33, e34, hf⟩ := hf
  refine q_getA (pc := 82) dX2_itemFor_82 gX2_35 e34 ?_
  refine r_iload_n (pc := 85) dX2_itemFor_85 rfl ?_
  replace hf := obind hf
  obtain ⟨x35, e36, hf⟩ := hf
  refine q_iald (pc := 86) dX2_itemFor_86 e36 ?_
  refine r_ireturn (pc := 87) .int dX2_itemFor_87 rfl rfl ?_
  cases hf
  exact hk
def F_X2_itemFor (S : pS) (a0 : Nat) (a1 : Nat) (a2 : Int32) : Option (Int32 × pS) := (oF S a0 2).bind fun _ => (F_X2_isClone S a0 a2).bind fun q1 => if q1 = 0 then ((oGA S a0 2 2).bind fun x3 => (oGA S a0 2 3).bind fun x5 => (oAI S x5 .int a2).bind fun x7 => (F_X8_makeItem S a1 x3 (a2 * (10 : Int32)) x7).bind fun q9 => (oGA q9.2 a0 2 4).bind fun x11 => (oAI q9.2 x11 .int a2).bind fun x13 => (F_X8_setDay q9.2 a1 q9.1 x13).bind fun q15 => (oGA q15 a0 2 5).bind fun x17 => (oAI q15 x17 .int a2).bind fun x19 => (F_X8_setValue q15 a1 q9.1 x19).bind fun q21 => (oGA q21 a0 2 6).bind fun x23 => (oAI q21 x23 .boolean a2).bind fun x25 => (F_X8_setDone q21 a1 q9.1 x25).bind fun q27 => (oGA q27 a0 2 7).bind fun x29 => (oSI q27 x29 .int a2 q9.1).bind fun S31 => F_X2_itemFor_81 S31 a0 a2) else ((oGA S a0 2 7).bind fun x37 => (F_X2_itemToClone S a0 a2).bind fun q39 => (oSI S x37 .int a2 q39).bind fun S41 => F_X2_itemFor_81 S41 a0 a2)
set_option maxRecDepth 100000 in
set_option maxHeartbeats 4000000 in
theorem C_X2_itemFor {X : pX} {Q : pO → Nat → pF → Prop} (S : pS) (a0 : Nat) (a1 : Nat) (a2 : Int32) (r : Int32 × pS) (hf : F_X2_itemFor S a0 a1 a2 = some r) (hk : Q (.inl (some (.int r.1))) r.2.1 r.2.2) : gC X mX2_itemFor [.ref a0, .ref a1, .int a2] S.1 S.2 Q 0 0 := by
  refine gC_of (by decide) (Nat.le_of_ble_eq_true rfl) rfl ?_
  change gW _ _ _ [some (.ref a0), some (.ref a1), some (.int a2), none] _ _ _ _ _ _
  unfold F_X2_itemFor at hf
  obtain ⟨_, _, hf⟩ := obind hf
  refine r_aload_n (pc := 0) dX2_itemFor_0 rfl ?_
  refine r_iload_n (pc := 1) dX2_itemFor_1 rfl ?_
  replace hf := obind hf
  obtain ⟨q1, e2, hf⟩ := hf
  refine q_callV (pc := 2) (v := some (.int q1)) (S' := S) mX2_isClone 2 [.int a2] dX2_itemFor_2 kX2_70 fX2_isClone iX2_isClone ⟨by decide, by decide⟩ rfl rfl rfl (Nat.le_of_ble_eq_true rfl) (og e2) (mc1 := 0) (ms1 := 0) (mc2 := 0) (ms2 := 0) (by decide) (by decide) (C_X2_isClone S a0 a2 q1 e2 (qR_mk _ _)) ?_
  change gW _ _ _ _ (.int q1 :: _) _ _ _ _ _
  refine r_if_eq (pc := 5) 22 dX2_itemFor_5 (by decide) (fun hc => ?_) (fun hc => ?_)
  · rw [if_pos hc] at hf
    refine r_aload_n (pc := 22) dX2_itemFor_22 rfl ?_
    refine r_aload_n (pc := 23) dX2_itemFor_23 rfl ?_
    replace hf := obind hf
    obtain ⟨x3, e4, hf⟩ := hf
    refine q_getA (pc := 24) dX2_itemFor_24 gX2_18 e4 ?_
    refine r_iload_n (pc := 27) dX2_itemFor_27 rfl ?_
    refine r_bipush (pc := 28) (10 : Int32) dX2_itemFor_28 (by decide) ?_
    refine r_imul (pc := 30) dX2_itemFor_30 ?_
    refine r_aload_n (pc := 31) dX2_itemFor_31 rfl ?_
    replace hf := obind hf
    obtain ⟨x5, e6, hf⟩ := hf
    refine q_getA (pc := 32) dX2_itemFor_32 gX2_22 e6 ?_
    refine r_iload_n (pc := 35) dX2_itemFor_35 rfl ?_
    replace hf := obind hf
    obtain ⟨x7, e8, hf⟩ := hf
    refine q_iald (pc := 36) dX2_itemFor_36 e8 ?_
    replace hf := obind hf
    obtain ⟨q9, e10, hf⟩ := hf
    refine q_callV (pc := 37) (v := some (.int q9.1)) (S' := q9.2) mX8_makeItem 8 [.ref x3, .int (a2 * (10 : Int32)), .int x7] dX2_itemFor_37 kX2_95 fX8_makeItem iX8_makeItem ⟨by decide, by decide⟩ rfl rfl rfl (Nat.le_of_ble_eq_true rfl) (og e10) (mc1 := 0) (ms1 := 0) (mc2 := 0) (ms2 := 0) (by decide) (by decide) (C_X8_makeItem S a1 x3 (a2 * (10 : Int32)) x7 q9 e10 (qR_mk _ _)) ?_
    change gW _ _ _ _ (.int q9.1 :: _) _ _ _ _ _
    refine r_istore_n (pc := 40) dX2_itemFor_40 (by decide) ?_
    change gW _ _ _ [some (.ref a0), some (.ref a1), some (.int a2), some (.int q9.1)] _ _ _ _ _ _
    refine r_aload_n (pc := 41) dX2_itemFor_41 rfl ?_
    refine r_iload_n (pc := 42) dX2_itemFor_42 rfl ?_
    refine r_aload_n (pc := 43) dX2_itemFor_43 rfl ?_
    replace hf := obind hf
    obtain ⟨x11, e12, hf⟩ := hf
    refine q_getA (pc := 44) dX2_itemFor_44 gX2_25 e12 ?_
    refine r_iload_n (pc := 47) dX2_itemFor_47 rfl ?_
    replace hf := obind hf
    obtain ⟨x13, e14, hf⟩ := hf
    refine q_iald (pc := 48) dX2_itemFor_48 e14 ?_
    replace hf := obind hf
    obtain ⟨q15, e16, hf⟩ := hf
    refine q_callV (pc := 49) (v := none) (S' := q15) mX8_setDay 8 [.int q9.1, .int x13] dX2_itemFor_49 kX2_101 fX8_setDay iX8_setDay ⟨by decide, by decide⟩ rfl rfl rfl (Nat.le_of_ble_eq_true rfl) (og e16) (mc1 := 0) (ms1 := 0) (mc2 := 0) (ms2 := 0) (by decide) (by decide) (C_X8_setDay q9.2 a1 q9.1 x13 q15 e16 (qR_mk _ _)) ?_
    refine r_aload_n (pc := 52) dX2_itemFor_52 rfl ?_
    refine r_iload_n (pc := 53) dX2_itemFor_53 rfl ?_
    refine r_aload_n (pc := 54) dX2_itemFor_54 rfl ?_
    replace hf := obind hf
    obtain ⟨x17, e18, hf⟩ := hf
    refine q_getA (pc := 55) dX2_itemFor_55 gX2_28 e18 ?_
    refine r_iload_n (pc := 58) dX2_itemFor_58 rfl ?_
    replace hf := obind hf
    obtain ⟨x19, e20, hf⟩ := hf
    refine q_iald (pc := 59) dX2_itemFor_59 e20 ?_
    replace hf := obind hf
    obtain ⟨q21, e22, hf⟩ := hf
    refine q_callV (pc := 60) (v := none) (S' := q21) mX8_setValue 8 [.int q9.1, .int x19] dX2_itemFor_60 kX2_105 fX8_setValue iX8_setValue ⟨by decide, by decide⟩ rfl rfl rfl (Nat.le_of_ble_eq_true rfl) (og e22) (mc1 := 0) (ms1 := 0) (mc2 := 0) (ms2 := 0) (by decide) (by decide) (C_X8_setValue q15 a1 q9.1 x19 q21 e22 (qR_mk _ _)) ?_
    refine r_aload_n (pc := 63) dX2_itemFor_63 rfl ?_
    refine r_iload_n (pc := 64) dX2_itemFor_64 rfl ?_
    refine r_aload_n (pc := 65) dX2_itemFor_65 rfl ?_
    replace hf := obind hf
    obtain ⟨x23, e24, hf⟩ := hf
    refine q_getA (pc := 66) dX2_itemFor_66 gX2_31 e24 ?_
    refine r_iload_n (pc := 69) dX2_itemFor_69 rfl ?_
    replace hf := obind hf
    obtain ⟨x25, e26, hf⟩ := hf
    refine q_zald (pc := 70) dX2_itemFor_70 e26 ?_
    replace hf := obind hf
    obtain ⟨q27, e28, hf⟩ := hf
    refine q_callV (pc := 71) (v := none) (S' := q27) mX8_setDone 8 [.int q9.1, .int x25] dX2_itemFor_71 kX2_108 fX8_setDone iX8_setDone ⟨by decide, by decide⟩ rfl rfl rfl (Nat.le_of_ble_eq_true rfl) (og e28) (mc1 := 0) (ms1 := 0) (mc2 := 0) (ms2 := 0) (by decide) (by decide) (C_X8_setDone q21 a1 q9.1 x25 q27 e28 (qR_mk _ _)) ?_
    refine r_aload_n (pc := 74) dX2_itemFor_74 rfl ?_
    replace hf := obind hf
    obtain ⟨x29, e30, hf⟩ := hf
    refine q_getA (pc := 75) dX2_itemFor_75 gX2_35 e30 ?_
    refine r_iload_n (pc := 78) dX2_itemFor_78 rfl ?_
    refine r_iload_n (pc := 79) dX2_itemFor_79 rfl ?_
    replace hf := obind hf
    obtain ⟨S31, e32, hf⟩ := hf
    refine q_iast (pc := 80) dX2_itemFor_80 e32 ?_
    refine gW.mono (mc := 0) (ms := 0) ?_ (fun _ _ _ q => q) (by decide) (by decide)
    exact gW.weak (by simp [gle]) (W_X2_itemFor_81 S31 a0 a2 r hf hk)
  · rw [if_neg hc] at hf
    refine r_aload_n (pc := 8) dX2_itemFor_8 rfl ?_
    replace hf := obind hf
    obtain ⟨x37, e38, hf⟩ := hf
    refine q_getA (pc := 9) dX2_itemFor_9 gX2_35 e38 ?_
    refine r_iload_n (pc := 12) dX2_itemFor_12 rfl ?_
    refine r_aload_n (pc := 13) dX2_itemFor_13 rfl ?_
    refine r_iload_n (pc := 14) dX2_itemFor_14 rfl ?_
    replace hf := obind hf
    obtain ⟨q39, e40, hf⟩ := hf
    refine q_callV (pc := 15) (v := some (.int q39)) (S' := S) mX2_itemToClone 2 [.int a2] dX2_itemFor_15 kX2_92 fX2_itemToClone iX2_itemToClone ⟨by decide, by decide⟩ rfl rfl rfl (Nat.le_of_ble_eq_true rfl) (og e40) (mc1 := 0) (ms1 := 0) (mc2 := 0) (ms2 := 0) (by decide) (by decide) (C_X2_itemToClone S a0 a2 q39 e40 (qR_mk _ _)) ?_
    change gW _ _ _ _ (.int q39 :: _) _ _ _ _ _
    replace hf := obind hf
    obtain ⟨S41, e42, hf⟩ := hf
    refine q_iast (pc := 18) dX2_itemFor_18 e42 ?_
    refine r_goto (pc := 19) 81 dX2_itemFor_19 (by decide) ?_
    refine gW.mono (mc := 0) (ms := 0) ?_ (fun _ _ _ q => q) (by decide) (by decide)
    exact gW.weak (by simp [gle]) (W_X2_itemFor_81 S41 a0 a2 r hf hk)
def F_X3_init (S : pS) (a0 : Nat) : Option (pS) := (oPA (oNew S (.inl (.object "CloneOutliner$Tree", 8, .inr (.inr (.inr (.inr (fun _ => none))))))) a0 3 0 S.1).bind fun S1 => (oPI S1 a0 3 1 (0 : Int32)).bind fun S3 => some S3
set_option maxRecDepth 100000 in
set_option maxHeartbeats 4000000 in
theorem C_X3_init {X : pX} {Q : pO → Nat → pF → Prop} (S : pS) (a0 : Nat) (r : pS) (hf : F_X3_init S a0 = some r) (hk : Q (.inl none) r.1 r.2) : gC X mX3_init [.ref a0] S.1 S.2 Q 1 8 := by
  refine gC_of (by decide) (Nat.le_of_ble_eq_true rfl) rfl ?_
  change gW _ _ _ [some (.ref a0)] _ _ _ _ _ _
  unfold F_X3_init at hf
  refine r_aload_n (pc := 0) dX3_init_0 rfl ?_
  refine r_objInit (pc := 1) dX3_init_1 kX3_3 k_obj.1 k_obj.2 ⟨by decide, Nat.le_of_ble_eq_true rfl⟩ ?_
  refine r_aload_n (pc := 4) dX3_init_4 rfl ?_
  refine r_bipush (pc := 5) (8 : Int32) dX3_init_5 (by decide) ?_
  refine r_anewa (pc := 7) (N := 8) "CloneOutliner$Tree" dX3_init_7 (by decide) rfl nX3_9.1 (by decide) (by decide) (by decide) (mc2 := 0) (ms2 := 0) (by decide) (by decide) ?_
  change gW _ _ _ _ _ (oNew S (.inl (.object "CloneOutliner$Tree", 8, .inr (.inr (.inr (.inr (fun _ => none))))))).1 (oNew S (.inl (.object "CloneOutliner$Tree", 8, .inr (.inr (.inr (.inr (fun _ => none))))))).2 _ _ _
  replace hf := obind hf
  obtain ⟨S1, e2, hf⟩ := hf
  refine q_putAF (pc := 10) dX3_init_10 pX3_11 (Or.inr ⟨_, rfl⟩) rfl e2 ?_
  refine r_aload_n (pc := 13) dX3_init_13 rfl ?_
  refine r_iconst (pc := 14) (0 : Int32) dX3_init_14 (by decide) ?_
  replace hf := obind hf
  obtain ⟨S3, e4, hf⟩ := hf
  refine q_putI (pc := 15) dX3_init_15 pX3_17 rfl e4 ?_
  refine r_return (pc := 18) dX3_init_18 rfl ?_
  cases hf
  exact hk
def F_X3_size (S : pS) (a0 : Nat) : Option (Int32) := (oF S a0 3).bind fun _ => (oGI S a0 3 1).bind fun x1 => some x1
set_option maxRecDepth 100000 in
set_option maxHeartbeats 4000000 in
theorem C_X3_size {X : pX} {Q : pO → Nat → pF → Prop} (S : pS) (a0 : Nat) (r : Int32) (hf : F_X3_size S a0 = some r) (hk : Q (.inl (some (.int r))) S.1 S.2) : gC X mX3_size [.ref a0] S.1 S.2 Q 0 0 := by
  refine gC_of (by decide) (Nat.le_of_ble_eq_true rfl) rfl ?_
  change gW _ _ _ [some (.ref a0)] _ _ _ _ _ _
  unfold F_X3_size at hf
  obtain ⟨_, _, hf⟩ := obind hf
  refine r_aload_n (pc := 0) dX3_size_0 rfl ?_
  replace hf := obind hf
  obtain ⟨x1, e2, hf⟩ := hf
  refine q_getI (pc := 1) dX3_size_1 gX3_17 e2 ?_
  refine r_ireturn (pc := 4) .int dX3_size_4 rfl rfl ?_
  cases hf
  exact hk
def F_X3_forget (S : pS) (a0 : Nat) : Option (pS) := (oF S a0 3).bind fun _ => (oPI S a0 3 1 (0 : Int32)).bind fun S1 => some S1
set_option maxRecDepth 100000 in
set_option maxHeartbeats 4000000 in
theorem C_X3_forget {X : pX} {Q : pO → Nat → pF → Prop} (S : pS) (a0 : Nat) (r : pS) (hf : F_X3_forget S a0 = some r) (hk : Q (.inl none) r.1 r.2) : gC X mX3_forget [.ref a0] S.1 S.2 Q 0 0 := by
  refine gC_of (by decide) (Nat.le_of_ble_eq_true rfl) rfl ?_
  change gW _ _ _ [some (.ref a0)] _ _ _ _ _ _
  unfold F_X3_forget at hf
  obtain ⟨_, _, hf⟩ := obind hf
  refine r_aload_n (pc := 0) dX3_forget_0 rfl ?_
  refine r_iconst (pc := 1) (0 : Int32) dX3_forget_1 (by decide) ?_
  replace hf := obind hf
  obtain ⟨S1, e2, hf⟩ := hf
  refine q_putI (pc := 2) dX3_forget_2 pX3_17 rfl e2 ?_
  refine r_return (pc := 5) dX3_forget_5 rfl ?_
  cases hf
  exact hk
def F_X8_init (S : pS) (a0 : Nat) : Option (pS) := (oPA (oNew S (.inl (.int, 61, .inl (fun _ => 0)))) a0 8 0 S.1).bind fun S1 => (oPA (oNew S1 (.inl (.int, 732, .inl (fun _ => 0)))) a0 8 1 S1.1).bind fun S3 => (oPA (oNew S3 (.inl (.int, 61, .inl (fun _ => 0)))) a0 8 2 S3.1).bind fun S5 => (oPA (oNew S5 (.inl (.char, 610, .inl (fun _ => 0)))) a0 8 3 S5.1).bind fun S7 => (oPA (oNew S7 (.inl (.int, 61, .inl (fun _ => 0)))) a0 8 4 S7.1).bind fun S9 => (oPA (oNew S9 (.inl (.int, 61, .inl (fun _ => 0)))) a0 8 5 S9.1).bind fun S11 => (oPJ S11 a0 8 6 (1 : Int64)).bind fun S13 => (oPJ S13 a0 8 7 (0 : Int64)).bind fun S15 => (oPJ S15 a0 8 8 (0 : Int64)).bind fun S17 => (oPI S17 a0 8 9 (0 : Int32)).bind fun S19 => (oGA S19 a0 8 5).bind fun x21 => (oSI S19 x21 .int (0 : Int32) (-1 : Int32)).bind fun S23 => some S23
set_option maxRecDepth 100000 in
set_option maxHeartbeats 4000000 in
theorem C_X8_init {X : pX} {Q : pO → Nat → pF → Prop} (S : pS) (a0 : Nat) (r : pS) (hf : F_X8_init S a0 = some r) (hk : Q (.inl none) r.1 r.2) : gC X mX8_init [.ref a0] S.1 S.2 Q 6 1586 := by
  refine gC_of (by decide) (Nat.le_of_ble_eq_true rfl) rfl ?_
  change gW _ _ _ [some (.ref a0)] _ _ _ _ _ _
  unfold F_X8_init at hf
  refine r_aload_n (pc := 0) dX8_init_0 rfl ?_
  refine r_objInit (pc := 1) dX8_init_1 kX8_3 k_obj.1 k_obj.2 ⟨by decide, Nat.le_of_ble_eq_true rfl⟩ ?_
  refine r_aload_n (pc := 4) dX8_init_4 rfl ?_
  refine r_bipush (pc := 5) (61 : Int32) dX8_init_5 (by decide) ?_
  refine r_newa (pc := 7) .int .int (61, .inl (fun _ => 0)) dX8_init_7 rfl (by decide) k_arr_int (fun _ => rfl) (fun _ => rfl) (by decide) (by decide) (by decide) (mc2 := 5) (ms2 := 1525) (by decide) (by decide) ?_
  change gW _ _ _ _ _ (oNew S (.inl (.int, 61, .inl (fun _ => 0)))).1 (oNew S (.inl (.int, 61, .inl (fun _ => 0)))).2 _ _ _
  replace hf := obind hf
  obtain ⟨S1, e2, hf⟩ := hf
  refine q_putAF (pc := 9) dX8_init_9 pX8_9 (Or.inr ⟨_, rfl⟩) rfl e2 ?_
  refine r_aload_n (pc := 12) dX8_init_12 rfl ?_
  refine r_sipush (pc := 13) (732 : Int32) dX8_init_13 (by decide) ?_
  refine r_newa (pc := 16) .int .int (732, .inl (fun _ => 0)) dX8_init_16 rfl (by decide) k_arr_int (fun _ => rfl) (fun _ => rfl) (by decide) (by decide) (by decide) (mc2 := 4) (ms2 := 793) (by decide) (by decide) ?_
  change gW _ _ _ _ _ (oNew S1 (.inl (.int, 732, .inl (fun _ => 0)))).1 (oNew S1 (.inl (.int, 732, .inl (fun _ => 0)))).2 _ _ _
  replace hf := obind hf
  obtain ⟨S3, e4, hf⟩ := hf
  refine q_putAF (pc := 18) dX8_init_18 pX8_15 (Or.inr ⟨_, rfl⟩) rfl e4 ?_
  refine r_aload_n (pc := 21) dX8_init_21 rfl ?_
  refine r_bipush (pc := 22) (61 : Int32) dX8_init_22 (by decide) ?_
  refine r_newa (pc := 24) .int .int (61, .inl (fun _ => 0)) dX8_init_24 rfl (by decide) k_arr_int (fun _ => rfl) (fun _ => rfl) (by decide) (by decide) (by decide) (mc2 := 3) (ms2 := 732) (by decide) (by decide) ?_
  change gW _ _ _ _ _ (oNew S3 (.inl (.int, 61, .inl (fun _ => 0)))).1 (oNew S3 (.inl (.int, 61, .inl (fun _ => 0)))).2 _ _ _
  replace hf := obind hf
  obtain ⟨S5, e6, hf⟩ := hf
  refine q_putAF (pc := 26) dX8_init_26 pX8_18 (Or.inr ⟨_, rfl⟩) rfl e6 ?_
  refine r_aload_n (pc := 29) dX8_init_29 rfl ?_
  refine r_sipush (pc := 30) (610 : Int32) dX8_init_30 (by decide) ?_
  refine r_newa (pc := 33) .char .char (610, .inl (fun _ => 0)) dX8_init_33 rfl (by decide) k_arr_char (fun _ => rfl) (fun _ => rfl) (by decide) (by decide) (by decide) (mc2 := 2) (ms2 := 122) (by decide) (by decide) ?_
  change gW _ _ _ _ _ (oNew S5 (.inl (.char, 610, .inl (fun _ => 0)))).1 (oNew S5 (.inl (.char, 610, .inl (fun _ => 0)))).2 _ _ _
  replace hf := obind hf
  obtain ⟨S7, e8, hf⟩ := hf
  refine q_putAF (pc := 35) dX8_init_35 pX8_21 (Or.inr ⟨_, rfl⟩) rfl e8 ?_
  refine r_aload_n (pc := 38) dX8_init_38 rfl ?_
  refine r_bipush (pc := 39) (61 : Int32) dX8_init_39 (by decide) ?_
  refine r_newa (pc := 41) .int .int (61, .inl (fun _ => 0)) dX8_init_41 rfl (by decide) k_arr_int (fun _ => rfl) (fun _ => rfl) (by decide) (by decide) (by decide) (mc2 := 1) (ms2 := 61) (by decide) (by decide) ?_
  change gW _ _ _ _ _ (oNew S7 (.inl (.int, 61, .inl (fun _ => 0)))).1 (oNew S7 (.inl (.int, 61, .inl (fun _ => 0)))).2 _ _ _
  replace hf := obind hf
  obtain ⟨S9, e10, hf⟩ := hf
  refine q_putAF (pc := 43) dX8_init_43 pX8_25 (Or.inr ⟨_, rfl⟩) rfl e10 ?_
  refine r_aload_n (pc := 46) dX8_init_46 rfl ?_
  refine r_bipush (pc := 47) (61 : Int32) dX8_init_47 (by decide) ?_
  refine r_newa (pc := 49) .int .int (61, .inl (fun _ => 0)) dX8_init_49 rfl (by decide) k_arr_int (fun _ => rfl) (fun _ => rfl) (by decide) (by decide) (by decide) (mc2 := 0) (ms2 := 0) (by decide) (by decide) ?_
  change gW _ _ _ _ _ (oNew S9 (.inl (.int, 61, .inl (fun _ => 0)))).1 (oNew S9 (.inl (.int, 61, .inl (fun _ => 0)))).2 _ _ _
  replace hf := obind hf
  obtain ⟨S11, e12, hf⟩ := hf
  refine q_putAF (pc := 51) dX8_init_51 pX8_28 (Or.inr ⟨_, rfl⟩) rfl e12 ?_
  refine r_aload_n (pc := 54) dX8_init_54 rfl ?_
  refine r_lconst (pc := 55) (1 : Int64) dX8_init_55 (by decide) ?_
  replace hf := obind hf
  obtain ⟨S13, e14, hf⟩ := hf
  refine q_putJ (pc := 56) dX8_init_56 pX8_31 rfl e14 ?_
  refine r_aload_n (pc := 59) dX8_init_59 rfl ?_
  refine r_lconst (pc := 60) (0 : Int64) dX8_init_60 (by decide) ?_
  replace hf := obind hf
  obtain ⟨S15, e16, hf⟩ := hf
  refine q_putJ (pc := 61) dX8_init_61 pX8_35 rfl e16 ?_
  refine r_aload_n (pc := 64) dX8_init_64 rfl ?_
  refine r_lconst (pc := 65) (0 : Int64) dX8_init_65 (by decide) ?_
  replace hf := obind hf
  obtain ⟨S17, e18, hf⟩ := hf
  refine q_putJ (pc := 66) dX8_init_66 pX8_38 rfl e18 ?_
  refine r_aload_n (pc := 69) dX8_init_69 rfl ?_
  refine r_iconst (pc := 70) (0 : Int32) dX8_init_70 (by decide) ?_
  replace hf := obind hf
  obtain ⟨S19, e20, hf⟩ := hf
  refine q_putI (pc := 71) dX8_init_71 pX8_41 rfl e20 ?_
  refine r_aload_n (pc := 74) dX8_init_74 rfl ?_
  replace hf := obind hf
  obtain ⟨x21, e22, hf⟩ := hf
  refine q_getA (pc := 75) dX8_init_75 gX8_28 e22 ?_
  refine r_iconst (pc := 78) (0 : Int32) dX8_init_78 (by decide) ?_
  refine r_iconst (pc := 79) (-1 : Int32) dX8_init_79 (by decide) ?_
  replace hf := obind hf
  obtain ⟨S23, e24, hf⟩ := hf
  refine q_iast (pc := 80) dX8_init_80 e24 ?_
  refine r_return (pc := 81) dX8_init_81 rfl ?_
  cases hf
  exact hk
abbrev L_X3_push_51 (l0 : Nat) (l1 : Nat) (l2 : Option Nat) : Int32 × pS → List (Option Value) := fun a => [some (.ref l0), some (.ref l1), some (va_rf l2), some (.int a.1)]
abbrev s_X3_push_51 (l0 : Nat) (l1 : Nat) (l2 : Option Nat) : Int32 × pS → pS := fun a => a.2
abbrev K_X3_push_51 (X : pX) (Q : pO → Nat → pF → Prop) (mc ms : Nat) (l0 : Nat) (l1 : Nat) (l2 : Option Nat) : pS → Prop := (fun b => gW X mX3_push 77 [some (.ref l0), some (.ref l1), some (va_rf l2), none] [] b.1 b.2 Q mc ms)
def F_X3_push_51 (l0 : Nat) (l1 : Nat) (l2 : Option Nat) : Int32 × pS → Option ((Int32 × pS) ⊕ (pS)) := fun a => if (8 : Int32) ≤ a.1 then (some (.inr a.2)) else ((oGA a.2 l0 3 0).bind fun x7 => (oGA a.2 l0 3 0).bind fun x9 => (oAR a.2 x9 (.object "CloneOutliner$Tree") a.1).bind fun x11 => (oSQ a.2 x7 (a.1 - (1 : Int32)) x11).bind fun S13 => some (.inl (a.1 + (1 : Int32), S13)))
set_option maxRecDepth 100000 in
set_option maxHeartbeats 4000000 in
theorem W_X3_push_51 {X : pX} {Q : pO → Nat → pF → Prop} {mc ms : Nat} (l0 : Nat) (l1 : Nat) (l2 : Option Nat) : ∀ (a : Int32 × pS) (r : (Int32 × pS) ⊕ (pS)), F_X3_push_51 l0 l1 l2 a = some r → Sum.elim (fun a' => gW X mX3_push 51 (L_X3_push_51 l0 l1 l2 a') [] (s_X3_push_51 l0 l1 l2 a').1 (s_X3_push_51 l0 l1 l2 a').2 Q mc ms) (K_X3_push_51 X Q mc ms l0 l1 l2) r → gW X mX3_push 51 (L_X3_push_51 l0 l1 l2 a) [] (s_X3_push_51 l0 l1 l2 a).1 (s_X3_push_51 l0 l1 l2 a).2 Q mc ms := by
  intro a r hf hk
  obtain ⟨l3, S⟩ := a
  unfold F_X3_push_51 at hf
  try dsimp only at hf
  change gW _ _ _ [some (.ref l0), some (.ref l1), some (va_rf l2), some (.int l3)] _ S.1 S.2 _ _ _
  refine r_iload_n (pc := 51) dX3_push_51 rfl ?_
  refine r_bipush (pc := 52) (8 : Int32) dX3_push_52 (by decide) ?_
  refine r_icmp_ge (pc := 54) 77 dX3_push_54 (by decide) (fun hc => ?_) (fun hc => ?_)
  · rw [if_pos hc] at hf
    cases hf
    exact gW.weak (by simp [gle]) hk
  · rw [if_neg hc] at hf
    refine r_aload_n (pc := 57) dX3_push_57 rfl ?_
    replace hf := obind hf
    obtain ⟨x7, e8, hf⟩ := hf
    refine q_getA (pc := 58) dX3_push_58 gX3_11 e8 ?_
    refine r_iload_n (pc := 61) dX3_push_61 rfl ?_
    refine r_iconst (pc := 62) (1 : Int32) dX3_push_62 (by decide) ?_
    refine r_isub (pc := 63) dX3_push_63 ?_
    refine r_aload_n (pc := 64) dX3_push_64 rfl ?_
    replace hf := obind hf
    obtain ⟨x9, e10, hf⟩ := hf
    refine q_getA (pc := 65) dX3_push_65 gX3_11 e10 ?_
    refine r_iload_n (pc := 68) dX3_push_68 rfl ?_
    replace hf := obind hf
    obtain ⟨x11, e12, hf⟩ := hf
    refine q_aald (pc := 69) "CloneOutliner$Tree" dX3_push_69 (by decide) e12 ?_
    replace hf := obind hf
    obtain ⟨S13, e14, hf⟩ := hf
    refine q_aast (pc := 70) dX3_push_70 e14 ?_
    refine r_iinc (pc := 71) dX3_push_71 rfl (by decide) ?_
    show gW _ _ _ (gst1 _ 3 _) _ _ _ _ _ _
    simp only [gst1, gkill_rf]
    change gW _ _ _ [some (.ref l0), some (.ref l1), some (va_rf l2), some (.int (l3 + (1 : Int32)))] _ _ _ _ _ _
    refine r_goto (pc := 74) 51 dX3_push_74 (by decide) ?_
    cases hf
    exact gW.weak (by simp [gle]) hk
def F_X3_push_85 (S : pS) (l2 : Option Nat) : Option (Nat × pS) := (match l2 with | none => ((F_X8_init (oNew S (.inr (8, dfX8))) S.1).bind fun q22 => some (S.1, q22)) | some b21 => (some (b21, S)))
set_option maxRecDepth 100000 in
set_option maxHeartbeats 4000000 in
theorem W_X3_push_85 {X : pX} {Q : pO → Nat → pF → Prop} (S : pS) (l2 : Option Nat) (r : Nat × pS) (hf : F_X3_push_85 S l2 = some r) (hk : Q (.inl (some (.ref r.1))) r.2.1 r.2.2) : gW X mX3_push 85 [none, none, some (va_rf l2), none] [] S.1 S.2 Q 7 1596 := by
  unfold F_X3_push_85 at hf
  refine q_nload_n (pc := 85) dX3_push_85 rfl ?_
  cases l2 with
  | none =>
    replace hf := hf
    refine r_ifnonnullN (pc := 86) dX3_push_86 ?_
    refine r_new (pc := 89) 8 tyX8 dX3_push_89 rfl uX8 tyX8_ok nX3_9.1 nX3_9.2.1 nX3_9.2.2 (mc2 := 6) (ms2 := 1586) (by decide) (by decide) dfX8_ok ?_
    change gW _ _ _ _ _ (oNew S (.inr (8, dfX8))).1 (oNew S (.inr (8, dfX8))).2 _ _ _
    refine r_dup (pc := 92) dX3_push_92 rfl ?_
    replace hf := obind hf
    obtain ⟨q22, e23, hf⟩ := hf
    refine q_callI (pc := 93) (S' := q22) mX8_init dX3_push_93 kX3_21 fX8_init iX8_init rfl rfl ⟨by decide, by decide⟩ (Nat.le_of_ble_eq_true rfl) (mc1 := 6) (ms1 := 1586) (mc2 := 0) (ms2 := 0) (by decide) (by decide) (C_X8_init (oNew S (.inr (8, dfX8))) S.1 q22 e23 (qR_mk _ _)) ?_
    refine r_goto (pc := 96) 100 dX3_push_96 (by decide) ?_
    refine r_areturn (pc := 100) "CloneOutliner$Tree" dX3_push_100 rfl ?_
    cases hf
    exact hk
  | some b21 =>
    replace hf := hf
    refine r_ifnonnull (pc := 86) 99 dX3_push_86 (by decide) ?_
    refine r_aload_n (pc := 99) dX3_push_99 rfl ?_
    refine r_areturn (pc := 100) "CloneOutliner$Tree" dX3_push_100 rfl ?_
    cases hf
    exact hk
def F_X3_push (S : pS) (a0 : Nat) (a1 : Nat) : Option (Nat × pS) := (oF S a0 3).bind fun _ => (oGI S a0 3 1).bind fun x1 => if (8 : Int32) ≤ x1 then ((oGA S a0 3 0).bind fun x3 => (oAR S x3 (.object "CloneOutliner$Tree") (0 : Int32)).bind fun x5 => (iter (F_X3_push_51 a0 a1 x5) fu ((1 : Int32), S)).bind fun r15 => (oGA r15 a0 3 0).bind fun x17 => (oSQ r15 x17 (7 : Int32) (some a1)).bind fun S19 => F_X3_push_85 S19 x5) else ((oGA S a0 3 0).bind fun x24 => (oGI S a0 3 1).bind fun x26 => (oAR S x24 (.object "CloneOutliner$Tree") x26).bind fun x28 => (oGA S a0 3 0).bind fun x30 => (oGI S a0 3 1).bind fun x32 => (oSQ S x30 x32 (some a1)).bind fun S34 => (oGI S34 a0 3 1).bind fun x36 => (oPI S34 a0 3 1 (x36 + (1 : Int32))).bind fun S38 => F_X3_push_85 S38 x28)
set_option maxRecDepth 100000 in
set_option maxHeartbeats 4000000 in
theorem C_X3_push {X : pX} {Q : pO → Nat → pF → Prop} (S : pS) (a0 : Nat) (a1 : Nat) (r : Nat × pS) (hf : F_X3_push S a0 a1 = some r) (hk : Q (.inl (some (.ref r.1))) r.2.1 r.2.2) : gC X mX3_push [.ref a0, .ref a1] S.1 S.2 Q 7 1596 := by
  refine gC_of (by decide) (Nat.le_of_ble_eq_true rfl) rfl ?_
  change gW _ _ _ [some (.ref a0), some (.ref a1), none, none] _ _ _ _ _ _
  unfold F_X3_push at hf
  obtain ⟨_, _, hf⟩ := obind hf
  refine r_aload_n (pc := 0) dX3_push_0 rfl ?_
  replace hf := obind hf
  obtain ⟨x1, e2, hf⟩ := hf
  refine q_getI (pc := 1) dX3_push_1 gX3_17 e2 ?_
  refine r_bipush (pc := 4) (8 : Int32) dX3_push_4 (by decide) ?_
  refine r_icmp_ge (pc := 6) 42 dX3_push_6 (by decide) (fun hc => ?_) (fun hc => ?_)
  · rw [if_pos hc] at hf
    refine r_aload_n (pc := 42) dX3_push_42 rfl ?_
    replace hf := obind hf
    obtain ⟨x3, e4, hf⟩ := hf
    refine q_getA (pc := 43) dX3_push_43 gX3_11 e4 ?_
    refine r_iconst (pc := 46) (0 : Int32) dX3_push_46 (by decide) ?_
    replace hf := obind hf
    obtain ⟨x5, e6, hf⟩ := hf
    refine q_aald (pc := 47) "CloneOutliner$Tree" dX3_push_47 (by decide) e6 ?_
    refine q_nstore_n (pc := 48) dX3_push_48 (by decide) ?_
    change gW _ _ _ [some (.ref a0), some (.ref a1), some (va_rf x5), none] _ _ _ _ _ _
    refine r_iconst (pc := 49) (1 : Int32) dX3_push_49 (by decide) ?_
    refine r_istore_n (pc := 50) dX3_push_50 (by decide) ?_
    show gW _ _ _ (gst1 _ 3 _) _ _ _ _ _ _
    simp only [gst1, gkill_rf]
    change gW _ _ _ [some (.ref a0), some (.ref a1), some (va_rf x5), some (.int (1 : Int32))] _ _ _ _ _ _
    replace hf := obind hf
    obtain ⟨r15, e16, hf⟩ := hf
    refine gW.weak (ls' := [some (.ref a0), some (.ref a1), some (va_rf x5), some (.int (1 : Int32))]) (by simp [gle]) ?_
    refine g_iter (L := L_X3_push_51 a0 a1 x5) (s := s_X3_push_51 a0 a1 x5) (K := K_X3_push_51 X Q _ _ a0 a1 x5) (W_X3_push_51 a0 a1 x5) fu ((1 : Int32), S) _ e16 ?_
    show gW _ _ 77 [some (.ref a0), some (.ref a1), some (va_rf x5), none] [] r15.1 r15.2 _ _ _
    refine r_aload_n (pc := 77) dX3_push_77 rfl ?_
    replace hf := obind hf
    obtain ⟨x17, e18, hf⟩ := hf
    refine q_getA (pc := 78) dX3_push_78 gX3_11 e18 ?_
    refine r_bipush (pc := 81) (7 : Int32) dX3_push_81 (by decide) ?_
    refine r_aload_n (pc := 83) dX3_push_83 rfl ?_
    replace hf := obind hf
    obtain ⟨S19, e20, hf⟩ := hf
    refine q_aast (pc := 84) dX3_push_84 e20 ?_
    refine gW.mono (mc := 7) (ms := 1596) ?_ (fun _ _ _ q => q) (by decide) (by decide)
    exact gW.weak (by simp [gle]) (W_X3_push_85 S19 x5 r hf hk)
  · rw [if_neg hc] at hf
    refine r_aload_n (pc := 9) dX3_push_9 rfl ?_
    replace hf := obind hf
    obtain ⟨x24, e25, hf⟩ := hf
    refine q_getA (pc := 10) dX3_push_10 gX3_11 e25 ?_
    refine r_aload_n (pc := 13) dX3_push_13 rfl ?_
    replace hf := obind hf
    obtain ⟨x26, e27, hf⟩ := hf
    refine q_getI (pc := 14) dX3_push_14 gX3_17 e27 ?_
    replace hf := obind hf
    obtain ⟨x28, e29, hf⟩ := hf
    refine q_aald (pc := 17) "CloneOutliner$Tree" dX3_push_17 (by decide) e29 ?_
    refine q_nstore_n (pc := 18) dX3_push_18 (by decide) ?_
    change gW _ _ _ [some (.ref a0), some (.ref a1), some (va_rf x28), none] _ _ _ _ _ _
    refine r_aload_n (pc := 19) dX3_push_19 rfl ?_
    replace hf := obind hf
    obtain ⟨x30, e31, hf⟩ := hf
    refine q_getA (pc := 20) dX3_push_20 gX3_11 e31 ?_
    refine r_aload_n (pc := 23) dX3_push_23 rfl ?_
    replace hf := obind hf
    obtain ⟨x32, e33, hf⟩ := hf
    refine q_getI (pc := 24) dX3_push_24 gX3_17 e33 ?_
    refine r_aload_n (pc := 27) dX3_push_27 rfl ?_
    replace hf := obind hf
    obtain ⟨S34, e35, hf⟩ := hf
    refine q_aast (pc := 28) dX3_push_28 e35 ?_
    refine r_aload_n (pc := 29) dX3_push_29 rfl ?_
    refine r_dup (pc := 30) dX3_push_30 rfl ?_
    replace hf := obind hf
    obtain ⟨x36, e37, hf⟩ := hf
    refine q_getI (pc := 31) dX3_push_31 gX3_17 e37 ?_
    refine r_iconst (pc := 34) (1 : Int32) dX3_push_34 (by decide) ?_
    refine r_iadd (pc := 35) dX3_push_35 ?_
    replace hf := obind hf
    obtain ⟨S38, e39, hf⟩ := hf
    refine q_putI (pc := 36) dX3_push_36 pX3_17 rfl e39 ?_
    refine r_goto (pc := 39) 85 dX3_push_39 (by decide) ?_
    refine gW.mono (mc := 7) (ms := 1596) ?_ (fun _ _ _ q => q) (by decide) (by decide)
    exact gW.weak (by simp [gle]) (W_X3_push_85 S38 x28 r hf hk)
def F_X3_pop_50 (S : pS) (l1 : Nat) (l2 : Option Nat) : Option (Nat × pS) := (match l2 with | none => (some (l1, S)) | some b5 => (some (b5, S)))
set_option maxRecDepth 100000 in
set_option maxHeartbeats 4000000 in
theorem W_X3_pop_50 {X : pX} {Q : pO → Nat → pF → Prop} (S : pS) (l1 : Nat) (l2 : Option Nat) (r : Nat × pS) (hf : F_X3_pop_50 S l1 l2 = some r) (hk : Q (.inl (some (.ref r.1))) r.2.1 r.2.2) : gW X mX3_pop 50 [none, some (.ref l1), some (va_rf l2)] [] S.1 S.2 Q 0 0 := by
  unfold F_X3_pop_50 at hf
  refine q_nload_n (pc := 50) dX3_pop_50 rfl ?_
  cases l2 with
  | none =>
    replace hf := hf
    refine r_ifnonnullN (pc := 51) dX3_pop_51 ?_
    refine r_aload_n (pc := 54) dX3_pop_54 rfl ?_
    refine r_goto (pc := 55) 59 dX3_pop_55 (by decide) ?_
    refine r_areturn (pc := 59) "CloneOutliner$Tree" dX3_pop_59 rfl ?_
    cases hf
    exact hk
  | some b5 =>
    replace hf := hf
    refine r_ifnonnull (pc := 51) 58 dX3_pop_51 (by decide) ?_
    refine r_aload_n (pc := 58) dX3_pop_58 rfl ?_
    refine r_areturn (pc := 59) "CloneOutliner$Tree" dX3_pop_59 rfl ?_
    cases hf
    exact hk
def F_X3_pop_22 (S : pS) (l0 : Nat) (l1 : Nat) (t0 : Option Nat) : Option (Nat × pS) := (oGI S l0 3 1).bind fun x3 => if x3 ≤ 0 then (F_X3_pop_50 S l1 t0) else ((oGI S l0 3 1).bind fun x6 => (oPI S l0 3 1 (x6 - (1 : Int32))).bind fun S8 => (oGA S8 l0 3 0).bind fun x10 => (oGI S8 l0 3 1).bind fun x12 => (oSQ S8 x10 x12 (some l1)).bind fun S14 => F_X3_pop_50 S14 l1 t0)
set_option maxRecDepth 100000 in
set_option maxHeartbeats 4000000 in
theorem W_X3_pop_22 {X : pX} {Q : pO → Nat → pF → Prop} (S : pS) (l0 : Nat) (l1 : Nat) (t0 : Option Nat) (r : Nat × pS) (hf : F_X3_pop_22 S l0 l1 t0 = some r) (hk : Q (.inl (some (.ref r.1))) r.2.1 r.2.2) : gW X mX3_pop 22 [some (.ref l0), some (.ref l1), none] [va_rf t0] S.1 S.2 Q 0 0 := by
  unfold F_X3_pop_22 at hf
  refine q_nstore_n (pc := 22) dX3_pop_22 (by decide) ?_
  change gW _ _ _ [some (.ref l0), some (.ref l1), some (va_rf t0)] _ _ _ _ _ _
  refine r_aload_n (pc := 23) dX3_pop_23 rfl ?_
  replace hf := obind hf
  obtain ⟨x3, e4, hf⟩ := hf
  refine q_getI (pc := 24) dX3_pop_24 gX3_17 e4 ?_
  refine r_if_le (pc := 27) 50 dX3_pop_27 (by decide) (fun hc => ?_) (fun hc => ?_)
  · rw [if_pos hc] at hf
    refine gW.mono (mc := 0) (ms := 0) ?_ (fun _ _ _ q => q) (by decide) (by decide)
    exact gW.weak (by simp [gle]) (W_X3_pop_50 S l1 t0 r hf hk)
  · rw [if_neg hc] at hf
    refine r_aload_n (pc := 30) dX3_pop_30 rfl ?_
    refine r_dup (pc := 31) dX3_pop_31 rfl ?_
    replace hf := obind hf
    obtain ⟨x6, e7, hf⟩ := hf
    refine q_getI (pc := 32) dX3_pop_32 gX3_17 e7 ?_
    refine r_iconst (pc := 35) (1 : Int32) dX3_pop_35 (by decide) ?_
    refine r_isub (pc := 36) dX3_pop_36 ?_
    replace hf := obind hf
    obtain ⟨S8, e9, hf⟩ := hf
    refine q_putI (pc := 37) dX3_pop_37 pX3_17 rfl e9 ?_
    refine r_aload_n (pc := 40) dX3_pop_40 rfl ?_
    replace hf := obind hf
    obtain ⟨x10, e11, hf⟩ := hf
    refine q_getA (pc := 41) dX3_pop_41 gX3_11 e11 ?_
    refine r_aload_n (pc := 44) dX3_pop_44 rfl ?_
    replace hf := obind hf
    obtain ⟨x12, e13, hf⟩ := hf
    refine q_getI (pc := 45) dX3_pop_45 gX3_17 e13 ?_
    refine r_aload_n (pc := 48) dX3_pop_48 rfl ?_
    replace hf := obind hf
    obtain ⟨S14, e15, hf⟩ := hf
    refine q_aast (pc := 49) dX3_pop_49 e15 ?_
    refine gW.mono (mc := 0) (ms := 0) ?_ (fun _ _ _ q => q) (by decide) (by decide)
    exact gW.weak (by simp [gle]) (W_X3_pop_50 S14 l1 t0 r hf hk)
def F_X3_pop (S : pS) (a0 : Nat) (a1 : Nat) : Option (Nat × pS) := (oF S a0 3).bind fun _ => (oGI S a0 3 1).bind fun x1 => if x1 ≤ 0 then (F_X3_pop_22 S a0 a1 (some a1)) else ((oGA S a0 3 0).bind fun x16 => (oGI S a0 3 1).bind fun x18 => (oAR S x16 (.object "CloneOutliner$Tree") (x18 - (1 : Int32))).bind fun x20 => F_X3_pop_22 S a0 a1 x20)
set_option maxRecDepth 100000 in
set_option maxHeartbeats 4000000 in
theorem C_X3_pop {X : pX} {Q : pO → Nat → pF → Prop} (S : pS) (a0 : Nat) (a1 : Nat) (r : Nat × pS) (hf : F_X3_pop S a0 a1 = some r) (hk : Q (.inl (some (.ref r.1))) r.2.1 r.2.2) : gC X mX3_pop [.ref a0, .ref a1] S.1 S.2 Q 0 0 := by
  refine gC_of (by decide) (Nat.le_of_ble_eq_true rfl) rfl ?_
  change gW _ _ _ [some (.ref a0), some (.ref a1), none] _ _ _ _ _ _
  unfold F_X3_pop at hf
  obtain ⟨_, _, hf⟩ := obind hf
  refine r_aload_n (pc := 0) dX3_pop_0 rfl ?_
  replace hf := obind hf
  obtain ⟨x1, e2, hf⟩ := hf
  refine q_getI (pc := 1) dX3_pop_1 gX3_17 e2 ?_
  refine r_if_le (pc := 4) 21 dX3_pop_4 (by decide) (fun hc => ?_) (fun hc => ?_)
  · rw [if_pos hc] at hf
    refine r_aload_n (pc := 21) dX3_pop_21 rfl ?_
    refine gW.mono (mc := 0) (ms := 0) ?_ (fun _ _ _ q => q) (by decide) (by decide)
    exact gW.weak (by simp [gle]) (W_X3_pop_22 S a0 a1 (some a1) r hf hk)
  · rw [if_neg hc] at hf
    refine r_aload_n (pc := 7) dX3_pop_7 rfl ?_
    replace hf := obind hf
    obtain ⟨x16, e17, hf⟩ := hf
    refine q_getA (pc := 8) dX3_pop_8 gX3_11 e17 ?_
    refine r_aload_n (pc := 11) dX3_pop_11 rfl ?_
    replace hf := obind hf
    obtain ⟨x18, e19, hf⟩ := hf
    refine q_getI (pc := 12) dX3_pop_12 gX3_17 e19 ?_
    refine r_iconst (pc := 15) (1 : Int32) dX3_pop_15 (by decide) ?_
    refine r_isub (pc := 16) dX3_pop_16 ?_
    replace hf := obind hf
    obtain ⟨x20, e21, hf⟩ := hf
    refine q_aald (pc := 17) "CloneOutliner$Tree" dX3_pop_17 (by decide) e21 ?_
    refine r_goto (pc := 18) 22 dX3_pop_18 (by decide) ?_
    refine gW.mono (mc := 0) (ms := 0) ?_ (fun _ _ _ q => q) (by decide) (by decide)
    exact gW.weak (by simp [gle]) (W_X3_pop_22 S a0 a1 x20 r hf hk)
def F_X4_init (S : pS) (a0 : Nat) : Option (pS) := (oPA (oNew S (.inl (.int, 4, .inl (fun _ => 0)))) a0 4 0 S.1).bind fun S1 => (oPI S1 a0 4 1 (0 : Int32)).bind fun S3 => some S3
set_option maxRecDepth 100000 in
set_option maxHeartbeats 4000000 in
theorem C_X4_init {X : pX} {Q : pO → Nat → pF → Prop} (S : pS) (a0 : Nat) (r : pS) (hf : F_X4_init S a0 = some r) (hk : Q (.inl none) r.1 r.2) : gC X mX4_init [.ref a0] S.1 S.2 Q 1 4 := by
  refine gC_of (by decide) (Nat.le_of_ble_eq_true rfl) rfl ?_
  change gW _ _ _ [some (.ref a0)] _ _ _ _ _ _
  unfold F_X4_init at hf
  refine r_aload_n (pc := 0) dX4_init_0 rfl ?_
  refine r_objInit (pc := 1) dX4_init_1 kX4_3 k_obj.1 k_obj.2 ⟨by decide, Nat.le_of_ble_eq_true rfl⟩ ?_
  refine r_aload_n (pc := 4) dX4_init_4 rfl ?_
  refine r_iconst (pc := 5) (4 : Int32) dX4_init_5 (by decide) ?_
  refine r_newa (pc := 6) .int .int (4, .inl (fun _ => 0)) dX4_init_6 rfl (by decide) k_arr_int (fun _ => rfl) (fun _ => rfl) (by decide) (by decide) (by decide) (mc2 := 0) (ms2 := 0) (by decide) (by decide) ?_
  change gW _ _ _ _ _ (oNew S (.inl (.int, 4, .inl (fun _ => 0)))).1 (oNew S (.inl (.int, 4, .inl (fun _ => 0)))).2 _ _ _
  replace hf := obind hf
  obtain ⟨S1, e2, hf⟩ := hf
  refine q_putAF (pc := 8) dX4_init_8 pX4_9 (Or.inr ⟨_, rfl⟩) rfl e2 ?_
  refine r_aload_n (pc := 11) dX4_init_11 rfl ?_
  refine r_iconst (pc := 12) (0 : Int32) dX4_init_12 (by decide) ?_
  replace hf := obind hf
  obtain ⟨S3, e4, hf⟩ := hf
  refine q_putI (pc := 13) dX4_init_13 pX4_15 rfl e4 ?_
  refine r_return (pc := 16) dX4_init_16 rfl ?_
  cases hf
  exact hk
def F_X4_size (S : pS) (a0 : Nat) : Option (Int32) := (oF S a0 4).bind fun _ => (oGI S a0 4 1).bind fun x1 => some x1
set_option maxRecDepth 100000 in
set_option maxHeartbeats 4000000 in
theorem C_X4_size {X : pX} {Q : pO → Nat → pF → Prop} (S : pS) (a0 : Nat) (r : Int32) (hf : F_X4_size S a0 = some r) (hk : Q (.inl (some (.int r))) S.1 S.2) : gC X mX4_size [.ref a0] S.1 S.2 Q 0 0 := by
  refine gC_of (by decide) (Nat.le_of_ble_eq_true rfl) rfl ?_
  change gW _ _ _ [some (.ref a0)] _ _ _ _ _ _
  unfold F_X4_size at hf
  obtain ⟨_, _, hf⟩ := obind hf
  refine r_aload_n (pc := 0) dX4_size_0 rfl ?_
  replace hf := obind hf
  obtain ⟨x1, e2, hf⟩ := hf
  refine q_getI (pc := 1) dX4_size_1 gX4_15 e2 ?_
  refine r_ireturn (pc := 4) .int dX4_size_4 rfl rfl ?_
  cases hf
  exact hk
def F_X4_top (S : pS) (a0 : Nat) : Option (Int32) := (oF S a0 4).bind fun _ => (oGI S a0 4 1).bind fun x1 => if ¬ x1 = 0 then ((oGA S a0 4 0).bind fun x3 => (oGI S a0 4 1).bind fun x5 => (oAI S x3 .int (x5 - (1 : Int32))).bind fun x7 => some x7) else (some (0 : Int32))
set_option maxRecDepth 100000 in
set_option maxHeartbeats 4000000 in
theorem C_X4_top {X : pX} {Q : pO → Nat → pF → Prop} (S : pS) (a0 : Nat) (r : Int32) (hf : F_X4_top S a0 = some r) (hk : Q (.inl (some (.int r))) S.1 S.2) : gC X mX4_top [.ref a0] S.1 S.2 Q 0 0 := by
  refine gC_of (by decide) (Nat.le_of_ble_eq_true rfl) rfl ?_
  change gW _ _ _ [some (.ref a0)] _ _ _ _ _ _
  unfold F_X4_top at hf
  obtain ⟨_, _, hf⟩ := obind hf
  refine r_aload_n (pc := 0) dX4_top_0 rfl ?_
  replace hf := obind hf
  obtain ⟨x1, e2, hf⟩ := hf
  refine q_getI (pc := 1) dX4_top_1 gX4_15 e2 ?_
  refine r_if_ne (pc := 4) 11 dX4_top_4 (by decide) (fun hc => ?_) (fun hc => ?_)
  · rw [if_pos hc] at hf
    refine r_aload_n (pc := 11) dX4_top_11 rfl ?_
    replace hf := obind hf
    obtain ⟨x3, e4, hf⟩ := hf
    refine q_getA (pc := 12) dX4_top_12 gX4_9 e4 ?_
    refine r_aload_n (pc := 15) dX4_top_15 rfl ?_
    replace hf := obind hf
    obtain ⟨x5, e6, hf⟩ := hf
    refine q_getI (pc := 16) dX4_top_16 gX4_15 e6 ?_
    refine r_iconst (pc := 19) (1 : Int32) dX4_top_19 (by decide) ?_
    refine r_isub (pc := 20) dX4_top_20 ?_
    replace hf := obind hf
    obtain ⟨x7, e8, hf⟩ := hf
    refine q_iald (pc := 21) dX4_top_21 e8 ?_
    refine r_ireturn (pc := 22) .int dX4_top_22 rfl rfl ?_
    cases hf
    exact hk
  · rw [if_neg hc] at hf
    refine r_iconst (pc := 7) (0 : Int32) dX4_top_7 (by decide) ?_
    refine r_goto (pc := 8) 22 dX4_top_8 (by decide) ?_
    refine r_ireturn (pc := 22) .int dX4_top_22 rfl rfl ?_
    cases hf
    exact hk
def F_X4_push (S : pS) (a0 : Nat) (a1 : Int32) : Option (pS) := (oF S a0 4).bind fun _ => (oGI S a0 4 1).bind fun x1 => if (4 : Int32) ≤ x1 then (some S) else ((oGA S a0 4 0).bind fun x3 => (oGI S a0 4 1).bind fun x5 => (oSI S x3 .int x5 a1).bind fun S7 => (oGI S7 a0 4 1).bind fun x9 => (oPI S7 a0 4 1 (x9 + (1 : Int32))).bind fun S11 => some S11)
set_option maxRecDepth 100000 in
set_option maxHeartbeats 4000000 in
theorem C_X4_push {X : pX} {Q : pO → Nat → pF → Prop} (S : pS) (a0 : Nat) (a1 : Int32) (r : pS) (hf : F_X4_push S a0 a1 = some r) (hk : Q (.inl none) r.1 r.2) : gC X mX4_push [.ref a0, .int a1] S.1 S.2 Q 0 0 := by
  refine gC_of (by decide) (Nat.le_of_ble_eq_true rfl) rfl ?_
  change gW _ _ _ [some (.ref a0), some (.int a1)] _ _ _ _ _ _
  unfold F_X4_push at hf
  obtain ⟨_, _, hf⟩ := obind hf
  refine r_aload_n (pc := 0) dX4_push_0 rfl ?_
  replace hf := obind hf
  obtain ⟨x1, e2, hf⟩ := hf
  refine q_getI (pc := 1) dX4_push_1 gX4_15 e2 ?_
  refine r_iconst (pc := 4) (4 : Int32) dX4_push_4 (by decide) ?_
  refine r_icmp_ge (pc := 5) 28 dX4_push_5 (by decide) (fun hc => ?_) (fun hc => ?_)
  · rw [if_pos hc] at hf
    refine r_return (pc := 28) dX4_push_28 rfl ?_
    cases hf
    exact hk
  · rw [if_neg hc] at hf
    refine r_aload_n (pc := 8) dX4_push_8 rfl ?_
    replace hf := obind hf
    obtain ⟨x3, e4, hf⟩ := hf
    refine q_getA (pc := 9) dX4_push_9 gX4_9 e4 ?_
    refine r_aload_n (pc := 12) dX4_push_12 rfl ?_
    replace hf := obind hf
    obtain ⟨x5, e6, hf⟩ := hf
    refine q_getI (pc := 13) dX4_push_13 gX4_15 e6 ?_
    refine r_iload_n (pc := 16) dX4_push_16 rfl ?_
    replace hf := obind hf
    obtain ⟨S7, e8, hf⟩ := hf
    refine q_iast (pc := 17) dX4_push_17 e8 ?_
    refine r_aload_n (pc := 18) dX4_push_18 rfl ?_
    refine r_dup (pc := 19) dX4_push_19 rfl ?_
    replace hf := obind hf
    obtain ⟨x9, e10, hf⟩ := hf
    refine q_getI (pc := 20) dX4_push_20 gX4_15 e10 ?_
    refine r_iconst (pc := 23) (1 : Int32) dX4_push_23 (by decide) ?_
    refine r_iadd (pc := 24) dX4_push_24 ?_
    replace hf := obind hf
    obtain ⟨S11, e12, hf⟩ := hf
    refine q_putI (pc := 25) dX4_push_25 pX4_15 rfl e12 ?_
    refine r_return (pc := 28) dX4_push_28 rfl ?_
    cases hf
    exact hk
def F_X4_pop (S : pS) (a0 : Nat) : Option (pS) := (oF S a0 4).bind fun _ => (oGI S a0 4 1).bind fun x1 => if x1 ≤ 0 then (some S) else ((oGI S a0 4 1).bind fun x3 => (oPI S a0 4 1 (x3 - (1 : Int32))).bind fun S5 => some S5)
set_option maxRecDepth 100000 in
set_option maxHeartbeats 4000000 in
theorem C_X4_pop {X : pX} {Q : pO → Nat → pF → Prop} (S : pS) (a0 : Nat) (r : pS) (hf : F_X4_pop S a0 = some r) (hk : Q (.inl none) r.1 r.2) : gC X mX4_pop [.ref a0] S.1 S.2 Q 0 0 := by
  refine gC_of (by decide) (Nat.le_of_ble_eq_true rfl) rfl ?_
  change gW _ _ _ [some (.ref a0)] _ _ _ _ _ _
  unfold F_X4_pop at hf
  obtain ⟨_, _, hf⟩ := obind hf
  refine r_aload_n (pc := 0) dX4_pop_0 rfl ?_
  replace hf := obind hf
  obtain ⟨x1, e2, hf⟩ := hf
  refine q_getI (pc := 1) dX4_pop_1 gX4_15 e2 ?_
  refine r_if_le (pc := 4) 17 dX4_pop_4 (by decide) (fun hc => ?_) (fun hc => ?_)
  · rw [if_pos hc] at hf
    refine r_return (pc := 17) dX4_pop_17 rfl ?_
    cases hf
    exact hk
  · rw [if_neg hc] at hf
    refine r_aload_n (pc := 7) dX4_pop_7 rfl ?_
    refine r_dup (pc := 8) dX4_pop_8 rfl ?_
    replace hf := obind hf
    obtain ⟨x3, e4, hf⟩ := hf
    refine q_getI (pc := 9) dX4_pop_9 gX4_15 e4 ?_
    refine r_iconst (pc := 12) (1 : Int32) dX4_pop_12 (by decide) ?_
    refine r_isub (pc := 13) dX4_pop_13 ?_
    replace hf := obind hf
    obtain ⟨S5, e6, hf⟩ := hf
    refine q_putI (pc := 14) dX4_pop_14 pX4_15 rfl e6 ?_
    refine r_return (pc := 17) dX4_pop_17 rfl ?_
    cases hf
    exact hk
def F_X4_endAll (S : pS) (a0 : Nat) : Option (pS) := (oF S a0 4).bind fun _ => (oPI S a0 4 1 (0 : Int32)).bind fun S1 => some S1
set_option maxRecDepth 100000 in
set_option maxHeartbeats 4000000 in
theorem C_X4_endAll {X : pX} {Q : pO → Nat → pF → Prop} (S : pS) (a0 : Nat) (r : pS) (hf : F_X4_endAll S a0 = some r) (hk : Q (.inl none) r.1 r.2) : gC X mX4_endAll [.ref a0] S.1 S.2 Q 0 0 := by
  refine gC_of (by decide) (Nat.le_of_ble_eq_true rfl) rfl ?_
  change gW _ _ _ [some (.ref a0)] _ _ _ _ _ _
  unfold F_X4_endAll at hf
  obtain ⟨_, _, hf⟩ := obind hf
  refine r_aload_n (pc := 0) dX4_endAll_0 rfl ?_
  refine r_iconst (pc := 1) (0 : Int32) dX4_endAll_1 (by decide) ?_
  replace hf := obind hf
  obtain ⟨S1, e2, hf⟩ := hf
  refine q_putI (pc := 2) dX4_endAll_2 pX4_15 rfl e2 ?_
  refine r_return (pc := 5) dX4_endAll_5 rfl ?_
  cases hf
  exact hk
abbrev L_X4_endUnlessAllIn_2 (l0 : Nat) (l1 : Int64) : Int32 × pS → List (Option Value) := fun a => [some (.ref l0), some (.long l1), none, some (.int a.1)]
abbrev s_X4_endUnlessAllIn_2 (l0 : Nat) (l1 : Int64) : Int32 × pS → pS := fun a => a.2
abbrev K_X4_endUnlessAllIn_2 (X : pX) (Q : pO → Nat → pF → Prop) (mc ms : Nat) (l0 : Nat) (l1 : Int64) : pS → Prop := (fun b => gW X mX4_endUnlessAllIn 34 [some (.ref l0), some (.long l1), none, none] [] b.1 b.2 Q mc ms)
def F_X4_endUnlessAllIn_2 (l0 : Nat) (l1 : Int64) : Int32 × pS → Option ((Int32 × pS) ⊕ (pS)) := fun a => (oGI a.2 l0 4 1).bind fun x1 => if x1 ≤ a.1 then (some (.inr a.2)) else ((oGA a.2 l0 4 0).bind fun x3 => (oAI a.2 x3 .int a.1).bind fun x5 => (F_X9_contains a.2 l1 x5).bind fun q7 => if ¬ q7 = 0 then (some (.inl (a.1 + (1 : Int32), a.2))) else ((oPI a.2 l0 4 1 (0 : Int32)).bind fun S9 => some (.inl (a.1 + (1 : Int32), S9))))
set_option maxRecDepth 100000 in
set_option maxHeartbeats 4000000 in
theorem W_X4_endUnlessAllIn_2 {X : pX} {Q : pO → Nat → pF → Prop} {mc ms : Nat} (l0 : Nat) (l1 : Int64) : ∀ (a : Int32 × pS) (r : (Int32 × pS) ⊕ (pS)), F_X4_endUnlessAllIn_2 l0 l1 a = some r → Sum.elim (fun a' => gW X mX4_endUnlessAllIn 2 (L_X4_endUnlessAllIn_2 l0 l1 a') [] (s_X4_endUnlessAllIn_2 l0 l1 a').1 (s_X4_endUnlessAllIn_2 l0 l1 a').2 Q mc ms) (K_X4_endUnlessAllIn_2 X Q mc ms l0 l1) r → gW X mX4_endUnlessAllIn 2 (L_X4_endUnlessAllIn_2 l0 l1 a) [] (s_X4_endUnlessAllIn_2 l0 l1 a).1 (s_X4_endUnlessAllIn_2 l0 l1 a).2 Q mc ms := by
  intro a r hf hk
  obtain ⟨l3, S⟩ := a
  unfold F_X4_endUnlessAllIn_2 at hf
  try dsimp only at hf
  change gW _ _ _ [some (.ref l0), some (.long l1), none, some (.int l3)] _ S.1 S.2 _ _ _
  refine r_iload_n (pc := 2) dX4_endUnlessAllIn_2 rfl ?_
  refine r_aload_n (pc := 3) dX4_endUnlessAllIn_3 rfl ?_
  replace hf := obind hf
  obtain ⟨x1, e2, hf⟩ := hf
  refine q_getI (pc := 4) dX4_endUnlessAllIn_4 gX4_15 e2 ?_
  refine r_icmp_ge (pc := 7) 34 dX4_endUnlessAllIn_7 (by decide) (fun hc => ?_) (fun hc => ?_)
  · rw [if_pos hc] at hf
    cases hf
    exact gW.weak (by simp [gle]) hk
  · rw [if_neg hc] at hf
    refine r_lload_n (pc := 10) dX4_endUnlessAllIn_10 rfl ?_
    refine r_aload_n (pc := 11) dX4_endUnlessAllIn_11 rfl ?_
    replace hf := obind hf
    obtain ⟨x3, e4, hf⟩ := hf
    refine q_getA (pc := 12) dX4_endUnlessAllIn_12 gX4_9 e4 ?_
    refine r_iload_n (pc := 15) dX4_endUnlessAllIn_15 rfl ?_
    replace hf := obind hf
    obtain ⟨x5, e6, hf⟩ := hf
    refine q_iald (pc := 16) dX4_endUnlessAllIn_16 e6 ?_
    replace hf := obind hf
    obtain ⟨q7, e8, hf⟩ := hf
    refine q_callSN (pc := 17) (v := some (.int q7)) (S' := S) mX9_contains [.long l1, .int x5] dX4_endUnlessAllIn_17 kX4_19 fX9_contains sX9_contains ⟨by decide, by decide⟩ rfl rfl (Nat.le_of_ble_eq_true rfl) (mc1 := 0) (ms1 := 0) (mc2 := mc) (ms2 := ms) (by omega) (by omega) (C_X9_contains S l1 x5 q7 e8 (qR_mk _ _)) ?_
    change gW _ _ _ _ (.int q7 :: _) _ _ _ _ _
    refine r_if_ne (pc := 20) 28 dX4_endUnlessAllIn_20 (by decide) (fun hc => ?_) (fun hc => ?_)
    · rw [if_pos hc] at hf
      refine r_iinc (pc := 28) dX4_endUnlessAllIn_28 rfl (by decide) ?_
      change gW _ _ _ [some (.ref l0), some (.long l1), none, some (.int (l3 + (1 : Int32)))] _ _ _ _ _ _
      refine r_goto (pc := 31) 2 dX4_endUnlessAllIn_31 (by decide) ?_
      cases hf
      exact gW.weak (by simp [gle]) hk
    · rw [if_neg hc] at hf
      refine r_aload_n (pc := 23) dX4_endUnlessAllIn_23 rfl ?_
      refine r_iconst (pc := 24) (0 : Int32) dX4_endUnlessAllIn_24 (by decide) ?_
      replace hf := obind hf
      obtain ⟨S9, e10, hf⟩ := hf
      refine q_putI (pc := 25) dX4_endUnlessAllIn_25 pX4_15 rfl e10 ?_
      refine r_iinc (pc := 28) dX4_endUnlessAllIn_28 rfl (by decide) ?_
      change gW _ _ _ [some (.ref l0), some (.long l1), none, some (.int (l3 + (1 : Int32)))] _ _ _ _ _ _
      refine r_goto (pc := 31) 2 dX4_endUnlessAllIn_31 (by decide) ?_
      cases hf
      exact gW.weak (by simp [gle]) hk
def F_X4_endUnlessAllIn (S : pS) (a0 : Nat) (a1 : Int64) : Option (pS) := (oF S a0 4).bind fun _ => (iter (F_X4_endUnlessAllIn_2 a0 a1) fu ((0 : Int32), S)).bind fun r11 => some r11
set_option maxRecDepth 100000 in
set_option maxHeartbeats 4000000 in
theorem C_X4_endUnlessAllIn {X : pX} {Q : pO → Nat → pF → Prop} (S : pS) (a0 : Nat) (a1 : Int64) (r : pS) (hf : F_X4_endUnlessAllIn S a0 a1 = some r) (hk : Q (.inl none) r.1 r.2) : gC X mX4_endUnlessAllIn [.ref a0, .long a1] S.1 S.2 Q 0 0 := by
  refine gC_of (by decide) (Nat.le_of_ble_eq_true rfl) rfl ?_
  change gW _ _ _ [some (.ref a0), some (.long a1), none, none] _ _ _ _ _ _
  unfold F_X4_endUnlessAllIn at hf
  obtain ⟨_, _, hf⟩ := obind hf
  refine r_iconst (pc := 0) (0 : Int32) dX4_endUnlessAllIn_0 (by decide) ?_
  refine r_istore_n (pc := 1) dX4_endUnlessAllIn_1 (by decide) ?_
  change gW _ _ _ [some (.ref a0), some (.long a1), none, some (.int (0 : Int32))] _ _ _ _ _ _
  replace hf := obind hf
  obtain ⟨r11, e12, hf⟩ := hf
  refine gW.weak (ls' := [some (.ref a0), some (.long a1), none, some (.int (0 : Int32))]) (by simp [gle]) ?_
  refine g_iter (L := L_X4_endUnlessAllIn_2 a0 a1) (s := s_X4_endUnlessAllIn_2 a0 a1) (K := K_X4_endUnlessAllIn_2 X Q _ _ a0 a1) (W_X4_endUnlessAllIn_2 a0 a1) fu ((0 : Int32), S) _ e12 ?_
  show gW _ _ 34 [some (.ref a0), some (.long a1), none, none] [] r11.1 r11.2 _ _ _
  refine r_return (pc := 34) dX4_endUnlessAllIn_34 rfl ?_
  cases hf
  exact hk
def F_X5_init (S : pS) (a0 : Nat) : Option (pS) := (oPA (oNew S (.inl (.int, 301, .inl (fun _ => 0)))) a0 5 0 S.1).bind fun S1 => (oPA (oNew S1 (.inl (.int, 301, .inl (fun _ => 0)))) a0 5 1 S1.1).bind fun S3 => (oPA (oNew S3 (.inl (.int, 301, .inl (fun _ => 0)))) a0 5 2 S3.1).bind fun S5 => (oPA (oNew S5 (.inl (.int, 301, .inl (fun _ => 0)))) a0 5 3 S5.1).bind fun S7 => (oPA (oNew S7 (.inl (.int, 301, .inl (fun _ => 0)))) a0 5 4 S7.1).bind fun S9 => (oPI S9 a0 5 5 (0 : Int32)).bind fun S11 => some S11
set_option maxRecDepth 100000 in
set_option maxHeartbeats 4000000 in
theorem C_X5_init {X : pX} {Q : pO → Nat → pF → Prop} (S : pS) (a0 : Nat) (r : pS) (hf : F_X5_init S a0 = some r) (hk : Q (.inl none) r.1 r.2) : gC X mX5_init [.ref a0] S.1 S.2 Q 5 1505 := by
  refine gC_of (by decide) (Nat.le_of_ble_eq_true rfl) rfl ?_
  change gW _ _ _ [some (.ref a0)] _ _ _ _ _ _
  unfold F_X5_init at hf
  refine r_aload_n (pc := 0) dX5_init_0 rfl ?_
  refine r_objInit (pc := 1) dX5_init_1 kX5_5 k_obj.1 k_obj.2 ⟨by decide, Nat.le_of_ble_eq_true rfl⟩ ?_
  refine r_aload_n (pc := 4) dX5_init_4 rfl ?_
  refine r_sipush (pc := 5) (301 : Int32) dX5_init_5 (by decide) ?_
  refine r_newa (pc := 8) .int .int (301, .inl (fun _ => 0)) dX5_init_8 rfl (by decide) k_arr_int (fun _ => rfl) (fun _ => rfl) (by decide) (by decide) (by decide) (mc2 := 4) (ms2 := 1204) (by decide) (by decide) ?_
  change gW _ _ _ _ _ (oNew S (.inl (.int, 301, .inl (fun _ => 0)))).1 (oNew S (.inl (.int, 301, .inl (fun _ => 0)))).2 _ _ _
  replace hf := obind hf
  obtain ⟨S1, e2, hf⟩ := hf
  refine q_putAF (pc := 10) dX5_init_10 pX5_11 (Or.inr ⟨_, rfl⟩) rfl e2 ?_
  refine r_aload_n (pc := 13) dX5_init_13 rfl ?_
  refine r_sipush (pc := 14) (301 : Int32) dX5_init_14 (by decide) ?_
  refine r_newa (pc := 17) .int .int (301, .inl (fun _ => 0)) dX5_init_17 rfl (by decide) k_arr_int (fun _ => rfl) (fun _ => rfl) (by decide) (by decide) (by decide) (mc2 := 3) (ms2 := 903) (by decide) (by decide) ?_
  change gW _ _ _ _ _ (oNew S1 (.inl (.int, 301, .inl (fun _ => 0)))).1 (oNew S1 (.inl (.int, 301, .inl (fun _ => 0)))).2 _ _ _
  replace hf := obind hf
  obtain ⟨S3, e4, hf⟩ := hf
  refine q_putAF (pc := 19) dX5_init_19 pX5_15 (Or.inr ⟨_, rfl⟩) rfl e4 ?_
  refine r_aload_n (pc := 22) dX5_init_22 rfl ?_
  refine r_sipush (pc := 23) (301 : Int32) dX5_init_23 (by decide) ?_
  refine r_newa (pc := 26) .int .int (301, .inl (fun _ => 0)) dX5_init_26 rfl (by decide) k_arr_int (fun _ => rfl) (fun _ => rfl) (by decide) (by decide) (by decide) (mc2 := 2) (ms2 := 602) (by decide) (by decide) ?_
  change gW _ _ _ _ _ (oNew S3 (.inl (.int, 301, .inl (fun _ => 0)))).1 (oNew S3 (.inl (.int, 301, .inl (fun _ => 0)))).2 _ _ _
  replace hf := obind hf
  obtain ⟨S5, e6, hf⟩ := hf
  refine q_putAF (pc := 28) dX5_init_28 pX5_18 (Or.inr ⟨_, rfl⟩) rfl e6 ?_
  refine r_aload_n (pc := 31) dX5_init_31 rfl ?_
  refine r_sipush (pc := 32) (301 : Int32) dX5_init_32 (by decide) ?_
  refine r_newa (pc := 35) .int .int (301, .inl (fun _ => 0)) dX5_init_35 rfl (by decide) k_arr_int (fun _ => rfl) (fun _ => rfl) (by decide) (by decide) (by decide) (mc2 := 1) (ms2 := 301) (by decide) (by decide) ?_
  change gW _ _ _ _ _ (oNew S5 (.inl (.int, 301, .inl (fun _ => 0)))).1 (oNew S5 (.inl (.int, 301, .inl (fun _ => 0)))).2 _ _ _
  replace hf := obind hf
  obtain ⟨S7, e8, hf⟩ := hf
  refine q_putAF (pc := 37) dX5_init_37 pX5_21 (Or.inr ⟨_, rfl⟩) rfl e8 ?_
  refine r_aload_n (pc := 40) dX5_init_40 rfl ?_
  refine r_sipush (pc := 41) (301 : Int32) dX5_init_41 (by decide) ?_
  refine r_newa (pc := 44) .int .int (301, .inl (fun _ => 0)) dX5_init_44 rfl (by decide) k_arr_int (fun _ => rfl) (fun _ => rfl) (by decide) (by decide) (by decide) (mc2 := 0) (ms2 := 0) (by decide) (by decide) ?_
  change gW _ _ _ _ _ (oNew S7 (.inl (.int, 301, .inl (fun _ => 0)))).1 (oNew S7 (.inl (.int, 301, .inl (fun _ => 0)))).2 _ _ _
  replace hf := obind hf
  obtain ⟨S9, e10, hf⟩ := hf
  refine q_putAF (pc := 46) dX5_init_46 pX5_24 (Or.inr ⟨_, rfl⟩) rfl e10 ?_
  refine r_aload_n (pc := 49) dX5_init_49 rfl ?_
  refine r_iconst (pc := 50) (0 : Int32) dX5_init_50 (by decide) ?_
  replace hf := obind hf
  obtain ⟨S11, e12, hf⟩ := hf
  refine q_putI (pc := 51) dX5_init_51 pX5_27 rfl e12 ?_
  refine r_return (pc := 54) dX5_init_54 rfl ?_
  cases hf
  exact hk
def F_X5_putRow (S : pS) (a0 : Nat) (a1 : Int32) (a2 : Int32) (a3 : Int32) (a4 : Int32) : Option (pS) := (oF S a0 5).bind fun _ => (oGA S a0 5 0).bind fun x1 => (oGI S a0 5 5).bind fun x3 => (oSI S x1 .int x3 a1).bind fun S5 => (oGA S5 a0 5 1).bind fun x7 => (oGI S5 a0 5 5).bind fun x9 => (oSI S5 x7 .int x9 a2).bind fun S11 => (oGA S11 a0 5 2).bind fun x13 => (oGI S11 a0 5 5).bind fun x15 => (oSI S11 x13 .int x15 a3).bind fun S17 => (oGA S17 a0 5 3).bind fun x19 => (oGI S17 a0 5 5).bind fun x21 => (oSI S17 x19 .int x21 a4).bind fun S23 => (oGA S23 a0 5 4).bind fun x25 => (oGI S23 a0 5 5).bind fun x27 => (oSI S23 x25 .int x27 (0 : Int32)).bind fun S29 => (oGI S29 a0 5 5).bind fun x31 => (oPI S29 a0 5 5 (x31 + (1 : Int32))).bind fun S33 => some S33
set_option maxRecDepth 100000 in
set_option maxHeartbeats 4000000 in
theorem C_X5_putRow {X : pX} {Q : pO → Nat → pF → Prop} (S : pS) (a0 : Nat) (a1 : Int32) (a2 : Int32) (a3 : Int32) (a4 : Int32) (r : pS) (hf : F_X5_putRow S a0 a1 a2 a3 a4 = some r) (hk : Q (.inl none) r.1 r.2) : gC X mX5_putRow [.ref a0, .int a1, .int a2, .int a3, .int a4] S.1 S.2 Q 0 0 := by
  refine gC_of (by decide) (Nat.le_of_ble_eq_true rfl) rfl ?_
  change gW _ _ _ [some (.ref a0), some (.int a1), some (.int a2), some (.int a3), some (.int a4)] _ _ _ _ _ _
  unfold F_X5_putRow at hf
  obtain ⟨_, _, hf⟩ := obind hf
  refine r_aload_n (pc := 0) dX5_putRow_0 rfl ?_
  replace hf := obind hf
  obtain ⟨x1, e2, hf⟩ := hf
  refine q_getA (pc := 1) dX5_putRow_1 gX5_11 e2 ?_
  refine r_aload_n (pc := 4) dX5_putRow_4 rfl ?_
  replace hf := obind hf
  obtain ⟨x3, e4, hf⟩ := hf
  refine q_getI (pc := 5) dX5_putRow_5 gX5_27 e4 ?_
  refine r_iload_n (pc := 8) dX5_putRow_8 rfl ?_
  replace hf := obind hf
  obtain ⟨S5, e6, hf⟩ := hf
  refine q_iast (pc := 9) dX5_putRow_9 e6 ?_
  refine r_aload_n (pc := 10) dX5_putRow_10 rfl ?_
  replace hf := obind hf
  obtain ⟨x7, e8, hf⟩ := hf
  refine q_getA (pc := 11) dX5_putRow_11 gX5_15 e8 ?_
  refine r_aload_n (pc := 14) dX5_putRow_14 rfl ?_
  replace hf := obind hf
  obtain ⟨x9, e10, hf⟩ := hf
  refine q_getI (pc := 15) dX5_putRow_15 gX5_27 e10 ?_
  refine r_iload_n (pc := 18) dX5_putRow_18 rfl ?_
  replace hf := obind hf
  obtain ⟨S11, e12, hf⟩ := hf
  refine q_iast (pc := 19) dX5_putRow_19 e12 ?_
  refine r_aload_n (pc := 20) dX5_putRow_20 rfl ?_
  replace hf := obind hf
  obtain ⟨x13, e14, hf⟩ := hf
  refine q_getA (pc := 21) dX5_putRow_21 gX5_18 e14 ?_
  refine r_aload_n (pc := 24) dX5_putRow_24 rfl ?_
  replace hf := obind hf
  obtain ⟨x15, e16, hf⟩ := hf
  refine q_getI (pc := 25) dX5_putRow_25 gX5_27 e16 ?_
  refine r_iload_n (pc := 28) dX5_putRow_28 rfl ?_
  replace hf := obind hf
  obtain ⟨S17, e18, hf⟩ := hf
  refine q_iast (pc := 29) dX5_putRow_29 e18 ?_
  refine r_aload_n (pc := 30) dX5_putRow_30 rfl ?_
  replace hf := obind hf
  obtain ⟨x19, e20, hf⟩ := hf
  refine q_getA (pc := 31) dX5_putRow_31 gX5_21 e20 ?_
  refine r_aload_n (pc := 34) dX5_putRow_34 rfl ?_
  replace hf := obind hf
  obtain ⟨x21, e22, hf⟩ := hf
  refine q_getI (pc := 35) dX5_putRow_35 gX5_27 e22 ?_
  refine r_iload (pc := 38) dX5_putRow_38 rfl ?_
  replace hf := obind hf
  obtain ⟨S23, e24, hf⟩ := hf
  refine q_iast (pc := 40) dX5_putRow_40 e24 ?_
  refine r_aload_n (pc := 41) dX5_putRow_41 rfl ?_
  replace hf := obind hf
  obtain ⟨x25, e26, hf⟩ := hf
  refine q_getA (pc := 42) dX5_putRow_42 gX5_24 e26 ?_
  refine r_aload_n (pc := 45) dX5_putRow_45 rfl ?_
  replace hf := obind hf
  obtain ⟨x27, e28, hf⟩ := hf
  refine q_getI (pc := 46) dX5_putRow_46 gX5_27 e28 ?_
  refine r_iconst (pc := 49) (0 : Int32) dX5_putRow_49 (by decide) ?_
  replace hf := obind hf
  obtain ⟨S29, e30, hf⟩ := hf
  refine q_iast (pc := 50) dX5_putRow_50 e30 ?_
  refine r_aload_n (pc := 51) dX5_putRow_51 rfl ?_
  refine r_dup (pc := 52) dX5_putRow_52 rfl ?_
  replace hf := obind hf
  obtain ⟨x31, e32, hf⟩ := hf
  refine q_getI (pc := 53) dX5_putRow_53 gX5_27 e32 ?_
  refine r_iconst (pc := 56) (1 : Int32) dX5_putRow_56 (by decide) ?_
  refine r_iadd (pc := 57) dX5_putRow_57 ?_
  replace hf := obind hf
  obtain ⟨S33, e34, hf⟩ := hf
  refine q_putI (pc := 58) dX5_putRow_58 pX5_27 rfl e34 ?_
  refine r_return (pc := 61) dX5_putRow_61 rfl ?_
  cases hf
  exact hk
def F_X8_childCount (S : pS) (a0 : Nat) (a1 : Int32) : Option (Int32) := (oF S a0 8).bind fun _ => (oGA S a0 8 0).bind fun x1 => (oAI S x1 .int a1).bind fun x3 => some x3
set_option maxRecDepth 100000 in
set_option maxHeartbeats 4000000 in
theorem C_X8_childCount {X : pX} {Q : pO → Nat → pF → Prop} (S : pS) (a0 : Nat) (a1 : Int32) (r : Int32) (hf : F_X8_childCount S a0 a1 = some r) (hk : Q (.inl (some (.int r))) S.1 S.2) : gC X mX8_childCount [.ref a0, .int a1] S.1 S.2 Q 0 0 := by
  refine gC_of (by decide) (Nat.le_of_ble_eq_true rfl) rfl ?_
  change gW _ _ _ [some (.ref a0), some (.int a1)] _ _ _ _ _ _
  unfold F_X8_childCount at hf
  obtain ⟨_, _, hf⟩ := obind hf
  refine r_aload_n (pc := 0) dX8_childCount_0 rfl ?_
  replace hf := obind hf
  obtain ⟨x1, e2, hf⟩ := hf
  refine q_getA (pc := 1) dX8_childCount_1 gX8_9 e2 ?_
  refine r_iload_n (pc := 4) dX8_childCount_4 rfl ?_
  replace hf := obind hf
  obtain ⟨x3, e4, hf⟩ := hf
  refine q_iald (pc := 5) dX8_childCount_5 e4 ?_
  refine r_ireturn (pc := 6) .int dX8_childCount_6 rfl rfl ?_
  cases hf
  exact hk
def F_X8_childAt (S : pS) (a0 : Nat) (a1 : Int32) (a2 : Int32) : Option (Int32) := (oF S a0 8).bind fun _ => (oGA S a0 8 1).bind fun x1 => (oAI S x1 .int ((a1 * (12 : Int32)) + a2)).bind fun x3 => some x3
set_option maxRecDepth 100000 in
set_option maxHeartbeats 4000000 in
theorem C_X8_childAt {X : pX} {Q : pO → Nat → pF → Prop} (S : pS) (a0 : Nat) (a1 : Int32) (a2 : Int32) (r : Int32) (hf : F_X8_childAt S a0 a1 a2 = some r) (hk : Q (.inl (some (.int r))) S.1 S.2) : gC X mX8_childAt [.ref a0, .int a1, .int a2] S.1 S.2 Q 0 0 := by
  refine gC_of (by decide) (Nat.le_of_ble_eq_true rfl) rfl ?_
  change gW _ _ _ [some (.ref a0), some (.int a1), some (.int a2)] _ _ _ _ _ _
  unfold F_X8_childAt at hf
  obtain ⟨_, _, hf⟩ := obind hf
  refine r_aload_n (pc := 0) dX8_childAt_0 rfl ?_
  replace hf := obind hf
  obtain ⟨x1, e2, hf⟩ := hf
  refine q_getA (pc := 1) dX8_childAt_1 gX8_15 e2 ?_
  refine r_iload_n (pc := 4) dX8_childAt_4 rfl ?_
  refine r_bipush (pc := 5) (12 : Int32) dX8_childAt_5 (by decide) ?_
  refine r_imul (pc := 7) dX8_childAt_7 ?_
  refine r_iload_n (pc := 8) dX8_childAt_8 rfl ?_
  refine r_iadd (pc := 9) dX8_childAt_9 ?_
  replace hf := obind hf
  obtain ⟨x3, e4, hf⟩ := hf
  refine q_iald (pc := 10) dX8_childAt_10 e4 ?_
  refine r_ireturn (pc := 11) .int dX8_childAt_11 rfl rfl ?_
  cases hf
  exact hk
abbrev L_X5_find_29 (l0 : Nat) (l1 : Nat) (l3 : Int64) (l7 : Int64) : Int32 × Int32 × pS → List (Option Value) := fun a => [some (.ref l0), some (.ref l1), none, some (.long l3), none, none, none, some (.long l7), none, some (.int a.1), some (.int a.2.1), none, none, none]
abbrev s_X5_find_29 (l0 : Nat) (l1 : Nat) (l3 : Int64) (l7 : Int64) : Int32 × Int32 × pS → pS := fun a => a.2.2
abbrev K_X5_find_29 (X : pX) (Q : pO → Nat → pF → Prop) (mc ms : Nat) (l0 : Nat) (l1 : Nat) (l3 : Int64) (l7 : Int64) : pS → Prop := (fun b => gW X mX5_find 166 [some (.ref l0), some (.ref l1), none, some (.long l3), none, none, none, some (.long l7), none, none, none, none, none, none] [] b.1 b.2 Q mc ms)
def F_X5_find_151 (l0 : Nat) (l1 : Nat) (l3 : Int64) (l7 : Int64) (S : pS) (l9 : Int32) (l10 : Int32) : Option ((Int32 × Int32 × pS) ⊕ (pS)) := (oGA S l0 5 1).bind fun x17 => (oAI S x17 .int l9).bind fun x19 => some (.inl (x19, l10 + (1 : Int32), S))
set_option maxRecDepth 100000 in
set_option maxHeartbeats 4000000 in
theorem W_X5_find_151 {X : pX} {Q : pO → Nat → pF → Prop} {mc ms : Nat} (l0 : Nat) (l1 : Nat) (l3 : Int64) (l7 : Int64) (S : pS) (l9 : Int32) (l10 : Int32) (r : (Int32 × Int32 × pS) ⊕ (pS)) (hf : F_X5_find_151 l0 l1 l3 l7 S l9 l10 = some r) (hk : Sum.elim (fun a' => gW X mX5_find 29 (L_X5_find_29 l0 l1 l3 l7 a') [] (s_X5_find_29 l0 l1 l3 l7 a').1 (s_X5_find_29 l0 l1 l3 l7 a').2 Q mc ms) (K_X5_find_29 X Q mc ms l0 l1 l3 l7) r) : gW X mX5_find 151 [some (.ref l0), some (.ref l1), none, some (.long l3), none, none, none, some (.long l7), none, some (.int l9), some (.int l10), none, none, none] [] S.1 S.2 Q mc ms := by
  unfold F_X5_find_151 at hf
  refine r_aload_n (pc := 151) dX5_find_151 rfl ?_
  replace hf := obind hf
  obtain ⟨x17, e18, hf⟩ := hf
  refine q_getA (pc := 152) dX5_find_152 gX5_15 e18 ?_
  refine r_iload (pc := 155) dX5_find_155 rfl ?_
  replace hf := obind hf
  obtain ⟨x19, e20, hf⟩ := hf
  refine q_iald (pc := 157) dX5_find_157 e20 ?_
  refine r_istore (pc := 158) dX5_find_158 (by decide) ?_
  change gW _ _ _ [some (.ref l0), some (.ref l1), none, some (.long l3), none, none, none, some (.long l7), none, some (.int x19), some (.int l10), none, none, none] _ _ _ _ _ _
  refine r_iinc (pc := 160) dX5_find_160 rfl (by decide) ?_
  change gW _ _ _ [some (.ref l0), some (.ref l1), none, some (.long l3), none, none, none, some (.long l7), none, some (.int x19), some (.int (l10 + (1 : Int32))), none, none, none] _ _ _ _ _ _
  refine r_goto (pc := 163) 29 dX5_find_163 (by decide) ?_
  cases hf
  exact gW.weak (by simp [gle]) hk
def F_X5_find_148 (l0 : Nat) (l1 : Nat) (l3 : Int64) (l7 : Int64) (S : pS) (l9 : Int32) (l10 : Int32) : Option ((Int32 × Int32 × pS) ⊕ (pS)) := some (.inl (l9, l10 + (1 : Int32), S))
set_option maxRecDepth 100000 in
set_option maxHeartbeats 4000000 in
theorem W_X5_find_148 {X : pX} {Q : pO → Nat → pF → Prop} {mc ms : Nat} (l0 : Nat) (l1 : Nat) (l3 : Int64) (l7 : Int64) (S : pS) (l9 : Int32) (l10 : Int32) (r : (Int32 × Int32 × pS) ⊕ (pS)) (hf : F_X5_find_148 l0 l1 l3 l7 S l9 l10 = some r) (hk : Sum.elim (fun a' => gW X mX5_find 29 (L_X5_find_29 l0 l1 l3 l7 a') [] (s_X5_find_29 l0 l1 l3 l7 a').1 (s_X5_find_29 l0 l1 l3 l7 a').2 Q mc ms) (K_X5_find_29 X Q mc ms l0 l1 l3 l7) r) : gW X mX5_find 148 [some (.ref l0), some (.ref l1), none, some (.long l3), none, none, none, some (.long l7), none, some (.int l9), some (.int l10), none, none, none] [] S.1 S.2 Q mc ms := by
  unfold F_X5_find_148 at hf
  refine r_goto (pc := 148) 160 dX5_find_148 (by decide) ?_
  refine r_iinc (pc := 160) dX5_find_160 rfl (by decide) ?_
  change gW _ _ _ [some (.ref l0), some (.ref l1), none, some (.long l3), none, none, none, some (.long l7), none, some (.int l9), some (.int (l10 + (1 : Int32))), none, none, none] _ _ _ _ _ _
  refine r_goto (pc := 163) 29 dX5_find_163 (by decide) ?_
  cases hf
  exact gW.weak (by simp [gle]) hk
def F_X5_find_29 (l0 : Nat) (l1 : Nat) (l3 : Int64) (l7 : Int64) : Int32 × Int32 × pS → Option ((Int32 × Int32 × pS) ⊕ (pS)) := fun a => if (602 : Int32) ≤ a.2.1 then (some (.inr a.2.2)) else (if a.1 < 0 then (some (.inr a.2.2)) else ((oGA a.2.2 l0 5 0).bind fun x7 => (oAI a.2.2 x7 .int a.1).bind fun x9 => (oGA a.2.2 l0 5 4).bind fun x11 => (oAI a.2.2 x11 .int a.1).bind fun x13 => (F_X9_contains a.2.2 l7 x9).bind fun q15 => if q15 = 0 then (F_X5_find_151 l0 l1 l3 l7 a.2.2 a.1 a.2.1) else ((F_X8_childCount a.2.2 l1 x9).bind fun q21 => if q21 ≤ x13 then (F_X5_find_151 l0 l1 l3 l7 a.2.2 a.1 a.2.1) else ((oGA a.2.2 l0 5 4).bind fun x23 => (oSI a.2.2 x23 .int a.1 (x13 + (1 : Int32))).bind fun S25 => (F_X8_childAt S25 l1 x9 x13).bind fun q27 => (F_X9_contains S25 l3 q27).bind fun q29 => if q29 = 0 then (F_X5_find_148 l0 l1 l3 l7 S25 a.1 a.2.1) else ((oGI S25 l0 5 5).bind fun x31 => if (301 : Int32) ≤ x31 then (F_X5_find_148 l0 l1 l3 l7 S25 a.1 a.2.1) else ((oGA S25 l0 5 3).bind fun x33 => (oAI S25 x33 .int a.1).bind fun x35 => (F_X5_putRow S25 l0 q27 a.1 x13 (x35 + (1 : Int32))).bind fun q37 => (oGI q37 l0 5 5).bind fun x39 => F_X5_find_148 l0 l1 l3 l7 q37 (x39 - (1 : Int32)) a.2.1))))))
set_option maxRecDepth 100000 in
set_option maxHeartbeats 4000000 in
theorem W_X5_find_29 {X : pX} {Q : pO → Nat → pF → Prop} {mc ms : Nat} (l0 : Nat) (l1 : Nat) (l3 : Int64) (l7 : Int64) : ∀ (a : Int32 × Int32 × pS) (r : (Int32 × Int32 × pS) ⊕ (pS)), F_X5_find_29 l0 l1 l3 l7 a = some r → Sum.elim (fun a' => gW X mX5_find 29 (L_X5_find_29 l0 l1 l3 l7 a') [] (s_X5_find_29 l0 l1 l3 l7 a').1 (s_X5_find_29 l0 l1 l3 l7 a').2 Q mc ms) (K_X5_find_29 X Q mc ms l0 l1 l3 l7) r → gW X mX5_find 29 (L_X5_find_29 l0 l1 l3 l7 a) [] (s_X5_find_29 l0 l1 l3 l7 a).1 (s_X5_find_29 l0 l1 l3 l7 a).2 Q mc ms := by
  intro a r hf hk
  obtain ⟨l9, l10, S⟩ := a
  unfold F_X5_find_29 at hf
  try dsimp only at hf
  change gW _ _ _ [some (.ref l0), some (.ref l1), none, some (.long l3), none, none, none, some (.long l7), none, some (.int l9), some (.int l10), none, none, none] _ S.1 S.2 _ _ _
  refine r_iload (pc := 29) dX5_find_29 rfl ?_
  refine r_sipush (pc := 31) (602 : Int32) dX5_find_31 (by decide) ?_
  refine r_icmp_ge (pc := 34) 166 dX5_find_34 (by decide) (fun hc => ?_) (fun hc => ?_)
  · rw [if_pos hc] at hf
    cases hf
    exact gW.weak (by simp [gle]) hk
  · rw [if_neg hc] at hf
    refine r_iload (pc := 37) dX5_find_37 rfl ?_
    refine r_if_lt (pc := 39) 166 dX5_find_39 (by decide) (fun hc => ?_) (fun hc => ?_)
    · rw [if_pos hc] at hf
      cases hf
      exact gW.weak (by simp [gle]) hk
    · rw [if_neg hc] at hf
      refine r_aload_n (pc := 42) dX5_find_42 rfl ?_
      replace hf := obind hf
      obtain ⟨x7, e8, hf⟩ := hf
      refine q_getA (pc := 43) dX5_find_43 gX5_11 e8 ?_
      refine r_iload (pc := 46) dX5_find_46 rfl ?_
      replace hf := obind hf
      obtain ⟨x9, e10, hf⟩ := hf
      refine q_iald (pc := 48) dX5_find_48 e10 ?_
      refine r_istore (pc := 49) dX5_find_49 (by decide) ?_
      change gW _ _ _ [some (.ref l0), some (.ref l1), none, some (.long l3), none, none, none, some (.long l7), none, some (.int l9), some (.int l10), some (.int x9), none, none] _ _ _ _ _ _
      refine r_aload_n (pc := 51) dX5_find_51 rfl ?_
      replace hf := obind hf
      obtain ⟨x11, e12, hf⟩ := hf
      refine q_getA (pc := 52) dX5_find_52 gX5_24 e12 ?_
      refine r_iload (pc := 55) dX5_find_55 rfl ?_
      replace hf := obind hf
      obtain ⟨x13, e14, hf⟩ := hf
      refine q_iald (pc := 57) dX5_find_57 e14 ?_
      refine r_istore (pc := 58) dX5_find_58 (by decide) ?_
      change gW _ _ _ [some (.ref l0), some (.ref l1), none, some (.long l3), none, none, none, some (.long l7), none, some (.int l9), some (.int l10), some (.int x9), some (.int x13), none] _ _ _ _ _ _
      refine r_lload (pc := 60) dX5_find_60 rfl ?_
      refine r_iload (pc := 62) dX5_find_62 rfl ?_
      replace hf := obind hf
      obtain ⟨q15, e16, hf⟩ := hf
      refine q_callSN (pc := 64) (v := some (.int q15)) (S' := S) mX9_contains [.long l7, .int x9] dX5_find_64 kX5_40 fX9_contains sX9_contains ⟨by decide, by decide⟩ rfl rfl (Nat.le_of_ble_eq_true rfl) (mc1 := 0) (ms1 := 0) (mc2 := mc) (ms2 := ms) (by omega) (by omega) (C_X9_contains S l7 x9 q15 e16 (qR_mk _ _)) ?_
      change gW _ _ _ _ (.int q15 :: _) _ _ _ _ _
      refine r_if_eq (pc := 67) 151 dX5_find_67 (by decide) (fun hc => ?_) (fun hc => ?_)
      · rw [if_pos hc] at hf
        exact gW.weak (by simp [gle]) (W_X5_find_151 l0 l1 l3 l7 S l9 l10 r hf hk)
      · rw [if_neg hc] at hf
        refine r_iload (pc := 70) dX5_find_70 rfl ?_
        refine r_aload_n (pc := 72) dX5_find_72 rfl ?_
        refine r_iload (pc := 73) dX5_find_73 rfl ?_
        replace hf := obind hf
        obtain ⟨q21, e22, hf⟩ := hf
        refine q_callV (pc := 75) (v := some (.int q21)) (S' := S) mX8_childCount 8 [.int x9] dX5_find_75 kX5_44 fX8_childCount iX8_childCount ⟨by decide, by decide⟩ rfl rfl rfl (Nat.le_of_ble_eq_true rfl) (og e22) (mc1 := 0) (ms1 := 0) (mc2 := mc) (ms2 := ms) (by omega) (by omega) (C_X8_childCount S l1 x9 q21 e22 (qR_mk _ _)) ?_
        change gW _ _ _ _ (.int q21 :: _) _ _ _ _ _
        refine r_icmp_ge (pc := 78) 151 dX5_find_78 (by decide) (fun hc => ?_) (fun hc => ?_)
        · rw [if_pos hc] at hf
          exact gW.weak (by simp [gle]) (W_X5_find_151 l0 l1 l3 l7 S l9 l10 r hf hk)
        · rw [if_neg hc] at hf
          refine r_aload_n (pc := 81) dX5_find_81 rfl ?_
          replace hf := obind hf
          obtain ⟨x23, e24, hf⟩ := hf
          refine q_getA (pc := 82) dX5_find_82 gX5_24 e24 ?_
          refine r_iload (pc := 85) dX5_find_85 rfl ?_
          refine r_iload (pc := 87) dX5_find_87 rfl ?_
          refine r_iconst (pc := 89) (1 : Int32) dX5_find_89 (by decide) ?_
          refine r_iadd (pc := 90) dX5_find_90 ?_
          replace hf := obind hf
          obtain ⟨S25, e26, hf⟩ := hf
          refine q_iast (pc := 91) dX5_find_91 e26 ?_
          refine r_aload_n (pc := 92) dX5_find_92 rfl ?_
          refine r_iload (pc := 93) dX5_find_93 rfl ?_
          refine r_iload (pc := 95) dX5_find_95 rfl ?_
          replace hf := obind hf
          obtain ⟨q27, e28, hf⟩ := hf
          refine q_callV (pc := 97) (v := some (.int q27)) (S' := S25) mX8_childAt 8 [.int x9, .int x13] dX5_find_97 kX5_50 fX8_childAt iX8_childAt ⟨by decide, by decide⟩ rfl rfl rfl (Nat.le_of_ble_eq_true rfl) (og e28) (mc1 := 0) (ms1 := 0) (mc2 := mc) (ms2 := ms) (by omega) (by omega) (C_X8_childAt S25 l1 x9 x13 q27 e28 (qR_mk _ _)) ?_
          change gW _ _ _ _ (.int q27 :: _) _ _ _ _ _
          refine r_istore (pc := 100) dX5_find_100 (by decide) ?_
          change gW _ _ _ [some (.ref l0), some (.ref l1), none, some (.long l3), none, none, none, some (.long l7), none, some (.int l9), some (.int l10), some (.int x9), some (.int x13), some (.int q27)] _ _ _ _ _ _
          refine r_lload_n (pc := 102) dX5_find_102 rfl ?_
          refine r_iload (pc := 103) dX5_find_103 rfl ?_
          replace hf := obind hf
          obtain ⟨q29, e30, hf⟩ := hf
          refine q_callSN (pc := 105) (v := some (.int q29)) (S' := S25) mX9_contains [.long l3, .int q27] dX5_find_105 kX5_40 fX9_contains sX9_contains ⟨by decide, by decide⟩ rfl rfl (Nat.le_of_ble_eq_true rfl) (mc1 := 0) (ms1 := 0) (mc2 := mc) (ms2 := ms) (by omega) (by omega) (C_X9_contains S25 l3 q27 q29 e30 (qR_mk _ _)) ?_
          change gW _ _ _ _ (.int q29 :: _) _ _ _ _ _
          refine r_if_eq (pc := 108) 148 dX5_find_108 (by decide) (fun hc => ?_) (fun hc => ?_)
          · rw [if_pos hc] at hf
            exact gW.weak (by simp [gle]) (W_X5_find_148 l0 l1 l3 l7 S25 l9 l10 r hf hk)
          · rw [if_neg hc] at hf
            refine r_aload_n (pc := 111) dX5_find_111 rfl ?_
            replace hf := obind hf
            obtain ⟨x31, e32, hf⟩ := hf
            refine q_getI (pc := 112) dX5_find_112 gX5_27 e32 ?_
            refine r_sipush (pc := 115) (301 : Int32) dX5_find_115 (by decide) ?_
            refine r_icmp_ge (pc := 118) 148 dX5_find_118 (by decide) (fun hc => ?_) (fun hc => ?_)
            · rw [if_pos hc] at hf
              exact gW.weak (by simp [gle]) (W_X5_find_148 l0 l1 l3 l7 S25 l9 l10 r hf hk)
            · rw [if_neg hc] at hf
              refine r_aload_n (pc := 121) dX5_find_121 rfl ?_
              refine r_iload (pc := 122) dX5_find_122 rfl ?_
              refine r_iload (pc := 124) dX5_find_124 rfl ?_
              refine r_iload (pc := 126) dX5_find_126 rfl ?_
              refine r_aload_n (pc := 128) dX5_find_128 rfl ?_
              replace hf := obind hf
              obtain ⟨x33, e34, hf⟩ := hf
              refine q_getA (pc := 129) dX5_find_129 gX5_21 e34 ?_
              refine r_iload (pc := 132) dX5_find_132 rfl ?_
              replace hf := obind hf
              obtain ⟨x35, e36, hf⟩ := hf
              refine q_iald (pc := 134) dX5_find_134 e36 ?_
              refine r_iconst (pc := 135) (1 : Int32) dX5_find_135 (by decide) ?_
              refine r_iadd (pc := 136) dX5_find_136 ?_
              replace hf := obind hf
              obtain ⟨q37, e38, hf⟩ := hf
              refine q_callV (pc := 137) (v := none) (S' := q37) mX5_putRow 5 [.int q27, .int l9, .int x13, .int (x35 + (1 : Int32))] dX5_find_137 kX5_32 fX5_putRow iX5_putRow ⟨by decide, by decide⟩ rfl rfl rfl (Nat.le_of_ble_eq_true rfl) (og e38) (mc1 := 0) (ms1 := 0) (mc2 := mc) (ms2 := ms) (by omega) (by omega) (C_X5_putRow S25 l0 q27 l9 x13 (x35 + (1 : Int32)) q37 e38 (qR_mk _ _)) ?_
              refine r_aload_n (pc := 140) dX5_find_140 rfl ?_
              replace hf := obind hf
              obtain ⟨x39, e40, hf⟩ := hf
              refine q_getI (pc := 141) dX5_find_141 gX5_27 e40 ?_
              refine r_iconst (pc := 144) (1 : Int32) dX5_find_144 (by decide) ?_
              refine r_isub (pc := 145) dX5_find_145 ?_
              refine r_istore (pc := 146) dX5_find_146 (by decide) ?_
              change gW _ _ _ [some (.ref l0), some (.ref l1), none, some (.long l3), none, none, none, some (.long l7), none, some (.int (x39 - (1 : Int32))), some (.int l10), some (.int x9), some (.int x13), some (.int q27)] _ _ _ _ _ _
              exact gW.weak (by simp [gle]) (W_X5_find_148 l0 l1 l3 l7 q37 (x39 - (1 : Int32)) l10 r hf hk)
def F_X5_find (S : pS) (a0 : Nat) (a1 : Nat) (a2 : Int32) (a3 : Int64) (a4 : Int64) : Option (pS) := (oF S a0 5).bind fun _ => (oPI S a0 5 5 (0 : Int32)).bind fun S1 => (F_X5_putRow S1 a0 a2 (-1000000 : Int32) (0 : Int32) (-1 : Int32)).bind fun q3 => (F_X9_with q3 a4 a2 (1 : Int32)).bind fun q5 => (iter (F_X5_find_29 a0 a1 a3 q5) fu ((0 : Int32), (0 : Int32), q3)).bind fun r41 => some r41
set_option maxRecDepth 100000 in
set_option maxHeartbeats 4000000 in
theorem C_X5_find {X : pX} {Q : pO → Nat → pF → Prop} (S : pS) (a0 : Nat) (a1 : Nat) (a2 : Int32) (a3 : Int64) (a4 : Int64) (r : pS) (hf : F_X5_find S a0 a1 a2 a3 a4 = some r) (hk : Q (.inl none) r.1 r.2) : gC X mX5_find [.ref a0, .ref a1, .int a2, .long a3, .long a4] S.1 S.2 Q 0 0 := by
  refine gC_of (by decide) (Nat.le_of_ble_eq_true rfl) rfl ?_
  change gW _ _ _ [some (.ref a0), some (.ref a1), some (.int a2), some (.long a3), none, some (.long a4), none, none, none, none, none, none, none, none] _ _ _ _ _ _
  unfold F_X5_find at hf
  obtain ⟨_, _, hf⟩ := obind hf
  refine r_aload_n (pc := 0) dX5_find_0 rfl ?_
  refine r_iconst (pc := 1) (0 : Int32) dX5_find_1 (by decide) ?_
  replace hf := obind hf
  obtain ⟨S1, e2, hf⟩ := hf
  refine q_putI (pc := 2) dX5_find_2 pX5_27 rfl e2 ?_
  refine r_aload_n (pc := 5) dX5_find_5 rfl ?_
  refine r_iload_n (pc := 6) dX5_find_6 rfl ?_
  refine r_ldc (pc := 7) dX5_find_7 kX5_31 ?_
  refine r_iconst (pc := 9) (0 : Int32) dX5_find_9 (by decide) ?_
  refine r_iconst (pc := 10) (-1 : Int32) dX5_find_10 (by decide) ?_
  replace hf := obind hf
  obtain ⟨q3, e4, hf⟩ := hf
  refine q_callV (pc := 11) (v := none) (S' := q3) mX5_putRow 5 [.int a2, .int (-1000000 : Int32), .int (0 : Int32), .int (-1 : Int32)] dX5_find_11 kX5_32 fX5_putRow iX5_putRow ⟨by decide, by decide⟩ rfl rfl rfl (Nat.le_of_ble_eq_true rfl) (og e4) (mc1 := 0) (ms1 := 0) (mc2 := 0) (ms2 := 0) (by decide) (by decide) (C_X5_putRow S1 a0 a2 (-1000000 : Int32) (0 : Int32) (-1 : Int32) q3 e4 (qR_mk _ _)) ?_
  refine r_lload (pc := 14) dX5_find_14 rfl ?_
  refine r_iload_n (pc := 16) dX5_find_16 rfl ?_
  refine r_iconst (pc := 17) (1 : Int32) dX5_find_17 (by decide) ?_
  replace hf := obind hf
  obtain ⟨q5, e6, hf⟩ := hf
  refine q_callSN (pc := 18) (v := some (.long q5)) (S' := q3) mX9_with [.long a4, .int a2, .int (1 : Int32)] dX5_find_18 kX5_36 fX9_with sX9_with ⟨by decide, by decide⟩ rfl rfl (Nat.le_of_ble_eq_true rfl) (mc1 := 0) (ms1 := 0) (mc2 := 0) (ms2 := 0) (by decide) (by decide) (C_X9_with q3 a4 a2 (1 : Int32) q5 e6 (qR_mk _ _)) ?_
  change gW _ _ _ _ (.long q5 :: _) _ _ _ _ _
  refine r_lstore (pc := 21) dX5_find_21 (by decide) ?_
  change gW _ _ _ [some (.ref a0), some (.ref a1), some (.int a2), some (.long a3), none, some (.long a4), none, some (.long q5), none, none, none, none, none, none] _ _ _ _ _ _
  refine r_iconst (pc := 23) (0 : Int32) dX5_find_23 (by decide) ?_
  refine r_istore (pc := 24) dX5_find_24 (by decide) ?_
  change gW _ _ _ [some (.ref a0), some (.ref a1), some (.int a2), some (.long a3), none, some (.long a4), none, some (.long q5), none, some (.int (0 : Int32)), none, none, none, none] _ _ _ _ _ _
  refine r_iconst (pc := 26) (0 : Int32) dX5_find_26 (by decide) ?_
  refine r_istore (pc := 27) dX5_find_27 (by decide) ?_
  change gW _ _ _ [some (.ref a0), some (.ref a1), some (.int a2), some (.long a3), none, some (.long a4), none, some (.long q5), none, some (.int (0 : Int32)), some (.int (0 : Int32)), none, none, none] _ _ _ _ _ _
  replace hf := obind hf
  obtain ⟨r41, e42, hf⟩ := hf
  refine gW.weak (ls' := [some (.ref a0), some (.ref a1), none, some (.long a3), none, none, none, some (.long q5), none, some (.int (0 : Int32)), some (.int (0 : Int32)), none, none, none]) (by simp [gle]) ?_
  refine g_iter (L := L_X5_find_29 a0 a1 a3 q5) (s := s_X5_find_29 a0 a1 a3 q5) (K := K_X5_find_29 X Q _ _ a0 a1 a3 q5) (W_X5_find_29 a0 a1 a3 q5) fu ((0 : Int32), (0 : Int32), q3) _ e42 ?_
  show gW _ _ 166 [some (.ref a0), some (.ref a1), none, some (.long a3), none, none, none, some (.long q5), none, none, none, none, none, none] [] r41.1 r41.2 _ _ _
  refine r_return (pc := 166) dX5_find_166 rfl ?_
  cases hf
  exact hk
def F_X5_size (S : pS) (a0 : Nat) : Option (Int32) := (oF S a0 5).bind fun _ => (oGI S a0 5 5).bind fun x1 => some (x1 - (1 : Int32))
set_option maxRecDepth 100000 in
set_option maxHeartbeats 4000000 in
theorem C_X5_size {X : pX} {Q : pO → Nat → pF → Prop} (S : pS) (a0 : Nat) (r : Int32) (hf : F_X5_size S a0 = some r) (hk : Q (.inl (some (.int r))) S.1 S.2) : gC X mX5_size [.ref a0] S.1 S.2 Q 0 0 := by
  refine gC_of (by decide) (Nat.le_of_ble_eq_true rfl) rfl ?_
  change gW _ _ _ [some (.ref a0)] _ _ _ _ _ _
  unfold F_X5_size at hf
  obtain ⟨_, _, hf⟩ := obind hf
  refine r_aload_n (pc := 0) dX5_size_0 rfl ?_
  replace hf := obind hf
  obtain ⟨x1, e2, hf⟩ := hf
  refine q_getI (pc := 1) dX5_size_1 gX5_27 e2 ?_
  refine r_iconst (pc := 4) (1 : Int32) dX5_size_4 (by decide) ?_
  refine r_isub (pc := 5) dX5_size_5 ?_
  refine r_ireturn (pc := 6) .int dX5_size_6 rfl rfl ?_
  cases hf
  exact hk
def F_X5_itemOf (S : pS) (a0 : Nat) (a1 : Int32) : Option (Int32) := (oF S a0 5).bind fun _ => (oGA S a0 5 0).bind fun x1 => (oAI S x1 .int (a1 + (1 : Int32))).bind fun x3 => some x3
set_option maxRecDepth 100000 in
set_option maxHeartbeats 4000000 in
theorem C_X5_itemOf {X : pX} {Q : pO → Nat → pF → Prop} (S : pS) (a0 : Nat) (a1 : Int32) (r : Int32) (hf : F_X5_itemOf S a0 a1 = some r) (hk : Q (.inl (some (.int r))) S.1 S.2) : gC X mX5_itemOf [.ref a0, .int a1] S.1 S.2 Q 0 0 := by
  refine gC_of (by decide) (Nat.le_of_ble_eq_true rfl) rfl ?_
  change gW _ _ _ [some (.ref a0), some (.int a1)] _ _ _ _ _ _
  unfold F_X5_itemOf at hf
  obtain ⟨_, _, hf⟩ := obind hf
  refine r_aload_n (pc := 0) dX5_itemOf_0 rfl ?_
  replace hf := obind hf
  obtain ⟨x1, e2, hf⟩ := hf
  refine q_getA (pc := 1) dX5_itemOf_1 gX5_11 e2 ?_
  refine r_iload_n (pc := 4) dX5_itemOf_4 rfl ?_
  refine r_iconst (pc := 5) (1 : Int32) dX5_itemOf_5 (by decide) ?_
  refine r_iadd (pc := 6) dX5_itemOf_6 ?_
  replace hf := obind hf
  obtain ⟨x3, e4, hf⟩ := hf
  refine q_iald (pc := 7) dX5_itemOf_7 e4 ?_
  refine r_ireturn (pc := 8) .int dX5_itemOf_8 rfl rfl ?_
  cases hf
  exact hk
def F_X5_depthOf (S : pS) (a0 : Nat) (a1 : Int32) : Option (Int32) := (oF S a0 5).bind fun _ => (oGA S a0 5 3).bind fun x1 => (oAI S x1 .int (a1 + (1 : Int32))).bind fun x3 => some x3
set_option maxRecDepth 100000 in
set_option maxHeartbeats 4000000 in
theorem C_X5_depthOf {X : pX} {Q : pO → Nat → pF → Prop} (S : pS) (a0 : Nat) (a1 : Int32) (r : Int32) (hf : F_X5_depthOf S a0 a1 = some r) (hk : Q (.inl (some (.int r))) S.1 S.2) : gC X mX5_depthOf [.ref a0, .int a1] S.1 S.2 Q 0 0 := by
  refine gC_of (by decide) (Nat.le_of_ble_eq_true rfl) rfl ?_
  change gW _ _ _ [some (.ref a0), some (.int a1)] _ _ _ _ _ _
  unfold F_X5_depthOf at hf
  obtain ⟨_, _, hf⟩ := obind hf
  refine r_aload_n (pc := 0) dX5_depthOf_0 rfl ?_
  replace hf := obind hf
  obtain ⟨x1, e2, hf⟩ := hf
  refine q_getA (pc := 1) dX5_depthOf_1 gX5_21 e2 ?_
  refine r_iload_n (pc := 4) dX5_depthOf_4 rfl ?_
  refine r_iconst (pc := 5) (1 : Int32) dX5_depthOf_5 (by decide) ?_
  refine r_iadd (pc := 6) dX5_depthOf_6 ?_
  replace hf := obind hf
  obtain ⟨x3, e4, hf⟩ := hf
  refine q_iald (pc := 7) dX5_depthOf_7 e4 ?_
  refine r_ireturn (pc := 8) .int dX5_depthOf_8 rfl rfl ?_
  cases hf
  exact hk
def F_X5_lineAbove (S : pS) (a0 : Nat) (a1 : Int32) : Option (Int32) := (oF S a0 5).bind fun _ => (oGA S a0 5 1).bind fun x1 => (oAI S x1 .int (a1 + (1 : Int32))).bind fun x3 => some (x3 - (1 : Int32))
set_option maxRecDepth 100000 in
set_option maxHeartbeats 4000000 in
theorem C_X5_lineAbove {X : pX} {Q : pO → Nat → pF → Prop} (S : pS) (a0 : Nat) (a1 : Int32) (r : Int32) (hf : F_X5_lineAbove S a0 a1 = some r) (hk : Q (.inl (some (.int r))) S.1 S.2) : gC X mX5_lineAbove [.ref a0, .int a1] S.1 S.2 Q 0 0 := by
  refine gC_of (by decide) (Nat.le_of_ble_eq_true rfl) rfl ?_
  change gW _ _ _ [some (.ref a0), some (.int a1)] _ _ _ _ _ _
  unfold F_X5_lineAbove at hf
  obtain ⟨_, _, hf⟩ := obind hf
  refine r_aload_n (pc := 0) dX5_lineAbove_0 rfl ?_
  replace hf := obind hf
  obtain ⟨x1, e2, hf⟩ := hf
  refine q_getA (pc := 1) dX5_lineAbove_1 gX5_15 e2 ?_
  refine r_iload_n (pc := 4) dX5_lineAbove_4 rfl ?_
  refine r_iconst (pc := 5) (1 : Int32) dX5_lineAbove_5 (by decide) ?_
  refine r_iadd (pc := 6) dX5_lineAbove_6 ?_
  replace hf := obind hf
  obtain ⟨x3, e4, hf⟩ := hf
  refine q_iald (pc := 7) dX5_lineAbove_7 e4 ?_
  refine r_iconst (pc := 8) (1 : Int32) dX5_lineAbove_8 (by decide) ?_
  refine r_isub (pc := 9) dX5_lineAbove_9 ?_
  refine r_ireturn (pc := 10) .int dX5_lineAbove_10 rfl rfl ?_
  cases hf
  exact hk
def F_X5_itemAbove (S : pS) (a0 : Nat) (a1 : Int32) : Option (Int32) := (oF S a0 5).bind fun _ => (oGA S a0 5 0).bind fun x1 => (oGA S a0 5 1).bind fun x3 => (oAI S x3 .int (a1 + (1 : Int32))).bind fun x5 => (oAI S x1 .int x5).bind fun x7 => some x7
set_option maxRecDepth 100000 in
set_option maxHeartbeats 4000000 in
theorem C_X5_itemAbove {X : pX} {Q : pO → Nat → pF → Prop} (S : pS) (a0 : Nat) (a1 : Int32) (r : Int32) (hf : F_X5_itemAbove S a0 a1 = some r) (hk : Q (.inl (some (.int r))) S.1 S.2) : gC X mX5_itemAbove [.ref a0, .int a1] S.1 S.2 Q 0 0 := by
  refine gC_of (by decide) (Nat.le_of_ble_eq_true rfl) rfl ?_
  change gW _ _ _ [some (.ref a0), some (.int a1)] _ _ _ _ _ _
  unfold F_X5_itemAbove at hf
  obtain ⟨_, _, hf⟩ := obind hf
  refine r_aload_n (pc := 0) dX5_itemAbove_0 rfl ?_
  replace hf := obind hf
  obtain ⟨x1, e2, hf⟩ := hf
  refine q_getA (pc := 1) dX5_itemAbove_1 gX5_11 e2 ?_
  refine r_aload_n (pc := 4) dX5_itemAbove_4 rfl ?_
  replace hf := obind hf
  obtain ⟨x3, e4, hf⟩ := hf
  refine q_getA (pc := 5) dX5_itemAbove_5 gX5_15 e4 ?_
  refine r_iload_n (pc := 8) dX5_itemAbove_8 rfl ?_
  refine r_iconst (pc := 9) (1 : Int32) dX5_itemAbove_9 (by decide) ?_
  refine r_iadd (pc := 10) dX5_itemAbove_10 ?_
  replace hf := obind hf
  obtain ⟨x5, e6, hf⟩ := hf
  refine q_iald (pc := 11) dX5_itemAbove_11 e6 ?_
  replace hf := obind hf
  obtain ⟨x7, e8, hf⟩ := hf
  refine q_iald (pc := 12) dX5_itemAbove_12 e8 ?_
  refine r_ireturn (pc := 13) .int dX5_itemAbove_13 rfl rfl ?_
  cases hf
  exact hk
def F_X5_indexIn (S : pS) (a0 : Nat) (a1 : Int32) : Option (Int32) := (oF S a0 5).bind fun _ => (oGA S a0 5 2).bind fun x1 => (oAI S x1 .int (a1 + (1 : Int32))).bind fun x3 => some x3
set_option maxRecDepth 100000 in
set_option maxHeartbeats 4000000 in
theorem C_X5_indexIn {X : pX} {Q : pO → Nat → pF → Prop} (S : pS) (a0 : Nat) (a1 : Int32) (r : Int32) (hf : F_X5_indexIn S a0 a1 = some r) (hk : Q (.inl (some (.int r))) S.1 S.2) : gC X mX5_indexIn [.ref a0, .int a1] S.1 S.2 Q 0 0 := by
  refine gC_of (by decide) (Nat.le_of_ble_eq_true rfl) rfl ?_
  change gW _ _ _ [some (.ref a0), some (.int a1)] _ _ _ _ _ _
  unfold F_X5_indexIn at hf
  obtain ⟨_, _, hf⟩ := obind hf
  refine r_aload_n (pc := 0) dX5_indexIn_0 rfl ?_
  replace hf := obind hf
  obtain ⟨x1, e2, hf⟩ := hf
  refine q_getA (pc := 1) dX5_indexIn_1 gX5_18 e2 ?_
  refine r_iload_n (pc := 4) dX5_indexIn_4 rfl ?_
  refine r_iconst (pc := 5) (1 : Int32) dX5_indexIn_5 (by decide) ?_
  refine r_iadd (pc := 6) dX5_indexIn_6 ?_
  replace hf := obind hf
  obtain ⟨x3, e4, hf⟩ := hf
  refine q_iald (pc := 7) dX5_indexIn_7 e4 ?_
  refine r_ireturn (pc := 8) .int dX5_indexIn_8 rfl rfl ?_
  cases hf
  exact hk
def F_X8_nameLength (S : pS) (a0 : Nat) (a1 : Int32) : Option (Int32) := (oF S a0 8).bind fun _ => (oGA S a0 8 2).bind fun x1 => (oAI S x1 .int a1).bind fun x3 => some x3
set_option maxRecDepth 100000 in
set_option maxHeartbeats 4000000 in
theorem C_X8_nameLength {X : pX} {Q : pO → Nat → pF → Prop} (S : pS) (a0 : Nat) (a1 : Int32) (r : Int32) (hf : F_X8_nameLength S a0 a1 = some r) (hk : Q (.inl (some (.int r))) S.1 S.2) : gC X mX8_nameLength [.ref a0, .int a1] S.1 S.2 Q 0 0 := by
  refine gC_of (by decide) (Nat.le_of_ble_eq_true rfl) rfl ?_
  change gW _ _ _ [some (.ref a0), some (.int a1)] _ _ _ _ _ _
  unfold F_X8_nameLength at hf
  obtain ⟨_, _, hf⟩ := obind hf
  refine r_aload_n (pc := 0) dX8_nameLength_0 rfl ?_
  replace hf := obind hf
  obtain ⟨x1, e2, hf⟩ := hf
  refine q_getA (pc := 1) dX8_nameLength_1 gX8_18 e2 ?_
  refine r_iload_n (pc := 4) dX8_nameLength_4 rfl ?_
  replace hf := obind hf
  obtain ⟨x3, e4, hf⟩ := hf
  refine q_iald (pc := 5) dX8_nameLength_5 e4 ?_
  refine r_ireturn (pc := 6) .int dX8_nameLength_6 rfl rfl ?_
  cases hf
  exact hk
abbrev L_X5_pathLength_18 (l0 : Nat) (l1 : Nat) (S : pS) : Int32 × Int32 × Int32 → List (Option Value) := fun a => [some (.ref l0), some (.ref l1), none, some (.int a.1), some (.int a.2.1), some (.int a.2.2)]
abbrev s_X5_pathLength_18 (l0 : Nat) (l1 : Nat) (S : pS) : Int32 × Int32 × Int32 → pS := fun a => S
abbrev K_X5_pathLength_18 (X : pX) (Q : pO → Nat → pF → Prop) (mc ms : Nat) (l0 : Nat) (l1 : Nat) (S : pS) : Int32 → Prop := (fun b => gW X mX5_pathLength 52 [some (.ref l0), some (.ref l1), none, some (.int b), none, none] [] S.1 S.2 Q mc ms)
def F_X5_pathLength_18 (l0 : Nat) (l1 : Nat) (S : pS) : Int32 × Int32 × Int32 → Option ((Int32 × Int32 × Int32) ⊕ (Int32)) := fun a => if a.2.2 < 0 then (some (.inr a.1)) else ((oGA S l0 5 0).bind fun x5 => (oAI S x5 .int a.2.1).bind fun x7 => (F_X8_nameLength S l1 x7).bind fun q9 => (oGA S l0 5 1).bind fun x11 => (oAI S x11 .int a.2.1).bind fun x13 => some (.inl (a.1 + q9, x13, a.2.2 + (-1 : Int32))))
set_option maxRecDepth 100000 in
set_option maxHeartbeats 4000000 in
theorem W_X5_pathLength_18 {X : pX} {Q : pO → Nat → pF → Prop} {mc ms : Nat} (l0 : Nat) (l1 : Nat) (S : pS) : ∀ (a : Int32 × Int32 × Int32) (r : (Int32 × Int32 × Int32) ⊕ (Int32)), F_X5_pathLength_18 l0 l1 S a = some r → Sum.elim (fun a' => gW X mX5_pathLength 18 (L_X5_pathLength_18 l0 l1 S a') [] (s_X5_pathLength_18 l0 l1 S a').1 (s_X5_pathLength_18 l0 l1 S a').2 Q mc ms) (K_X5_pathLength_18 X Q mc ms l0 l1 S) r → gW X mX5_pathLength 18 (L_X5_pathLength_18 l0 l1 S a) [] (s_X5_pathLength_18 l0 l1 S a).1 (s_X5_pathLength_18 l0 l1 S a).2 Q mc ms := by
  intro a r hf hk
  obtain ⟨l3, l4, l5⟩ := a
  unfold F_X5_pathLength_18 at hf
  try dsimp only at hf
  change gW _ _ _ [some (.ref l0), some (.ref l1), none, some (.int l3), some (.int l4), some (.int l5)] _ S.1 S.2 _ _ _
  refine r_iload (pc := 18) dX5_pathLength_18 rfl ?_
  refine r_if_lt (pc := 20) 52 dX5_pathLength_20 (by decide) (fun hc => ?_) (fun hc => ?_)
  · rw [if_pos hc] at hf
    cases hf
    exact gW.weak (by simp [gle]) hk
  · rw [if_neg hc] at hf
    refine r_iload_n (pc := 23) dX5_pathLength_23 rfl ?_
    refine r_aload_n (pc := 24) dX5_pathLength_24 rfl ?_
    refine r_aload_n (pc := 25) dX5_pathLength_25 rfl ?_
    replace hf := obind hf
    obtain ⟨x5, e6, hf⟩ := hf
    refine q_getA (pc := 26) dX5_pathLength_26 gX5_11 e6 ?_
    refine r_iload (pc := 29) dX5_pathLength_29 rfl ?_
    replace hf := obind hf
    obtain ⟨x7, e8, hf⟩ := hf
    refine q_iald (pc := 31) dX5_pathLength_31 e8 ?_
    replace hf := obind hf
    obtain ⟨q9, e10, hf⟩ := hf
    refine q_callV (pc := 32) (v := some (.int q9)) (S' := S) mX8_nameLength 8 [.int x7] dX5_pathLength_32 kX5_57 fX8_nameLength iX8_nameLength ⟨by decide, by decide⟩ rfl rfl rfl (Nat.le_of_ble_eq_true rfl) (og e10) (mc1 := 0) (ms1 := 0) (mc2 := mc) (ms2 := ms) (by omega) (by omega) (C_X8_nameLength S l1 x7 q9 e10 (qR_mk _ _)) ?_
    change gW _ _ _ _ (.int q9 :: _) _ _ _ _ _
    refine r_iadd (pc := 35) dX5_pathLength_35 ?_
    refine r_istore_n (pc := 36) dX5_pathLength_36 (by decide) ?_
    change gW _ _ _ [some (.ref l0), some (.ref l1), none, some (.int (l3 + q9)), some (.int l4), some (.int l5)] _ _ _ _ _ _
    refine r_aload_n (pc := 37) dX5_pathLength_37 rfl ?_
    replace hf := obind hf
    obtain ⟨x11, e12, hf⟩ := hf
    refine q_getA (pc := 38) dX5_pathLength_38 gX5_15 e12 ?_
    refine r_iload (pc := 41) dX5_pathLength_41 rfl ?_
    replace hf := obind hf
    obtain ⟨x13, e14, hf⟩ := hf
    refine q_iald (pc := 43) dX5_pathLength_43 e14 ?_
    refine r_istore (pc := 44) dX5_pathLength_44 (by decide) ?_
    change gW _ _ _ [some (.ref l0), some (.ref l1), none, some (.int (l3 + q9)), some (.int x13), some (.int l5)] _ _ _ _ _ _
    refine r_iinc (pc := 46) dX5_pathLength_46 rfl (by decide) ?_
    change gW _ _ _ [some (.ref l0), some (.ref l1), none, some (.int (l3 + q9)), some (.int x13), some (.int (l5 + (-1 : Int32)))] _ _ _ _ _ _
    refine r_goto (pc := 49) 18 dX5_pathLength_49 (by decide) ?_
    cases hf
    exact gW.weak (by simp [gle]) hk
def F_X5_pathLength (S : pS) (a0 : Nat) (a1 : Nat) (a2 : Int32) : Option (Int32) := (oF S a0 5).bind fun _ => (F_X5_depthOf S a0 a2).bind fun q1 => (F_X5_depthOf S a0 a2).bind fun q3 => (iter (F_X5_pathLength_18 a0 a1 S) fu (q1, a2 + (1 : Int32), q3)).bind fun r15 => some r15
set_option maxRecDepth 100000 in
set_option maxHeartbeats 4000000 in
theorem C_X5_pathLength {X : pX} {Q : pO → Nat → pF → Prop} (S : pS) (a0 : Nat) (a1 : Nat) (a2 : Int32) (r : Int32) (hf : F_X5_pathLength S a0 a1 a2 = some r) (hk : Q (.inl (some (.int r))) S.1 S.2) : gC X mX5_pathLength [.ref a0, .ref a1, .int a2] S.1 S.2 Q 0 0 := by
  refine gC_of (by decide) (Nat.le_of_ble_eq_true rfl) rfl ?_
  change gW _ _ _ [some (.ref a0), some (.ref a1), some (.int a2), none, none, none] _ _ _ _ _ _
  unfold F_X5_pathLength at hf
  obtain ⟨_, _, hf⟩ := obind hf
  refine r_aload_n (pc := 0) dX5_pathLength_0 rfl ?_
  refine r_iload_n (pc := 1) dX5_pathLength_1 rfl ?_
  replace hf := obind hf
  obtain ⟨q1, e2, hf⟩ := hf
  refine q_callV (pc := 2) (v := some (.int q1)) (S' := S) mX5_depthOf 5 [.int a2] dX5_pathLength_2 kX5_54 fX5_depthOf iX5_depthOf ⟨by decide, by decide⟩ rfl rfl rfl (Nat.le_of_ble_eq_true rfl) (og e2) (mc1 := 0) (ms1 := 0) (mc2 := 0) (ms2 := 0) (by decide) (by decide) (C_X5_depthOf S a0 a2 q1 e2 (qR_mk _ _)) ?_
  change gW _ _ _ _ (.int q1 :: _) _ _ _ _ _
  refine r_istore_n (pc := 5) dX5_pathLength_5 (by decide) ?_
  change gW _ _ _ [some (.ref a0), some (.ref a1), some (.int a2), some (.int q1), none, none] _ _ _ _ _ _
  refine r_iload_n (pc := 6) dX5_pathLength_6 rfl ?_
  refine r_iconst (pc := 7) (1 : Int32) dX5_pathLength_7 (by decide) ?_
  refine r_iadd (pc := 8) dX5_pathLength_8 ?_
  refine r_istore (pc := 9) dX5_pathLength_9 (by decide) ?_
  change gW _ _ _ [some (.ref a0), some (.ref a1), some (.int a2), some (.int q1), some (.int (a2 + (1 : Int32))), none] _ _ _ _ _ _
  refine r_aload_n (pc := 11) dX5_pathLength_11 rfl ?_
  refine r_iload_n (pc := 12) dX5_pathLength_12 rfl ?_
  replace hf := obind hf
  obtain ⟨q3, e4, hf⟩ := hf
  refine q_callV (pc := 13) (v := some (.int q3)) (S' := S) mX5_depthOf 5 [.int a2] dX5_pathLength_13 kX5_54 fX5_depthOf iX5_depthOf ⟨by decide, by decide⟩ rfl rfl rfl (Nat.le_of_ble_eq_true rfl) (og e4) (mc1 := 0) (ms1 := 0) (mc2 := 0) (ms2 := 0) (by decide) (by decide) (C_X5_depthOf S a0 a2 q3 e4 (qR_mk _ _)) ?_
  change gW _ _ _ _ (.int q3 :: _) _ _ _ _ _
  refine r_istore (pc := 16) dX5_pathLength_16 (by decide) ?_
  change gW _ _ _ [some (.ref a0), some (.ref a1), some (.int a2), some (.int q1), some (.int (a2 + (1 : Int32))), some (.int q3)] _ _ _ _ _ _
  replace hf := obind hf
  obtain ⟨r15, e16, hf⟩ := hf
  refine gW.weak (ls' := [some (.ref a0), some (.ref a1), none, some (.int q1), some (.int (a2 + (1 : Int32))), some (.int q3)]) (by simp [gle]) ?_
  refine g_iter (L := L_X5_pathLength_18 a0 a1 S) (s := s_X5_pathLength_18 a0 a1 S) (K := K_X5_pathLength_18 X Q _ _ a0 a1 S) (W_X5_pathLength_18 a0 a1 S) fu (q1, a2 + (1 : Int32), q3) _ e16 ?_
  show gW _ _ 52 [some (.ref a0), some (.ref a1), none, some (.int r15), none, none] [] S.1 S.2 _ _ _
  refine r_iload_n (pc := 52) dX5_pathLength_52 rfl ?_
  refine r_ireturn (pc := 53) .int dX5_pathLength_53 rfl rfl ?_
  cases hf
  exact hk
abbrev L_X5_pathSign_22 (l0 : Nat) (l1 : Nat) (l3 : Int32) (S : pS) : Int32 × Int32 × Int32 → List (Option Value) := fun a => [some (.ref l0), some (.ref l1), none, some (.int l3), some (.int a.1), some (.int a.2.1), some (.int a.2.2)]
abbrev s_X5_pathSign_22 (l0 : Nat) (l1 : Nat) (l3 : Int32) (S : pS) : Int32 × Int32 × Int32 → pS := fun a => S
abbrev K_X5_pathSign_22 (X : pX) (Q : pO → Nat → pF → Prop) (mc ms : Nat) (l0 : Nat) (l1 : Nat) (l3 : Int32) (S : pS) : (Int32 × Int32) ⊕ (Unit) ⊕ (Unit) → Prop := (Sum.elim (fun b => gW X mX5_pathSign 51 [some (.ref l0), some (.ref l1), none, some (.int l3), some (.int b.1), some (.int b.2), none] [] S.1 S.2 Q mc ms) (Sum.elim (fun b => gW X mX5_pathSign 75 [some (.ref l0), some (.ref l1), none, some (.int l3), none, none, none] [] S.1 S.2 Q mc ms) (fun b => gW X mX5_pathSign 93 [some (.ref l0), some (.ref l1), none, some (.int l3), none, none, none] [] S.1 S.2 Q mc ms)))
def F_X5_pathSign_22 (l0 : Nat) (l1 : Nat) (l3 : Int32) (S : pS) : Int32 × Int32 × Int32 → Option ((Int32 × Int32 × Int32) ⊕ ((Int32 × Int32) ⊕ (Unit) ⊕ (Unit))) := fun a => if a.2.2 < 0 then (some (.inr (.inr (.inr ())))) else ((oGA S l0 5 0).bind fun x5 => (oAI S x5 .int a.2.1).bind fun x7 => (F_X8_nameLength S l1 x7).bind fun q9 => if l3 < (a.1 - (q9 + (1 : Int32))) then (if ¬ l3 = ((a.1 - (q9 + (1 : Int32))) - (1 : Int32)) then ((oGA S l0 5 1).bind fun x11 => (oAI S x11 .int a.2.1).bind fun x13 => some (.inl (a.1 - (q9 + (1 : Int32)), x13, a.2.2 + (-1 : Int32)))) else (some (.inr (.inr (.inl ()))))) else (some (.inr (.inl (a.1 - (q9 + (1 : Int32)), a.2.1)))))
set_option maxRecDepth 100000 in
set_option maxHeartbeats 4000000 in
theorem W_X5_pathSign_22 {X : pX} {Q : pO → Nat → pF → Prop} {mc ms : Nat} (l0 : Nat) (l1 : Nat) (l3 : Int32) (S : pS) : ∀ (a : Int32 × Int32 × Int32) (r : (Int32 × Int32 × Int32) ⊕ ((Int32 × Int32) ⊕ (Unit) ⊕ (Unit))), F_X5_pathSign_22 l0 l1 l3 S a = some r → Sum.elim (fun a' => gW X mX5_pathSign 22 (L_X5_pathSign_22 l0 l1 l3 S a') [] (s_X5_pathSign_22 l0 l1 l3 S a').1 (s_X5_pathSign_22 l0 l1 l3 S a').2 Q mc ms) (K_X5_pathSign_22 X Q mc ms l0 l1 l3 S) r → gW X mX5_pathSign 22 (L_X5_pathSign_22 l0 l1 l3 S a) [] (s_X5_pathSign_22 l0 l1 l3 S a).1 (s_X5_pathSign_22 l0 l1 l3 S a).2 Q mc ms := by
  intro a r hf hk
  obtain ⟨l4, l5, l6⟩ := a
  unfold F_X5_pathSign_22 at hf
  try dsimp only at hf
  change gW _ _ _ [some (.ref l0), some (.ref l1), none, some (.int l3), some (.int l4), some (.int l5), some (.int l6)] _ S.1 S.2 _ _ _
  refine r_iload (pc := 22) dX5_pathSign_22 rfl ?_
  refine r_if_lt (pc := 24) 93 dX5_pathSign_24 (by decide) (fun hc => ?_) (fun hc => ?_)
  · rw [if_pos hc] at hf
    cases hf
    exact gW.weak (by simp [gle]) hk
  · rw [if_neg hc] at hf
    refine r_iload (pc := 27) dX5_pathSign_27 rfl ?_
    refine r_aload_n (pc := 29) dX5_pathSign_29 rfl ?_
    refine r_aload_n (pc := 30) dX5_pathSign_30 rfl ?_
    replace hf := obind hf
    obtain ⟨x5, e6, hf⟩ := hf
    refine q_getA (pc := 31) dX5_pathSign_31 gX5_11 e6 ?_
    refine r_iload (pc := 34) dX5_pathSign_34 rfl ?_
    replace hf := obind hf
    obtain ⟨x7, e8, hf⟩ := hf
    refine q_iald (pc := 36) dX5_pathSign_36 e8 ?_
    replace hf := obind hf
    obtain ⟨q9, e10, hf⟩ := hf
    refine q_callV (pc := 37) (v := some (.int q9)) (S' := S) mX8_nameLength 8 [.int x7] dX5_pathSign_37 kX5_57 fX8_nameLength iX8_nameLength ⟨by decide, by decide⟩ rfl rfl rfl (Nat.le_of_ble_eq_true rfl) (og e10) (mc1 := 0) (ms1 := 0) (mc2 := mc) (ms2 := ms) (by omega) (by omega) (C_X8_nameLength S l1 x7 q9 e10 (qR_mk _ _)) ?_
    change gW _ _ _ _ (.int q9 :: _) _ _ _ _ _
    refine r_iconst (pc := 40) (1 : Int32) dX5_pathSign_40 (by decide) ?_
    refine r_iadd (pc := 41) dX5_pathSign_41 ?_
    refine r_isub (pc := 42) dX5_pathSign_42 ?_
    refine r_istore (pc := 43) dX5_pathSign_43 (by decide) ?_
    change gW _ _ _ [some (.ref l0), some (.ref l1), none, some (.int l3), some (.int (l4 - (q9 + (1 : Int32)))), some (.int l5), some (.int l6)] _ _ _ _ _ _
    refine r_iload_n (pc := 45) dX5_pathSign_45 rfl ?_
    refine r_iload (pc := 46) dX5_pathSign_46 rfl ?_
    refine r_icmp_lt (pc := 48) 67 dX5_pathSign_48 (by decide) (fun hc => ?_) (fun hc => ?_)
    · rw [if_pos hc] at hf
      refine r_iload_n (pc := 67) dX5_pathSign_67 rfl ?_
      refine r_iload (pc := 68) dX5_pathSign_68 rfl ?_
      refine r_iconst (pc := 70) (1 : Int32) dX5_pathSign_70 (by decide) ?_
      refine r_isub (pc := 71) dX5_pathSign_71 ?_
      refine r_icmp_ne (pc := 72) 78 dX5_pathSign_72 (by decide) (fun hc => ?_) (fun hc => ?_)
      · rw [if_pos hc] at hf
        refine r_aload_n (pc := 78) dX5_pathSign_78 rfl ?_
        replace hf := obind hf
        obtain ⟨x11, e12, hf⟩ := hf
        refine q_getA (pc := 79) dX5_pathSign_79 gX5_15 e12 ?_
        refine r_iload (pc := 82) dX5_pathSign_82 rfl ?_
        replace hf := obind hf
        obtain ⟨x13, e14, hf⟩ := hf
        refine q_iald (pc := 84) dX5_pathSign_84 e14 ?_
        refine r_istore (pc := 85) dX5_pathSign_85 (by decide) ?_
        change gW _ _ _ [some (.ref l0), some (.ref l1), none, some (.int l3), some (.int (l4 - (q9 + (1 : Int32)))), some (.int x13), some (.int l6)] _ _ _ _ _ _
        refine r_iinc (pc := 87) dX5_pathSign_87 rfl (by decide) ?_
        change gW _ _ _ [some (.ref l0), some (.ref l1), none, some (.int l3), some (.int (l4 - (q9 + (1 : Int32)))), some (.int x13), some (.int (l6 + (-1 : Int32)))] _ _ _ _ _ _
        refine r_goto (pc := 90) 22 dX5_pathSign_90 (by decide) ?_
        cases hf
        exact gW.weak (by simp [gle]) hk
      · rw [if_neg hc] at hf
        cases hf
        exact gW.weak (by simp [gle]) hk
    · rw [if_neg hc] at hf
      cases hf
      exact gW.weak (by simp [gle]) hk
def F_X5_pathSign (S : pS) (a0 : Nat) (a1 : Nat) (a2 : Int32) (a3 : Int32) : Option (Int32) := (oF S a0 5).bind fun _ => (F_X5_pathLength S a0 a1 a2).bind fun q1 => (F_X5_depthOf S a0 a2).bind fun q3 => (iter (F_X5_pathSign_22 a0 a1 a3 S) fu (q1 + (1 : Int32), a2 + (1 : Int32), q3)).bind fun r15 => Sum.elim (fun q17 => (oGA S a0 5 0).bind fun x18 => (oAI S x18 .int q17.2).bind fun x20 => (F_X8_letterAt S a1 x20 (a3 - q17.1)).bind fun q22 => (oC q22).bind fun x24 => some x24) (fun q17 => Sum.elim (fun q26 => (oC (47 : Int32)).bind fun x27 => some x27) (fun q26 => (oC (47 : Int32)).bind fun x29 => some x29) q17) r15
set_option maxRecDepth 100000 in
set_option maxHeartbeats 4000000 in
theorem C_X5_pathSign {X : pX} {Q : pO → Nat → pF → Prop} (S : pS) (a0 : Nat) (a1 : Nat) (a2 : Int32) (a3 : Int32) (r : Int32) (hf : F_X5_pathSign S a0 a1 a2 a3 = some r) (hk : Q (.inl (some (.int r))) S.1 S.2) : gC X mX5_pathSign [.ref a0, .ref a1, .int a2, .int a3] S.1 S.2 Q 0 0 := by
  refine gC_of (by decide) (Nat.le_of_ble_eq_true rfl) rfl ?_
  change gW _ _ _ [some (.ref a0), some (.ref a1), some (.int a2), some (.int a3), none, none, none] _ _ _ _ _ _
  unfold F_X5_pathSign at hf
  obtain ⟨_, _, hf⟩ := obind hf
  refine r_aload_n (pc := 0) dX5_pathSign_0 rfl ?_
  refine r_aload_n (pc := 1) dX5_pathSign_1 rfl ?_
  refine r_iload_n (pc := 2) dX5_pathSign_2 rfl ?_
  replace hf := obind hf
  obtain ⟨q1, e2, hf⟩ := hf
  refine q_callV (pc := 3) (v := some (.int q1)) (S' := S) mX5_pathLength 5 [.ref a1, .int a2] dX5_pathSign_3 kX5_60 fX5_pathLength iX5_pathLength ⟨by decide, by decide⟩ rfl rfl rfl (Nat.le_of_ble_eq_true rfl) (og e2) (mc1 := 0) (ms1 := 0) (mc2 := 0) (ms2 := 0) (by decide) (by decide) (C_X5_pathLength S a0 a1 a2 q1 e2 (qR_mk _ _)) ?_
  change gW _ _ _ _ (.int q1 :: _) _ _ _ _ _
  refine r_iconst (pc := 6) (1 : Int32) dX5_pathSign_6 (by decide) ?_
  refine r_iadd (pc := 7) dX5_pathSign_7 ?_
  refine r_istore (pc := 8) dX5_pathSign_8 (by decide) ?_
  change gW _ _ _ [some (.ref a0), some (.ref a1), some (.int a2), some (.int a3), some (.int (q1 + (1 : Int32))), none, none] _ _ _ _ _ _
  refine r_iload_n (pc := 10) dX5_pathSign_10 rfl ?_
  refine r_iconst (pc := 11) (1 : Int32) dX5_pathSign_11 (by decide) ?_
  refine r_iadd (pc := 12) dX5_pathSign_12 ?_
  refine r_istore (pc := 13) dX5_pathSign_13 (by decide) ?_
  change gW _ _ _ [some (.ref a0), some (.ref a1), some (.int a2), some (.int a3), some (.int (q1 + (1 : Int32))), some (.int (a2 + (1 : Int32))), none] _ _ _ _ _ _
  refine r_aload_n (pc := 15) dX5_pathSign_15 rfl ?_
  refine r_iload_n (pc := 16) dX5_pathSign_16 rfl ?_
  replace hf := obind hf
  obtain ⟨q3, e4, hf⟩ := hf
  refine q_callV (pc := 17) (v := some (.int q3)) (S' := S) mX5_depthOf 5 [.int a2] dX5_pathSign_17 kX5_54 fX5_depthOf iX5_depthOf ⟨by decide, by decide⟩ rfl rfl rfl (Nat.le_of_ble_eq_true rfl) (og e4) (mc1 := 0) (ms1 := 0) (mc2 := 0) (ms2 := 0) (by decide) (by decide) (C_X5_depthOf S a0 a2 q3 e4 (qR_mk _ _)) ?_
  change gW _ _ _ _ (.int q3 :: _) _ _ _ _ _
  refine r_istore (pc := 20) dX5_pathSign_20 (by decide) ?_
  change gW _ _ _ [some (.ref a0), some (.ref a1), some (.int a2), some (.int a3), some (.int (q1 + (1 : Int32))), some (.int (a2 + (1 : Int32))), some (.int q3)] _ _ _ _ _ _
  replace hf := obind hf
  obtain ⟨r15, e16, hf⟩ := hf
  refine gW.weak (ls' := [some (.ref a0), some (.ref a1), none, some (.int a3), some (.int (q1 + (1 : Int32))), some (.int (a2 + (1 : Int32))), some (.int q3)]) (by simp [gle]) ?_
  refine g_iter (L := L_X5_pathSign_22 a0 a1 a3 S) (s := s_X5_pathSign_22 a0 a1 a3 S) (K := K_X5_pathSign_22 X Q _ _ a0 a1 a3 S) (W_X5_pathSign_22 a0 a1 a3 S) fu (q1 + (1 : Int32), a2 + (1 : Int32), q3) _ e16 ?_
  rcases r15 with q17 | q17
  · simp only [Sum.elim_inl, Sum.elim_inr] at hf
    show gW _ _ 51 [some (.ref a0), some (.ref a1), none, some (.int a3), some (.int q17.1), some (.int q17.2), none] [] S.1 S.2 _ _ _
    refine r_aload_n (pc := 51) dX5_pathSign_51 rfl ?_
    refine r_aload_n (pc := 52) dX5_pathSign_52 rfl ?_
    replace hf := obind hf
    obtain ⟨x18, e19, hf⟩ := hf
    refine q_getA (pc := 53) dX5_pathSign_53 gX5_11 e19 ?_
    refine r_iload (pc := 56) dX5_pathSign_56 rfl ?_
    replace hf := obind hf
    obtain ⟨x20, e21, hf⟩ := hf
    refine q_iald (pc := 58) dX5_pathSign_58 e21 ?_
    refine r_iload_n (pc := 59) dX5_pathSign_59 rfl ?_
    refine r_iload (pc := 60) dX5_pathSign_60 rfl ?_
    refine r_isub (pc := 62) dX5_pathSign_62 ?_
    replace hf := obind hf
    obtain ⟨q22, e23, hf⟩ := hf
    refine q_callV (pc := 63) (v := some (.int q22)) (S' := S) mX8_letterAt 8 [.int x20, .int (a3 - q17.1)] dX5_pathSign_63 kX5_64 fX8_letterAt iX8_letterAt ⟨by decide, by decide⟩ rfl rfl rfl (Nat.le_of_ble_eq_true rfl) (og e23) (mc1 := 0) (ms1 := 0) (mc2 := 0) (ms2 := 0) (by decide) (by decide) (C_X8_letterAt S a1 x20 (a3 - q17.1) q22 e23 (qR_mk _ _)) ?_
    change gW _ _ _ _ (.int q22 :: _) _ _ _ _ _
    replace hf := obind hf
    obtain ⟨x24, e25, hf⟩ := hf
    obtain ⟨e25a, e25b⟩ := oC_some e25
    rw [e25a] at hf
    refine r_ireturn (pc := 66) .char dX5_pathSign_66 rfl e25b ?_
    cases hf
    exact hk
  · simp only [Sum.elim_inl, Sum.elim_inr] at hf
    rcases q17 with q26 | q26
    · simp only [Sum.elim_inl, Sum.elim_inr] at hf
      show gW _ _ 75 [some (.ref a0), some (.ref a1), none, some (.int a3), none, none, none] [] S.1 S.2 _ _ _
      refine r_bipush (pc := 75) (47 : Int32) dX5_pathSign_75 (by decide) ?_
      replace hf := obind hf
      obtain ⟨x27, e28, hf⟩ := hf
      obtain ⟨e28a, e28b⟩ := oC_some e28
      rw [e28a] at hf
      refine r_ireturn (pc := 77) .char dX5_pathSign_77 rfl e28b ?_
      cases hf
      exact hk
    · simp only [Sum.elim_inl, Sum.elim_inr] at hf
      show gW _ _ 93 [some (.ref a0), some (.ref a1), none, some (.int a3), none, none, none] [] S.1 S.2 _ _ _
      refine r_bipush (pc := 93) (47 : Int32) dX5_pathSign_93 (by decide) ?_
      replace hf := obind hf
      obtain ⟨x29, e30, hf⟩ := hf
      obtain ⟨e30a, e30b⟩ := oC_some e30
      rw [e30a] at hf
      refine r_ireturn (pc := 95) .char dX5_pathSign_95 rfl e30b ?_
      cases hf
      exact hk
