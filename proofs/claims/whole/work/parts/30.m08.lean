abbrev L_X9_putEntries_2 (l0 : Nat) (l1 : Int32) : Int32 × pS → List (Option Value) := fun a => [some (.ref l0), some (.int l1), some (.int a.1), none, none]
abbrev s_X9_putEntries_2 (l0 : Nat) (l1 : Int32) : Int32 × pS → pS := fun a => a.2
abbrev K_X9_putEntries_2 (X : pX) (Q : pO → Nat → pF → Prop) (mc ms : Nat) (l0 : Nat) (l1 : Int32) : (Int32 × Int32 × pS) ⊕ (pS) → Prop := (Sum.elim (fun b => gW X mX9_putEntries 87 [some (.ref l0), some (.int l1), some (.int b.1), none, some (.int b.2.1)] [] b.2.2.1 b.2.2.2 Q mc ms) (fun b => gW X mX9_putEntries 135 [some (.ref l0), some (.int l1), none, none, none] [] b.1 b.2 Q mc ms))
def F_X9_putEntries_80 (l0 : Nat) (l1 : Int32) (S : pS) (l2 : Int32) (l3 : Int32) (t0 : Int32) : Option ((Int32 × pS) ⊕ ((Int32 × Int32 × pS) ⊕ (pS))) := if t0 = 0 then ((oGA S l0 9 1).bind fun x25 => (oGA S l0 9 1).bind fun x27 => (F_X8_childCount S x27 l3).bind fun q29 => (oGA S l0 9 11).bind fun x31 => (oGA S l0 9 1).bind fun x33 => (F_X2_itemFor S x31 x33 l2).bind fun q35 => (F_X8_insertChild q35.2 x25 l3 q29 q35.1).bind fun q37 => some (.inl (l2 + (1 : Int32), q37))) else (some (.inr (.inl (l2, t0, S))))
set_option maxRecDepth 100000 in
set_option maxHeartbeats 4000000 in
theorem W_X9_putEntries_80 {X : pX} {Q : pO → Nat → pF → Prop} {mc ms : Nat} (l0 : Nat) (l1 : Int32) (S : pS) (l2 : Int32) (l3 : Int32) (t0 : Int32) (r : (Int32 × pS) ⊕ ((Int32 × Int32 × pS) ⊕ (pS))) (hf : F_X9_putEntries_80 l0 l1 S l2 l3 t0 = some r) (hk : Sum.elim (fun a' => gW X mX9_putEntries 2 (L_X9_putEntries_2 l0 l1 a') [] (s_X9_putEntries_2 l0 l1 a').1 (s_X9_putEntries_2 l0 l1 a').2 Q mc ms) (K_X9_putEntries_2 X Q mc ms l0 l1) r) : gW X mX9_putEntries 80 [some (.ref l0), some (.int l1), some (.int l2), some (.int l3), none] [.int t0] S.1 S.2 Q mc ms := by
  unfold F_X9_putEntries_80 at hf
  refine r_istore (pc := 80) dX9_putEntries_80 (by decide) ?_
  change gW _ _ _ [some (.ref l0), some (.int l1), some (.int l2), some (.int l3), some (.int t0)] _ _ _ _ _ _
  refine r_iload (pc := 82) dX9_putEntries_82 rfl ?_
  refine r_if_eq (pc := 84) 101 dX9_putEntries_84 (by decide) (fun hc => ?_) (fun hc => ?_)
  · rw [if_pos hc] at hf
    refine r_aload_n (pc := 101) dX9_putEntries_101 rfl ?_
    replace hf := obind hf
    obtain ⟨x25, e26, hf⟩ := hf
    refine q_getA (pc := 102) dX9_putEntries_102 gX9_16 e26 ?_
    refine r_iload_n (pc := 105) dX9_putEntries_105 rfl ?_
    refine r_aload_n (pc := 106) dX9_putEntries_106 rfl ?_
    replace hf := obind hf
    obtain ⟨x27, e28, hf⟩ := hf
    refine q_getA (pc := 107) dX9_putEntries_107 gX9_16 e28 ?_
    refine r_iload_n (pc := 110) dX9_putEntries_110 rfl ?_
    replace hf := obind hf
    obtain ⟨q29, e30, hf⟩ := hf
    refine q_callV (pc := 111) (v := some (.int q29)) (S' := S) mX8_childCount 8 [.int l3] dX9_putEntries_111 kX9_141 fX8_childCount iX8_childCount ⟨by decide, by decide⟩ rfl rfl rfl (Nat.le_of_ble_eq_true rfl) (og e30) (mc1 := 0) (ms1 := 0) (mc2 := mc) (ms2 := ms) (by omega) (by omega) (C_X8_childCount S x27 l3 q29 e30 (qR_mk _ _)) ?_
    change gW _ _ _ _ (.int q29 :: _) _ _ _ _ _
    refine r_aload_n (pc := 114) dX9_putEntries_114 rfl ?_
    replace hf := obind hf
    obtain ⟨x31, e32, hf⟩ := hf
    refine q_getA (pc := 115) dX9_putEntries_115 gX9_73 e32 ?_
    refine r_aload_n (pc := 118) dX9_putEntries_118 rfl ?_
    replace hf := obind hf
    obtain ⟨x33, e34, hf⟩ := hf
    refine q_getA (pc := 119) dX9_putEntries_119 gX9_16 e34 ?_
    refine r_iload_n (pc := 122) dX9_putEntries_122 rfl ?_
    replace hf := obind hf
    obtain ⟨q35, e36, hf⟩ := hf
    refine q_callV (pc := 123) (v := some (.int q35.1)) (S' := q35.2) mX2_itemFor 2 [.ref x33, .int l2] dX9_putEntries_123 kX9_447 fX2_itemFor iX2_itemFor ⟨by decide, by decide⟩ rfl rfl rfl (Nat.le_of_ble_eq_true rfl) (og e36) (mc1 := 0) (ms1 := 0) (mc2 := mc) (ms2 := ms) (by omega) (by omega) (C_X2_itemFor S x31 x33 l2 q35 e36 (qR_mk _ _)) ?_
    change gW _ _ _ _ (.int q35.1 :: _) _ _ _ _ _
    replace hf := obind hf
    obtain ⟨q37, e38, hf⟩ := hf
    refine q_callV (pc := 126) (v := none) (S' := q37) mX8_insertChild 8 [.int l3, .int q29, .int q35.1] dX9_putEntries_126 kX9_173 fX8_insertChild iX8_insertChild ⟨by decide, by decide⟩ rfl rfl rfl (Nat.le_of_ble_eq_true rfl) (og e38) (mc1 := 0) (ms1 := 0) (mc2 := mc) (ms2 := ms) (by omega) (by omega) (C_X8_insertChild q35.2 x25 l3 q29 q35.1 q37 e38 (qR_mk _ _)) ?_
    refine r_iinc (pc := 129) dX9_putEntries_129 rfl (by decide) ?_
    change gW _ _ _ [some (.ref l0), some (.int l1), some (.int (l2 + (1 : Int32))), some (.int l3), some (.int t0)] _ _ _ _ _ _
    refine r_goto (pc := 132) 2 dX9_putEntries_132 (by decide) ?_
    cases hf
    exact gW.weak (by simp [gle]) hk
  · rw [if_neg hc] at hf
    cases hf
    exact gW.weak (by simp [gle]) hk
def F_X9_putEntries_2 (l0 : Nat) (l1 : Int32) : Int32 × pS → Option ((Int32 × pS) ⊕ ((Int32 × Int32 × pS) ⊕ (pS))) := fun a => (oGA a.2 l0 9 11).bind fun x1 => (F_X2_size a.2 x1).bind fun q3 => if q3 ≤ a.1 then (some (.inr (.inr a.2))) else ((oGA a.2 l0 9 11).bind fun x5 => (F_X2_parentFor a.2 x5 a.1 l1).bind fun q7 => (oGA a.2 l0 9 4).bind fun x9 => (oGA a.2 l0 9 1).bind fun x11 => (F_X6_measure a.2 x9 x11).bind fun q13 => (oGA q13 l0 9 11).bind fun x15 => (F_X2_isClone q13 x15 a.1).bind fun q17 => if q17 = 0 then ((oGA q13 l0 9 4).bind fun x19 => (oGA q13 l0 9 1).bind fun x21 => (F_X6_reasonAgainstNew q13 x19 x21 q7).bind fun q23 => F_X9_putEntries_80 l0 l1 q13 a.1 q7 q23) else ((oGA q13 l0 9 4).bind fun x39 => (oGA q13 l0 9 1).bind fun x41 => (oGA q13 l0 9 11).bind fun x43 => (F_X2_itemToClone q13 x43 a.1).bind fun q45 => (F_X6_reasonAgainst q13 x39 x41 q45 q7).bind fun q47 => F_X9_putEntries_80 l0 l1 q13 a.1 q7 q47))
set_option maxRecDepth 100000 in
set_option maxHeartbeats 4000000 in
theorem W_X9_putEntries_2 {X : pX} {Q : pO → Nat → pF → Prop} {mc ms : Nat} (l0 : Nat) (l1 : Int32) : ∀ (a : Int32 × pS) (r : (Int32 × pS) ⊕ ((Int32 × Int32 × pS) ⊕ (pS))), F_X9_putEntries_2 l0 l1 a = some r → Sum.elim (fun a' => gW X mX9_putEntries 2 (L_X9_putEntries_2 l0 l1 a') [] (s_X9_putEntries_2 l0 l1 a').1 (s_X9_putEntries_2 l0 l1 a').2 Q mc ms) (K_X9_putEntries_2 X Q mc ms l0 l1) r → gW X mX9_putEntries 2 (L_X9_putEntries_2 l0 l1 a) [] (s_X9_putEntries_2 l0 l1 a).1 (s_X9_putEntries_2 l0 l1 a).2 Q mc ms := by
  intro a r hf hk
  obtain ⟨l2, S⟩ := a
  unfold F_X9_putEntries_2 at hf
  try dsimp only at hf
  change gW _ _ _ [some (.ref l0), some (.int l1), some (.int l2), none, none] _ S.1 S.2 _ _ _
  refine r_iload_n (pc := 2) dX9_putEntries_2 rfl ?_
  refine r_aload_n (pc := 3) dX9_putEntries_3 rfl ?_
  replace hf := obind hf
  obtain ⟨x1, e2, hf⟩ := hf
  refine q_getA (pc := 4) dX9_putEntries_4 gX9_73 e2 ?_
  replace hf := obind hf
  obtain ⟨q3, e4, hf⟩ := hf
  refine q_callV (pc := 7) (v := some (.int q3)) (S' := S) mX2_size 2 [] dX9_putEntries_7 kX9_366 fX2_size iX2_size ⟨by decide, by decide⟩ rfl rfl rfl (Nat.le_of_ble_eq_true rfl) (og e4) (mc1 := 0) (ms1 := 0) (mc2 := mc) (ms2 := ms) (by omega) (by omega) (C_X2_size S x1 q3 e4 (qR_mk _ _)) ?_
  change gW _ _ _ _ (.int q3 :: _) _ _ _ _ _
  refine r_icmp_ge (pc := 10) 135 dX9_putEntries_10 (by decide) (fun hc => ?_) (fun hc => ?_)
  · rw [if_pos hc] at hf
    cases hf
    exact gW.weak (by simp [gle]) hk
  · rw [if_neg hc] at hf
    refine r_aload_n (pc := 13) dX9_putEntries_13 rfl ?_
    replace hf := obind hf
    obtain ⟨x5, e6, hf⟩ := hf
    refine q_getA (pc := 14) dX9_putEntries_14 gX9_73 e6 ?_
    refine r_iload_n (pc := 17) dX9_putEntries_17 rfl ?_
    refine r_iload_n (pc := 18) dX9_putEntries_18 rfl ?_
    replace hf := obind hf
    obtain ⟨q7, e8, hf⟩ := hf
    refine q_callV (pc := 19) (v := some (.int q7)) (S' := S) mX2_parentFor 2 [.int l2, .int l1] dX9_putEntries_19 kX9_438 fX2_parentFor iX2_parentFor ⟨by decide, by decide⟩ rfl rfl rfl (Nat.le_of_ble_eq_true rfl) (og e8) (mc1 := 0) (ms1 := 0) (mc2 := mc) (ms2 := ms) (by omega) (by omega) (C_X2_parentFor S x5 l2 l1 q7 e8 (qR_mk _ _)) ?_
    change gW _ _ _ _ (.int q7 :: _) _ _ _ _ _
    refine r_istore_n (pc := 22) dX9_putEntries_22 (by decide) ?_
    change gW _ _ _ [some (.ref l0), some (.int l1), some (.int l2), some (.int q7), none] _ _ _ _ _ _
    refine r_aload_n (pc := 23) dX9_putEntries_23 rfl ?_
    replace hf := obind hf
    obtain ⟨x9, e10, hf⟩ := hf
    refine q_getA (pc := 24) dX9_putEntries_24 gX9_29 e10 ?_
    refine r_aload_n (pc := 27) dX9_putEntries_27 rfl ?_
    replace hf := obind hf
    obtain ⟨x11, e12, hf⟩ := hf
    refine q_getA (pc := 28) dX9_putEntries_28 gX9_16 e12 ?_
    replace hf := obind hf
    obtain ⟨q13, e14, hf⟩ := hf
    refine q_callV (pc := 31) (v := none) (S' := q13) mX6_measure 6 [.ref x11] dX9_putEntries_31 kX9_195 fX6_measure iX6_measure ⟨by decide, by decide⟩ rfl rfl rfl (Nat.le_of_ble_eq_true rfl) (og e14) (mc1 := 0) (ms1 := 0) (mc2 := mc) (ms2 := ms) (by omega) (by omega) (C_X6_measure S x9 x11 q13 e14 (qR_mk _ _)) ?_
    refine r_aload_n (pc := 34) dX9_putEntries_34 rfl ?_
    replace hf := obind hf
    obtain ⟨x15, e16, hf⟩ := hf
    refine q_getA (pc := 35) dX9_putEntries_35 gX9_73 e16 ?_
    refine r_iload_n (pc := 38) dX9_putEntries_38 rfl ?_
    replace hf := obind hf
    obtain ⟨q17, e18, hf⟩ := hf
    refine q_callV (pc := 39) (v := some (.int q17)) (S' := q13) mX2_isClone 2 [.int l2] dX9_putEntries_39 kX9_441 fX2_isClone iX2_isClone ⟨by decide, by decide⟩ rfl rfl rfl (Nat.le_of_ble_eq_true rfl) (og e18) (mc1 := 0) (ms1 := 0) (mc2 := mc) (ms2 := ms) (by omega) (by omega) (C_X2_isClone q13 x15 l2 q17 e18 (qR_mk _ _)) ?_
    change gW _ _ _ _ (.int q17 :: _) _ _ _ _ _
    refine r_if_eq (pc := 42) 68 dX9_putEntries_42 (by decide) (fun hc => ?_) (fun hc => ?_)
    · rw [if_pos hc] at hf
      refine r_aload_n (pc := 68) dX9_putEntries_68 rfl ?_
      replace hf := obind hf
      obtain ⟨x19, e20, hf⟩ := hf
      refine q_getA (pc := 69) dX9_putEntries_69 gX9_29 e20 ?_
      refine r_aload_n (pc := 72) dX9_putEntries_72 rfl ?_
      replace hf := obind hf
      obtain ⟨x21, e22, hf⟩ := hf
      refine q_getA (pc := 73) dX9_putEntries_73 gX9_16 e22 ?_
      refine r_iload_n (pc := 76) dX9_putEntries_76 rfl ?_
      replace hf := obind hf
      obtain ⟨q23, e24, hf⟩ := hf
      refine q_callV (pc := 77) (v := some (.int q23)) (S' := q13) mX6_reasonAgainstNew 6 [.ref x21, .int q7] dX9_putEntries_77 kX9_152 fX6_reasonAgainstNew iX6_reasonAgainstNew ⟨by decide, by decide⟩ rfl rfl rfl (Nat.le_of_ble_eq_true rfl) (og e24) (mc1 := 0) (ms1 := 0) (mc2 := mc) (ms2 := ms) (by omega) (by omega) (C_X6_reasonAgainstNew q13 x19 x21 q7 q23 e24 (qR_mk _ _)) ?_
      change gW _ _ _ _ (.int q23 :: _) _ _ _ _ _
      exact gW.weak (by simp [gle]) (W_X9_putEntries_80 l0 l1 q13 l2 q7 q23 r hf hk)
    · rw [if_neg hc] at hf
      refine r_aload_n (pc := 45) dX9_putEntries_45 rfl ?_
      replace hf := obind hf
      obtain ⟨x39, e40, hf⟩ := hf
      refine q_getA (pc := 46) dX9_putEntries_46 gX9_29 e40 ?_
      refine r_aload_n (pc := 49) dX9_putEntries_49 rfl ?_
      replace hf := obind hf
      obtain ⟨x41, e42, hf⟩ := hf
      refine q_getA (pc := 50) dX9_putEntries_50 gX9_16 e42 ?_
      refine r_aload_n (pc := 53) dX9_putEntries_53 rfl ?_
      replace hf := obind hf
      obtain ⟨x43, e44, hf⟩ := hf
      refine q_getA (pc := 54) dX9_putEntries_54 gX9_73 e44 ?_
      refine r_iload_n (pc := 57) dX9_putEntries_57 rfl ?_
      replace hf := obind hf
      obtain ⟨q45, e46, hf⟩ := hf
      refine q_callV (pc := 58) (v := some (.int q45)) (S' := q13) mX2_itemToClone 2 [.int l2] dX9_putEntries_58 kX9_444 fX2_itemToClone iX2_itemToClone ⟨by decide, by decide⟩ rfl rfl rfl (Nat.le_of_ble_eq_true rfl) (og e46) (mc1 := 0) (ms1 := 0) (mc2 := mc) (ms2 := ms) (by omega) (by omega) (C_X2_itemToClone q13 x43 l2 q45 e46 (qR_mk _ _)) ?_
      change gW _ _ _ _ (.int q45 :: _) _ _ _ _ _
      refine r_iload_n (pc := 61) dX9_putEntries_61 rfl ?_
      replace hf := obind hf
      obtain ⟨q47, e48, hf⟩ := hf
      refine q_callV (pc := 62) (v := some (.int q47)) (S' := q13) mX6_reasonAgainst 6 [.ref x41, .int q45, .int q7] dX9_putEntries_62 kX9_182 fX6_reasonAgainst iX6_reasonAgainst ⟨by decide, by decide⟩ rfl rfl rfl (Nat.le_of_ble_eq_true rfl) (og e48) (mc1 := 0) (ms1 := 0) (mc2 := mc) (ms2 := ms) (by omega) (by omega) (C_X6_reasonAgainst q13 x39 x41 q45 q7 q47 e48 (qR_mk _ _)) ?_
      change gW _ _ _ _ (.int q47 :: _) _ _ _ _ _
      refine r_goto (pc := 65) 80 dX9_putEntries_65 (by decide) ?_
      exact gW.weak (by simp [gle]) (W_X9_putEntries_80 l0 l1 q13 l2 q7 q47 r hf hk)
def F_X9_putEntries (S : pS) (a0 : Nat) (a1 : Int32) : Option (Int32 × pS) := (oF S a0 9).bind fun _ => (iter (F_X9_putEntries_2 a0 a1) fu ((0 : Int32), S)).bind fun r49 => Sum.elim (fun q51 => (oGA q51.2.2 a0 9 12).bind fun x52 => (F_X0_keep q51.2.2 x52 (60 : Int32) q51.1 q51.2.1).bind fun q54 => some ((0 : Int32), q54)) (fun q51 => some ((1 : Int32), q51)) r49
set_option maxRecDepth 100000 in
set_option maxHeartbeats 4000000 in
theorem C_X9_putEntries {X : pX} {Q : pO → Nat → pF → Prop} (S : pS) (a0 : Nat) (a1 : Int32) (r : Int32 × pS) (hf : F_X9_putEntries S a0 a1 = some r) (hk : Q (.inl (some (.int r.1))) r.2.1 r.2.2) : gC X mX9_putEntries [.ref a0, .int a1] S.1 S.2 Q 0 0 := by
  refine gC_of (by decide) (Nat.le_of_ble_eq_true rfl) rfl ?_
  change gW _ _ _ [some (.ref a0), some (.int a1), none, none, none] _ _ _ _ _ _
  unfold F_X9_putEntries at hf
  obtain ⟨_, _, hf⟩ := obind hf
  refine r_iconst (pc := 0) (0 : Int32) dX9_putEntries_0 (by decide) ?_
  refine r_istore_n (pc := 1) dX9_putEntries_1 (by decide) ?_
  change gW _ _ _ [some (.ref a0), some (.int a1), some (.int (0 : Int32)), none, none] _ _ _ _ _ _
  replace hf := obind hf
  obtain ⟨r49, e50, hf⟩ := hf
  refine gW.weak (ls' := [some (.ref a0), some (.int a1), some (.int (0 : Int32)), none, none]) (by simp [gle]) ?_
  refine g_iter (L := L_X9_putEntries_2 a0 a1) (s := s_X9_putEntries_2 a0 a1) (K := K_X9_putEntries_2 X Q _ _ a0 a1) (W_X9_putEntries_2 a0 a1) fu ((0 : Int32), S) _ e50 ?_
  rcases r49 with q51 | q51
  · simp only [Sum.elim_inl, Sum.elim_inr] at hf
    show gW _ _ 87 [some (.ref a0), some (.int a1), some (.int q51.1), none, some (.int q51.2.1)] [] q51.2.2.1 q51.2.2.2 _ _ _
    refine r_aload_n (pc := 87) dX9_putEntries_87 rfl ?_
    replace hf := obind hf
    obtain ⟨x52, e53, hf⟩ := hf
    refine q_getA (pc := 88) dX9_putEntries_88 gX9_80 e53 ?_
    refine r_bipush (pc := 91) (60 : Int32) dX9_putEntries_91 (by decide) ?_
    refine r_iload_n (pc := 93) dX9_putEntries_93 rfl ?_
    refine r_iload (pc := 94) dX9_putEntries_94 rfl ?_
    replace hf := obind hf
    obtain ⟨q54, e55, hf⟩ := hf
    refine q_callV (pc := 96) (v := none) (S' := q54) mX0_keep 0 [.int (60 : Int32), .int q51.1, .int q51.2.1] dX9_putEntries_96 kX9_156 fX0_keep iX0_keep ⟨by decide, by decide⟩ rfl rfl rfl (Nat.le_of_ble_eq_true rfl) (og e55) (mc1 := 0) (ms1 := 0) (mc2 := 0) (ms2 := 0) (by decide) (by decide) (C_X0_keep q51.2.2 x52 (60 : Int32) q51.1 q51.2.1 q54 e55 (qR_mk _ _)) ?_
    refine r_iconst (pc := 99) (0 : Int32) dX9_putEntries_99 (by decide) ?_
    refine r_ireturn (pc := 100) .boolean dX9_putEntries_100 rfl rfl ?_
    cases hf
    exact hk
  · simp only [Sum.elim_inl, Sum.elim_inr] at hf
    show gW _ _ 135 [some (.ref a0), some (.int a1), none, none, none] [] q51.1 q51.2 _ _ _
    refine r_iconst (pc := 135) (1 : Int32) dX9_putEntries_135 (by decide) ?_
    refine r_ireturn (pc := 136) .boolean dX9_putEntries_136 rfl rfl ?_
    cases hf
    exact hk
def F_X9_load_23 (S : pS) (l0 : Nat) (l1 : Int32) : Option ((Int32 × pS) ⊕ (String × pS)) := (oGA S l0 9 10).bind fun x9 => (F_X7_forget S x9).bind fun q11 => (oGA q11 l0 9 1).bind fun x13 => (oGA q11 l0 9 0).bind fun x15 => (F_X8_copyFrom q11 x13 x15).bind fun q17 => (F_X9_putEntries q17 l0 l1).bind fun q19 => if ¬ q19.1 = 0 then ((F_X9_adoptDraft q19.2 l0).bind fun q21 => (oGA q21 l0 9 11).bind fun x23 => (F_X2_size q21 x23).bind fun q25 => some (.inl (q25, q21))) else (some (.inr ("java/lang/UnsupportedOperationException", q19.2)))
set_option maxRecDepth 100000 in
set_option maxHeartbeats 4000000 in
theorem W_X9_load_23 {X : pX} {Q : pO → Nat → pF → Prop} (S : pS) (l0 : Nat) (l1 : Int32) (r : (Int32 × pS) ⊕ (String × pS)) (hf : F_X9_load_23 S l0 l1 = some r) (hk : Sum.elim (fun q => Q (.inl (some (.int q.1))) q.2.1 q.2.2) (fun q => ∀ n', q.2.1 ≤ n' → Q (.inr q.1) n' (gjunk q.2.2 q.2.1)) r) : gW X mX9_load 23 [some (.ref l0), some (.int l1)] [] S.1 S.2 Q 7 1596 := by
  unfold F_X9_load_23 at hf
  refine r_aload_n (pc := 23) dX9_load_23 rfl ?_
  replace hf := obind hf
  obtain ⟨x9, e10, hf⟩ := hf
  refine q_getA (pc := 24) dX9_load_24 gX9_66 e10 ?_
  replace hf := obind hf
  obtain ⟨q11, e12, hf⟩ := hf
  refine q_callV (pc := 27) (v := none) (S' := q11) mX7_forget 7 [] dX9_load_27 kX9_354 fX7_forget iX7_forget ⟨by decide, by decide⟩ rfl rfl rfl (Nat.le_of_ble_eq_true rfl) (og e12) (mc1 := 0) (ms1 := 0) (mc2 := 7) (ms2 := 1596) (by decide) (by decide) (C_X7_forget S x9 q11 e12 (qR_mk _ _)) ?_
  refine r_aload_n (pc := 30) dX9_load_30 rfl ?_
  replace hf := obind hf
  obtain ⟨x13, e14, hf⟩ := hf
  refine q_getA (pc := 31) dX9_load_31 gX9_16 e14 ?_
  refine r_aload_n (pc := 34) dX9_load_34 rfl ?_
  replace hf := obind hf
  obtain ⟨x15, e16, hf⟩ := hf
  refine q_getA (pc := 35) dX9_load_35 gX9_12 e16 ?_
  replace hf := obind hf
  obtain ⟨q17, e18, hf⟩ := hf
  refine q_callV (pc := 38) (v := none) (S' := q17) mX8_copyFrom 8 [.ref x15] dX9_load_38 kX9_165 fX8_copyFrom iX8_copyFrom ⟨by decide, by decide⟩ rfl rfl rfl (Nat.le_of_ble_eq_true rfl) (og e18) (mc1 := 0) (ms1 := 0) (mc2 := 7) (ms2 := 1596) (by decide) (by decide) (C_X8_copyFrom q11 x13 x15 q17 e18 (qR_mk _ _)) ?_
  refine r_aload_n (pc := 41) dX9_load_41 rfl ?_
  refine r_iload_n (pc := 42) dX9_load_42 rfl ?_
  replace hf := obind hf
  obtain ⟨q19, e20, hf⟩ := hf
  refine q_callV (pc := 43) (v := some (.int q19.1)) (S' := q19.2) mX9_putEntries 9 [.int l1] dX9_load_43 kX9_363 fX9_putEntries iX9_putEntries ⟨by decide, by decide⟩ rfl rfl rfl (Nat.le_of_ble_eq_true rfl) (og e20) (mc1 := 0) (ms1 := 0) (mc2 := 7) (ms2 := 1596) (by decide) (by decide) (C_X9_putEntries q17 l0 l1 q19 e20 (qR_mk _ _)) ?_
  change gW _ _ _ _ (.int q19.1 :: _) _ _ _ _ _
  refine r_if_ne (pc := 46) 59 dX9_load_46 (by decide) (fun hc => ?_) (fun hc => ?_)
  · rw [if_pos hc] at hf
    refine r_aload_n (pc := 59) dX9_load_59 rfl ?_
    replace hf := obind hf
    obtain ⟨q21, e22, hf⟩ := hf
    refine q_callV (pc := 60) (v := none) (S' := q21) mX9_adoptDraft 9 [] dX9_load_60 kX9_176 fX9_adoptDraft iX9_adoptDraft ⟨by decide, by decide⟩ rfl rfl rfl (Nat.le_of_ble_eq_true rfl) (og e22) (mc1 := 7) (ms1 := 1596) (mc2 := 0) (ms2 := 0) (by decide) (by decide) (C_X9_adoptDraft q19.2 l0 q21 e22 (qR_mk _ _)) ?_
    refine r_aload_n (pc := 63) dX9_load_63 rfl ?_
    replace hf := obind hf
    obtain ⟨x23, e24, hf⟩ := hf
    refine q_getA (pc := 64) dX9_load_64 gX9_73 e24 ?_
    replace hf := obind hf
    obtain ⟨q25, e26, hf⟩ := hf
    refine q_callV (pc := 67) (v := some (.int q25)) (S' := q21) mX2_size 2 [] dX9_load_67 kX9_366 fX2_size iX2_size ⟨by decide, by decide⟩ rfl rfl rfl (Nat.le_of_ble_eq_true rfl) (og e26) (mc1 := 0) (ms1 := 0) (mc2 := 0) (ms2 := 0) (by decide) (by decide) (C_X2_size q21 x23 q25 e26 (qR_mk _ _)) ?_
    change gW _ _ _ _ (.int q25 :: _) _ _ _ _ _
    refine r_ireturn (pc := 70) .int dX9_load_70 rfl rfl ?_
    cases hf
    exact hk
  · rw [if_neg hc] at hf
    refine r_throw (pc := 49) "java/lang/UnsupportedOperationException" 13 dX9_load_49 dX9_load_52 dX9_load_53 dX9_load_55 dX9_load_58 xX9_160_164 rfl ⟨by decide, Nat.le_of_ble_eq_true rfl⟩ (by decide) (by decide) ?_
    cases hf
    exact hk
def F_X9_load (S : pS) (a0 : Nat) (a1 : Int32) : Option ((Int32 × pS) ⊕ (String × pS)) := (oF S a0 9).bind fun _ => (F_X9_needItem S a0 a1).bind fun q1 => Sum.elim (fun q1 => (oGA q1 a0 9 11).bind fun x3 => (oGA q1 a0 9 10).bind fun x5 => (F_X2_read q1 x3 x5).bind fun q7 => if ¬ q7.1 = 0 then (F_X9_load_23 q7.2 a0 a1) else ((F_X9_failText q7.2 a0).bind fun q27 => Sum.elim (fun q27 => F_X9_load_23 q27 a0 a1) (fun q27 => some (.inr q27)) q27)) (fun q1 => some (.inr q1)) q1
set_option maxRecDepth 100000 in
set_option maxHeartbeats 4000000 in
theorem C_X9_load {X : pX} {Q : pO → Nat → pF → Prop} (S : pS) (a0 : Nat) (a1 : Int32) (r : (Int32 × pS) ⊕ (String × pS)) (hf : F_X9_load S a0 a1 = some r) (hk : Sum.elim (fun q => Q (.inl (some (.int q.1))) q.2.1 q.2.2) (fun q => ∀ n', q.2.1 ≤ n' → Q (.inr q.1) n' (gjunk q.2.2 q.2.1)) r) : gC X mX9_load [.ref a0, .int a1] S.1 S.2 Q 9 1608 := by
  refine gC_of (by decide) (Nat.le_of_ble_eq_true rfl) rfl ?_
  change gW _ _ _ [some (.ref a0), some (.int a1)] _ _ _ _ _ _
  unfold F_X9_load at hf
  obtain ⟨_, _, hf⟩ := obind hf
  refine r_aload_n (pc := 0) dX9_load_0 rfl ?_
  refine r_iload_n (pc := 1) dX9_load_1 rfl ?_
  replace hf := obind hf
  obtain ⟨q1, e2, hf⟩ := hf
  rcases q1 with q1 | q1
  · simp only [Sum.elim_inl, Sum.elim_inr] at hf
    refine q_callV (pc := 2) (v := none) (S' := q1) mX9_needItem 9 [.int a1] dX9_load_2 kX9_137 fX9_needItem iX9_needItem ⟨by decide, by decide⟩ rfl rfl rfl (Nat.le_of_ble_eq_true rfl) (og e2) (mc1 := 1) (ms1 := 6) (mc2 := 8) (ms2 := 1602) (by decide) (by decide) (C_X9_needItem S a0 a1 (.inl q1) e2 (qR_mk _ _)) ?_
    refine r_aload_n (pc := 5) dX9_load_5 rfl ?_
    replace hf := obind hf
    obtain ⟨x3, e4, hf⟩ := hf
    refine q_getA (pc := 6) dX9_load_6 gX9_73 e4 ?_
    refine r_aload_n (pc := 9) dX9_load_9 rfl ?_
    replace hf := obind hf
    obtain ⟨x5, e6, hf⟩ := hf
    refine q_getA (pc := 10) dX9_load_10 gX9_66 e6 ?_
    replace hf := obind hf
    obtain ⟨q7, e8, hf⟩ := hf
    refine q_callV (pc := 13) (v := some (.int q7.1)) (S' := q7.2) mX2_read 2 [.ref x5] dX9_load_13 kX9_362 fX2_read iX2_read ⟨by decide, by decide⟩ rfl rfl rfl (Nat.le_of_ble_eq_true rfl) (og e8) (mc1 := 0) (ms1 := 0) (mc2 := 8) (ms2 := 1602) (by decide) (by decide) (C_X2_read q1 x3 x5 q7 e8 (qR_mk _ _)) ?_
    change gW _ _ _ _ (.int q7.1 :: _) _ _ _ _ _
    refine r_if_ne (pc := 16) 23 dX9_load_16 (by decide) (fun hc => ?_) (fun hc => ?_)
    · rw [if_pos hc] at hf
      refine gW.mono (mc := 7) (ms := 1596) ?_ (fun _ _ _ q => q) (by decide) (by decide)
      exact gW.weak (by simp [gle]) (W_X9_load_23 q7.2 a0 a1 r hf hk)
    · rw [if_neg hc] at hf
      refine r_aload_n (pc := 19) dX9_load_19 rfl ?_
      replace hf := obind hf
      obtain ⟨q27, e28, hf⟩ := hf
      rcases q27 with q27 | q27
      · simp only [Sum.elim_inl, Sum.elim_inr] at hf
        refine q_callV (pc := 20) (v := none) (S' := q27) mX9_failText 9 [] dX9_load_20 kX9_351 fX9_failText iX9_failText ⟨by decide, by decide⟩ rfl rfl rfl (Nat.le_of_ble_eq_true rfl) (og e28) (mc1 := 1) (ms1 := 6) (mc2 := 7) (ms2 := 1596) (by decide) (by decide) (C_X9_failText q7.2 a0 (.inl q27) e28 (qR_mk _ _)) ?_
        refine gW.mono (mc := 7) (ms := 1596) ?_ (fun _ _ _ q => q) (by decide) (by decide)
        exact gW.weak (by simp [gle]) (W_X9_load_23 q27 a0 a1 r hf hk)
      · simp only [Sum.elim_inl, Sum.elim_inr] at hf
        refine q_callVt (pc := 20) (E := q27.1) (S' := q27.2) mX9_failText 9 [] dX9_load_20 kX9_351 fX9_failText iX9_failText ⟨by decide, by decide⟩ rfl rfl rfl (Nat.le_of_ble_eq_true rfl) (og e28) (mc1 := 1) (ms1 := 6) (by decide) (by decide) (C_X9_failText q7.2 a0 (.inr q27) e28 (qX_mk _ _)) ?_
        cases hf
        exact hk
  · simp only [Sum.elim_inl, Sum.elim_inr] at hf
    refine q_callVt (pc := 2) (E := q1.1) (S' := q1.2) mX9_needItem 9 [.int a1] dX9_load_2 kX9_137 fX9_needItem iX9_needItem ⟨by decide, by decide⟩ rfl rfl rfl (Nat.le_of_ble_eq_true rfl) (og e2) (mc1 := 1) (ms1 := 6) (by decide) (by decide) (C_X9_needItem S a0 a1 (.inr q1) e2 (qX_mk _ _)) ?_
    cases hf
    exact hk
def F_X9_errorPosition (S : pS) (a0 : Nat) : Option ((Int32 × pS) ⊕ (String × pS)) := (oF S a0 9).bind fun _ => (oGI S a0 9 15).bind fun x1 => if ¬ x1 = (-1000000 : Int32) then ((oGI S a0 9 15).bind fun x3 => some (.inl (x3, S))) else (some (.inr ("java/lang/IllegalStateException", S)))
set_option maxRecDepth 100000 in
set_option maxHeartbeats 4000000 in
theorem C_X9_errorPosition {X : pX} {Q : pO → Nat → pF → Prop} (S : pS) (a0 : Nat) (r : (Int32 × pS) ⊕ (String × pS)) (hf : F_X9_errorPosition S a0 = some r) (hk : Sum.elim (fun q => Q (.inl (some (.int q.1))) q.2.1 q.2.2) (fun q => ∀ n', q.2.1 ≤ n' → Q (.inr q.1) n' (gjunk q.2.2 q.2.1)) r) : gC X mX9_errorPosition [.ref a0] S.1 S.2 Q 1 6 := by
  refine gC_of (by decide) (Nat.le_of_ble_eq_true rfl) rfl ?_
  change gW _ _ _ [some (.ref a0)] _ _ _ _ _ _
  unfold F_X9_errorPosition at hf
  obtain ⟨_, _, hf⟩ := obind hf
  refine r_aload_n (pc := 0) dX9_errorPosition_0 rfl ?_
  replace hf := obind hf
  obtain ⟨x1, e2, hf⟩ := hf
  refine q_getI (pc := 1) dX9_errorPosition_1 gX9_93 e2 ?_
  refine r_ldc (pc := 4) dX9_errorPosition_4 kX9_92 ?_
  refine r_icmp_ne (pc := 6) 20 dX9_errorPosition_6 (by decide) (fun hc => ?_) (fun hc => ?_)
  · rw [if_pos hc] at hf
    refine r_aload_n (pc := 20) dX9_errorPosition_20 rfl ?_
    replace hf := obind hf
    obtain ⟨x3, e4, hf⟩ := hf
    refine q_getI (pc := 21) dX9_errorPosition_21 gX9_93 e4 ?_
    refine r_ireturn (pc := 24) .int dX9_errorPosition_24 rfl rfl ?_
    cases hf
    exact hk
  · rw [if_neg hc] at hf
    refine r_throwW (pc := 9) "java/lang/IllegalStateException" 24 dX9_errorPosition_9 dX9_errorPosition_12 dX9_errorPosition_13 dX9_errorPosition_16 dX9_errorPosition_19 xX9_125_129 rfl ⟨by decide, Nat.le_of_ble_eq_true rfl⟩ (by decide) (by decide) ?_
    cases hf
    exact hk
def F_X9_refusal (S : pS) (a0 : Nat) (a1 : Int32) : Option ((Int32 × pS) ⊕ (String × pS)) := (oF S a0 9).bind fun _ => (oGA S a0 9 12).bind fun x1 => (F_X0_size S x1).bind fun q3 => if ¬ q3 = 0 then ((oGA S a0 9 12).bind fun x5 => (F_X0_size S x5).bind fun q7 => (F_X9_needIndex S a0 a1 q7).bind fun q9 => Sum.elim (fun q9 => (oGA q9 a0 9 12).bind fun x11 => (F_X0_numberAt q9 x11 a1).bind fun q13 => some (.inl (q13, q9))) (fun q9 => some (.inr q9)) q9) else (some (.inr ("java/lang/IllegalStateException", S)))
set_option maxRecDepth 100000 in
set_option maxHeartbeats 4000000 in
theorem C_X9_refusal {X : pX} {Q : pO → Nat → pF → Prop} (S : pS) (a0 : Nat) (a1 : Int32) (r : (Int32 × pS) ⊕ (String × pS)) (hf : F_X9_refusal S a0 a1 = some r) (hk : Sum.elim (fun q => Q (.inl (some (.int q.1))) q.2.1 q.2.2) (fun q => ∀ n', q.2.1 ≤ n' → Q (.inr q.1) n' (gjunk q.2.2 q.2.1)) r) : gC X mX9_refusal [.ref a0, .int a1] S.1 S.2 Q 1 6 := by
  refine gC_of (by decide) (Nat.le_of_ble_eq_true rfl) rfl ?_
  change gW _ _ _ [some (.ref a0), some (.int a1)] _ _ _ _ _ _
  unfold F_X9_refusal at hf
  obtain ⟨_, _, hf⟩ := obind hf
  refine r_aload_n (pc := 0) dX9_refusal_0 rfl ?_
  replace hf := obind hf
  obtain ⟨x1, e2, hf⟩ := hf
  refine q_getA (pc := 1) dX9_refusal_1 gX9_80 e2 ?_
  replace hf := obind hf
  obtain ⟨q3, e4, hf⟩ := hf
  refine q_callV (pc := 4) (v := some (.int q3)) (S' := S) mX0_size 0 [] dX9_refusal_4 kX9_369 fX0_size iX0_size ⟨by decide, by decide⟩ rfl rfl rfl (Nat.le_of_ble_eq_true rfl) (og e4) (mc1 := 0) (ms1 := 0) (mc2 := 1) (ms2 := 6) (by decide) (by decide) (C_X0_size S x1 q3 e4 (qR_mk _ _)) ?_
  change gW _ _ _ _ (.int q3 :: _) _ _ _ _ _
  refine r_if_ne (pc := 7) 21 dX9_refusal_7 (by decide) (fun hc => ?_) (fun hc => ?_)
  · rw [if_pos hc] at hf
    refine r_aload_n (pc := 21) dX9_refusal_21 rfl ?_
    refine r_iload_n (pc := 22) dX9_refusal_22 rfl ?_
    refine r_aload_n (pc := 23) dX9_refusal_23 rfl ?_
    replace hf := obind hf
    obtain ⟨x5, e6, hf⟩ := hf
    refine q_getA (pc := 24) dX9_refusal_24 gX9_80 e6 ?_
    replace hf := obind hf
    obtain ⟨q7, e8, hf⟩ := hf
    refine q_callV (pc := 27) (v := some (.int q7)) (S' := S) mX0_size 0 [] dX9_refusal_27 kX9_369 fX0_size iX0_size ⟨by decide, by decide⟩ rfl rfl rfl (Nat.le_of_ble_eq_true rfl) (og e8) (mc1 := 0) (ms1 := 0) (mc2 := 1) (ms2 := 6) (by decide) (by decide) (C_X0_size S x5 q7 e8 (qR_mk _ _)) ?_
    change gW _ _ _ _ (.int q7 :: _) _ _ _ _ _
    replace hf := obind hf
    obtain ⟨q9, e10, hf⟩ := hf
    rcases q9 with q9 | q9
    · simp only [Sum.elim_inl, Sum.elim_inr] at hf
      refine q_callV (pc := 30) (v := none) (S' := q9) mX9_needIndex 9 [.int a1, .int q7] dX9_refusal_30 kX9_189 fX9_needIndex iX9_needIndex ⟨by decide, by decide⟩ rfl rfl rfl (Nat.le_of_ble_eq_true rfl) (og e10) (mc1 := 1) (ms1 := 6) (mc2 := 0) (ms2 := 0) (by decide) (by decide) (C_X9_needIndex S a0 a1 q7 (.inl q9) e10 (qR_mk _ _)) ?_
      refine r_aload_n (pc := 33) dX9_refusal_33 rfl ?_
      replace hf := obind hf
      obtain ⟨x11, e12, hf⟩ := hf
      refine q_getA (pc := 34) dX9_refusal_34 gX9_80 e12 ?_
      refine r_iload_n (pc := 37) dX9_refusal_37 rfl ?_
      replace hf := obind hf
      obtain ⟨q13, e14, hf⟩ := hf
      refine q_callV (pc := 38) (v := some (.int q13)) (S' := q9) mX0_numberAt 0 [.int a1] dX9_refusal_38 kX9_372 fX0_numberAt iX0_numberAt ⟨by decide, by decide⟩ rfl rfl rfl (Nat.le_of_ble_eq_true rfl) (og e14) (mc1 := 0) (ms1 := 0) (mc2 := 0) (ms2 := 0) (by decide) (by decide) (C_X0_numberAt q9 x11 a1 q13 e14 (qR_mk _ _)) ?_
      change gW _ _ _ _ (.int q13 :: _) _ _ _ _ _
      refine r_ireturn (pc := 41) .int dX9_refusal_41 rfl rfl ?_
      cases hf
      exact hk
    · simp only [Sum.elim_inl, Sum.elim_inr] at hf
      refine q_callVt (pc := 30) (E := q9.1) (S' := q9.2) mX9_needIndex 9 [.int a1, .int q7] dX9_refusal_30 kX9_189 fX9_needIndex iX9_needIndex ⟨by decide, by decide⟩ rfl rfl rfl (Nat.le_of_ble_eq_true rfl) (og e10) (mc1 := 1) (ms1 := 6) (by decide) (by decide) (C_X9_needIndex S a0 a1 q7 (.inr q9) e10 (qX_mk _ _)) ?_
      cases hf
      exact hk
  · rw [if_neg hc] at hf
    refine r_throwW (pc := 10) "java/lang/IllegalStateException" 25 dX9_refusal_10 dX9_refusal_13 dX9_refusal_14 dX9_refusal_17 dX9_refusal_20 xX9_125_129 rfl ⟨by decide, Nat.le_of_ble_eq_true rfl⟩ (by decide) (by decide) ?_
    cases hf
    exact hk
def F_X9_isConsistent (S : pS) (a0 : Nat) : Option (Int32 × pS) := (oF S a0 9).bind fun _ => (oGA S a0 9 4).bind fun x1 => (oGA S a0 9 0).bind fun x3 => (F_X6_measure S x1 x3).bind fun q5 => (oGA q5 a0 9 4).bind fun x7 => (oGA q5 a0 9 0).bind fun x9 => (F_X6_ordersAll q5 x7 x9).bind fun q11 => if q11 = 0 then (some ((0 : Int32), q5)) else ((oGA q5 a0 9 4).bind fun x13 => (F_X6_familyOf q5 x13 (0 : Int32)).bind fun q15 => (oGA q5 a0 9 0).bind fun x17 => (F_X8_presentItems q5 x17).bind fun q19 => if ¬ (lg_cmp q15 q19) = 0 then (some ((0 : Int32), q5)) else ((oGA q5 a0 9 0).bind fun x21 => (F_X8_hasSoundChildren q5 x21).bind fun q23 => if q23 = 0 then (some ((0 : Int32), q5)) else ((oGA q5 a0 9 0).bind fun x25 => (oGA q5 a0 9 4).bind fun x27 => (F_X8_hasParentsAs q5 x25 x27).bind fun q29 => if q29 = 0 then (some ((0 : Int32), q5)) else ((oGA q5 a0 9 4).bind fun x31 => (oGA q5 a0 9 0).bind fun x33 => (F_X6_sumOfPlaces q5 x31 x33).bind fun q35 => (oGA q5 a0 9 4).bind fun x37 => (F_X6_placesBelow q5 x37 (0 : Int32)).bind fun q39 => if ¬ q35 = q39 then (some ((0 : Int32), q5)) else (some ((1 : Int32), q5))))))
set_option maxRecDepth 100000 in
set_option maxHeartbeats 4000000 in
theorem C_X9_isConsistent {X : pX} {Q : pO → Nat → pF → Prop} (S : pS) (a0 : Nat) (r : Int32 × pS) (hf : F_X9_isConsistent S a0 = some r) (hk : Q (.inl (some (.int r.1))) r.2.1 r.2.2) : gC X mX9_isConsistent [.ref a0] S.1 S.2 Q 0 0 := by
  refine gC_of (by decide) (Nat.le_of_ble_eq_true rfl) rfl ?_
  change gW _ _ _ [some (.ref a0)] _ _ _ _ _ _
  unfold F_X9_isConsistent at hf
  obtain ⟨_, _, hf⟩ := obind hf
  refine r_aload_n (pc := 0) dX9_isConsistent_0 rfl ?_
  replace hf := obind hf
  obtain ⟨x1, e2, hf⟩ := hf
  refine q_getA (pc := 1) dX9_isConsistent_1 gX9_29 e2 ?_
  refine r_aload_n (pc := 4) dX9_isConsistent_4 rfl ?_
  replace hf := obind hf
  obtain ⟨x3, e4, hf⟩ := hf
  refine q_getA (pc := 5) dX9_isConsistent_5 gX9_12 e4 ?_
  replace hf := obind hf
  obtain ⟨q5, e6, hf⟩ := hf
  refine q_callV (pc := 8) (v := none) (S' := q5) mX6_measure 6 [.ref x3] dX9_isConsistent_8 kX9_195 fX6_measure iX6_measure ⟨by decide, by decide⟩ rfl rfl rfl (Nat.le_of_ble_eq_true rfl) (og e6) (mc1 := 0) (ms1 := 0) (mc2 := 0) (ms2 := 0) (by decide) (by decide) (C_X6_measure S x1 x3 q5 e6 (qR_mk _ _)) ?_
  refine r_aload_n (pc := 11) dX9_isConsistent_11 rfl ?_
  replace hf := obind hf
  obtain ⟨x7, e8, hf⟩ := hf
  refine q_getA (pc := 12) dX9_isConsistent_12 gX9_29 e8 ?_
  refine r_aload_n (pc := 15) dX9_isConsistent_15 rfl ?_
  replace hf := obind hf
  obtain ⟨x9, e10, hf⟩ := hf
  refine q_getA (pc := 16) dX9_isConsistent_16 gX9_12 e10 ?_
  replace hf := obind hf
  obtain ⟨q11, e12, hf⟩ := hf
  refine q_callV (pc := 19) (v := some (.int q11)) (S' := q5) mX6_ordersAll 6 [.ref x9] dX9_isConsistent_19 kX9_375 fX6_ordersAll iX6_ordersAll ⟨by decide, by decide⟩ rfl rfl rfl (Nat.le_of_ble_eq_true rfl) (og e12) (mc1 := 0) (ms1 := 0) (mc2 := 0) (ms2 := 0) (by decide) (by decide) (C_X6_ordersAll q5 x7 x9 q11 e12 (qR_mk _ _)) ?_
  change gW _ _ _ _ (.int q11 :: _) _ _ _ _ _
  refine r_if_eq (pc := 22) 94 dX9_isConsistent_22 (by decide) (fun hc => ?_) (fun hc => ?_)
  · rw [if_pos hc] at hf
    refine r_iconst (pc := 94) (0 : Int32) dX9_isConsistent_94 (by decide) ?_
    refine r_ireturn (pc := 95) .boolean dX9_isConsistent_95 rfl rfl ?_
    cases hf
    exact hk
  · rw [if_neg hc] at hf
    refine r_aload_n (pc := 25) dX9_isConsistent_25 rfl ?_
    replace hf := obind hf
    obtain ⟨x13, e14, hf⟩ := hf
    refine q_getA (pc := 26) dX9_isConsistent_26 gX9_29 e14 ?_
    refine r_iconst (pc := 29) (0 : Int32) dX9_isConsistent_29 (by decide) ?_
    replace hf := obind hf
    obtain ⟨q15, e16, hf⟩ := hf
    refine q_callV (pc := 30) (v := some (.long q15)) (S' := q5) mX6_familyOf 6 [.int (0 : Int32)] dX9_isConsistent_30 kX9_198 fX6_familyOf iX6_familyOf ⟨by decide, by decide⟩ rfl rfl rfl (Nat.le_of_ble_eq_true rfl) (og e16) (mc1 := 0) (ms1 := 0) (mc2 := 0) (ms2 := 0) (by decide) (by decide) (C_X6_familyOf q5 x13 (0 : Int32) q15 e16 (qR_mk _ _)) ?_
    change gW _ _ _ _ (.long q15 :: _) _ _ _ _ _
    refine r_aload_n (pc := 33) dX9_isConsistent_33 rfl ?_
    replace hf := obind hf
    obtain ⟨x17, e18, hf⟩ := hf
    refine q_getA (pc := 34) dX9_isConsistent_34 gX9_12 e18 ?_
    replace hf := obind hf
    obtain ⟨q19, e20, hf⟩ := hf
    refine q_callV (pc := 37) (v := some (.long q19)) (S' := q5) mX8_presentItems 8 [] dX9_isConsistent_37 kX9_379 fX8_presentItems iX8_presentItems ⟨by decide, by decide⟩ rfl rfl rfl (Nat.le_of_ble_eq_true rfl) (og e20) (mc1 := 0) (ms1 := 0) (mc2 := 0) (ms2 := 0) (by decide) (by decide) (C_X8_presentItems q5 x17 q19 e20 (qR_mk _ _)) ?_
    change gW _ _ _ _ (.long q19 :: _) _ _ _ _ _
    refine r_lcmp (pc := 40) dX9_isConsistent_40 ?_
    refine r_if_ne (pc := 41) 94 dX9_isConsistent_41 (by decide) (fun hc => ?_) (fun hc => ?_)
    · rw [if_pos hc] at hf
      refine r_iconst (pc := 94) (0 : Int32) dX9_isConsistent_94 (by decide) ?_
      refine r_ireturn (pc := 95) .boolean dX9_isConsistent_95 rfl rfl ?_
      cases hf
      exact hk
    · rw [if_neg hc] at hf
      refine r_aload_n (pc := 44) dX9_isConsistent_44 rfl ?_
      replace hf := obind hf
      obtain ⟨x21, e22, hf⟩ := hf
      refine q_getA (pc := 45) dX9_isConsistent_45 gX9_12 e22 ?_
      replace hf := obind hf
      obtain ⟨q23, e24, hf⟩ := hf
      refine q_callV (pc := 48) (v := some (.int q23)) (S' := q5) mX8_hasSoundChildren 8 [] dX9_isConsistent_48 kX9_382 fX8_hasSoundChildren iX8_hasSoundChildren ⟨by decide, by decide⟩ rfl rfl rfl (Nat.le_of_ble_eq_true rfl) (og e24) (mc1 := 0) (ms1 := 0) (mc2 := 0) (ms2 := 0) (by decide) (by decide) (C_X8_hasSoundChildren q5 x21 q23 e24 (qR_mk _ _)) ?_
      change gW _ _ _ _ (.int q23 :: _) _ _ _ _ _
      refine r_if_eq (pc := 51) 94 dX9_isConsistent_51 (by decide) (fun hc => ?_) (fun hc => ?_)
      · rw [if_pos hc] at hf
        refine r_iconst (pc := 94) (0 : Int32) dX9_isConsistent_94 (by decide) ?_
        refine r_ireturn (pc := 95) .boolean dX9_isConsistent_95 rfl rfl ?_
        cases hf
        exact hk
      · rw [if_neg hc] at hf
        refine r_aload_n (pc := 54) dX9_isConsistent_54 rfl ?_
        replace hf := obind hf
        obtain ⟨x25, e26, hf⟩ := hf
        refine q_getA (pc := 55) dX9_isConsistent_55 gX9_12 e26 ?_
        refine r_aload_n (pc := 58) dX9_isConsistent_58 rfl ?_
        replace hf := obind hf
        obtain ⟨x27, e28, hf⟩ := hf
        refine q_getA (pc := 59) dX9_isConsistent_59 gX9_29 e28 ?_
        replace hf := obind hf
        obtain ⟨q29, e30, hf⟩ := hf
        refine q_callV (pc := 62) (v := some (.int q29)) (S' := q5) mX8_hasParentsAs 8 [.ref x27] dX9_isConsistent_62 kX9_386 fX8_hasParentsAs iX8_hasParentsAs ⟨by decide, by decide⟩ rfl rfl rfl (Nat.le_of_ble_eq_true rfl) (og e30) (mc1 := 0) (ms1 := 0) (mc2 := 0) (ms2 := 0) (by decide) (by decide) (C_X8_hasParentsAs q5 x25 x27 q29 e30 (qR_mk _ _)) ?_
        change gW _ _ _ _ (.int q29 :: _) _ _ _ _ _
        refine r_if_eq (pc := 65) 94 dX9_isConsistent_65 (by decide) (fun hc => ?_) (fun hc => ?_)
        · rw [if_pos hc] at hf
          refine r_iconst (pc := 94) (0 : Int32) dX9_isConsistent_94 (by decide) ?_
          refine r_ireturn (pc := 95) .boolean dX9_isConsistent_95 rfl rfl ?_
          cases hf
          exact hk
        · rw [if_neg hc] at hf
          refine r_aload_n (pc := 68) dX9_isConsistent_68 rfl ?_
          replace hf := obind hf
          obtain ⟨x31, e32, hf⟩ := hf
          refine q_getA (pc := 69) dX9_isConsistent_69 gX9_29 e32 ?_
          refine r_aload_n (pc := 72) dX9_isConsistent_72 rfl ?_
          replace hf := obind hf
          obtain ⟨x33, e34, hf⟩ := hf
          refine q_getA (pc := 73) dX9_isConsistent_73 gX9_12 e34 ?_
          replace hf := obind hf
          obtain ⟨q35, e36, hf⟩ := hf
          refine q_callV (pc := 76) (v := some (.int q35)) (S' := q5) mX6_sumOfPlaces 6 [.ref x33] dX9_isConsistent_76 kX9_390 fX6_sumOfPlaces iX6_sumOfPlaces ⟨by decide, by decide⟩ rfl rfl rfl (Nat.le_of_ble_eq_true rfl) (og e36) (mc1 := 0) (ms1 := 0) (mc2 := 0) (ms2 := 0) (by decide) (by decide) (C_X6_sumOfPlaces q5 x31 x33 q35 e36 (qR_mk _ _)) ?_
          change gW _ _ _ _ (.int q35 :: _) _ _ _ _ _
          refine r_aload_n (pc := 79) dX9_isConsistent_79 rfl ?_
          replace hf := obind hf
          obtain ⟨x37, e38, hf⟩ := hf
          refine q_getA (pc := 80) dX9_isConsistent_80 gX9_29 e38 ?_
          refine r_iconst (pc := 83) (0 : Int32) dX9_isConsistent_83 (by decide) ?_
          replace hf := obind hf
          obtain ⟨q39, e40, hf⟩ := hf
          refine q_callV (pc := 84) (v := some (.int q39)) (S' := q5) mX6_placesBelow 6 [.int (0 : Int32)] dX9_isConsistent_84 kX9_309 fX6_placesBelow iX6_placesBelow ⟨by decide, by decide⟩ rfl rfl rfl (Nat.le_of_ble_eq_true rfl) (og e40) (mc1 := 0) (ms1 := 0) (mc2 := 0) (ms2 := 0) (by decide) (by decide) (C_X6_placesBelow q5 x37 (0 : Int32) q39 e40 (qR_mk _ _)) ?_
          change gW _ _ _ _ (.int q39 :: _) _ _ _ _ _
          refine r_icmp_ne (pc := 87) 94 dX9_isConsistent_87 (by decide) (fun hc => ?_) (fun hc => ?_)
          · rw [if_pos hc] at hf
            refine r_iconst (pc := 94) (0 : Int32) dX9_isConsistent_94 (by decide) ?_
            refine r_ireturn (pc := 95) .boolean dX9_isConsistent_95 rfl rfl ?_
            cases hf
            exact hk
          · rw [if_neg hc] at hf
            refine r_iconst (pc := 90) (1 : Int32) dX9_isConsistent_90 (by decide) ?_
            refine r_goto (pc := 91) 95 dX9_isConsistent_91 (by decide) ?_
            refine r_ireturn (pc := 95) .boolean dX9_isConsistent_95 rfl rfl ?_
            cases hf
            exact hk
def F_X9_undo (S : pS) (a0 : Nat) : Option ((Int32 × pS) ⊕ (String × pS)) := (oF S a0 9).bind fun _ => (oGA S a0 9 5).bind fun x1 => (F_X3_size S x1).bind fun q3 => if ¬ q3 = 0 then ((oGA S a0 9 5).bind fun x5 => (oGA S a0 9 0).bind fun x7 => (F_X3_pop S x5 x7).bind fun q9 => (oPA q9.2 a0 9 0 q9.1).bind fun S11 => (F_X9_settle S11 a0).bind fun q13 => (oGA q13 a0 9 5).bind fun x15 => (F_X3_size q13 x15).bind fun q17 => some (.inl (q17, q13))) else (some (.inr ("java/lang/IllegalStateException", S)))
set_option maxRecDepth 100000 in
set_option maxHeartbeats 4000000 in
theorem C_X9_undo {X : pX} {Q : pO → Nat → pF → Prop} (S : pS) (a0 : Nat) (r : (Int32 × pS) ⊕ (String × pS)) (hf : F_X9_undo S a0 = some r) (hk : Sum.elim (fun q => Q (.inl (some (.int q.1))) q.2.1 q.2.2) (fun q => ∀ n', q.2.1 ≤ n' → Q (.inr q.1) n' (gjunk q.2.2 q.2.1)) r) : gC X mX9_undo [.ref a0] S.1 S.2 Q 1 6 := by
  refine gC_of (by decide) (Nat.le_of_ble_eq_true rfl) rfl ?_
  change gW _ _ _ [some (.ref a0)] _ _ _ _ _ _
  unfold F_X9_undo at hf
  obtain ⟨_, _, hf⟩ := obind hf
  refine r_aload_n (pc := 0) dX9_undo_0 rfl ?_
  replace hf := obind hf
  obtain ⟨x1, e2, hf⟩ := hf
  refine q_getA (pc := 1) dX9_undo_1 gX9_35 e2 ?_
  replace hf := obind hf
  obtain ⟨q3, e4, hf⟩ := hf
  refine q_callV (pc := 4) (v := some (.int q3)) (S' := S) mX3_size 3 [] dX9_undo_4 kX9_333 fX3_size iX3_size ⟨by decide, by decide⟩ rfl rfl rfl (Nat.le_of_ble_eq_true rfl) (og e4) (mc1 := 0) (ms1 := 0) (mc2 := 1) (ms2 := 6) (by decide) (by decide) (C_X3_size S x1 q3 e4 (qR_mk _ _)) ?_
  change gW _ _ _ _ (.int q3 :: _) _ _ _ _ _
  refine r_if_ne (pc := 7) 21 dX9_undo_7 (by decide) (fun hc => ?_) (fun hc => ?_)
  · rw [if_pos hc] at hf
    refine r_aload_n (pc := 21) dX9_undo_21 rfl ?_
    refine r_aload_n (pc := 22) dX9_undo_22 rfl ?_
    replace hf := obind hf
    obtain ⟨x5, e6, hf⟩ := hf
    refine q_getA (pc := 23) dX9_undo_23 gX9_35 e6 ?_
    refine r_aload_n (pc := 26) dX9_undo_26 rfl ?_
    replace hf := obind hf
    obtain ⟨x7, e8, hf⟩ := hf
    refine q_getA (pc := 27) dX9_undo_27 gX9_12 e8 ?_
    replace hf := obind hf
    obtain ⟨q9, e10, hf⟩ := hf
    refine q_callV (pc := 30) (v := some (.ref q9.1)) (S' := q9.2) mX3_pop 3 [.ref x7] dX9_undo_30 kX9_396 fX3_pop iX3_pop ⟨by decide, by decide⟩ rfl rfl rfl (Nat.le_of_ble_eq_true rfl) (og e10) (mc1 := 0) (ms1 := 0) (mc2 := 0) (ms2 := 0) (by decide) (by decide) (C_X3_pop S x5 x7 q9 e10 (qR_mk _ _)) ?_
    change gW _ _ _ _ (.ref q9.1 :: _) _ _ _ _ _
    replace hf := obind hf
    obtain ⟨S11, e12, hf⟩ := hf
    refine q_putA (pc := 33) dX9_undo_33 pX9_12 (Or.inl ⟨_, rfl⟩) e12 ?_
    refine r_aload_n (pc := 36) dX9_undo_36 rfl ?_
    replace hf := obind hf
    obtain ⟨q13, e14, hf⟩ := hf
    refine q_callV (pc := 37) (v := none) (S' := q13) mX9_settle 9 [] dX9_undo_37 kX9_111 fX9_settle iX9_settle ⟨by decide, by decide⟩ rfl rfl rfl (Nat.le_of_ble_eq_true rfl) (og e14) (mc1 := 0) (ms1 := 0) (mc2 := 0) (ms2 := 0) (by decide) (by decide) (C_X9_settle S11 a0 q13 e14 (qR_mk _ _)) ?_
    refine r_aload_n (pc := 40) dX9_undo_40 rfl ?_
    replace hf := obind hf
    obtain ⟨x15, e16, hf⟩ := hf
    refine q_getA (pc := 41) dX9_undo_41 gX9_35 e16 ?_
    replace hf := obind hf
    obtain ⟨q17, e18, hf⟩ := hf
    refine q_callV (pc := 44) (v := some (.int q17)) (S' := q13) mX3_size 3 [] dX9_undo_44 kX9_333 fX3_size iX3_size ⟨by decide, by decide⟩ rfl rfl rfl (Nat.le_of_ble_eq_true rfl) (og e18) (mc1 := 0) (ms1 := 0) (mc2 := 0) (ms2 := 0) (by decide) (by decide) (C_X3_size q13 x15 q17 e18 (qR_mk _ _)) ?_
    change gW _ _ _ _ (.int q17 :: _) _ _ _ _ _
    refine r_ireturn (pc := 47) .int dX9_undo_47 rfl rfl ?_
    cases hf
    exact hk
  · rw [if_neg hc] at hf
    refine r_throwW (pc := 10) "java/lang/IllegalStateException" 26 dX9_undo_10 dX9_undo_13 dX9_undo_14 dX9_undo_17 dX9_undo_20 xX9_125_129 rfl ⟨by decide, Nat.le_of_ble_eq_true rfl⟩ (by decide) (by decide) ?_
    cases hf
    exact hk
def F_X9_snapshot_18 (S : pS) (l0 : Nat) : Option (Int32 × pS) := (oGN S l0 9 2).bind fun x8 => (oGA S l0 9 0).bind fun x10 => (x8).bind fun b12 => (F_X8_copyFrom S b12 x10).bind fun q14 => (oGN q14 l0 9 2).bind fun x16 => (x16).bind fun b18 => (F_X8_countItems q14 b18).bind fun q20 => some (q20, q14)
set_option maxRecDepth 100000 in
set_option maxHeartbeats 4000000 in
theorem W_X9_snapshot_18 {X : pX} {Q : pO → Nat → pF → Prop} (S : pS) (l0 : Nat) (r : Int32 × pS) (hf : F_X9_snapshot_18 S l0 = some r) (hk : Q (.inl (some (.int r.1))) r.2.1 r.2.2) : gW X mX9_snapshot 18 [some (.ref l0)] [] S.1 S.2 Q 0 0 := by
  unfold F_X9_snapshot_18 at hf
  refine r_aload_n (pc := 18) dX9_snapshot_18 rfl ?_
  replace hf := obind hf
  obtain ⟨x8, e9, hf⟩ := hf
  refine q_getN (pc := 19) dX9_snapshot_19 gX9_19 e9 ?_
  refine r_aload_n (pc := 22) dX9_snapshot_22 rfl ?_
  replace hf := obind hf
  obtain ⟨x10, e11, hf⟩ := hf
  refine q_getA (pc := 23) dX9_snapshot_23 gX9_12 e11 ?_
  replace hf := obind hf
  obtain ⟨b12, e13, hf⟩ := hf
  subst e13
  replace hf := obind hf
  obtain ⟨q14, e15, hf⟩ := hf
  refine q_callV (pc := 26) (v := none) (S' := q14) mX8_copyFrom 8 [.ref x10] dX9_snapshot_26 kX9_165 fX8_copyFrom iX8_copyFrom ⟨by decide, by decide⟩ rfl rfl rfl (Nat.le_of_ble_eq_true rfl) (og e15) (mc1 := 0) (ms1 := 0) (mc2 := 0) (ms2 := 0) (by decide) (by decide) (C_X8_copyFrom S b12 x10 q14 e15 (qR_mk _ _)) ?_
  refine r_aload_n (pc := 29) dX9_snapshot_29 rfl ?_
  replace hf := obind hf
  obtain ⟨x16, e17, hf⟩ := hf
  refine q_getN (pc := 30) dX9_snapshot_30 gX9_19 e17 ?_
  replace hf := obind hf
  obtain ⟨b18, e19, hf⟩ := hf
  subst e19
  replace hf := obind hf
  obtain ⟨q20, e21, hf⟩ := hf
  refine q_callV (pc := 33) (v := some (.int q20)) (S' := q14) mX8_countItems 8 [] dX9_snapshot_33 kX9_97 fX8_countItems iX8_countItems ⟨by decide, by decide⟩ rfl rfl rfl (Nat.le_of_ble_eq_true rfl) (og e21) (mc1 := 0) (ms1 := 0) (mc2 := 0) (ms2 := 0) (by decide) (by decide) (C_X8_countItems q14 b18 q20 e21 (qR_mk _ _)) ?_
  change gW _ _ _ _ (.int q20 :: _) _ _ _ _ _
  refine r_ireturn (pc := 36) .int dX9_snapshot_36 rfl rfl ?_
  cases hf
  exact hk
def F_X9_snapshot (S : pS) (a0 : Nat) : Option (Int32 × pS) := (oF S a0 9).bind fun _ => (oGN S a0 9 2).bind fun x1 => (match x1 with | none => ((F_X8_init (oNew S (.inr (8, dfX8))) S.1).bind fun q4 => (oPA q4 a0 9 2 S.1).bind fun S6 => F_X9_snapshot_18 S6 a0) | some b3 => (F_X9_snapshot_18 S a0))
set_option maxRecDepth 100000 in
set_option maxHeartbeats 4000000 in
theorem C_X9_snapshot {X : pX} {Q : pO → Nat → pF → Prop} (S : pS) (a0 : Nat) (r : Int32 × pS) (hf : F_X9_snapshot S a0 = some r) (hk : Q (.inl (some (.int r.1))) r.2.1 r.2.2) : gC X mX9_snapshot [.ref a0] S.1 S.2 Q 7 1596 := by
  refine gC_of (by decide) (Nat.le_of_ble_eq_true rfl) rfl ?_
  change gW _ _ _ [some (.ref a0)] _ _ _ _ _ _
  unfold F_X9_snapshot at hf
  obtain ⟨_, _, hf⟩ := obind hf
  refine r_aload_n (pc := 0) dX9_snapshot_0 rfl ?_
  replace hf := obind hf
  obtain ⟨x1, e2, hf⟩ := hf
  refine q_getN (pc := 1) dX9_snapshot_1 gX9_19 e2 ?_
  cases x1 with
  | none =>
    replace hf := hf
    refine r_ifnonnullN (pc := 4) dX9_snapshot_4 ?_
    refine r_aload_n (pc := 7) dX9_snapshot_7 rfl ?_
    refine r_new (pc := 8) 8 tyX8 dX9_snapshot_8 rfl uX8 tyX8_ok nX9_9.1 nX9_9.2.1 nX9_9.2.2 (mc2 := 6) (ms2 := 1586) (by decide) (by decide) dfX8_ok ?_
    change gW _ _ _ _ _ (oNew S (.inr (8, dfX8))).1 (oNew S (.inr (8, dfX8))).2 _ _ _
    refine r_dup (pc := 11) dX9_snapshot_11 rfl ?_
    replace hf := obind hf
    obtain ⟨q4, e5, hf⟩ := hf
    refine q_callI (pc := 12) (S' := q4) mX8_init dX9_snapshot_12 kX9_11 fX8_init iX8_init rfl rfl ⟨by decide, by decide⟩ (Nat.le_of_ble_eq_true rfl) (mc1 := 6) (ms1 := 1586) (mc2 := 0) (ms2 := 0) (by decide) (by decide) (C_X8_init (oNew S (.inr (8, dfX8))) S.1 q4 e5 (qR_mk _ _)) ?_
    replace hf := obind hf
    obtain ⟨S6, e7, hf⟩ := hf
    refine q_putA (pc := 15) dX9_snapshot_15 pX9_19 (Or.inl ⟨_, rfl⟩) e7 ?_
    refine gW.mono (mc := 0) (ms := 0) ?_ (fun _ _ _ q => q) (by decide) (by decide)
    exact gW.weak (by simp [gle]) (W_X9_snapshot_18 S6 a0 r hf hk)
  | some b3 =>
    replace hf := hf
    refine r_ifnonnull (pc := 4) 18 dX9_snapshot_4 (by decide) ?_
    refine gW.mono (mc := 0) (ms := 0) ?_ (fun _ _ _ q => q) (by decide) (by decide)
    exact gW.weak (by simp [gle]) (W_X9_snapshot_18 S a0 r hf hk)
def F_X9_restore (S : pS) (a0 : Nat) : Option ((Int32 × pS) ⊕ (String × pS)) := (oF S a0 9).bind fun _ => (oGN S a0 9 2).bind fun x1 => (match x1 with | none => (some (.inr ("java/lang/IllegalStateException", S))) | some b3 => ((oGA S a0 9 0).bind fun x4 => (oGN S a0 9 2).bind fun x6 => (x6).bind fun b8 => (F_X8_copyFrom S x4 b8).bind fun q10 => (oGA q10 a0 9 5).bind fun x12 => (F_X3_forget q10 x12).bind fun q14 => (F_X9_settle q14 a0).bind fun q16 => (oGA q16 a0 9 0).bind fun x18 => (F_X8_countItems q16 x18).bind fun q20 => some (.inl (q20, q16))))
set_option maxRecDepth 100000 in
set_option maxHeartbeats 4000000 in
theorem C_X9_restore {X : pX} {Q : pO → Nat → pF → Prop} (S : pS) (a0 : Nat) (r : (Int32 × pS) ⊕ (String × pS)) (hf : F_X9_restore S a0 = some r) (hk : Sum.elim (fun q => Q (.inl (some (.int q.1))) q.2.1 q.2.2) (fun q => ∀ n', q.2.1 ≤ n' → Q (.inr q.1) n' (gjunk q.2.2 q.2.1)) r) : gC X mX9_restore [.ref a0] S.1 S.2 Q 1 6 := by
  refine gC_of (by decide) (Nat.le_of_ble_eq_true rfl) rfl ?_
  change gW _ _ _ [some (.ref a0)] _ _ _ _ _ _
  unfold F_X9_restore at hf
  obtain ⟨_, _, hf⟩ := obind hf
  refine r_aload_n (pc := 0) dX9_restore_0 rfl ?_
  replace hf := obind hf
  obtain ⟨x1, e2, hf⟩ := hf
  refine q_getN (pc := 1) dX9_restore_1 gX9_19 e2 ?_
  cases x1 with
  | none =>
    replace hf := hf
    refine r_ifnonnullN (pc := 4) dX9_restore_4 ?_
    refine r_throwW (pc := 7) "java/lang/IllegalStateException" 27 dX9_restore_7 dX9_restore_10 dX9_restore_11 dX9_restore_14 dX9_restore_17 xX9_125_129 rfl ⟨by decide, Nat.le_of_ble_eq_true rfl⟩ (by decide) (by decide) ?_
    cases hf
    exact hk
  | some b3 =>
    replace hf := hf
    refine r_ifnonnull (pc := 4) 18 dX9_restore_4 (by decide) ?_
    refine r_aload_n (pc := 18) dX9_restore_18 rfl ?_
    replace hf := obind hf
    obtain ⟨x4, e5, hf⟩ := hf
    refine q_getA (pc := 19) dX9_restore_19 gX9_12 e5 ?_
    refine r_aload_n (pc := 22) dX9_restore_22 rfl ?_
    replace hf := obind hf
    obtain ⟨x6, e7, hf⟩ := hf
    refine q_getN (pc := 23) dX9_restore_23 gX9_19 e7 ?_
    replace hf := obind hf
    obtain ⟨b8, e9, hf⟩ := hf
    subst e9
    replace hf := obind hf
    obtain ⟨q10, e11, hf⟩ := hf
    refine q_callV (pc := 26) (v := none) (S' := q10) mX8_copyFrom 8 [.ref b8] dX9_restore_26 kX9_165 fX8_copyFrom iX8_copyFrom ⟨by decide, by decide⟩ rfl rfl rfl (Nat.le_of_ble_eq_true rfl) (og e11) (mc1 := 0) (ms1 := 0) (mc2 := 0) (ms2 := 0) (by decide) (by decide) (C_X8_copyFrom S x4 b8 q10 e11 (qR_mk _ _)) ?_
    refine r_aload_n (pc := 29) dX9_restore_29 rfl ?_
    replace hf := obind hf
    obtain ⟨x12, e13, hf⟩ := hf
    refine q_getA (pc := 30) dX9_restore_30 gX9_35 e13 ?_
    replace hf := obind hf
    obtain ⟨q14, e15, hf⟩ := hf
    refine q_callV (pc := 33) (v := none) (S' := q14) mX3_forget 3 [] dX9_restore_33 kX9_104 fX3_forget iX3_forget ⟨by decide, by decide⟩ rfl rfl rfl (Nat.le_of_ble_eq_true rfl) (og e15) (mc1 := 0) (ms1 := 0) (mc2 := 0) (ms2 := 0) (by decide) (by decide) (C_X3_forget q10 x12 q14 e15 (qR_mk _ _)) ?_
    refine r_aload_n (pc := 36) dX9_restore_36 rfl ?_
    replace hf := obind hf
    obtain ⟨q16, e17, hf⟩ := hf
    refine q_callV (pc := 37) (v := none) (S' := q16) mX9_settle 9 [] dX9_restore_37 kX9_111 fX9_settle iX9_settle ⟨by decide, by decide⟩ rfl rfl rfl (Nat.le_of_ble_eq_true rfl) (og e17) (mc1 := 0) (ms1 := 0) (mc2 := 0) (ms2 := 0) (by decide) (by decide) (C_X9_settle q14 a0 q16 e17 (qR_mk _ _)) ?_
    refine r_aload_n (pc := 40) dX9_restore_40 rfl ?_
    replace hf := obind hf
    obtain ⟨x18, e19, hf⟩ := hf
    refine q_getA (pc := 41) dX9_restore_41 gX9_12 e19 ?_
    replace hf := obind hf
    obtain ⟨q20, e21, hf⟩ := hf
    refine q_callV (pc := 44) (v := some (.int q20)) (S' := q16) mX8_countItems 8 [] dX9_restore_44 kX9_97 fX8_countItems iX8_countItems ⟨by decide, by decide⟩ rfl rfl rfl (Nat.le_of_ble_eq_true rfl) (og e21) (mc1 := 0) (ms1 := 0) (mc2 := 0) (ms2 := 0) (by decide) (by decide) (C_X8_countItems q16 x18 q20 e21 (qR_mk _ _)) ?_
    change gW _ _ _ _ (.int q20 :: _) _ _ _ _ _
    refine r_ireturn (pc := 47) .int dX9_restore_47 rfl rfl ?_
    cases hf
    exact hk
abbrev L_X10_empties_2 (l0 : Nat) : Int32 × pS → List (Option Value) := fun a => [some (.ref l0), some (.int a.1)]
abbrev s_X10_empties_2 (l0 : Nat) : Int32 × pS → pS := fun a => a.2
abbrev K_X10_empties_2 (X : pX) (Q : pO → Nat → pF → Prop) (mc ms : Nat) (l0 : Nat) : pS → Prop := (fun b => gW X mX10_empties 22 [some (.ref l0), none] [] b.1 b.2 Q mc ms)
def F_X10_empties_2 (l0 : Nat) : Int32 × pS → Option ((Int32 × pS) ⊕ (pS)) := fun a => if (1709 : Int32) ≤ a.1 then (some (.inr a.2)) else ((oGA a.2 l0 10 1).bind fun x1 => (oSI a.2 x1 .int a.1 (0 : Int32)).bind fun S3 => some (.inl (a.1 + (1 : Int32), S3)))
set_option maxRecDepth 100000 in
set_option maxHeartbeats 4000000 in
theorem W_X10_empties_2 {X : pX} {Q : pO → Nat → pF → Prop} {mc ms : Nat} (l0 : Nat) : ∀ (a : Int32 × pS) (r : (Int32 × pS) ⊕ (pS)), F_X10_empties_2 l0 a = some r → Sum.elim (fun a' => gW X mX10_empties 2 (L_X10_empties_2 l0 a') [] (s_X10_empties_2 l0 a').1 (s_X10_empties_2 l0 a').2 Q mc ms) (K_X10_empties_2 X Q mc ms l0) r → gW X mX10_empties 2 (L_X10_empties_2 l0 a) [] (s_X10_empties_2 l0 a).1 (s_X10_empties_2 l0 a).2 Q mc ms := by
  intro a r hf hk
  obtain ⟨l1, S⟩ := a
  unfold F_X10_empties_2 at hf
  try dsimp only at hf
  change gW _ _ _ [some (.ref l0), some (.int l1)] _ S.1 S.2 _ _ _
  refine r_iload_n (pc := 2) dX10_empties_2 rfl ?_
  refine r_sipush (pc := 3) (1709 : Int32) dX10_empties_3 (by decide) ?_
  refine r_icmp_ge (pc := 6) 22 dX10_empties_6 (by decide) (fun hc => ?_) (fun hc => ?_)
  · rw [if_pos hc] at hf
    cases hf
    exact gW.weak (by simp [gle]) hk
  · rw [if_neg hc] at hf
    refine r_aload_n (pc := 9) dX10_empties_9 rfl ?_
    replace hf := obind hf
    obtain ⟨x1, e2, hf⟩ := hf
    refine q_getA (pc := 10) dX10_empties_10 gX10_7 e2 ?_
    refine r_iload_n (pc := 13) dX10_empties_13 rfl ?_
    refine r_iconst (pc := 14) (0 : Int32) dX10_empties_14 (by decide) ?_
    replace hf := obind hf
    obtain ⟨S3, e4, hf⟩ := hf
    refine q_iast (pc := 15) dX10_empties_15 e4 ?_
    refine r_iinc (pc := 16) dX10_empties_16 rfl (by decide) ?_
    change gW _ _ _ [some (.ref l0), some (.int (l1 + (1 : Int32)))] _ _ _ _ _ _
    refine r_goto (pc := 19) 2 dX10_empties_19 (by decide) ?_
    cases hf
    exact gW.weak (by simp [gle]) hk
def F_X10_empties (S : pS) (a0 : Nat) : Option (pS) := (oF S a0 10).bind fun _ => (iter (F_X10_empties_2 a0) fu ((0 : Int32), S)).bind fun r5 => (oGA r5 a0 10 1).bind fun x7 => (oSI r5 x7 .int (1 : Int32) (1 : Int32)).bind fun S9 => (oGA S9 a0 10 1).bind fun x11 => (oSI S9 x11 .int (123 : Int32) (-1 : Int32)).bind fun S13 => some S13
set_option maxRecDepth 100000 in
set_option maxHeartbeats 4000000 in
theorem C_X10_empties {X : pX} {Q : pO → Nat → pF → Prop} (S : pS) (a0 : Nat) (r : pS) (hf : F_X10_empties S a0 = some r) (hk : Q (.inl none) r.1 r.2) : gC X mX10_empties [.ref a0] S.1 S.2 Q 0 0 := by
  refine gC_of (by decide) (Nat.le_of_ble_eq_true rfl) rfl ?_
  change gW _ _ _ [some (.ref a0), none] _ _ _ _ _ _
  unfold F_X10_empties at hf
  obtain ⟨_, _, hf⟩ := obind hf
  refine r_iconst (pc := 0) (0 : Int32) dX10_empties_0 (by decide) ?_
  refine r_istore_n (pc := 1) dX10_empties_1 (by decide) ?_
  change gW _ _ _ [some (.ref a0), some (.int (0 : Int32))] _ _ _ _ _ _
  replace hf := obind hf
  obtain ⟨r5, e6, hf⟩ := hf
  refine gW.weak (ls' := [some (.ref a0), some (.int (0 : Int32))]) (by simp [gle]) ?_
  refine g_iter (L := L_X10_empties_2 a0) (s := s_X10_empties_2 a0) (K := K_X10_empties_2 X Q _ _ a0) (W_X10_empties_2 a0) fu ((0 : Int32), S) _ e6 ?_
  show gW _ _ 22 [some (.ref a0), none] [] r5.1 r5.2 _ _ _
  refine r_aload_n (pc := 22) dX10_empties_22 rfl ?_
  replace hf := obind hf
  obtain ⟨x7, e8, hf⟩ := hf
  refine q_getA (pc := 23) dX10_empties_23 gX10_7 e8 ?_
  refine r_iconst (pc := 26) (1 : Int32) dX10_empties_26 (by decide) ?_
  refine r_iconst (pc := 27) (1 : Int32) dX10_empties_27 (by decide) ?_
  replace hf := obind hf
  obtain ⟨S9, e10, hf⟩ := hf
  refine q_iast (pc := 28) dX10_empties_28 e10 ?_
  refine r_aload_n (pc := 29) dX10_empties_29 rfl ?_
  replace hf := obind hf
  obtain ⟨x11, e12, hf⟩ := hf
  refine q_getA (pc := 30) dX10_empties_30 gX10_7 e12 ?_
  refine r_bipush (pc := 33) (123 : Int32) dX10_empties_33 (by decide) ?_
  refine r_iconst (pc := 35) (-1 : Int32) dX10_empties_35 (by decide) ?_
  replace hf := obind hf
  obtain ⟨S13, e14, hf⟩ := hf
  refine q_iast (pc := 36) dX10_empties_36 e14 ?_
  refine r_return (pc := 37) dX10_empties_37 rfl ?_
  cases hf
  exact hk
def F_X10_init (S : pS) (a0 : Nat) : Option (pS) := (oPA (oNew S (.inl (.int, 1709, .inl (fun _ => 0)))) a0 10 1 S.1).bind fun S1 => (oPA (oNew S1 (.inl (.int, 1709, .inl (fun _ => 0)))) a0 10 2 S1.1).bind fun S3 => (oPA (oNew S3 (.inl (.int, 1709, .inl (fun _ => 0)))) a0 10 3 S3.1).bind fun S5 => (oPA (oNew S5 (.inl (.int, 13672, .inl (fun _ => 0)))) a0 10 4 S5.1).bind fun S7 => (oPA (oNew S7 (.inl (.int, 4, .inl (fun _ => 0)))) a0 10 7 S7.1).bind fun S9 => (oPA (oNew S9 (.inl (.int, 80, .inl (fun _ => 0)))) a0 10 9 S9.1).bind fun S11 => (oPI S11 a0 10 11 (-1 : Int32)).bind fun S13 => (oPA (oNew S13 (.inl (.int, 3, .inl (fun _ => 0)))) a0 10 12 S13.1).bind fun S15 => (oPA (oNew S15 (.inl (.int, 61, .inl (fun _ => 0)))) a0 10 14 S15.1).bind fun S17 => (oPA (oNew S17 (.inl (.int, 61, .inl (fun _ => 0)))) a0 10 15 S17.1).bind fun S19 => (oPA (oNew S19 (.inl (.int, 61, .inl (fun _ => 0)))) a0 10 16 S19.1).bind fun S21 => (oPA (oNew S21 (.inl (.int, 61, .inl (fun _ => 0)))) a0 10 17 S21.1).bind fun S23 => (oPA (oNew S23 (.inl (.int, 61, .inl (fun _ => 0)))) a0 10 18 S23.1).bind fun S25 => (oPA (oNew S25 (.inl (.long, 61, .inr (.inl (fun _ => 0))))) a0 10 19 S25.1).bind fun S27 => (oPA (oNew S27 (.inl (.int, 12, .inl (fun _ => 0)))) a0 10 24 S27.1).bind fun S29 => (oPA (oNew S29 (.inl (.int, 5, .inl (fun _ => 0)))) a0 10 25 S29.1).bind fun S31 => (oPA (oNew S31 (.inl (.int, 5, .inl (fun _ => 0)))) a0 10 26 S31.1).bind fun S33 => (oPA (oNew S33 (.inl (.int, 5, .inl (fun _ => 0)))) a0 10 27 S33.1).bind fun S35 => (oPA (oNew S35 (.inl (.int, 50, .inl (fun _ => 0)))) a0 10 28 S35.1).bind fun S37 => (oPA (oNew S37 (.inl (.boolean, 5, .inl (fun _ => 0)))) a0 10 29 S37.1).bind fun S39 => (oPA (oNew S39 (.inl (.int, 5, .inl (fun _ => 0)))) a0 10 31 S39.1).bind fun S41 => (oPA (oNew S41 (.inl (.int, 5, .inl (fun _ => 0)))) a0 10 32 S41.1).bind fun S43 => (oPA (oNew S43 (.inl (.int, 5, .inl (fun _ => 0)))) a0 10 33 S43.1).bind fun S45 => (oPA (oNew S45 (.inl (.int, 50, .inl (fun _ => 0)))) a0 10 34 S45.1).bind fun S47 => (oPA (oNew S47 (.inl (.boolean, 5, .inl (fun _ => 0)))) a0 10 35 S47.1).bind fun S49 => (oPA (oNew S49 (.inl (.int, 400, .inl (fun _ => 0)))) a0 10 37 S49.1).bind fun S51 => (oPA (oNew S51 (.inl (.int, 400, .inl (fun _ => 0)))) a0 10 38 S51.1).bind fun S53 => (oPA (oNew S53 (.inl (.int, 400, .inl (fun _ => 0)))) a0 10 39 S53.1).bind fun S55 => (oPA (oNew S55 (.inl (.int, 400, .inl (fun _ => 0)))) a0 10 40 S55.1).bind fun S57 => (oPA (oNew S57 (.inl (.int, 62, .inl (fun _ => 0)))) a0 10 42 S57.1).bind fun S59 => (oPA (oNew S59 (.inl (.int, 62, .inl (fun _ => 0)))) a0 10 43 S59.1).bind fun S61 => (oPA (oNew S61 (.inl (.int, 62, .inl (fun _ => 0)))) a0 10 44 S61.1).bind fun S63 => (oPA (oNew S63 (.inl (.int, 700, .inl (fun _ => 0)))) a0 10 45 S63.1).bind fun S65 => (oPA (oNew S65 (.inl (.int, 41, .inl (fun _ => 0)))) a0 10 46 S65.1).bind fun S67 => (oPA (oNew S67 (.inl (.int, 41, .inl (fun _ => 0)))) a0 10 47 S67.1).bind fun S69 => (oPA (oNew S69 (.inl (.int, 41, .inl (fun _ => 0)))) a0 10 48 S69.1).bind fun S71 => (oPA (oNew S71 (.inl (.int, 41, .inl (fun _ => 0)))) a0 10 49 S71.1).bind fun S73 => (oPA (oNew S73 (.inl (.int, 41, .inl (fun _ => 0)))) a0 10 50 S73.1).bind fun S75 => (oPA (oNew S75 (.inl (.int, 41, .inl (fun _ => 0)))) a0 10 51 S75.1).bind fun S77 => (oPA (oNew S77 (.inl (.int, 41, .inl (fun _ => 0)))) a0 10 52 S77.1).bind fun S79 => (oPA (oNew S79 (.inl (.int, 41, .inl (fun _ => 0)))) a0 10 53 S79.1).bind fun S81 => (F_X10_empties S81 a0).bind fun q83 => some q83
set_option maxRecDepth 100000 in
set_option maxHeartbeats 4000000 in
theorem C_X10_init {X : pX} {Q : pO → Nat → pF → Prop} (S : pS) (a0 : Nat) (r : pS) (hf : F_X10_init S a0 = some r) (hk : Q (.inl none) r.1 r.2) : gC X mX10_init [.ref a0] S.1 S.2 Q 40 22218 := by
  refine gC_of (by decide) (Nat.le_of_ble_eq_true rfl) rfl ?_
  change gW _ _ _ [some (.ref a0)] _ _ _ _ _ _
  unfold F_X10_init at hf
  refine r_aload_n (pc := 0) dX10_init_0 rfl ?_
  refine r_objInit (pc := 1) dX10_init_1 kX10_1 k_obj.1 k_obj.2 ⟨by decide, Nat.le_of_ble_eq_true rfl⟩ ?_
  refine r_aload_n (pc := 4) dX10_init_4 rfl ?_
  refine r_sipush (pc := 5) (1709 : Int32) dX10_init_5 (by decide) ?_
  refine r_newa (pc := 8) .int .int (1709, .inl (fun _ => 0)) dX10_init_8 rfl (by decide) k_arr_int (fun _ => rfl) (fun _ => rfl) (by decide) (by decide) (by decide) (mc2 := 39) (ms2 := 20509) (by decide) (by decide) ?_
  change gW _ _ _ _ _ (oNew S (.inl (.int, 1709, .inl (fun _ => 0)))).1 (oNew S (.inl (.int, 1709, .inl (fun _ => 0)))).2 _ _ _
  replace hf := obind hf
  obtain ⟨S1, e2, hf⟩ := hf
  refine q_putAF (pc := 10) dX10_init_10 pX10_7 (Or.inr ⟨_, rfl⟩) rfl e2 ?_
  refine r_aload_n (pc := 13) dX10_init_13 rfl ?_
  refine r_sipush (pc := 14) (1709 : Int32) dX10_init_14 (by decide) ?_
  refine r_newa (pc := 17) .int .int (1709, .inl (fun _ => 0)) dX10_init_17 rfl (by decide) k_arr_int (fun _ => rfl) (fun _ => rfl) (by decide) (by decide) (by decide) (mc2 := 38) (ms2 := 18800) (by decide) (by decide) ?_
  change gW _ _ _ _ _ (oNew S1 (.inl (.int, 1709, .inl (fun _ => 0)))).1 (oNew S1 (.inl (.int, 1709, .inl (fun _ => 0)))).2 _ _ _
  replace hf := obind hf
  obtain ⟨S3, e4, hf⟩ := hf
  refine q_putAF (pc := 19) dX10_init_19 pX10_13 (Or.inr ⟨_, rfl⟩) rfl e4 ?_
  refine r_aload_n (pc := 22) dX10_init_22 rfl ?_
  refine r_sipush (pc := 23) (1709 : Int32) dX10_init_23 (by decide) ?_
  refine r_newa (pc := 26) .int .int (1709, .inl (fun _ => 0)) dX10_init_26 rfl (by decide) k_arr_int (fun _ => rfl) (fun _ => rfl) (by decide) (by decide) (by decide) (mc2 := 37) (ms2 := 17091) (by decide) (by decide) ?_
  change gW _ _ _ _ _ (oNew S3 (.inl (.int, 1709, .inl (fun _ => 0)))).1 (oNew S3 (.inl (.int, 1709, .inl (fun _ => 0)))).2 _ _ _
  replace hf := obind hf
  obtain ⟨S5, e6, hf⟩ := hf
  refine q_putAF (pc := 28) dX10_init_28 pX10_16 (Or.inr ⟨_, rfl⟩) rfl e6 ?_
  refine r_aload_n (pc := 31) dX10_init_31 rfl ?_
  refine r_sipush (pc := 32) (13672 : Int32) dX10_init_32 (by decide) ?_
  refine r_newa (pc := 35) .int .int (13672, .inl (fun _ => 0)) dX10_init_35 rfl (by decide) k_arr_int (fun _ => rfl) (fun _ => rfl) (by decide) (by decide) (by decide) (mc2 := 36) (ms2 := 3419) (by decide) (by decide) ?_
  change gW _ _ _ _ _ (oNew S5 (.inl (.int, 13672, .inl (fun _ => 0)))).1 (oNew S5 (.inl (.int, 13672, .inl (fun _ => 0)))).2 _ _ _
  replace hf := obind hf
  obtain ⟨S7, e8, hf⟩ := hf
  refine q_putAF (pc := 37) dX10_init_37 pX10_19 (Or.inr ⟨_, rfl⟩) rfl e8 ?_
  refine r_aload_n (pc := 40) dX10_init_40 rfl ?_
  refine r_iconst (pc := 41) (4 : Int32) dX10_init_41 (by decide) ?_
  refine r_newa (pc := 42) .int .int (4, .inl (fun _ => 0)) dX10_init_42 rfl (by decide) k_arr_int (fun _ => rfl) (fun _ => rfl) (by decide) (by decide) (by decide) (mc2 := 35) (ms2 := 3415) (by decide) (by decide) ?_
  change gW _ _ _ _ _ (oNew S7 (.inl (.int, 4, .inl (fun _ => 0)))).1 (oNew S7 (.inl (.int, 4, .inl (fun _ => 0)))).2 _ _ _
  replace hf := obind hf
  obtain ⟨S9, e10, hf⟩ := hf
  refine q_putAF (pc := 44) dX10_init_44 pX10_22 (Or.inr ⟨_, rfl⟩) rfl e10 ?_
  refine r_aload_n (pc := 47) dX10_init_47 rfl ?_
  refine r_bipush (pc := 48) (80 : Int32) dX10_init_48 (by decide) ?_
  refine r_newa (pc := 50) .int .int (80, .inl (fun _ => 0)) dX10_init_50 rfl (by decide) k_arr_int (fun _ => rfl) (fun _ => rfl) (by decide) (by decide) (by decide) (mc2 := 34) (ms2 := 3335) (by decide) (by decide) ?_
  change gW _ _ _ _ _ (oNew S9 (.inl (.int, 80, .inl (fun _ => 0)))).1 (oNew S9 (.inl (.int, 80, .inl (fun _ => 0)))).2 _ _ _
  replace hf := obind hf
  obtain ⟨S11, e12, hf⟩ := hf
  refine q_putAF (pc := 52) dX10_init_52 pX10_25 (Or.inr ⟨_, rfl⟩) rfl e12 ?_
  refine r_aload_n (pc := 55) dX10_init_55 rfl ?_
  refine r_iconst (pc := 56) (-1 : Int32) dX10_init_56 (by decide) ?_
  replace hf := obind hf
  obtain ⟨S13, e14, hf⟩ := hf
  refine q_putI (pc := 57) dX10_init_57 pX10_28 rfl e14 ?_
  refine r_aload_n (pc := 60) dX10_init_60 rfl ?_
  refine r_iconst (pc := 61) (3 : Int32) dX10_init_61 (by decide) ?_
  refine r_newa (pc := 62) .int .int (3, .inl (fun _ => 0)) dX10_init_62 rfl (by decide) k_arr_int (fun _ => rfl) (fun _ => rfl) (by decide) (by decide) (by decide) (mc2 := 33) (ms2 := 3332) (by decide) (by decide) ?_
  change gW _ _ _ _ _ (oNew S13 (.inl (.int, 3, .inl (fun _ => 0)))).1 (oNew S13 (.inl (.int, 3, .inl (fun _ => 0)))).2 _ _ _
  replace hf := obind hf
  obtain ⟨S15, e16, hf⟩ := hf
  refine q_putAF (pc := 64) dX10_init_64 pX10_32 (Or.inr ⟨_, rfl⟩) rfl e16 ?_
  refine r_aload_n (pc := 67) dX10_init_67 rfl ?_
  refine r_bipush (pc := 68) (61 : Int32) dX10_init_68 (by decide) ?_
  refine r_newa (pc := 70) .int .int (61, .inl (fun _ => 0)) dX10_init_70 rfl (by decide) k_arr_int (fun _ => rfl) (fun _ => rfl) (by decide) (by decide) (by decide) (mc2 := 32) (ms2 := 3271) (by decide) (by decide) ?_
  change gW _ _ _ _ _ (oNew S15 (.inl (.int, 61, .inl (fun _ => 0)))).1 (oNew S15 (.inl (.int, 61, .inl (fun _ => 0)))).2 _ _ _
  replace hf := obind hf
  obtain ⟨S17, e18, hf⟩ := hf
  refine q_putAF (pc := 72) dX10_init_72 pX10_35 (Or.inr ⟨_, rfl⟩) rfl e18 ?_
  refine r_aload_n (pc := 75) dX10_init_75 rfl ?_
  refine r_bipush (pc := 76) (61 : Int32) dX10_init_76 (by decide) ?_
  refine r_newa (pc := 78) .int .int (61, .inl (fun _ => 0)) dX10_init_78 rfl (by decide) k_arr_int (fun _ => rfl) (fun _ => rfl) (by decide) (by decide) (by decide) (mc2 := 31) (ms2 := 3210) (by decide) (by decide) ?_
  change gW _ _ _ _ _ (oNew S17 (.inl (.int, 61, .inl (fun _ => 0)))).1 (oNew S17 (.inl (.int, 61, .inl (fun _ => 0)))).2 _ _ _
  replace hf := obind hf
  obtain ⟨S19, e20, hf⟩ := hf
  refine q_putAF (pc := 80) dX10_init_80 pX10_38 (Or.inr ⟨_, rfl⟩) rfl e20 ?_
  refine r_aload_n (pc := 83) dX10_init_83 rfl ?_
  refine r_bipush (pc := 84) (61 : Int32) dX10_init_84 (by decide) ?_
  refine r_newa (pc := 86) .int .int (61, .inl (fun _ => 0)) dX10_init_86 rfl (by decide) k_arr_int (fun _ => rfl) (fun _ => rfl) (by decide) (by decide) (by decide) (mc2 := 30) (ms2 := 3149) (by decide) (by decide) ?_
  change gW _ _ _ _ _ (oNew S19 (.inl (.int, 61, .inl (fun _ => 0)))).1 (oNew S19 (.inl (.int, 61, .inl (fun _ => 0)))).2 _ _ _
  replace hf := obind hf
  obtain ⟨S21, e22, hf⟩ := hf
  refine q_putAF (pc := 88) dX10_init_88 pX10_41 (Or.inr ⟨_, rfl⟩) rfl e22 ?_
  refine r_aload_n (pc := 91) dX10_init_91 rfl ?_
  refine r_bipush (pc := 92) (61 : Int32) dX10_init_92 (by decide) ?_
  refine r_newa (pc := 94) .int .int (61, .inl (fun _ => 0)) dX10_init_94 rfl (by decide) k_arr_int (fun _ => rfl) (fun _ => rfl) (by decide) (by decide) (by decide) (mc2 := 29) (ms2 := 3088) (by decide) (by decide) ?_
  change gW _ _ _ _ _ (oNew S21 (.inl (.int, 61, .inl (fun _ => 0)))).1 (oNew S21 (.inl (.int, 61, .inl (fun _ => 0)))).2 _ _ _
  replace hf := obind hf
  obtain ⟨S23, e24, hf⟩ := hf
  refine q_putAF (pc := 96) dX10_init_96 pX10_44 (Or.inr ⟨_, rfl⟩) rfl e24 ?_
  refine r_aload_n (pc := 99) dX10_init_99 rfl ?_
  refine r_bipush (pc := 100) (61 : Int32) dX10_init_100 (by decide) ?_
  refine r_newa (pc := 102) .int .int (61, .inl (fun _ => 0)) dX10_init_102 rfl (by decide) k_arr_int (fun _ => rfl) (fun _ => rfl) (by decide) (by decide) (by decide) (mc2 := 28) (ms2 := 3027) (by decide) (by decide) ?_
  change gW _ _ _ _ _ (oNew S23 (.inl (.int, 61, .inl (fun _ => 0)))).1 (oNew S23 (.inl (.int, 61, .inl (fun _ => 0)))).2 _ _ _
  replace hf := obind hf
  obtain ⟨S25, e26, hf⟩ := hf
  refine q_putAF (pc := 104) dX10_init_104 pX10_47 (Or.inr ⟨_, rfl⟩) rfl e26 ?_
  refine r_aload_n (pc := 107) dX10_init_107 rfl ?_
  refine r_bipush (pc := 108) (61 : Int32) dX10_init_108 (by decide) ?_
  refine r_newa (pc := 110) .long .long (61, .inr (.inl (fun _ => 0))) dX10_init_110 rfl (by decide) k_arr_long (fun _ => rfl) (fun _ => rfl) (by decide) (by decide) (by decide) (mc2 := 27) (ms2 := 2966) (by decide) (by decide) ?_
  change gW _ _ _ _ _ (oNew S25 (.inl (.long, 61, .inr (.inl (fun _ => 0))))).1 (oNew S25 (.inl (.long, 61, .inr (.inl (fun _ => 0))))).2 _ _ _
  replace hf := obind hf
  obtain ⟨S27, e28, hf⟩ := hf
  refine q_putAF (pc := 112) dX10_init_112 pX10_50 (Or.inr ⟨_, rfl⟩) rfl e28 ?_
  refine r_aload_n (pc := 115) dX10_init_115 rfl ?_
  refine r_bipush (pc := 116) (12 : Int32) dX10_init_116 (by decide) ?_
  refine r_newa (pc := 118) .int .int (12, .inl (fun _ => 0)) dX10_init_118 rfl (by decide) k_arr_int (fun _ => rfl) (fun _ => rfl) (by decide) (by decide) (by decide) (mc2 := 26) (ms2 := 2954) (by decide) (by decide) ?_
  change gW _ _ _ _ _ (oNew S27 (.inl (.int, 12, .inl (fun _ => 0)))).1 (oNew S27 (.inl (.int, 12, .inl (fun _ => 0)))).2 _ _ _
  replace hf := obind hf
  obtain ⟨S29, e30, hf⟩ := hf
  refine q_putAF (pc := 120) dX10_init_120 pX10_54 (Or.inr ⟨_, rfl⟩) rfl e30 ?_
  refine r_aload_n (pc := 123) dX10_init_123 rfl ?_
  refine r_iconst (pc := 124) (5 : Int32) dX10_init_124 (by decide) ?_
  refine r_newa (pc := 125) .int .int (5, .inl (fun _ => 0)) dX10_init_125 rfl (by decide) k_arr_int (fun _ => rfl) (fun _ => rfl) (by decide) (by decide) (by decide) (mc2 := 25) (ms2 := 2949) (by decide) (by decide) ?_
  change gW _ _ _ _ _ (oNew S29 (.inl (.int, 5, .inl (fun _ => 0)))).1 (oNew S29 (.inl (.int, 5, .inl (fun _ => 0)))).2 _ _ _
  replace hf := obind hf
  obtain ⟨S31, e32, hf⟩ := hf
  refine q_putAF (pc := 127) dX10_init_127 pX10_57 (Or.inr ⟨_, rfl⟩) rfl e32 ?_
  refine r_aload_n (pc := 130) dX10_init_130 rfl ?_
  refine r_iconst (pc := 131) (5 : Int32) dX10_init_131 (by decide) ?_
  refine r_newa (pc := 132) .int .int (5, .inl (fun _ => 0)) dX10_init_132 rfl (by decide) k_arr_int (fun _ => rfl) (fun _ => rfl) (by decide) (by decide) (by decide) (mc2 := 24) (ms2 := 2944) (by decide) (by decide) ?_
  change gW _ _ _ _ _ (oNew S31 (.inl (.int, 5, .inl (fun _ => 0)))).1 (oNew S31 (.inl (.int, 5, .inl (fun _ => 0)))).2 _ _ _
  replace hf := obind hf
  obtain ⟨S33, e34, hf⟩ := hf
  refine q_putAF (pc := 134) dX10_init_134 pX10_60 (Or.inr ⟨_, rfl⟩) rfl e34 ?_
  refine r_aload_n (pc := 137) dX10_init_137 rfl ?_
  refine r_iconst (pc := 138) (5 : Int32) dX10_init_138 (by decide) ?_
  refine r_newa (pc := 139) .int .int (5, .inl (fun _ => 0)) dX10_init_139 rfl (by decide) k_arr_int (fun _ => rfl) (fun _ => rfl) (by decide) (by decide) (by decide) (mc2 := 23) (ms2 := 2939) (by decide) (by decide) ?_
  change gW _ _ _ _ _ (oNew S33 (.inl (.int, 5, .inl (fun _ => 0)))).1 (oNew S33 (.inl (.int, 5, .inl (fun _ => 0)))).2 _ _ _
  replace hf := obind hf
  obtain ⟨S35, e36, hf⟩ := hf
  refine q_putAF (pc := 141) dX10_init_141 pX10_63 (Or.inr ⟨_, rfl⟩) rfl e36 ?_
  refine r_aload_n (pc := 144) dX10_init_144 rfl ?_
  refine r_bipush (pc := 145) (50 : Int32) dX10_init_145 (by decide) ?_
  refine r_newa (pc := 147) .int .int (50, .inl (fun _ => 0)) dX10_init_147 rfl (by decide) k_arr_int (fun _ => rfl) (fun _ => rfl) (by decide) (by decide) (by decide) (mc2 := 22) (ms2 := 2889) (by decide) (by decide) ?_
  change gW _ _ _ _ _ (oNew S35 (.inl (.int, 50, .inl (fun _ => 0)))).1 (oNew S35 (.inl (.int, 50, .inl (fun _ => 0)))).2 _ _ _
  replace hf := obind hf
  obtain ⟨S37, e38, hf⟩ := hf
  refine q_putAF (pc := 149) dX10_init_149 pX10_66 (Or.inr ⟨_, rfl⟩) rfl e38 ?_
  refine r_aload_n (pc := 152) dX10_init_152 rfl ?_
  refine r_iconst (pc := 153) (5 : Int32) dX10_init_153 (by decide) ?_
  refine r_newa (pc := 154) .boolean .boolean (5, .inl (fun _ => 0)) dX10_init_154 rfl (by decide) k_arr_boolean (fun _ => rfl) (fun _ => rfl) (by decide) (by decide) (by decide) (mc2 := 21) (ms2 := 2884) (by decide) (by decide) ?_
  change gW _ _ _ _ _ (oNew S37 (.inl (.boolean, 5, .inl (fun _ => 0)))).1 (oNew S37 (.inl (.boolean, 5, .inl (fun _ => 0)))).2 _ _ _
  replace hf := obind hf
  obtain ⟨S39, e40, hf⟩ := hf
  refine q_putAF (pc := 156) dX10_init_156 pX10_69 (Or.inr ⟨_, rfl⟩) rfl e40 ?_
  refine r_aload_n (pc := 159) dX10_init_159 rfl ?_
  refine r_iconst (pc := 160) (5 : Int32) dX10_init_160 (by decide) ?_
  refine r_newa (pc := 161) .int .int (5, .inl (fun _ => 0)) dX10_init_161 rfl (by decide) k_arr_int (fun _ => rfl) (fun _ => rfl) (by decide) (by decide) (by decide) (mc2 := 20) (ms2 := 2879) (by decide) (by decide) ?_
  change gW _ _ _ _ _ (oNew S39 (.inl (.int, 5, .inl (fun _ => 0)))).1 (oNew S39 (.inl (.int, 5, .inl (fun _ => 0)))).2 _ _ _
  replace hf := obind hf
  obtain ⟨S41, e42, hf⟩ := hf
  refine q_putAF (pc := 163) dX10_init_163 pX10_73 (Or.inr ⟨_, rfl⟩) rfl e42 ?_
  refine r_aload_n (pc := 166) dX10_init_166 rfl ?_
  refine r_iconst (pc := 167) (5 : Int32) dX10_init_167 (by decide) ?_
  refine r_newa (pc := 168) .int .int (5, .inl (fun _ => 0)) dX10_init_168 rfl (by decide) k_arr_int (fun _ => rfl) (fun _ => rfl) (by decide) (by decide) (by decide) (mc2 := 19) (ms2 := 2874) (by decide) (by decide) ?_
  change gW _ _ _ _ _ (oNew S41 (.inl (.int, 5, .inl (fun _ => 0)))).1 (oNew S41 (.inl (.int, 5, .inl (fun _ => 0)))).2 _ _ _
  replace hf := obind hf
  obtain ⟨S43, e44, hf⟩ := hf
  refine q_putAF (pc := 170) dX10_init_170 pX10_76 (Or.inr ⟨_, rfl⟩) rfl e44 ?_
  refine r_aload_n (pc := 173) dX10_init_173 rfl ?_
  refine r_iconst (pc := 174) (5 : Int32) dX10_init_174 (by decide) ?_
  refine r_newa (pc := 175) .int .int (5, .inl (fun _ => 0)) dX10_init_175 rfl (by decide) k_arr_int (fun _ => rfl) (fun _ => rfl) (by decide) (by decide) (by decide) (mc2 := 18) (ms2 := 2869) (by decide) (by decide) ?_
  change gW _ _ _ _ _ (oNew S43 (.inl (.int, 5, .inl (fun _ => 0)))).1 (oNew S43 (.inl (.int, 5, .inl (fun _ => 0)))).2 _ _ _
  replace hf := obind hf
  obtain ⟨S45, e46, hf⟩ := hf
  refine q_putAF (pc := 177) dX10_init_177 pX10_79 (Or.inr ⟨_, rfl⟩) rfl e46 ?_
  refine r_aload_n (pc := 180) dX10_init_180 rfl ?_
  refine r_bipush (pc := 181) (50 : Int32) dX10_init_181 (by decide) ?_
  refine r_newa (pc := 183) .int .int (50, .inl (fun _ => 0)) dX10_init_183 rfl (by decide) k_arr_int (fun _ => rfl) (fun _ => rfl) (by decide) (by decide) (by decide) (mc2 := 17) (ms2 := 2819) (by decide) (by decide) ?_
  change gW _ _ _ _ _ (oNew S45 (.inl (.int, 50, .inl (fun _ => 0)))).1 (oNew S45 (.inl (.int, 50, .inl (fun _ => 0)))).2 _ _ _
  replace hf := obind hf
  obtain ⟨S47, e48, hf⟩ := hf
  refine q_putAF (pc := 185) dX10_init_185 pX10_82 (Or.inr ⟨_, rfl⟩) rfl e48 ?_
  refine r_aload_n (pc := 188) dX10_init_188 rfl ?_
  refine r_iconst (pc := 189) (5 : Int32) dX10_init_189 (by decide) ?_
  refine r_newa (pc := 190) .boolean .boolean (5, .inl (fun _ => 0)) dX10_init_190 rfl (by decide) k_arr_boolean (fun _ => rfl) (fun _ => rfl) (by decide) (by decide) (by decide) (mc2 := 16) (ms2 := 2814) (by decide) (by decide) ?_
  change gW _ _ _ _ _ (oNew S47 (.inl (.boolean, 5, .inl (fun _ => 0)))).1 (oNew S47 (.inl (.boolean, 5, .inl (fun _ => 0)))).2 _ _ _
  replace hf := obind hf
  obtain ⟨S49, e50, hf⟩ := hf
  refine q_putAF (pc := 192) dX10_init_192 pX10_85 (Or.inr ⟨_, rfl⟩) rfl e50 ?_
  refine r_aload_n (pc := 195) dX10_init_195 rfl ?_
  refine r_sipush (pc := 196) (400 : Int32) dX10_init_196 (by decide) ?_
  refine r_newa (pc := 199) .int .int (400, .inl (fun _ => 0)) dX10_init_199 rfl (by decide) k_arr_int (fun _ => rfl) (fun _ => rfl) (by decide) (by decide) (by decide) (mc2 := 15) (ms2 := 2414) (by decide) (by decide) ?_
  change gW _ _ _ _ _ (oNew S49 (.inl (.int, 400, .inl (fun _ => 0)))).1 (oNew S49 (.inl (.int, 400, .inl (fun _ => 0)))).2 _ _ _
  replace hf := obind hf
  obtain ⟨S51, e52, hf⟩ := hf
  refine q_putAF (pc := 201) dX10_init_201 pX10_88 (Or.inr ⟨_, rfl⟩) rfl e52 ?_
  refine r_aload_n (pc := 204) dX10_init_204 rfl ?_
  refine r_sipush (pc := 205) (400 : Int32) dX10_init_205 (by decide) ?_
  refine r_newa (pc := 208) .int .int (400, .inl (fun _ => 0)) dX10_init_208 rfl (by decide) k_arr_int (fun _ => rfl) (fun _ => rfl) (by decide) (by decide) (by decide) (mc2 := 14) (ms2 := 2014) (by decide) (by decide) ?_
  change gW _ _ _ _ _ (oNew S51 (.inl (.int, 400, .inl (fun _ => 0)))).1 (oNew S51 (.inl (.int, 400, .inl (fun _ => 0)))).2 _ _ _
  replace hf := obind hf
  obtain ⟨S53, e54, hf⟩ := hf
  refine q_putAF (pc := 210) dX10_init_210 pX10_91 (Or.inr ⟨_, rfl⟩) rfl e54 ?_
  refine r_aload_n (pc := 213) dX10_init_213 rfl ?_
  refine r_sipush (pc := 214) (400 : Int32) dX10_init_214 (by decide) ?_
  refine r_newa (pc := 217) .int .int (400, .inl (fun _ => 0)) dX10_init_217 rfl (by decide) k_arr_int (fun _ => rfl) (fun _ => rfl) (by decide) (by decide) (by decide) (mc2 := 13) (ms2 := 1614) (by decide) (by decide) ?_
  change gW _ _ _ _ _ (oNew S53 (.inl (.int, 400, .inl (fun _ => 0)))).1 (oNew S53 (.inl (.int, 400, .inl (fun _ => 0)))).2 _ _ _
  replace hf := obind hf
  obtain ⟨S55, e56, hf⟩ := hf
  refine q_putAF (pc := 219) dX10_init_219 pX10_94 (Or.inr ⟨_, rfl⟩) rfl e56 ?_
  refine r_aload_n (pc := 222) dX10_init_222 rfl ?_
  refine r_sipush (pc := 223) (400 : Int32) dX10_init_223 (by decide) ?_
  refine r_newa (pc := 226) .int .int (400, .inl (fun _ => 0)) dX10_init_226 rfl (by decide) k_arr_int (fun _ => rfl) (fun _ => rfl) (by decide) (by decide) (by decide) (mc2 := 12) (ms2 := 1214) (by decide) (by decide) ?_
  change gW _ _ _ _ _ (oNew S55 (.inl (.int, 400, .inl (fun _ => 0)))).1 (oNew S55 (.inl (.int, 400, .inl (fun _ => 0)))).2 _ _ _
  replace hf := obind hf
  obtain ⟨S57, e58, hf⟩ := hf
  refine q_putAF (pc := 228) dX10_init_228 pX10_97 (Or.inr ⟨_, rfl⟩) rfl e58 ?_
  refine r_aload_n (pc := 231) dX10_init_231 rfl ?_
  refine r_bipush (pc := 232) (62 : Int32) dX10_init_232 (by decide) ?_
  refine r_newa (pc := 234) .int .int (62, .inl (fun _ => 0)) dX10_init_234 rfl (by decide) k_arr_int (fun _ => rfl) (fun _ => rfl) (by decide) (by decide) (by decide) (mc2 := 11) (ms2 := 1152) (by decide) (by decide) ?_
  change gW _ _ _ _ _ (oNew S57 (.inl (.int, 62, .inl (fun _ => 0)))).1 (oNew S57 (.inl (.int, 62, .inl (fun _ => 0)))).2 _ _ _
  replace hf := obind hf
  obtain ⟨S59, e60, hf⟩ := hf
  refine q_putAF (pc := 236) dX10_init_236 pX10_100 (Or.inr ⟨_, rfl⟩) rfl e60 ?_
  refine r_aload_n (pc := 239) dX10_init_239 rfl ?_
  refine r_bipush (pc := 240) (62 : Int32) dX10_init_240 (by decide) ?_
  refine r_newa (pc := 242) .int .int (62, .inl (fun _ => 0)) dX10_init_242 rfl (by decide) k_arr_int (fun _ => rfl) (fun _ => rfl) (by decide) (by decide) (by decide) (mc2 := 10) (ms2 := 1090) (by decide) (by decide) ?_
  change gW _ _ _ _ _ (oNew S59 (.inl (.int, 62, .inl (fun _ => 0)))).1 (oNew S59 (.inl (.int, 62, .inl (fun _ => 0)))).2 _ _ _
  replace hf := obind hf
  obtain ⟨S61, e62, hf⟩ := hf
  refine q_putAF (pc := 244) dX10_init_244 pX10_103 (Or.inr ⟨_, rfl⟩) rfl e62 ?_
  refine r_aload_n (pc := 247) dX10_init_247 rfl ?_
  refine r_bipush (pc := 248) (62 : Int32) dX10_init_248 (by decide) ?_
  refine r_newa (pc := 250) .int .int (62, .inl (fun _ => 0)) dX10_init_250 rfl (by decide) k_arr_int (fun _ => rfl) (fun _ => rfl) (by decide) (by decide) (by decide) (mc2 := 9) (ms2 := 1028) (by decide) (by decide) ?_
  change gW _ _ _ _ _ (oNew S61 (.inl (.int, 62, .inl (fun _ => 0)))).1 (oNew S61 (.inl (.int, 62, .inl (fun _ => 0)))).2 _ _ _
  replace hf := obind hf
  obtain ⟨S63, e64, hf⟩ := hf
  refine q_putAF (pc := 252) dX10_init_252 pX10_106 (Or.inr ⟨_, rfl⟩) rfl e64 ?_
  refine r_aload_n (pc := 255) dX10_init_255 rfl ?_
  refine r_sipush (pc := 256) (700 : Int32) dX10_init_256 (by decide) ?_
  refine r_newa (pc := 259) .int .int (700, .inl (fun _ => 0)) dX10_init_259 rfl (by decide) k_arr_int (fun _ => rfl) (fun _ => rfl) (by decide) (by decide) (by decide) (mc2 := 8) (ms2 := 328) (by decide) (by decide) ?_
  change gW _ _ _ _ _ (oNew S63 (.inl (.int, 700, .inl (fun _ => 0)))).1 (oNew S63 (.inl (.int, 700, .inl (fun _ => 0)))).2 _ _ _
  replace hf := obind hf
  obtain ⟨S65, e66, hf⟩ := hf
  refine q_putAF (pc := 261) dX10_init_261 pX10_109 (Or.inr ⟨_, rfl⟩) rfl e66 ?_
  refine r_aload_n (pc := 264) dX10_init_264 rfl ?_
  refine r_bipush (pc := 265) (41 : Int32) dX10_init_265 (by decide) ?_
  refine r_newa (pc := 267) .int .int (41, .inl (fun _ => 0)) dX10_init_267 rfl (by decide) k_arr_int (fun _ => rfl) (fun _ => rfl) (by decide) (by decide) (by decide) (mc2 := 7) (ms2 := 287) (by decide) (by decide) ?_
  change gW _ _ _ _ _ (oNew S65 (.inl (.int, 41, .inl (fun _ => 0)))).1 (oNew S65 (.inl (.int, 41, .inl (fun _ => 0)))).2 _ _ _
  replace hf := obind hf
  obtain ⟨S67, e68, hf⟩ := hf
  refine q_putAF (pc := 269) dX10_init_269 pX10_112 (Or.inr ⟨_, rfl⟩) rfl e68 ?_
  refine r_aload_n (pc := 272) dX10_init_272 rfl ?_
  refine r_bipush (pc := 273) (41 : Int32) dX10_init_273 (by decide) ?_
  refine r_newa (pc := 275) .int .int (41, .inl (fun _ => 0)) dX10_init_275 rfl (by decide) k_arr_int (fun _ => rfl) (fun _ => rfl) (by decide) (by decide) (by decide) (mc2 := 6) (ms2 := 246) (by decide) (by decide) ?_
  change gW _ _ _ _ _ (oNew S67 (.inl (.int, 41, .inl (fun _ => 0)))).1 (oNew S67 (.inl (.int, 41, .inl (fun _ => 0)))).2 _ _ _
  replace hf := obind hf
  obtain ⟨S69, e70, hf⟩ := hf
  refine q_putAF (pc := 277) dX10_init_277 pX10_115 (Or.inr ⟨_, rfl⟩) rfl e70 ?_
  refine r_aload_n (pc := 280) dX10_init_280 rfl ?_
  refine r_bipush (pc := 281) (41 : Int32) dX10_init_281 (by decide) ?_
  refine r_newa (pc := 283) .int .int (41, .inl (fun _ => 0)) dX10_init_283 rfl (by decide) k_arr_int (fun _ => rfl) (fun _ => rfl) (by decide) (by decide) (by decide) (mc2 := 5) (ms2 := 205) (by decide) (by decide) ?_
  change gW _ _ _ _ _ (oNew S69 (.inl (.int, 41, .inl (fun _ => 0)))).1 (oNew S69 (.inl (.int, 41, .inl (fun _ => 0)))).2 _ _ _
  replace hf := obind hf
  obtain ⟨S71, e72, hf⟩ := hf
  refine q_putAF (pc := 285) dX10_init_285 pX10_118 (Or.inr ⟨_, rfl⟩) rfl e72 ?_
  refine r_aload_n (pc := 288) dX10_init_288 rfl ?_
  refine r_bipush (pc := 289) (41 : Int32) dX10_init_289 (by decide) ?_
  refine r_newa (pc := 291) .int .int (41, .inl (fun _ => 0)) dX10_init_291 rfl (by decide) k_arr_int (fun _ => rfl) (fun _ => rfl) (by decide) (by decide) (by decide) (mc2 := 4) (ms2 := 164) (by decide) (by decide) ?_
  change gW _ _ _ _ _ (oNew S71 (.inl (.int, 41, .inl (fun _ => 0)))).1 (oNew S71 (.inl (.int, 41, .inl (fun _ => 0)))).2 _ _ _
  replace hf := obind hf
  obtain ⟨S73, e74, hf⟩ := hf
  refine q_putAF (pc := 293) dX10_init_293 pX10_121 (Or.inr ⟨_, rfl⟩) rfl e74 ?_
  refine r_aload_n (pc := 296) dX10_init_296 rfl ?_
  refine r_bipush (pc := 297) (41 : Int32) dX10_init_297 (by decide) ?_
  refine r_newa (pc := 299) .int .int (41, .inl (fun _ => 0)) dX10_init_299 rfl (by decide) k_arr_int (fun _ => rfl) (fun _ => rfl) (by decide) (by decide) (by decide) (mc2 := 3) (ms2 := 123) (by decide) (by decide) ?_
  change gW _ _ _ _ _ (oNew S73 (.inl (.int, 41, .inl (fun _ => 0)))).1 (oNew S73 (.inl (.int, 41, .inl (fun _ => 0)))).2 _ _ _
  replace hf := obind hf
  obtain ⟨S75, e76, hf⟩ := hf
  refine q_putAF (pc := 301) dX10_init_301 pX10_124 (Or.inr ⟨_, rfl⟩) rfl e76 ?_
  refine r_aload_n (pc := 304) dX10_init_304 rfl ?_
  refine r_bipush (pc := 305) (41 : Int32) dX10_init_305 (by decide) ?_
  refine r_newa (pc := 307) .int .int (41, .inl (fun _ => 0)) dX10_init_307 rfl (by decide) k_arr_int (fun _ => rfl) (fun _ => rfl) (by decide) (by decide) (by decide) (mc2 := 2) (ms2 := 82) (by decide) (by decide) ?_
  change gW _ _ _ _ _ (oNew S75 (.inl (.int, 41, .inl (fun _ => 0)))).1 (oNew S75 (.inl (.int, 41, .inl (fun _ => 0)))).2 _ _ _
  replace hf := obind hf
  obtain ⟨S77, e78, hf⟩ := hf
  refine q_putAF (pc := 309) dX10_init_309 pX10_127 (Or.inr ⟨_, rfl⟩) rfl e78 ?_
  refine r_aload_n (pc := 312) dX10_init_312 rfl ?_
  refine r_bipush (pc := 313) (41 : Int32) dX10_init_313 (by decide) ?_
  refine r_newa (pc := 315) .int .int (41, .inl (fun _ => 0)) dX10_init_315 rfl (by decide) k_arr_int (fun _ => rfl) (fun _ => rfl) (by decide) (by decide) (by decide) (mc2 := 1) (ms2 := 41) (by decide) (by decide) ?_
  change gW _ _ _ _ _ (oNew S77 (.inl (.int, 41, .inl (fun _ => 0)))).1 (oNew S77 (.inl (.int, 41, .inl (fun _ => 0)))).2 _ _ _
  replace hf := obind hf
  obtain ⟨S79, e80, hf⟩ := hf
  refine q_putAF (pc := 317) dX10_init_317 pX10_130 (Or.inr ⟨_, rfl⟩) rfl e80 ?_
  refine r_aload_n (pc := 320) dX10_init_320 rfl ?_
  refine r_bipush (pc := 321) (41 : Int32) dX10_init_321 (by decide) ?_
  refine r_newa (pc := 323) .int .int (41, .inl (fun _ => 0)) dX10_init_323 rfl (by decide) k_arr_int (fun _ => rfl) (fun _ => rfl) (by decide) (by decide) (by decide) (mc2 := 0) (ms2 := 0) (by decide) (by decide) ?_
  change gW _ _ _ _ _ (oNew S79 (.inl (.int, 41, .inl (fun _ => 0)))).1 (oNew S79 (.inl (.int, 41, .inl (fun _ => 0)))).2 _ _ _
  replace hf := obind hf
  obtain ⟨S81, e82, hf⟩ := hf
  refine q_putAF (pc := 325) dX10_init_325 pX10_133 (Or.inr ⟨_, rfl⟩) rfl e82 ?_
  refine r_aload_n (pc := 328) dX10_init_328 rfl ?_
  replace hf := obind hf
  obtain ⟨q83, e84, hf⟩ := hf
  refine q_callV (pc := 329) (v := none) (S' := q83) mX10_empties 10 [] dX10_init_329 kX10_136 fX10_empties iX10_empties ⟨by decide, by decide⟩ rfl rfl rfl (Nat.le_of_ble_eq_true rfl) (og e84) (mc1 := 0) (ms1 := 0) (mc2 := 0) (ms2 := 0) (by decide) (by decide) (C_X10_empties S81 a0 q83 e84 (qR_mk _ _)) ?_
  refine r_return (pc := 332) dX10_init_332 rfl ?_
  cases hf
  exact hk
def F_X10_thrown (S : pS) (a0 : Nat) : Option (Int32) := (oF S a0 10).bind fun _ => (oGI S a0 10 0).bind fun x1 => some x1
set_option maxRecDepth 100000 in
set_option maxHeartbeats 4000000 in
theorem C_X10_thrown {X : pX} {Q : pO → Nat → pF → Prop} (S : pS) (a0 : Nat) (r : Int32) (hf : F_X10_thrown S a0 = some r) (hk : Q (.inl (some (.int r))) S.1 S.2) : gC X mX10_thrown [.ref a0] S.1 S.2 Q 0 0 := by
  refine gC_of (by decide) (Nat.le_of_ble_eq_true rfl) rfl ?_
  change gW _ _ _ [some (.ref a0)] _ _ _ _ _ _
  unfold F_X10_thrown at hf
  obtain ⟨_, _, hf⟩ := obind hf
  refine r_aload_n (pc := 0) dX10_thrown_0 rfl ?_
  replace hf := obind hf
  obtain ⟨x1, e2, hf⟩ := hf
  refine q_getI (pc := 1) dX10_thrown_1 gX10_139 e2 ?_
  refine r_ireturn (pc := 4) .int dX10_thrown_4 rfl rfl ?_
  cases hf
  exact hk
def F_X10_fails (S : pS) (a0 : Nat) (a1 : Int32) : Option (Int32 × pS) := (oF S a0 10).bind fun _ => (oPI S a0 10 0 a1).bind fun S1 => some ((0 : Int32), S1)
set_option maxRecDepth 100000 in
set_option maxHeartbeats 4000000 in
theorem C_X10_fails {X : pX} {Q : pO → Nat → pF → Prop} (S : pS) (a0 : Nat) (a1 : Int32) (r : Int32 × pS) (hf : F_X10_fails S a0 a1 = some r) (hk : Q (.inl (some (.int r.1))) r.2.1 r.2.2) : gC X mX10_fails [.ref a0, .int a1] S.1 S.2 Q 0 0 := by
  refine gC_of (by decide) (Nat.le_of_ble_eq_true rfl) rfl ?_
  change gW _ _ _ [some (.ref a0), some (.int a1)] _ _ _ _ _ _
  unfold F_X10_fails at hf
  obtain ⟨_, _, hf⟩ := obind hf
  refine r_aload_n (pc := 0) dX10_fails_0 rfl ?_
  refine r_iload_n (pc := 1) dX10_fails_1 rfl ?_
  replace hf := obind hf
  obtain ⟨S1, e2, hf⟩ := hf
  refine q_putI (pc := 2) dX10_fails_2 pX10_139 rfl e2 ?_
  refine r_iconst (pc := 5) (0 : Int32) dX10_fails_5 (by decide) ?_
  refine r_ireturn (pc := 6) .int dX10_fails_6 rfl rfl ?_
  cases hf
  exact hk
def F_X10_in (S : pS) (a0 : Int32) (a1 : Int32) (a2 : Int32) : Option (Int32) := if a0 < a1 then (some (0 : Int32)) else (if a2 < a0 then (some (0 : Int32)) else (some (1 : Int32)))
set_option maxRecDepth 100000 in
set_option maxHeartbeats 4000000 in
theorem C_X10_in {X : pX} {Q : pO → Nat → pF → Prop} (S : pS) (a0 : Int32) (a1 : Int32) (a2 : Int32) (r : Int32) (hf : F_X10_in S a0 a1 a2 = some r) (hk : Q (.inl (some (.int r))) S.1 S.2) : gC X mX10_in [.int a0, .int a1, .int a2] S.1 S.2 Q 0 0 := by
  refine gC_of (by decide) (Nat.le_of_ble_eq_true rfl) rfl ?_
  change gW _ _ _ [some (.int a0), some (.int a1), some (.int a2)] _ _ _ _ _ _
  unfold F_X10_in at hf
  refine r_iload_n (pc := 0) dX10_in_0 rfl ?_
  refine r_iload_n (pc := 1) dX10_in_1 rfl ?_
  refine r_icmp_lt (pc := 2) 14 dX10_in_2 (by decide) (fun hc => ?_) (fun hc => ?_)
  · rw [if_pos hc] at hf
    refine r_iconst (pc := 14) (0 : Int32) dX10_in_14 (by decide) ?_
    refine r_ireturn (pc := 15) .boolean dX10_in_15 rfl rfl ?_
    cases hf
    exact hk
  · rw [if_neg hc] at hf
    refine r_iload_n (pc := 5) dX10_in_5 rfl ?_
    refine r_iload_n (pc := 6) dX10_in_6 rfl ?_
    refine r_icmp_gt (pc := 7) 14 dX10_in_7 (by decide) (fun hc => ?_) (fun hc => ?_)
    · rw [if_pos hc] at hf
      refine r_iconst (pc := 14) (0 : Int32) dX10_in_14 (by decide) ?_
      refine r_ireturn (pc := 15) .boolean dX10_in_15 rfl rfl ?_
      cases hf
      exact hk
    · rw [if_neg hc] at hf
      refine r_iconst (pc := 10) (1 : Int32) dX10_in_10 (by decide) ?_
      refine r_goto (pc := 11) 15 dX10_in_11 (by decide) ?_
      refine r_ireturn (pc := 15) .boolean dX10_in_15 rfl rfl ?_
      cases hf
      exact hk
def F_X10_isItem (S : pS) (a0 : Nat) (a1 : Int32) : Option (Int32) := (oF S a0 10).bind fun _ => (F_X10_in S a1 (0 : Int32) (60 : Int32)).bind fun q1 => if q1 = 0 then (some (0 : Int32)) else ((oGA S a0 10 1).bind fun x3 => (oAI S x3 .int ((1 : Int32) + a1)).bind fun x5 => if ¬ x5 = (1 : Int32) then (some (0 : Int32)) else (some (1 : Int32)))
set_option maxRecDepth 100000 in
set_option maxHeartbeats 4000000 in
theorem C_X10_isItem {X : pX} {Q : pO → Nat → pF → Prop} (S : pS) (a0 : Nat) (a1 : Int32) (r : Int32) (hf : F_X10_isItem S a0 a1 = some r) (hk : Q (.inl (some (.int r))) S.1 S.2) : gC X mX10_isItem [.ref a0, .int a1] S.1 S.2 Q 0 0 := by
  refine gC_of (by decide) (Nat.le_of_ble_eq_true rfl) rfl ?_
  change gW _ _ _ [some (.ref a0), some (.int a1)] _ _ _ _ _ _
  unfold F_X10_isItem at hf
  obtain ⟨_, _, hf⟩ := obind hf
  refine r_iload_n (pc := 0) dX10_isItem_0 rfl ?_
  refine r_iconst (pc := 1) (0 : Int32) dX10_isItem_1 (by decide) ?_
  refine r_bipush (pc := 2) (60 : Int32) dX10_isItem_2 (by decide) ?_
  replace hf := obind hf
  obtain ⟨q1, e2, hf⟩ := hf
  refine q_callS (pc := 4) (v := some (.int q1)) (S' := S) mX10_in [.int a1, .int (0 : Int32), .int (60 : Int32)] dX10_isItem_4 kX10_142 fX10_in sX10_in ⟨by decide, by decide⟩ rfl rfl (Nat.le_of_ble_eq_true rfl) (mc1 := 0) (ms1 := 0) (mc2 := 0) (ms2 := 0) (by decide) (by decide) (C_X10_in S a1 (0 : Int32) (60 : Int32) q1 e2 (qR_mk _ _)) ?_
  change gW _ _ _ _ (.int q1 :: _) _ _ _ _ _
  refine r_if_eq (pc := 7) 26 dX10_isItem_7 (by decide) (fun hc => ?_) (fun hc => ?_)
  · rw [if_pos hc] at hf
    refine r_iconst (pc := 26) (0 : Int32) dX10_isItem_26 (by decide) ?_
    refine r_ireturn (pc := 27) .boolean dX10_isItem_27 rfl rfl ?_
    cases hf
    exact hk
  · rw [if_neg hc] at hf
    refine r_aload_n (pc := 10) dX10_isItem_10 rfl ?_
    replace hf := obind hf
    obtain ⟨x3, e4, hf⟩ := hf
    refine q_getA (pc := 11) dX10_isItem_11 gX10_7 e4 ?_
    refine r_iconst (pc := 14) (1 : Int32) dX10_isItem_14 (by decide) ?_
    refine r_iload_n (pc := 15) dX10_isItem_15 rfl ?_
    refine r_iadd (pc := 16) dX10_isItem_16 ?_
    replace hf := obind hf
    obtain ⟨x5, e6, hf⟩ := hf
    refine q_iald (pc := 17) dX10_isItem_17 e6 ?_
    refine r_iconst (pc := 18) (1 : Int32) dX10_isItem_18 (by decide) ?_
    refine r_icmp_ne (pc := 19) 26 dX10_isItem_19 (by decide) (fun hc => ?_) (fun hc => ?_)
    · rw [if_pos hc] at hf
      refine r_iconst (pc := 26) (0 : Int32) dX10_isItem_26 (by decide) ?_
      refine r_ireturn (pc := 27) .boolean dX10_isItem_27 rfl rfl ?_
      cases hf
      exact hk
    · rw [if_neg hc] at hf
      refine r_iconst (pc := 22) (1 : Int32) dX10_isItem_22 (by decide) ?_
      refine r_goto (pc := 23) 27 dX10_isItem_23 (by decide) ?_
      refine r_ireturn (pc := 27) .boolean dX10_isItem_27 rfl rfl ?_
      cases hf
      exact hk
def F_X10_isOther (S : pS) (a0 : Nat) (a1 : Int32) : Option (Int32) := (oF S a0 10).bind fun _ => if a1 = 0 then (some (0 : Int32)) else ((F_X10_isItem S a0 a1).bind fun q1 => if q1 = 0 then (some (0 : Int32)) else (some (1 : Int32)))
set_option maxRecDepth 100000 in
set_option maxHeartbeats 4000000 in
theorem C_X10_isOther {X : pX} {Q : pO → Nat → pF → Prop} (S : pS) (a0 : Nat) (a1 : Int32) (r : Int32) (hf : F_X10_isOther S a0 a1 = some r) (hk : Q (.inl (some (.int r))) S.1 S.2) : gC X mX10_isOther [.ref a0, .int a1] S.1 S.2 Q 0 0 := by
  refine gC_of (by decide) (Nat.le_of_ble_eq_true rfl) rfl ?_
  change gW _ _ _ [some (.ref a0), some (.int a1)] _ _ _ _ _ _
  unfold F_X10_isOther at hf
  obtain ⟨_, _, hf⟩ := obind hf
  refine r_iload_n (pc := 0) dX10_isOther_0 rfl ?_
  refine r_if_eq (pc := 1) 16 dX10_isOther_1 (by decide) (fun hc => ?_) (fun hc => ?_)
  · rw [if_pos hc] at hf
    refine r_iconst (pc := 16) (0 : Int32) dX10_isOther_16 (by decide) ?_
    refine r_ireturn (pc := 17) .boolean dX10_isOther_17 rfl rfl ?_
    cases hf
    exact hk
  · rw [if_neg hc] at hf
    refine r_aload_n (pc := 4) dX10_isOther_4 rfl ?_
    refine r_iload_n (pc := 5) dX10_isOther_5 rfl ?_
    replace hf := obind hf
    obtain ⟨q1, e2, hf⟩ := hf
    refine q_callV (pc := 6) (v := some (.int q1)) (S' := S) mX10_isItem 10 [.int a1] dX10_isOther_6 kX10_146 fX10_isItem iX10_isItem ⟨by decide, by decide⟩ rfl rfl rfl (Nat.le_of_ble_eq_true rfl) (og e2) (mc1 := 0) (ms1 := 0) (mc2 := 0) (ms2 := 0) (by decide) (by decide) (C_X10_isItem S a0 a1 q1 e2 (qR_mk _ _)) ?_
    change gW _ _ _ _ (.int q1 :: _) _ _ _ _ _
    refine r_if_eq (pc := 9) 16 dX10_isOther_9 (by decide) (fun hc => ?_) (fun hc => ?_)
    · rw [if_pos hc] at hf
      refine r_iconst (pc := 16) (0 : Int32) dX10_isOther_16 (by decide) ?_
      refine r_ireturn (pc := 17) .boolean dX10_isOther_17 rfl rfl ?_
      cases hf
      exact hk
    · rw [if_neg hc] at hf
      refine r_iconst (pc := 12) (1 : Int32) dX10_isOther_12 (by decide) ?_
      refine r_goto (pc := 13) 17 dX10_isOther_13 (by decide) ?_
      refine r_ireturn (pc := 17) .boolean dX10_isOther_17 rfl rfl ?_
      cases hf
      exact hk
def F_X10_child (S : pS) (a0 : Nat) (a1 : Int32) (a2 : Int32) : Option (Int32) := (oF S a0 10).bind fun _ => (oGA S a0 10 1).bind fun x1 => (oAI S x1 .int (((977 : Int32) + ((12 : Int32) * a1)) + a2)).bind fun x3 => some x3
set_option maxRecDepth 100000 in
set_option maxHeartbeats 4000000 in
theorem C_X10_child {X : pX} {Q : pO → Nat → pF → Prop} (S : pS) (a0 : Nat) (a1 : Int32) (a2 : Int32) (r : Int32) (hf : F_X10_child S a0 a1 a2 = some r) (hk : Q (.inl (some (.int r))) S.1 S.2) : gC X mX10_child [.ref a0, .int a1, .int a2] S.1 S.2 Q 0 0 := by
  refine gC_of (by decide) (Nat.le_of_ble_eq_true rfl) rfl ?_
  change gW _ _ _ [some (.ref a0), some (.int a1), some (.int a2)] _ _ _ _ _ _
  unfold F_X10_child at hf
  obtain ⟨_, _, hf⟩ := obind hf
  refine r_aload_n (pc := 0) dX10_child_0 rfl ?_
  replace hf := obind hf
  obtain ⟨x1, e2, hf⟩ := hf
  refine q_getA (pc := 1) dX10_child_1 gX10_7 e2 ?_
  refine r_sipush (pc := 4) (977 : Int32) dX10_child_4 (by decide) ?_
  refine r_bipush (pc := 7) (12 : Int32) dX10_child_7 (by decide) ?_
  refine r_iload_n (pc := 9) dX10_child_9 rfl ?_
  refine r_imul (pc := 10) dX10_child_10 ?_
  refine r_iadd (pc := 11) dX10_child_11 ?_
  refine r_iload_n (pc := 12) dX10_child_12 rfl ?_
  refine r_iadd (pc := 13) dX10_child_13 ?_
  replace hf := obind hf
  obtain ⟨x3, e4, hf⟩ := hf
  refine q_iald (pc := 14) dX10_child_14 e4 ?_
  refine r_ireturn (pc := 15) .int dX10_child_15 rfl rfl ?_
  cases hf
  exact hk
def F_X10_has (S : pS) (a0 : Nat) (a1 : Int32) (a2 : Int32) : Option (Int32) := (oF S a0 10).bind fun _ => (oGA S a0 10 1).bind fun x1 => (oAI S x1 .int ((184 : Int32) + a1)).bind fun x3 => if ¬ ((x3 >>> (a2 &&& 31)) &&& (1 : Int32)) = (1 : Int32) then (some (0 : Int32)) else (some (1 : Int32))
set_option maxRecDepth 100000 in
set_option maxHeartbeats 4000000 in
theorem C_X10_has {X : pX} {Q : pO → Nat → pF → Prop} (S : pS) (a0 : Nat) (a1 : Int32) (a2 : Int32) (r : Int32) (hf : F_X10_has S a0 a1 a2 = some r) (hk : Q (.inl (some (.int r))) S.1 S.2) : gC X mX10_has [.ref a0, .int a1, .int a2] S.1 S.2 Q 0 0 := by
  refine gC_of (by decide) (Nat.le_of_ble_eq_true rfl) rfl ?_
  change gW _ _ _ [some (.ref a0), some (.int a1), some (.int a2)] _ _ _ _ _ _
  unfold F_X10_has at hf
  obtain ⟨_, _, hf⟩ := obind hf
  refine r_aload_n (pc := 0) dX10_has_0 rfl ?_
  replace hf := obind hf
  obtain ⟨x1, e2, hf⟩ := hf
  refine q_getA (pc := 1) dX10_has_1 gX10_7 e2 ?_
  refine r_sipush (pc := 4) (184 : Int32) dX10_has_4 (by decide) ?_
  refine r_iload_n (pc := 7) dX10_has_7 rfl ?_
  refine r_iadd (pc := 8) dX10_has_8 ?_
  replace hf := obind hf
  obtain ⟨x3, e4, hf⟩ := hf
  refine q_iald (pc := 9) dX10_has_9 e4 ?_
  refine r_iload_n (pc := 10) dX10_has_10 rfl ?_
  refine r_ishr (pc := 11) dX10_has_11 ?_
  refine r_iconst (pc := 12) (1 : Int32) dX10_has_12 (by decide) ?_
  refine r_iand (pc := 13) dX10_has_13 ?_
  refine r_iconst (pc := 14) (1 : Int32) dX10_has_14 (by decide) ?_
  refine r_icmp_ne (pc := 15) 22 dX10_has_15 (by decide) (fun hc => ?_) (fun hc => ?_)
  · rw [if_pos hc] at hf
    refine r_iconst (pc := 22) (0 : Int32) dX10_has_22 (by decide) ?_
    refine r_ireturn (pc := 23) .boolean dX10_has_23 rfl rfl ?_
    cases hf
    exact hk
  · rw [if_neg hc] at hf
    refine r_iconst (pc := 18) (1 : Int32) dX10_has_18 (by decide) ?_
    refine r_goto (pc := 19) 23 dX10_has_19 (by decide) ?_
    refine r_ireturn (pc := 23) .boolean dX10_has_23 rfl rfl ?_
    cases hf
    exact hk
abbrev L_X10_indexOf_2 (l0 : Nat) (l1 : Int32) (l2 : Int32) (S : pS) : Int32 → List (Option Value) := fun a => [some (.ref l0), some (.int l1), some (.int l2), some (.int a)]
abbrev s_X10_indexOf_2 (l0 : Nat) (l1 : Int32) (l2 : Int32) (S : pS) : Int32 → pS := fun a => S
abbrev K_X10_indexOf_2 (X : pX) (Q : pO → Nat → pF → Prop) (mc ms : Nat) (l0 : Nat) (l1 : Int32) (l2 : Int32) (S : pS) : (Int32) ⊕ (Unit) → Prop := (Sum.elim (fun b => gW X mX10_indexOf 26 [some (.ref l0), some (.int l1), some (.int l2), some (.int b)] [] S.1 S.2 Q mc ms) (fun b => gW X mX10_indexOf 34 [some (.ref l0), some (.int l1), some (.int l2), none] [] S.1 S.2 Q mc ms))
def F_X10_indexOf_2 (l0 : Nat) (l1 : Int32) (l2 : Int32) (S : pS) : Int32 → Option ((Int32) ⊕ ((Int32) ⊕ (Unit))) := fun a => (oGA S l0 10 1).bind fun x1 => (oAI S x1 .int ((916 : Int32) + l1)).bind fun x3 => if x3 ≤ a then (some (.inr (.inr ()))) else ((F_X10_child S l0 l1 a).bind fun q5 => if ¬ q5 = l2 then (some (.inl (a + (1 : Int32)))) else (some (.inr (.inl a))))
set_option maxRecDepth 100000 in
set_option maxHeartbeats 4000000 in
theorem W_X10_indexOf_2 {X : pX} {Q : pO → Nat → pF → Prop} {mc ms : Nat} (l0 : Nat) (l1 : Int32) (l2 : Int32) (S : pS) : ∀ (a : Int32) (r : (Int32) ⊕ ((Int32) ⊕ (Unit))), F_X10_indexOf_2 l0 l1 l2 S a = some r → Sum.elim (fun a' => gW X mX10_indexOf 2 (L_X10_indexOf_2 l0 l1 l2 S a') [] (s_X10_indexOf_2 l0 l1 l2 S a').1 (s_X10_indexOf_2 l0 l1 l2 S a').2 Q mc ms) (K_X10_indexOf_2 X Q mc ms l0 l1 l2 S) r → gW X mX10_indexOf 2 (L_X10_indexOf_2 l0 l1 l2 S a) [] (s_X10_indexOf_2 l0 l1 l2 S a).1 (s_X10_indexOf_2 l0 l1 l2 S a).2 Q mc ms := by
  intro l3 r hf hk
  unfold F_X10_indexOf_2 at hf
  try dsimp only at hf
  change gW _ _ _ [some (.ref l0), some (.int l1), some (.int l2), some (.int l3)] _ S.1 S.2 _ _ _
  refine r_iload_n (pc := 2) dX10_indexOf_2 rfl ?_
  refine r_aload_n (pc := 3) dX10_indexOf_3 rfl ?_
  replace hf := obind hf
  obtain ⟨x1, e2, hf⟩ := hf
  refine q_getA (pc := 4) dX10_indexOf_4 gX10_7 e2 ?_
  refine r_sipush (pc := 7) (916 : Int32) dX10_indexOf_7 (by decide) ?_
  refine r_iload_n (pc := 10) dX10_indexOf_10 rfl ?_
  refine r_iadd (pc := 11) dX10_indexOf_11 ?_
  replace hf := obind hf
  obtain ⟨x3, e4, hf⟩ := hf
  refine q_iald (pc := 12) dX10_indexOf_12 e4 ?_
  refine r_icmp_ge (pc := 13) 34 dX10_indexOf_13 (by decide) (fun hc => ?_) (fun hc => ?_)
  · rw [if_pos hc] at hf
    cases hf
    exact gW.weak (by simp [gle]) hk
  · rw [if_neg hc] at hf
    refine r_aload_n (pc := 16) dX10_indexOf_16 rfl ?_
    refine r_iload_n (pc := 17) dX10_indexOf_17 rfl ?_
    refine r_iload_n (pc := 18) dX10_indexOf_18 rfl ?_
    replace hf := obind hf
    obtain ⟨q5, e6, hf⟩ := hf
    refine q_callV (pc := 19) (v := some (.int q5)) (S' := S) mX10_child 10 [.int l1, .int l3] dX10_indexOf_19 kX10_150 fX10_child iX10_child ⟨by decide, by decide⟩ rfl rfl rfl (Nat.le_of_ble_eq_true rfl) (og e6) (mc1 := 0) (ms1 := 0) (mc2 := mc) (ms2 := ms) (by omega) (by omega) (C_X10_child S l0 l1 l3 q5 e6 (qR_mk _ _)) ?_
    change gW _ _ _ _ (.int q5 :: _) _ _ _ _ _
    refine r_iload_n (pc := 22) dX10_indexOf_22 rfl ?_
    refine r_icmp_ne (pc := 23) 28 dX10_indexOf_23 (by decide) (fun hc => ?_) (fun hc => ?_)
    · rw [if_pos hc] at hf
      refine r_iinc (pc := 28) dX10_indexOf_28 rfl (by decide) ?_
      change gW _ _ _ [some (.ref l0), some (.int l1), some (.int l2), some (.int (l3 + (1 : Int32)))] _ _ _ _ _ _
      refine r_goto (pc := 31) 2 dX10_indexOf_31 (by decide) ?_
      cases hf
      exact gW.weak (by simp [gle]) hk
    · rw [if_neg hc] at hf
      cases hf
      exact gW.weak (by simp [gle]) hk
def F_X10_indexOf (S : pS) (a0 : Nat) (a1 : Int32) (a2 : Int32) : Option (Int32) := (oF S a0 10).bind fun _ => (iter (F_X10_indexOf_2 a0 a1 a2 S) fu (0 : Int32)).bind fun r7 => Sum.elim (fun q9 => some q9) (fun q9 => some (-1 : Int32)) r7
set_option maxRecDepth 100000 in
set_option maxHeartbeats 4000000 in
theorem C_X10_indexOf {X : pX} {Q : pO → Nat → pF → Prop} (S : pS) (a0 : Nat) (a1 : Int32) (a2 : Int32) (r : Int32) (hf : F_X10_indexOf S a0 a1 a2 = some r) (hk : Q (.inl (some (.int r))) S.1 S.2) : gC X mX10_indexOf [.ref a0, .int a1, .int a2] S.1 S.2 Q 0 0 := by
  refine gC_of (by decide) (Nat.le_of_ble_eq_true rfl) rfl ?_
  change gW _ _ _ [some (.ref a0), some (.int a1), some (.int a2), none] _ _ _ _ _ _
  unfold F_X10_indexOf at hf
  obtain ⟨_, _, hf⟩ := obind hf
  refine r_iconst (pc := 0) (0 : Int32) dX10_indexOf_0 (by decide) ?_
  refine r_istore_n (pc := 1) dX10_indexOf_1 (by decide) ?_
  change gW _ _ _ [some (.ref a0), some (.int a1), some (.int a2), some (.int (0 : Int32))] _ _ _ _ _ _
  replace hf := obind hf
  obtain ⟨r7, e8, hf⟩ := hf
  refine gW.weak (ls' := [some (.ref a0), some (.int a1), some (.int a2), some (.int (0 : Int32))]) (by simp [gle]) ?_
  refine g_iter (L := L_X10_indexOf_2 a0 a1 a2 S) (s := s_X10_indexOf_2 a0 a1 a2 S) (K := K_X10_indexOf_2 X Q _ _ a0 a1 a2 S) (W_X10_indexOf_2 a0 a1 a2 S) fu (0 : Int32) _ e8 ?_
  rcases r7 with q9 | q9
  · simp only [Sum.elim_inl, Sum.elim_inr] at hf
    show gW _ _ 26 [some (.ref a0), some (.int a1), some (.int a2), some (.int q9)] [] S.1 S.2 _ _ _
    refine r_iload_n (pc := 26) dX10_indexOf_26 rfl ?_
    refine r_ireturn (pc := 27) .int dX10_indexOf_27 rfl rfl ?_
    cases hf
    exact hk
  · simp only [Sum.elim_inl, Sum.elim_inr] at hf
    show gW _ _ 34 [some (.ref a0), some (.int a1), some (.int a2), none] [] S.1 S.2 _ _ _
    refine r_iconst (pc := 34) (-1 : Int32) dX10_indexOf_34 (by decide) ?_
    refine r_ireturn (pc := 35) .int dX10_indexOf_35 rfl rfl ?_
    cases hf
    exact hk
abbrev L_X10_remembers_2 (l0 : Nat) : Int32 × pS → List (Option Value) := fun a => [some (.ref l0), some (.int a.1)]
abbrev s_X10_remembers_2 (l0 : Nat) : Int32 × pS → pS := fun a => a.2
abbrev K_X10_remembers_2 (X : pX) (Q : pO → Nat → pF → Prop) (mc ms : Nat) (l0 : Nat) : pS → Prop := (fun b => gW X mX10_remembers 27 [some (.ref l0), none] [] b.1 b.2 Q mc ms)
def F_X10_remembers_2 (l0 : Nat) : Int32 × pS → Option ((Int32 × pS) ⊕ (pS)) := fun a => if (1709 : Int32) ≤ a.1 then (some (.inr a.2)) else ((oGA a.2 l0 10 3).bind fun x1 => (oGA a.2 l0 10 1).bind fun x3 => (oAI a.2 x3 .int a.1).bind fun x5 => (oSI a.2 x1 .int a.1 x5).bind fun S7 => some (.inl (a.1 + (1 : Int32), S7)))
set_option maxRecDepth 100000 in
set_option maxHeartbeats 4000000 in
theorem W_X10_remembers_2 {X : pX} {Q : pO → Nat → pF → Prop} {mc ms : Nat} (l0 : Nat) : ∀ (a : Int32 × pS) (r : (Int32 × pS) ⊕ (pS)), F_X10_remembers_2 l0 a = some r → Sum.elim (fun a' => gW X mX10_remembers 2 (L_X10_remembers_2 l0 a') [] (s_X10_remembers_2 l0 a').1 (s_X10_remembers_2 l0 a').2 Q mc ms) (K_X10_remembers_2 X Q mc ms l0) r → gW X mX10_remembers 2 (L_X10_remembers_2 l0 a) [] (s_X10_remembers_2 l0 a).1 (s_X10_remembers_2 l0 a).2 Q mc ms := by
  intro a r hf hk
  obtain ⟨l1, S⟩ := a
  unfold F_X10_remembers_2 at hf
  try dsimp only at hf
  change gW _ _ _ [some (.ref l0), some (.int l1)] _ S.1 S.2 _ _ _
  refine r_iload_n (pc := 2) dX10_remembers_2 rfl ?_
  refine r_sipush (pc := 3) (1709 : Int32) dX10_remembers_3 (by decide) ?_
  refine r_icmp_ge (pc := 6) 27 dX10_remembers_6 (by decide) (fun hc => ?_) (fun hc => ?_)
  · rw [if_pos hc] at hf
    cases hf
    exact gW.weak (by simp [gle]) hk
  · rw [if_neg hc] at hf
    refine r_aload_n (pc := 9) dX10_remembers_9 rfl ?_
    replace hf := obind hf
    obtain ⟨x1, e2, hf⟩ := hf
    refine q_getA (pc := 10) dX10_remembers_10 gX10_16 e2 ?_
    refine r_iload_n (pc := 13) dX10_remembers_13 rfl ?_
    refine r_aload_n (pc := 14) dX10_remembers_14 rfl ?_
    replace hf := obind hf
    obtain ⟨x3, e4, hf⟩ := hf
    refine q_getA (pc := 15) dX10_remembers_15 gX10_7 e4 ?_
    refine r_iload_n (pc := 18) dX10_remembers_18 rfl ?_
    replace hf := obind hf
    obtain ⟨x5, e6, hf⟩ := hf
    refine q_iald (pc := 19) dX10_remembers_19 e6 ?_
    replace hf := obind hf
    obtain ⟨S7, e8, hf⟩ := hf
    refine q_iast (pc := 20) dX10_remembers_20 e8 ?_
    refine r_iinc (pc := 21) dX10_remembers_21 rfl (by decide) ?_
    change gW _ _ _ [some (.ref l0), some (.int (l1 + (1 : Int32)))] _ _ _ _ _ _
    refine r_goto (pc := 24) 2 dX10_remembers_24 (by decide) ?_
    cases hf
    exact gW.weak (by simp [gle]) hk
def F_X10_remembers (S : pS) (a0 : Nat) : Option (pS) := (oF S a0 10).bind fun _ => (iter (F_X10_remembers_2 a0) fu ((0 : Int32), S)).bind fun r9 => some r9
set_option maxRecDepth 100000 in
set_option maxHeartbeats 4000000 in
theorem C_X10_remembers {X : pX} {Q : pO → Nat → pF → Prop} (S : pS) (a0 : Nat) (r : pS) (hf : F_X10_remembers S a0 = some r) (hk : Q (.inl none) r.1 r.2) : gC X mX10_remembers [.ref a0] S.1 S.2 Q 0 0 := by
  refine gC_of (by decide) (Nat.le_of_ble_eq_true rfl) rfl ?_
  change gW _ _ _ [some (.ref a0), none] _ _ _ _ _ _
  unfold F_X10_remembers at hf
  obtain ⟨_, _, hf⟩ := obind hf
  refine r_iconst (pc := 0) (0 : Int32) dX10_remembers_0 (by decide) ?_
  refine r_istore_n (pc := 1) dX10_remembers_1 (by decide) ?_
  change gW _ _ _ [some (.ref a0), some (.int (0 : Int32))] _ _ _ _ _ _
  replace hf := obind hf
  obtain ⟨r9, e10, hf⟩ := hf
  refine gW.weak (ls' := [some (.ref a0), some (.int (0 : Int32))]) (by simp [gle]) ?_
  refine g_iter (L := L_X10_remembers_2 a0) (s := s_X10_remembers_2 a0) (K := K_X10_remembers_2 X Q _ _ a0) (W_X10_remembers_2 a0) fu ((0 : Int32), S) _ e10 ?_
  show gW _ _ 27 [some (.ref a0), none] [] r9.1 r9.2 _ _ _
  refine r_return (pc := 27) dX10_remembers_27 rfl ?_
  cases hf
  exact hk
abbrev L_X10_takesBack_2 (l0 : Nat) : Int32 × pS → List (Option Value) := fun a => [some (.ref l0), some (.int a.1)]
abbrev s_X10_takesBack_2 (l0 : Nat) : Int32 × pS → pS := fun a => a.2
abbrev K_X10_takesBack_2 (X : pX) (Q : pO → Nat → pF → Prop) (mc ms : Nat) (l0 : Nat) : pS → Prop := (fun b => gW X mX10_takesBack 27 [some (.ref l0), none] [] b.1 b.2 Q mc ms)
def F_X10_takesBack_2 (l0 : Nat) : Int32 × pS → Option ((Int32 × pS) ⊕ (pS)) := fun a => if (1709 : Int32) ≤ a.1 then (some (.inr a.2)) else ((oGA a.2 l0 10 1).bind fun x1 => (oGA a.2 l0 10 3).bind fun x3 => (oAI a.2 x3 .int a.1).bind fun x5 => (oSI a.2 x1 .int a.1 x5).bind fun S7 => some (.inl (a.1 + (1 : Int32), S7)))
set_option maxRecDepth 100000 in
set_option maxHeartbeats 4000000 in
theorem W_X10_takesBack_2 {X : pX} {Q : pO → Nat → pF → Prop} {mc ms : Nat} (l0 : Nat) : ∀ (a : Int32 × pS) (r : (Int32 × pS) ⊕ (pS)), F_X10_takesBack_2 l0 a = some r → Sum.elim (fun a' => gW X mX10_takesBack 2 (L_X10_takesBack_2 l0 a') [] (s_X10_takesBack_2 l0 a').1 (s_X10_takesBack_2 l0 a').2 Q mc ms) (K_X10_takesBack_2 X Q mc ms l0) r → gW X mX10_takesBack 2 (L_X10_takesBack_2 l0 a) [] (s_X10_takesBack_2 l0 a).1 (s_X10_takesBack_2 l0 a).2 Q mc ms := by
  intro a r hf hk
  obtain ⟨l1, S⟩ := a
  unfold F_X10_takesBack_2 at hf
  try dsimp only at hf
  change gW _ _ _ [some (.ref l0), some (.int l1)] _ S.1 S.2 _ _ _
  refine r_iload_n (pc := 2) dX10_takesBack_2 rfl ?_
  refine r_sipush (pc := 3) (1709 : Int32) dX10_takesBack_3 (by decide) ?_
  refine r_icmp_ge (pc := 6) 27 dX10_takesBack_6 (by decide) (fun hc => ?_) (fun hc => ?_)
  · rw [if_pos hc] at hf
    cases hf
    exact gW.weak (by simp [gle]) hk
  · rw [if_neg hc] at hf
    refine r_aload_n (pc := 9) dX10_takesBack_9 rfl ?_
    replace hf := obind hf
    obtain ⟨x1, e2, hf⟩ := hf
    refine q_getA (pc := 10) dX10_takesBack_10 gX10_7 e2 ?_
    refine r_iload_n (pc := 13) dX10_takesBack_13 rfl ?_
    refine r_aload_n (pc := 14) dX10_takesBack_14 rfl ?_
    replace hf := obind hf
    obtain ⟨x3, e4, hf⟩ := hf
    refine q_getA (pc := 15) dX10_takesBack_15 gX10_16 e4 ?_
    refine r_iload_n (pc := 18) dX10_takesBack_18 rfl ?_
    replace hf := obind hf
    obtain ⟨x5, e6, hf⟩ := hf
    refine q_iald (pc := 19) dX10_takesBack_19 e6 ?_
    replace hf := obind hf
    obtain ⟨S7, e8, hf⟩ := hf
    refine q_iast (pc := 20) dX10_takesBack_20 e8 ?_
    refine r_iinc (pc := 21) dX10_takesBack_21 rfl (by decide) ?_
    change gW _ _ _ [some (.ref l0), some (.int (l1 + (1 : Int32)))] _ _ _ _ _ _
    refine r_goto (pc := 24) 2 dX10_takesBack_24 (by decide) ?_
    cases hf
    exact gW.weak (by simp [gle]) hk
def F_X10_takesBack (S : pS) (a0 : Nat) : Option (pS) := (oF S a0 10).bind fun _ => (iter (F_X10_takesBack_2 a0) fu ((0 : Int32), S)).bind fun r9 => some r9
set_option maxRecDepth 100000 in
set_option maxHeartbeats 4000000 in
theorem C_X10_takesBack {X : pX} {Q : pO → Nat → pF → Prop} (S : pS) (a0 : Nat) (r : pS) (hf : F_X10_takesBack S a0 = some r) (hk : Q (.inl none) r.1 r.2) : gC X mX10_takesBack [.ref a0] S.1 S.2 Q 0 0 := by
  refine gC_of (by decide) (Nat.le_of_ble_eq_true rfl) rfl ?_
  change gW _ _ _ [some (.ref a0), none] _ _ _ _ _ _
  unfold F_X10_takesBack at hf
  obtain ⟨_, _, hf⟩ := obind hf
  refine r_iconst (pc := 0) (0 : Int32) dX10_takesBack_0 (by decide) ?_
  refine r_istore_n (pc := 1) dX10_takesBack_1 (by decide) ?_
  change gW _ _ _ [some (.ref a0), some (.int (0 : Int32))] _ _ _ _ _ _
  replace hf := obind hf
  obtain ⟨r9, e10, hf⟩ := hf
  refine gW.weak (ls' := [some (.ref a0), some (.int (0 : Int32))]) (by simp [gle]) ?_
  refine g_iter (L := L_X10_takesBack_2 a0) (s := s_X10_takesBack_2 a0) (K := K_X10_takesBack_2 X Q _ _ a0) (W_X10_takesBack_2 a0) fu ((0 : Int32), S) _ e10 ?_
  show gW _ _ 27 [some (.ref a0), none] [] r9.1 r9.2 _ _ _
  refine r_return (pc := 27) dX10_takesBack_27 rfl ?_
  cases hf
  exact hk
abbrev L_X10_checksHoists_4 (l0 : Nat) (S : pS) : Int32 × Int32 → List (Option Value) := fun a => [some (.ref l0), some (.int a.1), some (.int a.2)]
abbrev s_X10_checksHoists_4 (l0 : Nat) (S : pS) : Int32 × Int32 → pS := fun a => S
abbrev K_X10_checksHoists_4 (X : pX) (Q : pO → Nat → pF → Prop) (mc ms : Nat) (l0 : Nat) (S : pS) : Int32 → Prop := (fun b => gW X mX10_checksHoists 41 [some (.ref l0), some (.int b), none] [] S.1 S.2 Q mc ms)
def F_X10_checksHoists_4 (l0 : Nat) (S : pS) : Int32 × Int32 → Option ((Int32 × Int32) ⊕ (Int32)) := fun a => (oGI S l0 10 8).bind fun x1 => if x1 ≤ a.2 then (some (.inr a.1)) else (if a.1 = 0 then (some (.inl ((0 : Int32), a.2 + (1 : Int32)))) else ((oGA S l0 10 7).bind fun x3 => (oAI S x3 .int a.2).bind fun x5 => (F_X10_isItem S l0 x5).bind fun q7 => if q7 = 0 then (some (.inl ((0 : Int32), a.2 + (1 : Int32)))) else (some (.inl ((1 : Int32), a.2 + (1 : Int32))))))
set_option maxRecDepth 100000 in
set_option maxHeartbeats 4000000 in
theorem W_X10_checksHoists_4 {X : pX} {Q : pO → Nat → pF → Prop} {mc ms : Nat} (l0 : Nat) (S : pS) : ∀ (a : Int32 × Int32) (r : (Int32 × Int32) ⊕ (Int32)), F_X10_checksHoists_4 l0 S a = some r → Sum.elim (fun a' => gW X mX10_checksHoists 4 (L_X10_checksHoists_4 l0 S a') [] (s_X10_checksHoists_4 l0 S a').1 (s_X10_checksHoists_4 l0 S a').2 Q mc ms) (K_X10_checksHoists_4 X Q mc ms l0 S) r → gW X mX10_checksHoists 4 (L_X10_checksHoists_4 l0 S a) [] (s_X10_checksHoists_4 l0 S a).1 (s_X10_checksHoists_4 l0 S a).2 Q mc ms := by
  intro a r hf hk
  obtain ⟨l1, l2⟩ := a
  unfold F_X10_checksHoists_4 at hf
  try dsimp only at hf
  change gW _ _ _ [some (.ref l0), some (.int l1), some (.int l2)] _ S.1 S.2 _ _ _
  refine r_iload_n (pc := 4) dX10_checksHoists_4 rfl ?_
  refine r_aload_n (pc := 5) dX10_checksHoists_5 rfl ?_
  replace hf := obind hf
  obtain ⟨x1, e2, hf⟩ := hf
  refine q_getI (pc := 6) dX10_checksHoists_6 gX10_154 e2 ?_
  refine r_icmp_ge (pc := 9) 41 dX10_checksHoists_9 (by decide) (fun hc => ?_) (fun hc => ?_)
  · rw [if_pos hc] at hf
    cases hf
    exact gW.weak (by simp [gle]) hk
  · rw [if_neg hc] at hf
    refine r_iload_n (pc := 12) dX10_checksHoists_12 rfl ?_
    refine r_if_eq (pc := 13) 33 dX10_checksHoists_13 (by decide) (fun hc => ?_) (fun hc => ?_)
    · rw [if_pos hc] at hf
      refine r_iconst (pc := 33) (0 : Int32) dX10_checksHoists_33 (by decide) ?_
      refine r_istore_n (pc := 34) dX10_checksHoists_34 (by decide) ?_
      change gW _ _ _ [some (.ref l0), some (.int (0 : Int32)), some (.int l2)] _ _ _ _ _ _
      refine r_iinc (pc := 35) dX10_checksHoists_35 rfl (by decide) ?_
      change gW _ _ _ [some (.ref l0), some (.int (0 : Int32)), some (.int (l2 + (1 : Int32)))] _ _ _ _ _ _
      refine r_goto (pc := 38) 4 dX10_checksHoists_38 (by decide) ?_
      cases hf
      exact gW.weak (by simp [gle]) hk
    · rw [if_neg hc] at hf
      refine r_aload_n (pc := 16) dX10_checksHoists_16 rfl ?_
      refine r_aload_n (pc := 17) dX10_checksHoists_17 rfl ?_
      replace hf := obind hf
      obtain ⟨x3, e4, hf⟩ := hf
      refine q_getA (pc := 18) dX10_checksHoists_18 gX10_22 e4 ?_
      refine r_iload_n (pc := 21) dX10_checksHoists_21 rfl ?_
      replace hf := obind hf
      obtain ⟨x5, e6, hf⟩ := hf
      refine q_iald (pc := 22) dX10_checksHoists_22 e6 ?_
      replace hf := obind hf
      obtain ⟨q7, e8, hf⟩ := hf
      refine q_callV (pc := 23) (v := some (.int q7)) (S' := S) mX10_isItem 10 [.int x5] dX10_checksHoists_23 kX10_146 fX10_isItem iX10_isItem ⟨by decide, by decide⟩ rfl rfl rfl (Nat.le_of_ble_eq_true rfl) (og e8) (mc1 := 0) (ms1 := 0) (mc2 := mc) (ms2 := ms) (by omega) (by omega) (C_X10_isItem S l0 x5 q7 e8 (qR_mk _ _)) ?_
      change gW _ _ _ _ (.int q7 :: _) _ _ _ _ _
      refine r_if_eq (pc := 26) 33 dX10_checksHoists_26 (by decide) (fun hc => ?_) (fun hc => ?_)
      · rw [if_pos hc] at hf
        refine r_iconst (pc := 33) (0 : Int32) dX10_checksHoists_33 (by decide) ?_
        refine r_istore_n (pc := 34) dX10_checksHoists_34 (by decide) ?_
        change gW _ _ _ [some (.ref l0), some (.int (0 : Int32)), some (.int l2)] _ _ _ _ _ _
        refine r_iinc (pc := 35) dX10_checksHoists_35 rfl (by decide) ?_
        change gW _ _ _ [some (.ref l0), some (.int (0 : Int32)), some (.int (l2 + (1 : Int32)))] _ _ _ _ _ _
        refine r_goto (pc := 38) 4 dX10_checksHoists_38 (by decide) ?_
        cases hf
        exact gW.weak (by simp [gle]) hk
      · rw [if_neg hc] at hf
        refine r_iconst (pc := 29) (1 : Int32) dX10_checksHoists_29 (by decide) ?_
        refine r_goto (pc := 30) 34 dX10_checksHoists_30 (by decide) ?_
        refine r_istore_n (pc := 34) dX10_checksHoists_34 (by decide) ?_
        change gW _ _ _ [some (.ref l0), some (.int (1 : Int32)), some (.int l2)] _ _ _ _ _ _
        refine r_iinc (pc := 35) dX10_checksHoists_35 rfl (by decide) ?_
        change gW _ _ _ [some (.ref l0), some (.int (1 : Int32)), some (.int (l2 + (1 : Int32)))] _ _ _ _ _ _
        refine r_goto (pc := 38) 4 dX10_checksHoists_38 (by decide) ?_
        cases hf
        exact gW.weak (by simp [gle]) hk
def F_X10_checksHoists_54 (S : pS) (t0 : Nat) (t1 : Int32) : Option (pS) := (oPI S t0 10 8 t1).bind fun S11 => some S11
set_option maxRecDepth 100000 in
set_option maxHeartbeats 4000000 in
theorem W_X10_checksHoists_54 {X : pX} {Q : pO → Nat → pF → Prop} (S : pS) (t0 : Nat) (t1 : Int32) (r : pS) (hf : F_X10_checksHoists_54 S t0 t1 = some r) (hk : Q (.inl none) r.1 r.2) : gW X mX10_checksHoists 54 [none, none, none] [.int t1, .ref t0] S.1 S.2 Q 0 0 := by
  unfold F_X10_checksHoists_54 at hf
  replace hf := obind hf
  obtain ⟨S11, e12, hf⟩ := hf
  refine q_putI (pc := 54) dX10_checksHoists_54 pX10_154 rfl e12 ?_
  refine r_return (pc := 57) dX10_checksHoists_57 rfl ?_
  cases hf
  exact hk
def F_X10_checksHoists (S : pS) (a0 : Nat) : Option (pS) := (oF S a0 10).bind fun _ => (iter (F_X10_checksHoists_4 a0 S) fu ((1 : Int32), (0 : Int32))).bind fun r9 => if r9 = 0 then (F_X10_checksHoists_54 S a0 (0 : Int32)) else ((oGI S a0 10 8).bind fun x13 => F_X10_checksHoists_54 S a0 x13)
set_option maxRecDepth 100000 in
set_option maxHeartbeats 4000000 in
theorem C_X10_checksHoists {X : pX} {Q : pO → Nat → pF → Prop} (S : pS) (a0 : Nat) (r : pS) (hf : F_X10_checksHoists S a0 = some r) (hk : Q (.inl none) r.1 r.2) : gC X mX10_checksHoists [.ref a0] S.1 S.2 Q 0 0 := by
  refine gC_of (by decide) (Nat.le_of_ble_eq_true rfl) rfl ?_
  change gW _ _ _ [some (.ref a0), none, none] _ _ _ _ _ _
  unfold F_X10_checksHoists at hf
  obtain ⟨_, _, hf⟩ := obind hf
  refine r_iconst (pc := 0) (1 : Int32) dX10_checksHoists_0 (by decide) ?_
  refine r_istore_n (pc := 1) dX10_checksHoists_1 (by decide) ?_
  change gW _ _ _ [some (.ref a0), some (.int (1 : Int32)), none] _ _ _ _ _ _
  refine r_iconst (pc := 2) (0 : Int32) dX10_checksHoists_2 (by decide) ?_
  refine r_istore_n (pc := 3) dX10_checksHoists_3 (by decide) ?_
  change gW _ _ _ [some (.ref a0), some (.int (1 : Int32)), some (.int (0 : Int32))] _ _ _ _ _ _
  replace hf := obind hf
  obtain ⟨r9, e10, hf⟩ := hf
  refine gW.weak (ls' := [some (.ref a0), some (.int (1 : Int32)), some (.int (0 : Int32))]) (by simp [gle]) ?_
  refine g_iter (L := L_X10_checksHoists_4 a0 S) (s := s_X10_checksHoists_4 a0 S) (K := K_X10_checksHoists_4 X Q _ _ a0 S) (W_X10_checksHoists_4 a0 S) fu ((1 : Int32), (0 : Int32)) _ e10 ?_
  show gW _ _ 41 [some (.ref a0), some (.int r9), none] [] S.1 S.2 _ _ _
  refine r_aload_n (pc := 41) dX10_checksHoists_41 rfl ?_
  refine r_iload_n (pc := 42) dX10_checksHoists_42 rfl ?_
  refine r_if_eq (pc := 43) 53 dX10_checksHoists_43 (by decide) (fun hc => ?_) (fun hc => ?_)
  · rw [if_pos hc] at hf
    refine r_iconst (pc := 53) (0 : Int32) dX10_checksHoists_53 (by decide) ?_
    refine gW.mono (mc := 0) (ms := 0) ?_ (fun _ _ _ q => q) (by decide) (by decide)
    exact gW.weak (by simp [gle]) (W_X10_checksHoists_54 S a0 (0 : Int32) r hf hk)
  · rw [if_neg hc] at hf
    refine r_aload_n (pc := 46) dX10_checksHoists_46 rfl ?_
    replace hf := obind hf
    obtain ⟨x13, e14, hf⟩ := hf
    refine q_getI (pc := 47) dX10_checksHoists_47 gX10_154 e14 ?_
    refine r_goto (pc := 50) 54 dX10_checksHoists_50 (by decide) ?_
    refine gW.mono (mc := 0) (ms := 0) ?_ (fun _ _ _ q => q) (by decide) (by decide)
    exact gW.weak (by simp [gle]) (W_X10_checksHoists_54 S a0 x13 r hf hk)
abbrev L_X10_keeps_55 (l0 : Nat) : Int32 × pS → List (Option Value) := fun a => [some (.ref l0), some (.int a.1)]
abbrev s_X10_keeps_55 (l0 : Nat) : Int32 × pS → pS := fun a => a.2
abbrev K_X10_keeps_55 (X : pX) (Q : pO → Nat → pF → Prop) (mc ms : Nat) (l0 : Nat) : pS → Prop := (fun b => gW X mX10_keeps 91 [some (.ref l0), none] [] b.1 b.2 Q mc ms)
def F_X10_keeps_55 (l0 : Nat) : Int32 × pS → Option ((Int32 × pS) ⊕ (pS)) := fun a => if (1709 : Int32) ≤ a.1 then (some (.inr a.2)) else ((oGA a.2 l0 10 4).bind fun x7 => (oGI a.2 l0 10 5).bind fun x9 => (oGA a.2 l0 10 3).bind fun x11 => (oAI a.2 x11 .int a.1).bind fun x13 => (oSI a.2 x7 .int (((1709 : Int32) * (x9 - (1 : Int32))) + a.1) x13).bind fun S15 => some (.inl (a.1 + (1 : Int32), S15)))
set_option maxRecDepth 100000 in
set_option maxHeartbeats 4000000 in
theorem W_X10_keeps_55 {X : pX} {Q : pO → Nat → pF → Prop} {mc ms : Nat} (l0 : Nat) : ∀ (a : Int32 × pS) (r : (Int32 × pS) ⊕ (pS)), F_X10_keeps_55 l0 a = some r → Sum.elim (fun a' => gW X mX10_keeps 55 (L_X10_keeps_55 l0 a') [] (s_X10_keeps_55 l0 a').1 (s_X10_keeps_55 l0 a').2 Q mc ms) (K_X10_keeps_55 X Q mc ms l0) r → gW X mX10_keeps 55 (L_X10_keeps_55 l0 a) [] (s_X10_keeps_55 l0 a).1 (s_X10_keeps_55 l0 a).2 Q mc ms := by
  intro a r hf hk
  obtain ⟨l1, S⟩ := a
  unfold F_X10_keeps_55 at hf
  try dsimp only at hf
  change gW _ _ _ [some (.ref l0), some (.int l1)] _ S.1 S.2 _ _ _
  refine r_iload_n (pc := 55) dX10_keeps_55 rfl ?_
  refine r_sipush (pc := 56) (1709 : Int32) dX10_keeps_56 (by decide) ?_
  refine r_icmp_ge (pc := 59) 91 dX10_keeps_59 (by decide) (fun hc => ?_) (fun hc => ?_)
  · rw [if_pos hc] at hf
    cases hf
    exact gW.weak (by simp [gle]) hk
  · rw [if_neg hc] at hf
    refine r_aload_n (pc := 62) dX10_keeps_62 rfl ?_
    replace hf := obind hf
    obtain ⟨x7, e8, hf⟩ := hf
    refine q_getA (pc := 63) dX10_keeps_63 gX10_19 e8 ?_
    refine r_sipush (pc := 66) (1709 : Int32) dX10_keeps_66 (by decide) ?_
    refine r_aload_n (pc := 69) dX10_keeps_69 rfl ?_
    replace hf := obind hf
    obtain ⟨x9, e10, hf⟩ := hf
    refine q_getI (pc := 70) dX10_keeps_70 gX10_157 e10 ?_
    refine r_iconst (pc := 73) (1 : Int32) dX10_keeps_73 (by decide) ?_
    refine r_isub (pc := 74) dX10_keeps_74 ?_
    refine r_imul (pc := 75) dX10_keeps_75 ?_
    refine r_iload_n (pc := 76) dX10_keeps_76 rfl ?_
    refine r_iadd (pc := 77) dX10_keeps_77 ?_
    refine r_aload_n (pc := 78) dX10_keeps_78 rfl ?_
    replace hf := obind hf
    obtain ⟨x11, e12, hf⟩ := hf
    refine q_getA (pc := 79) dX10_keeps_79 gX10_16 e12 ?_
    refine r_iload_n (pc := 82) dX10_keeps_82 rfl ?_
    replace hf := obind hf
    obtain ⟨x13, e14, hf⟩ := hf
    refine q_iald (pc := 83) dX10_keeps_83 e14 ?_
    replace hf := obind hf
    obtain ⟨S15, e16, hf⟩ := hf
    refine q_iast (pc := 84) dX10_keeps_84 e16 ?_
    refine r_iinc (pc := 85) dX10_keeps_85 rfl (by decide) ?_
    change gW _ _ _ [some (.ref l0), some (.int (l1 + (1 : Int32)))] _ _ _ _ _ _
    refine r_goto (pc := 88) 55 dX10_keeps_88 (by decide) ?_
    cases hf
    exact gW.weak (by simp [gle]) hk
def F_X10_keeps_53 (S : pS) (l0 : Nat) : Option (pS) := (iter (F_X10_keeps_55 l0) fu ((0 : Int32), S)).bind fun r17 => (F_X10_checksHoists r17 l0).bind fun q19 => some q19
set_option maxRecDepth 100000 in
set_option maxHeartbeats 4000000 in
theorem W_X10_keeps_53 {X : pX} {Q : pO → Nat → pF → Prop} (S : pS) (l0 : Nat) (r : pS) (hf : F_X10_keeps_53 S l0 = some r) (hk : Q (.inl none) r.1 r.2) : gW X mX10_keeps 53 [some (.ref l0), none] [] S.1 S.2 Q 0 0 := by
  unfold F_X10_keeps_53 at hf
  refine r_iconst (pc := 53) (0 : Int32) dX10_keeps_53 (by decide) ?_
  refine r_istore_n (pc := 54) dX10_keeps_54 (by decide) ?_
  change gW _ _ _ [some (.ref l0), some (.int (0 : Int32))] _ _ _ _ _ _
  replace hf := obind hf
  obtain ⟨r17, e18, hf⟩ := hf
  refine gW.weak (ls' := [some (.ref l0), some (.int (0 : Int32))]) (by simp [gle]) ?_
  refine g_iter (L := L_X10_keeps_55 l0) (s := s_X10_keeps_55 l0) (K := K_X10_keeps_55 X Q _ _ l0) (W_X10_keeps_55 l0) fu ((0 : Int32), S) _ e18 ?_
  show gW _ _ 91 [some (.ref l0), none] [] r17.1 r17.2 _ _ _
  refine r_aload_n (pc := 91) dX10_keeps_91 rfl ?_
  replace hf := obind hf
  obtain ⟨q19, e20, hf⟩ := hf
  refine q_callV (pc := 92) (v := none) (S' := q19) mX10_checksHoists 10 [] dX10_keeps_92 kX10_160 fX10_checksHoists iX10_checksHoists ⟨by decide, by decide⟩ rfl rfl rfl (Nat.le_of_ble_eq_true rfl) (og e20) (mc1 := 0) (ms1 := 0) (mc2 := 0) (ms2 := 0) (by decide) (by decide) (C_X10_checksHoists r17 l0 q19 e20 (qR_mk _ _)) ?_
  refine r_return (pc := 95) dX10_keeps_95 rfl ?_
  cases hf
  exact hk
abbrev L_X10_keeps_11 (l0 : Nat) : Int32 × pS → List (Option Value) := fun a => [some (.ref l0), some (.int a.1)]
abbrev s_X10_keeps_11 (l0 : Nat) : Int32 × pS → pS := fun a => a.2
abbrev K_X10_keeps_11 (X : pX) (Q : pO → Nat → pF → Prop) (mc ms : Nat) (l0 : Nat) : pS → Prop := (fun b => gW X mX10_keeps 40 [some (.ref l0), none] [] b.1 b.2 Q mc ms)
def F_X10_keeps_11 (l0 : Nat) : Int32 × pS → Option ((Int32 × pS) ⊕ (pS)) := fun a => if (11963 : Int32) ≤ a.1 then (some (.inr a.2)) else ((oGA a.2 l0 10 4).bind fun x21 => (oGA a.2 l0 10 4).bind fun x23 => (oAI a.2 x23 .int (a.1 + (1709 : Int32))).bind fun x25 => (oSI a.2 x21 .int a.1 x25).bind fun S27 => some (.inl (a.1 + (1 : Int32), S27)))
set_option maxRecDepth 100000 in
set_option maxHeartbeats 4000000 in
theorem W_X10_keeps_11 {X : pX} {Q : pO → Nat → pF → Prop} {mc ms : Nat} (l0 : Nat) : ∀ (a : Int32 × pS) (r : (Int32 × pS) ⊕ (pS)), F_X10_keeps_11 l0 a = some r → Sum.elim (fun a' => gW X mX10_keeps 11 (L_X10_keeps_11 l0 a') [] (s_X10_keeps_11 l0 a').1 (s_X10_keeps_11 l0 a').2 Q mc ms) (K_X10_keeps_11 X Q mc ms l0) r → gW X mX10_keeps 11 (L_X10_keeps_11 l0 a) [] (s_X10_keeps_11 l0 a).1 (s_X10_keeps_11 l0 a).2 Q mc ms := by
  intro a r hf hk
  obtain ⟨l1, S⟩ := a
  unfold F_X10_keeps_11 at hf
  try dsimp only at hf
  change gW _ _ _ [some (.ref l0), some (.int l1)] _ S.1 S.2 _ _ _
  refine r_iload_n (pc := 11) dX10_keeps_11 rfl ?_
  refine r_sipush (pc := 12) (11963 : Int32) dX10_keeps_12 (by decide) ?_
  refine r_icmp_ge (pc := 15) 40 dX10_keeps_15 (by decide) (fun hc => ?_) (fun hc => ?_)
  · rw [if_pos hc] at hf
    cases hf
    exact gW.weak (by simp [gle]) hk
  · rw [if_neg hc] at hf
    refine r_aload_n (pc := 18) dX10_keeps_18 rfl ?_
    replace hf := obind hf
    obtain ⟨x21, e22, hf⟩ := hf
    refine q_getA (pc := 19) dX10_keeps_19 gX10_19 e22 ?_
    refine r_iload_n (pc := 22) dX10_keeps_22 rfl ?_
    refine r_aload_n (pc := 23) dX10_keeps_23 rfl ?_
    replace hf := obind hf
    obtain ⟨x23, e24, hf⟩ := hf
    refine q_getA (pc := 24) dX10_keeps_24 gX10_19 e24 ?_
    refine r_iload_n (pc := 27) dX10_keeps_27 rfl ?_
    refine r_sipush (pc := 28) (1709 : Int32) dX10_keeps_28 (by decide) ?_
    refine r_iadd (pc := 31) dX10_keeps_31 ?_
    replace hf := obind hf
    obtain ⟨x25, e26, hf⟩ := hf
    refine q_iald (pc := 32) dX10_keeps_32 e26 ?_
    replace hf := obind hf
    obtain ⟨S27, e28, hf⟩ := hf
    refine q_iast (pc := 33) dX10_keeps_33 e28 ?_
    refine r_iinc (pc := 34) dX10_keeps_34 rfl (by decide) ?_
    change gW _ _ _ [some (.ref l0), some (.int (l1 + (1 : Int32)))] _ _ _ _ _ _
    refine r_goto (pc := 37) 11 dX10_keeps_37 (by decide) ?_
    cases hf
    exact gW.weak (by simp [gle]) hk
def F_X10_keeps (S : pS) (a0 : Nat) : Option (pS) := (oF S a0 10).bind fun _ => (oGI S a0 10 5).bind fun x1 => if ¬ x1 = (8 : Int32) then ((oGI S a0 10 5).bind fun x3 => (oPI S a0 10 5 (x3 + (1 : Int32))).bind fun S5 => F_X10_keeps_53 S5 a0) else ((iter (F_X10_keeps_11 a0) fu ((0 : Int32), S)).bind fun r29 => F_X10_keeps_53 r29 a0)
set_option maxRecDepth 100000 in
set_option maxHeartbeats 4000000 in
theorem C_X10_keeps {X : pX} {Q : pO → Nat → pF → Prop} (S : pS) (a0 : Nat) (r : pS) (hf : F_X10_keeps S a0 = some r) (hk : Q (.inl none) r.1 r.2) : gC X mX10_keeps [.ref a0] S.1 S.2 Q 0 0 := by
  refine gC_of (by decide) (Nat.le_of_ble_eq_true rfl) rfl ?_
  change gW _ _ _ [some (.ref a0), none] _ _ _ _ _ _
  unfold F_X10_keeps at hf
  obtain ⟨_, _, hf⟩ := obind hf
  refine r_aload_n (pc := 0) dX10_keeps_0 rfl ?_
  replace hf := obind hf
  obtain ⟨x1, e2, hf⟩ := hf
  refine q_getI (pc := 1) dX10_keeps_1 gX10_157 e2 ?_
  refine r_bipush (pc := 4) (8 : Int32) dX10_keeps_4 (by decide) ?_
  refine r_icmp_ne (pc := 6) 43 dX10_keeps_6 (by decide) (fun hc => ?_) (fun hc => ?_)
  · rw [if_pos hc] at hf
    refine r_aload_n (pc := 43) dX10_keeps_43 rfl ?_
    refine r_dup (pc := 44) dX10_keeps_44 rfl ?_
    replace hf := obind hf
    obtain ⟨x3, e4, hf⟩ := hf
    refine q_getI (pc := 45) dX10_keeps_45 gX10_157 e4 ?_
    refine r_iconst (pc := 48) (1 : Int32) dX10_keeps_48 (by decide) ?_
    refine r_iadd (pc := 49) dX10_keeps_49 ?_
    replace hf := obind hf
    obtain ⟨S5, e6, hf⟩ := hf
    refine q_putI (pc := 50) dX10_keeps_50 pX10_157 rfl e6 ?_
    refine gW.mono (mc := 0) (ms := 0) ?_ (fun _ _ _ q => q) (by decide) (by decide)
    exact gW.weak (by simp [gle]) (W_X10_keeps_53 S5 a0 r hf hk)
  · rw [if_neg hc] at hf
    refine r_iconst (pc := 9) (0 : Int32) dX10_keeps_9 (by decide) ?_
    refine r_istore_n (pc := 10) dX10_keeps_10 (by decide) ?_
    change gW _ _ _ [some (.ref a0), some (.int (0 : Int32))] _ _ _ _ _ _
    replace hf := obind hf
    obtain ⟨r29, e30, hf⟩ := hf
    refine gW.weak (ls' := [some (.ref a0), some (.int (0 : Int32))]) (by simp [gle]) ?_
    refine g_iter (L := L_X10_keeps_11 a0) (s := s_X10_keeps_11 a0) (K := K_X10_keeps_11 X Q _ _ a0) (W_X10_keeps_11 a0) fu ((0 : Int32), S) _ e30 ?_
    show gW _ _ 40 [some (.ref a0), none] [] r29.1 r29.2 _ _ _
    refine r_goto (pc := 40) 53 dX10_keeps_40 (by decide) ?_
    refine gW.mono (mc := 0) (ms := 0) ?_ (fun _ _ _ q => q) (by decide) (by decide)
    exact gW.weak (by simp [gle]) (W_X10_keeps_53 r29 a0 r hf hk)
