abbrev L_X10_orders_7 (l0 : Nat) : Int32 × pS → List (Option Value) := fun a => [some (.ref l0), some (.int a.1), none, none, none]
abbrev s_X10_orders_7 (l0 : Nat) : Int32 × pS → pS := fun a => a.2
abbrev K_X10_orders_7 (X : pX) (Q : pO → Nat → pF → Prop) (mc ms : Nat) (l0 : Nat) : pS → Prop := (fun b => gW X mX10_orders 26 [some (.ref l0), none, none, none, none] [] b.1 b.2 Q mc ms)
def F_X10_orders_7 (l0 : Nat) : Int32 × pS → Option ((Int32 × pS) ⊕ (pS)) := fun a => if (61 : Int32) ≤ a.1 then (some (.inr a.2)) else ((oGA a.2 l0 10 15).bind fun x3 => (oSI a.2 x3 .int a.1 (0 : Int32)).bind fun S5 => some (.inl (a.1 + (1 : Int32), S5)))
set_option maxRecDepth 100000 in
set_option maxHeartbeats 4000000 in
theorem W_X10_orders_7 {X : pX} {Q : pO → Nat → pF → Prop} {mc ms : Nat} (l0 : Nat) : ∀ (a : Int32 × pS) (r : (Int32 × pS) ⊕ (pS)), F_X10_orders_7 l0 a = some r → Sum.elim (fun a' => gW X mX10_orders 7 (L_X10_orders_7 l0 a') [] (s_X10_orders_7 l0 a').1 (s_X10_orders_7 l0 a').2 Q mc ms) (K_X10_orders_7 X Q mc ms l0) r → gW X mX10_orders 7 (L_X10_orders_7 l0 a) [] (s_X10_orders_7 l0 a).1 (s_X10_orders_7 l0 a).2 Q mc ms := by
  intro a r hf hk
  obtain ⟨l1, S⟩ := a
  unfold F_X10_orders_7 at hf
  try dsimp only at hf
  change gW _ _ _ [some (.ref l0), some (.int l1), none, none, none] _ S.1 S.2 _ _ _
  refine r_iload_n (pc := 7) dX10_orders_7 rfl ?_
  refine r_bipush (pc := 8) (61 : Int32) dX10_orders_8 (by decide) ?_
  refine r_icmp_ge (pc := 10) 26 dX10_orders_10 (by decide) (fun hc => ?_) (fun hc => ?_)
  · rw [if_pos hc] at hf
    cases hf
    exact gW.weak (by simp [gle]) hk
  · rw [if_neg hc] at hf
    refine r_aload_n (pc := 13) dX10_orders_13 rfl ?_
    replace hf := obind hf
    obtain ⟨x3, e4, hf⟩ := hf
    refine q_getA (pc := 14) dX10_orders_14 gX10_38 e4 ?_
    refine r_iload_n (pc := 17) dX10_orders_17 rfl ?_
    refine r_iconst (pc := 18) (0 : Int32) dX10_orders_18 (by decide) ?_
    replace hf := obind hf
    obtain ⟨S5, e6, hf⟩ := hf
    refine q_iast (pc := 19) dX10_orders_19 e6 ?_
    refine r_iinc (pc := 20) dX10_orders_20 rfl (by decide) ?_
    change gW _ _ _ [some (.ref l0), some (.int (l1 + (1 : Int32))), none, none, none] _ _ _ _ _ _
    refine r_goto (pc := 23) 7 dX10_orders_23 (by decide) ?_
    cases hf
    exact gW.weak (by simp [gle]) hk
abbrev L_X10_orders_28 (l0 : Nat) : Int32 × pS → List (Option Value) := fun a => [some (.ref l0), some (.int a.1), none, none, none]
abbrev s_X10_orders_28 (l0 : Nat) : Int32 × pS → pS := fun a => a.2
abbrev K_X10_orders_28 (X : pX) (Q : pO → Nat → pF → Prop) (mc ms : Nat) (l0 : Nat) : pS → Prop := (fun b => gW X mX10_orders 89 [some (.ref l0), none, none, none, none] [] b.1 b.2 Q mc ms)
abbrev L_X10_orders_36 (l0 : Nat) (l1 : Int32) : Int32 × pS → List (Option Value) := fun a => [some (.ref l0), some (.int l1), some (.int a.1), none, none]
abbrev s_X10_orders_36 (l0 : Nat) (l1 : Int32) : Int32 × pS → pS := fun a => a.2
abbrev K_X10_orders_36 (X : pX) (Q : pO → Nat → pF → Prop) (mc ms : Nat) (l0 : Nat) (l1 : Int32) : pS → Prop := (fun b => gW X mX10_orders 83 [some (.ref l0), some (.int l1), none, none, none] [] b.1 b.2 Q mc ms)
def F_X10_orders_36 (l0 : Nat) (l1 : Int32) : Int32 × pS → Option ((Int32 × pS) ⊕ (pS)) := fun a => (oGA a.2 l0 10 1).bind fun x9 => (oAI a.2 x9 .int ((916 : Int32) + l1)).bind fun x11 => if x11 ≤ a.1 then (some (.inr a.2)) else ((oGA a.2 l0 10 1).bind fun x13 => (oAI a.2 x13 .int ((1 : Int32) + l1)).bind fun x15 => if ¬ x15 = (1 : Int32) then (some (.inr a.2)) else ((oGA a.2 l0 10 15).bind fun x17 => (F_X10_child a.2 l0 l1 a.1).bind fun q19 => (oAI a.2 x17 .int q19).bind fun x21 => (oSI a.2 x17 .int q19 (x21 + (1 : Int32))).bind fun S23 => some (.inl (a.1 + (1 : Int32), S23))))
set_option maxRecDepth 100000 in
set_option maxHeartbeats 4000000 in
theorem W_X10_orders_36 {X : pX} {Q : pO → Nat → pF → Prop} {mc ms : Nat} (l0 : Nat) (l1 : Int32) : ∀ (a : Int32 × pS) (r : (Int32 × pS) ⊕ (pS)), F_X10_orders_36 l0 l1 a = some r → Sum.elim (fun a' => gW X mX10_orders 36 (L_X10_orders_36 l0 l1 a') [] (s_X10_orders_36 l0 l1 a').1 (s_X10_orders_36 l0 l1 a').2 Q mc ms) (K_X10_orders_36 X Q mc ms l0 l1) r → gW X mX10_orders 36 (L_X10_orders_36 l0 l1 a) [] (s_X10_orders_36 l0 l1 a).1 (s_X10_orders_36 l0 l1 a).2 Q mc ms := by
  intro a r hf hk
  obtain ⟨l2, S⟩ := a
  unfold F_X10_orders_36 at hf
  try dsimp only at hf
  change gW _ _ _ [some (.ref l0), some (.int l1), some (.int l2), none, none] _ S.1 S.2 _ _ _
  refine r_iload_n (pc := 36) dX10_orders_36 rfl ?_
  refine r_aload_n (pc := 37) dX10_orders_37 rfl ?_
  replace hf := obind hf
  obtain ⟨x9, e10, hf⟩ := hf
  refine q_getA (pc := 38) dX10_orders_38 gX10_7 e10 ?_
  refine r_sipush (pc := 41) (916 : Int32) dX10_orders_41 (by decide) ?_
  refine r_iload_n (pc := 44) dX10_orders_44 rfl ?_
  refine r_iadd (pc := 45) dX10_orders_45 ?_
  replace hf := obind hf
  obtain ⟨x11, e12, hf⟩ := hf
  refine q_iald (pc := 46) dX10_orders_46 e12 ?_
  refine r_icmp_ge (pc := 47) 83 dX10_orders_47 (by decide) (fun hc => ?_) (fun hc => ?_)
  · rw [if_pos hc] at hf
    cases hf
    exact gW.weak (by simp [gle]) hk
  · rw [if_neg hc] at hf
    refine r_aload_n (pc := 50) dX10_orders_50 rfl ?_
    replace hf := obind hf
    obtain ⟨x13, e14, hf⟩ := hf
    refine q_getA (pc := 51) dX10_orders_51 gX10_7 e14 ?_
    refine r_iconst (pc := 54) (1 : Int32) dX10_orders_54 (by decide) ?_
    refine r_iload_n (pc := 55) dX10_orders_55 rfl ?_
    refine r_iadd (pc := 56) dX10_orders_56 ?_
    replace hf := obind hf
    obtain ⟨x15, e16, hf⟩ := hf
    refine q_iald (pc := 57) dX10_orders_57 e16 ?_
    refine r_iconst (pc := 58) (1 : Int32) dX10_orders_58 (by decide) ?_
    refine r_icmp_ne (pc := 59) 83 dX10_orders_59 (by decide) (fun hc => ?_) (fun hc => ?_)
    · rw [if_pos hc] at hf
      cases hf
      exact gW.weak (by simp [gle]) hk
    · rw [if_neg hc] at hf
      refine r_aload_n (pc := 62) dX10_orders_62 rfl ?_
      replace hf := obind hf
      obtain ⟨x17, e18, hf⟩ := hf
      refine q_getA (pc := 63) dX10_orders_63 gX10_38 e18 ?_
      refine r_aload_n (pc := 66) dX10_orders_66 rfl ?_
      refine r_iload_n (pc := 67) dX10_orders_67 rfl ?_
      refine r_iload_n (pc := 68) dX10_orders_68 rfl ?_
      replace hf := obind hf
      obtain ⟨q19, e20, hf⟩ := hf
      refine q_callV (pc := 69) (v := some (.int q19)) (S' := S) mX10_child 10 [.int l1, .int l2] dX10_orders_69 kX10_150 fX10_child iX10_child ⟨by decide, by decide⟩ rfl rfl rfl (Nat.le_of_ble_eq_true rfl) (og e20) (mc1 := 0) (ms1 := 0) (mc2 := mc) (ms2 := ms) (by omega) (by omega) (C_X10_child S l0 l1 l2 q19 e20 (qR_mk _ _)) ?_
      change gW _ _ _ _ (.int q19 :: _) _ _ _ _ _
      refine r_dup2 (pc := 72) dX10_orders_72 rfl rfl ?_
      replace hf := obind hf
      obtain ⟨x21, e22, hf⟩ := hf
      refine q_iald (pc := 73) dX10_orders_73 e22 ?_
      refine r_iconst (pc := 74) (1 : Int32) dX10_orders_74 (by decide) ?_
      refine r_iadd (pc := 75) dX10_orders_75 ?_
      replace hf := obind hf
      obtain ⟨S23, e24, hf⟩ := hf
      refine q_iast (pc := 76) dX10_orders_76 e24 ?_
      refine r_iinc (pc := 77) dX10_orders_77 rfl (by decide) ?_
      change gW _ _ _ [some (.ref l0), some (.int l1), some (.int (l2 + (1 : Int32))), none, none] _ _ _ _ _ _
      refine r_goto (pc := 80) 36 dX10_orders_80 (by decide) ?_
      cases hf
      exact gW.weak (by simp [gle]) hk
def F_X10_orders_28 (l0 : Nat) : Int32 × pS → Option ((Int32 × pS) ⊕ (pS)) := fun a => if (61 : Int32) ≤ a.1 then (some (.inr a.2)) else ((iter (F_X10_orders_36 l0 a.1) fu ((0 : Int32), a.2)).bind fun r25 => some (.inl (a.1 + (1 : Int32), r25)))
set_option maxRecDepth 100000 in
set_option maxHeartbeats 4000000 in
theorem W_X10_orders_28 {X : pX} {Q : pO → Nat → pF → Prop} {mc ms : Nat} (l0 : Nat) : ∀ (a : Int32 × pS) (r : (Int32 × pS) ⊕ (pS)), F_X10_orders_28 l0 a = some r → Sum.elim (fun a' => gW X mX10_orders 28 (L_X10_orders_28 l0 a') [] (s_X10_orders_28 l0 a').1 (s_X10_orders_28 l0 a').2 Q mc ms) (K_X10_orders_28 X Q mc ms l0) r → gW X mX10_orders 28 (L_X10_orders_28 l0 a) [] (s_X10_orders_28 l0 a).1 (s_X10_orders_28 l0 a).2 Q mc ms := by
  intro a r hf hk
  obtain ⟨l1, S⟩ := a
  unfold F_X10_orders_28 at hf
  try dsimp only at hf
  change gW _ _ _ [some (.ref l0), some (.int l1), none, none, none] _ S.1 S.2 _ _ _
  refine r_iload_n (pc := 28) dX10_orders_28 rfl ?_
  refine r_bipush (pc := 29) (61 : Int32) dX10_orders_29 (by decide) ?_
  refine r_icmp_ge (pc := 31) 89 dX10_orders_31 (by decide) (fun hc => ?_) (fun hc => ?_)
  · rw [if_pos hc] at hf
    cases hf
    exact gW.weak (by simp [gle]) hk
  · rw [if_neg hc] at hf
    refine r_iconst (pc := 34) (0 : Int32) dX10_orders_34 (by decide) ?_
    refine r_istore_n (pc := 35) dX10_orders_35 (by decide) ?_
    change gW _ _ _ [some (.ref l0), some (.int l1), some (.int (0 : Int32)), none, none] _ _ _ _ _ _
    replace hf := obind hf
    obtain ⟨r25, e26, hf⟩ := hf
    refine gW.weak (ls' := [some (.ref l0), some (.int l1), some (.int (0 : Int32)), none, none]) (by simp [gle]) ?_
    refine g_iter (L := L_X10_orders_36 l0 l1) (s := s_X10_orders_36 l0 l1) (K := K_X10_orders_36 X Q _ _ l0 l1) (W_X10_orders_36 l0 l1) fu ((0 : Int32), S) _ e26 ?_
    show gW _ _ 83 [some (.ref l0), some (.int l1), none, none, none] [] r25.1 r25.2 _ _ _
    refine r_iinc (pc := 83) dX10_orders_83 rfl (by decide) ?_
    change gW _ _ _ [some (.ref l0), some (.int (l1 + (1 : Int32))), none, none, none] _ _ _ _ _ _
    refine r_goto (pc := 86) 28 dX10_orders_86 (by decide) ?_
    cases hf
    exact gW.weak (by simp [gle]) hk
abbrev L_X10_orders_91 (l0 : Nat) : Int32 × pS → List (Option Value) := fun a => [some (.ref l0), some (.int a.1), none, none, none]
abbrev s_X10_orders_91 (l0 : Nat) : Int32 × pS → pS := fun a => a.2
abbrev K_X10_orders_91 (X : pX) (Q : pO → Nat → pF → Prop) (mc ms : Nat) (l0 : Nat) : pS → Prop := (fun b => gW X mX10_orders 144 [some (.ref l0), none, none, none, none] [] b.1 b.2 Q mc ms)
def F_X10_orders_91 (l0 : Nat) : Int32 × pS → Option ((Int32 × pS) ⊕ (pS)) := fun a => if (61 : Int32) ≤ a.1 then (some (.inr a.2)) else ((oGA a.2 l0 10 1).bind fun x29 => (oAI a.2 x29 .int ((1 : Int32) + a.1)).bind fun x31 => if ¬ x31 = (1 : Int32) then (some (.inl (a.1 + (1 : Int32), a.2))) else ((oGA a.2 l0 10 15).bind fun x33 => (oAI a.2 x33 .int a.1).bind fun x35 => if ¬ x35 = 0 then (some (.inl (a.1 + (1 : Int32), a.2))) else ((oGA a.2 l0 10 14).bind fun x37 => (oGI a.2 l0 10 20).bind fun x39 => (oSI a.2 x37 .int x39 a.1).bind fun S41 => (oGI S41 l0 10 20).bind fun x43 => (oPI S41 l0 10 20 (x43 + (1 : Int32))).bind fun S45 => some (.inl (a.1 + (1 : Int32), S45)))))
set_option maxRecDepth 100000 in
set_option maxHeartbeats 4000000 in
theorem W_X10_orders_91 {X : pX} {Q : pO → Nat → pF → Prop} {mc ms : Nat} (l0 : Nat) : ∀ (a : Int32 × pS) (r : (Int32 × pS) ⊕ (pS)), F_X10_orders_91 l0 a = some r → Sum.elim (fun a' => gW X mX10_orders 91 (L_X10_orders_91 l0 a') [] (s_X10_orders_91 l0 a').1 (s_X10_orders_91 l0 a').2 Q mc ms) (K_X10_orders_91 X Q mc ms l0) r → gW X mX10_orders 91 (L_X10_orders_91 l0 a) [] (s_X10_orders_91 l0 a).1 (s_X10_orders_91 l0 a).2 Q mc ms := by
  intro a r hf hk
  obtain ⟨l1, S⟩ := a
  unfold F_X10_orders_91 at hf
  try dsimp only at hf
  change gW _ _ _ [some (.ref l0), some (.int l1), none, none, none] _ S.1 S.2 _ _ _
  refine r_iload_n (pc := 91) dX10_orders_91 rfl ?_
  refine r_bipush (pc := 92) (61 : Int32) dX10_orders_92 (by decide) ?_
  refine r_icmp_ge (pc := 94) 144 dX10_orders_94 (by decide) (fun hc => ?_) (fun hc => ?_)
  · rw [if_pos hc] at hf
    cases hf
    exact gW.weak (by simp [gle]) hk
  · rw [if_neg hc] at hf
    refine r_aload_n (pc := 97) dX10_orders_97 rfl ?_
    replace hf := obind hf
    obtain ⟨x29, e30, hf⟩ := hf
    refine q_getA (pc := 98) dX10_orders_98 gX10_7 e30 ?_
    refine r_iconst (pc := 101) (1 : Int32) dX10_orders_101 (by decide) ?_
    refine r_iload_n (pc := 102) dX10_orders_102 rfl ?_
    refine r_iadd (pc := 103) dX10_orders_103 ?_
    replace hf := obind hf
    obtain ⟨x31, e32, hf⟩ := hf
    refine q_iald (pc := 104) dX10_orders_104 e32 ?_
    refine r_iconst (pc := 105) (1 : Int32) dX10_orders_105 (by decide) ?_
    refine r_icmp_ne (pc := 106) 138 dX10_orders_106 (by decide) (fun hc => ?_) (fun hc => ?_)
    · rw [if_pos hc] at hf
      refine r_iinc (pc := 138) dX10_orders_138 rfl (by decide) ?_
      change gW _ _ _ [some (.ref l0), some (.int (l1 + (1 : Int32))), none, none, none] _ _ _ _ _ _
      refine r_goto (pc := 141) 91 dX10_orders_141 (by decide) ?_
      cases hf
      exact gW.weak (by simp [gle]) hk
    · rw [if_neg hc] at hf
      refine r_aload_n (pc := 109) dX10_orders_109 rfl ?_
      replace hf := obind hf
      obtain ⟨x33, e34, hf⟩ := hf
      refine q_getA (pc := 110) dX10_orders_110 gX10_38 e34 ?_
      refine r_iload_n (pc := 113) dX10_orders_113 rfl ?_
      replace hf := obind hf
      obtain ⟨x35, e36, hf⟩ := hf
      refine q_iald (pc := 114) dX10_orders_114 e36 ?_
      refine r_if_ne (pc := 115) 138 dX10_orders_115 (by decide) (fun hc => ?_) (fun hc => ?_)
      · rw [if_pos hc] at hf
        refine r_iinc (pc := 138) dX10_orders_138 rfl (by decide) ?_
        change gW _ _ _ [some (.ref l0), some (.int (l1 + (1 : Int32))), none, none, none] _ _ _ _ _ _
        refine r_goto (pc := 141) 91 dX10_orders_141 (by decide) ?_
        cases hf
        exact gW.weak (by simp [gle]) hk
      · rw [if_neg hc] at hf
        refine r_aload_n (pc := 118) dX10_orders_118 rfl ?_
        replace hf := obind hf
        obtain ⟨x37, e38, hf⟩ := hf
        refine q_getA (pc := 119) dX10_orders_119 gX10_35 e38 ?_
        refine r_aload_n (pc := 122) dX10_orders_122 rfl ?_
        replace hf := obind hf
        obtain ⟨x39, e40, hf⟩ := hf
        refine q_getI (pc := 123) dX10_orders_123 gX10_163 e40 ?_
        refine r_iload_n (pc := 126) dX10_orders_126 rfl ?_
        replace hf := obind hf
        obtain ⟨S41, e42, hf⟩ := hf
        refine q_iast (pc := 127) dX10_orders_127 e42 ?_
        refine r_aload_n (pc := 128) dX10_orders_128 rfl ?_
        refine r_dup (pc := 129) dX10_orders_129 rfl ?_
        replace hf := obind hf
        obtain ⟨x43, e44, hf⟩ := hf
        refine q_getI (pc := 130) dX10_orders_130 gX10_163 e44 ?_
        refine r_iconst (pc := 133) (1 : Int32) dX10_orders_133 (by decide) ?_
        refine r_iadd (pc := 134) dX10_orders_134 ?_
        replace hf := obind hf
        obtain ⟨S45, e46, hf⟩ := hf
        refine q_putI (pc := 135) dX10_orders_135 pX10_163 rfl e46 ?_
        refine r_iinc (pc := 138) dX10_orders_138 rfl (by decide) ?_
        change gW _ _ _ [some (.ref l0), some (.int (l1 + (1 : Int32))), none, none, none] _ _ _ _ _ _
        refine r_goto (pc := 141) 91 dX10_orders_141 (by decide) ?_
        cases hf
        exact gW.weak (by simp [gle]) hk
abbrev L_X10_orders_146 (l0 : Nat) : Int32 × pS → List (Option Value) := fun a => [some (.ref l0), some (.int a.1), none, none, none]
abbrev s_X10_orders_146 (l0 : Nat) : Int32 × pS → pS := fun a => a.2
abbrev K_X10_orders_146 (X : pX) (Q : pO → Nat → pF → Prop) (mc ms : Nat) (l0 : Nat) : pS → Prop := (fun b => gW X mX10_orders 239 [some (.ref l0), none, none, none, none] [] b.1 b.2 Q mc ms)
abbrev L_X10_orders_163 (l0 : Nat) (l1 : Int32) (l2 : Int32) : Int32 × pS → List (Option Value) := fun a => [some (.ref l0), some (.int l1), some (.int l2), some (.int a.1), none]
abbrev s_X10_orders_163 (l0 : Nat) (l1 : Int32) (l2 : Int32) : Int32 × pS → pS := fun a => a.2
abbrev K_X10_orders_163 (X : pX) (Q : pO → Nat → pF → Prop) (mc ms : Nat) (l0 : Nat) (l1 : Int32) (l2 : Int32) : pS → Prop := (fun b => gW X mX10_orders 233 [some (.ref l0), some (.int l1), some (.int l2), none, none] [] b.1 b.2 Q mc ms)
def F_X10_orders_163 (l0 : Nat) (l1 : Int32) (l2 : Int32) : Int32 × pS → Option ((Int32 × pS) ⊕ (pS)) := fun a => (oGA a.2 l0 10 1).bind fun x55 => (oAI a.2 x55 .int ((916 : Int32) + l2)).bind fun x57 => if x57 ≤ a.1 then (some (.inr a.2)) else ((F_X10_child a.2 l0 l2 a.1).bind fun q59 => (oGA a.2 l0 10 15).bind fun x61 => (oAI a.2 x61 .int q59).bind fun x63 => (oSI a.2 x61 .int q59 (x63 - (1 : Int32))).bind fun S65 => (oGA S65 l0 10 15).bind fun x67 => (oAI S65 x67 .int q59).bind fun x69 => if ¬ x69 = 0 then (some (.inl (a.1 + (1 : Int32), S65))) else ((oGA S65 l0 10 14).bind fun x71 => (oGI S65 l0 10 20).bind fun x73 => (oSI S65 x71 .int x73 q59).bind fun S75 => (oGI S75 l0 10 20).bind fun x77 => (oPI S75 l0 10 20 (x77 + (1 : Int32))).bind fun S79 => some (.inl (a.1 + (1 : Int32), S79))))
set_option maxRecDepth 100000 in
set_option maxHeartbeats 4000000 in
theorem W_X10_orders_163 {X : pX} {Q : pO → Nat → pF → Prop} {mc ms : Nat} (l0 : Nat) (l1 : Int32) (l2 : Int32) : ∀ (a : Int32 × pS) (r : (Int32 × pS) ⊕ (pS)), F_X10_orders_163 l0 l1 l2 a = some r → Sum.elim (fun a' => gW X mX10_orders 163 (L_X10_orders_163 l0 l1 l2 a') [] (s_X10_orders_163 l0 l1 l2 a').1 (s_X10_orders_163 l0 l1 l2 a').2 Q mc ms) (K_X10_orders_163 X Q mc ms l0 l1 l2) r → gW X mX10_orders 163 (L_X10_orders_163 l0 l1 l2 a) [] (s_X10_orders_163 l0 l1 l2 a).1 (s_X10_orders_163 l0 l1 l2 a).2 Q mc ms := by
  intro a r hf hk
  obtain ⟨l3, S⟩ := a
  unfold F_X10_orders_163 at hf
  try dsimp only at hf
  change gW _ _ _ [some (.ref l0), some (.int l1), some (.int l2), some (.int l3), none] _ S.1 S.2 _ _ _
  refine r_iload_n (pc := 163) dX10_orders_163 rfl ?_
  refine r_aload_n (pc := 164) dX10_orders_164 rfl ?_
  replace hf := obind hf
  obtain ⟨x55, e56, hf⟩ := hf
  refine q_getA (pc := 165) dX10_orders_165 gX10_7 e56 ?_
  refine r_sipush (pc := 168) (916 : Int32) dX10_orders_168 (by decide) ?_
  refine r_iload_n (pc := 171) dX10_orders_171 rfl ?_
  refine r_iadd (pc := 172) dX10_orders_172 ?_
  replace hf := obind hf
  obtain ⟨x57, e58, hf⟩ := hf
  refine q_iald (pc := 173) dX10_orders_173 e58 ?_
  refine r_icmp_ge (pc := 174) 233 dX10_orders_174 (by decide) (fun hc => ?_) (fun hc => ?_)
  · rw [if_pos hc] at hf
    cases hf
    exact gW.weak (by simp [gle]) hk
  · rw [if_neg hc] at hf
    refine r_aload_n (pc := 177) dX10_orders_177 rfl ?_
    refine r_iload_n (pc := 178) dX10_orders_178 rfl ?_
    refine r_iload_n (pc := 179) dX10_orders_179 rfl ?_
    replace hf := obind hf
    obtain ⟨q59, e60, hf⟩ := hf
    refine q_callV (pc := 180) (v := some (.int q59)) (S' := S) mX10_child 10 [.int l2, .int l3] dX10_orders_180 kX10_150 fX10_child iX10_child ⟨by decide, by decide⟩ rfl rfl rfl (Nat.le_of_ble_eq_true rfl) (og e60) (mc1 := 0) (ms1 := 0) (mc2 := mc) (ms2 := ms) (by omega) (by omega) (C_X10_child S l0 l2 l3 q59 e60 (qR_mk _ _)) ?_
    change gW _ _ _ _ (.int q59 :: _) _ _ _ _ _
    refine r_istore (pc := 183) dX10_orders_183 (by decide) ?_
    change gW _ _ _ [some (.ref l0), some (.int l1), some (.int l2), some (.int l3), some (.int q59)] _ _ _ _ _ _
    refine r_aload_n (pc := 185) dX10_orders_185 rfl ?_
    replace hf := obind hf
    obtain ⟨x61, e62, hf⟩ := hf
    refine q_getA (pc := 186) dX10_orders_186 gX10_38 e62 ?_
    refine r_iload (pc := 189) dX10_orders_189 rfl ?_
    refine r_dup2 (pc := 191) dX10_orders_191 rfl rfl ?_
    replace hf := obind hf
    obtain ⟨x63, e64, hf⟩ := hf
    refine q_iald (pc := 192) dX10_orders_192 e64 ?_
    refine r_iconst (pc := 193) (1 : Int32) dX10_orders_193 (by decide) ?_
    refine r_isub (pc := 194) dX10_orders_194 ?_
    replace hf := obind hf
    obtain ⟨S65, e66, hf⟩ := hf
    refine q_iast (pc := 195) dX10_orders_195 e66 ?_
    refine r_aload_n (pc := 196) dX10_orders_196 rfl ?_
    replace hf := obind hf
    obtain ⟨x67, e68, hf⟩ := hf
    refine q_getA (pc := 197) dX10_orders_197 gX10_38 e68 ?_
    refine r_iload (pc := 200) dX10_orders_200 rfl ?_
    replace hf := obind hf
    obtain ⟨x69, e70, hf⟩ := hf
    refine q_iald (pc := 202) dX10_orders_202 e70 ?_
    refine r_if_ne (pc := 203) 227 dX10_orders_203 (by decide) (fun hc => ?_) (fun hc => ?_)
    · rw [if_pos hc] at hf
      refine r_iinc (pc := 227) dX10_orders_227 rfl (by decide) ?_
      change gW _ _ _ [some (.ref l0), some (.int l1), some (.int l2), some (.int (l3 + (1 : Int32))), some (.int q59)] _ _ _ _ _ _
      refine r_goto (pc := 230) 163 dX10_orders_230 (by decide) ?_
      cases hf
      exact gW.weak (by simp [gle]) hk
    · rw [if_neg hc] at hf
      refine r_aload_n (pc := 206) dX10_orders_206 rfl ?_
      replace hf := obind hf
      obtain ⟨x71, e72, hf⟩ := hf
      refine q_getA (pc := 207) dX10_orders_207 gX10_35 e72 ?_
      refine r_aload_n (pc := 210) dX10_orders_210 rfl ?_
      replace hf := obind hf
      obtain ⟨x73, e74, hf⟩ := hf
      refine q_getI (pc := 211) dX10_orders_211 gX10_163 e74 ?_
      refine r_iload (pc := 214) dX10_orders_214 rfl ?_
      replace hf := obind hf
      obtain ⟨S75, e76, hf⟩ := hf
      refine q_iast (pc := 216) dX10_orders_216 e76 ?_
      refine r_aload_n (pc := 217) dX10_orders_217 rfl ?_
      refine r_dup (pc := 218) dX10_orders_218 rfl ?_
      replace hf := obind hf
      obtain ⟨x77, e78, hf⟩ := hf
      refine q_getI (pc := 219) dX10_orders_219 gX10_163 e78 ?_
      refine r_iconst (pc := 222) (1 : Int32) dX10_orders_222 (by decide) ?_
      refine r_iadd (pc := 223) dX10_orders_223 ?_
      replace hf := obind hf
      obtain ⟨S79, e80, hf⟩ := hf
      refine q_putI (pc := 224) dX10_orders_224 pX10_163 rfl e80 ?_
      refine r_iinc (pc := 227) dX10_orders_227 rfl (by decide) ?_
      change gW _ _ _ [some (.ref l0), some (.int l1), some (.int l2), some (.int (l3 + (1 : Int32))), some (.int q59)] _ _ _ _ _ _
      refine r_goto (pc := 230) 163 dX10_orders_230 (by decide) ?_
      cases hf
      exact gW.weak (by simp [gle]) hk
def F_X10_orders_146 (l0 : Nat) : Int32 × pS → Option ((Int32 × pS) ⊕ (pS)) := fun a => (oGI a.2 l0 10 20).bind fun x49 => if x49 ≤ a.1 then (some (.inr a.2)) else ((oGA a.2 l0 10 14).bind fun x51 => (oAI a.2 x51 .int a.1).bind fun x53 => (iter (F_X10_orders_163 l0 a.1 x53) fu ((0 : Int32), a.2)).bind fun r81 => some (.inl (a.1 + (1 : Int32), r81)))
set_option maxRecDepth 100000 in
set_option maxHeartbeats 4000000 in
theorem W_X10_orders_146 {X : pX} {Q : pO → Nat → pF → Prop} {mc ms : Nat} (l0 : Nat) : ∀ (a : Int32 × pS) (r : (Int32 × pS) ⊕ (pS)), F_X10_orders_146 l0 a = some r → Sum.elim (fun a' => gW X mX10_orders 146 (L_X10_orders_146 l0 a') [] (s_X10_orders_146 l0 a').1 (s_X10_orders_146 l0 a').2 Q mc ms) (K_X10_orders_146 X Q mc ms l0) r → gW X mX10_orders 146 (L_X10_orders_146 l0 a) [] (s_X10_orders_146 l0 a).1 (s_X10_orders_146 l0 a).2 Q mc ms := by
  intro a r hf hk
  obtain ⟨l1, S⟩ := a
  unfold F_X10_orders_146 at hf
  try dsimp only at hf
  change gW _ _ _ [some (.ref l0), some (.int l1), none, none, none] _ S.1 S.2 _ _ _
  refine r_iload_n (pc := 146) dX10_orders_146 rfl ?_
  refine r_aload_n (pc := 147) dX10_orders_147 rfl ?_
  replace hf := obind hf
  obtain ⟨x49, e50, hf⟩ := hf
  refine q_getI (pc := 148) dX10_orders_148 gX10_163 e50 ?_
  refine r_icmp_ge (pc := 151) 239 dX10_orders_151 (by decide) (fun hc => ?_) (fun hc => ?_)
  · rw [if_pos hc] at hf
    cases hf
    exact gW.weak (by simp [gle]) hk
  · rw [if_neg hc] at hf
    refine r_aload_n (pc := 154) dX10_orders_154 rfl ?_
    replace hf := obind hf
    obtain ⟨x51, e52, hf⟩ := hf
    refine q_getA (pc := 155) dX10_orders_155 gX10_35 e52 ?_
    refine r_iload_n (pc := 158) dX10_orders_158 rfl ?_
    replace hf := obind hf
    obtain ⟨x53, e54, hf⟩ := hf
    refine q_iald (pc := 159) dX10_orders_159 e54 ?_
    refine r_istore_n (pc := 160) dX10_orders_160 (by decide) ?_
    change gW _ _ _ [some (.ref l0), some (.int l1), some (.int x53), none, none] _ _ _ _ _ _
    refine r_iconst (pc := 161) (0 : Int32) dX10_orders_161 (by decide) ?_
    refine r_istore_n (pc := 162) dX10_orders_162 (by decide) ?_
    change gW _ _ _ [some (.ref l0), some (.int l1), some (.int x53), some (.int (0 : Int32)), none] _ _ _ _ _ _
    replace hf := obind hf
    obtain ⟨r81, e82, hf⟩ := hf
    refine gW.weak (ls' := [some (.ref l0), some (.int l1), some (.int x53), some (.int (0 : Int32)), none]) (by simp [gle]) ?_
    refine g_iter (L := L_X10_orders_163 l0 l1 x53) (s := s_X10_orders_163 l0 l1 x53) (K := K_X10_orders_163 X Q _ _ l0 l1 x53) (W_X10_orders_163 l0 l1 x53) fu ((0 : Int32), S) _ e82 ?_
    show gW _ _ 233 [some (.ref l0), some (.int l1), some (.int x53), none, none] [] r81.1 r81.2 _ _ _
    refine r_iinc (pc := 233) dX10_orders_233 rfl (by decide) ?_
    change gW _ _ _ [some (.ref l0), some (.int (l1 + (1 : Int32))), some (.int x53), none, none] _ _ _ _ _ _
    refine r_goto (pc := 236) 146 dX10_orders_236 (by decide) ?_
    cases hf
    exact gW.weak (by simp [gle]) hk
def F_X10_orders (S : pS) (a0 : Nat) : Option (pS) := (oF S a0 10).bind fun _ => (oPI S a0 10 20 (0 : Int32)).bind fun S1 => (iter (F_X10_orders_7 a0) fu ((0 : Int32), S1)).bind fun r7 => (iter (F_X10_orders_28 a0) fu ((0 : Int32), r7)).bind fun r27 => (iter (F_X10_orders_91 a0) fu ((0 : Int32), r27)).bind fun r47 => (iter (F_X10_orders_146 a0) fu ((0 : Int32), r47)).bind fun r83 => some r83
set_option maxRecDepth 100000 in
set_option maxHeartbeats 4000000 in
theorem C_X10_orders {X : pX} {Q : pO → Nat → pF → Prop} (S : pS) (a0 : Nat) (r : pS) (hf : F_X10_orders S a0 = some r) (hk : Q (.inl none) r.1 r.2) : gC X mX10_orders [.ref a0] S.1 S.2 Q 0 0 := by
  refine gC_of (by decide) (Nat.le_of_ble_eq_true rfl) rfl ?_
  change gW _ _ _ [some (.ref a0), none, none, none, none] _ _ _ _ _ _
  unfold F_X10_orders at hf
  obtain ⟨_, _, hf⟩ := obind hf
  refine r_aload_n (pc := 0) dX10_orders_0 rfl ?_
  refine r_iconst (pc := 1) (0 : Int32) dX10_orders_1 (by decide) ?_
  replace hf := obind hf
  obtain ⟨S1, e2, hf⟩ := hf
  refine q_putI (pc := 2) dX10_orders_2 pX10_163 rfl e2 ?_
  refine r_iconst (pc := 5) (0 : Int32) dX10_orders_5 (by decide) ?_
  refine r_istore_n (pc := 6) dX10_orders_6 (by decide) ?_
  change gW _ _ _ [some (.ref a0), some (.int (0 : Int32)), none, none, none] _ _ _ _ _ _
  replace hf := obind hf
  obtain ⟨r7, e8, hf⟩ := hf
  refine gW.weak (ls' := [some (.ref a0), some (.int (0 : Int32)), none, none, none]) (by simp [gle]) ?_
  refine g_iter (L := L_X10_orders_7 a0) (s := s_X10_orders_7 a0) (K := K_X10_orders_7 X Q _ _ a0) (W_X10_orders_7 a0) fu ((0 : Int32), S1) _ e8 ?_
  show gW _ _ 26 [some (.ref a0), none, none, none, none] [] r7.1 r7.2 _ _ _
  refine r_iconst (pc := 26) (0 : Int32) dX10_orders_26 (by decide) ?_
  refine r_istore_n (pc := 27) dX10_orders_27 (by decide) ?_
  change gW _ _ _ [some (.ref a0), some (.int (0 : Int32)), none, none, none] _ _ _ _ _ _
  replace hf := obind hf
  obtain ⟨r27, e28, hf⟩ := hf
  refine gW.weak (ls' := [some (.ref a0), some (.int (0 : Int32)), none, none, none]) (by simp [gle]) ?_
  refine g_iter (L := L_X10_orders_28 a0) (s := s_X10_orders_28 a0) (K := K_X10_orders_28 X Q _ _ a0) (W_X10_orders_28 a0) fu ((0 : Int32), r7) _ e28 ?_
  show gW _ _ 89 [some (.ref a0), none, none, none, none] [] r27.1 r27.2 _ _ _
  refine r_iconst (pc := 89) (0 : Int32) dX10_orders_89 (by decide) ?_
  refine r_istore_n (pc := 90) dX10_orders_90 (by decide) ?_
  change gW _ _ _ [some (.ref a0), some (.int (0 : Int32)), none, none, none] _ _ _ _ _ _
  replace hf := obind hf
  obtain ⟨r47, e48, hf⟩ := hf
  refine gW.weak (ls' := [some (.ref a0), some (.int (0 : Int32)), none, none, none]) (by simp [gle]) ?_
  refine g_iter (L := L_X10_orders_91 a0) (s := s_X10_orders_91 a0) (K := K_X10_orders_91 X Q _ _ a0) (W_X10_orders_91 a0) fu ((0 : Int32), r27) _ e48 ?_
  show gW _ _ 144 [some (.ref a0), none, none, none, none] [] r47.1 r47.2 _ _ _
  refine r_iconst (pc := 144) (0 : Int32) dX10_orders_144 (by decide) ?_
  refine r_istore_n (pc := 145) dX10_orders_145 (by decide) ?_
  change gW _ _ _ [some (.ref a0), some (.int (0 : Int32)), none, none, none] _ _ _ _ _ _
  replace hf := obind hf
  obtain ⟨r83, e84, hf⟩ := hf
  refine gW.weak (ls' := [some (.ref a0), some (.int (0 : Int32)), none, none, none]) (by simp [gle]) ?_
  refine g_iter (L := L_X10_orders_146 a0) (s := s_X10_orders_146 a0) (K := K_X10_orders_146 X Q _ _ a0) (W_X10_orders_146 a0) fu ((0 : Int32), r47) _ e84 ?_
  show gW _ _ 239 [some (.ref a0), none, none, none, none] [] r83.1 r83.2 _ _ _
  refine r_return (pc := 239) dX10_orders_239 rfl ?_
  cases hf
  exact hk
abbrev L_X10_knows_6 (l0 : Nat) : Int32 × pS → List (Option Value) := fun a => [some (.ref l0), some (.int a.1), none, none, none]
abbrev s_X10_knows_6 (l0 : Nat) : Int32 × pS → pS := fun a => a.2
abbrev K_X10_knows_6 (X : pX) (Q : pO → Nat → pF → Prop) (mc ms : Nat) (l0 : Nat) : pS → Prop := (fun b => gW X mX10_knows 54 [some (.ref l0), none, none, none, none] [] b.1 b.2 Q mc ms)
def F_X10_knows_26 (l0 : Nat) (S : pS) (l1 : Int32) (t0 : Nat) (t1 : Int32) (t2 : Int32) : Option ((Int32 × pS) ⊕ (pS)) := (oSI S t0 .int t1 t2).bind fun S5 => (oGA S5 l0 10 17).bind fun x7 => (oSI S5 x7 .int l1 (0 : Int32)).bind fun S9 => (oGA S9 l0 10 18).bind fun x11 => (oSI S9 x11 .int l1 (0 : Int32)).bind fun S13 => (oGA S13 l0 10 19).bind fun x15 => (oSJ S13 x15 .long l1 (0 : Int64)).bind fun S17 => some (.inl (l1 + (1 : Int32), S17))
set_option maxRecDepth 100000 in
set_option maxHeartbeats 4000000 in
theorem W_X10_knows_26 {X : pX} {Q : pO → Nat → pF → Prop} {mc ms : Nat} (l0 : Nat) (S : pS) (l1 : Int32) (t0 : Nat) (t1 : Int32) (t2 : Int32) (r : (Int32 × pS) ⊕ (pS)) (hf : F_X10_knows_26 l0 S l1 t0 t1 t2 = some r) (hk : Sum.elim (fun a' => gW X mX10_knows 6 (L_X10_knows_6 l0 a') [] (s_X10_knows_6 l0 a').1 (s_X10_knows_6 l0 a').2 Q mc ms) (K_X10_knows_6 X Q mc ms l0) r) : gW X mX10_knows 26 [some (.ref l0), some (.int l1), none, none, none] [.int t2, .int t1, .ref t0] S.1 S.2 Q mc ms := by
  unfold F_X10_knows_26 at hf
  replace hf := obind hf
  obtain ⟨S5, e6, hf⟩ := hf
  refine q_iast (pc := 26) dX10_knows_26 e6 ?_
  refine r_aload_n (pc := 27) dX10_knows_27 rfl ?_
  replace hf := obind hf
  obtain ⟨x7, e8, hf⟩ := hf
  refine q_getA (pc := 28) dX10_knows_28 gX10_44 e8 ?_
  refine r_iload_n (pc := 31) dX10_knows_31 rfl ?_
  refine r_iconst (pc := 32) (0 : Int32) dX10_knows_32 (by decide) ?_
  replace hf := obind hf
  obtain ⟨S9, e10, hf⟩ := hf
  refine q_iast (pc := 33) dX10_knows_33 e10 ?_
  refine r_aload_n (pc := 34) dX10_knows_34 rfl ?_
  replace hf := obind hf
  obtain ⟨x11, e12, hf⟩ := hf
  refine q_getA (pc := 35) dX10_knows_35 gX10_47 e12 ?_
  refine r_iload_n (pc := 38) dX10_knows_38 rfl ?_
  refine r_iconst (pc := 39) (0 : Int32) dX10_knows_39 (by decide) ?_
  replace hf := obind hf
  obtain ⟨S13, e14, hf⟩ := hf
  refine q_iast (pc := 40) dX10_knows_40 e14 ?_
  refine r_aload_n (pc := 41) dX10_knows_41 rfl ?_
  replace hf := obind hf
  obtain ⟨x15, e16, hf⟩ := hf
  refine q_getA (pc := 42) dX10_knows_42 gX10_50 e16 ?_
  refine r_iload_n (pc := 45) dX10_knows_45 rfl ?_
  refine r_lconst (pc := 46) (0 : Int64) dX10_knows_46 (by decide) ?_
  replace hf := obind hf
  obtain ⟨S17, e18, hf⟩ := hf
  refine q_last (pc := 47) dX10_knows_47 e18 ?_
  refine r_iinc (pc := 48) dX10_knows_48 rfl (by decide) ?_
  change gW _ _ _ [some (.ref l0), some (.int (l1 + (1 : Int32))), none, none, none] _ _ _ _ _ _
  refine r_goto (pc := 51) 6 dX10_knows_51 (by decide) ?_
  cases hf
  exact gW.weak (by simp [gle]) hk
def F_X10_knows_6 (l0 : Nat) : Int32 × pS → Option ((Int32 × pS) ⊕ (pS)) := fun a => if (61 : Int32) ≤ a.1 then (some (.inr a.2)) else ((oGA a.2 l0 10 16).bind fun x3 => if ¬ a.1 = 0 then (F_X10_knows_26 l0 a.2 a.1 x3 a.1 (0 : Int32)) else (F_X10_knows_26 l0 a.2 a.1 x3 a.1 (1 : Int32)))
set_option maxRecDepth 100000 in
set_option maxHeartbeats 4000000 in
theorem W_X10_knows_6 {X : pX} {Q : pO → Nat → pF → Prop} {mc ms : Nat} (l0 : Nat) : ∀ (a : Int32 × pS) (r : (Int32 × pS) ⊕ (pS)), F_X10_knows_6 l0 a = some r → Sum.elim (fun a' => gW X mX10_knows 6 (L_X10_knows_6 l0 a') [] (s_X10_knows_6 l0 a').1 (s_X10_knows_6 l0 a').2 Q mc ms) (K_X10_knows_6 X Q mc ms l0) r → gW X mX10_knows 6 (L_X10_knows_6 l0 a) [] (s_X10_knows_6 l0 a).1 (s_X10_knows_6 l0 a).2 Q mc ms := by
  intro a r hf hk
  obtain ⟨l1, S⟩ := a
  unfold F_X10_knows_6 at hf
  try dsimp only at hf
  change gW _ _ _ [some (.ref l0), some (.int l1), none, none, none] _ S.1 S.2 _ _ _
  refine r_iload_n (pc := 6) dX10_knows_6 rfl ?_
  refine r_bipush (pc := 7) (61 : Int32) dX10_knows_7 (by decide) ?_
  refine r_icmp_ge (pc := 9) 54 dX10_knows_9 (by decide) (fun hc => ?_) (fun hc => ?_)
  · rw [if_pos hc] at hf
    cases hf
    exact gW.weak (by simp [gle]) hk
  · rw [if_neg hc] at hf
    refine r_aload_n (pc := 12) dX10_knows_12 rfl ?_
    replace hf := obind hf
    obtain ⟨x3, e4, hf⟩ := hf
    refine q_getA (pc := 13) dX10_knows_13 gX10_41 e4 ?_
    refine r_iload_n (pc := 16) dX10_knows_16 rfl ?_
    refine r_iload_n (pc := 17) dX10_knows_17 rfl ?_
    refine r_if_ne (pc := 18) 25 dX10_knows_18 (by decide) (fun hc => ?_) (fun hc => ?_)
    · rw [if_pos hc] at hf
      refine r_iconst (pc := 25) (0 : Int32) dX10_knows_25 (by decide) ?_
      exact gW.weak (by simp [gle]) (W_X10_knows_26 l0 S l1 x3 l1 (0 : Int32) r hf hk)
    · rw [if_neg hc] at hf
      refine r_iconst (pc := 21) (1 : Int32) dX10_knows_21 (by decide) ?_
      refine r_goto (pc := 22) 26 dX10_knows_22 (by decide) ?_
      exact gW.weak (by simp [gle]) (W_X10_knows_26 l0 S l1 x3 l1 (1 : Int32) r hf hk)
abbrev L_X10_knows_56 (l0 : Nat) : Int32 × pS → List (Option Value) := fun a => [some (.ref l0), some (.int a.1), none, none, none]
abbrev s_X10_knows_56 (l0 : Nat) : Int32 × pS → pS := fun a => a.2
abbrev K_X10_knows_56 (X : pX) (Q : pO → Nat → pF → Prop) (mc ms : Nat) (l0 : Nat) : pS → Prop := (fun b => gW X mX10_knows 175 [some (.ref l0), none, none, none, none] [] b.1 b.2 Q mc ms)
abbrev L_X10_knows_73 (l0 : Nat) (l1 : Int32) (l2 : Int32) : Int32 × pS → List (Option Value) := fun a => [some (.ref l0), some (.int l1), some (.int l2), some (.int a.1), none]
abbrev s_X10_knows_73 (l0 : Nat) (l1 : Int32) (l2 : Int32) : Int32 × pS → pS := fun a => a.2
abbrev K_X10_knows_73 (X : pX) (Q : pO → Nat → pF → Prop) (mc ms : Nat) (l0 : Nat) (l1 : Int32) (l2 : Int32) : pS → Prop := (fun b => gW X mX10_knows 169 [some (.ref l0), some (.int l1), some (.int l2), none, none] [] b.1 b.2 Q mc ms)
def F_X10_knows_162 (l0 : Nat) (l1 : Int32) (l2 : Int32) (S : pS) (l3 : Int32) (t0 : Nat) (t1 : Int32) (t2 : Int32) : Option ((Int32 × pS) ⊕ (pS)) := (oSI S t0 .int t1 t2).bind fun S53 => some (.inl (l3 + (1 : Int32), S53))
set_option maxRecDepth 100000 in
set_option maxHeartbeats 4000000 in
theorem W_X10_knows_162 {X : pX} {Q : pO → Nat → pF → Prop} {mc ms : Nat} (l0 : Nat) (l1 : Int32) (l2 : Int32) (S : pS) (l3 : Int32) (t0 : Nat) (t1 : Int32) (t2 : Int32) (r : (Int32 × pS) ⊕ (pS)) (hf : F_X10_knows_162 l0 l1 l2 S l3 t0 t1 t2 = some r) (hk : Sum.elim (fun a' => gW X mX10_knows 73 (L_X10_knows_73 l0 l1 l2 a') [] (s_X10_knows_73 l0 l1 l2 a').1 (s_X10_knows_73 l0 l1 l2 a').2 Q mc ms) (K_X10_knows_73 X Q mc ms l0 l1 l2) r) : gW X mX10_knows 162 [some (.ref l0), some (.int l1), some (.int l2), some (.int l3), none] [.int t2, .int t1, .ref t0] S.1 S.2 Q mc ms := by
  unfold F_X10_knows_162 at hf
  replace hf := obind hf
  obtain ⟨S53, e54, hf⟩ := hf
  refine q_iast (pc := 162) dX10_knows_162 e54 ?_
  refine r_iinc (pc := 163) dX10_knows_163 rfl (by decide) ?_
  change gW _ _ _ [some (.ref l0), some (.int l1), some (.int l2), some (.int (l3 + (1 : Int32))), none] _ _ _ _ _ _
  refine r_goto (pc := 166) 73 dX10_knows_166 (by decide) ?_
  cases hf
  exact gW.weak (by simp [gle]) hk
def F_X10_knows_155 (l0 : Nat) (l1 : Int32) (l2 : Int32) (S : pS) (l3 : Int32) (l4 : Int32) (t0 : Nat) (t1 : Int32) : Option ((Int32 × pS) ⊕ (pS)) := (oGA S l0 10 18).bind fun x49 => (oAI S x49 .int l4).bind fun x51 => F_X10_knows_162 l0 l1 l2 S l3 t0 t1 x51
set_option maxRecDepth 100000 in
set_option maxHeartbeats 4000000 in
theorem W_X10_knows_155 {X : pX} {Q : pO → Nat → pF → Prop} {mc ms : Nat} (l0 : Nat) (l1 : Int32) (l2 : Int32) (S : pS) (l3 : Int32) (l4 : Int32) (t0 : Nat) (t1 : Int32) (r : (Int32 × pS) ⊕ (pS)) (hf : F_X10_knows_155 l0 l1 l2 S l3 l4 t0 t1 = some r) (hk : Sum.elim (fun a' => gW X mX10_knows 73 (L_X10_knows_73 l0 l1 l2 a') [] (s_X10_knows_73 l0 l1 l2 a').1 (s_X10_knows_73 l0 l1 l2 a').2 Q mc ms) (K_X10_knows_73 X Q mc ms l0 l1 l2) r) : gW X mX10_knows 155 [some (.ref l0), some (.int l1), some (.int l2), some (.int l3), some (.int l4)] [.int t1, .ref t0] S.1 S.2 Q mc ms := by
  unfold F_X10_knows_155 at hf
  refine r_aload_n (pc := 155) dX10_knows_155 rfl ?_
  replace hf := obind hf
  obtain ⟨x49, e50, hf⟩ := hf
  refine q_getA (pc := 156) dX10_knows_156 gX10_47 e50 ?_
  refine r_iload (pc := 159) dX10_knows_159 rfl ?_
  replace hf := obind hf
  obtain ⟨x51, e52, hf⟩ := hf
  refine q_iald (pc := 161) dX10_knows_161 e52 ?_
  exact gW.weak (by simp [gle]) (W_X10_knows_162 l0 l1 l2 S l3 t0 t1 x51 r hf hk)
def F_X10_knows_73 (l0 : Nat) (l1 : Int32) (l2 : Int32) : Int32 × pS → Option ((Int32 × pS) ⊕ (pS)) := fun a => (oGA a.2 l0 10 1).bind fun x27 => (oAI a.2 x27 .int ((916 : Int32) + l2)).bind fun x29 => if x29 ≤ a.1 then (some (.inr a.2)) else ((F_X10_child a.2 l0 l2 a.1).bind fun q31 => (oGA a.2 l0 10 16).bind fun x33 => (oAI a.2 x33 .int q31).bind fun x35 => (oGA a.2 l0 10 16).bind fun x37 => (oAI a.2 x37 .int l2).bind fun x39 => (oSI a.2 x33 .int q31 (x35 + x39)).bind fun S41 => (oGA S41 l0 10 18).bind fun x43 => (oGA S41 l0 10 16).bind fun x45 => (oAI S41 x45 .int l2).bind fun x47 => if x47 ≤ 0 then (F_X10_knows_155 l0 l1 l2 S41 a.1 q31 x43 q31) else ((oGA S41 l0 10 18).bind fun x55 => (oAI S41 x55 .int l2).bind fun x57 => (oGA S41 l0 10 18).bind fun x59 => (oAI S41 x59 .int q31).bind fun x61 => if (x57 + (1 : Int32)) ≤ x61 then (F_X10_knows_155 l0 l1 l2 S41 a.1 q31 x43 q31) else ((oGA S41 l0 10 18).bind fun x63 => (oAI S41 x63 .int l2).bind fun x65 => F_X10_knows_162 l0 l1 l2 S41 a.1 x43 q31 (x65 + (1 : Int32)))))
set_option maxRecDepth 100000 in
set_option maxHeartbeats 4000000 in
theorem W_X10_knows_73 {X : pX} {Q : pO → Nat → pF → Prop} {mc ms : Nat} (l0 : Nat) (l1 : Int32) (l2 : Int32) : ∀ (a : Int32 × pS) (r : (Int32 × pS) ⊕ (pS)), F_X10_knows_73 l0 l1 l2 a = some r → Sum.elim (fun a' => gW X mX10_knows 73 (L_X10_knows_73 l0 l1 l2 a') [] (s_X10_knows_73 l0 l1 l2 a').1 (s_X10_knows_73 l0 l1 l2 a').2 Q mc ms) (K_X10_knows_73 X Q mc ms l0 l1 l2) r → gW X mX10_knows 73 (L_X10_knows_73 l0 l1 l2 a) [] (s_X10_knows_73 l0 l1 l2 a).1 (s_X10_knows_73 l0 l1 l2 a).2 Q mc ms := by
  intro a r hf hk
  obtain ⟨l3, S⟩ := a
  unfold F_X10_knows_73 at hf
  try dsimp only at hf
  change gW _ _ _ [some (.ref l0), some (.int l1), some (.int l2), some (.int l3), none] _ S.1 S.2 _ _ _
  refine r_iload_n (pc := 73) dX10_knows_73 rfl ?_
  refine r_aload_n (pc := 74) dX10_knows_74 rfl ?_
  replace hf := obind hf
  obtain ⟨x27, e28, hf⟩ := hf
  refine q_getA (pc := 75) dX10_knows_75 gX10_7 e28 ?_
  refine r_sipush (pc := 78) (916 : Int32) dX10_knows_78 (by decide) ?_
  refine r_iload_n (pc := 81) dX10_knows_81 rfl ?_
  refine r_iadd (pc := 82) dX10_knows_82 ?_
  replace hf := obind hf
  obtain ⟨x29, e30, hf⟩ := hf
  refine q_iald (pc := 83) dX10_knows_83 e30 ?_
  refine r_icmp_ge (pc := 84) 169 dX10_knows_84 (by decide) (fun hc => ?_) (fun hc => ?_)
  · rw [if_pos hc] at hf
    cases hf
    exact gW.weak (by simp [gle]) hk
  · rw [if_neg hc] at hf
    refine r_aload_n (pc := 87) dX10_knows_87 rfl ?_
    refine r_iload_n (pc := 88) dX10_knows_88 rfl ?_
    refine r_iload_n (pc := 89) dX10_knows_89 rfl ?_
    replace hf := obind hf
    obtain ⟨q31, e32, hf⟩ := hf
    refine q_callV (pc := 90) (v := some (.int q31)) (S' := S) mX10_child 10 [.int l2, .int l3] dX10_knows_90 kX10_150 fX10_child iX10_child ⟨by decide, by decide⟩ rfl rfl rfl (Nat.le_of_ble_eq_true rfl) (og e32) (mc1 := 0) (ms1 := 0) (mc2 := mc) (ms2 := ms) (by omega) (by omega) (C_X10_child S l0 l2 l3 q31 e32 (qR_mk _ _)) ?_
    change gW _ _ _ _ (.int q31 :: _) _ _ _ _ _
    refine r_istore (pc := 93) dX10_knows_93 (by decide) ?_
    change gW _ _ _ [some (.ref l0), some (.int l1), some (.int l2), some (.int l3), some (.int q31)] _ _ _ _ _ _
    refine r_aload_n (pc := 95) dX10_knows_95 rfl ?_
    replace hf := obind hf
    obtain ⟨x33, e34, hf⟩ := hf
    refine q_getA (pc := 96) dX10_knows_96 gX10_41 e34 ?_
    refine r_iload (pc := 99) dX10_knows_99 rfl ?_
    refine r_dup2 (pc := 101) dX10_knows_101 rfl rfl ?_
    replace hf := obind hf
    obtain ⟨x35, e36, hf⟩ := hf
    refine q_iald (pc := 102) dX10_knows_102 e36 ?_
    refine r_aload_n (pc := 103) dX10_knows_103 rfl ?_
    replace hf := obind hf
    obtain ⟨x37, e38, hf⟩ := hf
    refine q_getA (pc := 104) dX10_knows_104 gX10_41 e38 ?_
    refine r_iload_n (pc := 107) dX10_knows_107 rfl ?_
    replace hf := obind hf
    obtain ⟨x39, e40, hf⟩ := hf
    refine q_iald (pc := 108) dX10_knows_108 e40 ?_
    refine r_iadd (pc := 109) dX10_knows_109 ?_
    replace hf := obind hf
    obtain ⟨S41, e42, hf⟩ := hf
    refine q_iast (pc := 110) dX10_knows_110 e42 ?_
    refine r_aload_n (pc := 111) dX10_knows_111 rfl ?_
    replace hf := obind hf
    obtain ⟨x43, e44, hf⟩ := hf
    refine q_getA (pc := 112) dX10_knows_112 gX10_47 e44 ?_
    refine r_iload (pc := 115) dX10_knows_115 rfl ?_
    refine r_aload_n (pc := 117) dX10_knows_117 rfl ?_
    replace hf := obind hf
    obtain ⟨x45, e46, hf⟩ := hf
    refine q_getA (pc := 118) dX10_knows_118 gX10_41 e46 ?_
    refine r_iload_n (pc := 121) dX10_knows_121 rfl ?_
    replace hf := obind hf
    obtain ⟨x47, e48, hf⟩ := hf
    refine q_iald (pc := 122) dX10_knows_122 e48 ?_
    refine r_if_le (pc := 123) 155 dX10_knows_123 (by decide) (fun hc => ?_) (fun hc => ?_)
    · rw [if_pos hc] at hf
      exact gW.weak (by simp [gle]) (W_X10_knows_155 l0 l1 l2 S41 l3 q31 x43 q31 r hf hk)
    · rw [if_neg hc] at hf
      refine r_aload_n (pc := 126) dX10_knows_126 rfl ?_
      replace hf := obind hf
      obtain ⟨x55, e56, hf⟩ := hf
      refine q_getA (pc := 127) dX10_knows_127 gX10_47 e56 ?_
      refine r_iload_n (pc := 130) dX10_knows_130 rfl ?_
      replace hf := obind hf
      obtain ⟨x57, e58, hf⟩ := hf
      refine q_iald (pc := 131) dX10_knows_131 e58 ?_
      refine r_iconst (pc := 132) (1 : Int32) dX10_knows_132 (by decide) ?_
      refine r_iadd (pc := 133) dX10_knows_133 ?_
      refine r_aload_n (pc := 134) dX10_knows_134 rfl ?_
      replace hf := obind hf
      obtain ⟨x59, e60, hf⟩ := hf
      refine q_getA (pc := 135) dX10_knows_135 gX10_47 e60 ?_
      refine r_iload (pc := 138) dX10_knows_138 rfl ?_
      replace hf := obind hf
      obtain ⟨x61, e62, hf⟩ := hf
      refine q_iald (pc := 140) dX10_knows_140 e62 ?_
      refine r_icmp_le (pc := 141) 155 dX10_knows_141 (by decide) (fun hc => ?_) (fun hc => ?_)
      · rw [if_pos hc] at hf
        exact gW.weak (by simp [gle]) (W_X10_knows_155 l0 l1 l2 S41 l3 q31 x43 q31 r hf hk)
      · rw [if_neg hc] at hf
        refine r_aload_n (pc := 144) dX10_knows_144 rfl ?_
        replace hf := obind hf
        obtain ⟨x63, e64, hf⟩ := hf
        refine q_getA (pc := 145) dX10_knows_145 gX10_47 e64 ?_
        refine r_iload_n (pc := 148) dX10_knows_148 rfl ?_
        replace hf := obind hf
        obtain ⟨x65, e66, hf⟩ := hf
        refine q_iald (pc := 149) dX10_knows_149 e66 ?_
        refine r_iconst (pc := 150) (1 : Int32) dX10_knows_150 (by decide) ?_
        refine r_iadd (pc := 151) dX10_knows_151 ?_
        refine r_goto (pc := 152) 162 dX10_knows_152 (by decide) ?_
        exact gW.weak (by simp [gle]) (W_X10_knows_162 l0 l1 l2 S41 l3 x43 q31 (x65 + (1 : Int32)) r hf hk)
def F_X10_knows_56 (l0 : Nat) : Int32 × pS → Option ((Int32 × pS) ⊕ (pS)) := fun a => (oGI a.2 l0 10 20).bind fun x21 => if x21 ≤ a.1 then (some (.inr a.2)) else ((oGA a.2 l0 10 14).bind fun x23 => (oAI a.2 x23 .int a.1).bind fun x25 => (iter (F_X10_knows_73 l0 a.1 x25) fu ((0 : Int32), a.2)).bind fun r67 => some (.inl (a.1 + (1 : Int32), r67)))
set_option maxRecDepth 100000 in
set_option maxHeartbeats 4000000 in
theorem W_X10_knows_56 {X : pX} {Q : pO → Nat → pF → Prop} {mc ms : Nat} (l0 : Nat) : ∀ (a : Int32 × pS) (r : (Int32 × pS) ⊕ (pS)), F_X10_knows_56 l0 a = some r → Sum.elim (fun a' => gW X mX10_knows 56 (L_X10_knows_56 l0 a') [] (s_X10_knows_56 l0 a').1 (s_X10_knows_56 l0 a').2 Q mc ms) (K_X10_knows_56 X Q mc ms l0) r → gW X mX10_knows 56 (L_X10_knows_56 l0 a) [] (s_X10_knows_56 l0 a).1 (s_X10_knows_56 l0 a).2 Q mc ms := by
  intro a r hf hk
  obtain ⟨l1, S⟩ := a
  unfold F_X10_knows_56 at hf
  try dsimp only at hf
  change gW _ _ _ [some (.ref l0), some (.int l1), none, none, none] _ S.1 S.2 _ _ _
  refine r_iload_n (pc := 56) dX10_knows_56 rfl ?_
  refine r_aload_n (pc := 57) dX10_knows_57 rfl ?_
  replace hf := obind hf
  obtain ⟨x21, e22, hf⟩ := hf
  refine q_getI (pc := 58) dX10_knows_58 gX10_163 e22 ?_
  refine r_icmp_ge (pc := 61) 175 dX10_knows_61 (by decide) (fun hc => ?_) (fun hc => ?_)
  · rw [if_pos hc] at hf
    cases hf
    exact gW.weak (by simp [gle]) hk
  · rw [if_neg hc] at hf
    refine r_aload_n (pc := 64) dX10_knows_64 rfl ?_
    replace hf := obind hf
    obtain ⟨x23, e24, hf⟩ := hf
    refine q_getA (pc := 65) dX10_knows_65 gX10_35 e24 ?_
    refine r_iload_n (pc := 68) dX10_knows_68 rfl ?_
    replace hf := obind hf
    obtain ⟨x25, e26, hf⟩ := hf
    refine q_iald (pc := 69) dX10_knows_69 e26 ?_
    refine r_istore_n (pc := 70) dX10_knows_70 (by decide) ?_
    change gW _ _ _ [some (.ref l0), some (.int l1), some (.int x25), none, none] _ _ _ _ _ _
    refine r_iconst (pc := 71) (0 : Int32) dX10_knows_71 (by decide) ?_
    refine r_istore_n (pc := 72) dX10_knows_72 (by decide) ?_
    change gW _ _ _ [some (.ref l0), some (.int l1), some (.int x25), some (.int (0 : Int32)), none] _ _ _ _ _ _
    replace hf := obind hf
    obtain ⟨r67, e68, hf⟩ := hf
    refine gW.weak (ls' := [some (.ref l0), some (.int l1), some (.int x25), some (.int (0 : Int32)), none]) (by simp [gle]) ?_
    refine g_iter (L := L_X10_knows_73 l0 l1 x25) (s := s_X10_knows_73 l0 l1 x25) (K := K_X10_knows_73 X Q _ _ l0 l1 x25) (W_X10_knows_73 l0 l1 x25) fu ((0 : Int32), S) _ e68 ?_
    show gW _ _ 169 [some (.ref l0), some (.int l1), some (.int x25), none, none] [] r67.1 r67.2 _ _ _
    refine r_iinc (pc := 169) dX10_knows_169 rfl (by decide) ?_
    change gW _ _ _ [some (.ref l0), some (.int (l1 + (1 : Int32))), some (.int x25), none, none] _ _ _ _ _ _
    refine r_goto (pc := 172) 56 dX10_knows_172 (by decide) ?_
    cases hf
    exact gW.weak (by simp [gle]) hk
abbrev L_X10_knows_182 (l0 : Nat) : Int32 × pS → List (Option Value) := fun a => [some (.ref l0), some (.int a.1), none, none, none]
abbrev s_X10_knows_182 (l0 : Nat) : Int32 × pS → pS := fun a => a.2
abbrev K_X10_knows_182 (X : pX) (Q : pO → Nat → pF → Prop) (mc ms : Nat) (l0 : Nat) : pS → Prop := (fun b => gW X mX10_knows 268 [some (.ref l0), none, none, none, none] [] b.1 b.2 Q mc ms)
abbrev L_X10_knows_195 (l0 : Nat) (l1 : Int32) (l2 : Int32) : Int32 × pS → List (Option Value) := fun a => [some (.ref l0), some (.int l1), some (.int l2), some (.int a.1), none]
abbrev s_X10_knows_195 (l0 : Nat) (l1 : Int32) (l2 : Int32) : Int32 × pS → pS := fun a => a.2
abbrev K_X10_knows_195 (X : pX) (Q : pO → Nat → pF → Prop) (mc ms : Nat) (l0 : Nat) (l1 : Int32) (l2 : Int32) : pS → Prop := (fun b => gW X mX10_knows 262 [some (.ref l0), some (.int l1), some (.int l2), none, none] [] b.1 b.2 Q mc ms)
def F_X10_knows_195 (l0 : Nat) (l1 : Int32) (l2 : Int32) : Int32 × pS → Option ((Int32 × pS) ⊕ (pS)) := fun a => (oGA a.2 l0 10 1).bind fun x77 => (oAI a.2 x77 .int ((916 : Int32) + l2)).bind fun x79 => if x79 ≤ a.1 then (some (.inr a.2)) else ((F_X10_child a.2 l0 l2 a.1).bind fun q81 => (oGA a.2 l0 10 17).bind fun x83 => (oAI a.2 x83 .int l2).bind fun x85 => (oGA a.2 l0 10 17).bind fun x87 => (oAI a.2 x87 .int q81).bind fun x89 => (oSI a.2 x83 .int l2 (x85 + ((1 : Int32) + x89))).bind fun S91 => (oGA S91 l0 10 19).bind fun x93 => (oAJ S91 x93 .long l2).bind fun x95 => (oGA S91 l0 10 19).bind fun x97 => (oAJ S91 x97 .long q81).bind fun x99 => (oSJ S91 x93 .long l2 (x95 ||| (x99 ||| ((1 : Int64) <<< (q81.toInt64 &&& 63))))).bind fun S101 => some (.inl (a.1 + (1 : Int32), S101)))
set_option maxRecDepth 100000 in
set_option maxHeartbeats 4000000 in
theorem W_X10_knows_195 {X : pX} {Q : pO → Nat → pF → Prop} {mc ms : Nat} (l0 : Nat) (l1 : Int32) (l2 : Int32) : ∀ (a : Int32 × pS) (r : (Int32 × pS) ⊕ (pS)), F_X10_knows_195 l0 l1 l2 a = some r → Sum.elim (fun a' => gW X mX10_knows 195 (L_X10_knows_195 l0 l1 l2 a') [] (s_X10_knows_195 l0 l1 l2 a').1 (s_X10_knows_195 l0 l1 l2 a').2 Q mc ms) (K_X10_knows_195 X Q mc ms l0 l1 l2) r → gW X mX10_knows 195 (L_X10_knows_195 l0 l1 l2 a) [] (s_X10_knows_195 l0 l1 l2 a).1 (s_X10_knows_195 l0 l1 l2 a).2 Q mc ms := by
  intro a r hf hk
  obtain ⟨l3, S⟩ := a
  unfold F_X10_knows_195 at hf
  try dsimp only at hf
  change gW _ _ _ [some (.ref l0), some (.int l1), some (.int l2), some (.int l3), none] _ S.1 S.2 _ _ _
  refine r_iload_n (pc := 195) dX10_knows_195 rfl ?_
  refine r_aload_n (pc := 196) dX10_knows_196 rfl ?_
  replace hf := obind hf
  obtain ⟨x77, e78, hf⟩ := hf
  refine q_getA (pc := 197) dX10_knows_197 gX10_7 e78 ?_
  refine r_sipush (pc := 200) (916 : Int32) dX10_knows_200 (by decide) ?_
  refine r_iload_n (pc := 203) dX10_knows_203 rfl ?_
  refine r_iadd (pc := 204) dX10_knows_204 ?_
  replace hf := obind hf
  obtain ⟨x79, e80, hf⟩ := hf
  refine q_iald (pc := 205) dX10_knows_205 e80 ?_
  refine r_icmp_ge (pc := 206) 262 dX10_knows_206 (by decide) (fun hc => ?_) (fun hc => ?_)
  · rw [if_pos hc] at hf
    cases hf
    exact gW.weak (by simp [gle]) hk
  · rw [if_neg hc] at hf
    refine r_aload_n (pc := 209) dX10_knows_209 rfl ?_
    refine r_iload_n (pc := 210) dX10_knows_210 rfl ?_
    refine r_iload_n (pc := 211) dX10_knows_211 rfl ?_
    replace hf := obind hf
    obtain ⟨q81, e82, hf⟩ := hf
    refine q_callV (pc := 212) (v := some (.int q81)) (S' := S) mX10_child 10 [.int l2, .int l3] dX10_knows_212 kX10_150 fX10_child iX10_child ⟨by decide, by decide⟩ rfl rfl rfl (Nat.le_of_ble_eq_true rfl) (og e82) (mc1 := 0) (ms1 := 0) (mc2 := mc) (ms2 := ms) (by omega) (by omega) (C_X10_child S l0 l2 l3 q81 e82 (qR_mk _ _)) ?_
    change gW _ _ _ _ (.int q81 :: _) _ _ _ _ _
    refine r_istore (pc := 215) dX10_knows_215 (by decide) ?_
    change gW _ _ _ [some (.ref l0), some (.int l1), some (.int l2), some (.int l3), some (.int q81)] _ _ _ _ _ _
    refine r_aload_n (pc := 217) dX10_knows_217 rfl ?_
    replace hf := obind hf
    obtain ⟨x83, e84, hf⟩ := hf
    refine q_getA (pc := 218) dX10_knows_218 gX10_44 e84 ?_
    refine r_iload_n (pc := 221) dX10_knows_221 rfl ?_
    refine r_dup2 (pc := 222) dX10_knows_222 rfl rfl ?_
    replace hf := obind hf
    obtain ⟨x85, e86, hf⟩ := hf
    refine q_iald (pc := 223) dX10_knows_223 e86 ?_
    refine r_iconst (pc := 224) (1 : Int32) dX10_knows_224 (by decide) ?_
    refine r_aload_n (pc := 225) dX10_knows_225 rfl ?_
    replace hf := obind hf
    obtain ⟨x87, e88, hf⟩ := hf
    refine q_getA (pc := 226) dX10_knows_226 gX10_44 e88 ?_
    refine r_iload (pc := 229) dX10_knows_229 rfl ?_
    replace hf := obind hf
    obtain ⟨x89, e90, hf⟩ := hf
    refine q_iald (pc := 231) dX10_knows_231 e90 ?_
    refine r_iadd (pc := 232) dX10_knows_232 ?_
    refine r_iadd (pc := 233) dX10_knows_233 ?_
    replace hf := obind hf
    obtain ⟨S91, e92, hf⟩ := hf
    refine q_iast (pc := 234) dX10_knows_234 e92 ?_
    refine r_aload_n (pc := 235) dX10_knows_235 rfl ?_
    replace hf := obind hf
    obtain ⟨x93, e94, hf⟩ := hf
    refine q_getA (pc := 236) dX10_knows_236 gX10_50 e94 ?_
    refine r_iload_n (pc := 239) dX10_knows_239 rfl ?_
    refine r_dup2 (pc := 240) dX10_knows_240 rfl rfl ?_
    replace hf := obind hf
    obtain ⟨x95, e96, hf⟩ := hf
    refine q_lald (pc := 241) dX10_knows_241 e96 ?_
    refine r_aload_n (pc := 242) dX10_knows_242 rfl ?_
    replace hf := obind hf
    obtain ⟨x97, e98, hf⟩ := hf
    refine q_getA (pc := 243) dX10_knows_243 gX10_50 e98 ?_
    refine r_iload (pc := 246) dX10_knows_246 rfl ?_
    replace hf := obind hf
    obtain ⟨x99, e100, hf⟩ := hf
    refine q_lald (pc := 248) dX10_knows_248 e100 ?_
    refine r_lconst (pc := 249) (1 : Int64) dX10_knows_249 (by decide) ?_
    refine r_iload (pc := 250) dX10_knows_250 rfl ?_
    refine r_lshl (pc := 252) dX10_knows_252 ?_
    refine r_lor (pc := 253) dX10_knows_253 ?_
    refine r_lor (pc := 254) dX10_knows_254 ?_
    replace hf := obind hf
    obtain ⟨S101, e102, hf⟩ := hf
    refine q_last (pc := 255) dX10_knows_255 e102 ?_
    refine r_iinc (pc := 256) dX10_knows_256 rfl (by decide) ?_
    change gW _ _ _ [some (.ref l0), some (.int l1), some (.int l2), some (.int (l3 + (1 : Int32))), some (.int q81)] _ _ _ _ _ _
    refine r_goto (pc := 259) 195 dX10_knows_259 (by decide) ?_
    cases hf
    exact gW.weak (by simp [gle]) hk
def F_X10_knows_182 (l0 : Nat) : Int32 × pS → Option ((Int32 × pS) ⊕ (pS)) := fun a => if a.1 < 0 then (some (.inr a.2)) else ((oGA a.2 l0 10 14).bind fun x73 => (oAI a.2 x73 .int a.1).bind fun x75 => (iter (F_X10_knows_195 l0 a.1 x75) fu ((0 : Int32), a.2)).bind fun r103 => some (.inl (a.1 + (-1 : Int32), r103)))
set_option maxRecDepth 100000 in
set_option maxHeartbeats 4000000 in
theorem W_X10_knows_182 {X : pX} {Q : pO → Nat → pF → Prop} {mc ms : Nat} (l0 : Nat) : ∀ (a : Int32 × pS) (r : (Int32 × pS) ⊕ (pS)), F_X10_knows_182 l0 a = some r → Sum.elim (fun a' => gW X mX10_knows 182 (L_X10_knows_182 l0 a') [] (s_X10_knows_182 l0 a').1 (s_X10_knows_182 l0 a').2 Q mc ms) (K_X10_knows_182 X Q mc ms l0) r → gW X mX10_knows 182 (L_X10_knows_182 l0 a) [] (s_X10_knows_182 l0 a).1 (s_X10_knows_182 l0 a).2 Q mc ms := by
  intro a r hf hk
  obtain ⟨l1, S⟩ := a
  unfold F_X10_knows_182 at hf
  try dsimp only at hf
  change gW _ _ _ [some (.ref l0), some (.int l1), none, none, none] _ S.1 S.2 _ _ _
  refine r_iload_n (pc := 182) dX10_knows_182 rfl ?_
  refine r_if_lt (pc := 183) 268 dX10_knows_183 (by decide) (fun hc => ?_) (fun hc => ?_)
  · rw [if_pos hc] at hf
    cases hf
    exact gW.weak (by simp [gle]) hk
  · rw [if_neg hc] at hf
    refine r_aload_n (pc := 186) dX10_knows_186 rfl ?_
    replace hf := obind hf
    obtain ⟨x73, e74, hf⟩ := hf
    refine q_getA (pc := 187) dX10_knows_187 gX10_35 e74 ?_
    refine r_iload_n (pc := 190) dX10_knows_190 rfl ?_
    replace hf := obind hf
    obtain ⟨x75, e76, hf⟩ := hf
    refine q_iald (pc := 191) dX10_knows_191 e76 ?_
    refine r_istore_n (pc := 192) dX10_knows_192 (by decide) ?_
    change gW _ _ _ [some (.ref l0), some (.int l1), some (.int x75), none, none] _ _ _ _ _ _
    refine r_iconst (pc := 193) (0 : Int32) dX10_knows_193 (by decide) ?_
    refine r_istore_n (pc := 194) dX10_knows_194 (by decide) ?_
    change gW _ _ _ [some (.ref l0), some (.int l1), some (.int x75), some (.int (0 : Int32)), none] _ _ _ _ _ _
    replace hf := obind hf
    obtain ⟨r103, e104, hf⟩ := hf
    refine gW.weak (ls' := [some (.ref l0), some (.int l1), some (.int x75), some (.int (0 : Int32)), none]) (by simp [gle]) ?_
    refine g_iter (L := L_X10_knows_195 l0 l1 x75) (s := s_X10_knows_195 l0 l1 x75) (K := K_X10_knows_195 X Q _ _ l0 l1 x75) (W_X10_knows_195 l0 l1 x75) fu ((0 : Int32), S) _ e104 ?_
    show gW _ _ 262 [some (.ref l0), some (.int l1), some (.int x75), none, none] [] r103.1 r103.2 _ _ _
    refine r_iinc (pc := 262) dX10_knows_262 rfl (by decide) ?_
    change gW _ _ _ [some (.ref l0), some (.int (l1 + (-1 : Int32))), some (.int x75), none, none] _ _ _ _ _ _
    refine r_goto (pc := 265) 182 dX10_knows_265 (by decide) ?_
    cases hf
    exact gW.weak (by simp [gle]) hk
def F_X10_knows (S : pS) (a0 : Nat) : Option (pS) := (oF S a0 10).bind fun _ => (F_X10_orders S a0).bind fun q1 => (iter (F_X10_knows_6 a0) fu ((0 : Int32), q1)).bind fun r19 => (iter (F_X10_knows_56 a0) fu ((0 : Int32), r19)).bind fun r69 => (oGI r69 a0 10 20).bind fun x71 => (iter (F_X10_knows_182 a0) fu (x71 - (1 : Int32), r69)).bind fun r105 => some r105
set_option maxRecDepth 100000 in
set_option maxHeartbeats 4000000 in
theorem C_X10_knows {X : pX} {Q : pO → Nat → pF → Prop} (S : pS) (a0 : Nat) (r : pS) (hf : F_X10_knows S a0 = some r) (hk : Q (.inl none) r.1 r.2) : gC X mX10_knows [.ref a0] S.1 S.2 Q 0 0 := by
  refine gC_of (by decide) (Nat.le_of_ble_eq_true rfl) rfl ?_
  change gW _ _ _ [some (.ref a0), none, none, none, none] _ _ _ _ _ _
  unfold F_X10_knows at hf
  obtain ⟨_, _, hf⟩ := obind hf
  refine r_aload_n (pc := 0) dX10_knows_0 rfl ?_
  replace hf := obind hf
  obtain ⟨q1, e2, hf⟩ := hf
  refine q_callV (pc := 1) (v := none) (S' := q1) mX10_orders 10 [] dX10_knows_1 kX10_166 fX10_orders iX10_orders ⟨by decide, by decide⟩ rfl rfl rfl (Nat.le_of_ble_eq_true rfl) (og e2) (mc1 := 0) (ms1 := 0) (mc2 := 0) (ms2 := 0) (by decide) (by decide) (C_X10_orders S a0 q1 e2 (qR_mk _ _)) ?_
  refine r_iconst (pc := 4) (0 : Int32) dX10_knows_4 (by decide) ?_
  refine r_istore_n (pc := 5) dX10_knows_5 (by decide) ?_
  change gW _ _ _ [some (.ref a0), some (.int (0 : Int32)), none, none, none] _ _ _ _ _ _
  replace hf := obind hf
  obtain ⟨r19, e20, hf⟩ := hf
  refine gW.weak (ls' := [some (.ref a0), some (.int (0 : Int32)), none, none, none]) (by simp [gle]) ?_
  refine g_iter (L := L_X10_knows_6 a0) (s := s_X10_knows_6 a0) (K := K_X10_knows_6 X Q _ _ a0) (W_X10_knows_6 a0) fu ((0 : Int32), q1) _ e20 ?_
  show gW _ _ 54 [some (.ref a0), none, none, none, none] [] r19.1 r19.2 _ _ _
  refine r_iconst (pc := 54) (0 : Int32) dX10_knows_54 (by decide) ?_
  refine r_istore_n (pc := 55) dX10_knows_55 (by decide) ?_
  change gW _ _ _ [some (.ref a0), some (.int (0 : Int32)), none, none, none] _ _ _ _ _ _
  replace hf := obind hf
  obtain ⟨r69, e70, hf⟩ := hf
  refine gW.weak (ls' := [some (.ref a0), some (.int (0 : Int32)), none, none, none]) (by simp [gle]) ?_
  refine g_iter (L := L_X10_knows_56 a0) (s := s_X10_knows_56 a0) (K := K_X10_knows_56 X Q _ _ a0) (W_X10_knows_56 a0) fu ((0 : Int32), r19) _ e70 ?_
  show gW _ _ 175 [some (.ref a0), none, none, none, none] [] r69.1 r69.2 _ _ _
  refine r_aload_n (pc := 175) dX10_knows_175 rfl ?_
  replace hf := obind hf
  obtain ⟨x71, e72, hf⟩ := hf
  refine q_getI (pc := 176) dX10_knows_176 gX10_163 e72 ?_
  refine r_iconst (pc := 179) (1 : Int32) dX10_knows_179 (by decide) ?_
  refine r_isub (pc := 180) dX10_knows_180 ?_
  refine r_istore_n (pc := 181) dX10_knows_181 (by decide) ?_
  change gW _ _ _ [some (.ref a0), some (.int (x71 - (1 : Int32))), none, none, none] _ _ _ _ _ _
  replace hf := obind hf
  obtain ⟨r105, e106, hf⟩ := hf
  refine gW.weak (ls' := [some (.ref a0), some (.int (x71 - (1 : Int32))), none, none, none]) (by simp [gle]) ?_
  refine g_iter (L := L_X10_knows_182 a0) (s := s_X10_knows_182 a0) (K := K_X10_knows_182 X Q _ _ a0) (W_X10_knows_182 a0) fu (x71 - (1 : Int32), r69) _ e106 ?_
  show gW _ _ 268 [some (.ref a0), none, none, none, none] [] r105.1 r105.2 _ _ _
  refine r_return (pc := 268) dX10_knows_268 rfl ?_
  cases hf
  exact hk
def F_X10_isUnder (S : pS) (a0 : Nat) (a1 : Int32) (a2 : Int32) : Option (Int32) := (oF S a0 10).bind fun _ => (oGA S a0 10 19).bind fun x1 => (oAJ S x1 .long a2).bind fun x3 => if ¬ (lg_cmp ((x3 >>> (a1.toInt64 &&& 63)) &&& (1 : Int64)) (1 : Int64)) = 0 then (some (0 : Int32)) else (some (1 : Int32))
set_option maxRecDepth 100000 in
set_option maxHeartbeats 4000000 in
theorem C_X10_isUnder {X : pX} {Q : pO → Nat → pF → Prop} (S : pS) (a0 : Nat) (a1 : Int32) (a2 : Int32) (r : Int32) (hf : F_X10_isUnder S a0 a1 a2 = some r) (hk : Q (.inl (some (.int r))) S.1 S.2) : gC X mX10_isUnder [.ref a0, .int a1, .int a2] S.1 S.2 Q 0 0 := by
  refine gC_of (by decide) (Nat.le_of_ble_eq_true rfl) rfl ?_
  change gW _ _ _ [some (.ref a0), some (.int a1), some (.int a2)] _ _ _ _ _ _
  unfold F_X10_isUnder at hf
  obtain ⟨_, _, hf⟩ := obind hf
  refine r_aload_n (pc := 0) dX10_isUnder_0 rfl ?_
  replace hf := obind hf
  obtain ⟨x1, e2, hf⟩ := hf
  refine q_getA (pc := 1) dX10_isUnder_1 gX10_50 e2 ?_
  refine r_iload_n (pc := 4) dX10_isUnder_4 rfl ?_
  replace hf := obind hf
  obtain ⟨x3, e4, hf⟩ := hf
  refine q_lald (pc := 5) dX10_isUnder_5 e4 ?_
  refine r_iload_n (pc := 6) dX10_isUnder_6 rfl ?_
  refine r_lshr (pc := 7) dX10_isUnder_7 ?_
  refine r_lconst (pc := 8) (1 : Int64) dX10_isUnder_8 (by decide) ?_
  refine r_land (pc := 9) dX10_isUnder_9 ?_
  refine r_lconst (pc := 10) (1 : Int64) dX10_isUnder_10 (by decide) ?_
  refine r_lcmp (pc := 11) dX10_isUnder_11 ?_
  refine r_if_ne (pc := 12) 19 dX10_isUnder_12 (by decide) (fun hc => ?_) (fun hc => ?_)
  · rw [if_pos hc] at hf
    refine r_iconst (pc := 19) (0 : Int32) dX10_isUnder_19 (by decide) ?_
    refine r_ireturn (pc := 20) .boolean dX10_isUnder_20 rfl rfl ?_
    cases hf
    exact hk
  · rw [if_neg hc] at hf
    refine r_iconst (pc := 15) (1 : Int32) dX10_isUnder_15 (by decide) ?_
    refine r_goto (pc := 16) 20 dX10_isUnder_16 (by decide) ?_
    refine r_ireturn (pc := 20) .boolean dX10_isUnder_20 rfl rfl ?_
    cases hf
    exact hk
abbrev L_X10_allPlaces_4 (l0 : Nat) (S : pS) : Int32 × Int32 → List (Option Value) := fun a => [some (.ref l0), some (.int a.1), some (.int a.2)]
abbrev s_X10_allPlaces_4 (l0 : Nat) (S : pS) : Int32 × Int32 → pS := fun a => S
abbrev K_X10_allPlaces_4 (X : pX) (Q : pO → Nat → pF → Prop) (mc ms : Nat) (l0 : Nat) (S : pS) : Int32 → Prop := (fun b => gW X mX10_allPlaces 41 [some (.ref l0), some (.int b), none] [] S.1 S.2 Q mc ms)
def F_X10_allPlaces_4 (l0 : Nat) (S : pS) : Int32 × Int32 → Option ((Int32 × Int32) ⊕ (Int32)) := fun a => if (61 : Int32) ≤ a.2 then (some (.inr a.1)) else ((oGA S l0 10 1).bind fun x1 => (oAI S x1 .int ((1 : Int32) + a.2)).bind fun x3 => if ¬ x3 = (1 : Int32) then (some (.inl (a.1 + (0 : Int32), a.2 + (1 : Int32)))) else ((oGA S l0 10 16).bind fun x5 => (oAI S x5 .int a.2).bind fun x7 => some (.inl (a.1 + x7, a.2 + (1 : Int32)))))
set_option maxRecDepth 100000 in
set_option maxHeartbeats 4000000 in
theorem W_X10_allPlaces_4 {X : pX} {Q : pO → Nat → pF → Prop} {mc ms : Nat} (l0 : Nat) (S : pS) : ∀ (a : Int32 × Int32) (r : (Int32 × Int32) ⊕ (Int32)), F_X10_allPlaces_4 l0 S a = some r → Sum.elim (fun a' => gW X mX10_allPlaces 4 (L_X10_allPlaces_4 l0 S a') [] (s_X10_allPlaces_4 l0 S a').1 (s_X10_allPlaces_4 l0 S a').2 Q mc ms) (K_X10_allPlaces_4 X Q mc ms l0 S) r → gW X mX10_allPlaces 4 (L_X10_allPlaces_4 l0 S a) [] (s_X10_allPlaces_4 l0 S a).1 (s_X10_allPlaces_4 l0 S a).2 Q mc ms := by
  intro a r hf hk
  obtain ⟨l1, l2⟩ := a
  unfold F_X10_allPlaces_4 at hf
  try dsimp only at hf
  change gW _ _ _ [some (.ref l0), some (.int l1), some (.int l2)] _ S.1 S.2 _ _ _
  refine r_iload_n (pc := 4) dX10_allPlaces_4 rfl ?_
  refine r_bipush (pc := 5) (61 : Int32) dX10_allPlaces_5 (by decide) ?_
  refine r_icmp_ge (pc := 7) 41 dX10_allPlaces_7 (by decide) (fun hc => ?_) (fun hc => ?_)
  · rw [if_pos hc] at hf
    cases hf
    exact gW.weak (by simp [gle]) hk
  · rw [if_neg hc] at hf
    refine r_iload_n (pc := 10) dX10_allPlaces_10 rfl ?_
    refine r_aload_n (pc := 11) dX10_allPlaces_11 rfl ?_
    replace hf := obind hf
    obtain ⟨x1, e2, hf⟩ := hf
    refine q_getA (pc := 12) dX10_allPlaces_12 gX10_7 e2 ?_
    refine r_iconst (pc := 15) (1 : Int32) dX10_allPlaces_15 (by decide) ?_
    refine r_iload_n (pc := 16) dX10_allPlaces_16 rfl ?_
    refine r_iadd (pc := 17) dX10_allPlaces_17 ?_
    replace hf := obind hf
    obtain ⟨x3, e4, hf⟩ := hf
    refine q_iald (pc := 18) dX10_allPlaces_18 e4 ?_
    refine r_iconst (pc := 19) (1 : Int32) dX10_allPlaces_19 (by decide) ?_
    refine r_icmp_ne (pc := 20) 32 dX10_allPlaces_20 (by decide) (fun hc => ?_) (fun hc => ?_)
    · rw [if_pos hc] at hf
      refine r_iconst (pc := 32) (0 : Int32) dX10_allPlaces_32 (by decide) ?_
      refine r_iadd (pc := 33) dX10_allPlaces_33 ?_
      refine r_istore_n (pc := 34) dX10_allPlaces_34 (by decide) ?_
      change gW _ _ _ [some (.ref l0), some (.int (l1 + (0 : Int32))), some (.int l2)] _ _ _ _ _ _
      refine r_iinc (pc := 35) dX10_allPlaces_35 rfl (by decide) ?_
      change gW _ _ _ [some (.ref l0), some (.int (l1 + (0 : Int32))), some (.int (l2 + (1 : Int32)))] _ _ _ _ _ _
      refine r_goto (pc := 38) 4 dX10_allPlaces_38 (by decide) ?_
      cases hf
      exact gW.weak (by simp [gle]) hk
    · rw [if_neg hc] at hf
      refine r_aload_n (pc := 23) dX10_allPlaces_23 rfl ?_
      replace hf := obind hf
      obtain ⟨x5, e6, hf⟩ := hf
      refine q_getA (pc := 24) dX10_allPlaces_24 gX10_41 e6 ?_
      refine r_iload_n (pc := 27) dX10_allPlaces_27 rfl ?_
      replace hf := obind hf
      obtain ⟨x7, e8, hf⟩ := hf
      refine q_iald (pc := 28) dX10_allPlaces_28 e8 ?_
      refine r_goto (pc := 29) 33 dX10_allPlaces_29 (by decide) ?_
      refine r_iadd (pc := 33) dX10_allPlaces_33 ?_
      refine r_istore_n (pc := 34) dX10_allPlaces_34 (by decide) ?_
      change gW _ _ _ [some (.ref l0), some (.int (l1 + x7)), some (.int l2)] _ _ _ _ _ _
      refine r_iinc (pc := 35) dX10_allPlaces_35 rfl (by decide) ?_
      change gW _ _ _ [some (.ref l0), some (.int (l1 + x7)), some (.int (l2 + (1 : Int32)))] _ _ _ _ _ _
      refine r_goto (pc := 38) 4 dX10_allPlaces_38 (by decide) ?_
      cases hf
      exact gW.weak (by simp [gle]) hk
def F_X10_allPlaces (S : pS) (a0 : Nat) : Option (Int32) := (oF S a0 10).bind fun _ => (iter (F_X10_allPlaces_4 a0 S) fu ((0 : Int32), (1 : Int32))).bind fun r9 => some r9
set_option maxRecDepth 100000 in
set_option maxHeartbeats 4000000 in
theorem C_X10_allPlaces {X : pX} {Q : pO → Nat → pF → Prop} (S : pS) (a0 : Nat) (r : Int32) (hf : F_X10_allPlaces S a0 = some r) (hk : Q (.inl (some (.int r))) S.1 S.2) : gC X mX10_allPlaces [.ref a0] S.1 S.2 Q 0 0 := by
  refine gC_of (by decide) (Nat.le_of_ble_eq_true rfl) rfl ?_
  change gW _ _ _ [some (.ref a0), none, none] _ _ _ _ _ _
  unfold F_X10_allPlaces at hf
  obtain ⟨_, _, hf⟩ := obind hf
  refine r_iconst (pc := 0) (0 : Int32) dX10_allPlaces_0 (by decide) ?_
  refine r_istore_n (pc := 1) dX10_allPlaces_1 (by decide) ?_
  change gW _ _ _ [some (.ref a0), some (.int (0 : Int32)), none] _ _ _ _ _ _
  refine r_iconst (pc := 2) (1 : Int32) dX10_allPlaces_2 (by decide) ?_
  refine r_istore_n (pc := 3) dX10_allPlaces_3 (by decide) ?_
  change gW _ _ _ [some (.ref a0), some (.int (0 : Int32)), some (.int (1 : Int32))] _ _ _ _ _ _
  replace hf := obind hf
  obtain ⟨r9, e10, hf⟩ := hf
  refine gW.weak (ls' := [some (.ref a0), some (.int (0 : Int32)), some (.int (1 : Int32))]) (by simp [gle]) ?_
  refine g_iter (L := L_X10_allPlaces_4 a0 S) (s := s_X10_allPlaces_4 a0 S) (K := K_X10_allPlaces_4 X Q _ _ a0 S) (W_X10_allPlaces_4 a0 S) fu ((0 : Int32), (1 : Int32)) _ e10 ?_
  show gW _ _ 41 [some (.ref a0), some (.int r9), none] [] S.1 S.2 _ _ _
  refine r_iload_n (pc := 41) dX10_allPlaces_41 rfl ?_
  refine r_ireturn (pc := 42) .int dX10_allPlaces_42 rfl rfl ?_
  cases hf
  exact hk
def F_X10_reasonFor_98 (S : pS) (l0 : Nat) (t0 : Int32) (t1 : Int32) : Option (Int32 × pS) := (F_X10_allPlaces S l0).bind fun q15 => if (q15 + (t0 * t1)) ≤ (300 : Int32) then (some ((0 : Int32), S)) else (some ((4 : Int32), S))
set_option maxRecDepth 100000 in
set_option maxHeartbeats 4000000 in
theorem W_X10_reasonFor_98 {X : pX} {Q : pO → Nat → pF → Prop} (S : pS) (l0 : Nat) (t0 : Int32) (t1 : Int32) (r : Int32 × pS) (hf : F_X10_reasonFor_98 S l0 t0 t1 = some r) (hk : Q (.inl (some (.int r.1))) r.2.1 r.2.2) : gW X mX10_reasonFor 98 [some (.ref l0), none, none, none] [.int t1, .int t0] S.1 S.2 Q 0 0 := by
  unfold F_X10_reasonFor_98 at hf
  refine r_imul (pc := 98) dX10_reasonFor_98 ?_
  refine r_istore_n (pc := 99) dX10_reasonFor_99 (by decide) ?_
  change gW _ _ _ [some (.ref l0), none, none, some (.int (t0 * t1))] _ _ _ _ _ _
  refine r_aload_n (pc := 100) dX10_reasonFor_100 rfl ?_
  replace hf := obind hf
  obtain ⟨q15, e16, hf⟩ := hf
  refine q_callV (pc := 101) (v := some (.int q15)) (S' := S) mX10_allPlaces 10 [] dX10_reasonFor_101 kX10_179 fX10_allPlaces iX10_allPlaces ⟨by decide, by decide⟩ rfl rfl rfl (Nat.le_of_ble_eq_true rfl) (og e16) (mc1 := 0) (ms1 := 0) (mc2 := 0) (ms2 := 0) (by decide) (by decide) (C_X10_allPlaces S l0 q15 e16 (qR_mk _ _)) ?_
  change gW _ _ _ _ (.int q15 :: _) _ _ _ _ _
  refine r_iload_n (pc := 104) dX10_reasonFor_104 rfl ?_
  refine r_iadd (pc := 105) dX10_reasonFor_105 ?_
  refine r_sipush (pc := 106) (300 : Int32) dX10_reasonFor_106 (by decide) ?_
  refine r_icmp_le (pc := 109) 116 dX10_reasonFor_109 (by decide) (fun hc => ?_) (fun hc => ?_)
  · rw [if_pos hc] at hf
    refine r_iconst (pc := 116) (0 : Int32) dX10_reasonFor_116 (by decide) ?_
    refine r_ireturn (pc := 117) .int dX10_reasonFor_117 rfl rfl ?_
    cases hf
    exact hk
  · rw [if_neg hc] at hf
    refine r_iconst (pc := 112) (4 : Int32) dX10_reasonFor_112 (by decide) ?_
    refine r_goto (pc := 113) 117 dX10_reasonFor_113 (by decide) ?_
    refine r_ireturn (pc := 117) .int dX10_reasonFor_117 rfl rfl ?_
    cases hf
    exact hk
def F_X10_reasonFor_75 (S : pS) (l0 : Nat) (l1 : Int32) (l2 : Int32) : Option (Int32 × pS) := (oGA S l0 10 16).bind fun x7 => (oAI S x7 .int l2).bind fun x9 => if ¬ l1 = (-1 : Int32) then ((oGA S l0 10 17).bind fun x11 => (oAI S x11 .int l1).bind fun x13 => F_X10_reasonFor_98 S l0 x9 ((1 : Int32) + x13)) else (F_X10_reasonFor_98 S l0 x9 (1 : Int32))
set_option maxRecDepth 100000 in
set_option maxHeartbeats 4000000 in
theorem W_X10_reasonFor_75 {X : pX} {Q : pO → Nat → pF → Prop} (S : pS) (l0 : Nat) (l1 : Int32) (l2 : Int32) (r : Int32 × pS) (hf : F_X10_reasonFor_75 S l0 l1 l2 = some r) (hk : Q (.inl (some (.int r.1))) r.2.1 r.2.2) : gW X mX10_reasonFor 75 [some (.ref l0), some (.int l1), some (.int l2), none] [] S.1 S.2 Q 0 0 := by
  unfold F_X10_reasonFor_75 at hf
  refine r_aload_n (pc := 75) dX10_reasonFor_75 rfl ?_
  replace hf := obind hf
  obtain ⟨x7, e8, hf⟩ := hf
  refine q_getA (pc := 76) dX10_reasonFor_76 gX10_41 e8 ?_
  refine r_iload_n (pc := 79) dX10_reasonFor_79 rfl ?_
  replace hf := obind hf
  obtain ⟨x9, e10, hf⟩ := hf
  refine q_iald (pc := 80) dX10_reasonFor_80 e10 ?_
  refine r_iload_n (pc := 81) dX10_reasonFor_81 rfl ?_
  refine r_iconst (pc := 82) (-1 : Int32) dX10_reasonFor_82 (by decide) ?_
  refine r_icmp_ne (pc := 83) 90 dX10_reasonFor_83 (by decide) (fun hc => ?_) (fun hc => ?_)
  · rw [if_pos hc] at hf
    refine r_iconst (pc := 90) (1 : Int32) dX10_reasonFor_90 (by decide) ?_
    refine r_aload_n (pc := 91) dX10_reasonFor_91 rfl ?_
    replace hf := obind hf
    obtain ⟨x11, e12, hf⟩ := hf
    refine q_getA (pc := 92) dX10_reasonFor_92 gX10_44 e12 ?_
    refine r_iload_n (pc := 95) dX10_reasonFor_95 rfl ?_
    replace hf := obind hf
    obtain ⟨x13, e14, hf⟩ := hf
    refine q_iald (pc := 96) dX10_reasonFor_96 e14 ?_
    refine r_iadd (pc := 97) dX10_reasonFor_97 ?_
    refine gW.mono (mc := 0) (ms := 0) ?_ (fun _ _ _ q => q) (by decide) (by decide)
    exact gW.weak (by simp [gle]) (W_X10_reasonFor_98 S l0 x9 ((1 : Int32) + x13) r hf hk)
  · rw [if_neg hc] at hf
    refine r_iconst (pc := 86) (1 : Int32) dX10_reasonFor_86 (by decide) ?_
    refine r_goto (pc := 87) 98 dX10_reasonFor_87 (by decide) ?_
    refine gW.mono (mc := 0) (ms := 0) ?_ (fun _ _ _ q => q) (by decide) (by decide)
    exact gW.weak (by simp [gle]) (W_X10_reasonFor_98 S l0 x9 (1 : Int32) r hf hk)
def F_X10_reasonFor_54 (S : pS) (l0 : Nat) (l1 : Int32) (l2 : Int32) : Option (Int32 × pS) := if l1 = (-1 : Int32) then (F_X10_reasonFor_75 S l0 l1 l2) else (if l1 = l2 then (some ((3 : Int32), S)) else ((F_X10_isUnder S l0 l2 l1).bind fun q17 => if q17 = 0 then (F_X10_reasonFor_75 S l0 l1 l2) else (some ((3 : Int32), S))))
set_option maxRecDepth 100000 in
set_option maxHeartbeats 4000000 in
theorem W_X10_reasonFor_54 {X : pX} {Q : pO → Nat → pF → Prop} (S : pS) (l0 : Nat) (l1 : Int32) (l2 : Int32) (r : Int32 × pS) (hf : F_X10_reasonFor_54 S l0 l1 l2 = some r) (hk : Q (.inl (some (.int r.1))) r.2.1 r.2.2) : gW X mX10_reasonFor 54 [some (.ref l0), some (.int l1), some (.int l2), none] [] S.1 S.2 Q 0 0 := by
  unfold F_X10_reasonFor_54 at hf
  refine r_iload_n (pc := 54) dX10_reasonFor_54 rfl ?_
  refine r_iconst (pc := 55) (-1 : Int32) dX10_reasonFor_55 (by decide) ?_
  refine r_icmp_eq (pc := 56) 75 dX10_reasonFor_56 (by decide) (fun hc => ?_) (fun hc => ?_)
  · rw [if_pos hc] at hf
    refine gW.mono (mc := 0) (ms := 0) ?_ (fun _ _ _ q => q) (by decide) (by decide)
    exact gW.weak (by simp [gle]) (W_X10_reasonFor_75 S l0 l1 l2 r hf hk)
  · rw [if_neg hc] at hf
    refine r_iload_n (pc := 59) dX10_reasonFor_59 rfl ?_
    refine r_iload_n (pc := 60) dX10_reasonFor_60 rfl ?_
    refine r_icmp_eq (pc := 61) 73 dX10_reasonFor_61 (by decide) (fun hc => ?_) (fun hc => ?_)
    · rw [if_pos hc] at hf
      refine r_iconst (pc := 73) (3 : Int32) dX10_reasonFor_73 (by decide) ?_
      refine r_ireturn (pc := 74) .int dX10_reasonFor_74 rfl rfl ?_
      cases hf
      exact hk
    · rw [if_neg hc] at hf
      refine r_aload_n (pc := 64) dX10_reasonFor_64 rfl ?_
      refine r_iload_n (pc := 65) dX10_reasonFor_65 rfl ?_
      refine r_iload_n (pc := 66) dX10_reasonFor_66 rfl ?_
      replace hf := obind hf
      obtain ⟨q17, e18, hf⟩ := hf
      refine q_callV (pc := 67) (v := some (.int q17)) (S' := S) mX10_isUnder 10 [.int l2, .int l1] dX10_reasonFor_67 kX10_175 fX10_isUnder iX10_isUnder ⟨by decide, by decide⟩ rfl rfl rfl (Nat.le_of_ble_eq_true rfl) (og e18) (mc1 := 0) (ms1 := 0) (mc2 := 0) (ms2 := 0) (by decide) (by decide) (C_X10_isUnder S l0 l2 l1 q17 e18 (qR_mk _ _)) ?_
      change gW _ _ _ _ (.int q17 :: _) _ _ _ _ _
      refine r_if_eq (pc := 70) 75 dX10_reasonFor_70 (by decide) (fun hc => ?_) (fun hc => ?_)
      · rw [if_pos hc] at hf
        refine gW.mono (mc := 0) (ms := 0) ?_ (fun _ _ _ q => q) (by decide) (by decide)
        exact gW.weak (by simp [gle]) (W_X10_reasonFor_75 S l0 l1 l2 r hf hk)
      · rw [if_neg hc] at hf
        refine r_iconst (pc := 73) (3 : Int32) dX10_reasonFor_73 (by decide) ?_
        refine r_ireturn (pc := 74) .int dX10_reasonFor_74 rfl rfl ?_
        cases hf
        exact hk
def F_X10_reasonFor_20 (S : pS) (l0 : Nat) (l1 : Int32) (l2 : Int32) : Option (Int32 × pS) := (oGA S l0 10 1).bind fun x3 => (oAI S x3 .int ((916 : Int32) + l2)).bind fun x5 => if ¬ x5 = (12 : Int32) then (if l1 = (-1 : Int32) then (F_X10_reasonFor_54 S l0 l1 l2) else ((F_X10_indexOf S l0 l2 l1).bind fun q19 => if q19 = (-1 : Int32) then (F_X10_reasonFor_54 S l0 l1 l2) else (some ((2 : Int32), S)))) else (some ((1 : Int32), S))
set_option maxRecDepth 100000 in
set_option maxHeartbeats 4000000 in
theorem W_X10_reasonFor_20 {X : pX} {Q : pO → Nat → pF → Prop} (S : pS) (l0 : Nat) (l1 : Int32) (l2 : Int32) (r : Int32 × pS) (hf : F_X10_reasonFor_20 S l0 l1 l2 = some r) (hk : Q (.inl (some (.int r.1))) r.2.1 r.2.2) : gW X mX10_reasonFor 20 [some (.ref l0), some (.int l1), some (.int l2), none] [] S.1 S.2 Q 0 0 := by
  unfold F_X10_reasonFor_20 at hf
  refine r_aload_n (pc := 20) dX10_reasonFor_20 rfl ?_
  replace hf := obind hf
  obtain ⟨x3, e4, hf⟩ := hf
  refine q_getA (pc := 21) dX10_reasonFor_21 gX10_7 e4 ?_
  refine r_sipush (pc := 24) (916 : Int32) dX10_reasonFor_24 (by decide) ?_
  refine r_iload_n (pc := 27) dX10_reasonFor_27 rfl ?_
  refine r_iadd (pc := 28) dX10_reasonFor_28 ?_
  replace hf := obind hf
  obtain ⟨x5, e6, hf⟩ := hf
  refine q_iald (pc := 29) dX10_reasonFor_29 e6 ?_
  refine r_bipush (pc := 30) (12 : Int32) dX10_reasonFor_30 (by decide) ?_
  refine r_icmp_ne (pc := 32) 37 dX10_reasonFor_32 (by decide) (fun hc => ?_) (fun hc => ?_)
  · rw [if_pos hc] at hf
    refine r_iload_n (pc := 37) dX10_reasonFor_37 rfl ?_
    refine r_iconst (pc := 38) (-1 : Int32) dX10_reasonFor_38 (by decide) ?_
    refine r_icmp_eq (pc := 39) 54 dX10_reasonFor_39 (by decide) (fun hc => ?_) (fun hc => ?_)
    · rw [if_pos hc] at hf
      refine gW.mono (mc := 0) (ms := 0) ?_ (fun _ _ _ q => q) (by decide) (by decide)
      exact gW.weak (by simp [gle]) (W_X10_reasonFor_54 S l0 l1 l2 r hf hk)
    · rw [if_neg hc] at hf
      refine r_aload_n (pc := 42) dX10_reasonFor_42 rfl ?_
      refine r_iload_n (pc := 43) dX10_reasonFor_43 rfl ?_
      refine r_iload_n (pc := 44) dX10_reasonFor_44 rfl ?_
      replace hf := obind hf
      obtain ⟨q19, e20, hf⟩ := hf
      refine q_callV (pc := 45) (v := some (.int q19)) (S' := S) mX10_indexOf 10 [.int l2, .int l1] dX10_reasonFor_45 kX10_172 fX10_indexOf iX10_indexOf ⟨by decide, by decide⟩ rfl rfl rfl (Nat.le_of_ble_eq_true rfl) (og e20) (mc1 := 0) (ms1 := 0) (mc2 := 0) (ms2 := 0) (by decide) (by decide) (C_X10_indexOf S l0 l2 l1 q19 e20 (qR_mk _ _)) ?_
      change gW _ _ _ _ (.int q19 :: _) _ _ _ _ _
      refine r_iconst (pc := 48) (-1 : Int32) dX10_reasonFor_48 (by decide) ?_
      refine r_icmp_eq (pc := 49) 54 dX10_reasonFor_49 (by decide) (fun hc => ?_) (fun hc => ?_)
      · rw [if_pos hc] at hf
        refine gW.mono (mc := 0) (ms := 0) ?_ (fun _ _ _ q => q) (by decide) (by decide)
        exact gW.weak (by simp [gle]) (W_X10_reasonFor_54 S l0 l1 l2 r hf hk)
      · rw [if_neg hc] at hf
        refine r_iconst (pc := 52) (2 : Int32) dX10_reasonFor_52 (by decide) ?_
        refine r_ireturn (pc := 53) .int dX10_reasonFor_53 rfl rfl ?_
        cases hf
        exact hk
  · rw [if_neg hc] at hf
    refine r_iconst (pc := 35) (1 : Int32) dX10_reasonFor_35 (by decide) ?_
    refine r_ireturn (pc := 36) .int dX10_reasonFor_36 rfl rfl ?_
    cases hf
    exact hk
def F_X10_reasonFor (S : pS) (a0 : Nat) (a1 : Int32) (a2 : Int32) : Option (Int32 × pS) := (oF S a0 10).bind fun _ => (F_X10_knows S a0).bind fun q1 => if ¬ a1 = (-1 : Int32) then (F_X10_reasonFor_20 q1 a0 a1 a2) else ((oGA q1 a0 10 1).bind fun x21 => (oAI q1 x21 .int (0 : Int32)).bind fun x23 => if x23 = (60 : Int32) then (some ((1 : Int32), q1)) else (F_X10_reasonFor_20 q1 a0 a1 a2))
set_option maxRecDepth 100000 in
set_option maxHeartbeats 4000000 in
theorem C_X10_reasonFor {X : pX} {Q : pO → Nat → pF → Prop} (S : pS) (a0 : Nat) (a1 : Int32) (a2 : Int32) (r : Int32 × pS) (hf : F_X10_reasonFor S a0 a1 a2 = some r) (hk : Q (.inl (some (.int r.1))) r.2.1 r.2.2) : gC X mX10_reasonFor [.ref a0, .int a1, .int a2] S.1 S.2 Q 0 0 := by
  refine gC_of (by decide) (Nat.le_of_ble_eq_true rfl) rfl ?_
  change gW _ _ _ [some (.ref a0), some (.int a1), some (.int a2), none] _ _ _ _ _ _
  unfold F_X10_reasonFor at hf
  obtain ⟨_, _, hf⟩ := obind hf
  refine r_aload_n (pc := 0) dX10_reasonFor_0 rfl ?_
  replace hf := obind hf
  obtain ⟨q1, e2, hf⟩ := hf
  refine q_callV (pc := 1) (v := none) (S' := q1) mX10_knows 10 [] dX10_reasonFor_1 kX10_169 fX10_knows iX10_knows ⟨by decide, by decide⟩ rfl rfl rfl (Nat.le_of_ble_eq_true rfl) (og e2) (mc1 := 0) (ms1 := 0) (mc2 := 0) (ms2 := 0) (by decide) (by decide) (C_X10_knows S a0 q1 e2 (qR_mk _ _)) ?_
  refine r_iload_n (pc := 4) dX10_reasonFor_4 rfl ?_
  refine r_iconst (pc := 5) (-1 : Int32) dX10_reasonFor_5 (by decide) ?_
  refine r_icmp_ne (pc := 6) 20 dX10_reasonFor_6 (by decide) (fun hc => ?_) (fun hc => ?_)
  · rw [if_pos hc] at hf
    refine gW.mono (mc := 0) (ms := 0) ?_ (fun _ _ _ q => q) (by decide) (by decide)
    exact gW.weak (by simp [gle]) (W_X10_reasonFor_20 q1 a0 a1 a2 r hf hk)
  · rw [if_neg hc] at hf
    refine r_aload_n (pc := 9) dX10_reasonFor_9 rfl ?_
    replace hf := obind hf
    obtain ⟨x21, e22, hf⟩ := hf
    refine q_getA (pc := 10) dX10_reasonFor_10 gX10_7 e22 ?_
    refine r_iconst (pc := 13) (0 : Int32) dX10_reasonFor_13 (by decide) ?_
    replace hf := obind hf
    obtain ⟨x23, e24, hf⟩ := hf
    refine q_iald (pc := 14) dX10_reasonFor_14 e24 ?_
    refine r_bipush (pc := 15) (60 : Int32) dX10_reasonFor_15 (by decide) ?_
    refine r_icmp_eq (pc := 17) 35 dX10_reasonFor_17 (by decide) (fun hc => ?_) (fun hc => ?_)
    · rw [if_pos hc] at hf
      refine r_iconst (pc := 35) (1 : Int32) dX10_reasonFor_35 (by decide) ?_
      refine r_ireturn (pc := 36) .int dX10_reasonFor_36 rfl rfl ?_
      cases hf
      exact hk
    · rw [if_neg hc] at hf
      refine gW.mono (mc := 0) (ms := 0) ?_ (fun _ _ _ q => q) (by decide) (by decide)
      exact gW.weak (by simp [gle]) (W_X10_reasonFor_20 q1 a0 a1 a2 r hf hk)
def F_X10_refuses_11 (S : pS) (l0 : Nat) (l1 : Int32) (l2 : Int32) (l3 : Int32) (t0 : Nat) (t1 : Int32) : Option (Int32 × pS) := (oPI S t0 10 13 t1).bind fun S1 => (oGA S1 l0 10 12).bind fun x3 => (oSI S1 x3 .int (0 : Int32) l1).bind fun S5 => (oGA S5 l0 10 12).bind fun x7 => (oSI S5 x7 .int (1 : Int32) ((100 : Int32) + l2)).bind fun S9 => (oGA S9 l0 10 12).bind fun x11 => (oGI S9 l0 10 13).bind fun x13 => (oSI S9 x11 .int (x13 - (1 : Int32)) l3).bind fun S15 => (F_X10_fails S15 l0 (4 : Int32)).bind fun q17 => some (q17.1, q17.2)
set_option maxRecDepth 100000 in
set_option maxHeartbeats 4000000 in
theorem W_X10_refuses_11 {X : pX} {Q : pO → Nat → pF → Prop} (S : pS) (l0 : Nat) (l1 : Int32) (l2 : Int32) (l3 : Int32) (t0 : Nat) (t1 : Int32) (r : Int32 × pS) (hf : F_X10_refuses_11 S l0 l1 l2 l3 t0 t1 = some r) (hk : Q (.inl (some (.int r.1))) r.2.1 r.2.2) : gW X mX10_refuses 11 [some (.ref l0), some (.int l1), some (.int l2), some (.int l3)] [.int t1, .ref t0] S.1 S.2 Q 0 0 := by
  unfold F_X10_refuses_11 at hf
  replace hf := obind hf
  obtain ⟨S1, e2, hf⟩ := hf
  refine q_putI (pc := 11) dX10_refuses_11 pX10_183 rfl e2 ?_
  refine r_aload_n (pc := 14) dX10_refuses_14 rfl ?_
  replace hf := obind hf
  obtain ⟨x3, e4, hf⟩ := hf
  refine q_getA (pc := 15) dX10_refuses_15 gX10_32 e4 ?_
  refine r_iconst (pc := 18) (0 : Int32) dX10_refuses_18 (by decide) ?_
  refine r_iload_n (pc := 19) dX10_refuses_19 rfl ?_
  replace hf := obind hf
  obtain ⟨S5, e6, hf⟩ := hf
  refine q_iast (pc := 20) dX10_refuses_20 e6 ?_
  refine r_aload_n (pc := 21) dX10_refuses_21 rfl ?_
  replace hf := obind hf
  obtain ⟨x7, e8, hf⟩ := hf
  refine q_getA (pc := 22) dX10_refuses_22 gX10_32 e8 ?_
  refine r_iconst (pc := 25) (1 : Int32) dX10_refuses_25 (by decide) ?_
  refine r_bipush (pc := 26) (100 : Int32) dX10_refuses_26 (by decide) ?_
  refine r_iload_n (pc := 28) dX10_refuses_28 rfl ?_
  refine r_iadd (pc := 29) dX10_refuses_29 ?_
  replace hf := obind hf
  obtain ⟨S9, e10, hf⟩ := hf
  refine q_iast (pc := 30) dX10_refuses_30 e10 ?_
  refine r_aload_n (pc := 31) dX10_refuses_31 rfl ?_
  replace hf := obind hf
  obtain ⟨x11, e12, hf⟩ := hf
  refine q_getA (pc := 32) dX10_refuses_32 gX10_32 e12 ?_
  refine r_aload_n (pc := 35) dX10_refuses_35 rfl ?_
  replace hf := obind hf
  obtain ⟨x13, e14, hf⟩ := hf
  refine q_getI (pc := 36) dX10_refuses_36 gX10_183 e14 ?_
  refine r_iconst (pc := 39) (1 : Int32) dX10_refuses_39 (by decide) ?_
  refine r_isub (pc := 40) dX10_refuses_40 ?_
  refine r_iload_n (pc := 41) dX10_refuses_41 rfl ?_
  replace hf := obind hf
  obtain ⟨S15, e16, hf⟩ := hf
  refine q_iast (pc := 42) dX10_refuses_42 e16 ?_
  refine r_aload_n (pc := 43) dX10_refuses_43 rfl ?_
  refine r_iconst (pc := 44) (4 : Int32) dX10_refuses_44 (by decide) ?_
  replace hf := obind hf
  obtain ⟨q17, e18, hf⟩ := hf
  refine q_callV (pc := 45) (v := some (.int q17.1)) (S' := q17.2) mX10_fails 10 [.int (4 : Int32)] dX10_refuses_45 kX10_186 fX10_fails iX10_fails ⟨by decide, by decide⟩ rfl rfl rfl (Nat.le_of_ble_eq_true rfl) (og e18) (mc1 := 0) (ms1 := 0) (mc2 := 0) (ms2 := 0) (by decide) (by decide) (C_X10_fails S15 l0 (4 : Int32) q17 e18 (qR_mk _ _)) ?_
  change gW _ _ _ _ (.int q17.1 :: _) _ _ _ _ _
  refine r_ireturn (pc := 48) .int dX10_refuses_48 rfl rfl ?_
  cases hf
  exact hk
def F_X10_refuses (S : pS) (a0 : Nat) (a1 : Int32) (a2 : Int32) (a3 : Int32) : Option (Int32 × pS) := (oF S a0 10).bind fun _ => if ¬ a2 = (-1 : Int32) then (F_X10_refuses_11 S a0 a1 a2 a3 a0 (3 : Int32)) else (F_X10_refuses_11 S a0 a1 a2 a3 a0 (2 : Int32))
set_option maxRecDepth 100000 in
set_option maxHeartbeats 4000000 in
theorem C_X10_refuses {X : pX} {Q : pO → Nat → pF → Prop} (S : pS) (a0 : Nat) (a1 : Int32) (a2 : Int32) (a3 : Int32) (r : Int32 × pS) (hf : F_X10_refuses S a0 a1 a2 a3 = some r) (hk : Q (.inl (some (.int r.1))) r.2.1 r.2.2) : gC X mX10_refuses [.ref a0, .int a1, .int a2, .int a3] S.1 S.2 Q 0 0 := by
  refine gC_of (by decide) (Nat.le_of_ble_eq_true rfl) rfl ?_
  change gW _ _ _ [some (.ref a0), some (.int a1), some (.int a2), some (.int a3)] _ _ _ _ _ _
  unfold F_X10_refuses at hf
  obtain ⟨_, _, hf⟩ := obind hf
  refine r_aload_n (pc := 0) dX10_refuses_0 rfl ?_
  refine r_iload_n (pc := 1) dX10_refuses_1 rfl ?_
  refine r_iconst (pc := 2) (-1 : Int32) dX10_refuses_2 (by decide) ?_
  refine r_icmp_ne (pc := 3) 10 dX10_refuses_3 (by decide) (fun hc => ?_) (fun hc => ?_)
  · rw [if_pos hc] at hf
    refine r_iconst (pc := 10) (3 : Int32) dX10_refuses_10 (by decide) ?_
    refine gW.mono (mc := 0) (ms := 0) ?_ (fun _ _ _ q => q) (by decide) (by decide)
    exact gW.weak (by simp [gle]) (W_X10_refuses_11 S a0 a1 a2 a3 a0 (3 : Int32) r hf hk)
  · rw [if_neg hc] at hf
    refine r_iconst (pc := 6) (2 : Int32) dX10_refuses_6 (by decide) ?_
    refine r_goto (pc := 7) 11 dX10_refuses_7 (by decide) ?_
    refine gW.mono (mc := 0) (ms := 0) ?_ (fun _ _ _ q => q) (by decide) (by decide)
    exact gW.weak (by simp [gle]) (W_X10_refuses_11 S a0 a1 a2 a3 a0 (2 : Int32) r hf hk)
abbrev L_X10_puts_22 (l0 : Nat) (l1 : Int32) (l2 : Int32) (l3 : Int32) (l4 : Int32) : Int32 × pS → List (Option Value) := fun a => [some (.ref l0), some (.int l1), some (.int l2), some (.int l3), some (.int l4), some (.int a.1)]
abbrev s_X10_puts_22 (l0 : Nat) (l1 : Int32) (l2 : Int32) (l3 : Int32) (l4 : Int32) : Int32 × pS → pS := fun a => a.2
abbrev K_X10_puts_22 (X : pX) (Q : pO → Nat → pF → Prop) (mc ms : Nat) (l0 : Nat) (l1 : Int32) (l2 : Int32) (l3 : Int32) (l4 : Int32) : pS → Prop := (fun b => gW X mX10_puts 56 [some (.ref l0), some (.int l1), some (.int l2), some (.int l3), some (.int l4), none] [] b.1 b.2 Q mc ms)
def F_X10_puts_22 (l0 : Nat) (l1 : Int32) (l2 : Int32) (l3 : Int32) (l4 : Int32) : Int32 × pS → Option ((Int32 × pS) ⊕ (pS)) := fun a => if a.1 ≤ l2 then (some (.inr a.2)) else ((oGA a.2 l0 10 1).bind fun x5 => (oGA a.2 l0 10 1).bind fun x7 => (oAI a.2 x7 .int ((l4 + a.1) - (1 : Int32))).bind fun x9 => (oSI a.2 x5 .int (l4 + a.1) x9).bind fun S11 => some (.inl (a.1 + (-1 : Int32), S11)))
set_option maxRecDepth 100000 in
set_option maxHeartbeats 4000000 in
theorem W_X10_puts_22 {X : pX} {Q : pO → Nat → pF → Prop} {mc ms : Nat} (l0 : Nat) (l1 : Int32) (l2 : Int32) (l3 : Int32) (l4 : Int32) : ∀ (a : Int32 × pS) (r : (Int32 × pS) ⊕ (pS)), F_X10_puts_22 l0 l1 l2 l3 l4 a = some r → Sum.elim (fun a' => gW X mX10_puts 22 (L_X10_puts_22 l0 l1 l2 l3 l4 a') [] (s_X10_puts_22 l0 l1 l2 l3 l4 a').1 (s_X10_puts_22 l0 l1 l2 l3 l4 a').2 Q mc ms) (K_X10_puts_22 X Q mc ms l0 l1 l2 l3 l4) r → gW X mX10_puts 22 (L_X10_puts_22 l0 l1 l2 l3 l4 a) [] (s_X10_puts_22 l0 l1 l2 l3 l4 a).1 (s_X10_puts_22 l0 l1 l2 l3 l4 a).2 Q mc ms := by
  intro a r hf hk
  obtain ⟨l5, S⟩ := a
  unfold F_X10_puts_22 at hf
  try dsimp only at hf
  change gW _ _ _ [some (.ref l0), some (.int l1), some (.int l2), some (.int l3), some (.int l4), some (.int l5)] _ S.1 S.2 _ _ _
  refine r_iload (pc := 22) dX10_puts_22 rfl ?_
  refine r_iload_n (pc := 24) dX10_puts_24 rfl ?_
  refine r_icmp_le (pc := 25) 56 dX10_puts_25 (by decide) (fun hc => ?_) (fun hc => ?_)
  · rw [if_pos hc] at hf
    cases hf
    exact gW.weak (by simp [gle]) hk
  · rw [if_neg hc] at hf
    refine r_aload_n (pc := 28) dX10_puts_28 rfl ?_
    replace hf := obind hf
    obtain ⟨x5, e6, hf⟩ := hf
    refine q_getA (pc := 29) dX10_puts_29 gX10_7 e6 ?_
    refine r_iload (pc := 32) dX10_puts_32 rfl ?_
    refine r_iload (pc := 34) dX10_puts_34 rfl ?_
    refine r_iadd (pc := 36) dX10_puts_36 ?_
    refine r_aload_n (pc := 37) dX10_puts_37 rfl ?_
    replace hf := obind hf
    obtain ⟨x7, e8, hf⟩ := hf
    refine q_getA (pc := 38) dX10_puts_38 gX10_7 e8 ?_
    refine r_iload (pc := 41) dX10_puts_41 rfl ?_
    refine r_iload (pc := 43) dX10_puts_43 rfl ?_
    refine r_iadd (pc := 45) dX10_puts_45 ?_
    refine r_iconst (pc := 46) (1 : Int32) dX10_puts_46 (by decide) ?_
    refine r_isub (pc := 47) dX10_puts_47 ?_
    replace hf := obind hf
    obtain ⟨x9, e10, hf⟩ := hf
    refine q_iald (pc := 48) dX10_puts_48 e10 ?_
    replace hf := obind hf
    obtain ⟨S11, e12, hf⟩ := hf
    refine q_iast (pc := 49) dX10_puts_49 e12 ?_
    refine r_iinc (pc := 50) dX10_puts_50 rfl (by decide) ?_
    change gW _ _ _ [some (.ref l0), some (.int l1), some (.int l2), some (.int l3), some (.int l4), some (.int (l5 + (-1 : Int32)))] _ _ _ _ _ _
    refine r_goto (pc := 53) 22 dX10_puts_53 (by decide) ?_
    cases hf
    exact gW.weak (by simp [gle]) hk
def F_X10_puts (S : pS) (a0 : Nat) (a1 : Int32) (a2 : Int32) (a3 : Int32) : Option (pS) := (oF S a0 10).bind fun _ => (oGA S a0 10 1).bind fun x1 => (oAI S x1 .int ((916 : Int32) + a1)).bind fun x3 => (iter (F_X10_puts_22 a0 a1 a2 a3 ((977 : Int32) + ((12 : Int32) * a1))) fu (x3, S)).bind fun r13 => (oGA r13 a0 10 1).bind fun x15 => (oSI r13 x15 .int (((977 : Int32) + ((12 : Int32) * a1)) + a2) a3).bind fun S17 => (oGA S17 a0 10 1).bind fun x19 => (oAI S17 x19 .int ((916 : Int32) + a1)).bind fun x21 => (oSI S17 x19 .int ((916 : Int32) + a1) (x21 + (1 : Int32))).bind fun S23 => some S23
set_option maxRecDepth 100000 in
set_option maxHeartbeats 4000000 in
theorem C_X10_puts {X : pX} {Q : pO → Nat → pF → Prop} (S : pS) (a0 : Nat) (a1 : Int32) (a2 : Int32) (a3 : Int32) (r : pS) (hf : F_X10_puts S a0 a1 a2 a3 = some r) (hk : Q (.inl none) r.1 r.2) : gC X mX10_puts [.ref a0, .int a1, .int a2, .int a3] S.1 S.2 Q 0 0 := by
  refine gC_of (by decide) (Nat.le_of_ble_eq_true rfl) rfl ?_
  change gW _ _ _ [some (.ref a0), some (.int a1), some (.int a2), some (.int a3), none, none] _ _ _ _ _ _
  unfold F_X10_puts at hf
  obtain ⟨_, _, hf⟩ := obind hf
  refine r_sipush (pc := 0) (977 : Int32) dX10_puts_0 (by decide) ?_
  refine r_bipush (pc := 3) (12 : Int32) dX10_puts_3 (by decide) ?_
  refine r_iload_n (pc := 5) dX10_puts_5 rfl ?_
  refine r_imul (pc := 6) dX10_puts_6 ?_
  refine r_iadd (pc := 7) dX10_puts_7 ?_
  refine r_istore (pc := 8) dX10_puts_8 (by decide) ?_
  change gW _ _ _ [some (.ref a0), some (.int a1), some (.int a2), some (.int a3), some (.int ((977 : Int32) + ((12 : Int32) * a1))), none] _ _ _ _ _ _
  refine r_aload_n (pc := 10) dX10_puts_10 rfl ?_
  replace hf := obind hf
  obtain ⟨x1, e2, hf⟩ := hf
  refine q_getA (pc := 11) dX10_puts_11 gX10_7 e2 ?_
  refine r_sipush (pc := 14) (916 : Int32) dX10_puts_14 (by decide) ?_
  refine r_iload_n (pc := 17) dX10_puts_17 rfl ?_
  refine r_iadd (pc := 18) dX10_puts_18 ?_
  replace hf := obind hf
  obtain ⟨x3, e4, hf⟩ := hf
  refine q_iald (pc := 19) dX10_puts_19 e4 ?_
  refine r_istore (pc := 20) dX10_puts_20 (by decide) ?_
  change gW _ _ _ [some (.ref a0), some (.int a1), some (.int a2), some (.int a3), some (.int ((977 : Int32) + ((12 : Int32) * a1))), some (.int x3)] _ _ _ _ _ _
  replace hf := obind hf
  obtain ⟨r13, e14, hf⟩ := hf
  refine gW.weak (ls' := [some (.ref a0), some (.int a1), some (.int a2), some (.int a3), some (.int ((977 : Int32) + ((12 : Int32) * a1))), some (.int x3)]) (by simp [gle]) ?_
  refine g_iter (L := L_X10_puts_22 a0 a1 a2 a3 ((977 : Int32) + ((12 : Int32) * a1))) (s := s_X10_puts_22 a0 a1 a2 a3 ((977 : Int32) + ((12 : Int32) * a1))) (K := K_X10_puts_22 X Q _ _ a0 a1 a2 a3 ((977 : Int32) + ((12 : Int32) * a1))) (W_X10_puts_22 a0 a1 a2 a3 ((977 : Int32) + ((12 : Int32) * a1))) fu (x3, S) _ e14 ?_
  show gW _ _ 56 [some (.ref a0), some (.int a1), some (.int a2), some (.int a3), some (.int ((977 : Int32) + ((12 : Int32) * a1))), none] [] r13.1 r13.2 _ _ _
  refine r_aload_n (pc := 56) dX10_puts_56 rfl ?_
  replace hf := obind hf
  obtain ⟨x15, e16, hf⟩ := hf
  refine q_getA (pc := 57) dX10_puts_57 gX10_7 e16 ?_
  refine r_iload (pc := 60) dX10_puts_60 rfl ?_
  refine r_iload_n (pc := 62) dX10_puts_62 rfl ?_
  refine r_iadd (pc := 63) dX10_puts_63 ?_
  refine r_iload_n (pc := 64) dX10_puts_64 rfl ?_
  replace hf := obind hf
  obtain ⟨S17, e18, hf⟩ := hf
  refine q_iast (pc := 65) dX10_puts_65 e18 ?_
  refine r_aload_n (pc := 66) dX10_puts_66 rfl ?_
  replace hf := obind hf
  obtain ⟨x19, e20, hf⟩ := hf
  refine q_getA (pc := 67) dX10_puts_67 gX10_7 e20 ?_
  refine r_sipush (pc := 70) (916 : Int32) dX10_puts_70 (by decide) ?_
  refine r_iload_n (pc := 73) dX10_puts_73 rfl ?_
  refine r_iadd (pc := 74) dX10_puts_74 ?_
  refine r_dup2 (pc := 75) dX10_puts_75 rfl rfl ?_
  replace hf := obind hf
  obtain ⟨x21, e22, hf⟩ := hf
  refine q_iald (pc := 76) dX10_puts_76 e22 ?_
  refine r_iconst (pc := 77) (1 : Int32) dX10_puts_77 (by decide) ?_
  refine r_iadd (pc := 78) dX10_puts_78 ?_
  replace hf := obind hf
  obtain ⟨S23, e24, hf⟩ := hf
  refine q_iast (pc := 79) dX10_puts_79 e24 ?_
  refine r_return (pc := 80) dX10_puts_80 rfl ?_
  cases hf
  exact hk
abbrev L_X10_pulls_36 (l0 : Nat) (l1 : Int32) (l3 : Int32) (l4 : Int32) : Int32 × pS → List (Option Value) := fun a => [some (.ref l0), some (.int l1), none, some (.int l3), some (.int l4), some (.int a.1)]
abbrev s_X10_pulls_36 (l0 : Nat) (l1 : Int32) (l3 : Int32) (l4 : Int32) : Int32 × pS → pS := fun a => a.2
abbrev K_X10_pulls_36 (X : pX) (Q : pO → Nat → pF → Prop) (mc ms : Nat) (l0 : Nat) (l1 : Int32) (l3 : Int32) (l4 : Int32) : pS → Prop := (fun b => gW X mX10_pulls 77 [some (.ref l0), some (.int l1), none, some (.int l3), some (.int l4), none] [] b.1 b.2 Q mc ms)
def F_X10_pulls_36 (l0 : Nat) (l1 : Int32) (l3 : Int32) (l4 : Int32) : Int32 × pS → Option ((Int32 × pS) ⊕ (pS)) := fun a => (oGA a.2 l0 10 1).bind fun x11 => (oAI a.2 x11 .int ((916 : Int32) + l1)).bind fun x13 => if x13 ≤ a.1 then (some (.inr a.2)) else ((oGA a.2 l0 10 1).bind fun x15 => (oGA a.2 l0 10 1).bind fun x17 => (oAI a.2 x17 .int ((l3 + a.1) + (1 : Int32))).bind fun x19 => (oSI a.2 x15 .int (l3 + a.1) x19).bind fun S21 => some (.inl (a.1 + (1 : Int32), S21)))
set_option maxRecDepth 100000 in
set_option maxHeartbeats 4000000 in
theorem W_X10_pulls_36 {X : pX} {Q : pO → Nat → pF → Prop} {mc ms : Nat} (l0 : Nat) (l1 : Int32) (l3 : Int32) (l4 : Int32) : ∀ (a : Int32 × pS) (r : (Int32 × pS) ⊕ (pS)), F_X10_pulls_36 l0 l1 l3 l4 a = some r → Sum.elim (fun a' => gW X mX10_pulls 36 (L_X10_pulls_36 l0 l1 l3 l4 a') [] (s_X10_pulls_36 l0 l1 l3 l4 a').1 (s_X10_pulls_36 l0 l1 l3 l4 a').2 Q mc ms) (K_X10_pulls_36 X Q mc ms l0 l1 l3 l4) r → gW X mX10_pulls 36 (L_X10_pulls_36 l0 l1 l3 l4 a) [] (s_X10_pulls_36 l0 l1 l3 l4 a).1 (s_X10_pulls_36 l0 l1 l3 l4 a).2 Q mc ms := by
  intro a r hf hk
  obtain ⟨l5, S⟩ := a
  unfold F_X10_pulls_36 at hf
  try dsimp only at hf
  change gW _ _ _ [some (.ref l0), some (.int l1), none, some (.int l3), some (.int l4), some (.int l5)] _ S.1 S.2 _ _ _
  refine r_iload (pc := 36) dX10_pulls_36 rfl ?_
  refine r_aload_n (pc := 38) dX10_pulls_38 rfl ?_
  replace hf := obind hf
  obtain ⟨x11, e12, hf⟩ := hf
  refine q_getA (pc := 39) dX10_pulls_39 gX10_7 e12 ?_
  refine r_sipush (pc := 42) (916 : Int32) dX10_pulls_42 (by decide) ?_
  refine r_iload_n (pc := 45) dX10_pulls_45 rfl ?_
  refine r_iadd (pc := 46) dX10_pulls_46 ?_
  replace hf := obind hf
  obtain ⟨x13, e14, hf⟩ := hf
  refine q_iald (pc := 47) dX10_pulls_47 e14 ?_
  refine r_icmp_ge (pc := 48) 77 dX10_pulls_48 (by decide) (fun hc => ?_) (fun hc => ?_)
  · rw [if_pos hc] at hf
    cases hf
    exact gW.weak (by simp [gle]) hk
  · rw [if_neg hc] at hf
    refine r_aload_n (pc := 51) dX10_pulls_51 rfl ?_
    replace hf := obind hf
    obtain ⟨x15, e16, hf⟩ := hf
    refine q_getA (pc := 52) dX10_pulls_52 gX10_7 e16 ?_
    refine r_iload_n (pc := 55) dX10_pulls_55 rfl ?_
    refine r_iload (pc := 56) dX10_pulls_56 rfl ?_
    refine r_iadd (pc := 58) dX10_pulls_58 ?_
    refine r_aload_n (pc := 59) dX10_pulls_59 rfl ?_
    replace hf := obind hf
    obtain ⟨x17, e18, hf⟩ := hf
    refine q_getA (pc := 60) dX10_pulls_60 gX10_7 e18 ?_
    refine r_iload_n (pc := 63) dX10_pulls_63 rfl ?_
    refine r_iload (pc := 64) dX10_pulls_64 rfl ?_
    refine r_iadd (pc := 66) dX10_pulls_66 ?_
    refine r_iconst (pc := 67) (1 : Int32) dX10_pulls_67 (by decide) ?_
    refine r_iadd (pc := 68) dX10_pulls_68 ?_
    replace hf := obind hf
    obtain ⟨x19, e20, hf⟩ := hf
    refine q_iald (pc := 69) dX10_pulls_69 e20 ?_
    replace hf := obind hf
    obtain ⟨S21, e22, hf⟩ := hf
    refine q_iast (pc := 70) dX10_pulls_70 e22 ?_
    refine r_iinc (pc := 71) dX10_pulls_71 rfl (by decide) ?_
    change gW _ _ _ [some (.ref l0), some (.int l1), none, some (.int l3), some (.int l4), some (.int (l5 + (1 : Int32)))] _ _ _ _ _ _
    refine r_goto (pc := 74) 36 dX10_pulls_74 (by decide) ?_
    cases hf
    exact gW.weak (by simp [gle]) hk
def F_X10_pulls (S : pS) (a0 : Nat) (a1 : Int32) (a2 : Int32) : Option (Int32 × pS) := (oF S a0 10).bind fun _ => (oGA S a0 10 1).bind fun x1 => (oAI S x1 .int (((977 : Int32) + ((12 : Int32) * a1)) + a2)).bind fun x3 => (oGA S a0 10 1).bind fun x5 => (oAI S x5 .int ((916 : Int32) + a1)).bind fun x7 => (oSI S x5 .int ((916 : Int32) + a1) (x7 - (1 : Int32))).bind fun S9 => (iter (F_X10_pulls_36 a0 a1 ((977 : Int32) + ((12 : Int32) * a1)) x3) fu (a2, S9)).bind fun r23 => some (x3, r23)
set_option maxRecDepth 100000 in
set_option maxHeartbeats 4000000 in
theorem C_X10_pulls {X : pX} {Q : pO → Nat → pF → Prop} (S : pS) (a0 : Nat) (a1 : Int32) (a2 : Int32) (r : Int32 × pS) (hf : F_X10_pulls S a0 a1 a2 = some r) (hk : Q (.inl (some (.int r.1))) r.2.1 r.2.2) : gC X mX10_pulls [.ref a0, .int a1, .int a2] S.1 S.2 Q 0 0 := by
  refine gC_of (by decide) (Nat.le_of_ble_eq_true rfl) rfl ?_
  change gW _ _ _ [some (.ref a0), some (.int a1), some (.int a2), none, none, none] _ _ _ _ _ _
  unfold F_X10_pulls at hf
  obtain ⟨_, _, hf⟩ := obind hf
  refine r_sipush (pc := 0) (977 : Int32) dX10_pulls_0 (by decide) ?_
  refine r_bipush (pc := 3) (12 : Int32) dX10_pulls_3 (by decide) ?_
  refine r_iload_n (pc := 5) dX10_pulls_5 rfl ?_
  refine r_imul (pc := 6) dX10_pulls_6 ?_
  refine r_iadd (pc := 7) dX10_pulls_7 ?_
  refine r_istore_n (pc := 8) dX10_pulls_8 (by decide) ?_
  change gW _ _ _ [some (.ref a0), some (.int a1), some (.int a2), some (.int ((977 : Int32) + ((12 : Int32) * a1))), none, none] _ _ _ _ _ _
  refine r_aload_n (pc := 9) dX10_pulls_9 rfl ?_
  replace hf := obind hf
  obtain ⟨x1, e2, hf⟩ := hf
  refine q_getA (pc := 10) dX10_pulls_10 gX10_7 e2 ?_
  refine r_iload_n (pc := 13) dX10_pulls_13 rfl ?_
  refine r_iload_n (pc := 14) dX10_pulls_14 rfl ?_
  refine r_iadd (pc := 15) dX10_pulls_15 ?_
  replace hf := obind hf
  obtain ⟨x3, e4, hf⟩ := hf
  refine q_iald (pc := 16) dX10_pulls_16 e4 ?_
  refine r_istore (pc := 17) dX10_pulls_17 (by decide) ?_
  change gW _ _ _ [some (.ref a0), some (.int a1), some (.int a2), some (.int ((977 : Int32) + ((12 : Int32) * a1))), some (.int x3), none] _ _ _ _ _ _
  refine r_aload_n (pc := 19) dX10_pulls_19 rfl ?_
  replace hf := obind hf
  obtain ⟨x5, e6, hf⟩ := hf
  refine q_getA (pc := 20) dX10_pulls_20 gX10_7 e6 ?_
  refine r_sipush (pc := 23) (916 : Int32) dX10_pulls_23 (by decide) ?_
  refine r_iload_n (pc := 26) dX10_pulls_26 rfl ?_
  refine r_iadd (pc := 27) dX10_pulls_27 ?_
  refine r_dup2 (pc := 28) dX10_pulls_28 rfl rfl ?_
  replace hf := obind hf
  obtain ⟨x7, e8, hf⟩ := hf
  refine q_iald (pc := 29) dX10_pulls_29 e8 ?_
  refine r_iconst (pc := 30) (1 : Int32) dX10_pulls_30 (by decide) ?_
  refine r_isub (pc := 31) dX10_pulls_31 ?_
  replace hf := obind hf
  obtain ⟨S9, e10, hf⟩ := hf
  refine q_iast (pc := 32) dX10_pulls_32 e10 ?_
  refine r_iload_n (pc := 33) dX10_pulls_33 rfl ?_
  refine r_istore (pc := 34) dX10_pulls_34 (by decide) ?_
  change gW _ _ _ [some (.ref a0), some (.int a1), some (.int a2), some (.int ((977 : Int32) + ((12 : Int32) * a1))), some (.int x3), some (.int a2)] _ _ _ _ _ _
  replace hf := obind hf
  obtain ⟨r23, e24, hf⟩ := hf
  refine gW.weak (ls' := [some (.ref a0), some (.int a1), none, some (.int ((977 : Int32) + ((12 : Int32) * a1))), some (.int x3), some (.int a2)]) (by simp [gle]) ?_
  refine g_iter (L := L_X10_pulls_36 a0 a1 ((977 : Int32) + ((12 : Int32) * a1)) x3) (s := s_X10_pulls_36 a0 a1 ((977 : Int32) + ((12 : Int32) * a1)) x3) (K := K_X10_pulls_36 X Q _ _ a0 a1 ((977 : Int32) + ((12 : Int32) * a1)) x3) (W_X10_pulls_36 a0 a1 ((977 : Int32) + ((12 : Int32) * a1)) x3) fu (a2, S9) _ e24 ?_
  show gW _ _ 77 [some (.ref a0), some (.int a1), none, some (.int ((977 : Int32) + ((12 : Int32) * a1))), some (.int x3), none] [] r23.1 r23.2 _ _ _
  refine r_iload (pc := 77) dX10_pulls_77 rfl ?_
  refine r_ireturn (pc := 79) .int dX10_pulls_79 rfl rfl ?_
  cases hf
  exact hk
abbrev L_X10_items_4 (l0 : Nat) (S : pS) : Int32 × Int32 → List (Option Value) := fun a => [some (.ref l0), some (.int a.1), some (.int a.2)]
abbrev s_X10_items_4 (l0 : Nat) (S : pS) : Int32 × Int32 → pS := fun a => S
abbrev K_X10_items_4 (X : pX) (Q : pO → Nat → pF → Prop) (mc ms : Nat) (l0 : Nat) (S : pS) : Int32 → Prop := (fun b => gW X mX10_items 27 [some (.ref l0), some (.int b), none] [] S.1 S.2 Q mc ms)
def F_X10_items_4 (l0 : Nat) (S : pS) : Int32 × Int32 → Option ((Int32 × Int32) ⊕ (Int32)) := fun a => if (61 : Int32) ≤ a.2 then (some (.inr a.1)) else ((oGA S l0 10 1).bind fun x1 => (oAI S x1 .int ((1 : Int32) + a.2)).bind fun x3 => some (.inl (a.1 + x3, a.2 + (1 : Int32))))
set_option maxRecDepth 100000 in
set_option maxHeartbeats 4000000 in
theorem W_X10_items_4 {X : pX} {Q : pO → Nat → pF → Prop} {mc ms : Nat} (l0 : Nat) (S : pS) : ∀ (a : Int32 × Int32) (r : (Int32 × Int32) ⊕ (Int32)), F_X10_items_4 l0 S a = some r → Sum.elim (fun a' => gW X mX10_items 4 (L_X10_items_4 l0 S a') [] (s_X10_items_4 l0 S a').1 (s_X10_items_4 l0 S a').2 Q mc ms) (K_X10_items_4 X Q mc ms l0 S) r → gW X mX10_items 4 (L_X10_items_4 l0 S a) [] (s_X10_items_4 l0 S a).1 (s_X10_items_4 l0 S a).2 Q mc ms := by
  intro a r hf hk
  obtain ⟨l1, l2⟩ := a
  unfold F_X10_items_4 at hf
  try dsimp only at hf
  change gW _ _ _ [some (.ref l0), some (.int l1), some (.int l2)] _ S.1 S.2 _ _ _
  refine r_iload_n (pc := 4) dX10_items_4 rfl ?_
  refine r_bipush (pc := 5) (61 : Int32) dX10_items_5 (by decide) ?_
  refine r_icmp_ge (pc := 7) 27 dX10_items_7 (by decide) (fun hc => ?_) (fun hc => ?_)
  · rw [if_pos hc] at hf
    cases hf
    exact gW.weak (by simp [gle]) hk
  · rw [if_neg hc] at hf
    refine r_iload_n (pc := 10) dX10_items_10 rfl ?_
    refine r_aload_n (pc := 11) dX10_items_11 rfl ?_
    replace hf := obind hf
    obtain ⟨x1, e2, hf⟩ := hf
    refine q_getA (pc := 12) dX10_items_12 gX10_7 e2 ?_
    refine r_iconst (pc := 15) (1 : Int32) dX10_items_15 (by decide) ?_
    refine r_iload_n (pc := 16) dX10_items_16 rfl ?_
    refine r_iadd (pc := 17) dX10_items_17 ?_
    replace hf := obind hf
    obtain ⟨x3, e4, hf⟩ := hf
    refine q_iald (pc := 18) dX10_items_18 e4 ?_
    refine r_iadd (pc := 19) dX10_items_19 ?_
    refine r_istore_n (pc := 20) dX10_items_20 (by decide) ?_
    change gW _ _ _ [some (.ref l0), some (.int (l1 + x3)), some (.int l2)] _ _ _ _ _ _
    refine r_iinc (pc := 21) dX10_items_21 rfl (by decide) ?_
    change gW _ _ _ [some (.ref l0), some (.int (l1 + x3)), some (.int (l2 + (1 : Int32)))] _ _ _ _ _ _
    refine r_goto (pc := 24) 4 dX10_items_24 (by decide) ?_
    cases hf
    exact gW.weak (by simp [gle]) hk
def F_X10_items (S : pS) (a0 : Nat) : Option (Int32) := (oF S a0 10).bind fun _ => (iter (F_X10_items_4 a0 S) fu ((0 : Int32), (0 : Int32))).bind fun r5 => some r5
set_option maxRecDepth 100000 in
set_option maxHeartbeats 4000000 in
theorem C_X10_items {X : pX} {Q : pO → Nat → pF → Prop} (S : pS) (a0 : Nat) (r : Int32) (hf : F_X10_items S a0 = some r) (hk : Q (.inl (some (.int r))) S.1 S.2) : gC X mX10_items [.ref a0] S.1 S.2 Q 0 0 := by
  refine gC_of (by decide) (Nat.le_of_ble_eq_true rfl) rfl ?_
  change gW _ _ _ [some (.ref a0), none, none] _ _ _ _ _ _
  unfold F_X10_items at hf
  obtain ⟨_, _, hf⟩ := obind hf
  refine r_iconst (pc := 0) (0 : Int32) dX10_items_0 (by decide) ?_
  refine r_istore_n (pc := 1) dX10_items_1 (by decide) ?_
  change gW _ _ _ [some (.ref a0), some (.int (0 : Int32)), none] _ _ _ _ _ _
  refine r_iconst (pc := 2) (0 : Int32) dX10_items_2 (by decide) ?_
  refine r_istore_n (pc := 3) dX10_items_3 (by decide) ?_
  change gW _ _ _ [some (.ref a0), some (.int (0 : Int32)), some (.int (0 : Int32))] _ _ _ _ _ _
  replace hf := obind hf
  obtain ⟨r5, e6, hf⟩ := hf
  refine gW.weak (ls' := [some (.ref a0), some (.int (0 : Int32)), some (.int (0 : Int32))]) (by simp [gle]) ?_
  refine g_iter (L := L_X10_items_4 a0 S) (s := s_X10_items_4 a0 S) (K := K_X10_items_4 X Q _ _ a0 S) (W_X10_items_4 a0 S) fu ((0 : Int32), (0 : Int32)) _ e6 ?_
  show gW _ _ 27 [some (.ref a0), some (.int r5), none] [] S.1 S.2 _ _ _
  refine r_iload_n (pc := 27) dX10_items_27 rfl ?_
  refine r_ireturn (pc := 28) .int dX10_items_28 rfl rfl ?_
  cases hf
  exact hk
def F_X10_clear (S : pS) (a0 : Nat) : Option (Int32 × pS) := (oF S a0 10).bind fun _ => (oPI S a0 10 0 (0 : Int32)).bind fun S1 => (F_X10_items S1 a0).bind fun q3 => (F_X10_empties S1 a0).bind fun q5 => (oPI q5 a0 10 5 (0 : Int32)).bind fun S7 => (oPI S7 a0 10 8 (0 : Int32)).bind fun S9 => (oPI S9 a0 10 30 (0 : Int32)).bind fun S11 => some (q3, S11)
set_option maxRecDepth 100000 in
set_option maxHeartbeats 4000000 in
theorem C_X10_clear {X : pX} {Q : pO → Nat → pF → Prop} (S : pS) (a0 : Nat) (r : Int32 × pS) (hf : F_X10_clear S a0 = some r) (hk : Q (.inl (some (.int r.1))) r.2.1 r.2.2) : gC X mX10_clear [.ref a0] S.1 S.2 Q 0 0 := by
  refine gC_of (by decide) (Nat.le_of_ble_eq_true rfl) rfl ?_
  change gW _ _ _ [some (.ref a0), none] _ _ _ _ _ _
  unfold F_X10_clear at hf
  obtain ⟨_, _, hf⟩ := obind hf
  refine r_aload_n (pc := 0) dX10_clear_0 rfl ?_
  refine r_iconst (pc := 1) (0 : Int32) dX10_clear_1 (by decide) ?_
  replace hf := obind hf
  obtain ⟨S1, e2, hf⟩ := hf
  refine q_putI (pc := 2) dX10_clear_2 pX10_139 rfl e2 ?_
  refine r_aload_n (pc := 5) dX10_clear_5 rfl ?_
  replace hf := obind hf
  obtain ⟨q3, e4, hf⟩ := hf
  refine q_callV (pc := 6) (v := some (.int q3)) (S' := S1) mX10_items 10 [] dX10_clear_6 kX10_190 fX10_items iX10_items ⟨by decide, by decide⟩ rfl rfl rfl (Nat.le_of_ble_eq_true rfl) (og e4) (mc1 := 0) (ms1 := 0) (mc2 := 0) (ms2 := 0) (by decide) (by decide) (C_X10_items S1 a0 q3 e4 (qR_mk _ _)) ?_
  change gW _ _ _ _ (.int q3 :: _) _ _ _ _ _
  refine r_istore_n (pc := 9) dX10_clear_9 (by decide) ?_
  change gW _ _ _ [some (.ref a0), some (.int q3)] _ _ _ _ _ _
  refine r_aload_n (pc := 10) dX10_clear_10 rfl ?_
  replace hf := obind hf
  obtain ⟨q5, e6, hf⟩ := hf
  refine q_callV (pc := 11) (v := none) (S' := q5) mX10_empties 10 [] dX10_clear_11 kX10_136 fX10_empties iX10_empties ⟨by decide, by decide⟩ rfl rfl rfl (Nat.le_of_ble_eq_true rfl) (og e6) (mc1 := 0) (ms1 := 0) (mc2 := 0) (ms2 := 0) (by decide) (by decide) (C_X10_empties S1 a0 q5 e6 (qR_mk _ _)) ?_
  refine r_aload_n (pc := 14) dX10_clear_14 rfl ?_
  refine r_iconst (pc := 15) (0 : Int32) dX10_clear_15 (by decide) ?_
  replace hf := obind hf
  obtain ⟨S7, e8, hf⟩ := hf
  refine q_putI (pc := 16) dX10_clear_16 pX10_157 rfl e8 ?_
  refine r_aload_n (pc := 19) dX10_clear_19 rfl ?_
  refine r_iconst (pc := 20) (0 : Int32) dX10_clear_20 (by decide) ?_
  replace hf := obind hf
  obtain ⟨S9, e10, hf⟩ := hf
  refine q_putI (pc := 21) dX10_clear_21 pX10_154 rfl e10 ?_
  refine r_aload_n (pc := 24) dX10_clear_24 rfl ?_
  refine r_iconst (pc := 25) (0 : Int32) dX10_clear_25 (by decide) ?_
  replace hf := obind hf
  obtain ⟨S11, e12, hf⟩ := hf
  refine q_putI (pc := 26) dX10_clear_26 pX10_193 rfl e12 ?_
  refine r_iload_n (pc := 29) dX10_clear_29 rfl ?_
  refine r_ireturn (pc := 30) .int dX10_clear_30 rfl rfl ?_
  cases hf
  exact hk
abbrev L_X10_append_12 (l0 : Nat) (l1 : Int32) (S : pS) : Int32 × Int32 × Int32 → List (Option Value) := fun a => [some (.ref l0), some (.int l1), some (.int a.1), some (.int a.2.1), some (.int a.2.2), none]
abbrev s_X10_append_12 (l0 : Nat) (l1 : Int32) (S : pS) : Int32 × Int32 × Int32 → pS := fun a => S
abbrev K_X10_append_12 (X : pX) (Q : pO → Nat → pF → Prop) (mc ms : Nat) (l0 : Nat) (l1 : Int32) (S : pS) : Int32 × Int32 → Prop := (fun b => gW X mX10_append 76 [some (.ref l0), some (.int l1), some (.int b.1), some (.int b.2), none, none] [] S.1 S.2 Q mc ms)
def F_X10_append_64 (l0 : Nat) (l1 : Int32) (S : pS) (l2 : Int32) (l4 : Int32) : Option ((Int32 × Int32 × Int32) ⊕ (Int32 × Int32)) := some (.inl (l2, (1 : Int32), l4 + (-1 : Int32)))
set_option maxRecDepth 100000 in
set_option maxHeartbeats 4000000 in
theorem W_X10_append_64 {X : pX} {Q : pO → Nat → pF → Prop} {mc ms : Nat} (l0 : Nat) (l1 : Int32) (S : pS) (l2 : Int32) (l4 : Int32) (r : (Int32 × Int32 × Int32) ⊕ (Int32 × Int32)) (hf : F_X10_append_64 l0 l1 S l2 l4 = some r) (hk : Sum.elim (fun a' => gW X mX10_append 12 (L_X10_append_12 l0 l1 S a') [] (s_X10_append_12 l0 l1 S a').1 (s_X10_append_12 l0 l1 S a').2 Q mc ms) (K_X10_append_12 X Q mc ms l0 l1 S) r) : gW X mX10_append 64 [some (.ref l0), some (.int l1), some (.int l2), none, some (.int l4), none] [] S.1 S.2 Q mc ms := by
  unfold F_X10_append_64 at hf
  refine r_iconst (pc := 64) (1 : Int32) dX10_append_64 (by decide) ?_
  refine r_goto (pc := 65) 69 dX10_append_65 (by decide) ?_
  refine r_istore_n (pc := 69) dX10_append_69 (by decide) ?_
  change gW _ _ _ [some (.ref l0), some (.int l1), some (.int l2), some (.int (1 : Int32)), some (.int l4), none] _ _ _ _ _ _
  refine r_iinc (pc := 70) dX10_append_70 rfl (by decide) ?_
  change gW _ _ _ [some (.ref l0), some (.int l1), some (.int l2), some (.int (1 : Int32)), some (.int (l4 + (-1 : Int32))), none] _ _ _ _ _ _
  refine r_goto (pc := 73) 12 dX10_append_73 (by decide) ?_
  cases hf
  exact gW.weak (by simp [gle]) hk
def F_X10_append_41 (l0 : Nat) (l1 : Int32) (S : pS) (l3 : Int32) (l4 : Int32) (l5 : Int32) (t0 : Int32) (t1 : Int32) : Option ((Int32 × Int32 × Int32) ⊕ (Int32 × Int32)) := if l3 = 0 then (some (.inl (t0 + t1, (0 : Int32), l4 + (-1 : Int32)))) else (if l5 = 0 then (F_X10_append_64 l0 l1 S (t0 + t1) l4) else ((F_X10_in S l5 (32 : Int32) (126 : Int32)).bind fun q3 => if q3 = 0 then (some (.inl (t0 + t1, (0 : Int32), l4 + (-1 : Int32)))) else (F_X10_append_64 l0 l1 S (t0 + t1) l4)))
set_option maxRecDepth 100000 in
set_option maxHeartbeats 4000000 in
theorem W_X10_append_41 {X : pX} {Q : pO → Nat → pF → Prop} {mc ms : Nat} (l0 : Nat) (l1 : Int32) (S : pS) (l3 : Int32) (l4 : Int32) (l5 : Int32) (t0 : Int32) (t1 : Int32) (r : (Int32 × Int32 × Int32) ⊕ (Int32 × Int32)) (hf : F_X10_append_41 l0 l1 S l3 l4 l5 t0 t1 = some r) (hk : Sum.elim (fun a' => gW X mX10_append 12 (L_X10_append_12 l0 l1 S a') [] (s_X10_append_12 l0 l1 S a').1 (s_X10_append_12 l0 l1 S a').2 Q mc ms) (K_X10_append_12 X Q mc ms l0 l1 S) r) : gW X mX10_append 41 [some (.ref l0), some (.int l1), none, some (.int l3), some (.int l4), some (.int l5)] [.int t1, .int t0] S.1 S.2 Q mc ms := by
  unfold F_X10_append_41 at hf
  refine r_iadd (pc := 41) dX10_append_41 ?_
  refine r_istore_n (pc := 42) dX10_append_42 (by decide) ?_
  change gW _ _ _ [some (.ref l0), some (.int l1), some (.int (t0 + t1)), some (.int l3), some (.int l4), some (.int l5)] _ _ _ _ _ _
  refine r_iload_n (pc := 43) dX10_append_43 rfl ?_
  refine r_if_eq (pc := 44) 68 dX10_append_44 (by decide) (fun hc => ?_) (fun hc => ?_)
  · rw [if_pos hc] at hf
    refine r_iconst (pc := 68) (0 : Int32) dX10_append_68 (by decide) ?_
    refine r_istore_n (pc := 69) dX10_append_69 (by decide) ?_
    change gW _ _ _ [some (.ref l0), some (.int l1), some (.int (t0 + t1)), some (.int (0 : Int32)), some (.int l4), some (.int l5)] _ _ _ _ _ _
    refine r_iinc (pc := 70) dX10_append_70 rfl (by decide) ?_
    change gW _ _ _ [some (.ref l0), some (.int l1), some (.int (t0 + t1)), some (.int (0 : Int32)), some (.int (l4 + (-1 : Int32))), some (.int l5)] _ _ _ _ _ _
    refine r_goto (pc := 73) 12 dX10_append_73 (by decide) ?_
    cases hf
    exact gW.weak (by simp [gle]) hk
  · rw [if_neg hc] at hf
    refine r_iload (pc := 47) dX10_append_47 rfl ?_
    refine r_if_eq (pc := 49) 64 dX10_append_49 (by decide) (fun hc => ?_) (fun hc => ?_)
    · rw [if_pos hc] at hf
      exact gW.weak (by simp [gle]) (W_X10_append_64 l0 l1 S (t0 + t1) l4 r hf hk)
    · rw [if_neg hc] at hf
      refine r_iload (pc := 52) dX10_append_52 rfl ?_
      refine r_bipush (pc := 54) (32 : Int32) dX10_append_54 (by decide) ?_
      refine r_bipush (pc := 56) (126 : Int32) dX10_append_56 (by decide) ?_
      replace hf := obind hf
      obtain ⟨q3, e4, hf⟩ := hf
      refine q_callS (pc := 58) (v := some (.int q3)) (S' := S) mX10_in [.int l5, .int (32 : Int32), .int (126 : Int32)] dX10_append_58 kX10_142 fX10_in sX10_in ⟨by decide, by decide⟩ rfl rfl (Nat.le_of_ble_eq_true rfl) (mc1 := 0) (ms1 := 0) (mc2 := mc) (ms2 := ms) (by omega) (by omega) (C_X10_in S l5 (32 : Int32) (126 : Int32) q3 e4 (qR_mk _ _)) ?_
      change gW _ _ _ _ (.int q3 :: _) _ _ _ _ _
      refine r_if_eq (pc := 61) 68 dX10_append_61 (by decide) (fun hc => ?_) (fun hc => ?_)
      · rw [if_pos hc] at hf
        refine r_iconst (pc := 68) (0 : Int32) dX10_append_68 (by decide) ?_
        refine r_istore_n (pc := 69) dX10_append_69 (by decide) ?_
        change gW _ _ _ [some (.ref l0), some (.int l1), some (.int (t0 + t1)), some (.int (0 : Int32)), some (.int l4), some (.int l5)] _ _ _ _ _ _
        refine r_iinc (pc := 70) dX10_append_70 rfl (by decide) ?_
        change gW _ _ _ [some (.ref l0), some (.int l1), some (.int (t0 + t1)), some (.int (0 : Int32)), some (.int (l4 + (-1 : Int32))), some (.int l5)] _ _ _ _ _ _
        refine r_goto (pc := 73) 12 dX10_append_73 (by decide) ?_
        cases hf
        exact gW.weak (by simp [gle]) hk
      · rw [if_neg hc] at hf
        exact gW.weak (by simp [gle]) (W_X10_append_64 l0 l1 S (t0 + t1) l4 r hf hk)
def F_X10_append_12 (l0 : Nat) (l1 : Int32) (S : pS) : Int32 × Int32 × Int32 → Option ((Int32 × Int32 × Int32) ⊕ (Int32 × Int32)) := fun a => if a.2.2 < 0 then (some (.inr (a.1, a.2.1))) else (if ¬ ((l1 >>> (((8 : Int32) * a.2.2) &&& 31)) &&& (255 : Int32)) = 0 then (F_X10_append_41 l0 l1 S a.2.1 a.2.2 ((l1 >>> (((8 : Int32) * a.2.2) &&& 31)) &&& (255 : Int32)) a.1 (1 : Int32)) else (F_X10_append_41 l0 l1 S a.2.1 a.2.2 ((l1 >>> (((8 : Int32) * a.2.2) &&& 31)) &&& (255 : Int32)) a.1 (0 : Int32)))
set_option maxRecDepth 100000 in
set_option maxHeartbeats 4000000 in
theorem W_X10_append_12 {X : pX} {Q : pO → Nat → pF → Prop} {mc ms : Nat} (l0 : Nat) (l1 : Int32) (S : pS) : ∀ (a : Int32 × Int32 × Int32) (r : (Int32 × Int32 × Int32) ⊕ (Int32 × Int32)), F_X10_append_12 l0 l1 S a = some r → Sum.elim (fun a' => gW X mX10_append 12 (L_X10_append_12 l0 l1 S a') [] (s_X10_append_12 l0 l1 S a').1 (s_X10_append_12 l0 l1 S a').2 Q mc ms) (K_X10_append_12 X Q mc ms l0 l1 S) r → gW X mX10_append 12 (L_X10_append_12 l0 l1 S a) [] (s_X10_append_12 l0 l1 S a).1 (s_X10_append_12 l0 l1 S a).2 Q mc ms := by
  intro a r hf hk
  obtain ⟨l2, l3, l4⟩ := a
  unfold F_X10_append_12 at hf
  try dsimp only at hf
  change gW _ _ _ [some (.ref l0), some (.int l1), some (.int l2), some (.int l3), some (.int l4), none] _ S.1 S.2 _ _ _
  refine r_iload (pc := 12) dX10_append_12 rfl ?_
  refine r_if_lt (pc := 14) 76 dX10_append_14 (by decide) (fun hc => ?_) (fun hc => ?_)
  · rw [if_pos hc] at hf
    cases hf
    exact gW.weak (by simp [gle]) hk
  · rw [if_neg hc] at hf
    refine r_iload_n (pc := 17) dX10_append_17 rfl ?_
    refine r_bipush (pc := 18) (8 : Int32) dX10_append_18 (by decide) ?_
    refine r_iload (pc := 20) dX10_append_20 rfl ?_
    refine r_imul (pc := 22) dX10_append_22 ?_
    refine r_ishr (pc := 23) dX10_append_23 ?_
    refine r_sipush (pc := 24) (255 : Int32) dX10_append_24 (by decide) ?_
    refine r_iand (pc := 27) dX10_append_27 ?_
    refine r_istore (pc := 28) dX10_append_28 (by decide) ?_
    change gW _ _ _ [some (.ref l0), some (.int l1), some (.int l2), some (.int l3), some (.int l4), some (.int ((l1 >>> (((8 : Int32) * l4) &&& 31)) &&& (255 : Int32)))] _ _ _ _ _ _
    refine r_iload_n (pc := 30) dX10_append_30 rfl ?_
    refine r_iload (pc := 31) dX10_append_31 rfl ?_
    refine r_if_ne (pc := 33) 40 dX10_append_33 (by decide) (fun hc => ?_) (fun hc => ?_)
    · rw [if_pos hc] at hf
      refine r_iconst (pc := 40) (1 : Int32) dX10_append_40 (by decide) ?_
      exact gW.weak (by simp [gle]) (W_X10_append_41 l0 l1 S l3 l4 ((l1 >>> (((8 : Int32) * l4) &&& 31)) &&& (255 : Int32)) l2 (1 : Int32) r hf hk)
    · rw [if_neg hc] at hf
      refine r_iconst (pc := 36) (0 : Int32) dX10_append_36 (by decide) ?_
      refine r_goto (pc := 37) 41 dX10_append_37 (by decide) ?_
      exact gW.weak (by simp [gle]) (W_X10_append_41 l0 l1 S l3 l4 ((l1 >>> (((8 : Int32) * l4) &&& 31)) &&& (255 : Int32)) l2 (0 : Int32) r hf hk)
abbrev L_X10_append_106 (l0 : Nat) (l1 : Int32) : Int32 × pS → List (Option Value) := fun a => [some (.ref l0), some (.int l1), none, none, some (.int a.1), none]
abbrev s_X10_append_106 (l0 : Nat) (l1 : Int32) : Int32 × pS → pS := fun a => a.2
abbrev K_X10_append_106 (X : pX) (Q : pO → Nat → pF → Prop) (mc ms : Nat) (l0 : Nat) (l1 : Int32) : pS → Prop := (fun b => gW X mX10_append 156 [some (.ref l0), some (.int l1), none, none, none, none] [] b.1 b.2 Q mc ms)
def F_X10_append_106 (l0 : Nat) (l1 : Int32) : Int32 × pS → Option ((Int32 × pS) ⊕ (pS)) := fun a => if a.1 < 0 then (some (.inr a.2)) else (if ((l1 >>> (((8 : Int32) * a.1) &&& 31)) &&& (255 : Int32)) = 0 then (some (.inl (a.1 + (-1 : Int32), a.2))) else ((oGA a.2 l0 10 9).bind fun x9 => (oGI a.2 l0 10 10).bind fun x11 => (oSI a.2 x9 .int x11 ((l1 >>> (((8 : Int32) * a.1) &&& 31)) &&& (255 : Int32))).bind fun S13 => (oGI S13 l0 10 10).bind fun x15 => (oPI S13 l0 10 10 (x15 + (1 : Int32))).bind fun S17 => some (.inl (a.1 + (-1 : Int32), S17))))
set_option maxRecDepth 100000 in
set_option maxHeartbeats 4000000 in
theorem W_X10_append_106 {X : pX} {Q : pO → Nat → pF → Prop} {mc ms : Nat} (l0 : Nat) (l1 : Int32) : ∀ (a : Int32 × pS) (r : (Int32 × pS) ⊕ (pS)), F_X10_append_106 l0 l1 a = some r → Sum.elim (fun a' => gW X mX10_append 106 (L_X10_append_106 l0 l1 a') [] (s_X10_append_106 l0 l1 a').1 (s_X10_append_106 l0 l1 a').2 Q mc ms) (K_X10_append_106 X Q mc ms l0 l1) r → gW X mX10_append 106 (L_X10_append_106 l0 l1 a) [] (s_X10_append_106 l0 l1 a).1 (s_X10_append_106 l0 l1 a).2 Q mc ms := by
  intro a r hf hk
  obtain ⟨l4, S⟩ := a
  unfold F_X10_append_106 at hf
  try dsimp only at hf
  change gW _ _ _ [some (.ref l0), some (.int l1), none, none, some (.int l4), none] _ S.1 S.2 _ _ _
  refine r_iload (pc := 106) dX10_append_106 rfl ?_
  refine r_if_lt (pc := 108) 156 dX10_append_108 (by decide) (fun hc => ?_) (fun hc => ?_)
  · rw [if_pos hc] at hf
    cases hf
    exact gW.weak (by simp [gle]) hk
  · rw [if_neg hc] at hf
    refine r_iload_n (pc := 111) dX10_append_111 rfl ?_
    refine r_bipush (pc := 112) (8 : Int32) dX10_append_112 (by decide) ?_
    refine r_iload (pc := 114) dX10_append_114 rfl ?_
    refine r_imul (pc := 116) dX10_append_116 ?_
    refine r_ishr (pc := 117) dX10_append_117 ?_
    refine r_sipush (pc := 118) (255 : Int32) dX10_append_118 (by decide) ?_
    refine r_iand (pc := 121) dX10_append_121 ?_
    refine r_istore (pc := 122) dX10_append_122 (by decide) ?_
    change gW _ _ _ [some (.ref l0), some (.int l1), none, none, some (.int l4), some (.int ((l1 >>> (((8 : Int32) * l4) &&& 31)) &&& (255 : Int32)))] _ _ _ _ _ _
    refine r_iload (pc := 124) dX10_append_124 rfl ?_
    refine r_if_eq (pc := 126) 150 dX10_append_126 (by decide) (fun hc => ?_) (fun hc => ?_)
    · rw [if_pos hc] at hf
      refine r_iinc (pc := 150) dX10_append_150 rfl (by decide) ?_
      change gW _ _ _ [some (.ref l0), some (.int l1), none, none, some (.int (l4 + (-1 : Int32))), some (.int ((l1 >>> (((8 : Int32) * l4) &&& 31)) &&& (255 : Int32)))] _ _ _ _ _ _
      refine r_goto (pc := 153) 106 dX10_append_153 (by decide) ?_
      cases hf
      exact gW.weak (by simp [gle]) hk
    · rw [if_neg hc] at hf
      refine r_aload_n (pc := 129) dX10_append_129 rfl ?_
      replace hf := obind hf
      obtain ⟨x9, e10, hf⟩ := hf
      refine q_getA (pc := 130) dX10_append_130 gX10_25 e10 ?_
      refine r_aload_n (pc := 133) dX10_append_133 rfl ?_
      replace hf := obind hf
      obtain ⟨x11, e12, hf⟩ := hf
      refine q_getI (pc := 134) dX10_append_134 gX10_196 e12 ?_
      refine r_iload (pc := 137) dX10_append_137 rfl ?_
      replace hf := obind hf
      obtain ⟨S13, e14, hf⟩ := hf
      refine q_iast (pc := 139) dX10_append_139 e14 ?_
      refine r_aload_n (pc := 140) dX10_append_140 rfl ?_
      refine r_dup (pc := 141) dX10_append_141 rfl ?_
      replace hf := obind hf
      obtain ⟨x15, e16, hf⟩ := hf
      refine q_getI (pc := 142) dX10_append_142 gX10_196 e16 ?_
      refine r_iconst (pc := 145) (1 : Int32) dX10_append_145 (by decide) ?_
      refine r_iadd (pc := 146) dX10_append_146 ?_
      replace hf := obind hf
      obtain ⟨S17, e18, hf⟩ := hf
      refine q_putI (pc := 147) dX10_append_147 pX10_196 rfl e18 ?_
      refine r_iinc (pc := 150) dX10_append_150 rfl (by decide) ?_
      change gW _ _ _ [some (.ref l0), some (.int l1), none, none, some (.int (l4 + (-1 : Int32))), some (.int ((l1 >>> (((8 : Int32) * l4) &&& 31)) &&& (255 : Int32)))] _ _ _ _ _ _
      refine r_goto (pc := 153) 106 dX10_append_153 (by decide) ?_
      cases hf
      exact gW.weak (by simp [gle]) hk
def F_X10_append (S : pS) (a0 : Nat) (a1 : Int32) : Option (Int32 × pS) := (oF S a0 10).bind fun _ => (oPI S a0 10 0 (0 : Int32)).bind fun S1 => (iter (F_X10_append_12 a0 a1 S1) fu ((0 : Int32), (1 : Int32), (3 : Int32))).bind fun r5 => if ¬ r5.2 = 0 then ((oGI S1 a0 10 10).bind fun x7 => if (x7 + r5.1) ≤ (80 : Int32) then ((iter (F_X10_append_106 a0 a1) fu ((3 : Int32), S1)).bind fun r19 => (oGI r19 a0 10 10).bind fun x21 => some (x21, r19)) else ((F_X10_fails S1 a0 (2 : Int32)).bind fun q23 => some (q23.1, q23.2))) else ((F_X10_fails S1 a0 (1 : Int32)).bind fun q25 => some (q25.1, q25.2))
set_option maxRecDepth 100000 in
set_option maxHeartbeats 4000000 in
theorem C_X10_append {X : pX} {Q : pO → Nat → pF → Prop} (S : pS) (a0 : Nat) (a1 : Int32) (r : Int32 × pS) (hf : F_X10_append S a0 a1 = some r) (hk : Q (.inl (some (.int r.1))) r.2.1 r.2.2) : gC X mX10_append [.ref a0, .int a1] S.1 S.2 Q 0 0 := by
  refine gC_of (by decide) (Nat.le_of_ble_eq_true rfl) rfl ?_
  change gW _ _ _ [some (.ref a0), some (.int a1), none, none, none, none] _ _ _ _ _ _
  unfold F_X10_append at hf
  obtain ⟨_, _, hf⟩ := obind hf
  refine r_aload_n (pc := 0) dX10_append_0 rfl ?_
  refine r_iconst (pc := 1) (0 : Int32) dX10_append_1 (by decide) ?_
  replace hf := obind hf
  obtain ⟨S1, e2, hf⟩ := hf
  refine q_putI (pc := 2) dX10_append_2 pX10_139 rfl e2 ?_
  refine r_iconst (pc := 5) (0 : Int32) dX10_append_5 (by decide) ?_
  refine r_istore_n (pc := 6) dX10_append_6 (by decide) ?_
  change gW _ _ _ [some (.ref a0), some (.int a1), some (.int (0 : Int32)), none, none, none] _ _ _ _ _ _
  refine r_iconst (pc := 7) (1 : Int32) dX10_append_7 (by decide) ?_
  refine r_istore_n (pc := 8) dX10_append_8 (by decide) ?_
  change gW _ _ _ [some (.ref a0), some (.int a1), some (.int (0 : Int32)), some (.int (1 : Int32)), none, none] _ _ _ _ _ _
  refine r_iconst (pc := 9) (3 : Int32) dX10_append_9 (by decide) ?_
  refine r_istore (pc := 10) dX10_append_10 (by decide) ?_
  change gW _ _ _ [some (.ref a0), some (.int a1), some (.int (0 : Int32)), some (.int (1 : Int32)), some (.int (3 : Int32)), none] _ _ _ _ _ _
  replace hf := obind hf
  obtain ⟨r5, e6, hf⟩ := hf
  refine gW.weak (ls' := [some (.ref a0), some (.int a1), some (.int (0 : Int32)), some (.int (1 : Int32)), some (.int (3 : Int32)), none]) (by simp [gle]) ?_
  refine g_iter (L := L_X10_append_12 a0 a1 S1) (s := s_X10_append_12 a0 a1 S1) (K := K_X10_append_12 X Q _ _ a0 a1 S1) (W_X10_append_12 a0 a1 S1) fu ((0 : Int32), (1 : Int32), (3 : Int32)) _ e6 ?_
  show gW _ _ 76 [some (.ref a0), some (.int a1), some (.int r5.1), some (.int r5.2), none, none] [] S1.1 S1.2 _ _ _
  refine r_iload_n (pc := 76) dX10_append_76 rfl ?_
  refine r_if_ne (pc := 77) 86 dX10_append_77 (by decide) (fun hc => ?_) (fun hc => ?_)
  · rw [if_pos hc] at hf
    refine r_aload_n (pc := 86) dX10_append_86 rfl ?_
    replace hf := obind hf
    obtain ⟨x7, e8, hf⟩ := hf
    refine q_getI (pc := 87) dX10_append_87 gX10_196 e8 ?_
    refine r_iload_n (pc := 90) dX10_append_90 rfl ?_
    refine r_iadd (pc := 91) dX10_append_91 ?_
    refine r_bipush (pc := 92) (80 : Int32) dX10_append_92 (by decide) ?_
    refine r_icmp_le (pc := 94) 103 dX10_append_94 (by decide) (fun hc => ?_) (fun hc => ?_)
    · rw [if_pos hc] at hf
      refine r_iconst (pc := 103) (3 : Int32) dX10_append_103 (by decide) ?_
      refine r_istore (pc := 104) dX10_append_104 (by decide) ?_
      change gW _ _ _ [some (.ref a0), some (.int a1), some (.int r5.1), some (.int r5.2), some (.int (3 : Int32)), none] _ _ _ _ _ _
      replace hf := obind hf
      obtain ⟨r19, e20, hf⟩ := hf
      refine gW.weak (ls' := [some (.ref a0), some (.int a1), none, none, some (.int (3 : Int32)), none]) (by simp [gle]) ?_
      refine g_iter (L := L_X10_append_106 a0 a1) (s := s_X10_append_106 a0 a1) (K := K_X10_append_106 X Q _ _ a0 a1) (W_X10_append_106 a0 a1) fu ((3 : Int32), S1) _ e20 ?_
      show gW _ _ 156 [some (.ref a0), some (.int a1), none, none, none, none] [] r19.1 r19.2 _ _ _
      refine r_aload_n (pc := 156) dX10_append_156 rfl ?_
      replace hf := obind hf
      obtain ⟨x21, e22, hf⟩ := hf
      refine q_getI (pc := 157) dX10_append_157 gX10_196 e22 ?_
      refine r_ireturn (pc := 160) .int dX10_append_160 rfl rfl ?_
      cases hf
      exact hk
    · rw [if_neg hc] at hf
      refine r_aload_n (pc := 97) dX10_append_97 rfl ?_
      refine r_iconst (pc := 98) (2 : Int32) dX10_append_98 (by decide) ?_
      replace hf := obind hf
      obtain ⟨q23, e24, hf⟩ := hf
      refine q_callV (pc := 99) (v := some (.int q23.1)) (S' := q23.2) mX10_fails 10 [.int (2 : Int32)] dX10_append_99 kX10_186 fX10_fails iX10_fails ⟨by decide, by decide⟩ rfl rfl rfl (Nat.le_of_ble_eq_true rfl) (og e24) (mc1 := 0) (ms1 := 0) (mc2 := 0) (ms2 := 0) (by decide) (by decide) (C_X10_fails S1 a0 (2 : Int32) q23 e24 (qR_mk _ _)) ?_
      change gW _ _ _ _ (.int q23.1 :: _) _ _ _ _ _
      refine r_ireturn (pc := 102) .int dX10_append_102 rfl rfl ?_
      cases hf
      exact hk
  · rw [if_neg hc] at hf
    refine r_aload_n (pc := 80) dX10_append_80 rfl ?_
    refine r_iconst (pc := 81) (1 : Int32) dX10_append_81 (by decide) ?_
    replace hf := obind hf
    obtain ⟨q25, e26, hf⟩ := hf
    refine q_callV (pc := 82) (v := some (.int q25.1)) (S' := q25.2) mX10_fails 10 [.int (1 : Int32)] dX10_append_82 kX10_186 fX10_fails iX10_fails ⟨by decide, by decide⟩ rfl rfl rfl (Nat.le_of_ble_eq_true rfl) (og e26) (mc1 := 0) (ms1 := 0) (mc2 := 0) (ms2 := 0) (by decide) (by decide) (C_X10_fails S1 a0 (1 : Int32) q25 e26 (qR_mk _ _)) ?_
    change gW _ _ _ _ (.int q25.1 :: _) _ _ _ _ _
    refine r_ireturn (pc := 85) .int dX10_append_85 rfl rfl ?_
    cases hf
    exact hk
