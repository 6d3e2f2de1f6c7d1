abbrev L_X10_contains_2 (l0 : Nat) (l1 : Int32) (l2 : Int32) (S : pS) : Int32 → List (Option Value) := fun a => [some (.ref l0), some (.int l1), some (.int l2), some (.int a), none, none]
abbrev s_X10_contains_2 (l0 : Nat) (l1 : Int32) (l2 : Int32) (S : pS) : Int32 → pS := fun a => S
abbrev K_X10_contains_2 (X : pX) (Q : pO → Nat → pF → Prop) (mc ms : Nat) (l0 : Nat) (l1 : Int32) (l2 : Int32) (S : pS) : (Unit) ⊕ (Unit) → Prop := (Sum.elim (fun b => gW X mX10_contains 96 [some (.ref l0), some (.int l1), some (.int l2), none, none, none] [] S.1 S.2 Q mc ms) (fun b => gW X mX10_contains 104 [some (.ref l0), some (.int l1), some (.int l2), none, none, none] [] S.1 S.2 Q mc ms))
abbrev L_X10_contains_29 (l0 : Nat) (l1 : Int32) (l2 : Int32) (l3 : Int32) (S : pS) : Int32 × Int32 → List (Option Value) := fun a => [some (.ref l0), some (.int l1), some (.int l2), some (.int l3), some (.int a.1), some (.int a.2)]
abbrev s_X10_contains_29 (l0 : Nat) (l1 : Int32) (l2 : Int32) (l3 : Int32) (S : pS) : Int32 × Int32 → pS := fun a => S
abbrev K_X10_contains_29 (X : pX) (Q : pO → Nat → pF → Prop) (mc ms : Nat) (l0 : Nat) (l1 : Int32) (l2 : Int32) (l3 : Int32) (S : pS) : Int32 → Prop := (fun b => gW X mX10_contains 91 [some (.ref l0), some (.int l1), some (.int l2), some (.int l3), some (.int b), none] [] S.1 S.2 Q mc ms)
def F_X10_contains_29 (l0 : Nat) (l1 : Int32) (l2 : Int32) (l3 : Int32) (S : pS) : Int32 × Int32 → Option ((Int32 × Int32) ⊕ (Int32)) := fun a => (oGA S l0 10 27).bind fun x9 => (oAI S x9 .int l2).bind fun x11 => if x11 ≤ a.2 then (some (.inr a.1)) else (if a.1 = 0 then (some (.inl ((0 : Int32), a.2 + (1 : Int32)))) else ((oGA S l0 10 1).bind fun x13 => (oAI S x13 .int ((((306 : Int32) + ((10 : Int32) * l1)) + l3) + a.2)).bind fun x15 => (oGA S l0 10 28).bind fun x17 => (oAI S x17 .int (((10 : Int32) * l2) + a.2)).bind fun x19 => if ¬ x15 = x19 then (some (.inl ((0 : Int32), a.2 + (1 : Int32)))) else (some (.inl ((1 : Int32), a.2 + (1 : Int32))))))
set_option maxRecDepth 100000 in
set_option maxHeartbeats 4000000 in
theorem W_X10_contains_29 {X : pX} {Q : pO → Nat → pF → Prop} {mc ms : Nat} (l0 : Nat) (l1 : Int32) (l2 : Int32) (l3 : Int32) (S : pS) : ∀ (a : Int32 × Int32) (r : (Int32 × Int32) ⊕ (Int32)), F_X10_contains_29 l0 l1 l2 l3 S a = some r → Sum.elim (fun a' => gW X mX10_contains 29 (L_X10_contains_29 l0 l1 l2 l3 S a') [] (s_X10_contains_29 l0 l1 l2 l3 S a').1 (s_X10_contains_29 l0 l1 l2 l3 S a').2 Q mc ms) (K_X10_contains_29 X Q mc ms l0 l1 l2 l3 S) r → gW X mX10_contains 29 (L_X10_contains_29 l0 l1 l2 l3 S a) [] (s_X10_contains_29 l0 l1 l2 l3 S a).1 (s_X10_contains_29 l0 l1 l2 l3 S a).2 Q mc ms := by
  intro a r hf hk
  obtain ⟨l4, l5⟩ := a
  unfold F_X10_contains_29 at hf
  try dsimp only at hf
  change gW _ _ _ [some (.ref l0), some (.int l1), some (.int l2), some (.int l3), some (.int l4), some (.int l5)] _ S.1 S.2 _ _ _
  refine r_iload (pc := 29) dX10_contains_29 rfl ?_
  refine r_aload_n (pc := 31) dX10_contains_31 rfl ?_
  replace hf := obind hf
  obtain ⟨x9, e10, hf⟩ := hf
  refine q_getA (pc := 32) dX10_contains_32 gX10_63 e10 ?_
  refine r_iload_n (pc := 35) dX10_contains_35 rfl ?_
  replace hf := obind hf
  obtain ⟨x11, e12, hf⟩ := hf
  refine q_iald (pc := 36) dX10_contains_36 e12 ?_
  refine r_icmp_ge (pc := 37) 91 dX10_contains_37 (by decide) (fun hc => ?_) (fun hc => ?_)
  · rw [if_pos hc] at hf
    cases hf
    exact gW.weak (by simp [gle]) hk
  · rw [if_neg hc] at hf
    refine r_iload (pc := 40) dX10_contains_40 rfl ?_
    refine r_if_eq (pc := 42) 82 dX10_contains_42 (by decide) (fun hc => ?_) (fun hc => ?_)
    · rw [if_pos hc] at hf
      refine r_iconst (pc := 82) (0 : Int32) dX10_contains_82 (by decide) ?_
      refine r_istore (pc := 83) dX10_contains_83 (by decide) ?_
      change gW _ _ _ [some (.ref l0), some (.int l1), some (.int l2), some (.int l3), some (.int (0 : Int32)), some (.int l5)] _ _ _ _ _ _
      refine r_iinc (pc := 85) dX10_contains_85 rfl (by decide) ?_
      change gW _ _ _ [some (.ref l0), some (.int l1), some (.int l2), some (.int l3), some (.int (0 : Int32)), some (.int (l5 + (1 : Int32)))] _ _ _ _ _ _
      refine r_goto (pc := 88) 29 dX10_contains_88 (by decide) ?_
      cases hf
      exact gW.weak (by simp [gle]) hk
    · rw [if_neg hc] at hf
      refine r_aload_n (pc := 45) dX10_contains_45 rfl ?_
      replace hf := obind hf
      obtain ⟨x13, e14, hf⟩ := hf
      refine q_getA (pc := 46) dX10_contains_46 gX10_7 e14 ?_
      refine r_sipush (pc := 49) (306 : Int32) dX10_contains_49 (by decide) ?_
      refine r_bipush (pc := 52) (10 : Int32) dX10_contains_52 (by decide) ?_
      refine r_iload_n (pc := 54) dX10_contains_54 rfl ?_
      refine r_imul (pc := 55) dX10_contains_55 ?_
      refine r_iadd (pc := 56) dX10_contains_56 ?_
      refine r_iload_n (pc := 57) dX10_contains_57 rfl ?_
      refine r_iadd (pc := 58) dX10_contains_58 ?_
      refine r_iload (pc := 59) dX10_contains_59 rfl ?_
      refine r_iadd (pc := 61) dX10_contains_61 ?_
      replace hf := obind hf
      obtain ⟨x15, e16, hf⟩ := hf
      refine q_iald (pc := 62) dX10_contains_62 e16 ?_
      refine r_aload_n (pc := 63) dX10_contains_63 rfl ?_
      replace hf := obind hf
      obtain ⟨x17, e18, hf⟩ := hf
      refine q_getA (pc := 64) dX10_contains_64 gX10_66 e18 ?_
      refine r_bipush (pc := 67) (10 : Int32) dX10_contains_67 (by decide) ?_
      refine r_iload_n (pc := 69) dX10_contains_69 rfl ?_
      refine r_imul (pc := 70) dX10_contains_70 ?_
      refine r_iload (pc := 71) dX10_contains_71 rfl ?_
      refine r_iadd (pc := 73) dX10_contains_73 ?_
      replace hf := obind hf
      obtain ⟨x19, e20, hf⟩ := hf
      refine q_iald (pc := 74) dX10_contains_74 e20 ?_
      refine r_icmp_ne (pc := 75) 82 dX10_contains_75 (by decide) (fun hc => ?_) (fun hc => ?_)
      · rw [if_pos hc] at hf
        refine r_iconst (pc := 82) (0 : Int32) dX10_contains_82 (by decide) ?_
        refine r_istore (pc := 83) dX10_contains_83 (by decide) ?_
        change gW _ _ _ [some (.ref l0), some (.int l1), some (.int l2), some (.int l3), some (.int (0 : Int32)), some (.int l5)] _ _ _ _ _ _
        refine r_iinc (pc := 85) dX10_contains_85 rfl (by decide) ?_
        change gW _ _ _ [some (.ref l0), some (.int l1), some (.int l2), some (.int l3), some (.int (0 : Int32)), some (.int (l5 + (1 : Int32)))] _ _ _ _ _ _
        refine r_goto (pc := 88) 29 dX10_contains_88 (by decide) ?_
        cases hf
        exact gW.weak (by simp [gle]) hk
      · rw [if_neg hc] at hf
        refine r_iconst (pc := 78) (1 : Int32) dX10_contains_78 (by decide) ?_
        refine r_goto (pc := 79) 83 dX10_contains_79 (by decide) ?_
        refine r_istore (pc := 83) dX10_contains_83 (by decide) ?_
        change gW _ _ _ [some (.ref l0), some (.int l1), some (.int l2), some (.int l3), some (.int (1 : Int32)), some (.int l5)] _ _ _ _ _ _
        refine r_iinc (pc := 85) dX10_contains_85 rfl (by decide) ?_
        change gW _ _ _ [some (.ref l0), some (.int l1), some (.int l2), some (.int l3), some (.int (1 : Int32)), some (.int (l5 + (1 : Int32)))] _ _ _ _ _ _
        refine r_goto (pc := 88) 29 dX10_contains_88 (by decide) ?_
        cases hf
        exact gW.weak (by simp [gle]) hk
def F_X10_contains_2 (l0 : Nat) (l1 : Int32) (l2 : Int32) (S : pS) : Int32 → Option ((Int32) ⊕ ((Unit) ⊕ (Unit))) := fun a => (oGA S l0 10 27).bind fun x1 => (oAI S x1 .int l2).bind fun x3 => (oGA S l0 10 1).bind fun x5 => (oAI S x5 .int ((245 : Int32) + l1)).bind fun x7 => if x7 < (a + x3) then (some (.inr (.inr ()))) else ((iter (F_X10_contains_29 l0 l1 l2 a S) fu ((1 : Int32), (0 : Int32))).bind fun r21 => if r21 = 0 then (some (.inl (a + (1 : Int32)))) else (some (.inr (.inl ()))))
set_option maxRecDepth 100000 in
set_option maxHeartbeats 4000000 in
theorem W_X10_contains_2 {X : pX} {Q : pO → Nat → pF → Prop} {mc ms : Nat} (l0 : Nat) (l1 : Int32) (l2 : Int32) (S : pS) : ∀ (a : Int32) (r : (Int32) ⊕ ((Unit) ⊕ (Unit))), F_X10_contains_2 l0 l1 l2 S a = some r → Sum.elim (fun a' => gW X mX10_contains 2 (L_X10_contains_2 l0 l1 l2 S a') [] (s_X10_contains_2 l0 l1 l2 S a').1 (s_X10_contains_2 l0 l1 l2 S a').2 Q mc ms) (K_X10_contains_2 X Q mc ms l0 l1 l2 S) r → gW X mX10_contains 2 (L_X10_contains_2 l0 l1 l2 S a) [] (s_X10_contains_2 l0 l1 l2 S a).1 (s_X10_contains_2 l0 l1 l2 S a).2 Q mc ms := by
  intro l3 r hf hk
  unfold F_X10_contains_2 at hf
  try dsimp only at hf
  change gW _ _ _ [some (.ref l0), some (.int l1), some (.int l2), some (.int l3), none, none] _ S.1 S.2 _ _ _
  refine r_iload_n (pc := 2) dX10_contains_2 rfl ?_
  refine r_aload_n (pc := 3) dX10_contains_3 rfl ?_
  replace hf := obind hf
  obtain ⟨x1, e2, hf⟩ := hf
  refine q_getA (pc := 4) dX10_contains_4 gX10_63 e2 ?_
  refine r_iload_n (pc := 7) dX10_contains_7 rfl ?_
  replace hf := obind hf
  obtain ⟨x3, e4, hf⟩ := hf
  refine q_iald (pc := 8) dX10_contains_8 e4 ?_
  refine r_iadd (pc := 9) dX10_contains_9 ?_
  refine r_aload_n (pc := 10) dX10_contains_10 rfl ?_
  replace hf := obind hf
  obtain ⟨x5, e6, hf⟩ := hf
  refine q_getA (pc := 11) dX10_contains_11 gX10_7 e6 ?_
  refine r_sipush (pc := 14) (245 : Int32) dX10_contains_14 (by decide) ?_
  refine r_iload_n (pc := 17) dX10_contains_17 rfl ?_
  refine r_iadd (pc := 18) dX10_contains_18 ?_
  replace hf := obind hf
  obtain ⟨x7, e8, hf⟩ := hf
  refine q_iald (pc := 19) dX10_contains_19 e8 ?_
  refine r_icmp_gt (pc := 20) 104 dX10_contains_20 (by decide) (fun hc => ?_) (fun hc => ?_)
  · rw [if_pos hc] at hf
    cases hf
    exact gW.weak (by simp [gle]) hk
  · rw [if_neg hc] at hf
    refine r_iconst (pc := 23) (1 : Int32) dX10_contains_23 (by decide) ?_
    refine r_istore (pc := 24) dX10_contains_24 (by decide) ?_
    change gW _ _ _ [some (.ref l0), some (.int l1), some (.int l2), some (.int l3), some (.int (1 : Int32)), none] _ _ _ _ _ _
    refine r_iconst (pc := 26) (0 : Int32) dX10_contains_26 (by decide) ?_
    refine r_istore (pc := 27) dX10_contains_27 (by decide) ?_
    change gW _ _ _ [some (.ref l0), some (.int l1), some (.int l2), some (.int l3), some (.int (1 : Int32)), some (.int (0 : Int32))] _ _ _ _ _ _
    replace hf := obind hf
    obtain ⟨r21, e22, hf⟩ := hf
    refine gW.weak (ls' := [some (.ref l0), some (.int l1), some (.int l2), some (.int l3), some (.int (1 : Int32)), some (.int (0 : Int32))]) (by simp [gle]) ?_
    refine g_iter (L := L_X10_contains_29 l0 l1 l2 l3 S) (s := s_X10_contains_29 l0 l1 l2 l3 S) (K := K_X10_contains_29 X Q _ _ l0 l1 l2 l3 S) (W_X10_contains_29 l0 l1 l2 l3 S) fu ((1 : Int32), (0 : Int32)) _ e22 ?_
    show gW _ _ 91 [some (.ref l0), some (.int l1), some (.int l2), some (.int l3), some (.int r21), none] [] S.1 S.2 _ _ _
    refine r_iload (pc := 91) dX10_contains_91 rfl ?_
    refine r_if_eq (pc := 93) 98 dX10_contains_93 (by decide) (fun hc => ?_) (fun hc => ?_)
    · rw [if_pos hc] at hf
      refine r_iinc (pc := 98) dX10_contains_98 rfl (by decide) ?_
      change gW _ _ _ [some (.ref l0), some (.int l1), some (.int l2), some (.int (l3 + (1 : Int32))), some (.int r21), none] _ _ _ _ _ _
      refine r_goto (pc := 101) 2 dX10_contains_101 (by decide) ?_
      cases hf
      exact gW.weak (by simp [gle]) hk
    · rw [if_neg hc] at hf
      cases hf
      exact gW.weak (by simp [gle]) hk
def F_X10_contains (S : pS) (a0 : Nat) (a1 : Int32) (a2 : Int32) : Option (Int32) := (oF S a0 10).bind fun _ => (iter (F_X10_contains_2 a0 a1 a2 S) fu (0 : Int32)).bind fun r23 => Sum.elim (fun q25 => some (1 : Int32)) (fun q25 => some (0 : Int32)) r23
set_option maxRecDepth 100000 in
set_option maxHeartbeats 4000000 in
theorem C_X10_contains {X : pX} {Q : pO → Nat → pF → Prop} (S : pS) (a0 : Nat) (a1 : Int32) (a2 : Int32) (r : Int32) (hf : F_X10_contains S a0 a1 a2 = some r) (hk : Q (.inl (some (.int r))) S.1 S.2) : gC X mX10_contains [.ref a0, .int a1, .int a2] S.1 S.2 Q 0 0 := by
  refine gC_of (by decide) (Nat.le_of_ble_eq_true rfl) rfl ?_
  change gW _ _ _ [some (.ref a0), some (.int a1), some (.int a2), none, none, none] _ _ _ _ _ _
  unfold F_X10_contains at hf
  obtain ⟨_, _, hf⟩ := obind hf
  refine r_iconst (pc := 0) (0 : Int32) dX10_contains_0 (by decide) ?_
  refine r_istore_n (pc := 1) dX10_contains_1 (by decide) ?_
  change gW _ _ _ [some (.ref a0), some (.int a1), some (.int a2), some (.int (0 : Int32)), none, none] _ _ _ _ _ _
  replace hf := obind hf
  obtain ⟨r23, e24, hf⟩ := hf
  refine gW.weak (ls' := [some (.ref a0), some (.int a1), some (.int a2), some (.int (0 : Int32)), none, none]) (by simp [gle]) ?_
  refine g_iter (L := L_X10_contains_2 a0 a1 a2 S) (s := s_X10_contains_2 a0 a1 a2 S) (K := K_X10_contains_2 X Q _ _ a0 a1 a2 S) (W_X10_contains_2 a0 a1 a2 S) fu (0 : Int32) _ e24 ?_
  rcases r23 with q25 | q25
  · simp only [Sum.elim_inl, Sum.elim_inr] at hf
    show gW _ _ 96 [some (.ref a0), some (.int a1), some (.int a2), none, none, none] [] S.1 S.2 _ _ _
    refine r_iconst (pc := 96) (1 : Int32) dX10_contains_96 (by decide) ?_
    refine r_ireturn (pc := 97) .boolean dX10_contains_97 rfl rfl ?_
    cases hf
    exact hk
  · simp only [Sum.elim_inl, Sum.elim_inr] at hf
    show gW _ _ 104 [some (.ref a0), some (.int a1), some (.int a2), none, none, none] [] S.1 S.2 _ _ _
    refine r_iconst (pc := 104) (0 : Int32) dX10_contains_104 (by decide) ?_
    refine r_ireturn (pc := 105) .boolean dX10_contains_105 rfl rfl ?_
    cases hf
    exact hk
def F_X10_holds (S : pS) (a0 : Nat) (a1 : Int32) (a2 : Int32) : Option (Int32) := (oF S a0 10).bind fun _ => (oGA S a0 10 25).bind fun x1 => (oAI S x1 .int a2).bind fun x3 => if x3 = (0 : Int32) then ((F_X10_has S a0 a1 (0 : Int32)).bind fun q5 => (oZ q5).bind fun x7 => some x7) else if x3 = (1 : Int32) then ((oGA S a0 10 1).bind fun x9 => (oAI S x9 .int ((123 : Int32) + a1)).bind fun x11 => if x11 = (-1 : Int32) then (some (0 : Int32)) else (some (1 : Int32))) else if x3 = (2 : Int32) then ((oGA S a0 10 1).bind fun x13 => (oAI S x13 .int ((916 : Int32) + a1)).bind fun x15 => if ¬ x15 = 0 then (some (0 : Int32)) else (some (1 : Int32))) else if x3 = (3 : Int32) then ((oGA S a0 10 16).bind fun x17 => (oAI S x17 .int a1).bind fun x19 => if x19 ≤ (1 : Int32) then (some (0 : Int32)) else (some (1 : Int32))) else if x3 = (4 : Int32) then ((F_X10_familyOf S a0 a1 (1 : Int32)).bind fun q21 => (oGA S a0 10 26).bind fun x23 => (oAI S x23 .int a2).bind fun x25 => if q21 ≤ x25 then (some (0 : Int32)) else (some (1 : Int32))) else if x3 = (5 : Int32) then ((F_X10_familyOf S a0 a1 (1 : Int32)).bind fun q27 => (oGA S a0 10 26).bind fun x29 => (oAI S x29 .int a2).bind fun x31 => if x31 ≤ q27 then (some (0 : Int32)) else (some (1 : Int32))) else ((F_X10_contains S a0 a1 a2).bind fun q33 => (oZ q33).bind fun x35 => some x35)
set_option maxRecDepth 100000 in
set_option maxHeartbeats 4000000 in
theorem C_X10_holds {X : pX} {Q : pO → Nat → pF → Prop} (S : pS) (a0 : Nat) (a1 : Int32) (a2 : Int32) (r : Int32) (hf : F_X10_holds S a0 a1 a2 = some r) (hk : Q (.inl (some (.int r))) S.1 S.2) : gC X mX10_holds [.ref a0, .int a1, .int a2] S.1 S.2 Q 0 0 := by
  refine gC_of (by decide) (Nat.le_of_ble_eq_true rfl) rfl ?_
  change gW _ _ _ [some (.ref a0), some (.int a1), some (.int a2)] _ _ _ _ _ _
  unfold F_X10_holds at hf
  obtain ⟨_, _, hf⟩ := obind hf
  refine r_aload_n (pc := 0) dX10_holds_0 rfl ?_
  replace hf := obind hf
  obtain ⟨x1, e2, hf⟩ := hf
  refine q_getA (pc := 1) dX10_holds_1 gX10_57 e2 ?_
  refine r_iload_n (pc := 4) dX10_holds_4 rfl ?_
  replace hf := obind hf
  obtain ⟨x3, e4, hf⟩ := hf
  refine q_iald (pc := 5) dX10_holds_5 e4 ?_
  by_cases hc0 : x3 = (0 : Int32)
  · rw [if_pos hc0] at hf
    refine r_tableIn (pc := 6) 44 dX10_holds_6 (by rw [hc0]; decide) (by rw [hc0]; decide) (off := 38) (by rw [hc0]; rfl) (by decide) ?_
    refine r_aload_n (pc := 44) dX10_holds_44 rfl ?_
    refine r_iload_n (pc := 45) dX10_holds_45 rfl ?_
    refine r_iconst (pc := 46) (0 : Int32) dX10_holds_46 (by decide) ?_
    replace hf := obind hf
    obtain ⟨q5, e6, hf⟩ := hf
    refine q_callV (pc := 47) (v := some (.int q5)) (S' := S) mX10_has 10 [.int a1, .int (0 : Int32)] dX10_holds_47 kX10_270 fX10_has iX10_has ⟨by decide, by decide⟩ rfl rfl rfl (Nat.le_of_ble_eq_true rfl) (og e6) (mc1 := 0) (ms1 := 0) (mc2 := 0) (ms2 := 0) (by decide) (by decide) (C_X10_has S a0 a1 (0 : Int32) q5 e6 (qR_mk _ _)) ?_
    change gW _ _ _ _ (.int q5 :: _) _ _ _ _ _
    replace hf := obind hf
    obtain ⟨x7, e8, hf⟩ := hf
    obtain ⟨e8a, e8b⟩ := oZ_some e8
    rw [e8a] at hf
    refine r_ireturn (pc := 50) .boolean dX10_holds_50 rfl e8b ?_
    cases hf
    exact hk
  rw [if_neg hc0] at hf
  by_cases hc1 : x3 = (1 : Int32)
  · rw [if_pos hc1] at hf
    refine r_tableIn (pc := 6) 51 dX10_holds_6 (by rw [hc1]; decide) (by rw [hc1]; decide) (off := 45) (by rw [hc1]; rfl) (by decide) ?_
    refine r_aload_n (pc := 51) dX10_holds_51 rfl ?_
    replace hf := obind hf
    obtain ⟨x9, e10, hf⟩ := hf
    refine q_getA (pc := 52) dX10_holds_52 gX10_7 e10 ?_
    refine r_bipush (pc := 55) (123 : Int32) dX10_holds_55 (by decide) ?_
    refine r_iload_n (pc := 57) dX10_holds_57 rfl ?_
    refine r_iadd (pc := 58) dX10_holds_58 ?_
    replace hf := obind hf
    obtain ⟨x11, e12, hf⟩ := hf
    refine q_iald (pc := 59) dX10_holds_59 e12 ?_
    refine r_iconst (pc := 60) (-1 : Int32) dX10_holds_60 (by decide) ?_
    refine r_icmp_eq (pc := 61) 68 dX10_holds_61 (by decide) (fun hc => ?_) (fun hc => ?_)
    · rw [if_pos hc] at hf
      refine r_iconst (pc := 68) (0 : Int32) dX10_holds_68 (by decide) ?_
      refine r_ireturn (pc := 69) .boolean dX10_holds_69 rfl rfl ?_
      cases hf
      exact hk
    · rw [if_neg hc] at hf
      refine r_iconst (pc := 64) (1 : Int32) dX10_holds_64 (by decide) ?_
      refine r_goto (pc := 65) 69 dX10_holds_65 (by decide) ?_
      refine r_ireturn (pc := 69) .boolean dX10_holds_69 rfl rfl ?_
      cases hf
      exact hk
  rw [if_neg hc1] at hf
  by_cases hc2 : x3 = (2 : Int32)
  · rw [if_pos hc2] at hf
    refine r_tableIn (pc := 6) 70 dX10_holds_6 (by rw [hc2]; decide) (by rw [hc2]; decide) (off := 64) (by rw [hc2]; rfl) (by decide) ?_
    refine r_aload_n (pc := 70) dX10_holds_70 rfl ?_
    replace hf := obind hf
    obtain ⟨x13, e14, hf⟩ := hf
    refine q_getA (pc := 71) dX10_holds_71 gX10_7 e14 ?_
    refine r_sipush (pc := 74) (916 : Int32) dX10_holds_74 (by decide) ?_
    refine r_iload_n (pc := 77) dX10_holds_77 rfl ?_
    refine r_iadd (pc := 78) dX10_holds_78 ?_
    replace hf := obind hf
    obtain ⟨x15, e16, hf⟩ := hf
    refine q_iald (pc := 79) dX10_holds_79 e16 ?_
    refine r_if_ne (pc := 80) 87 dX10_holds_80 (by decide) (fun hc => ?_) (fun hc => ?_)
    · rw [if_pos hc] at hf
      refine r_iconst (pc := 87) (0 : Int32) dX10_holds_87 (by decide) ?_
      refine r_ireturn (pc := 88) .boolean dX10_holds_88 rfl rfl ?_
      cases hf
      exact hk
    · rw [if_neg hc] at hf
      refine r_iconst (pc := 83) (1 : Int32) dX10_holds_83 (by decide) ?_
      refine r_goto (pc := 84) 88 dX10_holds_84 (by decide) ?_
      refine r_ireturn (pc := 88) .boolean dX10_holds_88 rfl rfl ?_
      cases hf
      exact hk
  rw [if_neg hc2] at hf
  by_cases hc3 : x3 = (3 : Int32)
  · rw [if_pos hc3] at hf
    refine r_tableIn (pc := 6) 89 dX10_holds_6 (by rw [hc3]; decide) (by rw [hc3]; decide) (off := 83) (by rw [hc3]; rfl) (by decide) ?_
    refine r_aload_n (pc := 89) dX10_holds_89 rfl ?_
    replace hf := obind hf
    obtain ⟨x17, e18, hf⟩ := hf
    refine q_getA (pc := 90) dX10_holds_90 gX10_41 e18 ?_
    refine r_iload_n (pc := 93) dX10_holds_93 rfl ?_
    replace hf := obind hf
    obtain ⟨x19, e20, hf⟩ := hf
    refine q_iald (pc := 94) dX10_holds_94 e20 ?_
    refine r_iconst (pc := 95) (1 : Int32) dX10_holds_95 (by decide) ?_
    refine r_icmp_le (pc := 96) 103 dX10_holds_96 (by decide) (fun hc => ?_) (fun hc => ?_)
    · rw [if_pos hc] at hf
      refine r_iconst (pc := 103) (0 : Int32) dX10_holds_103 (by decide) ?_
      refine r_ireturn (pc := 104) .boolean dX10_holds_104 rfl rfl ?_
      cases hf
      exact hk
    · rw [if_neg hc] at hf
      refine r_iconst (pc := 99) (1 : Int32) dX10_holds_99 (by decide) ?_
      refine r_goto (pc := 100) 104 dX10_holds_100 (by decide) ?_
      refine r_ireturn (pc := 104) .boolean dX10_holds_104 rfl rfl ?_
      cases hf
      exact hk
  rw [if_neg hc3] at hf
  by_cases hc4 : x3 = (4 : Int32)
  · rw [if_pos hc4] at hf
    refine r_tableIn (pc := 6) 105 dX10_holds_6 (by rw [hc4]; decide) (by rw [hc4]; decide) (off := 99) (by rw [hc4]; rfl) (by decide) ?_
    refine r_aload_n (pc := 105) dX10_holds_105 rfl ?_
    refine r_iload_n (pc := 106) dX10_holds_106 rfl ?_
    refine r_iconst (pc := 107) (1 : Int32) dX10_holds_107 (by decide) ?_
    replace hf := obind hf
    obtain ⟨q21, e22, hf⟩ := hf
    refine q_callV (pc := 108) (v := some (.int q21)) (S' := S) mX10_familyOf 10 [.int a1, .int (1 : Int32)] dX10_holds_108 kX10_279 fX10_familyOf iX10_familyOf ⟨by decide, by decide⟩ rfl rfl rfl (Nat.le_of_ble_eq_true rfl) (og e22) (mc1 := 0) (ms1 := 0) (mc2 := 0) (ms2 := 0) (by decide) (by decide) (C_X10_familyOf S a0 a1 (1 : Int32) q21 e22 (qR_mk _ _)) ?_
    change gW _ _ _ _ (.int q21 :: _) _ _ _ _ _
    refine r_aload_n (pc := 111) dX10_holds_111 rfl ?_
    replace hf := obind hf
    obtain ⟨x23, e24, hf⟩ := hf
    refine q_getA (pc := 112) dX10_holds_112 gX10_60 e24 ?_
    refine r_iload_n (pc := 115) dX10_holds_115 rfl ?_
    replace hf := obind hf
    obtain ⟨x25, e26, hf⟩ := hf
    refine q_iald (pc := 116) dX10_holds_116 e26 ?_
    refine r_icmp_le (pc := 117) 124 dX10_holds_117 (by decide) (fun hc => ?_) (fun hc => ?_)
    · rw [if_pos hc] at hf
      refine r_iconst (pc := 124) (0 : Int32) dX10_holds_124 (by decide) ?_
      refine r_ireturn (pc := 125) .boolean dX10_holds_125 rfl rfl ?_
      cases hf
      exact hk
    · rw [if_neg hc] at hf
      refine r_iconst (pc := 120) (1 : Int32) dX10_holds_120 (by decide) ?_
      refine r_goto (pc := 121) 125 dX10_holds_121 (by decide) ?_
      refine r_ireturn (pc := 125) .boolean dX10_holds_125 rfl rfl ?_
      cases hf
      exact hk
  rw [if_neg hc4] at hf
  by_cases hc5 : x3 = (5 : Int32)
  · rw [if_pos hc5] at hf
    refine r_tableIn (pc := 6) 126 dX10_holds_6 (by rw [hc5]; decide) (by rw [hc5]; decide) (off := 120) (by rw [hc5]; rfl) (by decide) ?_
    refine r_aload_n (pc := 126) dX10_holds_126 rfl ?_
    refine r_iload_n (pc := 127) dX10_holds_127 rfl ?_
    refine r_iconst (pc := 128) (1 : Int32) dX10_holds_128 (by decide) ?_
    replace hf := obind hf
    obtain ⟨q27, e28, hf⟩ := hf
    refine q_callV (pc := 129) (v := some (.int q27)) (S' := S) mX10_familyOf 10 [.int a1, .int (1 : Int32)] dX10_holds_129 kX10_279 fX10_familyOf iX10_familyOf ⟨by decide, by decide⟩ rfl rfl rfl (Nat.le_of_ble_eq_true rfl) (og e28) (mc1 := 0) (ms1 := 0) (mc2 := 0) (ms2 := 0) (by decide) (by decide) (C_X10_familyOf S a0 a1 (1 : Int32) q27 e28 (qR_mk _ _)) ?_
    change gW _ _ _ _ (.int q27 :: _) _ _ _ _ _
    refine r_aload_n (pc := 132) dX10_holds_132 rfl ?_
    replace hf := obind hf
    obtain ⟨x29, e30, hf⟩ := hf
    refine q_getA (pc := 133) dX10_holds_133 gX10_60 e30 ?_
    refine r_iload_n (pc := 136) dX10_holds_136 rfl ?_
    replace hf := obind hf
    obtain ⟨x31, e32, hf⟩ := hf
    refine q_iald (pc := 137) dX10_holds_137 e32 ?_
    refine r_icmp_ge (pc := 138) 145 dX10_holds_138 (by decide) (fun hc => ?_) (fun hc => ?_)
    · rw [if_pos hc] at hf
      refine r_iconst (pc := 145) (0 : Int32) dX10_holds_145 (by decide) ?_
      refine r_ireturn (pc := 146) .boolean dX10_holds_146 rfl rfl ?_
      cases hf
      exact hk
    · rw [if_neg hc] at hf
      refine r_iconst (pc := 141) (1 : Int32) dX10_holds_141 (by decide) ?_
      refine r_goto (pc := 142) 146 dX10_holds_142 (by decide) ?_
      refine r_ireturn (pc := 146) .boolean dX10_holds_146 rfl rfl ?_
      cases hf
      exact hk
  rw [if_neg hc5] at hf
  refine r_tableOut (pc := 6) 147 dX10_holds_6 (by
    have := tsw_out x3 (0) 6 (fun j hj => by
      match j, hj with
      | 0, _ => exact hc0
      | 1, _ => exact hc1
      | 2, _ => exact hc2
      | 3, _ => exact hc3
      | 4, _ => exact hc4
      | 5, _ => exact hc5
      | j + 6, hj => exact absurd hj (by omega))
    simpa using this) (by decide) ?_
  refine r_aload_n (pc := 147) dX10_holds_147 rfl ?_
  refine r_iload_n (pc := 148) dX10_holds_148 rfl ?_
  refine r_iload_n (pc := 149) dX10_holds_149 rfl ?_
  replace hf := obind hf
  obtain ⟨q33, e34, hf⟩ := hf
  refine q_callV (pc := 150) (v := some (.int q33)) (S' := S) mX10_contains 10 [.int a1, .int a2] dX10_holds_150 kX10_294 fX10_contains iX10_contains ⟨by decide, by decide⟩ rfl rfl rfl (Nat.le_of_ble_eq_true rfl) (og e34) (mc1 := 0) (ms1 := 0) (mc2 := 0) (ms2 := 0) (by decide) (by decide) (C_X10_contains S a0 a1 a2 q33 e34 (qR_mk _ _)) ?_
  change gW _ _ _ _ (.int q33 :: _) _ _ _ _ _
  replace hf := obind hf
  obtain ⟨x35, e36, hf⟩ := hf
  obtain ⟨e36a, e36b⟩ := oZ_some e36
  rw [e36a] at hf
  refine r_ireturn (pc := 153) .boolean dX10_holds_153 rfl e36b ?_
  cases hf
  exact hk
abbrev L_X10_fits_4 (l0 : Nat) (l1 : Int32) (S : pS) : Int32 × Int32 → List (Option Value) := fun a => [some (.ref l0), some (.int l1), some (.int a.1), some (.int a.2)]
abbrev s_X10_fits_4 (l0 : Nat) (l1 : Int32) (S : pS) : Int32 × Int32 → pS := fun a => S
abbrev K_X10_fits_4 (X : pX) (Q : pO → Nat → pF → Prop) (mc ms : Nat) (l0 : Nat) (l1 : Int32) (S : pS) : Int32 → Prop := (fun b => gW X mX10_fits 43 [some (.ref l0), some (.int l1), some (.int b), none] [] S.1 S.2 Q mc ms)
def F_X10_fits_4 (l0 : Nat) (l1 : Int32) (S : pS) : Int32 × Int32 → Option ((Int32 × Int32) ⊕ (Int32)) := fun a => (oGI S l0 10 30).bind fun x1 => if x1 ≤ a.2 then (some (.inr a.1)) else (if a.1 = 0 then (some (.inl ((0 : Int32), a.2 + (1 : Int32)))) else ((F_X10_holds S l0 l1 a.2).bind fun q3 => (oGA S l0 10 29).bind fun x5 => (oAI S x5 .boolean a.2).bind fun x7 => if q3 = x7 then (some (.inl ((0 : Int32), a.2 + (1 : Int32)))) else (some (.inl ((1 : Int32), a.2 + (1 : Int32))))))
set_option maxRecDepth 100000 in
set_option maxHeartbeats 4000000 in
theorem W_X10_fits_4 {X : pX} {Q : pO → Nat → pF → Prop} {mc ms : Nat} (l0 : Nat) (l1 : Int32) (S : pS) : ∀ (a : Int32 × Int32) (r : (Int32 × Int32) ⊕ (Int32)), F_X10_fits_4 l0 l1 S a = some r → Sum.elim (fun a' => gW X mX10_fits 4 (L_X10_fits_4 l0 l1 S a') [] (s_X10_fits_4 l0 l1 S a').1 (s_X10_fits_4 l0 l1 S a').2 Q mc ms) (K_X10_fits_4 X Q mc ms l0 l1 S) r → gW X mX10_fits 4 (L_X10_fits_4 l0 l1 S a) [] (s_X10_fits_4 l0 l1 S a).1 (s_X10_fits_4 l0 l1 S a).2 Q mc ms := by
  intro a r hf hk
  obtain ⟨l2, l3⟩ := a
  unfold F_X10_fits_4 at hf
  try dsimp only at hf
  change gW _ _ _ [some (.ref l0), some (.int l1), some (.int l2), some (.int l3)] _ S.1 S.2 _ _ _
  refine r_iload_n (pc := 4) dX10_fits_4 rfl ?_
  refine r_aload_n (pc := 5) dX10_fits_5 rfl ?_
  replace hf := obind hf
  obtain ⟨x1, e2, hf⟩ := hf
  refine q_getI (pc := 6) dX10_fits_6 gX10_193 e2 ?_
  refine r_icmp_ge (pc := 9) 43 dX10_fits_9 (by decide) (fun hc => ?_) (fun hc => ?_)
  · rw [if_pos hc] at hf
    cases hf
    exact gW.weak (by simp [gle]) hk
  · rw [if_neg hc] at hf
    refine r_iload_n (pc := 12) dX10_fits_12 rfl ?_
    refine r_if_eq (pc := 13) 35 dX10_fits_13 (by decide) (fun hc => ?_) (fun hc => ?_)
    · rw [if_pos hc] at hf
      refine r_iconst (pc := 35) (0 : Int32) dX10_fits_35 (by decide) ?_
      refine r_istore_n (pc := 36) dX10_fits_36 (by decide) ?_
      change gW _ _ _ [some (.ref l0), some (.int l1), some (.int (0 : Int32)), some (.int l3)] _ _ _ _ _ _
      refine r_iinc (pc := 37) dX10_fits_37 rfl (by decide) ?_
      change gW _ _ _ [some (.ref l0), some (.int l1), some (.int (0 : Int32)), some (.int (l3 + (1 : Int32)))] _ _ _ _ _ _
      refine r_goto (pc := 40) 4 dX10_fits_40 (by decide) ?_
      cases hf
      exact gW.weak (by simp [gle]) hk
    · rw [if_neg hc] at hf
      refine r_aload_n (pc := 16) dX10_fits_16 rfl ?_
      refine r_iload_n (pc := 17) dX10_fits_17 rfl ?_
      refine r_iload_n (pc := 18) dX10_fits_18 rfl ?_
      replace hf := obind hf
      obtain ⟨q3, e4, hf⟩ := hf
      refine q_callV (pc := 19) (v := some (.int q3)) (S' := S) mX10_holds 10 [.int l1, .int l3] dX10_fits_19 kX10_297 fX10_holds iX10_holds ⟨by decide, by decide⟩ rfl rfl rfl (Nat.le_of_ble_eq_true rfl) (og e4) (mc1 := 0) (ms1 := 0) (mc2 := mc) (ms2 := ms) (by omega) (by omega) (C_X10_holds S l0 l1 l3 q3 e4 (qR_mk _ _)) ?_
      change gW _ _ _ _ (.int q3 :: _) _ _ _ _ _
      refine r_aload_n (pc := 22) dX10_fits_22 rfl ?_
      replace hf := obind hf
      obtain ⟨x5, e6, hf⟩ := hf
      refine q_getA (pc := 23) dX10_fits_23 gX10_69 e6 ?_
      refine r_iload_n (pc := 26) dX10_fits_26 rfl ?_
      replace hf := obind hf
      obtain ⟨x7, e8, hf⟩ := hf
      refine q_zald (pc := 27) dX10_fits_27 e8 ?_
      refine r_icmp_eq (pc := 28) 35 dX10_fits_28 (by decide) (fun hc => ?_) (fun hc => ?_)
      · rw [if_pos hc] at hf
        refine r_iconst (pc := 35) (0 : Int32) dX10_fits_35 (by decide) ?_
        refine r_istore_n (pc := 36) dX10_fits_36 (by decide) ?_
        change gW _ _ _ [some (.ref l0), some (.int l1), some (.int (0 : Int32)), some (.int l3)] _ _ _ _ _ _
        refine r_iinc (pc := 37) dX10_fits_37 rfl (by decide) ?_
        change gW _ _ _ [some (.ref l0), some (.int l1), some (.int (0 : Int32)), some (.int (l3 + (1 : Int32)))] _ _ _ _ _ _
        refine r_goto (pc := 40) 4 dX10_fits_40 (by decide) ?_
        cases hf
        exact gW.weak (by simp [gle]) hk
      · rw [if_neg hc] at hf
        refine r_iconst (pc := 31) (1 : Int32) dX10_fits_31 (by decide) ?_
        refine r_goto (pc := 32) 36 dX10_fits_32 (by decide) ?_
        refine r_istore_n (pc := 36) dX10_fits_36 (by decide) ?_
        change gW _ _ _ [some (.ref l0), some (.int l1), some (.int (1 : Int32)), some (.int l3)] _ _ _ _ _ _
        refine r_iinc (pc := 37) dX10_fits_37 rfl (by decide) ?_
        change gW _ _ _ [some (.ref l0), some (.int l1), some (.int (1 : Int32)), some (.int (l3 + (1 : Int32)))] _ _ _ _ _ _
        refine r_goto (pc := 40) 4 dX10_fits_40 (by decide) ?_
        cases hf
        exact gW.weak (by simp [gle]) hk
def F_X10_fits (S : pS) (a0 : Nat) (a1 : Int32) : Option (Int32) := (oF S a0 10).bind fun _ => (iter (F_X10_fits_4 a0 a1 S) fu ((1 : Int32), (0 : Int32))).bind fun r9 => (oZ r9).bind fun x11 => some x11
set_option maxRecDepth 100000 in
set_option maxHeartbeats 4000000 in
theorem C_X10_fits {X : pX} {Q : pO → Nat → pF → Prop} (S : pS) (a0 : Nat) (a1 : Int32) (r : Int32) (hf : F_X10_fits S a0 a1 = some r) (hk : Q (.inl (some (.int r))) S.1 S.2) : gC X mX10_fits [.ref a0, .int a1] S.1 S.2 Q 0 0 := by
  refine gC_of (by decide) (Nat.le_of_ble_eq_true rfl) rfl ?_
  change gW _ _ _ [some (.ref a0), some (.int a1), none, none] _ _ _ _ _ _
  unfold F_X10_fits at hf
  obtain ⟨_, _, hf⟩ := obind hf
  refine r_iconst (pc := 0) (1 : Int32) dX10_fits_0 (by decide) ?_
  refine r_istore_n (pc := 1) dX10_fits_1 (by decide) ?_
  change gW _ _ _ [some (.ref a0), some (.int a1), some (.int (1 : Int32)), none] _ _ _ _ _ _
  refine r_iconst (pc := 2) (0 : Int32) dX10_fits_2 (by decide) ?_
  refine r_istore_n (pc := 3) dX10_fits_3 (by decide) ?_
  change gW _ _ _ [some (.ref a0), some (.int a1), some (.int (1 : Int32)), some (.int (0 : Int32))] _ _ _ _ _ _
  replace hf := obind hf
  obtain ⟨r9, e10, hf⟩ := hf
  refine gW.weak (ls' := [some (.ref a0), some (.int a1), some (.int (1 : Int32)), some (.int (0 : Int32))]) (by simp [gle]) ?_
  refine g_iter (L := L_X10_fits_4 a0 a1 S) (s := s_X10_fits_4 a0 a1 S) (K := K_X10_fits_4 X Q _ _ a0 a1 S) (W_X10_fits_4 a0 a1 S) fu ((1 : Int32), (0 : Int32)) _ e10 ?_
  show gW _ _ 43 [some (.ref a0), some (.int a1), some (.int r9), none] [] S.1 S.2 _ _ _
  refine r_iload_n (pc := 43) dX10_fits_43 rfl ?_
  replace hf := obind hf
  obtain ⟨x11, e12, hf⟩ := hf
  obtain ⟨e12a, e12b⟩ := oZ_some e12
  rw [e12a] at hf
  refine r_ireturn (pc := 44) .boolean dX10_fits_44 rfl e12b ?_
  cases hf
  exact hk
def F_X10_top (S : pS) (a0 : Nat) : Option (Int32) := (oF S a0 10).bind fun _ => (oGI S a0 10 8).bind fun x1 => if ¬ x1 = 0 then ((oGA S a0 10 7).bind fun x3 => (oGI S a0 10 8).bind fun x5 => (oAI S x3 .int (x5 - (1 : Int32))).bind fun x7 => some x7) else (some (0 : Int32))
set_option maxRecDepth 100000 in
set_option maxHeartbeats 4000000 in
theorem C_X10_top {X : pX} {Q : pO → Nat → pF → Prop} (S : pS) (a0 : Nat) (r : Int32) (hf : F_X10_top S a0 = some r) (hk : Q (.inl (some (.int r))) S.1 S.2) : gC X mX10_top [.ref a0] S.1 S.2 Q 0 0 := by
  refine gC_of (by decide) (Nat.le_of_ble_eq_true rfl) rfl ?_
  change gW _ _ _ [some (.ref a0)] _ _ _ _ _ _
  unfold F_X10_top at hf
  obtain ⟨_, _, hf⟩ := obind hf
  refine r_aload_n (pc := 0) dX10_top_0 rfl ?_
  replace hf := obind hf
  obtain ⟨x1, e2, hf⟩ := hf
  refine q_getI (pc := 1) dX10_top_1 gX10_154 e2 ?_
  refine r_if_ne (pc := 4) 11 dX10_top_4 (by decide) (fun hc => ?_) (fun hc => ?_)
  · rw [if_pos hc] at hf
    refine r_aload_n (pc := 11) dX10_top_11 rfl ?_
    replace hf := obind hf
    obtain ⟨x3, e4, hf⟩ := hf
    refine q_getA (pc := 12) dX10_top_12 gX10_22 e4 ?_
    refine r_aload_n (pc := 15) dX10_top_15 rfl ?_
    replace hf := obind hf
    obtain ⟨x5, e6, hf⟩ := hf
    refine q_getI (pc := 16) dX10_top_16 gX10_154 e6 ?_
    refine r_iconst (pc := 19) (1 : Int32) dX10_top_19 (by decide) ?_
    refine r_isub (pc := 20) dX10_top_20 ?_
    replace hf := obind hf
    obtain ⟨x7, e8, hf⟩ := hf
    refine q_iald (pc := 21) dX10_top_21 e8 ?_
    refine r_ireturn (pc := 22) .int dX10_top_22 rfl rfl ?_
    cases hf
    exact hk
  · rw [if_neg hc] at hf
    refine r_iconst (pc := 7) (0 : Int32) dX10_top_7 (by decide) ?_
    refine r_goto (pc := 8) 22 dX10_top_8 (by decide) ?_
    refine r_ireturn (pc := 22) .int dX10_top_22 rfl rfl ?_
    cases hf
    exact hk
abbrev L_X10_lines_8 (l0 : Nat) (S : pS) : Int64 × Int32 → List (Option Value) := fun a => [some (.ref l0), some (.long a.1), none, some (.int a.2), none, none, none]
abbrev s_X10_lines_8 (l0 : Nat) (S : pS) : Int64 × Int32 → pS := fun a => S
abbrev K_X10_lines_8 (X : pX) (Q : pO → Nat → pF → Prop) (mc ms : Nat) (l0 : Nat) (S : pS) : Int64 → Prop := (fun b => gW X mX10_lines 46 [some (.ref l0), some (.long b), none, none, none, none, none] [] S.1 S.2 Q mc ms)
def F_X10_lines_37 (l0 : Nat) (S : pS) (l3 : Int32) (t0 : Int64) : Option ((Int64 × Int32) ⊕ (Int64)) := some (.inl (t0 ||| (0 : Int64), l3 + (1 : Int32)))
set_option maxRecDepth 100000 in
set_option maxHeartbeats 4000000 in
theorem W_X10_lines_37 {X : pX} {Q : pO → Nat → pF → Prop} {mc ms : Nat} (l0 : Nat) (S : pS) (l3 : Int32) (t0 : Int64) (r : (Int64 × Int32) ⊕ (Int64)) (hf : F_X10_lines_37 l0 S l3 t0 = some r) (hk : Sum.elim (fun a' => gW X mX10_lines 8 (L_X10_lines_8 l0 S a') [] (s_X10_lines_8 l0 S a').1 (s_X10_lines_8 l0 S a').2 Q mc ms) (K_X10_lines_8 X Q mc ms l0 S) r) : gW X mX10_lines 37 [some (.ref l0), none, none, some (.int l3), none, none, none] [.long t0] S.1 S.2 Q mc ms := by
  unfold F_X10_lines_37 at hf
  refine r_lconst (pc := 37) (0 : Int64) dX10_lines_37 (by decide) ?_
  refine r_lor (pc := 38) dX10_lines_38 ?_
  refine r_lstore_n (pc := 39) dX10_lines_39 (by decide) ?_
  change gW _ _ _ [some (.ref l0), some (.long (t0 ||| (0 : Int64))), none, some (.int l3), none, none, none] _ _ _ _ _ _
  refine r_iinc (pc := 40) dX10_lines_40 rfl (by decide) ?_
  change gW _ _ _ [some (.ref l0), some (.long (t0 ||| (0 : Int64))), none, some (.int (l3 + (1 : Int32))), none, none, none] _ _ _ _ _ _
  refine r_goto (pc := 43) 8 dX10_lines_43 (by decide) ?_
  cases hf
  exact gW.weak (by simp [gle]) hk
def F_X10_lines_8 (l0 : Nat) (S : pS) : Int64 × Int32 → Option ((Int64 × Int32) ⊕ (Int64)) := fun a => if (61 : Int32) ≤ a.2 then (some (.inr a.1)) else ((F_X10_isItem S l0 a.2).bind fun q3 => if q3 = 0 then (F_X10_lines_37 l0 S a.2 a.1) else ((F_X10_fits S l0 a.2).bind fun q5 => if q5 = 0 then (F_X10_lines_37 l0 S a.2 a.1) else (some (.inl (a.1 ||| ((1 : Int64) <<< (a.2.toInt64 &&& 63)), a.2 + (1 : Int32))))))
set_option maxRecDepth 100000 in
set_option maxHeartbeats 4000000 in
theorem W_X10_lines_8 {X : pX} {Q : pO → Nat → pF → Prop} {mc ms : Nat} (l0 : Nat) (S : pS) : ∀ (a : Int64 × Int32) (r : (Int64 × Int32) ⊕ (Int64)), F_X10_lines_8 l0 S a = some r → Sum.elim (fun a' => gW X mX10_lines 8 (L_X10_lines_8 l0 S a') [] (s_X10_lines_8 l0 S a').1 (s_X10_lines_8 l0 S a').2 Q mc ms) (K_X10_lines_8 X Q mc ms l0 S) r → gW X mX10_lines 8 (L_X10_lines_8 l0 S a) [] (s_X10_lines_8 l0 S a).1 (s_X10_lines_8 l0 S a).2 Q mc ms := by
  intro a r hf hk
  obtain ⟨l1, l3⟩ := a
  unfold F_X10_lines_8 at hf
  try dsimp only at hf
  change gW _ _ _ [some (.ref l0), some (.long l1), none, some (.int l3), none, none, none] _ S.1 S.2 _ _ _
  refine r_iload_n (pc := 8) dX10_lines_8 rfl ?_
  refine r_bipush (pc := 9) (61 : Int32) dX10_lines_9 (by decide) ?_
  refine r_icmp_ge (pc := 11) 46 dX10_lines_11 (by decide) (fun hc => ?_) (fun hc => ?_)
  · rw [if_pos hc] at hf
    cases hf
    exact gW.weak (by simp [gle]) hk
  · rw [if_neg hc] at hf
    refine r_lload_n (pc := 14) dX10_lines_14 rfl ?_
    refine r_aload_n (pc := 15) dX10_lines_15 rfl ?_
    refine r_iload_n (pc := 16) dX10_lines_16 rfl ?_
    replace hf := obind hf
    obtain ⟨q3, e4, hf⟩ := hf
    refine q_callV (pc := 17) (v := some (.int q3)) (S' := S) mX10_isItem 10 [.int l3] dX10_lines_17 kX10_146 fX10_isItem iX10_isItem ⟨by decide, by decide⟩ rfl rfl rfl (Nat.le_of_ble_eq_true rfl) (og e4) (mc1 := 0) (ms1 := 0) (mc2 := mc) (ms2 := ms) (by omega) (by omega) (C_X10_isItem S l0 l3 q3 e4 (qR_mk _ _)) ?_
    change gW _ _ _ _ (.int q3 :: _) _ _ _ _ _
    refine r_if_eq (pc := 20) 37 dX10_lines_20 (by decide) (fun hc => ?_) (fun hc => ?_)
    · rw [if_pos hc] at hf
      exact gW.weak (by simp [gle]) (W_X10_lines_37 l0 S l3 l1 r hf hk)
    · rw [if_neg hc] at hf
      refine r_aload_n (pc := 23) dX10_lines_23 rfl ?_
      refine r_iload_n (pc := 24) dX10_lines_24 rfl ?_
      replace hf := obind hf
      obtain ⟨q5, e6, hf⟩ := hf
      refine q_callV (pc := 25) (v := some (.int q5)) (S' := S) mX10_fits 10 [.int l3] dX10_lines_25 kX10_282 fX10_fits iX10_fits ⟨by decide, by decide⟩ rfl rfl rfl (Nat.le_of_ble_eq_true rfl) (og e6) (mc1 := 0) (ms1 := 0) (mc2 := mc) (ms2 := ms) (by omega) (by omega) (C_X10_fits S l0 l3 q5 e6 (qR_mk _ _)) ?_
      change gW _ _ _ _ (.int q5 :: _) _ _ _ _ _
      refine r_if_eq (pc := 28) 37 dX10_lines_28 (by decide) (fun hc => ?_) (fun hc => ?_)
      · rw [if_pos hc] at hf
        exact gW.weak (by simp [gle]) (W_X10_lines_37 l0 S l3 l1 r hf hk)
      · rw [if_neg hc] at hf
        refine r_lconst (pc := 31) (1 : Int64) dX10_lines_31 (by decide) ?_
        refine r_iload_n (pc := 32) dX10_lines_32 rfl ?_
        refine r_lshl (pc := 33) dX10_lines_33 ?_
        refine r_goto (pc := 34) 38 dX10_lines_34 (by decide) ?_
        refine r_lor (pc := 38) dX10_lines_38 ?_
        refine r_lstore_n (pc := 39) dX10_lines_39 (by decide) ?_
        change gW _ _ _ [some (.ref l0), some (.long (l1 ||| ((1 : Int64) <<< (l3.toInt64 &&& 63)))), none, some (.int l3), none, none, none] _ _ _ _ _ _
        refine r_iinc (pc := 40) dX10_lines_40 rfl (by decide) ?_
        change gW _ _ _ [some (.ref l0), some (.long (l1 ||| ((1 : Int64) <<< (l3.toInt64 &&& 63)))), none, some (.int (l3 + (1 : Int32))), none, none, none] _ _ _ _ _ _
        refine r_goto (pc := 43) 8 dX10_lines_43 (by decide) ?_
        cases hf
        exact gW.weak (by simp [gle]) hk
abbrev L_X10_lines_70 (l0 : Nat) (l1 : Int64) : Int32 × pS → List (Option Value) := fun a => [some (.ref l0), some (.long l1), none, some (.int a.1), none, none, none]
abbrev s_X10_lines_70 (l0 : Nat) (l1 : Int64) : Int32 × pS → pS := fun a => a.2
abbrev K_X10_lines_70 (X : pX) (Q : pO → Nat → pF → Prop) (mc ms : Nat) (l0 : Nat) (l1 : Int64) : pS → Prop := (fun b => gW X mX10_lines 252 [some (.ref l0), some (.long l1), none, none, none, none, none] [] b.1 b.2 Q mc ms)
def F_X10_lines_231 (l0 : Nat) (l1 : Int64) (S : pS) (l3 : Int32) (l6 : Int32) : Option ((Int32 × pS) ⊕ (pS)) := (oGA S l0 10 42).bind fun x73 => (oSI S x73 .int (l3 + (1 : Int32)) l6).bind fun S75 => (oGA S75 l0 10 43).bind fun x77 => (oSI S75 x77 .int (l3 + (1 : Int32)) (0 : Int32)).bind fun S79 => some (.inl (l3 + (1 : Int32), S79))
set_option maxRecDepth 100000 in
set_option maxHeartbeats 4000000 in
theorem W_X10_lines_231 {X : pX} {Q : pO → Nat → pF → Prop} {mc ms : Nat} (l0 : Nat) (l1 : Int64) (S : pS) (l3 : Int32) (l6 : Int32) (r : (Int32 × pS) ⊕ (pS)) (hf : F_X10_lines_231 l0 l1 S l3 l6 = some r) (hk : Sum.elim (fun a' => gW X mX10_lines 70 (L_X10_lines_70 l0 l1 a') [] (s_X10_lines_70 l0 l1 a').1 (s_X10_lines_70 l0 l1 a').2 Q mc ms) (K_X10_lines_70 X Q mc ms l0 l1) r) : gW X mX10_lines 231 [some (.ref l0), some (.long l1), none, some (.int l3), none, none, some (.int l6)] [] S.1 S.2 Q mc ms := by
  unfold F_X10_lines_231 at hf
  refine r_iinc (pc := 231) dX10_lines_231 rfl (by decide) ?_
  change gW _ _ _ [some (.ref l0), some (.long l1), none, some (.int (l3 + (1 : Int32))), none, none, some (.int l6)] _ _ _ _ _ _
  refine r_aload_n (pc := 234) dX10_lines_234 rfl ?_
  replace hf := obind hf
  obtain ⟨x73, e74, hf⟩ := hf
  refine q_getA (pc := 235) dX10_lines_235 gX10_100 e74 ?_
  refine r_iload_n (pc := 238) dX10_lines_238 rfl ?_
  refine r_iload (pc := 239) dX10_lines_239 rfl ?_
  replace hf := obind hf
  obtain ⟨S75, e76, hf⟩ := hf
  refine q_iast (pc := 241) dX10_lines_241 e76 ?_
  refine r_aload_n (pc := 242) dX10_lines_242 rfl ?_
  replace hf := obind hf
  obtain ⟨x77, e78, hf⟩ := hf
  refine q_getA (pc := 243) dX10_lines_243 gX10_103 e78 ?_
  refine r_iload_n (pc := 246) dX10_lines_246 rfl ?_
  refine r_iconst (pc := 247) (0 : Int32) dX10_lines_247 (by decide) ?_
  replace hf := obind hf
  obtain ⟨S79, e80, hf⟩ := hf
  refine q_iast (pc := 248) dX10_lines_248 e80 ?_
  refine r_goto (pc := 249) 70 dX10_lines_249 (by decide) ?_
  cases hf
  exact gW.weak (by simp [gle]) hk
def F_X10_lines_161 (l0 : Nat) (l1 : Int64) (S : pS) (l3 : Int32) (l4 : Int32) (l5 : Int32) (l6 : Int32) : Option ((Int32 × pS) ⊕ (pS)) := (oGA S l0 10 37).bind fun x43 => (oGI S l0 10 41).bind fun x45 => (oSI S x43 .int x45 l6).bind fun S47 => (oGA S47 l0 10 38).bind fun x49 => (oGI S47 l0 10 41).bind fun x51 => (oSI S47 x49 .int x51 l3).bind fun S53 => (oGA S53 l0 10 39).bind fun x55 => (oGI S53 l0 10 41).bind fun x57 => (oSI S53 x55 .int x57 l4).bind fun S59 => (oGA S59 l0 10 40).bind fun x61 => (oGI S59 l0 10 41).bind fun x63 => (oSI S59 x61 .int x63 l5).bind fun S65 => (oGI S65 l0 10 41).bind fun x67 => (oPI S65 l0 10 41 (x67 + (1 : Int32))).bind fun S69 => (oGI S69 l0 10 30).bind fun x71 => if 0 < x71 then (F_X10_lines_231 l0 l1 S69 l3 l6) else ((F_X10_has S69 l0 l6 (1 : Int32)).bind fun q81 => if ¬ q81 = 0 then (some (.inl (l3, S69))) else (F_X10_lines_231 l0 l1 S69 l3 l6))
set_option maxRecDepth 100000 in
set_option maxHeartbeats 4000000 in
theorem W_X10_lines_161 {X : pX} {Q : pO → Nat → pF → Prop} {mc ms : Nat} (l0 : Nat) (l1 : Int64) (S : pS) (l3 : Int32) (l4 : Int32) (l5 : Int32) (l6 : Int32) (r : (Int32 × pS) ⊕ (pS)) (hf : F_X10_lines_161 l0 l1 S l3 l4 l5 l6 = some r) (hk : Sum.elim (fun a' => gW X mX10_lines 70 (L_X10_lines_70 l0 l1 a') [] (s_X10_lines_70 l0 l1 a').1 (s_X10_lines_70 l0 l1 a').2 Q mc ms) (K_X10_lines_70 X Q mc ms l0 l1) r) : gW X mX10_lines 161 [some (.ref l0), some (.long l1), none, some (.int l3), some (.int l4), some (.int l5), some (.int l6)] [] S.1 S.2 Q mc ms := by
  unfold F_X10_lines_161 at hf
  refine r_aload_n (pc := 161) dX10_lines_161 rfl ?_
  replace hf := obind hf
  obtain ⟨x43, e44, hf⟩ := hf
  refine q_getA (pc := 162) dX10_lines_162 gX10_88 e44 ?_
  refine r_aload_n (pc := 165) dX10_lines_165 rfl ?_
  replace hf := obind hf
  obtain ⟨x45, e46, hf⟩ := hf
  refine q_getI (pc := 166) dX10_lines_166 gX10_260 e46 ?_
  refine r_iload (pc := 169) dX10_lines_169 rfl ?_
  replace hf := obind hf
  obtain ⟨S47, e48, hf⟩ := hf
  refine q_iast (pc := 171) dX10_lines_171 e48 ?_
  refine r_aload_n (pc := 172) dX10_lines_172 rfl ?_
  replace hf := obind hf
  obtain ⟨x49, e50, hf⟩ := hf
  refine q_getA (pc := 173) dX10_lines_173 gX10_91 e50 ?_
  refine r_aload_n (pc := 176) dX10_lines_176 rfl ?_
  replace hf := obind hf
  obtain ⟨x51, e52, hf⟩ := hf
  refine q_getI (pc := 177) dX10_lines_177 gX10_260 e52 ?_
  refine r_iload_n (pc := 180) dX10_lines_180 rfl ?_
  replace hf := obind hf
  obtain ⟨S53, e54, hf⟩ := hf
  refine q_iast (pc := 181) dX10_lines_181 e54 ?_
  refine r_aload_n (pc := 182) dX10_lines_182 rfl ?_
  replace hf := obind hf
  obtain ⟨x55, e56, hf⟩ := hf
  refine q_getA (pc := 183) dX10_lines_183 gX10_94 e56 ?_
  refine r_aload_n (pc := 186) dX10_lines_186 rfl ?_
  replace hf := obind hf
  obtain ⟨x57, e58, hf⟩ := hf
  refine q_getI (pc := 187) dX10_lines_187 gX10_260 e58 ?_
  refine r_iload (pc := 190) dX10_lines_190 rfl ?_
  replace hf := obind hf
  obtain ⟨S59, e60, hf⟩ := hf
  refine q_iast (pc := 192) dX10_lines_192 e60 ?_
  refine r_aload_n (pc := 193) dX10_lines_193 rfl ?_
  replace hf := obind hf
  obtain ⟨x61, e62, hf⟩ := hf
  refine q_getA (pc := 194) dX10_lines_194 gX10_97 e62 ?_
  refine r_aload_n (pc := 197) dX10_lines_197 rfl ?_
  replace hf := obind hf
  obtain ⟨x63, e64, hf⟩ := hf
  refine q_getI (pc := 198) dX10_lines_198 gX10_260 e64 ?_
  refine r_iload (pc := 201) dX10_lines_201 rfl ?_
  replace hf := obind hf
  obtain ⟨S65, e66, hf⟩ := hf
  refine q_iast (pc := 203) dX10_lines_203 e66 ?_
  refine r_aload_n (pc := 204) dX10_lines_204 rfl ?_
  refine r_dup (pc := 205) dX10_lines_205 rfl ?_
  replace hf := obind hf
  obtain ⟨x67, e68, hf⟩ := hf
  refine q_getI (pc := 206) dX10_lines_206 gX10_260 e68 ?_
  refine r_iconst (pc := 209) (1 : Int32) dX10_lines_209 (by decide) ?_
  refine r_iadd (pc := 210) dX10_lines_210 ?_
  replace hf := obind hf
  obtain ⟨S69, e70, hf⟩ := hf
  refine q_putI (pc := 211) dX10_lines_211 pX10_260 rfl e70 ?_
  refine r_aload_n (pc := 214) dX10_lines_214 rfl ?_
  replace hf := obind hf
  obtain ⟨x71, e72, hf⟩ := hf
  refine q_getI (pc := 215) dX10_lines_215 gX10_193 e72 ?_
  refine r_if_gt (pc := 218) 231 dX10_lines_218 (by decide) (fun hc => ?_) (fun hc => ?_)
  · rw [if_pos hc] at hf
    exact gW.weak (by simp [gle]) (W_X10_lines_231 l0 l1 S69 l3 l6 r hf hk)
  · rw [if_neg hc] at hf
    refine r_aload_n (pc := 221) dX10_lines_221 rfl ?_
    refine r_iload (pc := 222) dX10_lines_222 rfl ?_
    refine r_iconst (pc := 224) (1 : Int32) dX10_lines_224 (by decide) ?_
    replace hf := obind hf
    obtain ⟨q81, e82, hf⟩ := hf
    refine q_callV (pc := 225) (v := some (.int q81)) (S' := S69) mX10_has 10 [.int l6, .int (1 : Int32)] dX10_lines_225 kX10_270 fX10_has iX10_has ⟨by decide, by decide⟩ rfl rfl rfl (Nat.le_of_ble_eq_true rfl) (og e82) (mc1 := 0) (ms1 := 0) (mc2 := mc) (ms2 := ms) (by omega) (by omega) (C_X10_has S69 l0 l6 (1 : Int32) q81 e82 (qR_mk _ _)) ?_
    change gW _ _ _ _ (.int q81 :: _) _ _ _ _ _
    refine r_if_ne (pc := 228) 249 dX10_lines_228 (by decide) (fun hc => ?_) (fun hc => ?_)
    · rw [if_pos hc] at hf
      refine r_goto (pc := 249) 70 dX10_lines_249 (by decide) ?_
      cases hf
      exact gW.weak (by simp [gle]) hk
    · rw [if_neg hc] at hf
      exact gW.weak (by simp [gle]) (W_X10_lines_231 l0 l1 S69 l3 l6 r hf hk)
def F_X10_lines_70 (l0 : Nat) (l1 : Int64) : Int32 × pS → Option ((Int32 × pS) ⊕ (pS)) := fun a => if a.1 < 0 then (some (.inr a.2)) else ((oGA a.2 l0 10 42).bind fun x21 => (oAI a.2 x21 .int a.1).bind fun x23 => (oGA a.2 l0 10 43).bind fun x25 => (oAI a.2 x25 .int a.1).bind fun x27 => (oGA a.2 l0 10 1).bind fun x29 => (oAI a.2 x29 .int ((916 : Int32) + x23)).bind fun x31 => if ¬ x27 = x31 then ((oGA a.2 l0 10 43).bind fun x33 => (oAI a.2 x33 .int a.1).bind fun x35 => (oSI a.2 x33 .int a.1 (x35 + (1 : Int32))).bind fun S37 => (F_X10_child S37 l0 x23 x27).bind fun q39 => (oGI S37 l0 10 30).bind fun x41 => if x41 ≤ 0 then (F_X10_lines_161 l0 l1 S37 a.1 x23 x27 q39) else ((oGA S37 l0 10 19).bind fun x83 => (oAJ S37 x83 .long q39).bind fun x85 => if ¬ (lg_cmp ((x85 ||| ((1 : Int64) <<< (q39.toInt64 &&& 63))) &&& l1) (0 : Int64)) = 0 then (F_X10_lines_161 l0 l1 S37 a.1 x23 x27 q39) else (some (.inl (a.1, S37))))) else (some (.inl (a.1 + (-1 : Int32), a.2))))
set_option maxRecDepth 100000 in
set_option maxHeartbeats 4000000 in
theorem W_X10_lines_70 {X : pX} {Q : pO → Nat → pF → Prop} {mc ms : Nat} (l0 : Nat) (l1 : Int64) : ∀ (a : Int32 × pS) (r : (Int32 × pS) ⊕ (pS)), F_X10_lines_70 l0 l1 a = some r → Sum.elim (fun a' => gW X mX10_lines 70 (L_X10_lines_70 l0 l1 a') [] (s_X10_lines_70 l0 l1 a').1 (s_X10_lines_70 l0 l1 a').2 Q mc ms) (K_X10_lines_70 X Q mc ms l0 l1) r → gW X mX10_lines 70 (L_X10_lines_70 l0 l1 a) [] (s_X10_lines_70 l0 l1 a).1 (s_X10_lines_70 l0 l1 a).2 Q mc ms := by
  intro a r hf hk
  obtain ⟨l3, S⟩ := a
  unfold F_X10_lines_70 at hf
  try dsimp only at hf
  change gW _ _ _ [some (.ref l0), some (.long l1), none, some (.int l3), none, none, none] _ S.1 S.2 _ _ _
  refine r_iload_n (pc := 70) dX10_lines_70 rfl ?_
  refine r_if_lt (pc := 71) 252 dX10_lines_71 (by decide) (fun hc => ?_) (fun hc => ?_)
  · rw [if_pos hc] at hf
    cases hf
    exact gW.weak (by simp [gle]) hk
  · rw [if_neg hc] at hf
    refine r_aload_n (pc := 74) dX10_lines_74 rfl ?_
    replace hf := obind hf
    obtain ⟨x21, e22, hf⟩ := hf
    refine q_getA (pc := 75) dX10_lines_75 gX10_100 e22 ?_
    refine r_iload_n (pc := 78) dX10_lines_78 rfl ?_
    replace hf := obind hf
    obtain ⟨x23, e24, hf⟩ := hf
    refine q_iald (pc := 79) dX10_lines_79 e24 ?_
    refine r_istore (pc := 80) dX10_lines_80 (by decide) ?_
    change gW _ _ _ [some (.ref l0), some (.long l1), none, some (.int l3), some (.int x23), none, none] _ _ _ _ _ _
    refine r_aload_n (pc := 82) dX10_lines_82 rfl ?_
    replace hf := obind hf
    obtain ⟨x25, e26, hf⟩ := hf
    refine q_getA (pc := 83) dX10_lines_83 gX10_103 e26 ?_
    refine r_iload_n (pc := 86) dX10_lines_86 rfl ?_
    replace hf := obind hf
    obtain ⟨x27, e28, hf⟩ := hf
    refine q_iald (pc := 87) dX10_lines_87 e28 ?_
    refine r_istore (pc := 88) dX10_lines_88 (by decide) ?_
    change gW _ _ _ [some (.ref l0), some (.long l1), none, some (.int l3), some (.int x23), some (.int x27), none] _ _ _ _ _ _
    refine r_iload (pc := 90) dX10_lines_90 rfl ?_
    refine r_aload_n (pc := 92) dX10_lines_92 rfl ?_
    replace hf := obind hf
    obtain ⟨x29, e30, hf⟩ := hf
    refine q_getA (pc := 93) dX10_lines_93 gX10_7 e30 ?_
    refine r_sipush (pc := 96) (916 : Int32) dX10_lines_96 (by decide) ?_
    refine r_iload (pc := 99) dX10_lines_99 rfl ?_
    refine r_iadd (pc := 101) dX10_lines_101 ?_
    replace hf := obind hf
    obtain ⟨x31, e32, hf⟩ := hf
    refine q_iald (pc := 102) dX10_lines_102 e32 ?_
    refine r_icmp_ne (pc := 103) 112 dX10_lines_103 (by decide) (fun hc => ?_) (fun hc => ?_)
    · rw [if_pos hc] at hf
      refine r_aload_n (pc := 112) dX10_lines_112 rfl ?_
      replace hf := obind hf
      obtain ⟨x33, e34, hf⟩ := hf
      refine q_getA (pc := 113) dX10_lines_113 gX10_103 e34 ?_
      refine r_iload_n (pc := 116) dX10_lines_116 rfl ?_
      refine r_dup2 (pc := 117) dX10_lines_117 rfl rfl ?_
      replace hf := obind hf
      obtain ⟨x35, e36, hf⟩ := hf
      refine q_iald (pc := 118) dX10_lines_118 e36 ?_
      refine r_iconst (pc := 119) (1 : Int32) dX10_lines_119 (by decide) ?_
      refine r_iadd (pc := 120) dX10_lines_120 ?_
      replace hf := obind hf
      obtain ⟨S37, e38, hf⟩ := hf
      refine q_iast (pc := 121) dX10_lines_121 e38 ?_
      refine r_aload_n (pc := 122) dX10_lines_122 rfl ?_
      refine r_iload (pc := 123) dX10_lines_123 rfl ?_
      refine r_iload (pc := 125) dX10_lines_125 rfl ?_
      replace hf := obind hf
      obtain ⟨q39, e40, hf⟩ := hf
      refine q_callV (pc := 127) (v := some (.int q39)) (S' := S37) mX10_child 10 [.int x23, .int x27] dX10_lines_127 kX10_150 fX10_child iX10_child ⟨by decide, by decide⟩ rfl rfl rfl (Nat.le_of_ble_eq_true rfl) (og e40) (mc1 := 0) (ms1 := 0) (mc2 := mc) (ms2 := ms) (by omega) (by omega) (C_X10_child S37 l0 x23 x27 q39 e40 (qR_mk _ _)) ?_
      change gW _ _ _ _ (.int q39 :: _) _ _ _ _ _
      refine r_istore (pc := 130) dX10_lines_130 (by decide) ?_
      change gW _ _ _ [some (.ref l0), some (.long l1), none, some (.int l3), some (.int x23), some (.int x27), some (.int q39)] _ _ _ _ _ _
      refine r_aload_n (pc := 132) dX10_lines_132 rfl ?_
      replace hf := obind hf
      obtain ⟨x41, e42, hf⟩ := hf
      refine q_getI (pc := 133) dX10_lines_133 gX10_193 e42 ?_
      refine r_if_le (pc := 136) 161 dX10_lines_136 (by decide) (fun hc => ?_) (fun hc => ?_)
      · rw [if_pos hc] at hf
        exact gW.weak (by simp [gle]) (W_X10_lines_161 l0 l1 S37 l3 x23 x27 q39 r hf hk)
      · rw [if_neg hc] at hf
        refine r_aload_n (pc := 139) dX10_lines_139 rfl ?_
        replace hf := obind hf
        obtain ⟨x83, e84, hf⟩ := hf
        refine q_getA (pc := 140) dX10_lines_140 gX10_50 e84 ?_
        refine r_iload (pc := 143) dX10_lines_143 rfl ?_
        replace hf := obind hf
        obtain ⟨x85, e86, hf⟩ := hf
        refine q_lald (pc := 145) dX10_lines_145 e86 ?_
        refine r_lconst (pc := 146) (1 : Int64) dX10_lines_146 (by decide) ?_
        refine r_iload (pc := 147) dX10_lines_147 rfl ?_
        refine r_lshl (pc := 149) dX10_lines_149 ?_
        refine r_lor (pc := 150) dX10_lines_150 ?_
        refine r_lload_n (pc := 151) dX10_lines_151 rfl ?_
        refine r_land (pc := 152) dX10_lines_152 ?_
        refine r_lconst (pc := 153) (0 : Int64) dX10_lines_153 (by decide) ?_
        refine r_lcmp (pc := 154) dX10_lines_154 ?_
        refine r_if_ne (pc := 155) 161 dX10_lines_155 (by decide) (fun hc => ?_) (fun hc => ?_)
        · rw [if_pos hc] at hf
          exact gW.weak (by simp [gle]) (W_X10_lines_161 l0 l1 S37 l3 x23 x27 q39 r hf hk)
        · rw [if_neg hc] at hf
          refine r_goto (pc := 158) 70 dX10_lines_158 (by decide) ?_
          cases hf
          exact gW.weak (by simp [gle]) hk
    · rw [if_neg hc] at hf
      refine r_iinc (pc := 106) dX10_lines_106 rfl (by decide) ?_
      change gW _ _ _ [some (.ref l0), some (.long l1), none, some (.int (l3 + (-1 : Int32))), some (.int x23), some (.int x27), none] _ _ _ _ _ _
      refine r_goto (pc := 109) 70 dX10_lines_109 (by decide) ?_
      cases hf
      exact gW.weak (by simp [gle]) hk
def F_X10_lines (S : pS) (a0 : Nat) : Option (pS) := (oF S a0 10).bind fun _ => (F_X10_knows S a0).bind fun q1 => (iter (F_X10_lines_8 a0 q1) fu ((0 : Int64), (1 : Int32))).bind fun r7 => (oPI q1 a0 10 41 (0 : Int32)).bind fun S9 => (oGA S9 a0 10 42).bind fun x11 => (F_X10_top S9 a0).bind fun q13 => (oSI S9 x11 .int (0 : Int32) q13).bind fun S15 => (oGA S15 a0 10 43).bind fun x17 => (oSI S15 x17 .int (0 : Int32) (0 : Int32)).bind fun S19 => (iter (F_X10_lines_70 a0 r7) fu ((0 : Int32), S19)).bind fun r87 => some r87
set_option maxRecDepth 100000 in
set_option maxHeartbeats 4000000 in
theorem C_X10_lines {X : pX} {Q : pO → Nat → pF → Prop} (S : pS) (a0 : Nat) (r : pS) (hf : F_X10_lines S a0 = some r) (hk : Q (.inl none) r.1 r.2) : gC X mX10_lines [.ref a0] S.1 S.2 Q 0 0 := by
  refine gC_of (by decide) (Nat.le_of_ble_eq_true rfl) rfl ?_
  change gW _ _ _ [some (.ref a0), none, none, none, none, none, none] _ _ _ _ _ _
  unfold F_X10_lines at hf
  obtain ⟨_, _, hf⟩ := obind hf
  refine r_aload_n (pc := 0) dX10_lines_0 rfl ?_
  replace hf := obind hf
  obtain ⟨q1, e2, hf⟩ := hf
  refine q_callV (pc := 1) (v := none) (S' := q1) mX10_knows 10 [] dX10_lines_1 kX10_169 fX10_knows iX10_knows ⟨by decide, by decide⟩ rfl rfl rfl (Nat.le_of_ble_eq_true rfl) (og e2) (mc1 := 0) (ms1 := 0) (mc2 := 0) (ms2 := 0) (by decide) (by decide) (C_X10_knows S a0 q1 e2 (qR_mk _ _)) ?_
  refine r_lconst (pc := 4) (0 : Int64) dX10_lines_4 (by decide) ?_
  refine r_lstore_n (pc := 5) dX10_lines_5 (by decide) ?_
  change gW _ _ _ [some (.ref a0), some (.long (0 : Int64)), none, none, none, none, none] _ _ _ _ _ _
  refine r_iconst (pc := 6) (1 : Int32) dX10_lines_6 (by decide) ?_
  refine r_istore_n (pc := 7) dX10_lines_7 (by decide) ?_
  change gW _ _ _ [some (.ref a0), some (.long (0 : Int64)), none, some (.int (1 : Int32)), none, none, none] _ _ _ _ _ _
  replace hf := obind hf
  obtain ⟨r7, e8, hf⟩ := hf
  refine gW.weak (ls' := [some (.ref a0), some (.long (0 : Int64)), none, some (.int (1 : Int32)), none, none, none]) (by simp [gle]) ?_
  refine g_iter (L := L_X10_lines_8 a0 q1) (s := s_X10_lines_8 a0 q1) (K := K_X10_lines_8 X Q _ _ a0 q1) (W_X10_lines_8 a0 q1) fu ((0 : Int64), (1 : Int32)) _ e8 ?_
  show gW _ _ 46 [some (.ref a0), some (.long r7), none, none, none, none, none] [] q1.1 q1.2 _ _ _
  refine r_aload_n (pc := 46) dX10_lines_46 rfl ?_
  refine r_iconst (pc := 47) (0 : Int32) dX10_lines_47 (by decide) ?_
  replace hf := obind hf
  obtain ⟨S9, e10, hf⟩ := hf
  refine q_putI (pc := 48) dX10_lines_48 pX10_260 rfl e10 ?_
  refine r_iconst (pc := 51) (0 : Int32) dX10_lines_51 (by decide) ?_
  refine r_istore_n (pc := 52) dX10_lines_52 (by decide) ?_
  change gW _ _ _ [some (.ref a0), some (.long r7), none, some (.int (0 : Int32)), none, none, none] _ _ _ _ _ _
  refine r_aload_n (pc := 53) dX10_lines_53 rfl ?_
  replace hf := obind hf
  obtain ⟨x11, e12, hf⟩ := hf
  refine q_getA (pc := 54) dX10_lines_54 gX10_100 e12 ?_
  refine r_iconst (pc := 57) (0 : Int32) dX10_lines_57 (by decide) ?_
  refine r_aload_n (pc := 58) dX10_lines_58 rfl ?_
  replace hf := obind hf
  obtain ⟨q13, e14, hf⟩ := hf
  refine q_callV (pc := 59) (v := some (.int q13)) (S' := S9) mX10_top 10 [] dX10_lines_59 kX10_285 fX10_top iX10_top ⟨by decide, by decide⟩ rfl rfl rfl (Nat.le_of_ble_eq_true rfl) (og e14) (mc1 := 0) (ms1 := 0) (mc2 := 0) (ms2 := 0) (by decide) (by decide) (C_X10_top S9 a0 q13 e14 (qR_mk _ _)) ?_
  change gW _ _ _ _ (.int q13 :: _) _ _ _ _ _
  replace hf := obind hf
  obtain ⟨S15, e16, hf⟩ := hf
  refine q_iast (pc := 62) dX10_lines_62 e16 ?_
  refine r_aload_n (pc := 63) dX10_lines_63 rfl ?_
  replace hf := obind hf
  obtain ⟨x17, e18, hf⟩ := hf
  refine q_getA (pc := 64) dX10_lines_64 gX10_103 e18 ?_
  refine r_iconst (pc := 67) (0 : Int32) dX10_lines_67 (by decide) ?_
  refine r_iconst (pc := 68) (0 : Int32) dX10_lines_68 (by decide) ?_
  replace hf := obind hf
  obtain ⟨S19, e20, hf⟩ := hf
  refine q_iast (pc := 69) dX10_lines_69 e20 ?_
  replace hf := obind hf
  obtain ⟨r87, e88, hf⟩ := hf
  refine gW.weak (ls' := [some (.ref a0), some (.long r7), none, some (.int (0 : Int32)), none, none, none]) (by simp [gle]) ?_
  refine g_iter (L := L_X10_lines_70 a0 r7) (s := s_X10_lines_70 a0 r7) (K := K_X10_lines_70 X Q _ _ a0 r7) (W_X10_lines_70 a0 r7) fu ((0 : Int32), S19) _ e88 ?_
  show gW _ _ 252 [some (.ref a0), some (.long r7), none, none, none, none, none] [] r87.1 r87.2 _ _ _
  refine r_return (pc := 252) dX10_lines_252 rfl ?_
  cases hf
  exact hk
def F_X10_indent (S : pS) (a0 : Nat) (a1 : Int32) : Option (Int32 × pS) := (oF S a0 10).bind fun _ => (oPI S a0 10 0 (0 : Int32)).bind fun S1 => (F_X10_remembers S1 a0).bind fun q3 => (F_X10_lines q3 a0).bind fun q5 => (oGI q5 a0 10 41).bind fun x7 => (F_X10_in q5 a1 (0 : Int32) (x7 - (1 : Int32))).bind fun q9 => if ¬ q9 = 0 then ((oGA q5 a0 10 40).bind fun x11 => (oAI q5 x11 .int a1).bind fun x13 => if ¬ x13 = 0 then ((oGA q5 a0 10 39).bind fun x15 => (oAI q5 x15 .int a1).bind fun x17 => (oGA q5 a0 10 40).bind fun x19 => (oAI q5 x19 .int a1).bind fun x21 => (oGA q5 a0 10 39).bind fun x23 => (oAI q5 x23 .int a1).bind fun x25 => (oGA q5 a0 10 40).bind fun x27 => (oAI q5 x27 .int a1).bind fun x29 => (F_X10_child q5 a0 x25 (x29 - (1 : Int32))).bind fun q31 => (F_X10_moves q5 a0 x17 x21 q31 (-1 : Int32) (40 : Int32)).bind fun q33 => some (q33.1, q33.2)) else ((F_X10_fails q5 a0 (2 : Int32)).bind fun q35 => some (q35.1, q35.2))) else ((F_X10_fails q5 a0 (1 : Int32)).bind fun q37 => some (q37.1, q37.2))
set_option maxRecDepth 100000 in
set_option maxHeartbeats 4000000 in
theorem C_X10_indent {X : pX} {Q : pO → Nat → pF → Prop} (S : pS) (a0 : Nat) (a1 : Int32) (r : Int32 × pS) (hf : F_X10_indent S a0 a1 = some r) (hk : Q (.inl (some (.int r.1))) r.2.1 r.2.2) : gC X mX10_indent [.ref a0, .int a1] S.1 S.2 Q 0 0 := by
  refine gC_of (by decide) (Nat.le_of_ble_eq_true rfl) rfl ?_
  change gW _ _ _ [some (.ref a0), some (.int a1)] _ _ _ _ _ _
  unfold F_X10_indent at hf
  obtain ⟨_, _, hf⟩ := obind hf
  refine r_aload_n (pc := 0) dX10_indent_0 rfl ?_
  refine r_iconst (pc := 1) (0 : Int32) dX10_indent_1 (by decide) ?_
  replace hf := obind hf
  obtain ⟨S1, e2, hf⟩ := hf
  refine q_putI (pc := 2) dX10_indent_2 pX10_139 rfl e2 ?_
  refine r_aload_n (pc := 5) dX10_indent_5 rfl ?_
  replace hf := obind hf
  obtain ⟨q3, e4, hf⟩ := hf
  refine q_callV (pc := 6) (v := none) (S' := q3) mX10_remembers 10 [] dX10_indent_6 kX10_218 fX10_remembers iX10_remembers ⟨by decide, by decide⟩ rfl rfl rfl (Nat.le_of_ble_eq_true rfl) (og e4) (mc1 := 0) (ms1 := 0) (mc2 := 0) (ms2 := 0) (by decide) (by decide) (C_X10_remembers S1 a0 q3 e4 (qR_mk _ _)) ?_
  refine r_aload_n (pc := 9) dX10_indent_9 rfl ?_
  replace hf := obind hf
  obtain ⟨q5, e6, hf⟩ := hf
  refine q_callV (pc := 10) (v := none) (S' := q5) mX10_lines 10 [] dX10_indent_10 kX10_257 fX10_lines iX10_lines ⟨by decide, by decide⟩ rfl rfl rfl (Nat.le_of_ble_eq_true rfl) (og e6) (mc1 := 0) (ms1 := 0) (mc2 := 0) (ms2 := 0) (by decide) (by decide) (C_X10_lines q3 a0 q5 e6 (qR_mk _ _)) ?_
  refine r_iload_n (pc := 13) dX10_indent_13 rfl ?_
  refine r_iconst (pc := 14) (0 : Int32) dX10_indent_14 (by decide) ?_
  refine r_aload_n (pc := 15) dX10_indent_15 rfl ?_
  replace hf := obind hf
  obtain ⟨x7, e8, hf⟩ := hf
  refine q_getI (pc := 16) dX10_indent_16 gX10_260 e8 ?_
  refine r_iconst (pc := 19) (1 : Int32) dX10_indent_19 (by decide) ?_
  refine r_isub (pc := 20) dX10_indent_20 ?_
  replace hf := obind hf
  obtain ⟨q9, e10, hf⟩ := hf
  refine q_callS (pc := 21) (v := some (.int q9)) (S' := q5) mX10_in [.int a1, .int (0 : Int32), .int (x7 - (1 : Int32))] dX10_indent_21 kX10_142 fX10_in sX10_in ⟨by decide, by decide⟩ rfl rfl (Nat.le_of_ble_eq_true rfl) (mc1 := 0) (ms1 := 0) (mc2 := 0) (ms2 := 0) (by decide) (by decide) (C_X10_in q5 a1 (0 : Int32) (x7 - (1 : Int32)) q9 e10 (qR_mk _ _)) ?_
  change gW _ _ _ _ (.int q9 :: _) _ _ _ _ _
  refine r_if_ne (pc := 24) 33 dX10_indent_24 (by decide) (fun hc => ?_) (fun hc => ?_)
  · rw [if_pos hc] at hf
    refine r_aload_n (pc := 33) dX10_indent_33 rfl ?_
    replace hf := obind hf
    obtain ⟨x11, e12, hf⟩ := hf
    refine q_getA (pc := 34) dX10_indent_34 gX10_97 e12 ?_
    refine r_iload_n (pc := 37) dX10_indent_37 rfl ?_
    replace hf := obind hf
    obtain ⟨x13, e14, hf⟩ := hf
    refine q_iald (pc := 38) dX10_indent_38 e14 ?_
    refine r_if_ne (pc := 39) 48 dX10_indent_39 (by decide) (fun hc => ?_) (fun hc => ?_)
    · rw [if_pos hc] at hf
      refine r_aload_n (pc := 48) dX10_indent_48 rfl ?_
      refine r_aload_n (pc := 49) dX10_indent_49 rfl ?_
      replace hf := obind hf
      obtain ⟨x15, e16, hf⟩ := hf
      refine q_getA (pc := 50) dX10_indent_50 gX10_94 e16 ?_
      refine r_iload_n (pc := 53) dX10_indent_53 rfl ?_
      replace hf := obind hf
      obtain ⟨x17, e18, hf⟩ := hf
      refine q_iald (pc := 54) dX10_indent_54 e18 ?_
      refine r_aload_n (pc := 55) dX10_indent_55 rfl ?_
      replace hf := obind hf
      obtain ⟨x19, e20, hf⟩ := hf
      refine q_getA (pc := 56) dX10_indent_56 gX10_97 e20 ?_
      refine r_iload_n (pc := 59) dX10_indent_59 rfl ?_
      replace hf := obind hf
      obtain ⟨x21, e22, hf⟩ := hf
      refine q_iald (pc := 60) dX10_indent_60 e22 ?_
      refine r_aload_n (pc := 61) dX10_indent_61 rfl ?_
      refine r_aload_n (pc := 62) dX10_indent_62 rfl ?_
      replace hf := obind hf
      obtain ⟨x23, e24, hf⟩ := hf
      refine q_getA (pc := 63) dX10_indent_63 gX10_94 e24 ?_
      refine r_iload_n (pc := 66) dX10_indent_66 rfl ?_
      replace hf := obind hf
      obtain ⟨x25, e26, hf⟩ := hf
      refine q_iald (pc := 67) dX10_indent_67 e26 ?_
      refine r_aload_n (pc := 68) dX10_indent_68 rfl ?_
      replace hf := obind hf
      obtain ⟨x27, e28, hf⟩ := hf
      refine q_getA (pc := 69) dX10_indent_69 gX10_97 e28 ?_
      refine r_iload_n (pc := 72) dX10_indent_72 rfl ?_
      replace hf := obind hf
      obtain ⟨x29, e30, hf⟩ := hf
      refine q_iald (pc := 73) dX10_indent_73 e30 ?_
      refine r_iconst (pc := 74) (1 : Int32) dX10_indent_74 (by decide) ?_
      refine r_isub (pc := 75) dX10_indent_75 ?_
      replace hf := obind hf
      obtain ⟨q31, e32, hf⟩ := hf
      refine q_callV (pc := 76) (v := some (.int q31)) (S' := q5) mX10_child 10 [.int x25, .int (x29 - (1 : Int32))] dX10_indent_76 kX10_150 fX10_child iX10_child ⟨by decide, by decide⟩ rfl rfl rfl (Nat.le_of_ble_eq_true rfl) (og e32) (mc1 := 0) (ms1 := 0) (mc2 := 0) (ms2 := 0) (by decide) (by decide) (C_X10_child q5 a0 x25 (x29 - (1 : Int32)) q31 e32 (qR_mk _ _)) ?_
      change gW _ _ _ _ (.int q31 :: _) _ _ _ _ _
      refine r_iconst (pc := 79) (-1 : Int32) dX10_indent_79 (by decide) ?_
      refine r_bipush (pc := 80) (40 : Int32) dX10_indent_80 (by decide) ?_
      replace hf := obind hf
      obtain ⟨q33, e34, hf⟩ := hf
      refine q_callV (pc := 82) (v := some (.int q33.1)) (S' := q33.2) mX10_moves 10 [.int x17, .int x21, .int q31, .int (-1 : Int32), .int (40 : Int32)] dX10_indent_82 kX10_263 fX10_moves iX10_moves ⟨by decide, by decide⟩ rfl rfl rfl (Nat.le_of_ble_eq_true rfl) (og e34) (mc1 := 0) (ms1 := 0) (mc2 := 0) (ms2 := 0) (by decide) (by decide) (C_X10_moves q5 a0 x17 x21 q31 (-1 : Int32) (40 : Int32) q33 e34 (qR_mk _ _)) ?_
      change gW _ _ _ _ (.int q33.1 :: _) _ _ _ _ _
      refine r_ireturn (pc := 85) .int dX10_indent_85 rfl rfl ?_
      cases hf
      exact hk
    · rw [if_neg hc] at hf
      refine r_aload_n (pc := 42) dX10_indent_42 rfl ?_
      refine r_iconst (pc := 43) (2 : Int32) dX10_indent_43 (by decide) ?_
      replace hf := obind hf
      obtain ⟨q35, e36, hf⟩ := hf
      refine q_callV (pc := 44) (v := some (.int q35.1)) (S' := q35.2) mX10_fails 10 [.int (2 : Int32)] dX10_indent_44 kX10_186 fX10_fails iX10_fails ⟨by decide, by decide⟩ rfl rfl rfl (Nat.le_of_ble_eq_true rfl) (og e36) (mc1 := 0) (ms1 := 0) (mc2 := 0) (ms2 := 0) (by decide) (by decide) (C_X10_fails q5 a0 (2 : Int32) q35 e36 (qR_mk _ _)) ?_
      change gW _ _ _ _ (.int q35.1 :: _) _ _ _ _ _
      refine r_ireturn (pc := 47) .int dX10_indent_47 rfl rfl ?_
      cases hf
      exact hk
  · rw [if_neg hc] at hf
    refine r_aload_n (pc := 27) dX10_indent_27 rfl ?_
    refine r_iconst (pc := 28) (1 : Int32) dX10_indent_28 (by decide) ?_
    replace hf := obind hf
    obtain ⟨q37, e38, hf⟩ := hf
    refine q_callV (pc := 29) (v := some (.int q37.1)) (S' := q37.2) mX10_fails 10 [.int (1 : Int32)] dX10_indent_29 kX10_186 fX10_fails iX10_fails ⟨by decide, by decide⟩ rfl rfl rfl (Nat.le_of_ble_eq_true rfl) (og e38) (mc1 := 0) (ms1 := 0) (mc2 := 0) (ms2 := 0) (by decide) (by decide) (C_X10_fails q5 a0 (1 : Int32) q37 e38 (qR_mk _ _)) ?_
    change gW _ _ _ _ (.int q37.1 :: _) _ _ _ _ _
    refine r_ireturn (pc := 32) .int dX10_indent_32 rfl rfl ?_
    cases hf
    exact hk
abbrev L_X10_upFrom_2 (l0 : Nat) (l1 : Int32) (S : pS) : Int32 → List (Option Value) := fun a => [some (.ref l0), some (.int l1), some (.int a)]
abbrev s_X10_upFrom_2 (l0 : Nat) (l1 : Int32) (S : pS) : Int32 → pS := fun a => S
abbrev K_X10_upFrom_2 (X : pX) (Q : pO → Nat → pF → Prop) (mc ms : Nat) (l0 : Nat) (l1 : Int32) (S : pS) : Int32 → Prop := (fun b => gW X mX10_upFrom 23 [some (.ref l0), some (.int l1), some (.int b)] [] S.1 S.2 Q mc ms)
def F_X10_upFrom_2 (l0 : Nat) (l1 : Int32) (S : pS) : Int32 → Option ((Int32) ⊕ (Int32)) := fun a => (oGA S l0 10 38).bind fun x1 => (oAI S x1 .int a).bind fun x3 => (oGA S l0 10 38).bind fun x5 => (oAI S x5 .int l1).bind fun x7 => if x3 < x7 then (some (.inr a)) else (some (.inl (a + (-1 : Int32))))
set_option maxRecDepth 100000 in
set_option maxHeartbeats 4000000 in
theorem W_X10_upFrom_2 {X : pX} {Q : pO → Nat → pF → Prop} {mc ms : Nat} (l0 : Nat) (l1 : Int32) (S : pS) : ∀ (a : Int32) (r : (Int32) ⊕ (Int32)), F_X10_upFrom_2 l0 l1 S a = some r → Sum.elim (fun a' => gW X mX10_upFrom 2 (L_X10_upFrom_2 l0 l1 S a') [] (s_X10_upFrom_2 l0 l1 S a').1 (s_X10_upFrom_2 l0 l1 S a').2 Q mc ms) (K_X10_upFrom_2 X Q mc ms l0 l1 S) r → gW X mX10_upFrom 2 (L_X10_upFrom_2 l0 l1 S a) [] (s_X10_upFrom_2 l0 l1 S a).1 (s_X10_upFrom_2 l0 l1 S a).2 Q mc ms := by
  intro l2 r hf hk
  unfold F_X10_upFrom_2 at hf
  try dsimp only at hf
  change gW _ _ _ [some (.ref l0), some (.int l1), some (.int l2)] _ S.1 S.2 _ _ _
  refine r_aload_n (pc := 2) dX10_upFrom_2 rfl ?_
  replace hf := obind hf
  obtain ⟨x1, e2, hf⟩ := hf
  refine q_getA (pc := 3) dX10_upFrom_3 gX10_91 e2 ?_
  refine r_iload_n (pc := 6) dX10_upFrom_6 rfl ?_
  replace hf := obind hf
  obtain ⟨x3, e4, hf⟩ := hf
  refine q_iald (pc := 7) dX10_upFrom_7 e4 ?_
  refine r_aload_n (pc := 8) dX10_upFrom_8 rfl ?_
  replace hf := obind hf
  obtain ⟨x5, e6, hf⟩ := hf
  refine q_getA (pc := 9) dX10_upFrom_9 gX10_91 e6 ?_
  refine r_iload_n (pc := 12) dX10_upFrom_12 rfl ?_
  replace hf := obind hf
  obtain ⟨x7, e8, hf⟩ := hf
  refine q_iald (pc := 13) dX10_upFrom_13 e8 ?_
  refine r_icmp_lt (pc := 14) 23 dX10_upFrom_14 (by decide) (fun hc => ?_) (fun hc => ?_)
  · rw [if_pos hc] at hf
    cases hf
    exact gW.weak (by simp [gle]) hk
  · rw [if_neg hc] at hf
    refine r_iinc (pc := 17) dX10_upFrom_17 rfl (by decide) ?_
    change gW _ _ _ [some (.ref l0), some (.int l1), some (.int (l2 + (-1 : Int32)))] _ _ _ _ _ _
    refine r_goto (pc := 20) 2 dX10_upFrom_20 (by decide) ?_
    cases hf
    exact gW.weak (by simp [gle]) hk
def F_X10_upFrom (S : pS) (a0 : Nat) (a1 : Int32) : Option (Int32) := (oF S a0 10).bind fun _ => (iter (F_X10_upFrom_2 a0 a1 S) fu a1).bind fun r9 => some r9
set_option maxRecDepth 100000 in
set_option maxHeartbeats 4000000 in
theorem C_X10_upFrom {X : pX} {Q : pO → Nat → pF → Prop} (S : pS) (a0 : Nat) (a1 : Int32) (r : Int32) (hf : F_X10_upFrom S a0 a1 = some r) (hk : Q (.inl (some (.int r))) S.1 S.2) : gC X mX10_upFrom [.ref a0, .int a1] S.1 S.2 Q 0 0 := by
  refine gC_of (by decide) (Nat.le_of_ble_eq_true rfl) rfl ?_
  change gW _ _ _ [some (.ref a0), some (.int a1), none] _ _ _ _ _ _
  unfold F_X10_upFrom at hf
  obtain ⟨_, _, hf⟩ := obind hf
  refine r_iload_n (pc := 0) dX10_upFrom_0 rfl ?_
  refine r_istore_n (pc := 1) dX10_upFrom_1 (by decide) ?_
  change gW _ _ _ [some (.ref a0), some (.int a1), some (.int a1)] _ _ _ _ _ _
  replace hf := obind hf
  obtain ⟨r9, e10, hf⟩ := hf
  refine gW.weak (ls' := [some (.ref a0), some (.int a1), some (.int a1)]) (by simp [gle]) ?_
  refine g_iter (L := L_X10_upFrom_2 a0 a1 S) (s := s_X10_upFrom_2 a0 a1 S) (K := K_X10_upFrom_2 X Q _ _ a0 a1 S) (W_X10_upFrom_2 a0 a1 S) fu a1 _ e10 ?_
  show gW _ _ 23 [some (.ref a0), some (.int a1), some (.int r9)] [] S.1 S.2 _ _ _
  refine r_iload_n (pc := 23) dX10_upFrom_23 rfl ?_
  refine r_ireturn (pc := 24) .int dX10_upFrom_24 rfl rfl ?_
  cases hf
  exact hk
def F_X10_outdent (S : pS) (a0 : Nat) (a1 : Int32) : Option (Int32 × pS) := (oF S a0 10).bind fun _ => (oPI S a0 10 0 (0 : Int32)).bind fun S1 => (F_X10_remembers S1 a0).bind fun q3 => (F_X10_lines q3 a0).bind fun q5 => (oGI q5 a0 10 41).bind fun x7 => (F_X10_in q5 a1 (0 : Int32) (x7 - (1 : Int32))).bind fun q9 => if ¬ q9 = 0 then ((oGA q5 a0 10 38).bind fun x11 => (oAI q5 x11 .int a1).bind fun x13 => if ¬ x13 = 0 then ((F_X10_upFrom q5 a0 a1).bind fun q15 => (oGA q5 a0 10 39).bind fun x17 => (oAI q5 x17 .int a1).bind fun x19 => (oGA q5 a0 10 40).bind fun x21 => (oAI q5 x21 .int a1).bind fun x23 => (oGA q5 a0 10 39).bind fun x25 => (oAI q5 x25 .int q15).bind fun x27 => (oGA q5 a0 10 40).bind fun x29 => (oAI q5 x29 .int q15).bind fun x31 => (F_X10_moves q5 a0 x19 x23 x27 (x31 + (1 : Int32)) (50 : Int32)).bind fun q33 => some (q33.1, q33.2)) else ((F_X10_fails q5 a0 (2 : Int32)).bind fun q35 => some (q35.1, q35.2))) else ((F_X10_fails q5 a0 (1 : Int32)).bind fun q37 => some (q37.1, q37.2))
set_option maxRecDepth 100000 in
set_option maxHeartbeats 4000000 in
theorem C_X10_outdent {X : pX} {Q : pO → Nat → pF → Prop} (S : pS) (a0 : Nat) (a1 : Int32) (r : Int32 × pS) (hf : F_X10_outdent S a0 a1 = some r) (hk : Q (.inl (some (.int r.1))) r.2.1 r.2.2) : gC X mX10_outdent [.ref a0, .int a1] S.1 S.2 Q 0 0 := by
  refine gC_of (by decide) (Nat.le_of_ble_eq_true rfl) rfl ?_
  change gW _ _ _ [some (.ref a0), some (.int a1), none] _ _ _ _ _ _
  unfold F_X10_outdent at hf
  obtain ⟨_, _, hf⟩ := obind hf
  refine r_aload_n (pc := 0) dX10_outdent_0 rfl ?_
  refine r_iconst (pc := 1) (0 : Int32) dX10_outdent_1 (by decide) ?_
  replace hf := obind hf
  obtain ⟨S1, e2, hf⟩ := hf
  refine q_putI (pc := 2) dX10_outdent_2 pX10_139 rfl e2 ?_
  refine r_aload_n (pc := 5) dX10_outdent_5 rfl ?_
  replace hf := obind hf
  obtain ⟨q3, e4, hf⟩ := hf
  refine q_callV (pc := 6) (v := none) (S' := q3) mX10_remembers 10 [] dX10_outdent_6 kX10_218 fX10_remembers iX10_remembers ⟨by decide, by decide⟩ rfl rfl rfl (Nat.le_of_ble_eq_true rfl) (og e4) (mc1 := 0) (ms1 := 0) (mc2 := 0) (ms2 := 0) (by decide) (by decide) (C_X10_remembers S1 a0 q3 e4 (qR_mk _ _)) ?_
  refine r_aload_n (pc := 9) dX10_outdent_9 rfl ?_
  replace hf := obind hf
  obtain ⟨q5, e6, hf⟩ := hf
  refine q_callV (pc := 10) (v := none) (S' := q5) mX10_lines 10 [] dX10_outdent_10 kX10_257 fX10_lines iX10_lines ⟨by decide, by decide⟩ rfl rfl rfl (Nat.le_of_ble_eq_true rfl) (og e6) (mc1 := 0) (ms1 := 0) (mc2 := 0) (ms2 := 0) (by decide) (by decide) (C_X10_lines q3 a0 q5 e6 (qR_mk _ _)) ?_
  refine r_iload_n (pc := 13) dX10_outdent_13 rfl ?_
  refine r_iconst (pc := 14) (0 : Int32) dX10_outdent_14 (by decide) ?_
  refine r_aload_n (pc := 15) dX10_outdent_15 rfl ?_
  replace hf := obind hf
  obtain ⟨x7, e8, hf⟩ := hf
  refine q_getI (pc := 16) dX10_outdent_16 gX10_260 e8 ?_
  refine r_iconst (pc := 19) (1 : Int32) dX10_outdent_19 (by decide) ?_
  refine r_isub (pc := 20) dX10_outdent_20 ?_
  replace hf := obind hf
  obtain ⟨q9, e10, hf⟩ := hf
  refine q_callS (pc := 21) (v := some (.int q9)) (S' := q5) mX10_in [.int a1, .int (0 : Int32), .int (x7 - (1 : Int32))] dX10_outdent_21 kX10_142 fX10_in sX10_in ⟨by decide, by decide⟩ rfl rfl (Nat.le_of_ble_eq_true rfl) (mc1 := 0) (ms1 := 0) (mc2 := 0) (ms2 := 0) (by decide) (by decide) (C_X10_in q5 a1 (0 : Int32) (x7 - (1 : Int32)) q9 e10 (qR_mk _ _)) ?_
  change gW _ _ _ _ (.int q9 :: _) _ _ _ _ _
  refine r_if_ne (pc := 24) 33 dX10_outdent_24 (by decide) (fun hc => ?_) (fun hc => ?_)
  · rw [if_pos hc] at hf
    refine r_aload_n (pc := 33) dX10_outdent_33 rfl ?_
    replace hf := obind hf
    obtain ⟨x11, e12, hf⟩ := hf
    refine q_getA (pc := 34) dX10_outdent_34 gX10_91 e12 ?_
    refine r_iload_n (pc := 37) dX10_outdent_37 rfl ?_
    replace hf := obind hf
    obtain ⟨x13, e14, hf⟩ := hf
    refine q_iald (pc := 38) dX10_outdent_38 e14 ?_
    refine r_if_ne (pc := 39) 48 dX10_outdent_39 (by decide) (fun hc => ?_) (fun hc => ?_)
    · rw [if_pos hc] at hf
      refine r_aload_n (pc := 48) dX10_outdent_48 rfl ?_
      refine r_iload_n (pc := 49) dX10_outdent_49 rfl ?_
      replace hf := obind hf
      obtain ⟨q15, e16, hf⟩ := hf
      refine q_callV (pc := 50) (v := some (.int q15)) (S' := q5) mX10_upFrom 10 [.int a1] dX10_outdent_50 kX10_267 fX10_upFrom iX10_upFrom ⟨by decide, by decide⟩ rfl rfl rfl (Nat.le_of_ble_eq_true rfl) (og e16) (mc1 := 0) (ms1 := 0) (mc2 := 0) (ms2 := 0) (by decide) (by decide) (C_X10_upFrom q5 a0 a1 q15 e16 (qR_mk _ _)) ?_
      change gW _ _ _ _ (.int q15 :: _) _ _ _ _ _
      refine r_istore_n (pc := 53) dX10_outdent_53 (by decide) ?_
      change gW _ _ _ [some (.ref a0), some (.int a1), some (.int q15)] _ _ _ _ _ _
      refine r_aload_n (pc := 54) dX10_outdent_54 rfl ?_
      refine r_aload_n (pc := 55) dX10_outdent_55 rfl ?_
      replace hf := obind hf
      obtain ⟨x17, e18, hf⟩ := hf
      refine q_getA (pc := 56) dX10_outdent_56 gX10_94 e18 ?_
      refine r_iload_n (pc := 59) dX10_outdent_59 rfl ?_
      replace hf := obind hf
      obtain ⟨x19, e20, hf⟩ := hf
      refine q_iald (pc := 60) dX10_outdent_60 e20 ?_
      refine r_aload_n (pc := 61) dX10_outdent_61 rfl ?_
      replace hf := obind hf
      obtain ⟨x21, e22, hf⟩ := hf
      refine q_getA (pc := 62) dX10_outdent_62 gX10_97 e22 ?_
      refine r_iload_n (pc := 65) dX10_outdent_65 rfl ?_
      replace hf := obind hf
      obtain ⟨x23, e24, hf⟩ := hf
      refine q_iald (pc := 66) dX10_outdent_66 e24 ?_
      refine r_aload_n (pc := 67) dX10_outdent_67 rfl ?_
      replace hf := obind hf
      obtain ⟨x25, e26, hf⟩ := hf
      refine q_getA (pc := 68) dX10_outdent_68 gX10_94 e26 ?_
      refine r_iload_n (pc := 71) dX10_outdent_71 rfl ?_
      replace hf := obind hf
      obtain ⟨x27, e28, hf⟩ := hf
      refine q_iald (pc := 72) dX10_outdent_72 e28 ?_
      refine r_aload_n (pc := 73) dX10_outdent_73 rfl ?_
      replace hf := obind hf
      obtain ⟨x29, e30, hf⟩ := hf
      refine q_getA (pc := 74) dX10_outdent_74 gX10_97 e30 ?_
      refine r_iload_n (pc := 77) dX10_outdent_77 rfl ?_
      replace hf := obind hf
      obtain ⟨x31, e32, hf⟩ := hf
      refine q_iald (pc := 78) dX10_outdent_78 e32 ?_
      refine r_iconst (pc := 79) (1 : Int32) dX10_outdent_79 (by decide) ?_
      refine r_iadd (pc := 80) dX10_outdent_80 ?_
      refine r_bipush (pc := 81) (50 : Int32) dX10_outdent_81 (by decide) ?_
      replace hf := obind hf
      obtain ⟨q33, e34, hf⟩ := hf
      refine q_callV (pc := 83) (v := some (.int q33.1)) (S' := q33.2) mX10_moves 10 [.int x19, .int x23, .int x27, .int (x31 + (1 : Int32)), .int (50 : Int32)] dX10_outdent_83 kX10_263 fX10_moves iX10_moves ⟨by decide, by decide⟩ rfl rfl rfl (Nat.le_of_ble_eq_true rfl) (og e34) (mc1 := 0) (ms1 := 0) (mc2 := 0) (ms2 := 0) (by decide) (by decide) (C_X10_moves q5 a0 x19 x23 x27 (x31 + (1 : Int32)) (50 : Int32) q33 e34 (qR_mk _ _)) ?_
      change gW _ _ _ _ (.int q33.1 :: _) _ _ _ _ _
      refine r_ireturn (pc := 86) .int dX10_outdent_86 rfl rfl ?_
      cases hf
      exact hk
    · rw [if_neg hc] at hf
      refine r_aload_n (pc := 42) dX10_outdent_42 rfl ?_
      refine r_iconst (pc := 43) (2 : Int32) dX10_outdent_43 (by decide) ?_
      replace hf := obind hf
      obtain ⟨q35, e36, hf⟩ := hf
      refine q_callV (pc := 44) (v := some (.int q35.1)) (S' := q35.2) mX10_fails 10 [.int (2 : Int32)] dX10_outdent_44 kX10_186 fX10_fails iX10_fails ⟨by decide, by decide⟩ rfl rfl rfl (Nat.le_of_ble_eq_true rfl) (og e36) (mc1 := 0) (ms1 := 0) (mc2 := 0) (ms2 := 0) (by decide) (by decide) (C_X10_fails q5 a0 (2 : Int32) q35 e36 (qR_mk _ _)) ?_
      change gW _ _ _ _ (.int q35.1 :: _) _ _ _ _ _
      refine r_ireturn (pc := 47) .int dX10_outdent_47 rfl rfl ?_
      cases hf
      exact hk
  · rw [if_neg hc] at hf
    refine r_aload_n (pc := 27) dX10_outdent_27 rfl ?_
    refine r_iconst (pc := 28) (1 : Int32) dX10_outdent_28 (by decide) ?_
    replace hf := obind hf
    obtain ⟨q37, e38, hf⟩ := hf
    refine q_callV (pc := 29) (v := some (.int q37.1)) (S' := q37.2) mX10_fails 10 [.int (1 : Int32)] dX10_outdent_29 kX10_186 fX10_fails iX10_fails ⟨by decide, by decide⟩ rfl rfl rfl (Nat.le_of_ble_eq_true rfl) (og e38) (mc1 := 0) (ms1 := 0) (mc2 := 0) (ms2 := 0) (by decide) (by decide) (C_X10_fails q5 a0 (1 : Int32) q37 e38 (qR_mk _ _)) ?_
    change gW _ _ _ _ (.int q37.1 :: _) _ _ _ _ _
    refine r_ireturn (pc := 32) .int dX10_outdent_32 rfl rfl ?_
    cases hf
    exact hk
def F_X10_rename (S : pS) (a0 : Nat) (a1 : Int32) : Option (Int32 × pS) := (oF S a0 10).bind fun _ => (oPI S a0 10 0 (0 : Int32)).bind fun S1 => (F_X10_remembers S1 a0).bind fun q3 => (F_X10_isOther q3 a0 a1).bind fun q5 => if ¬ q5 = 0 then ((F_X10_isName q3 a0).bind fun q7 => if ¬ q7.1 = 0 then ((oGA q7.2 a0 10 1).bind fun x9 => (oAI q7.2 x9 .int ((245 : Int32) + a1)).bind fun x11 => (oGI q7.2 a0 10 22).bind fun x13 => (F_X10_names q7.2 a0 a1 (0 : Int32) x13).bind fun q15 => (F_X10_keeps q15 a0).bind fun q17 => some (x11, q17)) else ((F_X10_fails q7.2 a0 (2 : Int32)).bind fun q19 => some (q19.1, q19.2))) else ((F_X10_fails q3 a0 (1 : Int32)).bind fun q21 => some (q21.1, q21.2))
set_option maxRecDepth 100000 in
set_option maxHeartbeats 4000000 in
theorem C_X10_rename {X : pX} {Q : pO → Nat → pF → Prop} (S : pS) (a0 : Nat) (a1 : Int32) (r : Int32 × pS) (hf : F_X10_rename S a0 a1 = some r) (hk : Q (.inl (some (.int r.1))) r.2.1 r.2.2) : gC X mX10_rename [.ref a0, .int a1] S.1 S.2 Q 0 0 := by
  refine gC_of (by decide) (Nat.le_of_ble_eq_true rfl) rfl ?_
  change gW _ _ _ [some (.ref a0), some (.int a1), none] _ _ _ _ _ _
  unfold F_X10_rename at hf
  obtain ⟨_, _, hf⟩ := obind hf
  refine r_aload_n (pc := 0) dX10_rename_0 rfl ?_
  refine r_iconst (pc := 1) (0 : Int32) dX10_rename_1 (by decide) ?_
  replace hf := obind hf
  obtain ⟨S1, e2, hf⟩ := hf
  refine q_putI (pc := 2) dX10_rename_2 pX10_139 rfl e2 ?_
  refine r_aload_n (pc := 5) dX10_rename_5 rfl ?_
  replace hf := obind hf
  obtain ⟨q3, e4, hf⟩ := hf
  refine q_callV (pc := 6) (v := none) (S' := q3) mX10_remembers 10 [] dX10_rename_6 kX10_218 fX10_remembers iX10_remembers ⟨by decide, by decide⟩ rfl rfl rfl (Nat.le_of_ble_eq_true rfl) (og e4) (mc1 := 0) (ms1 := 0) (mc2 := 0) (ms2 := 0) (by decide) (by decide) (C_X10_remembers S1 a0 q3 e4 (qR_mk _ _)) ?_
  refine r_aload_n (pc := 9) dX10_rename_9 rfl ?_
  refine r_iload_n (pc := 10) dX10_rename_10 rfl ?_
  replace hf := obind hf
  obtain ⟨q5, e6, hf⟩ := hf
  refine q_callV (pc := 11) (v := some (.int q5)) (S' := q3) mX10_isOther 10 [.int a1] dX10_rename_11 kX10_245 fX10_isOther iX10_isOther ⟨by decide, by decide⟩ rfl rfl rfl (Nat.le_of_ble_eq_true rfl) (og e6) (mc1 := 0) (ms1 := 0) (mc2 := 0) (ms2 := 0) (by decide) (by decide) (C_X10_isOther q3 a0 a1 q5 e6 (qR_mk _ _)) ?_
  change gW _ _ _ _ (.int q5 :: _) _ _ _ _ _
  refine r_if_ne (pc := 14) 23 dX10_rename_14 (by decide) (fun hc => ?_) (fun hc => ?_)
  · rw [if_pos hc] at hf
    refine r_aload_n (pc := 23) dX10_rename_23 rfl ?_
    replace hf := obind hf
    obtain ⟨q7, e8, hf⟩ := hf
    refine q_callV (pc := 24) (v := some (.int q7.1)) (S' := q7.2) mX10_isName 10 [] dX10_rename_24 kX10_221 fX10_isName iX10_isName ⟨by decide, by decide⟩ rfl rfl rfl (Nat.le_of_ble_eq_true rfl) (og e8) (mc1 := 0) (ms1 := 0) (mc2 := 0) (ms2 := 0) (by decide) (by decide) (C_X10_isName q3 a0 q7 e8 (qR_mk _ _)) ?_
    change gW _ _ _ _ (.int q7.1 :: _) _ _ _ _ _
    refine r_if_ne (pc := 27) 36 dX10_rename_27 (by decide) (fun hc => ?_) (fun hc => ?_)
    · rw [if_pos hc] at hf
      refine r_aload_n (pc := 36) dX10_rename_36 rfl ?_
      replace hf := obind hf
      obtain ⟨x9, e10, hf⟩ := hf
      refine q_getA (pc := 37) dX10_rename_37 gX10_7 e10 ?_
      refine r_sipush (pc := 40) (245 : Int32) dX10_rename_40 (by decide) ?_
      refine r_iload_n (pc := 43) dX10_rename_43 rfl ?_
      refine r_iadd (pc := 44) dX10_rename_44 ?_
      replace hf := obind hf
      obtain ⟨x11, e12, hf⟩ := hf
      refine q_iald (pc := 45) dX10_rename_45 e12 ?_
      refine r_istore_n (pc := 46) dX10_rename_46 (by decide) ?_
      change gW _ _ _ [some (.ref a0), some (.int a1), some (.int x11)] _ _ _ _ _ _
      refine r_aload_n (pc := 47) dX10_rename_47 rfl ?_
      refine r_iload_n (pc := 48) dX10_rename_48 rfl ?_
      refine r_iconst (pc := 49) (0 : Int32) dX10_rename_49 (by decide) ?_
      refine r_aload_n (pc := 50) dX10_rename_50 rfl ?_
      replace hf := obind hf
      obtain ⟨x13, e14, hf⟩ := hf
      refine q_getI (pc := 51) dX10_rename_51 gX10_202 e14 ?_
      replace hf := obind hf
      obtain ⟨q15, e16, hf⟩ := hf
      refine q_callV (pc := 54) (v := none) (S' := q15) mX10_names 10 [.int a1, .int (0 : Int32), .int x13] dX10_rename_54 kX10_235 fX10_names iX10_names ⟨by decide, by decide⟩ rfl rfl rfl (Nat.le_of_ble_eq_true rfl) (og e16) (mc1 := 0) (ms1 := 0) (mc2 := 0) (ms2 := 0) (by decide) (by decide) (C_X10_names q7.2 a0 a1 (0 : Int32) x13 q15 e16 (qR_mk _ _)) ?_
      refine r_aload_n (pc := 57) dX10_rename_57 rfl ?_
      replace hf := obind hf
      obtain ⟨q17, e18, hf⟩ := hf
      refine q_callV (pc := 58) (v := none) (S' := q17) mX10_keeps 10 [] dX10_rename_58 kX10_242 fX10_keeps iX10_keeps ⟨by decide, by decide⟩ rfl rfl rfl (Nat.le_of_ble_eq_true rfl) (og e18) (mc1 := 0) (ms1 := 0) (mc2 := 0) (ms2 := 0) (by decide) (by decide) (C_X10_keeps q15 a0 q17 e18 (qR_mk _ _)) ?_
      refine r_iload_n (pc := 61) dX10_rename_61 rfl ?_
      refine r_ireturn (pc := 62) .int dX10_rename_62 rfl rfl ?_
      cases hf
      exact hk
    · rw [if_neg hc] at hf
      refine r_aload_n (pc := 30) dX10_rename_30 rfl ?_
      refine r_iconst (pc := 31) (2 : Int32) dX10_rename_31 (by decide) ?_
      replace hf := obind hf
      obtain ⟨q19, e20, hf⟩ := hf
      refine q_callV (pc := 32) (v := some (.int q19.1)) (S' := q19.2) mX10_fails 10 [.int (2 : Int32)] dX10_rename_32 kX10_186 fX10_fails iX10_fails ⟨by decide, by decide⟩ rfl rfl rfl (Nat.le_of_ble_eq_true rfl) (og e20) (mc1 := 0) (ms1 := 0) (mc2 := 0) (ms2 := 0) (by decide) (by decide) (C_X10_fails q7.2 a0 (2 : Int32) q19 e20 (qR_mk _ _)) ?_
      change gW _ _ _ _ (.int q19.1 :: _) _ _ _ _ _
      refine r_ireturn (pc := 35) .int dX10_rename_35 rfl rfl ?_
      cases hf
      exact hk
  · rw [if_neg hc] at hf
    refine r_aload_n (pc := 17) dX10_rename_17 rfl ?_
    refine r_iconst (pc := 18) (1 : Int32) dX10_rename_18 (by decide) ?_
    replace hf := obind hf
    obtain ⟨q21, e22, hf⟩ := hf
    refine q_callV (pc := 19) (v := some (.int q21.1)) (S' := q21.2) mX10_fails 10 [.int (1 : Int32)] dX10_rename_19 kX10_186 fX10_fails iX10_fails ⟨by decide, by decide⟩ rfl rfl rfl (Nat.le_of_ble_eq_true rfl) (og e22) (mc1 := 0) (ms1 := 0) (mc2 := 0) (ms2 := 0) (by decide) (by decide) (C_X10_fails q3 a0 (1 : Int32) q21 e22 (qR_mk _ _)) ?_
    change gW _ _ _ _ (.int q21.1 :: _) _ _ _ _ _
    refine r_ireturn (pc := 22) .int dX10_rename_22 rfl rfl ?_
    cases hf
    exact hk
def F_X10_setNumber_71 (S : pS) (l0 : Nat) (l1 : Int32) (l3 : Int32) (t0 : Int32) : Option (Int32 × pS) := (oGA S l0 10 1).bind fun x9 => (oAI S x9 .int (t0 + l1)).bind fun x11 => (oGA S l0 10 1).bind fun x13 => (oSI S x13 .int (t0 + l1) l3).bind fun S15 => (F_X10_keeps S15 l0).bind fun q17 => some (x11, q17)
set_option maxRecDepth 100000 in
set_option maxHeartbeats 4000000 in
theorem W_X10_setNumber_71 {X : pX} {Q : pO → Nat → pF → Prop} (S : pS) (l0 : Nat) (l1 : Int32) (l3 : Int32) (t0 : Int32) (r : Int32 × pS) (hf : F_X10_setNumber_71 S l0 l1 l3 t0 = some r) (hk : Q (.inl (some (.int r.1))) r.2.1 r.2.2) : gW X mX10_setNumber 71 [some (.ref l0), some (.int l1), none, some (.int l3), none, none] [.int t0] S.1 S.2 Q 0 0 := by
  unfold F_X10_setNumber_71 at hf
  refine r_iload_n (pc := 71) dX10_setNumber_71 rfl ?_
  refine r_iadd (pc := 72) dX10_setNumber_72 ?_
  refine r_istore (pc := 73) dX10_setNumber_73 (by decide) ?_
  change gW _ _ _ [some (.ref l0), some (.int l1), none, some (.int l3), some (.int (t0 + l1)), none] _ _ _ _ _ _
  refine r_aload_n (pc := 75) dX10_setNumber_75 rfl ?_
  replace hf := obind hf
  obtain ⟨x9, e10, hf⟩ := hf
  refine q_getA (pc := 76) dX10_setNumber_76 gX10_7 e10 ?_
  refine r_iload (pc := 79) dX10_setNumber_79 rfl ?_
  replace hf := obind hf
  obtain ⟨x11, e12, hf⟩ := hf
  refine q_iald (pc := 81) dX10_setNumber_81 e12 ?_
  refine r_istore (pc := 82) dX10_setNumber_82 (by decide) ?_
  change gW _ _ _ [some (.ref l0), some (.int l1), none, some (.int l3), some (.int (t0 + l1)), some (.int x11)] _ _ _ _ _ _
  refine r_aload_n (pc := 84) dX10_setNumber_84 rfl ?_
  replace hf := obind hf
  obtain ⟨x13, e14, hf⟩ := hf
  refine q_getA (pc := 85) dX10_setNumber_85 gX10_7 e14 ?_
  refine r_iload (pc := 88) dX10_setNumber_88 rfl ?_
  refine r_iload_n (pc := 90) dX10_setNumber_90 rfl ?_
  replace hf := obind hf
  obtain ⟨S15, e16, hf⟩ := hf
  refine q_iast (pc := 91) dX10_setNumber_91 e16 ?_
  refine r_aload_n (pc := 92) dX10_setNumber_92 rfl ?_
  replace hf := obind hf
  obtain ⟨q17, e18, hf⟩ := hf
  refine q_callV (pc := 93) (v := none) (S' := q17) mX10_keeps 10 [] dX10_setNumber_93 kX10_242 fX10_keeps iX10_keeps ⟨by decide, by decide⟩ rfl rfl rfl (Nat.le_of_ble_eq_true rfl) (og e18) (mc1 := 0) (ms1 := 0) (mc2 := 0) (ms2 := 0) (by decide) (by decide) (C_X10_keeps S15 l0 q17 e18 (qR_mk _ _)) ?_
  refine r_iload (pc := 96) dX10_setNumber_96 rfl ?_
  refine r_ireturn (pc := 98) .int dX10_setNumber_98 rfl rfl ?_
  cases hf
  exact hk
def F_X10_setNumber_60 (S : pS) (l0 : Nat) (l1 : Int32) (l2 : Int32) (l3 : Int32) : Option (Int32 × pS) := if l2 = 0 then (F_X10_setNumber_71 S l0 l1 l3 (62 : Int32)) else (F_X10_setNumber_71 S l0 l1 l3 (123 : Int32))
set_option maxRecDepth 100000 in
set_option maxHeartbeats 4000000 in
theorem W_X10_setNumber_60 {X : pX} {Q : pO → Nat → pF → Prop} (S : pS) (l0 : Nat) (l1 : Int32) (l2 : Int32) (l3 : Int32) (r : Int32 × pS) (hf : F_X10_setNumber_60 S l0 l1 l2 l3 = some r) (hk : Q (.inl (some (.int r.1))) r.2.1 r.2.2) : gW X mX10_setNumber 60 [some (.ref l0), some (.int l1), some (.int l2), some (.int l3), none, none] [] S.1 S.2 Q 0 0 := by
  unfold F_X10_setNumber_60 at hf
  refine r_iload_n (pc := 60) dX10_setNumber_60 rfl ?_
  refine r_if_eq (pc := 61) 69 dX10_setNumber_61 (by decide) (fun hc => ?_) (fun hc => ?_)
  · rw [if_pos hc] at hf
    refine r_bipush (pc := 69) (62 : Int32) dX10_setNumber_69 (by decide) ?_
    refine gW.mono (mc := 0) (ms := 0) ?_ (fun _ _ _ q => q) (by decide) (by decide)
    exact gW.weak (by simp [gle]) (W_X10_setNumber_71 S l0 l1 l3 (62 : Int32) r hf hk)
  · rw [if_neg hc] at hf
    refine r_bipush (pc := 64) (123 : Int32) dX10_setNumber_64 (by decide) ?_
    refine r_goto (pc := 66) 71 dX10_setNumber_66 (by decide) ?_
    refine gW.mono (mc := 0) (ms := 0) ?_ (fun _ _ _ q => q) (by decide) (by decide)
    exact gW.weak (by simp [gle]) (W_X10_setNumber_71 S l0 l1 l3 (123 : Int32) r hf hk)
def F_X10_setNumber_54 (S : pS) (l0 : Nat) : Option (Int32 × pS) := (F_X10_fails S l0 (2 : Int32)).bind fun q19 => some (q19.1, q19.2)
set_option maxRecDepth 100000 in
set_option maxHeartbeats 4000000 in
theorem W_X10_setNumber_54 {X : pX} {Q : pO → Nat → pF → Prop} (S : pS) (l0 : Nat) (r : Int32 × pS) (hf : F_X10_setNumber_54 S l0 = some r) (hk : Q (.inl (some (.int r.1))) r.2.1 r.2.2) : gW X mX10_setNumber 54 [some (.ref l0), none, none, none, none, none] [] S.1 S.2 Q 0 0 := by
  unfold F_X10_setNumber_54 at hf
  refine r_aload_n (pc := 54) dX10_setNumber_54 rfl ?_
  refine r_iconst (pc := 55) (2 : Int32) dX10_setNumber_55 (by decide) ?_
  replace hf := obind hf
  obtain ⟨q19, e20, hf⟩ := hf
  refine q_callV (pc := 56) (v := some (.int q19.1)) (S' := q19.2) mX10_fails 10 [.int (2 : Int32)] dX10_setNumber_56 kX10_186 fX10_fails iX10_fails ⟨by decide, by decide⟩ rfl rfl rfl (Nat.le_of_ble_eq_true rfl) (og e20) (mc1 := 0) (ms1 := 0) (mc2 := 0) (ms2 := 0) (by decide) (by decide) (C_X10_fails S l0 (2 : Int32) q19 e20 (qR_mk _ _)) ?_
  change gW _ _ _ _ (.int q19.1 :: _) _ _ _ _ _
  refine r_ireturn (pc := 59) .int dX10_setNumber_59 rfl rfl ?_
  cases hf
  exact hk
def F_X10_setNumber (S : pS) (a0 : Nat) (a1 : Int32) (a2 : Int32) (a3 : Int32) : Option (Int32 × pS) := (oF S a0 10).bind fun _ => (oPI S a0 10 0 (0 : Int32)).bind fun S1 => (F_X10_remembers S1 a0).bind fun q3 => (F_X10_isItem q3 a0 a1).bind fun q5 => if ¬ q5 = 0 then (if a2 = 0 then ((F_X10_in q3 a3 (-999 : Int32) (999 : Int32)).bind fun q7 => if ¬ q7 = 0 then (F_X10_setNumber_60 q3 a0 a1 a2 a3) else (F_X10_setNumber_54 q3 a0)) else ((F_X10_in q3 a3 (-1 : Int32) (9999 : Int32)).bind fun q21 => if ¬ q21 = 0 then (F_X10_setNumber_60 q3 a0 a1 a2 a3) else (F_X10_setNumber_54 q3 a0))) else ((F_X10_fails q3 a0 (1 : Int32)).bind fun q23 => some (q23.1, q23.2))
set_option maxRecDepth 100000 in
set_option maxHeartbeats 4000000 in
theorem C_X10_setNumber {X : pX} {Q : pO → Nat → pF → Prop} (S : pS) (a0 : Nat) (a1 : Int32) (a2 : Int32) (a3 : Int32) (r : Int32 × pS) (hf : F_X10_setNumber S a0 a1 a2 a3 = some r) (hk : Q (.inl (some (.int r.1))) r.2.1 r.2.2) : gC X mX10_setNumber [.ref a0, .int a1, .int a2, .int a3] S.1 S.2 Q 0 0 := by
  refine gC_of (by decide) (Nat.le_of_ble_eq_true rfl) rfl ?_
  change gW _ _ _ [some (.ref a0), some (.int a1), some (.int a2), some (.int a3), none, none] _ _ _ _ _ _
  unfold F_X10_setNumber at hf
  obtain ⟨_, _, hf⟩ := obind hf
  refine r_aload_n (pc := 0) dX10_setNumber_0 rfl ?_
  refine r_iconst (pc := 1) (0 : Int32) dX10_setNumber_1 (by decide) ?_
  replace hf := obind hf
  obtain ⟨S1, e2, hf⟩ := hf
  refine q_putI (pc := 2) dX10_setNumber_2 pX10_139 rfl e2 ?_
  refine r_aload_n (pc := 5) dX10_setNumber_5 rfl ?_
  replace hf := obind hf
  obtain ⟨q3, e4, hf⟩ := hf
  refine q_callV (pc := 6) (v := none) (S' := q3) mX10_remembers 10 [] dX10_setNumber_6 kX10_218 fX10_remembers iX10_remembers ⟨by decide, by decide⟩ rfl rfl rfl (Nat.le_of_ble_eq_true rfl) (og e4) (mc1 := 0) (ms1 := 0) (mc2 := 0) (ms2 := 0) (by decide) (by decide) (C_X10_remembers S1 a0 q3 e4 (qR_mk _ _)) ?_
  refine r_aload_n (pc := 9) dX10_setNumber_9 rfl ?_
  refine r_iload_n (pc := 10) dX10_setNumber_10 rfl ?_
  replace hf := obind hf
  obtain ⟨q5, e6, hf⟩ := hf
  refine q_callV (pc := 11) (v := some (.int q5)) (S' := q3) mX10_isItem 10 [.int a1] dX10_setNumber_11 kX10_146 fX10_isItem iX10_isItem ⟨by decide, by decide⟩ rfl rfl rfl (Nat.le_of_ble_eq_true rfl) (og e6) (mc1 := 0) (ms1 := 0) (mc2 := 0) (ms2 := 0) (by decide) (by decide) (C_X10_isItem q3 a0 a1 q5 e6 (qR_mk _ _)) ?_
  change gW _ _ _ _ (.int q5 :: _) _ _ _ _ _
  refine r_if_ne (pc := 14) 23 dX10_setNumber_14 (by decide) (fun hc => ?_) (fun hc => ?_)
  · rw [if_pos hc] at hf
    refine r_iload_n (pc := 23) dX10_setNumber_23 rfl ?_
    refine r_if_eq (pc := 24) 41 dX10_setNumber_24 (by decide) (fun hc => ?_) (fun hc => ?_)
    · rw [if_pos hc] at hf
      refine r_iload_n (pc := 41) dX10_setNumber_41 rfl ?_
      refine r_sipush (pc := 42) (-999 : Int32) dX10_setNumber_42 (by decide) ?_
      refine r_sipush (pc := 45) (999 : Int32) dX10_setNumber_45 (by decide) ?_
      replace hf := obind hf
      obtain ⟨q7, e8, hf⟩ := hf
      refine q_callS (pc := 48) (v := some (.int q7)) (S' := q3) mX10_in [.int a3, .int (-999 : Int32), .int (999 : Int32)] dX10_setNumber_48 kX10_142 fX10_in sX10_in ⟨by decide, by decide⟩ rfl rfl (Nat.le_of_ble_eq_true rfl) (mc1 := 0) (ms1 := 0) (mc2 := 0) (ms2 := 0) (by decide) (by decide) (C_X10_in q3 a3 (-999 : Int32) (999 : Int32) q7 e8 (qR_mk _ _)) ?_
      change gW _ _ _ _ (.int q7 :: _) _ _ _ _ _
      refine r_if_ne (pc := 51) 60 dX10_setNumber_51 (by decide) (fun hc => ?_) (fun hc => ?_)
      · rw [if_pos hc] at hf
        refine gW.mono (mc := 0) (ms := 0) ?_ (fun _ _ _ q => q) (by decide) (by decide)
        exact gW.weak (by simp [gle]) (W_X10_setNumber_60 q3 a0 a1 a2 a3 r hf hk)
      · rw [if_neg hc] at hf
        refine gW.mono (mc := 0) (ms := 0) ?_ (fun _ _ _ q => q) (by decide) (by decide)
        exact gW.weak (by simp [gle]) (W_X10_setNumber_54 q3 a0 r hf hk)
    · rw [if_neg hc] at hf
      refine r_iload_n (pc := 27) dX10_setNumber_27 rfl ?_
      refine r_iconst (pc := 28) (-1 : Int32) dX10_setNumber_28 (by decide) ?_
      refine r_sipush (pc := 29) (9999 : Int32) dX10_setNumber_29 (by decide) ?_
      replace hf := obind hf
      obtain ⟨q21, e22, hf⟩ := hf
      refine q_callS (pc := 32) (v := some (.int q21)) (S' := q3) mX10_in [.int a3, .int (-1 : Int32), .int (9999 : Int32)] dX10_setNumber_32 kX10_142 fX10_in sX10_in ⟨by decide, by decide⟩ rfl rfl (Nat.le_of_ble_eq_true rfl) (mc1 := 0) (ms1 := 0) (mc2 := 0) (ms2 := 0) (by decide) (by decide) (C_X10_in q3 a3 (-1 : Int32) (9999 : Int32) q21 e22 (qR_mk _ _)) ?_
      change gW _ _ _ _ (.int q21 :: _) _ _ _ _ _
      refine r_if_ne (pc := 35) 60 dX10_setNumber_35 (by decide) (fun hc => ?_) (fun hc => ?_)
      · rw [if_pos hc] at hf
        refine gW.mono (mc := 0) (ms := 0) ?_ (fun _ _ _ q => q) (by decide) (by decide)
        exact gW.weak (by simp [gle]) (W_X10_setNumber_60 q3 a0 a1 a2 a3 r hf hk)
      · rw [if_neg hc] at hf
        refine r_goto (pc := 38) 54 dX10_setNumber_38 (by decide) ?_
        refine gW.mono (mc := 0) (ms := 0) ?_ (fun _ _ _ q => q) (by decide) (by decide)
        exact gW.weak (by simp [gle]) (W_X10_setNumber_54 q3 a0 r hf hk)
  · rw [if_neg hc] at hf
    refine r_aload_n (pc := 17) dX10_setNumber_17 rfl ?_
    refine r_iconst (pc := 18) (1 : Int32) dX10_setNumber_18 (by decide) ?_
    replace hf := obind hf
    obtain ⟨q23, e24, hf⟩ := hf
    refine q_callV (pc := 19) (v := some (.int q23.1)) (S' := q23.2) mX10_fails 10 [.int (1 : Int32)] dX10_setNumber_19 kX10_186 fX10_fails iX10_fails ⟨by decide, by decide⟩ rfl rfl rfl (Nat.le_of_ble_eq_true rfl) (og e24) (mc1 := 0) (ms1 := 0) (mc2 := 0) (ms2 := 0) (by decide) (by decide) (C_X10_fails q3 a0 (1 : Int32) q23 e24 (qR_mk _ _)) ?_
    change gW _ _ _ _ (.int q23.1 :: _) _ _ _ _ _
    refine r_ireturn (pc := 22) .int dX10_setNumber_22 rfl rfl ?_
    cases hf
    exact hk
def F_X10_setFlag_98 (S : pS) (l0 : Nat) (l5 : Int32) (t0 : Nat) (t1 : Int32) (t2 : Int32) : Option (Int32 × pS) := (oSI S t0 .int t1 t2).bind fun S17 => (F_X10_keeps S17 l0).bind fun q19 => (oZ l5).bind fun x21 => some (x21, q19)
set_option maxRecDepth 100000 in
set_option maxHeartbeats 4000000 in
theorem W_X10_setFlag_98 {X : pX} {Q : pO → Nat → pF → Prop} (S : pS) (l0 : Nat) (l5 : Int32) (t0 : Nat) (t1 : Int32) (t2 : Int32) (r : Int32 × pS) (hf : F_X10_setFlag_98 S l0 l5 t0 t1 t2 = some r) (hk : Q (.inl (some (.int r.1))) r.2.1 r.2.2) : gW X mX10_setFlag 98 [some (.ref l0), none, none, none, none, some (.int l5)] [.int t2, .int t1, .ref t0] S.1 S.2 Q 0 0 := by
  unfold F_X10_setFlag_98 at hf
  replace hf := obind hf
  obtain ⟨S17, e18, hf⟩ := hf
  refine q_iast (pc := 98) dX10_setFlag_98 e18 ?_
  refine r_aload_n (pc := 99) dX10_setFlag_99 rfl ?_
  replace hf := obind hf
  obtain ⟨q19, e20, hf⟩ := hf
  refine q_callV (pc := 100) (v := none) (S' := q19) mX10_keeps 10 [] dX10_setFlag_100 kX10_242 fX10_keeps iX10_keeps ⟨by decide, by decide⟩ rfl rfl rfl (Nat.le_of_ble_eq_true rfl) (og e20) (mc1 := 0) (ms1 := 0) (mc2 := 0) (ms2 := 0) (by decide) (by decide) (C_X10_keeps S17 l0 q19 e20 (qR_mk _ _)) ?_
  refine r_iload (pc := 103) dX10_setFlag_103 rfl ?_
  replace hf := obind hf
  obtain ⟨x21, e22, hf⟩ := hf
  obtain ⟨e22a, e22b⟩ := oZ_some e22
  rw [e22a] at hf
  refine r_ireturn (pc := 105) .boolean dX10_setFlag_105 rfl e22b ?_
  cases hf
  exact hk
def F_X10_setFlag_39 (S : pS) (l0 : Nat) (l1 : Int32) (l3 : Int32) (t0 : Int32) : Option (Int32 × pS) := (F_X10_has S l0 l1 t0).bind fun q9 => (oGA S l0 10 1).bind fun x11 => if l3 = 0 then ((oGA S l0 10 1).bind fun x13 => (oAI S x13 .int ((184 : Int32) + l1)).bind fun x15 => F_X10_setFlag_98 S l0 q9 x11 ((184 : Int32) + l1) (x15 &&& (((1 : Int32) <<< (t0 &&& 31)) ^^^ (-1 : Int32)))) else ((oGA S l0 10 1).bind fun x23 => (oAI S x23 .int ((184 : Int32) + l1)).bind fun x25 => F_X10_setFlag_98 S l0 q9 x11 ((184 : Int32) + l1) (x25 ||| ((1 : Int32) <<< (t0 &&& 31))))
set_option maxRecDepth 100000 in
set_option maxHeartbeats 4000000 in
theorem W_X10_setFlag_39 {X : pX} {Q : pO → Nat → pF → Prop} (S : pS) (l0 : Nat) (l1 : Int32) (l3 : Int32) (t0 : Int32) (r : Int32 × pS) (hf : F_X10_setFlag_39 S l0 l1 l3 t0 = some r) (hk : Q (.inl (some (.int r.1))) r.2.1 r.2.2) : gW X mX10_setFlag 39 [some (.ref l0), some (.int l1), none, some (.int l3), none, none] [.int t0] S.1 S.2 Q 0 0 := by
  unfold F_X10_setFlag_39 at hf
  refine r_istore (pc := 39) dX10_setFlag_39 (by decide) ?_
  change gW _ _ _ [some (.ref l0), some (.int l1), none, some (.int l3), some (.int t0), none] _ _ _ _ _ _
  refine r_aload_n (pc := 41) dX10_setFlag_41 rfl ?_
  refine r_iload_n (pc := 42) dX10_setFlag_42 rfl ?_
  refine r_iload (pc := 43) dX10_setFlag_43 rfl ?_
  replace hf := obind hf
  obtain ⟨q9, e10, hf⟩ := hf
  refine q_callV (pc := 45) (v := some (.int q9)) (S' := S) mX10_has 10 [.int l1, .int t0] dX10_setFlag_45 kX10_270 fX10_has iX10_has ⟨by decide, by decide⟩ rfl rfl rfl (Nat.le_of_ble_eq_true rfl) (og e10) (mc1 := 0) (ms1 := 0) (mc2 := 0) (ms2 := 0) (by decide) (by decide) (C_X10_has S l0 l1 t0 q9 e10 (qR_mk _ _)) ?_
  change gW _ _ _ _ (.int q9 :: _) _ _ _ _ _
  refine r_istore (pc := 48) dX10_setFlag_48 (by decide) ?_
  change gW _ _ _ [some (.ref l0), some (.int l1), none, some (.int l3), some (.int t0), some (.int q9)] _ _ _ _ _ _
  refine r_aload_n (pc := 50) dX10_setFlag_50 rfl ?_
  replace hf := obind hf
  obtain ⟨x11, e12, hf⟩ := hf
  refine q_getA (pc := 51) dX10_setFlag_51 gX10_7 e12 ?_
  refine r_sipush (pc := 54) (184 : Int32) dX10_setFlag_54 (by decide) ?_
  refine r_iload_n (pc := 57) dX10_setFlag_57 rfl ?_
  refine r_iadd (pc := 58) dX10_setFlag_58 ?_
  refine r_iload_n (pc := 59) dX10_setFlag_59 rfl ?_
  refine r_if_eq (pc := 60) 81 dX10_setFlag_60 (by decide) (fun hc => ?_) (fun hc => ?_)
  · rw [if_pos hc] at hf
    refine r_aload_n (pc := 81) dX10_setFlag_81 rfl ?_
    replace hf := obind hf
    obtain ⟨x13, e14, hf⟩ := hf
    refine q_getA (pc := 82) dX10_setFlag_82 gX10_7 e14 ?_
    refine r_sipush (pc := 85) (184 : Int32) dX10_setFlag_85 (by decide) ?_
    refine r_iload_n (pc := 88) dX10_setFlag_88 rfl ?_
    refine r_iadd (pc := 89) dX10_setFlag_89 ?_
    replace hf := obind hf
    obtain ⟨x15, e16, hf⟩ := hf
    refine q_iald (pc := 90) dX10_setFlag_90 e16 ?_
    refine r_iconst (pc := 91) (1 : Int32) dX10_setFlag_91 (by decide) ?_
    refine r_iload (pc := 92) dX10_setFlag_92 rfl ?_
    refine r_ishl (pc := 94) dX10_setFlag_94 ?_
    refine r_iconst (pc := 95) (-1 : Int32) dX10_setFlag_95 (by decide) ?_
    refine r_ixor (pc := 96) dX10_setFlag_96 ?_
    refine r_iand (pc := 97) dX10_setFlag_97 ?_
    refine gW.mono (mc := 0) (ms := 0) ?_ (fun _ _ _ q => q) (by decide) (by decide)
    exact gW.weak (by simp [gle]) (W_X10_setFlag_98 S l0 q9 x11 ((184 : Int32) + l1) (x15 &&& (((1 : Int32) <<< (t0 &&& 31)) ^^^ (-1 : Int32))) r hf hk)
  · rw [if_neg hc] at hf
    refine r_aload_n (pc := 63) dX10_setFlag_63 rfl ?_
    replace hf := obind hf
    obtain ⟨x23, e24, hf⟩ := hf
    refine q_getA (pc := 64) dX10_setFlag_64 gX10_7 e24 ?_
    refine r_sipush (pc := 67) (184 : Int32) dX10_setFlag_67 (by decide) ?_
    refine r_iload_n (pc := 70) dX10_setFlag_70 rfl ?_
    refine r_iadd (pc := 71) dX10_setFlag_71 ?_
    replace hf := obind hf
    obtain ⟨x25, e26, hf⟩ := hf
    refine q_iald (pc := 72) dX10_setFlag_72 e26 ?_
    refine r_iconst (pc := 73) (1 : Int32) dX10_setFlag_73 (by decide) ?_
    refine r_iload (pc := 74) dX10_setFlag_74 rfl ?_
    refine r_ishl (pc := 76) dX10_setFlag_76 ?_
    refine r_ior (pc := 77) dX10_setFlag_77 ?_
    refine r_goto (pc := 78) 98 dX10_setFlag_78 (by decide) ?_
    refine gW.mono (mc := 0) (ms := 0) ?_ (fun _ _ _ q => q) (by decide) (by decide)
    exact gW.weak (by simp [gle]) (W_X10_setFlag_98 S l0 q9 x11 ((184 : Int32) + l1) (x25 ||| ((1 : Int32) <<< (t0 &&& 31))) r hf hk)
def F_X10_setFlag_14 (S : pS) (l0 : Nat) (l1 : Int32) (l2 : Int32) (l3 : Int32) (t0 : Nat) (t1 : Int32) : Option (Int32 × pS) := (oPI S t0 10 0 t1).bind fun S3 => (oGI S3 l0 10 0).bind fun x5 => if x5 ≤ 0 then ((F_X10_remembers S3 l0).bind fun q7 => if l2 = 0 then (F_X10_setFlag_39 q7 l0 l1 l3 (0 : Int32)) else (F_X10_setFlag_39 q7 l0 l1 l3 (1 : Int32))) else (some ((0 : Int32), S3))
set_option maxRecDepth 100000 in
set_option maxHeartbeats 4000000 in
theorem W_X10_setFlag_14 {X : pX} {Q : pO → Nat → pF → Prop} (S : pS) (l0 : Nat) (l1 : Int32) (l2 : Int32) (l3 : Int32) (t0 : Nat) (t1 : Int32) (r : Int32 × pS) (hf : F_X10_setFlag_14 S l0 l1 l2 l3 t0 t1 = some r) (hk : Q (.inl (some (.int r.1))) r.2.1 r.2.2) : gW X mX10_setFlag 14 [some (.ref l0), some (.int l1), some (.int l2), some (.int l3), none, none] [.int t1, .ref t0] S.1 S.2 Q 0 0 := by
  unfold F_X10_setFlag_14 at hf
  replace hf := obind hf
  obtain ⟨S3, e4, hf⟩ := hf
  refine q_putI (pc := 14) dX10_setFlag_14 pX10_139 rfl e4 ?_
  refine r_aload_n (pc := 17) dX10_setFlag_17 rfl ?_
  replace hf := obind hf
  obtain ⟨x5, e6, hf⟩ := hf
  refine q_getI (pc := 18) dX10_setFlag_18 gX10_139 e6 ?_
  refine r_if_le (pc := 21) 26 dX10_setFlag_21 (by decide) (fun hc => ?_) (fun hc => ?_)
  · rw [if_pos hc] at hf
    refine r_aload_n (pc := 26) dX10_setFlag_26 rfl ?_
    replace hf := obind hf
    obtain ⟨q7, e8, hf⟩ := hf
    refine q_callV (pc := 27) (v := none) (S' := q7) mX10_remembers 10 [] dX10_setFlag_27 kX10_218 fX10_remembers iX10_remembers ⟨by decide, by decide⟩ rfl rfl rfl (Nat.le_of_ble_eq_true rfl) (og e8) (mc1 := 0) (ms1 := 0) (mc2 := 0) (ms2 := 0) (by decide) (by decide) (C_X10_remembers S3 l0 q7 e8 (qR_mk _ _)) ?_
    refine r_iload_n (pc := 30) dX10_setFlag_30 rfl ?_
    refine r_if_eq (pc := 31) 38 dX10_setFlag_31 (by decide) (fun hc => ?_) (fun hc => ?_)
    · rw [if_pos hc] at hf
      refine r_iconst (pc := 38) (0 : Int32) dX10_setFlag_38 (by decide) ?_
      refine gW.mono (mc := 0) (ms := 0) ?_ (fun _ _ _ q => q) (by decide) (by decide)
      exact gW.weak (by simp [gle]) (W_X10_setFlag_39 q7 l0 l1 l3 (0 : Int32) r hf hk)
    · rw [if_neg hc] at hf
      refine r_iconst (pc := 34) (1 : Int32) dX10_setFlag_34 (by decide) ?_
      refine r_goto (pc := 35) 39 dX10_setFlag_35 (by decide) ?_
      refine gW.mono (mc := 0) (ms := 0) ?_ (fun _ _ _ q => q) (by decide) (by decide)
      exact gW.weak (by simp [gle]) (W_X10_setFlag_39 q7 l0 l1 l3 (1 : Int32) r hf hk)
  · rw [if_neg hc] at hf
    refine r_iconst (pc := 24) (0 : Int32) dX10_setFlag_24 (by decide) ?_
    refine r_ireturn (pc := 25) .boolean dX10_setFlag_25 rfl rfl ?_
    cases hf
    exact hk
def F_X10_setFlag (S : pS) (a0 : Nat) (a1 : Int32) (a2 : Int32) (a3 : Int32) : Option (Int32 × pS) := (oF S a0 10).bind fun _ => (F_X10_isItem S a0 a1).bind fun q1 => if q1 = 0 then (F_X10_setFlag_14 S a0 a1 a2 a3 a0 (1 : Int32)) else (F_X10_setFlag_14 S a0 a1 a2 a3 a0 (0 : Int32))
set_option maxRecDepth 100000 in
set_option maxHeartbeats 4000000 in
theorem C_X10_setFlag {X : pX} {Q : pO → Nat → pF → Prop} (S : pS) (a0 : Nat) (a1 : Int32) (a2 : Int32) (a3 : Int32) (r : Int32 × pS) (hf : F_X10_setFlag S a0 a1 a2 a3 = some r) (hk : Q (.inl (some (.int r.1))) r.2.1 r.2.2) : gC X mX10_setFlag [.ref a0, .int a1, .int a2, .int a3] S.1 S.2 Q 0 0 := by
  refine gC_of (by decide) (Nat.le_of_ble_eq_true rfl) rfl ?_
  change gW _ _ _ [some (.ref a0), some (.int a1), some (.int a2), some (.int a3), none, none] _ _ _ _ _ _
  unfold F_X10_setFlag at hf
  obtain ⟨_, _, hf⟩ := obind hf
  refine r_aload_n (pc := 0) dX10_setFlag_0 rfl ?_
  refine r_aload_n (pc := 1) dX10_setFlag_1 rfl ?_
  refine r_iload_n (pc := 2) dX10_setFlag_2 rfl ?_
  replace hf := obind hf
  obtain ⟨q1, e2, hf⟩ := hf
  refine q_callV (pc := 3) (v := some (.int q1)) (S' := S) mX10_isItem 10 [.int a1] dX10_setFlag_3 kX10_146 fX10_isItem iX10_isItem ⟨by decide, by decide⟩ rfl rfl rfl (Nat.le_of_ble_eq_true rfl) (og e2) (mc1 := 0) (ms1 := 0) (mc2 := 0) (ms2 := 0) (by decide) (by decide) (C_X10_isItem S a0 a1 q1 e2 (qR_mk _ _)) ?_
  change gW _ _ _ _ (.int q1 :: _) _ _ _ _ _
  refine r_if_eq (pc := 6) 13 dX10_setFlag_6 (by decide) (fun hc => ?_) (fun hc => ?_)
  · rw [if_pos hc] at hf
    refine r_iconst (pc := 13) (1 : Int32) dX10_setFlag_13 (by decide) ?_
    refine gW.mono (mc := 0) (ms := 0) ?_ (fun _ _ _ q => q) (by decide) (by decide)
    exact gW.weak (by simp [gle]) (W_X10_setFlag_14 S a0 a1 a2 a3 a0 (1 : Int32) r hf hk)
  · rw [if_neg hc] at hf
    refine r_iconst (pc := 9) (0 : Int32) dX10_setFlag_9 (by decide) ?_
    refine r_goto (pc := 10) 14 dX10_setFlag_10 (by decide) ?_
    refine gW.mono (mc := 0) (ms := 0) ?_ (fun _ _ _ q => q) (by decide) (by decide)
    exact gW.weak (by simp [gle]) (W_X10_setFlag_14 S a0 a1 a2 a3 a0 (0 : Int32) r hf hk)
abbrev L_X10_parents_4 (l0 : Nat) (l1 : Int32) (S : pS) : Int32 × Int32 → List (Option Value) := fun a => [some (.ref l0), some (.int l1), some (.int a.1), some (.int a.2)]
abbrev s_X10_parents_4 (l0 : Nat) (l1 : Int32) (S : pS) : Int32 × Int32 → pS := fun a => S
abbrev K_X10_parents_4 (X : pX) (Q : pO → Nat → pF → Prop) (mc ms : Nat) (l0 : Nat) (l1 : Int32) (S : pS) : Int32 → Prop := (fun b => gW X mX10_parents 42 [some (.ref l0), some (.int l1), some (.int b), none] [] S.1 S.2 Q mc ms)
def F_X10_parents_33 (l0 : Nat) (l1 : Int32) (S : pS) (l3 : Int32) (t0 : Int32) : Option ((Int32 × Int32) ⊕ (Int32)) := some (.inl (t0 + (0 : Int32), l3 + (1 : Int32)))
set_option maxRecDepth 100000 in
set_option maxHeartbeats 4000000 in
theorem W_X10_parents_33 {X : pX} {Q : pO → Nat → pF → Prop} {mc ms : Nat} (l0 : Nat) (l1 : Int32) (S : pS) (l3 : Int32) (t0 : Int32) (r : (Int32 × Int32) ⊕ (Int32)) (hf : F_X10_parents_33 l0 l1 S l3 t0 = some r) (hk : Sum.elim (fun a' => gW X mX10_parents 4 (L_X10_parents_4 l0 l1 S a') [] (s_X10_parents_4 l0 l1 S a').1 (s_X10_parents_4 l0 l1 S a').2 Q mc ms) (K_X10_parents_4 X Q mc ms l0 l1 S) r) : gW X mX10_parents 33 [some (.ref l0), some (.int l1), none, some (.int l3)] [.int t0] S.1 S.2 Q mc ms := by
  unfold F_X10_parents_33 at hf
  refine r_iconst (pc := 33) (0 : Int32) dX10_parents_33 (by decide) ?_
  refine r_iadd (pc := 34) dX10_parents_34 ?_
  refine r_istore_n (pc := 35) dX10_parents_35 (by decide) ?_
  change gW _ _ _ [some (.ref l0), some (.int l1), some (.int (t0 + (0 : Int32))), some (.int l3)] _ _ _ _ _ _
  refine r_iinc (pc := 36) dX10_parents_36 rfl (by decide) ?_
  change gW _ _ _ [some (.ref l0), some (.int l1), some (.int (t0 + (0 : Int32))), some (.int (l3 + (1 : Int32)))] _ _ _ _ _ _
  refine r_goto (pc := 39) 4 dX10_parents_39 (by decide) ?_
  cases hf
  exact gW.weak (by simp [gle]) hk
def F_X10_parents_4 (l0 : Nat) (l1 : Int32) (S : pS) : Int32 × Int32 → Option ((Int32 × Int32) ⊕ (Int32)) := fun a => if (61 : Int32) ≤ a.2 then (some (.inr a.1)) else ((F_X10_isItem S l0 a.2).bind fun q1 => if q1 = 0 then (F_X10_parents_33 l0 l1 S a.2 a.1) else ((F_X10_indexOf S l0 a.2 l1).bind fun q3 => if q3 = (-1 : Int32) then (F_X10_parents_33 l0 l1 S a.2 a.1) else (some (.inl (a.1 + (1 : Int32), a.2 + (1 : Int32))))))
set_option maxRecDepth 100000 in
set_option maxHeartbeats 4000000 in
theorem W_X10_parents_4 {X : pX} {Q : pO → Nat → pF → Prop} {mc ms : Nat} (l0 : Nat) (l1 : Int32) (S : pS) : ∀ (a : Int32 × Int32) (r : (Int32 × Int32) ⊕ (Int32)), F_X10_parents_4 l0 l1 S a = some r → Sum.elim (fun a' => gW X mX10_parents 4 (L_X10_parents_4 l0 l1 S a') [] (s_X10_parents_4 l0 l1 S a').1 (s_X10_parents_4 l0 l1 S a').2 Q mc ms) (K_X10_parents_4 X Q mc ms l0 l1 S) r → gW X mX10_parents 4 (L_X10_parents_4 l0 l1 S a) [] (s_X10_parents_4 l0 l1 S a).1 (s_X10_parents_4 l0 l1 S a).2 Q mc ms := by
  intro a r hf hk
  obtain ⟨l2, l3⟩ := a
  unfold F_X10_parents_4 at hf
  try dsimp only at hf
  change gW _ _ _ [some (.ref l0), some (.int l1), some (.int l2), some (.int l3)] _ S.1 S.2 _ _ _
  refine r_iload_n (pc := 4) dX10_parents_4 rfl ?_
  refine r_bipush (pc := 5) (61 : Int32) dX10_parents_5 (by decide) ?_
  refine r_icmp_ge (pc := 7) 42 dX10_parents_7 (by decide) (fun hc => ?_) (fun hc => ?_)
  · rw [if_pos hc] at hf
    cases hf
    exact gW.weak (by simp [gle]) hk
  · rw [if_neg hc] at hf
    refine r_iload_n (pc := 10) dX10_parents_10 rfl ?_
    refine r_aload_n (pc := 11) dX10_parents_11 rfl ?_
    refine r_iload_n (pc := 12) dX10_parents_12 rfl ?_
    replace hf := obind hf
    obtain ⟨q1, e2, hf⟩ := hf
    refine q_callV (pc := 13) (v := some (.int q1)) (S' := S) mX10_isItem 10 [.int l3] dX10_parents_13 kX10_146 fX10_isItem iX10_isItem ⟨by decide, by decide⟩ rfl rfl rfl (Nat.le_of_ble_eq_true rfl) (og e2) (mc1 := 0) (ms1 := 0) (mc2 := mc) (ms2 := ms) (by omega) (by omega) (C_X10_isItem S l0 l3 q1 e2 (qR_mk _ _)) ?_
    change gW _ _ _ _ (.int q1 :: _) _ _ _ _ _
    refine r_if_eq (pc := 16) 33 dX10_parents_16 (by decide) (fun hc => ?_) (fun hc => ?_)
    · rw [if_pos hc] at hf
      exact gW.weak (by simp [gle]) (W_X10_parents_33 l0 l1 S l3 l2 r hf hk)
    · rw [if_neg hc] at hf
      refine r_aload_n (pc := 19) dX10_parents_19 rfl ?_
      refine r_iload_n (pc := 20) dX10_parents_20 rfl ?_
      refine r_iload_n (pc := 21) dX10_parents_21 rfl ?_
      replace hf := obind hf
      obtain ⟨q3, e4, hf⟩ := hf
      refine q_callV (pc := 22) (v := some (.int q3)) (S' := S) mX10_indexOf 10 [.int l3, .int l1] dX10_parents_22 kX10_172 fX10_indexOf iX10_indexOf ⟨by decide, by decide⟩ rfl rfl rfl (Nat.le_of_ble_eq_true rfl) (og e4) (mc1 := 0) (ms1 := 0) (mc2 := mc) (ms2 := ms) (by omega) (by omega) (C_X10_indexOf S l0 l3 l1 q3 e4 (qR_mk _ _)) ?_
      change gW _ _ _ _ (.int q3 :: _) _ _ _ _ _
      refine r_iconst (pc := 25) (-1 : Int32) dX10_parents_25 (by decide) ?_
      refine r_icmp_eq (pc := 26) 33 dX10_parents_26 (by decide) (fun hc => ?_) (fun hc => ?_)
      · rw [if_pos hc] at hf
        exact gW.weak (by simp [gle]) (W_X10_parents_33 l0 l1 S l3 l2 r hf hk)
      · rw [if_neg hc] at hf
        refine r_iconst (pc := 29) (1 : Int32) dX10_parents_29 (by decide) ?_
        refine r_goto (pc := 30) 34 dX10_parents_30 (by decide) ?_
        refine r_iadd (pc := 34) dX10_parents_34 ?_
        refine r_istore_n (pc := 35) dX10_parents_35 (by decide) ?_
        change gW _ _ _ [some (.ref l0), some (.int l1), some (.int (l2 + (1 : Int32))), some (.int l3)] _ _ _ _ _ _
        refine r_iinc (pc := 36) dX10_parents_36 rfl (by decide) ?_
        change gW _ _ _ [some (.ref l0), some (.int l1), some (.int (l2 + (1 : Int32))), some (.int (l3 + (1 : Int32)))] _ _ _ _ _ _
        refine r_goto (pc := 39) 4 dX10_parents_39 (by decide) ?_
        cases hf
        exact gW.weak (by simp [gle]) hk
def F_X10_parents (S : pS) (a0 : Nat) (a1 : Int32) : Option (Int32) := (oF S a0 10).bind fun _ => (iter (F_X10_parents_4 a0 a1 S) fu ((0 : Int32), (0 : Int32))).bind fun r5 => some r5
set_option maxRecDepth 100000 in
set_option maxHeartbeats 4000000 in
theorem C_X10_parents {X : pX} {Q : pO → Nat → pF → Prop} (S : pS) (a0 : Nat) (a1 : Int32) (r : Int32) (hf : F_X10_parents S a0 a1 = some r) (hk : Q (.inl (some (.int r))) S.1 S.2) : gC X mX10_parents [.ref a0, .int a1] S.1 S.2 Q 0 0 := by
  refine gC_of (by decide) (Nat.le_of_ble_eq_true rfl) rfl ?_
  change gW _ _ _ [some (.ref a0), some (.int a1), none, none] _ _ _ _ _ _
  unfold F_X10_parents at hf
  obtain ⟨_, _, hf⟩ := obind hf
  refine r_iconst (pc := 0) (0 : Int32) dX10_parents_0 (by decide) ?_
  refine r_istore_n (pc := 1) dX10_parents_1 (by decide) ?_
  change gW _ _ _ [some (.ref a0), some (.int a1), some (.int (0 : Int32)), none] _ _ _ _ _ _
  refine r_iconst (pc := 2) (0 : Int32) dX10_parents_2 (by decide) ?_
  refine r_istore_n (pc := 3) dX10_parents_3 (by decide) ?_
  change gW _ _ _ [some (.ref a0), some (.int a1), some (.int (0 : Int32)), some (.int (0 : Int32))] _ _ _ _ _ _
  replace hf := obind hf
  obtain ⟨r5, e6, hf⟩ := hf
  refine gW.weak (ls' := [some (.ref a0), some (.int a1), some (.int (0 : Int32)), some (.int (0 : Int32))]) (by simp [gle]) ?_
  refine g_iter (L := L_X10_parents_4 a0 a1 S) (s := s_X10_parents_4 a0 a1 S) (K := K_X10_parents_4 X Q _ _ a0 a1 S) (W_X10_parents_4 a0 a1 S) fu ((0 : Int32), (0 : Int32)) _ e6 ?_
  show gW _ _ 42 [some (.ref a0), some (.int a1), some (.int r5), none] [] S.1 S.2 _ _ _
  refine r_iload_n (pc := 42) dX10_parents_42 rfl ?_
  refine r_ireturn (pc := 43) .int dX10_parents_43 rfl rfl ?_
  cases hf
  exact hk
