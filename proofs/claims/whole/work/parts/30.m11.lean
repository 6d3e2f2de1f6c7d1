abbrev L_X10_related_64 (l0 : Nat) (l1 : Int32) (l2 : Int32) (S : pS) : Int32 × Int32 → List (Option Value) := fun a => [some (.ref l0), some (.int l1), some (.int l2), none, some (.int a.1), some (.int a.2)]
abbrev s_X10_related_64 (l0 : Nat) (l1 : Int32) (l2 : Int32) (S : pS) : Int32 × Int32 → pS := fun a => S
abbrev K_X10_related_64 (X : pX) (Q : pO → Nat → pF → Prop) (mc ms : Nat) (l0 : Nat) (l1 : Int32) (l2 : Int32) (S : pS) : (Int32) ⊕ (Unit) → Prop := (Sum.elim (fun b => gW X mX10_related 97 [some (.ref l0), some (.int l1), some (.int l2), none, none, some (.int b)] [] S.1 S.2 Q mc ms) (fun b => gW X mX10_related 109 [some (.ref l0), some (.int l1), some (.int l2), none, none, none] [] S.1 S.2 Q mc ms))
def F_X10_related_64 (l0 : Nat) (l1 : Int32) (l2 : Int32) (S : pS) : Int32 × Int32 → Option ((Int32 × Int32) ⊕ ((Int32) ⊕ (Unit))) := fun a => if (61 : Int32) ≤ a.2 then (some (.inr (.inr ()))) else ((F_X10_isItem S l0 a.2).bind fun q5 => if q5 = 0 then (some (.inl (a.1, a.2 + (1 : Int32)))) else ((F_X10_indexOf S l0 a.2 l1).bind fun q7 => if q7 = (-1 : Int32) then (some (.inl (a.1, a.2 + (1 : Int32)))) else (if ¬ a.1 = l2 then (some (.inl (a.1 + (1 : Int32), a.2 + (1 : Int32)))) else (some (.inr (.inl a.2))))))
set_option maxRecDepth 100000 in
set_option maxHeartbeats 4000000 in
theorem W_X10_related_64 {X : pX} {Q : pO → Nat → pF → Prop} {mc ms : Nat} (l0 : Nat) (l1 : Int32) (l2 : Int32) (S : pS) : ∀ (a : Int32 × Int32) (r : (Int32 × Int32) ⊕ ((Int32) ⊕ (Unit))), F_X10_related_64 l0 l1 l2 S a = some r → Sum.elim (fun a' => gW X mX10_related 64 (L_X10_related_64 l0 l1 l2 S a') [] (s_X10_related_64 l0 l1 l2 S a').1 (s_X10_related_64 l0 l1 l2 S a').2 Q mc ms) (K_X10_related_64 X Q mc ms l0 l1 l2 S) r → gW X mX10_related 64 (L_X10_related_64 l0 l1 l2 S a) [] (s_X10_related_64 l0 l1 l2 S a).1 (s_X10_related_64 l0 l1 l2 S a).2 Q mc ms := by
  intro a r hf hk
  obtain ⟨l4, l5⟩ := a
  unfold F_X10_related_64 at hf
  try dsimp only at hf
  change gW _ _ _ [some (.ref l0), some (.int l1), some (.int l2), none, some (.int l4), some (.int l5)] _ S.1 S.2 _ _ _
  refine r_iload (pc := 64) dX10_related_64 rfl ?_
  refine r_bipush (pc := 66) (61 : Int32) dX10_related_66 (by decide) ?_
  refine r_icmp_ge (pc := 68) 109 dX10_related_68 (by decide) (fun hc => ?_) (fun hc => ?_)
  · rw [if_pos hc] at hf
    cases hf
    exact gW.weak (by simp [gle]) hk
  · rw [if_neg hc] at hf
    refine r_aload_n (pc := 71) dX10_related_71 rfl ?_
    refine r_iload (pc := 72) dX10_related_72 rfl ?_
    obtain ⟨q5, e6, hf⟩ := obind hf
    refine q_callV (pc := 74) (v := some (.int q5)) (S' := S) mX10_isItem 10 [.int l5] dX10_related_74 kX10_146 fX10_isItem iX10_isItem ⟨by decide, by decide⟩ rfl rfl rfl (Nat.le_of_ble_eq_true rfl) (og e6) (mc1 := 0) (ms1 := 0) (mc2 := mc) (ms2 := ms) (by omega) (by omega) (C_X10_isItem S l0 l5 q5 e6 (qR_mk _ _)) ?_
    change gW _ _ _ _ (.int q5 :: _) _ _ _ _ _
    refine r_if_eq (pc := 77) 103 dX10_related_77 (by decide) (fun hc => ?_) (fun hc => ?_)
    · rw [if_pos hc] at hf
      refine r_iinc (pc := 103) dX10_related_103 rfl (by decide) ?_
      change gW _ _ _ [some (.ref l0), some (.int l1), some (.int l2), none, some (.int l4), some (.int (l5 + (1 : Int32)))] _ _ _ _ _ _
      refine r_goto (pc := 106) 64 dX10_related_106 (by decide) ?_
      cases hf
      exact gW.weak (by simp [gle]) hk
    · rw [if_neg hc] at hf
      refine r_aload_n (pc := 80) dX10_related_80 rfl ?_
      refine r_iload (pc := 81) dX10_related_81 rfl ?_
      refine r_iload_n (pc := 83) dX10_related_83 rfl ?_
      obtain ⟨q7, e8, hf⟩ := obind hf
      refine q_callV (pc := 84) (v := some (.int q7)) (S' := S) mX10_indexOf 10 [.int l5, .int l1] dX10_related_84 kX10_172 fX10_indexOf iX10_indexOf ⟨by decide, by decide⟩ rfl rfl rfl (Nat.le_of_ble_eq_true rfl) (og e8) (mc1 := 0) (ms1 := 0) (mc2 := mc) (ms2 := ms) (by omega) (by omega) (C_X10_indexOf S l0 l5 l1 q7 e8 (qR_mk _ _)) ?_
      change gW _ _ _ _ (.int q7 :: _) _ _ _ _ _
      refine r_iconst (pc := 87) (-1 : Int32) dX10_related_87 (by decide) ?_
      refine r_icmp_eq (pc := 88) 103 dX10_related_88 (by decide) (fun hc => ?_) (fun hc => ?_)
      · rw [if_pos hc] at hf
        refine r_iinc (pc := 103) dX10_related_103 rfl (by decide) ?_
        change gW _ _ _ [some (.ref l0), some (.int l1), some (.int l2), none, some (.int l4), some (.int (l5 + (1 : Int32)))] _ _ _ _ _ _
        refine r_goto (pc := 106) 64 dX10_related_106 (by decide) ?_
        cases hf
        exact gW.weak (by simp [gle]) hk
      · rw [if_neg hc] at hf
        refine r_iload (pc := 91) dX10_related_91 rfl ?_
        refine r_iload_n (pc := 93) dX10_related_93 rfl ?_
        refine r_icmp_ne (pc := 94) 100 dX10_related_94 (by decide) (fun hc => ?_) (fun hc => ?_)
        · rw [if_pos hc] at hf
          refine r_iinc (pc := 100) dX10_related_100 rfl (by decide) ?_
          change gW _ _ _ [some (.ref l0), some (.int l1), some (.int l2), none, some (.int (l4 + (1 : Int32))), some (.int l5)] _ _ _ _ _ _
          refine r_iinc (pc := 103) dX10_related_103 rfl (by decide) ?_
          change gW _ _ _ [some (.ref l0), some (.int l1), some (.int l2), none, some (.int (l4 + (1 : Int32))), some (.int (l5 + (1 : Int32)))] _ _ _ _ _ _
          refine r_goto (pc := 106) 64 dX10_related_106 (by decide) ?_
          cases hf
          exact gW.weak (by simp [gle]) hk
        · rw [if_neg hc] at hf
          cases hf
          exact gW.weak (by simp [gle]) hk
def F_X10_related (S : pS) (a0 : Nat) (a1 : Int32) (a2 : Int32) (a3 : Int32) : Option (Int32 × pS) := (oF S a0 10).bind fun _ => (oPI S a0 10 0 (0 : Int32)).bind fun S1 => (F_X10_isItem S1 a0 a1).bind fun q3 => if ¬ q3 = 0 then (if ¬ a3 = 0 then ((iter (F_X10_related_64 a0 a1 a2 S1) fu ((0 : Int32), (0 : Int32))).bind fun r9 => Sum.elim (fun q11 => some (q11, S1)) (fun q11 => (F_X10_fails S1 a0 (2 : Int32)).bind fun q12 => some (q12.1, q12.2)) r9) else ((oGA S1 a0 10 1).bind fun x14 => (oAI S1 x14 .int ((916 : Int32) + a1)).bind fun x16 => (F_X10_in S1 a2 (0 : Int32) (x16 - (1 : Int32))).bind fun q18 => if q18 = 0 then ((F_X10_fails S1 a0 (2 : Int32)).bind fun q20 => some (q20.1, q20.2)) else ((F_X10_child S1 a0 a1 a2).bind fun q22 => some (q22, S1)))) else ((F_X10_fails S1 a0 (1 : Int32)).bind fun q24 => some (q24.1, q24.2))
set_option maxRecDepth 100000 in
set_option maxHeartbeats 4000000 in
theorem C_X10_related {X : pX} {Q : pO → Nat → pF → Prop} (S : pS) (a0 : Nat) (a1 : Int32) (a2 : Int32) (a3 : Int32) (r : Int32 × pS) (hf : F_X10_related S a0 a1 a2 a3 = some r) (hk : Q (.inl (some (.int r.1))) r.2.1 r.2.2) : gC X mX10_related [.ref a0, .int a1, .int a2, .int a3] S.1 S.2 Q 0 0 := by
  refine gC_of (by decide) (Nat.le_of_ble_eq_true rfl) ?_
  change gW _ _ _ [some (.ref a0), some (.int a1), some (.int a2), some (.int a3), none, none] _ _ _ _ _ _
  unfold F_X10_related at hf
  obtain ⟨_, _, hf⟩ := obind hf
  refine r_aload_n (pc := 0) dX10_related_0 rfl ?_
  refine r_iconst (pc := 1) (0 : Int32) dX10_related_1 (by decide) ?_
  obtain ⟨S1, e2, hf⟩ := obind hf
  refine q_putI (pc := 2) dX10_related_2 pX10_139 rfl e2 ?_
  refine r_aload_n (pc := 5) dX10_related_5 rfl ?_
  refine r_iload_n (pc := 6) dX10_related_6 rfl ?_
  obtain ⟨q3, e4, hf⟩ := obind hf
  refine q_callV (pc := 7) (v := some (.int q3)) (S' := S1) mX10_isItem 10 [.int a1] dX10_related_7 kX10_146 fX10_isItem iX10_isItem ⟨by decide, by decide⟩ rfl rfl rfl (Nat.le_of_ble_eq_true rfl) (og e4) (mc1 := 0) (ms1 := 0) (mc2 := 0) (ms2 := 0) (by decide) (by decide) (C_X10_isItem S1 a0 a1 q3 e4 (qR_mk _ _)) ?_
  change gW _ _ _ _ (.int q3 :: _) _ _ _ _ _
  refine r_if_ne (pc := 10) 19 dX10_related_10 (by decide) (fun hc => ?_) (fun hc => ?_)
  · rw [if_pos hc] at hf
    refine r_iload_n (pc := 19) dX10_related_19 rfl ?_
    refine r_if_ne (pc := 20) 58 dX10_related_20 (by decide) (fun hc => ?_) (fun hc => ?_)
    · rw [if_pos hc] at hf
      refine r_iconst (pc := 58) (0 : Int32) dX10_related_58 (by decide) ?_
      refine r_istore (pc := 59) dX10_related_59 (by decide) ?_
      change gW _ _ _ [some (.ref a0), some (.int a1), some (.int a2), some (.int a3), some (.int (0 : Int32)), none] _ _ _ _ _ _
      refine r_iconst (pc := 61) (0 : Int32) dX10_related_61 (by decide) ?_
      refine r_istore (pc := 62) dX10_related_62 (by decide) ?_
      change gW _ _ _ [some (.ref a0), some (.int a1), some (.int a2), some (.int a3), some (.int (0 : Int32)), some (.int (0 : Int32))] _ _ _ _ _ _
      obtain ⟨r9, e10, hf⟩ := obind hf
      refine gW.weak (ls' := [some (.ref a0), some (.int a1), some (.int a2), none, some (.int (0 : Int32)), some (.int (0 : Int32))]) (by simp [gle]) ?_
      refine g_iter (L := L_X10_related_64 a0 a1 a2 S1) (s := s_X10_related_64 a0 a1 a2 S1) (K := K_X10_related_64 X Q _ _ a0 a1 a2 S1) (W_X10_related_64 a0 a1 a2 S1) fu ((0 : Int32), (0 : Int32)) _ e10 ?_
      rcases r9 with q11 | q11
      · replace hf := hf
        show gW _ _ 97 [some (.ref a0), some (.int a1), some (.int a2), none, none, some (.int q11)] [] S1.1 S1.2 _ _ _
        refine r_iload (pc := 97) dX10_related_97 rfl ?_
        refine r_ireturn (pc := 99) .int dX10_related_99 rfl rfl ?_
        cases hf
        exact hk
      · replace hf := hf
        show gW _ _ 109 [some (.ref a0), some (.int a1), some (.int a2), none, none, none] [] S1.1 S1.2 _ _ _
        refine r_aload_n (pc := 109) dX10_related_109 rfl ?_
        refine r_iconst (pc := 110) (2 : Int32) dX10_related_110 (by decide) ?_
        obtain ⟨q12, e13, hf⟩ := obind hf
        refine q_callV (pc := 111) (v := some (.int q12.1)) (S' := q12.2) mX10_fails 10 [.int (2 : Int32)] dX10_related_111 kX10_186 fX10_fails iX10_fails ⟨by decide, by decide⟩ rfl rfl rfl (Nat.le_of_ble_eq_true rfl) (og e13) (mc1 := 0) (ms1 := 0) (mc2 := 0) (ms2 := 0) (by decide) (by decide) (C_X10_fails S1 a0 (2 : Int32) q12 e13 (qR_mk _ _)) ?_
        change gW _ _ _ _ (.int q12.1 :: _) _ _ _ _ _
        refine r_ireturn (pc := 114) .int dX10_related_114 rfl rfl ?_
        cases hf
        exact hk
    · rw [if_neg hc] at hf
      refine r_iload_n (pc := 23) dX10_related_23 rfl ?_
      refine r_iconst (pc := 24) (0 : Int32) dX10_related_24 (by decide) ?_
      refine r_aload_n (pc := 25) dX10_related_25 rfl ?_
      obtain ⟨x14, e15, hf⟩ := obind hf
      refine q_getA (pc := 26) dX10_related_26 gX10_7 e15 ?_
      refine r_sipush (pc := 29) (916 : Int32) dX10_related_29 (by decide) ?_
      refine r_iload_n (pc := 32) dX10_related_32 rfl ?_
      refine r_iadd (pc := 33) dX10_related_33 ?_
      obtain ⟨x16, e17, hf⟩ := obind hf
      refine q_iald (pc := 34) dX10_related_34 e17 ?_
      refine r_iconst (pc := 35) (1 : Int32) dX10_related_35 (by decide) ?_
      refine r_isub (pc := 36) dX10_related_36 ?_
      obtain ⟨q18, e19, hf⟩ := obind hf
      refine q_callS (pc := 37) (v := some (.int q18)) (S' := S1) mX10_in [.int a2, .int (0 : Int32), .int (x16 - (1 : Int32))] dX10_related_37 kX10_142 fX10_in sX10_in ⟨by decide, by decide⟩ rfl rfl (Nat.le_of_ble_eq_true rfl) (mc1 := 0) (ms1 := 0) (mc2 := 0) (ms2 := 0) (by decide) (by decide) (C_X10_in S1 a2 (0 : Int32) (x16 - (1 : Int32)) q18 e19 (qR_mk _ _)) ?_
      change gW _ _ _ _ (.int q18 :: _) _ _ _ _ _
      refine r_if_eq (pc := 40) 52 dX10_related_40 (by decide) (fun hc => ?_) (fun hc => ?_)
      · rw [if_pos hc] at hf
        refine r_aload_n (pc := 52) dX10_related_52 rfl ?_
        refine r_iconst (pc := 53) (2 : Int32) dX10_related_53 (by decide) ?_
        obtain ⟨q20, e21, hf⟩ := obind hf
        refine q_callV (pc := 54) (v := some (.int q20.1)) (S' := q20.2) mX10_fails 10 [.int (2 : Int32)] dX10_related_54 kX10_186 fX10_fails iX10_fails ⟨by decide, by decide⟩ rfl rfl rfl (Nat.le_of_ble_eq_true rfl) (og e21) (mc1 := 0) (ms1 := 0) (mc2 := 0) (ms2 := 0) (by decide) (by decide) (C_X10_fails S1 a0 (2 : Int32) q20 e21 (qR_mk _ _)) ?_
        change gW _ _ _ _ (.int q20.1 :: _) _ _ _ _ _
        refine r_ireturn (pc := 57) .int dX10_related_57 rfl rfl ?_
        cases hf
        exact hk
      · rw [if_neg hc] at hf
        refine r_aload_n (pc := 43) dX10_related_43 rfl ?_
        refine r_iload_n (pc := 44) dX10_related_44 rfl ?_
        refine r_iload_n (pc := 45) dX10_related_45 rfl ?_
        obtain ⟨q22, e23, hf⟩ := obind hf
        refine q_callV (pc := 46) (v := some (.int q22)) (S' := S1) mX10_child 10 [.int a1, .int a2] dX10_related_46 kX10_150 fX10_child iX10_child ⟨by decide, by decide⟩ rfl rfl rfl (Nat.le_of_ble_eq_true rfl) (og e23) (mc1 := 0) (ms1 := 0) (mc2 := 0) (ms2 := 0) (by decide) (by decide) (C_X10_child S1 a0 a1 a2 q22 e23 (qR_mk _ _)) ?_
        change gW _ _ _ _ (.int q22 :: _) _ _ _ _ _
        refine r_goto (pc := 49) 57 dX10_related_49 (by decide) ?_
        refine r_ireturn (pc := 57) .int dX10_related_57 rfl rfl ?_
        cases hf
        exact hk
  · rw [if_neg hc] at hf
    refine r_aload_n (pc := 13) dX10_related_13 rfl ?_
    refine r_iconst (pc := 14) (1 : Int32) dX10_related_14 (by decide) ?_
    obtain ⟨q24, e25, hf⟩ := obind hf
    refine q_callV (pc := 15) (v := some (.int q24.1)) (S' := q24.2) mX10_fails 10 [.int (1 : Int32)] dX10_related_15 kX10_186 fX10_fails iX10_fails ⟨by decide, by decide⟩ rfl rfl rfl (Nat.le_of_ble_eq_true rfl) (og e25) (mc1 := 0) (ms1 := 0) (mc2 := 0) (ms2 := 0) (by decide) (by decide) (C_X10_fails S1 a0 (1 : Int32) q24 e25 (qR_mk _ _)) ?_
    change gW _ _ _ _ (.int q24.1 :: _) _ _ _ _ _
    refine r_ireturn (pc := 18) .int dX10_related_18 rfl rfl ?_
    cases hf
    exact hk
def F_X10_letter_38 (S : pS) (l0 : Nat) (l1 : Int32) (l2 : Int32) (t0 : Nat) (t1 : Int32) : Option (Int32 × pS) := (oPI S t0 10 0 t1).bind fun S9 => (oGI S9 l0 10 0).bind fun x11 => if x11 ≤ 0 then ((oGA S9 l0 10 1).bind fun x13 => (oAI S9 x13 .int (((306 : Int32) + ((10 : Int32) * l1)) + l2)).bind fun x15 => (oC ((x15.toUInt32 % 65536).toInt32)).bind fun x17 => some (x17, S9)) else ((oC (0 : Int32)).bind fun x19 => some (x19, S9))
set_option maxRecDepth 100000 in
set_option maxHeartbeats 4000000 in
theorem W_X10_letter_38 {X : pX} {Q : pO → Nat → pF → Prop} (S : pS) (l0 : Nat) (l1 : Int32) (l2 : Int32) (t0 : Nat) (t1 : Int32) (r : Int32 × pS) (hf : F_X10_letter_38 S l0 l1 l2 t0 t1 = some r) (hk : Q (.inl (some (.int r.1))) r.2.1 r.2.2) : gW X mX10_letter 38 [some (.ref l0), some (.int l1), some (.int l2)] [.int t1, .ref t0] S.1 S.2 Q 0 0 := by
  unfold F_X10_letter_38 at hf
  obtain ⟨S9, e10, hf⟩ := obind hf
  refine q_putI (pc := 38) dX10_letter_38 pX10_139 rfl e10 ?_
  refine r_aload_n (pc := 41) dX10_letter_41 rfl ?_
  obtain ⟨x11, e12, hf⟩ := obind hf
  refine q_getI (pc := 42) dX10_letter_42 gX10_139 e12 ?_
  refine r_if_le (pc := 45) 52 dX10_letter_45 (by decide) (fun hc => ?_) (fun hc => ?_)
  · rw [if_pos hc] at hf
    refine r_aload_n (pc := 52) dX10_letter_52 rfl ?_
    obtain ⟨x13, e14, hf⟩ := obind hf
    refine q_getA (pc := 53) dX10_letter_53 gX10_7 e14 ?_
    refine r_sipush (pc := 56) (306 : Int32) dX10_letter_56 (by decide) ?_
    refine r_bipush (pc := 59) (10 : Int32) dX10_letter_59 (by decide) ?_
    refine r_iload_n (pc := 61) dX10_letter_61 rfl ?_
    refine r_imul (pc := 62) dX10_letter_62 ?_
    refine r_iadd (pc := 63) dX10_letter_63 ?_
    refine r_iload_n (pc := 64) dX10_letter_64 rfl ?_
    refine r_iadd (pc := 65) dX10_letter_65 ?_
    obtain ⟨x15, e16, hf⟩ := obind hf
    refine q_iald (pc := 66) dX10_letter_66 e16 ?_
    refine r_i2c (pc := 67) dX10_letter_67 ?_
    obtain ⟨x17, e18, hf⟩ := obind hf
    obtain ⟨rfl, e18⟩ := oC_some e18
    refine r_ireturn (pc := 68) .char dX10_letter_68 rfl e18 ?_
    cases hf
    exact hk
  · rw [if_neg hc] at hf
    refine r_iconst (pc := 48) (0 : Int32) dX10_letter_48 (by decide) ?_
    refine r_goto (pc := 49) 68 dX10_letter_49 (by decide) ?_
    obtain ⟨x19, e20, hf⟩ := obind hf
    obtain ⟨rfl, e20⟩ := oC_some e20
    refine r_ireturn (pc := 68) .char dX10_letter_68 rfl e20 ?_
    cases hf
    exact hk
def F_X10_letter (S : pS) (a0 : Nat) (a1 : Int32) (a2 : Int32) : Option (Int32 × pS) := (oF S a0 10).bind fun _ => (F_X10_isOther S a0 a1).bind fun q1 => if ¬ q1 = 0 then ((oGA S a0 10 1).bind fun x3 => (oAI S x3 .int ((245 : Int32) + a1)).bind fun x5 => (F_X10_in S a2 (0 : Int32) (x5 - (1 : Int32))).bind fun q7 => if ¬ q7 = 0 then (F_X10_letter_38 S a0 a1 a2 a0 (0 : Int32)) else (F_X10_letter_38 S a0 a1 a2 a0 (2 : Int32))) else (F_X10_letter_38 S a0 a1 a2 a0 (1 : Int32))
set_option maxRecDepth 100000 in
set_option maxHeartbeats 4000000 in
theorem C_X10_letter {X : pX} {Q : pO → Nat → pF → Prop} (S : pS) (a0 : Nat) (a1 : Int32) (a2 : Int32) (r : Int32 × pS) (hf : F_X10_letter S a0 a1 a2 = some r) (hk : Q (.inl (some (.int r.1))) r.2.1 r.2.2) : gC X mX10_letter [.ref a0, .int a1, .int a2] S.1 S.2 Q 0 0 := by
  refine gC_of (by decide) (Nat.le_of_ble_eq_true rfl) ?_
  change gW _ _ _ [some (.ref a0), some (.int a1), some (.int a2)] _ _ _ _ _ _
  unfold F_X10_letter at hf
  obtain ⟨_, _, hf⟩ := obind hf
  refine r_aload_n (pc := 0) dX10_letter_0 rfl ?_
  refine r_aload_n (pc := 1) dX10_letter_1 rfl ?_
  refine r_iload_n (pc := 2) dX10_letter_2 rfl ?_
  obtain ⟨q1, e2, hf⟩ := obind hf
  refine q_callV (pc := 3) (v := some (.int q1)) (S' := S) mX10_isOther 10 [.int a1] dX10_letter_3 kX10_245 fX10_isOther iX10_isOther ⟨by decide, by decide⟩ rfl rfl rfl (Nat.le_of_ble_eq_true rfl) (og e2) (mc1 := 0) (ms1 := 0) (mc2 := 0) (ms2 := 0) (by decide) (by decide) (C_X10_isOther S a0 a1 q1 e2 (qR_mk _ _)) ?_
  change gW _ _ _ _ (.int q1 :: _) _ _ _ _ _
  refine r_if_ne (pc := 6) 13 dX10_letter_6 (by decide) (fun hc => ?_) (fun hc => ?_)
  · rw [if_pos hc] at hf
    refine r_iload_n (pc := 13) dX10_letter_13 rfl ?_
    refine r_iconst (pc := 14) (0 : Int32) dX10_letter_14 (by decide) ?_
    refine r_aload_n (pc := 15) dX10_letter_15 rfl ?_
    obtain ⟨x3, e4, hf⟩ := obind hf
    refine q_getA (pc := 16) dX10_letter_16 gX10_7 e4 ?_
    refine r_sipush (pc := 19) (245 : Int32) dX10_letter_19 (by decide) ?_
    refine r_iload_n (pc := 22) dX10_letter_22 rfl ?_
    refine r_iadd (pc := 23) dX10_letter_23 ?_
    obtain ⟨x5, e6, hf⟩ := obind hf
    refine q_iald (pc := 24) dX10_letter_24 e6 ?_
    refine r_iconst (pc := 25) (1 : Int32) dX10_letter_25 (by decide) ?_
    refine r_isub (pc := 26) dX10_letter_26 ?_
    obtain ⟨q7, e8, hf⟩ := obind hf
    refine q_callS (pc := 27) (v := some (.int q7)) (S' := S) mX10_in [.int a2, .int (0 : Int32), .int (x5 - (1 : Int32))] dX10_letter_27 kX10_142 fX10_in sX10_in ⟨by decide, by decide⟩ rfl rfl (Nat.le_of_ble_eq_true rfl) (mc1 := 0) (ms1 := 0) (mc2 := 0) (ms2 := 0) (by decide) (by decide) (C_X10_in S a2 (0 : Int32) (x5 - (1 : Int32)) q7 e8 (qR_mk _ _)) ?_
    change gW _ _ _ _ (.int q7 :: _) _ _ _ _ _
    refine r_if_ne (pc := 30) 37 dX10_letter_30 (by decide) (fun hc => ?_) (fun hc => ?_)
    · rw [if_pos hc] at hf
      refine r_iconst (pc := 37) (0 : Int32) dX10_letter_37 (by decide) ?_
      refine gW.mono (mc := 0) (ms := 0) ?_ (fun _ _ _ q => q) (by decide) (by decide)
      exact gW.weak (by simp [gle]) (W_X10_letter_38 S a0 a1 a2 a0 (0 : Int32) r hf hk)
    · rw [if_neg hc] at hf
      refine r_iconst (pc := 33) (2 : Int32) dX10_letter_33 (by decide) ?_
      refine r_goto (pc := 34) 38 dX10_letter_34 (by decide) ?_
      refine gW.mono (mc := 0) (ms := 0) ?_ (fun _ _ _ q => q) (by decide) (by decide)
      exact gW.weak (by simp [gle]) (W_X10_letter_38 S a0 a1 a2 a0 (2 : Int32) r hf hk)
  · rw [if_neg hc] at hf
    refine r_iconst (pc := 9) (1 : Int32) dX10_letter_9 (by decide) ?_
    refine r_goto (pc := 10) 38 dX10_letter_10 (by decide) ?_
    refine gW.mono (mc := 0) (ms := 0) ?_ (fun _ _ _ q => q) (by decide) (by decide)
    exact gW.weak (by simp [gle]) (W_X10_letter_38 S a0 a1 a2 a0 (1 : Int32) r hf hk)
def F_X10_isBelow_22 (S : pS) (l0 : Nat) (l1 : Int32) (l2 : Int32) (t0 : Nat) (t1 : Int32) : Option (Int32 × pS) := (oPI S t0 10 0 t1).bind fun S3 => (oGI S3 l0 10 0).bind fun x5 => if x5 ≤ 0 then ((F_X10_knows S3 l0).bind fun q7 => (F_X10_isUnder q7 l0 l1 l2).bind fun q9 => (oZ q9).bind fun x11 => some (x11, q7)) else (some ((0 : Int32), S3))
set_option maxRecDepth 100000 in
set_option maxHeartbeats 4000000 in
theorem W_X10_isBelow_22 {X : pX} {Q : pO → Nat → pF → Prop} (S : pS) (l0 : Nat) (l1 : Int32) (l2 : Int32) (t0 : Nat) (t1 : Int32) (r : Int32 × pS) (hf : F_X10_isBelow_22 S l0 l1 l2 t0 t1 = some r) (hk : Q (.inl (some (.int r.1))) r.2.1 r.2.2) : gW X mX10_isBelow 22 [some (.ref l0), some (.int l1), some (.int l2)] [.int t1, .ref t0] S.1 S.2 Q 0 0 := by
  unfold F_X10_isBelow_22 at hf
  obtain ⟨S3, e4, hf⟩ := obind hf
  refine q_putI (pc := 22) dX10_isBelow_22 pX10_139 rfl e4 ?_
  refine r_aload_n (pc := 25) dX10_isBelow_25 rfl ?_
  obtain ⟨x5, e6, hf⟩ := obind hf
  refine q_getI (pc := 26) dX10_isBelow_26 gX10_139 e6 ?_
  refine r_if_le (pc := 29) 34 dX10_isBelow_29 (by decide) (fun hc => ?_) (fun hc => ?_)
  · rw [if_pos hc] at hf
    refine r_aload_n (pc := 34) dX10_isBelow_34 rfl ?_
    obtain ⟨q7, e8, hf⟩ := obind hf
    refine q_callV (pc := 35) (v := none) (S' := q7) mX10_knows 10 [] dX10_isBelow_35 kX10_169 fX10_knows iX10_knows ⟨by decide, by decide⟩ rfl rfl rfl (Nat.le_of_ble_eq_true rfl) (og e8) (mc1 := 0) (ms1 := 0) (mc2 := 0) (ms2 := 0) (by decide) (by decide) (C_X10_knows S3 l0 q7 e8 (qR_mk _ _)) ?_
    refine r_aload_n (pc := 38) dX10_isBelow_38 rfl ?_
    refine r_iload_n (pc := 39) dX10_isBelow_39 rfl ?_
    refine r_iload_n (pc := 40) dX10_isBelow_40 rfl ?_
    obtain ⟨q9, e10, hf⟩ := obind hf
    refine q_callV (pc := 41) (v := some (.int q9)) (S' := q7) mX10_isUnder 10 [.int l1, .int l2] dX10_isBelow_41 kX10_175 fX10_isUnder iX10_isUnder ⟨by decide, by decide⟩ rfl rfl rfl (Nat.le_of_ble_eq_true rfl) (og e10) (mc1 := 0) (ms1 := 0) (mc2 := 0) (ms2 := 0) (by decide) (by decide) (C_X10_isUnder q7 l0 l1 l2 q9 e10 (qR_mk _ _)) ?_
    change gW _ _ _ _ (.int q9 :: _) _ _ _ _ _
    obtain ⟨x11, e12, hf⟩ := obind hf
    obtain ⟨rfl, e12⟩ := oZ_some e12
    refine r_ireturn (pc := 44) .boolean dX10_isBelow_44 rfl e12 ?_
    cases hf
    exact hk
  · rw [if_neg hc] at hf
    refine r_iconst (pc := 32) (0 : Int32) dX10_isBelow_32 (by decide) ?_
    refine r_ireturn (pc := 33) .boolean dX10_isBelow_33 rfl rfl ?_
    cases hf
    exact hk
def F_X10_isBelow_21 (S : pS) (l0 : Nat) (l1 : Int32) (l2 : Int32) (t0 : Nat) : Option (Int32 × pS) := F_X10_isBelow_22 S l0 l1 l2 t0 (1 : Int32)
set_option maxRecDepth 100000 in
set_option maxHeartbeats 4000000 in
theorem W_X10_isBelow_21 {X : pX} {Q : pO → Nat → pF → Prop} (S : pS) (l0 : Nat) (l1 : Int32) (l2 : Int32) (t0 : Nat) (r : Int32 × pS) (hf : F_X10_isBelow_21 S l0 l1 l2 t0 = some r) (hk : Q (.inl (some (.int r.1))) r.2.1 r.2.2) : gW X mX10_isBelow 21 [some (.ref l0), some (.int l1), some (.int l2)] [.ref t0] S.1 S.2 Q 0 0 := by
  unfold F_X10_isBelow_21 at hf
  refine r_iconst (pc := 21) (1 : Int32) dX10_isBelow_21 (by decide) ?_
  refine gW.mono (mc := 0) (ms := 0) ?_ (fun _ _ _ q => q) (by decide) (by decide)
  exact gW.weak (by simp [gle]) (W_X10_isBelow_22 S l0 l1 l2 t0 (1 : Int32) r hf hk)
def F_X10_isBelow (S : pS) (a0 : Nat) (a1 : Int32) (a2 : Int32) : Option (Int32 × pS) := (oF S a0 10).bind fun _ => (F_X10_isItem S a0 a1).bind fun q1 => if q1 = 0 then (F_X10_isBelow_21 S a0 a1 a2 a0) else ((F_X10_isItem S a0 a2).bind fun q13 => if q13 = 0 then (F_X10_isBelow_21 S a0 a1 a2 a0) else (F_X10_isBelow_22 S a0 a1 a2 a0 (0 : Int32)))
set_option maxRecDepth 100000 in
set_option maxHeartbeats 4000000 in
theorem C_X10_isBelow {X : pX} {Q : pO → Nat → pF → Prop} (S : pS) (a0 : Nat) (a1 : Int32) (a2 : Int32) (r : Int32 × pS) (hf : F_X10_isBelow S a0 a1 a2 = some r) (hk : Q (.inl (some (.int r.1))) r.2.1 r.2.2) : gC X mX10_isBelow [.ref a0, .int a1, .int a2] S.1 S.2 Q 0 0 := by
  refine gC_of (by decide) (Nat.le_of_ble_eq_true rfl) ?_
  change gW _ _ _ [some (.ref a0), some (.int a1), some (.int a2)] _ _ _ _ _ _
  unfold F_X10_isBelow at hf
  obtain ⟨_, _, hf⟩ := obind hf
  refine r_aload_n (pc := 0) dX10_isBelow_0 rfl ?_
  refine r_aload_n (pc := 1) dX10_isBelow_1 rfl ?_
  refine r_iload_n (pc := 2) dX10_isBelow_2 rfl ?_
  obtain ⟨q1, e2, hf⟩ := obind hf
  refine q_callV (pc := 3) (v := some (.int q1)) (S' := S) mX10_isItem 10 [.int a1] dX10_isBelow_3 kX10_146 fX10_isItem iX10_isItem ⟨by decide, by decide⟩ rfl rfl rfl (Nat.le_of_ble_eq_true rfl) (og e2) (mc1 := 0) (ms1 := 0) (mc2 := 0) (ms2 := 0) (by decide) (by decide) (C_X10_isItem S a0 a1 q1 e2 (qR_mk _ _)) ?_
  change gW _ _ _ _ (.int q1 :: _) _ _ _ _ _
  refine r_if_eq (pc := 6) 21 dX10_isBelow_6 (by decide) (fun hc => ?_) (fun hc => ?_)
  · rw [if_pos hc] at hf
    refine gW.mono (mc := 0) (ms := 0) ?_ (fun _ _ _ q => q) (by decide) (by decide)
    exact gW.weak (by simp [gle]) (W_X10_isBelow_21 S a0 a1 a2 a0 r hf hk)
  · rw [if_neg hc] at hf
    refine r_aload_n (pc := 9) dX10_isBelow_9 rfl ?_
    refine r_iload_n (pc := 10) dX10_isBelow_10 rfl ?_
    obtain ⟨q13, e14, hf⟩ := obind hf
    refine q_callV (pc := 11) (v := some (.int q13)) (S' := S) mX10_isItem 10 [.int a2] dX10_isBelow_11 kX10_146 fX10_isItem iX10_isItem ⟨by decide, by decide⟩ rfl rfl rfl (Nat.le_of_ble_eq_true rfl) (og e14) (mc1 := 0) (ms1 := 0) (mc2 := 0) (ms2 := 0) (by decide) (by decide) (C_X10_isItem S a0 a2 q13 e14 (qR_mk _ _)) ?_
    change gW _ _ _ _ (.int q13 :: _) _ _ _ _ _
    refine r_if_eq (pc := 14) 21 dX10_isBelow_14 (by decide) (fun hc => ?_) (fun hc => ?_)
    · rw [if_pos hc] at hf
      refine gW.mono (mc := 0) (ms := 0) ?_ (fun _ _ _ q => q) (by decide) (by decide)
      exact gW.weak (by simp [gle]) (W_X10_isBelow_21 S a0 a1 a2 a0 r hf hk)
    · rw [if_neg hc] at hf
      refine r_iconst (pc := 17) (0 : Int32) dX10_isBelow_17 (by decide) ?_
      refine r_goto (pc := 18) 22 dX10_isBelow_18 (by decide) ?_
      refine gW.mono (mc := 0) (ms := 0) ?_ (fun _ _ _ q => q) (by decide) (by decide)
      exact gW.weak (by simp [gle]) (W_X10_isBelow_22 S a0 a1 a2 a0 (0 : Int32) r hf hk)
abbrev L_X10_fitting_4 (l0 : Nat) (S : pS) : Int32 × Int32 → List (Option Value) := fun a => [some (.ref l0), some (.int a.1), some (.int a.2)]
abbrev s_X10_fitting_4 (l0 : Nat) (S : pS) : Int32 × Int32 → pS := fun a => S
abbrev K_X10_fitting_4 (X : pX) (Q : pO → Nat → pF → Prop) (mc ms : Nat) (l0 : Nat) (S : pS) : Int32 → Prop := (fun b => gW X mX10_fitting 40 [some (.ref l0), some (.int b), none] [] S.1 S.2 Q mc ms)
def F_X10_fitting_31 (l0 : Nat) (S : pS) (l2 : Int32) (t0 : Int32) : Option ((Int32 × Int32) ⊕ (Int32)) := some (.inl (t0 + (0 : Int32), l2 + (1 : Int32)))
set_option maxRecDepth 100000 in
set_option maxHeartbeats 4000000 in
theorem W_X10_fitting_31 {X : pX} {Q : pO → Nat → pF → Prop} {mc ms : Nat} (l0 : Nat) (S : pS) (l2 : Int32) (t0 : Int32) (r : (Int32 × Int32) ⊕ (Int32)) (hf : F_X10_fitting_31 l0 S l2 t0 = some r) (hk : Sum.elim (fun a' => gW X mX10_fitting 4 (L_X10_fitting_4 l0 S a') [] (s_X10_fitting_4 l0 S a').1 (s_X10_fitting_4 l0 S a').2 Q mc ms) (K_X10_fitting_4 X Q mc ms l0 S) r) : gW X mX10_fitting 31 [some (.ref l0), none, some (.int l2)] [.int t0] S.1 S.2 Q mc ms := by
  unfold F_X10_fitting_31 at hf
  refine r_iconst (pc := 31) (0 : Int32) dX10_fitting_31 (by decide) ?_
  refine r_iadd (pc := 32) dX10_fitting_32 ?_
  refine r_istore_n (pc := 33) dX10_fitting_33 (by decide) ?_
  change gW _ _ _ [some (.ref l0), some (.int (t0 + (0 : Int32))), some (.int l2)] _ _ _ _ _ _
  refine r_iinc (pc := 34) dX10_fitting_34 rfl (by decide) ?_
  change gW _ _ _ [some (.ref l0), some (.int (t0 + (0 : Int32))), some (.int (l2 + (1 : Int32)))] _ _ _ _ _ _
  refine r_goto (pc := 37) 4 dX10_fitting_37 (by decide) ?_
  cases hf
  exact gW.weak (by simp [gle]) hk
def F_X10_fitting_4 (l0 : Nat) (S : pS) : Int32 × Int32 → Option ((Int32 × Int32) ⊕ (Int32)) := fun a => if (61 : Int32) ≤ a.2 then (some (.inr a.1)) else ((F_X10_isItem S l0 a.2).bind fun q1 => if q1 = 0 then (F_X10_fitting_31 l0 S a.2 a.1) else ((F_X10_fits S l0 a.2).bind fun q3 => if q3 = 0 then (F_X10_fitting_31 l0 S a.2 a.1) else (some (.inl (a.1 + (1 : Int32), a.2 + (1 : Int32))))))
set_option maxRecDepth 100000 in
set_option maxHeartbeats 4000000 in
theorem W_X10_fitting_4 {X : pX} {Q : pO → Nat → pF → Prop} {mc ms : Nat} (l0 : Nat) (S : pS) : ∀ (a : Int32 × Int32) (r : (Int32 × Int32) ⊕ (Int32)), F_X10_fitting_4 l0 S a = some r → Sum.elim (fun a' => gW X mX10_fitting 4 (L_X10_fitting_4 l0 S a') [] (s_X10_fitting_4 l0 S a').1 (s_X10_fitting_4 l0 S a').2 Q mc ms) (K_X10_fitting_4 X Q mc ms l0 S) r → gW X mX10_fitting 4 (L_X10_fitting_4 l0 S a) [] (s_X10_fitting_4 l0 S a).1 (s_X10_fitting_4 l0 S a).2 Q mc ms := by
  intro a r hf hk
  obtain ⟨l1, l2⟩ := a
  unfold F_X10_fitting_4 at hf
  try dsimp only at hf
  change gW _ _ _ [some (.ref l0), some (.int l1), some (.int l2)] _ S.1 S.2 _ _ _
  refine r_iload_n (pc := 4) dX10_fitting_4 rfl ?_
  refine r_bipush (pc := 5) (61 : Int32) dX10_fitting_5 (by decide) ?_
  refine r_icmp_ge (pc := 7) 40 dX10_fitting_7 (by decide) (fun hc => ?_) (fun hc => ?_)
  · rw [if_pos hc] at hf
    cases hf
    exact gW.weak (by simp [gle]) hk
  · rw [if_neg hc] at hf
    refine r_iload_n (pc := 10) dX10_fitting_10 rfl ?_
    refine r_aload_n (pc := 11) dX10_fitting_11 rfl ?_
    refine r_iload_n (pc := 12) dX10_fitting_12 rfl ?_
    obtain ⟨q1, e2, hf⟩ := obind hf
    refine q_callV (pc := 13) (v := some (.int q1)) (S' := S) mX10_isItem 10 [.int l2] dX10_fitting_13 kX10_146 fX10_isItem iX10_isItem ⟨by decide, by decide⟩ rfl rfl rfl (Nat.le_of_ble_eq_true rfl) (og e2) (mc1 := 0) (ms1 := 0) (mc2 := mc) (ms2 := ms) (by omega) (by omega) (C_X10_isItem S l0 l2 q1 e2 (qR_mk _ _)) ?_
    change gW _ _ _ _ (.int q1 :: _) _ _ _ _ _
    refine r_if_eq (pc := 16) 31 dX10_fitting_16 (by decide) (fun hc => ?_) (fun hc => ?_)
    · rw [if_pos hc] at hf
      exact gW.weak (by simp [gle]) (W_X10_fitting_31 l0 S l2 l1 r hf hk)
    · rw [if_neg hc] at hf
      refine r_aload_n (pc := 19) dX10_fitting_19 rfl ?_
      refine r_iload_n (pc := 20) dX10_fitting_20 rfl ?_
      obtain ⟨q3, e4, hf⟩ := obind hf
      refine q_callV (pc := 21) (v := some (.int q3)) (S' := S) mX10_fits 10 [.int l2] dX10_fitting_21 kX10_282 fX10_fits iX10_fits ⟨by decide, by decide⟩ rfl rfl rfl (Nat.le_of_ble_eq_true rfl) (og e4) (mc1 := 0) (ms1 := 0) (mc2 := mc) (ms2 := ms) (by omega) (by omega) (C_X10_fits S l0 l2 q3 e4 (qR_mk _ _)) ?_
      change gW _ _ _ _ (.int q3 :: _) _ _ _ _ _
      refine r_if_eq (pc := 24) 31 dX10_fitting_24 (by decide) (fun hc => ?_) (fun hc => ?_)
      · rw [if_pos hc] at hf
        exact gW.weak (by simp [gle]) (W_X10_fitting_31 l0 S l2 l1 r hf hk)
      · rw [if_neg hc] at hf
        refine r_iconst (pc := 27) (1 : Int32) dX10_fitting_27 (by decide) ?_
        refine r_goto (pc := 28) 32 dX10_fitting_28 (by decide) ?_
        refine r_iadd (pc := 32) dX10_fitting_32 ?_
        refine r_istore_n (pc := 33) dX10_fitting_33 (by decide) ?_
        change gW _ _ _ [some (.ref l0), some (.int (l1 + (1 : Int32))), some (.int l2)] _ _ _ _ _ _
        refine r_iinc (pc := 34) dX10_fitting_34 rfl (by decide) ?_
        change gW _ _ _ [some (.ref l0), some (.int (l1 + (1 : Int32))), some (.int (l2 + (1 : Int32)))] _ _ _ _ _ _
        refine r_goto (pc := 37) 4 dX10_fitting_37 (by decide) ?_
        cases hf
        exact gW.weak (by simp [gle]) hk
def F_X10_fitting (S : pS) (a0 : Nat) : Option (Int32) := (oF S a0 10).bind fun _ => (iter (F_X10_fitting_4 a0 S) fu ((0 : Int32), (1 : Int32))).bind fun r5 => some r5
set_option maxRecDepth 100000 in
set_option maxHeartbeats 4000000 in
theorem C_X10_fitting {X : pX} {Q : pO → Nat → pF → Prop} (S : pS) (a0 : Nat) (r : Int32) (hf : F_X10_fitting S a0 = some r) (hk : Q (.inl (some (.int r))) S.1 S.2) : gC X mX10_fitting [.ref a0] S.1 S.2 Q 0 0 := by
  refine gC_of (by decide) (Nat.le_of_ble_eq_true rfl) ?_
  change gW _ _ _ [some (.ref a0), none, none] _ _ _ _ _ _
  unfold F_X10_fitting at hf
  obtain ⟨_, _, hf⟩ := obind hf
  refine r_iconst (pc := 0) (0 : Int32) dX10_fitting_0 (by decide) ?_
  refine r_istore_n (pc := 1) dX10_fitting_1 (by decide) ?_
  change gW _ _ _ [some (.ref a0), some (.int (0 : Int32)), none] _ _ _ _ _ _
  refine r_iconst (pc := 2) (1 : Int32) dX10_fitting_2 (by decide) ?_
  refine r_istore_n (pc := 3) dX10_fitting_3 (by decide) ?_
  change gW _ _ _ [some (.ref a0), some (.int (0 : Int32)), some (.int (1 : Int32))] _ _ _ _ _ _
  obtain ⟨r5, e6, hf⟩ := obind hf
  refine gW.weak (ls' := [some (.ref a0), some (.int (0 : Int32)), some (.int (1 : Int32))]) (by simp [gle]) ?_
  refine g_iter (L := L_X10_fitting_4 a0 S) (s := s_X10_fitting_4 a0 S) (K := K_X10_fitting_4 X Q _ _ a0 S) (W_X10_fitting_4 a0 S) fu ((0 : Int32), (1 : Int32)) _ e6 ?_
  show gW _ _ 40 [some (.ref a0), some (.int r5), none] [] S.1 S.2 _ _ _
  refine r_iload_n (pc := 40) dX10_fitting_40 rfl ?_
  refine r_ireturn (pc := 41) .int dX10_fitting_41 rfl rfl ?_
  cases hf
  exact hk
abbrev L_X10_deepest_4 (l0 : Nat) (S : pS) : Int32 × Int32 → List (Option Value) := fun a => [some (.ref l0), some (.int a.1), some (.int a.2)]
abbrev s_X10_deepest_4 (l0 : Nat) (S : pS) : Int32 × Int32 → pS := fun a => S
abbrev K_X10_deepest_4 (X : pX) (Q : pO → Nat → pF → Prop) (mc ms : Nat) (l0 : Nat) (S : pS) : Int32 → Prop := (fun b => gW X mX10_deepest 45 [some (.ref l0), some (.int b), none] [] S.1 S.2 Q mc ms)
def F_X10_deepest_4 (l0 : Nat) (S : pS) : Int32 × Int32 → Option ((Int32 × Int32) ⊕ (Int32)) := fun a => if (61 : Int32) ≤ a.2 then (some (.inr a.1)) else ((F_X10_isItem S l0 a.2).bind fun q1 => if q1 = 0 then (some (.inl (a.1, a.2 + (1 : Int32)))) else ((oGA S l0 10 18).bind fun x3 => (oAI S x3 .int a.2).bind fun x5 => if x5 ≤ a.1 then (some (.inl (a.1, a.2 + (1 : Int32)))) else ((oGA S l0 10 18).bind fun x7 => (oAI S x7 .int a.2).bind fun x9 => some (.inl (x9, a.2 + (1 : Int32))))))
set_option maxRecDepth 100000 in
set_option maxHeartbeats 4000000 in
theorem W_X10_deepest_4 {X : pX} {Q : pO → Nat → pF → Prop} {mc ms : Nat} (l0 : Nat) (S : pS) : ∀ (a : Int32 × Int32) (r : (Int32 × Int32) ⊕ (Int32)), F_X10_deepest_4 l0 S a = some r → Sum.elim (fun a' => gW X mX10_deepest 4 (L_X10_deepest_4 l0 S a') [] (s_X10_deepest_4 l0 S a').1 (s_X10_deepest_4 l0 S a').2 Q mc ms) (K_X10_deepest_4 X Q mc ms l0 S) r → gW X mX10_deepest 4 (L_X10_deepest_4 l0 S a) [] (s_X10_deepest_4 l0 S a).1 (s_X10_deepest_4 l0 S a).2 Q mc ms := by
  intro a r hf hk
  obtain ⟨l1, l2⟩ := a
  unfold F_X10_deepest_4 at hf
  try dsimp only at hf
  change gW _ _ _ [some (.ref l0), some (.int l1), some (.int l2)] _ S.1 S.2 _ _ _
  refine r_iload_n (pc := 4) dX10_deepest_4 rfl ?_
  refine r_bipush (pc := 5) (61 : Int32) dX10_deepest_5 (by decide) ?_
  refine r_icmp_ge (pc := 7) 45 dX10_deepest_7 (by decide) (fun hc => ?_) (fun hc => ?_)
  · rw [if_pos hc] at hf
    cases hf
    exact gW.weak (by simp [gle]) hk
  · rw [if_neg hc] at hf
    refine r_aload_n (pc := 10) dX10_deepest_10 rfl ?_
    refine r_iload_n (pc := 11) dX10_deepest_11 rfl ?_
    obtain ⟨q1, e2, hf⟩ := obind hf
    refine q_callV (pc := 12) (v := some (.int q1)) (S' := S) mX10_isItem 10 [.int l2] dX10_deepest_12 kX10_146 fX10_isItem iX10_isItem ⟨by decide, by decide⟩ rfl rfl rfl (Nat.le_of_ble_eq_true rfl) (og e2) (mc1 := 0) (ms1 := 0) (mc2 := mc) (ms2 := ms) (by omega) (by omega) (C_X10_isItem S l0 l2 q1 e2 (qR_mk _ _)) ?_
    change gW _ _ _ _ (.int q1 :: _) _ _ _ _ _
    refine r_if_eq (pc := 15) 37 dX10_deepest_15 (by decide) (fun hc => ?_) (fun hc => ?_)
    · rw [if_pos hc] at hf
      refine r_iload_n (pc := 37) dX10_deepest_37 rfl ?_
      refine r_istore_n (pc := 38) dX10_deepest_38 (by decide) ?_
      change gW _ _ _ [some (.ref l0), some (.int l1), some (.int l2)] _ _ _ _ _ _
      refine r_iinc (pc := 39) dX10_deepest_39 rfl (by decide) ?_
      change gW _ _ _ [some (.ref l0), some (.int l1), some (.int (l2 + (1 : Int32)))] _ _ _ _ _ _
      refine r_goto (pc := 42) 4 dX10_deepest_42 (by decide) ?_
      cases hf
      exact gW.weak (by simp [gle]) hk
    · rw [if_neg hc] at hf
      refine r_aload_n (pc := 18) dX10_deepest_18 rfl ?_
      obtain ⟨x3, e4, hf⟩ := obind hf
      refine q_getA (pc := 19) dX10_deepest_19 gX10_47 e4 ?_
      refine r_iload_n (pc := 22) dX10_deepest_22 rfl ?_
      obtain ⟨x5, e6, hf⟩ := obind hf
      refine q_iald (pc := 23) dX10_deepest_23 e6 ?_
      refine r_iload_n (pc := 24) dX10_deepest_24 rfl ?_
      refine r_icmp_le (pc := 25) 37 dX10_deepest_25 (by decide) (fun hc => ?_) (fun hc => ?_)
      · rw [if_pos hc] at hf
        refine r_iload_n (pc := 37) dX10_deepest_37 rfl ?_
        refine r_istore_n (pc := 38) dX10_deepest_38 (by decide) ?_
        change gW _ _ _ [some (.ref l0), some (.int l1), some (.int l2)] _ _ _ _ _ _
        refine r_iinc (pc := 39) dX10_deepest_39 rfl (by decide) ?_
        change gW _ _ _ [some (.ref l0), some (.int l1), some (.int (l2 + (1 : Int32)))] _ _ _ _ _ _
        refine r_goto (pc := 42) 4 dX10_deepest_42 (by decide) ?_
        cases hf
        exact gW.weak (by simp [gle]) hk
      · rw [if_neg hc] at hf
        refine r_aload_n (pc := 28) dX10_deepest_28 rfl ?_
        obtain ⟨x7, e8, hf⟩ := obind hf
        refine q_getA (pc := 29) dX10_deepest_29 gX10_47 e8 ?_
        refine r_iload_n (pc := 32) dX10_deepest_32 rfl ?_
        obtain ⟨x9, e10, hf⟩ := obind hf
        refine q_iald (pc := 33) dX10_deepest_33 e10 ?_
        refine r_goto (pc := 34) 38 dX10_deepest_34 (by decide) ?_
        refine r_istore_n (pc := 38) dX10_deepest_38 (by decide) ?_
        change gW _ _ _ [some (.ref l0), some (.int x9), some (.int l2)] _ _ _ _ _ _
        refine r_iinc (pc := 39) dX10_deepest_39 rfl (by decide) ?_
        change gW _ _ _ [some (.ref l0), some (.int x9), some (.int (l2 + (1 : Int32)))] _ _ _ _ _ _
        refine r_goto (pc := 42) 4 dX10_deepest_42 (by decide) ?_
        cases hf
        exact gW.weak (by simp [gle]) hk
def F_X10_deepest (S : pS) (a0 : Nat) : Option (Int32) := (oF S a0 10).bind fun _ => (iter (F_X10_deepest_4 a0 S) fu ((0 : Int32), (0 : Int32))).bind fun r11 => some r11
set_option maxRecDepth 100000 in
set_option maxHeartbeats 4000000 in
theorem C_X10_deepest {X : pX} {Q : pO → Nat → pF → Prop} (S : pS) (a0 : Nat) (r : Int32) (hf : F_X10_deepest S a0 = some r) (hk : Q (.inl (some (.int r))) S.1 S.2) : gC X mX10_deepest [.ref a0] S.1 S.2 Q 0 0 := by
  refine gC_of (by decide) (Nat.le_of_ble_eq_true rfl) ?_
  change gW _ _ _ [some (.ref a0), none, none] _ _ _ _ _ _
  unfold F_X10_deepest at hf
  obtain ⟨_, _, hf⟩ := obind hf
  refine r_iconst (pc := 0) (0 : Int32) dX10_deepest_0 (by decide) ?_
  refine r_istore_n (pc := 1) dX10_deepest_1 (by decide) ?_
  change gW _ _ _ [some (.ref a0), some (.int (0 : Int32)), none] _ _ _ _ _ _
  refine r_iconst (pc := 2) (0 : Int32) dX10_deepest_2 (by decide) ?_
  refine r_istore_n (pc := 3) dX10_deepest_3 (by decide) ?_
  change gW _ _ _ [some (.ref a0), some (.int (0 : Int32)), some (.int (0 : Int32))] _ _ _ _ _ _
  obtain ⟨r11, e12, hf⟩ := obind hf
  refine gW.weak (ls' := [some (.ref a0), some (.int (0 : Int32)), some (.int (0 : Int32))]) (by simp [gle]) ?_
  refine g_iter (L := L_X10_deepest_4 a0 S) (s := s_X10_deepest_4 a0 S) (K := K_X10_deepest_4 X Q _ _ a0 S) (W_X10_deepest_4 a0 S) fu ((0 : Int32), (0 : Int32)) _ e12 ?_
  show gW _ _ 45 [some (.ref a0), some (.int r11), none] [] S.1 S.2 _ _ _
  refine r_iload_n (pc := 45) dX10_deepest_45 rfl ?_
  refine r_ireturn (pc := 46) .int dX10_deepest_46 rfl rfl ?_
  cases hf
  exact hk
def F_X10_outline (S : pS) (a0 : Nat) (a1 : Int32) : Option (Int32 × pS) := (oF S a0 10).bind fun _ => (oPI S a0 10 0 (0 : Int32)).bind fun S1 => (F_X10_knows S1 a0).bind fun q3 => if a1 = (0 : Int32) then ((F_X10_items q3 a0).bind fun q5 => some (q5, q3)) else if a1 = (1 : Int32) then ((oGA q3 a0 10 1).bind fun x7 => (oAI q3 x7 .int (0 : Int32)).bind fun x9 => some (x9, q3)) else if a1 = (2 : Int32) then ((F_X10_allPlaces q3 a0).bind fun q11 => some (q11, q3)) else if a1 = (3 : Int32) then ((F_X10_lines q3 a0).bind fun q13 => (oGI q13 a0 10 41).bind fun x15 => some (x15, q13)) else if a1 = (4 : Int32) then ((F_X10_top q3 a0).bind fun q17 => some (q17, q3)) else if a1 = (5 : Int32) then ((oGI q3 a0 10 8).bind fun x19 => some (x19, q3)) else if a1 = (6 : Int32) then ((oGI q3 a0 10 30).bind fun x21 => some (x21, q3)) else if a1 = (7 : Int32) then ((F_X10_fitting q3 a0).bind fun q23 => some (q23, q3)) else if a1 = (8 : Int32) then ((oGI q3 a0 10 10).bind fun x25 => some (x25, q3)) else if a1 = (9 : Int32) then ((oGI q3 a0 10 5).bind fun x27 => some (x27, q3)) else if a1 = (10 : Int32) then ((F_X10_deepest q3 a0).bind fun q29 => some (q29, q3)) else ((F_X10_fails q3 a0 (1 : Int32)).bind fun q31 => some (q31.1, q31.2))
set_option maxRecDepth 100000 in
set_option maxHeartbeats 4000000 in
theorem C_X10_outline {X : pX} {Q : pO → Nat → pF → Prop} (S : pS) (a0 : Nat) (a1 : Int32) (r : Int32 × pS) (hf : F_X10_outline S a0 a1 = some r) (hk : Q (.inl (some (.int r.1))) r.2.1 r.2.2) : gC X mX10_outline [.ref a0, .int a1] S.1 S.2 Q 0 0 := by
  refine gC_of (by decide) (Nat.le_of_ble_eq_true rfl) ?_
  change gW _ _ _ [some (.ref a0), some (.int a1)] _ _ _ _ _ _
  unfold F_X10_outline at hf
  obtain ⟨_, _, hf⟩ := obind hf
  refine r_aload_n (pc := 0) dX10_outline_0 rfl ?_
  refine r_iconst (pc := 1) (0 : Int32) dX10_outline_1 (by decide) ?_
  obtain ⟨S1, e2, hf⟩ := obind hf
  refine q_putI (pc := 2) dX10_outline_2 pX10_139 rfl e2 ?_
  refine r_aload_n (pc := 5) dX10_outline_5 rfl ?_
  obtain ⟨q3, e4, hf⟩ := obind hf
  refine q_callV (pc := 6) (v := none) (S' := q3) mX10_knows 10 [] dX10_outline_6 kX10_169 fX10_knows iX10_knows ⟨by decide, by decide⟩ rfl rfl rfl (Nat.le_of_ble_eq_true rfl) (og e4) (mc1 := 0) (ms1 := 0) (mc2 := 0) (ms2 := 0) (by decide) (by decide) (C_X10_knows S1 a0 q3 e4 (qR_mk _ _)) ?_
  refine r_iload_n (pc := 9) dX10_outline_9 rfl ?_
  by_cases hc0 : a1 = (0 : Int32)
  · rw [if_pos hc0] at hf
    refine r_tableIn (pc := 10) 68 dX10_outline_10 (by rw [hc0]; decide) (by rw [hc0]; decide) (off := 58) (by rw [hc0]; rfl) (by decide) ?_
    refine r_aload_n (pc := 68) dX10_outline_68 rfl ?_
    obtain ⟨q5, e6, hf⟩ := obind hf
    refine q_callV (pc := 69) (v := some (.int q5)) (S' := q3) mX10_items 10 [] dX10_outline_69 kX10_190 fX10_items iX10_items ⟨by decide, by decide⟩ rfl rfl rfl (Nat.le_of_ble_eq_true rfl) (og e6) (mc1 := 0) (ms1 := 0) (mc2 := 0) (ms2 := 0) (by decide) (by decide) (C_X10_items q3 a0 q5 e6 (qR_mk _ _)) ?_
    change gW _ _ _ _ (.int q5 :: _) _ _ _ _ _
    refine r_ireturn (pc := 72) .int dX10_outline_72 rfl rfl ?_
    cases hf
    exact hk
  rw [if_neg hc0] at hf
  by_cases hc1 : a1 = (1 : Int32)
  · rw [if_pos hc1] at hf
    refine r_tableIn (pc := 10) 73 dX10_outline_10 (by rw [hc1]; decide) (by rw [hc1]; decide) (off := 63) (by rw [hc1]; rfl) (by decide) ?_
    refine r_aload_n (pc := 73) dX10_outline_73 rfl ?_
    obtain ⟨x7, e8, hf⟩ := obind hf
    refine q_getA (pc := 74) dX10_outline_74 gX10_7 e8 ?_
    refine r_iconst (pc := 77) (0 : Int32) dX10_outline_77 (by decide) ?_
    obtain ⟨x9, e10, hf⟩ := obind hf
    refine q_iald (pc := 78) dX10_outline_78 e10 ?_
    refine r_ireturn (pc := 79) .int dX10_outline_79 rfl rfl ?_
    cases hf
    exact hk
  rw [if_neg hc1] at hf
  by_cases hc2 : a1 = (2 : Int32)
  · rw [if_pos hc2] at hf
    refine r_tableIn (pc := 10) 80 dX10_outline_10 (by rw [hc2]; decide) (by rw [hc2]; decide) (off := 70) (by rw [hc2]; rfl) (by decide) ?_
    refine r_aload_n (pc := 80) dX10_outline_80 rfl ?_
    obtain ⟨q11, e12, hf⟩ := obind hf
    refine q_callV (pc := 81) (v := some (.int q11)) (S' := q3) mX10_allPlaces 10 [] dX10_outline_81 kX10_179 fX10_allPlaces iX10_allPlaces ⟨by decide, by decide⟩ rfl rfl rfl (Nat.le_of_ble_eq_true rfl) (og e12) (mc1 := 0) (ms1 := 0) (mc2 := 0) (ms2 := 0) (by decide) (by decide) (C_X10_allPlaces q3 a0 q11 e12 (qR_mk _ _)) ?_
    change gW _ _ _ _ (.int q11 :: _) _ _ _ _ _
    refine r_ireturn (pc := 84) .int dX10_outline_84 rfl rfl ?_
    cases hf
    exact hk
  rw [if_neg hc2] at hf
  by_cases hc3 : a1 = (3 : Int32)
  · rw [if_pos hc3] at hf
    refine r_tableIn (pc := 10) 85 dX10_outline_10 (by rw [hc3]; decide) (by rw [hc3]; decide) (off := 75) (by rw [hc3]; rfl) (by decide) ?_
    refine r_aload_n (pc := 85) dX10_outline_85 rfl ?_
    obtain ⟨q13, e14, hf⟩ := obind hf
    refine q_callV (pc := 86) (v := none) (S' := q13) mX10_lines 10 [] dX10_outline_86 kX10_257 fX10_lines iX10_lines ⟨by decide, by decide⟩ rfl rfl rfl (Nat.le_of_ble_eq_true rfl) (og e14) (mc1 := 0) (ms1 := 0) (mc2 := 0) (ms2 := 0) (by decide) (by decide) (C_X10_lines q3 a0 q13 e14 (qR_mk _ _)) ?_
    refine r_aload_n (pc := 89) dX10_outline_89 rfl ?_
    obtain ⟨x15, e16, hf⟩ := obind hf
    refine q_getI (pc := 90) dX10_outline_90 gX10_260 e16 ?_
    refine r_ireturn (pc := 93) .int dX10_outline_93 rfl rfl ?_
    cases hf
    exact hk
  rw [if_neg hc3] at hf
  by_cases hc4 : a1 = (4 : Int32)
  · rw [if_pos hc4] at hf
    refine r_tableIn (pc := 10) 94 dX10_outline_10 (by rw [hc4]; decide) (by rw [hc4]; decide) (off := 84) (by rw [hc4]; rfl) (by decide) ?_
    refine r_aload_n (pc := 94) dX10_outline_94 rfl ?_
    obtain ⟨q17, e18, hf⟩ := obind hf
    refine q_callV (pc := 95) (v := some (.int q17)) (S' := q3) mX10_top 10 [] dX10_outline_95 kX10_285 fX10_top iX10_top ⟨by decide, by decide⟩ rfl rfl rfl (Nat.le_of_ble_eq_true rfl) (og e18) (mc1 := 0) (ms1 := 0) (mc2 := 0) (ms2 := 0) (by decide) (by decide) (C_X10_top q3 a0 q17 e18 (qR_mk _ _)) ?_
    change gW _ _ _ _ (.int q17 :: _) _ _ _ _ _
    refine r_ireturn (pc := 98) .int dX10_outline_98 rfl rfl ?_
    cases hf
    exact hk
  rw [if_neg hc4] at hf
  by_cases hc5 : a1 = (5 : Int32)
  · rw [if_pos hc5] at hf
    refine r_tableIn (pc := 10) 99 dX10_outline_10 (by rw [hc5]; decide) (by rw [hc5]; decide) (off := 89) (by rw [hc5]; rfl) (by decide) ?_
    refine r_aload_n (pc := 99) dX10_outline_99 rfl ?_
    obtain ⟨x19, e20, hf⟩ := obind hf
    refine q_getI (pc := 100) dX10_outline_100 gX10_154 e20 ?_
    refine r_ireturn (pc := 103) .int dX10_outline_103 rfl rfl ?_
    cases hf
    exact hk
  rw [if_neg hc5] at hf
  by_cases hc6 : a1 = (6 : Int32)
  · rw [if_pos hc6] at hf
    refine r_tableIn (pc := 10) 104 dX10_outline_10 (by rw [hc6]; decide) (by rw [hc6]; decide) (off := 94) (by rw [hc6]; rfl) (by decide) ?_
    refine r_aload_n (pc := 104) dX10_outline_104 rfl ?_
    obtain ⟨x21, e22, hf⟩ := obind hf
    refine q_getI (pc := 105) dX10_outline_105 gX10_193 e22 ?_
    refine r_ireturn (pc := 108) .int dX10_outline_108 rfl rfl ?_
    cases hf
    exact hk
  rw [if_neg hc6] at hf
  by_cases hc7 : a1 = (7 : Int32)
  · rw [if_pos hc7] at hf
    refine r_tableIn (pc := 10) 109 dX10_outline_10 (by rw [hc7]; decide) (by rw [hc7]; decide) (off := 99) (by rw [hc7]; rfl) (by decide) ?_
    refine r_aload_n (pc := 109) dX10_outline_109 rfl ?_
    obtain ⟨q23, e24, hf⟩ := obind hf
    refine q_callV (pc := 110) (v := some (.int q23)) (S' := q3) mX10_fitting 10 [] dX10_outline_110 kX10_288 fX10_fitting iX10_fitting ⟨by decide, by decide⟩ rfl rfl rfl (Nat.le_of_ble_eq_true rfl) (og e24) (mc1 := 0) (ms1 := 0) (mc2 := 0) (ms2 := 0) (by decide) (by decide) (C_X10_fitting q3 a0 q23 e24 (qR_mk _ _)) ?_
    change gW _ _ _ _ (.int q23 :: _) _ _ _ _ _
    refine r_ireturn (pc := 113) .int dX10_outline_113 rfl rfl ?_
    cases hf
    exact hk
  rw [if_neg hc7] at hf
  by_cases hc8 : a1 = (8 : Int32)
  · rw [if_pos hc8] at hf
    refine r_tableIn (pc := 10) 114 dX10_outline_10 (by rw [hc8]; decide) (by rw [hc8]; decide) (off := 104) (by rw [hc8]; rfl) (by decide) ?_
    refine r_aload_n (pc := 114) dX10_outline_114 rfl ?_
    obtain ⟨x25, e26, hf⟩ := obind hf
    refine q_getI (pc := 115) dX10_outline_115 gX10_196 e26 ?_
    refine r_ireturn (pc := 118) .int dX10_outline_118 rfl rfl ?_
    cases hf
    exact hk
  rw [if_neg hc8] at hf
  by_cases hc9 : a1 = (9 : Int32)
  · rw [if_pos hc9] at hf
    refine r_tableIn (pc := 10) 119 dX10_outline_10 (by rw [hc9]; decide) (by rw [hc9]; decide) (off := 109) (by rw [hc9]; rfl) (by decide) ?_
    refine r_aload_n (pc := 119) dX10_outline_119 rfl ?_
    obtain ⟨x27, e28, hf⟩ := obind hf
    refine q_getI (pc := 120) dX10_outline_120 gX10_157 e28 ?_
    refine r_ireturn (pc := 123) .int dX10_outline_123 rfl rfl ?_
    cases hf
    exact hk
  rw [if_neg hc9] at hf
  by_cases hc10 : a1 = (10 : Int32)
  · rw [if_pos hc10] at hf
    refine r_tableIn (pc := 10) 124 dX10_outline_10 (by rw [hc10]; decide) (by rw [hc10]; decide) (off := 114) (by rw [hc10]; rfl) (by decide) ?_
    refine r_aload_n (pc := 124) dX10_outline_124 rfl ?_
    obtain ⟨q29, e30, hf⟩ := obind hf
    refine q_callV (pc := 125) (v := some (.int q29)) (S' := q3) mX10_deepest 10 [] dX10_outline_125 kX10_291 fX10_deepest iX10_deepest ⟨by decide, by decide⟩ rfl rfl rfl (Nat.le_of_ble_eq_true rfl) (og e30) (mc1 := 0) (ms1 := 0) (mc2 := 0) (ms2 := 0) (by decide) (by decide) (C_X10_deepest q3 a0 q29 e30 (qR_mk _ _)) ?_
    change gW _ _ _ _ (.int q29 :: _) _ _ _ _ _
    refine r_ireturn (pc := 128) .int dX10_outline_128 rfl rfl ?_
    cases hf
    exact hk
  rw [if_neg hc10] at hf
  refine r_tableOut (pc := 10) 129 dX10_outline_10 (by
    have := tsw_out a1 (0) 11 (fun j hj => by
      match j, hj with
      | 0, _ => exact hc0
      | 1, _ => exact hc1
      | 2, _ => exact hc2
      | 3, _ => exact hc3
      | 4, _ => exact hc4
      | 5, _ => exact hc5
      | 6, _ => exact hc6
      | 7, _ => exact hc7
      | 8, _ => exact hc8
      | 9, _ => exact hc9
      | 10, _ => exact hc10
      | j + 11, hj => exact absurd hj (by omega))
    simpa using this) (by decide) ?_
  refine r_aload_n (pc := 129) dX10_outline_129 rfl ?_
  refine r_iconst (pc := 130) (1 : Int32) dX10_outline_130 (by decide) ?_
  obtain ⟨q31, e32, hf⟩ := obind hf
  refine q_callV (pc := 131) (v := some (.int q31.1)) (S' := q31.2) mX10_fails 10 [.int (1 : Int32)] dX10_outline_131 kX10_186 fX10_fails iX10_fails ⟨by decide, by decide⟩ rfl rfl rfl (Nat.le_of_ble_eq_true rfl) (og e32) (mc1 := 0) (ms1 := 0) (mc2 := 0) (ms2 := 0) (by decide) (by decide) (C_X10_fails q3 a0 (1 : Int32) q31 e32 (qR_mk _ _)) ?_
  change gW _ _ _ _ (.int q31.1 :: _) _ _ _ _ _
  refine r_ireturn (pc := 134) .int dX10_outline_134 rfl rfl ?_
  cases hf
  exact hk
def F_X10_doneShare_14 (S : pS) (l0 : Nat) (l1 : Int32) (t0 : Nat) (t1 : Int32) : Option (UInt32 × pS) := (oPI S t0 10 0 t1).bind fun S3 => (oGI S3 l0 10 0).bind fun x5 => if x5 ≤ 0 then ((F_X10_knows S3 l0).bind fun q7 => (F_X10_familyOf q7 l0 l1 (5 : Int32)).bind fun q9 => (F_X10_familyOf q7 l0 l1 (4 : Int32)).bind fun q11 => (oFdiv (FP.i2f q9) (FP.i2f q11)).bind fun x13 => some (x13, q7)) else (some ((0 : UInt32), S3))
set_option maxRecDepth 100000 in
set_option maxHeartbeats 4000000 in
theorem W_X10_doneShare_14 {X : pX} {Q : pO → Nat → pF → Prop} (S : pS) (l0 : Nat) (l1 : Int32) (t0 : Nat) (t1 : Int32) (r : UInt32 × pS) (hf : F_X10_doneShare_14 S l0 l1 t0 t1 = some r) (hk : Q (.inl (some (.float r.1))) r.2.1 r.2.2) : gW X mX10_doneShare 14 [some (.ref l0), some (.int l1)] [.int t1, .ref t0] S.1 S.2 Q 0 0 := by
  unfold F_X10_doneShare_14 at hf
  obtain ⟨S3, e4, hf⟩ := obind hf
  refine q_putI (pc := 14) dX10_doneShare_14 pX10_139 rfl e4 ?_
  refine r_aload_n (pc := 17) dX10_doneShare_17 rfl ?_
  obtain ⟨x5, e6, hf⟩ := obind hf
  refine q_getI (pc := 18) dX10_doneShare_18 gX10_139 e6 ?_
  refine r_if_le (pc := 21) 26 dX10_doneShare_21 (by decide) (fun hc => ?_) (fun hc => ?_)
  · rw [if_pos hc] at hf
    refine r_aload_n (pc := 26) dX10_doneShare_26 rfl ?_
    obtain ⟨q7, e8, hf⟩ := obind hf
    refine q_callV (pc := 27) (v := none) (S' := q7) mX10_knows 10 [] dX10_doneShare_27 kX10_169 fX10_knows iX10_knows ⟨by decide, by decide⟩ rfl rfl rfl (Nat.le_of_ble_eq_true rfl) (og e8) (mc1 := 0) (ms1 := 0) (mc2 := 0) (ms2 := 0) (by decide) (by decide) (C_X10_knows S3 l0 q7 e8 (qR_mk _ _)) ?_
    refine r_aload_n (pc := 30) dX10_doneShare_30 rfl ?_
    refine r_iload_n (pc := 31) dX10_doneShare_31 rfl ?_
    refine r_iconst (pc := 32) (5 : Int32) dX10_doneShare_32 (by decide) ?_
    obtain ⟨q9, e10, hf⟩ := obind hf
    refine q_callV (pc := 33) (v := some (.int q9)) (S' := q7) mX10_familyOf 10 [.int l1, .int (5 : Int32)] dX10_doneShare_33 kX10_279 fX10_familyOf iX10_familyOf ⟨by decide, by decide⟩ rfl rfl rfl (Nat.le_of_ble_eq_true rfl) (og e10) (mc1 := 0) (ms1 := 0) (mc2 := 0) (ms2 := 0) (by decide) (by decide) (C_X10_familyOf q7 l0 l1 (5 : Int32) q9 e10 (qR_mk _ _)) ?_
    change gW _ _ _ _ (.int q9 :: _) _ _ _ _ _
    refine r_i2f (pc := 36) dX10_doneShare_36 ?_
    refine r_aload_n (pc := 37) dX10_doneShare_37 rfl ?_
    refine r_iload_n (pc := 38) dX10_doneShare_38 rfl ?_
    refine r_iconst (pc := 39) (4 : Int32) dX10_doneShare_39 (by decide) ?_
    obtain ⟨q11, e12, hf⟩ := obind hf
    refine q_callV (pc := 40) (v := some (.int q11)) (S' := q7) mX10_familyOf 10 [.int l1, .int (4 : Int32)] dX10_doneShare_40 kX10_279 fX10_familyOf iX10_familyOf ⟨by decide, by decide⟩ rfl rfl rfl (Nat.le_of_ble_eq_true rfl) (og e12) (mc1 := 0) (ms1 := 0) (mc2 := 0) (ms2 := 0) (by decide) (by decide) (C_X10_familyOf q7 l0 l1 (4 : Int32) q11 e12 (qR_mk _ _)) ?_
    change gW _ _ _ _ (.int q11 :: _) _ _ _ _ _
    refine r_i2f (pc := 43) dX10_doneShare_43 ?_
    obtain ⟨x13, e14, hf⟩ := obind hf
    refine q_fdiv (pc := 44) dX10_doneShare_44 e14 ?_
    refine r_freturn (pc := 45) dX10_doneShare_45 rfl ?_
    cases hf
    exact hk
  · rw [if_neg hc] at hf
    refine r_fconst0 (pc := 24) dX10_doneShare_24 ?_
    refine r_freturn (pc := 25) dX10_doneShare_25 rfl ?_
    cases hf
    exact hk
def F_X10_doneShare (S : pS) (a0 : Nat) (a1 : Int32) : Option (UInt32 × pS) := (oF S a0 10).bind fun _ => (F_X10_isItem S a0 a1).bind fun q1 => if q1 = 0 then (F_X10_doneShare_14 S a0 a1 a0 (1 : Int32)) else (F_X10_doneShare_14 S a0 a1 a0 (0 : Int32))
set_option maxRecDepth 100000 in
set_option maxHeartbeats 4000000 in
theorem C_X10_doneShare {X : pX} {Q : pO → Nat → pF → Prop} (S : pS) (a0 : Nat) (a1 : Int32) (r : UInt32 × pS) (hf : F_X10_doneShare S a0 a1 = some r) (hk : Q (.inl (some (.float r.1))) r.2.1 r.2.2) : gC X mX10_doneShare [.ref a0, .int a1] S.1 S.2 Q 0 0 := by
  refine gC_of (by decide) (Nat.le_of_ble_eq_true rfl) ?_
  change gW _ _ _ [some (.ref a0), some (.int a1)] _ _ _ _ _ _
  unfold F_X10_doneShare at hf
  obtain ⟨_, _, hf⟩ := obind hf
  refine r_aload_n (pc := 0) dX10_doneShare_0 rfl ?_
  refine r_aload_n (pc := 1) dX10_doneShare_1 rfl ?_
  refine r_iload_n (pc := 2) dX10_doneShare_2 rfl ?_
  obtain ⟨q1, e2, hf⟩ := obind hf
  refine q_callV (pc := 3) (v := some (.int q1)) (S' := S) mX10_isItem 10 [.int a1] dX10_doneShare_3 kX10_146 fX10_isItem iX10_isItem ⟨by decide, by decide⟩ rfl rfl rfl (Nat.le_of_ble_eq_true rfl) (og e2) (mc1 := 0) (ms1 := 0) (mc2 := 0) (ms2 := 0) (by decide) (by decide) (C_X10_isItem S a0 a1 q1 e2 (qR_mk _ _)) ?_
  change gW _ _ _ _ (.int q1 :: _) _ _ _ _ _
  refine r_if_eq (pc := 6) 13 dX10_doneShare_6 (by decide) (fun hc => ?_) (fun hc => ?_)
  · rw [if_pos hc] at hf
    refine r_iconst (pc := 13) (1 : Int32) dX10_doneShare_13 (by decide) ?_
    refine gW.mono (mc := 0) (ms := 0) ?_ (fun _ _ _ q => q) (by decide) (by decide)
    exact gW.weak (by simp [gle]) (W_X10_doneShare_14 S a0 a1 a0 (1 : Int32) r hf hk)
  · rw [if_neg hc] at hf
    refine r_iconst (pc := 9) (0 : Int32) dX10_doneShare_9 (by decide) ?_
    refine r_goto (pc := 10) 14 dX10_doneShare_10 (by decide) ?_
    refine gW.mono (mc := 0) (ms := 0) ?_ (fun _ _ _ q => q) (by decide) (by decide)
    exact gW.weak (by simp [gle]) (W_X10_doneShare_14 S a0 a1 a0 (0 : Int32) r hf hk)
def F_X10_meanValue_14 (S : pS) (l0 : Nat) (l1 : Int32) (t0 : Nat) (t1 : Int32) : Option (UInt64 × pS) := (oPI S t0 10 0 t1).bind fun S3 => (oGI S3 l0 10 0).bind fun x5 => if x5 ≤ 0 then ((F_X10_knows S3 l0).bind fun q7 => (F_X10_familyOf q7 l0 l1 (1 : Int32)).bind fun q9 => (F_X10_familyOf q7 l0 l1 (0 : Int32)).bind fun q11 => (oDdiv (FP.i2d q9) (FP.i2d q11)).bind fun x13 => some (x13, q7)) else (some ((0 : UInt64), S3))
set_option maxRecDepth 100000 in
set_option maxHeartbeats 4000000 in
theorem W_X10_meanValue_14 {X : pX} {Q : pO → Nat → pF → Prop} (S : pS) (l0 : Nat) (l1 : Int32) (t0 : Nat) (t1 : Int32) (r : UInt64 × pS) (hf : F_X10_meanValue_14 S l0 l1 t0 t1 = some r) (hk : Q (.inl (some (.double r.1))) r.2.1 r.2.2) : gW X mX10_meanValue 14 [some (.ref l0), some (.int l1)] [.int t1, .ref t0] S.1 S.2 Q 0 0 := by
  unfold F_X10_meanValue_14 at hf
  obtain ⟨S3, e4, hf⟩ := obind hf
  refine q_putI (pc := 14) dX10_meanValue_14 pX10_139 rfl e4 ?_
  refine r_aload_n (pc := 17) dX10_meanValue_17 rfl ?_
  obtain ⟨x5, e6, hf⟩ := obind hf
  refine q_getI (pc := 18) dX10_meanValue_18 gX10_139 e6 ?_
  refine r_if_le (pc := 21) 26 dX10_meanValue_21 (by decide) (fun hc => ?_) (fun hc => ?_)
  · rw [if_pos hc] at hf
    refine r_aload_n (pc := 26) dX10_meanValue_26 rfl ?_
    obtain ⟨q7, e8, hf⟩ := obind hf
    refine q_callV (pc := 27) (v := none) (S' := q7) mX10_knows 10 [] dX10_meanValue_27 kX10_169 fX10_knows iX10_knows ⟨by decide, by decide⟩ rfl rfl rfl (Nat.le_of_ble_eq_true rfl) (og e8) (mc1 := 0) (ms1 := 0) (mc2 := 0) (ms2 := 0) (by decide) (by decide) (C_X10_knows S3 l0 q7 e8 (qR_mk _ _)) ?_
    refine r_aload_n (pc := 30) dX10_meanValue_30 rfl ?_
    refine r_iload_n (pc := 31) dX10_meanValue_31 rfl ?_
    refine r_iconst (pc := 32) (1 : Int32) dX10_meanValue_32 (by decide) ?_
    obtain ⟨q9, e10, hf⟩ := obind hf
    refine q_callV (pc := 33) (v := some (.int q9)) (S' := q7) mX10_familyOf 10 [.int l1, .int (1 : Int32)] dX10_meanValue_33 kX10_279 fX10_familyOf iX10_familyOf ⟨by decide, by decide⟩ rfl rfl rfl (Nat.le_of_ble_eq_true rfl) (og e10) (mc1 := 0) (ms1 := 0) (mc2 := 0) (ms2 := 0) (by decide) (by decide) (C_X10_familyOf q7 l0 l1 (1 : Int32) q9 e10 (qR_mk _ _)) ?_
    change gW _ _ _ _ (.int q9 :: _) _ _ _ _ _
    refine r_i2d (pc := 36) dX10_meanValue_36 ?_
    refine r_aload_n (pc := 37) dX10_meanValue_37 rfl ?_
    refine r_iload_n (pc := 38) dX10_meanValue_38 rfl ?_
    refine r_iconst (pc := 39) (0 : Int32) dX10_meanValue_39 (by decide) ?_
    obtain ⟨q11, e12, hf⟩ := obind hf
    refine q_callV (pc := 40) (v := some (.int q11)) (S' := q7) mX10_familyOf 10 [.int l1, .int (0 : Int32)] dX10_meanValue_40 kX10_279 fX10_familyOf iX10_familyOf ⟨by decide, by decide⟩ rfl rfl rfl (Nat.le_of_ble_eq_true rfl) (og e12) (mc1 := 0) (ms1 := 0) (mc2 := 0) (ms2 := 0) (by decide) (by decide) (C_X10_familyOf q7 l0 l1 (0 : Int32) q11 e12 (qR_mk _ _)) ?_
    change gW _ _ _ _ (.int q11 :: _) _ _ _ _ _
    refine r_i2d (pc := 43) dX10_meanValue_43 ?_
    obtain ⟨x13, e14, hf⟩ := obind hf
    refine q_ddiv (pc := 44) dX10_meanValue_44 e14 ?_
    refine r_dreturn (pc := 45) dX10_meanValue_45 rfl ?_
    cases hf
    exact hk
  · rw [if_neg hc] at hf
    refine r_dconst0 (pc := 24) dX10_meanValue_24 ?_
    refine r_dreturn (pc := 25) dX10_meanValue_25 rfl ?_
    cases hf
    exact hk
def F_X10_meanValue (S : pS) (a0 : Nat) (a1 : Int32) : Option (UInt64 × pS) := (oF S a0 10).bind fun _ => (F_X10_isItem S a0 a1).bind fun q1 => if q1 = 0 then (F_X10_meanValue_14 S a0 a1 a0 (1 : Int32)) else (F_X10_meanValue_14 S a0 a1 a0 (0 : Int32))
set_option maxRecDepth 100000 in
set_option maxHeartbeats 4000000 in
theorem C_X10_meanValue {X : pX} {Q : pO → Nat → pF → Prop} (S : pS) (a0 : Nat) (a1 : Int32) (r : UInt64 × pS) (hf : F_X10_meanValue S a0 a1 = some r) (hk : Q (.inl (some (.double r.1))) r.2.1 r.2.2) : gC X mX10_meanValue [.ref a0, .int a1] S.1 S.2 Q 0 0 := by
  refine gC_of (by decide) (Nat.le_of_ble_eq_true rfl) ?_
  change gW _ _ _ [some (.ref a0), some (.int a1)] _ _ _ _ _ _
  unfold F_X10_meanValue at hf
  obtain ⟨_, _, hf⟩ := obind hf
  refine r_aload_n (pc := 0) dX10_meanValue_0 rfl ?_
  refine r_aload_n (pc := 1) dX10_meanValue_1 rfl ?_
  refine r_iload_n (pc := 2) dX10_meanValue_2 rfl ?_
  obtain ⟨q1, e2, hf⟩ := obind hf
  refine q_callV (pc := 3) (v := some (.int q1)) (S' := S) mX10_isItem 10 [.int a1] dX10_meanValue_3 kX10_146 fX10_isItem iX10_isItem ⟨by decide, by decide⟩ rfl rfl rfl (Nat.le_of_ble_eq_true rfl) (og e2) (mc1 := 0) (ms1 := 0) (mc2 := 0) (ms2 := 0) (by decide) (by decide) (C_X10_isItem S a0 a1 q1 e2 (qR_mk _ _)) ?_
  change gW _ _ _ _ (.int q1 :: _) _ _ _ _ _
  refine r_if_eq (pc := 6) 13 dX10_meanValue_6 (by decide) (fun hc => ?_) (fun hc => ?_)
  · rw [if_pos hc] at hf
    refine r_iconst (pc := 13) (1 : Int32) dX10_meanValue_13 (by decide) ?_
    refine gW.mono (mc := 0) (ms := 0) ?_ (fun _ _ _ q => q) (by decide) (by decide)
    exact gW.weak (by simp [gle]) (W_X10_meanValue_14 S a0 a1 a0 (1 : Int32) r hf hk)
  · rw [if_neg hc] at hf
    refine r_iconst (pc := 9) (0 : Int32) dX10_meanValue_9 (by decide) ?_
    refine r_goto (pc := 10) 14 dX10_meanValue_10 (by decide) ?_
    refine gW.mono (mc := 0) (ms := 0) ?_ (fun _ _ _ q => q) (by decide) (by decide)
    exact gW.weak (by simp [gle]) (W_X10_meanValue_14 S a0 a1 a0 (0 : Int32) r hf hk)
def F_X10_wordOf (S : pS) (a0 : Int32) : Option (Nat) := if ¬ a0 = 0 then (if ¬ a0 = (1 : Int32) then (if ¬ a0 = (2 : Int32) then (some 8) else (some 7)) else (some 6)) else (some 5)
set_option maxRecDepth 100000 in
set_option maxHeartbeats 4000000 in
theorem C_X10_wordOf {X : pX} {Q : pO → Nat → pF → Prop} (S : pS) (a0 : Int32) (r : Nat) (hf : F_X10_wordOf S a0 = some r) (hk : Q (.inl (some (.retAddr r))) S.1 S.2) : gC X mX10_wordOf [.int a0] S.1 S.2 Q 0 0 := by
  refine gC_of (by decide) (Nat.le_of_ble_eq_true rfl) ?_
  change gW _ _ _ [some (.int a0)] _ _ _ _ _ _
  unfold F_X10_wordOf at hf
  refine r_iload_n (pc := 0) dX10_wordOf_0 rfl ?_
  refine r_if_ne (pc := 1) 10 dX10_wordOf_1 (by decide) (fun hc => ?_) (fun hc => ?_)
  · rw [if_pos hc] at hf
    refine r_iload_n (pc := 10) dX10_wordOf_10 rfl ?_
    refine r_iconst (pc := 11) (1 : Int32) dX10_wordOf_11 (by decide) ?_
    refine r_icmp_ne (pc := 12) 21 dX10_wordOf_12 (by decide) (fun hc => ?_) (fun hc => ?_)
    · rw [if_pos hc] at hf
      refine r_iload_n (pc := 21) dX10_wordOf_21 rfl ?_
      refine r_iconst (pc := 22) (2 : Int32) dX10_wordOf_22 (by decide) ?_
      refine r_icmp_ne (pc := 23) 32 dX10_wordOf_23 (by decide) (fun hc => ?_) (fun hc => ?_)
      · rw [if_pos hc] at hf
        refine r_ldcSW (pc := 32) 7 dX10_wordOf_32 rfl ?_
        refine r_xreturn (pc := 35) "java/lang/String" dX10_wordOf_35 rfl ?_
        cases hf
        exact hk
      · rw [if_neg hc] at hf
        refine r_ldcSW (pc := 26) 6 dX10_wordOf_26 rfl ?_
        refine r_goto (pc := 29) 35 dX10_wordOf_29 (by decide) ?_
        refine r_xreturn (pc := 35) "java/lang/String" dX10_wordOf_35 rfl ?_
        cases hf
        exact hk
    · rw [if_neg hc] at hf
      refine r_ldcSW (pc := 15) 5 dX10_wordOf_15 rfl ?_
      refine r_goto (pc := 18) 35 dX10_wordOf_18 (by decide) ?_
      refine r_xreturn (pc := 35) "java/lang/String" dX10_wordOf_35 rfl ?_
      cases hf
      exact hk
  · rw [if_neg hc] at hf
    refine r_ldcSW (pc := 4) 4 dX10_wordOf_4 rfl ?_
    refine r_goto (pc := 7) 35 dX10_wordOf_7 (by decide) ?_
    refine r_xreturn (pc := 35) "java/lang/String" dX10_wordOf_35 rfl ?_
    cases hf
    exact hk
abbrev L_X10_stands_2 (l0 : Nat) (l1 : Nat) (S : pS) : Int32 → List (Option Value) := fun a => [some (.ref l0), some (.retAddr l1), some (.int a)]
abbrev s_X10_stands_2 (l0 : Nat) (l1 : Nat) (S : pS) : Int32 → pS := fun a => S
abbrev K_X10_stands_2 (X : pX) (Q : pO → Nat → pF → Prop) (mc ms : Nat) (l0 : Nat) (l1 : Nat) (S : pS) : Int32 → Prop := (fun b => gW X mX10_stands 48 [some (.ref l0), some (.retAddr l1), some (.int b)] [] S.1 S.2 Q mc ms)
def F_X10_stands_2 (l0 : Nat) (l1 : Nat) (S : pS) : Int32 → Option ((Int32) ⊕ (Int32)) := fun a => (oLen l1).bind fun x1 => if x1 ≤ a then (some (.inr a)) else ((oGI S l0 10 21).bind fun x3 => (oGI S l0 10 22).bind fun x5 => if x5 ≤ (x3 + a) then (some (.inr a)) else ((oGA S l0 10 9).bind fun x7 => (oGI S l0 10 21).bind fun x9 => (oAI S x7 .int (x9 + a)).bind fun x11 => (oChr l1 a).bind fun x13 => if ¬ x11 = x13 then (some (.inr a)) else (some (.inl (a + (1 : Int32))))))
set_option maxRecDepth 100000 in
set_option maxHeartbeats 4000000 in
theorem W_X10_stands_2 {X : pX} {Q : pO → Nat → pF → Prop} {mc ms : Nat} (l0 : Nat) (l1 : Nat) (S : pS) : ∀ (a : Int32) (r : (Int32) ⊕ (Int32)), F_X10_stands_2 l0 l1 S a = some r → Sum.elim (fun a' => gW X mX10_stands 2 (L_X10_stands_2 l0 l1 S a') [] (s_X10_stands_2 l0 l1 S a').1 (s_X10_stands_2 l0 l1 S a').2 Q mc ms) (K_X10_stands_2 X Q mc ms l0 l1 S) r → gW X mX10_stands 2 (L_X10_stands_2 l0 l1 S a) [] (s_X10_stands_2 l0 l1 S a).1 (s_X10_stands_2 l0 l1 S a).2 Q mc ms := by
  intro l2 r hf hk
  unfold F_X10_stands_2 at hf
  try dsimp only at hf
  change gW _ _ _ [some (.ref l0), some (.retAddr l1), some (.int l2)] _ S.1 S.2 _ _ _
  refine r_iload_n (pc := 2) dX10_stands_2 rfl ?_
  refine r_xload_n (pc := 3) dX10_stands_3 rfl ?_
  obtain ⟨x1, e2, hf⟩ := obind hf
  refine q_len (pc := 4) dX10_stands_4 kX10_308 ⟨by decide, by decide⟩ (Nat.le_of_ble_eq_true rfl) (by omega) (by omega) e2 ?_
  refine r_icmp_ge (pc := 7) 48 dX10_stands_7 (by decide) (fun hc => ?_) (fun hc => ?_)
  · rw [if_pos hc] at hf
    cases hf
    exact gW.weak (by simp [gle]) hk
  · rw [if_neg hc] at hf
    refine r_aload_n (pc := 10) dX10_stands_10 rfl ?_
    obtain ⟨x3, e4, hf⟩ := obind hf
    refine q_getI (pc := 11) dX10_stands_11 gX10_199 e4 ?_
    refine r_iload_n (pc := 14) dX10_stands_14 rfl ?_
    refine r_iadd (pc := 15) dX10_stands_15 ?_
    refine r_aload_n (pc := 16) dX10_stands_16 rfl ?_
    obtain ⟨x5, e6, hf⟩ := obind hf
    refine q_getI (pc := 17) dX10_stands_17 gX10_202 e6 ?_
    refine r_icmp_ge (pc := 20) 48 dX10_stands_20 (by decide) (fun hc => ?_) (fun hc => ?_)
    · rw [if_pos hc] at hf
      cases hf
      exact gW.weak (by simp [gle]) hk
    · rw [if_neg hc] at hf
      refine r_aload_n (pc := 23) dX10_stands_23 rfl ?_
      obtain ⟨x7, e8, hf⟩ := obind hf
      refine q_getA (pc := 24) dX10_stands_24 gX10_25 e8 ?_
      refine r_aload_n (pc := 27) dX10_stands_27 rfl ?_
      obtain ⟨x9, e10, hf⟩ := obind hf
      refine q_getI (pc := 28) dX10_stands_28 gX10_199 e10 ?_
      refine r_iload_n (pc := 31) dX10_stands_31 rfl ?_
      refine r_iadd (pc := 32) dX10_stands_32 ?_
      obtain ⟨x11, e12, hf⟩ := obind hf
      refine q_iald (pc := 33) dX10_stands_33 e12 ?_
      refine r_xload_n (pc := 34) dX10_stands_34 rfl ?_
      refine r_iload_n (pc := 35) dX10_stands_35 rfl ?_
      obtain ⟨x13, e14, hf⟩ := obind hf
      refine q_chr (pc := 36) dX10_stands_36 kX10_312 ⟨by decide, by decide⟩ (Nat.le_of_ble_eq_true rfl) (by omega) (by omega) e14 ?_
      refine r_icmp_ne (pc := 39) 48 dX10_stands_39 (by decide) (fun hc => ?_) (fun hc => ?_)
      · rw [if_pos hc] at hf
        cases hf
        exact gW.weak (by simp [gle]) hk
      · rw [if_neg hc] at hf
        refine r_iinc (pc := 42) dX10_stands_42 rfl (by decide) ?_
        change gW _ _ _ [some (.ref l0), some (.retAddr l1), some (.int (l2 + (1 : Int32)))] _ _ _ _ _ _
        refine r_goto (pc := 45) 2 dX10_stands_45 (by decide) ?_
        cases hf
        exact gW.weak (by simp [gle]) hk
def F_X10_stands (S : pS) (a0 : Nat) (a1 : Nat) : Option (Int32) := (oF S a0 10).bind fun _ => (iter (F_X10_stands_2 a0 a1 S) fu (0 : Int32)).bind fun r15 => some r15
set_option maxRecDepth 100000 in
set_option maxHeartbeats 4000000 in
theorem C_X10_stands {X : pX} {Q : pO → Nat → pF → Prop} (S : pS) (a0 : Nat) (a1 : Nat) (r : Int32) (hf : F_X10_stands S a0 a1 = some r) (hk : Q (.inl (some (.int r))) S.1 S.2) : gC X mX10_stands [.ref a0, .retAddr a1] S.1 S.2 Q 0 0 := by
  refine gC_of (by decide) (Nat.le_of_ble_eq_true rfl) ?_
  change gW _ _ _ [some (.ref a0), some (.retAddr a1), none] _ _ _ _ _ _
  unfold F_X10_stands at hf
  obtain ⟨_, _, hf⟩ := obind hf
  refine r_iconst (pc := 0) (0 : Int32) dX10_stands_0 (by decide) ?_
  refine r_istore_n (pc := 1) dX10_stands_1 (by decide) ?_
  change gW _ _ _ [some (.ref a0), some (.retAddr a1), some (.int (0 : Int32))] _ _ _ _ _ _
  obtain ⟨r15, e16, hf⟩ := obind hf
  refine gW.weak (ls' := [some (.ref a0), some (.retAddr a1), some (.int (0 : Int32))]) (by simp [gle]) ?_
  refine g_iter (L := L_X10_stands_2 a0 a1 S) (s := s_X10_stands_2 a0 a1 S) (K := K_X10_stands_2 X Q _ _ a0 a1 S) (W_X10_stands_2 a0 a1 S) fu (0 : Int32) _ e16 ?_
  show gW _ _ 48 [some (.ref a0), some (.retAddr a1), some (.int r15)] [] S.1 S.2 _ _ _
  refine r_iload_n (pc := 48) dX10_stands_48 rfl ?_
  refine r_ireturn (pc := 49) .int dX10_stands_49 rfl rfl ?_
  cases hf
  exact hk
abbrev L_X10_number_34 (l0 : Nat) (l1 : Int32) : Int32 × Int32 × pS → List (Option Value) := fun a => [some (.ref l0), some (.int l1), some (.int a.1), some (.int a.2.1)]
abbrev s_X10_number_34 (l0 : Nat) (l1 : Int32) : Int32 × Int32 × pS → pS := fun a => a.2.2
abbrev K_X10_number_34 (X : pX) (Q : pO → Nat → pF → Prop) (mc ms : Nat) (l0 : Nat) (l1 : Int32) : Int32 × pS → Prop := (fun b => gW X mX10_number 97 [some (.ref l0), some (.int l1), some (.int b.1), none] [] b.2.1 b.2.2 Q mc ms)
def F_X10_number_68 (l0 : Nat) (l1 : Int32) (S : pS) (l2 : Int32) (l3 : Int32) : Option ((Int32 × Int32 × pS) ⊕ (Int32 × pS)) := (F_X10_here S l0).bind fun q11 => (oGI S l0 10 21).bind fun x13 => (oPI S l0 10 21 (x13 + (1 : Int32))).bind fun S15 => some (.inl ((((10 : Int32) * l2) + q11) - (48 : Int32), l3 + (1 : Int32), S15))
set_option maxRecDepth 100000 in
set_option maxHeartbeats 4000000 in
theorem W_X10_number_68 {X : pX} {Q : pO → Nat → pF → Prop} {mc ms : Nat} (l0 : Nat) (l1 : Int32) (S : pS) (l2 : Int32) (l3 : Int32) (r : (Int32 × Int32 × pS) ⊕ (Int32 × pS)) (hf : F_X10_number_68 l0 l1 S l2 l3 = some r) (hk : Sum.elim (fun a' => gW X mX10_number 34 (L_X10_number_34 l0 l1 a') [] (s_X10_number_34 l0 l1 a').1 (s_X10_number_34 l0 l1 a').2 Q mc ms) (K_X10_number_34 X Q mc ms l0 l1) r) : gW X mX10_number 68 [some (.ref l0), some (.int l1), some (.int l2), some (.int l3)] [] S.1 S.2 Q mc ms := by
  unfold F_X10_number_68 at hf
  refine r_bipush (pc := 68) (10 : Int32) dX10_number_68 (by decide) ?_
  refine r_iload_n (pc := 70) dX10_number_70 rfl ?_
  refine r_imul (pc := 71) dX10_number_71 ?_
  refine r_aload_n (pc := 72) dX10_number_72 rfl ?_
  obtain ⟨q11, e12, hf⟩ := obind hf
  refine q_callV (pc := 73) (v := some (.int q11)) (S' := S) mX10_here 10 [] dX10_number_73 kX10_209 fX10_here iX10_here ⟨by decide, by decide⟩ rfl rfl rfl (Nat.le_of_ble_eq_true rfl) (og e12) (mc1 := 0) (ms1 := 0) (mc2 := mc) (ms2 := ms) (by omega) (by omega) (C_X10_here S l0 q11 e12 (qR_mk _ _)) ?_
  change gW _ _ _ _ (.int q11 :: _) _ _ _ _ _
  refine r_iadd (pc := 76) dX10_number_76 ?_
  refine r_bipush (pc := 77) (48 : Int32) dX10_number_77 (by decide) ?_
  refine r_isub (pc := 79) dX10_number_79 ?_
  refine r_istore_n (pc := 80) dX10_number_80 (by decide) ?_
  change gW _ _ _ [some (.ref l0), some (.int l1), some (.int ((((10 : Int32) * l2) + q11) - (48 : Int32))), some (.int l3)] _ _ _ _ _ _
  refine r_aload_n (pc := 81) dX10_number_81 rfl ?_
  refine r_dup (pc := 82) dX10_number_82 rfl ?_
  obtain ⟨x13, e14, hf⟩ := obind hf
  refine q_getI (pc := 83) dX10_number_83 gX10_199 e14 ?_
  refine r_iconst (pc := 86) (1 : Int32) dX10_number_86 (by decide) ?_
  refine r_iadd (pc := 87) dX10_number_87 ?_
  obtain ⟨S15, e16, hf⟩ := obind hf
  refine q_putI (pc := 88) dX10_number_88 pX10_199 rfl e16 ?_
  refine r_iinc (pc := 91) dX10_number_91 rfl (by decide) ?_
  change gW _ _ _ [some (.ref l0), some (.int l1), some (.int ((((10 : Int32) * l2) + q11) - (48 : Int32))), some (.int (l3 + (1 : Int32)))] _ _ _ _ _ _
  refine r_goto (pc := 94) 34 dX10_number_94 (by decide) ?_
  cases hf
  exact gW.weak (by simp [gle]) hk
def F_X10_number_34 (l0 : Nat) (l1 : Int32) : Int32 × Int32 × pS → Option ((Int32 × Int32 × pS) ⊕ (Int32 × pS)) := fun a => if l1 ≤ a.2.1 then (some (.inr (a.1, a.2.2))) else ((oGI a.2.2 l0 10 23).bind fun x5 => if x5 = 0 then (some (.inr (a.1, a.2.2))) else ((F_X10_here a.2.2 l0).bind fun q7 => (F_X10_in a.2.2 q7 (48 : Int32) (57 : Int32)).bind fun q9 => if q9 = 0 then (some (.inr (a.1, a.2.2))) else (if a.2.1 = 0 then (F_X10_number_68 l0 l1 a.2.2 a.1 a.2.1) else (if a.1 ≤ 0 then (some (.inr (a.1, a.2.2))) else (F_X10_number_68 l0 l1 a.2.2 a.1 a.2.1)))))
set_option maxRecDepth 100000 in
set_option maxHeartbeats 4000000 in
theorem W_X10_number_34 {X : pX} {Q : pO → Nat → pF → Prop} {mc ms : Nat} (l0 : Nat) (l1 : Int32) : ∀ (a : Int32 × Int32 × pS) (r : (Int32 × Int32 × pS) ⊕ (Int32 × pS)), F_X10_number_34 l0 l1 a = some r → Sum.elim (fun a' => gW X mX10_number 34 (L_X10_number_34 l0 l1 a') [] (s_X10_number_34 l0 l1 a').1 (s_X10_number_34 l0 l1 a').2 Q mc ms) (K_X10_number_34 X Q mc ms l0 l1) r → gW X mX10_number 34 (L_X10_number_34 l0 l1 a) [] (s_X10_number_34 l0 l1 a).1 (s_X10_number_34 l0 l1 a).2 Q mc ms := by
  intro a r hf hk
  obtain ⟨l2, l3, S⟩ := a
  unfold F_X10_number_34 at hf
  try dsimp only at hf
  change gW _ _ _ [some (.ref l0), some (.int l1), some (.int l2), some (.int l3)] _ S.1 S.2 _ _ _
  refine r_iload_n (pc := 34) dX10_number_34 rfl ?_
  refine r_iload_n (pc := 35) dX10_number_35 rfl ?_
  refine r_icmp_ge (pc := 36) 97 dX10_number_36 (by decide) (fun hc => ?_) (fun hc => ?_)
  · rw [if_pos hc] at hf
    cases hf
    exact gW.weak (by simp [gle]) hk
  · rw [if_neg hc] at hf
    refine r_aload_n (pc := 39) dX10_number_39 rfl ?_
    obtain ⟨x5, e6, hf⟩ := obind hf
    refine q_getI (pc := 40) dX10_number_40 gX10_205 e6 ?_
    refine r_if_eq (pc := 43) 97 dX10_number_43 (by decide) (fun hc => ?_) (fun hc => ?_)
    · rw [if_pos hc] at hf
      cases hf
      exact gW.weak (by simp [gle]) hk
    · rw [if_neg hc] at hf
      refine r_aload_n (pc := 46) dX10_number_46 rfl ?_
      obtain ⟨q7, e8, hf⟩ := obind hf
      refine q_callV (pc := 47) (v := some (.int q7)) (S' := S) mX10_here 10 [] dX10_number_47 kX10_209 fX10_here iX10_here ⟨by decide, by decide⟩ rfl rfl rfl (Nat.le_of_ble_eq_true rfl) (og e8) (mc1 := 0) (ms1 := 0) (mc2 := mc) (ms2 := ms) (by omega) (by omega) (C_X10_here S l0 q7 e8 (qR_mk _ _)) ?_
      change gW _ _ _ _ (.int q7 :: _) _ _ _ _ _
      refine r_bipush (pc := 50) (48 : Int32) dX10_number_50 (by decide) ?_
      refine r_bipush (pc := 52) (57 : Int32) dX10_number_52 (by decide) ?_
      obtain ⟨q9, e10, hf⟩ := obind hf
      refine q_callS (pc := 54) (v := some (.int q9)) (S' := S) mX10_in [.int q7, .int (48 : Int32), .int (57 : Int32)] dX10_number_54 kX10_142 fX10_in sX10_in ⟨by decide, by decide⟩ rfl rfl (Nat.le_of_ble_eq_true rfl) (mc1 := 0) (ms1 := 0) (mc2 := mc) (ms2 := ms) (by omega) (by omega) (C_X10_in S q7 (48 : Int32) (57 : Int32) q9 e10 (qR_mk _ _)) ?_
      change gW _ _ _ _ (.int q9 :: _) _ _ _ _ _
      refine r_if_eq (pc := 57) 97 dX10_number_57 (by decide) (fun hc => ?_) (fun hc => ?_)
      · rw [if_pos hc] at hf
        cases hf
        exact gW.weak (by simp [gle]) hk
      · rw [if_neg hc] at hf
        refine r_iload_n (pc := 60) dX10_number_60 rfl ?_
        refine r_if_eq (pc := 61) 68 dX10_number_61 (by decide) (fun hc => ?_) (fun hc => ?_)
        · rw [if_pos hc] at hf
          exact gW.weak (by simp [gle]) (W_X10_number_68 l0 l1 S l2 l3 r hf hk)
        · rw [if_neg hc] at hf
          refine r_iload_n (pc := 64) dX10_number_64 rfl ?_
          refine r_if_le (pc := 65) 97 dX10_number_65 (by decide) (fun hc => ?_) (fun hc => ?_)
          · rw [if_pos hc] at hf
            cases hf
            exact gW.weak (by simp [gle]) hk
          · rw [if_neg hc] at hf
            exact gW.weak (by simp [gle]) (W_X10_number_68 l0 l1 S l2 l3 r hf hk)
def F_X10_number_29 (S : pS) (l0 : Nat) (l1 : Int32) (l2 : Int32) (t0 : Nat) (t1 : Int32) : Option (Int32 × pS) := (oPZ S t0 10 23 t1).bind fun S3 => (iter (F_X10_number_34 l0 l1) fu (l2, (0 : Int32), S3)).bind fun r17 => some (r17.1, r17.2)
set_option maxRecDepth 100000 in
set_option maxHeartbeats 4000000 in
theorem W_X10_number_29 {X : pX} {Q : pO → Nat → pF → Prop} (S : pS) (l0 : Nat) (l1 : Int32) (l2 : Int32) (t0 : Nat) (t1 : Int32) (r : Int32 × pS) (hf : F_X10_number_29 S l0 l1 l2 t0 t1 = some r) (hk : Q (.inl (some (.int r.1))) r.2.1 r.2.2) : gW X mX10_number 29 [some (.ref l0), some (.int l1), some (.int l2), none] [.int t1, .ref t0] S.1 S.2 Q 0 0 := by
  unfold F_X10_number_29 at hf
  obtain ⟨S3, e4, hf⟩ := obind hf
  refine q_putZ (pc := 29) dX10_number_29 pX10_205 rfl e4 ?_
  refine r_iconst (pc := 32) (0 : Int32) dX10_number_32 (by decide) ?_
  refine r_istore_n (pc := 33) dX10_number_33 (by decide) ?_
  change gW _ _ _ [some (.ref l0), some (.int l1), some (.int l2), some (.int (0 : Int32))] _ _ _ _ _ _
  obtain ⟨r17, e18, hf⟩ := obind hf
  refine gW.weak (ls' := [some (.ref l0), some (.int l1), some (.int l2), some (.int (0 : Int32))]) (by simp [gle]) ?_
  refine g_iter (L := L_X10_number_34 l0 l1) (s := s_X10_number_34 l0 l1) (K := K_X10_number_34 X Q _ _ l0 l1) (W_X10_number_34 l0 l1) fu (l2, (0 : Int32), S3) _ e18 ?_
  show gW _ _ 97 [some (.ref l0), some (.int l1), some (.int r17.1), none] [] r17.2.1 r17.2.2 _ _ _
  refine r_iload_n (pc := 97) dX10_number_97 rfl ?_
  refine r_ireturn (pc := 98) .int dX10_number_98 rfl rfl ?_
  cases hf
  exact hk
def F_X10_number_28 (S : pS) (l0 : Nat) (l1 : Int32) (l2 : Int32) (t0 : Nat) : Option (Int32 × pS) := F_X10_number_29 S l0 l1 l2 t0 (0 : Int32)
set_option maxRecDepth 100000 in
set_option maxHeartbeats 4000000 in
theorem W_X10_number_28 {X : pX} {Q : pO → Nat → pF → Prop} (S : pS) (l0 : Nat) (l1 : Int32) (l2 : Int32) (t0 : Nat) (r : Int32 × pS) (hf : F_X10_number_28 S l0 l1 l2 t0 = some r) (hk : Q (.inl (some (.int r.1))) r.2.1 r.2.2) : gW X mX10_number 28 [some (.ref l0), some (.int l1), some (.int l2), none] [.ref t0] S.1 S.2 Q 0 0 := by
  unfold F_X10_number_28 at hf
  refine r_iconst (pc := 28) (0 : Int32) dX10_number_28 (by decide) ?_
  refine gW.mono (mc := 0) (ms := 0) ?_ (fun _ _ _ q => q) (by decide) (by decide)
  exact gW.weak (by simp [gle]) (W_X10_number_29 S l0 l1 l2 t0 (0 : Int32) r hf hk)
def F_X10_number (S : pS) (a0 : Nat) (a1 : Int32) : Option (Int32 × pS) := (oF S a0 10).bind fun _ => (oGI S a0 10 23).bind fun x1 => if x1 = 0 then (F_X10_number_28 S a0 a1 (0 : Int32) a0) else ((F_X10_here S a0).bind fun q19 => (F_X10_in S q19 (48 : Int32) (57 : Int32)).bind fun q21 => if q21 = 0 then (F_X10_number_28 S a0 a1 (0 : Int32) a0) else (F_X10_number_29 S a0 a1 (0 : Int32) a0 (1 : Int32)))
set_option maxRecDepth 100000 in
set_option maxHeartbeats 4000000 in
theorem C_X10_number {X : pX} {Q : pO → Nat → pF → Prop} (S : pS) (a0 : Nat) (a1 : Int32) (r : Int32 × pS) (hf : F_X10_number S a0 a1 = some r) (hk : Q (.inl (some (.int r.1))) r.2.1 r.2.2) : gC X mX10_number [.ref a0, .int a1] S.1 S.2 Q 0 0 := by
  refine gC_of (by decide) (Nat.le_of_ble_eq_true rfl) ?_
  change gW _ _ _ [some (.ref a0), some (.int a1), none, none] _ _ _ _ _ _
  unfold F_X10_number at hf
  obtain ⟨_, _, hf⟩ := obind hf
  refine r_iconst (pc := 0) (0 : Int32) dX10_number_0 (by decide) ?_
  refine r_istore_n (pc := 1) dX10_number_1 (by decide) ?_
  change gW _ _ _ [some (.ref a0), some (.int a1), some (.int (0 : Int32)), none] _ _ _ _ _ _
  refine r_aload_n (pc := 2) dX10_number_2 rfl ?_
  refine r_aload_n (pc := 3) dX10_number_3 rfl ?_
  obtain ⟨x1, e2, hf⟩ := obind hf
  refine q_getI (pc := 4) dX10_number_4 gX10_205 e2 ?_
  refine r_if_eq (pc := 7) 28 dX10_number_7 (by decide) (fun hc => ?_) (fun hc => ?_)
  · rw [if_pos hc] at hf
    refine gW.mono (mc := 0) (ms := 0) ?_ (fun _ _ _ q => q) (by decide) (by decide)
    exact gW.weak (by simp [gle]) (W_X10_number_28 S a0 a1 (0 : Int32) a0 r hf hk)
  · rw [if_neg hc] at hf
    refine r_aload_n (pc := 10) dX10_number_10 rfl ?_
    obtain ⟨q19, e20, hf⟩ := obind hf
    refine q_callV (pc := 11) (v := some (.int q19)) (S' := S) mX10_here 10 [] dX10_number_11 kX10_209 fX10_here iX10_here ⟨by decide, by decide⟩ rfl rfl rfl (Nat.le_of_ble_eq_true rfl) (og e20) (mc1 := 0) (ms1 := 0) (mc2 := 0) (ms2 := 0) (by decide) (by decide) (C_X10_here S a0 q19 e20 (qR_mk _ _)) ?_
    change gW _ _ _ _ (.int q19 :: _) _ _ _ _ _
    refine r_bipush (pc := 14) (48 : Int32) dX10_number_14 (by decide) ?_
    refine r_bipush (pc := 16) (57 : Int32) dX10_number_16 (by decide) ?_
    obtain ⟨q21, e22, hf⟩ := obind hf
    refine q_callS (pc := 18) (v := some (.int q21)) (S' := S) mX10_in [.int q19, .int (48 : Int32), .int (57 : Int32)] dX10_number_18 kX10_142 fX10_in sX10_in ⟨by decide, by decide⟩ rfl rfl (Nat.le_of_ble_eq_true rfl) (mc1 := 0) (ms1 := 0) (mc2 := 0) (ms2 := 0) (by decide) (by decide) (C_X10_in S q19 (48 : Int32) (57 : Int32) q21 e22 (qR_mk _ _)) ?_
    change gW _ _ _ _ (.int q21 :: _) _ _ _ _ _
    refine r_if_eq (pc := 21) 28 dX10_number_21 (by decide) (fun hc => ?_) (fun hc => ?_)
    · rw [if_pos hc] at hf
      refine gW.mono (mc := 0) (ms := 0) ?_ (fun _ _ _ q => q) (by decide) (by decide)
      exact gW.weak (by simp [gle]) (W_X10_number_28 S a0 a1 (0 : Int32) a0 r hf hk)
    · rw [if_neg hc] at hf
      refine r_iconst (pc := 24) (1 : Int32) dX10_number_24 (by decide) ?_
      refine r_goto (pc := 25) 29 dX10_number_25 (by decide) ?_
      refine gW.mono (mc := 0) (ms := 0) ?_ (fun _ _ _ q => q) (by decide) (by decide)
      exact gW.weak (by simp [gle]) (W_X10_number_29 S a0 a1 (0 : Int32) a0 (1 : Int32) r hf hk)
def F_X10_value (S : pS) (a0 : Nat) : Option (Int32 × pS) := (oF S a0 10).bind fun _ => (F_X10_skips S a0 (45 : Int32)).bind fun q1 => (F_X10_number q1.2 a0 (3 : Int32)).bind fun q3 => if q1.1 = 0 then (some (q3.1, q3.2)) else (some (-q3.1, q3.2))
set_option maxRecDepth 100000 in
set_option maxHeartbeats 4000000 in
theorem C_X10_value {X : pX} {Q : pO → Nat → pF → Prop} (S : pS) (a0 : Nat) (r : Int32 × pS) (hf : F_X10_value S a0 = some r) (hk : Q (.inl (some (.int r.1))) r.2.1 r.2.2) : gC X mX10_value [.ref a0] S.1 S.2 Q 0 0 := by
  refine gC_of (by decide) (Nat.le_of_ble_eq_true rfl) ?_
  change gW _ _ _ [some (.ref a0), none, none] _ _ _ _ _ _
  unfold F_X10_value at hf
  obtain ⟨_, _, hf⟩ := obind hf
  refine r_aload_n (pc := 0) dX10_value_0 rfl ?_
  refine r_bipush (pc := 1) (45 : Int32) dX10_value_1 (by decide) ?_
  obtain ⟨q1, e2, hf⟩ := obind hf
  refine q_callV (pc := 3) (v := some (.int q1.1)) (S' := q1.2) mX10_skips 10 [.int (45 : Int32)] dX10_value_3 kX10_316 fX10_skips iX10_skips ⟨by decide, by decide⟩ rfl rfl rfl (Nat.le_of_ble_eq_true rfl) (og e2) (mc1 := 0) (ms1 := 0) (mc2 := 0) (ms2 := 0) (by decide) (by decide) (C_X10_skips S a0 (45 : Int32) q1 e2 (qR_mk _ _)) ?_
  change gW _ _ _ _ (.int q1.1 :: _) _ _ _ _ _
  refine r_istore_n (pc := 6) dX10_value_6 (by decide) ?_
  change gW _ _ _ [some (.ref a0), some (.int q1.1), none] _ _ _ _ _ _
  refine r_aload_n (pc := 7) dX10_value_7 rfl ?_
  refine r_iconst (pc := 8) (3 : Int32) dX10_value_8 (by decide) ?_
  obtain ⟨q3, e4, hf⟩ := obind hf
  refine q_callV (pc := 9) (v := some (.int q3.1)) (S' := q3.2) mX10_number 10 [.int (3 : Int32)] dX10_value_9 kX10_319 fX10_number iX10_number ⟨by decide, by decide⟩ rfl rfl rfl (Nat.le_of_ble_eq_true rfl) (og e4) (mc1 := 0) (ms1 := 0) (mc2 := 0) (ms2 := 0) (by decide) (by decide) (C_X10_number q1.2 a0 (3 : Int32) q3 e4 (qR_mk _ _)) ?_
  change gW _ _ _ _ (.int q3.1 :: _) _ _ _ _ _
  refine r_istore_n (pc := 12) dX10_value_12 (by decide) ?_
  change gW _ _ _ [some (.ref a0), some (.int q1.1), some (.int q3.1)] _ _ _ _ _ _
  refine r_iload_n (pc := 13) dX10_value_13 rfl ?_
  refine r_if_eq (pc := 14) 22 dX10_value_14 (by decide) (fun hc => ?_) (fun hc => ?_)
  · rw [if_pos hc] at hf
    refine r_iload_n (pc := 22) dX10_value_22 rfl ?_
    refine r_ireturn (pc := 23) .int dX10_value_23 rfl rfl ?_
    cases hf
    exact hk
  · rw [if_neg hc] at hf
    refine r_iload_n (pc := 17) dX10_value_17 rfl ?_
    refine r_ineg (pc := 18) dX10_value_18 ?_
    refine r_goto (pc := 19) 23 dX10_value_19 (by decide) ?_
    refine r_ireturn (pc := 23) .int dX10_value_23 rfl rfl ?_
    cases hf
    exact hk
abbrev L_X10_readsWord_6 (l0 : Nat) (S : pS) : Int32 × Int32 × Int32 → List (Option Value) := fun a => [some (.ref l0), some (.int a.1), some (.int a.2.1), some (.int a.2.2), none]
abbrev s_X10_readsWord_6 (l0 : Nat) (S : pS) : Int32 × Int32 × Int32 → pS := fun a => S
abbrev K_X10_readsWord_6 (X : pX) (Q : pO → Nat → pF → Prop) (mc ms : Nat) (l0 : Nat) (S : pS) : Int32 × Int32 → Prop := (fun b => gW X mX10_readsWord 58 [some (.ref l0), some (.int b.1), some (.int b.2), none, none] [] S.1 S.2 Q mc ms)
def F_X10_readsWord_33 (l0 : Nat) (S : pS) (l2 : Int32) (l3 : Int32) (l4 : Int32) (t0 : Int32) : Option ((Int32 × Int32 × Int32) ⊕ (Int32 × Int32)) := (F_X10_wordOf S l3).bind fun q5 => (oLen q5).bind fun x7 => if ¬ l4 = x7 then (some (.inl (t0, l2, l3 + (1 : Int32)))) else (some (.inl (t0, l3, l3 + (1 : Int32))))
set_option maxRecDepth 100000 in
set_option maxHeartbeats 4000000 in
theorem W_X10_readsWord_33 {X : pX} {Q : pO → Nat → pF → Prop} {mc ms : Nat} (l0 : Nat) (S : pS) (l2 : Int32) (l3 : Int32) (l4 : Int32) (t0 : Int32) (r : (Int32 × Int32 × Int32) ⊕ (Int32 × Int32)) (hf : F_X10_readsWord_33 l0 S l2 l3 l4 t0 = some r) (hk : Sum.elim (fun a' => gW X mX10_readsWord 6 (L_X10_readsWord_6 l0 S a') [] (s_X10_readsWord_6 l0 S a').1 (s_X10_readsWord_6 l0 S a').2 Q mc ms) (K_X10_readsWord_6 X Q mc ms l0 S) r) : gW X mX10_readsWord 33 [some (.ref l0), none, some (.int l2), some (.int l3), some (.int l4)] [.int t0] S.1 S.2 Q mc ms := by
  unfold F_X10_readsWord_33 at hf
  refine r_istore_n (pc := 33) dX10_readsWord_33 (by decide) ?_
  change gW _ _ _ [some (.ref l0), some (.int t0), some (.int l2), some (.int l3), some (.int l4)] _ _ _ _ _ _
  refine r_iload (pc := 34) dX10_readsWord_34 rfl ?_
  refine r_iload_n (pc := 36) dX10_readsWord_36 rfl ?_
  obtain ⟨q5, e6, hf⟩ := obind hf
  refine q_callS (pc := 37) (v := some (.retAddr q5)) (S' := S) mX10_wordOf [.int l3] dX10_readsWord_37 kX10_322 fX10_wordOf sX10_wordOf ⟨by decide, by decide⟩ rfl rfl (Nat.le_of_ble_eq_true rfl) (mc1 := 0) (ms1 := 0) (mc2 := mc) (ms2 := ms) (by omega) (by omega) (C_X10_wordOf S l3 q5 e6 (qR_mk _ _)) ?_
  change gW _ _ _ _ (.retAddr q5 :: _) _ _ _ _ _
  obtain ⟨x7, e8, hf⟩ := obind hf
  refine q_len (pc := 40) dX10_readsWord_40 kX10_308 ⟨by decide, by decide⟩ (Nat.le_of_ble_eq_true rfl) (by omega) (by omega) e8 ?_
  refine r_icmp_ne (pc := 43) 50 dX10_readsWord_43 (by decide) (fun hc => ?_) (fun hc => ?_)
  · rw [if_pos hc] at hf
    refine r_iload_n (pc := 50) dX10_readsWord_50 rfl ?_
    refine r_istore_n (pc := 51) dX10_readsWord_51 (by decide) ?_
    change gW _ _ _ [some (.ref l0), some (.int t0), some (.int l2), some (.int l3), some (.int l4)] _ _ _ _ _ _
    refine r_iinc (pc := 52) dX10_readsWord_52 rfl (by decide) ?_
    change gW _ _ _ [some (.ref l0), some (.int t0), some (.int l2), some (.int (l3 + (1 : Int32))), some (.int l4)] _ _ _ _ _ _
    refine r_goto (pc := 55) 6 dX10_readsWord_55 (by decide) ?_
    cases hf
    exact gW.weak (by simp [gle]) hk
  · rw [if_neg hc] at hf
    refine r_iload_n (pc := 46) dX10_readsWord_46 rfl ?_
    refine r_goto (pc := 47) 51 dX10_readsWord_47 (by decide) ?_
    refine r_istore_n (pc := 51) dX10_readsWord_51 (by decide) ?_
    change gW _ _ _ [some (.ref l0), some (.int t0), some (.int l3), some (.int l3), some (.int l4)] _ _ _ _ _ _
    refine r_iinc (pc := 52) dX10_readsWord_52 rfl (by decide) ?_
    change gW _ _ _ [some (.ref l0), some (.int t0), some (.int l3), some (.int (l3 + (1 : Int32))), some (.int l4)] _ _ _ _ _ _
    refine r_goto (pc := 55) 6 dX10_readsWord_55 (by decide) ?_
    cases hf
    exact gW.weak (by simp [gle]) hk
def F_X10_readsWord_6 (l0 : Nat) (S : pS) : Int32 × Int32 × Int32 → Option ((Int32 × Int32 × Int32) ⊕ (Int32 × Int32)) := fun a => if (4 : Int32) ≤ a.2.2 then (some (.inr (a.1, a.2.1))) else ((F_X10_wordOf S a.2.2).bind fun q1 => (F_X10_stands S l0 q1).bind fun q3 => if q3 ≤ a.1 then (F_X10_readsWord_33 l0 S a.2.1 a.2.2 q3 a.1) else (F_X10_readsWord_33 l0 S a.2.1 a.2.2 q3 q3))
set_option maxRecDepth 100000 in
set_option maxHeartbeats 4000000 in
theorem W_X10_readsWord_6 {X : pX} {Q : pO → Nat → pF → Prop} {mc ms : Nat} (l0 : Nat) (S : pS) : ∀ (a : Int32 × Int32 × Int32) (r : (Int32 × Int32 × Int32) ⊕ (Int32 × Int32)), F_X10_readsWord_6 l0 S a = some r → Sum.elim (fun a' => gW X mX10_readsWord 6 (L_X10_readsWord_6 l0 S a') [] (s_X10_readsWord_6 l0 S a').1 (s_X10_readsWord_6 l0 S a').2 Q mc ms) (K_X10_readsWord_6 X Q mc ms l0 S) r → gW X mX10_readsWord 6 (L_X10_readsWord_6 l0 S a) [] (s_X10_readsWord_6 l0 S a).1 (s_X10_readsWord_6 l0 S a).2 Q mc ms := by
  intro a r hf hk
  obtain ⟨l1, l2, l3⟩ := a
  unfold F_X10_readsWord_6 at hf
  try dsimp only at hf
  change gW _ _ _ [some (.ref l0), some (.int l1), some (.int l2), some (.int l3), none] _ S.1 S.2 _ _ _
  refine r_iload_n (pc := 6) dX10_readsWord_6 rfl ?_
  refine r_iconst (pc := 7) (4 : Int32) dX10_readsWord_7 (by decide) ?_
  refine r_icmp_ge (pc := 8) 58 dX10_readsWord_8 (by decide) (fun hc => ?_) (fun hc => ?_)
  · rw [if_pos hc] at hf
    cases hf
    exact gW.weak (by simp [gle]) hk
  · rw [if_neg hc] at hf
    refine r_aload_n (pc := 11) dX10_readsWord_11 rfl ?_
    refine r_iload_n (pc := 12) dX10_readsWord_12 rfl ?_
    obtain ⟨q1, e2, hf⟩ := obind hf
    refine q_callS (pc := 13) (v := some (.retAddr q1)) (S' := S) mX10_wordOf [.int l3] dX10_readsWord_13 kX10_322 fX10_wordOf sX10_wordOf ⟨by decide, by decide⟩ rfl rfl (Nat.le_of_ble_eq_true rfl) (mc1 := 0) (ms1 := 0) (mc2 := mc) (ms2 := ms) (by omega) (by omega) (C_X10_wordOf S l3 q1 e2 (qR_mk _ _)) ?_
    change gW _ _ _ _ (.retAddr q1 :: _) _ _ _ _ _
    obtain ⟨q3, e4, hf⟩ := obind hf
    refine q_callV (pc := 16) (v := some (.int q3)) (S' := S) mX10_stands 10 [.retAddr q1] dX10_readsWord_16 kX10_326 fX10_stands iX10_stands ⟨by decide, by decide⟩ rfl rfl rfl (Nat.le_of_ble_eq_true rfl) (og e4) (mc1 := 0) (ms1 := 0) (mc2 := mc) (ms2 := ms) (by omega) (by omega) (C_X10_stands S l0 q1 q3 e4 (qR_mk _ _)) ?_
    change gW _ _ _ _ (.int q3 :: _) _ _ _ _ _
    refine r_istore (pc := 19) dX10_readsWord_19 (by decide) ?_
    change gW _ _ _ [some (.ref l0), some (.int l1), some (.int l2), some (.int l3), some (.int q3)] _ _ _ _ _ _
    refine r_iload (pc := 21) dX10_readsWord_21 rfl ?_
    refine r_iload_n (pc := 23) dX10_readsWord_23 rfl ?_
    refine r_icmp_le (pc := 24) 32 dX10_readsWord_24 (by decide) (fun hc => ?_) (fun hc => ?_)
    · rw [if_pos hc] at hf
      refine r_iload_n (pc := 32) dX10_readsWord_32 rfl ?_
      exact gW.weak (by simp [gle]) (W_X10_readsWord_33 l0 S l2 l3 q3 l1 r hf hk)
    · rw [if_neg hc] at hf
      refine r_iload (pc := 27) dX10_readsWord_27 rfl ?_
      refine r_goto (pc := 29) 33 dX10_readsWord_29 (by decide) ?_
      exact gW.weak (by simp [gle]) (W_X10_readsWord_33 l0 S l2 l3 q3 q3 r hf hk)
def F_X10_readsWord_79 (S : pS) (l0 : Nat) (l2 : Int32) (t0 : Nat) (t1 : Int32) : Option (pS) := (oPZ S t0 10 23 t1).bind fun S15 => (oGA S15 l0 10 31).bind fun x17 => (oGI S15 l0 10 36).bind fun x19 => (oSI S15 x17 .int x19 l2).bind fun S21 => some S21
set_option maxRecDepth 100000 in
set_option maxHeartbeats 4000000 in
theorem W_X10_readsWord_79 {X : pX} {Q : pO → Nat → pF → Prop} (S : pS) (l0 : Nat) (l2 : Int32) (t0 : Nat) (t1 : Int32) (r : pS) (hf : F_X10_readsWord_79 S l0 l2 t0 t1 = some r) (hk : Q (.inl none) r.1 r.2) : gW X mX10_readsWord 79 [some (.ref l0), none, some (.int l2), none, none] [.int t1, .ref t0] S.1 S.2 Q 0 0 := by
  unfold F_X10_readsWord_79 at hf
  obtain ⟨S15, e16, hf⟩ := obind hf
  refine q_putZ (pc := 79) dX10_readsWord_79 pX10_205 rfl e16 ?_
  refine r_aload_n (pc := 82) dX10_readsWord_82 rfl ?_
  obtain ⟨x17, e18, hf⟩ := obind hf
  refine q_getA (pc := 83) dX10_readsWord_83 gX10_73 e18 ?_
  refine r_aload_n (pc := 86) dX10_readsWord_86 rfl ?_
  obtain ⟨x19, e20, hf⟩ := obind hf
  refine q_getI (pc := 87) dX10_readsWord_87 gX10_330 e20 ?_
  refine r_iload_n (pc := 90) dX10_readsWord_90 rfl ?_
  obtain ⟨S21, e22, hf⟩ := obind hf
  refine q_iast (pc := 91) dX10_readsWord_91 e22 ?_
  refine r_return (pc := 92) dX10_readsWord_92 rfl ?_
  cases hf
  exact hk
def F_X10_readsWord (S : pS) (a0 : Nat) : Option (pS) := (oF S a0 10).bind fun _ => (iter (F_X10_readsWord_6 a0 S) fu ((0 : Int32), (-1 : Int32), (0 : Int32))).bind fun r9 => (oGI S a0 10 21).bind fun x11 => (oPI S a0 10 21 (x11 + r9.1)).bind fun S13 => if r9.2 = (-1 : Int32) then (F_X10_readsWord_79 S13 a0 r9.2 a0 (0 : Int32)) else (F_X10_readsWord_79 S13 a0 r9.2 a0 (1 : Int32))
set_option maxRecDepth 100000 in
set_option maxHeartbeats 4000000 in
theorem C_X10_readsWord {X : pX} {Q : pO → Nat → pF → Prop} (S : pS) (a0 : Nat) (r : pS) (hf : F_X10_readsWord S a0 = some r) (hk : Q (.inl none) r.1 r.2) : gC X mX10_readsWord [.ref a0] S.1 S.2 Q 0 0 := by
  refine gC_of (by decide) (Nat.le_of_ble_eq_true rfl) ?_
  change gW _ _ _ [some (.ref a0), none, none, none, none] _ _ _ _ _ _
  unfold F_X10_readsWord at hf
  obtain ⟨_, _, hf⟩ := obind hf
  refine r_iconst (pc := 0) (0 : Int32) dX10_readsWord_0 (by decide) ?_
  refine r_istore_n (pc := 1) dX10_readsWord_1 (by decide) ?_
  change gW _ _ _ [some (.ref a0), some (.int (0 : Int32)), none, none, none] _ _ _ _ _ _
  refine r_iconst (pc := 2) (-1 : Int32) dX10_readsWord_2 (by decide) ?_
  refine r_istore_n (pc := 3) dX10_readsWord_3 (by decide) ?_
  change gW _ _ _ [some (.ref a0), some (.int (0 : Int32)), some (.int (-1 : Int32)), none, none] _ _ _ _ _ _
  refine r_iconst (pc := 4) (0 : Int32) dX10_readsWord_4 (by decide) ?_
  refine r_istore_n (pc := 5) dX10_readsWord_5 (by decide) ?_
  change gW _ _ _ [some (.ref a0), some (.int (0 : Int32)), some (.int (-1 : Int32)), some (.int (0 : Int32)), none] _ _ _ _ _ _
  obtain ⟨r9, e10, hf⟩ := obind hf
  refine gW.weak (ls' := [some (.ref a0), some (.int (0 : Int32)), some (.int (-1 : Int32)), some (.int (0 : Int32)), none]) (by simp [gle]) ?_
  refine g_iter (L := L_X10_readsWord_6 a0 S) (s := s_X10_readsWord_6 a0 S) (K := K_X10_readsWord_6 X Q _ _ a0 S) (W_X10_readsWord_6 a0 S) fu ((0 : Int32), (-1 : Int32), (0 : Int32)) _ e10 ?_
  show gW _ _ 58 [some (.ref a0), some (.int r9.1), some (.int r9.2), none, none] [] S.1 S.2 _ _ _
  refine r_aload_n (pc := 58) dX10_readsWord_58 rfl ?_
  refine r_dup (pc := 59) dX10_readsWord_59 rfl ?_
  obtain ⟨x11, e12, hf⟩ := obind hf
  refine q_getI (pc := 60) dX10_readsWord_60 gX10_199 e12 ?_
  refine r_iload_n (pc := 63) dX10_readsWord_63 rfl ?_
  refine r_iadd (pc := 64) dX10_readsWord_64 ?_
  obtain ⟨S13, e14, hf⟩ := obind hf
  refine q_putI (pc := 65) dX10_readsWord_65 pX10_199 rfl e14 ?_
  refine r_aload_n (pc := 68) dX10_readsWord_68 rfl ?_
  refine r_iload_n (pc := 69) dX10_readsWord_69 rfl ?_
  refine r_iconst (pc := 70) (-1 : Int32) dX10_readsWord_70 (by decide) ?_
  refine r_icmp_eq (pc := 71) 78 dX10_readsWord_71 (by decide) (fun hc => ?_) (fun hc => ?_)
  · rw [if_pos hc] at hf
    refine r_iconst (pc := 78) (0 : Int32) dX10_readsWord_78 (by decide) ?_
    refine gW.mono (mc := 0) (ms := 0) ?_ (fun _ _ _ q => q) (by decide) (by decide)
    exact gW.weak (by simp [gle]) (W_X10_readsWord_79 S13 a0 r9.2 a0 (0 : Int32) r hf hk)
  · rw [if_neg hc] at hf
    refine r_iconst (pc := 74) (1 : Int32) dX10_readsWord_74 (by decide) ?_
    refine r_goto (pc := 75) 79 dX10_readsWord_75 (by decide) ?_
    refine gW.mono (mc := 0) (ms := 0) ?_ (fun _ _ _ q => q) (by decide) (by decide)
    exact gW.weak (by simp [gle]) (W_X10_readsWord_79 S13 a0 r9.2 a0 (1 : Int32) r hf hk)
def F_X10_readsCondition_206 (S : pS) (l0 : Nat) : Option (pS) := (oGI S l0 10 36).bind fun x29 => (oPI S l0 10 36 (x29 + (1 : Int32))).bind fun S31 => some S31
set_option maxRecDepth 100000 in
set_option maxHeartbeats 4000000 in
theorem W_X10_readsCondition_206 {X : pX} {Q : pO → Nat → pF → Prop} (S : pS) (l0 : Nat) (r : pS) (hf : F_X10_readsCondition_206 S l0 = some r) (hk : Q (.inl none) r.1 r.2) : gW X mX10_readsCondition 206 [some (.ref l0), none, none] [] S.1 S.2 Q 0 0 := by
  unfold F_X10_readsCondition_206 at hf
  refine r_aload_n (pc := 206) dX10_readsCondition_206 rfl ?_
  refine r_dup (pc := 207) dX10_readsCondition_207 rfl ?_
  obtain ⟨x29, e30, hf⟩ := obind hf
  refine q_getI (pc := 208) dX10_readsCondition_208 gX10_330 e30 ?_
  refine r_iconst (pc := 211) (1 : Int32) dX10_readsCondition_211 (by decide) ?_
  refine r_iadd (pc := 212) dX10_readsCondition_212 ?_
  obtain ⟨S31, e32, hf⟩ := obind hf
  refine q_putI (pc := 213) dX10_readsCondition_213 pX10_330 rfl e32 ?_
  refine r_return (pc := 216) dX10_readsCondition_216 rfl ?_
  cases hf
  exact hk
abbrev L_X10_readsCondition_158 (l0 : Nat) (l1 : Int32) : Int32 × pS → List (Option Value) := fun a => [some (.ref l0), some (.int l1), some (.int a.1)]
abbrev s_X10_readsCondition_158 (l0 : Nat) (l1 : Int32) : Int32 × pS → pS := fun a => a.2
abbrev K_X10_readsCondition_158 (X : pX) (Q : pO → Nat → pF → Prop) (mc ms : Nat) (l0 : Nat) (l1 : Int32) : pS → Prop := (fun b => gW X mX10_readsCondition 199 [some (.ref l0), some (.int l1), none] [] b.1 b.2 Q mc ms)
def F_X10_readsCondition_158 (l0 : Nat) (l1 : Int32) : Int32 × pS → Option ((Int32 × pS) ⊕ (pS)) := fun a => (oGA a.2 l0 10 33).bind fun x49 => (oGI a.2 l0 10 36).bind fun x51 => (oAI a.2 x49 .int x51).bind fun x53 => if x53 ≤ a.1 then (some (.inr a.2)) else ((oGA a.2 l0 10 34).bind fun x55 => (oGI a.2 l0 10 36).bind fun x57 => (oGA a.2 l0 10 9).bind fun x59 => (oAI a.2 x59 .int (l1 + a.1)).bind fun x61 => (oSI a.2 x55 .int (((10 : Int32) * x57) + a.1) x61).bind fun S63 => some (.inl (a.1 + (1 : Int32), S63)))
set_option maxRecDepth 100000 in
set_option maxHeartbeats 4000000 in
theorem W_X10_readsCondition_158 {X : pX} {Q : pO → Nat → pF → Prop} {mc ms : Nat} (l0 : Nat) (l1 : Int32) : ∀ (a : Int32 × pS) (r : (Int32 × pS) ⊕ (pS)), F_X10_readsCondition_158 l0 l1 a = some r → Sum.elim (fun a' => gW X mX10_readsCondition 158 (L_X10_readsCondition_158 l0 l1 a') [] (s_X10_readsCondition_158 l0 l1 a').1 (s_X10_readsCondition_158 l0 l1 a').2 Q mc ms) (K_X10_readsCondition_158 X Q mc ms l0 l1) r → gW X mX10_readsCondition 158 (L_X10_readsCondition_158 l0 l1 a) [] (s_X10_readsCondition_158 l0 l1 a).1 (s_X10_readsCondition_158 l0 l1 a).2 Q mc ms := by
  intro a r hf hk
  obtain ⟨l2, S⟩ := a
  unfold F_X10_readsCondition_158 at hf
  try dsimp only at hf
  change gW _ _ _ [some (.ref l0), some (.int l1), some (.int l2)] _ S.1 S.2 _ _ _
  refine r_iload_n (pc := 158) dX10_readsCondition_158 rfl ?_
  refine r_aload_n (pc := 159) dX10_readsCondition_159 rfl ?_
  obtain ⟨x49, e50, hf⟩ := obind hf
  refine q_getA (pc := 160) dX10_readsCondition_160 gX10_79 e50 ?_
  refine r_aload_n (pc := 163) dX10_readsCondition_163 rfl ?_
  obtain ⟨x51, e52, hf⟩ := obind hf
  refine q_getI (pc := 164) dX10_readsCondition_164 gX10_330 e52 ?_
  obtain ⟨x53, e54, hf⟩ := obind hf
  refine q_iald (pc := 167) dX10_readsCondition_167 e54 ?_
  refine r_icmp_ge (pc := 168) 199 dX10_readsCondition_168 (by decide) (fun hc => ?_) (fun hc => ?_)
  · rw [if_pos hc] at hf
    cases hf
    exact gW.weak (by simp [gle]) hk
  · rw [if_neg hc] at hf
    refine r_aload_n (pc := 171) dX10_readsCondition_171 rfl ?_
    obtain ⟨x55, e56, hf⟩ := obind hf
    refine q_getA (pc := 172) dX10_readsCondition_172 gX10_82 e56 ?_
    refine r_bipush (pc := 175) (10 : Int32) dX10_readsCondition_175 (by decide) ?_
    refine r_aload_n (pc := 177) dX10_readsCondition_177 rfl ?_
    obtain ⟨x57, e58, hf⟩ := obind hf
    refine q_getI (pc := 178) dX10_readsCondition_178 gX10_330 e58 ?_
    refine r_imul (pc := 181) dX10_readsCondition_181 ?_
    refine r_iload_n (pc := 182) dX10_readsCondition_182 rfl ?_
    refine r_iadd (pc := 183) dX10_readsCondition_183 ?_
    refine r_aload_n (pc := 184) dX10_readsCondition_184 rfl ?_
    obtain ⟨x59, e60, hf⟩ := obind hf
    refine q_getA (pc := 185) dX10_readsCondition_185 gX10_25 e60 ?_
    refine r_iload_n (pc := 188) dX10_readsCondition_188 rfl ?_
    refine r_iload_n (pc := 189) dX10_readsCondition_189 rfl ?_
    refine r_iadd (pc := 190) dX10_readsCondition_190 ?_
    obtain ⟨x61, e62, hf⟩ := obind hf
    refine q_iald (pc := 191) dX10_readsCondition_191 e62 ?_
    obtain ⟨S63, e64, hf⟩ := obind hf
    refine q_iast (pc := 192) dX10_readsCondition_192 e64 ?_
    refine r_iinc (pc := 193) dX10_readsCondition_193 rfl (by decide) ?_
    change gW _ _ _ [some (.ref l0), some (.int l1), some (.int (l2 + (1 : Int32)))] _ _ _ _ _ _
    refine r_goto (pc := 196) 158 dX10_readsCondition_196 (by decide) ?_
    cases hf
    exact gW.weak (by simp [gle]) hk
def F_X10_readsCondition_155 (S : pS) (l0 : Nat) (l1 : Int32) (t0 : Nat) (t1 : Int32) (t2 : Int32) : Option (pS) := (oSI S t0 .int t1 t2).bind fun S47 => (iter (F_X10_readsCondition_158 l0 l1) fu ((0 : Int32), S47)).bind fun r65 => F_X10_readsCondition_206 r65 l0
set_option maxRecDepth 100000 in
set_option maxHeartbeats 4000000 in
theorem W_X10_readsCondition_155 {X : pX} {Q : pO → Nat → pF → Prop} (S : pS) (l0 : Nat) (l1 : Int32) (t0 : Nat) (t1 : Int32) (t2 : Int32) (r : pS) (hf : F_X10_readsCondition_155 S l0 l1 t0 t1 t2 = some r) (hk : Q (.inl none) r.1 r.2) : gW X mX10_readsCondition 155 [some (.ref l0), some (.int l1), none] [.int t2, .int t1, .ref t0] S.1 S.2 Q 0 0 := by
  unfold F_X10_readsCondition_155 at hf
  obtain ⟨S47, e48, hf⟩ := obind hf
  refine q_iast (pc := 155) dX10_readsCondition_155 e48 ?_
  refine r_iconst (pc := 156) (0 : Int32) dX10_readsCondition_156 (by decide) ?_
  refine r_istore_n (pc := 157) dX10_readsCondition_157 (by decide) ?_
  change gW _ _ _ [some (.ref l0), some (.int l1), some (.int (0 : Int32))] _ _ _ _ _ _
  obtain ⟨r65, e66, hf⟩ := obind hf
  refine gW.weak (ls' := [some (.ref l0), some (.int l1), some (.int (0 : Int32))]) (by simp [gle]) ?_
  refine g_iter (L := L_X10_readsCondition_158 l0 l1) (s := s_X10_readsCondition_158 l0 l1) (K := K_X10_readsCondition_158 X Q _ _ l0 l1) (W_X10_readsCondition_158 l0 l1) fu ((0 : Int32), S47) _ e66 ?_
  show gW _ _ 199 [some (.ref l0), some (.int l1), none] [] r65.1 r65.2 _ _ _
  refine r_goto (pc := 199) 206 dX10_readsCondition_199 (by decide) ?_
  refine gW.mono (mc := 0) (ms := 0) ?_ (fun _ _ _ q => q) (by decide) (by decide)
  exact gW.weak (by simp [gle]) (W_X10_readsCondition_206 r65 l0 r hf hk)
def F_X10_readsCondition (S : pS) (a0 : Nat) : Option (pS) := (oF S a0 10).bind fun _ => (oGA S a0 10 35).bind fun x1 => (oGI S a0 10 36).bind fun x3 => (F_X10_skips S a0 (33 : Int32)).bind fun q5 => (oSI q5.2 x1 .boolean x3 q5.1).bind fun S7 => (oGA S7 a0 10 32).bind fun x9 => (oGI S7 a0 10 36).bind fun x11 => (oSI S7 x9 .int x11 (0 : Int32)).bind fun S13 => (oGA S13 a0 10 33).bind fun x15 => (oGI S13 a0 10 36).bind fun x17 => (oSI S13 x15 .int x17 (0 : Int32)).bind fun S19 => (F_X10_skips S19 a0 (62 : Int32)).bind fun q21 => if q21.1 = 0 then ((F_X10_skips q21.2 a0 (60 : Int32)).bind fun q23 => if q23.1 = 0 then ((F_X10_skips q23.2 a0 (126 : Int32)).bind fun q25 => if q25.1 = 0 then ((F_X10_readsWord q25.2 a0).bind fun q27 => F_X10_readsCondition_206 q27 a0) else ((oGA q25.2 a0 10 31).bind fun x33 => (oGI q25.2 a0 10 36).bind fun x35 => (oSI q25.2 x33 .int x35 (6 : Int32)).bind fun S37 => (F_X10_letters S37 a0).bind fun q39 => (oGA q39.2 a0 10 33).bind fun x41 => (oGI q39.2 a0 10 36).bind fun x43 => (oGI q39.2 a0 10 23).bind fun x45 => if x45 = 0 then (F_X10_readsCondition_155 q39.2 a0 q39.1 x41 x43 (0 : Int32)) else ((oGI q39.2 a0 10 21).bind fun x67 => F_X10_readsCondition_155 q39.2 a0 q39.1 x41 x43 (x67 - q39.1)))) else ((oGA q23.2 a0 10 31).bind fun x69 => (oGI q23.2 a0 10 36).bind fun x71 => (oSI q23.2 x69 .int x71 (5 : Int32)).bind fun S73 => (oGA S73 a0 10 32).bind fun x75 => (oGI S73 a0 10 36).bind fun x77 => (F_X10_value S73 a0).bind fun q79 => (oSI q79.2 x75 .int x77 q79.1).bind fun S81 => F_X10_readsCondition_206 S81 a0)) else ((oGA q21.2 a0 10 31).bind fun x83 => (oGI q21.2 a0 10 36).bind fun x85 => (oSI q21.2 x83 .int x85 (4 : Int32)).bind fun S87 => (oGA S87 a0 10 32).bind fun x89 => (oGI S87 a0 10 36).bind fun x91 => (F_X10_value S87 a0).bind fun q93 => (oSI q93.2 x89 .int x91 q93.1).bind fun S95 => F_X10_readsCondition_206 S95 a0)
set_option maxRecDepth 100000 in
set_option maxHeartbeats 4000000 in
theorem C_X10_readsCondition {X : pX} {Q : pO → Nat → pF → Prop} (S : pS) (a0 : Nat) (r : pS) (hf : F_X10_readsCondition S a0 = some r) (hk : Q (.inl none) r.1 r.2) : gC X mX10_readsCondition [.ref a0] S.1 S.2 Q 0 0 := by
  refine gC_of (by decide) (Nat.le_of_ble_eq_true rfl) ?_
  change gW _ _ _ [some (.ref a0), none, none] _ _ _ _ _ _
  unfold F_X10_readsCondition at hf
  obtain ⟨_, _, hf⟩ := obind hf
  refine r_aload_n (pc := 0) dX10_readsCondition_0 rfl ?_
  obtain ⟨x1, e2, hf⟩ := obind hf
  refine q_getA (pc := 1) dX10_readsCondition_1 gX10_85 e2 ?_
  refine r_aload_n (pc := 4) dX10_readsCondition_4 rfl ?_
  obtain ⟨x3, e4, hf⟩ := obind hf
  refine q_getI (pc := 5) dX10_readsCondition_5 gX10_330 e4 ?_
  refine r_aload_n (pc := 8) dX10_readsCondition_8 rfl ?_
  refine r_bipush (pc := 9) (33 : Int32) dX10_readsCondition_9 (by decide) ?_
  obtain ⟨q5, e6, hf⟩ := obind hf
  refine q_callV (pc := 11) (v := some (.int q5.1)) (S' := q5.2) mX10_skips 10 [.int (33 : Int32)] dX10_readsCondition_11 kX10_316 fX10_skips iX10_skips ⟨by decide, by decide⟩ rfl rfl rfl (Nat.le_of_ble_eq_true rfl) (og e6) (mc1 := 0) (ms1 := 0) (mc2 := 0) (ms2 := 0) (by decide) (by decide) (C_X10_skips S a0 (33 : Int32) q5 e6 (qR_mk _ _)) ?_
  change gW _ _ _ _ (.int q5.1 :: _) _ _ _ _ _
  obtain ⟨S7, e8, hf⟩ := obind hf
  refine q_zast (pc := 14) dX10_readsCondition_14 e8 ?_
  refine r_aload_n (pc := 15) dX10_readsCondition_15 rfl ?_
  obtain ⟨x9, e10, hf⟩ := obind hf
  refine q_getA (pc := 16) dX10_readsCondition_16 gX10_76 e10 ?_
  refine r_aload_n (pc := 19) dX10_readsCondition_19 rfl ?_
  obtain ⟨x11, e12, hf⟩ := obind hf
  refine q_getI (pc := 20) dX10_readsCondition_20 gX10_330 e12 ?_
  refine r_iconst (pc := 23) (0 : Int32) dX10_readsCondition_23 (by decide) ?_
  obtain ⟨S13, e14, hf⟩ := obind hf
  refine q_iast (pc := 24) dX10_readsCondition_24 e14 ?_
  refine r_aload_n (pc := 25) dX10_readsCondition_25 rfl ?_
  obtain ⟨x15, e16, hf⟩ := obind hf
  refine q_getA (pc := 26) dX10_readsCondition_26 gX10_79 e16 ?_
  refine r_aload_n (pc := 29) dX10_readsCondition_29 rfl ?_
  obtain ⟨x17, e18, hf⟩ := obind hf
  refine q_getI (pc := 30) dX10_readsCondition_30 gX10_330 e18 ?_
  refine r_iconst (pc := 33) (0 : Int32) dX10_readsCondition_33 (by decide) ?_
  obtain ⟨S19, e20, hf⟩ := obind hf
  refine q_iast (pc := 34) dX10_readsCondition_34 e20 ?_
  refine r_aload_n (pc := 35) dX10_readsCondition_35 rfl ?_
  refine r_bipush (pc := 36) (62 : Int32) dX10_readsCondition_36 (by decide) ?_
  obtain ⟨q21, e22, hf⟩ := obind hf
  refine q_callV (pc := 38) (v := some (.int q21.1)) (S' := q21.2) mX10_skips 10 [.int (62 : Int32)] dX10_readsCondition_38 kX10_316 fX10_skips iX10_skips ⟨by decide, by decide⟩ rfl rfl rfl (Nat.le_of_ble_eq_true rfl) (og e22) (mc1 := 0) (ms1 := 0) (mc2 := 0) (ms2 := 0) (by decide) (by decide) (C_X10_skips S19 a0 (62 : Int32) q21 e22 (qR_mk _ _)) ?_
  change gW _ _ _ _ (.int q21.1 :: _) _ _ _ _ _
  refine r_if_eq (pc := 41) 70 dX10_readsCondition_41 (by decide) (fun hc => ?_) (fun hc => ?_)
  · rw [if_pos hc] at hf
    refine r_aload_n (pc := 70) dX10_readsCondition_70 rfl ?_
    refine r_bipush (pc := 71) (60 : Int32) dX10_readsCondition_71 (by decide) ?_
    obtain ⟨q23, e24, hf⟩ := obind hf
    refine q_callV (pc := 73) (v := some (.int q23.1)) (S' := q23.2) mX10_skips 10 [.int (60 : Int32)] dX10_readsCondition_73 kX10_316 fX10_skips iX10_skips ⟨by decide, by decide⟩ rfl rfl rfl (Nat.le_of_ble_eq_true rfl) (og e24) (mc1 := 0) (ms1 := 0) (mc2 := 0) (ms2 := 0) (by decide) (by decide) (C_X10_skips q21.2 a0 (60 : Int32) q23 e24 (qR_mk _ _)) ?_
    change gW _ _ _ _ (.int q23.1 :: _) _ _ _ _ _
    refine r_if_eq (pc := 76) 105 dX10_readsCondition_76 (by decide) (fun hc => ?_) (fun hc => ?_)
    · rw [if_pos hc] at hf
      refine r_aload_n (pc := 105) dX10_readsCondition_105 rfl ?_
      refine r_bipush (pc := 106) (126 : Int32) dX10_readsCondition_106 (by decide) ?_
      obtain ⟨q25, e26, hf⟩ := obind hf
      refine q_callV (pc := 108) (v := some (.int q25.1)) (S' := q25.2) mX10_skips 10 [.int (126 : Int32)] dX10_readsCondition_108 kX10_316 fX10_skips iX10_skips ⟨by decide, by decide⟩ rfl rfl rfl (Nat.le_of_ble_eq_true rfl) (og e26) (mc1 := 0) (ms1 := 0) (mc2 := 0) (ms2 := 0) (by decide) (by decide) (C_X10_skips q23.2 a0 (126 : Int32) q25 e26 (qR_mk _ _)) ?_
      change gW _ _ _ _ (.int q25.1 :: _) _ _ _ _ _
      refine r_if_eq (pc := 111) 202 dX10_readsCondition_111 (by decide) (fun hc => ?_) (fun hc => ?_)
      · rw [if_pos hc] at hf
        refine r_aload_n (pc := 202) dX10_readsCondition_202 rfl ?_
        obtain ⟨q27, e28, hf⟩ := obind hf
        refine q_callV (pc := 203) (v := none) (S' := q27) mX10_readsWord 10 [] dX10_readsCondition_203 kX10_336 fX10_readsWord iX10_readsWord ⟨by decide, by decide⟩ rfl rfl rfl (Nat.le_of_ble_eq_true rfl) (og e28) (mc1 := 0) (ms1 := 0) (mc2 := 0) (ms2 := 0) (by decide) (by decide) (C_X10_readsWord q25.2 a0 q27 e28 (qR_mk _ _)) ?_
        refine gW.mono (mc := 0) (ms := 0) ?_ (fun _ _ _ q => q) (by decide) (by decide)
        exact gW.weak (by simp [gle]) (W_X10_readsCondition_206 q27 a0 r hf hk)
      · rw [if_neg hc] at hf
        refine r_aload_n (pc := 114) dX10_readsCondition_114 rfl ?_
        obtain ⟨x33, e34, hf⟩ := obind hf
        refine q_getA (pc := 115) dX10_readsCondition_115 gX10_73 e34 ?_
        refine r_aload_n (pc := 118) dX10_readsCondition_118 rfl ?_
        obtain ⟨x35, e36, hf⟩ := obind hf
        refine q_getI (pc := 119) dX10_readsCondition_119 gX10_330 e36 ?_
        refine r_bipush (pc := 122) (6 : Int32) dX10_readsCondition_122 (by decide) ?_
        obtain ⟨S37, e38, hf⟩ := obind hf
        refine q_iast (pc := 124) dX10_readsCondition_124 e38 ?_
        refine r_aload_n (pc := 125) dX10_readsCondition_125 rfl ?_
        obtain ⟨q39, e40, hf⟩ := obind hf
        refine q_callV (pc := 126) (v := some (.int q39.1)) (S' := q39.2) mX10_letters 10 [] dX10_readsCondition_126 kX10_215 fX10_letters iX10_letters ⟨by decide, by decide⟩ rfl rfl rfl (Nat.le_of_ble_eq_true rfl) (og e40) (mc1 := 0) (ms1 := 0) (mc2 := 0) (ms2 := 0) (by decide) (by decide) (C_X10_letters S37 a0 q39 e40 (qR_mk _ _)) ?_
        change gW _ _ _ _ (.int q39.1 :: _) _ _ _ _ _
        refine r_istore_n (pc := 129) dX10_readsCondition_129 (by decide) ?_
        change gW _ _ _ [some (.ref a0), some (.int q39.1), none] _ _ _ _ _ _
        refine r_aload_n (pc := 130) dX10_readsCondition_130 rfl ?_
        obtain ⟨x41, e42, hf⟩ := obind hf
        refine q_getA (pc := 131) dX10_readsCondition_131 gX10_79 e42 ?_
        refine r_aload_n (pc := 134) dX10_readsCondition_134 rfl ?_
        obtain ⟨x43, e44, hf⟩ := obind hf
        refine q_getI (pc := 135) dX10_readsCondition_135 gX10_330 e44 ?_
        refine r_aload_n (pc := 138) dX10_readsCondition_138 rfl ?_
        obtain ⟨x45, e46, hf⟩ := obind hf
        refine q_getI (pc := 139) dX10_readsCondition_139 gX10_205 e46 ?_
        refine r_if_eq (pc := 142) 154 dX10_readsCondition_142 (by decide) (fun hc => ?_) (fun hc => ?_)
        · rw [if_pos hc] at hf
          refine r_iconst (pc := 154) (0 : Int32) dX10_readsCondition_154 (by decide) ?_
          refine gW.mono (mc := 0) (ms := 0) ?_ (fun _ _ _ q => q) (by decide) (by decide)
          exact gW.weak (by simp [gle]) (W_X10_readsCondition_155 q39.2 a0 q39.1 x41 x43 (0 : Int32) r hf hk)
        · rw [if_neg hc] at hf
          refine r_aload_n (pc := 145) dX10_readsCondition_145 rfl ?_
          obtain ⟨x67, e68, hf⟩ := obind hf
          refine q_getI (pc := 146) dX10_readsCondition_146 gX10_199 e68 ?_
          refine r_iload_n (pc := 149) dX10_readsCondition_149 rfl ?_
          refine r_isub (pc := 150) dX10_readsCondition_150 ?_
          refine r_goto (pc := 151) 155 dX10_readsCondition_151 (by decide) ?_
          refine gW.mono (mc := 0) (ms := 0) ?_ (fun _ _ _ q => q) (by decide) (by decide)
          exact gW.weak (by simp [gle]) (W_X10_readsCondition_155 q39.2 a0 q39.1 x41 x43 (x67 - q39.1) r hf hk)
    · rw [if_neg hc] at hf
      refine r_aload_n (pc := 79) dX10_readsCondition_79 rfl ?_
      obtain ⟨x69, e70, hf⟩ := obind hf
      refine q_getA (pc := 80) dX10_readsCondition_80 gX10_73 e70 ?_
      refine r_aload_n (pc := 83) dX10_readsCondition_83 rfl ?_
      obtain ⟨x71, e72, hf⟩ := obind hf
      refine q_getI (pc := 84) dX10_readsCondition_84 gX10_330 e72 ?_
      refine r_iconst (pc := 87) (5 : Int32) dX10_readsCondition_87 (by decide) ?_
      obtain ⟨S73, e74, hf⟩ := obind hf
      refine q_iast (pc := 88) dX10_readsCondition_88 e74 ?_
      refine r_aload_n (pc := 89) dX10_readsCondition_89 rfl ?_
      obtain ⟨x75, e76, hf⟩ := obind hf
      refine q_getA (pc := 90) dX10_readsCondition_90 gX10_76 e76 ?_
      refine r_aload_n (pc := 93) dX10_readsCondition_93 rfl ?_
      obtain ⟨x77, e78, hf⟩ := obind hf
      refine q_getI (pc := 94) dX10_readsCondition_94 gX10_330 e78 ?_
      refine r_aload_n (pc := 97) dX10_readsCondition_97 rfl ?_
      obtain ⟨q79, e80, hf⟩ := obind hf
      refine q_callV (pc := 98) (v := some (.int q79.1)) (S' := q79.2) mX10_value 10 [] dX10_readsCondition_98 kX10_333 fX10_value iX10_value ⟨by decide, by decide⟩ rfl rfl rfl (Nat.le_of_ble_eq_true rfl) (og e80) (mc1 := 0) (ms1 := 0) (mc2 := 0) (ms2 := 0) (by decide) (by decide) (C_X10_value S73 a0 q79 e80 (qR_mk _ _)) ?_
      change gW _ _ _ _ (.int q79.1 :: _) _ _ _ _ _
      obtain ⟨S81, e82, hf⟩ := obind hf
      refine q_iast (pc := 101) dX10_readsCondition_101 e82 ?_
      refine r_goto (pc := 102) 206 dX10_readsCondition_102 (by decide) ?_
      refine gW.mono (mc := 0) (ms := 0) ?_ (fun _ _ _ q => q) (by decide) (by decide)
      exact gW.weak (by simp [gle]) (W_X10_readsCondition_206 S81 a0 r hf hk)
  · rw [if_neg hc] at hf
    refine r_aload_n (pc := 44) dX10_readsCondition_44 rfl ?_
    obtain ⟨x83, e84, hf⟩ := obind hf
    refine q_getA (pc := 45) dX10_readsCondition_45 gX10_73 e84 ?_
    refine r_aload_n (pc := 48) dX10_readsCondition_48 rfl ?_
    obtain ⟨x85, e86, hf⟩ := obind hf
    refine q_getI (pc := 49) dX10_readsCondition_49 gX10_330 e86 ?_
    refine r_iconst (pc := 52) (4 : Int32) dX10_readsCondition_52 (by decide) ?_
    obtain ⟨S87, e88, hf⟩ := obind hf
    refine q_iast (pc := 53) dX10_readsCondition_53 e88 ?_
    refine r_aload_n (pc := 54) dX10_readsCondition_54 rfl ?_
    obtain ⟨x89, e90, hf⟩ := obind hf
    refine q_getA (pc := 55) dX10_readsCondition_55 gX10_76 e90 ?_
    refine r_aload_n (pc := 58) dX10_readsCondition_58 rfl ?_
    obtain ⟨x91, e92, hf⟩ := obind hf
    refine q_getI (pc := 59) dX10_readsCondition_59 gX10_330 e92 ?_
    refine r_aload_n (pc := 62) dX10_readsCondition_62 rfl ?_
    obtain ⟨q93, e94, hf⟩ := obind hf
    refine q_callV (pc := 63) (v := some (.int q93.1)) (S' := q93.2) mX10_value 10 [] dX10_readsCondition_63 kX10_333 fX10_value iX10_value ⟨by decide, by decide⟩ rfl rfl rfl (Nat.le_of_ble_eq_true rfl) (og e94) (mc1 := 0) (ms1 := 0) (mc2 := 0) (ms2 := 0) (by decide) (by decide) (C_X10_value S87 a0 q93 e94 (qR_mk _ _)) ?_
    change gW _ _ _ _ (.int q93.1 :: _) _ _ _ _ _
    obtain ⟨S95, e96, hf⟩ := obind hf
    refine q_iast (pc := 66) dX10_readsCondition_66 e96 ?_
    refine r_goto (pc := 67) 206 dX10_readsCondition_67 (by decide) ?_
    refine gW.mono (mc := 0) (ms := 0) ?_ (fun _ _ _ q => q) (by decide) (by decide)
    exact gW.weak (by simp [gle]) (W_X10_readsCondition_206 S95 a0 r hf hk)
abbrev L_X10_readsFilter_9 (l0 : Nat) : pS → List (Option Value) := fun a => [some (.ref l0)]
abbrev s_X10_readsFilter_9 (l0 : Nat) : pS → pS := fun a => a
abbrev K_X10_readsFilter_9 (X : pX) (Q : pO → Nat → pF → Prop) (mc ms : Nat) (l0 : Nat) : pS → Prop := (fun b => gW X mX10_readsFilter 77 [some (.ref l0)] [] b.1 b.2 Q mc ms)
def F_X10_readsFilter_50 (l0 : Nat) (S : pS) (t0 : Nat) (t1 : Int32) : Option ((pS) ⊕ (pS)) := (oPZ S t0 10 23 t1).bind fun S13 => (oGI S13 l0 10 23).bind fun x15 => if x15 = 0 then (some (.inl S13)) else ((oGI S13 l0 10 21).bind fun x17 => (oPI S13 l0 10 21 (x17 + (1 : Int32))).bind fun S19 => (F_X10_readsCondition S19 l0).bind fun q21 => some (.inl q21))
set_option maxRecDepth 100000 in
set_option maxHeartbeats 4000000 in
theorem W_X10_readsFilter_50 {X : pX} {Q : pO → Nat → pF → Prop} {mc ms : Nat} (l0 : Nat) (S : pS) (t0 : Nat) (t1 : Int32) (r : (pS) ⊕ (pS)) (hf : F_X10_readsFilter_50 l0 S t0 t1 = some r) (hk : Sum.elim (fun a' => gW X mX10_readsFilter 9 (L_X10_readsFilter_9 l0 a') [] (s_X10_readsFilter_9 l0 a').1 (s_X10_readsFilter_9 l0 a').2 Q mc ms) (K_X10_readsFilter_9 X Q mc ms l0) r) : gW X mX10_readsFilter 50 [some (.ref l0)] [.int t1, .ref t0] S.1 S.2 Q mc ms := by
  unfold F_X10_readsFilter_50 at hf
  obtain ⟨S13, e14, hf⟩ := obind hf
  refine q_putZ (pc := 50) dX10_readsFilter_50 pX10_205 rfl e14 ?_
  refine r_aload_n (pc := 53) dX10_readsFilter_53 rfl ?_
  obtain ⟨x15, e16, hf⟩ := obind hf
  refine q_getI (pc := 54) dX10_readsFilter_54 gX10_205 e16 ?_
  refine r_if_eq (pc := 57) 9 dX10_readsFilter_57 (by decide) (fun hc => ?_) (fun hc => ?_)
  · rw [if_pos hc] at hf
    cases hf
    exact gW.weak (by simp [gle]) hk
  · rw [if_neg hc] at hf
    refine r_aload_n (pc := 60) dX10_readsFilter_60 rfl ?_
    refine r_dup (pc := 61) dX10_readsFilter_61 rfl ?_
    obtain ⟨x17, e18, hf⟩ := obind hf
    refine q_getI (pc := 62) dX10_readsFilter_62 gX10_199 e18 ?_
    refine r_iconst (pc := 65) (1 : Int32) dX10_readsFilter_65 (by decide) ?_
    refine r_iadd (pc := 66) dX10_readsFilter_66 ?_
    obtain ⟨S19, e20, hf⟩ := obind hf
    refine q_putI (pc := 67) dX10_readsFilter_67 pX10_199 rfl e20 ?_
    refine r_aload_n (pc := 70) dX10_readsFilter_70 rfl ?_
    obtain ⟨q21, e22, hf⟩ := obind hf
    refine q_callV (pc := 71) (v := none) (S' := q21) mX10_readsCondition 10 [] dX10_readsFilter_71 kX10_339 fX10_readsCondition iX10_readsCondition ⟨by decide, by decide⟩ rfl rfl rfl (Nat.le_of_ble_eq_true rfl) (og e22) (mc1 := 0) (ms1 := 0) (mc2 := mc) (ms2 := ms) (by omega) (by omega) (C_X10_readsCondition S19 l0 q21 e22 (qR_mk _ _)) ?_
    refine r_goto (pc := 74) 9 dX10_readsFilter_74 (by decide) ?_
    cases hf
    exact gW.weak (by simp [gle]) hk
def F_X10_readsFilter_49 (l0 : Nat) (S : pS) (t0 : Nat) : Option ((pS) ⊕ (pS)) := F_X10_readsFilter_50 l0 S t0 (0 : Int32)
set_option maxRecDepth 100000 in
set_option maxHeartbeats 4000000 in
theorem W_X10_readsFilter_49 {X : pX} {Q : pO → Nat → pF → Prop} {mc ms : Nat} (l0 : Nat) (S : pS) (t0 : Nat) (r : (pS) ⊕ (pS)) (hf : F_X10_readsFilter_49 l0 S t0 = some r) (hk : Sum.elim (fun a' => gW X mX10_readsFilter 9 (L_X10_readsFilter_9 l0 a') [] (s_X10_readsFilter_9 l0 a').1 (s_X10_readsFilter_9 l0 a').2 Q mc ms) (K_X10_readsFilter_9 X Q mc ms l0) r) : gW X mX10_readsFilter 49 [some (.ref l0)] [.ref t0] S.1 S.2 Q mc ms := by
  unfold F_X10_readsFilter_49 at hf
  refine r_iconst (pc := 49) (0 : Int32) dX10_readsFilter_49 (by decide) ?_
  exact gW.weak (by simp [gle]) (W_X10_readsFilter_50 l0 S t0 (0 : Int32) r hf hk)
def F_X10_readsFilter_9 (l0 : Nat) : pS → Option ((pS) ⊕ (pS)) := fun a => (oGI a l0 10 23).bind fun x5 => if x5 = 0 then (some (.inr a)) else ((oGI a l0 10 21).bind fun x7 => (oGI a l0 10 22).bind fun x9 => if x9 ≤ x7 then (some (.inr a)) else ((oGI a l0 10 36).bind fun x11 => if (5 : Int32) ≤ x11 then (F_X10_readsFilter_49 l0 a l0) else ((F_X10_here a l0).bind fun q23 => if ¬ q23 = (38 : Int32) then (F_X10_readsFilter_49 l0 a l0) else (F_X10_readsFilter_50 l0 a l0 (1 : Int32)))))
set_option maxRecDepth 100000 in
set_option maxHeartbeats 4000000 in
theorem W_X10_readsFilter_9 {X : pX} {Q : pO → Nat → pF → Prop} {mc ms : Nat} (l0 : Nat) : ∀ (a : pS) (r : (pS) ⊕ (pS)), F_X10_readsFilter_9 l0 a = some r → Sum.elim (fun a' => gW X mX10_readsFilter 9 (L_X10_readsFilter_9 l0 a') [] (s_X10_readsFilter_9 l0 a').1 (s_X10_readsFilter_9 l0 a').2 Q mc ms) (K_X10_readsFilter_9 X Q mc ms l0) r → gW X mX10_readsFilter 9 (L_X10_readsFilter_9 l0 a) [] (s_X10_readsFilter_9 l0 a).1 (s_X10_readsFilter_9 l0 a).2 Q mc ms := by
  intro S r hf hk
  unfold F_X10_readsFilter_9 at hf
  try dsimp only at hf
  change gW _ _ _ [some (.ref l0)] _ S.1 S.2 _ _ _
  refine r_aload_n (pc := 9) dX10_readsFilter_9 rfl ?_
  obtain ⟨x5, e6, hf⟩ := obind hf
  refine q_getI (pc := 10) dX10_readsFilter_10 gX10_205 e6 ?_
  refine r_if_eq (pc := 13) 77 dX10_readsFilter_13 (by decide) (fun hc => ?_) (fun hc => ?_)
  · rw [if_pos hc] at hf
    cases hf
    exact gW.weak (by simp [gle]) hk
  · rw [if_neg hc] at hf
    refine r_aload_n (pc := 16) dX10_readsFilter_16 rfl ?_
    obtain ⟨x7, e8, hf⟩ := obind hf
    refine q_getI (pc := 17) dX10_readsFilter_17 gX10_199 e8 ?_
    refine r_aload_n (pc := 20) dX10_readsFilter_20 rfl ?_
    obtain ⟨x9, e10, hf⟩ := obind hf
    refine q_getI (pc := 21) dX10_readsFilter_21 gX10_202 e10 ?_
    refine r_icmp_ge (pc := 24) 77 dX10_readsFilter_24 (by decide) (fun hc => ?_) (fun hc => ?_)
    · rw [if_pos hc] at hf
      cases hf
      exact gW.weak (by simp [gle]) hk
    · rw [if_neg hc] at hf
      refine r_aload_n (pc := 27) dX10_readsFilter_27 rfl ?_
      refine r_aload_n (pc := 28) dX10_readsFilter_28 rfl ?_
      obtain ⟨x11, e12, hf⟩ := obind hf
      refine q_getI (pc := 29) dX10_readsFilter_29 gX10_330 e12 ?_
      refine r_iconst (pc := 32) (5 : Int32) dX10_readsFilter_32 (by decide) ?_
      refine r_icmp_ge (pc := 33) 49 dX10_readsFilter_33 (by decide) (fun hc => ?_) (fun hc => ?_)
      · rw [if_pos hc] at hf
        exact gW.weak (by simp [gle]) (W_X10_readsFilter_49 l0 S l0 r hf hk)
      · rw [if_neg hc] at hf
        refine r_aload_n (pc := 36) dX10_readsFilter_36 rfl ?_
        obtain ⟨q23, e24, hf⟩ := obind hf
        refine q_callV (pc := 37) (v := some (.int q23)) (S' := S) mX10_here 10 [] dX10_readsFilter_37 kX10_209 fX10_here iX10_here ⟨by decide, by decide⟩ rfl rfl rfl (Nat.le_of_ble_eq_true rfl) (og e24) (mc1 := 0) (ms1 := 0) (mc2 := mc) (ms2 := ms) (by omega) (by omega) (C_X10_here S l0 q23 e24 (qR_mk _ _)) ?_
        change gW _ _ _ _ (.int q23 :: _) _ _ _ _ _
        refine r_bipush (pc := 40) (38 : Int32) dX10_readsFilter_40 (by decide) ?_
        refine r_icmp_ne (pc := 42) 49 dX10_readsFilter_42 (by decide) (fun hc => ?_) (fun hc => ?_)
        · rw [if_pos hc] at hf
          exact gW.weak (by simp [gle]) (W_X10_readsFilter_49 l0 S l0 r hf hk)
        · rw [if_neg hc] at hf
          refine r_iconst (pc := 45) (1 : Int32) dX10_readsFilter_45 (by decide) ?_
          refine r_goto (pc := 46) 50 dX10_readsFilter_46 (by decide) ?_
          exact gW.weak (by simp [gle]) (W_X10_readsFilter_50 l0 S l0 (1 : Int32) r hf hk)
def F_X10_readsFilter_77 (S : pS) (l0 : Nat) : Option (Int32 × pS) := (oGI S l0 10 23).bind fun x27 => (oZ x27).bind fun x29 => some (x29, S)
set_option maxRecDepth 100000 in
set_option maxHeartbeats 4000000 in
theorem W_X10_readsFilter_77 {X : pX} {Q : pO → Nat → pF → Prop} (S : pS) (l0 : Nat) (r : Int32 × pS) (hf : F_X10_readsFilter_77 S l0 = some r) (hk : Q (.inl (some (.int r.1))) r.2.1 r.2.2) : gW X mX10_readsFilter 77 [some (.ref l0)] [] S.1 S.2 Q 0 0 := by
  unfold F_X10_readsFilter_77 at hf
  refine r_aload_n (pc := 77) dX10_readsFilter_77 rfl ?_
  obtain ⟨x27, e28, hf⟩ := obind hf
  refine q_getI (pc := 78) dX10_readsFilter_78 gX10_205 e28 ?_
  obtain ⟨x29, e30, hf⟩ := obind hf
  obtain ⟨rfl, e30⟩ := oZ_some e30
  refine r_ireturn (pc := 81) .boolean dX10_readsFilter_81 rfl e30 ?_
  cases hf
  exact hk
def F_X10_readsFilter (S : pS) (a0 : Nat) : Option (Int32 × pS) := (oF S a0 10).bind fun _ => (oPI S a0 10 36 (0 : Int32)).bind fun S1 => (F_X10_readsCondition S1 a0).bind fun q3 => (iter (F_X10_readsFilter_9 a0) fu q3).bind fun r25 => F_X10_readsFilter_77 r25 a0
set_option maxRecDepth 100000 in
set_option maxHeartbeats 4000000 in
theorem C_X10_readsFilter {X : pX} {Q : pO → Nat → pF → Prop} (S : pS) (a0 : Nat) (r : Int32 × pS) (hf : F_X10_readsFilter S a0 = some r) (hk : Q (.inl (some (.int r.1))) r.2.1 r.2.2) : gC X mX10_readsFilter [.ref a0] S.1 S.2 Q 0 0 := by
  refine gC_of (by decide) (Nat.le_of_ble_eq_true rfl) ?_
  change gW _ _ _ [some (.ref a0)] _ _ _ _ _ _
  unfold F_X10_readsFilter at hf
  obtain ⟨_, _, hf⟩ := obind hf
  refine r_aload_n (pc := 0) dX10_readsFilter_0 rfl ?_
  refine r_iconst (pc := 1) (0 : Int32) dX10_readsFilter_1 (by decide) ?_
  obtain ⟨S1, e2, hf⟩ := obind hf
  refine q_putI (pc := 2) dX10_readsFilter_2 pX10_330 rfl e2 ?_
  refine r_aload_n (pc := 5) dX10_readsFilter_5 rfl ?_
  obtain ⟨q3, e4, hf⟩ := obind hf
  refine q_callV (pc := 6) (v := none) (S' := q3) mX10_readsCondition 10 [] dX10_readsFilter_6 kX10_339 fX10_readsCondition iX10_readsCondition ⟨by decide, by decide⟩ rfl rfl rfl (Nat.le_of_ble_eq_true rfl) (og e4) (mc1 := 0) (ms1 := 0) (mc2 := 0) (ms2 := 0) (by decide) (by decide) (C_X10_readsCondition S1 a0 q3 e4 (qR_mk _ _)) ?_
  obtain ⟨r25, e26, hf⟩ := obind hf
  refine gW.weak (ls' := [some (.ref a0)]) (by simp [gle]) ?_
  refine g_iter (L := L_X10_readsFilter_9 a0) (s := s_X10_readsFilter_9 a0) (K := K_X10_readsFilter_9 X Q _ _ a0) (W_X10_readsFilter_9 a0) fu q3 _ e26 ?_
  show gW _ _ 77 [some (.ref a0)] [] r25.1 r25.2 _ _ _
  refine gW.mono (mc := 0) (ms := 0) ?_ (fun _ _ _ q => q) (by decide) (by decide)
  exact gW.weak (by simp [gle]) (W_X10_readsFilter_77 r25 a0 r hf hk)
abbrev L_X10_filter_58 (l0 : Nat) : Int32 × pS → List (Option Value) := fun a => [some (.ref l0), some (.int a.1), none]
abbrev s_X10_filter_58 (l0 : Nat) : Int32 × pS → pS := fun a => a.2
abbrev K_X10_filter_58 (X : pX) (Q : pO → Nat → pF → Prop) (mc ms : Nat) (l0 : Nat) : pS → Prop := (fun b => gW X mX10_filter 156 [some (.ref l0), none, none] [] b.1 b.2 Q mc ms)
abbrev L_X10_filter_116 (l0 : Nat) (l1 : Int32) : Int32 × pS → List (Option Value) := fun a => [some (.ref l0), some (.int l1), some (.int a.1)]
abbrev s_X10_filter_116 (l0 : Nat) (l1 : Int32) : Int32 × pS → pS := fun a => a.2
abbrev K_X10_filter_116 (X : pX) (Q : pO → Nat → pF → Prop) (mc ms : Nat) (l0 : Nat) (l1 : Int32) : pS → Prop := (fun b => gW X mX10_filter 150 [some (.ref l0), some (.int l1), none] [] b.1 b.2 Q mc ms)
def F_X10_filter_116 (l0 : Nat) (l1 : Int32) : Int32 × pS → Option ((Int32 × pS) ⊕ (pS)) := fun a => if (10 : Int32) ≤ a.1 then (some (.inr a.2)) else ((oGA a.2 l0 10 28).bind fun x47 => (oGA a.2 l0 10 34).bind fun x49 => (oAI a.2 x49 .int (((10 : Int32) * l1) + a.1)).bind fun x51 => (oSI a.2 x47 .int (((10 : Int32) * l1) + a.1) x51).bind fun S53 => some (.inl (a.1 + (1 : Int32), S53)))
set_option maxRecDepth 100000 in
set_option maxHeartbeats 4000000 in
theorem W_X10_filter_116 {X : pX} {Q : pO → Nat → pF → Prop} {mc ms : Nat} (l0 : Nat) (l1 : Int32) : ∀ (a : Int32 × pS) (r : (Int32 × pS) ⊕ (pS)), F_X10_filter_116 l0 l1 a = some r → Sum.elim (fun a' => gW X mX10_filter 116 (L_X10_filter_116 l0 l1 a') [] (s_X10_filter_116 l0 l1 a').1 (s_X10_filter_116 l0 l1 a').2 Q mc ms) (K_X10_filter_116 X Q mc ms l0 l1) r → gW X mX10_filter 116 (L_X10_filter_116 l0 l1 a) [] (s_X10_filter_116 l0 l1 a).1 (s_X10_filter_116 l0 l1 a).2 Q mc ms := by
  intro a r hf hk
  obtain ⟨l2, S⟩ := a
  unfold F_X10_filter_116 at hf
  try dsimp only at hf
  change gW _ _ _ [some (.ref l0), some (.int l1), some (.int l2)] _ S.1 S.2 _ _ _
  refine r_iload_n (pc := 116) dX10_filter_116 rfl ?_
  refine r_bipush (pc := 117) (10 : Int32) dX10_filter_117 (by decide) ?_
  refine r_icmp_ge (pc := 119) 150 dX10_filter_119 (by decide) (fun hc => ?_) (fun hc => ?_)
  · rw [if_pos hc] at hf
    cases hf
    exact gW.weak (by simp [gle]) hk
  · rw [if_neg hc] at hf
    refine r_aload_n (pc := 122) dX10_filter_122 rfl ?_
    obtain ⟨x47, e48, hf⟩ := obind hf
    refine q_getA (pc := 123) dX10_filter_123 gX10_66 e48 ?_
    refine r_bipush (pc := 126) (10 : Int32) dX10_filter_126 (by decide) ?_
    refine r_iload_n (pc := 128) dX10_filter_128 rfl ?_
    refine r_imul (pc := 129) dX10_filter_129 ?_
    refine r_iload_n (pc := 130) dX10_filter_130 rfl ?_
    refine r_iadd (pc := 131) dX10_filter_131 ?_
    refine r_aload_n (pc := 132) dX10_filter_132 rfl ?_
    obtain ⟨x49, e50, hf⟩ := obind hf
    refine q_getA (pc := 133) dX10_filter_133 gX10_82 e50 ?_
    refine r_bipush (pc := 136) (10 : Int32) dX10_filter_136 (by decide) ?_
    refine r_iload_n (pc := 138) dX10_filter_138 rfl ?_
    refine r_imul (pc := 139) dX10_filter_139 ?_
    refine r_iload_n (pc := 140) dX10_filter_140 rfl ?_
    refine r_iadd (pc := 141) dX10_filter_141 ?_
    obtain ⟨x51, e52, hf⟩ := obind hf
    refine q_iald (pc := 142) dX10_filter_142 e52 ?_
    obtain ⟨S53, e54, hf⟩ := obind hf
    refine q_iast (pc := 143) dX10_filter_143 e54 ?_
    refine r_iinc (pc := 144) dX10_filter_144 rfl (by decide) ?_
    change gW _ _ _ [some (.ref l0), some (.int l1), some (.int (l2 + (1 : Int32)))] _ _ _ _ _ _
    refine r_goto (pc := 147) 116 dX10_filter_147 (by decide) ?_
    cases hf
    exact gW.weak (by simp [gle]) hk
def F_X10_filter_58 (l0 : Nat) : Int32 × pS → Option ((Int32 × pS) ⊕ (pS)) := fun a => (oGI a.2 l0 10 30).bind fun x13 => if x13 ≤ a.1 then (some (.inr a.2)) else ((oGA a.2 l0 10 25).bind fun x15 => (oGA a.2 l0 10 31).bind fun x17 => (oAI a.2 x17 .int a.1).bind fun x19 => (oSI a.2 x15 .int a.1 x19).bind fun S21 => (oGA S21 l0 10 26).bind fun x23 => (oGA S21 l0 10 32).bind fun x25 => (oAI S21 x25 .int a.1).bind fun x27 => (oSI S21 x23 .int a.1 x27).bind fun S29 => (oGA S29 l0 10 27).bind fun x31 => (oGA S29 l0 10 33).bind fun x33 => (oAI S29 x33 .int a.1).bind fun x35 => (oSI S29 x31 .int a.1 x35).bind fun S37 => (oGA S37 l0 10 29).bind fun x39 => (oGA S37 l0 10 35).bind fun x41 => (oAI S37 x41 .boolean a.1).bind fun x43 => (oSI S37 x39 .boolean a.1 x43).bind fun S45 => (iter (F_X10_filter_116 l0 a.1) fu ((0 : Int32), S45)).bind fun r55 => some (.inl (a.1 + (1 : Int32), r55)))
set_option maxRecDepth 100000 in
set_option maxHeartbeats 4000000 in
theorem W_X10_filter_58 {X : pX} {Q : pO → Nat → pF → Prop} {mc ms : Nat} (l0 : Nat) : ∀ (a : Int32 × pS) (r : (Int32 × pS) ⊕ (pS)), F_X10_filter_58 l0 a = some r → Sum.elim (fun a' => gW X mX10_filter 58 (L_X10_filter_58 l0 a') [] (s_X10_filter_58 l0 a').1 (s_X10_filter_58 l0 a').2 Q mc ms) (K_X10_filter_58 X Q mc ms l0) r → gW X mX10_filter 58 (L_X10_filter_58 l0 a) [] (s_X10_filter_58 l0 a).1 (s_X10_filter_58 l0 a).2 Q mc ms := by
  intro a r hf hk
  obtain ⟨l1, S⟩ := a
  unfold F_X10_filter_58 at hf
  try dsimp only at hf
  change gW _ _ _ [some (.ref l0), some (.int l1), none] _ S.1 S.2 _ _ _
  refine r_iload_n (pc := 58) dX10_filter_58 rfl ?_
  refine r_aload_n (pc := 59) dX10_filter_59 rfl ?_
  obtain ⟨x13, e14, hf⟩ := obind hf
  refine q_getI (pc := 60) dX10_filter_60 gX10_193 e14 ?_
  refine r_icmp_ge (pc := 63) 156 dX10_filter_63 (by decide) (fun hc => ?_) (fun hc => ?_)
  · rw [if_pos hc] at hf
    cases hf
    exact gW.weak (by simp [gle]) hk
  · rw [if_neg hc] at hf
    refine r_aload_n (pc := 66) dX10_filter_66 rfl ?_
    obtain ⟨x15, e16, hf⟩ := obind hf
    refine q_getA (pc := 67) dX10_filter_67 gX10_57 e16 ?_
    refine r_iload_n (pc := 70) dX10_filter_70 rfl ?_
    refine r_aload_n (pc := 71) dX10_filter_71 rfl ?_
    obtain ⟨x17, e18, hf⟩ := obind hf
    refine q_getA (pc := 72) dX10_filter_72 gX10_73 e18 ?_
    refine r_iload_n (pc := 75) dX10_filter_75 rfl ?_
    obtain ⟨x19, e20, hf⟩ := obind hf
    refine q_iald (pc := 76) dX10_filter_76 e20 ?_
    obtain ⟨S21, e22, hf⟩ := obind hf
    refine q_iast (pc := 77) dX10_filter_77 e22 ?_
    refine r_aload_n (pc := 78) dX10_filter_78 rfl ?_
    obtain ⟨x23, e24, hf⟩ := obind hf
    refine q_getA (pc := 79) dX10_filter_79 gX10_60 e24 ?_
    refine r_iload_n (pc := 82) dX10_filter_82 rfl ?_
    refine r_aload_n (pc := 83) dX10_filter_83 rfl ?_
    obtain ⟨x25, e26, hf⟩ := obind hf
    refine q_getA (pc := 84) dX10_filter_84 gX10_76 e26 ?_
    refine r_iload_n (pc := 87) dX10_filter_87 rfl ?_
    obtain ⟨x27, e28, hf⟩ := obind hf
    refine q_iald (pc := 88) dX10_filter_88 e28 ?_
    obtain ⟨S29, e30, hf⟩ := obind hf
    refine q_iast (pc := 89) dX10_filter_89 e30 ?_
    refine r_aload_n (pc := 90) dX10_filter_90 rfl ?_
    obtain ⟨x31, e32, hf⟩ := obind hf
    refine q_getA (pc := 91) dX10_filter_91 gX10_63 e32 ?_
    refine r_iload_n (pc := 94) dX10_filter_94 rfl ?_
    refine r_aload_n (pc := 95) dX10_filter_95 rfl ?_
    obtain ⟨x33, e34, hf⟩ := obind hf
    refine q_getA (pc := 96) dX10_filter_96 gX10_79 e34 ?_
    refine r_iload_n (pc := 99) dX10_filter_99 rfl ?_
    obtain ⟨x35, e36, hf⟩ := obind hf
    refine q_iald (pc := 100) dX10_filter_100 e36 ?_
    obtain ⟨S37, e38, hf⟩ := obind hf
    refine q_iast (pc := 101) dX10_filter_101 e38 ?_
    refine r_aload_n (pc := 102) dX10_filter_102 rfl ?_
    obtain ⟨x39, e40, hf⟩ := obind hf
    refine q_getA (pc := 103) dX10_filter_103 gX10_69 e40 ?_
    refine r_iload_n (pc := 106) dX10_filter_106 rfl ?_
    refine r_aload_n (pc := 107) dX10_filter_107 rfl ?_
    obtain ⟨x41, e42, hf⟩ := obind hf
    refine q_getA (pc := 108) dX10_filter_108 gX10_85 e42 ?_
    refine r_iload_n (pc := 111) dX10_filter_111 rfl ?_
    obtain ⟨x43, e44, hf⟩ := obind hf
    refine q_zald (pc := 112) dX10_filter_112 e44 ?_
    obtain ⟨S45, e46, hf⟩ := obind hf
    refine q_zast (pc := 113) dX10_filter_113 e46 ?_
    refine r_iconst (pc := 114) (0 : Int32) dX10_filter_114 (by decide) ?_
    refine r_istore_n (pc := 115) dX10_filter_115 (by decide) ?_
    change gW _ _ _ [some (.ref l0), some (.int l1), some (.int (0 : Int32))] _ _ _ _ _ _
    obtain ⟨r55, e56, hf⟩ := obind hf
    refine gW.weak (ls' := [some (.ref l0), some (.int l1), some (.int (0 : Int32))]) (by simp [gle]) ?_
    refine g_iter (L := L_X10_filter_116 l0 l1) (s := s_X10_filter_116 l0 l1) (K := K_X10_filter_116 X Q _ _ l0 l1) (W_X10_filter_116 l0 l1) fu ((0 : Int32), S45) _ e56 ?_
    show gW _ _ 150 [some (.ref l0), some (.int l1), none] [] r55.1 r55.2 _ _ _
    refine r_iinc (pc := 150) dX10_filter_150 rfl (by decide) ?_
    change gW _ _ _ [some (.ref l0), some (.int (l1 + (1 : Int32))), none] _ _ _ _ _ _
    refine r_goto (pc := 153) 58 dX10_filter_153 (by decide) ?_
    cases hf
    exact gW.weak (by simp [gle]) hk
def F_X10_filter_53 (S : pS) (l0 : Nat) (t0 : Nat) (t1 : Int32) : Option (Int32 × pS) := (oPI S t0 10 30 t1).bind fun S11 => (iter (F_X10_filter_58 l0) fu ((0 : Int32), S11)).bind fun r57 => (F_X10_lines r57 l0).bind fun q59 => (oGI q59 l0 10 41).bind fun x61 => some (x61, q59)
set_option maxRecDepth 100000 in
set_option maxHeartbeats 4000000 in
theorem W_X10_filter_53 {X : pX} {Q : pO → Nat → pF → Prop} (S : pS) (l0 : Nat) (t0 : Nat) (t1 : Int32) (r : Int32 × pS) (hf : F_X10_filter_53 S l0 t0 t1 = some r) (hk : Q (.inl (some (.int r.1))) r.2.1 r.2.2) : gW X mX10_filter 53 [some (.ref l0), none, none] [.int t1, .ref t0] S.1 S.2 Q 0 0 := by
  unfold F_X10_filter_53 at hf
  obtain ⟨S11, e12, hf⟩ := obind hf
  refine q_putI (pc := 53) dX10_filter_53 pX10_193 rfl e12 ?_
  refine r_iconst (pc := 56) (0 : Int32) dX10_filter_56 (by decide) ?_
  refine r_istore_n (pc := 57) dX10_filter_57 (by decide) ?_
  change gW _ _ _ [some (.ref l0), some (.int (0 : Int32)), none] _ _ _ _ _ _
  obtain ⟨r57, e58, hf⟩ := obind hf
  refine gW.weak (ls' := [some (.ref l0), some (.int (0 : Int32)), none]) (by simp [gle]) ?_
  refine g_iter (L := L_X10_filter_58 l0) (s := s_X10_filter_58 l0) (K := K_X10_filter_58 X Q _ _ l0) (W_X10_filter_58 l0) fu ((0 : Int32), S11) _ e58 ?_
  show gW _ _ 156 [some (.ref l0), none, none] [] r57.1 r57.2 _ _ _
  refine r_aload_n (pc := 156) dX10_filter_156 rfl ?_
  obtain ⟨q59, e60, hf⟩ := obind hf
  refine q_callV (pc := 157) (v := none) (S' := q59) mX10_lines 10 [] dX10_filter_157 kX10_257 fX10_lines iX10_lines ⟨by decide, by decide⟩ rfl rfl rfl (Nat.le_of_ble_eq_true rfl) (og e60) (mc1 := 0) (ms1 := 0) (mc2 := 0) (ms2 := 0) (by decide) (by decide) (C_X10_lines r57 l0 q59 e60 (qR_mk _ _)) ?_
  refine r_aload_n (pc := 160) dX10_filter_160 rfl ?_
  obtain ⟨x61, e62, hf⟩ := obind hf
  refine q_getI (pc := 161) dX10_filter_161 gX10_260 e62 ?_
  refine r_ireturn (pc := 164) .int dX10_filter_164 rfl rfl ?_
  cases hf
  exact hk
def F_X10_filter_37 (S : pS) (l0 : Nat) : Option (Int32 × pS) := (oGI S l0 10 22).bind fun x7 => if ¬ x7 = 0 then ((oGI S l0 10 36).bind fun x9 => F_X10_filter_53 S l0 l0 x9) else (F_X10_filter_53 S l0 l0 (0 : Int32))
set_option maxRecDepth 100000 in
set_option maxHeartbeats 4000000 in
theorem W_X10_filter_37 {X : pX} {Q : pO → Nat → pF → Prop} (S : pS) (l0 : Nat) (r : Int32 × pS) (hf : F_X10_filter_37 S l0 = some r) (hk : Q (.inl (some (.int r.1))) r.2.1 r.2.2) : gW X mX10_filter 37 [some (.ref l0), none, none] [] S.1 S.2 Q 0 0 := by
  unfold F_X10_filter_37 at hf
  refine r_aload_n (pc := 37) dX10_filter_37 rfl ?_
  refine r_aload_n (pc := 38) dX10_filter_38 rfl ?_
  obtain ⟨x7, e8, hf⟩ := obind hf
  refine q_getI (pc := 39) dX10_filter_39 gX10_202 e8 ?_
  refine r_if_ne (pc := 42) 49 dX10_filter_42 (by decide) (fun hc => ?_) (fun hc => ?_)
  · rw [if_pos hc] at hf
    refine r_aload_n (pc := 49) dX10_filter_49 rfl ?_
    obtain ⟨x9, e10, hf⟩ := obind hf
    refine q_getI (pc := 50) dX10_filter_50 gX10_330 e10 ?_
    refine gW.mono (mc := 0) (ms := 0) ?_ (fun _ _ _ q => q) (by decide) (by decide)
    exact gW.weak (by simp [gle]) (W_X10_filter_53 S l0 l0 x9 r hf hk)
  · rw [if_neg hc] at hf
    refine r_iconst (pc := 45) (0 : Int32) dX10_filter_45 (by decide) ?_
    refine r_goto (pc := 46) 53 dX10_filter_46 (by decide) ?_
    refine gW.mono (mc := 0) (ms := 0) ?_ (fun _ _ _ q => q) (by decide) (by decide)
    exact gW.weak (by simp [gle]) (W_X10_filter_53 S l0 l0 (0 : Int32) r hf hk)
def F_X10_filter (S : pS) (a0 : Nat) : Option (Int32 × pS) := (oF S a0 10).bind fun _ => (oPI S a0 10 0 (0 : Int32)).bind fun S1 => (F_X10_begins S1 a0).bind fun q3 => (oGI q3 a0 10 22).bind fun x5 => if x5 ≤ 0 then (F_X10_filter_37 q3 a0) else ((F_X10_readsFilter q3 a0).bind fun q63 => if ¬ q63.1 = 0 then (F_X10_filter_37 q63.2 a0) else ((oGI q63.2 a0 10 21).bind fun x65 => (oPI q63.2 a0 10 11 x65).bind fun S67 => (F_X10_fails S67 a0 (1 : Int32)).bind fun q69 => some (q69.1, q69.2)))
set_option maxRecDepth 100000 in
set_option maxHeartbeats 4000000 in
theorem C_X10_filter {X : pX} {Q : pO → Nat → pF → Prop} (S : pS) (a0 : Nat) (r : Int32 × pS) (hf : F_X10_filter S a0 = some r) (hk : Q (.inl (some (.int r.1))) r.2.1 r.2.2) : gC X mX10_filter [.ref a0] S.1 S.2 Q 0 0 := by
  refine gC_of (by decide) (Nat.le_of_ble_eq_true rfl) ?_
  change gW _ _ _ [some (.ref a0), none, none] _ _ _ _ _ _
  unfold F_X10_filter at hf
  obtain ⟨_, _, hf⟩ := obind hf
  refine r_aload_n (pc := 0) dX10_filter_0 rfl ?_
  refine r_iconst (pc := 1) (0 : Int32) dX10_filter_1 (by decide) ?_
  obtain ⟨S1, e2, hf⟩ := obind hf
  refine q_putI (pc := 2) dX10_filter_2 pX10_139 rfl e2 ?_
  refine r_aload_n (pc := 5) dX10_filter_5 rfl ?_
  obtain ⟨q3, e4, hf⟩ := obind hf
  refine q_callV (pc := 6) (v := none) (S' := q3) mX10_begins 10 [] dX10_filter_6 kX10_212 fX10_begins iX10_begins ⟨by decide, by decide⟩ rfl rfl rfl (Nat.le_of_ble_eq_true rfl) (og e4) (mc1 := 0) (ms1 := 0) (mc2 := 0) (ms2 := 0) (by decide) (by decide) (C_X10_begins S1 a0 q3 e4 (qR_mk _ _)) ?_
  refine r_aload_n (pc := 9) dX10_filter_9 rfl ?_
  obtain ⟨x5, e6, hf⟩ := obind hf
  refine q_getI (pc := 10) dX10_filter_10 gX10_202 e6 ?_
  refine r_if_le (pc := 13) 37 dX10_filter_13 (by decide) (fun hc => ?_) (fun hc => ?_)
  · rw [if_pos hc] at hf
    refine gW.mono (mc := 0) (ms := 0) ?_ (fun _ _ _ q => q) (by decide) (by decide)
    exact gW.weak (by simp [gle]) (W_X10_filter_37 q3 a0 r hf hk)
  · rw [if_neg hc] at hf
    refine r_aload_n (pc := 16) dX10_filter_16 rfl ?_
    obtain ⟨q63, e64, hf⟩ := obind hf
    refine q_callV (pc := 17) (v := some (.int q63.1)) (S' := q63.2) mX10_readsFilter 10 [] dX10_filter_17 kX10_342 fX10_readsFilter iX10_readsFilter ⟨by decide, by decide⟩ rfl rfl rfl (Nat.le_of_ble_eq_true rfl) (og e64) (mc1 := 0) (ms1 := 0) (mc2 := 0) (ms2 := 0) (by decide) (by decide) (C_X10_readsFilter q3 a0 q63 e64 (qR_mk _ _)) ?_
    change gW _ _ _ _ (.int q63.1 :: _) _ _ _ _ _
    refine r_if_ne (pc := 20) 37 dX10_filter_20 (by decide) (fun hc => ?_) (fun hc => ?_)
    · rw [if_pos hc] at hf
      refine gW.mono (mc := 0) (ms := 0) ?_ (fun _ _ _ q => q) (by decide) (by decide)
      exact gW.weak (by simp [gle]) (W_X10_filter_37 q63.2 a0 r hf hk)
    · rw [if_neg hc] at hf
      refine r_aload_n (pc := 23) dX10_filter_23 rfl ?_
      refine r_aload_n (pc := 24) dX10_filter_24 rfl ?_
      obtain ⟨x65, e66, hf⟩ := obind hf
      refine q_getI (pc := 25) dX10_filter_25 gX10_199 e66 ?_
      obtain ⟨S67, e68, hf⟩ := obind hf
      refine q_putI (pc := 28) dX10_filter_28 pX10_28 rfl e68 ?_
      refine r_aload_n (pc := 31) dX10_filter_31 rfl ?_
      refine r_iconst (pc := 32) (1 : Int32) dX10_filter_32 (by decide) ?_
      obtain ⟨q69, e70, hf⟩ := obind hf
      refine q_callV (pc := 33) (v := some (.int q69.1)) (S' := q69.2) mX10_fails 10 [.int (1 : Int32)] dX10_filter_33 kX10_186 fX10_fails iX10_fails ⟨by decide, by decide⟩ rfl rfl rfl (Nat.le_of_ble_eq_true rfl) (og e70) (mc1 := 0) (ms1 := 0) (mc2 := 0) (ms2 := 0) (by decide) (by decide) (C_X10_fails S67 a0 (1 : Int32) q69 e70 (qR_mk _ _)) ?_
      change gW _ _ _ _ (.int q69.1 :: _) _ _ _ _ _
      refine r_ireturn (pc := 36) .int dX10_filter_36 rfl rfl ?_
      cases hf
      exact hk
