abbrev L_X6_measureDownwards_2 (l0 : Nat) (l1 : Nat) : Int32 × pS → List (Option Value) := fun a => [some (.ref l0), some (.ref l1), some (.int a.1), none, none, none]
abbrev s_X6_measureDownwards_2 (l0 : Nat) (l1 : Nat) : Int32 × pS → pS := fun a => a.2
abbrev K_X6_measureDownwards_2 (X : pX) (Q : pO → Nat → pF → Prop) (mc ms : Nat) (l0 : Nat) (l1 : Nat) : pS → Prop := (fun b => gW X mX6_measureDownwards 36 [some (.ref l0), some (.ref l1), none, none, none, none] [] b.1 b.2 Q mc ms)
def F_X6_measureDownwards_22 (l0 : Nat) (l1 : Nat) (S : pS) (l2 : Int32) (t0 : Nat) (t1 : Int32) (t2 : Int32) : Option ((Int32 × pS) ⊕ (pS)) := (oSI S t0 .int t1 t2).bind fun S3 => (oGA S3 l0 6 5).bind fun x5 => (oSI S3 x5 .int l2 (0 : Int32)).bind fun S7 => some (.inl (l2 + (1 : Int32), S7))
set_option maxRecDepth 100000 in
set_option maxHeartbeats 4000000 in
theorem W_X6_measureDownwards_22 {X : pX} {Q : pO → Nat → pF → Prop} {mc ms : Nat} (l0 : Nat) (l1 : Nat) (S : pS) (l2 : Int32) (t0 : Nat) (t1 : Int32) (t2 : Int32) (r : (Int32 × pS) ⊕ (pS)) (hf : F_X6_measureDownwards_22 l0 l1 S l2 t0 t1 t2 = some r) (hk : Sum.elim (fun a' => gW X mX6_measureDownwards 2 (L_X6_measureDownwards_2 l0 l1 a') [] (s_X6_measureDownwards_2 l0 l1 a').1 (s_X6_measureDownwards_2 l0 l1 a').2 Q mc ms) (K_X6_measureDownwards_2 X Q mc ms l0 l1) r) : gW X mX6_measureDownwards 22 [some (.ref l0), some (.ref l1), some (.int l2), none, none, none] [.int t2, .int t1, .ref t0] S.1 S.2 Q mc ms := by
  unfold F_X6_measureDownwards_22 at hf
  obtain ⟨S3, e4, hf⟩ := obind hf
  refine q_iast (pc := 22) dX6_measureDownwards_22 e4 ?_
  refine r_aload_n (pc := 23) dX6_measureDownwards_23 rfl ?_
  obtain ⟨x5, e6, hf⟩ := obind hf
  refine q_getA (pc := 24) dX6_measureDownwards_24 gX6_28 e6 ?_
  refine r_iload_n (pc := 27) dX6_measureDownwards_27 rfl ?_
  refine r_iconst (pc := 28) (0 : Int32) dX6_measureDownwards_28 (by decide) ?_
  obtain ⟨S7, e8, hf⟩ := obind hf
  refine q_iast (pc := 29) dX6_measureDownwards_29 e8 ?_
  refine r_iinc (pc := 30) dX6_measureDownwards_30 rfl (by decide) ?_
  change gW _ _ _ [some (.ref l0), some (.ref l1), some (.int (l2 + (1 : Int32))), none, none, none] _ _ _ _ _ _
  refine r_goto (pc := 33) 2 dX6_measureDownwards_33 (by decide) ?_
  cases hf
  exact gW.weak (by simp [gle]) hk
def F_X6_measureDownwards_2 (l0 : Nat) (l1 : Nat) : Int32 × pS → Option ((Int32 × pS) ⊕ (pS)) := fun a => if (61 : Int32) ≤ a.1 then (some (.inr a.2)) else ((oGA a.2 l0 6 4).bind fun x1 => if ¬ a.1 = 0 then (F_X6_measureDownwards_22 l0 l1 a.2 a.1 x1 a.1 (0 : Int32)) else (F_X6_measureDownwards_22 l0 l1 a.2 a.1 x1 a.1 (1 : Int32)))
set_option maxRecDepth 100000 in
set_option maxHeartbeats 4000000 in
theorem W_X6_measureDownwards_2 {X : pX} {Q : pO → Nat → pF → Prop} {mc ms : Nat} (l0 : Nat) (l1 : Nat) : ∀ (a : Int32 × pS) (r : (Int32 × pS) ⊕ (pS)), F_X6_measureDownwards_2 l0 l1 a = some r → Sum.elim (fun a' => gW X mX6_measureDownwards 2 (L_X6_measureDownwards_2 l0 l1 a') [] (s_X6_measureDownwards_2 l0 l1 a').1 (s_X6_measureDownwards_2 l0 l1 a').2 Q mc ms) (K_X6_measureDownwards_2 X Q mc ms l0 l1) r → gW X mX6_measureDownwards 2 (L_X6_measureDownwards_2 l0 l1 a) [] (s_X6_measureDownwards_2 l0 l1 a).1 (s_X6_measureDownwards_2 l0 l1 a).2 Q mc ms := by
  intro a r hf hk
  obtain ⟨l2, S⟩ := a
  unfold F_X6_measureDownwards_2 at hf
  try dsimp only at hf
  change gW _ _ _ [some (.ref l0), some (.ref l1), some (.int l2), none, none, none] _ S.1 S.2 _ _ _
  refine r_iload_n (pc := 2) dX6_measureDownwards_2 rfl ?_
  refine r_bipush (pc := 3) (61 : Int32) dX6_measureDownwards_3 (by decide) ?_
  refine r_icmp_ge (pc := 5) 36 dX6_measureDownwards_5 (by decide) (fun hc => ?_) (fun hc => ?_)
  · rw [if_pos hc] at hf
    cases hf
    exact gW.weak (by simp [gle]) hk
  · rw [if_neg hc] at hf
    refine r_aload_n (pc := 8) dX6_measureDownwards_8 rfl ?_
    obtain ⟨x1, e2, hf⟩ := obind hf
    refine q_getA (pc := 9) dX6_measureDownwards_9 gX6_25 e2 ?_
    refine r_iload_n (pc := 12) dX6_measureDownwards_12 rfl ?_
    refine r_iload_n (pc := 13) dX6_measureDownwards_13 rfl ?_
    refine r_if_ne (pc := 14) 21 dX6_measureDownwards_14 (by decide) (fun hc => ?_) (fun hc => ?_)
    · rw [if_pos hc] at hf
      refine r_iconst (pc := 21) (0 : Int32) dX6_measureDownwards_21 (by decide) ?_
      exact gW.weak (by simp [gle]) (W_X6_measureDownwards_22 l0 l1 S l2 x1 l2 (0 : Int32) r hf hk)
    · rw [if_neg hc] at hf
      refine r_iconst (pc := 17) (1 : Int32) dX6_measureDownwards_17 (by decide) ?_
      refine r_goto (pc := 18) 22 dX6_measureDownwards_18 (by decide) ?_
      exact gW.weak (by simp [gle]) (W_X6_measureDownwards_22 l0 l1 S l2 x1 l2 (1 : Int32) r hf hk)
abbrev L_X6_measureDownwards_38 (l0 : Nat) (l1 : Nat) : Int32 × pS → List (Option Value) := fun a => [some (.ref l0), some (.ref l1), some (.int a.1), none, none, none]
abbrev s_X6_measureDownwards_38 (l0 : Nat) (l1 : Nat) : Int32 × pS → pS := fun a => a.2
abbrev K_X6_measureDownwards_38 (X : pX) (Q : pO → Nat → pF → Prop) (mc ms : Nat) (l0 : Nat) (l1 : Nat) : pS → Prop := (fun b => gW X mX6_measureDownwards 128 [some (.ref l0), some (.ref l1), none, none, none, none] [] b.1 b.2 Q mc ms)
abbrev L_X6_measureDownwards_56 (l0 : Nat) (l1 : Nat) (l2 : Int32) (l3 : Int32) : Int32 × pS → List (Option Value) := fun a => [some (.ref l0), some (.ref l1), some (.int l2), some (.int l3), some (.int a.1), none]
abbrev s_X6_measureDownwards_56 (l0 : Nat) (l1 : Nat) (l2 : Int32) (l3 : Int32) : Int32 × pS → pS := fun a => a.2
abbrev K_X6_measureDownwards_56 (X : pX) (Q : pO → Nat → pF → Prop) (mc ms : Nat) (l0 : Nat) (l1 : Nat) (l2 : Int32) (l3 : Int32) : pS → Prop := (fun b => gW X mX6_measureDownwards 122 [some (.ref l0), some (.ref l1), some (.int l2), some (.int l3), none, none] [] b.1 b.2 Q mc ms)
def F_X6_measureDownwards_56 (l0 : Nat) (l1 : Nat) (l2 : Int32) (l3 : Int32) : Int32 × pS → Option ((Int32 × pS) ⊕ (pS)) := fun a => (F_X8_childCount a.2 l1 l3).bind fun q17 => if q17 ≤ a.1 then (some (.inr a.2)) else ((F_X8_childAt a.2 l1 l3 a.1).bind fun q19 => (oGA a.2 l0 6 4).bind fun x21 => (oAI a.2 x21 .int q19).bind fun x23 => (oGA a.2 l0 6 4).bind fun x25 => (oAI a.2 x25 .int l3).bind fun x27 => (oSI a.2 x21 .int q19 (x23 + x27)).bind fun S29 => (oGA S29 l0 6 5).bind fun x31 => (oGA S29 l0 6 5).bind fun x33 => (oAI S29 x33 .int q19).bind fun x35 => (oGA S29 l0 6 5).bind fun x37 => (oAI S29 x37 .int l3).bind fun x39 => (oSI S29 x31 .int q19 (if x35 < (x39 + (1 : Int32)) then (x39 + (1 : Int32)) else x35)).bind fun S41 => some (.inl (a.1 + (1 : Int32), S41)))
set_option maxRecDepth 100000 in
set_option maxHeartbeats 4000000 in
theorem W_X6_measureDownwards_56 {X : pX} {Q : pO → Nat → pF → Prop} {mc ms : Nat} (l0 : Nat) (l1 : Nat) (l2 : Int32) (l3 : Int32) : ∀ (a : Int32 × pS) (r : (Int32 × pS) ⊕ (pS)), F_X6_measureDownwards_56 l0 l1 l2 l3 a = some r → Sum.elim (fun a' => gW X mX6_measureDownwards 56 (L_X6_measureDownwards_56 l0 l1 l2 l3 a') [] (s_X6_measureDownwards_56 l0 l1 l2 l3 a').1 (s_X6_measureDownwards_56 l0 l1 l2 l3 a').2 Q mc ms) (K_X6_measureDownwards_56 X Q mc ms l0 l1 l2 l3) r → gW X mX6_measureDownwards 56 (L_X6_measureDownwards_56 l0 l1 l2 l3 a) [] (s_X6_measureDownwards_56 l0 l1 l2 l3 a).1 (s_X6_measureDownwards_56 l0 l1 l2 l3 a).2 Q mc ms := by
  intro a r hf hk
  obtain ⟨l4, S⟩ := a
  unfold F_X6_measureDownwards_56 at hf
  try dsimp only at hf
  change gW _ _ _ [some (.ref l0), some (.ref l1), some (.int l2), some (.int l3), some (.int l4), none] _ S.1 S.2 _ _ _
  refine r_iload (pc := 56) dX6_measureDownwards_56 rfl ?_
  refine r_aload_n (pc := 58) dX6_measureDownwards_58 rfl ?_
  refine r_iload_n (pc := 59) dX6_measureDownwards_59 rfl ?_
  obtain ⟨q17, e18, hf⟩ := obind hf
  refine q_callV (pc := 60) (v := some (.int q17)) (S' := S) mX8_childCount 8 [.int l3] dX6_measureDownwards_60 kX6_57 fX8_childCount iX8_childCount ⟨by decide, by decide⟩ rfl rfl rfl (Nat.le_of_ble_eq_true rfl) (og e18) (mc1 := 0) (ms1 := 0) (mc2 := mc) (ms2 := ms) (by omega) (by omega) (C_X8_childCount S l1 l3 q17 e18 (qR_mk _ _)) ?_
  change gW _ _ _ _ (.int q17 :: _) _ _ _ _ _
  refine r_icmp_ge (pc := 63) 122 dX6_measureDownwards_63 (by decide) (fun hc => ?_) (fun hc => ?_)
  · rw [if_pos hc] at hf
    cases hf
    exact gW.weak (by simp [gle]) hk
  · rw [if_neg hc] at hf
    refine r_aload_n (pc := 66) dX6_measureDownwards_66 rfl ?_
    refine r_iload_n (pc := 67) dX6_measureDownwards_67 rfl ?_
    refine r_iload (pc := 68) dX6_measureDownwards_68 rfl ?_
    obtain ⟨q19, e20, hf⟩ := obind hf
    refine q_callV (pc := 70) (v := some (.int q19)) (S' := S) mX8_childAt 8 [.int l3, .int l4] dX6_measureDownwards_70 kX6_61 fX8_childAt iX8_childAt ⟨by decide, by decide⟩ rfl rfl rfl (Nat.le_of_ble_eq_true rfl) (og e20) (mc1 := 0) (ms1 := 0) (mc2 := mc) (ms2 := ms) (by omega) (by omega) (C_X8_childAt S l1 l3 l4 q19 e20 (qR_mk _ _)) ?_
    change gW _ _ _ _ (.int q19 :: _) _ _ _ _ _
    refine r_istore (pc := 73) dX6_measureDownwards_73 (by decide) ?_
    change gW _ _ _ [some (.ref l0), some (.ref l1), some (.int l2), some (.int l3), some (.int l4), some (.int q19)] _ _ _ _ _ _
    refine r_aload_n (pc := 75) dX6_measureDownwards_75 rfl ?_
    obtain ⟨x21, e22, hf⟩ := obind hf
    refine q_getA (pc := 76) dX6_measureDownwards_76 gX6_25 e22 ?_
    refine r_iload (pc := 79) dX6_measureDownwards_79 rfl ?_
    refine r_dup2 (pc := 81) dX6_measureDownwards_81 rfl rfl ?_
    obtain ⟨x23, e24, hf⟩ := obind hf
    refine q_iald (pc := 82) dX6_measureDownwards_82 e24 ?_
    refine r_aload_n (pc := 83) dX6_measureDownwards_83 rfl ?_
    obtain ⟨x25, e26, hf⟩ := obind hf
    refine q_getA (pc := 84) dX6_measureDownwards_84 gX6_25 e26 ?_
    refine r_iload_n (pc := 87) dX6_measureDownwards_87 rfl ?_
    obtain ⟨x27, e28, hf⟩ := obind hf
    refine q_iald (pc := 88) dX6_measureDownwards_88 e28 ?_
    refine r_iadd (pc := 89) dX6_measureDownwards_89 ?_
    obtain ⟨S29, e30, hf⟩ := obind hf
    refine q_iast (pc := 90) dX6_measureDownwards_90 e30 ?_
    refine r_aload_n (pc := 91) dX6_measureDownwards_91 rfl ?_
    obtain ⟨x31, e32, hf⟩ := obind hf
    refine q_getA (pc := 92) dX6_measureDownwards_92 gX6_28 e32 ?_
    refine r_iload (pc := 95) dX6_measureDownwards_95 rfl ?_
    refine r_aload_n (pc := 97) dX6_measureDownwards_97 rfl ?_
    obtain ⟨x33, e34, hf⟩ := obind hf
    refine q_getA (pc := 98) dX6_measureDownwards_98 gX6_28 e34 ?_
    refine r_iload (pc := 101) dX6_measureDownwards_101 rfl ?_
    obtain ⟨x35, e36, hf⟩ := obind hf
    refine q_iald (pc := 103) dX6_measureDownwards_103 e36 ?_
    refine r_aload_n (pc := 104) dX6_measureDownwards_104 rfl ?_
    obtain ⟨x37, e38, hf⟩ := obind hf
    refine q_getA (pc := 105) dX6_measureDownwards_105 gX6_28 e38 ?_
    refine r_iload_n (pc := 108) dX6_measureDownwards_108 rfl ?_
    obtain ⟨x39, e40, hf⟩ := obind hf
    refine q_iald (pc := 109) dX6_measureDownwards_109 e40 ?_
    refine r_iconst (pc := 110) (1 : Int32) dX6_measureDownwards_110 (by decide) ?_
    refine r_iadd (pc := 111) dX6_measureDownwards_111 ?_
    refine r_max (pc := 112) dX6_measureDownwards_112 kX6_69 k_max.1 k_max.2.1 k_max.2.2 ⟨by decide, Nat.le_of_ble_eq_true rfl⟩ ?_
    obtain ⟨S41, e42, hf⟩ := obind hf
    refine q_iast (pc := 115) dX6_measureDownwards_115 e42 ?_
    refine r_iinc (pc := 116) dX6_measureDownwards_116 rfl (by decide) ?_
    change gW _ _ _ [some (.ref l0), some (.ref l1), some (.int l2), some (.int l3), some (.int (l4 + (1 : Int32))), some (.int q19)] _ _ _ _ _ _
    refine r_goto (pc := 119) 56 dX6_measureDownwards_119 (by decide) ?_
    cases hf
    exact gW.weak (by simp [gle]) hk
def F_X6_measureDownwards_38 (l0 : Nat) (l1 : Nat) : Int32 × pS → Option ((Int32 × pS) ⊕ (pS)) := fun a => (oGI a.2 l0 6 3).bind fun x11 => if x11 ≤ a.1 then (some (.inr a.2)) else ((oGA a.2 l0 6 2).bind fun x13 => (oAI a.2 x13 .int a.1).bind fun x15 => (iter (F_X6_measureDownwards_56 l0 l1 a.1 x15) fu ((0 : Int32), a.2)).bind fun r43 => some (.inl (a.1 + (1 : Int32), r43)))
set_option maxRecDepth 100000 in
set_option maxHeartbeats 4000000 in
theorem W_X6_measureDownwards_38 {X : pX} {Q : pO → Nat → pF → Prop} {mc ms : Nat} (l0 : Nat) (l1 : Nat) : ∀ (a : Int32 × pS) (r : (Int32 × pS) ⊕ (pS)), F_X6_measureDownwards_38 l0 l1 a = some r → Sum.elim (fun a' => gW X mX6_measureDownwards 38 (L_X6_measureDownwards_38 l0 l1 a') [] (s_X6_measureDownwards_38 l0 l1 a').1 (s_X6_measureDownwards_38 l0 l1 a').2 Q mc ms) (K_X6_measureDownwards_38 X Q mc ms l0 l1) r → gW X mX6_measureDownwards 38 (L_X6_measureDownwards_38 l0 l1 a) [] (s_X6_measureDownwards_38 l0 l1 a).1 (s_X6_measureDownwards_38 l0 l1 a).2 Q mc ms := by
  intro a r hf hk
  obtain ⟨l2, S⟩ := a
  unfold F_X6_measureDownwards_38 at hf
  try dsimp only at hf
  change gW _ _ _ [some (.ref l0), some (.ref l1), some (.int l2), none, none, none] _ S.1 S.2 _ _ _
  refine r_iload_n (pc := 38) dX6_measureDownwards_38 rfl ?_
  refine r_aload_n (pc := 39) dX6_measureDownwards_39 rfl ?_
  obtain ⟨x11, e12, hf⟩ := obind hf
  refine q_getI (pc := 40) dX6_measureDownwards_40 gX6_21 e12 ?_
  refine r_icmp_ge (pc := 43) 128 dX6_measureDownwards_43 (by decide) (fun hc => ?_) (fun hc => ?_)
  · rw [if_pos hc] at hf
    cases hf
    exact gW.weak (by simp [gle]) hk
  · rw [if_neg hc] at hf
    refine r_aload_n (pc := 46) dX6_measureDownwards_46 rfl ?_
    obtain ⟨x13, e14, hf⟩ := obind hf
    refine q_getA (pc := 47) dX6_measureDownwards_47 gX6_18 e14 ?_
    refine r_iload_n (pc := 50) dX6_measureDownwards_50 rfl ?_
    obtain ⟨x15, e16, hf⟩ := obind hf
    refine q_iald (pc := 51) dX6_measureDownwards_51 e16 ?_
    refine r_istore_n (pc := 52) dX6_measureDownwards_52 (by decide) ?_
    change gW _ _ _ [some (.ref l0), some (.ref l1), some (.int l2), some (.int x15), none, none] _ _ _ _ _ _
    refine r_iconst (pc := 53) (0 : Int32) dX6_measureDownwards_53 (by decide) ?_
    refine r_istore (pc := 54) dX6_measureDownwards_54 (by decide) ?_
    change gW _ _ _ [some (.ref l0), some (.ref l1), some (.int l2), some (.int x15), some (.int (0 : Int32)), none] _ _ _ _ _ _
    obtain ⟨r43, e44, hf⟩ := obind hf
    refine gW.weak (ls' := [some (.ref l0), some (.ref l1), some (.int l2), some (.int x15), some (.int (0 : Int32)), none]) (by simp [gle]) ?_
    refine g_iter (L := L_X6_measureDownwards_56 l0 l1 l2 x15) (s := s_X6_measureDownwards_56 l0 l1 l2 x15) (K := K_X6_measureDownwards_56 X Q _ _ l0 l1 l2 x15) (W_X6_measureDownwards_56 l0 l1 l2 x15) fu ((0 : Int32), S) _ e44 ?_
    show gW _ _ 122 [some (.ref l0), some (.ref l1), some (.int l2), some (.int x15), none, none] [] r43.1 r43.2 _ _ _
    refine r_iinc (pc := 122) dX6_measureDownwards_122 rfl (by decide) ?_
    change gW _ _ _ [some (.ref l0), some (.ref l1), some (.int (l2 + (1 : Int32))), some (.int x15), none, none] _ _ _ _ _ _
    refine r_goto (pc := 125) 38 dX6_measureDownwards_125 (by decide) ?_
    cases hf
    exact gW.weak (by simp [gle]) hk
def F_X6_measureDownwards (S : pS) (a0 : Nat) (a1 : Nat) : Option (pS) := (oF S a0 6).bind fun _ => (iter (F_X6_measureDownwards_2 a0 a1) fu ((0 : Int32), S)).bind fun r9 => (iter (F_X6_measureDownwards_38 a0 a1) fu ((0 : Int32), r9)).bind fun r45 => some r45
set_option maxRecDepth 100000 in
set_option maxHeartbeats 4000000 in
theorem C_X6_measureDownwards {X : pX} {Q : pO → Nat → pF → Prop} (S : pS) (a0 : Nat) (a1 : Nat) (r : pS) (hf : F_X6_measureDownwards S a0 a1 = some r) (hk : Q (.inl none) r.1 r.2) : gC X mX6_measureDownwards [.ref a0, .ref a1] S.1 S.2 Q 0 0 := by
  refine gC_of (by decide) (Nat.le_of_ble_eq_true rfl) ?_
  change gW _ _ _ [some (.ref a0), some (.ref a1), none, none, none, none] _ _ _ _ _ _
  unfold F_X6_measureDownwards at hf
  obtain ⟨_, _, hf⟩ := obind hf
  refine r_iconst (pc := 0) (0 : Int32) dX6_measureDownwards_0 (by decide) ?_
  refine r_istore_n (pc := 1) dX6_measureDownwards_1 (by decide) ?_
  change gW _ _ _ [some (.ref a0), some (.ref a1), some (.int (0 : Int32)), none, none, none] _ _ _ _ _ _
  obtain ⟨r9, e10, hf⟩ := obind hf
  refine gW.weak (ls' := [some (.ref a0), some (.ref a1), some (.int (0 : Int32)), none, none, none]) (by simp [gle]) ?_
  refine g_iter (L := L_X6_measureDownwards_2 a0 a1) (s := s_X6_measureDownwards_2 a0 a1) (K := K_X6_measureDownwards_2 X Q _ _ a0 a1) (W_X6_measureDownwards_2 a0 a1) fu ((0 : Int32), S) _ e10 ?_
  show gW _ _ 36 [some (.ref a0), some (.ref a1), none, none, none, none] [] r9.1 r9.2 _ _ _
  refine r_iconst (pc := 36) (0 : Int32) dX6_measureDownwards_36 (by decide) ?_
  refine r_istore_n (pc := 37) dX6_measureDownwards_37 (by decide) ?_
  change gW _ _ _ [some (.ref a0), some (.ref a1), some (.int (0 : Int32)), none, none, none] _ _ _ _ _ _
  obtain ⟨r45, e46, hf⟩ := obind hf
  refine gW.weak (ls' := [some (.ref a0), some (.ref a1), some (.int (0 : Int32)), none, none, none]) (by simp [gle]) ?_
  refine g_iter (L := L_X6_measureDownwards_38 a0 a1) (s := s_X6_measureDownwards_38 a0 a1) (K := K_X6_measureDownwards_38 X Q _ _ a0 a1) (W_X6_measureDownwards_38 a0 a1) fu ((0 : Int32), r9) _ e46 ?_
  show gW _ _ 128 [some (.ref a0), some (.ref a1), none, none, none, none] [] r45.1 r45.2 _ _ _
  refine r_return (pc := 128) dX6_measureDownwards_128 rfl ?_
  cases hf
  exact hk
abbrev L_X6_measureUpwards_7 (l0 : Nat) (l1 : Nat) : Int32 × pS → List (Option Value) := fun a => [some (.ref l0), some (.ref l1), some (.int a.1), none, none, none]
abbrev s_X6_measureUpwards_7 (l0 : Nat) (l1 : Nat) : Int32 × pS → pS := fun a => a.2
abbrev K_X6_measureUpwards_7 (X : pX) (Q : pO → Nat → pF → Prop) (mc ms : Nat) (l0 : Nat) (l1 : Nat) : pS → Prop := (fun b => gW X mX6_measureUpwards 102 [some (.ref l0), some (.ref l1), none, none, none, none] [] b.1 b.2 Q mc ms)
abbrev L_X6_measureUpwards_37 (l0 : Nat) (l1 : Nat) (l2 : Int32) (l3 : Int32) : Int32 × pS → List (Option Value) := fun a => [some (.ref l0), some (.ref l1), some (.int l2), some (.int l3), some (.int a.1), none]
abbrev s_X6_measureUpwards_37 (l0 : Nat) (l1 : Nat) (l2 : Int32) (l3 : Int32) : Int32 × pS → pS := fun a => a.2
abbrev K_X6_measureUpwards_37 (X : pX) (Q : pO → Nat → pF → Prop) (mc ms : Nat) (l0 : Nat) (l1 : Nat) (l2 : Int32) (l3 : Int32) : pS → Prop := (fun b => gW X mX6_measureUpwards 96 [some (.ref l0), some (.ref l1), some (.int l2), some (.int l3), none, none] [] b.1 b.2 Q mc ms)
def F_X6_measureUpwards_37 (l0 : Nat) (l1 : Nat) (l2 : Int32) (l3 : Int32) : Int32 × pS → Option ((Int32 × pS) ⊕ (pS)) := fun a => (F_X8_childCount a.2 l1 l3).bind fun q15 => if q15 ≤ a.1 then (some (.inr a.2)) else ((F_X8_childAt a.2 l1 l3 a.1).bind fun q17 => (oGA a.2 l0 6 6).bind fun x19 => (oAI a.2 x19 .int l3).bind fun x21 => (oGA a.2 l0 6 6).bind fun x23 => (oAI a.2 x23 .int q17).bind fun x25 => (oSI a.2 x19 .int l3 (x21 + ((1 : Int32) + x25))).bind fun S27 => (oGA S27 l0 6 7).bind fun x29 => (oAJ S27 x29 .long l3).bind fun x31 => (oGA S27 l0 6 7).bind fun x33 => (oAJ S27 x33 .long q17).bind fun x35 => (oSJ S27 x29 .long l3 (x31 ||| x35)).bind fun S37 => some (.inl (a.1 + (1 : Int32), S37)))
set_option maxRecDepth 100000 in
set_option maxHeartbeats 4000000 in
theorem W_X6_measureUpwards_37 {X : pX} {Q : pO → Nat → pF → Prop} {mc ms : Nat} (l0 : Nat) (l1 : Nat) (l2 : Int32) (l3 : Int32) : ∀ (a : Int32 × pS) (r : (Int32 × pS) ⊕ (pS)), F_X6_measureUpwards_37 l0 l1 l2 l3 a = some r → Sum.elim (fun a' => gW X mX6_measureUpwards 37 (L_X6_measureUpwards_37 l0 l1 l2 l3 a') [] (s_X6_measureUpwards_37 l0 l1 l2 l3 a').1 (s_X6_measureUpwards_37 l0 l1 l2 l3 a').2 Q mc ms) (K_X6_measureUpwards_37 X Q mc ms l0 l1 l2 l3) r → gW X mX6_measureUpwards 37 (L_X6_measureUpwards_37 l0 l1 l2 l3 a) [] (s_X6_measureUpwards_37 l0 l1 l2 l3 a).1 (s_X6_measureUpwards_37 l0 l1 l2 l3 a).2 Q mc ms := by
  intro a r hf hk
  obtain ⟨l4, S⟩ := a
  unfold F_X6_measureUpwards_37 at hf
  try dsimp only at hf
  change gW _ _ _ [some (.ref l0), some (.ref l1), some (.int l2), some (.int l3), some (.int l4), none] _ S.1 S.2 _ _ _
  refine r_iload (pc := 37) dX6_measureUpwards_37 rfl ?_
  refine r_aload_n (pc := 39) dX6_measureUpwards_39 rfl ?_
  refine r_iload_n (pc := 40) dX6_measureUpwards_40 rfl ?_
  obtain ⟨q15, e16, hf⟩ := obind hf
  refine q_callV (pc := 41) (v := some (.int q15)) (S' := S) mX8_childCount 8 [.int l3] dX6_measureUpwards_41 kX6_57 fX8_childCount iX8_childCount ⟨by decide, by decide⟩ rfl rfl rfl (Nat.le_of_ble_eq_true rfl) (og e16) (mc1 := 0) (ms1 := 0) (mc2 := mc) (ms2 := ms) (by omega) (by omega) (C_X8_childCount S l1 l3 q15 e16 (qR_mk _ _)) ?_
  change gW _ _ _ _ (.int q15 :: _) _ _ _ _ _
  refine r_icmp_ge (pc := 44) 96 dX6_measureUpwards_44 (by decide) (fun hc => ?_) (fun hc => ?_)
  · rw [if_pos hc] at hf
    cases hf
    exact gW.weak (by simp [gle]) hk
  · rw [if_neg hc] at hf
    refine r_aload_n (pc := 47) dX6_measureUpwards_47 rfl ?_
    refine r_iload_n (pc := 48) dX6_measureUpwards_48 rfl ?_
    refine r_iload (pc := 49) dX6_measureUpwards_49 rfl ?_
    obtain ⟨q17, e18, hf⟩ := obind hf
    refine q_callV (pc := 51) (v := some (.int q17)) (S' := S) mX8_childAt 8 [.int l3, .int l4] dX6_measureUpwards_51 kX6_61 fX8_childAt iX8_childAt ⟨by decide, by decide⟩ rfl rfl rfl (Nat.le_of_ble_eq_true rfl) (og e18) (mc1 := 0) (ms1 := 0) (mc2 := mc) (ms2 := ms) (by omega) (by omega) (C_X8_childAt S l1 l3 l4 q17 e18 (qR_mk _ _)) ?_
    change gW _ _ _ _ (.int q17 :: _) _ _ _ _ _
    refine r_istore (pc := 54) dX6_measureUpwards_54 (by decide) ?_
    change gW _ _ _ [some (.ref l0), some (.ref l1), some (.int l2), some (.int l3), some (.int l4), some (.int q17)] _ _ _ _ _ _
    refine r_aload_n (pc := 56) dX6_measureUpwards_56 rfl ?_
    obtain ⟨x19, e20, hf⟩ := obind hf
    refine q_getA (pc := 57) dX6_measureUpwards_57 gX6_31 e20 ?_
    refine r_iload_n (pc := 60) dX6_measureUpwards_60 rfl ?_
    refine r_dup2 (pc := 61) dX6_measureUpwards_61 rfl rfl ?_
    obtain ⟨x21, e22, hf⟩ := obind hf
    refine q_iald (pc := 62) dX6_measureUpwards_62 e22 ?_
    refine r_iconst (pc := 63) (1 : Int32) dX6_measureUpwards_63 (by decide) ?_
    refine r_aload_n (pc := 64) dX6_measureUpwards_64 rfl ?_
    obtain ⟨x23, e24, hf⟩ := obind hf
    refine q_getA (pc := 65) dX6_measureUpwards_65 gX6_31 e24 ?_
    refine r_iload (pc := 68) dX6_measureUpwards_68 rfl ?_
    obtain ⟨x25, e26, hf⟩ := obind hf
    refine q_iald (pc := 70) dX6_measureUpwards_70 e26 ?_
    refine r_iadd (pc := 71) dX6_measureUpwards_71 ?_
    refine r_iadd (pc := 72) dX6_measureUpwards_72 ?_
    obtain ⟨S27, e28, hf⟩ := obind hf
    refine q_iast (pc := 73) dX6_measureUpwards_73 e28 ?_
    refine r_aload_n (pc := 74) dX6_measureUpwards_74 rfl ?_
    obtain ⟨x29, e30, hf⟩ := obind hf
    refine q_getA (pc := 75) dX6_measureUpwards_75 gX6_34 e30 ?_
    refine r_iload_n (pc := 78) dX6_measureUpwards_78 rfl ?_
    refine r_dup2 (pc := 79) dX6_measureUpwards_79 rfl rfl ?_
    obtain ⟨x31, e32, hf⟩ := obind hf
    refine q_lald (pc := 80) dX6_measureUpwards_80 e32 ?_
    refine r_aload_n (pc := 81) dX6_measureUpwards_81 rfl ?_
    obtain ⟨x33, e34, hf⟩ := obind hf
    refine q_getA (pc := 82) dX6_measureUpwards_82 gX6_34 e34 ?_
    refine r_iload (pc := 85) dX6_measureUpwards_85 rfl ?_
    obtain ⟨x35, e36, hf⟩ := obind hf
    refine q_lald (pc := 87) dX6_measureUpwards_87 e36 ?_
    refine r_lor (pc := 88) dX6_measureUpwards_88 ?_
    obtain ⟨S37, e38, hf⟩ := obind hf
    refine q_last (pc := 89) dX6_measureUpwards_89 e38 ?_
    refine r_iinc (pc := 90) dX6_measureUpwards_90 rfl (by decide) ?_
    change gW _ _ _ [some (.ref l0), some (.ref l1), some (.int l2), some (.int l3), some (.int (l4 + (1 : Int32))), some (.int q17)] _ _ _ _ _ _
    refine r_goto (pc := 93) 37 dX6_measureUpwards_93 (by decide) ?_
    cases hf
    exact gW.weak (by simp [gle]) hk
def F_X6_measureUpwards_7 (l0 : Nat) (l1 : Nat) : Int32 × pS → Option ((Int32 × pS) ⊕ (pS)) := fun a => if a.1 < 0 then (some (.inr a.2)) else ((oGA a.2 l0 6 2).bind fun x3 => (oAI a.2 x3 .int a.1).bind fun x5 => (oGA a.2 l0 6 6).bind fun x7 => (oSI a.2 x7 .int x5 (0 : Int32)).bind fun S9 => (oGA S9 l0 6 7).bind fun x11 => (oSJ S9 x11 .long x5 ((1 : Int64) <<< (x5.toInt64 &&& 63))).bind fun S13 => (iter (F_X6_measureUpwards_37 l0 l1 a.1 x5) fu ((0 : Int32), S13)).bind fun r39 => some (.inl (a.1 + (-1 : Int32), r39)))
set_option maxRecDepth 100000 in
set_option maxHeartbeats 4000000 in
theorem W_X6_measureUpwards_7 {X : pX} {Q : pO → Nat → pF → Prop} {mc ms : Nat} (l0 : Nat) (l1 : Nat) : ∀ (a : Int32 × pS) (r : (Int32 × pS) ⊕ (pS)), F_X6_measureUpwards_7 l0 l1 a = some r → Sum.elim (fun a' => gW X mX6_measureUpwards 7 (L_X6_measureUpwards_7 l0 l1 a') [] (s_X6_measureUpwards_7 l0 l1 a').1 (s_X6_measureUpwards_7 l0 l1 a').2 Q mc ms) (K_X6_measureUpwards_7 X Q mc ms l0 l1) r → gW X mX6_measureUpwards 7 (L_X6_measureUpwards_7 l0 l1 a) [] (s_X6_measureUpwards_7 l0 l1 a).1 (s_X6_measureUpwards_7 l0 l1 a).2 Q mc ms := by
  intro a r hf hk
  obtain ⟨l2, S⟩ := a
  unfold F_X6_measureUpwards_7 at hf
  try dsimp only at hf
  change gW _ _ _ [some (.ref l0), some (.ref l1), some (.int l2), none, none, none] _ S.1 S.2 _ _ _
  refine r_iload_n (pc := 7) dX6_measureUpwards_7 rfl ?_
  refine r_if_lt (pc := 8) 102 dX6_measureUpwards_8 (by decide) (fun hc => ?_) (fun hc => ?_)
  · rw [if_pos hc] at hf
    cases hf
    exact gW.weak (by simp [gle]) hk
  · rw [if_neg hc] at hf
    refine r_aload_n (pc := 11) dX6_measureUpwards_11 rfl ?_
    obtain ⟨x3, e4, hf⟩ := obind hf
    refine q_getA (pc := 12) dX6_measureUpwards_12 gX6_18 e4 ?_
    refine r_iload_n (pc := 15) dX6_measureUpwards_15 rfl ?_
    obtain ⟨x5, e6, hf⟩ := obind hf
    refine q_iald (pc := 16) dX6_measureUpwards_16 e6 ?_
    refine r_istore_n (pc := 17) dX6_measureUpwards_17 (by decide) ?_
    change gW _ _ _ [some (.ref l0), some (.ref l1), some (.int l2), some (.int x5), none, none] _ _ _ _ _ _
    refine r_aload_n (pc := 18) dX6_measureUpwards_18 rfl ?_
    obtain ⟨x7, e8, hf⟩ := obind hf
    refine q_getA (pc := 19) dX6_measureUpwards_19 gX6_31 e8 ?_
    refine r_iload_n (pc := 22) dX6_measureUpwards_22 rfl ?_
    refine r_iconst (pc := 23) (0 : Int32) dX6_measureUpwards_23 (by decide) ?_
    obtain ⟨S9, e10, hf⟩ := obind hf
    refine q_iast (pc := 24) dX6_measureUpwards_24 e10 ?_
    refine r_aload_n (pc := 25) dX6_measureUpwards_25 rfl ?_
    obtain ⟨x11, e12, hf⟩ := obind hf
    refine q_getA (pc := 26) dX6_measureUpwards_26 gX6_34 e12 ?_
    refine r_iload_n (pc := 29) dX6_measureUpwards_29 rfl ?_
    refine r_lconst (pc := 30) (1 : Int64) dX6_measureUpwards_30 (by decide) ?_
    refine r_iload_n (pc := 31) dX6_measureUpwards_31 rfl ?_
    refine r_lshl (pc := 32) dX6_measureUpwards_32 ?_
    obtain ⟨S13, e14, hf⟩ := obind hf
    refine q_last (pc := 33) dX6_measureUpwards_33 e14 ?_
    refine r_iconst (pc := 34) (0 : Int32) dX6_measureUpwards_34 (by decide) ?_
    refine r_istore (pc := 35) dX6_measureUpwards_35 (by decide) ?_
    change gW _ _ _ [some (.ref l0), some (.ref l1), some (.int l2), some (.int x5), some (.int (0 : Int32)), none] _ _ _ _ _ _
    obtain ⟨r39, e40, hf⟩ := obind hf
    refine gW.weak (ls' := [some (.ref l0), some (.ref l1), some (.int l2), some (.int x5), some (.int (0 : Int32)), none]) (by simp [gle]) ?_
    refine g_iter (L := L_X6_measureUpwards_37 l0 l1 l2 x5) (s := s_X6_measureUpwards_37 l0 l1 l2 x5) (K := K_X6_measureUpwards_37 X Q _ _ l0 l1 l2 x5) (W_X6_measureUpwards_37 l0 l1 l2 x5) fu ((0 : Int32), S13) _ e40 ?_
    show gW _ _ 96 [some (.ref l0), some (.ref l1), some (.int l2), some (.int x5), none, none] [] r39.1 r39.2 _ _ _
    refine r_iinc (pc := 96) dX6_measureUpwards_96 rfl (by decide) ?_
    change gW _ _ _ [some (.ref l0), some (.ref l1), some (.int (l2 + (-1 : Int32))), some (.int x5), none, none] _ _ _ _ _ _
    refine r_goto (pc := 99) 7 dX6_measureUpwards_99 (by decide) ?_
    cases hf
    exact gW.weak (by simp [gle]) hk
def F_X6_measureUpwards (S : pS) (a0 : Nat) (a1 : Nat) : Option (pS) := (oF S a0 6).bind fun _ => (oGI S a0 6 3).bind fun x1 => (iter (F_X6_measureUpwards_7 a0 a1) fu (x1 - (1 : Int32), S)).bind fun r41 => some r41
set_option maxRecDepth 100000 in
set_option maxHeartbeats 4000000 in
theorem C_X6_measureUpwards {X : pX} {Q : pO → Nat → pF → Prop} (S : pS) (a0 : Nat) (a1 : Nat) (r : pS) (hf : F_X6_measureUpwards S a0 a1 = some r) (hk : Q (.inl none) r.1 r.2) : gC X mX6_measureUpwards [.ref a0, .ref a1] S.1 S.2 Q 0 0 := by
  refine gC_of (by decide) (Nat.le_of_ble_eq_true rfl) ?_
  change gW _ _ _ [some (.ref a0), some (.ref a1), none, none, none, none] _ _ _ _ _ _
  unfold F_X6_measureUpwards at hf
  obtain ⟨_, _, hf⟩ := obind hf
  refine r_aload_n (pc := 0) dX6_measureUpwards_0 rfl ?_
  obtain ⟨x1, e2, hf⟩ := obind hf
  refine q_getI (pc := 1) dX6_measureUpwards_1 gX6_21 e2 ?_
  refine r_iconst (pc := 4) (1 : Int32) dX6_measureUpwards_4 (by decide) ?_
  refine r_isub (pc := 5) dX6_measureUpwards_5 ?_
  refine r_istore_n (pc := 6) dX6_measureUpwards_6 (by decide) ?_
  change gW _ _ _ [some (.ref a0), some (.ref a1), some (.int (x1 - (1 : Int32))), none, none, none] _ _ _ _ _ _
  obtain ⟨r41, e42, hf⟩ := obind hf
  refine gW.weak (ls' := [some (.ref a0), some (.ref a1), some (.int (x1 - (1 : Int32))), none, none, none]) (by simp [gle]) ?_
  refine g_iter (L := L_X6_measureUpwards_7 a0 a1) (s := s_X6_measureUpwards_7 a0 a1) (K := K_X6_measureUpwards_7 X Q _ _ a0 a1) (W_X6_measureUpwards_7 a0 a1) fu (x1 - (1 : Int32), S) _ e42 ?_
  show gW _ _ 102 [some (.ref a0), some (.ref a1), none, none, none, none] [] r41.1 r41.2 _ _ _
  refine r_return (pc := 102) dX6_measureUpwards_102 rfl ?_
  cases hf
  exact hk
def F_X6_measure (S : pS) (a0 : Nat) (a1 : Nat) : Option (pS) := (oF S a0 6).bind fun _ => (F_X6_countParents S a0 a1).bind fun q1 => (F_X6_orderItems q1 a0 a1).bind fun q3 => (F_X6_measureDownwards q3 a0 a1).bind fun q5 => (F_X6_measureUpwards q5 a0 a1).bind fun q7 => some q7
set_option maxRecDepth 100000 in
set_option maxHeartbeats 4000000 in
theorem C_X6_measure {X : pX} {Q : pO → Nat → pF → Prop} (S : pS) (a0 : Nat) (a1 : Nat) (r : pS) (hf : F_X6_measure S a0 a1 = some r) (hk : Q (.inl none) r.1 r.2) : gC X mX6_measure [.ref a0, .ref a1] S.1 S.2 Q 0 0 := by
  refine gC_of (by decide) (Nat.le_of_ble_eq_true rfl) ?_
  change gW _ _ _ [some (.ref a0), some (.ref a1)] _ _ _ _ _ _
  unfold F_X6_measure at hf
  obtain ⟨_, _, hf⟩ := obind hf
  refine r_aload_n (pc := 0) dX6_measure_0 rfl ?_
  refine r_aload_n (pc := 1) dX6_measure_1 rfl ?_
  obtain ⟨q1, e2, hf⟩ := obind hf
  refine q_callV (pc := 2) (v := none) (S' := q1) mX6_countParents 6 [.ref a1] dX6_measure_2 kX6_38 fX6_countParents iX6_countParents ⟨by decide, by decide⟩ rfl rfl rfl (Nat.le_of_ble_eq_true rfl) (og e2) (mc1 := 0) (ms1 := 0) (mc2 := 0) (ms2 := 0) (by decide) (by decide) (C_X6_countParents S a0 a1 q1 e2 (qR_mk _ _)) ?_
  refine r_aload_n (pc := 5) dX6_measure_5 rfl ?_
  refine r_aload_n (pc := 6) dX6_measure_6 rfl ?_
  obtain ⟨q3, e4, hf⟩ := obind hf
  refine q_callV (pc := 7) (v := none) (S' := q3) mX6_orderItems 6 [.ref a1] dX6_measure_7 kX6_42 fX6_orderItems iX6_orderItems ⟨by decide, by decide⟩ rfl rfl rfl (Nat.le_of_ble_eq_true rfl) (og e4) (mc1 := 0) (ms1 := 0) (mc2 := 0) (ms2 := 0) (by decide) (by decide) (C_X6_orderItems q1 a0 a1 q3 e4 (qR_mk _ _)) ?_
  refine r_aload_n (pc := 10) dX6_measure_10 rfl ?_
  refine r_aload_n (pc := 11) dX6_measure_11 rfl ?_
  obtain ⟨q5, e6, hf⟩ := obind hf
  refine q_callV (pc := 12) (v := none) (S' := q5) mX6_measureDownwards 6 [.ref a1] dX6_measure_12 kX6_45 fX6_measureDownwards iX6_measureDownwards ⟨by decide, by decide⟩ rfl rfl rfl (Nat.le_of_ble_eq_true rfl) (og e6) (mc1 := 0) (ms1 := 0) (mc2 := 0) (ms2 := 0) (by decide) (by decide) (C_X6_measureDownwards q3 a0 a1 q5 e6 (qR_mk _ _)) ?_
  refine r_aload_n (pc := 15) dX6_measure_15 rfl ?_
  refine r_aload_n (pc := 16) dX6_measure_16 rfl ?_
  obtain ⟨q7, e8, hf⟩ := obind hf
  refine q_callV (pc := 17) (v := none) (S' := q7) mX6_measureUpwards 6 [.ref a1] dX6_measure_17 kX6_48 fX6_measureUpwards iX6_measureUpwards ⟨by decide, by decide⟩ rfl rfl rfl (Nat.le_of_ble_eq_true rfl) (og e8) (mc1 := 0) (ms1 := 0) (mc2 := 0) (ms2 := 0) (by decide) (by decide) (C_X6_measureUpwards q5 a0 a1 q7 e8 (qR_mk _ _)) ?_
  refine r_return (pc := 20) dX6_measure_20 rfl ?_
  cases hf
  exact hk
def F_X6_parentsOf (S : pS) (a0 : Nat) (a1 : Int32) : Option (Int32) := (oF S a0 6).bind fun _ => (oGA S a0 6 0).bind fun x1 => (oAI S x1 .int a1).bind fun x3 => some x3
set_option maxRecDepth 100000 in
set_option maxHeartbeats 4000000 in
theorem C_X6_parentsOf {X : pX} {Q : pO → Nat → pF → Prop} (S : pS) (a0 : Nat) (a1 : Int32) (r : Int32) (hf : F_X6_parentsOf S a0 a1 = some r) (hk : Q (.inl (some (.int r))) S.1 S.2) : gC X mX6_parentsOf [.ref a0, .int a1] S.1 S.2 Q 0 0 := by
  refine gC_of (by decide) (Nat.le_of_ble_eq_true rfl) ?_
  change gW _ _ _ [some (.ref a0), some (.int a1)] _ _ _ _ _ _
  unfold F_X6_parentsOf at hf
  obtain ⟨_, _, hf⟩ := obind hf
  refine r_aload_n (pc := 0) dX6_parentsOf_0 rfl ?_
  obtain ⟨x1, e2, hf⟩ := obind hf
  refine q_getA (pc := 1) dX6_parentsOf_1 gX6_9 e2 ?_
  refine r_iload_n (pc := 4) dX6_parentsOf_4 rfl ?_
  obtain ⟨x3, e4, hf⟩ := obind hf
  refine q_iald (pc := 5) dX6_parentsOf_5 e4 ?_
  refine r_ireturn (pc := 6) .int dX6_parentsOf_6 rfl rfl ?_
  cases hf
  exact hk
def F_X6_placesOf (S : pS) (a0 : Nat) (a1 : Int32) : Option (Int32) := (oF S a0 6).bind fun _ => (oGA S a0 6 4).bind fun x1 => (oAI S x1 .int a1).bind fun x3 => some x3
set_option maxRecDepth 100000 in
set_option maxHeartbeats 4000000 in
theorem C_X6_placesOf {X : pX} {Q : pO → Nat → pF → Prop} (S : pS) (a0 : Nat) (a1 : Int32) (r : Int32) (hf : F_X6_placesOf S a0 a1 = some r) (hk : Q (.inl (some (.int r))) S.1 S.2) : gC X mX6_placesOf [.ref a0, .int a1] S.1 S.2 Q 0 0 := by
  refine gC_of (by decide) (Nat.le_of_ble_eq_true rfl) ?_
  change gW _ _ _ [some (.ref a0), some (.int a1)] _ _ _ _ _ _
  unfold F_X6_placesOf at hf
  obtain ⟨_, _, hf⟩ := obind hf
  refine r_aload_n (pc := 0) dX6_placesOf_0 rfl ?_
  obtain ⟨x1, e2, hf⟩ := obind hf
  refine q_getA (pc := 1) dX6_placesOf_1 gX6_25 e2 ?_
  refine r_iload_n (pc := 4) dX6_placesOf_4 rfl ?_
  obtain ⟨x3, e4, hf⟩ := obind hf
  refine q_iald (pc := 5) dX6_placesOf_5 e4 ?_
  refine r_ireturn (pc := 6) .int dX6_placesOf_6 rfl rfl ?_
  cases hf
  exact hk
def F_X6_placesBelow (S : pS) (a0 : Nat) (a1 : Int32) : Option (Int32) := (oF S a0 6).bind fun _ => (oGA S a0 6 6).bind fun x1 => (oAI S x1 .int a1).bind fun x3 => some x3
set_option maxRecDepth 100000 in
set_option maxHeartbeats 4000000 in
theorem C_X6_placesBelow {X : pX} {Q : pO → Nat → pF → Prop} (S : pS) (a0 : Nat) (a1 : Int32) (r : Int32) (hf : F_X6_placesBelow S a0 a1 = some r) (hk : Q (.inl (some (.int r))) S.1 S.2) : gC X mX6_placesBelow [.ref a0, .int a1] S.1 S.2 Q 0 0 := by
  refine gC_of (by decide) (Nat.le_of_ble_eq_true rfl) ?_
  change gW _ _ _ [some (.ref a0), some (.int a1)] _ _ _ _ _ _
  unfold F_X6_placesBelow at hf
  obtain ⟨_, _, hf⟩ := obind hf
  refine r_aload_n (pc := 0) dX6_placesBelow_0 rfl ?_
  obtain ⟨x1, e2, hf⟩ := obind hf
  refine q_getA (pc := 1) dX6_placesBelow_1 gX6_31 e2 ?_
  refine r_iload_n (pc := 4) dX6_placesBelow_4 rfl ?_
  obtain ⟨x3, e4, hf⟩ := obind hf
  refine q_iald (pc := 5) dX6_placesBelow_5 e4 ?_
  refine r_ireturn (pc := 6) .int dX6_placesBelow_6 rfl rfl ?_
  cases hf
  exact hk
abbrev L_X6_greatestDepth_4 (l0 : Nat) (S : pS) : Int32 × Int32 → List (Option Value) := fun a => [some (.ref l0), some (.int a.1), some (.int a.2)]
abbrev s_X6_greatestDepth_4 (l0 : Nat) (S : pS) : Int32 × Int32 → pS := fun a => S
abbrev K_X6_greatestDepth_4 (X : pX) (Q : pO → Nat → pF → Prop) (mc ms : Nat) (l0 : Nat) (S : pS) : Int32 → Prop := (fun b => gW X mX6_greatestDepth 34 [some (.ref l0), some (.int b), none] [] S.1 S.2 Q mc ms)
def F_X6_greatestDepth_4 (l0 : Nat) (S : pS) : Int32 × Int32 → Option ((Int32 × Int32) ⊕ (Int32)) := fun a => (oGI S l0 6 3).bind fun x1 => if x1 ≤ a.2 then (some (.inr a.1)) else ((oGA S l0 6 5).bind fun x3 => (oGA S l0 6 2).bind fun x5 => (oAI S x5 .int a.2).bind fun x7 => (oAI S x3 .int x7).bind fun x9 => some (.inl (if a.1 < x9 then x9 else a.1, a.2 + (1 : Int32))))
set_option maxRecDepth 100000 in
set_option maxHeartbeats 4000000 in
theorem W_X6_greatestDepth_4 {X : pX} {Q : pO → Nat → pF → Prop} {mc ms : Nat} (l0 : Nat) (S : pS) : ∀ (a : Int32 × Int32) (r : (Int32 × Int32) ⊕ (Int32)), F_X6_greatestDepth_4 l0 S a = some r → Sum.elim (fun a' => gW X mX6_greatestDepth 4 (L_X6_greatestDepth_4 l0 S a') [] (s_X6_greatestDepth_4 l0 S a').1 (s_X6_greatestDepth_4 l0 S a').2 Q mc ms) (K_X6_greatestDepth_4 X Q mc ms l0 S) r → gW X mX6_greatestDepth 4 (L_X6_greatestDepth_4 l0 S a) [] (s_X6_greatestDepth_4 l0 S a).1 (s_X6_greatestDepth_4 l0 S a).2 Q mc ms := by
  intro a r hf hk
  obtain ⟨l1, l2⟩ := a
  unfold F_X6_greatestDepth_4 at hf
  try dsimp only at hf
  change gW _ _ _ [some (.ref l0), some (.int l1), some (.int l2)] _ S.1 S.2 _ _ _
  refine r_iload_n (pc := 4) dX6_greatestDepth_4 rfl ?_
  refine r_aload_n (pc := 5) dX6_greatestDepth_5 rfl ?_
  obtain ⟨x1, e2, hf⟩ := obind hf
  refine q_getI (pc := 6) dX6_greatestDepth_6 gX6_21 e2 ?_
  refine r_icmp_ge (pc := 9) 34 dX6_greatestDepth_9 (by decide) (fun hc => ?_) (fun hc => ?_)
  · rw [if_pos hc] at hf
    cases hf
    exact gW.weak (by simp [gle]) hk
  · rw [if_neg hc] at hf
    refine r_iload_n (pc := 12) dX6_greatestDepth_12 rfl ?_
    refine r_aload_n (pc := 13) dX6_greatestDepth_13 rfl ?_
    obtain ⟨x3, e4, hf⟩ := obind hf
    refine q_getA (pc := 14) dX6_greatestDepth_14 gX6_28 e4 ?_
    refine r_aload_n (pc := 17) dX6_greatestDepth_17 rfl ?_
    obtain ⟨x5, e6, hf⟩ := obind hf
    refine q_getA (pc := 18) dX6_greatestDepth_18 gX6_18 e6 ?_
    refine r_iload_n (pc := 21) dX6_greatestDepth_21 rfl ?_
    obtain ⟨x7, e8, hf⟩ := obind hf
    refine q_iald (pc := 22) dX6_greatestDepth_22 e8 ?_
    obtain ⟨x9, e10, hf⟩ := obind hf
    refine q_iald (pc := 23) dX6_greatestDepth_23 e10 ?_
    refine r_max (pc := 24) dX6_greatestDepth_24 kX6_69 k_max.1 k_max.2.1 k_max.2.2 ⟨by decide, Nat.le_of_ble_eq_true rfl⟩ ?_
    refine r_istore_n (pc := 27) dX6_greatestDepth_27 (by decide) ?_
    change gW _ _ _ [some (.ref l0), some (.int (if l1 < x9 then x9 else l1)), some (.int l2)] _ _ _ _ _ _
    refine r_iinc (pc := 28) dX6_greatestDepth_28 rfl (by decide) ?_
    change gW _ _ _ [some (.ref l0), some (.int (if l1 < x9 then x9 else l1)), some (.int (l2 + (1 : Int32)))] _ _ _ _ _ _
    refine r_goto (pc := 31) 4 dX6_greatestDepth_31 (by decide) ?_
    cases hf
    exact gW.weak (by simp [gle]) hk
def F_X6_greatestDepth (S : pS) (a0 : Nat) : Option (Int32) := (oF S a0 6).bind fun _ => (iter (F_X6_greatestDepth_4 a0 S) fu ((0 : Int32), (0 : Int32))).bind fun r11 => some r11
set_option maxRecDepth 100000 in
set_option maxHeartbeats 4000000 in
theorem C_X6_greatestDepth {X : pX} {Q : pO → Nat → pF → Prop} (S : pS) (a0 : Nat) (r : Int32) (hf : F_X6_greatestDepth S a0 = some r) (hk : Q (.inl (some (.int r))) S.1 S.2) : gC X mX6_greatestDepth [.ref a0] S.1 S.2 Q 0 0 := by
  refine gC_of (by decide) (Nat.le_of_ble_eq_true rfl) ?_
  change gW _ _ _ [some (.ref a0), none, none] _ _ _ _ _ _
  unfold F_X6_greatestDepth at hf
  obtain ⟨_, _, hf⟩ := obind hf
  refine r_iconst (pc := 0) (0 : Int32) dX6_greatestDepth_0 (by decide) ?_
  refine r_istore_n (pc := 1) dX6_greatestDepth_1 (by decide) ?_
  change gW _ _ _ [some (.ref a0), some (.int (0 : Int32)), none] _ _ _ _ _ _
  refine r_iconst (pc := 2) (0 : Int32) dX6_greatestDepth_2 (by decide) ?_
  refine r_istore_n (pc := 3) dX6_greatestDepth_3 (by decide) ?_
  change gW _ _ _ [some (.ref a0), some (.int (0 : Int32)), some (.int (0 : Int32))] _ _ _ _ _ _
  obtain ⟨r11, e12, hf⟩ := obind hf
  refine gW.weak (ls' := [some (.ref a0), some (.int (0 : Int32)), some (.int (0 : Int32))]) (by simp [gle]) ?_
  refine g_iter (L := L_X6_greatestDepth_4 a0 S) (s := s_X6_greatestDepth_4 a0 S) (K := K_X6_greatestDepth_4 X Q _ _ a0 S) (W_X6_greatestDepth_4 a0 S) fu ((0 : Int32), (0 : Int32)) _ e12 ?_
  show gW _ _ 34 [some (.ref a0), some (.int r11), none] [] S.1 S.2 _ _ _
  refine r_iload_n (pc := 34) dX6_greatestDepth_34 rfl ?_
  refine r_ireturn (pc := 35) .int dX6_greatestDepth_35 rfl rfl ?_
  cases hf
  exact hk
abbrev L_X6_itemsAtOrAbove_5 (l0 : Nat) (l1 : Int64) (S : pS) : Int64 × Int32 → List (Option Value) := fun a => [some (.ref l0), some (.long l1), none, some (.long a.1), none, some (.int a.2)]
abbrev s_X6_itemsAtOrAbove_5 (l0 : Nat) (l1 : Int64) (S : pS) : Int64 × Int32 → pS := fun a => S
abbrev K_X6_itemsAtOrAbove_5 (X : pX) (Q : pO → Nat → pF → Prop) (mc ms : Nat) (l0 : Nat) (l1 : Int64) (S : pS) : Int64 → Prop := (fun b => gW X mX6_itemsAtOrAbove 56 [some (.ref l0), some (.long l1), none, some (.long b), none, none] [] S.1 S.2 Q mc ms)
def F_X6_itemsAtOrAbove_46 (l0 : Nat) (l1 : Int64) (S : pS) (l5 : Int32) (t0 : Int64) (t1 : Int32) (t2 : Int32) : Option ((Int64 × Int32) ⊕ (Int64)) := (F_X9_with S t0 t1 t2).bind fun q15 => some (.inl (q15, l5 + (1 : Int32)))
set_option maxRecDepth 100000 in
set_option maxHeartbeats 4000000 in
theorem W_X6_itemsAtOrAbove_46 {X : pX} {Q : pO → Nat → pF → Prop} {mc ms : Nat} (l0 : Nat) (l1 : Int64) (S : pS) (l5 : Int32) (t0 : Int64) (t1 : Int32) (t2 : Int32) (r : (Int64 × Int32) ⊕ (Int64)) (hf : F_X6_itemsAtOrAbove_46 l0 l1 S l5 t0 t1 t2 = some r) (hk : Sum.elim (fun a' => gW X mX6_itemsAtOrAbove 5 (L_X6_itemsAtOrAbove_5 l0 l1 S a') [] (s_X6_itemsAtOrAbove_5 l0 l1 S a').1 (s_X6_itemsAtOrAbove_5 l0 l1 S a').2 Q mc ms) (K_X6_itemsAtOrAbove_5 X Q mc ms l0 l1 S) r) : gW X mX6_itemsAtOrAbove 46 [some (.ref l0), some (.long l1), none, none, none, some (.int l5)] [.int t2, .int t1, .long t0] S.1 S.2 Q mc ms := by
  unfold F_X6_itemsAtOrAbove_46 at hf
  obtain ⟨q15, e16, hf⟩ := obind hf
  refine q_callSN (pc := 46) (v := some (.long q15)) (S' := S) mX9_with [.long t0, .int t1, .int t2] dX6_itemsAtOrAbove_46 kX6_74 fX9_with sX9_with ⟨by decide, by decide⟩ rfl rfl (Nat.le_of_ble_eq_true rfl) (mc1 := 0) (ms1 := 0) (mc2 := mc) (ms2 := ms) (by omega) (by omega) (C_X9_with S t0 t1 t2 q15 e16 (qR_mk _ _)) ?_
  change gW _ _ _ _ (.long q15 :: _) _ _ _ _ _
  refine r_lstore_n (pc := 49) dX6_itemsAtOrAbove_49 (by decide) ?_
  change gW _ _ _ [some (.ref l0), some (.long l1), none, some (.long q15), none, some (.int l5)] _ _ _ _ _ _
  refine r_iinc (pc := 50) dX6_itemsAtOrAbove_50 rfl (by decide) ?_
  change gW _ _ _ [some (.ref l0), some (.long l1), none, some (.long q15), none, some (.int (l5 + (1 : Int32)))] _ _ _ _ _ _
  refine r_goto (pc := 53) 5 dX6_itemsAtOrAbove_53 (by decide) ?_
  cases hf
  exact gW.weak (by simp [gle]) hk
def F_X6_itemsAtOrAbove_5 (l0 : Nat) (l1 : Int64) (S : pS) : Int64 × Int32 → Option ((Int64 × Int32) ⊕ (Int64)) := fun a => (oGI S l0 6 3).bind fun x1 => if x1 ≤ a.2 then (some (.inr a.1)) else ((oGA S l0 6 2).bind fun x3 => (oAI S x3 .int a.2).bind fun x5 => (oGA S l0 6 7).bind fun x7 => (oGA S l0 6 2).bind fun x9 => (oAI S x9 .int a.2).bind fun x11 => (oAJ S x7 .long x11).bind fun x13 => if (lg_cmp (x13 &&& l1) (0 : Int64)) = 0 then (F_X6_itemsAtOrAbove_46 l0 l1 S a.2 a.1 x5 (0 : Int32)) else (F_X6_itemsAtOrAbove_46 l0 l1 S a.2 a.1 x5 (1 : Int32)))
set_option maxRecDepth 100000 in
set_option maxHeartbeats 4000000 in
theorem W_X6_itemsAtOrAbove_5 {X : pX} {Q : pO → Nat → pF → Prop} {mc ms : Nat} (l0 : Nat) (l1 : Int64) (S : pS) : ∀ (a : Int64 × Int32) (r : (Int64 × Int32) ⊕ (Int64)), F_X6_itemsAtOrAbove_5 l0 l1 S a = some r → Sum.elim (fun a' => gW X mX6_itemsAtOrAbove 5 (L_X6_itemsAtOrAbove_5 l0 l1 S a') [] (s_X6_itemsAtOrAbove_5 l0 l1 S a').1 (s_X6_itemsAtOrAbove_5 l0 l1 S a').2 Q mc ms) (K_X6_itemsAtOrAbove_5 X Q mc ms l0 l1 S) r → gW X mX6_itemsAtOrAbove 5 (L_X6_itemsAtOrAbove_5 l0 l1 S a) [] (s_X6_itemsAtOrAbove_5 l0 l1 S a).1 (s_X6_itemsAtOrAbove_5 l0 l1 S a).2 Q mc ms := by
  intro a r hf hk
  obtain ⟨l3, l5⟩ := a
  unfold F_X6_itemsAtOrAbove_5 at hf
  try dsimp only at hf
  change gW _ _ _ [some (.ref l0), some (.long l1), none, some (.long l3), none, some (.int l5)] _ S.1 S.2 _ _ _
  refine r_iload (pc := 5) dX6_itemsAtOrAbove_5 rfl ?_
  refine r_aload_n (pc := 7) dX6_itemsAtOrAbove_7 rfl ?_
  obtain ⟨x1, e2, hf⟩ := obind hf
  refine q_getI (pc := 8) dX6_itemsAtOrAbove_8 gX6_21 e2 ?_
  refine r_icmp_ge (pc := 11) 56 dX6_itemsAtOrAbove_11 (by decide) (fun hc => ?_) (fun hc => ?_)
  · rw [if_pos hc] at hf
    cases hf
    exact gW.weak (by simp [gle]) hk
  · rw [if_neg hc] at hf
    refine r_lload_n (pc := 14) dX6_itemsAtOrAbove_14 rfl ?_
    refine r_aload_n (pc := 15) dX6_itemsAtOrAbove_15 rfl ?_
    obtain ⟨x3, e4, hf⟩ := obind hf
    refine q_getA (pc := 16) dX6_itemsAtOrAbove_16 gX6_18 e4 ?_
    refine r_iload (pc := 19) dX6_itemsAtOrAbove_19 rfl ?_
    obtain ⟨x5, e6, hf⟩ := obind hf
    refine q_iald (pc := 21) dX6_itemsAtOrAbove_21 e6 ?_
    refine r_aload_n (pc := 22) dX6_itemsAtOrAbove_22 rfl ?_
    obtain ⟨x7, e8, hf⟩ := obind hf
    refine q_getA (pc := 23) dX6_itemsAtOrAbove_23 gX6_34 e8 ?_
    refine r_aload_n (pc := 26) dX6_itemsAtOrAbove_26 rfl ?_
    obtain ⟨x9, e10, hf⟩ := obind hf
    refine q_getA (pc := 27) dX6_itemsAtOrAbove_27 gX6_18 e10 ?_
    refine r_iload (pc := 30) dX6_itemsAtOrAbove_30 rfl ?_
    obtain ⟨x11, e12, hf⟩ := obind hf
    refine q_iald (pc := 32) dX6_itemsAtOrAbove_32 e12 ?_
    obtain ⟨x13, e14, hf⟩ := obind hf
    refine q_lald (pc := 33) dX6_itemsAtOrAbove_33 e14 ?_
    refine r_lload_n (pc := 34) dX6_itemsAtOrAbove_34 rfl ?_
    refine r_land (pc := 35) dX6_itemsAtOrAbove_35 ?_
    refine r_lconst (pc := 36) (0 : Int64) dX6_itemsAtOrAbove_36 (by decide) ?_
    refine r_lcmp (pc := 37) dX6_itemsAtOrAbove_37 ?_
    refine r_if_eq (pc := 38) 45 dX6_itemsAtOrAbove_38 (by decide) (fun hc => ?_) (fun hc => ?_)
    · rw [if_pos hc] at hf
      refine r_iconst (pc := 45) (0 : Int32) dX6_itemsAtOrAbove_45 (by decide) ?_
      exact gW.weak (by simp [gle]) (W_X6_itemsAtOrAbove_46 l0 l1 S l5 l3 x5 (0 : Int32) r hf hk)
    · rw [if_neg hc] at hf
      refine r_iconst (pc := 41) (1 : Int32) dX6_itemsAtOrAbove_41 (by decide) ?_
      refine r_goto (pc := 42) 46 dX6_itemsAtOrAbove_42 (by decide) ?_
      exact gW.weak (by simp [gle]) (W_X6_itemsAtOrAbove_46 l0 l1 S l5 l3 x5 (1 : Int32) r hf hk)
def F_X6_itemsAtOrAbove (S : pS) (a0 : Nat) (a1 : Int64) : Option (Int64) := (oF S a0 6).bind fun _ => (iter (F_X6_itemsAtOrAbove_5 a0 a1 S) fu ((0 : Int64), (0 : Int32))).bind fun r17 => some r17
set_option maxRecDepth 100000 in
set_option maxHeartbeats 4000000 in
theorem C_X6_itemsAtOrAbove {X : pX} {Q : pO → Nat → pF → Prop} (S : pS) (a0 : Nat) (a1 : Int64) (r : Int64) (hf : F_X6_itemsAtOrAbove S a0 a1 = some r) (hk : Q (.inl (some (.long r))) S.1 S.2) : gC X mX6_itemsAtOrAbove [.ref a0, .long a1] S.1 S.2 Q 0 0 := by
  refine gC_of (by decide) (Nat.le_of_ble_eq_true rfl) ?_
  change gW _ _ _ [some (.ref a0), some (.long a1), none, none, none, none] _ _ _ _ _ _
  unfold F_X6_itemsAtOrAbove at hf
  obtain ⟨_, _, hf⟩ := obind hf
  refine r_lconst (pc := 0) (0 : Int64) dX6_itemsAtOrAbove_0 (by decide) ?_
  refine r_lstore_n (pc := 1) dX6_itemsAtOrAbove_1 (by decide) ?_
  change gW _ _ _ [some (.ref a0), some (.long a1), none, some (.long (0 : Int64)), none, none] _ _ _ _ _ _
  refine r_iconst (pc := 2) (0 : Int32) dX6_itemsAtOrAbove_2 (by decide) ?_
  refine r_istore (pc := 3) dX6_itemsAtOrAbove_3 (by decide) ?_
  change gW _ _ _ [some (.ref a0), some (.long a1), none, some (.long (0 : Int64)), none, some (.int (0 : Int32))] _ _ _ _ _ _
  obtain ⟨r17, e18, hf⟩ := obind hf
  refine gW.weak (ls' := [some (.ref a0), some (.long a1), none, some (.long (0 : Int64)), none, some (.int (0 : Int32))]) (by simp [gle]) ?_
  refine g_iter (L := L_X6_itemsAtOrAbove_5 a0 a1 S) (s := s_X6_itemsAtOrAbove_5 a0 a1 S) (K := K_X6_itemsAtOrAbove_5 X Q _ _ a0 a1 S) (W_X6_itemsAtOrAbove_5 a0 a1 S) fu ((0 : Int64), (0 : Int32)) _ e18 ?_
  show gW _ _ 56 [some (.ref a0), some (.long a1), none, some (.long r17), none, none] [] S.1 S.2 _ _ _
  refine r_lload_n (pc := 56) dX6_itemsAtOrAbove_56 rfl ?_
  refine r_lreturn (pc := 57) dX6_itemsAtOrAbove_57 rfl ?_
  cases hf
  exact hk
def F_X8_countAdded (S : pS) (a0 : Nat) : Option (Int32) := (oF S a0 8).bind fun _ => (oGI S a0 8 9).bind fun x1 => some x1
set_option maxRecDepth 100000 in
set_option maxHeartbeats 4000000 in
theorem C_X8_countAdded {X : pX} {Q : pO → Nat → pF → Prop} (S : pS) (a0 : Nat) (r : Int32) (hf : F_X8_countAdded S a0 = some r) (hk : Q (.inl (some (.int r))) S.1 S.2) : gC X mX8_countAdded [.ref a0] S.1 S.2 Q 0 0 := by
  refine gC_of (by decide) (Nat.le_of_ble_eq_true rfl) ?_
  change gW _ _ _ [some (.ref a0)] _ _ _ _ _ _
  unfold F_X8_countAdded at hf
  obtain ⟨_, _, hf⟩ := obind hf
  refine r_aload_n (pc := 0) dX8_countAdded_0 rfl ?_
  obtain ⟨x1, e2, hf⟩ := obind hf
  refine q_getI (pc := 1) dX8_countAdded_1 gX8_41 e2 ?_
  refine r_ireturn (pc := 4) .int dX8_countAdded_4 rfl rfl ?_
  cases hf
  exact hk
def F_X6_reasonAgainstNew (S : pS) (a0 : Nat) (a1 : Nat) (a2 : Int32) : Option (Int32) := (oF S a0 6).bind fun _ => (F_X8_countAdded S a1).bind fun q1 => if (60 : Int32) ≤ q1 then (some (1 : Int32)) else ((F_X8_childCount S a1 a2).bind fun q3 => if q3 < (12 : Int32) then ((oGA S a0 6 6).bind fun x5 => (oAI S x5 .int (0 : Int32)).bind fun x7 => (oGA S a0 6 4).bind fun x9 => (oAI S x9 .int a2).bind fun x11 => if (x7 + x11) ≤ (300 : Int32) then (some (0 : Int32)) else (some (4 : Int32))) else (some (1 : Int32)))
set_option maxRecDepth 100000 in
set_option maxHeartbeats 4000000 in
theorem C_X6_reasonAgainstNew {X : pX} {Q : pO → Nat → pF → Prop} (S : pS) (a0 : Nat) (a1 : Nat) (a2 : Int32) (r : Int32) (hf : F_X6_reasonAgainstNew S a0 a1 a2 = some r) (hk : Q (.inl (some (.int r))) S.1 S.2) : gC X mX6_reasonAgainstNew [.ref a0, .ref a1, .int a2] S.1 S.2 Q 0 0 := by
  refine gC_of (by decide) (Nat.le_of_ble_eq_true rfl) ?_
  change gW _ _ _ [some (.ref a0), some (.ref a1), some (.int a2)] _ _ _ _ _ _
  unfold F_X6_reasonAgainstNew at hf
  obtain ⟨_, _, hf⟩ := obind hf
  refine r_aload_n (pc := 0) dX6_reasonAgainstNew_0 rfl ?_
  obtain ⟨q1, e2, hf⟩ := obind hf
  refine q_callV (pc := 1) (v := some (.int q1)) (S' := S) mX8_countAdded 8 [] dX6_reasonAgainstNew_1 kX6_78 fX8_countAdded iX8_countAdded ⟨by decide, by decide⟩ rfl rfl rfl (Nat.le_of_ble_eq_true rfl) (og e2) (mc1 := 0) (ms1 := 0) (mc2 := 0) (ms2 := 0) (by decide) (by decide) (C_X8_countAdded S a1 q1 e2 (qR_mk _ _)) ?_
  change gW _ _ _ _ (.int q1 :: _) _ _ _ _ _
  refine r_bipush (pc := 4) (60 : Int32) dX6_reasonAgainstNew_4 (by decide) ?_
  refine r_icmp_ge (pc := 6) 19 dX6_reasonAgainstNew_6 (by decide) (fun hc => ?_) (fun hc => ?_)
  · rw [if_pos hc] at hf
    refine r_iconst (pc := 19) (1 : Int32) dX6_reasonAgainstNew_19 (by decide) ?_
    refine r_ireturn (pc := 20) .int dX6_reasonAgainstNew_20 rfl rfl ?_
    cases hf
    exact hk
  · rw [if_neg hc] at hf
    refine r_aload_n (pc := 9) dX6_reasonAgainstNew_9 rfl ?_
    refine r_iload_n (pc := 10) dX6_reasonAgainstNew_10 rfl ?_
    obtain ⟨q3, e4, hf⟩ := obind hf
    refine q_callV (pc := 11) (v := some (.int q3)) (S' := S) mX8_childCount 8 [.int a2] dX6_reasonAgainstNew_11 kX6_57 fX8_childCount iX8_childCount ⟨by decide, by decide⟩ rfl rfl rfl (Nat.le_of_ble_eq_true rfl) (og e4) (mc1 := 0) (ms1 := 0) (mc2 := 0) (ms2 := 0) (by decide) (by decide) (C_X8_childCount S a1 a2 q3 e4 (qR_mk _ _)) ?_
    change gW _ _ _ _ (.int q3 :: _) _ _ _ _ _
    refine r_bipush (pc := 14) (12 : Int32) dX6_reasonAgainstNew_14 (by decide) ?_
    refine r_icmp_lt (pc := 16) 21 dX6_reasonAgainstNew_16 (by decide) (fun hc => ?_) (fun hc => ?_)
    · rw [if_pos hc] at hf
      refine r_aload_n (pc := 21) dX6_reasonAgainstNew_21 rfl ?_
      obtain ⟨x5, e6, hf⟩ := obind hf
      refine q_getA (pc := 22) dX6_reasonAgainstNew_22 gX6_31 e6 ?_
      refine r_iconst (pc := 25) (0 : Int32) dX6_reasonAgainstNew_25 (by decide) ?_
      obtain ⟨x7, e8, hf⟩ := obind hf
      refine q_iald (pc := 26) dX6_reasonAgainstNew_26 e8 ?_
      refine r_aload_n (pc := 27) dX6_reasonAgainstNew_27 rfl ?_
      obtain ⟨x9, e10, hf⟩ := obind hf
      refine q_getA (pc := 28) dX6_reasonAgainstNew_28 gX6_25 e10 ?_
      refine r_iload_n (pc := 31) dX6_reasonAgainstNew_31 rfl ?_
      obtain ⟨x11, e12, hf⟩ := obind hf
      refine q_iald (pc := 32) dX6_reasonAgainstNew_32 e12 ?_
      refine r_iadd (pc := 33) dX6_reasonAgainstNew_33 ?_
      refine r_sipush (pc := 34) (300 : Int32) dX6_reasonAgainstNew_34 (by decide) ?_
      refine r_icmp_le (pc := 37) 44 dX6_reasonAgainstNew_37 (by decide) (fun hc => ?_) (fun hc => ?_)
      · rw [if_pos hc] at hf
        refine r_iconst (pc := 44) (0 : Int32) dX6_reasonAgainstNew_44 (by decide) ?_
        refine r_ireturn (pc := 45) .int dX6_reasonAgainstNew_45 rfl rfl ?_
        cases hf
        exact hk
      · rw [if_neg hc] at hf
        refine r_iconst (pc := 40) (4 : Int32) dX6_reasonAgainstNew_40 (by decide) ?_
        refine r_goto (pc := 41) 45 dX6_reasonAgainstNew_41 (by decide) ?_
        refine r_ireturn (pc := 45) .int dX6_reasonAgainstNew_45 rfl rfl ?_
        cases hf
        exact hk
    · rw [if_neg hc] at hf
      refine r_iconst (pc := 19) (1 : Int32) dX6_reasonAgainstNew_19 (by decide) ?_
      refine r_ireturn (pc := 20) .int dX6_reasonAgainstNew_20 rfl rfl ?_
      cases hf
      exact hk
abbrev L_X8_hasChild_2 (l0 : Nat) (l1 : Int32) (l2 : Int32) (S : pS) : Int32 → List (Option Value) := fun a => [some (.ref l0), some (.int l1), some (.int l2), some (.int a)]
abbrev s_X8_hasChild_2 (l0 : Nat) (l1 : Int32) (l2 : Int32) (S : pS) : Int32 → pS := fun a => S
abbrev K_X8_hasChild_2 (X : pX) (Q : pO → Nat → pF → Prop) (mc ms : Nat) (l0 : Nat) (l1 : Int32) (l2 : Int32) (S : pS) : (Unit) ⊕ (Unit) → Prop := (Sum.elim (fun b => gW X mX8_hasChild 22 [some (.ref l0), some (.int l1), some (.int l2), none] [] S.1 S.2 Q mc ms) (fun b => gW X mX8_hasChild 30 [some (.ref l0), some (.int l1), some (.int l2), none] [] S.1 S.2 Q mc ms))
def F_X8_hasChild_2 (l0 : Nat) (l1 : Int32) (l2 : Int32) (S : pS) : Int32 → Option ((Int32) ⊕ ((Unit) ⊕ (Unit))) := fun a => (oGA S l0 8 0).bind fun x1 => (oAI S x1 .int l1).bind fun x3 => if x3 ≤ a then (some (.inr (.inr ()))) else ((F_X8_childAt S l0 l1 a).bind fun q5 => if ¬ q5 = l2 then (some (.inl (a + (1 : Int32)))) else (some (.inr (.inl ()))))
set_option maxRecDepth 100000 in
set_option maxHeartbeats 4000000 in
theorem W_X8_hasChild_2 {X : pX} {Q : pO → Nat → pF → Prop} {mc ms : Nat} (l0 : Nat) (l1 : Int32) (l2 : Int32) (S : pS) : ∀ (a : Int32) (r : (Int32) ⊕ ((Unit) ⊕ (Unit))), F_X8_hasChild_2 l0 l1 l2 S a = some r → Sum.elim (fun a' => gW X mX8_hasChild 2 (L_X8_hasChild_2 l0 l1 l2 S a') [] (s_X8_hasChild_2 l0 l1 l2 S a').1 (s_X8_hasChild_2 l0 l1 l2 S a').2 Q mc ms) (K_X8_hasChild_2 X Q mc ms l0 l1 l2 S) r → gW X mX8_hasChild 2 (L_X8_hasChild_2 l0 l1 l2 S a) [] (s_X8_hasChild_2 l0 l1 l2 S a).1 (s_X8_hasChild_2 l0 l1 l2 S a).2 Q mc ms := by
  intro l3 r hf hk
  unfold F_X8_hasChild_2 at hf
  try dsimp only at hf
  change gW _ _ _ [some (.ref l0), some (.int l1), some (.int l2), some (.int l3)] _ S.1 S.2 _ _ _
  refine r_iload_n (pc := 2) dX8_hasChild_2 rfl ?_
  refine r_aload_n (pc := 3) dX8_hasChild_3 rfl ?_
  obtain ⟨x1, e2, hf⟩ := obind hf
  refine q_getA (pc := 4) dX8_hasChild_4 gX8_9 e2 ?_
  refine r_iload_n (pc := 7) dX8_hasChild_7 rfl ?_
  obtain ⟨x3, e4, hf⟩ := obind hf
  refine q_iald (pc := 8) dX8_hasChild_8 e4 ?_
  refine r_icmp_ge (pc := 9) 30 dX8_hasChild_9 (by decide) (fun hc => ?_) (fun hc => ?_)
  · rw [if_pos hc] at hf
    cases hf
    exact gW.weak (by simp [gle]) hk
  · rw [if_neg hc] at hf
    refine r_aload_n (pc := 12) dX8_hasChild_12 rfl ?_
    refine r_iload_n (pc := 13) dX8_hasChild_13 rfl ?_
    refine r_iload_n (pc := 14) dX8_hasChild_14 rfl ?_
    obtain ⟨q5, e6, hf⟩ := obind hf
    refine q_callV (pc := 15) (v := some (.int q5)) (S' := S) mX8_childAt 8 [.int l1, .int l3] dX8_hasChild_15 kX8_71 fX8_childAt iX8_childAt ⟨by decide, by decide⟩ rfl rfl rfl (Nat.le_of_ble_eq_true rfl) (og e6) (mc1 := 0) (ms1 := 0) (mc2 := mc) (ms2 := ms) (by omega) (by omega) (C_X8_childAt S l0 l1 l3 q5 e6 (qR_mk _ _)) ?_
    change gW _ _ _ _ (.int q5 :: _) _ _ _ _ _
    refine r_iload_n (pc := 18) dX8_hasChild_18 rfl ?_
    refine r_icmp_ne (pc := 19) 24 dX8_hasChild_19 (by decide) (fun hc => ?_) (fun hc => ?_)
    · rw [if_pos hc] at hf
      refine r_iinc (pc := 24) dX8_hasChild_24 rfl (by decide) ?_
      change gW _ _ _ [some (.ref l0), some (.int l1), some (.int l2), some (.int (l3 + (1 : Int32)))] _ _ _ _ _ _
      refine r_goto (pc := 27) 2 dX8_hasChild_27 (by decide) ?_
      cases hf
      exact gW.weak (by simp [gle]) hk
    · rw [if_neg hc] at hf
      cases hf
      exact gW.weak (by simp [gle]) hk
def F_X8_hasChild (S : pS) (a0 : Nat) (a1 : Int32) (a2 : Int32) : Option (Int32) := (oF S a0 8).bind fun _ => (iter (F_X8_hasChild_2 a0 a1 a2 S) fu (0 : Int32)).bind fun r7 => Sum.elim (fun q9 => some (1 : Int32)) (fun q9 => some (0 : Int32)) r7
set_option maxRecDepth 100000 in
set_option maxHeartbeats 4000000 in
theorem C_X8_hasChild {X : pX} {Q : pO → Nat → pF → Prop} (S : pS) (a0 : Nat) (a1 : Int32) (a2 : Int32) (r : Int32) (hf : F_X8_hasChild S a0 a1 a2 = some r) (hk : Q (.inl (some (.int r))) S.1 S.2) : gC X mX8_hasChild [.ref a0, .int a1, .int a2] S.1 S.2 Q 0 0 := by
  refine gC_of (by decide) (Nat.le_of_ble_eq_true rfl) ?_
  change gW _ _ _ [some (.ref a0), some (.int a1), some (.int a2), none] _ _ _ _ _ _
  unfold F_X8_hasChild at hf
  obtain ⟨_, _, hf⟩ := obind hf
  refine r_iconst (pc := 0) (0 : Int32) dX8_hasChild_0 (by decide) ?_
  refine r_istore_n (pc := 1) dX8_hasChild_1 (by decide) ?_
  change gW _ _ _ [some (.ref a0), some (.int a1), some (.int a2), some (.int (0 : Int32))] _ _ _ _ _ _
  obtain ⟨r7, e8, hf⟩ := obind hf
  refine gW.weak (ls' := [some (.ref a0), some (.int a1), some (.int a2), some (.int (0 : Int32))]) (by simp [gle]) ?_
  refine g_iter (L := L_X8_hasChild_2 a0 a1 a2 S) (s := s_X8_hasChild_2 a0 a1 a2 S) (K := K_X8_hasChild_2 X Q _ _ a0 a1 a2 S) (W_X8_hasChild_2 a0 a1 a2 S) fu (0 : Int32) _ e8 ?_
  rcases r7 with q9 | q9
  · replace hf := hf
    show gW _ _ 22 [some (.ref a0), some (.int a1), some (.int a2), none] [] S.1 S.2 _ _ _
    refine r_iconst (pc := 22) (1 : Int32) dX8_hasChild_22 (by decide) ?_
    refine r_ireturn (pc := 23) .boolean dX8_hasChild_23 rfl rfl ?_
    cases hf
    exact hk
  · replace hf := hf
    show gW _ _ 30 [some (.ref a0), some (.int a1), some (.int a2), none] [] S.1 S.2 _ _ _
    refine r_iconst (pc := 30) (0 : Int32) dX8_hasChild_30 (by decide) ?_
    refine r_ireturn (pc := 31) .boolean dX8_hasChild_31 rfl rfl ?_
    cases hf
    exact hk
def F_X6_reasonAgainst (S : pS) (a0 : Nat) (a1 : Nat) (a2 : Int32) (a3 : Int32) : Option (Int32) := (oF S a0 6).bind fun _ => (F_X8_childCount S a1 a3).bind fun q1 => if q1 < (12 : Int32) then ((F_X8_hasChild S a1 a3 a2).bind fun q3 => if q3 = 0 then ((oGA S a0 6 7).bind fun x5 => (oAJ S x5 .long a2).bind fun x7 => (F_X9_contains S x7 a3).bind fun q9 => if q9 = 0 then ((oGA S a0 6 4).bind fun x11 => (oAI S x11 .int a3).bind fun x13 => (oGA S a0 6 6).bind fun x15 => (oAI S x15 .int a2).bind fun x17 => (oGA S a0 6 6).bind fun x19 => (oAI S x19 .int (0 : Int32)).bind fun x21 => if (x21 + (x13 * ((1 : Int32) + x17))) ≤ (300 : Int32) then (some (0 : Int32)) else (some (4 : Int32))) else (some (3 : Int32))) else (some (2 : Int32))) else (some (1 : Int32))
set_option maxRecDepth 100000 in
set_option maxHeartbeats 4000000 in
theorem C_X6_reasonAgainst {X : pX} {Q : pO → Nat → pF → Prop} (S : pS) (a0 : Nat) (a1 : Nat) (a2 : Int32) (a3 : Int32) (r : Int32) (hf : F_X6_reasonAgainst S a0 a1 a2 a3 = some r) (hk : Q (.inl (some (.int r))) S.1 S.2) : gC X mX6_reasonAgainst [.ref a0, .ref a1, .int a2, .int a3] S.1 S.2 Q 0 0 := by
  refine gC_of (by decide) (Nat.le_of_ble_eq_true rfl) ?_
  change gW _ _ _ [some (.ref a0), some (.ref a1), some (.int a2), some (.int a3), none] _ _ _ _ _ _
  unfold F_X6_reasonAgainst at hf
  obtain ⟨_, _, hf⟩ := obind hf
  refine r_aload_n (pc := 0) dX6_reasonAgainst_0 rfl ?_
  refine r_iload_n (pc := 1) dX6_reasonAgainst_1 rfl ?_
  obtain ⟨q1, e2, hf⟩ := obind hf
  refine q_callV (pc := 2) (v := some (.int q1)) (S' := S) mX8_childCount 8 [.int a3] dX6_reasonAgainst_2 kX6_57 fX8_childCount iX8_childCount ⟨by decide, by decide⟩ rfl rfl rfl (Nat.le_of_ble_eq_true rfl) (og e2) (mc1 := 0) (ms1 := 0) (mc2 := 0) (ms2 := 0) (by decide) (by decide) (C_X8_childCount S a1 a3 q1 e2 (qR_mk _ _)) ?_
  change gW _ _ _ _ (.int q1 :: _) _ _ _ _ _
  refine r_bipush (pc := 5) (12 : Int32) dX6_reasonAgainst_5 (by decide) ?_
  refine r_icmp_lt (pc := 7) 12 dX6_reasonAgainst_7 (by decide) (fun hc => ?_) (fun hc => ?_)
  · rw [if_pos hc] at hf
    refine r_aload_n (pc := 12) dX6_reasonAgainst_12 rfl ?_
    refine r_iload_n (pc := 13) dX6_reasonAgainst_13 rfl ?_
    refine r_iload_n (pc := 14) dX6_reasonAgainst_14 rfl ?_
    obtain ⟨q3, e4, hf⟩ := obind hf
    refine q_callV (pc := 15) (v := some (.int q3)) (S' := S) mX8_hasChild 8 [.int a3, .int a2] dX6_reasonAgainst_15 kX6_82 fX8_hasChild iX8_hasChild ⟨by decide, by decide⟩ rfl rfl rfl (Nat.le_of_ble_eq_true rfl) (og e4) (mc1 := 0) (ms1 := 0) (mc2 := 0) (ms2 := 0) (by decide) (by decide) (C_X8_hasChild S a1 a3 a2 q3 e4 (qR_mk _ _)) ?_
    change gW _ _ _ _ (.int q3 :: _) _ _ _ _ _
    refine r_if_eq (pc := 18) 23 dX6_reasonAgainst_18 (by decide) (fun hc => ?_) (fun hc => ?_)
    · rw [if_pos hc] at hf
      refine r_aload_n (pc := 23) dX6_reasonAgainst_23 rfl ?_
      obtain ⟨x5, e6, hf⟩ := obind hf
      refine q_getA (pc := 24) dX6_reasonAgainst_24 gX6_34 e6 ?_
      refine r_iload_n (pc := 27) dX6_reasonAgainst_27 rfl ?_
      obtain ⟨x7, e8, hf⟩ := obind hf
      refine q_lald (pc := 28) dX6_reasonAgainst_28 e8 ?_
      refine r_iload_n (pc := 29) dX6_reasonAgainst_29 rfl ?_
      obtain ⟨q9, e10, hf⟩ := obind hf
      refine q_callSN (pc := 30) (v := some (.int q9)) (S' := S) mX9_contains [.long x7, .int a3] dX6_reasonAgainst_30 kX6_86 fX9_contains sX9_contains ⟨by decide, by decide⟩ rfl rfl (Nat.le_of_ble_eq_true rfl) (mc1 := 0) (ms1 := 0) (mc2 := 0) (ms2 := 0) (by decide) (by decide) (C_X9_contains S x7 a3 q9 e10 (qR_mk _ _)) ?_
      change gW _ _ _ _ (.int q9 :: _) _ _ _ _ _
      refine r_if_eq (pc := 33) 38 dX6_reasonAgainst_33 (by decide) (fun hc => ?_) (fun hc => ?_)
      · rw [if_pos hc] at hf
        refine r_aload_n (pc := 38) dX6_reasonAgainst_38 rfl ?_
        obtain ⟨x11, e12, hf⟩ := obind hf
        refine q_getA (pc := 39) dX6_reasonAgainst_39 gX6_25 e12 ?_
        refine r_iload_n (pc := 42) dX6_reasonAgainst_42 rfl ?_
        obtain ⟨x13, e14, hf⟩ := obind hf
        refine q_iald (pc := 43) dX6_reasonAgainst_43 e14 ?_
        refine r_iconst (pc := 44) (1 : Int32) dX6_reasonAgainst_44 (by decide) ?_
        refine r_aload_n (pc := 45) dX6_reasonAgainst_45 rfl ?_
        obtain ⟨x15, e16, hf⟩ := obind hf
        refine q_getA (pc := 46) dX6_reasonAgainst_46 gX6_31 e16 ?_
        refine r_iload_n (pc := 49) dX6_reasonAgainst_49 rfl ?_
        obtain ⟨x17, e18, hf⟩ := obind hf
        refine q_iald (pc := 50) dX6_reasonAgainst_50 e18 ?_
        refine r_iadd (pc := 51) dX6_reasonAgainst_51 ?_
        refine r_imul (pc := 52) dX6_reasonAgainst_52 ?_
        refine r_istore (pc := 53) dX6_reasonAgainst_53 (by decide) ?_
        change gW _ _ _ [some (.ref a0), some (.ref a1), some (.int a2), some (.int a3), some (.int (x13 * ((1 : Int32) + x17)))] _ _ _ _ _ _
        refine r_aload_n (pc := 55) dX6_reasonAgainst_55 rfl ?_
        obtain ⟨x19, e20, hf⟩ := obind hf
        refine q_getA (pc := 56) dX6_reasonAgainst_56 gX6_31 e20 ?_
        refine r_iconst (pc := 59) (0 : Int32) dX6_reasonAgainst_59 (by decide) ?_
        obtain ⟨x21, e22, hf⟩ := obind hf
        refine q_iald (pc := 60) dX6_reasonAgainst_60 e22 ?_
        refine r_iload (pc := 61) dX6_reasonAgainst_61 rfl ?_
        refine r_iadd (pc := 63) dX6_reasonAgainst_63 ?_
        refine r_sipush (pc := 64) (300 : Int32) dX6_reasonAgainst_64 (by decide) ?_
        refine r_icmp_le (pc := 67) 74 dX6_reasonAgainst_67 (by decide) (fun hc => ?_) (fun hc => ?_)
        · rw [if_pos hc] at hf
          refine r_iconst (pc := 74) (0 : Int32) dX6_reasonAgainst_74 (by decide) ?_
          refine r_ireturn (pc := 75) .int dX6_reasonAgainst_75 rfl rfl ?_
          cases hf
          exact hk
        · rw [if_neg hc] at hf
          refine r_iconst (pc := 70) (4 : Int32) dX6_reasonAgainst_70 (by decide) ?_
          refine r_goto (pc := 71) 75 dX6_reasonAgainst_71 (by decide) ?_
          refine r_ireturn (pc := 75) .int dX6_reasonAgainst_75 rfl rfl ?_
          cases hf
          exact hk
      · rw [if_neg hc] at hf
        refine r_iconst (pc := 36) (3 : Int32) dX6_reasonAgainst_36 (by decide) ?_
        refine r_ireturn (pc := 37) .int dX6_reasonAgainst_37 rfl rfl ?_
        cases hf
        exact hk
    · rw [if_neg hc] at hf
      refine r_iconst (pc := 21) (2 : Int32) dX6_reasonAgainst_21 (by decide) ?_
      refine r_ireturn (pc := 22) .int dX6_reasonAgainst_22 rfl rfl ?_
      cases hf
      exact hk
  · rw [if_neg hc] at hf
    refine r_iconst (pc := 10) (1 : Int32) dX6_reasonAgainst_10 (by decide) ?_
    refine r_ireturn (pc := 11) .int dX6_reasonAgainst_11 rfl rfl ?_
    cases hf
    exact hk
def F_J13_bitCount_95d88 (S : pS) (a0 : Int64) : Option (Int32) := some ((((((((((a0 - (((a0.toUInt64 >>> ((1 : Int32).toInt64.toUInt64 &&& Int64.toUInt64 63)).toInt64) &&& (6148914691236517205 : Int64))) &&& (3689348814741910323 : Int64)) + ((((a0 - (((a0.toUInt64 >>> ((1 : Int32).toInt64.toUInt64 &&& Int64.toUInt64 63)).toInt64) &&& (6148914691236517205 : Int64))).toUInt64 >>> ((2 : Int32).toInt64.toUInt64 &&& Int64.toUInt64 63)).toInt64) &&& (3689348814741910323 : Int64))) + (((((a0 - (((a0.toUInt64 >>> ((1 : Int32).toInt64.toUInt64 &&& Int64.toUInt64 63)).toInt64) &&& (6148914691236517205 : Int64))) &&& (3689348814741910323 : Int64)) + ((((a0 - (((a0.toUInt64 >>> ((1 : Int32).toInt64.toUInt64 &&& Int64.toUInt64 63)).toInt64) &&& (6148914691236517205 : Int64))).toUInt64 >>> ((2 : Int32).toInt64.toUInt64 &&& Int64.toUInt64 63)).toInt64) &&& (3689348814741910323 : Int64))).toUInt64 >>> ((4 : Int32).toInt64.toUInt64 &&& Int64.toUInt64 63)).toInt64)) &&& (1085102592571150095 : Int64)) + (((((((a0 - (((a0.toUInt64 >>> ((1 : Int32).toInt64.toUInt64 &&& Int64.toUInt64 63)).toInt64) &&& (6148914691236517205 : Int64))) &&& (3689348814741910323 : Int64)) + ((((a0 - (((a0.toUInt64 >>> ((1 : Int32).toInt64.toUInt64 &&& Int64.toUInt64 63)).toInt64) &&& (6148914691236517205 : Int64))).toUInt64 >>> ((2 : Int32).toInt64.toUInt64 &&& Int64.toUInt64 63)).toInt64) &&& (3689348814741910323 : Int64))) + (((((a0 - (((a0.toUInt64 >>> ((1 : Int32).toInt64.toUInt64 &&& Int64.toUInt64 63)).toInt64) &&& (6148914691236517205 : Int64))) &&& (3689348814741910323 : Int64)) + ((((a0 - (((a0.toUInt64 >>> ((1 : Int32).toInt64.toUInt64 &&& Int64.toUInt64 63)).toInt64) &&& (6148914691236517205 : Int64))).toUInt64 >>> ((2 : Int32).toInt64.toUInt64 &&& Int64.toUInt64 63)).toInt64) &&& (3689348814741910323 : Int64))).toUInt64 >>> ((4 : Int32).toInt64.toUInt64 &&& Int64.toUInt64 63)).toInt64)) &&& (1085102592571150095 : Int64)).toUInt64 >>> ((8 : Int32).toInt64.toUInt64 &&& Int64.toUInt64 63)).toInt64)) + ((((((((a0 - (((a0.toUInt64 >>> ((1 : Int32).toInt64.toUInt64 &&& Int64.toUInt64 63)).toInt64) &&& (6148914691236517205 : Int64))) &&& (3689348814741910323 : Int64)) + ((((a0 - (((a0.toUInt64 >>> ((1 : Int32).toInt64.toUInt64 &&& Int64.toUInt64 63)).toInt64) &&& (6148914691236517205 : Int64))).toUInt64 >>> ((2 : Int32).toInt64.toUInt64 &&& Int64.toUInt64 63)).toInt64) &&& (3689348814741910323 : Int64))) + (((((a0 - (((a0.toUInt64 >>> ((1 : Int32).toInt64.toUInt64 &&& Int64.toUInt64 63)).toInt64) &&& (6148914691236517205 : Int64))) &&& (3689348814741910323 : Int64)) + ((((a0 - (((a0.toUInt64 >>> ((1 : Int32).toInt64.toUInt64 &&& Int64.toUInt64 63)).toInt64) &&& (6148914691236517205 : Int64))).toUInt64 >>> ((2 : Int32).toInt64.toUInt64 &&& Int64.toUInt64 63)).toInt64) &&& (3689348814741910323 : Int64))).toUInt64 >>> ((4 : Int32).toInt64.toUInt64 &&& Int64.toUInt64 63)).toInt64)) &&& (1085102592571150095 : Int64)) + (((((((a0 - (((a0.toUInt64 >>> ((1 : Int32).toInt64.toUInt64 &&& Int64.toUInt64 63)).toInt64) &&& (6148914691236517205 : Int64))) &&& (3689348814741910323 : Int64)) + ((((a0 - (((a0.toUInt64 >>> ((1 : Int32).toInt64.toUInt64 &&& Int64.toUInt64 63)).toInt64) &&& (6148914691236517205 : Int64))).toUInt64 >>> ((2 : Int32).toInt64.toUInt64 &&& Int64.toUInt64 63)).toInt64) &&& (3689348814741910323 : Int64))) + (((((a0 - (((a0.toUInt64 >>> ((1 : Int32).toInt64.toUInt64 &&& Int64.toUInt64 63)).toInt64) &&& (6148914691236517205 : Int64))) &&& (3689348814741910323 : Int64)) + ((((a0 - (((a0.toUInt64 >>> ((1 : Int32).toInt64.toUInt64 &&& Int64.toUInt64 63)).toInt64) &&& (6148914691236517205 : Int64))).toUInt64 >>> ((2 : Int32).toInt64.toUInt64 &&& Int64.toUInt64 63)).toInt64) &&& (3689348814741910323 : Int64))).toUInt64 >>> ((4 : Int32).toInt64.toUInt64 &&& Int64.toUInt64 63)).toInt64)) &&& (1085102592571150095 : Int64)).toUInt64 >>> ((8 : Int32).toInt64.toUInt64 &&& Int64.toUInt64 63)).toInt64)).toUInt64 >>> ((16 : Int32).toInt64.toUInt64 &&& Int64.toUInt64 63)).toInt64)) + (((((((((a0 - (((a0.toUInt64 >>> ((1 : Int32).toInt64.toUInt64 &&& Int64.toUInt64 63)).toInt64) &&& (6148914691236517205 : Int64))) &&& (3689348814741910323 : Int64)) + ((((a0 - (((a0.toUInt64 >>> ((1 : Int32).toInt64.toUInt64 &&& Int64.toUInt64 63)).toInt64) &&& (6148914691236517205 : Int64))).toUInt64 >>> ((2 : Int32).toInt64.toUInt64 &&& Int64.toUInt64 63)).toInt64) &&& (3689348814741910323 : Int64))) + (((((a0 - (((a0.toUInt64 >>> ((1 : Int32).toInt64.toUInt64 &&& Int64.toUInt64 63)).toInt64) &&& (6148914691236517205 : Int64))) &&& (3689348814741910323 : Int64)) + ((((a0 - (((a0.toUInt64 >>> ((1 : Int32).toInt64.toUInt64 &&& Int64.toUInt64 63)).toInt64) &&& (6148914691236517205 : Int64))).toUInt64 >>> ((2 : Int32).toInt64.toUInt64 &&& Int64.toUInt64 63)).toInt64) &&& (3689348814741910323 : Int64))).toUInt64 >>> ((4 : Int32).toInt64.toUInt64 &&& Int64.toUInt64 63)).toInt64)) &&& (1085102592571150095 : Int64)) + (((((((a0 - (((a0.toUInt64 >>> ((1 : Int32).toInt64.toUInt64 &&& Int64.toUInt64 63)).toInt64) &&& (6148914691236517205 : Int64))) &&& (3689348814741910323 : Int64)) + ((((a0 - (((a0.toUInt64 >>> ((1 : Int32).toInt64.toUInt64 &&& Int64.toUInt64 63)).toInt64) &&& (6148914691236517205 : Int64))).toUInt64 >>> ((2 : Int32).toInt64.toUInt64 &&& Int64.toUInt64 63)).toInt64) &&& (3689348814741910323 : Int64))) + (((((a0 - (((a0.toUInt64 >>> ((1 : Int32).toInt64.toUInt64 &&& Int64.toUInt64 63)).toInt64) &&& (6148914691236517205 : Int64))) &&& (3689348814741910323 : Int64)) + ((((a0 - (((a0.toUInt64 >>> ((1 : Int32).toInt64.toUInt64 &&& Int64.toUInt64 63)).toInt64) &&& (6148914691236517205 : Int64))).toUInt64 >>> ((2 : Int32).toInt64.toUInt64 &&& Int64.toUInt64 63)).toInt64) &&& (3689348814741910323 : Int64))).toUInt64 >>> ((4 : Int32).toInt64.toUInt64 &&& Int64.toUInt64 63)).toInt64)) &&& (1085102592571150095 : Int64)).toUInt64 >>> ((8 : Int32).toInt64.toUInt64 &&& Int64.toUInt64 63)).toInt64)) + ((((((((a0 - (((a0.toUInt64 >>> ((1 : Int32).toInt64.toUInt64 &&& Int64.toUInt64 63)).toInt64) &&& (6148914691236517205 : Int64))) &&& (3689348814741910323 : Int64)) + ((((a0 - (((a0.toUInt64 >>> ((1 : Int32).toInt64.toUInt64 &&& Int64.toUInt64 63)).toInt64) &&& (6148914691236517205 : Int64))).toUInt64 >>> ((2 : Int32).toInt64.toUInt64 &&& Int64.toUInt64 63)).toInt64) &&& (3689348814741910323 : Int64))) + (((((a0 - (((a0.toUInt64 >>> ((1 : Int32).toInt64.toUInt64 &&& Int64.toUInt64 63)).toInt64) &&& (6148914691236517205 : Int64))) &&& (3689348814741910323 : Int64)) + ((((a0 - (((a0.toUInt64 >>> ((1 : Int32).toInt64.toUInt64 &&& Int64.toUInt64 63)).toInt64) &&& (6148914691236517205 : Int64))).toUInt64 >>> ((2 : Int32).toInt64.toUInt64 &&& Int64.toUInt64 63)).toInt64) &&& (3689348814741910323 : Int64))).toUInt64 >>> ((4 : Int32).toInt64.toUInt64 &&& Int64.toUInt64 63)).toInt64)) &&& (1085102592571150095 : Int64)) + (((((((a0 - (((a0.toUInt64 >>> ((1 : Int32).toInt64.toUInt64 &&& Int64.toUInt64 63)).toInt64) &&& (6148914691236517205 : Int64))) &&& (3689348814741910323 : Int64)) + ((((a0 - (((a0.toUInt64 >>> ((1 : Int32).toInt64.toUInt64 &&& Int64.toUInt64 63)).toInt64) &&& (6148914691236517205 : Int64))).toUInt64 >>> ((2 : Int32).toInt64.toUInt64 &&& Int64.toUInt64 63)).toInt64) &&& (3689348814741910323 : Int64))) + (((((a0 - (((a0.toUInt64 >>> ((1 : Int32).toInt64.toUInt64 &&& Int64.toUInt64 63)).toInt64) &&& (6148914691236517205 : Int64))) &&& (3689348814741910323 : Int64)) + ((((a0 - (((a0.toUInt64 >>> ((1 : Int32).toInt64.toUInt64 &&& Int64.toUInt64 63)).toInt64) &&& (6148914691236517205 : Int64))).toUInt64 >>> ((2 : Int32).toInt64.toUInt64 &&& Int64.toUInt64 63)).toInt64) &&& (3689348814741910323 : Int64))).toUInt64 >>> ((4 : Int32).toInt64.toUInt64 &&& Int64.toUInt64 63)).toInt64)) &&& (1085102592571150095 : Int64)).toUInt64 >>> ((8 : Int32).toInt64.toUInt64 &&& Int64.toUInt64 63)).toInt64)).toUInt64 >>> ((16 : Int32).toInt64.toUInt64 &&& Int64.toUInt64 63)).toInt64)).toUInt64 >>> ((32 : Int32).toInt64.toUInt64 &&& Int64.toUInt64 63)).toInt64)).toInt32) &&& (127 : Int32))
set_option maxRecDepth 100000 in
set_option maxHeartbeats 4000000 in
theorem C_J13_bitCount_95d88 {X : pX} {Q : pO → Nat → pF → Prop} (S : pS) (a0 : Int64) (r : Int32) (hf : F_J13_bitCount_95d88 S a0 = some r) (hk : Q (.inl (some (.int r))) S.1 S.2) : gC X mJ13_bitCount_95d88 [.long a0] S.1 S.2 Q 0 0 := by
  refine gC_of (by decide) (Nat.le_of_ble_eq_true rfl) ?_
  change gW _ _ _ [some (.long a0), none] _ _ _ _ _ _
  unfold F_J13_bitCount_95d88 at hf
  refine r_lload_n (pc := 0) dJ13_bitCount_95d88_0 rfl ?_
  refine r_lload_n (pc := 1) dJ13_bitCount_95d88_1 rfl ?_
  refine r_iconst (pc := 2) (1 : Int32) dJ13_bitCount_95d88_2 (by decide) ?_
  refine r_lushr (pc := 3) dJ13_bitCount_95d88_3 ?_
  refine r_ldc2 (pc := 4) dJ13_bitCount_95d88_4 kJ13_314 ?_
  refine r_land (pc := 7) dJ13_bitCount_95d88_7 ?_
  refine r_lsub (pc := 8) dJ13_bitCount_95d88_8 ?_
  refine r_lstore_n (pc := 9) dJ13_bitCount_95d88_9 (by decide) ?_
  change gW _ _ _ [some (.long (a0 - (((a0.toUInt64 >>> ((1 : Int32).toInt64.toUInt64 &&& Int64.toUInt64 63)).toInt64) &&& (6148914691236517205 : Int64)))), none] _ _ _ _ _ _
  refine r_lload_n (pc := 10) dJ13_bitCount_95d88_10 rfl ?_
  refine r_ldc2 (pc := 11) dJ13_bitCount_95d88_11 kJ13_316 ?_
  refine r_land (pc := 14) dJ13_bitCount_95d88_14 ?_
  refine r_lload_n (pc := 15) dJ13_bitCount_95d88_15 rfl ?_
  refine r_iconst (pc := 16) (2 : Int32) dJ13_bitCount_95d88_16 (by decide) ?_
  refine r_lushr (pc := 17) dJ13_bitCount_95d88_17 ?_
  refine r_ldc2 (pc := 18) dJ13_bitCount_95d88_18 kJ13_316 ?_
  refine r_land (pc := 21) dJ13_bitCount_95d88_21 ?_
  refine r_ladd (pc := 22) dJ13_bitCount_95d88_22 ?_
  refine r_lstore_n (pc := 23) dJ13_bitCount_95d88_23 (by decide) ?_
  change gW _ _ _ [some (.long (((a0 - (((a0.toUInt64 >>> ((1 : Int32).toInt64.toUInt64 &&& Int64.toUInt64 63)).toInt64) &&& (6148914691236517205 : Int64))) &&& (3689348814741910323 : Int64)) + ((((a0 - (((a0.toUInt64 >>> ((1 : Int32).toInt64.toUInt64 &&& Int64.toUInt64 63)).toInt64) &&& (6148914691236517205 : Int64))).toUInt64 >>> ((2 : Int32).toInt64.toUInt64 &&& Int64.toUInt64 63)).toInt64) &&& (3689348814741910323 : Int64)))), none] _ _ _ _ _ _
  refine r_lload_n (pc := 24) dJ13_bitCount_95d88_24 rfl ?_
  refine r_lload_n (pc := 25) dJ13_bitCount_95d88_25 rfl ?_
  refine r_iconst (pc := 26) (4 : Int32) dJ13_bitCount_95d88_26 (by decide) ?_
  refine r_lushr (pc := 27) dJ13_bitCount_95d88_27 ?_
  refine r_ladd (pc := 28) dJ13_bitCount_95d88_28 ?_
  refine r_ldc2 (pc := 29) dJ13_bitCount_95d88_29 kJ13_318 ?_
  refine r_land (pc := 32) dJ13_bitCount_95d88_32 ?_
  refine r_lstore_n (pc := 33) dJ13_bitCount_95d88_33 (by decide) ?_
  change gW _ _ _ [some (.long (((((a0 - (((a0.toUInt64 >>> ((1 : Int32).toInt64.toUInt64 &&& Int64.toUInt64 63)).toInt64) &&& (6148914691236517205 : Int64))) &&& (3689348814741910323 : Int64)) + ((((a0 - (((a0.toUInt64 >>> ((1 : Int32).toInt64.toUInt64 &&& Int64.toUInt64 63)).toInt64) &&& (6148914691236517205 : Int64))).toUInt64 >>> ((2 : Int32).toInt64.toUInt64 &&& Int64.toUInt64 63)).toInt64) &&& (3689348814741910323 : Int64))) + (((((a0 - (((a0.toUInt64 >>> ((1 : Int32).toInt64.toUInt64 &&& Int64.toUInt64 63)).toInt64) &&& (6148914691236517205 : Int64))) &&& (3689348814741910323 : Int64)) + ((((a0 - (((a0.toUInt64 >>> ((1 : Int32).toInt64.toUInt64 &&& Int64.toUInt64 63)).toInt64) &&& (6148914691236517205 : Int64))).toUInt64 >>> ((2 : Int32).toInt64.toUInt64 &&& Int64.toUInt64 63)).toInt64) &&& (3689348814741910323 : Int64))).toUInt64 >>> ((4 : Int32).toInt64.toUInt64 &&& Int64.toUInt64 63)).toInt64)) &&& (1085102592571150095 : Int64))), none] _ _ _ _ _ _
  refine r_lload_n (pc := 34) dJ13_bitCount_95d88_34 rfl ?_
  refine r_lload_n (pc := 35) dJ13_bitCount_95d88_35 rfl ?_
  refine r_bipush (pc := 36) (8 : Int32) dJ13_bitCount_95d88_36 (by decide) ?_
  refine r_lushr (pc := 38) dJ13_bitCount_95d88_38 ?_
  refine r_ladd (pc := 39) dJ13_bitCount_95d88_39 ?_
  refine r_lstore_n (pc := 40) dJ13_bitCount_95d88_40 (by decide) ?_
  change gW _ _ _ [some (.long ((((((a0 - (((a0.toUInt64 >>> ((1 : Int32).toInt64.toUInt64 &&& Int64.toUInt64 63)).toInt64) &&& (6148914691236517205 : Int64))) &&& (3689348814741910323 : Int64)) + ((((a0 - (((a0.toUInt64 >>> ((1 : Int32).toInt64.toUInt64 &&& Int64.toUInt64 63)).toInt64) &&& (6148914691236517205 : Int64))).toUInt64 >>> ((2 : Int32).toInt64.toUInt64 &&& Int64.toUInt64 63)).toInt64) &&& (3689348814741910323 : Int64))) + (((((a0 - (((a0.toUInt64 >>> ((1 : Int32).toInt64.toUInt64 &&& Int64.toUInt64 63)).toInt64) &&& (6148914691236517205 : Int64))) &&& (3689348814741910323 : Int64)) + ((((a0 - (((a0.toUInt64 >>> ((1 : Int32).toInt64.toUInt64 &&& Int64.toUInt64 63)).toInt64) &&& (6148914691236517205 : Int64))).toUInt64 >>> ((2 : Int32).toInt64.toUInt64 &&& Int64.toUInt64 63)).toInt64) &&& (3689348814741910323 : Int64))).toUInt64 >>> ((4 : Int32).toInt64.toUInt64 &&& Int64.toUInt64 63)).toInt64)) &&& (1085102592571150095 : Int64)) + (((((((a0 - (((a0.toUInt64 >>> ((1 : Int32).toInt64.toUInt64 &&& Int64.toUInt64 63)).toInt64) &&& (6148914691236517205 : Int64))) &&& (3689348814741910323 : Int64)) + ((((a0 - (((a0.toUInt64 >>> ((1 : Int32).toInt64.toUInt64 &&& Int64.toUInt64 63)).toInt64) &&& (6148914691236517205 : Int64))).toUInt64 >>> ((2 : Int32).toInt64.toUInt64 &&& Int64.toUInt64 63)).toInt64) &&& (3689348814741910323 : Int64))) + (((((a0 - (((a0.toUInt64 >>> ((1 : Int32).toInt64.toUInt64 &&& Int64.toUInt64 63)).toInt64) &&& (6148914691236517205 : Int64))) &&& (3689348814741910323 : Int64)) + ((((a0 - (((a0.toUInt64 >>> ((1 : Int32).toInt64.toUInt64 &&& Int64.toUInt64 63)).toInt64) &&& (6148914691236517205 : Int64))).toUInt64 >>> ((2 : Int32).toInt64.toUInt64 &&& Int64.toUInt64 63)).toInt64) &&& (3689348814741910323 : Int64))).toUInt64 >>> ((4 : Int32).toInt64.toUInt64 &&& Int64.toUInt64 63)).toInt64)) &&& (1085102592571150095 : Int64)).toUInt64 >>> ((8 : Int32).toInt64.toUInt64 &&& Int64.toUInt64 63)).toInt64))), none] _ _ _ _ _ _
  refine r_lload_n (pc := 41) dJ13_bitCount_95d88_41 rfl ?_
  refine r_lload_n (pc := 42) dJ13_bitCount_95d88_42 rfl ?_
  refine r_bipush (pc := 43) (16 : Int32) dJ13_bitCount_95d88_43 (by decide) ?_
  refine r_lushr (pc := 45) dJ13_bitCount_95d88_45 ?_
  refine r_ladd (pc := 46) dJ13_bitCount_95d88_46 ?_
  refine r_lstore_n (pc := 47) dJ13_bitCount_95d88_47 (by decide) ?_
  change gW _ _ _ [some (.long (((((((a0 - (((a0.toUInt64 >>> ((1 : Int32).toInt64.toUInt64 &&& Int64.toUInt64 63)).toInt64) &&& (6148914691236517205 : Int64))) &&& (3689348814741910323 : Int64)) + ((((a0 - (((a0.toUInt64 >>> ((1 : Int32).toInt64.toUInt64 &&& Int64.toUInt64 63)).toInt64) &&& (6148914691236517205 : Int64))).toUInt64 >>> ((2 : Int32).toInt64.toUInt64 &&& Int64.toUInt64 63)).toInt64) &&& (3689348814741910323 : Int64))) + (((((a0 - (((a0.toUInt64 >>> ((1 : Int32).toInt64.toUInt64 &&& Int64.toUInt64 63)).toInt64) &&& (6148914691236517205 : Int64))) &&& (3689348814741910323 : Int64)) + ((((a0 - (((a0.toUInt64 >>> ((1 : Int32).toInt64.toUInt64 &&& Int64.toUInt64 63)).toInt64) &&& (6148914691236517205 : Int64))).toUInt64 >>> ((2 : Int32).toInt64.toUInt64 &&& Int64.toUInt64 63)).toInt64) &&& (3689348814741910323 : Int64))).toUInt64 >>> ((4 : Int32).toInt64.toUInt64 &&& Int64.toUInt64 63)).toInt64)) &&& (1085102592571150095 : Int64)) + (((((((a0 - (((a0.toUInt64 >>> ((1 : Int32).toInt64.toUInt64 &&& Int64.toUInt64 63)).toInt64) &&& (6148914691236517205 : Int64))) &&& (3689348814741910323 : Int64)) + ((((a0 - (((a0.toUInt64 >>> ((1 : Int32).toInt64.toUInt64 &&& Int64.toUInt64 63)).toInt64) &&& (6148914691236517205 : Int64))).toUInt64 >>> ((2 : Int32).toInt64.toUInt64 &&& Int64.toUInt64 63)).toInt64) &&& (3689348814741910323 : Int64))) + (((((a0 - (((a0.toUInt64 >>> ((1 : Int32).toInt64.toUInt64 &&& Int64.toUInt64 63)).toInt64) &&& (6148914691236517205 : Int64))) &&& (3689348814741910323 : Int64)) + ((((a0 - (((a0.toUInt64 >>> ((1 : Int32).toInt64.toUInt64 &&& Int64.toUInt64 63)).toInt64) &&& (6148914691236517205 : Int64))).toUInt64 >>> ((2 : Int32).toInt64.toUInt64 &&& Int64.toUInt64 63)).toInt64) &&& (3689348814741910323 : Int64))).toUInt64 >>> ((4 : Int32).toInt64.toUInt64 &&& Int64.toUInt64 63)).toInt64)) &&& (1085102592571150095 : Int64)).toUInt64 >>> ((8 : Int32).toInt64.toUInt64 &&& Int64.toUInt64 63)).toInt64)) + ((((((((a0 - (((a0.toUInt64 >>> ((1 : Int32).toInt64.toUInt64 &&& Int64.toUInt64 63)).toInt64) &&& (6148914691236517205 : Int64))) &&& (3689348814741910323 : Int64)) + ((((a0 - (((a0.toUInt64 >>> ((1 : Int32).toInt64.toUInt64 &&& Int64.toUInt64 63)).toInt64) &&& (6148914691236517205 : Int64))).toUInt64 >>> ((2 : Int32).toInt64.toUInt64 &&& Int64.toUInt64 63)).toInt64) &&& (3689348814741910323 : Int64))) + (((((a0 - (((a0.toUInt64 >>> ((1 : Int32).toInt64.toUInt64 &&& Int64.toUInt64 63)).toInt64) &&& (6148914691236517205 : Int64))) &&& (3689348814741910323 : Int64)) + ((((a0 - (((a0.toUInt64 >>> ((1 : Int32).toInt64.toUInt64 &&& Int64.toUInt64 63)).toInt64) &&& (6148914691236517205 : Int64))).toUInt64 >>> ((2 : Int32).toInt64.toUInt64 &&& Int64.toUInt64 63)).toInt64) &&& (3689348814741910323 : Int64))).toUInt64 >>> ((4 : Int32).toInt64.toUInt64 &&& Int64.toUInt64 63)).toInt64)) &&& (1085102592571150095 : Int64)) + (((((((a0 - (((a0.toUInt64 >>> ((1 : Int32).toInt64.toUInt64 &&& Int64.toUInt64 63)).toInt64) &&& (6148914691236517205 : Int64))) &&& (3689348814741910323 : Int64)) + ((((a0 - (((a0.toUInt64 >>> ((1 : Int32).toInt64.toUInt64 &&& Int64.toUInt64 63)).toInt64) &&& (6148914691236517205 : Int64))).toUInt64 >>> ((2 : Int32).toInt64.toUInt64 &&& Int64.toUInt64 63)).toInt64) &&& (3689348814741910323 : Int64))) + (((((a0 - (((a0.toUInt64 >>> ((1 : Int32).toInt64.toUInt64 &&& Int64.toUInt64 63)).toInt64) &&& (6148914691236517205 : Int64))) &&& (3689348814741910323 : Int64)) + ((((a0 - (((a0.toUInt64 >>> ((1 : Int32).toInt64.toUInt64 &&& Int64.toUInt64 63)).toInt64) &&& (6148914691236517205 : Int64))).toUInt64 >>> ((2 : Int32).toInt64.toUInt64 &&& Int64.toUInt64 63)).toInt64) &&& (3689348814741910323 : Int64))).toUInt64 >>> ((4 : Int32).toInt64.toUInt64 &&& Int64.toUInt64 63)).toInt64)) &&& (1085102592571150095 : Int64)).toUInt64 >>> ((8 : Int32).toInt64.toUInt64 &&& Int64.toUInt64 63)).toInt64)).toUInt64 >>> ((16 : Int32).toInt64.toUInt64 &&& Int64.toUInt64 63)).toInt64))), none] _ _ _ _ _ _
  refine r_lload_n (pc := 48) dJ13_bitCount_95d88_48 rfl ?_
  refine r_lload_n (pc := 49) dJ13_bitCount_95d88_49 rfl ?_
  refine r_bipush (pc := 50) (32 : Int32) dJ13_bitCount_95d88_50 (by decide) ?_
  refine r_lushr (pc := 52) dJ13_bitCount_95d88_52 ?_
  refine r_ladd (pc := 53) dJ13_bitCount_95d88_53 ?_
  refine r_lstore_n (pc := 54) dJ13_bitCount_95d88_54 (by decide) ?_
  change gW _ _ _ [some (.long ((((((((a0 - (((a0.toUInt64 >>> ((1 : Int32).toInt64.toUInt64 &&& Int64.toUInt64 63)).toInt64) &&& (6148914691236517205 : Int64))) &&& (3689348814741910323 : Int64)) + ((((a0 - (((a0.toUInt64 >>> ((1 : Int32).toInt64.toUInt64 &&& Int64.toUInt64 63)).toInt64) &&& (6148914691236517205 : Int64))).toUInt64 >>> ((2 : Int32).toInt64.toUInt64 &&& Int64.toUInt64 63)).toInt64) &&& (3689348814741910323 : Int64))) + (((((a0 - (((a0.toUInt64 >>> ((1 : Int32).toInt64.toUInt64 &&& Int64.toUInt64 63)).toInt64) &&& (6148914691236517205 : Int64))) &&& (3689348814741910323 : Int64)) + ((((a0 - (((a0.toUInt64 >>> ((1 : Int32).toInt64.toUInt64 &&& Int64.toUInt64 63)).toInt64) &&& (6148914691236517205 : Int64))).toUInt64 >>> ((2 : Int32).toInt64.toUInt64 &&& Int64.toUInt64 63)).toInt64) &&& (3689348814741910323 : Int64))).toUInt64 >>> ((4 : Int32).toInt64.toUInt64 &&& Int64.toUInt64 63)).toInt64)) &&& (1085102592571150095 : Int64)) + (((((((a0 - (((a0.toUInt64 >>> ((1 : Int32).toInt64.toUInt64 &&& Int64.toUInt64 63)).toInt64) &&& (6148914691236517205 : Int64))) &&& (3689348814741910323 : Int64)) + ((((a0 - (((a0.toUInt64 >>> ((1 : Int32).toInt64.toUInt64 &&& Int64.toUInt64 63)).toInt64) &&& (6148914691236517205 : Int64))).toUInt64 >>> ((2 : Int32).toInt64.toUInt64 &&& Int64.toUInt64 63)).toInt64) &&& (3689348814741910323 : Int64))) + (((((a0 - (((a0.toUInt64 >>> ((1 : Int32).toInt64.toUInt64 &&& Int64.toUInt64 63)).toInt64) &&& (6148914691236517205 : Int64))) &&& (3689348814741910323 : Int64)) + ((((a0 - (((a0.toUInt64 >>> ((1 : Int32).toInt64.toUInt64 &&& Int64.toUInt64 63)).toInt64) &&& (6148914691236517205 : Int64))).toUInt64 >>> ((2 : Int32).toInt64.toUInt64 &&& Int64.toUInt64 63)).toInt64) &&& (3689348814741910323 : Int64))).toUInt64 >>> ((4 : Int32).toInt64.toUInt64 &&& Int64.toUInt64 63)).toInt64)) &&& (1085102592571150095 : Int64)).toUInt64 >>> ((8 : Int32).toInt64.toUInt64 &&& Int64.toUInt64 63)).toInt64)) + ((((((((a0 - (((a0.toUInt64 >>> ((1 : Int32).toInt64.toUInt64 &&& Int64.toUInt64 63)).toInt64) &&& (6148914691236517205 : Int64))) &&& (3689348814741910323 : Int64)) + ((((a0 - (((a0.toUInt64 >>> ((1 : Int32).toInt64.toUInt64 &&& Int64.toUInt64 63)).toInt64) &&& (6148914691236517205 : Int64))).toUInt64 >>> ((2 : Int32).toInt64.toUInt64 &&& Int64.toUInt64 63)).toInt64) &&& (3689348814741910323 : Int64))) + (((((a0 - (((a0.toUInt64 >>> ((1 : Int32).toInt64.toUInt64 &&& Int64.toUInt64 63)).toInt64) &&& (6148914691236517205 : Int64))) &&& (3689348814741910323 : Int64)) + ((((a0 - (((a0.toUInt64 >>> ((1 : Int32).toInt64.toUInt64 &&& Int64.toUInt64 63)).toInt64) &&& (6148914691236517205 : Int64))).toUInt64 >>> ((2 : Int32).toInt64.toUInt64 &&& Int64.toUInt64 63)).toInt64) &&& (3689348814741910323 : Int64))).toUInt64 >>> ((4 : Int32).toInt64.toUInt64 &&& Int64.toUInt64 63)).toInt64)) &&& (1085102592571150095 : Int64)) + (((((((a0 - (((a0.toUInt64 >>> ((1 : Int32).toInt64.toUInt64 &&& Int64.toUInt64 63)).toInt64) &&& (6148914691236517205 : Int64))) &&& (3689348814741910323 : Int64)) + ((((a0 - (((a0.toUInt64 >>> ((1 : Int32).toInt64.toUInt64 &&& Int64.toUInt64 63)).toInt64) &&& (6148914691236517205 : Int64))).toUInt64 >>> ((2 : Int32).toInt64.toUInt64 &&& Int64.toUInt64 63)).toInt64) &&& (3689348814741910323 : Int64))) + (((((a0 - (((a0.toUInt64 >>> ((1 : Int32).toInt64.toUInt64 &&& Int64.toUInt64 63)).toInt64) &&& (6148914691236517205 : Int64))) &&& (3689348814741910323 : Int64)) + ((((a0 - (((a0.toUInt64 >>> ((1 : Int32).toInt64.toUInt64 &&& Int64.toUInt64 63)).toInt64) &&& (6148914691236517205 : Int64))).toUInt64 >>> ((2 : Int32).toInt64.toUInt64 &&& Int64.toUInt64 63)).toInt64) &&& (3689348814741910323 : Int64))).toUInt64 >>> ((4 : Int32).toInt64.toUInt64 &&& Int64.toUInt64 63)).toInt64)) &&& (1085102592571150095 : Int64)).toUInt64 >>> ((8 : Int32).toInt64.toUInt64 &&& Int64.toUInt64 63)).toInt64)).toUInt64 >>> ((16 : Int32).toInt64.toUInt64 &&& Int64.toUInt64 63)).toInt64)) + (((((((((a0 - (((a0.toUInt64 >>> ((1 : Int32).toInt64.toUInt64 &&& Int64.toUInt64 63)).toInt64) &&& (6148914691236517205 : Int64))) &&& (3689348814741910323 : Int64)) + ((((a0 - (((a0.toUInt64 >>> ((1 : Int32).toInt64.toUInt64 &&& Int64.toUInt64 63)).toInt64) &&& (6148914691236517205 : Int64))).toUInt64 >>> ((2 : Int32).toInt64.toUInt64 &&& Int64.toUInt64 63)).toInt64) &&& (3689348814741910323 : Int64))) + (((((a0 - (((a0.toUInt64 >>> ((1 : Int32).toInt64.toUInt64 &&& Int64.toUInt64 63)).toInt64) &&& (6148914691236517205 : Int64))) &&& (3689348814741910323 : Int64)) + ((((a0 - (((a0.toUInt64 >>> ((1 : Int32).toInt64.toUInt64 &&& Int64.toUInt64 63)).toInt64) &&& (6148914691236517205 : Int64))).toUInt64 >>> ((2 : Int32).toInt64.toUInt64 &&& Int64.toUInt64 63)).toInt64) &&& (3689348814741910323 : Int64))).toUInt64 >>> ((4 : Int32).toInt64.toUInt64 &&& Int64.toUInt64 63)).toInt64)) &&& (1085102592571150095 : Int64)) + (((((((a0 - (((a0.toUInt64 >>> ((1 : Int32).toInt64.toUInt64 &&& Int64.toUInt64 63)).toInt64) &&& (6148914691236517205 : Int64))) &&& (3689348814741910323 : Int64)) + ((((a0 - (((a0.toUInt64 >>> ((1 : Int32).toInt64.toUInt64 &&& Int64.toUInt64 63)).toInt64) &&& (6148914691236517205 : Int64))).toUInt64 >>> ((2 : Int32).toInt64.toUInt64 &&& Int64.toUInt64 63)).toInt64) &&& (3689348814741910323 : Int64))) + (((((a0 - (((a0.toUInt64 >>> ((1 : Int32).toInt64.toUInt64 &&& Int64.toUInt64 63)).toInt64) &&& (6148914691236517205 : Int64))) &&& (3689348814741910323 : Int64)) + ((((a0 - (((a0.toUInt64 >>> ((1 : Int32).toInt64.toUInt64 &&& Int64.toUInt64 63)).toInt64) &&& (6148914691236517205 : Int64))).toUInt64 >>> ((2 : Int32).toInt64.toUInt64 &&& Int64.toUInt64 63)).toInt64) &&& (3689348814741910323 : Int64))).toUInt64 >>> ((4 : Int32).toInt64.toUInt64 &&& Int64.toUInt64 63)).toInt64)) &&& (1085102592571150095 : Int64)).toUInt64 >>> ((8 : Int32).toInt64.toUInt64 &&& Int64.toUInt64 63)).toInt64)) + ((((((((a0 - (((a0.toUInt64 >>> ((1 : Int32).toInt64.toUInt64 &&& Int64.toUInt64 63)).toInt64) &&& (6148914691236517205 : Int64))) &&& (3689348814741910323 : Int64)) + ((((a0 - (((a0.toUInt64 >>> ((1 : Int32).toInt64.toUInt64 &&& Int64.toUInt64 63)).toInt64) &&& (6148914691236517205 : Int64))).toUInt64 >>> ((2 : Int32).toInt64.toUInt64 &&& Int64.toUInt64 63)).toInt64) &&& (3689348814741910323 : Int64))) + (((((a0 - (((a0.toUInt64 >>> ((1 : Int32).toInt64.toUInt64 &&& Int64.toUInt64 63)).toInt64) &&& (6148914691236517205 : Int64))) &&& (3689348814741910323 : Int64)) + ((((a0 - (((a0.toUInt64 >>> ((1 : Int32).toInt64.toUInt64 &&& Int64.toUInt64 63)).toInt64) &&& (6148914691236517205 : Int64))).toUInt64 >>> ((2 : Int32).toInt64.toUInt64 &&& Int64.toUInt64 63)).toInt64) &&& (3689348814741910323 : Int64))).toUInt64 >>> ((4 : Int32).toInt64.toUInt64 &&& Int64.toUInt64 63)).toInt64)) &&& (1085102592571150095 : Int64)) + (((((((a0 - (((a0.toUInt64 >>> ((1 : Int32).toInt64.toUInt64 &&& Int64.toUInt64 63)).toInt64) &&& (6148914691236517205 : Int64))) &&& (3689348814741910323 : Int64)) + ((((a0 - (((a0.toUInt64 >>> ((1 : Int32).toInt64.toUInt64 &&& Int64.toUInt64 63)).toInt64) &&& (6148914691236517205 : Int64))).toUInt64 >>> ((2 : Int32).toInt64.toUInt64 &&& Int64.toUInt64 63)).toInt64) &&& (3689348814741910323 : Int64))) + (((((a0 - (((a0.toUInt64 >>> ((1 : Int32).toInt64.toUInt64 &&& Int64.toUInt64 63)).toInt64) &&& (6148914691236517205 : Int64))) &&& (3689348814741910323 : Int64)) + ((((a0 - (((a0.toUInt64 >>> ((1 : Int32).toInt64.toUInt64 &&& Int64.toUInt64 63)).toInt64) &&& (6148914691236517205 : Int64))).toUInt64 >>> ((2 : Int32).toInt64.toUInt64 &&& Int64.toUInt64 63)).toInt64) &&& (3689348814741910323 : Int64))).toUInt64 >>> ((4 : Int32).toInt64.toUInt64 &&& Int64.toUInt64 63)).toInt64)) &&& (1085102592571150095 : Int64)).toUInt64 >>> ((8 : Int32).toInt64.toUInt64 &&& Int64.toUInt64 63)).toInt64)).toUInt64 >>> ((16 : Int32).toInt64.toUInt64 &&& Int64.toUInt64 63)).toInt64)).toUInt64 >>> ((32 : Int32).toInt64.toUInt64 &&& Int64.toUInt64 63)).toInt64))), none] _ _ _ _ _ _
  refine r_lload_n (pc := 55) dJ13_bitCount_95d88_55 rfl ?_
  refine r_l2i (pc := 56) dJ13_bitCount_95d88_56 ?_
  refine r_bipush (pc := 57) (127 : Int32) dJ13_bitCount_95d88_57 (by decide) ?_
  refine r_iand (pc := 59) dJ13_bitCount_95d88_59 ?_
  refine r_ireturn (pc := 60) .int dJ13_bitCount_95d88_60 rfl rfl ?_
  cases hf
  exact hk
def F_X8_countItems (S : pS) (a0 : Nat) : Option (Int32) := (oF S a0 8).bind fun _ => (oGJ S a0 8 6).bind fun x1 => (F_J13_bitCount_95d88 S x1).bind fun q3 => some q3
set_option maxRecDepth 100000 in
set_option maxHeartbeats 4000000 in
theorem C_X8_countItems {X : pX} {Q : pO → Nat → pF → Prop} (S : pS) (a0 : Nat) (r : Int32) (hf : F_X8_countItems S a0 = some r) (hk : Q (.inl (some (.int r))) S.1 S.2) : gC X mX8_countItems [.ref a0] S.1 S.2 Q 0 0 := by
  refine gC_of (by decide) (Nat.le_of_ble_eq_true rfl) ?_
  change gW _ _ _ [some (.ref a0)] _ _ _ _ _ _
  unfold F_X8_countItems at hf
  obtain ⟨_, _, hf⟩ := obind hf
  refine r_aload_n (pc := 0) dX8_countItems_0 rfl ?_
  obtain ⟨x1, e2, hf⟩ := obind hf
  refine q_getJ (pc := 1) dX8_countItems_1 gX8_31 e2 ?_
  obtain ⟨q3, e4, hf⟩ := obind hf
  refine q_callS (pc := 4) (v := some (.int q3)) (S' := S) mJ13_bitCount_95d88 [.long x1] dX8_countItems_4 kX8_55 fJ13_bitCount_95d88 sJ13_bitCount_95d88 ⟨by decide, by decide⟩ rfl rfl (Nat.le_of_ble_eq_true rfl) (mc1 := 0) (ms1 := 0) (mc2 := 0) (ms2 := 0) (by decide) (by decide) (C_J13_bitCount_95d88 S x1 q3 e4 (qR_mk _ _)) ?_
  change gW _ _ _ _ (.int q3 :: _) _ _ _ _ _
  refine r_ireturn (pc := 7) .int dX8_countItems_7 rfl rfl ?_
  cases hf
  exact hk
def F_X6_ordersAll (S : pS) (a0 : Nat) (a1 : Nat) : Option (Int32) := (oF S a0 6).bind fun _ => (oGI S a0 6 3).bind fun x1 => (F_X8_countItems S a1).bind fun q3 => if ¬ x1 = q3 then (some (0 : Int32)) else (some (1 : Int32))
set_option maxRecDepth 100000 in
set_option maxHeartbeats 4000000 in
theorem C_X6_ordersAll {X : pX} {Q : pO → Nat → pF → Prop} (S : pS) (a0 : Nat) (a1 : Nat) (r : Int32) (hf : F_X6_ordersAll S a0 a1 = some r) (hk : Q (.inl (some (.int r))) S.1 S.2) : gC X mX6_ordersAll [.ref a0, .ref a1] S.1 S.2 Q 0 0 := by
  refine gC_of (by decide) (Nat.le_of_ble_eq_true rfl) ?_
  change gW _ _ _ [some (.ref a0), some (.ref a1)] _ _ _ _ _ _
  unfold F_X6_ordersAll at hf
  obtain ⟨_, _, hf⟩ := obind hf
  refine r_aload_n (pc := 0) dX6_ordersAll_0 rfl ?_
  obtain ⟨x1, e2, hf⟩ := obind hf
  refine q_getI (pc := 1) dX6_ordersAll_1 gX6_21 e2 ?_
  refine r_aload_n (pc := 4) dX6_ordersAll_4 rfl ?_
  obtain ⟨q3, e4, hf⟩ := obind hf
  refine q_callV (pc := 5) (v := some (.int q3)) (S' := S) mX8_countItems 8 [] dX6_ordersAll_5 kX6_90 fX8_countItems iX8_countItems ⟨by decide, by decide⟩ rfl rfl rfl (Nat.le_of_ble_eq_true rfl) (og e4) (mc1 := 0) (ms1 := 0) (mc2 := 0) (ms2 := 0) (by decide) (by decide) (C_X8_countItems S a1 q3 e4 (qR_mk _ _)) ?_
  change gW _ _ _ _ (.int q3 :: _) _ _ _ _ _
  refine r_icmp_ne (pc := 8) 15 dX6_ordersAll_8 (by decide) (fun hc => ?_) (fun hc => ?_)
  · rw [if_pos hc] at hf
    refine r_iconst (pc := 15) (0 : Int32) dX6_ordersAll_15 (by decide) ?_
    refine r_ireturn (pc := 16) .boolean dX6_ordersAll_16 rfl rfl ?_
    cases hf
    exact hk
  · rw [if_neg hc] at hf
    refine r_iconst (pc := 11) (1 : Int32) dX6_ordersAll_11 (by decide) ?_
    refine r_goto (pc := 12) 16 dX6_ordersAll_12 (by decide) ?_
    refine r_ireturn (pc := 16) .boolean dX6_ordersAll_16 rfl rfl ?_
    cases hf
    exact hk
abbrev L_X6_sumOfPlaces_4 (l0 : Nat) (l1 : Nat) (S : pS) : Int32 × Int32 → List (Option Value) := fun a => [some (.ref l0), some (.ref l1), some (.int a.1), some (.int a.2)]
abbrev s_X6_sumOfPlaces_4 (l0 : Nat) (l1 : Nat) (S : pS) : Int32 × Int32 → pS := fun a => S
abbrev K_X6_sumOfPlaces_4 (X : pX) (Q : pO → Nat → pF → Prop) (mc ms : Nat) (l0 : Nat) (l1 : Nat) (S : pS) : Int32 → Prop := (fun b => gW X mX6_sumOfPlaces 37 [some (.ref l0), some (.ref l1), some (.int b), none] [] S.1 S.2 Q mc ms)
def F_X6_sumOfPlaces_4 (l0 : Nat) (l1 : Nat) (S : pS) : Int32 × Int32 → Option ((Int32 × Int32) ⊕ (Int32)) := fun a => if (61 : Int32) ≤ a.2 then (some (.inr a.1)) else ((F_X8_holds S l1 a.2).bind fun q1 => if q1 = 0 then (some (.inl (a.1 + (0 : Int32), a.2 + (1 : Int32)))) else ((oGA S l0 6 4).bind fun x3 => (oAI S x3 .int a.2).bind fun x5 => some (.inl (a.1 + x5, a.2 + (1 : Int32)))))
set_option maxRecDepth 100000 in
set_option maxHeartbeats 4000000 in
theorem W_X6_sumOfPlaces_4 {X : pX} {Q : pO → Nat → pF → Prop} {mc ms : Nat} (l0 : Nat) (l1 : Nat) (S : pS) : ∀ (a : Int32 × Int32) (r : (Int32 × Int32) ⊕ (Int32)), F_X6_sumOfPlaces_4 l0 l1 S a = some r → Sum.elim (fun a' => gW X mX6_sumOfPlaces 4 (L_X6_sumOfPlaces_4 l0 l1 S a') [] (s_X6_sumOfPlaces_4 l0 l1 S a').1 (s_X6_sumOfPlaces_4 l0 l1 S a').2 Q mc ms) (K_X6_sumOfPlaces_4 X Q mc ms l0 l1 S) r → gW X mX6_sumOfPlaces 4 (L_X6_sumOfPlaces_4 l0 l1 S a) [] (s_X6_sumOfPlaces_4 l0 l1 S a).1 (s_X6_sumOfPlaces_4 l0 l1 S a).2 Q mc ms := by
  intro a r hf hk
  obtain ⟨l2, l3⟩ := a
  unfold F_X6_sumOfPlaces_4 at hf
  try dsimp only at hf
  change gW _ _ _ [some (.ref l0), some (.ref l1), some (.int l2), some (.int l3)] _ S.1 S.2 _ _ _
  refine r_iload_n (pc := 4) dX6_sumOfPlaces_4 rfl ?_
  refine r_bipush (pc := 5) (61 : Int32) dX6_sumOfPlaces_5 (by decide) ?_
  refine r_icmp_ge (pc := 7) 37 dX6_sumOfPlaces_7 (by decide) (fun hc => ?_) (fun hc => ?_)
  · rw [if_pos hc] at hf
    cases hf
    exact gW.weak (by simp [gle]) hk
  · rw [if_neg hc] at hf
    refine r_iload_n (pc := 10) dX6_sumOfPlaces_10 rfl ?_
    refine r_aload_n (pc := 11) dX6_sumOfPlaces_11 rfl ?_
    refine r_iload_n (pc := 12) dX6_sumOfPlaces_12 rfl ?_
    obtain ⟨q1, e2, hf⟩ := obind hf
    refine q_callV (pc := 13) (v := some (.int q1)) (S' := S) mX8_holds 8 [.int l3] dX6_sumOfPlaces_13 kX6_51 fX8_holds iX8_holds ⟨by decide, by decide⟩ rfl rfl rfl (Nat.le_of_ble_eq_true rfl) (og e2) (mc1 := 0) (ms1 := 0) (mc2 := mc) (ms2 := ms) (by omega) (by omega) (C_X8_holds S l1 l3 q1 e2 (qR_mk _ _)) ?_
    change gW _ _ _ _ (.int q1 :: _) _ _ _ _ _
    refine r_if_eq (pc := 16) 28 dX6_sumOfPlaces_16 (by decide) (fun hc => ?_) (fun hc => ?_)
    · rw [if_pos hc] at hf
      refine r_iconst (pc := 28) (0 : Int32) dX6_sumOfPlaces_28 (by decide) ?_
      refine r_iadd (pc := 29) dX6_sumOfPlaces_29 ?_
      refine r_istore_n (pc := 30) dX6_sumOfPlaces_30 (by decide) ?_
      change gW _ _ _ [some (.ref l0), some (.ref l1), some (.int (l2 + (0 : Int32))), some (.int l3)] _ _ _ _ _ _
      refine r_iinc (pc := 31) dX6_sumOfPlaces_31 rfl (by decide) ?_
      change gW _ _ _ [some (.ref l0), some (.ref l1), some (.int (l2 + (0 : Int32))), some (.int (l3 + (1 : Int32)))] _ _ _ _ _ _
      refine r_goto (pc := 34) 4 dX6_sumOfPlaces_34 (by decide) ?_
      cases hf
      exact gW.weak (by simp [gle]) hk
    · rw [if_neg hc] at hf
      refine r_aload_n (pc := 19) dX6_sumOfPlaces_19 rfl ?_
      obtain ⟨x3, e4, hf⟩ := obind hf
      refine q_getA (pc := 20) dX6_sumOfPlaces_20 gX6_25 e4 ?_
      refine r_iload_n (pc := 23) dX6_sumOfPlaces_23 rfl ?_
      obtain ⟨x5, e6, hf⟩ := obind hf
      refine q_iald (pc := 24) dX6_sumOfPlaces_24 e6 ?_
      refine r_goto (pc := 25) 29 dX6_sumOfPlaces_25 (by decide) ?_
      refine r_iadd (pc := 29) dX6_sumOfPlaces_29 ?_
      refine r_istore_n (pc := 30) dX6_sumOfPlaces_30 (by decide) ?_
      change gW _ _ _ [some (.ref l0), some (.ref l1), some (.int (l2 + x5)), some (.int l3)] _ _ _ _ _ _
      refine r_iinc (pc := 31) dX6_sumOfPlaces_31 rfl (by decide) ?_
      change gW _ _ _ [some (.ref l0), some (.ref l1), some (.int (l2 + x5)), some (.int (l3 + (1 : Int32)))] _ _ _ _ _ _
      refine r_goto (pc := 34) 4 dX6_sumOfPlaces_34 (by decide) ?_
      cases hf
      exact gW.weak (by simp [gle]) hk
def F_X6_sumOfPlaces (S : pS) (a0 : Nat) (a1 : Nat) : Option (Int32) := (oF S a0 6).bind fun _ => (iter (F_X6_sumOfPlaces_4 a0 a1 S) fu ((0 : Int32), (1 : Int32))).bind fun r7 => some r7
set_option maxRecDepth 100000 in
set_option maxHeartbeats 4000000 in
theorem C_X6_sumOfPlaces {X : pX} {Q : pO → Nat → pF → Prop} (S : pS) (a0 : Nat) (a1 : Nat) (r : Int32) (hf : F_X6_sumOfPlaces S a0 a1 = some r) (hk : Q (.inl (some (.int r))) S.1 S.2) : gC X mX6_sumOfPlaces [.ref a0, .ref a1] S.1 S.2 Q 0 0 := by
  refine gC_of (by decide) (Nat.le_of_ble_eq_true rfl) ?_
  change gW _ _ _ [some (.ref a0), some (.ref a1), none, none] _ _ _ _ _ _
  unfold F_X6_sumOfPlaces at hf
  obtain ⟨_, _, hf⟩ := obind hf
  refine r_iconst (pc := 0) (0 : Int32) dX6_sumOfPlaces_0 (by decide) ?_
  refine r_istore_n (pc := 1) dX6_sumOfPlaces_1 (by decide) ?_
  change gW _ _ _ [some (.ref a0), some (.ref a1), some (.int (0 : Int32)), none] _ _ _ _ _ _
  refine r_iconst (pc := 2) (1 : Int32) dX6_sumOfPlaces_2 (by decide) ?_
  refine r_istore_n (pc := 3) dX6_sumOfPlaces_3 (by decide) ?_
  change gW _ _ _ [some (.ref a0), some (.ref a1), some (.int (0 : Int32)), some (.int (1 : Int32))] _ _ _ _ _ _
  obtain ⟨r7, e8, hf⟩ := obind hf
  refine gW.weak (ls' := [some (.ref a0), some (.ref a1), some (.int (0 : Int32)), some (.int (1 : Int32))]) (by simp [gle]) ?_
  refine g_iter (L := L_X6_sumOfPlaces_4 a0 a1 S) (s := s_X6_sumOfPlaces_4 a0 a1 S) (K := K_X6_sumOfPlaces_4 X Q _ _ a0 a1 S) (W_X6_sumOfPlaces_4 a0 a1 S) fu ((0 : Int32), (1 : Int32)) _ e8 ?_
  show gW _ _ 37 [some (.ref a0), some (.ref a1), some (.int r7), none] [] S.1 S.2 _ _ _
  refine r_iload_n (pc := 37) dX6_sumOfPlaces_37 rfl ?_
  refine r_ireturn (pc := 38) .int dX6_sumOfPlaces_38 rfl rfl ?_
  cases hf
  exact hk
def F_X7_init (S : pS) (a0 : Nat) : Option (pS) := (oPA (oNew S (.inl (.char, 80, .inl (fun _ => 0)))) a0 7 0 S.1).bind fun S1 => (oPI S1 a0 7 1 (0 : Int32)).bind fun S3 => (oPI S3 a0 7 2 (0 : Int32)).bind fun S5 => some S5
set_option maxRecDepth 100000 in
set_option maxHeartbeats 4000000 in
theorem C_X7_init {X : pX} {Q : pO → Nat → pF → Prop} (S : pS) (a0 : Nat) (r : pS) (hf : F_X7_init S a0 = some r) (hk : Q (.inl none) r.1 r.2) : gC X mX7_init [.ref a0] S.1 S.2 Q 1 80 := by
  refine gC_of (by decide) (Nat.le_of_ble_eq_true rfl) ?_
  change gW _ _ _ [some (.ref a0)] _ _ _ _ _ _
  unfold F_X7_init at hf
  refine r_aload_n (pc := 0) dX7_init_0 rfl ?_
  refine r_objInit (pc := 1) dX7_init_1 kX7_3 k_obj.1 k_obj.2 ⟨by decide, Nat.le_of_ble_eq_true rfl⟩ ?_
  refine r_aload_n (pc := 4) dX7_init_4 rfl ?_
  refine r_bipush (pc := 5) (80 : Int32) dX7_init_5 (by decide) ?_
  refine r_newa (pc := 7) .char .char (80, .inl (fun _ => 0)) dX7_init_7 rfl (by decide) k_arr_char (fun _ => rfl) (fun _ => rfl) (by decide) (by decide) (by decide) (mc2 := 0) (ms2 := 0) (by decide) (by decide) ?_
  change gW _ _ _ _ _ (oNew S (.inl (.char, 80, .inl (fun _ => 0)))).1 (oNew S (.inl (.char, 80, .inl (fun _ => 0)))).2 _ _ _
  obtain ⟨S1, e2, hf⟩ := obind hf
  refine q_putAF (pc := 9) dX7_init_9 pX7_9 (Or.inr ⟨_, rfl⟩) rfl e2 ?_
  refine r_aload_n (pc := 12) dX7_init_12 rfl ?_
  refine r_iconst (pc := 13) (0 : Int32) dX7_init_13 (by decide) ?_
  obtain ⟨S3, e4, hf⟩ := obind hf
  refine q_putI (pc := 14) dX7_init_14 pX7_15 rfl e4 ?_
  refine r_aload_n (pc := 17) dX7_init_17 rfl ?_
  refine r_iconst (pc := 18) (0 : Int32) dX7_init_18 (by decide) ?_
  obtain ⟨S5, e6, hf⟩ := obind hf
  refine q_putI (pc := 19) dX7_init_19 pX7_19 rfl e6 ?_
  refine r_return (pc := 22) dX7_init_22 rfl ?_
  cases hf
  exact hk
def F_X7_size (S : pS) (a0 : Nat) : Option (Int32) := (oF S a0 7).bind fun _ => (oGI S a0 7 1).bind fun x1 => some x1
set_option maxRecDepth 100000 in
set_option maxHeartbeats 4000000 in
theorem C_X7_size {X : pX} {Q : pO → Nat → pF → Prop} (S : pS) (a0 : Nat) (r : Int32) (hf : F_X7_size S a0 = some r) (hk : Q (.inl (some (.int r))) S.1 S.2) : gC X mX7_size [.ref a0] S.1 S.2 Q 0 0 := by
  refine gC_of (by decide) (Nat.le_of_ble_eq_true rfl) ?_
  change gW _ _ _ [some (.ref a0)] _ _ _ _ _ _
  unfold F_X7_size at hf
  obtain ⟨_, _, hf⟩ := obind hf
  refine r_aload_n (pc := 0) dX7_size_0 rfl ?_
  obtain ⟨x1, e2, hf⟩ := obind hf
  refine q_getI (pc := 1) dX7_size_1 gX7_15 e2 ?_
  refine r_ireturn (pc := 4) .int dX7_size_4 rfl rfl ?_
  cases hf
  exact hk
def F_X7_hasRoomFor (S : pS) (a0 : Nat) (a1 : Int32) : Option (Int32) := (oF S a0 7).bind fun _ => (oGI S a0 7 1).bind fun x1 => if (80 : Int32) < (x1 + a1) then (some (0 : Int32)) else (some (1 : Int32))
set_option maxRecDepth 100000 in
set_option maxHeartbeats 4000000 in
theorem C_X7_hasRoomFor {X : pX} {Q : pO → Nat → pF → Prop} (S : pS) (a0 : Nat) (a1 : Int32) (r : Int32) (hf : F_X7_hasRoomFor S a0 a1 = some r) (hk : Q (.inl (some (.int r))) S.1 S.2) : gC X mX7_hasRoomFor [.ref a0, .int a1] S.1 S.2 Q 0 0 := by
  refine gC_of (by decide) (Nat.le_of_ble_eq_true rfl) ?_
  change gW _ _ _ [some (.ref a0), some (.int a1)] _ _ _ _ _ _
  unfold F_X7_hasRoomFor at hf
  obtain ⟨_, _, hf⟩ := obind hf
  refine r_aload_n (pc := 0) dX7_hasRoomFor_0 rfl ?_
  obtain ⟨x1, e2, hf⟩ := obind hf
  refine q_getI (pc := 1) dX7_hasRoomFor_1 gX7_15 e2 ?_
  refine r_iload_n (pc := 4) dX7_hasRoomFor_4 rfl ?_
  refine r_iadd (pc := 5) dX7_hasRoomFor_5 ?_
  refine r_bipush (pc := 6) (80 : Int32) dX7_hasRoomFor_6 (by decide) ?_
  refine r_icmp_gt (pc := 8) 15 dX7_hasRoomFor_8 (by decide) (fun hc => ?_) (fun hc => ?_)
  · rw [if_pos hc] at hf
    refine r_iconst (pc := 15) (0 : Int32) dX7_hasRoomFor_15 (by decide) ?_
    refine r_ireturn (pc := 16) .boolean dX7_hasRoomFor_16 rfl rfl ?_
    cases hf
    exact hk
  · rw [if_neg hc] at hf
    refine r_iconst (pc := 11) (1 : Int32) dX7_hasRoomFor_11 (by decide) ?_
    refine r_goto (pc := 12) 16 dX7_hasRoomFor_12 (by decide) ?_
    refine r_ireturn (pc := 16) .boolean dX7_hasRoomFor_16 rfl rfl ?_
    cases hf
    exact hk
def F_X7_put (S : pS) (a0 : Nat) (a1 : Int32) : Option (pS) := (oF S a0 7).bind fun _ => (oGI S a0 7 1).bind fun x1 => if (80 : Int32) ≤ x1 then (some S) else ((oGA S a0 7 0).bind fun x3 => (oGI S a0 7 1).bind fun x5 => (oSI S x3 .char x5 a1).bind fun S7 => (oGI S7 a0 7 1).bind fun x9 => (oPI S7 a0 7 1 (x9 + (1 : Int32))).bind fun S11 => some S11)
set_option maxRecDepth 100000 in
set_option maxHeartbeats 4000000 in
theorem C_X7_put {X : pX} {Q : pO → Nat → pF → Prop} (S : pS) (a0 : Nat) (a1 : Int32) (r : pS) (hf : F_X7_put S a0 a1 = some r) (hk : Q (.inl none) r.1 r.2) : gC X mX7_put [.ref a0, .int a1] S.1 S.2 Q 0 0 := by
  refine gC_of (by decide) (Nat.le_of_ble_eq_true rfl) ?_
  change gW _ _ _ [some (.ref a0), some (.int a1)] _ _ _ _ _ _
  unfold F_X7_put at hf
  obtain ⟨_, _, hf⟩ := obind hf
  refine r_aload_n (pc := 0) dX7_put_0 rfl ?_
  obtain ⟨x1, e2, hf⟩ := obind hf
  refine q_getI (pc := 1) dX7_put_1 gX7_15 e2 ?_
  refine r_bipush (pc := 4) (80 : Int32) dX7_put_4 (by decide) ?_
  refine r_icmp_ge (pc := 6) 29 dX7_put_6 (by decide) (fun hc => ?_) (fun hc => ?_)
  · rw [if_pos hc] at hf
    refine r_return (pc := 29) dX7_put_29 rfl ?_
    cases hf
    exact hk
  · rw [if_neg hc] at hf
    refine r_aload_n (pc := 9) dX7_put_9 rfl ?_
    obtain ⟨x3, e4, hf⟩ := obind hf
    refine q_getA (pc := 10) dX7_put_10 gX7_9 e4 ?_
    refine r_aload_n (pc := 13) dX7_put_13 rfl ?_
    obtain ⟨x5, e6, hf⟩ := obind hf
    refine q_getI (pc := 14) dX7_put_14 gX7_15 e6 ?_
    refine r_iload_n (pc := 17) dX7_put_17 rfl ?_
    obtain ⟨S7, e8, hf⟩ := obind hf
    refine q_cast (pc := 18) dX7_put_18 e8 ?_
    refine r_aload_n (pc := 19) dX7_put_19 rfl ?_
    refine r_dup (pc := 20) dX7_put_20 rfl ?_
    obtain ⟨x9, e10, hf⟩ := obind hf
    refine q_getI (pc := 21) dX7_put_21 gX7_15 e10 ?_
    refine r_iconst (pc := 24) (1 : Int32) dX7_put_24 (by decide) ?_
    refine r_iadd (pc := 25) dX7_put_25 ?_
    obtain ⟨S11, e12, hf⟩ := obind hf
    refine q_putI (pc := 26) dX7_put_26 pX7_15 rfl e12 ?_
    refine r_return (pc := 29) dX7_put_29 rfl ?_
    cases hf
    exact hk
def F_X7_forget (S : pS) (a0 : Nat) : Option (pS) := (oF S a0 7).bind fun _ => (oPI S a0 7 1 (0 : Int32)).bind fun S1 => some S1
set_option maxRecDepth 100000 in
set_option maxHeartbeats 4000000 in
theorem C_X7_forget {X : pX} {Q : pO → Nat → pF → Prop} (S : pS) (a0 : Nat) (r : pS) (hf : F_X7_forget S a0 = some r) (hk : Q (.inl none) r.1 r.2) : gC X mX7_forget [.ref a0] S.1 S.2 Q 0 0 := by
  refine gC_of (by decide) (Nat.le_of_ble_eq_true rfl) ?_
  change gW _ _ _ [some (.ref a0)] _ _ _ _ _ _
  unfold F_X7_forget at hf
  obtain ⟨_, _, hf⟩ := obind hf
  refine r_aload_n (pc := 0) dX7_forget_0 rfl ?_
  refine r_iconst (pc := 1) (0 : Int32) dX7_forget_1 (by decide) ?_
  obtain ⟨S1, e2, hf⟩ := obind hf
  refine q_putI (pc := 2) dX7_forget_2 pX7_15 rfl e2 ?_
  refine r_return (pc := 5) dX7_forget_5 rfl ?_
  cases hf
  exact hk
def F_X8_reset (S : pS) (a0 : Nat) : Option (pS) := (oF S a0 8).bind fun _ => (oPJ S a0 8 6 (1 : Int64)).bind fun S1 => (oPJ S1 a0 8 7 (0 : Int64)).bind fun S3 => (oPJ S3 a0 8 8 (0 : Int64)).bind fun S5 => (oPI S5 a0 8 9 (0 : Int32)).bind fun S7 => (oGA S7 a0 8 0).bind fun x9 => (oSI S7 x9 .int (0 : Int32) (0 : Int32)).bind fun S11 => (oGA S11 a0 8 4).bind fun x13 => (oSI S11 x13 .int (0 : Int32) (0 : Int32)).bind fun S15 => (oGA S15 a0 8 5).bind fun x17 => (oSI S15 x17 .int (0 : Int32) (-1 : Int32)).bind fun S19 => some S19
set_option maxRecDepth 100000 in
set_option maxHeartbeats 4000000 in
theorem C_X8_reset {X : pX} {Q : pO → Nat → pF → Prop} (S : pS) (a0 : Nat) (r : pS) (hf : F_X8_reset S a0 = some r) (hk : Q (.inl none) r.1 r.2) : gC X mX8_reset [.ref a0] S.1 S.2 Q 0 0 := by
  refine gC_of (by decide) (Nat.le_of_ble_eq_true rfl) ?_
  change gW _ _ _ [some (.ref a0)] _ _ _ _ _ _
  unfold F_X8_reset at hf
  obtain ⟨_, _, hf⟩ := obind hf
  refine r_aload_n (pc := 0) dX8_reset_0 rfl ?_
  refine r_lconst (pc := 1) (1 : Int64) dX8_reset_1 (by decide) ?_
  obtain ⟨S1, e2, hf⟩ := obind hf
  refine q_putJ (pc := 2) dX8_reset_2 pX8_31 rfl e2 ?_
  refine r_aload_n (pc := 5) dX8_reset_5 rfl ?_
  refine r_lconst (pc := 6) (0 : Int64) dX8_reset_6 (by decide) ?_
  obtain ⟨S3, e4, hf⟩ := obind hf
  refine q_putJ (pc := 7) dX8_reset_7 pX8_35 rfl e4 ?_
  refine r_aload_n (pc := 10) dX8_reset_10 rfl ?_
  refine r_lconst (pc := 11) (0 : Int64) dX8_reset_11 (by decide) ?_
  obtain ⟨S5, e6, hf⟩ := obind hf
  refine q_putJ (pc := 12) dX8_reset_12 pX8_38 rfl e6 ?_
  refine r_aload_n (pc := 15) dX8_reset_15 rfl ?_
  refine r_iconst (pc := 16) (0 : Int32) dX8_reset_16 (by decide) ?_
  obtain ⟨S7, e8, hf⟩ := obind hf
  refine q_putI (pc := 17) dX8_reset_17 pX8_41 rfl e8 ?_
  refine r_aload_n (pc := 20) dX8_reset_20 rfl ?_
  obtain ⟨x9, e10, hf⟩ := obind hf
  refine q_getA (pc := 21) dX8_reset_21 gX8_9 e10 ?_
  refine r_iconst (pc := 24) (0 : Int32) dX8_reset_24 (by decide) ?_
  refine r_iconst (pc := 25) (0 : Int32) dX8_reset_25 (by decide) ?_
  obtain ⟨S11, e12, hf⟩ := obind hf
  refine q_iast (pc := 26) dX8_reset_26 e12 ?_
  refine r_aload_n (pc := 27) dX8_reset_27 rfl ?_
  obtain ⟨x13, e14, hf⟩ := obind hf
  refine q_getA (pc := 28) dX8_reset_28 gX8_25 e14 ?_
  refine r_iconst (pc := 31) (0 : Int32) dX8_reset_31 (by decide) ?_
  refine r_iconst (pc := 32) (0 : Int32) dX8_reset_32 (by decide) ?_
  obtain ⟨S15, e16, hf⟩ := obind hf
  refine q_iast (pc := 33) dX8_reset_33 e16 ?_
  refine r_aload_n (pc := 34) dX8_reset_34 rfl ?_
  obtain ⟨x17, e18, hf⟩ := obind hf
  refine q_getA (pc := 35) dX8_reset_35 gX8_28 e18 ?_
  refine r_iconst (pc := 38) (0 : Int32) dX8_reset_38 (by decide) ?_
  refine r_iconst (pc := 39) (-1 : Int32) dX8_reset_39 (by decide) ?_
  obtain ⟨S19, e20, hf⟩ := obind hf
  refine q_iast (pc := 40) dX8_reset_40 e20 ?_
  refine r_return (pc := 41) dX8_reset_41 rfl ?_
  cases hf
  exact hk
def F_X8_copyFrom (S : pS) (a0 : Nat) (a1 : Nat) : Option (pS) := (oF S a0 8).bind fun _ => (oGA S a1 8 0).bind fun x1 => (oGA S a0 8 0).bind fun x3 => (oCpy S .int x1 (0 : Int32) x3 (0 : Int32) (61 : Int32)).bind fun S5 => (oGA S5 a1 8 1).bind fun x7 => (oGA S5 a0 8 1).bind fun x9 => (oCpy S5 .int x7 (0 : Int32) x9 (0 : Int32) (732 : Int32)).bind fun S11 => (oGA S11 a1 8 2).bind fun x13 => (oGA S11 a0 8 2).bind fun x15 => (oCpy S11 .int x13 (0 : Int32) x15 (0 : Int32) (61 : Int32)).bind fun S17 => (oGA S17 a1 8 3).bind fun x19 => (oGA S17 a0 8 3).bind fun x21 => (oCpy S17 .char x19 (0 : Int32) x21 (0 : Int32) (610 : Int32)).bind fun S23 => (oGA S23 a1 8 4).bind fun x25 => (oGA S23 a0 8 4).bind fun x27 => (oCpy S23 .int x25 (0 : Int32) x27 (0 : Int32) (61 : Int32)).bind fun S29 => (oGA S29 a1 8 5).bind fun x31 => (oGA S29 a0 8 5).bind fun x33 => (oCpy S29 .int x31 (0 : Int32) x33 (0 : Int32) (61 : Int32)).bind fun S35 => (oGJ S35 a1 8 6).bind fun x37 => (oPJ S35 a0 8 6 x37).bind fun S39 => (oGJ S39 a1 8 7).bind fun x41 => (oPJ S39 a0 8 7 x41).bind fun S43 => (oGJ S43 a1 8 8).bind fun x45 => (oPJ S43 a0 8 8 x45).bind fun S47 => (oGI S47 a1 8 9).bind fun x49 => (oPI S47 a0 8 9 x49).bind fun S51 => some S51
set_option maxRecDepth 100000 in
set_option maxHeartbeats 4000000 in
theorem C_X8_copyFrom {X : pX} {Q : pO → Nat → pF → Prop} (S : pS) (a0 : Nat) (a1 : Nat) (r : pS) (hf : F_X8_copyFrom S a0 a1 = some r) (hk : Q (.inl none) r.1 r.2) : gC X mX8_copyFrom [.ref a0, .ref a1] S.1 S.2 Q 0 0 := by
  refine gC_of (by decide) (Nat.le_of_ble_eq_true rfl) ?_
  change gW _ _ _ [some (.ref a0), some (.ref a1)] _ _ _ _ _ _
  unfold F_X8_copyFrom at hf
  obtain ⟨_, _, hf⟩ := obind hf
  refine r_aload_n (pc := 0) dX8_copyFrom_0 rfl ?_
  obtain ⟨x1, e2, hf⟩ := obind hf
  refine q_getA (pc := 1) dX8_copyFrom_1 gX8_9 e2 ?_
  refine r_iconst (pc := 4) (0 : Int32) dX8_copyFrom_4 (by decide) ?_
  refine r_aload_n (pc := 5) dX8_copyFrom_5 rfl ?_
  obtain ⟨x3, e4, hf⟩ := obind hf
  refine q_getA (pc := 6) dX8_copyFrom_6 gX8_9 e4 ?_
  refine r_iconst (pc := 9) (0 : Int32) dX8_copyFrom_9 (by decide) ?_
  refine r_bipush (pc := 10) (61 : Int32) dX8_copyFrom_10 (by decide) ?_
  obtain ⟨S5, e6, hf⟩ := obind hf
  refine q_copy (pc := 12) dX8_copyFrom_12 (by decide) rfl kX8_45 k_copy.1 k_copy.2.1 k_copy.2.2 e6 ⟨by decide, Nat.le_of_ble_eq_true rfl⟩ ?_
  refine r_aload_n (pc := 15) dX8_copyFrom_15 rfl ?_
  obtain ⟨x7, e8, hf⟩ := obind hf
  refine q_getA (pc := 16) dX8_copyFrom_16 gX8_15 e8 ?_
  refine r_iconst (pc := 19) (0 : Int32) dX8_copyFrom_19 (by decide) ?_
  refine r_aload_n (pc := 20) dX8_copyFrom_20 rfl ?_
  obtain ⟨x9, e10, hf⟩ := obind hf
  refine q_getA (pc := 21) dX8_copyFrom_21 gX8_15 e10 ?_
  refine r_iconst (pc := 24) (0 : Int32) dX8_copyFrom_24 (by decide) ?_
  refine r_sipush (pc := 25) (732 : Int32) dX8_copyFrom_25 (by decide) ?_
  obtain ⟨S11, e12, hf⟩ := obind hf
  refine q_copy (pc := 28) dX8_copyFrom_28 (by decide) rfl kX8_45 k_copy.1 k_copy.2.1 k_copy.2.2 e12 ⟨by decide, Nat.le_of_ble_eq_true rfl⟩ ?_
  refine r_aload_n (pc := 31) dX8_copyFrom_31 rfl ?_
  obtain ⟨x13, e14, hf⟩ := obind hf
  refine q_getA (pc := 32) dX8_copyFrom_32 gX8_18 e14 ?_
  refine r_iconst (pc := 35) (0 : Int32) dX8_copyFrom_35 (by decide) ?_
  refine r_aload_n (pc := 36) dX8_copyFrom_36 rfl ?_
  obtain ⟨x15, e16, hf⟩ := obind hf
  refine q_getA (pc := 37) dX8_copyFrom_37 gX8_18 e16 ?_
  refine r_iconst (pc := 40) (0 : Int32) dX8_copyFrom_40 (by decide) ?_
  refine r_bipush (pc := 41) (61 : Int32) dX8_copyFrom_41 (by decide) ?_
  obtain ⟨S17, e18, hf⟩ := obind hf
  refine q_copy (pc := 43) dX8_copyFrom_43 (by decide) rfl kX8_45 k_copy.1 k_copy.2.1 k_copy.2.2 e18 ⟨by decide, Nat.le_of_ble_eq_true rfl⟩ ?_
  refine r_aload_n (pc := 46) dX8_copyFrom_46 rfl ?_
  obtain ⟨x19, e20, hf⟩ := obind hf
  refine q_getA (pc := 47) dX8_copyFrom_47 gX8_21 e20 ?_
  refine r_iconst (pc := 50) (0 : Int32) dX8_copyFrom_50 (by decide) ?_
  refine r_aload_n (pc := 51) dX8_copyFrom_51 rfl ?_
  obtain ⟨x21, e22, hf⟩ := obind hf
  refine q_getA (pc := 52) dX8_copyFrom_52 gX8_21 e22 ?_
  refine r_iconst (pc := 55) (0 : Int32) dX8_copyFrom_55 (by decide) ?_
  refine r_sipush (pc := 56) (610 : Int32) dX8_copyFrom_56 (by decide) ?_
  obtain ⟨S23, e24, hf⟩ := obind hf
  refine q_copy (pc := 59) dX8_copyFrom_59 (by decide) rfl kX8_45 k_copy.1 k_copy.2.1 k_copy.2.2 e24 ⟨by decide, Nat.le_of_ble_eq_true rfl⟩ ?_
  refine r_aload_n (pc := 62) dX8_copyFrom_62 rfl ?_
  obtain ⟨x25, e26, hf⟩ := obind hf
  refine q_getA (pc := 63) dX8_copyFrom_63 gX8_25 e26 ?_
  refine r_iconst (pc := 66) (0 : Int32) dX8_copyFrom_66 (by decide) ?_
  refine r_aload_n (pc := 67) dX8_copyFrom_67 rfl ?_
  obtain ⟨x27, e28, hf⟩ := obind hf
  refine q_getA (pc := 68) dX8_copyFrom_68 gX8_25 e28 ?_
  refine r_iconst (pc := 71) (0 : Int32) dX8_copyFrom_71 (by decide) ?_
  refine r_bipush (pc := 72) (61 : Int32) dX8_copyFrom_72 (by decide) ?_
  obtain ⟨S29, e30, hf⟩ := obind hf
  refine q_copy (pc := 74) dX8_copyFrom_74 (by decide) rfl kX8_45 k_copy.1 k_copy.2.1 k_copy.2.2 e30 ⟨by decide, Nat.le_of_ble_eq_true rfl⟩ ?_
  refine r_aload_n (pc := 77) dX8_copyFrom_77 rfl ?_
  obtain ⟨x31, e32, hf⟩ := obind hf
  refine q_getA (pc := 78) dX8_copyFrom_78 gX8_28 e32 ?_
  refine r_iconst (pc := 81) (0 : Int32) dX8_copyFrom_81 (by decide) ?_
  refine r_aload_n (pc := 82) dX8_copyFrom_82 rfl ?_
  obtain ⟨x33, e34, hf⟩ := obind hf
  refine q_getA (pc := 83) dX8_copyFrom_83 gX8_28 e34 ?_
  refine r_iconst (pc := 86) (0 : Int32) dX8_copyFrom_86 (by decide) ?_
  refine r_bipush (pc := 87) (61 : Int32) dX8_copyFrom_87 (by decide) ?_
  obtain ⟨S35, e36, hf⟩ := obind hf
  refine q_copy (pc := 89) dX8_copyFrom_89 (by decide) rfl kX8_45 k_copy.1 k_copy.2.1 k_copy.2.2 e36 ⟨by decide, Nat.le_of_ble_eq_true rfl⟩ ?_
  refine r_aload_n (pc := 92) dX8_copyFrom_92 rfl ?_
  refine r_aload_n (pc := 93) dX8_copyFrom_93 rfl ?_
  obtain ⟨x37, e38, hf⟩ := obind hf
  refine q_getJ (pc := 94) dX8_copyFrom_94 gX8_31 e38 ?_
  obtain ⟨S39, e40, hf⟩ := obind hf
  refine q_putJ (pc := 97) dX8_copyFrom_97 pX8_31 rfl e40 ?_
  refine r_aload_n (pc := 100) dX8_copyFrom_100 rfl ?_
  refine r_aload_n (pc := 101) dX8_copyFrom_101 rfl ?_
  obtain ⟨x41, e42, hf⟩ := obind hf
  refine q_getJ (pc := 102) dX8_copyFrom_102 gX8_35 e42 ?_
  obtain ⟨S43, e44, hf⟩ := obind hf
  refine q_putJ (pc := 105) dX8_copyFrom_105 pX8_35 rfl e44 ?_
  refine r_aload_n (pc := 108) dX8_copyFrom_108 rfl ?_
  refine r_aload_n (pc := 109) dX8_copyFrom_109 rfl ?_
  obtain ⟨x45, e46, hf⟩ := obind hf
  refine q_getJ (pc := 110) dX8_copyFrom_110 gX8_38 e46 ?_
  obtain ⟨S47, e48, hf⟩ := obind hf
  refine q_putJ (pc := 113) dX8_copyFrom_113 pX8_38 rfl e48 ?_
  refine r_aload_n (pc := 116) dX8_copyFrom_116 rfl ?_
  refine r_aload_n (pc := 117) dX8_copyFrom_117 rfl ?_
  obtain ⟨x49, e50, hf⟩ := obind hf
  refine q_getI (pc := 118) dX8_copyFrom_118 gX8_41 e50 ?_
  obtain ⟨S51, e52, hf⟩ := obind hf
  refine q_putI (pc := 121) dX8_copyFrom_121 pX8_41 rfl e52 ?_
  refine r_return (pc := 124) dX8_copyFrom_124 rfl ?_
  cases hf
  exact hk
def F_X8_foldedItems (S : pS) (a0 : Nat) : Option (Int64) := (oF S a0 8).bind fun _ => (oGJ S a0 8 8).bind fun x1 => some x1
set_option maxRecDepth 100000 in
set_option maxHeartbeats 4000000 in
theorem C_X8_foldedItems {X : pX} {Q : pO → Nat → pF → Prop} (S : pS) (a0 : Nat) (r : Int64) (hf : F_X8_foldedItems S a0 = some r) (hk : Q (.inl (some (.long r))) S.1 S.2) : gC X mX8_foldedItems [.ref a0] S.1 S.2 Q 0 0 := by
  refine gC_of (by decide) (Nat.le_of_ble_eq_true rfl) ?_
  change gW _ _ _ [some (.ref a0)] _ _ _ _ _ _
  unfold F_X8_foldedItems at hf
  obtain ⟨_, _, hf⟩ := obind hf
  refine r_aload_n (pc := 0) dX8_foldedItems_0 rfl ?_
  obtain ⟨x1, e2, hf⟩ := obind hf
  refine q_getJ (pc := 1) dX8_foldedItems_1 gX8_38 e2 ?_
  refine r_lreturn (pc := 4) dX8_foldedItems_4 rfl ?_
  cases hf
  exact hk
def F_X8_valueOf (S : pS) (a0 : Nat) (a1 : Int32) : Option (Int32) := (oF S a0 8).bind fun _ => (oGA S a0 8 4).bind fun x1 => (oAI S x1 .int a1).bind fun x3 => some x3
set_option maxRecDepth 100000 in
set_option maxHeartbeats 4000000 in
theorem C_X8_valueOf {X : pX} {Q : pO → Nat → pF → Prop} (S : pS) (a0 : Nat) (a1 : Int32) (r : Int32) (hf : F_X8_valueOf S a0 a1 = some r) (hk : Q (.inl (some (.int r))) S.1 S.2) : gC X mX8_valueOf [.ref a0, .int a1] S.1 S.2 Q 0 0 := by
  refine gC_of (by decide) (Nat.le_of_ble_eq_true rfl) ?_
  change gW _ _ _ [some (.ref a0), some (.int a1)] _ _ _ _ _ _
  unfold F_X8_valueOf at hf
  obtain ⟨_, _, hf⟩ := obind hf
  refine r_aload_n (pc := 0) dX8_valueOf_0 rfl ?_
  obtain ⟨x1, e2, hf⟩ := obind hf
  refine q_getA (pc := 1) dX8_valueOf_1 gX8_25 e2 ?_
  refine r_iload_n (pc := 4) dX8_valueOf_4 rfl ?_
  obtain ⟨x3, e4, hf⟩ := obind hf
  refine q_iald (pc := 5) dX8_valueOf_5 e4 ?_
  refine r_ireturn (pc := 6) .int dX8_valueOf_6 rfl rfl ?_
  cases hf
  exact hk
def F_X8_dayOf (S : pS) (a0 : Nat) (a1 : Int32) : Option (Int32) := (oF S a0 8).bind fun _ => (oGA S a0 8 5).bind fun x1 => (oAI S x1 .int a1).bind fun x3 => some x3
set_option maxRecDepth 100000 in
set_option maxHeartbeats 4000000 in
theorem C_X8_dayOf {X : pX} {Q : pO → Nat → pF → Prop} (S : pS) (a0 : Nat) (a1 : Int32) (r : Int32) (hf : F_X8_dayOf S a0 a1 = some r) (hk : Q (.inl (some (.int r))) S.1 S.2) : gC X mX8_dayOf [.ref a0, .int a1] S.1 S.2 Q 0 0 := by
  refine gC_of (by decide) (Nat.le_of_ble_eq_true rfl) ?_
  change gW _ _ _ [some (.ref a0), some (.int a1)] _ _ _ _ _ _
  unfold F_X8_dayOf at hf
  obtain ⟨_, _, hf⟩ := obind hf
  refine r_aload_n (pc := 0) dX8_dayOf_0 rfl ?_
  obtain ⟨x1, e2, hf⟩ := obind hf
  refine q_getA (pc := 1) dX8_dayOf_1 gX8_28 e2 ?_
  refine r_iload_n (pc := 4) dX8_dayOf_4 rfl ?_
  obtain ⟨x3, e4, hf⟩ := obind hf
  refine q_iald (pc := 5) dX8_dayOf_5 e4 ?_
  refine r_ireturn (pc := 6) .int dX8_dayOf_6 rfl rfl ?_
  cases hf
  exact hk
def F_X8_setFolded (S : pS) (a0 : Nat) (a1 : Int32) (a2 : Int32) : Option (pS) := (oF S a0 8).bind fun _ => (oGJ S a0 8 8).bind fun x1 => (F_X9_with S x1 a1 a2).bind fun q3 => (oPJ S a0 8 8 q3).bind fun S5 => some S5
set_option maxRecDepth 100000 in
set_option maxHeartbeats 4000000 in
theorem C_X8_setFolded {X : pX} {Q : pO → Nat → pF → Prop} (S : pS) (a0 : Nat) (a1 : Int32) (a2 : Int32) (r : pS) (hf : F_X8_setFolded S a0 a1 a2 = some r) (hk : Q (.inl none) r.1 r.2) : gC X mX8_setFolded [.ref a0, .int a1, .int a2] S.1 S.2 Q 0 0 := by
  refine gC_of (by decide) (Nat.le_of_ble_eq_true rfl) ?_
  change gW _ _ _ [some (.ref a0), some (.int a1), some (.int a2)] _ _ _ _ _ _
  unfold F_X8_setFolded at hf
  obtain ⟨_, _, hf⟩ := obind hf
  refine r_aload_n (pc := 0) dX8_setFolded_0 rfl ?_
  refine r_aload_n (pc := 1) dX8_setFolded_1 rfl ?_
  obtain ⟨x1, e2, hf⟩ := obind hf
  refine q_getJ (pc := 2) dX8_setFolded_2 gX8_38 e2 ?_
  refine r_iload_n (pc := 5) dX8_setFolded_5 rfl ?_
  refine r_iload_n (pc := 6) dX8_setFolded_6 rfl ?_
  obtain ⟨q3, e4, hf⟩ := obind hf
  refine q_callSN (pc := 7) (v := some (.long q3)) (S' := S) mX9_with [.long x1, .int a1, .int a2] dX8_setFolded_7 kX8_61 fX9_with sX9_with ⟨by decide, by decide⟩ rfl rfl (Nat.le_of_ble_eq_true rfl) (mc1 := 0) (ms1 := 0) (mc2 := 0) (ms2 := 0) (by decide) (by decide) (C_X9_with S x1 a1 a2 q3 e4 (qR_mk _ _)) ?_
  change gW _ _ _ _ (.long q3 :: _) _ _ _ _ _
  obtain ⟨S5, e6, hf⟩ := obind hf
  refine q_putJ (pc := 10) dX8_setFolded_10 pX8_38 rfl e6 ?_
  refine r_return (pc := 13) dX8_setFolded_13 rfl ?_
  cases hf
  exact hk
def F_X8_keepOnly (S : pS) (a0 : Nat) (a1 : Int64) : Option (Int32 × pS) := (oF S a0 8).bind fun _ => (oGJ S a0 8 6).bind fun x1 => (oGJ S a0 8 6).bind fun x3 => (oPJ S a0 8 6 (x3 &&& a1)).bind fun S5 => (F_J13_bitCount_95d88 S5 (x1 &&& (a1 ^^^ (-1 : Int64)))).bind fun q7 => some (q7, S5)
set_option maxRecDepth 100000 in
set_option maxHeartbeats 4000000 in
theorem C_X8_keepOnly {X : pX} {Q : pO → Nat → pF → Prop} (S : pS) (a0 : Nat) (a1 : Int64) (r : Int32 × pS) (hf : F_X8_keepOnly S a0 a1 = some r) (hk : Q (.inl (some (.int r.1))) r.2.1 r.2.2) : gC X mX8_keepOnly [.ref a0, .long a1] S.1 S.2 Q 0 0 := by
  refine gC_of (by decide) (Nat.le_of_ble_eq_true rfl) ?_
  change gW _ _ _ [some (.ref a0), some (.long a1), none, none, none] _ _ _ _ _ _
  unfold F_X8_keepOnly at hf
  obtain ⟨_, _, hf⟩ := obind hf
  refine r_aload_n (pc := 0) dX8_keepOnly_0 rfl ?_
  obtain ⟨x1, e2, hf⟩ := obind hf
  refine q_getJ (pc := 1) dX8_keepOnly_1 gX8_31 e2 ?_
  refine r_lload_n (pc := 4) dX8_keepOnly_4 rfl ?_
  refine r_ldc2 (pc := 5) dX8_keepOnly_5 kX8_69 ?_
  refine r_lxor (pc := 8) dX8_keepOnly_8 ?_
  refine r_land (pc := 9) dX8_keepOnly_9 ?_
  refine r_lstore_n (pc := 10) dX8_keepOnly_10 (by decide) ?_
  change gW _ _ _ [some (.ref a0), some (.long a1), none, some (.long (x1 &&& (a1 ^^^ (-1 : Int64)))), none] _ _ _ _ _ _
  refine r_aload_n (pc := 11) dX8_keepOnly_11 rfl ?_
  refine r_dup (pc := 12) dX8_keepOnly_12 rfl ?_
  obtain ⟨x3, e4, hf⟩ := obind hf
  refine q_getJ (pc := 13) dX8_keepOnly_13 gX8_31 e4 ?_
  refine r_lload_n (pc := 16) dX8_keepOnly_16 rfl ?_
  refine r_land (pc := 17) dX8_keepOnly_17 ?_
  obtain ⟨S5, e6, hf⟩ := obind hf
  refine q_putJ (pc := 18) dX8_keepOnly_18 pX8_31 rfl e6 ?_
  refine r_lload_n (pc := 21) dX8_keepOnly_21 rfl ?_
  obtain ⟨q7, e8, hf⟩ := obind hf
  refine q_callS (pc := 22) (v := some (.int q7)) (S' := S5) mJ13_bitCount_95d88 [.long (x1 &&& (a1 ^^^ (-1 : Int64)))] dX8_keepOnly_22 kX8_55 fJ13_bitCount_95d88 sJ13_bitCount_95d88 ⟨by decide, by decide⟩ rfl rfl (Nat.le_of_ble_eq_true rfl) (mc1 := 0) (ms1 := 0) (mc2 := 0) (ms2 := 0) (by decide) (by decide) (C_J13_bitCount_95d88 S5 (x1 &&& (a1 ^^^ (-1 : Int64))) q7 e8 (qR_mk _ _)) ?_
  change gW _ _ _ _ (.int q7 :: _) _ _ _ _ _
  refine r_ireturn (pc := 25) .int dX8_keepOnly_25 rfl rfl ?_
  cases hf
  exact hk
abbrev L_X8_insertChild_14 (l0 : Nat) (l1 : Int32) (l2 : Int32) (l3 : Int32) (l4 : Int32) : Int32 × pS → List (Option Value) := fun a => [some (.ref l0), some (.int l1), some (.int l2), some (.int l3), some (.int l4), some (.int a.1)]
abbrev s_X8_insertChild_14 (l0 : Nat) (l1 : Int32) (l2 : Int32) (l3 : Int32) (l4 : Int32) : Int32 × pS → pS := fun a => a.2
abbrev K_X8_insertChild_14 (X : pX) (Q : pO → Nat → pF → Prop) (mc ms : Nat) (l0 : Nat) (l1 : Int32) (l2 : Int32) (l3 : Int32) (l4 : Int32) : pS → Prop := (fun b => gW X mX8_insertChild 48 [some (.ref l0), some (.int l1), some (.int l2), some (.int l3), some (.int l4), none] [] b.1 b.2 Q mc ms)
def F_X8_insertChild_14 (l0 : Nat) (l1 : Int32) (l2 : Int32) (l3 : Int32) (l4 : Int32) : Int32 × pS → Option ((Int32 × pS) ⊕ (pS)) := fun a => if a.1 ≤ l2 then (some (.inr a.2)) else ((oGA a.2 l0 8 1).bind fun x5 => (oGA a.2 l0 8 1).bind fun x7 => (oAI a.2 x7 .int ((l4 + a.1) - (1 : Int32))).bind fun x9 => (oSI a.2 x5 .int (l4 + a.1) x9).bind fun S11 => some (.inl (a.1 + (-1 : Int32), S11)))
set_option maxRecDepth 100000 in
set_option maxHeartbeats 4000000 in
theorem W_X8_insertChild_14 {X : pX} {Q : pO → Nat → pF → Prop} {mc ms : Nat} (l0 : Nat) (l1 : Int32) (l2 : Int32) (l3 : Int32) (l4 : Int32) : ∀ (a : Int32 × pS) (r : (Int32 × pS) ⊕ (pS)), F_X8_insertChild_14 l0 l1 l2 l3 l4 a = some r → Sum.elim (fun a' => gW X mX8_insertChild 14 (L_X8_insertChild_14 l0 l1 l2 l3 l4 a') [] (s_X8_insertChild_14 l0 l1 l2 l3 l4 a').1 (s_X8_insertChild_14 l0 l1 l2 l3 l4 a').2 Q mc ms) (K_X8_insertChild_14 X Q mc ms l0 l1 l2 l3 l4) r → gW X mX8_insertChild 14 (L_X8_insertChild_14 l0 l1 l2 l3 l4 a) [] (s_X8_insertChild_14 l0 l1 l2 l3 l4 a).1 (s_X8_insertChild_14 l0 l1 l2 l3 l4 a).2 Q mc ms := by
  intro a r hf hk
  obtain ⟨l5, S⟩ := a
  unfold F_X8_insertChild_14 at hf
  try dsimp only at hf
  change gW _ _ _ [some (.ref l0), some (.int l1), some (.int l2), some (.int l3), some (.int l4), some (.int l5)] _ S.1 S.2 _ _ _
  refine r_iload (pc := 14) dX8_insertChild_14 rfl ?_
  refine r_iload_n (pc := 16) dX8_insertChild_16 rfl ?_
  refine r_icmp_le (pc := 17) 48 dX8_insertChild_17 (by decide) (fun hc => ?_) (fun hc => ?_)
  · rw [if_pos hc] at hf
    cases hf
    exact gW.weak (by simp [gle]) hk
  · rw [if_neg hc] at hf
    refine r_aload_n (pc := 20) dX8_insertChild_20 rfl ?_
    obtain ⟨x5, e6, hf⟩ := obind hf
    refine q_getA (pc := 21) dX8_insertChild_21 gX8_15 e6 ?_
    refine r_iload (pc := 24) dX8_insertChild_24 rfl ?_
    refine r_iload (pc := 26) dX8_insertChild_26 rfl ?_
    refine r_iadd (pc := 28) dX8_insertChild_28 ?_
    refine r_aload_n (pc := 29) dX8_insertChild_29 rfl ?_
    obtain ⟨x7, e8, hf⟩ := obind hf
    refine q_getA (pc := 30) dX8_insertChild_30 gX8_15 e8 ?_
    refine r_iload (pc := 33) dX8_insertChild_33 rfl ?_
    refine r_iload (pc := 35) dX8_insertChild_35 rfl ?_
    refine r_iadd (pc := 37) dX8_insertChild_37 ?_
    refine r_iconst (pc := 38) (1 : Int32) dX8_insertChild_38 (by decide) ?_
    refine r_isub (pc := 39) dX8_insertChild_39 ?_
    obtain ⟨x9, e10, hf⟩ := obind hf
    refine q_iald (pc := 40) dX8_insertChild_40 e10 ?_
    obtain ⟨S11, e12, hf⟩ := obind hf
    refine q_iast (pc := 41) dX8_insertChild_41 e12 ?_
    refine r_iinc (pc := 42) dX8_insertChild_42 rfl (by decide) ?_
    change gW _ _ _ [some (.ref l0), some (.int l1), some (.int l2), some (.int l3), some (.int l4), some (.int (l5 + (-1 : Int32)))] _ _ _ _ _ _
    refine r_goto (pc := 45) 14 dX8_insertChild_45 (by decide) ?_
    cases hf
    exact gW.weak (by simp [gle]) hk
def F_X8_insertChild (S : pS) (a0 : Nat) (a1 : Int32) (a2 : Int32) (a3 : Int32) : Option (pS) := (oF S a0 8).bind fun _ => (oGA S a0 8 0).bind fun x1 => (oAI S x1 .int a1).bind fun x3 => (iter (F_X8_insertChild_14 a0 a1 a2 a3 (a1 * (12 : Int32))) fu (x3, S)).bind fun r13 => (oGA r13 a0 8 1).bind fun x15 => (oSI r13 x15 .int ((a1 * (12 : Int32)) + a2) a3).bind fun S17 => (oGA S17 a0 8 0).bind fun x19 => (oAI S17 x19 .int a1).bind fun x21 => (oSI S17 x19 .int a1 (x21 + (1 : Int32))).bind fun S23 => some S23
set_option maxRecDepth 100000 in
set_option maxHeartbeats 4000000 in
theorem C_X8_insertChild {X : pX} {Q : pO → Nat → pF → Prop} (S : pS) (a0 : Nat) (a1 : Int32) (a2 : Int32) (a3 : Int32) (r : pS) (hf : F_X8_insertChild S a0 a1 a2 a3 = some r) (hk : Q (.inl none) r.1 r.2) : gC X mX8_insertChild [.ref a0, .int a1, .int a2, .int a3] S.1 S.2 Q 0 0 := by
  refine gC_of (by decide) (Nat.le_of_ble_eq_true rfl) ?_
  change gW _ _ _ [some (.ref a0), some (.int a1), some (.int a2), some (.int a3), none, none] _ _ _ _ _ _
  unfold F_X8_insertChild at hf
  obtain ⟨_, _, hf⟩ := obind hf
  refine r_iload_n (pc := 0) dX8_insertChild_0 rfl ?_
  refine r_bipush (pc := 1) (12 : Int32) dX8_insertChild_1 (by decide) ?_
  refine r_imul (pc := 3) dX8_insertChild_3 ?_
  refine r_istore (pc := 4) dX8_insertChild_4 (by decide) ?_
  change gW _ _ _ [some (.ref a0), some (.int a1), some (.int a2), some (.int a3), some (.int (a1 * (12 : Int32))), none] _ _ _ _ _ _
  refine r_aload_n (pc := 6) dX8_insertChild_6 rfl ?_
  obtain ⟨x1, e2, hf⟩ := obind hf
  refine q_getA (pc := 7) dX8_insertChild_7 gX8_9 e2 ?_
  refine r_iload_n (pc := 10) dX8_insertChild_10 rfl ?_
  obtain ⟨x3, e4, hf⟩ := obind hf
  refine q_iald (pc := 11) dX8_insertChild_11 e4 ?_
  refine r_istore (pc := 12) dX8_insertChild_12 (by decide) ?_
  change gW _ _ _ [some (.ref a0), some (.int a1), some (.int a2), some (.int a3), some (.int (a1 * (12 : Int32))), some (.int x3)] _ _ _ _ _ _
  obtain ⟨r13, e14, hf⟩ := obind hf
  refine gW.weak (ls' := [some (.ref a0), some (.int a1), some (.int a2), some (.int a3), some (.int (a1 * (12 : Int32))), some (.int x3)]) (by simp [gle]) ?_
  refine g_iter (L := L_X8_insertChild_14 a0 a1 a2 a3 (a1 * (12 : Int32))) (s := s_X8_insertChild_14 a0 a1 a2 a3 (a1 * (12 : Int32))) (K := K_X8_insertChild_14 X Q _ _ a0 a1 a2 a3 (a1 * (12 : Int32))) (W_X8_insertChild_14 a0 a1 a2 a3 (a1 * (12 : Int32))) fu (x3, S) _ e14 ?_
  show gW _ _ 48 [some (.ref a0), some (.int a1), some (.int a2), some (.int a3), some (.int (a1 * (12 : Int32))), none] [] r13.1 r13.2 _ _ _
  refine r_aload_n (pc := 48) dX8_insertChild_48 rfl ?_
  obtain ⟨x15, e16, hf⟩ := obind hf
  refine q_getA (pc := 49) dX8_insertChild_49 gX8_15 e16 ?_
  refine r_iload (pc := 52) dX8_insertChild_52 rfl ?_
  refine r_iload_n (pc := 54) dX8_insertChild_54 rfl ?_
  refine r_iadd (pc := 55) dX8_insertChild_55 ?_
  refine r_iload_n (pc := 56) dX8_insertChild_56 rfl ?_
  obtain ⟨S17, e18, hf⟩ := obind hf
  refine q_iast (pc := 57) dX8_insertChild_57 e18 ?_
  refine r_aload_n (pc := 58) dX8_insertChild_58 rfl ?_
  obtain ⟨x19, e20, hf⟩ := obind hf
  refine q_getA (pc := 59) dX8_insertChild_59 gX8_9 e20 ?_
  refine r_iload_n (pc := 62) dX8_insertChild_62 rfl ?_
  refine r_dup2 (pc := 63) dX8_insertChild_63 rfl rfl ?_
  obtain ⟨x21, e22, hf⟩ := obind hf
  refine q_iald (pc := 64) dX8_insertChild_64 e22 ?_
  refine r_iconst (pc := 65) (1 : Int32) dX8_insertChild_65 (by decide) ?_
  refine r_iadd (pc := 66) dX8_insertChild_66 ?_
  obtain ⟨S23, e24, hf⟩ := obind hf
  refine q_iast (pc := 67) dX8_insertChild_67 e24 ?_
  refine r_return (pc := 68) dX8_insertChild_68 rfl ?_
  cases hf
  exact hk
abbrev L_X8_removeChild_18 (l0 : Nat) (l1 : Int32) (l3 : Int32) : Int32 × pS → List (Option Value) := fun a => [some (.ref l0), some (.int l1), none, some (.int l3), some (.int a.1)]
abbrev s_X8_removeChild_18 (l0 : Nat) (l1 : Int32) (l3 : Int32) : Int32 × pS → pS := fun a => a.2
abbrev K_X8_removeChild_18 (X : pX) (Q : pO → Nat → pF → Prop) (mc ms : Nat) (l0 : Nat) (l1 : Int32) (l3 : Int32) : pS → Prop := (fun b => gW X mX8_removeChild 55 [some (.ref l0), some (.int l1), none, some (.int l3), none] [] b.1 b.2 Q mc ms)
def F_X8_removeChild_18 (l0 : Nat) (l1 : Int32) (l3 : Int32) : Int32 × pS → Option ((Int32 × pS) ⊕ (pS)) := fun a => (oGA a.2 l0 8 0).bind fun x7 => (oAI a.2 x7 .int l1).bind fun x9 => if x9 ≤ a.1 then (some (.inr a.2)) else ((oGA a.2 l0 8 1).bind fun x11 => (oGA a.2 l0 8 1).bind fun x13 => (oAI a.2 x13 .int ((l3 + a.1) + (1 : Int32))).bind fun x15 => (oSI a.2 x11 .int (l3 + a.1) x15).bind fun S17 => some (.inl (a.1 + (1 : Int32), S17)))
set_option maxRecDepth 100000 in
set_option maxHeartbeats 4000000 in
theorem W_X8_removeChild_18 {X : pX} {Q : pO → Nat → pF → Prop} {mc ms : Nat} (l0 : Nat) (l1 : Int32) (l3 : Int32) : ∀ (a : Int32 × pS) (r : (Int32 × pS) ⊕ (pS)), F_X8_removeChild_18 l0 l1 l3 a = some r → Sum.elim (fun a' => gW X mX8_removeChild 18 (L_X8_removeChild_18 l0 l1 l3 a') [] (s_X8_removeChild_18 l0 l1 l3 a').1 (s_X8_removeChild_18 l0 l1 l3 a').2 Q mc ms) (K_X8_removeChild_18 X Q mc ms l0 l1 l3) r → gW X mX8_removeChild 18 (L_X8_removeChild_18 l0 l1 l3 a) [] (s_X8_removeChild_18 l0 l1 l3 a).1 (s_X8_removeChild_18 l0 l1 l3 a).2 Q mc ms := by
  intro a r hf hk
  obtain ⟨l4, S⟩ := a
  unfold F_X8_removeChild_18 at hf
  try dsimp only at hf
  change gW _ _ _ [some (.ref l0), some (.int l1), none, some (.int l3), some (.int l4)] _ S.1 S.2 _ _ _
  refine r_iload (pc := 18) dX8_removeChild_18 rfl ?_
  refine r_aload_n (pc := 20) dX8_removeChild_20 rfl ?_
  obtain ⟨x7, e8, hf⟩ := obind hf
  refine q_getA (pc := 21) dX8_removeChild_21 gX8_9 e8 ?_
  refine r_iload_n (pc := 24) dX8_removeChild_24 rfl ?_
  obtain ⟨x9, e10, hf⟩ := obind hf
  refine q_iald (pc := 25) dX8_removeChild_25 e10 ?_
  refine r_icmp_ge (pc := 26) 55 dX8_removeChild_26 (by decide) (fun hc => ?_) (fun hc => ?_)
  · rw [if_pos hc] at hf
    cases hf
    exact gW.weak (by simp [gle]) hk
  · rw [if_neg hc] at hf
    refine r_aload_n (pc := 29) dX8_removeChild_29 rfl ?_
    obtain ⟨x11, e12, hf⟩ := obind hf
    refine q_getA (pc := 30) dX8_removeChild_30 gX8_15 e12 ?_
    refine r_iload_n (pc := 33) dX8_removeChild_33 rfl ?_
    refine r_iload (pc := 34) dX8_removeChild_34 rfl ?_
    refine r_iadd (pc := 36) dX8_removeChild_36 ?_
    refine r_aload_n (pc := 37) dX8_removeChild_37 rfl ?_
    obtain ⟨x13, e14, hf⟩ := obind hf
    refine q_getA (pc := 38) dX8_removeChild_38 gX8_15 e14 ?_
    refine r_iload_n (pc := 41) dX8_removeChild_41 rfl ?_
    refine r_iload (pc := 42) dX8_removeChild_42 rfl ?_
    refine r_iadd (pc := 44) dX8_removeChild_44 ?_
    refine r_iconst (pc := 45) (1 : Int32) dX8_removeChild_45 (by decide) ?_
    refine r_iadd (pc := 46) dX8_removeChild_46 ?_
    obtain ⟨x15, e16, hf⟩ := obind hf
    refine q_iald (pc := 47) dX8_removeChild_47 e16 ?_
    obtain ⟨S17, e18, hf⟩ := obind hf
    refine q_iast (pc := 48) dX8_removeChild_48 e18 ?_
    refine r_iinc (pc := 49) dX8_removeChild_49 rfl (by decide) ?_
    change gW _ _ _ [some (.ref l0), some (.int l1), none, some (.int l3), some (.int (l4 + (1 : Int32)))] _ _ _ _ _ _
    refine r_goto (pc := 52) 18 dX8_removeChild_52 (by decide) ?_
    cases hf
    exact gW.weak (by simp [gle]) hk
def F_X8_removeChild (S : pS) (a0 : Nat) (a1 : Int32) (a2 : Int32) : Option (pS) := (oF S a0 8).bind fun _ => (oGA S a0 8 0).bind fun x1 => (oAI S x1 .int a1).bind fun x3 => (oSI S x1 .int a1 (x3 - (1 : Int32))).bind fun S5 => (iter (F_X8_removeChild_18 a0 a1 (a1 * (12 : Int32))) fu (a2, S5)).bind fun r19 => some r19
set_option maxRecDepth 100000 in
set_option maxHeartbeats 4000000 in
theorem C_X8_removeChild {X : pX} {Q : pO → Nat → pF → Prop} (S : pS) (a0 : Nat) (a1 : Int32) (a2 : Int32) (r : pS) (hf : F_X8_removeChild S a0 a1 a2 = some r) (hk : Q (.inl none) r.1 r.2) : gC X mX8_removeChild [.ref a0, .int a1, .int a2] S.1 S.2 Q 0 0 := by
  refine gC_of (by decide) (Nat.le_of_ble_eq_true rfl) ?_
  change gW _ _ _ [some (.ref a0), some (.int a1), some (.int a2), none, none] _ _ _ _ _ _
  unfold F_X8_removeChild at hf
  obtain ⟨_, _, hf⟩ := obind hf
  refine r_iload_n (pc := 0) dX8_removeChild_0 rfl ?_
  refine r_bipush (pc := 1) (12 : Int32) dX8_removeChild_1 (by decide) ?_
  refine r_imul (pc := 3) dX8_removeChild_3 ?_
  refine r_istore_n (pc := 4) dX8_removeChild_4 (by decide) ?_
  change gW _ _ _ [some (.ref a0), some (.int a1), some (.int a2), some (.int (a1 * (12 : Int32))), none] _ _ _ _ _ _
  refine r_aload_n (pc := 5) dX8_removeChild_5 rfl ?_
  obtain ⟨x1, e2, hf⟩ := obind hf
  refine q_getA (pc := 6) dX8_removeChild_6 gX8_9 e2 ?_
  refine r_iload_n (pc := 9) dX8_removeChild_9 rfl ?_
  refine r_dup2 (pc := 10) dX8_removeChild_10 rfl rfl ?_
  obtain ⟨x3, e4, hf⟩ := obind hf
  refine q_iald (pc := 11) dX8_removeChild_11 e4 ?_
  refine r_iconst (pc := 12) (1 : Int32) dX8_removeChild_12 (by decide) ?_
  refine r_isub (pc := 13) dX8_removeChild_13 ?_
  obtain ⟨S5, e6, hf⟩ := obind hf
  refine q_iast (pc := 14) dX8_removeChild_14 e6 ?_
  refine r_iload_n (pc := 15) dX8_removeChild_15 rfl ?_
  refine r_istore (pc := 16) dX8_removeChild_16 (by decide) ?_
  change gW _ _ _ [some (.ref a0), some (.int a1), some (.int a2), some (.int (a1 * (12 : Int32))), some (.int a2)] _ _ _ _ _ _
  obtain ⟨r19, e20, hf⟩ := obind hf
  refine gW.weak (ls' := [some (.ref a0), some (.int a1), none, some (.int (a1 * (12 : Int32))), some (.int a2)]) (by simp [gle]) ?_
  refine g_iter (L := L_X8_removeChild_18 a0 a1 (a1 * (12 : Int32))) (s := s_X8_removeChild_18 a0 a1 (a1 * (12 : Int32))) (K := K_X8_removeChild_18 X Q _ _ a0 a1 (a1 * (12 : Int32))) (W_X8_removeChild_18 a0 a1 (a1 * (12 : Int32))) fu (a2, S5) _ e20 ?_
  show gW _ _ 55 [some (.ref a0), some (.int a1), none, some (.int (a1 * (12 : Int32))), none] [] r19.1 r19.2 _ _ _
  refine r_return (pc := 55) dX8_removeChild_55 rfl ?_
  cases hf
  exact hk
abbrev L_X8_countParents_4 (l0 : Nat) (l1 : Int32) (S : pS) : Int32 × Int32 → List (Option Value) := fun a => [some (.ref l0), some (.int l1), some (.int a.1), some (.int a.2)]
abbrev s_X8_countParents_4 (l0 : Nat) (l1 : Int32) (S : pS) : Int32 × Int32 → pS := fun a => S
abbrev K_X8_countParents_4 (X : pX) (Q : pO → Nat → pF → Prop) (mc ms : Nat) (l0 : Nat) (l1 : Int32) (S : pS) : Int32 → Prop := (fun b => gW X mX8_countParents 41 [some (.ref l0), some (.int l1), some (.int b), none] [] S.1 S.2 Q mc ms)
def F_X8_countParents_32 (l0 : Nat) (l1 : Int32) (S : pS) (l3 : Int32) (t0 : Int32) : Option ((Int32 × Int32) ⊕ (Int32)) := some (.inl (t0 + (0 : Int32), l3 + (1 : Int32)))
set_option maxRecDepth 100000 in
set_option maxHeartbeats 4000000 in
theorem W_X8_countParents_32 {X : pX} {Q : pO → Nat → pF → Prop} {mc ms : Nat} (l0 : Nat) (l1 : Int32) (S : pS) (l3 : Int32) (t0 : Int32) (r : (Int32 × Int32) ⊕ (Int32)) (hf : F_X8_countParents_32 l0 l1 S l3 t0 = some r) (hk : Sum.elim (fun a' => gW X mX8_countParents 4 (L_X8_countParents_4 l0 l1 S a') [] (s_X8_countParents_4 l0 l1 S a').1 (s_X8_countParents_4 l0 l1 S a').2 Q mc ms) (K_X8_countParents_4 X Q mc ms l0 l1 S) r) : gW X mX8_countParents 32 [some (.ref l0), some (.int l1), none, some (.int l3)] [.int t0] S.1 S.2 Q mc ms := by
  unfold F_X8_countParents_32 at hf
  refine r_iconst (pc := 32) (0 : Int32) dX8_countParents_32 (by decide) ?_
  refine r_iadd (pc := 33) dX8_countParents_33 ?_
  refine r_istore_n (pc := 34) dX8_countParents_34 (by decide) ?_
  change gW _ _ _ [some (.ref l0), some (.int l1), some (.int (t0 + (0 : Int32))), some (.int l3)] _ _ _ _ _ _
  refine r_iinc (pc := 35) dX8_countParents_35 rfl (by decide) ?_
  change gW _ _ _ [some (.ref l0), some (.int l1), some (.int (t0 + (0 : Int32))), some (.int (l3 + (1 : Int32)))] _ _ _ _ _ _
  refine r_goto (pc := 38) 4 dX8_countParents_38 (by decide) ?_
  cases hf
  exact gW.weak (by simp [gle]) hk
def F_X8_countParents_4 (l0 : Nat) (l1 : Int32) (S : pS) : Int32 × Int32 → Option ((Int32 × Int32) ⊕ (Int32)) := fun a => if (61 : Int32) ≤ a.2 then (some (.inr a.1)) else ((F_X8_holds S l0 a.2).bind fun q1 => if q1 = 0 then (F_X8_countParents_32 l0 l1 S a.2 a.1) else ((F_X8_hasChild S l0 a.2 l1).bind fun q3 => if q3 = 0 then (F_X8_countParents_32 l0 l1 S a.2 a.1) else (some (.inl (a.1 + (1 : Int32), a.2 + (1 : Int32))))))
set_option maxRecDepth 100000 in
set_option maxHeartbeats 4000000 in
theorem W_X8_countParents_4 {X : pX} {Q : pO → Nat → pF → Prop} {mc ms : Nat} (l0 : Nat) (l1 : Int32) (S : pS) : ∀ (a : Int32 × Int32) (r : (Int32 × Int32) ⊕ (Int32)), F_X8_countParents_4 l0 l1 S a = some r → Sum.elim (fun a' => gW X mX8_countParents 4 (L_X8_countParents_4 l0 l1 S a') [] (s_X8_countParents_4 l0 l1 S a').1 (s_X8_countParents_4 l0 l1 S a').2 Q mc ms) (K_X8_countParents_4 X Q mc ms l0 l1 S) r → gW X mX8_countParents 4 (L_X8_countParents_4 l0 l1 S a) [] (s_X8_countParents_4 l0 l1 S a).1 (s_X8_countParents_4 l0 l1 S a).2 Q mc ms := by
  intro a r hf hk
  obtain ⟨l2, l3⟩ := a
  unfold F_X8_countParents_4 at hf
  try dsimp only at hf
  change gW _ _ _ [some (.ref l0), some (.int l1), some (.int l2), some (.int l3)] _ S.1 S.2 _ _ _
  refine r_iload_n (pc := 4) dX8_countParents_4 rfl ?_
  refine r_bipush (pc := 5) (61 : Int32) dX8_countParents_5 (by decide) ?_
  refine r_icmp_ge (pc := 7) 41 dX8_countParents_7 (by decide) (fun hc => ?_) (fun hc => ?_)
  · rw [if_pos hc] at hf
    cases hf
    exact gW.weak (by simp [gle]) hk
  · rw [if_neg hc] at hf
    refine r_iload_n (pc := 10) dX8_countParents_10 rfl ?_
    refine r_aload_n (pc := 11) dX8_countParents_11 rfl ?_
    refine r_iload_n (pc := 12) dX8_countParents_12 rfl ?_
    obtain ⟨q1, e2, hf⟩ := obind hf
    refine q_callV (pc := 13) (v := some (.int q1)) (S' := S) mX8_holds 8 [.int l3] dX8_countParents_13 kX8_75 fX8_holds iX8_holds ⟨by decide, by decide⟩ rfl rfl rfl (Nat.le_of_ble_eq_true rfl) (og e2) (mc1 := 0) (ms1 := 0) (mc2 := mc) (ms2 := ms) (by omega) (by omega) (C_X8_holds S l0 l3 q1 e2 (qR_mk _ _)) ?_
    change gW _ _ _ _ (.int q1 :: _) _ _ _ _ _
    refine r_if_eq (pc := 16) 32 dX8_countParents_16 (by decide) (fun hc => ?_) (fun hc => ?_)
    · rw [if_pos hc] at hf
      exact gW.weak (by simp [gle]) (W_X8_countParents_32 l0 l1 S l3 l2 r hf hk)
    · rw [if_neg hc] at hf
      refine r_aload_n (pc := 19) dX8_countParents_19 rfl ?_
      refine r_iload_n (pc := 20) dX8_countParents_20 rfl ?_
      refine r_iload_n (pc := 21) dX8_countParents_21 rfl ?_
      obtain ⟨q3, e4, hf⟩ := obind hf
      refine q_callV (pc := 22) (v := some (.int q3)) (S' := S) mX8_hasChild 8 [.int l3, .int l1] dX8_countParents_22 kX8_79 fX8_hasChild iX8_hasChild ⟨by decide, by decide⟩ rfl rfl rfl (Nat.le_of_ble_eq_true rfl) (og e4) (mc1 := 0) (ms1 := 0) (mc2 := mc) (ms2 := ms) (by omega) (by omega) (C_X8_hasChild S l0 l3 l1 q3 e4 (qR_mk _ _)) ?_
      change gW _ _ _ _ (.int q3 :: _) _ _ _ _ _
      refine r_if_eq (pc := 25) 32 dX8_countParents_25 (by decide) (fun hc => ?_) (fun hc => ?_)
      · rw [if_pos hc] at hf
        exact gW.weak (by simp [gle]) (W_X8_countParents_32 l0 l1 S l3 l2 r hf hk)
      · rw [if_neg hc] at hf
        refine r_iconst (pc := 28) (1 : Int32) dX8_countParents_28 (by decide) ?_
        refine r_goto (pc := 29) 33 dX8_countParents_29 (by decide) ?_
        refine r_iadd (pc := 33) dX8_countParents_33 ?_
        refine r_istore_n (pc := 34) dX8_countParents_34 (by decide) ?_
        change gW _ _ _ [some (.ref l0), some (.int l1), some (.int (l2 + (1 : Int32))), some (.int l3)] _ _ _ _ _ _
        refine r_iinc (pc := 35) dX8_countParents_35 rfl (by decide) ?_
        change gW _ _ _ [some (.ref l0), some (.int l1), some (.int (l2 + (1 : Int32))), some (.int (l3 + (1 : Int32)))] _ _ _ _ _ _
        refine r_goto (pc := 38) 4 dX8_countParents_38 (by decide) ?_
        cases hf
        exact gW.weak (by simp [gle]) hk
def F_X8_countParents (S : pS) (a0 : Nat) (a1 : Int32) : Option (Int32) := (oF S a0 8).bind fun _ => (iter (F_X8_countParents_4 a0 a1 S) fu ((0 : Int32), (0 : Int32))).bind fun r5 => some r5
set_option maxRecDepth 100000 in
set_option maxHeartbeats 4000000 in
theorem C_X8_countParents {X : pX} {Q : pO → Nat → pF → Prop} (S : pS) (a0 : Nat) (a1 : Int32) (r : Int32) (hf : F_X8_countParents S a0 a1 = some r) (hk : Q (.inl (some (.int r))) S.1 S.2) : gC X mX8_countParents [.ref a0, .int a1] S.1 S.2 Q 0 0 := by
  refine gC_of (by decide) (Nat.le_of_ble_eq_true rfl) ?_
  change gW _ _ _ [some (.ref a0), some (.int a1), none, none] _ _ _ _ _ _
  unfold F_X8_countParents at hf
  obtain ⟨_, _, hf⟩ := obind hf
  refine r_iconst (pc := 0) (0 : Int32) dX8_countParents_0 (by decide) ?_
  refine r_istore_n (pc := 1) dX8_countParents_1 (by decide) ?_
  change gW _ _ _ [some (.ref a0), some (.int a1), some (.int (0 : Int32)), none] _ _ _ _ _ _
  refine r_iconst (pc := 2) (0 : Int32) dX8_countParents_2 (by decide) ?_
  refine r_istore_n (pc := 3) dX8_countParents_3 (by decide) ?_
  change gW _ _ _ [some (.ref a0), some (.int a1), some (.int (0 : Int32)), some (.int (0 : Int32))] _ _ _ _ _ _
  obtain ⟨r5, e6, hf⟩ := obind hf
  refine gW.weak (ls' := [some (.ref a0), some (.int a1), some (.int (0 : Int32)), some (.int (0 : Int32))]) (by simp [gle]) ?_
  refine g_iter (L := L_X8_countParents_4 a0 a1 S) (s := s_X8_countParents_4 a0 a1 S) (K := K_X8_countParents_4 X Q _ _ a0 a1 S) (W_X8_countParents_4 a0 a1 S) fu ((0 : Int32), (0 : Int32)) _ e6 ?_
  show gW _ _ 41 [some (.ref a0), some (.int a1), some (.int r5), none] [] S.1 S.2 _ _ _
  refine r_iload_n (pc := 41) dX8_countParents_41 rfl ?_
  refine r_ireturn (pc := 42) .int dX8_countParents_42 rfl rfl ?_
  cases hf
  exact hk
